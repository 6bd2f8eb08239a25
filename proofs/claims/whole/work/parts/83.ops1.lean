theorem p_stream (a w : Int32) : fz_pP Rel (f_X8_stream a w) (f_X9_stream a w) := by
  intro MC MM hR
  have hR1 := hR.thrown
  have hR2 := hR1
  generalize hM1 : fz_w MM 0 0 0 = M1 at hR1 hR2
  obtain ⟨P, T, S, sp, B, h1, ⟨hT, hM, hw⟩, h3, h4, -⟩ := hR2
  have hw2 := hw.2.1
  rcases x_rng a (n := T 0 1) (by omega) with ⟨i, hi, rfl⟩ | hx
  · have hin : fz_in (nI i) 10 = true := fz_in_nI (by omega) (by decide)
    have h31 : i < 2 ^ 31 := by omega
    obtain ⟨a1, a2, a3⟩ := hT.2.2.2.2.1 i hi
    obtain ⟨b1, b2, b3⟩ := hM.2.2.2.2.1 i hi
    obtain ⟨d1, d2, d3⟩ := h4 i (by omega)
    by_cases c0 : w = 0
    · subst c0
      exact ⟨nI (T 3 i), M1, by simp (decide := true) only [f_X8_stream, stream_t h1 hT hw hi, fz_b1_e, fz_bd_e, fz_d_e, h1.1, fz_gd_t (isP_ok h1), fz_gd_t hin, fz_g_nI h31, ↓reduceIte, a1], by simp (decide := true) only [f_X9_stream, fz_sf_e, hM1, nostream_t hM hw hi, fz_b1_e, fz_bd_e, fz_gd_t hin, fz_g_nI h31, ↓reduceIte, b1], hR1⟩
    by_cases c1 : w = 1
    · subst c1
      exact ⟨nI (T 4 i), M1, by simp (decide := true) only [f_X8_stream, stream_t h1 hT hw hi, fz_b1_e, fz_bd_e, fz_d_e, h1.1, fz_gd_t (isP_ok h1), fz_gd_t hin, fz_g_nI h31, ↓reduceIte, a2], by simp (decide := true) only [f_X9_stream, fz_sf_e, hM1, nostream_t hM hw hi, fz_b1_e, fz_bd_e, fz_gd_t hin, fz_g_nI h31, ↓reduceIte, b2], hR1⟩
    by_cases c2 : w = 2
    · subst c2
      exact ⟨nI (T 5 i), M1, by simp (decide := true) only [f_X8_stream, stream_t h1 hT hw hi, fz_b1_e, fz_bd_e, fz_d_e, h1.1, fz_gd_t (isP_ok h1), fz_gd_t hin, fz_g_nI h31, ↓reduceIte, a3], by simp (decide := true) only [f_X9_stream, fz_sf_e, hM1, nostream_t hM hw hi, fz_b1_e, fz_bd_e, fz_gd_t hin, fz_g_nI h31, ↓reduceIte, b3], hR1⟩
    by_cases c3 : w = 3
    · subst c3
      exact ⟨if nI (B i) = 0 then 0 else 1, M1, by simp (decide := true) only [f_X8_stream, stream_t h1 hT hw hi, fz_b1_e, fz_bd_e, fz_d_e, h1.1, fz_gd_t (isP_ok h1), fz_gd_t hin, fz_g_nI h31, ↓reduceIte, d1]; split <;> rfl, by simp (decide := true) only [f_X9_stream, fz_sf_e, hM1, nostream_t hM hw hi, fz_b1_e, fz_bd_e, fz_gd_t hin, fz_g_nI h31, ↓reduceIte, d2]; split <;> rfl, hR1⟩
    exact ⟨-2, M1, by simp (decide := true) only [f_X8_stream, stream_t h1 hT hw hi, fz_b1_e, c0, c1, c2, c3, ↓reduceIte], by simp (decide := true) only [f_X9_stream, fz_sf_e, hM1, nostream_t hM hw hi, fz_b1_e, fz_bd_e, c0, c1, c2, c3, ↓reduceIte], hR1⟩
  · exact ⟨-1, M1, by simp (decide := true) only [f_X8_stream, stream_f h1 hT hw hx, fz_b1_e, ↓reduceIte], by simp (decide := true) only [f_X9_stream, fz_sf_e, hM1, nostream_f hM hw hx, fz_b1_e, fz_bd_e, ↓reduceIte], hR1⟩
theorem p_piece (a w : Int32) : fz_pP Rel (f_X8_piece a w) (f_X9_piece a w) := by
  intro MC MM hR
  have hR1 := hR.thrown
  have hR2 := hR1
  generalize hM1 : fz_w MM 0 0 0 = M1 at hR1 hR2
  obtain ⟨P, T, S, sp, B, h1, ⟨hT, hM, hw⟩, h3, h4, -⟩ := hR2
  have hw2 := hw.2.2.1
  rcases x_rng a (n := T 0 2) (by omega) with ⟨i, hi, rfl⟩ | hx
  · have hin : fz_in (nI i) 6 = true := fz_in_nI (by omega) (by decide)
    have h31 : i < 2 ^ 31 := by omega
    obtain ⟨a1, a2, a3⟩ := hT.2.2.2.2.2 i hi
    obtain ⟨b1, b2, b3⟩ := hM.2.2.2.2.2 i hi
    obtain ⟨e1, e2, e3, e4, -⟩ := h3.1.2 i hi
    obtain ⟨g1, g2, g3, g4, -⟩ := h3.2.1.2 i hi
    by_cases c0 : w = 0
    · subst c0
      exact ⟨nI (S 0 i), M1, by simp (decide := true) only [f_X8_piece, piece_t h1 hT hw hi, fz_b1_e, fz_bd_e, fz_d_e, h1.1, fz_gd_t (isP_ok h1), fz_gd_t hin, fz_g_nI h31, ↓reduceIte, e1], by simp (decide := true) only [f_X9_piece, fz_sf_e, hM1, nopiece_t hM hw hi, fz_b1_e, fz_bd_e, fz_gd_t hin, fz_g_nI h31, ↓reduceIte, g1], hR1⟩
    by_cases c1 : w = 1
    · subst c1
      exact ⟨nI (T 7 i), M1, by simp (decide := true) only [f_X8_piece, piece_t h1 hT hw hi, fz_b1_e, fz_bd_e, fz_d_e, h1.1, fz_gd_t (isP_ok h1), fz_gd_t hin, fz_g_nI h31, ↓reduceIte, a2], by simp (decide := true) only [f_X9_piece, fz_sf_e, hM1, nopiece_t hM hw hi, fz_b1_e, fz_bd_e, fz_gd_t hin, fz_g_nI h31, ↓reduceIte, b2], hR1⟩
    by_cases c2 : w = 2
    · subst c2
      exact ⟨nI (T 8 i), M1, by simp (decide := true) only [f_X8_piece, piece_t h1 hT hw hi, fz_b1_e, fz_bd_e, fz_d_e, h1.1, fz_gd_t (isP_ok h1), fz_gd_t hin, fz_g_nI h31, ↓reduceIte, a3], by simp (decide := true) only [f_X9_piece, fz_sf_e, hM1, nopiece_t hM hw hi, fz_b1_e, fz_bd_e, fz_gd_t hin, fz_g_nI h31, ↓reduceIte, b3], hR1⟩
    by_cases c3 : w = 3
    · subst c3
      exact ⟨nI (S 1 i), M1, by simp (decide := true) only [f_X8_piece, piece_t h1 hT hw hi, fz_b1_e, fz_bd_e, fz_d_e, h1.1, fz_gd_t (isP_ok h1), fz_gd_t hin, fz_g_nI h31, ↓reduceIte, e2], by simp (decide := true) only [f_X9_piece, fz_sf_e, hM1, nopiece_t hM hw hi, fz_b1_e, fz_bd_e, fz_gd_t hin, fz_g_nI h31, ↓reduceIte, g2], hR1⟩
    by_cases c4 : w = 4
    · subst c4
      exact ⟨nI (T 6 i), M1, by simp (decide := true) only [f_X8_piece, piece_t h1 hT hw hi, fz_b1_e, fz_bd_e, fz_d_e, h1.1, fz_gd_t (isP_ok h1), fz_gd_t hin, fz_g_nI h31, ↓reduceIte, a1], by simp (decide := true) only [f_X9_piece, fz_sf_e, hM1, nopiece_t hM hw hi, fz_b1_e, fz_bd_e, fz_gd_t hin, fz_g_nI h31, ↓reduceIte, b1], hR1⟩
    by_cases c5 : w = 5
    · subst c5
      exact ⟨nI (S 2 i), M1, by simp (decide := true) only [f_X8_piece, piece_t h1 hT hw hi, fz_b1_e, fz_bd_e, fz_d_e, h1.1, fz_gd_t (isP_ok h1), fz_gd_t hin, fz_g_nI h31, ↓reduceIte, e3], by simp (decide := true) only [f_X9_piece, fz_sf_e, hM1, nopiece_t hM hw hi, fz_b1_e, fz_bd_e, fz_gd_t hin, fz_g_nI h31, ↓reduceIte, g3], hR1⟩
    exact ⟨-2, M1, by simp (decide := true) only [f_X8_piece, piece_t h1 hT hw hi, fz_b1_e, c0, c1, c2, c3, c4, c5, ↓reduceIte], by simp (decide := true) only [f_X9_piece, fz_sf_e, hM1, nopiece_t hM hw hi, fz_b1_e, fz_bd_e, c0, c1, c2, c3, c4, c5, ↓reduceIte], hR1⟩
  · exact ⟨-1, M1, by simp (decide := true) only [f_X8_piece, piece_f h1 hT hw hx, fz_b1_e, ↓reduceIte], by simp (decide := true) only [f_X9_piece, fz_sf_e, hM1, nopiece_f hM hw hx, fz_b1_e, fz_bd_e, ↓reduceIte], hR1⟩
theorem p_owner (a w : Int32) : fz_pP Rel (f_X8_owner a w) (f_X9_owner a w) := by
  intro MC MM hR
  have hR1 := hR.thrown
  have hR2 := hR1
  generalize hM1 : fz_w MM 0 0 0 = M1 at hR1 hR2
  obtain ⟨P, T, S, sp, B, h1, ⟨hT, hM, hw⟩, h3, h4, -⟩ := hR2
  have hw2 := hw.2.2.1
  rcases x_rng a (n := T 0 2) (by omega) with ⟨i, hi, rfl⟩ | hx
  · have hin : fz_in (nI i) 6 = true := fz_in_nI (by omega) (by decide)
    have h31 : i < 2 ^ 31 := by omega
    obtain ⟨-, -, -, e4, e5⟩ := h3.1.2 i hi
    obtain ⟨-, -, -, g4, g5⟩ := h3.2.1.2 i hi
    have h8 := (h3.2.2 i hi).2.2.2.2
    rcases x_rng w (n := S 3 i) (by omega) with ⟨j, hj, rfl⟩ | hy
    · have hin8 : fz_in (nI j) 8 = true := fz_in_nI (by omega) (by decide)
      have hin48 : fz_in ((8 : Int32) * nI i + nI j) 48 = true := by rw [n_8, nI_mul, nI_add]; exact fz_in_nI (by omega) (by decide)
      have e8 : fz_g M1 13 ((8 : Int32) * nI i + nI j) = M1.1 13 (8 * i + j) := by rw [n_8, nI_mul, nI_add]; exact fz_g_nI (by omega)
      have hlt : nI j < nI (S 3 i) := nI_lt hj (by omega)
      have ez : ¬ nI j < 0 := nI_pos (by omega)
      have et := in_t hj (by omega) M1
      refine ⟨nI (S (4 + i) j), M1, ?_, ?_, hR1⟩
      · simp (decide := true) only [f_X8_owner, piece_t h1 hT hw hi, fz_b1_e, fz_gd_t hin, fz_gd_t hin8, fz_g_nI h31, ↓reduceIte, e4, hlt, ez, nI_clamp h31, Nat.one_mul, fz_g_nI (show j < 2 ^ 31 by omega), e5 j hj]
      · simp (decide := true) only [f_X9_owner, fz_sf_e, hM1, nopiece_t hM hw hi, fz_b1_e, fz_bd_e, fz_gd_t hin, fz_gd_t hin48, fz_g_nI h31, ↓reduceIte, g4, et, e8, g5 j hj]
    · have ef := in_f hy (by omega) M1
      refine ⟨-9, M1, ?_, ?_, hR1⟩
      · by_cases ez : w < 0
        · simp (decide := true) only [f_X8_owner, piece_t h1 hT hw hi, fz_b1_e, ez, ↓reduceIte]
        · have hnl : ¬ w < nI (S 3 i) := Int32.not_lt.mpr (hy.resolve_left ez)
          simp (decide := true) only [f_X8_owner, piece_t h1 hT hw hi, fz_b1_e, fz_gd_t hin, fz_g_nI h31, ↓reduceIte, e4, ez, hnl]
      · simp (decide := true) only [f_X9_owner, fz_sf_e, hM1, nopiece_t hM hw hi, fz_b1_e, fz_bd_e, fz_gd_t hin, fz_g_nI h31, ↓reduceIte, g4, ef]
  · exact ⟨-1, M1, by simp (decide := true) only [f_X8_owner, piece_f h1 hT hw hx, fz_b1_e, ↓reduceIte], by simp (decide := true) only [f_X9_owner, fz_sf_e, hM1, nopiece_f hM hw hx, fz_b1_e, fz_bd_e, ↓reduceIte], hR1⟩
