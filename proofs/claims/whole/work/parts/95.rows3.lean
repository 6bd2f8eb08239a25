/-! rows -/
theorem wSum_6 {W : Nat → Int64} {a : Nat} (ha : a ≤ 6) (h : ∀ k, a ≤ k → W k = 0) : wSum W 6 = wSum W a := by
  obtain ⟨d, hd⟩ : ∃ d, 6 = a + d := ⟨6 - a, by omega⟩
  have := wSum_out h d
  rw [← hd] at this
  exact this
theorem p_rows (a w : Int32) : fz_pW Rel (f_X8_rows a w) (f_X9_rows a w) := by
  intro MC MM hR
  have hR1 := hR.thrown
  have hR2 := hR1
  generalize hM1 : fz_w MM 0 0 0 = M1 at hR1 hR2
  obtain ⟨P, T, S, sp, B, h1, ⟨hT, hM, hw⟩, h3, h4, h5, h6, ⟨n, m1, m2, m3, m4⟩, h8⟩ := hR2
  have hw0 := hw.1
  rcases x_rng w (n := T 0 0) (by omega) with ⟨h, hh, rfl⟩ | hx
  · by_cases hl : 0 ≤ a ∧ a ≤ 9
    · have t1 := springs_t MC hl
      obtain ⟨m, hm, rfl⟩ := spr_e hl
      obtain ⟨C1, a1, a2, a3, y, z, a4, a5⟩ := sRows_e (P := P) (h := h) (T := T) (by omega) hm m1 MC h1.1 (isP_ok h1) hT hw h1.2.2 m2
      obtain ⟨L1, b1, b2, b3, b4⟩ := lr_e (h := h) (T := T) (by omega) hm m1 M1 m3 hM hw
      rw [← rW_cg m4] at b4
      generalize hW : rW T (MC.1 8) (MC.1 9) n h m = W at a5 b4
      have hout : ∀ k, T 0 0 ≤ k → W k = 0 := fun k hk => by rw [← hW]; exact rW_out hw hh hk m
      have hP : C1.2.2 0 9 = P := by rw [a3]; exact h1.1
      have hP0 : C1.1 P 0 = nI (T 0 0) := by rw [a2]; exact hT.1
      have hs6 : wSum W 6 = wSum W (T 0 0) := wSum_6 hw0 hout
      refine ⟨wSum W (T 0 0), C1, L1, ?_, ?_, hR1.off (fun Q _ => cOff_spr a2 a3) (fun _ => spr_r a4) (mOff_e b2)⟩
      · unfold f_X8_rows
        rw [house_t h1 hT hw hh, fz_b1_e, if_pos (by decide), t1, fz_b1_e, if_pos (by decide), a1, fz_b1_e]
        exact rwC_e hw0 hP (isP_ok h1) hP0 a4 a5
      · unfold f_X9_rows
        rw [fz_sf_e, fz_bd_e, hM1, nohouse_t hM hw hh, fz_b1_e, if_pos rfl, in_09, if_pos hl, fz_b1_e, if_pos (by decide), b1, fz_b1_e]
        rw [rwM_e b4, hs6]
    · exact ⟨-2, MC, M1, by simp (decide := true) only [f_X8_rows, house_t h1 hT hw hh, springs_f MC hl, fz_b1_e, ↓reduceIte], by simp (decide := true) only [f_X9_rows, fz_sf_e, hM1, nohouse_t hM hw hh, fz_b1_e, fz_bd_e, in_09, hl, ↓reduceIte], hR1⟩
  · exact ⟨-1, MC, M1, by simp (decide := true) only [f_X8_rows, house_f h1 hT hw hx, fz_b1_e, ↓reduceIte], by simp (decide := true) only [f_X9_rows, fz_sf_e, hM1, nohouse_f hM hw hx, fz_b1_e, fz_bd_e, ↓reduceIte], hR1⟩
