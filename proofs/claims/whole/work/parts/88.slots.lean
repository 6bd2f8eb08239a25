/-! slots: kept and gone on from -/
theorem fz_z_nI {b : Nat} (h : b ≤ 1) : fz_z (nI b) = nI b := by
  rcases (show b = 0 ∨ b = 1 by omega) with rfl | rfl <;> rfl
theorem cS_cp {k k0 nP : Nat} {S : fz_A2} {sp : Int32} {M M' : fz_M} (h : cS k0 nP S sp M) (hn : nP ≤ 6) (hS : ∀ p, p < nP → S 3 p ≤ 8) (e0 : M'.1 k 0 = M.1 k0 0) (e : ∀ p, p < 6 → M'.1 (k + 1) p = M.1 (k0 + 1) p ∧ M'.1 (k + 2) p = M.1 (k0 + 2) p ∧ M'.1 (k + 3) p = M.1 (k0 + 3) p ∧ M'.1 (k + 4) p = M.1 (k0 + 4) p ∧ ∀ j, j < 8 → M'.1 (k + 6 + p) j = M.1 (k0 + 6 + p) j) : cS k nP S sp M' := by
  refine ⟨e0.trans h.1, fun p hp => ?_⟩
  obtain ⟨a1, a2, a3, a4, a5⟩ := e p (by omega)
  obtain ⟨b1, b2, b3, b4, b5⟩ := h.2 p hp
  exact ⟨a1.trans b1, a2.trans b2, a3.trans b3, a4.trans b4, fun i hi => (a5 i (by have := hS p hp; omega)).trans (b5 i hi)⟩
theorem mP_lay {c o nP : Nat} {S : fz_A2} {sp : Int32} {M M' : fz_M} (h : mL nP S sp M) (hn : nP ≤ 6) (hS : ∀ p, p < nP → S 3 p ≤ 8) (e : ∀ p, p < 6 → M'.1 c (o + p) = M.1 11 p ∧ M'.1 c (o + 6 + p) = M.1 12 p ∧ M'.1 c (o + 12 + p) = M.1 14 p ∧ M'.1 c (o + 18 + p) = M.1 15 p) (e2 : ∀ i, i < 48 → M'.1 c (o + 24 + i) = M.1 13 i) (e3 : M'.1 c (o + 72) = M.1 0 21) : mP c o nP S sp M' := by
  refine ⟨e3.trans h.1, fun p hp => ?_⟩
  obtain ⟨a1, a2, a3, a4⟩ := e p (by omega)
  obtain ⟨b1, b2, b3, b4, b5⟩ := h.2 p hp
  exact ⟨a1.trans b1, a2.trans b2, a4.trans b3, a3.trans b4, fun i hi => (e2 _ (by have := hS p hp; omega)).trans (b5 i hi)⟩
theorem mL_take {c o nP : Nat} {S : fz_A2} {sp : Int32} {M M' : fz_M} (h : mP c o nP S sp M) (hn : nP ≤ 6) (hS : ∀ p, p < nP → S 3 p ≤ 8) (e : ∀ p, p < 6 → M'.1 11 p = M.1 c (o + p) ∧ M'.1 12 p = M.1 c (o + 6 + p) ∧ M'.1 14 p = M.1 c (o + 12 + p) ∧ M'.1 15 p = M.1 c (o + 18 + p)) (e2 : ∀ i, i < 48 → M'.1 13 i = M.1 c (o + 24 + i)) (e3 : M'.1 0 21 = M.1 c (o + 72)) : mL nP S sp M' := by
  refine ⟨e3.trans h.1, fun p hp => ?_⟩
  obtain ⟨a1, a2, a3, a4⟩ := e p (by omega)
  obtain ⟨b1, b2, b3, b4, b5⟩ := h.2 p hp
  exact ⟨a1.trans b1, a2.trans b2, a4.trans b3, a3.trans b4, fun i hi => (e2 _ (by have := hS p hp; omega)).trans (b5 i hi)⟩
theorem mP_mv {c o o' nP : Nat} {S : fz_A2} {sp : Int32} {M M' : fz_M} (h : mP c o nP S sp M) (hn : nP ≤ 6) (hS : ∀ p, p < nP → S 3 p ≤ 8) (e : ∀ j, j < 73 → M'.1 c (o' + j) = M.1 c (o + j)) : mP c o' nP S sp M' := by
  refine ⟨(e 72 (by decide)).trans h.1, fun p hp => ?_⟩
  obtain ⟨b1, b2, b3, b4, b5⟩ := h.2 p hp
  refine ⟨(e p (by omega)).trans b1, ?_, ?_, ?_, fun i hi => ?_⟩
  · rw [Nat.add_assoc, e _ (by omega), ← Nat.add_assoc]; exact b2
  · rw [Nat.add_assoc, e _ (by omega), ← Nat.add_assoc]; exact b3
  · rw [Nat.add_assoc, e _ (by omega), ← Nat.add_assoc]; exact b4
  · rw [Nat.add_assoc, e _ (by have := hS p hp; omega), ← Nat.add_assoc]; exact b5 i hi
theorem takeAll_e {k k0 : Nat} (hd : k + 13 ≤ k0 ∨ k0 + 13 ≤ k) (M : fz_M) (hB : ∀ i, i < 10 → ∃ b, b ≤ 1 ∧ M.1 (k0 + 12) i = nI b) : ∃ M', f_X6_takeAll k k0 M = some M' ∧ M'.2 = M.2 ∧ (∀ d, (d < k ∨ k + 13 ≤ d) → M'.1 d = M.1 d) ∧ M'.1 k 0 = M.1 k0 0 ∧ (∀ p, p < 6 → M'.1 (k + 1) p = M.1 (k0 + 1) p ∧ M'.1 (k + 2) p = M.1 (k0 + 2) p ∧ M'.1 (k + 3) p = M.1 (k0 + 3) p ∧ M'.1 (k + 4) p = M.1 (k0 + 4) p ∧ ∀ j, j < 8 → M'.1 (k + 6 + p) j = M.1 (k0 + 6 + p) j) ∧ ∀ i, i < 10 → M'.1 (k + 12) i = M.1 (k0 + 12) i := by
  obtain ⟨M1, q1, q2, q3, q4, q5⟩ := tabs_e hd M
  unfold f_X6_takeAll
  rw [q1, fz_b1_e]
  unfold f_X6_takeAll_7
  refine lp_gen (fun i (s : Int32 × fz_M) => s.1 = nI i ∧ s.2.2 = M.2 ∧ (∀ d, d ≠ k + 12 → s.2.1 d = M1.1 d) ∧ ∀ j, j < i → s.2.1 (k + 12) j = M.1 (k0 + 12) j) 10 ?_ ?_ (by decide) ⟨rfl, q2, fun _ _ => rfl, fun j hj => absurd hj (Nat.not_lt_zero j)⟩
  · rintro i ⟨x, M0⟩ hi ⟨rfl, e2, e3, e4⟩
    dsimp only at e2 e3 e4
    have hin : fz_in (nI i) 10 = true := fz_in_nI hi (by decide)
    have h31 : i < 2 ^ 31 := by omega
    have hlt : ¬ (10 : Int32) ≤ nI i := show ¬ nI 10 ≤ nI i from nI_ge hi (by decide)
    obtain ⟨b, hb, eb⟩ := hB i hi
    have ev : fz_z (M0.1 (k0 + 12) i) = M.1 (k0 + 12) i := by rw [e3 _ (by omega), q3 _ (by omega), eb, fz_z_nI hb]
    refine Or.inl ⟨(nI (i + 1), fz_w M0 (k + 12) i (M.1 (k0 + 12) i)), ⟨rfl, e2, fun d a => ?_, fun j hj => ?_⟩, fun kk => ?_⟩
    · show (fz_w _ _ _ _).1 d = _
      rw [w_ne a]; exact e3 d a
    · show (fz_w _ _ _ _).1 _ j = _
      by_cases hji : j = i
      · subst hji; rw [w_at]
      · rw [w_nj hji]; exact e4 j (by omega)
    · show f_X6_takeAll_7_s k k0 kk (nI i) M0 = _
      simp only [f_X6_takeAll_7_s, hlt, fz_gd_t hin, fz_bd_e, fz_g_nI h31, fz_s_nI h31, ev, nI_1, ↓reduceIte]
  · rintro ⟨x, M0⟩ ⟨rfl, e2, e3, e4⟩
    dsimp only at e2 e3 e4
    refine ⟨M0, ⟨e2, fun d h => ?_, ?_, fun p hp => ?_, e4⟩, fun kk => ?_⟩
    · rw [e3 d (by omega), q3 d (by omega)]
    · rw [e3 k (by omega), q4]
    · rw [e3 (k + 1) (by omega), e3 (k + 2) (by omega), e3 (k + 3) (by omega), e3 (k + 4) (by omega), e3 (k + 6 + p) (by omega)]
      exact q5 p hp
    · show f_X6_takeAll_7_s k k0 kk (nI 10) M0 = _
      simp only [f_X6_takeAll_7_s, show (10 : Int32) ≤ nI 10 from by decide, ↓reduceIte]
theorem keep2_e {s : Nat} (hs : s < 2) (M : fz_M) (hB : ∀ i, i < 10 → ∃ b, b ≤ 1 ∧ M.1 7 i = nI b) : ∃ M', f_X9_keep_38 (nI s) 0 M = some (M.1 0 21, M') ∧ M'.2 = M.2 ∧ (∀ d, d ≠ 27 → M'.1 d = M.1 d) ∧ (∀ j, (j < 10 * s ∨ 10 * s + 10 ≤ j) → M'.1 27 j = M.1 27 j) ∧ ∀ i, i < 10 → M'.1 27 (10 * s + i) = M.1 7 i := by
  unfold f_X9_keep_38
  refine lp_gen (K := fun a => some (M.1 0 21, a)) (fun i (z : Int32 × fz_M) => z.1 = nI i ∧ z.2.2 = M.2 ∧ (∀ d, d ≠ 27 → z.2.1 d = M.1 d) ∧ (∀ j, (j < 10 * s ∨ 10 * s + i ≤ j) → z.2.1 27 j = M.1 27 j) ∧ ∀ j, j < i → z.2.1 27 (10 * s + j) = M.1 7 j) 10 ?_ ?_ (by decide) ⟨rfl, rfl, fun _ _ => rfl, fun _ _ => rfl, fun j hj => absurd hj (Nat.not_lt_zero j)⟩
  · rintro i ⟨x, M0⟩ hi ⟨rfl, e2, e3, e4, e5⟩
    dsimp only at e2 e3 e4 e5
    have hin : fz_in (nI i) 10 = true := fz_in_nI hi (by decide)
    have h31 : i < 2 ^ 31 := by omega
    have hlt : ¬ (10 : Int32) ≤ nI i := show ¬ nI 10 ≤ nI i from nI_ge hi (by decide)
    have ex : (10 : Int32) * nI s + nI i = nI (10 * s + i) := by rw [n_10, nI_mul, nI_add]
    have hin2 : fz_in (nI (10 * s + i)) 20 = true := fz_in_nI (by omega) (by decide)
    have h312 : 10 * s + i < 2 ^ 31 := by omega
    obtain ⟨b, hb, eb⟩ := hB i hi
    have ev : fz_z (M0.1 7 i) = M.1 7 i := by rw [e3 _ (by omega), eb, fz_z_nI hb]
    refine Or.inl ⟨(nI (i + 1), fz_w M0 27 (10 * s + i) (M.1 7 i)), ⟨rfl, e2, fun d a => ?_, fun j hj => ?_, fun j hj => ?_⟩, fun kk => ?_⟩
    · show (fz_w _ _ _ _).1 d = _
      rw [w_ne a]; exact e3 d a
    · show (fz_w _ _ _ _).1 27 j = _
      rw [w_nj (by omega)]; exact e4 j (by omega)
    · show (fz_w _ _ _ _).1 27 _ = _
      by_cases hji : j = i
      · subst hji; rw [w_at]
      · rw [w_nj (by omega)]; exact e5 j (by omega)
    · show f_X9_keep_38_s kk (nI s) (nI i) M0 = _
      simp only [f_X9_keep_38_s, hlt, ex, fz_gd_t hin, fz_gd_t hin2, fz_bd_e, fz_g_nI h31, fz_s_nI h312, ev, nI_1, ↓reduceIte]
  · rintro ⟨x, M0⟩ ⟨rfl, e2, e3, e4, e5⟩
    dsimp only at e2 e3 e4 e5
    refine ⟨M0, ⟨e2, e3, e4, e5⟩, fun kk => ?_⟩
    show f_X9_keep_38_s kk (nI s) (nI 10) M0 = _
    simp only [f_X9_keep_38_s, show (10 : Int32) ≤ nI 10 from by decide, fz_f_e, e3 0 (by decide), ↓reduceIte]
theorem again2_e {s : Nat} (hs : s < 2) (M : fz_M) (hB : ∀ i, i < 10 → ∃ b, b ≤ 1 ∧ M.1 27 (10 * s + i) = nI b) : ∃ M', f_X9_again_43 (nI s) 0 M = some (M.1 0 21, M') ∧ M'.2 = M.2 ∧ (∀ d, d ≠ 7 → d ≠ 0 → M'.1 d = M.1 d) ∧ (∀ j, j ≠ 35 → M'.1 0 j = M.1 0 j) ∧ M'.1 0 35 = 0 ∧ ∀ i, i < 10 → M'.1 7 i = M.1 27 (10 * s + i) := by
  unfold f_X9_again_43
  refine lp_gen (K := fun a => some (M.1 0 21, a)) (fun i (z : Int32 × fz_M) => z.1 = nI i ∧ z.2.2 = M.2 ∧ (∀ d, d ≠ 7 → z.2.1 d = M.1 d) ∧ ∀ j, j < i → z.2.1 7 j = M.1 27 (10 * s + j)) 10 ?_ ?_ (by decide) ⟨rfl, rfl, fun _ _ => rfl, fun j hj => absurd hj (Nat.not_lt_zero j)⟩
  · rintro i ⟨x, M0⟩ hi ⟨rfl, e2, e3, e5⟩
    dsimp only at e2 e3 e5
    have hin : fz_in (nI i) 10 = true := fz_in_nI hi (by decide)
    have h31 : i < 2 ^ 31 := by omega
    have hlt : ¬ (10 : Int32) ≤ nI i := show ¬ nI 10 ≤ nI i from nI_ge hi (by decide)
    have ex : (10 : Int32) * nI s + nI i = nI (10 * s + i) := by rw [n_10, nI_mul, nI_add]
    have hin2 : fz_in (nI (10 * s + i)) 20 = true := fz_in_nI (by omega) (by decide)
    have h312 : 10 * s + i < 2 ^ 31 := by omega
    obtain ⟨b, hb, eb⟩ := hB i hi
    have ev : fz_z (M0.1 27 (10 * s + i)) = M.1 27 (10 * s + i) := by rw [e3 _ (by omega), eb, fz_z_nI hb]
    refine Or.inl ⟨(nI (i + 1), fz_w M0 7 i (M.1 27 (10 * s + i))), ⟨rfl, e2, fun d a => ?_, fun j hj => ?_⟩, fun kk => ?_⟩
    · show (fz_w _ _ _ _).1 d = _
      rw [w_ne a]; exact e3 d a
    · show (fz_w _ _ _ _).1 7 _ = _
      by_cases hji : j = i
      · subst hji; rw [w_at]
      · rw [w_nj (by omega)]; exact e5 j (by omega)
    · show f_X9_again_43_s kk (nI s) (nI i) M0 = _
      simp only [f_X9_again_43_s, hlt, ex, fz_gd_t hin, fz_gd_t hin2, fz_bd_e, fz_g_nI h312, fz_s_nI h31, ev, nI_1, ↓reduceIte]
  · rintro ⟨x, M0⟩ ⟨rfl, e2, e3, e5⟩
    dsimp only at e2 e3 e5
    refine ⟨fz_w M0 0 35 0, ⟨e2, fun d a b => by rw [w_ne b]; exact e3 d a, fun j hj => by rw [w_nj hj, e3 0 (by decide)], w_at, fun i hi => by rw [w_ne (by decide)]; exact e5 i hi⟩, fun kk => ?_⟩
    show f_X9_again_43_s kk (nI s) (nI 10) M0 = _
    simp only [f_X9_again_43_s, show (10 : Int32) ≤ nI 10 from by decide, fz_f_e, fz_sf_e, fz_bd_e, w_nj (show (21 : Nat) ≠ 35 by decide), e3 0 (by decide), ↓reduceIte]
theorem in_01t {s : Nat} (hs : s < 2) (M : fz_M) : f_X9_in (nI s).toInt64 0 1 M = some 1 := by
  rw [in_01, if_pos ⟨nI_pos' (by omega), nI_le (b := 1) (by omega) (by decide)⟩]
theorem in_01f {x : Int32} (hx : x < 0 ∨ nI 2 ≤ x) (M : fz_M) : f_X9_in x.toInt64 0 1 M = some 0 := in_f (n := 2) hx (by decide) M
theorem p_keep (a : Int32) : fz_pW Rel (f_X8_keep a) (f_X9_keep a) := by
  intro MC MM hR
  have hR1 := hR.thrown
  have hR2 := hR1
  generalize hM1 : fz_w MM 0 0 0 = M1 at hR1 hR2
  obtain ⟨P, T, S, sp, B, h1, h2, h3, h4, h5, h6, h7, h8⟩ := hR2
  have hn := h2.2.2.2.2.1
  have hP := rTop_P h1
  have hS : ∀ p, p < T 0 2 → S 3 p ≤ 8 := fun p hp => (h3.2.2 p hp).2.2.2.2
  rcases x_rng a (n := 2) (by decide) with ⟨s, hs, rfl⟩ | hx
  · have hin : fz_in (nI s) 2 = true := fz_in_nI hs (by decide)
    have h31 : s < 2 ^ 31 := by omega
    obtain ⟨C1, a1, a2, a3, a4, a5, a6⟩ := takeAll_e (k := 53 + 13 * s) (k0 := 40) (by omega) MC (fun i hi => ⟨B i, (h4 i hi).2.2, (h4 i hi).1⟩)
    obtain ⟨L1, b1, b2, b3, b4, b5, b6, b7⟩ := lay_e (c := 26) (o := 73 * s) (Or.inr rfl) (by have : fz_pg 26 = 146 := rfl; omega) (fz_w M1 28 s 1)
    have d7 : L1.1 7 = M1.1 7 := by rw [b3 7 (by decide), w_ne (by decide)]
    have d0 : L1.1 0 = M1.1 0 := by rw [b3 0 (by decide), w_ne (by decide)]
    obtain ⟨L2, c1, c2, c3, c4, c5⟩ := keep2_e hs L1 (fun i hi => ⟨B i, (h4 i hi).2.2, by rw [d7]; exact (h4 i hi).2.1⟩)
    have g : ∀ d, d ≠ 26 → d ≠ 27 → d ≠ 28 → L2.1 d = M1.1 d := fun d x y z => by rw [c3 d y, b3 d x, w_ne z]
    have g0 : ∀ j, L2.1 0 j = M1.1 0 j := fun j => by rw [g 0 (by decide) (by decide) (by decide)]
    have gC : ∀ d, d ≠ 19 → (d < 53 + 13 * s ∨ 53 + 13 * s + 13 ≤ d) → (fz_w C1 19 s 1).1 d = MC.1 d := fun d x y => by rw [w_ne x]; exact a3 d y
    have e21 : L1.1 0 21 = sp := by rw [d0]; exact h3.2.1.1
    have e40 : (fz_w C1 19 s 1).1 40 0 = sp := by rw [gC 40 (by decide) (by omega)]; exact h3.1.1
    refine ⟨sp, fz_w C1 19 s 1, L2, ?_, ?_, P, T, S, sp, B, rTop_fr h1 (by show C1.2.2 = _; rw [a2]), ⟨cT_fr h2.1 fun o ho => gC _ (by omega) (by omega), mT_fr h2.2.1 (g0 4) (g0 5) (g0 6) (fun c x y z => g c (by omega) (by omega) (by omega)), h2.2.2⟩, ⟨cS_fr h3.1 hn fun o ho => gC _ (by omega) (by omega), mL_fr h3.2.1 (g0 21) (fun c x y => g c (by omega) (by omega) (by omega)), h3.2.2⟩, rShut_fr h4 (gC 52 (by omega) (by omega)) (g 7 (by decide) (by decide) (by decide)), rActs_fr h5 hn (gC 5 (by omega) (by omega)) (fun c hc => gC c (by omega) (by omega)) (g0 35) (g 25 (by decide) (by decide) (by decide)), ?_, rMark_fr h7 (gC 7 (by omega) (by omega)) (gC 8 (by omega) (by omega)) (gC 9 (by omega) (by omega)) (g0 43) (g 32 (by decide) (by decide) (by decide)) (g 33 (by decide) (by decide) (by decide)), rText_fr h8 (gC 1 (by omega) (by omega)) (gC 2 (by omega) (by omega)) (g0 2) (g 1 (by decide) (by decide) (by decide))⟩
    · simp (decide := true) only [f_X8_keep, nI_pos h31, show nI s < 2 from nI_lt (b := 2) hs (by decide), nI_clamp h31, fz_gd_t hin, a1, fz_b1_e, fz_bd_e, fz_s_nI h31, fz_f_e, show fz_z 1 = 1 from rfl, e40, ↓reduceIte]
    · simp (decide := true) only [f_X9_keep, fz_sf_e, hM1, in_01t hs, fz_gd_t hin, fz_b1_e, fz_bd_e, fz_s_nI h31, show fz_z 1 = 1 from rfl, show (73 : Int32) * nI s = nI (73 * s) from nI_mul 73 s, b1, c1, e21, ↓reduceIte]
    · intro s' hs'
      by_cases hss : s' = s
      · subst hss
        refine ⟨1, by decide, w_at, by rw [c3 28 (by decide), b3 28 (by decide), w_at]; rfl, fun _ => ⟨S, sp, B, ?_, ?_, h3.2.2, fun i hi => ⟨?_, ?_, (h4 i hi).2.2⟩⟩⟩
        · refine cS_cp h3.1 hn hS ?_ fun p hp => ?_
          · rw [w_ne (by omega)]; exact a4
          · rw [w_ne (by omega), w_ne (by omega), w_ne (by omega), w_ne (by omega), w_ne (by omega)]; exact a5 p hp
        · refine mP_fr (mP_lay (M := fz_w M1 28 s' 1) (mL_fr h3.2.1 (by rw [w_ne (by decide)]) (fun c x y => w_ne (by omega))) hn hS b5 b6 b7) (c3 26 (by decide))
        · rw [w_ne (by omega)]; exact (a6 i hi).trans (h4 i hi).1
        · rw [c5 i hi, d7]; exact (h4 i hi).2.1
      · obtain ⟨b, q1, q2, q3, q4⟩ := h6 s' hs'
        refine ⟨b, q1, by rw [w_nj hss, a3 19 (by omega)]; exact q2, by rw [c3 28 (by decide), b3 28 (by decide), w_nj hss]; exact q3, fun hb => ?_⟩
        obtain ⟨S', sp', B', r1, r2, r3, r4⟩ := q4 hb
        have hs'' : s' < s ∨ s < s' := by omega
        refine ⟨S', sp', B', cS_fr r1 hn fun o ho => gC _ (by omega) (by omega), mP_mv r2 hn (fun p hp => (r3 p hp).2.2.2.2) (fun j hj => ?_), r3, fun i hi => ?_⟩
        · rw [c3 26 (by decide), b4 _ (by omega), w_ne (by decide)]
        · rw [gC _ (by omega) (by omega), c4 _ (by omega), b3 27 (by decide), w_ne (by decide)]
          exact r4 i hi
  · refine ⟨-1, MC, M1, ?_, by simp (decide := true) only [f_X9_keep, fz_sf_e, hM1, in_01f hx, fz_b1_e, fz_bd_e, ↓reduceIte], hR1⟩
    by_cases k0 : a < 0
    · simp (decide := true) only [f_X8_keep, k0, ↓reduceIte]
    · have k1 : ¬ a < 2 := Int32.not_lt.mpr (hx.resolve_left k0)
      simp (decide := true) only [f_X8_keep, k0, k1, ↓reduceIte]
theorem p_again (a : Int32) : fz_pW Rel (f_X8_again a) (f_X9_again a) := by
  intro MC MM hR
  have hR1 := hR.thrown
  have hR2 := hR1
  generalize hM1 : fz_w MM 0 0 0 = M1 at hR1 hR2
  obtain ⟨P, T, S, sp, B, h1, h2, h3, h4, h5, h6, h7, h8⟩ := hR2
  have hn := h2.2.2.2.2.1
  have hP := rTop_P h1
  rcases x_rng a (n := 2) (by decide) with ⟨s, hs, rfl⟩ | hx
  · have hin : fz_in (nI s) 2 = true := fz_in_nI hs (by decide)
    have h31 : s < 2 ^ 31 := by omega
    obtain ⟨b, q1, q2, q3, q4⟩ := h6 s hs
    by_cases hb : b = 1
    · subst hb
      obtain ⟨S', sp', B', r1, r2, r3, r4⟩ := q4 rfl
      have hS : ∀ p, p < T 0 2 → S' 3 p ≤ 8 := fun p hp => (r3 p hp).2.2.2.2
      obtain ⟨C1, a1, a2, a3, a4, a5, a6⟩ := takeAll_e (k := 40) (k0 := 53 + 13 * s) (by omega) MC (fun i hi => ⟨B' i, (r4 i hi).2.2, (r4 i hi).1⟩)
      obtain ⟨L1, b1, b2, b3, b4, b5, b6, b7⟩ := take_e (c := 26) (o := 73 * s) (Or.inr rfl) (by have : fz_pg 26 = 146 := rfl; omega) M1
      have d27 : L1.1 27 = M1.1 27 := b3 27 (by decide) (by decide)
      obtain ⟨L2, c1, c2, c3, c4, c5, c6⟩ := again2_e hs L1 (fun i hi => ⟨B' i, (r4 i hi).2.2, by rw [d27]; exact (r4 i hi).2.1⟩)
      have g : ∀ d, d ≠ 0 → d ≠ 7 → (d < 11 ∨ 15 < d) → L2.1 d = M1.1 d := fun d x y z => by rw [c3 d y x, b3 d x z]
      have g0 : ∀ j, j ≠ 21 → j ≠ 35 → L2.1 0 j = M1.1 0 j := fun j x y => by rw [c4 j y, b4 j x]
      have gC : ∀ d, d ≠ 5 → (d < 40 ∨ 53 ≤ d) → (fz_w C1 5 2 0).1 d = MC.1 d := fun d x y => by rw [w_ne x]; exact a3 d (by omega)
      have e21 : L1.1 0 21 = sp' := b7.trans r2.1
      have e40 : (fz_w C1 5 2 0).1 40 0 = sp' := by rw [w_ne (by decide)]; exact a4.trans r1.1
      obtain ⟨nn, f, SS, ss, z1, z2, z3, z4, z5, z6⟩ := h5
      refine ⟨sp', fz_w C1 5 2 0, L2, ?_, ?_, P, T, S', sp', B', rTop_fr h1 (by show C1.2.2 = _; rw [a2]), ⟨cT_fr h2.1 fun o ho => gC _ (by omega) (by omega), mT_fr h2.2.1 (g0 4 (by decide) (by decide)) (g0 5 (by decide) (by decide)) (g0 6 (by decide) (by decide)) (fun c x y z => g c (by omega) (by omega) (by omega)), h2.2.2⟩, ⟨cS_cp r1 hn hS ?_ fun p hp => ?_, ?_, r3⟩, fun i hi => ⟨?_, ?_, (r4 i hi).2.2⟩, ⟨0, f, SS, ss, by decide, z2, w_at, ?_, c5, fun a ha => absurd ha (Nat.not_lt_zero a)⟩, rKept_fr h6 hn (gC 19 (by omega) (by omega)) (fun c x y => gC c (by omega) (by omega)) (g 26 (by decide) (by decide) (by decide)) (g 27 (by decide) (by decide) (by decide)) (g 28 (by decide) (by decide) (by decide)), rMark_fr h7 (gC 7 (by omega) (by omega)) (gC 8 (by omega) (by omega)) (gC 9 (by omega) (by omega)) (g0 43 (by decide) (by decide)) (g 32 (by decide) (by decide) (by decide)) (g 33 (by decide) (by decide) (by decide)), rText_fr h8 (gC 1 (by omega) (by omega)) (gC 2 (by omega) (by omega)) (g0 2 (by decide) (by decide)) (g 1 (by decide) (by decide) (by decide))⟩
      · simp (decide := true) only [f_X8_again, f_X0_forgetAll, nI_pos h31, show nI s < 2 from nI_lt (b := 2) hs (by decide), nI_clamp h31, fz_gd_t hin, fz_g_nI h31, q2, a1, fz_b1_e, fz_bd_e, fz_sf_e, fz_f_e, e40, show ¬ nI 1 = 0 from by decide, ↓reduceIte, not_false_eq_true]
      · simp (decide := true) only [f_X9_again, fz_sf_e, hM1, in_01t hs, fz_gd_t hin, fz_b1_e, fz_bd_e, fz_g_nI h31, q3, show (73 : Int32) * nI s = nI (73 * s) from nI_mul 73 s, b1, c1, e21, show ¬ nI 1 = 0 from by decide, ↓reduceIte, not_false_eq_true]
      · rw [w_ne (by decide)]; exact a4
      · rw [w_ne (by omega), w_ne (by omega), w_ne (by omega), w_ne (by omega), w_ne (by omega)]; exact a5 p hp
      · refine mL_fr (mL_take r2 hn hS b5 b6 b7) (c4 21 (by decide)) (fun c x y => c3 c (by omega) (by omega))
      · rw [w_ne (by decide)]; exact (a6 i hi).trans (r4 i hi).1
      · rw [c6 i hi, d27]; exact (r4 i hi).2.1
      · rw [w_nj (by decide), a3 5 (by omega)]; exact z4
    · have hb0 : b = 0 := by omega
      subst hb0
      exact ⟨-3, MC, M1, by simp (decide := true) only [f_X8_again, nI_pos h31, show nI s < 2 from nI_lt (b := 2) hs (by decide), fz_gd_t hin, fz_g_nI h31, q2, show nI 0 = 0 from rfl, ↓reduceIte], by simp (decide := true) only [f_X9_again, fz_sf_e, hM1, in_01t hs, fz_gd_t hin, fz_b1_e, fz_bd_e, fz_g_nI h31, q3, show nI 0 = 0 from rfl, ↓reduceIte], hR1⟩
  · refine ⟨-1, MC, M1, ?_, by simp (decide := true) only [f_X9_again, fz_sf_e, hM1, in_01f hx, fz_b1_e, fz_bd_e, ↓reduceIte], hR1⟩
    by_cases k0 : a < 0
    · simp (decide := true) only [f_X8_again, k0, ↓reduceIte]
    · have k1 : ¬ a < 2 := Int32.not_lt.mpr (hx.resolve_left k0)
      simp (decide := true) only [f_X8_again, k0, k1, ↓reduceIte]
