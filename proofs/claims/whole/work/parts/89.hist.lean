/-! acts: remembered, noted, undone; springs -/
theorem irem12 : ∀ x : Nat, x < 24 → nI x - nI x / 12 * 12 = nI (x % 12) := by decide +kernel
theorem shift_e (M : fz_M) : ∃ M', f_X9_note_11 0 M = f_X9_note_49 (fz_w M' 0 35 ((M.1 0 35) - 1)) ∧ M'.2 = M.2 ∧ (∀ d, d ≠ 25 → M'.1 d = M.1 d) ∧ ∀ j, j < 803 → M'.1 25 j = M.1 25 (j + 73) := by
  unfold f_X9_note_11
  refine lp_gen (K := fun a => f_X9_note_49 (fz_w a 0 35 ((M.1 0 35) - 1))) (fun i (z : Int32 × fz_M) => z.1 = nI i ∧ z.2.2 = M.2 ∧ (∀ d, d ≠ 25 → z.2.1 d = M.1 d) ∧ (∀ j, i ≤ j → z.2.1 25 j = M.1 25 j) ∧ ∀ j, j < i → z.2.1 25 j = M.1 25 (j + 73)) 803 ?_ ?_ (by decide) ⟨rfl, rfl, fun _ _ => rfl, fun _ _ => rfl, fun j hj => absurd hj (Nat.not_lt_zero j)⟩
  · rintro i ⟨x, M0⟩ hi ⟨rfl, e2, e3, e4, e5⟩
    dsimp only at e2 e3 e4 e5
    have hin : fz_in (nI i) 876 = true := fz_in_nI (by omega) (by decide)
    have h31 : i < 2 ^ 31 := by omega
    have hlt : ¬ (803 : Int32) ≤ nI i := show ¬ nI 803 ≤ nI i from nI_ge hi (by decide)
    have ex : nI i + 73 = nI (i + 73) := by rw [show (73 : Int32) = nI 73 from rfl, nI_add]
    have hin2 : fz_in (nI (i + 73)) 876 = true := fz_in_nI (by omega) (by decide)
    have h312 : i + 73 < 2 ^ 31 := by omega
    refine Or.inl ⟨(nI (i + 1), fz_w M0 25 i (M0.1 25 (i + 73))), ⟨rfl, e2, fun d a => ?_, fun j hj => ?_, fun j hj => ?_⟩, fun kk => ?_⟩
    · show (fz_w _ _ _ _).1 d = _
      rw [w_ne a]; exact e3 d a
    · show (fz_w _ _ _ _).1 25 j = _
      rw [w_nj (by omega)]; exact e4 j (by omega)
    · show (fz_w _ _ _ _).1 25 j = _
      by_cases hji : j = i
      · subst hji; rw [w_at]; exact e4 _ (by omega)
      · rw [w_nj (by omega)]; exact e5 j (by omega)
    · show f_X9_note_11_s kk (nI i) M0 = _
      simp only [f_X9_note_11_s, hlt, ex, fz_gd_t hin, fz_gd_t hin2, fz_bd_e, fz_g_nI h312, fz_s_nI h31, nI_1, ↓reduceIte]
  · rintro ⟨x, M0⟩ ⟨rfl, e2, e3, e4, e5⟩
    dsimp only at e2 e3 e4 e5
    refine ⟨M0, ⟨e2, e3, e5⟩, fun kk => ?_⟩
    show f_X9_note_11_s kk (nI 803) M0 = _
    simp only [f_X9_note_11_s, show (803 : Int32) ≤ nI 803 from by decide, fz_bd_e, fz_f_e, fz_sf_e, e3 0 (by decide), ↓reduceIte]
theorem note49_e {n : Nat} (hn : n < 12) (M : fz_M) (h : M.1 0 35 = nI n) : ∃ M', f_X9_note_49 M = some M' ∧ M'.2 = M.2 ∧ (∀ d, d ≠ 0 → d ≠ 25 → M'.1 d = M.1 d) ∧ (∀ j, j ≠ 35 → M'.1 0 j = M.1 0 j) ∧ M'.1 0 35 = nI (n + 1) ∧ (∀ j, j < 73 * n → M'.1 25 j = M.1 25 j) ∧ (∀ p, p < 6 → M'.1 25 (73 * n + p) = M.1 11 p ∧ M'.1 25 (73 * n + 6 + p) = M.1 12 p ∧ M'.1 25 (73 * n + 12 + p) = M.1 14 p ∧ M'.1 25 (73 * n + 18 + p) = M.1 15 p) ∧ (∀ i, i < 48 → M'.1 25 (73 * n + 24 + i) = M.1 13 i) ∧ M'.1 25 (73 * n + 72) = M.1 0 21 := by
  obtain ⟨L1, b1, b2, b3, b4, b5, b6, b7⟩ := lay_e (c := 25) (o := 73 * n) (Or.inl rfl) (by have : fz_pg 25 = 876 := rfl; omega) M
  have e35 : L1.1 0 35 = nI n := by rw [b3 0 (by decide)]; exact h
  refine ⟨fz_w L1 0 35 (nI (n + 1)), ?_, b2, fun d x y => by rw [w_ne x]; exact b3 d y, fun j x => by rw [w_nj x, b3 0 (by decide)], w_at, fun j hj => by rw [w_ne (by decide)]; exact b4 j (by omega), ?_, ?_, ?_⟩
  · simp only [f_X9_note_49, fz_f_e, h, show (73 : Int32) * nI n = nI (73 * n) from nI_mul 73 n, b1, fz_b1_e, fz_bd_e, fz_sf_e, e35, nI_1]
  · intro p hp; rw [w_ne (by decide)]; exact b5 p hp
  · intro p hp; rw [w_ne (by decide)]; exact b6 p hp
  · rw [w_ne (by decide)]; exact b7
theorem rem32_e {n f : Nat} (hn : n < 12) (hf : f < 12) (M : fz_M) (h1 : M.1 5 1 = nI f) (h2 : M.1 5 2 = nI n) : ∃ M', f_X0_remember_32 40 M = some M' ∧ M'.2 = M.2 ∧ (∀ d, d ≠ 5 → (d < 79 + 13 * ((f + n) % 12) ∨ 79 + 13 * ((f + n) % 12) + 12 ≤ d) → M'.1 d = M.1 d) ∧ (∀ j, j ≠ 2 → M'.1 5 j = M.1 5 j) ∧ M'.1 5 2 = nI (n + 1) ∧ M'.1 (79 + 13 * ((f + n) % 12)) 0 = M.1 40 0 ∧ ∀ p, p < 6 → M'.1 (79 + 13 * ((f + n) % 12) + 1) p = M.1 (40 + 1) p ∧ M'.1 (79 + 13 * ((f + n) % 12) + 2) p = M.1 (40 + 2) p ∧ M'.1 (79 + 13 * ((f + n) % 12) + 3) p = M.1 (40 + 3) p ∧ M'.1 (79 + 13 * ((f + n) % 12) + 4) p = M.1 (40 + 4) p ∧ ∀ j, j < 8 → M'.1 (79 + 13 * ((f + n) % 12) + 6 + p) j = M.1 (40 + 6 + p) j := by
  have er : nI f + nI n - (nI f + nI n) / 12 * 12 = nI ((f + n) % 12) := by rw [nI_add]; exact irem12 _ (by omega)
  generalize hi : (f + n) % 12 = i at er ⊢
  have hi12 : i < 12 := by omega
  obtain ⟨M1, q1, q2, q3, q4, q5⟩ := tabs_e (k := 79 + 13 * i) (k0 := 40) (by omega) M
  have hin : fz_in (nI i) 12 = true := fz_in_nI hi12 (by decide)
  have e2 : M1.1 5 2 = nI n := by rw [q3 5 (by omega)]; exact h2
  refine ⟨fz_w M1 5 2 (nI (n + 1)), ?_, q2, fun d x y => by rw [w_ne x]; exact q3 d y, fun j x => by rw [w_nj x, q3 5 (by omega)], w_at, by rw [w_ne (by omega)]; exact q4, fun p hp => ?_⟩
  · simp only [f_X0_remember_32, fz_f_e, h1, h2, er, fz_gd_t hin, nI_clamp (show i < 2 ^ 31 by omega), q1, fz_b1_e, fz_bd_e, fz_sf_e, e2, nI_1]
  · rw [w_ne (by omega), w_ne (by omega), w_ne (by omega), w_ne (by omega), w_ne (by omega)]; exact q5 p hp
/-- an act is remembered on both sides -/
theorem rem_e {T S : fz_A2} {sp : Int32} {MC MM : fz_M} (hn : T 0 2 ≤ 6) (h3 : rNow T S sp MC MM) (h5 : rActs T MC MM) : ∃ C1 L1, f_X0_remember 40 MC = some C1 ∧ f_X9_note MM = some L1 ∧ rActs T C1 L1 ∧ C1.2 = MC.2 ∧ L1.2 = MM.2 ∧ (∀ d, d ≠ 5 → d < 79 → C1.1 d = MC.1 d) ∧ (∀ d, d ≠ 0 → d ≠ 25 → L1.1 d = MM.1 d) ∧ ∀ j, j ≠ 35 → L1.1 0 j = MM.1 0 j := by
  obtain ⟨n, f, SS, ss, z1, z2, z3, z4, z5, z6⟩ := h5
  have hS : ∀ p, p < T 0 2 → S 3 p ≤ 8 := fun p hp => (h3.2.2 p hp).2.2.2.2
  by_cases hc : n = 12
  · subst hc
    obtain ⟨M1, s1, s2, s3, s4⟩ := shift_e MM
    have hf' : (f + 1) % 12 < 12 := Nat.mod_lt _ (by decide)
    have er : nI f + 1 - (nI f + 1) / 12 * 12 = nI ((f + 1) % 12) := by rw [nI_1]; exact irem12 _ (by omega)
    obtain ⟨C0, hC0⟩ : ∃ C0, C0 = fz_w (fz_w MC 5 1 (nI ((f + 1) % 12))) 5 2 (nI 11) := ⟨_, rfl⟩
    have c0 : ∀ d, d ≠ 5 → C0.1 d = MC.1 d := fun d h => by rw [hC0, w_ne h, w_ne h]
    have c51 : C0.1 5 1 = nI ((f + 1) % 12) := by rw [hC0, w_nj (by decide), w_at]
    have c52 : C0.1 5 2 = nI 11 := by rw [hC0, w_at]
    obtain ⟨C1, a1, a2, a3, a4, a5, a6, a7⟩ := rem32_e (n := 11) (by decide) hf' C0 c51 c52
    have ei : ((f + 1) % 12 + 11) % 12 = f := by omega
    rw [ei] at a3 a6 a7
    have l0 : fz_w M1 0 35 (MM.1 0 35 - 1) = fz_w M1 0 35 (nI 11) := by rw [z5]; rfl
    rw [l0] at s1
    obtain ⟨L1, b1, b2, b3, b4, b5, b6, b7, b8, b9⟩ := note49_e (n := 11) (by decide) (fz_w M1 0 35 (nI 11)) w_at
    have m0 : ∀ d, d ≠ 0 → d ≠ 25 → (fz_w M1 0 35 (nI 11)).1 d = MM.1 d := fun d x y => by rw [w_ne x]; exact s3 d y
    have m00 : ∀ j, j ≠ 35 → (fz_w M1 0 35 (nI 11)).1 0 j = MM.1 0 j := fun j x => by rw [w_nj x, s3 0 (by decide)]
    refine ⟨C1, L1, ?_, ?_, ⟨12, (f + 1) % 12, fun a => if a = 11 then S else SS (a + 1), fun a => if a = 11 then sp else ss (a + 1), by decide, hf', a5, by rw [a4 1 (by decide)]; exact c51, b5, fun a ha => ?_⟩, a2.trans (by rw [hC0]; rfl), b2.trans s2, fun d x y => (a3 d x (by omega)).trans (c0 d x), fun d x y => (b3 d x y).trans (m0 d x y), fun j x => (b4 j x).trans (m00 j x)⟩
    · have t : f_X0_remember 40 MC = f_X0_remember_32 40 C0 := by
        simp (decide := true) only [f_X0_remember, fz_f_e, z3, z4, fz_bd_e, fz_sf_e, er, w_nj (show (2 : Nat) ≠ 1 by decide), hC0, show nI 12 - 1 = nI 11 from rfl, ↓reduceIte]
      rw [t]; exact a1
    · have t : f_X9_note MM = f_X9_note_11 0 MM := by
        simp (decide := true) only [f_X9_note, fz_f_e, z5, ↓reduceIte]
      rw [t, s1]; exact b1
    · by_cases ha11 : a = 11
      · subst ha11
        rw [ei]
        dsimp only
        rw [if_pos rfl, if_pos rfl]
        refine ⟨cS_cp h3.1 hn hS (a6.trans (by rw [c0 40 (by decide)])) fun p hp => ?_, ?_, h3.2.2⟩
        · have q := a7 p hp
          rw [c0 _ (by omega), c0 _ (by omega), c0 _ (by omega), c0 _ (by omega), c0 _ (by omega)] at q
          exact q
        · refine mP_lay (M := fz_w M1 0 35 (nI 11)) (mL_fr h3.2.1 (m00 21 (by decide)) (fun c x y => m0 c (by omega) (by omega))) hn hS b7 b8 b9
      · dsimp only
        rw [if_neg ha11, if_neg ha11]
        obtain ⟨q1, q2, q3⟩ := z6 (a + 1) (by omega)
        have ef : ((f + 1) % 12 + a) % 12 = (f + (a + 1)) % 12 := by omega
        have hne : (f + (a + 1)) % 12 ≠ f := by omega
        rw [ef]
        generalize (f + (a + 1)) % 12 = g at q1 hne ⊢
        refine ⟨cS_fr q1 hn fun o ho => ?_, mP_mv q2 hn (fun p hp => (q3 p hp).2.2.2.2) fun j hj => ?_, q3⟩
        · rw [a3 _ (by omega) (by omega), c0 _ (by omega)]
        · rw [b6 _ (by omega), w_ne (by decide), s4 _ (by omega), show 73 * a + j + 73 = 73 * (a + 1) + j from by omega]
  · have hn12 : n < 12 := by omega
    obtain ⟨C1, a1, a2, a3, a4, a5, a6, a7⟩ := rem32_e hn12 z2 MC z4 z3
    obtain ⟨L1, b1, b2, b3, b4, b5, b6, b7, b8, b9⟩ := note49_e hn12 MM z5
    have hne : ¬ nI n = 12 := by rw [n_12, nI_eq (by omega) (by decide)]; exact hc
    refine ⟨C1, L1, ?_, ?_, ⟨n + 1, f, fun a => if a = n then S else SS a, fun a => if a = n then sp else ss a, by omega, z2, a5, by rw [a4 1 (by decide)]; exact z4, b5, fun a ha => ?_⟩, a2, b2, fun d x y => a3 d x (by omega), b3, b4⟩
    · simp (decide := true) only [f_X0_remember, fz_f_e, z3, hne, ↓reduceIte, not_false_eq_true]; exact a1
    · simp (decide := true) only [f_X9_note, fz_f_e, z5, hne, ↓reduceIte, not_false_eq_true]; exact b1
    · by_cases han : a = n
      · subst han
        dsimp only
        rw [if_pos rfl, if_pos rfl]
        exact ⟨cS_cp h3.1 hn hS a6 a7, mP_lay h3.2.1 hn hS b7 b8 b9, h3.2.2⟩
      · dsimp only
        rw [if_neg han, if_neg han]
        obtain ⟨q1, q2, q3⟩ := z6 a (by omega)
        have hne : (f + a) % 12 ≠ (f + n) % 12 := by omega
        generalize (f + a) % 12 = g at q1 hne ⊢
        generalize (f + n) % 12 = g' at a3 hne
        exact ⟨cS_fr q1 hn fun o ho => a3 _ (by omega) (by omega), mP_mv q2 hn (fun p hp => (q3 p hp).2.2.2.2) fun j hj => b6 _ (by omega), q3⟩
theorem p_undo : fz_pW Rel f_X8_undo f_X9_undo := by
  intro MC MM hR
  have hR1 := hR.thrown
  have hR2 := hR1
  generalize hM1 : fz_w MM 0 0 0 = M1 at hR1 hR2
  obtain ⟨P, T, S, sp, B, h1, h2, h3, h4, h5, h6, h7, h8⟩ := hR2
  have hn := h2.2.2.2.2.1
  have hP := rTop_P h1
  obtain ⟨n, f, SS, ss, z1, z2, z3, z4, z5, z6⟩ := h5
  by_cases hc : n = 0
  · subst hc
    exact ⟨-3, MC, M1, by simp (decide := true) only [f_X8_undo, fz_f_e, z3, show nI 0 = 0 from rfl, ↓reduceIte], by simp (decide := true) only [f_X9_undo, fz_sf_e, hM1, fz_bd_e, fz_f_e, z5, show nI 0 = 0 from rfl, ↓reduceIte], hR1⟩
  · obtain ⟨m, rfl⟩ : ∃ m, n = m + 1 := ⟨n - 1, by omega⟩
    have ne0 : ¬ nI (m + 1) = 0 := nI_ne0 (by omega) (by omega)
    have nle : ¬ nI (m + 1) ≤ 0 := nI_nle (by omega) (by omega)
    obtain ⟨q1, q2, q3⟩ := z6 m (by omega)
    have hS : ∀ p, p < T 0 2 → SS m 3 p ≤ 8 := fun p hp => (q3 p hp).2.2.2.2
    have er : nI f + nI m - (nI f + nI m) / 12 * 12 = nI ((f + m) % 12) := by rw [nI_add]; exact irem12 _ (by omega)
    have hi12 : (f + m) % 12 < 12 := Nat.mod_lt _ (by decide)
    generalize hg : (f + m) % 12 = i at er q1 hi12
    have hin : fz_in (nI i) 12 = true := fz_in_nI hi12 (by decide)
    obtain ⟨C1, a1, a2, a3, a4, a5⟩ := tabs_e (k := 40) (k0 := 79 + 13 * i) (by omega) (fz_w MC 5 2 (nI m))
    obtain ⟨L1, b1, b2, b3, b4, b5, b6, b7⟩ := take_e (c := 25) (o := 73 * m) (Or.inl rfl) (by have : fz_pg 25 = 876 := rfl; omega) (fz_w M1 0 35 (nI m))
    have gC : ∀ d, d ≠ 5 → (d < 40 ∨ 52 ≤ d) → C1.1 d = MC.1 d := fun d x y => by rw [a3 d (by omega), w_ne x]
    have g : ∀ d, d ≠ 0 → (d < 11 ∨ 15 < d) → L1.1 d = M1.1 d := fun d x y => by rw [b3 d x y, w_ne x]
    have g0 : ∀ j, j ≠ 21 → j ≠ 35 → L1.1 0 j = M1.1 0 j := fun j x y => by rw [b4 j x, w_nj y]
    have c52 : C1.1 5 2 = nI m := by rw [a3 5 (by decide), w_at]
    have l35 : L1.1 0 35 = nI m := by rw [b4 35 (by decide), w_at]
    refine ⟨nI m, C1, L1, ?_, ?_, P, T, SS m, ss m, B, rTop_fr h1 (by rw [a2]; rfl), ⟨cT_fr h2.1 fun o ho => gC _ (by omega) (by omega), mT_fr h2.2.1 (g0 4 (by decide) (by decide)) (g0 5 (by decide) (by decide)) (g0 6 (by decide) (by decide)) (fun c x y z => g c (by omega) (by omega)), h2.2.2⟩, ⟨cS_cp (M := fz_w MC 5 2 (nI m)) (cS_fr q1 hn fun o ho => w_ne (by omega)) hn hS a4 a5, mL_take (M := fz_w M1 0 35 (nI m)) (mP_fr q2 (w_ne (by decide))) hn hS b5 b6 b7, q3⟩, rShut_fr h4 (gC 52 (by omega) (by omega)) (g 7 (by decide) (by decide)), ⟨m, f, SS, ss, by omega, z2, c52, by rw [a3 5 (by decide), w_nj (by decide)]; exact z4, l35, fun a ha => ?_⟩, rKept_fr h6 hn (gC 19 (by omega) (by omega)) (fun c x y => gC c (by omega) (by omega)) (g 26 (by decide) (by decide)) (g 27 (by decide) (by decide)) (g 28 (by decide) (by decide)), rMark_fr h7 (gC 7 (by omega) (by omega)) (gC 8 (by omega) (by omega)) (gC 9 (by omega) (by omega)) (g0 43 (by decide) (by decide)) (g 32 (by decide) (by decide)) (g 33 (by decide) (by decide)), rText_fr h8 (gC 1 (by omega) (by omega)) (gC 2 (by omega) (by omega)) (g0 2 (by decide) (by decide)) (g 1 (by decide) (by decide))⟩
    · simp (decide := true) only [f_X8_undo, f_X0_takeBack, fz_f_e, z3, ne0, nle, fz_bd_e, fz_sf_e, nI_pred, w_at, w_nj (show (1 : Nat) ≠ 2 by decide), z4, er, fz_gd_t hin, nI_clamp (show i < 2 ^ 31 by omega), a1, fz_b1_e, c52, ↓reduceIte, not_false_eq_true]
    · simp (decide := true) only [f_X9_undo, fz_sf_e, hM1, fz_bd_e, fz_f_e, z5, ne0, nI_pred, w_at, show (73 : Int32) * nI m = nI (73 * m) from nI_mul 73 m, b1, fz_b1_e, l35, ↓reduceIte, not_false_eq_true]
    · obtain ⟨y1, y2, y3⟩ := z6 a (by omega)
      exact ⟨cS_fr y1 hn fun o ho => gC _ (by omega) (by omega), mP_fr y2 (g 25 (by decide) (by decide)), y3⟩
