/-! town: the model takes what it has read -/
theorem tk_h {nH : Nat} {M : fz_M} (hn : nH ≤ 6) (h4 : M.1 0 4 = nI nH) : ∃ a, f_X9_town_43 0 M = f_X9_town_83 0 a ∧ (∀ c, c ≠ 2 → c ≠ 3 → a.1 c = M.1 c) ∧ ∀ j, j < nH → a.1 2 j = M.1 16 j ∧ a.1 3 j = M.1 17 j := by
  have := lp_gen (F := fun ag (z : Int32 × fz_M) => f_X9_town_43_s ag z.1 z.2) (K := fun a => f_X9_town_83 0 a) (Post := fun (a : fz_M) => (∀ c, c ≠ 2 → c ≠ 3 → a.1 c = M.1 c) ∧ ∀ j, j < nH → a.1 2 j = M.1 16 j ∧ a.1 3 j = M.1 17 j)
    (fun i (s : Int32 × fz_M) => s.1 = nI i ∧ (∀ c, c ≠ 2 → c ≠ 3 → s.2.1 c = M.1 c) ∧ ∀ j, j < i → s.2.1 2 j = M.1 16 j ∧ s.2.1 3 j = M.1 17 j) nH ?_ ?_ (fuel := fz_fuel) (by unfold fz_fuel; omega) (s0 := (nI 0, M)) ⟨rfl, fun c _ _ => rfl, fun p hp => absurd hp (Nat.not_lt_zero p)⟩
  · exact this
  · rintro i ⟨x, M0⟩ hi ⟨e0, e3, e5⟩
    dsimp only at e0 e3 e5
    subst e0
    have h31 : i < 2 ^ 31 := by omega
    have hin : fz_in (nI i) 6 = true := fz_in_nI (by omega) (by decide)
    have hlt : ¬ nI nH ≤ nI i := nI_ge hi (by omega)
    have f0 : M0.1 0 4 = nI nH := by rw [e3 0 (by decide) (by decide)]; exact h4
    have f6 : M0.1 16 i = M.1 16 i := by rw [e3 16 (by decide) (by decide)]
    have f7 : M0.1 17 i = M.1 17 i := by rw [e3 17 (by decide) (by decide)]
    refine Or.inl ⟨(nI (i + 1), fz_w (fz_w M0 2 i (M.1 16 i)) 3 i (M.1 17 i)), ⟨rfl, fun c c2 c3 => ?_, fun p hp => ?_⟩, fun kk => ?_⟩
    · dsimp only
      rw [w_ne c3, w_ne c2]; exact e3 c c2 c3
    · dsimp only
      by_cases d : p = i
      · subst d
        simp (disch := decide) only [w_ne, w_at]
        exact ⟨trivial, trivial⟩
      · rw [w_ne (by decide), w_nj d, w_nj d, w_ne (by decide)]; exact e5 p (by omega)
    · show f_X9_town_43_s kk (nI i) M0 = _
      simp (disch := decide) only [f_X9_town_43_s, fz_f_e, f0, hlt, fz_gd_t hin, fz_g_nI h31, f6, fz_bd_e, fz_s_nI h31, w_ne, f7, nI_1, ↓reduceIte]
  · rintro ⟨x, M0⟩ ⟨e0, e3, e5⟩
    dsimp only at e0 e3 e5
    subst e0
    have f0 : M0.1 0 4 = nI nH := by rw [e3 0 (by decide) (by decide)]; exact h4
    refine ⟨M0, ⟨e3, e5⟩, fun kk => ?_⟩
    show f_X9_town_43_s kk (nI nH) M0 = _
    simp only [f_X9_town_43_s, fz_f_e, f0, show nI nH ≤ nI nH from nI_le (Nat.le_refl _) (by omega), ↓reduceIte]
theorem tk_s {M : fz_M} : ∃ a, f_X9_town_83 0 M = f_X9_town_140 0 a ∧ (∀ c, (c < 4 ∨ 7 < c) → a.1 c = M.1 c) ∧ ∀ j, j < 10 → a.1 4 j = M.1 18 j ∧ a.1 5 j = M.1 19 j ∧ a.1 6 j = M.1 20 j ∧ a.1 7 j = 0 := by
  have := lp_gen (F := fun ag (z : Int32 × fz_M) => f_X9_town_83_s ag z.1 z.2) (K := fun a => f_X9_town_140 0 a) (Post := fun (a : fz_M) => (∀ c, (c < 4 ∨ 7 < c) → a.1 c = M.1 c) ∧ ∀ j, j < 10 → a.1 4 j = M.1 18 j ∧ a.1 5 j = M.1 19 j ∧ a.1 6 j = M.1 20 j ∧ a.1 7 j = 0)
    (fun i (s : Int32 × fz_M) => s.1 = nI i ∧ (∀ c, (c < 4 ∨ 7 < c) → s.2.1 c = M.1 c) ∧ ∀ j, j < i → s.2.1 4 j = M.1 18 j ∧ s.2.1 5 j = M.1 19 j ∧ s.2.1 6 j = M.1 20 j ∧ s.2.1 7 j = 0) 10 ?_ ?_ (fuel := fz_fuel) (by unfold fz_fuel; omega) (s0 := (nI 0, M)) ⟨rfl, fun c _ => rfl, fun p hp => absurd hp (Nat.not_lt_zero p)⟩
  · exact this
  · rintro i ⟨x, M0⟩ hi ⟨e0, e3, e5⟩
    dsimp only at e0 e3 e5
    subst e0
    have h31 : i < 2 ^ 31 := by omega
    have hin : fz_in (nI i) 10 = true := fz_in_nI (by omega) (by decide)
    have hlt : ¬ (10 : Int32) ≤ nI i := nI_ge (b := 10) hi (by decide)
    have f6 : M0.1 18 i = M.1 18 i := by rw [e3 18 (by decide)]
    have f7 : M0.1 19 i = M.1 19 i := by rw [e3 19 (by decide)]
    have f8 : M0.1 20 i = M.1 20 i := by rw [e3 20 (by decide)]
    refine Or.inl ⟨(nI (i + 1), fz_w (fz_w (fz_w (fz_w M0 4 i (M.1 18 i)) 5 i (M.1 19 i)) 6 i (M.1 20 i)) 7 i 0), ⟨rfl, fun c c2 => ?_, fun p hp => ?_⟩, fun kk => ?_⟩
    · dsimp only
      rw [w_ne (by omega), w_ne (by omega), w_ne (by omega), w_ne (by omega)]; exact e3 c c2
    · dsimp only
      by_cases d : p = i
      · subst d
        simp (disch := decide) only [w_ne, w_at]
        exact ⟨trivial, trivial, trivial, trivial⟩
      · simp (disch := omega) only [w_o]; exact e5 p (by omega)
    · show f_X9_town_83_s kk (nI i) M0 = _
      simp (disch := decide) only [f_X9_town_83_s, hlt, fz_gd_t hin, fz_g_nI h31, f6, fz_bd_e, fz_s_nI h31, w_ne, f7, f8, nI_1, ↓reduceIte]
      rfl
  · rintro ⟨x, M0⟩ ⟨e0, e3, e5⟩
    dsimp only at e0 e3 e5
    subst e0
    refine ⟨M0, ⟨e3, e5⟩, fun kk => ?_⟩
    show f_X9_town_83_s kk (nI 10) M0 = _
    simp only [f_X9_town_83_s, show (10 : Int32) ≤ nI 10 from nI_le (a := 10) (Nat.le_refl _) (by decide), ↓reduceIte]
/-- one piece taken -/
def tkP (i : Nat) (x6 x7 x8 x9 : Int32) (M : fz_M) : fz_M := fz_w (fz_w (fz_w (fz_w (fz_w (fz_w (fz_w (fz_w M 8 i x6) 9 i x7) 10 i x8) 12 i x9) 11 i x6) 15 i x6) 13 (8 * i) x6) 14 i 1
theorem tk_p {nH nP : Nat} {M : fz_M} (hn : nP ≤ 6) (h4 : M.1 0 4 = nI nH) (h6 : M.1 0 6 = nI nP) : ∃ a, f_X9_town_140 0 M = some (nI nH, a) ∧ (∀ c, c ≠ 0 → (c < 8 ∨ 15 < c) → c ≠ 28 → a.1 c = M.1 c) ∧ (∀ j, j ≠ 21 → j ≠ 35 → a.1 0 j = M.1 0 j) ∧ a.1 0 21 = 0 ∧ a.1 0 35 = 0 ∧ a.1 28 0 = 0 ∧ a.1 28 1 = 0 ∧
    ∀ p, p < nP → a.1 8 p = M.1 21 p ∧ a.1 9 p = M.1 22 p ∧ a.1 10 p = M.1 23 p ∧ a.1 12 p = M.1 24 p ∧ a.1 11 p = M.1 21 p ∧ a.1 15 p = M.1 21 p ∧ a.1 13 (8 * p) = M.1 21 p ∧ a.1 14 p = 1 := by
  have := lp_gen (F := fun ag (z : Int32 × fz_M) => f_X9_town_140_s ag z.1 z.2) (K := fun a => some (nI nH, fz_w (fz_w (fz_w (fz_w a 0 21 0) 0 35 0) 28 0 0) 28 1 0)) (Post := fun (a : fz_M) => (∀ c, (c < 8 ∨ 15 < c) → a.1 c = M.1 c) ∧ ∀ p, p < nP → a.1 8 p = M.1 21 p ∧ a.1 9 p = M.1 22 p ∧ a.1 10 p = M.1 23 p ∧ a.1 12 p = M.1 24 p ∧ a.1 11 p = M.1 21 p ∧ a.1 15 p = M.1 21 p ∧ a.1 13 (8 * p) = M.1 21 p ∧ a.1 14 p = 1)
    (fun i (s : Int32 × fz_M) => s.1 = nI i ∧ (∀ c, (c < 8 ∨ 15 < c) → s.2.1 c = M.1 c) ∧ ∀ p, p < i → s.2.1 8 p = M.1 21 p ∧ s.2.1 9 p = M.1 22 p ∧ s.2.1 10 p = M.1 23 p ∧ s.2.1 12 p = M.1 24 p ∧ s.2.1 11 p = M.1 21 p ∧ s.2.1 15 p = M.1 21 p ∧ s.2.1 13 (8 * p) = M.1 21 p ∧ s.2.1 14 p = 1) nP ?_ ?_ (fuel := fz_fuel) (by unfold fz_fuel; omega) (s0 := (nI 0, M)) ⟨rfl, fun c _ => rfl, fun p hp => absurd hp (Nat.not_lt_zero p)⟩
  · obtain ⟨a, a1, a2, a3⟩ := this
    refine ⟨_, a1, fun c c0 c1 c2 => ?_, fun j j1 j2 => ?_, ?_, ?_, ?_, w_at, fun p hp => ?_⟩
    · rw [w_ne c2, w_ne c2, w_ne c0, w_ne c0]; exact a2 c c1
    · rw [w_ne (by decide), w_ne (by decide), w_nj j2, w_nj j1, a2 0 (by decide)]
    · rw [w_ne (by decide), w_ne (by decide), w_nj (by decide), w_at]
    · rw [w_ne (by decide), w_ne (by decide), w_at]
    · rw [w_nj (by decide), w_at]
    · simp (disch := decide) only [w_ne]
      exact a3 p hp
  · rintro i ⟨x, M0⟩ hi ⟨e0, e3, e5⟩
    dsimp only at e0 e3 e5
    subst e0
    have h31 : i < 2 ^ 31 := by omega
    have h31' : 8 * i < 2 ^ 31 := by omega
    have hin : fz_in (nI i) 6 = true := fz_in_nI (by omega) (by decide)
    have hin' : fz_in (nI (8 * i)) 48 = true := fz_in_nI (by omega) (by decide)
    have e8 : (8 : Int32) * nI i = nI (8 * i) := nI_mul 8 i
    have hlt : ¬ nI nP ≤ nI i := nI_ge hi (by omega)
    have f0 : M0.1 0 6 = nI nP := by rw [e3 0 (by decide)]; exact h6
    have f6 : M0.1 21 i = M.1 21 i := by rw [e3 21 (by decide)]
    have f7 : M0.1 22 i = M.1 22 i := by rw [e3 22 (by decide)]
    have f8 : M0.1 23 i = M.1 23 i := by rw [e3 23 (by decide)]
    have f9 : M0.1 24 i = M.1 24 i := by rw [e3 24 (by decide)]
    refine Or.inl ⟨(nI (i + 1), tkP i (M.1 21 i) (M.1 22 i) (M.1 23 i) (M.1 24 i) M0), ⟨rfl, fun c c2 => ?_, fun p hp => ?_⟩, fun kk => ?_⟩
    · dsimp only [tkP]
      simp (disch := omega) only [w_ne]
      exact e3 c c2
    · dsimp only [tkP]
      by_cases d : p = i
      · subst d
        simp (disch := decide) only [w_ne, w_at]
        exact ⟨trivial, trivial, trivial, trivial, trivial, trivial, trivial, trivial⟩
      · simp (disch := omega) only [w_o]; exact e5 p (by omega)
    · show f_X9_town_140_s kk (nI i) M0 = _
      simp (disch := decide) only [f_X9_town_140_s, fz_f_e, f0, hlt, fz_gd_t hin, e8, fz_gd_t hin', fz_g_nI h31, f6, fz_bd_e, fz_s_nI h31, fz_s_nI h31', w_ne, w_at, f7, f8, f9, nI_1, ↓reduceIte]
      rfl
  · rintro ⟨x, M0⟩ ⟨e0, e3, e5⟩
    dsimp only at e0 e3 e5
    subst e0
    have f0 : M0.1 0 6 = nI nP := by rw [e3 0 (by decide)]; exact h6
    have f4 : M0.1 0 4 = nI nH := by rw [e3 0 (by decide)]; exact h4
    refine ⟨M0, ⟨e3, e5⟩, fun kk => ?_⟩
    show f_X9_town_140_s kk (nI nP) M0 = _
    unfold f_X9_town_140_s
    rw [fz_f_e, f0, if_pos (nI_le (Nat.le_refl _) (by omega))]
    show some (M0.1 0 4, _) = _
    rw [f4]
    rfl
