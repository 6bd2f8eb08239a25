theorem aS_0 {R : fz_A2} {a b c j : Nat} (h : j ≠ 1) : aS R a b c 0 j = R 0 j := by unfold aS; rw [up2_ne (by omega), up2_ne (by omega), up2_ne (by omega), up2_ne (by omega)]
theorem aS_c {R : fz_A2} {a b c d j : Nat} (h0 : d ≠ 0) (h : d < 3 ∨ 5 < d ∨ j ≠ R 0 1) : aS R a b c d j = R d j := by unfold aS; rw [up2_ne (by omega), up2_ne (by omega), up2_ne (by omega), up2_ne (by omega)]
theorem aS_n {R : fz_A2} {a b c : Nat} : aS R a b c 0 1 = R 0 1 + 1 ∧ aS R a b c 3 (R 0 1) = a ∧ aS R a b c 4 (R 0 1) = b ∧ aS R a b c 5 (R 0 1) = c := by
  refine ⟨up2_at, ?_, ?_, ?_⟩
  · unfold aS; rw [up2_ne (by omega), up2_ne (by omega), up2_ne (by omega), up2_at]
  · unfold aS; rw [up2_ne (by omega), up2_ne (by omega), up2_at]
  · unfold aS; rw [up2_ne (by omega), up2_at]
theorem mR_aS {R : fz_A2} {M : fz_M} {a b c : Nat} (h : mR R M) : mR (aS R a b c) (fz_w (fz_w (fz_w (fz_w M 18 (R 0 1) (nI a)) 19 (R 0 1) (nI b)) 20 (R 0 1) (nI c)) 0 23 (nI (R 0 1 + 1))) := by
  obtain ⟨h0, h1, h2, h3, h4, h5⟩ := h
  obtain ⟨n0, n3, n4, n5⟩ := aS_n (R := R) (a := a) (b := b) (c := c)
  refine ⟨by rw [w_nj (by decide), w_ne (by decide), w_ne (by decide), w_ne (by decide), aS_0 (by decide)]; exact h0, by rw [w_at, n0], by rw [w_nj (by decide), w_ne (by decide), w_ne (by decide), w_ne (by decide), aS_0 (by decide)]; exact h2, fun q hq => ?_, fun s hs => ?_, fun p hp => ?_⟩
  · rw [aS_0 (by decide)] at hq
    rw [aS_c (by decide) (by omega), aS_c (by decide) (by omega)]
    simp (disch := decide) only [w_ne]
    exact h3 q hq
  · rw [n0] at hs
    by_cases d : s = R 0 1
    · subst d
      rw [n3, n4, n5]
      simp (disch := decide) only [w_ne, w_at]
      exact ⟨trivial, trivial, trivial⟩
    · rw [aS_c (by decide) (by omega), aS_c (by decide) (by omega), aS_c (by decide) (by omega)]
      simp (disch := first | decide | exact d) only [w_ne, w_nj]
      exact h4 s (by omega)
  · rw [aS_0 (by decide)] at hp
    rw [aS_c (by decide) (by omega), aS_c (by decide) (by omega), aS_c (by decide) (by omega), aS_c (by decide) (by omega)]
    simp (disch := decide) only [w_ne]
    exact h5 p hp
