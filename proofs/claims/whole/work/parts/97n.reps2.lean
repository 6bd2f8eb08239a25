theorem cR_aS {P : Nat} {R : fz_A2} {M : fz_M} {a b c : Nat} (h : cR P R M) : cR P (aS R a b c) (fz_w (fz_w (fz_w (fz_w M (P + 3) (R 0 1) (nI a)) (P + 4) (R 0 1) (nI b)) (P + 5) (R 0 1) (nI c)) P 1 (nI (R 0 1 + 1))) := by
  obtain ⟨⟨h0, h1, h2, h3, h4, h5⟩, h9⟩ := h
  obtain ⟨n0, n3, n4, n5⟩ := aS_n (R := R) (a := a) (b := b) (c := c)
  refine ⟨⟨by rw [w_nj (by decide), w_ne (by omega), w_ne (by omega), w_ne (by omega), aS_0 (by decide)]; exact h0, by rw [w_at, n0], by rw [w_nj (by decide), w_ne (by omega), w_ne (by omega), w_ne (by omega), aS_0 (by decide)]; exact h2, fun q hq => ?_, fun s hs => ?_, fun p hp => ?_⟩, fun p hp => ?_⟩
  · rw [aS_0 (by decide)] at hq
    rw [aS_c (by decide) (by omega), aS_c (by decide) (by omega)]
    simp (disch := omega) only [w_ne]
    exact h3 q hq
  · rw [n0] at hs
    by_cases d : s = R 0 1
    · subst d
      rw [n3, n4, n5]
      simp (disch := omega) only [w_ne, w_at]
      exact ⟨trivial, trivial, trivial⟩
    · rw [aS_c (by decide) (by omega), aS_c (by decide) (by omega), aS_c (by decide) (by omega)]
      simp (disch := omega) only [w_ne, w_nj]
      exact h4 s (by omega)
  · rw [aS_0 (by decide)] at hp
    rw [aS_c (by decide) (by omega), aS_c (by decide) (by omega), aS_c (by decide) (by omega)]
    simp (disch := omega) only [w_ne]
    exact h5 p hp
  · rw [aS_0 (by decide)] at hp
    rw [aS_c (by decide) (by omega)]
    simp (disch := omega) only [w_ne]
    exact h9 p hp
