theorem aP_0 {R : fz_A2} {g w f x j : Nat} (h : j ≠ 2) : aP R g w f x 0 j = R 0 j := by unfold aP; rw [up2_ne (by omega), up2_ne (by omega), up2_ne (by omega), up2_ne (by omega), up2_ne (by omega)]
theorem aP_c {R : fz_A2} {g w f x d j : Nat} (h0 : d ≠ 0) (h : d < 6 ∨ 9 < d ∨ j ≠ R 0 2) : aP R g w f x d j = R d j := by unfold aP; rw [up2_ne (by omega), up2_ne (by omega), up2_ne (by omega), up2_ne (by omega), up2_ne (by omega)]
theorem aP_n {R : fz_A2} {g w f x : Nat} : aP R g w f x 0 2 = R 0 2 + 1 ∧ aP R g w f x 6 (R 0 2) = g ∧ aP R g w f x 7 (R 0 2) = w ∧ aP R g w f x 8 (R 0 2) = f ∧ aP R g w f x 9 (R 0 2) = x := by
  refine ⟨up2_at, ?_, ?_, ?_, ?_⟩
  · unfold aP; rw [up2_ne (by omega), up2_ne (by omega), up2_ne (by omega), up2_ne (by omega), up2_at]
  · unfold aP; rw [up2_ne (by omega), up2_ne (by omega), up2_ne (by omega), up2_at]
  · unfold aP; rw [up2_ne (by omega), up2_ne (by omega), up2_at]
  · unfold aP; rw [up2_ne (by omega), up2_at]
theorem mR_aP {R : fz_A2} {M : fz_M} {g w f x : Nat} (h : mR R M) : mR (aP R g w f x) (fz_w (fz_w (fz_w (fz_w (fz_w M 21 (R 0 2) (nI g)) 22 (R 0 2) (nI w)) 23 (R 0 2) (nI f)) 24 (R 0 2) (nI x)) 0 24 (nI (R 0 2 + 1))) := by
  obtain ⟨h0, h1, h2, h3, h4, h5⟩ := h
  obtain ⟨n0, n6, n7, n8, n9⟩ := aP_n (R := R) (g := g) (w := w) (f := f) (x := x)
  refine ⟨by rw [w_nj (by decide), w_ne (by decide), w_ne (by decide), w_ne (by decide), w_ne (by decide), aP_0 (by decide)]; exact h0, by rw [w_nj (by decide), w_ne (by decide), w_ne (by decide), w_ne (by decide), w_ne (by decide), aP_0 (by decide)]; exact h1, by rw [w_at, n0], fun q hq => ?_, fun s hs => ?_, fun p hp => ?_⟩
  · rw [aP_0 (by decide)] at hq
    rw [aP_c (by decide) (by omega), aP_c (by decide) (by omega)]
    simp (disch := decide) only [w_ne]
    exact h3 q hq
  · rw [aP_0 (by decide)] at hs
    rw [aP_c (by decide) (by omega), aP_c (by decide) (by omega), aP_c (by decide) (by omega)]
    simp (disch := decide) only [w_ne]
    exact h4 s hs
  · rw [n0] at hp
    by_cases d : p = R 0 2
    · subst d
      rw [n6, n7, n8, n9]
      simp (disch := decide) only [w_ne, w_at]
      exact ⟨trivial, trivial, trivial, trivial⟩
    · rw [aP_c (by decide) (by omega), aP_c (by decide) (by omega), aP_c (by decide) (by omega), aP_c (by decide) (by omega)]
      simp (disch := first | decide | exact d) only [w_ne, w_nj]
      exact h5 p (by omega)
theorem cR_aP {P : Nat} {R : fz_A2} {M : fz_M} {g w f x : Nat} (h : cR P R M) : cR P (aP R g w f x) (fz_w (fz_w (fz_w (fz_w (fz_w M (P + 6) (R 0 2) (nI g)) (P + 7) (R 0 2) (nI w)) (P + 8) (R 0 2) (nI f)) (P + 9) (R 0 2) (nI x)) P 2 (nI (R 0 2 + 1))) := by
  obtain ⟨⟨h0, h1, h2, h3, h4, h5⟩, h9⟩ := h
  obtain ⟨n0, n6, n7, n8, n9⟩ := aP_n (R := R) (g := g) (w := w) (f := f) (x := x)
  refine ⟨⟨by rw [w_nj (by decide), w_ne (by omega), w_ne (by omega), w_ne (by omega), w_ne (by omega), aP_0 (by decide)]; exact h0, by rw [w_nj (by decide), w_ne (by omega), w_ne (by omega), w_ne (by omega), w_ne (by omega), aP_0 (by decide)]; exact h1, by rw [w_at, n0], fun q hq => ?_, fun s hs => ?_, fun p hp => ?_⟩, fun p hp => ?_⟩
  · rw [aP_0 (by decide)] at hq
    rw [aP_c (by decide) (by omega), aP_c (by decide) (by omega)]
    simp (disch := omega) only [w_ne]
    exact h3 q hq
  · rw [aP_0 (by decide)] at hs
    rw [aP_c (by decide) (by omega), aP_c (by decide) (by omega), aP_c (by decide) (by omega)]
    simp (disch := omega) only [w_ne]
    exact h4 s hs
  · rw [n0] at hp
    by_cases d : p = R 0 2
    · subst d
      rw [n6, n7, n8]
      simp (disch := omega) only [w_ne, w_at]
      exact ⟨trivial, trivial, trivial⟩
    · rw [aP_c (by decide) (by omega), aP_c (by decide) (by omega), aP_c (by decide) (by omega)]
      simp (disch := omega) only [w_ne, w_nj]
      exact h5 p (by omega)
  · rw [n0] at hp
    by_cases d : p = R 0 2
    · subst d
      rw [n9]
      simp (disch := omega) only [w_ne, w_at]
    · rw [aP_c (by decide) (by omega)]
      simp (disch := omega) only [w_ne, w_nj]
      exact h9 p (by omega)
