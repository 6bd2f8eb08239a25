theorem cR_aH {P : Nat} {R : fz_A2} {M : fz_M} {a b : Nat} (h : cR P R M) : cR P (aH R a b) (fz_w (fz_w (fz_w M (P + 1) (R 0 0) (nI a)) (P + 2) (R 0 0) (nI b)) P 0 (nI (R 0 0 + 1))) := by
  obtain ⟨⟨h0, h1, h2, h3, h4, h5⟩, h9⟩ := h
  have e00 : aH R a b 0 0 = R 0 0 + 1 := up2_at
  have e01 : aH R a b 0 1 = R 0 1 := by unfold aH; rw [up2_ne (by omega), up2_ne (by omega), up2_ne (by omega)]
  have e02 : aH R a b 0 2 = R 0 2 := by unfold aH; rw [up2_ne (by omega), up2_ne (by omega), up2_ne (by omega)]
  have ec : ∀ c, 3 ≤ c → aH R a b c = R c := fun c hc => by
    funext j; unfold aH; rw [up2_ne (by omega), up2_ne (by omega), up2_ne (by omega)]
  refine ⟨⟨by rw [w_at, e00], by rw [w_nj (by decide), w_ne (by omega), w_ne (by omega), e01]; exact h1, by rw [w_nj (by decide), w_ne (by omega), w_ne (by omega), e02]; exact h2, fun q hq => ?_, fun s hs => ?_, fun p hp => ?_⟩, fun p hp => ?_⟩
  · rw [e00] at hq
    rw [w_ne (show P + 1 ≠ P by omega), w_ne (show P + 1 ≠ P + 2 by omega), w_ne (show P + 2 ≠ P by omega)]
    by_cases c : q = R 0 0
    · subst c
      rw [w_at, w_at]
      have e1 : aH R a b 1 (R 0 0) = a := by unfold aH; rw [up2_ne (by omega), up2_ne (by omega), up2_at]
      have e2 : aH R a b 2 (R 0 0) = b := by unfold aH; rw [up2_ne (by omega), up2_at]
      rw [e1, e2]; exact ⟨rfl, rfl⟩
    · rw [w_nj c, w_nj c, w_ne (show P + 2 ≠ P + 1 by omega)]
      have e1 : aH R a b 1 q = R 1 q := by unfold aH; rw [up2_ne (by omega), up2_ne (by omega), up2_ne (by omega)]
      have e2 : aH R a b 2 q = R 2 q := by unfold aH; rw [up2_ne (by omega), up2_ne (by omega), up2_ne (by omega)]
      rw [e1, e2]; exact h3 q (by omega)
  · rw [e01] at hs
    rw [ec 3 (by omega), ec 4 (by omega), ec 5 (by omega)]
    simp (disch := omega) only [w_ne]
    exact h4 s hs
  · rw [e02] at hp
    rw [ec 6 (by omega), ec 7 (by omega), ec 8 (by omega)]
    simp (disch := omega) only [w_ne]
    exact h5 p hp
  · rw [e02] at hp
    rw [ec 9 (by omega)]
    simp (disch := omega) only [w_ne]
    exact h9 p hp
