/-! the additions keep a read town sound -/
theorem aH_w {R : fz_A2} {a b : Nat} (hw : wT R) (h6 : R 0 0 < 6) (ha : a ≤ 9) (hb1 : 1 ≤ b) (hb : b ≤ 9) : wT (aH R a b) := by
  have e00 : aH R a b 0 0 = R 0 0 + 1 := up2_at
  have e01 : aH R a b 0 1 = R 0 1 := by unfold aH; rw [up2_ne (by omega), up2_ne (by omega), up2_ne (by omega)]
  have e02 : aH R a b 0 2 = R 0 2 := by unfold aH; rw [up2_ne (by omega), up2_ne (by omega), up2_ne (by omega)]
  have ec : ∀ c, 3 ≤ c → aH R a b c = R c := fun c hc => by
    funext j; unfold aH; rw [up2_ne (by omega), up2_ne (by omega), up2_ne (by omega)]
  have et : ∀ h n, tenSum (aH R a b) h n = tenSum R h n := fun h n => by
    induction n with
    | zero => rfl
    | succ n ih => simp only [tenSum, ih, ec 3 (by omega), ec 5 (by omega)]
  refine ⟨by rw [e00]; omega, by rw [e01]; exact hw.2.1, by rw [e02]; exact hw.2.2.1, fun h hh => ?_, fun s hs => ?_, fun p hp => ?_, fun h => ?_⟩
  · rw [e00] at hh
    by_cases q : h = R 0 0
    · subst q
      have e1 : aH R a b 1 (R 0 0) = a := by unfold aH; rw [up2_ne (by omega), up2_ne (by omega), up2_at]
      have e2 : aH R a b 2 (R 0 0) = b := by unfold aH; rw [up2_ne (by omega), up2_at]
      rw [e1, e2]; exact ⟨ha, hb1, hb⟩
    · have e1 : aH R a b 1 h = R 1 h := by unfold aH; rw [up2_ne (by omega), up2_ne (by omega), up2_ne (by omega)]
      have e2 : aH R a b 2 h = R 2 h := by unfold aH; rw [up2_ne (by omega), up2_ne (by omega), up2_ne (by omega)]
      rw [e1, e2]; exact hw.2.2.2.1 h (by omega)
  · rw [e01] at hs
    rw [e00, ec 3 (by omega), ec 4 (by omega), ec 5 (by omega)]
    obtain ⟨q1, q2, q3⟩ := hw.2.2.2.2.1 s hs
    exact ⟨by omega, by omega, q3⟩
  · rw [e02] at hp
    rw [e00, ec 6 (by omega), ec 7 (by omega), ec 8 (by omega)]
    obtain ⟨q1, q2⟩ := hw.2.2.2.2.2.1 p hp
    exact ⟨by omega, q2⟩
  · rw [e01, et]; exact hw.2.2.2.2.2.2 h
