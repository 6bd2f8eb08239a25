theorem aP_w {R : fz_A2} {g w f x : Nat} (hw : wT R) (h6 : R 0 2 < 6) (hg : g < R 0 0) (hw1 : 1 ≤ w) (hw9 : w ≤ 9) (hf1 : 1 ≤ f) (hf9 : f ≤ 9) : wT (aP R g w f x) := by
  have e02 : aP R g w f x 0 2 = R 0 2 + 1 := up2_at
  have e0 : ∀ j, j ≠ 2 → aP R g w f x 0 j = R 0 j := fun j hj => by unfold aP; rw [up2_ne (by omega), up2_ne (by omega), up2_ne (by omega), up2_ne (by omega), up2_ne (by omega)]
  have ec : ∀ c, c ≠ 0 → c < 6 → aP R g w f x c = R c := fun c h0 hc => by
    funext j; unfold aP; rw [up2_ne (by omega), up2_ne (by omega), up2_ne (by omega), up2_ne (by omega), up2_ne (by omega)]
  have et : ∀ h n, tenSum (aP R g w f x) h n = tenSum R h n := fun h n => by
    induction n with
    | zero => rfl
    | succ n ih => simp only [tenSum, ih, ec 3 (by omega) (by omega), ec 5 (by omega) (by omega)]
  refine ⟨by rw [e0 0 (by decide)]; exact hw.1, by rw [e0 1 (by decide)]; exact hw.2.1, by rw [e02]; omega, fun h hh => ?_, fun s hs => ?_, fun p hp => ?_, fun h => ?_⟩
  · rw [e0 0 (by decide)] at hh
    rw [ec 1 (by omega) (by omega), ec 2 (by omega) (by omega)]; exact hw.2.2.2.1 h hh
  · rw [e0 1 (by decide)] at hs
    rw [e0 0 (by decide), ec 3 (by omega) (by omega), ec 4 (by omega) (by omega), ec 5 (by omega) (by omega)]
    exact hw.2.2.2.2.1 s hs
  · rw [e02] at hp
    rw [e0 0 (by decide)]
    by_cases q : p = R 0 2
    · subst q
      have e6 : aP R g w f x 6 (R 0 2) = g := by unfold aP; rw [up2_ne (by omega), up2_ne (by omega), up2_ne (by omega), up2_ne (by omega), up2_at]
      have e7 : aP R g w f x 7 (R 0 2) = w := by unfold aP; rw [up2_ne (by omega), up2_ne (by omega), up2_ne (by omega), up2_at]
      have e8 : aP R g w f x 8 (R 0 2) = f := by unfold aP; rw [up2_ne (by omega), up2_ne (by omega), up2_at]
      rw [e6, e7, e8]; exact ⟨hg, hw1, hw9, hf1, hf9⟩
    · have ee : ∀ c, c ≠ 0 → aP R g w f x c p = R c p := fun c hc => by unfold aP; rw [up2_ne (by omega), up2_ne (by omega), up2_ne (by omega), up2_ne (by omega), up2_ne (by omega)]
      rw [ee 6 (by decide), ee 7 (by decide), ee 8 (by decide)]; exact hw.2.2.2.2.2.1 p (by omega)
  · rw [e0 1 (by decide), et]; exact hw.2.2.2.2.2.2 h
theorem aS_w {R : fz_A2} {a b c : Nat} (hw : wT R) (h10 : R 0 1 < 10) (ha : a < R 0 0) (hb : b < R 0 0) (hab : a ≠ b) (hc1 : 1 ≤ c) (hc9 : c ≤ 9) (hcl : c ≤ lefT R a) : wT (aS R a b c) := by
  have e01 : aS R a b c 0 1 = R 0 1 + 1 := up2_at
  have e0 : ∀ j, j ≠ 1 → aS R a b c 0 j = R 0 j := fun j hj => by unfold aS; rw [up2_ne (by omega), up2_ne (by omega), up2_ne (by omega), up2_ne (by omega)]
  have ec : ∀ d j, d ≠ 0 → (d < 3 ∨ 5 < d ∨ j ≠ R 0 1) → aS R a b c d j = R d j := fun d j h0 hd => by unfold aS; rw [up2_ne (by omega), up2_ne (by omega), up2_ne (by omega), up2_ne (by omega)]
  have e3 : aS R a b c 3 (R 0 1) = a := by unfold aS; rw [up2_ne (by omega), up2_ne (by omega), up2_ne (by omega), up2_at]
  have e4 : aS R a b c 4 (R 0 1) = b := by unfold aS; rw [up2_ne (by omega), up2_ne (by omega), up2_at]
  have e5 : aS R a b c 5 (R 0 1) = c := by unfold aS; rw [up2_ne (by omega), up2_at]
  have et : ∀ h n, n ≤ R 0 1 → tenSum (aS R a b c) h n = tenSum R h n := fun h n => by
    induction n with
    | zero => intro _; rfl
    | succ n ih => intro hn; simp only [tenSum, ih (by omega), ec 3 n (by omega) (by omega), ec 5 n (by omega) (by omega)]
  refine ⟨by rw [e0 0 (by decide)]; exact hw.1, by rw [e01]; omega, by rw [e0 2 (by decide)]; exact hw.2.2.1, fun h hh => ?_, fun s hs => ?_, fun p hp => ?_, fun h => ?_⟩
  · rw [e0 0 (by decide)] at hh
    rw [ec 1 h (by omega) (by omega), ec 2 h (by omega) (by omega)]; exact hw.2.2.2.1 h hh
  · rw [e01] at hs
    rw [e0 0 (by decide)]
    by_cases q : s = R 0 1
    · subst q; rw [e3, e4, e5]; exact ⟨ha, hb, hab, hc1, hc9⟩
    · rw [ec 3 s (by omega) (by omega), ec 4 s (by omega) (by omega), ec 5 s (by omega) (by omega)]; exact hw.2.2.2.2.1 s (by omega)
  · rw [e0 2 (by decide)] at hp
    rw [e0 0 (by decide), ec 6 p (by omega) (by omega), ec 7 p (by omega) (by omega), ec 8 p (by omega) (by omega)]; exact hw.2.2.2.2.2.1 p hp
  · have h1 := hw.2.2.2.2.2.2 h
    rw [e01]
    show tenSum (aS R a b c) h (R 0 1) + (if aS R a b c 3 (R 0 1) = h then aS R a b c 5 (R 0 1) else 0) ≤ 10
    rw [et h _ (Nat.le_refl _), e3, e5]
    by_cases q : a = h
    · subst q
      rw [if_pos rfl]
      unfold lefT at hcl
      omega
    · rw [if_neg q]; omega
