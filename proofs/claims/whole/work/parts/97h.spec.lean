/-! one part of the text, as it should be read -/
def fg (t : Nat → Int32) (L j lo hi : Nat) : Option Nat := if j < L ∧ nI lo ≤ t j - 48 ∧ t j - 48 ≤ nI hi then some (t j - 48).toNatClampNeg else none
theorem fg_some {t : Nat → Int32} {L j lo hi d : Nat} (hlo : lo < 2 ^ 30) (hhi : hi < 2 ^ 30) (h : fg t L j lo hi = some d) : j < L ∧ lo ≤ d ∧ d ≤ hi ∧ t j - 48 = nI d := by
  unfold fg at h
  split at h
  · rename_i c
    obtain ⟨i, a, b, e⟩ := dig_e hlo hhi c.2
    rw [e, nI_clamp (by omega)] at h
    cases h
    exact ⟨c.1, a, b, e⟩
  · cases h
theorem mFg_e {q L lo hi : Nat} {M : fz_M} (hlo : lo < 2 ^ 30) (hhi : hi < 2 ^ 30) (hL : L ≤ 96) (hq : q ≤ L) (h2 : M.1 0 2 = nI L) (h3 : M.1 0 3 = nI q) : f_X9_figure (nI lo) (nI hi) M = match fg (M.1 1) L q lo hi with | none => some (-9, M) | some d => some (nI d, fz_w M 0 3 (nI (q + 1))) := by
  rw [fig_e (nI lo) (nI hi) hL hq h2 h3]
  unfold fg
  by_cases c : q < L ∧ nI lo ≤ M.1 1 q - 48 ∧ M.1 1 q - 48 ≤ nI hi
  · obtain ⟨i, a, b, e⟩ := dig_e hlo hhi c.2
    rw [if_pos c, if_pos c, e, nI_clamp (by omega)]
  · rw [if_neg c, if_neg c]
def aH (R : fz_A2) (a b : Nat) : fz_A2 := up2 (up2 (up2 R 1 (R 0 0) a) 2 (R 0 0) b) 0 0 (R 0 0 + 1)
def aS (R : fz_A2) (a b c : Nat) : fz_A2 := up2 (up2 (up2 (up2 R 3 (R 0 1) a) 4 (R 0 1) b) 5 (R 0 1) c) 0 1 (R 0 1 + 1)
def aP (R : fz_A2) (g w f x : Nat) : fz_A2 := up2 (up2 (up2 (up2 (up2 R 6 (R 0 2) g) 7 (R 0 2) w) 8 (R 0 2) f) 9 (R 0 2) x) 0 2 (R 0 2 + 1)
