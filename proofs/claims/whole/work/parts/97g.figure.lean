/-! one figure of the text: the model -/
theorem fig_e {q L : Nat} {M : fz_M} (lo hi : Int32) (hL : L ≤ 96) (hq : q ≤ L) (h2 : M.1 0 2 = nI L) (h3 : M.1 0 3 = nI q) : f_X9_figure lo hi M = if q < L ∧ lo ≤ M.1 1 q - 48 ∧ M.1 1 q - 48 ≤ hi then some (M.1 1 q - 48, fz_w M 0 3 (nI (q + 1))) else some (-9, M) := by
  have k0 : (nI q = nI L) = (q = L) := propext (nI_eq (by omega) (by omega))
  unfold f_X9_figure
  rw [fz_f_e, fz_f_e, h2, h3]
  by_cases c : q = L
  · rw [if_pos (by rw [c]), if_neg (fun z => by omega)]
  · have hin : fz_in (nI q) 96 = true := fz_in_nI (by omega) (by decide)
    rw [if_neg (by rw [k0]; exact c), fz_gd_t hin, fz_g_nI (by omega), in32, fz_b1_e]
    by_cases d : lo ≤ M.1 1 q - 48 ∧ M.1 1 q - 48 ≤ hi
    · have e1 : (fz_w M 0 3 (nI (q + 1))).1 0 3 = nI (q + 1) := w_at
      have e2 : (fz_w M 0 3 (nI (q + 1))).1 1 q = M.1 1 q := by rw [w_ne (by decide)]
      rw [if_pos d, if_pos (by decide), if_pos ⟨by omega, d⟩, nI_1, fz_sf_e, fz_bd_e, fz_f_e, e1, nI_pred, fz_gd_t hin, fz_g_nI (by omega), e2]
    · rw [if_neg d, if_neg (by decide), if_neg (fun z => d z.2)]
/-- a byte that is a figure from lo to hi, as a number -/
theorem dig_e {x : Int32} {lo hi : Nat} (hlo : lo < 2 ^ 30) (hhi : hi < 2 ^ 30) (h : nI lo ≤ x - 48 ∧ x - 48 ≤ nI hi) : ∃ d, lo ≤ d ∧ d ≤ hi ∧ x - 48 = nI d := by
  rcases x_btw (x - 48) lo hi (by omega) (by omega) with ⟨i, a, b, e⟩ | c
  · exact ⟨i, a, b, e⟩
  · exact absurd h (ge_of (by omega) (by omega) c)
