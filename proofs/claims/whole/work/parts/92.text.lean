/-! the text: write -/
theorem sh_c : ∀ k : Nat, k < 8 → (8 * nI k).toInt64.toUInt64 &&& Int64.toUInt64 63 = UInt64.ofNat (8 * k) ∧ (8 * nI k).toInt64 &&& 63 = Int64.ofNat (8 * k) := by decide +kernel
theorem m255 : ∀ i : Nat, i < 32 → (255 : Int32).toBitVec.getLsbD i = decide (i < 8) := by decide +kernel
theorem sm_k : ∀ k : Nat, k < 8 → ((8#64 * BitVec.ofNat 64 k).smod 64#64).toNat = 8 * k := by decide +kernel
theorem by_e (v : Int64) {k : Nat} (hk : k < 8) : (((v.toUInt64 >>> ((8 * nI k).toInt64.toUInt64 &&& Int64.toUInt64 63)).toInt64).toInt32) &&& 255 = ((v >>> ((8 * nI k).toInt64 &&& 63)).toInt32) &&& 255 := by
  rw [(sh_c k hk).1, (sh_c k hk).2]
  apply Int32.toBitVec_inj.mp
  apply BitVec.eq_of_getLsbD_eq
  intro i hi
  rw [Int32.toBitVec_and, Int32.toBitVec_and, BitVec.getLsbD_and, BitVec.getLsbD_and, m255 i hi]
  by_cases h8 : i < 8
  · congr 1
    simp
    rw [sm_k k hk, Nat.mod_eq_of_lt (by omega), BitVec.getLsbD_signExtend, BitVec.getLsbD_signExtend, BitVec.getLsbD_sshiftRight, BitVec.getLsbD_ushiftRight]
    have q1 : i < 64 := by omega
    have q2 : 8 * k + i < 64 := by omega
    have q3 : ¬ 64 ≤ i := by omega
    simp [q1, q2, q3]
  · simp [h8]

/-- the byte that is told k-th from behind -/
def byC (v : Int64) (k : Nat) : Int32 := ((v >>> ((8 * nI k).toInt64 &&& 63)).toInt32) &&& 255
def dnI (n t : Nat) : Int32 := if t < n then nI (n - 1 - t) else -1
theorem dn_s {n t : Nat} (h : t < n) : nI (n - 1 - t) + (-1) = dnI n (t + 1) := by
  unfold dnI
  split
  · obtain ⟨j, hj⟩ : ∃ j, n - 1 - t = j + 1 := ⟨n - 1 - t - 1, by omega⟩
    rw [hj, nI_m1]
    congr 1; omega
  · rw [show n - 1 - t = 0 from by omega]; rfl
theorem wrC_e {L n : Nat} (hn : n ≤ 8) (hL : L + n ≤ 96) (v : Int64) (M : fz_M) (h : M.1 1 1 = nI L) : ∃ M', f_X1_append_5 v (dnI n 0) M = some M' ∧ M'.2 = M.2 ∧ (∀ d, d ≠ 1 → d ≠ 2 → M'.1 d = M.1 d) ∧ M'.1 1 1 = nI (L + n) ∧ (∀ j, j < L → M'.1 2 j = M.1 2 j) ∧ ∀ t, t < n → M'.1 2 (L + t) = byC v (n - 1 - t) := by
  unfold f_X1_append_5
  refine lp_gen (K := fun a => some a) (fun i (z : Int32 × fz_M) => z.1 = dnI n i ∧ z.2.2 = M.2 ∧ (∀ d, d ≠ 1 → d ≠ 2 → z.2.1 d = M.1 d) ∧ z.2.1 1 1 = nI (L + i) ∧ (∀ j, j < L → z.2.1 2 j = M.1 2 j) ∧ ∀ t, t < i → z.2.1 2 (L + t) = byC v (n - 1 - t)) n ?_ ?_ (by unfold fz_fuel; omega) ⟨rfl, rfl, fun _ _ _ => rfl, h, fun _ _ => rfl, fun j hj => absurd hj (Nat.not_lt_zero j)⟩
  · rintro i ⟨x, M0⟩ hi ⟨e0, e2, e3, e4, e5, e6⟩
    dsimp only at e0 e2 e3 e4 e5 e6
    rw [show dnI n i = nI (n - 1 - i) from if_pos hi] at e0
    subst e0
    have hneg : ¬ nI (n - 1 - i) < 0 := nI_pos (by omega)
    have h96 : ¬ (96 : Int32) ≤ nI (L + i) := show ¬ nI 96 ≤ _ from nI_ge (by omega) (by decide)
    have hin : fz_in (nI (L + i)) 96 = true := fz_in_nI (by omega) (by decide)
    have h31 : L + i < 2 ^ 31 := by omega
    refine Or.inl ⟨(dnI n (i + 1), fz_w (fz_w M0 2 (L + i) (byC v (n - 1 - i))) 1 1 (nI (L + i + 1))), ⟨rfl, e2, fun d a b => ?_, ?_, fun j hj => ?_, fun t ht => ?_⟩, fun kk => ?_⟩
    · show (fz_w _ _ _ _).1 d = _
      rw [w_ne a, w_ne b]; exact e3 d a b
    · show (fz_w _ _ _ _).1 1 1 = _
      rw [w_at]; rfl
    · show (fz_w _ _ _ _).1 2 j = _
      rw [w_ne (by decide), w_nj (by omega)]; exact e5 j hj
    · show (fz_w _ _ _ _).1 2 _ = _
      rw [w_ne (by decide)]
      by_cases hti : t = i
      · subst hti; rw [w_at]
      · rw [w_nj (by omega)]; exact e6 t (by omega)
    · show f_X1_append_5_s kk v (nI (n - 1 - i)) M0 = _
      simp only [f_X1_append_5_s, hneg, fz_f_e, e4, h96, fz_gd_t hin, fz_bd_e, fz_s_nI h31, fz_sf_e, by_e v (show n - 1 - i < 8 by omega), w_ne (show (1 : Nat) ≠ 2 by decide), nI_1, dn_s hi, ↓reduceIte]
      rfl
  · rintro ⟨x, M0⟩ ⟨e0, e2, e3, e4, e5, e6⟩
    dsimp only at e0 e2 e3 e4 e5 e6
    rw [show dnI n n = -1 from if_neg (by omega)] at e0
    subst e0
    refine ⟨M0, ⟨e2, e3, e4, e5, e6⟩, fun kk => ?_⟩
    show f_X1_append_5_s kk v (-1) M0 = _
    simp only [f_X1_append_5_s, show (-1 : Int32) < 0 from by decide, ↓reduceIte]
theorem wrM_e {L n : Nat} (hn : n ≤ 8) (hL : L + n ≤ 96) (v : Int64) (M : fz_M) (h : M.1 0 2 = nI L) : ∃ M', f_X9_write_39 v (dnI n 0) M = some (nI (L + n), M') ∧ M'.2 = M.2 ∧ (∀ d, d ≠ 0 → d ≠ 1 → M'.1 d = M.1 d) ∧ (∀ j, j ≠ 2 → M'.1 0 j = M.1 0 j) ∧ M'.1 0 2 = nI (L + n) ∧ (∀ j, j < L → M'.1 1 j = M.1 1 j) ∧ ∀ t, t < n → M'.1 1 (L + t) = byC v (n - 1 - t) := by
  unfold f_X9_write_39
  refine lp_gen (K := fun a => some (nI (L + n), a)) (fun i (z : Int32 × fz_M) => z.1 = dnI n i ∧ z.2.2 = M.2 ∧ (∀ d, d ≠ 0 → d ≠ 1 → z.2.1 d = M.1 d) ∧ (∀ j, j ≠ 2 → z.2.1 0 j = M.1 0 j) ∧ z.2.1 0 2 = nI (L + i) ∧ (∀ j, j < L → z.2.1 1 j = M.1 1 j) ∧ ∀ t, t < i → z.2.1 1 (L + t) = byC v (n - 1 - t)) n ?_ ?_ (by unfold fz_fuel; omega) ⟨rfl, rfl, fun _ _ _ => rfl, fun _ _ => rfl, h, fun _ _ => rfl, fun j hj => absurd hj (Nat.not_lt_zero j)⟩
  · rintro i ⟨x, M0⟩ hi ⟨e0, e2, e3, e7, e4, e5, e6⟩
    dsimp only at e0 e2 e3 e4 e5 e6 e7
    rw [show dnI n i = nI (n - 1 - i) from if_pos hi] at e0
    subst e0
    have hneg : ¬ nI (n - 1 - i) < 0 := nI_pos (by omega)
    have hin : fz_in (nI (L + i)) 96 = true := fz_in_nI (by omega) (by decide)
    have h31 : L + i < 2 ^ 31 := by omega
    refine Or.inl ⟨(dnI n (i + 1), fz_w (fz_w M0 1 (L + i) (byC v (n - 1 - i))) 0 2 (nI (L + i + 1))), ⟨rfl, e2, fun d a b => ?_, fun j a => ?_, ?_, fun j hj => ?_, fun t ht => ?_⟩, fun kk => ?_⟩
    · show (fz_w _ _ _ _).1 d = _
      rw [w_ne a, w_ne b]; exact e3 d a b
    · show (fz_w _ _ _ _).1 0 j = _
      rw [w_nj a, w_ne (by decide)]; exact e7 j a
    · show (fz_w _ _ _ _).1 0 2 = _
      rw [w_at]; rfl
    · show (fz_w _ _ _ _).1 1 j = _
      rw [w_ne (by decide), w_nj (by omega)]; exact e5 j hj
    · show (fz_w _ _ _ _).1 1 _ = _
      rw [w_ne (by decide)]
      by_cases hti : t = i
      · subst hti; rw [w_at]
      · rw [w_nj (by omega)]; exact e6 t (by omega)
    · show f_X9_write_39_s kk v (nI (n - 1 - i)) M0 = _
      simp only [f_X9_write_39_s, hneg, fz_f_e, e4, fz_gd_t hin, fz_bd_e, fz_s_nI h31, fz_sf_e, w_ne (show (0 : Nat) ≠ 1 by decide), nI_1, dn_s hi, ↓reduceIte]
      rfl
  · rintro ⟨x, M0⟩ ⟨e0, e2, e3, e7, e4, e5, e6⟩
    dsimp only at e0 e2 e3 e4 e5 e6 e7
    rw [show dnI n n = -1 from if_neg (by omega)] at e0
    subst e0
    refine ⟨M0, ⟨e2, e3, e7, e4, e5, e6⟩, fun kk => ?_⟩
    show f_X9_write_39_s kk v (-1) M0 = _
    simp only [f_X9_write_39_s, show (-1 : Int32) < 0 from by decide, fz_f_e, e4, ↓reduceIte]
theorem p_write (a : Int32) (v : Int64) : fz_pW Rel (f_X8_write a v) (f_X9_write a v) := by
  intro MC MM hR
  have hR1 := hR.thrown
  generalize hM1 : fz_w MM 0 0 0 = M1 at hR1
  obtain ⟨L, t1, t2, t3, t4⟩ := hR1.text
  rcases x_btw a 1 8 (by decide) (by decide) with ⟨n, hn1, hn8, rfl⟩ | hx
  · have k1 : ¬ nI n < 1 := nI_nlt (a := n) (b := 1) hn1 (by omega)
    have k8 : nI n ≤ 8 := nI_le (b := 8) hn8 (by decide)
    have kin : (1 : Int32) ≤ nI n ∧ nI n ≤ 8 := ⟨nI_le (a := 1) hn1 (by omega), k8⟩
    have e0 : nI n - 1 = dnI n 0 := by
      rw [n_1, nI_sub hn1]
      unfold dnI
      rw [if_pos (by omega)]; rfl
    by_cases hL : L + n ≤ 96
    · have kL : nI L + nI n ≤ 96 := by rw [nI_add]; exact nI_le (b := 96) hL (by decide)
      obtain ⟨C1, a1, a2, a3, a4, a5, a6⟩ := wrC_e hn8 hL v MC t2
      obtain ⟨L1, b1, b2, b3, b4, b5, b6, b7⟩ := wrM_e hn8 hL v M1 t3
      refine ⟨nI (L + n), C1, L1, ?_, ?_, rel_low hR1 (fun c x y _ _ _ => a3 c x y) (by rw [a2]) (fun c x y _ _ => b3 c x y) (fun j _ x _ => b4 j x) (rMark_fr hR1.mark (a3 7 (by decide) (by decide)) (a3 8 (by decide) (by decide)) (a3 9 (by decide) (by decide)) (b4 43 (by decide)) (b3 32 (by decide) (by decide)) (b3 33 (by decide) (by decide))) ⟨L + n, hL, a4, b5, fun j hj => ?_⟩⟩
      · simp only [f_X8_write, f_X1_append, k1, k8, fz_f_e, t2, kL, fz_bd_e, e0, a1, fz_b1_e, a4, ↓reduceIte]
      · simp (decide := true) only [f_X9_write, fz_sf_e, hM1, fz_bd_e, in_18, kin, and_self, fz_b1_e, fz_f_e, t3, kL, e0, b1, ↓reduceIte]
      · by_cases hjL : j < L
        · rw [a5 j hjL, b6 j hjL]; exact t4 j hjL
        · obtain ⟨t, rfl⟩ : ∃ t, j = L + t := ⟨j - L, by omega⟩
          rw [a6 t (by omega), b7 t (by omega)]
    · have kL : ¬ nI L + nI n ≤ 96 := by rw [nI_add]; exact nI_ge (b := L + n) (a := 96) (by omega) (by omega)
      exact ⟨-4, MC, M1, by simp only [f_X8_write, k1, k8, fz_f_e, t2, kL, ↓reduceIte], by simp (decide := true) only [f_X9_write, fz_sf_e, hM1, fz_bd_e, in_18, kin, and_self, fz_b1_e, fz_f_e, t3, kL, ↓reduceIte], hR1⟩
  · have hno : ¬ (1 ≤ a ∧ a ≤ 8) := ge_of (a := 1) (b := 8) (by decide) (by decide) hx
    refine ⟨-2, MC, M1, ?_, by simp (decide := true) only [f_X9_write, fz_sf_e, hM1, fz_bd_e, in_18, hno, fz_b1_e, ↓reduceIte], hR1⟩
    by_cases k1 : a < 1
    · simp only [f_X8_write, k1, ↓reduceIte]
    · have k8 : ¬ a ≤ 8 := fun q => hno ⟨Int32.not_lt.mp k1, q⟩
      simp only [f_X8_write, k1, k8, ↓reduceIte]
