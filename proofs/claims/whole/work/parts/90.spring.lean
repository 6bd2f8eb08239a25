/-! a spring -/
def spO (Q : fz_A2) (i : Nat) : fz_A2 := if Q 3 i < 8 then up2 (up2 (up2 Q 2 i (Q 0 i)) (4 + i) (Q 3 i) (Q 0 i)) 3 i (Q 3 i + 1) else up2 Q 2 i (Q 0 i)
def spS (S : fz_A2) : Nat → fz_A2
  | 0 => S
  | i + 1 => if spS S i 2 i = spS S i 0 i then spS S i else spO (spS S i) i
def spN (S : fz_A2) : Nat → Nat
  | 0 => 0
  | i + 1 => if spS S i 2 i = spS S i 0 i then spN S i else spN S i + 1
theorem up2_ne {S : fz_A2} {c i v d j : Nat} (h : ¬ (d = c ∧ j = i)) : up2 S c i v d j = S d j := if_neg h
theorem up2_at {S : fz_A2} {c i v : Nat} : up2 S c i v c i = v := if_pos ⟨rfl, rfl⟩
theorem spN_le (S : fz_A2) (i : Nat) : spN S i ≤ i := by
  induction i with
  | zero => exact Nat.le_refl 0
  | succ i ih =>
    simp only [spN]
    split <;> omega
theorem spO_w {T Q : fz_A2} (h : wS T Q) (i : Nat) : wS T (spO Q i) := by
  intro p hp
  obtain ⟨a1, a2, a3, a4, a5⟩ := h p hp
  unfold spO
  split
  · rename_i h8
    by_cases hpi : p = i
    · subst hpi
      rw [up2_ne (by omega), up2_ne (by omega), up2_ne (by omega), up2_ne (by omega), up2_ne (by omega), up2_ne (by omega), up2_ne (by omega), up2_ne (by omega), up2_at, up2_at]
      exact ⟨a1, a2, a1, by omega, by omega⟩
    · simp (disch := omega) only [up2_ne]
      exact ⟨a1, a2, a3, a4, a5⟩
  · by_cases hpi : p = i
    · subst hpi
      rw [up2_ne (by omega), up2_ne (by omega), up2_at, up2_ne (by omega)]
      exact ⟨a1, a2, a1, a4, a5⟩
    · simp (disch := omega) only [up2_ne]
      exact ⟨a1, a2, a3, a4, a5⟩
theorem spS_w {T S : fz_A2} (h : wS T S) (i : Nat) : wS T (spS S i) := by
  induction i with
  | zero => exact h
  | succ i ih =>
    show wS T (if _ then _ else _)
    split
    · exact ih
    · exact spO_w ih i
theorem cS_w {k nP : Nat} {S : fz_A2} {sp : Int32} {M : fz_M} (h : cS k nP S sp M) {c i v : Nat} (hc : c < 3) : cS k nP (up2 S c i v) sp (fz_w M (k + 1 + c) i (nI v)) := by
  refine ⟨by rw [w_ne (by omega)]; exact h.1, fun p hp => ?_⟩
  obtain ⟨b1, b2, b3, b4, b5⟩ := h.2 p hp
  have key : ∀ d, d < 3 → M.1 (k + 1 + d) p = nI (S d p) → (fz_w M (k + 1 + c) i (nI v)).1 (k + 1 + d) p = nI (up2 S c i v d p) := by
    intro d hd hM
    by_cases hq : d = c ∧ p = i
    · obtain ⟨rfl, rfl⟩ := hq
      rw [w_at, up2_at]
    · rw [w_o (by omega), up2_ne hq]; exact hM
  refine ⟨key 0 (by decide) b1, key 1 (by decide) b2, key 2 (by decide) b3, ?_, fun z hz => ?_⟩
  · rw [w_o (by omega), up2_ne (by omega)]; exact b4
  · rw [up2_ne (by omega)] at hz ⊢
    rw [w_o (by omega)]; exact b5 z hz
theorem cS_own {k nP : Nat} {S : fz_A2} {sp : Int32} {M : fz_M} (h : cS k nP S sp M) {i v : Nat} : cS k nP (up2 (up2 S (4 + i) (S 3 i) v) 3 i (S 3 i + 1)) sp (fz_w (fz_w M (k + 6 + i) (S 3 i) (nI v)) (k + 4) i (nI (S 3 i + 1))) := by
  refine ⟨by rw [w_ne (by omega), w_ne (by omega)]; exact h.1, fun p hp => ?_⟩
  obtain ⟨b1, b2, b3, b4, b5⟩ := h.2 p hp
  refine ⟨?_, ?_, ?_, ?_, fun z hz => ?_⟩
  · rw [w_o (by omega), w_o (by omega), up2_ne (by omega), up2_ne (by omega)]; exact b1
  · rw [w_o (by omega), w_o (by omega), up2_ne (by omega), up2_ne (by omega)]; exact b2
  · rw [w_o (by omega), w_o (by omega), up2_ne (by omega), up2_ne (by omega)]; exact b3
  · by_cases hpi : p = i
    · subst hpi; rw [w_at, up2_at]
    · rw [w_o (by omega), w_o (by omega), up2_ne (by omega), up2_ne (by omega)]; exact b4
  · rw [w_o (by omega), up2_ne (show ¬ (4 + p = 3 ∧ z = i) by omega)]
    by_cases hpi : p = i
    · subst hpi
      rw [up2_at] at hz
      by_cases hz2 : z = S 3 p
      · subst hz2; rw [w_at, up2_at]
      · rw [w_o (by omega), up2_ne (by omega)]; exact b5 z (by omega)
    · rw [up2_ne (by omega), up2_ne (by omega)] at hz
      rw [w_o (by omega), up2_ne (by omega)]; exact b5 z hz
theorem mL_w {nP : Nat} {S : fz_A2} {sp : Int32} {M : fz_M} (h : mL nP S sp M) {i v : Nat} : mL nP (up2 S 2 i v) sp (fz_w M 15 i (nI v)) := by
  refine ⟨by rw [w_ne (by omega)]; exact h.1, fun p hp => ?_⟩
  obtain ⟨b1, b2, b3, b4, b5⟩ := h.2 p hp
  refine ⟨?_, ?_, ?_, ?_, fun z hz => ?_⟩
  · rw [w_o (by omega), up2_ne (by omega)]; exact b1
  · rw [w_o (by omega), up2_ne (by omega)]; exact b2
  · by_cases hpi : p = i
    · subst hpi; rw [w_at, up2_at]
    · rw [w_o (by omega), up2_ne (by omega)]; exact b3
  · rw [w_o (by omega), up2_ne (by omega)]; exact b4
  · rw [up2_ne (by omega)] at hz ⊢
    rw [w_o (by omega)]; exact b5 z hz
theorem mL_own {nP : Nat} {S : fz_A2} {sp : Int32} {M : fz_M} (h : mL nP S sp M) {i v : Nat} (hS : ∀ p, p < nP → S 3 p ≤ 8) (h8 : S 3 i < 8) : mL nP (up2 (up2 S (4 + i) (S 3 i) v) 3 i (S 3 i + 1)) sp (fz_w (fz_w M 13 (8 * i + S 3 i) (nI v)) 14 i (nI (S 3 i + 1))) := by
  refine ⟨by rw [w_ne (by omega), w_ne (by omega)]; exact h.1, fun p hp => ?_⟩
  obtain ⟨b1, b2, b3, b4, b5⟩ := h.2 p hp
  have hp8 := hS p hp
  refine ⟨?_, ?_, ?_, ?_, fun z hz => ?_⟩
  · rw [w_o (by omega), w_o (by omega), up2_ne (by omega), up2_ne (by omega)]; exact b1
  · rw [w_o (by omega), w_o (by omega), up2_ne (by omega), up2_ne (by omega)]; exact b2
  · rw [w_o (by omega), w_o (by omega), up2_ne (by omega), up2_ne (by omega)]; exact b3
  · by_cases hpi : p = i
    · subst hpi; rw [w_at, up2_at]
    · rw [w_o (by omega), w_o (by omega), up2_ne (by omega), up2_ne (by omega)]; exact b4
  · rw [w_o (by omega), up2_ne (show ¬ (4 + p = 3 ∧ z = i) by omega)]
    by_cases hpi : p = i
    · subst hpi
      rw [up2_at] at hz
      by_cases hz2 : z = S 3 p
      · subst hz2; rw [w_at, up2_at]
      · rw [w_o (by omega), up2_ne (by omega)]; exact b5 z (by omega)
    · rw [up2_ne (by omega), up2_ne (by omega)] at hz
      rw [w_o (by omega), up2_ne (by omega)]; exact b5 z hz
theorem ps_e {T S : fz_A2} {sp : Int32} {M : fz_M} (hn : T 0 2 ≤ 6) (hn0 : T 0 0 ≤ 6) (h : cS 40 (T 0 2) S sp M) (hw : wS T S) : ∃ M', f_X6_passSpring 40 (nI (T 0 2)) M = some (nI (spN S (T 0 2)), M') ∧ M'.2 = M.2 ∧ (∀ d, (d < 40 ∨ 52 ≤ d) → M'.1 d = M.1 d) ∧ cS 40 (T 0 2) (spS S (T 0 2)) (sp + 1) M' := by
  unfold f_X6_passSpring
  rw [fz_sf_e, fz_bd_e, fz_f_e]
  unfold f_X6_passSpring_14
  refine lp_gen (K := fun a => some (nI (spN S (T 0 2)), a)) (fun i (z : Int32 × Int32 × fz_M) => z.2.1 = nI i ∧ z.1 = nI (spN S i) ∧ z.2.2.2 = M.2 ∧ (∀ d, (d < 40 ∨ 52 ≤ d) → z.2.2.1 d = M.1 d) ∧ cS 40 (T 0 2) (spS S i) (sp + 1) z.2.2) (T 0 2) ?_ ?_ (by unfold fz_fuel; omega) ⟨rfl, rfl, rfl, fun d h => w_ne (by omega), ⟨by rw [w_at, h.1], fun p hp => ?_⟩⟩
  · rintro i ⟨x, y, M0⟩ hi ⟨e0, e1, e2, e3, e4⟩
    dsimp only at e0 e1 e2 e3 e4
    subst e0; subst e1
    have hin : fz_in (nI i) 6 = true := fz_in_nI (by omega) (by decide)
    have h31 : i < 2 ^ 31 := by omega
    have hlt : ¬ nI (T 0 2) ≤ nI i := nI_ge hi (by omega)
    obtain ⟨b1, b2, b3, b4, b5⟩ := e4.2 i hi
    obtain ⟨u1, u2, u3, u4, u5⟩ := spS_w hw i i hi
    have hN := spN_le S i
    by_cases hq : spS S i 2 i = spS S i 0 i
    · refine Or.inl ⟨(nI (spN S i), nI (i + 1), M0), ⟨rfl, ?_, e2, e3, ?_⟩, fun kk => ?_⟩
      · show nI (spN S i) = nI (if _ then _ else _)
        rw [if_pos hq]
      · show cS 40 _ (if _ then _ else _) _ _
        rw [if_pos hq]; exact e4
      · show f_X6_passSpring_14_s 40 kk (nI (T 0 2)) (nI (spN S i)) (nI i) M0 = _
        simp only [f_X6_passSpring_14_s, hlt, fz_gd_t hin, fz_g_nI h31, b1, b3, hq, nI_1, ↓reduceIte]
    · have hq' : ¬ nI (spS S i 2 i) = nI (spS S i 0 i) := by rw [nI_eq (by omega) (by omega)]; exact hq
      have k1 : (40 + 3 : Nat) ≠ 40 + 4 := by decide
      by_cases h8 : spS S i 3 i < 8
      · have hin8 : fz_in (nI (spS S i 3 i)) 8 = true := fz_in_nI h8 (by decide)
        have hlt8 : ¬ (8 : Int32) ≤ nI (spS S i 3 i) := show ¬ nI 8 ≤ _ from nI_ge h8 (by decide)
        have h318 : spS S i 3 i < 2 ^ 31 := by omega
        have hc2 : cS 40 (T 0 2) (up2 (up2 (up2 (spS S i) 2 i (spS S i 0 i)) (4 + i) (spS S i 3 i) (spS S i 0 i)) 3 i (spS S i 3 i + 1)) (sp + 1) (fz_w (fz_w (fz_w M0 (40 + 3) i (nI (spS S i 0 i))) (40 + 6 + i) (spS S i 3 i) (nI (spS S i 0 i))) (40 + 4) i (nI (spS S i 3 i + 1))) := by
          have := cS_own (cS_w e4 (c := 2) (i := i) (v := spS S i 0 i) (by decide)) (i := i) (v := spS S i 0 i)
          rw [up2_ne (show ¬ ((3 : Nat) = 2 ∧ i = i) by omega)] at this
          exact this
        refine Or.inl ⟨(nI (spN S i + 1), nI (i + 1), fz_w (fz_w (fz_w M0 (40 + 3) i (nI (spS S i 0 i))) (40 + 6 + i) (spS S i 3 i) (nI (spS S i 0 i))) (40 + 4) i (nI (spS S i 3 i + 1))), ⟨rfl, ?_, e2, fun d h => ?_, ?_⟩, fun kk => ?_⟩
        · simp only [spN, hq, ↓reduceIte]
        · show (fz_w _ _ _ _).1 d = _
          rw [w_ne (by omega), w_ne (by omega), w_ne (by omega)]; exact e3 d h
        · simp only [spS, spO, hq, h8, ↓reduceIte]
          exact hc2
        · show f_X6_passSpring_14_s 40 kk (nI (T 0 2)) (nI (spN S i)) (nI i) M0 = _
          simp only [f_X6_passSpring_14_s, f_X6_addOwner, hlt, fz_gd_t hin, fz_gd_t hin8, fz_g_nI h31, fz_s_nI h31, fz_s_nI h318, b1, b3, hq', fz_b1_e, fz_bd_e, w_ne (Ne.symm k1), b4, hlt8, nI_clamp h31, Nat.one_mul, nI_1, ↓reduceIte]
      · have hlt8 : (8 : Int32) ≤ nI (spS S i 3 i) := show nI 8 ≤ _ from nI_le (by omega) (by omega)
        refine Or.inl ⟨(nI (spN S i + 1), nI (i + 1), fz_w M0 (40 + 3) i (nI (spS S i 0 i))), ⟨rfl, ?_, e2, fun d h => ?_, ?_⟩, fun kk => ?_⟩
        · simp only [spN, hq, ↓reduceIte]
        · show (fz_w _ _ _ _).1 d = _
          rw [w_ne (by omega)]; exact e3 d h
        · simp only [spS, spO, hq, h8, ↓reduceIte]
          exact cS_w e4 (c := 2) (by decide)
        · show f_X6_passSpring_14_s 40 kk (nI (T 0 2)) (nI (spN S i)) (nI i) M0 = _
          simp only [f_X6_passSpring_14_s, f_X6_addOwner, hlt, fz_gd_t hin, fz_g_nI h31, fz_s_nI h31, b1, b3, hq', fz_b1_e, fz_bd_e, w_ne (Ne.symm k1), b4, hlt8, nI_1, ↓reduceIte]
  · rintro ⟨x, y, M0⟩ ⟨e0, e1, e2, e3, e4⟩
    dsimp only at e0 e1 e2 e3 e4
    subst e0; subst e1
    refine ⟨M0, ⟨e2, e3, e4⟩, fun kk => ?_⟩
    show f_X6_passSpring_14_s 40 kk (nI (T 0 2)) (nI (spN S (T 0 2))) (nI (T 0 2)) M0 = _
    simp only [f_X6_passSpring_14_s, show nI (T 0 2) ≤ nI (T 0 2) from nI_le (Nat.le_refl _) (by omega), ↓reduceIte]
  · show (fz_w M 40 0 (M.1 40 0 + 1)).1 _ _ = _ ∧ (fz_w M 40 0 (M.1 40 0 + 1)).1 _ _ = _ ∧ (fz_w M 40 0 (M.1 40 0 + 1)).1 _ _ = _ ∧ (fz_w M 40 0 (M.1 40 0 + 1)).1 _ _ = _ ∧ ∀ i, _ → (fz_w M 40 0 (M.1 40 0 + 1)).1 _ _ = _
    simp (disch := omega) only [w_ne]
    exact h.2 p hp
theorem sp_e {T S : fz_A2} {sp : Int32} {M : fz_M} (hn : T 0 2 ≤ 6) (hn0 : T 0 0 ≤ 6) (h : mL (T 0 2) S sp M) (hm : M.1 0 6 = nI (T 0 2)) (hw : wS T S) : ∃ M', f_X9_spring_13 0 0 M = some (nI (spN S (T 0 2)), M') ∧ M'.2 = M.2 ∧ (∀ d, d ≠ 0 → (d < 11 ∨ 15 < d) → M'.1 d = M.1 d) ∧ (∀ j, j ≠ 21 → M'.1 0 j = M.1 0 j) ∧ mL (T 0 2) (spS S (T 0 2)) (sp + 1) M' := by
  unfold f_X9_spring_13
  refine lp_gen (K := fun a => some (nI (spN S (T 0 2)), a)) (fun i (z : Int32 × Int32 × fz_M) => z.2.1 = nI i ∧ z.1 = nI (spN S i) ∧ z.2.2.2 = M.2 ∧ (∀ d, (d < 11 ∨ 15 < d) → z.2.2.1 d = M.1 d) ∧ mL (T 0 2) (spS S i) sp z.2.2) (T 0 2) ?_ ?_ (by unfold fz_fuel; omega) ⟨rfl, rfl, rfl, fun d h => rfl, h⟩
  · rintro i ⟨x, y, M0⟩ hi ⟨e0, e1, e2, e3, e4⟩
    dsimp only at e0 e1 e2 e3 e4
    subst e0; subst e1
    have hin : fz_in (nI i) 6 = true := fz_in_nI (by omega) (by decide)
    have h31 : i < 2 ^ 31 := by omega
    have hm0 : M0.1 0 6 = nI (T 0 2) := by rw [e3 0 (by decide)]; exact hm
    have hlt : ¬ nI (T 0 2) ≤ nI i := nI_ge hi (by omega)
    obtain ⟨b1, b2, b3, b4, b5⟩ := e4.2 i hi
    obtain ⟨u1, u2, u3, u4, u5⟩ := spS_w hw i i hi
    by_cases hq : spS S i 2 i = spS S i 0 i
    · refine Or.inl ⟨(nI (spN S i), nI (i + 1), M0), ⟨rfl, ?_, e2, e3, ?_⟩, fun kk => ?_⟩
      · simp only [spN, hq, ↓reduceIte]
      · simp only [spS, hq, ↓reduceIte]
        exact e4
      · show f_X9_spring_13_s kk (nI (spN S i)) (nI i) M0 = _
        simp only [f_X9_spring_13_s, fz_f_e, hm0, hlt, fz_gd_t hin, fz_g_nI h31, b1, b3, hq, nI_1, ↓reduceIte]
    · have hq' : ¬ nI (spS S i 2 i) = nI (spS S i 0 i) := by rw [nI_eq (by omega) (by omega)]; exact hq
      by_cases h8 : spS S i 3 i < 8
      · have hlt8 : ¬ (8 : Int32) ≤ nI (spS S i 3 i) := show ¬ nI 8 ≤ _ from nI_ge h8 (by decide)
        have ex : (8 : Int32) * nI i + nI (spS S i 3 i) = nI (8 * i + spS S i 3 i) := by rw [n_8, nI_mul, nI_add]
        have hin48 : fz_in (nI (8 * i + spS S i 3 i)) 48 = true := fz_in_nI (by omega) (by decide)
        have h318 : 8 * i + spS S i 3 i < 2 ^ 31 := by omega
        have hc2 : mL (T 0 2) (up2 (up2 (up2 (spS S i) 2 i (spS S i 0 i)) (4 + i) (spS S i 3 i) (spS S i 0 i)) 3 i (spS S i 3 i + 1)) sp (fz_w (fz_w (fz_w M0 15 i (nI (spS S i 0 i))) 13 (8 * i + spS S i 3 i) (nI (spS S i 0 i))) 14 i (nI (spS S i 3 i + 1))) := by
          have t3 : up2 (spS S i) 2 i (spS S i 0 i) 3 i = spS S i 3 i := up2_ne (by omega)
          have := mL_own (mL_w e4 (i := i) (v := spS S i 0 i)) (i := i) (v := spS S i 0 i) (fun p hp => by rw [up2_ne (by omega)]; exact (spS_w hw i p hp).2.2.2.2) (by rw [t3]; exact h8)
          rw [t3] at this
          exact this
        refine Or.inl ⟨(nI (spN S i + 1), nI (i + 1), fz_w (fz_w (fz_w M0 15 i (nI (spS S i 0 i))) 13 (8 * i + spS S i 3 i) (nI (spS S i 0 i))) 14 i (nI (spS S i 3 i + 1))), ⟨rfl, ?_, e2, fun d h => ?_, ?_⟩, fun kk => ?_⟩
        · simp only [spN, hq, ↓reduceIte]
        · show (fz_w _ _ _ _).1 d = _
          rw [w_ne (by omega), w_ne (by omega), w_ne (by omega)]; exact e3 d h
        · simp only [spS, spO, hq, h8, ↓reduceIte]
          exact hc2
        · show f_X9_spring_13_s kk (nI (spN S i)) (nI i) M0 = _
          simp only [f_X9_spring_13_s, fz_f_e, hm0, hlt, fz_gd_t hin, fz_g_nI h31, fz_s_nI h31, b1, b3, hq', fz_bd_e, w_ne (show (14 : Nat) ≠ 15 by decide), w_ne (show (11 : Nat) ≠ 15 by decide), w_ne (show (14 : Nat) ≠ 13 by decide), b4, hlt8, ex, fz_gd_t hin48, fz_s_nI h318, nI_1, ↓reduceIte]
      · have hlt8 : (8 : Int32) ≤ nI (spS S i 3 i) := show nI 8 ≤ _ from nI_le (by omega) (by omega)
        refine Or.inl ⟨(nI (spN S i + 1), nI (i + 1), fz_w M0 15 i (nI (spS S i 0 i))), ⟨rfl, ?_, e2, fun d h => ?_, ?_⟩, fun kk => ?_⟩
        · simp only [spN, hq, ↓reduceIte]
        · show (fz_w _ _ _ _).1 d = _
          rw [w_ne (by omega)]; exact e3 d h
        · simp only [spS, spO, hq, h8, ↓reduceIte]
          exact mL_w e4
        · show f_X9_spring_13_s kk (nI (spN S i)) (nI i) M0 = _
          simp only [f_X9_spring_13_s, fz_f_e, hm0, hlt, fz_gd_t hin, fz_g_nI h31, fz_s_nI h31, b1, b3, hq', fz_bd_e, w_ne (show (14 : Nat) ≠ 15 by decide), b4, hlt8, nI_1, ↓reduceIte]
  · rintro ⟨x, y, M0⟩ ⟨e0, e1, e2, e3, e4⟩
    dsimp only at e0 e1 e2 e3 e4
    subst e0; subst e1
    have hm0 : M0.1 0 6 = nI (T 0 2) := by rw [e3 0 (by decide)]; exact hm
    refine ⟨fz_w M0 0 21 (sp + 1), ⟨e2, fun d x y => by rw [w_ne x]; exact e3 d y, fun j x => by rw [w_nj x, e3 0 (by decide)], ⟨w_at, fun p hp => ?_⟩⟩, fun kk => ?_⟩
    · rw [w_ne (by decide), w_ne (by decide), w_ne (by decide), w_ne (by decide), w_ne (by decide)]
      exact e4.2 p hp
    · show f_X9_spring_13_s kk (nI (spN S (T 0 2))) (nI (T 0 2)) M0 = _
      simp only [f_X9_spring_13_s, fz_f_e, fz_sf_e, fz_bd_e, hm0, e4.1, show nI (T 0 2) ≤ nI (T 0 2) from nI_le (Nat.le_refl _) (by omega), ↓reduceIte]
theorem p_spring : fz_pW Rel f_X8_spring f_X9_spring := by
  intro MC MM hR
  have hR1 := hR.thrown
  generalize hM1 : fz_w MM 0 0 0 = M1 at hR1
  obtain ⟨P, T, S, sp, B, h1, h2, h3, h4, h5, h6, h7, h8⟩ := hR1
  have hn := h2.2.2.2.2.1
  have hP := rTop_P h1
  obtain ⟨C1, L1, a1, a2, a3, a4, a5, a6, a7, a8⟩ := rem_e hn h3 h5
  have hP1 : C1.2.2 0 9 = P := by rw [a4]; exact h1.1
  have hT2 : C1.1 P 2 = nI (T 0 2) := by rw [a6 P (by omega) (by omega)]; exact h2.1.2.2.1
  obtain ⟨C2, b1, b2, b3, b4⟩ := ps_e hn h2.2.2.1 (cS_fr h3.1 hn fun o ho => a6 _ (by omega) (by omega)) h3.2.2
  obtain ⟨L2, c1, c2, c3, c4, c5⟩ := sp_e hn h2.2.2.1 (mL_fr h3.2.1 (a8 21 (by decide)) fun c x y => a7 c (by omega) (by omega)) ((a8 6 (by decide)).trans h2.2.1.2.2.1) h3.2.2
  have gC : ∀ d, d ≠ 5 → (d < 40 ∨ 52 ≤ d) → d < 79 → C2.1 d = MC.1 d := fun d x y z => by rw [b3 d y, a6 d x z]
  have g : ∀ d, d ≠ 0 → (d < 11 ∨ 15 < d) → d ≠ 25 → L2.1 d = M1.1 d := fun d x y z => by rw [c3 d x y, a7 d x z]
  have g0 : ∀ j, j ≠ 21 → j ≠ 35 → L2.1 0 j = M1.1 0 j := fun j x y => by rw [c4 j x, a8 j y]
  refine ⟨nI (spN S (T 0 2)), C2, L2, ?_, ?_, P, T, spS S (T 0 2), sp + 1, B, rTop_fr h1 (by rw [b2, a4]), ⟨cT_fr h2.1 fun o ho => gC _ (by omega) (by omega) (by omega), mT_fr h2.2.1 (g0 4 (by decide) (by decide)) (g0 5 (by decide) (by decide)) (g0 6 (by decide) (by decide)) (fun c x y z => g c (by omega) (by omega) (by omega)), h2.2.2⟩, ⟨b4, c5, spS_w h3.2.2 _⟩, rShut_fr h4 (gC 52 (by omega) (by omega) (by omega)) (g 7 (by decide) (by decide) (by decide)), rActs_fr a3 hn (b3 5 (by omega)) (fun c hc => b3 c (by omega)) (c4 35 (by decide)) (c3 25 (by decide) (by decide)), rKept_fr h6 hn (gC 19 (by omega) (by omega) (by omega)) (fun c x y => gC c (by omega) (by omega) (by omega)) (g 26 (by decide) (by decide) (by decide)) (g 27 (by decide) (by decide) (by decide)) (g 28 (by decide) (by decide) (by decide)), rMark_fr h7 (gC 7 (by omega) (by omega) (by omega)) (gC 8 (by omega) (by omega) (by omega)) (gC 9 (by omega) (by omega) (by omega)) (g0 43 (by decide) (by decide)) (g 32 (by decide) (by decide) (by decide)) (g 33 (by decide) (by decide) (by decide)), rText_fr h8 (gC 1 (by omega) (by omega) (by omega)) (gC 2 (by omega) (by omega) (by omega)) (g0 2 (by decide) (by decide)) (g 1 (by decide) (by decide) (by decide))⟩
  · simp only [f_X8_spring, a1, fz_b1_e, fz_bd_e, fz_d_e, hP1, fz_gd_t (isP_ok h1), fz_f_e, hT2, b1, fz_b2_e]
  · simp only [f_X9_spring, fz_sf_e, hM1, fz_bd_e, a2, fz_b1_e, c1]
