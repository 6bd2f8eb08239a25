theorem leavB_h {R : fz_A2} {a : Nat} (h : leavB R a = true) : a < R 0 0 := by
  unfold leavB at h
  rw [Bool.and_eq_true, decide_eq_true_eq] at h
  exact h.1
theorem cLea_e {P a : Nat} {R : fz_A2} {M : fz_M} (ha : a < 2 ^ 31) (hT : cT P R M) (hw : wT R) : f_X3_canLeave P (nI a) M = some (if leavB R a = true then 1 else 0) := by
  have hn0 := hw.1
  have k1 : (nI (R 0 0) ≤ nI a) = (R 0 0 ≤ a) := propext (nI_leI (by omega) ha)
  have hl : lefT R a ≤ 10 := Nat.sub_le _ _
  unfold f_X3_canLeave leavB
  rw [fz_f_e, hT.1]
  by_cases c1 : R 0 0 ≤ a
  · rw [if_pos (by rw [k1]; exact c1), decide_eq_false (show ¬ a < R 0 0 by omega)]; rfl
  · rw [if_neg (by rw [k1]; exact c1), decide_eq_true (show a < R 0 0 by omega), cLef_e ha hT hw, fz_b1_e]
    by_cases c2 : 1 ≤ lefT R a
    · rw [if_pos (show (1 : Int32) ≤ nI (lefT R a) from nI_le (a := 1) c2 (by omega)), decide_eq_true c2]
      have t : f_X3_canLeave_21 P (nI a) 0 M = some (if anyB (joinB R a) (R 0 0) = true then 1 else 0) := by
        unfold f_X3_canLeave_21
        refine lp_inv (F := fun ag z => f_X3_canLeave_21_s P ag (nI a) z M) (fun i (s : Int32) => s = nI i ∧ anyB (joinB R a) i = false) (fun r => r = some (if anyB (joinB R a) (R 0 0) = true then 1 else 0)) (R 0 0) ?_ ?_ (by unfold fz_fuel; omega) ⟨rfl, rfl⟩
        · rintro i x hi ⟨rfl, e2⟩
          have hlt : ¬ nI (R 0 0) ≤ nI i := nI_ge hi (by omega)
          have hj := cJoi_e (b := i) ha (by omega) hT hw
          by_cases c : joinB R a i = true
          · rw [if_pos c] at hj
            have ht : anyB (joinB R a) (R 0 0) = true := anyB_mono (i := i + 1) hi (by simp only [anyB, c, Bool.or_true])
            refine Or.inr ⟨some 1, by rw [ht]; rfl, fun kk => ?_⟩
            simp (decide := true) only [f_X3_canLeave_21_s, fz_f_e, hT.1, hlt, hj, fz_b1_e, ↓reduceIte]
          · rw [if_neg c] at hj
            refine Or.inl ⟨nI (i + 1), ⟨rfl, by simp only [anyB, e2, Bool.eq_false_iff.mpr c, Bool.or_false]⟩, fun kk => ?_⟩
            simp (decide := true) only [f_X3_canLeave_21_s, fz_f_e, hT.1, hlt, hj, fz_b1_e, nI_1, ↓reduceIte]
        · rintro x ⟨rfl, e2⟩
          refine ⟨some 0, by rw [e2]; rfl, fun kk => ?_⟩
          simp only [f_X3_canLeave_21_s, fz_f_e, hT.1, show nI (R 0 0) ≤ nI (R 0 0) from nI_le (Nat.le_refl _) (by omega), ↓reduceIte]
      rw [t]
      cases anyB (joinB R a) (R 0 0) <;> rfl
    · rw [if_neg (show ¬ (1 : Int32) ≤ nI (lefT R a) from nI_ge (b := 1) (by omega) (by decide)), decide_eq_false c2]; rfl
theorem cHav_e {P : Nat} {R : fz_A2} {M : fz_M} (hT : cT P R M) (hw : wT R) : f_X3_canHaveStream P M = some (if (decide (R 0 1 < 10) && anyB (leavB R) (R 0 0)) = true then 1 else 0) := by
  have hn0 := hw.1
  have hn1 := hw.2.1
  have k1 : (nI (R 0 1) < 10) = (R 0 1 < 10) := propext (nI_ltI (b := 10) (by omega) (by decide))
  unfold f_X3_canHaveStream
  rw [fz_f_e, hT.2.1]
  by_cases c1 : R 0 1 < 10
  · rw [if_pos (by rw [k1]; exact c1), decide_eq_true c1, Bool.true_and]
    unfold f_X3_canHaveStream_13
    refine lp_inv (F := fun ag z => f_X3_canHaveStream_13_s P ag z M) (fun i (s : Int32) => s = nI i ∧ anyB (leavB R) i = false) (fun r => r = some (if anyB (leavB R) (R 0 0) = true then 1 else 0)) (R 0 0) ?_ ?_ (by unfold fz_fuel; omega) ⟨rfl, rfl⟩
    · rintro i x hi ⟨rfl, e2⟩
      have hlt : ¬ nI (R 0 0) ≤ nI i := nI_ge hi (by omega)
      have hj := cLea_e (a := i) (by omega) hT hw
      by_cases c : leavB R i = true
      · rw [if_pos c] at hj
        have ht : anyB (leavB R) (R 0 0) = true := anyB_mono (i := i + 1) hi (by simp only [anyB, c, Bool.or_true])
        refine Or.inr ⟨some 1, by rw [ht]; rfl, fun kk => ?_⟩
        simp (decide := true) only [f_X3_canHaveStream_13_s, fz_f_e, hT.1, hlt, hj, fz_b1_e, ↓reduceIte]
      · rw [if_neg c] at hj
        refine Or.inl ⟨nI (i + 1), ⟨rfl, by simp only [anyB, e2, Bool.eq_false_iff.mpr c, Bool.or_false]⟩, fun kk => ?_⟩
        simp (decide := true) only [f_X3_canHaveStream_13_s, fz_f_e, hT.1, hlt, hj, fz_b1_e, nI_1, ↓reduceIte]
    · rintro x ⟨rfl, e2⟩
      refine ⟨some 0, by rw [e2]; rfl, fun kk => ?_⟩
      simp only [f_X3_canHaveStream_13_s, fz_f_e, hT.1, show nI (R 0 0) ≤ nI (R 0 0) from nI_le (Nat.le_refl _) (by omega), ↓reduceIte]
  · rw [if_neg (by rw [k1]; exact c1), decide_eq_false c1]; rfl
theorem mTol_e {a b : Nat} {R : fz_A2} {M : fz_M} (ha : a < 2 ^ 31) (hb : b < 2 ^ 31) (hT : mR R M) (hw : wT R) : f_X9_isTold (nI a) (nI b) M = some (if told R a b (R 0 1) = true then 1 else 0) := by
  have hn := hw.2.1
  have hn0 := hw.1
  unfold f_X9_isTold f_X9_isTold_5
  refine lp_run (fun i => ((if told R a b i = true then (1 : Int32) else 0), nI i)) (R 0 1) _ (fun i hi kk => ?_) (fun kk => ?_) (by unfold fz_fuel; omega)
  · have hin : fz_in (nI i) 10 = true := fz_in_nI (by omega) (by decide)
    have h31 : i < 2 ^ 31 := by omega
    have hlt : ¬ nI (R 0 1) ≤ nI i := nI_ge hi (by omega)
    obtain ⟨a3, a4, -⟩ := hT.2.2.2.2.1 i hi
    obtain ⟨u3, u4, -⟩ := hw.2.2.2.2.1 i hi
    have q3 : (nI (R 3 i) = nI a) = (R 3 i = a) := propext (nI_eq (by omega) ha)
    have q4 : (nI (R 4 i) = nI b) = (R 4 i = b) := propext (nI_eq (by omega) hb)
    show f_X9_isTold_5_s kk (nI a) (nI b) (if told R a b i = true then 1 else 0) (nI i) M = kk (if told R a b (i + 1) = true then 1 else 0, nI (i + 1))
    by_cases c0 : told R a b i = true
    · simp (decide := true) only [f_X9_isTold_5_s, f_X9_isTold_45, fz_f_e, hT.2.1, hlt, told, c0, Bool.true_or, nI_1, ↓reduceIte]
    · have c0' : told R a b i = false := Bool.eq_false_iff.mpr c0
      by_cases d3 : R 3 i = a
      · by_cases d4 : R 4 i = b
        · simp (decide := true) only [f_X9_isTold_5_s, f_X9_isTold_44, f_X9_isTold_45, fz_f_e, hT.2.1, hlt, fz_gd_t hin, fz_g_nI h31, a3, a4, q3, q4, told, c0', d3, d4, decide_true, Bool.and_true, Bool.or_true, nI_1, ↓reduceIte, not_true_eq_false]
        · simp (decide := true) only [f_X9_isTold_5_s, f_X9_isTold_44, f_X9_isTold_45, fz_f_e, hT.2.1, hlt, fz_gd_t hin, fz_g_nI h31, a3, a4, q3, q4, told, c0', d3, d4, decide_false, Bool.and_false, Bool.or_false, nI_1, ↓reduceIte, not_true_eq_false, not_false_eq_true]
      · simp (decide := true) only [f_X9_isTold_5_s, f_X9_isTold_44, f_X9_isTold_45, fz_f_e, hT.2.1, hlt, fz_gd_t hin, fz_g_nI h31, a3, q3, told, c0', d3, decide_false, Bool.false_and, Bool.or_false, nI_1, ↓reduceIte, not_false_eq_true]
  · show f_X9_isTold_5_s kk (nI a) (nI b) (if told R a b (R 0 1) = true then 1 else 0) (nI (R 0 1)) M = _
    have hb : fz_nb (if told R a b (R 0 1) = true then 1 else 0) = true := by split <;> decide
    simp only [f_X9_isTold_5_s, fz_f_e, hT.2.1, show nI (R 0 1) ≤ nI (R 0 1) from nI_le (Nat.le_refl _) (by omega), fz_gd_t hb, ↓reduceIte]
theorem mMor_e {a : Nat} {R : fz_A2} {M : fz_M} (ha : a < R 0 0) (hT : mR R M) (hw : wT R) : f_X9_hasMore (nI a) M = some (if leavB R a = true then 1 else 0) := by
  have hn0 := hw.1
  have hl : lefT R a ≤ 10 := Nat.sub_le _ _
  have hlf := mLef_e (a := a) (by omega) hT hw
  unfold f_X9_hasMore f_X9_hasMore_4 leavB
  rw [decide_eq_true ha, Bool.true_and]
  refine lp_run (fun i => ((if anyB (joinB R a) i = true then (1 : Int32) else 0), nI i)) (R 0 0) _ (fun i hi kk => ?_) (fun kk => ?_) (by unfold fz_fuel; omega)
  · have hlt : ¬ nI (R 0 0) ≤ nI i := nI_ge hi (by omega)
    have k0 : (nI a = nI i) = (a = i) := propext (nI_eq (by omega) (by omega))
    have ht := mTol_e (a := a) (b := i) (by omega) (by omega) hT hw
    show f_X9_hasMore_4_s kk (nI a) (if anyB (joinB R a) i = true then 1 else 0) (nI i) M = kk (if anyB (joinB R a) (i + 1) = true then 1 else 0, nI (i + 1))
    by_cases c0 : anyB (joinB R a) i = true
    · simp (decide := true) only [f_X9_hasMore_4_s, f_X9_hasMore_35, fz_f_e, hT.1, hlt, anyB, c0, Bool.true_or, nI_1, ↓reduceIte]
    · have c0' : anyB (joinB R a) i = false := Bool.eq_false_iff.mpr c0
      by_cases c1 : a = i
      · have j : joinB R a i = false := by unfold joinB; rw [decide_eq_true c1]; rfl
        simp (decide := true) only [f_X9_hasMore_4_s, f_X9_hasMore_34, f_X9_hasMore_35, fz_f_e, hT.1, hlt, show nI a = nI i from by rw [c1], anyB, c0', j, Bool.or_false, nI_1, ↓reduceIte]
      · by_cases c2 : told R a i (R 0 1) = true
        · have j : joinB R a i = false := by unfold joinB; rw [c2, Bool.not_true, Bool.and_false, Bool.and_false]
          rw [if_pos c2] at ht
          simp (decide := true) only [f_X9_hasMore_4_s, f_X9_hasMore_34, f_X9_hasMore_35, fz_f_e, hT.1, hlt, k0, c1, ht, fz_b1_e, anyB, c0', j, Bool.or_false, nI_1, ↓reduceIte]
        · have j : joinB R a i = true := by unfold joinB; rw [decide_eq_false c1, decide_eq_true hi, Bool.eq_false_iff.mpr c2]; rfl
          rw [if_neg c2] at ht
          simp (decide := true) only [f_X9_hasMore_4_s, f_X9_hasMore_34, f_X9_hasMore_35, fz_f_e, hT.1, hlt, k0, c1, ht, fz_b1_e, anyB, c0', j, Bool.or_true, nI_1, ↓reduceIte]
  · show f_X9_hasMore_4_s kk (nI a) (if anyB (joinB R a) (R 0 0) = true then 1 else 0) (nI (R 0 0)) M = _
    have hle : nI (R 0 0) ≤ nI (R 0 0) := nI_le (Nat.le_refl _) (by omega)
    by_cases c0 : anyB (joinB R a) (R 0 0) = true
    · by_cases c2 : 1 ≤ lefT R a
      · have q : ¬ nI (lefT R a) ≤ 0 := nI_nle (by omega) (by omega)
        simp (decide := true) only [f_X9_hasMore_4_s, fz_f_e, hT.1, hle, c0, hlf, fz_b1_e, q, c2, decide_true, Bool.and_true, ↓reduceIte]
      · have q : nI (lefT R a) ≤ 0 := nI_le (b := 0) (by omega) (by decide)
        simp (decide := true) only [f_X9_hasMore_4_s, fz_f_e, hT.1, hle, c0, hlf, fz_b1_e, q, c2, decide_false, Bool.false_and, ↓reduceIte]
    · have c0' : anyB (joinB R a) (R 0 0) = false := Bool.eq_false_iff.mpr c0
      simp (decide := true) only [f_X9_hasMore_4_s, fz_f_e, hT.1, hle, c0', Bool.and_false, ↓reduceIte]
theorem mAny_e {R : fz_A2} {M : fz_M} (hT : mR R M) (hw : wT R) : f_X9_hasAnyMore M = some (if anyB (leavB R) (R 0 0) = true then 1 else 0) := by
  have hn0 := hw.1
  unfold f_X9_hasAnyMore f_X9_hasAnyMore_4
  refine lp_run (fun i => ((if anyB (leavB R) i = true then (1 : Int32) else 0), nI i)) (R 0 0) _ (fun i hi kk => ?_) (fun kk => ?_) (by unfold fz_fuel; omega)
  · have hlt : ¬ nI (R 0 0) ≤ nI i := nI_ge hi (by omega)
    have ht := mMor_e (a := i) hi hT hw
    show f_X9_hasAnyMore_4_s kk (if anyB (leavB R) i = true then 1 else 0) (nI i) M = kk (if anyB (leavB R) (i + 1) = true then 1 else 0, nI (i + 1))
    by_cases c0 : anyB (leavB R) i = true
    · simp (decide := true) only [f_X9_hasAnyMore_4_s, f_X9_hasAnyMore_29, fz_f_e, hT.1, hlt, anyB, c0, Bool.true_or, nI_1, ↓reduceIte]
    · have c0' : anyB (leavB R) i = false := Bool.eq_false_iff.mpr c0
      by_cases c1 : leavB R i = true
      · rw [if_pos c1] at ht
        simp (decide := true) only [f_X9_hasAnyMore_4_s, f_X9_hasAnyMore_29, fz_f_e, hT.1, hlt, ht, fz_b1_e, anyB, c0', c1, Bool.or_true, nI_1, ↓reduceIte]
      · have c1' : leavB R i = false := Bool.eq_false_iff.mpr c1
        rw [if_neg c1] at ht
        simp (decide := true) only [f_X9_hasAnyMore_4_s, f_X9_hasAnyMore_29, fz_f_e, hT.1, hlt, ht, fz_b1_e, anyB, c0', c1', Bool.or_false, nI_1, ↓reduceIte]
  · show f_X9_hasAnyMore_4_s kk (if anyB (leavB R) (R 0 0) = true then 1 else 0) (nI (R 0 0)) M = _
    have hb : fz_nb (if anyB (leavB R) (R 0 0) = true then 1 else 0) = true := by split <;> decide
    simp only [f_X9_hasAnyMore_4_s, fz_f_e, hT.1, show nI (R 0 0) ≤ nI (R 0 0) from nI_le (Nat.le_refl _) (by omega), fz_gd_t hb, ↓reduceIte]
