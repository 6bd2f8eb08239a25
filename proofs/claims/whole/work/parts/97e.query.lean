/-! what is asked of a town that is being read -/
def mR (R : fz_A2) (M : fz_M) : Prop :=
  M.1 0 22 = nI (R 0 0) ∧ M.1 0 23 = nI (R 0 1) ∧ M.1 0 24 = nI (R 0 2) ∧ (∀ h, h < R 0 0 → M.1 16 h = nI (R 1 h) ∧ M.1 17 h = nI (R 2 h)) ∧
  (∀ s, s < R 0 1 → M.1 18 s = nI (R 3 s) ∧ M.1 19 s = nI (R 4 s) ∧ M.1 20 s = nI (R 5 s)) ∧ (∀ p, p < R 0 2 → M.1 21 p = nI (R 6 p) ∧ M.1 22 p = nI (R 7 p) ∧ M.1 23 p = nI (R 8 p) ∧ M.1 24 p = nI (R 9 p))
def cR (P : Nat) (R : fz_A2) (M : fz_M) : Prop := cT P R M ∧ ∀ p, p < R 0 2 → M.1 (P + 9) p = nI (R 9 p)
def lefT (R : fz_A2) (a : Nat) : Nat := 10 - tenSum R a (R 0 1)
def told (R : fz_A2) (a b : Nat) : Nat → Bool
  | 0 => false
  | s + 1 => told R a b s || (decide (R 3 s = a) && decide (R 4 s = b))
def joinB (R : fz_A2) (a b : Nat) : Bool := !decide (a = b) && (decide (b < R 0 0) && !told R a b (R 0 1))
def anyB (f : Nat → Bool) : Nat → Bool
  | 0 => false
  | i + 1 => anyB f i || f i
def leavB (R : fz_A2) (a : Nat) : Bool := decide (a < R 0 0) && (decide (1 ≤ lefT R a) && anyB (joinB R a) (R 0 0))
theorem told_mono {R : fz_A2} {a b i n : Nat} (hi : i ≤ n) (h : told R a b i = true) : told R a b n = true := by
  induction n with
  | zero => rw [Nat.le_zero.mp hi] at h; exact h
  | succ n ih =>
    by_cases q : i = n + 1
    · subst q; exact h
    · simp only [told, ih (by omega), Bool.true_or]
theorem anyB_mono {f : Nat → Bool} {i n : Nat} (hi : i ≤ n) (h : anyB f i = true) : anyB f n = true := by
  induction n with
  | zero => rw [Nat.le_zero.mp hi] at h; exact h
  | succ n ih =>
    by_cases q : i = n + 1
    · subst q; exact h
    · simp only [anyB, ih (by omega), Bool.true_or]
theorem anyB_cg {f g : Nat → Bool} : ∀ {n : Nat}, (∀ i, i < n → f i = g i) → anyB f n = anyB g n
  | 0, _ => rfl
  | n + 1, e => by simp only [anyB, anyB_cg (n := n) (fun i hi => e i (by omega)), e n (Nat.lt_succ_self n)]
theorem cLef_e {P a : Nat} {R : fz_A2} {M : fz_M} (ha : a < 2 ^ 31) (hT : cT P R M) (hw : wT R) : f_X3_tenthsLeftFrom P (nI a) M = some (nI (lefT R a)) := by
  have hn := hw.2.1
  have hn0 := hw.1
  unfold f_X3_tenthsLeftFrom f_X3_tenthsLeftFrom_5 lefT
  refine lp_run (fun i => (nI (10 - tenSum R a i), nI i)) (R 0 1) _ (fun i hi kk => ?_) (fun kk => ?_) (by unfold fz_fuel; omega)
  · have hin : fz_in (nI i) 10 = true := fz_in_nI (by omega) (by decide)
    have h31 : i < 2 ^ 31 := by omega
    have hlt : ¬ nI (R 0 1) ≤ nI i := nI_ge hi (by omega)
    obtain ⟨a3, a4, a5⟩ := hT.2.2.2.2.1 i hi
    have u3 := (hw.2.2.2.2.1 i hi).1
    have k1 : (nI (R 3 i) = nI a) = (R 3 i = a) := propext (nI_eq (by omega) ha)
    show f_X3_tenthsLeftFrom_5_s P kk (nI a) (nI (10 - tenSum R a i)) (nI i) M = _
    by_cases c : R 3 i = a
    · have h10 : tenSum R a (i + 1) ≤ 10 := Nat.le_trans (tenS_mono (by omega)) (hw.2.2.2.2.2.2 a)
      have es : tenSum R a (i + 1) = tenSum R a i + R 5 i := by show _ + (if _ then _ else _) = _; rw [if_pos c]
      have e : nI (10 - tenSum R a i) - nI (R 5 i) = nI (10 - tenSum R a (i + 1)) := by rw [nI_sub (by omega)]; congr 1; omega
      simp only [f_X3_tenthsLeftFrom_5_s, fz_f_e, hT.2.1, hlt, fz_gd_t hin, fz_g_nI h31, a3, a5, k1, c, fz_bd_e, e, nI_1, ↓reduceIte, not_true_eq_false]
    · have es : tenSum R a (i + 1) = tenSum R a i := by show _ + (if _ then _ else _) = _; rw [if_neg c, Nat.add_zero]
      simp only [f_X3_tenthsLeftFrom_5_s, fz_f_e, hT.2.1, hlt, fz_gd_t hin, fz_g_nI h31, a3, k1, c, nI_1, ↓reduceIte, not_false_eq_true]
      rw [es]
  · show f_X3_tenthsLeftFrom_5_s P kk (nI a) (nI (10 - tenSum R a (R 0 1))) (nI (R 0 1)) M = _
    simp only [f_X3_tenthsLeftFrom_5_s, fz_f_e, hT.2.1, show nI (R 0 1) ≤ nI (R 0 1) from nI_le (Nat.le_refl _) (by omega), ↓reduceIte]
theorem mLef_e {a : Nat} {R : fz_A2} {M : fz_M} (ha : a < 2 ^ 31) (hT : mR R M) (hw : wT R) : f_X9_leftOf (nI a) M = some (nI (lefT R a)) := by
  have hn := hw.2.1
  have hn0 := hw.1
  unfold f_X9_leftOf f_X9_leftOf_5 lefT
  refine lp_run (fun i => (nI (10 - tenSum R a i), nI i)) (R 0 1) _ (fun i hi kk => ?_) (fun kk => ?_) (by unfold fz_fuel; omega)
  · have hin : fz_in (nI i) 10 = true := fz_in_nI (by omega) (by decide)
    have h31 : i < 2 ^ 31 := by omega
    have hlt : ¬ nI (R 0 1) ≤ nI i := nI_ge hi (by omega)
    obtain ⟨a3, a4, a5⟩ := hT.2.2.2.2.1 i hi
    have u3 := (hw.2.2.2.2.1 i hi).1
    have k1 : (nI (R 3 i) = nI a) = (R 3 i = a) := propext (nI_eq (by omega) ha)
    show f_X9_leftOf_5_s kk (nI a) (nI (10 - tenSum R a i)) (nI i) M = _
    by_cases c : R 3 i = a
    · have h10 : tenSum R a (i + 1) ≤ 10 := Nat.le_trans (tenS_mono (by omega)) (hw.2.2.2.2.2.2 a)
      have es : tenSum R a (i + 1) = tenSum R a i + R 5 i := by show _ + (if _ then _ else _) = _; rw [if_pos c]
      have e : nI (10 - tenSum R a i) - nI (R 5 i) = nI (10 - tenSum R a (i + 1)) := by rw [nI_sub (by omega)]; congr 1; omega
      simp only [f_X9_leftOf_5_s, f_X9_leftOf_34, fz_f_e, hT.2.1, hlt, fz_gd_t hin, fz_g_nI h31, a3, a5, k1, c, fz_bd_e, e, nI_1, ↓reduceIte, not_true_eq_false]
    · have es : tenSum R a (i + 1) = tenSum R a i := by show _ + (if _ then _ else _) = _; rw [if_neg c, Nat.add_zero]
      simp only [f_X9_leftOf_5_s, f_X9_leftOf_34, fz_f_e, hT.2.1, hlt, fz_gd_t hin, fz_g_nI h31, a3, k1, c, Int32.sub_zero, fz_bd_e, nI_1, ↓reduceIte, not_false_eq_true]
      rw [es]
  · show f_X9_leftOf_5_s kk (nI a) (nI (10 - tenSum R a (R 0 1))) (nI (R 0 1)) M = _
    simp only [f_X9_leftOf_5_s, fz_f_e, hT.2.1, show nI (R 0 1) ≤ nI (R 0 1) from nI_le (Nat.le_refl _) (by omega), ↓reduceIte]
theorem cJoi_e {P a b : Nat} {R : fz_A2} {M : fz_M} (ha : a < 2 ^ 31) (hb : b < 2 ^ 31) (hT : cT P R M) (hw : wT R) : f_X3_canJoin P (nI a) (nI b) M = some (if joinB R a b = true then 1 else 0) := by
  have hn := hw.2.1
  have hn0 := hw.1
  have k0 : (nI a = nI b) = (a = b) := propext (nI_eq ha hb)
  have k1 : (nI b < nI (R 0 0)) = (b < R 0 0) := propext (nI_ltI hb (by omega))
  unfold f_X3_canJoin joinB
  rw [fz_f_e, hT.1]
  by_cases c0 : a = b
  · rw [if_pos (by rw [c0]), decide_eq_true c0]; rfl
  · rw [if_neg (by rw [k0]; exact c0), decide_eq_false c0]
    by_cases c1 : b < R 0 0
    · rw [if_pos (by rw [k1]; exact c1), decide_eq_true c1]
      have t : f_X3_canJoin_17 P (nI a) (nI b) 0 M = some (if told R a b (R 0 1) = true then 0 else 1) := by
        unfold f_X3_canJoin_17
        refine lp_inv (F := fun ag z => f_X3_canJoin_17_s P ag (nI a) (nI b) z M) (fun i (s : Int32) => s = nI i ∧ told R a b i = false) (fun r => r = some (if told R a b (R 0 1) = true then 0 else 1)) (R 0 1) ?_ ?_ (by unfold fz_fuel; omega) ⟨rfl, rfl⟩
        · rintro i x hi ⟨rfl, e2⟩
          have hin : fz_in (nI i) 10 = true := fz_in_nI (by omega) (by decide)
          have h31 : i < 2 ^ 31 := by omega
          have hlt : ¬ nI (R 0 1) ≤ nI i := nI_ge hi (by omega)
          obtain ⟨a3, a4, -⟩ := hT.2.2.2.2.1 i hi
          obtain ⟨u3, u4, -⟩ := hw.2.2.2.2.1 i hi
          have q3 : (nI (R 3 i) = nI a) = (R 3 i = a) := propext (nI_eq (by omega) ha)
          have q4 : (nI (R 4 i) = nI b) = (R 4 i = b) := propext (nI_eq (by omega) hb)
          by_cases d3 : R 3 i = a
          · by_cases d4 : R 4 i = b
            · have ht : told R a b (R 0 1) = true := told_mono (i := i + 1) hi (by simp only [told, d3, d4, decide_true, Bool.and_true, Bool.or_true])
              refine Or.inr ⟨some 0, by rw [ht]; rfl, fun kk => ?_⟩
              simp only [f_X3_canJoin_17_s, fz_f_e, hT.2.1, hlt, fz_gd_t hin, fz_g_nI h31, a3, a4, q3, q4, d3, d4, ↓reduceIte, not_true_eq_false]
            · refine Or.inl ⟨nI (i + 1), ⟨rfl, by simp only [told, e2, d4, decide_false, Bool.and_false, Bool.or_false]⟩, fun kk => ?_⟩
              simp only [f_X3_canJoin_17_s, fz_f_e, hT.2.1, hlt, fz_gd_t hin, fz_g_nI h31, a3, a4, q3, q4, d3, d4, nI_1, ↓reduceIte, not_true_eq_false, not_false_eq_true]
          · refine Or.inl ⟨nI (i + 1), ⟨rfl, by simp only [told, e2, d3, decide_false, Bool.false_and, Bool.or_false]⟩, fun kk => ?_⟩
            simp only [f_X3_canJoin_17_s, fz_f_e, hT.2.1, hlt, fz_gd_t hin, fz_g_nI h31, a3, q3, d3, nI_1, ↓reduceIte, not_false_eq_true]
        · rintro x ⟨rfl, e2⟩
          refine ⟨some 1, by rw [e2]; rfl, fun kk => ?_⟩
          simp only [f_X3_canJoin_17_s, fz_f_e, hT.2.1, show nI (R 0 1) ≤ nI (R 0 1) from nI_le (Nat.le_refl _) (by omega), ↓reduceIte]
      rw [t]
      cases told R a b (R 0 1) <;> rfl
    · rw [if_neg (by rw [k1]; exact c1), decide_eq_false c1]; rfl
