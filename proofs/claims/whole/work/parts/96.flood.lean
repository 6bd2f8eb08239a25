/-! floods: the strongest streams, the beginning of a trial -/
def stg (T : fz_A2) (X : Nat → Bool) (h : Nat) : Nat → Option Nat
  | 0 => none
  | s + 1 => if T 3 s = h ∧ X s = true then (match stg T X h s with | none => some s | some o => if T 5 s ≤ T 5 o then some o else some s) else stg T X h s
def enc : Option Nat → Int32
  | none => -9
  | some s => nI s
theorem stg_n {T : fz_A2} {X : Nat → Bool} {h s : Nat} (c : ¬ (T 3 s = h ∧ X s = true)) : stg T X h (s + 1) = stg T X h s := if_neg c
theorem stg_0 {T : fz_A2} {X : Nat → Bool} {h s : Nat} (c : T 3 s = h ∧ X s = true) (e : stg T X h s = none) : stg T X h (s + 1) = some s := by
  simp only [stg, if_pos c, e]
theorem stg_1 {T : fz_A2} {X : Nat → Bool} {h s o : Nat} (c : T 3 s = h ∧ X s = true) (e : stg T X h s = some o) : stg T X h (s + 1) = if T 5 s ≤ T 5 o then some o else some s := by
  simp only [stg, if_pos c, e]
theorem stg_lt {T : fz_A2} {X : Nat → Bool} {h : Nat} : ∀ {n s : Nat}, stg T X h n = some s → s < n ∧ T 3 s = h
  | 0, s, e => by cases e
  | n + 1, s, e => by
    by_cases c : T 3 n = h ∧ X n = true
    · cases e0 : stg T X h n with
      | none => rw [stg_0 c e0] at e; cases e; exact ⟨Nat.lt_succ_self n, c.1⟩
      | some o =>
        rw [stg_1 c e0] at e
        obtain ⟨q1, q2⟩ := stg_lt e0
        split at e
        · cases e; exact ⟨by omega, q2⟩
        · cases e; exact ⟨Nat.lt_succ_self n, c.1⟩
    · rw [stg_n c] at e
      obtain ⟨q1, q2⟩ := stg_lt e
      exact ⟨by omega, q2⟩
theorem stg_cg {T : fz_A2} {X Y : Nat → Bool} {h : Nat} : ∀ {n : Nat}, (∀ s, s < n → X s = Y s) → stg T X h n = stg T Y h n
  | 0, _ => rfl
  | n + 1, e => by simp only [stg, e n (Nat.lt_succ_self n), stg_cg (n := n) (fun s hs => e s (by omega))]
theorem enc_ne {s : Nat} (h : s < 2 ^ 31) : ¬ enc (some s) = -9 := nI_neg h
theorem mStg_e {T : fz_A2} {X : Nat → Bool} {h : Nat} {M : fz_M} (hh : h < 2 ^ 31) (hT : mT T M) (hw : wT T) (hX : ∀ s, s < T 0 1 → (M.1 7 s = 0 ↔ X s = true)) : f_X9_strongest (nI h) M = some (enc (stg T X h (T 0 1))) := by
  have hn1 := hw.2.1
  have hn0 := hw.1
  unfold f_X9_strongest f_X9_strongest_5
  refine lp_run (fun i => (enc (stg T X h i), nI i)) (T 0 1) _ (fun i hi kk => ?_) (fun kk => ?_) (by unfold fz_fuel; omega)
  · have hin : fz_in (nI i) 10 = true := fz_in_nI (by omega) (by decide)
    have h31 : i < 2 ^ 31 := by omega
    have hlt : ¬ nI (T 0 1) ≤ nI i := nI_ge hi (by omega)
    obtain ⟨a3, a4, a5⟩ := hT.2.2.2.2.1 i hi
    obtain ⟨u3, u4, -, u5, u6⟩ := hw.2.2.2.2.1 i hi
    have k1 : (nI (T 3 i) = nI h) = (T 3 i = h) := propext (nI_eq (by omega) hh)
    have k2 : (M.1 7 i = 0) = (X i = true) := propext (hX i hi)
    show f_X9_strongest_5_s kk (nI h) (enc (stg T X h i)) (nI i) M = kk (enc (stg T X h (i + 1)), nI (i + 1))
    by_cases c1 : T 3 i = h
    · by_cases c2 : X i = true
      · cases e0 : stg T X h i with
        | none =>
          rw [stg_0 ⟨c1, c2⟩ e0]
          simp (decide := true) only [f_X9_strongest_5_s, f_X9_strongest_37, f_X9_strongest_70, fz_f_e, hT.2.1, hlt, fz_gd_t hin, fz_g_nI h31, a3, k1, k2, c1, c2, enc, nI_1, ↓reduceIte, not_true_eq_false]
        | some o =>
          rw [stg_1 ⟨c1, c2⟩ e0]
          obtain ⟨o1, o2⟩ := stg_lt e0
          obtain ⟨-, -, b5⟩ := hT.2.2.2.2.1 o (by omega)
          obtain ⟨-, -, -, v5, v6⟩ := hw.2.2.2.2.1 o (by omega)
          have o31 : o < 2 ^ 31 := by omega
          have hino : fz_in (nI o) 10 = true := fz_in_nI (by omega) (by decide)
          have k3 : (nI (T 5 i) ≤ nI (T 5 o)) = (T 5 i ≤ T 5 o) := propext (nI_leI (by omega) (by omega))
          have k9 : ¬ nI o = -9 := nI_neg o31
          by_cases c3 : T 5 i ≤ T 5 o
          · simp (decide := true) only [f_X9_strongest_5_s, f_X9_strongest_37, f_X9_strongest_69, f_X9_strongest_70, fz_f_e, hT.2.1, hlt, fz_gd_t hin, fz_gd_t hino, fz_g_nI h31, fz_g_nI o31, a3, a5, b5, k1, k2, k3, k9, c1, c2, c3, enc, nI_1, ↓reduceIte, not_true_eq_false]
          · simp (decide := true) only [f_X9_strongest_5_s, f_X9_strongest_37, f_X9_strongest_69, f_X9_strongest_70, fz_f_e, hT.2.1, hlt, fz_gd_t hin, fz_gd_t hino, fz_g_nI h31, fz_g_nI o31, a3, a5, b5, k1, k2, k3, k9, c1, c2, c3, enc, nI_1, ↓reduceIte, not_true_eq_false]
      · rw [stg_n (fun q => c2 q.2)]
        simp (decide := true) only [f_X9_strongest_5_s, f_X9_strongest_36, f_X9_strongest_37, f_X9_strongest_69, f_X9_strongest_70, fz_f_e, hT.2.1, hlt, fz_gd_t hin, fz_g_nI h31, a3, k1, k2, c1, c2, nI_1, ↓reduceIte, not_true_eq_false, not_false_eq_true]
    · rw [stg_n (fun q => c1 q.1)]
      simp (decide := true) only [f_X9_strongest_5_s, f_X9_strongest_36, f_X9_strongest_37, f_X9_strongest_69, f_X9_strongest_70, fz_f_e, hT.2.1, hlt, fz_gd_t hin, fz_g_nI h31, a3, k1, c1, nI_1, ↓reduceIte, not_false_eq_true]
  · show f_X9_strongest_5_s kk (nI h) (enc (stg T X h (T 0 1))) (nI (T 0 1)) M = _
    simp only [f_X9_strongest_5_s, fz_f_e, hT.2.1, show nI (T 0 1) ≤ nI (T 0 1) from nI_le (Nat.le_refl _) (by omega), ↓reduceIte]
theorem wei_e {P i : Nat} {T : fz_A2} {X : Nat → Bool} {M : fz_M} (hi : i < T 0 1) (hP : P = 20 ∨ P = 30) (hT : cT P T M) (hw : wT T) (hX : X i = true) (hS : ∀ h, h < T 0 0 → M.1 13 h = enc (stg T X h i)) : ∃ M', f_X7_weigh P (nI i) M = some M' ∧ M'.2 = M.2 ∧ (∀ d, d ≠ 13 → M'.1 d = M.1 d) ∧ ∀ h, h < T 0 0 → M'.1 13 h = enc (stg T X h (i + 1)) := by
  have hn1 := hw.2.1
  have hn0 := hw.1
  have hin : fz_in (nI i) 10 = true := fz_in_nI (by omega) (by decide)
  have h31 : i < 2 ^ 31 := by omega
  obtain ⟨a3, a4, a5⟩ := hT.2.2.2.2.1 i hi
  obtain ⟨u3, u4, -, u5, u6⟩ := hw.2.2.2.2.1 i hi
  have i3 : fz_in (nI (T 3 i)) 6 = true := fz_in_nI (by omega) (by decide)
  have v3 : T 3 i < 2 ^ 31 := by omega
  have hne : ∀ h, h ≠ T 3 i → enc (stg T X h (i + 1)) = enc (stg T X h i) := fun h hh => by rw [stg_n (fun q => hh q.1.symm)]
  have hm := hS (T 3 i) u3
  have key : ∃ M', f_X7_weigh_38 P (nI i) (nI (T 3 i)) M = some M' ∧ M'.2 = M.2 ∧ (∀ d, d ≠ 13 → M'.1 d = M.1 d) ∧ M'.1 13 (T 3 i) = nI i ∧ ∀ h, h ≠ T 3 i → M'.1 13 h = M.1 13 h :=
    ⟨fz_w M 13 (T 3 i) (nI i), by simp only [f_X7_weigh_38, fz_gd_t i3, fz_s_nI v3, fz_bd_e], rfl, fun d h => w_ne h, w_at, fun h hh => w_nj hh⟩
  obtain ⟨M', q1, q2, q3, q4, q5⟩ := key
  cases e0 : stg T X (T 3 i) i with
  | none =>
    rw [e0] at hm
    refine ⟨M', ?_, q2, q3, fun h hh => ?_⟩
    · simp (decide := true) only [f_X7_weigh, fz_gd_t hin, fz_g_nI h31, a3, fz_bd_e, fz_gd_t i3, fz_g_nI v3, hm, enc, q1, ↓reduceIte]
    · by_cases c : h = T 3 i
      · subst c; rw [q4, stg_0 ⟨rfl, hX⟩ e0]; rfl
      · rw [q5 h c, hne h c]; exact hS h hh
  | some o =>
    rw [e0] at hm
    obtain ⟨o1, o2⟩ := stg_lt e0
    obtain ⟨-, -, b5⟩ := hT.2.2.2.2.1 o (by omega)
    obtain ⟨-, -, -, w5, w6⟩ := hw.2.2.2.2.1 o (by omega)
    have o31 : o < 2 ^ 31 := by omega
    have hino : fz_in (nI o) 10 = true := fz_in_nI (by omega) (by decide)
    have k3 : (nI (T 5 i) ≤ nI (T 5 o)) = (T 5 i ≤ T 5 o) := propext (nI_leI (by omega) (by omega))
    have k9 : ¬ nI o = -9 := nI_neg o31
    by_cases c3 : T 5 i ≤ T 5 o
    · refine ⟨M, ?_, rfl, fun _ _ => rfl, fun h hh => ?_⟩
      · simp (decide := true) only [f_X7_weigh, fz_gd_t hin, fz_g_nI h31, a3, fz_bd_e, fz_gd_t i3, fz_g_nI v3, hm, enc, k9, fz_gd_t hino, fz_g_nI o31, a5, b5, k3, c3, ↓reduceIte]
      · by_cases c : h = T 3 i
        · subst c; rw [hm, stg_1 ⟨rfl, hX⟩ e0, if_pos c3]
        · rw [hne h c]; exact hS h hh
    · refine ⟨M', ?_, q2, q3, fun h hh => ?_⟩
      · simp (decide := true) only [f_X7_weigh, fz_gd_t hin, fz_g_nI h31, a3, fz_bd_e, fz_gd_t i3, fz_g_nI v3, hm, enc, k9, fz_gd_t hino, fz_g_nI o31, a5, b5, k3, c3, q1, ↓reduceIte]
      · by_cases c : h = T 3 i
        · subst c; rw [q4, stg_1 ⟨rfl, hX⟩ e0, if_neg c3]; rfl
        · rw [q5 h c, hne h c]; exact hS h hh
theorem beg3_e {P : Nat} {T : fz_A2} {X : Nat → Bool} {e : Int32} {M : fz_M} (hP : P = 20 ∨ P = 30) (hT : cT P T M) (hw : wT T) (hX : ∀ s, s < T 0 1 → (X s = true ↔ ¬ nI s = e ∧ M.1 52 s = 0)) (h9 : ∀ h, h < T 0 0 → M.1 13 h = -9) : ∃ M', f_X7_begin_76 P 40 e 0 M = some M' ∧ M'.2 = M.2 ∧ (∀ d, d ≠ 13 → M'.1 d = M.1 d) ∧ ∀ h, h < T 0 0 → M'.1 13 h = enc (stg T X h (T 0 1)) := by
  have hn1 := hw.2.1
  unfold f_X7_begin_76
  refine lp_gen (K := fun a => some a) (fun i (s : Int32 × fz_M) => s.1 = nI i ∧ s.2.2 = M.2 ∧ (∀ d, d ≠ 13 → s.2.1 d = M.1 d) ∧ ∀ h, h < T 0 0 → s.2.1 13 h = enc (stg T X h i)) (T 0 1) ?_ ?_ (by unfold fz_fuel; omega) ⟨rfl, rfl, fun _ _ => rfl, h9⟩
  · rintro i ⟨x, M0⟩ hi ⟨rfl, e2, e3, e4⟩
    dsimp only at e2 e3 e4
    have hin : fz_in (nI i) 10 = true := fz_in_nI (by omega) (by decide)
    have h31 : i < 2 ^ 31 := by omega
    have hlt : ¬ nI (T 0 1) ≤ nI i := nI_ge hi (by omega)
    have c1 : M0.1 P 1 = nI (T 0 1) := by rw [e3 P (by omega)]; exact hT.2.1
    have c52 : M0.1 (40 + 12) i = M.1 52 i := by rw [e3 52 (by decide)]
    have hno : ¬ X i = true → ∀ h, h < T 0 0 → M0.1 13 h = enc (stg T X h (i + 1)) := fun q h hh => by rw [stg_n (fun z => q z.2)]; exact e4 h hh
    by_cases ce : nI i = e
    · refine Or.inl ⟨(nI (i + 1), M0), ⟨rfl, e2, e3, hno (fun q => ((hX i hi).mp q).1 ce)⟩, fun kk => ?_⟩
      show f_X7_begin_76_s P 40 kk e (nI i) M0 = _
      simp only [f_X7_begin_76_s, fz_f_e, c1, hlt, ce, ↓reduceIte]
      rw [← ce, nI_1, if_neg hlt]
    · by_cases cx : M.1 52 i = 0
      · have hXi : X i = true := (hX i hi).mpr ⟨ce, cx⟩
        obtain ⟨M', q1, q2, q3, q4⟩ := wei_e hi hP (cT_fr hT fun o ho => e3 _ (by omega)) hw hXi e4
        refine Or.inl ⟨(nI (i + 1), M'), ⟨rfl, q2.trans e2, fun d h => (q3 d h).trans (e3 d h), q4⟩, fun kk => ?_⟩
        show f_X7_begin_76_s P 40 kk e (nI i) M0 = _
        simp only [f_X7_begin_76_s, fz_f_e, c1, hlt, ce, fz_gd_t hin, fz_g_nI h31, c52, cx, q1, fz_b1_e, nI_1, ↓reduceIte, not_true_eq_false]
      · refine Or.inl ⟨(nI (i + 1), M0), ⟨rfl, e2, e3, hno (fun q => cx ((hX i hi).mp q).2)⟩, fun kk => ?_⟩
        show f_X7_begin_76_s P 40 kk e (nI i) M0 = _
        simp only [f_X7_begin_76_s, fz_f_e, c1, hlt, ce, fz_gd_t hin, fz_g_nI h31, c52, cx, nI_1, ↓reduceIte, not_false_eq_true]
  · rintro ⟨x, M0⟩ ⟨rfl, e2, e3, e4⟩
    dsimp only at e2 e3 e4
    have c1 : M0.1 P 1 = nI (T 0 1) := by rw [e3 P (by omega)]; exact hT.2.1
    refine ⟨M0, ⟨e2, e3, e4⟩, fun kk => ?_⟩
    show f_X7_begin_76_s P 40 kk e (nI (T 0 1)) M0 = _
    simp only [f_X7_begin_76_s, fz_f_e, c1, show nI (T 0 1) ≤ nI (T 0 1) from nI_le (Nat.le_refl _) (by omega), ↓reduceIte]
theorem beg2_e {P : Nat} {T : fz_A2} {X : Nat → Bool} {e : Int32} {M : fz_M} (hP : P = 20 ∨ P = 30) (hT : cT P T M) (hw : wT T) (hX : ∀ s, s < T 0 1 → (X s = true ↔ ¬ nI s = e ∧ M.1 52 s = 0)) : ∃ M', f_X7_begin_49 P 40 e 0 M = some M' ∧ M'.2 = M.2 ∧ (∀ d, d ≠ 13 → M'.1 d = M.1 d) ∧ ∀ h, h < T 0 0 → M'.1 13 h = enc (stg T X h (T 0 1)) := by
  have hn0 := hw.1
  unfold f_X7_begin_49
  refine lp_gen (K := fun a => some a) (fun i (s : Int32 × fz_M) => s.1 = nI i ∧ s.2.2 = M.2 ∧ (∀ d, d ≠ 13 → s.2.1 d = M.1 d) ∧ ∀ h, h < i → s.2.1 13 h = -9) (T 0 0) ?_ ?_ (by unfold fz_fuel; omega) ⟨rfl, rfl, fun _ _ => rfl, fun j hj => absurd hj (Nat.not_lt_zero j)⟩
  · rintro i ⟨x, M0⟩ hi ⟨rfl, e2, e3, e4⟩
    dsimp only at e2 e3 e4
    have hin : fz_in (nI i) 6 = true := fz_in_nI (by omega) (by decide)
    have h31 : i < 2 ^ 31 := by omega
    have hlt : ¬ nI (T 0 0) ≤ nI i := nI_ge hi (by omega)
    have c1 : M0.1 P 0 = nI (T 0 0) := by rw [e3 P (by omega)]; exact hT.1
    refine Or.inl ⟨(nI (i + 1), fz_w M0 13 i (-9)), ⟨rfl, e2, fun d h => ?_, fun h hh => ?_⟩, fun kk => ?_⟩
    · show (fz_w _ _ _ _).1 d = _
      rw [w_ne h]; exact e3 d h
    · show (fz_w _ _ _ _).1 13 h = _
      by_cases c : h = i
      · subst c; rw [w_at]
      · rw [w_nj c]; exact e4 h (by omega)
    · show f_X7_begin_49_s P 40 kk e (nI i) M0 = _
      simp only [f_X7_begin_49_s, fz_f_e, c1, hlt, fz_gd_t hin, fz_s_nI h31, fz_bd_e, nI_1, ↓reduceIte]
  · rintro ⟨x, M0⟩ ⟨rfl, e2, e3, e4⟩
    dsimp only at e2 e3 e4
    have c1 : M0.1 P 0 = nI (T 0 0) := by rw [e3 P (by omega)]; exact hT.1
    obtain ⟨M', q1, q2, q3, q4⟩ := beg3_e (X := X) (e := e) (M := M0) hP (cT_fr hT fun o ho => e3 _ (by omega)) hw (fun s hs => by rw [e3 52 (by decide)]; exact hX s hs) e4
    refine ⟨M', ⟨q2.trans e2, fun d h => (q3 d h).trans (e3 d h), q4⟩, fun kk => ?_⟩
    show f_X7_begin_49_s P 40 kk e (nI (T 0 0)) M0 = _
    simp only [f_X7_begin_49_s, fz_f_e, c1, show nI (T 0 0) ≤ nI (T 0 0) from nI_le (Nat.le_refl _) (by omega), ↓reduceIte]
    exact q1
/-- a trial begun -/
theorem beg_e {P : Nat} {T : fz_A2} {X : Nat → Bool} {e : Int32} {M : fz_M} (hP : P = 20 ∨ P = 30) (hT : cT P T M) (hw : wT T) (hX : ∀ s, s < T 0 1 → (X s = true ↔ ¬ nI s = e ∧ M.1 52 s = 0)) : ∃ M', f_X7_begin P 40 e M = some M' ∧ M'.2 = M.2 ∧ (∀ d, (d < 11 ∨ 13 < d) → M'.1 d = M.1 d) ∧ (∀ p, p < T 0 2 → M'.1 11 p = M.1 41 p ∧ M'.1 12 p = M.1 42 p) ∧ ∀ h, h < T 0 0 → M'.1 13 h = enc (stg T X h (T 0 1)) := by
  have hn2 := hw.2.2.1
  unfold f_X7_begin f_X7_begin_3
  refine lp_gen (K := fun a => some a) (fun i (s : Int32 × fz_M) => s.1 = nI i ∧ s.2.2 = M.2 ∧ (∀ d, (d < 11 ∨ 12 < d) → s.2.1 d = M.1 d) ∧ ∀ p, p < i → s.2.1 11 p = M.1 41 p ∧ s.2.1 12 p = M.1 42 p) (T 0 2) ?_ ?_ (by unfold fz_fuel; omega) ⟨rfl, rfl, fun _ _ => rfl, fun j hj => absurd hj (Nat.not_lt_zero j)⟩
  · rintro i ⟨x, M0⟩ hi ⟨rfl, e2, e3, e4⟩
    dsimp only at e2 e3 e4
    have hin : fz_in (nI i) 6 = true := fz_in_nI (by omega) (by decide)
    have h31 : i < 2 ^ 31 := by omega
    have hlt : ¬ nI (T 0 2) ≤ nI i := nI_ge hi (by omega)
    have c1 : M0.1 P 2 = nI (T 0 2) := by rw [e3 P (by omega)]; exact hT.2.2.1
    refine Or.inl ⟨(nI (i + 1), fz_w (fz_w M0 11 i (M0.1 (40 + 1) i)) 12 i (M0.1 (40 + 2) i)), ⟨rfl, e2, fun d h => ?_, fun p hp => ?_⟩, fun kk => ?_⟩
    · show (fz_w _ _ _ _).1 d = _
      rw [w_ne (by omega), w_ne (by omega)]; exact e3 d h
    · show (fz_w _ _ _ _).1 11 p = _ ∧ (fz_w _ _ _ _).1 12 p = _
      rw [w_ne (show (11 : Nat) ≠ 12 by decide)]
      by_cases c : p = i
      · subst c
        rw [w_at, w_at, e3 41 (by omega), e3 42 (by omega)]
        exact ⟨rfl, rfl⟩
      · rw [w_nj c, w_nj c, w_ne (show (12 : Nat) ≠ 11 by decide)]; exact e4 p (by omega)
    · show f_X7_begin_3_s P 40 kk e (nI i) M0 = _
      simp only [f_X7_begin_3_s, fz_f_e, c1, hlt, fz_gd_t hin, fz_g_nI h31, fz_s_nI h31, fz_bd_e, w_ne (show (40 + 2 : Nat) ≠ 11 by decide), nI_1, ↓reduceIte]
  · rintro ⟨x, M0⟩ ⟨rfl, e2, e3, e4⟩
    dsimp only at e2 e3 e4
    have c1 : M0.1 P 2 = nI (T 0 2) := by rw [e3 P (by omega)]; exact hT.2.2.1
    obtain ⟨M', q1, q2, q3, q4⟩ := beg2_e (X := X) (e := e) (M := M0) hP (cT_fr hT fun o ho => e3 _ (by omega)) hw (fun s hs => by rw [e3 52 (by decide)]; exact hX s hs)
    refine ⟨M', ⟨q2.trans e2, fun d h => (q3 d (by omega)).trans (e3 d (by omega)), fun p hp => by rw [q3 11 (by decide), q3 12 (by decide)]; exact e4 p hp, q4⟩, fun kk => ?_⟩
    show f_X7_begin_3_s P 40 kk e (nI (T 0 2)) M0 = _
    simp only [f_X7_begin_3_s, fz_f_e, c1, show nI (T 0 2) ≤ nI (T 0 2) from nI_le (Nat.le_refl _) (by omega), ↓reduceIte]
    exact q1
theorem mBeg_e {T : fz_A2} {M : fz_M} (hT : mT T M) (hw : wT T) : ∃ M', f_X9_begin M = some M' ∧ M'.2 = M.2 ∧ (∀ d, (d < 29 ∨ 30 < d) → M'.1 d = M.1 d) ∧ ∀ p, p < T 0 2 → M'.1 29 p = M.1 11 p ∧ M'.1 30 p = M.1 12 p := by
  have hn2 := hw.2.2.1
  unfold f_X9_begin f_X9_begin_2
  refine lp_gen (K := fun a => some a) (fun i (s : Int32 × fz_M) => s.1 = nI i ∧ s.2.2 = M.2 ∧ (∀ d, (d < 29 ∨ 30 < d) → s.2.1 d = M.1 d) ∧ ∀ p, p < i → s.2.1 29 p = M.1 11 p ∧ s.2.1 30 p = M.1 12 p) (T 0 2) ?_ ?_ (by unfold fz_fuel; omega) ⟨rfl, rfl, fun _ _ => rfl, fun j hj => absurd hj (Nat.not_lt_zero j)⟩
  · rintro i ⟨x, M0⟩ hi ⟨rfl, e2, e3, e4⟩
    dsimp only at e2 e3 e4
    have hin : fz_in (nI i) 6 = true := fz_in_nI (by omega) (by decide)
    have h31 : i < 2 ^ 31 := by omega
    have hlt : ¬ nI (T 0 2) ≤ nI i := nI_ge hi (by omega)
    have c1 : M0.1 0 6 = nI (T 0 2) := by rw [e3 0 (by omega)]; exact hT.2.2.1
    refine Or.inl ⟨(nI (i + 1), fz_w (fz_w M0 29 i (M0.1 11 i)) 30 i (M0.1 12 i)), ⟨rfl, e2, fun d h => ?_, fun p hp => ?_⟩, fun kk => ?_⟩
    · show (fz_w _ _ _ _).1 d = _
      rw [w_ne (by omega), w_ne (by omega)]; exact e3 d h
    · show (fz_w _ _ _ _).1 29 p = _ ∧ (fz_w _ _ _ _).1 30 p = _
      rw [w_ne (show (29 : Nat) ≠ 30 by decide)]
      by_cases c : p = i
      · subst c
        rw [w_at, w_at, e3 11 (by omega), e3 12 (by omega)]
        exact ⟨rfl, rfl⟩
      · rw [w_nj c, w_nj c, w_ne (show (30 : Nat) ≠ 29 by decide)]; exact e4 p (by omega)
    · show f_X9_begin_2_s kk (nI i) M0 = _
      simp only [f_X9_begin_2_s, fz_f_e, c1, hlt, fz_gd_t hin, fz_g_nI h31, fz_s_nI h31, fz_bd_e, w_ne (show (12 : Nat) ≠ 29 by decide), nI_1, ↓reduceIte]
  · rintro ⟨x, M0⟩ ⟨rfl, e2, e3, e4⟩
    dsimp only at e2 e3 e4
    have c1 : M0.1 0 6 = nI (T 0 2) := by rw [e3 0 (by omega)]; exact hT.2.2.1
    refine ⟨M0, ⟨e2, e3, e4⟩, fun kk => ?_⟩
    show f_X9_begin_2_s kk (nI (T 0 2)) M0 = _
    simp only [f_X9_begin_2_s, fz_f_e, c1, show nI (T 0 2) ≤ nI (T 0 2) from nI_le (Nat.le_refl _) (by omega), ↓reduceIte]
