/-! hours in a row -/
def hIter (T : fz_A2) (X : Nat → Bool) (lv : Nat) (A : fz_A2) : Nat → fz_A2
  | 0 => A
  | k + 1 => (hHour T X lv (hIter T X lv A k)).1
def gone (T : fz_A2) (X : Nat → Bool) (lv : Nat) (A : fz_A2) (q : Nat) : Bool := hLo T lv q (hBeg A) && (match stg T X (A 0 q) (T 0 1) with | none => false | some s => !hJm T q s (hBeg A))
def qt (T : fz_A2) (lv : Nat) (A : fz_A2) (i : Nat) : fz_A2 := fun c q => if c = 2 then 0 else if c = 1 then (if q < i ∧ hLo T lv q (hBeg A) = true then 0 else A 1 q) else A c q
theorem hLo_cg {T : fz_A2} {lv p : Nat} {y z : hZ} (e0 : y.1 0 p = z.1 0 p) (e1 : y.1 1 p = z.1 1 p) : hLo T lv p y = hLo T lv p z := by unfold hLo; rw [e0, e1]
theorem hJm_cg {T : fz_A2} {p s : Nat} {y z : hZ} (e0 : y.1 0 p = z.1 0 p) (e1 : y.1 2 = z.1 2) : hJm T p s y = hJm T p s z := by unfold hJm; rw [e0, e1]
theorem gone_f {T : fz_A2} {X : Nat → Bool} {lv : Nat} {A : fz_A2} {q s : Nat} (h : gone T X lv A q = false) (c : hLo T lv q (hBeg A) = true) (e : stg T X (A 0 q) (T 0 1) = some s) : hJm T q s (hBeg A) = true := by
  unfold gone at h
  rw [c, e] at h
  simpa using h
theorem or_z (a b : Int32) (h : a ||| b = 0) : a = 0 ∧ b = 0 := by
  have e : (a ||| b).toBitVec = 0#32 := by rw [h]; rfl
  rw [Int32.toBitVec_or] at e
  have e2 := BitVec.or_eq_zero_iff.mp e
  exact ⟨Int32.toBitVec_inj.mp e2.1, Int32.toBitVec_inj.mp e2.2⟩
theorem bit_nz : ∀ p : Nat, p < 6 → ¬ bitI p = 0 := by decide +kernel
theorem run_q {T : fz_A2} {X : Nat → Bool} {lv : Nat} {A : fz_A2} : ∀ {i : Nat}, (∀ q, q < i → gone T X lv A q = false) → (hRun T X lv (hBeg A) i).1 = qt T lv A i ∧ (hRun T X lv (hBeg A) i).2.1 = 0
  | 0, _ => by
    refine ⟨?_, rfl⟩
    funext c q
    show (if c = 2 then 0 else A c q) = qt T lv A 0 c q
    unfold qt
    by_cases c2 : c = 2
    · rw [if_pos c2, if_pos c2]
    · rw [if_neg c2, if_neg c2]
      by_cases c1 : c = 1
      · subst c1; rw [if_pos rfl, if_neg (by omega)]
      · rw [if_neg c1]
  | i + 1, h => by
    obtain ⟨e1, e2⟩ := run_q (i := i) (fun q hq => h q (by omega))
    have hg := h i (Nat.lt_succ_self i)
    have a0 : (hRun T X lv (hBeg A) i).1 0 i = A 0 i := by rw [e1]; rfl
    have a1 : (hRun T X lv (hBeg A) i).1 1 i = A 1 i := by
      rw [e1]
      show (if i < i ∧ _ then 0 else A 1 i) = A 1 i
      rw [if_neg (by omega)]
    have a2 : (hRun T X lv (hBeg A) i).1 2 = (hBeg A).1 2 := by rw [e1]; rfl
    have k1 : hLo T lv i (hRun T X lv (hBeg A) i) = hLo T lv i (hBeg A) := hLo_cg a0 a1
    have k2 : ∀ s, hJm T i s (hRun T X lv (hBeg A) i) = hJm T i s (hBeg A) := fun s => hJm_cg a0 a2
    have up : up2 (qt T lv A i) 1 i 0 = if hLo T lv i (hBeg A) = true then qt T lv A (i + 1) else up2 (qt T lv A i) 1 i 0 := by
      by_cases c : hLo T lv i (hBeg A) = true
      · rw [if_pos c]
        funext d q
        unfold up2 qt
        by_cases d2 : d = 2
        · subst d2; rfl
        · by_cases d1 : d = 1
          · subst d1
            by_cases qi : q = i
            · subst qi; rw [if_pos ⟨rfl, rfl⟩, if_neg d2, if_pos rfl, if_pos ⟨Nat.lt_succ_self q, c⟩]
            · rw [if_neg (by omega), if_neg d2, if_pos rfl, if_neg d2, if_pos rfl]
              by_cases ql : q < i
              · by_cases cc : hLo T lv q (hBeg A) = true
                · rw [if_pos ⟨ql, cc⟩, if_pos ⟨by omega, cc⟩]
                · rw [if_neg (fun z => cc z.2), if_neg (fun z => cc z.2)]
              · rw [if_neg (fun z => ql z.1), if_neg (fun z => by have := z.1; omega)]
          · rw [if_neg (by omega), if_neg d2, if_neg d1, if_neg d2, if_neg d1]
      · rw [if_neg c]
    show (hStep T X lv i (hRun T X lv (hBeg A) i)).1 = _ ∧ (hStep T X lv i (hRun T X lv (hBeg A) i)).2.1 = 0
    by_cases c : hLo T lv i (hBeg A) = true
    · rw [if_pos c] at up
      have c' : hLo T lv i (hRun T X lv (hBeg A) i) = true := k1.trans c
      cases e0 : stg T X (A 0 i) (T 0 1) with
      | none =>
        rw [hs_0 c' (by rw [a0]; exact e0)]
        exact ⟨by rw [e1]; exact up, e2⟩
      | some s =>
        rw [hs_j c' (by rw [a0]; exact e0) ((k2 s).trans (gone_f hg c e0))]
        exact ⟨by rw [e1]; exact up, e2⟩
    · have c' : ¬ hLo T lv i (hRun T X lv (hBeg A) i) = true := by rw [k1]; exact c
      rw [hs_n c']
      refine ⟨?_, e2⟩
      rw [e1]
      funext d q
      unfold qt
      by_cases d2 : d = 2
      · rw [if_pos d2, if_pos d2]
      · rw [if_neg d2, if_neg d2]
        by_cases d1 : d = 1
        · rw [if_pos d1, if_pos d1]
          by_cases cc : hLo T lv q (hBeg A) = true
          · have qi : q ≠ i := fun z => c (z ▸ cc)
            by_cases ql : q < i
            · rw [if_pos ⟨ql, cc⟩, if_pos ⟨by omega, cc⟩]
            · rw [if_neg (fun z => ql z.1), if_neg (fun z => by have := z.1; omega)]
          · rw [if_neg (fun z => cc z.2), if_neg (fun z => cc z.2)]
        · rw [if_neg d1, if_neg d1]
theorem gone_of {T : fz_A2} {X : Nat → Bool} {lv : Nat} {A : fz_A2} : ∀ {i : Nat}, i ≤ 6 → (hRun T X lv (hBeg A) i).2.1 = 0 → ∀ q, q < i → gone T X lv A q = false
  | 0, _, _ => fun q hq => absurd hq (Nat.not_lt_zero q)
  | i + 1, hi, h => by
    have hmono : (hRun T X lv (hBeg A) i).2.1 = 0 := by
      have h' : (hStep T X lv i (hRun T X lv (hBeg A) i)).2.1 = 0 := h
      by_cases c : hLo T lv i (hRun T X lv (hBeg A) i) = true
      · cases e0 : stg T X ((hRun T X lv (hBeg A) i).1 0 i) (T 0 1) with
        | none => rw [hs_0 c e0] at h'; exact h'
        | some s =>
          by_cases k : hJm T i s (hRun T X lv (hBeg A) i) = true
          · rw [hs_j c e0 k] at h'; exact h'
          · rw [hs_g c e0 k] at h'; exact (or_z _ _ h').1
      · rw [hs_n c] at h'; exact h'
    have ih := gone_of (i := i) (by omega) hmono
    intro q hq
    by_cases qi : q < i
    · exact ih q qi
    · have : q = i := by omega
      subst this
      obtain ⟨e1, e2⟩ := run_q ih
      have a0 : (hRun T X lv (hBeg A) q).1 0 q = A 0 q := by rw [e1]; rfl
      have a1 : (hRun T X lv (hBeg A) q).1 1 q = A 1 q := by
        rw [e1]
        show (if q < q ∧ _ then 0 else A 1 q) = A 1 q
        rw [if_neg (by omega)]
      have a2 : (hRun T X lv (hBeg A) q).1 2 = (hBeg A).1 2 := by rw [e1]; rfl
      have k1 : hLo T lv q (hRun T X lv (hBeg A) q) = hLo T lv q (hBeg A) := hLo_cg a0 a1
      have k2 : ∀ s, hJm T q s (hRun T X lv (hBeg A) q) = hJm T q s (hBeg A) := fun s => hJm_cg a0 a2
      have h' : (hStep T X lv q (hRun T X lv (hBeg A) q)).2.1 = 0 := h
      unfold gone
      by_cases c : hLo T lv q (hBeg A) = true
      · cases e0 : stg T X (A 0 q) (T 0 1) with
        | none => rw [c]; rfl
        | some s =>
          by_cases k : hJm T q s (hBeg A) = true
          · show (_ && !hJm T q s (hBeg A)) = false
            rw [k]; simp
          · rw [hs_g (k1.trans c) (by rw [a0]; exact e0) (by rw [k2]; exact k)] at h'
            exact absurd (or_z _ _ h').2 (bit_nz q (by omega))
      · rw [Bool.eq_false_iff.mpr c]; rfl
theorem still {T : fz_A2} {X : Nat → Bool} {lv : Nat} {A : fz_A2} (hw : wT T) (h : ∀ q, q < T 0 2 → gone T X lv A q = false) : (hHour T X lv A).1 0 = A 0 ∧ ∀ q, q < T 0 2 → gone T X lv (hHour T X lv A).1 q = false := by
  obtain ⟨e1, -⟩ := run_q h
  have e1' : (hHour T X lv A).1 = qt T lv A (T 0 2) := e1
  rw [e1']
  refine ⟨rfl, fun q hq => ?_⟩
  have u8 := (hw.2.2.2.2.2.1 q hq).2.2.2.1
  have k : hLo T lv q (hBeg (qt T lv A (T 0 2))) = hLo T lv q (hBeg A) := by
    by_cases c : hLo T lv q (hBeg A) = true
    · have c' := hLo_t c
      have c1 : T 8 q ≤ lv - T 1 (A 0 q) := c'.1
      rw [c]
      unfold hLo
      have z1 : (hBeg (qt T lv A (T 0 2))).1 1 q = 0 := by
        show (if q < T 0 2 ∧ hLo T lv q (hBeg A) = true then 0 else A 1 q) = 0
        rw [if_pos ⟨hq, c⟩]
      have z0 : (hBeg (qt T lv A (T 0 2))).1 0 q = A 0 q := rfl
      rw [z1, z0, decide_eq_true c1, decide_eq_true (show 0 < lv - T 1 (A 0 q) by omega)]; rfl
    · refine hLo_cg rfl ?_
      show (if q < T 0 2 ∧ hLo T lv q (hBeg A) = true then 0 else A 1 q) = A 1 q
      rw [if_neg (fun z => c z.2)]
  have hq' := h q hq
  unfold gone at hq' ⊢
  rw [k]
  exact hq'
theorem still_n {T : fz_A2} {X : Nat → Bool} {lv : Nat} {A : fz_A2} (hw : wT T) {i : Nat} (h : ∀ q, q < T 0 2 → gone T X lv (hIter T X lv A i) q = false) : ∀ d, hIter T X lv A (i + d) 0 = hIter T X lv A i 0 ∧ ∀ q, q < T 0 2 → gone T X lv (hIter T X lv A (i + d)) q = false
  | 0 => ⟨rfl, h⟩
  | d + 1 => by
    obtain ⟨a, b⟩ := still_n hw h d
    obtain ⟨c, e⟩ := still hw b
    exact ⟨c.trans a, e⟩
theorem wIter {T : fz_A2} {X : Nat → Bool} {lv : Nat} {A : fz_A2} (hw : wT T) (hA : ∀ p, p < T 0 2 → A 0 p < T 0 0 ∧ A 1 p ≤ 9) : ∀ i, ∀ p, p < T 0 2 → hIter T X lv A i 0 p < T 0 0 ∧ hIter T X lv A i 1 p ≤ 9
  | 0 => hA
  | i + 1 => (wH_run hw (hBeg_w (wIter hw hA i)) _).1
theorem cFl_e {P lv n : Nat} {T A : fz_A2} {X : Nat → Bool} {M : fz_M} (hP : P = 20 ∨ P = 30) (hl : lv ≤ 19) (hn : n ≤ 9) (hT : cT P T M) (hw : wT T) (h : ∀ p, p < T 0 2 → M.1 11 p = nI (A 0 p) ∧ M.1 12 p = nI (A 1 p)) (hA : ∀ p, p < T 0 2 → A 0 p < T 0 0 ∧ A 1 p ≤ 9) (hS : ∀ h, h < T 0 0 → M.1 13 h = enc (stg T X h (T 0 1))) : ∃ M', f_X7_passHours P (nI lv) (nI n) M = some M' ∧ M'.2 = M.2 ∧ (∀ d, d ≠ 10 → d ≠ 11 → d ≠ 12 → d ≠ 14 → M'.1 d = M.1 d) ∧ ∀ p, p < T 0 2 → M'.1 11 p = nI (hIter T X lv A n 0 p) := by
  have hn2 := hw.2.2.1
  unfold f_X7_passHours f_X7_passHours_3
  refine lp_gen (K := fun a => some a) (fun i (s : Int32 × fz_M) => s.1 = nI i ∧ s.2.2 = M.2 ∧ (∀ d, d ≠ 10 → d ≠ 11 → d ≠ 12 → d ≠ 14 → s.2.1 d = M.1 d) ∧ ∀ p, p < T 0 2 → s.2.1 11 p = nI (hIter T X lv A i 0 p) ∧ s.2.1 12 p = nI (hIter T X lv A i 1 p)) n ?_ ?_ (by unfold fz_fuel; omega) ⟨rfl, rfl, fun _ _ _ _ _ => rfl, h⟩
  · rintro i ⟨x, M0⟩ hi ⟨rfl, e2, e3, e4⟩
    dsimp only at e2 e3 e4
    have hlt : ¬ nI n ≤ nI i := nI_ge hi (by omega)
    obtain ⟨M', q1, q2, q3, q4⟩ := cHr_e (A := hIter T X lv A i) (X := X) (M := M0) hP hl (cT_fr hT fun o ho => e3 _ (by omega) (by omega) (by omega) (by omega)) hw e4 (wIter hw hA i) (fun h hh => by rw [e3 13 (by decide) (by decide) (by decide) (by decide)]; exact hS h hh)
    by_cases hg : (hHour T X lv (hIter T X lv A i)).2.1 = 0
    · refine Or.inr ⟨M', ⟨q2.trans e2, fun d x y w v => (q3 d x y w v).trans (e3 d x y w v), fun p hp => ?_⟩, fun kk => ?_⟩
      · have hgo := gone_of hn2 hg
        obtain ⟨s1, -⟩ := still_n (A := A) (i := i) hw hgo (n - i)
        obtain ⟨s2, -⟩ := still_n (A := A) (i := i) hw hgo 1
        rw [show i + (n - i) = n from by omega] at s1
        rw [s1, ← s2]
        exact (q4.1 p hp).1
      · show f_X7_passHours_3_s P kk (nI lv) (nI n) (nI i) M0 = _
        simp only [f_X7_passHours_3_s, hlt, q1, fz_b1_e, fz_f_e, q4.2.2.1, hg, ↓reduceIte, not_true_eq_false]
    · refine Or.inl ⟨(nI (i + 1), M'), ⟨rfl, q2.trans e2, fun d x y w v => (q3 d x y w v).trans (e3 d x y w v), q4.1⟩, fun kk => ?_⟩
      show f_X7_passHours_3_s P kk (nI lv) (nI n) (nI i) M0 = _
      simp only [f_X7_passHours_3_s, hlt, q1, fz_b1_e, fz_f_e, q4.2.2.1, hg, nI_1, ↓reduceIte, not_false_eq_true]
  · rintro ⟨x, M0⟩ ⟨rfl, e2, e3, e4⟩
    refine ⟨M0, ⟨e2, e3, fun p hp => (e4 p hp).1⟩, fun kk => ?_⟩
    show f_X7_passHours_3_s P kk (nI lv) (nI n) (nI n) M0 = _
    simp only [f_X7_passHours_3_s, show nI n ≤ nI n from nI_le (Nat.le_refl _) (by omega), ↓reduceIte]
theorem mFl_e {lv n : Nat} {T A : fz_A2} {X : Nat → Bool} {M : fz_M} (hl : lv ≤ 19) (hn : n ≤ 9) (hT : mT T M) (hw : wT T) (h : ∀ p, p < T 0 2 → M.1 29 p = nI (A 0 p) ∧ M.1 30 p = nI (A 1 p)) (hA : ∀ p, p < T 0 2 → A 0 p < T 0 0 ∧ A 1 p ≤ 9) (hX : ∀ s, s < T 0 1 → (M.1 7 s = 0 ↔ X s = true)) : ∃ M', f_X9_goHours (nI lv) (nI n) M = some M' ∧ M'.2 = M.2 ∧ (∀ d, d ≠ 0 → d ≠ 29 → d ≠ 30 → d ≠ 31 → M'.1 d = M.1 d) ∧ (∀ j, j ≠ 42 → M'.1 0 j = M.1 0 j) ∧ ∀ p, p < T 0 2 → M'.1 29 p = nI (hIter T X lv A n 0 p) := by
  have hn2 := hw.2.2.1
  unfold f_X9_goHours f_X9_goHours_2
  refine lp_gen (K := fun a => some a) (fun i (s : Int32 × fz_M) => s.1 = nI i ∧ s.2.2 = M.2 ∧ (∀ d, d ≠ 0 → d ≠ 29 → d ≠ 30 → d ≠ 31 → s.2.1 d = M.1 d) ∧ (∀ j, j ≠ 42 → s.2.1 0 j = M.1 0 j) ∧ ∀ p, p < T 0 2 → s.2.1 29 p = nI (hIter T X lv A i 0 p) ∧ s.2.1 30 p = nI (hIter T X lv A i 1 p)) n ?_ ?_ (by unfold fz_fuel; omega) ⟨rfl, rfl, fun _ _ _ _ _ => rfl, fun _ _ => rfl, h⟩
  · rintro i ⟨x, M0⟩ hi ⟨rfl, e2, e3, e5, e4⟩
    dsimp only at e2 e3 e4 e5
    have hlt : ¬ nI n ≤ nI i := nI_ge hi (by omega)
    obtain ⟨M', q1, q2, q3, q5, q4⟩ := mHr_e (A := hIter T X lv A i) (X := X) (M := M0) hl (mT_fr hT (e5 4 (by decide)) (e5 5 (by decide)) (e5 6 (by decide)) fun c x y z => e3 c (by omega) (by omega) (by omega) (by omega)) hw e4 (wIter hw hA i) (fun s hs => by rw [e3 7 (by decide) (by decide) (by decide) (by decide)]; exact hX s hs)
    refine Or.inl ⟨(nI (i + 1), M'), ⟨rfl, q2.trans e2, fun d x y w v => (q3 d x y w v).trans (e3 d x y w v), fun j x => (q5 j x).trans (e5 j x), q4.1⟩, fun kk => ?_⟩
    show f_X9_goHours_2_s kk (nI lv) (nI n) (nI i) M0 = _
    simp only [f_X9_goHours_2_s, hlt, q1, fz_b2_e, nI_1, ↓reduceIte]
  · rintro ⟨x, M0⟩ ⟨rfl, e2, e3, e5, e4⟩
    refine ⟨M0, ⟨e2, e3, e5, fun p hp => (e4 p hp).1⟩, fun kk => ?_⟩
    show f_X9_goHours_2_s kk (nI lv) (nI n) (nI n) M0 = _
    simp only [f_X9_goHours_2_s, show nI n ≤ nI n from nI_le (Nat.le_refl _) (by omega), ↓reduceIte]
