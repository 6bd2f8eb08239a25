/-! ties -/
def hasB (x : Int32) (p : Nat) : Bool := decide (((x >>> (nI p &&& 31)) &&& 1) = 1)
theorem has_e (x : Int32) (p : Nat) (M : fz_M) : f_X9_has x (nI p) M = some (if hasB x p = true then 1 else 0) := by
  unfold f_X9_has hasB
  by_cases c : ((x >>> (nI p &&& 31)) &&& 1) = 1
  · rw [if_neg (fun q => q c), decide_eq_true c]; rfl
  · rw [if_pos c, decide_eq_false c]; rfl
def dep9 (T S : fz_A2) (lv q : Nat) : Nat := if lv - T 1 (S 0 q) ≤ 9 then lv - T 1 (S 0 q) else 9
theorem dep9_le (T S : fz_A2) (lv q : Nat) : dep9 T S lv q ≤ 9 := by unfold dep9; split <;> omega
def tcst (T S : fz_A2) (lv v : Nat) : Nat → Nat
  | 0 => 0
  | p + 1 => if hasB (nI v) p = true then tcst T S lv v p + dep9 T S lv p else tcst T S lv v p
theorem tcst_le (T S : fz_A2) (lv v : Nat) : ∀ p, tcst T S lv v p ≤ 9 * p
  | 0 => Nat.le_refl _
  | p + 1 => by
    have a := tcst_le T S lv v p
    have b := dep9_le T S lv p
    simp only [tcst]
    split <;> omega
def tA (T S : fz_A2) (lv v i : Nat) : fz_A2 := fun c q => if c = 1 ∧ q < i ∧ hasB (nI v) q = true then dep9 T S lv q else S c q
theorem tA_w {T S : fz_A2} {lv v i : Nat} (h : wS T S) : ∀ p, p < T 0 2 → tA T S lv v i 0 p < T 0 0 ∧ tA T S lv v i 1 p ≤ 9 := fun p hp => by
  obtain ⟨a, b⟩ := wS_A h p hp
  refine ⟨by show (if 0 = 1 ∧ _ then _ else S 0 p) < _; rw [if_neg (by omega)]; exact a, ?_⟩
  show (if _ then _ else _) ≤ 9
  split
  · exact dep9_le T S lv p
  · exact b
def stB (told : Int32) (f g : Nat → Nat) : Nat → Bool
  | 0 => true
  | p + 1 => stB told f g p && (!hasB told p || decide (f p = g p))
theorem stB_mono {told : Int32} {f g : Nat → Nat} {i n : Nat} (hi : i ≤ n) (h0 : stB told f g i = false) : stB told f g n = false := by
  induction n with
  | zero => rw [Nat.le_zero.mp hi] at h0; exact h0
  | succ n ih =>
    by_cases q : i = n + 1
    · subst q; exact h0
    · simp only [stB, ih (by omega), Bool.false_and]
def tiS (cost : Nat → Nat) (stay : Nat → Bool) : Nat → Option (Nat × Nat)
  | 0 => none
  | v + 1 => match tiS cost stay v with
    | none => if stay v = true then some (cost v, v) else none
    | some (c, e) => if c ≤ cost v then some (c, e) else if stay v = true then some (cost v, v) else some (c, e)
def enc1 : Option (Nat × Nat) → Int32
  | none => -9
  | some (c, _) => nI c
def enc2 : Option (Nat × Nat) → Int32
  | none => -9
  | some (_, e) => nI e
theorem tiS_b {cost : Nat → Nat} {stay : Nat → Bool} {b : Nat} (hb : ∀ v, cost v ≤ b) : ∀ {v c e : Nat}, tiS cost stay v = some (c, e) → c ≤ b ∧ e < v
  | 0, c, e, h => by cases h
  | v + 1, c, e, h => by
    cases e0 : tiS cost stay v with
    | none =>
      simp only [tiS, e0] at h
      split at h
      · cases h; exact ⟨hb v, Nat.lt_succ_self v⟩
      · cases h
    | some ce =>
      obtain ⟨c0, e1⟩ := ce
      obtain ⟨q1, q2⟩ := tiS_b hb e0
      simp only [tiS, e0] at h
      split at h
      · cases h; exact ⟨q1, by omega⟩
      · split at h
        · cases h; exact ⟨hb v, Nat.lt_succ_self v⟩
        · cases h; exact ⟨q1, by omega⟩
theorem cTie_e {P lv v : Nat} {T S : fz_A2} {M M0 : fz_M} (hE : eqC M M0) (h1 : rTop P M) (hl : lv ≤ 19) (hT : cT P T M) (hw : wT T) (hS : wS T S) (h : ∀ p, p < T 0 2 → M0.1 11 p = nI (S 0 p) ∧ M0.1 12 p = nI (S 1 p)) : ∃ M', f_X8_tieAll (nI v) (nI lv) M0 = some (nI (tcst T S lv v (T 0 2)), M') ∧ eqC M M' ∧ (∀ p, p < T 0 2 → M'.1 11 p = nI (tA T S lv v (T 0 2) 0 p) ∧ M'.1 12 p = nI (tA T S lv v (T 0 2) 1 p)) ∧ M'.1 13 = M0.1 13 := by
  have hn2 := hw.2.2.1
  have hP := rTop_P h1
  unfold f_X8_tieAll f_X8_tieAll_5
  refine lp_gen (K := fun a => some (nI (tcst T S lv v (T 0 2)), a)) (fun i (s : Int32 × Int32 × fz_M) => s.1 = nI (tcst T S lv v i) ∧ s.2.1 = nI i ∧ eqC M s.2.2 ∧ (∀ p, p < T 0 2 → s.2.2.1 11 p = nI (S 0 p) ∧ s.2.2.1 12 p = nI (tA T S lv v i 1 p)) ∧ s.2.2.1 13 = M0.1 13) (T 0 2) ?_ ?_ (by unfold fz_fuel; omega) ⟨rfl, rfl, hE, fun p hp => ⟨(h p hp).1, by rw [(h p hp).2]; show nI (S 1 p) = nI (if _ then _ else _); rw [if_neg (fun q => by omega)]⟩, rfl⟩
  · rintro i ⟨x, y, N⟩ hi ⟨rfl, rfl, e2, e3, e4⟩
    dsimp only at e2 e3 e4
    have hin : fz_in (nI i) 6 = true := fz_in_nI (by omega) (by decide)
    have h31 : i < 2 ^ 31 := by omega
    have hlt : ¬ nI (T 0 2) ≤ nI i := nI_ge hi (by omega)
    have hq1 := (eqC_top e2 h1).1
    have hq2 := (eqC_T e2 hP hT).2.2.1
    have s0 := (wS_A hS i hi).1
    have hwa := water_e (eqC_T e2 hP hT) hw s0 hl
    by_cases c : ((nI v >>> (nI i &&& 31)) &&& 1) = 1
    · have cb : hasB (nI v) i = true := decide_eq_true c
      have x11 : (if (9 : Int32) < nI (lv - T 1 (S 0 i)) then 9 else nI (lv - T 1 (S 0 i))) = nI (dep9 T S lv i) := by
        unfold dep9
        by_cases d : lv - T 1 (S 0 i) ≤ 9
        · have q : ¬ (9 : Int32) < nI (lv - T 1 (S 0 i)) := nI_nlt (a := 9) (b := lv - T 1 (S 0 i)) d (by decide)
          rw [if_pos d, if_neg q]
        · have q : (9 : Int32) < nI (lv - T 1 (S 0 i)) := nI_lt (a := 9) (b := lv - T 1 (S 0 i)) (by omega) (by omega)
          rw [if_neg d, if_pos q]; rfl
      refine Or.inl ⟨(nI (tcst T S lv v (i + 1)), nI (i + 1), fz_w N 12 i (nI (dep9 T S lv i))), ⟨rfl, rfl, ⟨e2.1, fun d x => by rw [w_ne (by omega)]; exact e2.2 d x⟩, fun p hp => ?_, ?_⟩, fun kk => ?_⟩
      · show (fz_w _ _ _ _).1 11 p = _ ∧ (fz_w _ _ _ _).1 12 p = nI (if 1 = 1 ∧ p < i + 1 ∧ hasB (nI v) p = true then _ else _)
        rw [w_ne (by decide)]
        refine ⟨(e3 p hp).1, ?_⟩
        by_cases cp : p = i
        · subst cp; rw [w_at, if_pos ⟨rfl, Nat.lt_succ_self p, cb⟩]
        · rw [w_nj cp, (e3 p hp).2]
          show nI (if 1 = 1 ∧ p < i ∧ hasB (nI v) p = true then _ else _) = _
          by_cases q : p < i ∧ hasB (nI v) p = true
          · rw [if_pos ⟨rfl, q⟩, if_pos ⟨rfl, by omega, q.2⟩]
          · rw [if_neg (fun z => q z.2), if_neg (fun z => q ⟨by have := z.2.1; omega, z.2.2⟩)]
      · show (fz_w _ _ _ _).1 13 = _
        rw [w_ne (by decide)]; exact e4
      · show f_X8_tieAll_5_s kk (nI v) (nI lv) (nI (tcst T S lv v i)) (nI i) N = _
        simp only [f_X8_tieAll_5_s, fz_bd_e, fz_d_e, hq1, fz_gd_t (isP_ok h1), fz_f_e, hq2, hlt, c, fz_gd_t hin, fz_g_nI h31, (e3 i hi).1, hwa, fz_b1_e, x11, fz_s_nI h31, nI_add, nI_1, tcst, cb, ↓reduceIte, not_true_eq_false]
    · have cb : ¬ hasB (nI v) i = true := fun q => c (of_decide_eq_true q)
      refine Or.inl ⟨(nI (tcst T S lv v (i + 1)), nI (i + 1), N), ⟨rfl, rfl, e2, fun p hp => ⟨(e3 p hp).1, ?_⟩, e4⟩, fun kk => ?_⟩
      · rw [(e3 p hp).2]
        show nI (if 1 = 1 ∧ p < i ∧ hasB (nI v) p = true then _ else _) = nI (if 1 = 1 ∧ p < i + 1 ∧ hasB (nI v) p = true then _ else _)
        by_cases q : p < i ∧ hasB (nI v) p = true
        · rw [if_pos ⟨rfl, q⟩, if_pos ⟨rfl, by omega, q.2⟩]
        · rw [if_neg (fun z => q z.2), if_neg (fun z => q ⟨by
            have z1 := z.2.1
            have : p ≠ i := fun y => cb (y ▸ z.2.2)
            omega, z.2.2⟩)]
      · show f_X8_tieAll_5_s kk (nI v) (nI lv) (nI (tcst T S lv v i)) (nI i) N = _
        simp only [f_X8_tieAll_5_s, fz_bd_e, fz_d_e, hq1, fz_gd_t (isP_ok h1), fz_f_e, hq2, hlt, c, nI_1, tcst, cb, ↓reduceIte, not_false_eq_true]
        rfl
  · rintro ⟨x, y, N⟩ ⟨rfl, rfl, e2, e3, e4⟩
    dsimp only at e2 e3 e4
    have hq1 := (eqC_top e2 h1).1
    have hq2 := (eqC_T e2 hP hT).2.2.1
    refine ⟨N, ⟨e2, fun p hp => ⟨?_, (e3 p hp).2⟩, e4⟩, fun kk => ?_⟩
    · rw [(e3 p hp).1]; show nI (S 0 p) = nI (if 0 = 1 ∧ _ then _ else _); rw [if_neg (by omega)]
    · show f_X8_tieAll_5_s kk (nI v) (nI lv) (nI (tcst T S lv v (T 0 2))) (nI (T 0 2)) N = _
      simp only [f_X8_tieAll_5_s, fz_bd_e, fz_d_e, hq1, fz_gd_t (isP_ok h1), fz_f_e, hq2, show nI (T 0 2) ≤ nI (T 0 2) from nI_le (Nat.le_refl _) (by omega), ↓reduceIte]
theorem cSty_e {P : Nat} {T : fz_A2} {f g : Nat → Nat} {M : fz_M} (told : Int32) (h1 : rTop P M) (hT : cT P T M) (hw : wT T) (hf : ∀ p, p < T 0 2 → M.1 11 p = nI (f p) ∧ f p < 2 ^ 31) (hg : ∀ p, p < T 0 2 → M.1 41 p = nI (g p) ∧ g p < 2 ^ 31) : f_X8_areWhereTheyWere told M = some (if stB told f g (T 0 2) = true then 1 else 0) := by
  have hn2 := hw.2.2.1
  unfold f_X8_areWhereTheyWere f_X8_areWhereTheyWere_2
  refine lp_inv (F := fun ag z => f_X8_areWhereTheyWere_2_s ag told z M) (fun i (s : Int32) => s = nI i ∧ stB told f g i = true) (fun r => r = some (if stB told f g (T 0 2) = true then 1 else 0)) (T 0 2) ?_ ?_ (by unfold fz_fuel; omega) ⟨rfl, rfl⟩
  · rintro i x hi ⟨rfl, e2⟩
    have hin : fz_in (nI i) 6 = true := fz_in_nI (by omega) (by decide)
    have h31 : i < 2 ^ 31 := by omega
    have hlt : ¬ nI (T 0 2) ≤ nI i := nI_ge hi (by omega)
    have k1 : (nI (f i) = nI (g i)) = (f i = g i) := propext (nI_eq (hf i hi).2 (hg i hi).2)
    have h41 : M.1 (40 + 1) i = nI (g i) := (hg i hi).1
    by_cases c : ((told >>> (nI i &&& 31)) &&& 1) = 1
    · have cb : hasB told i = true := decide_eq_true c
      by_cases c2 : f i = g i
      · refine Or.inl ⟨nI (i + 1), ⟨rfl, by simp only [stB, e2, cb, c2, decide_true, Bool.or_true, Bool.and_true]⟩, fun kk => ?_⟩
        simp only [f_X8_areWhereTheyWere_2_s, fz_bd_e, fz_d_e, h1.1, fz_gd_t (isP_ok h1), fz_f_e, hT.2.2.1, hlt, c, fz_gd_t hin, fz_g_nI h31, (hf i hi).1, h41, k1, c2, nI_1, ↓reduceIte, not_true_eq_false]
      · have hff : stB told f g (T 0 2) = false := stB_mono (i := i + 1) hi (by simp only [stB, cb, c2, decide_false, Bool.not_true, Bool.or_false, Bool.and_false])
        refine Or.inr ⟨some 0, by rw [hff]; rfl, fun kk => ?_⟩
        simp only [f_X8_areWhereTheyWere_2_s, fz_bd_e, fz_d_e, h1.1, fz_gd_t (isP_ok h1), fz_f_e, hT.2.2.1, hlt, c, fz_gd_t hin, fz_g_nI h31, (hf i hi).1, h41, k1, c2, ↓reduceIte, not_true_eq_false]
    · have cb : hasB told i = false := decide_eq_false c
      refine Or.inl ⟨nI (i + 1), ⟨rfl, by simp only [stB, e2, cb, Bool.not_false, Bool.true_or, Bool.and_true]⟩, fun kk => ?_⟩
      simp only [f_X8_areWhereTheyWere_2_s, fz_bd_e, fz_d_e, h1.1, fz_gd_t (isP_ok h1), fz_f_e, hT.2.2.1, hlt, c, nI_1, ↓reduceIte, not_false_eq_true]
  · rintro x ⟨rfl, e2⟩
    refine ⟨some 1, by rw [e2]; rfl, fun kk => ?_⟩
    simp only [f_X8_areWhereTheyWere_2_s, fz_bd_e, fz_d_e, h1.1, fz_gd_t (isP_ok h1), fz_f_e, hT.2.2.1, show nI (T 0 2) ≤ nI (T 0 2) from nI_le (Nat.le_refl _) (by omega), ↓reduceIte]
theorem mTie_e {lv v : Nat} {T S : fz_A2} {M M0 : fz_M} (told n v4 : Int32) (hE : eqM M M0) (hl : lv ≤ 19) (hT : mT T M) (hw : wT T) (hS : wS T S) (h : ∀ p, p < T 0 2 → M0.1 29 p = nI (S 0 p) ∧ M0.1 30 p = nI (S 1 p)) : ∃ M', (∀ ag7, f_X9_findTies_28 ag7 told (nI lv) n v4 (nI v) 0 0 M0 = (if v4 = -9 then f_X9_findTies_137 ag7 told (nI lv) n v4 (nI v) (nI (tcst T S lv v (T 0 2))) M' else if v4 ≤ nI (tcst T S lv v (T 0 2)) then ag7 (v4, nI v + 1, M') else f_X9_findTies_137 ag7 told (nI lv) n v4 (nI v) (nI (tcst T S lv v (T 0 2))) M')) ∧ eqM M M' ∧ (∀ p, p < T 0 2 → M'.1 29 p = nI (tA T S lv v (T 0 2) 0 p) ∧ M'.1 30 p = nI (tA T S lv v (T 0 2) 1 p)) ∧ M'.1 0 = M0.1 0 := by
  have hn2 := hw.2.2.1
  unfold f_X9_findTies_28
  refine lp_all (F := fun ag7 ag z => f_X9_findTies_28_s ag7 ag told (nI lv) n v4 (nI v) z.1 z.2.1 z.2.2) (K := fun ag7 M' => (if v4 = -9 then f_X9_findTies_137 ag7 told (nI lv) n v4 (nI v) (nI (tcst T S lv v (T 0 2))) M' else if v4 ≤ nI (tcst T S lv v (T 0 2)) then ag7 (v4, nI v + 1, M') else f_X9_findTies_137 ag7 told (nI lv) n v4 (nI v) (nI (tcst T S lv v (T 0 2))) M')) (fun i (s : Int32 × Int32 × fz_M) => s.1 = nI (tcst T S lv v i) ∧ s.2.1 = nI i ∧ eqM M s.2.2 ∧ (∀ p, p < T 0 2 → s.2.2.1 29 p = nI (S 0 p) ∧ s.2.2.1 30 p = nI (tA T S lv v i 1 p)) ∧ s.2.2.1 0 = M0.1 0) (T 0 2) ?_ ?_ (by unfold fz_fuel; omega) ⟨rfl, rfl, hE, fun p hp => ⟨(h p hp).1, by rw [(h p hp).2]; show nI (S 1 p) = nI (if _ then _ else _); rw [if_neg (fun q => by omega)]⟩, rfl⟩
  · rintro i ⟨x, y, N⟩ hi ⟨rfl, rfl, e2, e3, e4⟩
    dsimp only at e2 e3 e4
    have hin : fz_in (nI i) 6 = true := fz_in_nI (by omega) (by decide)
    have h31 : i < 2 ^ 31 := by omega
    have hlt : ¬ nI (T 0 2) ≤ nI i := nI_ge hi (by omega)
    have hq2 := (eqM_T e2 hT).2.2.1
    have s0 := (wS_A hS i hi).1
    have hde := depth_e (eqM_T e2 hT) hw s0 hl
    have hd5 : ∀ (ag7 : (Int32 × Int32 × fz_M) → Option (Int32 × fz_M)) (kk : (Int32 × Int32 × fz_M) → Option (Int32 × fz_M)), f_X9_findTies_28_s ag7 kk told (nI lv) n v4 (nI v) (nI (tcst T S lv v i)) (nI i) N = f_X9_findTies_65 ag7 kk told (nI lv) n v4 (nI v) (nI (tcst T S lv v i)) (nI i) (nI (dep9 T S lv i)) N := fun ag7 kk => by
      have k9 : (nI (lv - T 1 (S 0 i)) ≤ 9) = (lv - T 1 (S 0 i) ≤ 9) := propext (nI_leI (b := 9) (by omega) (by decide))
      simp only [f_X9_findTies_28_s, fz_f_e, hq2, hlt, fz_gd_t hin, fz_g_nI h31, (e3 i hi).1, hde, fz_b1_e, k9, dep9, ↓reduceIte]
      by_cases d : lv - T 1 (S 0 i) ≤ 9
      · rw [if_pos d, if_pos d]
      · rw [if_neg d, if_neg d]; rfl
    by_cases cb : hasB (nI v) i = true
    · refine Or.inl ⟨(nI (tcst T S lv v (i + 1)), nI (i + 1), fz_w N 30 i (nI (dep9 T S lv i))), ⟨rfl, rfl, ⟨fun d x y => by rw [w_ne (by omega)]; exact e2.1 d x y, fun j x y => by rw [w_ne (by decide)]; exact e2.2 j x y⟩, fun p hp => ?_, ?_⟩, fun ag7 kk => ?_⟩
      · show (fz_w _ _ _ _).1 29 p = _ ∧ (fz_w _ _ _ _).1 30 p = nI (if 1 = 1 ∧ p < i + 1 ∧ hasB (nI v) p = true then _ else _)
        rw [w_ne (by decide)]
        refine ⟨(e3 p hp).1, ?_⟩
        by_cases cp : p = i
        · subst cp; rw [w_at, if_pos ⟨rfl, Nat.lt_succ_self p, cb⟩]
        · rw [w_nj cp, (e3 p hp).2]
          show nI (if 1 = 1 ∧ p < i ∧ hasB (nI v) p = true then _ else _) = _
          by_cases q : p < i ∧ hasB (nI v) p = true
          · rw [if_pos ⟨rfl, q⟩, if_pos ⟨rfl, by omega, q.2⟩]
          · rw [if_neg (fun z => q z.2), if_neg (fun z => q ⟨by have := z.2.1; omega, z.2.2⟩)]
      · show (fz_w _ _ _ _).1 0 = _
        rw [w_ne (by decide)]; exact e4
      · show f_X9_findTies_28_s ag7 kk told (nI lv) n v4 (nI v) (nI (tcst T S lv v i)) (nI i) N = _
        rw [hd5]
        simp (decide := true) only [f_X9_findTies_65, f_X9_findTies_85, f_X9_findTies_116, has_e, cb, fz_b1_e, fz_bd_e, fz_gd_t hin, fz_s_nI h31, nI_add, nI_1, tcst, ↓reduceIte]
    · refine Or.inl ⟨(nI (tcst T S lv v (i + 1)), nI (i + 1), fz_w N 30 i (N.1 30 i)), ⟨rfl, rfl, ⟨fun d x y => by rw [w_ne (by omega)]; exact e2.1 d x y, fun j x y => by rw [w_ne (by decide)]; exact e2.2 j x y⟩, fun p hp => ?_, ?_⟩, fun ag7 kk => ?_⟩
      · show (fz_w _ _ _ _).1 29 p = _ ∧ (fz_w _ _ _ _).1 30 p = nI (if 1 = 1 ∧ p < i + 1 ∧ hasB (nI v) p = true then _ else _)
        rw [w_ne (by decide)]
        refine ⟨(e3 p hp).1, ?_⟩
        have hp' : (fz_w N 30 i (N.1 30 i)).1 30 p = N.1 30 p := by
          by_cases cp : p = i
          · subst cp; rw [w_at]
          · rw [w_nj cp]
        rw [hp', (e3 p hp).2]
        show nI (if 1 = 1 ∧ p < i ∧ hasB (nI v) p = true then _ else _) = _
        by_cases q : p < i ∧ hasB (nI v) p = true
        · rw [if_pos ⟨rfl, q⟩, if_pos ⟨rfl, by omega, q.2⟩]
        · rw [if_neg (fun z => q z.2), if_neg (fun z => q ⟨by
            have z1 := z.2.1
            have : p ≠ i := fun y => cb (y ▸ z.2.2)
            omega, z.2.2⟩)]
      · show (fz_w _ _ _ _).1 0 = _
        rw [w_ne (by decide)]; exact e4
      · show f_X9_findTies_28_s ag7 kk told (nI lv) n v4 (nI v) (nI (tcst T S lv v i)) (nI i) N = _
        rw [hd5]
        simp (decide := true) only [f_X9_findTies_65, f_X9_findTies_85, f_X9_findTies_116, has_e, cb, fz_b1_e, fz_bd_e, fz_gd_t hin, fz_g_nI h31, fz_s_nI h31, Int32.add_zero, nI_1, tcst, ↓reduceIte]
  · rintro ⟨x, y, N⟩ ⟨rfl, rfl, e2, e3, e4⟩
    dsimp only at e2 e3 e4
    have hq2 := (eqM_T e2 hT).2.2.1
    refine ⟨N, ⟨e2, fun p hp => ⟨?_, (e3 p hp).2⟩, e4⟩, fun ag7 kk => ?_⟩
    · rw [(e3 p hp).1]; show nI (S 0 p) = nI (if 0 = 1 ∧ _ then _ else _); rw [if_neg (by omega)]
    · show f_X9_findTies_28_s ag7 kk told (nI lv) n v4 (nI v) (nI (tcst T S lv v (T 0 2))) (nI (T 0 2)) N = _
      simp only [f_X9_findTies_28_s, fz_f_e, hq2, show nI (T 0 2) ≤ nI (T 0 2) from nI_le (Nat.le_refl _) (by omega), ↓reduceIte]
theorem mSty_e {T : fz_A2} {f g : Nat → Nat} {M : fz_M} (told w n v4 v5 v6 : Int32) (ag7 : (Int32 × Int32 × fz_M) → Option (Int32 × fz_M)) (hT : mT T M) (hw : wT T) (hf : ∀ p, p < T 0 2 → M.1 29 p = nI (f p) ∧ f p < 2 ^ 31) (hg : ∀ p, p < T 0 2 → M.1 11 p = nI (g p) ∧ g p < 2 ^ 31) : f_X9_findTies_149 ag7 told w n v4 v5 v6 1 0 M = if stB told f g (T 0 2) = true then ag7 (v6, v5 + 1, fz_w M 0 48 v5) else ag7 (v4, v5 + 1, fz_w M 0 48 (M.1 0 48)) := by
  have hn2 := hw.2.2.1
  unfold f_X9_findTies_149
  refine lp_run (fun i => ((if stB told f g i = true then (1 : Int32) else 0), nI i)) (T 0 2) _ (fun i hi kk => ?_) (fun kk => ?_) (by unfold fz_fuel; omega)
  · have hin : fz_in (nI i) 6 = true := fz_in_nI (by omega) (by decide)
    have h31 : i < 2 ^ 31 := by omega
    have hlt : ¬ nI (T 0 2) ≤ nI i := nI_ge hi (by omega)
    have k1 : (nI (f i) = nI (g i)) = (f i = g i) := propext (nI_eq (hf i hi).2 (hg i hi).2)
    show f_X9_findTies_149_s ag7 kk told w n v4 v5 v6 (if stB told f g i = true then 1 else 0) (nI i) M = kk (if stB told f g (i + 1) = true then 1 else 0, nI (i + 1))
    by_cases c0 : stB told f g i = true
    · by_cases c1 : hasB told i = true
      · by_cases c2 : f i = g i
        · simp (decide := true) only [f_X9_findTies_149_s, f_X9_findTies_193, f_X9_findTies_194, fz_f_e, hT.2.2.1, hlt, has_e, fz_b1_e, fz_gd_t hin, fz_g_nI h31, (hf i hi).1, (hg i hi).1, k1, stB, c0, c1, c2, decide_true, Bool.or_true, Bool.and_true, nI_1, ↓reduceIte, not_true_eq_false]
        · simp (decide := true) only [f_X9_findTies_149_s, f_X9_findTies_193, f_X9_findTies_194, fz_f_e, hT.2.2.1, hlt, has_e, fz_b1_e, fz_gd_t hin, fz_g_nI h31, (hf i hi).1, (hg i hi).1, k1, stB, c0, c1, c2, decide_false, Bool.not_true, Bool.or_false, Bool.and_false, nI_1, ↓reduceIte, not_false_eq_true]
      · have c1' : hasB told i = false := Bool.eq_false_iff.mpr c1
        simp (decide := true) only [f_X9_findTies_149_s, f_X9_findTies_193, f_X9_findTies_194, fz_f_e, hT.2.2.1, hlt, has_e, fz_b1_e, stB, c0, c1', Bool.not_false, Bool.true_or, Bool.and_true, nI_1, ↓reduceIte]
    · have c0' : stB told f g i = false := Bool.eq_false_iff.mpr c0
      simp (decide := true) only [f_X9_findTies_149_s, f_X9_findTies_193, f_X9_findTies_194, fz_f_e, hT.2.2.1, hlt, stB, c0', Bool.false_and, nI_1, ↓reduceIte]
  · show f_X9_findTies_149_s ag7 kk told w n v4 v5 v6 (if stB told f g (T 0 2) = true then 1 else 0) (nI (T 0 2)) M = _
    by_cases c0 : stB told f g (T 0 2) = true
    · simp (decide := true) only [f_X9_findTies_149_s, f_X9_findTies_214, f_X9_findTies_231, fz_f_e, hT.2.2.1, show nI (T 0 2) ≤ nI (T 0 2) from nI_le (Nat.le_refl _) (by omega), c0, fz_sf_e, fz_bd_e, ↓reduceIte]
    · simp (decide := true) only [f_X9_findTies_149_s, f_X9_findTies_214, f_X9_findTies_231, fz_f_e, hT.2.2.1, show nI (T 0 2) ≤ nI (T 0 2) from nI_le (Nat.le_refl _) (by omega), c0, fz_sf_e, fz_bd_e, ↓reduceIte]
