/-! rows of springs: the model; rows, ends -/
theorem mkB_cg {ms mh ms' mh' : Nat → Int32} {t h : Int32} : ∀ {n : Nat}, (∀ i, i < n → ms i = ms' i ∧ mh i = mh' i) → mkB ms mh t h n = mkB ms' mh' t h n
  | 0, _ => rfl
  | n + 1, e => by simp only [mkB, mkB_cg (n := n) (fun i hi => e i (by omega)), (e n (by omega)).1, (e n (by omega)).2]
theorem rW_cg {T : fz_A2} {ms mh ms' mh' : Nat → Int32} {n h : Nat} (e : ∀ i, i < n → ms i = ms' i ∧ mh i = mh' i) : ∀ t, rW T ms mh n h t = rW T ms' mh' n h t
  | 0 => rfl
  | t + 1 => by
    funext k
    simp only [rW, rW_cg e t, mkB_cg e]
theorem rAdd_out {T : fz_A2} {W : Nat → Int64} (hw : wT T) {k : Nat} (hk : T 0 0 ≤ k) (h0 : W k = 0) : ∀ s, s ≤ T 0 1 → rAdd T W s k = 0
  | 0, _ => h0
  | s + 1, hs => by
    have := (hw.2.2.2.2.1 s hs).2.1
    simp only [rAdd, if_neg (show ¬ k = T 4 s by omega)]
    exact rAdd_out hw hk h0 s (by omega)
theorem rW_out {T : fz_A2} {ms mh : Nat → Int32} {n h : Nat} (hw : wT T) (hh : h < T 0 0) {k : Nat} (hk : T 0 0 ≤ k) : ∀ t, rW T ms mh n h t k = 0
  | 0 => if_neg (by omega)
  | t + 1 => by
    simp only [rW, rAdd_out hw hk (rW_out hw hh hk t) _ (Nat.le_refl _)]
    split <;> rfl
theorem mkd_e {n : Nat} (hn : n ≤ 8) (t h : Int32) (M : fz_M) (h2 : M.1 0 43 = nI n) : f_X9_isMarked t h M = some (if mkB (M.1 32) (M.1 33) t h n then 1 else 0) := by
  unfold f_X9_isMarked f_X9_isMarked_5
  refine lp_run (fun i => ((if mkB (M.1 32) (M.1 33) t h i then (1 : Int32) else 0), nI i)) n _ (fun i hi kk => ?_) (fun kk => ?_) (by unfold fz_fuel; omega)
  · have hin : fz_in (nI i) 8 = true := fz_in_nI (by omega) (by decide)
    have h31 : i < 2 ^ 31 := by omega
    have hlt : ¬ nI n ≤ nI i := nI_ge hi (by omega)
    show f_X9_isMarked_5_s kk t h (if mkB (M.1 32) (M.1 33) t h i then 1 else 0) (nI i) M = kk (if mkB (M.1 32) (M.1 33) t h (i + 1) then 1 else 0, nI (i + 1))
    by_cases c0 : mkB (M.1 32) (M.1 33) t h i = true
    · by_cases c1 : M.1 32 i = t
      · by_cases c2 : M.1 33 i = h
        · simp (decide := true) only [f_X9_isMarked_5_s, f_X9_isMarked_44, f_X9_isMarked_45, fz_f_e, h2, hlt, fz_gd_t hin, fz_g_nI h31, mkB, c0, c1, c2, decide_true, Bool.not_true, Bool.or_true, Bool.and_true, nI_1, ↓reduceIte, not_true_eq_false]
        · simp (decide := true) only [f_X9_isMarked_5_s, f_X9_isMarked_44, f_X9_isMarked_45, fz_f_e, h2, hlt, fz_gd_t hin, fz_g_nI h31, mkB, c0, c1, c2, decide_true, decide_false, Bool.not_true, Bool.or_false, Bool.and_false, nI_1, ↓reduceIte, not_true_eq_false, not_false_eq_true]
      · simp (decide := true) only [f_X9_isMarked_5_s, f_X9_isMarked_44, f_X9_isMarked_45, fz_f_e, h2, hlt, fz_gd_t hin, fz_g_nI h31, mkB, c0, c1, decide_false, Bool.not_false, Bool.true_or, Bool.and_true, nI_1, ↓reduceIte, not_false_eq_true]
    · simp (decide := true) only [f_X9_isMarked_5_s, f_X9_isMarked_44, f_X9_isMarked_45, fz_f_e, h2, hlt, mkB, c0, Bool.false_and, nI_1, ↓reduceIte]
  · show f_X9_isMarked_5_s kk t h (if mkB (M.1 32) (M.1 33) t h n then 1 else 0) (nI n) M = _
    have hb : fz_nb (if mkB (M.1 32) (M.1 33) t h n then 1 else 0) = true := by split <;> decide
    simp only [f_X9_isMarked_5_s, fz_f_e, h2, show nI n ≤ nI n from nI_le (Nat.le_refl _) (by omega), fz_gd_t hb, ↓reduceIte]
theorem lr3_e {n m t : Nat} {W : Nat → Int64} (hn : n ≤ 8) (M : fz_M) (h2 : M.1 0 43 = nI n) (hW : ∀ k, k < 6 → M.2.1 35 k = W k) : ∃ M', (∀ ag : (Int32 × fz_M) → Option fz_M, f_X9_layRows_115 ag (nI m) (nI t) 0 M = ag (nI (t + 1), M')) ∧ M'.1 = M.1 ∧ M'.2.2 = M.2.2 ∧ ∀ k, k < 6 → M'.2.1 34 k = if mkB (M.1 32) (M.1 33) (nI t) (nI k) n then W k else 0 := by
  unfold f_X9_layRows_115
  refine lp_all (F := fun ag ag2 z => f_X9_layRows_115_s ag ag2 (nI m) (nI t) z.1 z.2) (K := fun ag M' => ag (nI (t + 1), M')) (fun i (s : Int32 × fz_M) => s.1 = nI i ∧ s.2.1 = M.1 ∧ s.2.2.2 = M.2.2 ∧ s.2.2.1 35 = M.2.1 35 ∧ ∀ k, k < i → s.2.2.1 34 k = if mkB (M.1 32) (M.1 33) (nI t) (nI k) n then W k else 0) 6 ?_ ?_ (by decide) ⟨rfl, rfl, rfl, rfl, fun j hj => absurd hj (Nat.not_lt_zero j)⟩
  · rintro i ⟨x, M0⟩ hi ⟨rfl, e2, e3, e4, e5⟩
    dsimp only at e2 e3 e4 e5
    have hin : fz_in (nI i) 6 = true := fz_in_nI hi (by decide)
    have h31 : i < 2 ^ 31 := by omega
    have hlt : ¬ (6 : Int32) ≤ nI i := by rw [n_6]; exact nI_ge hi (by decide)
    have hh := mkd_e hn (nI t) (nI i) M0 (by rw [e2]; exact h2)
    rw [e2] at hh
    refine Or.inl ⟨(nI (i + 1), fz_wL M0 34 i (if mkB (M.1 32) (M.1 33) (nI t) (nI i) n then W i else 0)), ⟨rfl, e2, e3, ?_, fun k hk => ?_⟩, fun ag kk => ?_⟩
    · show (fz_wL _ _ _ _).2.1 35 = _
      rw [wL_ne (by decide)]; exact e4
    · show (fz_wL _ _ _ _).2.1 34 k = _
      by_cases hki : k = i
      · subst hki; rw [wL_at]
      · rw [wL_nj hki]; exact e5 k (by omega)
    · show f_X9_layRows_115_s ag kk (nI m) (nI t) (nI i) M0 = _
      by_cases c1 : mkB (M.1 32) (M.1 33) (nI t) (nI i) n = true
      · rw [if_pos c1] at hh
        simp (decide := true) only [f_X9_layRows_115_s, f_X9_layRows_149, hlt, hh, fz_b1_e, fz_gd_t hin, fz_gl_nI h31, show M0.2.1 35 i = W i from by rw [e4]; exact hW i hi, fz_bd_e, fz_sl_nI h31, c1, nI_1, ↓reduceIte]
      · rw [if_neg c1] at hh
        simp (decide := true) only [f_X9_layRows_115_s, f_X9_layRows_149, hlt, hh, fz_b1_e, fz_gd_t hin, fz_bd_e, fz_sl_nI h31, c1, nI_1, ↓reduceIte]
  · rintro ⟨x, M0⟩ ⟨rfl, e2, e3, e4, e5⟩
    refine ⟨M0, ⟨e2, e3, e5⟩, fun ag kk => ?_⟩
    show f_X9_layRows_115_s ag kk (nI m) (nI t) (nI 6) M0 = _
    simp only [f_X9_layRows_115_s, show (6 : Int32) ≤ nI 6 from by decide, nI_1, ↓reduceIte]
theorem lr2_e {n m t : Nat} {T : fz_A2} {W : Nat → Int64} (hn : n ≤ 8) (M : fz_M) (h2 : M.1 0 43 = nI n) (hT : mT T M) (hw : wT T) (hW : ∀ k, k < 6 → M.2.1 34 k = W k) (hZ : ∀ k, k < 6 → M.2.1 35 k = W k) : ∃ M', (∀ ag : (Int32 × fz_M) → Option fz_M, f_X9_layRows_70 ag (nI m) (nI t) 0 M = ag (nI (t + 1), M')) ∧ M'.1 = M.1 ∧ M'.2.2 = M.2.2 ∧ ∀ k, k < 6 → M'.2.1 34 k = if mkB (M.1 32) (M.1 33) (nI t) (nI k) n then rAdd T W (T 0 1) k else 0 := by
  have hn1 := hw.2.1
  have hn0 := hw.1
  unfold f_X9_layRows_70
  refine lp_all (F := fun ag ag2 z => f_X9_layRows_70_s ag ag2 (nI m) (nI t) z.1 z.2) (K := fun ag M' => ag (nI (t + 1), M')) (fun i (s : Int32 × fz_M) => s.1 = nI i ∧ s.2.1 = M.1 ∧ s.2.2.2 = M.2.2 ∧ s.2.2.1 34 = M.2.1 34 ∧ ∀ k, k < 6 → s.2.2.1 35 k = rAdd T W i k) (T 0 1) ?_ ?_ (by unfold fz_fuel; omega) ⟨rfl, rfl, rfl, rfl, hZ⟩
  · rintro i ⟨x, M0⟩ hi ⟨rfl, e2, e3, e4, e5⟩
    dsimp only at e2 e3 e4 e5
    have hin : fz_in (nI i) 10 = true := fz_in_nI (by omega) (by decide)
    have h31 : i < 2 ^ 31 := by omega
    have hlt : ¬ nI (T 0 1) ≤ nI i := nI_ge hi (by omega)
    obtain ⟨a3, a4, -⟩ := hT.2.2.2.2.1 i hi
    rw [← e2] at a3 a4
    obtain ⟨u3, u4, -⟩ := hw.2.2.2.2.1 i hi
    have i3 : fz_in (nI (T 3 i)) 6 = true := fz_in_nI (by omega) (by decide)
    have i4 : fz_in (nI (T 4 i)) 6 = true := fz_in_nI (by omega) (by decide)
    have v3 : T 3 i < 2 ^ 31 := by omega
    have v4 : T 4 i < 2 ^ 31 := by omega
    have c1 : M0.1 0 5 = nI (T 0 1) := by rw [e2]; exact hT.2.1
    refine Or.inl ⟨(nI (i + 1), fz_wL M0 35 (T 4 i) (rAdd T W i (T 4 i) + W (T 3 i))), ⟨rfl, e2, e3, ?_, fun k hk => ?_⟩, fun ag kk => ?_⟩
    · show (fz_wL _ _ _ _).2.1 34 = _
      rw [wL_ne (by decide)]; exact e4
    · show (fz_wL _ _ _ _).2.1 35 k = if k = T 4 i then rAdd T W i k + W (T 3 i) else rAdd T W i k
      by_cases hki : k = T 4 i
      · rw [if_pos hki, hki, wL_at]
      · rw [if_neg hki, wL_nj hki]; exact e5 k hk
    · show f_X9_layRows_70_s ag kk (nI m) (nI t) (nI i) M0 = _
      simp only [f_X9_layRows_70_s, fz_f_e, c1, hlt, fz_bd_e, fz_gd_t hin, fz_g_nI h31, a3, a4, fz_gd_t i3, fz_gd_t i4, fz_gl_nI v3, fz_gl_nI v4, fz_sl_nI v4, e5 _ (show T 4 i < 6 by omega), show M0.2.1 34 (T 3 i) = W (T 3 i) from by rw [e4]; exact hW _ (by omega), nI_1, ↓reduceIte]
  · rintro ⟨x, M0⟩ ⟨rfl, e2, e3, e4, e5⟩
    dsimp only at e2 e3 e4 e5
    have c1 : M0.1 0 5 = nI (T 0 1) := by rw [e2]; exact hT.2.1
    obtain ⟨M', q1, q2, q3, q4⟩ := lr3_e (m := m) (t := t) hn M0 (by rw [e2]; exact h2) e5
    refine ⟨M', ⟨q2.trans e2, q3.trans e3, by rw [e2] at q4; exact q4⟩, fun ag kk => ?_⟩
    show f_X9_layRows_70_s ag kk (nI m) (nI t) (nI (T 0 1)) M0 = _
    simp only [f_X9_layRows_70_s, fz_f_e, c1, show nI (T 0 1) ≤ nI (T 0 1) from nI_le (Nat.le_refl _) (by omega), ↓reduceIte]
    exact q1 ag
theorem lr1_e {n m t : Nat} {T : fz_A2} {W : Nat → Int64} (hn : n ≤ 8) (M : fz_M) (h2 : M.1 0 43 = nI n) (hT : mT T M) (hw : wT T) (hW : ∀ k, k < 6 → M.2.1 34 k = W k) : ∃ M', (∀ ag : (Int32 × fz_M) → Option fz_M, f_X9_layRows_40 ag (nI m) (nI t) 0 M = ag (nI (t + 1), M')) ∧ M'.1 = M.1 ∧ M'.2.2 = M.2.2 ∧ ∀ k, k < 6 → M'.2.1 34 k = if mkB (M.1 32) (M.1 33) (nI t) (nI k) n then rAdd T W (T 0 1) k else 0 := by
  unfold f_X9_layRows_40
  refine lp_all (F := fun ag ag2 z => f_X9_layRows_40_s ag ag2 (nI m) (nI t) z.1 z.2) (K := fun ag M' => ag (nI (t + 1), M')) (fun i (s : Int32 × fz_M) => s.1 = nI i ∧ s.2.1 = M.1 ∧ s.2.2.2 = M.2.2 ∧ s.2.2.1 34 = M.2.1 34 ∧ ∀ k, k < i → s.2.2.1 35 k = W k) 6 ?_ ?_ (by decide) ⟨rfl, rfl, rfl, rfl, fun j hj => absurd hj (Nat.not_lt_zero j)⟩
  · rintro i ⟨x, M0⟩ hi ⟨rfl, e2, e3, e4, e5⟩
    dsimp only at e2 e3 e4 e5
    have hin : fz_in (nI i) 6 = true := fz_in_nI hi (by decide)
    have h31 : i < 2 ^ 31 := by omega
    have hlt : ¬ (6 : Int32) ≤ nI i := by rw [n_6]; exact nI_ge hi (by decide)
    refine Or.inl ⟨(nI (i + 1), fz_wL M0 35 i (W i)), ⟨rfl, e2, e3, ?_, fun k hk => ?_⟩, fun ag kk => ?_⟩
    · show (fz_wL _ _ _ _).2.1 34 = _
      rw [wL_ne (by decide)]; exact e4
    · show (fz_wL _ _ _ _).2.1 35 k = _
      by_cases hki : k = i
      · subst hki; rw [wL_at]
      · rw [wL_nj hki]; exact e5 k (by omega)
    · show f_X9_layRows_40_s ag kk (nI m) (nI t) (nI i) M0 = _
      simp only [f_X9_layRows_40_s, hlt, fz_bd_e, fz_gd_t hin, fz_gl_nI h31, fz_sl_nI h31, show M0.2.1 34 i = W i from by rw [e4]; exact hW i hi, nI_1, ↓reduceIte]
  · rintro ⟨x, M0⟩ ⟨rfl, e2, e3, e4, e5⟩
    dsimp only at e2 e3 e4 e5
    obtain ⟨M', q1, q2, q3, q4⟩ := lr2_e (m := m) (t := t) hn M0 (by rw [e2]; exact h2) (mT_fr hT (by rw [e2]) (by rw [e2]) (by rw [e2]) (fun c _ _ _ => by rw [e2])) hw (fun k hk => by rw [e4]; exact hW k hk) e5
    refine ⟨M', ⟨q2.trans e2, q3.trans e3, by rw [e2] at q4; exact q4⟩, fun ag kk => ?_⟩
    show f_X9_layRows_40_s ag kk (nI m) (nI t) (nI 6) M0 = _
    simp only [f_X9_layRows_40_s, show (6 : Int32) ≤ nI 6 from by decide, ↓reduceIte]
    exact q1 ag
theorem lr0_e {n m h : Nat} {T : fz_A2} (hm : m ≤ 9) (hn : n ≤ 8) (M : fz_M) (h2 : M.1 0 43 = nI n) (hT : mT T M) (hw : wT T) (hW : ∀ k, k < 6 → M.2.1 34 k = rW T (M.1 32) (M.1 33) n h 0 k) : ∃ M', f_X9_layRows_32 (nI m) 1 M = some M' ∧ M'.1 = M.1 ∧ M'.2.2 = M.2.2 ∧ ∀ k, k < 6 → M'.2.1 34 k = rW T (M.1 32) (M.1 33) n h m k := by
  unfold f_X9_layRows_32
  refine lp_gen (K := fun a => some a) (fun i (s : Int32 × fz_M) => s.1 = nI (i + 1) ∧ s.2.1 = M.1 ∧ s.2.2.2 = M.2.2 ∧ ∀ k, k < 6 → s.2.2.1 34 k = rW T (M.1 32) (M.1 33) n h i k) m ?_ ?_ (by unfold fz_fuel; omega) ⟨rfl, rfl, rfl, hW⟩
  · rintro i ⟨x, M0⟩ hi ⟨rfl, e2, e3, e5⟩
    dsimp only at e2 e3 e5
    have hlt : ¬ nI m < nI (i + 1) := nI_nlt (by omega) (by omega)
    obtain ⟨M', q1, q2, q3, q4⟩ := lr1_e (m := m) (t := i + 1) hn M0 (by rw [e2]; exact h2) (mT_fr hT (by rw [e2]) (by rw [e2]) (by rw [e2]) (fun c _ _ _ => by rw [e2])) hw e5
    rw [e2] at q4
    refine Or.inl ⟨(nI (i + 1 + 1), M'), ⟨rfl, q2.trans e2, q3.trans e3, q4⟩, fun kk => ?_⟩
    show f_X9_layRows_32_s kk (nI m) (nI (i + 1)) M0 = _
    simp only [f_X9_layRows_32_s, hlt, ↓reduceIte]
    exact q1 kk
  · rintro ⟨x, M0⟩ ⟨rfl, e2, e3, e5⟩
    refine ⟨M0, ⟨e2, e3, e5⟩, fun kk => ?_⟩
    show f_X9_layRows_32_s kk (nI m) (nI (m + 1)) M0 = _
    simp only [f_X9_layRows_32_s, show nI m < nI (m + 1) from nI_lt (by omega) (by omega), ↓reduceIte]
theorem lr_e {n m h : Nat} {T : fz_A2} (hh : h < 6) (hm : m ≤ 9) (hn : n ≤ 8) (M : fz_M) (h2 : M.1 0 43 = nI n) (hT : mT T M) (hw : wT T) : ∃ M', f_X9_layRows (nI m) (nI h) M = some M' ∧ M'.1 = M.1 ∧ M'.2.2 = M.2.2 ∧ ∀ k, k < 6 → M'.2.1 34 k = rW T (M.1 32) (M.1 33) n h m k := by
  unfold f_X9_layRows f_X9_layRows_2
  refine lp_gen (K := fun a => some a) (fun i (s : Int32 × fz_M) => s.1 = nI i ∧ s.2.1 = M.1 ∧ s.2.2.2 = M.2.2 ∧ ∀ k, k < i → s.2.2.1 34 k = rW T (M.1 32) (M.1 33) n h 0 k) 6 ?_ ?_ (by decide) ⟨rfl, rfl, rfl, fun j hj => absurd hj (Nat.not_lt_zero j)⟩
  · rintro i ⟨x, M0⟩ hi ⟨rfl, e2, e3, e5⟩
    dsimp only at e2 e3 e5
    have hin : fz_in (nI i) 6 = true := fz_in_nI hi (by decide)
    have h31 : i < 2 ^ 31 := by omega
    have hlt : ¬ (6 : Int32) ≤ nI i := by rw [n_6]; exact nI_ge hi (by decide)
    have k1 : (nI i = nI h) = (i = h) := propext (nI_eq h31 (by omega))
    refine Or.inl ⟨(nI (i + 1), fz_wL M0 34 i (rW T (M.1 32) (M.1 33) n h 0 i)), ⟨rfl, e2, e3, fun k hk => ?_⟩, fun kk => ?_⟩
    · show (fz_wL _ _ _ _).2.1 34 k = _
      by_cases hki : k = i
      · subst hki; rw [wL_at]
      · rw [wL_nj hki]; exact e5 k (by omega)
    · show f_X9_layRows_2_s kk (nI m) (nI h) (nI i) M0 = _
      simp only [f_X9_layRows_2_s, f_X9_layRows_23, hlt, k1, fz_bd_e, fz_gd_t hin, fz_sl_nI h31, rW, nI_1, ↓reduceIte]
      by_cases c1 : i = h <;> simp only [c1, ↓reduceIte, not_true_eq_false, not_false_eq_true]
  · rintro ⟨x, M0⟩ ⟨rfl, e2, e3, e5⟩
    dsimp only at e2 e3 e5
    obtain ⟨M', q1, q2, q3, q4⟩ := lr0_e (m := m) (h := h) hm hn M0 (by rw [e2]; exact h2) (mT_fr hT (by rw [e2]) (by rw [e2]) (by rw [e2]) (fun c _ _ _ => by rw [e2])) hw (by rw [e2]; exact e5)
    rw [e2] at q4
    refine ⟨M', ⟨q2.trans e2, q3.trans e3, q4⟩, fun kk => ?_⟩
    show f_X9_layRows_2_s kk (nI m) (nI h) (nI 6) M0 = _
    simp only [f_X9_layRows_2_s, show (6 : Int32) ≤ nI 6 from by decide, ↓reduceIte]
    exact q1
/-- the sum of the first i -/
def wSum (W : Nat → Int64) : Nat → Int64
  | 0 => 0
  | i + 1 => wSum W i + W i
def wBit (W : Nat → Int64) : Nat → Int32
  | 0 => 0
  | i + 1 => if lg_cmp (W i) 0 ≤ 0 then wBit W i else wBit W i ||| (1 <<< (nI i &&& 31))
theorem wSum_out {W : Nat → Int64} {a : Nat} (h : ∀ k, a ≤ k → W k = 0) : ∀ d, wSum W (a + d) = wSum W a
  | 0 => rfl
  | d + 1 => by
    show wSum W (a + d) + W (a + d) = _
    rw [h _ (by omega), Int64.add_zero]; exact wSum_out h d
theorem wBit_out {W : Nat → Int64} {a : Nat} (h : ∀ k, a ≤ k → W k = 0) : ∀ d, wBit W (a + d) = wBit W a
  | 0 => rfl
  | d + 1 => by
    show (if lg_cmp (W (a + d)) 0 ≤ 0 then wBit W (a + d) else wBit W (a + d) ||| (1 <<< (nI (a + d) &&& 31))) = _
    rw [h _ (by omega), if_pos (by decide)]; exact wBit_out h d
theorem cOff_spr {P : Nat} {M M' : fz_M} (e : M'.1 = M.1) (e2 : M'.2.2 0 = M.2.2 0) : cOff P M M' := ⟨fun _ _ _ _ => by rw [e], e2⟩
theorem mOff_e {M M' : fz_M} (e : M'.1 = M.1) : mOff M M' := ⟨fun _ _ _ _ => by rw [e], fun _ _ _ _ _ _ _ _ => by rw [e]⟩
theorem wSum_0 (W : Nat → Int64) : wSum W 0 = 0 := by rw [wSum]
theorem rwC_e {P y z : Nat} {T : fz_A2} {W : Nat → Int64} {M : fz_M} (hw0 : T 0 0 ≤ 6) (hP : M.2.2 0 9 = P) (hp : fz_isP P = true) (hP0 : M.1 P 0 = nI (T 0 0)) (a4 : sprAt y z M) (a5 : ∀ k, k < 6 → M.2.1 y k = W k) : f_X8_rows_34 0 0 M = some (wSum W (T 0 0), M) := by
  rw [← wSum_0 W]
  unfold f_X8_rows_34
  refine lp_run (fun i => (wSum W i, nI i)) (T 0 0) _ (fun i hi kk => ?_) (fun kk => ?_) (by unfold fz_fuel; omega)
  · have hin : fz_in (nI i) 6 = true := fz_in_nI (by omega) (by decide)
    have h31 : i < 2 ^ 31 := by omega
    have hlt : ¬ nI (T 0 0) ≤ nI i := nI_ge hi (by omega)
    show f_X8_rows_34_s kk (wSum W i) (nI i) M = _
    simp only [f_X8_rows_34_s, fz_bd_e, fz_d_e, hP, fz_gd_t hp, fz_f_e, hP0, hlt, a4.1, fz_gd_t (isL_y a4), fz_gd_t hin, fz_gl_nI h31, a5 i (by omega), nI_1, wSum, ↓reduceIte]
  · show f_X8_rows_34_s kk (wSum W (T 0 0)) (nI (T 0 0)) M = _
    simp only [f_X8_rows_34_s, fz_bd_e, fz_d_e, hP, fz_gd_t hp, fz_f_e, hP0, show nI (T 0 0) ≤ nI (T 0 0) from nI_le (Nat.le_refl _) (by omega), ↓reduceIte]
theorem rwM_e {W : Nat → Int64} {M : fz_M} (b4 : ∀ k, k < 6 → M.2.1 34 k = W k) : f_X9_rows_44 0 0 M = some (wSum W 6, M) := by
  rw [← wSum_0 W]
  unfold f_X9_rows_44
  refine lp_run (fun i => (wSum W i, nI i)) 6 _ (fun i hi kk => ?_) (fun kk => ?_) (by decide)
  · have hin : fz_in (nI i) 6 = true := fz_in_nI (by omega) (by decide)
    have h31 : i < 2 ^ 31 := by omega
    have hlt : ¬ (6 : Int32) ≤ nI i := by rw [n_6]; exact nI_ge hi (by decide)
    show f_X9_rows_44_s kk (wSum W i) (nI i) M = _
    simp only [f_X9_rows_44_s, hlt, fz_gd_t hin, fz_gl_nI h31, b4 i hi, fz_bd_e, nI_1, wSum, ↓reduceIte]
  · show f_X9_rows_44_s kk (wSum W 6) (nI 6) M = _
    simp only [f_X9_rows_44_s, show (6 : Int32) ≤ nI 6 from by decide, ↓reduceIte]
theorem p_ends (a w : Int32) : fz_pW Rel (f_X8_ends a w) (f_X9_ends a w) := by
  intro MC MM hR
  have hR1 := hR.thrown
  have hR2 := hR1
  generalize hM1 : fz_w MM 0 0 0 = M1 at hR1 hR2
  obtain ⟨P, T, S, sp, B, h1, ⟨hT, hM, hw⟩, h3, h4, h5, h6, ⟨n, m1, m2, m3, m4⟩, h8⟩ := hR2
  have hw0 := hw.1
  rcases x_rng w (n := T 0 0) (by omega) with ⟨h, hh, rfl⟩ | hx
  · by_cases hl : 0 ≤ a ∧ a ≤ 9
    · have t1 := springs_t MC hl
      obtain ⟨m, hm, rfl⟩ := spr_e hl
      obtain ⟨C1, a1, a2, a3, y, z, a4, a5⟩ := sRows_e (P := P) (h := h) (T := T) (by omega) hm m1 MC h1.1 (isP_ok h1) hT hw h1.2.2 m2
      obtain ⟨L1, b1, b2, b3, b4⟩ := lr_e (h := h) (T := T) (by omega) hm m1 M1 m3 hM hw
      rw [← rW_cg m4] at b4
      generalize hW : rW T (MC.1 8) (MC.1 9) n h m = W at a5 b4
      have hout : ∀ k, T 0 0 ≤ k → W k = 0 := fun k hk => by rw [← hW]; exact rW_out hw hh hk m
      have hP : C1.2.2 0 9 = P := by rw [a3]; exact h1.1
      have hP0 : C1.1 P 0 = nI (T 0 0) := by rw [a2]; exact hT.1
      have hs6 : wBit W 6 = wBit W (T 0 0) := by
        have := wBit_out hout (6 - T 0 0)
        rw [show T 0 0 + (6 - T 0 0) = 6 from by omega] at this
        exact this
      refine ⟨wBit W (T 0 0), C1, L1, ?_, ?_, hR1.off (fun Q _ => cOff_spr a2 a3) (fun _ => spr_r a4) (mOff_e b2)⟩
      · simp (decide := true) only [f_X8_ends, house_t h1 hT hw hh, fz_b1_e, t1, a1, ↓reduceIte]
        unfold f_X8_ends_31
        refine lp_run (fun i => (wBit W i, nI i)) (T 0 0) _ (fun i hi kk => ?_) (fun kk => ?_) (by unfold fz_fuel; omega)
        · have hin : fz_in (nI i) 6 = true := fz_in_nI (by omega) (by decide)
          have h31 : i < 2 ^ 31 := by omega
          have hlt : ¬ nI (T 0 0) ≤ nI i := nI_ge hi (by omega)
          show f_X8_ends_31_s kk (wBit W i) (nI i) C1 = _
          simp only [f_X8_ends_31_s, fz_bd_e, fz_d_e, hP, fz_gd_t (isP_ok h1), fz_f_e, hP0, hlt, a4.1, fz_gd_t (isL_y a4), fz_gd_t hin, fz_gl_nI h31, a5 i (by omega), nI_1, wBit, ↓reduceIte]
          split <;> rfl
        · show f_X8_ends_31_s kk (wBit W (T 0 0)) (nI (T 0 0)) C1 = _
          simp only [f_X8_ends_31_s, fz_bd_e, fz_d_e, hP, fz_gd_t (isP_ok h1), fz_f_e, hP0, show nI (T 0 0) ≤ nI (T 0 0) from nI_le (Nat.le_refl _) (by omega), ↓reduceIte]
      · simp (decide := true) only [f_X9_ends, fz_sf_e, hM1, fz_bd_e, nohouse_t hM hw hh, fz_b1_e, in_09, hl, and_self, b1, ↓reduceIte]
        unfold f_X9_ends_41
        refine lp_run (fun i => (wBit W i, nI i)) 6 _ (fun i hi kk => ?_) (fun kk => ?_) (by decide)
        · have hin : fz_in (nI i) 6 = true := fz_in_nI (by omega) (by decide)
          have h31 : i < 2 ^ 31 := by omega
          have hlt : ¬ (6 : Int32) ≤ nI i := by rw [n_6]; exact nI_ge hi (by decide)
          show f_X9_ends_41_s kk (wBit W i) (nI i) L1 = _
          simp only [f_X9_ends_41_s, f_X9_ends_69, hlt, fz_gd_t hin, fz_gl_nI h31, b4 i hi, fz_bd_e, nI_1, wBit, Int32.or_zero, ↓reduceIte]
          split <;> rfl
        · show f_X9_ends_41_s kk (wBit W 6) (nI 6) L1 = _
          simp only [f_X9_ends_41_s, show (6 : Int32) ≤ nI 6 from by decide, hs6, ↓reduceIte]
    · exact ⟨-2, MC, M1, by simp (decide := true) only [f_X8_ends, house_t h1 hT hw hh, springs_f MC hl, fz_b1_e, ↓reduceIte], by simp (decide := true) only [f_X9_ends, fz_sf_e, hM1, nohouse_t hM hw hh, fz_b1_e, fz_bd_e, in_09, hl, ↓reduceIte], hR1⟩
  · exact ⟨-1, MC, M1, by simp (decide := true) only [f_X8_ends, house_f h1 hT hw hx, fz_b1_e, ↓reduceIte], by simp (decide := true) only [f_X9_ends, fz_sf_e, hM1, nohouse_f hM hw hx, fz_b1_e, fz_bd_e, ↓reduceIte], hR1⟩
