/-! rows of springs -/
def rAdd (T : fz_A2) (W : Nat → Int64) : Nat → Nat → Int64
  | 0 => W
  | s + 1 => fun k => if k = T 4 s then rAdd T W s k + W (T 3 s) else rAdd T W s k
def mkB (ms mh : Nat → Int32) (t h : Int32) : Nat → Bool
  | 0 => true
  | i + 1 => mkB ms mh t h i && (!decide (ms i = t) || decide (mh i = h))
def rW (T : fz_A2) (ms mh : Nat → Int32) (n h : Nat) : Nat → Nat → Int64
  | 0 => fun k => if k = h then 1 else 0
  | t + 1 => fun k => if mkB ms mh (nI (t + 1)) (nI k) n then rAdd T (rW T ms mh n h t) (T 0 1) k else 0
theorem mkB_mono {ms mh : Nat → Int32} {t h : Int32} {i n : Nat} (hi : i ≤ n) (h0 : mkB ms mh t h i = false) : mkB ms mh t h n = false := by
  induction n with
  | zero => rw [Nat.le_zero.mp hi] at h0; exact h0
  | succ n ih =>
    by_cases q : i = n + 1
    · subst q; exact h0
    · simp only [mkB, ih (by omega), Bool.false_and]
def sprAt (y z : Nat) (M : fz_M) : Prop := M.2.2 15 0 = y ∧ M.2.2 15 1 = z ∧ ((y = 16 ∧ z = 17) ∨ (y = 17 ∧ z = 16))
theorem isL_y {y z : Nat} {M : fz_M} (h : sprAt y z M) : fz_isL y = true := by rcases h.2.2 with ⟨rfl, -⟩ | ⟨rfl, -⟩ <;> rfl
theorem isL_z {y z : Nat} {M : fz_M} (h : sprAt y z M) : fz_isL z = true := by rcases h.2.2 with ⟨-, rfl⟩ | ⟨-, rfl⟩ <;> rfl
theorem spr_ne {y z : Nat} {M : fz_M} (h : sprAt y z M) : y ≠ z := by rcases h.2.2 with ⟨rfl, rfl⟩ | ⟨rfl, rfl⟩ <;> decide
theorem spr_fr {y z : Nat} {M M' : fz_M} (h : sprAt y z M) (e : M'.2.2 = M.2.2) : sprAt y z M' := by unfold sprAt; rw [e]; exact h
theorem spr_ex {M : fz_M} (h : rSpr M) : ∃ y z, sprAt y z M := by
  rcases h with ⟨a, b⟩ | ⟨a, b⟩
  · exact ⟨16, 17, a, b, Or.inl ⟨rfl, rfl⟩⟩
  · exact ⟨17, 16, a, b, Or.inr ⟨rfl, rfl⟩⟩
theorem spr_r {y z : Nat} {M : fz_M} (h : sprAt y z M) : rSpr M := by
  obtain ⟨a, b, ⟨rfl, rfl⟩ | ⟨rfl, rfl⟩⟩ := h
  · exact Or.inl ⟨a, b⟩
  · exact Or.inr ⟨a, b⟩
theorem wL_ne {M : fz_M} {c i : Nat} {v : Int64} {d : Nat} (h : d ≠ c) : (fz_wL M c i v).2.1 d = M.2.1 d := by
  funext j; rw [fz_wL_2, if_neg (fun q => h q.1)]
theorem wL_nj {M : fz_M} {c i : Nat} {v : Int64} {d j : Nat} (h : j ≠ i) : (fz_wL M c i v).2.1 d j = M.2.1 d j := by rw [fz_wL_2, if_neg (fun q => h q.2)]
theorem wL_at {M : fz_M} {c i : Nat} {v : Int64} : (fz_wL M c i v).2.1 c i = v := by rw [fz_wL_2, if_pos ⟨rfl, rfl⟩]
theorem sBeg_e {y z h : Nat} (hh : h < 6) (M : fz_M) (hs : sprAt y z M) : ∃ M', f_X5_begin (nI h) M = some M' ∧ M'.1 = M.1 ∧ M'.2.2 = M.2.2 ∧ ∀ k, k < 6 → M'.2.1 y k = if k = h then 1 else 0 := by
  unfold f_X5_begin f_X5_begin_2
  refine lp_gen (K := fun a => some a) (fun i (s : Int32 × fz_M) => s.1 = nI i ∧ s.2.1 = M.1 ∧ s.2.2.2 = M.2.2 ∧ ∀ k, k < i → s.2.2.1 y k = if k = h then 1 else 0) 6 ?_ ?_ (by decide) ⟨rfl, rfl, rfl, fun j hj => absurd hj (Nat.not_lt_zero j)⟩
  · rintro i ⟨x, M0⟩ hi ⟨rfl, e2, e3, e4⟩
    dsimp only at e2 e3 e4
    have hin : fz_in (nI i) 6 = true := fz_in_nI hi (by decide)
    have h31 : i < 2 ^ 31 := by omega
    have hlt : ¬ (6 : Int32) ≤ nI i := by rw [n_6]; exact nI_ge hi (by decide)
    have hs0 := spr_fr hs e3
    refine Or.inl ⟨(nI (i + 1), fz_wL M0 y i (if i = h then 1 else 0)), ⟨rfl, e2, e3, fun k hk => ?_⟩, fun kk => ?_⟩
    · show (fz_wL _ _ _ _).2.1 y k = _
      by_cases hki : k = i
      · subst hki; rw [wL_at]
      · rw [wL_nj hki]; exact e4 k (by omega)
    · show f_X5_begin_2_s kk (nI h) (nI i) M0 = _
      have k1 : (nI i = nI h) = (i = h) := propext (nI_eq h31 (by omega))
      simp only [f_X5_begin_2_s, f_X5_begin_23, hlt, fz_bd_e, fz_d_e, hs0.1, fz_gd_t (isL_y hs0), k1, fz_gd_t hin, fz_sl_nI h31, nI_1, ↓reduceIte]
      by_cases c1 : i = h <;> simp only [c1, ↓reduceIte, not_true_eq_false, not_false_eq_true]
  · rintro ⟨x, M0⟩ ⟨rfl, e2, e3, e4⟩
    refine ⟨M0, ⟨e2, e3, e4⟩, fun kk => ?_⟩
    show f_X5_begin_2_s kk (nI h) (nI 6) M0 = _
    simp only [f_X5_begin_2_s, show (6 : Int32) ≤ nI 6 from by decide, ↓reduceIte]
theorem sDr2_e {P y z : Nat} {T : fz_A2} {W : Nat → Int64} (M : fz_M) (hT : cT P T M) (hw : wT T) (hs : sprAt y z M) (hW : ∀ k, k < 6 → M.2.1 y k = W k) (hZ : ∀ k, k < 6 → M.2.1 z k = W k) : ∃ M', f_X5_drawSpring_28 P 0 M = some M' ∧ M'.1 = M.1 ∧ M'.2.2 0 = M.2.2 0 ∧ sprAt z y M' ∧ ∀ k, k < 6 → M'.2.1 z k = rAdd T W (T 0 1) k := by
  have hn := hw.2.1
  have hn0 := hw.1
  have hyz := spr_ne hs
  unfold f_X5_drawSpring_28
  refine lp_gen (K := fun a => some a) (fun i (s : Int32 × fz_M) => s.1 = nI i ∧ s.2.1 = M.1 ∧ s.2.2.2 = M.2.2 ∧ s.2.2.1 y = M.2.1 y ∧ ∀ k, k < 6 → s.2.2.1 z k = rAdd T W i k) (T 0 1) ?_ ?_ (by unfold fz_fuel; omega) ⟨rfl, rfl, rfl, rfl, hZ⟩
  · rintro i ⟨x, M0⟩ hi ⟨rfl, e2, e3, e4, e5⟩
    dsimp only at e2 e3 e4 e5
    have hin : fz_in (nI i) 10 = true := fz_in_nI (by omega) (by decide)
    have h31 : i < 2 ^ 31 := by omega
    have hlt : ¬ nI (T 0 1) ≤ nI i := nI_ge hi (by omega)
    have hs0 := spr_fr hs e3
    obtain ⟨a3, a4, -⟩ := hT.2.2.2.2.1 i hi
    rw [← e2] at a3 a4
    obtain ⟨u3, u4, -⟩ := hw.2.2.2.2.1 i hi
    have i3 : fz_in (nI (T 3 i)) 6 = true := fz_in_nI (by omega) (by decide)
    have i4 : fz_in (nI (T 4 i)) 6 = true := fz_in_nI (by omega) (by decide)
    have v3 : T 3 i < 2 ^ 31 := by omega
    have v4 : T 4 i < 2 ^ 31 := by omega
    have c1 : M0.1 P 1 = nI (T 0 1) := by rw [e2]; exact hT.2.1
    refine Or.inl ⟨(nI (i + 1), fz_wL M0 z (T 4 i) (rAdd T W i (T 4 i) + W (T 3 i))), ⟨rfl, e2, e3, ?_, fun k hk => ?_⟩, fun kk => ?_⟩
    · show (fz_wL _ _ _ _).2.1 y = _
      rw [wL_ne hyz]; exact e4
    · show (fz_wL _ _ _ _).2.1 z k = if k = T 4 i then rAdd T W i k + W (T 3 i) else rAdd T W i k
      by_cases hki : k = T 4 i
      · rw [if_pos hki, hki, wL_at]
      · rw [if_neg hki, wL_nj hki]; exact e5 k hk
    · show f_X5_drawSpring_28_s P kk (nI i) M0 = _
      simp only [f_X5_drawSpring_28_s, fz_f_e, c1, hlt, fz_bd_e, fz_d_e, hs0.1, hs0.2.1, fz_gd_t (isL_y hs0), fz_gd_t (isL_z hs0), fz_gd_t hin, fz_g_nI h31, a3, a4, fz_gd_t i3, fz_gd_t i4, fz_gl_nI v3, fz_gl_nI v4, fz_sl_nI v4, e5 _ (show T 4 i < 6 by omega), show M0.2.1 y (T 3 i) = W (T 3 i) from by rw [e4]; exact hW _ (by omega), nI_1, ↓reduceIte]
  · rintro ⟨x, M0⟩ ⟨rfl, e2, e3, e4, e5⟩
    dsimp only at e2 e3 e4 e5
    have hs0 := spr_fr hs e3
    have c1 : M0.1 P 1 = nI (T 0 1) := by rw [e2]; exact hT.2.1
    have hzy : (z = 16 ∧ y = 17) ∨ (z = 17 ∧ y = 16) := by rcases hs.2.2 with ⟨rfl, rfl⟩ | ⟨rfl, rfl⟩ <;> omega
    refine ⟨fz_wD (fz_wD M0 15 0 z) 15 1 y, ⟨e2, ?_, ⟨?_, ?_, hzy⟩, e5⟩, fun kk => ?_⟩
    · funext j
      rw [fz_wD_3, if_neg (by omega), fz_wD_3, if_neg (by omega), e3]
    · rw [fz_wD_3, if_neg (by omega), fz_wD_3, if_pos ⟨rfl, rfl⟩]
    · rw [fz_wD_3, if_pos ⟨rfl, rfl⟩]
    · show f_X5_drawSpring_28_s P kk (nI (T 0 1)) M0 = _
      simp only [f_X5_drawSpring_28_s, f_X5_turn, fz_f_e, c1, show nI (T 0 1) ≤ nI (T 0 1) from nI_le (Nat.le_refl _) (by omega), fz_bd_e, fz_d_e, hs0.1, hs0.2.1, fz_gd_t (isL_y hs0), fz_gd_t (isL_z hs0), fz_sd_e, fz_b1_e, ↓reduceIte]
theorem sDraw_e {P y z : Nat} {T : fz_A2} {W : Nat → Int64} (M : fz_M) (hT : cT P T M) (hw : wT T) (hs : sprAt y z M) (hW : ∀ k, k < 6 → M.2.1 y k = W k) : ∃ M', f_X5_drawSpring P M = some M' ∧ M'.1 = M.1 ∧ M'.2.2 0 = M.2.2 0 ∧ sprAt z y M' ∧ ∀ k, k < 6 → M'.2.1 z k = rAdd T W (T 0 1) k := by
  have hyz := spr_ne hs
  unfold f_X5_drawSpring f_X5_drawSpring_2
  refine lp_gen (K := fun a => some a) (fun i (s : Int32 × fz_M) => s.1 = nI i ∧ s.2.1 = M.1 ∧ s.2.2.2 = M.2.2 ∧ s.2.2.1 y = M.2.1 y ∧ ∀ k, k < i → s.2.2.1 z k = W k) 6 ?_ ?_ (by decide) ⟨rfl, rfl, rfl, rfl, fun j hj => absurd hj (Nat.not_lt_zero j)⟩
  · rintro i ⟨x, M0⟩ hi ⟨rfl, e2, e3, e4, e5⟩
    dsimp only at e2 e3 e4 e5
    have hin : fz_in (nI i) 6 = true := fz_in_nI hi (by decide)
    have h31 : i < 2 ^ 31 := by omega
    have hlt : ¬ (6 : Int32) ≤ nI i := by rw [n_6]; exact nI_ge hi (by decide)
    have hs0 := spr_fr hs e3
    refine Or.inl ⟨(nI (i + 1), fz_wL M0 z i (W i)), ⟨rfl, e2, e3, ?_, fun k hk => ?_⟩, fun kk => ?_⟩
    · show (fz_wL _ _ _ _).2.1 y = _
      rw [wL_ne hyz]; exact e4
    · show (fz_wL _ _ _ _).2.1 z k = _
      by_cases hki : k = i
      · subst hki; rw [wL_at]
      · rw [wL_nj hki]; exact e5 k (by omega)
    · show f_X5_drawSpring_2_s P kk (nI i) M0 = _
      simp only [f_X5_drawSpring_2_s, hlt, fz_bd_e, fz_d_e, hs0.1, hs0.2.1, fz_gd_t (isL_y hs0), fz_gd_t (isL_z hs0), fz_gd_t hin, fz_gl_nI h31, fz_sl_nI h31, show M0.2.1 y i = W i from by rw [e4]; exact hW i hi, nI_1, ↓reduceIte]
  · rintro ⟨x, M0⟩ ⟨rfl, e2, e3, e4, e5⟩
    dsimp only at e2 e3 e4 e5
    obtain ⟨M', q1, q2, q3, q4, q5⟩ := sDr2_e M0 (cT_fr hT fun o _ => by rw [e2]) hw (spr_fr hs e3) (fun k hk => by rw [e4]; exact hW k hk) e5
    refine ⟨M', ⟨q2.trans e2, q3.trans (by rw [e3]), q4, q5⟩, fun kk => ?_⟩
    show f_X5_drawSpring_2_s P kk (nI 6) M0 = _
    simp only [f_X5_drawSpring_2_s, show (6 : Int32) ≤ nI 6 from by decide, ↓reduceIte]
    exact q1
theorem hold_e {n : Nat} (hn : n ≤ 8) (t h : Int32) (M : fz_M) (h2 : M.1 7 2 = nI n) : f_X2_hold t h M = some (if mkB (M.1 8) (M.1 9) t h n then 1 else 0) := by
  unfold f_X2_hold f_X2_hold_2
  refine lp_inv (F := fun ag z => f_X2_hold_2_s ag t h z M) (fun i (s : Int32) => s = nI i ∧ mkB (M.1 8) (M.1 9) t h i = true) (fun r => r = some (if mkB (M.1 8) (M.1 9) t h n then 1 else 0)) n ?_ ?_ (by unfold fz_fuel; omega) ⟨rfl, rfl⟩
  · rintro i x hi ⟨rfl, e2⟩
    have hin : fz_in (nI i) 8 = true := fz_in_nI (by omega) (by decide)
    have h31 : i < 2 ^ 31 := by omega
    have hlt : ¬ nI n ≤ nI i := nI_ge hi (by omega)
    by_cases c1 : M.1 8 i = t
    · by_cases c2 : M.1 9 i = h
      · refine Or.inl ⟨nI (i + 1), ⟨rfl, by simp only [mkB, e2, c1, c2, decide_true, Bool.or_true, Bool.and_true]⟩, fun kk => ?_⟩
        simp only [f_X2_hold_2_s, fz_f_e, h2, hlt, fz_gd_t hin, fz_g_nI h31, c1, c2, nI_1, ↓reduceIte, not_true_eq_false]
      · have hf : mkB (M.1 8) (M.1 9) t h n = false := mkB_mono (i := i + 1) hi (by simp only [mkB, c1, c2, decide_true, decide_false, Bool.not_true, Bool.or_false, Bool.and_false])
        refine Or.inr ⟨some 0, by rw [hf]; rfl, fun kk => ?_⟩
        simp only [f_X2_hold_2_s, fz_f_e, h2, hlt, fz_gd_t hin, fz_g_nI h31, c1, c2, nI_1, ↓reduceIte, not_true_eq_false]
    · refine Or.inl ⟨nI (i + 1), ⟨rfl, by simp only [mkB, e2, c1, decide_false, Bool.not_false, Bool.true_or, Bool.and_true]⟩, fun kk => ?_⟩
      simp only [f_X2_hold_2_s, fz_f_e, h2, hlt, fz_gd_t hin, fz_g_nI h31, c1, nI_1, ↓reduceIte, not_false_eq_true]
  · rintro x ⟨rfl, e2⟩
    refine ⟨some 1, by rw [e2]; rfl, fun kk => ?_⟩
    simp only [f_X2_hold_2_s, fz_f_e, h2, show nI n ≤ nI n from nI_le (Nat.le_refl _) (by omega), ↓reduceIte]
theorem holdTo_e {y z n : Nat} {W : Nat → Int64} (hn : n ≤ 8) (t : Int32) (M : fz_M) (h2 : M.1 7 2 = nI n) (hs : sprAt y z M) (hW : ∀ k, k < 6 → M.2.1 y k = W k) : ∃ M', f_X5_holdTo t M = some M' ∧ M'.1 = M.1 ∧ M'.2.2 = M.2.2 ∧ ∀ k, k < 6 → M'.2.1 y k = if mkB (M.1 8) (M.1 9) t (nI k) n then W k else 0 := by
  unfold f_X5_holdTo f_X5_holdTo_2
  refine lp_gen (K := fun a => some a) (fun i (s : Int32 × fz_M) => s.1 = nI i ∧ s.2.1 = M.1 ∧ s.2.2.2 = M.2.2 ∧ (∀ k, i ≤ k → s.2.2.1 y k = M.2.1 y k) ∧ ∀ k, k < i → s.2.2.1 y k = if mkB (M.1 8) (M.1 9) t (nI k) n then W k else 0) 6 ?_ ?_ (by decide) ⟨rfl, rfl, rfl, fun _ _ => rfl, fun j hj => absurd hj (Nat.not_lt_zero j)⟩
  · rintro i ⟨x, M0⟩ hi ⟨rfl, e2, e3, e4, e5⟩
    dsimp only at e2 e3 e4 e5
    have hin : fz_in (nI i) 6 = true := fz_in_nI hi (by decide)
    have h31 : i < 2 ^ 31 := by omega
    have hlt : ¬ (6 : Int32) ≤ nI i := by rw [n_6]; exact nI_ge hi (by decide)
    have hs0 := spr_fr hs e3
    have hh := hold_e hn t (nI i) M0 (by rw [e2]; exact h2)
    rw [e2] at hh
    by_cases c1 : mkB (M.1 8) (M.1 9) t (nI i) n = true
    · rw [if_pos c1] at hh
      refine Or.inl ⟨(nI (i + 1), M0), ⟨rfl, e2, e3, fun k hk => e4 k (by omega), fun k hk => ?_⟩, fun kk => ?_⟩
      · by_cases hki : k = i
        · subst hki; rw [if_pos c1]; exact (e4 k (Nat.le_refl _)).trans (hW k hi)
        · exact e5 k (by omega)
      · show f_X5_holdTo_2_s kk t (nI i) M0 = _
        simp (decide := true) only [f_X5_holdTo_2_s, hlt, hh, fz_b1_e, nI_1, ↓reduceIte]
    · rw [if_neg c1] at hh
      refine Or.inl ⟨(nI (i + 1), fz_wL M0 y i 0), ⟨rfl, e2, e3, fun k hk => ?_, fun k hk => ?_⟩, fun kk => ?_⟩
      · show (fz_wL _ _ _ _).2.1 y k = _
        rw [wL_nj (by omega)]; exact e4 k (by omega)
      · show (fz_wL _ _ _ _).2.1 y k = _
        by_cases hki : k = i
        · subst hki; rw [wL_at, if_neg c1]
        · rw [wL_nj hki]; exact e5 k (by omega)
      · show f_X5_holdTo_2_s kk t (nI i) M0 = _
        simp (decide := true) only [f_X5_holdTo_2_s, hlt, hh, fz_b1_e, fz_bd_e, fz_d_e, hs0.1, fz_gd_t (isL_y hs0), fz_gd_t hin, fz_sl_nI h31, nI_1, ↓reduceIte]
  · rintro ⟨x, M0⟩ ⟨rfl, e2, e3, e4, e5⟩
    refine ⟨M0, ⟨e2, e3, e5⟩, fun kk => ?_⟩
    show f_X5_holdTo_2_s kk t (nI 6) M0 = _
    simp only [f_X5_holdTo_2_s, show (6 : Int32) ≤ nI 6 from by decide, ↓reduceIte]
theorem sRows_e {P n m h : Nat} {T : fz_A2} (hh : h < 6) (hm : m ≤ 9) (hn : n ≤ 8) (M : fz_M) (h1 : M.2.2 0 9 = P) (hp : fz_isP P = true) (hT : cT P T M) (hw : wT T) (hs : rSpr M) (h2 : M.1 7 2 = nI n) : ∃ M', f_X8_spreadRows (nI m) (nI h) M = some M' ∧ M'.1 = M.1 ∧ M'.2.2 0 = M.2.2 0 ∧ ∃ y z, sprAt y z M' ∧ ∀ k, k < 6 → M'.2.1 y k = rW T (M.1 8) (M.1 9) n h m k := by
  obtain ⟨y0, z0, hs0⟩ := spr_ex hs
  obtain ⟨M1, a1, a2, a3, a4⟩ := sBeg_e hh M hs0
  unfold f_X8_spreadRows
  rw [a1, fz_b1_e]
  unfold f_X8_spreadRows_10
  refine lp_gen (K := fun a => some a) (fun i (s : Int32 × fz_M) => s.1 = nI (i + 1) ∧ s.2.1 = M.1 ∧ s.2.2.2 0 = M.2.2 0 ∧ ∃ y z, sprAt y z s.2 ∧ ∀ k, k < 6 → s.2.2.1 y k = rW T (M.1 8) (M.1 9) n h i k) m ?_ ?_ (by unfold fz_fuel; omega) ⟨rfl, a2, by rw [a3], y0, z0, spr_fr hs0 a3, a4⟩
  · rintro i ⟨x, M0⟩ hi ⟨rfl, e2, e3, y, z, e4, e5⟩
    dsimp only at e2 e3 e4 e5
    have hlt : ¬ nI m < nI (i + 1) := nI_nlt (by omega) (by omega)
    obtain ⟨M2, b1, b2, b3, b4, b5⟩ := sDraw_e M0 (cT_fr hT fun o _ => by rw [e2]) hw e4 e5
    have hM2 : M2.1 = M.1 := b2.trans e2
    obtain ⟨M3, c1, c2, c3, c4⟩ := holdTo_e hn (nI (i + 1)) M2 (by rw [hM2]; exact h2) b4 b5
    rw [hM2] at c4
    refine Or.inl ⟨(nI (i + 1 + 1), M3), ⟨rfl, c2.trans hM2, by rw [c3, b3, e3], z, y, spr_fr b4 c3, c4⟩, fun kk => ?_⟩
    show f_X8_spreadRows_10_s kk (nI m) (nI (i + 1)) M0 = _
    simp only [f_X8_spreadRows_10_s, hlt, fz_bd_e, fz_d_e, e3, h1, fz_gd_t hp, b1, c1, fz_b1_e, nI_1, ↓reduceIte]
  · rintro ⟨x, M0⟩ ⟨rfl, e2, e3, e4⟩
    refine ⟨M0, ⟨e2, e3, e4⟩, fun kk => ?_⟩
    show f_X8_spreadRows_10_s kk (nI m) (nI (m + 1)) M0 = _
    simp only [f_X8_spreadRows_10_s, show nI m < nI (m + 1) from nI_lt (by omega) (by omega), ↓reduceIte]
