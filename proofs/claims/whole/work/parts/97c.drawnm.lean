/-! drawn streams: the model -/
theorem md3_e {t : Nat} {g : Nat → Nat} (v1 v2 v3 v4 v5 : Int32) (v6 : Int64) (M : fz_M) (hW : ∀ k, k < 6 → M.2.1 35 k = lN (g k)) : ∃ M', (∀ ag : (Int64 × Int32 × fz_M) → Option (Int64 × fz_M), f_X9_drawn_240 ag v1 v2 v3 v4 v5 v6 (nI t) 0 M = ag (v6, nI (t + 1), M')) ∧ M'.1 = M.1 ∧ M'.2.2 = M.2.2 ∧ ∀ k, k < 6 → M'.2.1 34 k = lN (g k) := by
  unfold f_X9_drawn_240
  refine lp_all (F := fun ag ag2 z => f_X9_drawn_240_s ag ag2 v1 v2 v3 v4 v5 v6 (nI t) z.1 z.2) (K := fun ag M' => ag (v6, nI (t + 1), M')) (fun i (s : Int32 × fz_M) => s.1 = nI i ∧ s.2.1 = M.1 ∧ s.2.2.2 = M.2.2 ∧ s.2.2.1 35 = M.2.1 35 ∧ ∀ k, k < i → s.2.2.1 34 k = lN (g k)) 6 ?_ ?_ (by decide) ⟨rfl, rfl, rfl, rfl, fun j hj => absurd hj (Nat.not_lt_zero j)⟩
  · rintro i ⟨x, M0⟩ hi ⟨rfl, e2, e3, e4, e5⟩
    dsimp only at e2 e3 e4 e5
    have hin : fz_in (nI i) 6 = true := fz_in_nI hi (by decide)
    have h31 : i < 2 ^ 31 := by omega
    have hlt : ¬ (6 : Int32) ≤ nI i := by rw [n_6]; exact nI_ge hi (by decide)
    refine Or.inl ⟨(nI (i + 1), fz_wL M0 34 i (lN (g i))), ⟨rfl, e2, e3, ?_, fun k hk => ?_⟩, fun ag kk => ?_⟩
    · show (fz_wL _ _ _ _).2.1 35 = _
      rw [wL_ne (by decide)]; exact e4
    · show (fz_wL _ _ _ _).2.1 34 k = _
      by_cases hki : k = i
      · subst hki; rw [wL_at]
      · rw [wL_nj hki]; exact e5 k (by omega)
    · show f_X9_drawn_240_s ag kk v1 v2 v3 v4 v5 v6 (nI t) (nI i) M0 = _
      unfold f_X9_drawn_240_s
      rw [if_neg hlt, fz_gd_t hin, fz_gd_t hin, fz_gl_nI h31, e4, hW i hi, fz_sl_nI h31, fz_bd_e, nI_1]
  · rintro ⟨x, M0⟩ ⟨rfl, e2, e3, e4, e5⟩
    refine ⟨M0, ⟨e2, e3, e5⟩, fun ag kk => ?_⟩
    show f_X9_drawn_240_s ag kk v1 v2 v3 v4 v5 v6 (nI t) (nI 6) M0 = _
    unfold f_X9_drawn_240_s
    rw [if_pos (show (6 : Int32) ≤ nI 6 from by decide), nI_1]
theorem md2_e {t p lv fl : Nat} {T : fz_A2} {B : Nat → Nat} {w : Nat → Nat} (v3 v4 v5 : Int32) (v6 : Int64) (M : fz_M) (hp : p < 6) (hf : M.1 10 p = nI fl) (hl : lv ≤ 19) (hfl : fl ≤ 9) (hT : mT T M) (hw : wT T) (hB : ∀ i, i < 10 → M.1 7 i = nI (B i) ∧ B i ≤ 1) (hW : ∀ k, k < 6 → M.2.1 34 k = lN (w k)) (hZ : ∀ k, k < 6 → M.2.1 35 k = lN (dN T (dX T B fl lv) w 0 k)) : ∃ M', (∀ ag : (Int64 × Int32 × fz_M) → Option (Int64 × fz_M), f_X9_drawn_134 ag (nI p) (nI lv) v3 v4 v5 v6 (nI t) 0 M = ag (v6, nI (t + 1), M')) ∧ M'.1 = M.1 ∧ M'.2.2 = M.2.2 ∧ ∀ k, k < 6 → M'.2.1 34 k = lN (dN T (dX T B fl lv) w (T 0 1) k) := by
  have hn := hw.2.1
  have hn0 := hw.1
  unfold f_X9_drawn_134
  refine lp_all (F := fun ag ag2 z => f_X9_drawn_134_s ag ag2 (nI p) (nI lv) v3 v4 v5 v6 (nI t) z.1 z.2) (K := fun ag M' => ag (v6, nI (t + 1), M')) (fun i (s : Int32 × fz_M) => s.1 = nI i ∧ s.2.1 = M.1 ∧ s.2.2.2 = M.2.2 ∧ s.2.2.1 34 = M.2.1 34 ∧ ∀ k, k < 6 → s.2.2.1 35 k = lN (dN T (dX T B fl lv) w i k)) (T 0 1) ?_ ?_ (by unfold fz_fuel; omega) ⟨rfl, rfl, rfl, rfl, hZ⟩
  · rintro i ⟨x, M0⟩ hi ⟨rfl, e2, e3, e4, e5⟩
    dsimp only at e2 e3 e4 e5
    have hin : fz_in (nI i) 10 = true := fz_in_nI (by omega) (by decide)
    have h31 : i < 2 ^ 31 := by omega
    have hinp : fz_in (nI p) 6 = true := fz_in_nI hp (by decide)
    have p31 : p < 2 ^ 31 := by omega
    have hlt : ¬ nI (T 0 1) ≤ nI i := nI_ge hi (by omega)
    have hT0 : mT T M0 := mT_fr hT (by rw [e2]) (by rw [e2]) (by rw [e2]) fun c _ _ _ => by rw [e2]
    have hf0 : M0.1 10 p = nI fl := by rw [e2]; exact hf
    obtain ⟨a3, a4, a5⟩ := hT0.2.2.2.2.1 i hi
    obtain ⟨u3, u4, u34, u5, u6⟩ := hw.2.2.2.2.1 i hi
    obtain ⟨d1, d2⟩ := hB i (by omega)
    have i3 : fz_in (nI (T 3 i)) 6 = true := fz_in_nI (by omega) (by decide)
    have i4 : fz_in (nI (T 4 i)) 6 = true := fz_in_nI (by omega) (by decide)
    have v3' : T 3 i < 2 ^ 31 := by omega
    have v4' : T 4 i < 2 ^ 31 := by omega
    have c7 : M0.1 7 i = nI (B i) := by rw [e2]; exact d1
    have hde := depth_e hT0 hw u3 hl
    have k1 : (nI (lv - T 1 (T 3 i)) < nI fl) = (lv - T 1 (T 3 i) < fl) := propext (nI_ltI (by omega) (by omega))
    by_cases cB : B i = 0
    · have c7' : M0.1 7 i = 0 := by rw [c7, cB]; rfl
      by_cases cf : lv - T 1 (T 3 i) < fl
      · have cX : ¬ dX T B fl lv i = true := fun q => by
          unfold dX at q
          rw [Bool.and_eq_true, decide_eq_true_eq] at q
          omega
        refine Or.inl ⟨(nI (i + 1), M0), ⟨rfl, e2, e3, e4, fun k hk => by rw [dN_off cX]; exact e5 k hk⟩, fun ag kk => ?_⟩
        show f_X9_drawn_134_s ag kk (nI p) (nI lv) v3 v4 v5 v6 (nI t) (nI i) M0 = _
        simp only [f_X9_drawn_134_s, fz_f_e, hT0.2.1, hlt, fz_gd_t hin, fz_gd_t hinp, fz_g_nI h31, fz_g_nI p31, a3, c7', hf0, fz_bd_e, hde, fz_b1_e, k1, cf, nI_1, ↓reduceIte, not_true_eq_false]
      · have cX : dX T B fl lv i = true := by
          unfold dX opn
          rw [Bool.and_eq_true, decide_eq_true_eq, decide_eq_true_eq]
          exact ⟨cB, by omega⟩
        have et : ∀ x, lN x * (nI (T 5 i)).toInt64 = lN (T 5 i * x) := fun x => by rw [nI_l (by omega), lN_mul, Nat.mul_comm]
        have ha := dN_a (w := w) hw hi cX u34
        have esub : lN (dN T (dX T B fl lv) w i (T 3 i)) - lN (T 5 i * w (T 3 i)) = lN (dN T (dX T B fl lv) w (i + 1) (T 3 i)) := by
          rw [lN_sub (by omega)]; congr 1; omega
        have eadd : lN (dN T (dX T B fl lv) w i (T 4 i)) + lN (T 5 i * w (T 3 i)) = lN (dN T (dX T B fl lv) w (i + 1) (T 4 i)) := by
          rw [lN_add, dN_b cX u34]
        have ey : M0.2.1 34 (T 3 i) = lN (w (T 3 i)) := by rw [e4]; exact hW _ (by omega)
        obtain ⟨M1, hM1⟩ : ∃ M1, M1 = fz_wL M0 35 (T 3 i) (lN (dN T (dX T B fl lv) w (i + 1) (T 3 i))) := ⟨_, rfl⟩
        have g1 : M1.2.1 35 (T 4 i) = lN (dN T (dX T B fl lv) w i (T 4 i)) := by rw [hM1, wL_nj (fun q => u34 q.symm)]; exact e5 _ (by omega)
        have g5 : M1.1 5 i = nI (T 4 i) := by rw [hM1]; exact a4
        refine Or.inl ⟨(nI (i + 1), fz_wL M1 35 (T 4 i) (lN (dN T (dX T B fl lv) w (i + 1) (T 4 i)))), ⟨rfl, by rw [fz_wL_1, hM1]; exact e2, by rw [fz_wL_22, hM1]; exact e3, ?_, fun k hk => ?_⟩, fun ag kk => ?_⟩
        · show (fz_wL _ _ _ _).2.1 34 = _
          rw [wL_ne (by decide), hM1, wL_ne (by decide)]; exact e4
        · show (fz_wL _ _ _ _).2.1 35 k = _
          by_cases c4 : k = T 4 i
          · subst c4; rw [wL_at]
          · rw [wL_nj c4, hM1]
            by_cases c3 : k = T 3 i
            · subst c3; rw [wL_at]
            · rw [wL_nj c3, dN_k c3 c4]; exact e5 k hk
        · show f_X9_drawn_134_s ag kk (nI p) (nI lv) v3 v4 v5 v6 (nI t) (nI i) M0 = _
          simp only [f_X9_drawn_134_s, fz_f_e, hT0.2.1, hlt, fz_gd_t hin, fz_gd_t hinp, fz_g_nI h31, fz_g_nI p31, a3, a5, c7', hf0, fz_bd_e, hde, fz_b1_e, k1, cf, fz_gd_t i3, fz_gl_nI v3', fz_sl_nI v3', ey, et, e5 _ (show T 3 i < 6 by omega), esub, ← hM1, g5, fz_gd_t i4, fz_gl_nI v4', fz_sl_nI v4', g1, eadd, nI_1, ↓reduceIte, not_true_eq_false]
    · have c7' : ¬ M0.1 7 i = 0 := by rw [c7, n_0, nI_eq (by omega) (by decide)]; exact cB
      have cX : ¬ dX T B fl lv i = true := fun q => by
        unfold dX opn at q
        rw [Bool.and_eq_true, decide_eq_true_eq] at q
        exact cB q.1
      refine Or.inl ⟨(nI (i + 1), M0), ⟨rfl, e2, e3, e4, fun k hk => by rw [dN_off cX]; exact e5 k hk⟩, fun ag kk => ?_⟩
      show f_X9_drawn_134_s ag kk (nI p) (nI lv) v3 v4 v5 v6 (nI t) (nI i) M0 = _
      simp only [f_X9_drawn_134_s, fz_f_e, hT0.2.1, hlt, fz_gd_t hin, fz_g_nI h31, c7', nI_1, ↓reduceIte, not_false_eq_true]
  · rintro ⟨x, M0⟩ ⟨rfl, e2, e3, e4, e5⟩
    dsimp only at e2 e3 e4 e5
    have c1 : M0.1 0 5 = nI (T 0 1) := by rw [e2]; exact hT.2.1
    obtain ⟨M', q1, q2, q3, q4⟩ := md3_e (t := t) (nI p) (nI lv) v3 v4 v5 v6 M0 e5
    refine ⟨M', ⟨q2.trans e2, q3.trans e3, q4⟩, fun ag kk => ?_⟩
    show f_X9_drawn_134_s ag kk (nI p) (nI lv) v3 v4 v5 v6 (nI t) (nI (T 0 1)) M0 = _
    simp only [f_X9_drawn_134_s, fz_f_e, c1, show nI (T 0 1) ≤ nI (T 0 1) from nI_le (Nat.le_refl _) (by omega), ↓reduceIte]
    exact q1 ag
theorem md1_e {t p lv fl : Nat} {T : fz_A2} {B : Nat → Nat} {w : Nat → Nat} (v3 v4 v5 : Int32) (v6 : Int64) (M : fz_M) (hp : p < 6) (hf : M.1 10 p = nI fl) (hl : lv ≤ 19) (hfl : fl ≤ 9) (hT : mT T M) (hw : wT T) (hB : ∀ i, i < 10 → M.1 7 i = nI (B i) ∧ B i ≤ 1) (hW : ∀ k, k < 6 → M.2.1 34 k = lN (w k)) : ∃ M', (∀ ag : (Int64 × Int32 × fz_M) → Option (Int64 × fz_M), f_X9_drawn_100 ag (nI p) (nI lv) v3 v4 v5 v6 (nI t) 0 M = ag (v6, nI (t + 1), M')) ∧ M'.1 = M.1 ∧ M'.2.2 = M.2.2 ∧ ∀ k, k < 6 → M'.2.1 34 k = lN (dN T (dX T B fl lv) w (T 0 1) k) := by
  unfold f_X9_drawn_100
  refine lp_all (F := fun ag ag2 z => f_X9_drawn_100_s ag ag2 (nI p) (nI lv) v3 v4 v5 v6 (nI t) z.1 z.2) (K := fun ag M' => ag (v6, nI (t + 1), M')) (fun i (s : Int32 × fz_M) => s.1 = nI i ∧ s.2.1 = M.1 ∧ s.2.2.2 = M.2.2 ∧ s.2.2.1 34 = M.2.1 34 ∧ ∀ k, k < i → s.2.2.1 35 k = lN (10 * w k)) 6 ?_ ?_ (by decide) ⟨rfl, rfl, rfl, rfl, fun j hj => absurd hj (Nat.not_lt_zero j)⟩
  · rintro i ⟨x, M0⟩ hi ⟨rfl, e2, e3, e4, e5⟩
    dsimp only at e2 e3 e4 e5
    have hin : fz_in (nI i) 6 = true := fz_in_nI hi (by decide)
    have h31 : i < 2 ^ 31 := by omega
    have hlt : ¬ (6 : Int32) ≤ nI i := by rw [n_6]; exact nI_ge hi (by decide)
    have em : (10 : Int64) * lN (w i) = lN (10 * w i) := lN_mul 10 (w i)
    refine Or.inl ⟨(nI (i + 1), fz_wL M0 35 i (lN (10 * w i))), ⟨rfl, e2, e3, ?_, fun k hk => ?_⟩, fun ag kk => ?_⟩
    · show (fz_wL _ _ _ _).2.1 34 = _
      rw [wL_ne (by decide)]; exact e4
    · show (fz_wL _ _ _ _).2.1 35 k = _
      by_cases hki : k = i
      · subst hki; rw [wL_at]
      · rw [wL_nj hki]; exact e5 k (by omega)
    · show f_X9_drawn_100_s ag kk (nI p) (nI lv) v3 v4 v5 v6 (nI t) (nI i) M0 = _
      unfold f_X9_drawn_100_s
      rw [if_neg hlt, fz_gd_t hin, fz_gd_t hin, fz_gl_nI h31, e4, hW i hi, em, fz_sl_nI h31, fz_bd_e, nI_1]
  · rintro ⟨x, M0⟩ ⟨rfl, e2, e3, e4, e5⟩
    dsimp only at e2 e3 e4 e5
    obtain ⟨M', q1, q2, q3, q4⟩ := md2_e (t := t) (B := B) (w := w) v3 v4 v5 v6 M0 hp (by rw [e2]; exact hf) hl hfl (mT_fr hT (by rw [e2]) (by rw [e2]) (by rw [e2]) fun c _ _ _ => by rw [e2]) hw (fun i hi => by rw [e2]; exact hB i hi) (fun k hk => by rw [e4]; exact hW k hk) (fun k hk => by rw [dN_0]; exact e5 k hk)
    refine ⟨M', ⟨q2.trans e2, q3.trans e3, q4⟩, fun ag kk => ?_⟩
    show f_X9_drawn_100_s ag kk (nI p) (nI lv) v3 v4 v5 v6 (nI t) (nI 6) M0 = _
    unfold f_X9_drawn_100_s
    rw [if_pos (show (6 : Int32) ≤ nI 6 from by decide)]
    exact q1 ag
