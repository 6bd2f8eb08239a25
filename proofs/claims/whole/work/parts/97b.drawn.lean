/-! drawn streams: in how many ways, by tenths -/
def dO (T : fz_A2) (X : Nat → Bool) (k : Nat) : Nat → Nat
  | 0 => 0
  | s + 1 => dO T X k s + if X s = true ∧ T 3 s = k then T 5 s else 0
def dI (T : fz_A2) (X : Nat → Bool) (w : Nat → Nat) (k : Nat) : Nat → Nat
  | 0 => 0
  | s + 1 => dI T X w k s + if X s = true ∧ T 4 s = k then T 5 s * w (T 3 s) else 0
def dN (T : fz_A2) (X : Nat → Bool) (w : Nat → Nat) (i k : Nat) : Nat := (10 - dO T X k i) * w k + dI T X w k i
def dW (T : fz_A2) (X : Nat → Bool) (h0 : Nat) : Nat → Nat → Nat
  | 0 => fun k => if k = h0 then 1 else 0
  | t + 1 => dN T X (dW T X h0 t) (T 0 1)
theorem dO_le {T : fz_A2} {X : Nat → Bool} {k : Nat} : ∀ i, dO T X k i ≤ tenSum T k i
  | 0 => Nat.le_refl _
  | s + 1 => by
    have := dO_le (T := T) (X := X) (k := k) s
    simp only [dO, tenSum]
    by_cases c : T 3 s = k
    · by_cases d : X s = true
      · rw [if_pos ⟨d, c⟩, if_pos c]; omega
      · rw [if_neg (fun q => d q.1), if_pos c]; omega
    · rw [if_neg (fun q => c q.2), if_neg c]; omega
theorem tenS_mono {T : fz_A2} {k : Nat} : ∀ {i j : Nat}, i ≤ j → tenSum T k i ≤ tenSum T k j
  | i, 0, h => by rw [Nat.le_zero.mp h]; exact Nat.le_refl _
  | i, j + 1, h => by
    by_cases q : i = j + 1
    · subst q; exact Nat.le_refl _
    · have := tenS_mono (T := T) (k := k) (i := i) (j := j) (by omega)
      simp only [tenSum]
      omega
theorem dO_10 {T : fz_A2} {X : Nat → Bool} {k i : Nat} (hw : wT T) (hi : i ≤ T 0 1) : dO T X k i ≤ 10 :=
  Nat.le_trans (dO_le i) (Nat.le_trans (tenS_mono hi) (hw.2.2.2.2.2.2 k))
theorem dN_0 {T : fz_A2} {X : Nat → Bool} {w : Nat → Nat} (k : Nat) : dN T X w 0 k = 10 * w k := by
  show (10 - 0) * w k + 0 = _
  omega
theorem dO_p {T : fz_A2} {X : Nat → Bool} {k i : Nat} (c : X i = true ∧ T 3 i = k) : dO T X k (i + 1) = dO T X k i + T 5 i := by
  show _ + (if _ then _ else _) = _
  rw [if_pos c]
theorem dO_n {T : fz_A2} {X : Nat → Bool} {k i : Nat} (c : ¬ (X i = true ∧ T 3 i = k)) : dO T X k (i + 1) = dO T X k i := by
  show _ + (if _ then _ else _) = _
  rw [if_neg c, Nat.add_zero]
theorem dI_p {T : fz_A2} {X : Nat → Bool} {w : Nat → Nat} {k i : Nat} (c : X i = true ∧ T 4 i = k) : dI T X w k (i + 1) = dI T X w k i + T 5 i * w (T 3 i) := by
  show _ + (if _ then _ else _) = _
  rw [if_pos c]
theorem dI_n {T : fz_A2} {X : Nat → Bool} {w : Nat → Nat} {k i : Nat} (c : ¬ (X i = true ∧ T 4 i = k)) : dI T X w k (i + 1) = dI T X w k i := by
  show _ + (if _ then _ else _) = _
  rw [if_neg c, Nat.add_zero]
theorem dN_a {T : fz_A2} {X : Nat → Bool} {w : Nat → Nat} {i : Nat} (hw : wT T) (hi : i < T 0 1) (c : X i = true) (hab : T 3 i ≠ T 4 i) : dN T X w (i + 1) (T 3 i) + T 5 i * w (T 3 i) = dN T X w i (T 3 i) := by
  have h := dO_10 (X := X) (k := T 3 i) hw (Nat.succ_le_of_lt hi)
  have o : dO T X (T 3 i) (i + 1) = dO T X (T 3 i) i + T 5 i := dO_p ⟨c, rfl⟩
  rw [show i.succ = i + 1 from rfl, o] at h
  unfold dN
  rw [o, dI_n (fun q => hab q.2.symm)]
  have e : 10 - dO T X (T 3 i) i = (10 - (dO T X (T 3 i) i + T 5 i)) + T 5 i := by omega
  rw [e, Nat.add_mul]
  omega
theorem dN_b {T : fz_A2} {X : Nat → Bool} {w : Nat → Nat} {i : Nat} (c : X i = true) (hab : T 3 i ≠ T 4 i) : dN T X w (i + 1) (T 4 i) = dN T X w i (T 4 i) + T 5 i * w (T 3 i) := by
  unfold dN
  rw [dI_p ⟨c, rfl⟩, dO_n (fun q => hab q.2)]
  omega
theorem dN_k {T : fz_A2} {X : Nat → Bool} {w : Nat → Nat} {i k : Nat} (h3 : k ≠ T 3 i) (h4 : k ≠ T 4 i) : dN T X w (i + 1) k = dN T X w i k := by
  unfold dN
  rw [dI_n (fun q => h4 q.2.symm), dO_n (fun q => h3 q.2.symm)]
theorem dN_off {T : fz_A2} {X : Nat → Bool} {w : Nat → Nat} {i k : Nat} (c : ¬ X i = true) : dN T X w (i + 1) k = dN T X w i k := by
  unfold dN
  rw [dI_n (fun q => c q.1), dO_n (fun q => c q.1)]
theorem dI_le {T : fz_A2} {X : Nat → Bool} {w : Nat → Nat} {k m : Nat} (hw : wT T) (hm : ∀ k, w k ≤ m) : ∀ i, i ≤ T 0 1 → dI T X w k i ≤ i * (9 * m)
  | 0, _ => Nat.zero_le _
  | s + 1, hs => by
    have a := dI_le (X := X) (k := k) hw hm s (by omega)
    have b := (hw.2.2.2.2.1 s hs).2.2.2.2
    have c : T 5 s * w (T 3 s) ≤ 9 * m := Nat.mul_le_mul b (hm _)
    simp only [dI]
    rw [Nat.add_mul, Nat.one_mul]
    split <;> omega
theorem dW_le {T : fz_A2} {X : Nat → Bool} {h0 : Nat} (hw : wT T) : ∀ t k, dW T X h0 t k ≤ 100 ^ t
  | 0, k => by show (if k = h0 then 1 else 0) ≤ 1; split <;> omega
  | t + 1, k => by
    have ih := dW_le (T := T) (X := X) (h0 := h0) hw t
    have a := dI_le (X := X) (w := dW T X h0 t) (k := k) hw ih (T 0 1) (Nat.le_refl _)
    have b : T 0 1 * (9 * 100 ^ t) ≤ 10 * (9 * 100 ^ t) := Nat.mul_le_mul_right _ hw.2.1
    have c : (10 - dO T X k (T 0 1)) * dW T X h0 t k ≤ 10 * 100 ^ t := Nat.mul_le_mul (by omega) (ih k)
    show (10 - dO T X k (T 0 1)) * dW T X h0 t k + dI T X (dW T X h0 t) k (T 0 1) ≤ 100 ^ (t + 1)
    rw [Nat.pow_succ]
    omega
theorem dW_63 {T : fz_A2} {X : Nat → Bool} {h0 t k : Nat} (hw : wT T) (ht : t ≤ 9) : dW T X h0 t k < 2 ^ 63 :=
  Nat.lt_of_le_of_lt (Nat.le_trans (dW_le hw t k) (Nat.pow_le_pow_right (by decide) ht)) (by decide)
/-- the streams that carry a piece -/
def dX (T : fz_A2) (B : Nat → Nat) (fl lv s : Nat) : Bool := opn B s && decide (fl ≤ lv - T 1 (T 3 s))
theorem cDr2_e {P y z lv fl : Nat} {T : fz_A2} {B : Nat → Nat} {w : Nat → Nat} (M : fz_M) (hl : lv ≤ 19) (hfl : fl ≤ 9) (hT : cT P T M) (hw : wT T) (hB : ∀ i, i < 10 → M.1 52 i = nI (B i) ∧ B i ≤ 1) (hs : sprAt y z M) (hW : ∀ k, k < 6 → M.2.1 y k = lN (w k)) (hZ : ∀ k, k < 6 → M.2.1 z k = lN (dN T (dX T B fl lv) w 0 k)) : ∃ M', f_X5_drawHour_37 P 52 (nI fl) (nI lv) 0 M = some M' ∧ M'.1 = M.1 ∧ M'.2.2 0 = M.2.2 0 ∧ sprAt z y M' ∧ ∀ k, k < 6 → M'.2.1 z k = lN (dN T (dX T B fl lv) w (T 0 1) k) := by
  have hn := hw.2.1
  have hn0 := hw.1
  have hyz := spr_ne hs
  unfold f_X5_drawHour_37
  refine lp_gen (K := fun a => some a) (fun i (s : Int32 × fz_M) => s.1 = nI i ∧ s.2.1 = M.1 ∧ s.2.2.2 = M.2.2 ∧ s.2.2.1 y = M.2.1 y ∧ ∀ k, k < 6 → s.2.2.1 z k = lN (dN T (dX T B fl lv) w i k)) (T 0 1) ?_ ?_ (by unfold fz_fuel; omega) ⟨rfl, rfl, rfl, rfl, hZ⟩
  · rintro i ⟨x, M0⟩ hi ⟨rfl, e2, e3, e4, e5⟩
    dsimp only at e2 e3 e4 e5
    have hin : fz_in (nI i) 10 = true := fz_in_nI (by omega) (by decide)
    have h31 : i < 2 ^ 31 := by omega
    have hlt : ¬ nI (T 0 1) ≤ nI i := nI_ge hi (by omega)
    have hs0 := spr_fr hs e3
    have hT0 : cT P T M0 := cT_fr hT fun o _ => by rw [e2]
    obtain ⟨a3, a4, a5⟩ := hT0.2.2.2.2.1 i hi
    obtain ⟨u3, u4, u34, u5, u6⟩ := hw.2.2.2.2.1 i hi
    obtain ⟨d1, d2⟩ := hB i (by omega)
    have i3 : fz_in (nI (T 3 i)) 6 = true := fz_in_nI (by omega) (by decide)
    have i4 : fz_in (nI (T 4 i)) 6 = true := fz_in_nI (by omega) (by decide)
    have v3 : T 3 i < 2 ^ 31 := by omega
    have v4 : T 4 i < 2 ^ 31 := by omega
    have c52 : M0.1 52 i = nI (B i) := by rw [e2]; exact d1
    have k0 : (nI (B i) = 0) = (B i = 0) := propext (nI_eq (b := 0) (by omega) (by decide))
    have hwa := water_e hT0 hw u3 hl
    have k1 : (nI (lv - T 1 (T 3 i)) < nI fl) = (lv - T 1 (T 3 i) < fl) := propext (nI_ltI (by omega) (by omega))
    by_cases cB : B i = 0
    · have c52' : M0.1 52 i = 0 := by rw [c52, cB]; rfl
      by_cases cf : lv - T 1 (T 3 i) < fl
      · have cX : ¬ dX T B fl lv i = true := fun q => by
          unfold dX at q
          rw [Bool.and_eq_true, decide_eq_true_eq] at q
          omega
        refine Or.inl ⟨(nI (i + 1), M0), ⟨rfl, e2, e3, e4, fun k hk => by rw [dN_off cX]; exact e5 k hk⟩, fun kk => ?_⟩
        show f_X5_drawHour_37_s P 52 kk (nI fl) (nI lv) (nI i) M0 = _
        simp only [f_X5_drawHour_37_s, fz_f_e, hT0.2.1, hlt, fz_gd_t hin, fz_g_nI h31, a3, c52', fz_bd_e, hwa, fz_b1_e, k1, cf, nI_1, ↓reduceIte, not_true_eq_false]
      · have cX : dX T B fl lv i = true := by
          unfold dX opn
          rw [Bool.and_eq_true, decide_eq_true_eq, decide_eq_true_eq]
          exact ⟨cB, by omega⟩
        have et : ∀ x, (nI (T 5 i)).toInt64 * lN x = lN (T 5 i * x) := fun x => by rw [nI_l (by omega), lN_mul]
        have ha := dN_a (w := w) hw hi cX u34
        have esub : lN (dN T (dX T B fl lv) w i (T 3 i)) - lN (T 5 i * w (T 3 i)) = lN (dN T (dX T B fl lv) w (i + 1) (T 3 i)) := by
          rw [lN_sub (by omega)]; congr 1; omega
        have eadd : lN (dN T (dX T B fl lv) w i (T 4 i)) + lN (T 5 i * w (T 3 i)) = lN (dN T (dX T B fl lv) w (i + 1) (T 4 i)) := by
          rw [lN_add, dN_b cX u34]
        have ey : M0.2.1 y (T 3 i) = lN (w (T 3 i)) := by rw [e4]; exact hW _ (by omega)
        obtain ⟨M1, hM1⟩ : ∃ M1, M1 = fz_wL M0 z (T 3 i) (lN (dN T (dX T B fl lv) w (i + 1) (T 3 i))) := ⟨_, rfl⟩
        have hs1 : sprAt y z M1 := by rw [hM1]; exact hs0
        have g1 : M1.2.1 z (T 4 i) = lN (dN T (dX T B fl lv) w i (T 4 i)) := by rw [hM1, wL_nj (fun q => u34 q.symm)]; exact e5 _ (by omega)
        have g2 : M1.2.1 y (T 3 i) = lN (w (T 3 i)) := by rw [hM1, wL_ne hyz]; exact ey
        have mv : f_X5_move (nI (T 3 i)) (nI (T 4 i)) (nI (T 5 i)) M0 = some (fz_wL M1 z (T 4 i) (lN (dN T (dX T B fl lv) w (i + 1) (T 4 i)))) := by
          simp only [f_X5_move, fz_bd_e, fz_d_e, hs0.1, hs0.2.1, fz_gd_t (isL_y hs0), fz_gd_t (isL_z hs0), fz_gd_t i3, fz_gl_nI v3, fz_sl_nI v3, e5 _ (show T 3 i < 6 by omega), ey, et, esub, ← hM1, hs1.1, hs1.2.1, fz_gd_t i4, fz_gl_nI v4, fz_sl_nI v4, g1, g2, eadd]
        refine Or.inl ⟨(nI (i + 1), fz_wL M1 z (T 4 i) (lN (dN T (dX T B fl lv) w (i + 1) (T 4 i)))), ⟨rfl, by rw [fz_wL_1, hM1]; exact e2, by rw [fz_wL_22, hM1]; exact e3, ?_, fun k hk => ?_⟩, fun kk => ?_⟩
        · show (fz_wL _ _ _ _).2.1 y = _
          rw [wL_ne hyz, hM1, wL_ne hyz]; exact e4
        · show (fz_wL _ _ _ _).2.1 z k = _
          by_cases c4 : k = T 4 i
          · subst c4; rw [wL_at]
          · rw [wL_nj c4, hM1]
            by_cases c3 : k = T 3 i
            · subst c3; rw [wL_at]
            · rw [wL_nj c3, dN_k c3 c4]; exact e5 k hk
        · show f_X5_drawHour_37_s P 52 kk (nI fl) (nI lv) (nI i) M0 = _
          simp only [f_X5_drawHour_37_s, fz_f_e, hT0.2.1, hlt, fz_gd_t hin, fz_g_nI h31, a3, a4, a5, c52', fz_bd_e, hwa, fz_b1_e, k1, cf, mv, nI_1, ↓reduceIte, not_true_eq_false]
    · have cX : ¬ dX T B fl lv i = true := fun q => by
        unfold dX opn at q
        rw [Bool.and_eq_true, decide_eq_true_eq] at q
        exact cB q.1
      refine Or.inl ⟨(nI (i + 1), M0), ⟨rfl, e2, e3, e4, fun k hk => by rw [dN_off cX]; exact e5 k hk⟩, fun kk => ?_⟩
      show f_X5_drawHour_37_s P 52 kk (nI fl) (nI lv) (nI i) M0 = _
      simp only [f_X5_drawHour_37_s, fz_f_e, hT0.2.1, hlt, fz_gd_t hin, fz_g_nI h31, a3, c52, k0, cB, fz_bd_e, nI_1, ↓reduceIte, not_false_eq_true]
  · rintro ⟨x, M0⟩ ⟨rfl, e2, e3, e4, e5⟩
    dsimp only at e2 e3 e4 e5
    have hs0 := spr_fr hs e3
    have c1 : M0.1 P 1 = nI (T 0 1) := by rw [e2]; exact hT.2.1
    have hzy : (z = 16 ∧ y = 17) ∨ (z = 17 ∧ y = 16) := by rcases hs.2.2 with ⟨rfl, rfl⟩ | ⟨rfl, rfl⟩ <;> omega
    refine ⟨fz_wD (fz_wD M0 15 0 z) 15 1 y, ⟨e2, ?_, ⟨?_, ?_, hzy⟩, e5⟩, fun kk => ?_⟩
    · funext j
      rw [fz_wD_3, if_neg (by omega), fz_wD_3, if_neg (by omega), e3]
    · rw [fz_wD_3, if_neg (by omega), fz_wD_3, if_pos ⟨rfl, rfl⟩]
    · rw [fz_wD_3, if_pos ⟨rfl, rfl⟩]
    · show f_X5_drawHour_37_s P 52 kk (nI fl) (nI lv) (nI (T 0 1)) M0 = _
      simp only [f_X5_drawHour_37_s, f_X5_turn, fz_f_e, c1, show nI (T 0 1) ≤ nI (T 0 1) from nI_le (Nat.le_refl _) (by omega), fz_bd_e, fz_d_e, hs0.1, hs0.2.1, fz_gd_t (isL_y hs0), fz_gd_t (isL_z hs0), fz_sd_e, fz_b1_e, ↓reduceIte]
theorem cDr_e {P y z lv fl : Nat} {T : fz_A2} {B : Nat → Nat} {w : Nat → Nat} (M : fz_M) (hl : lv ≤ 19) (hfl : fl ≤ 9) (hT : cT P T M) (hw : wT T) (hB : ∀ i, i < 10 → M.1 52 i = nI (B i) ∧ B i ≤ 1) (hs : sprAt y z M) (hW : ∀ k, k < 6 → M.2.1 y k = lN (w k)) : ∃ M', f_X5_drawHour P 52 (nI fl) (nI lv) M = some M' ∧ M'.1 = M.1 ∧ M'.2.2 0 = M.2.2 0 ∧ sprAt z y M' ∧ ∀ k, k < 6 → M'.2.1 z k = lN (dN T (dX T B fl lv) w (T 0 1) k) := by
  have hyz := spr_ne hs
  unfold f_X5_drawHour f_X5_drawHour_3
  refine lp_gen (K := fun a => some a) (fun i (s : Int32 × fz_M) => s.1 = nI i ∧ s.2.1 = M.1 ∧ s.2.2.2 = M.2.2 ∧ s.2.2.1 y = M.2.1 y ∧ ∀ k, k < i → s.2.2.1 z k = lN (10 * w k)) 6 ?_ ?_ (by decide) ⟨rfl, rfl, rfl, rfl, fun j hj => absurd hj (Nat.not_lt_zero j)⟩
  · rintro i ⟨x, M0⟩ hi ⟨rfl, e2, e3, e4, e5⟩
    dsimp only at e2 e3 e4 e5
    have hin : fz_in (nI i) 6 = true := fz_in_nI hi (by decide)
    have h31 : i < 2 ^ 31 := by omega
    have hlt : ¬ (6 : Int32) ≤ nI i := by rw [n_6]; exact nI_ge hi (by decide)
    have hs0 := spr_fr hs e3
    have em : (10 : Int64) * lN (w i) = lN (10 * w i) := lN_mul 10 (w i)
    refine Or.inl ⟨(nI (i + 1), fz_wL M0 z i (lN (10 * w i))), ⟨rfl, e2, e3, ?_, fun k hk => ?_⟩, fun kk => ?_⟩
    · show (fz_wL _ _ _ _).2.1 y = _
      rw [wL_ne hyz]; exact e4
    · show (fz_wL _ _ _ _).2.1 z k = _
      by_cases hki : k = i
      · subst hki; rw [wL_at]
      · rw [wL_nj hki]; exact e5 k (by omega)
    · show f_X5_drawHour_3_s P 52 kk (nI fl) (nI lv) (nI i) M0 = _
      simp only [f_X5_drawHour_3_s, hlt, fz_bd_e, fz_d_e, hs0.1, hs0.2.1, fz_gd_t (isL_y hs0), fz_gd_t (isL_z hs0), fz_gd_t hin, fz_gl_nI h31, fz_sl_nI h31, show M0.2.1 y i = lN (w i) from by rw [e4]; exact hW i hi, em, nI_1, ↓reduceIte]
  · rintro ⟨x, M0⟩ ⟨rfl, e2, e3, e4, e5⟩
    dsimp only at e2 e3 e4 e5
    obtain ⟨M', q1, q2, q3, q4, q5⟩ := cDr2_e (B := B) (w := w) M0 hl hfl (cT_fr hT fun o _ => by rw [e2]) hw (fun i hi => by rw [e2]; exact hB i hi) (spr_fr hs e3) (fun k hk => by rw [e4]; exact hW k hk) (fun k hk => by rw [dN_0]; exact e5 k hk)
    refine ⟨M', ⟨q2.trans e2, q3.trans (by rw [e3]), q4, q5⟩, fun kk => ?_⟩
    show f_X5_drawHour_3_s P 52 kk (nI fl) (nI lv) (nI 6) M0 = _
    simp only [f_X5_drawHour_3_s, show (6 : Int32) ≤ nI 6 from by decide, ↓reduceIte]
    exact q1
