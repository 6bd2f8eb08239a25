/-! drawn -/
def drA (v : Int32) (a n : Nat) : Int64 := if v = 0 then lN (10 ^ n / Nat.gcd a (10 ^ n)) else lN (a / Nat.gcd a (10 ^ n))
theorem ten63 {n : Nat} (h : n ≤ 9) : 10 ^ n < 2 ^ 40 := Nat.lt_of_le_of_lt (Nat.pow_le_pow_right (by decide) h) (by decide)
theorem ten0 (n : Nat) : 0 < 10 ^ n := Nat.pow_pos (by decide)
theorem gcd63 {a n : Nat} (h : n ≤ 9) : Nat.gcd a (10 ^ n) < 2 ^ 40 ∧ Nat.gcd a (10 ^ n) ≠ 0 := by
  have h1 : Nat.gcd a (10 ^ n) ≤ 10 ^ n := Nat.le_of_dvd (ten0 n) (Nat.gcd_dvd_right a (10 ^ n))
  have h2 := Nat.gcd_pos_of_pos_right a (ten0 n)
  exact ⟨Nat.lt_of_le_of_lt h1 (ten63 h), by omega⟩
theorem lten (t : Nat) : lN (10 ^ t) * 10 = lN (10 ^ (t + 1)) := by
  rw [Nat.pow_succ]; exact lN_mul (10 ^ t) 10
theorem cDn_e {P p h0 h lv fl n : Nat} {T : fz_A2} {B : Nat → Nat} {M : fz_M} (v5 : Int32) (hp : p < T 0 2) (hh : h < 6) (hl : lv ≤ 19) (hn : n ≤ 9) (h1 : M.2.2 0 9 = P) (hiP : fz_isP P = true) (hT : cT P T M) (hw : wT T) (hf : T 8 p = fl) (hB : ∀ i, i < 10 → M.1 52 i = nI (B i) ∧ B i ≤ 1) (hs : ∃ y z, sprAt y z M ∧ ∀ k, k < 6 → M.2.1 y k = lN (dW T (dX T B fl lv) h0 0 k)) : ∃ M', f_X8_drawn_61 (nI p) (nI lv) (nI n) (nI h) v5 1 0 M = some (drA v5 (dW T (dX T B fl lv) h0 n h) n, M') ∧ M'.1 = M.1 ∧ M'.2.2 0 = M.2.2 0 ∧ rSpr M' := by
  have hn2 := hw.2.2.1
  have hfl : fl ≤ 9 := by rw [← hf]; exact (hw.2.2.2.2.2.1 p hp).2.2.2.2
  have hinp : fz_in (nI p) 6 = true := fz_in_nI (by omega) (by decide)
  have p31 : p < 2 ^ 31 := by omega
  have hinh : fz_in (nI h) 6 = true := fz_in_nI hh (by decide)
  have h31 : h < 2 ^ 31 := by omega
  unfold f_X8_drawn_61
  refine lp_gen (K := fun a => some (drA v5 (dW T (dX T B fl lv) h0 n h) n, a)) (fun t (s : Int64 × Int32 × fz_M) => s.1 = lN (10 ^ t) ∧ s.2.1 = nI t ∧ s.2.2.1 = M.1 ∧ s.2.2.2.2 0 = M.2.2 0 ∧ ∃ y z, sprAt y z s.2.2 ∧ ∀ k, k < 6 → s.2.2.2.1 y k = lN (dW T (dX T B fl lv) h0 t k)) n ?_ ?_ (by unfold fz_fuel; omega) ⟨rfl, rfl, rfl, rfl, hs⟩
  · rintro t ⟨x, y0, M0⟩ ht ⟨e0, e1, e2, e3, y, z, e4, e5⟩
    dsimp only at e0 e1 e2 e3 e4 e5
    subst e0; subst e1
    have hlt : ¬ nI n ≤ nI t := nI_ge ht (by omega)
    have hT0 : cT P T M0 := cT_fr hT fun o _ => by rw [e2]
    have h8 : M0.1 (P + 8) p = nI fl := by rw [(hT0.2.2.2.2.2 p hp).2.2, hf]
    obtain ⟨M', q1, q2, q3, q4, q5⟩ := cDr_e (B := B) (fl := fl) (w := dW T (dX T B fl lv) h0 t) M0 hl hfl hT0 hw (fun i hi => by rw [e2]; exact hB i hi) e4 e5
    refine Or.inl ⟨(lN (10 ^ (t + 1)), nI (t + 1), M'), ⟨rfl, rfl, q2.trans e2, q3.trans e3, z, y, q4, q5⟩, fun kk => ?_⟩
    show f_X8_drawn_61_s kk (nI p) (nI lv) (nI n) (nI h) v5 (lN (10 ^ t)) (nI t) M0 = _
    unfold f_X8_drawn_61_s
    rw [if_neg hlt, fz_bd_e, fz_d_e, e3, h1, fz_gd_t hiP, fz_bd_e, fz_gd_t hiP, fz_gd_t hinp, fz_g_nI p31, h8]
    rw [show (40 + 12 : Nat) = 52 from rfl, q1, fz_b1_e, fz_bd_e, lten, nI_1]
  · rintro ⟨x, y0, M0⟩ ⟨e0, e1, e2, e3, y, z, e4, e5⟩
    dsimp only at e0 e1 e2 e3 e4 e5
    subst e0; subst e1
    have ha := dW_63 (T := T) (X := dX T B fl lv) (h0 := h0) (t := n) (k := h) hw hn
    have hv := e5 h hh
    generalize dW T (dX T B fl lv) h0 n h = a at ha hv ⊢
    obtain ⟨g1, g2⟩ := gcd63 (a := a) hn
    have g63 : Nat.gcd a (10 ^ n) < 2 ^ 63 := by omega
    have t63 : 10 ^ n < 2 ^ 63 := by have := ten63 hn; omega
    have c2 : f_X8_commonPower (lN a) (lN (10 ^ n)) 2 M0 = some (lN (Nat.gcd a (2 ^ n))) := com_e (pr := 2) M0 (Or.inl rfl) ha hn
    have c5 : f_X8_commonPower (lN a) (lN (10 ^ n)) 5 M0 = some (lN (Nat.gcd a (5 ^ n))) := com_e (pr := 5) M0 (Or.inr rfl) ha hn
    refine ⟨M0, ⟨e2, e3, spr_r e4⟩, fun kk => ?_⟩
    show f_X8_drawn_61_s kk (nI p) (nI lv) (nI n) (nI h) v5 (lN (10 ^ n)) (nI n) M0 = _
    unfold f_X8_drawn_61_s drA
    rw [if_pos (nI_le (Nat.le_refl n) (by omega)), fz_bd_e, fz_d_e, e4.1, fz_gd_t (isL_y e4), fz_gd_t hinh, fz_gl_nI h31, hv, fz_bd_e, c2, fz_b1_e, c5, fz_b1_e, fz_bd_e, lN_mul, gcd10]
    by_cases c : v5 = 0
    · rw [if_pos c, if_pos c, fz_gd_t (l_nz g63 g2), l_div t63 g63]
    · rw [if_neg c, if_neg c, fz_gd_t (l_nz g63 g2), l_div ha g63]
theorem mDn_e {p h0 h lv fl n : Nat} {T : fz_A2} {B : Nat → Nat} {M : fz_M} (v5 : Int32) (hp : p < T 0 2) (hh : h < 6) (hl : lv ≤ 19) (hn : n ≤ 9) (hT : mT T M) (hw : wT T) (hf : T 8 p = fl) (hB : ∀ i, i < 10 → M.1 7 i = nI (B i) ∧ B i ≤ 1) (hs : ∀ k, k < 6 → M.2.1 34 k = lN (dW T (dX T B fl lv) h0 0 k)) : ∃ M', f_X9_drawn_83 (nI p) (nI lv) (nI n) (nI h) v5 1 0 M = some (drA v5 (dW T (dX T B fl lv) h0 n h) n, M') ∧ M'.1 = M.1 := by
  have hn2 := hw.2.2.1
  have hfl : fl ≤ 9 := by rw [← hf]; exact (hw.2.2.2.2.2.1 p hp).2.2.2.2
  have hinh : fz_in (nI h) 6 = true := fz_in_nI hh (by decide)
  have h31 : h < 2 ^ 31 := by omega
  unfold f_X9_drawn_83
  refine lp_gen (K := fun a => some (drA v5 (dW T (dX T B fl lv) h0 n h) n, a)) (fun t (s : Int64 × Int32 × fz_M) => s.1 = lN (10 ^ t) ∧ s.2.1 = nI t ∧ s.2.2.1 = M.1 ∧ ∀ k, k < 6 → s.2.2.2.1 34 k = lN (dW T (dX T B fl lv) h0 t k)) n ?_ ?_ (by unfold fz_fuel; omega) ⟨rfl, rfl, rfl, hs⟩
  · rintro t ⟨x, y0, M0⟩ ht ⟨e0, e1, e2, e5⟩
    dsimp only at e0 e1 e2 e5
    subst e0; subst e1
    have hlt : ¬ nI n ≤ nI t := nI_ge ht (by omega)
    have hT0 : mT T M0 := mT_fr hT (by rw [e2]) (by rw [e2]) (by rw [e2]) fun c _ _ _ => by rw [e2]
    have h10 : M0.1 10 p = nI fl := by rw [(hT0.2.2.2.2.2 p hp).2.2, hf]
    obtain ⟨M', q1, q2, q3, q4⟩ := md1_e (t := t) (B := B) (w := dW T (dX T B fl lv) h0 t) (nI n) (nI h) v5 (lN (10 ^ (t + 1))) M0 (by omega) h10 hl hfl hT0 hw (fun i hi => by rw [e2]; exact hB i hi) e5
    refine Or.inl ⟨(lN (10 ^ (t + 1)), nI (t + 1), M'), ⟨rfl, rfl, q2.trans e2, q4⟩, fun kk => ?_⟩
    show f_X9_drawn_83_s kk (nI p) (nI lv) (nI n) (nI h) v5 (lN (10 ^ t)) (nI t) M0 = _
    unfold f_X9_drawn_83_s
    rw [if_neg hlt, fz_bd_e, lten]
    exact q1 kk
  · rintro ⟨x, y0, M0⟩ ⟨e0, e1, e2, e5⟩
    dsimp only at e0 e1 e2 e5
    subst e0; subst e1
    have ha := dW_63 (T := T) (X := dX T B fl lv) (h0 := h0) (t := n) (k := h) hw hn
    have hv := e5 h hh
    generalize dW T (dX T B fl lv) h0 n h = a at ha hv ⊢
    obtain ⟨g1, g2⟩ := gcd63 (a := a) hn
    have g63 : Nat.gcd a (10 ^ n) < 2 ^ 63 := by omega
    have t63 : 10 ^ n < 2 ^ 63 := by have := ten63 hn; omega
    have dv := div_e (a := a) (N := 10 ^ n) M0 ha (ten63 hn) (ten0 n)
    refine ⟨M0, e2, fun kk => ?_⟩
    show f_X9_drawn_83_s kk (nI p) (nI lv) (nI n) (nI h) v5 (lN (10 ^ n)) (nI n) M0 = _
    unfold f_X9_drawn_83_s drA
    rw [if_pos (nI_le (Nat.le_refl n) (by omega)), fz_gd_t hinh, fz_gl_nI h31, hv, dv, fz_b1_e]
    by_cases c : v5 = 0
    · rw [if_pos c, if_pos c, fz_gd_t (l_nz g63 g2), l_div t63 g63]
    · rw [if_neg c, if_neg c, fz_gd_t hinh, fz_gd_t (l_nz g63 g2), l_div ha g63]
theorem mDb_e {p h0 h lv fl n : Nat} {T : fz_A2} {B : Nat → Nat} {M : fz_M} (v5 : Int32) (hp : p < T 0 2) (hh : h < 6) (hh0 : h0 < 6) (hl : lv ≤ 19) (hn : n ≤ 9) (hT : mT T M) (hw : wT T) (hf : T 8 p = fl) (hat : M.1 11 p = nI h0) (hB : ∀ i, i < 10 → M.1 7 i = nI (B i) ∧ B i ≤ 1) : ∃ M', f_X9_drawn_41 (nI p) (nI lv) (nI n) (nI h) v5 0 M = some (drA v5 (dW T (dX T B fl lv) h0 n h) n, M') ∧ M'.1 = M.1 := by
  have hn2 := hw.2.2.1
  have hinp : fz_in (nI p) 6 = true := fz_in_nI (by omega) (by decide)
  have p31 : p < 2 ^ 31 := by omega
  unfold f_X9_drawn_41
  refine lp_gen (K := fun a => some (drA v5 (dW T (dX T B fl lv) h0 n h) n, a)) (fun i (s : Int32 × fz_M) => s.1 = nI i ∧ s.2.1 = M.1 ∧ ∀ k, k < i → s.2.2.1 34 k = lN (dW T (dX T B fl lv) h0 0 k)) 6 ?_ ?_ (by decide) ⟨rfl, rfl, fun j hj => absurd hj (Nat.not_lt_zero j)⟩
  · rintro i ⟨x, M0⟩ hi ⟨e1, e2, e5⟩
    dsimp only at e1 e2 e5
    subst e1
    have hin : fz_in (nI i) 6 = true := fz_in_nI hi (by decide)
    have h31 : i < 2 ^ 31 := by omega
    have hlt : ¬ (6 : Int32) ≤ nI i := by rw [n_6]; exact nI_ge hi (by decide)
    have hat0 : M0.1 11 p = nI h0 := by rw [e2]; exact hat
    refine Or.inl ⟨(nI (i + 1), fz_wL M0 34 i (lN (if i = h0 then 1 else 0))), ⟨rfl, e2, fun k hk => ?_⟩, fun kk => ?_⟩
    · show (fz_wL _ _ _ _).2.1 34 k = lN (if k = h0 then 1 else 0)
      by_cases hki : k = i
      · subst hki; rw [wL_at]
      · rw [wL_nj hki]; exact e5 k (by omega)
    · show f_X9_drawn_41_s kk (nI p) (nI lv) (nI n) (nI h) v5 (nI i) M0 = _
      unfold f_X9_drawn_41_s f_X9_drawn_70
      rw [if_neg hlt, fz_gd_t hinp, fz_g_nI p31, hat0]
      by_cases c : i = h0
      · rw [if_neg (fun q => q (by rw [c])), fz_gd_t hin, fz_sl_nI h31, fz_bd_e, if_pos c, nI_1]; rfl
      · rw [if_pos (by rw [nI_eq h31 (by omega)]; exact c), fz_gd_t hin, fz_sl_nI h31, fz_bd_e, if_neg c, nI_1]; rfl
  · rintro ⟨x, M0⟩ ⟨e1, e2, e5⟩
    dsimp only at e1 e2 e5
    subst e1
    obtain ⟨M', q1, q2⟩ := mDn_e (p := p) (h0 := h0) (h := h) (n := n) (B := B) (M := M0) v5 hp hh hl hn (mT_fr hT (by rw [e2]) (by rw [e2]) (by rw [e2]) fun c _ _ _ => by rw [e2]) hw hf (fun i hi => by rw [e2]; exact hB i hi) e5
    refine ⟨M', q2.trans e2, fun kk => ?_⟩
    show f_X9_drawn_41_s kk (nI p) (nI lv) (nI n) (nI h) v5 (nI 6) M0 = _
    unfold f_X9_drawn_41_s
    rw [if_pos (show (6 : Int32) ≤ nI 6 from by decide)]
    exact q1
theorem p_drawn (a w v h v5 : Int32) : fz_pW Rel (f_X8_drawn a w v h v5) (f_X9_drawn a w v h v5) := by
  intro MC MM hR
  have hR1 := hR.thrown
  have hR2 := hR1
  generalize hM1 : fz_w MM 0 0 0 = M1 at hR1 hR2
  obtain ⟨P, T, S, sp, B, h1, ⟨hT, hM, hw⟩, h3, h4, -⟩ := hR2
  have hn2 := hw.2.2.1
  have hn0 := hw.1
  rcases x_rng a (n := T 0 2) (by omega) with ⟨i, hi, rfl⟩ | hx
  · have hin : fz_in (nI i) 6 = true := fz_in_nI (by omega) (by decide)
    have h31 : i < 2 ^ 31 := by omega
    rcases x_rng h (n := T 0 0) (by omega) with ⟨g, hg, rfl⟩ | hxh
    · by_cases hl : 0 ≤ w ∧ w ≤ 19
      · by_cases hv : 1 ≤ v ∧ v ≤ 9
        · have t1 := level_t MC hl
          have t2 := hours_t MC hv
          have t3 := noFl_t M1 ⟨hl, hv⟩
          obtain ⟨lv, hlv, rfl⟩ := lev_e hl
          obtain ⟨n, hn1, hn, rfl⟩ := hrs_e hv
          have s0 := (h3.2.2 i hi).1
          have e41 : MC.1 (40 + 1) i = nI (S 0 i) := (h3.1.2 i hi).1
          have m11 : M1.1 11 i = nI (S 0 i) := (h3.2.1.2 i hi).1
          obtain ⟨y, z, hs⟩ := spr_ex h1.2.2
          obtain ⟨C1, a1, a2, a3, a4⟩ := sBeg_e (h := S 0 i) (by omega) MC hs
          obtain ⟨C2, b1, b2, b3, b4⟩ := cDn_e (P := P) (p := i) (h0 := S 0 i) (h := g) (n := n) (B := B) (M := C1) v5 hi (by omega) hlv hn (by rw [a3]; exact h1.1) (isP_ok h1) (cT_fr hT fun o _ => by rw [a2]) hw rfl (fun j hj => by rw [a2]; exact ⟨(h4 j hj).1, (h4 j hj).2.2⟩) ⟨y, z, spr_fr hs a3, fun k hk => by
            rw [a4 k hk]
            show (if k = S 0 i then (1 : Int64) else 0) = lN (if k = S 0 i then 1 else 0)
            split <;> rfl⟩
          obtain ⟨L1, l1, l2⟩ := mDb_e (p := i) (h0 := S 0 i) (h := g) (n := n) (B := B) (M := M1) v5 hi (by omega) (by omega) hlv hn hM hw rfl m11 (fun j hj => ⟨(h4 j hj).2.1, (h4 j hj).2.2⟩)
          refine ⟨drA v5 (dW T (dX T B (T 8 i) lv) (S 0 i) n g) n, C2, L1, ?_, ?_, hR1.off (fun Q _ => cOff_spr (b2.trans a2) (b3.trans (by rw [a3]))) (fun _ => b4) (mOff_e l2)⟩
          · unfold f_X8_drawn
            rw [piece_t h1 hT hw hi, fz_b1_e, if_neg (by decide), house_t h1 hT hw hg, fz_b1_e, if_pos (by decide), t1, fz_b1_e, if_neg (by decide), t2, fz_b1_e, if_pos (by decide), fz_gd_t hin, fz_g_nI h31, e41, a1, fz_b1_e]
            exact b1
          · unfold f_X9_drawn
            rw [fz_sf_e, fz_bd_e, hM1, nopiece_t hM hw hi, fz_b1_e, if_neg (by decide), nohouse_t hM hw hg, fz_b1_e, if_pos rfl, t3, fz_b1_e, if_pos rfl]
            exact l1
        · refine ⟨-2, MC, M1, ?_, ?_, hR1⟩
          · unfold f_X8_drawn
            rw [piece_t h1 hT hw hi, fz_b1_e, if_neg (by decide), house_t h1 hT hw hg, fz_b1_e, if_pos (by decide), level_t MC hl, fz_b1_e, if_neg (by decide), hours_f MC hv, fz_b1_e, if_neg (by decide)]
            rfl
          · unfold f_X9_drawn
            rw [fz_sf_e, fz_bd_e, hM1, nopiece_t hM hw hi, fz_b1_e, if_neg (by decide), nohouse_t hM hw hg, fz_b1_e, if_pos rfl, noFl_f M1 (fun q => hv q.2), fz_b1_e, if_neg (by decide)]
      · refine ⟨-2, MC, M1, ?_, ?_, hR1⟩
        · unfold f_X8_drawn
          rw [piece_t h1 hT hw hi, fz_b1_e, if_neg (by decide), house_t h1 hT hw hg, fz_b1_e, if_pos (by decide), level_f MC hl, fz_b1_e, if_pos rfl]
          rfl
        · unfold f_X9_drawn
          rw [fz_sf_e, fz_bd_e, hM1, nopiece_t hM hw hi, fz_b1_e, if_neg (by decide), nohouse_t hM hw hg, fz_b1_e, if_pos rfl, noFl_f M1 (fun q => hl q.1), fz_b1_e, if_neg (by decide)]
    · refine ⟨-1, MC, M1, ?_, ?_, hR1⟩
      · unfold f_X8_drawn
        rw [piece_t h1 hT hw hi, fz_b1_e, if_neg (by decide), house_f h1 hT hw hxh, fz_b1_e, if_neg (by decide)]
        rfl
      · unfold f_X9_drawn
        rw [fz_sf_e, fz_bd_e, hM1, nopiece_t hM hw hi, fz_b1_e, if_neg (by decide), nohouse_f hM hw hxh, fz_b1_e, if_neg (by decide)]
        rfl
  · refine ⟨-1, MC, M1, ?_, ?_, hR1⟩
    · unfold f_X8_drawn
      rw [piece_f h1 hT hw hx, fz_b1_e, if_pos rfl]
      rfl
    · unfold f_X9_drawn
      rw [fz_sf_e, fz_bd_e, hM1, nopiece_f hM hw hx, fz_b1_e, if_pos (by decide)]
      rfl
