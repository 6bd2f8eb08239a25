/-! goesFrom, toShut -/
theorem p_goesFrom (a : Int32) : fz_pW Rel (f_X8_goesFrom a) (f_X9_goesFrom a) := by
  intro MC MM hR
  have hR1 := hR.thrown
  have hR2 := hR1
  generalize hM1 : fz_w MM 0 0 0 = M1 at hR1 hR2
  obtain ⟨P, T, S, sp, B, h1, ⟨hT, hM, hw⟩, h3, h4, -⟩ := hR2
  have hP := rTop_P h1
  have hn2 := hw.2.2.1
  have hn0 := hw.1
  rcases x_rng a (n := T 0 2) (by omega) with ⟨i, hi, rfl⟩ | hx
  · have hin : fz_in (nI i) 6 = true := fz_in_nI (by omega) (by decide)
    have h31 : i < 2 ^ 31 := by omega
    obtain ⟨s1, s2, -⟩ := h3.2.2 i hi
    obtain ⟨g1, g2, -⟩ := h3.2.1.2 i hi
    obtain ⟨-, -, t10⟩ := hM.2.2.2.2.2 i hi
    have u8 := (hw.2.2.2.2.2.1 i hi).2.2.2
    obtain ⟨C1, a1, a2, a3, a4⟩ := cTry_e (B := B) (X := opn B) (e := -9) (eqC_r MC) hP hT hw h3.1 (opn_c h4 hw)
    have hT1 := eqC_T a2 hP hT
    have hP1 : C1.2.2 0 9 = P := by rw [a2.1]; exact h1.1
    have e41 : C1.1 (40 + 1) i = nI (S 0 i) := by rw [a2.2 41 (by decide)]; exact (h3.1.2 i hi).1
    have s31 : S 0 i < 2 ^ 31 := by omega
    have hin2 : fz_in (nI (S 0 i)) 6 = true := fz_in_nI (by omega) (by decide)
    have e13 := a4 (S 0 i) s1
    have hst := mStg_e (X := opn B) (h := S 0 i) (M := M1) s31 hM hw (opn_m h4 hw)
    cases e0 : stg T (opn B) (S 0 i) (T 0 1) with
    | none =>
      rw [e0] at e13 hst
      refine ⟨-9, C1, M1, ?_, ?_, hR1.eq a2 (eqM_r M1)⟩
      · simp (decide := true) only [f_X8_goesFrom, piece_t h1 hT hw hi, fz_b1_e, fz_bd_e, fz_d_e, h1.1, fz_gd_t (isP_ok h1), a1, fz_gd_t hin, fz_g_nI h31, e41, fz_gd_t hin2, fz_g_nI s31, e13, enc, ↓reduceIte]
      · have t : f_X9_goesFrom_17 (nI i) 0 M1 = some (-9, M1) := by
          unfold f_X9_goesFrom_17
          refine lp_run (F := fun ag z => f_X9_goesFrom_17_s ag (nI i) z M1) (fun k => nI k) 0 _ (fun k hk _ => absurd hk (Nat.not_lt_zero k)) (fun kk => ?_) (by decide)
          show f_X9_goesFrom_17_s kk (nI i) (nI 0) M1 = _
          simp (decide := true) only [f_X9_goesFrom_17_s, show ¬ (20 : Int32) ≤ nI 0 from by decide, fz_gd_t hin, fz_g_nI h31, g1, hst, fz_b1_e, enc, ↓reduceIte]
        simp (decide := true) only [f_X9_goesFrom, fz_sf_e, hM1, fz_bd_e, nopiece_t hM hw hi, fz_b1_e, t, ↓reduceIte]
    | some s =>
      rw [e0] at e13 hst
      obtain ⟨o1, -⟩ := stg_lt e0
      have hn1 := hw.2.1
      have k9 : ¬ nI s = -9 := nI_neg (by omega)
      have hwH : wH T ((fun c q => if c = 2 then 0 else S c q, 0, 0) : hZ) := ⟨(wS_A h3.2.2 : ∀ p, p < T 0 2 → S 0 p < T 0 0 ∧ S 1 p ≤ 9), fun _ _ => Nat.zero_le _⟩
      generalize hz : ((fun c q => if c = 2 then 0 else S c q, 0, 0) : hZ) = z at hwH
      have z0 : z.1 0 i = S 0 i := by rw [← hz]; rfl
      have z1 : z.1 1 i = S 1 i := by rw [← hz]; rfl
      have hrep : ∀ p, p < T 0 2 → C1.1 11 p = nI (z.1 0 p) ∧ C1.1 12 p = nI (z.1 1 p) := fun p hp => by rw [← hz]; exact a3 p hp
      have kC : f_X8_goesFrom_54 (nI i) 0 C1 = some (dwF (fun lv => hLo T lv i z) 20 0, C1) := by
        unfold f_X8_goesFrom_54
        refine lp_inv (F := fun ag y => f_X8_goesFrom_54_s ag (nI i) y C1) (fun k (y : Int32) => y = nI k ∧ dwF (fun lv => hLo T lv i z) 20 0 = dwF (fun lv => hLo T lv i z) (20 - k) k) (fun r => r = some (dwF (fun lv => hLo T lv i z) 20 0, C1)) 20 ?_ ?_ (by decide) ⟨rfl, rfl⟩
        · rintro k y hk ⟨rfl, e3⟩
          have hlt : ¬ (19 : Int32) < nI k := show ¬ nI 19 < nI k from nI_nlt (by omega) (by omega)
          have hlo := loo_e (P := P) (lv := k) hi (by omega) hT1 hw hrep hwH
          by_cases c : hLo T k i z = true
          · rw [if_pos c] at hlo
            refine Or.inr ⟨_, by rw [e3, dwF_t (f := fun lv => hLo T lv i z) hk c], fun kk => ?_⟩
            simp (decide := true) only [f_X8_goesFrom_54_s, hlt, fz_bd_e, fz_d_e, hP1, fz_gd_t (isP_ok h1), hlo, fz_b1_e, ↓reduceIte]
          · rw [if_neg c] at hlo
            refine Or.inl ⟨nI (k + 1), ⟨rfl, e3.trans (dwF_f (f := fun lv => hLo T lv i z) hk c)⟩, fun kk => ?_⟩
            simp (decide := true) only [f_X8_goesFrom_54_s, hlt, fz_bd_e, fz_d_e, hP1, fz_gd_t (isP_ok h1), hlo, fz_b1_e, nI_1, ↓reduceIte]
        · rintro y ⟨rfl, e3⟩
          refine ⟨_, by rw [e3], fun kk => ?_⟩
          simp only [f_X8_goesFrom_54_s, show (19 : Int32) < nI 20 from by decide, ↓reduceIte]
          rfl
      have kM : f_X9_goesFrom_17 (nI i) 0 M1 = some (dwF (fun lv => hLo T lv i z) 20 0, M1) := by
        unfold f_X9_goesFrom_17
        refine lp_inv (F := fun ag y => f_X9_goesFrom_17_s ag (nI i) y M1) (fun k (y : Int32) => y = nI k ∧ dwF (fun lv => hLo T lv i z) 20 0 = dwF (fun lv => hLo T lv i z) (20 - k) k) (fun r => r = some (dwF (fun lv => hLo T lv i z) 20 0, M1)) 20 ?_ ?_ (by decide) ⟨rfl, rfl⟩
        · rintro k y hk ⟨rfl, e3⟩
          have hlt : ¬ (20 : Int32) ≤ nI k := show ¬ nI 20 ≤ nI k from nI_ge hk (by decide)
          have hde := depth_e (lv := k) hM hw s1 (by omega)
          have k1 : (nI (k - T 1 (S 0 i)) < nI (T 8 i)) = (k - T 1 (S 0 i) < T 8 i) := propext (nI_ltI (by omega) (by omega))
          have k2 : (nI (k - T 1 (S 0 i)) ≤ nI (S 1 i)) = (k - T 1 (S 0 i) ≤ S 1 i) := propext (nI_leI (by omega) (by omega))
          have k3 : (nI (S 1 i) = 0) = (S 1 i = 0) := propext (nI_eq (b := 0) (by omega) (by decide))
          by_cases c : hLo T k i z = true
          · have c' := hLo_t c
            rw [z0, z1] at c'
            refine Or.inr ⟨_, by rw [e3, dwF_t (f := fun lv => hLo T lv i z) hk c], fun kk => ?_⟩
            have d1 : ¬ k - T 1 (S 0 i) < T 8 i := by omega
            have d2 : ¬ k - T 1 (S 0 i) ≤ S 1 i := by omega
            simp (decide := true) only [f_X9_goesFrom_17_s, hlt, fz_gd_t hin, fz_g_nI h31, g1, hst, fz_b1_e, enc, k9, hde, t10, k1, d1, g2, k2, k3, d2, ↓reduceIte]
            split <;> rfl
          · have c' := hLo_f c
            rw [z0, z1] at c'
            refine Or.inl ⟨nI (k + 1), ⟨rfl, e3.trans (dwF_f (f := fun lv => hLo T lv i z) hk c)⟩, fun kk => ?_⟩
            by_cases d1 : k - T 1 (S 0 i) < T 8 i
            · simp (decide := true) only [f_X9_goesFrom_17_s, hlt, fz_gd_t hin, fz_g_nI h31, g1, hst, fz_b1_e, enc, k9, hde, t10, k1, d1, nI_1, ↓reduceIte]
            · have d2 : k - T 1 (S 0 i) ≤ S 1 i := by omega
              have d3 : ¬ S 1 i = 0 := by omega
              simp (decide := true) only [f_X9_goesFrom_17_s, hlt, fz_gd_t hin, fz_g_nI h31, g1, hst, fz_b1_e, enc, k9, hde, t10, k1, d1, g2, k2, k3, d2, d3, nI_1, ↓reduceIte]
        · rintro y ⟨rfl, e3⟩
          refine ⟨_, by rw [e3], fun kk => ?_⟩
          simp only [f_X9_goesFrom_17_s, show (20 : Int32) ≤ nI 20 from by decide, ↓reduceIte]
          rfl
      refine ⟨dwF (fun lv => hLo T lv i z) 20 0, C1, M1, ?_, ?_, hR1.eq a2 (eqM_r M1)⟩
      · simp (decide := true) only [f_X8_goesFrom, piece_t h1 hT hw hi, fz_b1_e, fz_bd_e, fz_d_e, h1.1, fz_gd_t (isP_ok h1), a1, fz_gd_t hin, fz_g_nI h31, e41, fz_gd_t hin2, fz_g_nI s31, e13, enc, k9, kC, ↓reduceIte, not_false_eq_true]
      · simp (decide := true) only [f_X9_goesFrom, fz_sf_e, hM1, fz_bd_e, nopiece_t hM hw hi, fz_b1_e, kM, ↓reduceIte]
  · exact ⟨-1, MC, M1, by simp (decide := true) only [f_X8_goesFrom, piece_f h1 hT hw hx, fz_b1_e, ↓reduceIte], by simp (decide := true) only [f_X9_goesFrom, fz_sf_e, hM1, nopiece_f hM hw hx, fz_b1_e, fz_bd_e, ↓reduceIte], hR1⟩
def opx (B : Nat → Nat) (s j : Nat) : Bool := decide (¬ j = s ∧ B j = 0)
def tsS (w0 : Nat) (wX : Nat → Nat) : Nat → Nat × Int32
  | 0 => (w0, -9)
  | s + 1 => if wX s ≤ (tsS w0 wX s).1 then tsS w0 wX s else (wX s, nI s)
theorem tsS_le {w0 : Nat} {wX : Nat → Nat} : ∀ s, w0 ≤ (tsS w0 wX s).1
  | 0 => Nat.le_refl _
  | s + 1 => by
    have := tsS_le (w0 := w0) (wX := wX) s
    simp only [tsS]
    split
    · exact this
    · dsimp only; omega
theorem tsS_b {w0 b : Nat} {wX : Nat → Nat} (h0 : w0 ≤ b) (h : ∀ s, wX s ≤ b) : ∀ s, (tsS w0 wX s).1 ≤ b
  | 0 => h0
  | s + 1 => by
    simp only [tsS]
    split
    · exact tsS_b h0 h s
    · exact h s
theorem wSu_b {f w : Nat → Nat} {h : Nat} : ∀ n, (∀ p, p < n → w p ≤ 9) → wSu f w h n ≤ 9 * n
  | 0, _ => Nat.le_refl _
  | n + 1, k => by
    have a := wSu_b (f := f) (w := w) (h := h) n (fun p hp => k p (by omega))
    have b := k n (Nat.lt_succ_self n)
    simp only [wSu]
    split <;> omega
theorem opx_e {B : Nat → Nat} {s : Nat} (h : ¬ B s = 0) : opx B s = opn B := by
  funext j
  unfold opx opn
  by_cases c : j = s
  · subst c; simp [h]
  · simp [c]
theorem mW_e {lv n h : Nat} {T S : fz_A2} {sp : Int32} {X : Nat → Bool} {M M0 : fz_M} (hE : eqM M M0) (hl : lv ≤ 19) (hn : n ≤ 9) (hh : h < 2 ^ 31) (hT : mT T M) (hw : wT T) (h3 : mL (T 0 2) S sp M) (hS : wS T S) (hX : ∀ s, s < T 0 1 → (M.1 7 s = 0 ↔ X s = true)) : ∃ M', f_X9_widthIn (nI h) (nI lv) (nI n) M0 = some (nI (wSu (hIter T X lv S n 0) (T 7) h (T 0 2)), M') ∧ eqM M M' := by
  have hn2 := hw.2.2.1
  have hn0 := hw.1
  obtain ⟨L1, a1, a2, a3, -⟩ := mTry_e hE hT hw h3
  obtain ⟨L2, b1, b2, b3, -⟩ := mGo_e (A := S) (X := X) a2 hl hn hT hw a3 (wS_A hS) hX
  refine ⟨L2, ?_, b2⟩
  unfold f_X9_widthIn
  rw [a1, fz_b1_e, b1, fz_b1_e]
  unfold f_X9_widthIn_16
  refine lp_run (fun i => (nI (wSu (hIter T X lv S n 0) (T 7) h i), nI i)) (T 0 2) _ (fun i hi kk => ?_) (fun kk => ?_) (by unfold fz_fuel; omega)
  · have hin : fz_in (nI i) 6 = true := fz_in_nI (by omega) (by decide)
    have h31 : i < 2 ^ 31 := by omega
    have hlt : ¬ nI (T 0 2) ≤ nI i := nI_ge hi (by omega)
    have c1 : L2.1 0 6 = nI (T 0 2) := (eqM_T b2 hT).2.2.1
    have c9 : L2.1 9 i = nI (T 7 i) := ((eqM_T b2 hT).2.2.2.2.2 i hi).2.1
    have wi := (wIter (X := X) (lv := lv) hw (wS_A hS) n i hi).1
    have k1 : (nI (hIter T X lv S n 0 i) = nI h) = (hIter T X lv S n 0 i = h) := propext (nI_eq (by omega) hh)
    show f_X9_widthIn_16_s kk (nI h) (nI (wSu (hIter T X lv S n 0) (T 7) h i)) (nI i) L2 = _
    simp only [f_X9_widthIn_16_s, f_X9_widthIn_49, fz_f_e, c1, hlt, fz_gd_t hin, fz_g_nI h31, b3 i hi, k1, c9, fz_bd_e, nI_add, nI_1, wSu, Int32.add_zero, ↓reduceIte]
    by_cases c : hIter T X lv S n 0 i = h <;> simp only [c, ↓reduceIte, not_true_eq_false, not_false_eq_true]
  · have c1 : L2.1 0 6 = nI (T 0 2) := (eqM_T b2 hT).2.2.1
    show f_X9_widthIn_16_s kk (nI h) (nI (wSu (hIter T X lv S n 0) (T 7) h (T 0 2))) (nI (T 0 2)) L2 = _
    simp only [f_X9_widthIn_16_s, fz_f_e, c1, show nI (T 0 2) ≤ nI (T 0 2) from nI_le (Nat.le_refl _) (by omega), ↓reduceIte]
theorem p_toShut (a w v : Int32) : fz_pW Rel (f_X8_toShut a w v) (f_X9_toShut a w v) := by
  intro MC MM hR
  have hR1 := hR.thrown
  have hR2 := hR1
  generalize hM1 : fz_w MM 0 0 0 = M1 at hR1 hR2
  obtain ⟨P, T, S, sp, B, h1, ⟨hT, hM, hw⟩, h3, h4, -⟩ := hR2
  have hP := rTop_P h1
  have hn2 := hw.2.2.1
  have hn1' := hw.2.1
  have hn0 := hw.1
  rcases x_rng a (n := T 0 0) (by omega) with ⟨h, hh, rfl⟩ | hx
  · have hh31 : h < 2 ^ 31 := by omega
    by_cases hl : 0 ≤ w ∧ w ≤ 19
    · by_cases hv : 1 ≤ v ∧ v ≤ 9
      · have t1 := level_t MC hl
        have t2 := hours_t MC hv
        have t3 := noFl_t M1 ⟨hl, hv⟩
        obtain ⟨lv, hlv, rfl⟩ := lev_e hl
        obtain ⟨n, hn1, hn, rfl⟩ := hrs_e hv
        obtain ⟨w0, hw0⟩ : ∃ w0, w0 = wSu (hIter T (opn B) lv S n 0) (T 7) h (T 0 2) := ⟨_, rfl⟩
        obtain ⟨wX, hwX⟩ : ∃ wX : Nat → Nat, wX = fun s => wSu (hIter T (opx B s) lv S n 0) (T 7) h (T 0 2) := ⟨_, rfl⟩
        have sT7 : ∀ p, p < T 0 2 → T 7 p ≤ 9 := fun p hp => (hw.2.2.2.2.2.1 p hp).2.2.1
        have b0 : w0 ≤ 54 := by have := wSu_b (f := hIter T (opn B) lv S n 0) (w := T 7) (h := h) (T 0 2) sT7; omega
        have bX : ∀ s, wX s ≤ 54 := fun s => by have := wSu_b (f := hIter T (opx B s) lv S n 0) (w := T 7) (h := h) (T 0 2) sT7; rw [hwX]; dsimp only; omega
        -- the class
        obtain ⟨C1, a1, a2, a3, a4⟩ := cTry_e (B := B) (X := opn B) (e := -9) (eqC_r MC) hP hT hw h3.1 (opn_c h4 hw)
        obtain ⟨C2, b1, b2, b3⟩ := cGo_e (A := S) (X := opn B) a2 hP hlv hn hT hw a3 (wS_A h3.2.2) a4
        have hP1 : C1.2.2 0 9 = P := by rw [a2.1]; exact h1.1
        have wd : f_X8_widthOf 11 (nI h) C2 = some (nI w0) := by
          rw [hw0]
          exact wid_e (eqC_top b2 h1) (eqC_T b2 hP hT) hn2 (fun p hp => ⟨b3 p hp, by have := (wIter (X := opn B) (lv := lv) hw (wS_A h3.2.2) n p hp).1; omega⟩) hh31
        have kC : ∃ C, f_X8_toShut_78 (nI h) (nI lv) (nI n) (nI w0) (-9) 0 C2 = some ((tsS w0 wX (T 0 1)).2, C) ∧ eqC MC C := by
          unfold f_X8_toShut_78
          refine lp_gen (K := fun C => some ((tsS w0 wX (T 0 1)).2, C)) (fun k (s : Int32 × Int32 × Int32 × fz_M) => s.1 = nI (tsS w0 wX k).1 ∧ s.2.1 = (tsS w0 wX k).2 ∧ s.2.2.1 = nI k ∧ eqC MC s.2.2.2) (T 0 1) ?_ ?_ (by unfold fz_fuel; omega) ⟨rfl, rfl, rfl, b2⟩
          · rintro k ⟨x1, x2, x3, M0⟩ hk ⟨rfl, rfl, rfl, e2⟩
            dsimp only at e2
            have hlt : ¬ nI (T 0 1) ≤ nI k := nI_ge hk (by omega)
            have hq1 := (eqC_top e2 h1).1
            have hq2 := (eqC_T e2 hP hT).2.1
            obtain ⟨D1, d1, d2, d3, d4⟩ := cTry_e (B := B) (X := opx B k) (e := nI k) e2 hP hT hw h3.1 (fun s hs => by
              obtain ⟨y1, y2, y3⟩ := h4 s (by omega)
              unfold opx
              rw [decide_eq_true_eq, y1, n_0, nI_eq (a := B s) (b := 0) (by omega) (by decide), nI_eq (a := s) (b := k) (by omega) (by omega)])
            obtain ⟨D2, f1, f2, f3⟩ := cGo_e (A := S) (X := opx B k) d2 hP hlv hn hT hw d3 (wS_A h3.2.2) d4
            have hPD : D1.2.2 0 9 = P := by rw [d2.1]; exact h1.1
            have wd2 : f_X8_widthOf 11 (nI h) D2 = some (nI (wX k)) := by
              rw [hwX]
              exact wid_e (eqC_top f2 h1) (eqC_T f2 hP hT) hn2 (fun p hp => ⟨f3 p hp, by have := (wIter (X := opx B k) (lv := lv) hw (wS_A h3.2.2) n p hp).1; omega⟩) hh31
            have bk := bX k
            have bt := tsS_b b0 bX k
            have kle : (nI (wX k) ≤ nI (tsS w0 wX k).1) = (wX k ≤ (tsS w0 wX k).1) := propext (nI_leI (by omega) (by omega))
            by_cases c : wX k ≤ (tsS w0 wX k).1
            · refine Or.inl ⟨(nI (tsS w0 wX k).1, (tsS w0 wX k).2, nI (k + 1), D2), ⟨by simp only [tsS, if_pos c], by simp only [tsS, if_pos c], rfl, f2⟩, fun kk => ?_⟩
              show f_X8_toShut_78_s kk (nI h) (nI lv) (nI n) (nI (tsS w0 wX k).1) (tsS w0 wX k).2 (nI k) M0 = _
              simp only [f_X8_toShut_78_s, fz_bd_e, fz_d_e, hq1, fz_gd_t (isP_ok h1), fz_f_e, hq2, hlt, d1, fz_b1_e, hPD, f1, wd2, kle, c, nI_1, ↓reduceIte]
            · refine Or.inl ⟨(nI (wX k), nI k, nI (k + 1), D2), ⟨by simp only [tsS, if_neg c], by simp only [tsS, if_neg c], rfl, f2⟩, fun kk => ?_⟩
              show f_X8_toShut_78_s kk (nI h) (nI lv) (nI n) (nI (tsS w0 wX k).1) (tsS w0 wX k).2 (nI k) M0 = _
              simp only [f_X8_toShut_78_s, fz_bd_e, fz_d_e, hq1, fz_gd_t (isP_ok h1), fz_f_e, hq2, hlt, d1, fz_b1_e, hPD, f1, wd2, kle, c, nI_1, ↓reduceIte]
          · rintro ⟨x1, x2, x3, M0⟩ ⟨rfl, rfl, rfl, e2⟩
            dsimp only at e2
            have hq1 := (eqC_top e2 h1).1
            have hq2 := (eqC_T e2 hP hT).2.1
            refine ⟨M0, e2, fun kk => ?_⟩
            show f_X8_toShut_78_s kk (nI h) (nI lv) (nI n) (nI (tsS w0 wX (T 0 1)).1) (tsS w0 wX (T 0 1)).2 (nI (T 0 1)) M0 = _
            simp only [f_X8_toShut_78_s, fz_bd_e, fz_d_e, hq1, fz_gd_t (isP_ok h1), fz_f_e, hq2, show nI (T 0 1) ≤ nI (T 0 1) from nI_le (Nat.le_refl _) (by omega), ↓reduceIte]
        -- the model
        obtain ⟨L2, l1, l2⟩ := mW_e (h := h) (X := opn B) (eqM_r M1) hlv hn hh31 hM hw h3.2.1 h3.2.2 (opn_m h4 hw)
        rw [← hw0] at l1
        have kM : ∃ L, f_X9_toShut_42 (nI h) (nI lv) (nI n) (nI w0) (-9) 0 L2 = some ((tsS w0 wX (T 0 1)).2, L) ∧ eqM M1 L := by
          unfold f_X9_toShut_42
          refine lp_gen (K := fun C => some ((tsS w0 wX (T 0 1)).2, C)) (fun k (s : Int32 × Int32 × Int32 × fz_M) => s.1 = nI (tsS w0 wX k).1 ∧ s.2.1 = (tsS w0 wX k).2 ∧ s.2.2.1 = nI k ∧ eqM M1 s.2.2.2) (T 0 1) ?_ ?_ (by unfold fz_fuel; omega) ⟨rfl, rfl, rfl, l2⟩
          · rintro k ⟨x1, x2, x3, M0⟩ hk ⟨rfl, rfl, rfl, e2⟩
            dsimp only at e2
            have hlt : ¬ nI (T 0 1) ≤ nI k := nI_ge hk (by omega)
            have hq2 := (eqM_T e2 hM).2.1
            have hin : fz_in (nI k) 10 = true := fz_in_nI (by omega) (by decide)
            have k31 : k < 2 ^ 31 := by omega
            obtain ⟨y1, y2, y3⟩ := h4 k (by omega)
            have m7 : M0.1 7 k = nI (B k) := by rw [e2.1 7 (by decide) (by decide)]; exact y2
            have bk := bX k
            have bt := tsS_b b0 bX k
            by_cases cB : B k = 0
            · have m7' : M0.1 7 k = 0 := by rw [m7, cB]; rfl
              have e2' : eqM (fz_w M1 7 k 1) (fz_w M0 7 k 1) := ⟨fun d x y => by
                by_cases d7 : d = 7
                · subst d7; funext j
                  by_cases cj : j = k
                  · subst cj; rw [w_at, w_at]
                  · rw [w_nj cj, w_nj cj, e2.1 7 x y]
                · rw [w_ne d7, w_ne d7]; exact e2.1 d x y, fun j x y => by rw [w_ne (by decide), w_ne (by decide)]; exact e2.2 j x y⟩
              obtain ⟨D2, d1, d2⟩ := mW_e (h := h) (X := opx B k) e2' hlv hn hh31 (mT_fr hM (by rw [w_ne (by decide)]) (by rw [w_ne (by decide)]) (by rw [w_ne (by decide)]) fun c x y z => w_ne z) hw (mL_fr h3.2.1 (by rw [w_ne (by decide)]) fun c x y => w_ne (by omega)) h3.2.2 (fun s hs => by
                unfold opx
                rw [decide_eq_true_eq]
                by_cases cs : s = k
                · subst cs; rw [w_at]; exact ⟨fun q => absurd q (by decide), fun q => absurd rfl q.1⟩
                · obtain ⟨y1, y2, y3⟩ := h4 s (by omega)
                  rw [w_nj cs, y2, n_0, nI_eq (by omega) (by decide)]
                  exact ⟨fun q => ⟨cs, q⟩, fun q => q.2⟩)
              have d1' : f_X9_widthIn (nI h) (nI lv) (nI n) (fz_w M0 7 k 1) = some (nI (wX k), D2) := by rw [hwX]; exact d1
              have e3 : eqM M1 (fz_w D2 7 k 0) := ⟨fun d x y => by
                by_cases d7 : d = 7
                · subst d7; funext j
                  by_cases cj : j = k
                  · subst cj; rw [w_at, y2, cB]; rfl
                  · rw [w_nj cj, d2.1 7 x y, w_nj cj]
                · rw [w_ne d7, d2.1 d x y, w_ne d7], fun j x y => by rw [w_ne (by decide), d2.2 j x y, w_ne (by decide)]⟩
              have kle : (nI (wX k) ≤ nI (tsS w0 wX k).1) = (wX k ≤ (tsS w0 wX k).1) := propext (nI_leI (by omega) (by omega))
              by_cases c : wX k ≤ (tsS w0 wX k).1
              · refine Or.inl ⟨(nI (tsS w0 wX k).1, (tsS w0 wX k).2, nI (k + 1), fz_w D2 7 k 0), ⟨by simp only [tsS, if_pos c], by simp only [tsS, if_pos c], rfl, e3⟩, fun kk => ?_⟩
                show f_X9_toShut_42_s kk (nI h) (nI lv) (nI n) (nI (tsS w0 wX k).1) (tsS w0 wX k).2 (nI k) M0 = _
                simp only [f_X9_toShut_42_s, f_X9_toShut_100, f_X9_toShut_116, fz_f_e, hq2, hlt, fz_gd_t hin, fz_g_nI k31, m7', fz_s_nI k31, show fz_z 1 = 1 from rfl, show fz_z 0 = 0 from rfl, fz_bd_e, d1', fz_b2_e, kle, c, nI_1, ↓reduceIte, not_true_eq_false]
              · refine Or.inl ⟨(nI (wX k), nI k, nI (k + 1), fz_w D2 7 k 0), ⟨by simp only [tsS, if_neg c], by simp only [tsS, if_neg c], rfl, e3⟩, fun kk => ?_⟩
                show f_X9_toShut_42_s kk (nI h) (nI lv) (nI n) (nI (tsS w0 wX k).1) (tsS w0 wX k).2 (nI k) M0 = _
                simp only [f_X9_toShut_42_s, f_X9_toShut_100, f_X9_toShut_116, fz_f_e, hq2, hlt, fz_gd_t hin, fz_g_nI k31, m7', fz_s_nI k31, show fz_z 1 = 1 from rfl, show fz_z 0 = 0 from rfl, fz_bd_e, d1', fz_b2_e, kle, c, nI_1, ↓reduceIte, not_true_eq_false]
            · have m7' : ¬ M0.1 7 k = 0 := by rw [m7, n_0, nI_eq (by omega) (by decide)]; exact cB
              have c : wX k ≤ (tsS w0 wX k).1 := by
                have : wX k = w0 := by rw [hwX, hw0]; dsimp only; rw [opx_e cB]
                rw [this]; exact tsS_le k
              refine Or.inl ⟨(nI (tsS w0 wX k).1, (tsS w0 wX k).2, nI (k + 1), M0), ⟨by simp only [tsS, if_pos c], by simp only [tsS, if_pos c], rfl, e2⟩, fun kk => ?_⟩
              show f_X9_toShut_42_s kk (nI h) (nI lv) (nI n) (nI (tsS w0 wX k).1) (tsS w0 wX k).2 (nI k) M0 = _
              simp only [f_X9_toShut_42_s, fz_f_e, hq2, hlt, fz_gd_t hin, fz_g_nI k31, m7', nI_1, ↓reduceIte, not_false_eq_true]
          · rintro ⟨x1, x2, x3, M0⟩ ⟨rfl, rfl, rfl, e2⟩
            dsimp only at e2
            have hq2 := (eqM_T e2 hM).2.1
            refine ⟨M0, e2, fun kk => ?_⟩
            show f_X9_toShut_42_s kk (nI h) (nI lv) (nI n) (nI (tsS w0 wX (T 0 1)).1) (tsS w0 wX (T 0 1)).2 (nI (T 0 1)) M0 = _
            simp only [f_X9_toShut_42_s, fz_f_e, hq2, show nI (T 0 1) ≤ nI (T 0 1) from nI_le (Nat.le_refl _) (by omega), ↓reduceIte]
        obtain ⟨C, c1, c2⟩ := kC
        obtain ⟨L, m1, m2⟩ := kM
        exact ⟨(tsS w0 wX (T 0 1)).2, C, L, by simp (decide := true) only [f_X8_toShut, house_t h1 hT hw hh, t1, t2, fz_b1_e, fz_bd_e, fz_d_e, h1.1, fz_gd_t (isP_ok h1), a1, hP1, b1, wd, c1, ↓reduceIte], by simp (decide := true) only [f_X9_toShut, fz_sf_e, hM1, fz_bd_e, nohouse_t hM hw hh, t3, fz_b1_e, l1, fz_b2_e, m1, ↓reduceIte], hR1.eq c2 m2⟩
      · exact ⟨-2, MC, M1, by simp (decide := true) only [f_X8_toShut, house_t h1 hT hw hh, level_t MC hl, hours_f MC hv, fz_b1_e, ↓reduceIte], by simp (decide := true) only [f_X9_toShut, fz_sf_e, hM1, nohouse_t hM hw hh, noFl_f M1 (fun q => hv q.2), fz_b1_e, fz_bd_e, ↓reduceIte], hR1⟩
    · exact ⟨-2, MC, M1, by simp (decide := true) only [f_X8_toShut, house_t h1 hT hw hh, level_f MC hl, fz_b1_e, ↓reduceIte], by simp (decide := true) only [f_X9_toShut, fz_sf_e, hM1, nohouse_t hM hw hh, noFl_f M1 (fun q => hl q.1), fz_b1_e, fz_bd_e, ↓reduceIte], hR1⟩
  · exact ⟨-1, MC, M1, by simp (decide := true) only [f_X8_toShut, house_f h1 hT hw hx, fz_b1_e, ↓reduceIte], by simp (decide := true) only [f_X9_toShut, fz_sf_e, hM1, nohouse_f hM hw hx, fz_b1_e, fz_bd_e, ↓reduceIte], hR1⟩
