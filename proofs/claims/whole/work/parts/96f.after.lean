/-! after, dowry, goesFrom -/
def eqC (M M0 : fz_M) : Prop := M0.2 = M.2 ∧ ∀ d, (d < 10 ∨ 14 < d) → M0.1 d = M.1 d
def eqM (M M0 : fz_M) : Prop := (∀ d, d ≠ 0 → (d < 29 ∨ 31 < d) → M0.1 d = M.1 d) ∧ ∀ j, j ≠ 42 → j ≠ 48 → M0.1 0 j = M.1 0 j
theorem eqC_t {M M0 M1 : fz_M} (h : eqC M M0) (k : eqC M0 M1) : eqC M M1 := ⟨k.1.trans h.1, fun d x => (k.2 d x).trans (h.2 d x)⟩
theorem eqM_t {M M0 M1 : fz_M} (h : eqM M M0) (k : eqM M0 M1) : eqM M M1 := ⟨fun d x y => (k.1 d x y).trans (h.1 d x y), fun j x y => (k.2 j x y).trans (h.2 j x y)⟩
theorem eqC_r (M : fz_M) : eqC M M := ⟨rfl, fun _ _ => rfl⟩
theorem eqM_r (M : fz_M) : eqM M M := ⟨fun _ _ _ => rfl, fun _ _ _ => rfl⟩
theorem eqC_T {P : Nat} {T : fz_A2} {M M0 : fz_M} (h : eqC M M0) (hP : P = 20 ∨ P = 30) (hT : cT P T M) : cT P T M0 := cT_fr hT fun o ho => h.2 _ (by omega)
theorem eqM_T {T : fz_A2} {M M0 : fz_M} (h : eqM M M0) (hT : mT T M) : mT T M0 := mT_fr hT (h.2 4 (by decide) (by decide)) (h.2 5 (by decide) (by decide)) (h.2 6 (by decide) (by decide)) fun c x y z => h.1 c (by omega) (by omega)
theorem eqC_top {P : Nat} {M M0 : fz_M} (h : eqC M M0) (hT : rTop P M) : rTop P M0 := rTop_fr hT (by rw [h.1])
theorem Rel.eq {MC MM MC' MM' : fz_M} (h : Rel MC MM) (hC : eqC MC MC') (hM : eqM MM MM') : Rel MC' MM' :=
  h.off (fun _ _ => cOff_trial hC.2 hC.1) (fun q => rSpr_fr q hC.1) ⟨fun c x y z => hM.1 c x (by omega), fun j x1 x2 x3 x4 x5 x6 x7 => hM.2 j x6 x7⟩
theorem noFl_t {w n : Int32} (M : fz_M) (h : (0 ≤ w ∧ w ≤ 19) ∧ 1 ≤ n ∧ n ≤ 9) : f_X9_noFlood w n M = some 0 := by
  simp (decide := true) only [f_X9_noFlood, in_019, in_19, h.1, h.2, and_self, fz_b1_e, ↓reduceIte]
theorem noFl_f {w n : Int32} (M : fz_M) (h : ¬ ((0 ≤ w ∧ w ≤ 19) ∧ 1 ≤ n ∧ n ≤ 9)) : f_X9_noFlood w n M = some 1 := by
  by_cases a : 0 ≤ w ∧ w ≤ 19
  · have b : ¬ (1 ≤ n ∧ n ≤ 9) := fun q => h ⟨a, q⟩
    simp (decide := true) only [f_X9_noFlood, in_019, in_19, a, b, and_self, fz_b1_e, ↓reduceIte]
  · simp (decide := true) only [f_X9_noFlood, in_019, in_19, a, fz_b1_e, ↓reduceIte]
/-- a trial begun and its memory in front of the hours -/
theorem cTry_e {P : Nat} {T S : fz_A2} {sp : Int32} {B : Nat → Nat} {X : Nat → Bool} {e : Int32} {M M0 : fz_M} (hE : eqC M M0) (hP : P = 20 ∨ P = 30) (hT : cT P T M) (hw : wT T) (h3 : cS 40 (T 0 2) S sp M) (hX : ∀ s, s < T 0 1 → (X s = true ↔ ¬ nI s = e ∧ M.1 52 s = 0)) : ∃ M', f_X7_begin P 40 e M0 = some M' ∧ eqC M M' ∧ (∀ p, p < T 0 2 → M'.1 11 p = nI (S 0 p) ∧ M'.1 12 p = nI (S 1 p)) ∧ ∀ h, h < T 0 0 → M'.1 13 h = enc (stg T X h (T 0 1)) := by
  obtain ⟨M', a1, a2, a3, a4, a5⟩ := beg_e (X := X) (e := e) (M := M0) hP (eqC_T hE hP hT) hw (fun s hs => by rw [hE.2 52 (by decide)]; exact hX s hs)
  refine ⟨M', a1, ⟨a2.trans hE.1, fun d x => (a3 d (by omega)).trans (hE.2 d x)⟩, fun p hp => ?_, a5⟩
  rw [(a4 p hp).1, (a4 p hp).2, hE.2 41 (by decide), hE.2 42 (by decide)]
  exact ⟨(h3.2 p hp).1, (h3.2 p hp).2.1⟩
theorem mTry_e {T S : fz_A2} {sp : Int32} {M M0 : fz_M} (hE : eqM M M0) (hT : mT T M) (hw : wT T) (h3 : mL (T 0 2) S sp M) : ∃ M', f_X9_begin M0 = some M' ∧ eqM M M' ∧ (∀ p, p < T 0 2 → M'.1 29 p = nI (S 0 p) ∧ M'.1 30 p = nI (S 1 p)) ∧ M'.1 0 = M0.1 0 := by
  obtain ⟨M', a1, a2, a3, a4⟩ := mBeg_e (M := M0) (eqM_T hE hT) hw
  refine ⟨M', a1, ⟨fun d x y => (a3 d (by omega)).trans (hE.1 d x y), fun j x y => by rw [a3 0 (by omega)]; exact hE.2 j x y⟩, fun p hp => ?_, a3 0 (by omega)⟩
  rw [(a4 p hp).1, (a4 p hp).2, hE.1 11 (by decide) (by decide), hE.1 12 (by decide) (by decide)]
  exact ⟨(h3.2 p hp).1, (h3.2 p hp).2.1⟩
theorem cGo_e {P lv n : Nat} {T A : fz_A2} {X : Nat → Bool} {M M0 : fz_M} (hE : eqC M M0) (hP : P = 20 ∨ P = 30) (hl : lv ≤ 19) (hn : n ≤ 9) (hT : cT P T M) (hw : wT T) (h : ∀ p, p < T 0 2 → M0.1 11 p = nI (A 0 p) ∧ M0.1 12 p = nI (A 1 p)) (hA : ∀ p, p < T 0 2 → A 0 p < T 0 0 ∧ A 1 p ≤ 9) (hS : ∀ h, h < T 0 0 → M0.1 13 h = enc (stg T X h (T 0 1))) : ∃ M', f_X7_passHours P (nI lv) (nI n) M0 = some M' ∧ eqC M M' ∧ ∀ p, p < T 0 2 → M'.1 11 p = nI (hIter T X lv A n 0 p) := by
  obtain ⟨M', a1, a2, a3, a4⟩ := cFl_e (X := X) (A := A) (M := M0) hP hl hn (eqC_T hE hP hT) hw h hA hS
  exact ⟨M', a1, ⟨a2.trans hE.1, fun d x => (a3 d (by omega) (by omega) (by omega) (by omega)).trans (hE.2 d x)⟩, a4⟩
theorem mGo_e {lv n : Nat} {T A : fz_A2} {X : Nat → Bool} {M M0 : fz_M} (hE : eqM M M0) (hl : lv ≤ 19) (hn : n ≤ 9) (hT : mT T M) (hw : wT T) (h : ∀ p, p < T 0 2 → M0.1 29 p = nI (A 0 p) ∧ M0.1 30 p = nI (A 1 p)) (hA : ∀ p, p < T 0 2 → A 0 p < T 0 0 ∧ A 1 p ≤ 9) (hX : ∀ s, s < T 0 1 → (M.1 7 s = 0 ↔ X s = true)) : ∃ M', f_X9_goHours (nI lv) (nI n) M0 = some M' ∧ eqM M M' ∧ (∀ p, p < T 0 2 → M'.1 29 p = nI (hIter T X lv A n 0 p)) ∧ M'.1 0 48 = M0.1 0 48 := by
  obtain ⟨M', a1, a2, a3, a5, a4⟩ := mFl_e (X := X) (A := A) (M := M0) hl hn (eqM_T hE hT) hw h hA (fun s hs => by rw [hE.1 7 (by decide) (by decide)]; exact hX s hs)
  exact ⟨M', a1, ⟨fun d x y => (a3 d x (by omega) (by omega) (by omega)).trans (hE.1 d x y), fun j x y => (a5 j x).trans (hE.2 j x y)⟩, a4, a5 48 (by decide)⟩
theorem p_after (a w v : Int32) : fz_pW Rel (f_X8_after a w v) (f_X9_after a w v) := by
  intro MC MM hR
  have hR1 := hR.thrown
  have hR2 := hR1
  generalize hM1 : fz_w MM 0 0 0 = M1 at hR1 hR2
  obtain ⟨P, T, S, sp, B, h1, ⟨hT, hM, hw⟩, h3, h4, -⟩ := hR2
  have hP := rTop_P h1
  have hn2 := hw.2.2.1
  rcases x_rng a (n := T 0 2) (by omega) with ⟨i, hi, rfl⟩ | hx
  · have hin : fz_in (nI i) 6 = true := fz_in_nI (by omega) (by decide)
    have h31 : i < 2 ^ 31 := by omega
    by_cases hl : 0 ≤ w ∧ w ≤ 19
    · by_cases hv : 1 ≤ v ∧ v ≤ 9
      · have t1 := level_t MC hl
        have t2 := hours_t MC hv
        have t3 := noFl_t M1 ⟨hl, hv⟩
        obtain ⟨lv, hlv, rfl⟩ := lev_e hl
        obtain ⟨n, hn1, hn, rfl⟩ := hrs_e hv
        obtain ⟨C1, a1, a2, a3, a4⟩ := cTry_e (B := B) (X := opn B) (e := -9) (eqC_r MC) hP hT hw h3.1 (opn_c h4 hw)
        obtain ⟨C2, b1, b2, b3⟩ := cGo_e (A := S) (X := opn B) a2 hP hlv hn hT hw a3 (wS_A h3.2.2) a4
        obtain ⟨L1, c1, c2, c3, -⟩ := mTry_e (eqM_r M1) hM hw h3.2.1
        obtain ⟨L2, d1, d2, d3, -⟩ := mGo_e (A := S) (X := opn B) c2 hlv hn hM hw c3 (wS_A h3.2.2) (opn_m h4 hw)
        have hP1 : C1.2.2 0 9 = P := by rw [a2.1]; exact h1.1
        refine ⟨nI (hIter T (opn B) lv S n 0 i), C2, L2, ?_, ?_, hR1.eq b2 d2⟩
        · simp (decide := true) only [f_X8_after, piece_t h1 hT hw hi, t1, t2, fz_b1_e, fz_bd_e, fz_d_e, h1.1, fz_gd_t (isP_ok h1), a1, hP1, b1, fz_gd_t hin, fz_g_nI h31, b3 i hi, ↓reduceIte]
        · simp (decide := true) only [f_X9_after, fz_sf_e, hM1, fz_bd_e, nopiece_t hM hw hi, t3, fz_b1_e, c1, d1, fz_gd_t hin, fz_g_nI h31, d3 i hi, ↓reduceIte]
      · exact ⟨-2, MC, M1, by simp (decide := true) only [f_X8_after, piece_t h1 hT hw hi, level_t MC hl, hours_f MC hv, fz_b1_e, ↓reduceIte], by simp (decide := true) only [f_X9_after, fz_sf_e, hM1, nopiece_t hM hw hi, noFl_f M1 (fun q => hv q.2), fz_b1_e, fz_bd_e, ↓reduceIte], hR1⟩
    · exact ⟨-2, MC, M1, by simp (decide := true) only [f_X8_after, piece_t h1 hT hw hi, level_f MC hl, fz_b1_e, ↓reduceIte], by simp (decide := true) only [f_X9_after, fz_sf_e, hM1, nopiece_t hM hw hi, noFl_f M1 (fun q => hl q.1), fz_b1_e, fz_bd_e, ↓reduceIte], hR1⟩
  · exact ⟨-1, MC, M1, by simp (decide := true) only [f_X8_after, piece_f h1 hT hw hx, fz_b1_e, ↓reduceIte], by simp (decide := true) only [f_X9_after, fz_sf_e, hM1, nopiece_f hM hw hx, fz_b1_e, fz_bd_e, ↓reduceIte], hR1⟩
/-- the first start by which a piece comes to a house -/
def dwr (T : fz_A2) (X : Nat → Bool) (lv n p h : Nat) (S : fz_A2) (k : Nat) : Bool := decide (hIter T X lv (up2 S 0 p k) n 0 p = h)
def dwF (f : Nat → Bool) : Nat → Nat → Int32
  | 0, _ => -9
  | d + 1, k => if f k = true then nI k else dwF f d (k + 1)
theorem dwF_t {f : Nat → Bool} {k n : Nat} (h : k < n) (c : f k = true) : dwF f (n - k) k = nI k := by
  obtain ⟨d, hd⟩ : ∃ d, n - k = d + 1 := ⟨n - k - 1, by omega⟩
  rw [hd, dwF, if_pos c]
theorem dwF_f {f : Nat → Bool} {k n : Nat} (h : k < n) (c : ¬ f k = true) : dwF f (n - k) k = dwF f (n - (k + 1)) (k + 1) := by
  obtain ⟨d, hd⟩ : ∃ d, n - k = d + 1 := ⟨n - k - 1, by omega⟩
  rw [hd, dwF, if_neg c, show n - (k + 1) = d from by omega]
theorem up_A {T S : fz_A2} (h : wS T S) {p k : Nat} (hk : k < T 0 0) : ∀ q, q < T 0 2 → up2 S 0 p k 0 q < T 0 0 ∧ up2 S 0 p k 1 q ≤ 9 := fun q hq => by
  obtain ⟨a, b⟩ := wS_A h q hq
  rw [up2_ne (show ¬ (1 = 0 ∧ q = p) by omega)]
  refine ⟨?_, b⟩
  by_cases c : q = p
  · subst c; rw [up2_at]; exact hk
  · rw [up2_ne (by omega)]; exact a
theorem p_dowry (a w v h : Int32) : fz_pW Rel (f_X8_dowry a w v h) (f_X9_dowry a w v h) := by
  intro MC MM hR
  have hR1 := hR.thrown
  have hR2 := hR1
  generalize hM1 : fz_w MM 0 0 0 = M1 at hR1 hR2
  obtain ⟨P, T, S, sp, B, h1, ⟨hT, hM, hw⟩, h3, h4, -⟩ := hR2
  have hP := rTop_P h1
  have hn2 := hw.2.2.1
  have hn0 := hw.1
  rcases x_rng a (n := T 0 2) (by omega) with ⟨i, hi, rfl⟩ | hx
  · have hin : fz_in (nI i) 6 = true := fz_in_nI (by omega) (by decide)
    have h31 : i < 2 ^ 31 := by omega
    rcases x_rng h (n := T 0 0) (by omega) with ⟨g, hg, rfl⟩ | hxh
    · by_cases hl : 0 ≤ w ∧ w ≤ 19
      · by_cases hv : 1 ≤ v ∧ v ≤ 9
        · have t1 := level_t MC hl
          have t2 := hours_t MC hv
          have t3 := noFl_t M1 ⟨hl, hv⟩
          obtain ⟨lv, hlv, rfl⟩ := lev_e hl
          obtain ⟨n, hn1, hn, rfl⟩ := hrs_e hv
          have kC : ∃ C, f_X8_dowry_39 (nI i) (nI lv) (nI n) (nI g) 0 MC = some (dwF (dwr T (opn B) lv n i g S) (T 0 0) 0, C) ∧ eqC MC C := by
            unfold f_X8_dowry_39
            refine lp_gen (K := fun C => some (dwF (dwr T (opn B) lv n i g S) (T 0 0) 0, C)) (fun k (s : Int32 × fz_M) => s.1 = nI k ∧ eqC MC s.2 ∧ dwF (dwr T (opn B) lv n i g S) (T 0 0) 0 = dwF (dwr T (opn B) lv n i g S) (T 0 0 - k) k) (T 0 0) ?_ ?_ (by unfold fz_fuel; omega) ⟨rfl, eqC_r MC, rfl⟩
            · rintro k ⟨x, M0⟩ hk ⟨rfl, e2, e3⟩
              dsimp only at e2 e3
              have hlt : ¬ nI (T 0 0) ≤ nI k := nI_ge hk (by omega)
              have hq1 := (eqC_top e2 h1).1
              have hq2 := (eqC_T e2 hP hT).1
              obtain ⟨C1, a1, a2, a3, a4⟩ := cTry_e (B := B) (X := opn B) (e := -9) e2 hP hT hw h3.1 (opn_c h4 hw)
              have a2' : eqC MC (fz_w C1 11 i (nI k)) := ⟨a2.1, fun d x => by rw [w_ne (by omega)]; exact a2.2 d x⟩
              obtain ⟨C2, b1, b2, b3⟩ := cGo_e (A := up2 S 0 i k) (X := opn B) a2' hP hlv hn hT hw (fun p hp => by
                rw [w_ne (show (12 : Nat) ≠ 11 by decide), up2_ne (show ¬ (1 = 0 ∧ p = i) by omega)]
                refine ⟨?_, (a3 p hp).2⟩
                by_cases c : p = i
                · subst c; rw [w_at, up2_at]
                · rw [w_nj c, up2_ne (by omega)]; exact (a3 p hp).1) (up_A h3.2.2 hk) (fun h hh => by rw [w_ne (by decide)]; exact a4 h hh)
              have hP2 : (fz_w C1 11 i (nI k)).2.2 0 9 = P := by rw [a2'.1]; exact h1.1
              have kk2 : (nI (hIter T (opn B) lv (up2 S 0 i k) n 0 i) = nI g) = (hIter T (opn B) lv (up2 S 0 i k) n 0 i = g) := propext (nI_eq (by have := (wIter (X := opn B) (lv := lv) hw (up_A h3.2.2 (p := i) hk) n i hi).1; omega) (by omega))
              by_cases c : hIter T (opn B) lv (up2 S 0 i k) n 0 i = g
              · have cd : dwr T (opn B) lv n i g S k = true := decide_eq_true c
                refine Or.inr ⟨C2, b2, fun kk => ?_⟩
                show f_X8_dowry_39_s kk (nI i) (nI lv) (nI n) (nI g) (nI k) M0 = _
                rw [e3, dwF_t hk cd]
                simp only [f_X8_dowry_39_s, fz_bd_e, fz_d_e, hq1, fz_gd_t (isP_ok h1), fz_f_e, hq2, hlt, a1, fz_b1_e, fz_gd_t hin, fz_s_nI h31, hP2, b1, fz_g_nI h31, b3 i hi, kk2, c, ↓reduceIte, not_true_eq_false]
              · have cd : ¬ dwr T (opn B) lv n i g S k = true := fun q => c (of_decide_eq_true q)
                refine Or.inl ⟨(nI (k + 1), C2), ⟨rfl, b2, e3.trans (dwF_f hk cd)⟩, fun kk => ?_⟩
                show f_X8_dowry_39_s kk (nI i) (nI lv) (nI n) (nI g) (nI k) M0 = _
                simp only [f_X8_dowry_39_s, fz_bd_e, fz_d_e, hq1, fz_gd_t (isP_ok h1), fz_f_e, hq2, hlt, a1, fz_b1_e, fz_gd_t hin, fz_s_nI h31, hP2, b1, fz_g_nI h31, b3 i hi, kk2, c, nI_1, ↓reduceIte, not_false_eq_true]
            · rintro ⟨x, M0⟩ ⟨rfl, e2, e3⟩
              dsimp only at e2 e3
              have hq1 := (eqC_top e2 h1).1
              have hq2 := (eqC_T e2 hP hT).1
              refine ⟨M0, e2, fun kk => ?_⟩
              show f_X8_dowry_39_s kk (nI i) (nI lv) (nI n) (nI g) (nI (T 0 0)) M0 = _
              rw [e3, show T 0 0 - T 0 0 = 0 from by omega]
              simp only [f_X8_dowry_39_s, fz_bd_e, fz_d_e, hq1, fz_gd_t (isP_ok h1), fz_f_e, hq2, show nI (T 0 0) ≤ nI (T 0 0) from nI_le (Nat.le_refl _) (by omega), ↓reduceIte]
              rfl
          have kM : ∃ L, f_X9_dowry_38 (nI i) (nI lv) (nI n) (nI g) 0 M1 = some (dwF (dwr T (opn B) lv n i g S) (T 0 0) 0, L) ∧ eqM M1 L := by
            unfold f_X9_dowry_38
            refine lp_gen (K := fun C => some (dwF (dwr T (opn B) lv n i g S) (T 0 0) 0, C)) (fun k (s : Int32 × fz_M) => s.1 = nI k ∧ eqM M1 s.2 ∧ dwF (dwr T (opn B) lv n i g S) (T 0 0) 0 = dwF (dwr T (opn B) lv n i g S) (T 0 0 - k) k) (T 0 0) ?_ ?_ (by unfold fz_fuel; omega) ⟨rfl, eqM_r M1, rfl⟩
            · rintro k ⟨x, M0⟩ hk ⟨rfl, e2, e3⟩
              dsimp only at e2 e3
              have hlt : ¬ nI (T 0 0) ≤ nI k := nI_ge hk (by omega)
              have hq2 := (eqM_T e2 hM).1
              obtain ⟨L1, a1, a2, a3, -⟩ := mTry_e e2 hM hw h3.2.1
              have a2' : eqM M1 (fz_w L1 29 i (nI k)) := ⟨fun d x y => by rw [w_ne (by omega)]; exact a2.1 d x y, fun j x y => by rw [w_ne (by decide)]; exact a2.2 j x y⟩
              obtain ⟨L2, b1, b2, b3, -⟩ := mGo_e (A := up2 S 0 i k) (X := opn B) a2' hlv hn hM hw (fun p hp => by
                rw [w_ne (show (30 : Nat) ≠ 29 by decide), up2_ne (show ¬ (1 = 0 ∧ p = i) by omega)]
                refine ⟨?_, (a3 p hp).2⟩
                by_cases c : p = i
                · subst c; rw [w_at, up2_at]
                · rw [w_nj c, up2_ne (by omega)]; exact (a3 p hp).1) (up_A h3.2.2 hk) (opn_m h4 hw)
              have kk2 : (nI (hIter T (opn B) lv (up2 S 0 i k) n 0 i) = nI g) = (hIter T (opn B) lv (up2 S 0 i k) n 0 i = g) := propext (nI_eq (by have := (wIter (X := opn B) (lv := lv) hw (up_A h3.2.2 (p := i) hk) n i hi).1; omega) (by omega))
              by_cases c : hIter T (opn B) lv (up2 S 0 i k) n 0 i = g
              · have cd : dwr T (opn B) lv n i g S k = true := decide_eq_true c
                refine Or.inr ⟨L2, b2, fun kk => ?_⟩
                show f_X9_dowry_38_s kk (nI i) (nI lv) (nI n) (nI g) (nI k) M0 = _
                rw [e3, dwF_t hk cd]
                simp only [f_X9_dowry_38_s, fz_bd_e, fz_f_e, hq2, hlt, a1, fz_b1_e, fz_gd_t hin, fz_s_nI h31, b1, fz_g_nI h31, b3 i hi, kk2, c, ↓reduceIte, not_true_eq_false]
              · have cd : ¬ dwr T (opn B) lv n i g S k = true := fun q => c (of_decide_eq_true q)
                refine Or.inl ⟨(nI (k + 1), L2), ⟨rfl, b2, e3.trans (dwF_f hk cd)⟩, fun kk => ?_⟩
                show f_X9_dowry_38_s kk (nI i) (nI lv) (nI n) (nI g) (nI k) M0 = _
                simp only [f_X9_dowry_38_s, fz_bd_e, fz_f_e, hq2, hlt, a1, fz_b1_e, fz_gd_t hin, fz_s_nI h31, b1, fz_g_nI h31, b3 i hi, kk2, c, nI_1, ↓reduceIte, not_false_eq_true]
            · rintro ⟨x, M0⟩ ⟨rfl, e2, e3⟩
              dsimp only at e2 e3
              have hq2 := (eqM_T e2 hM).1
              refine ⟨M0, e2, fun kk => ?_⟩
              show f_X9_dowry_38_s kk (nI i) (nI lv) (nI n) (nI g) (nI (T 0 0)) M0 = _
              rw [e3, show T 0 0 - T 0 0 = 0 from by omega]
              simp only [f_X9_dowry_38_s, fz_bd_e, fz_f_e, hq2, show nI (T 0 0) ≤ nI (T 0 0) from nI_le (Nat.le_refl _) (by omega), ↓reduceIte]
              rfl
          obtain ⟨C, c1, c2⟩ := kC
          obtain ⟨L, l1, l2⟩ := kM
          exact ⟨dwF (dwr T (opn B) lv n i g S) (T 0 0) 0, C, L, by simp (decide := true) only [f_X8_dowry, piece_t h1 hT hw hi, house_t h1 hT hw hg, t1, t2, fz_b1_e, c1, ↓reduceIte], by simp (decide := true) only [f_X9_dowry, fz_sf_e, hM1, fz_bd_e, nopiece_t hM hw hi, nohouse_t hM hw hg, t3, fz_b1_e, l1, ↓reduceIte], hR1.eq c2 l2⟩
        · exact ⟨-2, MC, M1, by simp (decide := true) only [f_X8_dowry, piece_t h1 hT hw hi, house_t h1 hT hw hg, level_t MC hl, hours_f MC hv, fz_b1_e, ↓reduceIte], by simp (decide := true) only [f_X9_dowry, fz_sf_e, hM1, nopiece_t hM hw hi, nohouse_t hM hw hg, noFl_f M1 (fun q => hv q.2), fz_b1_e, fz_bd_e, ↓reduceIte], hR1⟩
      · exact ⟨-2, MC, M1, by simp (decide := true) only [f_X8_dowry, piece_t h1 hT hw hi, house_t h1 hT hw hg, level_f MC hl, fz_b1_e, ↓reduceIte], by simp (decide := true) only [f_X9_dowry, fz_sf_e, hM1, nopiece_t hM hw hi, nohouse_t hM hw hg, noFl_f M1 (fun q => hl q.1), fz_b1_e, fz_bd_e, ↓reduceIte], hR1⟩
    · exact ⟨-1, MC, M1, by simp (decide := true) only [f_X8_dowry, piece_t h1 hT hw hi, house_f h1 hT hw hxh, fz_b1_e, ↓reduceIte], by simp (decide := true) only [f_X9_dowry, fz_sf_e, hM1, nopiece_t hM hw hi, nohouse_f hM hw hxh, fz_b1_e, fz_bd_e, ↓reduceIte], hR1⟩
  · exact ⟨-1, MC, M1, by simp (decide := true) only [f_X8_dowry, piece_f h1 hT hw hx, fz_b1_e, ↓reduceIte], by simp (decide := true) only [f_X9_dowry, fz_sf_e, hM1, nopiece_f hM hw hx, fz_b1_e, fz_bd_e, ↓reduceIte], hR1⟩
