/-! hour, jams -/
theorem lv_ex {x : Int32} (h : 0 ≤ x ∧ x ≤ 19) : ∃ i, i ≤ 19 ∧ x = nI i := lev_e h
/-- the streams that are not shut -/
def opn (B : Nat → Nat) (s : Nat) : Bool := decide (B s = 0)
theorem opn_c {B : Nat → Nat} {T : fz_A2} {MC MM : fz_M} (h : rShut B MC MM) (hw : wT T) : ∀ s, s < T 0 1 → (opn B s = true ↔ ¬ nI s = -9 ∧ MC.1 52 s = 0) := fun s hs => by
  have hn1 := hw.2.1
  obtain ⟨a1, a2, a3⟩ := h s (by omega)
  unfold opn
  rw [decide_eq_true_eq, a1, n_0, nI_eq (by omega) (by decide)]
  exact ⟨fun q => ⟨nI_neg (by omega), q⟩, fun q => q.2⟩
theorem opn_m {B : Nat → Nat} {T : fz_A2} {MC MM : fz_M} (h : rShut B MC MM) (hw : wT T) : ∀ s, s < T 0 1 → (MM.1 7 s = 0 ↔ opn B s = true) := fun s hs => by
  have hn1 := hw.2.1
  obtain ⟨a1, a2, a3⟩ := h s (by omega)
  unfold opn
  rw [decide_eq_true_eq, a2, n_0, nI_eq (by omega) (by decide)]
theorem wS_A {T S : fz_A2} (h : wS T S) : ∀ p, p < T 0 2 → S 0 p < T 0 0 ∧ S 1 p ≤ 9 := fun p hp => ⟨(h p hp).1, (h p hp).2.1⟩
theorem cOff_trial {P : Nat} {M M' : fz_M} (e : ∀ d, (d < 10 ∨ 14 < d) → M'.1 d = M.1 d) (e2 : M'.2 = M.2) : cOff P M M' := ⟨fun c _ _ _ => e c (by omega), by rw [e2]⟩
theorem rSpr_fr {M M' : fz_M} (h : rSpr M) (e : M'.2 = M.2) : rSpr M' := by unfold rSpr; rw [e]; exact h
theorem p_jams (a : Int32) : fz_pW Rel (f_X8_jams a) (f_X9_jams a) := by
  intro MC MM hR
  have hR1 := hR.thrown
  have hR2 := hR1
  generalize hM1 : fz_w MM 0 0 0 = M1 at hR1 hR2
  obtain ⟨P, T, S, sp, B, h1, ⟨hT, hM, hw⟩, h3, h4, h5, h6, h7, h8⟩ := hR2
  have hP := rTop_P h1
  by_cases hl : 0 ≤ a ∧ a ≤ 19
  · have t1 := level_t MC hl
    have t2 : f_X9_in a.toInt64 0 19 M1 = some 1 := by rw [in_019, if_pos hl]
    obtain ⟨lv, hlv, rfl⟩ := lev_e hl
    obtain ⟨C1, a1, a2, a3, a4, a5⟩ := beg_e (X := opn B) (e := -9) hP hT hw (opn_c h4 hw)
    obtain ⟨C2, b1, b2, b3, b4⟩ := cHr_e (A := S) (X := opn B) (M := C1) hP hlv (cT_fr hT fun o ho => a3 _ (by omega)) hw (fun p hp => by rw [(a4 p hp).1, (a4 p hp).2]; exact ⟨(h3.1.2 p hp).1, (h3.1.2 p hp).2.1⟩) (wS_A h3.2.2) a5
    obtain ⟨L1, c1, c2, c3, c4⟩ := mBeg_e (M := M1) hM hw
    obtain ⟨L2, d1, d2, d3, d5, d4⟩ := mHr_e (A := S) (X := opn B) (M := L1) hlv (mT_fr hM (by rw [c3 0 (by omega)]) (by rw [c3 0 (by omega)]) (by rw [c3 0 (by omega)]) fun c _ _ _ => c3 c (by omega)) hw (fun p hp => by rw [(c4 p hp).1, (c4 p hp).2]; exact ⟨(h3.2.1.2 p hp).1, (h3.2.1.2 p hp).2.1⟩) (wS_A h3.2.2) (fun s hs => by rw [c3 7 (by omega)]; exact opn_m h4 hw s hs)
    have hP1 : C1.2.2 0 9 = P := by rw [a2]; exact h1.1
    have q10 : C2.1 10 5 = (hHour T (opn B) lv S).2.2 := b4.2.2.2
    have q42 : L2.1 0 42 = (hHour T (opn B) lv S).2.2 := d4.2.2
    refine ⟨(hHour T (opn B) lv S).2.2, C2, L2, ?_, ?_, hR1.off (fun Q _ => cOff_trial (fun d h => (b3 d (by omega) (by omega) (by omega) (by omega)).trans (a3 d (by omega))) (b2.trans a2)) (fun q => rSpr_fr q (b2.trans a2)) ⟨fun c x y z => (d3 c x (by omega) (by omega) (by omega)).trans (c3 c (by omega)), fun j x1 x2 x3 x4 x5 x6 x7 => (d5 j x6).trans (by rw [c3 0 (by omega)])⟩⟩
    · simp (decide := true) only [f_X8_jams, t1, fz_b1_e, fz_bd_e, fz_d_e, h1.1, fz_gd_t (isP_ok h1), a1, hP1, b1, fz_f_e, q10, ↓reduceIte]
    · simp (decide := true) only [f_X9_jams, fz_sf_e, hM1, fz_bd_e, t2, fz_b1_e, c1, d1, fz_b2_e, fz_f_e, q42, ↓reduceIte]
  · exact ⟨-2, MC, M1, by simp (decide := true) only [f_X8_jams, level_f MC hl, fz_b1_e, ↓reduceIte], by simp (decide := true) only [f_X9_jams, fz_sf_e, hM1, fz_b1_e, fz_bd_e, in_019, hl, ↓reduceIte], hR1⟩
theorem hr36_e {T A : fz_A2} {M : fz_M} (v : Int32) (hT : M.1 0 6 = nI (T 0 2)) (hn : T 0 2 ≤ 6) (h : ∀ p, p < T 0 2 → M.1 29 p = nI (A 0 p) ∧ M.1 30 p = nI (A 1 p)) : ∃ M', f_X9_hour_36 v 0 M = some (v, M') ∧ M'.2 = M.2 ∧ (∀ d, d ≠ 11 → d ≠ 12 → M'.1 d = M.1 d) ∧ ∀ p, p < T 0 2 → M'.1 11 p = nI (A 0 p) ∧ M'.1 12 p = nI (A 1 p) := by
  unfold f_X9_hour_36
  refine lp_gen (K := fun a => some (v, a)) (fun i (s : Int32 × fz_M) => s.1 = nI i ∧ s.2.2 = M.2 ∧ (∀ d, d ≠ 11 → d ≠ 12 → s.2.1 d = M.1 d) ∧ ∀ p, p < i → s.2.1 11 p = nI (A 0 p) ∧ s.2.1 12 p = nI (A 1 p)) (T 0 2) ?_ ?_ (by unfold fz_fuel; omega) ⟨rfl, rfl, fun _ _ _ => rfl, fun j hj => absurd hj (Nat.not_lt_zero j)⟩
  · rintro i ⟨x, M0⟩ hi ⟨rfl, e2, e3, e4⟩
    dsimp only at e2 e3 e4
    have hin : fz_in (nI i) 6 = true := fz_in_nI (by omega) (by decide)
    have h31 : i < 2 ^ 31 := by omega
    have hlt : ¬ nI (T 0 2) ≤ nI i := nI_ge hi (by omega)
    have c1 : M0.1 0 6 = nI (T 0 2) := by rw [e3 0 (by decide) (by decide)]; exact hT
    have g1 : M0.1 29 i = nI (A 0 i) := by rw [e3 29 (by decide) (by decide)]; exact (h i hi).1
    have g2 : M0.1 30 i = nI (A 1 i) := by rw [e3 30 (by decide) (by decide)]; exact (h i hi).2
    refine Or.inl ⟨(nI (i + 1), fz_w (fz_w M0 11 i (nI (A 0 i))) 12 i (nI (A 1 i))), ⟨rfl, e2, fun d x y => ?_, fun p hp => ?_⟩, fun kk => ?_⟩
    · show (fz_w _ _ _ _).1 d = _
      rw [w_ne y, w_ne x]; exact e3 d x y
    · show (fz_w _ _ _ _).1 11 p = _ ∧ (fz_w _ _ _ _).1 12 p = _
      rw [w_ne (show (11 : Nat) ≠ 12 by decide)]
      by_cases c : p = i
      · subst c
        rw [w_at, w_at]; exact ⟨rfl, rfl⟩
      · rw [w_nj c, w_nj c, w_ne (show (12 : Nat) ≠ 11 by decide)]; exact e4 p (by omega)
    · show f_X9_hour_36_s kk v (nI i) M0 = _
      simp only [f_X9_hour_36_s, fz_f_e, c1, hlt, fz_gd_t hin, fz_g_nI h31, fz_s_nI h31, fz_bd_e, w_ne (show (30 : Nat) ≠ 11 by decide), g1, g2, nI_1, ↓reduceIte]
  · rintro ⟨x, M0⟩ ⟨rfl, e2, e3, e4⟩
    dsimp only at e2 e3 e4
    have c1 : M0.1 0 6 = nI (T 0 2) := by rw [e3 0 (by decide) (by decide)]; exact hT
    refine ⟨M0, ⟨e2, e3, e4⟩, fun kk => ?_⟩
    show f_X9_hour_36_s kk v (nI (T 0 2)) M0 = _
    simp only [f_X9_hour_36_s, fz_f_e, c1, show nI (T 0 2) ≤ nI (T 0 2) from nI_le (Nat.le_refl _) (by omega), ↓reduceIte]
/-- a stand with other places and ties -/
def mix (A S : fz_A2) : fz_A2 := fun c i => if c < 2 then A c i else S c i
theorem p_hour (a : Int32) : fz_pW Rel (f_X8_hour a) (f_X9_hour a) := by
  intro MC MM hR
  have hR1 := hR.thrown
  have hR2 := hR1
  generalize hM1 : fz_w MM 0 0 0 = M1 at hR1 hR2
  obtain ⟨P, T, S, sp, B, h1, ⟨hT, hM, hw⟩, h3, h4, h5, h6, h7, h8⟩ := hR2
  have hP := rTop_P h1
  have hn := hw.2.2.1
  by_cases hl : 0 ≤ a ∧ a ≤ 19
  · have t1 := level_t MC hl
    have t2 : f_X9_in a.toInt64 0 19 M1 = some 1 := by rw [in_019, if_pos hl]
    obtain ⟨lv, hlv, rfl⟩ := lev_e hl
    obtain ⟨C0, L0, r1, r2, r3, r4, r5, r6, r7, r8⟩ := rem_e hn h3 h5
    have hT0 : cT P T C0 := cT_fr hT fun o ho => r6 _ (by omega) (by omega)
    have hM0 : mT T L0 := mT_fr hM (r8 4 (by decide)) (r8 5 (by decide)) (r8 6 (by decide)) fun c x y z => r7 c (by omega) (by omega)
    have h30 : cS 40 (T 0 2) S sp C0 := cS_fr h3.1 hn fun o ho => r6 _ (by omega) (by omega)
    have h31 : mL (T 0 2) S sp L0 := mL_fr h3.2.1 (r8 21 (by decide)) fun c x y => r7 c (by omega) (by omega)
    have h40 : rShut B C0 L0 := rShut_fr h4 (r6 52 (by decide) (by decide)) (r7 7 (by decide) (by decide))
    obtain ⟨C1, a1, a2, a3, a4, a5⟩ := beg_e (X := opn B) (e := -9) hP hT0 hw (opn_c h40 hw)
    obtain ⟨C2, b1, b2, b3, b4⟩ := cHr_e (A := S) (X := opn B) (M := C1) hP hlv (cT_fr hT0 fun o ho => a3 _ (by omega)) hw (fun p hp => by rw [(a4 p hp).1, (a4 p hp).2]; exact ⟨(h30.2 p hp).1, (h30.2 p hp).2.1⟩) (wS_A h3.2.2) a5
    obtain ⟨C3, x1, x2, x3, x4⟩ := tpt_e (k := 40) (c1 := 11) (c2 := 12) C2 (by decide) (by decide)
    obtain ⟨L1, c1, c2, c3, c4⟩ := mBeg_e (M := L0) hM0 hw
    obtain ⟨L2, d1, d2, d3, d5, d4⟩ := mHr_e (A := S) (X := opn B) (M := L1) hlv (mT_fr hM0 (by rw [c3 0 (by omega)]) (by rw [c3 0 (by omega)]) (by rw [c3 0 (by omega)]) fun c _ _ _ => c3 c (by omega)) hw (fun p hp => by rw [(c4 p hp).1, (c4 p hp).2]; exact ⟨(h31.2 p hp).1, (h31.2 p hp).2.1⟩) (wS_A h3.2.2) (fun s hs => by rw [c3 7 (by omega)]; exact opn_m h40 hw s hs)
    have hwz : wH T (hHour T (opn B) lv S) := wH_run hw (hBeg_w (wS_A h3.2.2)) _
    generalize hz : hHour T (opn B) lv S = z at b4 d1 d4 hwz
    obtain ⟨L3, y1, y2, y3, y4⟩ := hr36_e (T := T) (A := z.1) (M := L2) z.2.1 (by rw [d5 6 (by decide), c3 0 (by omega)]; exact hM0.2.2.1) hn d4.1
    have hP0 : C0.2.2 0 9 = P := by rw [r4]; exact h1.1
    have hP1 : C1.2.2 0 9 = P := by rw [a2]; exact hP0
    have q10 : C3.1 10 4 = z.2.1 := by rw [x3 10 (by decide) (by decide)]; exact b4.2.2.1
    have gC0 : ∀ d, (d < 10 ∨ 14 < d) → d ≠ 41 → d ≠ 42 → C3.1 d = C0.1 d := fun d x y w => by rw [x3 d y w, b3 d (by omega) (by omega) (by omega) (by omega), a3 d (by omega)]
    have gC : ∀ d, d ≠ 5 → (d < 10 ∨ 14 < d) → d ≠ 41 → d ≠ 42 → d < 79 → C3.1 d = MC.1 d := fun d x y w v u => by rw [gC0 d y w v, r6 d x u]
    have g1 : ∀ d, d ≠ 0 → d ≠ 11 → d ≠ 12 → (d < 29 ∨ 31 < d) → L3.1 d = L0.1 d := fun d x y w v => by rw [y3 d y w, d3 d x (by omega) (by omega) (by omega), c3 d (by omega)]
    have g : ∀ d, d ≠ 0 → d ≠ 11 → d ≠ 12 → d ≠ 25 → (d < 29 ∨ 31 < d) → L3.1 d = M1.1 d := fun d x y w u v => by rw [g1 d x y w v, r7 d x u]
    have g01 : ∀ j, j ≠ 42 → L3.1 0 j = L0.1 0 j := fun j x => by rw [y3 0 (by decide) (by decide), d5 j x, c3 0 (by omega)]
    have g0 : ∀ j, j ≠ 42 → j ≠ 35 → L3.1 0 j = M1.1 0 j := fun j x y => by rw [g01 j x, r8 j y]
    have e2 : C3.2 = MC.2 := by rw [x2, b2, a2, r4]
    refine ⟨z.2.1, C3, L3, ?_, ?_, P, T, mix z.1 S, sp, B, rTop_fr h1 (by rw [e2]), ⟨cT_fr hT fun o ho => gC _ (by omega) (by omega) (by omega) (by omega) (by omega), mT_fr hM (g0 4 (by decide) (by decide)) (g0 5 (by decide) (by decide)) (g0 6 (by decide) (by decide)) (fun c x y z => g c (by omega) (by omega) (by omega) (by omega) (by omega)), hw⟩, ⟨⟨by rw [gC 40 (by decide) (by decide) (by decide) (by decide) (by decide)]; exact h3.1.1, fun p hp => ?_⟩, ⟨by rw [g0 21 (by decide) (by decide)]; exact h3.2.1.1, fun p hp => ?_⟩, fun p hp => ?_⟩, rShut_fr h4 (gC 52 (by decide) (by decide) (by decide) (by decide) (by decide)) (g 7 (by decide) (by decide) (by decide) (by decide) (by decide)), rActs_fr r3 hn (gC0 5 (by decide) (by decide) (by decide)) (fun c hc => gC0 c (by omega) (by omega) (by omega)) (g01 35 (by decide)) (g1 25 (by decide) (by decide) (by decide) (by decide)), rKept_fr h6 hn (gC 19 (by decide) (by decide) (by decide) (by decide) (by decide)) (fun c x y => gC c (by omega) (by omega) (by omega) (by omega) (by omega)) (g 26 (by decide) (by decide) (by decide) (by decide) (by decide)) (g 27 (by decide) (by decide) (by decide) (by decide) (by decide)) (g 28 (by decide) (by decide) (by decide) (by decide) (by decide)), rMark_fr h7 (gC 7 (by decide) (by decide) (by decide) (by decide) (by decide)) (gC 8 (by decide) (by decide) (by decide) (by decide) (by decide)) (gC 9 (by decide) (by decide) (by decide) (by decide) (by decide)) (g0 43 (by decide) (by decide)) (g 32 (by decide) (by decide) (by decide) (by decide) (by decide)) (g 33 (by decide) (by decide) (by decide) (by decide) (by decide)), rText_fr h8 (gC 1 (by decide) (by decide) (by decide) (by decide) (by decide)) (gC 2 (by decide) (by decide) (by decide) (by decide) (by decide)) (g0 2 (by decide) (by decide)) (g 1 (by decide) (by decide) (by decide) (by decide) (by decide))⟩
    · simp (decide := true) only [f_X8_hour, t1, fz_b1_e, r1, fz_bd_e, fz_d_e, hP0, fz_gd_t (isP_ok h1), a1, hP1, b1, x1, fz_f_e, q10, ↓reduceIte]
    · simp (decide := true) only [f_X9_hour, fz_sf_e, hM1, fz_bd_e, t2, fz_b1_e, r2, c1, d1, fz_b2_e, y1, ↓reduceIte]
    · obtain ⟨m1, m2, m3, m4, m5⟩ := h3.1.2 p hp
      obtain ⟨n1, n2⟩ := x4 p (by omega)
      obtain ⟨o1, o2⟩ := b4.1 p hp
      refine ⟨n1.trans o1, n2.trans o2, ?_, ?_, fun i hi => ?_⟩
      · rw [gC _ (by omega) (by omega) (by omega) (by omega) (by omega)]; exact m3
      · rw [gC _ (by omega) (by omega) (by omega) (by omega) (by omega)]; exact m4
      · rw [gC _ (by omega) (by omega) (by omega) (by omega) (by omega)]
        show MC.1 _ i = nI (if 4 + p < 2 then _ else S (4 + p) i)
        rw [if_neg (by omega)]; exact m5 i hi
    · obtain ⟨m1, m2, m3, m4, m5⟩ := h3.2.1.2 p hp
      obtain ⟨n1, n2⟩ := y4 p hp
      refine ⟨n1, n2, ?_, ?_, fun i hi => ?_⟩
      · rw [g _ (by omega) (by omega) (by omega) (by omega) (by omega)]; exact m3
      · rw [g _ (by omega) (by omega) (by omega) (by omega) (by omega)]; exact m4
      · rw [g _ (by omega) (by omega) (by omega) (by omega) (by omega)]
        show M1.1 13 _ = nI (if 4 + p < 2 then _ else S (4 + p) i)
        rw [if_neg (by omega)]; exact m5 i hi
    · obtain ⟨m1, m2, m3⟩ := h3.2.2 p hp
      obtain ⟨n1, n2⟩ := hwz.1 p hp
      exact ⟨n1, n2, m3⟩
  · exact ⟨-2, MC, M1, by simp (decide := true) only [f_X8_hour, level_f MC hl, fz_b1_e, ↓reduceIte], by simp (decide := true) only [f_X9_hour, fz_sf_e, hM1, fz_b1_e, fz_bd_e, in_019, hl, ↓reduceIte], hR1⟩
