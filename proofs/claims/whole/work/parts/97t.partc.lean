/-! the class's reading of a part -/
theorem cHou_e {P q L : Nat} {R : fz_A2} {t : Nat → Int32} {M0 M1 : fz_M} (hP : P = 20 ∨ P = 30) (hL : L ≤ 96) (hq : q + 1 ≤ L) (h : cIn P R L t 72 1 M1) (h6 : R 0 0 < 6) (S0 : ∀ kk, cF P kk (nI q, M0) = kk (nI (q + 1), M1)) : ∃ M', cpOff P M1 M' ∧ cAft (partH t L R q) P L q M0 M' := by
  have s1 := cSt (G := fun _ => true) hL hq h (by decide) (by decide) (fun d _ => by
    unfold f_X4_canGoOn
    rw [fz_gd_t (by decide), g_0, h.2.1, if_pos rfl, fz_f_e, h.1]; rfl) len72 (by decide) (by decide)
  unfold partH
  cases g1 : fgP t L (q + 1) (fun _ => true) with
  | none =>
    rw [g1] at s1
    dsimp only at s1
    exact ⟨M1, cpOff.refl P M1, 2, by omega, fun f => (lp_cons S0).trans (lp_last s1)⟩
  | some a =>
    rw [g1] at s1
    dsimp only at s1
    obtain ⟨a1, a2, -, -⟩ := fgP_some g1
    have h2 := nx_in (d := a) hP h (by decide)
    have r1 : (nx M1 1 a).1 4 1 = nI a := nx_at
    have o2 : cpOff P M1 (nx M1 1 a) := nx_off
    generalize nx M1 1 a = M2 at s1 h2 r1 o2
    have h31 : R 0 0 < 2 ^ 31 := by omega
    have hin : fz_in (nI (R 0 0)) 6 = true := fz_in_nI h6 (by decide)
    have h60 : ¬ (6 : Int32) ≤ nI (R 0 0) := nI_ge (b := 6) h6 (by decide)
    have s2 := cSe (G := fun d => decide (1 ≤ d)) (A := fun d => fz_w (fz_w (fz_w (nx M2 2 d) (P + 1) (R 0 0) (nI a)) (P + 2) (R 0 0) (nI d)) P 0 (nI (R 0 0 + 1))) hL (show q + 2 ≤ L by omega) h2 (by decide) (by decide) (fun d hd => by
      unfold f_X4_canGoOn
      rw [fz_gd_t (by decide), g_0, h2.2.1, if_pos rfl, fz_f_e, h2.1, if_neg (by decide), pos_e d hd]) len72 (by decide) (fun d hd => by
      have h3 := nx_in (d := d) hP h2 (by decide)
      have x1 : (nx M2 2 d).1 4 1 = nI a := by rw [nx_el (by decide)]; exact r1
      have x2 : (nx M2 2 d).1 4 2 = nI d := nx_at
      have y1 : P ≠ P + 1 := by omega
      have y2 : P ≠ P + 2 := by omega
      unfold f_X4_addPart
      rw [fz_gd_t (by decide), g_0, h3.2.1, if_pos rfl, fz_gd_t (by decide), fz_gd_t (by decide), g_1, g_2, x1, x2]
      unfold f_X3_addHouse
      simp only [fz_f_e, w_ne y1, w_ne y2, h3.2.2.1.1.1, h60, fz_gd_t hin, fz_s_nI h31, fz_bd_e, fz_sf_e, nI_1, fz_b1_e, ↓reduceIte])
    dsimp only
    cases g2 : fgP t L (q + 2) (fun d => decide (1 ≤ d)) with
    | none =>
      rw [g2] at s2
      dsimp only at s2
      exact ⟨M2, o2, 3, by omega, fun f => (lp_cons S0).trans ((lp_cons s1).trans (lp_last s2))⟩
    | some b =>
      rw [g2] at s2
      dsimp only at s2
      obtain ⟨b1, b2, -, -⟩ := fgP_some g2
      have h3 := nx_in (d := b) hP h2 (by decide)
      exact ⟨fz_w (fz_w (fz_w (fz_w (nx M2 2 b) (P + 1) (R 0 0) (nI a)) (P + 2) (R 0 0) (nI b)) P 0 (nI (R 0 0 + 1))) 3 1 0, (o2.trans nx_off).trans ((((cpOff_w (by omega)).trans (cpOff_w (by omega))).trans (cpOff_w (by omega))).trans (cpOff_w (by omega))), 3, by decide, rfl, by show q + 3 ≤ L; omega, fun f => (lp_cons S0).trans ((lp_cons s1).trans (lp_cons s2)), cR_fr (cR_aH h3.2.2.1) (fun o ho => by rw [w_ne (by omega)]), w_at⟩
theorem cStr_e {P q L : Nat} {R : fz_A2} {t : Nat → Int32} {M0 M1 : fz_M} (hP : P = 20 ∨ P = 30) (hL : L ≤ 96) (hq : q + 1 ≤ L) (h : cIn P R L t 83 1 M1) (hw : wT R) (h10 : R 0 1 < 10) (S0 : ∀ kk, cF P kk (nI q, M0) = kk (nI (q + 1), M1)) : ∃ M', cpOff P M1 M' ∧ cAft (partS t L R q) P L q M0 M' := by
  have nb : ∀ b : Bool, fz_nb (if b = true then (1 : Int32) else 0) = true := by decide
  have s1 := cSt (G := leavB R) hL hq h (by decide) (by decide) (fun d _ => by
    unfold f_X4_canGoOn
    rw [fz_gd_t (by decide), g_0, h.2.1, if_neg (by decide), if_pos rfl]
    unfold f_X4_canGoOnWithStream
    rw [fz_f_e, h.1, if_pos (show nI 1 = 1 from rfl), cLea_e (by omega) h.2.2.1.1 hw, fz_b1_e, fz_gd_t (nb _), fz_b1_e, fz_gd_t (nb _)]) len83 (by decide) (by decide)
  unfold partS
  cases g1 : fgP t L (q + 1) (leavB R) with
  | none =>
    rw [g1] at s1
    dsimp only at s1
    exact ⟨M1, cpOff.refl P M1, 2, by omega, fun f => (lp_cons S0).trans (lp_last s1)⟩
  | some a =>
    rw [g1] at s1
    dsimp only at s1
    obtain ⟨a1, a2, -, -⟩ := fgP_some g1
    have h2 := nx_in (d := a) hP h (by decide)
    have r1 : (nx M1 1 a).1 4 1 = nI a := nx_at
    have o2 : cpOff P M1 (nx M1 1 a) := nx_off
    generalize nx M1 1 a = M2 at s1 h2 r1 o2
    have s2 := cSt (G := joinB R a) hL (show q + 2 ≤ L by omega) h2 (by decide) (by decide) (fun d _ => by
      unfold f_X4_canGoOn
      rw [fz_gd_t (by decide), g_0, h2.2.1, if_neg (by decide), if_pos rfl]
      unfold f_X4_canGoOnWithStream
      rw [fz_f_e, h2.1, if_neg (by decide), if_pos (by decide), fz_gd_t (by decide), g_1, r1, cJoi_e (by omega) (by omega) h2.2.2.1.1 hw, fz_b1_e, fz_gd_t (nb _), fz_b1_e, fz_gd_t (nb _)]) len83 (by decide) (by decide)
    dsimp only
    cases g2 : fgP t L (q + 2) (joinB R a) with
    | none =>
      rw [g2] at s2
      dsimp only at s2
      exact ⟨M2, o2, 3, by omega, fun f => (lp_cons S0).trans ((lp_cons s1).trans (lp_last s2))⟩
    | some b =>
      rw [g2] at s2
      dsimp only at s2
      obtain ⟨b1, b2, -, -⟩ := fgP_some g2
      have h3 := nx_in (d := b) hP h2 (by decide)
      have r3 : (nx M2 2 b).1 4 1 = nI a := by rw [nx_el (by decide)]; exact r1
      have r4 : (nx M2 2 b).1 4 2 = nI b := nx_at
      have o3 : cpOff P M1 (nx M2 2 b) := o2.trans nx_off
      generalize nx M2 2 b = M3 at s2 h3 r3 r4 o3
      have h31 : R 0 1 < 2 ^ 31 := by omega
      have hin : fz_in (nI (R 0 1)) 10 = true := fz_in_nI h10 (by decide)
      have h60 : ¬ (10 : Int32) ≤ nI (R 0 1) := nI_ge (b := 10) h10 (by decide)
      have hl : lefT R a ≤ 10 := Nat.sub_le _ _
      have s3 := cSe (G := fun d => decide (1 ≤ d ∧ d ≤ lefT R a)) (A := fun d => fz_w (fz_w (fz_w (fz_w (nx M3 3 d) (P + 3) (R 0 1) (nI a)) (P + 4) (R 0 1) (nI b)) (P + 5) (R 0 1) (nI d)) P 1 (nI (R 0 1 + 1))) hL (show q + 3 ≤ L by omega) h3 (by decide) (by decide) (fun d hd => by
        unfold f_X4_canGoOn
        rw [fz_gd_t (by decide), g_0, h3.2.1, if_neg (by decide), if_pos rfl]
        unfold f_X4_canGoOnWithStream
        rw [fz_f_e, h3.1, if_neg (by decide), if_neg (by decide), fz_gd_t (by decide), g_1, r3, cLef_e (by omega) h3.2.2.1.1 hw, fz_b1_e]
        by_cases c : 1 ≤ d
        · rw [if_neg (nI_nle (n := d) (by omega) (by omega))]
          by_cases c2 : d ≤ lefT R a
          · rw [if_neg (Int32.not_lt.mpr (nI_le c2 (by omega))), if_pos (decide_eq_true ⟨c, c2⟩)]; rfl
          · rw [if_pos (nI_lt (by omega) (by omega)), if_neg (fun z => c2 (of_decide_eq_true z).2)]; rfl
        · rw [if_pos (show nI d ≤ 0 from nI_le (b := 0) (by omega) (by decide)), if_neg (fun z => c (of_decide_eq_true z).1)]; rfl) len83 (by decide) (fun d hd => by
        have h4 := nx_in (d := d) hP h3 (by decide)
        have x1 : (nx M3 3 d).1 4 1 = nI a := by rw [nx_el (by decide)]; exact r3
        have x2 : (nx M3 3 d).1 4 2 = nI b := by rw [nx_el (by decide)]; exact r4
        have x3 : (nx M3 3 d).1 4 3 = nI d := nx_at
        have y1 : P ≠ P + 3 := by omega
        have y2 : P ≠ P + 4 := by omega
        have y3 : P ≠ P + 5 := by omega
        unfold f_X4_addPart
        rw [fz_gd_t (by decide), g_0, h4.2.1, if_neg (by decide), if_pos rfl, fz_gd_t (by decide), fz_gd_t (by decide), fz_gd_t (by decide), g_1, g_2, g_3, x1, x2, x3]
        unfold f_X3_addStream
        simp only [fz_f_e, w_ne y1, w_ne y2, w_ne y3, h4.2.2.1.1.2.1, h60, fz_gd_t hin, fz_s_nI h31, fz_bd_e, fz_sf_e, nI_1, fz_b1_e, ↓reduceIte])
      dsimp only
      cases g3 : fgP t L (q + 3) (fun d => decide (1 ≤ d ∧ d ≤ lefT R a)) with
      | none =>
        rw [g3] at s3
        dsimp only at s3
        exact ⟨M3, o3, 4, by omega, fun f => (lp_cons S0).trans ((lp_cons s1).trans ((lp_cons s2).trans (lp_last s3)))⟩
      | some c =>
        rw [g3] at s3
        dsimp only at s3
        obtain ⟨c1, c2, -, -⟩ := fgP_some g3
        have h4 := nx_in (d := c) hP h3 (by decide)
        exact ⟨fz_w (fz_w (fz_w (fz_w (fz_w (nx M3 3 c) (P + 3) (R 0 1) (nI a)) (P + 4) (R 0 1) (nI b)) (P + 5) (R 0 1) (nI c)) P 1 (nI (R 0 1 + 1))) 3 1 0, (o3.trans nx_off).trans (((((cpOff_w (by omega)).trans (cpOff_w (by omega))).trans (cpOff_w (by omega))).trans (cpOff_w (by omega))).trans (cpOff_w (by omega))), 4, by decide, rfl, by show q + 4 ≤ L; omega, fun f => (lp_cons S0).trans ((lp_cons s1).trans ((lp_cons s2).trans (lp_cons s3))), cR_fr (cR_aS h4.2.2.1) (fun o ho => by rw [w_ne (by omega)]), w_at⟩
