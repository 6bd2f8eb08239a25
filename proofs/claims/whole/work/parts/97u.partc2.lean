theorem cPie_e {P q L : Nat} {R : fz_A2} {t : Nat → Int32} {M0 M1 : fz_M} (hP : P = 20 ∨ P = 30) (hL : L ≤ 96) (hq : q + 1 ≤ L) (h : cIn P R L t 80 1 M1) (hw : wT R) (h6 : R 0 2 < 6) (S0 : ∀ kk, cF P kk (nI q, M0) = kk (nI (q + 1), M1)) : ∃ M', cpOff P M1 M' ∧ cAft (partP t L R q) P L q M0 M' := by
  have hn := hw.1
  have nb : ∀ b : Bool, fz_nb (if b = true then (1 : Int32) else 0) = true := by decide
  have s1 := cSt (G := fun d => decide (d < R 0 0)) hL hq h (by decide) (by decide) (fun d _ => by
    unfold f_X4_canGoOn
    rw [fz_gd_t (by decide), g_0, h.2.1, if_neg (by decide), if_neg (by decide)]
    unfold f_X4_canGoOnWithPiece
    rw [fz_f_e, h.1, if_pos (show nI 1 = 1 from rfl), fz_f_e, h.2.2.1.1.1]
    by_cases c : d < R 0 0
    · rw [if_neg (nI_ge c (by omega)), if_pos (decide_eq_true c)]; rfl
    · rw [if_pos (nI_le (by omega) (by omega)), if_neg (fun z => c (of_decide_eq_true z))]; rfl) len80 (by decide) (by decide)
  unfold partP
  cases g1 : fgP t L (q + 1) (fun d => decide (d < R 0 0)) with
  | none =>
    rw [g1] at s1
    dsimp only at s1
    exact ⟨M1, cpOff.refl P M1, 2, by omega, fun f => (lp_cons S0).trans (lp_last s1)⟩
  | some g =>
    rw [g1] at s1
    dsimp only at s1
    obtain ⟨a1, a2, -, -⟩ := fgP_some g1
    have h2 := nx_in (d := g) hP h (by decide)
    have r1 : (nx M1 1 g).1 4 1 = nI g := nx_at
    have o2 : cpOff P M1 (nx M1 1 g) := nx_off
    generalize nx M1 1 g = M2 at s1 h2 r1 o2
    have s2 := cSt (G := fun d => decide (1 ≤ d)) hL (show q + 2 ≤ L by omega) h2 (by decide) (by decide) (fun d hd => by
      unfold f_X4_canGoOn
      rw [fz_gd_t (by decide), g_0, h2.2.1, if_neg (by decide), if_neg (by decide)]
      unfold f_X4_canGoOnWithPiece
      rw [fz_f_e, h2.1, if_neg (by decide), if_neg (by decide), pos_e d hd, fz_b1_e, fz_gd_t (nb _)]) len80 (by decide) (by decide)
    dsimp only
    cases g2 : fgP t L (q + 2) (fun d => decide (1 ≤ d)) with
    | none =>
      rw [g2] at s2
      dsimp only at s2
      exact ⟨M2, o2, 3, by omega, fun f => (lp_cons S0).trans ((lp_cons s1).trans (lp_last s2))⟩
    | some w =>
      rw [g2] at s2
      dsimp only at s2
      obtain ⟨b1, b2, -, -⟩ := fgP_some g2
      have h3 := nx_in (d := w) hP h2 (by decide)
      have r3 : (nx M2 2 w).1 4 1 = nI g := by rw [nx_el (by decide)]; exact r1
      have r4 : (nx M2 2 w).1 4 2 = nI w := nx_at
      have o3 : cpOff P M1 (nx M2 2 w) := o2.trans nx_off
      generalize nx M2 2 w = M3 at s2 h3 r3 r4 o3
      have s3 := cSt (G := fun d => decide (1 ≤ d)) hL (show q + 3 ≤ L by omega) h3 (by decide) (by decide) (fun d hd => by
        unfold f_X4_canGoOn
        rw [fz_gd_t (by decide), g_0, h3.2.1, if_neg (by decide), if_neg (by decide)]
        unfold f_X4_canGoOnWithPiece
        rw [fz_f_e, h3.1, if_neg (by decide), if_neg (by decide), pos_e d hd, fz_b1_e, fz_gd_t (nb _)]) len80 (by decide) (by decide)
      dsimp only
      cases g3 : fgP t L (q + 3) (fun d => decide (1 ≤ d)) with
      | none =>
        rw [g3] at s3
        dsimp only at s3
        exact ⟨M3, o3, 4, by omega, fun f => (lp_cons S0).trans ((lp_cons s1).trans ((lp_cons s2).trans (lp_last s3)))⟩
      | some v =>
        rw [g3] at s3
        dsimp only at s3
        obtain ⟨c1, c2, -, -⟩ := fgP_some g3
        have h4 := nx_in (d := v) hP h3 (by decide)
        have r5 : (nx M3 3 v).1 4 1 = nI g := by rw [nx_el (by decide)]; exact r3
        have r6 : (nx M3 3 v).1 4 2 = nI w := by rw [nx_el (by decide)]; exact r4
        have r7 : (nx M3 3 v).1 4 3 = nI v := nx_at
        have o4 : cpOff P M1 (nx M3 3 v) := o3.trans nx_off
        generalize nx M3 3 v = M4 at s3 h4 r5 r6 r7 o4
        have h31 : R 0 2 < 2 ^ 31 := by omega
        have hin : fz_in (nI (R 0 2)) 6 = true := fz_in_nI h6 (by decide)
        have h60 : ¬ (6 : Int32) ≤ nI (R 0 2) := nI_ge (b := 6) h6 (by decide)
        have s4 := cSe (G := fun _ => true) (A := fun d => fz_w (fz_w (fz_w (fz_w (fz_w (nx M4 4 d) (P + 6) (R 0 2) (nI g)) (P + 7) (R 0 2) (nI w)) (P + 8) (R 0 2) (nI v)) (P + 9) (R 0 2) (nI d)) P 2 (nI (R 0 2 + 1))) hL (show q + 4 ≤ L by omega) h4 (by decide) (by decide) (fun d hd => by
          unfold f_X4_canGoOn
          rw [fz_gd_t (by decide), g_0, h4.2.1, if_neg (by decide), if_neg (by decide)]
          unfold f_X4_canGoOnWithPiece
          rw [fz_f_e, h4.1, if_neg (by decide), if_pos (by decide)]; rfl) len80 (by decide) (fun d hd => by
          have h5 := nx_in (d := d) hP h4 (by decide)
          have x1 : (nx M4 4 d).1 4 1 = nI g := by rw [nx_el (by decide)]; exact r5
          have x2 : (nx M4 4 d).1 4 2 = nI w := by rw [nx_el (by decide)]; exact r6
          have x3 : (nx M4 4 d).1 4 3 = nI v := by rw [nx_el (by decide)]; exact r7
          have x4 : (nx M4 4 d).1 4 4 = nI d := nx_at
          have y1 : P ≠ P + 6 := by omega
          have y2 : P ≠ P + 7 := by omega
          have y3 : P ≠ P + 8 := by omega
          have y4 : P ≠ P + 9 := by omega
          unfold f_X4_addPart
          rw [fz_gd_t (by decide), g_0, h5.2.1, if_neg (by decide), if_neg (by decide), fz_gd_t (by decide), fz_gd_t (by decide), fz_gd_t (by decide), fz_gd_t (by decide), g_1, g_2, g_3, g_4, x1, x2, x3, x4]
          unfold f_X3_addPiece
          simp only [fz_f_e, w_ne y1, w_ne y2, w_ne y3, w_ne y4, h5.2.2.1.1.2.2.1, h60, fz_gd_t hin, fz_s_nI h31, fz_bd_e, fz_sf_e, nI_1, fz_b1_e, ↓reduceIte])
        dsimp only
        cases g4 : fgP t L (q + 4) (fun _ => true) with
        | none =>
          rw [g4] at s4
          dsimp only at s4
          exact ⟨M4, o4, 5, by omega, fun f => (lp_cons S0).trans ((lp_cons s1).trans ((lp_cons s2).trans ((lp_cons s3).trans (lp_last s4))))⟩
        | some x =>
          rw [g4] at s4
          dsimp only at s4
          obtain ⟨d1, d2, -, -⟩ := fgP_some g4
          have h5 := nx_in (d := x) hP h4 (by decide)
          exact ⟨fz_w (fz_w (fz_w (fz_w (fz_w (fz_w (nx M4 4 x) (P + 6) (R 0 2) (nI g)) (P + 7) (R 0 2) (nI w)) (P + 8) (R 0 2) (nI v)) (P + 9) (R 0 2) (nI x)) P 2 (nI (R 0 2 + 1))) 3 1 0, (o4.trans nx_off).trans ((((((cpOff_w (by omega)).trans (cpOff_w (by omega))).trans (cpOff_w (by omega))).trans (cpOff_w (by omega))).trans (cpOff_w (by omega))).trans (cpOff_w (by omega))), 5, by decide, rfl, by show q + 5 ≤ L; omega, fun f => (lp_cons S0).trans ((lp_cons s1).trans ((lp_cons s2).trans ((lp_cons s3).trans (lp_cons s4)))), cR_fr (cR_aP h5.2.2.1) (fun o ho => by rw [w_ne (by omega)]), w_at⟩
theorem cPart_e {P q L : Nat} {R : fz_A2} {M : fz_M} (hP : P = 20 ∨ P = 30) (hL : L ≤ 96) (hq : q < L) (h1 : M.1 1 1 = nI L) (h3 : M.1 3 1 = 0) (hT : cR P R M) (hw : wT R) : ∃ M', cpOff P M M' ∧ cAft (part (M.1 2) L R q) P L q M M' := by
  have hn := hw.1
  have hn1 := hw.2.1
  have hn2 := hw.2.2.1
  have k6 : (6 : Int32) ≤ nI (R 0 0) ↔ 6 ≤ R 0 0 := nI_leI (a := 6) (by decide) (by omega)
  have k26 : (6 : Int32) ≤ nI (R 0 2) ↔ 6 ≤ R 0 2 := nI_leI (a := 6) (by decide) (by omega)
  have k0 : nI (R 0 0) ≤ 0 ↔ R 0 0 ≤ 0 := nI_leI (b := 0) (by omega) (by decide)
  have nb : ∀ b : Bool, fz_nb (if b = true then (1 : Int32) else 0) = true := by decide
  -- a letter that is taken
  have yes : f_X4_canBegin P (M.1 2 q) M = some 1 → (∀ m, (m = 3 ∨ m = 4 ∨ m = 5) → f_X4_lengthOfPart (fz_w (fz_w M 4 0 (M.1 2 q)) 3 1 1) = some (nI m) → ∀ kk, cF P kk (nI q, M) = kk (nI (q + 1), fz_w (fz_w M 4 0 (M.1 2 q)) 3 1 1)) := by
    intro hb m hm hl kk
    have e1 : (fz_w M 4 0 (M.1 2 q)).1 3 1 = 0 := by rw [w_ne (by decide)]; exact h3
    have ne : ¬ (1 : Int32) = nI m := fun z => by have := (nI_eq (a := 1) (by decide) (by omega)).mp z; omega
    have e3 : (fz_w (fz_w M 4 0 (M.1 2 q)) 3 1 1).1 3 1 = 1 := w_at
    rw [cTk hL hq h1]
    unfold f_X4_takes
    rw [fz_f_e, h3, if_neg (not_not_intro rfl), hb, fz_b1_e, if_pos (by decide), fz_gd_t (by decide)]
    show fz_b2 (fz_bd (fz_w M 4 0 (M.1 2 q)) _) _ = _
    rw [fz_bd_e]
    unfold f_X4_takes_63
    rw [fz_f_e, e1, show (0 : Int32) + 1 = 1 from by decide, fz_sf_e]
    show fz_b2 (fz_bd (fz_w (fz_w M 4 0 (M.1 2 q)) 3 1 1) _) _ = _
    rw [fz_bd_e, hl, fz_b1_e, fz_f_e, e3, if_pos ne, fz_b2_e, if_pos (by decide)]
  have no : f_X4_canBegin P (M.1 2 q) M = some 0 → ∀ kk, cF P kk (nI q, M) = some (nI q, M) := by
    intro hb kk
    rw [cTk hL hq h1]
    unfold f_X4_takes
    rw [fz_f_e, h3, if_neg (not_not_intro rfl), hb, fz_b1_e, if_neg (by decide)]
    rfl
  have hin : ∀ x, M.1 2 q = x → cIn P R L (M.1 2) x 1 (fz_w (fz_w M 4 0 (M.1 2 q)) 3 1 1) := fun x hx => ⟨w_at, by rw [w_ne (by decide), w_at]; exact hx, cR_fr hT (fun o ho => by rw [w_ne (by omega), w_ne (by omega)]), by rw [w_ne (by decide), w_ne (by decide)]; exact h1, by rw [w_ne (by decide), w_ne (by decide)]⟩
  have off : cpOff P M (fz_w (fz_w M 4 0 (M.1 2 q)) 3 1 1) := (cpOff_w (Or.inr (Or.inl rfl))).trans (cpOff_w (Or.inl rfl))
  have stop : f_X4_canBegin P (M.1 2 q) M = some 0 → ∃ M', cpOff P M M' ∧ cAft (.inl q) P L q M M' := fun hb => ⟨M, cpOff.refl P M, 1, by omega, fun f => lp_last (no hb)⟩
  generalize fz_w (fz_w M 4 0 (M.1 2 q)) 3 1 1 = M1 at yes hin off
  unfold part
  by_cases y1 : M.1 2 q = 72
  · have hc : f_X4_canBegin P (M.1 2 q) M = some (if 6 ≤ R 0 0 then 0 else 1) := by
      unfold f_X4_canBegin
      rw [if_pos y1, fz_f_e, hT.1.1]
      by_cases c : 6 ≤ R 0 0
      · rw [if_pos c, if_pos (k6.mpr c)]
      · rw [if_neg c, if_neg (fun z => c (k6.mp z))]
    by_cases c : R 0 0 < 6
    · rw [if_pos ⟨y1, c⟩]
      rw [if_neg (by omega)] at hc
      have hi := hin 72 y1
      obtain ⟨M', m1, m2⟩ := cHou_e hP hL (by omega) hi c (yes hc 3 (by decide) (len72 M1 hi.2.1))
      exact ⟨M', off.trans m1, m2⟩
    · rw [if_neg (fun z => c z.2), if_neg (fun z => by rw [y1] at z; exact absurd z.1 (by decide)), if_neg (fun z => by rw [y1] at z; exact absurd z.1 (by decide))]
      rw [if_pos (by omega)] at hc
      exact stop hc
  · rw [if_neg (fun z => y1 z.1)]
    by_cases y2 : M.1 2 q = 83
    · have hc : f_X4_canBegin P (M.1 2 q) M = some (if (decide (R 0 1 < 10) && anyB (leavB R) (R 0 0)) = true then 1 else 0) := by
        unfold f_X4_canBegin
        rw [if_neg y1, if_neg (by rw [y2]; decide), if_pos y2, cHav_e hT.1 hw, fz_b1_e, fz_gd_t (nb _)]
      by_cases c : (decide (R 0 1 < 10) && anyB (leavB R) (R 0 0)) = true
      · rw [if_pos ⟨y2, c⟩]
        rw [if_pos c] at hc
        have z := c
        rw [Bool.and_eq_true, decide_eq_true_eq] at z
        have hi := hin 83 y2
        obtain ⟨M', m1, m2⟩ := cStr_e hP hL (by omega) hi hw z.1 (yes hc 4 (by decide) (len83 M1 hi.2.1))
        exact ⟨M', off.trans m1, m2⟩
      · rw [if_neg (fun z => c z.2), if_neg (fun z => by rw [y2] at z; exact absurd z.1 (by decide))]
        rw [if_neg c] at hc
        exact stop hc
    · rw [if_neg (fun z => y2 z.1)]
      by_cases y3 : M.1 2 q = 80
      · have hc : f_X4_canBegin P (M.1 2 q) M = some (if R 0 0 ≤ 0 then 0 else if 6 ≤ R 0 2 then 0 else 1) := by
          unfold f_X4_canBegin
          rw [if_neg y1, if_pos y3, fz_f_e, fz_f_e, hT.1.1, hT.1.2.2.1]
          by_cases c : R 0 0 ≤ 0
          · rw [if_pos c, if_pos (k0.mpr c)]
          · rw [if_neg c, if_neg (fun z => c (k0.mp z))]
            by_cases c2 : 6 ≤ R 0 2
            · rw [if_pos c2, if_pos (k26.mpr c2)]
            · rw [if_neg c2, if_neg (fun z => c2 (k26.mp z))]
        by_cases c : 0 < R 0 0 ∧ R 0 2 < 6
        · rw [if_pos ⟨y3, c⟩]
          rw [if_neg (by omega), if_neg (by omega)] at hc
          have hi := hin 80 y3
          obtain ⟨M', m1, m2⟩ := cPie_e hP hL (by omega) hi hw c.2 (yes hc 5 (by decide) (len80 M1 hi.2.1))
          exact ⟨M', off.trans m1, m2⟩
        · rw [if_neg (fun z => c z.2)]
          refine stop ?_
          rw [hc]
          by_cases c3 : R 0 0 ≤ 0
          · rw [if_pos c3]
          · rw [if_neg c3, if_pos (by omega)]
      · rw [if_neg (fun z => y3 z.1)]
        refine stop ?_
        unfold f_X4_canBegin
        rw [if_neg y1, if_neg y3, if_neg y2]
