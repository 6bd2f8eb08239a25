theorem level_t {x : Int32} (M : fz_M) (h : 0 ≤ x ∧ x ≤ 19) : f_X8_isLevel x M = some 1 := by
  unfold f_X8_isLevel
  rw [if_neg (Int32.not_lt.mpr h.1), if_neg (Int32.not_lt.mpr h.2)]
theorem level_f {x : Int32} (M : fz_M) (h : ¬ (0 ≤ x ∧ x ≤ 19)) : f_X8_isLevel x M = some 0 := by
  unfold f_X8_isLevel
  by_cases h0 : x < 0
  · rw [if_pos h0]
  · rw [if_neg h0, if_pos (Int32.not_le.mp fun q => h ⟨Int32.not_lt.mp h0, q⟩)]
theorem hours_t {x : Int32} (M : fz_M) (h : 1 ≤ x ∧ x ≤ 9) : f_X8_areHours x M = some 1 := by
  unfold f_X8_areHours
  rw [if_neg (Int32.not_lt.mpr h.1), if_neg (Int32.not_lt.mpr h.2)]
theorem hours_f {x : Int32} (M : fz_M) (h : ¬ (1 ≤ x ∧ x ≤ 9)) : f_X8_areHours x M = some 0 := by
  unfold f_X8_areHours
  by_cases h0 : x < 1
  · rw [if_pos h0]
  · rw [if_neg h0, if_pos (Int32.not_le.mp fun q => h ⟨Int32.not_lt.mp h0, q⟩)]
theorem springs_t {x : Int32} (M : fz_M) (h : 0 ≤ x ∧ x ≤ 9) : f_X8_areSprings x M = some 1 := by
  unfold f_X8_areSprings
  rw [if_neg (Int32.not_lt.mpr h.1), if_neg (Int32.not_lt.mpr h.2)]
theorem springs_f {x : Int32} (M : fz_M) (h : ¬ (0 ≤ x ∧ x ≤ 9)) : f_X8_areSprings x M = some 0 := by
  unfold f_X8_areSprings
  by_cases h0 : x < 0
  · rw [if_pos h0]
  · rw [if_neg h0, if_pos (Int32.not_le.mp fun q => h ⟨Int32.not_lt.mp h0, q⟩)]
theorem lev_e {x : Int32} (h : 0 ≤ x ∧ x ≤ 19) : ∃ i, i ≤ 19 ∧ x = nI i := by
  rcases x_btw x 0 19 (by decide) (by decide) with ⟨i, -, h2, h3⟩ | h2
  · exact ⟨i, h2, h3⟩
  · exact absurd h (ge_of (by decide) (by decide) h2)
theorem hrs_e {x : Int32} (h : 1 ≤ x ∧ x ≤ 9) : ∃ i, 1 ≤ i ∧ i ≤ 9 ∧ x = nI i := by
  rcases x_btw x 1 9 (by decide) (by decide) with ⟨i, h1, h2, h3⟩ | h2
  · exact ⟨i, h1, h2, h3⟩
  · exact absurd h (ge_of (by decide) (by decide) h2)
theorem spr_e {x : Int32} (h : 0 ≤ x ∧ x ≤ 9) : ∃ i, i ≤ 9 ∧ x = nI i := by
  rcases x_btw x 0 9 (by decide) (by decide) with ⟨i, -, h2, h3⟩ | h2
  · exact ⟨i, h2, h3⟩
  · exact absurd h (ge_of (by decide) (by decide) h2)
theorem water_e {P : Nat} {T : fz_A2} {M : fz_M} (hT : cT P T M) (hw : wT T) {h lv : Nat} (hh : h < T 0 0) (hl : lv ≤ 19) : f_X3_waterIn P (nI h) (nI lv) M = some (nI (lv - T 1 h)) := by
  have h0 := hw.1
  obtain ⟨a1, -⟩ := hT.2.2.2.1 h hh
  obtain ⟨b1, -⟩ := hw.2.2.2.1 h hh
  unfold f_X3_waterIn
  rw [fz_gd_t (fz_in_nI (by omega) (by decide)), fz_g_nI (by omega), a1]
  by_cases hc : T 1 h < lv
  · rw [nI_sub (by omega), if_pos (show (0 : Int32) < nI (lv - T 1 h) from nI_lt (a := 0) (by omega) (by omega))]
  · rw [if_neg, show lv - T 1 h = 0 from by omega, nI_0]
    intro q
    rw [Int32.lt_iff_toInt_lt, Int32.toInt_sub, nI_toInt (by omega), nI_toInt (by omega), Int.bmod_eq_of_le (by omega) (by omega)] at q
    have : (0 : Int32).toInt = 0 := rfl
    omega
theorem depth_e {T : fz_A2} {M : fz_M} (hT : mT T M) (hw : wT T) {h lv : Nat} (hh : h < T 0 0) (hl : lv ≤ 19) : f_X9_depth (nI h) (nI lv) M = some (nI (lv - T 1 h)) := by
  have h0 := hw.1
  obtain ⟨a1, -⟩ := hT.2.2.2.1 h hh
  obtain ⟨b1, -⟩ := hw.2.2.2.1 h hh
  unfold f_X9_depth
  rw [fz_gd_t (fz_in_nI (by omega) (by decide)), fz_gd_t (fz_in_nI (by omega) (by decide)), fz_g_nI (by omega), a1]
  by_cases hc : T 1 h < lv
  · rw [if_neg (nI_ge hc (by omega)), nI_sub (by omega)]
  · rw [if_pos (nI_le (by omega) (by omega)), show lv - T 1 h = 0 from by omega, nI_0]
theorem p_deep (a w : Int32) : fz_pP Rel (f_X8_deep a w) (f_X9_deep a w) := by
  intro MC MM hR
  have hR1 := hR.thrown
  have hR2 := hR1
  generalize hM1 : fz_w MM 0 0 0 = M1 at hR1 hR2
  obtain ⟨P, T, S, sp, B, h1, ⟨hT, hM, hw⟩, h3, h4, -⟩ := hR2
  have hw0 := hw.1
  rcases x_rng a (n := T 0 0) (by omega) with ⟨i, hi, rfl⟩ | hx
  · by_cases hl : 0 ≤ w ∧ w ≤ 19
    · have t1 := level_t MC hl
      obtain ⟨lv, hlv, rfl⟩ := lev_e hl
      exact ⟨nI (lv - T 1 i), M1, by simp (decide := true) only [f_X8_deep, house_t h1 hT hw hi, t1, fz_b1_e, fz_bd_e, fz_d_e, h1.1, fz_gd_t (isP_ok h1), water_e hT hw hi hlv, ↓reduceIte], by simp (decide := true) only [f_X9_deep, fz_sf_e, hM1, nohouse_t hM hw hi, fz_b1_e, fz_bd_e, in_019, hl, and_self, depth_e hM hw hi hlv, ↓reduceIte], hR1⟩
    · exact ⟨-2, M1, by simp (decide := true) only [f_X8_deep, house_t h1 hT hw hi, level_f MC hl, fz_b1_e, ↓reduceIte], by simp (decide := true) only [f_X9_deep, fz_sf_e, hM1, nohouse_t hM hw hi, fz_b1_e, fz_bd_e, in_019, hl, ↓reduceIte], hR1⟩
  · exact ⟨-1, M1, by simp (decide := true) only [f_X8_deep, house_f h1 hT hw hx, fz_b1_e, ↓reduceIte], by simp (decide := true) only [f_X9_deep, fz_sf_e, hM1, nohouse_f hM hw hx, fz_b1_e, fz_bd_e, ↓reduceIte], hR1⟩
theorem fz_z0 : fz_z 0 = nI 0 := rfl
theorem fz_z1 : fz_z 1 = nI 1 := rfl
theorem rel_shut {P : Nat} {T S : fz_A2} {sp : Int32} {B : Nat → Nat} {MC MM : fz_M} (h1 : rTop P MC) (h2 : rTown P T MC MM) (h3 : rNow T S sp MC MM) (h4 : rShut B MC MM) (h5 : rActs T MC MM) (h6 : rKept T MC MM) (h7 : rMark MC MM) (h8 : rText MC MM) {i z : Nat} (hz : z ≤ 1) : Rel (fz_w MC 52 i (nI z)) (fz_w MM 7 i (nI z)) := by
  have hP := rTop_P h1
  have hn := h2.2.2.2.2.1
  have hC : ∀ c, c ≠ 52 → (fz_w MC 52 i (nI z)).1 c = MC.1 c := fun c h => w_ne h
  have hM : ∀ c, c ≠ 7 → (fz_w MM 7 i (nI z)).1 c = MM.1 c := fun c h => w_ne h
  have hM0 : ∀ j, (fz_w MM 7 i (nI z)).1 0 j = MM.1 0 j := fun j => by rw [w_ne (by decide)]
  refine ⟨P, T, S, sp, fun j => if j = i then z else B j, rTop_fr h1 rfl, ⟨cT_fr h2.1 fun o ho => hC _ (by omega), mT_fr h2.2.1 (hM0 4) (hM0 5) (hM0 6) (fun c a b d => hM c d), h2.2.2⟩, ⟨cS_fr h3.1 hn fun o ho => hC _ (by omega), mL_fr h3.2.1 (hM0 21) (fun c a b => hM c (by omega)), h3.2.2⟩, fun j hj => ?_, rActs_fr h5 hn (hC 5 (by decide)) (fun c hc => hC c (by omega)) (hM0 35) (hM 25 (by decide)), rKept_fr h6 hn (hC 19 (by decide)) (fun c a b => hC c (by omega)) (hM 26 (by decide)) (hM 27 (by decide)) (hM 28 (by decide)), rMark_fr h7 (hC 7 (by decide)) (hC 8 (by decide)) (hC 9 (by decide)) (hM0 43) (hM 32 (by decide)) (hM 33 (by decide)), rText_fr h8 (hC 1 (by decide)) (hC 2 (by decide)) (hM0 2) (hM 1 (by decide))⟩
  by_cases hji : j = i
  · subst hji
    rw [w_at, w_at]
    show nI z = nI (if j = j then z else B j) ∧ nI z = nI (if j = j then z else B j) ∧ (if j = j then z else B j) ≤ 1
    rw [if_pos rfl]
    exact ⟨rfl, rfl, hz⟩
  · rw [w_nj hji, w_nj hji]
    show _ = nI (if j = i then z else B j) ∧ _ = nI (if j = i then z else B j) ∧ (if j = i then z else B j) ≤ 1
    rw [if_neg hji]
    exact h4 j hj
theorem p_shut (a : Int32) {z : Nat} (hz : z ≤ 1) : fz_pW Rel (f_X8_shut a (nI z)) (f_X9_shut a (nI z)) := by
  intro MC MM hR
  have hR1 := hR.thrown
  have hR2 := hR1
  generalize hM1 : fz_w MM 0 0 0 = M1 at hR1 hR2
  obtain ⟨P, T, S, sp, B, h1, ⟨hT, hM, hw⟩, h3, h4, h5, h6, h7, h8⟩ := hR2
  have hw2 := hw.2.1
  have ez : fz_z (nI z) = nI z := by
    rcases (show z = 0 ∨ z = 1 by omega) with rfl | rfl <;> rfl
  rcases x_rng a (n := T 0 1) (by omega) with ⟨i, hi, rfl⟩ | hx
  · have hin : fz_in (nI i) 10 = true := fz_in_nI (by omega) (by decide)
    have h31 : i < 2 ^ 31 := by omega
    obtain ⟨d1, d2, d3⟩ := h4 i (by omega)
    have hrel : Rel (fz_w MC (40 + 12) i (nI z)) (fz_w M1 7 i (nI z)) := rel_shut h1 ⟨hT, hM, hw⟩ h3 h4 h5 h6 h7 h8 hz
    by_cases hq : nI (B i) = nI z
    · exact ⟨0, _, _, by simp (decide := true) only [f_X8_shut, stream_t h1 hT hw hi, fz_b1_e, fz_bd_e, fz_gd_t hin, fz_g_nI h31, fz_s_nI h31, ez, ↓reduceIte, show MC.1 (40 + 12) i = nI (B i) from d1, hq, not_true_eq_false], by simp (decide := true) only [f_X9_shut, fz_sf_e, hM1, nostream_t hM hw hi, fz_b1_e, fz_bd_e, fz_gd_t hin, fz_g_nI h31, fz_s_nI h31, ez, ↓reduceIte, d2, hq, not_true_eq_false], hrel⟩
    · exact ⟨1, _, _, by simp (decide := true) only [f_X8_shut, stream_t h1 hT hw hi, fz_b1_e, fz_bd_e, fz_gd_t hin, fz_g_nI h31, fz_s_nI h31, ez, ↓reduceIte, show MC.1 (40 + 12) i = nI (B i) from d1, hq, not_false_eq_true], by simp (decide := true) only [f_X9_shut, fz_sf_e, hM1, nostream_t hM hw hi, fz_b1_e, fz_bd_e, fz_gd_t hin, fz_g_nI h31, fz_s_nI h31, ez, ↓reduceIte, d2, hq, not_false_eq_true], hrel⟩
  · exact ⟨-1, MC, M1, by simp (decide := true) only [f_X8_shut, stream_f h1 hT hw hx, fz_b1_e, ↓reduceIte], by simp (decide := true) only [f_X9_shut, fz_sf_e, hM1, nostream_f hM hw hx, fz_b1_e, fz_bd_e, ↓reduceIte], hR1⟩
/-- a change of marks or of the text -/
theorem rel_low {MC MM MC' MM' : fz_M} (h : Rel MC MM) (hC : ∀ c, c ≠ 1 → c ≠ 2 → c ≠ 7 → c ≠ 8 → c ≠ 9 → MC'.1 c = MC.1 c) (hC2 : MC'.2.2 = MC.2.2) (hM : ∀ c, c ≠ 0 → c ≠ 1 → c ≠ 32 → c ≠ 33 → MM'.1 c = MM.1 c) (hM0 : ∀ j, j ≠ 0 → j ≠ 2 → j ≠ 43 → MM'.1 0 j = MM.1 0 j) (h7 : rMark MC' MM') (h8 : rText MC' MM') : Rel MC' MM' := by
  obtain ⟨P, T, S, sp, B, h1, h2, h3, h4, h5, h6, -, -⟩ := h
  have hP := rTop_P h1
  have hn := h2.2.2.2.2.1
  exact ⟨P, T, S, sp, B, rTop_fr h1 hC2, ⟨cT_fr h2.1 fun o ho => hC _ (by omega) (by omega) (by omega) (by omega) (by omega), mT_fr h2.2.1 (hM0 4 (by decide) (by decide) (by decide)) (hM0 5 (by decide) (by decide) (by decide)) (hM0 6 (by decide) (by decide) (by decide)) (fun c a b d => hM c (by omega) (by omega) (by omega) (by omega)), h2.2.2⟩, ⟨cS_fr h3.1 hn fun o ho => hC _ (by omega) (by omega) (by omega) (by omega) (by omega), mL_fr h3.2.1 (hM0 21 (by decide) (by decide) (by decide)) (fun c a b => hM c (by omega) (by omega) (by omega) (by omega)), h3.2.2⟩, rShut_fr h4 (hC 52 (by decide) (by decide) (by decide) (by decide) (by decide)) (hM 7 (by decide) (by decide) (by decide) (by decide)), rActs_fr h5 hn (hC 5 (by decide) (by decide) (by decide) (by decide) (by decide)) (fun c hc => hC c (by omega) (by omega) (by omega) (by omega) (by omega)) (hM0 35 (by decide) (by decide) (by decide)) (hM 25 (by decide) (by decide) (by decide) (by decide)), rKept_fr h6 hn (hC 19 (by decide) (by decide) (by decide) (by decide) (by decide)) (fun c a b => hC c (by omega) (by omega) (by omega) (by omega) (by omega)) (hM 26 (by decide) (by decide) (by decide) (by decide)) (hM 27 (by decide) (by decide) (by decide) (by decide)) (hM 28 (by decide) (by decide) (by decide) (by decide)), h7, h8⟩
theorem Rel.mark {MC MM : fz_M} (h : Rel MC MM) : rMark MC MM := by obtain ⟨P, T, S, sp, B, -, -, -, -, -, -, h7, -⟩ := h; exact h7
theorem Rel.text {MC MM : fz_M} (h : Rel MC MM) : rText MC MM := by obtain ⟨P, T, S, sp, B, -, -, -, -, -, -, -, h8⟩ := h; exact h8
theorem p_wipe : fz_pW Rel f_X8_wipe f_X9_wipe := by
  intro MC MM hR
  have hR1 := hR.thrown
  generalize hM1 : fz_w MM 0 0 0 = M1 at hR1
  obtain ⟨n, n1, n2, n3, n4⟩ := hR1.text
  refine ⟨nI n, fz_w MC 1 1 0, fz_w M1 0 2 0, by simp only [f_X8_wipe, fz_bd_e, fz_f_e, fz_sf_e, n2], by simp only [f_X9_wipe, fz_bd_e, fz_f_e, fz_sf_e, hM1, n3], ?_⟩
  exact rel_low hR1 (fun c a _ _ _ _ => w_ne a) rfl (fun c a _ _ _ => w_ne a) (fun j _ a _ => w_nj a) (rMark_fr hR1.mark (w_ne (by decide)) (w_ne (by decide)) (w_ne (by decide)) (w_nj (by decide)) (w_ne (by decide)) (w_ne (by decide))) ⟨0, by decide, w_at, w_at, fun i hi => absurd hi (Nat.not_lt_zero i)⟩
theorem p_unmark : fz_pW Rel f_X8_unmark f_X9_unmark := by
  intro MC MM hR
  have hR1 := hR.thrown
  generalize hM1 : fz_w MM 0 0 0 = M1 at hR1
  obtain ⟨n, n1, n2, n3, n4⟩ := hR1.mark
  refine ⟨nI n, fz_w MC 7 2 0, fz_w M1 0 43 0, by simp only [f_X8_unmark, fz_bd_e, fz_f_e, fz_sf_e, n2], by simp only [f_X9_unmark, fz_bd_e, fz_f_e, fz_sf_e, hM1, n3], ?_⟩
  exact rel_low hR1 (fun c _ _ a _ _ => w_ne a) rfl (fun c a _ _ _ => w_ne a) (fun j _ _ a => w_nj a) ⟨0, by decide, w_at, w_at, fun i hi => absurd hi (Nat.not_lt_zero i)⟩ (rText_fr hR1.text (w_ne (by decide)) (w_ne (by decide)) (w_nj (by decide)) (w_ne (by decide)))
theorem p_mark (a w : Int32) : fz_pW Rel (f_X8_mark a w) (f_X9_mark a w) := by
  intro MC MM hR
  have hR1 := hR.thrown
  have hR2 := hR1
  generalize hM1 : fz_w MM 0 0 0 = M1 at hR1 hR2
  obtain ⟨P, T, S, sp, B, h1, ⟨hT, hM, hw⟩, h3, h4, -⟩ := hR2
  have hw0 := hw.1
  rcases x_rng w (n := T 0 0) (by omega) with ⟨i, hi, rfl⟩ | hx
  · by_cases hl : 1 ≤ a ∧ a ≤ 9
    · have k1 : ¬ a < 1 := Int32.not_lt.mpr hl.1
      obtain ⟨n, n1, n2, n3, n4⟩ := hR1.mark
      by_cases hn : n < 8
      · have hin : fz_in (nI n) 8 = true := fz_in_nI hn (by decide)
        have h31 : n < 2 ^ 31 := by omega
        have h8 : nI n < 8 := by rw [n_8]; exact nI_lt hn (by decide)
        have h8' : ¬ (8 : Int32) ≤ nI n := Int32.not_le.mpr h8
        have h8'' : ¬ nI n = 8 := by rw [n_8, nI_eq h31 (by decide)]; omega
        have c1 : (fz_w MC 8 n a).1 7 2 = nI n := by rw [w_ne (by decide)]; exact n2
        have c2 : (fz_w (fz_w MC 8 n a) 9 n (nI i)).1 7 2 = nI n := by rw [w_ne (by decide)]; exact c1
        have m1 : (fz_w M1 32 n a).1 0 43 = nI n := by rw [w_ne (by decide)]; exact n3
        have m2 : (fz_w (fz_w M1 32 n a) 33 n (nI i)).1 0 43 = nI n := by rw [w_ne (by decide)]; exact m1
        refine ⟨nI (n + 1), fz_w (fz_w (fz_w MC 8 n a) 9 n (nI i)) 7 2 (nI (n + 1)), fz_w (fz_w (fz_w M1 32 n a) 33 n (nI i)) 0 43 (nI (n + 1)), ?_, ?_, ?_⟩
        · simp (decide := true) only [f_X8_mark, f_X2_add, house_t h1 hT hw hi, fz_b1_e, fz_bd_e, fz_f_e, k1, hl.2, n2, h8, h8', fz_gd_t hin, fz_s_nI h31, fz_sf_e, c1, c2, nI_1, w_at, ↓reduceIte]
        · simp (decide := true) only [f_X9_mark, fz_sf_e, hM1, nohouse_t hM hw hi, fz_b1_e, fz_bd_e, fz_f_e, in_19, hl, and_self, n3, h8'', fz_gd_t hin, fz_s_nI h31, m1, m2, nI_1, w_at, ↓reduceIte, not_false_eq_true]
        · refine rel_low hR1 (fun c _ _ x7 x8 x9 => by rw [w_ne x7, w_ne x9, w_ne x8]) rfl (fun c x0 _ x2 x3 => by rw [w_ne x0, w_ne x3, w_ne x2]) (fun j _ _ x => by rw [w_nj x, w_ne (by decide), w_ne (by decide)]) ⟨n + 1, by omega, w_at, w_at, fun j hj => ?_⟩ (rText_fr hR1.text (by rw [w_ne (by decide), w_ne (by decide), w_ne (by decide)]) (by rw [w_ne (by decide), w_ne (by decide), w_ne (by decide)]) (by rw [w_nj (by decide), w_ne (by decide), w_ne (by decide)]) (by rw [w_ne (by decide), w_ne (by decide), w_ne (by decide)]))
          rw [w_ne (show (8 : Nat) ≠ 7 by decide), w_ne (show (9 : Nat) ≠ 7 by decide), w_ne (show (32 : Nat) ≠ 0 by decide), w_ne (show (33 : Nat) ≠ 0 by decide), w_ne (show (8 : Nat) ≠ 9 by decide), w_ne (show (32 : Nat) ≠ 33 by decide)]
          by_cases hjn : j = n
          · subst hjn
            rw [w_at, w_at, w_at, w_at]
            exact ⟨rfl, rfl⟩
          · simp only [w_nj hjn]
            exact n4 j (by omega)
      · have hn8 : n = 8 := by omega
        subst hn8
        exact ⟨-4, MC, M1, by simp (decide := true) only [f_X8_mark, house_t h1 hT hw hi, fz_b1_e, fz_f_e, k1, hl.2, n2, ↓reduceIte], by simp (decide := true) only [f_X9_mark, fz_sf_e, hM1, nohouse_t hM hw hi, fz_b1_e, fz_bd_e, fz_f_e, in_19, hl, and_self, n3, ↓reduceIte], hR1⟩
    · refine ⟨-2, MC, M1, ?_, by simp (decide := true) only [f_X9_mark, fz_sf_e, hM1, nohouse_t hM hw hi, fz_b1_e, fz_bd_e, in_19, hl, ↓reduceIte], hR1⟩
      by_cases k1 : a < 1
      · simp (decide := true) only [f_X8_mark, house_t h1 hT hw hi, fz_b1_e, k1, ↓reduceIte]
      · have k9 : ¬ a ≤ 9 := fun q => hl ⟨Int32.not_lt.mp k1, q⟩
        simp (decide := true) only [f_X8_mark, house_t h1 hT hw hi, fz_b1_e, k1, k9, ↓reduceIte]
  · exact ⟨-1, MC, M1, by simp (decide := true) only [f_X8_mark, house_f h1 hT hw hx, fz_b1_e, ↓reduceIte], by simp (decide := true) only [f_X9_mark, fz_sf_e, hM1, nohouse_f hM hw hx, fz_b1_e, fz_bd_e, ↓reduceIte], hR1⟩
