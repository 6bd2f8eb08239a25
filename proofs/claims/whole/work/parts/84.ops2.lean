theorem in_09 (x : Int32) (M : fz_M) : f_X9_in x.toInt64 0 9 M = some (if 0 ≤ x ∧ x ≤ 9 then 1 else 0) := in32 x 0 9 M
theorem in_19 (x : Int32) (M : fz_M) : f_X9_in x.toInt64 1 9 M = some (if 1 ≤ x ∧ x ≤ 9 then 1 else 0) := in32 x 1 9 M
theorem in_18 (x : Int32) (M : fz_M) : f_X9_in x.toInt64 1 8 M = some (if 1 ≤ x ∧ x ≤ 8 then 1 else 0) := in32 x 1 8 M
theorem in_019 (x : Int32) (M : fz_M) : f_X9_in x.toInt64 0 19 M = some (if 0 ≤ x ∧ x ≤ 19 then 1 else 0) := in32 x 0 19 M
theorem in_01 (x : Int32) (M : fz_M) : f_X9_in x.toInt64 0 1 M = some (if 0 ≤ x ∧ x ≤ 1 then 1 else 0) := in32 x 0 1 M
/-- from one number to another -/
theorem x_btw (x : Int32) (a b : Nat) (ha : a < 2 ^ 31) (hb : b < 2 ^ 30) : (∃ i, a ≤ i ∧ i ≤ b ∧ x = nI i) ∨ (x < nI a ∨ nI b < x) := by
  rcases x_rng x (n := b + 1) (by omega) with ⟨i, hi, rfl⟩ | h
  · by_cases h2 : a ≤ i
    · exact Or.inl ⟨i, h2, by omega, rfl⟩
    · exact Or.inr (Or.inl (nI_lt (by omega) ha))
  · rcases h with h | h
    · refine Or.inr (Or.inl ?_)
      rw [Int32.lt_iff_toInt_lt] at h ⊢
      rw [nI_toInt ha]
      have : (0 : Int32).toInt = 0 := rfl
      omega
    · refine Or.inr (Or.inr ?_)
      rw [Int32.le_iff_toInt_le, nI_toInt (by omega)] at h
      rw [Int32.lt_iff_toInt_lt, nI_toInt (by omega)]
      omega
theorem ge_of {x : Int32} {a b : Nat} (ha : a < 2 ^ 31) (hb : b < 2 ^ 31) (h : x < nI a ∨ nI b < x) : ¬ (nI a ≤ x ∧ x ≤ nI b) := by
  rintro ⟨h1, h2⟩
  rcases h with h | h
  · exact Int32.not_lt.mpr h1 h
  · exact Int32.not_lt.mpr h2 h
/-- a change of the stand that is now -/
theorem rel_now {P : Nat} {T S' : fz_A2} {sp' : Int32} {B : Nat → Nat} {MC MM MC' MM' : fz_M} (h1 : rTop P MC) (h2 : rTown P T MC MM) (h4 : rShut B MC MM) (h5 : rActs T MC MM) (h6 : rKept T MC MM) (h7 : rMark MC MM) (h8 : rText MC MM) (hC : ∀ c, c < 40 ∨ 52 ≤ c → MC'.1 c = MC.1 c) (hC2 : MC'.2.2 = MC.2.2) (hM : ∀ c, c ≠ 0 → (c < 11 ∨ 15 < c) → MM'.1 c = MM.1 c) (hM0 : ∀ j, j ≠ 0 → j ≠ 21 → MM'.1 0 j = MM.1 0 j) (h3 : rNow T S' sp' MC' MM') : Rel MC' MM' := by
  have hP := rTop_P h1
  have hn := h2.2.2.2.2.1
  exact ⟨P, T, S', sp', B, rTop_fr h1 hC2, ⟨cT_fr h2.1 fun o ho => hC _ (by omega), mT_fr h2.2.1 (hM0 4 (by decide) (by decide)) (hM0 5 (by decide) (by decide)) (hM0 6 (by decide) (by decide)) (fun c a b d => hM c (by omega) (by omega)), h2.2.2⟩, h3, rShut_fr h4 (hC 52 (by omega)) (hM 7 (by decide) (by omega)), rActs_fr h5 hn (hC 5 (by omega)) (fun c hc => hC c (by omega)) (hM0 35 (by decide) (by decide)) (hM 25 (by decide) (by omega)), rKept_fr h6 hn (hC 19 (by omega)) (fun c a b => hC c (by omega)) (hM 26 (by decide) (by omega)) (hM 27 (by decide) (by omega)) (hM 28 (by decide) (by omega)), rMark_fr h7 (hC 7 (by omega)) (hC 8 (by omega)) (hC 9 (by omega)) (hM0 43 (by decide) (by decide)) (hM 32 (by decide) (by omega)) (hM 33 (by decide) (by omega)), rText_fr h8 (hC 1 (by omega)) (hC 2 (by omega)) (hM0 2 (by decide) (by decide)) (hM 1 (by decide) (by omega))⟩
theorem p_tie (a w : Int32) : fz_pW Rel (f_X8_tie a w) (f_X9_tie a w) := by
  intro MC MM hR
  have hR1 := hR.thrown
  have hR2 := hR1
  generalize hM1 : fz_w MM 0 0 0 = M1 at hR1 hR2
  obtain ⟨P, T, S, sp, B, h1, ⟨hT, hM, hw⟩, h3, h4, h5, h6, h7, h8⟩ := hR2
  have hw2 := hw.2.2.1
  rcases x_rng a (n := T 0 2) (by omega) with ⟨i, hi, rfl⟩ | hx
  · have hin : fz_in (nI i) 6 = true := fz_in_nI (by omega) (by decide)
    have h31 : i < 2 ^ 31 := by omega
    obtain ⟨e1, e2, e3, e4, e5⟩ := h3.1.2 i hi
    obtain ⟨g1, g2, g3, g4, g5⟩ := h3.2.1.2 i hi
    rcases x_btw w 0 9 (by decide) (by decide) with ⟨x, -, hx9, rfl⟩ | hx9
    · have k0 : ¬ nI x < 0 := nI_pos (by omega)
      have k9 : nI x ≤ 9 := by rw [n_9]; exact nI_le hx9 (by decide)
      refine ⟨nI (S 1 i), fz_w MC (40 + 2) i (nI x), fz_w M1 12 i (nI x), ?_, ?_, ?_⟩
      · simp (decide := true) only [f_X8_tie, piece_t h1 hT hw hi, fz_b1_e, fz_bd_e, fz_gd_t hin, fz_g_nI h31, fz_s_nI h31, ↓reduceIte, e2, k0, k9]
      · simp (decide := true) only [f_X9_tie, fz_sf_e, hM1, nopiece_t hM hw hi, fz_b1_e, fz_bd_e, in_09, nI_pos' (show x < 2 ^ 31 by omega), k9, and_self, fz_gd_t hin, fz_g_nI h31, fz_s_nI h31, ↓reduceIte, g2]
      · refine rel_now (sp' := sp) (S' := up2 S 1 i x) h1 ⟨hT, hM, hw⟩ h4 h5 h6 h7 h8 (fun c hc => w_ne (by omega)) rfl (fun c h0 hc => w_ne (by omega)) (fun j _ _ => by rw [w_ne (by decide)]) ⟨⟨by rw [w_ne (by decide)]; exact h3.1.1, fun p hp => ?_⟩, ⟨by rw [w_ne (by decide)]; exact h3.2.1.1, fun p hp => ?_⟩, fun p hp => ?_⟩
        · obtain ⟨q1, q2, q3, q4, q5⟩ := h3.1.2 p hp
          refine ⟨by rw [w_ne (by omega)]; exact q1, ?_, by rw [w_ne (by omega)]; exact q3, by rw [w_ne (by omega)]; exact q4, fun z hz => by rw [w_ne (by omega)]; show MC.1 _ z = nI (if 4 + p = 1 ∧ z = i then x else S (4 + p) z); rw [if_neg (by omega)]; exact q5 z hz⟩
          by_cases hpi : p = i
          · subst hpi; rw [w_at]; show nI x = nI (if 1 = 1 ∧ p = p then x else _); rw [if_pos ⟨rfl, rfl⟩]
          · rw [w_nj hpi, q2]; show nI (S 1 p) = nI (if 1 = 1 ∧ p = i then x else S 1 p); rw [if_neg (by omega)]
        · obtain ⟨q1, q2, q3, q4, q5⟩ := h3.2.1.2 p hp
          refine ⟨by rw [w_ne (by omega)]; exact q1, ?_, by rw [w_ne (by omega)]; exact q3, by rw [w_ne (by omega)]; exact q4, fun z hz => by rw [w_ne (by omega)]; show M1.1 _ _ = nI (if 4 + p = 1 ∧ z = i then x else S (4 + p) z); rw [if_neg (by omega)]; exact q5 z hz⟩
          by_cases hpi : p = i
          · subst hpi; rw [w_at]; show nI x = nI (if 1 = 1 ∧ p = p then x else _); rw [if_pos ⟨rfl, rfl⟩]
          · rw [w_nj hpi, q2]; show nI (S 1 p) = nI (if 1 = 1 ∧ p = i then x else S 1 p); rw [if_neg (by omega)]
        · obtain ⟨q1, q2, q3, q4, q5⟩ := h3.2.2 p hp
          refine ⟨q1, ?_, q3, q4, q5⟩
          show (if 1 = 1 ∧ p = i then x else S 1 p) ≤ 9
          split
          · exact hx9
          · exact q2
    · have hno := ge_of (by decide) (by decide) hx9
      have hno' : ¬ (0 ≤ w ∧ w ≤ 9) := hno
      refine ⟨-2, MC, M1, ?_, ?_, hR1⟩
      · by_cases k0 : w < 0
        · simp (decide := true) only [f_X8_tie, piece_t h1 hT hw hi, fz_b1_e, ↓reduceIte, k0]
        · have k9 : ¬ w ≤ 9 := fun q => hno' ⟨Int32.not_lt.mp k0, q⟩
          simp (decide := true) only [f_X8_tie, piece_t h1 hT hw hi, fz_b1_e, ↓reduceIte, k0, k9]
      · simp (decide := true) only [f_X9_tie, fz_sf_e, hM1, nopiece_t hM hw hi, fz_b1_e, fz_bd_e, in_09, hno', ↓reduceIte]
  · exact ⟨-1, MC, M1, by simp (decide := true) only [f_X8_tie, piece_f h1 hT hw hx, fz_b1_e, ↓reduceIte], by simp (decide := true) only [f_X9_tie, fz_sf_e, hM1, nopiece_f hM hw hx, fz_b1_e, fz_bd_e, ↓reduceIte], hR1⟩
theorem p_carry (a w : Int32) : fz_pW Rel (f_X8_carry a w) (f_X9_carry a w) := by
  intro MC MM hR
  have hR1 := hR.thrown
  have hR2 := hR1
  generalize hM1 : fz_w MM 0 0 0 = M1 at hR1 hR2
  obtain ⟨P, T, S, sp, B, h1, ⟨hT, hM, hw⟩, h3, h4, h5, h6, h7, h8⟩ := hR2
  have hw2 := hw.2.2.1
  have hw0 := hw.1
  rcases x_rng a (n := T 0 2) (by omega) with ⟨i, hi, rfl⟩ | hx
  · have hin : fz_in (nI i) 6 = true := fz_in_nI (by omega) (by decide)
    have h31 : i < 2 ^ 31 := by omega
    obtain ⟨e1, e2, e3, e4, e5⟩ := h3.1.2 i hi
    obtain ⟨g1, g2, g3, g4, g5⟩ := h3.2.1.2 i hi
    rcases x_rng w (n := T 0 0) (by omega) with ⟨x, hx, rfl⟩ | hx
    · refine ⟨nI (S 0 i), fz_w MC (40 + 1) i (nI x), fz_w M1 11 i (nI x), ?_, ?_, ?_⟩
      · simp (decide := true) only [f_X8_carry, piece_t h1 hT hw hi, house_t h1 hT hw hx, fz_b1_e, fz_bd_e, fz_gd_t hin, fz_g_nI h31, fz_s_nI h31, ↓reduceIte, e1]
      · simp (decide := true) only [f_X9_carry, fz_sf_e, hM1, nopiece_t hM hw hi, nohouse_t hM hw hx, fz_b1_e, fz_bd_e, fz_gd_t hin, fz_g_nI h31, fz_s_nI h31, ↓reduceIte, g1]
      · refine rel_now (sp' := sp) (S' := up2 S 0 i x) h1 ⟨hT, hM, hw⟩ h4 h5 h6 h7 h8 (fun c hc => w_ne (by omega)) rfl (fun c h0 hc => w_ne (by omega)) (fun j _ _ => by rw [w_ne (by decide)]) ⟨⟨by rw [w_ne (by decide)]; exact h3.1.1, fun p hp => ?_⟩, ⟨by rw [w_ne (by decide)]; exact h3.2.1.1, fun p hp => ?_⟩, fun p hp => ?_⟩
        · obtain ⟨q1, q2, q3, q4, q5⟩ := h3.1.2 p hp
          refine ⟨?_, by rw [w_ne (by omega)]; exact q2, by rw [w_ne (by omega)]; exact q3, by rw [w_ne (by omega)]; exact q4, fun z hz => by rw [w_ne (by omega)]; show MC.1 _ z = nI (if 4 + p = 0 ∧ z = i then x else S (4 + p) z); rw [if_neg (by omega)]; exact q5 z hz⟩
          by_cases hpi : p = i
          · subst hpi; rw [w_at]; show nI x = nI (if 0 = 0 ∧ p = p then x else _); rw [if_pos ⟨rfl, rfl⟩]
          · rw [w_nj hpi, q1]; show nI (S 0 p) = nI (if 0 = 0 ∧ p = i then x else S 0 p); rw [if_neg (by omega)]
        · obtain ⟨q1, q2, q3, q4, q5⟩ := h3.2.1.2 p hp
          refine ⟨?_, by rw [w_ne (by omega)]; exact q2, by rw [w_ne (by omega)]; exact q3, by rw [w_ne (by omega)]; exact q4, fun z hz => by rw [w_ne (by omega)]; show M1.1 _ _ = nI (if 4 + p = 0 ∧ z = i then x else S (4 + p) z); rw [if_neg (by omega)]; exact q5 z hz⟩
          by_cases hpi : p = i
          · subst hpi; rw [w_at]; show nI x = nI (if 0 = 0 ∧ p = p then x else _); rw [if_pos ⟨rfl, rfl⟩]
          · rw [w_nj hpi, q1]; show nI (S 0 p) = nI (if 0 = 0 ∧ p = i then x else S 0 p); rw [if_neg (by omega)]
        · obtain ⟨q1, q2, q3, q4, q5⟩ := h3.2.2 p hp
          refine ⟨?_, q2, q3, q4, q5⟩
          show (if 0 = 0 ∧ p = i then x else S 0 p) < T 0 0
          split
          · exact hx
          · exact q1
    · exact ⟨-1, MC, M1, by simp (decide := true) only [f_X8_carry, piece_t h1 hT hw hi, house_f h1 hT hw hx, fz_b1_e, ↓reduceIte], by simp (decide := true) only [f_X9_carry, fz_sf_e, hM1, nopiece_t hM hw hi, nohouse_f hM hw hx, fz_b1_e, fz_bd_e, ↓reduceIte], hR1⟩
  · exact ⟨-1, MC, M1, by simp (decide := true) only [f_X8_carry, piece_f h1 hT hw hx, fz_b1_e, ↓reduceIte], by simp (decide := true) only [f_X9_carry, fz_sf_e, hM1, nopiece_f hM hw hx, fz_b1_e, fz_bd_e, ↓reduceIte], hR1⟩
