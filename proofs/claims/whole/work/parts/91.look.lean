/-! what is looked at: about, house -/
def cUn (f g : Nat → Nat) : Nat → Nat
  | 0 => 0
  | i + 1 => if f i = g i then cUn f g i else cUn f g i + 1
def bSet (f : Nat → Nat) (h : Nat) : Nat → Int32
  | 0 => 0
  | i + 1 => if f i = h then bSet f h i ||| (1 <<< (nI i &&& 31)) else bSet f h i
def wSu (f w : Nat → Nat) (h : Nat) : Nat → Nat
  | 0 => 0
  | i + 1 => if f i = h then wSu f w h i + w i else wSu f w h i
theorem cU_e {M : fz_M} {c1 c2 n : Nat} {f g : Nat → Nat} (hn : n ≤ 6) (hf : ∀ p, p < n → M.1 c1 p = nI (f p) ∧ f p < 2 ^ 31) (hg : ∀ p, p < n → M.1 c2 p = nI (g p) ∧ g p < 2 ^ 31) : f_X6_countUnlike c1 c2 (nI n) M = some (nI (cUn f g n)) := by
  unfold f_X6_countUnlike f_X6_countUnlike_5
  refine lp_run (fun i => (nI (cUn f g i), nI i)) n _ (fun i hi kk => ?_) (fun kk => ?_) (by unfold fz_fuel; omega)
  · have hin : fz_in (nI i) 6 = true := fz_in_nI (by omega) (by decide)
    have h31 : i < 2 ^ 31 := by omega
    have hlt : ¬ nI n ≤ nI i := nI_ge hi (by omega)
    show f_X6_countUnlike_5_s c1 c2 kk (nI n) (nI (cUn f g i)) (nI i) M = _
    by_cases hq : f i = g i
    · simp only [f_X6_countUnlike_5_s, hlt, fz_gd_t hin, fz_g_nI h31, (hf i hi).1, (hg i hi).1, hq, nI_1, cUn, ↓reduceIte]
    · have hq' : ¬ nI (f i) = nI (g i) := by rw [nI_eq (hf i hi).2 (hg i hi).2]; exact hq
      simp only [f_X6_countUnlike_5_s, hlt, fz_gd_t hin, fz_g_nI h31, (hf i hi).1, (hg i hi).1, hq, hq', nI_1, cUn, ↓reduceIte]
  · show f_X6_countUnlike_5_s c1 c2 kk (nI n) (nI (cUn f g n)) (nI n) M = _
    simp only [f_X6_countUnlike_5_s, show nI n ≤ nI n from nI_le (Nat.le_refl _) (by omega), ↓reduceIte]
theorem p_about (a : Int32) : fz_pP Rel (f_X8_about a) (f_X9_about a) := by
  intro MC MM hR
  have hR1 := hR.thrown
  have hR2 := hR1
  generalize hM1 : fz_w MM 0 0 0 = M1 at hR1 hR2
  obtain ⟨P, T, S, sp, B, h1, ⟨hT, hM, hw⟩, h3, h4, ⟨na, f, SS, ss, z1, z2, z3, z4, z5, z6⟩, h6, ⟨nm, m1, m2, m3, m4⟩, ⟨nt, t1, t2, t3, t4⟩⟩ := hR2
  have hn := hw.2.2.1
  have hn0 := hw.1
  have sS0 : ∀ p, p < T 0 2 → S 0 p < 2 ^ 31 := fun p hp => by have := (h3.2.2 p hp).1; omega
  have sS2 : ∀ p, p < T 0 2 → S 2 p < 2 ^ 31 := fun p hp => by have := (h3.2.2 p hp).2.2.1; omega
  have sT6 : ∀ p, p < T 0 2 → T 6 p < 2 ^ 31 := fun p hp => by have := (hw.2.2.2.2.2.1 p hp).1; omega
  have u5 : f_X6_countUnlike (40 + 1) (P + 6) (nI (T 0 2)) MC = some (nI (cUn (S 0) (T 6) (T 0 2))) := cU_e hn (fun p hp => ⟨(h3.1.2 p hp).1, sS0 p hp⟩) (fun p hp => ⟨(hT.2.2.2.2.2 p hp).1, sT6 p hp⟩)
  have u6 : f_X6_countUnlike (40 + 3) (P + 6) (nI (T 0 2)) MC = some (nI (cUn (S 2) (T 6) (T 0 2))) := cU_e hn (fun p hp => ⟨(h3.1.2 p hp).2.2.1, sS2 p hp⟩) (fun p hp => ⟨(hT.2.2.2.2.2 p hp).1, sT6 p hp⟩)
  refine ⟨if a = 0 then nI (T 0 0) else if a = 1 then nI (T 0 1) else if a = 2 then nI (T 0 2) else if a = 3 then sp else if a = 4 then nI na else if a = 5 then nI (cUn (S 0) (T 6) (T 0 2)) else if a = 6 then nI (cUn (S 2) (T 6) (T 0 2)) else if a = 7 then nI nm else if a = 8 then nI nt else -2, M1, ?_, ?_, hR1⟩
  · simp only [f_X8_about, fz_bd_e, fz_d_e, h1.1, fz_gd_t (isP_ok h1), fz_f_e, hT.1, hT.2.1, hT.2.2.1, h3.1.1, z3, m2, t2, f_X6_countNotAtHome, f_X6_countNotOwnedByHome, u5, u6, fz_b1_e]
    repeat' split
    all_goals rfl
  · simp only [f_X9_about, fz_sf_e, hM1, fz_bd_e]
    unfold f_X9_about_12
    refine lp_run (fun i => (nI (cUn (S 0) (T 6) i), nI (cUn (S 2) (T 6) i), nI i)) (T 0 2) _ (fun i hi kk => ?_) (fun kk => ?_) (by unfold fz_fuel; omega)
    · have hin : fz_in (nI i) 6 = true := fz_in_nI (by omega) (by decide)
      have h31 : i < 2 ^ 31 := by omega
      have hlt : ¬ nI (T 0 2) ≤ nI i := nI_ge hi (by omega)
      obtain ⟨g1, -, g3, -⟩ := h3.2.1.2 i hi
      have g8 := (hM.2.2.2.2.2 i hi).1
      show f_X9_about_12_s kk a (nI (cUn (S 0) (T 6) i)) (nI (cUn (S 2) (T 6) i)) (nI i) M1 = _
      have k1 : (nI (S 0 i) = nI (T 6 i)) = (S 0 i = T 6 i) := propext (nI_eq (sS0 i hi) (sT6 i hi))
      have k2 : (nI (S 2 i) = nI (T 6 i)) = (S 2 i = T 6 i) := propext (nI_eq (sS2 i hi) (sT6 i hi))
      simp only [f_X9_about_12_s, fz_f_e, hM.2.2.1, hlt, fz_gd_t hin, fz_g_nI h31, g1, g3, g8, k1, k2, f_X9_about_44, f_X9_about_69, fz_bd_e, cUn, nI_1, Int32.add_zero, ↓reduceIte]
      by_cases c1 : S 0 i = T 6 i <;> by_cases c2 : S 2 i = T 6 i <;> simp only [c1, c2, ↓reduceIte, not_true_eq_false, not_false_eq_true]
    · show f_X9_about_12_s kk a (nI (cUn (S 0) (T 6) (T 0 2))) (nI (cUn (S 2) (T 6) (T 0 2))) (nI (T 0 2)) M1 = _
      simp only [f_X9_about_12_s, fz_f_e, hM.1, hM.2.1, hM.2.2.1, show nI (T 0 2) ≤ nI (T 0 2) from nI_le (Nat.le_refl _) (by omega), h3.2.1.1, z5, m3, t3, ↓reduceIte]
      repeat' split
      all_goals rfl
theorem wid_e {M : fz_M} {P c : Nat} {T : fz_A2} {f : Nat → Nat} (h1 : rTop P M) (hT : cT P T M) (hn : T 0 2 ≤ 6) (hf : ∀ p, p < T 0 2 → M.1 c p = nI (f p) ∧ f p < 2 ^ 31) {h : Nat} (hh : h < 2 ^ 31) : f_X8_widthOf c (nI h) M = some (nI (wSu f (T 7) h (T 0 2))) := by
  unfold f_X8_widthOf f_X8_widthOf_5
  refine lp_run (fun i => (nI (wSu f (T 7) h i), nI i)) (T 0 2) _ (fun i hi kk => ?_) (fun kk => ?_) (by unfold fz_fuel; omega)
  · have hin : fz_in (nI i) 6 = true := fz_in_nI (by omega) (by decide)
    have h31 : i < 2 ^ 31 := by omega
    have hlt : ¬ nI (T 0 2) ≤ nI i := nI_ge hi (by omega)
    have k1 : (nI (f i) = nI h) = (f i = h) := propext (nI_eq (hf i hi).2 hh)
    show f_X8_widthOf_5_s c kk (nI h) (nI (wSu f (T 7) h i)) (nI i) M = _
    simp only [f_X8_widthOf_5_s, fz_bd_e, fz_d_e, h1.1, fz_gd_t (isP_ok h1), fz_f_e, hT.2.2.1, hlt, fz_gd_t hin, fz_g_nI h31, (hf i hi).1, k1, (hT.2.2.2.2.2 i hi).2.1, nI_add, nI_1, wSu, ↓reduceIte]
    by_cases c1 : f i = h <;> simp only [c1, ↓reduceIte, not_true_eq_false, not_false_eq_true]
  · show f_X8_widthOf_5_s c kk (nI h) (nI (wSu f (T 7) h (T 0 2))) (nI (T 0 2)) M = _
    simp only [f_X8_widthOf_5_s, fz_bd_e, fz_d_e, h1.1, fz_gd_t (isP_ok h1), fz_f_e, hT.2.2.1, show nI (T 0 2) ≤ nI (T 0 2) from nI_le (Nat.le_refl _) (by omega), ↓reduceIte]
theorem pin_e {M : fz_M} {P : Nat} {T S : fz_A2} {sp : Int32} (h1 : rTop P M) (hT : cT P T M) (hn : T 0 2 ≤ 6) (h3 : cS 40 (T 0 2) S sp M) (hf : ∀ p, p < T 0 2 → S 0 p < 2 ^ 31) {h : Nat} (hh : h < 2 ^ 31) : f_X8_piecesIn (nI h) M = some (bSet (S 0) h (T 0 2)) := by
  unfold f_X8_piecesIn f_X8_piecesIn_4
  refine lp_run (fun i => (bSet (S 0) h i, nI i)) (T 0 2) _ (fun i hi kk => ?_) (fun kk => ?_) (by unfold fz_fuel; omega)
  · have hin : fz_in (nI i) 6 = true := fz_in_nI (by omega) (by decide)
    have h31 : i < 2 ^ 31 := by omega
    have hlt : ¬ nI (T 0 2) ≤ nI i := nI_ge hi (by omega)
    have k1 : (nI (S 0 i) = nI h) = (S 0 i = h) := propext (nI_eq (hf i hi) hh)
    show f_X8_piecesIn_4_s kk (nI h) (bSet (S 0) h i) (nI i) M = _
    simp only [f_X8_piecesIn_4_s, fz_bd_e, fz_d_e, h1.1, fz_gd_t (isP_ok h1), fz_f_e, hT.2.2.1, hlt, fz_gd_t hin, fz_g_nI h31, (h3.2 i hi).1, k1, nI_1, bSet, ↓reduceIte]
    by_cases c1 : S 0 i = h <;> simp only [c1, ↓reduceIte, not_true_eq_false, not_false_eq_true]
  · show f_X8_piecesIn_4_s kk (nI h) (bSet (S 0) h (T 0 2)) (nI (T 0 2)) M = _
    simp only [f_X8_piecesIn_4_s, fz_bd_e, fz_d_e, h1.1, fz_gd_t (isP_ok h1), fz_f_e, hT.2.2.1, show nI (T 0 2) ≤ nI (T 0 2) from nI_le (Nat.le_refl _) (by omega), ↓reduceIte]
theorem p_house (a w : Int32) : fz_pP Rel (f_X8_house a w) (f_X9_house a w) := by
  intro MC MM hR
  have hR1 := hR.thrown
  have hR2 := hR1
  generalize hM1 : fz_w MM 0 0 0 = M1 at hR1 hR2
  obtain ⟨P, T, S, sp, B, h1, ⟨hT, hM, hw⟩, h3, -⟩ := hR2
  have hn := hw.2.2.1
  have hn0 := hw.1
  have sS0 : ∀ p, p < T 0 2 → S 0 p < 2 ^ 31 := fun p hp => by have := (h3.2.2 p hp).1; omega
  rcases x_rng a (n := T 0 0) (by omega) with ⟨h, hh, rfl⟩ | hx
  · have hinh : fz_in (nI h) 6 = true := fz_in_nI (by omega) (by decide)
    have hh31 : h < 2 ^ 31 := by omega
    have u2 := pin_e h1 hT hn h3.1 sS0 hh31
    have u3 := wid_e (c := 40 + 1) h1 hT hn (fun p hp => ⟨(h3.1.2 p hp).1, sS0 p hp⟩) hh31
    obtain ⟨a1, a2⟩ := hT.2.2.2.1 h hh
    obtain ⟨b1, b2⟩ := hM.2.2.2.1 h hh
    refine ⟨if w = 0 then nI (T 1 h) else if w = 1 then nI (T 2 h) else if w = 2 then bSet (S 0) h (T 0 2) else if w = 3 then nI (wSu (S 0) (T 7) h (T 0 2)) else -2, M1, ?_, ?_, hR1⟩
    · simp (decide := true) only [f_X8_house, house_t h1 hT hw hh, fz_b1_e, fz_bd_e, fz_d_e, h1.1, fz_gd_t (isP_ok h1), fz_gd_t hinh, fz_g_nI hh31, a1, a2, u2, u3, ↓reduceIte]
      repeat' split
      all_goals rfl
    · simp (decide := true) only [f_X9_house, fz_sf_e, hM1, fz_bd_e, nohouse_t hM hw hh, fz_b1_e, ↓reduceIte]
      unfold f_X9_house_23
      refine lp_run (fun i => (bSet (S 0) h i, nI (wSu (S 0) (T 7) h i), nI i)) (T 0 2) _ (fun i hi kk => ?_) (fun kk => ?_) (by unfold fz_fuel; omega)
      · have hin : fz_in (nI i) 6 = true := fz_in_nI (by omega) (by decide)
        have h31 : i < 2 ^ 31 := by omega
        have hlt : ¬ nI (T 0 2) ≤ nI i := nI_ge hi (by omega)
        have g1 := (h3.2.1.2 i hi).1
        have g9 := (hM.2.2.2.2.2 i hi).2.1
        have k1 : (nI (S 0 i) = nI h) = (S 0 i = h) := propext (nI_eq (sS0 i hi) hh31)
        show f_X9_house_23_s kk (nI h) w (bSet (S 0) h i) (nI (wSu (S 0) (T 7) h i)) (nI i) M1 = _
        simp only [f_X9_house_23_s, fz_f_e, hM.2.2.1, hlt, fz_gd_t hin, fz_g_nI h31, g1, g9, k1, f_X9_house_52, f_X9_house_78, fz_bd_e, bSet, wSu, nI_1, nI_add, Int32.add_zero, Int32.or_zero, ↓reduceIte]
        by_cases c1 : S 0 i = h <;> simp only [c1, ↓reduceIte, not_true_eq_false, not_false_eq_true]
      · show f_X9_house_23_s kk (nI h) w (bSet (S 0) h (T 0 2)) (nI (wSu (S 0) (T 7) h (T 0 2))) (nI (T 0 2)) M1 = _
        simp only [f_X9_house_23_s, fz_f_e, hM.2.2.1, show nI (T 0 2) ≤ nI (T 0 2) from nI_le (Nat.le_refl _) (by omega), fz_gd_t hinh, fz_g_nI hh31, b1, b2, ↓reduceIte]
        by_cases c0 : w = 0
        · simp only [c0, ↓reduceIte, not_true_eq_false]
        · by_cases c1 : w = 1
          · simp (decide := true) only [c1, ↓reduceIte, not_true_eq_false, not_false_eq_true]
          · by_cases c2 : w = 2
            · simp (decide := true) only [c2, ↓reduceIte, not_true_eq_false, not_false_eq_true]
            · by_cases c3 : w = 3
              · simp (decide := true) only [c3, ↓reduceIte, not_true_eq_false, not_false_eq_true]
              · simp only [c0, c1, c2, c3, ↓reduceIte, not_true_eq_false, not_false_eq_true]
  · exact ⟨-1, M1, by simp (decide := true) only [f_X8_house, house_f h1 hT hw hx, fz_b1_e, ↓reduceIte], by simp (decide := true) only [f_X9_house, fz_sf_e, hM1, nohouse_f hM hw hx, fz_b1_e, fz_bd_e, ↓reduceIte], hR1⟩
