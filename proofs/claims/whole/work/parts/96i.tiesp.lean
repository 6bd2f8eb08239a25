theorem pw2 : ∀ k : Nat, k ≤ 6 → (1 : Int32) <<< (nI k &&& 31) = nI (2 ^ k) := by
  intro k hk
  have : ∀ k : Nat, k < 7 → (1 : Int32) <<< (nI k &&& 31) = nI (2 ^ k) := by decide +kernel
  exact this k (by omega)
theorem pw2_le {k : Nat} (hk : k ≤ 6) : 2 ^ k ≤ 64 := Nat.pow_le_pow_right (by decide) hk
theorem p_ties (a w v : Int32) {b : Nat} (hb : b ≤ 1) : fz_pW Rel (f_X8_ties a w v (nI b)) (f_X9_ties a w v (nI b)) := by
  intro MC MM hR
  have hR1 := hR.thrown
  have hR2 := hR1
  generalize hM1 : fz_w MM 0 0 0 = M1 at hR1 hR2
  obtain ⟨P, T, S, sp, B, h1, ⟨hT, hM, hw⟩, h3, h4, -⟩ := hR2
  have hP := rTop_P h1
  have hn2 := hw.2.2.1
  have hn0 := hw.1
  have h64 := pw2_le hn2
  have hpw := pw2 (T 0 2) hn2
  rcases x_rng a (n := 2 ^ T 0 2) (by omega) with ⟨told, htold, rfl⟩ | hx
  · have p1 : f_X8_arePieces (nI told) MC = some 1 := by
      unfold f_X8_arePieces
      rw [if_neg (nI_pos (by omega)), fz_bd_e, fz_d_e, h1.1, fz_gd_t (isP_ok h1), fz_f_e, hT.2.2.1, hpw, if_neg (nI_ge htold (by omega))]
    have p2 : f_X9_in (nI told).toInt64 0 (((1 : Int32) <<< ((fz_f M1 0 6) &&& 31)) - 1).toInt64 M1 = some 1 := by
      rw [fz_f_e, hM.2.2.1, hpw]; exact in_t htold (by omega) M1
    by_cases hl : 0 ≤ w ∧ w ≤ 19
    · by_cases hv : 1 ≤ v ∧ v ≤ 9
      · have t1 := level_t MC hl
        have t2 := hours_t MC hv
        have t3 := noFl_t M1 ⟨hl, hv⟩
        obtain ⟨lv, hlv, rfl⟩ := lev_e hl
        obtain ⟨n, hn1, hn, rfl⟩ := hrs_e hv
        obtain ⟨cost, hcost⟩ : ∃ cost : Nat → Nat, cost = fun s => tcst T S lv s (T 0 2) := ⟨_, rfl⟩
        obtain ⟨stay, hstay⟩ : ∃ stay : Nat → Bool, stay = fun s => stB (nI told) (hIter T (opn B) lv (tA T S lv s (T 0 2)) n 0) (S 0) (T 0 2) := ⟨_, rfl⟩
        have bc : ∀ s, cost s ≤ 54 := fun s => by have := tcst_le T S lv s (T 0 2); rw [hcost]; dsimp only; omega
        have sS0 : ∀ p, p < T 0 2 → S 0 p < 2 ^ 31 := fun p hp => by have := (h3.2.2 p hp).1; omega
        have sI : ∀ s p, p < T 0 2 → hIter T (opn B) lv (tA T S lv s (T 0 2)) n 0 p < 2 ^ 31 := fun s p hp => by have := (wIter (X := opn B) (lv := lv) hw (tA_w (lv := lv) (v := s) (i := T 0 2) h3.2.2) n p hp).1; omega
        have kC : ∃ C, f_X8_ties_47 (nI told) (nI lv) (nI n) (nI b) (-9) (-9) (nI (2 ^ T 0 2)) 0 MC = some (if nI b = 0 then enc1 (tiS cost stay (2 ^ T 0 2)) else enc2 (tiS cost stay (2 ^ T 0 2)), C) ∧ eqC MC C := by
          unfold f_X8_ties_47
          refine lp_gen (K := fun C => some (if nI b = 0 then enc1 (tiS cost stay (2 ^ T 0 2)) else enc2 (tiS cost stay (2 ^ T 0 2)), C)) (fun k (s : Int32 × Int32 × Int32 × fz_M) => s.1 = enc1 (tiS cost stay k) ∧ s.2.1 = enc2 (tiS cost stay k) ∧ s.2.2.1 = nI k ∧ eqC MC s.2.2.2) (2 ^ T 0 2) ?_ ?_ (by unfold fz_fuel; omega) ⟨rfl, rfl, rfl, eqC_r MC⟩
          · rintro k ⟨x1, x2, x3, M0⟩ hk ⟨rfl, rfl, rfl, e2⟩
            dsimp only at e2
            have hlt : ¬ nI (2 ^ T 0 2) ≤ nI k := nI_ge hk (by omega)
            have hq1 := (eqC_top e2 h1).1
            obtain ⟨C1, a1, a2, a3, a4⟩ := cTry_e (B := B) (X := opn B) (e := -9) e2 hP hT hw h3.1 (opn_c h4 hw)
            obtain ⟨C2, b1, b2, b3, b4⟩ := cTie_e (v := k) a2 h1 hlv hT hw h3.2.2 a3
            obtain ⟨C3, d1, d2, d3⟩ := cGo_e (A := tA T S lv k (T 0 2)) (X := opn B) b2 hP hlv hn hT hw b3 (tA_w h3.2.2) (fun h hh => by rw [b4]; exact a4 h hh)
            have hsty := cSty_e (nI told) (eqC_top d2 h1) (eqC_T d2 hP hT) hw (fun p hp => ⟨d3 p hp, sI k p hp⟩) (g := S 0) (fun p hp => ⟨by rw [d2.2 41 (by decide)]; exact (h3.1.2 p hp).1, sS0 p hp⟩)
            have hsty' : f_X8_areWhereTheyWere (nI told) C3 = some (if stay k = true then 1 else 0) := by rw [hsty, hstay]
            have hP2 : C2.2.2 0 9 = P := by rw [b2.1]; exact h1.1
            have b1' : f_X8_tieAll (nI k) (nI lv) C1 = some (nI (cost k), C2) := by rw [b1, hcost]
            have bk := bc k
            cases e0 : tiS cost stay k with
            | none =>
              by_cases cs : stay k = true
              · rw [if_pos cs] at hsty'
                refine Or.inl ⟨(nI (cost k), nI k, nI (k + 1), C3), ⟨by simp only [tiS, e0, if_pos cs, enc1], by simp only [tiS, e0, if_pos cs, enc2], rfl, d2⟩, fun kk => ?_⟩
                show f_X8_ties_47_s kk (nI told) (nI lv) (nI n) (nI b) (nI (2 ^ T 0 2)) (enc1 none) (enc2 none) (nI k) M0 = _
                simp (decide := true) only [f_X8_ties_47_s, f_X8_ties_94, hlt, fz_bd_e, fz_d_e, hq1, fz_gd_t (isP_ok h1), a1, fz_b1_e, b1', fz_b2_e, enc1, enc2, hP2, d1, hsty', nI_1, ↓reduceIte]
              · rw [if_neg cs] at hsty'
                refine Or.inl ⟨(-9, -9, nI (k + 1), C3), ⟨by simp only [tiS, e0, if_neg cs, enc1], by simp only [tiS, e0, if_neg cs, enc2], rfl, d2⟩, fun kk => ?_⟩
                show f_X8_ties_47_s kk (nI told) (nI lv) (nI n) (nI b) (nI (2 ^ T 0 2)) (enc1 none) (enc2 none) (nI k) M0 = _
                simp (decide := true) only [f_X8_ties_47_s, f_X8_ties_94, hlt, fz_bd_e, fz_d_e, hq1, fz_gd_t (isP_ok h1), a1, fz_b1_e, b1', fz_b2_e, enc1, enc2, hP2, d1, hsty', nI_1, ↓reduceIte]
            | some ce =>
              obtain ⟨c0, e1⟩ := ce
              obtain ⟨y1, y2⟩ := tiS_b bc e0
              have k9 : ¬ nI e1 = -9 := nI_neg (by omega)
              have kle : (nI c0 ≤ nI (cost k)) = (c0 ≤ cost k) := propext (nI_leI (by omega) (by omega))
              by_cases cl : c0 ≤ cost k
              · refine Or.inl ⟨(nI c0, nI e1, nI (k + 1), C2), ⟨by simp only [tiS, e0, if_pos cl, enc1], by simp only [tiS, e0, if_pos cl, enc2], rfl, b2⟩, fun kk => ?_⟩
                show f_X8_ties_47_s kk (nI told) (nI lv) (nI n) (nI b) (nI (2 ^ T 0 2)) (enc1 (some (c0, e1))) (enc2 (some (c0, e1))) (nI k) M0 = _
                simp (decide := true) only [f_X8_ties_47_s, f_X8_ties_94, hlt, fz_bd_e, fz_d_e, hq1, fz_gd_t (isP_ok h1), a1, fz_b1_e, b1', fz_b2_e, enc1, enc2, k9, kle, cl, nI_1, ↓reduceIte]
              · by_cases cs : stay k = true
                · rw [if_pos cs] at hsty'
                  refine Or.inl ⟨(nI (cost k), nI k, nI (k + 1), C3), ⟨by simp only [tiS, e0, if_neg cl, if_pos cs, enc1], by simp only [tiS, e0, if_neg cl, if_pos cs, enc2], rfl, d2⟩, fun kk => ?_⟩
                  show f_X8_ties_47_s kk (nI told) (nI lv) (nI n) (nI b) (nI (2 ^ T 0 2)) (enc1 (some (c0, e1))) (enc2 (some (c0, e1))) (nI k) M0 = _
                  simp (decide := true) only [f_X8_ties_47_s, f_X8_ties_94, hlt, fz_bd_e, fz_d_e, hq1, fz_gd_t (isP_ok h1), a1, fz_b1_e, b1', fz_b2_e, enc1, enc2, k9, kle, cl, hP2, d1, hsty', nI_1, ↓reduceIte]
                · rw [if_neg cs] at hsty'
                  refine Or.inl ⟨(nI c0, nI e1, nI (k + 1), C3), ⟨by simp only [tiS, e0, if_neg cl, if_neg cs, enc1], by simp only [tiS, e0, if_neg cl, if_neg cs, enc2], rfl, d2⟩, fun kk => ?_⟩
                  show f_X8_ties_47_s kk (nI told) (nI lv) (nI n) (nI b) (nI (2 ^ T 0 2)) (enc1 (some (c0, e1))) (enc2 (some (c0, e1))) (nI k) M0 = _
                  simp (decide := true) only [f_X8_ties_47_s, f_X8_ties_94, hlt, fz_bd_e, fz_d_e, hq1, fz_gd_t (isP_ok h1), a1, fz_b1_e, b1', fz_b2_e, enc1, enc2, k9, kle, cl, hP2, d1, hsty', nI_1, ↓reduceIte]
          · rintro ⟨x1, x2, x3, M0⟩ ⟨rfl, rfl, rfl, e2⟩
            refine ⟨M0, e2, fun kk => ?_⟩
            show f_X8_ties_47_s kk (nI told) (nI lv) (nI n) (nI b) (nI (2 ^ T 0 2)) (enc1 (tiS cost stay (2 ^ T 0 2))) (enc2 (tiS cost stay (2 ^ T 0 2))) (nI (2 ^ T 0 2)) M0 = _
            simp only [f_X8_ties_47_s, show nI (2 ^ T 0 2) ≤ nI (2 ^ T 0 2) from nI_le (Nat.le_refl _) (by omega), ↓reduceIte]
            split <;> rfl
        have kM : ∃ L, f_X9_findTies_7 (nI told) (nI lv) (nI n) (-9) 0 M1 = some (enc1 (tiS cost stay (2 ^ T 0 2)), L) ∧ eqM M1 L ∧ (∀ c e, tiS cost stay (2 ^ T 0 2) = some (c, e) → L.1 0 48 = nI e) := by
          unfold f_X9_findTies_7
          refine lp_gen (K := fun C => some (enc1 (tiS cost stay (2 ^ T 0 2)), C)) (fun k (s : Int32 × Int32 × fz_M) => s.1 = enc1 (tiS cost stay k) ∧ s.2.1 = nI k ∧ eqM M1 s.2.2 ∧ (∀ c e, tiS cost stay k = some (c, e) → s.2.2.1 0 48 = nI e)) (2 ^ T 0 2) ?_ ?_ (by unfold fz_fuel; omega) ⟨rfl, rfl, eqM_r M1, fun c e h => by cases h⟩
          · rintro k ⟨x1, x3, M0⟩ hk ⟨rfl, rfl, e2, e5⟩
            dsimp only at e2 e5
            have hlt : ¬ nI (2 ^ T 0 2) ≤ nI k := nI_ge hk (by omega)
            have hq2 := (eqM_T e2 hM).2.2.1
            obtain ⟨L1, a1, a2, a3, a4⟩ := mTry_e e2 hM hw h3.2.1
            obtain ⟨L2, b1, b2, b3, b4⟩ := mTie_e (v := k) (nI told) (nI n) (enc1 (tiS cost stay k)) a2 hlv hM hw h3.2.2 a3
            obtain ⟨L3, d1, d2, d3, d4⟩ := mGo_e (A := tA T S lv k (T 0 2)) (X := opn B) b2 hlv hn hM hw b3 (tA_w h3.2.2) (opn_m h4 hw)
            have m48 : L2.1 0 48 = M0.1 0 48 := by rw [b4, a4]
            have m48' : L3.1 0 48 = M0.1 0 48 := d4.trans m48
            have hsty := fun ag7 => mSty_e (T := T) (f := hIter T (opn B) lv (tA T S lv k (T 0 2)) n 0) (g := S 0) (M := L3) (nI told) (nI lv) (nI n) (enc1 (tiS cost stay k)) (nI k) (nI (cost k)) ag7 (eqM_T d2 hM) hw (fun p hp => ⟨d3 p hp, sI k p hp⟩) (fun p hp => ⟨by rw [d2.1 11 (by decide) (by decide)]; exact (h3.2.1.2 p hp).1, sS0 p hp⟩)
            have hsty' : ∀ ag7, f_X9_findTies_137 ag7 (nI told) (nI lv) (nI n) (enc1 (tiS cost stay k)) (nI k) (nI (cost k)) L2 = if stay k = true then ag7 (nI (cost k), nI k + 1, fz_w L3 0 48 (nI k)) else ag7 (enc1 (tiS cost stay k), nI k + 1, fz_w L3 0 48 (L3.1 0 48)) := fun ag7 => by
              unfold f_X9_findTies_137
              rw [d1, fz_b1_e, hsty ag7, hstay]
            have hstep : ∀ kk, f_X9_findTies_7_s kk (nI told) (nI lv) (nI n) (enc1 (tiS cost stay k)) (nI k) M0 = _ := fun kk => by
              unfold f_X9_findTies_7_s
              rw [fz_f_e, hq2, hpw, if_neg hlt, a1, fz_b1_e, b1 kk]
            have hck : tcst T S lv k (T 0 2) = cost k := by rw [hcost]
            have e48 : ∀ x, eqM M1 (fz_w L3 0 48 x) := fun x => ⟨fun d y z => by rw [w_ne y]; exact d2.1 d y z, fun j y z => by rw [w_nj z]; exact d2.2 j y z⟩
            have bk := bc k
            cases e0 : tiS cost stay k with
            | none =>
              have ht : ∀ kk, f_X9_findTies_7_s kk (nI told) (nI lv) (nI n) (enc1 none) (nI k) M0 = if stay k = true then kk (nI (cost k), nI k + 1, fz_w L3 0 48 (nI k)) else kk (enc1 none, nI k + 1, fz_w L3 0 48 (L3.1 0 48)) := fun kk => by
                have q1 := hstep kk
                have q2 := hsty' kk
                rw [e0] at q1 q2
                rw [q1, if_pos (show enc1 none = -9 from rfl), hck, q2]
              by_cases cs : stay k = true
              · refine Or.inl ⟨(nI (cost k), nI (k + 1), fz_w L3 0 48 (nI k)), ⟨by simp only [tiS, e0, if_pos cs, enc1], rfl, e48 _, fun c e h => by
                  simp only [tiS, e0, if_pos cs] at h
                  cases h; exact w_at⟩, fun kk => ?_⟩
                show f_X9_findTies_7_s kk (nI told) (nI lv) (nI n) (enc1 none) (nI k) M0 = _
                rw [ht, if_pos cs, nI_1]
              · refine Or.inl ⟨(-9, nI (k + 1), fz_w L3 0 48 (L3.1 0 48)), ⟨by simp only [tiS, e0, if_neg cs, enc1], rfl, e48 _, fun c e h => by
                  simp only [tiS, e0, if_neg cs] at h
                  cases h⟩, fun kk => ?_⟩
                show f_X9_findTies_7_s kk (nI told) (nI lv) (nI n) (enc1 none) (nI k) M0 = _
                rw [ht, if_neg cs, nI_1]; rfl
            | some ce =>
              obtain ⟨c0, e1⟩ := ce
              obtain ⟨y1, y2⟩ := tiS_b bc e0
              have k9 : ¬ nI c0 = -9 := nI_neg (by omega)
              have kle : (nI c0 ≤ nI (cost k)) = (c0 ≤ cost k) := propext (nI_leI (by omega) (by omega))
              have h48 := e5 c0 e1 e0
              have ht : ∀ kk, f_X9_findTies_7_s kk (nI told) (nI lv) (nI n) (nI c0) (nI k) M0 = if c0 ≤ cost k then kk (nI c0, nI k + 1, L2) else if stay k = true then kk (nI (cost k), nI k + 1, fz_w L3 0 48 (nI k)) else kk (nI c0, nI k + 1, fz_w L3 0 48 (L3.1 0 48)) := fun kk => by
                have q1 := hstep kk
                have q2 := hsty' kk
                rw [e0] at q1 q2
                have q1' : f_X9_findTies_7_s kk (nI told) (nI lv) (nI n) (nI c0) (nI k) M0 = _ := q1
                have q2' : f_X9_findTies_137 kk (nI told) (nI lv) (nI n) (nI c0) (nI k) (nI (cost k)) L2 = if stay k = true then kk (nI (cost k), nI k + 1, fz_w L3 0 48 (nI k)) else kk (nI c0, nI k + 1, fz_w L3 0 48 (L3.1 0 48)) := q2
                rw [q1']
                show (if nI c0 = -9 then f_X9_findTies_137 kk (nI told) (nI lv) (nI n) (nI c0) (nI k) (nI (tcst T S lv k (T 0 2))) L2 else if nI c0 ≤ nI (tcst T S lv k (T 0 2)) then kk (nI c0, nI k + 1, L2) else f_X9_findTies_137 kk (nI told) (nI lv) (nI n) (nI c0) (nI k) (nI (tcst T S lv k (T 0 2))) L2) = _
                rw [if_neg k9, hck, q2']
                by_cases cl : c0 ≤ cost k
                · rw [if_pos cl, if_pos (nI_le cl (by omega))]
                · rw [if_neg cl, if_neg (by rw [kle]; exact cl)]
              by_cases cl : c0 ≤ cost k
              · refine Or.inl ⟨(nI c0, nI (k + 1), L2), ⟨by simp only [tiS, e0, if_pos cl, enc1], rfl, b2, fun c e h => by
                  simp only [tiS, e0, if_pos cl] at h
                  cases h; exact m48.trans h48⟩, fun kk => ?_⟩
                show f_X9_findTies_7_s kk (nI told) (nI lv) (nI n) (nI c0) (nI k) M0 = _
                rw [ht, if_pos cl, nI_1]
              · by_cases cs : stay k = true
                · refine Or.inl ⟨(nI (cost k), nI (k + 1), fz_w L3 0 48 (nI k)), ⟨by simp only [tiS, e0, if_neg cl, if_pos cs, enc1], rfl, e48 _, fun c e h => by
                    simp only [tiS, e0, if_neg cl, if_pos cs] at h
                    cases h; exact w_at⟩, fun kk => ?_⟩
                  show f_X9_findTies_7_s kk (nI told) (nI lv) (nI n) (nI c0) (nI k) M0 = _
                  rw [ht, if_neg cl, if_pos cs, nI_1]
                · refine Or.inl ⟨(nI c0, nI (k + 1), fz_w L3 0 48 (L3.1 0 48)), ⟨by simp only [tiS, e0, if_neg cl, if_neg cs, enc1], rfl, e48 _, fun c e h => by
                    simp only [tiS, e0, if_neg cl, if_neg cs] at h
                    cases h; exact w_at.trans (m48'.trans h48)⟩, fun kk => ?_⟩
                  show f_X9_findTies_7_s kk (nI told) (nI lv) (nI n) (nI c0) (nI k) M0 = _
                  rw [ht, if_neg cl, if_neg cs, nI_1]
          · rintro ⟨x1, x3, M0⟩ ⟨rfl, rfl, e2, e5⟩
            dsimp only at e2 e5
            have hq2 := (eqM_T e2 hM).2.2.1
            refine ⟨M0, ⟨e2, e5⟩, fun kk => ?_⟩
            show f_X9_findTies_7_s kk (nI told) (nI lv) (nI n) (enc1 (tiS cost stay (2 ^ T 0 2))) (nI (2 ^ T 0 2)) M0 = _
            unfold f_X9_findTies_7_s
            rw [fz_f_e, hq2, hpw, if_pos (nI_le (Nat.le_refl _) (by omega))]
        obtain ⟨C, c1, c2⟩ := kC
        obtain ⟨L, m1, m2, m3⟩ := kM
        refine ⟨if nI b = 0 then enc1 (tiS cost stay (2 ^ T 0 2)) else enc2 (tiS cost stay (2 ^ T 0 2)), C, L, ?_, ?_, hR1.eq c2 m2⟩
        · unfold f_X8_ties
          rw [p1, fz_b1_e, if_neg (by decide), t1, fz_b1_e, if_neg (by decide), t2, fz_b1_e, if_pos (by decide), fz_bd_e, fz_d_e, h1.1, fz_gd_t (isP_ok h1), fz_f_e, hT.2.2.1, hpw, fz_bd_e, c1]
        · unfold f_X9_ties
          rw [fz_sf_e, hM1, fz_bd_e, p2, fz_b1_e, if_neg (by decide), t3, fz_b1_e, if_pos rfl]
          unfold f_X9_findTies
          rw [m1, fz_b2_e]
          cases e0 : tiS cost stay (2 ^ T 0 2) with
          | none =>
            rw [if_pos (show enc1 none = -9 from rfl)]
            show some (enc1 none, L) = some (if nI b = 0 then enc1 none else enc2 none, L)
            split <;> rfl
          | some ce =>
            obtain ⟨c0, e1⟩ := ce
            obtain ⟨y1, y2⟩ := tiS_b bc e0
            have k9 : ¬ enc1 (some (c0, e1)) = -9 := nI_neg (by omega)
            rw [if_neg k9, fz_f_e, m3 c0 e1 e0]
            by_cases c : nI b = 0
            · rw [if_neg (fun q => q c), if_pos c]
            · rw [if_pos c, if_neg c]; rfl
      · refine ⟨-2, MC, M1, by simp (decide := true) only [f_X8_ties, p1, level_t MC hl, hours_f MC hv, fz_b1_e, ↓reduceIte], ?_, hR1⟩
        unfold f_X9_ties
        rw [fz_sf_e, hM1, fz_bd_e, p2, fz_b1_e, if_neg (by decide), noFl_f M1 (fun q => hv q.2), fz_b1_e, if_neg (by decide)]
    · refine ⟨-2, MC, M1, by simp (decide := true) only [f_X8_ties, p1, level_f MC hl, fz_b1_e, ↓reduceIte], ?_, hR1⟩
      unfold f_X9_ties
      rw [fz_sf_e, hM1, fz_bd_e, p2, fz_b1_e, if_neg (by decide), noFl_f M1 (fun q => hl q.1), fz_b1_e, if_neg (by decide)]
  · have p1 : f_X8_arePieces a MC = some 0 := by
      unfold f_X8_arePieces
      by_cases c : a < 0
      · rw [if_pos c]
      · rw [if_neg c, fz_bd_e, fz_d_e, h1.1, fz_gd_t (isP_ok h1), fz_f_e, hT.2.2.1, hpw, if_pos (hx.resolve_left c)]
    have p2 : f_X9_in a.toInt64 0 (((1 : Int32) <<< ((fz_f M1 0 6) &&& 31)) - 1).toInt64 M1 = some 0 := by
      rw [fz_f_e, hM.2.2.1, hpw]; exact in_f hx (by omega) M1
    refine ⟨-2, MC, M1, by simp (decide := true) only [f_X8_ties, p1, fz_b1_e, ↓reduceIte], ?_, hR1⟩
    unfold f_X9_ties
    rw [fz_sf_e, hM1, fz_bd_e, p2, fz_b1_e, if_pos rfl]
