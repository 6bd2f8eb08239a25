/-! town -/
theorem p_town : fz_pW Rel f_X8_town f_X9_town := by
  intro MC MM hR
  have hR1 := hR.thrown
  generalize hM1 : fz_w MM 0 0 0 = M1 at hR1
  obtain ⟨L, t1, t2, t3, t4⟩ := hR1.text
  have hmk := hR1.mark
  have hR0 := hR1
  obtain ⟨P, T, S, sp, B, h1, h2, h3, h4, h5, h6, h7, h8⟩ := hR1
  obtain ⟨P', hP', hd, hPP⟩ : ∃ P', (P' = 20 ∨ P' = 30) ∧ MC.2.2 0 10 = P' ∧ ((P = 20 ∧ P' = 30) ∨ (P = 30 ∧ P' = 20)) := by
    rcases h1.2.1 with ⟨a, b⟩ | ⟨a, b⟩
    · exact ⟨30, Or.inr rfl, b, Or.inl ⟨a, rfl⟩⟩
    · exact ⟨20, Or.inl rfl, b, Or.inr ⟨a, rfl⟩⟩
  obtain ⟨C1, N1, x1, x2, x3⟩ := rd_all hP' t1 t2 t3 t4
  have hi : fz_isP P' = true := by rcases hP' with rfl | rfl <;> rfl
  have hi0 : fz_isP P = true := isP_ok h1
  have eM : f_X9_town MM = fz_b2 (f_X9_readTown M1) (fun r2 M3 => if r2 = (-9) then f_X9_town_43 0 (fz_w (fz_w (fz_w M3 0 4 (M3.1 0 22)) 0 5 ((fz_w M3 0 4 (M3.1 0 22)).1 0 23)) 0 6 ((fz_w (fz_w M3 0 4 (M3.1 0 22)) 0 5 ((fz_w M3 0 4 (M3.1 0 22)).1 0 23)).1 0 24)) else some (-3, M3)) := by
    unfold f_X9_town
    rw [fz_sf_e, hM1, fz_bd_e]
    rfl
  rcases x3 with ⟨e, e0, e1, e2⟩ | ⟨R, r1, r2, r3, r4, r5⟩
  · have ne : ¬ nI e = -9 := nI_neg (by omega)
    refine ⟨-3, C1, N1, ?_, ?_, hR0.off (fun P0 hP0 => by rw [show P0 = P from hP0.1.symm.trans h1.1]; exact cp_c x1 hPP) (fun h => by unfold rSpr at h ⊢; rw [x1.1]; exact h) (p_m x2)⟩
    · unfold f_X8_town
      rw [fz_d_e, hd, fz_bd_e, fz_gd_t hi, e1, fz_b2_e, if_neg ne]
    · rw [eM, e2, fz_b2_e, if_neg ne]
  · -- the class
    have d9 : C1.2.2 0 9 = P := by rw [x1.1]; exact h1.1
    have d10 : C1.2.2 0 10 = P' := by rw [x1.1]; exact hd
    obtain ⟨C3, hC3⟩ : ∃ C3, fz_wD (fz_wD C1 0 10 P) 0 9 P' = C3 := ⟨_, rfl⟩
    have c31 : C3.1 = C1.1 := by rw [← hC3]; rfl
    have c39 : C3.2.2 0 9 = P' := by rw [← hC3, fz_wD_3, if_pos ⟨rfl, rfl⟩]
    have c310 : C3.2.2 0 10 = P := by rw [← hC3, fz_wD_3, if_neg (by decide), fz_wD_3, if_pos ⟨rfl, rfl⟩]
    have c315 : ∀ j, C3.2.2 15 j = MC.2.2 15 j := fun j => by rw [← hC3, fz_wD_3, if_neg (by simp), fz_wD_3, if_neg (by simp), x1.1]
    have cr3 : cR P' R C3 := cR_fr r2 (fun o _ => by rw [c31])
    obtain ⟨C4, b1, b2, b3, b4, b5⟩ := bgn_e hP' cr3 r1
    obtain ⟨C5, hC5⟩ : ∃ C5, fz_w C4 5 2 0 = C5 := ⟨_, rfl⟩
    have c52 : C5.2 = C4.2 := by rw [← hC5]; rfl
    have c5n : ∀ c, c ≠ 5 → C5.1 c = C4.1 c := fun c hc => by rw [← hC5, w_ne hc]
    have c59 : C5.2.2 0 9 = P' := by rw [c52, b2]; exact c39
    obtain ⟨C6, k1, k2, k3, k4, k5⟩ := isK_e c59 hP'
    have eC : f_X8_town MC = some (C5.1 P' 0, C6) := by
      unfold f_X8_town
      rw [fz_d_e, hd, fz_bd_e, fz_gd_t hi, r4, fz_b2_e, if_pos rfl, fz_d_e, d10, fz_bd_e, fz_gd_t hi, fz_d_e, d9, fz_bd_e, fz_gd_t hi0, fz_sd_e, fz_bd_e, fz_sd_e, hC3, fz_bd_e, fz_d_e, c39, fz_bd_e, fz_gd_t hi, b1, fz_b1_e]
      unfold f_X0_forgetAll
      rw [fz_sf_e, hC5, fz_bd_e, fz_b1_e]
      exact k1
    -- what has become of its cells
    have cc : ∀ c, c ≠ 5 → c ≠ 19 → (c < 40 ∨ 52 < c) → C6.1 c = C1.1 c := fun c a b d => by rw [k3 c b, c5n c a, b3 c d, c31]
    have cm : ∀ c, c ≠ 5 → c ≠ 19 → (c < 40 ∨ 52 < c) → c ≠ 3 → c ≠ 4 → (c < P' ∨ P' + 10 ≤ c) → C6.1 c = MC.1 c := fun c a b d e f g => by rw [cc c a b d]; exact x1.2 c e f g
    have cr6 : cR P' R C6 := cR_fr r2 (fun o ho => cc _ (by omega) (by omega) (by omega))
    have cs6 : cS 40 (R 0 2) (bgS R) 0 C6 := cS_fr b4 r1.1.2.2.1 (fun o ho => by rw [k3 _ (by omega), c5n _ (by omega)])
    have a0 : C5.1 P' 0 = nI (R 0 0) := by rw [c5n P' (by omega), b3 P' (by omega), c31]; exact r2.1.1
    have c552 : C6.1 5 2 = 0 := by rw [k3 5 (by decide), ← hC5, w_at]
    have c551 : C6.1 5 1 = MC.1 5 1 := by rw [k3 5 (by decide), ← hC5, w_nj (by decide), b3 5 (by decide), c31, x1.2 5 (by decide) (by decide) (by omega)]
    -- the model
    obtain ⟨N2, hN2⟩ : ∃ N2, fz_w (fz_w (fz_w N1 0 4 (N1.1 0 22)) 0 5 ((fz_w N1 0 4 (N1.1 0 22)).1 0 23)) 0 6 ((fz_w (fz_w N1 0 4 (N1.1 0 22)) 0 5 ((fz_w N1 0 4 (N1.1 0 22)).1 0 23)).1 0 24) = N2 := ⟨_, rfl⟩
    have n4 : N2.1 0 4 = nI (R 0 0) := by rw [← hN2, w_nj (by decide), w_nj (by decide), w_at]; exact r3.1
    have n5 : N2.1 0 5 = nI (R 0 1) := by rw [← hN2, w_nj (by decide), w_at, w_nj (by decide)]; exact r3.2.1
    have n6 : N2.1 0 6 = nI (R 0 2) := by rw [← hN2, w_at, w_nj (by decide), w_nj (by decide)]; exact r3.2.2.1
    have nj : ∀ j, j ≠ 4 → j ≠ 5 → j ≠ 6 → N2.1 0 j = N1.1 0 j := fun j a b c => by rw [← hN2, w_nj c, w_nj b, w_nj a]
    have nc : ∀ c, c ≠ 0 → N2.1 c = N1.1 c := fun c a => by rw [← hN2, w_ne a, w_ne a, w_ne a]
    obtain ⟨A1, p1, p2, p3⟩ := tk_h r1.1.1 n4
    obtain ⟨A2, q1, q2, q3⟩ := tk_s (M := A1)
    obtain ⟨A3, u1, u2, u3, u4, u5, u6, u7, u8⟩ := tk_p (M := A2) (nH := R 0 0) r1.1.2.2.1 (by rw [q2 0 (by decide), p2 0 (by decide) (by decide)]; exact n4) (by rw [q2 0 (by decide), p2 0 (by decide) (by decide)]; exact n6)
    have eM2 : f_X9_town MM = some (nI (R 0 0), A3) := by rw [eM, r5, fz_b2_e, if_pos rfl, hN2, p1, q1, u1]
    have m0 : ∀ j, j ≠ 21 → j ≠ 35 → A3.1 0 j = N2.1 0 j := fun j a b => by rw [u3 j a b, q2 0 (by decide), p2 0 (by decide) (by decide)]
    have m0' : ∀ j, j ≠ 21 → j ≠ 35 → j ≠ 4 → j ≠ 5 → j ≠ 6 → j ≠ 3 → j ≠ 22 → j ≠ 23 → j ≠ 24 → A3.1 0 j = M1.1 0 j := fun j a b c d e f g h i => by rw [m0 j a b, nj j c d e, x2.2.2 j f g h i]
    have mc : ∀ c, c ≠ 0 → 15 < c → c ≠ 28 → A3.1 c = N1.1 c := fun c a b d => by rw [u2 c a (Or.inr b) d, q2 c (by omega), p2 c (by omega) (by omega), nc c a]
    have mT' : mT R A3 := by
      refine ⟨by rw [m0 4 (by decide) (by decide)]; exact n4, by rw [m0 5 (by decide) (by decide)]; exact n5, by rw [m0 6 (by decide) (by decide)]; exact n6, fun h hh => ?_, fun s hs => ?_, fun p hp => ?_⟩
      · rw [u2 2 (by decide) (by decide) (by decide), u2 3 (by decide) (by decide) (by decide), q2 2 (by decide), q2 3 (by decide), (p3 h hh).1, (p3 h hh).2, nc 16 (by decide), nc 17 (by decide)]
        exact r3.2.2.2.1 h hh
      · obtain ⟨v1, v2, v3, -⟩ := q3 s (by have := r1.1.2.1; omega)
        rw [u2 4 (by decide) (by decide) (by decide), u2 5 (by decide) (by decide) (by decide), u2 6 (by decide) (by decide) (by decide), v1, v2, v3, p2 18 (by decide) (by decide), p2 19 (by decide) (by decide), p2 20 (by decide) (by decide), nc 18 (by decide), nc 19 (by decide), nc 20 (by decide)]
        exact r3.2.2.2.2.1 s hs
      · obtain ⟨v1, v2, v3, -⟩ := u8 p hp
        obtain ⟨w1, w2, w3, -⟩ := r3.2.2.2.2.2 p hp
        rw [v1, v2, v3, q2 21 (by decide), q2 22 (by decide), q2 23 (by decide), p2 21 (by decide) (by decide), p2 22 (by decide) (by decide), p2 23 (by decide) (by decide), nc 21 (by decide), nc 22 (by decide), nc 23 (by decide)]
        exact ⟨w1, w2, w3⟩
    have mL' : mL (R 0 2) (bgS R) 0 A3 := by
      refine ⟨u4, fun p hp => ?_⟩
      obtain ⟨-, -, -, v4, v5, v6, v7, v8⟩ := u8 p hp
      obtain ⟨w1, -, -, w4⟩ := r3.2.2.2.2.2 p hp
      have e21 : A2.1 21 p = nI (R 6 p) := by rw [q2 21 (by decide), p2 21 (by decide) (by decide), nc 21 (by decide)]; exact w1
      have e24 : A2.1 24 p = nI (R 9 p) := by rw [q2 24 (by decide), p2 24 (by decide) (by decide), nc 24 (by decide)]; exact w4
      refine ⟨v5.trans e21, v4.trans e24, v6.trans e21, v8, fun i hi => ?_⟩
      have hi1 : i < 1 := hi
      have : i = 0 := by omega
      subst this
      rw [bgS_4]
      exact v7.trans e21
    refine ⟨nI (R 0 0), C6, A3, by rw [eC, a0], eM2, P', R, bgS R, 0, fun _ => 0, ⟨?_, ?_, ?_⟩, ⟨cr6.1, mT', r1.1⟩, ⟨cs6, mL', ?_⟩, ?_, ?_, ?_, ?_, ?_⟩
    · rw [k2, c52, b2]; exact c39
    · rw [k2, c52, b2, c310]
      rcases hPP with ⟨a, b⟩ | ⟨a, b⟩
      · exact Or.inr ⟨b, a⟩
      · exact Or.inl ⟨b, a⟩
    · rw [k2, c52, b2, c315, c315]; exact h1.2.2
    · intro p hp
      obtain ⟨w6, -⟩ := r1.1.2.2.2.2.2.1 p hp
      exact ⟨w6, r1.2 p hp, w6, Nat.le_refl 1, by show 1 ≤ 8; decide⟩
    · intro i hi
      refine ⟨by rw [k3 52 (by decide), c5n 52 (by decide)]; exact b5 i hi, ?_, Nat.zero_le _⟩
      rw [u2 7 (by decide) (by decide) (by decide)]
      exact (q3 i hi).2.2.2
    · obtain ⟨n, f, SS, ss, -, f2, -, f4, -, -⟩ := h5
      exact ⟨0, f, SS, ss, Nat.zero_le _, f2, c552, by rw [c551]; exact f4, u5, fun a ha => absurd ha (Nat.not_lt_zero a)⟩
    · intro s hs
      have : s = 0 ∨ s = 1 := by omega
      rcases this with rfl | rfl
      · exact ⟨0, Nat.zero_le _, k4, u6, fun h => absurd h (by decide)⟩
      · exact ⟨0, Nat.zero_le _, k5, u7, fun h => absurd h (by decide)⟩
    · exact rMark_fr hmk (cm 7 (by decide) (by decide) (by decide) (by decide) (by decide) (by omega)) (cm 8 (by decide) (by decide) (by decide) (by decide) (by decide) (by omega)) (cm 9 (by decide) (by decide) (by decide) (by decide) (by decide) (by omega)) (m0' 43 (by decide) (by decide) (by decide) (by decide) (by decide) (by decide) (by decide) (by decide) (by decide)) ((mc 32 (by decide) (by decide) (by decide)).trans (x2.2.1 32 (by decide) (by decide))) ((mc 33 (by decide) (by decide) (by decide)).trans (x2.2.1 33 (by decide) (by decide)))
    · refine ⟨L, t1, by rw [cm 1 (by decide) (by decide) (by decide) (by decide) (by decide) (by omega)]; exact t2, by rw [m0' 2 (by decide) (by decide) (by decide) (by decide) (by decide) (by decide) (by decide) (by decide) (by decide)]; exact t3, fun j hj => ?_⟩
      rw [cm 2 (by decide) (by decide) (by decide) (by decide) (by decide) (by omega), u2 1 (by decide) (by decide) (by decide), q2 1 (by decide), p2 1 (by decide) (by decide), nc 1 (by decide), x2.2.1 1 (by decide) (by decide)]
      exact t4 j hj
