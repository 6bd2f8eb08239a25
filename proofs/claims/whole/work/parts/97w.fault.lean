/-! fault -/
theorem rd_0 : rdW (fun _ _ => 0) := ⟨⟨by decide, by decide, by decide, fun h hh => absurd hh (Nat.not_lt_zero h), fun h hh => absurd hh (Nat.not_lt_zero h), fun h hh => absurd hh (Nat.not_lt_zero h), fun h => by show 0 ≤ 10; decide⟩, fun p hp => absurd hp (Nat.not_lt_zero p)⟩
theorem rd_all {P L : Nat} {MC MM : fz_M} (hP : P = 20 ∨ P = 30) (hL : L ≤ 96) (c1 : MC.1 1 1 = nI L) (m2 : MM.1 0 2 = nI L) (ht : ∀ j, j < L → MC.1 2 j = MM.1 1 j) :
    ∃ MC' MM', cpOff P MC MC' ∧ pOff MM MM' ∧ ((∃ e, e ≤ L + 4 ∧ f_X4_firstFault P MC = some (nI e, MC') ∧ f_X9_readTown MM = some (nI e, MM')) ∨
      (∃ R, rdW R ∧ cR P R MC' ∧ mR R MM' ∧ f_X4_firstFault P MC = some (-9, MC') ∧ f_X9_readTown MM = some (-9, MM'))) := by
  have oC : cpOff P MC (fz_w (fz_w (fz_w (fz_w MC P 0 0) P 1 0) P 2 0) 3 1 0) := (((cpOff_w (by omega)).trans (cpOff_w (by omega))).trans (cpOff_w (by omega))).trans (cpOff_w (by omega))
  have oM : pOff MM (fz_w (fz_w (fz_w (fz_w MM 0 3 0) 0 22 0) 0 23 0) 0 24 0) := (((pOff_w0 (by decide)).trans (pOff_w0 (by decide))).trans (pOff_w0 (by decide))).trans (pOff_w0 (by decide))
  have y : P ≠ 3 := by omega
  have eC : f_X4_firstFault P MC = fz_lp (cF P) fz_fuel (nI 0, fz_w (fz_w (fz_w (fz_w MC P 0 0) P 1 0) P 2 0) 3 1 0) := by
    unfold f_X4_firstFault f_X3_clear
    simp only [fz_sf_e, fz_bd_e, fz_b1_e]
    unfold f_X4_firstFault_11
    rfl
  have eM : f_X9_readTown MM = fz_lp mF fz_fuel (fz_w (fz_w (fz_w (fz_w MM 0 3 0) 0 22 0) 0 23 0) 0 24 0) := by
    unfold f_X9_readTown
    simp only [fz_sf_e, fz_bd_e]
    unfold f_X9_readTown_20
    rfl
  have cr : cR P (fun _ _ => 0) (fz_w (fz_w (fz_w (fz_w MC P 0 0) P 1 0) P 2 0) 3 1 0) := ⟨⟨by rw [w_ne y, w_nj (by decide), w_nj (by decide), w_at]; rfl, by rw [w_ne y, w_nj (by decide), w_at]; rfl, by rw [w_ne y, w_at]; rfl, fun h hh => absurd hh (Nat.not_lt_zero h), fun h hh => absurd hh (Nat.not_lt_zero h), fun h hh => absurd hh (Nat.not_lt_zero h)⟩, fun h hh => absurd hh (Nat.not_lt_zero h)⟩
  have mr : mR (fun _ _ => 0) (fz_w (fz_w (fz_w (fz_w MM 0 3 0) 0 22 0) 0 23 0) 0 24 0) := ⟨by rw [w_nj (by decide), w_nj (by decide), w_at]; rfl, by rw [w_nj (by decide), w_at]; rfl, by rw [w_at]; rfl, fun h hh => absurd hh (Nat.not_lt_zero h), fun h hh => absurd hh (Nat.not_lt_zero h), fun h hh => absurd hh (Nat.not_lt_zero h)⟩
  obtain ⟨C1, N1, x1, x2, x3⟩ := rd_both hP hL L 0 (fun _ _ => 0) (fz_w (fz_w (fz_w (fz_w MC P 0 0) P 1 0) P 2 0) 3 1 0) (fz_w (fz_w (fz_w (fz_w MM 0 3 0) 0 22 0) 0 23 0) 0 24 0) (by omega) (by omega) (by rw [oC.2 1 (by decide) (by decide) (by omega)]; exact c1) w_at cr (by rw [oM.2.2 2 (by decide) (by decide) (by decide) (by decide)]; exact m2) (by rw [w_nj (by decide), w_nj (by decide), w_nj (by decide), w_at]; rfl) mr rd_0 (fun j hj => by rw [oC.2 2 (by decide) (by decide) (by omega), oM.2.1 1 (by decide) (by decide)]; exact ht j hj)
  refine ⟨C1, N1, oC.trans x1, oM.trans x2, ?_⟩
  have ef : fz_fuel = (fz_fuel - (L - 0 + 1)) + (L - 0 + 1) := by unfold fz_fuel; omega
  rw [eC, eM, ef]
  rcases x3 with ⟨e, e0, e1, e2⟩ | ⟨R', r1, r2, r3, r4, r5⟩
  · exact Or.inl ⟨e, e0, e1 _, e2 _⟩
  · exact Or.inr ⟨R', r1, r2, r3, r4 _, r5 _⟩
theorem cp_c {P P' : Nat} {M M' : fz_M} (h : cpOff P' M M') (hP : (P = 20 ∧ P' = 30) ∨ (P = 30 ∧ P' = 20)) : cOff P M M' := ⟨fun c a b d => h.2 c (by omega) (by omega) (by omega), by rw [h.1]⟩
theorem p_m {M M' : fz_M} (h : pOff M M') : mOff M M' := ⟨fun c a b d => h.2.1 c a (by omega), fun j _ a b c d _ _ => h.2.2 j a b c d⟩
theorem p_fault : fz_pW Rel f_X8_fault f_X9_fault := by
  intro MC MM hR
  have hR1 := hR.thrown
  generalize hM1 : fz_w MM 0 0 0 = M1 at hR1
  obtain ⟨L, t1, t2, t3, t4⟩ := hR1.text
  have hR0 := hR1
  obtain ⟨P, T, S, sp, B, h1, h2⟩ := hR1
  obtain ⟨P', hP', hd, hPP⟩ : ∃ P', (P' = 20 ∨ P' = 30) ∧ MC.2.2 0 10 = P' ∧ ((P = 20 ∧ P' = 30) ∨ (P = 30 ∧ P' = 20)) := by
    rcases h1.2.1 with ⟨a, b⟩ | ⟨a, b⟩
    · exact ⟨30, Or.inr rfl, b, Or.inl ⟨a, rfl⟩⟩
    · exact ⟨20, Or.inl rfl, b, Or.inr ⟨a, rfl⟩⟩
  obtain ⟨C1, N1, x1, x2, x3⟩ := rd_all hP' t1 t2 t3 t4
  have hr : Rel C1 N1 := hR0.off (fun P0 hP0 => by rw [show P0 = P from hP0.1.symm.trans h1.1]; exact cp_c x1 hPP) (fun h => by unfold rSpr at h ⊢; rw [x1.1]; exact h) (p_m x2)
  have hi : fz_isP P' = true := by rcases hP' with rfl | rfl <;> rfl
  have eC : f_X8_fault MC = fz_b2 (f_X4_firstFault P' MC) (fun r3 M4 => some (r3, M4)) := by
    unfold f_X8_fault
    rw [fz_d_e, hd, fz_bd_e, fz_gd_t hi]
  have eM : f_X9_fault MM = fz_b2 (f_X9_readTown M1) (fun r2 M3 => some (r2, M3)) := by
    unfold f_X9_fault
    rw [fz_sf_e, hM1, fz_bd_e]
  rcases x3 with ⟨e, e0, e1, e2⟩ | ⟨R', r1, r2, r3, r4, r5⟩
  · exact ⟨nI e, C1, N1, by rw [eC, e1]; rfl, by rw [eM, e2]; rfl, hr⟩
  · exact ⟨-9, C1, N1, by rw [eC, r4]; rfl, by rw [eM, r5]; rfl, hr⟩
