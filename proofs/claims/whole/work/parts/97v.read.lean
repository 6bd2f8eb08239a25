/-! the whole text, by both -/
def rdW (R : fz_A2) : Prop := wT R ∧ ∀ p, p < R 0 2 → R 9 p ≤ 9
theorem fgP_cg {t u : Nat → Int32} {L : Nat} (h : ∀ j, j < L → t j = u j) (j : Nat) (G : Nat → Bool) : fgP t L j G = fgP u L j G := by
  have e : fg t L j 0 9 = fg u L j 0 9 := by
    unfold fg
    by_cases c : j < L
    · rw [h j c]
    · rw [if_neg (fun z => c z.1), if_neg (fun z => c z.1)]
  unfold fgP
  rw [e]
theorem part_cg {t u : Nat → Int32} {L q : Nat} (R : fz_A2) (h : ∀ j, j < L → t j = u j) (hq : q < L) : part t L R q = part u L R q := by
  have e := fgP_cg h
  unfold part partH partS partP
  simp only [e, h q hq]
theorem part_e {t : Nat → Int32} {L q e : Nat} {R : fz_A2} (h : part t L R q = .inl e) : e ≤ q + 4 := by
  unfold part at h
  split at h
  · unfold partH at h
    split at h
    · cases h; omega
    · split at h
      · cases h; omega
      · cases h
  · split at h
    · unfold partS at h
      split at h
      · cases h; omega
      · split at h
        · cases h; omega
        · split at h
          · cases h; omega
          · cases h
    · split at h
      · unfold partP at h
        split at h
        · cases h; omega
        · split at h
          · cases h; omega
          · split at h
            · cases h; omega
            · split at h
              · cases h; omega
              · cases h
      · cases h; omega
theorem part_w {t : Nat → Int32} {L q : Nat} {R : fz_A2} {p : Nat × fz_A2} (h : part t L R q = .inr p) (hR : rdW R) : rdW p.2 := by
  unfold part at h
  split at h
  · rename_i c
    unfold partH at h
    split at h
    · cases h
    · rename_i a ga
      split at h
      · cases h
      · rename_i b gb
        cases h
        obtain ⟨-, a2, -, -⟩ := fgP_some ga
        obtain ⟨-, b2, b3, -⟩ := fgP_some gb
        refine ⟨aH_w hR.1 c.2 a2 (of_decide_eq_true b3) b2, fun p hp => ?_⟩
        have e0 : aH R a b 0 2 = R 0 2 := by unfold aH; rw [up2_ne (by omega), up2_ne (by omega), up2_ne (by omega)]
        have e9 : aH R a b 9 p = R 9 p := by unfold aH; rw [up2_ne (by omega), up2_ne (by omega), up2_ne (by omega)]
        dsimp only at hp ⊢
        rw [e0] at hp
        rw [e9]
        exact hR.2 p hp
  · split at h
    · rename_i c
      have z := c.2
      rw [Bool.and_eq_true, decide_eq_true_eq] at z
      unfold partS at h
      split at h
      · cases h
      · rename_i a ga
        split at h
        · cases h
        · rename_i b gb
          split at h
          · cases h
          · rename_i d gd
            cases h
            obtain ⟨-, a2, a3, -⟩ := fgP_some ga
            obtain ⟨-, b2, b3, -⟩ := fgP_some gb
            obtain ⟨-, d2, d3, -⟩ := fgP_some gd
            have d4 := of_decide_eq_true d3
            unfold joinB at b3
            rw [Bool.and_eq_true, Bool.and_eq_true, Bool.not_eq_true', decide_eq_false_iff_not, decide_eq_true_eq] at b3
            refine ⟨aS_w hR.1 z.1 (leavB_h a3) b3.2.1 b3.1 d4.1 d2 d4.2, fun p hp => ?_⟩
            dsimp only at hp ⊢
            rw [aS_0 (by decide)] at hp
            rw [aS_c (by decide) (by omega)]
            exact hR.2 p hp
    · split at h
      · rename_i c
        unfold partP at h
        split at h
        · cases h
        · rename_i g gg
          split at h
          · cases h
          · rename_i w gw
            split at h
            · cases h
            · rename_i f gf
              split at h
              · cases h
              · rename_i x gx
                cases h
                obtain ⟨-, a2, a3, -⟩ := fgP_some gg
                obtain ⟨-, b2, b3, -⟩ := fgP_some gw
                obtain ⟨-, d2, d3, -⟩ := fgP_some gf
                obtain ⟨-, e2, -, -⟩ := fgP_some gx
                refine ⟨aP_w hR.1 c.2.2 (of_decide_eq_true a3) (of_decide_eq_true b3) b2 (of_decide_eq_true d3) d2, fun p hp => ?_⟩
                obtain ⟨n0, -, -, -, n9⟩ := aP_n (R := R) (g := g) (w := w) (f := f) (x := x)
                dsimp only at hp ⊢
                rw [n0] at hp
                by_cases y : p = R 0 2
                · rw [y, n9]; exact e2
                · rw [aP_c (by decide) (by omega)]; exact hR.2 p (by omega)
      · cases h
def mF (ag : fz_M → Option (Int32 × fz_M)) (z : fz_M) : Option (Int32 × fz_M) := f_X9_readTown_20_s ag z
theorem len_1 {f L q k p : Nat} (h : q + k = p) (h2 : p ≤ L) : f + (L - q + 1) = (f + (L - p + 1)) + k := by omega
theorem len_2 {f L q k p : Nat} (h1 : 1 ≤ k) (h : q + k = p) (h2 : p ≤ L) : f + (L - q + 1) = (f + (k - 1) + (L - p + 1)) + 1 := by omega
theorem rd_both {P L : Nat} (hP : P = 20 ∨ P = 30) (hL : L ≤ 96) : ∀ (n q : Nat) (R : fz_A2) (MC MM : fz_M), L - q ≤ n → q ≤ L → MC.1 1 1 = nI L → MC.1 3 1 = 0 → cR P R MC → MM.1 0 2 = nI L → MM.1 0 3 = nI q → mR R MM → rdW R → (∀ j, j < L → MC.1 2 j = MM.1 1 j) →
    ∃ MC' MM', cpOff P MC MC' ∧ pOff MM MM' ∧ ((∃ e, e ≤ L + 4 ∧ (∀ f, fz_lp (cF P) (f + (L - q + 1)) (nI q, MC) = some (nI e, MC')) ∧ (∀ f, fz_lp mF (f + (L - q + 1)) MM = some (nI e, MM'))) ∨
      (∃ R', rdW R' ∧ cR P R' MC' ∧ mR R' MM' ∧ (∀ f, fz_lp (cF P) (f + (L - q + 1)) (nI q, MC) = some (-9, MC')) ∧ (∀ f, fz_lp mF (f + (L - q + 1)) MM = some (-9, MM')))) := by
  intro n
  induction n with
  | zero =>
    intro q R MC MM hd hq c1 c3 cr m2 m3 mr hw ht
    have : q = L := by omega
    subst this
    refine ⟨MC, MM, cpOff.refl P MC, pOff.refl MM, Or.inr ⟨R, hw, cr, mr, fun f => lp_last (n := f + (q - q)) (cEn0 hL c1 c3), fun f => lp_last (n := f + (q - q)) (fun kk => ?_)⟩⟩
    unfold mF f_X9_readTown_20_s
    rw [fz_f_e, fz_f_e, m2, m3, if_pos (nI_le (Nat.le_refl _) (by omega))]
  | succ n ih =>
    intro q R MC MM hd hq c1 c3 cr m2 m3 mr hw ht
    by_cases hqL : q < L
    · obtain ⟨C1, a1, a2⟩ := cPart_e hP hL hqL c1 c3 cr hw.1
      obtain ⟨N1, b1, b2⟩ := mPart_e hL hqL m2 m3 mr hw.1
      rw [part_cg R ht hqL] at a2
      have hge : ¬ nI L ≤ nI q := nI_ge hqL (by omega)
      cases g : part (MM.1 1) L R q with
      | inl e =>
        rw [g] at a2 b2
        have he := part_e g
        obtain ⟨k, k1, k2⟩ := a2
        refine ⟨C1, N1, a1, b1, Or.inl ⟨e, by omega, fun f => ?_, fun f => lp_last (n := f + (L - q)) (fun kk => ?_)⟩⟩
        · rw [show f + (L - q + 1) = (f + (L - q + 1 - k)) + k from by omega]; exact k2 _
        · unfold mF f_X9_readTown_20_s
          rw [fz_f_e, fz_f_e, m2, m3, if_neg hge, b2.1, fz_b2_e, if_neg (by decide), fz_f_e, b2.2]
      | inr p =>
        rw [g] at a2 b2
        have hw' := part_w g hw
        obtain ⟨k, k1, k2, k3, k4, k5, k6⟩ := a2
        obtain ⟨b3, b4, b5⟩ := b2
        obtain ⟨MC', MM', x1, x2, x3⟩ := ih p.1 p.2 C1 N1 (by omega) k3 (by rw [a1.2 1 (by decide) (by decide) (by omega)]; exact c1) k6 k5 (by rw [b1.2.2 2 (by decide) (by decide) (by decide) (by decide)]; exact m2) b4 b5 hw' (fun j hj => by rw [a1.2 2 (by decide) (by decide) (by omega), b1.2.1 1 (by decide) (by decide)]; exact ht j hj)
        have stepC : ∀ f r, (∀ f, fz_lp (cF P) (f + (L - p.1 + 1)) (nI p.1, C1) = r) → fz_lp (cF P) (f + (L - q + 1)) (nI q, MC) = r := by
          intro f r hr
          rw [len_1 (f := f) k2 k3, k4]
          exact hr f
        have stepM : ∀ f r, (∀ f, fz_lp mF (f + (L - p.1 + 1)) N1 = r) → fz_lp mF (f + (L - q + 1)) MM = r := by
          intro f r hr
          have s0 : ∀ kk, mF kk MM = kk N1 := by
            intro kk
            unfold mF f_X9_readTown_20_s
            rw [fz_f_e, fz_f_e, m2, m3, if_neg hge, b3, fz_b2_e, if_pos (by decide)]
          rw [len_2 (f := f) k1 k2 k3]
          exact (lp_cons s0).trans (hr _)
        refine ⟨MC', MM', a1.trans x1, b1.trans x2, ?_⟩
        rcases x3 with ⟨e, e0, e1, e2⟩ | ⟨R', r1, r2, r3, r4, r5⟩
        · exact Or.inl ⟨e, e0, fun f => stepC f _ e1, fun f => stepM f _ e2⟩
        · exact Or.inr ⟨R', r1, r2, r3, fun f => stepC f _ r4, fun f => stepM f _ r5⟩
    · have : q = L := by omega
      subst this
      refine ⟨MC, MM, cpOff.refl P MC, pOff.refl MM, Or.inr ⟨R, hw, cr, mr, fun f => lp_last (n := f + (q - q)) (cEn0 hL c1 c3), fun f => lp_last (n := f + (q - q)) (fun kk => ?_)⟩⟩
      unfold mF f_X9_readTown_20_s
      rw [fz_f_e, fz_f_e, m2, m3, if_pos (nI_le (Nat.le_refl _) (by omega))]
