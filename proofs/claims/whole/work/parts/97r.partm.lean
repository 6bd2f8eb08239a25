/-! the model's reading of a piece, and of a part -/
theorem mPie4 {q L g w f : Nat} {R : fz_A2} {M : fz_M} (hL : L ≤ 96) (hq : q + 4 ≤ L) (hf : f ≤ 9) (h2 : M.1 0 2 = nI L) (h3 : M.1 0 3 = nI (q + 4)) (hT : mR R M) (h6 : R 0 2 < 6) : ∃ M', pOff M M' ∧ mAft (match fgP (M.1 1) L (q + 4) (fun _ => true) with | none => .inl (q + 4) | some x => .inr (q + 5, aP R g w f x)) (f_X9_readPiece_49 (nI g) (nI w) (nI f) M) M' := by
  unfold f_X9_readPiece_49
  have f1 : f_X9_figure 0 9 M = _ := mFgP_e (lo := 0) (hi := 9) (G := fun _ => true) (by decide) (by decide) hL hq h2 h3 (fun d hd => ⟨fun _ => ⟨Nat.zero_le _, hd⟩, fun _ => rfl⟩)
  have nf : ¬ nI f = -9 := nI_neg (by omega)
  rw [if_pos nf]
  cases g1 : fgP (M.1 1) L (q + 4) (fun _ => true) with
  | none =>
    rw [g1] at f1
    exact ⟨M, pOff.refl M, by rw [f1]; rfl, h3⟩
  | some x =>
    rw [g1] at f1
    dsimp only at f1 ⊢
    obtain ⟨a1, a2, -, a4⟩ := fgP_some g1
    obtain ⟨M3, e3, d2, d3, dT, d1, do3⟩ := mStp (q := q + 4) h2 hT
    rw [e3] at f1
    have nx : ¬ nI x = -9 := nI_neg (by omega)
    have hin : fz_in (nI (R 0 2)) 6 = true := fz_in_nI h6 (by decide)
    have h31 : R 0 2 < 2 ^ 31 := by omega
    rw [f1, fz_b2_e]
    refine ⟨fz_w (fz_w (fz_w (fz_w (fz_w M3 21 (R 0 2) (nI g)) 22 (R 0 2) (nI w)) 23 (R 0 2) (nI f)) 24 (R 0 2) (nI x)) 0 24 (nI (R 0 2 + 1)), do3.trans (((((pOff_w (by decide)).trans (pOff_w (by decide))).trans (pOff_w (by decide))).trans (pOff_w (by decide))).trans (pOff_w0 (by decide))), ?_, ?_, mR_aP dT⟩
    · simp (disch := decide) only [f_X9_readPiece_68, nx, fz_f_e, dT.2.2.1, fz_gd_t hin, fz_s_nI h31, fz_bd_e, fz_sf_e, w_ne, nI_1, ↓reduceIte, not_false_eq_true]
    · rw [w_nj (by decide), w_ne (by decide), w_ne (by decide), w_ne (by decide), w_ne (by decide)]; exact d3
theorem mPie3 {q L g w : Nat} {R : fz_A2} {M : fz_M} (hL : L ≤ 96) (hq : q + 3 ≤ L) (hw9 : w ≤ 9) (h2 : M.1 0 2 = nI L) (h3 : M.1 0 3 = nI (q + 3)) (hT : mR R M) (h6 : R 0 2 < 6) : ∃ M', pOff M M' ∧ mAft (match fgP (M.1 1) L (q + 3) (fun d => decide (1 ≤ d)) with | none => .inl (q + 3) | some f => match fgP (M.1 1) L (q + 4) (fun _ => true) with | none => .inl (q + 4) | some x => .inr (q + 5, aP R g w f x)) (f_X9_readPiece_30 (nI g) (nI w) M) M' := by
  unfold f_X9_readPiece_30
  have f1 : f_X9_figure 1 9 M = _ := mFgP_e (lo := 1) (hi := 9) (G := fun d => decide (1 ≤ d)) (by decide) (by decide) hL hq h2 h3 (fun d hd => ⟨fun h => ⟨of_decide_eq_true h, hd⟩, fun h => decide_eq_true h.1⟩)
  have nw : ¬ nI w = -9 := nI_neg (by omega)
  rw [if_pos nw]
  cases g1 : fgP (M.1 1) L (q + 3) (fun d => decide (1 ≤ d)) with
  | none =>
    rw [g1] at f1
    exact ⟨M, pOff.refl M, by rw [f1]; rfl, h3⟩
  | some f =>
    rw [g1] at f1
    dsimp only at f1 ⊢
    obtain ⟨a1, a2, -, a4⟩ := fgP_some g1
    obtain ⟨M3, e3, d2, d3, dT, d1, do3⟩ := mStp (q := q + 3) h2 hT
    rw [e3] at f1
    rw [f1, fz_b2_e, ← d1]
    obtain ⟨M', m1, m2⟩ := mPie4 (g := g) (w := w) (f := f) hL (show q + 4 ≤ L by omega) a2 d2 d3 dT h6
    exact ⟨M', do3.trans m1, m2⟩
theorem mPie_e {q L : Nat} {R : fz_A2} {M : fz_M} (hL : L ≤ 96) (hq : q + 1 ≤ L) (h2 : M.1 0 2 = nI L) (h3 : M.1 0 3 = nI (q + 1)) (hT : mR R M) (hw : wT R) (h0 : 0 < R 0 0) (h6 : R 0 2 < 6) : ∃ M', pOff M M' ∧ mAft (partP (M.1 1) L R q) (f_X9_readPiece M) M' := by
  have hn := hw.1
  unfold f_X9_readPiece partP
  rw [fz_f_e, hT.1, show nI (R 0 0) - 1 = nI (R 0 0 - 1) from nI_sub (a := R 0 0) (b := 1) h0]
  have f1 : f_X9_figure 0 (nI (R 0 0 - 1)) M = _ := mFgP_e (lo := 0) (hi := R 0 0 - 1) (G := fun d => decide (d < R 0 0)) (by decide) (by omega) hL hq h2 h3 (fun d hd => ⟨fun h => ⟨Nat.zero_le _, by have := of_decide_eq_true h; omega⟩, fun h => decide_eq_true (by omega)⟩)
  cases g1 : fgP (M.1 1) L (q + 1) (fun d => decide (d < R 0 0)) with
  | none =>
    rw [g1] at f1
    exact ⟨M, pOff.refl M, by rw [f1]; rfl, h3⟩
  | some g =>
    rw [g1] at f1
    dsimp only at f1 ⊢
    obtain ⟨a1, a2, -, a4⟩ := fgP_some g1
    obtain ⟨M2, e2, b2, b3, bT, b1, bo⟩ := mStp (q := q + 1) h2 hT
    rw [e2] at f1
    have ng : ¬ nI g = -9 := nI_neg (by omega)
    rw [f1, fz_b2_e, if_pos ng]
    have f2 : f_X9_figure 1 9 M2 = _ := mFgP_e (lo := 1) (hi := 9) (G := fun d => decide (1 ≤ d)) (by decide) (by decide) hL (show q + 2 ≤ L by omega) b2 b3 (fun d hd => ⟨fun h => ⟨of_decide_eq_true h, hd⟩, fun h => decide_eq_true h.1⟩)
    rw [b1] at f2
    cases g2 : fgP (M.1 1) L (q + 2) (fun d => decide (1 ≤ d)) with
    | none =>
      rw [g2] at f2
      exact ⟨M2, bo, by rw [f2]; rfl, b3⟩
    | some w =>
      rw [g2] at f2
      dsimp only at f2 ⊢
      obtain ⟨c1, c2, -, c4⟩ := fgP_some g2
      obtain ⟨M3, e3, d2, d3, dT, d1, do3⟩ := mStp (q := q + 2) b2 bT
      rw [e3] at f2
      rw [f2, fz_b2_e, ← b1, ← d1]
      obtain ⟨M', m1, m2⟩ := mPie3 (g := g) (w := w) hL (show q + 3 ≤ L by omega) c2 d2 d3 dT h6
      exact ⟨M', (bo.trans do3).trans m1, m2⟩
/-- its answers are no and yes alone -/
theorem mAft_nb {s : Nat ⊕ (Nat × fz_A2)} {o : Option (Int32 × fz_M)} {M' : fz_M} (h : mAft s o M') : fz_b2 o (fun r M => fz_gd (fz_nb r) (some (r, M))) = o := by
  cases s with
  | inl e => rw [h.1]; rfl
  | inr p => rw [h.1]; rfl
theorem mPart_e {q L : Nat} {R : fz_A2} {M : fz_M} (hL : L ≤ 96) (hq : q < L) (h2 : M.1 0 2 = nI L) (h3 : M.1 0 3 = nI q) (hT : mR R M) (hw : wT R) : ∃ M', pOff M M' ∧ mAft (part (M.1 1) L R q) (f_X9_readPart M) M' := by
  have hn := hw.1
  have hn1 := hw.2.1
  have hn2 := hw.2.2.1
  have hin : fz_in (nI q) 96 = true := fz_in_nI (by omega) (by decide)
  obtain ⟨M2, e2, b2, b3, bT, b1, bo⟩ := mStp (q := q) h2 hT
  unfold f_X9_readPart
  rw [fz_f_e, h3, fz_gd_t hin, fz_g_nI (by omega), fz_bd_e, fz_f_e, hT.1, fz_sf_e, nI_1, e2, fz_bd_e]
  unfold part
  by_cases x1 : M.1 1 q = 72 ∧ R 0 0 < 6
  · rw [if_pos x1, if_neg (not_not_intro x1.1), if_neg (show ¬ (6 : Int32) ≤ nI (R 0 0) from nI_ge (b := 6) x1.2 (by decide))]
    obtain ⟨M', m1, m2⟩ := mHou_e (q := q) hL (by omega) b2 b3 bT x1.2
    rw [b1] at m2
    refine ⟨M', bo.trans m1, ?_⟩
    rw [mAft_nb m2]; exact m2
  · have e40 : (if ¬ M.1 1 q = 72 then f_X9_readPart_40 (M.1 1 q) M else if (6 : Int32) ≤ nI (R 0 0) then f_X9_readPart_40 (M.1 1 q) M else fz_b2 (f_X9_readHouse M2) fun r6 M7 => fz_gd (fz_nb r6) (some (r6, M7))) = f_X9_readPart_40 (M.1 1 q) M := by
      by_cases y : M.1 1 q = 72
      · have y6 : ¬ R 0 0 < 6 := fun z => x1 ⟨y, z⟩
        rw [if_neg (not_not_intro y), if_pos (show (6 : Int32) ≤ nI (R 0 0) from nI_le (a := 6) (by omega) (by omega))]
      · rw [if_pos y]
    rw [e40, if_neg x1]
    unfold f_X9_readPart_40
    rw [fz_f_e, hT.2.1, mAny_e hT hw, fz_b1_e, fz_sf_e, fz_f_e, h3, nI_1, e2, fz_bd_e]
    by_cases x2 : M.1 1 q = 83 ∧ (decide (R 0 1 < 10) && anyB (leavB R) (R 0 0)) = true
    · have z := x2.2
      rw [Bool.and_eq_true, decide_eq_true_eq] at z
      rw [if_pos x2, if_neg (not_not_intro x2.1), if_neg (show ¬ (10 : Int32) ≤ nI (R 0 1) from nI_ge (b := 10) z.1 (by decide)), if_pos z.2, if_neg (show ¬ (1 : Int32) = 0 by decide)]
      obtain ⟨M', m1, m2⟩ := mStr_e (q := q) hL (by omega) b2 b3 bT hw z.1
      rw [b1] at m2
      refine ⟨M', bo.trans m1, ?_⟩
      rw [mAft_nb m2]; exact m2
    · have e77 : (if ¬ M.1 1 q = 83 then f_X9_readPart_77 (M.1 1 q) M else if (10 : Int32) ≤ nI (R 0 1) then f_X9_readPart_77 (M.1 1 q) M else if (if anyB (leavB R) (R 0 0) = true then (1 : Int32) else 0) = 0 then f_X9_readPart_77 (M.1 1 q) M else fz_b2 (f_X9_readStream M2) fun r8 M9 => fz_gd (fz_nb r8) (some (r8, M9))) = f_X9_readPart_77 (M.1 1 q) M := by
        by_cases y : M.1 1 q = 83
        · rw [if_neg (not_not_intro y)]
          by_cases y1 : R 0 1 < 10
          · rw [if_neg (show ¬ (10 : Int32) ≤ nI (R 0 1) from nI_ge (b := 10) y1 (by decide))]
            have y2 : ¬ anyB (leavB R) (R 0 0) = true := fun z => x2 ⟨y, by rw [z, decide_eq_true y1]; rfl⟩
            rw [if_neg y2, if_pos rfl]
          · rw [if_pos (show (10 : Int32) ≤ nI (R 0 1) from nI_le (a := 10) (by omega) (by omega))]
        · rw [if_pos y]
      rw [e77, if_neg x2]
      unfold f_X9_readPart_77
      rw [fz_f_e, fz_f_e, hT.2.2.1, hT.1, fz_sf_e, fz_f_e, h3, nI_1, e2, fz_bd_e]
      by_cases x3 : M.1 1 q = 80 ∧ 0 < R 0 0 ∧ R 0 2 < 6
      · rw [if_pos x3, if_neg (not_not_intro x3.1), if_neg (show ¬ (6 : Int32) ≤ nI (R 0 2) from nI_ge (b := 6) x3.2.2 (by decide)), if_neg (show ¬ nI (R 0 0) ≤ 0 from nI_nle (n := R 0 0) x3.2.1 (by omega))]
        obtain ⟨M', m1, m2⟩ := mPie_e (q := q) hL (by omega) b2 b3 bT hw x3.2.1 x3.2.2
        rw [b1] at m2
        refine ⟨M', bo.trans m1, ?_⟩
        rw [mAft_nb m2]; exact m2
      · rw [if_neg x3]
        refine ⟨M, pOff.refl M, ?_, h3⟩
        by_cases y : M.1 1 q = 80
        · rw [if_neg (not_not_intro y)]
          by_cases y1 : R 0 2 < 6
          · have y0 : ¬ 0 < R 0 0 := fun z => x3 ⟨y, z, y1⟩
            rw [if_neg (show ¬ (6 : Int32) ≤ nI (R 0 2) from nI_ge (b := 6) y1 (by decide)), if_pos (show nI (R 0 0) ≤ 0 from nI_le (b := 0) (by omega) (by decide))]
          · rw [if_pos (show (6 : Int32) ≤ nI (R 0 2) from nI_le (a := 6) (by omega) (by omega))]
        · rw [if_pos y]
