/-! the model's reading of a stream -/
theorem mPk {ρ : Type} {j L : Nat} {M : fz_M} (hL : L ≤ 96) (hj : j ≤ L) (h2 : M.1 0 2 = nI L) (h3 : M.1 0 3 = nI j) (K : Int32 → Option ρ) : (if (fz_f M 0 2) ≤ (fz_f M 0 3) then K (-9) else fz_gd (fz_in (fz_f M 0 3) 96) (K ((fz_g M 1 (fz_f M 0 3)) - 48))) = K (if j < L then M.1 1 j - 48 else -9) := by
  rw [fz_f_e, fz_f_e, h2, h3]
  by_cases c : j < L
  · rw [if_neg (nI_ge c (by omega)), fz_gd_t (fz_in_nI (by omega) (by decide)), fz_g_nI (by omega), if_pos c]
  · rw [if_pos (nI_le (by omega) (by omega)), if_neg c]
theorem mPk_h {L j i : Nat} {t : Nat → Int32} (hi : i < 2 ^ 31) (e : (if j < L then t j - 48 else -9) = nI i) : j < L ∧ t j - 48 = nI i := by
  by_cases c : j < L
  · rw [if_pos c] at e; exact ⟨c, e⟩
  · rw [if_neg c] at e; exact absurd e.symm (nI_neg hi)
theorem leavB_f {R : fz_A2} {d : Nat} (h : ¬ d < R 0 0) : leavB R d = false := by
  unfold leavB
  rw [decide_eq_false h]; rfl
theorem joinB_f {R : fz_A2} {a d : Nat} (h : ¬ d < R 0 0) : joinB R a d = false := by
  unfold joinB
  rw [decide_eq_false h]
  cases decide (a = d) <;> rfl
/-- a byte that is none of the houses is none that a house has -/
theorem fgP_out {t : Nat → Int32} {L j n : Nat} {G : Nat → Bool} (hn : n ≤ 6) (hx : (if j < L then t j - 48 else -9) < 0 ∨ nI n ≤ (if j < L then t j - 48 else -9)) (hG : ∀ d, ¬ d < n → G d = false) : fgP t L j G = none := by
  refine fgP_none (fun d a b c => hG d (fun q => ?_))
  rw [if_pos a, c] at hx
  rcases hx with h | h
  · exact nI_pos (by omega) h
  · exact nI_ge q (by omega) h
theorem fgP_no {t : Nat → Int32} {L j i : Nat} {G : Nat → Bool} (hi : i < 2 ^ 31) (h : t j - 48 = nI i) (hG : G i = false) : fgP t L j G = none := by
  refine fgP_none (fun d a b c => ?_)
  have : d = i := (nI_eq (by omega) hi).mp (c.symm.trans h)
  rw [this]; exact hG
theorem mStr3 {q L a b : Nat} {hi : Int32} {R : fz_A2} {M : fz_M} (hL : L ≤ 96) (hq : q + 3 ≤ L) (h2 : M.1 0 2 = nI L) (h3 : M.1 0 3 = nI (q + 3)) (hT : mR R M) (h10 : R 0 1 < 10) (he : hi = nI (min 9 (lefT R a))) : ∃ M', pOff M M' ∧ mAft (match fgP (M.1 1) L (q + 3) (fun d => decide (1 ≤ d ∧ d ≤ lefT R a)) with | none => .inl (q + 3) | some c => .inr (q + 4, aS R a b c)) (f_X9_readStream_156 (nI a) (nI b) 1 hi M) M' := by
  subst he
  unfold f_X9_readStream_156
  have f1 : f_X9_figure 1 (nI (min 9 (lefT R a))) M = _ := mFgP_e (lo := 1) (hi := min 9 (lefT R a)) (G := fun d => decide (1 ≤ d ∧ d ≤ lefT R a)) (by decide) (by omega) hL hq h2 h3 (fun d hd => ⟨fun h => ⟨(of_decide_eq_true h).1, by have := (of_decide_eq_true h).2; omega⟩, fun h => decide_eq_true ⟨h.1, by omega⟩⟩)
  cases g1 : fgP (M.1 1) L (q + 3) (fun d => decide (1 ≤ d ∧ d ≤ lefT R a)) with
  | none =>
    rw [g1] at f1
    exact ⟨M, pOff.refl M, by rw [f1]; rfl, h3⟩
  | some c =>
    rw [g1] at f1
    dsimp only at f1 ⊢
    obtain ⟨a1, a2, -, a4⟩ := fgP_some g1
    obtain ⟨M3, e3, d2, d3, dT, d1, do3⟩ := mStp (q := q + 3) h2 hT
    rw [e3] at f1
    have nc : ¬ nI c = -9 := nI_neg (by omega)
    have hin : fz_in (nI (R 0 1)) 10 = true := fz_in_nI h10 (by decide)
    have h31 : R 0 1 < 2 ^ 31 := by omega
    rw [f1, fz_b2_e]
    refine ⟨fz_w (fz_w (fz_w (fz_w M3 18 (R 0 1) (nI a)) 19 (R 0 1) (nI b)) 20 (R 0 1) (nI c)) 0 23 (nI (R 0 1 + 1)), do3.trans ((((pOff_w (by decide)).trans (pOff_w (by decide))).trans (pOff_w (by decide))).trans (pOff_w0 (by decide))), ?_, ?_, mR_aS dT⟩
    · simp (disch := decide) only [nc, fz_f_e, dT.2.1, fz_gd_t hin, fz_s_nI h31, fz_bd_e, fz_sf_e, w_ne, nI_1, ↓reduceIte, not_false_eq_true]
    · rw [w_nj (by decide), w_ne (by decide), w_ne (by decide), w_ne (by decide)]; exact d3
theorem mStr2 {q L a : Nat} {R : fz_A2} {M : fz_M} (hL : L ≤ 96) (hq : q + 2 ≤ L) (ha : a < R 0 0) (h2 : M.1 0 2 = nI L) (h3 : M.1 0 3 = nI (q + 2)) (hT : mR R M) (hw : wT R) (h10 : R 0 1 < 10) : ∃ M', pOff M M' ∧ mAft (match fgP (M.1 1) L (q + 2) (joinB R a) with | none => .inl (q + 2) | some b => match fgP (M.1 1) L (q + 3) (fun d => decide (1 ≤ d ∧ d ≤ lefT R a)) with | none => .inl (q + 3) | some c => .inr (q + 4, aS R a b c)) (f_X9_readStream_93 (nI a) (if q + 2 < L then M.1 1 (q + 2) - 48 else -9) M) M' := by
  have hn := hw.1
  unfold f_X9_readStream_93
  rw [fz_f_e, hT.1]
  generalize hx : (if q + 2 < L then M.1 1 (q + 2) - 48 else -9) = x
  rcases x_rng x (n := R 0 0) (by omega) with ⟨b, hb, rfl⟩ | ho
  · obtain ⟨k1, k2⟩ := mPk_h (by omega) hx
    rw [in_t hb (by omega), fz_b1_e, if_neg (by decide)]
    have k0 : nI a = nI b ↔ a = b := nI_eq (by omega) (by omega)
    rw [mTol_e (by omega) (by omega) hT hw, fz_b1_e]
    by_cases c0 : a = b
    · rw [if_pos (k0.mpr c0), fgP_no (by omega) k2 (by unfold joinB; rw [decide_eq_true c0]; rfl)]
      exact ⟨M, pOff.refl M, rfl, h3⟩
    · rw [if_neg (fun z => c0 (k0.mp z))]
      by_cases c1 : told R a b (R 0 1) = true
      · rw [if_pos c1, if_neg (by decide), fgP_no (by omega) k2 (by unfold joinB; rw [c1, Bool.not_true, Bool.and_false, Bool.and_false])]
        exact ⟨M, pOff.refl M, rfl, h3⟩
      · rw [if_neg c1, if_pos rfl, fgP_of k1 (by omega) (by unfold joinB; rw [decide_eq_false c0, decide_eq_true hb, Bool.eq_false_iff.mpr c1]; rfl) k2]
        dsimp only
        obtain ⟨M2, e2, b2, b3, bT, b1, bo⟩ := mStp (q := q + 2) h2 hT
        have hl : lefT R a ≤ 10 := Nat.sub_le _ _
        rw [fz_sf_e, fz_f_e, h3, nI_1, e2, fz_bd_e, mLef_e (by omega) bT hw, fz_b1_e, ← b1]
        by_cases c2 : 9 ≤ lefT R a
        · rw [if_pos (show (9 : Int32) ≤ nI (lefT R a) from nI_le (a := 9) c2 (by omega))]
          obtain ⟨M', m1, m2⟩ := mStr3 (a := a) (b := b) (hi := 9) hL (show q + 3 ≤ L by omega) b2 b3 bT h10 (by rw [Nat.min_eq_left c2]; rfl)
          exact ⟨M', bo.trans m1, m2⟩
        · rw [if_neg (show ¬ (9 : Int32) ≤ nI (lefT R a) from nI_ge (b := 9) (by omega) (by decide))]
          obtain ⟨M', m1, m2⟩ := mStr3 (a := a) (b := b) (hi := nI (lefT R a)) hL (show q + 3 ≤ L by omega) b2 b3 bT h10 (by rw [Nat.min_eq_right (by omega)])
          exact ⟨M', bo.trans m1, m2⟩
  · rw [in_f ho (by omega), fz_b1_e, if_pos rfl]
    rw [← hx] at ho
    rw [fgP_out hn ho (fun d hd => joinB_f hd)]
    exact ⟨M, pOff.refl M, rfl, h3⟩
theorem mStr_e {q L : Nat} {R : fz_A2} {M : fz_M} (hL : L ≤ 96) (hq : q + 1 ≤ L) (h2 : M.1 0 2 = nI L) (h3 : M.1 0 3 = nI (q + 1)) (hT : mR R M) (hw : wT R) (h10 : R 0 1 < 10) : ∃ M', pOff M M' ∧ mAft (partS (M.1 1) L R q) (f_X9_readStream M) M' := by
  have hn := hw.1
  unfold f_X9_readStream partS
  rw [mPk hL hq h2 h3 (fun x => f_X9_readStream_28 x M)]
  unfold f_X9_readStream_28
  rw [fz_f_e, hT.1]
  generalize hx : (if q + 1 < L then M.1 1 (q + 1) - 48 else -9) = x
  rcases x_rng x (n := R 0 0) (by omega) with ⟨a, ha, rfl⟩ | ho
  · obtain ⟨k1, k2⟩ := mPk_h (by omega) hx
    rw [in_t ha (by omega), fz_b1_e, if_neg (by decide), mMor_e ha hT hw, fz_b1_e]
    by_cases c1 : leavB R a = true
    · rw [if_pos c1, if_pos (by decide), fgP_of k1 (by omega) c1 k2]
      dsimp only
      obtain ⟨M2, e2, b2, b3, bT, b1, bo⟩ := mStp (q := q + 1) h2 hT
      rw [fz_sf_e, fz_f_e, h3, nI_1, e2, fz_bd_e, mPk hL (show q + 2 ≤ L by omega) b2 b3 (fun x => f_X9_readStream_93 (nI a) x M2), ← b1]
      obtain ⟨M', m1, m2⟩ := mStr2 (a := a) hL (show q + 2 ≤ L by omega) ha b2 b3 bT hw h10
      exact ⟨M', bo.trans m1, m2⟩
    · rw [if_neg c1, if_neg (by decide), fgP_no (by omega) k2 (Bool.eq_false_iff.mpr c1)]
      exact ⟨M, pOff.refl M, rfl, h3⟩
  · rw [in_f ho (by omega), fz_b1_e, if_pos rfl]
    rw [← hx] at ho
    rw [fgP_out hn ho (fun d hd => leavB_f hd)]
    exact ⟨M, pOff.refl M, rfl, h3⟩
