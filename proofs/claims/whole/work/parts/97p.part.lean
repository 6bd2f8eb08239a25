/-! one part of the text, as it should be read; the model's reading of it -/
def fgP (t : Nat → Int32) (L j : Nat) (G : Nat → Bool) : Option Nat := match fg t L j 0 9 with
  | none => none
  | some d => if G d = true then some d else none
def partH (t : Nat → Int32) (L : Nat) (R : fz_A2) (q : Nat) : Nat ⊕ (Nat × fz_A2) := match fgP t L (q + 1) (fun _ => true) with
  | none => .inl (q + 1)
  | some a => match fgP t L (q + 2) (fun d => decide (1 ≤ d)) with
    | none => .inl (q + 2)
    | some b => .inr (q + 3, aH R a b)
def partS (t : Nat → Int32) (L : Nat) (R : fz_A2) (q : Nat) : Nat ⊕ (Nat × fz_A2) := match fgP t L (q + 1) (leavB R) with
  | none => .inl (q + 1)
  | some a => match fgP t L (q + 2) (joinB R a) with
    | none => .inl (q + 2)
    | some b => match fgP t L (q + 3) (fun d => decide (1 ≤ d ∧ d ≤ lefT R a)) with
      | none => .inl (q + 3)
      | some c => .inr (q + 4, aS R a b c)
def partP (t : Nat → Int32) (L : Nat) (R : fz_A2) (q : Nat) : Nat ⊕ (Nat × fz_A2) := match fgP t L (q + 1) (fun d => decide (d < R 0 0)) with
  | none => .inl (q + 1)
  | some g => match fgP t L (q + 2) (fun d => decide (1 ≤ d)) with
    | none => .inl (q + 2)
    | some w => match fgP t L (q + 3) (fun d => decide (1 ≤ d)) with
      | none => .inl (q + 3)
      | some f => match fgP t L (q + 4) (fun _ => true) with
        | none => .inl (q + 4)
        | some x => .inr (q + 5, aP R g w f x)
def part (t : Nat → Int32) (L : Nat) (R : fz_A2) (q : Nat) : Nat ⊕ (Nat × fz_A2) :=
  if t q = 72 ∧ R 0 0 < 6 then partH t L R q
  else if t q = 83 ∧ (decide (R 0 1 < 10) && anyB (leavB R) (R 0 0)) = true then partS t L R q
  else if t q = 80 ∧ 0 < R 0 0 ∧ R 0 2 < 6 then partP t L R q
  else .inl q
theorem fgP_some {t : Nat → Int32} {L j d : Nat} {G : Nat → Bool} (h : fgP t L j G = some d) : j < L ∧ d ≤ 9 ∧ G d = true ∧ t j - 48 = nI d := by
  unfold fgP at h
  cases g : fg t L j 0 9 with
  | none => rw [g] at h; cases h
  | some e =>
    rw [g] at h
    dsimp only at h
    by_cases c : G e = true
    · rw [if_pos c] at h
      cases h
      obtain ⟨a1, -, a3, a4⟩ := fg_some (by decide) (by decide) g
      exact ⟨a1, a3, c, a4⟩
    · rw [if_neg c] at h; cases h
theorem fgP_of {t : Nat → Int32} {L j d : Nat} {G : Nat → Bool} (hj : j < L) (hd : d ≤ 9) (hG : G d = true) (h : t j - 48 = nI d) : fgP t L j G = some d := by
  have e : fg t L j 0 9 = some d := by
    unfold fg
    rw [h, if_pos ⟨hj, nI_le (by omega) (by omega), nI_le hd (by decide)⟩, nI_clamp (by omega)]
  unfold fgP
  rw [e]
  dsimp only
  rw [if_pos hG]
theorem fgP_none {t : Nat → Int32} {L j : Nat} {G : Nat → Bool} (h : ∀ d, j < L → d ≤ 9 → t j - 48 = nI d → G d = false) : fgP t L j G = none := by
  cases g : fgP t L j G with
  | none => rfl
  | some d =>
    obtain ⟨a1, a2, a3, a4⟩ := fgP_some g
    rw [h d a1 a2 a4] at a3
    cases a3
theorem mFgP_e {q L lo hi : Nat} {M : fz_M} {G : Nat → Bool} (hlo : lo ≤ 9) (hhi : hi ≤ 9) (hL : L ≤ 96) (hq : q ≤ L) (h2 : M.1 0 2 = nI L) (h3 : M.1 0 3 = nI q) (hG : ∀ d, d ≤ 9 → (G d = true ↔ lo ≤ d ∧ d ≤ hi)) : f_X9_figure (nI lo) (nI hi) M = match fgP (M.1 1) L q G with | none => some (-9, M) | some d => some (nI d, fz_w M 0 3 (nI (q + 1))) := by
  rw [mFg_e (by omega) (by omega) hL hq h2 h3]
  cases g : fg (M.1 1) L q lo hi with
  | none =>
    rw [fgP_none (fun d a b c => ?_)]
    cases k : G d with
    | false => rfl
    | true =>
      have k2 := (hG d b).mp k
      unfold fg at g
      rw [if_pos ⟨a, by rw [c]; exact nI_le k2.1 (by omega), by rw [c]; exact nI_le k2.2 (by omega)⟩] at g
      cases g
  | some d =>
    obtain ⟨a1, a2, a3, a4⟩ := fg_some (by omega) (by omega) g
    rw [fgP_of a1 (by omega) ((hG d (by omega)).mpr ⟨a2, a3⟩) a4]
/-- reading leaves alone -/
def pOff (M M' : fz_M) : Prop := M'.2 = M.2 ∧ (∀ c, c ≠ 0 → (c < 16 ∨ 24 < c) → M'.1 c = M.1 c) ∧ (∀ j, j ≠ 3 → j ≠ 22 → j ≠ 23 → j ≠ 24 → M'.1 0 j = M.1 0 j)
theorem pOff.refl (M : fz_M) : pOff M M := ⟨rfl, fun _ _ _ => rfl, fun _ _ _ _ _ => rfl⟩
theorem pOff.trans {M M1 M2 : fz_M} (h : pOff M M1) (k : pOff M1 M2) : pOff M M2 := ⟨k.1.trans h.1, fun c a b => (k.2.1 c a b).trans (h.2.1 c a b), fun j a b c d => (k.2.2 j a b c d).trans (h.2.2 j a b c d)⟩
theorem pOff_w0 {M : fz_M} {j : Nat} {v : Int32} (h : j = 3 ∨ j = 22 ∨ j = 23 ∨ j = 24) : pOff M (fz_w M 0 j v) := ⟨rfl, fun c a b => w_ne a, fun k a b c d => w_nj (by omega)⟩
theorem pOff_w {M : fz_M} {c i : Nat} {v : Int32} (h : 16 ≤ c ∧ c ≤ 24) : pOff M (fz_w M c i v) := ⟨rfl, fun d a b => w_ne (by omega), fun k _ _ _ _ => by rw [w_ne (by omega)]⟩
theorem mR_fr {R : fz_A2} {M M' : fz_M} (h : mR R M) (e : ∀ c, 16 ≤ c → c ≤ 24 → M'.1 c = M.1 c) (e1 : ∀ j, j = 22 ∨ j = 23 ∨ j = 24 → M'.1 0 j = M.1 0 j) : mR R M' := by
  obtain ⟨h0, h1, h2, h3, h4, h5⟩ := h
  refine ⟨by rw [e1 22 (by decide)]; exact h0, by rw [e1 23 (by decide)]; exact h1, by rw [e1 24 (by decide)]; exact h2, fun h hh => ?_, fun s hs => ?_, fun p hp => ?_⟩
  · rw [e 16 (by decide) (by decide), e 17 (by decide) (by decide)]; exact h3 h hh
  · rw [e 18 (by decide) (by decide), e 19 (by decide) (by decide), e 20 (by decide) (by decide)]; exact h4 s hs
  · rw [e 21 (by decide) (by decide), e 22 (by decide) (by decide), e 23 (by decide) (by decide), e 24 (by decide) (by decide)]; exact h5 p hp
/-- what the model's readers say -/
def mAft (s : Nat ⊕ (Nat × fz_A2)) (o : Option (Int32 × fz_M)) (M' : fz_M) : Prop := match s with
  | .inl e => o = some (0, M') ∧ M'.1 0 3 = nI e
  | .inr p => o = some (1, M') ∧ M'.1 0 3 = nI p.1 ∧ mR p.2 M'
/-- the place moved on -/
theorem mStp {q L : Nat} {R : fz_A2} {M : fz_M} (h2 : M.1 0 2 = nI L) (hT : mR R M) : ∃ M2, fz_w M 0 3 (nI (q + 1)) = M2 ∧ M2.1 0 2 = nI L ∧ M2.1 0 3 = nI (q + 1) ∧ mR R M2 ∧ M2.1 1 = M.1 1 ∧ pOff M M2 :=
  ⟨_, rfl, by rw [w_nj (by decide)]; exact h2, w_at, mR_fr hT (fun c a _ => w_ne (by omega)) (fun j a => w_nj (by omega)), w_ne (by decide), pOff_w0 (by decide)⟩
theorem mHou_e {q L : Nat} {R : fz_A2} {M : fz_M} (hL : L ≤ 96) (hq : q + 1 ≤ L) (h2 : M.1 0 2 = nI L) (h3 : M.1 0 3 = nI (q + 1)) (hT : mR R M) (h6 : R 0 0 < 6) : ∃ M', pOff M M' ∧ mAft (partH (M.1 1) L R q) (f_X9_readHouse M) M' := by
  unfold f_X9_readHouse partH
  have f1 : f_X9_figure 0 9 M = _ := mFgP_e (lo := 0) (hi := 9) (G := fun _ => true) (by decide) (by decide) hL hq h2 h3 (fun d hd => ⟨fun _ => ⟨Nat.zero_le _, hd⟩, fun _ => rfl⟩)
  cases g1 : fgP (M.1 1) L (q + 1) (fun _ => true) with
  | none =>
    rw [g1] at f1
    exact ⟨M, pOff.refl M, by rw [f1]; rfl, h3⟩
  | some a =>
    rw [g1] at f1
    dsimp only at f1 ⊢
    obtain ⟨a1, a2, -, a4⟩ := fgP_some g1
    obtain ⟨M2, e2, b2, b3, bT, b1, bo⟩ := mStp (q := q + 1) h2 hT
    rw [e2] at f1
    have f2 : f_X9_figure 1 9 M2 = _ := mFgP_e (lo := 1) (hi := 9) (G := fun d => decide (1 ≤ d)) (by decide) (by decide) hL (show q + 2 ≤ L by omega) b2 b3 (fun d hd => ⟨fun h => ⟨of_decide_eq_true h, hd⟩, fun h => decide_eq_true h.1⟩)
    rw [b1] at f2
    have na : ¬ nI a = -9 := nI_neg (by omega)
    rw [f1, fz_b2_e, if_pos na]
    cases g2 : fgP (M.1 1) L (q + 2) (fun d => decide (1 ≤ d)) with
    | none =>
      rw [g2] at f2
      exact ⟨M2, bo, by rw [f2]; rfl, b3⟩
    | some b =>
      rw [g2] at f2
      dsimp only at f2 ⊢
      obtain ⟨c1, c2, -, c4⟩ := fgP_some g2
      obtain ⟨M3, e3, d2, d3, dT, d1, do3⟩ := mStp (q := q + 2) b2 bT
      rw [e3] at f2
      have nb : ¬ nI b = -9 := nI_neg (by omega)
      have hin : fz_in (nI (R 0 0)) 6 = true := fz_in_nI h6 (by decide)
      have h31 : R 0 0 < 2 ^ 31 := by omega
      rw [f2, fz_b2_e]
      refine ⟨fz_w (fz_w (fz_w M3 16 (R 0 0) (nI a)) 17 (R 0 0) (nI b)) 0 22 (nI (R 0 0 + 1)), (bo.trans do3).trans (((pOff_w (by decide)).trans (pOff_w (by decide))).trans (pOff_w0 (by decide))), ?_, ?_, mR_aH dT⟩
      · simp (disch := decide) only [f_X9_readHouse_26, nb, fz_f_e, dT.1, fz_gd_t hin, fz_s_nI h31, fz_bd_e, fz_sf_e, w_ne, nI_1, ↓reduceIte, not_false_eq_true]
      · rw [w_nj (by decide), w_ne (by decide), w_ne (by decide)]; exact d3
