/-! the class's reading, byte by byte -/
def cF (P : Nat) (ag : (Int32 × fz_M) → Option (Int32 × fz_M)) (z : Int32 × fz_M) : Option (Int32 × fz_M) := f_X4_firstFault_11_s P ag z.1 z.2
theorem lp_cons {σ ρ : Type} {F : (σ → Option ρ) → σ → Option ρ} {s s' : σ} {n : Nat} (h : ∀ kk, F kk s = kk s') : fz_lp F (n + 1) s = fz_lp F n s' := h _
theorem lp_last {σ ρ : Type} {F : (σ → Option ρ) → σ → Option ρ} {s : σ} {r : Option ρ} {n : Nat} (h : ∀ kk, F kk s = r) : fz_lp F (n + 1) s = r := h _
theorem cTk {P j L : Nat} {M : fz_M} (hL : L ≤ 96) (hj : j < L) (h1 : M.1 1 1 = nI L) (kk : (Int32 × fz_M) → Option (Int32 × fz_M)) : cF P kk (nI j, M) = fz_b2 (f_X4_takes P (M.1 2 j) M) (fun r M5 => if ¬ r = 0 then kk (nI (j + 1), M5) else some (nI j, M5)) := by
  unfold cF f_X4_firstFault_11_s
  dsimp only
  rw [fz_f_e, h1, if_neg (nI_ge hj (by omega)), fz_gd_t (fz_in_nI (by omega) (by decide)), fz_g_nI (by omega), nI_1]
theorem cEn {P L c : Nat} {M : fz_M} (hL : L ≤ 96) (h1 : M.1 1 1 = nI L) (hc : M.1 3 1 = nI c) (c1 : 1 ≤ c) (c5 : c < 5) (kk : (Int32 × fz_M) → Option (Int32 × fz_M)) : cF P kk (nI L, M) = some (nI L, M) := by
  unfold cF f_X4_firstFault_11_s
  dsimp only
  have n0 : ¬ nI c = 0 := fun z => by have := (nI_eq (b := 0) (by omega) (by decide)).mp z; omega
  rw [fz_f_e, fz_f_e, h1, hc, if_pos (nI_le (Nat.le_refl _) (by omega)), if_pos n0]
theorem cEn0 {P L : Nat} {M : fz_M} (hL : L ≤ 96) (h1 : M.1 1 1 = nI L) (hc : M.1 3 1 = 0) (kk : (Int32 × fz_M) → Option (Int32 × fz_M)) : cF P kk (nI L, M) = some (-9, M) := by
  unfold cF f_X4_firstFault_11_s
  dsimp only
  rw [fz_f_e, fz_f_e, h1, hc, if_pos (nI_le (Nat.le_refl _) (by omega)), if_neg (not_not_intro rfl)]
theorem cDg {P j L c : Nat} {G : Nat → Bool} {M : fz_M} (hL : L ≤ 96) (hj : j ≤ L) (h1 : M.1 1 1 = nI L) (hc : M.1 3 1 = nI c) (c1 : 1 ≤ c) (c5 : c < 5) (hg : ∀ d, d ≤ 9 → f_X4_canGoOn P (nI d) M = some (if G d = true then 1 else 0)) : match fgP (M.1 2) L j G with
    | none => ∀ kk, cF P kk (nI j, M) = some (nI j, M)
    | some d => ∀ kk, cF P kk (nI j, M) = fz_b2 (f_X4_takes_63 P (fz_w M 4 c (nI d))) (fun r M5 => if ¬ r = 0 then kk (nI (j + 1), M5) else some (nI j, M5)) := by
  have n0 : ¬ nI c = 0 := fun z => by have := (nI_eq (b := 0) (by omega) (by decide)).mp z; omega
  have hin : fz_in (nI c) 5 = true := fz_in_nI c5 (by decide)
  by_cases hjL : j < L
  · rcases x_btw (M.1 2 j - 48) 0 9 (by decide) (by decide) with ⟨d, -, d9, e⟩ | ho
    · have k0 : ¬ nI d < 0 := nI_pos (by omega)
      have k9 : ¬ (9 : Int32) < nI d := Int32.not_lt.mpr (nI_le (b := 9) d9 (by decide))
      by_cases cG : G d = true
      · rw [fgP_of hjL d9 cG e]
        intro kk
        have hgd := hg d d9
        rw [if_pos cG] at hgd
        rw [cTk hL hjL h1]
        unfold f_X4_takes
        rw [fz_f_e, hc, if_pos n0, e, fz_bd_e, if_neg k0, if_neg k9, hgd, fz_b1_e, if_pos (by decide), fz_gd_t hin, fz_s_nI (by omega), fz_bd_e]
      · rw [fgP_no (by omega) e (Bool.eq_false_iff.mpr cG)]
        intro kk
        have hgd := hg d d9
        rw [if_neg cG] at hgd
        rw [cTk hL hjL h1]
        unfold f_X4_takes
        rw [fz_f_e, hc, if_pos n0, e, fz_bd_e, if_neg k0, if_neg k9, hgd, fz_b1_e, if_neg (by decide)]
        rfl
    · have e : fgP (M.1 2) L j G = none := fgP_none (fun d _ d9 e => by
        rw [e] at ho
        rcases ho with h | h
        · exact absurd h (nI_pos (by omega))
        · exact absurd h (Int32.not_lt.mpr (nI_le d9 (by decide))))
      rw [e]
      intro kk
      rw [cTk hL hjL h1]
      unfold f_X4_takes
      rw [fz_f_e, hc, if_pos n0, fz_bd_e]
      by_cases k0 : M.1 2 j - 48 < 0
      · rw [if_pos k0]; rfl
      · rw [if_neg k0, if_pos (show (9 : Int32) < M.1 2 j - 48 from ho.resolve_left k0)]; rfl
  · have : j = L := by omega
    subst this
    rw [fgP_none (fun d a _ _ => absurd a hjL)]
    exact cEn hL h1 hc c1 c5
/-- the class in a part: how many bytes have come, its letter -/
def cIn (P : Nat) (R : fz_A2) (L : Nat) (t : Nat → Int32) (x : Int32) (c : Nat) (M : fz_M) : Prop := M.1 3 1 = nI c ∧ M.1 4 0 = x ∧ cR P R M ∧ M.1 1 1 = nI L ∧ M.1 2 = t
def cpOff (P : Nat) (M M' : fz_M) : Prop := M'.2 = M.2 ∧ ∀ k, k ≠ 3 → k ≠ 4 → (k < P ∨ P + 10 ≤ k) → M'.1 k = M.1 k
theorem cpOff.refl (P : Nat) (M : fz_M) : cpOff P M M := ⟨rfl, fun _ _ _ _ => rfl⟩
theorem cpOff.trans {P : Nat} {M M1 M2 : fz_M} (h : cpOff P M M1) (k : cpOff P M1 M2) : cpOff P M M2 := ⟨k.1.trans h.1, fun c a b d => (k.2 c a b d).trans (h.2 c a b d)⟩
theorem cpOff_w {P : Nat} {M : fz_M} {c i : Nat} {v : Int32} (h : c = 3 ∨ c = 4 ∨ (P ≤ c ∧ c < P + 10)) : cpOff P M (fz_w M c i v) := ⟨rfl, fun k a b d => w_ne (by omega)⟩
theorem cR_fr {P : Nat} {R : fz_A2} {M M' : fz_M} (h : cR P R M) (e : ∀ o, o < 10 → M'.1 (P + o) = M.1 (P + o)) : cR P R M' := ⟨cT_fr h.1 (fun o ho => e o (by omega)), fun p hp => by rw [e 9 (by decide)]; exact h.2 p hp⟩
def nx (M : fz_M) (c d : Nat) : fz_M := fz_w (fz_w M 4 c (nI d)) 3 1 (nI (c + 1))
theorem nx_in {P L c d : Nat} {R : fz_A2} {t : Nat → Int32} {x : Int32} {M : fz_M} (hP : P = 20 ∨ P = 30) (h : cIn P R L t x c M) (hc : 1 ≤ c) : cIn P R L t x (c + 1) (nx M c d) := by
  obtain ⟨h1, h2, h3, h4, h5⟩ := h
  unfold nx
  refine ⟨w_at, by rw [w_ne (by decide), w_nj (by omega)]; exact h2, cR_fr h3 (fun o ho => by rw [w_ne (by omega), w_ne (by omega)]), by rw [w_ne (by decide), w_ne (by decide)]; exact h4, by rw [w_ne (by decide), w_ne (by decide)]; exact h5⟩
theorem nx_off {P c d : Nat} {M : fz_M} : cpOff P M (nx M c d) := (cpOff_w (Or.inr (Or.inl rfl))).trans (cpOff_w (Or.inl rfl))
theorem nx_at {c d : Nat} {M : fz_M} : (nx M c d).1 4 c = nI d := by unfold nx; rw [w_ne (by decide), w_at]
theorem nx_el {c d i : Nat} {M : fz_M} (h : i ≠ c) : (nx M c d).1 4 i = M.1 4 i := by unfold nx; rw [w_ne (by decide), w_nj h]
theorem cSt {P j L c n : Nat} {R : fz_A2} {t : Nat → Int32} {x : Int32} {G : Nat → Bool} {M : fz_M} (hL : L ≤ 96) (hj : j ≤ L) (h : cIn P R L t x c M) (c1 : 1 ≤ c) (c5 : c < 5) (hg : ∀ d, d ≤ 9 → f_X4_canGoOn P (nI d) M = some (if G d = true then 1 else 0)) (hl : ∀ M', M'.1 4 0 = x → f_X4_lengthOfPart M' = some (nI n)) (hn : c + 1 ≠ n) (hn9 : n < 9) : match fgP t L j G with
    | none => ∀ kk, cF P kk (nI j, M) = some (nI j, M)
    | some d => ∀ kk, cF P kk (nI j, M) = kk (nI (j + 1), nx M c d) := by
  obtain ⟨h1, h2, h3, h4, h5⟩ := h
  have k := cDg hL hj h4 h1 c1 c5 hg
  rw [h5] at k
  cases g : fgP t L j G with
  | none => rw [g] at k; exact k
  | some d =>
    rw [g] at k
    dsimp only at k
    intro kk
    have e1 : (fz_w M 4 c (nI d)).1 3 1 = nI c := by rw [w_ne (by decide)]; exact h1
    have e2 : (nx M c d).1 4 0 = x := by rw [nx_el (by omega)]; exact h2
    have e3 : (nx M c d).1 3 1 = nI (c + 1) := w_at
    have ne : ¬ nI (c + 1) = nI n := fun z => hn ((nI_eq (by omega) (by omega)).mp z)
    rw [k kk]
    unfold f_X4_takes_63
    rw [fz_f_e, e1, nI_1, fz_sf_e]
    show fz_b2 (fz_bd (nx M c d) _) _ = _
    rw [fz_bd_e, hl _ e2, fz_b1_e, fz_f_e, e3, if_pos ne, fz_b2_e, if_pos (by decide)]
theorem cSe {P j L c n : Nat} {R : fz_A2} {t : Nat → Int32} {x : Int32} {G : Nat → Bool} {M : fz_M} {A : Nat → fz_M} (hL : L ≤ 96) (hj : j ≤ L) (h : cIn P R L t x c M) (c1 : 1 ≤ c) (c5 : c < 5) (hg : ∀ d, d ≤ 9 → f_X4_canGoOn P (nI d) M = some (if G d = true then 1 else 0)) (hl : ∀ M', M'.1 4 0 = x → f_X4_lengthOfPart M' = some (nI n)) (hn : c + 1 = n) (hA : ∀ d, d ≤ 9 → f_X4_addPart P (nx M c d) = some (A d)) : match fgP t L j G with
    | none => ∀ kk, cF P kk (nI j, M) = some (nI j, M)
    | some d => ∀ kk, cF P kk (nI j, M) = kk (nI (j + 1), fz_w (A d) 3 1 0) := by
  obtain ⟨h1, h2, h3, h4, h5⟩ := h
  have k := cDg hL hj h4 h1 c1 c5 hg
  rw [h5] at k
  cases g : fgP t L j G with
  | none => rw [g] at k; exact k
  | some d =>
    rw [g] at k
    dsimp only at k
    intro kk
    obtain ⟨-, d9, -, -⟩ := fgP_some g
    have e1 : (fz_w M 4 c (nI d)).1 3 1 = nI c := by rw [w_ne (by decide)]; exact h1
    have e2 : (nx M c d).1 4 0 = x := by rw [nx_el (by omega)]; exact h2
    have e3 : (nx M c d).1 3 1 = nI (c + 1) := w_at
    rw [k kk]
    unfold f_X4_takes_63
    rw [fz_f_e, e1, nI_1, fz_sf_e]
    show fz_b2 (fz_bd (nx M c d) _) _ = _
    rw [fz_bd_e, hl _ e2, fz_b1_e, fz_f_e, e3, if_neg (not_not_intro (by rw [hn])), hA d d9, fz_b1_e, fz_sf_e, fz_bd_e, fz_b2_e, if_pos (by decide)]
/-- what the class's reading of a part says -/
def cAft (s : Nat ⊕ (Nat × fz_A2)) (P L q : Nat) (M M' : fz_M) : Prop := match s with
  | .inl e => ∃ n, n ≤ L - q + 1 ∧ ∀ f, fz_lp (cF P) (f + n) (nI q, M) = some (nI e, M')
  | .inr p => ∃ n, 1 ≤ n ∧ q + n = p.1 ∧ p.1 ≤ L ∧ (∀ f, fz_lp (cF P) (f + n) (nI q, M) = fz_lp (cF P) f (nI p.1, M')) ∧ cR P p.2 M' ∧ M'.1 3 1 = 0
theorem g_0 {M : fz_M} {c : Nat} : fz_g M c 0 = M.1 c 0 := rfl
theorem g_1 {M : fz_M} {c : Nat} : fz_g M c 1 = M.1 c 1 := rfl
theorem g_2 {M : fz_M} {c : Nat} : fz_g M c 2 = M.1 c 2 := rfl
theorem g_3 {M : fz_M} {c : Nat} : fz_g M c 3 = M.1 c 3 := rfl
theorem g_4 {M : fz_M} {c : Nat} : fz_g M c 4 = M.1 c 4 := rfl
theorem len72 (M : fz_M) (h : M.1 4 0 = 72) : f_X4_lengthOfPart M = some (nI 3) := by
  unfold f_X4_lengthOfPart
  rw [fz_gd_t (by decide), g_0, h, if_pos rfl]; rfl
theorem len83 (M : fz_M) (h : M.1 4 0 = 83) : f_X4_lengthOfPart M = some (nI 4) := by
  unfold f_X4_lengthOfPart
  rw [fz_gd_t (by decide), g_0, h, if_neg (by decide), if_pos rfl]; rfl
theorem len80 (M : fz_M) (h : M.1 4 0 = 80) : f_X4_lengthOfPart M = some (nI 5) := by
  unfold f_X4_lengthOfPart
  rw [fz_gd_t (by decide), g_0, h, if_neg (by decide), if_neg (by decide)]; rfl
theorem pos_e (d : Nat) (hd : d ≤ 9) : (if nI d ≤ 0 then some (0 : Int32) else some 1) = some (if decide (1 ≤ d) = true then 1 else 0) := by
  by_cases c : 1 ≤ d
  · rw [if_neg (nI_nle (by omega) (by omega)), if_pos (decide_eq_true c)]
  · rw [if_pos (show nI d ≤ 0 from nI_le (b := 0) (by omega) (by decide)), if_neg (fun z => c (of_decide_eq_true z))]
