/-! ranges, as the two programs ask for them -/
theorem x_rng (x : Int32) {n : Nat} (hn : n < 2 ^ 31) : (∃ i, i < n ∧ x = nI i) ∨ (x < 0 ∨ nI n ≤ x) := by
  by_cases h : x < 0
  · exact Or.inr (Or.inl h)
  · obtain ⟨j, hj, rfl⟩ := nI_of h
    by_cases h2 : j < n
    · exact Or.inl ⟨j, h2, rfl⟩
    · exact Or.inr (Or.inr (nI_le (by omega) hj))
theorem cmpL (x y : Int64) : (lg_cmp x y < 0) = (x < y) := by
  unfold lg_cmp
  by_cases h1 : y < x
  · have h3 : ¬ x < y := by rw [Int64.lt_iff_toInt_lt] at h1 ⊢; omega
    simp [h1, h3]
  · by_cases h2 : x = y
    · subst h2; simp
    · have h3 : x < y := by
        rw [Int64.lt_iff_toInt_lt] at h1 ⊢
        have : x.toInt ≠ y.toInt := fun q => h2 (Int64.toInt_inj.mp q)
        omega
      simp [h1, h2, h3]
theorem cmpG (x y : Int64) : (0 < lg_cmp x y) = (y < x) := by
  unfold lg_cmp
  by_cases h1 : y < x
  · simp [h1]
  · by_cases h2 : x = y
    · subst h2; simp
    · simp [h1, h2]
theorem toL_lt (x y : Int32) : (x.toInt64 < y.toInt64) = (x < y) := by
  rw [Int64.lt_iff_toInt_lt, Int32.lt_iff_toInt_lt, Int32.toInt_toInt64, Int32.toInt_toInt64]
theorem in32 (x a b : Int32) (M : fz_M) : f_X9_in x.toInt64 a.toInt64 b.toInt64 M = some (if a ≤ x ∧ x ≤ b then 1 else 0) := by
  unfold f_X9_in
  have k1 : lg_cmp x.toInt64 a.toInt64 < 0 ↔ x < a := by rw [cmpL, toL_lt]
  have k2 : 0 < lg_cmp x.toInt64 b.toInt64 ↔ b < x := by rw [cmpG, toL_lt]
  by_cases h1 : x < a
  · rw [if_pos (k1.mpr h1), if_neg (fun q => Int32.not_le.mpr h1 q.1)]
  · rw [if_neg (fun q => h1 (k1.mp q))]
    by_cases h2 : b < x
    · rw [if_pos (k2.mpr h2), if_neg (fun q => Int32.not_le.mpr h2 q.2)]
    · rw [if_neg (fun q => h2 (k2.mp q)), if_pos ⟨Int32.not_lt.mp h1, Int32.not_lt.mp h2⟩]
theorem in_t {i n : Nat} (h : i < n) (hn : n < 2 ^ 31) (M : fz_M) : f_X9_in (nI i).toInt64 0 ((nI n - 1).toInt64) M = some 1 := by
  have e := in32 (nI i) 0 (nI n - 1) M
  rw [show (0 : Int32).toInt64 = (0 : Int64) from rfl] at e
  rw [e, if_pos ⟨nI_pos' (by omega), by rw [n_1, nI_sub (by omega)]; exact nI_le (by omega) (by omega)⟩]
theorem in_f {x : Int32} {n : Nat} (h : x < 0 ∨ nI n ≤ x) (hn : n < 2 ^ 31) (M : fz_M) : f_X9_in x.toInt64 0 ((nI n - 1).toInt64) M = some 0 := by
  have e := in32 x 0 (nI n - 1) M
  rw [show (0 : Int32).toInt64 = (0 : Int64) from rfl] at e
  rw [e, if_neg]
  rintro ⟨h1, h2⟩
  rcases h with h | h
  · exact absurd h1 (Int32.not_le.mpr h)
  · obtain ⟨j, hj, rfl⟩ := nI_of (Int32.not_lt.mpr h1)
    have hnj : n ≤ j := (nI_leI hn hj).mp h
    by_cases h0 : n = 0
    · subst h0
      have h3 : (nI 0 - 1 : Int32) = -1 := by decide
      rw [h3, Int32.le_iff_toInt_le, nI_toInt hj] at h2
      have : (-1 : Int32).toInt = -1 := by decide
      omega
    · rw [n_1, nI_sub (by omega)] at h2
      have := (nI_leI hj (by omega)).mp h2
      omega
theorem isP_ok {P : Nat} {M : fz_M} (h : rTop P M) : fz_isP P = true := by rcases rTop_P h with rfl | rfl <;> rfl
theorem house_t {P : Nat} {T : fz_A2} {M : fz_M} (h : rTop P M) (hT : cT P T M) (hw : wT T) {i : Nat} (hi : i < T 0 0) : f_X8_isHouse (nI i) M = some 1 := by
  unfold f_X8_isHouse
  have := hw.1
  rw [if_neg (nI_pos (by omega)), fz_bd_e, fz_d_e, h.1, fz_gd_t (isP_ok h), fz_f_e, hT.1, if_neg (nI_ge hi (by omega))]
theorem house_f {P : Nat} {T : fz_A2} {M : fz_M} (h : rTop P M) (hT : cT P T M) (hw : wT T) {x : Int32} (hx : x < 0 ∨ nI (T 0 0) ≤ x) : f_X8_isHouse x M = some 0 := by
  unfold f_X8_isHouse
  by_cases h0 : x < 0
  · rw [if_pos h0]
  · rw [if_neg h0, fz_bd_e, fz_d_e, h.1, fz_gd_t (isP_ok h), fz_f_e, hT.1, if_pos (hx.resolve_left h0)]
theorem stream_t {P : Nat} {T : fz_A2} {M : fz_M} (h : rTop P M) (hT : cT P T M) (hw : wT T) {i : Nat} (hi : i < T 0 1) : f_X8_isStream (nI i) M = some 1 := by
  unfold f_X8_isStream
  have := hw.2.1
  rw [if_neg (nI_pos (by omega)), fz_bd_e, fz_d_e, h.1, fz_gd_t (isP_ok h), fz_f_e, hT.2.1, if_neg (nI_ge hi (by omega))]
theorem stream_f {P : Nat} {T : fz_A2} {M : fz_M} (h : rTop P M) (hT : cT P T M) (hw : wT T) {x : Int32} (hx : x < 0 ∨ nI (T 0 1) ≤ x) : f_X8_isStream x M = some 0 := by
  unfold f_X8_isStream
  by_cases h0 : x < 0
  · rw [if_pos h0]
  · rw [if_neg h0, fz_bd_e, fz_d_e, h.1, fz_gd_t (isP_ok h), fz_f_e, hT.2.1, if_pos (hx.resolve_left h0)]
theorem piece_t {P : Nat} {T : fz_A2} {M : fz_M} (h : rTop P M) (hT : cT P T M) (hw : wT T) {i : Nat} (hi : i < T 0 2) : f_X8_isPiece (nI i) M = some 1 := by
  unfold f_X8_isPiece
  have := hw.2.2.1
  rw [if_neg (nI_pos (by omega)), fz_bd_e, fz_d_e, h.1, fz_gd_t (isP_ok h), fz_f_e, hT.2.2.1, if_neg (nI_ge hi (by omega))]
theorem piece_f {P : Nat} {T : fz_A2} {M : fz_M} (h : rTop P M) (hT : cT P T M) (hw : wT T) {x : Int32} (hx : x < 0 ∨ nI (T 0 2) ≤ x) : f_X8_isPiece x M = some 0 := by
  unfold f_X8_isPiece
  by_cases h0 : x < 0
  · rw [if_pos h0]
  · rw [if_neg h0, fz_bd_e, fz_d_e, h.1, fz_gd_t (isP_ok h), fz_f_e, hT.2.2.1, if_pos (hx.resolve_left h0)]
theorem nohouse_t {T : fz_A2} {M : fz_M} (hT : mT T M) (hw : wT T) {i : Nat} (hi : i < T 0 0) : f_X9_noHouse (nI i) M = some 0 := by
  unfold f_X9_noHouse
  rw [fz_f_e, hT.1, in_t hi (by have := hw.1; omega), fz_b1_e, if_pos (by decide)]
theorem nohouse_f {T : fz_A2} {M : fz_M} (hT : mT T M) (hw : wT T) {x : Int32} (hx : x < 0 ∨ nI (T 0 0) ≤ x) : f_X9_noHouse x M = some 1 := by
  unfold f_X9_noHouse
  rw [fz_f_e, hT.1, in_f hx (by have := hw.1; omega), fz_b1_e, if_neg (by decide)]
theorem nopiece_t {T : fz_A2} {M : fz_M} (hT : mT T M) (hw : wT T) {i : Nat} (hi : i < T 0 2) : f_X9_noPiece (nI i) M = some 0 := by
  unfold f_X9_noPiece
  rw [fz_f_e, hT.2.2.1, in_t hi (by have := hw.2.2.1; omega), fz_b1_e, if_pos (by decide)]
theorem nopiece_f {T : fz_A2} {M : fz_M} (hT : mT T M) (hw : wT T) {x : Int32} (hx : x < 0 ∨ nI (T 0 2) ≤ x) : f_X9_noPiece x M = some 1 := by
  unfold f_X9_noPiece
  rw [fz_f_e, hT.2.2.1, in_f hx (by have := hw.2.2.1; omega), fz_b1_e, if_neg (by decide)]
theorem nostream_t {T : fz_A2} {M : fz_M} (hT : mT T M) (hw : wT T) {i : Nat} (hi : i < T 0 1) : f_X9_in (nI i).toInt64 0 (((fz_f M 0 5) - 1).toInt64) M = some 1 := by
  rw [fz_f_e, hT.2.1]; exact in_t hi (by have := hw.2.1; omega) M
theorem nostream_f {T : fz_A2} {M : fz_M} (hT : mT T M) (hw : wT T) {x : Int32} (hx : x < 0 ∨ nI (T 0 1) ≤ x) : f_X9_in x.toInt64 0 (((fz_f M 0 5) - 1).toInt64) M = some 0 := by
  rw [fz_f_e, hT.2.1]; exact in_f hx (by have := hw.2.1; omega) M
/-- a change of one int -/
theorem w_ne {M : fz_M} {c i : Nat} {v : Int32} {d : Nat} (h : d ≠ c) : (fz_w M c i v).1 d = M.1 d := fz_u1_ne h
theorem w_nj {M : fz_M} {c i : Nat} {v : Int32} {d j : Nat} (h : j ≠ i) : (fz_w M c i v).1 d j = M.1 d j := by rw [fz_w_1, if_neg (fun q => h q.2)]
theorem w_at {M : fz_M} {c i : Nat} {v : Int32} : (fz_w M c i v).1 c i = v := by rw [fz_w_1, if_pos ⟨rfl, rfl⟩]
/-- the model's own notes (thrown; the place, the read town; what jammed; the cost's set) may change, and its rows for trying -/
def mOff (M M' : fz_M) : Prop := (∀ c, c ≠ 0 → (c < 16 ∨ 24 < c) → (c < 29 ∨ 31 < c) → M'.1 c = M.1 c) ∧ (∀ j, j ≠ 0 → j ≠ 3 → j ≠ 22 → j ≠ 23 → j ≠ 24 → j ≠ 42 → j ≠ 48 → M'.1 0 j = M.1 0 j)
theorem mOff.refl (M : fz_M) : mOff M M := ⟨fun _ _ _ _ => rfl, fun _ _ _ _ _ _ _ _ => rfl⟩
theorem mOff.trans {M M1 M2 : fz_M} (h : mOff M M1) (k : mOff M1 M2) : mOff M M2 := ⟨fun c a b d => (k.1 c a b d).trans (h.1 c a b d), fun j a b c d e f g => (k.2 j a b c d e f g).trans (h.2 j a b c d e f g)⟩
/-- the class's: reader, plan to read into, trial, spread -/
def cOff (P : Nat) (M M' : fz_M) : Prop := (∀ c, (c < 3 ∨ 4 < c) → (c < 10 ∨ 17 < c) → (c < 20 ∨ 39 < c ∨ (P ≤ c ∧ c < P + 10)) → M'.1 c = M.1 c) ∧ M'.2.2 0 = M.2.2 0
theorem cOff.refl (P : Nat) (M : fz_M) : cOff P M M := ⟨fun _ _ _ _ => rfl, rfl⟩
theorem cOff.trans {P : Nat} {M M1 M2 : fz_M} (h : cOff P M M1) (k : cOff P M1 M2) : cOff P M M2 := ⟨fun c a b d => (k.1 c a b d).trans (h.1 c a b d), k.2.trans h.2⟩
def rSpr (M : fz_M) : Prop := (M.2.2 15 0 = 16 ∧ M.2.2 15 1 = 17) ∨ (M.2.2 15 0 = 17 ∧ M.2.2 15 1 = 16)
/-- all parts but those that are named: what is kept when only notes change -/
theorem rel_off {P : Nat} {T S : fz_A2} {sp : Int32} {B : Nat → Nat} {MC MM MC' MM' : fz_M} (h1 : rTop P MC) (h2 : rTown P T MC MM) (h3 : rNow T S sp MC MM) (h4 : rShut B MC MM) (h5 : rActs T MC MM) (h6 : rKept T MC MM) (h7 : rMark MC MM) (h8 : rText MC MM) (hC : cOff P MC MC') (hs : rSpr MC') (hM : mOff MM MM') : rTop P MC' ∧ rTown P T MC' MM' ∧ rNow T S sp MC' MM' ∧ rShut B MC' MM' ∧ rActs T MC' MM' ∧ rKept T MC' MM' ∧ rMark MC' MM' ∧ rText MC' MM' := by
  have hP := rTop_P h1
  have hn := h2.2.2.2.2.1
  refine ⟨⟨by rw [hC.2]; exact h1.1, by rw [hC.2]; exact h1.2.1, hs⟩, ⟨cT_fr h2.1 fun o ho => hC.1 _ (by omega) (by omega) (by omega), mT_fr h2.2.1 (hM.2 4 (by decide) (by decide) (by decide) (by decide) (by decide) (by decide) (by decide)) (hM.2 5 (by decide) (by decide) (by decide) (by decide) (by decide) (by decide) (by decide)) (hM.2 6 (by decide) (by decide) (by decide) (by decide) (by decide) (by decide) (by decide)) (fun c a b d => hM.1 c (by omega) (by omega) (by omega)), h2.2.2⟩, ⟨cS_fr h3.1 hn fun o ho => hC.1 _ (by omega) (by omega) (by omega), mL_fr h3.2.1 (hM.2 21 (by decide) (by decide) (by decide) (by decide) (by decide) (by decide) (by decide)) (fun c a b => hM.1 c (by omega) (by omega) (by omega)), h3.2.2⟩, rShut_fr h4 (hC.1 52 (by omega) (by omega) (by omega)) (hM.1 7 (by omega) (by omega) (by omega)), rActs_fr h5 hn (hC.1 5 (by omega) (by omega) (by omega)) (fun c hc => hC.1 c (by omega) (by omega) (by omega)) (hM.2 35 (by decide) (by decide) (by decide) (by decide) (by decide) (by decide) (by decide)) (hM.1 25 (by omega) (by omega) (by omega)), rKept_fr h6 hn (hC.1 19 (by omega) (by omega) (by omega)) (fun c a b => hC.1 c (by omega) (by omega) (by omega)) (hM.1 26 (by omega) (by omega) (by omega)) (hM.1 27 (by omega) (by omega) (by omega)) (hM.1 28 (by omega) (by omega) (by omega)), rMark_fr h7 (hC.1 7 (by omega) (by omega) (by omega)) (hC.1 8 (by omega) (by omega) (by omega)) (hC.1 9 (by omega) (by omega) (by omega)) (hM.2 43 (by decide) (by decide) (by decide) (by decide) (by decide) (by decide) (by decide)) (hM.1 32 (by omega) (by omega) (by omega)) (hM.1 33 (by omega) (by omega) (by omega)), rText_fr h8 (hC.1 1 (by omega) (by omega) (by omega)) (hC.1 2 (by omega) (by omega) (by omega)) (hM.2 2 (by decide) (by decide) (by decide) (by decide) (by decide) (by decide) (by decide)) (hM.1 1 (by omega) (by omega) (by omega))⟩
theorem Rel.off {MC MM MC' MM' : fz_M} (h : Rel MC MM) (hC : ∀ P, rTop P MC → cOff P MC MC') (hs : rSpr MC → rSpr MC') (hM : mOff MM MM') : Rel MC' MM' := by
  obtain ⟨P, T, S, sp, B, h1, h2, h3, h4, h5, h6, h7, h8⟩ := h
  exact ⟨P, T, S, sp, B, rel_off h1 h2 h3 h4 h5 h6 h7 h8 (hC P h1) (hs h1.2.2) hM⟩
theorem mOff_thrown (M : fz_M) : mOff M (fz_w M 0 0 0) := ⟨fun c h _ _ => w_ne h, fun j h _ _ _ _ _ _ => w_nj h⟩
theorem Rel.thrown {MC MM : fz_M} (h : Rel MC MM) : Rel MC (fz_w MM 0 0 0) := h.off (fun P _ => cOff.refl P MC) id (mOff_thrown MM)
