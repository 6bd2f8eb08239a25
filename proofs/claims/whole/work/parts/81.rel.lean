/-! WHAT THE TWO MEMORIES HAVE IN COMMON: a town T (T 0: how many; 1 height, 2 door; 3 from, 4 to, 5 tenths; 6 home, 7 width, 8 floats), a stand S (0 at, 1 tied, 2 last owner, 3 owners told, 4 + p: the owners of p) -/
abbrev fz_A2 : Type := Nat → Nat → Nat
def up2 (S : fz_A2) (c i v : Nat) : fz_A2 := fun d j => if d = c ∧ j = i then v else S d j
def cT (P : Nat) (T : fz_A2) (M : fz_M) : Prop :=
  M.1 P 0 = nI (T 0 0) ∧ M.1 P 1 = nI (T 0 1) ∧ M.1 P 2 = nI (T 0 2) ∧ (∀ h, h < T 0 0 → M.1 (P + 1) h = nI (T 1 h) ∧ M.1 (P + 2) h = nI (T 2 h)) ∧
  (∀ s, s < T 0 1 → M.1 (P + 3) s = nI (T 3 s) ∧ M.1 (P + 4) s = nI (T 4 s) ∧ M.1 (P + 5) s = nI (T 5 s)) ∧ (∀ p, p < T 0 2 → M.1 (P + 6) p = nI (T 6 p) ∧ M.1 (P + 7) p = nI (T 7 p) ∧ M.1 (P + 8) p = nI (T 8 p))
def mT (T : fz_A2) (M : fz_M) : Prop :=
  M.1 0 4 = nI (T 0 0) ∧ M.1 0 5 = nI (T 0 1) ∧ M.1 0 6 = nI (T 0 2) ∧ (∀ h, h < T 0 0 → M.1 2 h = nI (T 1 h) ∧ M.1 3 h = nI (T 2 h)) ∧
  (∀ s, s < T 0 1 → M.1 4 s = nI (T 3 s) ∧ M.1 5 s = nI (T 4 s) ∧ M.1 6 s = nI (T 5 s)) ∧ (∀ p, p < T 0 2 → M.1 8 p = nI (T 6 p) ∧ M.1 9 p = nI (T 7 p) ∧ M.1 10 p = nI (T 8 p))
/-- the tenths that leave a house by the first n streams -/
def tenSum (T : fz_A2) (h : Nat) : Nat → Nat
  | 0 => 0
  | n + 1 => tenSum T h n + if T 3 n = h then T 5 n else 0
def wT (T : fz_A2) : Prop :=
  T 0 0 ≤ 6 ∧ T 0 1 ≤ 10 ∧ T 0 2 ≤ 6 ∧ (∀ h, h < T 0 0 → T 1 h ≤ 9 ∧ 1 ≤ T 2 h ∧ T 2 h ≤ 9) ∧
  (∀ s, s < T 0 1 → T 3 s < T 0 0 ∧ T 4 s < T 0 0 ∧ T 3 s ≠ T 4 s ∧ 1 ≤ T 5 s ∧ T 5 s ≤ 9) ∧ (∀ p, p < T 0 2 → T 6 p < T 0 0 ∧ 1 ≤ T 7 p ∧ T 7 p ≤ 9 ∧ 1 ≤ T 8 p ∧ T 8 p ≤ 9) ∧ (∀ h, tenSum T h (T 0 1) ≤ 10)
def cS (k nP : Nat) (S : fz_A2) (sp : Int32) (M : fz_M) : Prop :=
  M.1 k 0 = sp ∧ ∀ p, p < nP → M.1 (k + 1) p = nI (S 0 p) ∧ M.1 (k + 2) p = nI (S 1 p) ∧ M.1 (k + 3) p = nI (S 2 p) ∧ M.1 (k + 4) p = nI (S 3 p) ∧ ∀ i, i < S 3 p → M.1 (k + 6 + p) i = nI (S (4 + p) i)
def mL (nP : Nat) (S : fz_A2) (sp : Int32) (M : fz_M) : Prop :=
  M.1 0 21 = sp ∧ ∀ p, p < nP → M.1 11 p = nI (S 0 p) ∧ M.1 12 p = nI (S 1 p) ∧ M.1 15 p = nI (S 2 p) ∧ M.1 14 p = nI (S 3 p) ∧ ∀ i, i < S 3 p → M.1 13 (8 * p + i) = nI (S (4 + p) i)
/-- a page of the model's -/
def mP (c o nP : Nat) (S : fz_A2) (sp : Int32) (M : fz_M) : Prop :=
  M.1 c (o + 72) = sp ∧ ∀ p, p < nP → M.1 c (o + p) = nI (S 0 p) ∧ M.1 c (o + 6 + p) = nI (S 1 p) ∧ M.1 c (o + 18 + p) = nI (S 2 p) ∧ M.1 c (o + 12 + p) = nI (S 3 p) ∧ ∀ i, i < S 3 p → M.1 c (o + 24 + (8 * p + i)) = nI (S (4 + p) i)
def wS (T S : fz_A2) : Prop := ∀ p, p < T 0 2 → S 0 p < T 0 0 ∧ S 1 p ≤ 9 ∧ S 2 p < T 0 0 ∧ 1 ≤ S 3 p ∧ S 3 p ≤ 8
def rTop (P : Nat) (M : fz_M) : Prop := M.2.2 0 9 = P ∧ ((P = 20 ∧ M.2.2 0 10 = 30) ∨ (P = 30 ∧ M.2.2 0 10 = 20)) ∧ ((M.2.2 15 0 = 16 ∧ M.2.2 15 1 = 17) ∨ (M.2.2 15 0 = 17 ∧ M.2.2 15 1 = 16))
def rTown (P : Nat) (T : fz_A2) (MC MM : fz_M) : Prop := cT P T MC ∧ mT T MM ∧ wT T
def rNow (T S : fz_A2) (sp : Int32) (MC MM : fz_M) : Prop := cS 40 (T 0 2) S sp MC ∧ mL (T 0 2) S sp MM ∧ wS T S
def rShut (B : Nat → Nat) (MC MM : fz_M) : Prop := ∀ i, i < 10 → MC.1 52 i = nI (B i) ∧ MM.1 7 i = nI (B i) ∧ B i ≤ 1
def rActs (T : fz_A2) (MC MM : fz_M) : Prop := ∃ (n f : Nat) (SS : Nat → fz_A2) (ss : Nat → Int32), n ≤ 12 ∧ f < 12 ∧ MC.1 5 2 = nI n ∧ MC.1 5 1 = nI f ∧ MM.1 0 35 = nI n ∧ ∀ a, a < n → cS (79 + 13 * ((f + a) % 12)) (T 0 2) (SS a) (ss a) MC ∧ mP 25 (73 * a) (T 0 2) (SS a) (ss a) MM ∧ wS T (SS a)
def rKept (T : fz_A2) (MC MM : fz_M) : Prop := ∀ s, s < 2 → ∃ b, b ≤ 1 ∧ MC.1 19 s = nI b ∧ MM.1 28 s = nI b ∧ (b = 1 → ∃ (S : fz_A2) (sp : Int32) (B : Nat → Nat), cS (53 + 13 * s) (T 0 2) S sp MC ∧ mP 26 (73 * s) (T 0 2) S sp MM ∧ wS T S ∧ ∀ i, i < 10 → MC.1 (53 + 13 * s + 12) i = nI (B i) ∧ MM.1 27 (10 * s + i) = nI (B i) ∧ B i ≤ 1)
def rMark (MC MM : fz_M) : Prop := ∃ n, n ≤ 8 ∧ MC.1 7 2 = nI n ∧ MM.1 0 43 = nI n ∧ ∀ i, i < n → MC.1 8 i = MM.1 32 i ∧ MC.1 9 i = MM.1 33 i
def rText (MC MM : fz_M) : Prop := ∃ n, n ≤ 96 ∧ MC.1 1 1 = nI n ∧ MM.1 0 2 = nI n ∧ ∀ i, i < n → MC.1 2 i = MM.1 1 i
def Rel (MC MM : fz_M) : Prop := ∃ (P : Nat) (T S : fz_A2) (sp : Int32) (B : Nat → Nat), rTop P MC ∧ rTown P T MC MM ∧ rNow T S sp MC MM ∧ rShut B MC MM ∧ rActs T MC MM ∧ rKept T MC MM ∧ rMark MC MM ∧ rText MC MM
/-! what does not matter to a part may change -/
theorem cT_fr {P : Nat} {T : fz_A2} {M M' : fz_M} (h : cT P T M) (e : ∀ o, o < 9 → M'.1 (P + o) = M.1 (P + o)) : cT P T M' := by
  obtain ⟨h0, h1, h2, h3, h4, h5⟩ := h
  have e0 := e 0 (by decide)
  rw [Nat.add_zero] at e0
  refine ⟨by rw [e0]; exact h0, by rw [e0]; exact h1, by rw [e0]; exact h2, fun h hh => ?_, fun s hs => ?_, fun p hp => ?_⟩
  · rw [e 1 (by decide), e 2 (by decide)]; exact h3 h hh
  · rw [e 3 (by decide), e 4 (by decide), e 5 (by decide)]; exact h4 s hs
  · rw [e 6 (by decide), e 7 (by decide), e 8 (by decide)]; exact h5 p hp
theorem mT_fr {T : fz_A2} {M M' : fz_M} (h : mT T M) (e4 : M'.1 0 4 = M.1 0 4) (e5 : M'.1 0 5 = M.1 0 5) (e6 : M'.1 0 6 = M.1 0 6) (e : ∀ c, 2 ≤ c → c ≤ 10 → c ≠ 7 → M'.1 c = M.1 c) : mT T M' := by
  obtain ⟨h0, h1, h2, h3, h4, h5⟩ := h
  refine ⟨by rw [e4]; exact h0, by rw [e5]; exact h1, by rw [e6]; exact h2, fun h hh => ?_, fun s hs => ?_, fun p hp => ?_⟩
  · rw [e 2 (by decide) (by decide) (by decide), e 3 (by decide) (by decide) (by decide)]; exact h3 h hh
  · rw [e 4 (by decide) (by decide) (by decide), e 5 (by decide) (by decide) (by decide), e 6 (by decide) (by decide) (by decide)]; exact h4 s hs
  · rw [e 8 (by decide) (by decide) (by decide), e 9 (by decide) (by decide) (by decide), e 10 (by decide) (by decide) (by decide)]; exact h5 p hp
theorem cS_fr {k nP : Nat} {S : fz_A2} {sp : Int32} {M M' : fz_M} (h : cS k nP S sp M) (hn : nP ≤ 6) (e : ∀ o, o < 12 → M'.1 (k + o) = M.1 (k + o)) : cS k nP S sp M' := by
  have e0 := e 0 (by decide)
  rw [Nat.add_zero] at e0
  refine ⟨by rw [e0]; exact h.1, fun p hp => ?_⟩
  rw [e 1 (by decide), e 2 (by decide), e 3 (by decide), e 4 (by decide), show k + 6 + p = k + (6 + p) from by omega, e (6 + p) (by omega), ← show k + 6 + p = k + (6 + p) from by omega]
  exact h.2 p hp
theorem mL_fr {nP : Nat} {S : fz_A2} {sp : Int32} {M M' : fz_M} (h : mL nP S sp M) (e0 : M'.1 0 21 = M.1 0 21) (e : ∀ c, 11 ≤ c → c ≤ 15 → M'.1 c = M.1 c) : mL nP S sp M' := by
  refine ⟨by rw [e0]; exact h.1, fun p hp => ?_⟩
  rw [e 11 (by decide) (by decide), e 12 (by decide) (by decide), e 13 (by decide) (by decide), e 14 (by decide) (by decide), e 15 (by decide) (by decide)]
  exact h.2 p hp
theorem mP_fr {c o nP : Nat} {S : fz_A2} {sp : Int32} {M M' : fz_M} (h : mP c o nP S sp M) (e : M'.1 c = M.1 c) : mP c o nP S sp M' := by
  unfold mP
  rw [e]
  exact h
theorem rActs_fr {T : fz_A2} {MC MM MC' MM' : fz_M} (h : rActs T MC MM) (hn : T 0 2 ≤ 6) (e5 : MC'.1 5 = MC.1 5) (e : ∀ c, 79 ≤ c → MC'.1 c = MC.1 c) (e0 : MM'.1 0 35 = MM.1 0 35) (e25 : MM'.1 25 = MM.1 25) : rActs T MC' MM' := by
  obtain ⟨n, f, SS, ss, h1, h2, h3, h4, h5, h6⟩ := h
  refine ⟨n, f, SS, ss, h1, h2, by rw [e5]; exact h3, by rw [e5]; exact h4, by rw [e0]; exact h5, fun a ha => ?_⟩
  obtain ⟨a1, a2, a3⟩ := h6 a ha
  exact ⟨cS_fr a1 hn (fun o _ => e _ (by omega)), mP_fr a2 e25, a3⟩
theorem rKept_fr {T : fz_A2} {MC MM MC' MM' : fz_M} (h : rKept T MC MM) (hn : T 0 2 ≤ 6) (e19 : MC'.1 19 = MC.1 19) (e : ∀ c, 53 ≤ c → c < 79 → MC'.1 c = MC.1 c) (e26 : MM'.1 26 = MM.1 26) (e27 : MM'.1 27 = MM.1 27) (e28 : MM'.1 28 = MM.1 28) : rKept T MC' MM' := by
  intro s hs
  obtain ⟨b, h1, h2, h3, h4⟩ := h s hs
  refine ⟨b, h1, by rw [e19]; exact h2, by rw [e28]; exact h3, fun hb => ?_⟩
  obtain ⟨S, sp, B, a1, a2, a3, a4⟩ := h4 hb
  refine ⟨S, sp, B, cS_fr a1 hn (fun o ho => e _ (by omega) (by omega)), mP_fr a2 e26, a3, fun i hi => ?_⟩
  rw [e _ (by omega) (by omega), e27]
  exact a4 i hi
theorem rMark_fr {MC MM MC' MM' : fz_M} (h : rMark MC MM) (e7 : MC'.1 7 = MC.1 7) (e8 : MC'.1 8 = MC.1 8) (e9 : MC'.1 9 = MC.1 9) (e0 : MM'.1 0 43 = MM.1 0 43) (e32 : MM'.1 32 = MM.1 32) (e33 : MM'.1 33 = MM.1 33) : rMark MC' MM' := by
  obtain ⟨n, h1, h2, h3, h4⟩ := h
  exact ⟨n, h1, by rw [e7]; exact h2, by rw [e0]; exact h3, fun i hi => by rw [e8, e9, e32, e33]; exact h4 i hi⟩
theorem rText_fr {MC MM MC' MM' : fz_M} (h : rText MC MM) (e1 : MC'.1 1 = MC.1 1) (e2 : MC'.1 2 = MC.1 2) (e0 : MM'.1 0 2 = MM.1 0 2) (e3 : MM'.1 1 = MM.1 1) : rText MC' MM' := by
  obtain ⟨n, h1, h2, h3, h4⟩ := h
  exact ⟨n, h1, by rw [e1]; exact h2, by rw [e0]; exact h3, fun i hi => by rw [e2, e3]; exact h4 i hi⟩
theorem rShut_fr {B : Nat → Nat} {MC MM MC' MM' : fz_M} (h : rShut B MC MM) (e52 : MC'.1 52 = MC.1 52) (e7 : MM'.1 7 = MM.1 7) : rShut B MC' MM' := by
  intro i hi
  rw [e52, e7]
  exact h i hi
theorem rTop_fr {P : Nat} {M M' : fz_M} (h : rTop P M) (e : M'.2.2 = M.2.2) : rTop P M' := by
  unfold rTop
  rw [e]
  exact h
theorem rTop_P {P : Nat} {M : fz_M} (h : rTop P M) : P = 20 ∨ P = 30 := by
  rcases h.2.1 with ⟨h, -⟩ | ⟨h, -⟩
  · exact Or.inl h
  · exact Or.inr h
/-- the two at first: no town, no text -/
theorem rel_0 : Rel fz_0C fz_0M := by
  refine ⟨20, fun _ _ => 0, fun _ _ => 0, 0, fun _ => 0, ⟨rfl, Or.inl ⟨rfl, rfl⟩, Or.inl ⟨rfl, rfl⟩⟩, ⟨⟨rfl, rfl, rfl, fun h hh => absurd hh (Nat.not_lt_zero h), fun h hh => absurd hh (Nat.not_lt_zero h), fun h hh => absurd hh (Nat.not_lt_zero h)⟩, ⟨rfl, rfl, rfl, fun h hh => absurd hh (Nat.not_lt_zero h), fun h hh => absurd hh (Nat.not_lt_zero h), fun h hh => absurd hh (Nat.not_lt_zero h)⟩, ⟨by decide, by decide, by decide, fun h hh => absurd hh (Nat.not_lt_zero h), fun h hh => absurd hh (Nat.not_lt_zero h), fun h hh => absurd hh (Nat.not_lt_zero h), fun h => by show 0 ≤ 10; decide⟩⟩, ⟨⟨rfl, fun p hp => absurd hp (Nat.not_lt_zero p)⟩, ⟨rfl, fun p hp => absurd hp (Nat.not_lt_zero p)⟩, fun p hp => absurd hp (Nat.not_lt_zero p)⟩, fun i hi => ⟨rfl, rfl, Nat.zero_le _⟩, ⟨0, 0, fun _ _ _ => 0, fun _ => 0, by decide, by decide, rfl, rfl, rfl, fun a ha => absurd ha (Nat.not_lt_zero a)⟩, fun s hs => ⟨0, by decide, rfl, rfl, fun h => absurd h (by decide)⟩, ⟨0, by decide, rfl, rfl, fun i hi => absurd hi (Nat.not_lt_zero i)⟩, ⟨0, by decide, rfl, rfl, fun i hi => absurd hi (Nat.not_lt_zero i)⟩⟩
