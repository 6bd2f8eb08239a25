/-! an hour of flood, piece by piece -/
abbrev hZ : Type := fz_A2 × Int32 × Int32
def bitI (p : Nat) : Int32 := 1 <<< (nI p &&& 31)
def hLo (T : fz_A2) (lv p : Nat) (z : hZ) : Bool := decide (T 8 p ≤ lv - T 1 (z.1 0 p)) && decide (z.1 1 p < lv - T 1 (z.1 0 p))
def hJm (T : fz_A2) (p s : Nat) (z : hZ) : Bool := decide (T 2 (z.1 0 p) < z.1 2 (z.1 0 p) + T 7 p) || decide (T 2 (T 4 s) < z.1 2 (T 4 s) + T 7 p)
def hStep (T : fz_A2) (X : Nat → Bool) (lv p : Nat) (z : hZ) : hZ :=
  if hLo T lv p z = true then
    match stg T X (z.1 0 p) (T 0 1) with
    | none => (up2 z.1 1 p 0, z.2.1, z.2.2)
    | some s => if hJm T p s z = true then (up2 z.1 1 p 0, z.2.1, z.2.2 ||| bitI p) else (up2 (up2 (up2 (up2 z.1 1 p 0) 2 (z.1 0 p) (z.1 2 (z.1 0 p) + T 7 p)) 2 (T 4 s) (z.1 2 (T 4 s) + T 7 p)) 0 p (T 4 s), z.2.1 ||| bitI p, z.2.2)
  else z
def hRun (T : fz_A2) (X : Nat → Bool) (lv : Nat) (z : hZ) : Nat → hZ
  | 0 => z
  | p + 1 => hStep T X lv p (hRun T X lv z p)
def cH (T : fz_A2) (z : hZ) (M : fz_M) : Prop := (∀ p, p < T 0 2 → M.1 11 p = nI (z.1 0 p) ∧ M.1 12 p = nI (z.1 1 p)) ∧ (∀ h, h < T 0 0 → M.1 14 h = nI (z.1 2 h)) ∧ M.1 10 4 = z.2.1 ∧ M.1 10 5 = z.2.2
def mH (T : fz_A2) (z : hZ) (M : fz_M) : Prop := (∀ p, p < T 0 2 → M.1 29 p = nI (z.1 0 p) ∧ M.1 30 p = nI (z.1 1 p)) ∧ (∀ h, h < T 0 0 → M.1 31 h = nI (T 2 h - z.1 2 h)) ∧ M.1 0 42 = z.2.2
def wH (T : fz_A2) (z : hZ) : Prop := (∀ p, p < T 0 2 → z.1 0 p < T 0 0 ∧ z.1 1 p ≤ 9) ∧ ∀ h, h < T 0 0 → z.1 2 h ≤ T 2 h
theorem hs_n {T : fz_A2} {X : Nat → Bool} {lv p : Nat} {z : hZ} (c : ¬ hLo T lv p z = true) : hStep T X lv p z = z := if_neg c
theorem hs_0 {T : fz_A2} {X : Nat → Bool} {lv p : Nat} {z : hZ} (c : hLo T lv p z = true) (e : stg T X (z.1 0 p) (T 0 1) = none) : hStep T X lv p z = (up2 z.1 1 p 0, z.2.1, z.2.2) := by
  simp only [hStep, if_pos c, e]
theorem hs_j {T : fz_A2} {X : Nat → Bool} {lv p s : Nat} {z : hZ} (c : hLo T lv p z = true) (e : stg T X (z.1 0 p) (T 0 1) = some s) (k : hJm T p s z = true) : hStep T X lv p z = (up2 z.1 1 p 0, z.2.1, z.2.2 ||| bitI p) := by
  simp only [hStep, if_pos c, e, if_pos k]
theorem hs_g {T : fz_A2} {X : Nat → Bool} {lv p s : Nat} {z : hZ} (c : hLo T lv p z = true) (e : stg T X (z.1 0 p) (T 0 1) = some s) (k : ¬ hJm T p s z = true) : hStep T X lv p z = (up2 (up2 (up2 (up2 z.1 1 p 0) 2 (z.1 0 p) (z.1 2 (z.1 0 p) + T 7 p)) 2 (T 4 s) (z.1 2 (T 4 s) + T 7 p)) 0 p (T 4 s), z.2.1 ||| bitI p, z.2.2) := by
  simp only [hStep, if_pos c, e, if_neg k]
theorem hLo_t {T : fz_A2} {lv p : Nat} {z : hZ} (c : hLo T lv p z = true) : T 8 p ≤ lv - T 1 (z.1 0 p) ∧ z.1 1 p < lv - T 1 (z.1 0 p) := by
  unfold hLo at c
  rw [Bool.and_eq_true, decide_eq_true_eq, decide_eq_true_eq] at c
  exact c
theorem hLo_f {T : fz_A2} {lv p : Nat} {z : hZ} (c : ¬ hLo T lv p z = true) : ¬ (T 8 p ≤ lv - T 1 (z.1 0 p) ∧ z.1 1 p < lv - T 1 (z.1 0 p)) := by
  unfold hLo at c
  rw [Bool.and_eq_true, decide_eq_true_eq, decide_eq_true_eq] at c
  exact c
theorem hJm_t {T : fz_A2} {p s : Nat} {z : hZ} (c : hJm T p s z = true) : T 2 (z.1 0 p) < z.1 2 (z.1 0 p) + T 7 p ∨ T 2 (T 4 s) < z.1 2 (T 4 s) + T 7 p := by
  unfold hJm at c
  rw [Bool.or_eq_true, decide_eq_true_eq, decide_eq_true_eq] at c
  exact c
theorem hJm_f {T : fz_A2} {p s : Nat} {z : hZ} (c : ¬ hJm T p s z = true) : ¬ (T 2 (z.1 0 p) < z.1 2 (z.1 0 p) + T 7 p ∨ T 2 (T 4 s) < z.1 2 (T 4 s) + T 7 p) := by
  unfold hJm at c
  rw [Bool.or_eq_true, decide_eq_true_eq, decide_eq_true_eq] at c
  exact c
theorem wH_step {T : fz_A2} {X : Nat → Bool} {lv p : Nat} {z : hZ} (hw : wT T) (h : wH T z) : wH T (hStep T X lv p z) := by
  have hz : wH T (up2 z.1 1 p 0, z.2) := by
    refine ⟨fun q hq => ?_, fun q hq => ?_⟩
    · show up2 z.1 1 p 0 0 q < _ ∧ up2 z.1 1 p 0 1 q ≤ 9
      rw [up2_ne (by omega)]
      refine ⟨(h.1 q hq).1, ?_⟩
      by_cases c : q = p
      · subst c; rw [up2_at]; omega
      · rw [up2_ne (by omega)]; exact (h.1 q hq).2
    · show up2 z.1 1 p 0 2 q ≤ _
      rw [up2_ne (by omega)]; exact h.2 q hq
  by_cases c : hLo T lv p z = true
  · cases e0 : stg T X (z.1 0 p) (T 0 1) with
    | none => rw [hs_0 c e0]; exact hz
    | some s =>
      by_cases k : hJm T p s z = true
      · rw [hs_j c e0 k]; exact hz
      · rw [hs_g c e0 k]
        have k' := hJm_f k
        obtain ⟨o1, o2⟩ := stg_lt e0
        obtain ⟨u3, u4, -⟩ := hw.2.2.2.2.1 s o1
        refine ⟨fun q hq => ?_, fun q hq => ?_⟩
        · obtain ⟨y1, y2⟩ := hz.1 q hq
          dsimp only at y1 y2 ⊢
          refine ⟨?_, ?_⟩
          · by_cases cq : q = p
            · subst cq; rw [up2_at]; exact u4
            · rw [up2_ne (by omega), up2_ne (by omega), up2_ne (by omega)]; exact y1
          · rw [up2_ne (by omega), up2_ne (by omega), up2_ne (by omega)]; exact y2
        · have y := h.2 q hq
          dsimp only
          rw [up2_ne (by omega)]
          by_cases c1 : q = T 4 s
          · subst c1; rw [up2_at]; omega
          · rw [up2_ne (by omega)]
            by_cases c2 : q = z.1 0 p
            · subst c2; rw [up2_at]; omega
            · rw [up2_ne (by omega), up2_ne (by omega)]; exact y
  · rw [hs_n c]; exact h
theorem wH_run {T : fz_A2} {X : Nat → Bool} {lv : Nat} {z : hZ} (hw : wT T) (h : wH T z) : ∀ n, wH T (hRun T X lv z n)
  | 0 => h
  | n + 1 => wH_step hw (wH_run hw h n)
theorem loo_e {P lv p : Nat} {T : fz_A2} {z : hZ} {M : fz_M} (hp : p < T 0 2) (hl : lv ≤ 19) (hT : cT P T M) (hw : wT T) (h : ∀ p, p < T 0 2 → M.1 11 p = nI (z.1 0 p) ∧ M.1 12 p = nI (z.1 1 p)) (hwH : wH T z) : f_X7_isLoose P (nI p) (nI lv) M = some (if hLo T lv p z = true then 1 else 0) := by
  have hn2 := hw.2.2.1
  have hin : fz_in (nI p) 6 = true := fz_in_nI (by omega) (by decide)
  have h31 : p < 2 ^ 31 := by omega
  obtain ⟨a1, a2⟩ := h p hp
  obtain ⟨b1, b2⟩ := hwH.1 p hp
  obtain ⟨-, -, a8⟩ := hT.2.2.2.2.2 p hp
  obtain ⟨-, -, -, u8, u9⟩ := hw.2.2.2.2.2.1 p hp
  have k1 : (nI (lv - T 1 (z.1 0 p)) < nI (T 8 p)) = (lv - T 1 (z.1 0 p) < T 8 p) := propext (nI_ltI (by omega) (by omega))
  have k2 : (nI (lv - T 1 (z.1 0 p)) ≤ nI (z.1 1 p)) = (lv - T 1 (z.1 0 p) ≤ z.1 1 p) := propext (nI_leI (by omega) (by omega))
  simp only [f_X7_isLoose, fz_gd_t hin, fz_g_nI h31, a1, a2, a8, water_e hT hw b1 hl, fz_b1_e, k1, k2]
  by_cases c : hLo T lv p z = true
  · have c' := hLo_t c
    rw [if_neg (by omega), if_neg (by omega), if_pos c]
  · have c' := hLo_f c
    rw [if_neg c]
    by_cases d : lv - T 1 (z.1 0 p) < T 8 p
    · rw [if_pos d]
    · rw [if_neg d, if_pos (by omega)]
theorem cStep_e {P lv p : Nat} {T : fz_A2} {X : Nat → Bool} {z : hZ} {M : fz_M} (hP : P = 20 ∨ P = 30) (hp : p < T 0 2) (hl : lv ≤ 19) (hT : cT P T M) (hw : wT T) (h : cH T z M) (hwH : wH T z) (hS : ∀ h, h < T 0 0 → M.1 13 h = enc (stg T X h (T 0 1))) : ∃ M', (∀ kk, f_X7_passHour_35_s P kk (nI lv) (nI p) M = kk (nI (p + 1), M')) ∧ M'.2 = M.2 ∧ (∀ d, d ≠ 10 → d ≠ 11 → d ≠ 12 → d ≠ 14 → M'.1 d = M.1 d) ∧ cH T (hStep T X lv p z) M' := by
  have hn2 := hw.2.2.1
  have hn1 := hw.2.1
  have hn0 := hw.1
  have hin : fz_in (nI p) 6 = true := fz_in_nI (by omega) (by decide)
  have h31 : p < 2 ^ 31 := by omega
  have hlt : ¬ nI (T 0 2) ≤ nI p := nI_ge hp (by omega)
  obtain ⟨a1, a2⟩ := h.1 p hp
  obtain ⟨b1, b2⟩ := hwH.1 p hp
  obtain ⟨-, t7, -⟩ := hT.2.2.2.2.2 p hp
  obtain ⟨-, u7, u7', -⟩ := hw.2.2.2.2.2.1 p hp
  have hlo := loo_e hp hl hT hw h.1 hwH
  generalize ha : z.1 0 p = a at a1 b1
  have ina : fz_in (nI a) 6 = true := fz_in_nI (by omega) (by decide)
  have a31 : a < 2 ^ 31 := by omega
  by_cases c : hLo T lv p z = true
  · rw [if_pos c] at hlo
    have hw9 : ∀ M9, M9 = fz_w M 12 p 0 → M9.2 = M.2 ∧ (∀ d, d ≠ 12 → M9.1 d = M.1 d) ∧ ∀ q, M9.1 12 q = if q = p then 0 else M.1 12 q := fun M9 e => by
      subst e
      refine ⟨rfl, fun d hd => w_ne hd, fun q => ?_⟩
      by_cases cq : q = p
      · subst cq; rw [w_at, if_pos rfl]
      · rw [w_nj cq, if_neg cq]
    obtain ⟨M9, hM9⟩ : ∃ M9, M9 = fz_w M 12 p 0 := ⟨_, rfl⟩
    obtain ⟨n1, n2, n3⟩ := hw9 M9 hM9
    have s13 : M9.1 13 a = enc (stg T X a (T 0 1)) := by rw [n2 13 (by decide)]; exact hS a b1
    have base : ∀ q, q < T 0 2 → M9.1 11 q = nI (up2 z.1 1 p 0 0 q) ∧ M9.1 12 q = nI (up2 z.1 1 p 0 1 q) := fun q hq => by
      rw [n2 11 (by decide), n3, up2_ne (by omega)]
      refine ⟨(h.1 q hq).1, ?_⟩
      by_cases cq : q = p
      · subst cq; rw [if_pos rfl, up2_at]; rfl
      · rw [if_neg cq, up2_ne (by omega)]; exact (h.1 q hq).2
    have base2 : ∀ q, q < T 0 0 → M9.1 14 q = nI (up2 z.1 1 p 0 2 q) := fun q hq => by
      rw [n2 14 (by decide), up2_ne (by omega)]; exact h.2.1 q hq
    have b4 : M9.1 10 4 = z.2.1 := by rw [n2 10 (by decide)]; exact h.2.2.1
    have b5 : M9.1 10 5 = z.2.2 := by rw [n2 10 (by decide)]; exact h.2.2.2
    cases e0 : stg T X a (T 0 1) with
    | none =>
      rw [e0] at s13
      refine ⟨M9, fun kk => ?_, n1, fun d _ _ x _ => n2 d x, ?_⟩
      · simp (decide := true) only [f_X7_passHour_35_s, fz_f_e, hT.2.2.1, hlt, fz_gd_t hin, fz_g_nI h31, fz_s_nI h31, a1, fz_bd_e, hlo, fz_b1_e, fz_gd_t ina, fz_g_nI a31, ← hM9, s13, enc, nI_1, ↓reduceIte]
      · rw [hs_0 c (by rw [ha]; exact e0)]
        exact ⟨base, base2, b4, b5⟩
    | some s =>
      rw [e0] at s13
      obtain ⟨o1, o2⟩ := stg_lt e0
      obtain ⟨u3, u4, u34, -⟩ := hw.2.2.2.2.1 s o1
      obtain ⟨t3, t4, -⟩ := hT.2.2.2.2.1 s o1
      have s31 : s < 2 ^ 31 := by omega
      have ins : fz_in (nI s) 10 = true := fz_in_nI (by omega) (by decide)
      have inb : fz_in (nI (T 4 s)) 6 = true := fz_in_nI (by omega) (by decide)
      have hb31 : T 4 s < 2 ^ 31 := by omega
      have k9 : ¬ nI s = -9 := nI_neg s31
      have m4 : M9.1 (P + 4) s = nI (T 4 s) := by rw [n2 _ (by omega)]; exact t4
      have m7 : M9.1 (P + 7) p = nI (T 7 p) := by rw [n2 _ (by omega)]; exact t7
      have m2a : M9.1 (P + 2) a = nI (T 2 a) := by rw [n2 _ (by omega)]; exact (hT.2.2.2.1 a b1).2
      have m2b : M9.1 (P + 2) (T 4 s) = nI (T 2 (T 4 s)) := by rw [n2 _ (by omega)]; exact (hT.2.2.2.1 _ u4).2
      have m14a : M9.1 14 a = nI (z.1 2 a) := by rw [n2 14 (by decide)]; exact h.2.1 a b1
      have m14b : M9.1 14 (T 4 s) = nI (z.1 2 (T 4 s)) := by rw [n2 14 (by decide)]; exact h.2.1 _ u4
      have wa := hwH.2 a b1
      have wb := hwH.2 _ u4
      have va := (hw.2.2.2.1 a b1).2.2
      have vb := (hw.2.2.2.1 _ u4).2.2
      have kA : (nI (T 2 a) < nI (z.1 2 a + T 7 p)) = (T 2 a < z.1 2 a + T 7 p) := propext (nI_ltI (by omega) (by omega))
      have kB : (nI (z.1 2 (T 4 s) + T 7 p) ≤ nI (T 2 (T 4 s))) = (z.1 2 (T 4 s) + T 7 p ≤ T 2 (T 4 s)) := propext (nI_leI (by omega) (by omega))
      by_cases k : hJm T p s z = true
      · have k' := hJm_t k
        rw [ha] at k'
        have lg : f_X7_letGo P (nI p) (nI a) (nI (T 4 s)) M9 = some (fz_w M9 10 5 (z.2.2 ||| bitI p)) := by
          simp only [f_X7_letGo, f_X7_letGo_47, fz_gd_t hin, fz_g_nI h31, m7, fz_bd_e, fz_gd_t ina, fz_gd_t inb, fz_g_nI a31, fz_g_nI hb31, m2a, m2b, m14a, m14b, nI_add, kA, kB, fz_f_e, fz_sf_e, b5]
          by_cases d : T 2 a < z.1 2 a + T 7 p
          · rw [if_pos d]; rfl
          · rw [if_neg d, if_neg (by omega)]; rfl
        refine ⟨fz_w M9 10 5 (z.2.2 ||| bitI p), fun kk => ?_, n1, fun d y _ x _ => by rw [w_ne y]; exact n2 d x, ?_⟩
        · simp (decide := true) only [f_X7_passHour_35_s, fz_f_e, hT.2.2.1, hlt, fz_gd_t hin, fz_g_nI h31, fz_s_nI h31, a1, fz_bd_e, hlo, fz_b1_e, fz_gd_t ina, fz_g_nI a31, ← hM9, s13, enc, k9, fz_gd_t ins, fz_g_nI s31, m4, lg, nI_1, ↓reduceIte]
        · rw [hs_j c (by rw [ha]; exact e0) k]
          refine ⟨fun q hq => ?_, fun q hq => ?_, ?_, w_at⟩
          · rw [w_ne (by decide), w_ne (by decide)]; exact base q hq
          · rw [w_ne (by decide)]; exact base2 q hq
          · rw [w_nj (by decide)]; exact b4
      · have k' := hJm_f k
        rw [ha] at k'
        have hab : T 4 s ≠ a := by rw [← o2]; exact fun q => u34 q.symm
        have lg : f_X7_letGo P (nI p) (nI a) (nI (T 4 s)) M9 = some (fz_w (fz_w (fz_w (fz_w M9 14 a (nI (z.1 2 a + T 7 p))) 14 (T 4 s) (nI (z.1 2 (T 4 s) + T 7 p))) 11 p (nI (T 4 s))) 10 4 (z.2.1 ||| bitI p)) := by
          have e1 : ∀ v, (fz_w M9 14 a v).1 14 (T 4 s) = nI (z.1 2 (T 4 s)) := fun v => by rw [w_nj hab]; exact m14b
          have e2 : ∀ v w x, (fz_w (fz_w (fz_w M9 14 a v) 14 (T 4 s) w) 11 p x).1 10 4 = z.2.1 := fun v w x => by rw [w_ne (by decide), w_ne (by decide), w_ne (by decide)]; exact b4
          simp only [f_X7_letGo, f_X7_letGo_47, fz_gd_t hin, fz_g_nI h31, m7, fz_bd_e, fz_gd_t ina, fz_gd_t inb, fz_g_nI a31, fz_g_nI hb31, m2a, m2b, m14a, m14b, nI_add, kA, kB, fz_f_e, fz_sf_e, fz_s_nI a31, fz_s_nI hb31, fz_s_nI h31, e1, e2]
          rw [if_neg (by omega), if_pos (by omega)]; rfl
        refine ⟨fz_w (fz_w (fz_w (fz_w M9 14 a (nI (z.1 2 a + T 7 p))) 14 (T 4 s) (nI (z.1 2 (T 4 s) + T 7 p))) 11 p (nI (T 4 s))) 10 4 (z.2.1 ||| bitI p), fun kk => ?_, n1, fun d y1 y2 x y3 => ?_, ?_⟩
        · simp (decide := true) only [f_X7_passHour_35_s, fz_f_e, hT.2.2.1, hlt, fz_gd_t hin, fz_g_nI h31, fz_s_nI h31, a1, fz_bd_e, hlo, fz_b1_e, fz_gd_t ina, fz_g_nI a31, ← hM9, s13, enc, k9, fz_gd_t ins, fz_g_nI s31, m4, lg, nI_1, ↓reduceIte]
        · rw [w_ne y1, w_ne y2, w_ne y3, w_ne y3]; exact n2 d x
        · rw [hs_g c (by rw [ha]; exact e0) k, ha]
          refine ⟨fun q hq => ?_, fun q hq => ?_, w_at, ?_⟩
          · obtain ⟨y1, y2⟩ := base q hq
            dsimp only
            rw [up2_ne (show ¬ (1 = 0 ∧ q = p) by omega), up2_ne (show ¬ (1 = 2 ∧ q = T 4 s) by omega), up2_ne (show ¬ (1 = 2 ∧ q = a) by omega), w_ne (show (12 : Nat) ≠ 10 by decide), w_ne (show (12 : Nat) ≠ 11 by decide), w_ne (show (12 : Nat) ≠ 14 by decide), w_ne (show (12 : Nat) ≠ 14 by decide), w_ne (show (11 : Nat) ≠ 10 by decide)]
            refine ⟨?_, y2⟩
            by_cases cq : q = p
            · subst cq; rw [w_at, up2_at]
            · rw [w_nj cq, w_ne (show (11 : Nat) ≠ 14 by decide), w_ne (show (11 : Nat) ≠ 14 by decide), up2_ne (by omega), up2_ne (by omega), up2_ne (by omega)]; exact y1
          · have y := base2 q hq
            dsimp only
            rw [w_ne (show (14 : Nat) ≠ 10 by decide), w_ne (show (14 : Nat) ≠ 11 by decide), up2_ne (show ¬ (2 = 0 ∧ q = p) by omega)]
            by_cases c1 : q = T 4 s
            · subst c1; rw [w_at, up2_at]
            · rw [w_nj c1, up2_ne (show ¬ (2 = 2 ∧ q = T 4 s) by omega)]
              by_cases c2 : q = a
              · subst c2; rw [w_at, up2_at]
              · rw [w_nj c2, up2_ne (show ¬ (2 = 2 ∧ q = a) by omega)]; exact y
          · rw [w_nj (by decide), w_ne (by decide), w_ne (by decide), w_ne (by decide)]; exact b5
  · rw [if_neg c] at hlo
    refine ⟨M, fun kk => ?_, rfl, fun _ _ _ _ _ => rfl, by rw [hs_n c]; exact h⟩
    simp (decide := true) only [f_X7_passHour_35_s, fz_f_e, hT.2.2.1, hlt, fz_gd_t hin, fz_g_nI h31, fz_bd_e, hlo, fz_b1_e, nI_1, ↓reduceIte]
