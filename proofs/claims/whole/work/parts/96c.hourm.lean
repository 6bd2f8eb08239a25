/-! an hour of flood, piece by piece: the model -/
theorem mStep_e {lv p : Nat} {T : fz_A2} {X : Nat → Bool} {z : hZ} {M : fz_M} (hp : p < T 0 2) (hl : lv ≤ 19) (hT : mT T M) (hw : wT T) (h : mH T z M) (hwH : wH T z) (hX : ∀ s, s < T 0 1 → (M.1 7 s = 0 ↔ X s = true)) : ∃ M', (∀ kk, f_X9_goHour_37_s kk (nI lv) z.2.1 (nI p) M = kk ((hStep T X lv p z).2.1, nI (p + 1), M')) ∧ M'.2 = M.2 ∧ (∀ d, d ≠ 0 → d ≠ 29 → d ≠ 30 → d ≠ 31 → M'.1 d = M.1 d) ∧ (∀ j, j ≠ 42 → M'.1 0 j = M.1 0 j) ∧ mH T (hStep T X lv p z) M' := by
  have hn2 := hw.2.2.1
  have hn1 := hw.2.1
  have hn0 := hw.1
  have hin : fz_in (nI p) 6 = true := fz_in_nI (by omega) (by decide)
  have h31 : p < 2 ^ 31 := by omega
  have hlt : ¬ nI (T 0 2) ≤ nI p := nI_ge hp (by omega)
  obtain ⟨a1, a2⟩ := h.1 p hp
  obtain ⟨b1, b2⟩ := hwH.1 p hp
  obtain ⟨-, t9, t10⟩ := hT.2.2.2.2.2 p hp
  obtain ⟨-, u7, u7', u8, u9⟩ := hw.2.2.2.2.2.1 p hp
  have hde := depth_e hT hw b1 hl
  have k1 : (nI (lv - T 1 (z.1 0 p)) < nI (T 8 p)) = (lv - T 1 (z.1 0 p) < T 8 p) := propext (nI_ltI (by omega) (by omega))
  have k2 : (nI (lv - T 1 (z.1 0 p)) ≤ nI (z.1 1 p)) = (lv - T 1 (z.1 0 p) ≤ z.1 1 p) := propext (nI_leI (by omega) (by omega))
  by_cases c : hLo T lv p z = true
  · have c' := hLo_t c
    obtain ⟨M2, hM2⟩ : ∃ M2, M2 = fz_w M 30 p 0 := ⟨_, rfl⟩
    have n1 : M2.2 = M.2 := by rw [hM2]; rfl
    have n2 : ∀ d, d ≠ 30 → M2.1 d = M.1 d := fun d hd => by rw [hM2, w_ne hd]
    have n30 : M2.1 30 p = 0 := by rw [hM2, w_at]
    have base : ∀ q, q < T 0 2 → M2.1 29 q = nI (up2 z.1 1 p 0 0 q) ∧ M2.1 30 q = nI (up2 z.1 1 p 0 1 q) := fun q hq => by
      rw [n2 29 (by decide), up2_ne (by omega)]
      refine ⟨(h.1 q hq).1, ?_⟩
      by_cases cq : q = p
      · subst cq; rw [n30, up2_at]; rfl
      · rw [hM2, w_nj cq, up2_ne (by omega)]; exact (h.1 q hq).2
    have base2 : ∀ q, q < T 0 0 → M2.1 31 q = nI (T 2 q - up2 z.1 1 p 0 2 q) := fun q hq => by
      rw [n2 31 (by decide), up2_ne (by omega)]; exact h.2.1 q hq
    have b5 : M2.1 0 42 = z.2.2 := by rw [n2 0 (by decide)]; exact h.2.2
    have m29 : M2.1 29 p = nI (z.1 0 p) := by rw [n2 29 (by decide)]; exact a1
    have hst := mStg_e (X := X) (h := z.1 0 p) (M := M2) (by omega) (mT_fr hT (by rw [n2 0 (by decide)]) (by rw [n2 0 (by decide)]) (by rw [n2 0 (by decide)]) (fun c _ _ _ => n2 c (by omega))) hw (fun s hs => by rw [n2 7 (by decide)]; exact hX s hs)
    have step : ∀ kk, f_X9_goHour_37_s kk (nI lv) z.2.1 (nI p) M = f_X9_goHour_137 kk (nI lv) z.2.1 (nI p) (enc (stg T X (z.1 0 p) (T 0 1))) M2 := fun kk => by
      have d1 : ¬ lv - T 1 (z.1 0 p) < T 8 p := by omega
      have d2 : ¬ lv - T 1 (z.1 0 p) ≤ z.1 1 p := by omega
      simp (decide := true) only [f_X9_goHour_37_s, f_X9_goHour_74, f_X9_goHour_107, fz_f_e, hT.2.2.1, hlt, fz_gd_t hin, fz_g_nI h31, a1, hde, fz_b1_e, t10, k1, d1, a2, k2, d2, fz_s_nI h31, ← hM2, fz_bd_e, n30, m29, hst, ↓reduceIte]
    generalize ha : z.1 0 p = a at b1 hst step
    have ina : fz_in (nI a) 6 = true := fz_in_nI (by omega) (by decide)
    have a31 : a < 2 ^ 31 := by omega
    cases e0 : stg T X a (T 0 1) with
    | none =>
      rw [e0] at step
      rw [hs_0 c (by rw [ha]; exact e0)]
      refine ⟨M2, fun kk => ?_, n1, fun d _ _ x _ => n2 d x, fun j _ => by rw [n2 0 (by decide)], base, base2, b5⟩
      rw [step]
      simp (decide := true) only [f_X9_goHour_137, enc, nI_1, ↓reduceIte]
    | some s =>
      rw [e0] at step
      obtain ⟨o1, o2⟩ := stg_lt e0
      obtain ⟨u3, u4, u34, -⟩ := hw.2.2.2.2.1 s o1
      obtain ⟨t3, t4, -⟩ := hT.2.2.2.2.1 s o1
      have s31 : s < 2 ^ 31 := by omega
      have ins : fz_in (nI s) 10 = true := fz_in_nI (by omega) (by decide)
      have inb : fz_in (nI (T 4 s)) 6 = true := fz_in_nI (by omega) (by decide)
      have hb31 : T 4 s < 2 ^ 31 := by omega
      have k9 : ¬ nI s = -9 := nI_neg s31
      have m4 : M2.1 4 s = nI a := by rw [n2 4 (by decide), t3, o2]
      have m5 : M2.1 5 s = nI (T 4 s) := by rw [n2 5 (by decide)]; exact t4
      have m9 : M2.1 9 p = nI (T 7 p) := by rw [n2 9 (by decide)]; exact t9
      have m31a : M2.1 31 a = nI (T 2 a - z.1 2 a) := by rw [n2 31 (by decide)]; exact h.2.1 a b1
      have m31b : M2.1 31 (T 4 s) = nI (T 2 (T 4 s) - z.1 2 (T 4 s)) := by rw [n2 31 (by decide)]; exact h.2.1 _ u4
      have wa := hwH.2 a b1
      have wb := hwH.2 _ u4
      have va := (hw.2.2.2.1 a b1).2.2
      have vb := (hw.2.2.2.1 _ u4).2.2
      have kA : (nI (T 2 a - z.1 2 a) < nI (T 7 p)) = (T 2 a < z.1 2 a + T 7 p) := by rw [propext (nI_ltI (by omega) (by omega))]; exact propext ⟨fun q => by omega, fun q => by omega⟩
      have kB : (nI (T 2 (T 4 s) - z.1 2 (T 4 s)) < nI (T 7 p)) = (T 2 (T 4 s) < z.1 2 (T 4 s) + T 7 p) := by rw [propext (nI_ltI (by omega) (by omega))]; exact propext ⟨fun q => by omega, fun q => by omega⟩
      by_cases k : hJm T p s z = true
      · have k' := hJm_t k
        rw [ha] at k'
        rw [hs_j c (by rw [ha]; exact e0) k]
        refine ⟨fz_w M2 0 42 (z.2.2 ||| bitI p), fun kk => ?_, n1, fun d y _ x _ => by rw [w_ne y]; exact n2 d x, fun j x => by rw [w_nj x, n2 0 (by decide)], fun q hq => ?_, fun q hq => ?_, w_at⟩
        · rw [step]
          simp (decide := true) only [f_X9_goHour_137, f_X9_goHour_192, f_X9_goHour_193, enc, k9, fz_gd_t ins, fz_g_nI s31, m4, fz_gd_t ina, fz_gd_t hin, fz_g_nI a31, m31a, fz_g_nI h31, m9, kA, m5, fz_gd_t inb, fz_g_nI hb31, m31b, kB, fz_f_e, fz_sf_e, b5, fz_bd_e, nI_1, ↓reduceIte]
          by_cases d : T 2 a < z.1 2 a + T 7 p
          · rw [if_pos d]; rfl
          · rw [if_neg d, if_pos (by omega)]; rfl
        · rw [w_ne (by decide), w_ne (by decide)]; exact base q hq
        · rw [w_ne (by decide)]; exact base2 q hq
      · have k' := hJm_f k
        rw [ha] at k'
        have hab : T 4 s ≠ a := by rw [← o2]; exact fun q => u34 q.symm
        rw [hs_g c (by rw [ha]; exact e0) k, ha]
        have x1 : nI (T 2 a - z.1 2 a) - nI (T 7 p) = nI (T 2 a - (z.1 2 a + T 7 p)) := by rw [nI_sub (by omega)]; congr 1; omega
        have x2 : nI (T 2 (T 4 s) - z.1 2 (T 4 s)) - nI (T 7 p) = nI (T 2 (T 4 s) - (z.1 2 (T 4 s) + T 7 p)) := by rw [nI_sub (by omega)]; congr 1; omega
        refine ⟨fz_w (fz_w (fz_w M2 31 a (nI (T 2 a - (z.1 2 a + T 7 p)))) 31 (T 4 s) (nI (T 2 (T 4 s) - (z.1 2 (T 4 s) + T 7 p)))) 29 p (nI (T 4 s)), fun kk => ?_, n1, fun d y1 y2 x y3 => ?_, fun j x => ?_, fun q hq => ?_, fun q hq => ?_, ?_⟩
        · rw [step]
          have d1 : ¬ T 2 a < z.1 2 a + T 7 p := by omega
          have d2 : ¬ T 2 (T 4 s) < z.1 2 (T 4 s) + T 7 p := by omega
          have e1 : ∀ v, (fz_w M2 31 a v).1 31 (T 4 s) = nI (T 2 (T 4 s) - z.1 2 (T 4 s)) := fun v => by rw [w_nj hab]; exact m31b
          simp (decide := true) only [f_X9_goHour_137, f_X9_goHour_193, enc, k9, fz_gd_t ins, fz_g_nI s31, m4, fz_gd_t ina, fz_gd_t hin, fz_g_nI a31, m31a, fz_g_nI h31, m9, kA, d1, m5, fz_gd_t inb, fz_g_nI hb31, m31b, kB, d2, fz_s_nI a31, fz_s_nI hb31, fz_s_nI h31, w_ne (show (5 : Nat) ≠ 31 by decide), w_ne (show (9 : Nat) ≠ 31 by decide), e1, x1, x2, fz_bd_e, nI_1, ↓reduceIte]
          rfl
        · rw [w_ne y2, w_ne y3, w_ne y3]; exact n2 d x
        · rw [w_ne (by decide), w_ne (by decide), w_ne (by decide), n2 0 (by decide)]
        · obtain ⟨y1, y2⟩ := base q hq
          dsimp only
          rw [up2_ne (show ¬ (1 = 0 ∧ q = p) by omega), up2_ne (show ¬ (1 = 2 ∧ q = T 4 s) by omega), up2_ne (show ¬ (1 = 2 ∧ q = a) by omega), w_ne (show (30 : Nat) ≠ 29 by decide), w_ne (show (30 : Nat) ≠ 31 by decide), w_ne (show (30 : Nat) ≠ 31 by decide)]
          refine ⟨?_, y2⟩
          by_cases cq : q = p
          · subst cq; rw [w_at, up2_at]
          · rw [w_nj cq, w_ne (show (29 : Nat) ≠ 31 by decide), w_ne (show (29 : Nat) ≠ 31 by decide), up2_ne (by omega), up2_ne (by omega), up2_ne (by omega)]; exact y1
        · have y := base2 q hq
          dsimp only
          rw [w_ne (show (31 : Nat) ≠ 29 by decide), up2_ne (show ¬ (2 = 0 ∧ q = p) by omega)]
          by_cases c1 : q = T 4 s
          · subst c1; rw [w_at, up2_at]
          · rw [w_nj c1, up2_ne (show ¬ (2 = 2 ∧ q = T 4 s) by omega)]
            by_cases c2 : q = a
            · subst c2; rw [w_at, up2_at]
            · rw [w_nj c2, up2_ne (show ¬ (2 = 2 ∧ q = a) by omega)]; exact y
        · rw [w_ne (by decide), w_ne (by decide), w_ne (by decide)]; exact b5
  · have c' := hLo_f c
    rw [hs_n c]
    refine ⟨fz_w M 30 p (nI (z.1 1 p)), fun kk => ?_, rfl, fun d _ _ x _ => w_ne x, fun j _ => by rw [w_ne (by decide)], fun q hq => ?_, fun q hq => ?_, ?_⟩
    · by_cases d : lv - T 1 (z.1 0 p) < T 8 p
      · simp (decide := true) only [f_X9_goHour_37_s, f_X9_goHour_74, f_X9_goHour_101, f_X9_goHour_107, f_X9_goHour_135, f_X9_goHour_137, fz_f_e, hT.2.2.1, hlt, fz_gd_t hin, fz_g_nI h31, a1, hde, fz_b1_e, t10, k1, d, a2, fz_s_nI h31, fz_bd_e, nI_1, ↓reduceIte]
      · have d2 : lv - T 1 (z.1 0 p) ≤ z.1 1 p := by omega
        have d3 : ¬ nI (z.1 1 p) = 0 := nI_ne0 (by omega) (by omega)
        simp (decide := true) only [f_X9_goHour_37_s, f_X9_goHour_74, f_X9_goHour_101, f_X9_goHour_107, f_X9_goHour_135, f_X9_goHour_137, fz_f_e, hT.2.2.1, hlt, fz_gd_t hin, fz_g_nI h31, a1, hde, fz_b1_e, t10, k1, d, a2, k2, d2, d3, w_at, fz_s_nI h31, fz_bd_e, nI_1, ↓reduceIte, not_false_eq_true]
    · rw [w_ne (by decide)]
      refine ⟨(h.1 q hq).1, ?_⟩
      by_cases cq : q = p
      · subst cq; rw [w_at]
      · rw [w_nj cq]; exact (h.1 q hq).2
    · rw [w_ne (by decide)]; exact h.2.1 q hq
    · rw [w_ne (by decide)]; exact h.2.2
/-- one whole hour: the beginning of its doors, then all pieces -/
def hBeg (A : fz_A2) : hZ := (fun c i => if c = 2 then 0 else A c i, 0, 0)
def hHour (T : fz_A2) (X : Nat → Bool) (lv : Nat) (A : fz_A2) : hZ := hRun T X lv (hBeg A) (T 0 2)
theorem cHr2_e {P lv : Nat} {T : fz_A2} {X : Nat → Bool} {z : hZ} {M : fz_M} (hP : P = 20 ∨ P = 30) (hl : lv ≤ 19) (hT : cT P T M) (hw : wT T) (h : cH T z M) (hwH : wH T z) (hS : ∀ h, h < T 0 0 → M.1 13 h = enc (stg T X h (T 0 1))) : ∃ M', f_X7_passHour_35 P (nI lv) 0 M = some M' ∧ M'.2 = M.2 ∧ (∀ d, d ≠ 10 → d ≠ 11 → d ≠ 12 → d ≠ 14 → M'.1 d = M.1 d) ∧ cH T (hRun T X lv z (T 0 2)) M' := by
  have hn2 := hw.2.2.1
  unfold f_X7_passHour_35
  refine lp_gen (K := fun a => some a) (fun i (s : Int32 × fz_M) => s.1 = nI i ∧ s.2.2 = M.2 ∧ (∀ d, d ≠ 10 → d ≠ 11 → d ≠ 12 → d ≠ 14 → s.2.1 d = M.1 d) ∧ cH T (hRun T X lv z i) s.2) (T 0 2) ?_ ?_ (by unfold fz_fuel; omega) ⟨rfl, rfl, fun _ _ _ _ _ => rfl, h⟩
  · rintro i ⟨x, M0⟩ hi ⟨rfl, e2, e3, e4⟩
    dsimp only at e2 e3 e4
    obtain ⟨M', q1, q2, q3, q4⟩ := cStep_e (X := X) hP hi hl (cT_fr hT fun o ho => e3 _ (by omega) (by omega) (by omega) (by omega)) hw e4 (wH_run hw hwH i) (fun h hh => by rw [e3 13 (by decide) (by decide) (by decide) (by decide)]; exact hS h hh)
    exact Or.inl ⟨(nI (i + 1), M'), ⟨rfl, q2.trans e2, fun d x y w v => (q3 d x y w v).trans (e3 d x y w v), q4⟩, q1⟩
  · rintro ⟨x, M0⟩ ⟨rfl, e2, e3, e4⟩
    dsimp only at e2 e3 e4
    have c1 : M0.1 P 2 = nI (T 0 2) := by rw [e3 P (by omega) (by omega) (by omega) (by omega)]; exact hT.2.2.1
    refine ⟨M0, ⟨e2, e3, e4⟩, fun kk => ?_⟩
    show f_X7_passHour_35_s P kk (nI lv) (nI (T 0 2)) M0 = _
    simp only [f_X7_passHour_35_s, fz_f_e, c1, show nI (T 0 2) ≤ nI (T 0 2) from nI_le (Nat.le_refl _) (by omega), ↓reduceIte]
theorem hBeg_w {T A : fz_A2} (h : ∀ p, p < T 0 2 → A 0 p < T 0 0 ∧ A 1 p ≤ 9) : wH T (hBeg A) := ⟨h, fun _ _ => Nat.zero_le _⟩
theorem cHr_e {P lv : Nat} {T A : fz_A2} {X : Nat → Bool} {M : fz_M} (hP : P = 20 ∨ P = 30) (hl : lv ≤ 19) (hT : cT P T M) (hw : wT T) (h : ∀ p, p < T 0 2 → M.1 11 p = nI (A 0 p) ∧ M.1 12 p = nI (A 1 p)) (hA : ∀ p, p < T 0 2 → A 0 p < T 0 0 ∧ A 1 p ≤ 9) (hS : ∀ h, h < T 0 0 → M.1 13 h = enc (stg T X h (T 0 1))) : ∃ M', f_X7_passHour P (nI lv) M = some M' ∧ M'.2 = M.2 ∧ (∀ d, d ≠ 10 → d ≠ 11 → d ≠ 12 → d ≠ 14 → M'.1 d = M.1 d) ∧ cH T (hHour T X lv A) M' := by
  have hn0 := hw.1
  unfold f_X7_passHour
  rw [fz_sf_e, fz_bd_e, fz_sf_e, fz_bd_e]
  unfold f_X7_passHour_12
  refine lp_gen (K := fun a => some a) (fun i (s : Int32 × fz_M) => s.1 = nI i ∧ s.2.2 = M.2 ∧ (∀ d, d ≠ 10 → d ≠ 14 → s.2.1 d = M.1 d) ∧ s.2.1 10 4 = 0 ∧ s.2.1 10 5 = 0 ∧ ∀ h, h < i → s.2.1 14 h = nI 0) (T 0 0) ?_ ?_ (by unfold fz_fuel; omega) ⟨rfl, rfl, fun d h _ => by rw [w_ne h, w_ne h], by rw [w_nj (by decide), w_at], w_at, fun j hj => absurd hj (Nat.not_lt_zero j)⟩
  · rintro i ⟨x, M0⟩ hi ⟨rfl, e2, e3, e4, e5, e6⟩
    dsimp only at e2 e3 e4 e5 e6
    have hin : fz_in (nI i) 6 = true := fz_in_nI (by omega) (by decide)
    have h31 : i < 2 ^ 31 := by omega
    have hlt : ¬ nI (T 0 0) ≤ nI i := nI_ge hi (by omega)
    have c1 : M0.1 P 0 = nI (T 0 0) := by rw [e3 P (by omega) (by omega)]; exact hT.1
    refine Or.inl ⟨(nI (i + 1), fz_w M0 14 i 0), ⟨rfl, e2, fun d x y => ?_, ?_, ?_, fun h hh => ?_⟩, fun kk => ?_⟩
    · show (fz_w _ _ _ _).1 d = _
      rw [w_ne y]; exact e3 d x y
    · show (fz_w _ _ _ _).1 10 4 = _
      rw [w_ne (by decide)]; exact e4
    · show (fz_w _ _ _ _).1 10 5 = _
      rw [w_ne (by decide)]; exact e5
    · show (fz_w _ _ _ _).1 14 h = _
      by_cases c : h = i
      · subst c; rw [w_at]; rfl
      · rw [w_nj c]; exact e6 h (by omega)
    · show f_X7_passHour_12_s P kk (nI lv) (nI i) M0 = _
      simp only [f_X7_passHour_12_s, fz_f_e, c1, hlt, fz_gd_t hin, fz_s_nI h31, fz_bd_e, nI_1, ↓reduceIte]
  · rintro ⟨x, M0⟩ ⟨rfl, e2, e3, e4, e5, e6⟩
    dsimp only at e2 e3 e4 e5 e6
    have c1 : M0.1 P 0 = nI (T 0 0) := by rw [e3 P (by omega) (by omega)]; exact hT.1
    obtain ⟨M', q1, q2, q3, q4⟩ := cHr2_e (X := X) (z := hBeg A) (M := M0) hP hl (cT_fr hT fun o ho => e3 _ (by omega) (by omega)) hw ⟨fun p hp => by rw [e3 11 (by decide) (by decide), e3 12 (by decide) (by decide)]; exact h p hp, fun q hq => e6 q hq, e4, e5⟩ (hBeg_w hA) (fun h hh => by rw [e3 13 (by decide) (by decide)]; exact hS h hh)
    refine ⟨M', ⟨q2.trans e2, fun d x y w v => (q3 d x y w v).trans (e3 d x v), q4⟩, fun kk => ?_⟩
    show f_X7_passHour_12_s P kk (nI lv) (nI (T 0 0)) M0 = _
    simp only [f_X7_passHour_12_s, fz_f_e, c1, show nI (T 0 0) ≤ nI (T 0 0) from nI_le (Nat.le_refl _) (by omega), ↓reduceIte]
    exact q1
theorem mHr2_e {lv : Nat} {T : fz_A2} {X : Nat → Bool} {z : hZ} {M : fz_M} (hl : lv ≤ 19) (hT : mT T M) (hw : wT T) (h : mH T z M) (hwH : wH T z) (hX : ∀ s, s < T 0 1 → (M.1 7 s = 0 ↔ X s = true)) : ∃ M', f_X9_goHour_37 (nI lv) z.2.1 0 M = some ((hRun T X lv z (T 0 2)).2.1, M') ∧ M'.2 = M.2 ∧ (∀ d, d ≠ 0 → d ≠ 29 → d ≠ 30 → d ≠ 31 → M'.1 d = M.1 d) ∧ (∀ j, j ≠ 42 → M'.1 0 j = M.1 0 j) ∧ mH T (hRun T X lv z (T 0 2)) M' := by
  have hn2 := hw.2.2.1
  unfold f_X9_goHour_37
  refine lp_gen (K := fun a => some ((hRun T X lv z (T 0 2)).2.1, a)) (fun i (s : Int32 × Int32 × fz_M) => s.2.1 = nI i ∧ s.1 = (hRun T X lv z i).2.1 ∧ s.2.2.2 = M.2 ∧ (∀ d, d ≠ 0 → d ≠ 29 → d ≠ 30 → d ≠ 31 → s.2.2.1 d = M.1 d) ∧ (∀ j, j ≠ 42 → s.2.2.1 0 j = M.1 0 j) ∧ mH T (hRun T X lv z i) s.2.2) (T 0 2) ?_ ?_ (by unfold fz_fuel; omega) ⟨rfl, rfl, rfl, fun _ _ _ _ _ => rfl, fun _ _ => rfl, h⟩
  · rintro i ⟨g, x, M0⟩ hi ⟨rfl, e1, e2, e3, e5, e4⟩
    dsimp only at e1 e2 e3 e4 e5
    subst e1
    obtain ⟨M', q1, q2, q3, q5, q4⟩ := mStep_e (X := X) (M := M0) hi hl (mT_fr hT (e5 4 (by decide)) (e5 5 (by decide)) (e5 6 (by decide)) fun c x y z => e3 c (by omega) (by omega) (by omega) (by omega)) hw e4 (wH_run hw hwH i) (fun s hs => by rw [e3 7 (by decide) (by decide) (by decide) (by decide)]; exact hX s hs)
    exact Or.inl ⟨((hRun T X lv z (i + 1)).2.1, nI (i + 1), M'), ⟨rfl, rfl, q2.trans e2, fun d x y w v => (q3 d x y w v).trans (e3 d x y w v), fun j x => (q5 j x).trans (e5 j x), q4⟩, q1⟩
  · rintro ⟨g, x, M0⟩ ⟨rfl, e1, e2, e3, e5, e4⟩
    dsimp only at e1 e2 e3 e4 e5
    subst e1
    have c1 : M0.1 0 6 = nI (T 0 2) := by rw [e5 6 (by decide)]; exact hT.2.2.1
    refine ⟨M0, ⟨e2, e3, e5, e4⟩, fun kk => ?_⟩
    show f_X9_goHour_37_s kk (nI lv) _ (nI (T 0 2)) M0 = _
    simp only [f_X9_goHour_37_s, fz_f_e, c1, show nI (T 0 2) ≤ nI (T 0 2) from nI_le (Nat.le_refl _) (by omega), ↓reduceIte]
theorem mHr_e {lv : Nat} {T A : fz_A2} {X : Nat → Bool} {M : fz_M} (hl : lv ≤ 19) (hT : mT T M) (hw : wT T) (h : ∀ p, p < T 0 2 → M.1 29 p = nI (A 0 p) ∧ M.1 30 p = nI (A 1 p)) (hA : ∀ p, p < T 0 2 → A 0 p < T 0 0 ∧ A 1 p ≤ 9) (hX : ∀ s, s < T 0 1 → (M.1 7 s = 0 ↔ X s = true)) : ∃ M', f_X9_goHour (nI lv) M = some ((hHour T X lv A).2.1, M') ∧ M'.2 = M.2 ∧ (∀ d, d ≠ 0 → d ≠ 29 → d ≠ 30 → d ≠ 31 → M'.1 d = M.1 d) ∧ (∀ j, j ≠ 42 → M'.1 0 j = M.1 0 j) ∧ mH T (hHour T X lv A) M' := by
  have hn0 := hw.1
  unfold f_X9_goHour
  rw [fz_sf_e, fz_bd_e]
  unfold f_X9_goHour_9
  refine lp_gen (K := fun a => some ((hHour T X lv A).2.1, a)) (fun i (s : Int32 × fz_M) => s.1 = nI i ∧ s.2.2 = M.2 ∧ (∀ d, d ≠ 0 → d ≠ 31 → s.2.1 d = M.1 d) ∧ (∀ j, j ≠ 42 → s.2.1 0 j = M.1 0 j) ∧ s.2.1 0 42 = 0 ∧ ∀ h, h < i → s.2.1 31 h = nI (T 2 h)) (T 0 0) ?_ ?_ (by unfold fz_fuel; omega) ⟨rfl, rfl, fun d h _ => by rw [w_ne h], fun j h => by rw [w_nj h], w_at, fun j hj => absurd hj (Nat.not_lt_zero j)⟩
  · rintro i ⟨x, M0⟩ hi ⟨rfl, e2, e3, e4, e5, e6⟩
    dsimp only at e2 e3 e4 e5 e6
    have hin : fz_in (nI i) 6 = true := fz_in_nI (by omega) (by decide)
    have h31 : i < 2 ^ 31 := by omega
    have hlt : ¬ nI (T 0 0) ≤ nI i := nI_ge hi (by omega)
    have c1 : M0.1 0 4 = nI (T 0 0) := by rw [e4 4 (by decide)]; exact hT.1
    have c3 : M0.1 3 i = nI (T 2 i) := by rw [e3 3 (by decide) (by decide)]; exact (hT.2.2.2.1 i hi).2
    refine Or.inl ⟨(nI (i + 1), fz_w M0 31 i (nI (T 2 i))), ⟨rfl, e2, fun d x y => ?_, fun j x => ?_, ?_, fun h hh => ?_⟩, fun kk => ?_⟩
    · show (fz_w _ _ _ _).1 d = _
      rw [w_ne y]; exact e3 d x y
    · show (fz_w _ _ _ _).1 0 j = _
      rw [w_ne (by decide)]; exact e4 j x
    · show (fz_w _ _ _ _).1 0 42 = _
      rw [w_ne (by decide)]; exact e5
    · show (fz_w _ _ _ _).1 31 h = _
      by_cases c : h = i
      · subst c; rw [w_at]
      · rw [w_nj c]; exact e6 h (by omega)
    · show f_X9_goHour_9_s kk (nI lv) 0 (nI i) M0 = _
      simp only [f_X9_goHour_9_s, fz_f_e, c1, hlt, fz_gd_t hin, fz_g_nI h31, c3, fz_s_nI h31, fz_bd_e, nI_1, ↓reduceIte]
  · rintro ⟨x, M0⟩ ⟨rfl, e2, e3, e4, e5, e6⟩
    dsimp only at e2 e3 e4 e5 e6
    have c1 : M0.1 0 4 = nI (T 0 0) := by rw [e4 4 (by decide)]; exact hT.1
    obtain ⟨M', q1, q2, q3, q5, q4⟩ := mHr2_e (X := X) (z := hBeg A) (M := M0) hl (mT_fr hT (e4 4 (by decide)) (e4 5 (by decide)) (e4 6 (by decide)) fun c x y z => e3 c (by omega) (by omega)) hw ⟨fun p hp => by rw [e3 29 (by decide) (by decide), e3 30 (by decide) (by decide)]; exact h p hp, fun q hq => e6 q hq, e5⟩ (hBeg_w hA) (fun s hs => by rw [e3 7 (by decide) (by decide)]; exact hX s hs)
    refine ⟨M', ⟨q2.trans e2, fun d x y w v => (q3 d x y w v).trans (e3 d x v), fun j x => (q5 j x).trans (e4 j x), q4⟩, fun kk => ?_⟩
    show f_X9_goHour_9_s kk (nI lv) 0 (nI (T 0 0)) M0 = _
    simp only [f_X9_goHour_9_s, fz_f_e, c1, show nI (T 0 0) ≤ nI (T 0 0) from nI_le (Nat.le_refl _) (by omega), ↓reduceIte]
    exact q1
