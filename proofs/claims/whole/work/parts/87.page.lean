theorem pg_le (c : Nat) : fz_pg c ≤ 876 := by unfold fz_pg; split <;> decide
theorem lay2_e {c o : Nat} (hc : c = 25 ∨ c = 26) (ho : o + 73 ≤ fz_pg c) (M : fz_M) : ∃ M', f_X9_layPage_69 c (nI o) 0 M = some M' ∧ M'.2 = M.2 ∧ (∀ d, d ≠ c → M'.1 d = M.1 d) ∧ (∀ j, (j < o + 24 ∨ o + 73 ≤ j) → M'.1 c j = M.1 c j) ∧ (∀ i, i < 48 → M'.1 c (o + 24 + i) = M.1 13 i) ∧ M'.1 c (o + 72) = M.1 0 21 := by
  have hpg := pg_le c
  unfold f_X9_layPage_69
  refine lp_gen (fun i (s : Int32 × fz_M) => s.1 = nI i ∧ s.2.2 = M.2 ∧ (∀ d, d ≠ c → s.2.1 d = M.1 d) ∧ (∀ j, (j < o + 24 ∨ o + 24 + i ≤ j) → s.2.1 c j = M.1 c j) ∧ ∀ j, j < i → s.2.1 c (o + 24 + j) = M.1 13 j) 48 ?_ ?_ (by decide) ⟨rfl, rfl, fun _ _ => rfl, fun _ _ => rfl, fun j hj => absurd hj (Nat.not_lt_zero j)⟩
  · rintro i ⟨x, M0⟩ hi ⟨rfl, e2, e3, e4, e5⟩
    dsimp only at e2 e3 e4 e5
    have hin : fz_in (nI i) 48 = true := fz_in_nI hi (by decide)
    have h31 : i < 2 ^ 31 := by omega
    have hlt : ¬ (48 : Int32) ≤ nI i := show ¬ nI 48 ≤ nI i from nI_ge hi (by decide)
    have ex : nI o + 24 + nI i = nI (o + 24 + i) := by rw [show (24 : Int32) = nI 24 from rfl, nI_add, nI_add]
    have hin2 : fz_in (nI (o + 24 + i)) (fz_pg c) = true := fz_in_nI (by omega) (by omega)
    have h312 : o + 24 + i < 2 ^ 31 := by omega
    refine Or.inl ⟨(nI (i + 1), fz_w M0 c (o + 24 + i) (M0.1 13 i)), ⟨rfl, e2, fun d a => ?_, fun j hj => ?_, fun j hj => ?_⟩, fun kk => ?_⟩
    · show (fz_w _ _ _ _).1 d = _
      rw [w_ne a]; exact e3 d a
    · show (fz_w _ _ _ _).1 c j = _
      rw [w_nj (by omega)]; exact e4 j (by omega)
    · show (fz_w _ _ _ _).1 c _ = _
      by_cases hji : j = i
      · subst hji; rw [w_at, e3 13 (by omega)]
      · rw [w_nj (by omega)]; exact e5 j (by omega)
    · show f_X9_layPage_69_s c kk (nI o) (nI i) M0 = _
      simp only [f_X9_layPage_69_s, hlt, ex, fz_gd_t hin, fz_gd_t hin2, fz_bd_e, fz_g_nI h31, fz_s_nI h312, nI_1, ↓reduceIte]
  · rintro ⟨x, M0⟩ ⟨rfl, e2, e3, e4, e5⟩
    dsimp only at e2 e3 e4 e5
    have ex : nI o + 72 = nI (o + 72) := by rw [show (72 : Int32) = nI 72 from rfl, nI_add]
    have hin2 : fz_in (nI (o + 72)) (fz_pg c) = true := fz_in_nI (by omega) (by omega)
    have h312 : o + 72 < 2 ^ 31 := by omega
    refine ⟨fz_w M0 c (o + 72) (M0.1 0 21), ⟨e2, fun d a => by rw [w_ne a]; exact e3 d a, fun j hj => by rw [w_nj (by omega)]; exact e4 j (by omega), fun j hj => by rw [w_nj (by omega)]; exact e5 j hj, by rw [w_at, e3 0 (by omega)]⟩, fun kk => ?_⟩
    show f_X9_layPage_69_s c kk (nI o) (nI 48) M0 = _
    simp only [f_X9_layPage_69_s, show (48 : Int32) ≤ nI 48 from by decide, ex, fz_gd_t hin2, fz_bd_e, fz_f_e, fz_s_nI h312, ↓reduceIte]
theorem lay_e {c o : Nat} (hc : c = 25 ∨ c = 26) (ho : o + 73 ≤ fz_pg c) (M : fz_M) : ∃ M', f_X9_layPage c (nI o) M = some M' ∧ M'.2 = M.2 ∧ (∀ d, d ≠ c → M'.1 d = M.1 d) ∧ (∀ j, (j < o ∨ o + 73 ≤ j) → M'.1 c j = M.1 c j) ∧ (∀ p, p < 6 → M'.1 c (o + p) = M.1 11 p ∧ M'.1 c (o + 6 + p) = M.1 12 p ∧ M'.1 c (o + 12 + p) = M.1 14 p ∧ M'.1 c (o + 18 + p) = M.1 15 p) ∧ (∀ i, i < 48 → M'.1 c (o + 24 + i) = M.1 13 i) ∧ M'.1 c (o + 72) = M.1 0 21 := by
  have hpg := pg_le c
  unfold f_X9_layPage f_X9_layPage_2
  refine lp_gen (fun i (s : Int32 × fz_M) => s.1 = nI i ∧ s.2.2 = M.2 ∧ (∀ d, d ≠ c → s.2.1 d = M.1 d) ∧ (∀ j, (j < o ∨ o + 24 ≤ j) → s.2.1 c j = M.1 c j) ∧ ∀ p, p < i → s.2.1 c (o + p) = M.1 11 p ∧ s.2.1 c (o + 6 + p) = M.1 12 p ∧ s.2.1 c (o + 12 + p) = M.1 14 p ∧ s.2.1 c (o + 18 + p) = M.1 15 p) 6 ?_ ?_ (by decide) ⟨rfl, rfl, fun _ _ => rfl, fun _ _ => rfl, fun j hj => absurd hj (Nat.not_lt_zero j)⟩
  · rintro i ⟨x, M0⟩ hi ⟨rfl, e2, e3, e4, e5⟩
    dsimp only at e2 e3 e4 e5
    have hin : fz_in (nI i) 6 = true := fz_in_nI hi (by decide)
    have h31 : i < 2 ^ 31 := by omega
    have hlt : ¬ (6 : Int32) ≤ nI i := by rw [n_6]; exact nI_ge hi (by decide)
    have x0 : nI o + nI i = nI (o + i) := nI_add _ _
    have x1 : nI o + 6 + nI i = nI (o + 6 + i) := by rw [show (6 : Int32) = nI 6 from rfl, nI_add, nI_add]
    have x2 : nI o + 12 + nI i = nI (o + 12 + i) := by rw [show (12 : Int32) = nI 12 from rfl, nI_add, nI_add]
    have x3 : nI o + 18 + nI i = nI (o + 18 + i) := by rw [show (18 : Int32) = nI 18 from rfl, nI_add, nI_add]
    have i0 : fz_in (nI (o + i)) (fz_pg c) = true := fz_in_nI (by omega) (by omega)
    have i1 : fz_in (nI (o + 6 + i)) (fz_pg c) = true := fz_in_nI (by omega) (by omega)
    have i2 : fz_in (nI (o + 12 + i)) (fz_pg c) = true := fz_in_nI (by omega) (by omega)
    have i3 : fz_in (nI (o + 18 + i)) (fz_pg c) = true := fz_in_nI (by omega) (by omega)
    have y0 : o + i < 2 ^ 31 := by omega
    have y1 : o + 6 + i < 2 ^ 31 := by omega
    have y2 : o + 12 + i < 2 ^ 31 := by omega
    have y3 : o + 18 + i < 2 ^ 31 := by omega
    have hc' : c ≠ 11 ∧ c ≠ 12 ∧ c ≠ 14 ∧ c ≠ 15 := by omega
    refine Or.inl ⟨(nI (i + 1), fz_w (fz_w (fz_w (fz_w M0 c (o + i) (M0.1 11 i)) c (o + 6 + i) (M0.1 12 i)) c (o + 12 + i) (M0.1 14 i)) c (o + 18 + i) (M0.1 15 i)), ⟨rfl, e2, fun d a => ?_, fun j hj => ?_, fun p hp => ?_⟩, fun kk => ?_⟩
    · show (fz_w _ _ _ _).1 d = _
      rw [w_ne a, w_ne a, w_ne a, w_ne a]; exact e3 d a
    · show (fz_w _ _ _ _).1 c j = _
      rw [w_nj (by omega), w_nj (by omega), w_nj (by omega), w_nj (by omega)]; exact e4 j (by omega)
    · show (fz_w _ _ _ _).1 c _ = _ ∧ (fz_w _ _ _ _).1 c _ = _ ∧ (fz_w _ _ _ _).1 c _ = _ ∧ (fz_w _ _ _ _).1 c _ = _
      by_cases hpi : p = i
      · subst hpi
        simp (disch := omega) only [w_o, w_at]
        rw [e3 11 (by omega), e3 12 (by omega), e3 14 (by omega), e3 15 (by omega)]
        exact ⟨rfl, rfl, rfl, rfl⟩
      · simp (disch := omega) only [w_o]
        exact e5 p (by omega)
    · show f_X9_layPage_2_s c kk (nI o) (nI i) M0 = _
      simp only [f_X9_layPage_2_s, hlt, x0, x1, x2, x3, fz_gd_t hin, fz_gd_t i0, fz_gd_t i1, fz_gd_t i2, fz_gd_t i3, fz_bd_e, fz_g_nI h31, fz_s_nI y0, fz_s_nI y1, fz_s_nI y2, fz_s_nI y3, nI_1, ↓reduceIte, w_ne (Ne.symm hc'.1), w_ne (Ne.symm hc'.2.1), w_ne (Ne.symm hc'.2.2.1), w_ne (Ne.symm hc'.2.2.2)]
  · rintro ⟨x, M0⟩ ⟨rfl, e2, e3, e4, e5⟩
    dsimp only at e2 e3 e4 e5
    obtain ⟨M', q1, q2, q3, q4, q5, q6⟩ := lay2_e hc ho M0
    refine ⟨M', ⟨q2.trans e2, fun d a => (q3 d a).trans (e3 d a), fun j hj => (q4 j (by omega)).trans (e4 j (by omega)), fun p hp => ?_, fun i hi => (q5 i hi).trans (by rw [e3 13 (by omega)]), q6.trans (by rw [e3 0 (by omega)])⟩, fun kk => ?_⟩
    · rw [q4 _ (by omega), q4 _ (by omega), q4 _ (by omega), q4 _ (by omega)]
      exact e5 p hp
    · show f_X9_layPage_2_s c kk (nI o) (nI 6) M0 = _
      simp only [f_X9_layPage_2_s, show (6 : Int32) ≤ nI 6 from by decide, ↓reduceIte]
      exact q1
theorem take2_e {c o : Nat} (hc : c = 25 ∨ c = 26) (ho : o + 73 ≤ fz_pg c) (M : fz_M) : ∃ M', f_X9_takePage_69 c (nI o) 0 M = some M' ∧ M'.2 = M.2 ∧ (∀ d, d ≠ 13 → d ≠ 0 → M'.1 d = M.1 d) ∧ (∀ j, j ≠ 21 → M'.1 0 j = M.1 0 j) ∧ (∀ i, i < 48 → M'.1 13 i = M.1 c (o + 24 + i)) ∧ M'.1 0 21 = M.1 c (o + 72) := by
  have hpg := pg_le c
  unfold f_X9_takePage_69
  refine lp_gen (fun i (s : Int32 × fz_M) => s.1 = nI i ∧ s.2.2 = M.2 ∧ (∀ d, d ≠ 13 → s.2.1 d = M.1 d) ∧ ∀ j, j < i → s.2.1 13 j = M.1 c (o + 24 + j)) 48 ?_ ?_ (by decide) ⟨rfl, rfl, fun _ _ => rfl, fun j hj => absurd hj (Nat.not_lt_zero j)⟩
  · rintro i ⟨x, M0⟩ hi ⟨rfl, e2, e3, e5⟩
    dsimp only at e2 e3 e5
    have hin : fz_in (nI i) 48 = true := fz_in_nI hi (by decide)
    have h31 : i < 2 ^ 31 := by omega
    have hlt : ¬ (48 : Int32) ≤ nI i := show ¬ nI 48 ≤ nI i from nI_ge hi (by decide)
    have ex : nI o + 24 + nI i = nI (o + 24 + i) := by rw [show (24 : Int32) = nI 24 from rfl, nI_add, nI_add]
    have hin2 : fz_in (nI (o + 24 + i)) (fz_pg c) = true := fz_in_nI (by omega) (by omega)
    have h312 : o + 24 + i < 2 ^ 31 := by omega
    refine Or.inl ⟨(nI (i + 1), fz_w M0 13 i (M0.1 c (o + 24 + i))), ⟨rfl, e2, fun d a => ?_, fun j hj => ?_⟩, fun kk => ?_⟩
    · show (fz_w _ _ _ _).1 d = _
      rw [w_ne a]; exact e3 d a
    · show (fz_w _ _ _ _).1 13 _ = _
      by_cases hji : j = i
      · subst hji; rw [w_at, e3 c (by omega)]
      · rw [w_nj (by omega)]; exact e5 j (by omega)
    · show f_X9_takePage_69_s c kk (nI o) (nI i) M0 = _
      simp only [f_X9_takePage_69_s, hlt, ex, fz_gd_t hin, fz_gd_t hin2, fz_bd_e, fz_g_nI h312, fz_s_nI h31, nI_1, ↓reduceIte]
  · rintro ⟨x, M0⟩ ⟨rfl, e2, e3, e5⟩
    dsimp only at e2 e3 e5
    have ex : nI o + 72 = nI (o + 72) := by rw [show (72 : Int32) = nI 72 from rfl, nI_add]
    have hin2 : fz_in (nI (o + 72)) (fz_pg c) = true := fz_in_nI (by omega) (by omega)
    have h312 : o + 72 < 2 ^ 31 := by omega
    refine ⟨fz_w M0 0 21 (M0.1 c (o + 72)), ⟨e2, fun d a b => by rw [w_ne b]; exact e3 d a, fun j hj => by rw [w_nj hj, e3 0 (by decide)], fun j hj => by rw [w_ne (by decide)]; exact e5 j hj, by rw [w_at, e3 c (by omega)]⟩, fun kk => ?_⟩
    show f_X9_takePage_69_s c kk (nI o) (nI 48) M0 = _
    simp only [f_X9_takePage_69_s, show (48 : Int32) ≤ nI 48 from by decide, ex, fz_gd_t hin2, fz_bd_e, fz_sf_e, fz_g_nI h312, ↓reduceIte]
theorem take_e {c o : Nat} (hc : c = 25 ∨ c = 26) (ho : o + 73 ≤ fz_pg c) (M : fz_M) : ∃ M', f_X9_takePage c (nI o) M = some M' ∧ M'.2 = M.2 ∧ (∀ d, d ≠ 0 → (d < 11 ∨ 15 < d) → M'.1 d = M.1 d) ∧ (∀ j, j ≠ 21 → M'.1 0 j = M.1 0 j) ∧ (∀ p, p < 6 → M'.1 11 p = M.1 c (o + p) ∧ M'.1 12 p = M.1 c (o + 6 + p) ∧ M'.1 14 p = M.1 c (o + 12 + p) ∧ M'.1 15 p = M.1 c (o + 18 + p)) ∧ (∀ i, i < 48 → M'.1 13 i = M.1 c (o + 24 + i)) ∧ M'.1 0 21 = M.1 c (o + 72) := by
  have hpg := pg_le c
  unfold f_X9_takePage f_X9_takePage_2
  refine lp_gen (fun i (s : Int32 × fz_M) => s.1 = nI i ∧ s.2.2 = M.2 ∧ (∀ d, (d < 11 ∨ 15 < d ∨ d = 13) → s.2.1 d = M.1 d) ∧ ∀ p, p < i → s.2.1 11 p = M.1 c (o + p) ∧ s.2.1 12 p = M.1 c (o + 6 + p) ∧ s.2.1 14 p = M.1 c (o + 12 + p) ∧ s.2.1 15 p = M.1 c (o + 18 + p)) 6 ?_ ?_ (by decide) ⟨rfl, rfl, fun _ _ => rfl, fun j hj => absurd hj (Nat.not_lt_zero j)⟩
  · rintro i ⟨x, M0⟩ hi ⟨rfl, e2, e3, e5⟩
    dsimp only at e2 e3 e5
    have hin : fz_in (nI i) 6 = true := fz_in_nI hi (by decide)
    have h31 : i < 2 ^ 31 := by omega
    have hlt : ¬ (6 : Int32) ≤ nI i := by rw [n_6]; exact nI_ge hi (by decide)
    have x0 : nI o + nI i = nI (o + i) := nI_add _ _
    have x1 : nI o + 6 + nI i = nI (o + 6 + i) := by rw [show (6 : Int32) = nI 6 from rfl, nI_add, nI_add]
    have x2 : nI o + 12 + nI i = nI (o + 12 + i) := by rw [show (12 : Int32) = nI 12 from rfl, nI_add, nI_add]
    have x3 : nI o + 18 + nI i = nI (o + 18 + i) := by rw [show (18 : Int32) = nI 18 from rfl, nI_add, nI_add]
    have i0 : fz_in (nI (o + i)) (fz_pg c) = true := fz_in_nI (by omega) (by omega)
    have i1 : fz_in (nI (o + 6 + i)) (fz_pg c) = true := fz_in_nI (by omega) (by omega)
    have i2 : fz_in (nI (o + 12 + i)) (fz_pg c) = true := fz_in_nI (by omega) (by omega)
    have i3 : fz_in (nI (o + 18 + i)) (fz_pg c) = true := fz_in_nI (by omega) (by omega)
    have y0 : o + i < 2 ^ 31 := by omega
    have y1 : o + 6 + i < 2 ^ 31 := by omega
    have y2 : o + 12 + i < 2 ^ 31 := by omega
    have y3 : o + 18 + i < 2 ^ 31 := by omega
    have hc' : c ≠ 11 ∧ c ≠ 12 ∧ c ≠ 14 ∧ c ≠ 15 := by omega
    refine Or.inl ⟨(nI (i + 1), fz_w (fz_w (fz_w (fz_w M0 11 i (M0.1 c (o + i))) 12 i (M0.1 c (o + 6 + i))) 14 i (M0.1 c (o + 12 + i))) 15 i (M0.1 c (o + 18 + i))), ⟨rfl, e2, fun d a => ?_, fun p hp => ?_⟩, fun kk => ?_⟩
    · show (fz_w _ _ _ _).1 d = _
      rw [w_ne (by omega), w_ne (by omega), w_ne (by omega), w_ne (by omega)]; exact e3 d a
    · show (fz_w _ _ _ _).1 _ _ = _ ∧ (fz_w _ _ _ _).1 _ _ = _ ∧ (fz_w _ _ _ _).1 _ _ = _ ∧ (fz_w _ _ _ _).1 _ _ = _
      by_cases hpi : p = i
      · subst hpi
        simp (disch := omega) only [w_o, w_at]
        rw [e3 c (by omega)]
        exact ⟨rfl, rfl, rfl, rfl⟩
      · simp (disch := omega) only [w_o]
        exact e5 p (by omega)
    · show f_X9_takePage_2_s c kk (nI o) (nI i) M0 = _
      simp only [f_X9_takePage_2_s, hlt, x0, x1, x2, x3, fz_gd_t hin, fz_gd_t i0, fz_gd_t i1, fz_gd_t i2, fz_gd_t i3, fz_bd_e, fz_g_nI y0, fz_g_nI y1, fz_g_nI y2, fz_g_nI y3, fz_s_nI h31, nI_1, ↓reduceIte, w_ne hc'.1, w_ne hc'.2.1, w_ne hc'.2.2.1, w_ne hc'.2.2.2]
  · rintro ⟨x, M0⟩ ⟨rfl, e2, e3, e5⟩
    dsimp only at e2 e3 e5
    obtain ⟨M', q1, q2, q3, q4, q5, q6⟩ := take2_e hc ho M0
    refine ⟨M', ⟨q2.trans e2, fun d a b => (q3 d (by omega) a).trans (e3 d (by omega)), fun j hj => (q4 j hj).trans (by rw [e3 0 (by omega)]), fun p hp => ?_, fun i hi => (q5 i hi).trans (by rw [e3 c (by omega)]), q6.trans (by rw [e3 c (by omega)])⟩, fun kk => ?_⟩
    · rw [q3 11 (by decide) (by decide), q3 12 (by decide) (by decide), q3 14 (by decide) (by decide), q3 15 (by decide) (by decide)]
      exact e5 p hp
    · show f_X9_takePage_2_s c kk (nI o) (nI 6) M0 = _
      simp only [f_X9_takePage_2_s, show (6 : Int32) ≤ nI 6 from by decide, ↓reduceIte]
      exact q1
