theorem w_o {M : fz_M} {c i : Nat} {v : Int32} {d j : Nat} (h : ¬ (d = c ∧ j = i)) : (fz_w M c i v).1 d j = M.1 d j := by rw [fz_w_1, if_neg h]
theorem w_e {M : fz_M} {c i : Nat} {v : Int32} {d j : Nat} (h : d = c) (k : j = i) : (fz_w M c i v).1 d j = v := by subst h; subst k; exact w_at
theorem tpt_e {k c1 c2 : Nat} (M : fz_M) (h1 : c1 ≠ k + 1 ∧ c1 ≠ k + 2) (h2 : c2 ≠ k + 1 ∧ c2 ≠ k + 2) : ∃ M', f_X6_takePlacesAndTies k c1 c2 M = some M' ∧ M'.2 = M.2 ∧ (∀ d, d ≠ k + 1 → d ≠ k + 2 → M'.1 d = M.1 d) ∧ ∀ j, j < 6 → M'.1 (k + 1) j = M.1 c1 j ∧ M'.1 (k + 2) j = M.1 c2 j := by
  unfold f_X6_takePlacesAndTies f_X6_takePlacesAndTies_2
  refine lp_gen (fun i (s : Int32 × fz_M) => s.1 = nI i ∧ s.2.2 = M.2 ∧ (∀ d, d ≠ k + 1 → d ≠ k + 2 → s.2.1 d = M.1 d) ∧ ∀ j, j < i → s.2.1 (k + 1) j = M.1 c1 j ∧ s.2.1 (k + 2) j = M.1 c2 j) 6 ?_ ?_ (by decide) ⟨rfl, rfl, fun _ _ _ => rfl, fun j hj => absurd hj (Nat.not_lt_zero j)⟩
  · rintro i ⟨x, M0⟩ hi ⟨rfl, e2, e3, e4⟩
    dsimp only at e2 e3 e4
    have hin : fz_in (nI i) 6 = true := fz_in_nI hi (by decide)
    have h31 : i < 2 ^ 31 := by omega
    have hlt : ¬ (6 : Int32) ≤ nI i := by rw [n_6]; exact nI_ge hi (by decide)
    refine Or.inl ⟨(nI (i + 1), fz_w (fz_w M0 (k + 1) i (M0.1 c1 i)) (k + 2) i ((fz_w M0 (k + 1) i (M0.1 c1 i)).1 c2 i)), ⟨rfl, e2, fun d a b => ?_, fun j hj => ?_⟩, fun kk => ?_⟩
    · show (fz_w _ _ _ _).1 d = _
      rw [w_ne b, w_ne a]; exact e3 d a b
    · show (fz_w _ _ _ _).1 _ j = _ ∧ (fz_w _ _ _ _).1 _ j = _
      by_cases hji : j = i
      · subst hji
        rw [w_at, w_o (by omega), w_at, w_o (by omega), e3 c1 h1.1 h1.2, e3 c2 h2.1 h2.2]
        exact ⟨rfl, rfl⟩
      · simp only [w_nj hji]
        exact e4 j (by omega)
    · show f_X6_takePlacesAndTies_2_s k c1 c2 kk (nI i) M0 = _
      simp only [f_X6_takePlacesAndTies_2_s, hlt, fz_gd_t hin, fz_bd_e, fz_g_nI h31, fz_s_nI h31, nI_1, ↓reduceIte]
  · rintro ⟨x, M0⟩ ⟨rfl, e2, e3, e4⟩
    refine ⟨M0, ⟨e2, e3, e4⟩, fun kk => ?_⟩
    show f_X6_takePlacesAndTies_2_s k c1 c2 kk (nI 6) M0 = _
    simp only [f_X6_takePlacesAndTies_2_s, show (6 : Int32) ≤ nI 6 from by decide, ↓reduceIte]
theorem rows_e {k k0 : Nat} (hd : k + 13 ≤ k0 ∨ k0 + 13 ≤ k) (p : Nat) (hp : p < 6) (M : fz_M) : ∃ M', (∀ ag22 : (Int32 × fz_M) → Option fz_M, f_X6_takeAllButShut_54 k k0 ag22 (nI p) 0 M = ag22 (nI (p + 1), M')) ∧ M'.2 = M.2 ∧ (∀ d, d ≠ k + 6 + p → M'.1 d = M.1 d) ∧ ∀ j, j < 8 → M'.1 (k + 6 + p) j = M.1 (k0 + 6 + p) j := by
  unfold f_X6_takeAllButShut_54
  have hp6 : fz_in (nI p) 6 = true := fz_in_nI hp (by decide)
  have hp31 : p < 2 ^ 31 := by omega
  refine lp_all (F := fun ag22 ag z => f_X6_takeAllButShut_54_s k k0 ag22 ag (nI p) z.1 z.2) (K := fun ag22 M' => ag22 (nI (p + 1), M')) (fun i (s : Int32 × fz_M) => s.1 = nI i ∧ s.2.2 = M.2 ∧ (∀ d, d ≠ k + 6 + p → s.2.1 d = M.1 d) ∧ ∀ j, j < i → s.2.1 (k + 6 + p) j = M.1 (k0 + 6 + p) j) 8 ?_ ?_ (by decide) ⟨rfl, rfl, fun _ _ => rfl, fun j hj => absurd hj (Nat.not_lt_zero j)⟩
  · rintro i ⟨x, M0⟩ hi ⟨rfl, e2, e3, e4⟩
    dsimp only at e2 e3 e4
    have hin : fz_in (nI i) 8 = true := fz_in_nI hi (by decide)
    have h31 : i < 2 ^ 31 := by omega
    have hlt : ¬ (8 : Int32) ≤ nI i := by rw [n_8]; exact nI_ge hi (by decide)
    refine Or.inl ⟨(nI (i + 1), fz_w M0 (k + 6 + p) i (M0.1 (k0 + 6 + p) i)), ⟨rfl, e2, fun d a => ?_, fun j hj => ?_⟩, fun ag22 kk => ?_⟩
    · show (fz_w _ _ _ _).1 d = _
      rw [w_ne a]; exact e3 d a
    · show (fz_w _ _ _ _).1 _ j = _
      by_cases hji : j = i
      · subst hji
        rw [w_at, e3 _ (by omega)]
      · rw [w_nj hji]; exact e4 j (by omega)
    · show f_X6_takeAllButShut_54_s k k0 ag22 kk (nI p) (nI i) M0 = _
      simp only [f_X6_takeAllButShut_54_s, hlt, fz_gd_t hin, fz_gd_t hp6, fz_bd_e, fz_g_nI h31, fz_s_nI h31, nI_1, nI_clamp hp31, Nat.one_mul, ↓reduceIte]
  · rintro ⟨x, M0⟩ ⟨rfl, e2, e3, e4⟩
    refine ⟨M0, ⟨e2, e3, e4⟩, fun ag22 kk => ?_⟩
    show f_X6_takeAllButShut_54_s k k0 ag22 kk (nI p) (nI 8) M0 = _
    simp only [f_X6_takeAllButShut_54_s, show (8 : Int32) ≤ nI 8 from by decide, nI_1, ↓reduceIte]
theorem tabs_e {k k0 : Nat} (hd : k + 13 ≤ k0 ∨ k0 + 13 ≤ k) (M : fz_M) : ∃ M', f_X6_takeAllButShut k k0 M = some M' ∧ M'.2 = M.2 ∧ (∀ d, (d < k ∨ k + 12 ≤ d) → M'.1 d = M.1 d) ∧ M'.1 k 0 = M.1 k0 0 ∧ ∀ p, p < 6 → M'.1 (k + 1) p = M.1 (k0 + 1) p ∧ M'.1 (k + 2) p = M.1 (k0 + 2) p ∧ M'.1 (k + 3) p = M.1 (k0 + 3) p ∧ M'.1 (k + 4) p = M.1 (k0 + 4) p ∧ ∀ j, j < 8 → M'.1 (k + 6 + p) j = M.1 (k0 + 6 + p) j := by
  unfold f_X6_takeAllButShut
  rw [fz_sf_e, fz_f_e, fz_bd_e]
  obtain ⟨M1, q1, q2, q3, q4⟩ := tpt_e (k := k) (c1 := k0 + 1) (c2 := k0 + 2) (fz_w M k 0 (M.1 k0 0)) (by omega) (by omega)
  rw [q1, fz_b1_e]
  unfold f_X6_takeAllButShut_22
  refine lp_gen (fun i (s : Int32 × fz_M) => s.1 = nI i ∧ s.2.2 = M.2 ∧ (∀ d, (d < k + 3 ∨ k + 12 ≤ d) → s.2.1 d = M1.1 d) ∧ (∀ p, i ≤ p → s.2.1 (k + 6 + p) = M1.1 (k + 6 + p)) ∧ ∀ p, p < i → s.2.1 (k + 3) p = M.1 (k0 + 3) p ∧ s.2.1 (k + 4) p = M.1 (k0 + 4) p ∧ ∀ j, j < 8 → s.2.1 (k + 6 + p) j = M.1 (k0 + 6 + p) j) 6 ?_ ?_ (by decide) ⟨rfl, q2, fun _ _ => rfl, fun _ _ => rfl, fun j hj => absurd hj (Nat.not_lt_zero j)⟩
  · rintro i ⟨x, M0⟩ hi ⟨rfl, e2, e3, e4, e5⟩
    dsimp only at e2 e3 e4 e5
    have hin : fz_in (nI i) 6 = true := fz_in_nI hi (by decide)
    have h31 : i < 2 ^ 31 := by omega
    have hlt : ¬ (6 : Int32) ≤ nI i := by rw [n_6]; exact nI_ge hi (by decide)
    have f0 : ∀ d j, (d < k ∨ k + 12 ≤ d) → M0.1 d j = M.1 d j := fun d j h => by
      rw [e3 d (by omega), q3 d (by omega) (by omega), w_o (by omega)]
    -- the row's own two, then its owners
    obtain ⟨M2, hM2⟩ : ∃ M2, M2 = fz_w (fz_w M0 (k + 3) i (M0.1 (k0 + 3) i)) (k + 4) i ((fz_w M0 (k + 3) i (M0.1 (k0 + 3) i)).1 (k0 + 4) i) := ⟨_, rfl⟩
    have g2 : M2.2 = M.2 := by rw [hM2]; exact e2
    have gd : ∀ d, d ≠ k + 3 → d ≠ k + 4 → M2.1 d = M0.1 d := fun d a b => by rw [hM2, w_ne b, w_ne a]
    have g3 : ∀ j, j ≠ i → M2.1 (k + 3) j = M0.1 (k + 3) j ∧ M2.1 (k + 4) j = M0.1 (k + 4) j := fun j hj => by rw [hM2]; simp only [w_nj hj]; exact ⟨trivial, trivial⟩
    have g4 : M2.1 (k + 3) i = M.1 (k0 + 3) i ∧ M2.1 (k + 4) i = M.1 (k0 + 4) i := by
      rw [hM2, w_at, w_o (by omega), w_at, w_o (by omega), f0 _ _ (by omega), f0 _ _ (by omega)]
      exact ⟨rfl, rfl⟩
    obtain ⟨M3, b1, b2, b3, b4⟩ := rows_e hd i hi M2
    refine Or.inl ⟨(nI (i + 1), M3), ⟨rfl, b2.trans g2, fun d h => ?_, fun p hp => ?_, fun p hp => ?_⟩, fun kk => ?_⟩
    · show M3.1 d = M1.1 d
      rw [b3 d (by omega), gd d (by omega) (by omega)]; exact e3 d h
    · show M3.1 (k + 6 + p) = _
      rw [b3 _ (by omega), gd _ (by omega) (by omega)]; exact e4 p (by omega)
    · show M3.1 (k + 3) p = _ ∧ M3.1 (k + 4) p = _ ∧ ∀ j, j < 8 → M3.1 (k + 6 + p) j = _
      rw [b3 (k + 3) (by omega), b3 (k + 4) (by omega)]
      by_cases hpi : p = i
      · subst hpi
        refine ⟨g4.1, g4.2, fun j hj => ?_⟩
        rw [b4 j hj, gd _ (by omega) (by omega), f0 _ _ (by omega)]
      · obtain ⟨c1, c2, c3⟩ := e5 p (by omega)
        refine ⟨by rw [(g3 p hpi).1]; exact c1, by rw [(g3 p hpi).2]; exact c2, fun j hj => ?_⟩
        rw [b3 _ (by omega), gd _ (by omega) (by omega)]
        exact c3 j hj
    · show f_X6_takeAllButShut_22_s k k0 kk (nI i) M0 = _
      simp only [f_X6_takeAllButShut_22_s, hlt, fz_gd_t hin, fz_bd_e, fz_g_nI h31, fz_s_nI h31, ↓reduceIte]
      rw [← hM2]
      exact b1 kk
  · rintro ⟨x, M0⟩ ⟨rfl, e2, e3, e4, e5⟩
    dsimp only at e2 e3 e4 e5
    refine ⟨M0, ⟨e2, fun d h => ?_, ?_, fun p hp => ?_⟩, fun kk => ?_⟩
    · rw [e3 d (by omega), q3 d (by omega) (by omega), w_ne (by omega)]
    · rw [e3 k (by omega), q3 k (by omega) (by omega), w_at]
    · rw [e3 (k + 1) (by omega), e3 (k + 2) (by omega), (q4 p hp).1, (q4 p hp).2, w_o (by omega), w_o (by omega)]
      exact ⟨rfl, rfl, e5 p hp⟩
    · show f_X6_takeAllButShut_22_s k k0 kk (nI 6) M0 = _
      simp only [f_X6_takeAllButShut_22_s, show (6 : Int32) ≤ nI 6 from by decide, ↓reduceIte]
