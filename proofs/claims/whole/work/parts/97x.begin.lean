/-! town: the class begins its stand -/
def bgS (R : fz_A2) : fz_A2 := fun d p => match d with
  | 0 => R 6 p
  | 1 => R 9 p
  | 2 => R 6 p
  | 3 => 1
  | n + 4 => R 6 n
theorem bgS_4 (R : fz_A2) (p i : Nat) : bgS R (4 + p) i = R 6 p := by rw [Nat.add_comm]; rfl
theorem bgn_e {P : Nat} {R : fz_A2} {M : fz_M} (hP : P = 20 ∨ P = 30) (h : cR P R M) (hw : rdW R) : ∃ M', f_X6_begin 40 P M = some M' ∧ M'.2 = M.2 ∧ (∀ c, (c < 40 ∨ 52 < c) → M'.1 c = M.1 c) ∧ cS 40 (R 0 2) (bgS R) 0 M' ∧ ∀ i, i < 10 → M'.1 52 i = 0 := by
  have hn := hw.1.2.2.1
  obtain ⟨M1, a1, a2⟩ : ∃ a, fz_lp (fun ag (z : Int32 × fz_M) => f_X6_begin_7_s 40 P ag z.1 z.2) fz_fuel (nI 0, fz_w M 40 0 0) = f_X6_begin_72 40 P 0 a ∧ (a.2 = M.2 ∧ (∀ c, (c < 40 ∨ 51 < c) → a.1 c = M.1 c) ∧ cS 40 (R 0 2) (bgS R) 0 a) := by
    refine lp_gen (fun i (s : Int32 × fz_M) => s.1 = nI i ∧ s.2.2 = M.2 ∧ (∀ c, (c < 40 ∨ 51 < c) → s.2.1 c = M.1 c) ∧ s.2.1 40 0 = 0 ∧ ∀ p, p < i → s.2.1 41 p = nI (R 6 p) ∧ s.2.1 42 p = nI (R 9 p) ∧ s.2.1 43 p = nI (R 6 p) ∧ s.2.1 44 p = nI 1 ∧ s.2.1 (46 + p) 0 = nI (R 6 p)) (R 0 2) ?_ ?_ (by unfold fz_fuel; omega) ⟨rfl, rfl, fun c hc => w_ne (by omega), w_at, fun p hp => absurd hp (Nat.not_lt_zero p)⟩
    · rintro i ⟨x, M0⟩ hi ⟨e0, e2, e3, e4, e5⟩
      dsimp only at e0 e2 e3 e4 e5
      subst e0
      have h31 : i < 2 ^ 31 := by omega
      have hin : fz_in (nI i) 6 = true := fz_in_nI (by omega) (by decide)
      have hlt : ¬ nI (R 0 2) ≤ nI i := nI_ge hi (by omega)
      have f0 : M0.1 P 2 = nI (R 0 2) := by rw [e3 P (by omega)]; exact h.1.2.2.1
      have f6 : M0.1 (P + 6) i = nI (R 6 i) := by rw [e3 (P + 6) (by omega)]; exact (h.1.2.2.2.2.2 i hi).1
      have f9 : M0.1 (P + 9) i = nI (R 9 i) := by rw [e3 (P + 9) (by omega)]; exact h.2 i hi
      have y1 : P + 9 ≠ 41 := by omega
      refine Or.inl ⟨(nI (i + 1), fz_w (fz_w (fz_w (fz_w (fz_w M0 41 i (nI (R 6 i))) 42 i (nI (R 9 i))) 43 i (nI (R 6 i))) (46 + i) 0 (nI (R 6 i))) 44 i (nI 1)), ⟨rfl, e2, fun c hc => ?_, ?_, fun p hp => ?_⟩, fun kk => ?_⟩
      · dsimp only
        rw [w_ne (by omega), w_ne (by omega), w_ne (by omega), w_ne (by omega), w_ne (by omega)]
        exact e3 c hc
      · dsimp only
        rw [w_ne (by omega), w_ne (by omega), w_ne (by omega), w_ne (by omega), w_ne (by omega)]
        exact e4
      · dsimp only
        by_cases d : p = i
        · subst d
          simp (disch := omega) only [w_ne, w_at]
          exact ⟨trivial, trivial, trivial, trivial, trivial⟩
        · obtain ⟨g1, g2, g3, g4, g5⟩ := e5 p (by omega)
          simp (disch := omega) only [w_o]
          exact ⟨g1, g2, g3, g4, g5⟩
      · show f_X6_begin_7_s 40 P kk (nI i) M0 = _
        simp only [f_X6_begin_7_s, fz_f_e, f0, hlt, fz_gd_t hin, fz_gd_t (show fz_in 0 8 = true from by decide), fz_g_nI h31, f6, fz_bd_e, fz_s_nI h31, w_ne y1, f9, nI_clamp h31, Nat.one_mul, nI_1, ↓reduceIte]
        rfl
    · rintro ⟨x, M0⟩ ⟨e0, e2, e3, e4, e5⟩
      dsimp only at e0 e2 e3 e4 e5
      subst e0
      have f0 : M0.1 P 2 = nI (R 0 2) := by rw [e3 P (by omega)]; exact h.1.2.2.1
      refine ⟨M0, ⟨e2, e3, e4, fun p hp => ?_⟩, fun kk => ?_⟩
      · obtain ⟨g1, g2, g3, g4, g5⟩ := e5 p hp
        refine ⟨g1, g2, g3, g4, fun j hj => ?_⟩
        have hj1 : j < 1 := hj
        have : j = 0 := by omega
        subst this
        rw [bgS_4]; exact g5
      · show f_X6_begin_7_s 40 P kk (nI (R 0 2)) M0 = _
        simp only [f_X6_begin_7_s, fz_f_e, f0, show nI (R 0 2) ≤ nI (R 0 2) from nI_le (Nat.le_refl _) (by omega), ↓reduceIte]
  obtain ⟨M2, b1, b2⟩ : ∃ a, fz_lp (fun ag (z : Int32 × fz_M) => f_X6_begin_72_s 40 P ag z.1 z.2) fz_fuel (nI 0, M1) = some a ∧ (a.2 = M1.2 ∧ (∀ c, c ≠ 52 → a.1 c = M1.1 c) ∧ ∀ i, i < 10 → a.1 52 i = 0) := by
    refine lp_gen (K := fun a => some a) (fun i (s : Int32 × fz_M) => s.1 = nI i ∧ s.2.2 = M1.2 ∧ (∀ c, c ≠ 52 → s.2.1 c = M1.1 c) ∧ ∀ j, j < i → s.2.1 52 j = 0) 10 ?_ ?_ (by unfold fz_fuel; omega) ⟨rfl, rfl, fun c hc => rfl, fun p hp => absurd hp (Nat.not_lt_zero p)⟩
    · rintro i ⟨x, M0⟩ hi ⟨e0, e2, e3, e4⟩
      dsimp only at e0 e2 e3 e4
      subst e0
      have h31 : i < 2 ^ 31 := by omega
      have hin : fz_in (nI i) 10 = true := fz_in_nI (by omega) (by decide)
      have hlt : ¬ (10 : Int32) ≤ nI i := nI_ge (b := 10) hi (by decide)
      refine Or.inl ⟨(nI (i + 1), fz_w M0 52 i 0), ⟨rfl, e2, fun c hc => ?_, fun p hp => ?_⟩, fun kk => ?_⟩
      · dsimp only
        rw [w_ne hc]; exact e3 c hc
      · dsimp only
        by_cases d : p = i
        · subst d; exact w_at
        · rw [w_nj d]; exact e4 p (by omega)
      · show f_X6_begin_72_s 40 P kk (nI i) M0 = _
        simp only [f_X6_begin_72_s, hlt, fz_gd_t hin, fz_s_nI h31, fz_bd_e, nI_1, ↓reduceIte]
        rfl
    · rintro ⟨x, M0⟩ ⟨e0, e2, e3, e4⟩
      dsimp only at e0 e2 e3 e4
      subst e0
      exact ⟨M0, ⟨e2, e3, e4⟩, fun kk => by
        show f_X6_begin_72_s 40 P kk (nI 10) M0 = _
        simp only [f_X6_begin_72_s, show (10 : Int32) ≤ nI 10 from nI_le (a := 10) (Nat.le_refl _) (by decide), ↓reduceIte]⟩
  have q1 : f_X6_begin 40 P M = fz_lp (fun ag (z : Int32 × fz_M) => f_X6_begin_7_s 40 P ag z.1 z.2) fz_fuel (nI 0, fz_w M 40 0 0) := by
    unfold f_X6_begin
    rw [fz_sf_e, fz_bd_e]
    unfold f_X6_begin_7
    rfl
  have q2 : f_X6_begin_72 40 P 0 M1 = fz_lp (fun ag (z : Int32 × fz_M) => f_X6_begin_72_s 40 P ag z.1 z.2) fz_fuel (nI 0, M1) := by
    unfold f_X6_begin_72
    rfl
  refine ⟨M2, q1.trans (a1.trans (q2.trans b1)), b2.1.trans a2.1, fun c hc => by rw [b2.2.1 c (by omega)]; exact a2.2.1 c (by omega), cS_fr a2.2.2 hn (fun o ho => b2.2.1 _ (by omega)), b2.2.2⟩
theorem isK_e {P : Nat} {M : fz_M} (hd : M.2.2 0 9 = P) (hP : P = 20 ∨ P = 30) : ∃ M', f_X8_town_61 0 M = some (M.1 P 0, M') ∧ M'.2 = M.2 ∧ (∀ c, c ≠ 19 → M'.1 c = M.1 c) ∧ M'.1 19 0 = 0 ∧ M'.1 19 1 = 0 := by
  have hi : fz_isP P = true := by rcases hP with rfl | rfl <;> rfl
  have y : P ≠ 19 := by omega
  refine ⟨fz_w (fz_w M 19 0 0) 19 1 0, ?_, rfl, fun c hc => by rw [w_ne hc, w_ne hc], by rw [w_nj (by decide), w_at], w_at⟩
  have hd2 : (fz_w (fz_w M 19 0 0) 19 1 0).2.2 0 9 = P := hd
  have hp0 : (fz_w (fz_w M 19 0 0) 19 1 0).1 P 0 = M.1 P 0 := by rw [w_ne y, w_ne y]
  have s0 : ∀ kk, (fun ag (z : Int32 × fz_M) => f_X8_town_61_s ag z.1 z.2) kk (0, M) = kk (1, fz_w M 19 0 0) := fun kk => by
    show f_X8_town_61_s kk 0 M = _
    unfold f_X8_town_61_s
    rw [if_neg (by decide), fz_gd_t (by decide), show (0 : Int32) + 1 = 1 from by decide]; rfl
  have s1 : ∀ kk, (fun ag (z : Int32 × fz_M) => f_X8_town_61_s ag z.1 z.2) kk (1, fz_w M 19 0 0) = kk (2, fz_w (fz_w M 19 0 0) 19 1 0) := fun kk => by
    show f_X8_town_61_s kk 1 (fz_w M 19 0 0) = _
    unfold f_X8_town_61_s
    rw [if_neg (by decide), fz_gd_t (by decide), show (1 : Int32) + 1 = 2 from by decide]; rfl
  have s2 : ∀ kk, (fun ag (z : Int32 × fz_M) => f_X8_town_61_s ag z.1 z.2) kk (2, fz_w (fz_w M 19 0 0) 19 1 0) = some (M.1 P 0, fz_w (fz_w M 19 0 0) 19 1 0) := fun kk => by
    show f_X8_town_61_s kk 2 _ = _
    unfold f_X8_town_61_s
    rw [if_pos (by decide), fz_d_e, hd2, fz_bd_e, fz_gd_t hi, fz_f_e, hp0]
  show fz_lp _ (4997 + 1 + 1 + 1) (0, M) = _
  exact (lp_cons (F := fun ag (z : Int32 × fz_M) => f_X8_town_61_s ag z.1 z.2) s0).trans ((lp_cons (F := fun ag (z : Int32 × fz_M) => f_X8_town_61_s ag z.1 z.2) s1).trans (lp_last (F := fun ag (z : Int32 × fz_M) => f_X8_town_61_s ag z.1 z.2) s2))
