/-! the greatest divisor of both, found in two ways -/
theorem l_toInt {n : Nat} (h : n < 2 ^ 63) : (lN n).toInt = (n : Int) := lg_ofNat_toInt (by omega)
theorem l_div {a b : Nat} (ha : a < 2 ^ 63) (hb : b < 2 ^ 63) : lN a / lN b = lN (a / b) := by
  have h3 : a / b < 2 ^ 63 := Nat.lt_of_le_of_lt (Nat.div_le_self a b) ha
  apply Int64.toInt_inj.mp
  rw [Int64.toInt_div, l_toInt ha, l_toInt hb, l_toInt h3, ← Int.ofNat_tdiv]
  generalize a / b = c at h3 ⊢
  exact Int.bmod_eq_of_le (by omega) (by omega)
theorem l_rem {a b : Nat} (ha : a < 2 ^ 63) (hb : b < 2 ^ 63) : lN a - lN a / lN b * lN b = lN (a % b) := by
  rw [l_div ha hb, lN_mul, lN_sub (Nat.div_mul_le_self a b)]
  congr 1
  have := Nat.div_add_mod a b
  rw [Nat.mul_comm] at this
  omega
theorem l_eq {a b : Nat} (ha : a < 2 ^ 63) (hb : b < 2 ^ 63) : lN a = lN b ↔ a = b := by
  constructor
  · intro h
    have h2 : (lN a).toInt = (lN b).toInt := by rw [h]
    rw [l_toInt ha, l_toInt hb] at h2
    omega
  · intro h; rw [h]
theorem l_c0 {a : Nat} (ha : a < 2 ^ 63) : (lg_cmp (lN a) 0 = 0) = (a = 0) := by
  have e : (lN a = 0) = (a = 0) := propext (l_eq (b := 0) ha (by decide))
  unfold lg_cmp
  by_cases h1 : lN a > 0
  · rw [if_pos h1]
    have : ¬ a = 0 := fun q => by subst q; exact absurd h1 (by decide)
    exact propext ⟨fun q => absurd q (by decide), fun q => absurd q this⟩
  · rw [if_neg h1]
    by_cases h2 : lN a = 0
    · rw [if_pos h2]; rw [e] at h2; exact propext ⟨fun _ => h2, fun _ => rfl⟩
    · rw [if_neg h2]; rw [e] at h2; exact propext ⟨fun q => absurd q (by decide), fun q => absurd q h2⟩
theorem l_nz {a : Nat} (ha : a < 2 ^ 63) (h : a ≠ 0) : fz_nzl (lN a) = true := by
  have : ¬ lN a = 0 := fun q => h ((l_eq (b := 0) ha (by decide)).mp q)
  unfold fz_nzl
  rw [decide_eq_false this]; rfl
/-- Euclid's way -/
theorem div_e {a N : Nat} (M : fz_M) (ha : a < 2 ^ 63) (hN : N < 2 ^ 40) (h0 : 0 < N) : f_X9_divisor (lN a) (lN N) M = some (lN (Nat.gcd a N)) := by
  unfold f_X9_divisor f_X9_divisor_6
  refine lp_inv (F := fun ag z => f_X9_divisor_6_s ag z.1 z.2 M) (fun i (s : Int64 × Int64) => ∃ p q, s = (lN p, lN q) ∧ p < 2 ^ 63 ∧ q < 2 ^ 40 ∧ Nat.gcd p q = Nat.gcd a N ∧ ((i = 0 ∧ 0 < q) ∨ (q < p ∧ p < 2 ^ 40 ∧ p * q * 2 ^ i ≤ 2 ^ 100))) (fun r => r = some (lN (Nat.gcd a N))) 101 ?_ ?_ (by decide) ⟨a, N, rfl, ha, hN, rfl, Or.inl ⟨rfl, h0⟩⟩
  · rintro i s hi ⟨p, q, rfl, hp, hq, hg, hc⟩
    dsimp only
    have hq63 : q < 2 ^ 63 := by omega
    by_cases q0 : q = 0
    · subst q0
      refine Or.inr ⟨_, rfl, fun k => ?_⟩
      rw [← hg, Nat.gcd_zero_right]
      unfold f_X9_divisor_6_s
      rw [if_pos ((l_c0 hq63).mpr rfl)]
    · have hq1 : 0 < q := by omega
      have hr := Nat.mod_lt p hq1
      refine Or.inl ⟨(lN q, lN (p % q)), ⟨q, p % q, rfl, hq63, by omega, by rw [← hg, Nat.gcd_comm p q, Nat.gcd_rec q p, Nat.gcd_comm], Or.inr ⟨hr, by omega, ?_⟩⟩, fun k => ?_⟩
      · rcases hc with ⟨rfl, -⟩ | ⟨c1, c2, c3⟩
        · have h1 : q * (p % q) ≤ 2 ^ 40 * 2 ^ 40 := Nat.mul_le_mul (by omega) (by omega)
          have h2 : q * (p % q) * 2 ^ (0 + 1) ≤ 2 ^ 40 * 2 ^ 40 * 2 ^ 1 := Nat.mul_le_mul h1 (Nat.le_refl _)
          exact Nat.le_trans h2 (by decide)
        · have h1 : 2 * (p % q) ≤ p := by
            have hdm := Nat.div_add_mod p q
            have hd1 : 1 ≤ p / q := (Nat.one_le_div_iff hq1).mpr (by omega)
            have h3 : q * 1 ≤ q * (p / q) := Nat.mul_le_mul_left q hd1
            omega
          have h2 : q * (p % q) * 2 ^ (i + 1) = (q * 2 ^ i) * (2 * (p % q)) := by
            rw [Nat.pow_succ, Nat.mul_comm (2 ^ i) 2]
            simp only [Nat.mul_assoc, Nat.mul_comm, Nat.mul_left_comm]
          rw [h2]
          refine Nat.le_trans (Nat.mul_le_mul_left _ h1) ?_
          rw [Nat.mul_comm (q * 2 ^ i) p, ← Nat.mul_assoc]
          exact c3
      · unfold f_X9_divisor_6_s
        rw [if_neg (fun z => q0 ((l_c0 hq63).mp z)), fz_gd_t (l_nz hq63 q0), fz_bd_e, l_rem hp hq63]
  · rintro s ⟨p, q, rfl, hp, hq, hg, hc⟩
    dsimp only
    have q0 : q = 0 := by
      rcases hc with ⟨h, -⟩ | ⟨c1, c2, c3⟩
      · exact absurd h (by decide)
      · refine Nat.eq_zero_of_not_pos fun q1 => ?_
        have h1 : 1 * 1 ≤ p * q := Nat.mul_le_mul (by omega) q1
        have h2 : 1 * 1 * 2 ^ 101 ≤ p * q * 2 ^ 101 := Nat.mul_le_mul_right _ h1
        have h3 := Nat.le_trans h2 c3
        exact absurd h3 (by decide)
    subst q0
    refine ⟨_, rfl, fun k => ?_⟩
    rw [← hg, Nat.gcd_zero_right]
    unfold f_X9_divisor_6_s
    rw [if_pos ((l_c0 (a := 0) (by decide)).mpr rfl)]
/-- by the powers of two and five -/
theorem cop25 {pr b : Nat} (hpr : pr = 2 ∨ pr = 5) (h : ¬ pr ∣ b) : Nat.Coprime b pr := by
  have g1 : Nat.gcd b pr ∣ pr := Nat.gcd_dvd_right b pr
  have g2 : Nat.gcd b pr ∣ b := Nat.gcd_dvd_left b pr
  have g3 : Nat.gcd b pr ≤ pr := Nat.le_of_dvd (by omega) g1
  show Nat.gcd b pr = 1
  have g4 : Nat.gcd b pr ≠ pr := fun q => h (q ▸ g2)
  generalize Nat.gcd b pr = g at g1 g3 g4
  rcases hpr with rfl | rfl
  · rcases (show g = 0 ∨ g = 1 ∨ g = 2 by omega) with rfl | rfl | rfl
    · exact absurd g1 (by decide)
    · rfl
    · exact absurd rfl g4
  · rcases (show g = 0 ∨ g = 1 ∨ g = 2 ∨ g = 3 ∨ g = 4 ∨ g = 5 by omega) with rfl | rfl | rfl | rfl | rfl | rfl
    · exact absurd g1 (by decide)
    · rfl
    · exact absurd g1 (by decide)
    · exact absurd g1 (by decide)
    · exact absurd g1 (by decide)
    · exact absurd rfl g4
theorem gcd_pp {pr a i n : Nat} (hpr : pr = 2 ∨ pr = 5) (hi : i ≤ n) (hd : pr ^ i ∣ a) (hm : i = n ∨ ¬ pr ^ (i + 1) ∣ a) : Nat.gcd a (pr ^ n) = pr ^ i := by
  obtain ⟨b, rfl⟩ := hd
  have e : pr ^ n = pr ^ i * pr ^ (n - i) := by rw [← Nat.pow_add]; congr 1; omega
  rw [e, Nat.gcd_mul_left]
  have h1 : Nat.gcd b (pr ^ (n - i)) = 1 := by
    rcases hm with rfl | hm
    · rw [Nat.sub_self, Nat.pow_zero, Nat.gcd_one_right]
    · have hb : ¬ pr ∣ b := fun ⟨c, hc⟩ => hm ⟨c, by rw [hc, Nat.pow_succ, Nat.mul_assoc]⟩
      have := Nat.Coprime.pow 1 (n - i) (cop25 hpr hb)
      rw [Nat.pow_one] at this
      exact this
  rw [h1, Nat.mul_one]
theorem p10 : ∀ pr, pr < 6 → (pr = 2 ∨ pr = 5) → ∀ n, n < 10 → ∀ i, i < 9 → (10 ^ n % pr ^ (i + 1) = 0 ↔ i + 1 ≤ n) := by decide +kernel
theorem p59 : ∀ pr, pr < 6 → (pr = 2 ∨ pr = 5) → ∀ i, i < 10 → pr ^ i < 2 ^ 40 ∧ pr ^ i ≠ 0 := by decide +kernel
theorem com_e {pr a n : Nat} (M : fz_M) (hpr : pr = 2 ∨ pr = 5) (ha : a < 2 ^ 63) (hn : n ≤ 9) : f_X8_commonPower (lN a) (lN (10 ^ n)) (nI pr) M = some (lN (Nat.gcd a (pr ^ n))) := by
  have hpr6 : pr < 6 := by omega
  have hN : 10 ^ n < 2 ^ 63 := Nat.lt_of_le_of_lt (Nat.pow_le_pow_right (by decide) hn) (by decide)
  unfold f_X8_commonPower f_X8_commonPower_6
  refine lp_inv (F := fun ag z => f_X8_commonPower_6_s ag (lN a) (lN (10 ^ n)) (nI pr) z.1 z.2 M) (fun i (s : Int64 × Int32) => s = (lN (pr ^ i), nI i) ∧ i ≤ n ∧ pr ^ i ∣ a) (fun r => r = some (lN (Nat.gcd a (pr ^ n)))) 9 ?_ ?_ (by decide) ⟨rfl, Nat.zero_le _, by rw [Nat.pow_zero]; exact Nat.one_dvd a⟩
  · rintro i s hi ⟨rfl, e2, e3⟩
    dsimp only
    have hlt : ¬ (9 : Int32) ≤ nI i := show ¬ nI 9 ≤ nI i from nI_ge hi (by decide)
    obtain ⟨b1, b2⟩ := p59 pr hpr6 hpr (i + 1) (by omega)
    have b63 : pr ^ (i + 1) < 2 ^ 63 := by omega
    have emul : lN (pr ^ i) * (nI pr).toInt64 = lN (pr ^ (i + 1)) := by rw [nI_l (by omega), lN_mul, ← Nat.pow_succ]
    have r1 : a % pr ^ (i + 1) < 2 ^ 63 := Nat.lt_of_le_of_lt (Nat.mod_le _ _) ha
    have r2 : 10 ^ n % pr ^ (i + 1) < 2 ^ 63 := Nat.lt_of_le_of_lt (Nat.mod_le _ _) hN
    have hiff := p10 pr hpr6 hpr n (by omega) i hi
    by_cases c1 : a % pr ^ (i + 1) = 0
    · by_cases c2 : 10 ^ n % pr ^ (i + 1) = 0
      · refine Or.inl ⟨(lN (pr ^ (i + 1)), nI (i + 1)), ⟨rfl, hiff.mp c2, Nat.dvd_of_mod_eq_zero c1⟩, fun k => ?_⟩
        unfold f_X8_commonPower_6_s
        rw [if_neg hlt, fz_bd_e, emul, fz_gd_t (l_nz b63 b2), l_rem ha b63, if_neg (by rw [l_c0 r1]; exact fun q => q c1), fz_gd_t (l_nz b63 b2), l_rem hN b63, if_pos (by rw [l_c0 r2]; exact c2), nI_1]
      · have hin : i = n := by
          have : ¬ i + 1 ≤ n := fun q => c2 (hiff.mpr q)
          omega
        refine Or.inr ⟨_, rfl, fun k => ?_⟩
        rw [gcd_pp hpr e2 e3 (Or.inl hin)]
        unfold f_X8_commonPower_6_s
        rw [if_neg hlt, fz_bd_e, emul, fz_gd_t (l_nz b63 b2), l_rem ha b63, if_neg (by rw [l_c0 r1]; exact fun q => q c1), fz_gd_t (l_nz b63 b2), l_rem hN b63, if_neg (by rw [l_c0 r2]; exact c2)]
        rfl
    · refine Or.inr ⟨_, rfl, fun k => ?_⟩
      rw [gcd_pp hpr e2 e3 (Or.inr fun q => c1 (Nat.mod_eq_zero_of_dvd q))]
      unfold f_X8_commonPower_6_s
      rw [if_neg hlt, fz_bd_e, emul, fz_gd_t (l_nz b63 b2), l_rem ha b63, if_pos (by rw [l_c0 r1]; exact c1)]
      rfl
  · rintro s ⟨rfl, e2, e3⟩
    dsimp only
    refine ⟨_, rfl, fun k => ?_⟩
    rw [gcd_pp hpr e2 e3 (Or.inl (by omega))]
    unfold f_X8_commonPower_6_s
    rw [if_pos (show (9 : Int32) ≤ nI 9 from by decide)]
theorem gcd10 (a n : Nat) : Nat.gcd a (2 ^ n) * Nat.gcd a (5 ^ n) = Nat.gcd a (10 ^ n) := by
  have h : Nat.Coprime (2 ^ n) (5 ^ n) := Nat.Coprime.pow n n (by decide)
  rw [← Nat.Coprime.gcd_mul a h, ← Nat.mul_pow]
