/-! THE PURE PART: loops, memories, small numbers -/
theorem lp_inv {σ ρ : Type} {F : (σ → Option ρ) → σ → Option ρ} (I : Nat → σ → Prop) (R : Option ρ → Prop) (n : Nat)
    (hs : ∀ i s, i < n → I i s → (∃ s', I (i + 1) s' ∧ ∀ k, F k s = k s') ∨ (∃ r, R r ∧ ∀ k, F k s = r))
    (he : ∀ s, I n s → ∃ r, R r ∧ ∀ k, F k s = r) {fuel : Nat} (hf : n < fuel) {s0 : σ} (h0 : I 0 s0) : R (fz_lp F fuel s0) := by
  have key : ∀ (d i : Nat) (fuel : Nat) (s : σ), i + d = n → d < fuel → I i s → R (fz_lp F fuel s) := by
    intro d
    induction d with
    | zero =>
      intro i fuel s hi hf hI
      obtain ⟨f, rfl⟩ : ∃ f, fuel = f + 1 := ⟨fuel - 1, by omega⟩
      have hin : i = n := by omega
      subst hin
      obtain ⟨r, hr, hk⟩ := he s hI
      show R (F (fz_lp F f) s)
      rw [hk]; exact hr
    | succ d ih =>
      intro i fuel s hi hf hI
      obtain ⟨f, rfl⟩ : ∃ f, fuel = f + 1 := ⟨fuel - 1, by omega⟩
      show R (F (fz_lp F f) s)
      rcases hs i s (by omega) hI with ⟨s', h1, h2⟩ | ⟨r, hr, hk⟩
      · rw [h2]; exact ih (i + 1) f s' (by omega) (by omega) h1
      · rw [hk]; exact hr
  exact key n 0 fuel s0 (by omega) hf h0
/-- a loop that runs to its end, by its states -/
theorem lp_run {σ ρ : Type} {F : (σ → Option ρ) → σ → Option ρ} (st : Nat → σ) (n : Nat) (r : Option ρ) (hs : ∀ i, i < n → ∀ k, F k (st i) = k (st (i + 1))) (he : ∀ k, F k (st n) = r) {fuel : Nat} (hf : n < fuel) : fz_lp F fuel (st 0) = r :=
  lp_inv (fun i s => s = st i) (fun x => x = r) n (fun i s hi hI => Or.inl ⟨st (i + 1), rfl, fun k => by rw [hI]; exact hs i hi k⟩) (fun s hI => ⟨r, rfl, fun k => by rw [hI]; exact he k⟩) hf rfl
/-- a loop's end, whatever stands behind it (x) -/
theorem lp_all {α σ ρ τ : Type} {F : α → (σ → Option ρ) → σ → Option ρ} {K : α → τ → Option ρ} {Post : τ → Prop} (I : Nat → σ → Prop) (n : Nat)
    (hs : ∀ i s, i < n → I i s → (∃ s', I (i + 1) s' ∧ ∀ x k, F x k s = k s') ∨ (∃ a, Post a ∧ ∀ x k, F x k s = K x a))
    (he : ∀ s, I n s → ∃ a, Post a ∧ ∀ x k, F x k s = K x a) {fuel : Nat} (hf : n < fuel) {s0 : σ} (h0 : I 0 s0) : ∃ a, (∀ x, fz_lp (F x) fuel s0 = K x a) ∧ Post a := by
  have key : ∀ (d i : Nat) (fuel : Nat) (s : σ), i + d = n → d < fuel → I i s → ∃ a, (∀ x, fz_lp (F x) fuel s = K x a) ∧ Post a := by
    intro d
    induction d with
    | zero =>
      intro i fuel s hi hf hI
      obtain ⟨f, rfl⟩ : ∃ f, fuel = f + 1 := ⟨fuel - 1, by omega⟩
      have hin : i = n := by omega
      subst hin
      obtain ⟨a, ha, hk⟩ := he s hI
      exact ⟨a, fun x => hk x _, ha⟩
    | succ d ih =>
      intro i fuel s hi hf hI
      obtain ⟨f, rfl⟩ : ∃ f, fuel = f + 1 := ⟨fuel - 1, by omega⟩
      rcases hs i s (by omega) hI with ⟨s', h1, h2⟩ | ⟨a, ha, hk⟩
      · obtain ⟨a, b1, b2⟩ := ih (i + 1) f s' (by omega) (by omega) h1
        refine ⟨a, fun x => ?_, b2⟩
        show F x (fz_lp (F x) f) s = _
        rw [h2]; exact b1 x
      · exact ⟨a, fun x => hk x _, ha⟩
  exact key n 0 fuel s0 (by omega) hf h0
/-- the same, nothing behind it left open -/
theorem lp_gen {σ ρ τ : Type} {F : (σ → Option ρ) → σ → Option ρ} {K : τ → Option ρ} {Post : τ → Prop} (I : Nat → σ → Prop) (n : Nat)
    (hs : ∀ i s, i < n → I i s → (∃ s', I (i + 1) s' ∧ ∀ k, F k s = k s') ∨ (∃ a, Post a ∧ ∀ k, F k s = K a))
    (he : ∀ s, I n s → ∃ a, Post a ∧ ∀ k, F k s = K a) {fuel : Nat} (hf : n < fuel) {s0 : σ} (h0 : I 0 s0) : ∃ a, fz_lp F fuel s0 = K a ∧ Post a := by
  obtain ⟨a, h1, h2⟩ := lp_all (α := Unit) (F := fun _ => F) (K := fun _ => K) (Post := Post) I n
    (fun i s hi hI => by
      rcases hs i s hi hI with ⟨s', a, b⟩ | ⟨a, b, c⟩
      · exact Or.inl ⟨s', a, fun _ => b⟩
      · exact Or.inr ⟨a, b, fun _ => c⟩)
    (fun s hI => by obtain ⟨a, b, c⟩ := he s hI; exact ⟨a, b, fun _ => c⟩) hf h0
  exact ⟨a, h1 (), h2⟩
theorem fz_gd_t {α : Type} {b : Bool} {k : Option α} (h : b = true) : fz_gd b k = k := by unfold fz_gd; rw [if_pos h]
theorem fz_bd_e {α β : Type} (v : α) (k : α → Option β) : fz_bd v k = k v := rfl
theorem fz_b1_e {α β : Type} (a : α) (k : α → Option β) : fz_b1 (some a) k = k a := rfl
theorem fz_b2_e {α β γ : Type} (a : α) (b : β) (k : α → β → Option γ) : fz_b2 (some (a, b)) k = k a b := rfl
theorem fz_in_nI {i n : Nat} (h : i < n) (hn : n < 2 ^ 31) : fz_in (nI i) n = true := by
  unfold fz_in
  rw [nI_clamp (by omega)]
  simp [nI_pos' (show i < 2 ^ 31 by omega), h]
theorem fz_in_e {x : Int32} {n : Nat} (hn : n < 2 ^ 31) (h : fz_in x n = true) : ∃ i, i < n ∧ x = nI i := vp_in_of (fz_in_vp h) hn
theorem fz_g_nI {M : fz_M} {c i : Nat} (h : i < 2 ^ 31) : fz_g M c (nI i) = M.1 c i := by unfold fz_g; rw [nI_clamp h]
theorem fz_gl_nI {M : fz_M} {c i : Nat} (h : i < 2 ^ 31) : fz_gl M c (nI i) = M.2.1 c i := by unfold fz_gl; rw [nI_clamp h]
theorem fz_f_e (M : fz_M) (c j : Nat) : fz_f M c j = M.1 c j := rfl
theorem fz_d_e (M : fz_M) (c j : Nat) : fz_d M c j = M.2.2 c j := rfl
/-- an array's place written, with a small number as its index -/
def fz_w (M : fz_M) (c i : Nat) (v : Int32) : fz_M := (fz_u1 M.1 c i v, M.2.1, M.2.2)
def fz_wL (M : fz_M) (c i : Nat) (v : Int64) : fz_M := (M.1, fz_u1 M.2.1 c i v, M.2.2)
def fz_wD (M : fz_M) (c i : Nat) (v : Nat) : fz_M := (M.1, M.2.1, fz_u1 M.2.2 c i v)
theorem fz_s_nI {M : fz_M} {c i : Nat} {v : Int32} (h : i < 2 ^ 31) : fz_s M c (nI i) v = fz_w M c i v := by unfold fz_s fz_w; rw [nI_clamp h]
theorem fz_sl_nI {M : fz_M} {c i : Nat} {v : Int64} (h : i < 2 ^ 31) : fz_sl M c (nI i) v = fz_wL M c i v := by unfold fz_sl fz_wL; rw [nI_clamp h]
theorem fz_sf_e (M : fz_M) (c j : Nat) (v : Int32) : fz_sf M c j v = fz_w M c j v := rfl
theorem fz_sd_e (M : fz_M) (c j : Nat) (v : Nat) : fz_sd M c j v = fz_wD M c j v := rfl
theorem fz_w_1 (M : fz_M) (c i : Nat) (v : Int32) (d j : Nat) : (fz_w M c i v).1 d j = if d = c ∧ j = i then v else M.1 d j := by
  show fz_u1 M.1 c i v d j = _
  unfold fz_u1
  by_cases h : d = c
  · subst h; by_cases h2 : j = i <;> simp [h2]
  · simp [h]
theorem fz_w_2 (M : fz_M) (c i : Nat) (v : Int32) : (fz_w M c i v).2 = M.2 := rfl
theorem fz_wL_1 (M : fz_M) (c i : Nat) (v : Int64) : (fz_wL M c i v).1 = M.1 := rfl
theorem fz_wL_22 (M : fz_M) (c i : Nat) (v : Int64) : (fz_wL M c i v).2.2 = M.2.2 := rfl
theorem fz_wL_2 (M : fz_M) (c i : Nat) (v : Int64) (d j : Nat) : (fz_wL M c i v).2.1 d j = if d = c ∧ j = i then v else M.2.1 d j := by
  show fz_u1 M.2.1 c i v d j = _
  unfold fz_u1
  by_cases h : d = c
  · subst h; by_cases h2 : j = i <;> simp [h2]
  · simp [h]
theorem fz_wD_1 (M : fz_M) (c i v : Nat) : (fz_wD M c i v).1 = M.1 := rfl
theorem fz_wD_2 (M : fz_M) (c i v : Nat) : (fz_wD M c i v).2.1 = M.2.1 := rfl
theorem fz_wD_3 (M : fz_M) (c i v : Nat) (d j : Nat) : (fz_wD M c i v).2.2 d j = if d = c ∧ j = i then v else M.2.2 d j := by
  show fz_u1 M.2.2 c i v d j = _
  unfold fz_u1
  by_cases h : d = c
  · subst h; by_cases h2 : j = i <;> simp [h2]
  · simp [h]
theorem n_0 : (0 : Int32) = nI 0 := rfl
theorem n_1 : (1 : Int32) = nI 1 := rfl
theorem n_2 : (2 : Int32) = nI 2 := rfl
theorem n_6 : (6 : Int32) = nI 6 := rfl
theorem n_8 : (8 : Int32) = nI 8 := rfl
theorem n_9 : (9 : Int32) = nI 9 := rfl
theorem n_10 : (10 : Int32) = nI 10 := rfl
theorem n_12 : (12 : Int32) = nI 12 := rfl
theorem n_96 : (96 : Int32) = nI 96 := rfl
theorem nI_sub {a b : Nat} (h : b ≤ a) : nI a - nI b = nI (a - b) := by
  have : nI (a - b) + nI b = nI a := by rw [nI_add]; congr 1; omega
  rw [← this, Int32.add_sub_cancel]
theorem nI_mul (a b : Nat) : nI a * nI b = nI (a * b) := (Int32.ofNat_mul a b).symm
theorem nI_m1 (a : Nat) : nI (a + 1) + (-1) = nI a := by
  rw [nI_succ, Int32.add_assoc]
  show nI a + (1 + -1) = _
  rw [show (1 : Int32) + -1 = 0 from by decide, Int32.add_zero]
theorem nI_neg {a : Nat} (h : a < 2 ^ 31) : ¬ nI a = (-9) := by
  intro q
  have h1 : (nI a).toInt = (-9 : Int32).toInt := by rw [q]
  rw [nI_toInt h] at h1
  have : (-9 : Int32).toInt = -9 := by decide
  omega
