/-! THE MEMORY OF A WORLD: cells by number; each cell a row of ints (M.1), of longs (M.2.1), of cells' numbers (M.2.2: the fields that change) -/
abbrev fz_M : Type := (Nat → Nat → Int32) × (Nat → Nat → Int64) × (Nat → Nat → Nat)
/-- an array's element -/
def fz_g (M : fz_M) (c : Nat) (i : Int32) : Int32 := M.1 c i.toNatClampNeg
def fz_gl (M : fz_M) (c : Nat) (i : Int32) : Int64 := M.2.1 c i.toNatClampNeg
/-- an object's field -/
def fz_f (M : fz_M) (c j : Nat) : Int32 := M.1 c j
def fz_d (M : fz_M) (c j : Nat) : Nat := M.2.2 c j
def fz_u1 {α : Type} (f : Nat → Nat → α) (c i : Nat) (v : α) : Nat → Nat → α := fun d j => if d = c then (if j = i then v else f c j) else f d j
def fz_s (M : fz_M) (c : Nat) (i : Int32) (v : Int32) : fz_M := (fz_u1 M.1 c i.toNatClampNeg v, M.2.1, M.2.2)
def fz_sl (M : fz_M) (c : Nat) (i : Int32) (v : Int64) : fz_M := (M.1, fz_u1 M.2.1 c i.toNatClampNeg v, M.2.2)
def fz_sf (M : fz_M) (c j : Nat) (v : Int32) : fz_M := (fz_u1 M.1 c j v, M.2.1, M.2.2)
def fz_sd (M : fz_M) (c j : Nat) (v : Nat) : fz_M := (M.1, M.2.1, fz_u1 M.2.2 c j v)
/-- within -/
def fz_in (i : Int32) (n : Nat) : Bool := decide (0 ≤ i) && decide (i.toNatClampNeg < n)
def fz_nb (v : Int32) : Bool := decide (v = 0) || decide (v = 1)
/-- what a row of booleans keeps -/
def fz_z (v : Int32) : Int32 := vp_nar .boolean v
/-! THE SHAPES OF STEPS: a guard, a name, a call, a loop -/
def fz_gd {α : Type} (b : Bool) (k : Option α) : Option α := if b = true then k else none
def fz_bd {α β : Type} (v : α) (k : α → Option β) : Option β := k v
def fz_b1 {α β : Type} (x : Option α) (k : α → Option β) : Option β := match x with
  | some a => k a
  | none => none
def fz_b2 {α β γ : Type} (x : Option (α × β)) (k : α → β → Option γ) : Option γ := match x with
  | some (a, b) => k a b
  | none => none
def fz_lp {σ ρ : Type} (F : (σ → Option ρ) → σ → Option ρ) : Nat → σ → Option ρ
  | 0 => fun _ => none
  | n + 1 => F (fz_lp F n)
def fz_fuel : Nat := 5000
theorem fz_gd_s {α : Type} {b : Bool} {k : Option α} {x : α} (h : fz_gd b k = some x) : b = true ∧ k = some x := by
  unfold fz_gd at h
  split at h
  · rename_i q
    exact ⟨q, h⟩
  · cases h
theorem fz_bd_s {α β : Type} {v : α} {k : α → Option β} {x : β} (h : fz_bd v k = some x) : ∃ y, y = v ∧ k y = some x := ⟨v, rfl, h⟩
theorem fz_b1_s {α β : Type} {o : Option α} {k : α → Option β} {x : β} (h : fz_b1 o k = some x) : ∃ y, o = some y ∧ k y = some x := by
  cases o with
  | none => cases h
  | some a => exact ⟨a, rfl, h⟩
theorem fz_b2_s {α β γ : Type} {o : Option (α × β)} {k : α → β → Option γ} {x : γ} (h : fz_b2 o k = some x) : ∃ y z, o = some (y, z) ∧ k y z = some x := by
  cases o with
  | none => cases h
  | some a => exact ⟨a.1, a.2, rfl, h⟩
theorem fz_ip {α : Type} {p : Prop} [Decidable p] {a b : Option α} {x : α} (hp : p) (h : (if p then a else b) = some x) : a = some x := by rw [if_pos hp] at h; exact h
theorem fz_iq {α : Type} {p : Prop} [Decidable p] {a b : Option α} {x : α} (hp : ¬ p) (h : (if p then a else b) = some x) : b = some x := by rw [if_neg hp] at h; exact h
theorem fz_in_vp {i : Int32} {n : Nat} (h : fz_in i n = true) : vp_in i n := by
  unfold fz_in at h
  rw [Bool.and_eq_true, decide_eq_true_eq, decide_eq_true_eq] at h
  rintro (q | q)
  · exact absurd h.1 (Int32.not_le.mpr q)
  · omega
theorem fz_nb_n {v : Int32} (h : fz_nb v = true) : narrow .boolean (.int v) = .int v := by
  unfold fz_nb at h
  rw [Bool.or_eq_true, decide_eq_true_eq, decide_eq_true_eq] at h
  rcases h with rfl | rfl <;> rfl
/-! THE WORLD: an address to each cell, a shape to each cell -/
abbrev fz_G : Type := (Nat → Nat) × va_G × (Nat → ClassId)
/-- an array: kind (0 int, 1 boolean, 2 long, 3 .. of cells), length, and for cells: the first, the step; an object: its class, its fields: none an int, some none a cell that changes, some (some q) the cell q -/
abbrev fz_Sh : Type := (Nat × Nat × Nat × Nat) ⊕ (Nat × List (Option (Option Nat)))
def fz_fv (ad : Nat → Nat) (M : fz_M) (c : Nat) : Nat → List (Option (Option Nat)) → List Value
  | _, [] => []
  | j, none :: t => .int (M.1 c j) :: fz_fv ad M c (j + 1) t
  | j, some none :: t => .ref (ad (M.2.2 c j)) :: fz_fv ad M c (j + 1) t
  | j, some (some q) :: t => .ref (ad q) :: fz_fv ad M c (j + 1) t
def fz_av (G : fz_G) (M : fz_M) (c n b st : Nat) : Nat → va_E
  | 0 => .inl (G.2.2 0, n, .inl (M.1 c))
  | 1 => .inl (G.2.2 1, n, .inl (M.1 c))
  | 2 => .inl (G.2.2 2, n, .inr (.inl (M.2.1 c)))
  | k + 3 => .inl (G.2.2 (k + 3), n, .inr (.inr (.inr (.inr (fun i => if i < n then some (G.1 (b + st * i)) else none)))))
def fz_en (G : fz_G) (M : fz_M) (c : Nat) (s : fz_Sh) : va_E := match s with
  | .inl a => fz_av G M c a.2.1 a.2.2.1 a.2.2.2 a.1
  | .inr o => .inr (o.1, fz_fv G.1 M c 0 o.2)
def fz_wl (G : fz_G) (sh : Nat → fz_Sh) (K : Nat) (M : fz_M) : va_W := (List.range K).map (fun c => (G.1 c, fz_en G M c (sh c)))
def fz_ty (G : fz_G) : List (ClassId × FieldType) := [(G.2.2 0, .int), (G.2.2 1, .boolean), (G.2.2 2, .long), (G.2.2 3, .object "FurnitureByFlood$Stand"), (G.2.2 4, .array .int)]
def fz_Fr (G : fz_G) (K : Nat) : Nat → Prop := fun q => ∃ c, c < K ∧ q = G.1 c
def fz_I (G : fz_G) (K : Nat) : Prop := ∀ i j, i < K → j < K → G.1 i = G.1 j → i = j
def fz_F (G : fz_G) (K : Nat) (s : State) : Prop := va_K G.2.1 vwCl (fz_ty G) s ∧ fz_I G K
def fz_T (G : fz_G) (sh : Nat → fz_Sh) (K : Nat) (s : State) (M : fz_M) (H : Heap) (locs : List Loc) : Prop := va_P G.2.1 vwCl (fz_wl G sh K M) H ∧ va_S (fz_Fr G K) s.heap H locs
def fz_ob (sh : Nat → fz_Sh) (K x ci : Nat) (fs : List (Option (Option Nat))) : Prop := x < K ∧ sh x = .inr (ci, fs)
def fz_ar (sh : Nat → fz_Sh) (K x kd n b st : Nat) : Prop := x < K ∧ sh x = .inl (kd, n, b, st)
theorem fz_wl_at (G : fz_G) (sh : Nat → fz_Sh) {K : Nat} (M : fz_M) {x : Nat} (hx : x < K) : (fz_wl G sh K M)[x]? = some (G.1 x, fz_en G M x (sh x)) := by
  unfold fz_wl
  rw [List.getElem?_map, List.getElem?_range hx]
  rfl
theorem fz_wl_len (G : fz_G) (sh : Nat → fz_Sh) (K : Nat) (M : fz_M) : (fz_wl G sh K M).length = K := by simp [fz_wl]
theorem fz_wl_inv {G : fz_G} {sh : Nat → fz_Sh} {K : Nat} {M : fz_M} {k : Nat} {q : Nat × va_E} (h : (fz_wl G sh K M)[k]? = some q) : k < K ∧ q = (G.1 k, fz_en G M k (sh k)) := by
  have hk : k < K := by have := (List.getElem?_eq_some_iff.mp h).1; rw [fz_wl_len] at this; exact this
  rw [fz_wl_at G sh M hk] at h
  exact ⟨hk, (Option.some.inj h).symm⟩
theorem fz_wl_D {G : fz_G} {sh : Nat → fz_Sh} {K : Nat} {M : fz_M} (h : fz_I G K) : va_D (fz_Fr G K) (fz_wl G sh K M) := by
  refine ⟨fun i j p q hi hj hpq => ?_, fun k q hk => ?_⟩
  · obtain ⟨h1, rfl⟩ := fz_wl_inv hi
    obtain ⟨h2, rfl⟩ := fz_wl_inv hj
    exact h i j h1 h2 hpq
  · obtain ⟨h1, rfl⟩ := fz_wl_inv hk
    exact ⟨k, h1, rfl⟩
theorem fz_wl_set {G : fz_G} {sh : Nat → fz_Sh} {K : Nat} {M M1 : fz_M} {x : Nat} {e : va_E} (hx : x < K) (he : fz_en G M1 x (sh x) = e) (ho : ∀ c, c ≠ x → fz_en G M1 c (sh c) = fz_en G M c (sh c)) : (fz_wl G sh K M).set x (G.1 x, e) = fz_wl G sh K M1 := by
  apply List.ext_getElem?
  intro k
  by_cases hk : k = x
  · subst hk
    rw [List.getElem?_set_self (by rw [fz_wl_len]; exact hx), fz_wl_at G sh M1 hx, he]
  · rw [List.getElem?_set_ne (Ne.symm hk)]
    by_cases hK : k < K
    · rw [fz_wl_at G sh M hK, fz_wl_at G sh M1 hK, ho k hk]
    · rw [List.getElem?_eq_none (by rw [fz_wl_len]; omega), List.getElem?_eq_none (by rw [fz_wl_len]; omega)]
theorem fz_fv_get (ad : Nat → Nat) (M : fz_M) (c : Nat) : ∀ (fs : List (Option (Option Nat))) (j k : Nat), (fz_fv ad M c j fs)[k]? = (fs[k]?).map (fun f => match f with
    | none => Value.int (M.1 c (j + k))
    | some none => Value.ref (ad (M.2.2 c (j + k)))
    | some (some q) => Value.ref (ad q))
  | [], j, k => by simp [fz_fv]
  | f :: t, j, 0 => by cases f with
    | none => simp [fz_fv]
    | some g => cases g <;> simp [fz_fv]
  | f :: t, j, k + 1 => by
    have ih := fz_fv_get ad M c t (j + 1) k
    rw [show j + (k + 1) = j + 1 + k from by omega]
    cases f with
    | none => simpa [fz_fv] using ih
    | some g => cases g <;> simpa [fz_fv] using ih
theorem fz_fv_len (ad : Nat → Nat) (M : fz_M) (c : Nat) : ∀ (fs : List (Option (Option Nat))) (j : Nat), (fz_fv ad M c j fs).length = fs.length
  | [], j => rfl
  | f :: t, j => by
    have ih := fz_fv_len ad M c t (j + 1)
    cases f with
    | none => simp [fz_fv, ih]
    | some g => cases g <;> simp [fz_fv, ih]
theorem fz_fv_eq {ad : Nat → Nat} {M M1 : fz_M} {c : Nat} {fs : List (Option (Option Nat))} (h1 : M1.1 c = M.1 c) (h2 : M1.2.2 c = M.2.2 c) : ∀ j, fz_fv ad M1 c j fs = fz_fv ad M c j fs := by
  induction fs with
  | nil => intro j; rfl
  | cons f t ih =>
    intro j
    cases f with
    | none => simp only [fz_fv, h1, ih]
    | some g => cases g <;> simp only [fz_fv, h2, ih]
theorem fz_en_eq {G : fz_G} {M M1 : fz_M} {c : Nat} {s : fz_Sh} (h1 : M1.1 c = M.1 c) (h2 : M1.2.1 c = M.2.1 c) (h3 : M1.2.2 c = M.2.2 c) : fz_en G M1 c s = fz_en G M c s := by
  unfold fz_en
  cases s with
  | inl a =>
    obtain ⟨k, n, b, st⟩ := a
    match k with
    | 0 => simp only [fz_av, h1]
    | 1 => simp only [fz_av, h1]
    | 2 => simp only [fz_av, h2]
    | k + 3 => rfl
  | inr o => simp only [fz_fv_eq h1 h3]
theorem fz_u1_ne {α : Type} {f : Nat → Nat → α} {c i : Nat} {v : α} {d : Nat} (h : d ≠ c) : fz_u1 f c i v d = f d := by funext j; simp [fz_u1, h]
theorem fz_u1_self {α : Type} {f : Nat → Nat → α} {c i : Nat} {v : α} : fz_u1 f c i v c = fun j => if j = i then v else f c j := by funext j; simp [fz_u1]
/-- the fields' list behind a change of an int -/
theorem fz_fv_put {ad : Nat → Nat} {M : fz_M} {c : Nat} {fs : List (Option (Option Nat))} {k : Nat} (v : Int32) (hk : fs[k]? = some none) : (fz_fv ad M c 0 fs).set k (.int v) = fz_fv ad (fz_sf M c k v) c 0 fs := by
  have hkl : k < fs.length := (List.getElem?_eq_some_iff.mp hk).1
  apply List.ext_getElem?
  intro i
  by_cases hi : i = k
  · subst hi
    rw [List.getElem?_set_self (by rw [fz_fv_len]; exact hkl), fz_fv_get, hk]
    simp [fz_sf, fz_u1_self]
  · rw [List.getElem?_set_ne (Ne.symm hi), fz_fv_get, fz_fv_get]
    cases fs[i]? with
    | none => rfl
    | some f =>
      cases f with
      | none => simp [fz_sf, fz_u1_self, hi]
      | some g => cases g <;> simp [fz_sf]
theorem fz_fv_putd {ad : Nat → Nat} {M : fz_M} {c : Nat} {fs : List (Option (Option Nat))} {k : Nat} (v : Nat) (hk : fs[k]? = some (some none)) : (fz_fv ad M c 0 fs).set k (.ref (ad v)) = fz_fv ad (fz_sd M c k v) c 0 fs := by
  have hkl : k < fs.length := (List.getElem?_eq_some_iff.mp hk).1
  apply List.ext_getElem?
  intro i
  by_cases hi : i = k
  · subst hi
    rw [List.getElem?_set_self (by rw [fz_fv_len]; exact hkl), fz_fv_get, hk]
    simp [fz_sd, fz_u1_self]
  · rw [List.getElem?_set_ne (Ne.symm hi), fz_fv_get, fz_fv_get]
    cases fs[i]? with
    | none => rfl
    | some f =>
      cases f with
      | none => simp [fz_sd]
      | some g => cases g <;> simp [fz_sd, fz_u1_self, hi]
/-! WORDS: all methods stand on the law's words -/
theorem fz_words : GoodIn wsL_law wsL_law := goodIn_sub (fun _ h => h) (by decide +kernel)
/-- a field as a class's instructions name it: class ci, slot j -/
def fz_fl (own : String) (index ci j : Nat) : Prop := ∃ (C : String) (T : u_T) (N : Nat), vwCl[ci]? = some (C, T, N) ∧ (∀ w ∈ u_ws C T N, w ∈ wsL_law) ∧ j < N ∧ Cond.fieldLink own index (T j).1 (T j).2.1 (T j).2.2.1 ∈ wsL_law
/-- .. and as one that may be written -/
def fz_fw (own : String) (index ci j : Nat) (ty : FieldType) : Prop := ∃ (C : String) (T : u_T) (N : Nat) (ty0 : Nat → FieldType), vwCl[ci]? = some (C, T, N) ∧ (∀ w ∈ u_ws C T N, w ∈ wsL_law) ∧ j < N ∧ Cond.fieldLink own index (T j).1 (T j).2.1 (T j).2.2.1 ∈ wsL_law ∧ (∀ k, k < N → parseFieldDescriptor (T k).2.2.1 = some (ty0 k)) ∧ (∀ a, a < N → ∀ b, b < N → a ≠ b → (T a).2.1 ≠ (T b).2.1) ∧ (T j).2.2.2 = false ∧ parseFieldDescriptor (T j).2.2.1 = some ty
def fz_rm (fr lo : Nat) : Room := { frames := fr, cells := 0, slots := 0, locals := lo }
def fz_Pre (G : fz_G) (sh : Nat → fz_Sh) (K : Nat) (M : fz_M) : State → Prop := fun U => va_P G.2.1 vwCl (fz_wl G sh K M) U.heap ∧ fz_F G K U
def fz_Bo (G : fz_G) (sh : Nat → fz_Sh) (K : Nat) : fz_M → State → Prop := fun u t => va_P G.2.1 vwCl (fz_wl G sh K u) t.heap
abbrev fz_Qi (G : fz_G) (sh : Nat → fz_Sh) (K : Nat) (r : Int32) (M : fz_M) : Array Value → State → Outcome → State → Prop := va_Qi (fun (x : Int32) (u : fz_M) => x = r ∧ u = M) (fz_Bo G sh K) (fz_Fr G K)
abbrev fz_Ql (G : fz_G) (sh : Nat → fz_Sh) (K : Nat) (r : Int64) (M : fz_M) : Array Value → State → Outcome → State → Prop := va_Ql (fun (x : Int64) (u : fz_M) => x = r ∧ u = M) (fz_Bo G sh K) (fz_Fr G K)
abbrev fz_Qv (G : fz_G) (sh : Nat → fz_Sh) (K : Nat) (M : fz_M) : Array Value → State → Outcome → State → Prop := va_Qv (fun (u : fz_M) => u = M) (fz_Bo G sh K) (fz_Fr G K)
/-- the contract of a method: its arguments, the world before it, what its end says -/
abbrev fz_Me (l : Launch) (y : MethodName) (cd : ByteArray) (n : Nat) (rt : Option FieldType) (fr lo : Nat) (G : fz_G) (sh : Nat → fz_Sh) (K : Nat) (As : List Value) (M : fz_M) (Q : Array Value → State → Outcome → State → Prop) : Prop := Met l y (Cond.code y cd n rt :: wsL_law) (fz_rm fr lo) (va_Pc As (fz_Pre G sh K M)) Q 0 0 (fz_Fr G K)
theorem fz_blind {G : fz_G} {sh : Nat → fz_Sh} {K : Nat} {M : fz_M} {As : List Value} : FrameBlind (va_Pc As (fz_Pre G sh K M)) := fun a U g mk q => ⟨q.1, q.2.1, va_K.moved (u := U) (U := U.calling g mk a) (Vm.Alike.refl U.vm) q.2.2.1, q.2.2.2⟩
/-- a call's words -/
def fz_lv (own : String) (index : Nat) (y : MethodName) (cd : ByteArray) (n : Nat) (rt : Option FieldType) (C : String) (np : Nat) : Prop :=
  Cond.methodLink own index y ∈ wsL_law ∧ Cond.instanceMethod y ∈ wsL_law ∧ Cond.selects C y y ∈ wsL_law ∧ Cond.initialized C ∈ wsL_law ∧ Cond.code y cd n rt ∈ wsL_law ∧ y.cls = C ∧ (y.cls ≠ "java/lang/invoke/MethodHandle" ∧ y.cls ≠ "java/lang/invoke/VarHandle" ∧ (parseMethodDescriptor y.desc).map (fun d => d.parameters.length) = some np)
def fz_ls (own : String) (index : Nat) (y : MethodName) (cd : ByteArray) (n : Nat) (rt : Option FieldType) (np : Nat) : Prop :=
  Cond.methodLink own index y ∈ wsL_law ∧ Cond.static y ∈ wsL_law ∧ Cond.initialized own ∈ wsL_law ∧ Cond.code y cd n rt ∈ wsL_law ∧ y.cls = own ∧ (y.cls ≠ "java/lang/invoke/MethodHandle" ∧ y.cls ≠ "java/lang/invoke/VarHandle" ∧ (parseMethodDescriptor y.desc).map (fun d => d.parameters.length) = some np)
theorem fz_goodV {own : String} {index : Nat} {y : MethodName} {cd : ByteArray} {n : Nat} {rt : Option FieldType} {C : String} {np : Nat} (h : fz_lv own index y cd n rt C np) : GoodIn wsL_law (wsV own index C y (Cond.code y cd n rt :: wsL_law)) := by
  obtain ⟨h1, h2, h3, h4, h5, -⟩ := h
  intro w hw
  unfold wsV at hw
  rcases List.mem_append.mp hw with h | h
  · simp only [List.mem_cons, List.not_mem_nil, or_false] at h
    rcases h with rfl | rfl | rfl | rfl <;> exact fz_words _ (by assumption)
  · rcases List.mem_cons.mp h with rfl | h
    · exact fz_words _ h5
    · exact fz_words _ h
theorem fz_goodS {own : String} {index : Nat} {y : MethodName} {cd : ByteArray} {n : Nat} {rt : Option FieldType} {np : Nat} (h : fz_ls own index y cd n rt np) : GoodIn wsL_law (wsS own index y (Cond.code y cd n rt :: wsL_law)) := by
  obtain ⟨h1, h2, h3, h4, -⟩ := h
  intro w hw
  unfold wsS at hw
  rcases List.mem_append.mp hw with h | h
  · simp only [List.mem_cons, List.not_mem_nil, or_false] at h
    rcases h with rfl | rfl | rfl <;> exact fz_words _ (by assumption)
  · rcases List.mem_cons.mp h with rfl | h
    · exact fz_words _ h4
    · exact fz_words _ h
