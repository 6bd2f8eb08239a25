/-! CONSTRUCTORS: worlds as lists, the newest cell first -/
def fz_N (D : va_G) (A : Nat → Prop) (s : State) (ws : va_W) (H : Heap) (locs : List Loc) : Prop := va_P D vwCl ws H ∧ va_D A ws ∧ va_S A s.heap H locs
theorem fz_Pm {D : va_G} {cl : List vw_C} {ws : va_W} {H : Heap} : va_P D cl ws H ↔ ∀ q ∈ ws, va_at D cl q H :=
  ⟨fun h q hq => by obtain ⟨k, hk⟩ := List.getElem?_of_mem hq; exact h k q hk, fun h k q hk => h q (List.mem_of_getElem? hk)⟩
theorem fz_Dm {A : Nat → Prop} {ws : va_W} : va_D A ws ↔ (ws.map Prod.fst).Nodup ∧ ∀ q ∈ ws, A q.1 := by
  constructor
  · intro h
    refine ⟨?_, fun q hq => by obtain ⟨k, hk⟩ := List.getElem?_of_mem hq; exact h.2 k q hk⟩
    unfold List.Nodup
    rw [List.pairwise_iff_getElem]
    intro i j hi hj hij he
    have hi' : i < ws.length := by simpa using hi
    have hj' : j < ws.length := by simpa using hj
    have := h.1 i j ws[i] ws[j] (List.getElem?_eq_getElem hi') (List.getElem?_eq_getElem hj') (by simpa using he)
    omega
  · rintro ⟨h1, h2⟩
    unfold List.Nodup at h1
    rw [List.pairwise_iff_getElem] at h1
    refine ⟨fun i j p q hi hj hpq => ?_, fun k q hk => h2 q (List.mem_of_getElem? hk)⟩
    obtain ⟨hi1, hi2⟩ := List.getElem?_eq_some_iff.mp hi
    obtain ⟨hj1, hj2⟩ := List.getElem?_eq_some_iff.mp hj
    rcases Nat.lt_trichotomy i j with h | h | h
    · exact (h1 i j (by simpa using hi1) (by simpa using hj1) h (by simp [hi2, hj2, hpq])).elim
    · exact h
    · exact (h1 j i (by simpa using hj1) (by simpa using hi1) h (by simp [hi2, hj2, hpq])).elim
theorem fz_N.perm {D : va_G} {A : Nat → Prop} {s : State} {ws ws' : va_W} {H : Heap} {locs : List Loc} (h : fz_N D A s ws H locs) (hp : ws.Perm ws') : fz_N D A s ws' H locs := by
  refine ⟨fz_Pm.mpr fun q hq => fz_Pm.mp h.1 q (hp.mem_iff.mpr hq), fz_Dm.mpr ⟨?_, fun q hq => (fz_Dm.mp h.2.1).2 q (hp.mem_iff.mpr hq)⟩, h.2.2⟩
  exact (hp.map Prod.fst).nodup_iff.mp (fz_Dm.mp h.2.1).1
theorem fz_same {s : State} {c1 c2 : ClassId} {ty : FieldType} (h1 : va_RA s c1 ty) (h2 : va_RA s c2 ty) : c1 = c2 := by
  cases ty with
  | object C =>
    obtain ⟨_, _, _, _, _, h1⟩ := h1
    obtain ⟨_, _, _, _, _, h2⟩ := h2
    exact Option.some.inj (h1.symm.trans h2)
  | _ => exact Option.some.inj (Eq.symm (Eq.trans (Eq.symm h2) h1))
def fz_nests : List Cond := [.methodLinkNest RX8 9 yX1_init RX8, .methodLinkNest RX8 18 yX4_init RX8, .methodLinkNest RX0 17 yX6_init RX8, .methodLinkNest RX8 32 yX2_init RX8, .methodLinkNest RX8 39 yX7_init RX8, .methodLinkNest RX8 46 yX5_init RX8, .methodLinkNest RX8 53 yX6_init RX8, .methodLinkNest RX8 68 yX3_init RX8]
/-- what constructors take of the tables beside the words -/
def fz_CP (G : fz_G) (U : State) : Prop := va_K G.2.1 vwCl (fz_ty G) U ∧ va_AO "FurnitureByFlood$Stand" U ∧ (Cond.arrayOver (.array .int)).before #[] U = true ∧ ∀ w ∈ fz_nests, va_Nw w U
theorem fz_CP.warm {G : fz_G} {u U : State} (hW : u.WarmedH U.vm) (h : fz_CP G u) : fz_CP G U := by
  refine ⟨va_K.moved hW.alike h.1, va_AO.moved hW.alike h.2.1, over_moved hW.alike h.2.2.1, ?_⟩
  intro w hw
  have h4 := h.2.2.2 w hw
  simp only [fz_nests, List.mem_cons, List.not_mem_nil, or_false] at hw
  rcases hw with rfl | rfl | rfl | rfl | rfl | rfl | rfl | rfl <;> exact va_Nw.warmM hW h4
theorem fz_CP.same {G : fz_G} {u U : State} (hv : u.vm = U.vm) (h : fz_CP G u) : fz_CP G U := by
  have hal : u.vm.Alike U.vm := by rw [hv]; exact Vm.Alike.refl _
  refine ⟨va_K.moved hal h.1, va_AO.moved hal h.2.1, over_moved hal h.2.2.1, ?_⟩
  intro w hw
  have h4 := h.2.2.2 w hw
  simp only [fz_nests, List.mem_cons, List.not_mem_nil, or_false] at hw
  rcases hw with rfl | rfl | rfl | rfl | rfl | rfl | rfl | rfl <;> exact va_Nw.same rfl hv h4
def fz_rmc (fr mc ms lo : Nat) : Room := { frames := fr, cells := mc, slots := ms, locals := lo }
abbrev fz_A0 (h0 ci : Nat) (nu : List Value) (sz : Nat) : Nat → Prop := va_A [(h0, .inr (ci, nu))] sz
/-- a constructor: from an object of defaults to the block B -/
def fz_Ct (l : Launch) (y : MethodName) (cd : ByteArray) (n fr lo mc ms : Nat) (G : fz_G) (ci : Nat) (nu : List Value) (B : (Nat → Nat) → va_W) : Prop :=
  ∀ h0 sz : Nat, Met l y (Cond.code y cd n none :: wsL_law) (fz_rmc fr mc ms lo) (va_Pc [.ref h0] (fun U => U.heap.size = sz ∧ va_P G.2.1 vwCl [(h0, .inr (ci, nu))] U.heap ∧ fz_CP G U)) (va_Qv (fun a : Nat → Nat => a 0 = h0) (fun a t => va_P G.2.1 vwCl (B a) t.heap ∧ va_D (fz_A0 h0 ci nu sz) (B a)) (fz_A0 h0 ci nu sz)) mc ms (fz_A0 h0 ci nu sz)
def fz_ff (own : String) (index ci j : Nat) (ty : FieldType) : Prop := ∃ (C : String) (T : u_T) (N : Nat) (ty0 : Nat → FieldType), vwCl[ci]? = some (C, T, N) ∧ (∀ w ∈ u_ws C T N, w ∈ wsL_law) ∧ j < N ∧ Cond.fieldLink own index (T j).1 (T j).2.1 (T j).2.2.1 ∈ wsL_law ∧ (∀ k, k < N → parseFieldDescriptor (T k).2.2.1 = some (ty0 k)) ∧ (∀ a, a < N → ∀ b, b < N → a ≠ b → (T a).2.1 ≠ (T b).2.1) ∧ (T j).2.2.2 = true ∧ (T j).1 = own ∧ parseFieldDescriptor (T j).2.2.1 = some ty
section FZCT
variable {p : Program} {l : Launch} {e : Env} {R : Room} {s : State} {m : MethodId} {args : Array Value} {below : List Frame} {meth : Method} {c : Code} {H : Heap} {locs : List Loc} {Q : State → Prop} {cc : ByteArray} {nL pc cells slots : Nat} {own : String} {ls : Array Slot} {rest : List Value}
variable {G : fz_G} {A : Nat → Prop} {ws : va_W} {ci index : Nat}
theorem fz_cbody {y : MethodName} {cd : ByteArray} {n fr lo mc ms : Nat} {nu : List Value} {B : (Nat → Nat) → va_W} (hy : plainName y.cls = true) (hname : y.name = "<init>") (hlen : 1 ≤ n)
    (body : ∀ (p : Program) (e : Env) (s : State) (m : MethodId) (args : Array Value) (below : List Frame) (meth : Method) (c : Code) (H : Heap) (locs : List Loc) (ls : Array Slot) (h0 : Nat) (A : Nat → Prop), CallFix p m c cd n s args wsL_law y.cls → meth.sig.returnType = none → meth.locks = false → meth.name = "<init>" → fz_CP G s → (∀ q, s.heap.size ≤ q → A q) → fz_N G.2.1 A s [(h0, .inr (ci, nu))] H locs → lv_has ls n [(0, .ref h0)] →
      W p l e (fz_rmc fr mc ms lo) s m args below meth c H locs 0 0 (MQ below (va_Qv (fun a : Nat → Nat => a 0 = h0) (fun a t => va_P G.2.1 vwCl (B a) t.heap ∧ va_D A (B a)) A) args s mc ms A) (F0 m 0 ls [])) : fz_Ct l y cd n fr lo mc ms G ci nu B := by
  intro h0 sz
  refine Met.ofW (cc := cd) (maxL := n) (ret := none) hy rfl ?_
  intro p e s m args below meth c s₁ B0 hml hv
  obtain ⟨rfl, hsz, hP, hCP⟩ := hv
  subst hsz
  have hts := atoms_spec (ws := Cond.code y cd n none :: wsL_law) B0.pre
  have hin : meth.name = "<init>" := ((name_of_methodNamed B0.named B0.method).1).trans hname
  have hl := lv_entry [.ref h0] (n := n) hlen
  rw [lg_entry_eq]
  have hD0 : va_D (fun _ => True) [(h0, (Sum.inr (ci, nu) : va_E))] := ⟨fun i j p q hi hj _ => by
    have h1 := (List.getElem?_eq_some_iff.mp hi).1
    have h2 := (List.getElem?_eq_some_iff.mp hj).1
    simp at h1 h2
    omega, fun _ _ _ => trivial⟩
  exact body p e s m _ below meth c s.heap [] _ h0 _ ⟨B0.exec, B0.bytes, hml, findClass_of_methodNamed B0.named, fun w hw => hts w (List.mem_cons_of_mem _ hw)⟩ B0.returns B0.notSynchronized hin hCP (fun q h => Or.inr h) ⟨hP, hD0.self, va_S.rf⟩ hl
theorem fz_cret {B : (Nat → Nat) → va_W} {h0 : Nat} (C : CallFix p m c cc nL s args wsL_law own) (hr : meth.sig.returnType = none) (hk : meth.locks = false) (a : Nat → Nat) (ha : a 0 = h0) (hN : fz_N G.2.1 A s (B a) H locs) (hdg : decode cc pc = .ok (.return_, 1)) : W p l e R s m args below meth c H locs cells slots (MQ below (va_Qv (fun a : Nat → Nat => a 0 = h0) (fun a t => va_P G.2.1 vwCl (B a) t.heap ∧ va_D A (B a)) A) args s cells slots A) (F0 m pc ls []) :=
  W.vret C.1 C.2.1 hr (fun t ht _ => ⟨⟨a, rfl, ha, by rw [ht]; exact hN.1, hN.2.1⟩, hN.2.2.F ht⟩) hN.2.2.2.2 hdg hk
theorem fz_oinit {x : Nat} (C : CallFix p m c cc nL s args wsL_law own) (h1 : Cond.methodLink own index objectInit ∈ wsL_law) (hls : ls.size = nL) (hdg : decode cc pc = .ok (.invokespecial index, 3)) (hfr : 1 ≤ R.frames) (hlo : 12 ≤ R.locals)
    (k : W p l e R s m args below meth c H locs cells slots Q (F0 m (pc + 3) ls [])) : W p l e R s m args below meth c H locs cells slots Q (F0 m pc ls [.ref x]) := by
  refine W.objInit C.1 C.2.1 C.2.2.2.1 (C.2.2.2.2 _ h1) (C.2.2.2.2 _ (fz_q1 _ (List.mem_of_getElem? (i := 11) rfl))) (C.2.2.2.2 _ (fz_q1 _ (List.mem_of_getElem? (i := 12) rfl))) (g := F0 m pc ls [.ref x]) rfl (by rw [C.2.2.1]; exact hls) rfl hdg hfr (by show 2 * 0 + 0 + 12 ≤ _; omega) ?_
  exact k
theorem fz_new {C1 : String} {T : u_T} {N : Nat} (tyf : Nat → FieldType) (C : CallFix p m c cc nL s args wsL_law own) (hK : va_K G.2.1 vwCl (fz_ty G) s) (hA : ∀ q, s.heap.size ≤ q → A q) (hN : fz_N G.2.1 A s ws H locs) (hc : vwCl[ci]? = some (C1, T, N)) (hin : ∀ w ∈ u_ws C1 T N, w ∈ wsL_law) (hty : ∀ k, k < N → parseFieldDescriptor (T k).2.2.1 = some (tyf k)) (h1 : Cond.classLink own index C1 ∈ wsL_law) (h2 : Cond.instantiable C1 N ∈ wsL_law) (h3 : Cond.initialized C1 ∈ wsL_law) {fs : List Value} (hfs : ∀ j, j < N → defaultValue (tyf j) = vp_V fs j) (hcells : cells + 1 ≤ R.cells) (hslots : slots + N ≤ R.slots) (hdg : decode cc pc = .ok (.new index, 3))
    (k : ∀ (q : Nat) (H1 : Heap), fz_N G.2.1 A s ((q, .inr (ci, fs)) :: ws) H1 locs → W p l e R s m args below meth c H1 locs (cells + 1) (slots + N) Q (F0 m (pc + 3) ls (.ref q :: rest))) : W p l e R s m args below meth c H locs cells slots Q (F0 m pc ls rest) := by
  refine va_new (ci := ci) (fs := fs) (C := C1) (T := T) (N := N) C.1 C.2.1 C.2.2.2.2 hin tyf hty C.2.2.2.1 (C.2.2.2.2 _ h1) (C.2.2.2.2 _ h2) (C.2.2.2.2 _ h3) hK hN.1 hN.2.1 hN.2.2 hA hc hfs hcells hslots hdg (fun q H1 hP hD hS => k q H1 ?_)
  exact fz_N.perm ⟨hP, hD, hS⟩ (List.perm_append_singleton _ _)
theorem fz_narr {atype : ArrayType} {ty : FieldType} {i N' : Nat} {a0 : vp_A} {n : Int32} (C : CallFix p m c cc nL s args wsL_law own) (hK : va_K G.2.1 vwCl (fz_ty G) s) (hA : ∀ q, s.heap.size ≤ q → A q) (hN : fz_N G.2.1 A s ws H locs) (hty : newarray.typeOf atype = ty) (ht : (fz_ty G)[i]? = some (G.2.2 i, ty)) (hw : Cond.arrayClass (newarray.typeOf atype) ∈ wsL_law) (ha : ∀ cA : ClassId, vp_cell cA a0 = arrV cA N' (fun _ => defaultValue ty)) (hn : ¬ n < 0) (hNn : n.toNatClampNeg = N') (hby : N' * componentBytes ty ≤ 536870912) (hcells : cells + 1 ≤ R.cells) (hslots : slots + N' ≤ R.slots) (hdg : decode cc pc = .ok (.newarray atype, 2))
    (k : ∀ (q : Nat) (H1 : Heap), fz_N G.2.1 A s ((q, .inl (G.2.2 i, a0)) :: ws) H1 locs → W p l e R s m args below meth c H1 locs (cells + 1) (slots + N') Q (F0 m (pc + 2) ls (.ref q :: rest))) : W p l e R s m args below meth c H locs cells slots Q (F0 m pc ls (.int n :: rest)) := by
  refine va_newa (atype := atype) (ty := ty) C.1 C.2.1 (C.2.2.2.2 _ hw) hty hK hN.1 hN.2.1 hN.2.2 hA ha hn hNn hby hcells hslots hdg (fun q cA H1 hK1 hP hD hS => k q H1 ?_)
  have e : cA = G.2.2 i := fz_same (hK1.2 (fz_ty G).length (cA, ty) (by simp)).2 (hK.2 i _ ht).2
  subst e
  exact fz_N.perm ⟨hP, hD, hS⟩ (List.perm_append_singleton _ _)
theorem fz_nref {N' : Nat} {n : Int32} (C : CallFix p m c cc nL s args wsL_law own) (hC : fz_CP G s) (hA : ∀ q, s.heap.size ≤ q → A q) (hN : fz_N G.2.1 A s ws H locs) (h1 : Cond.classLink own index RX6 ∈ wsL_law) (hn : ¬ n < 0) (hNn : n.toNatClampNeg = N') (hby : N' * 4 ≤ 536870912) (hcells : cells + 1 ≤ R.cells) (hslots : slots + N' ≤ R.slots) (hdg : decode cc pc = .ok (.anewarray index, 3))
    (k : ∀ (q : Nat) (H1 : Heap), fz_N G.2.1 A s ((q, .inl (G.2.2 3, N', .inr (.inr (.inr (.inr (fun _ => none)))))) :: ws) H1 locs → W p l e R s m args below meth c H1 locs (cells + 1) (slots + N') Q (F0 m (pc + 3) ls (.ref q :: rest))) : W p l e R s m args below meth c H locs cells slots Q (F0 m pc ls (.int n :: rest)) := by
  refine va_newq (C := "FurnitureByFlood$Stand") C.1 C.2.1 C.2.2.2.1 (C.2.2.2.2 _ h1) hC.2.1 hC.1 hN.1 hN.2.1 hN.2.2 hA hn hNn hby hcells hslots hdg (fun q cA H1 hK1 hP hD hS => k q H1 ?_)
  have e : cA = G.2.2 3 := fz_same (hK1.2 (fz_ty G).length (cA, .object "FurnitureByFlood$Stand") (by simp)).2 (hC.1.2 3 _ rfl).2
  subst e
  exact fz_N.perm ⟨hP, hD, hS⟩ (List.perm_append_singleton _ _)
theorem fz_pF {x j : Nat} {fs : List Value} {ty : FieldType} {v : Value} (q0 : Nat) (C : CallFix p m c cc nL s args wsL_law own) (hi : meth.name = "<init>") (hK : va_K G.2.1 vwCl (fz_ty G) s) (hN : fz_N G.2.1 A s ws H locs) (he : ws[q0]? = some (x, .inr (ci, fs))) (hl : fz_ff own index ci j ty) (hn : narrow ty v = v) (hf : fits ty v = true) (hj : j < fs.length) (hdg : decode cc pc = .ok (.putfield index, 3))
    (k : ∀ (H1 : Heap) (locs1 : List Loc), fz_N G.2.1 A s (ws.set q0 (x, .inr (ci, fs.set j v))) H1 locs1 → W p l e R s m args below meth c H1 locs1 cells slots Q (F0 m (pc + 3) ls rest)) : W p l e R s m args below meth c H locs cells slots Q (F0 m pc ls (v :: .ref x :: rest)) := by
  obtain ⟨Cn, T, N, ty0, h1, h2, h3, h4, h5, h6, h7, h8, h9⟩ := hl
  exact va_putF (D := G.2.1) (ci := ci) (v := v) (ty := ty) C.1 C.2.1 C.2.2.2.2 h2 ty0 h5 h6 C.2.2.2.1 hK hN.1 hN.2.1 hN.2.2 q0 he h1 j h3 (C.2.2.2.2 _ h4) (fun _ q => q) h7 hi h8 h9 hn hf hj hdg (fun H1 locs1 hP hD hS => k H1 locs1 ⟨hP, hD, hS⟩)
theorem fz_pN {x j : Nat} {fs : List Value} {ty : FieldType} {v : Value} (q0 : Nat) (C : CallFix p m c cc nL s args wsL_law own) (hK : va_K G.2.1 vwCl (fz_ty G) s) (hN : fz_N G.2.1 A s ws H locs) (he : ws[q0]? = some (x, .inr (ci, fs))) (hl : fz_fw own index ci j ty) (hn : narrow ty v = v) (hf : fits ty v = true) (hj : j < fs.length) (hdg : decode cc pc = .ok (.putfield index, 3))
    (k : ∀ (H1 : Heap) (locs1 : List Loc), fz_N G.2.1 A s (ws.set q0 (x, .inr (ci, fs.set j v))) H1 locs1 → W p l e R s m args below meth c H1 locs1 cells slots Q (F0 m (pc + 3) ls rest)) : W p l e R s m args below meth c H locs cells slots Q (F0 m pc ls (v :: .ref x :: rest)) := by
  obtain ⟨Cn, T, N, ty0, h1, h2, h3, h4, h5, h6, h7, h8⟩ := hl
  exact va_put (D := G.2.1) (ci := ci) (v := v) (ty := ty) C.1 C.2.1 C.2.2.2.2 h2 ty0 h5 h6 C.2.2.2.1 hK hN.1 hN.2.1 hN.2.2 q0 he h1 j h3 (C.2.2.2.2 _ h4) (fun _ q => q) h7 h8 hn hf hj hdg (fun H1 locs1 hP hD hS => k H1 locs1 ⟨hP, hD, hS⟩)
theorem fz_gN {x j : Nat} {fs : List Value} {v : Value} (q0 : Nat) (C : CallFix p m c cc nL s args wsL_law own) (hK : va_K G.2.1 vwCl (fz_ty G) s) (hN : fz_N G.2.1 A s ws H locs) (he : ws[q0]? = some (x, .inr (ci, fs))) (hl : fz_fl own index ci j) (hv : fs[j]? = some v) (hdg : decode cc pc = .ok (.getfield index, 3))
    (k : W p l e R s m args below meth c H locs cells slots Q (F0 m (pc + 3) ls (v :: rest))) : W p l e R s m args below meth c H locs cells slots Q (F0 m pc ls (.ref x :: rest)) := by
  obtain ⟨Cn, T, N, h1, h2, h3, h4⟩ := hl
  exact va_get (D := G.2.1) (ci := ci) (v := v) C.1 C.2.1 C.2.2.2.2 h2 C.2.2.2.1 hK hN.1 q0 he h1 j h3 (C.2.2.2.2 _ h4) (fun _ q => q) hv hdg k
/-- the worlds behind a call -/
theorem fz_joinN {q : Nat} {e0 : va_E} {w1 : va_W} {H1 : Heap} {locs1 : List Loc} (hA : ∀ q, s.heap.size ≤ q → A q) (hN : fz_N G.2.1 A s ((q, e0) :: ws) H locs) (hk : ∀ x : Nat, x < H.size → ¬ va_A [(q, e0)] H.size x → H1[x]? = H[x]?) (hP1 : va_P G.2.1 vwCl w1 H1) (hD1 : va_D (va_A [(q, e0)] H.size) w1) (hS : va_S A s.heap H1 locs1) : fz_N G.2.1 A s (w1 ++ ws) H1 locs1 := by
  have hat := fz_Pm.mp hN.1
  have hnd := (fz_Dm.mp hN.2.1)
  rw [List.map_cons, List.nodup_cons] at hnd
  have hne : ∀ x ∈ ws, ¬ va_A [(q, e0)] H.size x.1 := by
    intro x hx h
    rcases h with ⟨k, e, h⟩ | h
    · have hm := List.mem_of_getElem? h
      rw [List.mem_singleton] at hm
      have : x.1 = q := congrArg Prod.fst hm
      exact hnd.1.1 (List.mem_map.mpr ⟨x, hx, this⟩)
    · have := (hat x (List.mem_cons_of_mem _ hx)).lt
      omega
  have hAq : A q := hnd.2 (q, e0) List.mem_cons_self
  refine ⟨fz_Pm.mpr fun x hx => ?_, fz_Dm.mpr ⟨?_, fun x hx => ?_⟩, hS⟩
  · rcases List.mem_append.mp hx with h | h
    · exact fz_Pm.mp hP1 x h
    · exact (hat x (List.mem_cons_of_mem _ h)).kept (hk _ (hat x (List.mem_cons_of_mem _ h)).lt (hne x h))
  · rw [List.map_append, List.nodup_append]
    refine ⟨(fz_Dm.mp hD1).1, hnd.1.2, ?_⟩
    intro u hu v hv huv
    obtain ⟨x, hx, rfl⟩ := List.mem_map.mp hu
    obtain ⟨z, hz, rfl⟩ := List.mem_map.mp hv
    exact hne z hz (huv ▸ (fz_Dm.mp hD1).2 x hx)
  · rcases List.mem_append.mp hx with h | h
    · rcases (fz_Dm.mp hD1).2 x h with ⟨k, e, h⟩ | h
      · have hm := List.mem_of_getElem? h
        rw [List.mem_singleton] at hm
        have : x.1 = q := congrArg Prod.fst hm
        rw [this]; exact hAq
      · exact hA _ (Nat.le_trans hN.2.2.1 h)
    · exact hnd.2 x (List.mem_cons_of_mem _ h)
theorem fz_ctor {y : MethodName} {cd : ByteArray} {ny fr lo mc ms q : Nat} {nu : List Value} {B : (Nat → Nat) → va_W} (C : CallFix p m c cc nL s args wsL_law own) (hC : fz_CP G s) (hA : ∀ q, s.heap.size ≤ q → A q) (hN : fz_N G.2.1 A s ((q, .inr (ci, nu)) :: ws) H locs) (hc : fz_Ct l y cd ny fr lo mc ms G ci nu B)
    (h1 : Cond.methodLinkNest own index y RX8 ∈ fz_nests) (h2 : Cond.instanceMethod y ∈ wsL_law) (h3 : Cond.initialized y.cls ∈ wsL_law) (h4 : Cond.code y cd ny none ∈ wsL_law) (hy : y.name = "<init>") (hd : y.cls ≠ "java/lang/invoke/MethodHandle" ∧ y.cls ≠ "java/lang/invoke/VarHandle" ∧ (parseMethodDescriptor y.desc).map (fun d => d.parameters.length) = some 0)
    (hls : ls.size = nL) (hro : (rest.map fun v => v.category).sum ≤ 8) (hR : fr + 1 ≤ R.frames ∧ 8 + (ny + 11) + lo ≤ R.locals) (hf : cells + mc ≤ R.cells ∧ slots + ms ≤ R.slots) (hdg : decode cc pc = .ok (.invokespecial index, 3))
    (k : ∀ (a : Nat → Nat) (H1 : Heap) (locs1 : List Loc), a 0 = q → fz_N G.2.1 A s (B a ++ ws) H1 locs1 → W p l e R s m args below meth c H1 locs1 (cells + mc) (slots + ms) Q (F0 m (pc + 3) ls rest)) : W p l e R s m args below meth c H locs cells slots Q (F0 m pc ls (.ref q :: rest)) := by
  have hG : GoodIn wsL_law (Cond.code y cd ny none :: wsL_law) := fun w hw => by
    rcases List.mem_cons.mp hw with rfl | h
    · exact fz_words _ h4
    · exact fz_words _ h
  have hAq : A q := (fz_Dm.mp hN.2.1).2 (q, .inr (ci, nu)) List.mem_cons_self
  have hsub : ∀ x, fz_A0 q ci nu H.size x → A x := by
    rintro x (⟨k, e, h⟩ | h)
    · have hm := List.mem_of_getElem? h
      rw [List.mem_singleton] at hm
      have : x = q := congrArg Prod.fst hm
      rw [this]; exact hAq
    · exact hA _ (Nat.le_trans hN.2.2.1 h)
  refine va_callv (va_runIN (host := RX8) (As := []) (rest := rest) C (hc q H.size) ⟨va_cnB 0 C.2.2.2.2 hG rfl rfl rfl (hC.2.2.2 _ h1) (C.2.2.2.2 _ h3) hd hR, hy, C.2.2.2.2 _ h2⟩ ⟨fun a U g mk h => ⟨h.1, h.2.1, h.2.2.1, fz_CP.same (u := U) (U := U.calling g mk a) rfl h.2.2.2⟩, fun U hU hW => ⟨rfl, by rw [hU], by rw [hU]; exact fz_Pm.mpr fun x hx => by rw [List.mem_singleton.mp hx]; exact fz_Pm.mp hN.1 _ List.mem_cons_self, hC.warm hW⟩⟩ rfl rfl hls rfl (lv_room hro) hdg hf) hN.2.2 (fun x _ h => hsub x h) hsub (fun a t H1 locs1 ht _ ha hB _ hk hS => ?_)
  obtain ⟨hP1, hD1⟩ := hB
  rw [ht] at hP1
  exact k a H1 locs1 ha (fz_joinN hA hN hk hP1 hD1 hS)
/-- the same by an open link (a constructor that is not private) -/
theorem fz_ctorO {y : MethodName} {cd : ByteArray} {ny fr lo mc ms q : Nat} {nu : List Value} {B : (Nat → Nat) → va_W} (C : CallFix p m c cc nL s args wsL_law own) (hC : fz_CP G s) (hA : ∀ q, s.heap.size ≤ q → A q) (hN : fz_N G.2.1 A s ((q, .inr (ci, nu)) :: ws) H locs) (hc : fz_Ct l y cd ny fr lo mc ms G ci nu B)
    (h1 : Cond.methodLink own index y ∈ wsL_law) (h2 : Cond.instanceMethod y ∈ wsL_law) (h3 : Cond.initialized y.cls ∈ wsL_law) (h4 : Cond.code y cd ny none ∈ wsL_law) (hy : y.name = "<init>") (hd : y.cls ≠ "java/lang/invoke/MethodHandle" ∧ y.cls ≠ "java/lang/invoke/VarHandle" ∧ (parseMethodDescriptor y.desc).map (fun d => d.parameters.length) = some 0)
    (hls : ls.size = nL) (hro : (rest.map fun v => v.category).sum ≤ 8) (hR : fr + 1 ≤ R.frames ∧ 8 + (ny + 11) + lo ≤ R.locals) (hf : cells + mc ≤ R.cells ∧ slots + ms ≤ R.slots) (hdg : decode cc pc = .ok (.invokespecial index, 3))
    (k : ∀ (a : Nat → Nat) (H1 : Heap) (locs1 : List Loc), a 0 = q → fz_N G.2.1 A s (B a ++ ws) H1 locs1 → W p l e R s m args below meth c H1 locs1 (cells + mc) (slots + ms) Q (F0 m (pc + 3) ls rest)) : W p l e R s m args below meth c H locs cells slots Q (F0 m pc ls (.ref q :: rest)) := by
  have hG : GoodIn wsL_law (Cond.code y cd ny none :: wsL_law) := fun w hw => by
    rcases List.mem_cons.mp hw with rfl | h
    · exact fz_words _ h4
    · exact fz_words _ h
  have hAq : A q := (fz_Dm.mp hN.2.1).2 (q, .inr (ci, nu)) List.mem_cons_self
  have hsub : ∀ x, fz_A0 q ci nu H.size x → A x := by
    rintro x (⟨k, e, h⟩ | h)
    · have hm := List.mem_of_getElem? h
      rw [List.mem_singleton] at hm
      have : x = q := congrArg Prod.fst hm
      rw [this]; exact hAq
    · exact hA _ (Nat.le_trans hN.2.2.1 h)
  refine va_callv (va_runI (As := []) (rest := rest) C (hc q H.size) (cwI 0 C.2.2.2.2 hG rfl rfl rfl (C.2.2.2.2 _ h3) (C.2.2.2.2 _ h1) (C.2.2.2.2 _ h2) hy hd hR) ⟨fun a U g mk h => ⟨h.1, h.2.1, h.2.2.1, fz_CP.same (u := U) (U := U.calling g mk a) rfl h.2.2.2⟩, fun U hU hW => ⟨rfl, by rw [hU], by rw [hU]; exact fz_Pm.mpr fun x hx => by rw [List.mem_singleton.mp hx]; exact fz_Pm.mp hN.1 _ List.mem_cons_self, hC.warm hW⟩⟩ rfl rfl hls rfl (lv_room hro) hdg hf) hN.2.2 (fun x _ h => hsub x h) hsub (fun a t H1 locs1 ht _ ha hB _ hk hS => ?_)
  obtain ⟨hP1, hD1⟩ := hB
  rw [ht] at hP1
  exact k a H1 locs1 ha (fz_joinN hA hN hk hP1 hD1 hS)
end FZCT
