section FZROWS
variable {p : Program} {l : Launch} {e : Env} {R : Room} {s : State} {m : MethodId} {args : Array Value} {below : List Frame} {meth : Method} {c : Code} {H : Heap} {locs : List Loc} {Q : State → Prop} {cc : ByteArray} {nL pc : Nat} {own : String} {ls : Array Slot} {rest : List Value}
variable {G : fz_G} {sh : Nat → fz_Sh} {K : Nat} {M : fz_M} {x ci j n b st index : Nat} {fs : List (Option (Option Nat))}
theorem fz_geti (C : CallFix p m c cc nL s args wsL_law own) (hF : fz_F G K s) (hT : fz_T G sh K s M H locs) (hc : fz_ob sh K x ci fs) (hj : fs[j]? = some none) (hl : fz_fl own index ci j) (hdg : decode cc pc = .ok (.getfield index, 3))
    (k : W p l e R s m args below meth c H locs 0 0 Q (F0 m (pc + 3) ls (.int (fz_f M x j) :: rest))) : W p l e R s m args below meth c H locs 0 0 Q (F0 m pc ls (.ref (G.1 x) :: rest)) := by
  obtain ⟨Cn, T, N, h1, h2, h3, h4⟩ := hl
  refine va_get (D := G.2.1) (ci := ci) (v := .int (fz_f M x j)) (fs := fz_fv G.1 M x 0 fs) C.1 C.2.1 C.2.2.2.2 h2 C.2.2.2.1 hF.1 hT.1 x (by rw [fz_wl_at G sh M hc.1, hc.2]; rfl) h1 j h3 (C.2.2.2.2 _ h4) (fun _ q => q) ?_ hdg k
  rw [fz_fv_get, hj]
  simp [fz_f]
theorem fz_getr (C : CallFix p m c cc nL s args wsL_law own) (hF : fz_F G K s) (hT : fz_T G sh K s M H locs) (hc : fz_ob sh K x ci fs) {q : Nat} (hj : fs[j]? = some (some (some q))) (hl : fz_fl own index ci j) (hdg : decode cc pc = .ok (.getfield index, 3))
    (k : W p l e R s m args below meth c H locs 0 0 Q (F0 m (pc + 3) ls (.ref (G.1 q) :: rest))) : W p l e R s m args below meth c H locs 0 0 Q (F0 m pc ls (.ref (G.1 x) :: rest)) := by
  obtain ⟨Cn, T, N, h1, h2, h3, h4⟩ := hl
  refine va_get (D := G.2.1) (ci := ci) (v := .ref (G.1 q)) (fs := fz_fv G.1 M x 0 fs) C.1 C.2.1 C.2.2.2.2 h2 C.2.2.2.1 hF.1 hT.1 x (by rw [fz_wl_at G sh M hc.1, hc.2]; rfl) h1 j h3 (C.2.2.2.2 _ h4) (fun _ q => q) ?_ hdg k
  rw [fz_fv_get, hj]
  rfl
theorem fz_getd (C : CallFix p m c cc nL s args wsL_law own) (hF : fz_F G K s) (hT : fz_T G sh K s M H locs) (hc : fz_ob sh K x ci fs) (hj : fs[j]? = some (some none)) (hl : fz_fl own index ci j) (hdg : decode cc pc = .ok (.getfield index, 3))
    (k : W p l e R s m args below meth c H locs 0 0 Q (F0 m (pc + 3) ls (.ref (G.1 (fz_d M x j)) :: rest))) : W p l e R s m args below meth c H locs 0 0 Q (F0 m pc ls (.ref (G.1 x) :: rest)) := by
  obtain ⟨Cn, T, N, h1, h2, h3, h4⟩ := hl
  refine va_get (D := G.2.1) (ci := ci) (v := .ref (G.1 (fz_d M x j))) (fs := fz_fv G.1 M x 0 fs) C.1 C.2.1 C.2.2.2.2 h2 C.2.2.2.1 hF.1 hT.1 x (by rw [fz_wl_at G sh M hc.1, hc.2]; rfl) h1 j h3 (C.2.2.2.2 _ h4) (fun _ q => q) ?_ hdg k
  rw [fz_fv_get, hj]
  simp [fz_d]
theorem fz_puti (C : CallFix p m c cc nL s args wsL_law own) (hF : fz_F G K s) (hT : fz_T G sh K s M H locs) (hc : fz_ob sh K x ci fs) (hj : fs[j]? = some none) (hl : fz_fw own index ci j .int) {v : Int32} (hdg : decode cc pc = .ok (.putfield index, 3))
    (k : ∀ (H1 : Heap) (locs1 : List Loc), fz_T G sh K s (fz_sf M x j v) H1 locs1 → W p l e R s m args below meth c H1 locs1 0 0 Q (F0 m (pc + 3) ls rest)) : W p l e R s m args below meth c H locs 0 0 Q (F0 m pc ls (.int v :: .ref (G.1 x) :: rest)) := by
  obtain ⟨Cn, T, N, ty0, h1, h2, h3, h4, h5, h6, h7, h8⟩ := hl
  have hjl : j < fs.length := (List.getElem?_eq_some_iff.mp hj).1
  refine va_put (D := G.2.1) (ci := ci) (v := .int v) (ty := .int) (fs := fz_fv G.1 M x 0 fs) C.1 C.2.1 C.2.2.2.2 h2 ty0 h5 h6 C.2.2.2.1 hF.1 hT.1 (fz_wl_D hF.2) hT.2 x (by rw [fz_wl_at G sh M hc.1, hc.2]; rfl) h1 j h3 (C.2.2.2.2 _ h4) (fun _ q => q) h7 h8 rfl rfl (by rw [fz_fv_len]; exact hjl) hdg (fun H1 locs1 hP _ hS => k H1 locs1 ⟨?_, hS⟩)
  rw [fz_fv_put v hj, fz_wl_set (M1 := fz_sf M x j v) hc.1 (by rw [hc.2]; rfl) (fun c hcx => fz_en_eq (fz_u1_ne hcx) rfl rfl)] at hP
  exact hP
theorem fz_putd (C : CallFix p m c cc nL s args wsL_law own) (hF : fz_F G K s) (hT : fz_T G sh K s M H locs) (hc : fz_ob sh K x ci fs) (hj : fs[j]? = some (some none)) {ty : FieldType} (hl : fz_fw own index ci j ty) {v : Nat} (hn : narrow ty (.ref (G.1 v)) = .ref (G.1 v)) (hf : fits ty (.ref (G.1 v)) = true) (hdg : decode cc pc = .ok (.putfield index, 3))
    (k : ∀ (H1 : Heap) (locs1 : List Loc), fz_T G sh K s (fz_sd M x j v) H1 locs1 → W p l e R s m args below meth c H1 locs1 0 0 Q (F0 m (pc + 3) ls rest)) : W p l e R s m args below meth c H locs 0 0 Q (F0 m pc ls (.ref (G.1 v) :: .ref (G.1 x) :: rest)) := by
  obtain ⟨Cn, T, N, ty0, h1, h2, h3, h4, h5, h6, h7, h8⟩ := hl
  have hjl : j < fs.length := (List.getElem?_eq_some_iff.mp hj).1
  refine va_put (D := G.2.1) (ci := ci) (v := .ref (G.1 v)) (ty := ty) (fs := fz_fv G.1 M x 0 fs) C.1 C.2.1 C.2.2.2.2 h2 ty0 h5 h6 C.2.2.2.1 hF.1 hT.1 (fz_wl_D hF.2) hT.2 x (by rw [fz_wl_at G sh M hc.1, hc.2]; rfl) h1 j h3 (C.2.2.2.2 _ h4) (fun _ q => q) h7 h8 hn hf (by rw [fz_fv_len]; exact hjl) hdg (fun H1 locs1 hP _ hS => k H1 locs1 ⟨?_, hS⟩)
  rw [fz_fv_putd v hj, fz_wl_set (M1 := fz_sd M x j v) hc.1 (by rw [hc.2]; rfl) (fun c hcx => fz_en_eq (M := M) (M1 := fz_sd M x j v) rfl rfl (show fz_u1 M.2.2 x j v c = M.2.2 c from fz_u1_ne hcx))] at hP
  exact hP
theorem fz_ia (C : CallFix p m c cc nL s args wsL_law own) (hF : fz_F G K s) (hT : fz_T G sh K s M H locs) (ha : fz_ar sh K x 0 n b st) {i : Int32} (hi : fz_in i n = true) (hdg : decode cc pc = .ok (.iaload, 1))
    (k : W p l e R s m args below meth c H locs 0 0 Q (F0 m (pc + 1) ls (.int (fz_g M x i) :: rest))) : W p l e R s m args below meth c H locs 0 0 Q (F0 m pc ls (.int i :: .ref (G.1 x) :: rest)) :=
  va_iald C.1 C.2.1 hF.1 hT.1 x 0 (cA := G.2.2 0) (n := n) (f := M.1 x) (by rw [fz_wl_at G sh M ha.1, ha.2]; rfl) rfl (fz_in_vp hi) hdg k
theorem fz_za (C : CallFix p m c cc nL s args wsL_law own) (hF : fz_F G K s) (hT : fz_T G sh K s M H locs) (ha : fz_ar sh K x 1 n b st) {i : Int32} (hi : fz_in i n = true) (hdg : decode cc pc = .ok (.baload, 1))
    (k : W p l e R s m args below meth c H locs 0 0 Q (F0 m (pc + 1) ls (.int (fz_g M x i) :: rest))) : W p l e R s m args below meth c H locs 0 0 Q (F0 m pc ls (.int i :: .ref (G.1 x) :: rest)) :=
  va_zald C.1 C.2.1 hF.1 hT.1 x 1 (cA := G.2.2 1) (n := n) (f := M.1 x) (by rw [fz_wl_at G sh M ha.1, ha.2]; rfl) rfl (fz_in_vp hi) hdg k
theorem fz_la (C : CallFix p m c cc nL s args wsL_law own) (hF : fz_F G K s) (hT : fz_T G sh K s M H locs) (ha : fz_ar sh K x 2 n b st) {i : Int32} (hi : fz_in i n = true) (hdg : decode cc pc = .ok (.laload, 1))
    (k : W p l e R s m args below meth c H locs 0 0 Q (F0 m (pc + 1) ls (.long (fz_gl M x i) :: rest))) : W p l e R s m args below meth c H locs 0 0 Q (F0 m pc ls (.int i :: .ref (G.1 x) :: rest)) :=
  va_lald C.1 C.2.1 hF.1 hT.1 x 2 (cA := G.2.2 2) (n := n) (f := M.2.1 x) (by rw [fz_wl_at G sh M ha.1, ha.2]; rfl) rfl (fz_in_vp hi) hdg k
theorem fz_aa3 (C : CallFix p m c cc nL s args wsL_law own) (hF : fz_F G K s) (hT : fz_T G sh K s M H locs) (ha : fz_ar sh K x 3 n b st) {i : Int32} (hi : fz_in i n = true) (hdg : decode cc pc = .ok (.aaload, 1))
    (k : W p l e R s m args below meth c H locs 0 0 Q (F0 m (pc + 1) ls (.ref (G.1 (b + st * i.toNatClampNeg)) :: rest))) : W p l e R s m args below meth c H locs 0 0 Q (F0 m pc ls (.int i :: .ref (G.1 x) :: rest)) := by
  have hin := fz_in_vp hi
  have hlt : i.toNatClampNeg < n := Nat.not_le.mp fun q => hin (Or.inr q)
  refine va_aldq C.1 C.2.1 hF.1 hT.1 x 3 (cA := G.2.2 3) (n := n) (f := fun i => if i < n then some (G.1 (b + st * i)) else none) (by rw [fz_wl_at G sh M ha.1, ha.2]; rfl) rfl hin hdg ?_
  rw [if_pos hlt]
  exact k
theorem fz_aa4 (C : CallFix p m c cc nL s args wsL_law own) (hF : fz_F G K s) (hT : fz_T G sh K s M H locs) (ha : fz_ar sh K x 4 n b st) {i : Int32} (hi : fz_in i n = true) (hdg : decode cc pc = .ok (.aaload, 1))
    (k : W p l e R s m args below meth c H locs 0 0 Q (F0 m (pc + 1) ls (.ref (G.1 (b + st * i.toNatClampNeg)) :: rest))) : W p l e R s m args below meth c H locs 0 0 Q (F0 m pc ls (.int i :: .ref (G.1 x) :: rest)) := by
  have hin := fz_in_vp hi
  have hlt : i.toNatClampNeg < n := Nat.not_le.mp fun q => hin (Or.inr q)
  have hcell := hT.1 x _ (fz_wl_at G sh M ha.1)
  rw [ha.2] at hcell
  exact W.aald (v := .ref (G.1 (b + st * i.toNatClampNeg))) (ty := .array .int) C.1 C.2.1 hcell ((hF.1.2 4 _ rfl).1 n (fun j => va_rf (if j < n then some (G.1 (b + st * j)) else none))) rfl (fun q => by cases q) (by show ¬ (i < 0 ∨ (arrV _ _ _).slots.size ≤ _); rw [arrV_size]; exact hin) (by show (arrV _ _ _).slots[_]? = _; rw [arrV_read _ _ hlt]; show some (va_rf (if i.toNatClampNeg < n then some (G.1 (b + st * i.toNatClampNeg)) else none)) = _; rw [if_pos hlt]; rfl) rfl rfl hdg k
theorem fz_ias (C : CallFix p m c cc nL s args wsL_law own) (hF : fz_F G K s) (hT : fz_T G sh K s M H locs) (ha : fz_ar sh K x 0 n b st) {i v : Int32} (hi : fz_in i n = true) (hdg : decode cc pc = .ok (.iastore, 1))
    (k : ∀ (H1 : Heap) (locs1 : List Loc), fz_T G sh K s (fz_s M x i v) H1 locs1 → W p l e R s m args below meth c H1 locs1 0 0 Q (F0 m (pc + 1) ls rest)) : W p l e R s m args below meth c H locs 0 0 Q (F0 m pc ls (.int v :: .int i :: .ref (G.1 x) :: rest)) := by
  refine va_iast C.1 C.2.1 hF.1 hT.1 (fz_wl_D hF.2) hT.2 x 0 (cA := G.2.2 0) (n := n) (f := M.1 x) (by rw [fz_wl_at G sh M ha.1, ha.2]; rfl) rfl (fz_in_vp hi) hdg (fun H1 locs1 hP _ hS => k H1 locs1 ⟨?_, hS⟩)
  rw [fz_wl_set (M1 := fz_s M x i v) ha.1 (by rw [ha.2]; unfold fz_en fz_av fz_s; simp only [fz_u1_self]; rfl) (fun c hcx => fz_en_eq (fz_u1_ne hcx) rfl rfl)] at hP
  exact hP
theorem fz_zas (C : CallFix p m c cc nL s args wsL_law own) (hF : fz_F G K s) (hT : fz_T G sh K s M H locs) (ha : fz_ar sh K x 1 n b st) {i v : Int32} (hi : fz_in i n = true) (hdg : decode cc pc = .ok (.bastore, 1))
    (k : ∀ (H1 : Heap) (locs1 : List Loc), fz_T G sh K s (fz_s M x i (fz_z v)) H1 locs1 → W p l e R s m args below meth c H1 locs1 0 0 Q (F0 m (pc + 1) ls rest)) : W p l e R s m args below meth c H locs 0 0 Q (F0 m pc ls (.int v :: .int i :: .ref (G.1 x) :: rest)) := by
  refine va_zast C.1 C.2.1 hF.1 hT.1 (fz_wl_D hF.2) hT.2 x 1 (cA := G.2.2 1) (n := n) (f := M.1 x) (by rw [fz_wl_at G sh M ha.1, ha.2]; rfl) rfl (fz_in_vp hi) hdg (fun H1 locs1 hP _ hS => k H1 locs1 ⟨?_, hS⟩)
  rw [fz_wl_set (M1 := fz_s M x i (fz_z v)) ha.1 (by rw [ha.2]; unfold fz_en fz_av fz_s; simp only [fz_u1_self]; rfl) (fun c hcx => fz_en_eq (fz_u1_ne hcx) rfl rfl)] at hP
  exact hP
theorem fz_las (C : CallFix p m c cc nL s args wsL_law own) (hF : fz_F G K s) (hT : fz_T G sh K s M H locs) (ha : fz_ar sh K x 2 n b st) {i : Int32} {v : Int64} (hi : fz_in i n = true) (hdg : decode cc pc = .ok (.lastore, 1))
    (k : ∀ (H1 : Heap) (locs1 : List Loc), fz_T G sh K s (fz_sl M x i v) H1 locs1 → W p l e R s m args below meth c H1 locs1 0 0 Q (F0 m (pc + 1) ls rest)) : W p l e R s m args below meth c H locs 0 0 Q (F0 m pc ls (.long v :: .int i :: .ref (G.1 x) :: rest)) := by
  refine va_last C.1 C.2.1 hF.1 hT.1 (fz_wl_D hF.2) hT.2 x 2 (cA := G.2.2 2) (n := n) (f := M.2.1 x) (by rw [fz_wl_at G sh M ha.1, ha.2]; rfl) rfl (fz_in_vp hi) hdg (fun H1 locs1 hP _ hS => k H1 locs1 ⟨?_, hS⟩)
  rw [fz_wl_set (M1 := fz_sl M x i v) ha.1 (by rw [ha.2]; unfold fz_en fz_av fz_sl; simp only [fz_u1_self]; rfl) (fun c hcx => fz_en_eq (M := M) (M1 := fz_sl M x i v) rfl (show fz_u1 M.2.1 x i.toNatClampNeg v c = M.2.1 c from fz_u1_ne hcx) rfl)] at hP
  exact hP
/-! ends -/
theorem fz_reti (C : CallFix p m c cc nL s args wsL_law own) (hr : meth.sig.returnType = some .int) (hk : meth.locks = false) {v : Int32} (hT : fz_T G sh K s M H locs) (hdg : decode cc pc = .ok (.ireturn, 1)) : W p l e R s m args below meth c H locs 0 0 (MQ below (fz_Qi G sh K v M) args s 0 0 (fz_Fr G K)) (F0 m pc ls [.int v]) :=
  W.iret C.1 C.2.1 hr (fun t ht _ => ⟨⟨v, M, rfl, ⟨rfl, rfl⟩, by show va_P _ _ _ t.heap; rw [ht]; exact hT.1⟩, hT.2.F ht⟩) hT.2.2.2 hdg hk
theorem fz_retz (C : CallFix p m c cc nL s args wsL_law own) (hr : meth.sig.returnType = some .boolean) (hk : meth.locks = false) {v : Int32} (hv : fz_nb v = true) (hT : fz_T G sh K s M H locs) (hdg : decode cc pc = .ok (.ireturn, 1)) : W p l e R s m args below meth c H locs 0 0 (MQ below (fz_Qi G sh K v M) args s 0 0 (fz_Fr G K)) (F0 m pc ls [.int v]) :=
  W.zret C.1 C.2.1 hr (fz_nb_n hv) (fun t ht _ => ⟨⟨v, M, rfl, ⟨rfl, rfl⟩, by show va_P _ _ _ t.heap; rw [ht]; exact hT.1⟩, hT.2.F ht⟩) hT.2.2.2 hdg hk
theorem fz_retl (C : CallFix p m c cc nL s args wsL_law own) (hr : meth.sig.returnType = some .long) (hk : meth.locks = false) {v : Int64} (hT : fz_T G sh K s M H locs) (hdg : decode cc pc = .ok (.lreturn, 1)) : W p l e R s m args below meth c H locs 0 0 (MQ below (fz_Ql G sh K v M) args s 0 0 (fz_Fr G K)) (F0 m pc ls [.long v]) :=
  W.lret C.1 C.2.1 hr (fun t ht _ => ⟨⟨v, M, rfl, ⟨rfl, rfl⟩, by show va_P _ _ _ t.heap; rw [ht]; exact hT.1⟩, hT.2.F ht⟩) hT.2.2.2 hdg hk
theorem fz_retv (C : CallFix p m c cc nL s args wsL_law own) (hr : meth.sig.returnType = none) (hk : meth.locks = false) (hT : fz_T G sh K s M H locs) (hdg : decode cc pc = .ok (.return_, 1)) : W p l e R s m args below meth c H locs 0 0 (MQ below (fz_Qv G sh K M) args s 0 0 (fz_Fr G K)) (F0 m pc ls []) :=
  W.vret C.1 C.2.1 hr (fun t ht _ => ⟨⟨M, rfl, rfl, by show va_P _ _ _ t.heap; rw [ht]; exact hT.1⟩, hT.2.F ht⟩) hT.2.2.2 hdg hk
/-! calls -/
variable {y : MethodName} {cd : ByteArray} {ny np fr lo : Nat} {rt : Option FieldType} {Cn : String} {As stk : List Value} {M1 : fz_M}
theorem fz_pre (hF : fz_F G K s) (hT : fz_T G sh K s M H locs) {V : List Value} : ∀ U : State, U.heap = H → s.WarmedH U.vm → va_Pc V (fz_Pre G sh K M) V.toArray U := fun U hU hW => ⟨rfl, by show va_P _ _ _ U.heap; rw [hU]; exact hT.1, va_K.moved hW.alike hF.1, hF.2⟩
theorem fz_runV {Qc : Array Value → State → Outcome → State → Prop} (C : CallFix p m c cc nL s args wsL_law own) (hF : fz_F G K s) (hT : fz_T G sh K s M H locs) (hM : fz_Me l y cd ny rt fr lo G sh K (.ref (G.1 x) :: As) M Qc) (hx : fz_ob sh K x ci fs) {T : u_T} {N : Nat} (hcl : vwCl[ci]? = some (Cn, T, N)) (hw : fz_lv own index y cd ny rt Cn np) (hn : As.length = np) (hls : ls.size = nL) (hst : stk = As.reverse ++ .ref (G.1 x) :: rest) (hro : (rest.map fun v => v.category).sum ≤ 8) (hR : fr + 1 ≤ R.frames ∧ 8 + (ny + 11) + lo ≤ R.locals ∧ 0 ≤ R.cells ∧ 0 ≤ R.slots) (hdg : decode cc pc = .ok (.invokevirtual index, 3)) :
    va_Run p l e R s m args below meth c H locs 0 0 0 0 (F0 m pc ls stk) rest (Qc (Value.ref (G.1 x) :: As).toArray) (fz_Fr G K) :=
  va_runV C hM (cwV np C.2.2.2.2 (fz_goodV hw) rfl rfl rfl hw.2.2.2.2.2 ⟨hR.1, hR.2.1⟩) ⟨fz_blind, va_recv (q0 := x) (ci := ci) hF.1 hT.1 hcl (by rw [fz_wl_at G sh M hx.1, hx.2]; rfl), fz_pre hF hT⟩ rfl hn hls hst (lv_room hro) hdg ⟨hR.2.2.1, hR.2.2.2⟩
theorem fz_runS {Qc : Array Value → State → Outcome → State → Prop} (C : CallFix p m c cc nL s args wsL_law own) (hF : fz_F G K s) (hT : fz_T G sh K s M H locs) (hM : fz_Me l y cd ny rt fr lo G sh K As M Qc) (hw : fz_ls own index y cd ny rt np) (hn : As.length = np) (hls : ls.size = nL) (hst : stk = As.reverse ++ rest) (hro : (rest.map fun v => v.category).sum ≤ 8) (hR : fr + 1 ≤ R.frames ∧ 8 + (ny + 11) + lo ≤ R.locals ∧ 0 ≤ R.cells ∧ 0 ≤ R.slots) (hdg : decode cc pc = .ok (.invokestatic index, 3)) :
    va_Run p l e R s m args below meth c H locs 0 0 0 0 (F0 m pc ls stk) rest (Qc As.toArray) (fz_Fr G K) :=
  va_runS C hM (cwS np C.2.2.2.2 (fz_goodS hw) rfl rfl rfl hw.2.2.2.2 ⟨hR.1, hR.2.1⟩) ⟨fz_blind, fz_pre hF hT⟩ rfl hn hls hst (lv_room hro) hdg ⟨hR.2.2.1, hR.2.2.2⟩
theorem fz_ci {a : Array Value} {r : Int32} (hT : fz_T G sh K s M H locs) (hr : va_Run p l e R s m args below meth c H locs 0 0 0 0 (F0 m pc ls stk) rest (fz_Qi G sh K r M1 a) (fz_Fr G K))
    (k : ∀ (H1 : Heap) (locs1 : List Loc), fz_T G sh K s M1 H1 locs1 → W p l e R s m args below meth c H1 locs1 0 0 Q (F0 m (pc + 3) ls (.int r :: rest))) : W p l e R s m args below meth c H locs 0 0 Q (F0 m pc ls stk) := by
  refine va_calli hr hT.2 (fun _ _ h => h) (fun _ h => h) (fun r1 u t H1 locs1 ht _ hq hB _ _ hS => ?_)
  obtain ⟨rfl, rfl⟩ := hq
  unfold fz_Bo at hB
  rw [ht] at hB
  exact k H1 locs1 ⟨hB, hS⟩
theorem fz_cl {a : Array Value} {r : Int64} (hT : fz_T G sh K s M H locs) (hr : va_Run p l e R s m args below meth c H locs 0 0 0 0 (F0 m pc ls stk) rest (fz_Ql G sh K r M1 a) (fz_Fr G K))
    (k : ∀ (H1 : Heap) (locs1 : List Loc), fz_T G sh K s M1 H1 locs1 → W p l e R s m args below meth c H1 locs1 0 0 Q (F0 m (pc + 3) ls (.long r :: rest))) : W p l e R s m args below meth c H locs 0 0 Q (F0 m pc ls stk) := by
  refine va_calll hr hT.2 (fun _ _ h => h) (fun _ h => h) (fun r1 u t H1 locs1 ht _ hq hB _ _ hS => ?_)
  obtain ⟨rfl, rfl⟩ := hq
  unfold fz_Bo at hB
  rw [ht] at hB
  exact k H1 locs1 ⟨hB, hS⟩
theorem fz_cv {a : Array Value} (hT : fz_T G sh K s M H locs) (hr : va_Run p l e R s m args below meth c H locs 0 0 0 0 (F0 m pc ls stk) rest (fz_Qv G sh K M1 a) (fz_Fr G K))
    (k : ∀ (H1 : Heap) (locs1 : List Loc), fz_T G sh K s M1 H1 locs1 → W p l e R s m args below meth c H1 locs1 0 0 Q (F0 m (pc + 3) ls rest)) : W p l e R s m args below meth c H locs 0 0 Q (F0 m pc ls stk) := by
  refine va_callv hr hT.2 (fun _ _ h => h) (fun _ h => h) (fun u t H1 locs1 ht _ hq hB _ _ hS => ?_)
  obtain rfl := hq
  unfold fz_Bo at hB
  rw [ht] at hB
  exact k H1 locs1 ⟨hB, hS⟩
/-- from a method's entry to its walk -/
theorem fz_body {Qc : Array Value → State → Outcome → State → Prop} (hy : plainName y.cls = true) (hlen : (lg_sl As).length ≤ ny)
    (body : ∀ (p : Program) (e : Env) (s : State) (m : MethodId) (args : Array Value) (below : List Frame) (meth : Method) (c : Code) (H : Heap) (locs : List Loc) (ls : Array Slot), CallFix p m c cd ny s args wsL_law y.cls → meth.sig.returnType = rt → meth.locks = false → fz_F G K s → fz_T G sh K s M H locs → lv_has ls ny (lv_args 0 As) →
      W p l e (fz_rm fr lo) s m args below meth c H locs 0 0 (MQ below Qc args s 0 0 (fz_Fr G K)) (F0 m 0 ls [])) : fz_Me l y cd ny rt fr lo G sh K As M Qc := by
  refine Met.ofW (cc := cd) (maxL := ny) (ret := rt) hy rfl ?_
  intro p e s m args below meth c s₁ B hml hv
  obtain ⟨rfl, hP, hF⟩ := hv
  have hts := atoms_spec (ws := Cond.code y cd ny rt :: wsL_law) B.pre
  have hl := lv_entry As hlen
  rw [lg_entry_eq]
  exact body p e s m _ below meth c s.heap [] _ ⟨B.exec, B.bytes, hml, findClass_of_methodNamed B.named, fun w hw => hts w (List.mem_cons_of_mem _ hw)⟩ B.returns B.notSynchronized hF ⟨hP, va_S.rf⟩ hl
end FZROWS
