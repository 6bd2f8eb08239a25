/-! THE LAW over two worlds: the class's and the model's, and the script -/
def lw_T (GC GM : fz_G) (s : State) (MC MM : fz_M) (H : Heap) (locs : List Loc) : Prop := va_P GC.2.1 vwCl (fz_wl GC fz_shC fz_KC MC) H ∧ va_P GM.2.1 vwCl (fz_wl GM fz_shM fz_KM MM) H ∧ va_S (fun q : Nat => s.heap.size ≤ q) s.heap H locs
def lw_F (GC GM : fz_G) (s : State) : Prop := fz_F GC fz_KC s ∧ fz_F GM fz_KM s ∧ (∀ i j, i < fz_KC → j < fz_KM → GC.1 i ≠ GM.1 j) ∧ (∀ i, i < fz_KC → s.heap.size ≤ GC.1 i) ∧ (∀ j, j < fz_KM → s.heap.size ≤ GM.1 j)
/-- what an answer of both must be, and what stays: a call that may change the class, one that does not -/
def fz_pW {α : Type} (Rel : fz_M → fz_M → Prop) (fC fM : fz_M → Option (α × fz_M)) : Prop := ∀ MC MM, Rel MC MM → ∃ (r : α) (MC1 MM1 : fz_M), fC MC = some (r, MC1) ∧ fM MM = some (r, MM1) ∧ Rel MC1 MM1
def fz_pP {α : Type} (Rel : fz_M → fz_M → Prop) (fC : fz_M → Option α) (fM : fz_M → Option (α × fz_M)) : Prop := ∀ MC MM, Rel MC MM → ∃ (r : α) (MM1 : fz_M), fC MC = some r ∧ fM MM = some (r, MM1) ∧ Rel MC MM1
section LWROWS
variable {p : Program} {l : Launch} {e : Env} {R : Room} {s : State} {m : MethodId} {args : Array Value} {below : List Frame} {meth : Method} {c : Code} {H : Heap} {locs : List Loc} {Q : State → Prop} {pc cells slots : Nat} {ls : Array Slot} {rest : List Value}
variable {GC GM : fz_G} {MC MM M1 : fz_M} {b L index : Nat} {xs : Nat → Int32}
theorem lw_arg (C : CallFix p m c code 4 s args wsL_law RL) (hX : va_X b L xs s s.heap) (hbl : b < s.heap.size) (hS : va_S (fun q : Nat => s.heap.size ≤ q) s.heap H locs) {k j : Nat} {jv : Int} (hj : Int32.ofInt jv = nI j) (hk : k + j < L) (hL : L ≤ 3072) {lv : List (Nat × Value)} (hl : lv_has ls 4 lv) (h0 : lv[0]? = some (0, .ref b)) (h3 : lv[3]? = some (3, .int (nI k)))
    (d0 : decode code pc = .ok (.aload_n 0, 1)) (d1 : decode code (pc + 1) = .ok (.iload_n 3, 1)) (d2 : decode code (pc + 1 + 1) = .ok (.iconst jv, 1)) (d3 : decode code (pc + 1 + 1 + 1) = .ok (.iadd, 1)) (d4 : decode code (pc + 1 + 1 + 1 + 1) = .ok (.iaload, 1))
    (kk : W p l e R s m args below meth c H locs cells slots Q (F0 m (pc + 1 + 1 + 1 + 1 + 1) ls (.int (xs (k + j)) :: rest))) : W p l e R s m args below meth c H locs cells slots Q (F0 m pc ls rest) := by
  have hb : ¬ (fun q : Nat => s.heap.size ≤ q) b := Nat.not_le.mpr hbl
  refine lv_aload_n C.1 C.2.1 d0 rfl (lv_at hl 0 h0) ?_
  refine lv_iload_n C.1 C.2.1 d1 rfl (lv_at hl 3 h3) ?_
  refine lv_iconst (v := nI j) C.1 C.2.1 d2 hj ?_
  refine lv_iadd C.1 C.2.1 d3 ?_
  rw [nI_add]
  refine va_sld C.1 C.2.1 hX hbl hb hS (vp_in_nI hk (by omega)) d4 ?_
  rw [nI_clamp (by omega)]
  exact kk
theorem lw_keepM (hF : lw_F GC GM s) (hT : lw_T GC GM s MC MM H locs) {H1 : Heap} (hk : ∀ q : Nat, q < H.size → ¬ fz_Fr GC fz_KC q → H1[q]? = H[q]?) : va_P GM.2.1 vwCl (fz_wl GM fz_shM fz_KM MM) H1 := by
  intro k q hq
  have hat := hT.2.1 k q hq
  obtain ⟨hkk, rfl⟩ := fz_wl_inv hq
  refine hat.kept (hk _ hat.lt ?_)
  rintro ⟨i, hi, e⟩
  exact hF.2.2.1 i k hi hkk e.symm
theorem lw_keepC (hF : lw_F GC GM s) (hT : lw_T GC GM s MC MM H locs) {H1 : Heap} (hk : ∀ q : Nat, q < H.size → ¬ fz_Fr GM fz_KM q → H1[q]? = H[q]?) : va_P GC.2.1 vwCl (fz_wl GC fz_shC fz_KC MC) H1 := by
  intro k q hq
  have hat := hT.1 k q hq
  obtain ⟨hkk, rfl⟩ := fz_wl_inv hq
  refine hat.kept (hk _ hat.lt ?_)
  rintro ⟨j, hj, e⟩
  exact hF.2.2.1 k j hkk hj e
theorem lw_FrC (hF : lw_F GC GM s) : ∀ q, fz_Fr GC fz_KC q → s.heap.size ≤ q := by
  rintro q ⟨i, hi, rfl⟩
  exact hF.2.2.2.1 i hi
theorem lw_FrM (hF : lw_F GC GM s) : ∀ q, fz_Fr GM fz_KM q → s.heap.size ≤ q := by
  rintro q ⟨i, hi, rfl⟩
  exact hF.2.2.2.2 i hi
variable {y : MethodName} {cd : ByteArray} {ny np fr lo : Nat} {rt : Option FieldType} {As stk : List Value}
theorem lw_runC {Qc : Array Value → State → Outcome → State → Prop} (C : CallFix p m c code 4 s args wsL_law RL) (hF : lw_F GC GM s) (hT : lw_T GC GM s MC MM H locs) (hM : fz_Me l y cd ny rt fr lo GC fz_shC fz_KC (.ref (GC.1 0) :: As) MC Qc) (hw : fz_lv RL index y cd ny rt RX8 np) (hn : As.length = np) (hls : ls.size = 4) (hst : stk = As.reverse ++ .ref (GC.1 0) :: rest) (hro : (rest.map fun v => v.category).sum ≤ 8) (hR : fr + 1 ≤ 9 ∧ 8 + (ny + 11) + lo ≤ 318) (hdg : decode code pc = .ok (.invokevirtual index, 3)) :
    va_Run p l e room_1 s m args below meth c H locs 600000 7302250 0 0 (F0 m pc ls stk) rest (Qc (Value.ref (GC.1 0) :: As).toArray) (fz_Fr GC fz_KC) :=
  va_runV C hM (cwV np C.2.2.2.2 (fz_goodV hw) rfl rfl rfl hw.2.2.2.2.2 ⟨hR.1, hR.2⟩) ⟨fz_blind, va_recv (q0 := 0) (ci := 8) hF.1.1 hT.1 rfl (by rw [fz_wl_at GC fz_shC MC fz_c0.1, fz_c0.2]; rfl), fun U hU hW => ⟨rfl, by show va_P _ _ _ U.heap; rw [hU]; exact hT.1, va_K.moved hW.alike hF.1.1, hF.1.2⟩⟩ rfl hn hls hst (lv_room hro) hdg ⟨Nat.le_of_ble_eq_true rfl, Nat.le_of_ble_eq_true rfl⟩
theorem lw_runM {Qc : Array Value → State → Outcome → State → Prop} (C : CallFix p m c code 4 s args wsL_law RL) (hF : lw_F GC GM s) (hT : lw_T GC GM s MC MM H locs) (hM : fz_Me l y cd ny rt fr lo GM fz_shM fz_KM (.ref (GM.1 0) :: As) MM Qc) (hw : fz_lv RL index y cd ny rt RX9 np) (hn : As.length = np) (hls : ls.size = 4) (hst : stk = As.reverse ++ .ref (GM.1 0) :: rest) (hro : (rest.map fun v => v.category).sum ≤ 8) (hR : fr + 1 ≤ 9 ∧ 8 + (ny + 11) + lo ≤ 318) (hdg : decode code pc = .ok (.invokevirtual index, 3)) :
    va_Run p l e room_1 s m args below meth c H locs 600000 7302250 0 0 (F0 m pc ls stk) rest (Qc (Value.ref (GM.1 0) :: As).toArray) (fz_Fr GM fz_KM) :=
  va_runV C hM (cwV np C.2.2.2.2 (fz_goodV hw) rfl rfl rfl hw.2.2.2.2.2 ⟨hR.1, hR.2⟩) ⟨fz_blind, va_recv (q0 := 0) (ci := 9) hF.2.1.1 hT.2.1 rfl (by rw [fz_wl_at GM fz_shM MM fz_m0.1, fz_m0.2]; rfl), fun U hU hW => ⟨rfl, by show va_P _ _ _ U.heap; rw [hU]; exact hT.2.1, va_K.moved hW.alike hF.2.1.1, hF.2.1.2⟩⟩ rfl hn hls hst (lv_room hro) hdg ⟨Nat.le_of_ble_eq_true rfl, Nat.le_of_ble_eq_true rfl⟩
theorem lw_ciC {a : Array Value} {r : Int32} (hF : lw_F GC GM s) (hT : lw_T GC GM s MC MM H locs) (hr : va_Run p l e room_1 s m args below meth c H locs 600000 7302250 0 0 (F0 m pc ls stk) rest (fz_Qi GC fz_shC fz_KC r M1 a) (fz_Fr GC fz_KC))
    (k : ∀ (H1 : Heap) (locs1 : List Loc), lw_T GC GM s M1 MM H1 locs1 → W p l e room_1 s m args below meth c H1 locs1 600000 7302250 Q (F0 m (pc + 3) ls (.int r :: rest))) : W p l e room_1 s m args below meth c H locs 600000 7302250 Q (F0 m pc ls stk) := by
  refine va_calli hr hT.2.2 (fun q _ h => lw_FrC hF q h) (lw_FrC hF) (fun r1 u t H1 locs1 ht _ hq hB _ hk hS => ?_)
  obtain ⟨rfl, rfl⟩ := hq
  unfold fz_Bo at hB
  rw [ht] at hB
  exact k H1 locs1 ⟨hB, lw_keepM hF hT hk, hS⟩
theorem lw_clC {a : Array Value} {r : Int64} (hF : lw_F GC GM s) (hT : lw_T GC GM s MC MM H locs) (hr : va_Run p l e room_1 s m args below meth c H locs 600000 7302250 0 0 (F0 m pc ls stk) rest (fz_Ql GC fz_shC fz_KC r M1 a) (fz_Fr GC fz_KC))
    (k : ∀ (H1 : Heap) (locs1 : List Loc), lw_T GC GM s M1 MM H1 locs1 → W p l e room_1 s m args below meth c H1 locs1 600000 7302250 Q (F0 m (pc + 3) ls (.long r :: rest))) : W p l e room_1 s m args below meth c H locs 600000 7302250 Q (F0 m pc ls stk) := by
  refine va_calll hr hT.2.2 (fun q _ h => lw_FrC hF q h) (lw_FrC hF) (fun r1 u t H1 locs1 ht _ hq hB _ hk hS => ?_)
  obtain ⟨rfl, rfl⟩ := hq
  unfold fz_Bo at hB
  rw [ht] at hB
  exact k H1 locs1 ⟨hB, lw_keepM hF hT hk, hS⟩
theorem lw_ciM {a : Array Value} {r : Int32} (hF : lw_F GC GM s) (hT : lw_T GC GM s MC MM H locs) (hr : va_Run p l e room_1 s m args below meth c H locs 600000 7302250 0 0 (F0 m pc ls stk) rest (fz_Qi GM fz_shM fz_KM r M1 a) (fz_Fr GM fz_KM))
    (k : ∀ (H1 : Heap) (locs1 : List Loc), lw_T GC GM s MC M1 H1 locs1 → W p l e room_1 s m args below meth c H1 locs1 600000 7302250 Q (F0 m (pc + 3) ls (.int r :: rest))) : W p l e room_1 s m args below meth c H locs 600000 7302250 Q (F0 m pc ls stk) := by
  refine va_calli hr hT.2.2 (fun q _ h => lw_FrM hF q h) (lw_FrM hF) (fun r1 u t H1 locs1 ht _ hq hB _ hk hS => ?_)
  obtain ⟨rfl, rfl⟩ := hq
  unfold fz_Bo at hB
  rw [ht] at hB
  exact k H1 locs1 ⟨lw_keepC hF hT hk, hB, hS⟩
theorem lw_clM {a : Array Value} {r : Int64} (hF : lw_F GC GM s) (hT : lw_T GC GM s MC MM H locs) (hr : va_Run p l e room_1 s m args below meth c H locs 600000 7302250 0 0 (F0 m pc ls stk) rest (fz_Ql GM fz_shM fz_KM r M1 a) (fz_Fr GM fz_KM))
    (k : ∀ (H1 : Heap) (locs1 : List Loc), lw_T GC GM s MC M1 H1 locs1 → W p l e room_1 s m args below meth c H1 locs1 600000 7302250 Q (F0 m (pc + 3) ls (.long r :: rest))) : W p l e room_1 s m args below meth c H locs 600000 7302250 Q (F0 m pc ls stk) := by
  refine va_calll hr hT.2.2 (fun q _ h => lw_FrM hF q h) (lw_FrM hF) (fun r1 u t H1 locs1 ht _ hq hB _ hk hS => ?_)
  obtain ⟨rfl, rfl⟩ := hq
  unfold fz_Bo at hB
  rw [ht] at hB
  exact k H1 locs1 ⟨lw_keepC hF hT hk, hB, hS⟩
end LWROWS
theorem lg_cmp_self (x : Int64) : lg_cmp x x = 0 := by simp [lg_cmp]
