set_option maxHeartbeats 4000000 in
set_option maxRecDepth 100000 in
theorem b_X9_in_0 {p : Program} {l : Launch} {e : Env} {s : State} {m : MethodId} {args : Array Value} {below : List Frame} {meth : Method} {c : Code} {G : fz_G}     {v0 : Int64} {v2 : Int64} {v4 : Int64} {M : fz_M} {H : Heap} {locs : List Loc} {ls : Array Slot} {r : Int32} (C : CallFix p m c cX9_in 6 s args wsL_law RX9) (hr : meth.sig.returnType = (some .boolean)) (hlk : meth.locks = false) (hF : fz_F G fz_KM s)  (hT : fz_T G fz_shM fz_KM s M H locs) (hl : lv_has ls 6 [(0, .long v0), (2, .long v2), (4, .long v4)]) (h : f_X9_in v0 v2 v4 M = some r) : W p l e (fz_rm 0 0) s m args below meth c H locs 0 0 (MQ below (fz_Qi G fz_shM fz_KM r M) args s 0 0 (fz_Fr G fz_KM)) (F0 m 0 ls []) := by
  refine lv_lload_n C.1 C.2.1 dX9_in_0 rfl (lv_at hl 0 rfl) ?_
  refine lv_lload_n C.1 C.2.1 dX9_in_1 rfl (lv_at hl 1 rfl) ?_
  refine W.lcmp C.1 C.2.1 dX9_in_2 ?_
  refine lv_if_lt (tgt := 17) C.1 C.2.1 dX9_in_3 (by decide) (fun c1 => ?_) (fun c1 => ?_)
  · have h := fz_ip c1 h
    refine lv_iconst (v := 0) C.1 C.2.1 dX9_in_17 (by decide) ?_
    cases h
    exact fz_retz C hr hlk rfl hT dX9_in_18
  · have h := fz_iq c1 h
    refine lv_lload_n C.1 C.2.1 dX9_in_6 rfl (lv_at hl 0 rfl) ?_
    refine lv_lload C.1 C.2.1 dX9_in_7 (lv_at hl 2 rfl) ?_
    refine W.lcmp C.1 C.2.1 dX9_in_9 ?_
    refine lv_if_gt (tgt := 17) C.1 C.2.1 dX9_in_10 (by decide) (fun c2 => ?_) (fun c2 => ?_)
    · have h := fz_ip c2 h
      refine lv_iconst (v := 0) C.1 C.2.1 dX9_in_17 (by decide) ?_
      cases h
      exact fz_retz C hr hlk rfl hT dX9_in_18
    · have h := fz_iq c2 h
      refine lv_iconst (v := 1) C.1 C.2.1 dX9_in_13 (by decide) ?_
      refine lv_goto (tgt := 18) C.1 C.2.1 dX9_in_14 (by decide) ?_
      cases h
      exact fz_retz C hr hlk rfl hT dX9_in_18
set_option maxRecDepth 100000 in
theorem c_X9_in (l : Launch) (G : fz_G)  (a0 : Int64) (a1 : Int64) (a2 : Int64) (M : fz_M) (r : Int32) (h : f_X9_in a0 a1 a2 M = some r) : fz_Me l yX9_in cX9_in 6 (some .boolean) 0 0 G fz_shM fz_KM [.long a0, .long a1, .long a2] M (fz_Qi G fz_shM fz_KM r M) := by
  refine fz_body (by decide) (Nat.le_of_ble_eq_true rfl) ?_
  intro p e s m args below meth c H locs ls C hr hlk hF hT hl
  have C : CallFix p m c cX9_in 6 s args wsL_law RX9 := C
  have hl : lv_has ls 6 [(0, .long a0), (2, .long a1), (4, .long a2)] := hl
  exact b_X9_in_0 C hr hlk hF hT (lv_sub hl [0, 1, 2] rfl) h
set_option maxHeartbeats 4000000 in
set_option maxRecDepth 100000 in
theorem b_X9_has_0 {p : Program} {l : Launch} {e : Env} {s : State} {m : MethodId} {args : Array Value} {below : List Frame} {meth : Method} {c : Code} {G : fz_G}     {v0 : Int32} {v1 : Int32} {M : fz_M} {H : Heap} {locs : List Loc} {ls : Array Slot} {r : Int32} (C : CallFix p m c cX9_has 2 s args wsL_law RX9) (hr : meth.sig.returnType = (some .boolean)) (hlk : meth.locks = false) (hF : fz_F G fz_KM s)  (hT : fz_T G fz_shM fz_KM s M H locs) (hl : lv_has ls 2 [(0, .int v0), (1, .int v1)]) (h : f_X9_has v0 v1 M = some r) : W p l e (fz_rm 0 0) s m args below meth c H locs 0 0 (MQ below (fz_Qi G fz_shM fz_KM r M) args s 0 0 (fz_Fr G fz_KM)) (F0 m 0 ls []) := by
  refine lv_iload_n C.1 C.2.1 dX9_has_0 rfl (lv_at hl 0 rfl) ?_
  refine lv_iload_n C.1 C.2.1 dX9_has_1 rfl (lv_at hl 1 rfl) ?_
  refine lv_ishr C.1 C.2.1 dX9_has_2 ?_
  refine lv_iconst (v := 1) C.1 C.2.1 dX9_has_3 (by decide) ?_
  refine lv_iand C.1 C.2.1 dX9_has_4 ?_
  refine lv_iconst (v := 1) C.1 C.2.1 dX9_has_5 (by decide) ?_
  refine lv_icmp_ne (tgt := 13) C.1 C.2.1 dX9_has_6 (by decide) (fun c1 => ?_) (fun c1 => ?_)
  · have h := fz_ip c1 h
    refine lv_iconst (v := 0) C.1 C.2.1 dX9_has_13 (by decide) ?_
    cases h
    exact fz_retz C hr hlk rfl hT dX9_has_14
  · have h := fz_iq (not_not_intro c1) h
    refine lv_iconst (v := 1) C.1 C.2.1 dX9_has_9 (by decide) ?_
    refine lv_goto (tgt := 14) C.1 C.2.1 dX9_has_10 (by decide) ?_
    cases h
    exact fz_retz C hr hlk rfl hT dX9_has_14
set_option maxRecDepth 100000 in
theorem c_X9_has (l : Launch) (G : fz_G)  (a0 : Int32) (a1 : Int32) (M : fz_M) (r : Int32) (h : f_X9_has a0 a1 M = some r) : fz_Me l yX9_has cX9_has 2 (some .boolean) 0 0 G fz_shM fz_KM [.int a0, .int a1] M (fz_Qi G fz_shM fz_KM r M) := by
  refine fz_body (by decide) (Nat.le_of_ble_eq_true rfl) ?_
  intro p e s m args below meth c H locs ls C hr hlk hF hT hl
  have C : CallFix p m c cX9_has 2 s args wsL_law RX9 := C
  have hl : lv_has ls 2 [(0, .int a0), (1, .int a1)] := hl
  exact b_X9_has_0 C hr hlk hF hT (lv_sub hl [0, 1] rfl) h
set_option maxHeartbeats 4000000 in
set_option maxRecDepth 100000 in
theorem b_X9_noHouse_0 {p : Program} {l : Launch} {e : Env} {s : State} {m : MethodId} {args : Array Value} {below : List Frame} {meth : Method} {c : Code} {G : fz_G}     {v1 : Int32} {M : fz_M} {H : Heap} {locs : List Loc} {ls : Array Slot} {r : Int32} (C : CallFix p m c cX9_noHouse 2 s args wsL_law RX9) (hr : meth.sig.returnType = (some .boolean)) (hlk : meth.locks = false) (hF : fz_F G fz_KM s)  (hT : fz_T G fz_shM fz_KM s M H locs) (hl : lv_has ls 2 [(0, .ref (G.1 0)), (1, .int v1)]) (h : f_X9_noHouse v1 M = some r) : W p l e (fz_rm 1 25) s m args below meth c H locs 0 0 (MQ below (fz_Qi G fz_shM fz_KM r M) args s 0 0 (fz_Fr G fz_KM)) (F0 m 0 ls []) := by
  refine lv_iload_n C.1 C.2.1 dX9_noHouse_0 rfl (lv_at hl 1 rfl) ?_
  refine lv_i2l (v := (v1.toInt64)) C.1 C.2.1 dX9_noHouse_1 rfl ?_
  refine lv_lconst (v := 0) C.1 C.2.1 dX9_noHouse_2 (by decide) ?_
  refine lv_aload_n C.1 C.2.1 dX9_noHouse_3 rfl (lv_at hl 0 rfl) ?_
  refine fz_geti C hF hT fz_m0 (j := 4) rfl fl_X9_121 dX9_noHouse_4 ?_
  refine lv_iconst (v := 1) C.1 C.2.1 dX9_noHouse_7 (by decide) ?_
  refine lv_isub C.1 C.2.1 dX9_noHouse_8 ?_
  refine lv_i2l (v := (((fz_f M 0 4) - 1).toInt64)) C.1 C.2.1 dX9_noHouse_9 rfl ?_
  obtain ⟨r1, w3, h⟩ := fz_b1_s h
  refine fz_ci hT (fz_runS (np := 3) (rest := []) C hF hT (c_X9_in l G (v1.toInt64) 0 (((fz_f M 0 4) - 1).toInt64) M r1 w3) cl_X9_124 rfl hl.1 rfl (Nat.le_of_ble_eq_true rfl) ⟨Nat.le_of_ble_eq_true rfl, Nat.le_of_ble_eq_true rfl, Nat.zero_le _, Nat.zero_le _⟩ dX9_noHouse_10) (fun H locs hT => ?_)
  refine lv_if_ne (tgt := 20) C.1 C.2.1 dX9_noHouse_13 (by decide) (fun c4 => ?_) (fun c4 => ?_)
  · have h := fz_ip c4 h
    refine lv_iconst (v := 0) C.1 C.2.1 dX9_noHouse_20 (by decide) ?_
    cases h
    exact fz_retz C hr hlk rfl hT dX9_noHouse_21
  · have h := fz_iq (not_not_intro c4) h
    refine lv_iconst (v := 1) C.1 C.2.1 dX9_noHouse_16 (by decide) ?_
    refine lv_goto (tgt := 21) C.1 C.2.1 dX9_noHouse_17 (by decide) ?_
    cases h
    exact fz_retz C hr hlk rfl hT dX9_noHouse_21
set_option maxRecDepth 100000 in
theorem c_X9_noHouse (l : Launch) (G : fz_G)  (a0 : Int32) (M : fz_M) (r : Int32) (h : f_X9_noHouse a0 M = some r) : fz_Me l yX9_noHouse cX9_noHouse 2 (some .boolean) 1 25 G fz_shM fz_KM [.ref (G.1 0), .int a0] M (fz_Qi G fz_shM fz_KM r M) := by
  refine fz_body (by decide) (Nat.le_of_ble_eq_true rfl) ?_
  intro p e s m args below meth c H locs ls C hr hlk hF hT hl
  have C : CallFix p m c cX9_noHouse 2 s args wsL_law RX9 := C
  have hl : lv_has ls 2 [(0, .ref (G.1 0)), (1, .int a0)] := hl
  exact b_X9_noHouse_0 C hr hlk hF hT (lv_sub hl [0, 1] rfl) h
set_option maxHeartbeats 4000000 in
set_option maxRecDepth 100000 in
theorem b_X9_noPiece_0 {p : Program} {l : Launch} {e : Env} {s : State} {m : MethodId} {args : Array Value} {below : List Frame} {meth : Method} {c : Code} {G : fz_G}     {v1 : Int32} {M : fz_M} {H : Heap} {locs : List Loc} {ls : Array Slot} {r : Int32} (C : CallFix p m c cX9_noPiece 2 s args wsL_law RX9) (hr : meth.sig.returnType = (some .boolean)) (hlk : meth.locks = false) (hF : fz_F G fz_KM s)  (hT : fz_T G fz_shM fz_KM s M H locs) (hl : lv_has ls 2 [(0, .ref (G.1 0)), (1, .int v1)]) (h : f_X9_noPiece v1 M = some r) : W p l e (fz_rm 1 25) s m args below meth c H locs 0 0 (MQ below (fz_Qi G fz_shM fz_KM r M) args s 0 0 (fz_Fr G fz_KM)) (F0 m 0 ls []) := by
  refine lv_iload_n C.1 C.2.1 dX9_noPiece_0 rfl (lv_at hl 1 rfl) ?_
  refine lv_i2l (v := (v1.toInt64)) C.1 C.2.1 dX9_noPiece_1 rfl ?_
  refine lv_lconst (v := 0) C.1 C.2.1 dX9_noPiece_2 (by decide) ?_
  refine lv_aload_n C.1 C.2.1 dX9_noPiece_3 rfl (lv_at hl 0 rfl) ?_
  refine fz_geti C hF hT fz_m0 (j := 6) rfl fl_X9_128 dX9_noPiece_4 ?_
  refine lv_iconst (v := 1) C.1 C.2.1 dX9_noPiece_7 (by decide) ?_
  refine lv_isub C.1 C.2.1 dX9_noPiece_8 ?_
  refine lv_i2l (v := (((fz_f M 0 6) - 1).toInt64)) C.1 C.2.1 dX9_noPiece_9 rfl ?_
  obtain ⟨r1, w3, h⟩ := fz_b1_s h
  refine fz_ci hT (fz_runS (np := 3) (rest := []) C hF hT (c_X9_in l G (v1.toInt64) 0 (((fz_f M 0 6) - 1).toInt64) M r1 w3) cl_X9_124 rfl hl.1 rfl (Nat.le_of_ble_eq_true rfl) ⟨Nat.le_of_ble_eq_true rfl, Nat.le_of_ble_eq_true rfl, Nat.zero_le _, Nat.zero_le _⟩ dX9_noPiece_10) (fun H locs hT => ?_)
  refine lv_if_ne (tgt := 20) C.1 C.2.1 dX9_noPiece_13 (by decide) (fun c4 => ?_) (fun c4 => ?_)
  · have h := fz_ip c4 h
    refine lv_iconst (v := 0) C.1 C.2.1 dX9_noPiece_20 (by decide) ?_
    cases h
    exact fz_retz C hr hlk rfl hT dX9_noPiece_21
  · have h := fz_iq (not_not_intro c4) h
    refine lv_iconst (v := 1) C.1 C.2.1 dX9_noPiece_16 (by decide) ?_
    refine lv_goto (tgt := 21) C.1 C.2.1 dX9_noPiece_17 (by decide) ?_
    cases h
    exact fz_retz C hr hlk rfl hT dX9_noPiece_21
set_option maxRecDepth 100000 in
theorem c_X9_noPiece (l : Launch) (G : fz_G)  (a0 : Int32) (M : fz_M) (r : Int32) (h : f_X9_noPiece a0 M = some r) : fz_Me l yX9_noPiece cX9_noPiece 2 (some .boolean) 1 25 G fz_shM fz_KM [.ref (G.1 0), .int a0] M (fz_Qi G fz_shM fz_KM r M) := by
  refine fz_body (by decide) (Nat.le_of_ble_eq_true rfl) ?_
  intro p e s m args below meth c H locs ls C hr hlk hF hT hl
  have C : CallFix p m c cX9_noPiece 2 s args wsL_law RX9 := C
  have hl : lv_has ls 2 [(0, .ref (G.1 0)), (1, .int a0)] := hl
  exact b_X9_noPiece_0 C hr hlk hF hT (lv_sub hl [0, 1] rfl) h
set_option maxHeartbeats 4000000 in
set_option maxRecDepth 100000 in
theorem b_X9_noFlood_0 {p : Program} {l : Launch} {e : Env} {s : State} {m : MethodId} {args : Array Value} {below : List Frame} {meth : Method} {c : Code} {G : fz_G}     {v0 : Int32} {v1 : Int32} {M : fz_M} {H : Heap} {locs : List Loc} {ls : Array Slot} {r : Int32} (C : CallFix p m c cX9_noFlood 2 s args wsL_law RX9) (hr : meth.sig.returnType = (some .boolean)) (hlk : meth.locks = false) (hF : fz_F G fz_KM s)  (hT : fz_T G fz_shM fz_KM s M H locs) (hl : lv_has ls 2 [(0, .int v0), (1, .int v1)]) (h : f_X9_noFlood v0 v1 M = some r) : W p l e (fz_rm 1 25) s m args below meth c H locs 0 0 (MQ below (fz_Qi G fz_shM fz_KM r M) args s 0 0 (fz_Fr G fz_KM)) (F0 m 0 ls []) := by
  refine lv_iload_n C.1 C.2.1 dX9_noFlood_0 rfl (lv_at hl 0 rfl) ?_
  refine lv_i2l (v := (v0.toInt64)) C.1 C.2.1 dX9_noFlood_1 rfl ?_
  refine lv_lconst (v := 0) C.1 C.2.1 dX9_noFlood_2 (by decide) ?_
  refine lv_ldc2 (v := 19) C.1 C.2.1 C.2.2.2.1 (C.2.2.2.2 _ (fz_q20 _ (List.mem_of_getElem? (i := 11) rfl))) dX9_noFlood_3 ?_
  obtain ⟨r1, w3, h⟩ := fz_b1_s h
  refine fz_ci hT (fz_runS (np := 3) (rest := []) C hF hT (c_X9_in l G (v0.toInt64) 0 19 M r1 w3) cl_X9_124 rfl hl.1 rfl (Nat.le_of_ble_eq_true rfl) ⟨Nat.le_of_ble_eq_true rfl, Nat.le_of_ble_eq_true rfl, Nat.zero_le _, Nat.zero_le _⟩ dX9_noFlood_6) (fun H locs hT => ?_)
  refine lv_if_eq (tgt := 24) C.1 C.2.1 dX9_noFlood_9 (by decide) (fun c4 => ?_) (fun c4 => ?_)
  · have h := fz_ip c4 h
    refine lv_iconst (v := 1) C.1 C.2.1 dX9_noFlood_24 (by decide) ?_
    refine lv_goto (tgt := 29) C.1 C.2.1 dX9_noFlood_25 (by decide) ?_
    cases h
    exact fz_retz C hr hlk rfl hT dX9_noFlood_29
  · have h := fz_iq c4 h
    refine lv_iload_n C.1 C.2.1 dX9_noFlood_12 rfl (lv_at hl 1 rfl) ?_
    refine lv_i2l (v := (v1.toInt64)) C.1 C.2.1 dX9_noFlood_13 rfl ?_
    refine lv_lconst (v := 1) C.1 C.2.1 dX9_noFlood_14 (by decide) ?_
    refine lv_ldc2 (v := 9) C.1 C.2.1 C.2.2.2.1 (C.2.2.2.2 _ (fz_q18 _ (List.mem_of_getElem? (i := 23) rfl))) dX9_noFlood_15 ?_
    obtain ⟨r5, w7, h⟩ := fz_b1_s h
    refine fz_ci hT (fz_runS (np := 3) (rest := []) C hF hT (c_X9_in l G (v1.toInt64) 1 9 M r5 w7) cl_X9_124 rfl hl.1 rfl (Nat.le_of_ble_eq_true rfl) ⟨Nat.le_of_ble_eq_true rfl, Nat.le_of_ble_eq_true rfl, Nat.zero_le _, Nat.zero_le _⟩ dX9_noFlood_18) (fun H locs hT => ?_)
    refine lv_if_ne (tgt := 28) C.1 C.2.1 dX9_noFlood_21 (by decide) (fun c8 => ?_) (fun c8 => ?_)
    · have h := fz_ip c8 h
      refine lv_iconst (v := 0) C.1 C.2.1 dX9_noFlood_28 (by decide) ?_
      cases h
      exact fz_retz C hr hlk rfl hT dX9_noFlood_29
    · have h := fz_iq (not_not_intro c8) h
      refine lv_iconst (v := 1) C.1 C.2.1 dX9_noFlood_24 (by decide) ?_
      refine lv_goto (tgt := 29) C.1 C.2.1 dX9_noFlood_25 (by decide) ?_
      cases h
      exact fz_retz C hr hlk rfl hT dX9_noFlood_29
set_option maxRecDepth 100000 in
theorem c_X9_noFlood (l : Launch) (G : fz_G)  (a0 : Int32) (a1 : Int32) (M : fz_M) (r : Int32) (h : f_X9_noFlood a0 a1 M = some r) : fz_Me l yX9_noFlood cX9_noFlood 2 (some .boolean) 1 25 G fz_shM fz_KM [.int a0, .int a1] M (fz_Qi G fz_shM fz_KM r M) := by
  refine fz_body (by decide) (Nat.le_of_ble_eq_true rfl) ?_
  intro p e s m args below meth c H locs ls C hr hlk hF hT hl
  have C : CallFix p m c cX9_noFlood 2 s args wsL_law RX9 := C
  have hl : lv_has ls 2 [(0, .int a0), (1, .int a1)] := hl
  exact b_X9_noFlood_0 C hr hlk hF hT (lv_sub hl [0, 1] rfl) h
set_option maxHeartbeats 4000000 in
set_option maxRecDepth 100000 in
theorem b_X9_write_39_l {p : Program} {l : Launch} {e : Env} {s : State} {m : MethodId} {args : Array Value} {below : List Frame} {meth : Method} {c : Code} {G : fz_G}     {v2 : Int64}  {r : Int32} {M9 : fz_M} (C : CallFix p m c cX9_write 5 s args wsL_law RX9) (hr : meth.sig.returnType = (some .int)) (hlk : meth.locks = false) (hF : fz_F G fz_KM s)  : ∀ (n : Nat) (v4 : Int32) (M : fz_M) (H : Heap) (locs : List Loc) (ls : Array Slot), fz_T G fz_shM fz_KM s M H locs → lv_has ls 5 [(0, .ref (G.1 0)), (2, .long v2), (4, .int v4)] → fz_lp (fun ag z => f_X9_write_39_s ag v2 z.1 z.2) n (v4, M) = some (r, M9) → W p l e (fz_rm 1 25) s m args below meth c H locs 0 0 (MQ below (fz_Qi G fz_shM fz_KM r M9) args s 0 0 (fz_Fr G fz_KM)) (F0 m 39 ls []) := by
  intro n
  induction n with
  | zero =>
    intro v4 M H locs ls hT hl h
    cases h
  | succ n ih =>
    intro v4 M H locs ls hT hl h
    have h : f_X9_write_39_s (fz_lp (fun ag z => f_X9_write_39_s ag v2 z.1 z.2) n) v2 v4 M = some (r, M9) := h
    have hag39 := ih
    generalize fz_lp (fun ag z => f_X9_write_39_s ag v2 z.1 z.2) n = ag39 at h hag39
    refine lv_iload C.1 C.2.1 dX9_write_39 (lv_at hl 2 rfl) ?_
    refine lv_if_lt (tgt := 81) C.1 C.2.1 dX9_write_41 (by decide) (fun c1 => ?_) (fun c1 => ?_)
    · have h := fz_ip c1 h
      refine lv_aload_n C.1 C.2.1 dX9_write_81 rfl (lv_at hl 0 rfl) ?_
      refine fz_geti C hF hT fz_m0 (j := 2) rfl fl_X9_137 dX9_write_82 ?_
      cases h
      exact fz_reti C hr hlk hT dX9_write_85
    · have h := fz_iq c1 h
      refine lv_aload_n C.1 C.2.1 dX9_write_44 rfl (lv_at hl 0 rfl) ?_
      refine fz_getr C hF hT fz_m0 (j := 1) rfl fl_X9_7 dX9_write_45 ?_
      refine lv_aload_n C.1 C.2.1 dX9_write_48 rfl (lv_at hl 0 rfl) ?_
      refine fz_geti C hF hT fz_m0 (j := 2) rfl fl_X9_137 dX9_write_49 ?_
      refine lv_lload_n C.1 C.2.1 dX9_write_52 rfl (lv_at hl 1 rfl) ?_
      refine lv_bipush (v := 8) C.1 C.2.1 dX9_write_53 (by decide) ?_
      refine lv_iload C.1 C.2.1 dX9_write_55 (lv_at hl 2 rfl) ?_
      refine lv_imul C.1 C.2.1 dX9_write_57 ?_
      refine lv_lshr (v := (v2 >>> ((8 * v4).toInt64 &&& 63))) C.1 C.2.1 dX9_write_58 rfl ?_
      refine lv_l2i (v := ((v2 >>> ((8 * v4).toInt64 &&& 63)).toInt32)) C.1 C.2.1 dX9_write_59 rfl ?_
      refine lv_sipush (v := 255) C.1 C.2.1 dX9_write_60 (by decide) ?_
      refine lv_iand C.1 C.2.1 dX9_write_63 ?_
      obtain ⟨g2, h⟩ := fz_gd_s h
      obtain ⟨M3, eM3, h⟩ := fz_bd_s h
      refine fz_ias C hF hT fz_m1 g2 dX9_write_64 (fun H locs hT => ?_)
      rw [← eM3] at hT
      refine lv_aload_n C.1 C.2.1 dX9_write_65 rfl (lv_at hl 0 rfl) ?_
      refine lv_dup C.1 C.2.1 dX9_write_66 rfl ?_
      refine fz_geti C hF hT fz_m0 (j := 2) rfl fl_X9_137 dX9_write_67 ?_
      refine lv_iconst (v := 1) C.1 C.2.1 dX9_write_70 (by decide) ?_
      refine lv_iadd C.1 C.2.1 dX9_write_71 ?_
      obtain ⟨M4, eM4, h⟩ := fz_bd_s h
      refine fz_puti C hF hT fz_m0 (j := 2) rfl fw_X9_137 dX9_write_72 (fun H locs hT => ?_)
      rw [← eM4] at hT
      refine lv_iinc (v := (v4 + (-1))) (lv' := [(4, .int (v4 + (-1))), (0, .ref (G.1 0)), (2, .long v2)]) C.1 C.2.1 dX9_write_75 hl (k := 2) rfl rfl (by decide) rfl (fun ls hl => ?_)
      refine lv_goto (tgt := 39) C.1 C.2.1 dX9_write_78 (by decide) ?_
      exact hag39 (v4 + (-1)) M4 _ _ _ hT (lv_sub hl [1, 2, 0] rfl) h
set_option maxHeartbeats 4000000 in
set_option maxRecDepth 100000 in
theorem b_X9_write_39 {p : Program} {l : Launch} {e : Env} {s : State} {m : MethodId} {args : Array Value} {below : List Frame} {meth : Method} {c : Code} {G : fz_G}     {v2 : Int64} {v4 : Int32} {M : fz_M} {H : Heap} {locs : List Loc} {ls : Array Slot} {r : Int32} {M9 : fz_M} (C : CallFix p m c cX9_write 5 s args wsL_law RX9) (hr : meth.sig.returnType = (some .int)) (hlk : meth.locks = false) (hF : fz_F G fz_KM s)  (hT : fz_T G fz_shM fz_KM s M H locs) (hl : lv_has ls 5 [(0, .ref (G.1 0)), (2, .long v2), (4, .int v4)]) (h : f_X9_write_39 v2 v4 M = some (r, M9)) : W p l e (fz_rm 1 25) s m args below meth c H locs 0 0 (MQ below (fz_Qi G fz_shM fz_KM r M9) args s 0 0 (fz_Fr G fz_KM)) (F0 m 39 ls []) :=
  b_X9_write_39_l C hr hlk hF fz_fuel v4 M H locs ls hT hl h
set_option maxHeartbeats 4000000 in
set_option maxRecDepth 100000 in
theorem b_X9_write_0 {p : Program} {l : Launch} {e : Env} {s : State} {m : MethodId} {args : Array Value} {below : List Frame} {meth : Method} {c : Code} {G : fz_G}     {v1 : Int32} {v2 : Int64} {M : fz_M} {H : Heap} {locs : List Loc} {ls : Array Slot} {r : Int32} {M9 : fz_M} (C : CallFix p m c cX9_write 5 s args wsL_law RX9) (hr : meth.sig.returnType = (some .int)) (hlk : meth.locks = false) (hF : fz_F G fz_KM s)  (hT : fz_T G fz_shM fz_KM s M H locs) (hl : lv_has ls 5 [(0, .ref (G.1 0)), (1, .int v1), (2, .long v2)]) (h : f_X9_write v1 v2 M = some (r, M9)) : W p l e (fz_rm 1 25) s m args below meth c H locs 0 0 (MQ below (fz_Qi G fz_shM fz_KM r M9) args s 0 0 (fz_Fr G fz_KM)) (F0 m 0 ls []) := by
  refine lv_aload_n C.1 C.2.1 dX9_write_0 rfl (lv_at hl 0 rfl) ?_
  refine lv_iconst (v := 0) C.1 C.2.1 dX9_write_1 (by decide) ?_
  obtain ⟨M1, eM1, h⟩ := fz_bd_s h
  refine fz_puti C hF hT fz_m0 (j := 0) rfl fw_X9_117 dX9_write_2 (fun H locs hT => ?_)
  rw [← eM1] at hT
  refine lv_iload_n C.1 C.2.1 dX9_write_5 rfl (lv_at hl 1 rfl) ?_
  refine lv_i2l (v := (v1.toInt64)) C.1 C.2.1 dX9_write_6 rfl ?_
  refine lv_lconst (v := 1) C.1 C.2.1 dX9_write_7 (by decide) ?_
  refine lv_ldc2 (v := 8) C.1 C.2.1 C.2.2.2.1 (C.2.2.2.2 _ (fz_q7 _ (List.mem_of_getElem? (i := 14) rfl))) dX9_write_8 ?_
  obtain ⟨r2, w4, h⟩ := fz_b1_s h
  refine fz_ci hT (fz_runS (np := 3) (rest := []) C hF hT (c_X9_in l G (v1.toInt64) 1 8 M1 r2 w4) cl_X9_124 rfl hl.1 rfl (Nat.le_of_ble_eq_true rfl) ⟨Nat.le_of_ble_eq_true rfl, Nat.le_of_ble_eq_true rfl, Nat.zero_le _, Nat.zero_le _⟩ dX9_write_11) (fun H locs hT => ?_)
  refine lv_if_ne (tgt := 20) C.1 C.2.1 dX9_write_14 (by decide) (fun c5 => ?_) (fun c5 => ?_)
  · have h := fz_ip c5 h
    refine lv_aload_n C.1 C.2.1 dX9_write_20 rfl (lv_at hl 0 rfl) ?_
    refine fz_geti C hF hT fz_m0 (j := 2) rfl fl_X9_137 dX9_write_21 ?_
    refine lv_iload_n C.1 C.2.1 dX9_write_24 rfl (lv_at hl 1 rfl) ?_
    refine lv_iadd C.1 C.2.1 dX9_write_25 ?_
    refine lv_bipush (v := 96) C.1 C.2.1 dX9_write_26 (by decide) ?_
    refine lv_icmp_le (tgt := 34) C.1 C.2.1 dX9_write_28 (by decide) (fun c6 => ?_) (fun c6 => ?_)
    · have h := fz_ip c6 h
      refine lv_iload_n C.1 C.2.1 dX9_write_34 rfl (lv_at hl 1 rfl) ?_
      refine lv_iconst (v := 1) C.1 C.2.1 dX9_write_35 (by decide) ?_
      refine lv_isub C.1 C.2.1 dX9_write_36 ?_
      obtain ⟨x7, ex7, h⟩ := fz_bd_s h
      refine fz_nmi ex7 ?_
      refine lv_istore (lv' := [(4, .int x7), (0, .ref (G.1 0)), (1, .int v1), (2, .long v2)]) C.1 C.2.1 dX9_write_37 hl (by decide) rfl (fun ls hl => ?_)
      exact b_X9_write_39 C hr hlk hF hT (lv_sub hl [1, 3, 0] rfl) h
    · have h := fz_iq c6 h
      refine lv_bipush (v := (-4)) C.1 C.2.1 dX9_write_31 (by decide) ?_
      cases h
      exact fz_reti C hr hlk hT dX9_write_33
  · have h := fz_iq (not_not_intro c5) h
    refine lv_bipush (v := (-2)) C.1 C.2.1 dX9_write_17 (by decide) ?_
    cases h
    exact fz_reti C hr hlk hT dX9_write_19
set_option maxRecDepth 100000 in
theorem c_X9_write (l : Launch) (G : fz_G)  (a0 : Int32) (a1 : Int64) (M : fz_M) (r : Int32) (M9 : fz_M) (h : f_X9_write a0 a1 M = some (r, M9)) : fz_Me l yX9_write cX9_write 5 (some .int) 1 25 G fz_shM fz_KM [.ref (G.1 0), .int a0, .long a1] M (fz_Qi G fz_shM fz_KM r M9) := by
  refine fz_body (by decide) (Nat.le_of_ble_eq_true rfl) ?_
  intro p e s m args below meth c H locs ls C hr hlk hF hT hl
  have C : CallFix p m c cX9_write 5 s args wsL_law RX9 := C
  have hl : lv_has ls 5 [(0, .ref (G.1 0)), (1, .int a0), (2, .long a1)] := hl
  exact b_X9_write_0 C hr hlk hF hT (lv_sub hl [0, 1, 2] rfl) h
set_option maxHeartbeats 4000000 in
set_option maxRecDepth 100000 in
theorem b_X9_wipe_0 {p : Program} {l : Launch} {e : Env} {s : State} {m : MethodId} {args : Array Value} {below : List Frame} {meth : Method} {c : Code} {G : fz_G}      {M : fz_M} {H : Heap} {locs : List Loc} {ls : Array Slot} {r : Int32} {M9 : fz_M} (C : CallFix p m c cX9_wipe 2 s args wsL_law RX9) (hr : meth.sig.returnType = (some .int)) (hlk : meth.locks = false) (hF : fz_F G fz_KM s)  (hT : fz_T G fz_shM fz_KM s M H locs) (hl : lv_has ls 2 [(0, .ref (G.1 0))]) (h : f_X9_wipe M = some (r, M9)) : W p l e (fz_rm 0 0) s m args below meth c H locs 0 0 (MQ below (fz_Qi G fz_shM fz_KM r M9) args s 0 0 (fz_Fr G fz_KM)) (F0 m 0 ls []) := by
  refine lv_aload_n C.1 C.2.1 dX9_wipe_0 rfl (lv_at hl 0 rfl) ?_
  refine lv_iconst (v := 0) C.1 C.2.1 dX9_wipe_1 (by decide) ?_
  obtain ⟨M1, eM1, h⟩ := fz_bd_s h
  refine fz_puti C hF hT fz_m0 (j := 0) rfl fw_X9_117 dX9_wipe_2 (fun H locs hT => ?_)
  rw [← eM1] at hT
  refine lv_aload_n C.1 C.2.1 dX9_wipe_5 rfl (lv_at hl 0 rfl) ?_
  refine fz_geti C hF hT fz_m0 (j := 2) rfl fl_X9_137 dX9_wipe_6 ?_
  obtain ⟨x2, ex2, h⟩ := fz_bd_s h
  refine fz_nmi ex2 ?_
  refine lv_istore_n (lv' := [(1, .int x2), (0, .ref (G.1 0))]) C.1 C.2.1 dX9_wipe_9 rfl hl (by decide) rfl (fun ls hl => ?_)
  refine lv_aload_n C.1 C.2.1 dX9_wipe_10 rfl (lv_at hl 1 rfl) ?_
  refine lv_iconst (v := 0) C.1 C.2.1 dX9_wipe_11 (by decide) ?_
  obtain ⟨M3, eM3, h⟩ := fz_bd_s h
  refine fz_puti C hF hT fz_m0 (j := 2) rfl fw_X9_137 dX9_wipe_12 (fun H locs hT => ?_)
  rw [← eM3] at hT
  refine lv_iload_n C.1 C.2.1 dX9_wipe_15 rfl (lv_at hl 0 rfl) ?_
  cases h
  exact fz_reti C hr hlk hT dX9_wipe_16
set_option maxRecDepth 100000 in
theorem c_X9_wipe (l : Launch) (G : fz_G)   (M : fz_M) (r : Int32) (M9 : fz_M) (h : f_X9_wipe M = some (r, M9)) : fz_Me l yX9_wipe cX9_wipe 2 (some .int) 0 0 G fz_shM fz_KM [.ref (G.1 0)] M (fz_Qi G fz_shM fz_KM r M9) := by
  refine fz_body (by decide) (Nat.le_of_ble_eq_true rfl) ?_
  intro p e s m args below meth c H locs ls C hr hlk hF hT hl
  have C : CallFix p m c cX9_wipe 2 s args wsL_law RX9 := C
  have hl : lv_has ls 2 [(0, .ref (G.1 0))] := hl
  exact b_X9_wipe_0 C hr hlk hF hT (lv_sub hl [0] rfl) h
set_option maxHeartbeats 4000000 in
set_option maxRecDepth 100000 in
theorem b_X9_figure_0 {p : Program} {l : Launch} {e : Env} {s : State} {m : MethodId} {args : Array Value} {below : List Frame} {meth : Method} {c : Code} {G : fz_G}     {v1 : Int32} {v2 : Int32} {M : fz_M} {H : Heap} {locs : List Loc} {ls : Array Slot} {r : Int32} {M9 : fz_M} (C : CallFix p m c cX9_figure 3 s args wsL_law RX9) (hr : meth.sig.returnType = (some .int)) (hlk : meth.locks = false) (hF : fz_F G fz_KM s)  (hT : fz_T G fz_shM fz_KM s M H locs) (hl : lv_has ls 3 [(0, .ref (G.1 0)), (1, .int v1), (2, .int v2)]) (h : f_X9_figure v1 v2 M = some (r, M9)) : W p l e (fz_rm 1 25) s m args below meth c H locs 0 0 (MQ below (fz_Qi G fz_shM fz_KM r M9) args s 0 0 (fz_Fr G fz_KM)) (F0 m 0 ls []) := by
  refine lv_aload_n C.1 C.2.1 dX9_figure_0 rfl (lv_at hl 0 rfl) ?_
  refine fz_geti C hF hT fz_m0 (j := 3) rfl fl_X9_140 dX9_figure_1 ?_
  refine lv_aload_n C.1 C.2.1 dX9_figure_4 rfl (lv_at hl 0 rfl) ?_
  refine fz_geti C hF hT fz_m0 (j := 2) rfl fl_X9_137 dX9_figure_5 ?_
  refine lv_icmp_eq (tgt := 34) C.1 C.2.1 dX9_figure_8 (by decide) (fun c1 => ?_) (fun c1 => ?_)
  · have h := fz_ip c1 h
    refine lv_bipush (v := (-9)) C.1 C.2.1 dX9_figure_34 (by decide) ?_
    cases h
    exact fz_reti C hr hlk hT dX9_figure_36
  · have h := fz_iq c1 h
    refine lv_aload_n C.1 C.2.1 dX9_figure_11 rfl (lv_at hl 0 rfl) ?_
    refine fz_getr C hF hT fz_m0 (j := 1) rfl fl_X9_7 dX9_figure_12 ?_
    refine lv_aload_n C.1 C.2.1 dX9_figure_15 rfl (lv_at hl 0 rfl) ?_
    refine fz_geti C hF hT fz_m0 (j := 3) rfl fl_X9_140 dX9_figure_16 ?_
    obtain ⟨g2, h⟩ := fz_gd_s h
    refine fz_ia C hF hT fz_m1 g2 dX9_figure_19 ?_
    refine lv_bipush (v := 48) C.1 C.2.1 dX9_figure_20 (by decide) ?_
    refine lv_isub C.1 C.2.1 dX9_figure_22 ?_
    refine lv_i2l (v := (((fz_g M 1 (fz_f M 0 3)) - 48).toInt64)) C.1 C.2.1 dX9_figure_23 rfl ?_
    refine lv_iload_n C.1 C.2.1 dX9_figure_24 rfl (lv_at hl 1 rfl) ?_
    refine lv_i2l (v := (v1.toInt64)) C.1 C.2.1 dX9_figure_25 rfl ?_
    refine lv_iload_n C.1 C.2.1 dX9_figure_26 rfl (lv_at hl 2 rfl) ?_
    refine lv_i2l (v := (v2.toInt64)) C.1 C.2.1 dX9_figure_27 rfl ?_
    obtain ⟨r3, w5, h⟩ := fz_b1_s h
    refine fz_ci hT (fz_runS (np := 3) (rest := []) C hF hT (c_X9_in l G (((fz_g M 1 (fz_f M 0 3)) - 48).toInt64) (v1.toInt64) (v2.toInt64) M r3 w5) cl_X9_124 rfl hl.1 rfl (Nat.le_of_ble_eq_true rfl) ⟨Nat.le_of_ble_eq_true rfl, Nat.le_of_ble_eq_true rfl, Nat.zero_le _, Nat.zero_le _⟩ dX9_figure_28) (fun H locs hT => ?_)
    refine lv_if_ne (tgt := 37) C.1 C.2.1 dX9_figure_31 (by decide) (fun c6 => ?_) (fun c6 => ?_)
    · have h := fz_ip c6 h
      refine lv_aload_n C.1 C.2.1 dX9_figure_37 rfl (lv_at hl 0 rfl) ?_
      refine lv_dup C.1 C.2.1 dX9_figure_38 rfl ?_
      refine fz_geti C hF hT fz_m0 (j := 3) rfl fl_X9_140 dX9_figure_39 ?_
      refine lv_iconst (v := 1) C.1 C.2.1 dX9_figure_42 (by decide) ?_
      refine lv_iadd C.1 C.2.1 dX9_figure_43 ?_
      obtain ⟨M7, eM7, h⟩ := fz_bd_s h
      refine fz_puti C hF hT fz_m0 (j := 3) rfl fw_X9_140 dX9_figure_44 (fun H locs hT => ?_)
      rw [← eM7] at hT
      refine lv_aload_n C.1 C.2.1 dX9_figure_47 rfl (lv_at hl 0 rfl) ?_
      refine fz_getr C hF hT fz_m0 (j := 1) rfl fl_X9_7 dX9_figure_48 ?_
      refine lv_aload_n C.1 C.2.1 dX9_figure_51 rfl (lv_at hl 0 rfl) ?_
      refine fz_geti C hF hT fz_m0 (j := 3) rfl fl_X9_140 dX9_figure_52 ?_
      refine lv_iconst (v := 1) C.1 C.2.1 dX9_figure_55 (by decide) ?_
      refine lv_isub C.1 C.2.1 dX9_figure_56 ?_
      obtain ⟨g8, h⟩ := fz_gd_s h
      refine fz_ia C hF hT fz_m1 g8 dX9_figure_57 ?_
      refine lv_bipush (v := 48) C.1 C.2.1 dX9_figure_58 (by decide) ?_
      refine lv_isub C.1 C.2.1 dX9_figure_60 ?_
      cases h
      exact fz_reti C hr hlk hT dX9_figure_61
    · have h := fz_iq (not_not_intro c6) h
      refine lv_bipush (v := (-9)) C.1 C.2.1 dX9_figure_34 (by decide) ?_
      cases h
      exact fz_reti C hr hlk hT dX9_figure_36
set_option maxRecDepth 100000 in
theorem c_X9_figure (l : Launch) (G : fz_G)  (a0 : Int32) (a1 : Int32) (M : fz_M) (r : Int32) (M9 : fz_M) (h : f_X9_figure a0 a1 M = some (r, M9)) : fz_Me l yX9_figure cX9_figure 3 (some .int) 1 25 G fz_shM fz_KM [.ref (G.1 0), .int a0, .int a1] M (fz_Qi G fz_shM fz_KM r M9) := by
  refine fz_body (by decide) (Nat.le_of_ble_eq_true rfl) ?_
  intro p e s m args below meth c H locs ls C hr hlk hF hT hl
  have C : CallFix p m c cX9_figure 3 s args wsL_law RX9 := C
  have hl : lv_has ls 3 [(0, .ref (G.1 0)), (1, .int a0), (2, .int a1)] := hl
  exact b_X9_figure_0 C hr hlk hF hT (lv_sub hl [0, 1, 2] rfl) h
set_option maxHeartbeats 4000000 in
set_option maxRecDepth 100000 in
theorem b_X9_readHouse_26 {p : Program} {l : Launch} {e : Env} {s : State} {m : MethodId} {args : Array Value} {below : List Frame} {meth : Method} {c : Code} {G : fz_G}     {v1 : Int32} {s0 : Int32} {M : fz_M} {H : Heap} {locs : List Loc} {ls : Array Slot} {r : Int32} {M9 : fz_M} (C : CallFix p m c cX9_readHouse 3 s args wsL_law RX9) (hr : meth.sig.returnType = (some .boolean)) (hlk : meth.locks = false) (hF : fz_F G fz_KM s)  (hT : fz_T G fz_shM fz_KM s M H locs) (hl : lv_has ls 3 [(0, .ref (G.1 0)), (1, .int v1)]) (h : f_X9_readHouse_26 v1 s0 M = some (r, M9)) : W p l e (fz_rm 2 47) s m args below meth c H locs 0 0 (MQ below (fz_Qi G fz_shM fz_KM r M9) args s 0 0 (fz_Fr G fz_KM)) (F0 m 26 ls [.int s0]) := by
  refine lv_istore_n (lv' := [(2, .int s0), (0, .ref (G.1 0)), (1, .int v1)]) C.1 C.2.1 dX9_readHouse_26 rfl hl (by decide) rfl (fun ls hl => ?_)
  refine lv_iload_n C.1 C.2.1 dX9_readHouse_27 rfl (lv_at hl 0 rfl) ?_
  refine lv_bipush (v := (-9)) C.1 C.2.1 dX9_readHouse_28 (by decide) ?_
  refine lv_icmp_ne (tgt := 35) C.1 C.2.1 dX9_readHouse_30 (by decide) (fun c1 => ?_) (fun c1 => ?_)
  · have h := fz_ip c1 h
    refine lv_aload_n C.1 C.2.1 dX9_readHouse_35 rfl (lv_at hl 1 rfl) ?_
    refine fz_getr C hF hT fz_m0 (j := 25) rfl fl_X9_56 dX9_readHouse_36 ?_
    refine lv_aload_n C.1 C.2.1 dX9_readHouse_39 rfl (lv_at hl 1 rfl) ?_
    refine fz_geti C hF hT fz_m0 (j := 22) rfl fl_X9_147 dX9_readHouse_40 ?_
    refine lv_iload_n C.1 C.2.1 dX9_readHouse_43 rfl (lv_at hl 2 rfl) ?_
    obtain ⟨g2, h⟩ := fz_gd_s h
    obtain ⟨M3, eM3, h⟩ := fz_bd_s h
    refine fz_ias C hF hT fz_m16 g2 dX9_readHouse_44 (fun H locs hT => ?_)
    rw [← eM3] at hT
    refine lv_aload_n C.1 C.2.1 dX9_readHouse_45 rfl (lv_at hl 1 rfl) ?_
    refine fz_getr C hF hT fz_m0 (j := 26) rfl fl_X9_59 dX9_readHouse_46 ?_
    refine lv_aload_n C.1 C.2.1 dX9_readHouse_49 rfl (lv_at hl 1 rfl) ?_
    refine fz_geti C hF hT fz_m0 (j := 22) rfl fl_X9_147 dX9_readHouse_50 ?_
    refine lv_iload_n C.1 C.2.1 dX9_readHouse_53 rfl (lv_at hl 0 rfl) ?_
    obtain ⟨g4, h⟩ := fz_gd_s h
    obtain ⟨M5, eM5, h⟩ := fz_bd_s h
    refine fz_ias C hF hT fz_m17 g4 dX9_readHouse_54 (fun H locs hT => ?_)
    rw [← eM5] at hT
    refine lv_aload_n C.1 C.2.1 dX9_readHouse_55 rfl (lv_at hl 1 rfl) ?_
    refine lv_dup C.1 C.2.1 dX9_readHouse_56 rfl ?_
    refine fz_geti C hF hT fz_m0 (j := 22) rfl fl_X9_147 dX9_readHouse_57 ?_
    refine lv_iconst (v := 1) C.1 C.2.1 dX9_readHouse_60 (by decide) ?_
    refine lv_iadd C.1 C.2.1 dX9_readHouse_61 ?_
    obtain ⟨M6, eM6, h⟩ := fz_bd_s h
    refine fz_puti C hF hT fz_m0 (j := 22) rfl fw_X9_147 dX9_readHouse_62 (fun H locs hT => ?_)
    rw [← eM6] at hT
    refine lv_iconst (v := 1) C.1 C.2.1 dX9_readHouse_65 (by decide) ?_
    cases h
    exact fz_retz C hr hlk rfl hT dX9_readHouse_66
  · have h := fz_iq (not_not_intro c1) h
    refine lv_iconst (v := 0) C.1 C.2.1 dX9_readHouse_33 (by decide) ?_
    cases h
    exact fz_retz C hr hlk rfl hT dX9_readHouse_34
set_option maxHeartbeats 4000000 in
set_option maxRecDepth 100000 in
theorem b_X9_readHouse_0 {p : Program} {l : Launch} {e : Env} {s : State} {m : MethodId} {args : Array Value} {below : List Frame} {meth : Method} {c : Code} {G : fz_G}      {M : fz_M} {H : Heap} {locs : List Loc} {ls : Array Slot} {r : Int32} {M9 : fz_M} (C : CallFix p m c cX9_readHouse 3 s args wsL_law RX9) (hr : meth.sig.returnType = (some .boolean)) (hlk : meth.locks = false) (hF : fz_F G fz_KM s)  (hT : fz_T G fz_shM fz_KM s M H locs) (hl : lv_has ls 3 [(0, .ref (G.1 0))]) (h : f_X9_readHouse M = some (r, M9)) : W p l e (fz_rm 2 47) s m args below meth c H locs 0 0 (MQ below (fz_Qi G fz_shM fz_KM r M9) args s 0 0 (fz_Fr G fz_KM)) (F0 m 0 ls []) := by
  refine lv_aload_n C.1 C.2.1 dX9_readHouse_0 rfl (lv_at hl 0 rfl) ?_
  refine lv_iconst (v := 0) C.1 C.2.1 dX9_readHouse_1 (by decide) ?_
  refine lv_bipush (v := 9) C.1 C.2.1 dX9_readHouse_2 (by decide) ?_
  obtain ⟨r1, M2, w3, h⟩ := fz_b2_s h
  refine fz_ci hT (fz_runV (np := 2) (rest := []) C hF hT (c_X9_figure l G 0 9 M r1 M2 w3) fz_m0 (T := TX9) (N := 49) rfl cl_X9_143 rfl hl.1 rfl (Nat.le_of_ble_eq_true rfl) ⟨Nat.le_of_ble_eq_true rfl, Nat.le_of_ble_eq_true rfl, Nat.zero_le _, Nat.zero_le _⟩ dX9_readHouse_4) (fun H locs hT => ?_)
  refine lv_istore_n (lv' := [(1, .int r1), (0, .ref (G.1 0))]) C.1 C.2.1 dX9_readHouse_7 rfl hl (by decide) rfl (fun ls hl => ?_)
  refine lv_iload_n C.1 C.2.1 dX9_readHouse_8 rfl (lv_at hl 0 rfl) ?_
  refine lv_bipush (v := (-9)) C.1 C.2.1 dX9_readHouse_9 (by decide) ?_
  refine lv_icmp_ne (tgt := 19) C.1 C.2.1 dX9_readHouse_11 (by decide) (fun c4 => ?_) (fun c4 => ?_)
  · have h := fz_ip c4 h
    refine lv_aload_n C.1 C.2.1 dX9_readHouse_19 rfl (lv_at hl 1 rfl) ?_
    refine lv_iconst (v := 1) C.1 C.2.1 dX9_readHouse_20 (by decide) ?_
    refine lv_bipush (v := 9) C.1 C.2.1 dX9_readHouse_21 (by decide) ?_
    obtain ⟨r5, M6, w7, h⟩ := fz_b2_s h
    refine fz_ci hT (fz_runV (np := 2) (rest := []) C hF hT (c_X9_figure l G 1 9 M2 r5 M6 w7) fz_m0 (T := TX9) (N := 49) rfl cl_X9_143 rfl hl.1 rfl (Nat.le_of_ble_eq_true rfl) ⟨Nat.le_of_ble_eq_true rfl, Nat.le_of_ble_eq_true rfl, Nat.zero_le _, Nat.zero_le _⟩ dX9_readHouse_23) (fun H locs hT => ?_)
    exact b_X9_readHouse_26 C hr hlk hF hT (lv_sub hl [1, 0] rfl) h
  · have h := fz_iq (not_not_intro c4) h
    refine lv_bipush (v := (-9)) C.1 C.2.1 dX9_readHouse_14 (by decide) ?_
    refine lv_goto (tgt := 26) C.1 C.2.1 dX9_readHouse_16 (by decide) ?_
    exact b_X9_readHouse_26 C hr hlk hF hT (lv_sub hl [1, 0] rfl) h
set_option maxRecDepth 100000 in
theorem c_X9_readHouse (l : Launch) (G : fz_G)   (M : fz_M) (r : Int32) (M9 : fz_M) (h : f_X9_readHouse M = some (r, M9)) : fz_Me l yX9_readHouse cX9_readHouse 3 (some .boolean) 2 47 G fz_shM fz_KM [.ref (G.1 0)] M (fz_Qi G fz_shM fz_KM r M9) := by
  refine fz_body (by decide) (Nat.le_of_ble_eq_true rfl) ?_
  intro p e s m args below meth c H locs ls C hr hlk hF hT hl
  have C : CallFix p m c cX9_readHouse 3 s args wsL_law RX9 := C
  have hl : lv_has ls 3 [(0, .ref (G.1 0))] := hl
  exact b_X9_readHouse_0 C hr hlk hF hT (lv_sub hl [0] rfl) h
set_option maxHeartbeats 4000000 in
set_option maxRecDepth 100000 in
theorem b_X9_leftOf_34 {p : Program} {l : Launch} {e : Env} {s : State} {m : MethodId} {args : Array Value} {below : List Frame} {meth : Method} {c : Code} {G : fz_G}   {ag5 : (Int32 × Int32) → Option Int32}  {v1 : Int32} {v3 : Int32} {s0 : Int32} {s1 : Int32} {M : fz_M} {H : Heap} {locs : List Loc} {ls : Array Slot} {r : Int32} (C : CallFix p m c cX9_leftOf 4 s args wsL_law RX9) (hr : meth.sig.returnType = (some .int)) (hlk : meth.locks = false) (hF : fz_F G fz_KM s) (hag5 : ∀ (v2 : Int32) (v3 : Int32) (H : Heap) (locs : List Loc) (ls : Array Slot), fz_T G fz_shM fz_KM s M H locs → lv_has ls 4 [(0, .ref (G.1 0)), (1, .int v1), (2, .int v2), (3, .int v3)] → ag5 (v2, v3) = some r → W p l e (fz_rm 0 0) s m args below meth c H locs 0 0 (MQ below (fz_Qi G fz_shM fz_KM r M) args s 0 0 (fz_Fr G fz_KM)) (F0 m 5 ls [])) (hT : fz_T G fz_shM fz_KM s M H locs) (hl : lv_has ls 4 [(0, .ref (G.1 0)), (1, .int v1), (3, .int v3)]) (h : f_X9_leftOf_34 ag5 v1 v3 s0 s1 M = some r) : W p l e (fz_rm 0 0) s m args below meth c H locs 0 0 (MQ below (fz_Qi G fz_shM fz_KM r M) args s 0 0 (fz_Fr G fz_KM)) (F0 m 34 ls [.int s1, .int s0]) := by
  refine lv_isub C.1 C.2.1 dX9_leftOf_34 ?_
  obtain ⟨x1, ex1, h⟩ := fz_bd_s h
  refine fz_nmi ex1 ?_
  refine lv_istore_n (lv' := [(2, .int x1), (0, .ref (G.1 0)), (1, .int v1), (3, .int v3)]) C.1 C.2.1 dX9_leftOf_35 rfl hl (by decide) rfl (fun ls hl => ?_)
  refine lv_iinc (v := (v3 + 1)) (lv' := [(3, .int (v3 + 1)), (2, .int x1), (0, .ref (G.1 0)), (1, .int v1)]) C.1 C.2.1 dX9_leftOf_36 hl (k := 3) rfl rfl (by decide) rfl (fun ls hl => ?_)
  refine lv_goto (tgt := 5) C.1 C.2.1 dX9_leftOf_39 (by decide) ?_
  exact hag5 x1 (v3 + 1) _ _ _ hT (lv_sub hl [2, 3, 1, 0] rfl) h
set_option maxHeartbeats 4000000 in
set_option maxRecDepth 100000 in
theorem b_X9_leftOf_5_l {p : Program} {l : Launch} {e : Env} {s : State} {m : MethodId} {args : Array Value} {below : List Frame} {meth : Method} {c : Code} {G : fz_G}     {v1 : Int32} {M : fz_M} {r : Int32} (C : CallFix p m c cX9_leftOf 4 s args wsL_law RX9) (hr : meth.sig.returnType = (some .int)) (hlk : meth.locks = false) (hF : fz_F G fz_KM s)  : ∀ (n : Nat) (v2 : Int32) (v3 : Int32) (H : Heap) (locs : List Loc) (ls : Array Slot), fz_T G fz_shM fz_KM s M H locs → lv_has ls 4 [(0, .ref (G.1 0)), (1, .int v1), (2, .int v2), (3, .int v3)] → fz_lp (fun ag z => f_X9_leftOf_5_s ag v1 z.1 z.2 M) n (v2, v3) = some r → W p l e (fz_rm 0 0) s m args below meth c H locs 0 0 (MQ below (fz_Qi G fz_shM fz_KM r M) args s 0 0 (fz_Fr G fz_KM)) (F0 m 5 ls []) := by
  intro n
  induction n with
  | zero =>
    intro v2 v3 H locs ls hT hl h
    cases h
  | succ n ih =>
    intro v2 v3 H locs ls hT hl h
    have h : f_X9_leftOf_5_s (fz_lp (fun ag z => f_X9_leftOf_5_s ag v1 z.1 z.2 M) n) v1 v2 v3 M = some r := h
    have hag5 := ih
    generalize fz_lp (fun ag z => f_X9_leftOf_5_s ag v1 z.1 z.2 M) n = ag5 at h hag5
    refine lv_iload_n C.1 C.2.1 dX9_leftOf_5 rfl (lv_at hl 3 rfl) ?_
    refine lv_aload_n C.1 C.2.1 dX9_leftOf_6 rfl (lv_at hl 0 rfl) ?_
    refine fz_geti C hF hT fz_m0 (j := 23) rfl fl_X9_150 dX9_leftOf_7 ?_
    refine lv_icmp_ge (tgt := 42) C.1 C.2.1 dX9_leftOf_10 (by decide) (fun c1 => ?_) (fun c1 => ?_)
    · have h := fz_ip c1 h
      refine lv_iload_n C.1 C.2.1 dX9_leftOf_42 rfl (lv_at hl 2 rfl) ?_
      cases h
      exact fz_reti C hr hlk hT dX9_leftOf_43
    · have h := fz_iq c1 h
      refine lv_iload_n C.1 C.2.1 dX9_leftOf_13 rfl (lv_at hl 2 rfl) ?_
      refine lv_aload_n C.1 C.2.1 dX9_leftOf_14 rfl (lv_at hl 0 rfl) ?_
      refine fz_getr C hF hT fz_m0 (j := 27) rfl fl_X9_62 dX9_leftOf_15 ?_
      refine lv_iload_n C.1 C.2.1 dX9_leftOf_18 rfl (lv_at hl 3 rfl) ?_
      obtain ⟨g2, h⟩ := fz_gd_s h
      refine fz_ia C hF hT fz_m18 g2 dX9_leftOf_19 ?_
      refine lv_iload_n C.1 C.2.1 dX9_leftOf_20 rfl (lv_at hl 1 rfl) ?_
      refine lv_icmp_ne (tgt := 33) C.1 C.2.1 dX9_leftOf_21 (by decide) (fun c3 => ?_) (fun c3 => ?_)
      · have h := fz_ip c3 h
        refine lv_iconst (v := 0) C.1 C.2.1 dX9_leftOf_33 (by decide) ?_
        exact b_X9_leftOf_34 C hr hlk hF hag5 hT (lv_sub hl [0, 1, 3] rfl) h
      · have h := fz_iq (not_not_intro c3) h
        refine lv_aload_n C.1 C.2.1 dX9_leftOf_24 rfl (lv_at hl 0 rfl) ?_
        refine fz_getr C hF hT fz_m0 (j := 29) rfl fl_X9_68 dX9_leftOf_25 ?_
        refine lv_iload_n C.1 C.2.1 dX9_leftOf_28 rfl (lv_at hl 3 rfl) ?_
        obtain ⟨g4, h⟩ := fz_gd_s h
        refine fz_ia C hF hT fz_m20 g4 dX9_leftOf_29 ?_
        refine lv_goto (tgt := 34) C.1 C.2.1 dX9_leftOf_30 (by decide) ?_
        exact b_X9_leftOf_34 C hr hlk hF hag5 hT (lv_sub hl [0, 1, 3] rfl) h
set_option maxHeartbeats 4000000 in
set_option maxRecDepth 100000 in
theorem b_X9_leftOf_5 {p : Program} {l : Launch} {e : Env} {s : State} {m : MethodId} {args : Array Value} {below : List Frame} {meth : Method} {c : Code} {G : fz_G}     {v1 : Int32} {v2 : Int32} {v3 : Int32} {M : fz_M} {H : Heap} {locs : List Loc} {ls : Array Slot} {r : Int32} (C : CallFix p m c cX9_leftOf 4 s args wsL_law RX9) (hr : meth.sig.returnType = (some .int)) (hlk : meth.locks = false) (hF : fz_F G fz_KM s)  (hT : fz_T G fz_shM fz_KM s M H locs) (hl : lv_has ls 4 [(0, .ref (G.1 0)), (1, .int v1), (2, .int v2), (3, .int v3)]) (h : f_X9_leftOf_5 v1 v2 v3 M = some r) : W p l e (fz_rm 0 0) s m args below meth c H locs 0 0 (MQ below (fz_Qi G fz_shM fz_KM r M) args s 0 0 (fz_Fr G fz_KM)) (F0 m 5 ls []) :=
  b_X9_leftOf_5_l C hr hlk hF fz_fuel v2 v3 H locs ls hT hl h
set_option maxHeartbeats 4000000 in
set_option maxRecDepth 100000 in
theorem b_X9_leftOf_0 {p : Program} {l : Launch} {e : Env} {s : State} {m : MethodId} {args : Array Value} {below : List Frame} {meth : Method} {c : Code} {G : fz_G}     {v1 : Int32} {M : fz_M} {H : Heap} {locs : List Loc} {ls : Array Slot} {r : Int32} (C : CallFix p m c cX9_leftOf 4 s args wsL_law RX9) (hr : meth.sig.returnType = (some .int)) (hlk : meth.locks = false) (hF : fz_F G fz_KM s)  (hT : fz_T G fz_shM fz_KM s M H locs) (hl : lv_has ls 4 [(0, .ref (G.1 0)), (1, .int v1)]) (h : f_X9_leftOf v1 M = some r) : W p l e (fz_rm 0 0) s m args below meth c H locs 0 0 (MQ below (fz_Qi G fz_shM fz_KM r M) args s 0 0 (fz_Fr G fz_KM)) (F0 m 0 ls []) := by
  refine lv_bipush (v := 10) C.1 C.2.1 dX9_leftOf_0 (by decide) ?_
  refine lv_istore_n (lv' := [(2, .int 10), (0, .ref (G.1 0)), (1, .int v1)]) C.1 C.2.1 dX9_leftOf_2 rfl hl (by decide) rfl (fun ls hl => ?_)
  refine lv_iconst (v := 0) C.1 C.2.1 dX9_leftOf_3 (by decide) ?_
  refine lv_istore_n (lv' := [(3, .int 0), (2, .int 10), (0, .ref (G.1 0)), (1, .int v1)]) C.1 C.2.1 dX9_leftOf_4 rfl hl (by decide) rfl (fun ls hl => ?_)
  exact b_X9_leftOf_5 C hr hlk hF hT (lv_sub hl [2, 3, 1, 0] rfl) h
set_option maxRecDepth 100000 in
theorem c_X9_leftOf (l : Launch) (G : fz_G)  (a0 : Int32) (M : fz_M) (r : Int32) (h : f_X9_leftOf a0 M = some r) : fz_Me l yX9_leftOf cX9_leftOf 4 (some .int) 0 0 G fz_shM fz_KM [.ref (G.1 0), .int a0] M (fz_Qi G fz_shM fz_KM r M) := by
  refine fz_body (by decide) (Nat.le_of_ble_eq_true rfl) ?_
  intro p e s m args below meth c H locs ls C hr hlk hF hT hl
  have C : CallFix p m c cX9_leftOf 4 s args wsL_law RX9 := C
  have hl : lv_has ls 4 [(0, .ref (G.1 0)), (1, .int a0)] := hl
  exact b_X9_leftOf_0 C hr hlk hF hT (lv_sub hl [0, 1] rfl) h
set_option maxHeartbeats 4000000 in
set_option maxRecDepth 100000 in
theorem b_X9_isTold_45 {p : Program} {l : Launch} {e : Env} {s : State} {m : MethodId} {args : Array Value} {below : List Frame} {meth : Method} {c : Code} {G : fz_G}   {ag5 : (Int32 × Int32) → Option Int32}  {v1 : Int32} {v2 : Int32} {v4 : Int32} {s0 : Int32} {M : fz_M} {H : Heap} {locs : List Loc} {ls : Array Slot} {r : Int32} (C : CallFix p m c cX9_isTold 5 s args wsL_law RX9) (hr : meth.sig.returnType = (some .boolean)) (hlk : meth.locks = false) (hF : fz_F G fz_KM s) (hag5 : ∀ (v3 : Int32) (v4 : Int32) (H : Heap) (locs : List Loc) (ls : Array Slot), fz_T G fz_shM fz_KM s M H locs → lv_has ls 5 [(0, .ref (G.1 0)), (1, .int v1), (2, .int v2), (3, .int v3), (4, .int v4)] → ag5 (v3, v4) = some r → W p l e (fz_rm 0 0) s m args below meth c H locs 0 0 (MQ below (fz_Qi G fz_shM fz_KM r M) args s 0 0 (fz_Fr G fz_KM)) (F0 m 5 ls [])) (hT : fz_T G fz_shM fz_KM s M H locs) (hl : lv_has ls 5 [(0, .ref (G.1 0)), (1, .int v1), (2, .int v2), (4, .int v4)]) (h : f_X9_isTold_45 ag5 v1 v2 v4 s0 M = some r) : W p l e (fz_rm 0 0) s m args below meth c H locs 0 0 (MQ below (fz_Qi G fz_shM fz_KM r M) args s 0 0 (fz_Fr G fz_KM)) (F0 m 45 ls [.int s0]) := by
  refine lv_istore_n (lv' := [(3, .int s0), (0, .ref (G.1 0)), (1, .int v1), (2, .int v2), (4, .int v4)]) C.1 C.2.1 dX9_isTold_45 rfl hl (by decide) rfl (fun ls hl => ?_)
  refine lv_iinc (v := (v4 + 1)) (lv' := [(4, .int (v4 + 1)), (3, .int s0), (0, .ref (G.1 0)), (1, .int v1), (2, .int v2)]) C.1 C.2.1 dX9_isTold_46 hl (k := 4) rfl rfl (by decide) rfl (fun ls hl => ?_)
  refine lv_goto (tgt := 5) C.1 C.2.1 dX9_isTold_49 (by decide) ?_
  exact hag5 s0 (v4 + 1) _ _ _ hT (lv_sub hl [2, 3, 4, 1, 0] rfl) h
set_option maxHeartbeats 4000000 in
set_option maxRecDepth 100000 in
theorem b_X9_isTold_44 {p : Program} {l : Launch} {e : Env} {s : State} {m : MethodId} {args : Array Value} {below : List Frame} {meth : Method} {c : Code} {G : fz_G}   {ag5 : (Int32 × Int32) → Option Int32}  {v1 : Int32} {v2 : Int32} {v4 : Int32} {M : fz_M} {H : Heap} {locs : List Loc} {ls : Array Slot} {r : Int32} (C : CallFix p m c cX9_isTold 5 s args wsL_law RX9) (hr : meth.sig.returnType = (some .boolean)) (hlk : meth.locks = false) (hF : fz_F G fz_KM s) (hag5 : ∀ (v3 : Int32) (v4 : Int32) (H : Heap) (locs : List Loc) (ls : Array Slot), fz_T G fz_shM fz_KM s M H locs → lv_has ls 5 [(0, .ref (G.1 0)), (1, .int v1), (2, .int v2), (3, .int v3), (4, .int v4)] → ag5 (v3, v4) = some r → W p l e (fz_rm 0 0) s m args below meth c H locs 0 0 (MQ below (fz_Qi G fz_shM fz_KM r M) args s 0 0 (fz_Fr G fz_KM)) (F0 m 5 ls [])) (hT : fz_T G fz_shM fz_KM s M H locs) (hl : lv_has ls 5 [(0, .ref (G.1 0)), (1, .int v1), (2, .int v2), (4, .int v4)]) (h : f_X9_isTold_44 ag5 v1 v2 v4 M = some r) : W p l e (fz_rm 0 0) s m args below meth c H locs 0 0 (MQ below (fz_Qi G fz_shM fz_KM r M) args s 0 0 (fz_Fr G fz_KM)) (F0 m 44 ls []) := by
  refine lv_iconst (v := 0) C.1 C.2.1 dX9_isTold_44 (by decide) ?_
  exact b_X9_isTold_45 C hr hlk hF hag5 hT (lv_sub hl [0, 1, 2, 3] rfl) h
set_option maxHeartbeats 4000000 in
set_option maxRecDepth 100000 in
theorem b_X9_isTold_5_l {p : Program} {l : Launch} {e : Env} {s : State} {m : MethodId} {args : Array Value} {below : List Frame} {meth : Method} {c : Code} {G : fz_G}     {v1 : Int32} {v2 : Int32} {M : fz_M} {r : Int32} (C : CallFix p m c cX9_isTold 5 s args wsL_law RX9) (hr : meth.sig.returnType = (some .boolean)) (hlk : meth.locks = false) (hF : fz_F G fz_KM s)  : ∀ (n : Nat) (v3 : Int32) (v4 : Int32) (H : Heap) (locs : List Loc) (ls : Array Slot), fz_T G fz_shM fz_KM s M H locs → lv_has ls 5 [(0, .ref (G.1 0)), (1, .int v1), (2, .int v2), (3, .int v3), (4, .int v4)] → fz_lp (fun ag z => f_X9_isTold_5_s ag v1 v2 z.1 z.2 M) n (v3, v4) = some r → W p l e (fz_rm 0 0) s m args below meth c H locs 0 0 (MQ below (fz_Qi G fz_shM fz_KM r M) args s 0 0 (fz_Fr G fz_KM)) (F0 m 5 ls []) := by
  intro n
  induction n with
  | zero =>
    intro v3 v4 H locs ls hT hl h
    cases h
  | succ n ih =>
    intro v3 v4 H locs ls hT hl h
    have h : f_X9_isTold_5_s (fz_lp (fun ag z => f_X9_isTold_5_s ag v1 v2 z.1 z.2 M) n) v1 v2 v3 v4 M = some r := h
    have hag5 := ih
    generalize fz_lp (fun ag z => f_X9_isTold_5_s ag v1 v2 z.1 z.2 M) n = ag5 at h hag5
    refine lv_iload C.1 C.2.1 dX9_isTold_5 (lv_at hl 4 rfl) ?_
    refine lv_aload_n C.1 C.2.1 dX9_isTold_7 rfl (lv_at hl 0 rfl) ?_
    refine fz_geti C hF hT fz_m0 (j := 23) rfl fl_X9_150 dX9_isTold_8 ?_
    refine lv_icmp_ge (tgt := 52) C.1 C.2.1 dX9_isTold_11 (by decide) (fun c1 => ?_) (fun c1 => ?_)
    · have h := fz_ip c1 h
      refine lv_iload_n C.1 C.2.1 dX9_isTold_52 rfl (lv_at hl 3 rfl) ?_
      obtain ⟨g2, h⟩ := fz_gd_s h
      cases h
      exact fz_retz C hr hlk g2 hT dX9_isTold_53
    · have h := fz_iq c1 h
      refine lv_iload_n C.1 C.2.1 dX9_isTold_14 rfl (lv_at hl 3 rfl) ?_
      refine lv_if_ne (tgt := 40) C.1 C.2.1 dX9_isTold_15 (by decide) (fun c3 => ?_) (fun c3 => ?_)
      · have h := fz_ip c3 h
        refine lv_iconst (v := 1) C.1 C.2.1 dX9_isTold_40 (by decide) ?_
        refine lv_goto (tgt := 45) C.1 C.2.1 dX9_isTold_41 (by decide) ?_
        exact b_X9_isTold_45 C hr hlk hF hag5 hT (lv_sub hl [0, 1, 2, 4] rfl) h
      · have h := fz_iq (not_not_intro c3) h
        refine lv_aload_n C.1 C.2.1 dX9_isTold_18 rfl (lv_at hl 0 rfl) ?_
        refine fz_getr C hF hT fz_m0 (j := 27) rfl fl_X9_62 dX9_isTold_19 ?_
        refine lv_iload C.1 C.2.1 dX9_isTold_22 (lv_at hl 4 rfl) ?_
        obtain ⟨g4, h⟩ := fz_gd_s h
        refine fz_ia C hF hT fz_m18 g4 dX9_isTold_24 ?_
        refine lv_iload_n C.1 C.2.1 dX9_isTold_25 rfl (lv_at hl 1 rfl) ?_
        refine lv_icmp_ne (tgt := 44) C.1 C.2.1 dX9_isTold_26 (by decide) (fun c5 => ?_) (fun c5 => ?_)
        · have h := fz_ip c5 h
          exact b_X9_isTold_44 C hr hlk hF hag5 hT (lv_sub hl [0, 1, 2, 4] rfl) h
        · have h := fz_iq (not_not_intro c5) h
          refine lv_aload_n C.1 C.2.1 dX9_isTold_29 rfl (lv_at hl 0 rfl) ?_
          refine fz_getr C hF hT fz_m0 (j := 28) rfl fl_X9_65 dX9_isTold_30 ?_
          refine lv_iload C.1 C.2.1 dX9_isTold_33 (lv_at hl 4 rfl) ?_
          obtain ⟨g6, h⟩ := fz_gd_s h
          refine fz_ia C hF hT fz_m19 g6 dX9_isTold_35 ?_
          refine lv_iload_n C.1 C.2.1 dX9_isTold_36 rfl (lv_at hl 2 rfl) ?_
          refine lv_icmp_ne (tgt := 44) C.1 C.2.1 dX9_isTold_37 (by decide) (fun c7 => ?_) (fun c7 => ?_)
          · have h := fz_ip c7 h
            exact b_X9_isTold_44 C hr hlk hF hag5 hT (lv_sub hl [0, 1, 2, 4] rfl) h
          · have h := fz_iq (not_not_intro c7) h
            refine lv_iconst (v := 1) C.1 C.2.1 dX9_isTold_40 (by decide) ?_
            refine lv_goto (tgt := 45) C.1 C.2.1 dX9_isTold_41 (by decide) ?_
            exact b_X9_isTold_45 C hr hlk hF hag5 hT (lv_sub hl [0, 1, 2, 4] rfl) h
set_option maxHeartbeats 4000000 in
set_option maxRecDepth 100000 in
theorem b_X9_isTold_5 {p : Program} {l : Launch} {e : Env} {s : State} {m : MethodId} {args : Array Value} {below : List Frame} {meth : Method} {c : Code} {G : fz_G}     {v1 : Int32} {v2 : Int32} {v3 : Int32} {v4 : Int32} {M : fz_M} {H : Heap} {locs : List Loc} {ls : Array Slot} {r : Int32} (C : CallFix p m c cX9_isTold 5 s args wsL_law RX9) (hr : meth.sig.returnType = (some .boolean)) (hlk : meth.locks = false) (hF : fz_F G fz_KM s)  (hT : fz_T G fz_shM fz_KM s M H locs) (hl : lv_has ls 5 [(0, .ref (G.1 0)), (1, .int v1), (2, .int v2), (3, .int v3), (4, .int v4)]) (h : f_X9_isTold_5 v1 v2 v3 v4 M = some r) : W p l e (fz_rm 0 0) s m args below meth c H locs 0 0 (MQ below (fz_Qi G fz_shM fz_KM r M) args s 0 0 (fz_Fr G fz_KM)) (F0 m 5 ls []) :=
  b_X9_isTold_5_l C hr hlk hF fz_fuel v3 v4 H locs ls hT hl h
set_option maxHeartbeats 4000000 in
set_option maxRecDepth 100000 in
theorem b_X9_isTold_0 {p : Program} {l : Launch} {e : Env} {s : State} {m : MethodId} {args : Array Value} {below : List Frame} {meth : Method} {c : Code} {G : fz_G}     {v1 : Int32} {v2 : Int32} {M : fz_M} {H : Heap} {locs : List Loc} {ls : Array Slot} {r : Int32} (C : CallFix p m c cX9_isTold 5 s args wsL_law RX9) (hr : meth.sig.returnType = (some .boolean)) (hlk : meth.locks = false) (hF : fz_F G fz_KM s)  (hT : fz_T G fz_shM fz_KM s M H locs) (hl : lv_has ls 5 [(0, .ref (G.1 0)), (1, .int v1), (2, .int v2)]) (h : f_X9_isTold v1 v2 M = some r) : W p l e (fz_rm 0 0) s m args below meth c H locs 0 0 (MQ below (fz_Qi G fz_shM fz_KM r M) args s 0 0 (fz_Fr G fz_KM)) (F0 m 0 ls []) := by
  refine lv_iconst (v := 0) C.1 C.2.1 dX9_isTold_0 (by decide) ?_
  refine lv_istore_n (lv' := [(3, .int 0), (0, .ref (G.1 0)), (1, .int v1), (2, .int v2)]) C.1 C.2.1 dX9_isTold_1 rfl hl (by decide) rfl (fun ls hl => ?_)
  refine lv_iconst (v := 0) C.1 C.2.1 dX9_isTold_2 (by decide) ?_
  refine lv_istore (lv' := [(4, .int 0), (3, .int 0), (0, .ref (G.1 0)), (1, .int v1), (2, .int v2)]) C.1 C.2.1 dX9_isTold_3 hl (by decide) rfl (fun ls hl => ?_)
  exact b_X9_isTold_5 C hr hlk hF hT (lv_sub hl [2, 3, 4, 1, 0] rfl) h
set_option maxRecDepth 100000 in
theorem c_X9_isTold (l : Launch) (G : fz_G)  (a0 : Int32) (a1 : Int32) (M : fz_M) (r : Int32) (h : f_X9_isTold a0 a1 M = some r) : fz_Me l yX9_isTold cX9_isTold 5 (some .boolean) 0 0 G fz_shM fz_KM [.ref (G.1 0), .int a0, .int a1] M (fz_Qi G fz_shM fz_KM r M) := by
  refine fz_body (by decide) (Nat.le_of_ble_eq_true rfl) ?_
  intro p e s m args below meth c H locs ls C hr hlk hF hT hl
  have C : CallFix p m c cX9_isTold 5 s args wsL_law RX9 := C
  have hl : lv_has ls 5 [(0, .ref (G.1 0)), (1, .int a0), (2, .int a1)] := hl
  exact b_X9_isTold_0 C hr hlk hF hT (lv_sub hl [0, 1, 2] rfl) h
set_option maxHeartbeats 4000000 in
set_option maxRecDepth 100000 in
theorem b_X9_hasMore_35 {p : Program} {l : Launch} {e : Env} {s : State} {m : MethodId} {args : Array Value} {below : List Frame} {meth : Method} {c : Code} {G : fz_G}   {ag4 : (Int32 × Int32) → Option Int32}  {v1 : Int32} {v3 : Int32} {s0 : Int32} {M : fz_M} {H : Heap} {locs : List Loc} {ls : Array Slot} {r : Int32} (C : CallFix p m c cX9_hasMore 4 s args wsL_law RX9) (hr : meth.sig.returnType = (some .boolean)) (hlk : meth.locks = false) (hF : fz_F G fz_KM s) (hag4 : ∀ (v2 : Int32) (v3 : Int32) (H : Heap) (locs : List Loc) (ls : Array Slot), fz_T G fz_shM fz_KM s M H locs → lv_has ls 4 [(0, .ref (G.1 0)), (1, .int v1), (2, .int v2), (3, .int v3)] → ag4 (v2, v3) = some r → W p l e (fz_rm 1 24) s m args below meth c H locs 0 0 (MQ below (fz_Qi G fz_shM fz_KM r M) args s 0 0 (fz_Fr G fz_KM)) (F0 m 4 ls [])) (hT : fz_T G fz_shM fz_KM s M H locs) (hl : lv_has ls 4 [(0, .ref (G.1 0)), (1, .int v1), (3, .int v3)]) (h : f_X9_hasMore_35 ag4 v1 v3 s0 M = some r) : W p l e (fz_rm 1 24) s m args below meth c H locs 0 0 (MQ below (fz_Qi G fz_shM fz_KM r M) args s 0 0 (fz_Fr G fz_KM)) (F0 m 35 ls [.int s0]) := by
  refine lv_istore_n (lv' := [(2, .int s0), (0, .ref (G.1 0)), (1, .int v1), (3, .int v3)]) C.1 C.2.1 dX9_hasMore_35 rfl hl (by decide) rfl (fun ls hl => ?_)
  refine lv_iinc (v := (v3 + 1)) (lv' := [(3, .int (v3 + 1)), (2, .int s0), (0, .ref (G.1 0)), (1, .int v1)]) C.1 C.2.1 dX9_hasMore_36 hl (k := 3) rfl rfl (by decide) rfl (fun ls hl => ?_)
  refine lv_goto (tgt := 4) C.1 C.2.1 dX9_hasMore_39 (by decide) ?_
  exact hag4 s0 (v3 + 1) _ _ _ hT (lv_sub hl [2, 3, 1, 0] rfl) h
set_option maxHeartbeats 4000000 in
set_option maxRecDepth 100000 in
theorem b_X9_hasMore_34 {p : Program} {l : Launch} {e : Env} {s : State} {m : MethodId} {args : Array Value} {below : List Frame} {meth : Method} {c : Code} {G : fz_G}   {ag4 : (Int32 × Int32) → Option Int32}  {v1 : Int32} {v3 : Int32} {M : fz_M} {H : Heap} {locs : List Loc} {ls : Array Slot} {r : Int32} (C : CallFix p m c cX9_hasMore 4 s args wsL_law RX9) (hr : meth.sig.returnType = (some .boolean)) (hlk : meth.locks = false) (hF : fz_F G fz_KM s) (hag4 : ∀ (v2 : Int32) (v3 : Int32) (H : Heap) (locs : List Loc) (ls : Array Slot), fz_T G fz_shM fz_KM s M H locs → lv_has ls 4 [(0, .ref (G.1 0)), (1, .int v1), (2, .int v2), (3, .int v3)] → ag4 (v2, v3) = some r → W p l e (fz_rm 1 24) s m args below meth c H locs 0 0 (MQ below (fz_Qi G fz_shM fz_KM r M) args s 0 0 (fz_Fr G fz_KM)) (F0 m 4 ls [])) (hT : fz_T G fz_shM fz_KM s M H locs) (hl : lv_has ls 4 [(0, .ref (G.1 0)), (1, .int v1), (3, .int v3)]) (h : f_X9_hasMore_34 ag4 v1 v3 M = some r) : W p l e (fz_rm 1 24) s m args below meth c H locs 0 0 (MQ below (fz_Qi G fz_shM fz_KM r M) args s 0 0 (fz_Fr G fz_KM)) (F0 m 34 ls []) := by
  refine lv_iconst (v := 0) C.1 C.2.1 dX9_hasMore_34 (by decide) ?_
  exact b_X9_hasMore_35 C hr hlk hF hag4 hT (lv_sub hl [0, 1, 2] rfl) h
set_option maxHeartbeats 4000000 in
set_option maxRecDepth 100000 in
theorem b_X9_hasMore_4_l {p : Program} {l : Launch} {e : Env} {s : State} {m : MethodId} {args : Array Value} {below : List Frame} {meth : Method} {c : Code} {G : fz_G}     {v1 : Int32} {M : fz_M} {r : Int32} (C : CallFix p m c cX9_hasMore 4 s args wsL_law RX9) (hr : meth.sig.returnType = (some .boolean)) (hlk : meth.locks = false) (hF : fz_F G fz_KM s)  : ∀ (n : Nat) (v2 : Int32) (v3 : Int32) (H : Heap) (locs : List Loc) (ls : Array Slot), fz_T G fz_shM fz_KM s M H locs → lv_has ls 4 [(0, .ref (G.1 0)), (1, .int v1), (2, .int v2), (3, .int v3)] → fz_lp (fun ag z => f_X9_hasMore_4_s ag v1 z.1 z.2 M) n (v2, v3) = some r → W p l e (fz_rm 1 24) s m args below meth c H locs 0 0 (MQ below (fz_Qi G fz_shM fz_KM r M) args s 0 0 (fz_Fr G fz_KM)) (F0 m 4 ls []) := by
  intro n
  induction n with
  | zero =>
    intro v2 v3 H locs ls hT hl h
    cases h
  | succ n ih =>
    intro v2 v3 H locs ls hT hl h
    have h : f_X9_hasMore_4_s (fz_lp (fun ag z => f_X9_hasMore_4_s ag v1 z.1 z.2 M) n) v1 v2 v3 M = some r := h
    have hag4 := ih
    generalize fz_lp (fun ag z => f_X9_hasMore_4_s ag v1 z.1 z.2 M) n = ag4 at h hag4
    refine lv_iload_n C.1 C.2.1 dX9_hasMore_4 rfl (lv_at hl 3 rfl) ?_
    refine lv_aload_n C.1 C.2.1 dX9_hasMore_5 rfl (lv_at hl 0 rfl) ?_
    refine fz_geti C hF hT fz_m0 (j := 22) rfl fl_X9_147 dX9_hasMore_6 ?_
    refine lv_icmp_ge (tgt := 42) C.1 C.2.1 dX9_hasMore_9 (by decide) (fun c1 => ?_) (fun c1 => ?_)
    · have h := fz_ip c1 h
      refine lv_iload_n C.1 C.2.1 dX9_hasMore_42 rfl (lv_at hl 2 rfl) ?_
      refine lv_if_eq (tgt := 58) C.1 C.2.1 dX9_hasMore_43 (by decide) (fun c2 => ?_) (fun c2 => ?_)
      · have h := fz_ip c2 h
        refine lv_iconst (v := 0) C.1 C.2.1 dX9_hasMore_58 (by decide) ?_
        cases h
        exact fz_retz C hr hlk rfl hT dX9_hasMore_59
      · have h := fz_iq c2 h
        refine lv_aload_n C.1 C.2.1 dX9_hasMore_46 rfl (lv_at hl 0 rfl) ?_
        refine lv_iload_n C.1 C.2.1 dX9_hasMore_47 rfl (lv_at hl 1 rfl) ?_
        obtain ⟨r3, w5, h⟩ := fz_b1_s h
        refine fz_ci hT (fz_runV (np := 1) (rest := []) C hF hT (c_X9_leftOf l G v1 M r3 w5) fz_m0 (T := TX9) (N := 49) rfl cl_X9_157 rfl hl.1 rfl (Nat.le_of_ble_eq_true rfl) ⟨Nat.le_of_ble_eq_true rfl, Nat.le_of_ble_eq_true rfl, Nat.zero_le _, Nat.zero_le _⟩ dX9_hasMore_48) (fun H locs hT => ?_)
        refine lv_if_le (tgt := 58) C.1 C.2.1 dX9_hasMore_51 (by decide) (fun c6 => ?_) (fun c6 => ?_)
        · have h := fz_ip c6 h
          refine lv_iconst (v := 0) C.1 C.2.1 dX9_hasMore_58 (by decide) ?_
          cases h
          exact fz_retz C hr hlk rfl hT dX9_hasMore_59
        · have h := fz_iq c6 h
          refine lv_iconst (v := 1) C.1 C.2.1 dX9_hasMore_54 (by decide) ?_
          refine lv_goto (tgt := 59) C.1 C.2.1 dX9_hasMore_55 (by decide) ?_
          cases h
          exact fz_retz C hr hlk rfl hT dX9_hasMore_59
    · have h := fz_iq c1 h
      refine lv_iload_n C.1 C.2.1 dX9_hasMore_12 rfl (lv_at hl 2 rfl) ?_
      refine lv_if_ne (tgt := 30) C.1 C.2.1 dX9_hasMore_13 (by decide) (fun c7 => ?_) (fun c7 => ?_)
      · have h := fz_ip c7 h
        refine lv_iconst (v := 1) C.1 C.2.1 dX9_hasMore_30 (by decide) ?_
        refine lv_goto (tgt := 35) C.1 C.2.1 dX9_hasMore_31 (by decide) ?_
        exact b_X9_hasMore_35 C hr hlk hF hag4 hT (lv_sub hl [0, 1, 3] rfl) h
      · have h := fz_iq (not_not_intro c7) h
        refine lv_iload_n C.1 C.2.1 dX9_hasMore_16 rfl (lv_at hl 1 rfl) ?_
        refine lv_iload_n C.1 C.2.1 dX9_hasMore_17 rfl (lv_at hl 3 rfl) ?_
        refine lv_icmp_eq (tgt := 34) C.1 C.2.1 dX9_hasMore_18 (by decide) (fun c8 => ?_) (fun c8 => ?_)
        · have h := fz_ip c8 h
          exact b_X9_hasMore_34 C hr hlk hF hag4 hT (lv_sub hl [0, 1, 3] rfl) h
        · have h := fz_iq c8 h
          refine lv_aload_n C.1 C.2.1 dX9_hasMore_21 rfl (lv_at hl 0 rfl) ?_
          refine lv_iload_n C.1 C.2.1 dX9_hasMore_22 rfl (lv_at hl 1 rfl) ?_
          refine lv_iload_n C.1 C.2.1 dX9_hasMore_23 rfl (lv_at hl 3 rfl) ?_
          obtain ⟨r9, w11, h⟩ := fz_b1_s h
          refine fz_ci hT (fz_runV (np := 2) (rest := []) C hF hT (c_X9_isTold l G v1 v3 M r9 w11) fz_m0 (T := TX9) (N := 49) rfl cl_X9_153 rfl hl.1 rfl (Nat.le_of_ble_eq_true rfl) ⟨Nat.le_of_ble_eq_true rfl, Nat.le_of_ble_eq_true rfl, Nat.zero_le _, Nat.zero_le _⟩ dX9_hasMore_24) (fun H locs hT => ?_)
          refine lv_if_ne (tgt := 34) C.1 C.2.1 dX9_hasMore_27 (by decide) (fun c12 => ?_) (fun c12 => ?_)
          · have h := fz_ip c12 h
            exact b_X9_hasMore_34 C hr hlk hF hag4 hT (lv_sub hl [0, 1, 3] rfl) h
          · have h := fz_iq (not_not_intro c12) h
            refine lv_iconst (v := 1) C.1 C.2.1 dX9_hasMore_30 (by decide) ?_
            refine lv_goto (tgt := 35) C.1 C.2.1 dX9_hasMore_31 (by decide) ?_
            exact b_X9_hasMore_35 C hr hlk hF hag4 hT (lv_sub hl [0, 1, 3] rfl) h
set_option maxHeartbeats 4000000 in
set_option maxRecDepth 100000 in
theorem b_X9_hasMore_4 {p : Program} {l : Launch} {e : Env} {s : State} {m : MethodId} {args : Array Value} {below : List Frame} {meth : Method} {c : Code} {G : fz_G}     {v1 : Int32} {v2 : Int32} {v3 : Int32} {M : fz_M} {H : Heap} {locs : List Loc} {ls : Array Slot} {r : Int32} (C : CallFix p m c cX9_hasMore 4 s args wsL_law RX9) (hr : meth.sig.returnType = (some .boolean)) (hlk : meth.locks = false) (hF : fz_F G fz_KM s)  (hT : fz_T G fz_shM fz_KM s M H locs) (hl : lv_has ls 4 [(0, .ref (G.1 0)), (1, .int v1), (2, .int v2), (3, .int v3)]) (h : f_X9_hasMore_4 v1 v2 v3 M = some r) : W p l e (fz_rm 1 24) s m args below meth c H locs 0 0 (MQ below (fz_Qi G fz_shM fz_KM r M) args s 0 0 (fz_Fr G fz_KM)) (F0 m 4 ls []) :=
  b_X9_hasMore_4_l C hr hlk hF fz_fuel v2 v3 H locs ls hT hl h
set_option maxHeartbeats 4000000 in
set_option maxRecDepth 100000 in
theorem b_X9_hasMore_0 {p : Program} {l : Launch} {e : Env} {s : State} {m : MethodId} {args : Array Value} {below : List Frame} {meth : Method} {c : Code} {G : fz_G}     {v1 : Int32} {M : fz_M} {H : Heap} {locs : List Loc} {ls : Array Slot} {r : Int32} (C : CallFix p m c cX9_hasMore 4 s args wsL_law RX9) (hr : meth.sig.returnType = (some .boolean)) (hlk : meth.locks = false) (hF : fz_F G fz_KM s)  (hT : fz_T G fz_shM fz_KM s M H locs) (hl : lv_has ls 4 [(0, .ref (G.1 0)), (1, .int v1)]) (h : f_X9_hasMore v1 M = some r) : W p l e (fz_rm 1 24) s m args below meth c H locs 0 0 (MQ below (fz_Qi G fz_shM fz_KM r M) args s 0 0 (fz_Fr G fz_KM)) (F0 m 0 ls []) := by
  refine lv_iconst (v := 0) C.1 C.2.1 dX9_hasMore_0 (by decide) ?_
  refine lv_istore_n (lv' := [(2, .int 0), (0, .ref (G.1 0)), (1, .int v1)]) C.1 C.2.1 dX9_hasMore_1 rfl hl (by decide) rfl (fun ls hl => ?_)
  refine lv_iconst (v := 0) C.1 C.2.1 dX9_hasMore_2 (by decide) ?_
  refine lv_istore_n (lv' := [(3, .int 0), (2, .int 0), (0, .ref (G.1 0)), (1, .int v1)]) C.1 C.2.1 dX9_hasMore_3 rfl hl (by decide) rfl (fun ls hl => ?_)
  exact b_X9_hasMore_4 C hr hlk hF hT (lv_sub hl [2, 3, 1, 0] rfl) h
set_option maxRecDepth 100000 in
theorem c_X9_hasMore (l : Launch) (G : fz_G)  (a0 : Int32) (M : fz_M) (r : Int32) (h : f_X9_hasMore a0 M = some r) : fz_Me l yX9_hasMore cX9_hasMore 4 (some .boolean) 1 24 G fz_shM fz_KM [.ref (G.1 0), .int a0] M (fz_Qi G fz_shM fz_KM r M) := by
  refine fz_body (by decide) (Nat.le_of_ble_eq_true rfl) ?_
  intro p e s m args below meth c H locs ls C hr hlk hF hT hl
  have C : CallFix p m c cX9_hasMore 4 s args wsL_law RX9 := C
  have hl : lv_has ls 4 [(0, .ref (G.1 0)), (1, .int a0)] := hl
  exact b_X9_hasMore_0 C hr hlk hF hT (lv_sub hl [0, 1] rfl) h
set_option maxHeartbeats 4000000 in
set_option maxRecDepth 100000 in
theorem b_X9_hasAnyMore_29 {p : Program} {l : Launch} {e : Env} {s : State} {m : MethodId} {args : Array Value} {below : List Frame} {meth : Method} {c : Code} {G : fz_G}   {ag4 : (Int32 × Int32) → Option Int32}  {v2 : Int32} {s0 : Int32} {M : fz_M} {H : Heap} {locs : List Loc} {ls : Array Slot} {r : Int32} (C : CallFix p m c cX9_hasAnyMore 3 s args wsL_law RX9) (hr : meth.sig.returnType = (some .boolean)) (hlk : meth.locks = false) (hF : fz_F G fz_KM s) (hag4 : ∀ (v1 : Int32) (v2 : Int32) (H : Heap) (locs : List Loc) (ls : Array Slot), fz_T G fz_shM fz_KM s M H locs → lv_has ls 3 [(0, .ref (G.1 0)), (1, .int v1), (2, .int v2)] → ag4 (v1, v2) = some r → W p l e (fz_rm 2 47) s m args below meth c H locs 0 0 (MQ below (fz_Qi G fz_shM fz_KM r M) args s 0 0 (fz_Fr G fz_KM)) (F0 m 4 ls [])) (hT : fz_T G fz_shM fz_KM s M H locs) (hl : lv_has ls 3 [(0, .ref (G.1 0)), (2, .int v2)]) (h : f_X9_hasAnyMore_29 ag4 v2 s0 M = some r) : W p l e (fz_rm 2 47) s m args below meth c H locs 0 0 (MQ below (fz_Qi G fz_shM fz_KM r M) args s 0 0 (fz_Fr G fz_KM)) (F0 m 29 ls [.int s0]) := by
  refine lv_istore_n (lv' := [(1, .int s0), (0, .ref (G.1 0)), (2, .int v2)]) C.1 C.2.1 dX9_hasAnyMore_29 rfl hl (by decide) rfl (fun ls hl => ?_)
  refine lv_iinc (v := (v2 + 1)) (lv' := [(2, .int (v2 + 1)), (1, .int s0), (0, .ref (G.1 0))]) C.1 C.2.1 dX9_hasAnyMore_30 hl (k := 2) rfl rfl (by decide) rfl (fun ls hl => ?_)
  refine lv_goto (tgt := 4) C.1 C.2.1 dX9_hasAnyMore_33 (by decide) ?_
  exact hag4 s0 (v2 + 1) _ _ _ hT (lv_sub hl [2, 1, 0] rfl) h
set_option maxHeartbeats 4000000 in
set_option maxRecDepth 100000 in
theorem b_X9_hasAnyMore_4_l {p : Program} {l : Launch} {e : Env} {s : State} {m : MethodId} {args : Array Value} {below : List Frame} {meth : Method} {c : Code} {G : fz_G}      {M : fz_M} {r : Int32} (C : CallFix p m c cX9_hasAnyMore 3 s args wsL_law RX9) (hr : meth.sig.returnType = (some .boolean)) (hlk : meth.locks = false) (hF : fz_F G fz_KM s)  : ∀ (n : Nat) (v1 : Int32) (v2 : Int32) (H : Heap) (locs : List Loc) (ls : Array Slot), fz_T G fz_shM fz_KM s M H locs → lv_has ls 3 [(0, .ref (G.1 0)), (1, .int v1), (2, .int v2)] → fz_lp (fun ag z => f_X9_hasAnyMore_4_s ag z.1 z.2 M) n (v1, v2) = some r → W p l e (fz_rm 2 47) s m args below meth c H locs 0 0 (MQ below (fz_Qi G fz_shM fz_KM r M) args s 0 0 (fz_Fr G fz_KM)) (F0 m 4 ls []) := by
  intro n
  induction n with
  | zero =>
    intro v1 v2 H locs ls hT hl h
    cases h
  | succ n ih =>
    intro v1 v2 H locs ls hT hl h
    have h : f_X9_hasAnyMore_4_s (fz_lp (fun ag z => f_X9_hasAnyMore_4_s ag z.1 z.2 M) n) v1 v2 M = some r := h
    have hag4 := ih
    generalize fz_lp (fun ag z => f_X9_hasAnyMore_4_s ag z.1 z.2 M) n = ag4 at h hag4
    refine lv_iload_n C.1 C.2.1 dX9_hasAnyMore_4 rfl (lv_at hl 2 rfl) ?_
    refine lv_aload_n C.1 C.2.1 dX9_hasAnyMore_5 rfl (lv_at hl 0 rfl) ?_
    refine fz_geti C hF hT fz_m0 (j := 22) rfl fl_X9_147 dX9_hasAnyMore_6 ?_
    refine lv_icmp_ge (tgt := 36) C.1 C.2.1 dX9_hasAnyMore_9 (by decide) (fun c1 => ?_) (fun c1 => ?_)
    · have h := fz_ip c1 h
      refine lv_iload_n C.1 C.2.1 dX9_hasAnyMore_36 rfl (lv_at hl 1 rfl) ?_
      obtain ⟨g2, h⟩ := fz_gd_s h
      cases h
      exact fz_retz C hr hlk g2 hT dX9_hasAnyMore_37
    · have h := fz_iq c1 h
      refine lv_iload_n C.1 C.2.1 dX9_hasAnyMore_12 rfl (lv_at hl 1 rfl) ?_
      refine lv_if_ne (tgt := 24) C.1 C.2.1 dX9_hasAnyMore_13 (by decide) (fun c3 => ?_) (fun c3 => ?_)
      · have h := fz_ip c3 h
        refine lv_iconst (v := 1) C.1 C.2.1 dX9_hasAnyMore_24 (by decide) ?_
        refine lv_goto (tgt := 29) C.1 C.2.1 dX9_hasAnyMore_25 (by decide) ?_
        exact b_X9_hasAnyMore_29 C hr hlk hF hag4 hT (lv_sub hl [0, 2] rfl) h
      · have h := fz_iq (not_not_intro c3) h
        refine lv_aload_n C.1 C.2.1 dX9_hasAnyMore_16 rfl (lv_at hl 0 rfl) ?_
        refine lv_iload_n C.1 C.2.1 dX9_hasAnyMore_17 rfl (lv_at hl 2 rfl) ?_
        obtain ⟨r4, w6, h⟩ := fz_b1_s h
        refine fz_ci hT (fz_runV (np := 1) (rest := []) C hF hT (c_X9_hasMore l G v2 M r4 w6) fz_m0 (T := TX9) (N := 49) rfl cl_X9_161 rfl hl.1 rfl (Nat.le_of_ble_eq_true rfl) ⟨Nat.le_of_ble_eq_true rfl, Nat.le_of_ble_eq_true rfl, Nat.zero_le _, Nat.zero_le _⟩ dX9_hasAnyMore_18) (fun H locs hT => ?_)
        refine lv_if_eq (tgt := 28) C.1 C.2.1 dX9_hasAnyMore_21 (by decide) (fun c7 => ?_) (fun c7 => ?_)
        · have h := fz_ip c7 h
          refine lv_iconst (v := 0) C.1 C.2.1 dX9_hasAnyMore_28 (by decide) ?_
          exact b_X9_hasAnyMore_29 C hr hlk hF hag4 hT (lv_sub hl [0, 2] rfl) h
        · have h := fz_iq c7 h
          refine lv_iconst (v := 1) C.1 C.2.1 dX9_hasAnyMore_24 (by decide) ?_
          refine lv_goto (tgt := 29) C.1 C.2.1 dX9_hasAnyMore_25 (by decide) ?_
          exact b_X9_hasAnyMore_29 C hr hlk hF hag4 hT (lv_sub hl [0, 2] rfl) h
set_option maxHeartbeats 4000000 in
set_option maxRecDepth 100000 in
theorem b_X9_hasAnyMore_4 {p : Program} {l : Launch} {e : Env} {s : State} {m : MethodId} {args : Array Value} {below : List Frame} {meth : Method} {c : Code} {G : fz_G}     {v1 : Int32} {v2 : Int32} {M : fz_M} {H : Heap} {locs : List Loc} {ls : Array Slot} {r : Int32} (C : CallFix p m c cX9_hasAnyMore 3 s args wsL_law RX9) (hr : meth.sig.returnType = (some .boolean)) (hlk : meth.locks = false) (hF : fz_F G fz_KM s)  (hT : fz_T G fz_shM fz_KM s M H locs) (hl : lv_has ls 3 [(0, .ref (G.1 0)), (1, .int v1), (2, .int v2)]) (h : f_X9_hasAnyMore_4 v1 v2 M = some r) : W p l e (fz_rm 2 47) s m args below meth c H locs 0 0 (MQ below (fz_Qi G fz_shM fz_KM r M) args s 0 0 (fz_Fr G fz_KM)) (F0 m 4 ls []) :=
  b_X9_hasAnyMore_4_l C hr hlk hF fz_fuel v1 v2 H locs ls hT hl h
set_option maxHeartbeats 4000000 in
set_option maxRecDepth 100000 in
theorem b_X9_hasAnyMore_0 {p : Program} {l : Launch} {e : Env} {s : State} {m : MethodId} {args : Array Value} {below : List Frame} {meth : Method} {c : Code} {G : fz_G}      {M : fz_M} {H : Heap} {locs : List Loc} {ls : Array Slot} {r : Int32} (C : CallFix p m c cX9_hasAnyMore 3 s args wsL_law RX9) (hr : meth.sig.returnType = (some .boolean)) (hlk : meth.locks = false) (hF : fz_F G fz_KM s)  (hT : fz_T G fz_shM fz_KM s M H locs) (hl : lv_has ls 3 [(0, .ref (G.1 0))]) (h : f_X9_hasAnyMore M = some r) : W p l e (fz_rm 2 47) s m args below meth c H locs 0 0 (MQ below (fz_Qi G fz_shM fz_KM r M) args s 0 0 (fz_Fr G fz_KM)) (F0 m 0 ls []) := by
  refine lv_iconst (v := 0) C.1 C.2.1 dX9_hasAnyMore_0 (by decide) ?_
  refine lv_istore_n (lv' := [(1, .int 0), (0, .ref (G.1 0))]) C.1 C.2.1 dX9_hasAnyMore_1 rfl hl (by decide) rfl (fun ls hl => ?_)
  refine lv_iconst (v := 0) C.1 C.2.1 dX9_hasAnyMore_2 (by decide) ?_
  refine lv_istore_n (lv' := [(2, .int 0), (1, .int 0), (0, .ref (G.1 0))]) C.1 C.2.1 dX9_hasAnyMore_3 rfl hl (by decide) rfl (fun ls hl => ?_)
  exact b_X9_hasAnyMore_4 C hr hlk hF hT (lv_sub hl [2, 1, 0] rfl) h
set_option maxRecDepth 100000 in
theorem c_X9_hasAnyMore (l : Launch) (G : fz_G)   (M : fz_M) (r : Int32) (h : f_X9_hasAnyMore M = some r) : fz_Me l yX9_hasAnyMore cX9_hasAnyMore 3 (some .boolean) 2 47 G fz_shM fz_KM [.ref (G.1 0)] M (fz_Qi G fz_shM fz_KM r M) := by
  refine fz_body (by decide) (Nat.le_of_ble_eq_true rfl) ?_
  intro p e s m args below meth c H locs ls C hr hlk hF hT hl
  have C : CallFix p m c cX9_hasAnyMore 3 s args wsL_law RX9 := C
  have hl : lv_has ls 3 [(0, .ref (G.1 0))] := hl
  exact b_X9_hasAnyMore_0 C hr hlk hF hT (lv_sub hl [0] rfl) h
set_option maxHeartbeats 4000000 in
set_option maxRecDepth 100000 in
theorem b_X9_readStream_156 {p : Program} {l : Launch} {e : Env} {s : State} {m : MethodId} {args : Array Value} {below : List Frame} {meth : Method} {c : Code} {G : fz_G}     {v1 : Int32} {v2 : Int32} {s1 : Int32} {s2 : Int32} {M : fz_M} {H : Heap} {locs : List Loc} {ls : Array Slot} {r : Int32} {M9 : fz_M} (C : CallFix p m c cX9_readStream 5 s args wsL_law RX9) (hr : meth.sig.returnType = (some .boolean)) (hlk : meth.locks = false) (hF : fz_F G fz_KM s)  (hT : fz_T G fz_shM fz_KM s M H locs) (hl : lv_has ls 5 [(0, .ref (G.1 0)), (1, .int v1), (2, .int v2)]) (h : f_X9_readStream_156 v1 v2 s1 s2 M = some (r, M9)) : W p l e (fz_rm 2 47) s m args below meth c H locs 0 0 (MQ below (fz_Qi G fz_shM fz_KM r M9) args s 0 0 (fz_Fr G fz_KM)) (F0 m 156 ls [.int s2, .int s1, .ref (G.1 0)]) := by
  obtain ⟨r1, M2, w3, h⟩ := fz_b2_s h
  refine fz_ci hT (fz_runV (np := 2) (rest := []) C hF hT (c_X9_figure l G s1 s2 M r1 M2 w3) fz_m0 (T := TX9) (N := 49) rfl cl_X9_143 rfl hl.1 rfl (Nat.le_of_ble_eq_true rfl) ⟨Nat.le_of_ble_eq_true rfl, Nat.le_of_ble_eq_true rfl, Nat.zero_le _, Nat.zero_le _⟩ dX9_readStream_156) (fun H locs hT => ?_)
  refine lv_istore (lv' := [(4, .int r1), (0, .ref (G.1 0)), (1, .int v1), (2, .int v2)]) C.1 C.2.1 dX9_readStream_159 hl (by decide) rfl (fun ls hl => ?_)
  refine lv_iload C.1 C.2.1 dX9_readStream_161 (lv_at hl 0 rfl) ?_
  refine lv_bipush (v := (-9)) C.1 C.2.1 dX9_readStream_163 (by decide) ?_
  refine lv_icmp_ne (tgt := 170) C.1 C.2.1 dX9_readStream_165 (by decide) (fun c4 => ?_) (fun c4 => ?_)
  · have h := fz_ip c4 h
    refine lv_aload_n C.1 C.2.1 dX9_readStream_170 rfl (lv_at hl 1 rfl) ?_
    refine fz_getr C hF hT fz_m0 (j := 27) rfl fl_X9_62 dX9_readStream_171 ?_
    refine lv_aload_n C.1 C.2.1 dX9_readStream_174 rfl (lv_at hl 1 rfl) ?_
    refine fz_geti C hF hT fz_m0 (j := 23) rfl fl_X9_150 dX9_readStream_175 ?_
    refine lv_iload_n C.1 C.2.1 dX9_readStream_178 rfl (lv_at hl 2 rfl) ?_
    obtain ⟨g5, h⟩ := fz_gd_s h
    obtain ⟨M6, eM6, h⟩ := fz_bd_s h
    refine fz_ias C hF hT fz_m18 g5 dX9_readStream_179 (fun H locs hT => ?_)
    rw [← eM6] at hT
    refine lv_aload_n C.1 C.2.1 dX9_readStream_180 rfl (lv_at hl 1 rfl) ?_
    refine fz_getr C hF hT fz_m0 (j := 28) rfl fl_X9_65 dX9_readStream_181 ?_
    refine lv_aload_n C.1 C.2.1 dX9_readStream_184 rfl (lv_at hl 1 rfl) ?_
    refine fz_geti C hF hT fz_m0 (j := 23) rfl fl_X9_150 dX9_readStream_185 ?_
    refine lv_iload_n C.1 C.2.1 dX9_readStream_188 rfl (lv_at hl 3 rfl) ?_
    obtain ⟨g7, h⟩ := fz_gd_s h
    obtain ⟨M8, eM8, h⟩ := fz_bd_s h
    refine fz_ias C hF hT fz_m19 g7 dX9_readStream_189 (fun H locs hT => ?_)
    rw [← eM8] at hT
    refine lv_aload_n C.1 C.2.1 dX9_readStream_190 rfl (lv_at hl 1 rfl) ?_
    refine fz_getr C hF hT fz_m0 (j := 29) rfl fl_X9_68 dX9_readStream_191 ?_
    refine lv_aload_n C.1 C.2.1 dX9_readStream_194 rfl (lv_at hl 1 rfl) ?_
    refine fz_geti C hF hT fz_m0 (j := 23) rfl fl_X9_150 dX9_readStream_195 ?_
    refine lv_iload C.1 C.2.1 dX9_readStream_198 (lv_at hl 0 rfl) ?_
    obtain ⟨g9, h⟩ := fz_gd_s h
    obtain ⟨M10, eM10, h⟩ := fz_bd_s h
    refine fz_ias C hF hT fz_m20 g9 dX9_readStream_200 (fun H locs hT => ?_)
    rw [← eM10] at hT
    refine lv_aload_n C.1 C.2.1 dX9_readStream_201 rfl (lv_at hl 1 rfl) ?_
    refine lv_dup C.1 C.2.1 dX9_readStream_202 rfl ?_
    refine fz_geti C hF hT fz_m0 (j := 23) rfl fl_X9_150 dX9_readStream_203 ?_
    refine lv_iconst (v := 1) C.1 C.2.1 dX9_readStream_206 (by decide) ?_
    refine lv_iadd C.1 C.2.1 dX9_readStream_207 ?_
    obtain ⟨M11, eM11, h⟩ := fz_bd_s h
    refine fz_puti C hF hT fz_m0 (j := 23) rfl fw_X9_150 dX9_readStream_208 (fun H locs hT => ?_)
    rw [← eM11] at hT
    refine lv_iconst (v := 1) C.1 C.2.1 dX9_readStream_211 (by decide) ?_
    cases h
    exact fz_retz C hr hlk rfl hT dX9_readStream_212
  · have h := fz_iq (not_not_intro c4) h
    refine lv_iconst (v := 0) C.1 C.2.1 dX9_readStream_168 (by decide) ?_
    cases h
    exact fz_retz C hr hlk rfl hT dX9_readStream_169
set_option maxHeartbeats 4000000 in
set_option maxRecDepth 100000 in
theorem b_X9_readStream_93 {p : Program} {l : Launch} {e : Env} {s : State} {m : MethodId} {args : Array Value} {below : List Frame} {meth : Method} {c : Code} {G : fz_G}     {v1 : Int32} {s0 : Int32} {M : fz_M} {H : Heap} {locs : List Loc} {ls : Array Slot} {r : Int32} {M9 : fz_M} (C : CallFix p m c cX9_readStream 5 s args wsL_law RX9) (hr : meth.sig.returnType = (some .boolean)) (hlk : meth.locks = false) (hF : fz_F G fz_KM s)  (hT : fz_T G fz_shM fz_KM s M H locs) (hl : lv_has ls 5 [(0, .ref (G.1 0)), (1, .int v1)]) (h : f_X9_readStream_93 v1 s0 M = some (r, M9)) : W p l e (fz_rm 2 47) s m args below meth c H locs 0 0 (MQ below (fz_Qi G fz_shM fz_KM r M9) args s 0 0 (fz_Fr G fz_KM)) (F0 m 93 ls [.int s0]) := by
  refine lv_istore_n (lv' := [(2, .int s0), (0, .ref (G.1 0)), (1, .int v1)]) C.1 C.2.1 dX9_readStream_93 rfl hl (by decide) rfl (fun ls hl => ?_)
  refine lv_iload_n C.1 C.2.1 dX9_readStream_94 rfl (lv_at hl 0 rfl) ?_
  refine lv_i2l (v := (s0.toInt64)) C.1 C.2.1 dX9_readStream_95 rfl ?_
  refine lv_lconst (v := 0) C.1 C.2.1 dX9_readStream_96 (by decide) ?_
  refine lv_aload_n C.1 C.2.1 dX9_readStream_97 rfl (lv_at hl 1 rfl) ?_
  refine fz_geti C hF hT fz_m0 (j := 22) rfl fl_X9_147 dX9_readStream_98 ?_
  refine lv_iconst (v := 1) C.1 C.2.1 dX9_readStream_101 (by decide) ?_
  refine lv_isub C.1 C.2.1 dX9_readStream_102 ?_
  refine lv_i2l (v := (((fz_f M 0 22) - 1).toInt64)) C.1 C.2.1 dX9_readStream_103 rfl ?_
  obtain ⟨r1, w3, h⟩ := fz_b1_s h
  refine fz_ci hT (fz_runS (np := 3) (rest := []) C hF hT (c_X9_in l G (s0.toInt64) 0 (((fz_f M 0 22) - 1).toInt64) M r1 w3) cl_X9_124 rfl hl.1 rfl (Nat.le_of_ble_eq_true rfl) ⟨Nat.le_of_ble_eq_true rfl, Nat.le_of_ble_eq_true rfl, Nat.zero_le _, Nat.zero_le _⟩ dX9_readStream_104) (fun H locs hT => ?_)
  refine lv_if_eq (tgt := 124) C.1 C.2.1 dX9_readStream_107 (by decide) (fun c4 => ?_) (fun c4 => ?_)
  · have h := fz_ip c4 h
    refine lv_iconst (v := 0) C.1 C.2.1 dX9_readStream_124 (by decide) ?_
    cases h
    exact fz_retz C hr hlk rfl hT dX9_readStream_125
  · have h := fz_iq c4 h
    refine lv_iload_n C.1 C.2.1 dX9_readStream_110 rfl (lv_at hl 2 rfl) ?_
    refine lv_iload_n C.1 C.2.1 dX9_readStream_111 rfl (lv_at hl 0 rfl) ?_
    refine lv_icmp_eq (tgt := 124) C.1 C.2.1 dX9_readStream_112 (by decide) (fun c5 => ?_) (fun c5 => ?_)
    · have h := fz_ip c5 h
      refine lv_iconst (v := 0) C.1 C.2.1 dX9_readStream_124 (by decide) ?_
      cases h
      exact fz_retz C hr hlk rfl hT dX9_readStream_125
    · have h := fz_iq c5 h
      refine lv_aload_n C.1 C.2.1 dX9_readStream_115 rfl (lv_at hl 1 rfl) ?_
      refine lv_iload_n C.1 C.2.1 dX9_readStream_116 rfl (lv_at hl 2 rfl) ?_
      refine lv_iload_n C.1 C.2.1 dX9_readStream_117 rfl (lv_at hl 0 rfl) ?_
      obtain ⟨r6, w8, h⟩ := fz_b1_s h
      refine fz_ci hT (fz_runV (np := 2) (rest := []) C hF hT (c_X9_isTold l G v1 s0 M r6 w8) fz_m0 (T := TX9) (N := 49) rfl cl_X9_153 rfl hl.1 rfl (Nat.le_of_ble_eq_true rfl) ⟨Nat.le_of_ble_eq_true rfl, Nat.le_of_ble_eq_true rfl, Nat.zero_le _, Nat.zero_le _⟩ dX9_readStream_118) (fun H locs hT => ?_)
      refine lv_if_eq (tgt := 126) C.1 C.2.1 dX9_readStream_121 (by decide) (fun c9 => ?_) (fun c9 => ?_)
      · have h := fz_ip c9 h
        refine lv_aload_n C.1 C.2.1 dX9_readStream_126 rfl (lv_at hl 1 rfl) ?_
        refine lv_dup C.1 C.2.1 dX9_readStream_127 rfl ?_
        refine fz_geti C hF hT fz_m0 (j := 3) rfl fl_X9_140 dX9_readStream_128 ?_
        refine lv_iconst (v := 1) C.1 C.2.1 dX9_readStream_131 (by decide) ?_
        refine lv_iadd C.1 C.2.1 dX9_readStream_132 ?_
        obtain ⟨M10, eM10, h⟩ := fz_bd_s h
        refine fz_puti C hF hT fz_m0 (j := 3) rfl fw_X9_140 dX9_readStream_133 (fun H locs hT => ?_)
        rw [← eM10] at hT
        refine lv_aload_n C.1 C.2.1 dX9_readStream_136 rfl (lv_at hl 1 rfl) ?_
        refine lv_iload_n C.1 C.2.1 dX9_readStream_137 rfl (lv_at hl 2 rfl) ?_
        obtain ⟨r11, w13, h⟩ := fz_b1_s h
        refine fz_ci hT (fz_runV (np := 1) (rest := []) C hF hT (c_X9_leftOf l G v1 M10 r11 w13) fz_m0 (T := TX9) (N := 49) rfl cl_X9_157 rfl hl.1 rfl (Nat.le_of_ble_eq_true rfl) ⟨Nat.le_of_ble_eq_true rfl, Nat.le_of_ble_eq_true rfl, Nat.zero_le _, Nat.zero_le _⟩ dX9_readStream_138) (fun H locs hT => ?_)
        refine lv_istore_n (lv' := [(3, .int r11), (2, .int s0), (0, .ref (G.1 0)), (1, .int v1)]) C.1 C.2.1 dX9_readStream_141 rfl hl (by decide) rfl (fun ls hl => ?_)
        refine lv_aload_n C.1 C.2.1 dX9_readStream_142 rfl (lv_at hl 2 rfl) ?_
        refine lv_iconst (v := 1) C.1 C.2.1 dX9_readStream_143 (by decide) ?_
        refine lv_iload_n C.1 C.2.1 dX9_readStream_144 rfl (lv_at hl 0 rfl) ?_
        refine lv_bipush (v := 9) C.1 C.2.1 dX9_readStream_145 (by decide) ?_
        refine lv_icmp_ge (tgt := 154) C.1 C.2.1 dX9_readStream_147 (by decide) (fun c14 => ?_) (fun c14 => ?_)
        · have h := fz_ip c14 h
          refine lv_bipush (v := 9) C.1 C.2.1 dX9_readStream_154 (by decide) ?_
          exact b_X9_readStream_156 C hr hlk hF hT (lv_sub hl [2, 3, 1] rfl) h
        · have h := fz_iq c14 h
          refine lv_iload_n C.1 C.2.1 dX9_readStream_150 rfl (lv_at hl 0 rfl) ?_
          refine lv_goto (tgt := 156) C.1 C.2.1 dX9_readStream_151 (by decide) ?_
          exact b_X9_readStream_156 C hr hlk hF hT (lv_sub hl [2, 3, 1] rfl) h
      · have h := fz_iq c9 h
        refine lv_iconst (v := 0) C.1 C.2.1 dX9_readStream_124 (by decide) ?_
        cases h
        exact fz_retz C hr hlk rfl hT dX9_readStream_125
set_option maxHeartbeats 4000000 in
set_option maxRecDepth 100000 in
theorem b_X9_readStream_28 {p : Program} {l : Launch} {e : Env} {s : State} {m : MethodId} {args : Array Value} {below : List Frame} {meth : Method} {c : Code} {G : fz_G}     {s0 : Int32} {M : fz_M} {H : Heap} {locs : List Loc} {ls : Array Slot} {r : Int32} {M9 : fz_M} (C : CallFix p m c cX9_readStream 5 s args wsL_law RX9) (hr : meth.sig.returnType = (some .boolean)) (hlk : meth.locks = false) (hF : fz_F G fz_KM s)  (hT : fz_T G fz_shM fz_KM s M H locs) (hl : lv_has ls 5 [(0, .ref (G.1 0))]) (h : f_X9_readStream_28 s0 M = some (r, M9)) : W p l e (fz_rm 2 47) s m args below meth c H locs 0 0 (MQ below (fz_Qi G fz_shM fz_KM r M9) args s 0 0 (fz_Fr G fz_KM)) (F0 m 28 ls [.int s0]) := by
  refine lv_istore_n (lv' := [(1, .int s0), (0, .ref (G.1 0))]) C.1 C.2.1 dX9_readStream_28 rfl hl (by decide) rfl (fun ls hl => ?_)
  refine lv_iload_n C.1 C.2.1 dX9_readStream_29 rfl (lv_at hl 0 rfl) ?_
  refine lv_i2l (v := (s0.toInt64)) C.1 C.2.1 dX9_readStream_30 rfl ?_
  refine lv_lconst (v := 0) C.1 C.2.1 dX9_readStream_31 (by decide) ?_
  refine lv_aload_n C.1 C.2.1 dX9_readStream_32 rfl (lv_at hl 1 rfl) ?_
  refine fz_geti C hF hT fz_m0 (j := 22) rfl fl_X9_147 dX9_readStream_33 ?_
  refine lv_iconst (v := 1) C.1 C.2.1 dX9_readStream_36 (by decide) ?_
  refine lv_isub C.1 C.2.1 dX9_readStream_37 ?_
  refine lv_i2l (v := (((fz_f M 0 22) - 1).toInt64)) C.1 C.2.1 dX9_readStream_38 rfl ?_
  obtain ⟨r1, w3, h⟩ := fz_b1_s h
  refine fz_ci hT (fz_runS (np := 3) (rest := []) C hF hT (c_X9_in l G (s0.toInt64) 0 (((fz_f M 0 22) - 1).toInt64) M r1 w3) cl_X9_124 rfl hl.1 rfl (Nat.le_of_ble_eq_true rfl) ⟨Nat.le_of_ble_eq_true rfl, Nat.le_of_ble_eq_true rfl, Nat.zero_le _, Nat.zero_le _⟩ dX9_readStream_39) (fun H locs hT => ?_)
  refine lv_if_eq (tgt := 53) C.1 C.2.1 dX9_readStream_42 (by decide) (fun c4 => ?_) (fun c4 => ?_)
  · have h := fz_ip c4 h
    refine lv_iconst (v := 0) C.1 C.2.1 dX9_readStream_53 (by decide) ?_
    cases h
    exact fz_retz C hr hlk rfl hT dX9_readStream_54
  · have h := fz_iq c4 h
    refine lv_aload_n C.1 C.2.1 dX9_readStream_45 rfl (lv_at hl 1 rfl) ?_
    refine lv_iload_n C.1 C.2.1 dX9_readStream_46 rfl (lv_at hl 0 rfl) ?_
    obtain ⟨r5, w7, h⟩ := fz_b1_s h
    refine fz_ci hT (fz_runV (np := 1) (rest := []) C hF hT (c_X9_hasMore l G s0 M r5 w7) fz_m0 (T := TX9) (N := 49) rfl cl_X9_161 rfl hl.1 rfl (Nat.le_of_ble_eq_true rfl) ⟨Nat.le_of_ble_eq_true rfl, Nat.le_of_ble_eq_true rfl, Nat.zero_le _, Nat.zero_le _⟩ dX9_readStream_47) (fun H locs hT => ?_)
    refine lv_if_ne (tgt := 55) C.1 C.2.1 dX9_readStream_50 (by decide) (fun c8 => ?_) (fun c8 => ?_)
    · have h := fz_ip c8 h
      refine lv_aload_n C.1 C.2.1 dX9_readStream_55 rfl (lv_at hl 1 rfl) ?_
      refine lv_dup C.1 C.2.1 dX9_readStream_56 rfl ?_
      refine fz_geti C hF hT fz_m0 (j := 3) rfl fl_X9_140 dX9_readStream_57 ?_
      refine lv_iconst (v := 1) C.1 C.2.1 dX9_readStream_60 (by decide) ?_
      refine lv_iadd C.1 C.2.1 dX9_readStream_61 ?_
      obtain ⟨M9, eM9, h⟩ := fz_bd_s h
      refine fz_puti C hF hT fz_m0 (j := 3) rfl fw_X9_140 dX9_readStream_62 (fun H locs hT => ?_)
      rw [← eM9] at hT
      refine lv_aload_n C.1 C.2.1 dX9_readStream_65 rfl (lv_at hl 1 rfl) ?_
      refine fz_geti C hF hT fz_m0 (j := 3) rfl fl_X9_140 dX9_readStream_66 ?_
      refine lv_aload_n C.1 C.2.1 dX9_readStream_69 rfl (lv_at hl 1 rfl) ?_
      refine fz_geti C hF hT fz_m0 (j := 2) rfl fl_X9_137 dX9_readStream_70 ?_
      refine lv_icmp_ge (tgt := 91) C.1 C.2.1 dX9_readStream_73 (by decide) (fun c10 => ?_) (fun c10 => ?_)
      · have h := fz_ip c10 h
        refine lv_bipush (v := (-9)) C.1 C.2.1 dX9_readStream_91 (by decide) ?_
        exact b_X9_readStream_93 C hr hlk hF hT (lv_sub hl [1, 0] rfl) h
      · have h := fz_iq c10 h
        refine lv_aload_n C.1 C.2.1 dX9_readStream_76 rfl (lv_at hl 1 rfl) ?_
        refine fz_getr C hF hT fz_m0 (j := 1) rfl fl_X9_7 dX9_readStream_77 ?_
        refine lv_aload_n C.1 C.2.1 dX9_readStream_80 rfl (lv_at hl 1 rfl) ?_
        refine fz_geti C hF hT fz_m0 (j := 3) rfl fl_X9_140 dX9_readStream_81 ?_
        obtain ⟨g11, h⟩ := fz_gd_s h
        refine fz_ia C hF hT fz_m1 g11 dX9_readStream_84 ?_
        refine lv_bipush (v := 48) C.1 C.2.1 dX9_readStream_85 (by decide) ?_
        refine lv_isub C.1 C.2.1 dX9_readStream_87 ?_
        refine lv_goto (tgt := 93) C.1 C.2.1 dX9_readStream_88 (by decide) ?_
        exact b_X9_readStream_93 C hr hlk hF hT (lv_sub hl [1, 0] rfl) h
    · have h := fz_iq (not_not_intro c8) h
      refine lv_iconst (v := 0) C.1 C.2.1 dX9_readStream_53 (by decide) ?_
      cases h
      exact fz_retz C hr hlk rfl hT dX9_readStream_54
set_option maxHeartbeats 4000000 in
set_option maxRecDepth 100000 in
theorem b_X9_readStream_0 {p : Program} {l : Launch} {e : Env} {s : State} {m : MethodId} {args : Array Value} {below : List Frame} {meth : Method} {c : Code} {G : fz_G}      {M : fz_M} {H : Heap} {locs : List Loc} {ls : Array Slot} {r : Int32} {M9 : fz_M} (C : CallFix p m c cX9_readStream 5 s args wsL_law RX9) (hr : meth.sig.returnType = (some .boolean)) (hlk : meth.locks = false) (hF : fz_F G fz_KM s)  (hT : fz_T G fz_shM fz_KM s M H locs) (hl : lv_has ls 5 [(0, .ref (G.1 0))]) (h : f_X9_readStream M = some (r, M9)) : W p l e (fz_rm 2 47) s m args below meth c H locs 0 0 (MQ below (fz_Qi G fz_shM fz_KM r M9) args s 0 0 (fz_Fr G fz_KM)) (F0 m 0 ls []) := by
  refine lv_aload_n C.1 C.2.1 dX9_readStream_0 rfl (lv_at hl 0 rfl) ?_
  refine fz_geti C hF hT fz_m0 (j := 3) rfl fl_X9_140 dX9_readStream_1 ?_
  refine lv_aload_n C.1 C.2.1 dX9_readStream_4 rfl (lv_at hl 0 rfl) ?_
  refine fz_geti C hF hT fz_m0 (j := 2) rfl fl_X9_137 dX9_readStream_5 ?_
  refine lv_icmp_ge (tgt := 26) C.1 C.2.1 dX9_readStream_8 (by decide) (fun c1 => ?_) (fun c1 => ?_)
  · have h := fz_ip c1 h
    refine lv_bipush (v := (-9)) C.1 C.2.1 dX9_readStream_26 (by decide) ?_
    exact b_X9_readStream_28 C hr hlk hF hT (lv_sub hl [0] rfl) h
  · have h := fz_iq c1 h
    refine lv_aload_n C.1 C.2.1 dX9_readStream_11 rfl (lv_at hl 0 rfl) ?_
    refine fz_getr C hF hT fz_m0 (j := 1) rfl fl_X9_7 dX9_readStream_12 ?_
    refine lv_aload_n C.1 C.2.1 dX9_readStream_15 rfl (lv_at hl 0 rfl) ?_
    refine fz_geti C hF hT fz_m0 (j := 3) rfl fl_X9_140 dX9_readStream_16 ?_
    obtain ⟨g2, h⟩ := fz_gd_s h
    refine fz_ia C hF hT fz_m1 g2 dX9_readStream_19 ?_
    refine lv_bipush (v := 48) C.1 C.2.1 dX9_readStream_20 (by decide) ?_
    refine lv_isub C.1 C.2.1 dX9_readStream_22 ?_
    refine lv_goto (tgt := 28) C.1 C.2.1 dX9_readStream_23 (by decide) ?_
    exact b_X9_readStream_28 C hr hlk hF hT (lv_sub hl [0] rfl) h
set_option maxRecDepth 100000 in
theorem c_X9_readStream (l : Launch) (G : fz_G)   (M : fz_M) (r : Int32) (M9 : fz_M) (h : f_X9_readStream M = some (r, M9)) : fz_Me l yX9_readStream cX9_readStream 5 (some .boolean) 2 47 G fz_shM fz_KM [.ref (G.1 0)] M (fz_Qi G fz_shM fz_KM r M9) := by
  refine fz_body (by decide) (Nat.le_of_ble_eq_true rfl) ?_
  intro p e s m args below meth c H locs ls C hr hlk hF hT hl
  have C : CallFix p m c cX9_readStream 5 s args wsL_law RX9 := C
  have hl : lv_has ls 5 [(0, .ref (G.1 0))] := hl
  exact b_X9_readStream_0 C hr hlk hF hT (lv_sub hl [0] rfl) h
set_option maxHeartbeats 4000000 in
set_option maxRecDepth 100000 in
theorem b_X9_readPiece_68 {p : Program} {l : Launch} {e : Env} {s : State} {m : MethodId} {args : Array Value} {below : List Frame} {meth : Method} {c : Code} {G : fz_G}     {v1 : Int32} {v2 : Int32} {v3 : Int32} {s0 : Int32} {M : fz_M} {H : Heap} {locs : List Loc} {ls : Array Slot} {r : Int32} {M9 : fz_M} (C : CallFix p m c cX9_readPiece 5 s args wsL_law RX9) (hr : meth.sig.returnType = (some .boolean)) (hlk : meth.locks = false) (hF : fz_F G fz_KM s)  (hT : fz_T G fz_shM fz_KM s M H locs) (hl : lv_has ls 5 [(0, .ref (G.1 0)), (1, .int v1), (2, .int v2), (3, .int v3)]) (h : f_X9_readPiece_68 v1 v2 v3 s0 M = some (r, M9)) : W p l e (fz_rm 2 47) s m args below meth c H locs 0 0 (MQ below (fz_Qi G fz_shM fz_KM r M9) args s 0 0 (fz_Fr G fz_KM)) (F0 m 68 ls [.int s0]) := by
  refine lv_istore (lv' := [(4, .int s0), (0, .ref (G.1 0)), (1, .int v1), (2, .int v2), (3, .int v3)]) C.1 C.2.1 dX9_readPiece_68 hl (by decide) rfl (fun ls hl => ?_)
  refine lv_iload C.1 C.2.1 dX9_readPiece_70 (lv_at hl 0 rfl) ?_
  refine lv_bipush (v := (-9)) C.1 C.2.1 dX9_readPiece_72 (by decide) ?_
  refine lv_icmp_ne (tgt := 79) C.1 C.2.1 dX9_readPiece_74 (by decide) (fun c1 => ?_) (fun c1 => ?_)
  · have h := fz_ip c1 h
    refine lv_aload_n C.1 C.2.1 dX9_readPiece_79 rfl (lv_at hl 1 rfl) ?_
    refine fz_getr C hF hT fz_m0 (j := 30) rfl fl_X9_71 dX9_readPiece_80 ?_
    refine lv_aload_n C.1 C.2.1 dX9_readPiece_83 rfl (lv_at hl 1 rfl) ?_
    refine fz_geti C hF hT fz_m0 (j := 24) rfl fl_X9_165 dX9_readPiece_84 ?_
    refine lv_iload_n C.1 C.2.1 dX9_readPiece_87 rfl (lv_at hl 2 rfl) ?_
    obtain ⟨g2, h⟩ := fz_gd_s h
    obtain ⟨M3, eM3, h⟩ := fz_bd_s h
    refine fz_ias C hF hT fz_m21 g2 dX9_readPiece_88 (fun H locs hT => ?_)
    rw [← eM3] at hT
    refine lv_aload_n C.1 C.2.1 dX9_readPiece_89 rfl (lv_at hl 1 rfl) ?_
    refine fz_getr C hF hT fz_m0 (j := 31) rfl fl_X9_74 dX9_readPiece_90 ?_
    refine lv_aload_n C.1 C.2.1 dX9_readPiece_93 rfl (lv_at hl 1 rfl) ?_
    refine fz_geti C hF hT fz_m0 (j := 24) rfl fl_X9_165 dX9_readPiece_94 ?_
    refine lv_iload_n C.1 C.2.1 dX9_readPiece_97 rfl (lv_at hl 3 rfl) ?_
    obtain ⟨g4, h⟩ := fz_gd_s h
    obtain ⟨M5, eM5, h⟩ := fz_bd_s h
    refine fz_ias C hF hT fz_m22 g4 dX9_readPiece_98 (fun H locs hT => ?_)
    rw [← eM5] at hT
    refine lv_aload_n C.1 C.2.1 dX9_readPiece_99 rfl (lv_at hl 1 rfl) ?_
    refine fz_getr C hF hT fz_m0 (j := 32) rfl fl_X9_77 dX9_readPiece_100 ?_
    refine lv_aload_n C.1 C.2.1 dX9_readPiece_103 rfl (lv_at hl 1 rfl) ?_
    refine fz_geti C hF hT fz_m0 (j := 24) rfl fl_X9_165 dX9_readPiece_104 ?_
    refine lv_iload_n C.1 C.2.1 dX9_readPiece_107 rfl (lv_at hl 4 rfl) ?_
    obtain ⟨g6, h⟩ := fz_gd_s h
    obtain ⟨M7, eM7, h⟩ := fz_bd_s h
    refine fz_ias C hF hT fz_m23 g6 dX9_readPiece_108 (fun H locs hT => ?_)
    rw [← eM7] at hT
    refine lv_aload_n C.1 C.2.1 dX9_readPiece_109 rfl (lv_at hl 1 rfl) ?_
    refine fz_getr C hF hT fz_m0 (j := 33) rfl fl_X9_80 dX9_readPiece_110 ?_
    refine lv_aload_n C.1 C.2.1 dX9_readPiece_113 rfl (lv_at hl 1 rfl) ?_
    refine fz_geti C hF hT fz_m0 (j := 24) rfl fl_X9_165 dX9_readPiece_114 ?_
    refine lv_iload C.1 C.2.1 dX9_readPiece_117 (lv_at hl 0 rfl) ?_
    obtain ⟨g8, h⟩ := fz_gd_s h
    obtain ⟨M9, eM9, h⟩ := fz_bd_s h
    refine fz_ias C hF hT fz_m24 g8 dX9_readPiece_119 (fun H locs hT => ?_)
    rw [← eM9] at hT
    refine lv_aload_n C.1 C.2.1 dX9_readPiece_120 rfl (lv_at hl 1 rfl) ?_
    refine lv_dup C.1 C.2.1 dX9_readPiece_121 rfl ?_
    refine fz_geti C hF hT fz_m0 (j := 24) rfl fl_X9_165 dX9_readPiece_122 ?_
    refine lv_iconst (v := 1) C.1 C.2.1 dX9_readPiece_125 (by decide) ?_
    refine lv_iadd C.1 C.2.1 dX9_readPiece_126 ?_
    obtain ⟨M10, eM10, h⟩ := fz_bd_s h
    refine fz_puti C hF hT fz_m0 (j := 24) rfl fw_X9_165 dX9_readPiece_127 (fun H locs hT => ?_)
    rw [← eM10] at hT
    refine lv_iconst (v := 1) C.1 C.2.1 dX9_readPiece_130 (by decide) ?_
    cases h
    exact fz_retz C hr hlk rfl hT dX9_readPiece_131
  · have h := fz_iq (not_not_intro c1) h
    refine lv_iconst (v := 0) C.1 C.2.1 dX9_readPiece_77 (by decide) ?_
    cases h
    exact fz_retz C hr hlk rfl hT dX9_readPiece_78
set_option maxHeartbeats 4000000 in
set_option maxRecDepth 100000 in
theorem b_X9_readPiece_49 {p : Program} {l : Launch} {e : Env} {s : State} {m : MethodId} {args : Array Value} {below : List Frame} {meth : Method} {c : Code} {G : fz_G}     {v1 : Int32} {v2 : Int32} {s0 : Int32} {M : fz_M} {H : Heap} {locs : List Loc} {ls : Array Slot} {r : Int32} {M9 : fz_M} (C : CallFix p m c cX9_readPiece 5 s args wsL_law RX9) (hr : meth.sig.returnType = (some .boolean)) (hlk : meth.locks = false) (hF : fz_F G fz_KM s)  (hT : fz_T G fz_shM fz_KM s M H locs) (hl : lv_has ls 5 [(0, .ref (G.1 0)), (1, .int v1), (2, .int v2)]) (h : f_X9_readPiece_49 v1 v2 s0 M = some (r, M9)) : W p l e (fz_rm 2 47) s m args below meth c H locs 0 0 (MQ below (fz_Qi G fz_shM fz_KM r M9) args s 0 0 (fz_Fr G fz_KM)) (F0 m 49 ls [.int s0]) := by
  refine lv_istore_n (lv' := [(3, .int s0), (0, .ref (G.1 0)), (1, .int v1), (2, .int v2)]) C.1 C.2.1 dX9_readPiece_49 rfl hl (by decide) rfl (fun ls hl => ?_)
  refine lv_iload_n C.1 C.2.1 dX9_readPiece_50 rfl (lv_at hl 0 rfl) ?_
  refine lv_bipush (v := (-9)) C.1 C.2.1 dX9_readPiece_51 (by decide) ?_
  refine lv_icmp_ne (tgt := 61) C.1 C.2.1 dX9_readPiece_53 (by decide) (fun c1 => ?_) (fun c1 => ?_)
  · have h := fz_ip c1 h
    refine lv_aload_n C.1 C.2.1 dX9_readPiece_61 rfl (lv_at hl 1 rfl) ?_
    refine lv_iconst (v := 0) C.1 C.2.1 dX9_readPiece_62 (by decide) ?_
    refine lv_bipush (v := 9) C.1 C.2.1 dX9_readPiece_63 (by decide) ?_
    obtain ⟨r2, M3, w4, h⟩ := fz_b2_s h
    refine fz_ci hT (fz_runV (np := 2) (rest := []) C hF hT (c_X9_figure l G 0 9 M r2 M3 w4) fz_m0 (T := TX9) (N := 49) rfl cl_X9_143 rfl hl.1 rfl (Nat.le_of_ble_eq_true rfl) ⟨Nat.le_of_ble_eq_true rfl, Nat.le_of_ble_eq_true rfl, Nat.zero_le _, Nat.zero_le _⟩ dX9_readPiece_65) (fun H locs hT => ?_)
    exact b_X9_readPiece_68 C hr hlk hF hT (lv_sub hl [1, 2, 3, 0] rfl) h
  · have h := fz_iq (not_not_intro c1) h
    refine lv_bipush (v := (-9)) C.1 C.2.1 dX9_readPiece_56 (by decide) ?_
    refine lv_goto (tgt := 68) C.1 C.2.1 dX9_readPiece_58 (by decide) ?_
    exact b_X9_readPiece_68 C hr hlk hF hT (lv_sub hl [1, 2, 3, 0] rfl) h
set_option maxHeartbeats 4000000 in
set_option maxRecDepth 100000 in
theorem b_X9_readPiece_30 {p : Program} {l : Launch} {e : Env} {s : State} {m : MethodId} {args : Array Value} {below : List Frame} {meth : Method} {c : Code} {G : fz_G}     {v1 : Int32} {s0 : Int32} {M : fz_M} {H : Heap} {locs : List Loc} {ls : Array Slot} {r : Int32} {M9 : fz_M} (C : CallFix p m c cX9_readPiece 5 s args wsL_law RX9) (hr : meth.sig.returnType = (some .boolean)) (hlk : meth.locks = false) (hF : fz_F G fz_KM s)  (hT : fz_T G fz_shM fz_KM s M H locs) (hl : lv_has ls 5 [(0, .ref (G.1 0)), (1, .int v1)]) (h : f_X9_readPiece_30 v1 s0 M = some (r, M9)) : W p l e (fz_rm 2 47) s m args below meth c H locs 0 0 (MQ below (fz_Qi G fz_shM fz_KM r M9) args s 0 0 (fz_Fr G fz_KM)) (F0 m 30 ls [.int s0]) := by
  refine lv_istore_n (lv' := [(2, .int s0), (0, .ref (G.1 0)), (1, .int v1)]) C.1 C.2.1 dX9_readPiece_30 rfl hl (by decide) rfl (fun ls hl => ?_)
  refine lv_iload_n C.1 C.2.1 dX9_readPiece_31 rfl (lv_at hl 0 rfl) ?_
  refine lv_bipush (v := (-9)) C.1 C.2.1 dX9_readPiece_32 (by decide) ?_
  refine lv_icmp_ne (tgt := 42) C.1 C.2.1 dX9_readPiece_34 (by decide) (fun c1 => ?_) (fun c1 => ?_)
  · have h := fz_ip c1 h
    refine lv_aload_n C.1 C.2.1 dX9_readPiece_42 rfl (lv_at hl 1 rfl) ?_
    refine lv_iconst (v := 1) C.1 C.2.1 dX9_readPiece_43 (by decide) ?_
    refine lv_bipush (v := 9) C.1 C.2.1 dX9_readPiece_44 (by decide) ?_
    obtain ⟨r2, M3, w4, h⟩ := fz_b2_s h
    refine fz_ci hT (fz_runV (np := 2) (rest := []) C hF hT (c_X9_figure l G 1 9 M r2 M3 w4) fz_m0 (T := TX9) (N := 49) rfl cl_X9_143 rfl hl.1 rfl (Nat.le_of_ble_eq_true rfl) ⟨Nat.le_of_ble_eq_true rfl, Nat.le_of_ble_eq_true rfl, Nat.zero_le _, Nat.zero_le _⟩ dX9_readPiece_46) (fun H locs hT => ?_)
    exact b_X9_readPiece_49 C hr hlk hF hT (lv_sub hl [1, 2, 0] rfl) h
  · have h := fz_iq (not_not_intro c1) h
    refine lv_bipush (v := (-9)) C.1 C.2.1 dX9_readPiece_37 (by decide) ?_
    refine lv_goto (tgt := 49) C.1 C.2.1 dX9_readPiece_39 (by decide) ?_
    exact b_X9_readPiece_49 C hr hlk hF hT (lv_sub hl [1, 2, 0] rfl) h
set_option maxHeartbeats 4000000 in
set_option maxRecDepth 100000 in
theorem b_X9_readPiece_0 {p : Program} {l : Launch} {e : Env} {s : State} {m : MethodId} {args : Array Value} {below : List Frame} {meth : Method} {c : Code} {G : fz_G}      {M : fz_M} {H : Heap} {locs : List Loc} {ls : Array Slot} {r : Int32} {M9 : fz_M} (C : CallFix p m c cX9_readPiece 5 s args wsL_law RX9) (hr : meth.sig.returnType = (some .boolean)) (hlk : meth.locks = false) (hF : fz_F G fz_KM s)  (hT : fz_T G fz_shM fz_KM s M H locs) (hl : lv_has ls 5 [(0, .ref (G.1 0))]) (h : f_X9_readPiece M = some (r, M9)) : W p l e (fz_rm 2 47) s m args below meth c H locs 0 0 (MQ below (fz_Qi G fz_shM fz_KM r M9) args s 0 0 (fz_Fr G fz_KM)) (F0 m 0 ls []) := by
  refine lv_aload_n C.1 C.2.1 dX9_readPiece_0 rfl (lv_at hl 0 rfl) ?_
  refine lv_iconst (v := 0) C.1 C.2.1 dX9_readPiece_1 (by decide) ?_
  refine lv_aload_n C.1 C.2.1 dX9_readPiece_2 rfl (lv_at hl 0 rfl) ?_
  refine fz_geti C hF hT fz_m0 (j := 22) rfl fl_X9_147 dX9_readPiece_3 ?_
  refine lv_iconst (v := 1) C.1 C.2.1 dX9_readPiece_6 (by decide) ?_
  refine lv_isub C.1 C.2.1 dX9_readPiece_7 ?_
  obtain ⟨r1, M2, w3, h⟩ := fz_b2_s h
  refine fz_ci hT (fz_runV (np := 2) (rest := []) C hF hT (c_X9_figure l G 0 ((fz_f M 0 22) - 1) M r1 M2 w3) fz_m0 (T := TX9) (N := 49) rfl cl_X9_143 rfl hl.1 rfl (Nat.le_of_ble_eq_true rfl) ⟨Nat.le_of_ble_eq_true rfl, Nat.le_of_ble_eq_true rfl, Nat.zero_le _, Nat.zero_le _⟩ dX9_readPiece_8) (fun H locs hT => ?_)
  refine lv_istore_n (lv' := [(1, .int r1), (0, .ref (G.1 0))]) C.1 C.2.1 dX9_readPiece_11 rfl hl (by decide) rfl (fun ls hl => ?_)
  refine lv_iload_n C.1 C.2.1 dX9_readPiece_12 rfl (lv_at hl 0 rfl) ?_
  refine lv_bipush (v := (-9)) C.1 C.2.1 dX9_readPiece_13 (by decide) ?_
  refine lv_icmp_ne (tgt := 23) C.1 C.2.1 dX9_readPiece_15 (by decide) (fun c4 => ?_) (fun c4 => ?_)
  · have h := fz_ip c4 h
    refine lv_aload_n C.1 C.2.1 dX9_readPiece_23 rfl (lv_at hl 1 rfl) ?_
    refine lv_iconst (v := 1) C.1 C.2.1 dX9_readPiece_24 (by decide) ?_
    refine lv_bipush (v := 9) C.1 C.2.1 dX9_readPiece_25 (by decide) ?_
    obtain ⟨r5, M6, w7, h⟩ := fz_b2_s h
    refine fz_ci hT (fz_runV (np := 2) (rest := []) C hF hT (c_X9_figure l G 1 9 M2 r5 M6 w7) fz_m0 (T := TX9) (N := 49) rfl cl_X9_143 rfl hl.1 rfl (Nat.le_of_ble_eq_true rfl) ⟨Nat.le_of_ble_eq_true rfl, Nat.le_of_ble_eq_true rfl, Nat.zero_le _, Nat.zero_le _⟩ dX9_readPiece_27) (fun H locs hT => ?_)
    exact b_X9_readPiece_30 C hr hlk hF hT (lv_sub hl [1, 0] rfl) h
  · have h := fz_iq (not_not_intro c4) h
    refine lv_bipush (v := (-9)) C.1 C.2.1 dX9_readPiece_18 (by decide) ?_
    refine lv_goto (tgt := 30) C.1 C.2.1 dX9_readPiece_20 (by decide) ?_
    exact b_X9_readPiece_30 C hr hlk hF hT (lv_sub hl [1, 0] rfl) h
set_option maxRecDepth 100000 in
theorem c_X9_readPiece (l : Launch) (G : fz_G)   (M : fz_M) (r : Int32) (M9 : fz_M) (h : f_X9_readPiece M = some (r, M9)) : fz_Me l yX9_readPiece cX9_readPiece 5 (some .boolean) 2 47 G fz_shM fz_KM [.ref (G.1 0)] M (fz_Qi G fz_shM fz_KM r M9) := by
  refine fz_body (by decide) (Nat.le_of_ble_eq_true rfl) ?_
  intro p e s m args below meth c H locs ls C hr hlk hF hT hl
  have C : CallFix p m c cX9_readPiece 5 s args wsL_law RX9 := C
  have hl : lv_has ls 5 [(0, .ref (G.1 0))] := hl
  exact b_X9_readPiece_0 C hr hlk hF hT (lv_sub hl [0] rfl) h
set_option maxHeartbeats 4000000 in
set_option maxRecDepth 100000 in
theorem b_X9_readPart_77 {p : Program} {l : Launch} {e : Env} {s : State} {m : MethodId} {args : Array Value} {below : List Frame} {meth : Method} {c : Code} {G : fz_G}     {v1 : Int32} {M : fz_M} {H : Heap} {locs : List Loc} {ls : Array Slot} {r : Int32} {M9 : fz_M} (C : CallFix p m c cX9_readPart 2 s args wsL_law RX9) (hr : meth.sig.returnType = (some .boolean)) (hlk : meth.locks = false) (hF : fz_F G fz_KM s)  (hT : fz_T G fz_shM fz_KM s M H locs) (hl : lv_has ls 2 [(0, .ref (G.1 0)), (1, .int v1)]) (h : f_X9_readPart_77 v1 M = some (r, M9)) : W p l e (fz_rm 3 71) s m args below meth c H locs 0 0 (MQ below (fz_Qi G fz_shM fz_KM r M9) args s 0 0 (fz_Fr G fz_KM)) (F0 m 77 ls []) := by
  refine lv_iload_n C.1 C.2.1 dX9_readPart_77 rfl (lv_at hl 1 rfl) ?_
  refine lv_bipush (v := 80) C.1 C.2.1 dX9_readPart_78 (by decide) ?_
  refine lv_icmp_ne (tgt := 114) C.1 C.2.1 dX9_readPart_80 (by decide) (fun c1 => ?_) (fun c1 => ?_)
  · have h := fz_ip c1 h
    refine lv_iconst (v := 0) C.1 C.2.1 dX9_readPart_114 (by decide) ?_
    cases h
    exact fz_retz C hr hlk rfl hT dX9_readPart_115
  · have h := fz_iq (not_not_intro c1) h
    refine lv_aload_n C.1 C.2.1 dX9_readPart_83 rfl (lv_at hl 0 rfl) ?_
    refine fz_geti C hF hT fz_m0 (j := 24) rfl fl_X9_165 dX9_readPart_84 ?_
    refine lv_bipush (v := 6) C.1 C.2.1 dX9_readPart_87 (by decide) ?_
    refine lv_icmp_ge (tgt := 114) C.1 C.2.1 dX9_readPart_89 (by decide) (fun c2 => ?_) (fun c2 => ?_)
    · have h := fz_ip c2 h
      refine lv_iconst (v := 0) C.1 C.2.1 dX9_readPart_114 (by decide) ?_
      cases h
      exact fz_retz C hr hlk rfl hT dX9_readPart_115
    · have h := fz_iq c2 h
      refine lv_aload_n C.1 C.2.1 dX9_readPart_92 rfl (lv_at hl 0 rfl) ?_
      refine fz_geti C hF hT fz_m0 (j := 22) rfl fl_X9_147 dX9_readPart_93 ?_
      refine lv_if_le (tgt := 114) C.1 C.2.1 dX9_readPart_96 (by decide) (fun c3 => ?_) (fun c3 => ?_)
      · have h := fz_ip c3 h
        refine lv_iconst (v := 0) C.1 C.2.1 dX9_readPart_114 (by decide) ?_
        cases h
        exact fz_retz C hr hlk rfl hT dX9_readPart_115
      · have h := fz_iq c3 h
        refine lv_aload_n C.1 C.2.1 dX9_readPart_99 rfl (lv_at hl 0 rfl) ?_
        refine lv_dup C.1 C.2.1 dX9_readPart_100 rfl ?_
        refine fz_geti C hF hT fz_m0 (j := 3) rfl fl_X9_140 dX9_readPart_101 ?_
        refine lv_iconst (v := 1) C.1 C.2.1 dX9_readPart_104 (by decide) ?_
        refine lv_iadd C.1 C.2.1 dX9_readPart_105 ?_
        obtain ⟨M4, eM4, h⟩ := fz_bd_s h
        refine fz_puti C hF hT fz_m0 (j := 3) rfl fw_X9_140 dX9_readPart_106 (fun H locs hT => ?_)
        rw [← eM4] at hT
        refine lv_aload_n C.1 C.2.1 dX9_readPart_109 rfl (lv_at hl 0 rfl) ?_
        obtain ⟨r5, M6, w7, h⟩ := fz_b2_s h
        refine fz_ci hT (fz_runV (np := 0) (rest := []) C hF hT (c_X9_readPiece l G M4 r5 M6 w7) fz_m0 (T := TX9) (N := 49) rfl cl_X9_178 rfl hl.1 rfl (Nat.le_of_ble_eq_true rfl) ⟨Nat.le_of_ble_eq_true rfl, Nat.le_of_ble_eq_true rfl, Nat.zero_le _, Nat.zero_le _⟩ dX9_readPart_110) (fun H locs hT => ?_)
        obtain ⟨g8, h⟩ := fz_gd_s h
        cases h
        exact fz_retz C hr hlk g8 hT dX9_readPart_113
set_option maxHeartbeats 4000000 in
set_option maxRecDepth 100000 in
theorem b_X9_readPart_40 {p : Program} {l : Launch} {e : Env} {s : State} {m : MethodId} {args : Array Value} {below : List Frame} {meth : Method} {c : Code} {G : fz_G}     {v1 : Int32} {M : fz_M} {H : Heap} {locs : List Loc} {ls : Array Slot} {r : Int32} {M9 : fz_M} (C : CallFix p m c cX9_readPart 2 s args wsL_law RX9) (hr : meth.sig.returnType = (some .boolean)) (hlk : meth.locks = false) (hF : fz_F G fz_KM s)  (hT : fz_T G fz_shM fz_KM s M H locs) (hl : lv_has ls 2 [(0, .ref (G.1 0)), (1, .int v1)]) (h : f_X9_readPart_40 v1 M = some (r, M9)) : W p l e (fz_rm 3 71) s m args below meth c H locs 0 0 (MQ below (fz_Qi G fz_shM fz_KM r M9) args s 0 0 (fz_Fr G fz_KM)) (F0 m 40 ls []) := by
  refine lv_iload_n C.1 C.2.1 dX9_readPart_40 rfl (lv_at hl 1 rfl) ?_
  refine lv_bipush (v := 83) C.1 C.2.1 dX9_readPart_41 (by decide) ?_
  refine lv_icmp_ne (tgt := 77) C.1 C.2.1 dX9_readPart_43 (by decide) (fun c1 => ?_) (fun c1 => ?_)
  · have h := fz_ip c1 h
    exact b_X9_readPart_77 C hr hlk hF hT (lv_sub hl [0, 1] rfl) h
  · have h := fz_iq (not_not_intro c1) h
    refine lv_aload_n C.1 C.2.1 dX9_readPart_46 rfl (lv_at hl 0 rfl) ?_
    refine fz_geti C hF hT fz_m0 (j := 23) rfl fl_X9_150 dX9_readPart_47 ?_
    refine lv_bipush (v := 10) C.1 C.2.1 dX9_readPart_50 (by decide) ?_
    refine lv_icmp_ge (tgt := 77) C.1 C.2.1 dX9_readPart_52 (by decide) (fun c2 => ?_) (fun c2 => ?_)
    · have h := fz_ip c2 h
      exact b_X9_readPart_77 C hr hlk hF hT (lv_sub hl [0, 1] rfl) h
    · have h := fz_iq c2 h
      refine lv_aload_n C.1 C.2.1 dX9_readPart_55 rfl (lv_at hl 0 rfl) ?_
      obtain ⟨r3, w5, h⟩ := fz_b1_s h
      refine fz_ci hT (fz_runV (np := 0) (rest := []) C hF hT (c_X9_hasAnyMore l G M r3 w5) fz_m0 (T := TX9) (N := 49) rfl cl_X9_172 rfl hl.1 rfl (Nat.le_of_ble_eq_true rfl) ⟨Nat.le_of_ble_eq_true rfl, Nat.le_of_ble_eq_true rfl, Nat.zero_le _, Nat.zero_le _⟩ dX9_readPart_56) (fun H locs hT => ?_)
      refine lv_if_eq (tgt := 77) C.1 C.2.1 dX9_readPart_59 (by decide) (fun c6 => ?_) (fun c6 => ?_)
      · have h := fz_ip c6 h
        exact b_X9_readPart_77 C hr hlk hF hT (lv_sub hl [0, 1] rfl) h
      · have h := fz_iq c6 h
        refine lv_aload_n C.1 C.2.1 dX9_readPart_62 rfl (lv_at hl 0 rfl) ?_
        refine lv_dup C.1 C.2.1 dX9_readPart_63 rfl ?_
        refine fz_geti C hF hT fz_m0 (j := 3) rfl fl_X9_140 dX9_readPart_64 ?_
        refine lv_iconst (v := 1) C.1 C.2.1 dX9_readPart_67 (by decide) ?_
        refine lv_iadd C.1 C.2.1 dX9_readPart_68 ?_
        obtain ⟨M7, eM7, h⟩ := fz_bd_s h
        refine fz_puti C hF hT fz_m0 (j := 3) rfl fw_X9_140 dX9_readPart_69 (fun H locs hT => ?_)
        rw [← eM7] at hT
        refine lv_aload_n C.1 C.2.1 dX9_readPart_72 rfl (lv_at hl 0 rfl) ?_
        obtain ⟨r8, M9, w10, h⟩ := fz_b2_s h
        refine fz_ci hT (fz_runV (np := 0) (rest := []) C hF hT (c_X9_readStream l G M7 r8 M9 w10) fz_m0 (T := TX9) (N := 49) rfl cl_X9_175 rfl hl.1 rfl (Nat.le_of_ble_eq_true rfl) ⟨Nat.le_of_ble_eq_true rfl, Nat.le_of_ble_eq_true rfl, Nat.zero_le _, Nat.zero_le _⟩ dX9_readPart_73) (fun H locs hT => ?_)
        obtain ⟨g11, h⟩ := fz_gd_s h
        cases h
        exact fz_retz C hr hlk g11 hT dX9_readPart_76
set_option maxHeartbeats 4000000 in
set_option maxRecDepth 100000 in
theorem b_X9_readPart_0 {p : Program} {l : Launch} {e : Env} {s : State} {m : MethodId} {args : Array Value} {below : List Frame} {meth : Method} {c : Code} {G : fz_G}      {M : fz_M} {H : Heap} {locs : List Loc} {ls : Array Slot} {r : Int32} {M9 : fz_M} (C : CallFix p m c cX9_readPart 2 s args wsL_law RX9) (hr : meth.sig.returnType = (some .boolean)) (hlk : meth.locks = false) (hF : fz_F G fz_KM s)  (hT : fz_T G fz_shM fz_KM s M H locs) (hl : lv_has ls 2 [(0, .ref (G.1 0))]) (h : f_X9_readPart M = some (r, M9)) : W p l e (fz_rm 3 71) s m args below meth c H locs 0 0 (MQ below (fz_Qi G fz_shM fz_KM r M9) args s 0 0 (fz_Fr G fz_KM)) (F0 m 0 ls []) := by
  refine lv_aload_n C.1 C.2.1 dX9_readPart_0 rfl (lv_at hl 0 rfl) ?_
  refine fz_getr C hF hT fz_m0 (j := 1) rfl fl_X9_7 dX9_readPart_1 ?_
  refine lv_aload_n C.1 C.2.1 dX9_readPart_4 rfl (lv_at hl 0 rfl) ?_
  refine fz_geti C hF hT fz_m0 (j := 3) rfl fl_X9_140 dX9_readPart_5 ?_
  obtain ⟨g1, h⟩ := fz_gd_s h
  refine fz_ia C hF hT fz_m1 g1 dX9_readPart_8 ?_
  obtain ⟨x2, ex2, h⟩ := fz_bd_s h
  refine fz_nmi ex2 ?_
  refine lv_istore_n (lv' := [(1, .int x2), (0, .ref (G.1 0))]) C.1 C.2.1 dX9_readPart_9 rfl hl (by decide) rfl (fun ls hl => ?_)
  refine lv_iload_n C.1 C.2.1 dX9_readPart_10 rfl (lv_at hl 0 rfl) ?_
  refine lv_bipush (v := 72) C.1 C.2.1 dX9_readPart_11 (by decide) ?_
  refine lv_icmp_ne (tgt := 40) C.1 C.2.1 dX9_readPart_13 (by decide) (fun c3 => ?_) (fun c3 => ?_)
  · have h := fz_ip c3 h
    exact b_X9_readPart_40 C hr hlk hF hT (lv_sub hl [1, 0] rfl) h
  · have h := fz_iq (not_not_intro c3) h
    refine lv_aload_n C.1 C.2.1 dX9_readPart_16 rfl (lv_at hl 1 rfl) ?_
    refine fz_geti C hF hT fz_m0 (j := 22) rfl fl_X9_147 dX9_readPart_17 ?_
    refine lv_bipush (v := 6) C.1 C.2.1 dX9_readPart_20 (by decide) ?_
    refine lv_icmp_ge (tgt := 40) C.1 C.2.1 dX9_readPart_22 (by decide) (fun c4 => ?_) (fun c4 => ?_)
    · have h := fz_ip c4 h
      exact b_X9_readPart_40 C hr hlk hF hT (lv_sub hl [1, 0] rfl) h
    · have h := fz_iq c4 h
      refine lv_aload_n C.1 C.2.1 dX9_readPart_25 rfl (lv_at hl 1 rfl) ?_
      refine lv_dup C.1 C.2.1 dX9_readPart_26 rfl ?_
      refine fz_geti C hF hT fz_m0 (j := 3) rfl fl_X9_140 dX9_readPart_27 ?_
      refine lv_iconst (v := 1) C.1 C.2.1 dX9_readPart_30 (by decide) ?_
      refine lv_iadd C.1 C.2.1 dX9_readPart_31 ?_
      obtain ⟨M5, eM5, h⟩ := fz_bd_s h
      refine fz_puti C hF hT fz_m0 (j := 3) rfl fw_X9_140 dX9_readPart_32 (fun H locs hT => ?_)
      rw [← eM5] at hT
      refine lv_aload_n C.1 C.2.1 dX9_readPart_35 rfl (lv_at hl 1 rfl) ?_
      obtain ⟨r6, M7, w8, h⟩ := fz_b2_s h
      refine fz_ci hT (fz_runV (np := 0) (rest := []) C hF hT (c_X9_readHouse l G M5 r6 M7 w8) fz_m0 (T := TX9) (N := 49) rfl cl_X9_168 rfl hl.1 rfl (Nat.le_of_ble_eq_true rfl) ⟨Nat.le_of_ble_eq_true rfl, Nat.le_of_ble_eq_true rfl, Nat.zero_le _, Nat.zero_le _⟩ dX9_readPart_36) (fun H locs hT => ?_)
      obtain ⟨g9, h⟩ := fz_gd_s h
      cases h
      exact fz_retz C hr hlk g9 hT dX9_readPart_39
set_option maxRecDepth 100000 in
theorem c_X9_readPart (l : Launch) (G : fz_G)   (M : fz_M) (r : Int32) (M9 : fz_M) (h : f_X9_readPart M = some (r, M9)) : fz_Me l yX9_readPart cX9_readPart 2 (some .boolean) 3 71 G fz_shM fz_KM [.ref (G.1 0)] M (fz_Qi G fz_shM fz_KM r M9) := by
  refine fz_body (by decide) (Nat.le_of_ble_eq_true rfl) ?_
  intro p e s m args below meth c H locs ls C hr hlk hF hT hl
  have C : CallFix p m c cX9_readPart 2 s args wsL_law RX9 := C
  have hl : lv_has ls 2 [(0, .ref (G.1 0))] := hl
  exact b_X9_readPart_0 C hr hlk hF hT (lv_sub hl [0] rfl) h
set_option maxHeartbeats 4000000 in
set_option maxRecDepth 100000 in
theorem b_X9_readTown_20_l {p : Program} {l : Launch} {e : Env} {s : State} {m : MethodId} {args : Array Value} {below : List Frame} {meth : Method} {c : Code} {G : fz_G}       {r : Int32} {M9 : fz_M} (C : CallFix p m c cX9_readTown 1 s args wsL_law RX9) (hr : meth.sig.returnType = (some .int)) (hlk : meth.locks = false) (hF : fz_F G fz_KM s)  : ∀ (n : Nat)  (M : fz_M) (H : Heap) (locs : List Loc) (ls : Array Slot), fz_T G fz_shM fz_KM s M H locs → lv_has ls 1 [(0, .ref (G.1 0))] → fz_lp (fun ag z => f_X9_readTown_20_s ag z) n M = some (r, M9) → W p l e (fz_rm 4 92) s m args below meth c H locs 0 0 (MQ below (fz_Qi G fz_shM fz_KM r M9) args s 0 0 (fz_Fr G fz_KM)) (F0 m 20 ls []) := by
  intro n
  induction n with
  | zero =>
    intro  M H locs ls hT hl h
    cases h
  | succ n ih =>
    intro  M H locs ls hT hl h
    have h : f_X9_readTown_20_s (fz_lp (fun ag z => f_X9_readTown_20_s ag z) n) M = some (r, M9) := h
    have hag20 := ih
    generalize fz_lp (fun ag z => f_X9_readTown_20_s ag z) n = ag20 at h hag20
    refine lv_aload_n C.1 C.2.1 dX9_readTown_20 rfl (lv_at hl 0 rfl) ?_
    refine fz_geti C hF hT fz_m0 (j := 3) rfl fl_X9_140 dX9_readTown_21 ?_
    refine lv_aload_n C.1 C.2.1 dX9_readTown_24 rfl (lv_at hl 0 rfl) ?_
    refine fz_geti C hF hT fz_m0 (j := 2) rfl fl_X9_137 dX9_readTown_25 ?_
    refine lv_icmp_ge (tgt := 43) C.1 C.2.1 dX9_readTown_28 (by decide) (fun c1 => ?_) (fun c1 => ?_)
    · have h := fz_ip c1 h
      refine lv_bipush (v := (-9)) C.1 C.2.1 dX9_readTown_43 (by decide) ?_
      cases h
      exact fz_reti C hr hlk hT dX9_readTown_45
    · have h := fz_iq c1 h
      refine lv_aload_n C.1 C.2.1 dX9_readTown_31 rfl (lv_at hl 0 rfl) ?_
      obtain ⟨r2, M3, w4, h⟩ := fz_b2_s h
      refine fz_ci hT (fz_runV (np := 0) (rest := []) C hF hT (c_X9_readPart l G M r2 M3 w4) fz_m0 (T := TX9) (N := 49) rfl cl_X9_181 rfl hl.1 rfl (Nat.le_of_ble_eq_true rfl) ⟨Nat.le_of_ble_eq_true rfl, Nat.le_of_ble_eq_true rfl, Nat.zero_le _, Nat.zero_le _⟩ dX9_readTown_32) (fun H locs hT => ?_)
      refine lv_if_ne (tgt := 20) C.1 C.2.1 dX9_readTown_35 (by decide) (fun c5 => ?_) (fun c5 => ?_)
      · have h := fz_ip c5 h
        exact hag20 M3 _ _ _ hT (lv_sub hl [0] rfl) h
      · have h := fz_iq (not_not_intro c5) h
        refine lv_aload_n C.1 C.2.1 dX9_readTown_38 rfl (lv_at hl 0 rfl) ?_
        refine fz_geti C hF hT fz_m0 (j := 3) rfl fl_X9_140 dX9_readTown_39 ?_
        cases h
        exact fz_reti C hr hlk hT dX9_readTown_42
set_option maxHeartbeats 4000000 in
set_option maxRecDepth 100000 in
theorem b_X9_readTown_20 {p : Program} {l : Launch} {e : Env} {s : State} {m : MethodId} {args : Array Value} {below : List Frame} {meth : Method} {c : Code} {G : fz_G}      {M : fz_M} {H : Heap} {locs : List Loc} {ls : Array Slot} {r : Int32} {M9 : fz_M} (C : CallFix p m c cX9_readTown 1 s args wsL_law RX9) (hr : meth.sig.returnType = (some .int)) (hlk : meth.locks = false) (hF : fz_F G fz_KM s)  (hT : fz_T G fz_shM fz_KM s M H locs) (hl : lv_has ls 1 [(0, .ref (G.1 0))]) (h : f_X9_readTown_20 M = some (r, M9)) : W p l e (fz_rm 4 92) s m args below meth c H locs 0 0 (MQ below (fz_Qi G fz_shM fz_KM r M9) args s 0 0 (fz_Fr G fz_KM)) (F0 m 20 ls []) :=
  b_X9_readTown_20_l C hr hlk hF fz_fuel  M H locs ls hT hl h
set_option maxHeartbeats 4000000 in
set_option maxRecDepth 100000 in
theorem b_X9_readTown_0 {p : Program} {l : Launch} {e : Env} {s : State} {m : MethodId} {args : Array Value} {below : List Frame} {meth : Method} {c : Code} {G : fz_G}      {M : fz_M} {H : Heap} {locs : List Loc} {ls : Array Slot} {r : Int32} {M9 : fz_M} (C : CallFix p m c cX9_readTown 1 s args wsL_law RX9) (hr : meth.sig.returnType = (some .int)) (hlk : meth.locks = false) (hF : fz_F G fz_KM s)  (hT : fz_T G fz_shM fz_KM s M H locs) (hl : lv_has ls 1 [(0, .ref (G.1 0))]) (h : f_X9_readTown M = some (r, M9)) : W p l e (fz_rm 4 92) s m args below meth c H locs 0 0 (MQ below (fz_Qi G fz_shM fz_KM r M9) args s 0 0 (fz_Fr G fz_KM)) (F0 m 0 ls []) := by
  refine lv_aload_n C.1 C.2.1 dX9_readTown_0 rfl (lv_at hl 0 rfl) ?_
  refine lv_iconst (v := 0) C.1 C.2.1 dX9_readTown_1 (by decide) ?_
  obtain ⟨M1, eM1, h⟩ := fz_bd_s h
  refine fz_puti C hF hT fz_m0 (j := 3) rfl fw_X9_140 dX9_readTown_2 (fun H locs hT => ?_)
  rw [← eM1] at hT
  refine lv_aload_n C.1 C.2.1 dX9_readTown_5 rfl (lv_at hl 0 rfl) ?_
  refine lv_iconst (v := 0) C.1 C.2.1 dX9_readTown_6 (by decide) ?_
  obtain ⟨M2, eM2, h⟩ := fz_bd_s h
  refine fz_puti C hF hT fz_m0 (j := 22) rfl fw_X9_147 dX9_readTown_7 (fun H locs hT => ?_)
  rw [← eM2] at hT
  refine lv_aload_n C.1 C.2.1 dX9_readTown_10 rfl (lv_at hl 0 rfl) ?_
  refine lv_iconst (v := 0) C.1 C.2.1 dX9_readTown_11 (by decide) ?_
  obtain ⟨M3, eM3, h⟩ := fz_bd_s h
  refine fz_puti C hF hT fz_m0 (j := 23) rfl fw_X9_150 dX9_readTown_12 (fun H locs hT => ?_)
  rw [← eM3] at hT
  refine lv_aload_n C.1 C.2.1 dX9_readTown_15 rfl (lv_at hl 0 rfl) ?_
  refine lv_iconst (v := 0) C.1 C.2.1 dX9_readTown_16 (by decide) ?_
  obtain ⟨M4, eM4, h⟩ := fz_bd_s h
  refine fz_puti C hF hT fz_m0 (j := 24) rfl fw_X9_165 dX9_readTown_17 (fun H locs hT => ?_)
  rw [← eM4] at hT
  exact b_X9_readTown_20 C hr hlk hF hT (lv_sub hl [0] rfl) h
set_option maxRecDepth 100000 in
theorem c_X9_readTown (l : Launch) (G : fz_G)   (M : fz_M) (r : Int32) (M9 : fz_M) (h : f_X9_readTown M = some (r, M9)) : fz_Me l yX9_readTown cX9_readTown 1 (some .int) 4 92 G fz_shM fz_KM [.ref (G.1 0)] M (fz_Qi G fz_shM fz_KM r M9) := by
  refine fz_body (by decide) (Nat.le_of_ble_eq_true rfl) ?_
  intro p e s m args below meth c H locs ls C hr hlk hF hT hl
  have C : CallFix p m c cX9_readTown 1 s args wsL_law RX9 := C
  have hl : lv_has ls 1 [(0, .ref (G.1 0))] := hl
  exact b_X9_readTown_0 C hr hlk hF hT (lv_sub hl [0] rfl) h
set_option maxHeartbeats 4000000 in
set_option maxRecDepth 100000 in
theorem b_X9_fault_0 {p : Program} {l : Launch} {e : Env} {s : State} {m : MethodId} {args : Array Value} {below : List Frame} {meth : Method} {c : Code} {G : fz_G}      {M : fz_M} {H : Heap} {locs : List Loc} {ls : Array Slot} {r : Int32} {M9 : fz_M} (C : CallFix p m c cX9_fault 1 s args wsL_law RX9) (hr : meth.sig.returnType = (some .int)) (hlk : meth.locks = false) (hF : fz_F G fz_KM s)  (hT : fz_T G fz_shM fz_KM s M H locs) (hl : lv_has ls 1 [(0, .ref (G.1 0))]) (h : f_X9_fault M = some (r, M9)) : W p l e (fz_rm 5 112) s m args below meth c H locs 0 0 (MQ below (fz_Qi G fz_shM fz_KM r M9) args s 0 0 (fz_Fr G fz_KM)) (F0 m 0 ls []) := by
  refine lv_aload_n C.1 C.2.1 dX9_fault_0 rfl (lv_at hl 0 rfl) ?_
  refine lv_iconst (v := 0) C.1 C.2.1 dX9_fault_1 (by decide) ?_
  obtain ⟨M1, eM1, h⟩ := fz_bd_s h
  refine fz_puti C hF hT fz_m0 (j := 0) rfl fw_X9_117 dX9_fault_2 (fun H locs hT => ?_)
  rw [← eM1] at hT
  refine lv_aload_n C.1 C.2.1 dX9_fault_5 rfl (lv_at hl 0 rfl) ?_
  obtain ⟨r2, M3, w4, h⟩ := fz_b2_s h
  refine fz_ci hT (fz_runV (np := 0) (rest := []) C hF hT (c_X9_readTown l G M1 r2 M3 w4) fz_m0 (T := TX9) (N := 49) rfl cl_X9_184 rfl hl.1 rfl (Nat.le_of_ble_eq_true rfl) ⟨Nat.le_of_ble_eq_true rfl, Nat.le_of_ble_eq_true rfl, Nat.zero_le _, Nat.zero_le _⟩ dX9_fault_6) (fun H locs hT => ?_)
  cases h
  exact fz_reti C hr hlk hT dX9_fault_9
set_option maxRecDepth 100000 in
theorem c_X9_fault (l : Launch) (G : fz_G)   (M : fz_M) (r : Int32) (M9 : fz_M) (h : f_X9_fault M = some (r, M9)) : fz_Me l yX9_fault cX9_fault 1 (some .int) 5 112 G fz_shM fz_KM [.ref (G.1 0)] M (fz_Qi G fz_shM fz_KM r M9) := by
  refine fz_body (by decide) (Nat.le_of_ble_eq_true rfl) ?_
  intro p e s m args below meth c H locs ls C hr hlk hF hT hl
  have C : CallFix p m c cX9_fault 1 s args wsL_law RX9 := C
  have hl : lv_has ls 1 [(0, .ref (G.1 0))] := hl
  exact b_X9_fault_0 C hr hlk hF hT (lv_sub hl [0] rfl) h
set_option maxHeartbeats 4000000 in
set_option maxRecDepth 100000 in
theorem b_X9_town_140_l {p : Program} {l : Launch} {e : Env} {s : State} {m : MethodId} {args : Array Value} {below : List Frame} {meth : Method} {c : Code} {G : fz_G}       {r : Int32} {M9 : fz_M} (C : CallFix p m c cX9_town 2 s args wsL_law RX9) (hr : meth.sig.returnType = (some .int)) (hlk : meth.locks = false) (hF : fz_F G fz_KM s)  : ∀ (n : Nat) (v1 : Int32) (M : fz_M) (H : Heap) (locs : List Loc) (ls : Array Slot), fz_T G fz_shM fz_KM s M H locs → lv_has ls 2 [(0, .ref (G.1 0)), (1, .int v1)] → fz_lp (fun ag z => f_X9_town_140_s ag z.1 z.2) n (v1, M) = some (r, M9) → W p l e (fz_rm 5 112) s m args below meth c H locs 0 0 (MQ below (fz_Qi G fz_shM fz_KM r M9) args s 0 0 (fz_Fr G fz_KM)) (F0 m 140 ls []) := by
  intro n
  induction n with
  | zero =>
    intro v1 M H locs ls hT hl h
    cases h
  | succ n ih =>
    intro v1 M H locs ls hT hl h
    have h : f_X9_town_140_s (fz_lp (fun ag z => f_X9_town_140_s ag z.1 z.2) n) v1 M = some (r, M9) := h
    have hag140 := ih
    generalize fz_lp (fun ag z => f_X9_town_140_s ag z.1 z.2) n = ag140 at h hag140
    refine lv_iload_n C.1 C.2.1 dX9_town_140 rfl (lv_at hl 1 rfl) ?_
    refine lv_aload_n C.1 C.2.1 dX9_town_141 rfl (lv_at hl 0 rfl) ?_
    refine fz_geti C hF hT fz_m0 (j := 6) rfl fl_X9_128 dX9_town_142 ?_
    refine lv_icmp_ge (tgt := 248) C.1 C.2.1 dX9_town_145 (by decide) (fun c1 => ?_) (fun c1 => ?_)
    · have h := fz_ip c1 h
      refine lv_aload_n C.1 C.2.1 dX9_town_248 rfl (lv_at hl 0 rfl) ?_
      refine lv_iconst (v := 0) C.1 C.2.1 dX9_town_249 (by decide) ?_
      obtain ⟨M2, eM2, h⟩ := fz_bd_s h
      refine fz_puti C hF hT fz_m0 (j := 21) rfl fw_X9_191 dX9_town_250 (fun H locs hT => ?_)
      rw [← eM2] at hT
      refine lv_aload_n C.1 C.2.1 dX9_town_253 rfl (lv_at hl 0 rfl) ?_
      refine lv_iconst (v := 0) C.1 C.2.1 dX9_town_254 (by decide) ?_
      obtain ⟨M3, eM3, h⟩ := fz_bd_s h
      refine fz_puti C hF hT fz_m0 (j := 35) rfl fw_X9_194 dX9_town_255 (fun H locs hT => ?_)
      rw [← eM3] at hT
      refine lv_aload_n C.1 C.2.1 dX9_town_258 rfl (lv_at hl 0 rfl) ?_
      refine fz_getr C hF hT fz_m0 (j := 38) rfl fl_X9_92 dX9_town_259 ?_
      refine lv_iconst (v := 0) C.1 C.2.1 dX9_town_262 (by decide) ?_
      refine lv_iconst (v := 0) C.1 C.2.1 dX9_town_263 (by decide) ?_
      obtain ⟨g4, h⟩ := fz_gd_s h
      obtain ⟨M5, eM5, h⟩ := fz_bd_s h
      refine fz_zas C hF hT fz_m28 g4 dX9_town_264 (fun H locs hT => ?_)
      rw [← eM5] at hT
      refine lv_aload_n C.1 C.2.1 dX9_town_265 rfl (lv_at hl 0 rfl) ?_
      refine fz_getr C hF hT fz_m0 (j := 38) rfl fl_X9_92 dX9_town_266 ?_
      refine lv_iconst (v := 1) C.1 C.2.1 dX9_town_269 (by decide) ?_
      refine lv_iconst (v := 0) C.1 C.2.1 dX9_town_270 (by decide) ?_
      obtain ⟨g6, h⟩ := fz_gd_s h
      obtain ⟨M7, eM7, h⟩ := fz_bd_s h
      refine fz_zas C hF hT fz_m28 g6 dX9_town_271 (fun H locs hT => ?_)
      rw [← eM7] at hT
      refine lv_aload_n C.1 C.2.1 dX9_town_272 rfl (lv_at hl 0 rfl) ?_
      refine fz_geti C hF hT fz_m0 (j := 4) rfl fl_X9_121 dX9_town_273 ?_
      cases h
      exact fz_reti C hr hlk hT dX9_town_276
    · have h := fz_iq c1 h
      refine lv_aload_n C.1 C.2.1 dX9_town_148 rfl (lv_at hl 0 rfl) ?_
      refine fz_getr C hF hT fz_m0 (j := 13) rfl fl_X9_32 dX9_town_149 ?_
      refine lv_iload_n C.1 C.2.1 dX9_town_152 rfl (lv_at hl 1 rfl) ?_
      refine lv_aload_n C.1 C.2.1 dX9_town_153 rfl (lv_at hl 0 rfl) ?_
      refine fz_getr C hF hT fz_m0 (j := 30) rfl fl_X9_71 dX9_town_154 ?_
      refine lv_iload_n C.1 C.2.1 dX9_town_157 rfl (lv_at hl 1 rfl) ?_
      obtain ⟨g8, h⟩ := fz_gd_s h
      refine fz_ia C hF hT fz_m21 g8 dX9_town_158 ?_
      obtain ⟨g9, h⟩ := fz_gd_s h
      obtain ⟨M10, eM10, h⟩ := fz_bd_s h
      refine fz_ias C hF hT fz_m8 g9 dX9_town_159 (fun H locs hT => ?_)
      rw [← eM10] at hT
      refine lv_aload_n C.1 C.2.1 dX9_town_160 rfl (lv_at hl 0 rfl) ?_
      refine fz_getr C hF hT fz_m0 (j := 14) rfl fl_X9_35 dX9_town_161 ?_
      refine lv_iload_n C.1 C.2.1 dX9_town_164 rfl (lv_at hl 1 rfl) ?_
      refine lv_aload_n C.1 C.2.1 dX9_town_165 rfl (lv_at hl 0 rfl) ?_
      refine fz_getr C hF hT fz_m0 (j := 31) rfl fl_X9_74 dX9_town_166 ?_
      refine lv_iload_n C.1 C.2.1 dX9_town_169 rfl (lv_at hl 1 rfl) ?_
      obtain ⟨g11, h⟩ := fz_gd_s h
      refine fz_ia C hF hT fz_m22 g11 dX9_town_170 ?_
      obtain ⟨g12, h⟩ := fz_gd_s h
      obtain ⟨M13, eM13, h⟩ := fz_bd_s h
      refine fz_ias C hF hT fz_m9 g12 dX9_town_171 (fun H locs hT => ?_)
      rw [← eM13] at hT
      refine lv_aload_n C.1 C.2.1 dX9_town_172 rfl (lv_at hl 0 rfl) ?_
      refine fz_getr C hF hT fz_m0 (j := 15) rfl fl_X9_38 dX9_town_173 ?_
      refine lv_iload_n C.1 C.2.1 dX9_town_176 rfl (lv_at hl 1 rfl) ?_
      refine lv_aload_n C.1 C.2.1 dX9_town_177 rfl (lv_at hl 0 rfl) ?_
      refine fz_getr C hF hT fz_m0 (j := 32) rfl fl_X9_77 dX9_town_178 ?_
      refine lv_iload_n C.1 C.2.1 dX9_town_181 rfl (lv_at hl 1 rfl) ?_
      obtain ⟨g14, h⟩ := fz_gd_s h
      refine fz_ia C hF hT fz_m23 g14 dX9_town_182 ?_
      obtain ⟨g15, h⟩ := fz_gd_s h
      obtain ⟨M16, eM16, h⟩ := fz_bd_s h
      refine fz_ias C hF hT fz_m10 g15 dX9_town_183 (fun H locs hT => ?_)
      rw [← eM16] at hT
      refine lv_aload_n C.1 C.2.1 dX9_town_184 rfl (lv_at hl 0 rfl) ?_
      refine fz_getr C hF hT fz_m0 (j := 17) rfl fl_X9_44 dX9_town_185 ?_
      refine lv_iload_n C.1 C.2.1 dX9_town_188 rfl (lv_at hl 1 rfl) ?_
      refine lv_aload_n C.1 C.2.1 dX9_town_189 rfl (lv_at hl 0 rfl) ?_
      refine fz_getr C hF hT fz_m0 (j := 33) rfl fl_X9_80 dX9_town_190 ?_
      refine lv_iload_n C.1 C.2.1 dX9_town_193 rfl (lv_at hl 1 rfl) ?_
      obtain ⟨g17, h⟩ := fz_gd_s h
      refine fz_ia C hF hT fz_m24 g17 dX9_town_194 ?_
      obtain ⟨g18, h⟩ := fz_gd_s h
      obtain ⟨M19, eM19, h⟩ := fz_bd_s h
      refine fz_ias C hF hT fz_m12 g18 dX9_town_195 (fun H locs hT => ?_)
      rw [← eM19] at hT
      refine lv_aload_n C.1 C.2.1 dX9_town_196 rfl (lv_at hl 0 rfl) ?_
      refine fz_getr C hF hT fz_m0 (j := 16) rfl fl_X9_41 dX9_town_197 ?_
      refine lv_iload_n C.1 C.2.1 dX9_town_200 rfl (lv_at hl 1 rfl) ?_
      refine lv_aload_n C.1 C.2.1 dX9_town_201 rfl (lv_at hl 0 rfl) ?_
      refine fz_getr C hF hT fz_m0 (j := 13) rfl fl_X9_32 dX9_town_202 ?_
      refine lv_iload_n C.1 C.2.1 dX9_town_205 rfl (lv_at hl 1 rfl) ?_
      obtain ⟨g20, h⟩ := fz_gd_s h
      refine fz_ia C hF hT fz_m8 g20 dX9_town_206 ?_
      obtain ⟨g21, h⟩ := fz_gd_s h
      obtain ⟨M22, eM22, h⟩ := fz_bd_s h
      refine fz_ias C hF hT fz_m11 g21 dX9_town_207 (fun H locs hT => ?_)
      rw [← eM22] at hT
      refine lv_aload_n C.1 C.2.1 dX9_town_208 rfl (lv_at hl 0 rfl) ?_
      refine fz_getr C hF hT fz_m0 (j := 20) rfl fl_X9_53 dX9_town_209 ?_
      refine lv_iload_n C.1 C.2.1 dX9_town_212 rfl (lv_at hl 1 rfl) ?_
      refine lv_aload_n C.1 C.2.1 dX9_town_213 rfl (lv_at hl 0 rfl) ?_
      refine fz_getr C hF hT fz_m0 (j := 13) rfl fl_X9_32 dX9_town_214 ?_
      refine lv_iload_n C.1 C.2.1 dX9_town_217 rfl (lv_at hl 1 rfl) ?_
      obtain ⟨g23, h⟩ := fz_gd_s h
      refine fz_ia C hF hT fz_m8 g23 dX9_town_218 ?_
      obtain ⟨g24, h⟩ := fz_gd_s h
      obtain ⟨M25, eM25, h⟩ := fz_bd_s h
      refine fz_ias C hF hT fz_m15 g24 dX9_town_219 (fun H locs hT => ?_)
      rw [← eM25] at hT
      refine lv_aload_n C.1 C.2.1 dX9_town_220 rfl (lv_at hl 0 rfl) ?_
      refine fz_getr C hF hT fz_m0 (j := 18) rfl fl_X9_47 dX9_town_221 ?_
      refine lv_bipush (v := 8) C.1 C.2.1 dX9_town_224 (by decide) ?_
      refine lv_iload_n C.1 C.2.1 dX9_town_226 rfl (lv_at hl 1 rfl) ?_
      refine lv_imul C.1 C.2.1 dX9_town_227 ?_
      refine lv_aload_n C.1 C.2.1 dX9_town_228 rfl (lv_at hl 0 rfl) ?_
      refine fz_getr C hF hT fz_m0 (j := 13) rfl fl_X9_32 dX9_town_229 ?_
      refine lv_iload_n C.1 C.2.1 dX9_town_232 rfl (lv_at hl 1 rfl) ?_
      obtain ⟨g26, h⟩ := fz_gd_s h
      refine fz_ia C hF hT fz_m8 g26 dX9_town_233 ?_
      obtain ⟨g27, h⟩ := fz_gd_s h
      obtain ⟨M28, eM28, h⟩ := fz_bd_s h
      refine fz_ias C hF hT fz_m13 g27 dX9_town_234 (fun H locs hT => ?_)
      rw [← eM28] at hT
      refine lv_aload_n C.1 C.2.1 dX9_town_235 rfl (lv_at hl 0 rfl) ?_
      refine fz_getr C hF hT fz_m0 (j := 19) rfl fl_X9_50 dX9_town_236 ?_
      refine lv_iload_n C.1 C.2.1 dX9_town_239 rfl (lv_at hl 1 rfl) ?_
      refine lv_iconst (v := 1) C.1 C.2.1 dX9_town_240 (by decide) ?_
      obtain ⟨g29, h⟩ := fz_gd_s h
      obtain ⟨M30, eM30, h⟩ := fz_bd_s h
      refine fz_ias C hF hT fz_m14 g29 dX9_town_241 (fun H locs hT => ?_)
      rw [← eM30] at hT
      refine lv_iinc (v := (v1 + 1)) (lv' := [(1, .int (v1 + 1)), (0, .ref (G.1 0))]) C.1 C.2.1 dX9_town_242 hl (k := 1) rfl rfl (by decide) rfl (fun ls hl => ?_)
      refine lv_goto (tgt := 140) C.1 C.2.1 dX9_town_245 (by decide) ?_
      exact hag140 (v1 + 1) M30 _ _ _ hT (lv_sub hl [1, 0] rfl) h
set_option maxHeartbeats 4000000 in
set_option maxRecDepth 100000 in
theorem b_X9_town_140 {p : Program} {l : Launch} {e : Env} {s : State} {m : MethodId} {args : Array Value} {below : List Frame} {meth : Method} {c : Code} {G : fz_G}     {v1 : Int32} {M : fz_M} {H : Heap} {locs : List Loc} {ls : Array Slot} {r : Int32} {M9 : fz_M} (C : CallFix p m c cX9_town 2 s args wsL_law RX9) (hr : meth.sig.returnType = (some .int)) (hlk : meth.locks = false) (hF : fz_F G fz_KM s)  (hT : fz_T G fz_shM fz_KM s M H locs) (hl : lv_has ls 2 [(0, .ref (G.1 0)), (1, .int v1)]) (h : f_X9_town_140 v1 M = some (r, M9)) : W p l e (fz_rm 5 112) s m args below meth c H locs 0 0 (MQ below (fz_Qi G fz_shM fz_KM r M9) args s 0 0 (fz_Fr G fz_KM)) (F0 m 140 ls []) :=
  b_X9_town_140_l C hr hlk hF fz_fuel v1 M H locs ls hT hl h
set_option maxHeartbeats 4000000 in
set_option maxRecDepth 100000 in
theorem b_X9_town_83_l {p : Program} {l : Launch} {e : Env} {s : State} {m : MethodId} {args : Array Value} {below : List Frame} {meth : Method} {c : Code} {G : fz_G}       {r : Int32} {M9 : fz_M} (C : CallFix p m c cX9_town 2 s args wsL_law RX9) (hr : meth.sig.returnType = (some .int)) (hlk : meth.locks = false) (hF : fz_F G fz_KM s)  : ∀ (n : Nat) (v1 : Int32) (M : fz_M) (H : Heap) (locs : List Loc) (ls : Array Slot), fz_T G fz_shM fz_KM s M H locs → lv_has ls 2 [(0, .ref (G.1 0)), (1, .int v1)] → fz_lp (fun ag z => f_X9_town_83_s ag z.1 z.2) n (v1, M) = some (r, M9) → W p l e (fz_rm 5 112) s m args below meth c H locs 0 0 (MQ below (fz_Qi G fz_shM fz_KM r M9) args s 0 0 (fz_Fr G fz_KM)) (F0 m 83 ls []) := by
  intro n
  induction n with
  | zero =>
    intro v1 M H locs ls hT hl h
    cases h
  | succ n ih =>
    intro v1 M H locs ls hT hl h
    have h : f_X9_town_83_s (fz_lp (fun ag z => f_X9_town_83_s ag z.1 z.2) n) v1 M = some (r, M9) := h
    have hag83 := ih
    generalize fz_lp (fun ag z => f_X9_town_83_s ag z.1 z.2) n = ag83 at h hag83
    refine lv_iload_n C.1 C.2.1 dX9_town_83 rfl (lv_at hl 1 rfl) ?_
    refine lv_bipush (v := 10) C.1 C.2.1 dX9_town_84 (by decide) ?_
    refine lv_icmp_ge (tgt := 138) C.1 C.2.1 dX9_town_86 (by decide) (fun c1 => ?_) (fun c1 => ?_)
    · have h := fz_ip c1 h
      refine lv_iconst (v := 0) C.1 C.2.1 dX9_town_138 (by decide) ?_
      refine lv_istore_n (lv' := [(1, .int 0), (0, .ref (G.1 0))]) C.1 C.2.1 dX9_town_139 rfl hl (by decide) rfl (fun ls hl => ?_)
      exact b_X9_town_140 C hr hlk hF hT (lv_sub hl [1, 0] rfl) h
    · have h := fz_iq c1 h
      refine lv_aload_n C.1 C.2.1 dX9_town_89 rfl (lv_at hl 0 rfl) ?_
      refine fz_getr C hF hT fz_m0 (j := 9) rfl fl_X9_19 dX9_town_90 ?_
      refine lv_iload_n C.1 C.2.1 dX9_town_93 rfl (lv_at hl 1 rfl) ?_
      refine lv_aload_n C.1 C.2.1 dX9_town_94 rfl (lv_at hl 0 rfl) ?_
      refine fz_getr C hF hT fz_m0 (j := 27) rfl fl_X9_62 dX9_town_95 ?_
      refine lv_iload_n C.1 C.2.1 dX9_town_98 rfl (lv_at hl 1 rfl) ?_
      obtain ⟨g2, h⟩ := fz_gd_s h
      refine fz_ia C hF hT fz_m18 g2 dX9_town_99 ?_
      obtain ⟨g3, h⟩ := fz_gd_s h
      obtain ⟨M4, eM4, h⟩ := fz_bd_s h
      refine fz_ias C hF hT fz_m4 g3 dX9_town_100 (fun H locs hT => ?_)
      rw [← eM4] at hT
      refine lv_aload_n C.1 C.2.1 dX9_town_101 rfl (lv_at hl 0 rfl) ?_
      refine fz_getr C hF hT fz_m0 (j := 10) rfl fl_X9_22 dX9_town_102 ?_
      refine lv_iload_n C.1 C.2.1 dX9_town_105 rfl (lv_at hl 1 rfl) ?_
      refine lv_aload_n C.1 C.2.1 dX9_town_106 rfl (lv_at hl 0 rfl) ?_
      refine fz_getr C hF hT fz_m0 (j := 28) rfl fl_X9_65 dX9_town_107 ?_
      refine lv_iload_n C.1 C.2.1 dX9_town_110 rfl (lv_at hl 1 rfl) ?_
      obtain ⟨g5, h⟩ := fz_gd_s h
      refine fz_ia C hF hT fz_m19 g5 dX9_town_111 ?_
      obtain ⟨g6, h⟩ := fz_gd_s h
      obtain ⟨M7, eM7, h⟩ := fz_bd_s h
      refine fz_ias C hF hT fz_m5 g6 dX9_town_112 (fun H locs hT => ?_)
      rw [← eM7] at hT
      refine lv_aload_n C.1 C.2.1 dX9_town_113 rfl (lv_at hl 0 rfl) ?_
      refine fz_getr C hF hT fz_m0 (j := 11) rfl fl_X9_25 dX9_town_114 ?_
      refine lv_iload_n C.1 C.2.1 dX9_town_117 rfl (lv_at hl 1 rfl) ?_
      refine lv_aload_n C.1 C.2.1 dX9_town_118 rfl (lv_at hl 0 rfl) ?_
      refine fz_getr C hF hT fz_m0 (j := 29) rfl fl_X9_68 dX9_town_119 ?_
      refine lv_iload_n C.1 C.2.1 dX9_town_122 rfl (lv_at hl 1 rfl) ?_
      obtain ⟨g8, h⟩ := fz_gd_s h
      refine fz_ia C hF hT fz_m20 g8 dX9_town_123 ?_
      obtain ⟨g9, h⟩ := fz_gd_s h
      obtain ⟨M10, eM10, h⟩ := fz_bd_s h
      refine fz_ias C hF hT fz_m6 g9 dX9_town_124 (fun H locs hT => ?_)
      rw [← eM10] at hT
      refine lv_aload_n C.1 C.2.1 dX9_town_125 rfl (lv_at hl 0 rfl) ?_
      refine fz_getr C hF hT fz_m0 (j := 12) rfl fl_X9_28 dX9_town_126 ?_
      refine lv_iload_n C.1 C.2.1 dX9_town_129 rfl (lv_at hl 1 rfl) ?_
      refine lv_iconst (v := 0) C.1 C.2.1 dX9_town_130 (by decide) ?_
      obtain ⟨g11, h⟩ := fz_gd_s h
      obtain ⟨M12, eM12, h⟩ := fz_bd_s h
      refine fz_zas C hF hT fz_m7 g11 dX9_town_131 (fun H locs hT => ?_)
      rw [← eM12] at hT
      refine lv_iinc (v := (v1 + 1)) (lv' := [(1, .int (v1 + 1)), (0, .ref (G.1 0))]) C.1 C.2.1 dX9_town_132 hl (k := 1) rfl rfl (by decide) rfl (fun ls hl => ?_)
      refine lv_goto (tgt := 83) C.1 C.2.1 dX9_town_135 (by decide) ?_
      exact hag83 (v1 + 1) M12 _ _ _ hT (lv_sub hl [1, 0] rfl) h
set_option maxHeartbeats 4000000 in
set_option maxRecDepth 100000 in
theorem b_X9_town_83 {p : Program} {l : Launch} {e : Env} {s : State} {m : MethodId} {args : Array Value} {below : List Frame} {meth : Method} {c : Code} {G : fz_G}     {v1 : Int32} {M : fz_M} {H : Heap} {locs : List Loc} {ls : Array Slot} {r : Int32} {M9 : fz_M} (C : CallFix p m c cX9_town 2 s args wsL_law RX9) (hr : meth.sig.returnType = (some .int)) (hlk : meth.locks = false) (hF : fz_F G fz_KM s)  (hT : fz_T G fz_shM fz_KM s M H locs) (hl : lv_has ls 2 [(0, .ref (G.1 0)), (1, .int v1)]) (h : f_X9_town_83 v1 M = some (r, M9)) : W p l e (fz_rm 5 112) s m args below meth c H locs 0 0 (MQ below (fz_Qi G fz_shM fz_KM r M9) args s 0 0 (fz_Fr G fz_KM)) (F0 m 83 ls []) :=
  b_X9_town_83_l C hr hlk hF fz_fuel v1 M H locs ls hT hl h
set_option maxHeartbeats 4000000 in
set_option maxRecDepth 100000 in
theorem b_X9_town_43_l {p : Program} {l : Launch} {e : Env} {s : State} {m : MethodId} {args : Array Value} {below : List Frame} {meth : Method} {c : Code} {G : fz_G}       {r : Int32} {M9 : fz_M} (C : CallFix p m c cX9_town 2 s args wsL_law RX9) (hr : meth.sig.returnType = (some .int)) (hlk : meth.locks = false) (hF : fz_F G fz_KM s)  : ∀ (n : Nat) (v1 : Int32) (M : fz_M) (H : Heap) (locs : List Loc) (ls : Array Slot), fz_T G fz_shM fz_KM s M H locs → lv_has ls 2 [(0, .ref (G.1 0)), (1, .int v1)] → fz_lp (fun ag z => f_X9_town_43_s ag z.1 z.2) n (v1, M) = some (r, M9) → W p l e (fz_rm 5 112) s m args below meth c H locs 0 0 (MQ below (fz_Qi G fz_shM fz_KM r M9) args s 0 0 (fz_Fr G fz_KM)) (F0 m 43 ls []) := by
  intro n
  induction n with
  | zero =>
    intro v1 M H locs ls hT hl h
    cases h
  | succ n ih =>
    intro v1 M H locs ls hT hl h
    have h : f_X9_town_43_s (fz_lp (fun ag z => f_X9_town_43_s ag z.1 z.2) n) v1 M = some (r, M9) := h
    have hag43 := ih
    generalize fz_lp (fun ag z => f_X9_town_43_s ag z.1 z.2) n = ag43 at h hag43
    refine lv_iload_n C.1 C.2.1 dX9_town_43 rfl (lv_at hl 1 rfl) ?_
    refine lv_aload_n C.1 C.2.1 dX9_town_44 rfl (lv_at hl 0 rfl) ?_
    refine fz_geti C hF hT fz_m0 (j := 4) rfl fl_X9_121 dX9_town_45 ?_
    refine lv_icmp_ge (tgt := 81) C.1 C.2.1 dX9_town_48 (by decide) (fun c1 => ?_) (fun c1 => ?_)
    · have h := fz_ip c1 h
      refine lv_iconst (v := 0) C.1 C.2.1 dX9_town_81 (by decide) ?_
      refine lv_istore_n (lv' := [(1, .int 0), (0, .ref (G.1 0))]) C.1 C.2.1 dX9_town_82 rfl hl (by decide) rfl (fun ls hl => ?_)
      exact b_X9_town_83 C hr hlk hF hT (lv_sub hl [1, 0] rfl) h
    · have h := fz_iq c1 h
      refine lv_aload_n C.1 C.2.1 dX9_town_51 rfl (lv_at hl 0 rfl) ?_
      refine fz_getr C hF hT fz_m0 (j := 7) rfl fl_X9_13 dX9_town_52 ?_
      refine lv_iload_n C.1 C.2.1 dX9_town_55 rfl (lv_at hl 1 rfl) ?_
      refine lv_aload_n C.1 C.2.1 dX9_town_56 rfl (lv_at hl 0 rfl) ?_
      refine fz_getr C hF hT fz_m0 (j := 25) rfl fl_X9_56 dX9_town_57 ?_
      refine lv_iload_n C.1 C.2.1 dX9_town_60 rfl (lv_at hl 1 rfl) ?_
      obtain ⟨g2, h⟩ := fz_gd_s h
      refine fz_ia C hF hT fz_m16 g2 dX9_town_61 ?_
      obtain ⟨g3, h⟩ := fz_gd_s h
      obtain ⟨M4, eM4, h⟩ := fz_bd_s h
      refine fz_ias C hF hT fz_m2 g3 dX9_town_62 (fun H locs hT => ?_)
      rw [← eM4] at hT
      refine lv_aload_n C.1 C.2.1 dX9_town_63 rfl (lv_at hl 0 rfl) ?_
      refine fz_getr C hF hT fz_m0 (j := 8) rfl fl_X9_16 dX9_town_64 ?_
      refine lv_iload_n C.1 C.2.1 dX9_town_67 rfl (lv_at hl 1 rfl) ?_
      refine lv_aload_n C.1 C.2.1 dX9_town_68 rfl (lv_at hl 0 rfl) ?_
      refine fz_getr C hF hT fz_m0 (j := 26) rfl fl_X9_59 dX9_town_69 ?_
      refine lv_iload_n C.1 C.2.1 dX9_town_72 rfl (lv_at hl 1 rfl) ?_
      obtain ⟨g5, h⟩ := fz_gd_s h
      refine fz_ia C hF hT fz_m17 g5 dX9_town_73 ?_
      obtain ⟨g6, h⟩ := fz_gd_s h
      obtain ⟨M7, eM7, h⟩ := fz_bd_s h
      refine fz_ias C hF hT fz_m3 g6 dX9_town_74 (fun H locs hT => ?_)
      rw [← eM7] at hT
      refine lv_iinc (v := (v1 + 1)) (lv' := [(1, .int (v1 + 1)), (0, .ref (G.1 0))]) C.1 C.2.1 dX9_town_75 hl (k := 1) rfl rfl (by decide) rfl (fun ls hl => ?_)
      refine lv_goto (tgt := 43) C.1 C.2.1 dX9_town_78 (by decide) ?_
      exact hag43 (v1 + 1) M7 _ _ _ hT (lv_sub hl [1, 0] rfl) h
set_option maxHeartbeats 4000000 in
set_option maxRecDepth 100000 in
theorem b_X9_town_43 {p : Program} {l : Launch} {e : Env} {s : State} {m : MethodId} {args : Array Value} {below : List Frame} {meth : Method} {c : Code} {G : fz_G}     {v1 : Int32} {M : fz_M} {H : Heap} {locs : List Loc} {ls : Array Slot} {r : Int32} {M9 : fz_M} (C : CallFix p m c cX9_town 2 s args wsL_law RX9) (hr : meth.sig.returnType = (some .int)) (hlk : meth.locks = false) (hF : fz_F G fz_KM s)  (hT : fz_T G fz_shM fz_KM s M H locs) (hl : lv_has ls 2 [(0, .ref (G.1 0)), (1, .int v1)]) (h : f_X9_town_43 v1 M = some (r, M9)) : W p l e (fz_rm 5 112) s m args below meth c H locs 0 0 (MQ below (fz_Qi G fz_shM fz_KM r M9) args s 0 0 (fz_Fr G fz_KM)) (F0 m 43 ls []) :=
  b_X9_town_43_l C hr hlk hF fz_fuel v1 M H locs ls hT hl h
set_option maxHeartbeats 4000000 in
set_option maxRecDepth 100000 in
theorem b_X9_town_0 {p : Program} {l : Launch} {e : Env} {s : State} {m : MethodId} {args : Array Value} {below : List Frame} {meth : Method} {c : Code} {G : fz_G}      {M : fz_M} {H : Heap} {locs : List Loc} {ls : Array Slot} {r : Int32} {M9 : fz_M} (C : CallFix p m c cX9_town 2 s args wsL_law RX9) (hr : meth.sig.returnType = (some .int)) (hlk : meth.locks = false) (hF : fz_F G fz_KM s)  (hT : fz_T G fz_shM fz_KM s M H locs) (hl : lv_has ls 2 [(0, .ref (G.1 0))]) (h : f_X9_town M = some (r, M9)) : W p l e (fz_rm 5 112) s m args below meth c H locs 0 0 (MQ below (fz_Qi G fz_shM fz_KM r M9) args s 0 0 (fz_Fr G fz_KM)) (F0 m 0 ls []) := by
  refine lv_aload_n C.1 C.2.1 dX9_town_0 rfl (lv_at hl 0 rfl) ?_
  refine lv_iconst (v := 0) C.1 C.2.1 dX9_town_1 (by decide) ?_
  obtain ⟨M1, eM1, h⟩ := fz_bd_s h
  refine fz_puti C hF hT fz_m0 (j := 0) rfl fw_X9_117 dX9_town_2 (fun H locs hT => ?_)
  rw [← eM1] at hT
  refine lv_aload_n C.1 C.2.1 dX9_town_5 rfl (lv_at hl 0 rfl) ?_
  obtain ⟨r2, M3, w4, h⟩ := fz_b2_s h
  refine fz_ci hT (fz_runV (np := 0) (rest := []) C hF hT (c_X9_readTown l G M1 r2 M3 w4) fz_m0 (T := TX9) (N := 49) rfl cl_X9_184 rfl hl.1 rfl (Nat.le_of_ble_eq_true rfl) ⟨Nat.le_of_ble_eq_true rfl, Nat.le_of_ble_eq_true rfl, Nat.zero_le _, Nat.zero_le _⟩ dX9_town_6) (fun H locs hT => ?_)
  refine lv_bipush (v := (-9)) C.1 C.2.1 dX9_town_9 (by decide) ?_
  refine lv_icmp_eq (tgt := 17) C.1 C.2.1 dX9_town_11 (by decide) (fun c5 => ?_) (fun c5 => ?_)
  · have h := fz_ip c5 h
    refine lv_aload_n C.1 C.2.1 dX9_town_17 rfl (lv_at hl 0 rfl) ?_
    refine lv_aload_n C.1 C.2.1 dX9_town_18 rfl (lv_at hl 0 rfl) ?_
    refine fz_geti C hF hT fz_m0 (j := 22) rfl fl_X9_147 dX9_town_19 ?_
    obtain ⟨M6, eM6, h⟩ := fz_bd_s h
    refine fz_puti C hF hT fz_m0 (j := 4) rfl fw_X9_121 dX9_town_22 (fun H locs hT => ?_)
    rw [← eM6] at hT
    refine lv_aload_n C.1 C.2.1 dX9_town_25 rfl (lv_at hl 0 rfl) ?_
    refine lv_aload_n C.1 C.2.1 dX9_town_26 rfl (lv_at hl 0 rfl) ?_
    refine fz_geti C hF hT fz_m0 (j := 23) rfl fl_X9_150 dX9_town_27 ?_
    obtain ⟨M7, eM7, h⟩ := fz_bd_s h
    refine fz_puti C hF hT fz_m0 (j := 5) rfl fw_X9_188 dX9_town_30 (fun H locs hT => ?_)
    rw [← eM7] at hT
    refine lv_aload_n C.1 C.2.1 dX9_town_33 rfl (lv_at hl 0 rfl) ?_
    refine lv_aload_n C.1 C.2.1 dX9_town_34 rfl (lv_at hl 0 rfl) ?_
    refine fz_geti C hF hT fz_m0 (j := 24) rfl fl_X9_165 dX9_town_35 ?_
    obtain ⟨M8, eM8, h⟩ := fz_bd_s h
    refine fz_puti C hF hT fz_m0 (j := 6) rfl fw_X9_128 dX9_town_38 (fun H locs hT => ?_)
    rw [← eM8] at hT
    refine lv_iconst (v := 0) C.1 C.2.1 dX9_town_41 (by decide) ?_
    refine lv_istore_n (lv' := [(1, .int 0), (0, .ref (G.1 0))]) C.1 C.2.1 dX9_town_42 rfl hl (by decide) rfl (fun ls hl => ?_)
    exact b_X9_town_43 C hr hlk hF hT (lv_sub hl [1, 0] rfl) h
  · have h := fz_iq c5 h
    refine lv_bipush (v := (-3)) C.1 C.2.1 dX9_town_14 (by decide) ?_
    cases h
    exact fz_reti C hr hlk hT dX9_town_16
set_option maxRecDepth 100000 in
theorem c_X9_town (l : Launch) (G : fz_G)   (M : fz_M) (r : Int32) (M9 : fz_M) (h : f_X9_town M = some (r, M9)) : fz_Me l yX9_town cX9_town 2 (some .int) 5 112 G fz_shM fz_KM [.ref (G.1 0)] M (fz_Qi G fz_shM fz_KM r M9) := by
  refine fz_body (by decide) (Nat.le_of_ble_eq_true rfl) ?_
  intro p e s m args below meth c H locs ls C hr hlk hF hT hl
  have C : CallFix p m c cX9_town 2 s args wsL_law RX9 := C
  have hl : lv_has ls 2 [(0, .ref (G.1 0))] := hl
  exact b_X9_town_0 C hr hlk hF hT (lv_sub hl [0] rfl) h
