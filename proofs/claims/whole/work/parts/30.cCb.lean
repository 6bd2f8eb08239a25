set_option maxHeartbeats 4000000 in
set_option maxRecDepth 100000 in
theorem b_X5_begin_23 {p : Program} {l : Launch} {e : Env} {s : State} {m : MethodId} {args : Array Value} {below : List Frame} {meth : Method} {c : Code} {G : fz_G}  {e0 : Nat} (he0 : fz_isL e0 = true) {ag2 : (Int32 × fz_M) → Option fz_M}  {v1 : Int32} {v2 : Int32} {s1 : Int32} {s2 : Int64} {M : fz_M} {H : Heap} {locs : List Loc} {ls : Array Slot} {M9 : fz_M} (C : CallFix p m c cX5_begin 3 s args wsL_law RX5) (hr : meth.sig.returnType = none) (hlk : meth.locks = false) (hF : fz_F G fz_KC s) (hag2 : ∀ (v2 : Int32) (M : fz_M) (H : Heap) (locs : List Loc) (ls : Array Slot), fz_T G fz_shC fz_KC s M H locs → lv_has ls 3 [(0, .ref (G.1 15)), (1, .int v1), (2, .int v2)] → ag2 (v2, M) = some M9 → W p l e (fz_rm 0 0) s m args below meth c H locs 0 0 (MQ below (fz_Qv G fz_shC fz_KC M9) args s 0 0 (fz_Fr G fz_KC)) (F0 m 2 ls [])) (hT : fz_T G fz_shC fz_KC s M H locs) (hl : lv_has ls 3 [(0, .ref (G.1 15)), (1, .int v1), (2, .int v2)]) (h : f_X5_begin_23 e0 ag2 v1 v2 s1 s2 M = some M9) : W p l e (fz_rm 0 0) s m args below meth c H locs 0 0 (MQ below (fz_Qv G fz_shC fz_KC M9) args s 0 0 (fz_Fr G fz_KC)) (F0 m 23 ls [.long s2, .int s1, .ref (G.1 e0)]) := by
  obtain ⟨g1, h⟩ := fz_gd_s h
  obtain ⟨M2, eM2, h⟩ := fz_bd_s h
  refine fz_las C hF hT (fz_lg he0) g1 dX5_begin_23 (fun H locs hT => ?_)
  rw [← eM2] at hT
  refine lv_iinc (v := (v2 + 1)) (lv' := [(2, .int (v2 + 1)), (0, .ref (G.1 15)), (1, .int v1)]) C.1 C.2.1 dX5_begin_24 hl (k := 2) rfl rfl (by decide) rfl (fun ls hl => ?_)
  refine lv_goto (tgt := 2) C.1 C.2.1 dX5_begin_27 (by decide) ?_
  exact hag2 (v2 + 1) M2 _ _ _ hT (lv_sub hl [1, 2, 0] rfl) h
set_option maxHeartbeats 4000000 in
set_option maxRecDepth 100000 in
theorem b_X5_begin_2_l {p : Program} {l : Launch} {e : Env} {s : State} {m : MethodId} {args : Array Value} {below : List Frame} {meth : Method} {c : Code} {G : fz_G}     {v1 : Int32}  {M9 : fz_M} (C : CallFix p m c cX5_begin 3 s args wsL_law RX5) (hr : meth.sig.returnType = none) (hlk : meth.locks = false) (hF : fz_F G fz_KC s)  : ∀ (n : Nat) (v2 : Int32) (M : fz_M) (H : Heap) (locs : List Loc) (ls : Array Slot), fz_T G fz_shC fz_KC s M H locs → lv_has ls 3 [(0, .ref (G.1 15)), (1, .int v1), (2, .int v2)] → fz_lp (fun ag z => f_X5_begin_2_s ag v1 z.1 z.2) n (v2, M) = some M9 → W p l e (fz_rm 0 0) s m args below meth c H locs 0 0 (MQ below (fz_Qv G fz_shC fz_KC M9) args s 0 0 (fz_Fr G fz_KC)) (F0 m 2 ls []) := by
  intro n
  induction n with
  | zero =>
    intro v2 M H locs ls hT hl h
    cases h
  | succ n ih =>
    intro v2 M H locs ls hT hl h
    have h : f_X5_begin_2_s (fz_lp (fun ag z => f_X5_begin_2_s ag v1 z.1 z.2) n) v1 v2 M = some M9 := h
    have hag2 := ih
    generalize fz_lp (fun ag z => f_X5_begin_2_s ag v1 z.1 z.2) n = ag2 at h hag2
    refine lv_iload_n C.1 C.2.1 dX5_begin_2 rfl (lv_at hl 2 rfl) ?_
    refine lv_bipush (v := 6) C.1 C.2.1 dX5_begin_3 (by decide) ?_
    refine lv_icmp_ge (tgt := 30) C.1 C.2.1 dX5_begin_5 (by decide) (fun c1 => ?_) (fun c1 => ?_)
    · have h := fz_ip c1 h
      cases h
      exact fz_retv C hr hlk hT dX5_begin_30
    · have h := fz_iq c1 h
      refine lv_aload_n C.1 C.2.1 dX5_begin_8 rfl (lv_at hl 0 rfl) ?_
      refine fz_getd C hF hT fz_c15 (j := 0) rfl fl_X5_9 dX5_begin_9 ?_
      obtain ⟨y2, ey2, h⟩ := fz_bd_s h
      rw [← ey2]
      obtain ⟨g3, h⟩ := fz_gd_s h
      refine lv_iload_n C.1 C.2.1 dX5_begin_12 rfl (lv_at hl 2 rfl) ?_
      refine lv_iload_n C.1 C.2.1 dX5_begin_13 rfl (lv_at hl 2 rfl) ?_
      refine lv_iload_n C.1 C.2.1 dX5_begin_14 rfl (lv_at hl 1 rfl) ?_
      refine lv_icmp_ne (tgt := 22) C.1 C.2.1 dX5_begin_15 (by decide) (fun c4 => ?_) (fun c4 => ?_)
      · have h := fz_ip c4 h
        refine lv_lconst (v := 0) C.1 C.2.1 dX5_begin_22 (by decide) ?_
        exact b_X5_begin_23 g3 C hr hlk hF hag2 hT (lv_sub hl [0, 1, 2] rfl) h
      · have h := fz_iq (not_not_intro c4) h
        refine lv_lconst (v := 1) C.1 C.2.1 dX5_begin_18 (by decide) ?_
        refine lv_goto (tgt := 23) C.1 C.2.1 dX5_begin_19 (by decide) ?_
        exact b_X5_begin_23 g3 C hr hlk hF hag2 hT (lv_sub hl [0, 1, 2] rfl) h
set_option maxHeartbeats 4000000 in
set_option maxRecDepth 100000 in
theorem b_X5_begin_2 {p : Program} {l : Launch} {e : Env} {s : State} {m : MethodId} {args : Array Value} {below : List Frame} {meth : Method} {c : Code} {G : fz_G}     {v1 : Int32} {v2 : Int32} {M : fz_M} {H : Heap} {locs : List Loc} {ls : Array Slot} {M9 : fz_M} (C : CallFix p m c cX5_begin 3 s args wsL_law RX5) (hr : meth.sig.returnType = none) (hlk : meth.locks = false) (hF : fz_F G fz_KC s)  (hT : fz_T G fz_shC fz_KC s M H locs) (hl : lv_has ls 3 [(0, .ref (G.1 15)), (1, .int v1), (2, .int v2)]) (h : f_X5_begin_2 v1 v2 M = some M9) : W p l e (fz_rm 0 0) s m args below meth c H locs 0 0 (MQ below (fz_Qv G fz_shC fz_KC M9) args s 0 0 (fz_Fr G fz_KC)) (F0 m 2 ls []) :=
  b_X5_begin_2_l C hr hlk hF fz_fuel v2 M H locs ls hT hl h
set_option maxHeartbeats 4000000 in
set_option maxRecDepth 100000 in
theorem b_X5_begin_0 {p : Program} {l : Launch} {e : Env} {s : State} {m : MethodId} {args : Array Value} {below : List Frame} {meth : Method} {c : Code} {G : fz_G}     {v1 : Int32} {M : fz_M} {H : Heap} {locs : List Loc} {ls : Array Slot} {M9 : fz_M} (C : CallFix p m c cX5_begin 3 s args wsL_law RX5) (hr : meth.sig.returnType = none) (hlk : meth.locks = false) (hF : fz_F G fz_KC s)  (hT : fz_T G fz_shC fz_KC s M H locs) (hl : lv_has ls 3 [(0, .ref (G.1 15)), (1, .int v1)]) (h : f_X5_begin v1 M = some M9) : W p l e (fz_rm 0 0) s m args below meth c H locs 0 0 (MQ below (fz_Qv G fz_shC fz_KC M9) args s 0 0 (fz_Fr G fz_KC)) (F0 m 0 ls []) := by
  refine lv_iconst (v := 0) C.1 C.2.1 dX5_begin_0 (by decide) ?_
  refine lv_istore_n (lv' := [(2, .int 0), (0, .ref (G.1 15)), (1, .int v1)]) C.1 C.2.1 dX5_begin_1 rfl hl (by decide) rfl (fun ls hl => ?_)
  exact b_X5_begin_2 C hr hlk hF hT (lv_sub hl [1, 2, 0] rfl) h
set_option maxRecDepth 100000 in
theorem c_X5_begin (l : Launch) (G : fz_G)  (a0 : Int32) (M : fz_M) (M9 : fz_M) (h : f_X5_begin a0 M = some M9) : fz_Me l yX5_begin cX5_begin 3 none 0 0 G fz_shC fz_KC [.ref (G.1 15), .int a0] M (fz_Qv G fz_shC fz_KC M9) := by
  refine fz_body (by decide) (Nat.le_of_ble_eq_true rfl) ?_
  intro p e s m args below meth c H locs ls C hr hlk hF hT hl
  have C : CallFix p m c cX5_begin 3 s args wsL_law RX5 := C
  have hl : lv_has ls 3 [(0, .ref (G.1 15)), (1, .int a0)] := hl
  exact b_X5_begin_0 C hr hlk hF hT (lv_sub hl [0, 1] rfl) h
set_option maxHeartbeats 4000000 in
set_option maxRecDepth 100000 in
theorem b_X5_move_0 {p : Program} {l : Launch} {e : Env} {s : State} {m : MethodId} {args : Array Value} {below : List Frame} {meth : Method} {c : Code} {G : fz_G}     {v1 : Int32} {v2 : Int32} {v3 : Int32} {M : fz_M} {H : Heap} {locs : List Loc} {ls : Array Slot} {M9 : fz_M} (C : CallFix p m c cX5_move 4 s args wsL_law RX5) (hr : meth.sig.returnType = none) (hlk : meth.locks = false) (hF : fz_F G fz_KC s)  (hT : fz_T G fz_shC fz_KC s M H locs) (hl : lv_has ls 4 [(0, .ref (G.1 15)), (1, .int v1), (2, .int v2), (3, .int v3)]) (h : f_X5_move v1 v2 v3 M = some M9) : W p l e (fz_rm 0 0) s m args below meth c H locs 0 0 (MQ below (fz_Qv G fz_shC fz_KC M9) args s 0 0 (fz_Fr G fz_KC)) (F0 m 0 ls []) := by
  refine lv_aload_n C.1 C.2.1 dX5_move_0 rfl (lv_at hl 0 rfl) ?_
  refine fz_getd C hF hT fz_c15 (j := 1) rfl fl_X5_15 dX5_move_1 ?_
  obtain ⟨y1, ey1, h⟩ := fz_bd_s h
  rw [← ey1]
  obtain ⟨g2, h⟩ := fz_gd_s h
  refine lv_iload_n C.1 C.2.1 dX5_move_4 rfl (lv_at hl 1 rfl) ?_
  refine lv_dup2_11 C.1 C.2.1 dX5_move_5 rfl rfl ?_
  obtain ⟨g3, h⟩ := fz_gd_s h
  refine fz_la C hF hT (fz_lg g2) g3 dX5_move_6 ?_
  refine lv_iload_n C.1 C.2.1 dX5_move_7 rfl (lv_at hl 3 rfl) ?_
  refine lv_i2l (v := (v3.toInt64)) C.1 C.2.1 dX5_move_8 rfl ?_
  refine lv_aload_n C.1 C.2.1 dX5_move_9 rfl (lv_at hl 0 rfl) ?_
  refine fz_getd C hF hT fz_c15 (j := 0) rfl fl_X5_9 dX5_move_10 ?_
  obtain ⟨y4, ey4, h⟩ := fz_bd_s h
  rw [← ey4]
  obtain ⟨g5, h⟩ := fz_gd_s h
  refine lv_iload_n C.1 C.2.1 dX5_move_13 rfl (lv_at hl 1 rfl) ?_
  obtain ⟨g6, h⟩ := fz_gd_s h
  refine fz_la C hF hT (fz_lg g5) g6 dX5_move_14 ?_
  refine lv_lmul C.1 C.2.1 dX5_move_15 ?_
  refine lv_lsub C.1 C.2.1 dX5_move_16 ?_
  obtain ⟨g7, h⟩ := fz_gd_s h
  obtain ⟨M8, eM8, h⟩ := fz_bd_s h
  refine fz_las C hF hT (fz_lg g2) g7 dX5_move_17 (fun H locs hT => ?_)
  rw [← eM8] at hT
  refine lv_aload_n C.1 C.2.1 dX5_move_18 rfl (lv_at hl 0 rfl) ?_
  refine fz_getd C hF hT fz_c15 (j := 1) rfl fl_X5_15 dX5_move_19 ?_
  obtain ⟨y9, ey9, h⟩ := fz_bd_s h
  rw [← ey9]
  obtain ⟨g10, h⟩ := fz_gd_s h
  refine lv_iload_n C.1 C.2.1 dX5_move_22 rfl (lv_at hl 2 rfl) ?_
  refine lv_dup2_11 C.1 C.2.1 dX5_move_23 rfl rfl ?_
  obtain ⟨g11, h⟩ := fz_gd_s h
  refine fz_la C hF hT (fz_lg g10) g11 dX5_move_24 ?_
  refine lv_iload_n C.1 C.2.1 dX5_move_25 rfl (lv_at hl 3 rfl) ?_
  refine lv_i2l (v := (v3.toInt64)) C.1 C.2.1 dX5_move_26 rfl ?_
  refine lv_aload_n C.1 C.2.1 dX5_move_27 rfl (lv_at hl 0 rfl) ?_
  refine fz_getd C hF hT fz_c15 (j := 0) rfl fl_X5_9 dX5_move_28 ?_
  obtain ⟨y12, ey12, h⟩ := fz_bd_s h
  rw [← ey12]
  obtain ⟨g13, h⟩ := fz_gd_s h
  refine lv_iload_n C.1 C.2.1 dX5_move_31 rfl (lv_at hl 1 rfl) ?_
  obtain ⟨g14, h⟩ := fz_gd_s h
  refine fz_la C hF hT (fz_lg g13) g14 dX5_move_32 ?_
  refine lv_lmul C.1 C.2.1 dX5_move_33 ?_
  refine lv_ladd C.1 C.2.1 dX5_move_34 ?_
  obtain ⟨g15, h⟩ := fz_gd_s h
  obtain ⟨M16, eM16, h⟩ := fz_bd_s h
  refine fz_las C hF hT (fz_lg g10) g15 dX5_move_35 (fun H locs hT => ?_)
  rw [← eM16] at hT
  cases h
  exact fz_retv C hr hlk hT dX5_move_36
set_option maxRecDepth 100000 in
theorem c_X5_move (l : Launch) (G : fz_G)  (a0 : Int32) (a1 : Int32) (a2 : Int32) (M : fz_M) (M9 : fz_M) (h : f_X5_move a0 a1 a2 M = some M9) : fz_Me l yX5_move cX5_move 4 none 0 0 G fz_shC fz_KC [.ref (G.1 15), .int a0, .int a1, .int a2] M (fz_Qv G fz_shC fz_KC M9) := by
  refine fz_body (by decide) (Nat.le_of_ble_eq_true rfl) ?_
  intro p e s m args below meth c H locs ls C hr hlk hF hT hl
  have C : CallFix p m c cX5_move 4 s args wsL_law RX5 := C
  have hl : lv_has ls 4 [(0, .ref (G.1 15)), (1, .int a0), (2, .int a1), (3, .int a2)] := hl
  exact b_X5_move_0 C hr hlk hF hT (lv_sub hl [0, 1, 2, 3] rfl) h
set_option maxHeartbeats 4000000 in
set_option maxRecDepth 100000 in
theorem b_X5_turn_0 {p : Program} {l : Launch} {e : Env} {s : State} {m : MethodId} {args : Array Value} {below : List Frame} {meth : Method} {c : Code} {G : fz_G}      {M : fz_M} {H : Heap} {locs : List Loc} {ls : Array Slot} {M9 : fz_M} (C : CallFix p m c cX5_turn 2 s args wsL_law RX5) (hr : meth.sig.returnType = none) (hlk : meth.locks = false) (hF : fz_F G fz_KC s)  (hT : fz_T G fz_shC fz_KC s M H locs) (hl : lv_has ls 2 [(0, .ref (G.1 15))]) (h : f_X5_turn M = some M9) : W p l e (fz_rm 0 0) s m args below meth c H locs 0 0 (MQ below (fz_Qv G fz_shC fz_KC M9) args s 0 0 (fz_Fr G fz_KC)) (F0 m 0 ls []) := by
  refine lv_aload_n C.1 C.2.1 dX5_turn_0 rfl (lv_at hl 0 rfl) ?_
  refine fz_getd C hF hT fz_c15 (j := 0) rfl fl_X5_9 dX5_turn_1 ?_
  obtain ⟨y1, ey1, h⟩ := fz_bd_s h
  rw [← ey1]
  obtain ⟨g2, h⟩ := fz_gd_s h
  refine lv_astore_n (lv' := [(1, .ref (G.1 y1)), (0, .ref (G.1 15))]) C.1 C.2.1 dX5_turn_4 rfl hl (by decide) rfl (fun ls hl => ?_)
  refine lv_aload_n C.1 C.2.1 dX5_turn_5 rfl (lv_at hl 1 rfl) ?_
  refine lv_aload_n C.1 C.2.1 dX5_turn_6 rfl (lv_at hl 1 rfl) ?_
  refine fz_getd C hF hT fz_c15 (j := 1) rfl fl_X5_15 dX5_turn_7 ?_
  obtain ⟨y3, ey3, h⟩ := fz_bd_s h
  rw [← ey3]
  obtain ⟨g4, h⟩ := fz_gd_s h
  obtain ⟨M5, eM5, h⟩ := fz_bd_s h
  refine fz_putd C hF hT fz_c15 (j := 0) rfl fw_X5_9 rfl rfl dX5_turn_10 (fun H locs hT => ?_)
  rw [← eM5] at hT
  refine lv_aload_n C.1 C.2.1 dX5_turn_13 rfl (lv_at hl 1 rfl) ?_
  refine lv_aload_n C.1 C.2.1 dX5_turn_14 rfl (lv_at hl 0 rfl) ?_
  obtain ⟨M6, eM6, h⟩ := fz_bd_s h
  refine fz_putd C hF hT fz_c15 (j := 1) rfl fw_X5_15 rfl rfl dX5_turn_15 (fun H locs hT => ?_)
  rw [← eM6] at hT
  cases h
  exact fz_retv C hr hlk hT dX5_turn_18
set_option maxRecDepth 100000 in
theorem c_X5_turn (l : Launch) (G : fz_G)   (M : fz_M) (M9 : fz_M) (h : f_X5_turn M = some M9) : fz_Me l yX5_turn cX5_turn 2 none 0 0 G fz_shC fz_KC [.ref (G.1 15)] M (fz_Qv G fz_shC fz_KC M9) := by
  refine fz_body (by decide) (Nat.le_of_ble_eq_true rfl) ?_
  intro p e s m args below meth c H locs ls C hr hlk hF hT hl
  have C : CallFix p m c cX5_turn 2 s args wsL_law RX5 := C
  have hl : lv_has ls 2 [(0, .ref (G.1 15))] := hl
  exact b_X5_turn_0 C hr hlk hF hT (lv_sub hl [0] rfl) h
set_option maxHeartbeats 4000000 in
set_option maxRecDepth 100000 in
theorem b_X5_drawHour_37_l {p : Program} {l : Launch} {e : Env} {s : State} {m : MethodId} {args : Array Value} {below : List Frame} {meth : Method} {c : Code} {G : fz_G} {k0 : Nat} (hk0 : fz_isP k0 = true) {k1 : Nat} (hk1 : fz_ar fz_shC fz_KC k1 1 10 0 0)    {v3 : Int32} {v4 : Int32}  {M9 : fz_M} (C : CallFix p m c cX5_drawHour 7 s args wsL_law RX5) (hr : meth.sig.returnType = none) (hlk : meth.locks = false) (hF : fz_F G fz_KC s)  : ∀ (n : Nat) (v5 : Int32) (M : fz_M) (H : Heap) (locs : List Loc) (ls : Array Slot), fz_T G fz_shC fz_KC s M H locs → lv_has ls 7 [(0, .ref (G.1 15)), (1, .ref (G.1 k0)), (2, .ref (G.1 k1)), (3, .int v3), (4, .int v4), (5, .int v5)] → fz_lp (fun ag z => f_X5_drawHour_37_s k0 k1 ag v3 v4 z.1 z.2) n (v5, M) = some M9 → W p l e (fz_rm 2 43) s m args below meth c H locs 0 0 (MQ below (fz_Qv G fz_shC fz_KC M9) args s 0 0 (fz_Fr G fz_KC)) (F0 m 37 ls []) := by
  intro n
  induction n with
  | zero =>
    intro v5 M H locs ls hT hl h
    cases h
  | succ n ih =>
    intro v5 M H locs ls hT hl h
    have h : f_X5_drawHour_37_s k0 k1 (fz_lp (fun ag z => f_X5_drawHour_37_s k0 k1 ag v3 v4 z.1 z.2) n) v3 v4 v5 M = some M9 := h
    have hag37 := ih
    generalize fz_lp (fun ag z => f_X5_drawHour_37_s k0 k1 ag v3 v4 z.1 z.2) n = ag37 at h hag37
    refine lv_iload C.1 C.2.1 dX5_drawHour_37 (lv_at hl 5 rfl) ?_
    refine lv_aload_n C.1 C.2.1 dX5_drawHour_39 rfl (lv_at hl 1 rfl) ?_
    refine fz_geti C hF hT (fz_pl hk0) (j := 1) rfl fl_X5_20 dX5_drawHour_40 ?_
    refine lv_icmp_ge (tgt := 100) C.1 C.2.1 dX5_drawHour_43 (by decide) (fun c1 => ?_) (fun c1 => ?_)
    · have h := fz_ip c1 h
      refine lv_aload_n C.1 C.2.1 dX5_drawHour_100 rfl (lv_at hl 0 rfl) ?_
      obtain ⟨M3, w4, h⟩ := fz_b1_s h
      refine fz_cv hT (fz_runV (np := 0) (rest := []) C hF hT (c_X5_turn l G M M3 w4) fz_c15 (T := TX5) (N := 2) rfl cl_X5_44 rfl hl.1 rfl (Nat.le_of_ble_eq_true rfl) ⟨Nat.le_of_ble_eq_true rfl, Nat.le_of_ble_eq_true rfl, Nat.zero_le _, Nat.zero_le _⟩ dX5_drawHour_101) (fun H locs hT => ?_)
      cases h
      exact fz_retv C hr hlk hT dX5_drawHour_104
    · have h := fz_iq c1 h
      refine lv_aload_n C.1 C.2.1 dX5_drawHour_46 rfl (lv_at hl 1 rfl) ?_
      refine fz_getr C hF hT (fz_pl hk0) (j := 5) rfl fl_X5_26 dX5_drawHour_47 ?_
      refine lv_iload C.1 C.2.1 dX5_drawHour_50 (lv_at hl 5 rfl) ?_
      obtain ⟨g5, h⟩ := fz_gd_s h
      refine fz_ia C hF hT (fz_pl3 hk0) g5 dX5_drawHour_52 ?_
      obtain ⟨x6, ex6, h⟩ := fz_bd_s h
      refine fz_nmi ex6 ?_
      refine lv_istore (lv' := [(6, .int x6), (0, .ref (G.1 15)), (1, .ref (G.1 k0)), (2, .ref (G.1 k1)), (3, .int v3), (4, .int v4), (5, .int v5)]) C.1 C.2.1 dX5_drawHour_53 hl (by decide) rfl (fun ls hl => ?_)
      refine lv_aload_n C.1 C.2.1 dX5_drawHour_55 rfl (lv_at hl 3 rfl) ?_
      refine lv_iload C.1 C.2.1 dX5_drawHour_56 (lv_at hl 6 rfl) ?_
      obtain ⟨g7, h⟩ := fz_gd_s h
      refine fz_za C hF hT hk1 g7 dX5_drawHour_58 ?_
      refine lv_if_ne (tgt := 94) C.1 C.2.1 dX5_drawHour_59 (by decide) (fun c8 => ?_) (fun c8 => ?_)
      · have h := fz_ip c8 h
        refine lv_iinc (v := (v5 + 1)) (lv' := [(5, .int (v5 + 1)), (6, .int x6), (0, .ref (G.1 15)), (1, .ref (G.1 k0)), (2, .ref (G.1 k1)), (3, .int v3), (4, .int v4)]) C.1 C.2.1 dX5_drawHour_94 hl (k := 6) rfl rfl (by decide) rfl (fun ls hl => ?_)
        refine lv_goto (tgt := 37) C.1 C.2.1 dX5_drawHour_97 (by decide) ?_
        exact hag37 (v5 + 1) M _ _ _ hT (lv_sub hl [2, 3, 4, 5, 6, 0] rfl) h
      · have h := fz_iq (not_not_intro c8) h
        refine lv_aload_n C.1 C.2.1 dX5_drawHour_62 rfl (lv_at hl 2 rfl) ?_
        refine lv_iload C.1 C.2.1 dX5_drawHour_63 (lv_at hl 0 rfl) ?_
        refine lv_iload C.1 C.2.1 dX5_drawHour_65 (lv_at hl 5 rfl) ?_
        obtain ⟨r9, w11, h⟩ := fz_b1_s h
        refine fz_ci hT (fz_runV (np := 2) (rest := []) C hF hT (c_X3_waterIn l G k0 hk0 x6 v4 M r9 w11) (fz_pl hk0) (T := TX3) (N := 12) rfl cl_X5_30 rfl hl.1 rfl (Nat.le_of_ble_eq_true rfl) ⟨Nat.le_of_ble_eq_true rfl, Nat.le_of_ble_eq_true rfl, Nat.zero_le _, Nat.zero_le _⟩ dX5_drawHour_67) (fun H locs hT => ?_)
        refine lv_iload_n C.1 C.2.1 dX5_drawHour_70 rfl (lv_at hl 4 rfl) ?_
        refine lv_icmp_lt (tgt := 94) C.1 C.2.1 dX5_drawHour_71 (by decide) (fun c12 => ?_) (fun c12 => ?_)
        · have h := fz_ip c12 h
          refine lv_iinc (v := (v5 + 1)) (lv' := [(5, .int (v5 + 1)), (6, .int x6), (0, .ref (G.1 15)), (1, .ref (G.1 k0)), (2, .ref (G.1 k1)), (3, .int v3), (4, .int v4)]) C.1 C.2.1 dX5_drawHour_94 hl (k := 6) rfl rfl (by decide) rfl (fun ls hl => ?_)
          refine lv_goto (tgt := 37) C.1 C.2.1 dX5_drawHour_97 (by decide) ?_
          exact hag37 (v5 + 1) M _ _ _ hT (lv_sub hl [2, 3, 4, 5, 6, 0] rfl) h
        · have h := fz_iq c12 h
          refine lv_aload_n C.1 C.2.1 dX5_drawHour_74 rfl (lv_at hl 1 rfl) ?_
          refine lv_iload C.1 C.2.1 dX5_drawHour_75 (lv_at hl 0 rfl) ?_
          refine lv_aload_n C.1 C.2.1 dX5_drawHour_77 rfl (lv_at hl 2 rfl) ?_
          refine fz_getr C hF hT (fz_pl hk0) (j := 6) rfl fl_X5_34 dX5_drawHour_78 ?_
          refine lv_iload C.1 C.2.1 dX5_drawHour_81 (lv_at hl 6 rfl) ?_
          obtain ⟨g13, h⟩ := fz_gd_s h
          refine fz_ia C hF hT (fz_pl4 hk0) g13 dX5_drawHour_83 ?_
          refine lv_aload_n C.1 C.2.1 dX5_drawHour_84 rfl (lv_at hl 2 rfl) ?_
          refine fz_getr C hF hT (fz_pl hk0) (j := 7) rfl fl_X5_37 dX5_drawHour_85 ?_
          refine lv_iload C.1 C.2.1 dX5_drawHour_88 (lv_at hl 6 rfl) ?_
          obtain ⟨g14, h⟩ := fz_gd_s h
          refine fz_ia C hF hT (fz_pl5 hk0) g14 dX5_drawHour_90 ?_
          obtain ⟨M16, w17, h⟩ := fz_b1_s h
          refine fz_cv hT (fz_runV (np := 3) (rest := []) C hF hT (c_X5_move l G x6 (fz_g M (k0 + 4) v5) (fz_g M (k0 + 5) v5) M M16 w17) fz_c15 (T := TX5) (N := 2) rfl cl_X5_40 rfl hl.1 rfl (Nat.le_of_ble_eq_true rfl) ⟨Nat.le_of_ble_eq_true rfl, Nat.le_of_ble_eq_true rfl, Nat.zero_le _, Nat.zero_le _⟩ dX5_drawHour_91) (fun H locs hT => ?_)
          refine lv_iinc (v := (v5 + 1)) (lv' := [(5, .int (v5 + 1)), (6, .int x6), (0, .ref (G.1 15)), (1, .ref (G.1 k0)), (2, .ref (G.1 k1)), (3, .int v3), (4, .int v4)]) C.1 C.2.1 dX5_drawHour_94 hl (k := 6) rfl rfl (by decide) rfl (fun ls hl => ?_)
          refine lv_goto (tgt := 37) C.1 C.2.1 dX5_drawHour_97 (by decide) ?_
          exact hag37 (v5 + 1) M16 _ _ _ hT (lv_sub hl [2, 3, 4, 5, 6, 0] rfl) h
set_option maxHeartbeats 4000000 in
set_option maxRecDepth 100000 in
theorem b_X5_drawHour_37 {p : Program} {l : Launch} {e : Env} {s : State} {m : MethodId} {args : Array Value} {below : List Frame} {meth : Method} {c : Code} {G : fz_G} {k0 : Nat} (hk0 : fz_isP k0 = true) {k1 : Nat} (hk1 : fz_ar fz_shC fz_KC k1 1 10 0 0)    {v3 : Int32} {v4 : Int32} {v5 : Int32} {M : fz_M} {H : Heap} {locs : List Loc} {ls : Array Slot} {M9 : fz_M} (C : CallFix p m c cX5_drawHour 7 s args wsL_law RX5) (hr : meth.sig.returnType = none) (hlk : meth.locks = false) (hF : fz_F G fz_KC s)  (hT : fz_T G fz_shC fz_KC s M H locs) (hl : lv_has ls 7 [(0, .ref (G.1 15)), (1, .ref (G.1 k0)), (2, .ref (G.1 k1)), (3, .int v3), (4, .int v4), (5, .int v5)]) (h : f_X5_drawHour_37 k0 k1 v3 v4 v5 M = some M9) : W p l e (fz_rm 2 43) s m args below meth c H locs 0 0 (MQ below (fz_Qv G fz_shC fz_KC M9) args s 0 0 (fz_Fr G fz_KC)) (F0 m 37 ls []) :=
  b_X5_drawHour_37_l hk0 hk1 C hr hlk hF fz_fuel v5 M H locs ls hT hl h
set_option maxHeartbeats 4000000 in
set_option maxRecDepth 100000 in
theorem b_X5_drawHour_3_l {p : Program} {l : Launch} {e : Env} {s : State} {m : MethodId} {args : Array Value} {below : List Frame} {meth : Method} {c : Code} {G : fz_G} {k0 : Nat} (hk0 : fz_isP k0 = true) {k1 : Nat} (hk1 : fz_ar fz_shC fz_KC k1 1 10 0 0)    {v3 : Int32} {v4 : Int32}  {M9 : fz_M} (C : CallFix p m c cX5_drawHour 7 s args wsL_law RX5) (hr : meth.sig.returnType = none) (hlk : meth.locks = false) (hF : fz_F G fz_KC s)  : ∀ (n : Nat) (v5 : Int32) (M : fz_M) (H : Heap) (locs : List Loc) (ls : Array Slot), fz_T G fz_shC fz_KC s M H locs → lv_has ls 7 [(0, .ref (G.1 15)), (1, .ref (G.1 k0)), (2, .ref (G.1 k1)), (3, .int v3), (4, .int v4), (5, .int v5)] → fz_lp (fun ag z => f_X5_drawHour_3_s k0 k1 ag v3 v4 z.1 z.2) n (v5, M) = some M9 → W p l e (fz_rm 2 43) s m args below meth c H locs 0 0 (MQ below (fz_Qv G fz_shC fz_KC M9) args s 0 0 (fz_Fr G fz_KC)) (F0 m 3 ls []) := by
  intro n
  induction n with
  | zero =>
    intro v5 M H locs ls hT hl h
    cases h
  | succ n ih =>
    intro v5 M H locs ls hT hl h
    have h : f_X5_drawHour_3_s k0 k1 (fz_lp (fun ag z => f_X5_drawHour_3_s k0 k1 ag v3 v4 z.1 z.2) n) v3 v4 v5 M = some M9 := h
    have hag3 := ih
    generalize fz_lp (fun ag z => f_X5_drawHour_3_s k0 k1 ag v3 v4 z.1 z.2) n = ag3 at h hag3
    refine lv_iload C.1 C.2.1 dX5_drawHour_3 (lv_at hl 5 rfl) ?_
    refine lv_bipush (v := 6) C.1 C.2.1 dX5_drawHour_5 (by decide) ?_
    refine lv_icmp_ge (tgt := 34) C.1 C.2.1 dX5_drawHour_7 (by decide) (fun c1 => ?_) (fun c1 => ?_)
    · have h := fz_ip c1 h
      refine lv_iconst (v := 0) C.1 C.2.1 dX5_drawHour_34 (by decide) ?_
      refine lv_istore (lv' := [(5, .int 0), (0, .ref (G.1 15)), (1, .ref (G.1 k0)), (2, .ref (G.1 k1)), (3, .int v3), (4, .int v4)]) C.1 C.2.1 dX5_drawHour_35 hl (by decide) rfl (fun ls hl => ?_)
      exact b_X5_drawHour_37 hk0 hk1 C hr hlk hF hT (lv_sub hl [1, 2, 3, 4, 5, 0] rfl) h
    · have h := fz_iq c1 h
      refine lv_aload_n C.1 C.2.1 dX5_drawHour_10 rfl (lv_at hl 0 rfl) ?_
      refine fz_getd C hF hT fz_c15 (j := 1) rfl fl_X5_15 dX5_drawHour_11 ?_
      obtain ⟨y2, ey2, h⟩ := fz_bd_s h
      rw [← ey2]
      obtain ⟨g3, h⟩ := fz_gd_s h
      refine lv_iload C.1 C.2.1 dX5_drawHour_14 (lv_at hl 5 rfl) ?_
      refine lv_ldc2 (v := 10) C.1 C.2.1 C.2.2.2.1 (C.2.2.2.2 _ (fz_q29 _ (List.mem_of_getElem? (i := 12) rfl))) dX5_drawHour_16 ?_
      refine lv_aload_n C.1 C.2.1 dX5_drawHour_19 rfl (lv_at hl 0 rfl) ?_
      refine fz_getd C hF hT fz_c15 (j := 0) rfl fl_X5_9 dX5_drawHour_20 ?_
      obtain ⟨y4, ey4, h⟩ := fz_bd_s h
      rw [← ey4]
      obtain ⟨g5, h⟩ := fz_gd_s h
      refine lv_iload C.1 C.2.1 dX5_drawHour_23 (lv_at hl 5 rfl) ?_
      obtain ⟨g6, h⟩ := fz_gd_s h
      refine fz_la C hF hT (fz_lg g5) g6 dX5_drawHour_25 ?_
      refine lv_lmul C.1 C.2.1 dX5_drawHour_26 ?_
      obtain ⟨g7, h⟩ := fz_gd_s h
      obtain ⟨M8, eM8, h⟩ := fz_bd_s h
      refine fz_las C hF hT (fz_lg g3) g7 dX5_drawHour_27 (fun H locs hT => ?_)
      rw [← eM8] at hT
      refine lv_iinc (v := (v5 + 1)) (lv' := [(5, .int (v5 + 1)), (0, .ref (G.1 15)), (1, .ref (G.1 k0)), (2, .ref (G.1 k1)), (3, .int v3), (4, .int v4)]) C.1 C.2.1 dX5_drawHour_28 hl (k := 5) rfl rfl (by decide) rfl (fun ls hl => ?_)
      refine lv_goto (tgt := 3) C.1 C.2.1 dX5_drawHour_31 (by decide) ?_
      exact hag3 (v5 + 1) M8 _ _ _ hT (lv_sub hl [1, 2, 3, 4, 5, 0] rfl) h
set_option maxHeartbeats 4000000 in
set_option maxRecDepth 100000 in
theorem b_X5_drawHour_3 {p : Program} {l : Launch} {e : Env} {s : State} {m : MethodId} {args : Array Value} {below : List Frame} {meth : Method} {c : Code} {G : fz_G} {k0 : Nat} (hk0 : fz_isP k0 = true) {k1 : Nat} (hk1 : fz_ar fz_shC fz_KC k1 1 10 0 0)    {v3 : Int32} {v4 : Int32} {v5 : Int32} {M : fz_M} {H : Heap} {locs : List Loc} {ls : Array Slot} {M9 : fz_M} (C : CallFix p m c cX5_drawHour 7 s args wsL_law RX5) (hr : meth.sig.returnType = none) (hlk : meth.locks = false) (hF : fz_F G fz_KC s)  (hT : fz_T G fz_shC fz_KC s M H locs) (hl : lv_has ls 7 [(0, .ref (G.1 15)), (1, .ref (G.1 k0)), (2, .ref (G.1 k1)), (3, .int v3), (4, .int v4), (5, .int v5)]) (h : f_X5_drawHour_3 k0 k1 v3 v4 v5 M = some M9) : W p l e (fz_rm 2 43) s m args below meth c H locs 0 0 (MQ below (fz_Qv G fz_shC fz_KC M9) args s 0 0 (fz_Fr G fz_KC)) (F0 m 3 ls []) :=
  b_X5_drawHour_3_l hk0 hk1 C hr hlk hF fz_fuel v5 M H locs ls hT hl h
set_option maxHeartbeats 4000000 in
set_option maxRecDepth 100000 in
theorem b_X5_drawHour_0 {p : Program} {l : Launch} {e : Env} {s : State} {m : MethodId} {args : Array Value} {below : List Frame} {meth : Method} {c : Code} {G : fz_G} {k0 : Nat} (hk0 : fz_isP k0 = true) {k1 : Nat} (hk1 : fz_ar fz_shC fz_KC k1 1 10 0 0)    {v3 : Int32} {v4 : Int32} {M : fz_M} {H : Heap} {locs : List Loc} {ls : Array Slot} {M9 : fz_M} (C : CallFix p m c cX5_drawHour 7 s args wsL_law RX5) (hr : meth.sig.returnType = none) (hlk : meth.locks = false) (hF : fz_F G fz_KC s)  (hT : fz_T G fz_shC fz_KC s M H locs) (hl : lv_has ls 7 [(0, .ref (G.1 15)), (1, .ref (G.1 k0)), (2, .ref (G.1 k1)), (3, .int v3), (4, .int v4)]) (h : f_X5_drawHour k0 k1 v3 v4 M = some M9) : W p l e (fz_rm 2 43) s m args below meth c H locs 0 0 (MQ below (fz_Qv G fz_shC fz_KC M9) args s 0 0 (fz_Fr G fz_KC)) (F0 m 0 ls []) := by
  refine lv_iconst (v := 0) C.1 C.2.1 dX5_drawHour_0 (by decide) ?_
  refine lv_istore (lv' := [(5, .int 0), (0, .ref (G.1 15)), (1, .ref (G.1 k0)), (2, .ref (G.1 k1)), (3, .int v3), (4, .int v4)]) C.1 C.2.1 dX5_drawHour_1 hl (by decide) rfl (fun ls hl => ?_)
  exact b_X5_drawHour_3 hk0 hk1 C hr hlk hF hT (lv_sub hl [1, 2, 3, 4, 5, 0] rfl) h
set_option maxRecDepth 100000 in
theorem c_X5_drawHour (l : Launch) (G : fz_G) (k0 : Nat) (hk0 : fz_isP k0 = true) (k1 : Nat) (hk1 : fz_ar fz_shC fz_KC k1 1 10 0 0) (a2 : Int32) (a3 : Int32) (M : fz_M) (M9 : fz_M) (h : f_X5_drawHour k0 k1 a2 a3 M = some M9) : fz_Me l yX5_drawHour cX5_drawHour 7 none 2 43 G fz_shC fz_KC [.ref (G.1 15), .ref (G.1 k0), .ref (G.1 k1), .int a2, .int a3] M (fz_Qv G fz_shC fz_KC M9) := by
  refine fz_body (by decide) (Nat.le_of_ble_eq_true rfl) ?_
  intro p e s m args below meth c H locs ls C hr hlk hF hT hl
  have C : CallFix p m c cX5_drawHour 7 s args wsL_law RX5 := C
  have hl : lv_has ls 7 [(0, .ref (G.1 15)), (1, .ref (G.1 k0)), (2, .ref (G.1 k1)), (3, .int a2), (4, .int a3)] := hl
  exact b_X5_drawHour_0 hk0 hk1 C hr hlk hF hT (lv_sub hl [0, 1, 2, 3, 4] rfl) h
set_option maxHeartbeats 4000000 in
set_option maxRecDepth 100000 in
theorem b_X5_drawSpring_28_l {p : Program} {l : Launch} {e : Env} {s : State} {m : MethodId} {args : Array Value} {below : List Frame} {meth : Method} {c : Code} {G : fz_G} {k0 : Nat} (hk0 : fz_isP k0 = true)      {M9 : fz_M} (C : CallFix p m c cX5_drawSpring 3 s args wsL_law RX5) (hr : meth.sig.returnType = none) (hlk : meth.locks = false) (hF : fz_F G fz_KC s)  : ∀ (n : Nat) (v2 : Int32) (M : fz_M) (H : Heap) (locs : List Loc) (ls : Array Slot), fz_T G fz_shC fz_KC s M H locs → lv_has ls 3 [(0, .ref (G.1 15)), (1, .ref (G.1 k0)), (2, .int v2)] → fz_lp (fun ag z => f_X5_drawSpring_28_s k0 ag z.1 z.2) n (v2, M) = some M9 → W p l e (fz_rm 1 21) s m args below meth c H locs 0 0 (MQ below (fz_Qv G fz_shC fz_KC M9) args s 0 0 (fz_Fr G fz_KC)) (F0 m 28 ls []) := by
  intro n
  induction n with
  | zero =>
    intro v2 M H locs ls hT hl h
    cases h
  | succ n ih =>
    intro v2 M H locs ls hT hl h
    have h : f_X5_drawSpring_28_s k0 (fz_lp (fun ag z => f_X5_drawSpring_28_s k0 ag z.1 z.2) n) v2 M = some M9 := h
    have hag28 := ih
    generalize fz_lp (fun ag z => f_X5_drawSpring_28_s k0 ag z.1 z.2) n = ag28 at h hag28
    refine lv_iload_n C.1 C.2.1 dX5_drawSpring_28 rfl (lv_at hl 2 rfl) ?_
    refine lv_aload_n C.1 C.2.1 dX5_drawSpring_29 rfl (lv_at hl 1 rfl) ?_
    refine fz_geti C hF hT (fz_pl hk0) (j := 1) rfl fl_X5_20 dX5_drawSpring_30 ?_
    refine lv_icmp_ge (tgt := 67) C.1 C.2.1 dX5_drawSpring_33 (by decide) (fun c1 => ?_) (fun c1 => ?_)
    · have h := fz_ip c1 h
      refine lv_aload_n C.1 C.2.1 dX5_drawSpring_67 rfl (lv_at hl 0 rfl) ?_
      obtain ⟨M3, w4, h⟩ := fz_b1_s h
      refine fz_cv hT (fz_runV (np := 0) (rest := []) C hF hT (c_X5_turn l G M M3 w4) fz_c15 (T := TX5) (N := 2) rfl cl_X5_44 rfl hl.1 rfl (Nat.le_of_ble_eq_true rfl) ⟨Nat.le_of_ble_eq_true rfl, Nat.le_of_ble_eq_true rfl, Nat.zero_le _, Nat.zero_le _⟩ dX5_drawSpring_68) (fun H locs hT => ?_)
      cases h
      exact fz_retv C hr hlk hT dX5_drawSpring_71
    · have h := fz_iq c1 h
      refine lv_aload_n C.1 C.2.1 dX5_drawSpring_36 rfl (lv_at hl 0 rfl) ?_
      refine fz_getd C hF hT fz_c15 (j := 1) rfl fl_X5_15 dX5_drawSpring_37 ?_
      obtain ⟨y5, ey5, h⟩ := fz_bd_s h
      rw [← ey5]
      obtain ⟨g6, h⟩ := fz_gd_s h
      refine lv_aload_n C.1 C.2.1 dX5_drawSpring_40 rfl (lv_at hl 1 rfl) ?_
      refine fz_getr C hF hT (fz_pl hk0) (j := 6) rfl fl_X5_34 dX5_drawSpring_41 ?_
      refine lv_iload_n C.1 C.2.1 dX5_drawSpring_44 rfl (lv_at hl 2 rfl) ?_
      obtain ⟨g7, h⟩ := fz_gd_s h
      refine fz_ia C hF hT (fz_pl4 hk0) g7 dX5_drawSpring_45 ?_
      refine lv_dup2_11 C.1 C.2.1 dX5_drawSpring_46 rfl rfl ?_
      obtain ⟨g8, h⟩ := fz_gd_s h
      refine fz_la C hF hT (fz_lg g6) g8 dX5_drawSpring_47 ?_
      refine lv_aload_n C.1 C.2.1 dX5_drawSpring_48 rfl (lv_at hl 0 rfl) ?_
      refine fz_getd C hF hT fz_c15 (j := 0) rfl fl_X5_9 dX5_drawSpring_49 ?_
      obtain ⟨y9, ey9, h⟩ := fz_bd_s h
      rw [← ey9]
      obtain ⟨g10, h⟩ := fz_gd_s h
      refine lv_aload_n C.1 C.2.1 dX5_drawSpring_52 rfl (lv_at hl 1 rfl) ?_
      refine fz_getr C hF hT (fz_pl hk0) (j := 5) rfl fl_X5_26 dX5_drawSpring_53 ?_
      refine lv_iload_n C.1 C.2.1 dX5_drawSpring_56 rfl (lv_at hl 2 rfl) ?_
      obtain ⟨g11, h⟩ := fz_gd_s h
      refine fz_ia C hF hT (fz_pl3 hk0) g11 dX5_drawSpring_57 ?_
      obtain ⟨g12, h⟩ := fz_gd_s h
      refine fz_la C hF hT (fz_lg g10) g12 dX5_drawSpring_58 ?_
      refine lv_ladd C.1 C.2.1 dX5_drawSpring_59 ?_
      obtain ⟨g13, h⟩ := fz_gd_s h
      obtain ⟨M14, eM14, h⟩ := fz_bd_s h
      refine fz_las C hF hT (fz_lg g6) g13 dX5_drawSpring_60 (fun H locs hT => ?_)
      rw [← eM14] at hT
      refine lv_iinc (v := (v2 + 1)) (lv' := [(2, .int (v2 + 1)), (0, .ref (G.1 15)), (1, .ref (G.1 k0))]) C.1 C.2.1 dX5_drawSpring_61 hl (k := 2) rfl rfl (by decide) rfl (fun ls hl => ?_)
      refine lv_goto (tgt := 28) C.1 C.2.1 dX5_drawSpring_64 (by decide) ?_
      exact hag28 (v2 + 1) M14 _ _ _ hT (lv_sub hl [1, 2, 0] rfl) h
set_option maxHeartbeats 4000000 in
set_option maxRecDepth 100000 in
theorem b_X5_drawSpring_28 {p : Program} {l : Launch} {e : Env} {s : State} {m : MethodId} {args : Array Value} {below : List Frame} {meth : Method} {c : Code} {G : fz_G} {k0 : Nat} (hk0 : fz_isP k0 = true)    {v2 : Int32} {M : fz_M} {H : Heap} {locs : List Loc} {ls : Array Slot} {M9 : fz_M} (C : CallFix p m c cX5_drawSpring 3 s args wsL_law RX5) (hr : meth.sig.returnType = none) (hlk : meth.locks = false) (hF : fz_F G fz_KC s)  (hT : fz_T G fz_shC fz_KC s M H locs) (hl : lv_has ls 3 [(0, .ref (G.1 15)), (1, .ref (G.1 k0)), (2, .int v2)]) (h : f_X5_drawSpring_28 k0 v2 M = some M9) : W p l e (fz_rm 1 21) s m args below meth c H locs 0 0 (MQ below (fz_Qv G fz_shC fz_KC M9) args s 0 0 (fz_Fr G fz_KC)) (F0 m 28 ls []) :=
  b_X5_drawSpring_28_l hk0 C hr hlk hF fz_fuel v2 M H locs ls hT hl h
set_option maxHeartbeats 4000000 in
set_option maxRecDepth 100000 in
theorem b_X5_drawSpring_2_l {p : Program} {l : Launch} {e : Env} {s : State} {m : MethodId} {args : Array Value} {below : List Frame} {meth : Method} {c : Code} {G : fz_G} {k0 : Nat} (hk0 : fz_isP k0 = true)      {M9 : fz_M} (C : CallFix p m c cX5_drawSpring 3 s args wsL_law RX5) (hr : meth.sig.returnType = none) (hlk : meth.locks = false) (hF : fz_F G fz_KC s)  : ∀ (n : Nat) (v2 : Int32) (M : fz_M) (H : Heap) (locs : List Loc) (ls : Array Slot), fz_T G fz_shC fz_KC s M H locs → lv_has ls 3 [(0, .ref (G.1 15)), (1, .ref (G.1 k0)), (2, .int v2)] → fz_lp (fun ag z => f_X5_drawSpring_2_s k0 ag z.1 z.2) n (v2, M) = some M9 → W p l e (fz_rm 1 21) s m args below meth c H locs 0 0 (MQ below (fz_Qv G fz_shC fz_KC M9) args s 0 0 (fz_Fr G fz_KC)) (F0 m 2 ls []) := by
  intro n
  induction n with
  | zero =>
    intro v2 M H locs ls hT hl h
    cases h
  | succ n ih =>
    intro v2 M H locs ls hT hl h
    have h : f_X5_drawSpring_2_s k0 (fz_lp (fun ag z => f_X5_drawSpring_2_s k0 ag z.1 z.2) n) v2 M = some M9 := h
    have hag2 := ih
    generalize fz_lp (fun ag z => f_X5_drawSpring_2_s k0 ag z.1 z.2) n = ag2 at h hag2
    refine lv_iload_n C.1 C.2.1 dX5_drawSpring_2 rfl (lv_at hl 2 rfl) ?_
    refine lv_bipush (v := 6) C.1 C.2.1 dX5_drawSpring_3 (by decide) ?_
    refine lv_icmp_ge (tgt := 26) C.1 C.2.1 dX5_drawSpring_5 (by decide) (fun c1 => ?_) (fun c1 => ?_)
    · have h := fz_ip c1 h
      refine lv_iconst (v := 0) C.1 C.2.1 dX5_drawSpring_26 (by decide) ?_
      refine lv_istore_n (lv' := [(2, .int 0), (0, .ref (G.1 15)), (1, .ref (G.1 k0))]) C.1 C.2.1 dX5_drawSpring_27 rfl hl (by decide) rfl (fun ls hl => ?_)
      exact b_X5_drawSpring_28 hk0 C hr hlk hF hT (lv_sub hl [1, 2, 0] rfl) h
    · have h := fz_iq c1 h
      refine lv_aload_n C.1 C.2.1 dX5_drawSpring_8 rfl (lv_at hl 0 rfl) ?_
      refine fz_getd C hF hT fz_c15 (j := 1) rfl fl_X5_15 dX5_drawSpring_9 ?_
      obtain ⟨y2, ey2, h⟩ := fz_bd_s h
      rw [← ey2]
      obtain ⟨g3, h⟩ := fz_gd_s h
      refine lv_iload_n C.1 C.2.1 dX5_drawSpring_12 rfl (lv_at hl 2 rfl) ?_
      refine lv_aload_n C.1 C.2.1 dX5_drawSpring_13 rfl (lv_at hl 0 rfl) ?_
      refine fz_getd C hF hT fz_c15 (j := 0) rfl fl_X5_9 dX5_drawSpring_14 ?_
      obtain ⟨y4, ey4, h⟩ := fz_bd_s h
      rw [← ey4]
      obtain ⟨g5, h⟩ := fz_gd_s h
      refine lv_iload_n C.1 C.2.1 dX5_drawSpring_17 rfl (lv_at hl 2 rfl) ?_
      obtain ⟨g6, h⟩ := fz_gd_s h
      refine fz_la C hF hT (fz_lg g5) g6 dX5_drawSpring_18 ?_
      obtain ⟨g7, h⟩ := fz_gd_s h
      obtain ⟨M8, eM8, h⟩ := fz_bd_s h
      refine fz_las C hF hT (fz_lg g3) g7 dX5_drawSpring_19 (fun H locs hT => ?_)
      rw [← eM8] at hT
      refine lv_iinc (v := (v2 + 1)) (lv' := [(2, .int (v2 + 1)), (0, .ref (G.1 15)), (1, .ref (G.1 k0))]) C.1 C.2.1 dX5_drawSpring_20 hl (k := 2) rfl rfl (by decide) rfl (fun ls hl => ?_)
      refine lv_goto (tgt := 2) C.1 C.2.1 dX5_drawSpring_23 (by decide) ?_
      exact hag2 (v2 + 1) M8 _ _ _ hT (lv_sub hl [1, 2, 0] rfl) h
set_option maxHeartbeats 4000000 in
set_option maxRecDepth 100000 in
theorem b_X5_drawSpring_2 {p : Program} {l : Launch} {e : Env} {s : State} {m : MethodId} {args : Array Value} {below : List Frame} {meth : Method} {c : Code} {G : fz_G} {k0 : Nat} (hk0 : fz_isP k0 = true)    {v2 : Int32} {M : fz_M} {H : Heap} {locs : List Loc} {ls : Array Slot} {M9 : fz_M} (C : CallFix p m c cX5_drawSpring 3 s args wsL_law RX5) (hr : meth.sig.returnType = none) (hlk : meth.locks = false) (hF : fz_F G fz_KC s)  (hT : fz_T G fz_shC fz_KC s M H locs) (hl : lv_has ls 3 [(0, .ref (G.1 15)), (1, .ref (G.1 k0)), (2, .int v2)]) (h : f_X5_drawSpring_2 k0 v2 M = some M9) : W p l e (fz_rm 1 21) s m args below meth c H locs 0 0 (MQ below (fz_Qv G fz_shC fz_KC M9) args s 0 0 (fz_Fr G fz_KC)) (F0 m 2 ls []) :=
  b_X5_drawSpring_2_l hk0 C hr hlk hF fz_fuel v2 M H locs ls hT hl h
set_option maxHeartbeats 4000000 in
set_option maxRecDepth 100000 in
theorem b_X5_drawSpring_0 {p : Program} {l : Launch} {e : Env} {s : State} {m : MethodId} {args : Array Value} {below : List Frame} {meth : Method} {c : Code} {G : fz_G} {k0 : Nat} (hk0 : fz_isP k0 = true)     {M : fz_M} {H : Heap} {locs : List Loc} {ls : Array Slot} {M9 : fz_M} (C : CallFix p m c cX5_drawSpring 3 s args wsL_law RX5) (hr : meth.sig.returnType = none) (hlk : meth.locks = false) (hF : fz_F G fz_KC s)  (hT : fz_T G fz_shC fz_KC s M H locs) (hl : lv_has ls 3 [(0, .ref (G.1 15)), (1, .ref (G.1 k0))]) (h : f_X5_drawSpring k0 M = some M9) : W p l e (fz_rm 1 21) s m args below meth c H locs 0 0 (MQ below (fz_Qv G fz_shC fz_KC M9) args s 0 0 (fz_Fr G fz_KC)) (F0 m 0 ls []) := by
  refine lv_iconst (v := 0) C.1 C.2.1 dX5_drawSpring_0 (by decide) ?_
  refine lv_istore_n (lv' := [(2, .int 0), (0, .ref (G.1 15)), (1, .ref (G.1 k0))]) C.1 C.2.1 dX5_drawSpring_1 rfl hl (by decide) rfl (fun ls hl => ?_)
  exact b_X5_drawSpring_2 hk0 C hr hlk hF hT (lv_sub hl [1, 2, 0] rfl) h
set_option maxRecDepth 100000 in
theorem c_X5_drawSpring (l : Launch) (G : fz_G) (k0 : Nat) (hk0 : fz_isP k0 = true)  (M : fz_M) (M9 : fz_M) (h : f_X5_drawSpring k0 M = some M9) : fz_Me l yX5_drawSpring cX5_drawSpring 3 none 1 21 G fz_shC fz_KC [.ref (G.1 15), .ref (G.1 k0)] M (fz_Qv G fz_shC fz_KC M9) := by
  refine fz_body (by decide) (Nat.le_of_ble_eq_true rfl) ?_
  intro p e s m args below meth c H locs ls C hr hlk hF hT hl
  have C : CallFix p m c cX5_drawSpring 3 s args wsL_law RX5 := C
  have hl : lv_has ls 3 [(0, .ref (G.1 15)), (1, .ref (G.1 k0))] := hl
  exact b_X5_drawSpring_0 hk0 C hr hlk hF hT (lv_sub hl [0, 1] rfl) h
set_option maxHeartbeats 4000000 in
set_option maxRecDepth 100000 in
theorem b_X5_holdTo_2_l {p : Program} {l : Launch} {e : Env} {s : State} {m : MethodId} {args : Array Value} {below : List Frame} {meth : Method} {c : Code} {G : fz_G}     {v2 : Int32}  {M9 : fz_M} (C : CallFix p m c cX5_holdTo 4 s args wsL_law RX5) (hr : meth.sig.returnType = none) (hlk : meth.locks = false) (hF : fz_F G fz_KC s)  : ∀ (n : Nat) (v3 : Int32) (M : fz_M) (H : Heap) (locs : List Loc) (ls : Array Slot), fz_T G fz_shC fz_KC s M H locs → lv_has ls 4 [(0, .ref (G.1 15)), (1, .ref (G.1 7)), (2, .int v2), (3, .int v3)] → fz_lp (fun ag z => f_X5_holdTo_2_s ag v2 z.1 z.2) n (v3, M) = some M9 → W p l e (fz_rm 1 23) s m args below meth c H locs 0 0 (MQ below (fz_Qv G fz_shC fz_KC M9) args s 0 0 (fz_Fr G fz_KC)) (F0 m 2 ls []) := by
  intro n
  induction n with
  | zero =>
    intro v3 M H locs ls hT hl h
    cases h
  | succ n ih =>
    intro v3 M H locs ls hT hl h
    have h : f_X5_holdTo_2_s (fz_lp (fun ag z => f_X5_holdTo_2_s ag v2 z.1 z.2) n) v2 v3 M = some M9 := h
    have hag2 := ih
    generalize fz_lp (fun ag z => f_X5_holdTo_2_s ag v2 z.1 z.2) n = ag2 at h hag2
    refine lv_iload_n C.1 C.2.1 dX5_holdTo_2 rfl (lv_at hl 3 rfl) ?_
    refine lv_bipush (v := 6) C.1 C.2.1 dX5_holdTo_3 (by decide) ?_
    refine lv_icmp_ge (tgt := 30) C.1 C.2.1 dX5_holdTo_5 (by decide) (fun c1 => ?_) (fun c1 => ?_)
    · have h := fz_ip c1 h
      cases h
      exact fz_retv C hr hlk hT dX5_holdTo_30
    · have h := fz_iq c1 h
      refine lv_aload_n C.1 C.2.1 dX5_holdTo_8 rfl (lv_at hl 1 rfl) ?_
      refine lv_iload_n C.1 C.2.1 dX5_holdTo_9 rfl (lv_at hl 2 rfl) ?_
      refine lv_iload_n C.1 C.2.1 dX5_holdTo_10 rfl (lv_at hl 3 rfl) ?_
      obtain ⟨r2, w4, h⟩ := fz_b1_s h
      refine fz_ci hT (fz_runV (np := 2) (rest := []) C hF hT (c_X2_hold l G v2 v3 M r2 w4) fz_c7 (T := TX2) (N := 3) rfl cl_X5_47 rfl hl.1 rfl (Nat.le_of_ble_eq_true rfl) ⟨Nat.le_of_ble_eq_true rfl, Nat.le_of_ble_eq_true rfl, Nat.zero_le _, Nat.zero_le _⟩ dX5_holdTo_11) (fun H locs hT => ?_)
      refine lv_if_ne (tgt := 24) C.1 C.2.1 dX5_holdTo_14 (by decide) (fun c5 => ?_) (fun c5 => ?_)
      · have h := fz_ip c5 h
        refine lv_iinc (v := (v3 + 1)) (lv' := [(3, .int (v3 + 1)), (0, .ref (G.1 15)), (1, .ref (G.1 7)), (2, .int v2)]) C.1 C.2.1 dX5_holdTo_24 hl (k := 3) rfl rfl (by decide) rfl (fun ls hl => ?_)
        refine lv_goto (tgt := 2) C.1 C.2.1 dX5_holdTo_27 (by decide) ?_
        exact hag2 (v3 + 1) M _ _ _ hT (lv_sub hl [1, 2, 3, 0] rfl) h
      · have h := fz_iq (not_not_intro c5) h
        refine lv_aload_n C.1 C.2.1 dX5_holdTo_17 rfl (lv_at hl 0 rfl) ?_
        refine fz_getd C hF hT fz_c15 (j := 0) rfl fl_X5_9 dX5_holdTo_18 ?_
        obtain ⟨y6, ey6, h⟩ := fz_bd_s h
        rw [← ey6]
        obtain ⟨g7, h⟩ := fz_gd_s h
        refine lv_iload_n C.1 C.2.1 dX5_holdTo_21 rfl (lv_at hl 3 rfl) ?_
        refine lv_lconst (v := 0) C.1 C.2.1 dX5_holdTo_22 (by decide) ?_
        obtain ⟨g8, h⟩ := fz_gd_s h
        obtain ⟨M9, eM9, h⟩ := fz_bd_s h
        refine fz_las C hF hT (fz_lg g7) g8 dX5_holdTo_23 (fun H locs hT => ?_)
        rw [← eM9] at hT
        refine lv_iinc (v := (v3 + 1)) (lv' := [(3, .int (v3 + 1)), (0, .ref (G.1 15)), (1, .ref (G.1 7)), (2, .int v2)]) C.1 C.2.1 dX5_holdTo_24 hl (k := 3) rfl rfl (by decide) rfl (fun ls hl => ?_)
        refine lv_goto (tgt := 2) C.1 C.2.1 dX5_holdTo_27 (by decide) ?_
        exact hag2 (v3 + 1) M9 _ _ _ hT (lv_sub hl [1, 2, 3, 0] rfl) h
set_option maxHeartbeats 4000000 in
set_option maxRecDepth 100000 in
theorem b_X5_holdTo_2 {p : Program} {l : Launch} {e : Env} {s : State} {m : MethodId} {args : Array Value} {below : List Frame} {meth : Method} {c : Code} {G : fz_G}     {v2 : Int32} {v3 : Int32} {M : fz_M} {H : Heap} {locs : List Loc} {ls : Array Slot} {M9 : fz_M} (C : CallFix p m c cX5_holdTo 4 s args wsL_law RX5) (hr : meth.sig.returnType = none) (hlk : meth.locks = false) (hF : fz_F G fz_KC s)  (hT : fz_T G fz_shC fz_KC s M H locs) (hl : lv_has ls 4 [(0, .ref (G.1 15)), (1, .ref (G.1 7)), (2, .int v2), (3, .int v3)]) (h : f_X5_holdTo_2 v2 v3 M = some M9) : W p l e (fz_rm 1 23) s m args below meth c H locs 0 0 (MQ below (fz_Qv G fz_shC fz_KC M9) args s 0 0 (fz_Fr G fz_KC)) (F0 m 2 ls []) :=
  b_X5_holdTo_2_l C hr hlk hF fz_fuel v3 M H locs ls hT hl h
set_option maxHeartbeats 4000000 in
set_option maxRecDepth 100000 in
theorem b_X5_holdTo_0 {p : Program} {l : Launch} {e : Env} {s : State} {m : MethodId} {args : Array Value} {below : List Frame} {meth : Method} {c : Code} {G : fz_G}     {v2 : Int32} {M : fz_M} {H : Heap} {locs : List Loc} {ls : Array Slot} {M9 : fz_M} (C : CallFix p m c cX5_holdTo 4 s args wsL_law RX5) (hr : meth.sig.returnType = none) (hlk : meth.locks = false) (hF : fz_F G fz_KC s)  (hT : fz_T G fz_shC fz_KC s M H locs) (hl : lv_has ls 4 [(0, .ref (G.1 15)), (1, .ref (G.1 7)), (2, .int v2)]) (h : f_X5_holdTo v2 M = some M9) : W p l e (fz_rm 1 23) s m args below meth c H locs 0 0 (MQ below (fz_Qv G fz_shC fz_KC M9) args s 0 0 (fz_Fr G fz_KC)) (F0 m 0 ls []) := by
  refine lv_iconst (v := 0) C.1 C.2.1 dX5_holdTo_0 (by decide) ?_
  refine lv_istore_n (lv' := [(3, .int 0), (0, .ref (G.1 15)), (1, .ref (G.1 7)), (2, .int v2)]) C.1 C.2.1 dX5_holdTo_1 rfl hl (by decide) rfl (fun ls hl => ?_)
  exact b_X5_holdTo_2 C hr hlk hF hT (lv_sub hl [1, 2, 3, 0] rfl) h
set_option maxRecDepth 100000 in
theorem c_X5_holdTo (l : Launch) (G : fz_G)  (a1 : Int32) (M : fz_M) (M9 : fz_M) (h : f_X5_holdTo a1 M = some M9) : fz_Me l yX5_holdTo cX5_holdTo 4 none 1 23 G fz_shC fz_KC [.ref (G.1 15), .ref (G.1 7), .int a1] M (fz_Qv G fz_shC fz_KC M9) := by
  refine fz_body (by decide) (Nat.le_of_ble_eq_true rfl) ?_
  intro p e s m args below meth c H locs ls C hr hlk hF hT hl
  have C : CallFix p m c cX5_holdTo 4 s args wsL_law RX5 := C
  have hl : lv_has ls 4 [(0, .ref (G.1 15)), (1, .ref (G.1 7)), (2, .int a1)] := hl
  exact b_X5_holdTo_0 C hr hlk hF hT (lv_sub hl [0, 1, 2] rfl) h
set_option maxHeartbeats 4000000 in
set_option maxRecDepth 100000 in
theorem b_X6_begin_72_l {p : Program} {l : Launch} {e : Env} {s : State} {m : MethodId} {args : Array Value} {below : List Frame} {meth : Method} {c : Code} {G : fz_G} {k : Nat} (hk : fz_isS k) {k0 : Nat} (hk0 : fz_isP k0 = true)      {M9 : fz_M} (C : CallFix p m c cX6_begin 4 s args wsL_law RX6) (hr : meth.sig.returnType = none) (hlk : meth.locks = false) (hF : fz_F G fz_KC s)  : ∀ (n : Nat) (v2 : Int32) (M : fz_M) (H : Heap) (locs : List Loc) (ls : Array Slot), fz_T G fz_shC fz_KC s M H locs → lv_has ls 4 [(0, .ref (G.1 k)), (2, .int v2)] → fz_lp (fun ag z => f_X6_begin_72_s k k0 ag z.1 z.2) n (v2, M) = some M9 → W p l e (fz_rm 0 0) s m args below meth c H locs 0 0 (MQ below (fz_Qv G fz_shC fz_KC M9) args s 0 0 (fz_Fr G fz_KC)) (F0 m 72 ls []) := by
  intro n
  induction n with
  | zero =>
    intro v2 M H locs ls hT hl h
    cases h
  | succ n ih =>
    intro v2 M H locs ls hT hl h
    have h : f_X6_begin_72_s k k0 (fz_lp (fun ag z => f_X6_begin_72_s k k0 ag z.1 z.2) n) v2 M = some M9 := h
    have hag72 := ih
    generalize fz_lp (fun ag z => f_X6_begin_72_s k k0 ag z.1 z.2) n = ag72 at h hag72
    refine lv_iload_n C.1 C.2.1 dX6_begin_72 rfl (lv_at hl 1 rfl) ?_
    refine lv_bipush (v := 10) C.1 C.2.1 dX6_begin_73 (by decide) ?_
    refine lv_icmp_ge (tgt := 91) C.1 C.2.1 dX6_begin_75 (by decide) (fun c1 => ?_) (fun c1 => ?_)
    · have h := fz_ip c1 h
      cases h
      exact fz_retv C hr hlk hT dX6_begin_91
    · have h := fz_iq c1 h
      refine lv_aload_n C.1 C.2.1 dX6_begin_78 rfl (lv_at hl 0 rfl) ?_
      refine fz_getr C hF hT (fz_st hk) (j := 6) rfl fl_X6_29 dX6_begin_79 ?_
      refine lv_iload_n C.1 C.2.1 dX6_begin_82 rfl (lv_at hl 1 rfl) ?_
      refine lv_iconst (v := 0) C.1 C.2.1 dX6_begin_83 (by decide) ?_
      obtain ⟨g2, h⟩ := fz_gd_s h
      obtain ⟨M3, eM3, h⟩ := fz_bd_s h
      refine fz_zas C hF hT (fz_st12 hk) g2 dX6_begin_84 (fun H locs hT => ?_)
      rw [← eM3] at hT
      refine lv_iinc (v := (v2 + 1)) (lv' := [(2, .int (v2 + 1)), (0, .ref (G.1 k))]) C.1 C.2.1 dX6_begin_85 hl (k := 1) rfl rfl (by decide) rfl (fun ls hl => ?_)
      refine lv_goto (tgt := 72) C.1 C.2.1 dX6_begin_88 (by decide) ?_
      exact hag72 (v2 + 1) M3 _ _ _ hT (lv_sub hl [1, 0] rfl) h
set_option maxHeartbeats 4000000 in
set_option maxRecDepth 100000 in
theorem b_X6_begin_72 {p : Program} {l : Launch} {e : Env} {s : State} {m : MethodId} {args : Array Value} {below : List Frame} {meth : Method} {c : Code} {G : fz_G} {k : Nat} (hk : fz_isS k) {k0 : Nat} (hk0 : fz_isP k0 = true)    {v2 : Int32} {M : fz_M} {H : Heap} {locs : List Loc} {ls : Array Slot} {M9 : fz_M} (C : CallFix p m c cX6_begin 4 s args wsL_law RX6) (hr : meth.sig.returnType = none) (hlk : meth.locks = false) (hF : fz_F G fz_KC s)  (hT : fz_T G fz_shC fz_KC s M H locs) (hl : lv_has ls 4 [(0, .ref (G.1 k)), (2, .int v2)]) (h : f_X6_begin_72 k k0 v2 M = some M9) : W p l e (fz_rm 0 0) s m args below meth c H locs 0 0 (MQ below (fz_Qv G fz_shC fz_KC M9) args s 0 0 (fz_Fr G fz_KC)) (F0 m 72 ls []) :=
  b_X6_begin_72_l hk hk0 C hr hlk hF fz_fuel v2 M H locs ls hT hl h
set_option maxHeartbeats 4000000 in
set_option maxRecDepth 100000 in
theorem b_X6_begin_7_l {p : Program} {l : Launch} {e : Env} {s : State} {m : MethodId} {args : Array Value} {below : List Frame} {meth : Method} {c : Code} {G : fz_G} {k : Nat} (hk : fz_isS k) {k0 : Nat} (hk0 : fz_isP k0 = true)      {M9 : fz_M} (C : CallFix p m c cX6_begin 4 s args wsL_law RX6) (hr : meth.sig.returnType = none) (hlk : meth.locks = false) (hF : fz_F G fz_KC s)  : ∀ (n : Nat) (v2 : Int32) (M : fz_M) (H : Heap) (locs : List Loc) (ls : Array Slot), fz_T G fz_shC fz_KC s M H locs → lv_has ls 4 [(0, .ref (G.1 k)), (1, .ref (G.1 k0)), (2, .int v2)] → fz_lp (fun ag z => f_X6_begin_7_s k k0 ag z.1 z.2) n (v2, M) = some M9 → W p l e (fz_rm 0 0) s m args below meth c H locs 0 0 (MQ below (fz_Qv G fz_shC fz_KC M9) args s 0 0 (fz_Fr G fz_KC)) (F0 m 7 ls []) := by
  intro n
  induction n with
  | zero =>
    intro v2 M H locs ls hT hl h
    cases h
  | succ n ih =>
    intro v2 M H locs ls hT hl h
    have h : f_X6_begin_7_s k k0 (fz_lp (fun ag z => f_X6_begin_7_s k k0 ag z.1 z.2) n) v2 M = some M9 := h
    have hag7 := ih
    generalize fz_lp (fun ag z => f_X6_begin_7_s k k0 ag z.1 z.2) n = ag7 at h hag7
    refine lv_iload_n C.1 C.2.1 dX6_begin_7 rfl (lv_at hl 2 rfl) ?_
    refine lv_aload_n C.1 C.2.1 dX6_begin_8 rfl (lv_at hl 1 rfl) ?_
    refine fz_geti C hF hT (fz_pl hk0) (j := 2) rfl fl_X6_37 dX6_begin_9 ?_
    refine lv_icmp_ge (tgt := 70) C.1 C.2.1 dX6_begin_12 (by decide) (fun c1 => ?_) (fun c1 => ?_)
    · have h := fz_ip c1 h
      refine lv_iconst (v := 0) C.1 C.2.1 dX6_begin_70 (by decide) ?_
      refine lv_istore_n (lv' := [(2, .int 0), (0, .ref (G.1 k)), (1, .ref (G.1 k0))]) C.1 C.2.1 dX6_begin_71 rfl hl (by decide) rfl (fun ls hl => ?_)
      exact b_X6_begin_72 hk hk0 C hr hlk hF hT (lv_sub hl [1, 0] rfl) h
    · have h := fz_iq c1 h
      refine lv_aload_n C.1 C.2.1 dX6_begin_15 rfl (lv_at hl 1 rfl) ?_
      refine fz_getr C hF hT (fz_pl hk0) (j := 8) rfl fl_X6_42 dX6_begin_16 ?_
      refine lv_iload_n C.1 C.2.1 dX6_begin_19 rfl (lv_at hl 2 rfl) ?_
      obtain ⟨g2, h⟩ := fz_gd_s h
      refine fz_ia C hF hT (fz_pl6 hk0) g2 dX6_begin_20 ?_
      obtain ⟨x3, ex3, h⟩ := fz_bd_s h
      refine fz_nmi ex3 ?_
      refine lv_istore_n (lv' := [(3, .int x3), (0, .ref (G.1 k)), (1, .ref (G.1 k0)), (2, .int v2)]) C.1 C.2.1 dX6_begin_21 rfl hl (by decide) rfl (fun ls hl => ?_)
      refine lv_aload_n C.1 C.2.1 dX6_begin_22 rfl (lv_at hl 1 rfl) ?_
      refine fz_getr C hF hT (fz_st hk) (j := 1) rfl fl_X6_9 dX6_begin_23 ?_
      refine lv_iload_n C.1 C.2.1 dX6_begin_26 rfl (lv_at hl 3 rfl) ?_
      refine lv_iload_n C.1 C.2.1 dX6_begin_27 rfl (lv_at hl 0 rfl) ?_
      obtain ⟨g4, h⟩ := fz_gd_s h
      obtain ⟨M5, eM5, h⟩ := fz_bd_s h
      refine fz_ias C hF hT (fz_st1 hk) g4 dX6_begin_28 (fun H locs hT => ?_)
      rw [← eM5] at hT
      refine lv_aload_n C.1 C.2.1 dX6_begin_29 rfl (lv_at hl 1 rfl) ?_
      refine fz_getr C hF hT (fz_st hk) (j := 2) rfl fl_X6_15 dX6_begin_30 ?_
      refine lv_iload_n C.1 C.2.1 dX6_begin_33 rfl (lv_at hl 3 rfl) ?_
      refine lv_aload_n C.1 C.2.1 dX6_begin_34 rfl (lv_at hl 2 rfl) ?_
      refine fz_getr C hF hT (fz_pl hk0) (j := 11) rfl fl_X6_45 dX6_begin_35 ?_
      refine lv_iload_n C.1 C.2.1 dX6_begin_38 rfl (lv_at hl 3 rfl) ?_
      obtain ⟨g6, h⟩ := fz_gd_s h
      refine fz_ia C hF hT (fz_pl9 hk0) g6 dX6_begin_39 ?_
      obtain ⟨g7, h⟩ := fz_gd_s h
      obtain ⟨M8, eM8, h⟩ := fz_bd_s h
      refine fz_ias C hF hT (fz_st2 hk) g7 dX6_begin_40 (fun H locs hT => ?_)
      rw [← eM8] at hT
      refine lv_aload_n C.1 C.2.1 dX6_begin_41 rfl (lv_at hl 1 rfl) ?_
      refine fz_getr C hF hT (fz_st hk) (j := 3) rfl fl_X6_18 dX6_begin_42 ?_
      refine lv_iload_n C.1 C.2.1 dX6_begin_45 rfl (lv_at hl 3 rfl) ?_
      refine lv_iload_n C.1 C.2.1 dX6_begin_46 rfl (lv_at hl 0 rfl) ?_
      obtain ⟨g9, h⟩ := fz_gd_s h
      obtain ⟨M10, eM10, h⟩ := fz_bd_s h
      refine fz_ias C hF hT (fz_st3 hk) g9 dX6_begin_47 (fun H locs hT => ?_)
      rw [← eM10] at hT
      refine lv_aload_n C.1 C.2.1 dX6_begin_48 rfl (lv_at hl 1 rfl) ?_
      refine fz_getr C hF hT (fz_st hk) (j := 5) rfl fl_X6_26 dX6_begin_49 ?_
      refine lv_iload_n C.1 C.2.1 dX6_begin_52 rfl (lv_at hl 3 rfl) ?_
      obtain ⟨g11, h⟩ := fz_gd_s h
      refine fz_aa4 C hF hT (fz_st5 hk) g11 dX6_begin_53 ?_
      refine lv_iconst (v := 0) C.1 C.2.1 dX6_begin_54 (by decide) ?_
      refine lv_iload_n C.1 C.2.1 dX6_begin_55 rfl (lv_at hl 0 rfl) ?_
      obtain ⟨g12, h⟩ := fz_gd_s h
      obtain ⟨M13, eM13, h⟩ := fz_bd_s h
      refine fz_ias C hF hT (fz_str hk g11) g12 dX6_begin_56 (fun H locs hT => ?_)
      rw [← eM13] at hT
      refine lv_aload_n C.1 C.2.1 dX6_begin_57 rfl (lv_at hl 1 rfl) ?_
      refine fz_getr C hF hT (fz_st hk) (j := 4) rfl fl_X6_21 dX6_begin_58 ?_
      refine lv_iload_n C.1 C.2.1 dX6_begin_61 rfl (lv_at hl 3 rfl) ?_
      refine lv_iconst (v := 1) C.1 C.2.1 dX6_begin_62 (by decide) ?_
      obtain ⟨g14, h⟩ := fz_gd_s h
      obtain ⟨M15, eM15, h⟩ := fz_bd_s h
      refine fz_ias C hF hT (fz_st4 hk) g14 dX6_begin_63 (fun H locs hT => ?_)
      rw [← eM15] at hT
      refine lv_iinc (v := (v2 + 1)) (lv' := [(2, .int (v2 + 1)), (3, .int x3), (0, .ref (G.1 k)), (1, .ref (G.1 k0))]) C.1 C.2.1 dX6_begin_64 hl (k := 3) rfl rfl (by decide) rfl (fun ls hl => ?_)
      refine lv_goto (tgt := 7) C.1 C.2.1 dX6_begin_67 (by decide) ?_
      exact hag7 (v2 + 1) M15 _ _ _ hT (lv_sub hl [2, 3, 0] rfl) h
set_option maxHeartbeats 4000000 in
set_option maxRecDepth 100000 in
theorem b_X6_begin_7 {p : Program} {l : Launch} {e : Env} {s : State} {m : MethodId} {args : Array Value} {below : List Frame} {meth : Method} {c : Code} {G : fz_G} {k : Nat} (hk : fz_isS k) {k0 : Nat} (hk0 : fz_isP k0 = true)    {v2 : Int32} {M : fz_M} {H : Heap} {locs : List Loc} {ls : Array Slot} {M9 : fz_M} (C : CallFix p m c cX6_begin 4 s args wsL_law RX6) (hr : meth.sig.returnType = none) (hlk : meth.locks = false) (hF : fz_F G fz_KC s)  (hT : fz_T G fz_shC fz_KC s M H locs) (hl : lv_has ls 4 [(0, .ref (G.1 k)), (1, .ref (G.1 k0)), (2, .int v2)]) (h : f_X6_begin_7 k k0 v2 M = some M9) : W p l e (fz_rm 0 0) s m args below meth c H locs 0 0 (MQ below (fz_Qv G fz_shC fz_KC M9) args s 0 0 (fz_Fr G fz_KC)) (F0 m 7 ls []) :=
  b_X6_begin_7_l hk hk0 C hr hlk hF fz_fuel v2 M H locs ls hT hl h
set_option maxHeartbeats 4000000 in
set_option maxRecDepth 100000 in
theorem b_X6_begin_0 {p : Program} {l : Launch} {e : Env} {s : State} {m : MethodId} {args : Array Value} {below : List Frame} {meth : Method} {c : Code} {G : fz_G} {k : Nat} (hk : fz_isS k) {k0 : Nat} (hk0 : fz_isP k0 = true)     {M : fz_M} {H : Heap} {locs : List Loc} {ls : Array Slot} {M9 : fz_M} (C : CallFix p m c cX6_begin 4 s args wsL_law RX6) (hr : meth.sig.returnType = none) (hlk : meth.locks = false) (hF : fz_F G fz_KC s)  (hT : fz_T G fz_shC fz_KC s M H locs) (hl : lv_has ls 4 [(0, .ref (G.1 k)), (1, .ref (G.1 k0))]) (h : f_X6_begin k k0 M = some M9) : W p l e (fz_rm 0 0) s m args below meth c H locs 0 0 (MQ below (fz_Qv G fz_shC fz_KC M9) args s 0 0 (fz_Fr G fz_KC)) (F0 m 0 ls []) := by
  refine lv_aload_n C.1 C.2.1 dX6_begin_0 rfl (lv_at hl 0 rfl) ?_
  refine lv_iconst (v := 0) C.1 C.2.1 dX6_begin_1 (by decide) ?_
  obtain ⟨M1, eM1, h⟩ := fz_bd_s h
  refine fz_puti C hF hT (fz_st hk) (j := 0) rfl fw_X6_33 dX6_begin_2 (fun H locs hT => ?_)
  rw [← eM1] at hT
  refine lv_iconst (v := 0) C.1 C.2.1 dX6_begin_5 (by decide) ?_
  refine lv_istore_n (lv' := [(2, .int 0), (0, .ref (G.1 k)), (1, .ref (G.1 k0))]) C.1 C.2.1 dX6_begin_6 rfl hl (by decide) rfl (fun ls hl => ?_)
  exact b_X6_begin_7 hk hk0 C hr hlk hF hT (lv_sub hl [1, 2, 0] rfl) h
set_option maxRecDepth 100000 in
theorem c_X6_begin (l : Launch) (G : fz_G) (k : Nat) (hk : fz_isS k) (k0 : Nat) (hk0 : fz_isP k0 = true)  (M : fz_M) (M9 : fz_M) (h : f_X6_begin k k0 M = some M9) : fz_Me l yX6_begin cX6_begin 4 none 0 0 G fz_shC fz_KC [.ref (G.1 k), .ref (G.1 k0)] M (fz_Qv G fz_shC fz_KC M9) := by
  refine fz_body (by decide) (Nat.le_of_ble_eq_true rfl) ?_
  intro p e s m args below meth c H locs ls C hr hlk hF hT hl
  have C : CallFix p m c cX6_begin 4 s args wsL_law RX6 := C
  have hl : lv_has ls 4 [(0, .ref (G.1 k)), (1, .ref (G.1 k0))] := hl
  exact b_X6_begin_0 hk hk0 C hr hlk hF hT (lv_sub hl [0, 1] rfl) h
set_option maxHeartbeats 4000000 in
set_option maxRecDepth 100000 in
theorem b_X6_takeAll_7_l {p : Program} {l : Launch} {e : Env} {s : State} {m : MethodId} {args : Array Value} {below : List Frame} {meth : Method} {c : Code} {G : fz_G} {k : Nat} (hk : fz_isS k) {k0 : Nat} (hk0 : fz_isS k0)      {M9 : fz_M} (C : CallFix p m c cX6_takeAll 3 s args wsL_law RX6) (hr : meth.sig.returnType = none) (hlk : meth.locks = false) (hF : fz_F G fz_KC s)  : ∀ (n : Nat) (v2 : Int32) (M : fz_M) (H : Heap) (locs : List Loc) (ls : Array Slot), fz_T G fz_shC fz_KC s M H locs → lv_has ls 3 [(0, .ref (G.1 k)), (1, .ref (G.1 k0)), (2, .int v2)] → fz_lp (fun ag z => f_X6_takeAll_7_s k k0 ag z.1 z.2) n (v2, M) = some M9 → W p l e (fz_rm 2 46) s m args below meth c H locs 0 0 (MQ below (fz_Qv G fz_shC fz_KC M9) args s 0 0 (fz_Fr G fz_KC)) (F0 m 7 ls []) := by
  intro n
  induction n with
  | zero =>
    intro v2 M H locs ls hT hl h
    cases h
  | succ n ih =>
    intro v2 M H locs ls hT hl h
    have h : f_X6_takeAll_7_s k k0 (fz_lp (fun ag z => f_X6_takeAll_7_s k k0 ag z.1 z.2) n) v2 M = some M9 := h
    have hag7 := ih
    generalize fz_lp (fun ag z => f_X6_takeAll_7_s k k0 ag z.1 z.2) n = ag7 at h hag7
    refine lv_iload_n C.1 C.2.1 dX6_takeAll_7 rfl (lv_at hl 2 rfl) ?_
    refine lv_bipush (v := 10) C.1 C.2.1 dX6_takeAll_8 (by decide) ?_
    refine lv_icmp_ge (tgt := 31) C.1 C.2.1 dX6_takeAll_10 (by decide) (fun c1 => ?_) (fun c1 => ?_)
    · have h := fz_ip c1 h
      cases h
      exact fz_retv C hr hlk hT dX6_takeAll_31
    · have h := fz_iq c1 h
      refine lv_aload_n C.1 C.2.1 dX6_takeAll_13 rfl (lv_at hl 0 rfl) ?_
      refine fz_getr C hF hT (fz_st hk) (j := 6) rfl fl_X6_29 dX6_takeAll_14 ?_
      refine lv_iload_n C.1 C.2.1 dX6_takeAll_17 rfl (lv_at hl 2 rfl) ?_
      refine lv_aload_n C.1 C.2.1 dX6_takeAll_18 rfl (lv_at hl 1 rfl) ?_
      refine fz_getr C hF hT (fz_st hk0) (j := 6) rfl fl_X6_29 dX6_takeAll_19 ?_
      refine lv_iload_n C.1 C.2.1 dX6_takeAll_22 rfl (lv_at hl 2 rfl) ?_
      obtain ⟨g2, h⟩ := fz_gd_s h
      refine fz_za C hF hT (fz_st12 hk0) g2 dX6_takeAll_23 ?_
      obtain ⟨g3, h⟩ := fz_gd_s h
      obtain ⟨M4, eM4, h⟩ := fz_bd_s h
      refine fz_zas C hF hT (fz_st12 hk) g3 dX6_takeAll_24 (fun H locs hT => ?_)
      rw [← eM4] at hT
      refine lv_iinc (v := (v2 + 1)) (lv' := [(2, .int (v2 + 1)), (0, .ref (G.1 k)), (1, .ref (G.1 k0))]) C.1 C.2.1 dX6_takeAll_25 hl (k := 2) rfl rfl (by decide) rfl (fun ls hl => ?_)
      refine lv_goto (tgt := 7) C.1 C.2.1 dX6_takeAll_28 (by decide) ?_
      exact hag7 (v2 + 1) M4 _ _ _ hT (lv_sub hl [1, 2, 0] rfl) h
set_option maxHeartbeats 4000000 in
set_option maxRecDepth 100000 in
theorem b_X6_takeAll_7 {p : Program} {l : Launch} {e : Env} {s : State} {m : MethodId} {args : Array Value} {below : List Frame} {meth : Method} {c : Code} {G : fz_G} {k : Nat} (hk : fz_isS k) {k0 : Nat} (hk0 : fz_isS k0)    {v2 : Int32} {M : fz_M} {H : Heap} {locs : List Loc} {ls : Array Slot} {M9 : fz_M} (C : CallFix p m c cX6_takeAll 3 s args wsL_law RX6) (hr : meth.sig.returnType = none) (hlk : meth.locks = false) (hF : fz_F G fz_KC s)  (hT : fz_T G fz_shC fz_KC s M H locs) (hl : lv_has ls 3 [(0, .ref (G.1 k)), (1, .ref (G.1 k0)), (2, .int v2)]) (h : f_X6_takeAll_7 k k0 v2 M = some M9) : W p l e (fz_rm 2 46) s m args below meth c H locs 0 0 (MQ below (fz_Qv G fz_shC fz_KC M9) args s 0 0 (fz_Fr G fz_KC)) (F0 m 7 ls []) :=
  b_X6_takeAll_7_l hk hk0 C hr hlk hF fz_fuel v2 M H locs ls hT hl h
set_option maxHeartbeats 4000000 in
set_option maxRecDepth 100000 in
theorem b_X6_takeAll_0 {p : Program} {l : Launch} {e : Env} {s : State} {m : MethodId} {args : Array Value} {below : List Frame} {meth : Method} {c : Code} {G : fz_G} {k : Nat} (hk : fz_isS k) {k0 : Nat} (hk0 : fz_isS k0)     {M : fz_M} {H : Heap} {locs : List Loc} {ls : Array Slot} {M9 : fz_M} (C : CallFix p m c cX6_takeAll 3 s args wsL_law RX6) (hr : meth.sig.returnType = none) (hlk : meth.locks = false) (hF : fz_F G fz_KC s)  (hT : fz_T G fz_shC fz_KC s M H locs) (hl : lv_has ls 3 [(0, .ref (G.1 k)), (1, .ref (G.1 k0))]) (h : f_X6_takeAll k k0 M = some M9) : W p l e (fz_rm 2 46) s m args below meth c H locs 0 0 (MQ below (fz_Qv G fz_shC fz_KC M9) args s 0 0 (fz_Fr G fz_KC)) (F0 m 0 ls []) := by
  refine lv_aload_n C.1 C.2.1 dX6_takeAll_0 rfl (lv_at hl 0 rfl) ?_
  refine lv_aload_n C.1 C.2.1 dX6_takeAll_1 rfl (lv_at hl 1 rfl) ?_
  obtain ⟨M2, w3, h⟩ := fz_b1_s h
  refine fz_cv hT (fz_runV (np := 1) (rest := []) C hF hT (c_X6_takeAllButShut l G k hk k0 hk0 M M2 w3) (fz_st hk) (T := TX6) (N := 7) rfl cl_X6_52 rfl hl.1 rfl (Nat.le_of_ble_eq_true rfl) ⟨Nat.le_of_ble_eq_true rfl, Nat.le_of_ble_eq_true rfl, Nat.zero_le _, Nat.zero_le _⟩ dX6_takeAll_2) (fun H locs hT => ?_)
  refine lv_iconst (v := 0) C.1 C.2.1 dX6_takeAll_5 (by decide) ?_
  refine lv_istore_n (lv' := [(2, .int 0), (0, .ref (G.1 k)), (1, .ref (G.1 k0))]) C.1 C.2.1 dX6_takeAll_6 rfl hl (by decide) rfl (fun ls hl => ?_)
  exact b_X6_takeAll_7 hk hk0 C hr hlk hF hT (lv_sub hl [1, 2, 0] rfl) h
set_option maxRecDepth 100000 in
theorem c_X6_takeAll (l : Launch) (G : fz_G) (k : Nat) (hk : fz_isS k) (k0 : Nat) (hk0 : fz_isS k0)  (M : fz_M) (M9 : fz_M) (h : f_X6_takeAll k k0 M = some M9) : fz_Me l yX6_takeAll cX6_takeAll 3 none 2 46 G fz_shC fz_KC [.ref (G.1 k), .ref (G.1 k0)] M (fz_Qv G fz_shC fz_KC M9) := by
  refine fz_body (by decide) (Nat.le_of_ble_eq_true rfl) ?_
  intro p e s m args below meth c H locs ls C hr hlk hF hT hl
  have C : CallFix p m c cX6_takeAll 3 s args wsL_law RX6 := C
  have hl : lv_has ls 3 [(0, .ref (G.1 k)), (1, .ref (G.1 k0))] := hl
  exact b_X6_takeAll_0 hk hk0 C hr hlk hF hT (lv_sub hl [0, 1] rfl) h
set_option maxHeartbeats 4000000 in
set_option maxRecDepth 100000 in
theorem b_X6_addOwner_0 {p : Program} {l : Launch} {e : Env} {s : State} {m : MethodId} {args : Array Value} {below : List Frame} {meth : Method} {c : Code} {G : fz_G} {k : Nat} (hk : fz_isS k)    {v1 : Int32} {v2 : Int32} {M : fz_M} {H : Heap} {locs : List Loc} {ls : Array Slot} {M9 : fz_M} (C : CallFix p m c cX6_addOwner 4 s args wsL_law RX6) (hr : meth.sig.returnType = none) (hlk : meth.locks = false) (hF : fz_F G fz_KC s)  (hT : fz_T G fz_shC fz_KC s M H locs) (hl : lv_has ls 4 [(0, .ref (G.1 k)), (1, .int v1), (2, .int v2)]) (h : f_X6_addOwner k v1 v2 M = some M9) : W p l e (fz_rm 0 0) s m args below meth c H locs 0 0 (MQ below (fz_Qv G fz_shC fz_KC M9) args s 0 0 (fz_Fr G fz_KC)) (F0 m 0 ls []) := by
  refine lv_aload_n C.1 C.2.1 dX6_addOwner_0 rfl (lv_at hl 0 rfl) ?_
  refine fz_getr C hF hT (fz_st hk) (j := 3) rfl fl_X6_18 dX6_addOwner_1 ?_
  refine lv_iload_n C.1 C.2.1 dX6_addOwner_4 rfl (lv_at hl 1 rfl) ?_
  refine lv_iload_n C.1 C.2.1 dX6_addOwner_5 rfl (lv_at hl 2 rfl) ?_
  obtain ⟨g1, h⟩ := fz_gd_s h
  obtain ⟨M2, eM2, h⟩ := fz_bd_s h
  refine fz_ias C hF hT (fz_st3 hk) g1 dX6_addOwner_6 (fun H locs hT => ?_)
  rw [← eM2] at hT
  refine lv_aload_n C.1 C.2.1 dX6_addOwner_7 rfl (lv_at hl 0 rfl) ?_
  refine fz_getr C hF hT (fz_st hk) (j := 4) rfl fl_X6_21 dX6_addOwner_8 ?_
  refine lv_iload_n C.1 C.2.1 dX6_addOwner_11 rfl (lv_at hl 1 rfl) ?_
  obtain ⟨g3, h⟩ := fz_gd_s h
  refine fz_ia C hF hT (fz_st4 hk) g3 dX6_addOwner_12 ?_
  obtain ⟨x4, ex4, h⟩ := fz_bd_s h
  refine fz_nmi ex4 ?_
  refine lv_istore_n (lv' := [(3, .int x4), (0, .ref (G.1 k)), (1, .int v1), (2, .int v2)]) C.1 C.2.1 dX6_addOwner_13 rfl hl (by decide) rfl (fun ls hl => ?_)
  refine lv_iload_n C.1 C.2.1 dX6_addOwner_14 rfl (lv_at hl 0 rfl) ?_
  refine lv_bipush (v := 8) C.1 C.2.1 dX6_addOwner_15 (by decide) ?_
  refine lv_icmp_ge (tgt := 38) C.1 C.2.1 dX6_addOwner_17 (by decide) (fun c5 => ?_) (fun c5 => ?_)
  · have h := fz_ip c5 h
    cases h
    exact fz_retv C hr hlk hT dX6_addOwner_38
  · have h := fz_iq c5 h
    refine lv_aload_n C.1 C.2.1 dX6_addOwner_20 rfl (lv_at hl 1 rfl) ?_
    refine fz_getr C hF hT (fz_st hk) (j := 5) rfl fl_X6_26 dX6_addOwner_21 ?_
    refine lv_iload_n C.1 C.2.1 dX6_addOwner_24 rfl (lv_at hl 2 rfl) ?_
    obtain ⟨g6, h⟩ := fz_gd_s h
    refine fz_aa4 C hF hT (fz_st5 hk) g6 dX6_addOwner_25 ?_
    refine lv_iload_n C.1 C.2.1 dX6_addOwner_26 rfl (lv_at hl 0 rfl) ?_
    refine lv_iload_n C.1 C.2.1 dX6_addOwner_27 rfl (lv_at hl 3 rfl) ?_
    obtain ⟨g7, h⟩ := fz_gd_s h
    obtain ⟨M8, eM8, h⟩ := fz_bd_s h
    refine fz_ias C hF hT (fz_str hk g6) g7 dX6_addOwner_28 (fun H locs hT => ?_)
    rw [← eM8] at hT
    refine lv_aload_n C.1 C.2.1 dX6_addOwner_29 rfl (lv_at hl 1 rfl) ?_
    refine fz_getr C hF hT (fz_st hk) (j := 4) rfl fl_X6_21 dX6_addOwner_30 ?_
    refine lv_iload_n C.1 C.2.1 dX6_addOwner_33 rfl (lv_at hl 2 rfl) ?_
    refine lv_iload_n C.1 C.2.1 dX6_addOwner_34 rfl (lv_at hl 0 rfl) ?_
    refine lv_iconst (v := 1) C.1 C.2.1 dX6_addOwner_35 (by decide) ?_
    refine lv_iadd C.1 C.2.1 dX6_addOwner_36 ?_
    obtain ⟨g9, h⟩ := fz_gd_s h
    obtain ⟨M10, eM10, h⟩ := fz_bd_s h
    refine fz_ias C hF hT (fz_st4 hk) g9 dX6_addOwner_37 (fun H locs hT => ?_)
    rw [← eM10] at hT
    cases h
    exact fz_retv C hr hlk hT dX6_addOwner_38
set_option maxRecDepth 100000 in
theorem c_X6_addOwner (l : Launch) (G : fz_G) (k : Nat) (hk : fz_isS k) (a0 : Int32) (a1 : Int32) (M : fz_M) (M9 : fz_M) (h : f_X6_addOwner k a0 a1 M = some M9) : fz_Me l yX6_addOwner cX6_addOwner 4 none 0 0 G fz_shC fz_KC [.ref (G.1 k), .int a0, .int a1] M (fz_Qv G fz_shC fz_KC M9) := by
  refine fz_body (by decide) (Nat.le_of_ble_eq_true rfl) ?_
  intro p e s m args below meth c H locs ls C hr hlk hF hT hl
  have C : CallFix p m c cX6_addOwner 4 s args wsL_law RX6 := C
  have hl : lv_has ls 4 [(0, .ref (G.1 k)), (1, .int a0), (2, .int a1)] := hl
  exact b_X6_addOwner_0 hk C hr hlk hF hT (lv_sub hl [0, 1, 2] rfl) h
set_option maxHeartbeats 4000000 in
set_option maxRecDepth 100000 in
theorem b_X6_passSpring_14_l {p : Program} {l : Launch} {e : Env} {s : State} {m : MethodId} {args : Array Value} {below : List Frame} {meth : Method} {c : Code} {G : fz_G} {k : Nat} (hk : fz_isS k)    {v1 : Int32}  {r : Int32} {M9 : fz_M} (C : CallFix p m c cX6_passSpring 4 s args wsL_law RX6) (hr : meth.sig.returnType = (some .int)) (hlk : meth.locks = false) (hF : fz_F G fz_KC s)  : ∀ (n : Nat) (v2 : Int32) (v3 : Int32) (M : fz_M) (H : Heap) (locs : List Loc) (ls : Array Slot), fz_T G fz_shC fz_KC s M H locs → lv_has ls 4 [(0, .ref (G.1 k)), (1, .int v1), (2, .int v2), (3, .int v3)] → fz_lp (fun ag z => f_X6_passSpring_14_s k ag v1 z.1 z.2.1 z.2.2) n (v2, v3, M) = some (r, M9) → W p l e (fz_rm 1 23) s m args below meth c H locs 0 0 (MQ below (fz_Qi G fz_shC fz_KC r M9) args s 0 0 (fz_Fr G fz_KC)) (F0 m 14 ls []) := by
  intro n
  induction n with
  | zero =>
    intro v2 v3 M H locs ls hT hl h
    cases h
  | succ n ih =>
    intro v2 v3 M H locs ls hT hl h
    have h : f_X6_passSpring_14_s k (fz_lp (fun ag z => f_X6_passSpring_14_s k ag v1 z.1 z.2.1 z.2.2) n) v1 v2 v3 M = some (r, M9) := h
    have hag14 := ih
    generalize fz_lp (fun ag z => f_X6_passSpring_14_s k ag v1 z.1 z.2.1 z.2.2) n = ag14 at h hag14
    refine lv_iload_n C.1 C.2.1 dX6_passSpring_14 rfl (lv_at hl 3 rfl) ?_
    refine lv_iload_n C.1 C.2.1 dX6_passSpring_15 rfl (lv_at hl 1 rfl) ?_
    refine lv_icmp_ge (tgt := 54) C.1 C.2.1 dX6_passSpring_16 (by decide) (fun c1 => ?_) (fun c1 => ?_)
    · have h := fz_ip c1 h
      refine lv_iload_n C.1 C.2.1 dX6_passSpring_54 rfl (lv_at hl 2 rfl) ?_
      cases h
      exact fz_reti C hr hlk hT dX6_passSpring_55
    · have h := fz_iq c1 h
      refine lv_aload_n C.1 C.2.1 dX6_passSpring_19 rfl (lv_at hl 0 rfl) ?_
      refine fz_getr C hF hT (fz_st hk) (j := 3) rfl fl_X6_18 dX6_passSpring_20 ?_
      refine lv_iload_n C.1 C.2.1 dX6_passSpring_23 rfl (lv_at hl 3 rfl) ?_
      obtain ⟨g2, h⟩ := fz_gd_s h
      refine fz_ia C hF hT (fz_st3 hk) g2 dX6_passSpring_24 ?_
      refine lv_aload_n C.1 C.2.1 dX6_passSpring_25 rfl (lv_at hl 0 rfl) ?_
      refine fz_getr C hF hT (fz_st hk) (j := 1) rfl fl_X6_9 dX6_passSpring_26 ?_
      refine lv_iload_n C.1 C.2.1 dX6_passSpring_29 rfl (lv_at hl 3 rfl) ?_
      obtain ⟨g3, h⟩ := fz_gd_s h
      refine fz_ia C hF hT (fz_st1 hk) g3 dX6_passSpring_30 ?_
      refine lv_icmp_eq (tgt := 48) C.1 C.2.1 dX6_passSpring_31 (by decide) (fun c4 => ?_) (fun c4 => ?_)
      · have h := fz_ip c4 h
        refine lv_iinc (v := (v3 + 1)) (lv' := [(3, .int (v3 + 1)), (0, .ref (G.1 k)), (1, .int v1), (2, .int v2)]) C.1 C.2.1 dX6_passSpring_48 hl (k := 3) rfl rfl (by decide) rfl (fun ls hl => ?_)
        refine lv_goto (tgt := 14) C.1 C.2.1 dX6_passSpring_51 (by decide) ?_
        exact hag14 v2 (v3 + 1) M _ _ _ hT (lv_sub hl [1, 2, 3, 0] rfl) h
      · have h := fz_iq c4 h
        refine lv_aload_n C.1 C.2.1 dX6_passSpring_34 rfl (lv_at hl 0 rfl) ?_
        refine lv_iload_n C.1 C.2.1 dX6_passSpring_35 rfl (lv_at hl 3 rfl) ?_
        refine lv_aload_n C.1 C.2.1 dX6_passSpring_36 rfl (lv_at hl 0 rfl) ?_
        refine fz_getr C hF hT (fz_st hk) (j := 1) rfl fl_X6_9 dX6_passSpring_37 ?_
        refine lv_iload_n C.1 C.2.1 dX6_passSpring_40 rfl (lv_at hl 3 rfl) ?_
        obtain ⟨g5, h⟩ := fz_gd_s h
        refine fz_ia C hF hT (fz_st1 hk) g5 dX6_passSpring_41 ?_
        obtain ⟨M7, w8, h⟩ := fz_b1_s h
        refine fz_cv hT (fz_runV (np := 2) (rest := []) C hF hT (c_X6_addOwner l G k hk v3 (fz_g M (k + 1) v3) M M7 w8) (fz_st hk) (T := TX6) (N := 7) rfl cl_X6_56 rfl hl.1 rfl (Nat.le_of_ble_eq_true rfl) ⟨Nat.le_of_ble_eq_true rfl, Nat.le_of_ble_eq_true rfl, Nat.zero_le _, Nat.zero_le _⟩ dX6_passSpring_42) (fun H locs hT => ?_)
        refine lv_iinc (v := (v2 + 1)) (lv' := [(2, .int (v2 + 1)), (0, .ref (G.1 k)), (1, .int v1), (3, .int v3)]) C.1 C.2.1 dX6_passSpring_45 hl (k := 2) rfl rfl (by decide) rfl (fun ls hl => ?_)
        refine lv_iinc (v := (v3 + 1)) (lv' := [(3, .int (v3 + 1)), (2, .int (v2 + 1)), (0, .ref (G.1 k)), (1, .int v1)]) C.1 C.2.1 dX6_passSpring_48 hl (k := 3) rfl rfl (by decide) rfl (fun ls hl => ?_)
        refine lv_goto (tgt := 14) C.1 C.2.1 dX6_passSpring_51 (by decide) ?_
        exact hag14 (v2 + 1) (v3 + 1) M7 _ _ _ hT (lv_sub hl [2, 3, 1, 0] rfl) h
set_option maxHeartbeats 4000000 in
set_option maxRecDepth 100000 in
theorem b_X6_passSpring_14 {p : Program} {l : Launch} {e : Env} {s : State} {m : MethodId} {args : Array Value} {below : List Frame} {meth : Method} {c : Code} {G : fz_G} {k : Nat} (hk : fz_isS k)    {v1 : Int32} {v2 : Int32} {v3 : Int32} {M : fz_M} {H : Heap} {locs : List Loc} {ls : Array Slot} {r : Int32} {M9 : fz_M} (C : CallFix p m c cX6_passSpring 4 s args wsL_law RX6) (hr : meth.sig.returnType = (some .int)) (hlk : meth.locks = false) (hF : fz_F G fz_KC s)  (hT : fz_T G fz_shC fz_KC s M H locs) (hl : lv_has ls 4 [(0, .ref (G.1 k)), (1, .int v1), (2, .int v2), (3, .int v3)]) (h : f_X6_passSpring_14 k v1 v2 v3 M = some (r, M9)) : W p l e (fz_rm 1 23) s m args below meth c H locs 0 0 (MQ below (fz_Qi G fz_shC fz_KC r M9) args s 0 0 (fz_Fr G fz_KC)) (F0 m 14 ls []) :=
  b_X6_passSpring_14_l hk C hr hlk hF fz_fuel v2 v3 M H locs ls hT hl h
set_option maxHeartbeats 4000000 in
set_option maxRecDepth 100000 in
theorem b_X6_passSpring_0 {p : Program} {l : Launch} {e : Env} {s : State} {m : MethodId} {args : Array Value} {below : List Frame} {meth : Method} {c : Code} {G : fz_G} {k : Nat} (hk : fz_isS k)    {v1 : Int32} {M : fz_M} {H : Heap} {locs : List Loc} {ls : Array Slot} {r : Int32} {M9 : fz_M} (C : CallFix p m c cX6_passSpring 4 s args wsL_law RX6) (hr : meth.sig.returnType = (some .int)) (hlk : meth.locks = false) (hF : fz_F G fz_KC s)  (hT : fz_T G fz_shC fz_KC s M H locs) (hl : lv_has ls 4 [(0, .ref (G.1 k)), (1, .int v1)]) (h : f_X6_passSpring k v1 M = some (r, M9)) : W p l e (fz_rm 1 23) s m args below meth c H locs 0 0 (MQ below (fz_Qi G fz_shC fz_KC r M9) args s 0 0 (fz_Fr G fz_KC)) (F0 m 0 ls []) := by
  refine lv_aload_n C.1 C.2.1 dX6_passSpring_0 rfl (lv_at hl 0 rfl) ?_
  refine lv_dup C.1 C.2.1 dX6_passSpring_1 rfl ?_
  refine fz_geti C hF hT (fz_st hk) (j := 0) rfl fl_X6_33 dX6_passSpring_2 ?_
  refine lv_iconst (v := 1) C.1 C.2.1 dX6_passSpring_5 (by decide) ?_
  refine lv_iadd C.1 C.2.1 dX6_passSpring_6 ?_
  obtain ⟨M1, eM1, h⟩ := fz_bd_s h
  refine fz_puti C hF hT (fz_st hk) (j := 0) rfl fw_X6_33 dX6_passSpring_7 (fun H locs hT => ?_)
  rw [← eM1] at hT
  refine lv_iconst (v := 0) C.1 C.2.1 dX6_passSpring_10 (by decide) ?_
  refine lv_istore_n (lv' := [(2, .int 0), (0, .ref (G.1 k)), (1, .int v1)]) C.1 C.2.1 dX6_passSpring_11 rfl hl (by decide) rfl (fun ls hl => ?_)
  refine lv_iconst (v := 0) C.1 C.2.1 dX6_passSpring_12 (by decide) ?_
  refine lv_istore_n (lv' := [(3, .int 0), (2, .int 0), (0, .ref (G.1 k)), (1, .int v1)]) C.1 C.2.1 dX6_passSpring_13 rfl hl (by decide) rfl (fun ls hl => ?_)
  exact b_X6_passSpring_14 hk C hr hlk hF hT (lv_sub hl [2, 3, 1, 0] rfl) h
set_option maxRecDepth 100000 in
theorem c_X6_passSpring (l : Launch) (G : fz_G) (k : Nat) (hk : fz_isS k) (a0 : Int32) (M : fz_M) (r : Int32) (M9 : fz_M) (h : f_X6_passSpring k a0 M = some (r, M9)) : fz_Me l yX6_passSpring cX6_passSpring 4 (some .int) 1 23 G fz_shC fz_KC [.ref (G.1 k), .int a0] M (fz_Qi G fz_shC fz_KC r M9) := by
  refine fz_body (by decide) (Nat.le_of_ble_eq_true rfl) ?_
  intro p e s m args below meth c H locs ls C hr hlk hF hT hl
  have C : CallFix p m c cX6_passSpring 4 s args wsL_law RX6 := C
  have hl : lv_has ls 4 [(0, .ref (G.1 k)), (1, .int a0)] := hl
  exact b_X6_passSpring_0 hk C hr hlk hF hT (lv_sub hl [0, 1] rfl) h
set_option maxHeartbeats 4000000 in
set_option maxRecDepth 100000 in
theorem b_X6_countUnlike_5_l {p : Program} {l : Launch} {e : Env} {s : State} {m : MethodId} {args : Array Value} {below : List Frame} {meth : Method} {c : Code} {G : fz_G} {k0 : Nat} (hk0 : fz_ar fz_shC fz_KC k0 0 6 0 0) {k1 : Nat} (hk1 : fz_ar fz_shC fz_KC k1 0 6 0 0)    {v2 : Int32} {M : fz_M} {r : Int32} (C : CallFix p m c cX6_countUnlike 5 s args wsL_law RX6) (hr : meth.sig.returnType = (some .int)) (hlk : meth.locks = false) (hF : fz_F G fz_KC s)  : ∀ (n : Nat) (v3 : Int32) (v4 : Int32) (H : Heap) (locs : List Loc) (ls : Array Slot), fz_T G fz_shC fz_KC s M H locs → lv_has ls 5 [(0, .ref (G.1 k0)), (1, .ref (G.1 k1)), (2, .int v2), (3, .int v3), (4, .int v4)] → fz_lp (fun ag z => f_X6_countUnlike_5_s k0 k1 ag v2 z.1 z.2 M) n (v3, v4) = some r → W p l e (fz_rm 0 0) s m args below meth c H locs 0 0 (MQ below (fz_Qi G fz_shC fz_KC r M) args s 0 0 (fz_Fr G fz_KC)) (F0 m 5 ls []) := by
  intro n
  induction n with
  | zero =>
    intro v3 v4 H locs ls hT hl h
    cases h
  | succ n ih =>
    intro v3 v4 H locs ls hT hl h
    have h : f_X6_countUnlike_5_s k0 k1 (fz_lp (fun ag z => f_X6_countUnlike_5_s k0 k1 ag v2 z.1 z.2 M) n) v2 v3 v4 M = some r := h
    have hag5 := ih
    generalize fz_lp (fun ag z => f_X6_countUnlike_5_s k0 k1 ag v2 z.1 z.2 M) n = ag5 at h hag5
    refine lv_iload C.1 C.2.1 dX6_countUnlike_5 (lv_at hl 4 rfl) ?_
    refine lv_iload_n C.1 C.2.1 dX6_countUnlike_7 rfl (lv_at hl 2 rfl) ?_
    refine lv_icmp_ge (tgt := 31) C.1 C.2.1 dX6_countUnlike_8 (by decide) (fun c1 => ?_) (fun c1 => ?_)
    · have h := fz_ip c1 h
      refine lv_iload_n C.1 C.2.1 dX6_countUnlike_31 rfl (lv_at hl 3 rfl) ?_
      cases h
      exact fz_reti C hr hlk hT dX6_countUnlike_32
    · have h := fz_iq c1 h
      refine lv_aload_n C.1 C.2.1 dX6_countUnlike_11 rfl (lv_at hl 0 rfl) ?_
      refine lv_iload C.1 C.2.1 dX6_countUnlike_12 (lv_at hl 4 rfl) ?_
      obtain ⟨g2, h⟩ := fz_gd_s h
      refine fz_ia C hF hT hk0 g2 dX6_countUnlike_14 ?_
      refine lv_aload_n C.1 C.2.1 dX6_countUnlike_15 rfl (lv_at hl 1 rfl) ?_
      refine lv_iload C.1 C.2.1 dX6_countUnlike_16 (lv_at hl 4 rfl) ?_
      obtain ⟨g3, h⟩ := fz_gd_s h
      refine fz_ia C hF hT hk1 g3 dX6_countUnlike_18 ?_
      refine lv_icmp_eq (tgt := 25) C.1 C.2.1 dX6_countUnlike_19 (by decide) (fun c4 => ?_) (fun c4 => ?_)
      · have h := fz_ip c4 h
        refine lv_iinc (v := (v4 + 1)) (lv' := [(4, .int (v4 + 1)), (0, .ref (G.1 k0)), (1, .ref (G.1 k1)), (2, .int v2), (3, .int v3)]) C.1 C.2.1 dX6_countUnlike_25 hl (k := 4) rfl rfl (by decide) rfl (fun ls hl => ?_)
        refine lv_goto (tgt := 5) C.1 C.2.1 dX6_countUnlike_28 (by decide) ?_
        exact hag5 v3 (v4 + 1) _ _ _ hT (lv_sub hl [1, 2, 3, 4, 0] rfl) h
      · have h := fz_iq c4 h
        refine lv_iinc (v := (v3 + 1)) (lv' := [(3, .int (v3 + 1)), (0, .ref (G.1 k0)), (1, .ref (G.1 k1)), (2, .int v2), (4, .int v4)]) C.1 C.2.1 dX6_countUnlike_22 hl (k := 3) rfl rfl (by decide) rfl (fun ls hl => ?_)
        refine lv_iinc (v := (v4 + 1)) (lv' := [(4, .int (v4 + 1)), (3, .int (v3 + 1)), (0, .ref (G.1 k0)), (1, .ref (G.1 k1)), (2, .int v2)]) C.1 C.2.1 dX6_countUnlike_25 hl (k := 4) rfl rfl (by decide) rfl (fun ls hl => ?_)
        refine lv_goto (tgt := 5) C.1 C.2.1 dX6_countUnlike_28 (by decide) ?_
        exact hag5 (v3 + 1) (v4 + 1) _ _ _ hT (lv_sub hl [2, 3, 4, 1, 0] rfl) h
set_option maxHeartbeats 4000000 in
set_option maxRecDepth 100000 in
theorem b_X6_countUnlike_5 {p : Program} {l : Launch} {e : Env} {s : State} {m : MethodId} {args : Array Value} {below : List Frame} {meth : Method} {c : Code} {G : fz_G} {k0 : Nat} (hk0 : fz_ar fz_shC fz_KC k0 0 6 0 0) {k1 : Nat} (hk1 : fz_ar fz_shC fz_KC k1 0 6 0 0)    {v2 : Int32} {v3 : Int32} {v4 : Int32} {M : fz_M} {H : Heap} {locs : List Loc} {ls : Array Slot} {r : Int32} (C : CallFix p m c cX6_countUnlike 5 s args wsL_law RX6) (hr : meth.sig.returnType = (some .int)) (hlk : meth.locks = false) (hF : fz_F G fz_KC s)  (hT : fz_T G fz_shC fz_KC s M H locs) (hl : lv_has ls 5 [(0, .ref (G.1 k0)), (1, .ref (G.1 k1)), (2, .int v2), (3, .int v3), (4, .int v4)]) (h : f_X6_countUnlike_5 k0 k1 v2 v3 v4 M = some r) : W p l e (fz_rm 0 0) s m args below meth c H locs 0 0 (MQ below (fz_Qi G fz_shC fz_KC r M) args s 0 0 (fz_Fr G fz_KC)) (F0 m 5 ls []) :=
  b_X6_countUnlike_5_l hk0 hk1 C hr hlk hF fz_fuel v3 v4 H locs ls hT hl h
set_option maxHeartbeats 4000000 in
set_option maxRecDepth 100000 in
theorem b_X6_countUnlike_0 {p : Program} {l : Launch} {e : Env} {s : State} {m : MethodId} {args : Array Value} {below : List Frame} {meth : Method} {c : Code} {G : fz_G} {k0 : Nat} (hk0 : fz_ar fz_shC fz_KC k0 0 6 0 0) {k1 : Nat} (hk1 : fz_ar fz_shC fz_KC k1 0 6 0 0)    {v2 : Int32} {M : fz_M} {H : Heap} {locs : List Loc} {ls : Array Slot} {r : Int32} (C : CallFix p m c cX6_countUnlike 5 s args wsL_law RX6) (hr : meth.sig.returnType = (some .int)) (hlk : meth.locks = false) (hF : fz_F G fz_KC s)  (hT : fz_T G fz_shC fz_KC s M H locs) (hl : lv_has ls 5 [(0, .ref (G.1 k0)), (1, .ref (G.1 k1)), (2, .int v2)]) (h : f_X6_countUnlike k0 k1 v2 M = some r) : W p l e (fz_rm 0 0) s m args below meth c H locs 0 0 (MQ below (fz_Qi G fz_shC fz_KC r M) args s 0 0 (fz_Fr G fz_KC)) (F0 m 0 ls []) := by
  refine lv_iconst (v := 0) C.1 C.2.1 dX6_countUnlike_0 (by decide) ?_
  refine lv_istore_n (lv' := [(3, .int 0), (0, .ref (G.1 k0)), (1, .ref (G.1 k1)), (2, .int v2)]) C.1 C.2.1 dX6_countUnlike_1 rfl hl (by decide) rfl (fun ls hl => ?_)
  refine lv_iconst (v := 0) C.1 C.2.1 dX6_countUnlike_2 (by decide) ?_
  refine lv_istore (lv' := [(4, .int 0), (3, .int 0), (0, .ref (G.1 k0)), (1, .ref (G.1 k1)), (2, .int v2)]) C.1 C.2.1 dX6_countUnlike_3 hl (by decide) rfl (fun ls hl => ?_)
  exact b_X6_countUnlike_5 hk0 hk1 C hr hlk hF hT (lv_sub hl [2, 3, 4, 1, 0] rfl) h
set_option maxRecDepth 100000 in
theorem c_X6_countUnlike (l : Launch) (G : fz_G) (k0 : Nat) (hk0 : fz_ar fz_shC fz_KC k0 0 6 0 0) (k1 : Nat) (hk1 : fz_ar fz_shC fz_KC k1 0 6 0 0) (a2 : Int32) (M : fz_M) (r : Int32) (h : f_X6_countUnlike k0 k1 a2 M = some r) : fz_Me l yX6_countUnlike cX6_countUnlike 5 (some .int) 0 0 G fz_shC fz_KC [.ref (G.1 k0), .ref (G.1 k1), .int a2] M (fz_Qi G fz_shC fz_KC r M) := by
  refine fz_body (by decide) (Nat.le_of_ble_eq_true rfl) ?_
  intro p e s m args below meth c H locs ls C hr hlk hF hT hl
  have C : CallFix p m c cX6_countUnlike 5 s args wsL_law RX6 := C
  have hl : lv_has ls 5 [(0, .ref (G.1 k0)), (1, .ref (G.1 k1)), (2, .int a2)] := hl
  exact b_X6_countUnlike_0 hk0 hk1 C hr hlk hF hT (lv_sub hl [0, 1, 2] rfl) h
set_option maxHeartbeats 4000000 in
set_option maxRecDepth 100000 in
theorem b_X6_countNotAtHome_0 {p : Program} {l : Launch} {e : Env} {s : State} {m : MethodId} {args : Array Value} {below : List Frame} {meth : Method} {c : Code} {G : fz_G} {k : Nat} (hk : fz_isS k) {k0 : Nat} (hk0 : fz_isP k0 = true)     {M : fz_M} {H : Heap} {locs : List Loc} {ls : Array Slot} {r : Int32} (C : CallFix p m c cX6_countNotAtHome 2 s args wsL_law RX6) (hr : meth.sig.returnType = (some .int)) (hlk : meth.locks = false) (hF : fz_F G fz_KC s)  (hT : fz_T G fz_shC fz_KC s M H locs) (hl : lv_has ls 2 [(0, .ref (G.1 k)), (1, .ref (G.1 k0))]) (h : f_X6_countNotAtHome k k0 M = some r) : W p l e (fz_rm 1 24) s m args below meth c H locs 0 0 (MQ below (fz_Qi G fz_shC fz_KC r M) args s 0 0 (fz_Fr G fz_KC)) (F0 m 0 ls []) := by
  refine lv_aload_n C.1 C.2.1 dX6_countNotAtHome_0 rfl (lv_at hl 0 rfl) ?_
  refine fz_getr C hF hT (fz_st hk) (j := 1) rfl fl_X6_9 dX6_countNotAtHome_1 ?_
  refine lv_aload_n C.1 C.2.1 dX6_countNotAtHome_4 rfl (lv_at hl 1 rfl) ?_
  refine fz_getr C hF hT (fz_pl hk0) (j := 8) rfl fl_X6_42 dX6_countNotAtHome_5 ?_
  refine lv_aload_n C.1 C.2.1 dX6_countNotAtHome_8 rfl (lv_at hl 1 rfl) ?_
  refine fz_geti C hF hT (fz_pl hk0) (j := 2) rfl fl_X6_37 dX6_countNotAtHome_9 ?_
  obtain ⟨r1, w3, h⟩ := fz_b1_s h
  refine fz_ci hT (fz_runS (np := 3) (rest := []) C hF hT (c_X6_countUnlike l G (k + 1) (fz_st1 hk) (k0 + 6) (fz_pl6 hk0) (fz_f M k0 2) M r1 w3) cl_X6_60 rfl hl.1 rfl (Nat.le_of_ble_eq_true rfl) ⟨Nat.le_of_ble_eq_true rfl, Nat.le_of_ble_eq_true rfl, Nat.zero_le _, Nat.zero_le _⟩ dX6_countNotAtHome_12) (fun H locs hT => ?_)
  cases h
  exact fz_reti C hr hlk hT dX6_countNotAtHome_15
set_option maxRecDepth 100000 in
theorem c_X6_countNotAtHome (l : Launch) (G : fz_G) (k : Nat) (hk : fz_isS k) (k0 : Nat) (hk0 : fz_isP k0 = true)  (M : fz_M) (r : Int32) (h : f_X6_countNotAtHome k k0 M = some r) : fz_Me l yX6_countNotAtHome cX6_countNotAtHome 2 (some .int) 1 24 G fz_shC fz_KC [.ref (G.1 k), .ref (G.1 k0)] M (fz_Qi G fz_shC fz_KC r M) := by
  refine fz_body (by decide) (Nat.le_of_ble_eq_true rfl) ?_
  intro p e s m args below meth c H locs ls C hr hlk hF hT hl
  have C : CallFix p m c cX6_countNotAtHome 2 s args wsL_law RX6 := C
  have hl : lv_has ls 2 [(0, .ref (G.1 k)), (1, .ref (G.1 k0))] := hl
  exact b_X6_countNotAtHome_0 hk hk0 C hr hlk hF hT (lv_sub hl [0, 1] rfl) h
set_option maxHeartbeats 4000000 in
set_option maxRecDepth 100000 in
theorem b_X6_countNotOwnedByHome_0 {p : Program} {l : Launch} {e : Env} {s : State} {m : MethodId} {args : Array Value} {below : List Frame} {meth : Method} {c : Code} {G : fz_G} {k : Nat} (hk : fz_isS k) {k0 : Nat} (hk0 : fz_isP k0 = true)     {M : fz_M} {H : Heap} {locs : List Loc} {ls : Array Slot} {r : Int32} (C : CallFix p m c cX6_countNotOwnedByHome 2 s args wsL_law RX6) (hr : meth.sig.returnType = (some .int)) (hlk : meth.locks = false) (hF : fz_F G fz_KC s)  (hT : fz_T G fz_shC fz_KC s M H locs) (hl : lv_has ls 2 [(0, .ref (G.1 k)), (1, .ref (G.1 k0))]) (h : f_X6_countNotOwnedByHome k k0 M = some r) : W p l e (fz_rm 1 24) s m args below meth c H locs 0 0 (MQ below (fz_Qi G fz_shC fz_KC r M) args s 0 0 (fz_Fr G fz_KC)) (F0 m 0 ls []) := by
  refine lv_aload_n C.1 C.2.1 dX6_countNotOwnedByHome_0 rfl (lv_at hl 0 rfl) ?_
  refine fz_getr C hF hT (fz_st hk) (j := 3) rfl fl_X6_18 dX6_countNotOwnedByHome_1 ?_
  refine lv_aload_n C.1 C.2.1 dX6_countNotOwnedByHome_4 rfl (lv_at hl 1 rfl) ?_
  refine fz_getr C hF hT (fz_pl hk0) (j := 8) rfl fl_X6_42 dX6_countNotOwnedByHome_5 ?_
  refine lv_aload_n C.1 C.2.1 dX6_countNotOwnedByHome_8 rfl (lv_at hl 1 rfl) ?_
  refine fz_geti C hF hT (fz_pl hk0) (j := 2) rfl fl_X6_37 dX6_countNotOwnedByHome_9 ?_
  obtain ⟨r1, w3, h⟩ := fz_b1_s h
  refine fz_ci hT (fz_runS (np := 3) (rest := []) C hF hT (c_X6_countUnlike l G (k + 3) (fz_st3 hk) (k0 + 6) (fz_pl6 hk0) (fz_f M k0 2) M r1 w3) cl_X6_60 rfl hl.1 rfl (Nat.le_of_ble_eq_true rfl) ⟨Nat.le_of_ble_eq_true rfl, Nat.le_of_ble_eq_true rfl, Nat.zero_le _, Nat.zero_le _⟩ dX6_countNotOwnedByHome_12) (fun H locs hT => ?_)
  cases h
  exact fz_reti C hr hlk hT dX6_countNotOwnedByHome_15
set_option maxRecDepth 100000 in
theorem c_X6_countNotOwnedByHome (l : Launch) (G : fz_G) (k : Nat) (hk : fz_isS k) (k0 : Nat) (hk0 : fz_isP k0 = true)  (M : fz_M) (r : Int32) (h : f_X6_countNotOwnedByHome k k0 M = some r) : fz_Me l yX6_countNotOwnedByHome cX6_countNotOwnedByHome 2 (some .int) 1 24 G fz_shC fz_KC [.ref (G.1 k), .ref (G.1 k0)] M (fz_Qi G fz_shC fz_KC r M) := by
  refine fz_body (by decide) (Nat.le_of_ble_eq_true rfl) ?_
  intro p e s m args below meth c H locs ls C hr hlk hF hT hl
  have C : CallFix p m c cX6_countNotOwnedByHome 2 s args wsL_law RX6 := C
  have hl : lv_has ls 2 [(0, .ref (G.1 k)), (1, .ref (G.1 k0))] := hl
  exact b_X6_countNotOwnedByHome_0 hk hk0 C hr hlk hF hT (lv_sub hl [0, 1] rfl) h
set_option maxHeartbeats 4000000 in
set_option maxRecDepth 100000 in
theorem b_X7_weigh_38 {p : Program} {l : Launch} {e : Env} {s : State} {m : MethodId} {args : Array Value} {below : List Frame} {meth : Method} {c : Code} {G : fz_G} {k0 : Nat} (hk0 : fz_isP k0 = true)    {v2 : Int32} {v3 : Int32} {M : fz_M} {H : Heap} {locs : List Loc} {ls : Array Slot} {M9 : fz_M} (C : CallFix p m c cX7_weigh 5 s args wsL_law RX7) (hr : meth.sig.returnType = none) (hlk : meth.locks = false) (hF : fz_F G fz_KC s)  (hT : fz_T G fz_shC fz_KC s M H locs) (hl : lv_has ls 5 [(0, .ref (G.1 10)), (2, .int v2), (3, .int v3)]) (h : f_X7_weigh_38 k0 v2 v3 M = some M9) : W p l e (fz_rm 0 0) s m args below meth c H locs 0 0 (MQ below (fz_Qv G fz_shC fz_KC M9) args s 0 0 (fz_Fr G fz_KC)) (F0 m 38 ls []) := by
  refine lv_aload_n C.1 C.2.1 dX7_weigh_38 rfl (lv_at hl 0 rfl) ?_
  refine fz_getr C hF hT fz_c10 (j := 2) rfl fl_X7_18 dX7_weigh_39 ?_
  refine lv_iload_n C.1 C.2.1 dX7_weigh_42 rfl (lv_at hl 2 rfl) ?_
  refine lv_iload_n C.1 C.2.1 dX7_weigh_43 rfl (lv_at hl 1 rfl) ?_
  obtain ⟨g1, h⟩ := fz_gd_s h
  obtain ⟨M2, eM2, h⟩ := fz_bd_s h
  refine fz_ias C hF hT fz_c13 g1 dX7_weigh_44 (fun H locs hT => ?_)
  rw [← eM2] at hT
  cases h
  exact fz_retv C hr hlk hT dX7_weigh_45
set_option maxHeartbeats 4000000 in
set_option maxRecDepth 100000 in
theorem b_X7_weigh_0 {p : Program} {l : Launch} {e : Env} {s : State} {m : MethodId} {args : Array Value} {below : List Frame} {meth : Method} {c : Code} {G : fz_G} {k0 : Nat} (hk0 : fz_isP k0 = true)    {v2 : Int32} {M : fz_M} {H : Heap} {locs : List Loc} {ls : Array Slot} {M9 : fz_M} (C : CallFix p m c cX7_weigh 5 s args wsL_law RX7) (hr : meth.sig.returnType = none) (hlk : meth.locks = false) (hF : fz_F G fz_KC s)  (hT : fz_T G fz_shC fz_KC s M H locs) (hl : lv_has ls 5 [(0, .ref (G.1 10)), (1, .ref (G.1 k0)), (2, .int v2)]) (h : f_X7_weigh k0 v2 M = some M9) : W p l e (fz_rm 0 0) s m args below meth c H locs 0 0 (MQ below (fz_Qv G fz_shC fz_KC M9) args s 0 0 (fz_Fr G fz_KC)) (F0 m 0 ls []) := by
  refine lv_aload_n C.1 C.2.1 dX7_weigh_0 rfl (lv_at hl 1 rfl) ?_
  refine fz_getr C hF hT (fz_pl hk0) (j := 5) rfl fl_X7_48 dX7_weigh_1 ?_
  refine lv_iload_n C.1 C.2.1 dX7_weigh_4 rfl (lv_at hl 2 rfl) ?_
  obtain ⟨g1, h⟩ := fz_gd_s h
  refine fz_ia C hF hT (fz_pl3 hk0) g1 dX7_weigh_5 ?_
  obtain ⟨x2, ex2, h⟩ := fz_bd_s h
  refine fz_nmi ex2 ?_
  refine lv_istore_n (lv' := [(3, .int x2), (0, .ref (G.1 10)), (1, .ref (G.1 k0)), (2, .int v2)]) C.1 C.2.1 dX7_weigh_6 rfl hl (by decide) rfl (fun ls hl => ?_)
  refine lv_aload_n C.1 C.2.1 dX7_weigh_7 rfl (lv_at hl 1 rfl) ?_
  refine fz_getr C hF hT fz_c10 (j := 2) rfl fl_X7_18 dX7_weigh_8 ?_
  refine lv_iload_n C.1 C.2.1 dX7_weigh_11 rfl (lv_at hl 0 rfl) ?_
  obtain ⟨g3, h⟩ := fz_gd_s h
  refine fz_ia C hF hT fz_c13 g3 dX7_weigh_12 ?_
  obtain ⟨x4, ex4, h⟩ := fz_bd_s h
  refine fz_nmi ex4 ?_
  refine lv_istore (lv' := [(4, .int x4), (3, .int x2), (0, .ref (G.1 10)), (1, .ref (G.1 k0)), (2, .int v2)]) C.1 C.2.1 dX7_weigh_13 hl (by decide) rfl (fun ls hl => ?_)
  refine lv_iload C.1 C.2.1 dX7_weigh_15 (lv_at hl 0 rfl) ?_
  refine lv_bipush (v := (-9)) C.1 C.2.1 dX7_weigh_17 (by decide) ?_
  refine lv_icmp_eq (tgt := 38) C.1 C.2.1 dX7_weigh_19 (by decide) (fun c5 => ?_) (fun c5 => ?_)
  · have h := fz_ip c5 h
    exact b_X7_weigh_38 hk0 C hr hlk hF hT (lv_sub hl [2, 4, 1] rfl) h
  · have h := fz_iq c5 h
    refine lv_aload_n C.1 C.2.1 dX7_weigh_22 rfl (lv_at hl 3 rfl) ?_
    refine fz_getr C hF hT (fz_pl hk0) (j := 7) rfl fl_X7_51 dX7_weigh_23 ?_
    refine lv_iload C.1 C.2.1 dX7_weigh_26 (lv_at hl 0 rfl) ?_
    obtain ⟨g6, h⟩ := fz_gd_s h
    refine fz_ia C hF hT (fz_pl5 hk0) g6 dX7_weigh_28 ?_
    refine lv_aload_n C.1 C.2.1 dX7_weigh_29 rfl (lv_at hl 3 rfl) ?_
    refine fz_getr C hF hT (fz_pl hk0) (j := 7) rfl fl_X7_51 dX7_weigh_30 ?_
    refine lv_iload_n C.1 C.2.1 dX7_weigh_33 rfl (lv_at hl 4 rfl) ?_
    obtain ⟨g7, h⟩ := fz_gd_s h
    refine fz_ia C hF hT (fz_pl5 hk0) g7 dX7_weigh_34 ?_
    refine lv_icmp_ge (tgt := 45) C.1 C.2.1 dX7_weigh_35 (by decide) (fun c8 => ?_) (fun c8 => ?_)
    · have h := fz_ip c8 h
      cases h
      exact fz_retv C hr hlk hT dX7_weigh_45
    · have h := fz_iq c8 h
      exact b_X7_weigh_38 hk0 C hr hlk hF hT (lv_sub hl [2, 4, 1] rfl) h
set_option maxRecDepth 100000 in
theorem c_X7_weigh (l : Launch) (G : fz_G) (k0 : Nat) (hk0 : fz_isP k0 = true) (a1 : Int32) (M : fz_M) (M9 : fz_M) (h : f_X7_weigh k0 a1 M = some M9) : fz_Me l yX7_weigh cX7_weigh 5 none 0 0 G fz_shC fz_KC [.ref (G.1 10), .ref (G.1 k0), .int a1] M (fz_Qv G fz_shC fz_KC M9) := by
  refine fz_body (by decide) (Nat.le_of_ble_eq_true rfl) ?_
  intro p e s m args below meth c H locs ls C hr hlk hF hT hl
  have C : CallFix p m c cX7_weigh 5 s args wsL_law RX7 := C
  have hl : lv_has ls 5 [(0, .ref (G.1 10)), (1, .ref (G.1 k0)), (2, .int a1)] := hl
  exact b_X7_weigh_0 hk0 C hr hlk hF hT (lv_sub hl [0, 1, 2] rfl) h
set_option maxHeartbeats 4000000 in
set_option maxRecDepth 100000 in
theorem b_X7_begin_76_l {p : Program} {l : Launch} {e : Env} {s : State} {m : MethodId} {args : Array Value} {below : List Frame} {meth : Method} {c : Code} {G : fz_G} {k0 : Nat} (hk0 : fz_isP k0 = true) {k1 : Nat} (hk1 : fz_isS k1)    {v3 : Int32}  {M9 : fz_M} (C : CallFix p m c cX7_begin 5 s args wsL_law RX7) (hr : meth.sig.returnType = none) (hlk : meth.locks = false) (hF : fz_F G fz_KC s)  : ∀ (n : Nat) (v4 : Int32) (M : fz_M) (H : Heap) (locs : List Loc) (ls : Array Slot), fz_T G fz_shC fz_KC s M H locs → lv_has ls 5 [(0, .ref (G.1 10)), (1, .ref (G.1 k0)), (2, .ref (G.1 k1)), (3, .int v3), (4, .int v4)] → fz_lp (fun ag z => f_X7_begin_76_s k0 k1 ag v3 z.1 z.2) n (v4, M) = some M9 → W p l e (fz_rm 1 24) s m args below meth c H locs 0 0 (MQ below (fz_Qv G fz_shC fz_KC M9) args s 0 0 (fz_Fr G fz_KC)) (F0 m 76 ls []) := by
  intro n
  induction n with
  | zero =>
    intro v4 M H locs ls hT hl h
    cases h
  | succ n ih =>
    intro v4 M H locs ls hT hl h
    have h : f_X7_begin_76_s k0 k1 (fz_lp (fun ag z => f_X7_begin_76_s k0 k1 ag v3 z.1 z.2) n) v3 v4 M = some M9 := h
    have hag76 := ih
    generalize fz_lp (fun ag z => f_X7_begin_76_s k0 k1 ag v3 z.1 z.2) n = ag76 at h hag76
    refine lv_iload C.1 C.2.1 dX7_begin_76 (lv_at hl 4 rfl) ?_
    refine lv_aload_n C.1 C.2.1 dX7_begin_78 rfl (lv_at hl 1 rfl) ?_
    refine fz_geti C hF hT (fz_pl hk0) (j := 1) rfl fl_X7_37 dX7_begin_79 ?_
    refine lv_icmp_ge (tgt := 114) C.1 C.2.1 dX7_begin_82 (by decide) (fun c1 => ?_) (fun c1 => ?_)
    · have h := fz_ip c1 h
      cases h
      exact fz_retv C hr hlk hT dX7_begin_114
    · have h := fz_iq c1 h
      refine lv_iload C.1 C.2.1 dX7_begin_85 (lv_at hl 4 rfl) ?_
      refine lv_iload_n C.1 C.2.1 dX7_begin_87 rfl (lv_at hl 3 rfl) ?_
      refine lv_icmp_eq (tgt := 108) C.1 C.2.1 dX7_begin_88 (by decide) (fun c2 => ?_) (fun c2 => ?_)
      · have h := fz_ip c2 h
        refine lv_iinc (v := (v4 + 1)) (lv' := [(4, .int (v4 + 1)), (0, .ref (G.1 10)), (1, .ref (G.1 k0)), (2, .ref (G.1 k1)), (3, .int v3)]) C.1 C.2.1 dX7_begin_108 hl (k := 4) rfl rfl (by decide) rfl (fun ls hl => ?_)
        refine lv_goto (tgt := 76) C.1 C.2.1 dX7_begin_111 (by decide) ?_
        exact hag76 (v4 + 1) M _ _ _ hT (lv_sub hl [1, 2, 3, 4, 0] rfl) h
      · have h := fz_iq c2 h
        refine lv_aload_n C.1 C.2.1 dX7_begin_91 rfl (lv_at hl 2 rfl) ?_
        refine fz_getr C hF hT (fz_st hk1) (j := 6) rfl fl_X7_40 dX7_begin_92 ?_
        refine lv_iload C.1 C.2.1 dX7_begin_95 (lv_at hl 4 rfl) ?_
        obtain ⟨g3, h⟩ := fz_gd_s h
        refine fz_za C hF hT (fz_st12 hk1) g3 dX7_begin_97 ?_
        refine lv_if_ne (tgt := 108) C.1 C.2.1 dX7_begin_98 (by decide) (fun c4 => ?_) (fun c4 => ?_)
        · have h := fz_ip c4 h
          refine lv_iinc (v := (v4 + 1)) (lv' := [(4, .int (v4 + 1)), (0, .ref (G.1 10)), (1, .ref (G.1 k0)), (2, .ref (G.1 k1)), (3, .int v3)]) C.1 C.2.1 dX7_begin_108 hl (k := 4) rfl rfl (by decide) rfl (fun ls hl => ?_)
          refine lv_goto (tgt := 76) C.1 C.2.1 dX7_begin_111 (by decide) ?_
          exact hag76 (v4 + 1) M _ _ _ hT (lv_sub hl [1, 2, 3, 4, 0] rfl) h
        · have h := fz_iq (not_not_intro c4) h
          refine lv_aload_n C.1 C.2.1 dX7_begin_101 rfl (lv_at hl 0 rfl) ?_
          refine lv_aload_n C.1 C.2.1 dX7_begin_102 rfl (lv_at hl 1 rfl) ?_
          refine lv_iload C.1 C.2.1 dX7_begin_103 (lv_at hl 4 rfl) ?_
          obtain ⟨M6, w7, h⟩ := fz_b1_s h
          refine fz_cv hT (fz_runV (np := 2) (rest := []) C hF hT (c_X7_weigh l G k0 hk0 v4 M M6 w7) fz_c10 (T := TX7) (N := 6) rfl cl_X7_44 rfl hl.1 rfl (Nat.le_of_ble_eq_true rfl) ⟨Nat.le_of_ble_eq_true rfl, Nat.le_of_ble_eq_true rfl, Nat.zero_le _, Nat.zero_le _⟩ dX7_begin_105) (fun H locs hT => ?_)
          refine lv_iinc (v := (v4 + 1)) (lv' := [(4, .int (v4 + 1)), (0, .ref (G.1 10)), (1, .ref (G.1 k0)), (2, .ref (G.1 k1)), (3, .int v3)]) C.1 C.2.1 dX7_begin_108 hl (k := 4) rfl rfl (by decide) rfl (fun ls hl => ?_)
          refine lv_goto (tgt := 76) C.1 C.2.1 dX7_begin_111 (by decide) ?_
          exact hag76 (v4 + 1) M6 _ _ _ hT (lv_sub hl [1, 2, 3, 4, 0] rfl) h
set_option maxHeartbeats 4000000 in
set_option maxRecDepth 100000 in
theorem b_X7_begin_76 {p : Program} {l : Launch} {e : Env} {s : State} {m : MethodId} {args : Array Value} {below : List Frame} {meth : Method} {c : Code} {G : fz_G} {k0 : Nat} (hk0 : fz_isP k0 = true) {k1 : Nat} (hk1 : fz_isS k1)    {v3 : Int32} {v4 : Int32} {M : fz_M} {H : Heap} {locs : List Loc} {ls : Array Slot} {M9 : fz_M} (C : CallFix p m c cX7_begin 5 s args wsL_law RX7) (hr : meth.sig.returnType = none) (hlk : meth.locks = false) (hF : fz_F G fz_KC s)  (hT : fz_T G fz_shC fz_KC s M H locs) (hl : lv_has ls 5 [(0, .ref (G.1 10)), (1, .ref (G.1 k0)), (2, .ref (G.1 k1)), (3, .int v3), (4, .int v4)]) (h : f_X7_begin_76 k0 k1 v3 v4 M = some M9) : W p l e (fz_rm 1 24) s m args below meth c H locs 0 0 (MQ below (fz_Qv G fz_shC fz_KC M9) args s 0 0 (fz_Fr G fz_KC)) (F0 m 76 ls []) :=
  b_X7_begin_76_l hk0 hk1 C hr hlk hF fz_fuel v4 M H locs ls hT hl h
set_option maxHeartbeats 4000000 in
set_option maxRecDepth 100000 in
theorem b_X7_begin_49_l {p : Program} {l : Launch} {e : Env} {s : State} {m : MethodId} {args : Array Value} {below : List Frame} {meth : Method} {c : Code} {G : fz_G} {k0 : Nat} (hk0 : fz_isP k0 = true) {k1 : Nat} (hk1 : fz_isS k1)    {v3 : Int32}  {M9 : fz_M} (C : CallFix p m c cX7_begin 5 s args wsL_law RX7) (hr : meth.sig.returnType = none) (hlk : meth.locks = false) (hF : fz_F G fz_KC s)  : ∀ (n : Nat) (v4 : Int32) (M : fz_M) (H : Heap) (locs : List Loc) (ls : Array Slot), fz_T G fz_shC fz_KC s M H locs → lv_has ls 5 [(0, .ref (G.1 10)), (1, .ref (G.1 k0)), (2, .ref (G.1 k1)), (3, .int v3), (4, .int v4)] → fz_lp (fun ag z => f_X7_begin_49_s k0 k1 ag v3 z.1 z.2) n (v4, M) = some M9 → W p l e (fz_rm 1 24) s m args below meth c H locs 0 0 (MQ below (fz_Qv G fz_shC fz_KC M9) args s 0 0 (fz_Fr G fz_KC)) (F0 m 49 ls []) := by
  intro n
  induction n with
  | zero =>
    intro v4 M H locs ls hT hl h
    cases h
  | succ n ih =>
    intro v4 M H locs ls hT hl h
    have h : f_X7_begin_49_s k0 k1 (fz_lp (fun ag z => f_X7_begin_49_s k0 k1 ag v3 z.1 z.2) n) v3 v4 M = some M9 := h
    have hag49 := ih
    generalize fz_lp (fun ag z => f_X7_begin_49_s k0 k1 ag v3 z.1 z.2) n = ag49 at h hag49
    refine lv_iload C.1 C.2.1 dX7_begin_49 (lv_at hl 4 rfl) ?_
    refine lv_aload_n C.1 C.2.1 dX7_begin_51 rfl (lv_at hl 1 rfl) ?_
    refine fz_geti C hF hT (fz_pl hk0) (j := 0) rfl fl_X7_34 dX7_begin_52 ?_
    refine lv_icmp_ge (tgt := 73) C.1 C.2.1 dX7_begin_55 (by decide) (fun c1 => ?_) (fun c1 => ?_)
    · have h := fz_ip c1 h
      refine lv_iconst (v := 0) C.1 C.2.1 dX7_begin_73 (by decide) ?_
      refine lv_istore (lv' := [(4, .int 0), (0, .ref (G.1 10)), (1, .ref (G.1 k0)), (2, .ref (G.1 k1)), (3, .int v3)]) C.1 C.2.1 dX7_begin_74 hl (by decide) rfl (fun ls hl => ?_)
      exact b_X7_begin_76 hk0 hk1 C hr hlk hF hT (lv_sub hl [1, 2, 3, 4, 0] rfl) h
    · have h := fz_iq c1 h
      refine lv_aload_n C.1 C.2.1 dX7_begin_58 rfl (lv_at hl 0 rfl) ?_
      refine fz_getr C hF hT fz_c10 (j := 2) rfl fl_X7_18 dX7_begin_59 ?_
      refine lv_iload C.1 C.2.1 dX7_begin_62 (lv_at hl 4 rfl) ?_
      refine lv_bipush (v := (-9)) C.1 C.2.1 dX7_begin_64 (by decide) ?_
      obtain ⟨g2, h⟩ := fz_gd_s h
      obtain ⟨M3, eM3, h⟩ := fz_bd_s h
      refine fz_ias C hF hT fz_c13 g2 dX7_begin_66 (fun H locs hT => ?_)
      rw [← eM3] at hT
      refine lv_iinc (v := (v4 + 1)) (lv' := [(4, .int (v4 + 1)), (0, .ref (G.1 10)), (1, .ref (G.1 k0)), (2, .ref (G.1 k1)), (3, .int v3)]) C.1 C.2.1 dX7_begin_67 hl (k := 4) rfl rfl (by decide) rfl (fun ls hl => ?_)
      refine lv_goto (tgt := 49) C.1 C.2.1 dX7_begin_70 (by decide) ?_
      exact hag49 (v4 + 1) M3 _ _ _ hT (lv_sub hl [1, 2, 3, 4, 0] rfl) h
set_option maxHeartbeats 4000000 in
set_option maxRecDepth 100000 in
theorem b_X7_begin_49 {p : Program} {l : Launch} {e : Env} {s : State} {m : MethodId} {args : Array Value} {below : List Frame} {meth : Method} {c : Code} {G : fz_G} {k0 : Nat} (hk0 : fz_isP k0 = true) {k1 : Nat} (hk1 : fz_isS k1)    {v3 : Int32} {v4 : Int32} {M : fz_M} {H : Heap} {locs : List Loc} {ls : Array Slot} {M9 : fz_M} (C : CallFix p m c cX7_begin 5 s args wsL_law RX7) (hr : meth.sig.returnType = none) (hlk : meth.locks = false) (hF : fz_F G fz_KC s)  (hT : fz_T G fz_shC fz_KC s M H locs) (hl : lv_has ls 5 [(0, .ref (G.1 10)), (1, .ref (G.1 k0)), (2, .ref (G.1 k1)), (3, .int v3), (4, .int v4)]) (h : f_X7_begin_49 k0 k1 v3 v4 M = some M9) : W p l e (fz_rm 1 24) s m args below meth c H locs 0 0 (MQ below (fz_Qv G fz_shC fz_KC M9) args s 0 0 (fz_Fr G fz_KC)) (F0 m 49 ls []) :=
  b_X7_begin_49_l hk0 hk1 C hr hlk hF fz_fuel v4 M H locs ls hT hl h
set_option maxHeartbeats 4000000 in
set_option maxRecDepth 100000 in
theorem b_X7_begin_3_l {p : Program} {l : Launch} {e : Env} {s : State} {m : MethodId} {args : Array Value} {below : List Frame} {meth : Method} {c : Code} {G : fz_G} {k0 : Nat} (hk0 : fz_isP k0 = true) {k1 : Nat} (hk1 : fz_isS k1)    {v3 : Int32}  {M9 : fz_M} (C : CallFix p m c cX7_begin 5 s args wsL_law RX7) (hr : meth.sig.returnType = none) (hlk : meth.locks = false) (hF : fz_F G fz_KC s)  : ∀ (n : Nat) (v4 : Int32) (M : fz_M) (H : Heap) (locs : List Loc) (ls : Array Slot), fz_T G fz_shC fz_KC s M H locs → lv_has ls 5 [(0, .ref (G.1 10)), (1, .ref (G.1 k0)), (2, .ref (G.1 k1)), (3, .int v3), (4, .int v4)] → fz_lp (fun ag z => f_X7_begin_3_s k0 k1 ag v3 z.1 z.2) n (v4, M) = some M9 → W p l e (fz_rm 1 24) s m args below meth c H locs 0 0 (MQ below (fz_Qv G fz_shC fz_KC M9) args s 0 0 (fz_Fr G fz_KC)) (F0 m 3 ls []) := by
  intro n
  induction n with
  | zero =>
    intro v4 M H locs ls hT hl h
    cases h
  | succ n ih =>
    intro v4 M H locs ls hT hl h
    have h : f_X7_begin_3_s k0 k1 (fz_lp (fun ag z => f_X7_begin_3_s k0 k1 ag v3 z.1 z.2) n) v3 v4 M = some M9 := h
    have hag3 := ih
    generalize fz_lp (fun ag z => f_X7_begin_3_s k0 k1 ag v3 z.1 z.2) n = ag3 at h hag3
    refine lv_iload C.1 C.2.1 dX7_begin_3 (lv_at hl 4 rfl) ?_
    refine lv_aload_n C.1 C.2.1 dX7_begin_5 rfl (lv_at hl 1 rfl) ?_
    refine fz_geti C hF hT (fz_pl hk0) (j := 2) rfl fl_X7_24 dX7_begin_6 ?_
    refine lv_icmp_ge (tgt := 46) C.1 C.2.1 dX7_begin_9 (by decide) (fun c1 => ?_) (fun c1 => ?_)
    · have h := fz_ip c1 h
      refine lv_iconst (v := 0) C.1 C.2.1 dX7_begin_46 (by decide) ?_
      refine lv_istore (lv' := [(4, .int 0), (0, .ref (G.1 10)), (1, .ref (G.1 k0)), (2, .ref (G.1 k1)), (3, .int v3)]) C.1 C.2.1 dX7_begin_47 hl (by decide) rfl (fun ls hl => ?_)
      exact b_X7_begin_49 hk0 hk1 C hr hlk hF hT (lv_sub hl [1, 2, 3, 4, 0] rfl) h
    · have h := fz_iq c1 h
      refine lv_aload_n C.1 C.2.1 dX7_begin_12 rfl (lv_at hl 0 rfl) ?_
      refine fz_getr C hF hT fz_c10 (j := 0) rfl fl_X7_9 dX7_begin_13 ?_
      refine lv_iload C.1 C.2.1 dX7_begin_16 (lv_at hl 4 rfl) ?_
      refine lv_aload_n C.1 C.2.1 dX7_begin_18 rfl (lv_at hl 2 rfl) ?_
      refine fz_getr C hF hT (fz_st hk1) (j := 1) rfl fl_X7_30 dX7_begin_19 ?_
      refine lv_iload C.1 C.2.1 dX7_begin_22 (lv_at hl 4 rfl) ?_
      obtain ⟨g2, h⟩ := fz_gd_s h
      refine fz_ia C hF hT (fz_st1 hk1) g2 dX7_begin_24 ?_
      obtain ⟨g3, h⟩ := fz_gd_s h
      obtain ⟨M4, eM4, h⟩ := fz_bd_s h
      refine fz_ias C hF hT fz_c11 g3 dX7_begin_25 (fun H locs hT => ?_)
      rw [← eM4] at hT
      refine lv_aload_n C.1 C.2.1 dX7_begin_26 rfl (lv_at hl 0 rfl) ?_
      refine fz_getr C hF hT fz_c10 (j := 1) rfl fl_X7_15 dX7_begin_27 ?_
      refine lv_iload C.1 C.2.1 dX7_begin_30 (lv_at hl 4 rfl) ?_
      refine lv_aload_n C.1 C.2.1 dX7_begin_32 rfl (lv_at hl 2 rfl) ?_
      refine fz_getr C hF hT (fz_st hk1) (j := 2) rfl fl_X7_33 dX7_begin_33 ?_
      refine lv_iload C.1 C.2.1 dX7_begin_36 (lv_at hl 4 rfl) ?_
      obtain ⟨g5, h⟩ := fz_gd_s h
      refine fz_ia C hF hT (fz_st2 hk1) g5 dX7_begin_38 ?_
      obtain ⟨g6, h⟩ := fz_gd_s h
      obtain ⟨M7, eM7, h⟩ := fz_bd_s h
      refine fz_ias C hF hT fz_c12 g6 dX7_begin_39 (fun H locs hT => ?_)
      rw [← eM7] at hT
      refine lv_iinc (v := (v4 + 1)) (lv' := [(4, .int (v4 + 1)), (0, .ref (G.1 10)), (1, .ref (G.1 k0)), (2, .ref (G.1 k1)), (3, .int v3)]) C.1 C.2.1 dX7_begin_40 hl (k := 4) rfl rfl (by decide) rfl (fun ls hl => ?_)
      refine lv_goto (tgt := 3) C.1 C.2.1 dX7_begin_43 (by decide) ?_
      exact hag3 (v4 + 1) M7 _ _ _ hT (lv_sub hl [1, 2, 3, 4, 0] rfl) h
set_option maxHeartbeats 4000000 in
set_option maxRecDepth 100000 in
theorem b_X7_begin_3 {p : Program} {l : Launch} {e : Env} {s : State} {m : MethodId} {args : Array Value} {below : List Frame} {meth : Method} {c : Code} {G : fz_G} {k0 : Nat} (hk0 : fz_isP k0 = true) {k1 : Nat} (hk1 : fz_isS k1)    {v3 : Int32} {v4 : Int32} {M : fz_M} {H : Heap} {locs : List Loc} {ls : Array Slot} {M9 : fz_M} (C : CallFix p m c cX7_begin 5 s args wsL_law RX7) (hr : meth.sig.returnType = none) (hlk : meth.locks = false) (hF : fz_F G fz_KC s)  (hT : fz_T G fz_shC fz_KC s M H locs) (hl : lv_has ls 5 [(0, .ref (G.1 10)), (1, .ref (G.1 k0)), (2, .ref (G.1 k1)), (3, .int v3), (4, .int v4)]) (h : f_X7_begin_3 k0 k1 v3 v4 M = some M9) : W p l e (fz_rm 1 24) s m args below meth c H locs 0 0 (MQ below (fz_Qv G fz_shC fz_KC M9) args s 0 0 (fz_Fr G fz_KC)) (F0 m 3 ls []) :=
  b_X7_begin_3_l hk0 hk1 C hr hlk hF fz_fuel v4 M H locs ls hT hl h
set_option maxHeartbeats 4000000 in
set_option maxRecDepth 100000 in
theorem b_X7_begin_0 {p : Program} {l : Launch} {e : Env} {s : State} {m : MethodId} {args : Array Value} {below : List Frame} {meth : Method} {c : Code} {G : fz_G} {k0 : Nat} (hk0 : fz_isP k0 = true) {k1 : Nat} (hk1 : fz_isS k1)    {v3 : Int32} {M : fz_M} {H : Heap} {locs : List Loc} {ls : Array Slot} {M9 : fz_M} (C : CallFix p m c cX7_begin 5 s args wsL_law RX7) (hr : meth.sig.returnType = none) (hlk : meth.locks = false) (hF : fz_F G fz_KC s)  (hT : fz_T G fz_shC fz_KC s M H locs) (hl : lv_has ls 5 [(0, .ref (G.1 10)), (1, .ref (G.1 k0)), (2, .ref (G.1 k1)), (3, .int v3)]) (h : f_X7_begin k0 k1 v3 M = some M9) : W p l e (fz_rm 1 24) s m args below meth c H locs 0 0 (MQ below (fz_Qv G fz_shC fz_KC M9) args s 0 0 (fz_Fr G fz_KC)) (F0 m 0 ls []) := by
  refine lv_iconst (v := 0) C.1 C.2.1 dX7_begin_0 (by decide) ?_
  refine lv_istore (lv' := [(4, .int 0), (0, .ref (G.1 10)), (1, .ref (G.1 k0)), (2, .ref (G.1 k1)), (3, .int v3)]) C.1 C.2.1 dX7_begin_1 hl (by decide) rfl (fun ls hl => ?_)
  exact b_X7_begin_3 hk0 hk1 C hr hlk hF hT (lv_sub hl [1, 2, 3, 4, 0] rfl) h
set_option maxRecDepth 100000 in
theorem c_X7_begin (l : Launch) (G : fz_G) (k0 : Nat) (hk0 : fz_isP k0 = true) (k1 : Nat) (hk1 : fz_isS k1) (a2 : Int32) (M : fz_M) (M9 : fz_M) (h : f_X7_begin k0 k1 a2 M = some M9) : fz_Me l yX7_begin cX7_begin 5 none 1 24 G fz_shC fz_KC [.ref (G.1 10), .ref (G.1 k0), .ref (G.1 k1), .int a2] M (fz_Qv G fz_shC fz_KC M9) := by
  refine fz_body (by decide) (Nat.le_of_ble_eq_true rfl) ?_
  intro p e s m args below meth c H locs ls C hr hlk hF hT hl
  have C : CallFix p m c cX7_begin 5 s args wsL_law RX7 := C
  have hl : lv_has ls 5 [(0, .ref (G.1 10)), (1, .ref (G.1 k0)), (2, .ref (G.1 k1)), (3, .int a2)] := hl
  exact b_X7_begin_0 hk0 hk1 C hr hlk hF hT (lv_sub hl [0, 1, 2, 3] rfl) h
set_option maxHeartbeats 4000000 in
set_option maxRecDepth 100000 in
theorem b_X7_isLoose_0 {p : Program} {l : Launch} {e : Env} {s : State} {m : MethodId} {args : Array Value} {below : List Frame} {meth : Method} {c : Code} {G : fz_G} {k0 : Nat} (hk0 : fz_isP k0 = true)    {v2 : Int32} {v3 : Int32} {M : fz_M} {H : Heap} {locs : List Loc} {ls : Array Slot} {r : Int32} (C : CallFix p m c cX7_isLoose 5 s args wsL_law RX7) (hr : meth.sig.returnType = (some .boolean)) (hlk : meth.locks = false) (hF : fz_F G fz_KC s)  (hT : fz_T G fz_shC fz_KC s M H locs) (hl : lv_has ls 5 [(0, .ref (G.1 10)), (1, .ref (G.1 k0)), (2, .int v2), (3, .int v3)]) (h : f_X7_isLoose k0 v2 v3 M = some r) : W p l e (fz_rm 2 43) s m args below meth c H locs 0 0 (MQ below (fz_Qi G fz_shC fz_KC r M) args s 0 0 (fz_Fr G fz_KC)) (F0 m 0 ls []) := by
  refine lv_aload_n C.1 C.2.1 dX7_isLoose_0 rfl (lv_at hl 1 rfl) ?_
  refine lv_aload_n C.1 C.2.1 dX7_isLoose_1 rfl (lv_at hl 0 rfl) ?_
  refine fz_getr C hF hT fz_c10 (j := 0) rfl fl_X7_9 dX7_isLoose_2 ?_
  refine lv_iload_n C.1 C.2.1 dX7_isLoose_5 rfl (lv_at hl 2 rfl) ?_
  obtain ⟨g1, h⟩ := fz_gd_s h
  refine fz_ia C hF hT fz_c11 g1 dX7_isLoose_6 ?_
  refine lv_iload_n C.1 C.2.1 dX7_isLoose_7 rfl (lv_at hl 3 rfl) ?_
  obtain ⟨r2, w4, h⟩ := fz_b1_s h
  refine fz_ci hT (fz_runV (np := 2) (rest := []) C hF hT (c_X3_waterIn l G k0 hk0 (fz_g M 11 v2) v3 M r2 w4) (fz_pl hk0) (T := TX3) (N := 12) rfl cl_X7_74 rfl hl.1 rfl (Nat.le_of_ble_eq_true rfl) ⟨Nat.le_of_ble_eq_true rfl, Nat.le_of_ble_eq_true rfl, Nat.zero_le _, Nat.zero_le _⟩ dX7_isLoose_8) (fun H locs hT => ?_)
  refine lv_istore (lv' := [(4, .int r2), (0, .ref (G.1 10)), (1, .ref (G.1 k0)), (2, .int v2), (3, .int v3)]) C.1 C.2.1 dX7_isLoose_11 hl (by decide) rfl (fun ls hl => ?_)
  refine lv_iload C.1 C.2.1 dX7_isLoose_13 (lv_at hl 0 rfl) ?_
  refine lv_aload_n C.1 C.2.1 dX7_isLoose_15 rfl (lv_at hl 2 rfl) ?_
  refine fz_getr C hF hT (fz_pl hk0) (j := 10) rfl fl_X7_78 dX7_isLoose_16 ?_
  refine lv_iload_n C.1 C.2.1 dX7_isLoose_19 rfl (lv_at hl 3 rfl) ?_
  obtain ⟨g5, h⟩ := fz_gd_s h
  refine fz_ia C hF hT (fz_pl8 hk0) g5 dX7_isLoose_20 ?_
  refine lv_icmp_lt (tgt := 39) C.1 C.2.1 dX7_isLoose_21 (by decide) (fun c6 => ?_) (fun c6 => ?_)
  · have h := fz_ip c6 h
    refine lv_iconst (v := 0) C.1 C.2.1 dX7_isLoose_39 (by decide) ?_
    cases h
    exact fz_retz C hr hlk rfl hT dX7_isLoose_40
  · have h := fz_iq c6 h
    refine lv_iload C.1 C.2.1 dX7_isLoose_24 (lv_at hl 0 rfl) ?_
    refine lv_aload_n C.1 C.2.1 dX7_isLoose_26 rfl (lv_at hl 1 rfl) ?_
    refine fz_getr C hF hT fz_c10 (j := 1) rfl fl_X7_15 dX7_isLoose_27 ?_
    refine lv_iload_n C.1 C.2.1 dX7_isLoose_30 rfl (lv_at hl 3 rfl) ?_
    obtain ⟨g7, h⟩ := fz_gd_s h
    refine fz_ia C hF hT fz_c12 g7 dX7_isLoose_31 ?_
    refine lv_icmp_le (tgt := 39) C.1 C.2.1 dX7_isLoose_32 (by decide) (fun c8 => ?_) (fun c8 => ?_)
    · have h := fz_ip c8 h
      refine lv_iconst (v := 0) C.1 C.2.1 dX7_isLoose_39 (by decide) ?_
      cases h
      exact fz_retz C hr hlk rfl hT dX7_isLoose_40
    · have h := fz_iq c8 h
      refine lv_iconst (v := 1) C.1 C.2.1 dX7_isLoose_35 (by decide) ?_
      refine lv_goto (tgt := 40) C.1 C.2.1 dX7_isLoose_36 (by decide) ?_
      cases h
      exact fz_retz C hr hlk rfl hT dX7_isLoose_40
set_option maxRecDepth 100000 in
theorem c_X7_isLoose (l : Launch) (G : fz_G) (k0 : Nat) (hk0 : fz_isP k0 = true) (a1 : Int32) (a2 : Int32) (M : fz_M) (r : Int32) (h : f_X7_isLoose k0 a1 a2 M = some r) : fz_Me l yX7_isLoose cX7_isLoose 5 (some .boolean) 2 43 G fz_shC fz_KC [.ref (G.1 10), .ref (G.1 k0), .int a1, .int a2] M (fz_Qi G fz_shC fz_KC r M) := by
  refine fz_body (by decide) (Nat.le_of_ble_eq_true rfl) ?_
  intro p e s m args below meth c H locs ls C hr hlk hF hT hl
  have C : CallFix p m c cX7_isLoose 5 s args wsL_law RX7 := C
  have hl : lv_has ls 5 [(0, .ref (G.1 10)), (1, .ref (G.1 k0)), (2, .int a1), (3, .int a2)] := hl
  exact b_X7_isLoose_0 hk0 C hr hlk hF hT (lv_sub hl [0, 1, 2, 3] rfl) h
set_option maxHeartbeats 4000000 in
set_option maxRecDepth 100000 in
theorem b_X7_letGo_47 {p : Program} {l : Launch} {e : Env} {s : State} {m : MethodId} {args : Array Value} {below : List Frame} {meth : Method} {c : Code} {G : fz_G} {k3 : Nat} (hk3 : fz_isP k3 = true)    {v1 : Int32} {M : fz_M} {H : Heap} {locs : List Loc} {ls : Array Slot} {M9 : fz_M} (C : CallFix p m c cX7_letGo 6 s args wsL_law RX7) (hr : meth.sig.returnType = none) (hlk : meth.locks = false) (hF : fz_F G fz_KC s)  (hT : fz_T G fz_shC fz_KC s M H locs) (hl : lv_has ls 6 [(0, .ref (G.1 10)), (1, .int v1)]) (h : f_X7_letGo_47 k3 v1 M = some M9) : W p l e (fz_rm 0 0) s m args below meth c H locs 0 0 (MQ below (fz_Qv G fz_shC fz_KC M9) args s 0 0 (fz_Fr G fz_KC)) (F0 m 47 ls []) := by
  refine lv_aload_n C.1 C.2.1 dX7_letGo_47 rfl (lv_at hl 0 rfl) ?_
  refine lv_dup C.1 C.2.1 dX7_letGo_48 rfl ?_
  refine fz_geti C hF hT fz_c10 (j := 5) rfl fl_X7_60 dX7_letGo_49 ?_
  refine lv_iconst (v := 1) C.1 C.2.1 dX7_letGo_52 (by decide) ?_
  refine lv_iload_n C.1 C.2.1 dX7_letGo_53 rfl (lv_at hl 1 rfl) ?_
  refine lv_ishl C.1 C.2.1 dX7_letGo_54 ?_
  refine lv_ior C.1 C.2.1 dX7_letGo_55 ?_
  obtain ⟨M1, eM1, h⟩ := fz_bd_s h
  refine fz_puti C hF hT fz_c10 (j := 5) rfl fw_X7_60 dX7_letGo_56 (fun H locs hT => ?_)
  rw [← eM1] at hT
  cases h
  exact fz_retv C hr hlk hT dX7_letGo_59
set_option maxHeartbeats 4000000 in
set_option maxRecDepth 100000 in
theorem b_X7_letGo_0 {p : Program} {l : Launch} {e : Env} {s : State} {m : MethodId} {args : Array Value} {below : List Frame} {meth : Method} {c : Code} {G : fz_G} {k3 : Nat} (hk3 : fz_isP k3 = true)    {v1 : Int32} {v2 : Int32} {v3 : Int32} {M : fz_M} {H : Heap} {locs : List Loc} {ls : Array Slot} {M9 : fz_M} (C : CallFix p m c cX7_letGo 6 s args wsL_law RX7) (hr : meth.sig.returnType = none) (hlk : meth.locks = false) (hF : fz_F G fz_KC s)  (hT : fz_T G fz_shC fz_KC s M H locs) (hl : lv_has ls 6 [(0, .ref (G.1 10)), (1, .int v1), (2, .int v2), (3, .int v3), (4, .ref (G.1 k3))]) (h : f_X7_letGo k3 v1 v2 v3 M = some M9) : W p l e (fz_rm 0 0) s m args below meth c H locs 0 0 (MQ below (fz_Qv G fz_shC fz_KC M9) args s 0 0 (fz_Fr G fz_KC)) (F0 m 0 ls []) := by
  refine lv_aload C.1 C.2.1 dX7_letGo_0 (lv_at hl 4 rfl) ?_
  refine fz_getr C hF hT (fz_pl hk3) (j := 9) rfl fl_X7_81 dX7_letGo_2 ?_
  refine lv_iload_n C.1 C.2.1 dX7_letGo_5 rfl (lv_at hl 1 rfl) ?_
  obtain ⟨g1, h⟩ := fz_gd_s h
  refine fz_ia C hF hT (fz_pl7 hk3) g1 dX7_letGo_6 ?_
  obtain ⟨x2, ex2, h⟩ := fz_bd_s h
  refine fz_nmi ex2 ?_
  refine lv_istore (lv' := [(5, .int x2), (0, .ref (G.1 10)), (1, .int v1), (2, .int v2), (3, .int v3), (4, .ref (G.1 k3))]) C.1 C.2.1 dX7_letGo_7 hl (by decide) rfl (fun ls hl => ?_)
  refine lv_aload_n C.1 C.2.1 dX7_letGo_9 rfl (lv_at hl 1 rfl) ?_
  refine fz_getr C hF hT fz_c10 (j := 3) rfl fl_X7_21 dX7_letGo_10 ?_
  refine lv_iload_n C.1 C.2.1 dX7_letGo_13 rfl (lv_at hl 3 rfl) ?_
  obtain ⟨g3, h⟩ := fz_gd_s h
  refine fz_ia C hF hT fz_c14 g3 dX7_letGo_14 ?_
  refine lv_iload C.1 C.2.1 dX7_letGo_15 (lv_at hl 0 rfl) ?_
  refine lv_iadd C.1 C.2.1 dX7_letGo_17 ?_
  refine lv_aload C.1 C.2.1 dX7_letGo_18 (lv_at hl 5 rfl) ?_
  refine fz_getr C hF hT (fz_pl hk3) (j := 4) rfl fl_X7_84 dX7_letGo_20 ?_
  refine lv_iload_n C.1 C.2.1 dX7_letGo_23 rfl (lv_at hl 3 rfl) ?_
  obtain ⟨g4, h⟩ := fz_gd_s h
  refine fz_ia C hF hT (fz_pl2 hk3) g4 dX7_letGo_24 ?_
  refine lv_icmp_gt (tgt := 47) C.1 C.2.1 dX7_letGo_25 (by decide) (fun c5 => ?_) (fun c5 => ?_)
  · have h := fz_ip c5 h
    exact b_X7_letGo_47 hk3 C hr hlk hF hT (lv_sub hl [1, 2] rfl) h
  · have h := fz_iq c5 h
    refine lv_aload_n C.1 C.2.1 dX7_letGo_28 rfl (lv_at hl 1 rfl) ?_
    refine fz_getr C hF hT fz_c10 (j := 3) rfl fl_X7_21 dX7_letGo_29 ?_
    refine lv_iload_n C.1 C.2.1 dX7_letGo_32 rfl (lv_at hl 4 rfl) ?_
    obtain ⟨g6, h⟩ := fz_gd_s h
    refine fz_ia C hF hT fz_c14 g6 dX7_letGo_33 ?_
    refine lv_iload C.1 C.2.1 dX7_letGo_34 (lv_at hl 0 rfl) ?_
    refine lv_iadd C.1 C.2.1 dX7_letGo_36 ?_
    refine lv_aload C.1 C.2.1 dX7_letGo_37 (lv_at hl 5 rfl) ?_
    refine fz_getr C hF hT (fz_pl hk3) (j := 4) rfl fl_X7_84 dX7_letGo_39 ?_
    refine lv_iload_n C.1 C.2.1 dX7_letGo_42 rfl (lv_at hl 4 rfl) ?_
    obtain ⟨g7, h⟩ := fz_gd_s h
    refine fz_ia C hF hT (fz_pl2 hk3) g7 dX7_letGo_43 ?_
    refine lv_icmp_le (tgt := 60) C.1 C.2.1 dX7_letGo_44 (by decide) (fun c8 => ?_) (fun c8 => ?_)
    · have h := fz_ip c8 h
      refine lv_aload_n C.1 C.2.1 dX7_letGo_60 rfl (lv_at hl 1 rfl) ?_
      refine fz_getr C hF hT fz_c10 (j := 3) rfl fl_X7_21 dX7_letGo_61 ?_
      refine lv_iload_n C.1 C.2.1 dX7_letGo_64 rfl (lv_at hl 3 rfl) ?_
      refine lv_dup2_11 C.1 C.2.1 dX7_letGo_65 rfl rfl ?_
      obtain ⟨g9, h⟩ := fz_gd_s h
      refine fz_ia C hF hT fz_c14 g9 dX7_letGo_66 ?_
      refine lv_iload C.1 C.2.1 dX7_letGo_67 (lv_at hl 0 rfl) ?_
      refine lv_iadd C.1 C.2.1 dX7_letGo_69 ?_
      obtain ⟨g10, h⟩ := fz_gd_s h
      obtain ⟨M11, eM11, h⟩ := fz_bd_s h
      refine fz_ias C hF hT fz_c14 g10 dX7_letGo_70 (fun H locs hT => ?_)
      rw [← eM11] at hT
      refine lv_aload_n C.1 C.2.1 dX7_letGo_71 rfl (lv_at hl 1 rfl) ?_
      refine fz_getr C hF hT fz_c10 (j := 3) rfl fl_X7_21 dX7_letGo_72 ?_
      refine lv_iload_n C.1 C.2.1 dX7_letGo_75 rfl (lv_at hl 4 rfl) ?_
      refine lv_dup2_11 C.1 C.2.1 dX7_letGo_76 rfl rfl ?_
      obtain ⟨g12, h⟩ := fz_gd_s h
      refine fz_ia C hF hT fz_c14 g12 dX7_letGo_77 ?_
      refine lv_iload C.1 C.2.1 dX7_letGo_78 (lv_at hl 0 rfl) ?_
      refine lv_iadd C.1 C.2.1 dX7_letGo_80 ?_
      obtain ⟨g13, h⟩ := fz_gd_s h
      obtain ⟨M14, eM14, h⟩ := fz_bd_s h
      refine fz_ias C hF hT fz_c14 g13 dX7_letGo_81 (fun H locs hT => ?_)
      rw [← eM14] at hT
      refine lv_aload_n C.1 C.2.1 dX7_letGo_82 rfl (lv_at hl 1 rfl) ?_
      refine fz_getr C hF hT fz_c10 (j := 0) rfl fl_X7_9 dX7_letGo_83 ?_
      refine lv_iload_n C.1 C.2.1 dX7_letGo_86 rfl (lv_at hl 2 rfl) ?_
      refine lv_iload_n C.1 C.2.1 dX7_letGo_87 rfl (lv_at hl 4 rfl) ?_
      obtain ⟨g15, h⟩ := fz_gd_s h
      obtain ⟨M16, eM16, h⟩ := fz_bd_s h
      refine fz_ias C hF hT fz_c11 g15 dX7_letGo_88 (fun H locs hT => ?_)
      rw [← eM16] at hT
      refine lv_aload_n C.1 C.2.1 dX7_letGo_89 rfl (lv_at hl 1 rfl) ?_
      refine lv_dup C.1 C.2.1 dX7_letGo_90 rfl ?_
      refine fz_geti C hF hT fz_c10 (j := 4) rfl fl_X7_57 dX7_letGo_91 ?_
      refine lv_iconst (v := 1) C.1 C.2.1 dX7_letGo_94 (by decide) ?_
      refine lv_iload_n C.1 C.2.1 dX7_letGo_95 rfl (lv_at hl 2 rfl) ?_
      refine lv_ishl C.1 C.2.1 dX7_letGo_96 ?_
      refine lv_ior C.1 C.2.1 dX7_letGo_97 ?_
      obtain ⟨M17, eM17, h⟩ := fz_bd_s h
      refine fz_puti C hF hT fz_c10 (j := 4) rfl fw_X7_57 dX7_letGo_98 (fun H locs hT => ?_)
      rw [← eM17] at hT
      cases h
      exact fz_retv C hr hlk hT dX7_letGo_101
    · have h := fz_iq c8 h
      exact b_X7_letGo_47 hk3 C hr hlk hF hT (lv_sub hl [1, 2] rfl) h
set_option maxRecDepth 100000 in
theorem c_X7_letGo (l : Launch) (G : fz_G) (k3 : Nat) (hk3 : fz_isP k3 = true) (a0 : Int32) (a1 : Int32) (a2 : Int32) (M : fz_M) (M9 : fz_M) (h : f_X7_letGo k3 a0 a1 a2 M = some M9) : fz_Me l yX7_letGo cX7_letGo 6 none 0 0 G fz_shC fz_KC [.ref (G.1 10), .int a0, .int a1, .int a2, .ref (G.1 k3)] M (fz_Qv G fz_shC fz_KC M9) := by
  refine fz_body (by decide) (Nat.le_of_ble_eq_true rfl) ?_
  intro p e s m args below meth c H locs ls C hr hlk hF hT hl
  have C : CallFix p m c cX7_letGo 6 s args wsL_law RX7 := C
  have hl : lv_has ls 6 [(0, .ref (G.1 10)), (1, .int a0), (2, .int a1), (3, .int a2), (4, .ref (G.1 k3))] := hl
  exact b_X7_letGo_0 hk3 C hr hlk hF hT (lv_sub hl [0, 1, 2, 3, 4] rfl) h
set_option maxHeartbeats 4000000 in
set_option maxRecDepth 100000 in
theorem b_X7_passHour_35_l {p : Program} {l : Launch} {e : Env} {s : State} {m : MethodId} {args : Array Value} {below : List Frame} {meth : Method} {c : Code} {G : fz_G} {k0 : Nat} (hk0 : fz_isP k0 = true)    {v2 : Int32}  {M9 : fz_M} (C : CallFix p m c cX7_passHour 5 s args wsL_law RX7) (hr : meth.sig.returnType = none) (hlk : meth.locks = false) (hF : fz_F G fz_KC s)  : ∀ (n : Nat) (v3 : Int32) (M : fz_M) (H : Heap) (locs : List Loc) (ls : Array Slot), fz_T G fz_shC fz_KC s M H locs → lv_has ls 5 [(0, .ref (G.1 10)), (1, .ref (G.1 k0)), (2, .int v2), (3, .int v3)] → fz_lp (fun ag z => f_X7_passHour_35_s k0 ag v2 z.1 z.2) n (v3, M) = some M9 → W p l e (fz_rm 3 67) s m args below meth c H locs 0 0 (MQ below (fz_Qv G fz_shC fz_KC M9) args s 0 0 (fz_Fr G fz_KC)) (F0 m 35 ls []) := by
  intro n
  induction n with
  | zero =>
    intro v3 M H locs ls hT hl h
    cases h
  | succ n ih =>
    intro v3 M H locs ls hT hl h
    have h : f_X7_passHour_35_s k0 (fz_lp (fun ag z => f_X7_passHour_35_s k0 ag v2 z.1 z.2) n) v2 v3 M = some M9 := h
    have hag35 := ih
    generalize fz_lp (fun ag z => f_X7_passHour_35_s k0 ag v2 z.1 z.2) n = ag35 at h hag35
    refine lv_iload_n C.1 C.2.1 dX7_passHour_35 rfl (lv_at hl 3 rfl) ?_
    refine lv_aload_n C.1 C.2.1 dX7_passHour_36 rfl (lv_at hl 1 rfl) ?_
    refine fz_geti C hF hT (fz_pl hk0) (j := 2) rfl fl_X7_24 dX7_passHour_37 ?_
    refine lv_icmp_ge (tgt := 106) C.1 C.2.1 dX7_passHour_40 (by decide) (fun c1 => ?_) (fun c1 => ?_)
    · have h := fz_ip c1 h
      cases h
      exact fz_retv C hr hlk hT dX7_passHour_106
    · have h := fz_iq c1 h
      refine lv_aload_n C.1 C.2.1 dX7_passHour_43 rfl (lv_at hl 0 rfl) ?_
      refine fz_getr C hF hT fz_c10 (j := 0) rfl fl_X7_9 dX7_passHour_44 ?_
      refine lv_iload_n C.1 C.2.1 dX7_passHour_47 rfl (lv_at hl 3 rfl) ?_
      obtain ⟨g2, h⟩ := fz_gd_s h
      refine fz_ia C hF hT fz_c11 g2 dX7_passHour_48 ?_
      obtain ⟨x3, ex3, h⟩ := fz_bd_s h
      refine fz_nmi ex3 ?_
      refine lv_istore (lv' := [(4, .int x3), (0, .ref (G.1 10)), (1, .ref (G.1 k0)), (2, .int v2), (3, .int v3)]) C.1 C.2.1 dX7_passHour_49 hl (by decide) rfl (fun ls hl => ?_)
      refine lv_aload_n C.1 C.2.1 dX7_passHour_51 rfl (lv_at hl 1 rfl) ?_
      refine lv_aload_n C.1 C.2.1 dX7_passHour_52 rfl (lv_at hl 2 rfl) ?_
      refine lv_iload_n C.1 C.2.1 dX7_passHour_53 rfl (lv_at hl 4 rfl) ?_
      refine lv_iload_n C.1 C.2.1 dX7_passHour_54 rfl (lv_at hl 3 rfl) ?_
      obtain ⟨r4, w6, h⟩ := fz_b1_s h
      refine fz_ci hT (fz_runV (np := 3) (rest := []) C hF hT (c_X7_isLoose l G k0 hk0 v3 v2 M r4 w6) fz_c10 (T := TX7) (N := 6) rfl cl_X7_63 rfl hl.1 rfl (Nat.le_of_ble_eq_true rfl) ⟨Nat.le_of_ble_eq_true rfl, Nat.le_of_ble_eq_true rfl, Nat.zero_le _, Nat.zero_le _⟩ dX7_passHour_55) (fun H locs hT => ?_)
      refine lv_if_eq (tgt := 100) C.1 C.2.1 dX7_passHour_58 (by decide) (fun c7 => ?_) (fun c7 => ?_)
      · have h := fz_ip c7 h
        refine lv_iinc (v := (v3 + 1)) (lv' := [(3, .int (v3 + 1)), (4, .int x3), (0, .ref (G.1 10)), (1, .ref (G.1 k0)), (2, .int v2)]) C.1 C.2.1 dX7_passHour_100 hl (k := 4) rfl rfl (by decide) rfl (fun ls hl => ?_)
        refine lv_goto (tgt := 35) C.1 C.2.1 dX7_passHour_103 (by decide) ?_
        exact hag35 (v3 + 1) M _ _ _ hT (lv_sub hl [2, 3, 4, 0] rfl) h
      · have h := fz_iq c7 h
        refine lv_aload_n C.1 C.2.1 dX7_passHour_61 rfl (lv_at hl 1 rfl) ?_
        refine fz_getr C hF hT fz_c10 (j := 1) rfl fl_X7_15 dX7_passHour_62 ?_
        refine lv_iload_n C.1 C.2.1 dX7_passHour_65 rfl (lv_at hl 4 rfl) ?_
        refine lv_iconst (v := 0) C.1 C.2.1 dX7_passHour_66 (by decide) ?_
        obtain ⟨g8, h⟩ := fz_gd_s h
        obtain ⟨M9, eM9, h⟩ := fz_bd_s h
        refine fz_ias C hF hT fz_c12 g8 dX7_passHour_67 (fun H locs hT => ?_)
        rw [← eM9] at hT
        refine lv_aload_n C.1 C.2.1 dX7_passHour_68 rfl (lv_at hl 1 rfl) ?_
        refine fz_getr C hF hT fz_c10 (j := 2) rfl fl_X7_18 dX7_passHour_69 ?_
        refine lv_iload C.1 C.2.1 dX7_passHour_72 (lv_at hl 0 rfl) ?_
        obtain ⟨g10, h⟩ := fz_gd_s h
        refine fz_ia C hF hT fz_c13 g10 dX7_passHour_74 ?_
        refine lv_bipush (v := (-9)) C.1 C.2.1 dX7_passHour_75 (by decide) ?_
        refine lv_icmp_eq (tgt := 100) C.1 C.2.1 dX7_passHour_77 (by decide) (fun c11 => ?_) (fun c11 => ?_)
        · have h := fz_ip c11 h
          refine lv_iinc (v := (v3 + 1)) (lv' := [(3, .int (v3 + 1)), (4, .int x3), (0, .ref (G.1 10)), (1, .ref (G.1 k0)), (2, .int v2)]) C.1 C.2.1 dX7_passHour_100 hl (k := 4) rfl rfl (by decide) rfl (fun ls hl => ?_)
          refine lv_goto (tgt := 35) C.1 C.2.1 dX7_passHour_103 (by decide) ?_
          exact hag35 (v3 + 1) M9 _ _ _ hT (lv_sub hl [2, 3, 4, 0] rfl) h
        · have h := fz_iq c11 h
          refine lv_aload_n C.1 C.2.1 dX7_passHour_80 rfl (lv_at hl 1 rfl) ?_
          refine lv_iload_n C.1 C.2.1 dX7_passHour_81 rfl (lv_at hl 4 rfl) ?_
          refine lv_iload C.1 C.2.1 dX7_passHour_82 (lv_at hl 0 rfl) ?_
          refine lv_aload_n C.1 C.2.1 dX7_passHour_84 rfl (lv_at hl 2 rfl) ?_
          refine fz_getr C hF hT (fz_pl hk0) (j := 6) rfl fl_X7_67 dX7_passHour_85 ?_
          refine lv_aload_n C.1 C.2.1 dX7_passHour_88 rfl (lv_at hl 1 rfl) ?_
          refine fz_getr C hF hT fz_c10 (j := 2) rfl fl_X7_18 dX7_passHour_89 ?_
          refine lv_iload C.1 C.2.1 dX7_passHour_92 (lv_at hl 0 rfl) ?_
          obtain ⟨g12, h⟩ := fz_gd_s h
          refine fz_ia C hF hT fz_c13 g12 dX7_passHour_94 ?_
          obtain ⟨g13, h⟩ := fz_gd_s h
          refine fz_ia C hF hT (fz_pl4 hk0) g13 dX7_passHour_95 ?_
          refine lv_aload_n C.1 C.2.1 dX7_passHour_96 rfl (lv_at hl 2 rfl) ?_
          obtain ⟨M15, w16, h⟩ := fz_b1_s h
          refine fz_cv hT (fz_runV (np := 4) (rest := []) C hF hT (c_X7_letGo l G k0 hk0 v3 x3 (fz_g M9 (k0 + 4) (fz_g M9 13 x3)) M9 M15 w16) fz_c10 (T := TX7) (N := 6) rfl cl_X7_70 rfl hl.1 rfl (Nat.le_of_ble_eq_true rfl) ⟨Nat.le_of_ble_eq_true rfl, Nat.le_of_ble_eq_true rfl, Nat.zero_le _, Nat.zero_le _⟩ dX7_passHour_97) (fun H locs hT => ?_)
          refine lv_iinc (v := (v3 + 1)) (lv' := [(3, .int (v3 + 1)), (4, .int x3), (0, .ref (G.1 10)), (1, .ref (G.1 k0)), (2, .int v2)]) C.1 C.2.1 dX7_passHour_100 hl (k := 4) rfl rfl (by decide) rfl (fun ls hl => ?_)
          refine lv_goto (tgt := 35) C.1 C.2.1 dX7_passHour_103 (by decide) ?_
          exact hag35 (v3 + 1) M15 _ _ _ hT (lv_sub hl [2, 3, 4, 0] rfl) h
set_option maxHeartbeats 4000000 in
set_option maxRecDepth 100000 in
theorem b_X7_passHour_35 {p : Program} {l : Launch} {e : Env} {s : State} {m : MethodId} {args : Array Value} {below : List Frame} {meth : Method} {c : Code} {G : fz_G} {k0 : Nat} (hk0 : fz_isP k0 = true)    {v2 : Int32} {v3 : Int32} {M : fz_M} {H : Heap} {locs : List Loc} {ls : Array Slot} {M9 : fz_M} (C : CallFix p m c cX7_passHour 5 s args wsL_law RX7) (hr : meth.sig.returnType = none) (hlk : meth.locks = false) (hF : fz_F G fz_KC s)  (hT : fz_T G fz_shC fz_KC s M H locs) (hl : lv_has ls 5 [(0, .ref (G.1 10)), (1, .ref (G.1 k0)), (2, .int v2), (3, .int v3)]) (h : f_X7_passHour_35 k0 v2 v3 M = some M9) : W p l e (fz_rm 3 67) s m args below meth c H locs 0 0 (MQ below (fz_Qv G fz_shC fz_KC M9) args s 0 0 (fz_Fr G fz_KC)) (F0 m 35 ls []) :=
  b_X7_passHour_35_l hk0 C hr hlk hF fz_fuel v3 M H locs ls hT hl h
set_option maxHeartbeats 4000000 in
set_option maxRecDepth 100000 in
theorem b_X7_passHour_12_l {p : Program} {l : Launch} {e : Env} {s : State} {m : MethodId} {args : Array Value} {below : List Frame} {meth : Method} {c : Code} {G : fz_G} {k0 : Nat} (hk0 : fz_isP k0 = true)    {v2 : Int32}  {M9 : fz_M} (C : CallFix p m c cX7_passHour 5 s args wsL_law RX7) (hr : meth.sig.returnType = none) (hlk : meth.locks = false) (hF : fz_F G fz_KC s)  : ∀ (n : Nat) (v3 : Int32) (M : fz_M) (H : Heap) (locs : List Loc) (ls : Array Slot), fz_T G fz_shC fz_KC s M H locs → lv_has ls 5 [(0, .ref (G.1 10)), (1, .ref (G.1 k0)), (2, .int v2), (3, .int v3)] → fz_lp (fun ag z => f_X7_passHour_12_s k0 ag v2 z.1 z.2) n (v3, M) = some M9 → W p l e (fz_rm 3 67) s m args below meth c H locs 0 0 (MQ below (fz_Qv G fz_shC fz_KC M9) args s 0 0 (fz_Fr G fz_KC)) (F0 m 12 ls []) := by
  intro n
  induction n with
  | zero =>
    intro v3 M H locs ls hT hl h
    cases h
  | succ n ih =>
    intro v3 M H locs ls hT hl h
    have h : f_X7_passHour_12_s k0 (fz_lp (fun ag z => f_X7_passHour_12_s k0 ag v2 z.1 z.2) n) v2 v3 M = some M9 := h
    have hag12 := ih
    generalize fz_lp (fun ag z => f_X7_passHour_12_s k0 ag v2 z.1 z.2) n = ag12 at h hag12
    refine lv_iload_n C.1 C.2.1 dX7_passHour_12 rfl (lv_at hl 3 rfl) ?_
    refine lv_aload_n C.1 C.2.1 dX7_passHour_13 rfl (lv_at hl 1 rfl) ?_
    refine fz_geti C hF hT (fz_pl hk0) (j := 0) rfl fl_X7_34 dX7_passHour_14 ?_
    refine lv_icmp_ge (tgt := 33) C.1 C.2.1 dX7_passHour_17 (by decide) (fun c1 => ?_) (fun c1 => ?_)
    · have h := fz_ip c1 h
      refine lv_iconst (v := 0) C.1 C.2.1 dX7_passHour_33 (by decide) ?_
      refine lv_istore_n (lv' := [(3, .int 0), (0, .ref (G.1 10)), (1, .ref (G.1 k0)), (2, .int v2)]) C.1 C.2.1 dX7_passHour_34 rfl hl (by decide) rfl (fun ls hl => ?_)
      exact b_X7_passHour_35 hk0 C hr hlk hF hT (lv_sub hl [1, 2, 3, 0] rfl) h
    · have h := fz_iq c1 h
      refine lv_aload_n C.1 C.2.1 dX7_passHour_20 rfl (lv_at hl 0 rfl) ?_
      refine fz_getr C hF hT fz_c10 (j := 3) rfl fl_X7_21 dX7_passHour_21 ?_
      refine lv_iload_n C.1 C.2.1 dX7_passHour_24 rfl (lv_at hl 3 rfl) ?_
      refine lv_iconst (v := 0) C.1 C.2.1 dX7_passHour_25 (by decide) ?_
      obtain ⟨g2, h⟩ := fz_gd_s h
      obtain ⟨M3, eM3, h⟩ := fz_bd_s h
      refine fz_ias C hF hT fz_c14 g2 dX7_passHour_26 (fun H locs hT => ?_)
      rw [← eM3] at hT
      refine lv_iinc (v := (v3 + 1)) (lv' := [(3, .int (v3 + 1)), (0, .ref (G.1 10)), (1, .ref (G.1 k0)), (2, .int v2)]) C.1 C.2.1 dX7_passHour_27 hl (k := 3) rfl rfl (by decide) rfl (fun ls hl => ?_)
      refine lv_goto (tgt := 12) C.1 C.2.1 dX7_passHour_30 (by decide) ?_
      exact hag12 (v3 + 1) M3 _ _ _ hT (lv_sub hl [1, 2, 3, 0] rfl) h
set_option maxHeartbeats 4000000 in
set_option maxRecDepth 100000 in
theorem b_X7_passHour_12 {p : Program} {l : Launch} {e : Env} {s : State} {m : MethodId} {args : Array Value} {below : List Frame} {meth : Method} {c : Code} {G : fz_G} {k0 : Nat} (hk0 : fz_isP k0 = true)    {v2 : Int32} {v3 : Int32} {M : fz_M} {H : Heap} {locs : List Loc} {ls : Array Slot} {M9 : fz_M} (C : CallFix p m c cX7_passHour 5 s args wsL_law RX7) (hr : meth.sig.returnType = none) (hlk : meth.locks = false) (hF : fz_F G fz_KC s)  (hT : fz_T G fz_shC fz_KC s M H locs) (hl : lv_has ls 5 [(0, .ref (G.1 10)), (1, .ref (G.1 k0)), (2, .int v2), (3, .int v3)]) (h : f_X7_passHour_12 k0 v2 v3 M = some M9) : W p l e (fz_rm 3 67) s m args below meth c H locs 0 0 (MQ below (fz_Qv G fz_shC fz_KC M9) args s 0 0 (fz_Fr G fz_KC)) (F0 m 12 ls []) :=
  b_X7_passHour_12_l hk0 C hr hlk hF fz_fuel v3 M H locs ls hT hl h
set_option maxHeartbeats 4000000 in
set_option maxRecDepth 100000 in
theorem b_X7_passHour_0 {p : Program} {l : Launch} {e : Env} {s : State} {m : MethodId} {args : Array Value} {below : List Frame} {meth : Method} {c : Code} {G : fz_G} {k0 : Nat} (hk0 : fz_isP k0 = true)    {v2 : Int32} {M : fz_M} {H : Heap} {locs : List Loc} {ls : Array Slot} {M9 : fz_M} (C : CallFix p m c cX7_passHour 5 s args wsL_law RX7) (hr : meth.sig.returnType = none) (hlk : meth.locks = false) (hF : fz_F G fz_KC s)  (hT : fz_T G fz_shC fz_KC s M H locs) (hl : lv_has ls 5 [(0, .ref (G.1 10)), (1, .ref (G.1 k0)), (2, .int v2)]) (h : f_X7_passHour k0 v2 M = some M9) : W p l e (fz_rm 3 67) s m args below meth c H locs 0 0 (MQ below (fz_Qv G fz_shC fz_KC M9) args s 0 0 (fz_Fr G fz_KC)) (F0 m 0 ls []) := by
  refine lv_aload_n C.1 C.2.1 dX7_passHour_0 rfl (lv_at hl 0 rfl) ?_
  refine lv_iconst (v := 0) C.1 C.2.1 dX7_passHour_1 (by decide) ?_
  obtain ⟨M1, eM1, h⟩ := fz_bd_s h
  refine fz_puti C hF hT fz_c10 (j := 4) rfl fw_X7_57 dX7_passHour_2 (fun H locs hT => ?_)
  rw [← eM1] at hT
  refine lv_aload_n C.1 C.2.1 dX7_passHour_5 rfl (lv_at hl 0 rfl) ?_
  refine lv_iconst (v := 0) C.1 C.2.1 dX7_passHour_6 (by decide) ?_
  obtain ⟨M2, eM2, h⟩ := fz_bd_s h
  refine fz_puti C hF hT fz_c10 (j := 5) rfl fw_X7_60 dX7_passHour_7 (fun H locs hT => ?_)
  rw [← eM2] at hT
  refine lv_iconst (v := 0) C.1 C.2.1 dX7_passHour_10 (by decide) ?_
  refine lv_istore_n (lv' := [(3, .int 0), (0, .ref (G.1 10)), (1, .ref (G.1 k0)), (2, .int v2)]) C.1 C.2.1 dX7_passHour_11 rfl hl (by decide) rfl (fun ls hl => ?_)
  exact b_X7_passHour_12 hk0 C hr hlk hF hT (lv_sub hl [1, 2, 3, 0] rfl) h
set_option maxRecDepth 100000 in
theorem c_X7_passHour (l : Launch) (G : fz_G) (k0 : Nat) (hk0 : fz_isP k0 = true) (a1 : Int32) (M : fz_M) (M9 : fz_M) (h : f_X7_passHour k0 a1 M = some M9) : fz_Me l yX7_passHour cX7_passHour 5 none 3 67 G fz_shC fz_KC [.ref (G.1 10), .ref (G.1 k0), .int a1] M (fz_Qv G fz_shC fz_KC M9) := by
  refine fz_body (by decide) (Nat.le_of_ble_eq_true rfl) ?_
  intro p e s m args below meth c H locs ls C hr hlk hF hT hl
  have C : CallFix p m c cX7_passHour 5 s args wsL_law RX7 := C
  have hl : lv_has ls 5 [(0, .ref (G.1 10)), (1, .ref (G.1 k0)), (2, .int a1)] := hl
  exact b_X7_passHour_0 hk0 C hr hlk hF hT (lv_sub hl [0, 1, 2] rfl) h
