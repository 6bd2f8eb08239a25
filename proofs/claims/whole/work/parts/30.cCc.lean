set_option maxHeartbeats 4000000 in
set_option maxRecDepth 100000 in
theorem b_X7_passHours_3_l {p : Program} {l : Launch} {e : Env} {s : State} {m : MethodId} {args : Array Value} {below : List Frame} {meth : Method} {c : Code} {G : fz_G} {k0 : Nat} (hk0 : fz_isP k0 = true)    {v2 : Int32} {v3 : Int32}  {M9 : fz_M} (C : CallFix p m c cX7_passHours 5 s args wsL_law RX7) (hr : meth.sig.returnType = none) (hlk : meth.locks = false) (hF : fz_F G fz_KC s)  : ∀ (n : Nat) (v4 : Int32) (M : fz_M) (H : Heap) (locs : List Loc) (ls : Array Slot), fz_T G fz_shC fz_KC s M H locs → lv_has ls 5 [(0, .ref (G.1 10)), (1, .ref (G.1 k0)), (2, .int v2), (3, .int v3), (4, .int v4)] → fz_lp (fun ag z => f_X7_passHours_3_s k0 ag v2 v3 z.1 z.2) n (v4, M) = some M9 → W p l e (fz_rm 4 91) s m args below meth c H locs 0 0 (MQ below (fz_Qv G fz_shC fz_KC M9) args s 0 0 (fz_Fr G fz_KC)) (F0 m 3 ls []) := by
  intro n
  induction n with
  | zero =>
    intro v4 M H locs ls hT hl h
    cases h
  | succ n ih =>
    intro v4 M H locs ls hT hl h
    have h : f_X7_passHours_3_s k0 (fz_lp (fun ag z => f_X7_passHours_3_s k0 ag v2 v3 z.1 z.2) n) v2 v3 v4 M = some M9 := h
    have hag3 := ih
    generalize fz_lp (fun ag z => f_X7_passHours_3_s k0 ag v2 v3 z.1 z.2) n = ag3 at h hag3
    refine lv_iload C.1 C.2.1 dX7_passHours_3 (lv_at hl 4 rfl) ?_
    refine lv_iload_n C.1 C.2.1 dX7_passHours_5 rfl (lv_at hl 3 rfl) ?_
    refine lv_icmp_ge (tgt := 29) C.1 C.2.1 dX7_passHours_6 (by decide) (fun c1 => ?_) (fun c1 => ?_)
    · have h := fz_ip c1 h
      cases h
      exact fz_retv C hr hlk hT dX7_passHours_29
    · have h := fz_iq c1 h
      refine lv_aload_n C.1 C.2.1 dX7_passHours_9 rfl (lv_at hl 0 rfl) ?_
      refine lv_aload_n C.1 C.2.1 dX7_passHours_10 rfl (lv_at hl 1 rfl) ?_
      refine lv_iload_n C.1 C.2.1 dX7_passHours_11 rfl (lv_at hl 2 rfl) ?_
      obtain ⟨M3, w4, h⟩ := fz_b1_s h
      refine fz_cv hT (fz_runV (np := 2) (rest := []) C hF hT (c_X7_passHour l G k0 hk0 v2 M M3 w4) fz_c10 (T := TX7) (N := 6) rfl cl_X7_54 rfl hl.1 rfl (Nat.le_of_ble_eq_true rfl) ⟨Nat.le_of_ble_eq_true rfl, Nat.le_of_ble_eq_true rfl, Nat.zero_le _, Nat.zero_le _⟩ dX7_passHours_12) (fun H locs hT => ?_)
      refine lv_aload_n C.1 C.2.1 dX7_passHours_15 rfl (lv_at hl 0 rfl) ?_
      refine fz_geti C hF hT fz_c10 (j := 4) rfl fl_X7_57 dX7_passHours_16 ?_
      refine lv_if_ne (tgt := 23) C.1 C.2.1 dX7_passHours_19 (by decide) (fun c5 => ?_) (fun c5 => ?_)
      · have h := fz_ip c5 h
        refine lv_iinc (v := (v4 + 1)) (lv' := [(4, .int (v4 + 1)), (0, .ref (G.1 10)), (1, .ref (G.1 k0)), (2, .int v2), (3, .int v3)]) C.1 C.2.1 dX7_passHours_23 hl (k := 4) rfl rfl (by decide) rfl (fun ls hl => ?_)
        refine lv_goto (tgt := 3) C.1 C.2.1 dX7_passHours_26 (by decide) ?_
        exact hag3 (v4 + 1) M3 _ _ _ hT (lv_sub hl [1, 2, 3, 4, 0] rfl) h
      · have h := fz_iq (not_not_intro c5) h
        cases h
        exact fz_retv C hr hlk hT dX7_passHours_22
set_option maxHeartbeats 4000000 in
set_option maxRecDepth 100000 in
theorem b_X7_passHours_3 {p : Program} {l : Launch} {e : Env} {s : State} {m : MethodId} {args : Array Value} {below : List Frame} {meth : Method} {c : Code} {G : fz_G} {k0 : Nat} (hk0 : fz_isP k0 = true)    {v2 : Int32} {v3 : Int32} {v4 : Int32} {M : fz_M} {H : Heap} {locs : List Loc} {ls : Array Slot} {M9 : fz_M} (C : CallFix p m c cX7_passHours 5 s args wsL_law RX7) (hr : meth.sig.returnType = none) (hlk : meth.locks = false) (hF : fz_F G fz_KC s)  (hT : fz_T G fz_shC fz_KC s M H locs) (hl : lv_has ls 5 [(0, .ref (G.1 10)), (1, .ref (G.1 k0)), (2, .int v2), (3, .int v3), (4, .int v4)]) (h : f_X7_passHours_3 k0 v2 v3 v4 M = some M9) : W p l e (fz_rm 4 91) s m args below meth c H locs 0 0 (MQ below (fz_Qv G fz_shC fz_KC M9) args s 0 0 (fz_Fr G fz_KC)) (F0 m 3 ls []) :=
  b_X7_passHours_3_l hk0 C hr hlk hF fz_fuel v4 M H locs ls hT hl h
set_option maxHeartbeats 4000000 in
set_option maxRecDepth 100000 in
theorem b_X7_passHours_0 {p : Program} {l : Launch} {e : Env} {s : State} {m : MethodId} {args : Array Value} {below : List Frame} {meth : Method} {c : Code} {G : fz_G} {k0 : Nat} (hk0 : fz_isP k0 = true)    {v2 : Int32} {v3 : Int32} {M : fz_M} {H : Heap} {locs : List Loc} {ls : Array Slot} {M9 : fz_M} (C : CallFix p m c cX7_passHours 5 s args wsL_law RX7) (hr : meth.sig.returnType = none) (hlk : meth.locks = false) (hF : fz_F G fz_KC s)  (hT : fz_T G fz_shC fz_KC s M H locs) (hl : lv_has ls 5 [(0, .ref (G.1 10)), (1, .ref (G.1 k0)), (2, .int v2), (3, .int v3)]) (h : f_X7_passHours k0 v2 v3 M = some M9) : W p l e (fz_rm 4 91) s m args below meth c H locs 0 0 (MQ below (fz_Qv G fz_shC fz_KC M9) args s 0 0 (fz_Fr G fz_KC)) (F0 m 0 ls []) := by
  refine lv_iconst (v := 0) C.1 C.2.1 dX7_passHours_0 (by decide) ?_
  refine lv_istore (lv' := [(4, .int 0), (0, .ref (G.1 10)), (1, .ref (G.1 k0)), (2, .int v2), (3, .int v3)]) C.1 C.2.1 dX7_passHours_1 hl (by decide) rfl (fun ls hl => ?_)
  exact b_X7_passHours_3 hk0 C hr hlk hF hT (lv_sub hl [1, 2, 3, 4, 0] rfl) h
set_option maxRecDepth 100000 in
theorem c_X7_passHours (l : Launch) (G : fz_G) (k0 : Nat) (hk0 : fz_isP k0 = true) (a1 : Int32) (a2 : Int32) (M : fz_M) (M9 : fz_M) (h : f_X7_passHours k0 a1 a2 M = some M9) : fz_Me l yX7_passHours cX7_passHours 5 none 4 91 G fz_shC fz_KC [.ref (G.1 10), .ref (G.1 k0), .int a1, .int a2] M (fz_Qv G fz_shC fz_KC M9) := by
  refine fz_body (by decide) (Nat.le_of_ble_eq_true rfl) ?_
  intro p e s m args below meth c H locs ls C hr hlk hF hT hl
  have C : CallFix p m c cX7_passHours 5 s args wsL_law RX7 := C
  have hl : lv_has ls 5 [(0, .ref (G.1 10)), (1, .ref (G.1 k0)), (2, .int a1), (3, .int a2)] := hl
  exact b_X7_passHours_0 hk0 C hr hlk hF hT (lv_sub hl [0, 1, 2, 3] rfl) h
set_option maxHeartbeats 4000000 in
set_option maxRecDepth 100000 in
theorem b_X8_write_0 {p : Program} {l : Launch} {e : Env} {s : State} {m : MethodId} {args : Array Value} {below : List Frame} {meth : Method} {c : Code} {G : fz_G}     {v1 : Int32} {v2 : Int64} {M : fz_M} {H : Heap} {locs : List Loc} {ls : Array Slot} {r : Int32} {M9 : fz_M} (C : CallFix p m c cX8_write 4 s args wsL_law RX8) (hr : meth.sig.returnType = (some .int)) (hlk : meth.locks = false) (hF : fz_F G fz_KC s)  (hT : fz_T G fz_shC fz_KC s M H locs) (hl : lv_has ls 4 [(0, .ref (G.1 0)), (1, .int v1), (2, .long v2)]) (h : f_X8_write v1 v2 M = some (r, M9)) : W p l e (fz_rm 1 24) s m args below meth c H locs 0 0 (MQ below (fz_Qi G fz_shC fz_KC r M9) args s 0 0 (fz_Fr G fz_KC)) (F0 m 0 ls []) := by
  refine lv_iload_n C.1 C.2.1 dX8_write_0 rfl (lv_at hl 1 rfl) ?_
  refine lv_iconst (v := 1) C.1 C.2.1 dX8_write_1 (by decide) ?_
  refine lv_icmp_lt (tgt := 11) C.1 C.2.1 dX8_write_2 (by decide) (fun c1 => ?_) (fun c1 => ?_)
  · have h := fz_ip c1 h
    refine lv_bipush (v := (-2)) C.1 C.2.1 dX8_write_11 (by decide) ?_
    cases h
    exact fz_reti C hr hlk hT dX8_write_13
  · have h := fz_iq c1 h
    refine lv_iload_n C.1 C.2.1 dX8_write_5 rfl (lv_at hl 1 rfl) ?_
    refine lv_bipush (v := 8) C.1 C.2.1 dX8_write_6 (by decide) ?_
    refine lv_icmp_le (tgt := 14) C.1 C.2.1 dX8_write_8 (by decide) (fun c2 => ?_) (fun c2 => ?_)
    · have h := fz_ip c2 h
      refine lv_aload_n C.1 C.2.1 dX8_write_14 rfl (lv_at hl 0 rfl) ?_
      refine fz_getr C hF hT fz_c0 (j := 0) rfl fl_X8_10 dX8_write_15 ?_
      refine fz_geti C hF hT fz_c1 (j := 1) rfl fl_X8_76 dX8_write_18 ?_
      refine lv_iload_n C.1 C.2.1 dX8_write_21 rfl (lv_at hl 1 rfl) ?_
      refine lv_iadd C.1 C.2.1 dX8_write_22 ?_
      refine lv_bipush (v := 96) C.1 C.2.1 dX8_write_23 (by decide) ?_
      refine lv_icmp_le (tgt := 31) C.1 C.2.1 dX8_write_25 (by decide) (fun c3 => ?_) (fun c3 => ?_)
      · have h := fz_ip c3 h
        refine lv_aload_n C.1 C.2.1 dX8_write_31 rfl (lv_at hl 0 rfl) ?_
        refine fz_getr C hF hT fz_c0 (j := 0) rfl fl_X8_10 dX8_write_32 ?_
        refine lv_iload_n C.1 C.2.1 dX8_write_35 rfl (lv_at hl 1 rfl) ?_
        refine lv_lload_n C.1 C.2.1 dX8_write_36 rfl (lv_at hl 2 rfl) ?_
        obtain ⟨M5, w6, h⟩ := fz_b1_s h
        refine fz_cv hT (fz_runV (np := 2) (rest := []) C hF hT (c_X1_append l G v1 v2 M M5 w6) fz_c1 (T := TX1) (N := 2) rfl cl_X8_80 rfl hl.1 rfl (Nat.le_of_ble_eq_true rfl) ⟨Nat.le_of_ble_eq_true rfl, Nat.le_of_ble_eq_true rfl, Nat.zero_le _, Nat.zero_le _⟩ dX8_write_37) (fun H locs hT => ?_)
        refine lv_aload_n C.1 C.2.1 dX8_write_40 rfl (lv_at hl 0 rfl) ?_
        refine fz_getr C hF hT fz_c0 (j := 0) rfl fl_X8_10 dX8_write_41 ?_
        refine fz_geti C hF hT fz_c1 (j := 1) rfl fl_X8_76 dX8_write_44 ?_
        cases h
        exact fz_reti C hr hlk hT dX8_write_47
      · have h := fz_iq c3 h
        refine lv_bipush (v := (-4)) C.1 C.2.1 dX8_write_28 (by decide) ?_
        cases h
        exact fz_reti C hr hlk hT dX8_write_30
    · have h := fz_iq c2 h
      refine lv_bipush (v := (-2)) C.1 C.2.1 dX8_write_11 (by decide) ?_
      cases h
      exact fz_reti C hr hlk hT dX8_write_13
set_option maxRecDepth 100000 in
theorem c_X8_write (l : Launch) (G : fz_G)  (a0 : Int32) (a1 : Int64) (M : fz_M) (r : Int32) (M9 : fz_M) (h : f_X8_write a0 a1 M = some (r, M9)) : fz_Me l yX8_write cX8_write 4 (some .int) 1 24 G fz_shC fz_KC [.ref (G.1 0), .int a0, .long a1] M (fz_Qi G fz_shC fz_KC r M9) := by
  refine fz_body (by decide) (Nat.le_of_ble_eq_true rfl) ?_
  intro p e s m args below meth c H locs ls C hr hlk hF hT hl
  have C : CallFix p m c cX8_write 4 s args wsL_law RX8 := C
  have hl : lv_has ls 4 [(0, .ref (G.1 0)), (1, .int a0), (2, .long a1)] := hl
  exact b_X8_write_0 C hr hlk hF hT (lv_sub hl [0, 1, 2] rfl) h
set_option maxHeartbeats 4000000 in
set_option maxRecDepth 100000 in
theorem b_X8_wipe_0 {p : Program} {l : Launch} {e : Env} {s : State} {m : MethodId} {args : Array Value} {below : List Frame} {meth : Method} {c : Code} {G : fz_G}      {M : fz_M} {H : Heap} {locs : List Loc} {ls : Array Slot} {r : Int32} {M9 : fz_M} (C : CallFix p m c cX8_wipe 2 s args wsL_law RX8) (hr : meth.sig.returnType = (some .int)) (hlk : meth.locks = false) (hF : fz_F G fz_KC s)  (hT : fz_T G fz_shC fz_KC s M H locs) (hl : lv_has ls 2 [(0, .ref (G.1 0))]) (h : f_X8_wipe M = some (r, M9)) : W p l e (fz_rm 0 0) s m args below meth c H locs 0 0 (MQ below (fz_Qi G fz_shC fz_KC r M9) args s 0 0 (fz_Fr G fz_KC)) (F0 m 0 ls []) := by
  refine lv_aload_n C.1 C.2.1 dX8_wipe_0 rfl (lv_at hl 0 rfl) ?_
  refine fz_getr C hF hT fz_c0 (j := 0) rfl fl_X8_10 dX8_wipe_1 ?_
  refine fz_geti C hF hT fz_c1 (j := 1) rfl fl_X8_76 dX8_wipe_4 ?_
  obtain ⟨x1, ex1, h⟩ := fz_bd_s h
  refine fz_nmi ex1 ?_
  refine lv_istore_n (lv' := [(1, .int x1), (0, .ref (G.1 0))]) C.1 C.2.1 dX8_wipe_7 rfl hl (by decide) rfl (fun ls hl => ?_)
  refine lv_aload_n C.1 C.2.1 dX8_wipe_8 rfl (lv_at hl 1 rfl) ?_
  refine fz_getr C hF hT fz_c0 (j := 0) rfl fl_X8_10 dX8_wipe_9 ?_
  refine lv_iconst (v := 0) C.1 C.2.1 dX8_wipe_12 (by decide) ?_
  obtain ⟨M2, eM2, h⟩ := fz_bd_s h
  refine fz_puti C hF hT fz_c1 (j := 1) rfl fw_X8_76 dX8_wipe_13 (fun H locs hT => ?_)
  rw [← eM2] at hT
  refine lv_iload_n C.1 C.2.1 dX8_wipe_16 rfl (lv_at hl 0 rfl) ?_
  cases h
  exact fz_reti C hr hlk hT dX8_wipe_17
set_option maxRecDepth 100000 in
theorem c_X8_wipe (l : Launch) (G : fz_G)   (M : fz_M) (r : Int32) (M9 : fz_M) (h : f_X8_wipe M = some (r, M9)) : fz_Me l yX8_wipe cX8_wipe 2 (some .int) 0 0 G fz_shC fz_KC [.ref (G.1 0)] M (fz_Qi G fz_shC fz_KC r M9) := by
  refine fz_body (by decide) (Nat.le_of_ble_eq_true rfl) ?_
  intro p e s m args below meth c H locs ls C hr hlk hF hT hl
  have C : CallFix p m c cX8_wipe 2 s args wsL_law RX8 := C
  have hl : lv_has ls 2 [(0, .ref (G.1 0))] := hl
  exact b_X8_wipe_0 C hr hlk hF hT (lv_sub hl [0] rfl) h
set_option maxHeartbeats 4000000 in
set_option maxRecDepth 100000 in
theorem b_X8_fault_0 {p : Program} {l : Launch} {e : Env} {s : State} {m : MethodId} {args : Array Value} {below : List Frame} {meth : Method} {c : Code} {G : fz_G}      {M : fz_M} {H : Heap} {locs : List Loc} {ls : Array Slot} {r : Int32} {M9 : fz_M} (C : CallFix p m c cX8_fault 1 s args wsL_law RX8) (hr : meth.sig.returnType = (some .int)) (hlk : meth.locks = false) (hF : fz_F G fz_KC s)  (hT : fz_T G fz_shC fz_KC s M H locs) (hl : lv_has ls 1 [(0, .ref (G.1 0))]) (h : f_X8_fault M = some (r, M9)) : W p l e (fz_rm 6 135) s m args below meth c H locs 0 0 (MQ below (fz_Qi G fz_shC fz_KC r M9) args s 0 0 (fz_Fr G fz_KC)) (F0 m 0 ls []) := by
  refine lv_aload_n C.1 C.2.1 dX8_fault_0 rfl (lv_at hl 0 rfl) ?_
  refine fz_getr C hF hT fz_c0 (j := 1) rfl fl_X8_19 dX8_fault_1 ?_
  refine lv_aload_n C.1 C.2.1 dX8_fault_4 rfl (lv_at hl 0 rfl) ?_
  refine fz_getr C hF hT fz_c0 (j := 0) rfl fl_X8_10 dX8_fault_5 ?_
  refine lv_aload_n C.1 C.2.1 dX8_fault_8 rfl (lv_at hl 0 rfl) ?_
  refine fz_getd C hF hT fz_c0 (j := 10) rfl fl_X8_73 dX8_fault_9 ?_
  obtain ⟨y1, ey1, h⟩ := fz_bd_s h
  rw [← ey1]
  obtain ⟨g2, h⟩ := fz_gd_s h
  obtain ⟨r3, M4, w5, h⟩ := fz_b2_s h
  refine fz_ci hT (fz_runV (np := 2) (rest := []) C hF hT (c_X4_firstFault l G y1 g2 M r3 M4 w5) fz_c3 (T := TX4) (N := 2) rfl cl_X8_84 rfl hl.1 rfl (Nat.le_of_ble_eq_true rfl) ⟨Nat.le_of_ble_eq_true rfl, Nat.le_of_ble_eq_true rfl, Nat.zero_le _, Nat.zero_le _⟩ dX8_fault_12) (fun H locs hT => ?_)
  cases h
  exact fz_reti C hr hlk hT dX8_fault_15
set_option maxRecDepth 100000 in
theorem c_X8_fault (l : Launch) (G : fz_G)   (M : fz_M) (r : Int32) (M9 : fz_M) (h : f_X8_fault M = some (r, M9)) : fz_Me l yX8_fault cX8_fault 1 (some .int) 6 135 G fz_shC fz_KC [.ref (G.1 0)] M (fz_Qi G fz_shC fz_KC r M9) := by
  refine fz_body (by decide) (Nat.le_of_ble_eq_true rfl) ?_
  intro p e s m args below meth c H locs ls C hr hlk hF hT hl
  have C : CallFix p m c cX8_fault 1 s args wsL_law RX8 := C
  have hl : lv_has ls 1 [(0, .ref (G.1 0))] := hl
  exact b_X8_fault_0 C hr hlk hF hT (lv_sub hl [0] rfl) h
set_option maxHeartbeats 4000000 in
set_option maxRecDepth 100000 in
theorem b_X8_town_61_l {p : Program} {l : Launch} {e : Env} {s : State} {m : MethodId} {args : Array Value} {below : List Frame} {meth : Method} {c : Code} {G : fz_G}       {r : Int32} {M9 : fz_M} (C : CallFix p m c cX8_town 3 s args wsL_law RX8) (hr : meth.sig.returnType = (some .int)) (hlk : meth.locks = false) (hF : fz_F G fz_KC s)  : ∀ (n : Nat) (v2 : Int32) (M : fz_M) (H : Heap) (locs : List Loc) (ls : Array Slot), fz_T G fz_shC fz_KC s M H locs → lv_has ls 3 [(0, .ref (G.1 0)), (2, .int v2)] → fz_lp (fun ag z => f_X8_town_61_s ag z.1 z.2) n (v2, M) = some (r, M9) → W p l e (fz_rm 6 135) s m args below meth c H locs 0 0 (MQ below (fz_Qi G fz_shC fz_KC r M9) args s 0 0 (fz_Fr G fz_KC)) (F0 m 61 ls []) := by
  intro n
  induction n with
  | zero =>
    intro v2 M H locs ls hT hl h
    cases h
  | succ n ih =>
    intro v2 M H locs ls hT hl h
    have h : f_X8_town_61_s (fz_lp (fun ag z => f_X8_town_61_s ag z.1 z.2) n) v2 M = some (r, M9) := h
    have hag61 := ih
    generalize fz_lp (fun ag z => f_X8_town_61_s ag z.1 z.2) n = ag61 at h hag61
    refine lv_iload_n C.1 C.2.1 dX8_town_61 rfl (lv_at hl 1 rfl) ?_
    refine lv_iconst (v := 2) C.1 C.2.1 dX8_town_62 (by decide) ?_
    refine lv_icmp_ge (tgt := 79) C.1 C.2.1 dX8_town_63 (by decide) (fun c1 => ?_) (fun c1 => ?_)
    · have h := fz_ip c1 h
      refine lv_aload_n C.1 C.2.1 dX8_town_79 rfl (lv_at hl 0 rfl) ?_
      refine fz_getd C hF hT fz_c0 (j := 9) rfl fl_X8_69 dX8_town_80 ?_
      obtain ⟨y2, ey2, h⟩ := fz_bd_s h
      rw [← ey2]
      obtain ⟨g3, h⟩ := fz_gd_s h
      refine fz_geti C hF hT (fz_pl g3) (j := 0) rfl fl_X8_95 dX8_town_83 ?_
      cases h
      exact fz_reti C hr hlk hT dX8_town_86
    · have h := fz_iq c1 h
      refine lv_aload_n C.1 C.2.1 dX8_town_66 rfl (lv_at hl 0 rfl) ?_
      refine fz_getr C hF hT fz_c0 (j := 8) rfl fl_X8_62 dX8_town_67 ?_
      refine lv_iload_n C.1 C.2.1 dX8_town_70 rfl (lv_at hl 1 rfl) ?_
      refine lv_iconst (v := 0) C.1 C.2.1 dX8_town_71 (by decide) ?_
      obtain ⟨g4, h⟩ := fz_gd_s h
      obtain ⟨M5, eM5, h⟩ := fz_bd_s h
      refine fz_zas C hF hT fz_c19 g4 dX8_town_72 (fun H locs hT => ?_)
      rw [← eM5] at hT
      refine lv_iinc (v := (v2 + 1)) (lv' := [(2, .int (v2 + 1)), (0, .ref (G.1 0))]) C.1 C.2.1 dX8_town_73 hl (k := 1) rfl rfl (by decide) rfl (fun ls hl => ?_)
      refine lv_goto (tgt := 61) C.1 C.2.1 dX8_town_76 (by decide) ?_
      exact hag61 (v2 + 1) M5 _ _ _ hT (lv_sub hl [1, 0] rfl) h
set_option maxHeartbeats 4000000 in
set_option maxRecDepth 100000 in
theorem b_X8_town_61 {p : Program} {l : Launch} {e : Env} {s : State} {m : MethodId} {args : Array Value} {below : List Frame} {meth : Method} {c : Code} {G : fz_G}     {v2 : Int32} {M : fz_M} {H : Heap} {locs : List Loc} {ls : Array Slot} {r : Int32} {M9 : fz_M} (C : CallFix p m c cX8_town 3 s args wsL_law RX8) (hr : meth.sig.returnType = (some .int)) (hlk : meth.locks = false) (hF : fz_F G fz_KC s)  (hT : fz_T G fz_shC fz_KC s M H locs) (hl : lv_has ls 3 [(0, .ref (G.1 0)), (2, .int v2)]) (h : f_X8_town_61 v2 M = some (r, M9)) : W p l e (fz_rm 6 135) s m args below meth c H locs 0 0 (MQ below (fz_Qi G fz_shC fz_KC r M9) args s 0 0 (fz_Fr G fz_KC)) (F0 m 61 ls []) :=
  b_X8_town_61_l C hr hlk hF fz_fuel v2 M H locs ls hT hl h
set_option maxHeartbeats 4000000 in
set_option maxRecDepth 100000 in
theorem b_X8_town_0 {p : Program} {l : Launch} {e : Env} {s : State} {m : MethodId} {args : Array Value} {below : List Frame} {meth : Method} {c : Code} {G : fz_G}      {M : fz_M} {H : Heap} {locs : List Loc} {ls : Array Slot} {r : Int32} {M9 : fz_M} (C : CallFix p m c cX8_town 3 s args wsL_law RX8) (hr : meth.sig.returnType = (some .int)) (hlk : meth.locks = false) (hF : fz_F G fz_KC s)  (hT : fz_T G fz_shC fz_KC s M H locs) (hl : lv_has ls 3 [(0, .ref (G.1 0))]) (h : f_X8_town M = some (r, M9)) : W p l e (fz_rm 6 135) s m args below meth c H locs 0 0 (MQ below (fz_Qi G fz_shC fz_KC r M9) args s 0 0 (fz_Fr G fz_KC)) (F0 m 0 ls []) := by
  refine lv_aload_n C.1 C.2.1 dX8_town_0 rfl (lv_at hl 0 rfl) ?_
  refine fz_getr C hF hT fz_c0 (j := 1) rfl fl_X8_19 dX8_town_1 ?_
  refine lv_aload_n C.1 C.2.1 dX8_town_4 rfl (lv_at hl 0 rfl) ?_
  refine fz_getr C hF hT fz_c0 (j := 0) rfl fl_X8_10 dX8_town_5 ?_
  refine lv_aload_n C.1 C.2.1 dX8_town_8 rfl (lv_at hl 0 rfl) ?_
  refine fz_getd C hF hT fz_c0 (j := 10) rfl fl_X8_73 dX8_town_9 ?_
  obtain ⟨y1, ey1, h⟩ := fz_bd_s h
  rw [← ey1]
  obtain ⟨g2, h⟩ := fz_gd_s h
  obtain ⟨r3, M4, w5, h⟩ := fz_b2_s h
  refine fz_ci hT (fz_runV (np := 2) (rest := []) C hF hT (c_X4_firstFault l G y1 g2 M r3 M4 w5) fz_c3 (T := TX4) (N := 2) rfl cl_X8_84 rfl hl.1 rfl (Nat.le_of_ble_eq_true rfl) ⟨Nat.le_of_ble_eq_true rfl, Nat.le_of_ble_eq_true rfl, Nat.zero_le _, Nat.zero_le _⟩ dX8_town_12) (fun H locs hT => ?_)
  refine lv_bipush (v := (-9)) C.1 C.2.1 dX8_town_15 (by decide) ?_
  refine lv_icmp_eq (tgt := 23) C.1 C.2.1 dX8_town_17 (by decide) (fun c6 => ?_) (fun c6 => ?_)
  · have h := fz_ip c6 h
    refine lv_aload_n C.1 C.2.1 dX8_town_23 rfl (lv_at hl 0 rfl) ?_
    refine fz_getd C hF hT fz_c0 (j := 10) rfl fl_X8_73 dX8_town_24 ?_
    obtain ⟨y7, ey7, h⟩ := fz_bd_s h
    rw [← ey7]
    obtain ⟨g8, h⟩ := fz_gd_s h
    refine lv_astore_n (lv' := [(1, .ref (G.1 y7)), (0, .ref (G.1 0))]) C.1 C.2.1 dX8_town_27 rfl hl (by decide) rfl (fun ls hl => ?_)
    refine lv_aload_n C.1 C.2.1 dX8_town_28 rfl (lv_at hl 1 rfl) ?_
    refine lv_aload_n C.1 C.2.1 dX8_town_29 rfl (lv_at hl 1 rfl) ?_
    refine fz_getd C hF hT fz_c0 (j := 9) rfl fl_X8_69 dX8_town_30 ?_
    obtain ⟨y9, ey9, h⟩ := fz_bd_s h
    rw [← ey9]
    obtain ⟨g10, h⟩ := fz_gd_s h
    obtain ⟨M11, eM11, h⟩ := fz_bd_s h
    refine fz_putd C hF hT fz_c0 (j := 10) rfl fw_X8_73 rfl rfl dX8_town_33 (fun H locs hT => ?_)
    rw [← eM11] at hT
    refine lv_aload_n C.1 C.2.1 dX8_town_36 rfl (lv_at hl 1 rfl) ?_
    refine lv_aload_n C.1 C.2.1 dX8_town_37 rfl (lv_at hl 0 rfl) ?_
    obtain ⟨M12, eM12, h⟩ := fz_bd_s h
    refine fz_putd C hF hT fz_c0 (j := 9) rfl fw_X8_69 rfl rfl dX8_town_38 (fun H locs hT => ?_)
    rw [← eM12] at hT
    refine lv_aload_n C.1 C.2.1 dX8_town_41 rfl (lv_at hl 1 rfl) ?_
    refine fz_getr C hF hT fz_c0 (j := 6) rfl fl_X8_54 dX8_town_42 ?_
    refine lv_aload_n C.1 C.2.1 dX8_town_45 rfl (lv_at hl 1 rfl) ?_
    refine fz_getd C hF hT fz_c0 (j := 9) rfl fl_X8_69 dX8_town_46 ?_
    obtain ⟨y13, ey13, h⟩ := fz_bd_s h
    rw [← ey13]
    obtain ⟨g14, h⟩ := fz_gd_s h
    obtain ⟨M16, w17, h⟩ := fz_b1_s h
    refine fz_cv hT (fz_runV (np := 1) (rest := []) C hF hT (c_X6_begin l G 40 fz_now y13 g14 M12 M16 w17) (fz_st fz_now) (T := TX6) (N := 7) rfl cl_X8_88 rfl hl.1 rfl (Nat.le_of_ble_eq_true rfl) ⟨Nat.le_of_ble_eq_true rfl, Nat.le_of_ble_eq_true rfl, Nat.zero_le _, Nat.zero_le _⟩ dX8_town_49) (fun H locs hT => ?_)
    refine lv_aload_n C.1 C.2.1 dX8_town_52 rfl (lv_at hl 1 rfl) ?_
    refine fz_getr C hF hT fz_c0 (j := 2) rfl fl_X8_26 dX8_town_53 ?_
    obtain ⟨M19, w20, h⟩ := fz_b1_s h
    refine fz_cv hT (fz_runV (np := 0) (rest := []) C hF hT (c_X0_forgetAll l G M16 M19 w20) fz_c5 (T := TX0) (N := 3) rfl cl_X8_92 rfl hl.1 rfl (Nat.le_of_ble_eq_true rfl) ⟨Nat.le_of_ble_eq_true rfl, Nat.le_of_ble_eq_true rfl, Nat.zero_le _, Nat.zero_le _⟩ dX8_town_56) (fun H locs hT => ?_)
    refine lv_iconst (v := 0) C.1 C.2.1 dX8_town_59 (by decide) ?_
    refine lv_istore_n (lv' := [(2, .int 0), (1, .ref (G.1 y7)), (0, .ref (G.1 0))]) C.1 C.2.1 dX8_town_60 rfl hl (by decide) rfl (fun ls hl => ?_)
    exact b_X8_town_61 C hr hlk hF hT (lv_sub hl [2, 0] rfl) h
  · have h := fz_iq c6 h
    refine lv_bipush (v := (-3)) C.1 C.2.1 dX8_town_20 (by decide) ?_
    cases h
    exact fz_reti C hr hlk hT dX8_town_22
set_option maxRecDepth 100000 in
theorem c_X8_town (l : Launch) (G : fz_G)   (M : fz_M) (r : Int32) (M9 : fz_M) (h : f_X8_town M = some (r, M9)) : fz_Me l yX8_town cX8_town 3 (some .int) 6 135 G fz_shC fz_KC [.ref (G.1 0)] M (fz_Qi G fz_shC fz_KC r M9) := by
  refine fz_body (by decide) (Nat.le_of_ble_eq_true rfl) ?_
  intro p e s m args below meth c H locs ls C hr hlk hF hT hl
  have C : CallFix p m c cX8_town 3 s args wsL_law RX8 := C
  have hl : lv_has ls 3 [(0, .ref (G.1 0))] := hl
  exact b_X8_town_0 C hr hlk hF hT (lv_sub hl [0] rfl) h
set_option maxHeartbeats 4000000 in
set_option maxRecDepth 100000 in
theorem b_X8_about_0 {p : Program} {l : Launch} {e : Env} {s : State} {m : MethodId} {args : Array Value} {below : List Frame} {meth : Method} {c : Code} {G : fz_G}     {v1 : Int32} {M : fz_M} {H : Heap} {locs : List Loc} {ls : Array Slot} {r : Int32} (C : CallFix p m c cX8_about 2 s args wsL_law RX8) (hr : meth.sig.returnType = (some .int)) (hlk : meth.locks = false) (hF : fz_F G fz_KC s)  (hT : fz_T G fz_shC fz_KC s M H locs) (hl : lv_has ls 2 [(0, .ref (G.1 0)), (1, .int v1)]) (h : f_X8_about v1 M = some r) : W p l e (fz_rm 2 45) s m args below meth c H locs 0 0 (MQ below (fz_Qi G fz_shC fz_KC r M) args s 0 0 (fz_Fr G fz_KC)) (F0 m 0 ls []) := by
  refine lv_iload_n C.1 C.2.1 dX8_about_0 rfl (lv_at hl 1 rfl) ?_
  by_cases c1 : v1 = 0
  · have h := fz_ip c1 h
    refine lv_tableIn (off := 51) (tgt := 52) C.1 C.2.1 dX8_about_1 (by rw [c1]; decide) (by rw [c1]; decide) (by rw [c1]; rfl) (by decide) ?_
    refine lv_aload_n C.1 C.2.1 dX8_about_52 rfl (lv_at hl 0 rfl) ?_
    refine fz_getd C hF hT fz_c0 (j := 9) rfl fl_X8_69 dX8_about_53 ?_
    obtain ⟨y2, ey2, h⟩ := fz_bd_s h
    rw [← ey2]
    obtain ⟨g3, h⟩ := fz_gd_s h
    refine fz_geti C hF hT (fz_pl g3) (j := 0) rfl fl_X8_95 dX8_about_56 ?_
    cases h
    exact fz_reti C hr hlk hT dX8_about_59
  have h := fz_iq c1 h
  by_cases c4 : v1 = 1
  · have h := fz_ip c4 h
    refine lv_tableIn (off := 59) (tgt := 60) C.1 C.2.1 dX8_about_1 (by rw [c4]; decide) (by rw [c4]; decide) (by rw [c4]; rfl) (by decide) ?_
    refine lv_aload_n C.1 C.2.1 dX8_about_60 rfl (lv_at hl 0 rfl) ?_
    refine fz_getd C hF hT fz_c0 (j := 9) rfl fl_X8_69 dX8_about_61 ?_
    obtain ⟨y5, ey5, h⟩ := fz_bd_s h
    rw [← ey5]
    obtain ⟨g6, h⟩ := fz_gd_s h
    refine fz_geti C hF hT (fz_pl g6) (j := 1) rfl fl_X8_98 dX8_about_64 ?_
    cases h
    exact fz_reti C hr hlk hT dX8_about_67
  have h := fz_iq c4 h
  by_cases c7 : v1 = 2
  · have h := fz_ip c7 h
    refine lv_tableIn (off := 67) (tgt := 68) C.1 C.2.1 dX8_about_1 (by rw [c7]; decide) (by rw [c7]; decide) (by rw [c7]; rfl) (by decide) ?_
    refine lv_aload_n C.1 C.2.1 dX8_about_68 rfl (lv_at hl 0 rfl) ?_
    refine fz_getd C hF hT fz_c0 (j := 9) rfl fl_X8_69 dX8_about_69 ?_
    obtain ⟨y8, ey8, h⟩ := fz_bd_s h
    rw [← ey8]
    obtain ⟨g9, h⟩ := fz_gd_s h
    refine fz_geti C hF hT (fz_pl g9) (j := 2) rfl fl_X8_101 dX8_about_72 ?_
    cases h
    exact fz_reti C hr hlk hT dX8_about_75
  have h := fz_iq c7 h
  by_cases c10 : v1 = 3
  · have h := fz_ip c10 h
    refine lv_tableIn (off := 75) (tgt := 76) C.1 C.2.1 dX8_about_1 (by rw [c10]; decide) (by rw [c10]; decide) (by rw [c10]; rfl) (by decide) ?_
    refine lv_aload_n C.1 C.2.1 dX8_about_76 rfl (lv_at hl 0 rfl) ?_
    refine fz_getr C hF hT fz_c0 (j := 6) rfl fl_X8_54 dX8_about_77 ?_
    refine fz_geti C hF hT (fz_st fz_now) (j := 0) rfl fl_X8_104 dX8_about_80 ?_
    cases h
    exact fz_reti C hr hlk hT dX8_about_83
  have h := fz_iq c10 h
  by_cases c11 : v1 = 4
  · have h := fz_ip c11 h
    refine lv_tableIn (off := 83) (tgt := 84) C.1 C.2.1 dX8_about_1 (by rw [c11]; decide) (by rw [c11]; decide) (by rw [c11]; rfl) (by decide) ?_
    refine lv_aload_n C.1 C.2.1 dX8_about_84 rfl (lv_at hl 0 rfl) ?_
    refine fz_getr C hF hT fz_c0 (j := 2) rfl fl_X8_26 dX8_about_85 ?_
    refine fz_geti C hF hT fz_c5 (j := 2) rfl fl_X8_107 dX8_about_88 ?_
    cases h
    exact fz_reti C hr hlk hT dX8_about_91
  have h := fz_iq c11 h
  by_cases c12 : v1 = 5
  · have h := fz_ip c12 h
    refine lv_tableIn (off := 91) (tgt := 92) C.1 C.2.1 dX8_about_1 (by rw [c12]; decide) (by rw [c12]; decide) (by rw [c12]; rfl) (by decide) ?_
    refine lv_aload_n C.1 C.2.1 dX8_about_92 rfl (lv_at hl 0 rfl) ?_
    refine fz_getr C hF hT fz_c0 (j := 6) rfl fl_X8_54 dX8_about_93 ?_
    refine lv_aload_n C.1 C.2.1 dX8_about_96 rfl (lv_at hl 0 rfl) ?_
    refine fz_getd C hF hT fz_c0 (j := 9) rfl fl_X8_69 dX8_about_97 ?_
    obtain ⟨y13, ey13, h⟩ := fz_bd_s h
    rw [← ey13]
    obtain ⟨g14, h⟩ := fz_gd_s h
    obtain ⟨r15, w17, h⟩ := fz_b1_s h
    refine fz_ci hT (fz_runV (np := 1) (rest := []) C hF hT (c_X6_countNotAtHome l G 40 fz_now y13 g14 M r15 w17) (fz_st fz_now) (T := TX6) (N := 7) rfl cl_X8_110 rfl hl.1 rfl (Nat.le_of_ble_eq_true rfl) ⟨Nat.le_of_ble_eq_true rfl, Nat.le_of_ble_eq_true rfl, Nat.zero_le _, Nat.zero_le _⟩ dX8_about_100) (fun H locs hT => ?_)
    cases h
    exact fz_reti C hr hlk hT dX8_about_103
  have h := fz_iq c12 h
  by_cases c18 : v1 = 6
  · have h := fz_ip c18 h
    refine lv_tableIn (off := 103) (tgt := 104) C.1 C.2.1 dX8_about_1 (by rw [c18]; decide) (by rw [c18]; decide) (by rw [c18]; rfl) (by decide) ?_
    refine lv_aload_n C.1 C.2.1 dX8_about_104 rfl (lv_at hl 0 rfl) ?_
    refine fz_getr C hF hT fz_c0 (j := 6) rfl fl_X8_54 dX8_about_105 ?_
    refine lv_aload_n C.1 C.2.1 dX8_about_108 rfl (lv_at hl 0 rfl) ?_
    refine fz_getd C hF hT fz_c0 (j := 9) rfl fl_X8_69 dX8_about_109 ?_
    obtain ⟨y19, ey19, h⟩ := fz_bd_s h
    rw [← ey19]
    obtain ⟨g20, h⟩ := fz_gd_s h
    obtain ⟨r21, w23, h⟩ := fz_b1_s h
    refine fz_ci hT (fz_runV (np := 1) (rest := []) C hF hT (c_X6_countNotOwnedByHome l G 40 fz_now y19 g20 M r21 w23) (fz_st fz_now) (T := TX6) (N := 7) rfl cl_X8_114 rfl hl.1 rfl (Nat.le_of_ble_eq_true rfl) ⟨Nat.le_of_ble_eq_true rfl, Nat.le_of_ble_eq_true rfl, Nat.zero_le _, Nat.zero_le _⟩ dX8_about_112) (fun H locs hT => ?_)
    cases h
    exact fz_reti C hr hlk hT dX8_about_115
  have h := fz_iq c18 h
  by_cases c24 : v1 = 7
  · have h := fz_ip c24 h
    refine lv_tableIn (off := 115) (tgt := 116) C.1 C.2.1 dX8_about_1 (by rw [c24]; decide) (by rw [c24]; decide) (by rw [c24]; rfl) (by decide) ?_
    refine lv_aload_n C.1 C.2.1 dX8_about_116 rfl (lv_at hl 0 rfl) ?_
    refine fz_getr C hF hT fz_c0 (j := 3) rfl fl_X8_33 dX8_about_117 ?_
    refine fz_geti C hF hT fz_c7 (j := 2) rfl fl_X8_117 dX8_about_120 ?_
    cases h
    exact fz_reti C hr hlk hT dX8_about_123
  have h := fz_iq c24 h
  by_cases c25 : v1 = 8
  · have h := fz_ip c25 h
    refine lv_tableIn (off := 123) (tgt := 124) C.1 C.2.1 dX8_about_1 (by rw [c25]; decide) (by rw [c25]; decide) (by rw [c25]; rfl) (by decide) ?_
    refine lv_aload_n C.1 C.2.1 dX8_about_124 rfl (lv_at hl 0 rfl) ?_
    refine fz_getr C hF hT fz_c0 (j := 0) rfl fl_X8_10 dX8_about_125 ?_
    refine fz_geti C hF hT fz_c1 (j := 1) rfl fl_X8_76 dX8_about_128 ?_
    cases h
    exact fz_reti C hr hlk hT dX8_about_131
  have h := fz_iq c25 h
  refine lv_tableOut (tgt := 132) C.1 C.2.1 dX8_about_1 (by have nc1 := fz_ni c1 (i := 0) rfl; have nc4 := fz_ni c4 (i := 1) rfl; have nc7 := fz_ni c7 (i := 2) rfl; have nc10 := fz_ni c10 (i := 3) rfl; have nc11 := fz_ni c11 (i := 4) rfl; have nc12 := fz_ni c12 (i := 5) rfl; have nc18 := fz_ni c18 (i := 6) rfl; have nc24 := fz_ni c24 (i := 7) rfl; have nc25 := fz_ni c25 (i := 8) rfl; omega) (by decide) ?_
  refine lv_bipush (v := (-2)) C.1 C.2.1 dX8_about_132 (by decide) ?_
  cases h
  exact fz_reti C hr hlk hT dX8_about_134
set_option maxRecDepth 100000 in
theorem c_X8_about (l : Launch) (G : fz_G)  (a0 : Int32) (M : fz_M) (r : Int32) (h : f_X8_about a0 M = some r) : fz_Me l yX8_about cX8_about 2 (some .int) 2 45 G fz_shC fz_KC [.ref (G.1 0), .int a0] M (fz_Qi G fz_shC fz_KC r M) := by
  refine fz_body (by decide) (Nat.le_of_ble_eq_true rfl) ?_
  intro p e s m args below meth c H locs ls C hr hlk hF hT hl
  have C : CallFix p m c cX8_about 2 s args wsL_law RX8 := C
  have hl : lv_has ls 2 [(0, .ref (G.1 0)), (1, .int a0)] := hl
  exact b_X8_about_0 C hr hlk hF hT (lv_sub hl [0, 1] rfl) h
set_option maxHeartbeats 4000000 in
set_option maxRecDepth 100000 in
theorem b_X8_isHouse_0 {p : Program} {l : Launch} {e : Env} {s : State} {m : MethodId} {args : Array Value} {below : List Frame} {meth : Method} {c : Code} {G : fz_G}     {v1 : Int32} {M : fz_M} {H : Heap} {locs : List Loc} {ls : Array Slot} {r : Int32} (C : CallFix p m c cX8_isHouse 2 s args wsL_law RX8) (hr : meth.sig.returnType = (some .boolean)) (hlk : meth.locks = false) (hF : fz_F G fz_KC s)  (hT : fz_T G fz_shC fz_KC s M H locs) (hl : lv_has ls 2 [(0, .ref (G.1 0)), (1, .int v1)]) (h : f_X8_isHouse v1 M = some r) : W p l e (fz_rm 0 0) s m args below meth c H locs 0 0 (MQ below (fz_Qi G fz_shC fz_KC r M) args s 0 0 (fz_Fr G fz_KC)) (F0 m 0 ls []) := by
  refine lv_iload_n C.1 C.2.1 dX8_isHouse_0 rfl (lv_at hl 1 rfl) ?_
  refine lv_if_lt (tgt := 19) C.1 C.2.1 dX8_isHouse_1 (by decide) (fun c1 => ?_) (fun c1 => ?_)
  · have h := fz_ip c1 h
    refine lv_iconst (v := 0) C.1 C.2.1 dX8_isHouse_19 (by decide) ?_
    cases h
    exact fz_retz C hr hlk rfl hT dX8_isHouse_20
  · have h := fz_iq c1 h
    refine lv_iload_n C.1 C.2.1 dX8_isHouse_4 rfl (lv_at hl 1 rfl) ?_
    refine lv_aload_n C.1 C.2.1 dX8_isHouse_5 rfl (lv_at hl 0 rfl) ?_
    refine fz_getd C hF hT fz_c0 (j := 9) rfl fl_X8_69 dX8_isHouse_6 ?_
    obtain ⟨y2, ey2, h⟩ := fz_bd_s h
    rw [← ey2]
    obtain ⟨g3, h⟩ := fz_gd_s h
    refine fz_geti C hF hT (fz_pl g3) (j := 0) rfl fl_X8_95 dX8_isHouse_9 ?_
    refine lv_icmp_ge (tgt := 19) C.1 C.2.1 dX8_isHouse_12 (by decide) (fun c4 => ?_) (fun c4 => ?_)
    · have h := fz_ip c4 h
      refine lv_iconst (v := 0) C.1 C.2.1 dX8_isHouse_19 (by decide) ?_
      cases h
      exact fz_retz C hr hlk rfl hT dX8_isHouse_20
    · have h := fz_iq c4 h
      refine lv_iconst (v := 1) C.1 C.2.1 dX8_isHouse_15 (by decide) ?_
      refine lv_goto (tgt := 20) C.1 C.2.1 dX8_isHouse_16 (by decide) ?_
      cases h
      exact fz_retz C hr hlk rfl hT dX8_isHouse_20
set_option maxRecDepth 100000 in
theorem c_X8_isHouse (l : Launch) (G : fz_G)  (a0 : Int32) (M : fz_M) (r : Int32) (h : f_X8_isHouse a0 M = some r) : fz_Me l yX8_isHouse cX8_isHouse 2 (some .boolean) 0 0 G fz_shC fz_KC [.ref (G.1 0), .int a0] M (fz_Qi G fz_shC fz_KC r M) := by
  refine fz_body (by decide) (Nat.le_of_ble_eq_true rfl) ?_
  intro p e s m args below meth c H locs ls C hr hlk hF hT hl
  have C : CallFix p m c cX8_isHouse 2 s args wsL_law RX8 := C
  have hl : lv_has ls 2 [(0, .ref (G.1 0)), (1, .int a0)] := hl
  exact b_X8_isHouse_0 C hr hlk hF hT (lv_sub hl [0, 1] rfl) h
set_option maxHeartbeats 4000000 in
set_option maxRecDepth 100000 in
theorem b_X8_piecesIn_4_l {p : Program} {l : Launch} {e : Env} {s : State} {m : MethodId} {args : Array Value} {below : List Frame} {meth : Method} {c : Code} {G : fz_G}     {v1 : Int32} {M : fz_M} {r : Int32} (C : CallFix p m c cX8_piecesIn 4 s args wsL_law RX8) (hr : meth.sig.returnType = (some .int)) (hlk : meth.locks = false) (hF : fz_F G fz_KC s)  : ∀ (n : Nat) (v2 : Int32) (v3 : Int32) (H : Heap) (locs : List Loc) (ls : Array Slot), fz_T G fz_shC fz_KC s M H locs → lv_has ls 4 [(0, .ref (G.1 0)), (1, .int v1), (2, .int v2), (3, .int v3)] → fz_lp (fun ag z => f_X8_piecesIn_4_s ag v1 z.1 z.2 M) n (v2, v3) = some r → W p l e (fz_rm 0 0) s m args below meth c H locs 0 0 (MQ below (fz_Qi G fz_shC fz_KC r M) args s 0 0 (fz_Fr G fz_KC)) (F0 m 4 ls []) := by
  intro n
  induction n with
  | zero =>
    intro v2 v3 H locs ls hT hl h
    cases h
  | succ n ih =>
    intro v2 v3 H locs ls hT hl h
    have h : f_X8_piecesIn_4_s (fz_lp (fun ag z => f_X8_piecesIn_4_s ag v1 z.1 z.2 M) n) v1 v2 v3 M = some r := h
    have hag4 := ih
    generalize fz_lp (fun ag z => f_X8_piecesIn_4_s ag v1 z.1 z.2 M) n = ag4 at h hag4
    refine lv_iload_n C.1 C.2.1 dX8_piecesIn_4 rfl (lv_at hl 3 rfl) ?_
    refine lv_aload_n C.1 C.2.1 dX8_piecesIn_5 rfl (lv_at hl 0 rfl) ?_
    refine fz_getd C hF hT fz_c0 (j := 9) rfl fl_X8_69 dX8_piecesIn_6 ?_
    obtain ⟨y1, ey1, h⟩ := fz_bd_s h
    rw [← ey1]
    obtain ⟨g2, h⟩ := fz_gd_s h
    refine fz_geti C hF hT (fz_pl g2) (j := 2) rfl fl_X8_101 dX8_piecesIn_9 ?_
    refine lv_icmp_ge (tgt := 40) C.1 C.2.1 dX8_piecesIn_12 (by decide) (fun c3 => ?_) (fun c3 => ?_)
    · have h := fz_ip c3 h
      refine lv_iload_n C.1 C.2.1 dX8_piecesIn_40 rfl (lv_at hl 2 rfl) ?_
      cases h
      exact fz_reti C hr hlk hT dX8_piecesIn_41
    · have h := fz_iq c3 h
      refine lv_aload_n C.1 C.2.1 dX8_piecesIn_15 rfl (lv_at hl 0 rfl) ?_
      refine fz_getr C hF hT fz_c0 (j := 6) rfl fl_X8_54 dX8_piecesIn_16 ?_
      refine fz_getr C hF hT (fz_st fz_now) (j := 1) rfl fl_X8_133 dX8_piecesIn_19 ?_
      refine lv_iload_n C.1 C.2.1 dX8_piecesIn_22 rfl (lv_at hl 3 rfl) ?_
      obtain ⟨g4, h⟩ := fz_gd_s h
      refine fz_ia C hF hT (fz_st1 fz_now) g4 dX8_piecesIn_23 ?_
      refine lv_iload_n C.1 C.2.1 dX8_piecesIn_24 rfl (lv_at hl 1 rfl) ?_
      refine lv_icmp_ne (tgt := 34) C.1 C.2.1 dX8_piecesIn_25 (by decide) (fun c5 => ?_) (fun c5 => ?_)
      · have h := fz_ip c5 h
        refine lv_iinc (v := (v3 + 1)) (lv' := [(3, .int (v3 + 1)), (0, .ref (G.1 0)), (1, .int v1), (2, .int v2)]) C.1 C.2.1 dX8_piecesIn_34 hl (k := 3) rfl rfl (by decide) rfl (fun ls hl => ?_)
        refine lv_goto (tgt := 4) C.1 C.2.1 dX8_piecesIn_37 (by decide) ?_
        exact hag4 v2 (v3 + 1) _ _ _ hT (lv_sub hl [1, 2, 3, 0] rfl) h
      · have h := fz_iq (not_not_intro c5) h
        refine lv_iload_n C.1 C.2.1 dX8_piecesIn_28 rfl (lv_at hl 2 rfl) ?_
        refine lv_iconst (v := 1) C.1 C.2.1 dX8_piecesIn_29 (by decide) ?_
        refine lv_iload_n C.1 C.2.1 dX8_piecesIn_30 rfl (lv_at hl 3 rfl) ?_
        refine lv_ishl C.1 C.2.1 dX8_piecesIn_31 ?_
        refine lv_ior C.1 C.2.1 dX8_piecesIn_32 ?_
        obtain ⟨x6, ex6, h⟩ := fz_bd_s h
        refine fz_nmi ex6 ?_
        refine lv_istore_n (lv' := [(2, .int x6), (0, .ref (G.1 0)), (1, .int v1), (3, .int v3)]) C.1 C.2.1 dX8_piecesIn_33 rfl hl (by decide) rfl (fun ls hl => ?_)
        refine lv_iinc (v := (v3 + 1)) (lv' := [(3, .int (v3 + 1)), (2, .int x6), (0, .ref (G.1 0)), (1, .int v1)]) C.1 C.2.1 dX8_piecesIn_34 hl (k := 3) rfl rfl (by decide) rfl (fun ls hl => ?_)
        refine lv_goto (tgt := 4) C.1 C.2.1 dX8_piecesIn_37 (by decide) ?_
        exact hag4 x6 (v3 + 1) _ _ _ hT (lv_sub hl [2, 3, 1, 0] rfl) h
set_option maxHeartbeats 4000000 in
set_option maxRecDepth 100000 in
theorem b_X8_piecesIn_4 {p : Program} {l : Launch} {e : Env} {s : State} {m : MethodId} {args : Array Value} {below : List Frame} {meth : Method} {c : Code} {G : fz_G}     {v1 : Int32} {v2 : Int32} {v3 : Int32} {M : fz_M} {H : Heap} {locs : List Loc} {ls : Array Slot} {r : Int32} (C : CallFix p m c cX8_piecesIn 4 s args wsL_law RX8) (hr : meth.sig.returnType = (some .int)) (hlk : meth.locks = false) (hF : fz_F G fz_KC s)  (hT : fz_T G fz_shC fz_KC s M H locs) (hl : lv_has ls 4 [(0, .ref (G.1 0)), (1, .int v1), (2, .int v2), (3, .int v3)]) (h : f_X8_piecesIn_4 v1 v2 v3 M = some r) : W p l e (fz_rm 0 0) s m args below meth c H locs 0 0 (MQ below (fz_Qi G fz_shC fz_KC r M) args s 0 0 (fz_Fr G fz_KC)) (F0 m 4 ls []) :=
  b_X8_piecesIn_4_l C hr hlk hF fz_fuel v2 v3 H locs ls hT hl h
set_option maxHeartbeats 4000000 in
set_option maxRecDepth 100000 in
theorem b_X8_piecesIn_0 {p : Program} {l : Launch} {e : Env} {s : State} {m : MethodId} {args : Array Value} {below : List Frame} {meth : Method} {c : Code} {G : fz_G}     {v1 : Int32} {M : fz_M} {H : Heap} {locs : List Loc} {ls : Array Slot} {r : Int32} (C : CallFix p m c cX8_piecesIn 4 s args wsL_law RX8) (hr : meth.sig.returnType = (some .int)) (hlk : meth.locks = false) (hF : fz_F G fz_KC s)  (hT : fz_T G fz_shC fz_KC s M H locs) (hl : lv_has ls 4 [(0, .ref (G.1 0)), (1, .int v1)]) (h : f_X8_piecesIn v1 M = some r) : W p l e (fz_rm 0 0) s m args below meth c H locs 0 0 (MQ below (fz_Qi G fz_shC fz_KC r M) args s 0 0 (fz_Fr G fz_KC)) (F0 m 0 ls []) := by
  refine lv_iconst (v := 0) C.1 C.2.1 dX8_piecesIn_0 (by decide) ?_
  refine lv_istore_n (lv' := [(2, .int 0), (0, .ref (G.1 0)), (1, .int v1)]) C.1 C.2.1 dX8_piecesIn_1 rfl hl (by decide) rfl (fun ls hl => ?_)
  refine lv_iconst (v := 0) C.1 C.2.1 dX8_piecesIn_2 (by decide) ?_
  refine lv_istore_n (lv' := [(3, .int 0), (2, .int 0), (0, .ref (G.1 0)), (1, .int v1)]) C.1 C.2.1 dX8_piecesIn_3 rfl hl (by decide) rfl (fun ls hl => ?_)
  exact b_X8_piecesIn_4 C hr hlk hF hT (lv_sub hl [2, 3, 1, 0] rfl) h
set_option maxRecDepth 100000 in
theorem c_X8_piecesIn (l : Launch) (G : fz_G)  (a0 : Int32) (M : fz_M) (r : Int32) (h : f_X8_piecesIn a0 M = some r) : fz_Me l yX8_piecesIn cX8_piecesIn 4 (some .int) 0 0 G fz_shC fz_KC [.ref (G.1 0), .int a0] M (fz_Qi G fz_shC fz_KC r M) := by
  refine fz_body (by decide) (Nat.le_of_ble_eq_true rfl) ?_
  intro p e s m args below meth c H locs ls C hr hlk hF hT hl
  have C : CallFix p m c cX8_piecesIn 4 s args wsL_law RX8 := C
  have hl : lv_has ls 4 [(0, .ref (G.1 0)), (1, .int a0)] := hl
  exact b_X8_piecesIn_0 C hr hlk hF hT (lv_sub hl [0, 1] rfl) h
set_option maxHeartbeats 4000000 in
set_option maxRecDepth 100000 in
theorem b_X8_widthOf_5_l {p : Program} {l : Launch} {e : Env} {s : State} {m : MethodId} {args : Array Value} {below : List Frame} {meth : Method} {c : Code} {G : fz_G} {k0 : Nat} (hk0 : fz_ar fz_shC fz_KC k0 0 6 0 0)    {v2 : Int32} {M : fz_M} {r : Int32} (C : CallFix p m c cX8_widthOf 5 s args wsL_law RX8) (hr : meth.sig.returnType = (some .int)) (hlk : meth.locks = false) (hF : fz_F G fz_KC s)  : ∀ (n : Nat) (v3 : Int32) (v4 : Int32) (H : Heap) (locs : List Loc) (ls : Array Slot), fz_T G fz_shC fz_KC s M H locs → lv_has ls 5 [(0, .ref (G.1 0)), (1, .ref (G.1 k0)), (2, .int v2), (3, .int v3), (4, .int v4)] → fz_lp (fun ag z => f_X8_widthOf_5_s k0 ag v2 z.1 z.2 M) n (v3, v4) = some r → W p l e (fz_rm 0 0) s m args below meth c H locs 0 0 (MQ below (fz_Qi G fz_shC fz_KC r M) args s 0 0 (fz_Fr G fz_KC)) (F0 m 5 ls []) := by
  intro n
  induction n with
  | zero =>
    intro v3 v4 H locs ls hT hl h
    cases h
  | succ n ih =>
    intro v3 v4 H locs ls hT hl h
    have h : f_X8_widthOf_5_s k0 (fz_lp (fun ag z => f_X8_widthOf_5_s k0 ag v2 z.1 z.2 M) n) v2 v3 v4 M = some r := h
    have hag5 := ih
    generalize fz_lp (fun ag z => f_X8_widthOf_5_s k0 ag v2 z.1 z.2 M) n = ag5 at h hag5
    refine lv_iload C.1 C.2.1 dX8_widthOf_5 (lv_at hl 4 rfl) ?_
    refine lv_aload_n C.1 C.2.1 dX8_widthOf_7 rfl (lv_at hl 0 rfl) ?_
    refine fz_getd C hF hT fz_c0 (j := 9) rfl fl_X8_69 dX8_widthOf_8 ?_
    obtain ⟨y1, ey1, h⟩ := fz_bd_s h
    rw [← ey1]
    obtain ⟨g2, h⟩ := fz_gd_s h
    refine fz_geti C hF hT (fz_pl g2) (j := 2) rfl fl_X8_101 dX8_widthOf_11 ?_
    refine lv_icmp_ge (tgt := 44) C.1 C.2.1 dX8_widthOf_14 (by decide) (fun c3 => ?_) (fun c3 => ?_)
    · have h := fz_ip c3 h
      refine lv_iload_n C.1 C.2.1 dX8_widthOf_44 rfl (lv_at hl 3 rfl) ?_
      cases h
      exact fz_reti C hr hlk hT dX8_widthOf_45
    · have h := fz_iq c3 h
      refine lv_aload_n C.1 C.2.1 dX8_widthOf_17 rfl (lv_at hl 1 rfl) ?_
      refine lv_iload C.1 C.2.1 dX8_widthOf_18 (lv_at hl 4 rfl) ?_
      obtain ⟨g4, h⟩ := fz_gd_s h
      refine fz_ia C hF hT hk0 g4 dX8_widthOf_20 ?_
      refine lv_iload_n C.1 C.2.1 dX8_widthOf_21 rfl (lv_at hl 2 rfl) ?_
      refine lv_icmp_ne (tgt := 38) C.1 C.2.1 dX8_widthOf_22 (by decide) (fun c5 => ?_) (fun c5 => ?_)
      · have h := fz_ip c5 h
        refine lv_iinc (v := (v4 + 1)) (lv' := [(4, .int (v4 + 1)), (0, .ref (G.1 0)), (1, .ref (G.1 k0)), (2, .int v2), (3, .int v3)]) C.1 C.2.1 dX8_widthOf_38 hl (k := 4) rfl rfl (by decide) rfl (fun ls hl => ?_)
        refine lv_goto (tgt := 5) C.1 C.2.1 dX8_widthOf_41 (by decide) ?_
        exact hag5 v3 (v4 + 1) _ _ _ hT (lv_sub hl [1, 2, 3, 4, 0] rfl) h
      · have h := fz_iq (not_not_intro c5) h
        refine lv_iload_n C.1 C.2.1 dX8_widthOf_25 rfl (lv_at hl 3 rfl) ?_
        refine lv_aload_n C.1 C.2.1 dX8_widthOf_26 rfl (lv_at hl 0 rfl) ?_
        refine fz_getd C hF hT fz_c0 (j := 9) rfl fl_X8_69 dX8_widthOf_27 ?_
        obtain ⟨y6, ey6, h⟩ := fz_bd_s h
        rw [← ey6]
        obtain ⟨g7, h⟩ := fz_gd_s h
        refine fz_getr C hF hT (fz_pl g7) (j := 9) rfl fl_X8_158 dX8_widthOf_30 ?_
        refine lv_iload C.1 C.2.1 dX8_widthOf_33 (lv_at hl 4 rfl) ?_
        obtain ⟨g8, h⟩ := fz_gd_s h
        refine fz_ia C hF hT (fz_pl7 g7) g8 dX8_widthOf_35 ?_
        refine lv_iadd C.1 C.2.1 dX8_widthOf_36 ?_
        obtain ⟨x9, ex9, h⟩ := fz_bd_s h
        refine fz_nmi ex9 ?_
        refine lv_istore_n (lv' := [(3, .int x9), (0, .ref (G.1 0)), (1, .ref (G.1 k0)), (2, .int v2), (4, .int v4)]) C.1 C.2.1 dX8_widthOf_37 rfl hl (by decide) rfl (fun ls hl => ?_)
        refine lv_iinc (v := (v4 + 1)) (lv' := [(4, .int (v4 + 1)), (3, .int x9), (0, .ref (G.1 0)), (1, .ref (G.1 k0)), (2, .int v2)]) C.1 C.2.1 dX8_widthOf_38 hl (k := 4) rfl rfl (by decide) rfl (fun ls hl => ?_)
        refine lv_goto (tgt := 5) C.1 C.2.1 dX8_widthOf_41 (by decide) ?_
        exact hag5 x9 (v4 + 1) _ _ _ hT (lv_sub hl [2, 3, 4, 1, 0] rfl) h
set_option maxHeartbeats 4000000 in
set_option maxRecDepth 100000 in
theorem b_X8_widthOf_5 {p : Program} {l : Launch} {e : Env} {s : State} {m : MethodId} {args : Array Value} {below : List Frame} {meth : Method} {c : Code} {G : fz_G} {k0 : Nat} (hk0 : fz_ar fz_shC fz_KC k0 0 6 0 0)    {v2 : Int32} {v3 : Int32} {v4 : Int32} {M : fz_M} {H : Heap} {locs : List Loc} {ls : Array Slot} {r : Int32} (C : CallFix p m c cX8_widthOf 5 s args wsL_law RX8) (hr : meth.sig.returnType = (some .int)) (hlk : meth.locks = false) (hF : fz_F G fz_KC s)  (hT : fz_T G fz_shC fz_KC s M H locs) (hl : lv_has ls 5 [(0, .ref (G.1 0)), (1, .ref (G.1 k0)), (2, .int v2), (3, .int v3), (4, .int v4)]) (h : f_X8_widthOf_5 k0 v2 v3 v4 M = some r) : W p l e (fz_rm 0 0) s m args below meth c H locs 0 0 (MQ below (fz_Qi G fz_shC fz_KC r M) args s 0 0 (fz_Fr G fz_KC)) (F0 m 5 ls []) :=
  b_X8_widthOf_5_l hk0 C hr hlk hF fz_fuel v3 v4 H locs ls hT hl h
set_option maxHeartbeats 4000000 in
set_option maxRecDepth 100000 in
theorem b_X8_widthOf_0 {p : Program} {l : Launch} {e : Env} {s : State} {m : MethodId} {args : Array Value} {below : List Frame} {meth : Method} {c : Code} {G : fz_G} {k0 : Nat} (hk0 : fz_ar fz_shC fz_KC k0 0 6 0 0)    {v2 : Int32} {M : fz_M} {H : Heap} {locs : List Loc} {ls : Array Slot} {r : Int32} (C : CallFix p m c cX8_widthOf 5 s args wsL_law RX8) (hr : meth.sig.returnType = (some .int)) (hlk : meth.locks = false) (hF : fz_F G fz_KC s)  (hT : fz_T G fz_shC fz_KC s M H locs) (hl : lv_has ls 5 [(0, .ref (G.1 0)), (1, .ref (G.1 k0)), (2, .int v2)]) (h : f_X8_widthOf k0 v2 M = some r) : W p l e (fz_rm 0 0) s m args below meth c H locs 0 0 (MQ below (fz_Qi G fz_shC fz_KC r M) args s 0 0 (fz_Fr G fz_KC)) (F0 m 0 ls []) := by
  refine lv_iconst (v := 0) C.1 C.2.1 dX8_widthOf_0 (by decide) ?_
  refine lv_istore_n (lv' := [(3, .int 0), (0, .ref (G.1 0)), (1, .ref (G.1 k0)), (2, .int v2)]) C.1 C.2.1 dX8_widthOf_1 rfl hl (by decide) rfl (fun ls hl => ?_)
  refine lv_iconst (v := 0) C.1 C.2.1 dX8_widthOf_2 (by decide) ?_
  refine lv_istore (lv' := [(4, .int 0), (3, .int 0), (0, .ref (G.1 0)), (1, .ref (G.1 k0)), (2, .int v2)]) C.1 C.2.1 dX8_widthOf_3 hl (by decide) rfl (fun ls hl => ?_)
  exact b_X8_widthOf_5 hk0 C hr hlk hF hT (lv_sub hl [2, 3, 4, 1, 0] rfl) h
set_option maxRecDepth 100000 in
theorem c_X8_widthOf (l : Launch) (G : fz_G) (k0 : Nat) (hk0 : fz_ar fz_shC fz_KC k0 0 6 0 0) (a1 : Int32) (M : fz_M) (r : Int32) (h : f_X8_widthOf k0 a1 M = some r) : fz_Me l yX8_widthOf cX8_widthOf 5 (some .int) 0 0 G fz_shC fz_KC [.ref (G.1 0), .ref (G.1 k0), .int a1] M (fz_Qi G fz_shC fz_KC r M) := by
  refine fz_body (by decide) (Nat.le_of_ble_eq_true rfl) ?_
  intro p e s m args below meth c H locs ls C hr hlk hF hT hl
  have C : CallFix p m c cX8_widthOf 5 s args wsL_law RX8 := C
  have hl : lv_has ls 5 [(0, .ref (G.1 0)), (1, .ref (G.1 k0)), (2, .int a1)] := hl
  exact b_X8_widthOf_0 hk0 C hr hlk hF hT (lv_sub hl [0, 1, 2] rfl) h
set_option maxHeartbeats 4000000 in
set_option maxRecDepth 100000 in
theorem b_X8_house_0 {p : Program} {l : Launch} {e : Env} {s : State} {m : MethodId} {args : Array Value} {below : List Frame} {meth : Method} {c : Code} {G : fz_G}     {v1 : Int32} {v2 : Int32} {M : fz_M} {H : Heap} {locs : List Loc} {ls : Array Slot} {r : Int32} (C : CallFix p m c cX8_house 3 s args wsL_law RX8) (hr : meth.sig.returnType = (some .int)) (hlk : meth.locks = false) (hF : fz_F G fz_KC s)  (hT : fz_T G fz_shC fz_KC s M H locs) (hl : lv_has ls 3 [(0, .ref (G.1 0)), (1, .int v1), (2, .int v2)]) (h : f_X8_house v1 v2 M = some r) : W p l e (fz_rm 1 24) s m args below meth c H locs 0 0 (MQ below (fz_Qi G fz_shC fz_KC r M) args s 0 0 (fz_Fr G fz_KC)) (F0 m 0 ls []) := by
  refine lv_aload_n C.1 C.2.1 dX8_house_0 rfl (lv_at hl 0 rfl) ?_
  refine lv_iload_n C.1 C.2.1 dX8_house_1 rfl (lv_at hl 1 rfl) ?_
  obtain ⟨r1, w3, h⟩ := fz_b1_s h
  refine fz_ci hT (fz_runV (np := 1) (rest := []) C hF hT (c_X8_isHouse l G v1 M r1 w3) fz_c0 (T := TX8) (N := 11) rfl cl_X8_118 rfl hl.1 rfl (Nat.le_of_ble_eq_true rfl) ⟨Nat.le_of_ble_eq_true rfl, Nat.le_of_ble_eq_true rfl, Nat.zero_le _, Nat.zero_le _⟩ dX8_house_2) (fun H locs hT => ?_)
  refine lv_if_ne (tgt := 10) C.1 C.2.1 dX8_house_5 (by decide) (fun c4 => ?_) (fun c4 => ?_)
  · have h := fz_ip c4 h
    refine lv_iload_n C.1 C.2.1 dX8_house_10 rfl (lv_at hl 2 rfl) ?_
    by_cases c5 : v2 = 0
    · have h := fz_ip c5 h
      refine lv_tableIn (off := 29) (tgt := 40) C.1 C.2.1 dX8_house_11 (by rw [c5]; decide) (by rw [c5]; decide) (by rw [c5]; rfl) (by decide) ?_
      refine lv_aload_n C.1 C.2.1 dX8_house_40 rfl (lv_at hl 0 rfl) ?_
      refine fz_getd C hF hT fz_c0 (j := 9) rfl fl_X8_69 dX8_house_41 ?_
      obtain ⟨y6, ey6, h⟩ := fz_bd_s h
      rw [← ey6]
      obtain ⟨g7, h⟩ := fz_gd_s h
      refine fz_getr C hF hT (fz_pl g7) (j := 3) rfl fl_X8_122 dX8_house_44 ?_
      refine lv_iload_n C.1 C.2.1 dX8_house_47 rfl (lv_at hl 1 rfl) ?_
      obtain ⟨g8, h⟩ := fz_gd_s h
      refine fz_ia C hF hT (fz_pl1 g7) g8 dX8_house_48 ?_
      cases h
      exact fz_reti C hr hlk hT dX8_house_49
    have h := fz_iq c5 h
    by_cases c9 : v2 = 1
    · have h := fz_ip c9 h
      refine lv_tableIn (off := 39) (tgt := 50) C.1 C.2.1 dX8_house_11 (by rw [c9]; decide) (by rw [c9]; decide) (by rw [c9]; rfl) (by decide) ?_
      refine lv_aload_n C.1 C.2.1 dX8_house_50 rfl (lv_at hl 0 rfl) ?_
      refine fz_getd C hF hT fz_c0 (j := 9) rfl fl_X8_69 dX8_house_51 ?_
      obtain ⟨y10, ey10, h⟩ := fz_bd_s h
      rw [← ey10]
      obtain ⟨g11, h⟩ := fz_gd_s h
      refine fz_getr C hF hT (fz_pl g11) (j := 4) rfl fl_X8_126 dX8_house_54 ?_
      refine lv_iload_n C.1 C.2.1 dX8_house_57 rfl (lv_at hl 1 rfl) ?_
      obtain ⟨g12, h⟩ := fz_gd_s h
      refine fz_ia C hF hT (fz_pl2 g11) g12 dX8_house_58 ?_
      cases h
      exact fz_reti C hr hlk hT dX8_house_59
    have h := fz_iq c9 h
    by_cases c13 : v2 = 2
    · have h := fz_ip c13 h
      refine lv_tableIn (off := 49) (tgt := 60) C.1 C.2.1 dX8_house_11 (by rw [c13]; decide) (by rw [c13]; decide) (by rw [c13]; rfl) (by decide) ?_
      refine lv_aload_n C.1 C.2.1 dX8_house_60 rfl (lv_at hl 0 rfl) ?_
      refine lv_iload_n C.1 C.2.1 dX8_house_61 rfl (lv_at hl 1 rfl) ?_
      obtain ⟨r14, w16, h⟩ := fz_b1_s h
      refine fz_ci hT (fz_runV (np := 1) (rest := []) C hF hT (c_X8_piecesIn l G v1 M r14 w16) fz_c0 (T := TX8) (N := 11) rfl cl_X8_129 rfl hl.1 rfl (Nat.le_of_ble_eq_true rfl) ⟨Nat.le_of_ble_eq_true rfl, Nat.le_of_ble_eq_true rfl, Nat.zero_le _, Nat.zero_le _⟩ dX8_house_62) (fun H locs hT => ?_)
      cases h
      exact fz_reti C hr hlk hT dX8_house_65
    have h := fz_iq c13 h
    by_cases c17 : v2 = 3
    · have h := fz_ip c17 h
      refine lv_tableIn (off := 55) (tgt := 66) C.1 C.2.1 dX8_house_11 (by rw [c17]; decide) (by rw [c17]; decide) (by rw [c17]; rfl) (by decide) ?_
      refine lv_aload_n C.1 C.2.1 dX8_house_66 rfl (lv_at hl 0 rfl) ?_
      refine lv_aload_n C.1 C.2.1 dX8_house_67 rfl (lv_at hl 0 rfl) ?_
      refine fz_getr C hF hT fz_c0 (j := 6) rfl fl_X8_54 dX8_house_68 ?_
      refine fz_getr C hF hT (fz_st fz_now) (j := 1) rfl fl_X8_133 dX8_house_71 ?_
      refine lv_iload_n C.1 C.2.1 dX8_house_74 rfl (lv_at hl 1 rfl) ?_
      obtain ⟨r18, w20, h⟩ := fz_b1_s h
      refine fz_ci hT (fz_runV (np := 2) (rest := []) C hF hT (c_X8_widthOf l G (40 + 1) (fz_st1 fz_now) v1 M r18 w20) fz_c0 (T := TX8) (N := 11) rfl cl_X8_136 rfl hl.1 rfl (Nat.le_of_ble_eq_true rfl) ⟨Nat.le_of_ble_eq_true rfl, Nat.le_of_ble_eq_true rfl, Nat.zero_le _, Nat.zero_le _⟩ dX8_house_75) (fun H locs hT => ?_)
      cases h
      exact fz_reti C hr hlk hT dX8_house_78
    have h := fz_iq c17 h
    refine lv_tableOut (tgt := 79) C.1 C.2.1 dX8_house_11 (by have nc5 := fz_ni c5 (i := 0) rfl; have nc9 := fz_ni c9 (i := 1) rfl; have nc13 := fz_ni c13 (i := 2) rfl; have nc17 := fz_ni c17 (i := 3) rfl; omega) (by decide) ?_
    refine lv_bipush (v := (-2)) C.1 C.2.1 dX8_house_79 (by decide) ?_
    cases h
    exact fz_reti C hr hlk hT dX8_house_81
  · have h := fz_iq (not_not_intro c4) h
    refine lv_iconst (v := (-1)) C.1 C.2.1 dX8_house_8 (by decide) ?_
    cases h
    exact fz_reti C hr hlk hT dX8_house_9
set_option maxRecDepth 100000 in
theorem c_X8_house (l : Launch) (G : fz_G)  (a0 : Int32) (a1 : Int32) (M : fz_M) (r : Int32) (h : f_X8_house a0 a1 M = some r) : fz_Me l yX8_house cX8_house 3 (some .int) 1 24 G fz_shC fz_KC [.ref (G.1 0), .int a0, .int a1] M (fz_Qi G fz_shC fz_KC r M) := by
  refine fz_body (by decide) (Nat.le_of_ble_eq_true rfl) ?_
  intro p e s m args below meth c H locs ls C hr hlk hF hT hl
  have C : CallFix p m c cX8_house 3 s args wsL_law RX8 := C
  have hl : lv_has ls 3 [(0, .ref (G.1 0)), (1, .int a0), (2, .int a1)] := hl
  exact b_X8_house_0 C hr hlk hF hT (lv_sub hl [0, 1, 2] rfl) h
set_option maxHeartbeats 4000000 in
set_option maxRecDepth 100000 in
theorem b_X8_isStream_0 {p : Program} {l : Launch} {e : Env} {s : State} {m : MethodId} {args : Array Value} {below : List Frame} {meth : Method} {c : Code} {G : fz_G}     {v1 : Int32} {M : fz_M} {H : Heap} {locs : List Loc} {ls : Array Slot} {r : Int32} (C : CallFix p m c cX8_isStream 2 s args wsL_law RX8) (hr : meth.sig.returnType = (some .boolean)) (hlk : meth.locks = false) (hF : fz_F G fz_KC s)  (hT : fz_T G fz_shC fz_KC s M H locs) (hl : lv_has ls 2 [(0, .ref (G.1 0)), (1, .int v1)]) (h : f_X8_isStream v1 M = some r) : W p l e (fz_rm 0 0) s m args below meth c H locs 0 0 (MQ below (fz_Qi G fz_shC fz_KC r M) args s 0 0 (fz_Fr G fz_KC)) (F0 m 0 ls []) := by
  refine lv_iload_n C.1 C.2.1 dX8_isStream_0 rfl (lv_at hl 1 rfl) ?_
  refine lv_if_lt (tgt := 19) C.1 C.2.1 dX8_isStream_1 (by decide) (fun c1 => ?_) (fun c1 => ?_)
  · have h := fz_ip c1 h
    refine lv_iconst (v := 0) C.1 C.2.1 dX8_isStream_19 (by decide) ?_
    cases h
    exact fz_retz C hr hlk rfl hT dX8_isStream_20
  · have h := fz_iq c1 h
    refine lv_iload_n C.1 C.2.1 dX8_isStream_4 rfl (lv_at hl 1 rfl) ?_
    refine lv_aload_n C.1 C.2.1 dX8_isStream_5 rfl (lv_at hl 0 rfl) ?_
    refine fz_getd C hF hT fz_c0 (j := 9) rfl fl_X8_69 dX8_isStream_6 ?_
    obtain ⟨y2, ey2, h⟩ := fz_bd_s h
    rw [← ey2]
    obtain ⟨g3, h⟩ := fz_gd_s h
    refine fz_geti C hF hT (fz_pl g3) (j := 1) rfl fl_X8_98 dX8_isStream_9 ?_
    refine lv_icmp_ge (tgt := 19) C.1 C.2.1 dX8_isStream_12 (by decide) (fun c4 => ?_) (fun c4 => ?_)
    · have h := fz_ip c4 h
      refine lv_iconst (v := 0) C.1 C.2.1 dX8_isStream_19 (by decide) ?_
      cases h
      exact fz_retz C hr hlk rfl hT dX8_isStream_20
    · have h := fz_iq c4 h
      refine lv_iconst (v := 1) C.1 C.2.1 dX8_isStream_15 (by decide) ?_
      refine lv_goto (tgt := 20) C.1 C.2.1 dX8_isStream_16 (by decide) ?_
      cases h
      exact fz_retz C hr hlk rfl hT dX8_isStream_20
set_option maxRecDepth 100000 in
theorem c_X8_isStream (l : Launch) (G : fz_G)  (a0 : Int32) (M : fz_M) (r : Int32) (h : f_X8_isStream a0 M = some r) : fz_Me l yX8_isStream cX8_isStream 2 (some .boolean) 0 0 G fz_shC fz_KC [.ref (G.1 0), .int a0] M (fz_Qi G fz_shC fz_KC r M) := by
  refine fz_body (by decide) (Nat.le_of_ble_eq_true rfl) ?_
  intro p e s m args below meth c H locs ls C hr hlk hF hT hl
  have C : CallFix p m c cX8_isStream 2 s args wsL_law RX8 := C
  have hl : lv_has ls 2 [(0, .ref (G.1 0)), (1, .int a0)] := hl
  exact b_X8_isStream_0 C hr hlk hF hT (lv_sub hl [0, 1] rfl) h
set_option maxHeartbeats 4000000 in
set_option maxRecDepth 100000 in
theorem b_X8_stream_0 {p : Program} {l : Launch} {e : Env} {s : State} {m : MethodId} {args : Array Value} {below : List Frame} {meth : Method} {c : Code} {G : fz_G}     {v1 : Int32} {v2 : Int32} {M : fz_M} {H : Heap} {locs : List Loc} {ls : Array Slot} {r : Int32} (C : CallFix p m c cX8_stream 3 s args wsL_law RX8) (hr : meth.sig.returnType = (some .int)) (hlk : meth.locks = false) (hF : fz_F G fz_KC s)  (hT : fz_T G fz_shC fz_KC s M H locs) (hl : lv_has ls 3 [(0, .ref (G.1 0)), (1, .int v1), (2, .int v2)]) (h : f_X8_stream v1 v2 M = some r) : W p l e (fz_rm 1 21) s m args below meth c H locs 0 0 (MQ below (fz_Qi G fz_shC fz_KC r M) args s 0 0 (fz_Fr G fz_KC)) (F0 m 0 ls []) := by
  refine lv_aload_n C.1 C.2.1 dX8_stream_0 rfl (lv_at hl 0 rfl) ?_
  refine lv_iload_n C.1 C.2.1 dX8_stream_1 rfl (lv_at hl 1 rfl) ?_
  obtain ⟨r1, w3, h⟩ := fz_b1_s h
  refine fz_ci hT (fz_runV (np := 1) (rest := []) C hF hT (c_X8_isStream l G v1 M r1 w3) fz_c0 (T := TX8) (N := 11) rfl cl_X8_140 rfl hl.1 rfl (Nat.le_of_ble_eq_true rfl) ⟨Nat.le_of_ble_eq_true rfl, Nat.le_of_ble_eq_true rfl, Nat.zero_le _, Nat.zero_le _⟩ dX8_stream_2) (fun H locs hT => ?_)
  refine lv_if_ne (tgt := 10) C.1 C.2.1 dX8_stream_5 (by decide) (fun c4 => ?_) (fun c4 => ?_)
  · have h := fz_ip c4 h
    refine lv_iload_n C.1 C.2.1 dX8_stream_10 rfl (lv_at hl 2 rfl) ?_
    by_cases c5 : v2 = 0
    · have h := fz_ip c5 h
      refine lv_tableIn (off := 29) (tgt := 40) C.1 C.2.1 dX8_stream_11 (by rw [c5]; decide) (by rw [c5]; decide) (by rw [c5]; rfl) (by decide) ?_
      refine lv_aload_n C.1 C.2.1 dX8_stream_40 rfl (lv_at hl 0 rfl) ?_
      refine fz_getd C hF hT fz_c0 (j := 9) rfl fl_X8_69 dX8_stream_41 ?_
      obtain ⟨y6, ey6, h⟩ := fz_bd_s h
      rw [← ey6]
      obtain ⟨g7, h⟩ := fz_gd_s h
      refine fz_getr C hF hT (fz_pl g7) (j := 5) rfl fl_X8_143 dX8_stream_44 ?_
      refine lv_iload_n C.1 C.2.1 dX8_stream_47 rfl (lv_at hl 1 rfl) ?_
      obtain ⟨g8, h⟩ := fz_gd_s h
      refine fz_ia C hF hT (fz_pl3 g7) g8 dX8_stream_48 ?_
      cases h
      exact fz_reti C hr hlk hT dX8_stream_49
    have h := fz_iq c5 h
    by_cases c9 : v2 = 1
    · have h := fz_ip c9 h
      refine lv_tableIn (off := 39) (tgt := 50) C.1 C.2.1 dX8_stream_11 (by rw [c9]; decide) (by rw [c9]; decide) (by rw [c9]; rfl) (by decide) ?_
      refine lv_aload_n C.1 C.2.1 dX8_stream_50 rfl (lv_at hl 0 rfl) ?_
      refine fz_getd C hF hT fz_c0 (j := 9) rfl fl_X8_69 dX8_stream_51 ?_
      obtain ⟨y10, ey10, h⟩ := fz_bd_s h
      rw [← ey10]
      obtain ⟨g11, h⟩ := fz_gd_s h
      refine fz_getr C hF hT (fz_pl g11) (j := 6) rfl fl_X8_146 dX8_stream_54 ?_
      refine lv_iload_n C.1 C.2.1 dX8_stream_57 rfl (lv_at hl 1 rfl) ?_
      obtain ⟨g12, h⟩ := fz_gd_s h
      refine fz_ia C hF hT (fz_pl4 g11) g12 dX8_stream_58 ?_
      cases h
      exact fz_reti C hr hlk hT dX8_stream_59
    have h := fz_iq c9 h
    by_cases c13 : v2 = 2
    · have h := fz_ip c13 h
      refine lv_tableIn (off := 49) (tgt := 60) C.1 C.2.1 dX8_stream_11 (by rw [c13]; decide) (by rw [c13]; decide) (by rw [c13]; rfl) (by decide) ?_
      refine lv_aload_n C.1 C.2.1 dX8_stream_60 rfl (lv_at hl 0 rfl) ?_
      refine fz_getd C hF hT fz_c0 (j := 9) rfl fl_X8_69 dX8_stream_61 ?_
      obtain ⟨y14, ey14, h⟩ := fz_bd_s h
      rw [← ey14]
      obtain ⟨g15, h⟩ := fz_gd_s h
      refine fz_getr C hF hT (fz_pl g15) (j := 7) rfl fl_X8_149 dX8_stream_64 ?_
      refine lv_iload_n C.1 C.2.1 dX8_stream_67 rfl (lv_at hl 1 rfl) ?_
      obtain ⟨g16, h⟩ := fz_gd_s h
      refine fz_ia C hF hT (fz_pl5 g15) g16 dX8_stream_68 ?_
      cases h
      exact fz_reti C hr hlk hT dX8_stream_69
    have h := fz_iq c13 h
    by_cases c17 : v2 = 3
    · have h := fz_ip c17 h
      refine lv_tableIn (off := 59) (tgt := 70) C.1 C.2.1 dX8_stream_11 (by rw [c17]; decide) (by rw [c17]; decide) (by rw [c17]; rfl) (by decide) ?_
      refine lv_aload_n C.1 C.2.1 dX8_stream_70 rfl (lv_at hl 0 rfl) ?_
      refine fz_getr C hF hT fz_c0 (j := 6) rfl fl_X8_54 dX8_stream_71 ?_
      refine fz_getr C hF hT (fz_st fz_now) (j := 6) rfl fl_X8_152 dX8_stream_74 ?_
      refine lv_iload_n C.1 C.2.1 dX8_stream_77 rfl (lv_at hl 1 rfl) ?_
      obtain ⟨g18, h⟩ := fz_gd_s h
      refine fz_za C hF hT (fz_st12 fz_now) g18 dX8_stream_78 ?_
      refine lv_if_eq (tgt := 86) C.1 C.2.1 dX8_stream_79 (by decide) (fun c19 => ?_) (fun c19 => ?_)
      · have h := fz_ip c19 h
        refine lv_iconst (v := 0) C.1 C.2.1 dX8_stream_86 (by decide) ?_
        cases h
        exact fz_reti C hr hlk hT dX8_stream_87
      · have h := fz_iq c19 h
        refine lv_iconst (v := 1) C.1 C.2.1 dX8_stream_82 (by decide) ?_
        refine lv_goto (tgt := 87) C.1 C.2.1 dX8_stream_83 (by decide) ?_
        cases h
        exact fz_reti C hr hlk hT dX8_stream_87
    have h := fz_iq c17 h
    refine lv_tableOut (tgt := 88) C.1 C.2.1 dX8_stream_11 (by have nc5 := fz_ni c5 (i := 0) rfl; have nc9 := fz_ni c9 (i := 1) rfl; have nc13 := fz_ni c13 (i := 2) rfl; have nc17 := fz_ni c17 (i := 3) rfl; omega) (by decide) ?_
    refine lv_bipush (v := (-2)) C.1 C.2.1 dX8_stream_88 (by decide) ?_
    cases h
    exact fz_reti C hr hlk hT dX8_stream_90
  · have h := fz_iq (not_not_intro c4) h
    refine lv_iconst (v := (-1)) C.1 C.2.1 dX8_stream_8 (by decide) ?_
    cases h
    exact fz_reti C hr hlk hT dX8_stream_9
set_option maxRecDepth 100000 in
theorem c_X8_stream (l : Launch) (G : fz_G)  (a0 : Int32) (a1 : Int32) (M : fz_M) (r : Int32) (h : f_X8_stream a0 a1 M = some r) : fz_Me l yX8_stream cX8_stream 3 (some .int) 1 21 G fz_shC fz_KC [.ref (G.1 0), .int a0, .int a1] M (fz_Qi G fz_shC fz_KC r M) := by
  refine fz_body (by decide) (Nat.le_of_ble_eq_true rfl) ?_
  intro p e s m args below meth c H locs ls C hr hlk hF hT hl
  have C : CallFix p m c cX8_stream 3 s args wsL_law RX8 := C
  have hl : lv_has ls 3 [(0, .ref (G.1 0)), (1, .int a0), (2, .int a1)] := hl
  exact b_X8_stream_0 C hr hlk hF hT (lv_sub hl [0, 1, 2] rfl) h
set_option maxHeartbeats 4000000 in
set_option maxRecDepth 100000 in
theorem b_X8_isPiece_0 {p : Program} {l : Launch} {e : Env} {s : State} {m : MethodId} {args : Array Value} {below : List Frame} {meth : Method} {c : Code} {G : fz_G}     {v1 : Int32} {M : fz_M} {H : Heap} {locs : List Loc} {ls : Array Slot} {r : Int32} (C : CallFix p m c cX8_isPiece 2 s args wsL_law RX8) (hr : meth.sig.returnType = (some .boolean)) (hlk : meth.locks = false) (hF : fz_F G fz_KC s)  (hT : fz_T G fz_shC fz_KC s M H locs) (hl : lv_has ls 2 [(0, .ref (G.1 0)), (1, .int v1)]) (h : f_X8_isPiece v1 M = some r) : W p l e (fz_rm 0 0) s m args below meth c H locs 0 0 (MQ below (fz_Qi G fz_shC fz_KC r M) args s 0 0 (fz_Fr G fz_KC)) (F0 m 0 ls []) := by
  refine lv_iload_n C.1 C.2.1 dX8_isPiece_0 rfl (lv_at hl 1 rfl) ?_
  refine lv_if_lt (tgt := 19) C.1 C.2.1 dX8_isPiece_1 (by decide) (fun c1 => ?_) (fun c1 => ?_)
  · have h := fz_ip c1 h
    refine lv_iconst (v := 0) C.1 C.2.1 dX8_isPiece_19 (by decide) ?_
    cases h
    exact fz_retz C hr hlk rfl hT dX8_isPiece_20
  · have h := fz_iq c1 h
    refine lv_iload_n C.1 C.2.1 dX8_isPiece_4 rfl (lv_at hl 1 rfl) ?_
    refine lv_aload_n C.1 C.2.1 dX8_isPiece_5 rfl (lv_at hl 0 rfl) ?_
    refine fz_getd C hF hT fz_c0 (j := 9) rfl fl_X8_69 dX8_isPiece_6 ?_
    obtain ⟨y2, ey2, h⟩ := fz_bd_s h
    rw [← ey2]
    obtain ⟨g3, h⟩ := fz_gd_s h
    refine fz_geti C hF hT (fz_pl g3) (j := 2) rfl fl_X8_101 dX8_isPiece_9 ?_
    refine lv_icmp_ge (tgt := 19) C.1 C.2.1 dX8_isPiece_12 (by decide) (fun c4 => ?_) (fun c4 => ?_)
    · have h := fz_ip c4 h
      refine lv_iconst (v := 0) C.1 C.2.1 dX8_isPiece_19 (by decide) ?_
      cases h
      exact fz_retz C hr hlk rfl hT dX8_isPiece_20
    · have h := fz_iq c4 h
      refine lv_iconst (v := 1) C.1 C.2.1 dX8_isPiece_15 (by decide) ?_
      refine lv_goto (tgt := 20) C.1 C.2.1 dX8_isPiece_16 (by decide) ?_
      cases h
      exact fz_retz C hr hlk rfl hT dX8_isPiece_20
set_option maxRecDepth 100000 in
theorem c_X8_isPiece (l : Launch) (G : fz_G)  (a0 : Int32) (M : fz_M) (r : Int32) (h : f_X8_isPiece a0 M = some r) : fz_Me l yX8_isPiece cX8_isPiece 2 (some .boolean) 0 0 G fz_shC fz_KC [.ref (G.1 0), .int a0] M (fz_Qi G fz_shC fz_KC r M) := by
  refine fz_body (by decide) (Nat.le_of_ble_eq_true rfl) ?_
  intro p e s m args below meth c H locs ls C hr hlk hF hT hl
  have C : CallFix p m c cX8_isPiece 2 s args wsL_law RX8 := C
  have hl : lv_has ls 2 [(0, .ref (G.1 0)), (1, .int a0)] := hl
  exact b_X8_isPiece_0 C hr hlk hF hT (lv_sub hl [0, 1] rfl) h
set_option maxHeartbeats 4000000 in
set_option maxRecDepth 100000 in
theorem b_X8_piece_0 {p : Program} {l : Launch} {e : Env} {s : State} {m : MethodId} {args : Array Value} {below : List Frame} {meth : Method} {c : Code} {G : fz_G}     {v1 : Int32} {v2 : Int32} {M : fz_M} {H : Heap} {locs : List Loc} {ls : Array Slot} {r : Int32} (C : CallFix p m c cX8_piece 3 s args wsL_law RX8) (hr : meth.sig.returnType = (some .int)) (hlk : meth.locks = false) (hF : fz_F G fz_KC s)  (hT : fz_T G fz_shC fz_KC s M H locs) (hl : lv_has ls 3 [(0, .ref (G.1 0)), (1, .int v1), (2, .int v2)]) (h : f_X8_piece v1 v2 M = some r) : W p l e (fz_rm 1 21) s m args below meth c H locs 0 0 (MQ below (fz_Qi G fz_shC fz_KC r M) args s 0 0 (fz_Fr G fz_KC)) (F0 m 0 ls []) := by
  refine lv_aload_n C.1 C.2.1 dX8_piece_0 rfl (lv_at hl 0 rfl) ?_
  refine lv_iload_n C.1 C.2.1 dX8_piece_1 rfl (lv_at hl 1 rfl) ?_
  obtain ⟨r1, w3, h⟩ := fz_b1_s h
  refine fz_ci hT (fz_runV (np := 1) (rest := []) C hF hT (c_X8_isPiece l G v1 M r1 w3) fz_c0 (T := TX8) (N := 11) rfl cl_X8_155 rfl hl.1 rfl (Nat.le_of_ble_eq_true rfl) ⟨Nat.le_of_ble_eq_true rfl, Nat.le_of_ble_eq_true rfl, Nat.zero_le _, Nat.zero_le _⟩ dX8_piece_2) (fun H locs hT => ?_)
  refine lv_if_ne (tgt := 10) C.1 C.2.1 dX8_piece_5 (by decide) (fun c4 => ?_) (fun c4 => ?_)
  · have h := fz_ip c4 h
    refine lv_iload_n C.1 C.2.1 dX8_piece_10 rfl (lv_at hl 2 rfl) ?_
    by_cases c5 : v2 = 0
    · have h := fz_ip c5 h
      refine lv_tableIn (off := 37) (tgt := 48) C.1 C.2.1 dX8_piece_11 (by rw [c5]; decide) (by rw [c5]; decide) (by rw [c5]; rfl) (by decide) ?_
      refine lv_aload_n C.1 C.2.1 dX8_piece_48 rfl (lv_at hl 0 rfl) ?_
      refine fz_getr C hF hT fz_c0 (j := 6) rfl fl_X8_54 dX8_piece_49 ?_
      refine fz_getr C hF hT (fz_st fz_now) (j := 1) rfl fl_X8_133 dX8_piece_52 ?_
      refine lv_iload_n C.1 C.2.1 dX8_piece_55 rfl (lv_at hl 1 rfl) ?_
      obtain ⟨g6, h⟩ := fz_gd_s h
      refine fz_ia C hF hT (fz_st1 fz_now) g6 dX8_piece_56 ?_
      cases h
      exact fz_reti C hr hlk hT dX8_piece_57
    have h := fz_iq c5 h
    by_cases c7 : v2 = 1
    · have h := fz_ip c7 h
      refine lv_tableIn (off := 47) (tgt := 58) C.1 C.2.1 dX8_piece_11 (by rw [c7]; decide) (by rw [c7]; decide) (by rw [c7]; rfl) (by decide) ?_
      refine lv_aload_n C.1 C.2.1 dX8_piece_58 rfl (lv_at hl 0 rfl) ?_
      refine fz_getd C hF hT fz_c0 (j := 9) rfl fl_X8_69 dX8_piece_59 ?_
      obtain ⟨y8, ey8, h⟩ := fz_bd_s h
      rw [← ey8]
      obtain ⟨g9, h⟩ := fz_gd_s h
      refine fz_getr C hF hT (fz_pl g9) (j := 9) rfl fl_X8_158 dX8_piece_62 ?_
      refine lv_iload_n C.1 C.2.1 dX8_piece_65 rfl (lv_at hl 1 rfl) ?_
      obtain ⟨g10, h⟩ := fz_gd_s h
      refine fz_ia C hF hT (fz_pl7 g9) g10 dX8_piece_66 ?_
      cases h
      exact fz_reti C hr hlk hT dX8_piece_67
    have h := fz_iq c7 h
    by_cases c11 : v2 = 2
    · have h := fz_ip c11 h
      refine lv_tableIn (off := 57) (tgt := 68) C.1 C.2.1 dX8_piece_11 (by rw [c11]; decide) (by rw [c11]; decide) (by rw [c11]; rfl) (by decide) ?_
      refine lv_aload_n C.1 C.2.1 dX8_piece_68 rfl (lv_at hl 0 rfl) ?_
      refine fz_getd C hF hT fz_c0 (j := 9) rfl fl_X8_69 dX8_piece_69 ?_
      obtain ⟨y12, ey12, h⟩ := fz_bd_s h
      rw [← ey12]
      obtain ⟨g13, h⟩ := fz_gd_s h
      refine fz_getr C hF hT (fz_pl g13) (j := 10) rfl fl_X8_161 dX8_piece_72 ?_
      refine lv_iload_n C.1 C.2.1 dX8_piece_75 rfl (lv_at hl 1 rfl) ?_
      obtain ⟨g14, h⟩ := fz_gd_s h
      refine fz_ia C hF hT (fz_pl8 g13) g14 dX8_piece_76 ?_
      cases h
      exact fz_reti C hr hlk hT dX8_piece_77
    have h := fz_iq c11 h
    by_cases c15 : v2 = 3
    · have h := fz_ip c15 h
      refine lv_tableIn (off := 67) (tgt := 78) C.1 C.2.1 dX8_piece_11 (by rw [c15]; decide) (by rw [c15]; decide) (by rw [c15]; rfl) (by decide) ?_
      refine lv_aload_n C.1 C.2.1 dX8_piece_78 rfl (lv_at hl 0 rfl) ?_
      refine fz_getr C hF hT fz_c0 (j := 6) rfl fl_X8_54 dX8_piece_79 ?_
      refine fz_getr C hF hT (fz_st fz_now) (j := 2) rfl fl_X8_164 dX8_piece_82 ?_
      refine lv_iload_n C.1 C.2.1 dX8_piece_85 rfl (lv_at hl 1 rfl) ?_
      obtain ⟨g16, h⟩ := fz_gd_s h
      refine fz_ia C hF hT (fz_st2 fz_now) g16 dX8_piece_86 ?_
      cases h
      exact fz_reti C hr hlk hT dX8_piece_87
    have h := fz_iq c15 h
    by_cases c17 : v2 = 4
    · have h := fz_ip c17 h
      refine lv_tableIn (off := 77) (tgt := 88) C.1 C.2.1 dX8_piece_11 (by rw [c17]; decide) (by rw [c17]; decide) (by rw [c17]; rfl) (by decide) ?_
      refine lv_aload_n C.1 C.2.1 dX8_piece_88 rfl (lv_at hl 0 rfl) ?_
      refine fz_getd C hF hT fz_c0 (j := 9) rfl fl_X8_69 dX8_piece_89 ?_
      obtain ⟨y18, ey18, h⟩ := fz_bd_s h
      rw [← ey18]
      obtain ⟨g19, h⟩ := fz_gd_s h
      refine fz_getr C hF hT (fz_pl g19) (j := 8) rfl fl_X8_167 dX8_piece_92 ?_
      refine lv_iload_n C.1 C.2.1 dX8_piece_95 rfl (lv_at hl 1 rfl) ?_
      obtain ⟨g20, h⟩ := fz_gd_s h
      refine fz_ia C hF hT (fz_pl6 g19) g20 dX8_piece_96 ?_
      cases h
      exact fz_reti C hr hlk hT dX8_piece_97
    have h := fz_iq c17 h
    by_cases c21 : v2 = 5
    · have h := fz_ip c21 h
      refine lv_tableIn (off := 87) (tgt := 98) C.1 C.2.1 dX8_piece_11 (by rw [c21]; decide) (by rw [c21]; decide) (by rw [c21]; rfl) (by decide) ?_
      refine lv_aload_n C.1 C.2.1 dX8_piece_98 rfl (lv_at hl 0 rfl) ?_
      refine fz_getr C hF hT fz_c0 (j := 6) rfl fl_X8_54 dX8_piece_99 ?_
      refine fz_getr C hF hT (fz_st fz_now) (j := 3) rfl fl_X8_170 dX8_piece_102 ?_
      refine lv_iload_n C.1 C.2.1 dX8_piece_105 rfl (lv_at hl 1 rfl) ?_
      obtain ⟨g22, h⟩ := fz_gd_s h
      refine fz_ia C hF hT (fz_st3 fz_now) g22 dX8_piece_106 ?_
      cases h
      exact fz_reti C hr hlk hT dX8_piece_107
    have h := fz_iq c21 h
    refine lv_tableOut (tgt := 108) C.1 C.2.1 dX8_piece_11 (by have nc5 := fz_ni c5 (i := 0) rfl; have nc7 := fz_ni c7 (i := 1) rfl; have nc11 := fz_ni c11 (i := 2) rfl; have nc15 := fz_ni c15 (i := 3) rfl; have nc17 := fz_ni c17 (i := 4) rfl; have nc21 := fz_ni c21 (i := 5) rfl; omega) (by decide) ?_
    refine lv_bipush (v := (-2)) C.1 C.2.1 dX8_piece_108 (by decide) ?_
    cases h
    exact fz_reti C hr hlk hT dX8_piece_110
  · have h := fz_iq (not_not_intro c4) h
    refine lv_iconst (v := (-1)) C.1 C.2.1 dX8_piece_8 (by decide) ?_
    cases h
    exact fz_reti C hr hlk hT dX8_piece_9
set_option maxRecDepth 100000 in
theorem c_X8_piece (l : Launch) (G : fz_G)  (a0 : Int32) (a1 : Int32) (M : fz_M) (r : Int32) (h : f_X8_piece a0 a1 M = some r) : fz_Me l yX8_piece cX8_piece 3 (some .int) 1 21 G fz_shC fz_KC [.ref (G.1 0), .int a0, .int a1] M (fz_Qi G fz_shC fz_KC r M) := by
  refine fz_body (by decide) (Nat.le_of_ble_eq_true rfl) ?_
  intro p e s m args below meth c H locs ls C hr hlk hF hT hl
  have C : CallFix p m c cX8_piece 3 s args wsL_law RX8 := C
  have hl : lv_has ls 3 [(0, .ref (G.1 0)), (1, .int a0), (2, .int a1)] := hl
  exact b_X8_piece_0 C hr hlk hF hT (lv_sub hl [0, 1, 2] rfl) h
set_option maxHeartbeats 4000000 in
set_option maxRecDepth 100000 in
theorem b_X8_owner_0 {p : Program} {l : Launch} {e : Env} {s : State} {m : MethodId} {args : Array Value} {below : List Frame} {meth : Method} {c : Code} {G : fz_G}     {v1 : Int32} {v2 : Int32} {M : fz_M} {H : Heap} {locs : List Loc} {ls : Array Slot} {r : Int32} (C : CallFix p m c cX8_owner 3 s args wsL_law RX8) (hr : meth.sig.returnType = (some .int)) (hlk : meth.locks = false) (hF : fz_F G fz_KC s)  (hT : fz_T G fz_shC fz_KC s M H locs) (hl : lv_has ls 3 [(0, .ref (G.1 0)), (1, .int v1), (2, .int v2)]) (h : f_X8_owner v1 v2 M = some r) : W p l e (fz_rm 1 21) s m args below meth c H locs 0 0 (MQ below (fz_Qi G fz_shC fz_KC r M) args s 0 0 (fz_Fr G fz_KC)) (F0 m 0 ls []) := by
  refine lv_aload_n C.1 C.2.1 dX8_owner_0 rfl (lv_at hl 0 rfl) ?_
  refine lv_iload_n C.1 C.2.1 dX8_owner_1 rfl (lv_at hl 1 rfl) ?_
  obtain ⟨r1, w3, h⟩ := fz_b1_s h
  refine fz_ci hT (fz_runV (np := 1) (rest := []) C hF hT (c_X8_isPiece l G v1 M r1 w3) fz_c0 (T := TX8) (N := 11) rfl cl_X8_155 rfl hl.1 rfl (Nat.le_of_ble_eq_true rfl) ⟨Nat.le_of_ble_eq_true rfl, Nat.le_of_ble_eq_true rfl, Nat.zero_le _, Nat.zero_le _⟩ dX8_owner_2) (fun H locs hT => ?_)
  refine lv_if_ne (tgt := 10) C.1 C.2.1 dX8_owner_5 (by decide) (fun c4 => ?_) (fun c4 => ?_)
  · have h := fz_ip c4 h
    refine lv_iload_n C.1 C.2.1 dX8_owner_10 rfl (lv_at hl 2 rfl) ?_
    refine lv_if_lt (tgt := 27) C.1 C.2.1 dX8_owner_11 (by decide) (fun c5 => ?_) (fun c5 => ?_)
    · have h := fz_ip c5 h
      refine lv_bipush (v := (-9)) C.1 C.2.1 dX8_owner_27 (by decide) ?_
      cases h
      exact fz_reti C hr hlk hT dX8_owner_29
    · have h := fz_iq c5 h
      refine lv_iload_n C.1 C.2.1 dX8_owner_14 rfl (lv_at hl 2 rfl) ?_
      refine lv_aload_n C.1 C.2.1 dX8_owner_15 rfl (lv_at hl 0 rfl) ?_
      refine fz_getr C hF hT fz_c0 (j := 6) rfl fl_X8_54 dX8_owner_16 ?_
      refine fz_getr C hF hT (fz_st fz_now) (j := 4) rfl fl_X8_173 dX8_owner_19 ?_
      refine lv_iload_n C.1 C.2.1 dX8_owner_22 rfl (lv_at hl 1 rfl) ?_
      obtain ⟨g6, h⟩ := fz_gd_s h
      refine fz_ia C hF hT (fz_st4 fz_now) g6 dX8_owner_23 ?_
      refine lv_icmp_lt (tgt := 30) C.1 C.2.1 dX8_owner_24 (by decide) (fun c7 => ?_) (fun c7 => ?_)
      · have h := fz_ip c7 h
        refine lv_aload_n C.1 C.2.1 dX8_owner_30 rfl (lv_at hl 0 rfl) ?_
        refine fz_getr C hF hT fz_c0 (j := 6) rfl fl_X8_54 dX8_owner_31 ?_
        refine fz_getr C hF hT (fz_st fz_now) (j := 5) rfl fl_X8_176 dX8_owner_34 ?_
        refine lv_iload_n C.1 C.2.1 dX8_owner_37 rfl (lv_at hl 1 rfl) ?_
        obtain ⟨g8, h⟩ := fz_gd_s h
        refine fz_aa4 C hF hT (fz_st5 fz_now) g8 dX8_owner_38 ?_
        refine lv_iload_n C.1 C.2.1 dX8_owner_39 rfl (lv_at hl 2 rfl) ?_
        obtain ⟨g9, h⟩ := fz_gd_s h
        refine fz_ia C hF hT (fz_str fz_now g8) g9 dX8_owner_40 ?_
        cases h
        exact fz_reti C hr hlk hT dX8_owner_41
      · have h := fz_iq c7 h
        refine lv_bipush (v := (-9)) C.1 C.2.1 dX8_owner_27 (by decide) ?_
        cases h
        exact fz_reti C hr hlk hT dX8_owner_29
  · have h := fz_iq (not_not_intro c4) h
    refine lv_iconst (v := (-1)) C.1 C.2.1 dX8_owner_8 (by decide) ?_
    cases h
    exact fz_reti C hr hlk hT dX8_owner_9
set_option maxRecDepth 100000 in
theorem c_X8_owner (l : Launch) (G : fz_G)  (a0 : Int32) (a1 : Int32) (M : fz_M) (r : Int32) (h : f_X8_owner a0 a1 M = some r) : fz_Me l yX8_owner cX8_owner 3 (some .int) 1 21 G fz_shC fz_KC [.ref (G.1 0), .int a0, .int a1] M (fz_Qi G fz_shC fz_KC r M) := by
  refine fz_body (by decide) (Nat.le_of_ble_eq_true rfl) ?_
  intro p e s m args below meth c H locs ls C hr hlk hF hT hl
  have C : CallFix p m c cX8_owner 3 s args wsL_law RX8 := C
  have hl : lv_has ls 3 [(0, .ref (G.1 0)), (1, .int a0), (2, .int a1)] := hl
  exact b_X8_owner_0 C hr hlk hF hT (lv_sub hl [0, 1, 2] rfl) h
set_option maxHeartbeats 4000000 in
set_option maxRecDepth 100000 in
theorem b_X8_tie_0 {p : Program} {l : Launch} {e : Env} {s : State} {m : MethodId} {args : Array Value} {below : List Frame} {meth : Method} {c : Code} {G : fz_G}     {v1 : Int32} {v2 : Int32} {M : fz_M} {H : Heap} {locs : List Loc} {ls : Array Slot} {r : Int32} {M9 : fz_M} (C : CallFix p m c cX8_tie 4 s args wsL_law RX8) (hr : meth.sig.returnType = (some .int)) (hlk : meth.locks = false) (hF : fz_F G fz_KC s)  (hT : fz_T G fz_shC fz_KC s M H locs) (hl : lv_has ls 4 [(0, .ref (G.1 0)), (1, .int v1), (2, .int v2)]) (h : f_X8_tie v1 v2 M = some (r, M9)) : W p l e (fz_rm 1 21) s m args below meth c H locs 0 0 (MQ below (fz_Qi G fz_shC fz_KC r M9) args s 0 0 (fz_Fr G fz_KC)) (F0 m 0 ls []) := by
  refine lv_aload_n C.1 C.2.1 dX8_tie_0 rfl (lv_at hl 0 rfl) ?_
  refine lv_iload_n C.1 C.2.1 dX8_tie_1 rfl (lv_at hl 1 rfl) ?_
  obtain ⟨r1, w3, h⟩ := fz_b1_s h
  refine fz_ci hT (fz_runV (np := 1) (rest := []) C hF hT (c_X8_isPiece l G v1 M r1 w3) fz_c0 (T := TX8) (N := 11) rfl cl_X8_155 rfl hl.1 rfl (Nat.le_of_ble_eq_true rfl) ⟨Nat.le_of_ble_eq_true rfl, Nat.le_of_ble_eq_true rfl, Nat.zero_le _, Nat.zero_le _⟩ dX8_tie_2) (fun H locs hT => ?_)
  refine lv_if_ne (tgt := 10) C.1 C.2.1 dX8_tie_5 (by decide) (fun c4 => ?_) (fun c4 => ?_)
  · have h := fz_ip c4 h
    refine lv_iload_n C.1 C.2.1 dX8_tie_10 rfl (lv_at hl 2 rfl) ?_
    refine lv_if_lt (tgt := 20) C.1 C.2.1 dX8_tie_11 (by decide) (fun c5 => ?_) (fun c5 => ?_)
    · have h := fz_ip c5 h
      refine lv_bipush (v := (-2)) C.1 C.2.1 dX8_tie_20 (by decide) ?_
      cases h
      exact fz_reti C hr hlk hT dX8_tie_22
    · have h := fz_iq c5 h
      refine lv_iload_n C.1 C.2.1 dX8_tie_14 rfl (lv_at hl 2 rfl) ?_
      refine lv_bipush (v := 9) C.1 C.2.1 dX8_tie_15 (by decide) ?_
      refine lv_icmp_le (tgt := 23) C.1 C.2.1 dX8_tie_17 (by decide) (fun c6 => ?_) (fun c6 => ?_)
      · have h := fz_ip c6 h
        refine lv_aload_n C.1 C.2.1 dX8_tie_23 rfl (lv_at hl 0 rfl) ?_
        refine fz_getr C hF hT fz_c0 (j := 6) rfl fl_X8_54 dX8_tie_24 ?_
        refine fz_getr C hF hT (fz_st fz_now) (j := 2) rfl fl_X8_164 dX8_tie_27 ?_
        refine lv_iload_n C.1 C.2.1 dX8_tie_30 rfl (lv_at hl 1 rfl) ?_
        obtain ⟨g7, h⟩ := fz_gd_s h
        refine fz_ia C hF hT (fz_st2 fz_now) g7 dX8_tie_31 ?_
        obtain ⟨x8, ex8, h⟩ := fz_bd_s h
        refine fz_nmi ex8 ?_
        refine lv_istore_n (lv' := [(3, .int x8), (0, .ref (G.1 0)), (1, .int v1), (2, .int v2)]) C.1 C.2.1 dX8_tie_32 rfl hl (by decide) rfl (fun ls hl => ?_)
        refine lv_aload_n C.1 C.2.1 dX8_tie_33 rfl (lv_at hl 1 rfl) ?_
        refine fz_getr C hF hT fz_c0 (j := 6) rfl fl_X8_54 dX8_tie_34 ?_
        refine fz_getr C hF hT (fz_st fz_now) (j := 2) rfl fl_X8_164 dX8_tie_37 ?_
        refine lv_iload_n C.1 C.2.1 dX8_tie_40 rfl (lv_at hl 2 rfl) ?_
        refine lv_iload_n C.1 C.2.1 dX8_tie_41 rfl (lv_at hl 3 rfl) ?_
        obtain ⟨g9, h⟩ := fz_gd_s h
        obtain ⟨M10, eM10, h⟩ := fz_bd_s h
        refine fz_ias C hF hT (fz_st2 fz_now) g9 dX8_tie_42 (fun H locs hT => ?_)
        rw [← eM10] at hT
        refine lv_iload_n C.1 C.2.1 dX8_tie_43 rfl (lv_at hl 0 rfl) ?_
        cases h
        exact fz_reti C hr hlk hT dX8_tie_44
      · have h := fz_iq c6 h
        refine lv_bipush (v := (-2)) C.1 C.2.1 dX8_tie_20 (by decide) ?_
        cases h
        exact fz_reti C hr hlk hT dX8_tie_22
  · have h := fz_iq (not_not_intro c4) h
    refine lv_iconst (v := (-1)) C.1 C.2.1 dX8_tie_8 (by decide) ?_
    cases h
    exact fz_reti C hr hlk hT dX8_tie_9
set_option maxRecDepth 100000 in
theorem c_X8_tie (l : Launch) (G : fz_G)  (a0 : Int32) (a1 : Int32) (M : fz_M) (r : Int32) (M9 : fz_M) (h : f_X8_tie a0 a1 M = some (r, M9)) : fz_Me l yX8_tie cX8_tie 4 (some .int) 1 21 G fz_shC fz_KC [.ref (G.1 0), .int a0, .int a1] M (fz_Qi G fz_shC fz_KC r M9) := by
  refine fz_body (by decide) (Nat.le_of_ble_eq_true rfl) ?_
  intro p e s m args below meth c H locs ls C hr hlk hF hT hl
  have C : CallFix p m c cX8_tie 4 s args wsL_law RX8 := C
  have hl : lv_has ls 4 [(0, .ref (G.1 0)), (1, .int a0), (2, .int a1)] := hl
  exact b_X8_tie_0 C hr hlk hF hT (lv_sub hl [0, 1, 2] rfl) h
set_option maxHeartbeats 4000000 in
set_option maxRecDepth 100000 in
theorem b_X8_carry_0 {p : Program} {l : Launch} {e : Env} {s : State} {m : MethodId} {args : Array Value} {below : List Frame} {meth : Method} {c : Code} {G : fz_G}     {v1 : Int32} {v2 : Int32} {M : fz_M} {H : Heap} {locs : List Loc} {ls : Array Slot} {r : Int32} {M9 : fz_M} (C : CallFix p m c cX8_carry 4 s args wsL_law RX8) (hr : meth.sig.returnType = (some .int)) (hlk : meth.locks = false) (hF : fz_F G fz_KC s)  (hT : fz_T G fz_shC fz_KC s M H locs) (hl : lv_has ls 4 [(0, .ref (G.1 0)), (1, .int v1), (2, .int v2)]) (h : f_X8_carry v1 v2 M = some (r, M9)) : W p l e (fz_rm 1 21) s m args below meth c H locs 0 0 (MQ below (fz_Qi G fz_shC fz_KC r M9) args s 0 0 (fz_Fr G fz_KC)) (F0 m 0 ls []) := by
  refine lv_aload_n C.1 C.2.1 dX8_carry_0 rfl (lv_at hl 0 rfl) ?_
  refine lv_iload_n C.1 C.2.1 dX8_carry_1 rfl (lv_at hl 1 rfl) ?_
  obtain ⟨r1, w3, h⟩ := fz_b1_s h
  refine fz_ci hT (fz_runV (np := 1) (rest := []) C hF hT (c_X8_isPiece l G v1 M r1 w3) fz_c0 (T := TX8) (N := 11) rfl cl_X8_155 rfl hl.1 rfl (Nat.le_of_ble_eq_true rfl) ⟨Nat.le_of_ble_eq_true rfl, Nat.le_of_ble_eq_true rfl, Nat.zero_le _, Nat.zero_le _⟩ dX8_carry_2) (fun H locs hT => ?_)
  refine lv_if_eq (tgt := 16) C.1 C.2.1 dX8_carry_5 (by decide) (fun c4 => ?_) (fun c4 => ?_)
  · have h := fz_ip c4 h
    refine lv_iconst (v := (-1)) C.1 C.2.1 dX8_carry_16 (by decide) ?_
    cases h
    exact fz_reti C hr hlk hT dX8_carry_17
  · have h := fz_iq c4 h
    refine lv_aload_n C.1 C.2.1 dX8_carry_8 rfl (lv_at hl 0 rfl) ?_
    refine lv_iload_n C.1 C.2.1 dX8_carry_9 rfl (lv_at hl 2 rfl) ?_
    obtain ⟨r5, w7, h⟩ := fz_b1_s h
    refine fz_ci hT (fz_runV (np := 1) (rest := []) C hF hT (c_X8_isHouse l G v2 M r5 w7) fz_c0 (T := TX8) (N := 11) rfl cl_X8_118 rfl hl.1 rfl (Nat.le_of_ble_eq_true rfl) ⟨Nat.le_of_ble_eq_true rfl, Nat.le_of_ble_eq_true rfl, Nat.zero_le _, Nat.zero_le _⟩ dX8_carry_10) (fun H locs hT => ?_)
    refine lv_if_ne (tgt := 18) C.1 C.2.1 dX8_carry_13 (by decide) (fun c8 => ?_) (fun c8 => ?_)
    · have h := fz_ip c8 h
      refine lv_aload_n C.1 C.2.1 dX8_carry_18 rfl (lv_at hl 0 rfl) ?_
      refine fz_getr C hF hT fz_c0 (j := 6) rfl fl_X8_54 dX8_carry_19 ?_
      refine fz_getr C hF hT (fz_st fz_now) (j := 1) rfl fl_X8_133 dX8_carry_22 ?_
      refine lv_iload_n C.1 C.2.1 dX8_carry_25 rfl (lv_at hl 1 rfl) ?_
      obtain ⟨g9, h⟩ := fz_gd_s h
      refine fz_ia C hF hT (fz_st1 fz_now) g9 dX8_carry_26 ?_
      obtain ⟨x10, ex10, h⟩ := fz_bd_s h
      refine fz_nmi ex10 ?_
      refine lv_istore_n (lv' := [(3, .int x10), (0, .ref (G.1 0)), (1, .int v1), (2, .int v2)]) C.1 C.2.1 dX8_carry_27 rfl hl (by decide) rfl (fun ls hl => ?_)
      refine lv_aload_n C.1 C.2.1 dX8_carry_28 rfl (lv_at hl 1 rfl) ?_
      refine fz_getr C hF hT fz_c0 (j := 6) rfl fl_X8_54 dX8_carry_29 ?_
      refine fz_getr C hF hT (fz_st fz_now) (j := 1) rfl fl_X8_133 dX8_carry_32 ?_
      refine lv_iload_n C.1 C.2.1 dX8_carry_35 rfl (lv_at hl 2 rfl) ?_
      refine lv_iload_n C.1 C.2.1 dX8_carry_36 rfl (lv_at hl 3 rfl) ?_
      obtain ⟨g11, h⟩ := fz_gd_s h
      obtain ⟨M12, eM12, h⟩ := fz_bd_s h
      refine fz_ias C hF hT (fz_st1 fz_now) g11 dX8_carry_37 (fun H locs hT => ?_)
      rw [← eM12] at hT
      refine lv_iload_n C.1 C.2.1 dX8_carry_38 rfl (lv_at hl 0 rfl) ?_
      cases h
      exact fz_reti C hr hlk hT dX8_carry_39
    · have h := fz_iq (not_not_intro c8) h
      refine lv_iconst (v := (-1)) C.1 C.2.1 dX8_carry_16 (by decide) ?_
      cases h
      exact fz_reti C hr hlk hT dX8_carry_17
set_option maxRecDepth 100000 in
theorem c_X8_carry (l : Launch) (G : fz_G)  (a0 : Int32) (a1 : Int32) (M : fz_M) (r : Int32) (M9 : fz_M) (h : f_X8_carry a0 a1 M = some (r, M9)) : fz_Me l yX8_carry cX8_carry 4 (some .int) 1 21 G fz_shC fz_KC [.ref (G.1 0), .int a0, .int a1] M (fz_Qi G fz_shC fz_KC r M9) := by
  refine fz_body (by decide) (Nat.le_of_ble_eq_true rfl) ?_
  intro p e s m args below meth c H locs ls C hr hlk hF hT hl
  have C : CallFix p m c cX8_carry 4 s args wsL_law RX8 := C
  have hl : lv_has ls 4 [(0, .ref (G.1 0)), (1, .int a0), (2, .int a1)] := hl
  exact b_X8_carry_0 C hr hlk hF hT (lv_sub hl [0, 1, 2] rfl) h
set_option maxHeartbeats 4000000 in
set_option maxRecDepth 100000 in
theorem b_X8_shut_0 {p : Program} {l : Launch} {e : Env} {s : State} {m : MethodId} {args : Array Value} {below : List Frame} {meth : Method} {c : Code} {G : fz_G}     {v1 : Int32} {v2 : Int32} {M : fz_M} {H : Heap} {locs : List Loc} {ls : Array Slot} {r : Int32} {M9 : fz_M} (C : CallFix p m c cX8_shut 4 s args wsL_law RX8) (hr : meth.sig.returnType = (some .int)) (hlk : meth.locks = false) (hF : fz_F G fz_KC s)  (hT : fz_T G fz_shC fz_KC s M H locs) (hl : lv_has ls 4 [(0, .ref (G.1 0)), (1, .int v1), (2, .int v2)]) (h : f_X8_shut v1 v2 M = some (r, M9)) : W p l e (fz_rm 1 21) s m args below meth c H locs 0 0 (MQ below (fz_Qi G fz_shC fz_KC r M9) args s 0 0 (fz_Fr G fz_KC)) (F0 m 0 ls []) := by
  refine lv_aload_n C.1 C.2.1 dX8_shut_0 rfl (lv_at hl 0 rfl) ?_
  refine lv_iload_n C.1 C.2.1 dX8_shut_1 rfl (lv_at hl 1 rfl) ?_
  obtain ⟨r1, w3, h⟩ := fz_b1_s h
  refine fz_ci hT (fz_runV (np := 1) (rest := []) C hF hT (c_X8_isStream l G v1 M r1 w3) fz_c0 (T := TX8) (N := 11) rfl cl_X8_140 rfl hl.1 rfl (Nat.le_of_ble_eq_true rfl) ⟨Nat.le_of_ble_eq_true rfl, Nat.le_of_ble_eq_true rfl, Nat.zero_le _, Nat.zero_le _⟩ dX8_shut_2) (fun H locs hT => ?_)
  refine lv_if_ne (tgt := 10) C.1 C.2.1 dX8_shut_5 (by decide) (fun c4 => ?_) (fun c4 => ?_)
  · have h := fz_ip c4 h
    refine lv_aload_n C.1 C.2.1 dX8_shut_10 rfl (lv_at hl 0 rfl) ?_
    refine fz_getr C hF hT fz_c0 (j := 6) rfl fl_X8_54 dX8_shut_11 ?_
    refine fz_getr C hF hT (fz_st fz_now) (j := 6) rfl fl_X8_152 dX8_shut_14 ?_
    refine lv_iload_n C.1 C.2.1 dX8_shut_17 rfl (lv_at hl 1 rfl) ?_
    obtain ⟨g5, h⟩ := fz_gd_s h
    refine fz_za C hF hT (fz_st12 fz_now) g5 dX8_shut_18 ?_
    obtain ⟨x6, ex6, h⟩ := fz_bd_s h
    refine fz_nmi ex6 ?_
    refine lv_istore_n (lv' := [(3, .int x6), (0, .ref (G.1 0)), (1, .int v1), (2, .int v2)]) C.1 C.2.1 dX8_shut_19 rfl hl (by decide) rfl (fun ls hl => ?_)
    refine lv_aload_n C.1 C.2.1 dX8_shut_20 rfl (lv_at hl 1 rfl) ?_
    refine fz_getr C hF hT fz_c0 (j := 6) rfl fl_X8_54 dX8_shut_21 ?_
    refine fz_getr C hF hT (fz_st fz_now) (j := 6) rfl fl_X8_152 dX8_shut_24 ?_
    refine lv_iload_n C.1 C.2.1 dX8_shut_27 rfl (lv_at hl 2 rfl) ?_
    refine lv_iload_n C.1 C.2.1 dX8_shut_28 rfl (lv_at hl 3 rfl) ?_
    obtain ⟨g7, h⟩ := fz_gd_s h
    obtain ⟨M8, eM8, h⟩ := fz_bd_s h
    refine fz_zas C hF hT (fz_st12 fz_now) g7 dX8_shut_29 (fun H locs hT => ?_)
    rw [← eM8] at hT
    refine lv_iload_n C.1 C.2.1 dX8_shut_30 rfl (lv_at hl 0 rfl) ?_
    refine lv_iload_n C.1 C.2.1 dX8_shut_31 rfl (lv_at hl 3 rfl) ?_
    refine lv_icmp_ne (tgt := 39) C.1 C.2.1 dX8_shut_32 (by decide) (fun c9 => ?_) (fun c9 => ?_)
    · have h := fz_ip c9 h
      refine lv_iconst (v := 1) C.1 C.2.1 dX8_shut_39 (by decide) ?_
      cases h
      exact fz_reti C hr hlk hT dX8_shut_40
    · have h := fz_iq (not_not_intro c9) h
      refine lv_iconst (v := 0) C.1 C.2.1 dX8_shut_35 (by decide) ?_
      refine lv_goto (tgt := 40) C.1 C.2.1 dX8_shut_36 (by decide) ?_
      cases h
      exact fz_reti C hr hlk hT dX8_shut_40
  · have h := fz_iq (not_not_intro c4) h
    refine lv_iconst (v := (-1)) C.1 C.2.1 dX8_shut_8 (by decide) ?_
    cases h
    exact fz_reti C hr hlk hT dX8_shut_9
set_option maxRecDepth 100000 in
theorem c_X8_shut (l : Launch) (G : fz_G)  (a0 : Int32) (a1 : Int32) (M : fz_M) (r : Int32) (M9 : fz_M) (h : f_X8_shut a0 a1 M = some (r, M9)) : fz_Me l yX8_shut cX8_shut 4 (some .int) 1 21 G fz_shC fz_KC [.ref (G.1 0), .int a0, .int a1] M (fz_Qi G fz_shC fz_KC r M9) := by
  refine fz_body (by decide) (Nat.le_of_ble_eq_true rfl) ?_
  intro p e s m args below meth c H locs ls C hr hlk hF hT hl
  have C : CallFix p m c cX8_shut 4 s args wsL_law RX8 := C
  have hl : lv_has ls 4 [(0, .ref (G.1 0)), (1, .int a0), (2, .int a1)] := hl
  exact b_X8_shut_0 C hr hlk hF hT (lv_sub hl [0, 1, 2] rfl) h
set_option maxHeartbeats 4000000 in
set_option maxRecDepth 100000 in
theorem b_X8_isLevel_0 {p : Program} {l : Launch} {e : Env} {s : State} {m : MethodId} {args : Array Value} {below : List Frame} {meth : Method} {c : Code} {G : fz_G}     {v0 : Int32} {M : fz_M} {H : Heap} {locs : List Loc} {ls : Array Slot} {r : Int32} (C : CallFix p m c cX8_isLevel 1 s args wsL_law RX8) (hr : meth.sig.returnType = (some .boolean)) (hlk : meth.locks = false) (hF : fz_F G fz_KC s)  (hT : fz_T G fz_shC fz_KC s M H locs) (hl : lv_has ls 1 [(0, .int v0)]) (h : f_X8_isLevel v0 M = some r) : W p l e (fz_rm 0 0) s m args below meth c H locs 0 0 (MQ below (fz_Qi G fz_shC fz_KC r M) args s 0 0 (fz_Fr G fz_KC)) (F0 m 0 ls []) := by
  refine lv_iload_n C.1 C.2.1 dX8_isLevel_0 rfl (lv_at hl 0 rfl) ?_
  refine lv_if_lt (tgt := 14) C.1 C.2.1 dX8_isLevel_1 (by decide) (fun c1 => ?_) (fun c1 => ?_)
  · have h := fz_ip c1 h
    refine lv_iconst (v := 0) C.1 C.2.1 dX8_isLevel_14 (by decide) ?_
    cases h
    exact fz_retz C hr hlk rfl hT dX8_isLevel_15
  · have h := fz_iq c1 h
    refine lv_iload_n C.1 C.2.1 dX8_isLevel_4 rfl (lv_at hl 0 rfl) ?_
    refine lv_bipush (v := 19) C.1 C.2.1 dX8_isLevel_5 (by decide) ?_
    refine lv_icmp_gt (tgt := 14) C.1 C.2.1 dX8_isLevel_7 (by decide) (fun c2 => ?_) (fun c2 => ?_)
    · have h := fz_ip c2 h
      refine lv_iconst (v := 0) C.1 C.2.1 dX8_isLevel_14 (by decide) ?_
      cases h
      exact fz_retz C hr hlk rfl hT dX8_isLevel_15
    · have h := fz_iq c2 h
      refine lv_iconst (v := 1) C.1 C.2.1 dX8_isLevel_10 (by decide) ?_
      refine lv_goto (tgt := 15) C.1 C.2.1 dX8_isLevel_11 (by decide) ?_
      cases h
      exact fz_retz C hr hlk rfl hT dX8_isLevel_15
set_option maxRecDepth 100000 in
theorem c_X8_isLevel (l : Launch) (G : fz_G)  (a0 : Int32) (M : fz_M) (r : Int32) (h : f_X8_isLevel a0 M = some r) : fz_Me l yX8_isLevel cX8_isLevel 1 (some .boolean) 0 0 G fz_shC fz_KC [.int a0] M (fz_Qi G fz_shC fz_KC r M) := by
  refine fz_body (by decide) (Nat.le_of_ble_eq_true rfl) ?_
  intro p e s m args below meth c H locs ls C hr hlk hF hT hl
  have C : CallFix p m c cX8_isLevel 1 s args wsL_law RX8 := C
  have hl : lv_has ls 1 [(0, .int a0)] := hl
  exact b_X8_isLevel_0 C hr hlk hF hT (lv_sub hl [0] rfl) h
set_option maxHeartbeats 4000000 in
set_option maxRecDepth 100000 in
theorem b_X8_deep_0 {p : Program} {l : Launch} {e : Env} {s : State} {m : MethodId} {args : Array Value} {below : List Frame} {meth : Method} {c : Code} {G : fz_G}     {v1 : Int32} {v2 : Int32} {M : fz_M} {H : Heap} {locs : List Loc} {ls : Array Slot} {r : Int32} (C : CallFix p m c cX8_deep 3 s args wsL_law RX8) (hr : meth.sig.returnType = (some .int)) (hlk : meth.locks = false) (hF : fz_F G fz_KC s)  (hT : fz_T G fz_shC fz_KC s M H locs) (hl : lv_has ls 3 [(0, .ref (G.1 0)), (1, .int v1), (2, .int v2)]) (h : f_X8_deep v1 v2 M = some r) : W p l e (fz_rm 2 43) s m args below meth c H locs 0 0 (MQ below (fz_Qi G fz_shC fz_KC r M) args s 0 0 (fz_Fr G fz_KC)) (F0 m 0 ls []) := by
  refine lv_aload_n C.1 C.2.1 dX8_deep_0 rfl (lv_at hl 0 rfl) ?_
  refine lv_iload_n C.1 C.2.1 dX8_deep_1 rfl (lv_at hl 1 rfl) ?_
  obtain ⟨r1, w3, h⟩ := fz_b1_s h
  refine fz_ci hT (fz_runV (np := 1) (rest := []) C hF hT (c_X8_isHouse l G v1 M r1 w3) fz_c0 (T := TX8) (N := 11) rfl cl_X8_118 rfl hl.1 rfl (Nat.le_of_ble_eq_true rfl) ⟨Nat.le_of_ble_eq_true rfl, Nat.le_of_ble_eq_true rfl, Nat.zero_le _, Nat.zero_le _⟩ dX8_deep_2) (fun H locs hT => ?_)
  refine lv_if_ne (tgt := 10) C.1 C.2.1 dX8_deep_5 (by decide) (fun c4 => ?_) (fun c4 => ?_)
  · have h := fz_ip c4 h
    refine lv_iload_n C.1 C.2.1 dX8_deep_10 rfl (lv_at hl 2 rfl) ?_
    obtain ⟨r5, w7, h⟩ := fz_b1_s h
    refine fz_ci hT (fz_runS (np := 1) (rest := []) C hF hT (c_X8_isLevel l G v2 M r5 w7) cl_X8_180 rfl hl.1 rfl (Nat.le_of_ble_eq_true rfl) ⟨Nat.le_of_ble_eq_true rfl, Nat.le_of_ble_eq_true rfl, Nat.zero_le _, Nat.zero_le _⟩ dX8_deep_11) (fun H locs hT => ?_)
    refine lv_if_ne (tgt := 20) C.1 C.2.1 dX8_deep_14 (by decide) (fun c8 => ?_) (fun c8 => ?_)
    · have h := fz_ip c8 h
      refine lv_aload_n C.1 C.2.1 dX8_deep_20 rfl (lv_at hl 0 rfl) ?_
      refine fz_getd C hF hT fz_c0 (j := 9) rfl fl_X8_69 dX8_deep_21 ?_
      obtain ⟨y9, ey9, h⟩ := fz_bd_s h
      rw [← ey9]
      obtain ⟨g10, h⟩ := fz_gd_s h
      refine lv_iload_n C.1 C.2.1 dX8_deep_24 rfl (lv_at hl 1 rfl) ?_
      refine lv_iload_n C.1 C.2.1 dX8_deep_25 rfl (lv_at hl 2 rfl) ?_
      obtain ⟨r11, w13, h⟩ := fz_b1_s h
      refine fz_ci hT (fz_runV (np := 2) (rest := []) C hF hT (c_X3_waterIn l G y9 g10 v1 v2 M r11 w13) (fz_pl g10) (T := TX3) (N := 12) rfl cl_X8_183 rfl hl.1 rfl (Nat.le_of_ble_eq_true rfl) ⟨Nat.le_of_ble_eq_true rfl, Nat.le_of_ble_eq_true rfl, Nat.zero_le _, Nat.zero_le _⟩ dX8_deep_26) (fun H locs hT => ?_)
      cases h
      exact fz_reti C hr hlk hT dX8_deep_29
    · have h := fz_iq (not_not_intro c8) h
      refine lv_bipush (v := (-2)) C.1 C.2.1 dX8_deep_17 (by decide) ?_
      cases h
      exact fz_reti C hr hlk hT dX8_deep_19
  · have h := fz_iq (not_not_intro c4) h
    refine lv_iconst (v := (-1)) C.1 C.2.1 dX8_deep_8 (by decide) ?_
    cases h
    exact fz_reti C hr hlk hT dX8_deep_9
set_option maxRecDepth 100000 in
theorem c_X8_deep (l : Launch) (G : fz_G)  (a0 : Int32) (a1 : Int32) (M : fz_M) (r : Int32) (h : f_X8_deep a0 a1 M = some r) : fz_Me l yX8_deep cX8_deep 3 (some .int) 2 43 G fz_shC fz_KC [.ref (G.1 0), .int a0, .int a1] M (fz_Qi G fz_shC fz_KC r M) := by
  refine fz_body (by decide) (Nat.le_of_ble_eq_true rfl) ?_
  intro p e s m args below meth c H locs ls C hr hlk hF hT hl
  have C : CallFix p m c cX8_deep 3 s args wsL_law RX8 := C
  have hl : lv_has ls 3 [(0, .ref (G.1 0)), (1, .int a0), (2, .int a1)] := hl
  exact b_X8_deep_0 C hr hlk hF hT (lv_sub hl [0, 1, 2] rfl) h
set_option maxHeartbeats 4000000 in
set_option maxRecDepth 100000 in
theorem b_X8_hour_0 {p : Program} {l : Launch} {e : Env} {s : State} {m : MethodId} {args : Array Value} {below : List Frame} {meth : Method} {c : Code} {G : fz_G}     {v1 : Int32} {M : fz_M} {H : Heap} {locs : List Loc} {ls : Array Slot} {r : Int32} {M9 : fz_M} (C : CallFix p m c cX8_hour 2 s args wsL_law RX8) (hr : meth.sig.returnType = (some .int)) (hlk : meth.locks = false) (hF : fz_F G fz_KC s)  (hT : fz_T G fz_shC fz_KC s M H locs) (hl : lv_has ls 2 [(0, .ref (G.1 0)), (1, .int v1)]) (h : f_X8_hour v1 M = some (r, M9)) : W p l e (fz_rm 4 91) s m args below meth c H locs 0 0 (MQ below (fz_Qi G fz_shC fz_KC r M9) args s 0 0 (fz_Fr G fz_KC)) (F0 m 0 ls []) := by
  refine lv_iload_n C.1 C.2.1 dX8_hour_0 rfl (lv_at hl 1 rfl) ?_
  obtain ⟨r1, w3, h⟩ := fz_b1_s h
  refine fz_ci hT (fz_runS (np := 1) (rest := []) C hF hT (c_X8_isLevel l G v1 M r1 w3) cl_X8_180 rfl hl.1 rfl (Nat.le_of_ble_eq_true rfl) ⟨Nat.le_of_ble_eq_true rfl, Nat.le_of_ble_eq_true rfl, Nat.zero_le _, Nat.zero_le _⟩ dX8_hour_1) (fun H locs hT => ?_)
  refine lv_if_ne (tgt := 10) C.1 C.2.1 dX8_hour_4 (by decide) (fun c4 => ?_) (fun c4 => ?_)
  · have h := fz_ip c4 h
    refine lv_aload_n C.1 C.2.1 dX8_hour_10 rfl (lv_at hl 0 rfl) ?_
    refine fz_getr C hF hT fz_c0 (j := 2) rfl fl_X8_26 dX8_hour_11 ?_
    refine lv_aload_n C.1 C.2.1 dX8_hour_14 rfl (lv_at hl 0 rfl) ?_
    refine fz_getr C hF hT fz_c0 (j := 6) rfl fl_X8_54 dX8_hour_15 ?_
    obtain ⟨M6, w7, h⟩ := fz_b1_s h
    refine fz_cv hT (fz_runV (np := 1) (rest := []) C hF hT (c_X0_remember l G 40 fz_now M M6 w7) fz_c5 (T := TX0) (N := 3) rfl cl_X8_187 rfl hl.1 rfl (Nat.le_of_ble_eq_true rfl) ⟨Nat.le_of_ble_eq_true rfl, Nat.le_of_ble_eq_true rfl, Nat.zero_le _, Nat.zero_le _⟩ dX8_hour_18) (fun H locs hT => ?_)
    refine lv_aload_n C.1 C.2.1 dX8_hour_21 rfl (lv_at hl 0 rfl) ?_
    refine fz_getr C hF hT fz_c0 (j := 4) rfl fl_X8_40 dX8_hour_22 ?_
    refine lv_aload_n C.1 C.2.1 dX8_hour_25 rfl (lv_at hl 0 rfl) ?_
    refine fz_getd C hF hT fz_c0 (j := 9) rfl fl_X8_69 dX8_hour_26 ?_
    obtain ⟨y8, ey8, h⟩ := fz_bd_s h
    rw [← ey8]
    obtain ⟨g9, h⟩ := fz_gd_s h
    refine lv_aload_n C.1 C.2.1 dX8_hour_29 rfl (lv_at hl 0 rfl) ?_
    refine fz_getr C hF hT fz_c0 (j := 6) rfl fl_X8_54 dX8_hour_30 ?_
    refine lv_bipush (v := (-9)) C.1 C.2.1 dX8_hour_33 (by decide) ?_
    obtain ⟨M11, w12, h⟩ := fz_b1_s h
    refine fz_cv hT (fz_runV (np := 3) (rest := []) C hF hT (c_X7_begin l G y8 g9 40 fz_now (-9) M6 M11 w12) fz_c10 (T := TX7) (N := 6) rfl cl_X8_191 rfl hl.1 rfl (Nat.le_of_ble_eq_true rfl) ⟨Nat.le_of_ble_eq_true rfl, Nat.le_of_ble_eq_true rfl, Nat.zero_le _, Nat.zero_le _⟩ dX8_hour_35) (fun H locs hT => ?_)
    refine lv_aload_n C.1 C.2.1 dX8_hour_38 rfl (lv_at hl 0 rfl) ?_
    refine fz_getr C hF hT fz_c0 (j := 4) rfl fl_X8_40 dX8_hour_39 ?_
    refine lv_aload_n C.1 C.2.1 dX8_hour_42 rfl (lv_at hl 0 rfl) ?_
    refine fz_getd C hF hT fz_c0 (j := 9) rfl fl_X8_69 dX8_hour_43 ?_
    obtain ⟨y13, ey13, h⟩ := fz_bd_s h
    rw [← ey13]
    obtain ⟨g14, h⟩ := fz_gd_s h
    refine lv_iload_n C.1 C.2.1 dX8_hour_46 rfl (lv_at hl 1 rfl) ?_
    obtain ⟨M16, w17, h⟩ := fz_b1_s h
    refine fz_cv hT (fz_runV (np := 2) (rest := []) C hF hT (c_X7_passHour l G y13 g14 v1 M11 M16 w17) fz_c10 (T := TX7) (N := 6) rfl cl_X8_194 rfl hl.1 rfl (Nat.le_of_ble_eq_true rfl) ⟨Nat.le_of_ble_eq_true rfl, Nat.le_of_ble_eq_true rfl, Nat.zero_le _, Nat.zero_le _⟩ dX8_hour_47) (fun H locs hT => ?_)
    refine lv_aload_n C.1 C.2.1 dX8_hour_50 rfl (lv_at hl 0 rfl) ?_
    refine fz_getr C hF hT fz_c0 (j := 6) rfl fl_X8_54 dX8_hour_51 ?_
    refine lv_aload_n C.1 C.2.1 dX8_hour_54 rfl (lv_at hl 0 rfl) ?_
    refine fz_getr C hF hT fz_c0 (j := 4) rfl fl_X8_40 dX8_hour_55 ?_
    refine fz_getr C hF hT fz_c10 (j := 0) rfl fl_X8_198 dX8_hour_58 ?_
    refine lv_aload_n C.1 C.2.1 dX8_hour_61 rfl (lv_at hl 0 rfl) ?_
    refine fz_getr C hF hT fz_c0 (j := 4) rfl fl_X8_40 dX8_hour_62 ?_
    refine fz_getr C hF hT fz_c10 (j := 1) rfl fl_X8_199 dX8_hour_65 ?_
    obtain ⟨M19, w20, h⟩ := fz_b1_s h
    refine fz_cv hT (fz_runV (np := 2) (rest := []) C hF hT (c_X6_takePlacesAndTies l G 40 fz_now 11 fz_c11 12 fz_c12 M16 M19 w20) (fz_st fz_now) (T := TX6) (N := 7) rfl cl_X8_200 rfl hl.1 rfl (Nat.le_of_ble_eq_true rfl) ⟨Nat.le_of_ble_eq_true rfl, Nat.le_of_ble_eq_true rfl, Nat.zero_le _, Nat.zero_le _⟩ dX8_hour_68) (fun H locs hT => ?_)
    refine lv_aload_n C.1 C.2.1 dX8_hour_71 rfl (lv_at hl 0 rfl) ?_
    refine fz_getr C hF hT fz_c0 (j := 4) rfl fl_X8_40 dX8_hour_72 ?_
    refine fz_geti C hF hT fz_c10 (j := 4) rfl fl_X8_204 dX8_hour_75 ?_
    cases h
    exact fz_reti C hr hlk hT dX8_hour_78
  · have h := fz_iq (not_not_intro c4) h
    refine lv_bipush (v := (-2)) C.1 C.2.1 dX8_hour_7 (by decide) ?_
    cases h
    exact fz_reti C hr hlk hT dX8_hour_9
set_option maxRecDepth 100000 in
theorem c_X8_hour (l : Launch) (G : fz_G)  (a0 : Int32) (M : fz_M) (r : Int32) (M9 : fz_M) (h : f_X8_hour a0 M = some (r, M9)) : fz_Me l yX8_hour cX8_hour 2 (some .int) 4 91 G fz_shC fz_KC [.ref (G.1 0), .int a0] M (fz_Qi G fz_shC fz_KC r M9) := by
  refine fz_body (by decide) (Nat.le_of_ble_eq_true rfl) ?_
  intro p e s m args below meth c H locs ls C hr hlk hF hT hl
  have C : CallFix p m c cX8_hour 2 s args wsL_law RX8 := C
  have hl : lv_has ls 2 [(0, .ref (G.1 0)), (1, .int a0)] := hl
  exact b_X8_hour_0 C hr hlk hF hT (lv_sub hl [0, 1] rfl) h
set_option maxHeartbeats 4000000 in
set_option maxRecDepth 100000 in
theorem b_X8_jams_0 {p : Program} {l : Launch} {e : Env} {s : State} {m : MethodId} {args : Array Value} {below : List Frame} {meth : Method} {c : Code} {G : fz_G}     {v1 : Int32} {M : fz_M} {H : Heap} {locs : List Loc} {ls : Array Slot} {r : Int32} {M9 : fz_M} (C : CallFix p m c cX8_jams 2 s args wsL_law RX8) (hr : meth.sig.returnType = (some .int)) (hlk : meth.locks = false) (hF : fz_F G fz_KC s)  (hT : fz_T G fz_shC fz_KC s M H locs) (hl : lv_has ls 2 [(0, .ref (G.1 0)), (1, .int v1)]) (h : f_X8_jams v1 M = some (r, M9)) : W p l e (fz_rm 4 91) s m args below meth c H locs 0 0 (MQ below (fz_Qi G fz_shC fz_KC r M9) args s 0 0 (fz_Fr G fz_KC)) (F0 m 0 ls []) := by
  refine lv_iload_n C.1 C.2.1 dX8_jams_0 rfl (lv_at hl 1 rfl) ?_
  obtain ⟨r1, w3, h⟩ := fz_b1_s h
  refine fz_ci hT (fz_runS (np := 1) (rest := []) C hF hT (c_X8_isLevel l G v1 M r1 w3) cl_X8_180 rfl hl.1 rfl (Nat.le_of_ble_eq_true rfl) ⟨Nat.le_of_ble_eq_true rfl, Nat.le_of_ble_eq_true rfl, Nat.zero_le _, Nat.zero_le _⟩ dX8_jams_1) (fun H locs hT => ?_)
  refine lv_if_ne (tgt := 10) C.1 C.2.1 dX8_jams_4 (by decide) (fun c4 => ?_) (fun c4 => ?_)
  · have h := fz_ip c4 h
    refine lv_aload_n C.1 C.2.1 dX8_jams_10 rfl (lv_at hl 0 rfl) ?_
    refine fz_getr C hF hT fz_c0 (j := 4) rfl fl_X8_40 dX8_jams_11 ?_
    refine lv_aload_n C.1 C.2.1 dX8_jams_14 rfl (lv_at hl 0 rfl) ?_
    refine fz_getd C hF hT fz_c0 (j := 9) rfl fl_X8_69 dX8_jams_15 ?_
    obtain ⟨y5, ey5, h⟩ := fz_bd_s h
    rw [← ey5]
    obtain ⟨g6, h⟩ := fz_gd_s h
    refine lv_aload_n C.1 C.2.1 dX8_jams_18 rfl (lv_at hl 0 rfl) ?_
    refine fz_getr C hF hT fz_c0 (j := 6) rfl fl_X8_54 dX8_jams_19 ?_
    refine lv_bipush (v := (-9)) C.1 C.2.1 dX8_jams_22 (by decide) ?_
    obtain ⟨M8, w9, h⟩ := fz_b1_s h
    refine fz_cv hT (fz_runV (np := 3) (rest := []) C hF hT (c_X7_begin l G y5 g6 40 fz_now (-9) M M8 w9) fz_c10 (T := TX7) (N := 6) rfl cl_X8_191 rfl hl.1 rfl (Nat.le_of_ble_eq_true rfl) ⟨Nat.le_of_ble_eq_true rfl, Nat.le_of_ble_eq_true rfl, Nat.zero_le _, Nat.zero_le _⟩ dX8_jams_24) (fun H locs hT => ?_)
    refine lv_aload_n C.1 C.2.1 dX8_jams_27 rfl (lv_at hl 0 rfl) ?_
    refine fz_getr C hF hT fz_c0 (j := 4) rfl fl_X8_40 dX8_jams_28 ?_
    refine lv_aload_n C.1 C.2.1 dX8_jams_31 rfl (lv_at hl 0 rfl) ?_
    refine fz_getd C hF hT fz_c0 (j := 9) rfl fl_X8_69 dX8_jams_32 ?_
    obtain ⟨y10, ey10, h⟩ := fz_bd_s h
    rw [← ey10]
    obtain ⟨g11, h⟩ := fz_gd_s h
    refine lv_iload_n C.1 C.2.1 dX8_jams_35 rfl (lv_at hl 1 rfl) ?_
    obtain ⟨M13, w14, h⟩ := fz_b1_s h
    refine fz_cv hT (fz_runV (np := 2) (rest := []) C hF hT (c_X7_passHour l G y10 g11 v1 M8 M13 w14) fz_c10 (T := TX7) (N := 6) rfl cl_X8_194 rfl hl.1 rfl (Nat.le_of_ble_eq_true rfl) ⟨Nat.le_of_ble_eq_true rfl, Nat.le_of_ble_eq_true rfl, Nat.zero_le _, Nat.zero_le _⟩ dX8_jams_36) (fun H locs hT => ?_)
    refine lv_aload_n C.1 C.2.1 dX8_jams_39 rfl (lv_at hl 0 rfl) ?_
    refine fz_getr C hF hT fz_c0 (j := 4) rfl fl_X8_40 dX8_jams_40 ?_
    refine fz_geti C hF hT fz_c10 (j := 5) rfl fl_X8_207 dX8_jams_43 ?_
    cases h
    exact fz_reti C hr hlk hT dX8_jams_46
  · have h := fz_iq (not_not_intro c4) h
    refine lv_bipush (v := (-2)) C.1 C.2.1 dX8_jams_7 (by decide) ?_
    cases h
    exact fz_reti C hr hlk hT dX8_jams_9
set_option maxRecDepth 100000 in
theorem c_X8_jams (l : Launch) (G : fz_G)  (a0 : Int32) (M : fz_M) (r : Int32) (M9 : fz_M) (h : f_X8_jams a0 M = some (r, M9)) : fz_Me l yX8_jams cX8_jams 2 (some .int) 4 91 G fz_shC fz_KC [.ref (G.1 0), .int a0] M (fz_Qi G fz_shC fz_KC r M9) := by
  refine fz_body (by decide) (Nat.le_of_ble_eq_true rfl) ?_
  intro p e s m args below meth c H locs ls C hr hlk hF hT hl
  have C : CallFix p m c cX8_jams 2 s args wsL_law RX8 := C
  have hl : lv_has ls 2 [(0, .ref (G.1 0)), (1, .int a0)] := hl
  exact b_X8_jams_0 C hr hlk hF hT (lv_sub hl [0, 1] rfl) h
set_option maxHeartbeats 4000000 in
set_option maxRecDepth 100000 in
theorem b_X8_spring_0 {p : Program} {l : Launch} {e : Env} {s : State} {m : MethodId} {args : Array Value} {below : List Frame} {meth : Method} {c : Code} {G : fz_G}      {M : fz_M} {H : Heap} {locs : List Loc} {ls : Array Slot} {r : Int32} {M9 : fz_M} (C : CallFix p m c cX8_spring 1 s args wsL_law RX8) (hr : meth.sig.returnType = (some .int)) (hlk : meth.locks = false) (hF : fz_F G fz_KC s)  (hT : fz_T G fz_shC fz_KC s M H locs) (hl : lv_has ls 1 [(0, .ref (G.1 0))]) (h : f_X8_spring M = some (r, M9)) : W p l e (fz_rm 3 67) s m args below meth c H locs 0 0 (MQ below (fz_Qi G fz_shC fz_KC r M9) args s 0 0 (fz_Fr G fz_KC)) (F0 m 0 ls []) := by
  refine lv_aload_n C.1 C.2.1 dX8_spring_0 rfl (lv_at hl 0 rfl) ?_
  refine fz_getr C hF hT fz_c0 (j := 2) rfl fl_X8_26 dX8_spring_1 ?_
  refine lv_aload_n C.1 C.2.1 dX8_spring_4 rfl (lv_at hl 0 rfl) ?_
  refine fz_getr C hF hT fz_c0 (j := 6) rfl fl_X8_54 dX8_spring_5 ?_
  obtain ⟨M2, w3, h⟩ := fz_b1_s h
  refine fz_cv hT (fz_runV (np := 1) (rest := []) C hF hT (c_X0_remember l G 40 fz_now M M2 w3) fz_c5 (T := TX0) (N := 3) rfl cl_X8_187 rfl hl.1 rfl (Nat.le_of_ble_eq_true rfl) ⟨Nat.le_of_ble_eq_true rfl, Nat.le_of_ble_eq_true rfl, Nat.zero_le _, Nat.zero_le _⟩ dX8_spring_8) (fun H locs hT => ?_)
  refine lv_aload_n C.1 C.2.1 dX8_spring_11 rfl (lv_at hl 0 rfl) ?_
  refine fz_getr C hF hT fz_c0 (j := 6) rfl fl_X8_54 dX8_spring_12 ?_
  refine lv_aload_n C.1 C.2.1 dX8_spring_15 rfl (lv_at hl 0 rfl) ?_
  refine fz_getd C hF hT fz_c0 (j := 9) rfl fl_X8_69 dX8_spring_16 ?_
  obtain ⟨y4, ey4, h⟩ := fz_bd_s h
  rw [← ey4]
  obtain ⟨g5, h⟩ := fz_gd_s h
  refine fz_geti C hF hT (fz_pl g5) (j := 2) rfl fl_X8_101 dX8_spring_19 ?_
  obtain ⟨r6, M7, w8, h⟩ := fz_b2_s h
  refine fz_ci hT (fz_runV (np := 1) (rest := []) C hF hT (c_X6_passSpring l G 40 fz_now (fz_f M2 y4 2) M2 r6 M7 w8) (fz_st fz_now) (T := TX6) (N := 7) rfl cl_X8_210 rfl hl.1 rfl (Nat.le_of_ble_eq_true rfl) ⟨Nat.le_of_ble_eq_true rfl, Nat.le_of_ble_eq_true rfl, Nat.zero_le _, Nat.zero_le _⟩ dX8_spring_22) (fun H locs hT => ?_)
  cases h
  exact fz_reti C hr hlk hT dX8_spring_25
set_option maxRecDepth 100000 in
theorem c_X8_spring (l : Launch) (G : fz_G)   (M : fz_M) (r : Int32) (M9 : fz_M) (h : f_X8_spring M = some (r, M9)) : fz_Me l yX8_spring cX8_spring 1 (some .int) 3 67 G fz_shC fz_KC [.ref (G.1 0)] M (fz_Qi G fz_shC fz_KC r M9) := by
  refine fz_body (by decide) (Nat.le_of_ble_eq_true rfl) ?_
  intro p e s m args below meth c H locs ls C hr hlk hF hT hl
  have C : CallFix p m c cX8_spring 1 s args wsL_law RX8 := C
  have hl : lv_has ls 1 [(0, .ref (G.1 0))] := hl
  exact b_X8_spring_0 C hr hlk hF hT (lv_sub hl [0] rfl) h
set_option maxHeartbeats 4000000 in
set_option maxRecDepth 100000 in
theorem b_X8_undo_0 {p : Program} {l : Launch} {e : Env} {s : State} {m : MethodId} {args : Array Value} {below : List Frame} {meth : Method} {c : Code} {G : fz_G}      {M : fz_M} {H : Heap} {locs : List Loc} {ls : Array Slot} {r : Int32} {M9 : fz_M} (C : CallFix p m c cX8_undo 1 s args wsL_law RX8) (hr : meth.sig.returnType = (some .int)) (hlk : meth.locks = false) (hF : fz_F G fz_KC s)  (hT : fz_T G fz_shC fz_KC s M H locs) (hl : lv_has ls 1 [(0, .ref (G.1 0))]) (h : f_X8_undo M = some (r, M9)) : W p l e (fz_rm 3 67) s m args below meth c H locs 0 0 (MQ below (fz_Qi G fz_shC fz_KC r M9) args s 0 0 (fz_Fr G fz_KC)) (F0 m 0 ls []) := by
  refine lv_aload_n C.1 C.2.1 dX8_undo_0 rfl (lv_at hl 0 rfl) ?_
  refine fz_getr C hF hT fz_c0 (j := 2) rfl fl_X8_26 dX8_undo_1 ?_
  refine fz_geti C hF hT fz_c5 (j := 2) rfl fl_X8_107 dX8_undo_4 ?_
  refine lv_if_ne (tgt := 13) C.1 C.2.1 dX8_undo_7 (by decide) (fun c1 => ?_) (fun c1 => ?_)
  · have h := fz_ip c1 h
    refine lv_aload_n C.1 C.2.1 dX8_undo_13 rfl (lv_at hl 0 rfl) ?_
    refine fz_getr C hF hT fz_c0 (j := 2) rfl fl_X8_26 dX8_undo_14 ?_
    refine lv_aload_n C.1 C.2.1 dX8_undo_17 rfl (lv_at hl 0 rfl) ?_
    refine fz_getr C hF hT fz_c0 (j := 6) rfl fl_X8_54 dX8_undo_18 ?_
    obtain ⟨M3, w4, h⟩ := fz_b1_s h
    refine fz_cv hT (fz_runV (np := 1) (rest := []) C hF hT (c_X0_takeBack l G 40 fz_now M M3 w4) fz_c5 (T := TX0) (N := 3) rfl cl_X8_213 rfl hl.1 rfl (Nat.le_of_ble_eq_true rfl) ⟨Nat.le_of_ble_eq_true rfl, Nat.le_of_ble_eq_true rfl, Nat.zero_le _, Nat.zero_le _⟩ dX8_undo_21) (fun H locs hT => ?_)
    refine lv_aload_n C.1 C.2.1 dX8_undo_24 rfl (lv_at hl 0 rfl) ?_
    refine fz_getr C hF hT fz_c0 (j := 2) rfl fl_X8_26 dX8_undo_25 ?_
    refine fz_geti C hF hT fz_c5 (j := 2) rfl fl_X8_107 dX8_undo_28 ?_
    cases h
    exact fz_reti C hr hlk hT dX8_undo_31
  · have h := fz_iq (not_not_intro c1) h
    refine lv_bipush (v := (-3)) C.1 C.2.1 dX8_undo_10 (by decide) ?_
    cases h
    exact fz_reti C hr hlk hT dX8_undo_12
set_option maxRecDepth 100000 in
theorem c_X8_undo (l : Launch) (G : fz_G)   (M : fz_M) (r : Int32) (M9 : fz_M) (h : f_X8_undo M = some (r, M9)) : fz_Me l yX8_undo cX8_undo 1 (some .int) 3 67 G fz_shC fz_KC [.ref (G.1 0)] M (fz_Qi G fz_shC fz_KC r M9) := by
  refine fz_body (by decide) (Nat.le_of_ble_eq_true rfl) ?_
  intro p e s m args below meth c H locs ls C hr hlk hF hT hl
  have C : CallFix p m c cX8_undo 1 s args wsL_law RX8 := C
  have hl : lv_has ls 1 [(0, .ref (G.1 0))] := hl
  exact b_X8_undo_0 C hr hlk hF hT (lv_sub hl [0] rfl) h
set_option maxHeartbeats 4000000 in
set_option maxRecDepth 100000 in
theorem b_X8_areHours_0 {p : Program} {l : Launch} {e : Env} {s : State} {m : MethodId} {args : Array Value} {below : List Frame} {meth : Method} {c : Code} {G : fz_G}     {v0 : Int32} {M : fz_M} {H : Heap} {locs : List Loc} {ls : Array Slot} {r : Int32} (C : CallFix p m c cX8_areHours 1 s args wsL_law RX8) (hr : meth.sig.returnType = (some .boolean)) (hlk : meth.locks = false) (hF : fz_F G fz_KC s)  (hT : fz_T G fz_shC fz_KC s M H locs) (hl : lv_has ls 1 [(0, .int v0)]) (h : f_X8_areHours v0 M = some r) : W p l e (fz_rm 0 0) s m args below meth c H locs 0 0 (MQ below (fz_Qi G fz_shC fz_KC r M) args s 0 0 (fz_Fr G fz_KC)) (F0 m 0 ls []) := by
  refine lv_iload_n C.1 C.2.1 dX8_areHours_0 rfl (lv_at hl 0 rfl) ?_
  refine lv_iconst (v := 1) C.1 C.2.1 dX8_areHours_1 (by decide) ?_
  refine lv_icmp_lt (tgt := 15) C.1 C.2.1 dX8_areHours_2 (by decide) (fun c1 => ?_) (fun c1 => ?_)
  · have h := fz_ip c1 h
    refine lv_iconst (v := 0) C.1 C.2.1 dX8_areHours_15 (by decide) ?_
    cases h
    exact fz_retz C hr hlk rfl hT dX8_areHours_16
  · have h := fz_iq c1 h
    refine lv_iload_n C.1 C.2.1 dX8_areHours_5 rfl (lv_at hl 0 rfl) ?_
    refine lv_bipush (v := 9) C.1 C.2.1 dX8_areHours_6 (by decide) ?_
    refine lv_icmp_gt (tgt := 15) C.1 C.2.1 dX8_areHours_8 (by decide) (fun c2 => ?_) (fun c2 => ?_)
    · have h := fz_ip c2 h
      refine lv_iconst (v := 0) C.1 C.2.1 dX8_areHours_15 (by decide) ?_
      cases h
      exact fz_retz C hr hlk rfl hT dX8_areHours_16
    · have h := fz_iq c2 h
      refine lv_iconst (v := 1) C.1 C.2.1 dX8_areHours_11 (by decide) ?_
      refine lv_goto (tgt := 16) C.1 C.2.1 dX8_areHours_12 (by decide) ?_
      cases h
      exact fz_retz C hr hlk rfl hT dX8_areHours_16
set_option maxRecDepth 100000 in
theorem c_X8_areHours (l : Launch) (G : fz_G)  (a0 : Int32) (M : fz_M) (r : Int32) (h : f_X8_areHours a0 M = some r) : fz_Me l yX8_areHours cX8_areHours 1 (some .boolean) 0 0 G fz_shC fz_KC [.int a0] M (fz_Qi G fz_shC fz_KC r M) := by
  refine fz_body (by decide) (Nat.le_of_ble_eq_true rfl) ?_
  intro p e s m args below meth c H locs ls C hr hlk hF hT hl
  have C : CallFix p m c cX8_areHours 1 s args wsL_law RX8 := C
  have hl : lv_has ls 1 [(0, .int a0)] := hl
  exact b_X8_areHours_0 C hr hlk hF hT (lv_sub hl [0] rfl) h
set_option maxHeartbeats 4000000 in
set_option maxRecDepth 100000 in
theorem b_X8_after_0 {p : Program} {l : Launch} {e : Env} {s : State} {m : MethodId} {args : Array Value} {below : List Frame} {meth : Method} {c : Code} {G : fz_G}     {v1 : Int32} {v2 : Int32} {v3 : Int32} {M : fz_M} {H : Heap} {locs : List Loc} {ls : Array Slot} {r : Int32} {M9 : fz_M} (C : CallFix p m c cX8_after 4 s args wsL_law RX8) (hr : meth.sig.returnType = (some .int)) (hlk : meth.locks = false) (hF : fz_F G fz_KC s)  (hT : fz_T G fz_shC fz_KC s M H locs) (hl : lv_has ls 4 [(0, .ref (G.1 0)), (1, .int v1), (2, .int v2), (3, .int v3)]) (h : f_X8_after v1 v2 v3 M = some (r, M9)) : W p l e (fz_rm 5 115) s m args below meth c H locs 0 0 (MQ below (fz_Qi G fz_shC fz_KC r M9) args s 0 0 (fz_Fr G fz_KC)) (F0 m 0 ls []) := by
  refine lv_aload_n C.1 C.2.1 dX8_after_0 rfl (lv_at hl 0 rfl) ?_
  refine lv_iload_n C.1 C.2.1 dX8_after_1 rfl (lv_at hl 1 rfl) ?_
  obtain ⟨r1, w3, h⟩ := fz_b1_s h
  refine fz_ci hT (fz_runV (np := 1) (rest := []) C hF hT (c_X8_isPiece l G v1 M r1 w3) fz_c0 (T := TX8) (N := 11) rfl cl_X8_155 rfl hl.1 rfl (Nat.le_of_ble_eq_true rfl) ⟨Nat.le_of_ble_eq_true rfl, Nat.le_of_ble_eq_true rfl, Nat.zero_le _, Nat.zero_le _⟩ dX8_after_2) (fun H locs hT => ?_)
  refine lv_if_ne (tgt := 10) C.1 C.2.1 dX8_after_5 (by decide) (fun c4 => ?_) (fun c4 => ?_)
  · have h := fz_ip c4 h
    refine lv_iload_n C.1 C.2.1 dX8_after_10 rfl (lv_at hl 2 rfl) ?_
    obtain ⟨r5, w7, h⟩ := fz_b1_s h
    refine fz_ci hT (fz_runS (np := 1) (rest := []) C hF hT (c_X8_isLevel l G v2 M r5 w7) cl_X8_180 rfl hl.1 rfl (Nat.le_of_ble_eq_true rfl) ⟨Nat.le_of_ble_eq_true rfl, Nat.le_of_ble_eq_true rfl, Nat.zero_le _, Nat.zero_le _⟩ dX8_after_11) (fun H locs hT => ?_)
    refine lv_if_eq (tgt := 24) C.1 C.2.1 dX8_after_14 (by decide) (fun c8 => ?_) (fun c8 => ?_)
    · have h := fz_ip c8 h
      refine lv_bipush (v := (-2)) C.1 C.2.1 dX8_after_24 (by decide) ?_
      cases h
      exact fz_reti C hr hlk hT dX8_after_26
    · have h := fz_iq c8 h
      refine lv_iload_n C.1 C.2.1 dX8_after_17 rfl (lv_at hl 3 rfl) ?_
      obtain ⟨r9, w11, h⟩ := fz_b1_s h
      refine fz_ci hT (fz_runS (np := 1) (rest := []) C hF hT (c_X8_areHours l G v3 M r9 w11) cl_X8_216 rfl hl.1 rfl (Nat.le_of_ble_eq_true rfl) ⟨Nat.le_of_ble_eq_true rfl, Nat.le_of_ble_eq_true rfl, Nat.zero_le _, Nat.zero_le _⟩ dX8_after_18) (fun H locs hT => ?_)
      refine lv_if_ne (tgt := 27) C.1 C.2.1 dX8_after_21 (by decide) (fun c12 => ?_) (fun c12 => ?_)
      · have h := fz_ip c12 h
        refine lv_aload_n C.1 C.2.1 dX8_after_27 rfl (lv_at hl 0 rfl) ?_
        refine fz_getr C hF hT fz_c0 (j := 4) rfl fl_X8_40 dX8_after_28 ?_
        refine lv_aload_n C.1 C.2.1 dX8_after_31 rfl (lv_at hl 0 rfl) ?_
        refine fz_getd C hF hT fz_c0 (j := 9) rfl fl_X8_69 dX8_after_32 ?_
        obtain ⟨y13, ey13, h⟩ := fz_bd_s h
        rw [← ey13]
        obtain ⟨g14, h⟩ := fz_gd_s h
        refine lv_aload_n C.1 C.2.1 dX8_after_35 rfl (lv_at hl 0 rfl) ?_
        refine fz_getr C hF hT fz_c0 (j := 6) rfl fl_X8_54 dX8_after_36 ?_
        refine lv_bipush (v := (-9)) C.1 C.2.1 dX8_after_39 (by decide) ?_
        obtain ⟨M16, w17, h⟩ := fz_b1_s h
        refine fz_cv hT (fz_runV (np := 3) (rest := []) C hF hT (c_X7_begin l G y13 g14 40 fz_now (-9) M M16 w17) fz_c10 (T := TX7) (N := 6) rfl cl_X8_191 rfl hl.1 rfl (Nat.le_of_ble_eq_true rfl) ⟨Nat.le_of_ble_eq_true rfl, Nat.le_of_ble_eq_true rfl, Nat.zero_le _, Nat.zero_le _⟩ dX8_after_41) (fun H locs hT => ?_)
        refine lv_aload_n C.1 C.2.1 dX8_after_44 rfl (lv_at hl 0 rfl) ?_
        refine fz_getr C hF hT fz_c0 (j := 4) rfl fl_X8_40 dX8_after_45 ?_
        refine lv_aload_n C.1 C.2.1 dX8_after_48 rfl (lv_at hl 0 rfl) ?_
        refine fz_getd C hF hT fz_c0 (j := 9) rfl fl_X8_69 dX8_after_49 ?_
        obtain ⟨y18, ey18, h⟩ := fz_bd_s h
        rw [← ey18]
        obtain ⟨g19, h⟩ := fz_gd_s h
        refine lv_iload_n C.1 C.2.1 dX8_after_52 rfl (lv_at hl 2 rfl) ?_
        refine lv_iload_n C.1 C.2.1 dX8_after_53 rfl (lv_at hl 3 rfl) ?_
        obtain ⟨M21, w22, h⟩ := fz_b1_s h
        refine fz_cv hT (fz_runV (np := 3) (rest := []) C hF hT (c_X7_passHours l G y18 g19 v2 v3 M16 M21 w22) fz_c10 (T := TX7) (N := 6) rfl cl_X8_219 rfl hl.1 rfl (Nat.le_of_ble_eq_true rfl) ⟨Nat.le_of_ble_eq_true rfl, Nat.le_of_ble_eq_true rfl, Nat.zero_le _, Nat.zero_le _⟩ dX8_after_54) (fun H locs hT => ?_)
        refine lv_aload_n C.1 C.2.1 dX8_after_57 rfl (lv_at hl 0 rfl) ?_
        refine fz_getr C hF hT fz_c0 (j := 4) rfl fl_X8_40 dX8_after_58 ?_
        refine fz_getr C hF hT fz_c10 (j := 0) rfl fl_X8_198 dX8_after_61 ?_
        refine lv_iload_n C.1 C.2.1 dX8_after_64 rfl (lv_at hl 1 rfl) ?_
        obtain ⟨g23, h⟩ := fz_gd_s h
        refine fz_ia C hF hT fz_c11 g23 dX8_after_65 ?_
        cases h
        exact fz_reti C hr hlk hT dX8_after_66
      · have h := fz_iq (not_not_intro c12) h
        refine lv_bipush (v := (-2)) C.1 C.2.1 dX8_after_24 (by decide) ?_
        cases h
        exact fz_reti C hr hlk hT dX8_after_26
  · have h := fz_iq (not_not_intro c4) h
    refine lv_iconst (v := (-1)) C.1 C.2.1 dX8_after_8 (by decide) ?_
    cases h
    exact fz_reti C hr hlk hT dX8_after_9
set_option maxRecDepth 100000 in
theorem c_X8_after (l : Launch) (G : fz_G)  (a0 : Int32) (a1 : Int32) (a2 : Int32) (M : fz_M) (r : Int32) (M9 : fz_M) (h : f_X8_after a0 a1 a2 M = some (r, M9)) : fz_Me l yX8_after cX8_after 4 (some .int) 5 115 G fz_shC fz_KC [.ref (G.1 0), .int a0, .int a1, .int a2] M (fz_Qi G fz_shC fz_KC r M9) := by
  refine fz_body (by decide) (Nat.le_of_ble_eq_true rfl) ?_
  intro p e s m args below meth c H locs ls C hr hlk hF hT hl
  have C : CallFix p m c cX8_after 4 s args wsL_law RX8 := C
  have hl : lv_has ls 4 [(0, .ref (G.1 0)), (1, .int a0), (2, .int a1), (3, .int a2)] := hl
  exact b_X8_after_0 C hr hlk hF hT (lv_sub hl [0, 1, 2, 3] rfl) h
set_option maxHeartbeats 4000000 in
set_option maxRecDepth 100000 in
theorem b_X8_arePieces_0 {p : Program} {l : Launch} {e : Env} {s : State} {m : MethodId} {args : Array Value} {below : List Frame} {meth : Method} {c : Code} {G : fz_G}     {v1 : Int32} {M : fz_M} {H : Heap} {locs : List Loc} {ls : Array Slot} {r : Int32} (C : CallFix p m c cX8_arePieces 2 s args wsL_law RX8) (hr : meth.sig.returnType = (some .boolean)) (hlk : meth.locks = false) (hF : fz_F G fz_KC s)  (hT : fz_T G fz_shC fz_KC s M H locs) (hl : lv_has ls 2 [(0, .ref (G.1 0)), (1, .int v1)]) (h : f_X8_arePieces v1 M = some r) : W p l e (fz_rm 0 0) s m args below meth c H locs 0 0 (MQ below (fz_Qi G fz_shC fz_KC r M) args s 0 0 (fz_Fr G fz_KC)) (F0 m 0 ls []) := by
  refine lv_iload_n C.1 C.2.1 dX8_arePieces_0 rfl (lv_at hl 1 rfl) ?_
  refine lv_if_lt (tgt := 21) C.1 C.2.1 dX8_arePieces_1 (by decide) (fun c1 => ?_) (fun c1 => ?_)
  · have h := fz_ip c1 h
    refine lv_iconst (v := 0) C.1 C.2.1 dX8_arePieces_21 (by decide) ?_
    cases h
    exact fz_retz C hr hlk rfl hT dX8_arePieces_22
  · have h := fz_iq c1 h
    refine lv_iload_n C.1 C.2.1 dX8_arePieces_4 rfl (lv_at hl 1 rfl) ?_
    refine lv_iconst (v := 1) C.1 C.2.1 dX8_arePieces_5 (by decide) ?_
    refine lv_aload_n C.1 C.2.1 dX8_arePieces_6 rfl (lv_at hl 0 rfl) ?_
    refine fz_getd C hF hT fz_c0 (j := 9) rfl fl_X8_69 dX8_arePieces_7 ?_
    obtain ⟨y2, ey2, h⟩ := fz_bd_s h
    rw [← ey2]
    obtain ⟨g3, h⟩ := fz_gd_s h
    refine fz_geti C hF hT (fz_pl g3) (j := 2) rfl fl_X8_101 dX8_arePieces_10 ?_
    refine lv_ishl C.1 C.2.1 dX8_arePieces_13 ?_
    refine lv_icmp_ge (tgt := 21) C.1 C.2.1 dX8_arePieces_14 (by decide) (fun c4 => ?_) (fun c4 => ?_)
    · have h := fz_ip c4 h
      refine lv_iconst (v := 0) C.1 C.2.1 dX8_arePieces_21 (by decide) ?_
      cases h
      exact fz_retz C hr hlk rfl hT dX8_arePieces_22
    · have h := fz_iq c4 h
      refine lv_iconst (v := 1) C.1 C.2.1 dX8_arePieces_17 (by decide) ?_
      refine lv_goto (tgt := 22) C.1 C.2.1 dX8_arePieces_18 (by decide) ?_
      cases h
      exact fz_retz C hr hlk rfl hT dX8_arePieces_22
set_option maxRecDepth 100000 in
theorem c_X8_arePieces (l : Launch) (G : fz_G)  (a0 : Int32) (M : fz_M) (r : Int32) (h : f_X8_arePieces a0 M = some r) : fz_Me l yX8_arePieces cX8_arePieces 2 (some .boolean) 0 0 G fz_shC fz_KC [.ref (G.1 0), .int a0] M (fz_Qi G fz_shC fz_KC r M) := by
  refine fz_body (by decide) (Nat.le_of_ble_eq_true rfl) ?_
  intro p e s m args below meth c H locs ls C hr hlk hF hT hl
  have C : CallFix p m c cX8_arePieces 2 s args wsL_law RX8 := C
  have hl : lv_has ls 2 [(0, .ref (G.1 0)), (1, .int a0)] := hl
  exact b_X8_arePieces_0 C hr hlk hF hT (lv_sub hl [0, 1] rfl) h
set_option maxHeartbeats 4000000 in
set_option maxRecDepth 100000 in
theorem b_X8_tieAll_5_l {p : Program} {l : Launch} {e : Env} {s : State} {m : MethodId} {args : Array Value} {below : List Frame} {meth : Method} {c : Code} {G : fz_G}     {v1 : Int32} {v2 : Int32}  {r : Int32} {M9 : fz_M} (C : CallFix p m c cX8_tieAll 6 s args wsL_law RX8) (hr : meth.sig.returnType = (some .int)) (hlk : meth.locks = false) (hF : fz_F G fz_KC s)  : ∀ (n : Nat) (v3 : Int32) (v4 : Int32) (M : fz_M) (H : Heap) (locs : List Loc) (ls : Array Slot), fz_T G fz_shC fz_KC s M H locs → lv_has ls 6 [(0, .ref (G.1 0)), (1, .int v1), (2, .int v2), (3, .int v3), (4, .int v4)] → fz_lp (fun ag z => f_X8_tieAll_5_s ag v1 v2 z.1 z.2.1 z.2.2) n (v3, v4, M) = some (r, M9) → W p l e (fz_rm 2 43) s m args below meth c H locs 0 0 (MQ below (fz_Qi G fz_shC fz_KC r M9) args s 0 0 (fz_Fr G fz_KC)) (F0 m 5 ls []) := by
  intro n
  induction n with
  | zero =>
    intro v3 v4 M H locs ls hT hl h
    cases h
  | succ n ih =>
    intro v3 v4 M H locs ls hT hl h
    have h : f_X8_tieAll_5_s (fz_lp (fun ag z => f_X8_tieAll_5_s ag v1 v2 z.1 z.2.1 z.2.2) n) v1 v2 v3 v4 M = some (r, M9) := h
    have hag5 := ih
    generalize fz_lp (fun ag z => f_X8_tieAll_5_s ag v1 v2 z.1 z.2.1 z.2.2) n = ag5 at h hag5
    refine lv_iload C.1 C.2.1 dX8_tieAll_5 (lv_at hl 4 rfl) ?_
    refine lv_aload_n C.1 C.2.1 dX8_tieAll_7 rfl (lv_at hl 0 rfl) ?_
    refine fz_getd C hF hT fz_c0 (j := 9) rfl fl_X8_69 dX8_tieAll_8 ?_
    obtain ⟨y1, ey1, h⟩ := fz_bd_s h
    rw [← ey1]
    obtain ⟨g2, h⟩ := fz_gd_s h
    refine fz_geti C hF hT (fz_pl g2) (j := 2) rfl fl_X8_101 dX8_tieAll_11 ?_
    refine lv_icmp_ge (tgt := 75) C.1 C.2.1 dX8_tieAll_14 (by decide) (fun c3 => ?_) (fun c3 => ?_)
    · have h := fz_ip c3 h
      refine lv_iload_n C.1 C.2.1 dX8_tieAll_75 rfl (lv_at hl 3 rfl) ?_
      cases h
      exact fz_reti C hr hlk hT dX8_tieAll_76
    · have h := fz_iq c3 h
      refine lv_iload_n C.1 C.2.1 dX8_tieAll_17 rfl (lv_at hl 1 rfl) ?_
      refine lv_iload C.1 C.2.1 dX8_tieAll_18 (lv_at hl 4 rfl) ?_
      refine lv_ishr C.1 C.2.1 dX8_tieAll_20 ?_
      refine lv_iconst (v := 1) C.1 C.2.1 dX8_tieAll_21 (by decide) ?_
      refine lv_iand C.1 C.2.1 dX8_tieAll_22 ?_
      refine lv_iconst (v := 1) C.1 C.2.1 dX8_tieAll_23 (by decide) ?_
      refine lv_icmp_ne (tgt := 69) C.1 C.2.1 dX8_tieAll_24 (by decide) (fun c4 => ?_) (fun c4 => ?_)
      · have h := fz_ip c4 h
        refine lv_iinc (v := (v4 + 1)) (lv' := [(4, .int (v4 + 1)), (0, .ref (G.1 0)), (1, .int v1), (2, .int v2), (3, .int v3)]) C.1 C.2.1 dX8_tieAll_69 hl (k := 4) rfl rfl (by decide) rfl (fun ls hl => ?_)
        refine lv_goto (tgt := 5) C.1 C.2.1 dX8_tieAll_72 (by decide) ?_
        exact hag5 v3 (v4 + 1) M _ _ _ hT (lv_sub hl [1, 2, 3, 4, 0] rfl) h
      · have h := fz_iq (not_not_intro c4) h
        refine lv_aload_n C.1 C.2.1 dX8_tieAll_27 rfl (lv_at hl 0 rfl) ?_
        refine fz_getd C hF hT fz_c0 (j := 9) rfl fl_X8_69 dX8_tieAll_28 ?_
        obtain ⟨y5, ey5, h⟩ := fz_bd_s h
        rw [← ey5]
        obtain ⟨g6, h⟩ := fz_gd_s h
        refine lv_aload_n C.1 C.2.1 dX8_tieAll_31 rfl (lv_at hl 0 rfl) ?_
        refine fz_getr C hF hT fz_c0 (j := 4) rfl fl_X8_40 dX8_tieAll_32 ?_
        refine fz_getr C hF hT fz_c10 (j := 0) rfl fl_X8_198 dX8_tieAll_35 ?_
        refine lv_iload C.1 C.2.1 dX8_tieAll_38 (lv_at hl 4 rfl) ?_
        obtain ⟨g7, h⟩ := fz_gd_s h
        refine fz_ia C hF hT fz_c11 g7 dX8_tieAll_40 ?_
        refine lv_iload_n C.1 C.2.1 dX8_tieAll_41 rfl (lv_at hl 2 rfl) ?_
        obtain ⟨r8, w10, h⟩ := fz_b1_s h
        refine fz_ci hT (fz_runV (np := 2) (rest := []) C hF hT (c_X3_waterIn l G y5 g6 (fz_g M 11 v4) v2 M r8 w10) (fz_pl g6) (T := TX3) (N := 12) rfl cl_X8_183 rfl hl.1 rfl (Nat.le_of_ble_eq_true rfl) ⟨Nat.le_of_ble_eq_true rfl, Nat.le_of_ble_eq_true rfl, Nat.zero_le _, Nat.zero_le _⟩ dX8_tieAll_42) (fun H locs hT => ?_)
        refine lv_bipush (v := 9) C.1 C.2.1 dX8_tieAll_45 (by decide) ?_
        refine va_mmin C.1 C.2.1 (C.2.2.1.trans hl.1.symm) C.2.2.2.1 (C.2.2.2.2 _ (fz_q27 _ (List.mem_of_getElem? (i := 5) rfl))) (C.2.2.2.2 _ (fz_q27 _ (List.mem_of_getElem? (i := 6) rfl))) (C.2.2.2.2 _ (fz_q20 _ (List.mem_of_getElem? (i := 5) rfl))) (C.2.2.2.2 _ (fz_q27 _ (List.mem_of_getElem? (i := 7) rfl))) (Nat.le_of_ble_eq_true rfl) (Nat.le_of_ble_eq_true rfl) (Nat.zero_le _) (Nat.zero_le _) dX8_tieAll_47 ?_
        obtain ⟨x11, ex11, h⟩ := fz_bd_s h
        refine fz_nmi ex11 ?_
        refine lv_istore (lv' := [(5, .int x11), (0, .ref (G.1 0)), (1, .int v1), (2, .int v2), (3, .int v3), (4, .int v4)]) C.1 C.2.1 dX8_tieAll_50 hl (by decide) rfl (fun ls hl => ?_)
        refine lv_aload_n C.1 C.2.1 dX8_tieAll_52 rfl (lv_at hl 1 rfl) ?_
        refine fz_getr C hF hT fz_c0 (j := 4) rfl fl_X8_40 dX8_tieAll_53 ?_
        refine fz_getr C hF hT fz_c10 (j := 1) rfl fl_X8_199 dX8_tieAll_56 ?_
        refine lv_iload C.1 C.2.1 dX8_tieAll_59 (lv_at hl 5 rfl) ?_
        refine lv_iload C.1 C.2.1 dX8_tieAll_61 (lv_at hl 0 rfl) ?_
        obtain ⟨g12, h⟩ := fz_gd_s h
        obtain ⟨M13, eM13, h⟩ := fz_bd_s h
        refine fz_ias C hF hT fz_c12 g12 dX8_tieAll_63 (fun H locs hT => ?_)
        rw [← eM13] at hT
        refine lv_iload_n C.1 C.2.1 dX8_tieAll_64 rfl (lv_at hl 4 rfl) ?_
        refine lv_iload C.1 C.2.1 dX8_tieAll_65 (lv_at hl 0 rfl) ?_
        refine lv_iadd C.1 C.2.1 dX8_tieAll_67 ?_
        obtain ⟨x14, ex14, h⟩ := fz_bd_s h
        refine fz_nmi ex14 ?_
        refine lv_istore_n (lv' := [(3, .int x14), (5, .int x11), (0, .ref (G.1 0)), (1, .int v1), (2, .int v2), (4, .int v4)]) C.1 C.2.1 dX8_tieAll_68 rfl hl (by decide) rfl (fun ls hl => ?_)
        refine lv_iinc (v := (v4 + 1)) (lv' := [(4, .int (v4 + 1)), (3, .int x14), (5, .int x11), (0, .ref (G.1 0)), (1, .int v1), (2, .int v2)]) C.1 C.2.1 dX8_tieAll_69 hl (k := 5) rfl rfl (by decide) rfl (fun ls hl => ?_)
        refine lv_goto (tgt := 5) C.1 C.2.1 dX8_tieAll_72 (by decide) ?_
        exact hag5 x14 (v4 + 1) M13 _ _ _ hT (lv_sub hl [3, 4, 5, 1, 0] rfl) h
set_option maxHeartbeats 4000000 in
set_option maxRecDepth 100000 in
theorem b_X8_tieAll_5 {p : Program} {l : Launch} {e : Env} {s : State} {m : MethodId} {args : Array Value} {below : List Frame} {meth : Method} {c : Code} {G : fz_G}     {v1 : Int32} {v2 : Int32} {v3 : Int32} {v4 : Int32} {M : fz_M} {H : Heap} {locs : List Loc} {ls : Array Slot} {r : Int32} {M9 : fz_M} (C : CallFix p m c cX8_tieAll 6 s args wsL_law RX8) (hr : meth.sig.returnType = (some .int)) (hlk : meth.locks = false) (hF : fz_F G fz_KC s)  (hT : fz_T G fz_shC fz_KC s M H locs) (hl : lv_has ls 6 [(0, .ref (G.1 0)), (1, .int v1), (2, .int v2), (3, .int v3), (4, .int v4)]) (h : f_X8_tieAll_5 v1 v2 v3 v4 M = some (r, M9)) : W p l e (fz_rm 2 43) s m args below meth c H locs 0 0 (MQ below (fz_Qi G fz_shC fz_KC r M9) args s 0 0 (fz_Fr G fz_KC)) (F0 m 5 ls []) :=
  b_X8_tieAll_5_l C hr hlk hF fz_fuel v3 v4 M H locs ls hT hl h
set_option maxHeartbeats 4000000 in
set_option maxRecDepth 100000 in
theorem b_X8_tieAll_0 {p : Program} {l : Launch} {e : Env} {s : State} {m : MethodId} {args : Array Value} {below : List Frame} {meth : Method} {c : Code} {G : fz_G}     {v1 : Int32} {v2 : Int32} {M : fz_M} {H : Heap} {locs : List Loc} {ls : Array Slot} {r : Int32} {M9 : fz_M} (C : CallFix p m c cX8_tieAll 6 s args wsL_law RX8) (hr : meth.sig.returnType = (some .int)) (hlk : meth.locks = false) (hF : fz_F G fz_KC s)  (hT : fz_T G fz_shC fz_KC s M H locs) (hl : lv_has ls 6 [(0, .ref (G.1 0)), (1, .int v1), (2, .int v2)]) (h : f_X8_tieAll v1 v2 M = some (r, M9)) : W p l e (fz_rm 2 43) s m args below meth c H locs 0 0 (MQ below (fz_Qi G fz_shC fz_KC r M9) args s 0 0 (fz_Fr G fz_KC)) (F0 m 0 ls []) := by
  refine lv_iconst (v := 0) C.1 C.2.1 dX8_tieAll_0 (by decide) ?_
  refine lv_istore_n (lv' := [(3, .int 0), (0, .ref (G.1 0)), (1, .int v1), (2, .int v2)]) C.1 C.2.1 dX8_tieAll_1 rfl hl (by decide) rfl (fun ls hl => ?_)
  refine lv_iconst (v := 0) C.1 C.2.1 dX8_tieAll_2 (by decide) ?_
  refine lv_istore (lv' := [(4, .int 0), (3, .int 0), (0, .ref (G.1 0)), (1, .int v1), (2, .int v2)]) C.1 C.2.1 dX8_tieAll_3 hl (by decide) rfl (fun ls hl => ?_)
  exact b_X8_tieAll_5 C hr hlk hF hT (lv_sub hl [2, 3, 4, 1, 0] rfl) h
set_option maxRecDepth 100000 in
theorem c_X8_tieAll (l : Launch) (G : fz_G)  (a0 : Int32) (a1 : Int32) (M : fz_M) (r : Int32) (M9 : fz_M) (h : f_X8_tieAll a0 a1 M = some (r, M9)) : fz_Me l yX8_tieAll cX8_tieAll 6 (some .int) 2 43 G fz_shC fz_KC [.ref (G.1 0), .int a0, .int a1] M (fz_Qi G fz_shC fz_KC r M9) := by
  refine fz_body (by decide) (Nat.le_of_ble_eq_true rfl) ?_
  intro p e s m args below meth c H locs ls C hr hlk hF hT hl
  have C : CallFix p m c cX8_tieAll 6 s args wsL_law RX8 := C
  have hl : lv_has ls 6 [(0, .ref (G.1 0)), (1, .int a0), (2, .int a1)] := hl
  exact b_X8_tieAll_0 C hr hlk hF hT (lv_sub hl [0, 1, 2] rfl) h
