set_option maxHeartbeats 4000000 in
set_option maxRecDepth 100000 in
theorem b_X8_areWhereTheyWere_2_l {p : Program} {l : Launch} {e : Env} {s : State} {m : MethodId} {args : Array Value} {below : List Frame} {meth : Method} {c : Code} {G : fz_G}     {v1 : Int32} {M : fz_M} {r : Int32} (C : CallFix p m c cX8_areWhereTheyWere 3 s args wsL_law RX8) (hr : meth.sig.returnType = (some .boolean)) (hlk : meth.locks = false) (hF : fz_F G fz_KC s)  : ∀ (n : Nat) (v2 : Int32) (H : Heap) (locs : List Loc) (ls : Array Slot), fz_T G fz_shC fz_KC s M H locs → lv_has ls 3 [(0, .ref (G.1 0)), (1, .int v1), (2, .int v2)] → fz_lp (fun ag z => f_X8_areWhereTheyWere_2_s ag v1 z M) n v2 = some r → W p l e (fz_rm 0 0) s m args below meth c H locs 0 0 (MQ below (fz_Qi G fz_shC fz_KC r M) args s 0 0 (fz_Fr G fz_KC)) (F0 m 2 ls []) := by
  intro n
  induction n with
  | zero =>
    intro v2 H locs ls hT hl h
    cases h
  | succ n ih =>
    intro v2 H locs ls hT hl h
    have h : f_X8_areWhereTheyWere_2_s (fz_lp (fun ag z => f_X8_areWhereTheyWere_2_s ag v1 z M) n) v1 v2 M = some r := h
    have hag2 := ih
    generalize fz_lp (fun ag z => f_X8_areWhereTheyWere_2_s ag v1 z M) n = ag2 at h hag2
    refine lv_iload_n C.1 C.2.1 dX8_areWhereTheyWere_2 rfl (lv_at hl 2 rfl) ?_
    refine lv_aload_n C.1 C.2.1 dX8_areWhereTheyWere_3 rfl (lv_at hl 0 rfl) ?_
    refine fz_getd C hF hT fz_c0 (j := 9) rfl fl_X8_69 dX8_areWhereTheyWere_4 ?_
    obtain ⟨y1, ey1, h⟩ := fz_bd_s h
    rw [← ey1]
    obtain ⟨g2, h⟩ := fz_gd_s h
    refine fz_geti C hF hT (fz_pl g2) (j := 2) rfl fl_X8_101 dX8_areWhereTheyWere_7 ?_
    refine lv_icmp_ge (tgt := 51) C.1 C.2.1 dX8_areWhereTheyWere_10 (by decide) (fun c3 => ?_) (fun c3 => ?_)
    · have h := fz_ip c3 h
      refine lv_iconst (v := 1) C.1 C.2.1 dX8_areWhereTheyWere_51 (by decide) ?_
      cases h
      exact fz_retz C hr hlk rfl hT dX8_areWhereTheyWere_52
    · have h := fz_iq c3 h
      refine lv_iload_n C.1 C.2.1 dX8_areWhereTheyWere_13 rfl (lv_at hl 1 rfl) ?_
      refine lv_iload_n C.1 C.2.1 dX8_areWhereTheyWere_14 rfl (lv_at hl 2 rfl) ?_
      refine lv_ishr C.1 C.2.1 dX8_areWhereTheyWere_15 ?_
      refine lv_iconst (v := 1) C.1 C.2.1 dX8_areWhereTheyWere_16 (by decide) ?_
      refine lv_iand C.1 C.2.1 dX8_areWhereTheyWere_17 ?_
      refine lv_iconst (v := 1) C.1 C.2.1 dX8_areWhereTheyWere_18 (by decide) ?_
      refine lv_icmp_ne (tgt := 45) C.1 C.2.1 dX8_areWhereTheyWere_19 (by decide) (fun c4 => ?_) (fun c4 => ?_)
      · have h := fz_ip c4 h
        refine lv_iinc (v := (v2 + 1)) (lv' := [(2, .int (v2 + 1)), (0, .ref (G.1 0)), (1, .int v1)]) C.1 C.2.1 dX8_areWhereTheyWere_45 hl (k := 2) rfl rfl (by decide) rfl (fun ls hl => ?_)
        refine lv_goto (tgt := 2) C.1 C.2.1 dX8_areWhereTheyWere_48 (by decide) ?_
        exact hag2 (v2 + 1) _ _ _ hT (lv_sub hl [1, 2, 0] rfl) h
      · have h := fz_iq (not_not_intro c4) h
        refine lv_aload_n C.1 C.2.1 dX8_areWhereTheyWere_22 rfl (lv_at hl 0 rfl) ?_
        refine fz_getr C hF hT fz_c0 (j := 4) rfl fl_X8_40 dX8_areWhereTheyWere_23 ?_
        refine fz_getr C hF hT fz_c10 (j := 0) rfl fl_X8_198 dX8_areWhereTheyWere_26 ?_
        refine lv_iload_n C.1 C.2.1 dX8_areWhereTheyWere_29 rfl (lv_at hl 2 rfl) ?_
        obtain ⟨g5, h⟩ := fz_gd_s h
        refine fz_ia C hF hT fz_c11 g5 dX8_areWhereTheyWere_30 ?_
        refine lv_aload_n C.1 C.2.1 dX8_areWhereTheyWere_31 rfl (lv_at hl 0 rfl) ?_
        refine fz_getr C hF hT fz_c0 (j := 6) rfl fl_X8_54 dX8_areWhereTheyWere_32 ?_
        refine fz_getr C hF hT (fz_st fz_now) (j := 1) rfl fl_X8_133 dX8_areWhereTheyWere_35 ?_
        refine lv_iload_n C.1 C.2.1 dX8_areWhereTheyWere_38 rfl (lv_at hl 2 rfl) ?_
        obtain ⟨g6, h⟩ := fz_gd_s h
        refine fz_ia C hF hT (fz_st1 fz_now) g6 dX8_areWhereTheyWere_39 ?_
        refine lv_icmp_eq (tgt := 45) C.1 C.2.1 dX8_areWhereTheyWere_40 (by decide) (fun c7 => ?_) (fun c7 => ?_)
        · have h := fz_ip c7 h
          refine lv_iinc (v := (v2 + 1)) (lv' := [(2, .int (v2 + 1)), (0, .ref (G.1 0)), (1, .int v1)]) C.1 C.2.1 dX8_areWhereTheyWere_45 hl (k := 2) rfl rfl (by decide) rfl (fun ls hl => ?_)
          refine lv_goto (tgt := 2) C.1 C.2.1 dX8_areWhereTheyWere_48 (by decide) ?_
          exact hag2 (v2 + 1) _ _ _ hT (lv_sub hl [1, 2, 0] rfl) h
        · have h := fz_iq c7 h
          refine lv_iconst (v := 0) C.1 C.2.1 dX8_areWhereTheyWere_43 (by decide) ?_
          cases h
          exact fz_retz C hr hlk rfl hT dX8_areWhereTheyWere_44
set_option maxHeartbeats 4000000 in
set_option maxRecDepth 100000 in
theorem b_X8_areWhereTheyWere_2 {p : Program} {l : Launch} {e : Env} {s : State} {m : MethodId} {args : Array Value} {below : List Frame} {meth : Method} {c : Code} {G : fz_G}     {v1 : Int32} {v2 : Int32} {M : fz_M} {H : Heap} {locs : List Loc} {ls : Array Slot} {r : Int32} (C : CallFix p m c cX8_areWhereTheyWere 3 s args wsL_law RX8) (hr : meth.sig.returnType = (some .boolean)) (hlk : meth.locks = false) (hF : fz_F G fz_KC s)  (hT : fz_T G fz_shC fz_KC s M H locs) (hl : lv_has ls 3 [(0, .ref (G.1 0)), (1, .int v1), (2, .int v2)]) (h : f_X8_areWhereTheyWere_2 v1 v2 M = some r) : W p l e (fz_rm 0 0) s m args below meth c H locs 0 0 (MQ below (fz_Qi G fz_shC fz_KC r M) args s 0 0 (fz_Fr G fz_KC)) (F0 m 2 ls []) :=
  b_X8_areWhereTheyWere_2_l C hr hlk hF fz_fuel v2 H locs ls hT hl h
set_option maxHeartbeats 4000000 in
set_option maxRecDepth 100000 in
theorem b_X8_areWhereTheyWere_0 {p : Program} {l : Launch} {e : Env} {s : State} {m : MethodId} {args : Array Value} {below : List Frame} {meth : Method} {c : Code} {G : fz_G}     {v1 : Int32} {M : fz_M} {H : Heap} {locs : List Loc} {ls : Array Slot} {r : Int32} (C : CallFix p m c cX8_areWhereTheyWere 3 s args wsL_law RX8) (hr : meth.sig.returnType = (some .boolean)) (hlk : meth.locks = false) (hF : fz_F G fz_KC s)  (hT : fz_T G fz_shC fz_KC s M H locs) (hl : lv_has ls 3 [(0, .ref (G.1 0)), (1, .int v1)]) (h : f_X8_areWhereTheyWere v1 M = some r) : W p l e (fz_rm 0 0) s m args below meth c H locs 0 0 (MQ below (fz_Qi G fz_shC fz_KC r M) args s 0 0 (fz_Fr G fz_KC)) (F0 m 0 ls []) := by
  refine lv_iconst (v := 0) C.1 C.2.1 dX8_areWhereTheyWere_0 (by decide) ?_
  refine lv_istore_n (lv' := [(2, .int 0), (0, .ref (G.1 0)), (1, .int v1)]) C.1 C.2.1 dX8_areWhereTheyWere_1 rfl hl (by decide) rfl (fun ls hl => ?_)
  exact b_X8_areWhereTheyWere_2 C hr hlk hF hT (lv_sub hl [1, 2, 0] rfl) h
set_option maxRecDepth 100000 in
theorem c_X8_areWhereTheyWere (l : Launch) (G : fz_G)  (a0 : Int32) (M : fz_M) (r : Int32) (h : f_X8_areWhereTheyWere a0 M = some r) : fz_Me l yX8_areWhereTheyWere cX8_areWhereTheyWere 3 (some .boolean) 0 0 G fz_shC fz_KC [.ref (G.1 0), .int a0] M (fz_Qi G fz_shC fz_KC r M) := by
  refine fz_body (by decide) (Nat.le_of_ble_eq_true rfl) ?_
  intro p e s m args below meth c H locs ls C hr hlk hF hT hl
  have C : CallFix p m c cX8_areWhereTheyWere 3 s args wsL_law RX8 := C
  have hl : lv_has ls 3 [(0, .ref (G.1 0)), (1, .int a0)] := hl
  exact b_X8_areWhereTheyWere_0 C hr hlk hF hT (lv_sub hl [0, 1] rfl) h
set_option maxHeartbeats 4000000 in
set_option maxRecDepth 100000 in
theorem b_X8_ties_94 {p : Program} {l : Launch} {e : Env} {s : State} {m : MethodId} {args : Array Value} {below : List Frame} {meth : Method} {c : Code} {G : fz_G}   {ag47 : (Int32 × Int32 × Int32 × fz_M) → Option (Int32 × fz_M)}  {v1 : Int32} {v2 : Int32} {v3 : Int32} {v4 : Int32} {v5 : Int32} {v6 : Int32} {v7 : Int32} {v8 : Int32} {v9 : Int32} {M : fz_M} {H : Heap} {locs : List Loc} {ls : Array Slot} {r : Int32} {M9 : fz_M} (C : CallFix p m c cX8_ties 10 s args wsL_law RX8) (hr : meth.sig.returnType = (some .int)) (hlk : meth.locks = false) (hF : fz_F G fz_KC s) (hag47 : ∀ (v5 : Int32) (v6 : Int32) (v8 : Int32) (M : fz_M) (H : Heap) (locs : List Loc) (ls : Array Slot), fz_T G fz_shC fz_KC s M H locs → lv_has ls 10 [(0, .ref (G.1 0)), (1, .int v1), (2, .int v2), (3, .int v3), (4, .int v4), (5, .int v5), (6, .int v6), (7, .int v7), (8, .int v8)] → ag47 (v5, v6, v8, M) = some (r, M9) → W p l e (fz_rm 5 115) s m args below meth c H locs 0 0 (MQ below (fz_Qi G fz_shC fz_KC r M9) args s 0 0 (fz_Fr G fz_KC)) (F0 m 47 ls [])) (hT : fz_T G fz_shC fz_KC s M H locs) (hl : lv_has ls 10 [(0, .ref (G.1 0)), (1, .int v1), (2, .int v2), (3, .int v3), (4, .int v4), (5, .int v5), (6, .int v6), (7, .int v7), (8, .int v8), (9, .int v9)]) (h : f_X8_ties_94 ag47 v1 v2 v3 v4 v5 v6 v7 v8 v9 M = some (r, M9)) : W p l e (fz_rm 5 115) s m args below meth c H locs 0 0 (MQ below (fz_Qi G fz_shC fz_KC r M9) args s 0 0 (fz_Fr G fz_KC)) (F0 m 94 ls []) := by
  refine lv_aload_n C.1 C.2.1 dX8_ties_94 rfl (lv_at hl 0 rfl) ?_
  refine fz_getr C hF hT fz_c0 (j := 4) rfl fl_X8_40 dX8_ties_95 ?_
  refine lv_aload_n C.1 C.2.1 dX8_ties_98 rfl (lv_at hl 0 rfl) ?_
  refine fz_getd C hF hT fz_c0 (j := 9) rfl fl_X8_69 dX8_ties_99 ?_
  obtain ⟨y1, ey1, h⟩ := fz_bd_s h
  rw [← ey1]
  obtain ⟨g2, h⟩ := fz_gd_s h
  refine lv_iload_n C.1 C.2.1 dX8_ties_102 rfl (lv_at hl 2 rfl) ?_
  refine lv_iload_n C.1 C.2.1 dX8_ties_103 rfl (lv_at hl 3 rfl) ?_
  obtain ⟨M4, w5, h⟩ := fz_b1_s h
  refine fz_cv hT (fz_runV (np := 3) (rest := []) C hF hT (c_X7_passHours l G y1 g2 v2 v3 M M4 w5) fz_c10 (T := TX7) (N := 6) rfl cl_X8_219 rfl hl.1 rfl (Nat.le_of_ble_eq_true rfl) ⟨Nat.le_of_ble_eq_true rfl, Nat.le_of_ble_eq_true rfl, Nat.zero_le _, Nat.zero_le _⟩ dX8_ties_104) (fun H locs hT => ?_)
  refine lv_aload_n C.1 C.2.1 dX8_ties_107 rfl (lv_at hl 0 rfl) ?_
  refine lv_iload_n C.1 C.2.1 dX8_ties_108 rfl (lv_at hl 1 rfl) ?_
  obtain ⟨r6, w8, h⟩ := fz_b1_s h
  refine fz_ci hT (fz_runV (np := 1) (rest := []) C hF hT (c_X8_areWhereTheyWere l G v1 M4 r6 w8) fz_c0 (T := TX8) (N := 11) rfl cl_X8_229 rfl hl.1 rfl (Nat.le_of_ble_eq_true rfl) ⟨Nat.le_of_ble_eq_true rfl, Nat.le_of_ble_eq_true rfl, Nat.zero_le _, Nat.zero_le _⟩ dX8_ties_109) (fun H locs hT => ?_)
  refine lv_if_eq (tgt := 123) C.1 C.2.1 dX8_ties_112 (by decide) (fun c9 => ?_) (fun c9 => ?_)
  · have h := fz_ip c9 h
    refine lv_iinc (v := (v8 + 1)) (lv' := [(8, .int (v8 + 1)), (0, .ref (G.1 0)), (1, .int v1), (2, .int v2), (3, .int v3), (4, .int v4), (5, .int v5), (6, .int v6), (7, .int v7), (9, .int v9)]) C.1 C.2.1 dX8_ties_123 hl (k := 8) rfl rfl (by decide) rfl (fun ls hl => ?_)
    refine lv_goto (tgt := 47) C.1 C.2.1 dX8_ties_126 (by decide) ?_
    exact hag47 v5 v6 (v8 + 1) M4 _ _ _ hT (lv_sub hl [1, 2, 3, 4, 5, 6, 7, 8, 0] rfl) h
  · have h := fz_iq c9 h
    refine lv_iload C.1 C.2.1 dX8_ties_115 (lv_at hl 9 rfl) ?_
    refine lv_istore (lv' := [(5, .int v9), (0, .ref (G.1 0)), (1, .int v1), (2, .int v2), (3, .int v3), (4, .int v4), (6, .int v6), (7, .int v7), (8, .int v8), (9, .int v9)]) C.1 C.2.1 dX8_ties_117 hl (by decide) rfl (fun ls hl => ?_)
    refine lv_iload C.1 C.2.1 dX8_ties_119 (lv_at hl 8 rfl) ?_
    refine lv_istore (lv' := [(6, .int v8), (5, .int v9), (0, .ref (G.1 0)), (1, .int v1), (2, .int v2), (3, .int v3), (4, .int v4), (7, .int v7), (8, .int v8), (9, .int v9)]) C.1 C.2.1 dX8_ties_121 hl (by decide) rfl (fun ls hl => ?_)
    refine lv_iinc (v := (v8 + 1)) (lv' := [(8, .int (v8 + 1)), (6, .int v8), (5, .int v9), (0, .ref (G.1 0)), (1, .int v1), (2, .int v2), (3, .int v3), (4, .int v4), (7, .int v7), (9, .int v9)]) C.1 C.2.1 dX8_ties_123 hl (k := 8) rfl rfl (by decide) rfl (fun ls hl => ?_)
    refine lv_goto (tgt := 47) C.1 C.2.1 dX8_ties_126 (by decide) ?_
    exact hag47 v9 v8 (v8 + 1) M4 _ _ _ hT (lv_sub hl [3, 4, 5, 6, 7, 2, 1, 8, 0] rfl) h
set_option maxHeartbeats 4000000 in
set_option maxRecDepth 100000 in
theorem b_X8_ties_47_l {p : Program} {l : Launch} {e : Env} {s : State} {m : MethodId} {args : Array Value} {below : List Frame} {meth : Method} {c : Code} {G : fz_G}     {v1 : Int32} {v2 : Int32} {v3 : Int32} {v4 : Int32} {v7 : Int32}  {r : Int32} {M9 : fz_M} (C : CallFix p m c cX8_ties 10 s args wsL_law RX8) (hr : meth.sig.returnType = (some .int)) (hlk : meth.locks = false) (hF : fz_F G fz_KC s)  : ∀ (n : Nat) (v5 : Int32) (v6 : Int32) (v8 : Int32) (M : fz_M) (H : Heap) (locs : List Loc) (ls : Array Slot), fz_T G fz_shC fz_KC s M H locs → lv_has ls 10 [(0, .ref (G.1 0)), (1, .int v1), (2, .int v2), (3, .int v3), (4, .int v4), (5, .int v5), (6, .int v6), (7, .int v7), (8, .int v8)] → fz_lp (fun ag z => f_X8_ties_47_s ag v1 v2 v3 v4 v7 z.1 z.2.1 z.2.2.1 z.2.2.2) n (v5, v6, v8, M) = some (r, M9) → W p l e (fz_rm 5 115) s m args below meth c H locs 0 0 (MQ below (fz_Qi G fz_shC fz_KC r M9) args s 0 0 (fz_Fr G fz_KC)) (F0 m 47 ls []) := by
  intro n
  induction n with
  | zero =>
    intro v5 v6 v8 M H locs ls hT hl h
    cases h
  | succ n ih =>
    intro v5 v6 v8 M H locs ls hT hl h
    have h : f_X8_ties_47_s (fz_lp (fun ag z => f_X8_ties_47_s ag v1 v2 v3 v4 v7 z.1 z.2.1 z.2.2.1 z.2.2.2) n) v1 v2 v3 v4 v7 v5 v6 v8 M = some (r, M9) := h
    have hag47 := ih
    generalize fz_lp (fun ag z => f_X8_ties_47_s ag v1 v2 v3 v4 v7 z.1 z.2.1 z.2.2.1 z.2.2.2) n = ag47 at h hag47
    refine lv_iload C.1 C.2.1 dX8_ties_47 (lv_at hl 8 rfl) ?_
    refine lv_iload C.1 C.2.1 dX8_ties_49 (lv_at hl 7 rfl) ?_
    refine lv_icmp_ge (tgt := 129) C.1 C.2.1 dX8_ties_51 (by decide) (fun c1 => ?_) (fun c1 => ?_)
    · have h := fz_ip c1 h
      refine lv_iload C.1 C.2.1 dX8_ties_129 (lv_at hl 4 rfl) ?_
      refine lv_if_eq (tgt := 139) C.1 C.2.1 dX8_ties_131 (by decide) (fun c2 => ?_) (fun c2 => ?_)
      · have h := fz_ip c2 h
        refine lv_iload C.1 C.2.1 dX8_ties_139 (lv_at hl 5 rfl) ?_
        cases h
        exact fz_reti C hr hlk hT dX8_ties_141
      · have h := fz_iq c2 h
        refine lv_iload C.1 C.2.1 dX8_ties_134 (lv_at hl 6 rfl) ?_
        refine lv_goto (tgt := 141) C.1 C.2.1 dX8_ties_136 (by decide) ?_
        cases h
        exact fz_reti C hr hlk hT dX8_ties_141
    · have h := fz_iq c1 h
      refine lv_aload_n C.1 C.2.1 dX8_ties_54 rfl (lv_at hl 0 rfl) ?_
      refine fz_getr C hF hT fz_c0 (j := 4) rfl fl_X8_40 dX8_ties_55 ?_
      refine lv_aload_n C.1 C.2.1 dX8_ties_58 rfl (lv_at hl 0 rfl) ?_
      refine fz_getd C hF hT fz_c0 (j := 9) rfl fl_X8_69 dX8_ties_59 ?_
      obtain ⟨y3, ey3, h⟩ := fz_bd_s h
      rw [← ey3]
      obtain ⟨g4, h⟩ := fz_gd_s h
      refine lv_aload_n C.1 C.2.1 dX8_ties_62 rfl (lv_at hl 0 rfl) ?_
      refine fz_getr C hF hT fz_c0 (j := 6) rfl fl_X8_54 dX8_ties_63 ?_
      refine lv_bipush (v := (-9)) C.1 C.2.1 dX8_ties_66 (by decide) ?_
      obtain ⟨M6, w7, h⟩ := fz_b1_s h
      refine fz_cv hT (fz_runV (np := 3) (rest := []) C hF hT (c_X7_begin l G y3 g4 40 fz_now (-9) M M6 w7) fz_c10 (T := TX7) (N := 6) rfl cl_X8_191 rfl hl.1 rfl (Nat.le_of_ble_eq_true rfl) ⟨Nat.le_of_ble_eq_true rfl, Nat.le_of_ble_eq_true rfl, Nat.zero_le _, Nat.zero_le _⟩ dX8_ties_68) (fun H locs hT => ?_)
      refine lv_aload_n C.1 C.2.1 dX8_ties_71 rfl (lv_at hl 0 rfl) ?_
      refine lv_iload C.1 C.2.1 dX8_ties_72 (lv_at hl 8 rfl) ?_
      refine lv_iload_n C.1 C.2.1 dX8_ties_74 rfl (lv_at hl 2 rfl) ?_
      obtain ⟨r8, M9, w10, h⟩ := fz_b2_s h
      refine fz_ci hT (fz_runV (np := 2) (rest := []) C hF hT (c_X8_tieAll l G v8 v2 M6 r8 M9 w10) fz_c0 (T := TX8) (N := 11) rfl cl_X8_226 rfl hl.1 rfl (Nat.le_of_ble_eq_true rfl) ⟨Nat.le_of_ble_eq_true rfl, Nat.le_of_ble_eq_true rfl, Nat.zero_le _, Nat.zero_le _⟩ dX8_ties_75) (fun H locs hT => ?_)
      refine lv_istore (lv' := [(9, .int r8), (0, .ref (G.1 0)), (1, .int v1), (2, .int v2), (3, .int v3), (4, .int v4), (5, .int v5), (6, .int v6), (7, .int v7), (8, .int v8)]) C.1 C.2.1 dX8_ties_78 hl (by decide) rfl (fun ls hl => ?_)
      refine lv_iload C.1 C.2.1 dX8_ties_80 (lv_at hl 7 rfl) ?_
      refine lv_bipush (v := (-9)) C.1 C.2.1 dX8_ties_82 (by decide) ?_
      refine lv_icmp_eq (tgt := 94) C.1 C.2.1 dX8_ties_84 (by decide) (fun c11 => ?_) (fun c11 => ?_)
      · have h := fz_ip c11 h
        exact b_X8_ties_94 C hr hlk hF hag47 hT (lv_sub hl [1, 2, 3, 4, 5, 6, 7, 8, 9, 0] rfl) h
      · have h := fz_iq c11 h
        refine lv_iload C.1 C.2.1 dX8_ties_87 (lv_at hl 0 rfl) ?_
        refine lv_iload C.1 C.2.1 dX8_ties_89 (lv_at hl 6 rfl) ?_
        refine lv_icmp_ge (tgt := 123) C.1 C.2.1 dX8_ties_91 (by decide) (fun c12 => ?_) (fun c12 => ?_)
        · have h := fz_ip c12 h
          refine lv_iinc (v := (v8 + 1)) (lv' := [(8, .int (v8 + 1)), (9, .int r8), (0, .ref (G.1 0)), (1, .int v1), (2, .int v2), (3, .int v3), (4, .int v4), (5, .int v5), (6, .int v6), (7, .int v7)]) C.1 C.2.1 dX8_ties_123 hl (k := 9) rfl rfl (by decide) rfl (fun ls hl => ?_)
          refine lv_goto (tgt := 47) C.1 C.2.1 dX8_ties_126 (by decide) ?_
          exact hag47 v5 v6 (v8 + 1) M9 _ _ _ hT (lv_sub hl [2, 3, 4, 5, 6, 7, 8, 9, 0] rfl) h
        · have h := fz_iq c12 h
          exact b_X8_ties_94 C hr hlk hF hag47 hT (lv_sub hl [1, 2, 3, 4, 5, 6, 7, 8, 9, 0] rfl) h
set_option maxHeartbeats 4000000 in
set_option maxRecDepth 100000 in
theorem b_X8_ties_47 {p : Program} {l : Launch} {e : Env} {s : State} {m : MethodId} {args : Array Value} {below : List Frame} {meth : Method} {c : Code} {G : fz_G}     {v1 : Int32} {v2 : Int32} {v3 : Int32} {v4 : Int32} {v5 : Int32} {v6 : Int32} {v7 : Int32} {v8 : Int32} {M : fz_M} {H : Heap} {locs : List Loc} {ls : Array Slot} {r : Int32} {M9 : fz_M} (C : CallFix p m c cX8_ties 10 s args wsL_law RX8) (hr : meth.sig.returnType = (some .int)) (hlk : meth.locks = false) (hF : fz_F G fz_KC s)  (hT : fz_T G fz_shC fz_KC s M H locs) (hl : lv_has ls 10 [(0, .ref (G.1 0)), (1, .int v1), (2, .int v2), (3, .int v3), (4, .int v4), (5, .int v5), (6, .int v6), (7, .int v7), (8, .int v8)]) (h : f_X8_ties_47 v1 v2 v3 v4 v5 v6 v7 v8 M = some (r, M9)) : W p l e (fz_rm 5 115) s m args below meth c H locs 0 0 (MQ below (fz_Qi G fz_shC fz_KC r M9) args s 0 0 (fz_Fr G fz_KC)) (F0 m 47 ls []) :=
  b_X8_ties_47_l C hr hlk hF fz_fuel v5 v6 v8 M H locs ls hT hl h
set_option maxHeartbeats 4000000 in
set_option maxRecDepth 100000 in
theorem b_X8_ties_0 {p : Program} {l : Launch} {e : Env} {s : State} {m : MethodId} {args : Array Value} {below : List Frame} {meth : Method} {c : Code} {G : fz_G}     {v1 : Int32} {v2 : Int32} {v3 : Int32} {v4 : Int32} {M : fz_M} {H : Heap} {locs : List Loc} {ls : Array Slot} {r : Int32} {M9 : fz_M} (C : CallFix p m c cX8_ties 10 s args wsL_law RX8) (hr : meth.sig.returnType = (some .int)) (hlk : meth.locks = false) (hF : fz_F G fz_KC s)  (hT : fz_T G fz_shC fz_KC s M H locs) (hl : lv_has ls 10 [(0, .ref (G.1 0)), (1, .int v1), (2, .int v2), (3, .int v3), (4, .int v4)]) (h : f_X8_ties v1 v2 v3 v4 M = some (r, M9)) : W p l e (fz_rm 5 115) s m args below meth c H locs 0 0 (MQ below (fz_Qi G fz_shC fz_KC r M9) args s 0 0 (fz_Fr G fz_KC)) (F0 m 0 ls []) := by
  refine lv_aload_n C.1 C.2.1 dX8_ties_0 rfl (lv_at hl 0 rfl) ?_
  refine lv_iload_n C.1 C.2.1 dX8_ties_1 rfl (lv_at hl 1 rfl) ?_
  obtain ⟨r1, w3, h⟩ := fz_b1_s h
  refine fz_ci hT (fz_runV (np := 1) (rest := []) C hF hT (c_X8_arePieces l G v1 M r1 w3) fz_c0 (T := TX8) (N := 11) rfl cl_X8_223 rfl hl.1 rfl (Nat.le_of_ble_eq_true rfl) ⟨Nat.le_of_ble_eq_true rfl, Nat.le_of_ble_eq_true rfl, Nat.zero_le _, Nat.zero_le _⟩ dX8_ties_2) (fun H locs hT => ?_)
  refine lv_if_eq (tgt := 22) C.1 C.2.1 dX8_ties_5 (by decide) (fun c4 => ?_) (fun c4 => ?_)
  · have h := fz_ip c4 h
    refine lv_bipush (v := (-2)) C.1 C.2.1 dX8_ties_22 (by decide) ?_
    cases h
    exact fz_reti C hr hlk hT dX8_ties_24
  · have h := fz_iq c4 h
    refine lv_iload_n C.1 C.2.1 dX8_ties_8 rfl (lv_at hl 2 rfl) ?_
    obtain ⟨r5, w7, h⟩ := fz_b1_s h
    refine fz_ci hT (fz_runS (np := 1) (rest := []) C hF hT (c_X8_isLevel l G v2 M r5 w7) cl_X8_180 rfl hl.1 rfl (Nat.le_of_ble_eq_true rfl) ⟨Nat.le_of_ble_eq_true rfl, Nat.le_of_ble_eq_true rfl, Nat.zero_le _, Nat.zero_le _⟩ dX8_ties_9) (fun H locs hT => ?_)
    refine lv_if_eq (tgt := 22) C.1 C.2.1 dX8_ties_12 (by decide) (fun c8 => ?_) (fun c8 => ?_)
    · have h := fz_ip c8 h
      refine lv_bipush (v := (-2)) C.1 C.2.1 dX8_ties_22 (by decide) ?_
      cases h
      exact fz_reti C hr hlk hT dX8_ties_24
    · have h := fz_iq c8 h
      refine lv_iload_n C.1 C.2.1 dX8_ties_15 rfl (lv_at hl 3 rfl) ?_
      obtain ⟨r9, w11, h⟩ := fz_b1_s h
      refine fz_ci hT (fz_runS (np := 1) (rest := []) C hF hT (c_X8_areHours l G v3 M r9 w11) cl_X8_216 rfl hl.1 rfl (Nat.le_of_ble_eq_true rfl) ⟨Nat.le_of_ble_eq_true rfl, Nat.le_of_ble_eq_true rfl, Nat.zero_le _, Nat.zero_le _⟩ dX8_ties_16) (fun H locs hT => ?_)
      refine lv_if_ne (tgt := 25) C.1 C.2.1 dX8_ties_19 (by decide) (fun c12 => ?_) (fun c12 => ?_)
      · have h := fz_ip c12 h
        refine lv_bipush (v := (-9)) C.1 C.2.1 dX8_ties_25 (by decide) ?_
        refine lv_istore (lv' := [(5, .int (-9)), (0, .ref (G.1 0)), (1, .int v1), (2, .int v2), (3, .int v3), (4, .int v4)]) C.1 C.2.1 dX8_ties_27 hl (by decide) rfl (fun ls hl => ?_)
        refine lv_bipush (v := (-9)) C.1 C.2.1 dX8_ties_29 (by decide) ?_
        refine lv_istore (lv' := [(6, .int (-9)), (5, .int (-9)), (0, .ref (G.1 0)), (1, .int v1), (2, .int v2), (3, .int v3), (4, .int v4)]) C.1 C.2.1 dX8_ties_31 hl (by decide) rfl (fun ls hl => ?_)
        refine lv_iconst (v := 1) C.1 C.2.1 dX8_ties_33 (by decide) ?_
        refine lv_aload_n C.1 C.2.1 dX8_ties_34 rfl (lv_at hl 2 rfl) ?_
        refine fz_getd C hF hT fz_c0 (j := 9) rfl fl_X8_69 dX8_ties_35 ?_
        obtain ⟨y13, ey13, h⟩ := fz_bd_s h
        rw [← ey13]
        obtain ⟨g14, h⟩ := fz_gd_s h
        refine fz_geti C hF hT (fz_pl g14) (j := 2) rfl fl_X8_101 dX8_ties_38 ?_
        refine lv_ishl C.1 C.2.1 dX8_ties_41 ?_
        obtain ⟨x15, ex15, h⟩ := fz_bd_s h
        refine fz_nmi ex15 ?_
        refine lv_istore (lv' := [(7, .int x15), (6, .int (-9)), (5, .int (-9)), (0, .ref (G.1 0)), (1, .int v1), (2, .int v2), (3, .int v3), (4, .int v4)]) C.1 C.2.1 dX8_ties_42 hl (by decide) rfl (fun ls hl => ?_)
        refine lv_iconst (v := 0) C.1 C.2.1 dX8_ties_44 (by decide) ?_
        refine lv_istore (lv' := [(8, .int 0), (7, .int x15), (6, .int (-9)), (5, .int (-9)), (0, .ref (G.1 0)), (1, .int v1), (2, .int v2), (3, .int v3), (4, .int v4)]) C.1 C.2.1 dX8_ties_45 hl (by decide) rfl (fun ls hl => ?_)
        exact b_X8_ties_47 C hr hlk hF hT (lv_sub hl [4, 5, 6, 7, 8, 3, 2, 1, 0] rfl) h
      · have h := fz_iq (not_not_intro c12) h
        refine lv_bipush (v := (-2)) C.1 C.2.1 dX8_ties_22 (by decide) ?_
        cases h
        exact fz_reti C hr hlk hT dX8_ties_24
set_option maxRecDepth 100000 in
theorem c_X8_ties (l : Launch) (G : fz_G)  (a0 : Int32) (a1 : Int32) (a2 : Int32) (a3 : Int32) (M : fz_M) (r : Int32) (M9 : fz_M) (h : f_X8_ties a0 a1 a2 a3 M = some (r, M9)) : fz_Me l yX8_ties cX8_ties 10 (some .int) 5 115 G fz_shC fz_KC [.ref (G.1 0), .int a0, .int a1, .int a2, .int a3] M (fz_Qi G fz_shC fz_KC r M9) := by
  refine fz_body (by decide) (Nat.le_of_ble_eq_true rfl) ?_
  intro p e s m args below meth c H locs ls C hr hlk hF hT hl
  have C : CallFix p m c cX8_ties 10 s args wsL_law RX8 := C
  have hl : lv_has ls 10 [(0, .ref (G.1 0)), (1, .int a0), (2, .int a1), (3, .int a2), (4, .int a3)] := hl
  exact b_X8_ties_0 C hr hlk hF hT (lv_sub hl [0, 1, 2, 3, 4] rfl) h
set_option maxHeartbeats 4000000 in
set_option maxRecDepth 100000 in
theorem b_X8_dowry_39_l {p : Program} {l : Launch} {e : Env} {s : State} {m : MethodId} {args : Array Value} {below : List Frame} {meth : Method} {c : Code} {G : fz_G}     {v1 : Int32} {v2 : Int32} {v3 : Int32} {v4 : Int32}  {r : Int32} {M9 : fz_M} (C : CallFix p m c cX8_dowry 6 s args wsL_law RX8) (hr : meth.sig.returnType = (some .int)) (hlk : meth.locks = false) (hF : fz_F G fz_KC s)  : ∀ (n : Nat) (v5 : Int32) (M : fz_M) (H : Heap) (locs : List Loc) (ls : Array Slot), fz_T G fz_shC fz_KC s M H locs → lv_has ls 6 [(0, .ref (G.1 0)), (1, .int v1), (2, .int v2), (3, .int v3), (4, .int v4), (5, .int v5)] → fz_lp (fun ag z => f_X8_dowry_39_s ag v1 v2 v3 v4 z.1 z.2) n (v5, M) = some (r, M9) → W p l e (fz_rm 5 115) s m args below meth c H locs 0 0 (MQ below (fz_Qi G fz_shC fz_KC r M9) args s 0 0 (fz_Fr G fz_KC)) (F0 m 39 ls []) := by
  intro n
  induction n with
  | zero =>
    intro v5 M H locs ls hT hl h
    cases h
  | succ n ih =>
    intro v5 M H locs ls hT hl h
    have h : f_X8_dowry_39_s (fz_lp (fun ag z => f_X8_dowry_39_s ag v1 v2 v3 v4 z.1 z.2) n) v1 v2 v3 v4 v5 M = some (r, M9) := h
    have hag39 := ih
    generalize fz_lp (fun ag z => f_X8_dowry_39_s ag v1 v2 v3 v4 z.1 z.2) n = ag39 at h hag39
    refine lv_iload C.1 C.2.1 dX8_dowry_39 (lv_at hl 5 rfl) ?_
    refine lv_aload_n C.1 C.2.1 dX8_dowry_41 rfl (lv_at hl 0 rfl) ?_
    refine fz_getd C hF hT fz_c0 (j := 9) rfl fl_X8_69 dX8_dowry_42 ?_
    obtain ⟨y1, ey1, h⟩ := fz_bd_s h
    rw [← ey1]
    obtain ⟨g2, h⟩ := fz_gd_s h
    refine fz_geti C hF hT (fz_pl g2) (j := 0) rfl fl_X8_95 dX8_dowry_45 ?_
    refine lv_icmp_ge (tgt := 115) C.1 C.2.1 dX8_dowry_48 (by decide) (fun c3 => ?_) (fun c3 => ?_)
    · have h := fz_ip c3 h
      refine lv_bipush (v := (-9)) C.1 C.2.1 dX8_dowry_115 (by decide) ?_
      cases h
      exact fz_reti C hr hlk hT dX8_dowry_117
    · have h := fz_iq c3 h
      refine lv_aload_n C.1 C.2.1 dX8_dowry_51 rfl (lv_at hl 0 rfl) ?_
      refine fz_getr C hF hT fz_c0 (j := 4) rfl fl_X8_40 dX8_dowry_52 ?_
      refine lv_aload_n C.1 C.2.1 dX8_dowry_55 rfl (lv_at hl 0 rfl) ?_
      refine fz_getd C hF hT fz_c0 (j := 9) rfl fl_X8_69 dX8_dowry_56 ?_
      obtain ⟨y4, ey4, h⟩ := fz_bd_s h
      rw [← ey4]
      obtain ⟨g5, h⟩ := fz_gd_s h
      refine lv_aload_n C.1 C.2.1 dX8_dowry_59 rfl (lv_at hl 0 rfl) ?_
      refine fz_getr C hF hT fz_c0 (j := 6) rfl fl_X8_54 dX8_dowry_60 ?_
      refine lv_bipush (v := (-9)) C.1 C.2.1 dX8_dowry_63 (by decide) ?_
      obtain ⟨M7, w8, h⟩ := fz_b1_s h
      refine fz_cv hT (fz_runV (np := 3) (rest := []) C hF hT (c_X7_begin l G y4 g5 40 fz_now (-9) M M7 w8) fz_c10 (T := TX7) (N := 6) rfl cl_X8_191 rfl hl.1 rfl (Nat.le_of_ble_eq_true rfl) ⟨Nat.le_of_ble_eq_true rfl, Nat.le_of_ble_eq_true rfl, Nat.zero_le _, Nat.zero_le _⟩ dX8_dowry_65) (fun H locs hT => ?_)
      refine lv_aload_n C.1 C.2.1 dX8_dowry_68 rfl (lv_at hl 0 rfl) ?_
      refine fz_getr C hF hT fz_c0 (j := 4) rfl fl_X8_40 dX8_dowry_69 ?_
      refine fz_getr C hF hT fz_c10 (j := 0) rfl fl_X8_198 dX8_dowry_72 ?_
      refine lv_iload_n C.1 C.2.1 dX8_dowry_75 rfl (lv_at hl 1 rfl) ?_
      refine lv_iload C.1 C.2.1 dX8_dowry_76 (lv_at hl 5 rfl) ?_
      obtain ⟨g9, h⟩ := fz_gd_s h
      obtain ⟨M10, eM10, h⟩ := fz_bd_s h
      refine fz_ias C hF hT fz_c11 g9 dX8_dowry_78 (fun H locs hT => ?_)
      rw [← eM10] at hT
      refine lv_aload_n C.1 C.2.1 dX8_dowry_79 rfl (lv_at hl 0 rfl) ?_
      refine fz_getr C hF hT fz_c0 (j := 4) rfl fl_X8_40 dX8_dowry_80 ?_
      refine lv_aload_n C.1 C.2.1 dX8_dowry_83 rfl (lv_at hl 0 rfl) ?_
      refine fz_getd C hF hT fz_c0 (j := 9) rfl fl_X8_69 dX8_dowry_84 ?_
      obtain ⟨y11, ey11, h⟩ := fz_bd_s h
      rw [← ey11]
      obtain ⟨g12, h⟩ := fz_gd_s h
      refine lv_iload_n C.1 C.2.1 dX8_dowry_87 rfl (lv_at hl 2 rfl) ?_
      refine lv_iload_n C.1 C.2.1 dX8_dowry_88 rfl (lv_at hl 3 rfl) ?_
      obtain ⟨M14, w15, h⟩ := fz_b1_s h
      refine fz_cv hT (fz_runV (np := 3) (rest := []) C hF hT (c_X7_passHours l G y11 g12 v2 v3 M10 M14 w15) fz_c10 (T := TX7) (N := 6) rfl cl_X8_219 rfl hl.1 rfl (Nat.le_of_ble_eq_true rfl) ⟨Nat.le_of_ble_eq_true rfl, Nat.le_of_ble_eq_true rfl, Nat.zero_le _, Nat.zero_le _⟩ dX8_dowry_89) (fun H locs hT => ?_)
      refine lv_aload_n C.1 C.2.1 dX8_dowry_92 rfl (lv_at hl 0 rfl) ?_
      refine fz_getr C hF hT fz_c0 (j := 4) rfl fl_X8_40 dX8_dowry_93 ?_
      refine fz_getr C hF hT fz_c10 (j := 0) rfl fl_X8_198 dX8_dowry_96 ?_
      refine lv_iload_n C.1 C.2.1 dX8_dowry_99 rfl (lv_at hl 1 rfl) ?_
      obtain ⟨g16, h⟩ := fz_gd_s h
      refine fz_ia C hF hT fz_c11 g16 dX8_dowry_100 ?_
      refine lv_iload C.1 C.2.1 dX8_dowry_101 (lv_at hl 4 rfl) ?_
      refine lv_icmp_ne (tgt := 109) C.1 C.2.1 dX8_dowry_103 (by decide) (fun c17 => ?_) (fun c17 => ?_)
      · have h := fz_ip c17 h
        refine lv_iinc (v := (v5 + 1)) (lv' := [(5, .int (v5 + 1)), (0, .ref (G.1 0)), (1, .int v1), (2, .int v2), (3, .int v3), (4, .int v4)]) C.1 C.2.1 dX8_dowry_109 hl (k := 5) rfl rfl (by decide) rfl (fun ls hl => ?_)
        refine lv_goto (tgt := 39) C.1 C.2.1 dX8_dowry_112 (by decide) ?_
        exact hag39 (v5 + 1) M14 _ _ _ hT (lv_sub hl [1, 2, 3, 4, 5, 0] rfl) h
      · have h := fz_iq (not_not_intro c17) h
        refine lv_iload C.1 C.2.1 dX8_dowry_106 (lv_at hl 5 rfl) ?_
        cases h
        exact fz_reti C hr hlk hT dX8_dowry_108
set_option maxHeartbeats 4000000 in
set_option maxRecDepth 100000 in
theorem b_X8_dowry_39 {p : Program} {l : Launch} {e : Env} {s : State} {m : MethodId} {args : Array Value} {below : List Frame} {meth : Method} {c : Code} {G : fz_G}     {v1 : Int32} {v2 : Int32} {v3 : Int32} {v4 : Int32} {v5 : Int32} {M : fz_M} {H : Heap} {locs : List Loc} {ls : Array Slot} {r : Int32} {M9 : fz_M} (C : CallFix p m c cX8_dowry 6 s args wsL_law RX8) (hr : meth.sig.returnType = (some .int)) (hlk : meth.locks = false) (hF : fz_F G fz_KC s)  (hT : fz_T G fz_shC fz_KC s M H locs) (hl : lv_has ls 6 [(0, .ref (G.1 0)), (1, .int v1), (2, .int v2), (3, .int v3), (4, .int v4), (5, .int v5)]) (h : f_X8_dowry_39 v1 v2 v3 v4 v5 M = some (r, M9)) : W p l e (fz_rm 5 115) s m args below meth c H locs 0 0 (MQ below (fz_Qi G fz_shC fz_KC r M9) args s 0 0 (fz_Fr G fz_KC)) (F0 m 39 ls []) :=
  b_X8_dowry_39_l C hr hlk hF fz_fuel v5 M H locs ls hT hl h
set_option maxHeartbeats 4000000 in
set_option maxRecDepth 100000 in
theorem b_X8_dowry_0 {p : Program} {l : Launch} {e : Env} {s : State} {m : MethodId} {args : Array Value} {below : List Frame} {meth : Method} {c : Code} {G : fz_G}     {v1 : Int32} {v2 : Int32} {v3 : Int32} {v4 : Int32} {M : fz_M} {H : Heap} {locs : List Loc} {ls : Array Slot} {r : Int32} {M9 : fz_M} (C : CallFix p m c cX8_dowry 6 s args wsL_law RX8) (hr : meth.sig.returnType = (some .int)) (hlk : meth.locks = false) (hF : fz_F G fz_KC s)  (hT : fz_T G fz_shC fz_KC s M H locs) (hl : lv_has ls 6 [(0, .ref (G.1 0)), (1, .int v1), (2, .int v2), (3, .int v3), (4, .int v4)]) (h : f_X8_dowry v1 v2 v3 v4 M = some (r, M9)) : W p l e (fz_rm 5 115) s m args below meth c H locs 0 0 (MQ below (fz_Qi G fz_shC fz_KC r M9) args s 0 0 (fz_Fr G fz_KC)) (F0 m 0 ls []) := by
  refine lv_aload_n C.1 C.2.1 dX8_dowry_0 rfl (lv_at hl 0 rfl) ?_
  refine lv_iload_n C.1 C.2.1 dX8_dowry_1 rfl (lv_at hl 1 rfl) ?_
  obtain ⟨r1, w3, h⟩ := fz_b1_s h
  refine fz_ci hT (fz_runV (np := 1) (rest := []) C hF hT (c_X8_isPiece l G v1 M r1 w3) fz_c0 (T := TX8) (N := 11) rfl cl_X8_155 rfl hl.1 rfl (Nat.le_of_ble_eq_true rfl) ⟨Nat.le_of_ble_eq_true rfl, Nat.le_of_ble_eq_true rfl, Nat.zero_le _, Nat.zero_le _⟩ dX8_dowry_2) (fun H locs hT => ?_)
  refine lv_if_eq (tgt := 17) C.1 C.2.1 dX8_dowry_5 (by decide) (fun c4 => ?_) (fun c4 => ?_)
  · have h := fz_ip c4 h
    refine lv_iconst (v := (-1)) C.1 C.2.1 dX8_dowry_17 (by decide) ?_
    cases h
    exact fz_reti C hr hlk hT dX8_dowry_18
  · have h := fz_iq c4 h
    refine lv_aload_n C.1 C.2.1 dX8_dowry_8 rfl (lv_at hl 0 rfl) ?_
    refine lv_iload C.1 C.2.1 dX8_dowry_9 (lv_at hl 4 rfl) ?_
    obtain ⟨r5, w7, h⟩ := fz_b1_s h
    refine fz_ci hT (fz_runV (np := 1) (rest := []) C hF hT (c_X8_isHouse l G v4 M r5 w7) fz_c0 (T := TX8) (N := 11) rfl cl_X8_118 rfl hl.1 rfl (Nat.le_of_ble_eq_true rfl) ⟨Nat.le_of_ble_eq_true rfl, Nat.le_of_ble_eq_true rfl, Nat.zero_le _, Nat.zero_le _⟩ dX8_dowry_11) (fun H locs hT => ?_)
    refine lv_if_ne (tgt := 19) C.1 C.2.1 dX8_dowry_14 (by decide) (fun c8 => ?_) (fun c8 => ?_)
    · have h := fz_ip c8 h
      refine lv_iload_n C.1 C.2.1 dX8_dowry_19 rfl (lv_at hl 2 rfl) ?_
      obtain ⟨r9, w11, h⟩ := fz_b1_s h
      refine fz_ci hT (fz_runS (np := 1) (rest := []) C hF hT (c_X8_isLevel l G v2 M r9 w11) cl_X8_180 rfl hl.1 rfl (Nat.le_of_ble_eq_true rfl) ⟨Nat.le_of_ble_eq_true rfl, Nat.le_of_ble_eq_true rfl, Nat.zero_le _, Nat.zero_le _⟩ dX8_dowry_20) (fun H locs hT => ?_)
      refine lv_if_eq (tgt := 33) C.1 C.2.1 dX8_dowry_23 (by decide) (fun c12 => ?_) (fun c12 => ?_)
      · have h := fz_ip c12 h
        refine lv_bipush (v := (-2)) C.1 C.2.1 dX8_dowry_33 (by decide) ?_
        cases h
        exact fz_reti C hr hlk hT dX8_dowry_35
      · have h := fz_iq c12 h
        refine lv_iload_n C.1 C.2.1 dX8_dowry_26 rfl (lv_at hl 3 rfl) ?_
        obtain ⟨r13, w15, h⟩ := fz_b1_s h
        refine fz_ci hT (fz_runS (np := 1) (rest := []) C hF hT (c_X8_areHours l G v3 M r13 w15) cl_X8_216 rfl hl.1 rfl (Nat.le_of_ble_eq_true rfl) ⟨Nat.le_of_ble_eq_true rfl, Nat.le_of_ble_eq_true rfl, Nat.zero_le _, Nat.zero_le _⟩ dX8_dowry_27) (fun H locs hT => ?_)
        refine lv_if_ne (tgt := 36) C.1 C.2.1 dX8_dowry_30 (by decide) (fun c16 => ?_) (fun c16 => ?_)
        · have h := fz_ip c16 h
          refine lv_iconst (v := 0) C.1 C.2.1 dX8_dowry_36 (by decide) ?_
          refine lv_istore (lv' := [(5, .int 0), (0, .ref (G.1 0)), (1, .int v1), (2, .int v2), (3, .int v3), (4, .int v4)]) C.1 C.2.1 dX8_dowry_37 hl (by decide) rfl (fun ls hl => ?_)
          exact b_X8_dowry_39 C hr hlk hF hT (lv_sub hl [1, 2, 3, 4, 5, 0] rfl) h
        · have h := fz_iq (not_not_intro c16) h
          refine lv_bipush (v := (-2)) C.1 C.2.1 dX8_dowry_33 (by decide) ?_
          cases h
          exact fz_reti C hr hlk hT dX8_dowry_35
    · have h := fz_iq (not_not_intro c8) h
      refine lv_iconst (v := (-1)) C.1 C.2.1 dX8_dowry_17 (by decide) ?_
      cases h
      exact fz_reti C hr hlk hT dX8_dowry_18
set_option maxRecDepth 100000 in
theorem c_X8_dowry (l : Launch) (G : fz_G)  (a0 : Int32) (a1 : Int32) (a2 : Int32) (a3 : Int32) (M : fz_M) (r : Int32) (M9 : fz_M) (h : f_X8_dowry a0 a1 a2 a3 M = some (r, M9)) : fz_Me l yX8_dowry cX8_dowry 6 (some .int) 5 115 G fz_shC fz_KC [.ref (G.1 0), .int a0, .int a1, .int a2, .int a3] M (fz_Qi G fz_shC fz_KC r M9) := by
  refine fz_body (by decide) (Nat.le_of_ble_eq_true rfl) ?_
  intro p e s m args below meth c H locs ls C hr hlk hF hT hl
  have C : CallFix p m c cX8_dowry 6 s args wsL_law RX8 := C
  have hl : lv_has ls 6 [(0, .ref (G.1 0)), (1, .int a0), (2, .int a1), (3, .int a2), (4, .int a3)] := hl
  exact b_X8_dowry_0 C hr hlk hF hT (lv_sub hl [0, 1, 2, 3, 4] rfl) h
set_option maxHeartbeats 4000000 in
set_option maxRecDepth 100000 in
theorem b_X8_toShut_78_l {p : Program} {l : Launch} {e : Env} {s : State} {m : MethodId} {args : Array Value} {below : List Frame} {meth : Method} {c : Code} {G : fz_G}     {v1 : Int32} {v2 : Int32} {v3 : Int32}  {r : Int32} {M9 : fz_M} (C : CallFix p m c cX8_toShut 8 s args wsL_law RX8) (hr : meth.sig.returnType = (some .int)) (hlk : meth.locks = false) (hF : fz_F G fz_KC s)  : ∀ (n : Nat) (v4 : Int32) (v5 : Int32) (v6 : Int32) (M : fz_M) (H : Heap) (locs : List Loc) (ls : Array Slot), fz_T G fz_shC fz_KC s M H locs → lv_has ls 8 [(0, .ref (G.1 0)), (1, .int v1), (2, .int v2), (3, .int v3), (4, .int v4), (5, .int v5), (6, .int v6)] → fz_lp (fun ag z => f_X8_toShut_78_s ag v1 v2 v3 z.1 z.2.1 z.2.2.1 z.2.2.2) n (v4, v5, v6, M) = some (r, M9) → W p l e (fz_rm 5 115) s m args below meth c H locs 0 0 (MQ below (fz_Qi G fz_shC fz_KC r M9) args s 0 0 (fz_Fr G fz_KC)) (F0 m 78 ls []) := by
  intro n
  induction n with
  | zero =>
    intro v4 v5 v6 M H locs ls hT hl h
    cases h
  | succ n ih =>
    intro v4 v5 v6 M H locs ls hT hl h
    have h : f_X8_toShut_78_s (fz_lp (fun ag z => f_X8_toShut_78_s ag v1 v2 v3 z.1 z.2.1 z.2.2.1 z.2.2.2) n) v1 v2 v3 v4 v5 v6 M = some (r, M9) := h
    have hag78 := ih
    generalize fz_lp (fun ag z => f_X8_toShut_78_s ag v1 v2 v3 z.1 z.2.1 z.2.2.1 z.2.2.2) n = ag78 at h hag78
    refine lv_iload C.1 C.2.1 dX8_toShut_78 (lv_at hl 6 rfl) ?_
    refine lv_aload_n C.1 C.2.1 dX8_toShut_80 rfl (lv_at hl 0 rfl) ?_
    refine fz_getd C hF hT fz_c0 (j := 9) rfl fl_X8_69 dX8_toShut_81 ?_
    obtain ⟨y1, ey1, h⟩ := fz_bd_s h
    rw [← ey1]
    obtain ⟨g2, h⟩ := fz_gd_s h
    refine fz_geti C hF hT (fz_pl g2) (j := 1) rfl fl_X8_98 dX8_toShut_84 ?_
    refine lv_icmp_ge (tgt := 155) C.1 C.2.1 dX8_toShut_87 (by decide) (fun c3 => ?_) (fun c3 => ?_)
    · have h := fz_ip c3 h
      refine lv_iload C.1 C.2.1 dX8_toShut_155 (lv_at hl 5 rfl) ?_
      cases h
      exact fz_reti C hr hlk hT dX8_toShut_157
    · have h := fz_iq c3 h
      refine lv_aload_n C.1 C.2.1 dX8_toShut_90 rfl (lv_at hl 0 rfl) ?_
      refine fz_getr C hF hT fz_c0 (j := 4) rfl fl_X8_40 dX8_toShut_91 ?_
      refine lv_aload_n C.1 C.2.1 dX8_toShut_94 rfl (lv_at hl 0 rfl) ?_
      refine fz_getd C hF hT fz_c0 (j := 9) rfl fl_X8_69 dX8_toShut_95 ?_
      obtain ⟨y4, ey4, h⟩ := fz_bd_s h
      rw [← ey4]
      obtain ⟨g5, h⟩ := fz_gd_s h
      refine lv_aload_n C.1 C.2.1 dX8_toShut_98 rfl (lv_at hl 0 rfl) ?_
      refine fz_getr C hF hT fz_c0 (j := 6) rfl fl_X8_54 dX8_toShut_99 ?_
      refine lv_iload C.1 C.2.1 dX8_toShut_102 (lv_at hl 6 rfl) ?_
      obtain ⟨M7, w8, h⟩ := fz_b1_s h
      refine fz_cv hT (fz_runV (np := 3) (rest := []) C hF hT (c_X7_begin l G y4 g5 40 fz_now v6 M M7 w8) fz_c10 (T := TX7) (N := 6) rfl cl_X8_191 rfl hl.1 rfl (Nat.le_of_ble_eq_true rfl) ⟨Nat.le_of_ble_eq_true rfl, Nat.le_of_ble_eq_true rfl, Nat.zero_le _, Nat.zero_le _⟩ dX8_toShut_104) (fun H locs hT => ?_)
      refine lv_aload_n C.1 C.2.1 dX8_toShut_107 rfl (lv_at hl 0 rfl) ?_
      refine fz_getr C hF hT fz_c0 (j := 4) rfl fl_X8_40 dX8_toShut_108 ?_
      refine lv_aload_n C.1 C.2.1 dX8_toShut_111 rfl (lv_at hl 0 rfl) ?_
      refine fz_getd C hF hT fz_c0 (j := 9) rfl fl_X8_69 dX8_toShut_112 ?_
      obtain ⟨y9, ey9, h⟩ := fz_bd_s h
      rw [← ey9]
      obtain ⟨g10, h⟩ := fz_gd_s h
      refine lv_iload_n C.1 C.2.1 dX8_toShut_115 rfl (lv_at hl 2 rfl) ?_
      refine lv_iload_n C.1 C.2.1 dX8_toShut_116 rfl (lv_at hl 3 rfl) ?_
      obtain ⟨M12, w13, h⟩ := fz_b1_s h
      refine fz_cv hT (fz_runV (np := 3) (rest := []) C hF hT (c_X7_passHours l G y9 g10 v2 v3 M7 M12 w13) fz_c10 (T := TX7) (N := 6) rfl cl_X8_219 rfl hl.1 rfl (Nat.le_of_ble_eq_true rfl) ⟨Nat.le_of_ble_eq_true rfl, Nat.le_of_ble_eq_true rfl, Nat.zero_le _, Nat.zero_le _⟩ dX8_toShut_117) (fun H locs hT => ?_)
      refine lv_aload_n C.1 C.2.1 dX8_toShut_120 rfl (lv_at hl 0 rfl) ?_
      refine lv_aload_n C.1 C.2.1 dX8_toShut_121 rfl (lv_at hl 0 rfl) ?_
      refine fz_getr C hF hT fz_c0 (j := 4) rfl fl_X8_40 dX8_toShut_122 ?_
      refine fz_getr C hF hT fz_c10 (j := 0) rfl fl_X8_198 dX8_toShut_125 ?_
      refine lv_iload_n C.1 C.2.1 dX8_toShut_128 rfl (lv_at hl 1 rfl) ?_
      obtain ⟨r14, w16, h⟩ := fz_b1_s h
      refine fz_ci hT (fz_runV (np := 2) (rest := []) C hF hT (c_X8_widthOf l G 11 fz_c11 v1 M12 r14 w16) fz_c0 (T := TX8) (N := 11) rfl cl_X8_136 rfl hl.1 rfl (Nat.le_of_ble_eq_true rfl) ⟨Nat.le_of_ble_eq_true rfl, Nat.le_of_ble_eq_true rfl, Nat.zero_le _, Nat.zero_le _⟩ dX8_toShut_129) (fun H locs hT => ?_)
      refine lv_istore (lv' := [(7, .int r14), (0, .ref (G.1 0)), (1, .int v1), (2, .int v2), (3, .int v3), (4, .int v4), (5, .int v5), (6, .int v6)]) C.1 C.2.1 dX8_toShut_132 hl (by decide) rfl (fun ls hl => ?_)
      refine lv_iload C.1 C.2.1 dX8_toShut_134 (lv_at hl 0 rfl) ?_
      refine lv_iload C.1 C.2.1 dX8_toShut_136 (lv_at hl 5 rfl) ?_
      refine lv_icmp_le (tgt := 149) C.1 C.2.1 dX8_toShut_138 (by decide) (fun c17 => ?_) (fun c17 => ?_)
      · have h := fz_ip c17 h
        refine lv_iinc (v := (v6 + 1)) (lv' := [(6, .int (v6 + 1)), (7, .int r14), (0, .ref (G.1 0)), (1, .int v1), (2, .int v2), (3, .int v3), (4, .int v4), (5, .int v5)]) C.1 C.2.1 dX8_toShut_149 hl (k := 7) rfl rfl (by decide) rfl (fun ls hl => ?_)
        refine lv_goto (tgt := 78) C.1 C.2.1 dX8_toShut_152 (by decide) ?_
        exact hag78 v4 v5 (v6 + 1) M12 _ _ _ hT (lv_sub hl [2, 3, 4, 5, 6, 7, 0] rfl) h
      · have h := fz_iq c17 h
        refine lv_iload C.1 C.2.1 dX8_toShut_141 (lv_at hl 0 rfl) ?_
        refine lv_istore (lv' := [(4, .int r14), (7, .int r14), (0, .ref (G.1 0)), (1, .int v1), (2, .int v2), (3, .int v3), (5, .int v5), (6, .int v6)]) C.1 C.2.1 dX8_toShut_143 hl (by decide) rfl (fun ls hl => ?_)
        refine lv_iload C.1 C.2.1 dX8_toShut_145 (lv_at hl 7 rfl) ?_
        refine lv_istore (lv' := [(5, .int v6), (4, .int r14), (7, .int r14), (0, .ref (G.1 0)), (1, .int v1), (2, .int v2), (3, .int v3), (6, .int v6)]) C.1 C.2.1 dX8_toShut_147 hl (by decide) rfl (fun ls hl => ?_)
        refine lv_iinc (v := (v6 + 1)) (lv' := [(6, .int (v6 + 1)), (5, .int v6), (4, .int r14), (7, .int r14), (0, .ref (G.1 0)), (1, .int v1), (2, .int v2), (3, .int v3)]) C.1 C.2.1 dX8_toShut_149 hl (k := 7) rfl rfl (by decide) rfl (fun ls hl => ?_)
        refine lv_goto (tgt := 78) C.1 C.2.1 dX8_toShut_152 (by decide) ?_
        exact hag78 r14 v6 (v6 + 1) M12 _ _ _ hT (lv_sub hl [4, 5, 6, 7, 2, 1, 0] rfl) h
set_option maxHeartbeats 4000000 in
set_option maxRecDepth 100000 in
theorem b_X8_toShut_78 {p : Program} {l : Launch} {e : Env} {s : State} {m : MethodId} {args : Array Value} {below : List Frame} {meth : Method} {c : Code} {G : fz_G}     {v1 : Int32} {v2 : Int32} {v3 : Int32} {v4 : Int32} {v5 : Int32} {v6 : Int32} {M : fz_M} {H : Heap} {locs : List Loc} {ls : Array Slot} {r : Int32} {M9 : fz_M} (C : CallFix p m c cX8_toShut 8 s args wsL_law RX8) (hr : meth.sig.returnType = (some .int)) (hlk : meth.locks = false) (hF : fz_F G fz_KC s)  (hT : fz_T G fz_shC fz_KC s M H locs) (hl : lv_has ls 8 [(0, .ref (G.1 0)), (1, .int v1), (2, .int v2), (3, .int v3), (4, .int v4), (5, .int v5), (6, .int v6)]) (h : f_X8_toShut_78 v1 v2 v3 v4 v5 v6 M = some (r, M9)) : W p l e (fz_rm 5 115) s m args below meth c H locs 0 0 (MQ below (fz_Qi G fz_shC fz_KC r M9) args s 0 0 (fz_Fr G fz_KC)) (F0 m 78 ls []) :=
  b_X8_toShut_78_l C hr hlk hF fz_fuel v4 v5 v6 M H locs ls hT hl h
set_option maxHeartbeats 4000000 in
set_option maxRecDepth 100000 in
theorem b_X8_toShut_0 {p : Program} {l : Launch} {e : Env} {s : State} {m : MethodId} {args : Array Value} {below : List Frame} {meth : Method} {c : Code} {G : fz_G}     {v1 : Int32} {v2 : Int32} {v3 : Int32} {M : fz_M} {H : Heap} {locs : List Loc} {ls : Array Slot} {r : Int32} {M9 : fz_M} (C : CallFix p m c cX8_toShut 8 s args wsL_law RX8) (hr : meth.sig.returnType = (some .int)) (hlk : meth.locks = false) (hF : fz_F G fz_KC s)  (hT : fz_T G fz_shC fz_KC s M H locs) (hl : lv_has ls 8 [(0, .ref (G.1 0)), (1, .int v1), (2, .int v2), (3, .int v3)]) (h : f_X8_toShut v1 v2 v3 M = some (r, M9)) : W p l e (fz_rm 5 115) s m args below meth c H locs 0 0 (MQ below (fz_Qi G fz_shC fz_KC r M9) args s 0 0 (fz_Fr G fz_KC)) (F0 m 0 ls []) := by
  refine lv_aload_n C.1 C.2.1 dX8_toShut_0 rfl (lv_at hl 0 rfl) ?_
  refine lv_iload_n C.1 C.2.1 dX8_toShut_1 rfl (lv_at hl 1 rfl) ?_
  obtain ⟨r1, w3, h⟩ := fz_b1_s h
  refine fz_ci hT (fz_runV (np := 1) (rest := []) C hF hT (c_X8_isHouse l G v1 M r1 w3) fz_c0 (T := TX8) (N := 11) rfl cl_X8_118 rfl hl.1 rfl (Nat.le_of_ble_eq_true rfl) ⟨Nat.le_of_ble_eq_true rfl, Nat.le_of_ble_eq_true rfl, Nat.zero_le _, Nat.zero_le _⟩ dX8_toShut_2) (fun H locs hT => ?_)
  refine lv_if_ne (tgt := 10) C.1 C.2.1 dX8_toShut_5 (by decide) (fun c4 => ?_) (fun c4 => ?_)
  · have h := fz_ip c4 h
    refine lv_iload_n C.1 C.2.1 dX8_toShut_10 rfl (lv_at hl 2 rfl) ?_
    obtain ⟨r5, w7, h⟩ := fz_b1_s h
    refine fz_ci hT (fz_runS (np := 1) (rest := []) C hF hT (c_X8_isLevel l G v2 M r5 w7) cl_X8_180 rfl hl.1 rfl (Nat.le_of_ble_eq_true rfl) ⟨Nat.le_of_ble_eq_true rfl, Nat.le_of_ble_eq_true rfl, Nat.zero_le _, Nat.zero_le _⟩ dX8_toShut_11) (fun H locs hT => ?_)
    refine lv_if_eq (tgt := 24) C.1 C.2.1 dX8_toShut_14 (by decide) (fun c8 => ?_) (fun c8 => ?_)
    · have h := fz_ip c8 h
      refine lv_bipush (v := (-2)) C.1 C.2.1 dX8_toShut_24 (by decide) ?_
      cases h
      exact fz_reti C hr hlk hT dX8_toShut_26
    · have h := fz_iq c8 h
      refine lv_iload_n C.1 C.2.1 dX8_toShut_17 rfl (lv_at hl 3 rfl) ?_
      obtain ⟨r9, w11, h⟩ := fz_b1_s h
      refine fz_ci hT (fz_runS (np := 1) (rest := []) C hF hT (c_X8_areHours l G v3 M r9 w11) cl_X8_216 rfl hl.1 rfl (Nat.le_of_ble_eq_true rfl) ⟨Nat.le_of_ble_eq_true rfl, Nat.le_of_ble_eq_true rfl, Nat.zero_le _, Nat.zero_le _⟩ dX8_toShut_18) (fun H locs hT => ?_)
      refine lv_if_ne (tgt := 27) C.1 C.2.1 dX8_toShut_21 (by decide) (fun c12 => ?_) (fun c12 => ?_)
      · have h := fz_ip c12 h
        refine lv_aload_n C.1 C.2.1 dX8_toShut_27 rfl (lv_at hl 0 rfl) ?_
        refine fz_getr C hF hT fz_c0 (j := 4) rfl fl_X8_40 dX8_toShut_28 ?_
        refine lv_aload_n C.1 C.2.1 dX8_toShut_31 rfl (lv_at hl 0 rfl) ?_
        refine fz_getd C hF hT fz_c0 (j := 9) rfl fl_X8_69 dX8_toShut_32 ?_
        obtain ⟨y13, ey13, h⟩ := fz_bd_s h
        rw [← ey13]
        obtain ⟨g14, h⟩ := fz_gd_s h
        refine lv_aload_n C.1 C.2.1 dX8_toShut_35 rfl (lv_at hl 0 rfl) ?_
        refine fz_getr C hF hT fz_c0 (j := 6) rfl fl_X8_54 dX8_toShut_36 ?_
        refine lv_bipush (v := (-9)) C.1 C.2.1 dX8_toShut_39 (by decide) ?_
        obtain ⟨M16, w17, h⟩ := fz_b1_s h
        refine fz_cv hT (fz_runV (np := 3) (rest := []) C hF hT (c_X7_begin l G y13 g14 40 fz_now (-9) M M16 w17) fz_c10 (T := TX7) (N := 6) rfl cl_X8_191 rfl hl.1 rfl (Nat.le_of_ble_eq_true rfl) ⟨Nat.le_of_ble_eq_true rfl, Nat.le_of_ble_eq_true rfl, Nat.zero_le _, Nat.zero_le _⟩ dX8_toShut_41) (fun H locs hT => ?_)
        refine lv_aload_n C.1 C.2.1 dX8_toShut_44 rfl (lv_at hl 0 rfl) ?_
        refine fz_getr C hF hT fz_c0 (j := 4) rfl fl_X8_40 dX8_toShut_45 ?_
        refine lv_aload_n C.1 C.2.1 dX8_toShut_48 rfl (lv_at hl 0 rfl) ?_
        refine fz_getd C hF hT fz_c0 (j := 9) rfl fl_X8_69 dX8_toShut_49 ?_
        obtain ⟨y18, ey18, h⟩ := fz_bd_s h
        rw [← ey18]
        obtain ⟨g19, h⟩ := fz_gd_s h
        refine lv_iload_n C.1 C.2.1 dX8_toShut_52 rfl (lv_at hl 2 rfl) ?_
        refine lv_iload_n C.1 C.2.1 dX8_toShut_53 rfl (lv_at hl 3 rfl) ?_
        obtain ⟨M21, w22, h⟩ := fz_b1_s h
        refine fz_cv hT (fz_runV (np := 3) (rest := []) C hF hT (c_X7_passHours l G y18 g19 v2 v3 M16 M21 w22) fz_c10 (T := TX7) (N := 6) rfl cl_X8_219 rfl hl.1 rfl (Nat.le_of_ble_eq_true rfl) ⟨Nat.le_of_ble_eq_true rfl, Nat.le_of_ble_eq_true rfl, Nat.zero_le _, Nat.zero_le _⟩ dX8_toShut_54) (fun H locs hT => ?_)
        refine lv_aload_n C.1 C.2.1 dX8_toShut_57 rfl (lv_at hl 0 rfl) ?_
        refine lv_aload_n C.1 C.2.1 dX8_toShut_58 rfl (lv_at hl 0 rfl) ?_
        refine fz_getr C hF hT fz_c0 (j := 4) rfl fl_X8_40 dX8_toShut_59 ?_
        refine fz_getr C hF hT fz_c10 (j := 0) rfl fl_X8_198 dX8_toShut_62 ?_
        refine lv_iload_n C.1 C.2.1 dX8_toShut_65 rfl (lv_at hl 1 rfl) ?_
        obtain ⟨r23, w25, h⟩ := fz_b1_s h
        refine fz_ci hT (fz_runV (np := 2) (rest := []) C hF hT (c_X8_widthOf l G 11 fz_c11 v1 M21 r23 w25) fz_c0 (T := TX8) (N := 11) rfl cl_X8_136 rfl hl.1 rfl (Nat.le_of_ble_eq_true rfl) ⟨Nat.le_of_ble_eq_true rfl, Nat.le_of_ble_eq_true rfl, Nat.zero_le _, Nat.zero_le _⟩ dX8_toShut_66) (fun H locs hT => ?_)
        refine lv_istore (lv' := [(4, .int r23), (0, .ref (G.1 0)), (1, .int v1), (2, .int v2), (3, .int v3)]) C.1 C.2.1 dX8_toShut_69 hl (by decide) rfl (fun ls hl => ?_)
        refine lv_bipush (v := (-9)) C.1 C.2.1 dX8_toShut_71 (by decide) ?_
        refine lv_istore (lv' := [(5, .int (-9)), (4, .int r23), (0, .ref (G.1 0)), (1, .int v1), (2, .int v2), (3, .int v3)]) C.1 C.2.1 dX8_toShut_73 hl (by decide) rfl (fun ls hl => ?_)
        refine lv_iconst (v := 0) C.1 C.2.1 dX8_toShut_75 (by decide) ?_
        refine lv_istore (lv' := [(6, .int 0), (5, .int (-9)), (4, .int r23), (0, .ref (G.1 0)), (1, .int v1), (2, .int v2), (3, .int v3)]) C.1 C.2.1 dX8_toShut_76 hl (by decide) rfl (fun ls hl => ?_)
        exact b_X8_toShut_78 C hr hlk hF hT (lv_sub hl [3, 4, 5, 6, 2, 1, 0] rfl) h
      · have h := fz_iq (not_not_intro c12) h
        refine lv_bipush (v := (-2)) C.1 C.2.1 dX8_toShut_24 (by decide) ?_
        cases h
        exact fz_reti C hr hlk hT dX8_toShut_26
  · have h := fz_iq (not_not_intro c4) h
    refine lv_iconst (v := (-1)) C.1 C.2.1 dX8_toShut_8 (by decide) ?_
    cases h
    exact fz_reti C hr hlk hT dX8_toShut_9
set_option maxRecDepth 100000 in
theorem c_X8_toShut (l : Launch) (G : fz_G)  (a0 : Int32) (a1 : Int32) (a2 : Int32) (M : fz_M) (r : Int32) (M9 : fz_M) (h : f_X8_toShut a0 a1 a2 M = some (r, M9)) : fz_Me l yX8_toShut cX8_toShut 8 (some .int) 5 115 G fz_shC fz_KC [.ref (G.1 0), .int a0, .int a1, .int a2] M (fz_Qi G fz_shC fz_KC r M9) := by
  refine fz_body (by decide) (Nat.le_of_ble_eq_true rfl) ?_
  intro p e s m args below meth c H locs ls C hr hlk hF hT hl
  have C : CallFix p m c cX8_toShut 8 s args wsL_law RX8 := C
  have hl : lv_has ls 8 [(0, .ref (G.1 0)), (1, .int a0), (2, .int a1), (3, .int a2)] := hl
  exact b_X8_toShut_0 C hr hlk hF hT (lv_sub hl [0, 1, 2, 3] rfl) h
set_option maxHeartbeats 4000000 in
set_option maxRecDepth 100000 in
theorem b_X8_commonPower_39 {p : Program} {l : Launch} {e : Env} {s : State} {m : MethodId} {args : Array Value} {below : List Frame} {meth : Method} {c : Code} {G : fz_G}     {v5 : Int64} {M : fz_M} {H : Heap} {locs : List Loc} {ls : Array Slot} {r : Int64} (C : CallFix p m c cX8_commonPower 10 s args wsL_law RX8) (hr : meth.sig.returnType = (some .long)) (hlk : meth.locks = false) (hF : fz_F G fz_KC s)  (hT : fz_T G fz_shC fz_KC s M H locs) (hl : lv_has ls 10 [(5, .long v5)]) (h : f_X8_commonPower_39 v5 M = some r) : W p l e (fz_rm 0 0) s m args below meth c H locs 0 0 (MQ below (fz_Ql G fz_shC fz_KC r M) args s 0 0 (fz_Fr G fz_KC)) (F0 m 39 ls []) := by
  refine lv_lload C.1 C.2.1 dX8_commonPower_39 (lv_at hl 0 rfl) ?_
  cases h
  exact fz_retl C hr hlk hT dX8_commonPower_41
set_option maxHeartbeats 4000000 in
set_option maxRecDepth 100000 in
theorem b_X8_commonPower_6_l {p : Program} {l : Launch} {e : Env} {s : State} {m : MethodId} {args : Array Value} {below : List Frame} {meth : Method} {c : Code} {G : fz_G}     {v0 : Int64} {v2 : Int64} {v4 : Int32} {M : fz_M} {r : Int64} (C : CallFix p m c cX8_commonPower 10 s args wsL_law RX8) (hr : meth.sig.returnType = (some .long)) (hlk : meth.locks = false) (hF : fz_F G fz_KC s)  : ∀ (n : Nat) (v5 : Int64) (v7 : Int32) (H : Heap) (locs : List Loc) (ls : Array Slot), fz_T G fz_shC fz_KC s M H locs → lv_has ls 10 [(0, .long v0), (2, .long v2), (4, .int v4), (5, .long v5), (7, .int v7)] → fz_lp (fun ag z => f_X8_commonPower_6_s ag v0 v2 v4 z.1 z.2 M) n (v5, v7) = some r → W p l e (fz_rm 0 0) s m args below meth c H locs 0 0 (MQ below (fz_Ql G fz_shC fz_KC r M) args s 0 0 (fz_Fr G fz_KC)) (F0 m 6 ls []) := by
  intro n
  induction n with
  | zero =>
    intro v5 v7 H locs ls hT hl h
    cases h
  | succ n ih =>
    intro v5 v7 H locs ls hT hl h
    have h : f_X8_commonPower_6_s (fz_lp (fun ag z => f_X8_commonPower_6_s ag v0 v2 v4 z.1 z.2 M) n) v0 v2 v4 v5 v7 M = some r := h
    have hag6 := ih
    generalize fz_lp (fun ag z => f_X8_commonPower_6_s ag v0 v2 v4 z.1 z.2 M) n = ag6 at h hag6
    refine lv_iload C.1 C.2.1 dX8_commonPower_6 (lv_at hl 4 rfl) ?_
    refine lv_bipush (v := 9) C.1 C.2.1 dX8_commonPower_8 (by decide) ?_
    refine lv_icmp_ge (tgt := 52) C.1 C.2.1 dX8_commonPower_10 (by decide) (fun c1 => ?_) (fun c1 => ?_)
    · have h := fz_ip c1 h
      refine lv_lload C.1 C.2.1 dX8_commonPower_52 (lv_at hl 3 rfl) ?_
      cases h
      exact fz_retl C hr hlk hT dX8_commonPower_54
    · have h := fz_iq c1 h
      refine lv_lload C.1 C.2.1 dX8_commonPower_13 (lv_at hl 3 rfl) ?_
      refine lv_iload C.1 C.2.1 dX8_commonPower_15 (lv_at hl 2 rfl) ?_
      refine lv_i2l (v := (v4.toInt64)) C.1 C.2.1 dX8_commonPower_17 rfl ?_
      refine lv_lmul C.1 C.2.1 dX8_commonPower_18 ?_
      obtain ⟨x2, ex2, h⟩ := fz_bd_s h
      refine fz_nml ex2 ?_
      refine lv_lstore (lv' := [(8, .long x2), (0, .long v0), (2, .long v2), (4, .int v4), (5, .long v5), (7, .int v7)]) C.1 C.2.1 dX8_commonPower_19 hl (by decide) rfl (fun ls hl => ?_)
      refine lv_lload_n C.1 C.2.1 dX8_commonPower_21 rfl (lv_at hl 1 rfl) ?_
      refine lv_lload C.1 C.2.1 dX8_commonPower_22 (lv_at hl 0 rfl) ?_
      obtain ⟨g3, h⟩ := fz_gd_s h
      refine lv_lrem C.1 C.2.1 dX8_commonPower_24 (fz_nzl_s g3) ?_
      refine lv_lconst (v := 0) C.1 C.2.1 dX8_commonPower_25 (by decide) ?_
      refine W.lcmp C.1 C.2.1 dX8_commonPower_26 ?_
      refine lv_if_ne (tgt := 39) C.1 C.2.1 dX8_commonPower_27 (by decide) (fun c4 => ?_) (fun c4 => ?_)
      · have h := fz_ip c4 h
        exact b_X8_commonPower_39 C hr hlk hF hT (lv_sub hl [4] rfl) h
      · have h := fz_iq (not_not_intro c4) h
        refine lv_lload_n C.1 C.2.1 dX8_commonPower_30 rfl (lv_at hl 2 rfl) ?_
        refine lv_lload C.1 C.2.1 dX8_commonPower_31 (lv_at hl 0 rfl) ?_
        obtain ⟨g5, h⟩ := fz_gd_s h
        refine lv_lrem C.1 C.2.1 dX8_commonPower_33 (fz_nzl_s g5) ?_
        refine lv_lconst (v := 0) C.1 C.2.1 dX8_commonPower_34 (by decide) ?_
        refine W.lcmp C.1 C.2.1 dX8_commonPower_35 ?_
        refine lv_if_eq (tgt := 42) C.1 C.2.1 dX8_commonPower_36 (by decide) (fun c6 => ?_) (fun c6 => ?_)
        · have h := fz_ip c6 h
          refine lv_lload C.1 C.2.1 dX8_commonPower_42 (lv_at hl 0 rfl) ?_
          refine lv_lstore (lv' := [(5, .long x2), (8, .long x2), (0, .long v0), (2, .long v2), (4, .int v4), (7, .int v7)]) C.1 C.2.1 dX8_commonPower_44 hl (by decide) rfl (fun ls hl => ?_)
          refine lv_iinc (v := (v7 + 1)) (lv' := [(7, .int (v7 + 1)), (5, .long x2), (8, .long x2), (0, .long v0), (2, .long v2), (4, .int v4)]) C.1 C.2.1 dX8_commonPower_46 hl (k := 5) rfl rfl (by decide) rfl (fun ls hl => ?_)
          refine lv_goto (tgt := 6) C.1 C.2.1 dX8_commonPower_49 (by decide) ?_
          exact hag6 x2 (v7 + 1) _ _ _ hT (lv_sub hl [3, 4, 5, 1, 0] rfl) h
        · have h := fz_iq c6 h
          exact b_X8_commonPower_39 C hr hlk hF hT (lv_sub hl [4] rfl) h
set_option maxHeartbeats 4000000 in
set_option maxRecDepth 100000 in
theorem b_X8_commonPower_6 {p : Program} {l : Launch} {e : Env} {s : State} {m : MethodId} {args : Array Value} {below : List Frame} {meth : Method} {c : Code} {G : fz_G}     {v0 : Int64} {v2 : Int64} {v4 : Int32} {v5 : Int64} {v7 : Int32} {M : fz_M} {H : Heap} {locs : List Loc} {ls : Array Slot} {r : Int64} (C : CallFix p m c cX8_commonPower 10 s args wsL_law RX8) (hr : meth.sig.returnType = (some .long)) (hlk : meth.locks = false) (hF : fz_F G fz_KC s)  (hT : fz_T G fz_shC fz_KC s M H locs) (hl : lv_has ls 10 [(0, .long v0), (2, .long v2), (4, .int v4), (5, .long v5), (7, .int v7)]) (h : f_X8_commonPower_6 v0 v2 v4 v5 v7 M = some r) : W p l e (fz_rm 0 0) s m args below meth c H locs 0 0 (MQ below (fz_Ql G fz_shC fz_KC r M) args s 0 0 (fz_Fr G fz_KC)) (F0 m 6 ls []) :=
  b_X8_commonPower_6_l C hr hlk hF fz_fuel v5 v7 H locs ls hT hl h
set_option maxHeartbeats 4000000 in
set_option maxRecDepth 100000 in
theorem b_X8_commonPower_0 {p : Program} {l : Launch} {e : Env} {s : State} {m : MethodId} {args : Array Value} {below : List Frame} {meth : Method} {c : Code} {G : fz_G}     {v0 : Int64} {v2 : Int64} {v4 : Int32} {M : fz_M} {H : Heap} {locs : List Loc} {ls : Array Slot} {r : Int64} (C : CallFix p m c cX8_commonPower 10 s args wsL_law RX8) (hr : meth.sig.returnType = (some .long)) (hlk : meth.locks = false) (hF : fz_F G fz_KC s)  (hT : fz_T G fz_shC fz_KC s M H locs) (hl : lv_has ls 10 [(0, .long v0), (2, .long v2), (4, .int v4)]) (h : f_X8_commonPower v0 v2 v4 M = some r) : W p l e (fz_rm 0 0) s m args below meth c H locs 0 0 (MQ below (fz_Ql G fz_shC fz_KC r M) args s 0 0 (fz_Fr G fz_KC)) (F0 m 0 ls []) := by
  refine lv_lconst (v := 1) C.1 C.2.1 dX8_commonPower_0 (by decide) ?_
  refine lv_lstore (lv' := [(5, .long 1), (0, .long v0), (2, .long v2), (4, .int v4)]) C.1 C.2.1 dX8_commonPower_1 hl (by decide) rfl (fun ls hl => ?_)
  refine lv_iconst (v := 0) C.1 C.2.1 dX8_commonPower_3 (by decide) ?_
  refine lv_istore (lv' := [(7, .int 0), (5, .long 1), (0, .long v0), (2, .long v2), (4, .int v4)]) C.1 C.2.1 dX8_commonPower_4 hl (by decide) rfl (fun ls hl => ?_)
  exact b_X8_commonPower_6 C hr hlk hF hT (lv_sub hl [2, 3, 4, 1, 0] rfl) h
set_option maxRecDepth 100000 in
theorem c_X8_commonPower (l : Launch) (G : fz_G)  (a0 : Int64) (a1 : Int64) (a2 : Int32) (M : fz_M) (r : Int64) (h : f_X8_commonPower a0 a1 a2 M = some r) : fz_Me l yX8_commonPower cX8_commonPower 10 (some .long) 0 0 G fz_shC fz_KC [.long a0, .long a1, .int a2] M (fz_Ql G fz_shC fz_KC r M) := by
  refine fz_body (by decide) (Nat.le_of_ble_eq_true rfl) ?_
  intro p e s m args below meth c H locs ls C hr hlk hF hT hl
  have C : CallFix p m c cX8_commonPower 10 s args wsL_law RX8 := C
  have hl : lv_has ls 10 [(0, .long a0), (2, .long a1), (4, .int a2)] := hl
  exact b_X8_commonPower_0 C hr hlk hF hT (lv_sub hl [0, 1, 2] rfl) h
set_option maxHeartbeats 4000000 in
set_option maxRecDepth 100000 in
theorem b_X8_drawn_17 {p : Program} {l : Launch} {e : Env} {s : State} {m : MethodId} {args : Array Value} {below : List Frame} {meth : Method} {c : Code} {G : fz_G}      {M : fz_M} {H : Heap} {locs : List Loc} {ls : Array Slot} {r : Int64} {M9 : fz_M} (C : CallFix p m c cX8_drawn 12 s args wsL_law RX8) (hr : meth.sig.returnType = (some .long)) (hlk : meth.locks = false) (hF : fz_F G fz_KC s)  (hT : fz_T G fz_shC fz_KC s M H locs) (hl : lv_has ls 12 []) (h : f_X8_drawn_17 M = some (r, M9)) : W p l e (fz_rm 3 69) s m args below meth c H locs 0 0 (MQ below (fz_Ql G fz_shC fz_KC r M9) args s 0 0 (fz_Fr G fz_KC)) (F0 m 17 ls []) := by
  refine lv_ldc2 (v := (-1)) C.1 C.2.1 C.2.2.2.1 (C.2.2.2.2 _ (fz_q29 _ (List.mem_of_getElem? (i := 0) rfl))) dX8_drawn_17 ?_
  cases h
  exact fz_retl C hr hlk hT dX8_drawn_20
set_option maxHeartbeats 4000000 in
set_option maxRecDepth 100000 in
theorem b_X8_drawn_35 {p : Program} {l : Launch} {e : Env} {s : State} {m : MethodId} {args : Array Value} {below : List Frame} {meth : Method} {c : Code} {G : fz_G}      {M : fz_M} {H : Heap} {locs : List Loc} {ls : Array Slot} {r : Int64} {M9 : fz_M} (C : CallFix p m c cX8_drawn 12 s args wsL_law RX8) (hr : meth.sig.returnType = (some .long)) (hlk : meth.locks = false) (hF : fz_F G fz_KC s)  (hT : fz_T G fz_shC fz_KC s M H locs) (hl : lv_has ls 12 []) (h : f_X8_drawn_35 M = some (r, M9)) : W p l e (fz_rm 3 69) s m args below meth c H locs 0 0 (MQ below (fz_Ql G fz_shC fz_KC r M9) args s 0 0 (fz_Fr G fz_KC)) (F0 m 35 ls []) := by
  refine lv_ldc2 (v := (-2)) C.1 C.2.1 C.2.2.2.1 (C.2.2.2.2 _ (fz_q29 _ (List.mem_of_getElem? (i := 1) rfl))) dX8_drawn_35 ?_
  cases h
  exact fz_retl C hr hlk hT dX8_drawn_38
set_option maxHeartbeats 4000000 in
set_option maxRecDepth 100000 in
theorem b_X8_drawn_61_l {p : Program} {l : Launch} {e : Env} {s : State} {m : MethodId} {args : Array Value} {below : List Frame} {meth : Method} {c : Code} {G : fz_G}     {v1 : Int32} {v2 : Int32} {v3 : Int32} {v4 : Int32} {v5 : Int32}  {r : Int64} {M9 : fz_M} (C : CallFix p m c cX8_drawn 12 s args wsL_law RX8) (hr : meth.sig.returnType = (some .long)) (hlk : meth.locks = false) (hF : fz_F G fz_KC s)  : ∀ (n : Nat) (v6 : Int64) (v8 : Int32) (M : fz_M) (H : Heap) (locs : List Loc) (ls : Array Slot), fz_T G fz_shC fz_KC s M H locs → lv_has ls 12 [(0, .ref (G.1 0)), (1, .int v1), (2, .int v2), (3, .int v3), (4, .int v4), (5, .int v5), (6, .long v6), (8, .int v8)] → fz_lp (fun ag z => f_X8_drawn_61_s ag v1 v2 v3 v4 v5 z.1 z.2.1 z.2.2) n (v6, v8, M) = some (r, M9) → W p l e (fz_rm 3 69) s m args below meth c H locs 0 0 (MQ below (fz_Ql G fz_shC fz_KC r M9) args s 0 0 (fz_Fr G fz_KC)) (F0 m 61 ls []) := by
  intro n
  induction n with
  | zero =>
    intro v6 v8 M H locs ls hT hl h
    cases h
  | succ n ih =>
    intro v6 v8 M H locs ls hT hl h
    have h : f_X8_drawn_61_s (fz_lp (fun ag z => f_X8_drawn_61_s ag v1 v2 v3 v4 v5 z.1 z.2.1 z.2.2) n) v1 v2 v3 v4 v5 v6 v8 M = some (r, M9) := h
    have hag61 := ih
    generalize fz_lp (fun ag z => f_X8_drawn_61_s ag v1 v2 v3 v4 v5 z.1 z.2.1 z.2.2) n = ag61 at h hag61
    refine lv_iload C.1 C.2.1 dX8_drawn_61 (lv_at hl 7 rfl) ?_
    refine lv_iload_n C.1 C.2.1 dX8_drawn_63 rfl (lv_at hl 3 rfl) ?_
    refine lv_icmp_ge (tgt := 109) C.1 C.2.1 dX8_drawn_64 (by decide) (fun c1 => ?_) (fun c1 => ?_)
    · have h := fz_ip c1 h
      refine lv_aload_n C.1 C.2.1 dX8_drawn_109 rfl (lv_at hl 0 rfl) ?_
      refine fz_getr C hF hT fz_c0 (j := 5) rfl fl_X8_47 dX8_drawn_110 ?_
      refine fz_getd C hF hT fz_c15 (j := 0) rfl fl_X8_245 dX8_drawn_113 ?_
      obtain ⟨y2, ey2, h⟩ := fz_bd_s h
      rw [← ey2]
      obtain ⟨g3, h⟩ := fz_gd_s h
      refine lv_iload C.1 C.2.1 dX8_drawn_116 (lv_at hl 4 rfl) ?_
      obtain ⟨g4, h⟩ := fz_gd_s h
      refine fz_la C hF hT (fz_lg g3) g4 dX8_drawn_118 ?_
      obtain ⟨x5, ex5, h⟩ := fz_bd_s h
      refine fz_nml ex5 ?_
      refine lv_lstore (lv' := [(8, .long x5), (0, .ref (G.1 0)), (1, .int v1), (2, .int v2), (3, .int v3), (4, .int v4), (5, .int v5), (6, .long v6)]) C.1 C.2.1 dX8_drawn_119 hl (by decide) rfl (fun ls hl => ?_)
      refine lv_lload C.1 C.2.1 dX8_drawn_121 (lv_at hl 0 rfl) ?_
      refine lv_lload C.1 C.2.1 dX8_drawn_123 (lv_at hl 7 rfl) ?_
      refine lv_iconst (v := 2) C.1 C.2.1 dX8_drawn_125 (by decide) ?_
      obtain ⟨r6, w8, h⟩ := fz_b1_s h
      refine fz_cl hT (fz_runS (np := 3) (rest := []) C hF hT (c_X8_commonPower l G x5 v6 2 M r6 w8) cl_X8_249 rfl hl.1 rfl (Nat.le_of_ble_eq_true rfl) ⟨Nat.le_of_ble_eq_true rfl, Nat.le_of_ble_eq_true rfl, Nat.zero_le _, Nat.zero_le _⟩ dX8_drawn_126) (fun H locs hT => ?_)
      refine lv_lload C.1 C.2.1 dX8_drawn_129 (lv_at hl 0 rfl) ?_
      refine lv_lload C.1 C.2.1 dX8_drawn_131 (lv_at hl 7 rfl) ?_
      refine lv_iconst (v := 5) C.1 C.2.1 dX8_drawn_133 (by decide) ?_
      obtain ⟨r9, w11, h⟩ := fz_b1_s h
      refine fz_cl hT (fz_runS (np := 3) (rest := [.long r6]) C hF hT (c_X8_commonPower l G x5 v6 5 M r9 w11) cl_X8_249 rfl hl.1 rfl (Nat.le_of_ble_eq_true rfl) ⟨Nat.le_of_ble_eq_true rfl, Nat.le_of_ble_eq_true rfl, Nat.zero_le _, Nat.zero_le _⟩ dX8_drawn_134) (fun H locs hT => ?_)
      refine lv_lmul C.1 C.2.1 dX8_drawn_137 ?_
      obtain ⟨x12, ex12, h⟩ := fz_bd_s h
      refine fz_nml ex12 ?_
      refine lv_lstore (lv' := [(10, .long x12), (8, .long x5), (0, .ref (G.1 0)), (1, .int v1), (2, .int v2), (3, .int v3), (4, .int v4), (5, .int v5), (6, .long v6)]) C.1 C.2.1 dX8_drawn_138 hl (by decide) rfl (fun ls hl => ?_)
      refine lv_iload C.1 C.2.1 dX8_drawn_140 (lv_at hl 7 rfl) ?_
      refine lv_if_eq (tgt := 153) C.1 C.2.1 dX8_drawn_142 (by decide) (fun c13 => ?_) (fun c13 => ?_)
      · have h := fz_ip c13 h
        refine lv_lload C.1 C.2.1 dX8_drawn_153 (lv_at hl 8 rfl) ?_
        refine lv_lload C.1 C.2.1 dX8_drawn_155 (lv_at hl 0 rfl) ?_
        obtain ⟨g14, h⟩ := fz_gd_s h
        refine lv_ldiv C.1 C.2.1 dX8_drawn_157 (fz_nzl_s g14) ?_
        cases h
        exact fz_retl C hr hlk hT dX8_drawn_158
      · have h := fz_iq c13 h
        refine lv_lload C.1 C.2.1 dX8_drawn_145 (lv_at hl 1 rfl) ?_
        refine lv_lload C.1 C.2.1 dX8_drawn_147 (lv_at hl 0 rfl) ?_
        obtain ⟨g15, h⟩ := fz_gd_s h
        refine lv_ldiv C.1 C.2.1 dX8_drawn_149 (fz_nzl_s g15) ?_
        refine lv_goto (tgt := 158) C.1 C.2.1 dX8_drawn_150 (by decide) ?_
        cases h
        exact fz_retl C hr hlk hT dX8_drawn_158
    · have h := fz_iq c1 h
      refine lv_aload_n C.1 C.2.1 dX8_drawn_67 rfl (lv_at hl 0 rfl) ?_
      refine fz_getr C hF hT fz_c0 (j := 5) rfl fl_X8_47 dX8_drawn_68 ?_
      refine lv_aload_n C.1 C.2.1 dX8_drawn_71 rfl (lv_at hl 0 rfl) ?_
      refine fz_getd C hF hT fz_c0 (j := 9) rfl fl_X8_69 dX8_drawn_72 ?_
      obtain ⟨y16, ey16, h⟩ := fz_bd_s h
      rw [← ey16]
      obtain ⟨g17, h⟩ := fz_gd_s h
      refine lv_aload_n C.1 C.2.1 dX8_drawn_75 rfl (lv_at hl 0 rfl) ?_
      refine fz_getr C hF hT fz_c0 (j := 6) rfl fl_X8_54 dX8_drawn_76 ?_
      refine fz_getr C hF hT (fz_st fz_now) (j := 6) rfl fl_X8_152 dX8_drawn_79 ?_
      refine lv_aload_n C.1 C.2.1 dX8_drawn_82 rfl (lv_at hl 0 rfl) ?_
      refine fz_getd C hF hT fz_c0 (j := 9) rfl fl_X8_69 dX8_drawn_83 ?_
      obtain ⟨y18, ey18, h⟩ := fz_bd_s h
      rw [← ey18]
      obtain ⟨g19, h⟩ := fz_gd_s h
      refine fz_getr C hF hT (fz_pl g19) (j := 10) rfl fl_X8_161 dX8_drawn_86 ?_
      refine lv_iload_n C.1 C.2.1 dX8_drawn_89 rfl (lv_at hl 1 rfl) ?_
      obtain ⟨g20, h⟩ := fz_gd_s h
      refine fz_ia C hF hT (fz_pl8 g19) g20 dX8_drawn_90 ?_
      refine lv_iload_n C.1 C.2.1 dX8_drawn_91 rfl (lv_at hl 2 rfl) ?_
      obtain ⟨M22, w23, h⟩ := fz_b1_s h
      refine fz_cv hT (fz_runV (np := 4) (rest := []) C hF hT (c_X5_drawHour l G y16 g17 (40 + 12) (fz_st12 fz_now) (fz_g M (y18 + 8) v1) v2 M M22 w23) fz_c15 (T := TX5) (N := 2) rfl cl_X8_239 rfl hl.1 rfl (Nat.le_of_ble_eq_true rfl) ⟨Nat.le_of_ble_eq_true rfl, Nat.le_of_ble_eq_true rfl, Nat.zero_le _, Nat.zero_le _⟩ dX8_drawn_92) (fun H locs hT => ?_)
      refine lv_lload C.1 C.2.1 dX8_drawn_95 (lv_at hl 6 rfl) ?_
      refine lv_ldc2 (v := 10) C.1 C.2.1 C.2.2.2.1 (C.2.2.2.2 _ (fz_q29 _ (List.mem_of_getElem? (i := 2) rfl))) dX8_drawn_97 ?_
      refine lv_lmul C.1 C.2.1 dX8_drawn_100 ?_
      obtain ⟨x24, ex24, h⟩ := fz_bd_s h
      refine fz_nml ex24 ?_
      refine lv_lstore (lv' := [(6, .long x24), (0, .ref (G.1 0)), (1, .int v1), (2, .int v2), (3, .int v3), (4, .int v4), (5, .int v5), (8, .int v8)]) C.1 C.2.1 dX8_drawn_101 hl (by decide) rfl (fun ls hl => ?_)
      refine lv_iinc (v := (v8 + 1)) (lv' := [(8, .int (v8 + 1)), (6, .long x24), (0, .ref (G.1 0)), (1, .int v1), (2, .int v2), (3, .int v3), (4, .int v4), (5, .int v5)]) C.1 C.2.1 dX8_drawn_103 hl (k := 7) rfl rfl (by decide) rfl (fun ls hl => ?_)
      refine lv_goto (tgt := 61) C.1 C.2.1 dX8_drawn_106 (by decide) ?_
      exact hag61 x24 (v8 + 1) M22 _ _ _ hT (lv_sub hl [2, 3, 4, 5, 6, 7, 1, 0] rfl) h
set_option maxHeartbeats 4000000 in
set_option maxRecDepth 100000 in
theorem b_X8_drawn_61 {p : Program} {l : Launch} {e : Env} {s : State} {m : MethodId} {args : Array Value} {below : List Frame} {meth : Method} {c : Code} {G : fz_G}     {v1 : Int32} {v2 : Int32} {v3 : Int32} {v4 : Int32} {v5 : Int32} {v6 : Int64} {v8 : Int32} {M : fz_M} {H : Heap} {locs : List Loc} {ls : Array Slot} {r : Int64} {M9 : fz_M} (C : CallFix p m c cX8_drawn 12 s args wsL_law RX8) (hr : meth.sig.returnType = (some .long)) (hlk : meth.locks = false) (hF : fz_F G fz_KC s)  (hT : fz_T G fz_shC fz_KC s M H locs) (hl : lv_has ls 12 [(0, .ref (G.1 0)), (1, .int v1), (2, .int v2), (3, .int v3), (4, .int v4), (5, .int v5), (6, .long v6), (8, .int v8)]) (h : f_X8_drawn_61 v1 v2 v3 v4 v5 v6 v8 M = some (r, M9)) : W p l e (fz_rm 3 69) s m args below meth c H locs 0 0 (MQ below (fz_Ql G fz_shC fz_KC r M9) args s 0 0 (fz_Fr G fz_KC)) (F0 m 61 ls []) :=
  b_X8_drawn_61_l C hr hlk hF fz_fuel v6 v8 M H locs ls hT hl h
set_option maxHeartbeats 4000000 in
set_option maxRecDepth 100000 in
theorem b_X8_drawn_0 {p : Program} {l : Launch} {e : Env} {s : State} {m : MethodId} {args : Array Value} {below : List Frame} {meth : Method} {c : Code} {G : fz_G}     {v1 : Int32} {v2 : Int32} {v3 : Int32} {v4 : Int32} {v5 : Int32} {M : fz_M} {H : Heap} {locs : List Loc} {ls : Array Slot} {r : Int64} {M9 : fz_M} (C : CallFix p m c cX8_drawn 12 s args wsL_law RX8) (hr : meth.sig.returnType = (some .long)) (hlk : meth.locks = false) (hF : fz_F G fz_KC s)  (hT : fz_T G fz_shC fz_KC s M H locs) (hl : lv_has ls 12 [(0, .ref (G.1 0)), (1, .int v1), (2, .int v2), (3, .int v3), (4, .int v4), (5, .int v5)]) (h : f_X8_drawn v1 v2 v3 v4 v5 M = some (r, M9)) : W p l e (fz_rm 3 69) s m args below meth c H locs 0 0 (MQ below (fz_Ql G fz_shC fz_KC r M9) args s 0 0 (fz_Fr G fz_KC)) (F0 m 0 ls []) := by
  refine lv_aload_n C.1 C.2.1 dX8_drawn_0 rfl (lv_at hl 0 rfl) ?_
  refine lv_iload_n C.1 C.2.1 dX8_drawn_1 rfl (lv_at hl 1 rfl) ?_
  obtain ⟨r1, w3, h⟩ := fz_b1_s h
  refine fz_ci hT (fz_runV (np := 1) (rest := []) C hF hT (c_X8_isPiece l G v1 M r1 w3) fz_c0 (T := TX8) (N := 11) rfl cl_X8_155 rfl hl.1 rfl (Nat.le_of_ble_eq_true rfl) ⟨Nat.le_of_ble_eq_true rfl, Nat.le_of_ble_eq_true rfl, Nat.zero_le _, Nat.zero_le _⟩ dX8_drawn_2) (fun H locs hT => ?_)
  refine lv_if_eq (tgt := 17) C.1 C.2.1 dX8_drawn_5 (by decide) (fun c4 => ?_) (fun c4 => ?_)
  · have h := fz_ip c4 h
    exact b_X8_drawn_17 C hr hlk hF hT (lv_sub hl [] rfl) h
  · have h := fz_iq c4 h
    refine lv_aload_n C.1 C.2.1 dX8_drawn_8 rfl (lv_at hl 0 rfl) ?_
    refine lv_iload C.1 C.2.1 dX8_drawn_9 (lv_at hl 4 rfl) ?_
    obtain ⟨r5, w7, h⟩ := fz_b1_s h
    refine fz_ci hT (fz_runV (np := 1) (rest := []) C hF hT (c_X8_isHouse l G v4 M r5 w7) fz_c0 (T := TX8) (N := 11) rfl cl_X8_118 rfl hl.1 rfl (Nat.le_of_ble_eq_true rfl) ⟨Nat.le_of_ble_eq_true rfl, Nat.le_of_ble_eq_true rfl, Nat.zero_le _, Nat.zero_le _⟩ dX8_drawn_11) (fun H locs hT => ?_)
    refine lv_if_ne (tgt := 21) C.1 C.2.1 dX8_drawn_14 (by decide) (fun c8 => ?_) (fun c8 => ?_)
    · have h := fz_ip c8 h
      refine lv_iload_n C.1 C.2.1 dX8_drawn_21 rfl (lv_at hl 2 rfl) ?_
      obtain ⟨r9, w11, h⟩ := fz_b1_s h
      refine fz_ci hT (fz_runS (np := 1) (rest := []) C hF hT (c_X8_isLevel l G v2 M r9 w11) cl_X8_180 rfl hl.1 rfl (Nat.le_of_ble_eq_true rfl) ⟨Nat.le_of_ble_eq_true rfl, Nat.le_of_ble_eq_true rfl, Nat.zero_le _, Nat.zero_le _⟩ dX8_drawn_22) (fun H locs hT => ?_)
      refine lv_if_eq (tgt := 35) C.1 C.2.1 dX8_drawn_25 (by decide) (fun c12 => ?_) (fun c12 => ?_)
      · have h := fz_ip c12 h
        exact b_X8_drawn_35 C hr hlk hF hT (lv_sub hl [] rfl) h
      · have h := fz_iq c12 h
        refine lv_iload_n C.1 C.2.1 dX8_drawn_28 rfl (lv_at hl 3 rfl) ?_
        obtain ⟨r13, w15, h⟩ := fz_b1_s h
        refine fz_ci hT (fz_runS (np := 1) (rest := []) C hF hT (c_X8_areHours l G v3 M r13 w15) cl_X8_216 rfl hl.1 rfl (Nat.le_of_ble_eq_true rfl) ⟨Nat.le_of_ble_eq_true rfl, Nat.le_of_ble_eq_true rfl, Nat.zero_le _, Nat.zero_le _⟩ dX8_drawn_29) (fun H locs hT => ?_)
        refine lv_if_ne (tgt := 39) C.1 C.2.1 dX8_drawn_32 (by decide) (fun c16 => ?_) (fun c16 => ?_)
        · have h := fz_ip c16 h
          refine lv_aload_n C.1 C.2.1 dX8_drawn_39 rfl (lv_at hl 0 rfl) ?_
          refine fz_getr C hF hT fz_c0 (j := 5) rfl fl_X8_47 dX8_drawn_40 ?_
          refine lv_aload_n C.1 C.2.1 dX8_drawn_43 rfl (lv_at hl 0 rfl) ?_
          refine fz_getr C hF hT fz_c0 (j := 6) rfl fl_X8_54 dX8_drawn_44 ?_
          refine fz_getr C hF hT (fz_st fz_now) (j := 1) rfl fl_X8_133 dX8_drawn_47 ?_
          refine lv_iload_n C.1 C.2.1 dX8_drawn_50 rfl (lv_at hl 1 rfl) ?_
          obtain ⟨g17, h⟩ := fz_gd_s h
          refine fz_ia C hF hT (fz_st1 fz_now) g17 dX8_drawn_51 ?_
          obtain ⟨M19, w20, h⟩ := fz_b1_s h
          refine fz_cv hT (fz_runV (np := 1) (rest := []) C hF hT (c_X5_begin l G (fz_g M (40 + 1) v1) M M19 w20) fz_c15 (T := TX5) (N := 2) rfl cl_X8_236 rfl hl.1 rfl (Nat.le_of_ble_eq_true rfl) ⟨Nat.le_of_ble_eq_true rfl, Nat.le_of_ble_eq_true rfl, Nat.zero_le _, Nat.zero_le _⟩ dX8_drawn_52) (fun H locs hT => ?_)
          refine lv_lconst (v := 1) C.1 C.2.1 dX8_drawn_55 (by decide) ?_
          refine lv_lstore (lv' := [(6, .long 1), (0, .ref (G.1 0)), (1, .int v1), (2, .int v2), (3, .int v3), (4, .int v4), (5, .int v5)]) C.1 C.2.1 dX8_drawn_56 hl (by decide) rfl (fun ls hl => ?_)
          refine lv_iconst (v := 0) C.1 C.2.1 dX8_drawn_58 (by decide) ?_
          refine lv_istore (lv' := [(8, .int 0), (6, .long 1), (0, .ref (G.1 0)), (1, .int v1), (2, .int v2), (3, .int v3), (4, .int v4), (5, .int v5)]) C.1 C.2.1 dX8_drawn_59 hl (by decide) rfl (fun ls hl => ?_)
          exact b_X8_drawn_61 C hr hlk hF hT (lv_sub hl [2, 3, 4, 5, 6, 7, 1, 0] rfl) h
        · have h := fz_iq (not_not_intro c16) h
          exact b_X8_drawn_35 C hr hlk hF hT (lv_sub hl [] rfl) h
    · have h := fz_iq (not_not_intro c8) h
      exact b_X8_drawn_17 C hr hlk hF hT (lv_sub hl [] rfl) h
set_option maxRecDepth 100000 in
theorem c_X8_drawn (l : Launch) (G : fz_G)  (a0 : Int32) (a1 : Int32) (a2 : Int32) (a3 : Int32) (a4 : Int32) (M : fz_M) (r : Int64) (M9 : fz_M) (h : f_X8_drawn a0 a1 a2 a3 a4 M = some (r, M9)) : fz_Me l yX8_drawn cX8_drawn 12 (some .long) 3 69 G fz_shC fz_KC [.ref (G.1 0), .int a0, .int a1, .int a2, .int a3, .int a4] M (fz_Ql G fz_shC fz_KC r M9) := by
  refine fz_body (by decide) (Nat.le_of_ble_eq_true rfl) ?_
  intro p e s m args below meth c H locs ls C hr hlk hF hT hl
  have C : CallFix p m c cX8_drawn 12 s args wsL_law RX8 := C
  have hl : lv_has ls 12 [(0, .ref (G.1 0)), (1, .int a0), (2, .int a1), (3, .int a2), (4, .int a3), (5, .int a4)] := hl
  exact b_X8_drawn_0 C hr hlk hF hT (lv_sub hl [0, 1, 2, 3, 4, 5] rfl) h
set_option maxHeartbeats 4000000 in
set_option maxRecDepth 100000 in
theorem b_X8_goesFrom_54_l {p : Program} {l : Launch} {e : Env} {s : State} {m : MethodId} {args : Array Value} {below : List Frame} {meth : Method} {c : Code} {G : fz_G}     {v1 : Int32} {M : fz_M} {r : Int32} {M9 : fz_M} (C : CallFix p m c cX8_goesFrom 3 s args wsL_law RX8) (hr : meth.sig.returnType = (some .int)) (hlk : meth.locks = false) (hF : fz_F G fz_KC s)  : ∀ (n : Nat) (v2 : Int32) (H : Heap) (locs : List Loc) (ls : Array Slot), fz_T G fz_shC fz_KC s M H locs → lv_has ls 3 [(0, .ref (G.1 0)), (1, .int v1), (2, .int v2)] → fz_lp (fun ag z => f_X8_goesFrom_54_s ag v1 z M) n v2 = some (r, M9) → W p l e (fz_rm 3 67) s m args below meth c H locs 0 0 (MQ below (fz_Qi G fz_shC fz_KC r M9) args s 0 0 (fz_Fr G fz_KC)) (F0 m 54 ls []) := by
  intro n
  induction n with
  | zero =>
    intro v2 H locs ls hT hl h
    cases h
  | succ n ih =>
    intro v2 H locs ls hT hl h
    have h : f_X8_goesFrom_54_s (fz_lp (fun ag z => f_X8_goesFrom_54_s ag v1 z M) n) v1 v2 M = some (r, M9) := h
    have hag54 := ih
    generalize fz_lp (fun ag z => f_X8_goesFrom_54_s ag v1 z M) n = ag54 at h hag54
    refine lv_iload_n C.1 C.2.1 dX8_goesFrom_54 rfl (lv_at hl 2 rfl) ?_
    refine lv_bipush (v := 19) C.1 C.2.1 dX8_goesFrom_55 (by decide) ?_
    refine lv_icmp_gt (tgt := 84) C.1 C.2.1 dX8_goesFrom_57 (by decide) (fun c1 => ?_) (fun c1 => ?_)
    · have h := fz_ip c1 h
      refine lv_bipush (v := (-9)) C.1 C.2.1 dX8_goesFrom_84 (by decide) ?_
      cases h
      exact fz_reti C hr hlk hT dX8_goesFrom_86
    · have h := fz_iq c1 h
      refine lv_aload_n C.1 C.2.1 dX8_goesFrom_60 rfl (lv_at hl 0 rfl) ?_
      refine fz_getr C hF hT fz_c0 (j := 4) rfl fl_X8_40 dX8_goesFrom_61 ?_
      refine lv_aload_n C.1 C.2.1 dX8_goesFrom_64 rfl (lv_at hl 0 rfl) ?_
      refine fz_getd C hF hT fz_c0 (j := 9) rfl fl_X8_69 dX8_goesFrom_65 ?_
      obtain ⟨y2, ey2, h⟩ := fz_bd_s h
      rw [← ey2]
      obtain ⟨g3, h⟩ := fz_gd_s h
      refine lv_iload_n C.1 C.2.1 dX8_goesFrom_68 rfl (lv_at hl 1 rfl) ?_
      refine lv_iload_n C.1 C.2.1 dX8_goesFrom_69 rfl (lv_at hl 2 rfl) ?_
      obtain ⟨r4, w6, h⟩ := fz_b1_s h
      refine fz_ci hT (fz_runV (np := 3) (rest := []) C hF hT (c_X7_isLoose l G y2 g3 v1 v2 M r4 w6) fz_c10 (T := TX7) (N := 6) rfl cl_X8_256 rfl hl.1 rfl (Nat.le_of_ble_eq_true rfl) ⟨Nat.le_of_ble_eq_true rfl, Nat.le_of_ble_eq_true rfl, Nat.zero_le _, Nat.zero_le _⟩ dX8_goesFrom_70) (fun H locs hT => ?_)
      refine lv_if_eq (tgt := 78) C.1 C.2.1 dX8_goesFrom_73 (by decide) (fun c7 => ?_) (fun c7 => ?_)
      · have h := fz_ip c7 h
        refine lv_iinc (v := (v2 + 1)) (lv' := [(2, .int (v2 + 1)), (0, .ref (G.1 0)), (1, .int v1)]) C.1 C.2.1 dX8_goesFrom_78 hl (k := 2) rfl rfl (by decide) rfl (fun ls hl => ?_)
        refine lv_goto (tgt := 54) C.1 C.2.1 dX8_goesFrom_81 (by decide) ?_
        exact hag54 (v2 + 1) _ _ _ hT (lv_sub hl [1, 2, 0] rfl) h
      · have h := fz_iq c7 h
        refine lv_iload_n C.1 C.2.1 dX8_goesFrom_76 rfl (lv_at hl 2 rfl) ?_
        cases h
        exact fz_reti C hr hlk hT dX8_goesFrom_77
set_option maxHeartbeats 4000000 in
set_option maxRecDepth 100000 in
theorem b_X8_goesFrom_54 {p : Program} {l : Launch} {e : Env} {s : State} {m : MethodId} {args : Array Value} {below : List Frame} {meth : Method} {c : Code} {G : fz_G}     {v1 : Int32} {v2 : Int32} {M : fz_M} {H : Heap} {locs : List Loc} {ls : Array Slot} {r : Int32} {M9 : fz_M} (C : CallFix p m c cX8_goesFrom 3 s args wsL_law RX8) (hr : meth.sig.returnType = (some .int)) (hlk : meth.locks = false) (hF : fz_F G fz_KC s)  (hT : fz_T G fz_shC fz_KC s M H locs) (hl : lv_has ls 3 [(0, .ref (G.1 0)), (1, .int v1), (2, .int v2)]) (h : f_X8_goesFrom_54 v1 v2 M = some (r, M9)) : W p l e (fz_rm 3 67) s m args below meth c H locs 0 0 (MQ below (fz_Qi G fz_shC fz_KC r M9) args s 0 0 (fz_Fr G fz_KC)) (F0 m 54 ls []) :=
  b_X8_goesFrom_54_l C hr hlk hF fz_fuel v2 H locs ls hT hl h
set_option maxHeartbeats 4000000 in
set_option maxRecDepth 100000 in
theorem b_X8_goesFrom_0 {p : Program} {l : Launch} {e : Env} {s : State} {m : MethodId} {args : Array Value} {below : List Frame} {meth : Method} {c : Code} {G : fz_G}     {v1 : Int32} {M : fz_M} {H : Heap} {locs : List Loc} {ls : Array Slot} {r : Int32} {M9 : fz_M} (C : CallFix p m c cX8_goesFrom 3 s args wsL_law RX8) (hr : meth.sig.returnType = (some .int)) (hlk : meth.locks = false) (hF : fz_F G fz_KC s)  (hT : fz_T G fz_shC fz_KC s M H locs) (hl : lv_has ls 3 [(0, .ref (G.1 0)), (1, .int v1)]) (h : f_X8_goesFrom v1 M = some (r, M9)) : W p l e (fz_rm 3 67) s m args below meth c H locs 0 0 (MQ below (fz_Qi G fz_shC fz_KC r M9) args s 0 0 (fz_Fr G fz_KC)) (F0 m 0 ls []) := by
  refine lv_aload_n C.1 C.2.1 dX8_goesFrom_0 rfl (lv_at hl 0 rfl) ?_
  refine lv_iload_n C.1 C.2.1 dX8_goesFrom_1 rfl (lv_at hl 1 rfl) ?_
  obtain ⟨r1, w3, h⟩ := fz_b1_s h
  refine fz_ci hT (fz_runV (np := 1) (rest := []) C hF hT (c_X8_isPiece l G v1 M r1 w3) fz_c0 (T := TX8) (N := 11) rfl cl_X8_155 rfl hl.1 rfl (Nat.le_of_ble_eq_true rfl) ⟨Nat.le_of_ble_eq_true rfl, Nat.le_of_ble_eq_true rfl, Nat.zero_le _, Nat.zero_le _⟩ dX8_goesFrom_2) (fun H locs hT => ?_)
  refine lv_if_ne (tgt := 10) C.1 C.2.1 dX8_goesFrom_5 (by decide) (fun c4 => ?_) (fun c4 => ?_)
  · have h := fz_ip c4 h
    refine lv_aload_n C.1 C.2.1 dX8_goesFrom_10 rfl (lv_at hl 0 rfl) ?_
    refine fz_getr C hF hT fz_c0 (j := 4) rfl fl_X8_40 dX8_goesFrom_11 ?_
    refine lv_aload_n C.1 C.2.1 dX8_goesFrom_14 rfl (lv_at hl 0 rfl) ?_
    refine fz_getd C hF hT fz_c0 (j := 9) rfl fl_X8_69 dX8_goesFrom_15 ?_
    obtain ⟨y5, ey5, h⟩ := fz_bd_s h
    rw [← ey5]
    obtain ⟨g6, h⟩ := fz_gd_s h
    refine lv_aload_n C.1 C.2.1 dX8_goesFrom_18 rfl (lv_at hl 0 rfl) ?_
    refine fz_getr C hF hT fz_c0 (j := 6) rfl fl_X8_54 dX8_goesFrom_19 ?_
    refine lv_bipush (v := (-9)) C.1 C.2.1 dX8_goesFrom_22 (by decide) ?_
    obtain ⟨M8, w9, h⟩ := fz_b1_s h
    refine fz_cv hT (fz_runV (np := 3) (rest := []) C hF hT (c_X7_begin l G y5 g6 40 fz_now (-9) M M8 w9) fz_c10 (T := TX7) (N := 6) rfl cl_X8_191 rfl hl.1 rfl (Nat.le_of_ble_eq_true rfl) ⟨Nat.le_of_ble_eq_true rfl, Nat.le_of_ble_eq_true rfl, Nat.zero_le _, Nat.zero_le _⟩ dX8_goesFrom_24) (fun H locs hT => ?_)
    refine lv_aload_n C.1 C.2.1 dX8_goesFrom_27 rfl (lv_at hl 0 rfl) ?_
    refine fz_getr C hF hT fz_c0 (j := 4) rfl fl_X8_40 dX8_goesFrom_28 ?_
    refine fz_getr C hF hT fz_c10 (j := 2) rfl fl_X8_253 dX8_goesFrom_31 ?_
    refine lv_aload_n C.1 C.2.1 dX8_goesFrom_34 rfl (lv_at hl 0 rfl) ?_
    refine fz_getr C hF hT fz_c0 (j := 6) rfl fl_X8_54 dX8_goesFrom_35 ?_
    refine fz_getr C hF hT (fz_st fz_now) (j := 1) rfl fl_X8_133 dX8_goesFrom_38 ?_
    refine lv_iload_n C.1 C.2.1 dX8_goesFrom_41 rfl (lv_at hl 1 rfl) ?_
    obtain ⟨g10, h⟩ := fz_gd_s h
    refine fz_ia C hF hT (fz_st1 fz_now) g10 dX8_goesFrom_42 ?_
    obtain ⟨g11, h⟩ := fz_gd_s h
    refine fz_ia C hF hT fz_c13 g11 dX8_goesFrom_43 ?_
    refine lv_bipush (v := (-9)) C.1 C.2.1 dX8_goesFrom_44 (by decide) ?_
    refine lv_icmp_ne (tgt := 52) C.1 C.2.1 dX8_goesFrom_46 (by decide) (fun c12 => ?_) (fun c12 => ?_)
    · have h := fz_ip c12 h
      refine lv_iconst (v := 0) C.1 C.2.1 dX8_goesFrom_52 (by decide) ?_
      refine lv_istore_n (lv' := [(2, .int 0), (0, .ref (G.1 0)), (1, .int v1)]) C.1 C.2.1 dX8_goesFrom_53 rfl hl (by decide) rfl (fun ls hl => ?_)
      exact b_X8_goesFrom_54 C hr hlk hF hT (lv_sub hl [1, 2, 0] rfl) h
    · have h := fz_iq (not_not_intro c12) h
      refine lv_bipush (v := (-9)) C.1 C.2.1 dX8_goesFrom_49 (by decide) ?_
      cases h
      exact fz_reti C hr hlk hT dX8_goesFrom_51
  · have h := fz_iq (not_not_intro c4) h
    refine lv_iconst (v := (-1)) C.1 C.2.1 dX8_goesFrom_8 (by decide) ?_
    cases h
    exact fz_reti C hr hlk hT dX8_goesFrom_9
set_option maxRecDepth 100000 in
theorem c_X8_goesFrom (l : Launch) (G : fz_G)  (a0 : Int32) (M : fz_M) (r : Int32) (M9 : fz_M) (h : f_X8_goesFrom a0 M = some (r, M9)) : fz_Me l yX8_goesFrom cX8_goesFrom 3 (some .int) 3 67 G fz_shC fz_KC [.ref (G.1 0), .int a0] M (fz_Qi G fz_shC fz_KC r M9) := by
  refine fz_body (by decide) (Nat.le_of_ble_eq_true rfl) ?_
  intro p e s m args below meth c H locs ls C hr hlk hF hT hl
  have C : CallFix p m c cX8_goesFrom 3 s args wsL_law RX8 := C
  have hl : lv_has ls 3 [(0, .ref (G.1 0)), (1, .int a0)] := hl
  exact b_X8_goesFrom_0 C hr hlk hF hT (lv_sub hl [0, 1] rfl) h
set_option maxHeartbeats 4000000 in
set_option maxRecDepth 100000 in
theorem b_X8_mark_0 {p : Program} {l : Launch} {e : Env} {s : State} {m : MethodId} {args : Array Value} {below : List Frame} {meth : Method} {c : Code} {G : fz_G}     {v1 : Int32} {v2 : Int32} {M : fz_M} {H : Heap} {locs : List Loc} {ls : Array Slot} {r : Int32} {M9 : fz_M} (C : CallFix p m c cX8_mark 3 s args wsL_law RX8) (hr : meth.sig.returnType = (some .int)) (hlk : meth.locks = false) (hF : fz_F G fz_KC s)  (hT : fz_T G fz_shC fz_KC s M H locs) (hl : lv_has ls 3 [(0, .ref (G.1 0)), (1, .int v1), (2, .int v2)]) (h : f_X8_mark v1 v2 M = some (r, M9)) : W p l e (fz_rm 1 22) s m args below meth c H locs 0 0 (MQ below (fz_Qi G fz_shC fz_KC r M9) args s 0 0 (fz_Fr G fz_KC)) (F0 m 0 ls []) := by
  refine lv_aload_n C.1 C.2.1 dX8_mark_0 rfl (lv_at hl 0 rfl) ?_
  refine lv_iload_n C.1 C.2.1 dX8_mark_1 rfl (lv_at hl 2 rfl) ?_
  obtain ⟨r1, w3, h⟩ := fz_b1_s h
  refine fz_ci hT (fz_runV (np := 1) (rest := []) C hF hT (c_X8_isHouse l G v2 M r1 w3) fz_c0 (T := TX8) (N := 11) rfl cl_X8_118 rfl hl.1 rfl (Nat.le_of_ble_eq_true rfl) ⟨Nat.le_of_ble_eq_true rfl, Nat.le_of_ble_eq_true rfl, Nat.zero_le _, Nat.zero_le _⟩ dX8_mark_2) (fun H locs hT => ?_)
  refine lv_if_ne (tgt := 10) C.1 C.2.1 dX8_mark_5 (by decide) (fun c4 => ?_) (fun c4 => ?_)
  · have h := fz_ip c4 h
    refine lv_iload_n C.1 C.2.1 dX8_mark_10 rfl (lv_at hl 1 rfl) ?_
    refine lv_iconst (v := 1) C.1 C.2.1 dX8_mark_11 (by decide) ?_
    refine lv_icmp_lt (tgt := 21) C.1 C.2.1 dX8_mark_12 (by decide) (fun c5 => ?_) (fun c5 => ?_)
    · have h := fz_ip c5 h
      refine lv_bipush (v := (-2)) C.1 C.2.1 dX8_mark_21 (by decide) ?_
      cases h
      exact fz_reti C hr hlk hT dX8_mark_23
    · have h := fz_iq c5 h
      refine lv_iload_n C.1 C.2.1 dX8_mark_15 rfl (lv_at hl 1 rfl) ?_
      refine lv_bipush (v := 9) C.1 C.2.1 dX8_mark_16 (by decide) ?_
      refine lv_icmp_le (tgt := 24) C.1 C.2.1 dX8_mark_18 (by decide) (fun c6 => ?_) (fun c6 => ?_)
      · have h := fz_ip c6 h
        refine lv_aload_n C.1 C.2.1 dX8_mark_24 rfl (lv_at hl 0 rfl) ?_
        refine fz_getr C hF hT fz_c0 (j := 3) rfl fl_X8_33 dX8_mark_25 ?_
        refine fz_geti C hF hT fz_c7 (j := 2) rfl fl_X8_117 dX8_mark_28 ?_
        refine lv_bipush (v := 8) C.1 C.2.1 dX8_mark_31 (by decide) ?_
        refine lv_icmp_lt (tgt := 39) C.1 C.2.1 dX8_mark_33 (by decide) (fun c7 => ?_) (fun c7 => ?_)
        · have h := fz_ip c7 h
          refine lv_aload_n C.1 C.2.1 dX8_mark_39 rfl (lv_at hl 0 rfl) ?_
          refine fz_getr C hF hT fz_c0 (j := 3) rfl fl_X8_33 dX8_mark_40 ?_
          refine lv_iload_n C.1 C.2.1 dX8_mark_43 rfl (lv_at hl 1 rfl) ?_
          refine lv_iload_n C.1 C.2.1 dX8_mark_44 rfl (lv_at hl 2 rfl) ?_
          obtain ⟨M9, w10, h⟩ := fz_b1_s h
          refine fz_cv hT (fz_runV (np := 2) (rest := []) C hF hT (c_X2_add l G v1 v2 M M9 w10) fz_c7 (T := TX2) (N := 3) rfl cl_X8_260 rfl hl.1 rfl (Nat.le_of_ble_eq_true rfl) ⟨Nat.le_of_ble_eq_true rfl, Nat.le_of_ble_eq_true rfl, Nat.zero_le _, Nat.zero_le _⟩ dX8_mark_45) (fun H locs hT => ?_)
          refine lv_aload_n C.1 C.2.1 dX8_mark_48 rfl (lv_at hl 0 rfl) ?_
          refine fz_getr C hF hT fz_c0 (j := 3) rfl fl_X8_33 dX8_mark_49 ?_
          refine fz_geti C hF hT fz_c7 (j := 2) rfl fl_X8_117 dX8_mark_52 ?_
          cases h
          exact fz_reti C hr hlk hT dX8_mark_55
        · have h := fz_iq c7 h
          refine lv_bipush (v := (-4)) C.1 C.2.1 dX8_mark_36 (by decide) ?_
          cases h
          exact fz_reti C hr hlk hT dX8_mark_38
      · have h := fz_iq c6 h
        refine lv_bipush (v := (-2)) C.1 C.2.1 dX8_mark_21 (by decide) ?_
        cases h
        exact fz_reti C hr hlk hT dX8_mark_23
  · have h := fz_iq (not_not_intro c4) h
    refine lv_iconst (v := (-1)) C.1 C.2.1 dX8_mark_8 (by decide) ?_
    cases h
    exact fz_reti C hr hlk hT dX8_mark_9
set_option maxRecDepth 100000 in
theorem c_X8_mark (l : Launch) (G : fz_G)  (a0 : Int32) (a1 : Int32) (M : fz_M) (r : Int32) (M9 : fz_M) (h : f_X8_mark a0 a1 M = some (r, M9)) : fz_Me l yX8_mark cX8_mark 3 (some .int) 1 22 G fz_shC fz_KC [.ref (G.1 0), .int a0, .int a1] M (fz_Qi G fz_shC fz_KC r M9) := by
  refine fz_body (by decide) (Nat.le_of_ble_eq_true rfl) ?_
  intro p e s m args below meth c H locs ls C hr hlk hF hT hl
  have C : CallFix p m c cX8_mark 3 s args wsL_law RX8 := C
  have hl : lv_has ls 3 [(0, .ref (G.1 0)), (1, .int a0), (2, .int a1)] := hl
  exact b_X8_mark_0 C hr hlk hF hT (lv_sub hl [0, 1, 2] rfl) h
set_option maxHeartbeats 4000000 in
set_option maxRecDepth 100000 in
theorem b_X8_unmark_0 {p : Program} {l : Launch} {e : Env} {s : State} {m : MethodId} {args : Array Value} {below : List Frame} {meth : Method} {c : Code} {G : fz_G}      {M : fz_M} {H : Heap} {locs : List Loc} {ls : Array Slot} {r : Int32} {M9 : fz_M} (C : CallFix p m c cX8_unmark 2 s args wsL_law RX8) (hr : meth.sig.returnType = (some .int)) (hlk : meth.locks = false) (hF : fz_F G fz_KC s)  (hT : fz_T G fz_shC fz_KC s M H locs) (hl : lv_has ls 2 [(0, .ref (G.1 0))]) (h : f_X8_unmark M = some (r, M9)) : W p l e (fz_rm 0 0) s m args below meth c H locs 0 0 (MQ below (fz_Qi G fz_shC fz_KC r M9) args s 0 0 (fz_Fr G fz_KC)) (F0 m 0 ls []) := by
  refine lv_aload_n C.1 C.2.1 dX8_unmark_0 rfl (lv_at hl 0 rfl) ?_
  refine fz_getr C hF hT fz_c0 (j := 3) rfl fl_X8_33 dX8_unmark_1 ?_
  refine fz_geti C hF hT fz_c7 (j := 2) rfl fl_X8_117 dX8_unmark_4 ?_
  obtain ⟨x1, ex1, h⟩ := fz_bd_s h
  refine fz_nmi ex1 ?_
  refine lv_istore_n (lv' := [(1, .int x1), (0, .ref (G.1 0))]) C.1 C.2.1 dX8_unmark_7 rfl hl (by decide) rfl (fun ls hl => ?_)
  refine lv_aload_n C.1 C.2.1 dX8_unmark_8 rfl (lv_at hl 1 rfl) ?_
  refine fz_getr C hF hT fz_c0 (j := 3) rfl fl_X8_33 dX8_unmark_9 ?_
  refine lv_iconst (v := 0) C.1 C.2.1 dX8_unmark_12 (by decide) ?_
  obtain ⟨M2, eM2, h⟩ := fz_bd_s h
  refine fz_puti C hF hT fz_c7 (j := 2) rfl fw_X8_117 dX8_unmark_13 (fun H locs hT => ?_)
  rw [← eM2] at hT
  refine lv_iload_n C.1 C.2.1 dX8_unmark_16 rfl (lv_at hl 0 rfl) ?_
  cases h
  exact fz_reti C hr hlk hT dX8_unmark_17
set_option maxRecDepth 100000 in
theorem c_X8_unmark (l : Launch) (G : fz_G)   (M : fz_M) (r : Int32) (M9 : fz_M) (h : f_X8_unmark M = some (r, M9)) : fz_Me l yX8_unmark cX8_unmark 2 (some .int) 0 0 G fz_shC fz_KC [.ref (G.1 0)] M (fz_Qi G fz_shC fz_KC r M9) := by
  refine fz_body (by decide) (Nat.le_of_ble_eq_true rfl) ?_
  intro p e s m args below meth c H locs ls C hr hlk hF hT hl
  have C : CallFix p m c cX8_unmark 2 s args wsL_law RX8 := C
  have hl : lv_has ls 2 [(0, .ref (G.1 0))] := hl
  exact b_X8_unmark_0 C hr hlk hF hT (lv_sub hl [0] rfl) h
set_option maxHeartbeats 4000000 in
set_option maxRecDepth 100000 in
theorem b_X8_areSprings_0 {p : Program} {l : Launch} {e : Env} {s : State} {m : MethodId} {args : Array Value} {below : List Frame} {meth : Method} {c : Code} {G : fz_G}     {v0 : Int32} {M : fz_M} {H : Heap} {locs : List Loc} {ls : Array Slot} {r : Int32} (C : CallFix p m c cX8_areSprings 1 s args wsL_law RX8) (hr : meth.sig.returnType = (some .boolean)) (hlk : meth.locks = false) (hF : fz_F G fz_KC s)  (hT : fz_T G fz_shC fz_KC s M H locs) (hl : lv_has ls 1 [(0, .int v0)]) (h : f_X8_areSprings v0 M = some r) : W p l e (fz_rm 0 0) s m args below meth c H locs 0 0 (MQ below (fz_Qi G fz_shC fz_KC r M) args s 0 0 (fz_Fr G fz_KC)) (F0 m 0 ls []) := by
  refine lv_iload_n C.1 C.2.1 dX8_areSprings_0 rfl (lv_at hl 0 rfl) ?_
  refine lv_if_lt (tgt := 14) C.1 C.2.1 dX8_areSprings_1 (by decide) (fun c1 => ?_) (fun c1 => ?_)
  · have h := fz_ip c1 h
    refine lv_iconst (v := 0) C.1 C.2.1 dX8_areSprings_14 (by decide) ?_
    cases h
    exact fz_retz C hr hlk rfl hT dX8_areSprings_15
  · have h := fz_iq c1 h
    refine lv_iload_n C.1 C.2.1 dX8_areSprings_4 rfl (lv_at hl 0 rfl) ?_
    refine lv_bipush (v := 9) C.1 C.2.1 dX8_areSprings_5 (by decide) ?_
    refine lv_icmp_gt (tgt := 14) C.1 C.2.1 dX8_areSprings_7 (by decide) (fun c2 => ?_) (fun c2 => ?_)
    · have h := fz_ip c2 h
      refine lv_iconst (v := 0) C.1 C.2.1 dX8_areSprings_14 (by decide) ?_
      cases h
      exact fz_retz C hr hlk rfl hT dX8_areSprings_15
    · have h := fz_iq c2 h
      refine lv_iconst (v := 1) C.1 C.2.1 dX8_areSprings_10 (by decide) ?_
      refine lv_goto (tgt := 15) C.1 C.2.1 dX8_areSprings_11 (by decide) ?_
      cases h
      exact fz_retz C hr hlk rfl hT dX8_areSprings_15
set_option maxRecDepth 100000 in
theorem c_X8_areSprings (l : Launch) (G : fz_G)  (a0 : Int32) (M : fz_M) (r : Int32) (h : f_X8_areSprings a0 M = some r) : fz_Me l yX8_areSprings cX8_areSprings 1 (some .boolean) 0 0 G fz_shC fz_KC [.int a0] M (fz_Qi G fz_shC fz_KC r M) := by
  refine fz_body (by decide) (Nat.le_of_ble_eq_true rfl) ?_
  intro p e s m args below meth c H locs ls C hr hlk hF hT hl
  have C : CallFix p m c cX8_areSprings 1 s args wsL_law RX8 := C
  have hl : lv_has ls 1 [(0, .int a0)] := hl
  exact b_X8_areSprings_0 C hr hlk hF hT (lv_sub hl [0] rfl) h
set_option maxHeartbeats 4000000 in
set_option maxRecDepth 100000 in
theorem b_X8_spreadRows_10_l {p : Program} {l : Launch} {e : Env} {s : State} {m : MethodId} {args : Array Value} {below : List Frame} {meth : Method} {c : Code} {G : fz_G}     {v1 : Int32}  {M9 : fz_M} (C : CallFix p m c cX8_spreadRows 4 s args wsL_law RX8) (hr : meth.sig.returnType = none) (hlk : meth.locks = false) (hF : fz_F G fz_KC s)  : ∀ (n : Nat) (v3 : Int32) (M : fz_M) (H : Heap) (locs : List Loc) (ls : Array Slot), fz_T G fz_shC fz_KC s M H locs → lv_has ls 4 [(0, .ref (G.1 0)), (1, .int v1), (3, .int v3)] → fz_lp (fun ag z => f_X8_spreadRows_10_s ag v1 z.1 z.2) n (v3, M) = some M9 → W p l e (fz_rm 2 46) s m args below meth c H locs 0 0 (MQ below (fz_Qv G fz_shC fz_KC M9) args s 0 0 (fz_Fr G fz_KC)) (F0 m 10 ls []) := by
  intro n
  induction n with
  | zero =>
    intro v3 M H locs ls hT hl h
    cases h
  | succ n ih =>
    intro v3 M H locs ls hT hl h
    have h : f_X8_spreadRows_10_s (fz_lp (fun ag z => f_X8_spreadRows_10_s ag v1 z.1 z.2) n) v1 v3 M = some M9 := h
    have hag10 := ih
    generalize fz_lp (fun ag z => f_X8_spreadRows_10_s ag v1 z.1 z.2) n = ag10 at h hag10
    refine lv_iload_n C.1 C.2.1 dX8_spreadRows_10 rfl (lv_at hl 2 rfl) ?_
    refine lv_iload_n C.1 C.2.1 dX8_spreadRows_11 rfl (lv_at hl 1 rfl) ?_
    refine lv_icmp_gt (tgt := 44) C.1 C.2.1 dX8_spreadRows_12 (by decide) (fun c1 => ?_) (fun c1 => ?_)
    · have h := fz_ip c1 h
      cases h
      exact fz_retv C hr hlk hT dX8_spreadRows_44
    · have h := fz_iq c1 h
      refine lv_aload_n C.1 C.2.1 dX8_spreadRows_15 rfl (lv_at hl 0 rfl) ?_
      refine fz_getr C hF hT fz_c0 (j := 5) rfl fl_X8_47 dX8_spreadRows_16 ?_
      refine lv_aload_n C.1 C.2.1 dX8_spreadRows_19 rfl (lv_at hl 0 rfl) ?_
      refine fz_getd C hF hT fz_c0 (j := 9) rfl fl_X8_69 dX8_spreadRows_20 ?_
      obtain ⟨y2, ey2, h⟩ := fz_bd_s h
      rw [← ey2]
      obtain ⟨g3, h⟩ := fz_gd_s h
      obtain ⟨M5, w6, h⟩ := fz_b1_s h
      refine fz_cv hT (fz_runV (np := 1) (rest := []) C hF hT (c_X5_drawSpring l G y2 g3 M M5 w6) fz_c15 (T := TX5) (N := 2) rfl cl_X8_278 rfl hl.1 rfl (Nat.le_of_ble_eq_true rfl) ⟨Nat.le_of_ble_eq_true rfl, Nat.le_of_ble_eq_true rfl, Nat.zero_le _, Nat.zero_le _⟩ dX8_spreadRows_23) (fun H locs hT => ?_)
      refine lv_aload_n C.1 C.2.1 dX8_spreadRows_26 rfl (lv_at hl 0 rfl) ?_
      refine fz_getr C hF hT fz_c0 (j := 5) rfl fl_X8_47 dX8_spreadRows_27 ?_
      refine lv_aload_n C.1 C.2.1 dX8_spreadRows_30 rfl (lv_at hl 0 rfl) ?_
      refine fz_getr C hF hT fz_c0 (j := 3) rfl fl_X8_33 dX8_spreadRows_31 ?_
      refine lv_iload_n C.1 C.2.1 dX8_spreadRows_34 rfl (lv_at hl 2 rfl) ?_
      obtain ⟨M8, w9, h⟩ := fz_b1_s h
      refine fz_cv hT (fz_runV (np := 2) (rest := []) C hF hT (c_X5_holdTo l G v3 M5 M8 w9) fz_c15 (T := TX5) (N := 2) rfl cl_X8_281 rfl hl.1 rfl (Nat.le_of_ble_eq_true rfl) ⟨Nat.le_of_ble_eq_true rfl, Nat.le_of_ble_eq_true rfl, Nat.zero_le _, Nat.zero_le _⟩ dX8_spreadRows_35) (fun H locs hT => ?_)
      refine lv_iinc (v := (v3 + 1)) (lv' := [(3, .int (v3 + 1)), (0, .ref (G.1 0)), (1, .int v1)]) C.1 C.2.1 dX8_spreadRows_38 hl (k := 2) rfl rfl (by decide) rfl (fun ls hl => ?_)
      refine lv_goto (tgt := 10) C.1 C.2.1 dX8_spreadRows_41 (by decide) ?_
      exact hag10 (v3 + 1) M8 _ _ _ hT (lv_sub hl [1, 2, 0] rfl) h
set_option maxHeartbeats 4000000 in
set_option maxRecDepth 100000 in
theorem b_X8_spreadRows_10 {p : Program} {l : Launch} {e : Env} {s : State} {m : MethodId} {args : Array Value} {below : List Frame} {meth : Method} {c : Code} {G : fz_G}     {v1 : Int32} {v3 : Int32} {M : fz_M} {H : Heap} {locs : List Loc} {ls : Array Slot} {M9 : fz_M} (C : CallFix p m c cX8_spreadRows 4 s args wsL_law RX8) (hr : meth.sig.returnType = none) (hlk : meth.locks = false) (hF : fz_F G fz_KC s)  (hT : fz_T G fz_shC fz_KC s M H locs) (hl : lv_has ls 4 [(0, .ref (G.1 0)), (1, .int v1), (3, .int v3)]) (h : f_X8_spreadRows_10 v1 v3 M = some M9) : W p l e (fz_rm 2 46) s m args below meth c H locs 0 0 (MQ below (fz_Qv G fz_shC fz_KC M9) args s 0 0 (fz_Fr G fz_KC)) (F0 m 10 ls []) :=
  b_X8_spreadRows_10_l C hr hlk hF fz_fuel v3 M H locs ls hT hl h
set_option maxHeartbeats 4000000 in
set_option maxRecDepth 100000 in
theorem b_X8_spreadRows_0 {p : Program} {l : Launch} {e : Env} {s : State} {m : MethodId} {args : Array Value} {below : List Frame} {meth : Method} {c : Code} {G : fz_G}     {v1 : Int32} {v2 : Int32} {M : fz_M} {H : Heap} {locs : List Loc} {ls : Array Slot} {M9 : fz_M} (C : CallFix p m c cX8_spreadRows 4 s args wsL_law RX8) (hr : meth.sig.returnType = none) (hlk : meth.locks = false) (hF : fz_F G fz_KC s)  (hT : fz_T G fz_shC fz_KC s M H locs) (hl : lv_has ls 4 [(0, .ref (G.1 0)), (1, .int v1), (2, .int v2)]) (h : f_X8_spreadRows v1 v2 M = some M9) : W p l e (fz_rm 2 46) s m args below meth c H locs 0 0 (MQ below (fz_Qv G fz_shC fz_KC M9) args s 0 0 (fz_Fr G fz_KC)) (F0 m 0 ls []) := by
  refine lv_aload_n C.1 C.2.1 dX8_spreadRows_0 rfl (lv_at hl 0 rfl) ?_
  refine fz_getr C hF hT fz_c0 (j := 5) rfl fl_X8_47 dX8_spreadRows_1 ?_
  refine lv_iload_n C.1 C.2.1 dX8_spreadRows_4 rfl (lv_at hl 2 rfl) ?_
  obtain ⟨M2, w3, h⟩ := fz_b1_s h
  refine fz_cv hT (fz_runV (np := 1) (rest := []) C hF hT (c_X5_begin l G v2 M M2 w3) fz_c15 (T := TX5) (N := 2) rfl cl_X8_236 rfl hl.1 rfl (Nat.le_of_ble_eq_true rfl) ⟨Nat.le_of_ble_eq_true rfl, Nat.le_of_ble_eq_true rfl, Nat.zero_le _, Nat.zero_le _⟩ dX8_spreadRows_5) (fun H locs hT => ?_)
  refine lv_iconst (v := 1) C.1 C.2.1 dX8_spreadRows_8 (by decide) ?_
  refine lv_istore_n (lv' := [(3, .int 1), (0, .ref (G.1 0)), (1, .int v1), (2, .int v2)]) C.1 C.2.1 dX8_spreadRows_9 rfl hl (by decide) rfl (fun ls hl => ?_)
  exact b_X8_spreadRows_10 C hr hlk hF hT (lv_sub hl [1, 2, 0] rfl) h
set_option maxRecDepth 100000 in
theorem c_X8_spreadRows (l : Launch) (G : fz_G)  (a0 : Int32) (a1 : Int32) (M : fz_M) (M9 : fz_M) (h : f_X8_spreadRows a0 a1 M = some M9) : fz_Me l yX8_spreadRows cX8_spreadRows 4 none 2 46 G fz_shC fz_KC [.ref (G.1 0), .int a0, .int a1] M (fz_Qv G fz_shC fz_KC M9) := by
  refine fz_body (by decide) (Nat.le_of_ble_eq_true rfl) ?_
  intro p e s m args below meth c H locs ls C hr hlk hF hT hl
  have C : CallFix p m c cX8_spreadRows 4 s args wsL_law RX8 := C
  have hl : lv_has ls 4 [(0, .ref (G.1 0)), (1, .int a0), (2, .int a1)] := hl
  exact b_X8_spreadRows_0 C hr hlk hF hT (lv_sub hl [0, 1, 2] rfl) h
set_option maxHeartbeats 4000000 in
set_option maxRecDepth 100000 in
theorem b_X8_rows_34_l {p : Program} {l : Launch} {e : Env} {s : State} {m : MethodId} {args : Array Value} {below : List Frame} {meth : Method} {c : Code} {G : fz_G}      {M : fz_M} {r : Int64} {M9 : fz_M} (C : CallFix p m c cX8_rows 6 s args wsL_law RX8) (hr : meth.sig.returnType = (some .long)) (hlk : meth.locks = false) (hF : fz_F G fz_KC s)  : ∀ (n : Nat) (v3 : Int64) (v5 : Int32) (H : Heap) (locs : List Loc) (ls : Array Slot), fz_T G fz_shC fz_KC s M H locs → lv_has ls 6 [(0, .ref (G.1 0)), (3, .long v3), (5, .int v5)] → fz_lp (fun ag z => f_X8_rows_34_s ag z.1 z.2 M) n (v3, v5) = some (r, M9) → W p l e (fz_rm 3 69) s m args below meth c H locs 0 0 (MQ below (fz_Ql G fz_shC fz_KC r M9) args s 0 0 (fz_Fr G fz_KC)) (F0 m 34 ls []) := by
  intro n
  induction n with
  | zero =>
    intro v3 v5 H locs ls hT hl h
    cases h
  | succ n ih =>
    intro v3 v5 H locs ls hT hl h
    have h : f_X8_rows_34_s (fz_lp (fun ag z => f_X8_rows_34_s ag z.1 z.2 M) n) v3 v5 M = some (r, M9) := h
    have hag34 := ih
    generalize fz_lp (fun ag z => f_X8_rows_34_s ag z.1 z.2 M) n = ag34 at h hag34
    refine lv_iload C.1 C.2.1 dX8_rows_34 (lv_at hl 2 rfl) ?_
    refine lv_aload_n C.1 C.2.1 dX8_rows_36 rfl (lv_at hl 0 rfl) ?_
    refine fz_getd C hF hT fz_c0 (j := 9) rfl fl_X8_69 dX8_rows_37 ?_
    obtain ⟨y1, ey1, h⟩ := fz_bd_s h
    rw [← ey1]
    obtain ⟨g2, h⟩ := fz_gd_s h
    refine fz_geti C hF hT (fz_pl g2) (j := 0) rfl fl_X8_95 dX8_rows_40 ?_
    refine lv_icmp_ge (tgt := 65) C.1 C.2.1 dX8_rows_43 (by decide) (fun c3 => ?_) (fun c3 => ?_)
    · have h := fz_ip c3 h
      refine lv_lload_n C.1 C.2.1 dX8_rows_65 rfl (lv_at hl 1 rfl) ?_
      cases h
      exact fz_retl C hr hlk hT dX8_rows_66
    · have h := fz_iq c3 h
      refine lv_lload_n C.1 C.2.1 dX8_rows_46 rfl (lv_at hl 1 rfl) ?_
      refine lv_aload_n C.1 C.2.1 dX8_rows_47 rfl (lv_at hl 0 rfl) ?_
      refine fz_getr C hF hT fz_c0 (j := 5) rfl fl_X8_47 dX8_rows_48 ?_
      refine fz_getd C hF hT fz_c15 (j := 0) rfl fl_X8_245 dX8_rows_51 ?_
      obtain ⟨y4, ey4, h⟩ := fz_bd_s h
      rw [← ey4]
      obtain ⟨g5, h⟩ := fz_gd_s h
      refine lv_iload C.1 C.2.1 dX8_rows_54 (lv_at hl 2 rfl) ?_
      obtain ⟨g6, h⟩ := fz_gd_s h
      refine fz_la C hF hT (fz_lg g5) g6 dX8_rows_56 ?_
      refine lv_ladd C.1 C.2.1 dX8_rows_57 ?_
      obtain ⟨x7, ex7, h⟩ := fz_bd_s h
      refine fz_nml ex7 ?_
      refine lv_lstore_n (lv' := [(3, .long x7), (0, .ref (G.1 0)), (5, .int v5)]) C.1 C.2.1 dX8_rows_58 rfl hl (by decide) rfl (fun ls hl => ?_)
      refine lv_iinc (v := (v5 + 1)) (lv' := [(5, .int (v5 + 1)), (3, .long x7), (0, .ref (G.1 0))]) C.1 C.2.1 dX8_rows_59 hl (k := 2) rfl rfl (by decide) rfl (fun ls hl => ?_)
      refine lv_goto (tgt := 34) C.1 C.2.1 dX8_rows_62 (by decide) ?_
      exact hag34 x7 (v5 + 1) _ _ _ hT (lv_sub hl [2, 1, 0] rfl) h
set_option maxHeartbeats 4000000 in
set_option maxRecDepth 100000 in
theorem b_X8_rows_34 {p : Program} {l : Launch} {e : Env} {s : State} {m : MethodId} {args : Array Value} {below : List Frame} {meth : Method} {c : Code} {G : fz_G}     {v3 : Int64} {v5 : Int32} {M : fz_M} {H : Heap} {locs : List Loc} {ls : Array Slot} {r : Int64} {M9 : fz_M} (C : CallFix p m c cX8_rows 6 s args wsL_law RX8) (hr : meth.sig.returnType = (some .long)) (hlk : meth.locks = false) (hF : fz_F G fz_KC s)  (hT : fz_T G fz_shC fz_KC s M H locs) (hl : lv_has ls 6 [(0, .ref (G.1 0)), (3, .long v3), (5, .int v5)]) (h : f_X8_rows_34 v3 v5 M = some (r, M9)) : W p l e (fz_rm 3 69) s m args below meth c H locs 0 0 (MQ below (fz_Ql G fz_shC fz_KC r M9) args s 0 0 (fz_Fr G fz_KC)) (F0 m 34 ls []) :=
  b_X8_rows_34_l C hr hlk hF fz_fuel v3 v5 H locs ls hT hl h
set_option maxHeartbeats 4000000 in
set_option maxRecDepth 100000 in
theorem b_X8_rows_0 {p : Program} {l : Launch} {e : Env} {s : State} {m : MethodId} {args : Array Value} {below : List Frame} {meth : Method} {c : Code} {G : fz_G}     {v1 : Int32} {v2 : Int32} {M : fz_M} {H : Heap} {locs : List Loc} {ls : Array Slot} {r : Int64} {M9 : fz_M} (C : CallFix p m c cX8_rows 6 s args wsL_law RX8) (hr : meth.sig.returnType = (some .long)) (hlk : meth.locks = false) (hF : fz_F G fz_KC s)  (hT : fz_T G fz_shC fz_KC s M H locs) (hl : lv_has ls 6 [(0, .ref (G.1 0)), (1, .int v1), (2, .int v2)]) (h : f_X8_rows v1 v2 M = some (r, M9)) : W p l e (fz_rm 3 69) s m args below meth c H locs 0 0 (MQ below (fz_Ql G fz_shC fz_KC r M9) args s 0 0 (fz_Fr G fz_KC)) (F0 m 0 ls []) := by
  refine lv_aload_n C.1 C.2.1 dX8_rows_0 rfl (lv_at hl 0 rfl) ?_
  refine lv_iload_n C.1 C.2.1 dX8_rows_1 rfl (lv_at hl 2 rfl) ?_
  obtain ⟨r1, w3, h⟩ := fz_b1_s h
  refine fz_ci hT (fz_runV (np := 1) (rest := []) C hF hT (c_X8_isHouse l G v2 M r1 w3) fz_c0 (T := TX8) (N := 11) rfl cl_X8_118 rfl hl.1 rfl (Nat.le_of_ble_eq_true rfl) ⟨Nat.le_of_ble_eq_true rfl, Nat.le_of_ble_eq_true rfl, Nat.zero_le _, Nat.zero_le _⟩ dX8_rows_2) (fun H locs hT => ?_)
  refine lv_if_ne (tgt := 12) C.1 C.2.1 dX8_rows_5 (by decide) (fun c4 => ?_) (fun c4 => ?_)
  · have h := fz_ip c4 h
    refine lv_iload_n C.1 C.2.1 dX8_rows_12 rfl (lv_at hl 1 rfl) ?_
    obtain ⟨r5, w7, h⟩ := fz_b1_s h
    refine fz_ci hT (fz_runS (np := 1) (rest := []) C hF hT (c_X8_areSprings l G v1 M r5 w7) cl_X8_264 rfl hl.1 rfl (Nat.le_of_ble_eq_true rfl) ⟨Nat.le_of_ble_eq_true rfl, Nat.le_of_ble_eq_true rfl, Nat.zero_le _, Nat.zero_le _⟩ dX8_rows_13) (fun H locs hT => ?_)
    refine lv_if_ne (tgt := 23) C.1 C.2.1 dX8_rows_16 (by decide) (fun c8 => ?_) (fun c8 => ?_)
    · have h := fz_ip c8 h
      refine lv_aload_n C.1 C.2.1 dX8_rows_23 rfl (lv_at hl 0 rfl) ?_
      refine lv_iload_n C.1 C.2.1 dX8_rows_24 rfl (lv_at hl 1 rfl) ?_
      refine lv_iload_n C.1 C.2.1 dX8_rows_25 rfl (lv_at hl 2 rfl) ?_
      obtain ⟨M10, w11, h⟩ := fz_b1_s h
      refine fz_cv hT (fz_runV (np := 2) (rest := []) C hF hT (c_X8_spreadRows l G v1 v2 M M10 w11) fz_c0 (T := TX8) (N := 11) rfl cl_X8_267 rfl hl.1 rfl (Nat.le_of_ble_eq_true rfl) ⟨Nat.le_of_ble_eq_true rfl, Nat.le_of_ble_eq_true rfl, Nat.zero_le _, Nat.zero_le _⟩ dX8_rows_26) (fun H locs hT => ?_)
      refine lv_lconst (v := 0) C.1 C.2.1 dX8_rows_29 (by decide) ?_
      refine lv_lstore_n (lv' := [(3, .long 0), (0, .ref (G.1 0)), (1, .int v1), (2, .int v2)]) C.1 C.2.1 dX8_rows_30 rfl hl (by decide) rfl (fun ls hl => ?_)
      refine lv_iconst (v := 0) C.1 C.2.1 dX8_rows_31 (by decide) ?_
      refine lv_istore (lv' := [(5, .int 0), (3, .long 0), (0, .ref (G.1 0)), (1, .int v1), (2, .int v2)]) C.1 C.2.1 dX8_rows_32 hl (by decide) rfl (fun ls hl => ?_)
      exact b_X8_rows_34 C hr hlk hF hT (lv_sub hl [2, 1, 0] rfl) h
    · have h := fz_iq (not_not_intro c8) h
      refine lv_ldc2 (v := (-2)) C.1 C.2.1 C.2.2.2.1 (C.2.2.2.2 _ (fz_q29 _ (List.mem_of_getElem? (i := 1) rfl))) dX8_rows_19 ?_
      cases h
      exact fz_retl C hr hlk hT dX8_rows_22
  · have h := fz_iq (not_not_intro c4) h
    refine lv_ldc2 (v := (-1)) C.1 C.2.1 C.2.2.2.1 (C.2.2.2.2 _ (fz_q29 _ (List.mem_of_getElem? (i := 0) rfl))) dX8_rows_8 ?_
    cases h
    exact fz_retl C hr hlk hT dX8_rows_11
set_option maxRecDepth 100000 in
theorem c_X8_rows (l : Launch) (G : fz_G)  (a0 : Int32) (a1 : Int32) (M : fz_M) (r : Int64) (M9 : fz_M) (h : f_X8_rows a0 a1 M = some (r, M9)) : fz_Me l yX8_rows cX8_rows 6 (some .long) 3 69 G fz_shC fz_KC [.ref (G.1 0), .int a0, .int a1] M (fz_Ql G fz_shC fz_KC r M9) := by
  refine fz_body (by decide) (Nat.le_of_ble_eq_true rfl) ?_
  intro p e s m args below meth c H locs ls C hr hlk hF hT hl
  have C : CallFix p m c cX8_rows 6 s args wsL_law RX8 := C
  have hl : lv_has ls 6 [(0, .ref (G.1 0)), (1, .int a0), (2, .int a1)] := hl
  exact b_X8_rows_0 C hr hlk hF hT (lv_sub hl [0, 1, 2] rfl) h
set_option maxHeartbeats 4000000 in
set_option maxRecDepth 100000 in
theorem b_X8_ends_31_l {p : Program} {l : Launch} {e : Env} {s : State} {m : MethodId} {args : Array Value} {below : List Frame} {meth : Method} {c : Code} {G : fz_G}      {M : fz_M} {r : Int32} {M9 : fz_M} (C : CallFix p m c cX8_ends 5 s args wsL_law RX8) (hr : meth.sig.returnType = (some .int)) (hlk : meth.locks = false) (hF : fz_F G fz_KC s)  : ∀ (n : Nat) (v3 : Int32) (v4 : Int32) (H : Heap) (locs : List Loc) (ls : Array Slot), fz_T G fz_shC fz_KC s M H locs → lv_has ls 5 [(0, .ref (G.1 0)), (3, .int v3), (4, .int v4)] → fz_lp (fun ag z => f_X8_ends_31_s ag z.1 z.2 M) n (v3, v4) = some (r, M9) → W p l e (fz_rm 3 69) s m args below meth c H locs 0 0 (MQ below (fz_Qi G fz_shC fz_KC r M9) args s 0 0 (fz_Fr G fz_KC)) (F0 m 31 ls []) := by
  intro n
  induction n with
  | zero =>
    intro v3 v4 H locs ls hT hl h
    cases h
  | succ n ih =>
    intro v3 v4 H locs ls hT hl h
    have h : f_X8_ends_31_s (fz_lp (fun ag z => f_X8_ends_31_s ag z.1 z.2 M) n) v3 v4 M = some (r, M9) := h
    have hag31 := ih
    generalize fz_lp (fun ag z => f_X8_ends_31_s ag z.1 z.2 M) n = ag31 at h hag31
    refine lv_iload C.1 C.2.1 dX8_ends_31 (lv_at hl 2 rfl) ?_
    refine lv_aload_n C.1 C.2.1 dX8_ends_33 rfl (lv_at hl 0 rfl) ?_
    refine fz_getd C hF hT fz_c0 (j := 9) rfl fl_X8_69 dX8_ends_34 ?_
    obtain ⟨y1, ey1, h⟩ := fz_bd_s h
    rw [← ey1]
    obtain ⟨g2, h⟩ := fz_gd_s h
    refine fz_geti C hF hT (fz_pl g2) (j := 0) rfl fl_X8_95 dX8_ends_37 ?_
    refine lv_icmp_ge (tgt := 71) C.1 C.2.1 dX8_ends_40 (by decide) (fun c3 => ?_) (fun c3 => ?_)
    · have h := fz_ip c3 h
      refine lv_iload_n C.1 C.2.1 dX8_ends_71 rfl (lv_at hl 1 rfl) ?_
      cases h
      exact fz_reti C hr hlk hT dX8_ends_72
    · have h := fz_iq c3 h
      refine lv_aload_n C.1 C.2.1 dX8_ends_43 rfl (lv_at hl 0 rfl) ?_
      refine fz_getr C hF hT fz_c0 (j := 5) rfl fl_X8_47 dX8_ends_44 ?_
      refine fz_getd C hF hT fz_c15 (j := 0) rfl fl_X8_245 dX8_ends_47 ?_
      obtain ⟨y4, ey4, h⟩ := fz_bd_s h
      rw [← ey4]
      obtain ⟨g5, h⟩ := fz_gd_s h
      refine lv_iload C.1 C.2.1 dX8_ends_50 (lv_at hl 2 rfl) ?_
      obtain ⟨g6, h⟩ := fz_gd_s h
      refine fz_la C hF hT (fz_lg g5) g6 dX8_ends_52 ?_
      refine lv_lconst (v := 0) C.1 C.2.1 dX8_ends_53 (by decide) ?_
      refine W.lcmp C.1 C.2.1 dX8_ends_54 ?_
      refine lv_if_le (tgt := 65) C.1 C.2.1 dX8_ends_55 (by decide) (fun c7 => ?_) (fun c7 => ?_)
      · have h := fz_ip c7 h
        refine lv_iinc (v := (v4 + 1)) (lv' := [(4, .int (v4 + 1)), (0, .ref (G.1 0)), (3, .int v3)]) C.1 C.2.1 dX8_ends_65 hl (k := 2) rfl rfl (by decide) rfl (fun ls hl => ?_)
        refine lv_goto (tgt := 31) C.1 C.2.1 dX8_ends_68 (by decide) ?_
        exact hag31 v3 (v4 + 1) _ _ _ hT (lv_sub hl [1, 2, 0] rfl) h
      · have h := fz_iq c7 h
        refine lv_iload_n C.1 C.2.1 dX8_ends_58 rfl (lv_at hl 1 rfl) ?_
        refine lv_iconst (v := 1) C.1 C.2.1 dX8_ends_59 (by decide) ?_
        refine lv_iload C.1 C.2.1 dX8_ends_60 (lv_at hl 2 rfl) ?_
        refine lv_ishl C.1 C.2.1 dX8_ends_62 ?_
        refine lv_ior C.1 C.2.1 dX8_ends_63 ?_
        obtain ⟨x8, ex8, h⟩ := fz_bd_s h
        refine fz_nmi ex8 ?_
        refine lv_istore_n (lv' := [(3, .int x8), (0, .ref (G.1 0)), (4, .int v4)]) C.1 C.2.1 dX8_ends_64 rfl hl (by decide) rfl (fun ls hl => ?_)
        refine lv_iinc (v := (v4 + 1)) (lv' := [(4, .int (v4 + 1)), (3, .int x8), (0, .ref (G.1 0))]) C.1 C.2.1 dX8_ends_65 hl (k := 2) rfl rfl (by decide) rfl (fun ls hl => ?_)
        refine lv_goto (tgt := 31) C.1 C.2.1 dX8_ends_68 (by decide) ?_
        exact hag31 x8 (v4 + 1) _ _ _ hT (lv_sub hl [2, 1, 0] rfl) h
set_option maxHeartbeats 4000000 in
set_option maxRecDepth 100000 in
theorem b_X8_ends_31 {p : Program} {l : Launch} {e : Env} {s : State} {m : MethodId} {args : Array Value} {below : List Frame} {meth : Method} {c : Code} {G : fz_G}     {v3 : Int32} {v4 : Int32} {M : fz_M} {H : Heap} {locs : List Loc} {ls : Array Slot} {r : Int32} {M9 : fz_M} (C : CallFix p m c cX8_ends 5 s args wsL_law RX8) (hr : meth.sig.returnType = (some .int)) (hlk : meth.locks = false) (hF : fz_F G fz_KC s)  (hT : fz_T G fz_shC fz_KC s M H locs) (hl : lv_has ls 5 [(0, .ref (G.1 0)), (3, .int v3), (4, .int v4)]) (h : f_X8_ends_31 v3 v4 M = some (r, M9)) : W p l e (fz_rm 3 69) s m args below meth c H locs 0 0 (MQ below (fz_Qi G fz_shC fz_KC r M9) args s 0 0 (fz_Fr G fz_KC)) (F0 m 31 ls []) :=
  b_X8_ends_31_l C hr hlk hF fz_fuel v3 v4 H locs ls hT hl h
set_option maxHeartbeats 4000000 in
set_option maxRecDepth 100000 in
theorem b_X8_ends_0 {p : Program} {l : Launch} {e : Env} {s : State} {m : MethodId} {args : Array Value} {below : List Frame} {meth : Method} {c : Code} {G : fz_G}     {v1 : Int32} {v2 : Int32} {M : fz_M} {H : Heap} {locs : List Loc} {ls : Array Slot} {r : Int32} {M9 : fz_M} (C : CallFix p m c cX8_ends 5 s args wsL_law RX8) (hr : meth.sig.returnType = (some .int)) (hlk : meth.locks = false) (hF : fz_F G fz_KC s)  (hT : fz_T G fz_shC fz_KC s M H locs) (hl : lv_has ls 5 [(0, .ref (G.1 0)), (1, .int v1), (2, .int v2)]) (h : f_X8_ends v1 v2 M = some (r, M9)) : W p l e (fz_rm 3 69) s m args below meth c H locs 0 0 (MQ below (fz_Qi G fz_shC fz_KC r M9) args s 0 0 (fz_Fr G fz_KC)) (F0 m 0 ls []) := by
  refine lv_aload_n C.1 C.2.1 dX8_ends_0 rfl (lv_at hl 0 rfl) ?_
  refine lv_iload_n C.1 C.2.1 dX8_ends_1 rfl (lv_at hl 2 rfl) ?_
  obtain ⟨r1, w3, h⟩ := fz_b1_s h
  refine fz_ci hT (fz_runV (np := 1) (rest := []) C hF hT (c_X8_isHouse l G v2 M r1 w3) fz_c0 (T := TX8) (N := 11) rfl cl_X8_118 rfl hl.1 rfl (Nat.le_of_ble_eq_true rfl) ⟨Nat.le_of_ble_eq_true rfl, Nat.le_of_ble_eq_true rfl, Nat.zero_le _, Nat.zero_le _⟩ dX8_ends_2) (fun H locs hT => ?_)
  refine lv_if_ne (tgt := 10) C.1 C.2.1 dX8_ends_5 (by decide) (fun c4 => ?_) (fun c4 => ?_)
  · have h := fz_ip c4 h
    refine lv_iload_n C.1 C.2.1 dX8_ends_10 rfl (lv_at hl 1 rfl) ?_
    obtain ⟨r5, w7, h⟩ := fz_b1_s h
    refine fz_ci hT (fz_runS (np := 1) (rest := []) C hF hT (c_X8_areSprings l G v1 M r5 w7) cl_X8_264 rfl hl.1 rfl (Nat.le_of_ble_eq_true rfl) ⟨Nat.le_of_ble_eq_true rfl, Nat.le_of_ble_eq_true rfl, Nat.zero_le _, Nat.zero_le _⟩ dX8_ends_11) (fun H locs hT => ?_)
    refine lv_if_ne (tgt := 20) C.1 C.2.1 dX8_ends_14 (by decide) (fun c8 => ?_) (fun c8 => ?_)
    · have h := fz_ip c8 h
      refine lv_aload_n C.1 C.2.1 dX8_ends_20 rfl (lv_at hl 0 rfl) ?_
      refine lv_iload_n C.1 C.2.1 dX8_ends_21 rfl (lv_at hl 1 rfl) ?_
      refine lv_iload_n C.1 C.2.1 dX8_ends_22 rfl (lv_at hl 2 rfl) ?_
      obtain ⟨M10, w11, h⟩ := fz_b1_s h
      refine fz_cv hT (fz_runV (np := 2) (rest := []) C hF hT (c_X8_spreadRows l G v1 v2 M M10 w11) fz_c0 (T := TX8) (N := 11) rfl cl_X8_267 rfl hl.1 rfl (Nat.le_of_ble_eq_true rfl) ⟨Nat.le_of_ble_eq_true rfl, Nat.le_of_ble_eq_true rfl, Nat.zero_le _, Nat.zero_le _⟩ dX8_ends_23) (fun H locs hT => ?_)
      refine lv_iconst (v := 0) C.1 C.2.1 dX8_ends_26 (by decide) ?_
      refine lv_istore_n (lv' := [(3, .int 0), (0, .ref (G.1 0)), (1, .int v1), (2, .int v2)]) C.1 C.2.1 dX8_ends_27 rfl hl (by decide) rfl (fun ls hl => ?_)
      refine lv_iconst (v := 0) C.1 C.2.1 dX8_ends_28 (by decide) ?_
      refine lv_istore (lv' := [(4, .int 0), (3, .int 0), (0, .ref (G.1 0)), (1, .int v1), (2, .int v2)]) C.1 C.2.1 dX8_ends_29 hl (by decide) rfl (fun ls hl => ?_)
      exact b_X8_ends_31 C hr hlk hF hT (lv_sub hl [2, 1, 0] rfl) h
    · have h := fz_iq (not_not_intro c8) h
      refine lv_bipush (v := (-2)) C.1 C.2.1 dX8_ends_17 (by decide) ?_
      cases h
      exact fz_reti C hr hlk hT dX8_ends_19
  · have h := fz_iq (not_not_intro c4) h
    refine lv_iconst (v := (-1)) C.1 C.2.1 dX8_ends_8 (by decide) ?_
    cases h
    exact fz_reti C hr hlk hT dX8_ends_9
set_option maxRecDepth 100000 in
theorem c_X8_ends (l : Launch) (G : fz_G)  (a0 : Int32) (a1 : Int32) (M : fz_M) (r : Int32) (M9 : fz_M) (h : f_X8_ends a0 a1 M = some (r, M9)) : fz_Me l yX8_ends cX8_ends 5 (some .int) 3 69 G fz_shC fz_KC [.ref (G.1 0), .int a0, .int a1] M (fz_Qi G fz_shC fz_KC r M9) := by
  refine fz_body (by decide) (Nat.le_of_ble_eq_true rfl) ?_
  intro p e s m args below meth c H locs ls C hr hlk hF hT hl
  have C : CallFix p m c cX8_ends 5 s args wsL_law RX8 := C
  have hl : lv_has ls 5 [(0, .ref (G.1 0)), (1, .int a0), (2, .int a1)] := hl
  exact b_X8_ends_0 C hr hlk hF hT (lv_sub hl [0, 1, 2] rfl) h
set_option maxHeartbeats 4000000 in
set_option maxRecDepth 100000 in
theorem b_X8_keep_0 {p : Program} {l : Launch} {e : Env} {s : State} {m : MethodId} {args : Array Value} {below : List Frame} {meth : Method} {c : Code} {G : fz_G}     {v1 : Int32} {M : fz_M} {H : Heap} {locs : List Loc} {ls : Array Slot} {r : Int32} {M9 : fz_M} (C : CallFix p m c cX8_keep 2 s args wsL_law RX8) (hr : meth.sig.returnType = (some .int)) (hlk : meth.locks = false) (hF : fz_F G fz_KC s)  (hT : fz_T G fz_shC fz_KC s M H locs) (hl : lv_has ls 2 [(0, .ref (G.1 0)), (1, .int v1)]) (h : f_X8_keep v1 M = some (r, M9)) : W p l e (fz_rm 3 68) s m args below meth c H locs 0 0 (MQ below (fz_Qi G fz_shC fz_KC r M9) args s 0 0 (fz_Fr G fz_KC)) (F0 m 0 ls []) := by
  refine lv_iload_n C.1 C.2.1 dX8_keep_0 rfl (lv_at hl 1 rfl) ?_
  refine lv_if_lt (tgt := 9) C.1 C.2.1 dX8_keep_1 (by decide) (fun c1 => ?_) (fun c1 => ?_)
  · have h := fz_ip c1 h
    refine lv_iconst (v := (-1)) C.1 C.2.1 dX8_keep_9 (by decide) ?_
    cases h
    exact fz_reti C hr hlk hT dX8_keep_10
  · have h := fz_iq c1 h
    refine lv_iload_n C.1 C.2.1 dX8_keep_4 rfl (lv_at hl 1 rfl) ?_
    refine lv_iconst (v := 2) C.1 C.2.1 dX8_keep_5 (by decide) ?_
    refine lv_icmp_lt (tgt := 11) C.1 C.2.1 dX8_keep_6 (by decide) (fun c2 => ?_) (fun c2 => ?_)
    · have h := fz_ip c2 h
      refine lv_aload_n C.1 C.2.1 dX8_keep_11 rfl (lv_at hl 0 rfl) ?_
      refine fz_getr C hF hT fz_c0 (j := 7) rfl fl_X8_58 dX8_keep_12 ?_
      refine lv_iload_n C.1 C.2.1 dX8_keep_15 rfl (lv_at hl 1 rfl) ?_
      obtain ⟨g3, h⟩ := fz_gd_s h
      refine fz_aa3 C hF hT fz_c18 g3 dX8_keep_16 ?_
      refine lv_aload_n C.1 C.2.1 dX8_keep_17 rfl (lv_at hl 0 rfl) ?_
      refine fz_getr C hF hT fz_c0 (j := 6) rfl fl_X8_54 dX8_keep_18 ?_
      obtain ⟨M5, w6, h⟩ := fz_b1_s h
      refine fz_cv hT (fz_runV (np := 1) (rest := []) C hF hT (c_X6_takeAll l G (53 + 13 * v1.toNatClampNeg) (fz_stk g3) 40 fz_now M M5 w6) (fz_st (fz_stk g3)) (T := TX6) (N := 7) rfl cl_X8_270 rfl hl.1 rfl (Nat.le_of_ble_eq_true rfl) ⟨Nat.le_of_ble_eq_true rfl, Nat.le_of_ble_eq_true rfl, Nat.zero_le _, Nat.zero_le _⟩ dX8_keep_21) (fun H locs hT => ?_)
      refine lv_aload_n C.1 C.2.1 dX8_keep_24 rfl (lv_at hl 0 rfl) ?_
      refine fz_getr C hF hT fz_c0 (j := 8) rfl fl_X8_62 dX8_keep_25 ?_
      refine lv_iload_n C.1 C.2.1 dX8_keep_28 rfl (lv_at hl 1 rfl) ?_
      refine lv_iconst (v := 1) C.1 C.2.1 dX8_keep_29 (by decide) ?_
      obtain ⟨g7, h⟩ := fz_gd_s h
      obtain ⟨M8, eM8, h⟩ := fz_bd_s h
      refine fz_zas C hF hT fz_c19 g7 dX8_keep_30 (fun H locs hT => ?_)
      rw [← eM8] at hT
      refine lv_aload_n C.1 C.2.1 dX8_keep_31 rfl (lv_at hl 0 rfl) ?_
      refine fz_getr C hF hT fz_c0 (j := 6) rfl fl_X8_54 dX8_keep_32 ?_
      refine fz_geti C hF hT (fz_st fz_now) (j := 0) rfl fl_X8_104 dX8_keep_35 ?_
      cases h
      exact fz_reti C hr hlk hT dX8_keep_38
    · have h := fz_iq c2 h
      refine lv_iconst (v := (-1)) C.1 C.2.1 dX8_keep_9 (by decide) ?_
      cases h
      exact fz_reti C hr hlk hT dX8_keep_10
set_option maxRecDepth 100000 in
theorem c_X8_keep (l : Launch) (G : fz_G)  (a0 : Int32) (M : fz_M) (r : Int32) (M9 : fz_M) (h : f_X8_keep a0 M = some (r, M9)) : fz_Me l yX8_keep cX8_keep 2 (some .int) 3 68 G fz_shC fz_KC [.ref (G.1 0), .int a0] M (fz_Qi G fz_shC fz_KC r M9) := by
  refine fz_body (by decide) (Nat.le_of_ble_eq_true rfl) ?_
  intro p e s m args below meth c H locs ls C hr hlk hF hT hl
  have C : CallFix p m c cX8_keep 2 s args wsL_law RX8 := C
  have hl : lv_has ls 2 [(0, .ref (G.1 0)), (1, .int a0)] := hl
  exact b_X8_keep_0 C hr hlk hF hT (lv_sub hl [0, 1] rfl) h
set_option maxHeartbeats 4000000 in
set_option maxRecDepth 100000 in
theorem b_X8_again_0 {p : Program} {l : Launch} {e : Env} {s : State} {m : MethodId} {args : Array Value} {below : List Frame} {meth : Method} {c : Code} {G : fz_G}     {v1 : Int32} {M : fz_M} {H : Heap} {locs : List Loc} {ls : Array Slot} {r : Int32} {M9 : fz_M} (C : CallFix p m c cX8_again 2 s args wsL_law RX8) (hr : meth.sig.returnType = (some .int)) (hlk : meth.locks = false) (hF : fz_F G fz_KC s)  (hT : fz_T G fz_shC fz_KC s M H locs) (hl : lv_has ls 2 [(0, .ref (G.1 0)), (1, .int v1)]) (h : f_X8_again v1 M = some (r, M9)) : W p l e (fz_rm 3 68) s m args below meth c H locs 0 0 (MQ below (fz_Qi G fz_shC fz_KC r M9) args s 0 0 (fz_Fr G fz_KC)) (F0 m 0 ls []) := by
  refine lv_iload_n C.1 C.2.1 dX8_again_0 rfl (lv_at hl 1 rfl) ?_
  refine lv_if_lt (tgt := 9) C.1 C.2.1 dX8_again_1 (by decide) (fun c1 => ?_) (fun c1 => ?_)
  · have h := fz_ip c1 h
    refine lv_iconst (v := (-1)) C.1 C.2.1 dX8_again_9 (by decide) ?_
    cases h
    exact fz_reti C hr hlk hT dX8_again_10
  · have h := fz_iq c1 h
    refine lv_iload_n C.1 C.2.1 dX8_again_4 rfl (lv_at hl 1 rfl) ?_
    refine lv_iconst (v := 2) C.1 C.2.1 dX8_again_5 (by decide) ?_
    refine lv_icmp_lt (tgt := 11) C.1 C.2.1 dX8_again_6 (by decide) (fun c2 => ?_) (fun c2 => ?_)
    · have h := fz_ip c2 h
      refine lv_aload_n C.1 C.2.1 dX8_again_11 rfl (lv_at hl 0 rfl) ?_
      refine fz_getr C hF hT fz_c0 (j := 8) rfl fl_X8_62 dX8_again_12 ?_
      refine lv_iload_n C.1 C.2.1 dX8_again_15 rfl (lv_at hl 1 rfl) ?_
      obtain ⟨g3, h⟩ := fz_gd_s h
      refine fz_za C hF hT fz_c19 g3 dX8_again_16 ?_
      refine lv_if_ne (tgt := 23) C.1 C.2.1 dX8_again_17 (by decide) (fun c4 => ?_) (fun c4 => ?_)
      · have h := fz_ip c4 h
        refine lv_aload_n C.1 C.2.1 dX8_again_23 rfl (lv_at hl 0 rfl) ?_
        refine fz_getr C hF hT fz_c0 (j := 6) rfl fl_X8_54 dX8_again_24 ?_
        refine lv_aload_n C.1 C.2.1 dX8_again_27 rfl (lv_at hl 0 rfl) ?_
        refine fz_getr C hF hT fz_c0 (j := 7) rfl fl_X8_58 dX8_again_28 ?_
        refine lv_iload_n C.1 C.2.1 dX8_again_31 rfl (lv_at hl 1 rfl) ?_
        obtain ⟨g5, h⟩ := fz_gd_s h
        refine fz_aa3 C hF hT fz_c18 g5 dX8_again_32 ?_
        obtain ⟨M7, w8, h⟩ := fz_b1_s h
        refine fz_cv hT (fz_runV (np := 1) (rest := []) C hF hT (c_X6_takeAll l G 40 fz_now (53 + 13 * v1.toNatClampNeg) (fz_stk g5) M M7 w8) (fz_st fz_now) (T := TX6) (N := 7) rfl cl_X8_270 rfl hl.1 rfl (Nat.le_of_ble_eq_true rfl) ⟨Nat.le_of_ble_eq_true rfl, Nat.le_of_ble_eq_true rfl, Nat.zero_le _, Nat.zero_le _⟩ dX8_again_33) (fun H locs hT => ?_)
        refine lv_aload_n C.1 C.2.1 dX8_again_36 rfl (lv_at hl 0 rfl) ?_
        refine fz_getr C hF hT fz_c0 (j := 2) rfl fl_X8_26 dX8_again_37 ?_
        obtain ⟨M10, w11, h⟩ := fz_b1_s h
        refine fz_cv hT (fz_runV (np := 0) (rest := []) C hF hT (c_X0_forgetAll l G M7 M10 w11) fz_c5 (T := TX0) (N := 3) rfl cl_X8_92 rfl hl.1 rfl (Nat.le_of_ble_eq_true rfl) ⟨Nat.le_of_ble_eq_true rfl, Nat.le_of_ble_eq_true rfl, Nat.zero_le _, Nat.zero_le _⟩ dX8_again_40) (fun H locs hT => ?_)
        refine lv_aload_n C.1 C.2.1 dX8_again_43 rfl (lv_at hl 0 rfl) ?_
        refine fz_getr C hF hT fz_c0 (j := 6) rfl fl_X8_54 dX8_again_44 ?_
        refine fz_geti C hF hT (fz_st fz_now) (j := 0) rfl fl_X8_104 dX8_again_47 ?_
        cases h
        exact fz_reti C hr hlk hT dX8_again_50
      · have h := fz_iq (not_not_intro c4) h
        refine lv_bipush (v := (-3)) C.1 C.2.1 dX8_again_20 (by decide) ?_
        cases h
        exact fz_reti C hr hlk hT dX8_again_22
    · have h := fz_iq c2 h
      refine lv_iconst (v := (-1)) C.1 C.2.1 dX8_again_9 (by decide) ?_
      cases h
      exact fz_reti C hr hlk hT dX8_again_10
set_option maxRecDepth 100000 in
theorem c_X8_again (l : Launch) (G : fz_G)  (a0 : Int32) (M : fz_M) (r : Int32) (M9 : fz_M) (h : f_X8_again a0 M = some (r, M9)) : fz_Me l yX8_again cX8_again 2 (some .int) 3 68 G fz_shC fz_KC [.ref (G.1 0), .int a0] M (fz_Qi G fz_shC fz_KC r M9) := by
  refine fz_body (by decide) (Nat.le_of_ble_eq_true rfl) ?_
  intro p e s m args below meth c H locs ls C hr hlk hF hT hl
  have C : CallFix p m c cX8_again 2 s args wsL_law RX8 := C
  have hl : lv_has ls 2 [(0, .ref (G.1 0)), (1, .int a0)] := hl
  exact b_X8_again_0 C hr hlk hF hT (lv_sub hl [0, 1] rfl) h
