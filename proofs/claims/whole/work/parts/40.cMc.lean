set_option maxHeartbeats 4000000 in
set_option maxRecDepth 100000 in
theorem b_X9_takePage_69_l {p : Program} {l : Launch} {e : Env} {s : State} {m : MethodId} {args : Array Value} {below : List Frame} {meth : Method} {c : Code} {G : fz_G} {k0 : Nat} (hk0 : fz_isG k0)    {v2 : Int32}  {M9 : fz_M} (C : CallFix p m c cX9_takePage 4 s args wsL_law RX9) (hr : meth.sig.returnType = none) (hlk : meth.locks = false) (hF : fz_F G fz_KM s)  : ∀ (n : Nat) (v3 : Int32) (M : fz_M) (H : Heap) (locs : List Loc) (ls : Array Slot), fz_T G fz_shM fz_KM s M H locs → lv_has ls 4 [(0, .ref (G.1 0)), (1, .ref (G.1 k0)), (2, .int v2), (3, .int v3)] → fz_lp (fun ag z => f_X9_takePage_69_s k0 ag v2 z.1 z.2) n (v3, M) = some M9 → W p l e (fz_rm 0 0) s m args below meth c H locs 0 0 (MQ below (fz_Qv G fz_shM fz_KM M9) args s 0 0 (fz_Fr G fz_KM)) (F0 m 69 ls []) := by
  intro n
  induction n with
  | zero =>
    intro v3 M H locs ls hT hl h
    cases h
  | succ n ih =>
    intro v3 M H locs ls hT hl h
    have h : f_X9_takePage_69_s k0 (fz_lp (fun ag z => f_X9_takePage_69_s k0 ag v2 z.1 z.2) n) v2 v3 M = some M9 := h
    have hag69 := ih
    generalize fz_lp (fun ag z => f_X9_takePage_69_s k0 ag v2 z.1 z.2) n = ag69 at h hag69
    refine lv_iload_n C.1 C.2.1 dX9_takePage_69 rfl (lv_at hl 3 rfl) ?_
    refine lv_bipush (v := 48) C.1 C.2.1 dX9_takePage_70 (by decide) ?_
    refine lv_icmp_ge (tgt := 95) C.1 C.2.1 dX9_takePage_72 (by decide) (fun c1 => ?_) (fun c1 => ?_)
    · have h := fz_ip c1 h
      refine lv_aload_n C.1 C.2.1 dX9_takePage_95 rfl (lv_at hl 0 rfl) ?_
      refine lv_aload_n C.1 C.2.1 dX9_takePage_96 rfl (lv_at hl 1 rfl) ?_
      refine lv_iload_n C.1 C.2.1 dX9_takePage_97 rfl (lv_at hl 2 rfl) ?_
      refine lv_bipush (v := 72) C.1 C.2.1 dX9_takePage_98 (by decide) ?_
      refine lv_iadd C.1 C.2.1 dX9_takePage_100 ?_
      obtain ⟨g2, h⟩ := fz_gd_s h
      refine fz_ia C hF hT (fz_mp hk0) g2 dX9_takePage_101 ?_
      obtain ⟨M3, eM3, h⟩ := fz_bd_s h
      refine fz_puti C hF hT fz_m0 (j := 21) rfl fw_X9_191 dX9_takePage_102 (fun H locs hT => ?_)
      rw [← eM3] at hT
      cases h
      exact fz_retv C hr hlk hT dX9_takePage_105
    · have h := fz_iq c1 h
      refine lv_aload_n C.1 C.2.1 dX9_takePage_75 rfl (lv_at hl 0 rfl) ?_
      refine fz_getr C hF hT fz_m0 (j := 18) rfl fl_X9_47 dX9_takePage_76 ?_
      refine lv_iload_n C.1 C.2.1 dX9_takePage_79 rfl (lv_at hl 3 rfl) ?_
      refine lv_aload_n C.1 C.2.1 dX9_takePage_80 rfl (lv_at hl 1 rfl) ?_
      refine lv_iload_n C.1 C.2.1 dX9_takePage_81 rfl (lv_at hl 2 rfl) ?_
      refine lv_bipush (v := 24) C.1 C.2.1 dX9_takePage_82 (by decide) ?_
      refine lv_iadd C.1 C.2.1 dX9_takePage_84 ?_
      refine lv_iload_n C.1 C.2.1 dX9_takePage_85 rfl (lv_at hl 3 rfl) ?_
      refine lv_iadd C.1 C.2.1 dX9_takePage_86 ?_
      obtain ⟨g4, h⟩ := fz_gd_s h
      refine fz_ia C hF hT (fz_mp hk0) g4 dX9_takePage_87 ?_
      obtain ⟨g5, h⟩ := fz_gd_s h
      obtain ⟨M6, eM6, h⟩ := fz_bd_s h
      refine fz_ias C hF hT fz_m13 g5 dX9_takePage_88 (fun H locs hT => ?_)
      rw [← eM6] at hT
      refine lv_iinc (v := (v3 + 1)) (lv' := [(3, .int (v3 + 1)), (0, .ref (G.1 0)), (1, .ref (G.1 k0)), (2, .int v2)]) C.1 C.2.1 dX9_takePage_89 hl (k := 3) rfl rfl (by decide) rfl (fun ls hl => ?_)
      refine lv_goto (tgt := 69) C.1 C.2.1 dX9_takePage_92 (by decide) ?_
      exact hag69 (v3 + 1) M6 _ _ _ hT (lv_sub hl [1, 2, 3, 0] rfl) h
set_option maxHeartbeats 4000000 in
set_option maxRecDepth 100000 in
theorem b_X9_takePage_69 {p : Program} {l : Launch} {e : Env} {s : State} {m : MethodId} {args : Array Value} {below : List Frame} {meth : Method} {c : Code} {G : fz_G} {k0 : Nat} (hk0 : fz_isG k0)    {v2 : Int32} {v3 : Int32} {M : fz_M} {H : Heap} {locs : List Loc} {ls : Array Slot} {M9 : fz_M} (C : CallFix p m c cX9_takePage 4 s args wsL_law RX9) (hr : meth.sig.returnType = none) (hlk : meth.locks = false) (hF : fz_F G fz_KM s)  (hT : fz_T G fz_shM fz_KM s M H locs) (hl : lv_has ls 4 [(0, .ref (G.1 0)), (1, .ref (G.1 k0)), (2, .int v2), (3, .int v3)]) (h : f_X9_takePage_69 k0 v2 v3 M = some M9) : W p l e (fz_rm 0 0) s m args below meth c H locs 0 0 (MQ below (fz_Qv G fz_shM fz_KM M9) args s 0 0 (fz_Fr G fz_KM)) (F0 m 69 ls []) :=
  b_X9_takePage_69_l hk0 C hr hlk hF fz_fuel v3 M H locs ls hT hl h
set_option maxHeartbeats 4000000 in
set_option maxRecDepth 100000 in
theorem b_X9_takePage_2_l {p : Program} {l : Launch} {e : Env} {s : State} {m : MethodId} {args : Array Value} {below : List Frame} {meth : Method} {c : Code} {G : fz_G} {k0 : Nat} (hk0 : fz_isG k0)    {v2 : Int32}  {M9 : fz_M} (C : CallFix p m c cX9_takePage 4 s args wsL_law RX9) (hr : meth.sig.returnType = none) (hlk : meth.locks = false) (hF : fz_F G fz_KM s)  : ∀ (n : Nat) (v3 : Int32) (M : fz_M) (H : Heap) (locs : List Loc) (ls : Array Slot), fz_T G fz_shM fz_KM s M H locs → lv_has ls 4 [(0, .ref (G.1 0)), (1, .ref (G.1 k0)), (2, .int v2), (3, .int v3)] → fz_lp (fun ag z => f_X9_takePage_2_s k0 ag v2 z.1 z.2) n (v3, M) = some M9 → W p l e (fz_rm 0 0) s m args below meth c H locs 0 0 (MQ below (fz_Qv G fz_shM fz_KM M9) args s 0 0 (fz_Fr G fz_KM)) (F0 m 2 ls []) := by
  intro n
  induction n with
  | zero =>
    intro v3 M H locs ls hT hl h
    cases h
  | succ n ih =>
    intro v3 M H locs ls hT hl h
    have h : f_X9_takePage_2_s k0 (fz_lp (fun ag z => f_X9_takePage_2_s k0 ag v2 z.1 z.2) n) v2 v3 M = some M9 := h
    have hag2 := ih
    generalize fz_lp (fun ag z => f_X9_takePage_2_s k0 ag v2 z.1 z.2) n = ag2 at h hag2
    refine lv_iload_n C.1 C.2.1 dX9_takePage_2 rfl (lv_at hl 3 rfl) ?_
    refine lv_bipush (v := 6) C.1 C.2.1 dX9_takePage_3 (by decide) ?_
    refine lv_icmp_ge (tgt := 67) C.1 C.2.1 dX9_takePage_5 (by decide) (fun c1 => ?_) (fun c1 => ?_)
    · have h := fz_ip c1 h
      refine lv_iconst (v := 0) C.1 C.2.1 dX9_takePage_67 (by decide) ?_
      refine lv_istore_n (lv' := [(3, .int 0), (0, .ref (G.1 0)), (1, .ref (G.1 k0)), (2, .int v2)]) C.1 C.2.1 dX9_takePage_68 rfl hl (by decide) rfl (fun ls hl => ?_)
      exact b_X9_takePage_69 hk0 C hr hlk hF hT (lv_sub hl [1, 2, 3, 0] rfl) h
    · have h := fz_iq c1 h
      refine lv_aload_n C.1 C.2.1 dX9_takePage_8 rfl (lv_at hl 0 rfl) ?_
      refine fz_getr C hF hT fz_m0 (j := 16) rfl fl_X9_41 dX9_takePage_9 ?_
      refine lv_iload_n C.1 C.2.1 dX9_takePage_12 rfl (lv_at hl 3 rfl) ?_
      refine lv_aload_n C.1 C.2.1 dX9_takePage_13 rfl (lv_at hl 1 rfl) ?_
      refine lv_iload_n C.1 C.2.1 dX9_takePage_14 rfl (lv_at hl 2 rfl) ?_
      refine lv_iload_n C.1 C.2.1 dX9_takePage_15 rfl (lv_at hl 3 rfl) ?_
      refine lv_iadd C.1 C.2.1 dX9_takePage_16 ?_
      obtain ⟨g2, h⟩ := fz_gd_s h
      refine fz_ia C hF hT (fz_mp hk0) g2 dX9_takePage_17 ?_
      obtain ⟨g3, h⟩ := fz_gd_s h
      obtain ⟨M4, eM4, h⟩ := fz_bd_s h
      refine fz_ias C hF hT fz_m11 g3 dX9_takePage_18 (fun H locs hT => ?_)
      rw [← eM4] at hT
      refine lv_aload_n C.1 C.2.1 dX9_takePage_19 rfl (lv_at hl 0 rfl) ?_
      refine fz_getr C hF hT fz_m0 (j := 17) rfl fl_X9_44 dX9_takePage_20 ?_
      refine lv_iload_n C.1 C.2.1 dX9_takePage_23 rfl (lv_at hl 3 rfl) ?_
      refine lv_aload_n C.1 C.2.1 dX9_takePage_24 rfl (lv_at hl 1 rfl) ?_
      refine lv_iload_n C.1 C.2.1 dX9_takePage_25 rfl (lv_at hl 2 rfl) ?_
      refine lv_bipush (v := 6) C.1 C.2.1 dX9_takePage_26 (by decide) ?_
      refine lv_iadd C.1 C.2.1 dX9_takePage_28 ?_
      refine lv_iload_n C.1 C.2.1 dX9_takePage_29 rfl (lv_at hl 3 rfl) ?_
      refine lv_iadd C.1 C.2.1 dX9_takePage_30 ?_
      obtain ⟨g5, h⟩ := fz_gd_s h
      refine fz_ia C hF hT (fz_mp hk0) g5 dX9_takePage_31 ?_
      obtain ⟨g6, h⟩ := fz_gd_s h
      obtain ⟨M7, eM7, h⟩ := fz_bd_s h
      refine fz_ias C hF hT fz_m12 g6 dX9_takePage_32 (fun H locs hT => ?_)
      rw [← eM7] at hT
      refine lv_aload_n C.1 C.2.1 dX9_takePage_33 rfl (lv_at hl 0 rfl) ?_
      refine fz_getr C hF hT fz_m0 (j := 19) rfl fl_X9_50 dX9_takePage_34 ?_
      refine lv_iload_n C.1 C.2.1 dX9_takePage_37 rfl (lv_at hl 3 rfl) ?_
      refine lv_aload_n C.1 C.2.1 dX9_takePage_38 rfl (lv_at hl 1 rfl) ?_
      refine lv_iload_n C.1 C.2.1 dX9_takePage_39 rfl (lv_at hl 2 rfl) ?_
      refine lv_bipush (v := 12) C.1 C.2.1 dX9_takePage_40 (by decide) ?_
      refine lv_iadd C.1 C.2.1 dX9_takePage_42 ?_
      refine lv_iload_n C.1 C.2.1 dX9_takePage_43 rfl (lv_at hl 3 rfl) ?_
      refine lv_iadd C.1 C.2.1 dX9_takePage_44 ?_
      obtain ⟨g8, h⟩ := fz_gd_s h
      refine fz_ia C hF hT (fz_mp hk0) g8 dX9_takePage_45 ?_
      obtain ⟨g9, h⟩ := fz_gd_s h
      obtain ⟨M10, eM10, h⟩ := fz_bd_s h
      refine fz_ias C hF hT fz_m14 g9 dX9_takePage_46 (fun H locs hT => ?_)
      rw [← eM10] at hT
      refine lv_aload_n C.1 C.2.1 dX9_takePage_47 rfl (lv_at hl 0 rfl) ?_
      refine fz_getr C hF hT fz_m0 (j := 20) rfl fl_X9_53 dX9_takePage_48 ?_
      refine lv_iload_n C.1 C.2.1 dX9_takePage_51 rfl (lv_at hl 3 rfl) ?_
      refine lv_aload_n C.1 C.2.1 dX9_takePage_52 rfl (lv_at hl 1 rfl) ?_
      refine lv_iload_n C.1 C.2.1 dX9_takePage_53 rfl (lv_at hl 2 rfl) ?_
      refine lv_bipush (v := 18) C.1 C.2.1 dX9_takePage_54 (by decide) ?_
      refine lv_iadd C.1 C.2.1 dX9_takePage_56 ?_
      refine lv_iload_n C.1 C.2.1 dX9_takePage_57 rfl (lv_at hl 3 rfl) ?_
      refine lv_iadd C.1 C.2.1 dX9_takePage_58 ?_
      obtain ⟨g11, h⟩ := fz_gd_s h
      refine fz_ia C hF hT (fz_mp hk0) g11 dX9_takePage_59 ?_
      obtain ⟨g12, h⟩ := fz_gd_s h
      obtain ⟨M13, eM13, h⟩ := fz_bd_s h
      refine fz_ias C hF hT fz_m15 g12 dX9_takePage_60 (fun H locs hT => ?_)
      rw [← eM13] at hT
      refine lv_iinc (v := (v3 + 1)) (lv' := [(3, .int (v3 + 1)), (0, .ref (G.1 0)), (1, .ref (G.1 k0)), (2, .int v2)]) C.1 C.2.1 dX9_takePage_61 hl (k := 3) rfl rfl (by decide) rfl (fun ls hl => ?_)
      refine lv_goto (tgt := 2) C.1 C.2.1 dX9_takePage_64 (by decide) ?_
      exact hag2 (v3 + 1) M13 _ _ _ hT (lv_sub hl [1, 2, 3, 0] rfl) h
set_option maxHeartbeats 4000000 in
set_option maxRecDepth 100000 in
theorem b_X9_takePage_2 {p : Program} {l : Launch} {e : Env} {s : State} {m : MethodId} {args : Array Value} {below : List Frame} {meth : Method} {c : Code} {G : fz_G} {k0 : Nat} (hk0 : fz_isG k0)    {v2 : Int32} {v3 : Int32} {M : fz_M} {H : Heap} {locs : List Loc} {ls : Array Slot} {M9 : fz_M} (C : CallFix p m c cX9_takePage 4 s args wsL_law RX9) (hr : meth.sig.returnType = none) (hlk : meth.locks = false) (hF : fz_F G fz_KM s)  (hT : fz_T G fz_shM fz_KM s M H locs) (hl : lv_has ls 4 [(0, .ref (G.1 0)), (1, .ref (G.1 k0)), (2, .int v2), (3, .int v3)]) (h : f_X9_takePage_2 k0 v2 v3 M = some M9) : W p l e (fz_rm 0 0) s m args below meth c H locs 0 0 (MQ below (fz_Qv G fz_shM fz_KM M9) args s 0 0 (fz_Fr G fz_KM)) (F0 m 2 ls []) :=
  b_X9_takePage_2_l hk0 C hr hlk hF fz_fuel v3 M H locs ls hT hl h
set_option maxHeartbeats 4000000 in
set_option maxRecDepth 100000 in
theorem b_X9_takePage_0 {p : Program} {l : Launch} {e : Env} {s : State} {m : MethodId} {args : Array Value} {below : List Frame} {meth : Method} {c : Code} {G : fz_G} {k0 : Nat} (hk0 : fz_isG k0)    {v2 : Int32} {M : fz_M} {H : Heap} {locs : List Loc} {ls : Array Slot} {M9 : fz_M} (C : CallFix p m c cX9_takePage 4 s args wsL_law RX9) (hr : meth.sig.returnType = none) (hlk : meth.locks = false) (hF : fz_F G fz_KM s)  (hT : fz_T G fz_shM fz_KM s M H locs) (hl : lv_has ls 4 [(0, .ref (G.1 0)), (1, .ref (G.1 k0)), (2, .int v2)]) (h : f_X9_takePage k0 v2 M = some M9) : W p l e (fz_rm 0 0) s m args below meth c H locs 0 0 (MQ below (fz_Qv G fz_shM fz_KM M9) args s 0 0 (fz_Fr G fz_KM)) (F0 m 0 ls []) := by
  refine lv_iconst (v := 0) C.1 C.2.1 dX9_takePage_0 (by decide) ?_
  refine lv_istore_n (lv' := [(3, .int 0), (0, .ref (G.1 0)), (1, .ref (G.1 k0)), (2, .int v2)]) C.1 C.2.1 dX9_takePage_1 rfl hl (by decide) rfl (fun ls hl => ?_)
  exact b_X9_takePage_2 hk0 C hr hlk hF hT (lv_sub hl [1, 2, 3, 0] rfl) h
set_option maxRecDepth 100000 in
theorem c_X9_takePage (l : Launch) (G : fz_G) (k0 : Nat) (hk0 : fz_isG k0) (a1 : Int32) (M : fz_M) (M9 : fz_M) (h : f_X9_takePage k0 a1 M = some M9) : fz_Me l yX9_takePage cX9_takePage 4 none 0 0 G fz_shM fz_KM [.ref (G.1 0), .ref (G.1 k0), .int a1] M (fz_Qv G fz_shM fz_KM M9) := by
  refine fz_body (by decide) (Nat.le_of_ble_eq_true rfl) ?_
  intro p e s m args below meth c H locs ls C hr hlk hF hT hl
  have C : CallFix p m c cX9_takePage 4 s args wsL_law RX9 := C
  have hl : lv_has ls 4 [(0, .ref (G.1 0)), (1, .ref (G.1 k0)), (2, .int a1)] := hl
  exact b_X9_takePage_0 hk0 C hr hlk hF hT (lv_sub hl [0, 1, 2] rfl) h
set_option maxHeartbeats 4000000 in
set_option maxRecDepth 100000 in
theorem b_X9_note_49 {p : Program} {l : Launch} {e : Env} {s : State} {m : MethodId} {args : Array Value} {below : List Frame} {meth : Method} {c : Code} {G : fz_G}      {M : fz_M} {H : Heap} {locs : List Loc} {ls : Array Slot} {M9 : fz_M} (C : CallFix p m c cX9_note 2 s args wsL_law RX9) (hr : meth.sig.returnType = none) (hlk : meth.locks = false) (hF : fz_F G fz_KM s)  (hT : fz_T G fz_shM fz_KM s M H locs) (hl : lv_has ls 2 [(0, .ref (G.1 0))]) (h : f_X9_note_49 M = some M9) : W p l e (fz_rm 1 23) s m args below meth c H locs 0 0 (MQ below (fz_Qv G fz_shM fz_KM M9) args s 0 0 (fz_Fr G fz_KM)) (F0 m 49 ls []) := by
  refine lv_aload_n C.1 C.2.1 dX9_note_49 rfl (lv_at hl 0 rfl) ?_
  refine lv_aload_n C.1 C.2.1 dX9_note_50 rfl (lv_at hl 0 rfl) ?_
  refine fz_getr C hF hT fz_m0 (j := 34) rfl fl_X9_83 dX9_note_51 ?_
  refine lv_bipush (v := 73) C.1 C.2.1 dX9_note_54 (by decide) ?_
  refine lv_aload_n C.1 C.2.1 dX9_note_56 rfl (lv_at hl 0 rfl) ?_
  refine fz_geti C hF hT fz_m0 (j := 35) rfl fl_X9_194 dX9_note_57 ?_
  refine lv_imul C.1 C.2.1 dX9_note_60 ?_
  obtain ⟨M2, w3, h⟩ := fz_b1_s h
  refine fz_cv hT (fz_runV (np := 2) (rest := []) C hF hT (c_X9_layPage l G 25 (Or.inl rfl) (73 * (fz_f M 0 35)) M M2 w3) fz_m0 (T := TX9) (N := 49) rfl cl_X9_218 rfl hl.1 rfl (Nat.le_of_ble_eq_true rfl) ⟨Nat.le_of_ble_eq_true rfl, Nat.le_of_ble_eq_true rfl, Nat.zero_le _, Nat.zero_le _⟩ dX9_note_61) (fun H locs hT => ?_)
  refine lv_aload_n C.1 C.2.1 dX9_note_64 rfl (lv_at hl 0 rfl) ?_
  refine lv_dup C.1 C.2.1 dX9_note_65 rfl ?_
  refine fz_geti C hF hT fz_m0 (j := 35) rfl fl_X9_194 dX9_note_66 ?_
  refine lv_iconst (v := 1) C.1 C.2.1 dX9_note_69 (by decide) ?_
  refine lv_iadd C.1 C.2.1 dX9_note_70 ?_
  obtain ⟨M4, eM4, h⟩ := fz_bd_s h
  refine fz_puti C hF hT fz_m0 (j := 35) rfl fw_X9_194 dX9_note_71 (fun H locs hT => ?_)
  rw [← eM4] at hT
  cases h
  exact fz_retv C hr hlk hT dX9_note_74
set_option maxHeartbeats 4000000 in
set_option maxRecDepth 100000 in
theorem b_X9_note_11_l {p : Program} {l : Launch} {e : Env} {s : State} {m : MethodId} {args : Array Value} {below : List Frame} {meth : Method} {c : Code} {G : fz_G}       {M9 : fz_M} (C : CallFix p m c cX9_note 2 s args wsL_law RX9) (hr : meth.sig.returnType = none) (hlk : meth.locks = false) (hF : fz_F G fz_KM s)  : ∀ (n : Nat) (v1 : Int32) (M : fz_M) (H : Heap) (locs : List Loc) (ls : Array Slot), fz_T G fz_shM fz_KM s M H locs → lv_has ls 2 [(0, .ref (G.1 0)), (1, .int v1)] → fz_lp (fun ag z => f_X9_note_11_s ag z.1 z.2) n (v1, M) = some M9 → W p l e (fz_rm 1 23) s m args below meth c H locs 0 0 (MQ below (fz_Qv G fz_shM fz_KM M9) args s 0 0 (fz_Fr G fz_KM)) (F0 m 11 ls []) := by
  intro n
  induction n with
  | zero =>
    intro v1 M H locs ls hT hl h
    cases h
  | succ n ih =>
    intro v1 M H locs ls hT hl h
    have h : f_X9_note_11_s (fz_lp (fun ag z => f_X9_note_11_s ag z.1 z.2) n) v1 M = some M9 := h
    have hag11 := ih
    generalize fz_lp (fun ag z => f_X9_note_11_s ag z.1 z.2) n = ag11 at h hag11
    refine lv_iload_n C.1 C.2.1 dX9_note_11 rfl (lv_at hl 1 rfl) ?_
    refine lv_sipush (v := 803) C.1 C.2.1 dX9_note_12 (by decide) ?_
    refine lv_icmp_ge (tgt := 39) C.1 C.2.1 dX9_note_15 (by decide) (fun c1 => ?_) (fun c1 => ?_)
    · have h := fz_ip c1 h
      refine lv_aload_n C.1 C.2.1 dX9_note_39 rfl (lv_at hl 0 rfl) ?_
      refine lv_dup C.1 C.2.1 dX9_note_40 rfl ?_
      refine fz_geti C hF hT fz_m0 (j := 35) rfl fl_X9_194 dX9_note_41 ?_
      refine lv_iconst (v := 1) C.1 C.2.1 dX9_note_44 (by decide) ?_
      refine lv_isub C.1 C.2.1 dX9_note_45 ?_
      obtain ⟨M2, eM2, h⟩ := fz_bd_s h
      refine fz_puti C hF hT fz_m0 (j := 35) rfl fw_X9_194 dX9_note_46 (fun H locs hT => ?_)
      rw [← eM2] at hT
      exact b_X9_note_49 C hr hlk hF hT (lv_sub hl [0] rfl) h
    · have h := fz_iq c1 h
      refine lv_aload_n C.1 C.2.1 dX9_note_18 rfl (lv_at hl 0 rfl) ?_
      refine fz_getr C hF hT fz_m0 (j := 34) rfl fl_X9_83 dX9_note_19 ?_
      refine lv_iload_n C.1 C.2.1 dX9_note_22 rfl (lv_at hl 1 rfl) ?_
      refine lv_aload_n C.1 C.2.1 dX9_note_23 rfl (lv_at hl 0 rfl) ?_
      refine fz_getr C hF hT fz_m0 (j := 34) rfl fl_X9_83 dX9_note_24 ?_
      refine lv_iload_n C.1 C.2.1 dX9_note_27 rfl (lv_at hl 1 rfl) ?_
      refine lv_bipush (v := 73) C.1 C.2.1 dX9_note_28 (by decide) ?_
      refine lv_iadd C.1 C.2.1 dX9_note_30 ?_
      obtain ⟨g3, h⟩ := fz_gd_s h
      refine fz_ia C hF hT fz_m25 g3 dX9_note_31 ?_
      obtain ⟨g4, h⟩ := fz_gd_s h
      obtain ⟨M5, eM5, h⟩ := fz_bd_s h
      refine fz_ias C hF hT fz_m25 g4 dX9_note_32 (fun H locs hT => ?_)
      rw [← eM5] at hT
      refine lv_iinc (v := (v1 + 1)) (lv' := [(1, .int (v1 + 1)), (0, .ref (G.1 0))]) C.1 C.2.1 dX9_note_33 hl (k := 1) rfl rfl (by decide) rfl (fun ls hl => ?_)
      refine lv_goto (tgt := 11) C.1 C.2.1 dX9_note_36 (by decide) ?_
      exact hag11 (v1 + 1) M5 _ _ _ hT (lv_sub hl [1, 0] rfl) h
set_option maxHeartbeats 4000000 in
set_option maxRecDepth 100000 in
theorem b_X9_note_11 {p : Program} {l : Launch} {e : Env} {s : State} {m : MethodId} {args : Array Value} {below : List Frame} {meth : Method} {c : Code} {G : fz_G}     {v1 : Int32} {M : fz_M} {H : Heap} {locs : List Loc} {ls : Array Slot} {M9 : fz_M} (C : CallFix p m c cX9_note 2 s args wsL_law RX9) (hr : meth.sig.returnType = none) (hlk : meth.locks = false) (hF : fz_F G fz_KM s)  (hT : fz_T G fz_shM fz_KM s M H locs) (hl : lv_has ls 2 [(0, .ref (G.1 0)), (1, .int v1)]) (h : f_X9_note_11 v1 M = some M9) : W p l e (fz_rm 1 23) s m args below meth c H locs 0 0 (MQ below (fz_Qv G fz_shM fz_KM M9) args s 0 0 (fz_Fr G fz_KM)) (F0 m 11 ls []) :=
  b_X9_note_11_l C hr hlk hF fz_fuel v1 M H locs ls hT hl h
set_option maxHeartbeats 4000000 in
set_option maxRecDepth 100000 in
theorem b_X9_note_0 {p : Program} {l : Launch} {e : Env} {s : State} {m : MethodId} {args : Array Value} {below : List Frame} {meth : Method} {c : Code} {G : fz_G}      {M : fz_M} {H : Heap} {locs : List Loc} {ls : Array Slot} {M9 : fz_M} (C : CallFix p m c cX9_note 2 s args wsL_law RX9) (hr : meth.sig.returnType = none) (hlk : meth.locks = false) (hF : fz_F G fz_KM s)  (hT : fz_T G fz_shM fz_KM s M H locs) (hl : lv_has ls 2 [(0, .ref (G.1 0))]) (h : f_X9_note M = some M9) : W p l e (fz_rm 1 23) s m args below meth c H locs 0 0 (MQ below (fz_Qv G fz_shM fz_KM M9) args s 0 0 (fz_Fr G fz_KM)) (F0 m 0 ls []) := by
  refine lv_aload_n C.1 C.2.1 dX9_note_0 rfl (lv_at hl 0 rfl) ?_
  refine fz_geti C hF hT fz_m0 (j := 35) rfl fl_X9_194 dX9_note_1 ?_
  refine lv_bipush (v := 12) C.1 C.2.1 dX9_note_4 (by decide) ?_
  refine lv_icmp_ne (tgt := 49) C.1 C.2.1 dX9_note_6 (by decide) (fun c1 => ?_) (fun c1 => ?_)
  · have h := fz_ip c1 h
    exact b_X9_note_49 C hr hlk hF hT (lv_sub hl [0] rfl) h
  · have h := fz_iq (not_not_intro c1) h
    refine lv_iconst (v := 0) C.1 C.2.1 dX9_note_9 (by decide) ?_
    refine lv_istore_n (lv' := [(1, .int 0), (0, .ref (G.1 0))]) C.1 C.2.1 dX9_note_10 rfl hl (by decide) rfl (fun ls hl => ?_)
    exact b_X9_note_11 C hr hlk hF hT (lv_sub hl [1, 0] rfl) h
set_option maxRecDepth 100000 in
theorem c_X9_note (l : Launch) (G : fz_G)   (M : fz_M) (M9 : fz_M) (h : f_X9_note M = some M9) : fz_Me l yX9_note cX9_note 2 none 1 23 G fz_shM fz_KM [.ref (G.1 0)] M (fz_Qv G fz_shM fz_KM M9) := by
  refine fz_body (by decide) (Nat.le_of_ble_eq_true rfl) ?_
  intro p e s m args below meth c H locs ls C hr hlk hF hT hl
  have C : CallFix p m c cX9_note 2 s args wsL_law RX9 := C
  have hl : lv_has ls 2 [(0, .ref (G.1 0))] := hl
  exact b_X9_note_0 C hr hlk hF hT (lv_sub hl [0] rfl) h
set_option maxHeartbeats 4000000 in
set_option maxRecDepth 100000 in
theorem b_X9_hour_36_l {p : Program} {l : Launch} {e : Env} {s : State} {m : MethodId} {args : Array Value} {below : List Frame} {meth : Method} {c : Code} {G : fz_G}     {v2 : Int32}  {r : Int32} {M9 : fz_M} (C : CallFix p m c cX9_hour 4 s args wsL_law RX9) (hr : meth.sig.returnType = (some .int)) (hlk : meth.locks = false) (hF : fz_F G fz_KM s)  : ∀ (n : Nat) (v3 : Int32) (M : fz_M) (H : Heap) (locs : List Loc) (ls : Array Slot), fz_T G fz_shM fz_KM s M H locs → lv_has ls 4 [(0, .ref (G.1 0)), (2, .int v2), (3, .int v3)] → fz_lp (fun ag z => f_X9_hour_36_s ag v2 z.1 z.2) n (v3, M) = some (r, M9) → W p l e (fz_rm 2 51) s m args below meth c H locs 0 0 (MQ below (fz_Qi G fz_shM fz_KM r M9) args s 0 0 (fz_Fr G fz_KM)) (F0 m 36 ls []) := by
  intro n
  induction n with
  | zero =>
    intro v3 M H locs ls hT hl h
    cases h
  | succ n ih =>
    intro v3 M H locs ls hT hl h
    have h : f_X9_hour_36_s (fz_lp (fun ag z => f_X9_hour_36_s ag v2 z.1 z.2) n) v2 v3 M = some (r, M9) := h
    have hag36 := ih
    generalize fz_lp (fun ag z => f_X9_hour_36_s ag v2 z.1 z.2) n = ag36 at h hag36
    refine lv_iload_n C.1 C.2.1 dX9_hour_36 rfl (lv_at hl 2 rfl) ?_
    refine lv_aload_n C.1 C.2.1 dX9_hour_37 rfl (lv_at hl 0 rfl) ?_
    refine fz_geti C hF hT fz_m0 (j := 6) rfl fl_X9_128 dX9_hour_38 ?_
    refine lv_icmp_ge (tgt := 74) C.1 C.2.1 dX9_hour_41 (by decide) (fun c1 => ?_) (fun c1 => ?_)
    · have h := fz_ip c1 h
      refine lv_iload_n C.1 C.2.1 dX9_hour_74 rfl (lv_at hl 1 rfl) ?_
      cases h
      exact fz_reti C hr hlk hT dX9_hour_75
    · have h := fz_iq c1 h
      refine lv_aload_n C.1 C.2.1 dX9_hour_44 rfl (lv_at hl 0 rfl) ?_
      refine fz_getr C hF hT fz_m0 (j := 16) rfl fl_X9_41 dX9_hour_45 ?_
      refine lv_iload_n C.1 C.2.1 dX9_hour_48 rfl (lv_at hl 2 rfl) ?_
      refine lv_aload_n C.1 C.2.1 dX9_hour_49 rfl (lv_at hl 0 rfl) ?_
      refine fz_getr C hF hT fz_m0 (j := 39) rfl fl_X9_95 dX9_hour_50 ?_
      refine lv_iload_n C.1 C.2.1 dX9_hour_53 rfl (lv_at hl 2 rfl) ?_
      obtain ⟨g2, h⟩ := fz_gd_s h
      refine fz_ia C hF hT fz_m29 g2 dX9_hour_54 ?_
      obtain ⟨g3, h⟩ := fz_gd_s h
      obtain ⟨M4, eM4, h⟩ := fz_bd_s h
      refine fz_ias C hF hT fz_m11 g3 dX9_hour_55 (fun H locs hT => ?_)
      rw [← eM4] at hT
      refine lv_aload_n C.1 C.2.1 dX9_hour_56 rfl (lv_at hl 0 rfl) ?_
      refine fz_getr C hF hT fz_m0 (j := 17) rfl fl_X9_44 dX9_hour_57 ?_
      refine lv_iload_n C.1 C.2.1 dX9_hour_60 rfl (lv_at hl 2 rfl) ?_
      refine lv_aload_n C.1 C.2.1 dX9_hour_61 rfl (lv_at hl 0 rfl) ?_
      refine fz_getr C hF hT fz_m0 (j := 40) rfl fl_X9_98 dX9_hour_62 ?_
      refine lv_iload_n C.1 C.2.1 dX9_hour_65 rfl (lv_at hl 2 rfl) ?_
      obtain ⟨g5, h⟩ := fz_gd_s h
      refine fz_ia C hF hT fz_m30 g5 dX9_hour_66 ?_
      obtain ⟨g6, h⟩ := fz_gd_s h
      obtain ⟨M7, eM7, h⟩ := fz_bd_s h
      refine fz_ias C hF hT fz_m12 g6 dX9_hour_67 (fun H locs hT => ?_)
      rw [← eM7] at hT
      refine lv_iinc (v := (v3 + 1)) (lv' := [(3, .int (v3 + 1)), (0, .ref (G.1 0)), (2, .int v2)]) C.1 C.2.1 dX9_hour_68 hl (k := 2) rfl rfl (by decide) rfl (fun ls hl => ?_)
      refine lv_goto (tgt := 36) C.1 C.2.1 dX9_hour_71 (by decide) ?_
      exact hag36 (v3 + 1) M7 _ _ _ hT (lv_sub hl [1, 2, 0] rfl) h
set_option maxHeartbeats 4000000 in
set_option maxRecDepth 100000 in
theorem b_X9_hour_36 {p : Program} {l : Launch} {e : Env} {s : State} {m : MethodId} {args : Array Value} {below : List Frame} {meth : Method} {c : Code} {G : fz_G}     {v2 : Int32} {v3 : Int32} {M : fz_M} {H : Heap} {locs : List Loc} {ls : Array Slot} {r : Int32} {M9 : fz_M} (C : CallFix p m c cX9_hour 4 s args wsL_law RX9) (hr : meth.sig.returnType = (some .int)) (hlk : meth.locks = false) (hF : fz_F G fz_KM s)  (hT : fz_T G fz_shM fz_KM s M H locs) (hl : lv_has ls 4 [(0, .ref (G.1 0)), (2, .int v2), (3, .int v3)]) (h : f_X9_hour_36 v2 v3 M = some (r, M9)) : W p l e (fz_rm 2 51) s m args below meth c H locs 0 0 (MQ below (fz_Qi G fz_shM fz_KM r M9) args s 0 0 (fz_Fr G fz_KM)) (F0 m 36 ls []) :=
  b_X9_hour_36_l C hr hlk hF fz_fuel v3 M H locs ls hT hl h
set_option maxHeartbeats 4000000 in
set_option maxRecDepth 100000 in
theorem b_X9_hour_0 {p : Program} {l : Launch} {e : Env} {s : State} {m : MethodId} {args : Array Value} {below : List Frame} {meth : Method} {c : Code} {G : fz_G}     {v1 : Int32} {M : fz_M} {H : Heap} {locs : List Loc} {ls : Array Slot} {r : Int32} {M9 : fz_M} (C : CallFix p m c cX9_hour 4 s args wsL_law RX9) (hr : meth.sig.returnType = (some .int)) (hlk : meth.locks = false) (hF : fz_F G fz_KM s)  (hT : fz_T G fz_shM fz_KM s M H locs) (hl : lv_has ls 4 [(0, .ref (G.1 0)), (1, .int v1)]) (h : f_X9_hour v1 M = some (r, M9)) : W p l e (fz_rm 2 51) s m args below meth c H locs 0 0 (MQ below (fz_Qi G fz_shM fz_KM r M9) args s 0 0 (fz_Fr G fz_KM)) (F0 m 0 ls []) := by
  refine lv_aload_n C.1 C.2.1 dX9_hour_0 rfl (lv_at hl 0 rfl) ?_
  refine lv_iconst (v := 0) C.1 C.2.1 dX9_hour_1 (by decide) ?_
  obtain ⟨M1, eM1, h⟩ := fz_bd_s h
  refine fz_puti C hF hT fz_m0 (j := 0) rfl fw_X9_117 dX9_hour_2 (fun H locs hT => ?_)
  rw [← eM1] at hT
  refine lv_iload_n C.1 C.2.1 dX9_hour_5 rfl (lv_at hl 1 rfl) ?_
  refine lv_i2l (v := (v1.toInt64)) C.1 C.2.1 dX9_hour_6 rfl ?_
  refine lv_lconst (v := 0) C.1 C.2.1 dX9_hour_7 (by decide) ?_
  refine lv_ldc2 (v := 19) C.1 C.2.1 C.2.2.2.1 (C.2.2.2.2 _ (fz_q20 _ (List.mem_of_getElem? (i := 11) rfl))) dX9_hour_8 ?_
  obtain ⟨r2, w4, h⟩ := fz_b1_s h
  refine fz_ci hT (fz_runS (np := 3) (rest := []) C hF hT (c_X9_in l G (v1.toInt64) 0 19 M1 r2 w4) cl_X9_124 rfl hl.1 rfl (Nat.le_of_ble_eq_true rfl) ⟨Nat.le_of_ble_eq_true rfl, Nat.le_of_ble_eq_true rfl, Nat.zero_le _, Nat.zero_le _⟩ dX9_hour_11) (fun H locs hT => ?_)
  refine lv_if_ne (tgt := 20) C.1 C.2.1 dX9_hour_14 (by decide) (fun c5 => ?_) (fun c5 => ?_)
  · have h := fz_ip c5 h
    refine lv_aload_n C.1 C.2.1 dX9_hour_20 rfl (lv_at hl 0 rfl) ?_
    obtain ⟨M7, w8, h⟩ := fz_b1_s h
    refine fz_cv hT (fz_runV (np := 0) (rest := []) C hF hT (c_X9_note l G M1 M7 w8) fz_m0 (T := TX9) (N := 49) rfl cl_X9_222 rfl hl.1 rfl (Nat.le_of_ble_eq_true rfl) ⟨Nat.le_of_ble_eq_true rfl, Nat.le_of_ble_eq_true rfl, Nat.zero_le _, Nat.zero_le _⟩ dX9_hour_21) (fun H locs hT => ?_)
    refine lv_aload_n C.1 C.2.1 dX9_hour_24 rfl (lv_at hl 0 rfl) ?_
    obtain ⟨M10, w11, h⟩ := fz_b1_s h
    refine fz_cv hT (fz_runV (np := 0) (rest := []) C hF hT (c_X9_begin l G M7 M10 w11) fz_m0 (T := TX9) (N := 49) rfl cl_X9_225 rfl hl.1 rfl (Nat.le_of_ble_eq_true rfl) ⟨Nat.le_of_ble_eq_true rfl, Nat.le_of_ble_eq_true rfl, Nat.zero_le _, Nat.zero_le _⟩ dX9_hour_25) (fun H locs hT => ?_)
    refine lv_aload_n C.1 C.2.1 dX9_hour_28 rfl (lv_at hl 0 rfl) ?_
    refine lv_iload_n C.1 C.2.1 dX9_hour_29 rfl (lv_at hl 1 rfl) ?_
    obtain ⟨r12, M13, w14, h⟩ := fz_b2_s h
    refine fz_ci hT (fz_runV (np := 1) (rest := []) C hF hT (c_X9_goHour l G v1 M10 r12 M13 w14) fz_m0 (T := TX9) (N := 49) rfl cl_X9_215 rfl hl.1 rfl (Nat.le_of_ble_eq_true rfl) ⟨Nat.le_of_ble_eq_true rfl, Nat.le_of_ble_eq_true rfl, Nat.zero_le _, Nat.zero_le _⟩ dX9_hour_30) (fun H locs hT => ?_)
    refine lv_istore_n (lv' := [(2, .int r12), (0, .ref (G.1 0)), (1, .int v1)]) C.1 C.2.1 dX9_hour_33 rfl hl (by decide) rfl (fun ls hl => ?_)
    refine lv_iconst (v := 0) C.1 C.2.1 dX9_hour_34 (by decide) ?_
    refine lv_istore_n (lv' := [(3, .int 0), (2, .int r12), (0, .ref (G.1 0)), (1, .int v1)]) C.1 C.2.1 dX9_hour_35 rfl hl (by decide) rfl (fun ls hl => ?_)
    exact b_X9_hour_36 C hr hlk hF hT (lv_sub hl [2, 1, 0] rfl) h
  · have h := fz_iq (not_not_intro c5) h
    refine lv_bipush (v := (-2)) C.1 C.2.1 dX9_hour_17 (by decide) ?_
    cases h
    exact fz_reti C hr hlk hT dX9_hour_19
set_option maxRecDepth 100000 in
theorem c_X9_hour (l : Launch) (G : fz_G)  (a0 : Int32) (M : fz_M) (r : Int32) (M9 : fz_M) (h : f_X9_hour a0 M = some (r, M9)) : fz_Me l yX9_hour cX9_hour 4 (some .int) 2 51 G fz_shM fz_KM [.ref (G.1 0), .int a0] M (fz_Qi G fz_shM fz_KM r M9) := by
  refine fz_body (by decide) (Nat.le_of_ble_eq_true rfl) ?_
  intro p e s m args below meth c H locs ls C hr hlk hF hT hl
  have C : CallFix p m c cX9_hour 4 s args wsL_law RX9 := C
  have hl : lv_has ls 4 [(0, .ref (G.1 0)), (1, .int a0)] := hl
  exact b_X9_hour_0 C hr hlk hF hT (lv_sub hl [0, 1] rfl) h
set_option maxHeartbeats 4000000 in
set_option maxRecDepth 100000 in
theorem b_X9_jams_0 {p : Program} {l : Launch} {e : Env} {s : State} {m : MethodId} {args : Array Value} {below : List Frame} {meth : Method} {c : Code} {G : fz_G}     {v1 : Int32} {M : fz_M} {H : Heap} {locs : List Loc} {ls : Array Slot} {r : Int32} {M9 : fz_M} (C : CallFix p m c cX9_jams 2 s args wsL_law RX9) (hr : meth.sig.returnType = (some .int)) (hlk : meth.locks = false) (hF : fz_F G fz_KM s)  (hT : fz_T G fz_shM fz_KM s M H locs) (hl : lv_has ls 2 [(0, .ref (G.1 0)), (1, .int v1)]) (h : f_X9_jams v1 M = some (r, M9)) : W p l e (fz_rm 2 51) s m args below meth c H locs 0 0 (MQ below (fz_Qi G fz_shM fz_KM r M9) args s 0 0 (fz_Fr G fz_KM)) (F0 m 0 ls []) := by
  refine lv_aload_n C.1 C.2.1 dX9_jams_0 rfl (lv_at hl 0 rfl) ?_
  refine lv_iconst (v := 0) C.1 C.2.1 dX9_jams_1 (by decide) ?_
  obtain ⟨M1, eM1, h⟩ := fz_bd_s h
  refine fz_puti C hF hT fz_m0 (j := 0) rfl fw_X9_117 dX9_jams_2 (fun H locs hT => ?_)
  rw [← eM1] at hT
  refine lv_iload_n C.1 C.2.1 dX9_jams_5 rfl (lv_at hl 1 rfl) ?_
  refine lv_i2l (v := (v1.toInt64)) C.1 C.2.1 dX9_jams_6 rfl ?_
  refine lv_lconst (v := 0) C.1 C.2.1 dX9_jams_7 (by decide) ?_
  refine lv_ldc2 (v := 19) C.1 C.2.1 C.2.2.2.1 (C.2.2.2.2 _ (fz_q20 _ (List.mem_of_getElem? (i := 11) rfl))) dX9_jams_8 ?_
  obtain ⟨r2, w4, h⟩ := fz_b1_s h
  refine fz_ci hT (fz_runS (np := 3) (rest := []) C hF hT (c_X9_in l G (v1.toInt64) 0 19 M1 r2 w4) cl_X9_124 rfl hl.1 rfl (Nat.le_of_ble_eq_true rfl) ⟨Nat.le_of_ble_eq_true rfl, Nat.le_of_ble_eq_true rfl, Nat.zero_le _, Nat.zero_le _⟩ dX9_jams_11) (fun H locs hT => ?_)
  refine lv_if_ne (tgt := 20) C.1 C.2.1 dX9_jams_14 (by decide) (fun c5 => ?_) (fun c5 => ?_)
  · have h := fz_ip c5 h
    refine lv_aload_n C.1 C.2.1 dX9_jams_20 rfl (lv_at hl 0 rfl) ?_
    obtain ⟨M7, w8, h⟩ := fz_b1_s h
    refine fz_cv hT (fz_runV (np := 0) (rest := []) C hF hT (c_X9_begin l G M1 M7 w8) fz_m0 (T := TX9) (N := 49) rfl cl_X9_225 rfl hl.1 rfl (Nat.le_of_ble_eq_true rfl) ⟨Nat.le_of_ble_eq_true rfl, Nat.le_of_ble_eq_true rfl, Nat.zero_le _, Nat.zero_le _⟩ dX9_jams_21) (fun H locs hT => ?_)
    refine lv_aload_n C.1 C.2.1 dX9_jams_24 rfl (lv_at hl 0 rfl) ?_
    refine lv_iload_n C.1 C.2.1 dX9_jams_25 rfl (lv_at hl 1 rfl) ?_
    obtain ⟨r9, M10, w11, h⟩ := fz_b2_s h
    refine fz_ci hT (fz_runV (np := 1) (rest := []) C hF hT (c_X9_goHour l G v1 M7 r9 M10 w11) fz_m0 (T := TX9) (N := 49) rfl cl_X9_215 rfl hl.1 rfl (Nat.le_of_ble_eq_true rfl) ⟨Nat.le_of_ble_eq_true rfl, Nat.le_of_ble_eq_true rfl, Nat.zero_le _, Nat.zero_le _⟩ dX9_jams_26) (fun H locs hT => ?_)
    refine lv_pop C.1 C.2.1 dX9_jams_29 rfl ?_
    refine lv_aload_n C.1 C.2.1 dX9_jams_30 rfl (lv_at hl 0 rfl) ?_
    refine fz_geti C hF hT fz_m0 (j := 42) rfl fl_X9_209 dX9_jams_31 ?_
    cases h
    exact fz_reti C hr hlk hT dX9_jams_34
  · have h := fz_iq (not_not_intro c5) h
    refine lv_bipush (v := (-2)) C.1 C.2.1 dX9_jams_17 (by decide) ?_
    cases h
    exact fz_reti C hr hlk hT dX9_jams_19
set_option maxRecDepth 100000 in
theorem c_X9_jams (l : Launch) (G : fz_G)  (a0 : Int32) (M : fz_M) (r : Int32) (M9 : fz_M) (h : f_X9_jams a0 M = some (r, M9)) : fz_Me l yX9_jams cX9_jams 2 (some .int) 2 51 G fz_shM fz_KM [.ref (G.1 0), .int a0] M (fz_Qi G fz_shM fz_KM r M9) := by
  refine fz_body (by decide) (Nat.le_of_ble_eq_true rfl) ?_
  intro p e s m args below meth c H locs ls C hr hlk hF hT hl
  have C : CallFix p m c cX9_jams 2 s args wsL_law RX9 := C
  have hl : lv_has ls 2 [(0, .ref (G.1 0)), (1, .int a0)] := hl
  exact b_X9_jams_0 C hr hlk hF hT (lv_sub hl [0, 1] rfl) h
set_option maxHeartbeats 4000000 in
set_option maxRecDepth 100000 in
theorem b_X9_spring_13_l {p : Program} {l : Launch} {e : Env} {s : State} {m : MethodId} {args : Array Value} {below : List Frame} {meth : Method} {c : Code} {G : fz_G}       {r : Int32} {M9 : fz_M} (C : CallFix p m c cX9_spring 3 s args wsL_law RX9) (hr : meth.sig.returnType = (some .int)) (hlk : meth.locks = false) (hF : fz_F G fz_KM s)  : ∀ (n : Nat) (v1 : Int32) (v2 : Int32) (M : fz_M) (H : Heap) (locs : List Loc) (ls : Array Slot), fz_T G fz_shM fz_KM s M H locs → lv_has ls 3 [(0, .ref (G.1 0)), (1, .int v1), (2, .int v2)] → fz_lp (fun ag z => f_X9_spring_13_s ag z.1 z.2.1 z.2.2) n (v1, v2, M) = some (r, M9) → W p l e (fz_rm 2 44) s m args below meth c H locs 0 0 (MQ below (fz_Qi G fz_shM fz_KM r M9) args s 0 0 (fz_Fr G fz_KM)) (F0 m 13 ls []) := by
  intro n
  induction n with
  | zero =>
    intro v1 v2 M H locs ls hT hl h
    cases h
  | succ n ih =>
    intro v1 v2 M H locs ls hT hl h
    have h : f_X9_spring_13_s (fz_lp (fun ag z => f_X9_spring_13_s ag z.1 z.2.1 z.2.2) n) v1 v2 M = some (r, M9) := h
    have hag13 := ih
    generalize fz_lp (fun ag z => f_X9_spring_13_s ag z.1 z.2.1 z.2.2) n = ag13 at h hag13
    refine lv_iload_n C.1 C.2.1 dX9_spring_13 rfl (lv_at hl 2 rfl) ?_
    refine lv_aload_n C.1 C.2.1 dX9_spring_14 rfl (lv_at hl 0 rfl) ?_
    refine fz_geti C hF hT fz_m0 (j := 6) rfl fl_X9_128 dX9_spring_15 ?_
    refine lv_icmp_ge (tgt := 100) C.1 C.2.1 dX9_spring_18 (by decide) (fun c1 => ?_) (fun c1 => ?_)
    · have h := fz_ip c1 h
      refine lv_aload_n C.1 C.2.1 dX9_spring_100 rfl (lv_at hl 0 rfl) ?_
      refine lv_dup C.1 C.2.1 dX9_spring_101 rfl ?_
      refine fz_geti C hF hT fz_m0 (j := 21) rfl fl_X9_191 dX9_spring_102 ?_
      refine lv_iconst (v := 1) C.1 C.2.1 dX9_spring_105 (by decide) ?_
      refine lv_iadd C.1 C.2.1 dX9_spring_106 ?_
      obtain ⟨M2, eM2, h⟩ := fz_bd_s h
      refine fz_puti C hF hT fz_m0 (j := 21) rfl fw_X9_191 dX9_spring_107 (fun H locs hT => ?_)
      rw [← eM2] at hT
      refine lv_iload_n C.1 C.2.1 dX9_spring_110 rfl (lv_at hl 1 rfl) ?_
      cases h
      exact fz_reti C hr hlk hT dX9_spring_111
    · have h := fz_iq c1 h
      refine lv_aload_n C.1 C.2.1 dX9_spring_21 rfl (lv_at hl 0 rfl) ?_
      refine fz_getr C hF hT fz_m0 (j := 20) rfl fl_X9_53 dX9_spring_22 ?_
      refine lv_iload_n C.1 C.2.1 dX9_spring_25 rfl (lv_at hl 2 rfl) ?_
      obtain ⟨g3, h⟩ := fz_gd_s h
      refine fz_ia C hF hT fz_m15 g3 dX9_spring_26 ?_
      refine lv_aload_n C.1 C.2.1 dX9_spring_27 rfl (lv_at hl 0 rfl) ?_
      refine fz_getr C hF hT fz_m0 (j := 16) rfl fl_X9_41 dX9_spring_28 ?_
      refine lv_iload_n C.1 C.2.1 dX9_spring_31 rfl (lv_at hl 2 rfl) ?_
      obtain ⟨g4, h⟩ := fz_gd_s h
      refine fz_ia C hF hT fz_m11 g4 dX9_spring_32 ?_
      refine lv_icmp_eq (tgt := 94) C.1 C.2.1 dX9_spring_33 (by decide) (fun c5 => ?_) (fun c5 => ?_)
      · have h := fz_ip c5 h
        refine lv_iinc (v := (v2 + 1)) (lv' := [(2, .int (v2 + 1)), (0, .ref (G.1 0)), (1, .int v1)]) C.1 C.2.1 dX9_spring_94 hl (k := 2) rfl rfl (by decide) rfl (fun ls hl => ?_)
        refine lv_goto (tgt := 13) C.1 C.2.1 dX9_spring_97 (by decide) ?_
        exact hag13 v1 (v2 + 1) M _ _ _ hT (lv_sub hl [1, 2, 0] rfl) h
      · have h := fz_iq c5 h
        refine lv_iinc (v := (v1 + 1)) (lv' := [(1, .int (v1 + 1)), (0, .ref (G.1 0)), (2, .int v2)]) C.1 C.2.1 dX9_spring_36 hl (k := 1) rfl rfl (by decide) rfl (fun ls hl => ?_)
        refine lv_aload_n C.1 C.2.1 dX9_spring_39 rfl (lv_at hl 1 rfl) ?_
        refine fz_getr C hF hT fz_m0 (j := 20) rfl fl_X9_53 dX9_spring_40 ?_
        refine lv_iload_n C.1 C.2.1 dX9_spring_43 rfl (lv_at hl 2 rfl) ?_
        refine lv_aload_n C.1 C.2.1 dX9_spring_44 rfl (lv_at hl 1 rfl) ?_
        refine fz_getr C hF hT fz_m0 (j := 16) rfl fl_X9_41 dX9_spring_45 ?_
        refine lv_iload_n C.1 C.2.1 dX9_spring_48 rfl (lv_at hl 2 rfl) ?_
        obtain ⟨g6, h⟩ := fz_gd_s h
        refine fz_ia C hF hT fz_m11 g6 dX9_spring_49 ?_
        obtain ⟨g7, h⟩ := fz_gd_s h
        obtain ⟨M8, eM8, h⟩ := fz_bd_s h
        refine fz_ias C hF hT fz_m15 g7 dX9_spring_50 (fun H locs hT => ?_)
        rw [← eM8] at hT
        refine lv_aload_n C.1 C.2.1 dX9_spring_51 rfl (lv_at hl 1 rfl) ?_
        refine fz_getr C hF hT fz_m0 (j := 19) rfl fl_X9_50 dX9_spring_52 ?_
        refine lv_iload_n C.1 C.2.1 dX9_spring_55 rfl (lv_at hl 2 rfl) ?_
        obtain ⟨g9, h⟩ := fz_gd_s h
        refine fz_ia C hF hT fz_m14 g9 dX9_spring_56 ?_
        refine lv_bipush (v := 8) C.1 C.2.1 dX9_spring_57 (by decide) ?_
        refine lv_icmp_ge (tgt := 94) C.1 C.2.1 dX9_spring_59 (by decide) (fun c10 => ?_) (fun c10 => ?_)
        · have h := fz_ip c10 h
          refine lv_iinc (v := (v2 + 1)) (lv' := [(2, .int (v2 + 1)), (1, .int (v1 + 1)), (0, .ref (G.1 0))]) C.1 C.2.1 dX9_spring_94 hl (k := 2) rfl rfl (by decide) rfl (fun ls hl => ?_)
          refine lv_goto (tgt := 13) C.1 C.2.1 dX9_spring_97 (by decide) ?_
          exact hag13 (v1 + 1) (v2 + 1) M8 _ _ _ hT (lv_sub hl [2, 1, 0] rfl) h
        · have h := fz_iq c10 h
          refine lv_aload_n C.1 C.2.1 dX9_spring_62 rfl (lv_at hl 1 rfl) ?_
          refine fz_getr C hF hT fz_m0 (j := 18) rfl fl_X9_47 dX9_spring_63 ?_
          refine lv_bipush (v := 8) C.1 C.2.1 dX9_spring_66 (by decide) ?_
          refine lv_iload_n C.1 C.2.1 dX9_spring_68 rfl (lv_at hl 2 rfl) ?_
          refine lv_imul C.1 C.2.1 dX9_spring_69 ?_
          refine lv_aload_n C.1 C.2.1 dX9_spring_70 rfl (lv_at hl 1 rfl) ?_
          refine fz_getr C hF hT fz_m0 (j := 19) rfl fl_X9_50 dX9_spring_71 ?_
          refine lv_iload_n C.1 C.2.1 dX9_spring_74 rfl (lv_at hl 2 rfl) ?_
          obtain ⟨g11, h⟩ := fz_gd_s h
          refine fz_ia C hF hT fz_m14 g11 dX9_spring_75 ?_
          refine lv_iadd C.1 C.2.1 dX9_spring_76 ?_
          refine lv_aload_n C.1 C.2.1 dX9_spring_77 rfl (lv_at hl 1 rfl) ?_
          refine fz_getr C hF hT fz_m0 (j := 16) rfl fl_X9_41 dX9_spring_78 ?_
          refine lv_iload_n C.1 C.2.1 dX9_spring_81 rfl (lv_at hl 2 rfl) ?_
          obtain ⟨g12, h⟩ := fz_gd_s h
          refine fz_ia C hF hT fz_m11 g12 dX9_spring_82 ?_
          obtain ⟨g13, h⟩ := fz_gd_s h
          obtain ⟨M14, eM14, h⟩ := fz_bd_s h
          refine fz_ias C hF hT fz_m13 g13 dX9_spring_83 (fun H locs hT => ?_)
          rw [← eM14] at hT
          refine lv_aload_n C.1 C.2.1 dX9_spring_84 rfl (lv_at hl 1 rfl) ?_
          refine fz_getr C hF hT fz_m0 (j := 19) rfl fl_X9_50 dX9_spring_85 ?_
          refine lv_iload_n C.1 C.2.1 dX9_spring_88 rfl (lv_at hl 2 rfl) ?_
          refine lv_dup2_11 C.1 C.2.1 dX9_spring_89 rfl rfl ?_
          obtain ⟨g15, h⟩ := fz_gd_s h
          refine fz_ia C hF hT fz_m14 g15 dX9_spring_90 ?_
          refine lv_iconst (v := 1) C.1 C.2.1 dX9_spring_91 (by decide) ?_
          refine lv_iadd C.1 C.2.1 dX9_spring_92 ?_
          obtain ⟨g16, h⟩ := fz_gd_s h
          obtain ⟨M17, eM17, h⟩ := fz_bd_s h
          refine fz_ias C hF hT fz_m14 g16 dX9_spring_93 (fun H locs hT => ?_)
          rw [← eM17] at hT
          refine lv_iinc (v := (v2 + 1)) (lv' := [(2, .int (v2 + 1)), (1, .int (v1 + 1)), (0, .ref (G.1 0))]) C.1 C.2.1 dX9_spring_94 hl (k := 2) rfl rfl (by decide) rfl (fun ls hl => ?_)
          refine lv_goto (tgt := 13) C.1 C.2.1 dX9_spring_97 (by decide) ?_
          exact hag13 (v1 + 1) (v2 + 1) M17 _ _ _ hT (lv_sub hl [2, 1, 0] rfl) h
set_option maxHeartbeats 4000000 in
set_option maxRecDepth 100000 in
theorem b_X9_spring_13 {p : Program} {l : Launch} {e : Env} {s : State} {m : MethodId} {args : Array Value} {below : List Frame} {meth : Method} {c : Code} {G : fz_G}     {v1 : Int32} {v2 : Int32} {M : fz_M} {H : Heap} {locs : List Loc} {ls : Array Slot} {r : Int32} {M9 : fz_M} (C : CallFix p m c cX9_spring 3 s args wsL_law RX9) (hr : meth.sig.returnType = (some .int)) (hlk : meth.locks = false) (hF : fz_F G fz_KM s)  (hT : fz_T G fz_shM fz_KM s M H locs) (hl : lv_has ls 3 [(0, .ref (G.1 0)), (1, .int v1), (2, .int v2)]) (h : f_X9_spring_13 v1 v2 M = some (r, M9)) : W p l e (fz_rm 2 44) s m args below meth c H locs 0 0 (MQ below (fz_Qi G fz_shM fz_KM r M9) args s 0 0 (fz_Fr G fz_KM)) (F0 m 13 ls []) :=
  b_X9_spring_13_l C hr hlk hF fz_fuel v1 v2 M H locs ls hT hl h
set_option maxHeartbeats 4000000 in
set_option maxRecDepth 100000 in
theorem b_X9_spring_0 {p : Program} {l : Launch} {e : Env} {s : State} {m : MethodId} {args : Array Value} {below : List Frame} {meth : Method} {c : Code} {G : fz_G}      {M : fz_M} {H : Heap} {locs : List Loc} {ls : Array Slot} {r : Int32} {M9 : fz_M} (C : CallFix p m c cX9_spring 3 s args wsL_law RX9) (hr : meth.sig.returnType = (some .int)) (hlk : meth.locks = false) (hF : fz_F G fz_KM s)  (hT : fz_T G fz_shM fz_KM s M H locs) (hl : lv_has ls 3 [(0, .ref (G.1 0))]) (h : f_X9_spring M = some (r, M9)) : W p l e (fz_rm 2 44) s m args below meth c H locs 0 0 (MQ below (fz_Qi G fz_shM fz_KM r M9) args s 0 0 (fz_Fr G fz_KM)) (F0 m 0 ls []) := by
  refine lv_aload_n C.1 C.2.1 dX9_spring_0 rfl (lv_at hl 0 rfl) ?_
  refine lv_iconst (v := 0) C.1 C.2.1 dX9_spring_1 (by decide) ?_
  obtain ⟨M1, eM1, h⟩ := fz_bd_s h
  refine fz_puti C hF hT fz_m0 (j := 0) rfl fw_X9_117 dX9_spring_2 (fun H locs hT => ?_)
  rw [← eM1] at hT
  refine lv_aload_n C.1 C.2.1 dX9_spring_5 rfl (lv_at hl 0 rfl) ?_
  obtain ⟨M3, w4, h⟩ := fz_b1_s h
  refine fz_cv hT (fz_runV (np := 0) (rest := []) C hF hT (c_X9_note l G M1 M3 w4) fz_m0 (T := TX9) (N := 49) rfl cl_X9_222 rfl hl.1 rfl (Nat.le_of_ble_eq_true rfl) ⟨Nat.le_of_ble_eq_true rfl, Nat.le_of_ble_eq_true rfl, Nat.zero_le _, Nat.zero_le _⟩ dX9_spring_6) (fun H locs hT => ?_)
  refine lv_iconst (v := 0) C.1 C.2.1 dX9_spring_9 (by decide) ?_
  refine lv_istore_n (lv' := [(1, .int 0), (0, .ref (G.1 0))]) C.1 C.2.1 dX9_spring_10 rfl hl (by decide) rfl (fun ls hl => ?_)
  refine lv_iconst (v := 0) C.1 C.2.1 dX9_spring_11 (by decide) ?_
  refine lv_istore_n (lv' := [(2, .int 0), (1, .int 0), (0, .ref (G.1 0))]) C.1 C.2.1 dX9_spring_12 rfl hl (by decide) rfl (fun ls hl => ?_)
  exact b_X9_spring_13 C hr hlk hF hT (lv_sub hl [2, 1, 0] rfl) h
set_option maxRecDepth 100000 in
theorem c_X9_spring (l : Launch) (G : fz_G)   (M : fz_M) (r : Int32) (M9 : fz_M) (h : f_X9_spring M = some (r, M9)) : fz_Me l yX9_spring cX9_spring 3 (some .int) 2 44 G fz_shM fz_KM [.ref (G.1 0)] M (fz_Qi G fz_shM fz_KM r M9) := by
  refine fz_body (by decide) (Nat.le_of_ble_eq_true rfl) ?_
  intro p e s m args below meth c H locs ls C hr hlk hF hT hl
  have C : CallFix p m c cX9_spring 3 s args wsL_law RX9 := C
  have hl : lv_has ls 3 [(0, .ref (G.1 0))] := hl
  exact b_X9_spring_0 C hr hlk hF hT (lv_sub hl [0] rfl) h
set_option maxHeartbeats 4000000 in
set_option maxRecDepth 100000 in
theorem b_X9_undo_0 {p : Program} {l : Launch} {e : Env} {s : State} {m : MethodId} {args : Array Value} {below : List Frame} {meth : Method} {c : Code} {G : fz_G}      {M : fz_M} {H : Heap} {locs : List Loc} {ls : Array Slot} {r : Int32} {M9 : fz_M} (C : CallFix p m c cX9_undo 1 s args wsL_law RX9) (hr : meth.sig.returnType = (some .int)) (hlk : meth.locks = false) (hF : fz_F G fz_KM s)  (hT : fz_T G fz_shM fz_KM s M H locs) (hl : lv_has ls 1 [(0, .ref (G.1 0))]) (h : f_X9_undo M = some (r, M9)) : W p l e (fz_rm 1 23) s m args below meth c H locs 0 0 (MQ below (fz_Qi G fz_shM fz_KM r M9) args s 0 0 (fz_Fr G fz_KM)) (F0 m 0 ls []) := by
  refine lv_aload_n C.1 C.2.1 dX9_undo_0 rfl (lv_at hl 0 rfl) ?_
  refine lv_iconst (v := 0) C.1 C.2.1 dX9_undo_1 (by decide) ?_
  obtain ⟨M1, eM1, h⟩ := fz_bd_s h
  refine fz_puti C hF hT fz_m0 (j := 0) rfl fw_X9_117 dX9_undo_2 (fun H locs hT => ?_)
  rw [← eM1] at hT
  refine lv_aload_n C.1 C.2.1 dX9_undo_5 rfl (lv_at hl 0 rfl) ?_
  refine fz_geti C hF hT fz_m0 (j := 35) rfl fl_X9_194 dX9_undo_6 ?_
  refine lv_if_ne (tgt := 15) C.1 C.2.1 dX9_undo_9 (by decide) (fun c2 => ?_) (fun c2 => ?_)
  · have h := fz_ip c2 h
    refine lv_aload_n C.1 C.2.1 dX9_undo_15 rfl (lv_at hl 0 rfl) ?_
    refine lv_dup C.1 C.2.1 dX9_undo_16 rfl ?_
    refine fz_geti C hF hT fz_m0 (j := 35) rfl fl_X9_194 dX9_undo_17 ?_
    refine lv_iconst (v := 1) C.1 C.2.1 dX9_undo_20 (by decide) ?_
    refine lv_isub C.1 C.2.1 dX9_undo_21 ?_
    obtain ⟨M3, eM3, h⟩ := fz_bd_s h
    refine fz_puti C hF hT fz_m0 (j := 35) rfl fw_X9_194 dX9_undo_22 (fun H locs hT => ?_)
    rw [← eM3] at hT
    refine lv_aload_n C.1 C.2.1 dX9_undo_25 rfl (lv_at hl 0 rfl) ?_
    refine lv_aload_n C.1 C.2.1 dX9_undo_26 rfl (lv_at hl 0 rfl) ?_
    refine fz_getr C hF hT fz_m0 (j := 34) rfl fl_X9_83 dX9_undo_27 ?_
    refine lv_bipush (v := 73) C.1 C.2.1 dX9_undo_30 (by decide) ?_
    refine lv_aload_n C.1 C.2.1 dX9_undo_32 rfl (lv_at hl 0 rfl) ?_
    refine fz_geti C hF hT fz_m0 (j := 35) rfl fl_X9_194 dX9_undo_33 ?_
    refine lv_imul C.1 C.2.1 dX9_undo_36 ?_
    obtain ⟨M5, w6, h⟩ := fz_b1_s h
    refine fz_cv hT (fz_runV (np := 2) (rest := []) C hF hT (c_X9_takePage l G 25 (Or.inl rfl) (73 * (fz_f M3 0 35)) M3 M5 w6) fz_m0 (T := TX9) (N := 49) rfl cl_X9_228 rfl hl.1 rfl (Nat.le_of_ble_eq_true rfl) ⟨Nat.le_of_ble_eq_true rfl, Nat.le_of_ble_eq_true rfl, Nat.zero_le _, Nat.zero_le _⟩ dX9_undo_37) (fun H locs hT => ?_)
    refine lv_aload_n C.1 C.2.1 dX9_undo_40 rfl (lv_at hl 0 rfl) ?_
    refine fz_geti C hF hT fz_m0 (j := 35) rfl fl_X9_194 dX9_undo_41 ?_
    cases h
    exact fz_reti C hr hlk hT dX9_undo_44
  · have h := fz_iq (not_not_intro c2) h
    refine lv_bipush (v := (-3)) C.1 C.2.1 dX9_undo_12 (by decide) ?_
    cases h
    exact fz_reti C hr hlk hT dX9_undo_14
set_option maxRecDepth 100000 in
theorem c_X9_undo (l : Launch) (G : fz_G)   (M : fz_M) (r : Int32) (M9 : fz_M) (h : f_X9_undo M = some (r, M9)) : fz_Me l yX9_undo cX9_undo 1 (some .int) 1 23 G fz_shM fz_KM [.ref (G.1 0)] M (fz_Qi G fz_shM fz_KM r M9) := by
  refine fz_body (by decide) (Nat.le_of_ble_eq_true rfl) ?_
  intro p e s m args below meth c H locs ls C hr hlk hF hT hl
  have C : CallFix p m c cX9_undo 1 s args wsL_law RX9 := C
  have hl : lv_has ls 1 [(0, .ref (G.1 0))] := hl
  exact b_X9_undo_0 C hr hlk hF hT (lv_sub hl [0] rfl) h
set_option maxHeartbeats 4000000 in
set_option maxRecDepth 100000 in
theorem b_X9_after_0 {p : Program} {l : Launch} {e : Env} {s : State} {m : MethodId} {args : Array Value} {below : List Frame} {meth : Method} {c : Code} {G : fz_G}     {v1 : Int32} {v2 : Int32} {v3 : Int32} {M : fz_M} {H : Heap} {locs : List Loc} {ls : Array Slot} {r : Int32} {M9 : fz_M} (C : CallFix p m c cX9_after 4 s args wsL_law RX9) (hr : meth.sig.returnType = (some .int)) (hlk : meth.locks = false) (hF : fz_F G fz_KM s)  (hT : fz_T G fz_shM fz_KM s M H locs) (hl : lv_has ls 4 [(0, .ref (G.1 0)), (1, .int v1), (2, .int v2), (3, .int v3)]) (h : f_X9_after v1 v2 v3 M = some (r, M9)) : W p l e (fz_rm 3 74) s m args below meth c H locs 0 0 (MQ below (fz_Qi G fz_shM fz_KM r M9) args s 0 0 (fz_Fr G fz_KM)) (F0 m 0 ls []) := by
  refine lv_aload_n C.1 C.2.1 dX9_after_0 rfl (lv_at hl 0 rfl) ?_
  refine lv_iconst (v := 0) C.1 C.2.1 dX9_after_1 (by decide) ?_
  obtain ⟨M1, eM1, h⟩ := fz_bd_s h
  refine fz_puti C hF hT fz_m0 (j := 0) rfl fw_X9_117 dX9_after_2 (fun H locs hT => ?_)
  rw [← eM1] at hT
  refine lv_aload_n C.1 C.2.1 dX9_after_5 rfl (lv_at hl 0 rfl) ?_
  refine lv_iload_n C.1 C.2.1 dX9_after_6 rfl (lv_at hl 1 rfl) ?_
  obtain ⟨r2, w4, h⟩ := fz_b1_s h
  refine fz_ci hT (fz_runV (np := 1) (rest := []) C hF hT (c_X9_noPiece l G v1 M1 r2 w4) fz_m0 (T := TX9) (N := 49) rfl cl_X9_203 rfl hl.1 rfl (Nat.le_of_ble_eq_true rfl) ⟨Nat.le_of_ble_eq_true rfl, Nat.le_of_ble_eq_true rfl, Nat.zero_le _, Nat.zero_le _⟩ dX9_after_7) (fun H locs hT => ?_)
  refine lv_if_eq (tgt := 15) C.1 C.2.1 dX9_after_10 (by decide) (fun c5 => ?_) (fun c5 => ?_)
  · have h := fz_ip c5 h
    refine lv_iload_n C.1 C.2.1 dX9_after_15 rfl (lv_at hl 2 rfl) ?_
    refine lv_iload_n C.1 C.2.1 dX9_after_16 rfl (lv_at hl 3 rfl) ?_
    obtain ⟨r6, w8, h⟩ := fz_b1_s h
    refine fz_ci hT (fz_runS (np := 2) (rest := []) C hF hT (c_X9_noFlood l G v2 v3 M1 r6 w8) cl_X9_231 rfl hl.1 rfl (Nat.le_of_ble_eq_true rfl) ⟨Nat.le_of_ble_eq_true rfl, Nat.le_of_ble_eq_true rfl, Nat.zero_le _, Nat.zero_le _⟩ dX9_after_17) (fun H locs hT => ?_)
    refine lv_if_eq (tgt := 26) C.1 C.2.1 dX9_after_20 (by decide) (fun c9 => ?_) (fun c9 => ?_)
    · have h := fz_ip c9 h
      refine lv_aload_n C.1 C.2.1 dX9_after_26 rfl (lv_at hl 0 rfl) ?_
      obtain ⟨M11, w12, h⟩ := fz_b1_s h
      refine fz_cv hT (fz_runV (np := 0) (rest := []) C hF hT (c_X9_begin l G M1 M11 w12) fz_m0 (T := TX9) (N := 49) rfl cl_X9_225 rfl hl.1 rfl (Nat.le_of_ble_eq_true rfl) ⟨Nat.le_of_ble_eq_true rfl, Nat.le_of_ble_eq_true rfl, Nat.zero_le _, Nat.zero_le _⟩ dX9_after_27) (fun H locs hT => ?_)
      refine lv_aload_n C.1 C.2.1 dX9_after_30 rfl (lv_at hl 0 rfl) ?_
      refine lv_iload_n C.1 C.2.1 dX9_after_31 rfl (lv_at hl 2 rfl) ?_
      refine lv_iload_n C.1 C.2.1 dX9_after_32 rfl (lv_at hl 3 rfl) ?_
      obtain ⟨M14, w15, h⟩ := fz_b1_s h
      refine fz_cv hT (fz_runV (np := 2) (rest := []) C hF hT (c_X9_goHours l G v2 v3 M11 M14 w15) fz_m0 (T := TX9) (N := 49) rfl cl_X9_234 rfl hl.1 rfl (Nat.le_of_ble_eq_true rfl) ⟨Nat.le_of_ble_eq_true rfl, Nat.le_of_ble_eq_true rfl, Nat.zero_le _, Nat.zero_le _⟩ dX9_after_33) (fun H locs hT => ?_)
      refine lv_aload_n C.1 C.2.1 dX9_after_36 rfl (lv_at hl 0 rfl) ?_
      refine fz_getr C hF hT fz_m0 (j := 39) rfl fl_X9_95 dX9_after_37 ?_
      refine lv_iload_n C.1 C.2.1 dX9_after_40 rfl (lv_at hl 1 rfl) ?_
      obtain ⟨g16, h⟩ := fz_gd_s h
      refine fz_ia C hF hT fz_m29 g16 dX9_after_41 ?_
      cases h
      exact fz_reti C hr hlk hT dX9_after_42
    · have h := fz_iq c9 h
      refine lv_bipush (v := (-2)) C.1 C.2.1 dX9_after_23 (by decide) ?_
      cases h
      exact fz_reti C hr hlk hT dX9_after_25
  · have h := fz_iq c5 h
    refine lv_iconst (v := (-1)) C.1 C.2.1 dX9_after_13 (by decide) ?_
    cases h
    exact fz_reti C hr hlk hT dX9_after_14
set_option maxRecDepth 100000 in
theorem c_X9_after (l : Launch) (G : fz_G)  (a0 : Int32) (a1 : Int32) (a2 : Int32) (M : fz_M) (r : Int32) (M9 : fz_M) (h : f_X9_after a0 a1 a2 M = some (r, M9)) : fz_Me l yX9_after cX9_after 4 (some .int) 3 74 G fz_shM fz_KM [.ref (G.1 0), .int a0, .int a1, .int a2] M (fz_Qi G fz_shM fz_KM r M9) := by
  refine fz_body (by decide) (Nat.le_of_ble_eq_true rfl) ?_
  intro p e s m args below meth c H locs ls C hr hlk hF hT hl
  have C : CallFix p m c cX9_after 4 s args wsL_law RX9 := C
  have hl : lv_has ls 4 [(0, .ref (G.1 0)), (1, .int a0), (2, .int a1), (3, .int a2)] := hl
  exact b_X9_after_0 C hr hlk hF hT (lv_sub hl [0, 1, 2, 3] rfl) h
set_option maxHeartbeats 4000000 in
set_option maxRecDepth 100000 in
theorem b_X9_findTies_231 {p : Program} {l : Launch} {e : Env} {s : State} {m : MethodId} {args : Array Value} {below : List Frame} {meth : Method} {c : Code} {G : fz_G}   {ag7 : (Int32 × Int32 × fz_M) → Option (Int32 × fz_M)}  {v1 : Int32} {v2 : Int32} {v3 : Int32} {v4 : Int32} {v5 : Int32} {s1 : Int32} {M : fz_M} {H : Heap} {locs : List Loc} {ls : Array Slot} {r : Int32} {M9 : fz_M} (C : CallFix p m c cX9_findTies 9 s args wsL_law RX9) (hr : meth.sig.returnType = (some .int)) (hlk : meth.locks = false) (hF : fz_F G fz_KM s) (hag7 : ∀ (v4 : Int32) (v5 : Int32) (M : fz_M) (H : Heap) (locs : List Loc) (ls : Array Slot), fz_T G fz_shM fz_KM s M H locs → lv_has ls 9 [(0, .ref (G.1 0)), (1, .int v1), (2, .int v2), (3, .int v3), (4, .int v4), (5, .int v5)] → ag7 (v4, v5, M) = some (r, M9) → W p l e (fz_rm 3 74) s m args below meth c H locs 0 0 (MQ below (fz_Qi G fz_shM fz_KM r M9) args s 0 0 (fz_Fr G fz_KM)) (F0 m 7 ls [])) (hT : fz_T G fz_shM fz_KM s M H locs) (hl : lv_has ls 9 [(0, .ref (G.1 0)), (1, .int v1), (2, .int v2), (3, .int v3), (4, .int v4), (5, .int v5)]) (h : f_X9_findTies_231 ag7 v1 v2 v3 v4 v5 s1 M = some (r, M9)) : W p l e (fz_rm 3 74) s m args below meth c H locs 0 0 (MQ below (fz_Qi G fz_shM fz_KM r M9) args s 0 0 (fz_Fr G fz_KM)) (F0 m 231 ls [.int s1, .ref (G.1 0)]) := by
  obtain ⟨M1, eM1, h⟩ := fz_bd_s h
  refine fz_puti C hF hT fz_m0 (j := 48) rfl fw_X9_241 dX9_findTies_231 (fun H locs hT => ?_)
  rw [← eM1] at hT
  refine lv_iinc (v := (v5 + 1)) (lv' := [(5, .int (v5 + 1)), (0, .ref (G.1 0)), (1, .int v1), (2, .int v2), (3, .int v3), (4, .int v4)]) C.1 C.2.1 dX9_findTies_234 hl (k := 5) rfl rfl (by decide) rfl (fun ls hl => ?_)
  refine lv_goto (tgt := 7) C.1 C.2.1 dX9_findTies_237 (by decide) ?_
  exact hag7 v4 (v5 + 1) M1 _ _ _ hT (lv_sub hl [1, 2, 3, 4, 5, 0] rfl) h
set_option maxHeartbeats 4000000 in
set_option maxRecDepth 100000 in
theorem b_X9_findTies_214 {p : Program} {l : Launch} {e : Env} {s : State} {m : MethodId} {args : Array Value} {below : List Frame} {meth : Method} {c : Code} {G : fz_G}   {ag7 : (Int32 × Int32 × fz_M) → Option (Int32 × fz_M)}  {v1 : Int32} {v2 : Int32} {v3 : Int32} {v5 : Int32} {v7 : Int32} {s0 : Int32} {M : fz_M} {H : Heap} {locs : List Loc} {ls : Array Slot} {r : Int32} {M9 : fz_M} (C : CallFix p m c cX9_findTies 9 s args wsL_law RX9) (hr : meth.sig.returnType = (some .int)) (hlk : meth.locks = false) (hF : fz_F G fz_KM s) (hag7 : ∀ (v4 : Int32) (v5 : Int32) (M : fz_M) (H : Heap) (locs : List Loc) (ls : Array Slot), fz_T G fz_shM fz_KM s M H locs → lv_has ls 9 [(0, .ref (G.1 0)), (1, .int v1), (2, .int v2), (3, .int v3), (4, .int v4), (5, .int v5)] → ag7 (v4, v5, M) = some (r, M9) → W p l e (fz_rm 3 74) s m args below meth c H locs 0 0 (MQ below (fz_Qi G fz_shM fz_KM r M9) args s 0 0 (fz_Fr G fz_KM)) (F0 m 7 ls [])) (hT : fz_T G fz_shM fz_KM s M H locs) (hl : lv_has ls 9 [(0, .ref (G.1 0)), (1, .int v1), (2, .int v2), (3, .int v3), (5, .int v5), (7, .int v7)]) (h : f_X9_findTies_214 ag7 v1 v2 v3 v5 v7 s0 M = some (r, M9)) : W p l e (fz_rm 3 74) s m args below meth c H locs 0 0 (MQ below (fz_Qi G fz_shM fz_KM r M9) args s 0 0 (fz_Fr G fz_KM)) (F0 m 214 ls [.int s0]) := by
  refine lv_istore (lv' := [(4, .int s0), (0, .ref (G.1 0)), (1, .int v1), (2, .int v2), (3, .int v3), (5, .int v5), (7, .int v7)]) C.1 C.2.1 dX9_findTies_214 hl (by decide) rfl (fun ls hl => ?_)
  refine lv_aload_n C.1 C.2.1 dX9_findTies_216 rfl (lv_at hl 1 rfl) ?_
  refine lv_iload C.1 C.2.1 dX9_findTies_217 (lv_at hl 6 rfl) ?_
  refine lv_if_eq (tgt := 227) C.1 C.2.1 dX9_findTies_219 (by decide) (fun c1 => ?_) (fun c1 => ?_)
  · have h := fz_ip c1 h
    refine lv_aload_n C.1 C.2.1 dX9_findTies_227 rfl (lv_at hl 1 rfl) ?_
    refine fz_geti C hF hT fz_m0 (j := 48) rfl fl_X9_241 dX9_findTies_228 ?_
    exact b_X9_findTies_231 C hr hlk hF hag7 hT (lv_sub hl [1, 2, 3, 4, 0, 5] rfl) h
  · have h := fz_iq c1 h
    refine lv_iload C.1 C.2.1 dX9_findTies_222 (lv_at hl 5 rfl) ?_
    refine lv_goto (tgt := 231) C.1 C.2.1 dX9_findTies_224 (by decide) ?_
    exact b_X9_findTies_231 C hr hlk hF hag7 hT (lv_sub hl [1, 2, 3, 4, 0, 5] rfl) h
set_option maxHeartbeats 4000000 in
set_option maxRecDepth 100000 in
theorem b_X9_findTies_194 {p : Program} {l : Launch} {e : Env} {s : State} {m : MethodId} {args : Array Value} {below : List Frame} {meth : Method} {c : Code} {G : fz_G}   {ag7 : (Int32 × Int32 × fz_M) → Option (Int32 × fz_M)} {ag149 : (Int32 × Int32) → Option (Int32 × fz_M)}  {v1 : Int32} {v2 : Int32} {v3 : Int32} {v4 : Int32} {v5 : Int32} {v6 : Int32} {v8 : Int32} {s0 : Int32} {M : fz_M} {H : Heap} {locs : List Loc} {ls : Array Slot} {r : Int32} {M9 : fz_M} (C : CallFix p m c cX9_findTies 9 s args wsL_law RX9) (hr : meth.sig.returnType = (some .int)) (hlk : meth.locks = false) (hF : fz_F G fz_KM s) (hag7 : ∀ (v4 : Int32) (v5 : Int32) (M : fz_M) (H : Heap) (locs : List Loc) (ls : Array Slot), fz_T G fz_shM fz_KM s M H locs → lv_has ls 9 [(0, .ref (G.1 0)), (1, .int v1), (2, .int v2), (3, .int v3), (4, .int v4), (5, .int v5)] → ag7 (v4, v5, M) = some (r, M9) → W p l e (fz_rm 3 74) s m args below meth c H locs 0 0 (MQ below (fz_Qi G fz_shM fz_KM r M9) args s 0 0 (fz_Fr G fz_KM)) (F0 m 7 ls [])) (hag149 : ∀ (v7 : Int32) (v8 : Int32) (H : Heap) (locs : List Loc) (ls : Array Slot), fz_T G fz_shM fz_KM s M H locs → lv_has ls 9 [(0, .ref (G.1 0)), (1, .int v1), (2, .int v2), (3, .int v3), (4, .int v4), (5, .int v5), (6, .int v6), (7, .int v7), (8, .int v8)] → ag149 (v7, v8) = some (r, M9) → W p l e (fz_rm 3 74) s m args below meth c H locs 0 0 (MQ below (fz_Qi G fz_shM fz_KM r M9) args s 0 0 (fz_Fr G fz_KM)) (F0 m 149 ls [])) (hT : fz_T G fz_shM fz_KM s M H locs) (hl : lv_has ls 9 [(0, .ref (G.1 0)), (1, .int v1), (2, .int v2), (3, .int v3), (4, .int v4), (5, .int v5), (6, .int v6), (8, .int v8)]) (h : f_X9_findTies_194 ag7 ag149 v1 v2 v3 v4 v5 v6 v8 s0 M = some (r, M9)) : W p l e (fz_rm 3 74) s m args below meth c H locs 0 0 (MQ below (fz_Qi G fz_shM fz_KM r M9) args s 0 0 (fz_Fr G fz_KM)) (F0 m 194 ls [.int s0]) := by
  refine lv_istore (lv' := [(7, .int s0), (0, .ref (G.1 0)), (1, .int v1), (2, .int v2), (3, .int v3), (4, .int v4), (5, .int v5), (6, .int v6), (8, .int v8)]) C.1 C.2.1 dX9_findTies_194 hl (by decide) rfl (fun ls hl => ?_)
  refine lv_iinc (v := (v8 + 1)) (lv' := [(8, .int (v8 + 1)), (7, .int s0), (0, .ref (G.1 0)), (1, .int v1), (2, .int v2), (3, .int v3), (4, .int v4), (5, .int v5), (6, .int v6)]) C.1 C.2.1 dX9_findTies_196 hl (k := 8) rfl rfl (by decide) rfl (fun ls hl => ?_)
  refine lv_goto (tgt := 149) C.1 C.2.1 dX9_findTies_199 (by decide) ?_
  exact hag149 s0 (v8 + 1) _ _ _ hT (lv_sub hl [2, 3, 4, 5, 6, 7, 8, 1, 0] rfl) h
set_option maxHeartbeats 4000000 in
set_option maxRecDepth 100000 in
theorem b_X9_findTies_193 {p : Program} {l : Launch} {e : Env} {s : State} {m : MethodId} {args : Array Value} {below : List Frame} {meth : Method} {c : Code} {G : fz_G}   {ag7 : (Int32 × Int32 × fz_M) → Option (Int32 × fz_M)} {ag149 : (Int32 × Int32) → Option (Int32 × fz_M)}  {v1 : Int32} {v2 : Int32} {v3 : Int32} {v4 : Int32} {v5 : Int32} {v6 : Int32} {v8 : Int32} {M : fz_M} {H : Heap} {locs : List Loc} {ls : Array Slot} {r : Int32} {M9 : fz_M} (C : CallFix p m c cX9_findTies 9 s args wsL_law RX9) (hr : meth.sig.returnType = (some .int)) (hlk : meth.locks = false) (hF : fz_F G fz_KM s) (hag7 : ∀ (v4 : Int32) (v5 : Int32) (M : fz_M) (H : Heap) (locs : List Loc) (ls : Array Slot), fz_T G fz_shM fz_KM s M H locs → lv_has ls 9 [(0, .ref (G.1 0)), (1, .int v1), (2, .int v2), (3, .int v3), (4, .int v4), (5, .int v5)] → ag7 (v4, v5, M) = some (r, M9) → W p l e (fz_rm 3 74) s m args below meth c H locs 0 0 (MQ below (fz_Qi G fz_shM fz_KM r M9) args s 0 0 (fz_Fr G fz_KM)) (F0 m 7 ls [])) (hag149 : ∀ (v7 : Int32) (v8 : Int32) (H : Heap) (locs : List Loc) (ls : Array Slot), fz_T G fz_shM fz_KM s M H locs → lv_has ls 9 [(0, .ref (G.1 0)), (1, .int v1), (2, .int v2), (3, .int v3), (4, .int v4), (5, .int v5), (6, .int v6), (7, .int v7), (8, .int v8)] → ag149 (v7, v8) = some (r, M9) → W p l e (fz_rm 3 74) s m args below meth c H locs 0 0 (MQ below (fz_Qi G fz_shM fz_KM r M9) args s 0 0 (fz_Fr G fz_KM)) (F0 m 149 ls [])) (hT : fz_T G fz_shM fz_KM s M H locs) (hl : lv_has ls 9 [(0, .ref (G.1 0)), (1, .int v1), (2, .int v2), (3, .int v3), (4, .int v4), (5, .int v5), (6, .int v6), (8, .int v8)]) (h : f_X9_findTies_193 ag7 ag149 v1 v2 v3 v4 v5 v6 v8 M = some (r, M9)) : W p l e (fz_rm 3 74) s m args below meth c H locs 0 0 (MQ below (fz_Qi G fz_shM fz_KM r M9) args s 0 0 (fz_Fr G fz_KM)) (F0 m 193 ls []) := by
  refine lv_iconst (v := 0) C.1 C.2.1 dX9_findTies_193 (by decide) ?_
  exact b_X9_findTies_194 C hr hlk hF hag7 hag149 hT (lv_sub hl [0, 1, 2, 3, 4, 5, 6, 7] rfl) h
set_option maxHeartbeats 4000000 in
set_option maxRecDepth 100000 in
theorem b_X9_findTies_149_l {p : Program} {l : Launch} {e : Env} {s : State} {m : MethodId} {args : Array Value} {below : List Frame} {meth : Method} {c : Code} {G : fz_G}   {ag7 : (Int32 × Int32 × fz_M) → Option (Int32 × fz_M)}  {v1 : Int32} {v2 : Int32} {v3 : Int32} {v4 : Int32} {v5 : Int32} {v6 : Int32} {M : fz_M} {r : Int32} {M9 : fz_M} (C : CallFix p m c cX9_findTies 9 s args wsL_law RX9) (hr : meth.sig.returnType = (some .int)) (hlk : meth.locks = false) (hF : fz_F G fz_KM s) (hag7 : ∀ (v4 : Int32) (v5 : Int32) (M : fz_M) (H : Heap) (locs : List Loc) (ls : Array Slot), fz_T G fz_shM fz_KM s M H locs → lv_has ls 9 [(0, .ref (G.1 0)), (1, .int v1), (2, .int v2), (3, .int v3), (4, .int v4), (5, .int v5)] → ag7 (v4, v5, M) = some (r, M9) → W p l e (fz_rm 3 74) s m args below meth c H locs 0 0 (MQ below (fz_Qi G fz_shM fz_KM r M9) args s 0 0 (fz_Fr G fz_KM)) (F0 m 7 ls [])) : ∀ (n : Nat) (v7 : Int32) (v8 : Int32) (H : Heap) (locs : List Loc) (ls : Array Slot), fz_T G fz_shM fz_KM s M H locs → lv_has ls 9 [(0, .ref (G.1 0)), (1, .int v1), (2, .int v2), (3, .int v3), (4, .int v4), (5, .int v5), (6, .int v6), (7, .int v7), (8, .int v8)] → fz_lp (fun ag z => f_X9_findTies_149_s ag7 ag v1 v2 v3 v4 v5 v6 z.1 z.2 M) n (v7, v8) = some (r, M9) → W p l e (fz_rm 3 74) s m args below meth c H locs 0 0 (MQ below (fz_Qi G fz_shM fz_KM r M9) args s 0 0 (fz_Fr G fz_KM)) (F0 m 149 ls []) := by
  intro n
  induction n with
  | zero =>
    intro v7 v8 H locs ls hT hl h
    cases h
  | succ n ih =>
    intro v7 v8 H locs ls hT hl h
    have h : f_X9_findTies_149_s ag7 (fz_lp (fun ag z => f_X9_findTies_149_s ag7 ag v1 v2 v3 v4 v5 v6 z.1 z.2 M) n) v1 v2 v3 v4 v5 v6 v7 v8 M = some (r, M9) := h
    have hag149 := ih
    generalize fz_lp (fun ag z => f_X9_findTies_149_s ag7 ag v1 v2 v3 v4 v5 v6 z.1 z.2 M) n = ag149 at h hag149
    refine lv_iload C.1 C.2.1 dX9_findTies_149 (lv_at hl 8 rfl) ?_
    refine lv_aload_n C.1 C.2.1 dX9_findTies_151 rfl (lv_at hl 0 rfl) ?_
    refine fz_geti C hF hT fz_m0 (j := 6) rfl fl_X9_128 dX9_findTies_152 ?_
    refine lv_icmp_ge (tgt := 202) C.1 C.2.1 dX9_findTies_155 (by decide) (fun c1 => ?_) (fun c1 => ?_)
    · have h := fz_ip c1 h
      refine lv_iload C.1 C.2.1 dX9_findTies_202 (lv_at hl 7 rfl) ?_
      refine lv_if_eq (tgt := 212) C.1 C.2.1 dX9_findTies_204 (by decide) (fun c2 => ?_) (fun c2 => ?_)
      · have h := fz_ip c2 h
        refine lv_iload C.1 C.2.1 dX9_findTies_212 (lv_at hl 4 rfl) ?_
        exact b_X9_findTies_214 C hr hlk hF hag7 hT (lv_sub hl [0, 1, 2, 3, 5, 7] rfl) h
      · have h := fz_iq c2 h
        refine lv_iload C.1 C.2.1 dX9_findTies_207 (lv_at hl 6 rfl) ?_
        refine lv_goto (tgt := 214) C.1 C.2.1 dX9_findTies_209 (by decide) ?_
        exact b_X9_findTies_214 C hr hlk hF hag7 hT (lv_sub hl [0, 1, 2, 3, 5, 7] rfl) h
    · have h := fz_iq c1 h
      refine lv_iload C.1 C.2.1 dX9_findTies_158 (lv_at hl 7 rfl) ?_
      refine lv_if_eq (tgt := 193) C.1 C.2.1 dX9_findTies_160 (by decide) (fun c3 => ?_) (fun c3 => ?_)
      · have h := fz_ip c3 h
        exact b_X9_findTies_193 C hr hlk hF hag7 hag149 hT (lv_sub hl [0, 1, 2, 3, 4, 5, 6, 8] rfl) h
      · have h := fz_iq c3 h
        refine lv_iload_n C.1 C.2.1 dX9_findTies_163 rfl (lv_at hl 1 rfl) ?_
        refine lv_iload C.1 C.2.1 dX9_findTies_164 (lv_at hl 8 rfl) ?_
        obtain ⟨r4, w6, h⟩ := fz_b1_s h
        refine fz_ci hT (fz_runS (np := 2) (rest := []) C hF hT (c_X9_has l G v1 v8 M r4 w6) cl_X9_238 rfl hl.1 rfl (Nat.le_of_ble_eq_true rfl) ⟨Nat.le_of_ble_eq_true rfl, Nat.le_of_ble_eq_true rfl, Nat.zero_le _, Nat.zero_le _⟩ dX9_findTies_166) (fun H locs hT => ?_)
        refine lv_if_eq (tgt := 189) C.1 C.2.1 dX9_findTies_169 (by decide) (fun c7 => ?_) (fun c7 => ?_)
        · have h := fz_ip c7 h
          refine lv_iconst (v := 1) C.1 C.2.1 dX9_findTies_189 (by decide) ?_
          refine lv_goto (tgt := 194) C.1 C.2.1 dX9_findTies_190 (by decide) ?_
          exact b_X9_findTies_194 C hr hlk hF hag7 hag149 hT (lv_sub hl [0, 1, 2, 3, 4, 5, 6, 8] rfl) h
        · have h := fz_iq c7 h
          refine lv_aload_n C.1 C.2.1 dX9_findTies_172 rfl (lv_at hl 0 rfl) ?_
          refine fz_getr C hF hT fz_m0 (j := 39) rfl fl_X9_95 dX9_findTies_173 ?_
          refine lv_iload C.1 C.2.1 dX9_findTies_176 (lv_at hl 8 rfl) ?_
          obtain ⟨g8, h⟩ := fz_gd_s h
          refine fz_ia C hF hT fz_m29 g8 dX9_findTies_178 ?_
          refine lv_aload_n C.1 C.2.1 dX9_findTies_179 rfl (lv_at hl 0 rfl) ?_
          refine fz_getr C hF hT fz_m0 (j := 16) rfl fl_X9_41 dX9_findTies_180 ?_
          refine lv_iload C.1 C.2.1 dX9_findTies_183 (lv_at hl 8 rfl) ?_
          obtain ⟨g9, h⟩ := fz_gd_s h
          refine fz_ia C hF hT fz_m11 g9 dX9_findTies_185 ?_
          refine lv_icmp_ne (tgt := 193) C.1 C.2.1 dX9_findTies_186 (by decide) (fun c10 => ?_) (fun c10 => ?_)
          · have h := fz_ip c10 h
            exact b_X9_findTies_193 C hr hlk hF hag7 hag149 hT (lv_sub hl [0, 1, 2, 3, 4, 5, 6, 8] rfl) h
          · have h := fz_iq (not_not_intro c10) h
            refine lv_iconst (v := 1) C.1 C.2.1 dX9_findTies_189 (by decide) ?_
            refine lv_goto (tgt := 194) C.1 C.2.1 dX9_findTies_190 (by decide) ?_
            exact b_X9_findTies_194 C hr hlk hF hag7 hag149 hT (lv_sub hl [0, 1, 2, 3, 4, 5, 6, 8] rfl) h
set_option maxHeartbeats 4000000 in
set_option maxRecDepth 100000 in
theorem b_X9_findTies_149 {p : Program} {l : Launch} {e : Env} {s : State} {m : MethodId} {args : Array Value} {below : List Frame} {meth : Method} {c : Code} {G : fz_G}   {ag7 : (Int32 × Int32 × fz_M) → Option (Int32 × fz_M)}  {v1 : Int32} {v2 : Int32} {v3 : Int32} {v4 : Int32} {v5 : Int32} {v6 : Int32} {v7 : Int32} {v8 : Int32} {M : fz_M} {H : Heap} {locs : List Loc} {ls : Array Slot} {r : Int32} {M9 : fz_M} (C : CallFix p m c cX9_findTies 9 s args wsL_law RX9) (hr : meth.sig.returnType = (some .int)) (hlk : meth.locks = false) (hF : fz_F G fz_KM s) (hag7 : ∀ (v4 : Int32) (v5 : Int32) (M : fz_M) (H : Heap) (locs : List Loc) (ls : Array Slot), fz_T G fz_shM fz_KM s M H locs → lv_has ls 9 [(0, .ref (G.1 0)), (1, .int v1), (2, .int v2), (3, .int v3), (4, .int v4), (5, .int v5)] → ag7 (v4, v5, M) = some (r, M9) → W p l e (fz_rm 3 74) s m args below meth c H locs 0 0 (MQ below (fz_Qi G fz_shM fz_KM r M9) args s 0 0 (fz_Fr G fz_KM)) (F0 m 7 ls [])) (hT : fz_T G fz_shM fz_KM s M H locs) (hl : lv_has ls 9 [(0, .ref (G.1 0)), (1, .int v1), (2, .int v2), (3, .int v3), (4, .int v4), (5, .int v5), (6, .int v6), (7, .int v7), (8, .int v8)]) (h : f_X9_findTies_149 ag7 v1 v2 v3 v4 v5 v6 v7 v8 M = some (r, M9)) : W p l e (fz_rm 3 74) s m args below meth c H locs 0 0 (MQ below (fz_Qi G fz_shM fz_KM r M9) args s 0 0 (fz_Fr G fz_KM)) (F0 m 149 ls []) :=
  b_X9_findTies_149_l C hr hlk hF hag7 fz_fuel v7 v8 H locs ls hT hl h
set_option maxHeartbeats 4000000 in
set_option maxRecDepth 100000 in
theorem b_X9_findTies_137 {p : Program} {l : Launch} {e : Env} {s : State} {m : MethodId} {args : Array Value} {below : List Frame} {meth : Method} {c : Code} {G : fz_G}   {ag7 : (Int32 × Int32 × fz_M) → Option (Int32 × fz_M)}  {v1 : Int32} {v2 : Int32} {v3 : Int32} {v4 : Int32} {v5 : Int32} {v6 : Int32} {M : fz_M} {H : Heap} {locs : List Loc} {ls : Array Slot} {r : Int32} {M9 : fz_M} (C : CallFix p m c cX9_findTies 9 s args wsL_law RX9) (hr : meth.sig.returnType = (some .int)) (hlk : meth.locks = false) (hF : fz_F G fz_KM s) (hag7 : ∀ (v4 : Int32) (v5 : Int32) (M : fz_M) (H : Heap) (locs : List Loc) (ls : Array Slot), fz_T G fz_shM fz_KM s M H locs → lv_has ls 9 [(0, .ref (G.1 0)), (1, .int v1), (2, .int v2), (3, .int v3), (4, .int v4), (5, .int v5)] → ag7 (v4, v5, M) = some (r, M9) → W p l e (fz_rm 3 74) s m args below meth c H locs 0 0 (MQ below (fz_Qi G fz_shM fz_KM r M9) args s 0 0 (fz_Fr G fz_KM)) (F0 m 7 ls [])) (hT : fz_T G fz_shM fz_KM s M H locs) (hl : lv_has ls 9 [(0, .ref (G.1 0)), (1, .int v1), (2, .int v2), (3, .int v3), (4, .int v4), (5, .int v5), (6, .int v6)]) (h : f_X9_findTies_137 ag7 v1 v2 v3 v4 v5 v6 M = some (r, M9)) : W p l e (fz_rm 3 74) s m args below meth c H locs 0 0 (MQ below (fz_Qi G fz_shM fz_KM r M9) args s 0 0 (fz_Fr G fz_KM)) (F0 m 137 ls []) := by
  refine lv_aload_n C.1 C.2.1 dX9_findTies_137 rfl (lv_at hl 0 rfl) ?_
  refine lv_iload_n C.1 C.2.1 dX9_findTies_138 rfl (lv_at hl 2 rfl) ?_
  refine lv_iload_n C.1 C.2.1 dX9_findTies_139 rfl (lv_at hl 3 rfl) ?_
  obtain ⟨M2, w3, h⟩ := fz_b1_s h
  refine fz_cv hT (fz_runV (np := 2) (rest := []) C hF hT (c_X9_goHours l G v2 v3 M M2 w3) fz_m0 (T := TX9) (N := 49) rfl cl_X9_234 rfl hl.1 rfl (Nat.le_of_ble_eq_true rfl) ⟨Nat.le_of_ble_eq_true rfl, Nat.le_of_ble_eq_true rfl, Nat.zero_le _, Nat.zero_le _⟩ dX9_findTies_140) (fun H locs hT => ?_)
  refine lv_iconst (v := 1) C.1 C.2.1 dX9_findTies_143 (by decide) ?_
  refine lv_istore (lv' := [(7, .int 1), (0, .ref (G.1 0)), (1, .int v1), (2, .int v2), (3, .int v3), (4, .int v4), (5, .int v5), (6, .int v6)]) C.1 C.2.1 dX9_findTies_144 hl (by decide) rfl (fun ls hl => ?_)
  refine lv_iconst (v := 0) C.1 C.2.1 dX9_findTies_146 (by decide) ?_
  refine lv_istore (lv' := [(8, .int 0), (7, .int 1), (0, .ref (G.1 0)), (1, .int v1), (2, .int v2), (3, .int v3), (4, .int v4), (5, .int v5), (6, .int v6)]) C.1 C.2.1 dX9_findTies_147 hl (by decide) rfl (fun ls hl => ?_)
  exact b_X9_findTies_149 C hr hlk hF hag7 hT (lv_sub hl [2, 3, 4, 5, 6, 7, 8, 1, 0] rfl) h
set_option maxHeartbeats 4000000 in
set_option maxRecDepth 100000 in
theorem b_X9_findTies_116 {p : Program} {l : Launch} {e : Env} {s : State} {m : MethodId} {args : Array Value} {below : List Frame} {meth : Method} {c : Code} {G : fz_G}   {ag7 : (Int32 × Int32 × fz_M) → Option (Int32 × fz_M)} {ag28 : (Int32 × Int32 × fz_M) → Option (Int32 × fz_M)}  {v1 : Int32} {v2 : Int32} {v3 : Int32} {v4 : Int32} {v5 : Int32} {v6 : Int32} {v7 : Int32} {s1 : Int32} {s2 : Int32} {M : fz_M} {H : Heap} {locs : List Loc} {ls : Array Slot} {r : Int32} {M9 : fz_M} (C : CallFix p m c cX9_findTies 9 s args wsL_law RX9) (hr : meth.sig.returnType = (some .int)) (hlk : meth.locks = false) (hF : fz_F G fz_KM s) (hag7 : ∀ (v4 : Int32) (v5 : Int32) (M : fz_M) (H : Heap) (locs : List Loc) (ls : Array Slot), fz_T G fz_shM fz_KM s M H locs → lv_has ls 9 [(0, .ref (G.1 0)), (1, .int v1), (2, .int v2), (3, .int v3), (4, .int v4), (5, .int v5)] → ag7 (v4, v5, M) = some (r, M9) → W p l e (fz_rm 3 74) s m args below meth c H locs 0 0 (MQ below (fz_Qi G fz_shM fz_KM r M9) args s 0 0 (fz_Fr G fz_KM)) (F0 m 7 ls [])) (hag28 : ∀ (v6 : Int32) (v7 : Int32) (M : fz_M) (H : Heap) (locs : List Loc) (ls : Array Slot), fz_T G fz_shM fz_KM s M H locs → lv_has ls 9 [(0, .ref (G.1 0)), (1, .int v1), (2, .int v2), (3, .int v3), (4, .int v4), (5, .int v5), (6, .int v6), (7, .int v7)] → ag28 (v6, v7, M) = some (r, M9) → W p l e (fz_rm 3 74) s m args below meth c H locs 0 0 (MQ below (fz_Qi G fz_shM fz_KM r M9) args s 0 0 (fz_Fr G fz_KM)) (F0 m 28 ls [])) (hT : fz_T G fz_shM fz_KM s M H locs) (hl : lv_has ls 9 [(0, .ref (G.1 0)), (1, .int v1), (2, .int v2), (3, .int v3), (4, .int v4), (5, .int v5), (6, .int v6), (7, .int v7)]) (h : f_X9_findTies_116 ag7 ag28 v1 v2 v3 v4 v5 v6 v7 s1 s2 M = some (r, M9)) : W p l e (fz_rm 3 74) s m args below meth c H locs 0 0 (MQ below (fz_Qi G fz_shM fz_KM r M9) args s 0 0 (fz_Fr G fz_KM)) (F0 m 116 ls [.int s2, .int s1, .ref (G.1 30)]) := by
  obtain ⟨g1, h⟩ := fz_gd_s h
  obtain ⟨M2, eM2, h⟩ := fz_bd_s h
  refine fz_ias C hF hT fz_m30 g1 dX9_findTies_116 (fun H locs hT => ?_)
  rw [← eM2] at hT
  refine lv_iinc (v := (v7 + 1)) (lv' := [(7, .int (v7 + 1)), (0, .ref (G.1 0)), (1, .int v1), (2, .int v2), (3, .int v3), (4, .int v4), (5, .int v5), (6, .int v6)]) C.1 C.2.1 dX9_findTies_117 hl (k := 7) rfl rfl (by decide) rfl (fun ls hl => ?_)
  refine lv_goto (tgt := 28) C.1 C.2.1 dX9_findTies_120 (by decide) ?_
  exact hag28 v6 (v7 + 1) M2 _ _ _ hT (lv_sub hl [1, 2, 3, 4, 5, 6, 7, 0] rfl) h
set_option maxHeartbeats 4000000 in
set_option maxRecDepth 100000 in
theorem b_X9_findTies_85 {p : Program} {l : Launch} {e : Env} {s : State} {m : MethodId} {args : Array Value} {below : List Frame} {meth : Method} {c : Code} {G : fz_G}   {ag7 : (Int32 × Int32 × fz_M) → Option (Int32 × fz_M)} {ag28 : (Int32 × Int32 × fz_M) → Option (Int32 × fz_M)}  {v1 : Int32} {v2 : Int32} {v3 : Int32} {v4 : Int32} {v5 : Int32} {v7 : Int32} {v8 : Int32} {s0 : Int32} {s1 : Int32} {M : fz_M} {H : Heap} {locs : List Loc} {ls : Array Slot} {r : Int32} {M9 : fz_M} (C : CallFix p m c cX9_findTies 9 s args wsL_law RX9) (hr : meth.sig.returnType = (some .int)) (hlk : meth.locks = false) (hF : fz_F G fz_KM s) (hag7 : ∀ (v4 : Int32) (v5 : Int32) (M : fz_M) (H : Heap) (locs : List Loc) (ls : Array Slot), fz_T G fz_shM fz_KM s M H locs → lv_has ls 9 [(0, .ref (G.1 0)), (1, .int v1), (2, .int v2), (3, .int v3), (4, .int v4), (5, .int v5)] → ag7 (v4, v5, M) = some (r, M9) → W p l e (fz_rm 3 74) s m args below meth c H locs 0 0 (MQ below (fz_Qi G fz_shM fz_KM r M9) args s 0 0 (fz_Fr G fz_KM)) (F0 m 7 ls [])) (hag28 : ∀ (v6 : Int32) (v7 : Int32) (M : fz_M) (H : Heap) (locs : List Loc) (ls : Array Slot), fz_T G fz_shM fz_KM s M H locs → lv_has ls 9 [(0, .ref (G.1 0)), (1, .int v1), (2, .int v2), (3, .int v3), (4, .int v4), (5, .int v5), (6, .int v6), (7, .int v7)] → ag28 (v6, v7, M) = some (r, M9) → W p l e (fz_rm 3 74) s m args below meth c H locs 0 0 (MQ below (fz_Qi G fz_shM fz_KM r M9) args s 0 0 (fz_Fr G fz_KM)) (F0 m 28 ls [])) (hT : fz_T G fz_shM fz_KM s M H locs) (hl : lv_has ls 9 [(0, .ref (G.1 0)), (1, .int v1), (2, .int v2), (3, .int v3), (4, .int v4), (5, .int v5), (7, .int v7), (8, .int v8)]) (h : f_X9_findTies_85 ag7 ag28 v1 v2 v3 v4 v5 v7 v8 s0 s1 M = some (r, M9)) : W p l e (fz_rm 3 74) s m args below meth c H locs 0 0 (MQ below (fz_Qi G fz_shM fz_KM r M9) args s 0 0 (fz_Fr G fz_KM)) (F0 m 85 ls [.int s1, .int s0]) := by
  refine lv_iadd C.1 C.2.1 dX9_findTies_85 ?_
  obtain ⟨x1, ex1, h⟩ := fz_bd_s h
  refine fz_nmi ex1 ?_
  refine lv_istore (lv' := [(6, .int x1), (0, .ref (G.1 0)), (1, .int v1), (2, .int v2), (3, .int v3), (4, .int v4), (5, .int v5), (7, .int v7), (8, .int v8)]) C.1 C.2.1 dX9_findTies_86 hl (by decide) rfl (fun ls hl => ?_)
  refine lv_aload_n C.1 C.2.1 dX9_findTies_88 rfl (lv_at hl 1 rfl) ?_
  refine fz_getr C hF hT fz_m0 (j := 40) rfl fl_X9_98 dX9_findTies_89 ?_
  refine lv_iload C.1 C.2.1 dX9_findTies_92 (lv_at hl 7 rfl) ?_
  refine lv_iload C.1 C.2.1 dX9_findTies_94 (lv_at hl 6 rfl) ?_
  refine lv_iload C.1 C.2.1 dX9_findTies_96 (lv_at hl 7 rfl) ?_
  obtain ⟨r2, w4, h⟩ := fz_b1_s h
  refine fz_ci hT (fz_runS (np := 2) (rest := [.int v7, .ref (G.1 30)]) C hF hT (c_X9_has l G v5 v7 M r2 w4) cl_X9_238 rfl hl.1 rfl (Nat.le_of_ble_eq_true rfl) ⟨Nat.le_of_ble_eq_true rfl, Nat.le_of_ble_eq_true rfl, Nat.zero_le _, Nat.zero_le _⟩ dX9_findTies_98) (fun H locs hT => ?_)
  refine lv_if_eq (tgt := 109) C.1 C.2.1 dX9_findTies_101 (by decide) (fun c5 => ?_) (fun c5 => ?_)
  · have h := fz_ip c5 h
    refine lv_aload_n C.1 C.2.1 dX9_findTies_109 rfl (lv_at hl 1 rfl) ?_
    refine fz_getr C hF hT fz_m0 (j := 40) rfl fl_X9_98 dX9_findTies_110 ?_
    refine lv_iload C.1 C.2.1 dX9_findTies_113 (lv_at hl 7 rfl) ?_
    obtain ⟨g6, h⟩ := fz_gd_s h
    refine fz_ia C hF hT fz_m30 g6 dX9_findTies_115 ?_
    exact b_X9_findTies_116 C hr hlk hF hag7 hag28 hT (lv_sub hl [1, 2, 3, 4, 5, 6, 0, 7] rfl) h
  · have h := fz_iq c5 h
    refine lv_iload C.1 C.2.1 dX9_findTies_104 (lv_at hl 8 rfl) ?_
    refine lv_goto (tgt := 116) C.1 C.2.1 dX9_findTies_106 (by decide) ?_
    exact b_X9_findTies_116 C hr hlk hF hag7 hag28 hT (lv_sub hl [1, 2, 3, 4, 5, 6, 0, 7] rfl) h
set_option maxHeartbeats 4000000 in
set_option maxRecDepth 100000 in
theorem b_X9_findTies_65 {p : Program} {l : Launch} {e : Env} {s : State} {m : MethodId} {args : Array Value} {below : List Frame} {meth : Method} {c : Code} {G : fz_G}   {ag7 : (Int32 × Int32 × fz_M) → Option (Int32 × fz_M)} {ag28 : (Int32 × Int32 × fz_M) → Option (Int32 × fz_M)}  {v1 : Int32} {v2 : Int32} {v3 : Int32} {v4 : Int32} {v5 : Int32} {v6 : Int32} {v7 : Int32} {s0 : Int32} {M : fz_M} {H : Heap} {locs : List Loc} {ls : Array Slot} {r : Int32} {M9 : fz_M} (C : CallFix p m c cX9_findTies 9 s args wsL_law RX9) (hr : meth.sig.returnType = (some .int)) (hlk : meth.locks = false) (hF : fz_F G fz_KM s) (hag7 : ∀ (v4 : Int32) (v5 : Int32) (M : fz_M) (H : Heap) (locs : List Loc) (ls : Array Slot), fz_T G fz_shM fz_KM s M H locs → lv_has ls 9 [(0, .ref (G.1 0)), (1, .int v1), (2, .int v2), (3, .int v3), (4, .int v4), (5, .int v5)] → ag7 (v4, v5, M) = some (r, M9) → W p l e (fz_rm 3 74) s m args below meth c H locs 0 0 (MQ below (fz_Qi G fz_shM fz_KM r M9) args s 0 0 (fz_Fr G fz_KM)) (F0 m 7 ls [])) (hag28 : ∀ (v6 : Int32) (v7 : Int32) (M : fz_M) (H : Heap) (locs : List Loc) (ls : Array Slot), fz_T G fz_shM fz_KM s M H locs → lv_has ls 9 [(0, .ref (G.1 0)), (1, .int v1), (2, .int v2), (3, .int v3), (4, .int v4), (5, .int v5), (6, .int v6), (7, .int v7)] → ag28 (v6, v7, M) = some (r, M9) → W p l e (fz_rm 3 74) s m args below meth c H locs 0 0 (MQ below (fz_Qi G fz_shM fz_KM r M9) args s 0 0 (fz_Fr G fz_KM)) (F0 m 28 ls [])) (hT : fz_T G fz_shM fz_KM s M H locs) (hl : lv_has ls 9 [(0, .ref (G.1 0)), (1, .int v1), (2, .int v2), (3, .int v3), (4, .int v4), (5, .int v5), (6, .int v6), (7, .int v7)]) (h : f_X9_findTies_65 ag7 ag28 v1 v2 v3 v4 v5 v6 v7 s0 M = some (r, M9)) : W p l e (fz_rm 3 74) s m args below meth c H locs 0 0 (MQ below (fz_Qi G fz_shM fz_KM r M9) args s 0 0 (fz_Fr G fz_KM)) (F0 m 65 ls [.int s0]) := by
  refine lv_istore (lv' := [(8, .int s0), (0, .ref (G.1 0)), (1, .int v1), (2, .int v2), (3, .int v3), (4, .int v4), (5, .int v5), (6, .int v6), (7, .int v7)]) C.1 C.2.1 dX9_findTies_65 hl (by decide) rfl (fun ls hl => ?_)
  refine lv_iload C.1 C.2.1 dX9_findTies_67 (lv_at hl 7 rfl) ?_
  refine lv_iload C.1 C.2.1 dX9_findTies_69 (lv_at hl 6 rfl) ?_
  refine lv_iload C.1 C.2.1 dX9_findTies_71 (lv_at hl 8 rfl) ?_
  obtain ⟨r1, w3, h⟩ := fz_b1_s h
  refine fz_ci hT (fz_runS (np := 2) (rest := [.int v6]) C hF hT (c_X9_has l G v5 v7 M r1 w3) cl_X9_238 rfl hl.1 rfl (Nat.le_of_ble_eq_true rfl) ⟨Nat.le_of_ble_eq_true rfl, Nat.le_of_ble_eq_true rfl, Nat.zero_le _, Nat.zero_le _⟩ dX9_findTies_73) (fun H locs hT => ?_)
  refine lv_if_eq (tgt := 84) C.1 C.2.1 dX9_findTies_76 (by decide) (fun c4 => ?_) (fun c4 => ?_)
  · have h := fz_ip c4 h
    refine lv_iconst (v := 0) C.1 C.2.1 dX9_findTies_84 (by decide) ?_
    exact b_X9_findTies_85 C hr hlk hF hag7 hag28 hT (lv_sub hl [1, 2, 3, 4, 5, 6, 8, 0] rfl) h
  · have h := fz_iq c4 h
    refine lv_iload C.1 C.2.1 dX9_findTies_79 (lv_at hl 0 rfl) ?_
    refine lv_goto (tgt := 85) C.1 C.2.1 dX9_findTies_81 (by decide) ?_
    exact b_X9_findTies_85 C hr hlk hF hag7 hag28 hT (lv_sub hl [1, 2, 3, 4, 5, 6, 8, 0] rfl) h
set_option maxHeartbeats 4000000 in
set_option maxRecDepth 100000 in
theorem b_X9_findTies_28_l {p : Program} {l : Launch} {e : Env} {s : State} {m : MethodId} {args : Array Value} {below : List Frame} {meth : Method} {c : Code} {G : fz_G}   {ag7 : (Int32 × Int32 × fz_M) → Option (Int32 × fz_M)}  {v1 : Int32} {v2 : Int32} {v3 : Int32} {v4 : Int32} {v5 : Int32}  {r : Int32} {M9 : fz_M} (C : CallFix p m c cX9_findTies 9 s args wsL_law RX9) (hr : meth.sig.returnType = (some .int)) (hlk : meth.locks = false) (hF : fz_F G fz_KM s) (hag7 : ∀ (v4 : Int32) (v5 : Int32) (M : fz_M) (H : Heap) (locs : List Loc) (ls : Array Slot), fz_T G fz_shM fz_KM s M H locs → lv_has ls 9 [(0, .ref (G.1 0)), (1, .int v1), (2, .int v2), (3, .int v3), (4, .int v4), (5, .int v5)] → ag7 (v4, v5, M) = some (r, M9) → W p l e (fz_rm 3 74) s m args below meth c H locs 0 0 (MQ below (fz_Qi G fz_shM fz_KM r M9) args s 0 0 (fz_Fr G fz_KM)) (F0 m 7 ls [])) : ∀ (n : Nat) (v6 : Int32) (v7 : Int32) (M : fz_M) (H : Heap) (locs : List Loc) (ls : Array Slot), fz_T G fz_shM fz_KM s M H locs → lv_has ls 9 [(0, .ref (G.1 0)), (1, .int v1), (2, .int v2), (3, .int v3), (4, .int v4), (5, .int v5), (6, .int v6), (7, .int v7)] → fz_lp (fun ag z => f_X9_findTies_28_s ag7 ag v1 v2 v3 v4 v5 z.1 z.2.1 z.2.2) n (v6, v7, M) = some (r, M9) → W p l e (fz_rm 3 74) s m args below meth c H locs 0 0 (MQ below (fz_Qi G fz_shM fz_KM r M9) args s 0 0 (fz_Fr G fz_KM)) (F0 m 28 ls []) := by
  intro n
  induction n with
  | zero =>
    intro v6 v7 M H locs ls hT hl h
    cases h
  | succ n ih =>
    intro v6 v7 M H locs ls hT hl h
    have h : f_X9_findTies_28_s ag7 (fz_lp (fun ag z => f_X9_findTies_28_s ag7 ag v1 v2 v3 v4 v5 z.1 z.2.1 z.2.2) n) v1 v2 v3 v4 v5 v6 v7 M = some (r, M9) := h
    have hag28 := ih
    generalize fz_lp (fun ag z => f_X9_findTies_28_s ag7 ag v1 v2 v3 v4 v5 z.1 z.2.1 z.2.2) n = ag28 at h hag28
    refine lv_iload C.1 C.2.1 dX9_findTies_28 (lv_at hl 7 rfl) ?_
    refine lv_aload_n C.1 C.2.1 dX9_findTies_30 rfl (lv_at hl 0 rfl) ?_
    refine fz_geti C hF hT fz_m0 (j := 6) rfl fl_X9_128 dX9_findTies_31 ?_
    refine lv_icmp_ge (tgt := 123) C.1 C.2.1 dX9_findTies_34 (by decide) (fun c1 => ?_) (fun c1 => ?_)
    · have h := fz_ip c1 h
      refine lv_iload C.1 C.2.1 dX9_findTies_123 (lv_at hl 4 rfl) ?_
      refine lv_bipush (v := (-9)) C.1 C.2.1 dX9_findTies_125 (by decide) ?_
      refine lv_icmp_eq (tgt := 137) C.1 C.2.1 dX9_findTies_127 (by decide) (fun c2 => ?_) (fun c2 => ?_)
      · have h := fz_ip c2 h
        exact b_X9_findTies_137 C hr hlk hF hag7 hT (lv_sub hl [0, 1, 2, 3, 4, 5, 6] rfl) h
      · have h := fz_iq c2 h
        refine lv_iload C.1 C.2.1 dX9_findTies_130 (lv_at hl 6 rfl) ?_
        refine lv_iload C.1 C.2.1 dX9_findTies_132 (lv_at hl 4 rfl) ?_
        refine lv_icmp_ge (tgt := 234) C.1 C.2.1 dX9_findTies_134 (by decide) (fun c3 => ?_) (fun c3 => ?_)
        · have h := fz_ip c3 h
          refine lv_iinc (v := (v5 + 1)) (lv' := [(5, .int (v5 + 1)), (0, .ref (G.1 0)), (1, .int v1), (2, .int v2), (3, .int v3), (4, .int v4), (6, .int v6), (7, .int v7)]) C.1 C.2.1 dX9_findTies_234 hl (k := 5) rfl rfl (by decide) rfl (fun ls hl => ?_)
          refine lv_goto (tgt := 7) C.1 C.2.1 dX9_findTies_237 (by decide) ?_
          exact hag7 v4 (v5 + 1) M _ _ _ hT (lv_sub hl [1, 2, 3, 4, 5, 0] rfl) h
        · have h := fz_iq c3 h
          exact b_X9_findTies_137 C hr hlk hF hag7 hT (lv_sub hl [0, 1, 2, 3, 4, 5, 6] rfl) h
    · have h := fz_iq c1 h
      refine lv_aload_n C.1 C.2.1 dX9_findTies_37 rfl (lv_at hl 0 rfl) ?_
      refine lv_aload_n C.1 C.2.1 dX9_findTies_38 rfl (lv_at hl 0 rfl) ?_
      refine fz_getr C hF hT fz_m0 (j := 39) rfl fl_X9_95 dX9_findTies_39 ?_
      refine lv_iload C.1 C.2.1 dX9_findTies_42 (lv_at hl 7 rfl) ?_
      obtain ⟨g4, h⟩ := fz_gd_s h
      refine fz_ia C hF hT fz_m29 g4 dX9_findTies_44 ?_
      refine lv_iload_n C.1 C.2.1 dX9_findTies_45 rfl (lv_at hl 2 rfl) ?_
      obtain ⟨r5, w7, h⟩ := fz_b1_s h
      refine fz_ci hT (fz_runV (np := 2) (rest := []) C hF hT (c_X9_depth l G (fz_g M 29 v7) v2 M r5 w7) fz_m0 (T := TX9) (N := 49) rfl cl_X9_206 rfl hl.1 rfl (Nat.le_of_ble_eq_true rfl) ⟨Nat.le_of_ble_eq_true rfl, Nat.le_of_ble_eq_true rfl, Nat.zero_le _, Nat.zero_le _⟩ dX9_findTies_46) (fun H locs hT => ?_)
      refine lv_istore (lv' := [(8, .int r5), (0, .ref (G.1 0)), (1, .int v1), (2, .int v2), (3, .int v3), (4, .int v4), (5, .int v5), (6, .int v6), (7, .int v7)]) C.1 C.2.1 dX9_findTies_49 hl (by decide) rfl (fun ls hl => ?_)
      refine lv_iload C.1 C.2.1 dX9_findTies_51 (lv_at hl 0 rfl) ?_
      refine lv_bipush (v := 9) C.1 C.2.1 dX9_findTies_53 (by decide) ?_
      refine lv_icmp_le (tgt := 63) C.1 C.2.1 dX9_findTies_55 (by decide) (fun c8 => ?_) (fun c8 => ?_)
      · have h := fz_ip c8 h
        refine lv_iload C.1 C.2.1 dX9_findTies_63 (lv_at hl 0 rfl) ?_
        exact b_X9_findTies_65 C hr hlk hF hag7 hag28 hT (lv_sub hl [1, 2, 3, 4, 5, 6, 7, 8] rfl) h
      · have h := fz_iq c8 h
        refine lv_bipush (v := 9) C.1 C.2.1 dX9_findTies_58 (by decide) ?_
        refine lv_goto (tgt := 65) C.1 C.2.1 dX9_findTies_60 (by decide) ?_
        exact b_X9_findTies_65 C hr hlk hF hag7 hag28 hT (lv_sub hl [1, 2, 3, 4, 5, 6, 7, 8] rfl) h
set_option maxHeartbeats 4000000 in
set_option maxRecDepth 100000 in
theorem b_X9_findTies_28 {p : Program} {l : Launch} {e : Env} {s : State} {m : MethodId} {args : Array Value} {below : List Frame} {meth : Method} {c : Code} {G : fz_G}   {ag7 : (Int32 × Int32 × fz_M) → Option (Int32 × fz_M)}  {v1 : Int32} {v2 : Int32} {v3 : Int32} {v4 : Int32} {v5 : Int32} {v6 : Int32} {v7 : Int32} {M : fz_M} {H : Heap} {locs : List Loc} {ls : Array Slot} {r : Int32} {M9 : fz_M} (C : CallFix p m c cX9_findTies 9 s args wsL_law RX9) (hr : meth.sig.returnType = (some .int)) (hlk : meth.locks = false) (hF : fz_F G fz_KM s) (hag7 : ∀ (v4 : Int32) (v5 : Int32) (M : fz_M) (H : Heap) (locs : List Loc) (ls : Array Slot), fz_T G fz_shM fz_KM s M H locs → lv_has ls 9 [(0, .ref (G.1 0)), (1, .int v1), (2, .int v2), (3, .int v3), (4, .int v4), (5, .int v5)] → ag7 (v4, v5, M) = some (r, M9) → W p l e (fz_rm 3 74) s m args below meth c H locs 0 0 (MQ below (fz_Qi G fz_shM fz_KM r M9) args s 0 0 (fz_Fr G fz_KM)) (F0 m 7 ls [])) (hT : fz_T G fz_shM fz_KM s M H locs) (hl : lv_has ls 9 [(0, .ref (G.1 0)), (1, .int v1), (2, .int v2), (3, .int v3), (4, .int v4), (5, .int v5), (6, .int v6), (7, .int v7)]) (h : f_X9_findTies_28 ag7 v1 v2 v3 v4 v5 v6 v7 M = some (r, M9)) : W p l e (fz_rm 3 74) s m args below meth c H locs 0 0 (MQ below (fz_Qi G fz_shM fz_KM r M9) args s 0 0 (fz_Fr G fz_KM)) (F0 m 28 ls []) :=
  b_X9_findTies_28_l C hr hlk hF hag7 fz_fuel v6 v7 M H locs ls hT hl h
set_option maxHeartbeats 4000000 in
set_option maxRecDepth 100000 in
theorem b_X9_findTies_7_l {p : Program} {l : Launch} {e : Env} {s : State} {m : MethodId} {args : Array Value} {below : List Frame} {meth : Method} {c : Code} {G : fz_G}     {v1 : Int32} {v2 : Int32} {v3 : Int32}  {r : Int32} {M9 : fz_M} (C : CallFix p m c cX9_findTies 9 s args wsL_law RX9) (hr : meth.sig.returnType = (some .int)) (hlk : meth.locks = false) (hF : fz_F G fz_KM s)  : ∀ (n : Nat) (v4 : Int32) (v5 : Int32) (M : fz_M) (H : Heap) (locs : List Loc) (ls : Array Slot), fz_T G fz_shM fz_KM s M H locs → lv_has ls 9 [(0, .ref (G.1 0)), (1, .int v1), (2, .int v2), (3, .int v3), (4, .int v4), (5, .int v5)] → fz_lp (fun ag z => f_X9_findTies_7_s ag v1 v2 v3 z.1 z.2.1 z.2.2) n (v4, v5, M) = some (r, M9) → W p l e (fz_rm 3 74) s m args below meth c H locs 0 0 (MQ below (fz_Qi G fz_shM fz_KM r M9) args s 0 0 (fz_Fr G fz_KM)) (F0 m 7 ls []) := by
  intro n
  induction n with
  | zero =>
    intro v4 v5 M H locs ls hT hl h
    cases h
  | succ n ih =>
    intro v4 v5 M H locs ls hT hl h
    have h : f_X9_findTies_7_s (fz_lp (fun ag z => f_X9_findTies_7_s ag v1 v2 v3 z.1 z.2.1 z.2.2) n) v1 v2 v3 v4 v5 M = some (r, M9) := h
    have hag7 := ih
    generalize fz_lp (fun ag z => f_X9_findTies_7_s ag v1 v2 v3 z.1 z.2.1 z.2.2) n = ag7 at h hag7
    refine lv_iload C.1 C.2.1 dX9_findTies_7 (lv_at hl 5 rfl) ?_
    refine lv_iconst (v := 1) C.1 C.2.1 dX9_findTies_9 (by decide) ?_
    refine lv_aload_n C.1 C.2.1 dX9_findTies_10 rfl (lv_at hl 0 rfl) ?_
    refine fz_geti C hF hT fz_m0 (j := 6) rfl fl_X9_128 dX9_findTies_11 ?_
    refine lv_ishl C.1 C.2.1 dX9_findTies_14 ?_
    refine lv_icmp_ge (tgt := 240) C.1 C.2.1 dX9_findTies_15 (by decide) (fun c1 => ?_) (fun c1 => ?_)
    · have h := fz_ip c1 h
      refine lv_iload C.1 C.2.1 dX9_findTies_240 (lv_at hl 4 rfl) ?_
      cases h
      exact fz_reti C hr hlk hT dX9_findTies_242
    · have h := fz_iq c1 h
      refine lv_iconst (v := 0) C.1 C.2.1 dX9_findTies_18 (by decide) ?_
      refine lv_istore (lv' := [(6, .int 0), (0, .ref (G.1 0)), (1, .int v1), (2, .int v2), (3, .int v3), (4, .int v4), (5, .int v5)]) C.1 C.2.1 dX9_findTies_19 hl (by decide) rfl (fun ls hl => ?_)
      refine lv_aload_n C.1 C.2.1 dX9_findTies_21 rfl (lv_at hl 1 rfl) ?_
      obtain ⟨M3, w4, h⟩ := fz_b1_s h
      refine fz_cv hT (fz_runV (np := 0) (rest := []) C hF hT (c_X9_begin l G M M3 w4) fz_m0 (T := TX9) (N := 49) rfl cl_X9_225 rfl hl.1 rfl (Nat.le_of_ble_eq_true rfl) ⟨Nat.le_of_ble_eq_true rfl, Nat.le_of_ble_eq_true rfl, Nat.zero_le _, Nat.zero_le _⟩ dX9_findTies_22) (fun H locs hT => ?_)
      refine lv_iconst (v := 0) C.1 C.2.1 dX9_findTies_25 (by decide) ?_
      refine lv_istore (lv' := [(7, .int 0), (6, .int 0), (0, .ref (G.1 0)), (1, .int v1), (2, .int v2), (3, .int v3), (4, .int v4), (5, .int v5)]) C.1 C.2.1 dX9_findTies_26 hl (by decide) rfl (fun ls hl => ?_)
      exact b_X9_findTies_28 C hr hlk hF hag7 hT (lv_sub hl [2, 3, 4, 5, 6, 7, 1, 0] rfl) h
set_option maxHeartbeats 4000000 in
set_option maxRecDepth 100000 in
theorem b_X9_findTies_7 {p : Program} {l : Launch} {e : Env} {s : State} {m : MethodId} {args : Array Value} {below : List Frame} {meth : Method} {c : Code} {G : fz_G}     {v1 : Int32} {v2 : Int32} {v3 : Int32} {v4 : Int32} {v5 : Int32} {M : fz_M} {H : Heap} {locs : List Loc} {ls : Array Slot} {r : Int32} {M9 : fz_M} (C : CallFix p m c cX9_findTies 9 s args wsL_law RX9) (hr : meth.sig.returnType = (some .int)) (hlk : meth.locks = false) (hF : fz_F G fz_KM s)  (hT : fz_T G fz_shM fz_KM s M H locs) (hl : lv_has ls 9 [(0, .ref (G.1 0)), (1, .int v1), (2, .int v2), (3, .int v3), (4, .int v4), (5, .int v5)]) (h : f_X9_findTies_7 v1 v2 v3 v4 v5 M = some (r, M9)) : W p l e (fz_rm 3 74) s m args below meth c H locs 0 0 (MQ below (fz_Qi G fz_shM fz_KM r M9) args s 0 0 (fz_Fr G fz_KM)) (F0 m 7 ls []) :=
  b_X9_findTies_7_l C hr hlk hF fz_fuel v4 v5 M H locs ls hT hl h
set_option maxHeartbeats 4000000 in
set_option maxRecDepth 100000 in
theorem b_X9_findTies_0 {p : Program} {l : Launch} {e : Env} {s : State} {m : MethodId} {args : Array Value} {below : List Frame} {meth : Method} {c : Code} {G : fz_G}     {v1 : Int32} {v2 : Int32} {v3 : Int32} {M : fz_M} {H : Heap} {locs : List Loc} {ls : Array Slot} {r : Int32} {M9 : fz_M} (C : CallFix p m c cX9_findTies 9 s args wsL_law RX9) (hr : meth.sig.returnType = (some .int)) (hlk : meth.locks = false) (hF : fz_F G fz_KM s)  (hT : fz_T G fz_shM fz_KM s M H locs) (hl : lv_has ls 9 [(0, .ref (G.1 0)), (1, .int v1), (2, .int v2), (3, .int v3)]) (h : f_X9_findTies v1 v2 v3 M = some (r, M9)) : W p l e (fz_rm 3 74) s m args below meth c H locs 0 0 (MQ below (fz_Qi G fz_shM fz_KM r M9) args s 0 0 (fz_Fr G fz_KM)) (F0 m 0 ls []) := by
  refine lv_bipush (v := (-9)) C.1 C.2.1 dX9_findTies_0 (by decide) ?_
  refine lv_istore (lv' := [(4, .int (-9)), (0, .ref (G.1 0)), (1, .int v1), (2, .int v2), (3, .int v3)]) C.1 C.2.1 dX9_findTies_2 hl (by decide) rfl (fun ls hl => ?_)
  refine lv_iconst (v := 0) C.1 C.2.1 dX9_findTies_4 (by decide) ?_
  refine lv_istore (lv' := [(5, .int 0), (4, .int (-9)), (0, .ref (G.1 0)), (1, .int v1), (2, .int v2), (3, .int v3)]) C.1 C.2.1 dX9_findTies_5 hl (by decide) rfl (fun ls hl => ?_)
  exact b_X9_findTies_7 C hr hlk hF hT (lv_sub hl [2, 3, 4, 5, 1, 0] rfl) h
set_option maxRecDepth 100000 in
theorem c_X9_findTies (l : Launch) (G : fz_G)  (a0 : Int32) (a1 : Int32) (a2 : Int32) (M : fz_M) (r : Int32) (M9 : fz_M) (h : f_X9_findTies a0 a1 a2 M = some (r, M9)) : fz_Me l yX9_findTies cX9_findTies 9 (some .int) 3 74 G fz_shM fz_KM [.ref (G.1 0), .int a0, .int a1, .int a2] M (fz_Qi G fz_shM fz_KM r M9) := by
  refine fz_body (by decide) (Nat.le_of_ble_eq_true rfl) ?_
  intro p e s m args below meth c H locs ls C hr hlk hF hT hl
  have C : CallFix p m c cX9_findTies 9 s args wsL_law RX9 := C
  have hl : lv_has ls 9 [(0, .ref (G.1 0)), (1, .int a0), (2, .int a1), (3, .int a2)] := hl
  exact b_X9_findTies_0 C hr hlk hF hT (lv_sub hl [0, 1, 2, 3] rfl) h
set_option maxHeartbeats 4000000 in
set_option maxRecDepth 100000 in
theorem b_X9_ties_0 {p : Program} {l : Launch} {e : Env} {s : State} {m : MethodId} {args : Array Value} {below : List Frame} {meth : Method} {c : Code} {G : fz_G}     {v1 : Int32} {v2 : Int32} {v3 : Int32} {v4 : Int32} {M : fz_M} {H : Heap} {locs : List Loc} {ls : Array Slot} {r : Int32} {M9 : fz_M} (C : CallFix p m c cX9_ties 6 s args wsL_law RX9) (hr : meth.sig.returnType = (some .int)) (hlk : meth.locks = false) (hF : fz_F G fz_KM s)  (hT : fz_T G fz_shM fz_KM s M H locs) (hl : lv_has ls 6 [(0, .ref (G.1 0)), (1, .int v1), (2, .int v2), (3, .int v3), (4, .int v4)]) (h : f_X9_ties v1 v2 v3 v4 M = some (r, M9)) : W p l e (fz_rm 4 102) s m args below meth c H locs 0 0 (MQ below (fz_Qi G fz_shM fz_KM r M9) args s 0 0 (fz_Fr G fz_KM)) (F0 m 0 ls []) := by
  refine lv_aload_n C.1 C.2.1 dX9_ties_0 rfl (lv_at hl 0 rfl) ?_
  refine lv_iconst (v := 0) C.1 C.2.1 dX9_ties_1 (by decide) ?_
  obtain ⟨M1, eM1, h⟩ := fz_bd_s h
  refine fz_puti C hF hT fz_m0 (j := 0) rfl fw_X9_117 dX9_ties_2 (fun H locs hT => ?_)
  rw [← eM1] at hT
  refine lv_iload_n C.1 C.2.1 dX9_ties_5 rfl (lv_at hl 1 rfl) ?_
  refine lv_i2l (v := (v1.toInt64)) C.1 C.2.1 dX9_ties_6 rfl ?_
  refine lv_lconst (v := 0) C.1 C.2.1 dX9_ties_7 (by decide) ?_
  refine lv_iconst (v := 1) C.1 C.2.1 dX9_ties_8 (by decide) ?_
  refine lv_aload_n C.1 C.2.1 dX9_ties_9 rfl (lv_at hl 0 rfl) ?_
  refine fz_geti C hF hT fz_m0 (j := 6) rfl fl_X9_128 dX9_ties_10 ?_
  refine lv_ishl C.1 C.2.1 dX9_ties_13 ?_
  refine lv_iconst (v := 1) C.1 C.2.1 dX9_ties_14 (by decide) ?_
  refine lv_isub C.1 C.2.1 dX9_ties_15 ?_
  refine lv_i2l (v := (((1 <<< ((fz_f M1 0 6) &&& 31)) - 1).toInt64)) C.1 C.2.1 dX9_ties_16 rfl ?_
  obtain ⟨r2, w4, h⟩ := fz_b1_s h
  refine fz_ci hT (fz_runS (np := 3) (rest := []) C hF hT (c_X9_in l G (v1.toInt64) 0 (((1 <<< ((fz_f M1 0 6) &&& 31)) - 1).toInt64) M1 r2 w4) cl_X9_124 rfl hl.1 rfl (Nat.le_of_ble_eq_true rfl) ⟨Nat.le_of_ble_eq_true rfl, Nat.le_of_ble_eq_true rfl, Nat.zero_le _, Nat.zero_le _⟩ dX9_ties_17) (fun H locs hT => ?_)
  refine lv_if_eq (tgt := 31) C.1 C.2.1 dX9_ties_20 (by decide) (fun c5 => ?_) (fun c5 => ?_)
  · have h := fz_ip c5 h
    refine lv_bipush (v := (-2)) C.1 C.2.1 dX9_ties_31 (by decide) ?_
    cases h
    exact fz_reti C hr hlk hT dX9_ties_33
  · have h := fz_iq c5 h
    refine lv_iload_n C.1 C.2.1 dX9_ties_23 rfl (lv_at hl 2 rfl) ?_
    refine lv_iload_n C.1 C.2.1 dX9_ties_24 rfl (lv_at hl 3 rfl) ?_
    obtain ⟨r6, w8, h⟩ := fz_b1_s h
    refine fz_ci hT (fz_runS (np := 2) (rest := []) C hF hT (c_X9_noFlood l G v2 v3 M1 r6 w8) cl_X9_231 rfl hl.1 rfl (Nat.le_of_ble_eq_true rfl) ⟨Nat.le_of_ble_eq_true rfl, Nat.le_of_ble_eq_true rfl, Nat.zero_le _, Nat.zero_le _⟩ dX9_ties_25) (fun H locs hT => ?_)
    refine lv_if_eq (tgt := 34) C.1 C.2.1 dX9_ties_28 (by decide) (fun c9 => ?_) (fun c9 => ?_)
    · have h := fz_ip c9 h
      refine lv_aload_n C.1 C.2.1 dX9_ties_34 rfl (lv_at hl 0 rfl) ?_
      refine lv_iload_n C.1 C.2.1 dX9_ties_35 rfl (lv_at hl 1 rfl) ?_
      refine lv_iload_n C.1 C.2.1 dX9_ties_36 rfl (lv_at hl 2 rfl) ?_
      refine lv_iload_n C.1 C.2.1 dX9_ties_37 rfl (lv_at hl 3 rfl) ?_
      obtain ⟨r10, M11, w12, h⟩ := fz_b2_s h
      refine fz_ci hT (fz_runV (np := 3) (rest := []) C hF hT (c_X9_findTies l G v1 v2 v3 M1 r10 M11 w12) fz_m0 (T := TX9) (N := 49) rfl cl_X9_244 rfl hl.1 rfl (Nat.le_of_ble_eq_true rfl) ⟨Nat.le_of_ble_eq_true rfl, Nat.le_of_ble_eq_true rfl, Nat.zero_le _, Nat.zero_le _⟩ dX9_ties_38) (fun H locs hT => ?_)
      refine lv_istore (lv' := [(5, .int r10), (0, .ref (G.1 0)), (1, .int v1), (2, .int v2), (3, .int v3), (4, .int v4)]) C.1 C.2.1 dX9_ties_41 hl (by decide) rfl (fun ls hl => ?_)
      refine lv_iload C.1 C.2.1 dX9_ties_43 (lv_at hl 0 rfl) ?_
      refine lv_bipush (v := (-9)) C.1 C.2.1 dX9_ties_45 (by decide) ?_
      refine lv_icmp_eq (tgt := 55) C.1 C.2.1 dX9_ties_47 (by decide) (fun c13 => ?_) (fun c13 => ?_)
      · have h := fz_ip c13 h
        refine lv_iload C.1 C.2.1 dX9_ties_55 (lv_at hl 0 rfl) ?_
        refine lv_goto (tgt := 64) C.1 C.2.1 dX9_ties_57 (by decide) ?_
        cases h
        exact fz_reti C hr hlk hT dX9_ties_64
      · have h := fz_iq c13 h
        refine lv_iload C.1 C.2.1 dX9_ties_50 (lv_at hl 5 rfl) ?_
        refine lv_if_ne (tgt := 60) C.1 C.2.1 dX9_ties_52 (by decide) (fun c14 => ?_) (fun c14 => ?_)
        · have h := fz_ip c14 h
          refine lv_aload_n C.1 C.2.1 dX9_ties_60 rfl (lv_at hl 1 rfl) ?_
          refine fz_geti C hF hT fz_m0 (j := 48) rfl fl_X9_241 dX9_ties_61 ?_
          cases h
          exact fz_reti C hr hlk hT dX9_ties_64
        · have h := fz_iq (not_not_intro c14) h
          refine lv_iload C.1 C.2.1 dX9_ties_55 (lv_at hl 0 rfl) ?_
          refine lv_goto (tgt := 64) C.1 C.2.1 dX9_ties_57 (by decide) ?_
          cases h
          exact fz_reti C hr hlk hT dX9_ties_64
    · have h := fz_iq c9 h
      refine lv_bipush (v := (-2)) C.1 C.2.1 dX9_ties_31 (by decide) ?_
      cases h
      exact fz_reti C hr hlk hT dX9_ties_33
set_option maxRecDepth 100000 in
theorem c_X9_ties (l : Launch) (G : fz_G)  (a0 : Int32) (a1 : Int32) (a2 : Int32) (a3 : Int32) (M : fz_M) (r : Int32) (M9 : fz_M) (h : f_X9_ties a0 a1 a2 a3 M = some (r, M9)) : fz_Me l yX9_ties cX9_ties 6 (some .int) 4 102 G fz_shM fz_KM [.ref (G.1 0), .int a0, .int a1, .int a2, .int a3] M (fz_Qi G fz_shM fz_KM r M9) := by
  refine fz_body (by decide) (Nat.le_of_ble_eq_true rfl) ?_
  intro p e s m args below meth c H locs ls C hr hlk hF hT hl
  have C : CallFix p m c cX9_ties 6 s args wsL_law RX9 := C
  have hl : lv_has ls 6 [(0, .ref (G.1 0)), (1, .int a0), (2, .int a1), (3, .int a2), (4, .int a3)] := hl
  exact b_X9_ties_0 C hr hlk hF hT (lv_sub hl [0, 1, 2, 3, 4] rfl) h
set_option maxHeartbeats 4000000 in
set_option maxRecDepth 100000 in
theorem b_X9_dowry_38_l {p : Program} {l : Launch} {e : Env} {s : State} {m : MethodId} {args : Array Value} {below : List Frame} {meth : Method} {c : Code} {G : fz_G}     {v1 : Int32} {v2 : Int32} {v3 : Int32} {v4 : Int32}  {r : Int32} {M9 : fz_M} (C : CallFix p m c cX9_dowry 6 s args wsL_law RX9) (hr : meth.sig.returnType = (some .int)) (hlk : meth.locks = false) (hF : fz_F G fz_KM s)  : ∀ (n : Nat) (v5 : Int32) (M : fz_M) (H : Heap) (locs : List Loc) (ls : Array Slot), fz_T G fz_shM fz_KM s M H locs → lv_has ls 6 [(0, .ref (G.1 0)), (1, .int v1), (2, .int v2), (3, .int v3), (4, .int v4), (5, .int v5)] → fz_lp (fun ag z => f_X9_dowry_38_s ag v1 v2 v3 v4 z.1 z.2) n (v5, M) = some (r, M9) → W p l e (fz_rm 3 74) s m args below meth c H locs 0 0 (MQ below (fz_Qi G fz_shM fz_KM r M9) args s 0 0 (fz_Fr G fz_KM)) (F0 m 38 ls []) := by
  intro n
  induction n with
  | zero =>
    intro v5 M H locs ls hT hl h
    cases h
  | succ n ih =>
    intro v5 M H locs ls hT hl h
    have h : f_X9_dowry_38_s (fz_lp (fun ag z => f_X9_dowry_38_s ag v1 v2 v3 v4 z.1 z.2) n) v1 v2 v3 v4 v5 M = some (r, M9) := h
    have hag38 := ih
    generalize fz_lp (fun ag z => f_X9_dowry_38_s ag v1 v2 v3 v4 z.1 z.2) n = ag38 at h hag38
    refine lv_iload C.1 C.2.1 dX9_dowry_38 (lv_at hl 5 rfl) ?_
    refine lv_aload_n C.1 C.2.1 dX9_dowry_40 rfl (lv_at hl 0 rfl) ?_
    refine fz_geti C hF hT fz_m0 (j := 4) rfl fl_X9_121 dX9_dowry_41 ?_
    refine lv_icmp_ge (tgt := 85) C.1 C.2.1 dX9_dowry_44 (by decide) (fun c1 => ?_) (fun c1 => ?_)
    · have h := fz_ip c1 h
      refine lv_bipush (v := (-9)) C.1 C.2.1 dX9_dowry_85 (by decide) ?_
      cases h
      exact fz_reti C hr hlk hT dX9_dowry_87
    · have h := fz_iq c1 h
      refine lv_aload_n C.1 C.2.1 dX9_dowry_47 rfl (lv_at hl 0 rfl) ?_
      obtain ⟨M3, w4, h⟩ := fz_b1_s h
      refine fz_cv hT (fz_runV (np := 0) (rest := []) C hF hT (c_X9_begin l G M M3 w4) fz_m0 (T := TX9) (N := 49) rfl cl_X9_225 rfl hl.1 rfl (Nat.le_of_ble_eq_true rfl) ⟨Nat.le_of_ble_eq_true rfl, Nat.le_of_ble_eq_true rfl, Nat.zero_le _, Nat.zero_le _⟩ dX9_dowry_48) (fun H locs hT => ?_)
      refine lv_aload_n C.1 C.2.1 dX9_dowry_51 rfl (lv_at hl 0 rfl) ?_
      refine fz_getr C hF hT fz_m0 (j := 39) rfl fl_X9_95 dX9_dowry_52 ?_
      refine lv_iload_n C.1 C.2.1 dX9_dowry_55 rfl (lv_at hl 1 rfl) ?_
      refine lv_iload C.1 C.2.1 dX9_dowry_56 (lv_at hl 5 rfl) ?_
      obtain ⟨g5, h⟩ := fz_gd_s h
      obtain ⟨M6, eM6, h⟩ := fz_bd_s h
      refine fz_ias C hF hT fz_m29 g5 dX9_dowry_58 (fun H locs hT => ?_)
      rw [← eM6] at hT
      refine lv_aload_n C.1 C.2.1 dX9_dowry_59 rfl (lv_at hl 0 rfl) ?_
      refine lv_iload_n C.1 C.2.1 dX9_dowry_60 rfl (lv_at hl 2 rfl) ?_
      refine lv_iload_n C.1 C.2.1 dX9_dowry_61 rfl (lv_at hl 3 rfl) ?_
      obtain ⟨M8, w9, h⟩ := fz_b1_s h
      refine fz_cv hT (fz_runV (np := 2) (rest := []) C hF hT (c_X9_goHours l G v2 v3 M6 M8 w9) fz_m0 (T := TX9) (N := 49) rfl cl_X9_234 rfl hl.1 rfl (Nat.le_of_ble_eq_true rfl) ⟨Nat.le_of_ble_eq_true rfl, Nat.le_of_ble_eq_true rfl, Nat.zero_le _, Nat.zero_le _⟩ dX9_dowry_62) (fun H locs hT => ?_)
      refine lv_aload_n C.1 C.2.1 dX9_dowry_65 rfl (lv_at hl 0 rfl) ?_
      refine fz_getr C hF hT fz_m0 (j := 39) rfl fl_X9_95 dX9_dowry_66 ?_
      refine lv_iload_n C.1 C.2.1 dX9_dowry_69 rfl (lv_at hl 1 rfl) ?_
      obtain ⟨g10, h⟩ := fz_gd_s h
      refine fz_ia C hF hT fz_m29 g10 dX9_dowry_70 ?_
      refine lv_iload C.1 C.2.1 dX9_dowry_71 (lv_at hl 4 rfl) ?_
      refine lv_icmp_ne (tgt := 79) C.1 C.2.1 dX9_dowry_73 (by decide) (fun c11 => ?_) (fun c11 => ?_)
      · have h := fz_ip c11 h
        refine lv_iinc (v := (v5 + 1)) (lv' := [(5, .int (v5 + 1)), (0, .ref (G.1 0)), (1, .int v1), (2, .int v2), (3, .int v3), (4, .int v4)]) C.1 C.2.1 dX9_dowry_79 hl (k := 5) rfl rfl (by decide) rfl (fun ls hl => ?_)
        refine lv_goto (tgt := 38) C.1 C.2.1 dX9_dowry_82 (by decide) ?_
        exact hag38 (v5 + 1) M8 _ _ _ hT (lv_sub hl [1, 2, 3, 4, 5, 0] rfl) h
      · have h := fz_iq (not_not_intro c11) h
        refine lv_iload C.1 C.2.1 dX9_dowry_76 (lv_at hl 5 rfl) ?_
        cases h
        exact fz_reti C hr hlk hT dX9_dowry_78
set_option maxHeartbeats 4000000 in
set_option maxRecDepth 100000 in
theorem b_X9_dowry_38 {p : Program} {l : Launch} {e : Env} {s : State} {m : MethodId} {args : Array Value} {below : List Frame} {meth : Method} {c : Code} {G : fz_G}     {v1 : Int32} {v2 : Int32} {v3 : Int32} {v4 : Int32} {v5 : Int32} {M : fz_M} {H : Heap} {locs : List Loc} {ls : Array Slot} {r : Int32} {M9 : fz_M} (C : CallFix p m c cX9_dowry 6 s args wsL_law RX9) (hr : meth.sig.returnType = (some .int)) (hlk : meth.locks = false) (hF : fz_F G fz_KM s)  (hT : fz_T G fz_shM fz_KM s M H locs) (hl : lv_has ls 6 [(0, .ref (G.1 0)), (1, .int v1), (2, .int v2), (3, .int v3), (4, .int v4), (5, .int v5)]) (h : f_X9_dowry_38 v1 v2 v3 v4 v5 M = some (r, M9)) : W p l e (fz_rm 3 74) s m args below meth c H locs 0 0 (MQ below (fz_Qi G fz_shM fz_KM r M9) args s 0 0 (fz_Fr G fz_KM)) (F0 m 38 ls []) :=
  b_X9_dowry_38_l C hr hlk hF fz_fuel v5 M H locs ls hT hl h
set_option maxHeartbeats 4000000 in
set_option maxRecDepth 100000 in
theorem b_X9_dowry_0 {p : Program} {l : Launch} {e : Env} {s : State} {m : MethodId} {args : Array Value} {below : List Frame} {meth : Method} {c : Code} {G : fz_G}     {v1 : Int32} {v2 : Int32} {v3 : Int32} {v4 : Int32} {M : fz_M} {H : Heap} {locs : List Loc} {ls : Array Slot} {r : Int32} {M9 : fz_M} (C : CallFix p m c cX9_dowry 6 s args wsL_law RX9) (hr : meth.sig.returnType = (some .int)) (hlk : meth.locks = false) (hF : fz_F G fz_KM s)  (hT : fz_T G fz_shM fz_KM s M H locs) (hl : lv_has ls 6 [(0, .ref (G.1 0)), (1, .int v1), (2, .int v2), (3, .int v3), (4, .int v4)]) (h : f_X9_dowry v1 v2 v3 v4 M = some (r, M9)) : W p l e (fz_rm 3 74) s m args below meth c H locs 0 0 (MQ below (fz_Qi G fz_shM fz_KM r M9) args s 0 0 (fz_Fr G fz_KM)) (F0 m 0 ls []) := by
  refine lv_aload_n C.1 C.2.1 dX9_dowry_0 rfl (lv_at hl 0 rfl) ?_
  refine lv_iconst (v := 0) C.1 C.2.1 dX9_dowry_1 (by decide) ?_
  obtain ⟨M1, eM1, h⟩ := fz_bd_s h
  refine fz_puti C hF hT fz_m0 (j := 0) rfl fw_X9_117 dX9_dowry_2 (fun H locs hT => ?_)
  rw [← eM1] at hT
  refine lv_aload_n C.1 C.2.1 dX9_dowry_5 rfl (lv_at hl 0 rfl) ?_
  refine lv_iload_n C.1 C.2.1 dX9_dowry_6 rfl (lv_at hl 1 rfl) ?_
  obtain ⟨r2, w4, h⟩ := fz_b1_s h
  refine fz_ci hT (fz_runV (np := 1) (rest := []) C hF hT (c_X9_noPiece l G v1 M1 r2 w4) fz_m0 (T := TX9) (N := 49) rfl cl_X9_203 rfl hl.1 rfl (Nat.le_of_ble_eq_true rfl) ⟨Nat.le_of_ble_eq_true rfl, Nat.le_of_ble_eq_true rfl, Nat.zero_le _, Nat.zero_le _⟩ dX9_dowry_7) (fun H locs hT => ?_)
  refine lv_if_ne (tgt := 22) C.1 C.2.1 dX9_dowry_10 (by decide) (fun c5 => ?_) (fun c5 => ?_)
  · have h := fz_ip c5 h
    refine lv_iconst (v := (-1)) C.1 C.2.1 dX9_dowry_22 (by decide) ?_
    cases h
    exact fz_reti C hr hlk hT dX9_dowry_23
  · have h := fz_iq (not_not_intro c5) h
    refine lv_aload_n C.1 C.2.1 dX9_dowry_13 rfl (lv_at hl 0 rfl) ?_
    refine lv_iload C.1 C.2.1 dX9_dowry_14 (lv_at hl 4 rfl) ?_
    obtain ⟨r6, w8, h⟩ := fz_b1_s h
    refine fz_ci hT (fz_runV (np := 1) (rest := []) C hF hT (c_X9_noHouse l G v4 M1 r6 w8) fz_m0 (T := TX9) (N := 49) rfl cl_X9_200 rfl hl.1 rfl (Nat.le_of_ble_eq_true rfl) ⟨Nat.le_of_ble_eq_true rfl, Nat.le_of_ble_eq_true rfl, Nat.zero_le _, Nat.zero_le _⟩ dX9_dowry_16) (fun H locs hT => ?_)
    refine lv_if_eq (tgt := 24) C.1 C.2.1 dX9_dowry_19 (by decide) (fun c9 => ?_) (fun c9 => ?_)
    · have h := fz_ip c9 h
      refine lv_iload_n C.1 C.2.1 dX9_dowry_24 rfl (lv_at hl 2 rfl) ?_
      refine lv_iload_n C.1 C.2.1 dX9_dowry_25 rfl (lv_at hl 3 rfl) ?_
      obtain ⟨r10, w12, h⟩ := fz_b1_s h
      refine fz_ci hT (fz_runS (np := 2) (rest := []) C hF hT (c_X9_noFlood l G v2 v3 M1 r10 w12) cl_X9_231 rfl hl.1 rfl (Nat.le_of_ble_eq_true rfl) ⟨Nat.le_of_ble_eq_true rfl, Nat.le_of_ble_eq_true rfl, Nat.zero_le _, Nat.zero_le _⟩ dX9_dowry_26) (fun H locs hT => ?_)
      refine lv_if_eq (tgt := 35) C.1 C.2.1 dX9_dowry_29 (by decide) (fun c13 => ?_) (fun c13 => ?_)
      · have h := fz_ip c13 h
        refine lv_iconst (v := 0) C.1 C.2.1 dX9_dowry_35 (by decide) ?_
        refine lv_istore (lv' := [(5, .int 0), (0, .ref (G.1 0)), (1, .int v1), (2, .int v2), (3, .int v3), (4, .int v4)]) C.1 C.2.1 dX9_dowry_36 hl (by decide) rfl (fun ls hl => ?_)
        exact b_X9_dowry_38 C hr hlk hF hT (lv_sub hl [1, 2, 3, 4, 5, 0] rfl) h
      · have h := fz_iq c13 h
        refine lv_bipush (v := (-2)) C.1 C.2.1 dX9_dowry_32 (by decide) ?_
        cases h
        exact fz_reti C hr hlk hT dX9_dowry_34
    · have h := fz_iq c9 h
      refine lv_iconst (v := (-1)) C.1 C.2.1 dX9_dowry_22 (by decide) ?_
      cases h
      exact fz_reti C hr hlk hT dX9_dowry_23
set_option maxRecDepth 100000 in
theorem c_X9_dowry (l : Launch) (G : fz_G)  (a0 : Int32) (a1 : Int32) (a2 : Int32) (a3 : Int32) (M : fz_M) (r : Int32) (M9 : fz_M) (h : f_X9_dowry a0 a1 a2 a3 M = some (r, M9)) : fz_Me l yX9_dowry cX9_dowry 6 (some .int) 3 74 G fz_shM fz_KM [.ref (G.1 0), .int a0, .int a1, .int a2, .int a3] M (fz_Qi G fz_shM fz_KM r M9) := by
  refine fz_body (by decide) (Nat.le_of_ble_eq_true rfl) ?_
  intro p e s m args below meth c H locs ls C hr hlk hF hT hl
  have C : CallFix p m c cX9_dowry 6 s args wsL_law RX9 := C
  have hl : lv_has ls 6 [(0, .ref (G.1 0)), (1, .int a0), (2, .int a1), (3, .int a2), (4, .int a3)] := hl
  exact b_X9_dowry_0 C hr hlk hF hT (lv_sub hl [0, 1, 2, 3, 4] rfl) h
set_option maxHeartbeats 4000000 in
set_option maxRecDepth 100000 in
theorem b_X9_widthIn_49 {p : Program} {l : Launch} {e : Env} {s : State} {m : MethodId} {args : Array Value} {below : List Frame} {meth : Method} {c : Code} {G : fz_G}   {ag16 : (Int32 × Int32) → Option (Int32 × fz_M)}  {v1 : Int32} {v5 : Int32} {s0 : Int32} {s1 : Int32} {M : fz_M} {H : Heap} {locs : List Loc} {ls : Array Slot} {r : Int32} {M9 : fz_M} (C : CallFix p m c cX9_widthIn 6 s args wsL_law RX9) (hr : meth.sig.returnType = (some .int)) (hlk : meth.locks = false) (hF : fz_F G fz_KM s) (hag16 : ∀ (v4 : Int32) (v5 : Int32) (H : Heap) (locs : List Loc) (ls : Array Slot), fz_T G fz_shM fz_KM s M H locs → lv_has ls 6 [(0, .ref (G.1 0)), (1, .int v1), (4, .int v4), (5, .int v5)] → ag16 (v4, v5) = some (r, M9) → W p l e (fz_rm 3 74) s m args below meth c H locs 0 0 (MQ below (fz_Qi G fz_shM fz_KM r M9) args s 0 0 (fz_Fr G fz_KM)) (F0 m 16 ls [])) (hT : fz_T G fz_shM fz_KM s M H locs) (hl : lv_has ls 6 [(0, .ref (G.1 0)), (1, .int v1), (5, .int v5)]) (h : f_X9_widthIn_49 ag16 v1 v5 s0 s1 M = some (r, M9)) : W p l e (fz_rm 3 74) s m args below meth c H locs 0 0 (MQ below (fz_Qi G fz_shM fz_KM r M9) args s 0 0 (fz_Fr G fz_KM)) (F0 m 49 ls [.int s1, .int s0]) := by
  refine lv_iadd C.1 C.2.1 dX9_widthIn_49 ?_
  obtain ⟨x1, ex1, h⟩ := fz_bd_s h
  refine fz_nmi ex1 ?_
  refine lv_istore (lv' := [(4, .int x1), (0, .ref (G.1 0)), (1, .int v1), (5, .int v5)]) C.1 C.2.1 dX9_widthIn_50 hl (by decide) rfl (fun ls hl => ?_)
  refine lv_iinc (v := (v5 + 1)) (lv' := [(5, .int (v5 + 1)), (4, .int x1), (0, .ref (G.1 0)), (1, .int v1)]) C.1 C.2.1 dX9_widthIn_52 hl (k := 3) rfl rfl (by decide) rfl (fun ls hl => ?_)
  refine lv_goto (tgt := 16) C.1 C.2.1 dX9_widthIn_55 (by decide) ?_
  exact hag16 x1 (v5 + 1) _ _ _ hT (lv_sub hl [2, 3, 1, 0] rfl) h
set_option maxHeartbeats 4000000 in
set_option maxRecDepth 100000 in
theorem b_X9_widthIn_16_l {p : Program} {l : Launch} {e : Env} {s : State} {m : MethodId} {args : Array Value} {below : List Frame} {meth : Method} {c : Code} {G : fz_G}     {v1 : Int32} {M : fz_M} {r : Int32} {M9 : fz_M} (C : CallFix p m c cX9_widthIn 6 s args wsL_law RX9) (hr : meth.sig.returnType = (some .int)) (hlk : meth.locks = false) (hF : fz_F G fz_KM s)  : ∀ (n : Nat) (v4 : Int32) (v5 : Int32) (H : Heap) (locs : List Loc) (ls : Array Slot), fz_T G fz_shM fz_KM s M H locs → lv_has ls 6 [(0, .ref (G.1 0)), (1, .int v1), (4, .int v4), (5, .int v5)] → fz_lp (fun ag z => f_X9_widthIn_16_s ag v1 z.1 z.2 M) n (v4, v5) = some (r, M9) → W p l e (fz_rm 3 74) s m args below meth c H locs 0 0 (MQ below (fz_Qi G fz_shM fz_KM r M9) args s 0 0 (fz_Fr G fz_KM)) (F0 m 16 ls []) := by
  intro n
  induction n with
  | zero =>
    intro v4 v5 H locs ls hT hl h
    cases h
  | succ n ih =>
    intro v4 v5 H locs ls hT hl h
    have h : f_X9_widthIn_16_s (fz_lp (fun ag z => f_X9_widthIn_16_s ag v1 z.1 z.2 M) n) v1 v4 v5 M = some (r, M9) := h
    have hag16 := ih
    generalize fz_lp (fun ag z => f_X9_widthIn_16_s ag v1 z.1 z.2 M) n = ag16 at h hag16
    refine lv_iload C.1 C.2.1 dX9_widthIn_16 (lv_at hl 3 rfl) ?_
    refine lv_aload_n C.1 C.2.1 dX9_widthIn_18 rfl (lv_at hl 0 rfl) ?_
    refine fz_geti C hF hT fz_m0 (j := 6) rfl fl_X9_128 dX9_widthIn_19 ?_
    refine lv_icmp_ge (tgt := 58) C.1 C.2.1 dX9_widthIn_22 (by decide) (fun c1 => ?_) (fun c1 => ?_)
    · have h := fz_ip c1 h
      refine lv_iload C.1 C.2.1 dX9_widthIn_58 (lv_at hl 2 rfl) ?_
      cases h
      exact fz_reti C hr hlk hT dX9_widthIn_60
    · have h := fz_iq c1 h
      refine lv_iload C.1 C.2.1 dX9_widthIn_25 (lv_at hl 2 rfl) ?_
      refine lv_aload_n C.1 C.2.1 dX9_widthIn_27 rfl (lv_at hl 0 rfl) ?_
      refine fz_getr C hF hT fz_m0 (j := 39) rfl fl_X9_95 dX9_widthIn_28 ?_
      refine lv_iload C.1 C.2.1 dX9_widthIn_31 (lv_at hl 3 rfl) ?_
      obtain ⟨g2, h⟩ := fz_gd_s h
      refine fz_ia C hF hT fz_m29 g2 dX9_widthIn_33 ?_
      refine lv_iload_n C.1 C.2.1 dX9_widthIn_34 rfl (lv_at hl 1 rfl) ?_
      refine lv_icmp_ne (tgt := 48) C.1 C.2.1 dX9_widthIn_35 (by decide) (fun c3 => ?_) (fun c3 => ?_)
      · have h := fz_ip c3 h
        refine lv_iconst (v := 0) C.1 C.2.1 dX9_widthIn_48 (by decide) ?_
        exact b_X9_widthIn_49 C hr hlk hF hag16 hT (lv_sub hl [0, 1, 3] rfl) h
      · have h := fz_iq (not_not_intro c3) h
        refine lv_aload_n C.1 C.2.1 dX9_widthIn_38 rfl (lv_at hl 0 rfl) ?_
        refine fz_getr C hF hT fz_m0 (j := 14) rfl fl_X9_35 dX9_widthIn_39 ?_
        refine lv_iload C.1 C.2.1 dX9_widthIn_42 (lv_at hl 3 rfl) ?_
        obtain ⟨g4, h⟩ := fz_gd_s h
        refine fz_ia C hF hT fz_m9 g4 dX9_widthIn_44 ?_
        refine lv_goto (tgt := 49) C.1 C.2.1 dX9_widthIn_45 (by decide) ?_
        exact b_X9_widthIn_49 C hr hlk hF hag16 hT (lv_sub hl [0, 1, 3] rfl) h
set_option maxHeartbeats 4000000 in
set_option maxRecDepth 100000 in
theorem b_X9_widthIn_16 {p : Program} {l : Launch} {e : Env} {s : State} {m : MethodId} {args : Array Value} {below : List Frame} {meth : Method} {c : Code} {G : fz_G}     {v1 : Int32} {v4 : Int32} {v5 : Int32} {M : fz_M} {H : Heap} {locs : List Loc} {ls : Array Slot} {r : Int32} {M9 : fz_M} (C : CallFix p m c cX9_widthIn 6 s args wsL_law RX9) (hr : meth.sig.returnType = (some .int)) (hlk : meth.locks = false) (hF : fz_F G fz_KM s)  (hT : fz_T G fz_shM fz_KM s M H locs) (hl : lv_has ls 6 [(0, .ref (G.1 0)), (1, .int v1), (4, .int v4), (5, .int v5)]) (h : f_X9_widthIn_16 v1 v4 v5 M = some (r, M9)) : W p l e (fz_rm 3 74) s m args below meth c H locs 0 0 (MQ below (fz_Qi G fz_shM fz_KM r M9) args s 0 0 (fz_Fr G fz_KM)) (F0 m 16 ls []) :=
  b_X9_widthIn_16_l C hr hlk hF fz_fuel v4 v5 H locs ls hT hl h
set_option maxHeartbeats 4000000 in
set_option maxRecDepth 100000 in
theorem b_X9_widthIn_0 {p : Program} {l : Launch} {e : Env} {s : State} {m : MethodId} {args : Array Value} {below : List Frame} {meth : Method} {c : Code} {G : fz_G}     {v1 : Int32} {v2 : Int32} {v3 : Int32} {M : fz_M} {H : Heap} {locs : List Loc} {ls : Array Slot} {r : Int32} {M9 : fz_M} (C : CallFix p m c cX9_widthIn 6 s args wsL_law RX9) (hr : meth.sig.returnType = (some .int)) (hlk : meth.locks = false) (hF : fz_F G fz_KM s)  (hT : fz_T G fz_shM fz_KM s M H locs) (hl : lv_has ls 6 [(0, .ref (G.1 0)), (1, .int v1), (2, .int v2), (3, .int v3)]) (h : f_X9_widthIn v1 v2 v3 M = some (r, M9)) : W p l e (fz_rm 3 74) s m args below meth c H locs 0 0 (MQ below (fz_Qi G fz_shM fz_KM r M9) args s 0 0 (fz_Fr G fz_KM)) (F0 m 0 ls []) := by
  refine lv_aload_n C.1 C.2.1 dX9_widthIn_0 rfl (lv_at hl 0 rfl) ?_
  obtain ⟨M2, w3, h⟩ := fz_b1_s h
  refine fz_cv hT (fz_runV (np := 0) (rest := []) C hF hT (c_X9_begin l G M M2 w3) fz_m0 (T := TX9) (N := 49) rfl cl_X9_225 rfl hl.1 rfl (Nat.le_of_ble_eq_true rfl) ⟨Nat.le_of_ble_eq_true rfl, Nat.le_of_ble_eq_true rfl, Nat.zero_le _, Nat.zero_le _⟩ dX9_widthIn_1) (fun H locs hT => ?_)
  refine lv_aload_n C.1 C.2.1 dX9_widthIn_4 rfl (lv_at hl 0 rfl) ?_
  refine lv_iload_n C.1 C.2.1 dX9_widthIn_5 rfl (lv_at hl 2 rfl) ?_
  refine lv_iload_n C.1 C.2.1 dX9_widthIn_6 rfl (lv_at hl 3 rfl) ?_
  obtain ⟨M5, w6, h⟩ := fz_b1_s h
  refine fz_cv hT (fz_runV (np := 2) (rest := []) C hF hT (c_X9_goHours l G v2 v3 M2 M5 w6) fz_m0 (T := TX9) (N := 49) rfl cl_X9_234 rfl hl.1 rfl (Nat.le_of_ble_eq_true rfl) ⟨Nat.le_of_ble_eq_true rfl, Nat.le_of_ble_eq_true rfl, Nat.zero_le _, Nat.zero_le _⟩ dX9_widthIn_7) (fun H locs hT => ?_)
  refine lv_iconst (v := 0) C.1 C.2.1 dX9_widthIn_10 (by decide) ?_
  refine lv_istore (lv' := [(4, .int 0), (0, .ref (G.1 0)), (1, .int v1), (2, .int v2), (3, .int v3)]) C.1 C.2.1 dX9_widthIn_11 hl (by decide) rfl (fun ls hl => ?_)
  refine lv_iconst (v := 0) C.1 C.2.1 dX9_widthIn_13 (by decide) ?_
  refine lv_istore (lv' := [(5, .int 0), (4, .int 0), (0, .ref (G.1 0)), (1, .int v1), (2, .int v2), (3, .int v3)]) C.1 C.2.1 dX9_widthIn_14 hl (by decide) rfl (fun ls hl => ?_)
  exact b_X9_widthIn_16 C hr hlk hF hT (lv_sub hl [2, 3, 1, 0] rfl) h
set_option maxRecDepth 100000 in
theorem c_X9_widthIn (l : Launch) (G : fz_G)  (a0 : Int32) (a1 : Int32) (a2 : Int32) (M : fz_M) (r : Int32) (M9 : fz_M) (h : f_X9_widthIn a0 a1 a2 M = some (r, M9)) : fz_Me l yX9_widthIn cX9_widthIn 6 (some .int) 3 74 G fz_shM fz_KM [.ref (G.1 0), .int a0, .int a1, .int a2] M (fz_Qi G fz_shM fz_KM r M9) := by
  refine fz_body (by decide) (Nat.le_of_ble_eq_true rfl) ?_
  intro p e s m args below meth c H locs ls C hr hlk hF hT hl
  have C : CallFix p m c cX9_widthIn 6 s args wsL_law RX9 := C
  have hl : lv_has ls 6 [(0, .ref (G.1 0)), (1, .int a0), (2, .int a1), (3, .int a2)] := hl
  exact b_X9_widthIn_0 C hr hlk hF hT (lv_sub hl [0, 1, 2, 3] rfl) h
set_option maxHeartbeats 4000000 in
set_option maxRecDepth 100000 in
theorem b_X9_toShut_116 {p : Program} {l : Launch} {e : Env} {s : State} {m : MethodId} {args : Array Value} {below : List Frame} {meth : Method} {c : Code} {G : fz_G}   {ag42 : (Int32 × Int32 × Int32 × fz_M) → Option (Int32 × fz_M)}  {v1 : Int32} {v2 : Int32} {v3 : Int32} {v5 : Int32} {v6 : Int32} {s0 : Int32} {M : fz_M} {H : Heap} {locs : List Loc} {ls : Array Slot} {r : Int32} {M9 : fz_M} (C : CallFix p m c cX9_toShut 8 s args wsL_law RX9) (hr : meth.sig.returnType = (some .int)) (hlk : meth.locks = false) (hF : fz_F G fz_KM s) (hag42 : ∀ (v4 : Int32) (v5 : Int32) (v6 : Int32) (M : fz_M) (H : Heap) (locs : List Loc) (ls : Array Slot), fz_T G fz_shM fz_KM s M H locs → lv_has ls 8 [(0, .ref (G.1 0)), (1, .int v1), (2, .int v2), (3, .int v3), (4, .int v4), (5, .int v5), (6, .int v6)] → ag42 (v4, v5, v6, M) = some (r, M9) → W p l e (fz_rm 4 99) s m args below meth c H locs 0 0 (MQ below (fz_Qi G fz_shM fz_KM r M9) args s 0 0 (fz_Fr G fz_KM)) (F0 m 42 ls [])) (hT : fz_T G fz_shM fz_KM s M H locs) (hl : lv_has ls 8 [(0, .ref (G.1 0)), (1, .int v1), (2, .int v2), (3, .int v3), (5, .int v5), (6, .int v6)]) (h : f_X9_toShut_116 ag42 v1 v2 v3 v5 v6 s0 M = some (r, M9)) : W p l e (fz_rm 4 99) s m args below meth c H locs 0 0 (MQ below (fz_Qi G fz_shM fz_KM r M9) args s 0 0 (fz_Fr G fz_KM)) (F0 m 116 ls [.int s0]) := by
  refine lv_istore (lv' := [(4, .int s0), (0, .ref (G.1 0)), (1, .int v1), (2, .int v2), (3, .int v3), (5, .int v5), (6, .int v6)]) C.1 C.2.1 dX9_toShut_116 hl (by decide) rfl (fun ls hl => ?_)
  refine lv_iinc (v := (v6 + 1)) (lv' := [(6, .int (v6 + 1)), (4, .int s0), (0, .ref (G.1 0)), (1, .int v1), (2, .int v2), (3, .int v3), (5, .int v5)]) C.1 C.2.1 dX9_toShut_118 hl (k := 6) rfl rfl (by decide) rfl (fun ls hl => ?_)
  refine lv_goto (tgt := 42) C.1 C.2.1 dX9_toShut_121 (by decide) ?_
  exact hag42 s0 v5 (v6 + 1) M _ _ _ hT (lv_sub hl [2, 3, 4, 5, 1, 6, 0] rfl) h
set_option maxHeartbeats 4000000 in
set_option maxRecDepth 100000 in
theorem b_X9_toShut_100 {p : Program} {l : Launch} {e : Env} {s : State} {m : MethodId} {args : Array Value} {below : List Frame} {meth : Method} {c : Code} {G : fz_G}   {ag42 : (Int32 × Int32 × Int32 × fz_M) → Option (Int32 × fz_M)}  {v1 : Int32} {v2 : Int32} {v3 : Int32} {v4 : Int32} {v6 : Int32} {v7 : Int32} {s0 : Int32} {M : fz_M} {H : Heap} {locs : List Loc} {ls : Array Slot} {r : Int32} {M9 : fz_M} (C : CallFix p m c cX9_toShut 8 s args wsL_law RX9) (hr : meth.sig.returnType = (some .int)) (hlk : meth.locks = false) (hF : fz_F G fz_KM s) (hag42 : ∀ (v4 : Int32) (v5 : Int32) (v6 : Int32) (M : fz_M) (H : Heap) (locs : List Loc) (ls : Array Slot), fz_T G fz_shM fz_KM s M H locs → lv_has ls 8 [(0, .ref (G.1 0)), (1, .int v1), (2, .int v2), (3, .int v3), (4, .int v4), (5, .int v5), (6, .int v6)] → ag42 (v4, v5, v6, M) = some (r, M9) → W p l e (fz_rm 4 99) s m args below meth c H locs 0 0 (MQ below (fz_Qi G fz_shM fz_KM r M9) args s 0 0 (fz_Fr G fz_KM)) (F0 m 42 ls [])) (hT : fz_T G fz_shM fz_KM s M H locs) (hl : lv_has ls 8 [(0, .ref (G.1 0)), (1, .int v1), (2, .int v2), (3, .int v3), (4, .int v4), (6, .int v6), (7, .int v7)]) (h : f_X9_toShut_100 ag42 v1 v2 v3 v4 v6 v7 s0 M = some (r, M9)) : W p l e (fz_rm 4 99) s m args below meth c H locs 0 0 (MQ below (fz_Qi G fz_shM fz_KM r M9) args s 0 0 (fz_Fr G fz_KM)) (F0 m 100 ls [.int s0]) := by
  refine lv_istore (lv' := [(5, .int s0), (0, .ref (G.1 0)), (1, .int v1), (2, .int v2), (3, .int v3), (4, .int v4), (6, .int v6), (7, .int v7)]) C.1 C.2.1 dX9_toShut_100 hl (by decide) rfl (fun ls hl => ?_)
  refine lv_iload C.1 C.2.1 dX9_toShut_102 (lv_at hl 7 rfl) ?_
  refine lv_iload C.1 C.2.1 dX9_toShut_104 (lv_at hl 5 rfl) ?_
  refine lv_icmp_le (tgt := 114) C.1 C.2.1 dX9_toShut_106 (by decide) (fun c1 => ?_) (fun c1 => ?_)
  · have h := fz_ip c1 h
    refine lv_iload C.1 C.2.1 dX9_toShut_114 (lv_at hl 5 rfl) ?_
    exact b_X9_toShut_116 C hr hlk hF hag42 hT (lv_sub hl [1, 2, 3, 4, 0, 6] rfl) h
  · have h := fz_iq c1 h
    refine lv_iload C.1 C.2.1 dX9_toShut_109 (lv_at hl 7 rfl) ?_
    refine lv_goto (tgt := 116) C.1 C.2.1 dX9_toShut_111 (by decide) ?_
    exact b_X9_toShut_116 C hr hlk hF hag42 hT (lv_sub hl [1, 2, 3, 4, 0, 6] rfl) h
set_option maxHeartbeats 4000000 in
set_option maxRecDepth 100000 in
theorem b_X9_toShut_42_l {p : Program} {l : Launch} {e : Env} {s : State} {m : MethodId} {args : Array Value} {below : List Frame} {meth : Method} {c : Code} {G : fz_G}     {v1 : Int32} {v2 : Int32} {v3 : Int32}  {r : Int32} {M9 : fz_M} (C : CallFix p m c cX9_toShut 8 s args wsL_law RX9) (hr : meth.sig.returnType = (some .int)) (hlk : meth.locks = false) (hF : fz_F G fz_KM s)  : ∀ (n : Nat) (v4 : Int32) (v5 : Int32) (v6 : Int32) (M : fz_M) (H : Heap) (locs : List Loc) (ls : Array Slot), fz_T G fz_shM fz_KM s M H locs → lv_has ls 8 [(0, .ref (G.1 0)), (1, .int v1), (2, .int v2), (3, .int v3), (4, .int v4), (5, .int v5), (6, .int v6)] → fz_lp (fun ag z => f_X9_toShut_42_s ag v1 v2 v3 z.1 z.2.1 z.2.2.1 z.2.2.2) n (v4, v5, v6, M) = some (r, M9) → W p l e (fz_rm 4 99) s m args below meth c H locs 0 0 (MQ below (fz_Qi G fz_shM fz_KM r M9) args s 0 0 (fz_Fr G fz_KM)) (F0 m 42 ls []) := by
  intro n
  induction n with
  | zero =>
    intro v4 v5 v6 M H locs ls hT hl h
    cases h
  | succ n ih =>
    intro v4 v5 v6 M H locs ls hT hl h
    have h : f_X9_toShut_42_s (fz_lp (fun ag z => f_X9_toShut_42_s ag v1 v2 v3 z.1 z.2.1 z.2.2.1 z.2.2.2) n) v1 v2 v3 v4 v5 v6 M = some (r, M9) := h
    have hag42 := ih
    generalize fz_lp (fun ag z => f_X9_toShut_42_s ag v1 v2 v3 z.1 z.2.1 z.2.2.1 z.2.2.2) n = ag42 at h hag42
    refine lv_iload C.1 C.2.1 dX9_toShut_42 (lv_at hl 6 rfl) ?_
    refine lv_aload_n C.1 C.2.1 dX9_toShut_44 rfl (lv_at hl 0 rfl) ?_
    refine fz_geti C hF hT fz_m0 (j := 5) rfl fl_X9_188 dX9_toShut_45 ?_
    refine lv_icmp_ge (tgt := 124) C.1 C.2.1 dX9_toShut_48 (by decide) (fun c1 => ?_) (fun c1 => ?_)
    · have h := fz_ip c1 h
      refine lv_iload C.1 C.2.1 dX9_toShut_124 (lv_at hl 5 rfl) ?_
      cases h
      exact fz_reti C hr hlk hT dX9_toShut_126
    · have h := fz_iq c1 h
      refine lv_aload_n C.1 C.2.1 dX9_toShut_51 rfl (lv_at hl 0 rfl) ?_
      refine fz_getr C hF hT fz_m0 (j := 12) rfl fl_X9_28 dX9_toShut_52 ?_
      refine lv_iload C.1 C.2.1 dX9_toShut_55 (lv_at hl 6 rfl) ?_
      obtain ⟨g2, h⟩ := fz_gd_s h
      refine fz_za C hF hT fz_m7 g2 dX9_toShut_57 ?_
      refine lv_if_ne (tgt := 118) C.1 C.2.1 dX9_toShut_58 (by decide) (fun c3 => ?_) (fun c3 => ?_)
      · have h := fz_ip c3 h
        refine lv_iinc (v := (v6 + 1)) (lv' := [(6, .int (v6 + 1)), (0, .ref (G.1 0)), (1, .int v1), (2, .int v2), (3, .int v3), (4, .int v4), (5, .int v5)]) C.1 C.2.1 dX9_toShut_118 hl (k := 6) rfl rfl (by decide) rfl (fun ls hl => ?_)
        refine lv_goto (tgt := 42) C.1 C.2.1 dX9_toShut_121 (by decide) ?_
        exact hag42 v4 v5 (v6 + 1) M _ _ _ hT (lv_sub hl [1, 2, 3, 4, 5, 6, 0] rfl) h
      · have h := fz_iq (not_not_intro c3) h
        refine lv_aload_n C.1 C.2.1 dX9_toShut_61 rfl (lv_at hl 0 rfl) ?_
        refine fz_getr C hF hT fz_m0 (j := 12) rfl fl_X9_28 dX9_toShut_62 ?_
        refine lv_iload C.1 C.2.1 dX9_toShut_65 (lv_at hl 6 rfl) ?_
        refine lv_iconst (v := 1) C.1 C.2.1 dX9_toShut_67 (by decide) ?_
        obtain ⟨g4, h⟩ := fz_gd_s h
        obtain ⟨M5, eM5, h⟩ := fz_bd_s h
        refine fz_zas C hF hT fz_m7 g4 dX9_toShut_68 (fun H locs hT => ?_)
        rw [← eM5] at hT
        refine lv_aload_n C.1 C.2.1 dX9_toShut_69 rfl (lv_at hl 0 rfl) ?_
        refine lv_iload_n C.1 C.2.1 dX9_toShut_70 rfl (lv_at hl 1 rfl) ?_
        refine lv_iload_n C.1 C.2.1 dX9_toShut_71 rfl (lv_at hl 2 rfl) ?_
        refine lv_iload_n C.1 C.2.1 dX9_toShut_72 rfl (lv_at hl 3 rfl) ?_
        obtain ⟨r6, M7, w8, h⟩ := fz_b2_s h
        refine fz_ci hT (fz_runV (np := 3) (rest := []) C hF hT (c_X9_widthIn l G v1 v2 v3 M5 r6 M7 w8) fz_m0 (T := TX9) (N := 49) rfl cl_X9_248 rfl hl.1 rfl (Nat.le_of_ble_eq_true rfl) ⟨Nat.le_of_ble_eq_true rfl, Nat.le_of_ble_eq_true rfl, Nat.zero_le _, Nat.zero_le _⟩ dX9_toShut_73) (fun H locs hT => ?_)
        refine lv_istore (lv' := [(7, .int r6), (0, .ref (G.1 0)), (1, .int v1), (2, .int v2), (3, .int v3), (4, .int v4), (5, .int v5), (6, .int v6)]) C.1 C.2.1 dX9_toShut_76 hl (by decide) rfl (fun ls hl => ?_)
        refine lv_aload_n C.1 C.2.1 dX9_toShut_78 rfl (lv_at hl 1 rfl) ?_
        refine fz_getr C hF hT fz_m0 (j := 12) rfl fl_X9_28 dX9_toShut_79 ?_
        refine lv_iload C.1 C.2.1 dX9_toShut_82 (lv_at hl 7 rfl) ?_
        refine lv_iconst (v := 0) C.1 C.2.1 dX9_toShut_84 (by decide) ?_
        obtain ⟨g9, h⟩ := fz_gd_s h
        obtain ⟨M10, eM10, h⟩ := fz_bd_s h
        refine fz_zas C hF hT fz_m7 g9 dX9_toShut_85 (fun H locs hT => ?_)
        rw [← eM10] at hT
        refine lv_iload C.1 C.2.1 dX9_toShut_86 (lv_at hl 0 rfl) ?_
        refine lv_iload C.1 C.2.1 dX9_toShut_88 (lv_at hl 5 rfl) ?_
        refine lv_icmp_le (tgt := 98) C.1 C.2.1 dX9_toShut_90 (by decide) (fun c11 => ?_) (fun c11 => ?_)
        · have h := fz_ip c11 h
          refine lv_iload C.1 C.2.1 dX9_toShut_98 (lv_at hl 6 rfl) ?_
          exact b_X9_toShut_100 C hr hlk hF hag42 hT (lv_sub hl [1, 2, 3, 4, 5, 7, 0] rfl) h
        · have h := fz_iq c11 h
          refine lv_iload C.1 C.2.1 dX9_toShut_93 (lv_at hl 7 rfl) ?_
          refine lv_goto (tgt := 100) C.1 C.2.1 dX9_toShut_95 (by decide) ?_
          exact b_X9_toShut_100 C hr hlk hF hag42 hT (lv_sub hl [1, 2, 3, 4, 5, 7, 0] rfl) h
set_option maxHeartbeats 4000000 in
set_option maxRecDepth 100000 in
theorem b_X9_toShut_42 {p : Program} {l : Launch} {e : Env} {s : State} {m : MethodId} {args : Array Value} {below : List Frame} {meth : Method} {c : Code} {G : fz_G}     {v1 : Int32} {v2 : Int32} {v3 : Int32} {v4 : Int32} {v5 : Int32} {v6 : Int32} {M : fz_M} {H : Heap} {locs : List Loc} {ls : Array Slot} {r : Int32} {M9 : fz_M} (C : CallFix p m c cX9_toShut 8 s args wsL_law RX9) (hr : meth.sig.returnType = (some .int)) (hlk : meth.locks = false) (hF : fz_F G fz_KM s)  (hT : fz_T G fz_shM fz_KM s M H locs) (hl : lv_has ls 8 [(0, .ref (G.1 0)), (1, .int v1), (2, .int v2), (3, .int v3), (4, .int v4), (5, .int v5), (6, .int v6)]) (h : f_X9_toShut_42 v1 v2 v3 v4 v5 v6 M = some (r, M9)) : W p l e (fz_rm 4 99) s m args below meth c H locs 0 0 (MQ below (fz_Qi G fz_shM fz_KM r M9) args s 0 0 (fz_Fr G fz_KM)) (F0 m 42 ls []) :=
  b_X9_toShut_42_l C hr hlk hF fz_fuel v4 v5 v6 M H locs ls hT hl h
set_option maxHeartbeats 4000000 in
set_option maxRecDepth 100000 in
theorem b_X9_toShut_0 {p : Program} {l : Launch} {e : Env} {s : State} {m : MethodId} {args : Array Value} {below : List Frame} {meth : Method} {c : Code} {G : fz_G}     {v1 : Int32} {v2 : Int32} {v3 : Int32} {M : fz_M} {H : Heap} {locs : List Loc} {ls : Array Slot} {r : Int32} {M9 : fz_M} (C : CallFix p m c cX9_toShut 8 s args wsL_law RX9) (hr : meth.sig.returnType = (some .int)) (hlk : meth.locks = false) (hF : fz_F G fz_KM s)  (hT : fz_T G fz_shM fz_KM s M H locs) (hl : lv_has ls 8 [(0, .ref (G.1 0)), (1, .int v1), (2, .int v2), (3, .int v3)]) (h : f_X9_toShut v1 v2 v3 M = some (r, M9)) : W p l e (fz_rm 4 99) s m args below meth c H locs 0 0 (MQ below (fz_Qi G fz_shM fz_KM r M9) args s 0 0 (fz_Fr G fz_KM)) (F0 m 0 ls []) := by
  refine lv_aload_n C.1 C.2.1 dX9_toShut_0 rfl (lv_at hl 0 rfl) ?_
  refine lv_iconst (v := 0) C.1 C.2.1 dX9_toShut_1 (by decide) ?_
  obtain ⟨M1, eM1, h⟩ := fz_bd_s h
  refine fz_puti C hF hT fz_m0 (j := 0) rfl fw_X9_117 dX9_toShut_2 (fun H locs hT => ?_)
  rw [← eM1] at hT
  refine lv_aload_n C.1 C.2.1 dX9_toShut_5 rfl (lv_at hl 0 rfl) ?_
  refine lv_iload_n C.1 C.2.1 dX9_toShut_6 rfl (lv_at hl 1 rfl) ?_
  obtain ⟨r2, w4, h⟩ := fz_b1_s h
  refine fz_ci hT (fz_runV (np := 1) (rest := []) C hF hT (c_X9_noHouse l G v1 M1 r2 w4) fz_m0 (T := TX9) (N := 49) rfl cl_X9_200 rfl hl.1 rfl (Nat.le_of_ble_eq_true rfl) ⟨Nat.le_of_ble_eq_true rfl, Nat.le_of_ble_eq_true rfl, Nat.zero_le _, Nat.zero_le _⟩ dX9_toShut_7) (fun H locs hT => ?_)
  refine lv_if_eq (tgt := 15) C.1 C.2.1 dX9_toShut_10 (by decide) (fun c5 => ?_) (fun c5 => ?_)
  · have h := fz_ip c5 h
    refine lv_iload_n C.1 C.2.1 dX9_toShut_15 rfl (lv_at hl 2 rfl) ?_
    refine lv_iload_n C.1 C.2.1 dX9_toShut_16 rfl (lv_at hl 3 rfl) ?_
    obtain ⟨r6, w8, h⟩ := fz_b1_s h
    refine fz_ci hT (fz_runS (np := 2) (rest := []) C hF hT (c_X9_noFlood l G v2 v3 M1 r6 w8) cl_X9_231 rfl hl.1 rfl (Nat.le_of_ble_eq_true rfl) ⟨Nat.le_of_ble_eq_true rfl, Nat.le_of_ble_eq_true rfl, Nat.zero_le _, Nat.zero_le _⟩ dX9_toShut_17) (fun H locs hT => ?_)
    refine lv_if_eq (tgt := 26) C.1 C.2.1 dX9_toShut_20 (by decide) (fun c9 => ?_) (fun c9 => ?_)
    · have h := fz_ip c9 h
      refine lv_aload_n C.1 C.2.1 dX9_toShut_26 rfl (lv_at hl 0 rfl) ?_
      refine lv_iload_n C.1 C.2.1 dX9_toShut_27 rfl (lv_at hl 1 rfl) ?_
      refine lv_iload_n C.1 C.2.1 dX9_toShut_28 rfl (lv_at hl 2 rfl) ?_
      refine lv_iload_n C.1 C.2.1 dX9_toShut_29 rfl (lv_at hl 3 rfl) ?_
      obtain ⟨r10, M11, w12, h⟩ := fz_b2_s h
      refine fz_ci hT (fz_runV (np := 3) (rest := []) C hF hT (c_X9_widthIn l G v1 v2 v3 M1 r10 M11 w12) fz_m0 (T := TX9) (N := 49) rfl cl_X9_248 rfl hl.1 rfl (Nat.le_of_ble_eq_true rfl) ⟨Nat.le_of_ble_eq_true rfl, Nat.le_of_ble_eq_true rfl, Nat.zero_le _, Nat.zero_le _⟩ dX9_toShut_30) (fun H locs hT => ?_)
      refine lv_istore (lv' := [(4, .int r10), (0, .ref (G.1 0)), (1, .int v1), (2, .int v2), (3, .int v3)]) C.1 C.2.1 dX9_toShut_33 hl (by decide) rfl (fun ls hl => ?_)
      refine lv_bipush (v := (-9)) C.1 C.2.1 dX9_toShut_35 (by decide) ?_
      refine lv_istore (lv' := [(5, .int (-9)), (4, .int r10), (0, .ref (G.1 0)), (1, .int v1), (2, .int v2), (3, .int v3)]) C.1 C.2.1 dX9_toShut_37 hl (by decide) rfl (fun ls hl => ?_)
      refine lv_iconst (v := 0) C.1 C.2.1 dX9_toShut_39 (by decide) ?_
      refine lv_istore (lv' := [(6, .int 0), (5, .int (-9)), (4, .int r10), (0, .ref (G.1 0)), (1, .int v1), (2, .int v2), (3, .int v3)]) C.1 C.2.1 dX9_toShut_40 hl (by decide) rfl (fun ls hl => ?_)
      exact b_X9_toShut_42 C hr hlk hF hT (lv_sub hl [3, 4, 5, 6, 2, 1, 0] rfl) h
    · have h := fz_iq c9 h
      refine lv_bipush (v := (-2)) C.1 C.2.1 dX9_toShut_23 (by decide) ?_
      cases h
      exact fz_reti C hr hlk hT dX9_toShut_25
  · have h := fz_iq c5 h
    refine lv_iconst (v := (-1)) C.1 C.2.1 dX9_toShut_13 (by decide) ?_
    cases h
    exact fz_reti C hr hlk hT dX9_toShut_14
set_option maxRecDepth 100000 in
theorem c_X9_toShut (l : Launch) (G : fz_G)  (a0 : Int32) (a1 : Int32) (a2 : Int32) (M : fz_M) (r : Int32) (M9 : fz_M) (h : f_X9_toShut a0 a1 a2 M = some (r, M9)) : fz_Me l yX9_toShut cX9_toShut 8 (some .int) 4 99 G fz_shM fz_KM [.ref (G.1 0), .int a0, .int a1, .int a2] M (fz_Qi G fz_shM fz_KM r M9) := by
  refine fz_body (by decide) (Nat.le_of_ble_eq_true rfl) ?_
  intro p e s m args below meth c H locs ls C hr hlk hF hT hl
  have C : CallFix p m c cX9_toShut 8 s args wsL_law RX9 := C
  have hl : lv_has ls 8 [(0, .ref (G.1 0)), (1, .int a0), (2, .int a1), (3, .int a2)] := hl
  exact b_X9_toShut_0 C hr hlk hF hT (lv_sub hl [0, 1, 2, 3] rfl) h
