set_option maxHeartbeats 4000000 in
set_option maxRecDepth 100000 in
theorem b_X0_forgetAll_0 {p : Program} {l : Launch} {e : Env} {s : State} {m : MethodId} {args : Array Value} {below : List Frame} {meth : Method} {c : Code} {G : fz_G}      {M : fz_M} {H : Heap} {locs : List Loc} {ls : Array Slot} {M9 : fz_M} (C : CallFix p m c cX0_forgetAll 1 s args wsL_law RX0) (hr : meth.sig.returnType = none) (hlk : meth.locks = false) (hF : fz_F G fz_KC s)  (hT : fz_T G fz_shC fz_KC s M H locs) (hl : lv_has ls 1 [(0, .ref (G.1 5))]) (h : f_X0_forgetAll M = some M9) : W p l e (fz_rm 0 0) s m args below meth c H locs 0 0 (MQ below (fz_Qv G fz_shC fz_KC M9) args s 0 0 (fz_Fr G fz_KC)) (F0 m 0 ls []) := by
  refine lv_aload_n C.1 C.2.1 dX0_forgetAll_0 rfl (lv_at hl 0 rfl) ?_
  refine lv_iconst (v := 0) C.1 C.2.1 dX0_forgetAll_1 (by decide) ?_
  obtain ⟨M1, eM1, h⟩ := fz_bd_s h
  refine fz_puti C hF hT fz_c5 (j := 2) rfl fw_X0_18 dX0_forgetAll_2 (fun H locs hT => ?_)
  rw [← eM1] at hT
  cases h
  exact fz_retv C hr hlk hT dX0_forgetAll_5
set_option maxRecDepth 100000 in
theorem c_X0_forgetAll (l : Launch) (G : fz_G)   (M : fz_M) (M9 : fz_M) (h : f_X0_forgetAll M = some M9) : fz_Me l yX0_forgetAll cX0_forgetAll 1 none 0 0 G fz_shC fz_KC [.ref (G.1 5)] M (fz_Qv G fz_shC fz_KC M9) := by
  refine fz_body (by decide) (Nat.le_of_ble_eq_true rfl) ?_
  intro p e s m args below meth c H locs ls C hr hlk hF hT hl
  have C : CallFix p m c cX0_forgetAll 1 s args wsL_law RX0 := C
  have hl : lv_has ls 1 [(0, .ref (G.1 5))] := hl
  exact b_X0_forgetAll_0 C hr hlk hF hT (lv_sub hl [0] rfl) h
set_option maxHeartbeats 4000000 in
set_option maxRecDepth 100000 in
theorem b_X6_takePlacesAndTies_2_l {p : Program} {l : Launch} {e : Env} {s : State} {m : MethodId} {args : Array Value} {below : List Frame} {meth : Method} {c : Code} {G : fz_G} {k : Nat} (hk : fz_isS k) {k0 : Nat} (hk0 : fz_ar fz_shC fz_KC k0 0 6 0 0) {k1 : Nat} (hk1 : fz_ar fz_shC fz_KC k1 0 6 0 0)      {M9 : fz_M} (C : CallFix p m c cX6_takePlacesAndTies 4 s args wsL_law RX6) (hr : meth.sig.returnType = none) (hlk : meth.locks = false) (hF : fz_F G fz_KC s)  : ∀ (n : Nat) (v3 : Int32) (M : fz_M) (H : Heap) (locs : List Loc) (ls : Array Slot), fz_T G fz_shC fz_KC s M H locs → lv_has ls 4 [(0, .ref (G.1 k)), (1, .ref (G.1 k0)), (2, .ref (G.1 k1)), (3, .int v3)] → fz_lp (fun ag z => f_X6_takePlacesAndTies_2_s k k0 k1 ag z.1 z.2) n (v3, M) = some M9 → W p l e (fz_rm 0 0) s m args below meth c H locs 0 0 (MQ below (fz_Qv G fz_shC fz_KC M9) args s 0 0 (fz_Fr G fz_KC)) (F0 m 2 ls []) := by
  intro n
  induction n with
  | zero =>
    intro v3 M H locs ls hT hl h
    cases h
  | succ n ih =>
    intro v3 M H locs ls hT hl h
    have h : f_X6_takePlacesAndTies_2_s k k0 k1 (fz_lp (fun ag z => f_X6_takePlacesAndTies_2_s k k0 k1 ag z.1 z.2) n) v3 M = some M9 := h
    have hag2 := ih
    generalize fz_lp (fun ag z => f_X6_takePlacesAndTies_2_s k k0 k1 ag z.1 z.2) n = ag2 at h hag2
    refine lv_iload_n C.1 C.2.1 dX6_takePlacesAndTies_2 rfl (lv_at hl 3 rfl) ?_
    refine lv_bipush (v := 6) C.1 C.2.1 dX6_takePlacesAndTies_3 (by decide) ?_
    refine lv_icmp_ge (tgt := 32) C.1 C.2.1 dX6_takePlacesAndTies_5 (by decide) (fun c1 => ?_) (fun c1 => ?_)
    · have h := fz_ip c1 h
      cases h
      exact fz_retv C hr hlk hT dX6_takePlacesAndTies_32
    · have h := fz_iq c1 h
      refine lv_aload_n C.1 C.2.1 dX6_takePlacesAndTies_8 rfl (lv_at hl 0 rfl) ?_
      refine fz_getr C hF hT (fz_st hk) (j := 1) rfl fl_X6_9 dX6_takePlacesAndTies_9 ?_
      refine lv_iload_n C.1 C.2.1 dX6_takePlacesAndTies_12 rfl (lv_at hl 3 rfl) ?_
      refine lv_aload_n C.1 C.2.1 dX6_takePlacesAndTies_13 rfl (lv_at hl 1 rfl) ?_
      refine lv_iload_n C.1 C.2.1 dX6_takePlacesAndTies_14 rfl (lv_at hl 3 rfl) ?_
      obtain ⟨g2, h⟩ := fz_gd_s h
      refine fz_ia C hF hT hk0 g2 dX6_takePlacesAndTies_15 ?_
      obtain ⟨g3, h⟩ := fz_gd_s h
      obtain ⟨M4, eM4, h⟩ := fz_bd_s h
      refine fz_ias C hF hT (fz_st1 hk) g3 dX6_takePlacesAndTies_16 (fun H locs hT => ?_)
      rw [← eM4] at hT
      refine lv_aload_n C.1 C.2.1 dX6_takePlacesAndTies_17 rfl (lv_at hl 0 rfl) ?_
      refine fz_getr C hF hT (fz_st hk) (j := 2) rfl fl_X6_15 dX6_takePlacesAndTies_18 ?_
      refine lv_iload_n C.1 C.2.1 dX6_takePlacesAndTies_21 rfl (lv_at hl 3 rfl) ?_
      refine lv_aload_n C.1 C.2.1 dX6_takePlacesAndTies_22 rfl (lv_at hl 2 rfl) ?_
      refine lv_iload_n C.1 C.2.1 dX6_takePlacesAndTies_23 rfl (lv_at hl 3 rfl) ?_
      obtain ⟨g5, h⟩ := fz_gd_s h
      refine fz_ia C hF hT hk1 g5 dX6_takePlacesAndTies_24 ?_
      obtain ⟨g6, h⟩ := fz_gd_s h
      obtain ⟨M7, eM7, h⟩ := fz_bd_s h
      refine fz_ias C hF hT (fz_st2 hk) g6 dX6_takePlacesAndTies_25 (fun H locs hT => ?_)
      rw [← eM7] at hT
      refine lv_iinc (v := (v3 + 1)) (lv' := [(3, .int (v3 + 1)), (0, .ref (G.1 k)), (1, .ref (G.1 k0)), (2, .ref (G.1 k1))]) C.1 C.2.1 dX6_takePlacesAndTies_26 hl (k := 3) rfl rfl (by decide) rfl (fun ls hl => ?_)
      refine lv_goto (tgt := 2) C.1 C.2.1 dX6_takePlacesAndTies_29 (by decide) ?_
      exact hag2 (v3 + 1) M7 _ _ _ hT (lv_sub hl [1, 2, 3, 0] rfl) h
set_option maxHeartbeats 4000000 in
set_option maxRecDepth 100000 in
theorem b_X6_takePlacesAndTies_2 {p : Program} {l : Launch} {e : Env} {s : State} {m : MethodId} {args : Array Value} {below : List Frame} {meth : Method} {c : Code} {G : fz_G} {k : Nat} (hk : fz_isS k) {k0 : Nat} (hk0 : fz_ar fz_shC fz_KC k0 0 6 0 0) {k1 : Nat} (hk1 : fz_ar fz_shC fz_KC k1 0 6 0 0)    {v3 : Int32} {M : fz_M} {H : Heap} {locs : List Loc} {ls : Array Slot} {M9 : fz_M} (C : CallFix p m c cX6_takePlacesAndTies 4 s args wsL_law RX6) (hr : meth.sig.returnType = none) (hlk : meth.locks = false) (hF : fz_F G fz_KC s)  (hT : fz_T G fz_shC fz_KC s M H locs) (hl : lv_has ls 4 [(0, .ref (G.1 k)), (1, .ref (G.1 k0)), (2, .ref (G.1 k1)), (3, .int v3)]) (h : f_X6_takePlacesAndTies_2 k k0 k1 v3 M = some M9) : W p l e (fz_rm 0 0) s m args below meth c H locs 0 0 (MQ below (fz_Qv G fz_shC fz_KC M9) args s 0 0 (fz_Fr G fz_KC)) (F0 m 2 ls []) :=
  b_X6_takePlacesAndTies_2_l hk hk0 hk1 C hr hlk hF fz_fuel v3 M H locs ls hT hl h
set_option maxHeartbeats 4000000 in
set_option maxRecDepth 100000 in
theorem b_X6_takePlacesAndTies_0 {p : Program} {l : Launch} {e : Env} {s : State} {m : MethodId} {args : Array Value} {below : List Frame} {meth : Method} {c : Code} {G : fz_G} {k : Nat} (hk : fz_isS k) {k0 : Nat} (hk0 : fz_ar fz_shC fz_KC k0 0 6 0 0) {k1 : Nat} (hk1 : fz_ar fz_shC fz_KC k1 0 6 0 0)     {M : fz_M} {H : Heap} {locs : List Loc} {ls : Array Slot} {M9 : fz_M} (C : CallFix p m c cX6_takePlacesAndTies 4 s args wsL_law RX6) (hr : meth.sig.returnType = none) (hlk : meth.locks = false) (hF : fz_F G fz_KC s)  (hT : fz_T G fz_shC fz_KC s M H locs) (hl : lv_has ls 4 [(0, .ref (G.1 k)), (1, .ref (G.1 k0)), (2, .ref (G.1 k1))]) (h : f_X6_takePlacesAndTies k k0 k1 M = some M9) : W p l e (fz_rm 0 0) s m args below meth c H locs 0 0 (MQ below (fz_Qv G fz_shC fz_KC M9) args s 0 0 (fz_Fr G fz_KC)) (F0 m 0 ls []) := by
  refine lv_iconst (v := 0) C.1 C.2.1 dX6_takePlacesAndTies_0 (by decide) ?_
  refine lv_istore_n (lv' := [(3, .int 0), (0, .ref (G.1 k)), (1, .ref (G.1 k0)), (2, .ref (G.1 k1))]) C.1 C.2.1 dX6_takePlacesAndTies_1 rfl hl (by decide) rfl (fun ls hl => ?_)
  exact b_X6_takePlacesAndTies_2 hk hk0 hk1 C hr hlk hF hT (lv_sub hl [1, 2, 3, 0] rfl) h
set_option maxRecDepth 100000 in
theorem c_X6_takePlacesAndTies (l : Launch) (G : fz_G) (k : Nat) (hk : fz_isS k) (k0 : Nat) (hk0 : fz_ar fz_shC fz_KC k0 0 6 0 0) (k1 : Nat) (hk1 : fz_ar fz_shC fz_KC k1 0 6 0 0)  (M : fz_M) (M9 : fz_M) (h : f_X6_takePlacesAndTies k k0 k1 M = some M9) : fz_Me l yX6_takePlacesAndTies cX6_takePlacesAndTies 4 none 0 0 G fz_shC fz_KC [.ref (G.1 k), .ref (G.1 k0), .ref (G.1 k1)] M (fz_Qv G fz_shC fz_KC M9) := by
  refine fz_body (by decide) (Nat.le_of_ble_eq_true rfl) ?_
  intro p e s m args below meth c H locs ls C hr hlk hF hT hl
  have C : CallFix p m c cX6_takePlacesAndTies 4 s args wsL_law RX6 := C
  have hl : lv_has ls 4 [(0, .ref (G.1 k)), (1, .ref (G.1 k0)), (2, .ref (G.1 k1))] := hl
  exact b_X6_takePlacesAndTies_0 hk hk0 hk1 C hr hlk hF hT (lv_sub hl [0, 1, 2] rfl) h
set_option maxHeartbeats 4000000 in
set_option maxRecDepth 100000 in
theorem b_X6_takeAllButShut_54_l {p : Program} {l : Launch} {e : Env} {s : State} {m : MethodId} {args : Array Value} {below : List Frame} {meth : Method} {c : Code} {G : fz_G} {k : Nat} (hk : fz_isS k) {k0 : Nat} (hk0 : fz_isS k0)  {ag22 : (Int32 × fz_M) → Option fz_M}  {v2 : Int32}  {M9 : fz_M} (C : CallFix p m c cX6_takeAllButShut 4 s args wsL_law RX6) (hr : meth.sig.returnType = none) (hlk : meth.locks = false) (hF : fz_F G fz_KC s) (hag22 : ∀ (v2 : Int32) (M : fz_M) (H : Heap) (locs : List Loc) (ls : Array Slot), fz_T G fz_shC fz_KC s M H locs → lv_has ls 4 [(0, .ref (G.1 k)), (1, .ref (G.1 k0)), (2, .int v2)] → ag22 (v2, M) = some M9 → W p l e (fz_rm 1 23) s m args below meth c H locs 0 0 (MQ below (fz_Qv G fz_shC fz_KC M9) args s 0 0 (fz_Fr G fz_KC)) (F0 m 22 ls [])) : ∀ (n : Nat) (v3 : Int32) (M : fz_M) (H : Heap) (locs : List Loc) (ls : Array Slot), fz_T G fz_shC fz_KC s M H locs → lv_has ls 4 [(0, .ref (G.1 k)), (1, .ref (G.1 k0)), (2, .int v2), (3, .int v3)] → fz_lp (fun ag z => f_X6_takeAllButShut_54_s k k0 ag22 ag v2 z.1 z.2) n (v3, M) = some M9 → W p l e (fz_rm 1 23) s m args below meth c H locs 0 0 (MQ below (fz_Qv G fz_shC fz_KC M9) args s 0 0 (fz_Fr G fz_KC)) (F0 m 54 ls []) := by
  intro n
  induction n with
  | zero =>
    intro v3 M H locs ls hT hl h
    cases h
  | succ n ih =>
    intro v3 M H locs ls hT hl h
    have h : f_X6_takeAllButShut_54_s k k0 ag22 (fz_lp (fun ag z => f_X6_takeAllButShut_54_s k k0 ag22 ag v2 z.1 z.2) n) v2 v3 M = some M9 := h
    have hag54 := ih
    generalize fz_lp (fun ag z => f_X6_takeAllButShut_54_s k k0 ag22 ag v2 z.1 z.2) n = ag54 at h hag54
    refine lv_iload_n C.1 C.2.1 dX6_takeAllButShut_54 rfl (lv_at hl 3 rfl) ?_
    refine lv_bipush (v := 8) C.1 C.2.1 dX6_takeAllButShut_55 (by decide) ?_
    refine lv_icmp_ge (tgt := 82) C.1 C.2.1 dX6_takeAllButShut_57 (by decide) (fun c1 => ?_) (fun c1 => ?_)
    · have h := fz_ip c1 h
      refine lv_iinc (v := (v2 + 1)) (lv' := [(2, .int (v2 + 1)), (0, .ref (G.1 k)), (1, .ref (G.1 k0)), (3, .int v3)]) C.1 C.2.1 dX6_takeAllButShut_82 hl (k := 2) rfl rfl (by decide) rfl (fun ls hl => ?_)
      refine lv_goto (tgt := 22) C.1 C.2.1 dX6_takeAllButShut_85 (by decide) ?_
      exact hag22 (v2 + 1) M _ _ _ hT (lv_sub hl [1, 2, 0] rfl) h
    · have h := fz_iq c1 h
      refine lv_aload_n C.1 C.2.1 dX6_takeAllButShut_60 rfl (lv_at hl 0 rfl) ?_
      refine fz_getr C hF hT (fz_st hk) (j := 5) rfl fl_X6_26 dX6_takeAllButShut_61 ?_
      refine lv_iload_n C.1 C.2.1 dX6_takeAllButShut_64 rfl (lv_at hl 2 rfl) ?_
      obtain ⟨g2, h⟩ := fz_gd_s h
      refine fz_aa4 C hF hT (fz_st5 hk) g2 dX6_takeAllButShut_65 ?_
      refine lv_iload_n C.1 C.2.1 dX6_takeAllButShut_66 rfl (lv_at hl 3 rfl) ?_
      refine lv_aload_n C.1 C.2.1 dX6_takeAllButShut_67 rfl (lv_at hl 1 rfl) ?_
      refine fz_getr C hF hT (fz_st hk0) (j := 5) rfl fl_X6_26 dX6_takeAllButShut_68 ?_
      refine lv_iload_n C.1 C.2.1 dX6_takeAllButShut_71 rfl (lv_at hl 2 rfl) ?_
      obtain ⟨g3, h⟩ := fz_gd_s h
      refine fz_aa4 C hF hT (fz_st5 hk0) g3 dX6_takeAllButShut_72 ?_
      refine lv_iload_n C.1 C.2.1 dX6_takeAllButShut_73 rfl (lv_at hl 3 rfl) ?_
      obtain ⟨g4, h⟩ := fz_gd_s h
      refine fz_ia C hF hT (fz_str hk0 g3) g4 dX6_takeAllButShut_74 ?_
      obtain ⟨g5, h⟩ := fz_gd_s h
      obtain ⟨M6, eM6, h⟩ := fz_bd_s h
      refine fz_ias C hF hT (fz_str hk g2) g5 dX6_takeAllButShut_75 (fun H locs hT => ?_)
      rw [← eM6] at hT
      refine lv_iinc (v := (v3 + 1)) (lv' := [(3, .int (v3 + 1)), (0, .ref (G.1 k)), (1, .ref (G.1 k0)), (2, .int v2)]) C.1 C.2.1 dX6_takeAllButShut_76 hl (k := 3) rfl rfl (by decide) rfl (fun ls hl => ?_)
      refine lv_goto (tgt := 54) C.1 C.2.1 dX6_takeAllButShut_79 (by decide) ?_
      exact hag54 (v3 + 1) M6 _ _ _ hT (lv_sub hl [1, 2, 3, 0] rfl) h
set_option maxHeartbeats 4000000 in
set_option maxRecDepth 100000 in
theorem b_X6_takeAllButShut_54 {p : Program} {l : Launch} {e : Env} {s : State} {m : MethodId} {args : Array Value} {below : List Frame} {meth : Method} {c : Code} {G : fz_G} {k : Nat} (hk : fz_isS k) {k0 : Nat} (hk0 : fz_isS k0)  {ag22 : (Int32 × fz_M) → Option fz_M}  {v2 : Int32} {v3 : Int32} {M : fz_M} {H : Heap} {locs : List Loc} {ls : Array Slot} {M9 : fz_M} (C : CallFix p m c cX6_takeAllButShut 4 s args wsL_law RX6) (hr : meth.sig.returnType = none) (hlk : meth.locks = false) (hF : fz_F G fz_KC s) (hag22 : ∀ (v2 : Int32) (M : fz_M) (H : Heap) (locs : List Loc) (ls : Array Slot), fz_T G fz_shC fz_KC s M H locs → lv_has ls 4 [(0, .ref (G.1 k)), (1, .ref (G.1 k0)), (2, .int v2)] → ag22 (v2, M) = some M9 → W p l e (fz_rm 1 23) s m args below meth c H locs 0 0 (MQ below (fz_Qv G fz_shC fz_KC M9) args s 0 0 (fz_Fr G fz_KC)) (F0 m 22 ls [])) (hT : fz_T G fz_shC fz_KC s M H locs) (hl : lv_has ls 4 [(0, .ref (G.1 k)), (1, .ref (G.1 k0)), (2, .int v2), (3, .int v3)]) (h : f_X6_takeAllButShut_54 k k0 ag22 v2 v3 M = some M9) : W p l e (fz_rm 1 23) s m args below meth c H locs 0 0 (MQ below (fz_Qv G fz_shC fz_KC M9) args s 0 0 (fz_Fr G fz_KC)) (F0 m 54 ls []) :=
  b_X6_takeAllButShut_54_l hk hk0 C hr hlk hF hag22 fz_fuel v3 M H locs ls hT hl h
set_option maxHeartbeats 4000000 in
set_option maxRecDepth 100000 in
theorem b_X6_takeAllButShut_22_l {p : Program} {l : Launch} {e : Env} {s : State} {m : MethodId} {args : Array Value} {below : List Frame} {meth : Method} {c : Code} {G : fz_G} {k : Nat} (hk : fz_isS k) {k0 : Nat} (hk0 : fz_isS k0)      {M9 : fz_M} (C : CallFix p m c cX6_takeAllButShut 4 s args wsL_law RX6) (hr : meth.sig.returnType = none) (hlk : meth.locks = false) (hF : fz_F G fz_KC s)  : ∀ (n : Nat) (v2 : Int32) (M : fz_M) (H : Heap) (locs : List Loc) (ls : Array Slot), fz_T G fz_shC fz_KC s M H locs → lv_has ls 4 [(0, .ref (G.1 k)), (1, .ref (G.1 k0)), (2, .int v2)] → fz_lp (fun ag z => f_X6_takeAllButShut_22_s k k0 ag z.1 z.2) n (v2, M) = some M9 → W p l e (fz_rm 1 23) s m args below meth c H locs 0 0 (MQ below (fz_Qv G fz_shC fz_KC M9) args s 0 0 (fz_Fr G fz_KC)) (F0 m 22 ls []) := by
  intro n
  induction n with
  | zero =>
    intro v2 M H locs ls hT hl h
    cases h
  | succ n ih =>
    intro v2 M H locs ls hT hl h
    have h : f_X6_takeAllButShut_22_s k k0 (fz_lp (fun ag z => f_X6_takeAllButShut_22_s k k0 ag z.1 z.2) n) v2 M = some M9 := h
    have hag22 := ih
    generalize fz_lp (fun ag z => f_X6_takeAllButShut_22_s k k0 ag z.1 z.2) n = ag22 at h hag22
    refine lv_iload_n C.1 C.2.1 dX6_takeAllButShut_22 rfl (lv_at hl 2 rfl) ?_
    refine lv_bipush (v := 6) C.1 C.2.1 dX6_takeAllButShut_23 (by decide) ?_
    refine lv_icmp_ge (tgt := 88) C.1 C.2.1 dX6_takeAllButShut_25 (by decide) (fun c1 => ?_) (fun c1 => ?_)
    · have h := fz_ip c1 h
      cases h
      exact fz_retv C hr hlk hT dX6_takeAllButShut_88
    · have h := fz_iq c1 h
      refine lv_aload_n C.1 C.2.1 dX6_takeAllButShut_28 rfl (lv_at hl 0 rfl) ?_
      refine fz_getr C hF hT (fz_st hk) (j := 3) rfl fl_X6_18 dX6_takeAllButShut_29 ?_
      refine lv_iload_n C.1 C.2.1 dX6_takeAllButShut_32 rfl (lv_at hl 2 rfl) ?_
      refine lv_aload_n C.1 C.2.1 dX6_takeAllButShut_33 rfl (lv_at hl 1 rfl) ?_
      refine fz_getr C hF hT (fz_st hk0) (j := 3) rfl fl_X6_18 dX6_takeAllButShut_34 ?_
      refine lv_iload_n C.1 C.2.1 dX6_takeAllButShut_37 rfl (lv_at hl 2 rfl) ?_
      obtain ⟨g2, h⟩ := fz_gd_s h
      refine fz_ia C hF hT (fz_st3 hk0) g2 dX6_takeAllButShut_38 ?_
      obtain ⟨g3, h⟩ := fz_gd_s h
      obtain ⟨M4, eM4, h⟩ := fz_bd_s h
      refine fz_ias C hF hT (fz_st3 hk) g3 dX6_takeAllButShut_39 (fun H locs hT => ?_)
      rw [← eM4] at hT
      refine lv_aload_n C.1 C.2.1 dX6_takeAllButShut_40 rfl (lv_at hl 0 rfl) ?_
      refine fz_getr C hF hT (fz_st hk) (j := 4) rfl fl_X6_21 dX6_takeAllButShut_41 ?_
      refine lv_iload_n C.1 C.2.1 dX6_takeAllButShut_44 rfl (lv_at hl 2 rfl) ?_
      refine lv_aload_n C.1 C.2.1 dX6_takeAllButShut_45 rfl (lv_at hl 1 rfl) ?_
      refine fz_getr C hF hT (fz_st hk0) (j := 4) rfl fl_X6_21 dX6_takeAllButShut_46 ?_
      refine lv_iload_n C.1 C.2.1 dX6_takeAllButShut_49 rfl (lv_at hl 2 rfl) ?_
      obtain ⟨g5, h⟩ := fz_gd_s h
      refine fz_ia C hF hT (fz_st4 hk0) g5 dX6_takeAllButShut_50 ?_
      obtain ⟨g6, h⟩ := fz_gd_s h
      obtain ⟨M7, eM7, h⟩ := fz_bd_s h
      refine fz_ias C hF hT (fz_st4 hk) g6 dX6_takeAllButShut_51 (fun H locs hT => ?_)
      rw [← eM7] at hT
      refine lv_iconst (v := 0) C.1 C.2.1 dX6_takeAllButShut_52 (by decide) ?_
      refine lv_istore_n (lv' := [(3, .int 0), (0, .ref (G.1 k)), (1, .ref (G.1 k0)), (2, .int v2)]) C.1 C.2.1 dX6_takeAllButShut_53 rfl hl (by decide) rfl (fun ls hl => ?_)
      exact b_X6_takeAllButShut_54 hk hk0 C hr hlk hF hag22 hT (lv_sub hl [1, 2, 3, 0] rfl) h
set_option maxHeartbeats 4000000 in
set_option maxRecDepth 100000 in
theorem b_X6_takeAllButShut_22 {p : Program} {l : Launch} {e : Env} {s : State} {m : MethodId} {args : Array Value} {below : List Frame} {meth : Method} {c : Code} {G : fz_G} {k : Nat} (hk : fz_isS k) {k0 : Nat} (hk0 : fz_isS k0)    {v2 : Int32} {M : fz_M} {H : Heap} {locs : List Loc} {ls : Array Slot} {M9 : fz_M} (C : CallFix p m c cX6_takeAllButShut 4 s args wsL_law RX6) (hr : meth.sig.returnType = none) (hlk : meth.locks = false) (hF : fz_F G fz_KC s)  (hT : fz_T G fz_shC fz_KC s M H locs) (hl : lv_has ls 4 [(0, .ref (G.1 k)), (1, .ref (G.1 k0)), (2, .int v2)]) (h : f_X6_takeAllButShut_22 k k0 v2 M = some M9) : W p l e (fz_rm 1 23) s m args below meth c H locs 0 0 (MQ below (fz_Qv G fz_shC fz_KC M9) args s 0 0 (fz_Fr G fz_KC)) (F0 m 22 ls []) :=
  b_X6_takeAllButShut_22_l hk hk0 C hr hlk hF fz_fuel v2 M H locs ls hT hl h
set_option maxHeartbeats 4000000 in
set_option maxRecDepth 100000 in
theorem b_X6_takeAllButShut_0 {p : Program} {l : Launch} {e : Env} {s : State} {m : MethodId} {args : Array Value} {below : List Frame} {meth : Method} {c : Code} {G : fz_G} {k : Nat} (hk : fz_isS k) {k0 : Nat} (hk0 : fz_isS k0)     {M : fz_M} {H : Heap} {locs : List Loc} {ls : Array Slot} {M9 : fz_M} (C : CallFix p m c cX6_takeAllButShut 4 s args wsL_law RX6) (hr : meth.sig.returnType = none) (hlk : meth.locks = false) (hF : fz_F G fz_KC s)  (hT : fz_T G fz_shC fz_KC s M H locs) (hl : lv_has ls 4 [(0, .ref (G.1 k)), (1, .ref (G.1 k0))]) (h : f_X6_takeAllButShut k k0 M = some M9) : W p l e (fz_rm 1 23) s m args below meth c H locs 0 0 (MQ below (fz_Qv G fz_shC fz_KC M9) args s 0 0 (fz_Fr G fz_KC)) (F0 m 0 ls []) := by
  refine lv_aload_n C.1 C.2.1 dX6_takeAllButShut_0 rfl (lv_at hl 0 rfl) ?_
  refine lv_aload_n C.1 C.2.1 dX6_takeAllButShut_1 rfl (lv_at hl 1 rfl) ?_
  refine fz_geti C hF hT (fz_st hk0) (j := 0) rfl fl_X6_33 dX6_takeAllButShut_2 ?_
  obtain ⟨M1, eM1, h⟩ := fz_bd_s h
  refine fz_puti C hF hT (fz_st hk) (j := 0) rfl fw_X6_33 dX6_takeAllButShut_5 (fun H locs hT => ?_)
  rw [← eM1] at hT
  refine lv_aload_n C.1 C.2.1 dX6_takeAllButShut_8 rfl (lv_at hl 0 rfl) ?_
  refine lv_aload_n C.1 C.2.1 dX6_takeAllButShut_9 rfl (lv_at hl 1 rfl) ?_
  refine fz_getr C hF hT (fz_st hk0) (j := 1) rfl fl_X6_9 dX6_takeAllButShut_10 ?_
  refine lv_aload_n C.1 C.2.1 dX6_takeAllButShut_13 rfl (lv_at hl 1 rfl) ?_
  refine fz_getr C hF hT (fz_st hk0) (j := 2) rfl fl_X6_15 dX6_takeAllButShut_14 ?_
  obtain ⟨M3, w4, h⟩ := fz_b1_s h
  refine fz_cv hT (fz_runV (np := 2) (rest := []) C hF hT (c_X6_takePlacesAndTies l G k hk (k0 + 1) (fz_st1 hk0) (k0 + 2) (fz_st2 hk0) M1 M3 w4) (fz_st hk) (T := TX6) (N := 7) rfl cl_X6_48 rfl hl.1 rfl (Nat.le_of_ble_eq_true rfl) ⟨Nat.le_of_ble_eq_true rfl, Nat.le_of_ble_eq_true rfl, Nat.zero_le _, Nat.zero_le _⟩ dX6_takeAllButShut_17) (fun H locs hT => ?_)
  refine lv_iconst (v := 0) C.1 C.2.1 dX6_takeAllButShut_20 (by decide) ?_
  refine lv_istore_n (lv' := [(2, .int 0), (0, .ref (G.1 k)), (1, .ref (G.1 k0))]) C.1 C.2.1 dX6_takeAllButShut_21 rfl hl (by decide) rfl (fun ls hl => ?_)
  exact b_X6_takeAllButShut_22 hk hk0 C hr hlk hF hT (lv_sub hl [1, 2, 0] rfl) h
set_option maxRecDepth 100000 in
theorem c_X6_takeAllButShut (l : Launch) (G : fz_G) (k : Nat) (hk : fz_isS k) (k0 : Nat) (hk0 : fz_isS k0)  (M : fz_M) (M9 : fz_M) (h : f_X6_takeAllButShut k k0 M = some M9) : fz_Me l yX6_takeAllButShut cX6_takeAllButShut 4 none 1 23 G fz_shC fz_KC [.ref (G.1 k), .ref (G.1 k0)] M (fz_Qv G fz_shC fz_KC M9) := by
  refine fz_body (by decide) (Nat.le_of_ble_eq_true rfl) ?_
  intro p e s m args below meth c H locs ls C hr hlk hF hT hl
  have C : CallFix p m c cX6_takeAllButShut 4 s args wsL_law RX6 := C
  have hl : lv_has ls 4 [(0, .ref (G.1 k)), (1, .ref (G.1 k0))] := hl
  exact b_X6_takeAllButShut_0 hk hk0 C hr hlk hF hT (lv_sub hl [0, 1] rfl) h
set_option maxHeartbeats 4000000 in
set_option maxRecDepth 100000 in
theorem b_X0_remember_32 {p : Program} {l : Launch} {e : Env} {s : State} {m : MethodId} {args : Array Value} {below : List Frame} {meth : Method} {c : Code} {G : fz_G} {k0 : Nat} (hk0 : fz_isS k0)     {M : fz_M} {H : Heap} {locs : List Loc} {ls : Array Slot} {M9 : fz_M} (C : CallFix p m c cX0_remember 2 s args wsL_law RX0) (hr : meth.sig.returnType = none) (hlk : meth.locks = false) (hF : fz_F G fz_KC s)  (hT : fz_T G fz_shC fz_KC s M H locs) (hl : lv_has ls 2 [(0, .ref (G.1 5)), (1, .ref (G.1 k0))]) (h : f_X0_remember_32 k0 M = some M9) : W p l e (fz_rm 2 46) s m args below meth c H locs 0 0 (MQ below (fz_Qv G fz_shC fz_KC M9) args s 0 0 (fz_Fr G fz_KC)) (F0 m 32 ls []) := by
  refine lv_aload_n C.1 C.2.1 dX0_remember_32 rfl (lv_at hl 0 rfl) ?_
  refine fz_getr C hF hT fz_c5 (j := 0) rfl fl_X0_11 dX0_remember_33 ?_
  refine lv_aload_n C.1 C.2.1 dX0_remember_36 rfl (lv_at hl 0 rfl) ?_
  refine fz_geti C hF hT fz_c5 (j := 1) rfl fl_X0_22 dX0_remember_37 ?_
  refine lv_aload_n C.1 C.2.1 dX0_remember_40 rfl (lv_at hl 0 rfl) ?_
  refine fz_geti C hF hT fz_c5 (j := 2) rfl fl_X0_18 dX0_remember_41 ?_
  refine lv_iadd C.1 C.2.1 dX0_remember_44 ?_
  refine lv_bipush (v := 12) C.1 C.2.1 dX0_remember_45 (by decide) ?_
  refine lv_irem C.1 C.2.1 dX0_remember_47 (by decide) ?_
  obtain ⟨g1, h⟩ := fz_gd_s h
  refine fz_aa3 C hF hT fz_c6 g1 dX0_remember_48 ?_
  refine lv_aload_n C.1 C.2.1 dX0_remember_49 rfl (lv_at hl 1 rfl) ?_
  obtain ⟨M3, w4, h⟩ := fz_b1_s h
  refine fz_cv hT (fz_runV (np := 1) (rest := []) C hF hT (c_X6_takeAllButShut l G (79 + 13 * (((fz_f M 5 1) + (fz_f M 5 2)) - ((fz_f M 5 1) + (fz_f M 5 2)) / 12 * 12).toNatClampNeg) (fz_sta g1) k0 hk0 M M3 w4) (fz_st (fz_sta g1)) (T := TX6) (N := 7) rfl cl_X0_25 rfl hl.1 rfl (Nat.le_of_ble_eq_true rfl) ⟨Nat.le_of_ble_eq_true rfl, Nat.le_of_ble_eq_true rfl, Nat.zero_le _, Nat.zero_le _⟩ dX0_remember_50) (fun H locs hT => ?_)
  refine lv_aload_n C.1 C.2.1 dX0_remember_53 rfl (lv_at hl 0 rfl) ?_
  refine lv_dup C.1 C.2.1 dX0_remember_54 rfl ?_
  refine fz_geti C hF hT fz_c5 (j := 2) rfl fl_X0_18 dX0_remember_55 ?_
  refine lv_iconst (v := 1) C.1 C.2.1 dX0_remember_58 (by decide) ?_
  refine lv_iadd C.1 C.2.1 dX0_remember_59 ?_
  obtain ⟨M5, eM5, h⟩ := fz_bd_s h
  refine fz_puti C hF hT fz_c5 (j := 2) rfl fw_X0_18 dX0_remember_60 (fun H locs hT => ?_)
  rw [← eM5] at hT
  cases h
  exact fz_retv C hr hlk hT dX0_remember_63
set_option maxHeartbeats 4000000 in
set_option maxRecDepth 100000 in
theorem b_X0_remember_0 {p : Program} {l : Launch} {e : Env} {s : State} {m : MethodId} {args : Array Value} {below : List Frame} {meth : Method} {c : Code} {G : fz_G} {k0 : Nat} (hk0 : fz_isS k0)     {M : fz_M} {H : Heap} {locs : List Loc} {ls : Array Slot} {M9 : fz_M} (C : CallFix p m c cX0_remember 2 s args wsL_law RX0) (hr : meth.sig.returnType = none) (hlk : meth.locks = false) (hF : fz_F G fz_KC s)  (hT : fz_T G fz_shC fz_KC s M H locs) (hl : lv_has ls 2 [(0, .ref (G.1 5)), (1, .ref (G.1 k0))]) (h : f_X0_remember k0 M = some M9) : W p l e (fz_rm 2 46) s m args below meth c H locs 0 0 (MQ below (fz_Qv G fz_shC fz_KC M9) args s 0 0 (fz_Fr G fz_KC)) (F0 m 0 ls []) := by
  refine lv_aload_n C.1 C.2.1 dX0_remember_0 rfl (lv_at hl 0 rfl) ?_
  refine fz_geti C hF hT fz_c5 (j := 2) rfl fl_X0_18 dX0_remember_1 ?_
  refine lv_bipush (v := 12) C.1 C.2.1 dX0_remember_4 (by decide) ?_
  refine lv_icmp_ne (tgt := 32) C.1 C.2.1 dX0_remember_6 (by decide) (fun c1 => ?_) (fun c1 => ?_)
  · have h := fz_ip c1 h
    exact b_X0_remember_32 hk0 C hr hlk hF hT (lv_sub hl [0, 1] rfl) h
  · have h := fz_iq (not_not_intro c1) h
    refine lv_aload_n C.1 C.2.1 dX0_remember_9 rfl (lv_at hl 0 rfl) ?_
    refine lv_aload_n C.1 C.2.1 dX0_remember_10 rfl (lv_at hl 0 rfl) ?_
    refine fz_geti C hF hT fz_c5 (j := 1) rfl fl_X0_22 dX0_remember_11 ?_
    refine lv_iconst (v := 1) C.1 C.2.1 dX0_remember_14 (by decide) ?_
    refine lv_iadd C.1 C.2.1 dX0_remember_15 ?_
    refine lv_bipush (v := 12) C.1 C.2.1 dX0_remember_16 (by decide) ?_
    refine lv_irem C.1 C.2.1 dX0_remember_18 (by decide) ?_
    obtain ⟨M2, eM2, h⟩ := fz_bd_s h
    refine fz_puti C hF hT fz_c5 (j := 1) rfl fw_X0_22 dX0_remember_19 (fun H locs hT => ?_)
    rw [← eM2] at hT
    refine lv_aload_n C.1 C.2.1 dX0_remember_22 rfl (lv_at hl 0 rfl) ?_
    refine lv_dup C.1 C.2.1 dX0_remember_23 rfl ?_
    refine fz_geti C hF hT fz_c5 (j := 2) rfl fl_X0_18 dX0_remember_24 ?_
    refine lv_iconst (v := 1) C.1 C.2.1 dX0_remember_27 (by decide) ?_
    refine lv_isub C.1 C.2.1 dX0_remember_28 ?_
    obtain ⟨M3, eM3, h⟩ := fz_bd_s h
    refine fz_puti C hF hT fz_c5 (j := 2) rfl fw_X0_18 dX0_remember_29 (fun H locs hT => ?_)
    rw [← eM3] at hT
    exact b_X0_remember_32 hk0 C hr hlk hF hT (lv_sub hl [0, 1] rfl) h
set_option maxRecDepth 100000 in
theorem c_X0_remember (l : Launch) (G : fz_G) (k0 : Nat) (hk0 : fz_isS k0)  (M : fz_M) (M9 : fz_M) (h : f_X0_remember k0 M = some M9) : fz_Me l yX0_remember cX0_remember 2 none 2 46 G fz_shC fz_KC [.ref (G.1 5), .ref (G.1 k0)] M (fz_Qv G fz_shC fz_KC M9) := by
  refine fz_body (by decide) (Nat.le_of_ble_eq_true rfl) ?_
  intro p e s m args below meth c H locs ls C hr hlk hF hT hl
  have C : CallFix p m c cX0_remember 2 s args wsL_law RX0 := C
  have hl : lv_has ls 2 [(0, .ref (G.1 5)), (1, .ref (G.1 k0))] := hl
  exact b_X0_remember_0 hk0 C hr hlk hF hT (lv_sub hl [0, 1] rfl) h
set_option maxHeartbeats 4000000 in
set_option maxRecDepth 100000 in
theorem b_X0_takeBack_0 {p : Program} {l : Launch} {e : Env} {s : State} {m : MethodId} {args : Array Value} {below : List Frame} {meth : Method} {c : Code} {G : fz_G} {k0 : Nat} (hk0 : fz_isS k0)     {M : fz_M} {H : Heap} {locs : List Loc} {ls : Array Slot} {M9 : fz_M} (C : CallFix p m c cX0_takeBack 2 s args wsL_law RX0) (hr : meth.sig.returnType = none) (hlk : meth.locks = false) (hF : fz_F G fz_KC s)  (hT : fz_T G fz_shC fz_KC s M H locs) (hl : lv_has ls 2 [(0, .ref (G.1 5)), (1, .ref (G.1 k0))]) (h : f_X0_takeBack k0 M = some M9) : W p l e (fz_rm 2 46) s m args below meth c H locs 0 0 (MQ below (fz_Qv G fz_shC fz_KC M9) args s 0 0 (fz_Fr G fz_KC)) (F0 m 0 ls []) := by
  refine lv_aload_n C.1 C.2.1 dX0_takeBack_0 rfl (lv_at hl 0 rfl) ?_
  refine fz_geti C hF hT fz_c5 (j := 2) rfl fl_X0_18 dX0_takeBack_1 ?_
  refine lv_if_le (tgt := 38) C.1 C.2.1 dX0_takeBack_4 (by decide) (fun c1 => ?_) (fun c1 => ?_)
  · have h := fz_ip c1 h
    cases h
    exact fz_retv C hr hlk hT dX0_takeBack_38
  · have h := fz_iq c1 h
    refine lv_aload_n C.1 C.2.1 dX0_takeBack_7 rfl (lv_at hl 0 rfl) ?_
    refine lv_dup C.1 C.2.1 dX0_takeBack_8 rfl ?_
    refine fz_geti C hF hT fz_c5 (j := 2) rfl fl_X0_18 dX0_takeBack_9 ?_
    refine lv_iconst (v := 1) C.1 C.2.1 dX0_takeBack_12 (by decide) ?_
    refine lv_isub C.1 C.2.1 dX0_takeBack_13 ?_
    obtain ⟨M2, eM2, h⟩ := fz_bd_s h
    refine fz_puti C hF hT fz_c5 (j := 2) rfl fw_X0_18 dX0_takeBack_14 (fun H locs hT => ?_)
    rw [← eM2] at hT
    refine lv_aload_n C.1 C.2.1 dX0_takeBack_17 rfl (lv_at hl 1 rfl) ?_
    refine lv_aload_n C.1 C.2.1 dX0_takeBack_18 rfl (lv_at hl 0 rfl) ?_
    refine fz_getr C hF hT fz_c5 (j := 0) rfl fl_X0_11 dX0_takeBack_19 ?_
    refine lv_aload_n C.1 C.2.1 dX0_takeBack_22 rfl (lv_at hl 0 rfl) ?_
    refine fz_geti C hF hT fz_c5 (j := 1) rfl fl_X0_22 dX0_takeBack_23 ?_
    refine lv_aload_n C.1 C.2.1 dX0_takeBack_26 rfl (lv_at hl 0 rfl) ?_
    refine fz_geti C hF hT fz_c5 (j := 2) rfl fl_X0_18 dX0_takeBack_27 ?_
    refine lv_iadd C.1 C.2.1 dX0_takeBack_30 ?_
    refine lv_bipush (v := 12) C.1 C.2.1 dX0_takeBack_31 (by decide) ?_
    refine lv_irem C.1 C.2.1 dX0_takeBack_33 (by decide) ?_
    obtain ⟨g3, h⟩ := fz_gd_s h
    refine fz_aa3 C hF hT fz_c6 g3 dX0_takeBack_34 ?_
    obtain ⟨M5, w6, h⟩ := fz_b1_s h
    refine fz_cv hT (fz_runV (np := 1) (rest := []) C hF hT (c_X6_takeAllButShut l G k0 hk0 (79 + 13 * (((fz_f M2 5 1) + (fz_f M2 5 2)) - ((fz_f M2 5 1) + (fz_f M2 5 2)) / 12 * 12).toNatClampNeg) (fz_sta g3) M2 M5 w6) (fz_st hk0) (T := TX6) (N := 7) rfl cl_X0_25 rfl hl.1 rfl (Nat.le_of_ble_eq_true rfl) ⟨Nat.le_of_ble_eq_true rfl, Nat.le_of_ble_eq_true rfl, Nat.zero_le _, Nat.zero_le _⟩ dX0_takeBack_35) (fun H locs hT => ?_)
    cases h
    exact fz_retv C hr hlk hT dX0_takeBack_38
set_option maxRecDepth 100000 in
theorem c_X0_takeBack (l : Launch) (G : fz_G) (k0 : Nat) (hk0 : fz_isS k0)  (M : fz_M) (M9 : fz_M) (h : f_X0_takeBack k0 M = some M9) : fz_Me l yX0_takeBack cX0_takeBack 2 none 2 46 G fz_shC fz_KC [.ref (G.1 5), .ref (G.1 k0)] M (fz_Qv G fz_shC fz_KC M9) := by
  refine fz_body (by decide) (Nat.le_of_ble_eq_true rfl) ?_
  intro p e s m args below meth c H locs ls C hr hlk hF hT hl
  have C : CallFix p m c cX0_takeBack 2 s args wsL_law RX0 := C
  have hl : lv_has ls 2 [(0, .ref (G.1 5)), (1, .ref (G.1 k0))] := hl
  exact b_X0_takeBack_0 hk0 C hr hlk hF hT (lv_sub hl [0, 1] rfl) h
set_option maxHeartbeats 4000000 in
set_option maxRecDepth 100000 in
theorem b_X1_append_5_l {p : Program} {l : Launch} {e : Env} {s : State} {m : MethodId} {args : Array Value} {below : List Frame} {meth : Method} {c : Code} {G : fz_G}     {v2 : Int64}  {M9 : fz_M} (C : CallFix p m c cX1_append 5 s args wsL_law RX1) (hr : meth.sig.returnType = none) (hlk : meth.locks = false) (hF : fz_F G fz_KC s)  : ∀ (n : Nat) (v4 : Int32) (M : fz_M) (H : Heap) (locs : List Loc) (ls : Array Slot), fz_T G fz_shC fz_KC s M H locs → lv_has ls 5 [(0, .ref (G.1 1)), (2, .long v2), (4, .int v4)] → fz_lp (fun ag z => f_X1_append_5_s ag v2 z.1 z.2) n (v4, M) = some M9 → W p l e (fz_rm 0 0) s m args below meth c H locs 0 0 (MQ below (fz_Qv G fz_shC fz_KC M9) args s 0 0 (fz_Fr G fz_KC)) (F0 m 5 ls []) := by
  intro n
  induction n with
  | zero =>
    intro v4 M H locs ls hT hl h
    cases h
  | succ n ih =>
    intro v4 M H locs ls hT hl h
    have h : f_X1_append_5_s (fz_lp (fun ag z => f_X1_append_5_s ag v2 z.1 z.2) n) v2 v4 M = some M9 := h
    have hag5 := ih
    generalize fz_lp (fun ag z => f_X1_append_5_s ag v2 z.1 z.2) n = ag5 at h hag5
    refine lv_iload C.1 C.2.1 dX1_append_5 (lv_at hl 2 rfl) ?_
    refine lv_if_lt (tgt := 56) C.1 C.2.1 dX1_append_7 (by decide) (fun c1 => ?_) (fun c1 => ?_)
    · have h := fz_ip c1 h
      cases h
      exact fz_retv C hr hlk hT dX1_append_56
    · have h := fz_iq c1 h
      refine lv_aload_n C.1 C.2.1 dX1_append_10 rfl (lv_at hl 0 rfl) ?_
      refine fz_geti C hF hT fz_c1 (j := 1) rfl fl_X1_15 dX1_append_11 ?_
      refine lv_bipush (v := 96) C.1 C.2.1 dX1_append_14 (by decide) ?_
      refine lv_icmp_ge (tgt := 56) C.1 C.2.1 dX1_append_16 (by decide) (fun c2 => ?_) (fun c2 => ?_)
      · have h := fz_ip c2 h
        cases h
        exact fz_retv C hr hlk hT dX1_append_56
      · have h := fz_iq c2 h
        refine lv_aload_n C.1 C.2.1 dX1_append_19 rfl (lv_at hl 0 rfl) ?_
        refine fz_getr C hF hT fz_c1 (j := 0) rfl fl_X1_9 dX1_append_20 ?_
        refine lv_aload_n C.1 C.2.1 dX1_append_23 rfl (lv_at hl 0 rfl) ?_
        refine fz_geti C hF hT fz_c1 (j := 1) rfl fl_X1_15 dX1_append_24 ?_
        refine lv_lload_n C.1 C.2.1 dX1_append_27 rfl (lv_at hl 1 rfl) ?_
        refine lv_bipush (v := 8) C.1 C.2.1 dX1_append_28 (by decide) ?_
        refine lv_iload C.1 C.2.1 dX1_append_30 (lv_at hl 2 rfl) ?_
        refine lv_imul C.1 C.2.1 dX1_append_32 ?_
        refine lv_lushr (v := ((v2.toUInt64 >>> ((8 * v4).toInt64.toUInt64 &&& Int64.toUInt64 63)).toInt64)) C.1 C.2.1 dX1_append_33 rfl ?_
        refine lv_l2i (v := (((v2.toUInt64 >>> ((8 * v4).toInt64.toUInt64 &&& Int64.toUInt64 63)).toInt64).toInt32)) C.1 C.2.1 dX1_append_34 rfl ?_
        refine lv_sipush (v := 255) C.1 C.2.1 dX1_append_35 (by decide) ?_
        refine lv_iand C.1 C.2.1 dX1_append_38 ?_
        obtain ⟨g3, h⟩ := fz_gd_s h
        obtain ⟨M4, eM4, h⟩ := fz_bd_s h
        refine fz_ias C hF hT fz_c2 g3 dX1_append_39 (fun H locs hT => ?_)
        rw [← eM4] at hT
        refine lv_aload_n C.1 C.2.1 dX1_append_40 rfl (lv_at hl 0 rfl) ?_
        refine lv_dup C.1 C.2.1 dX1_append_41 rfl ?_
        refine fz_geti C hF hT fz_c1 (j := 1) rfl fl_X1_15 dX1_append_42 ?_
        refine lv_iconst (v := 1) C.1 C.2.1 dX1_append_45 (by decide) ?_
        refine lv_iadd C.1 C.2.1 dX1_append_46 ?_
        obtain ⟨M5, eM5, h⟩ := fz_bd_s h
        refine fz_puti C hF hT fz_c1 (j := 1) rfl fw_X1_15 dX1_append_47 (fun H locs hT => ?_)
        rw [← eM5] at hT
        refine lv_iinc (v := (v4 + (-1))) (lv' := [(4, .int (v4 + (-1))), (0, .ref (G.1 1)), (2, .long v2)]) C.1 C.2.1 dX1_append_50 hl (k := 2) rfl rfl (by decide) rfl (fun ls hl => ?_)
        refine lv_goto (tgt := 5) C.1 C.2.1 dX1_append_53 (by decide) ?_
        exact hag5 (v4 + (-1)) M5 _ _ _ hT (lv_sub hl [1, 2, 0] rfl) h
set_option maxHeartbeats 4000000 in
set_option maxRecDepth 100000 in
theorem b_X1_append_5 {p : Program} {l : Launch} {e : Env} {s : State} {m : MethodId} {args : Array Value} {below : List Frame} {meth : Method} {c : Code} {G : fz_G}     {v2 : Int64} {v4 : Int32} {M : fz_M} {H : Heap} {locs : List Loc} {ls : Array Slot} {M9 : fz_M} (C : CallFix p m c cX1_append 5 s args wsL_law RX1) (hr : meth.sig.returnType = none) (hlk : meth.locks = false) (hF : fz_F G fz_KC s)  (hT : fz_T G fz_shC fz_KC s M H locs) (hl : lv_has ls 5 [(0, .ref (G.1 1)), (2, .long v2), (4, .int v4)]) (h : f_X1_append_5 v2 v4 M = some M9) : W p l e (fz_rm 0 0) s m args below meth c H locs 0 0 (MQ below (fz_Qv G fz_shC fz_KC M9) args s 0 0 (fz_Fr G fz_KC)) (F0 m 5 ls []) :=
  b_X1_append_5_l C hr hlk hF fz_fuel v4 M H locs ls hT hl h
set_option maxHeartbeats 4000000 in
set_option maxRecDepth 100000 in
theorem b_X1_append_0 {p : Program} {l : Launch} {e : Env} {s : State} {m : MethodId} {args : Array Value} {below : List Frame} {meth : Method} {c : Code} {G : fz_G}     {v1 : Int32} {v2 : Int64} {M : fz_M} {H : Heap} {locs : List Loc} {ls : Array Slot} {M9 : fz_M} (C : CallFix p m c cX1_append 5 s args wsL_law RX1) (hr : meth.sig.returnType = none) (hlk : meth.locks = false) (hF : fz_F G fz_KC s)  (hT : fz_T G fz_shC fz_KC s M H locs) (hl : lv_has ls 5 [(0, .ref (G.1 1)), (1, .int v1), (2, .long v2)]) (h : f_X1_append v1 v2 M = some M9) : W p l e (fz_rm 0 0) s m args below meth c H locs 0 0 (MQ below (fz_Qv G fz_shC fz_KC M9) args s 0 0 (fz_Fr G fz_KC)) (F0 m 0 ls []) := by
  refine lv_iload_n C.1 C.2.1 dX1_append_0 rfl (lv_at hl 1 rfl) ?_
  refine lv_iconst (v := 1) C.1 C.2.1 dX1_append_1 (by decide) ?_
  refine lv_isub C.1 C.2.1 dX1_append_2 ?_
  obtain ⟨x1, ex1, h⟩ := fz_bd_s h
  refine fz_nmi ex1 ?_
  refine lv_istore (lv' := [(4, .int x1), (0, .ref (G.1 1)), (1, .int v1), (2, .long v2)]) C.1 C.2.1 dX1_append_3 hl (by decide) rfl (fun ls hl => ?_)
  exact b_X1_append_5 C hr hlk hF hT (lv_sub hl [1, 3, 0] rfl) h
set_option maxRecDepth 100000 in
theorem c_X1_append (l : Launch) (G : fz_G)  (a0 : Int32) (a1 : Int64) (M : fz_M) (M9 : fz_M) (h : f_X1_append a0 a1 M = some M9) : fz_Me l yX1_append cX1_append 5 none 0 0 G fz_shC fz_KC [.ref (G.1 1), .int a0, .long a1] M (fz_Qv G fz_shC fz_KC M9) := by
  refine fz_body (by decide) (Nat.le_of_ble_eq_true rfl) ?_
  intro p e s m args below meth c H locs ls C hr hlk hF hT hl
  have C : CallFix p m c cX1_append 5 s args wsL_law RX1 := C
  have hl : lv_has ls 5 [(0, .ref (G.1 1)), (1, .int a0), (2, .long a1)] := hl
  exact b_X1_append_0 C hr hlk hF hT (lv_sub hl [0, 1, 2] rfl) h
set_option maxHeartbeats 4000000 in
set_option maxRecDepth 100000 in
theorem b_X2_add_0 {p : Program} {l : Launch} {e : Env} {s : State} {m : MethodId} {args : Array Value} {below : List Frame} {meth : Method} {c : Code} {G : fz_G}     {v1 : Int32} {v2 : Int32} {M : fz_M} {H : Heap} {locs : List Loc} {ls : Array Slot} {M9 : fz_M} (C : CallFix p m c cX2_add 3 s args wsL_law RX2) (hr : meth.sig.returnType = none) (hlk : meth.locks = false) (hF : fz_F G fz_KC s)  (hT : fz_T G fz_shC fz_KC s M H locs) (hl : lv_has ls 3 [(0, .ref (G.1 7)), (1, .int v1), (2, .int v2)]) (h : f_X2_add v1 v2 M = some M9) : W p l e (fz_rm 0 0) s m args below meth c H locs 0 0 (MQ below (fz_Qv G fz_shC fz_KC M9) args s 0 0 (fz_Fr G fz_KC)) (F0 m 0 ls []) := by
  refine lv_aload_n C.1 C.2.1 dX2_add_0 rfl (lv_at hl 0 rfl) ?_
  refine fz_geti C hF hT fz_c7 (j := 2) rfl fl_X2_18 dX2_add_1 ?_
  refine lv_bipush (v := 8) C.1 C.2.1 dX2_add_4 (by decide) ?_
  refine lv_icmp_ge (tgt := 39) C.1 C.2.1 dX2_add_6 (by decide) (fun c1 => ?_) (fun c1 => ?_)
  · have h := fz_ip c1 h
    cases h
    exact fz_retv C hr hlk hT dX2_add_39
  · have h := fz_iq c1 h
    refine lv_aload_n C.1 C.2.1 dX2_add_9 rfl (lv_at hl 0 rfl) ?_
    refine fz_getr C hF hT fz_c7 (j := 0) rfl fl_X2_9 dX2_add_10 ?_
    refine lv_aload_n C.1 C.2.1 dX2_add_13 rfl (lv_at hl 0 rfl) ?_
    refine fz_geti C hF hT fz_c7 (j := 2) rfl fl_X2_18 dX2_add_14 ?_
    refine lv_iload_n C.1 C.2.1 dX2_add_17 rfl (lv_at hl 1 rfl) ?_
    obtain ⟨g2, h⟩ := fz_gd_s h
    obtain ⟨M3, eM3, h⟩ := fz_bd_s h
    refine fz_ias C hF hT fz_c8 g2 dX2_add_18 (fun H locs hT => ?_)
    rw [← eM3] at hT
    refine lv_aload_n C.1 C.2.1 dX2_add_19 rfl (lv_at hl 0 rfl) ?_
    refine fz_getr C hF hT fz_c7 (j := 1) rfl fl_X2_15 dX2_add_20 ?_
    refine lv_aload_n C.1 C.2.1 dX2_add_23 rfl (lv_at hl 0 rfl) ?_
    refine fz_geti C hF hT fz_c7 (j := 2) rfl fl_X2_18 dX2_add_24 ?_
    refine lv_iload_n C.1 C.2.1 dX2_add_27 rfl (lv_at hl 2 rfl) ?_
    obtain ⟨g4, h⟩ := fz_gd_s h
    obtain ⟨M5, eM5, h⟩ := fz_bd_s h
    refine fz_ias C hF hT fz_c9 g4 dX2_add_28 (fun H locs hT => ?_)
    rw [← eM5] at hT
    refine lv_aload_n C.1 C.2.1 dX2_add_29 rfl (lv_at hl 0 rfl) ?_
    refine lv_dup C.1 C.2.1 dX2_add_30 rfl ?_
    refine fz_geti C hF hT fz_c7 (j := 2) rfl fl_X2_18 dX2_add_31 ?_
    refine lv_iconst (v := 1) C.1 C.2.1 dX2_add_34 (by decide) ?_
    refine lv_iadd C.1 C.2.1 dX2_add_35 ?_
    obtain ⟨M6, eM6, h⟩ := fz_bd_s h
    refine fz_puti C hF hT fz_c7 (j := 2) rfl fw_X2_18 dX2_add_36 (fun H locs hT => ?_)
    rw [← eM6] at hT
    cases h
    exact fz_retv C hr hlk hT dX2_add_39
set_option maxRecDepth 100000 in
theorem c_X2_add (l : Launch) (G : fz_G)  (a0 : Int32) (a1 : Int32) (M : fz_M) (M9 : fz_M) (h : f_X2_add a0 a1 M = some M9) : fz_Me l yX2_add cX2_add 3 none 0 0 G fz_shC fz_KC [.ref (G.1 7), .int a0, .int a1] M (fz_Qv G fz_shC fz_KC M9) := by
  refine fz_body (by decide) (Nat.le_of_ble_eq_true rfl) ?_
  intro p e s m args below meth c H locs ls C hr hlk hF hT hl
  have C : CallFix p m c cX2_add 3 s args wsL_law RX2 := C
  have hl : lv_has ls 3 [(0, .ref (G.1 7)), (1, .int a0), (2, .int a1)] := hl
  exact b_X2_add_0 C hr hlk hF hT (lv_sub hl [0, 1, 2] rfl) h
set_option maxHeartbeats 4000000 in
set_option maxRecDepth 100000 in
theorem b_X2_hold_2_l {p : Program} {l : Launch} {e : Env} {s : State} {m : MethodId} {args : Array Value} {below : List Frame} {meth : Method} {c : Code} {G : fz_G}     {v1 : Int32} {v2 : Int32} {M : fz_M} {r : Int32} (C : CallFix p m c cX2_hold 4 s args wsL_law RX2) (hr : meth.sig.returnType = (some .boolean)) (hlk : meth.locks = false) (hF : fz_F G fz_KC s)  : ∀ (n : Nat) (v3 : Int32) (H : Heap) (locs : List Loc) (ls : Array Slot), fz_T G fz_shC fz_KC s M H locs → lv_has ls 4 [(0, .ref (G.1 7)), (1, .int v1), (2, .int v2), (3, .int v3)] → fz_lp (fun ag z => f_X2_hold_2_s ag v1 v2 z M) n v3 = some r → W p l e (fz_rm 0 0) s m args below meth c H locs 0 0 (MQ below (fz_Qi G fz_shC fz_KC r M) args s 0 0 (fz_Fr G fz_KC)) (F0 m 2 ls []) := by
  intro n
  induction n with
  | zero =>
    intro v3 H locs ls hT hl h
    cases h
  | succ n ih =>
    intro v3 H locs ls hT hl h
    have h : f_X2_hold_2_s (fz_lp (fun ag z => f_X2_hold_2_s ag v1 v2 z M) n) v1 v2 v3 M = some r := h
    have hag2 := ih
    generalize fz_lp (fun ag z => f_X2_hold_2_s ag v1 v2 z M) n = ag2 at h hag2
    refine lv_iload_n C.1 C.2.1 dX2_hold_2 rfl (lv_at hl 3 rfl) ?_
    refine lv_aload_n C.1 C.2.1 dX2_hold_3 rfl (lv_at hl 0 rfl) ?_
    refine fz_geti C hF hT fz_c7 (j := 2) rfl fl_X2_18 dX2_hold_4 ?_
    refine lv_icmp_ge (tgt := 38) C.1 C.2.1 dX2_hold_7 (by decide) (fun c1 => ?_) (fun c1 => ?_)
    · have h := fz_ip c1 h
      refine lv_iconst (v := 1) C.1 C.2.1 dX2_hold_38 (by decide) ?_
      cases h
      exact fz_retz C hr hlk rfl hT dX2_hold_39
    · have h := fz_iq c1 h
      refine lv_aload_n C.1 C.2.1 dX2_hold_10 rfl (lv_at hl 0 rfl) ?_
      refine fz_getr C hF hT fz_c7 (j := 0) rfl fl_X2_9 dX2_hold_11 ?_
      refine lv_iload_n C.1 C.2.1 dX2_hold_14 rfl (lv_at hl 3 rfl) ?_
      obtain ⟨g2, h⟩ := fz_gd_s h
      refine fz_ia C hF hT fz_c8 g2 dX2_hold_15 ?_
      refine lv_iload_n C.1 C.2.1 dX2_hold_16 rfl (lv_at hl 1 rfl) ?_
      refine lv_icmp_ne (tgt := 32) C.1 C.2.1 dX2_hold_17 (by decide) (fun c3 => ?_) (fun c3 => ?_)
      · have h := fz_ip c3 h
        refine lv_iinc (v := (v3 + 1)) (lv' := [(3, .int (v3 + 1)), (0, .ref (G.1 7)), (1, .int v1), (2, .int v2)]) C.1 C.2.1 dX2_hold_32 hl (k := 3) rfl rfl (by decide) rfl (fun ls hl => ?_)
        refine lv_goto (tgt := 2) C.1 C.2.1 dX2_hold_35 (by decide) ?_
        exact hag2 (v3 + 1) _ _ _ hT (lv_sub hl [1, 2, 3, 0] rfl) h
      · have h := fz_iq (not_not_intro c3) h
        refine lv_aload_n C.1 C.2.1 dX2_hold_20 rfl (lv_at hl 0 rfl) ?_
        refine fz_getr C hF hT fz_c7 (j := 1) rfl fl_X2_15 dX2_hold_21 ?_
        refine lv_iload_n C.1 C.2.1 dX2_hold_24 rfl (lv_at hl 3 rfl) ?_
        obtain ⟨g4, h⟩ := fz_gd_s h
        refine fz_ia C hF hT fz_c9 g4 dX2_hold_25 ?_
        refine lv_iload_n C.1 C.2.1 dX2_hold_26 rfl (lv_at hl 2 rfl) ?_
        refine lv_icmp_eq (tgt := 32) C.1 C.2.1 dX2_hold_27 (by decide) (fun c5 => ?_) (fun c5 => ?_)
        · have h := fz_ip c5 h
          refine lv_iinc (v := (v3 + 1)) (lv' := [(3, .int (v3 + 1)), (0, .ref (G.1 7)), (1, .int v1), (2, .int v2)]) C.1 C.2.1 dX2_hold_32 hl (k := 3) rfl rfl (by decide) rfl (fun ls hl => ?_)
          refine lv_goto (tgt := 2) C.1 C.2.1 dX2_hold_35 (by decide) ?_
          exact hag2 (v3 + 1) _ _ _ hT (lv_sub hl [1, 2, 3, 0] rfl) h
        · have h := fz_iq c5 h
          refine lv_iconst (v := 0) C.1 C.2.1 dX2_hold_30 (by decide) ?_
          cases h
          exact fz_retz C hr hlk rfl hT dX2_hold_31
set_option maxHeartbeats 4000000 in
set_option maxRecDepth 100000 in
theorem b_X2_hold_2 {p : Program} {l : Launch} {e : Env} {s : State} {m : MethodId} {args : Array Value} {below : List Frame} {meth : Method} {c : Code} {G : fz_G}     {v1 : Int32} {v2 : Int32} {v3 : Int32} {M : fz_M} {H : Heap} {locs : List Loc} {ls : Array Slot} {r : Int32} (C : CallFix p m c cX2_hold 4 s args wsL_law RX2) (hr : meth.sig.returnType = (some .boolean)) (hlk : meth.locks = false) (hF : fz_F G fz_KC s)  (hT : fz_T G fz_shC fz_KC s M H locs) (hl : lv_has ls 4 [(0, .ref (G.1 7)), (1, .int v1), (2, .int v2), (3, .int v3)]) (h : f_X2_hold_2 v1 v2 v3 M = some r) : W p l e (fz_rm 0 0) s m args below meth c H locs 0 0 (MQ below (fz_Qi G fz_shC fz_KC r M) args s 0 0 (fz_Fr G fz_KC)) (F0 m 2 ls []) :=
  b_X2_hold_2_l C hr hlk hF fz_fuel v3 H locs ls hT hl h
set_option maxHeartbeats 4000000 in
set_option maxRecDepth 100000 in
theorem b_X2_hold_0 {p : Program} {l : Launch} {e : Env} {s : State} {m : MethodId} {args : Array Value} {below : List Frame} {meth : Method} {c : Code} {G : fz_G}     {v1 : Int32} {v2 : Int32} {M : fz_M} {H : Heap} {locs : List Loc} {ls : Array Slot} {r : Int32} (C : CallFix p m c cX2_hold 4 s args wsL_law RX2) (hr : meth.sig.returnType = (some .boolean)) (hlk : meth.locks = false) (hF : fz_F G fz_KC s)  (hT : fz_T G fz_shC fz_KC s M H locs) (hl : lv_has ls 4 [(0, .ref (G.1 7)), (1, .int v1), (2, .int v2)]) (h : f_X2_hold v1 v2 M = some r) : W p l e (fz_rm 0 0) s m args below meth c H locs 0 0 (MQ below (fz_Qi G fz_shC fz_KC r M) args s 0 0 (fz_Fr G fz_KC)) (F0 m 0 ls []) := by
  refine lv_iconst (v := 0) C.1 C.2.1 dX2_hold_0 (by decide) ?_
  refine lv_istore_n (lv' := [(3, .int 0), (0, .ref (G.1 7)), (1, .int v1), (2, .int v2)]) C.1 C.2.1 dX2_hold_1 rfl hl (by decide) rfl (fun ls hl => ?_)
  exact b_X2_hold_2 C hr hlk hF hT (lv_sub hl [1, 2, 3, 0] rfl) h
set_option maxRecDepth 100000 in
theorem c_X2_hold (l : Launch) (G : fz_G)  (a0 : Int32) (a1 : Int32) (M : fz_M) (r : Int32) (h : f_X2_hold a0 a1 M = some r) : fz_Me l yX2_hold cX2_hold 4 (some .boolean) 0 0 G fz_shC fz_KC [.ref (G.1 7), .int a0, .int a1] M (fz_Qi G fz_shC fz_KC r M) := by
  refine fz_body (by decide) (Nat.le_of_ble_eq_true rfl) ?_
  intro p e s m args below meth c H locs ls C hr hlk hF hT hl
  have C : CallFix p m c cX2_hold 4 s args wsL_law RX2 := C
  have hl : lv_has ls 4 [(0, .ref (G.1 7)), (1, .int a0), (2, .int a1)] := hl
  exact b_X2_hold_0 C hr hlk hF hT (lv_sub hl [0, 1, 2] rfl) h
set_option maxHeartbeats 4000000 in
set_option maxRecDepth 100000 in
theorem b_X3_clear_0 {p : Program} {l : Launch} {e : Env} {s : State} {m : MethodId} {args : Array Value} {below : List Frame} {meth : Method} {c : Code} {G : fz_G} {k : Nat} (hk : fz_isP k = true)     {M : fz_M} {H : Heap} {locs : List Loc} {ls : Array Slot} {M9 : fz_M} (C : CallFix p m c cX3_clear 1 s args wsL_law RX3) (hr : meth.sig.returnType = none) (hlk : meth.locks = false) (hF : fz_F G fz_KC s)  (hT : fz_T G fz_shC fz_KC s M H locs) (hl : lv_has ls 1 [(0, .ref (G.1 k))]) (h : f_X3_clear k M = some M9) : W p l e (fz_rm 0 0) s m args below meth c H locs 0 0 (MQ below (fz_Qv G fz_shC fz_KC M9) args s 0 0 (fz_Fr G fz_KC)) (F0 m 0 ls []) := by
  refine lv_aload_n C.1 C.2.1 dX3_clear_0 rfl (lv_at hl 0 rfl) ?_
  refine lv_iconst (v := 0) C.1 C.2.1 dX3_clear_1 (by decide) ?_
  obtain ⟨M1, eM1, h⟩ := fz_bd_s h
  refine fz_puti C hF hT (fz_pl hk) (j := 0) rfl fw_X3_39 dX3_clear_2 (fun H locs hT => ?_)
  rw [← eM1] at hT
  refine lv_aload_n C.1 C.2.1 dX3_clear_5 rfl (lv_at hl 0 rfl) ?_
  refine lv_iconst (v := 0) C.1 C.2.1 dX3_clear_6 (by decide) ?_
  obtain ⟨M2, eM2, h⟩ := fz_bd_s h
  refine fz_puti C hF hT (fz_pl hk) (j := 1) rfl fw_X3_43 dX3_clear_7 (fun H locs hT => ?_)
  rw [← eM2] at hT
  refine lv_aload_n C.1 C.2.1 dX3_clear_10 rfl (lv_at hl 0 rfl) ?_
  refine lv_iconst (v := 0) C.1 C.2.1 dX3_clear_11 (by decide) ?_
  obtain ⟨M3, eM3, h⟩ := fz_bd_s h
  refine fz_puti C hF hT (fz_pl hk) (j := 2) rfl fw_X3_46 dX3_clear_12 (fun H locs hT => ?_)
  rw [← eM3] at hT
  cases h
  exact fz_retv C hr hlk hT dX3_clear_15
set_option maxRecDepth 100000 in
theorem c_X3_clear (l : Launch) (G : fz_G) (k : Nat) (hk : fz_isP k = true)  (M : fz_M) (M9 : fz_M) (h : f_X3_clear k M = some M9) : fz_Me l yX3_clear cX3_clear 1 none 0 0 G fz_shC fz_KC [.ref (G.1 k)] M (fz_Qv G fz_shC fz_KC M9) := by
  refine fz_body (by decide) (Nat.le_of_ble_eq_true rfl) ?_
  intro p e s m args below meth c H locs ls C hr hlk hF hT hl
  have C : CallFix p m c cX3_clear 1 s args wsL_law RX3 := C
  have hl : lv_has ls 1 [(0, .ref (G.1 k))] := hl
  exact b_X3_clear_0 hk C hr hlk hF hT (lv_sub hl [0] rfl) h
set_option maxHeartbeats 4000000 in
set_option maxRecDepth 100000 in
theorem b_X3_addHouse_0 {p : Program} {l : Launch} {e : Env} {s : State} {m : MethodId} {args : Array Value} {below : List Frame} {meth : Method} {c : Code} {G : fz_G} {k : Nat} (hk : fz_isP k = true)    {v1 : Int32} {v2 : Int32} {M : fz_M} {H : Heap} {locs : List Loc} {ls : Array Slot} {M9 : fz_M} (C : CallFix p m c cX3_addHouse 3 s args wsL_law RX3) (hr : meth.sig.returnType = none) (hlk : meth.locks = false) (hF : fz_F G fz_KC s)  (hT : fz_T G fz_shC fz_KC s M H locs) (hl : lv_has ls 3 [(0, .ref (G.1 k)), (1, .int v1), (2, .int v2)]) (h : f_X3_addHouse k v1 v2 M = some M9) : W p l e (fz_rm 0 0) s m args below meth c H locs 0 0 (MQ below (fz_Qv G fz_shC fz_KC M9) args s 0 0 (fz_Fr G fz_KC)) (F0 m 0 ls []) := by
  refine lv_aload_n C.1 C.2.1 dX3_addHouse_0 rfl (lv_at hl 0 rfl) ?_
  refine fz_geti C hF hT (fz_pl hk) (j := 0) rfl fl_X3_39 dX3_addHouse_1 ?_
  refine lv_bipush (v := 6) C.1 C.2.1 dX3_addHouse_4 (by decide) ?_
  refine lv_icmp_ge (tgt := 39) C.1 C.2.1 dX3_addHouse_6 (by decide) (fun c1 => ?_) (fun c1 => ?_)
  · have h := fz_ip c1 h
    cases h
    exact fz_retv C hr hlk hT dX3_addHouse_39
  · have h := fz_iq c1 h
    refine lv_aload_n C.1 C.2.1 dX3_addHouse_9 rfl (lv_at hl 0 rfl) ?_
    refine fz_getr C hF hT (fz_pl hk) (j := 3) rfl fl_X3_9 dX3_addHouse_10 ?_
    refine lv_aload_n C.1 C.2.1 dX3_addHouse_13 rfl (lv_at hl 0 rfl) ?_
    refine fz_geti C hF hT (fz_pl hk) (j := 0) rfl fl_X3_39 dX3_addHouse_14 ?_
    refine lv_iload_n C.1 C.2.1 dX3_addHouse_17 rfl (lv_at hl 1 rfl) ?_
    obtain ⟨g2, h⟩ := fz_gd_s h
    obtain ⟨M3, eM3, h⟩ := fz_bd_s h
    refine fz_ias C hF hT (fz_pl1 hk) g2 dX3_addHouse_18 (fun H locs hT => ?_)
    rw [← eM3] at hT
    refine lv_aload_n C.1 C.2.1 dX3_addHouse_19 rfl (lv_at hl 0 rfl) ?_
    refine fz_getr C hF hT (fz_pl hk) (j := 4) rfl fl_X3_15 dX3_addHouse_20 ?_
    refine lv_aload_n C.1 C.2.1 dX3_addHouse_23 rfl (lv_at hl 0 rfl) ?_
    refine fz_geti C hF hT (fz_pl hk) (j := 0) rfl fl_X3_39 dX3_addHouse_24 ?_
    refine lv_iload_n C.1 C.2.1 dX3_addHouse_27 rfl (lv_at hl 2 rfl) ?_
    obtain ⟨g4, h⟩ := fz_gd_s h
    obtain ⟨M5, eM5, h⟩ := fz_bd_s h
    refine fz_ias C hF hT (fz_pl2 hk) g4 dX3_addHouse_28 (fun H locs hT => ?_)
    rw [← eM5] at hT
    refine lv_aload_n C.1 C.2.1 dX3_addHouse_29 rfl (lv_at hl 0 rfl) ?_
    refine lv_dup C.1 C.2.1 dX3_addHouse_30 rfl ?_
    refine fz_geti C hF hT (fz_pl hk) (j := 0) rfl fl_X3_39 dX3_addHouse_31 ?_
    refine lv_iconst (v := 1) C.1 C.2.1 dX3_addHouse_34 (by decide) ?_
    refine lv_iadd C.1 C.2.1 dX3_addHouse_35 ?_
    obtain ⟨M6, eM6, h⟩ := fz_bd_s h
    refine fz_puti C hF hT (fz_pl hk) (j := 0) rfl fw_X3_39 dX3_addHouse_36 (fun H locs hT => ?_)
    rw [← eM6] at hT
    cases h
    exact fz_retv C hr hlk hT dX3_addHouse_39
set_option maxRecDepth 100000 in
theorem c_X3_addHouse (l : Launch) (G : fz_G) (k : Nat) (hk : fz_isP k = true) (a0 : Int32) (a1 : Int32) (M : fz_M) (M9 : fz_M) (h : f_X3_addHouse k a0 a1 M = some M9) : fz_Me l yX3_addHouse cX3_addHouse 3 none 0 0 G fz_shC fz_KC [.ref (G.1 k), .int a0, .int a1] M (fz_Qv G fz_shC fz_KC M9) := by
  refine fz_body (by decide) (Nat.le_of_ble_eq_true rfl) ?_
  intro p e s m args below meth c H locs ls C hr hlk hF hT hl
  have C : CallFix p m c cX3_addHouse 3 s args wsL_law RX3 := C
  have hl : lv_has ls 3 [(0, .ref (G.1 k)), (1, .int a0), (2, .int a1)] := hl
  exact b_X3_addHouse_0 hk C hr hlk hF hT (lv_sub hl [0, 1, 2] rfl) h
set_option maxHeartbeats 4000000 in
set_option maxRecDepth 100000 in
theorem b_X3_addStream_0 {p : Program} {l : Launch} {e : Env} {s : State} {m : MethodId} {args : Array Value} {below : List Frame} {meth : Method} {c : Code} {G : fz_G} {k : Nat} (hk : fz_isP k = true)    {v1 : Int32} {v2 : Int32} {v3 : Int32} {M : fz_M} {H : Heap} {locs : List Loc} {ls : Array Slot} {M9 : fz_M} (C : CallFix p m c cX3_addStream 4 s args wsL_law RX3) (hr : meth.sig.returnType = none) (hlk : meth.locks = false) (hF : fz_F G fz_KC s)  (hT : fz_T G fz_shC fz_KC s M H locs) (hl : lv_has ls 4 [(0, .ref (G.1 k)), (1, .int v1), (2, .int v2), (3, .int v3)]) (h : f_X3_addStream k v1 v2 v3 M = some M9) : W p l e (fz_rm 0 0) s m args below meth c H locs 0 0 (MQ below (fz_Qv G fz_shC fz_KC M9) args s 0 0 (fz_Fr G fz_KC)) (F0 m 0 ls []) := by
  refine lv_aload_n C.1 C.2.1 dX3_addStream_0 rfl (lv_at hl 0 rfl) ?_
  refine fz_geti C hF hT (fz_pl hk) (j := 1) rfl fl_X3_43 dX3_addStream_1 ?_
  refine lv_bipush (v := 10) C.1 C.2.1 dX3_addStream_4 (by decide) ?_
  refine lv_icmp_ge (tgt := 49) C.1 C.2.1 dX3_addStream_6 (by decide) (fun c1 => ?_) (fun c1 => ?_)
  · have h := fz_ip c1 h
    cases h
    exact fz_retv C hr hlk hT dX3_addStream_49
  · have h := fz_iq c1 h
    refine lv_aload_n C.1 C.2.1 dX3_addStream_9 rfl (lv_at hl 0 rfl) ?_
    refine fz_getr C hF hT (fz_pl hk) (j := 5) rfl fl_X3_18 dX3_addStream_10 ?_
    refine lv_aload_n C.1 C.2.1 dX3_addStream_13 rfl (lv_at hl 0 rfl) ?_
    refine fz_geti C hF hT (fz_pl hk) (j := 1) rfl fl_X3_43 dX3_addStream_14 ?_
    refine lv_iload_n C.1 C.2.1 dX3_addStream_17 rfl (lv_at hl 1 rfl) ?_
    obtain ⟨g2, h⟩ := fz_gd_s h
    obtain ⟨M3, eM3, h⟩ := fz_bd_s h
    refine fz_ias C hF hT (fz_pl3 hk) g2 dX3_addStream_18 (fun H locs hT => ?_)
    rw [← eM3] at hT
    refine lv_aload_n C.1 C.2.1 dX3_addStream_19 rfl (lv_at hl 0 rfl) ?_
    refine fz_getr C hF hT (fz_pl hk) (j := 6) rfl fl_X3_21 dX3_addStream_20 ?_
    refine lv_aload_n C.1 C.2.1 dX3_addStream_23 rfl (lv_at hl 0 rfl) ?_
    refine fz_geti C hF hT (fz_pl hk) (j := 1) rfl fl_X3_43 dX3_addStream_24 ?_
    refine lv_iload_n C.1 C.2.1 dX3_addStream_27 rfl (lv_at hl 2 rfl) ?_
    obtain ⟨g4, h⟩ := fz_gd_s h
    obtain ⟨M5, eM5, h⟩ := fz_bd_s h
    refine fz_ias C hF hT (fz_pl4 hk) g4 dX3_addStream_28 (fun H locs hT => ?_)
    rw [← eM5] at hT
    refine lv_aload_n C.1 C.2.1 dX3_addStream_29 rfl (lv_at hl 0 rfl) ?_
    refine fz_getr C hF hT (fz_pl hk) (j := 7) rfl fl_X3_24 dX3_addStream_30 ?_
    refine lv_aload_n C.1 C.2.1 dX3_addStream_33 rfl (lv_at hl 0 rfl) ?_
    refine fz_geti C hF hT (fz_pl hk) (j := 1) rfl fl_X3_43 dX3_addStream_34 ?_
    refine lv_iload_n C.1 C.2.1 dX3_addStream_37 rfl (lv_at hl 3 rfl) ?_
    obtain ⟨g6, h⟩ := fz_gd_s h
    obtain ⟨M7, eM7, h⟩ := fz_bd_s h
    refine fz_ias C hF hT (fz_pl5 hk) g6 dX3_addStream_38 (fun H locs hT => ?_)
    rw [← eM7] at hT
    refine lv_aload_n C.1 C.2.1 dX3_addStream_39 rfl (lv_at hl 0 rfl) ?_
    refine lv_dup C.1 C.2.1 dX3_addStream_40 rfl ?_
    refine fz_geti C hF hT (fz_pl hk) (j := 1) rfl fl_X3_43 dX3_addStream_41 ?_
    refine lv_iconst (v := 1) C.1 C.2.1 dX3_addStream_44 (by decide) ?_
    refine lv_iadd C.1 C.2.1 dX3_addStream_45 ?_
    obtain ⟨M8, eM8, h⟩ := fz_bd_s h
    refine fz_puti C hF hT (fz_pl hk) (j := 1) rfl fw_X3_43 dX3_addStream_46 (fun H locs hT => ?_)
    rw [← eM8] at hT
    cases h
    exact fz_retv C hr hlk hT dX3_addStream_49
set_option maxRecDepth 100000 in
theorem c_X3_addStream (l : Launch) (G : fz_G) (k : Nat) (hk : fz_isP k = true) (a0 : Int32) (a1 : Int32) (a2 : Int32) (M : fz_M) (M9 : fz_M) (h : f_X3_addStream k a0 a1 a2 M = some M9) : fz_Me l yX3_addStream cX3_addStream 4 none 0 0 G fz_shC fz_KC [.ref (G.1 k), .int a0, .int a1, .int a2] M (fz_Qv G fz_shC fz_KC M9) := by
  refine fz_body (by decide) (Nat.le_of_ble_eq_true rfl) ?_
  intro p e s m args below meth c H locs ls C hr hlk hF hT hl
  have C : CallFix p m c cX3_addStream 4 s args wsL_law RX3 := C
  have hl : lv_has ls 4 [(0, .ref (G.1 k)), (1, .int a0), (2, .int a1), (3, .int a2)] := hl
  exact b_X3_addStream_0 hk C hr hlk hF hT (lv_sub hl [0, 1, 2, 3] rfl) h
set_option maxHeartbeats 4000000 in
set_option maxRecDepth 100000 in
theorem b_X3_addPiece_0 {p : Program} {l : Launch} {e : Env} {s : State} {m : MethodId} {args : Array Value} {below : List Frame} {meth : Method} {c : Code} {G : fz_G} {k : Nat} (hk : fz_isP k = true)    {v1 : Int32} {v2 : Int32} {v3 : Int32} {v4 : Int32} {M : fz_M} {H : Heap} {locs : List Loc} {ls : Array Slot} {M9 : fz_M} (C : CallFix p m c cX3_addPiece 5 s args wsL_law RX3) (hr : meth.sig.returnType = none) (hlk : meth.locks = false) (hF : fz_F G fz_KC s)  (hT : fz_T G fz_shC fz_KC s M H locs) (hl : lv_has ls 5 [(0, .ref (G.1 k)), (1, .int v1), (2, .int v2), (3, .int v3), (4, .int v4)]) (h : f_X3_addPiece k v1 v2 v3 v4 M = some M9) : W p l e (fz_rm 0 0) s m args below meth c H locs 0 0 (MQ below (fz_Qv G fz_shC fz_KC M9) args s 0 0 (fz_Fr G fz_KC)) (F0 m 0 ls []) := by
  refine lv_aload_n C.1 C.2.1 dX3_addPiece_0 rfl (lv_at hl 0 rfl) ?_
  refine fz_geti C hF hT (fz_pl hk) (j := 2) rfl fl_X3_46 dX3_addPiece_1 ?_
  refine lv_bipush (v := 6) C.1 C.2.1 dX3_addPiece_4 (by decide) ?_
  refine lv_icmp_ge (tgt := 60) C.1 C.2.1 dX3_addPiece_6 (by decide) (fun c1 => ?_) (fun c1 => ?_)
  · have h := fz_ip c1 h
    cases h
    exact fz_retv C hr hlk hT dX3_addPiece_60
  · have h := fz_iq c1 h
    refine lv_aload_n C.1 C.2.1 dX3_addPiece_9 rfl (lv_at hl 0 rfl) ?_
    refine fz_getr C hF hT (fz_pl hk) (j := 8) rfl fl_X3_27 dX3_addPiece_10 ?_
    refine lv_aload_n C.1 C.2.1 dX3_addPiece_13 rfl (lv_at hl 0 rfl) ?_
    refine fz_geti C hF hT (fz_pl hk) (j := 2) rfl fl_X3_46 dX3_addPiece_14 ?_
    refine lv_iload_n C.1 C.2.1 dX3_addPiece_17 rfl (lv_at hl 1 rfl) ?_
    obtain ⟨g2, h⟩ := fz_gd_s h
    obtain ⟨M3, eM3, h⟩ := fz_bd_s h
    refine fz_ias C hF hT (fz_pl6 hk) g2 dX3_addPiece_18 (fun H locs hT => ?_)
    rw [← eM3] at hT
    refine lv_aload_n C.1 C.2.1 dX3_addPiece_19 rfl (lv_at hl 0 rfl) ?_
    refine fz_getr C hF hT (fz_pl hk) (j := 9) rfl fl_X3_30 dX3_addPiece_20 ?_
    refine lv_aload_n C.1 C.2.1 dX3_addPiece_23 rfl (lv_at hl 0 rfl) ?_
    refine fz_geti C hF hT (fz_pl hk) (j := 2) rfl fl_X3_46 dX3_addPiece_24 ?_
    refine lv_iload_n C.1 C.2.1 dX3_addPiece_27 rfl (lv_at hl 2 rfl) ?_
    obtain ⟨g4, h⟩ := fz_gd_s h
    obtain ⟨M5, eM5, h⟩ := fz_bd_s h
    refine fz_ias C hF hT (fz_pl7 hk) g4 dX3_addPiece_28 (fun H locs hT => ?_)
    rw [← eM5] at hT
    refine lv_aload_n C.1 C.2.1 dX3_addPiece_29 rfl (lv_at hl 0 rfl) ?_
    refine fz_getr C hF hT (fz_pl hk) (j := 10) rfl fl_X3_33 dX3_addPiece_30 ?_
    refine lv_aload_n C.1 C.2.1 dX3_addPiece_33 rfl (lv_at hl 0 rfl) ?_
    refine fz_geti C hF hT (fz_pl hk) (j := 2) rfl fl_X3_46 dX3_addPiece_34 ?_
    refine lv_iload_n C.1 C.2.1 dX3_addPiece_37 rfl (lv_at hl 3 rfl) ?_
    obtain ⟨g6, h⟩ := fz_gd_s h
    obtain ⟨M7, eM7, h⟩ := fz_bd_s h
    refine fz_ias C hF hT (fz_pl8 hk) g6 dX3_addPiece_38 (fun H locs hT => ?_)
    rw [← eM7] at hT
    refine lv_aload_n C.1 C.2.1 dX3_addPiece_39 rfl (lv_at hl 0 rfl) ?_
    refine fz_getr C hF hT (fz_pl hk) (j := 11) rfl fl_X3_36 dX3_addPiece_40 ?_
    refine lv_aload_n C.1 C.2.1 dX3_addPiece_43 rfl (lv_at hl 0 rfl) ?_
    refine fz_geti C hF hT (fz_pl hk) (j := 2) rfl fl_X3_46 dX3_addPiece_44 ?_
    refine lv_iload C.1 C.2.1 dX3_addPiece_47 (lv_at hl 4 rfl) ?_
    obtain ⟨g8, h⟩ := fz_gd_s h
    obtain ⟨M9, eM9, h⟩ := fz_bd_s h
    refine fz_ias C hF hT (fz_pl9 hk) g8 dX3_addPiece_49 (fun H locs hT => ?_)
    rw [← eM9] at hT
    refine lv_aload_n C.1 C.2.1 dX3_addPiece_50 rfl (lv_at hl 0 rfl) ?_
    refine lv_dup C.1 C.2.1 dX3_addPiece_51 rfl ?_
    refine fz_geti C hF hT (fz_pl hk) (j := 2) rfl fl_X3_46 dX3_addPiece_52 ?_
    refine lv_iconst (v := 1) C.1 C.2.1 dX3_addPiece_55 (by decide) ?_
    refine lv_iadd C.1 C.2.1 dX3_addPiece_56 ?_
    obtain ⟨M10, eM10, h⟩ := fz_bd_s h
    refine fz_puti C hF hT (fz_pl hk) (j := 2) rfl fw_X3_46 dX3_addPiece_57 (fun H locs hT => ?_)
    rw [← eM10] at hT
    cases h
    exact fz_retv C hr hlk hT dX3_addPiece_60
set_option maxRecDepth 100000 in
theorem c_X3_addPiece (l : Launch) (G : fz_G) (k : Nat) (hk : fz_isP k = true) (a0 : Int32) (a1 : Int32) (a2 : Int32) (a3 : Int32) (M : fz_M) (M9 : fz_M) (h : f_X3_addPiece k a0 a1 a2 a3 M = some M9) : fz_Me l yX3_addPiece cX3_addPiece 5 none 0 0 G fz_shC fz_KC [.ref (G.1 k), .int a0, .int a1, .int a2, .int a3] M (fz_Qv G fz_shC fz_KC M9) := by
  refine fz_body (by decide) (Nat.le_of_ble_eq_true rfl) ?_
  intro p e s m args below meth c H locs ls C hr hlk hF hT hl
  have C : CallFix p m c cX3_addPiece 5 s args wsL_law RX3 := C
  have hl : lv_has ls 5 [(0, .ref (G.1 k)), (1, .int a0), (2, .int a1), (3, .int a2), (4, .int a3)] := hl
  exact b_X3_addPiece_0 hk C hr hlk hF hT (lv_sub hl [0, 1, 2, 3, 4] rfl) h
set_option maxHeartbeats 4000000 in
set_option maxRecDepth 100000 in
theorem b_X3_tenthsLeftFrom_5_l {p : Program} {l : Launch} {e : Env} {s : State} {m : MethodId} {args : Array Value} {below : List Frame} {meth : Method} {c : Code} {G : fz_G} {k : Nat} (hk : fz_isP k = true)    {v1 : Int32} {M : fz_M} {r : Int32} (C : CallFix p m c cX3_tenthsLeftFrom 4 s args wsL_law RX3) (hr : meth.sig.returnType = (some .int)) (hlk : meth.locks = false) (hF : fz_F G fz_KC s)  : ∀ (n : Nat) (v2 : Int32) (v3 : Int32) (H : Heap) (locs : List Loc) (ls : Array Slot), fz_T G fz_shC fz_KC s M H locs → lv_has ls 4 [(0, .ref (G.1 k)), (1, .int v1), (2, .int v2), (3, .int v3)] → fz_lp (fun ag z => f_X3_tenthsLeftFrom_5_s k ag v1 z.1 z.2 M) n (v2, v3) = some r → W p l e (fz_rm 0 0) s m args below meth c H locs 0 0 (MQ below (fz_Qi G fz_shC fz_KC r M) args s 0 0 (fz_Fr G fz_KC)) (F0 m 5 ls []) := by
  intro n
  induction n with
  | zero =>
    intro v2 v3 H locs ls hT hl h
    cases h
  | succ n ih =>
    intro v2 v3 H locs ls hT hl h
    have h : f_X3_tenthsLeftFrom_5_s k (fz_lp (fun ag z => f_X3_tenthsLeftFrom_5_s k ag v1 z.1 z.2 M) n) v1 v2 v3 M = some r := h
    have hag5 := ih
    generalize fz_lp (fun ag z => f_X3_tenthsLeftFrom_5_s k ag v1 z.1 z.2 M) n = ag5 at h hag5
    refine lv_iload_n C.1 C.2.1 dX3_tenthsLeftFrom_5 rfl (lv_at hl 3 rfl) ?_
    refine lv_aload_n C.1 C.2.1 dX3_tenthsLeftFrom_6 rfl (lv_at hl 0 rfl) ?_
    refine fz_geti C hF hT (fz_pl hk) (j := 1) rfl fl_X3_43 dX3_tenthsLeftFrom_7 ?_
    refine lv_icmp_ge (tgt := 38) C.1 C.2.1 dX3_tenthsLeftFrom_10 (by decide) (fun c1 => ?_) (fun c1 => ?_)
    · have h := fz_ip c1 h
      refine lv_iload_n C.1 C.2.1 dX3_tenthsLeftFrom_38 rfl (lv_at hl 2 rfl) ?_
      cases h
      exact fz_reti C hr hlk hT dX3_tenthsLeftFrom_39
    · have h := fz_iq c1 h
      refine lv_aload_n C.1 C.2.1 dX3_tenthsLeftFrom_13 rfl (lv_at hl 0 rfl) ?_
      refine fz_getr C hF hT (fz_pl hk) (j := 5) rfl fl_X3_18 dX3_tenthsLeftFrom_14 ?_
      refine lv_iload_n C.1 C.2.1 dX3_tenthsLeftFrom_17 rfl (lv_at hl 3 rfl) ?_
      obtain ⟨g2, h⟩ := fz_gd_s h
      refine fz_ia C hF hT (fz_pl3 hk) g2 dX3_tenthsLeftFrom_18 ?_
      refine lv_iload_n C.1 C.2.1 dX3_tenthsLeftFrom_19 rfl (lv_at hl 1 rfl) ?_
      refine lv_icmp_ne (tgt := 32) C.1 C.2.1 dX3_tenthsLeftFrom_20 (by decide) (fun c3 => ?_) (fun c3 => ?_)
      · have h := fz_ip c3 h
        refine lv_iinc (v := (v3 + 1)) (lv' := [(3, .int (v3 + 1)), (0, .ref (G.1 k)), (1, .int v1), (2, .int v2)]) C.1 C.2.1 dX3_tenthsLeftFrom_32 hl (k := 3) rfl rfl (by decide) rfl (fun ls hl => ?_)
        refine lv_goto (tgt := 5) C.1 C.2.1 dX3_tenthsLeftFrom_35 (by decide) ?_
        exact hag5 v2 (v3 + 1) _ _ _ hT (lv_sub hl [1, 2, 3, 0] rfl) h
      · have h := fz_iq (not_not_intro c3) h
        refine lv_iload_n C.1 C.2.1 dX3_tenthsLeftFrom_23 rfl (lv_at hl 2 rfl) ?_
        refine lv_aload_n C.1 C.2.1 dX3_tenthsLeftFrom_24 rfl (lv_at hl 0 rfl) ?_
        refine fz_getr C hF hT (fz_pl hk) (j := 7) rfl fl_X3_24 dX3_tenthsLeftFrom_25 ?_
        refine lv_iload_n C.1 C.2.1 dX3_tenthsLeftFrom_28 rfl (lv_at hl 3 rfl) ?_
        obtain ⟨g4, h⟩ := fz_gd_s h
        refine fz_ia C hF hT (fz_pl5 hk) g4 dX3_tenthsLeftFrom_29 ?_
        refine lv_isub C.1 C.2.1 dX3_tenthsLeftFrom_30 ?_
        obtain ⟨x5, ex5, h⟩ := fz_bd_s h
        refine fz_nmi ex5 ?_
        refine lv_istore_n (lv' := [(2, .int x5), (0, .ref (G.1 k)), (1, .int v1), (3, .int v3)]) C.1 C.2.1 dX3_tenthsLeftFrom_31 rfl hl (by decide) rfl (fun ls hl => ?_)
        refine lv_iinc (v := (v3 + 1)) (lv' := [(3, .int (v3 + 1)), (2, .int x5), (0, .ref (G.1 k)), (1, .int v1)]) C.1 C.2.1 dX3_tenthsLeftFrom_32 hl (k := 3) rfl rfl (by decide) rfl (fun ls hl => ?_)
        refine lv_goto (tgt := 5) C.1 C.2.1 dX3_tenthsLeftFrom_35 (by decide) ?_
        exact hag5 x5 (v3 + 1) _ _ _ hT (lv_sub hl [2, 3, 1, 0] rfl) h
set_option maxHeartbeats 4000000 in
set_option maxRecDepth 100000 in
theorem b_X3_tenthsLeftFrom_5 {p : Program} {l : Launch} {e : Env} {s : State} {m : MethodId} {args : Array Value} {below : List Frame} {meth : Method} {c : Code} {G : fz_G} {k : Nat} (hk : fz_isP k = true)    {v1 : Int32} {v2 : Int32} {v3 : Int32} {M : fz_M} {H : Heap} {locs : List Loc} {ls : Array Slot} {r : Int32} (C : CallFix p m c cX3_tenthsLeftFrom 4 s args wsL_law RX3) (hr : meth.sig.returnType = (some .int)) (hlk : meth.locks = false) (hF : fz_F G fz_KC s)  (hT : fz_T G fz_shC fz_KC s M H locs) (hl : lv_has ls 4 [(0, .ref (G.1 k)), (1, .int v1), (2, .int v2), (3, .int v3)]) (h : f_X3_tenthsLeftFrom_5 k v1 v2 v3 M = some r) : W p l e (fz_rm 0 0) s m args below meth c H locs 0 0 (MQ below (fz_Qi G fz_shC fz_KC r M) args s 0 0 (fz_Fr G fz_KC)) (F0 m 5 ls []) :=
  b_X3_tenthsLeftFrom_5_l hk C hr hlk hF fz_fuel v2 v3 H locs ls hT hl h
set_option maxHeartbeats 4000000 in
set_option maxRecDepth 100000 in
theorem b_X3_tenthsLeftFrom_0 {p : Program} {l : Launch} {e : Env} {s : State} {m : MethodId} {args : Array Value} {below : List Frame} {meth : Method} {c : Code} {G : fz_G} {k : Nat} (hk : fz_isP k = true)    {v1 : Int32} {M : fz_M} {H : Heap} {locs : List Loc} {ls : Array Slot} {r : Int32} (C : CallFix p m c cX3_tenthsLeftFrom 4 s args wsL_law RX3) (hr : meth.sig.returnType = (some .int)) (hlk : meth.locks = false) (hF : fz_F G fz_KC s)  (hT : fz_T G fz_shC fz_KC s M H locs) (hl : lv_has ls 4 [(0, .ref (G.1 k)), (1, .int v1)]) (h : f_X3_tenthsLeftFrom k v1 M = some r) : W p l e (fz_rm 0 0) s m args below meth c H locs 0 0 (MQ below (fz_Qi G fz_shC fz_KC r M) args s 0 0 (fz_Fr G fz_KC)) (F0 m 0 ls []) := by
  refine lv_bipush (v := 10) C.1 C.2.1 dX3_tenthsLeftFrom_0 (by decide) ?_
  refine lv_istore_n (lv' := [(2, .int 10), (0, .ref (G.1 k)), (1, .int v1)]) C.1 C.2.1 dX3_tenthsLeftFrom_2 rfl hl (by decide) rfl (fun ls hl => ?_)
  refine lv_iconst (v := 0) C.1 C.2.1 dX3_tenthsLeftFrom_3 (by decide) ?_
  refine lv_istore_n (lv' := [(3, .int 0), (2, .int 10), (0, .ref (G.1 k)), (1, .int v1)]) C.1 C.2.1 dX3_tenthsLeftFrom_4 rfl hl (by decide) rfl (fun ls hl => ?_)
  exact b_X3_tenthsLeftFrom_5 hk C hr hlk hF hT (lv_sub hl [2, 3, 1, 0] rfl) h
set_option maxRecDepth 100000 in
theorem c_X3_tenthsLeftFrom (l : Launch) (G : fz_G) (k : Nat) (hk : fz_isP k = true) (a0 : Int32) (M : fz_M) (r : Int32) (h : f_X3_tenthsLeftFrom k a0 M = some r) : fz_Me l yX3_tenthsLeftFrom cX3_tenthsLeftFrom 4 (some .int) 0 0 G fz_shC fz_KC [.ref (G.1 k), .int a0] M (fz_Qi G fz_shC fz_KC r M) := by
  refine fz_body (by decide) (Nat.le_of_ble_eq_true rfl) ?_
  intro p e s m args below meth c H locs ls C hr hlk hF hT hl
  have C : CallFix p m c cX3_tenthsLeftFrom 4 s args wsL_law RX3 := C
  have hl : lv_has ls 4 [(0, .ref (G.1 k)), (1, .int a0)] := hl
  exact b_X3_tenthsLeftFrom_0 hk C hr hlk hF hT (lv_sub hl [0, 1] rfl) h
set_option maxHeartbeats 4000000 in
set_option maxRecDepth 100000 in
theorem b_X3_canJoin_17_l {p : Program} {l : Launch} {e : Env} {s : State} {m : MethodId} {args : Array Value} {below : List Frame} {meth : Method} {c : Code} {G : fz_G} {k : Nat} (hk : fz_isP k = true)    {v1 : Int32} {v2 : Int32} {M : fz_M} {r : Int32} (C : CallFix p m c cX3_canJoin 4 s args wsL_law RX3) (hr : meth.sig.returnType = (some .boolean)) (hlk : meth.locks = false) (hF : fz_F G fz_KC s)  : ∀ (n : Nat) (v3 : Int32) (H : Heap) (locs : List Loc) (ls : Array Slot), fz_T G fz_shC fz_KC s M H locs → lv_has ls 4 [(0, .ref (G.1 k)), (1, .int v1), (2, .int v2), (3, .int v3)] → fz_lp (fun ag z => f_X3_canJoin_17_s k ag v1 v2 z M) n v3 = some r → W p l e (fz_rm 0 0) s m args below meth c H locs 0 0 (MQ below (fz_Qi G fz_shC fz_KC r M) args s 0 0 (fz_Fr G fz_KC)) (F0 m 17 ls []) := by
  intro n
  induction n with
  | zero =>
    intro v3 H locs ls hT hl h
    cases h
  | succ n ih =>
    intro v3 H locs ls hT hl h
    have h : f_X3_canJoin_17_s k (fz_lp (fun ag z => f_X3_canJoin_17_s k ag v1 v2 z M) n) v1 v2 v3 M = some r := h
    have hag17 := ih
    generalize fz_lp (fun ag z => f_X3_canJoin_17_s k ag v1 v2 z M) n = ag17 at h hag17
    refine lv_iload_n C.1 C.2.1 dX3_canJoin_17 rfl (lv_at hl 3 rfl) ?_
    refine lv_aload_n C.1 C.2.1 dX3_canJoin_18 rfl (lv_at hl 0 rfl) ?_
    refine fz_geti C hF hT (fz_pl hk) (j := 1) rfl fl_X3_43 dX3_canJoin_19 ?_
    refine lv_icmp_ge (tgt := 53) C.1 C.2.1 dX3_canJoin_22 (by decide) (fun c1 => ?_) (fun c1 => ?_)
    · have h := fz_ip c1 h
      refine lv_iconst (v := 1) C.1 C.2.1 dX3_canJoin_53 (by decide) ?_
      cases h
      exact fz_retz C hr hlk rfl hT dX3_canJoin_54
    · have h := fz_iq c1 h
      refine lv_aload_n C.1 C.2.1 dX3_canJoin_25 rfl (lv_at hl 0 rfl) ?_
      refine fz_getr C hF hT (fz_pl hk) (j := 5) rfl fl_X3_18 dX3_canJoin_26 ?_
      refine lv_iload_n C.1 C.2.1 dX3_canJoin_29 rfl (lv_at hl 3 rfl) ?_
      obtain ⟨g2, h⟩ := fz_gd_s h
      refine fz_ia C hF hT (fz_pl3 hk) g2 dX3_canJoin_30 ?_
      refine lv_iload_n C.1 C.2.1 dX3_canJoin_31 rfl (lv_at hl 1 rfl) ?_
      refine lv_icmp_ne (tgt := 47) C.1 C.2.1 dX3_canJoin_32 (by decide) (fun c3 => ?_) (fun c3 => ?_)
      · have h := fz_ip c3 h
        refine lv_iinc (v := (v3 + 1)) (lv' := [(3, .int (v3 + 1)), (0, .ref (G.1 k)), (1, .int v1), (2, .int v2)]) C.1 C.2.1 dX3_canJoin_47 hl (k := 3) rfl rfl (by decide) rfl (fun ls hl => ?_)
        refine lv_goto (tgt := 17) C.1 C.2.1 dX3_canJoin_50 (by decide) ?_
        exact hag17 (v3 + 1) _ _ _ hT (lv_sub hl [1, 2, 3, 0] rfl) h
      · have h := fz_iq (not_not_intro c3) h
        refine lv_aload_n C.1 C.2.1 dX3_canJoin_35 rfl (lv_at hl 0 rfl) ?_
        refine fz_getr C hF hT (fz_pl hk) (j := 6) rfl fl_X3_21 dX3_canJoin_36 ?_
        refine lv_iload_n C.1 C.2.1 dX3_canJoin_39 rfl (lv_at hl 3 rfl) ?_
        obtain ⟨g4, h⟩ := fz_gd_s h
        refine fz_ia C hF hT (fz_pl4 hk) g4 dX3_canJoin_40 ?_
        refine lv_iload_n C.1 C.2.1 dX3_canJoin_41 rfl (lv_at hl 2 rfl) ?_
        refine lv_icmp_ne (tgt := 47) C.1 C.2.1 dX3_canJoin_42 (by decide) (fun c5 => ?_) (fun c5 => ?_)
        · have h := fz_ip c5 h
          refine lv_iinc (v := (v3 + 1)) (lv' := [(3, .int (v3 + 1)), (0, .ref (G.1 k)), (1, .int v1), (2, .int v2)]) C.1 C.2.1 dX3_canJoin_47 hl (k := 3) rfl rfl (by decide) rfl (fun ls hl => ?_)
          refine lv_goto (tgt := 17) C.1 C.2.1 dX3_canJoin_50 (by decide) ?_
          exact hag17 (v3 + 1) _ _ _ hT (lv_sub hl [1, 2, 3, 0] rfl) h
        · have h := fz_iq (not_not_intro c5) h
          refine lv_iconst (v := 0) C.1 C.2.1 dX3_canJoin_45 (by decide) ?_
          cases h
          exact fz_retz C hr hlk rfl hT dX3_canJoin_46
set_option maxHeartbeats 4000000 in
set_option maxRecDepth 100000 in
theorem b_X3_canJoin_17 {p : Program} {l : Launch} {e : Env} {s : State} {m : MethodId} {args : Array Value} {below : List Frame} {meth : Method} {c : Code} {G : fz_G} {k : Nat} (hk : fz_isP k = true)    {v1 : Int32} {v2 : Int32} {v3 : Int32} {M : fz_M} {H : Heap} {locs : List Loc} {ls : Array Slot} {r : Int32} (C : CallFix p m c cX3_canJoin 4 s args wsL_law RX3) (hr : meth.sig.returnType = (some .boolean)) (hlk : meth.locks = false) (hF : fz_F G fz_KC s)  (hT : fz_T G fz_shC fz_KC s M H locs) (hl : lv_has ls 4 [(0, .ref (G.1 k)), (1, .int v1), (2, .int v2), (3, .int v3)]) (h : f_X3_canJoin_17 k v1 v2 v3 M = some r) : W p l e (fz_rm 0 0) s m args below meth c H locs 0 0 (MQ below (fz_Qi G fz_shC fz_KC r M) args s 0 0 (fz_Fr G fz_KC)) (F0 m 17 ls []) :=
  b_X3_canJoin_17_l hk C hr hlk hF fz_fuel v3 H locs ls hT hl h
set_option maxHeartbeats 4000000 in
set_option maxRecDepth 100000 in
theorem b_X3_canJoin_0 {p : Program} {l : Launch} {e : Env} {s : State} {m : MethodId} {args : Array Value} {below : List Frame} {meth : Method} {c : Code} {G : fz_G} {k : Nat} (hk : fz_isP k = true)    {v1 : Int32} {v2 : Int32} {M : fz_M} {H : Heap} {locs : List Loc} {ls : Array Slot} {r : Int32} (C : CallFix p m c cX3_canJoin 4 s args wsL_law RX3) (hr : meth.sig.returnType = (some .boolean)) (hlk : meth.locks = false) (hF : fz_F G fz_KC s)  (hT : fz_T G fz_shC fz_KC s M H locs) (hl : lv_has ls 4 [(0, .ref (G.1 k)), (1, .int v1), (2, .int v2)]) (h : f_X3_canJoin k v1 v2 M = some r) : W p l e (fz_rm 0 0) s m args below meth c H locs 0 0 (MQ below (fz_Qi G fz_shC fz_KC r M) args s 0 0 (fz_Fr G fz_KC)) (F0 m 0 ls []) := by
  refine lv_iload_n C.1 C.2.1 dX3_canJoin_0 rfl (lv_at hl 1 rfl) ?_
  refine lv_iload_n C.1 C.2.1 dX3_canJoin_1 rfl (lv_at hl 2 rfl) ?_
  refine lv_icmp_eq (tgt := 13) C.1 C.2.1 dX3_canJoin_2 (by decide) (fun c1 => ?_) (fun c1 => ?_)
  · have h := fz_ip c1 h
    refine lv_iconst (v := 0) C.1 C.2.1 dX3_canJoin_13 (by decide) ?_
    cases h
    exact fz_retz C hr hlk rfl hT dX3_canJoin_14
  · have h := fz_iq c1 h
    refine lv_iload_n C.1 C.2.1 dX3_canJoin_5 rfl (lv_at hl 2 rfl) ?_
    refine lv_aload_n C.1 C.2.1 dX3_canJoin_6 rfl (lv_at hl 0 rfl) ?_
    refine fz_geti C hF hT (fz_pl hk) (j := 0) rfl fl_X3_39 dX3_canJoin_7 ?_
    refine lv_icmp_lt (tgt := 15) C.1 C.2.1 dX3_canJoin_10 (by decide) (fun c2 => ?_) (fun c2 => ?_)
    · have h := fz_ip c2 h
      refine lv_iconst (v := 0) C.1 C.2.1 dX3_canJoin_15 (by decide) ?_
      refine lv_istore_n (lv' := [(3, .int 0), (0, .ref (G.1 k)), (1, .int v1), (2, .int v2)]) C.1 C.2.1 dX3_canJoin_16 rfl hl (by decide) rfl (fun ls hl => ?_)
      exact b_X3_canJoin_17 hk C hr hlk hF hT (lv_sub hl [1, 2, 3, 0] rfl) h
    · have h := fz_iq c2 h
      refine lv_iconst (v := 0) C.1 C.2.1 dX3_canJoin_13 (by decide) ?_
      cases h
      exact fz_retz C hr hlk rfl hT dX3_canJoin_14
set_option maxRecDepth 100000 in
theorem c_X3_canJoin (l : Launch) (G : fz_G) (k : Nat) (hk : fz_isP k = true) (a0 : Int32) (a1 : Int32) (M : fz_M) (r : Int32) (h : f_X3_canJoin k a0 a1 M = some r) : fz_Me l yX3_canJoin cX3_canJoin 4 (some .boolean) 0 0 G fz_shC fz_KC [.ref (G.1 k), .int a0, .int a1] M (fz_Qi G fz_shC fz_KC r M) := by
  refine fz_body (by decide) (Nat.le_of_ble_eq_true rfl) ?_
  intro p e s m args below meth c H locs ls C hr hlk hF hT hl
  have C : CallFix p m c cX3_canJoin 4 s args wsL_law RX3 := C
  have hl : lv_has ls 4 [(0, .ref (G.1 k)), (1, .int a0), (2, .int a1)] := hl
  exact b_X3_canJoin_0 hk C hr hlk hF hT (lv_sub hl [0, 1, 2] rfl) h
set_option maxHeartbeats 4000000 in
set_option maxRecDepth 100000 in
theorem b_X3_canLeave_21_l {p : Program} {l : Launch} {e : Env} {s : State} {m : MethodId} {args : Array Value} {below : List Frame} {meth : Method} {c : Code} {G : fz_G} {k : Nat} (hk : fz_isP k = true)    {v1 : Int32} {M : fz_M} {r : Int32} (C : CallFix p m c cX3_canLeave 3 s args wsL_law RX3) (hr : meth.sig.returnType = (some .boolean)) (hlk : meth.locks = false) (hF : fz_F G fz_KC s)  : ∀ (n : Nat) (v2 : Int32) (H : Heap) (locs : List Loc) (ls : Array Slot), fz_T G fz_shC fz_KC s M H locs → lv_has ls 3 [(0, .ref (G.1 k)), (1, .int v1), (2, .int v2)] → fz_lp (fun ag z => f_X3_canLeave_21_s k ag v1 z M) n v2 = some r → W p l e (fz_rm 1 23) s m args below meth c H locs 0 0 (MQ below (fz_Qi G fz_shC fz_KC r M) args s 0 0 (fz_Fr G fz_KC)) (F0 m 21 ls []) := by
  intro n
  induction n with
  | zero =>
    intro v2 H locs ls hT hl h
    cases h
  | succ n ih =>
    intro v2 H locs ls hT hl h
    have h : f_X3_canLeave_21_s k (fz_lp (fun ag z => f_X3_canLeave_21_s k ag v1 z M) n) v1 v2 M = some r := h
    have hag21 := ih
    generalize fz_lp (fun ag z => f_X3_canLeave_21_s k ag v1 z M) n = ag21 at h hag21
    refine lv_iload_n C.1 C.2.1 dX3_canLeave_21 rfl (lv_at hl 2 rfl) ?_
    refine lv_aload_n C.1 C.2.1 dX3_canLeave_22 rfl (lv_at hl 0 rfl) ?_
    refine fz_geti C hF hT (fz_pl hk) (j := 0) rfl fl_X3_39 dX3_canLeave_23 ?_
    refine lv_icmp_ge (tgt := 46) C.1 C.2.1 dX3_canLeave_26 (by decide) (fun c1 => ?_) (fun c1 => ?_)
    · have h := fz_ip c1 h
      refine lv_iconst (v := 0) C.1 C.2.1 dX3_canLeave_46 (by decide) ?_
      cases h
      exact fz_retz C hr hlk rfl hT dX3_canLeave_47
    · have h := fz_iq c1 h
      refine lv_aload_n C.1 C.2.1 dX3_canLeave_29 rfl (lv_at hl 0 rfl) ?_
      refine lv_iload_n C.1 C.2.1 dX3_canLeave_30 rfl (lv_at hl 1 rfl) ?_
      refine lv_iload_n C.1 C.2.1 dX3_canLeave_31 rfl (lv_at hl 2 rfl) ?_
      obtain ⟨r2, w4, h⟩ := fz_b1_s h
      refine fz_ci hT (fz_runV (np := 2) (rest := []) C hF hT (c_X3_canJoin l G k hk v1 v2 M r2 w4) (fz_pl hk) (T := TX3) (N := 12) rfl cl_X3_53 rfl hl.1 rfl (Nat.le_of_ble_eq_true rfl) ⟨Nat.le_of_ble_eq_true rfl, Nat.le_of_ble_eq_true rfl, Nat.zero_le _, Nat.zero_le _⟩ dX3_canLeave_32) (fun H locs hT => ?_)
      refine lv_if_eq (tgt := 40) C.1 C.2.1 dX3_canLeave_35 (by decide) (fun c5 => ?_) (fun c5 => ?_)
      · have h := fz_ip c5 h
        refine lv_iinc (v := (v2 + 1)) (lv' := [(2, .int (v2 + 1)), (0, .ref (G.1 k)), (1, .int v1)]) C.1 C.2.1 dX3_canLeave_40 hl (k := 2) rfl rfl (by decide) rfl (fun ls hl => ?_)
        refine lv_goto (tgt := 21) C.1 C.2.1 dX3_canLeave_43 (by decide) ?_
        exact hag21 (v2 + 1) _ _ _ hT (lv_sub hl [1, 2, 0] rfl) h
      · have h := fz_iq c5 h
        refine lv_iconst (v := 1) C.1 C.2.1 dX3_canLeave_38 (by decide) ?_
        cases h
        exact fz_retz C hr hlk rfl hT dX3_canLeave_39
set_option maxHeartbeats 4000000 in
set_option maxRecDepth 100000 in
theorem b_X3_canLeave_21 {p : Program} {l : Launch} {e : Env} {s : State} {m : MethodId} {args : Array Value} {below : List Frame} {meth : Method} {c : Code} {G : fz_G} {k : Nat} (hk : fz_isP k = true)    {v1 : Int32} {v2 : Int32} {M : fz_M} {H : Heap} {locs : List Loc} {ls : Array Slot} {r : Int32} (C : CallFix p m c cX3_canLeave 3 s args wsL_law RX3) (hr : meth.sig.returnType = (some .boolean)) (hlk : meth.locks = false) (hF : fz_F G fz_KC s)  (hT : fz_T G fz_shC fz_KC s M H locs) (hl : lv_has ls 3 [(0, .ref (G.1 k)), (1, .int v1), (2, .int v2)]) (h : f_X3_canLeave_21 k v1 v2 M = some r) : W p l e (fz_rm 1 23) s m args below meth c H locs 0 0 (MQ below (fz_Qi G fz_shC fz_KC r M) args s 0 0 (fz_Fr G fz_KC)) (F0 m 21 ls []) :=
  b_X3_canLeave_21_l hk C hr hlk hF fz_fuel v2 H locs ls hT hl h
set_option maxHeartbeats 4000000 in
set_option maxRecDepth 100000 in
theorem b_X3_canLeave_0 {p : Program} {l : Launch} {e : Env} {s : State} {m : MethodId} {args : Array Value} {below : List Frame} {meth : Method} {c : Code} {G : fz_G} {k : Nat} (hk : fz_isP k = true)    {v1 : Int32} {M : fz_M} {H : Heap} {locs : List Loc} {ls : Array Slot} {r : Int32} (C : CallFix p m c cX3_canLeave 3 s args wsL_law RX3) (hr : meth.sig.returnType = (some .boolean)) (hlk : meth.locks = false) (hF : fz_F G fz_KC s)  (hT : fz_T G fz_shC fz_KC s M H locs) (hl : lv_has ls 3 [(0, .ref (G.1 k)), (1, .int v1)]) (h : f_X3_canLeave k v1 M = some r) : W p l e (fz_rm 1 23) s m args below meth c H locs 0 0 (MQ below (fz_Qi G fz_shC fz_KC r M) args s 0 0 (fz_Fr G fz_KC)) (F0 m 0 ls []) := by
  refine lv_iload_n C.1 C.2.1 dX3_canLeave_0 rfl (lv_at hl 1 rfl) ?_
  refine lv_aload_n C.1 C.2.1 dX3_canLeave_1 rfl (lv_at hl 0 rfl) ?_
  refine fz_geti C hF hT (fz_pl hk) (j := 0) rfl fl_X3_39 dX3_canLeave_2 ?_
  refine lv_icmp_ge (tgt := 17) C.1 C.2.1 dX3_canLeave_5 (by decide) (fun c1 => ?_) (fun c1 => ?_)
  · have h := fz_ip c1 h
    refine lv_iconst (v := 0) C.1 C.2.1 dX3_canLeave_17 (by decide) ?_
    cases h
    exact fz_retz C hr hlk rfl hT dX3_canLeave_18
  · have h := fz_iq c1 h
    refine lv_aload_n C.1 C.2.1 dX3_canLeave_8 rfl (lv_at hl 0 rfl) ?_
    refine lv_iload_n C.1 C.2.1 dX3_canLeave_9 rfl (lv_at hl 1 rfl) ?_
    obtain ⟨r2, w4, h⟩ := fz_b1_s h
    refine fz_ci hT (fz_runV (np := 1) (rest := []) C hF hT (c_X3_tenthsLeftFrom l G k hk v1 M r2 w4) (fz_pl hk) (T := TX3) (N := 12) rfl cl_X3_49 rfl hl.1 rfl (Nat.le_of_ble_eq_true rfl) ⟨Nat.le_of_ble_eq_true rfl, Nat.le_of_ble_eq_true rfl, Nat.zero_le _, Nat.zero_le _⟩ dX3_canLeave_10) (fun H locs hT => ?_)
    refine lv_iconst (v := 1) C.1 C.2.1 dX3_canLeave_13 (by decide) ?_
    refine lv_icmp_ge (tgt := 19) C.1 C.2.1 dX3_canLeave_14 (by decide) (fun c5 => ?_) (fun c5 => ?_)
    · have h := fz_ip c5 h
      refine lv_iconst (v := 0) C.1 C.2.1 dX3_canLeave_19 (by decide) ?_
      refine lv_istore_n (lv' := [(2, .int 0), (0, .ref (G.1 k)), (1, .int v1)]) C.1 C.2.1 dX3_canLeave_20 rfl hl (by decide) rfl (fun ls hl => ?_)
      exact b_X3_canLeave_21 hk C hr hlk hF hT (lv_sub hl [1, 2, 0] rfl) h
    · have h := fz_iq c5 h
      refine lv_iconst (v := 0) C.1 C.2.1 dX3_canLeave_17 (by decide) ?_
      cases h
      exact fz_retz C hr hlk rfl hT dX3_canLeave_18
set_option maxRecDepth 100000 in
theorem c_X3_canLeave (l : Launch) (G : fz_G) (k : Nat) (hk : fz_isP k = true) (a0 : Int32) (M : fz_M) (r : Int32) (h : f_X3_canLeave k a0 M = some r) : fz_Me l yX3_canLeave cX3_canLeave 3 (some .boolean) 1 23 G fz_shC fz_KC [.ref (G.1 k), .int a0] M (fz_Qi G fz_shC fz_KC r M) := by
  refine fz_body (by decide) (Nat.le_of_ble_eq_true rfl) ?_
  intro p e s m args below meth c H locs ls C hr hlk hF hT hl
  have C : CallFix p m c cX3_canLeave 3 s args wsL_law RX3 := C
  have hl : lv_has ls 3 [(0, .ref (G.1 k)), (1, .int a0)] := hl
  exact b_X3_canLeave_0 hk C hr hlk hF hT (lv_sub hl [0, 1] rfl) h
set_option maxHeartbeats 4000000 in
set_option maxRecDepth 100000 in
theorem b_X3_canHaveStream_13_l {p : Program} {l : Launch} {e : Env} {s : State} {m : MethodId} {args : Array Value} {below : List Frame} {meth : Method} {c : Code} {G : fz_G} {k : Nat} (hk : fz_isP k = true)     {M : fz_M} {r : Int32} (C : CallFix p m c cX3_canHaveStream 2 s args wsL_law RX3) (hr : meth.sig.returnType = (some .boolean)) (hlk : meth.locks = false) (hF : fz_F G fz_KC s)  : ∀ (n : Nat) (v1 : Int32) (H : Heap) (locs : List Loc) (ls : Array Slot), fz_T G fz_shC fz_KC s M H locs → lv_has ls 2 [(0, .ref (G.1 k)), (1, .int v1)] → fz_lp (fun ag z => f_X3_canHaveStream_13_s k ag z M) n v1 = some r → W p l e (fz_rm 2 45) s m args below meth c H locs 0 0 (MQ below (fz_Qi G fz_shC fz_KC r M) args s 0 0 (fz_Fr G fz_KC)) (F0 m 13 ls []) := by
  intro n
  induction n with
  | zero =>
    intro v1 H locs ls hT hl h
    cases h
  | succ n ih =>
    intro v1 H locs ls hT hl h
    have h : f_X3_canHaveStream_13_s k (fz_lp (fun ag z => f_X3_canHaveStream_13_s k ag z M) n) v1 M = some r := h
    have hag13 := ih
    generalize fz_lp (fun ag z => f_X3_canHaveStream_13_s k ag z M) n = ag13 at h hag13
    refine lv_iload_n C.1 C.2.1 dX3_canHaveStream_13 rfl (lv_at hl 1 rfl) ?_
    refine lv_aload_n C.1 C.2.1 dX3_canHaveStream_14 rfl (lv_at hl 0 rfl) ?_
    refine fz_geti C hF hT (fz_pl hk) (j := 0) rfl fl_X3_39 dX3_canHaveStream_15 ?_
    refine lv_icmp_ge (tgt := 37) C.1 C.2.1 dX3_canHaveStream_18 (by decide) (fun c1 => ?_) (fun c1 => ?_)
    · have h := fz_ip c1 h
      refine lv_iconst (v := 0) C.1 C.2.1 dX3_canHaveStream_37 (by decide) ?_
      cases h
      exact fz_retz C hr hlk rfl hT dX3_canHaveStream_38
    · have h := fz_iq c1 h
      refine lv_aload_n C.1 C.2.1 dX3_canHaveStream_21 rfl (lv_at hl 0 rfl) ?_
      refine lv_iload_n C.1 C.2.1 dX3_canHaveStream_22 rfl (lv_at hl 1 rfl) ?_
      obtain ⟨r2, w4, h⟩ := fz_b1_s h
      refine fz_ci hT (fz_runV (np := 1) (rest := []) C hF hT (c_X3_canLeave l G k hk v1 M r2 w4) (fz_pl hk) (T := TX3) (N := 12) rfl cl_X3_57 rfl hl.1 rfl (Nat.le_of_ble_eq_true rfl) ⟨Nat.le_of_ble_eq_true rfl, Nat.le_of_ble_eq_true rfl, Nat.zero_le _, Nat.zero_le _⟩ dX3_canHaveStream_23) (fun H locs hT => ?_)
      refine lv_if_eq (tgt := 31) C.1 C.2.1 dX3_canHaveStream_26 (by decide) (fun c5 => ?_) (fun c5 => ?_)
      · have h := fz_ip c5 h
        refine lv_iinc (v := (v1 + 1)) (lv' := [(1, .int (v1 + 1)), (0, .ref (G.1 k))]) C.1 C.2.1 dX3_canHaveStream_31 hl (k := 1) rfl rfl (by decide) rfl (fun ls hl => ?_)
        refine lv_goto (tgt := 13) C.1 C.2.1 dX3_canHaveStream_34 (by decide) ?_
        exact hag13 (v1 + 1) _ _ _ hT (lv_sub hl [1, 0] rfl) h
      · have h := fz_iq c5 h
        refine lv_iconst (v := 1) C.1 C.2.1 dX3_canHaveStream_29 (by decide) ?_
        cases h
        exact fz_retz C hr hlk rfl hT dX3_canHaveStream_30
set_option maxHeartbeats 4000000 in
set_option maxRecDepth 100000 in
theorem b_X3_canHaveStream_13 {p : Program} {l : Launch} {e : Env} {s : State} {m : MethodId} {args : Array Value} {below : List Frame} {meth : Method} {c : Code} {G : fz_G} {k : Nat} (hk : fz_isP k = true)    {v1 : Int32} {M : fz_M} {H : Heap} {locs : List Loc} {ls : Array Slot} {r : Int32} (C : CallFix p m c cX3_canHaveStream 2 s args wsL_law RX3) (hr : meth.sig.returnType = (some .boolean)) (hlk : meth.locks = false) (hF : fz_F G fz_KC s)  (hT : fz_T G fz_shC fz_KC s M H locs) (hl : lv_has ls 2 [(0, .ref (G.1 k)), (1, .int v1)]) (h : f_X3_canHaveStream_13 k v1 M = some r) : W p l e (fz_rm 2 45) s m args below meth c H locs 0 0 (MQ below (fz_Qi G fz_shC fz_KC r M) args s 0 0 (fz_Fr G fz_KC)) (F0 m 13 ls []) :=
  b_X3_canHaveStream_13_l hk C hr hlk hF fz_fuel v1 H locs ls hT hl h
set_option maxHeartbeats 4000000 in
set_option maxRecDepth 100000 in
theorem b_X3_canHaveStream_0 {p : Program} {l : Launch} {e : Env} {s : State} {m : MethodId} {args : Array Value} {below : List Frame} {meth : Method} {c : Code} {G : fz_G} {k : Nat} (hk : fz_isP k = true)     {M : fz_M} {H : Heap} {locs : List Loc} {ls : Array Slot} {r : Int32} (C : CallFix p m c cX3_canHaveStream 2 s args wsL_law RX3) (hr : meth.sig.returnType = (some .boolean)) (hlk : meth.locks = false) (hF : fz_F G fz_KC s)  (hT : fz_T G fz_shC fz_KC s M H locs) (hl : lv_has ls 2 [(0, .ref (G.1 k))]) (h : f_X3_canHaveStream k M = some r) : W p l e (fz_rm 2 45) s m args below meth c H locs 0 0 (MQ below (fz_Qi G fz_shC fz_KC r M) args s 0 0 (fz_Fr G fz_KC)) (F0 m 0 ls []) := by
  refine lv_aload_n C.1 C.2.1 dX3_canHaveStream_0 rfl (lv_at hl 0 rfl) ?_
  refine fz_geti C hF hT (fz_pl hk) (j := 1) rfl fl_X3_43 dX3_canHaveStream_1 ?_
  refine lv_bipush (v := 10) C.1 C.2.1 dX3_canHaveStream_4 (by decide) ?_
  refine lv_icmp_lt (tgt := 11) C.1 C.2.1 dX3_canHaveStream_6 (by decide) (fun c1 => ?_) (fun c1 => ?_)
  · have h := fz_ip c1 h
    refine lv_iconst (v := 0) C.1 C.2.1 dX3_canHaveStream_11 (by decide) ?_
    refine lv_istore_n (lv' := [(1, .int 0), (0, .ref (G.1 k))]) C.1 C.2.1 dX3_canHaveStream_12 rfl hl (by decide) rfl (fun ls hl => ?_)
    exact b_X3_canHaveStream_13 hk C hr hlk hF hT (lv_sub hl [1, 0] rfl) h
  · have h := fz_iq c1 h
    refine lv_iconst (v := 0) C.1 C.2.1 dX3_canHaveStream_9 (by decide) ?_
    cases h
    exact fz_retz C hr hlk rfl hT dX3_canHaveStream_10
set_option maxRecDepth 100000 in
theorem c_X3_canHaveStream (l : Launch) (G : fz_G) (k : Nat) (hk : fz_isP k = true)  (M : fz_M) (r : Int32) (h : f_X3_canHaveStream k M = some r) : fz_Me l yX3_canHaveStream cX3_canHaveStream 2 (some .boolean) 2 45 G fz_shC fz_KC [.ref (G.1 k)] M (fz_Qi G fz_shC fz_KC r M) := by
  refine fz_body (by decide) (Nat.le_of_ble_eq_true rfl) ?_
  intro p e s m args below meth c H locs ls C hr hlk hF hT hl
  have C : CallFix p m c cX3_canHaveStream 2 s args wsL_law RX3 := C
  have hl : lv_has ls 2 [(0, .ref (G.1 k))] := hl
  exact b_X3_canHaveStream_0 hk C hr hlk hF hT (lv_sub hl [0] rfl) h
set_option maxHeartbeats 4000000 in
set_option maxRecDepth 100000 in
theorem b_X3_waterIn_0 {p : Program} {l : Launch} {e : Env} {s : State} {m : MethodId} {args : Array Value} {below : List Frame} {meth : Method} {c : Code} {G : fz_G} {k : Nat} (hk : fz_isP k = true)    {v1 : Int32} {v2 : Int32} {M : fz_M} {H : Heap} {locs : List Loc} {ls : Array Slot} {r : Int32} (C : CallFix p m c cX3_waterIn 3 s args wsL_law RX3) (hr : meth.sig.returnType = (some .int)) (hlk : meth.locks = false) (hF : fz_F G fz_KC s)  (hT : fz_T G fz_shC fz_KC s M H locs) (hl : lv_has ls 3 [(0, .ref (G.1 k)), (1, .int v1), (2, .int v2)]) (h : f_X3_waterIn k v1 v2 M = some r) : W p l e (fz_rm 1 21) s m args below meth c H locs 0 0 (MQ below (fz_Qi G fz_shC fz_KC r M) args s 0 0 (fz_Fr G fz_KC)) (F0 m 0 ls []) := by
  refine lv_iconst (v := 0) C.1 C.2.1 dX3_waterIn_0 (by decide) ?_
  refine lv_iload_n C.1 C.2.1 dX3_waterIn_1 rfl (lv_at hl 2 rfl) ?_
  refine lv_aload_n C.1 C.2.1 dX3_waterIn_2 rfl (lv_at hl 0 rfl) ?_
  refine fz_getr C hF hT (fz_pl hk) (j := 3) rfl fl_X3_9 dX3_waterIn_3 ?_
  refine lv_iload_n C.1 C.2.1 dX3_waterIn_6 rfl (lv_at hl 1 rfl) ?_
  obtain ⟨g1, h⟩ := fz_gd_s h
  refine fz_ia C hF hT (fz_pl1 hk) g1 dX3_waterIn_7 ?_
  refine lv_isub C.1 C.2.1 dX3_waterIn_8 ?_
  refine va_mmax C.1 C.2.1 (C.2.2.1.trans hl.1.symm) C.2.2.2.1 (C.2.2.2.2 _ (fz_q20 _ (List.mem_of_getElem? (i := 3) rfl))) (C.2.2.2.2 _ (fz_q20 _ (List.mem_of_getElem? (i := 4) rfl))) (C.2.2.2.2 _ (fz_q20 _ (List.mem_of_getElem? (i := 5) rfl))) (C.2.2.2.2 _ (fz_q20 _ (List.mem_of_getElem? (i := 6) rfl))) (Nat.le_of_ble_eq_true rfl) (Nat.le_of_ble_eq_true rfl) (Nat.zero_le _) (Nat.zero_le _) dX3_waterIn_9 ?_
  cases h
  exact fz_reti C hr hlk hT dX3_waterIn_12
set_option maxRecDepth 100000 in
theorem c_X3_waterIn (l : Launch) (G : fz_G) (k : Nat) (hk : fz_isP k = true) (a0 : Int32) (a1 : Int32) (M : fz_M) (r : Int32) (h : f_X3_waterIn k a0 a1 M = some r) : fz_Me l yX3_waterIn cX3_waterIn 3 (some .int) 1 21 G fz_shC fz_KC [.ref (G.1 k), .int a0, .int a1] M (fz_Qi G fz_shC fz_KC r M) := by
  refine fz_body (by decide) (Nat.le_of_ble_eq_true rfl) ?_
  intro p e s m args below meth c H locs ls C hr hlk hF hT hl
  have C : CallFix p m c cX3_waterIn 3 s args wsL_law RX3 := C
  have hl : lv_has ls 3 [(0, .ref (G.1 k)), (1, .int a0), (2, .int a1)] := hl
  exact b_X3_waterIn_0 hk C hr hlk hF hT (lv_sub hl [0, 1, 2] rfl) h
set_option maxHeartbeats 4000000 in
set_option maxRecDepth 100000 in
theorem b_X4_canBegin_0 {p : Program} {l : Launch} {e : Env} {s : State} {m : MethodId} {args : Array Value} {below : List Frame} {meth : Method} {c : Code} {G : fz_G} {k1 : Nat} (hk1 : fz_isP k1 = true)    {v0 : Int32} {M : fz_M} {H : Heap} {locs : List Loc} {ls : Array Slot} {r : Int32} (C : CallFix p m c cX4_canBegin 2 s args wsL_law RX4) (hr : meth.sig.returnType = (some .boolean)) (hlk : meth.locks = false) (hF : fz_F G fz_KC s)  (hT : fz_T G fz_shC fz_KC s M H locs) (hl : lv_has ls 2 [(0, .int v0), (1, .ref (G.1 k1))]) (h : f_X4_canBegin k1 v0 M = some r) : W p l e (fz_rm 3 66) s m args below meth c H locs 0 0 (MQ below (fz_Qi G fz_shC fz_KC r M) args s 0 0 (fz_Fr G fz_KC)) (F0 m 0 ls []) := by
  refine lv_iload_n C.1 C.2.1 dX4_canBegin_0 rfl (lv_at hl 0 rfl) ?_
  by_cases c1 : v0 = 72
  · have h := fz_ip c1 h
    refine lv_lookup (off := 35) (tgt := 36) C.1 C.2.1 dX4_canBegin_1 (by decide) (by rw [c1]; rfl) (by decide) ?_
    refine lv_aload_n C.1 C.2.1 dX4_canBegin_36 rfl (lv_at hl 1 rfl) ?_
    refine fz_geti C hF hT (fz_pl hk1) (j := 0) rfl fl_X4_50 dX4_canBegin_37 ?_
    refine lv_bipush (v := 6) C.1 C.2.1 dX4_canBegin_40 (by decide) ?_
    refine lv_icmp_ge (tgt := 49) C.1 C.2.1 dX4_canBegin_42 (by decide) (fun c2 => ?_) (fun c2 => ?_)
    · have h := fz_ip c2 h
      refine lv_iconst (v := 0) C.1 C.2.1 dX4_canBegin_49 (by decide) ?_
      cases h
      exact fz_retz C hr hlk rfl hT dX4_canBegin_50
    · have h := fz_iq c2 h
      refine lv_iconst (v := 1) C.1 C.2.1 dX4_canBegin_45 (by decide) ?_
      refine lv_goto (tgt := 50) C.1 C.2.1 dX4_canBegin_46 (by decide) ?_
      cases h
      exact fz_retz C hr hlk rfl hT dX4_canBegin_50
  have h := fz_iq c1 h
  by_cases c3 : v0 = 80
  · have h := fz_ip c3 h
    refine lv_lookup (off := 55) (tgt := 56) C.1 C.2.1 dX4_canBegin_1 (by decide) (by rw [c3]; rfl) (by decide) ?_
    refine lv_aload_n C.1 C.2.1 dX4_canBegin_56 rfl (lv_at hl 1 rfl) ?_
    refine fz_geti C hF hT (fz_pl hk1) (j := 0) rfl fl_X4_50 dX4_canBegin_57 ?_
    refine lv_if_le (tgt := 76) C.1 C.2.1 dX4_canBegin_60 (by decide) (fun c4 => ?_) (fun c4 => ?_)
    · have h := fz_ip c4 h
      refine lv_iconst (v := 0) C.1 C.2.1 dX4_canBegin_76 (by decide) ?_
      cases h
      exact fz_retz C hr hlk rfl hT dX4_canBegin_77
    · have h := fz_iq c4 h
      refine lv_aload_n C.1 C.2.1 dX4_canBegin_63 rfl (lv_at hl 1 rfl) ?_
      refine fz_geti C hF hT (fz_pl hk1) (j := 2) rfl fl_X4_57 dX4_canBegin_64 ?_
      refine lv_bipush (v := 6) C.1 C.2.1 dX4_canBegin_67 (by decide) ?_
      refine lv_icmp_ge (tgt := 76) C.1 C.2.1 dX4_canBegin_69 (by decide) (fun c5 => ?_) (fun c5 => ?_)
      · have h := fz_ip c5 h
        refine lv_iconst (v := 0) C.1 C.2.1 dX4_canBegin_76 (by decide) ?_
        cases h
        exact fz_retz C hr hlk rfl hT dX4_canBegin_77
      · have h := fz_iq c5 h
        refine lv_iconst (v := 1) C.1 C.2.1 dX4_canBegin_72 (by decide) ?_
        refine lv_goto (tgt := 77) C.1 C.2.1 dX4_canBegin_73 (by decide) ?_
        cases h
        exact fz_retz C hr hlk rfl hT dX4_canBegin_77
  have h := fz_iq c3 h
  by_cases c6 : v0 = 83
  · have h := fz_ip c6 h
    refine lv_lookup (off := 50) (tgt := 51) C.1 C.2.1 dX4_canBegin_1 (by decide) (by rw [c6]; rfl) (by decide) ?_
    refine lv_aload_n C.1 C.2.1 dX4_canBegin_51 rfl (lv_at hl 1 rfl) ?_
    obtain ⟨r7, w9, h⟩ := fz_b1_s h
    refine fz_ci hT (fz_runV (np := 0) (rest := []) C hF hT (c_X3_canHaveStream l G k1 hk1 M r7 w9) (fz_pl hk1) (T := TX3) (N := 12) rfl cl_X4_53 rfl hl.1 rfl (Nat.le_of_ble_eq_true rfl) ⟨Nat.le_of_ble_eq_true rfl, Nat.le_of_ble_eq_true rfl, Nat.zero_le _, Nat.zero_le _⟩ dX4_canBegin_52) (fun H locs hT => ?_)
    obtain ⟨g10, h⟩ := fz_gd_s h
    cases h
    exact fz_retz C hr hlk g10 hT dX4_canBegin_55
  have h := fz_iq c6 h
  refine lv_lookup (off := 77) (tgt := 78) C.1 C.2.1 dX4_canBegin_1 (by decide) (by show Op.lookupswitch.offset [(72, 35), (80, 55), (83, 50)] 77 _ = 77; rw [Op.lookupswitch.offset_cons, if_neg (fun z => fz_ni c1 (i := 72) rfl z.symm)]; rw [Op.lookupswitch.offset_cons, if_neg (fun z => fz_ni c3 (i := 80) rfl z.symm)]; rw [Op.lookupswitch.offset_cons, if_neg (fun z => fz_ni c6 (i := 83) rfl z.symm)]; rfl) (by decide) ?_
  refine lv_iconst (v := 0) C.1 C.2.1 dX4_canBegin_78 (by decide) ?_
  cases h
  exact fz_retz C hr hlk rfl hT dX4_canBegin_79
set_option maxRecDepth 100000 in
theorem c_X4_canBegin (l : Launch) (G : fz_G) (k1 : Nat) (hk1 : fz_isP k1 = true) (a0 : Int32) (M : fz_M) (r : Int32) (h : f_X4_canBegin k1 a0 M = some r) : fz_Me l yX4_canBegin cX4_canBegin 2 (some .boolean) 3 66 G fz_shC fz_KC [.int a0, .ref (G.1 k1)] M (fz_Qi G fz_shC fz_KC r M) := by
  refine fz_body (by decide) (Nat.le_of_ble_eq_true rfl) ?_
  intro p e s m args below meth c H locs ls C hr hlk hF hT hl
  have C : CallFix p m c cX4_canBegin 2 s args wsL_law RX4 := C
  have hl : lv_has ls 2 [(0, .int a0), (1, .ref (G.1 k1))] := hl
  exact b_X4_canBegin_0 hk1 C hr hlk hF hT (lv_sub hl [0, 1] rfl) h
set_option maxHeartbeats 4000000 in
set_option maxRecDepth 100000 in
theorem b_X4_canGoOnWithStream_0 {p : Program} {l : Launch} {e : Env} {s : State} {m : MethodId} {args : Array Value} {below : List Frame} {meth : Method} {c : Code} {G : fz_G} {k1 : Nat} (hk1 : fz_isP k1 = true)    {v1 : Int32} {M : fz_M} {H : Heap} {locs : List Loc} {ls : Array Slot} {r : Int32} (C : CallFix p m c cX4_canGoOnWithStream 3 s args wsL_law RX4) (hr : meth.sig.returnType = (some .boolean)) (hlk : meth.locks = false) (hF : fz_F G fz_KC s)  (hT : fz_T G fz_shC fz_KC s M H locs) (hl : lv_has ls 3 [(0, .ref (G.1 3)), (1, .int v1), (2, .ref (G.1 k1))]) (h : f_X4_canGoOnWithStream k1 v1 M = some r) : W p l e (fz_rm 2 45) s m args below meth c H locs 0 0 (MQ below (fz_Qi G fz_shC fz_KC r M) args s 0 0 (fz_Fr G fz_KC)) (F0 m 0 ls []) := by
  refine lv_aload_n C.1 C.2.1 dX4_canGoOnWithStream_0 rfl (lv_at hl 0 rfl) ?_
  refine fz_geti C hF hT fz_c3 (j := 1) rfl fl_X4_20 dX4_canGoOnWithStream_1 ?_
  by_cases c1 : (fz_f M 3 1) = 1
  · have h := fz_ip c1 h
    refine lv_lookup (off := 28) (tgt := 32) C.1 C.2.1 dX4_canGoOnWithStream_4 (by decide) (by rw [c1]; rfl) (by decide) ?_
    refine lv_aload_n C.1 C.2.1 dX4_canGoOnWithStream_32 rfl (lv_at hl 2 rfl) ?_
    refine lv_iload_n C.1 C.2.1 dX4_canGoOnWithStream_33 rfl (lv_at hl 1 rfl) ?_
    obtain ⟨r2, w4, h⟩ := fz_b1_s h
    refine fz_ci hT (fz_runV (np := 1) (rest := []) C hF hT (c_X3_canLeave l G k1 hk1 v1 M r2 w4) (fz_pl hk1) (T := TX3) (N := 12) rfl cl_X4_66 rfl hl.1 rfl (Nat.le_of_ble_eq_true rfl) ⟨Nat.le_of_ble_eq_true rfl, Nat.le_of_ble_eq_true rfl, Nat.zero_le _, Nat.zero_le _⟩ dX4_canGoOnWithStream_34) (fun H locs hT => ?_)
    obtain ⟨g5, h⟩ := fz_gd_s h
    cases h
    exact fz_retz C hr hlk g5 hT dX4_canGoOnWithStream_37
  have h := fz_iq c1 h
  by_cases c6 : (fz_f M 3 1) = 2
  · have h := fz_ip c6 h
    refine lv_lookup (off := 34) (tgt := 38) C.1 C.2.1 dX4_canGoOnWithStream_4 (by decide) (by rw [c6]; rfl) (by decide) ?_
    refine lv_aload_n C.1 C.2.1 dX4_canGoOnWithStream_38 rfl (lv_at hl 2 rfl) ?_
    refine lv_aload_n C.1 C.2.1 dX4_canGoOnWithStream_39 rfl (lv_at hl 0 rfl) ?_
    refine fz_getr C hF hT fz_c3 (j := 0) rfl fl_X4_11 dX4_canGoOnWithStream_40 ?_
    refine lv_iconst (v := 1) C.1 C.2.1 dX4_canGoOnWithStream_43 (by decide) ?_
    obtain ⟨g7, h⟩ := fz_gd_s h
    refine fz_ia C hF hT fz_c4 g7 dX4_canGoOnWithStream_44 ?_
    refine lv_iload_n C.1 C.2.1 dX4_canGoOnWithStream_45 rfl (lv_at hl 1 rfl) ?_
    obtain ⟨r8, w10, h⟩ := fz_b1_s h
    refine fz_ci hT (fz_runV (np := 2) (rest := []) C hF hT (c_X3_canJoin l G k1 hk1 (fz_g M 4 1) v1 M r8 w10) (fz_pl hk1) (T := TX3) (N := 12) rfl cl_X4_70 rfl hl.1 rfl (Nat.le_of_ble_eq_true rfl) ⟨Nat.le_of_ble_eq_true rfl, Nat.le_of_ble_eq_true rfl, Nat.zero_le _, Nat.zero_le _⟩ dX4_canGoOnWithStream_46) (fun H locs hT => ?_)
    obtain ⟨g11, h⟩ := fz_gd_s h
    cases h
    exact fz_retz C hr hlk g11 hT dX4_canGoOnWithStream_49
  have h := fz_iq c6 h
  refine lv_lookup (off := 46) (tgt := 50) C.1 C.2.1 dX4_canGoOnWithStream_4 (by decide) (by show Op.lookupswitch.offset [(1, 28), (2, 34)] 46 _ = 46; rw [Op.lookupswitch.offset_cons, if_neg (fun z => fz_ni c1 (i := 1) rfl z.symm)]; rw [Op.lookupswitch.offset_cons, if_neg (fun z => fz_ni c6 (i := 2) rfl z.symm)]; rfl) (by decide) ?_
  refine lv_iload_n C.1 C.2.1 dX4_canGoOnWithStream_50 rfl (lv_at hl 1 rfl) ?_
  refine lv_if_le (tgt := 72) C.1 C.2.1 dX4_canGoOnWithStream_51 (by decide) (fun c12 => ?_) (fun c12 => ?_)
  · have h := fz_ip c12 h
    refine lv_iconst (v := 0) C.1 C.2.1 dX4_canGoOnWithStream_72 (by decide) ?_
    cases h
    exact fz_retz C hr hlk rfl hT dX4_canGoOnWithStream_73
  · have h := fz_iq c12 h
    refine lv_iload_n C.1 C.2.1 dX4_canGoOnWithStream_54 rfl (lv_at hl 1 rfl) ?_
    refine lv_aload_n C.1 C.2.1 dX4_canGoOnWithStream_55 rfl (lv_at hl 2 rfl) ?_
    refine lv_aload_n C.1 C.2.1 dX4_canGoOnWithStream_56 rfl (lv_at hl 0 rfl) ?_
    refine fz_getr C hF hT fz_c3 (j := 0) rfl fl_X4_11 dX4_canGoOnWithStream_57 ?_
    refine lv_iconst (v := 1) C.1 C.2.1 dX4_canGoOnWithStream_60 (by decide) ?_
    obtain ⟨g13, h⟩ := fz_gd_s h
    refine fz_ia C hF hT fz_c4 g13 dX4_canGoOnWithStream_61 ?_
    obtain ⟨r14, w16, h⟩ := fz_b1_s h
    refine fz_ci hT (fz_runV (np := 1) (rest := [.int v1]) C hF hT (c_X3_tenthsLeftFrom l G k1 hk1 (fz_g M 4 1) M r14 w16) (fz_pl hk1) (T := TX3) (N := 12) rfl cl_X4_74 rfl hl.1 rfl (Nat.le_of_ble_eq_true rfl) ⟨Nat.le_of_ble_eq_true rfl, Nat.le_of_ble_eq_true rfl, Nat.zero_le _, Nat.zero_le _⟩ dX4_canGoOnWithStream_62) (fun H locs hT => ?_)
    refine lv_icmp_gt (tgt := 72) C.1 C.2.1 dX4_canGoOnWithStream_65 (by decide) (fun c17 => ?_) (fun c17 => ?_)
    · have h := fz_ip c17 h
      refine lv_iconst (v := 0) C.1 C.2.1 dX4_canGoOnWithStream_72 (by decide) ?_
      cases h
      exact fz_retz C hr hlk rfl hT dX4_canGoOnWithStream_73
    · have h := fz_iq c17 h
      refine lv_iconst (v := 1) C.1 C.2.1 dX4_canGoOnWithStream_68 (by decide) ?_
      refine lv_goto (tgt := 73) C.1 C.2.1 dX4_canGoOnWithStream_69 (by decide) ?_
      cases h
      exact fz_retz C hr hlk rfl hT dX4_canGoOnWithStream_73
set_option maxRecDepth 100000 in
theorem c_X4_canGoOnWithStream (l : Launch) (G : fz_G) (k1 : Nat) (hk1 : fz_isP k1 = true) (a0 : Int32) (M : fz_M) (r : Int32) (h : f_X4_canGoOnWithStream k1 a0 M = some r) : fz_Me l yX4_canGoOnWithStream cX4_canGoOnWithStream 3 (some .boolean) 2 45 G fz_shC fz_KC [.ref (G.1 3), .int a0, .ref (G.1 k1)] M (fz_Qi G fz_shC fz_KC r M) := by
  refine fz_body (by decide) (Nat.le_of_ble_eq_true rfl) ?_
  intro p e s m args below meth c H locs ls C hr hlk hF hT hl
  have C : CallFix p m c cX4_canGoOnWithStream 3 s args wsL_law RX4 := C
  have hl : lv_has ls 3 [(0, .ref (G.1 3)), (1, .int a0), (2, .ref (G.1 k1))] := hl
  exact b_X4_canGoOnWithStream_0 hk1 C hr hlk hF hT (lv_sub hl [0, 1, 2] rfl) h
set_option maxHeartbeats 4000000 in
set_option maxRecDepth 100000 in
theorem b_X4_canGoOnWithPiece_0 {p : Program} {l : Launch} {e : Env} {s : State} {m : MethodId} {args : Array Value} {below : List Frame} {meth : Method} {c : Code} {G : fz_G} {k1 : Nat} (hk1 : fz_isP k1 = true)    {v1 : Int32} {M : fz_M} {H : Heap} {locs : List Loc} {ls : Array Slot} {r : Int32} (C : CallFix p m c cX4_canGoOnWithPiece 3 s args wsL_law RX4) (hr : meth.sig.returnType = (some .boolean)) (hlk : meth.locks = false) (hF : fz_F G fz_KC s)  (hT : fz_T G fz_shC fz_KC s M H locs) (hl : lv_has ls 3 [(0, .ref (G.1 3)), (1, .int v1), (2, .ref (G.1 k1))]) (h : f_X4_canGoOnWithPiece k1 v1 M = some r) : W p l e (fz_rm 0 0) s m args below meth c H locs 0 0 (MQ below (fz_Qi G fz_shC fz_KC r M) args s 0 0 (fz_Fr G fz_KC)) (F0 m 0 ls []) := by
  refine lv_aload_n C.1 C.2.1 dX4_canGoOnWithPiece_0 rfl (lv_at hl 0 rfl) ?_
  refine fz_geti C hF hT fz_c3 (j := 1) rfl fl_X4_20 dX4_canGoOnWithPiece_1 ?_
  by_cases c1 : (fz_f M 3 1) = 1
  · have h := fz_ip c1 h
    refine lv_lookup (off := 28) (tgt := 32) C.1 C.2.1 dX4_canGoOnWithPiece_4 (by decide) (by rw [c1]; rfl) (by decide) ?_
    refine lv_iload_n C.1 C.2.1 dX4_canGoOnWithPiece_32 rfl (lv_at hl 1 rfl) ?_
    refine lv_aload_n C.1 C.2.1 dX4_canGoOnWithPiece_33 rfl (lv_at hl 2 rfl) ?_
    refine fz_geti C hF hT (fz_pl hk1) (j := 0) rfl fl_X4_50 dX4_canGoOnWithPiece_34 ?_
    refine lv_icmp_ge (tgt := 44) C.1 C.2.1 dX4_canGoOnWithPiece_37 (by decide) (fun c2 => ?_) (fun c2 => ?_)
    · have h := fz_ip c2 h
      refine lv_iconst (v := 0) C.1 C.2.1 dX4_canGoOnWithPiece_44 (by decide) ?_
      cases h
      exact fz_retz C hr hlk rfl hT dX4_canGoOnWithPiece_45
    · have h := fz_iq c2 h
      refine lv_iconst (v := 1) C.1 C.2.1 dX4_canGoOnWithPiece_40 (by decide) ?_
      refine lv_goto (tgt := 45) C.1 C.2.1 dX4_canGoOnWithPiece_41 (by decide) ?_
      cases h
      exact fz_retz C hr hlk rfl hT dX4_canGoOnWithPiece_45
  have h := fz_iq c1 h
  by_cases c3 : (fz_f M 3 1) = 4
  · have h := fz_ip c3 h
    refine lv_lookup (off := 42) (tgt := 46) C.1 C.2.1 dX4_canGoOnWithPiece_4 (by decide) (by rw [c3]; rfl) (by decide) ?_
    refine lv_iconst (v := 1) C.1 C.2.1 dX4_canGoOnWithPiece_46 (by decide) ?_
    cases h
    exact fz_retz C hr hlk rfl hT dX4_canGoOnWithPiece_47
  have h := fz_iq c3 h
  refine lv_lookup (off := 44) (tgt := 48) C.1 C.2.1 dX4_canGoOnWithPiece_4 (by decide) (by show Op.lookupswitch.offset [(1, 28), (4, 42)] 44 _ = 44; rw [Op.lookupswitch.offset_cons, if_neg (fun z => fz_ni c1 (i := 1) rfl z.symm)]; rw [Op.lookupswitch.offset_cons, if_neg (fun z => fz_ni c3 (i := 4) rfl z.symm)]; rfl) (by decide) ?_
  refine lv_iload_n C.1 C.2.1 dX4_canGoOnWithPiece_48 rfl (lv_at hl 1 rfl) ?_
  refine lv_if_le (tgt := 56) C.1 C.2.1 dX4_canGoOnWithPiece_49 (by decide) (fun c4 => ?_) (fun c4 => ?_)
  · have h := fz_ip c4 h
    refine lv_iconst (v := 0) C.1 C.2.1 dX4_canGoOnWithPiece_56 (by decide) ?_
    cases h
    exact fz_retz C hr hlk rfl hT dX4_canGoOnWithPiece_57
  · have h := fz_iq c4 h
    refine lv_iconst (v := 1) C.1 C.2.1 dX4_canGoOnWithPiece_52 (by decide) ?_
    refine lv_goto (tgt := 57) C.1 C.2.1 dX4_canGoOnWithPiece_53 (by decide) ?_
    cases h
    exact fz_retz C hr hlk rfl hT dX4_canGoOnWithPiece_57
set_option maxRecDepth 100000 in
theorem c_X4_canGoOnWithPiece (l : Launch) (G : fz_G) (k1 : Nat) (hk1 : fz_isP k1 = true) (a0 : Int32) (M : fz_M) (r : Int32) (h : f_X4_canGoOnWithPiece k1 a0 M = some r) : fz_Me l yX4_canGoOnWithPiece cX4_canGoOnWithPiece 3 (some .boolean) 0 0 G fz_shC fz_KC [.ref (G.1 3), .int a0, .ref (G.1 k1)] M (fz_Qi G fz_shC fz_KC r M) := by
  refine fz_body (by decide) (Nat.le_of_ble_eq_true rfl) ?_
  intro p e s m args below meth c H locs ls C hr hlk hF hT hl
  have C : CallFix p m c cX4_canGoOnWithPiece 3 s args wsL_law RX4 := C
  have hl : lv_has ls 3 [(0, .ref (G.1 3)), (1, .int a0), (2, .ref (G.1 k1))] := hl
  exact b_X4_canGoOnWithPiece_0 hk1 C hr hlk hF hT (lv_sub hl [0, 1, 2] rfl) h
set_option maxHeartbeats 4000000 in
set_option maxRecDepth 100000 in
theorem b_X4_canGoOn_0 {p : Program} {l : Launch} {e : Env} {s : State} {m : MethodId} {args : Array Value} {below : List Frame} {meth : Method} {c : Code} {G : fz_G} {k1 : Nat} (hk1 : fz_isP k1 = true)    {v1 : Int32} {M : fz_M} {H : Heap} {locs : List Loc} {ls : Array Slot} {r : Int32} (C : CallFix p m c cX4_canGoOn 3 s args wsL_law RX4) (hr : meth.sig.returnType = (some .boolean)) (hlk : meth.locks = false) (hF : fz_F G fz_KC s)  (hT : fz_T G fz_shC fz_KC s M H locs) (hl : lv_has ls 3 [(0, .ref (G.1 3)), (1, .int v1), (2, .ref (G.1 k1))]) (h : f_X4_canGoOn k1 v1 M = some r) : W p l e (fz_rm 3 67) s m args below meth c H locs 0 0 (MQ below (fz_Qi G fz_shC fz_KC r M) args s 0 0 (fz_Fr G fz_KC)) (F0 m 0 ls []) := by
  refine lv_aload_n C.1 C.2.1 dX4_canGoOn_0 rfl (lv_at hl 0 rfl) ?_
  refine fz_getr C hF hT fz_c3 (j := 0) rfl fl_X4_11 dX4_canGoOn_1 ?_
  refine lv_iconst (v := 0) C.1 C.2.1 dX4_canGoOn_4 (by decide) ?_
  obtain ⟨g1, h⟩ := fz_gd_s h
  refine fz_ia C hF hT fz_c4 g1 dX4_canGoOn_5 ?_
  by_cases c2 : (fz_g M 4 0) = 72
  · have h := fz_ip c2 h
    refine lv_lookup (off := 26) (tgt := 32) C.1 C.2.1 dX4_canGoOn_6 (by decide) (by rw [c2]; rfl) (by decide) ?_
    refine lv_aload_n C.1 C.2.1 dX4_canGoOn_32 rfl (lv_at hl 0 rfl) ?_
    refine fz_geti C hF hT fz_c3 (j := 1) rfl fl_X4_20 dX4_canGoOn_33 ?_
    refine lv_iconst (v := 1) C.1 C.2.1 dX4_canGoOn_36 (by decide) ?_
    refine lv_icmp_eq (tgt := 44) C.1 C.2.1 dX4_canGoOn_37 (by decide) (fun c3 => ?_) (fun c3 => ?_)
    · have h := fz_ip c3 h
      refine lv_iconst (v := 1) C.1 C.2.1 dX4_canGoOn_44 (by decide) ?_
      refine lv_goto (tgt := 49) C.1 C.2.1 dX4_canGoOn_45 (by decide) ?_
      cases h
      exact fz_retz C hr hlk rfl hT dX4_canGoOn_49
    · have h := fz_iq c3 h
      refine lv_iload_n C.1 C.2.1 dX4_canGoOn_40 rfl (lv_at hl 1 rfl) ?_
      refine lv_if_le (tgt := 48) C.1 C.2.1 dX4_canGoOn_41 (by decide) (fun c4 => ?_) (fun c4 => ?_)
      · have h := fz_ip c4 h
        refine lv_iconst (v := 0) C.1 C.2.1 dX4_canGoOn_48 (by decide) ?_
        cases h
        exact fz_retz C hr hlk rfl hT dX4_canGoOn_49
      · have h := fz_iq c4 h
        refine lv_iconst (v := 1) C.1 C.2.1 dX4_canGoOn_44 (by decide) ?_
        refine lv_goto (tgt := 49) C.1 C.2.1 dX4_canGoOn_45 (by decide) ?_
        cases h
        exact fz_retz C hr hlk rfl hT dX4_canGoOn_49
  have h := fz_iq c2 h
  by_cases c5 : (fz_g M 4 0) = 83
  · have h := fz_ip c5 h
    refine lv_lookup (off := 44) (tgt := 50) C.1 C.2.1 dX4_canGoOn_6 (by decide) (by rw [c5]; rfl) (by decide) ?_
    refine lv_aload_n C.1 C.2.1 dX4_canGoOn_50 rfl (lv_at hl 0 rfl) ?_
    refine lv_iload_n C.1 C.2.1 dX4_canGoOn_51 rfl (lv_at hl 1 rfl) ?_
    refine lv_aload_n C.1 C.2.1 dX4_canGoOn_52 rfl (lv_at hl 2 rfl) ?_
    obtain ⟨r6, w8, h⟩ := fz_b1_s h
    refine fz_ci hT (fz_runV (np := 2) (rest := []) C hF hT (c_X4_canGoOnWithStream l G k1 hk1 v1 M r6 w8) fz_c3 (T := TX4) (N := 2) rfl cl_X4_60 rfl hl.1 rfl (Nat.le_of_ble_eq_true rfl) ⟨Nat.le_of_ble_eq_true rfl, Nat.le_of_ble_eq_true rfl, Nat.zero_le _, Nat.zero_le _⟩ dX4_canGoOn_53) (fun H locs hT => ?_)
    obtain ⟨g9, h⟩ := fz_gd_s h
    cases h
    exact fz_retz C hr hlk g9 hT dX4_canGoOn_56
  have h := fz_iq c5 h
  refine lv_lookup (off := 51) (tgt := 57) C.1 C.2.1 dX4_canGoOn_6 (by decide) (by show Op.lookupswitch.offset [(72, 26), (83, 44)] 51 _ = 51; rw [Op.lookupswitch.offset_cons, if_neg (fun z => fz_ni c2 (i := 72) rfl z.symm)]; rw [Op.lookupswitch.offset_cons, if_neg (fun z => fz_ni c5 (i := 83) rfl z.symm)]; rfl) (by decide) ?_
  refine lv_aload_n C.1 C.2.1 dX4_canGoOn_57 rfl (lv_at hl 0 rfl) ?_
  refine lv_iload_n C.1 C.2.1 dX4_canGoOn_58 rfl (lv_at hl 1 rfl) ?_
  refine lv_aload_n C.1 C.2.1 dX4_canGoOn_59 rfl (lv_at hl 2 rfl) ?_
  obtain ⟨r10, w12, h⟩ := fz_b1_s h
  refine fz_ci hT (fz_runV (np := 2) (rest := []) C hF hT (c_X4_canGoOnWithPiece l G k1 hk1 v1 M r10 w12) fz_c3 (T := TX4) (N := 2) rfl cl_X4_63 rfl hl.1 rfl (Nat.le_of_ble_eq_true rfl) ⟨Nat.le_of_ble_eq_true rfl, Nat.le_of_ble_eq_true rfl, Nat.zero_le _, Nat.zero_le _⟩ dX4_canGoOn_60) (fun H locs hT => ?_)
  obtain ⟨g13, h⟩ := fz_gd_s h
  cases h
  exact fz_retz C hr hlk g13 hT dX4_canGoOn_63
set_option maxRecDepth 100000 in
theorem c_X4_canGoOn (l : Launch) (G : fz_G) (k1 : Nat) (hk1 : fz_isP k1 = true) (a0 : Int32) (M : fz_M) (r : Int32) (h : f_X4_canGoOn k1 a0 M = some r) : fz_Me l yX4_canGoOn cX4_canGoOn 3 (some .boolean) 3 67 G fz_shC fz_KC [.ref (G.1 3), .int a0, .ref (G.1 k1)] M (fz_Qi G fz_shC fz_KC r M) := by
  refine fz_body (by decide) (Nat.le_of_ble_eq_true rfl) ?_
  intro p e s m args below meth c H locs ls C hr hlk hF hT hl
  have C : CallFix p m c cX4_canGoOn 3 s args wsL_law RX4 := C
  have hl : lv_has ls 3 [(0, .ref (G.1 3)), (1, .int a0), (2, .ref (G.1 k1))] := hl
  exact b_X4_canGoOn_0 hk1 C hr hlk hF hT (lv_sub hl [0, 1, 2] rfl) h
set_option maxHeartbeats 4000000 in
set_option maxRecDepth 100000 in
theorem b_X4_lengthOfPart_0 {p : Program} {l : Launch} {e : Env} {s : State} {m : MethodId} {args : Array Value} {below : List Frame} {meth : Method} {c : Code} {G : fz_G}      {M : fz_M} {H : Heap} {locs : List Loc} {ls : Array Slot} {r : Int32} (C : CallFix p m c cX4_lengthOfPart 1 s args wsL_law RX4) (hr : meth.sig.returnType = (some .int)) (hlk : meth.locks = false) (hF : fz_F G fz_KC s)  (hT : fz_T G fz_shC fz_KC s M H locs) (hl : lv_has ls 1 [(0, .ref (G.1 3))]) (h : f_X4_lengthOfPart M = some r) : W p l e (fz_rm 0 0) s m args below meth c H locs 0 0 (MQ below (fz_Qi G fz_shC fz_KC r M) args s 0 0 (fz_Fr G fz_KC)) (F0 m 0 ls []) := by
  refine lv_aload_n C.1 C.2.1 dX4_lengthOfPart_0 rfl (lv_at hl 0 rfl) ?_
  refine fz_getr C hF hT fz_c3 (j := 0) rfl fl_X4_11 dX4_lengthOfPart_1 ?_
  refine lv_iconst (v := 0) C.1 C.2.1 dX4_lengthOfPart_4 (by decide) ?_
  obtain ⟨g1, h⟩ := fz_gd_s h
  refine fz_ia C hF hT fz_c4 g1 dX4_lengthOfPart_5 ?_
  by_cases c2 : (fz_g M 4 0) = 72
  · have h := fz_ip c2 h
    refine lv_lookup (off := 26) (tgt := 32) C.1 C.2.1 dX4_lengthOfPart_6 (by decide) (by rw [c2]; rfl) (by decide) ?_
    refine lv_iconst (v := 3) C.1 C.2.1 dX4_lengthOfPart_32 (by decide) ?_
    cases h
    exact fz_reti C hr hlk hT dX4_lengthOfPart_33
  have h := fz_iq c2 h
  by_cases c3 : (fz_g M 4 0) = 83
  · have h := fz_ip c3 h
    refine lv_lookup (off := 28) (tgt := 34) C.1 C.2.1 dX4_lengthOfPart_6 (by decide) (by rw [c3]; rfl) (by decide) ?_
    refine lv_iconst (v := 4) C.1 C.2.1 dX4_lengthOfPart_34 (by decide) ?_
    cases h
    exact fz_reti C hr hlk hT dX4_lengthOfPart_35
  have h := fz_iq c3 h
  refine lv_lookup (off := 30) (tgt := 36) C.1 C.2.1 dX4_lengthOfPart_6 (by decide) (by show Op.lookupswitch.offset [(72, 26), (83, 28)] 30 _ = 30; rw [Op.lookupswitch.offset_cons, if_neg (fun z => fz_ni c2 (i := 72) rfl z.symm)]; rw [Op.lookupswitch.offset_cons, if_neg (fun z => fz_ni c3 (i := 83) rfl z.symm)]; rfl) (by decide) ?_
  refine lv_iconst (v := 5) C.1 C.2.1 dX4_lengthOfPart_36 (by decide) ?_
  cases h
  exact fz_reti C hr hlk hT dX4_lengthOfPart_37
set_option maxRecDepth 100000 in
theorem c_X4_lengthOfPart (l : Launch) (G : fz_G)   (M : fz_M) (r : Int32) (h : f_X4_lengthOfPart M = some r) : fz_Me l yX4_lengthOfPart cX4_lengthOfPart 1 (some .int) 0 0 G fz_shC fz_KC [.ref (G.1 3)] M (fz_Qi G fz_shC fz_KC r M) := by
  refine fz_body (by decide) (Nat.le_of_ble_eq_true rfl) ?_
  intro p e s m args below meth c H locs ls C hr hlk hF hT hl
  have C : CallFix p m c cX4_lengthOfPart 1 s args wsL_law RX4 := C
  have hl : lv_has ls 1 [(0, .ref (G.1 3))] := hl
  exact b_X4_lengthOfPart_0 C hr hlk hF hT (lv_sub hl [0] rfl) h
set_option maxHeartbeats 4000000 in
set_option maxRecDepth 100000 in
theorem b_X4_addPart_0 {p : Program} {l : Launch} {e : Env} {s : State} {m : MethodId} {args : Array Value} {below : List Frame} {meth : Method} {c : Code} {G : fz_G} {k0 : Nat} (hk0 : fz_isP k0 = true)     {M : fz_M} {H : Heap} {locs : List Loc} {ls : Array Slot} {M9 : fz_M} (C : CallFix p m c cX4_addPart 2 s args wsL_law RX4) (hr : meth.sig.returnType = none) (hlk : meth.locks = false) (hF : fz_F G fz_KC s)  (hT : fz_T G fz_shC fz_KC s M H locs) (hl : lv_has ls 2 [(0, .ref (G.1 3)), (1, .ref (G.1 k0))]) (h : f_X4_addPart k0 M = some M9) : W p l e (fz_rm 1 24) s m args below meth c H locs 0 0 (MQ below (fz_Qv G fz_shC fz_KC M9) args s 0 0 (fz_Fr G fz_KC)) (F0 m 0 ls []) := by
  refine lv_aload_n C.1 C.2.1 dX4_addPart_0 rfl (lv_at hl 0 rfl) ?_
  refine fz_getr C hF hT fz_c3 (j := 0) rfl fl_X4_11 dX4_addPart_1 ?_
  refine lv_iconst (v := 0) C.1 C.2.1 dX4_addPart_4 (by decide) ?_
  obtain ⟨g1, h⟩ := fz_gd_s h
  refine fz_ia C hF hT fz_c4 g1 dX4_addPart_5 ?_
  by_cases c2 : (fz_g M 4 0) = 72
  · have h := fz_ip c2 h
    refine lv_lookup (off := 26) (tgt := 32) C.1 C.2.1 dX4_addPart_6 (by decide) (by rw [c2]; rfl) (by decide) ?_
    refine lv_aload_n C.1 C.2.1 dX4_addPart_32 rfl (lv_at hl 1 rfl) ?_
    refine lv_aload_n C.1 C.2.1 dX4_addPart_33 rfl (lv_at hl 0 rfl) ?_
    refine fz_getr C hF hT fz_c3 (j := 0) rfl fl_X4_11 dX4_addPart_34 ?_
    refine lv_iconst (v := 1) C.1 C.2.1 dX4_addPart_37 (by decide) ?_
    obtain ⟨g3, h⟩ := fz_gd_s h
    refine fz_ia C hF hT fz_c4 g3 dX4_addPart_38 ?_
    refine lv_aload_n C.1 C.2.1 dX4_addPart_39 rfl (lv_at hl 0 rfl) ?_
    refine fz_getr C hF hT fz_c3 (j := 0) rfl fl_X4_11 dX4_addPart_40 ?_
    refine lv_iconst (v := 2) C.1 C.2.1 dX4_addPart_43 (by decide) ?_
    obtain ⟨g4, h⟩ := fz_gd_s h
    refine fz_ia C hF hT fz_c4 g4 dX4_addPart_44 ?_
    obtain ⟨M6, w7, h⟩ := fz_b1_s h
    refine fz_cv hT (fz_runV (np := 2) (rest := []) C hF hT (c_X3_addHouse l G k0 hk0 (fz_g M 4 1) (fz_g M 4 2) M M6 w7) (fz_pl hk0) (T := TX3) (N := 12) rfl cl_X4_78 rfl hl.1 rfl (Nat.le_of_ble_eq_true rfl) ⟨Nat.le_of_ble_eq_true rfl, Nat.le_of_ble_eq_true rfl, Nat.zero_le _, Nat.zero_le _⟩ dX4_addPart_45) (fun H locs hT => ?_)
    refine lv_goto (tgt := 104) C.1 C.2.1 dX4_addPart_48 (by decide) ?_
    cases h
    exact fz_retv C hr hlk hT dX4_addPart_104
  have h := fz_iq c2 h
  by_cases c8 : (fz_g M 4 0) = 83
  · have h := fz_ip c8 h
    refine lv_lookup (off := 45) (tgt := 51) C.1 C.2.1 dX4_addPart_6 (by decide) (by rw [c8]; rfl) (by decide) ?_
    refine lv_aload_n C.1 C.2.1 dX4_addPart_51 rfl (lv_at hl 1 rfl) ?_
    refine lv_aload_n C.1 C.2.1 dX4_addPart_52 rfl (lv_at hl 0 rfl) ?_
    refine fz_getr C hF hT fz_c3 (j := 0) rfl fl_X4_11 dX4_addPart_53 ?_
    refine lv_iconst (v := 1) C.1 C.2.1 dX4_addPart_56 (by decide) ?_
    obtain ⟨g9, h⟩ := fz_gd_s h
    refine fz_ia C hF hT fz_c4 g9 dX4_addPart_57 ?_
    refine lv_aload_n C.1 C.2.1 dX4_addPart_58 rfl (lv_at hl 0 rfl) ?_
    refine fz_getr C hF hT fz_c3 (j := 0) rfl fl_X4_11 dX4_addPart_59 ?_
    refine lv_iconst (v := 2) C.1 C.2.1 dX4_addPart_62 (by decide) ?_
    obtain ⟨g10, h⟩ := fz_gd_s h
    refine fz_ia C hF hT fz_c4 g10 dX4_addPart_63 ?_
    refine lv_aload_n C.1 C.2.1 dX4_addPart_64 rfl (lv_at hl 0 rfl) ?_
    refine fz_getr C hF hT fz_c3 (j := 0) rfl fl_X4_11 dX4_addPart_65 ?_
    refine lv_iconst (v := 3) C.1 C.2.1 dX4_addPart_68 (by decide) ?_
    obtain ⟨g11, h⟩ := fz_gd_s h
    refine fz_ia C hF hT fz_c4 g11 dX4_addPart_69 ?_
    obtain ⟨M13, w14, h⟩ := fz_b1_s h
    refine fz_cv hT (fz_runV (np := 3) (rest := []) C hF hT (c_X3_addStream l G k0 hk0 (fz_g M 4 1) (fz_g M 4 2) (fz_g M 4 3) M M13 w14) (fz_pl hk0) (T := TX3) (N := 12) rfl cl_X4_82 rfl hl.1 rfl (Nat.le_of_ble_eq_true rfl) ⟨Nat.le_of_ble_eq_true rfl, Nat.le_of_ble_eq_true rfl, Nat.zero_le _, Nat.zero_le _⟩ dX4_addPart_70) (fun H locs hT => ?_)
    refine lv_goto (tgt := 104) C.1 C.2.1 dX4_addPart_73 (by decide) ?_
    cases h
    exact fz_retv C hr hlk hT dX4_addPart_104
  have h := fz_iq c8 h
  refine lv_lookup (off := 70) (tgt := 76) C.1 C.2.1 dX4_addPart_6 (by decide) (by show Op.lookupswitch.offset [(72, 26), (83, 45)] 70 _ = 70; rw [Op.lookupswitch.offset_cons, if_neg (fun z => fz_ni c2 (i := 72) rfl z.symm)]; rw [Op.lookupswitch.offset_cons, if_neg (fun z => fz_ni c8 (i := 83) rfl z.symm)]; rfl) (by decide) ?_
  refine lv_aload_n C.1 C.2.1 dX4_addPart_76 rfl (lv_at hl 1 rfl) ?_
  refine lv_aload_n C.1 C.2.1 dX4_addPart_77 rfl (lv_at hl 0 rfl) ?_
  refine fz_getr C hF hT fz_c3 (j := 0) rfl fl_X4_11 dX4_addPart_78 ?_
  refine lv_iconst (v := 1) C.1 C.2.1 dX4_addPart_81 (by decide) ?_
  obtain ⟨g15, h⟩ := fz_gd_s h
  refine fz_ia C hF hT fz_c4 g15 dX4_addPart_82 ?_
  refine lv_aload_n C.1 C.2.1 dX4_addPart_83 rfl (lv_at hl 0 rfl) ?_
  refine fz_getr C hF hT fz_c3 (j := 0) rfl fl_X4_11 dX4_addPart_84 ?_
  refine lv_iconst (v := 2) C.1 C.2.1 dX4_addPart_87 (by decide) ?_
  obtain ⟨g16, h⟩ := fz_gd_s h
  refine fz_ia C hF hT fz_c4 g16 dX4_addPart_88 ?_
  refine lv_aload_n C.1 C.2.1 dX4_addPart_89 rfl (lv_at hl 0 rfl) ?_
  refine fz_getr C hF hT fz_c3 (j := 0) rfl fl_X4_11 dX4_addPart_90 ?_
  refine lv_iconst (v := 3) C.1 C.2.1 dX4_addPart_93 (by decide) ?_
  obtain ⟨g17, h⟩ := fz_gd_s h
  refine fz_ia C hF hT fz_c4 g17 dX4_addPart_94 ?_
  refine lv_aload_n C.1 C.2.1 dX4_addPart_95 rfl (lv_at hl 0 rfl) ?_
  refine fz_getr C hF hT fz_c3 (j := 0) rfl fl_X4_11 dX4_addPart_96 ?_
  refine lv_iconst (v := 4) C.1 C.2.1 dX4_addPart_99 (by decide) ?_
  obtain ⟨g18, h⟩ := fz_gd_s h
  refine fz_ia C hF hT fz_c4 g18 dX4_addPart_100 ?_
  obtain ⟨M20, w21, h⟩ := fz_b1_s h
  refine fz_cv hT (fz_runV (np := 4) (rest := []) C hF hT (c_X3_addPiece l G k0 hk0 (fz_g M 4 1) (fz_g M 4 2) (fz_g M 4 3) (fz_g M 4 4) M M20 w21) (fz_pl hk0) (T := TX3) (N := 12) rfl cl_X4_86 rfl hl.1 rfl (Nat.le_of_ble_eq_true rfl) ⟨Nat.le_of_ble_eq_true rfl, Nat.le_of_ble_eq_true rfl, Nat.zero_le _, Nat.zero_le _⟩ dX4_addPart_101) (fun H locs hT => ?_)
  cases h
  exact fz_retv C hr hlk hT dX4_addPart_104
set_option maxRecDepth 100000 in
theorem c_X4_addPart (l : Launch) (G : fz_G) (k0 : Nat) (hk0 : fz_isP k0 = true)  (M : fz_M) (M9 : fz_M) (h : f_X4_addPart k0 M = some M9) : fz_Me l yX4_addPart cX4_addPart 2 none 1 24 G fz_shC fz_KC [.ref (G.1 3), .ref (G.1 k0)] M (fz_Qv G fz_shC fz_KC M9) := by
  refine fz_body (by decide) (Nat.le_of_ble_eq_true rfl) ?_
  intro p e s m args below meth c H locs ls C hr hlk hF hT hl
  have C : CallFix p m c cX4_addPart 2 s args wsL_law RX4 := C
  have hl : lv_has ls 2 [(0, .ref (G.1 3)), (1, .ref (G.1 k0))] := hl
  exact b_X4_addPart_0 hk0 C hr hlk hF hT (lv_sub hl [0, 1] rfl) h
set_option maxHeartbeats 4000000 in
set_option maxRecDepth 100000 in
theorem b_X4_takes_63 {p : Program} {l : Launch} {e : Env} {s : State} {m : MethodId} {args : Array Value} {below : List Frame} {meth : Method} {c : Code} {G : fz_G} {k1 : Nat} (hk1 : fz_isP k1 = true)     {M : fz_M} {H : Heap} {locs : List Loc} {ls : Array Slot} {r : Int32} {M9 : fz_M} (C : CallFix p m c cX4_takes 4 s args wsL_law RX4) (hr : meth.sig.returnType = (some .boolean)) (hlk : meth.locks = false) (hF : fz_F G fz_KC s)  (hT : fz_T G fz_shC fz_KC s M H locs) (hl : lv_has ls 4 [(0, .ref (G.1 3)), (2, .ref (G.1 k1))]) (h : f_X4_takes_63 k1 M = some (r, M9)) : W p l e (fz_rm 4 89) s m args below meth c H locs 0 0 (MQ below (fz_Qi G fz_shC fz_KC r M9) args s 0 0 (fz_Fr G fz_KC)) (F0 m 63 ls []) := by
  refine lv_aload_n C.1 C.2.1 dX4_takes_63 rfl (lv_at hl 0 rfl) ?_
  refine lv_dup C.1 C.2.1 dX4_takes_64 rfl ?_
  refine fz_geti C hF hT fz_c3 (j := 1) rfl fl_X4_20 dX4_takes_65 ?_
  refine lv_iconst (v := 1) C.1 C.2.1 dX4_takes_68 (by decide) ?_
  refine lv_iadd C.1 C.2.1 dX4_takes_69 ?_
  obtain ⟨M1, eM1, h⟩ := fz_bd_s h
  refine fz_puti C hF hT fz_c3 (j := 1) rfl fw_X4_20 dX4_takes_70 (fun H locs hT => ?_)
  rw [← eM1] at hT
  refine lv_aload_n C.1 C.2.1 dX4_takes_73 rfl (lv_at hl 0 rfl) ?_
  refine fz_geti C hF hT fz_c3 (j := 1) rfl fl_X4_20 dX4_takes_74 ?_
  refine lv_aload_n C.1 C.2.1 dX4_takes_77 rfl (lv_at hl 0 rfl) ?_
  obtain ⟨r2, w4, h⟩ := fz_b1_s h
  refine fz_ci hT (fz_runV (np := 0) (rest := [.int (fz_f M1 3 1)]) C hF hT (c_X4_lengthOfPart l G M1 r2 w4) fz_c3 (T := TX4) (N := 2) rfl cl_X4_42 rfl hl.1 rfl (Nat.le_of_ble_eq_true rfl) ⟨Nat.le_of_ble_eq_true rfl, Nat.le_of_ble_eq_true rfl, Nat.zero_le _, Nat.zero_le _⟩ dX4_takes_78) (fun H locs hT => ?_)
  refine lv_icmp_ne (tgt := 94) C.1 C.2.1 dX4_takes_81 (by decide) (fun c5 => ?_) (fun c5 => ?_)
  · have h := fz_ip c5 h
    refine lv_iconst (v := 1) C.1 C.2.1 dX4_takes_94 (by decide) ?_
    cases h
    exact fz_retz C hr hlk rfl hT dX4_takes_95
  · have h := fz_iq (not_not_intro c5) h
    refine lv_aload_n C.1 C.2.1 dX4_takes_84 rfl (lv_at hl 0 rfl) ?_
    refine lv_aload_n C.1 C.2.1 dX4_takes_85 rfl (lv_at hl 1 rfl) ?_
    obtain ⟨M7, w8, h⟩ := fz_b1_s h
    refine fz_cv hT (fz_runV (np := 1) (rest := []) C hF hT (c_X4_addPart l G k1 hk1 M1 M7 w8) fz_c3 (T := TX4) (N := 2) rfl cl_X4_46 rfl hl.1 rfl (Nat.le_of_ble_eq_true rfl) ⟨Nat.le_of_ble_eq_true rfl, Nat.le_of_ble_eq_true rfl, Nat.zero_le _, Nat.zero_le _⟩ dX4_takes_86) (fun H locs hT => ?_)
    refine lv_aload_n C.1 C.2.1 dX4_takes_89 rfl (lv_at hl 0 rfl) ?_
    refine lv_iconst (v := 0) C.1 C.2.1 dX4_takes_90 (by decide) ?_
    obtain ⟨M9, eM9, h⟩ := fz_bd_s h
    refine fz_puti C hF hT fz_c3 (j := 1) rfl fw_X4_20 dX4_takes_91 (fun H locs hT => ?_)
    rw [← eM9] at hT
    refine lv_iconst (v := 1) C.1 C.2.1 dX4_takes_94 (by decide) ?_
    cases h
    exact fz_retz C hr hlk rfl hT dX4_takes_95
set_option maxHeartbeats 4000000 in
set_option maxRecDepth 100000 in
theorem b_X4_takes_0 {p : Program} {l : Launch} {e : Env} {s : State} {m : MethodId} {args : Array Value} {below : List Frame} {meth : Method} {c : Code} {G : fz_G} {k1 : Nat} (hk1 : fz_isP k1 = true)    {v1 : Int32} {M : fz_M} {H : Heap} {locs : List Loc} {ls : Array Slot} {r : Int32} {M9 : fz_M} (C : CallFix p m c cX4_takes 4 s args wsL_law RX4) (hr : meth.sig.returnType = (some .boolean)) (hlk : meth.locks = false) (hF : fz_F G fz_KC s)  (hT : fz_T G fz_shC fz_KC s M H locs) (hl : lv_has ls 4 [(0, .ref (G.1 3)), (1, .int v1), (2, .ref (G.1 k1))]) (h : f_X4_takes k1 v1 M = some (r, M9)) : W p l e (fz_rm 4 89) s m args below meth c H locs 0 0 (MQ below (fz_Qi G fz_shC fz_KC r M9) args s 0 0 (fz_Fr G fz_KC)) (F0 m 0 ls []) := by
  refine lv_aload_n C.1 C.2.1 dX4_takes_0 rfl (lv_at hl 0 rfl) ?_
  refine fz_geti C hF hT fz_c3 (j := 1) rfl fl_X4_20 dX4_takes_1 ?_
  refine lv_if_ne (tgt := 27) C.1 C.2.1 dX4_takes_4 (by decide) (fun c1 => ?_) (fun c1 => ?_)
  · have h := fz_ip c1 h
    refine lv_iload_n C.1 C.2.1 dX4_takes_27 rfl (lv_at hl 1 rfl) ?_
    refine lv_bipush (v := 48) C.1 C.2.1 dX4_takes_28 (by decide) ?_
    refine lv_isub C.1 C.2.1 dX4_takes_30 ?_
    obtain ⟨x2, ex2, h⟩ := fz_bd_s h
    refine fz_nmi ex2 ?_
    refine lv_istore_n (lv' := [(3, .int x2), (0, .ref (G.1 3)), (1, .int v1), (2, .ref (G.1 k1))]) C.1 C.2.1 dX4_takes_31 rfl hl (by decide) rfl (fun ls hl => ?_)
    refine lv_iload_n C.1 C.2.1 dX4_takes_32 rfl (lv_at hl 0 rfl) ?_
    refine lv_if_lt (tgt := 51) C.1 C.2.1 dX4_takes_33 (by decide) (fun c3 => ?_) (fun c3 => ?_)
    · have h := fz_ip c3 h
      refine lv_iconst (v := 0) C.1 C.2.1 dX4_takes_51 (by decide) ?_
      cases h
      exact fz_retz C hr hlk rfl hT dX4_takes_52
    · have h := fz_iq c3 h
      refine lv_iload_n C.1 C.2.1 dX4_takes_36 rfl (lv_at hl 0 rfl) ?_
      refine lv_bipush (v := 9) C.1 C.2.1 dX4_takes_37 (by decide) ?_
      refine lv_icmp_gt (tgt := 51) C.1 C.2.1 dX4_takes_39 (by decide) (fun c4 => ?_) (fun c4 => ?_)
      · have h := fz_ip c4 h
        refine lv_iconst (v := 0) C.1 C.2.1 dX4_takes_51 (by decide) ?_
        cases h
        exact fz_retz C hr hlk rfl hT dX4_takes_52
      · have h := fz_iq c4 h
        refine lv_aload_n C.1 C.2.1 dX4_takes_42 rfl (lv_at hl 1 rfl) ?_
        refine lv_iload_n C.1 C.2.1 dX4_takes_43 rfl (lv_at hl 0 rfl) ?_
        refine lv_aload_n C.1 C.2.1 dX4_takes_44 rfl (lv_at hl 3 rfl) ?_
        obtain ⟨r5, w7, h⟩ := fz_b1_s h
        refine fz_ci hT (fz_runV (np := 2) (rest := []) C hF hT (c_X4_canGoOn l G k1 hk1 x2 M r5 w7) fz_c3 (T := TX4) (N := 2) rfl cl_X4_39 rfl hl.1 rfl (Nat.le_of_ble_eq_true rfl) ⟨Nat.le_of_ble_eq_true rfl, Nat.le_of_ble_eq_true rfl, Nat.zero_le _, Nat.zero_le _⟩ dX4_takes_45) (fun H locs hT => ?_)
        refine lv_if_ne (tgt := 53) C.1 C.2.1 dX4_takes_48 (by decide) (fun c8 => ?_) (fun c8 => ?_)
        · have h := fz_ip c8 h
          refine lv_aload_n C.1 C.2.1 dX4_takes_53 rfl (lv_at hl 1 rfl) ?_
          refine fz_getr C hF hT fz_c3 (j := 0) rfl fl_X4_11 dX4_takes_54 ?_
          refine lv_aload_n C.1 C.2.1 dX4_takes_57 rfl (lv_at hl 1 rfl) ?_
          refine fz_geti C hF hT fz_c3 (j := 1) rfl fl_X4_20 dX4_takes_58 ?_
          refine lv_iload_n C.1 C.2.1 dX4_takes_61 rfl (lv_at hl 0 rfl) ?_
          obtain ⟨g9, h⟩ := fz_gd_s h
          obtain ⟨M10, eM10, h⟩ := fz_bd_s h
          refine fz_ias C hF hT fz_c4 g9 dX4_takes_62 (fun H locs hT => ?_)
          rw [← eM10] at hT
          exact b_X4_takes_63 hk1 C hr hlk hF hT (lv_sub hl [1, 3] rfl) h
        · have h := fz_iq (not_not_intro c8) h
          refine lv_iconst (v := 0) C.1 C.2.1 dX4_takes_51 (by decide) ?_
          cases h
          exact fz_retz C hr hlk rfl hT dX4_takes_52
  · have h := fz_iq (not_not_intro c1) h
    refine lv_iload_n C.1 C.2.1 dX4_takes_7 rfl (lv_at hl 1 rfl) ?_
    refine lv_aload_n C.1 C.2.1 dX4_takes_8 rfl (lv_at hl 2 rfl) ?_
    obtain ⟨r11, w13, h⟩ := fz_b1_s h
    refine fz_ci hT (fz_runS (np := 2) (rest := []) C hF hT (c_X4_canBegin l G k1 hk1 v1 M r11 w13) cl_X4_36 rfl hl.1 rfl (Nat.le_of_ble_eq_true rfl) ⟨Nat.le_of_ble_eq_true rfl, Nat.le_of_ble_eq_true rfl, Nat.zero_le _, Nat.zero_le _⟩ dX4_takes_9) (fun H locs hT => ?_)
    refine lv_if_ne (tgt := 17) C.1 C.2.1 dX4_takes_12 (by decide) (fun c14 => ?_) (fun c14 => ?_)
    · have h := fz_ip c14 h
      refine lv_aload_n C.1 C.2.1 dX4_takes_17 rfl (lv_at hl 0 rfl) ?_
      refine fz_getr C hF hT fz_c3 (j := 0) rfl fl_X4_11 dX4_takes_18 ?_
      refine lv_iconst (v := 0) C.1 C.2.1 dX4_takes_21 (by decide) ?_
      refine lv_iload_n C.1 C.2.1 dX4_takes_22 rfl (lv_at hl 1 rfl) ?_
      obtain ⟨g15, h⟩ := fz_gd_s h
      obtain ⟨M16, eM16, h⟩ := fz_bd_s h
      refine fz_ias C hF hT fz_c4 g15 dX4_takes_23 (fun H locs hT => ?_)
      rw [← eM16] at hT
      refine lv_goto (tgt := 63) C.1 C.2.1 dX4_takes_24 (by decide) ?_
      exact b_X4_takes_63 hk1 C hr hlk hF hT (lv_sub hl [0, 2] rfl) h
    · have h := fz_iq (not_not_intro c14) h
      refine lv_iconst (v := 0) C.1 C.2.1 dX4_takes_15 (by decide) ?_
      cases h
      exact fz_retz C hr hlk rfl hT dX4_takes_16
set_option maxRecDepth 100000 in
theorem c_X4_takes (l : Launch) (G : fz_G) (k1 : Nat) (hk1 : fz_isP k1 = true) (a0 : Int32) (M : fz_M) (r : Int32) (M9 : fz_M) (h : f_X4_takes k1 a0 M = some (r, M9)) : fz_Me l yX4_takes cX4_takes 4 (some .boolean) 4 89 G fz_shC fz_KC [.ref (G.1 3), .int a0, .ref (G.1 k1)] M (fz_Qi G fz_shC fz_KC r M9) := by
  refine fz_body (by decide) (Nat.le_of_ble_eq_true rfl) ?_
  intro p e s m args below meth c H locs ls C hr hlk hF hT hl
  have C : CallFix p m c cX4_takes 4 s args wsL_law RX4 := C
  have hl : lv_has ls 4 [(0, .ref (G.1 3)), (1, .int a0), (2, .ref (G.1 k1))] := hl
  exact b_X4_takes_0 hk1 C hr hlk hF hT (lv_sub hl [0, 1, 2] rfl) h
set_option maxHeartbeats 4000000 in
set_option maxRecDepth 100000 in
theorem b_X4_firstFault_11_l {p : Program} {l : Launch} {e : Env} {s : State} {m : MethodId} {args : Array Value} {below : List Frame} {meth : Method} {c : Code} {G : fz_G} {k1 : Nat} (hk1 : fz_isP k1 = true)      {r : Int32} {M9 : fz_M} (C : CallFix p m c cX4_firstFault 4 s args wsL_law RX4) (hr : meth.sig.returnType = (some .int)) (hlk : meth.locks = false) (hF : fz_F G fz_KC s)  : ∀ (n : Nat) (v3 : Int32) (M : fz_M) (H : Heap) (locs : List Loc) (ls : Array Slot), fz_T G fz_shC fz_KC s M H locs → lv_has ls 4 [(0, .ref (G.1 3)), (1, .ref (G.1 1)), (2, .ref (G.1 k1)), (3, .int v3)] → fz_lp (fun ag z => f_X4_firstFault_11_s k1 ag z.1 z.2) n (v3, M) = some (r, M9) → W p l e (fz_rm 5 112) s m args below meth c H locs 0 0 (MQ below (fz_Qi G fz_shC fz_KC r M9) args s 0 0 (fz_Fr G fz_KC)) (F0 m 11 ls []) := by
  intro n
  induction n with
  | zero =>
    intro v3 M H locs ls hT hl h
    cases h
  | succ n ih =>
    intro v3 M H locs ls hT hl h
    have h : f_X4_firstFault_11_s k1 (fz_lp (fun ag z => f_X4_firstFault_11_s k1 ag z.1 z.2) n) v3 M = some (r, M9) := h
    have hag11 := ih
    generalize fz_lp (fun ag z => f_X4_firstFault_11_s k1 ag z.1 z.2) n = ag11 at h hag11
    refine lv_iload_n C.1 C.2.1 dX4_firstFault_11 rfl (lv_at hl 3 rfl) ?_
    refine lv_aload_n C.1 C.2.1 dX4_firstFault_12 rfl (lv_at hl 1 rfl) ?_
    refine fz_geti C hF hT fz_c1 (j := 1) rfl fl_X4_24 dX4_firstFault_13 ?_
    refine lv_icmp_ge (tgt := 41) C.1 C.2.1 dX4_firstFault_16 (by decide) (fun c1 => ?_) (fun c1 => ?_)
    · have h := fz_ip c1 h
      refine lv_aload_n C.1 C.2.1 dX4_firstFault_41 rfl (lv_at hl 0 rfl) ?_
      refine fz_geti C hF hT fz_c3 (j := 1) rfl fl_X4_20 dX4_firstFault_42 ?_
      refine lv_if_ne (tgt := 53) C.1 C.2.1 dX4_firstFault_45 (by decide) (fun c2 => ?_) (fun c2 => ?_)
      · have h := fz_ip c2 h
        refine lv_aload_n C.1 C.2.1 dX4_firstFault_53 rfl (lv_at hl 1 rfl) ?_
        refine fz_geti C hF hT fz_c1 (j := 1) rfl fl_X4_24 dX4_firstFault_54 ?_
        cases h
        exact fz_reti C hr hlk hT dX4_firstFault_57
      · have h := fz_iq (not_not_intro c2) h
        refine lv_bipush (v := (-9)) C.1 C.2.1 dX4_firstFault_48 (by decide) ?_
        refine lv_goto (tgt := 57) C.1 C.2.1 dX4_firstFault_50 (by decide) ?_
        cases h
        exact fz_reti C hr hlk hT dX4_firstFault_57
    · have h := fz_iq c1 h
      refine lv_aload_n C.1 C.2.1 dX4_firstFault_19 rfl (lv_at hl 0 rfl) ?_
      refine lv_aload_n C.1 C.2.1 dX4_firstFault_20 rfl (lv_at hl 1 rfl) ?_
      refine fz_getr C hF hT fz_c1 (j := 0) rfl fl_X4_29 dX4_firstFault_21 ?_
      refine lv_iload_n C.1 C.2.1 dX4_firstFault_24 rfl (lv_at hl 3 rfl) ?_
      obtain ⟨g3, h⟩ := fz_gd_s h
      refine fz_ia C hF hT fz_c2 g3 dX4_firstFault_25 ?_
      refine lv_aload_n C.1 C.2.1 dX4_firstFault_26 rfl (lv_at hl 2 rfl) ?_
      obtain ⟨r4, M5, w6, h⟩ := fz_b2_s h
      refine fz_ci hT (fz_runV (np := 2) (rest := []) C hF hT (c_X4_takes l G k1 hk1 (fz_g M 2 v3) M r4 M5 w6) fz_c3 (T := TX4) (N := 2) rfl cl_X4_32 rfl hl.1 rfl (Nat.le_of_ble_eq_true rfl) ⟨Nat.le_of_ble_eq_true rfl, Nat.le_of_ble_eq_true rfl, Nat.zero_le _, Nat.zero_le _⟩ dX4_firstFault_27) (fun H locs hT => ?_)
      refine lv_if_ne (tgt := 35) C.1 C.2.1 dX4_firstFault_30 (by decide) (fun c7 => ?_) (fun c7 => ?_)
      · have h := fz_ip c7 h
        refine lv_iinc (v := (v3 + 1)) (lv' := [(3, .int (v3 + 1)), (0, .ref (G.1 3)), (1, .ref (G.1 1)), (2, .ref (G.1 k1))]) C.1 C.2.1 dX4_firstFault_35 hl (k := 3) rfl rfl (by decide) rfl (fun ls hl => ?_)
        refine lv_goto (tgt := 11) C.1 C.2.1 dX4_firstFault_38 (by decide) ?_
        exact hag11 (v3 + 1) M5 _ _ _ hT (lv_sub hl [1, 2, 3, 0] rfl) h
      · have h := fz_iq (not_not_intro c7) h
        refine lv_iload_n C.1 C.2.1 dX4_firstFault_33 rfl (lv_at hl 3 rfl) ?_
        cases h
        exact fz_reti C hr hlk hT dX4_firstFault_34
set_option maxHeartbeats 4000000 in
set_option maxRecDepth 100000 in
theorem b_X4_firstFault_11 {p : Program} {l : Launch} {e : Env} {s : State} {m : MethodId} {args : Array Value} {below : List Frame} {meth : Method} {c : Code} {G : fz_G} {k1 : Nat} (hk1 : fz_isP k1 = true)    {v3 : Int32} {M : fz_M} {H : Heap} {locs : List Loc} {ls : Array Slot} {r : Int32} {M9 : fz_M} (C : CallFix p m c cX4_firstFault 4 s args wsL_law RX4) (hr : meth.sig.returnType = (some .int)) (hlk : meth.locks = false) (hF : fz_F G fz_KC s)  (hT : fz_T G fz_shC fz_KC s M H locs) (hl : lv_has ls 4 [(0, .ref (G.1 3)), (1, .ref (G.1 1)), (2, .ref (G.1 k1)), (3, .int v3)]) (h : f_X4_firstFault_11 k1 v3 M = some (r, M9)) : W p l e (fz_rm 5 112) s m args below meth c H locs 0 0 (MQ below (fz_Qi G fz_shC fz_KC r M9) args s 0 0 (fz_Fr G fz_KC)) (F0 m 11 ls []) :=
  b_X4_firstFault_11_l hk1 C hr hlk hF fz_fuel v3 M H locs ls hT hl h
set_option maxHeartbeats 4000000 in
set_option maxRecDepth 100000 in
theorem b_X4_firstFault_0 {p : Program} {l : Launch} {e : Env} {s : State} {m : MethodId} {args : Array Value} {below : List Frame} {meth : Method} {c : Code} {G : fz_G} {k1 : Nat} (hk1 : fz_isP k1 = true)     {M : fz_M} {H : Heap} {locs : List Loc} {ls : Array Slot} {r : Int32} {M9 : fz_M} (C : CallFix p m c cX4_firstFault 4 s args wsL_law RX4) (hr : meth.sig.returnType = (some .int)) (hlk : meth.locks = false) (hF : fz_F G fz_KC s)  (hT : fz_T G fz_shC fz_KC s M H locs) (hl : lv_has ls 4 [(0, .ref (G.1 3)), (1, .ref (G.1 1)), (2, .ref (G.1 k1))]) (h : f_X4_firstFault k1 M = some (r, M9)) : W p l e (fz_rm 5 112) s m args below meth c H locs 0 0 (MQ below (fz_Qi G fz_shC fz_KC r M9) args s 0 0 (fz_Fr G fz_KC)) (F0 m 0 ls []) := by
  refine lv_aload_n C.1 C.2.1 dX4_firstFault_0 rfl (lv_at hl 2 rfl) ?_
  obtain ⟨M2, w3, h⟩ := fz_b1_s h
  refine fz_cv hT (fz_runV (np := 0) (rest := []) C hF hT (c_X3_clear l G k1 hk1 M M2 w3) (fz_pl hk1) (T := TX3) (N := 12) rfl cl_X4_15 rfl hl.1 rfl (Nat.le_of_ble_eq_true rfl) ⟨Nat.le_of_ble_eq_true rfl, Nat.le_of_ble_eq_true rfl, Nat.zero_le _, Nat.zero_le _⟩ dX4_firstFault_1) (fun H locs hT => ?_)
  refine lv_aload_n C.1 C.2.1 dX4_firstFault_4 rfl (lv_at hl 0 rfl) ?_
  refine lv_iconst (v := 0) C.1 C.2.1 dX4_firstFault_5 (by decide) ?_
  obtain ⟨M4, eM4, h⟩ := fz_bd_s h
  refine fz_puti C hF hT fz_c3 (j := 1) rfl fw_X4_20 dX4_firstFault_6 (fun H locs hT => ?_)
  rw [← eM4] at hT
  refine lv_iconst (v := 0) C.1 C.2.1 dX4_firstFault_9 (by decide) ?_
  refine lv_istore_n (lv' := [(3, .int 0), (0, .ref (G.1 3)), (1, .ref (G.1 1)), (2, .ref (G.1 k1))]) C.1 C.2.1 dX4_firstFault_10 rfl hl (by decide) rfl (fun ls hl => ?_)
  exact b_X4_firstFault_11 hk1 C hr hlk hF hT (lv_sub hl [1, 2, 3, 0] rfl) h
set_option maxRecDepth 100000 in
theorem c_X4_firstFault (l : Launch) (G : fz_G) (k1 : Nat) (hk1 : fz_isP k1 = true)  (M : fz_M) (r : Int32) (M9 : fz_M) (h : f_X4_firstFault k1 M = some (r, M9)) : fz_Me l yX4_firstFault cX4_firstFault 4 (some .int) 5 112 G fz_shC fz_KC [.ref (G.1 3), .ref (G.1 1), .ref (G.1 k1)] M (fz_Qi G fz_shC fz_KC r M9) := by
  refine fz_body (by decide) (Nat.le_of_ble_eq_true rfl) ?_
  intro p e s m args below meth c H locs ls C hr hlk hF hT hl
  have C : CallFix p m c cX4_firstFault 4 s args wsL_law RX4 := C
  have hl : lv_has ls 4 [(0, .ref (G.1 3)), (1, .ref (G.1 1)), (2, .ref (G.1 k1))] := hl
  exact b_X4_firstFault_0 hk1 C hr hlk hF hT (lv_sub hl [0, 1, 2] rfl) h
