set_option maxHeartbeats 4000000 in
set_option maxRecDepth 100000 in
theorem b_X9_divisor_6_l {p : Program} {l : Launch} {e : Env} {s : State} {m : MethodId} {args : Array Value} {below : List Frame} {meth : Method} {c : Code} {G : fz_G}      {M : fz_M} {r : Int64} (C : CallFix p m c cX9_divisor 10 s args wsL_law RX9) (hr : meth.sig.returnType = (some .long)) (hlk : meth.locks = false) (hF : fz_F G fz_KM s)  : ∀ (n : Nat) (v4 : Int64) (v6 : Int64) (H : Heap) (locs : List Loc) (ls : Array Slot), fz_T G fz_shM fz_KM s M H locs → lv_has ls 10 [(4, .long v4), (6, .long v6)] → fz_lp (fun ag z => f_X9_divisor_6_s ag z.1 z.2 M) n (v4, v6) = some r → W p l e (fz_rm 0 0) s m args below meth c H locs 0 0 (MQ below (fz_Ql G fz_shM fz_KM r M) args s 0 0 (fz_Fr G fz_KM)) (F0 m 6 ls []) := by
  intro n
  induction n with
  | zero =>
    intro v4 v6 H locs ls hT hl h
    cases h
  | succ n ih =>
    intro v4 v6 H locs ls hT hl h
    have h : f_X9_divisor_6_s (fz_lp (fun ag z => f_X9_divisor_6_s ag z.1 z.2 M) n) v4 v6 M = some r := h
    have hag6 := ih
    generalize fz_lp (fun ag z => f_X9_divisor_6_s ag z.1 z.2 M) n = ag6 at h hag6
    refine lv_lload C.1 C.2.1 dX9_divisor_6 (lv_at hl 1 rfl) ?_
    refine lv_lconst (v := 0) C.1 C.2.1 dX9_divisor_8 (by decide) ?_
    refine W.lcmp C.1 C.2.1 dX9_divisor_9 ?_
    refine lv_if_eq (tgt := 31) C.1 C.2.1 dX9_divisor_10 (by decide) (fun c1 => ?_) (fun c1 => ?_)
    · have h := fz_ip c1 h
      refine lv_lload C.1 C.2.1 dX9_divisor_31 (lv_at hl 0 rfl) ?_
      cases h
      exact fz_retl C hr hlk hT dX9_divisor_33
    · have h := fz_iq c1 h
      refine lv_lload C.1 C.2.1 dX9_divisor_13 (lv_at hl 0 rfl) ?_
      refine lv_lload C.1 C.2.1 dX9_divisor_15 (lv_at hl 1 rfl) ?_
      obtain ⟨g2, h⟩ := fz_gd_s h
      refine lv_lrem C.1 C.2.1 dX9_divisor_17 (fz_nzl_s g2) ?_
      obtain ⟨x3, ex3, h⟩ := fz_bd_s h
      refine fz_nml ex3 ?_
      refine lv_lstore (lv' := [(8, .long x3), (4, .long v4), (6, .long v6)]) C.1 C.2.1 dX9_divisor_18 hl (by decide) rfl (fun ls hl => ?_)
      refine lv_lload C.1 C.2.1 dX9_divisor_20 (lv_at hl 2 rfl) ?_
      refine lv_lstore (lv' := [(4, .long v6), (8, .long x3), (6, .long v6)]) C.1 C.2.1 dX9_divisor_22 hl (by decide) rfl (fun ls hl => ?_)
      refine lv_lload C.1 C.2.1 dX9_divisor_24 (lv_at hl 1 rfl) ?_
      refine lv_lstore (lv' := [(6, .long x3), (4, .long v6), (8, .long x3)]) C.1 C.2.1 dX9_divisor_26 hl (by decide) rfl (fun ls hl => ?_)
      refine lv_goto (tgt := 6) C.1 C.2.1 dX9_divisor_28 (by decide) ?_
      exact hag6 v6 x3 _ _ _ hT (lv_sub hl [1, 0] rfl) h
set_option maxHeartbeats 4000000 in
set_option maxRecDepth 100000 in
theorem b_X9_divisor_6 {p : Program} {l : Launch} {e : Env} {s : State} {m : MethodId} {args : Array Value} {below : List Frame} {meth : Method} {c : Code} {G : fz_G}     {v4 : Int64} {v6 : Int64} {M : fz_M} {H : Heap} {locs : List Loc} {ls : Array Slot} {r : Int64} (C : CallFix p m c cX9_divisor 10 s args wsL_law RX9) (hr : meth.sig.returnType = (some .long)) (hlk : meth.locks = false) (hF : fz_F G fz_KM s)  (hT : fz_T G fz_shM fz_KM s M H locs) (hl : lv_has ls 10 [(4, .long v4), (6, .long v6)]) (h : f_X9_divisor_6 v4 v6 M = some r) : W p l e (fz_rm 0 0) s m args below meth c H locs 0 0 (MQ below (fz_Ql G fz_shM fz_KM r M) args s 0 0 (fz_Fr G fz_KM)) (F0 m 6 ls []) :=
  b_X9_divisor_6_l C hr hlk hF fz_fuel v4 v6 H locs ls hT hl h
set_option maxHeartbeats 4000000 in
set_option maxRecDepth 100000 in
theorem b_X9_divisor_0 {p : Program} {l : Launch} {e : Env} {s : State} {m : MethodId} {args : Array Value} {below : List Frame} {meth : Method} {c : Code} {G : fz_G}     {v0 : Int64} {v2 : Int64} {M : fz_M} {H : Heap} {locs : List Loc} {ls : Array Slot} {r : Int64} (C : CallFix p m c cX9_divisor 10 s args wsL_law RX9) (hr : meth.sig.returnType = (some .long)) (hlk : meth.locks = false) (hF : fz_F G fz_KM s)  (hT : fz_T G fz_shM fz_KM s M H locs) (hl : lv_has ls 10 [(0, .long v0), (2, .long v2)]) (h : f_X9_divisor v0 v2 M = some r) : W p l e (fz_rm 0 0) s m args below meth c H locs 0 0 (MQ below (fz_Ql G fz_shM fz_KM r M) args s 0 0 (fz_Fr G fz_KM)) (F0 m 0 ls []) := by
  refine lv_lload_n C.1 C.2.1 dX9_divisor_0 rfl (lv_at hl 0 rfl) ?_
  refine lv_lstore (lv' := [(4, .long v0), (0, .long v0), (2, .long v2)]) C.1 C.2.1 dX9_divisor_1 hl (by decide) rfl (fun ls hl => ?_)
  refine lv_lload_n C.1 C.2.1 dX9_divisor_3 rfl (lv_at hl 2 rfl) ?_
  refine lv_lstore (lv' := [(6, .long v2), (4, .long v0), (0, .long v0), (2, .long v2)]) C.1 C.2.1 dX9_divisor_4 hl (by decide) rfl (fun ls hl => ?_)
  exact b_X9_divisor_6 C hr hlk hF hT (lv_sub hl [1, 0] rfl) h
set_option maxRecDepth 100000 in
theorem c_X9_divisor (l : Launch) (G : fz_G)  (a0 : Int64) (a1 : Int64) (M : fz_M) (r : Int64) (h : f_X9_divisor a0 a1 M = some r) : fz_Me l yX9_divisor cX9_divisor 10 (some .long) 0 0 G fz_shM fz_KM [.long a0, .long a1] M (fz_Ql G fz_shM fz_KM r M) := by
  refine fz_body (by decide) (Nat.le_of_ble_eq_true rfl) ?_
  intro p e s m args below meth c H locs ls C hr hlk hF hT hl
  have C : CallFix p m c cX9_divisor 10 s args wsL_law RX9 := C
  have hl : lv_has ls 10 [(0, .long a0), (2, .long a1)] := hl
  exact b_X9_divisor_0 C hr hlk hF hT (lv_sub hl [0, 1] rfl) h
set_option maxHeartbeats 4000000 in
set_option maxRecDepth 100000 in
theorem b_X9_drawn_22 {p : Program} {l : Launch} {e : Env} {s : State} {m : MethodId} {args : Array Value} {below : List Frame} {meth : Method} {c : Code} {G : fz_G}      {M : fz_M} {H : Heap} {locs : List Loc} {ls : Array Slot} {r : Int64} {M9 : fz_M} (C : CallFix p m c cX9_drawn 12 s args wsL_law RX9) (hr : meth.sig.returnType = (some .long)) (hlk : meth.locks = false) (hF : fz_F G fz_KM s)  (hT : fz_T G fz_shM fz_KM s M H locs) (hl : lv_has ls 12 []) (h : f_X9_drawn_22 M = some (r, M9)) : W p l e (fz_rm 2 46) s m args below meth c H locs 0 0 (MQ below (fz_Ql G fz_shM fz_KM r M9) args s 0 0 (fz_Fr G fz_KM)) (F0 m 22 ls []) := by
  refine lv_ldc2 (v := (-1)) C.1 C.2.1 C.2.2.2.1 (C.2.2.2.2 _ (fz_q30 _ (List.mem_of_getElem? (i := 9) rfl))) dX9_drawn_22 ?_
  cases h
  exact fz_retl C hr hlk hT dX9_drawn_25
set_option maxHeartbeats 4000000 in
set_option maxRecDepth 100000 in
theorem b_X9_drawn_240_l {p : Program} {l : Launch} {e : Env} {s : State} {m : MethodId} {args : Array Value} {below : List Frame} {meth : Method} {c : Code} {G : fz_G}   {ag83 : (Int64 × Int32 × fz_M) → Option (Int64 × fz_M)}  {v1 : Int32} {v2 : Int32} {v3 : Int32} {v4 : Int32} {v5 : Int32} {v6 : Int64} {v8 : Int32}  {r : Int64} {M9 : fz_M} (C : CallFix p m c cX9_drawn 12 s args wsL_law RX9) (hr : meth.sig.returnType = (some .long)) (hlk : meth.locks = false) (hF : fz_F G fz_KM s) (hag83 : ∀ (v6 : Int64) (v8 : Int32) (M : fz_M) (H : Heap) (locs : List Loc) (ls : Array Slot), fz_T G fz_shM fz_KM s M H locs → lv_has ls 12 [(0, .ref (G.1 0)), (1, .int v1), (2, .int v2), (3, .int v3), (4, .int v4), (5, .int v5), (6, .long v6), (8, .int v8)] → ag83 (v6, v8, M) = some (r, M9) → W p l e (fz_rm 2 46) s m args below meth c H locs 0 0 (MQ below (fz_Ql G fz_shM fz_KM r M9) args s 0 0 (fz_Fr G fz_KM)) (F0 m 83 ls [])) : ∀ (n : Nat) (v9 : Int32) (M : fz_M) (H : Heap) (locs : List Loc) (ls : Array Slot), fz_T G fz_shM fz_KM s M H locs → lv_has ls 12 [(0, .ref (G.1 0)), (1, .int v1), (2, .int v2), (3, .int v3), (4, .int v4), (5, .int v5), (6, .long v6), (8, .int v8), (9, .int v9)] → fz_lp (fun ag z => f_X9_drawn_240_s ag83 ag v1 v2 v3 v4 v5 v6 v8 z.1 z.2) n (v9, M) = some (r, M9) → W p l e (fz_rm 2 46) s m args below meth c H locs 0 0 (MQ below (fz_Ql G fz_shM fz_KM r M9) args s 0 0 (fz_Fr G fz_KM)) (F0 m 240 ls []) := by
  intro n
  induction n with
  | zero =>
    intro v9 M H locs ls hT hl h
    cases h
  | succ n ih =>
    intro v9 M H locs ls hT hl h
    have h : f_X9_drawn_240_s ag83 (fz_lp (fun ag z => f_X9_drawn_240_s ag83 ag v1 v2 v3 v4 v5 v6 v8 z.1 z.2) n) v1 v2 v3 v4 v5 v6 v8 v9 M = some (r, M9) := h
    have hag240 := ih
    generalize fz_lp (fun ag z => f_X9_drawn_240_s ag83 ag v1 v2 v3 v4 v5 v6 v8 z.1 z.2) n = ag240 at h hag240
    refine lv_iload C.1 C.2.1 dX9_drawn_240 (lv_at hl 8 rfl) ?_
    refine lv_bipush (v := 6) C.1 C.2.1 dX9_drawn_242 (by decide) ?_
    refine lv_icmp_ge (tgt := 267) C.1 C.2.1 dX9_drawn_244 (by decide) (fun c1 => ?_) (fun c1 => ?_)
    · have h := fz_ip c1 h
      refine lv_iinc (v := (v8 + 1)) (lv' := [(8, .int (v8 + 1)), (0, .ref (G.1 0)), (1, .int v1), (2, .int v2), (3, .int v3), (4, .int v4), (5, .int v5), (6, .long v6), (9, .int v9)]) C.1 C.2.1 dX9_drawn_267 hl (k := 7) rfl rfl (by decide) rfl (fun ls hl => ?_)
      refine lv_goto (tgt := 83) C.1 C.2.1 dX9_drawn_270 (by decide) ?_
      exact hag83 v6 (v8 + 1) M _ _ _ hT (lv_sub hl [1, 2, 3, 4, 5, 6, 7, 0] rfl) h
    · have h := fz_iq c1 h
      refine lv_aload_n C.1 C.2.1 dX9_drawn_247 rfl (lv_at hl 0 rfl) ?_
      refine fz_getr C hF hT fz_m0 (j := 46) rfl fl_X9_110 dX9_drawn_248 ?_
      refine lv_iload C.1 C.2.1 dX9_drawn_251 (lv_at hl 8 rfl) ?_
      refine lv_aload_n C.1 C.2.1 dX9_drawn_253 rfl (lv_at hl 0 rfl) ?_
      refine fz_getr C hF hT fz_m0 (j := 47) rfl fl_X9_114 dX9_drawn_254 ?_
      refine lv_iload C.1 C.2.1 dX9_drawn_257 (lv_at hl 8 rfl) ?_
      obtain ⟨g2, h⟩ := fz_gd_s h
      refine fz_la C hF hT fz_m35 g2 dX9_drawn_259 ?_
      obtain ⟨g3, h⟩ := fz_gd_s h
      obtain ⟨M4, eM4, h⟩ := fz_bd_s h
      refine fz_las C hF hT fz_m34 g3 dX9_drawn_260 (fun H locs hT => ?_)
      rw [← eM4] at hT
      refine lv_iinc (v := (v9 + 1)) (lv' := [(9, .int (v9 + 1)), (0, .ref (G.1 0)), (1, .int v1), (2, .int v2), (3, .int v3), (4, .int v4), (5, .int v5), (6, .long v6), (8, .int v8)]) C.1 C.2.1 dX9_drawn_261 hl (k := 8) rfl rfl (by decide) rfl (fun ls hl => ?_)
      refine lv_goto (tgt := 240) C.1 C.2.1 dX9_drawn_264 (by decide) ?_
      exact hag240 (v9 + 1) M4 _ _ _ hT (lv_sub hl [1, 2, 3, 4, 5, 6, 7, 8, 0] rfl) h
set_option maxHeartbeats 4000000 in
set_option maxRecDepth 100000 in
theorem b_X9_drawn_240 {p : Program} {l : Launch} {e : Env} {s : State} {m : MethodId} {args : Array Value} {below : List Frame} {meth : Method} {c : Code} {G : fz_G}   {ag83 : (Int64 × Int32 × fz_M) → Option (Int64 × fz_M)}  {v1 : Int32} {v2 : Int32} {v3 : Int32} {v4 : Int32} {v5 : Int32} {v6 : Int64} {v8 : Int32} {v9 : Int32} {M : fz_M} {H : Heap} {locs : List Loc} {ls : Array Slot} {r : Int64} {M9 : fz_M} (C : CallFix p m c cX9_drawn 12 s args wsL_law RX9) (hr : meth.sig.returnType = (some .long)) (hlk : meth.locks = false) (hF : fz_F G fz_KM s) (hag83 : ∀ (v6 : Int64) (v8 : Int32) (M : fz_M) (H : Heap) (locs : List Loc) (ls : Array Slot), fz_T G fz_shM fz_KM s M H locs → lv_has ls 12 [(0, .ref (G.1 0)), (1, .int v1), (2, .int v2), (3, .int v3), (4, .int v4), (5, .int v5), (6, .long v6), (8, .int v8)] → ag83 (v6, v8, M) = some (r, M9) → W p l e (fz_rm 2 46) s m args below meth c H locs 0 0 (MQ below (fz_Ql G fz_shM fz_KM r M9) args s 0 0 (fz_Fr G fz_KM)) (F0 m 83 ls [])) (hT : fz_T G fz_shM fz_KM s M H locs) (hl : lv_has ls 12 [(0, .ref (G.1 0)), (1, .int v1), (2, .int v2), (3, .int v3), (4, .int v4), (5, .int v5), (6, .long v6), (8, .int v8), (9, .int v9)]) (h : f_X9_drawn_240 ag83 v1 v2 v3 v4 v5 v6 v8 v9 M = some (r, M9)) : W p l e (fz_rm 2 46) s m args below meth c H locs 0 0 (MQ below (fz_Ql G fz_shM fz_KM r M9) args s 0 0 (fz_Fr G fz_KM)) (F0 m 240 ls []) :=
  b_X9_drawn_240_l C hr hlk hF hag83 fz_fuel v9 M H locs ls hT hl h
set_option maxHeartbeats 4000000 in
set_option maxRecDepth 100000 in
theorem b_X9_drawn_134_l {p : Program} {l : Launch} {e : Env} {s : State} {m : MethodId} {args : Array Value} {below : List Frame} {meth : Method} {c : Code} {G : fz_G}   {ag83 : (Int64 × Int32 × fz_M) → Option (Int64 × fz_M)}  {v1 : Int32} {v2 : Int32} {v3 : Int32} {v4 : Int32} {v5 : Int32} {v6 : Int64} {v8 : Int32}  {r : Int64} {M9 : fz_M} (C : CallFix p m c cX9_drawn 12 s args wsL_law RX9) (hr : meth.sig.returnType = (some .long)) (hlk : meth.locks = false) (hF : fz_F G fz_KM s) (hag83 : ∀ (v6 : Int64) (v8 : Int32) (M : fz_M) (H : Heap) (locs : List Loc) (ls : Array Slot), fz_T G fz_shM fz_KM s M H locs → lv_has ls 12 [(0, .ref (G.1 0)), (1, .int v1), (2, .int v2), (3, .int v3), (4, .int v4), (5, .int v5), (6, .long v6), (8, .int v8)] → ag83 (v6, v8, M) = some (r, M9) → W p l e (fz_rm 2 46) s m args below meth c H locs 0 0 (MQ below (fz_Ql G fz_shM fz_KM r M9) args s 0 0 (fz_Fr G fz_KM)) (F0 m 83 ls [])) : ∀ (n : Nat) (v9 : Int32) (M : fz_M) (H : Heap) (locs : List Loc) (ls : Array Slot), fz_T G fz_shM fz_KM s M H locs → lv_has ls 12 [(0, .ref (G.1 0)), (1, .int v1), (2, .int v2), (3, .int v3), (4, .int v4), (5, .int v5), (6, .long v6), (8, .int v8), (9, .int v9)] → fz_lp (fun ag z => f_X9_drawn_134_s ag83 ag v1 v2 v3 v4 v5 v6 v8 z.1 z.2) n (v9, M) = some (r, M9) → W p l e (fz_rm 2 46) s m args below meth c H locs 0 0 (MQ below (fz_Ql G fz_shM fz_KM r M9) args s 0 0 (fz_Fr G fz_KM)) (F0 m 134 ls []) := by
  intro n
  induction n with
  | zero =>
    intro v9 M H locs ls hT hl h
    cases h
  | succ n ih =>
    intro v9 M H locs ls hT hl h
    have h : f_X9_drawn_134_s ag83 (fz_lp (fun ag z => f_X9_drawn_134_s ag83 ag v1 v2 v3 v4 v5 v6 v8 z.1 z.2) n) v1 v2 v3 v4 v5 v6 v8 v9 M = some (r, M9) := h
    have hag134 := ih
    generalize fz_lp (fun ag z => f_X9_drawn_134_s ag83 ag v1 v2 v3 v4 v5 v6 v8 z.1 z.2) n = ag134 at h hag134
    refine lv_iload C.1 C.2.1 dX9_drawn_134 (lv_at hl 8 rfl) ?_
    refine lv_aload_n C.1 C.2.1 dX9_drawn_136 rfl (lv_at hl 0 rfl) ?_
    refine fz_geti C hF hT fz_m0 (j := 5) rfl fl_X9_188 dX9_drawn_137 ?_
    refine lv_icmp_ge (tgt := 237) C.1 C.2.1 dX9_drawn_140 (by decide) (fun c1 => ?_) (fun c1 => ?_)
    · have h := fz_ip c1 h
      refine lv_iconst (v := 0) C.1 C.2.1 dX9_drawn_237 (by decide) ?_
      refine lv_istore (lv' := [(9, .int 0), (0, .ref (G.1 0)), (1, .int v1), (2, .int v2), (3, .int v3), (4, .int v4), (5, .int v5), (6, .long v6), (8, .int v8)]) C.1 C.2.1 dX9_drawn_238 hl (by decide) rfl (fun ls hl => ?_)
      exact b_X9_drawn_240 C hr hlk hF hag83 hT (lv_sub hl [1, 2, 3, 4, 5, 6, 7, 8, 0] rfl) h
    · have h := fz_iq c1 h
      refine lv_aload_n C.1 C.2.1 dX9_drawn_143 rfl (lv_at hl 0 rfl) ?_
      refine fz_getr C hF hT fz_m0 (j := 12) rfl fl_X9_28 dX9_drawn_144 ?_
      refine lv_iload C.1 C.2.1 dX9_drawn_147 (lv_at hl 8 rfl) ?_
      obtain ⟨g2, h⟩ := fz_gd_s h
      refine fz_za C hF hT fz_m7 g2 dX9_drawn_149 ?_
      refine lv_if_ne (tgt := 231) C.1 C.2.1 dX9_drawn_150 (by decide) (fun c3 => ?_) (fun c3 => ?_)
      · have h := fz_ip c3 h
        refine lv_iinc (v := (v9 + 1)) (lv' := [(9, .int (v9 + 1)), (0, .ref (G.1 0)), (1, .int v1), (2, .int v2), (3, .int v3), (4, .int v4), (5, .int v5), (6, .long v6), (8, .int v8)]) C.1 C.2.1 dX9_drawn_231 hl (k := 8) rfl rfl (by decide) rfl (fun ls hl => ?_)
        refine lv_goto (tgt := 134) C.1 C.2.1 dX9_drawn_234 (by decide) ?_
        exact hag134 (v9 + 1) M _ _ _ hT (lv_sub hl [1, 2, 3, 4, 5, 6, 7, 8, 0] rfl) h
      · have h := fz_iq (not_not_intro c3) h
        refine lv_aload_n C.1 C.2.1 dX9_drawn_153 rfl (lv_at hl 0 rfl) ?_
        refine lv_aload_n C.1 C.2.1 dX9_drawn_154 rfl (lv_at hl 0 rfl) ?_
        refine fz_getr C hF hT fz_m0 (j := 9) rfl fl_X9_19 dX9_drawn_155 ?_
        refine lv_iload C.1 C.2.1 dX9_drawn_158 (lv_at hl 8 rfl) ?_
        obtain ⟨g4, h⟩ := fz_gd_s h
        refine fz_ia C hF hT fz_m4 g4 dX9_drawn_160 ?_
        refine lv_iload_n C.1 C.2.1 dX9_drawn_161 rfl (lv_at hl 2 rfl) ?_
        obtain ⟨r5, w7, h⟩ := fz_b1_s h
        refine fz_ci hT (fz_runV (np := 2) (rest := []) C hF hT (c_X9_depth l G (fz_g M 4 v9) v2 M r5 w7) fz_m0 (T := TX9) (N := 49) rfl cl_X9_206 rfl hl.1 rfl (Nat.le_of_ble_eq_true rfl) ⟨Nat.le_of_ble_eq_true rfl, Nat.le_of_ble_eq_true rfl, Nat.zero_le _, Nat.zero_le _⟩ dX9_drawn_162) (fun H locs hT => ?_)
        refine lv_aload_n C.1 C.2.1 dX9_drawn_165 rfl (lv_at hl 0 rfl) ?_
        refine fz_getr C hF hT fz_m0 (j := 15) rfl fl_X9_38 dX9_drawn_166 ?_
        refine lv_iload_n C.1 C.2.1 dX9_drawn_169 rfl (lv_at hl 1 rfl) ?_
        obtain ⟨g8, h⟩ := fz_gd_s h
        refine fz_ia C hF hT fz_m10 g8 dX9_drawn_170 ?_
        refine lv_icmp_lt (tgt := 231) C.1 C.2.1 dX9_drawn_171 (by decide) (fun c9 => ?_) (fun c9 => ?_)
        · have h := fz_ip c9 h
          refine lv_iinc (v := (v9 + 1)) (lv' := [(9, .int (v9 + 1)), (0, .ref (G.1 0)), (1, .int v1), (2, .int v2), (3, .int v3), (4, .int v4), (5, .int v5), (6, .long v6), (8, .int v8)]) C.1 C.2.1 dX9_drawn_231 hl (k := 8) rfl rfl (by decide) rfl (fun ls hl => ?_)
          refine lv_goto (tgt := 134) C.1 C.2.1 dX9_drawn_234 (by decide) ?_
          exact hag134 (v9 + 1) M _ _ _ hT (lv_sub hl [1, 2, 3, 4, 5, 6, 7, 8, 0] rfl) h
        · have h := fz_iq c9 h
          refine lv_aload_n C.1 C.2.1 dX9_drawn_174 rfl (lv_at hl 0 rfl) ?_
          refine fz_getr C hF hT fz_m0 (j := 46) rfl fl_X9_110 dX9_drawn_175 ?_
          refine lv_aload_n C.1 C.2.1 dX9_drawn_178 rfl (lv_at hl 0 rfl) ?_
          refine fz_getr C hF hT fz_m0 (j := 9) rfl fl_X9_19 dX9_drawn_179 ?_
          refine lv_iload C.1 C.2.1 dX9_drawn_182 (lv_at hl 8 rfl) ?_
          obtain ⟨g10, h⟩ := fz_gd_s h
          refine fz_ia C hF hT fz_m4 g10 dX9_drawn_184 ?_
          obtain ⟨g11, h⟩ := fz_gd_s h
          refine fz_la C hF hT fz_m34 g11 dX9_drawn_185 ?_
          refine lv_aload_n C.1 C.2.1 dX9_drawn_186 rfl (lv_at hl 0 rfl) ?_
          refine fz_getr C hF hT fz_m0 (j := 11) rfl fl_X9_25 dX9_drawn_187 ?_
          refine lv_iload C.1 C.2.1 dX9_drawn_190 (lv_at hl 8 rfl) ?_
          obtain ⟨g12, h⟩ := fz_gd_s h
          refine fz_ia C hF hT fz_m6 g12 dX9_drawn_192 ?_
          refine lv_i2l (v := ((fz_g M 6 v9).toInt64)) C.1 C.2.1 dX9_drawn_193 rfl ?_
          refine lv_lmul C.1 C.2.1 dX9_drawn_194 ?_
          obtain ⟨x13, ex13, h⟩ := fz_bd_s h
          refine fz_nml ex13 ?_
          refine lv_lstore (lv' := [(10, .long x13), (0, .ref (G.1 0)), (1, .int v1), (2, .int v2), (3, .int v3), (4, .int v4), (5, .int v5), (6, .long v6), (8, .int v8), (9, .int v9)]) C.1 C.2.1 dX9_drawn_195 hl (by decide) rfl (fun ls hl => ?_)
          refine lv_aload_n C.1 C.2.1 dX9_drawn_197 rfl (lv_at hl 1 rfl) ?_
          refine fz_getr C hF hT fz_m0 (j := 47) rfl fl_X9_114 dX9_drawn_198 ?_
          refine lv_aload_n C.1 C.2.1 dX9_drawn_201 rfl (lv_at hl 1 rfl) ?_
          refine fz_getr C hF hT fz_m0 (j := 9) rfl fl_X9_19 dX9_drawn_202 ?_
          refine lv_iload C.1 C.2.1 dX9_drawn_205 (lv_at hl 9 rfl) ?_
          obtain ⟨g14, h⟩ := fz_gd_s h
          refine fz_ia C hF hT fz_m4 g14 dX9_drawn_207 ?_
          refine lv_dup2_11 C.1 C.2.1 dX9_drawn_208 rfl rfl ?_
          obtain ⟨g15, h⟩ := fz_gd_s h
          refine fz_la C hF hT fz_m35 g15 dX9_drawn_209 ?_
          refine lv_lload C.1 C.2.1 dX9_drawn_210 (lv_at hl 0 rfl) ?_
          refine lv_lsub C.1 C.2.1 dX9_drawn_212 ?_
          obtain ⟨g16, h⟩ := fz_gd_s h
          obtain ⟨M17, eM17, h⟩ := fz_bd_s h
          refine fz_las C hF hT fz_m35 g16 dX9_drawn_213 (fun H locs hT => ?_)
          rw [← eM17] at hT
          refine lv_aload_n C.1 C.2.1 dX9_drawn_214 rfl (lv_at hl 1 rfl) ?_
          refine fz_getr C hF hT fz_m0 (j := 47) rfl fl_X9_114 dX9_drawn_215 ?_
          refine lv_aload_n C.1 C.2.1 dX9_drawn_218 rfl (lv_at hl 1 rfl) ?_
          refine fz_getr C hF hT fz_m0 (j := 10) rfl fl_X9_22 dX9_drawn_219 ?_
          refine lv_iload C.1 C.2.1 dX9_drawn_222 (lv_at hl 9 rfl) ?_
          obtain ⟨g18, h⟩ := fz_gd_s h
          refine fz_ia C hF hT fz_m5 g18 dX9_drawn_224 ?_
          refine lv_dup2_11 C.1 C.2.1 dX9_drawn_225 rfl rfl ?_
          obtain ⟨g19, h⟩ := fz_gd_s h
          refine fz_la C hF hT fz_m35 g19 dX9_drawn_226 ?_
          refine lv_lload C.1 C.2.1 dX9_drawn_227 (lv_at hl 0 rfl) ?_
          refine lv_ladd C.1 C.2.1 dX9_drawn_229 ?_
          obtain ⟨g20, h⟩ := fz_gd_s h
          obtain ⟨M21, eM21, h⟩ := fz_bd_s h
          refine fz_las C hF hT fz_m35 g20 dX9_drawn_230 (fun H locs hT => ?_)
          rw [← eM21] at hT
          refine lv_iinc (v := (v9 + 1)) (lv' := [(9, .int (v9 + 1)), (10, .long x13), (0, .ref (G.1 0)), (1, .int v1), (2, .int v2), (3, .int v3), (4, .int v4), (5, .int v5), (6, .long v6), (8, .int v8)]) C.1 C.2.1 dX9_drawn_231 hl (k := 9) rfl rfl (by decide) rfl (fun ls hl => ?_)
          refine lv_goto (tgt := 134) C.1 C.2.1 dX9_drawn_234 (by decide) ?_
          exact hag134 (v9 + 1) M21 _ _ _ hT (lv_sub hl [2, 3, 4, 5, 6, 7, 8, 9, 0] rfl) h
set_option maxHeartbeats 4000000 in
set_option maxRecDepth 100000 in
theorem b_X9_drawn_134 {p : Program} {l : Launch} {e : Env} {s : State} {m : MethodId} {args : Array Value} {below : List Frame} {meth : Method} {c : Code} {G : fz_G}   {ag83 : (Int64 × Int32 × fz_M) → Option (Int64 × fz_M)}  {v1 : Int32} {v2 : Int32} {v3 : Int32} {v4 : Int32} {v5 : Int32} {v6 : Int64} {v8 : Int32} {v9 : Int32} {M : fz_M} {H : Heap} {locs : List Loc} {ls : Array Slot} {r : Int64} {M9 : fz_M} (C : CallFix p m c cX9_drawn 12 s args wsL_law RX9) (hr : meth.sig.returnType = (some .long)) (hlk : meth.locks = false) (hF : fz_F G fz_KM s) (hag83 : ∀ (v6 : Int64) (v8 : Int32) (M : fz_M) (H : Heap) (locs : List Loc) (ls : Array Slot), fz_T G fz_shM fz_KM s M H locs → lv_has ls 12 [(0, .ref (G.1 0)), (1, .int v1), (2, .int v2), (3, .int v3), (4, .int v4), (5, .int v5), (6, .long v6), (8, .int v8)] → ag83 (v6, v8, M) = some (r, M9) → W p l e (fz_rm 2 46) s m args below meth c H locs 0 0 (MQ below (fz_Ql G fz_shM fz_KM r M9) args s 0 0 (fz_Fr G fz_KM)) (F0 m 83 ls [])) (hT : fz_T G fz_shM fz_KM s M H locs) (hl : lv_has ls 12 [(0, .ref (G.1 0)), (1, .int v1), (2, .int v2), (3, .int v3), (4, .int v4), (5, .int v5), (6, .long v6), (8, .int v8), (9, .int v9)]) (h : f_X9_drawn_134 ag83 v1 v2 v3 v4 v5 v6 v8 v9 M = some (r, M9)) : W p l e (fz_rm 2 46) s m args below meth c H locs 0 0 (MQ below (fz_Ql G fz_shM fz_KM r M9) args s 0 0 (fz_Fr G fz_KM)) (F0 m 134 ls []) :=
  b_X9_drawn_134_l C hr hlk hF hag83 fz_fuel v9 M H locs ls hT hl h
set_option maxHeartbeats 4000000 in
set_option maxRecDepth 100000 in
theorem b_X9_drawn_100_l {p : Program} {l : Launch} {e : Env} {s : State} {m : MethodId} {args : Array Value} {below : List Frame} {meth : Method} {c : Code} {G : fz_G}   {ag83 : (Int64 × Int32 × fz_M) → Option (Int64 × fz_M)}  {v1 : Int32} {v2 : Int32} {v3 : Int32} {v4 : Int32} {v5 : Int32} {v6 : Int64} {v8 : Int32}  {r : Int64} {M9 : fz_M} (C : CallFix p m c cX9_drawn 12 s args wsL_law RX9) (hr : meth.sig.returnType = (some .long)) (hlk : meth.locks = false) (hF : fz_F G fz_KM s) (hag83 : ∀ (v6 : Int64) (v8 : Int32) (M : fz_M) (H : Heap) (locs : List Loc) (ls : Array Slot), fz_T G fz_shM fz_KM s M H locs → lv_has ls 12 [(0, .ref (G.1 0)), (1, .int v1), (2, .int v2), (3, .int v3), (4, .int v4), (5, .int v5), (6, .long v6), (8, .int v8)] → ag83 (v6, v8, M) = some (r, M9) → W p l e (fz_rm 2 46) s m args below meth c H locs 0 0 (MQ below (fz_Ql G fz_shM fz_KM r M9) args s 0 0 (fz_Fr G fz_KM)) (F0 m 83 ls [])) : ∀ (n : Nat) (v9 : Int32) (M : fz_M) (H : Heap) (locs : List Loc) (ls : Array Slot), fz_T G fz_shM fz_KM s M H locs → lv_has ls 12 [(0, .ref (G.1 0)), (1, .int v1), (2, .int v2), (3, .int v3), (4, .int v4), (5, .int v5), (6, .long v6), (8, .int v8), (9, .int v9)] → fz_lp (fun ag z => f_X9_drawn_100_s ag83 ag v1 v2 v3 v4 v5 v6 v8 z.1 z.2) n (v9, M) = some (r, M9) → W p l e (fz_rm 2 46) s m args below meth c H locs 0 0 (MQ below (fz_Ql G fz_shM fz_KM r M9) args s 0 0 (fz_Fr G fz_KM)) (F0 m 100 ls []) := by
  intro n
  induction n with
  | zero =>
    intro v9 M H locs ls hT hl h
    cases h
  | succ n ih =>
    intro v9 M H locs ls hT hl h
    have h : f_X9_drawn_100_s ag83 (fz_lp (fun ag z => f_X9_drawn_100_s ag83 ag v1 v2 v3 v4 v5 v6 v8 z.1 z.2) n) v1 v2 v3 v4 v5 v6 v8 v9 M = some (r, M9) := h
    have hag100 := ih
    generalize fz_lp (fun ag z => f_X9_drawn_100_s ag83 ag v1 v2 v3 v4 v5 v6 v8 z.1 z.2) n = ag100 at h hag100
    refine lv_iload C.1 C.2.1 dX9_drawn_100 (lv_at hl 8 rfl) ?_
    refine lv_bipush (v := 6) C.1 C.2.1 dX9_drawn_102 (by decide) ?_
    refine lv_icmp_ge (tgt := 131) C.1 C.2.1 dX9_drawn_104 (by decide) (fun c1 => ?_) (fun c1 => ?_)
    · have h := fz_ip c1 h
      refine lv_iconst (v := 0) C.1 C.2.1 dX9_drawn_131 (by decide) ?_
      refine lv_istore (lv' := [(9, .int 0), (0, .ref (G.1 0)), (1, .int v1), (2, .int v2), (3, .int v3), (4, .int v4), (5, .int v5), (6, .long v6), (8, .int v8)]) C.1 C.2.1 dX9_drawn_132 hl (by decide) rfl (fun ls hl => ?_)
      exact b_X9_drawn_134 C hr hlk hF hag83 hT (lv_sub hl [1, 2, 3, 4, 5, 6, 7, 8, 0] rfl) h
    · have h := fz_iq c1 h
      refine lv_aload_n C.1 C.2.1 dX9_drawn_107 rfl (lv_at hl 0 rfl) ?_
      refine fz_getr C hF hT fz_m0 (j := 47) rfl fl_X9_114 dX9_drawn_108 ?_
      refine lv_iload C.1 C.2.1 dX9_drawn_111 (lv_at hl 8 rfl) ?_
      refine lv_ldc2 (v := 10) C.1 C.2.1 C.2.2.2.1 (C.2.2.2.2 _ (fz_q30 _ (List.mem_of_getElem? (i := 11) rfl))) dX9_drawn_113 ?_
      refine lv_aload_n C.1 C.2.1 dX9_drawn_116 rfl (lv_at hl 0 rfl) ?_
      refine fz_getr C hF hT fz_m0 (j := 46) rfl fl_X9_110 dX9_drawn_117 ?_
      refine lv_iload C.1 C.2.1 dX9_drawn_120 (lv_at hl 8 rfl) ?_
      obtain ⟨g2, h⟩ := fz_gd_s h
      refine fz_la C hF hT fz_m34 g2 dX9_drawn_122 ?_
      refine lv_lmul C.1 C.2.1 dX9_drawn_123 ?_
      obtain ⟨g3, h⟩ := fz_gd_s h
      obtain ⟨M4, eM4, h⟩ := fz_bd_s h
      refine fz_las C hF hT fz_m35 g3 dX9_drawn_124 (fun H locs hT => ?_)
      rw [← eM4] at hT
      refine lv_iinc (v := (v9 + 1)) (lv' := [(9, .int (v9 + 1)), (0, .ref (G.1 0)), (1, .int v1), (2, .int v2), (3, .int v3), (4, .int v4), (5, .int v5), (6, .long v6), (8, .int v8)]) C.1 C.2.1 dX9_drawn_125 hl (k := 8) rfl rfl (by decide) rfl (fun ls hl => ?_)
      refine lv_goto (tgt := 100) C.1 C.2.1 dX9_drawn_128 (by decide) ?_
      exact hag100 (v9 + 1) M4 _ _ _ hT (lv_sub hl [1, 2, 3, 4, 5, 6, 7, 8, 0] rfl) h
set_option maxHeartbeats 4000000 in
set_option maxRecDepth 100000 in
theorem b_X9_drawn_100 {p : Program} {l : Launch} {e : Env} {s : State} {m : MethodId} {args : Array Value} {below : List Frame} {meth : Method} {c : Code} {G : fz_G}   {ag83 : (Int64 × Int32 × fz_M) → Option (Int64 × fz_M)}  {v1 : Int32} {v2 : Int32} {v3 : Int32} {v4 : Int32} {v5 : Int32} {v6 : Int64} {v8 : Int32} {v9 : Int32} {M : fz_M} {H : Heap} {locs : List Loc} {ls : Array Slot} {r : Int64} {M9 : fz_M} (C : CallFix p m c cX9_drawn 12 s args wsL_law RX9) (hr : meth.sig.returnType = (some .long)) (hlk : meth.locks = false) (hF : fz_F G fz_KM s) (hag83 : ∀ (v6 : Int64) (v8 : Int32) (M : fz_M) (H : Heap) (locs : List Loc) (ls : Array Slot), fz_T G fz_shM fz_KM s M H locs → lv_has ls 12 [(0, .ref (G.1 0)), (1, .int v1), (2, .int v2), (3, .int v3), (4, .int v4), (5, .int v5), (6, .long v6), (8, .int v8)] → ag83 (v6, v8, M) = some (r, M9) → W p l e (fz_rm 2 46) s m args below meth c H locs 0 0 (MQ below (fz_Ql G fz_shM fz_KM r M9) args s 0 0 (fz_Fr G fz_KM)) (F0 m 83 ls [])) (hT : fz_T G fz_shM fz_KM s M H locs) (hl : lv_has ls 12 [(0, .ref (G.1 0)), (1, .int v1), (2, .int v2), (3, .int v3), (4, .int v4), (5, .int v5), (6, .long v6), (8, .int v8), (9, .int v9)]) (h : f_X9_drawn_100 ag83 v1 v2 v3 v4 v5 v6 v8 v9 M = some (r, M9)) : W p l e (fz_rm 2 46) s m args below meth c H locs 0 0 (MQ below (fz_Ql G fz_shM fz_KM r M9) args s 0 0 (fz_Fr G fz_KM)) (F0 m 100 ls []) :=
  b_X9_drawn_100_l C hr hlk hF hag83 fz_fuel v9 M H locs ls hT hl h
set_option maxHeartbeats 4000000 in
set_option maxRecDepth 100000 in
theorem b_X9_drawn_83_l {p : Program} {l : Launch} {e : Env} {s : State} {m : MethodId} {args : Array Value} {below : List Frame} {meth : Method} {c : Code} {G : fz_G}     {v1 : Int32} {v2 : Int32} {v3 : Int32} {v4 : Int32} {v5 : Int32}  {r : Int64} {M9 : fz_M} (C : CallFix p m c cX9_drawn 12 s args wsL_law RX9) (hr : meth.sig.returnType = (some .long)) (hlk : meth.locks = false) (hF : fz_F G fz_KM s)  : ∀ (n : Nat) (v6 : Int64) (v8 : Int32) (M : fz_M) (H : Heap) (locs : List Loc) (ls : Array Slot), fz_T G fz_shM fz_KM s M H locs → lv_has ls 12 [(0, .ref (G.1 0)), (1, .int v1), (2, .int v2), (3, .int v3), (4, .int v4), (5, .int v5), (6, .long v6), (8, .int v8)] → fz_lp (fun ag z => f_X9_drawn_83_s ag v1 v2 v3 v4 v5 z.1 z.2.1 z.2.2) n (v6, v8, M) = some (r, M9) → W p l e (fz_rm 2 46) s m args below meth c H locs 0 0 (MQ below (fz_Ql G fz_shM fz_KM r M9) args s 0 0 (fz_Fr G fz_KM)) (F0 m 83 ls []) := by
  intro n
  induction n with
  | zero =>
    intro v6 v8 M H locs ls hT hl h
    cases h
  | succ n ih =>
    intro v6 v8 M H locs ls hT hl h
    have h : f_X9_drawn_83_s (fz_lp (fun ag z => f_X9_drawn_83_s ag v1 v2 v3 v4 v5 z.1 z.2.1 z.2.2) n) v1 v2 v3 v4 v5 v6 v8 M = some (r, M9) := h
    have hag83 := ih
    generalize fz_lp (fun ag z => f_X9_drawn_83_s ag v1 v2 v3 v4 v5 z.1 z.2.1 z.2.2) n = ag83 at h hag83
    refine lv_iload C.1 C.2.1 dX9_drawn_83 (lv_at hl 7 rfl) ?_
    refine lv_iload_n C.1 C.2.1 dX9_drawn_85 rfl (lv_at hl 3 rfl) ?_
    refine lv_icmp_ge (tgt := 273) C.1 C.2.1 dX9_drawn_86 (by decide) (fun c1 => ?_) (fun c1 => ?_)
    · have h := fz_ip c1 h
      refine lv_aload_n C.1 C.2.1 dX9_drawn_273 rfl (lv_at hl 0 rfl) ?_
      refine fz_getr C hF hT fz_m0 (j := 46) rfl fl_X9_110 dX9_drawn_274 ?_
      refine lv_iload C.1 C.2.1 dX9_drawn_277 (lv_at hl 4 rfl) ?_
      obtain ⟨g2, h⟩ := fz_gd_s h
      refine fz_la C hF hT fz_m34 g2 dX9_drawn_279 ?_
      refine lv_lload C.1 C.2.1 dX9_drawn_280 (lv_at hl 6 rfl) ?_
      obtain ⟨r3, w5, h⟩ := fz_b1_s h
      refine fz_cl hT (fz_runS (np := 2) (rest := []) C hF hT (c_X9_divisor l G (fz_gl M 34 v4) v6 M r3 w5) cl_X9_257 rfl hl.1 rfl (Nat.le_of_ble_eq_true rfl) ⟨Nat.le_of_ble_eq_true rfl, Nat.le_of_ble_eq_true rfl, Nat.zero_le _, Nat.zero_le _⟩ dX9_drawn_282) (fun H locs hT => ?_)
      refine lv_lstore (lv' := [(8, .long r3), (0, .ref (G.1 0)), (1, .int v1), (2, .int v2), (3, .int v3), (4, .int v4), (5, .int v5), (6, .long v6)]) C.1 C.2.1 dX9_drawn_285 hl (by decide) rfl (fun ls hl => ?_)
      refine lv_iload C.1 C.2.1 dX9_drawn_287 (lv_at hl 6 rfl) ?_
      refine lv_if_eq (tgt := 305) C.1 C.2.1 dX9_drawn_289 (by decide) (fun c6 => ?_) (fun c6 => ?_)
      · have h := fz_ip c6 h
        refine lv_lload C.1 C.2.1 dX9_drawn_305 (lv_at hl 7 rfl) ?_
        refine lv_lload C.1 C.2.1 dX9_drawn_307 (lv_at hl 0 rfl) ?_
        obtain ⟨g7, h⟩ := fz_gd_s h
        refine lv_ldiv C.1 C.2.1 dX9_drawn_309 (fz_nzl_s g7) ?_
        cases h
        exact fz_retl C hr hlk hT dX9_drawn_310
      · have h := fz_iq c6 h
        refine lv_aload_n C.1 C.2.1 dX9_drawn_292 rfl (lv_at hl 1 rfl) ?_
        refine fz_getr C hF hT fz_m0 (j := 46) rfl fl_X9_110 dX9_drawn_293 ?_
        refine lv_iload C.1 C.2.1 dX9_drawn_296 (lv_at hl 5 rfl) ?_
        obtain ⟨g8, h⟩ := fz_gd_s h
        refine fz_la C hF hT fz_m34 g8 dX9_drawn_298 ?_
        refine lv_lload C.1 C.2.1 dX9_drawn_299 (lv_at hl 0 rfl) ?_
        obtain ⟨g9, h⟩ := fz_gd_s h
        refine lv_ldiv C.1 C.2.1 dX9_drawn_301 (fz_nzl_s g9) ?_
        refine lv_goto (tgt := 310) C.1 C.2.1 dX9_drawn_302 (by decide) ?_
        cases h
        exact fz_retl C hr hlk hT dX9_drawn_310
    · have h := fz_iq c1 h
      refine lv_lload C.1 C.2.1 dX9_drawn_89 (lv_at hl 6 rfl) ?_
      refine lv_ldc2 (v := 10) C.1 C.2.1 C.2.2.2.1 (C.2.2.2.2 _ (fz_q30 _ (List.mem_of_getElem? (i := 11) rfl))) dX9_drawn_91 ?_
      refine lv_lmul C.1 C.2.1 dX9_drawn_94 ?_
      obtain ⟨x10, ex10, h⟩ := fz_bd_s h
      refine fz_nml ex10 ?_
      refine lv_lstore (lv' := [(6, .long x10), (0, .ref (G.1 0)), (1, .int v1), (2, .int v2), (3, .int v3), (4, .int v4), (5, .int v5), (8, .int v8)]) C.1 C.2.1 dX9_drawn_95 hl (by decide) rfl (fun ls hl => ?_)
      refine lv_iconst (v := 0) C.1 C.2.1 dX9_drawn_97 (by decide) ?_
      refine lv_istore (lv' := [(9, .int 0), (6, .long x10), (0, .ref (G.1 0)), (1, .int v1), (2, .int v2), (3, .int v3), (4, .int v4), (5, .int v5), (8, .int v8)]) C.1 C.2.1 dX9_drawn_98 hl (by decide) rfl (fun ls hl => ?_)
      exact b_X9_drawn_100 C hr hlk hF hag83 hT (lv_sub hl [2, 3, 4, 5, 6, 7, 1, 8, 0] rfl) h
set_option maxHeartbeats 4000000 in
set_option maxRecDepth 100000 in
theorem b_X9_drawn_83 {p : Program} {l : Launch} {e : Env} {s : State} {m : MethodId} {args : Array Value} {below : List Frame} {meth : Method} {c : Code} {G : fz_G}     {v1 : Int32} {v2 : Int32} {v3 : Int32} {v4 : Int32} {v5 : Int32} {v6 : Int64} {v8 : Int32} {M : fz_M} {H : Heap} {locs : List Loc} {ls : Array Slot} {r : Int64} {M9 : fz_M} (C : CallFix p m c cX9_drawn 12 s args wsL_law RX9) (hr : meth.sig.returnType = (some .long)) (hlk : meth.locks = false) (hF : fz_F G fz_KM s)  (hT : fz_T G fz_shM fz_KM s M H locs) (hl : lv_has ls 12 [(0, .ref (G.1 0)), (1, .int v1), (2, .int v2), (3, .int v3), (4, .int v4), (5, .int v5), (6, .long v6), (8, .int v8)]) (h : f_X9_drawn_83 v1 v2 v3 v4 v5 v6 v8 M = some (r, M9)) : W p l e (fz_rm 2 46) s m args below meth c H locs 0 0 (MQ below (fz_Ql G fz_shM fz_KM r M9) args s 0 0 (fz_Fr G fz_KM)) (F0 m 83 ls []) :=
  b_X9_drawn_83_l C hr hlk hF fz_fuel v6 v8 M H locs ls hT hl h
set_option maxHeartbeats 4000000 in
set_option maxRecDepth 100000 in
theorem b_X9_drawn_70 {p : Program} {l : Launch} {e : Env} {s : State} {m : MethodId} {args : Array Value} {below : List Frame} {meth : Method} {c : Code} {G : fz_G}   {ag41 : (Int32 × fz_M) → Option (Int64 × fz_M)}  {v1 : Int32} {v2 : Int32} {v3 : Int32} {v4 : Int32} {v5 : Int32} {v6 : Int32} {s1 : Int32} {s2 : Int64} {M : fz_M} {H : Heap} {locs : List Loc} {ls : Array Slot} {r : Int64} {M9 : fz_M} (C : CallFix p m c cX9_drawn 12 s args wsL_law RX9) (hr : meth.sig.returnType = (some .long)) (hlk : meth.locks = false) (hF : fz_F G fz_KM s) (hag41 : ∀ (v6 : Int32) (M : fz_M) (H : Heap) (locs : List Loc) (ls : Array Slot), fz_T G fz_shM fz_KM s M H locs → lv_has ls 12 [(0, .ref (G.1 0)), (1, .int v1), (2, .int v2), (3, .int v3), (4, .int v4), (5, .int v5), (6, .int v6)] → ag41 (v6, M) = some (r, M9) → W p l e (fz_rm 2 46) s m args below meth c H locs 0 0 (MQ below (fz_Ql G fz_shM fz_KM r M9) args s 0 0 (fz_Fr G fz_KM)) (F0 m 41 ls [])) (hT : fz_T G fz_shM fz_KM s M H locs) (hl : lv_has ls 12 [(0, .ref (G.1 0)), (1, .int v1), (2, .int v2), (3, .int v3), (4, .int v4), (5, .int v5), (6, .int v6)]) (h : f_X9_drawn_70 ag41 v1 v2 v3 v4 v5 v6 s1 s2 M = some (r, M9)) : W p l e (fz_rm 2 46) s m args below meth c H locs 0 0 (MQ below (fz_Ql G fz_shM fz_KM r M9) args s 0 0 (fz_Fr G fz_KM)) (F0 m 70 ls [.long s2, .int s1, .ref (G.1 34)]) := by
  obtain ⟨g1, h⟩ := fz_gd_s h
  obtain ⟨M2, eM2, h⟩ := fz_bd_s h
  refine fz_las C hF hT fz_m34 g1 dX9_drawn_70 (fun H locs hT => ?_)
  rw [← eM2] at hT
  refine lv_iinc (v := (v6 + 1)) (lv' := [(6, .int (v6 + 1)), (0, .ref (G.1 0)), (1, .int v1), (2, .int v2), (3, .int v3), (4, .int v4), (5, .int v5)]) C.1 C.2.1 dX9_drawn_71 hl (k := 6) rfl rfl (by decide) rfl (fun ls hl => ?_)
  refine lv_goto (tgt := 41) C.1 C.2.1 dX9_drawn_74 (by decide) ?_
  exact hag41 (v6 + 1) M2 _ _ _ hT (lv_sub hl [1, 2, 3, 4, 5, 6, 0] rfl) h
set_option maxHeartbeats 4000000 in
set_option maxRecDepth 100000 in
theorem b_X9_drawn_41_l {p : Program} {l : Launch} {e : Env} {s : State} {m : MethodId} {args : Array Value} {below : List Frame} {meth : Method} {c : Code} {G : fz_G}     {v1 : Int32} {v2 : Int32} {v3 : Int32} {v4 : Int32} {v5 : Int32}  {r : Int64} {M9 : fz_M} (C : CallFix p m c cX9_drawn 12 s args wsL_law RX9) (hr : meth.sig.returnType = (some .long)) (hlk : meth.locks = false) (hF : fz_F G fz_KM s)  : ∀ (n : Nat) (v6 : Int32) (M : fz_M) (H : Heap) (locs : List Loc) (ls : Array Slot), fz_T G fz_shM fz_KM s M H locs → lv_has ls 12 [(0, .ref (G.1 0)), (1, .int v1), (2, .int v2), (3, .int v3), (4, .int v4), (5, .int v5), (6, .int v6)] → fz_lp (fun ag z => f_X9_drawn_41_s ag v1 v2 v3 v4 v5 z.1 z.2) n (v6, M) = some (r, M9) → W p l e (fz_rm 2 46) s m args below meth c H locs 0 0 (MQ below (fz_Ql G fz_shM fz_KM r M9) args s 0 0 (fz_Fr G fz_KM)) (F0 m 41 ls []) := by
  intro n
  induction n with
  | zero =>
    intro v6 M H locs ls hT hl h
    cases h
  | succ n ih =>
    intro v6 M H locs ls hT hl h
    have h : f_X9_drawn_41_s (fz_lp (fun ag z => f_X9_drawn_41_s ag v1 v2 v3 v4 v5 z.1 z.2) n) v1 v2 v3 v4 v5 v6 M = some (r, M9) := h
    have hag41 := ih
    generalize fz_lp (fun ag z => f_X9_drawn_41_s ag v1 v2 v3 v4 v5 z.1 z.2) n = ag41 at h hag41
    refine lv_iload C.1 C.2.1 dX9_drawn_41 (lv_at hl 6 rfl) ?_
    refine lv_bipush (v := 6) C.1 C.2.1 dX9_drawn_43 (by decide) ?_
    refine lv_icmp_ge (tgt := 77) C.1 C.2.1 dX9_drawn_45 (by decide) (fun c1 => ?_) (fun c1 => ?_)
    · have h := fz_ip c1 h
      refine lv_lconst (v := 1) C.1 C.2.1 dX9_drawn_77 (by decide) ?_
      refine lv_lstore (lv' := [(6, .long 1), (0, .ref (G.1 0)), (1, .int v1), (2, .int v2), (3, .int v3), (4, .int v4), (5, .int v5)]) C.1 C.2.1 dX9_drawn_78 hl (by decide) rfl (fun ls hl => ?_)
      refine lv_iconst (v := 0) C.1 C.2.1 dX9_drawn_80 (by decide) ?_
      refine lv_istore (lv' := [(8, .int 0), (6, .long 1), (0, .ref (G.1 0)), (1, .int v1), (2, .int v2), (3, .int v3), (4, .int v4), (5, .int v5)]) C.1 C.2.1 dX9_drawn_81 hl (by decide) rfl (fun ls hl => ?_)
      exact b_X9_drawn_83 C hr hlk hF hT (lv_sub hl [2, 3, 4, 5, 6, 7, 1, 0] rfl) h
    · have h := fz_iq c1 h
      refine lv_aload_n C.1 C.2.1 dX9_drawn_48 rfl (lv_at hl 0 rfl) ?_
      refine fz_getr C hF hT fz_m0 (j := 46) rfl fl_X9_110 dX9_drawn_49 ?_
      refine lv_iload C.1 C.2.1 dX9_drawn_52 (lv_at hl 6 rfl) ?_
      refine lv_iload C.1 C.2.1 dX9_drawn_54 (lv_at hl 6 rfl) ?_
      refine lv_aload_n C.1 C.2.1 dX9_drawn_56 rfl (lv_at hl 0 rfl) ?_
      refine fz_getr C hF hT fz_m0 (j := 16) rfl fl_X9_41 dX9_drawn_57 ?_
      refine lv_iload_n C.1 C.2.1 dX9_drawn_60 rfl (lv_at hl 1 rfl) ?_
      obtain ⟨g2, h⟩ := fz_gd_s h
      refine fz_ia C hF hT fz_m11 g2 dX9_drawn_61 ?_
      refine lv_icmp_ne (tgt := 69) C.1 C.2.1 dX9_drawn_62 (by decide) (fun c3 => ?_) (fun c3 => ?_)
      · have h := fz_ip c3 h
        refine lv_lconst (v := 0) C.1 C.2.1 dX9_drawn_69 (by decide) ?_
        exact b_X9_drawn_70 C hr hlk hF hag41 hT (lv_sub hl [0, 1, 2, 3, 4, 5, 6] rfl) h
      · have h := fz_iq (not_not_intro c3) h
        refine lv_lconst (v := 1) C.1 C.2.1 dX9_drawn_65 (by decide) ?_
        refine lv_goto (tgt := 70) C.1 C.2.1 dX9_drawn_66 (by decide) ?_
        exact b_X9_drawn_70 C hr hlk hF hag41 hT (lv_sub hl [0, 1, 2, 3, 4, 5, 6] rfl) h
set_option maxHeartbeats 4000000 in
set_option maxRecDepth 100000 in
theorem b_X9_drawn_41 {p : Program} {l : Launch} {e : Env} {s : State} {m : MethodId} {args : Array Value} {below : List Frame} {meth : Method} {c : Code} {G : fz_G}     {v1 : Int32} {v2 : Int32} {v3 : Int32} {v4 : Int32} {v5 : Int32} {v6 : Int32} {M : fz_M} {H : Heap} {locs : List Loc} {ls : Array Slot} {r : Int64} {M9 : fz_M} (C : CallFix p m c cX9_drawn 12 s args wsL_law RX9) (hr : meth.sig.returnType = (some .long)) (hlk : meth.locks = false) (hF : fz_F G fz_KM s)  (hT : fz_T G fz_shM fz_KM s M H locs) (hl : lv_has ls 12 [(0, .ref (G.1 0)), (1, .int v1), (2, .int v2), (3, .int v3), (4, .int v4), (5, .int v5), (6, .int v6)]) (h : f_X9_drawn_41 v1 v2 v3 v4 v5 v6 M = some (r, M9)) : W p l e (fz_rm 2 46) s m args below meth c H locs 0 0 (MQ below (fz_Ql G fz_shM fz_KM r M9) args s 0 0 (fz_Fr G fz_KM)) (F0 m 41 ls []) :=
  b_X9_drawn_41_l C hr hlk hF fz_fuel v6 M H locs ls hT hl h
set_option maxHeartbeats 4000000 in
set_option maxRecDepth 100000 in
theorem b_X9_drawn_0 {p : Program} {l : Launch} {e : Env} {s : State} {m : MethodId} {args : Array Value} {below : List Frame} {meth : Method} {c : Code} {G : fz_G}     {v1 : Int32} {v2 : Int32} {v3 : Int32} {v4 : Int32} {v5 : Int32} {M : fz_M} {H : Heap} {locs : List Loc} {ls : Array Slot} {r : Int64} {M9 : fz_M} (C : CallFix p m c cX9_drawn 12 s args wsL_law RX9) (hr : meth.sig.returnType = (some .long)) (hlk : meth.locks = false) (hF : fz_F G fz_KM s)  (hT : fz_T G fz_shM fz_KM s M H locs) (hl : lv_has ls 12 [(0, .ref (G.1 0)), (1, .int v1), (2, .int v2), (3, .int v3), (4, .int v4), (5, .int v5)]) (h : f_X9_drawn v1 v2 v3 v4 v5 M = some (r, M9)) : W p l e (fz_rm 2 46) s m args below meth c H locs 0 0 (MQ below (fz_Ql G fz_shM fz_KM r M9) args s 0 0 (fz_Fr G fz_KM)) (F0 m 0 ls []) := by
  refine lv_aload_n C.1 C.2.1 dX9_drawn_0 rfl (lv_at hl 0 rfl) ?_
  refine lv_iconst (v := 0) C.1 C.2.1 dX9_drawn_1 (by decide) ?_
  obtain ⟨M1, eM1, h⟩ := fz_bd_s h
  refine fz_puti C hF hT fz_m0 (j := 0) rfl fw_X9_117 dX9_drawn_2 (fun H locs hT => ?_)
  rw [← eM1] at hT
  refine lv_aload_n C.1 C.2.1 dX9_drawn_5 rfl (lv_at hl 0 rfl) ?_
  refine lv_iload_n C.1 C.2.1 dX9_drawn_6 rfl (lv_at hl 1 rfl) ?_
  obtain ⟨r2, w4, h⟩ := fz_b1_s h
  refine fz_ci hT (fz_runV (np := 1) (rest := []) C hF hT (c_X9_noPiece l G v1 M1 r2 w4) fz_m0 (T := TX9) (N := 49) rfl cl_X9_203 rfl hl.1 rfl (Nat.le_of_ble_eq_true rfl) ⟨Nat.le_of_ble_eq_true rfl, Nat.le_of_ble_eq_true rfl, Nat.zero_le _, Nat.zero_le _⟩ dX9_drawn_7) (fun H locs hT => ?_)
  refine lv_if_ne (tgt := 22) C.1 C.2.1 dX9_drawn_10 (by decide) (fun c5 => ?_) (fun c5 => ?_)
  · have h := fz_ip c5 h
    exact b_X9_drawn_22 C hr hlk hF hT (lv_sub hl [] rfl) h
  · have h := fz_iq (not_not_intro c5) h
    refine lv_aload_n C.1 C.2.1 dX9_drawn_13 rfl (lv_at hl 0 rfl) ?_
    refine lv_iload C.1 C.2.1 dX9_drawn_14 (lv_at hl 4 rfl) ?_
    obtain ⟨r6, w8, h⟩ := fz_b1_s h
    refine fz_ci hT (fz_runV (np := 1) (rest := []) C hF hT (c_X9_noHouse l G v4 M1 r6 w8) fz_m0 (T := TX9) (N := 49) rfl cl_X9_200 rfl hl.1 rfl (Nat.le_of_ble_eq_true rfl) ⟨Nat.le_of_ble_eq_true rfl, Nat.le_of_ble_eq_true rfl, Nat.zero_le _, Nat.zero_le _⟩ dX9_drawn_16) (fun H locs hT => ?_)
    refine lv_if_eq (tgt := 26) C.1 C.2.1 dX9_drawn_19 (by decide) (fun c9 => ?_) (fun c9 => ?_)
    · have h := fz_ip c9 h
      refine lv_iload_n C.1 C.2.1 dX9_drawn_26 rfl (lv_at hl 2 rfl) ?_
      refine lv_iload_n C.1 C.2.1 dX9_drawn_27 rfl (lv_at hl 3 rfl) ?_
      obtain ⟨r10, w12, h⟩ := fz_b1_s h
      refine fz_ci hT (fz_runS (np := 2) (rest := []) C hF hT (c_X9_noFlood l G v2 v3 M1 r10 w12) cl_X9_231 rfl hl.1 rfl (Nat.le_of_ble_eq_true rfl) ⟨Nat.le_of_ble_eq_true rfl, Nat.le_of_ble_eq_true rfl, Nat.zero_le _, Nat.zero_le _⟩ dX9_drawn_28) (fun H locs hT => ?_)
      refine lv_if_eq (tgt := 38) C.1 C.2.1 dX9_drawn_31 (by decide) (fun c13 => ?_) (fun c13 => ?_)
      · have h := fz_ip c13 h
        refine lv_iconst (v := 0) C.1 C.2.1 dX9_drawn_38 (by decide) ?_
        refine lv_istore (lv' := [(6, .int 0), (0, .ref (G.1 0)), (1, .int v1), (2, .int v2), (3, .int v3), (4, .int v4), (5, .int v5)]) C.1 C.2.1 dX9_drawn_39 hl (by decide) rfl (fun ls hl => ?_)
        exact b_X9_drawn_41 C hr hlk hF hT (lv_sub hl [1, 2, 3, 4, 5, 6, 0] rfl) h
      · have h := fz_iq c13 h
        refine lv_ldc2 (v := (-2)) C.1 C.2.1 C.2.2.2.1 (C.2.2.2.2 _ (fz_q30 _ (List.mem_of_getElem? (i := 10) rfl))) dX9_drawn_34 ?_
        cases h
        exact fz_retl C hr hlk hT dX9_drawn_37
    · have h := fz_iq c9 h
      exact b_X9_drawn_22 C hr hlk hF hT (lv_sub hl [] rfl) h
set_option maxRecDepth 100000 in
theorem c_X9_drawn (l : Launch) (G : fz_G)  (a0 : Int32) (a1 : Int32) (a2 : Int32) (a3 : Int32) (a4 : Int32) (M : fz_M) (r : Int64) (M9 : fz_M) (h : f_X9_drawn a0 a1 a2 a3 a4 M = some (r, M9)) : fz_Me l yX9_drawn cX9_drawn 12 (some .long) 2 46 G fz_shM fz_KM [.ref (G.1 0), .int a0, .int a1, .int a2, .int a3, .int a4] M (fz_Ql G fz_shM fz_KM r M9) := by
  refine fz_body (by decide) (Nat.le_of_ble_eq_true rfl) ?_
  intro p e s m args below meth c H locs ls C hr hlk hF hT hl
  have C : CallFix p m c cX9_drawn 12 s args wsL_law RX9 := C
  have hl : lv_has ls 12 [(0, .ref (G.1 0)), (1, .int a0), (2, .int a1), (3, .int a2), (4, .int a3), (5, .int a4)] := hl
  exact b_X9_drawn_0 C hr hlk hF hT (lv_sub hl [0, 1, 2, 3, 4, 5] rfl) h
set_option maxHeartbeats 4000000 in
set_option maxRecDepth 100000 in
theorem b_X9_goesFrom_17_l {p : Program} {l : Launch} {e : Env} {s : State} {m : MethodId} {args : Array Value} {below : List Frame} {meth : Method} {c : Code} {G : fz_G}     {v1 : Int32} {M : fz_M} {r : Int32} {M9 : fz_M} (C : CallFix p m c cX9_goesFrom 4 s args wsL_law RX9) (hr : meth.sig.returnType = (some .int)) (hlk : meth.locks = false) (hF : fz_F G fz_KM s)  : ∀ (n : Nat) (v2 : Int32) (H : Heap) (locs : List Loc) (ls : Array Slot), fz_T G fz_shM fz_KM s M H locs → lv_has ls 4 [(0, .ref (G.1 0)), (1, .int v1), (2, .int v2)] → fz_lp (fun ag z => f_X9_goesFrom_17_s ag v1 z M) n v2 = some (r, M9) → W p l e (fz_rm 2 46) s m args below meth c H locs 0 0 (MQ below (fz_Qi G fz_shM fz_KM r M9) args s 0 0 (fz_Fr G fz_KM)) (F0 m 17 ls []) := by
  intro n
  induction n with
  | zero =>
    intro v2 H locs ls hT hl h
    cases h
  | succ n ih =>
    intro v2 H locs ls hT hl h
    have h : f_X9_goesFrom_17_s (fz_lp (fun ag z => f_X9_goesFrom_17_s ag v1 z M) n) v1 v2 M = some (r, M9) := h
    have hag17 := ih
    generalize fz_lp (fun ag z => f_X9_goesFrom_17_s ag v1 z M) n = ag17 at h hag17
    refine lv_iload_n C.1 C.2.1 dX9_goesFrom_17 rfl (lv_at hl 2 rfl) ?_
    refine lv_bipush (v := 20) C.1 C.2.1 dX9_goesFrom_18 (by decide) ?_
    refine lv_icmp_ge (tgt := 87) C.1 C.2.1 dX9_goesFrom_20 (by decide) (fun c1 => ?_) (fun c1 => ?_)
    · have h := fz_ip c1 h
      refine lv_bipush (v := (-9)) C.1 C.2.1 dX9_goesFrom_87 (by decide) ?_
      cases h
      exact fz_reti C hr hlk hT dX9_goesFrom_89
    · have h := fz_iq c1 h
      refine lv_aload_n C.1 C.2.1 dX9_goesFrom_23 rfl (lv_at hl 0 rfl) ?_
      refine lv_aload_n C.1 C.2.1 dX9_goesFrom_24 rfl (lv_at hl 0 rfl) ?_
      refine fz_getr C hF hT fz_m0 (j := 16) rfl fl_X9_41 dX9_goesFrom_25 ?_
      refine lv_iload_n C.1 C.2.1 dX9_goesFrom_28 rfl (lv_at hl 1 rfl) ?_
      obtain ⟨g2, h⟩ := fz_gd_s h
      refine fz_ia C hF hT fz_m11 g2 dX9_goesFrom_29 ?_
      obtain ⟨r3, w5, h⟩ := fz_b1_s h
      refine fz_ci hT (fz_runV (np := 1) (rest := []) C hF hT (c_X9_strongest l G (fz_g M 11 v1) M r3 w5) fz_m0 (T := TX9) (N := 49) rfl cl_X9_212 rfl hl.1 rfl (Nat.le_of_ble_eq_true rfl) ⟨Nat.le_of_ble_eq_true rfl, Nat.le_of_ble_eq_true rfl, Nat.zero_le _, Nat.zero_le _⟩ dX9_goesFrom_30) (fun H locs hT => ?_)
      refine lv_bipush (v := (-9)) C.1 C.2.1 dX9_goesFrom_33 (by decide) ?_
      refine lv_icmp_eq (tgt := 87) C.1 C.2.1 dX9_goesFrom_35 (by decide) (fun c6 => ?_) (fun c6 => ?_)
      · have h := fz_ip c6 h
        refine lv_bipush (v := (-9)) C.1 C.2.1 dX9_goesFrom_87 (by decide) ?_
        cases h
        exact fz_reti C hr hlk hT dX9_goesFrom_89
      · have h := fz_iq c6 h
        refine lv_aload_n C.1 C.2.1 dX9_goesFrom_38 rfl (lv_at hl 0 rfl) ?_
        refine lv_aload_n C.1 C.2.1 dX9_goesFrom_39 rfl (lv_at hl 0 rfl) ?_
        refine fz_getr C hF hT fz_m0 (j := 16) rfl fl_X9_41 dX9_goesFrom_40 ?_
        refine lv_iload_n C.1 C.2.1 dX9_goesFrom_43 rfl (lv_at hl 1 rfl) ?_
        obtain ⟨g7, h⟩ := fz_gd_s h
        refine fz_ia C hF hT fz_m11 g7 dX9_goesFrom_44 ?_
        refine lv_iload_n C.1 C.2.1 dX9_goesFrom_45 rfl (lv_at hl 2 rfl) ?_
        obtain ⟨r8, w10, h⟩ := fz_b1_s h
        refine fz_ci hT (fz_runV (np := 2) (rest := []) C hF hT (c_X9_depth l G (fz_g M 11 v1) v2 M r8 w10) fz_m0 (T := TX9) (N := 49) rfl cl_X9_206 rfl hl.1 rfl (Nat.le_of_ble_eq_true rfl) ⟨Nat.le_of_ble_eq_true rfl, Nat.le_of_ble_eq_true rfl, Nat.zero_le _, Nat.zero_le _⟩ dX9_goesFrom_46) (fun H locs hT => ?_)
        refine lv_istore_n (lv' := [(3, .int r8), (0, .ref (G.1 0)), (1, .int v1), (2, .int v2)]) C.1 C.2.1 dX9_goesFrom_49 rfl hl (by decide) rfl (fun ls hl => ?_)
        refine lv_iload_n C.1 C.2.1 dX9_goesFrom_50 rfl (lv_at hl 0 rfl) ?_
        refine lv_aload_n C.1 C.2.1 dX9_goesFrom_51 rfl (lv_at hl 1 rfl) ?_
        refine fz_getr C hF hT fz_m0 (j := 15) rfl fl_X9_38 dX9_goesFrom_52 ?_
        refine lv_iload_n C.1 C.2.1 dX9_goesFrom_55 rfl (lv_at hl 2 rfl) ?_
        obtain ⟨g11, h⟩ := fz_gd_s h
        refine fz_ia C hF hT fz_m10 g11 dX9_goesFrom_56 ?_
        refine lv_icmp_lt (tgt := 81) C.1 C.2.1 dX9_goesFrom_57 (by decide) (fun c12 => ?_) (fun c12 => ?_)
        · have h := fz_ip c12 h
          refine lv_iinc (v := (v2 + 1)) (lv' := [(2, .int (v2 + 1)), (3, .int r8), (0, .ref (G.1 0)), (1, .int v1)]) C.1 C.2.1 dX9_goesFrom_81 hl (k := 3) rfl rfl (by decide) rfl (fun ls hl => ?_)
          refine lv_goto (tgt := 17) C.1 C.2.1 dX9_goesFrom_84 (by decide) ?_
          exact hag17 (v2 + 1) _ _ _ hT (lv_sub hl [2, 3, 0] rfl) h
        · have h := fz_iq c12 h
          refine lv_aload_n C.1 C.2.1 dX9_goesFrom_60 rfl (lv_at hl 1 rfl) ?_
          refine fz_getr C hF hT fz_m0 (j := 17) rfl fl_X9_44 dX9_goesFrom_61 ?_
          refine lv_iload_n C.1 C.2.1 dX9_goesFrom_64 rfl (lv_at hl 2 rfl) ?_
          obtain ⟨g13, h⟩ := fz_gd_s h
          refine fz_ia C hF hT fz_m12 g13 dX9_goesFrom_65 ?_
          refine lv_if_eq (tgt := 79) C.1 C.2.1 dX9_goesFrom_66 (by decide) (fun c14 => ?_) (fun c14 => ?_)
          · have h := fz_ip c14 h
            refine lv_iload_n C.1 C.2.1 dX9_goesFrom_79 rfl (lv_at hl 3 rfl) ?_
            cases h
            exact fz_reti C hr hlk hT dX9_goesFrom_80
          · have h := fz_iq c14 h
            refine lv_aload_n C.1 C.2.1 dX9_goesFrom_69 rfl (lv_at hl 1 rfl) ?_
            refine fz_getr C hF hT fz_m0 (j := 17) rfl fl_X9_44 dX9_goesFrom_70 ?_
            refine lv_iload_n C.1 C.2.1 dX9_goesFrom_73 rfl (lv_at hl 2 rfl) ?_
            obtain ⟨g15, h⟩ := fz_gd_s h
            refine fz_ia C hF hT fz_m12 g15 dX9_goesFrom_74 ?_
            refine lv_iload_n C.1 C.2.1 dX9_goesFrom_75 rfl (lv_at hl 0 rfl) ?_
            refine lv_icmp_ge (tgt := 81) C.1 C.2.1 dX9_goesFrom_76 (by decide) (fun c16 => ?_) (fun c16 => ?_)
            · have h := fz_ip c16 h
              refine lv_iinc (v := (v2 + 1)) (lv' := [(2, .int (v2 + 1)), (3, .int r8), (0, .ref (G.1 0)), (1, .int v1)]) C.1 C.2.1 dX9_goesFrom_81 hl (k := 3) rfl rfl (by decide) rfl (fun ls hl => ?_)
              refine lv_goto (tgt := 17) C.1 C.2.1 dX9_goesFrom_84 (by decide) ?_
              exact hag17 (v2 + 1) _ _ _ hT (lv_sub hl [2, 3, 0] rfl) h
            · have h := fz_iq c16 h
              refine lv_iload_n C.1 C.2.1 dX9_goesFrom_79 rfl (lv_at hl 3 rfl) ?_
              cases h
              exact fz_reti C hr hlk hT dX9_goesFrom_80
set_option maxHeartbeats 4000000 in
set_option maxRecDepth 100000 in
theorem b_X9_goesFrom_17 {p : Program} {l : Launch} {e : Env} {s : State} {m : MethodId} {args : Array Value} {below : List Frame} {meth : Method} {c : Code} {G : fz_G}     {v1 : Int32} {v2 : Int32} {M : fz_M} {H : Heap} {locs : List Loc} {ls : Array Slot} {r : Int32} {M9 : fz_M} (C : CallFix p m c cX9_goesFrom 4 s args wsL_law RX9) (hr : meth.sig.returnType = (some .int)) (hlk : meth.locks = false) (hF : fz_F G fz_KM s)  (hT : fz_T G fz_shM fz_KM s M H locs) (hl : lv_has ls 4 [(0, .ref (G.1 0)), (1, .int v1), (2, .int v2)]) (h : f_X9_goesFrom_17 v1 v2 M = some (r, M9)) : W p l e (fz_rm 2 46) s m args below meth c H locs 0 0 (MQ below (fz_Qi G fz_shM fz_KM r M9) args s 0 0 (fz_Fr G fz_KM)) (F0 m 17 ls []) :=
  b_X9_goesFrom_17_l C hr hlk hF fz_fuel v2 H locs ls hT hl h
set_option maxHeartbeats 4000000 in
set_option maxRecDepth 100000 in
theorem b_X9_goesFrom_0 {p : Program} {l : Launch} {e : Env} {s : State} {m : MethodId} {args : Array Value} {below : List Frame} {meth : Method} {c : Code} {G : fz_G}     {v1 : Int32} {M : fz_M} {H : Heap} {locs : List Loc} {ls : Array Slot} {r : Int32} {M9 : fz_M} (C : CallFix p m c cX9_goesFrom 4 s args wsL_law RX9) (hr : meth.sig.returnType = (some .int)) (hlk : meth.locks = false) (hF : fz_F G fz_KM s)  (hT : fz_T G fz_shM fz_KM s M H locs) (hl : lv_has ls 4 [(0, .ref (G.1 0)), (1, .int v1)]) (h : f_X9_goesFrom v1 M = some (r, M9)) : W p l e (fz_rm 2 46) s m args below meth c H locs 0 0 (MQ below (fz_Qi G fz_shM fz_KM r M9) args s 0 0 (fz_Fr G fz_KM)) (F0 m 0 ls []) := by
  refine lv_aload_n C.1 C.2.1 dX9_goesFrom_0 rfl (lv_at hl 0 rfl) ?_
  refine lv_iconst (v := 0) C.1 C.2.1 dX9_goesFrom_1 (by decide) ?_
  obtain ⟨M1, eM1, h⟩ := fz_bd_s h
  refine fz_puti C hF hT fz_m0 (j := 0) rfl fw_X9_117 dX9_goesFrom_2 (fun H locs hT => ?_)
  rw [← eM1] at hT
  refine lv_aload_n C.1 C.2.1 dX9_goesFrom_5 rfl (lv_at hl 0 rfl) ?_
  refine lv_iload_n C.1 C.2.1 dX9_goesFrom_6 rfl (lv_at hl 1 rfl) ?_
  obtain ⟨r2, w4, h⟩ := fz_b1_s h
  refine fz_ci hT (fz_runV (np := 1) (rest := []) C hF hT (c_X9_noPiece l G v1 M1 r2 w4) fz_m0 (T := TX9) (N := 49) rfl cl_X9_203 rfl hl.1 rfl (Nat.le_of_ble_eq_true rfl) ⟨Nat.le_of_ble_eq_true rfl, Nat.le_of_ble_eq_true rfl, Nat.zero_le _, Nat.zero_le _⟩ dX9_goesFrom_7) (fun H locs hT => ?_)
  refine lv_if_eq (tgt := 15) C.1 C.2.1 dX9_goesFrom_10 (by decide) (fun c5 => ?_) (fun c5 => ?_)
  · have h := fz_ip c5 h
    refine lv_iconst (v := 0) C.1 C.2.1 dX9_goesFrom_15 (by decide) ?_
    refine lv_istore_n (lv' := [(2, .int 0), (0, .ref (G.1 0)), (1, .int v1)]) C.1 C.2.1 dX9_goesFrom_16 rfl hl (by decide) rfl (fun ls hl => ?_)
    exact b_X9_goesFrom_17 C hr hlk hF hT (lv_sub hl [1, 2, 0] rfl) h
  · have h := fz_iq c5 h
    refine lv_iconst (v := (-1)) C.1 C.2.1 dX9_goesFrom_13 (by decide) ?_
    cases h
    exact fz_reti C hr hlk hT dX9_goesFrom_14
set_option maxRecDepth 100000 in
theorem c_X9_goesFrom (l : Launch) (G : fz_G)  (a0 : Int32) (M : fz_M) (r : Int32) (M9 : fz_M) (h : f_X9_goesFrom a0 M = some (r, M9)) : fz_Me l yX9_goesFrom cX9_goesFrom 4 (some .int) 2 46 G fz_shM fz_KM [.ref (G.1 0), .int a0] M (fz_Qi G fz_shM fz_KM r M9) := by
  refine fz_body (by decide) (Nat.le_of_ble_eq_true rfl) ?_
  intro p e s m args below meth c H locs ls C hr hlk hF hT hl
  have C : CallFix p m c cX9_goesFrom 4 s args wsL_law RX9 := C
  have hl : lv_has ls 4 [(0, .ref (G.1 0)), (1, .int a0)] := hl
  exact b_X9_goesFrom_0 C hr hlk hF hT (lv_sub hl [0, 1] rfl) h
set_option maxHeartbeats 4000000 in
set_option maxRecDepth 100000 in
theorem b_X9_mark_0 {p : Program} {l : Launch} {e : Env} {s : State} {m : MethodId} {args : Array Value} {below : List Frame} {meth : Method} {c : Code} {G : fz_G}     {v1 : Int32} {v2 : Int32} {M : fz_M} {H : Heap} {locs : List Loc} {ls : Array Slot} {r : Int32} {M9 : fz_M} (C : CallFix p m c cX9_mark 3 s args wsL_law RX9) (hr : meth.sig.returnType = (some .int)) (hlk : meth.locks = false) (hF : fz_F G fz_KM s)  (hT : fz_T G fz_shM fz_KM s M H locs) (hl : lv_has ls 3 [(0, .ref (G.1 0)), (1, .int v1), (2, .int v2)]) (h : f_X9_mark v1 v2 M = some (r, M9)) : W p l e (fz_rm 2 46) s m args below meth c H locs 0 0 (MQ below (fz_Qi G fz_shM fz_KM r M9) args s 0 0 (fz_Fr G fz_KM)) (F0 m 0 ls []) := by
  refine lv_aload_n C.1 C.2.1 dX9_mark_0 rfl (lv_at hl 0 rfl) ?_
  refine lv_iconst (v := 0) C.1 C.2.1 dX9_mark_1 (by decide) ?_
  obtain ⟨M1, eM1, h⟩ := fz_bd_s h
  refine fz_puti C hF hT fz_m0 (j := 0) rfl fw_X9_117 dX9_mark_2 (fun H locs hT => ?_)
  rw [← eM1] at hT
  refine lv_aload_n C.1 C.2.1 dX9_mark_5 rfl (lv_at hl 0 rfl) ?_
  refine lv_iload_n C.1 C.2.1 dX9_mark_6 rfl (lv_at hl 2 rfl) ?_
  obtain ⟨r2, w4, h⟩ := fz_b1_s h
  refine fz_ci hT (fz_runV (np := 1) (rest := []) C hF hT (c_X9_noHouse l G v2 M1 r2 w4) fz_m0 (T := TX9) (N := 49) rfl cl_X9_200 rfl hl.1 rfl (Nat.le_of_ble_eq_true rfl) ⟨Nat.le_of_ble_eq_true rfl, Nat.le_of_ble_eq_true rfl, Nat.zero_le _, Nat.zero_le _⟩ dX9_mark_7) (fun H locs hT => ?_)
  refine lv_if_eq (tgt := 15) C.1 C.2.1 dX9_mark_10 (by decide) (fun c5 => ?_) (fun c5 => ?_)
  · have h := fz_ip c5 h
    refine lv_iload_n C.1 C.2.1 dX9_mark_15 rfl (lv_at hl 1 rfl) ?_
    refine lv_i2l (v := (v1.toInt64)) C.1 C.2.1 dX9_mark_16 rfl ?_
    refine lv_lconst (v := 1) C.1 C.2.1 dX9_mark_17 (by decide) ?_
    refine lv_ldc2 (v := 9) C.1 C.2.1 C.2.2.2.1 (C.2.2.2.2 _ (fz_q18 _ (List.mem_of_getElem? (i := 23) rfl))) dX9_mark_18 ?_
    obtain ⟨r6, w8, h⟩ := fz_b1_s h
    refine fz_ci hT (fz_runS (np := 3) (rest := []) C hF hT (c_X9_in l G (v1.toInt64) 1 9 M1 r6 w8) cl_X9_124 rfl hl.1 rfl (Nat.le_of_ble_eq_true rfl) ⟨Nat.le_of_ble_eq_true rfl, Nat.le_of_ble_eq_true rfl, Nat.zero_le _, Nat.zero_le _⟩ dX9_mark_21) (fun H locs hT => ?_)
    refine lv_if_ne (tgt := 30) C.1 C.2.1 dX9_mark_24 (by decide) (fun c9 => ?_) (fun c9 => ?_)
    · have h := fz_ip c9 h
      refine lv_aload_n C.1 C.2.1 dX9_mark_30 rfl (lv_at hl 0 rfl) ?_
      refine fz_geti C hF hT fz_m0 (j := 43) rfl fl_X9_197 dX9_mark_31 ?_
      refine lv_bipush (v := 8) C.1 C.2.1 dX9_mark_34 (by decide) ?_
      refine lv_icmp_ne (tgt := 42) C.1 C.2.1 dX9_mark_36 (by decide) (fun c10 => ?_) (fun c10 => ?_)
      · have h := fz_ip c10 h
        refine lv_aload_n C.1 C.2.1 dX9_mark_42 rfl (lv_at hl 0 rfl) ?_
        refine fz_getr C hF hT fz_m0 (j := 44) rfl fl_X9_104 dX9_mark_43 ?_
        refine lv_aload_n C.1 C.2.1 dX9_mark_46 rfl (lv_at hl 0 rfl) ?_
        refine fz_geti C hF hT fz_m0 (j := 43) rfl fl_X9_197 dX9_mark_47 ?_
        refine lv_iload_n C.1 C.2.1 dX9_mark_50 rfl (lv_at hl 1 rfl) ?_
        obtain ⟨g11, h⟩ := fz_gd_s h
        obtain ⟨M12, eM12, h⟩ := fz_bd_s h
        refine fz_ias C hF hT fz_m32 g11 dX9_mark_51 (fun H locs hT => ?_)
        rw [← eM12] at hT
        refine lv_aload_n C.1 C.2.1 dX9_mark_52 rfl (lv_at hl 0 rfl) ?_
        refine fz_getr C hF hT fz_m0 (j := 45) rfl fl_X9_107 dX9_mark_53 ?_
        refine lv_aload_n C.1 C.2.1 dX9_mark_56 rfl (lv_at hl 0 rfl) ?_
        refine fz_geti C hF hT fz_m0 (j := 43) rfl fl_X9_197 dX9_mark_57 ?_
        refine lv_iload_n C.1 C.2.1 dX9_mark_60 rfl (lv_at hl 2 rfl) ?_
        obtain ⟨g13, h⟩ := fz_gd_s h
        obtain ⟨M14, eM14, h⟩ := fz_bd_s h
        refine fz_ias C hF hT fz_m33 g13 dX9_mark_61 (fun H locs hT => ?_)
        rw [← eM14] at hT
        refine lv_aload_n C.1 C.2.1 dX9_mark_62 rfl (lv_at hl 0 rfl) ?_
        refine lv_dup C.1 C.2.1 dX9_mark_63 rfl ?_
        refine fz_geti C hF hT fz_m0 (j := 43) rfl fl_X9_197 dX9_mark_64 ?_
        refine lv_iconst (v := 1) C.1 C.2.1 dX9_mark_67 (by decide) ?_
        refine lv_iadd C.1 C.2.1 dX9_mark_68 ?_
        obtain ⟨M15, eM15, h⟩ := fz_bd_s h
        refine fz_puti C hF hT fz_m0 (j := 43) rfl fw_X9_197 dX9_mark_69 (fun H locs hT => ?_)
        rw [← eM15] at hT
        refine lv_aload_n C.1 C.2.1 dX9_mark_72 rfl (lv_at hl 0 rfl) ?_
        refine fz_geti C hF hT fz_m0 (j := 43) rfl fl_X9_197 dX9_mark_73 ?_
        cases h
        exact fz_reti C hr hlk hT dX9_mark_76
      · have h := fz_iq (not_not_intro c10) h
        refine lv_bipush (v := (-4)) C.1 C.2.1 dX9_mark_39 (by decide) ?_
        cases h
        exact fz_reti C hr hlk hT dX9_mark_41
    · have h := fz_iq (not_not_intro c9) h
      refine lv_bipush (v := (-2)) C.1 C.2.1 dX9_mark_27 (by decide) ?_
      cases h
      exact fz_reti C hr hlk hT dX9_mark_29
  · have h := fz_iq c5 h
    refine lv_iconst (v := (-1)) C.1 C.2.1 dX9_mark_13 (by decide) ?_
    cases h
    exact fz_reti C hr hlk hT dX9_mark_14
set_option maxRecDepth 100000 in
theorem c_X9_mark (l : Launch) (G : fz_G)  (a0 : Int32) (a1 : Int32) (M : fz_M) (r : Int32) (M9 : fz_M) (h : f_X9_mark a0 a1 M = some (r, M9)) : fz_Me l yX9_mark cX9_mark 3 (some .int) 2 46 G fz_shM fz_KM [.ref (G.1 0), .int a0, .int a1] M (fz_Qi G fz_shM fz_KM r M9) := by
  refine fz_body (by decide) (Nat.le_of_ble_eq_true rfl) ?_
  intro p e s m args below meth c H locs ls C hr hlk hF hT hl
  have C : CallFix p m c cX9_mark 3 s args wsL_law RX9 := C
  have hl : lv_has ls 3 [(0, .ref (G.1 0)), (1, .int a0), (2, .int a1)] := hl
  exact b_X9_mark_0 C hr hlk hF hT (lv_sub hl [0, 1, 2] rfl) h
set_option maxHeartbeats 4000000 in
set_option maxRecDepth 100000 in
theorem b_X9_unmark_0 {p : Program} {l : Launch} {e : Env} {s : State} {m : MethodId} {args : Array Value} {below : List Frame} {meth : Method} {c : Code} {G : fz_G}      {M : fz_M} {H : Heap} {locs : List Loc} {ls : Array Slot} {r : Int32} {M9 : fz_M} (C : CallFix p m c cX9_unmark 2 s args wsL_law RX9) (hr : meth.sig.returnType = (some .int)) (hlk : meth.locks = false) (hF : fz_F G fz_KM s)  (hT : fz_T G fz_shM fz_KM s M H locs) (hl : lv_has ls 2 [(0, .ref (G.1 0))]) (h : f_X9_unmark M = some (r, M9)) : W p l e (fz_rm 0 0) s m args below meth c H locs 0 0 (MQ below (fz_Qi G fz_shM fz_KM r M9) args s 0 0 (fz_Fr G fz_KM)) (F0 m 0 ls []) := by
  refine lv_aload_n C.1 C.2.1 dX9_unmark_0 rfl (lv_at hl 0 rfl) ?_
  refine lv_iconst (v := 0) C.1 C.2.1 dX9_unmark_1 (by decide) ?_
  obtain ⟨M1, eM1, h⟩ := fz_bd_s h
  refine fz_puti C hF hT fz_m0 (j := 0) rfl fw_X9_117 dX9_unmark_2 (fun H locs hT => ?_)
  rw [← eM1] at hT
  refine lv_aload_n C.1 C.2.1 dX9_unmark_5 rfl (lv_at hl 0 rfl) ?_
  refine fz_geti C hF hT fz_m0 (j := 43) rfl fl_X9_197 dX9_unmark_6 ?_
  obtain ⟨x2, ex2, h⟩ := fz_bd_s h
  refine fz_nmi ex2 ?_
  refine lv_istore_n (lv' := [(1, .int x2), (0, .ref (G.1 0))]) C.1 C.2.1 dX9_unmark_9 rfl hl (by decide) rfl (fun ls hl => ?_)
  refine lv_aload_n C.1 C.2.1 dX9_unmark_10 rfl (lv_at hl 1 rfl) ?_
  refine lv_iconst (v := 0) C.1 C.2.1 dX9_unmark_11 (by decide) ?_
  obtain ⟨M3, eM3, h⟩ := fz_bd_s h
  refine fz_puti C hF hT fz_m0 (j := 43) rfl fw_X9_197 dX9_unmark_12 (fun H locs hT => ?_)
  rw [← eM3] at hT
  refine lv_iload_n C.1 C.2.1 dX9_unmark_15 rfl (lv_at hl 0 rfl) ?_
  cases h
  exact fz_reti C hr hlk hT dX9_unmark_16
set_option maxRecDepth 100000 in
theorem c_X9_unmark (l : Launch) (G : fz_G)   (M : fz_M) (r : Int32) (M9 : fz_M) (h : f_X9_unmark M = some (r, M9)) : fz_Me l yX9_unmark cX9_unmark 2 (some .int) 0 0 G fz_shM fz_KM [.ref (G.1 0)] M (fz_Qi G fz_shM fz_KM r M9) := by
  refine fz_body (by decide) (Nat.le_of_ble_eq_true rfl) ?_
  intro p e s m args below meth c H locs ls C hr hlk hF hT hl
  have C : CallFix p m c cX9_unmark 2 s args wsL_law RX9 := C
  have hl : lv_has ls 2 [(0, .ref (G.1 0))] := hl
  exact b_X9_unmark_0 C hr hlk hF hT (lv_sub hl [0] rfl) h
set_option maxHeartbeats 4000000 in
set_option maxRecDepth 100000 in
theorem b_X9_isMarked_45 {p : Program} {l : Launch} {e : Env} {s : State} {m : MethodId} {args : Array Value} {below : List Frame} {meth : Method} {c : Code} {G : fz_G}   {ag5 : (Int32 × Int32) → Option Int32}  {v1 : Int32} {v2 : Int32} {v4 : Int32} {s0 : Int32} {M : fz_M} {H : Heap} {locs : List Loc} {ls : Array Slot} {r : Int32} (C : CallFix p m c cX9_isMarked 5 s args wsL_law RX9) (hr : meth.sig.returnType = (some .boolean)) (hlk : meth.locks = false) (hF : fz_F G fz_KM s) (hag5 : ∀ (v3 : Int32) (v4 : Int32) (H : Heap) (locs : List Loc) (ls : Array Slot), fz_T G fz_shM fz_KM s M H locs → lv_has ls 5 [(0, .ref (G.1 0)), (1, .int v1), (2, .int v2), (3, .int v3), (4, .int v4)] → ag5 (v3, v4) = some r → W p l e (fz_rm 0 0) s m args below meth c H locs 0 0 (MQ below (fz_Qi G fz_shM fz_KM r M) args s 0 0 (fz_Fr G fz_KM)) (F0 m 5 ls [])) (hT : fz_T G fz_shM fz_KM s M H locs) (hl : lv_has ls 5 [(0, .ref (G.1 0)), (1, .int v1), (2, .int v2), (4, .int v4)]) (h : f_X9_isMarked_45 ag5 v1 v2 v4 s0 M = some r) : W p l e (fz_rm 0 0) s m args below meth c H locs 0 0 (MQ below (fz_Qi G fz_shM fz_KM r M) args s 0 0 (fz_Fr G fz_KM)) (F0 m 45 ls [.int s0]) := by
  refine lv_istore_n (lv' := [(3, .int s0), (0, .ref (G.1 0)), (1, .int v1), (2, .int v2), (4, .int v4)]) C.1 C.2.1 dX9_isMarked_45 rfl hl (by decide) rfl (fun ls hl => ?_)
  refine lv_iinc (v := (v4 + 1)) (lv' := [(4, .int (v4 + 1)), (3, .int s0), (0, .ref (G.1 0)), (1, .int v1), (2, .int v2)]) C.1 C.2.1 dX9_isMarked_46 hl (k := 4) rfl rfl (by decide) rfl (fun ls hl => ?_)
  refine lv_goto (tgt := 5) C.1 C.2.1 dX9_isMarked_49 (by decide) ?_
  exact hag5 s0 (v4 + 1) _ _ _ hT (lv_sub hl [2, 3, 4, 1, 0] rfl) h
set_option maxHeartbeats 4000000 in
set_option maxRecDepth 100000 in
theorem b_X9_isMarked_44 {p : Program} {l : Launch} {e : Env} {s : State} {m : MethodId} {args : Array Value} {below : List Frame} {meth : Method} {c : Code} {G : fz_G}   {ag5 : (Int32 × Int32) → Option Int32}  {v1 : Int32} {v2 : Int32} {v4 : Int32} {M : fz_M} {H : Heap} {locs : List Loc} {ls : Array Slot} {r : Int32} (C : CallFix p m c cX9_isMarked 5 s args wsL_law RX9) (hr : meth.sig.returnType = (some .boolean)) (hlk : meth.locks = false) (hF : fz_F G fz_KM s) (hag5 : ∀ (v3 : Int32) (v4 : Int32) (H : Heap) (locs : List Loc) (ls : Array Slot), fz_T G fz_shM fz_KM s M H locs → lv_has ls 5 [(0, .ref (G.1 0)), (1, .int v1), (2, .int v2), (3, .int v3), (4, .int v4)] → ag5 (v3, v4) = some r → W p l e (fz_rm 0 0) s m args below meth c H locs 0 0 (MQ below (fz_Qi G fz_shM fz_KM r M) args s 0 0 (fz_Fr G fz_KM)) (F0 m 5 ls [])) (hT : fz_T G fz_shM fz_KM s M H locs) (hl : lv_has ls 5 [(0, .ref (G.1 0)), (1, .int v1), (2, .int v2), (4, .int v4)]) (h : f_X9_isMarked_44 ag5 v1 v2 v4 M = some r) : W p l e (fz_rm 0 0) s m args below meth c H locs 0 0 (MQ below (fz_Qi G fz_shM fz_KM r M) args s 0 0 (fz_Fr G fz_KM)) (F0 m 44 ls []) := by
  refine lv_iconst (v := 0) C.1 C.2.1 dX9_isMarked_44 (by decide) ?_
  exact b_X9_isMarked_45 C hr hlk hF hag5 hT (lv_sub hl [0, 1, 2, 3] rfl) h
set_option maxHeartbeats 4000000 in
set_option maxRecDepth 100000 in
theorem b_X9_isMarked_5_l {p : Program} {l : Launch} {e : Env} {s : State} {m : MethodId} {args : Array Value} {below : List Frame} {meth : Method} {c : Code} {G : fz_G}     {v1 : Int32} {v2 : Int32} {M : fz_M} {r : Int32} (C : CallFix p m c cX9_isMarked 5 s args wsL_law RX9) (hr : meth.sig.returnType = (some .boolean)) (hlk : meth.locks = false) (hF : fz_F G fz_KM s)  : ∀ (n : Nat) (v3 : Int32) (v4 : Int32) (H : Heap) (locs : List Loc) (ls : Array Slot), fz_T G fz_shM fz_KM s M H locs → lv_has ls 5 [(0, .ref (G.1 0)), (1, .int v1), (2, .int v2), (3, .int v3), (4, .int v4)] → fz_lp (fun ag z => f_X9_isMarked_5_s ag v1 v2 z.1 z.2 M) n (v3, v4) = some r → W p l e (fz_rm 0 0) s m args below meth c H locs 0 0 (MQ below (fz_Qi G fz_shM fz_KM r M) args s 0 0 (fz_Fr G fz_KM)) (F0 m 5 ls []) := by
  intro n
  induction n with
  | zero =>
    intro v3 v4 H locs ls hT hl h
    cases h
  | succ n ih =>
    intro v3 v4 H locs ls hT hl h
    have h : f_X9_isMarked_5_s (fz_lp (fun ag z => f_X9_isMarked_5_s ag v1 v2 z.1 z.2 M) n) v1 v2 v3 v4 M = some r := h
    have hag5 := ih
    generalize fz_lp (fun ag z => f_X9_isMarked_5_s ag v1 v2 z.1 z.2 M) n = ag5 at h hag5
    refine lv_iload C.1 C.2.1 dX9_isMarked_5 (lv_at hl 4 rfl) ?_
    refine lv_aload_n C.1 C.2.1 dX9_isMarked_7 rfl (lv_at hl 0 rfl) ?_
    refine fz_geti C hF hT fz_m0 (j := 43) rfl fl_X9_197 dX9_isMarked_8 ?_
    refine lv_icmp_ge (tgt := 52) C.1 C.2.1 dX9_isMarked_11 (by decide) (fun c1 => ?_) (fun c1 => ?_)
    · have h := fz_ip c1 h
      refine lv_iload_n C.1 C.2.1 dX9_isMarked_52 rfl (lv_at hl 3 rfl) ?_
      obtain ⟨g2, h⟩ := fz_gd_s h
      cases h
      exact fz_retz C hr hlk g2 hT dX9_isMarked_53
    · have h := fz_iq c1 h
      refine lv_iload_n C.1 C.2.1 dX9_isMarked_14 rfl (lv_at hl 3 rfl) ?_
      refine lv_if_eq (tgt := 44) C.1 C.2.1 dX9_isMarked_15 (by decide) (fun c3 => ?_) (fun c3 => ?_)
      · have h := fz_ip c3 h
        exact b_X9_isMarked_44 C hr hlk hF hag5 hT (lv_sub hl [0, 1, 2, 4] rfl) h
      · have h := fz_iq c3 h
        refine lv_aload_n C.1 C.2.1 dX9_isMarked_18 rfl (lv_at hl 0 rfl) ?_
        refine fz_getr C hF hT fz_m0 (j := 44) rfl fl_X9_104 dX9_isMarked_19 ?_
        refine lv_iload C.1 C.2.1 dX9_isMarked_22 (lv_at hl 4 rfl) ?_
        obtain ⟨g4, h⟩ := fz_gd_s h
        refine fz_ia C hF hT fz_m32 g4 dX9_isMarked_24 ?_
        refine lv_iload_n C.1 C.2.1 dX9_isMarked_25 rfl (lv_at hl 1 rfl) ?_
        refine lv_icmp_ne (tgt := 40) C.1 C.2.1 dX9_isMarked_26 (by decide) (fun c5 => ?_) (fun c5 => ?_)
        · have h := fz_ip c5 h
          refine lv_iconst (v := 1) C.1 C.2.1 dX9_isMarked_40 (by decide) ?_
          refine lv_goto (tgt := 45) C.1 C.2.1 dX9_isMarked_41 (by decide) ?_
          exact b_X9_isMarked_45 C hr hlk hF hag5 hT (lv_sub hl [0, 1, 2, 4] rfl) h
        · have h := fz_iq (not_not_intro c5) h
          refine lv_aload_n C.1 C.2.1 dX9_isMarked_29 rfl (lv_at hl 0 rfl) ?_
          refine fz_getr C hF hT fz_m0 (j := 45) rfl fl_X9_107 dX9_isMarked_30 ?_
          refine lv_iload C.1 C.2.1 dX9_isMarked_33 (lv_at hl 4 rfl) ?_
          obtain ⟨g6, h⟩ := fz_gd_s h
          refine fz_ia C hF hT fz_m33 g6 dX9_isMarked_35 ?_
          refine lv_iload_n C.1 C.2.1 dX9_isMarked_36 rfl (lv_at hl 2 rfl) ?_
          refine lv_icmp_ne (tgt := 44) C.1 C.2.1 dX9_isMarked_37 (by decide) (fun c7 => ?_) (fun c7 => ?_)
          · have h := fz_ip c7 h
            exact b_X9_isMarked_44 C hr hlk hF hag5 hT (lv_sub hl [0, 1, 2, 4] rfl) h
          · have h := fz_iq (not_not_intro c7) h
            refine lv_iconst (v := 1) C.1 C.2.1 dX9_isMarked_40 (by decide) ?_
            refine lv_goto (tgt := 45) C.1 C.2.1 dX9_isMarked_41 (by decide) ?_
            exact b_X9_isMarked_45 C hr hlk hF hag5 hT (lv_sub hl [0, 1, 2, 4] rfl) h
set_option maxHeartbeats 4000000 in
set_option maxRecDepth 100000 in
theorem b_X9_isMarked_5 {p : Program} {l : Launch} {e : Env} {s : State} {m : MethodId} {args : Array Value} {below : List Frame} {meth : Method} {c : Code} {G : fz_G}     {v1 : Int32} {v2 : Int32} {v3 : Int32} {v4 : Int32} {M : fz_M} {H : Heap} {locs : List Loc} {ls : Array Slot} {r : Int32} (C : CallFix p m c cX9_isMarked 5 s args wsL_law RX9) (hr : meth.sig.returnType = (some .boolean)) (hlk : meth.locks = false) (hF : fz_F G fz_KM s)  (hT : fz_T G fz_shM fz_KM s M H locs) (hl : lv_has ls 5 [(0, .ref (G.1 0)), (1, .int v1), (2, .int v2), (3, .int v3), (4, .int v4)]) (h : f_X9_isMarked_5 v1 v2 v3 v4 M = some r) : W p l e (fz_rm 0 0) s m args below meth c H locs 0 0 (MQ below (fz_Qi G fz_shM fz_KM r M) args s 0 0 (fz_Fr G fz_KM)) (F0 m 5 ls []) :=
  b_X9_isMarked_5_l C hr hlk hF fz_fuel v3 v4 H locs ls hT hl h
set_option maxHeartbeats 4000000 in
set_option maxRecDepth 100000 in
theorem b_X9_isMarked_0 {p : Program} {l : Launch} {e : Env} {s : State} {m : MethodId} {args : Array Value} {below : List Frame} {meth : Method} {c : Code} {G : fz_G}     {v1 : Int32} {v2 : Int32} {M : fz_M} {H : Heap} {locs : List Loc} {ls : Array Slot} {r : Int32} (C : CallFix p m c cX9_isMarked 5 s args wsL_law RX9) (hr : meth.sig.returnType = (some .boolean)) (hlk : meth.locks = false) (hF : fz_F G fz_KM s)  (hT : fz_T G fz_shM fz_KM s M H locs) (hl : lv_has ls 5 [(0, .ref (G.1 0)), (1, .int v1), (2, .int v2)]) (h : f_X9_isMarked v1 v2 M = some r) : W p l e (fz_rm 0 0) s m args below meth c H locs 0 0 (MQ below (fz_Qi G fz_shM fz_KM r M) args s 0 0 (fz_Fr G fz_KM)) (F0 m 0 ls []) := by
  refine lv_iconst (v := 1) C.1 C.2.1 dX9_isMarked_0 (by decide) ?_
  refine lv_istore_n (lv' := [(3, .int 1), (0, .ref (G.1 0)), (1, .int v1), (2, .int v2)]) C.1 C.2.1 dX9_isMarked_1 rfl hl (by decide) rfl (fun ls hl => ?_)
  refine lv_iconst (v := 0) C.1 C.2.1 dX9_isMarked_2 (by decide) ?_
  refine lv_istore (lv' := [(4, .int 0), (3, .int 1), (0, .ref (G.1 0)), (1, .int v1), (2, .int v2)]) C.1 C.2.1 dX9_isMarked_3 hl (by decide) rfl (fun ls hl => ?_)
  exact b_X9_isMarked_5 C hr hlk hF hT (lv_sub hl [2, 3, 4, 1, 0] rfl) h
set_option maxRecDepth 100000 in
theorem c_X9_isMarked (l : Launch) (G : fz_G)  (a0 : Int32) (a1 : Int32) (M : fz_M) (r : Int32) (h : f_X9_isMarked a0 a1 M = some r) : fz_Me l yX9_isMarked cX9_isMarked 5 (some .boolean) 0 0 G fz_shM fz_KM [.ref (G.1 0), .int a0, .int a1] M (fz_Qi G fz_shM fz_KM r M) := by
  refine fz_body (by decide) (Nat.le_of_ble_eq_true rfl) ?_
  intro p e s m args below meth c H locs ls C hr hlk hF hT hl
  have C : CallFix p m c cX9_isMarked 5 s args wsL_law RX9 := C
  have hl : lv_has ls 5 [(0, .ref (G.1 0)), (1, .int a0), (2, .int a1)] := hl
  exact b_X9_isMarked_0 C hr hlk hF hT (lv_sub hl [0, 1, 2] rfl) h
set_option maxHeartbeats 4000000 in
set_option maxRecDepth 100000 in
theorem b_X9_layRows_149 {p : Program} {l : Launch} {e : Env} {s : State} {m : MethodId} {args : Array Value} {below : List Frame} {meth : Method} {c : Code} {G : fz_G}   {ag32 : (Int32 × fz_M) → Option fz_M} {ag115 : (Int32 × fz_M) → Option fz_M}  {v1 : Int32} {v3 : Int32} {v4 : Int32} {s1 : Int32} {s2 : Int64} {M : fz_M} {H : Heap} {locs : List Loc} {ls : Array Slot} {M9 : fz_M} (C : CallFix p m c cX9_layRows 5 s args wsL_law RX9) (hr : meth.sig.returnType = none) (hlk : meth.locks = false) (hF : fz_F G fz_KM s) (hag32 : ∀ (v3 : Int32) (M : fz_M) (H : Heap) (locs : List Loc) (ls : Array Slot), fz_T G fz_shM fz_KM s M H locs → lv_has ls 5 [(0, .ref (G.1 0)), (1, .int v1), (3, .int v3)] → ag32 (v3, M) = some M9 → W p l e (fz_rm 1 24) s m args below meth c H locs 0 0 (MQ below (fz_Qv G fz_shM fz_KM M9) args s 0 0 (fz_Fr G fz_KM)) (F0 m 32 ls [])) (hag115 : ∀ (v4 : Int32) (M : fz_M) (H : Heap) (locs : List Loc) (ls : Array Slot), fz_T G fz_shM fz_KM s M H locs → lv_has ls 5 [(0, .ref (G.1 0)), (1, .int v1), (3, .int v3), (4, .int v4)] → ag115 (v4, M) = some M9 → W p l e (fz_rm 1 24) s m args below meth c H locs 0 0 (MQ below (fz_Qv G fz_shM fz_KM M9) args s 0 0 (fz_Fr G fz_KM)) (F0 m 115 ls [])) (hT : fz_T G fz_shM fz_KM s M H locs) (hl : lv_has ls 5 [(0, .ref (G.1 0)), (1, .int v1), (3, .int v3), (4, .int v4)]) (h : f_X9_layRows_149 ag32 ag115 v1 v3 v4 s1 s2 M = some M9) : W p l e (fz_rm 1 24) s m args below meth c H locs 0 0 (MQ below (fz_Qv G fz_shM fz_KM M9) args s 0 0 (fz_Fr G fz_KM)) (F0 m 149 ls [.long s2, .int s1, .ref (G.1 34)]) := by
  obtain ⟨g1, h⟩ := fz_gd_s h
  obtain ⟨M2, eM2, h⟩ := fz_bd_s h
  refine fz_las C hF hT fz_m34 g1 dX9_layRows_149 (fun H locs hT => ?_)
  rw [← eM2] at hT
  refine lv_iinc (v := (v4 + 1)) (lv' := [(4, .int (v4 + 1)), (0, .ref (G.1 0)), (1, .int v1), (3, .int v3)]) C.1 C.2.1 dX9_layRows_150 hl (k := 3) rfl rfl (by decide) rfl (fun ls hl => ?_)
  refine lv_goto (tgt := 115) C.1 C.2.1 dX9_layRows_153 (by decide) ?_
  exact hag115 (v4 + 1) M2 _ _ _ hT (lv_sub hl [1, 2, 3, 0] rfl) h
set_option maxHeartbeats 4000000 in
set_option maxRecDepth 100000 in
theorem b_X9_layRows_115_l {p : Program} {l : Launch} {e : Env} {s : State} {m : MethodId} {args : Array Value} {below : List Frame} {meth : Method} {c : Code} {G : fz_G}   {ag32 : (Int32 × fz_M) → Option fz_M}  {v1 : Int32} {v3 : Int32}  {M9 : fz_M} (C : CallFix p m c cX9_layRows 5 s args wsL_law RX9) (hr : meth.sig.returnType = none) (hlk : meth.locks = false) (hF : fz_F G fz_KM s) (hag32 : ∀ (v3 : Int32) (M : fz_M) (H : Heap) (locs : List Loc) (ls : Array Slot), fz_T G fz_shM fz_KM s M H locs → lv_has ls 5 [(0, .ref (G.1 0)), (1, .int v1), (3, .int v3)] → ag32 (v3, M) = some M9 → W p l e (fz_rm 1 24) s m args below meth c H locs 0 0 (MQ below (fz_Qv G fz_shM fz_KM M9) args s 0 0 (fz_Fr G fz_KM)) (F0 m 32 ls [])) : ∀ (n : Nat) (v4 : Int32) (M : fz_M) (H : Heap) (locs : List Loc) (ls : Array Slot), fz_T G fz_shM fz_KM s M H locs → lv_has ls 5 [(0, .ref (G.1 0)), (1, .int v1), (3, .int v3), (4, .int v4)] → fz_lp (fun ag z => f_X9_layRows_115_s ag32 ag v1 v3 z.1 z.2) n (v4, M) = some M9 → W p l e (fz_rm 1 24) s m args below meth c H locs 0 0 (MQ below (fz_Qv G fz_shM fz_KM M9) args s 0 0 (fz_Fr G fz_KM)) (F0 m 115 ls []) := by
  intro n
  induction n with
  | zero =>
    intro v4 M H locs ls hT hl h
    cases h
  | succ n ih =>
    intro v4 M H locs ls hT hl h
    have h : f_X9_layRows_115_s ag32 (fz_lp (fun ag z => f_X9_layRows_115_s ag32 ag v1 v3 z.1 z.2) n) v1 v3 v4 M = some M9 := h
    have hag115 := ih
    generalize fz_lp (fun ag z => f_X9_layRows_115_s ag32 ag v1 v3 z.1 z.2) n = ag115 at h hag115
    refine lv_iload C.1 C.2.1 dX9_layRows_115 (lv_at hl 3 rfl) ?_
    refine lv_bipush (v := 6) C.1 C.2.1 dX9_layRows_117 (by decide) ?_
    refine lv_icmp_ge (tgt := 156) C.1 C.2.1 dX9_layRows_119 (by decide) (fun c1 => ?_) (fun c1 => ?_)
    · have h := fz_ip c1 h
      refine lv_iinc (v := (v3 + 1)) (lv' := [(3, .int (v3 + 1)), (0, .ref (G.1 0)), (1, .int v1), (4, .int v4)]) C.1 C.2.1 dX9_layRows_156 hl (k := 2) rfl rfl (by decide) rfl (fun ls hl => ?_)
      refine lv_goto (tgt := 32) C.1 C.2.1 dX9_layRows_159 (by decide) ?_
      exact hag32 (v3 + 1) M _ _ _ hT (lv_sub hl [1, 2, 0] rfl) h
    · have h := fz_iq c1 h
      refine lv_aload_n C.1 C.2.1 dX9_layRows_122 rfl (lv_at hl 0 rfl) ?_
      refine fz_getr C hF hT fz_m0 (j := 46) rfl fl_X9_110 dX9_layRows_123 ?_
      refine lv_iload C.1 C.2.1 dX9_layRows_126 (lv_at hl 3 rfl) ?_
      refine lv_aload_n C.1 C.2.1 dX9_layRows_128 rfl (lv_at hl 0 rfl) ?_
      refine lv_iload_n C.1 C.2.1 dX9_layRows_129 rfl (lv_at hl 2 rfl) ?_
      refine lv_iload C.1 C.2.1 dX9_layRows_130 (lv_at hl 3 rfl) ?_
      obtain ⟨r2, w4, h⟩ := fz_b1_s h
      refine fz_ci hT (fz_runV (np := 2) (rest := [.int v4, .ref (G.1 34)]) C hF hT (c_X9_isMarked l G v3 v4 M r2 w4) fz_m0 (T := TX9) (N := 49) rfl cl_X9_261 rfl hl.1 rfl (Nat.le_of_ble_eq_true rfl) ⟨Nat.le_of_ble_eq_true rfl, Nat.le_of_ble_eq_true rfl, Nat.zero_le _, Nat.zero_le _⟩ dX9_layRows_132) (fun H locs hT => ?_)
      refine lv_if_eq (tgt := 148) C.1 C.2.1 dX9_layRows_135 (by decide) (fun c5 => ?_) (fun c5 => ?_)
      · have h := fz_ip c5 h
        refine lv_lconst (v := 0) C.1 C.2.1 dX9_layRows_148 (by decide) ?_
        exact b_X9_layRows_149 C hr hlk hF hag32 hag115 hT (lv_sub hl [0, 1, 2, 3] rfl) h
      · have h := fz_iq c5 h
        refine lv_aload_n C.1 C.2.1 dX9_layRows_138 rfl (lv_at hl 0 rfl) ?_
        refine fz_getr C hF hT fz_m0 (j := 47) rfl fl_X9_114 dX9_layRows_139 ?_
        refine lv_iload C.1 C.2.1 dX9_layRows_142 (lv_at hl 3 rfl) ?_
        obtain ⟨g6, h⟩ := fz_gd_s h
        refine fz_la C hF hT fz_m35 g6 dX9_layRows_144 ?_
        refine lv_goto (tgt := 149) C.1 C.2.1 dX9_layRows_145 (by decide) ?_
        exact b_X9_layRows_149 C hr hlk hF hag32 hag115 hT (lv_sub hl [0, 1, 2, 3] rfl) h
set_option maxHeartbeats 4000000 in
set_option maxRecDepth 100000 in
theorem b_X9_layRows_115 {p : Program} {l : Launch} {e : Env} {s : State} {m : MethodId} {args : Array Value} {below : List Frame} {meth : Method} {c : Code} {G : fz_G}   {ag32 : (Int32 × fz_M) → Option fz_M}  {v1 : Int32} {v3 : Int32} {v4 : Int32} {M : fz_M} {H : Heap} {locs : List Loc} {ls : Array Slot} {M9 : fz_M} (C : CallFix p m c cX9_layRows 5 s args wsL_law RX9) (hr : meth.sig.returnType = none) (hlk : meth.locks = false) (hF : fz_F G fz_KM s) (hag32 : ∀ (v3 : Int32) (M : fz_M) (H : Heap) (locs : List Loc) (ls : Array Slot), fz_T G fz_shM fz_KM s M H locs → lv_has ls 5 [(0, .ref (G.1 0)), (1, .int v1), (3, .int v3)] → ag32 (v3, M) = some M9 → W p l e (fz_rm 1 24) s m args below meth c H locs 0 0 (MQ below (fz_Qv G fz_shM fz_KM M9) args s 0 0 (fz_Fr G fz_KM)) (F0 m 32 ls [])) (hT : fz_T G fz_shM fz_KM s M H locs) (hl : lv_has ls 5 [(0, .ref (G.1 0)), (1, .int v1), (3, .int v3), (4, .int v4)]) (h : f_X9_layRows_115 ag32 v1 v3 v4 M = some M9) : W p l e (fz_rm 1 24) s m args below meth c H locs 0 0 (MQ below (fz_Qv G fz_shM fz_KM M9) args s 0 0 (fz_Fr G fz_KM)) (F0 m 115 ls []) :=
  b_X9_layRows_115_l C hr hlk hF hag32 fz_fuel v4 M H locs ls hT hl h
set_option maxHeartbeats 4000000 in
set_option maxRecDepth 100000 in
theorem b_X9_layRows_70_l {p : Program} {l : Launch} {e : Env} {s : State} {m : MethodId} {args : Array Value} {below : List Frame} {meth : Method} {c : Code} {G : fz_G}   {ag32 : (Int32 × fz_M) → Option fz_M}  {v1 : Int32} {v3 : Int32}  {M9 : fz_M} (C : CallFix p m c cX9_layRows 5 s args wsL_law RX9) (hr : meth.sig.returnType = none) (hlk : meth.locks = false) (hF : fz_F G fz_KM s) (hag32 : ∀ (v3 : Int32) (M : fz_M) (H : Heap) (locs : List Loc) (ls : Array Slot), fz_T G fz_shM fz_KM s M H locs → lv_has ls 5 [(0, .ref (G.1 0)), (1, .int v1), (3, .int v3)] → ag32 (v3, M) = some M9 → W p l e (fz_rm 1 24) s m args below meth c H locs 0 0 (MQ below (fz_Qv G fz_shM fz_KM M9) args s 0 0 (fz_Fr G fz_KM)) (F0 m 32 ls [])) : ∀ (n : Nat) (v4 : Int32) (M : fz_M) (H : Heap) (locs : List Loc) (ls : Array Slot), fz_T G fz_shM fz_KM s M H locs → lv_has ls 5 [(0, .ref (G.1 0)), (1, .int v1), (3, .int v3), (4, .int v4)] → fz_lp (fun ag z => f_X9_layRows_70_s ag32 ag v1 v3 z.1 z.2) n (v4, M) = some M9 → W p l e (fz_rm 1 24) s m args below meth c H locs 0 0 (MQ below (fz_Qv G fz_shM fz_KM M9) args s 0 0 (fz_Fr G fz_KM)) (F0 m 70 ls []) := by
  intro n
  induction n with
  | zero =>
    intro v4 M H locs ls hT hl h
    cases h
  | succ n ih =>
    intro v4 M H locs ls hT hl h
    have h : f_X9_layRows_70_s ag32 (fz_lp (fun ag z => f_X9_layRows_70_s ag32 ag v1 v3 z.1 z.2) n) v1 v3 v4 M = some M9 := h
    have hag70 := ih
    generalize fz_lp (fun ag z => f_X9_layRows_70_s ag32 ag v1 v3 z.1 z.2) n = ag70 at h hag70
    refine lv_iload C.1 C.2.1 dX9_layRows_70 (lv_at hl 3 rfl) ?_
    refine lv_aload_n C.1 C.2.1 dX9_layRows_72 rfl (lv_at hl 0 rfl) ?_
    refine fz_geti C hF hT fz_m0 (j := 5) rfl fl_X9_188 dX9_layRows_73 ?_
    refine lv_icmp_ge (tgt := 112) C.1 C.2.1 dX9_layRows_76 (by decide) (fun c1 => ?_) (fun c1 => ?_)
    · have h := fz_ip c1 h
      refine lv_iconst (v := 0) C.1 C.2.1 dX9_layRows_112 (by decide) ?_
      refine lv_istore (lv' := [(4, .int 0), (0, .ref (G.1 0)), (1, .int v1), (3, .int v3)]) C.1 C.2.1 dX9_layRows_113 hl (by decide) rfl (fun ls hl => ?_)
      exact b_X9_layRows_115 C hr hlk hF hag32 hT (lv_sub hl [1, 2, 3, 0] rfl) h
    · have h := fz_iq c1 h
      refine lv_aload_n C.1 C.2.1 dX9_layRows_79 rfl (lv_at hl 0 rfl) ?_
      refine fz_getr C hF hT fz_m0 (j := 47) rfl fl_X9_114 dX9_layRows_80 ?_
      refine lv_aload_n C.1 C.2.1 dX9_layRows_83 rfl (lv_at hl 0 rfl) ?_
      refine fz_getr C hF hT fz_m0 (j := 10) rfl fl_X9_22 dX9_layRows_84 ?_
      refine lv_iload C.1 C.2.1 dX9_layRows_87 (lv_at hl 3 rfl) ?_
      obtain ⟨g2, h⟩ := fz_gd_s h
      refine fz_ia C hF hT fz_m5 g2 dX9_layRows_89 ?_
      refine lv_dup2_11 C.1 C.2.1 dX9_layRows_90 rfl rfl ?_
      obtain ⟨g3, h⟩ := fz_gd_s h
      refine fz_la C hF hT fz_m35 g3 dX9_layRows_91 ?_
      refine lv_aload_n C.1 C.2.1 dX9_layRows_92 rfl (lv_at hl 0 rfl) ?_
      refine fz_getr C hF hT fz_m0 (j := 46) rfl fl_X9_110 dX9_layRows_93 ?_
      refine lv_aload_n C.1 C.2.1 dX9_layRows_96 rfl (lv_at hl 0 rfl) ?_
      refine fz_getr C hF hT fz_m0 (j := 9) rfl fl_X9_19 dX9_layRows_97 ?_
      refine lv_iload C.1 C.2.1 dX9_layRows_100 (lv_at hl 3 rfl) ?_
      obtain ⟨g4, h⟩ := fz_gd_s h
      refine fz_ia C hF hT fz_m4 g4 dX9_layRows_102 ?_
      obtain ⟨g5, h⟩ := fz_gd_s h
      refine fz_la C hF hT fz_m34 g5 dX9_layRows_103 ?_
      refine lv_ladd C.1 C.2.1 dX9_layRows_104 ?_
      obtain ⟨g6, h⟩ := fz_gd_s h
      obtain ⟨M7, eM7, h⟩ := fz_bd_s h
      refine fz_las C hF hT fz_m35 g6 dX9_layRows_105 (fun H locs hT => ?_)
      rw [← eM7] at hT
      refine lv_iinc (v := (v4 + 1)) (lv' := [(4, .int (v4 + 1)), (0, .ref (G.1 0)), (1, .int v1), (3, .int v3)]) C.1 C.2.1 dX9_layRows_106 hl (k := 3) rfl rfl (by decide) rfl (fun ls hl => ?_)
      refine lv_goto (tgt := 70) C.1 C.2.1 dX9_layRows_109 (by decide) ?_
      exact hag70 (v4 + 1) M7 _ _ _ hT (lv_sub hl [1, 2, 3, 0] rfl) h
set_option maxHeartbeats 4000000 in
set_option maxRecDepth 100000 in
theorem b_X9_layRows_70 {p : Program} {l : Launch} {e : Env} {s : State} {m : MethodId} {args : Array Value} {below : List Frame} {meth : Method} {c : Code} {G : fz_G}   {ag32 : (Int32 × fz_M) → Option fz_M}  {v1 : Int32} {v3 : Int32} {v4 : Int32} {M : fz_M} {H : Heap} {locs : List Loc} {ls : Array Slot} {M9 : fz_M} (C : CallFix p m c cX9_layRows 5 s args wsL_law RX9) (hr : meth.sig.returnType = none) (hlk : meth.locks = false) (hF : fz_F G fz_KM s) (hag32 : ∀ (v3 : Int32) (M : fz_M) (H : Heap) (locs : List Loc) (ls : Array Slot), fz_T G fz_shM fz_KM s M H locs → lv_has ls 5 [(0, .ref (G.1 0)), (1, .int v1), (3, .int v3)] → ag32 (v3, M) = some M9 → W p l e (fz_rm 1 24) s m args below meth c H locs 0 0 (MQ below (fz_Qv G fz_shM fz_KM M9) args s 0 0 (fz_Fr G fz_KM)) (F0 m 32 ls [])) (hT : fz_T G fz_shM fz_KM s M H locs) (hl : lv_has ls 5 [(0, .ref (G.1 0)), (1, .int v1), (3, .int v3), (4, .int v4)]) (h : f_X9_layRows_70 ag32 v1 v3 v4 M = some M9) : W p l e (fz_rm 1 24) s m args below meth c H locs 0 0 (MQ below (fz_Qv G fz_shM fz_KM M9) args s 0 0 (fz_Fr G fz_KM)) (F0 m 70 ls []) :=
  b_X9_layRows_70_l C hr hlk hF hag32 fz_fuel v4 M H locs ls hT hl h
set_option maxHeartbeats 4000000 in
set_option maxRecDepth 100000 in
theorem b_X9_layRows_40_l {p : Program} {l : Launch} {e : Env} {s : State} {m : MethodId} {args : Array Value} {below : List Frame} {meth : Method} {c : Code} {G : fz_G}   {ag32 : (Int32 × fz_M) → Option fz_M}  {v1 : Int32} {v3 : Int32}  {M9 : fz_M} (C : CallFix p m c cX9_layRows 5 s args wsL_law RX9) (hr : meth.sig.returnType = none) (hlk : meth.locks = false) (hF : fz_F G fz_KM s) (hag32 : ∀ (v3 : Int32) (M : fz_M) (H : Heap) (locs : List Loc) (ls : Array Slot), fz_T G fz_shM fz_KM s M H locs → lv_has ls 5 [(0, .ref (G.1 0)), (1, .int v1), (3, .int v3)] → ag32 (v3, M) = some M9 → W p l e (fz_rm 1 24) s m args below meth c H locs 0 0 (MQ below (fz_Qv G fz_shM fz_KM M9) args s 0 0 (fz_Fr G fz_KM)) (F0 m 32 ls [])) : ∀ (n : Nat) (v4 : Int32) (M : fz_M) (H : Heap) (locs : List Loc) (ls : Array Slot), fz_T G fz_shM fz_KM s M H locs → lv_has ls 5 [(0, .ref (G.1 0)), (1, .int v1), (3, .int v3), (4, .int v4)] → fz_lp (fun ag z => f_X9_layRows_40_s ag32 ag v1 v3 z.1 z.2) n (v4, M) = some M9 → W p l e (fz_rm 1 24) s m args below meth c H locs 0 0 (MQ below (fz_Qv G fz_shM fz_KM M9) args s 0 0 (fz_Fr G fz_KM)) (F0 m 40 ls []) := by
  intro n
  induction n with
  | zero =>
    intro v4 M H locs ls hT hl h
    cases h
  | succ n ih =>
    intro v4 M H locs ls hT hl h
    have h : f_X9_layRows_40_s ag32 (fz_lp (fun ag z => f_X9_layRows_40_s ag32 ag v1 v3 z.1 z.2) n) v1 v3 v4 M = some M9 := h
    have hag40 := ih
    generalize fz_lp (fun ag z => f_X9_layRows_40_s ag32 ag v1 v3 z.1 z.2) n = ag40 at h hag40
    refine lv_iload C.1 C.2.1 dX9_layRows_40 (lv_at hl 3 rfl) ?_
    refine lv_bipush (v := 6) C.1 C.2.1 dX9_layRows_42 (by decide) ?_
    refine lv_icmp_ge (tgt := 67) C.1 C.2.1 dX9_layRows_44 (by decide) (fun c1 => ?_) (fun c1 => ?_)
    · have h := fz_ip c1 h
      refine lv_iconst (v := 0) C.1 C.2.1 dX9_layRows_67 (by decide) ?_
      refine lv_istore (lv' := [(4, .int 0), (0, .ref (G.1 0)), (1, .int v1), (3, .int v3)]) C.1 C.2.1 dX9_layRows_68 hl (by decide) rfl (fun ls hl => ?_)
      exact b_X9_layRows_70 C hr hlk hF hag32 hT (lv_sub hl [1, 2, 3, 0] rfl) h
    · have h := fz_iq c1 h
      refine lv_aload_n C.1 C.2.1 dX9_layRows_47 rfl (lv_at hl 0 rfl) ?_
      refine fz_getr C hF hT fz_m0 (j := 47) rfl fl_X9_114 dX9_layRows_48 ?_
      refine lv_iload C.1 C.2.1 dX9_layRows_51 (lv_at hl 3 rfl) ?_
      refine lv_aload_n C.1 C.2.1 dX9_layRows_53 rfl (lv_at hl 0 rfl) ?_
      refine fz_getr C hF hT fz_m0 (j := 46) rfl fl_X9_110 dX9_layRows_54 ?_
      refine lv_iload C.1 C.2.1 dX9_layRows_57 (lv_at hl 3 rfl) ?_
      obtain ⟨g2, h⟩ := fz_gd_s h
      refine fz_la C hF hT fz_m34 g2 dX9_layRows_59 ?_
      obtain ⟨g3, h⟩ := fz_gd_s h
      obtain ⟨M4, eM4, h⟩ := fz_bd_s h
      refine fz_las C hF hT fz_m35 g3 dX9_layRows_60 (fun H locs hT => ?_)
      rw [← eM4] at hT
      refine lv_iinc (v := (v4 + 1)) (lv' := [(4, .int (v4 + 1)), (0, .ref (G.1 0)), (1, .int v1), (3, .int v3)]) C.1 C.2.1 dX9_layRows_61 hl (k := 3) rfl rfl (by decide) rfl (fun ls hl => ?_)
      refine lv_goto (tgt := 40) C.1 C.2.1 dX9_layRows_64 (by decide) ?_
      exact hag40 (v4 + 1) M4 _ _ _ hT (lv_sub hl [1, 2, 3, 0] rfl) h
set_option maxHeartbeats 4000000 in
set_option maxRecDepth 100000 in
theorem b_X9_layRows_40 {p : Program} {l : Launch} {e : Env} {s : State} {m : MethodId} {args : Array Value} {below : List Frame} {meth : Method} {c : Code} {G : fz_G}   {ag32 : (Int32 × fz_M) → Option fz_M}  {v1 : Int32} {v3 : Int32} {v4 : Int32} {M : fz_M} {H : Heap} {locs : List Loc} {ls : Array Slot} {M9 : fz_M} (C : CallFix p m c cX9_layRows 5 s args wsL_law RX9) (hr : meth.sig.returnType = none) (hlk : meth.locks = false) (hF : fz_F G fz_KM s) (hag32 : ∀ (v3 : Int32) (M : fz_M) (H : Heap) (locs : List Loc) (ls : Array Slot), fz_T G fz_shM fz_KM s M H locs → lv_has ls 5 [(0, .ref (G.1 0)), (1, .int v1), (3, .int v3)] → ag32 (v3, M) = some M9 → W p l e (fz_rm 1 24) s m args below meth c H locs 0 0 (MQ below (fz_Qv G fz_shM fz_KM M9) args s 0 0 (fz_Fr G fz_KM)) (F0 m 32 ls [])) (hT : fz_T G fz_shM fz_KM s M H locs) (hl : lv_has ls 5 [(0, .ref (G.1 0)), (1, .int v1), (3, .int v3), (4, .int v4)]) (h : f_X9_layRows_40 ag32 v1 v3 v4 M = some M9) : W p l e (fz_rm 1 24) s m args below meth c H locs 0 0 (MQ below (fz_Qv G fz_shM fz_KM M9) args s 0 0 (fz_Fr G fz_KM)) (F0 m 40 ls []) :=
  b_X9_layRows_40_l C hr hlk hF hag32 fz_fuel v4 M H locs ls hT hl h
set_option maxHeartbeats 4000000 in
set_option maxRecDepth 100000 in
theorem b_X9_layRows_32_l {p : Program} {l : Launch} {e : Env} {s : State} {m : MethodId} {args : Array Value} {below : List Frame} {meth : Method} {c : Code} {G : fz_G}     {v1 : Int32}  {M9 : fz_M} (C : CallFix p m c cX9_layRows 5 s args wsL_law RX9) (hr : meth.sig.returnType = none) (hlk : meth.locks = false) (hF : fz_F G fz_KM s)  : ∀ (n : Nat) (v3 : Int32) (M : fz_M) (H : Heap) (locs : List Loc) (ls : Array Slot), fz_T G fz_shM fz_KM s M H locs → lv_has ls 5 [(0, .ref (G.1 0)), (1, .int v1), (3, .int v3)] → fz_lp (fun ag z => f_X9_layRows_32_s ag v1 z.1 z.2) n (v3, M) = some M9 → W p l e (fz_rm 1 24) s m args below meth c H locs 0 0 (MQ below (fz_Qv G fz_shM fz_KM M9) args s 0 0 (fz_Fr G fz_KM)) (F0 m 32 ls []) := by
  intro n
  induction n with
  | zero =>
    intro v3 M H locs ls hT hl h
    cases h
  | succ n ih =>
    intro v3 M H locs ls hT hl h
    have h : f_X9_layRows_32_s (fz_lp (fun ag z => f_X9_layRows_32_s ag v1 z.1 z.2) n) v1 v3 M = some M9 := h
    have hag32 := ih
    generalize fz_lp (fun ag z => f_X9_layRows_32_s ag v1 z.1 z.2) n = ag32 at h hag32
    refine lv_iload_n C.1 C.2.1 dX9_layRows_32 rfl (lv_at hl 2 rfl) ?_
    refine lv_iload_n C.1 C.2.1 dX9_layRows_33 rfl (lv_at hl 1 rfl) ?_
    refine lv_icmp_gt (tgt := 162) C.1 C.2.1 dX9_layRows_34 (by decide) (fun c1 => ?_) (fun c1 => ?_)
    · have h := fz_ip c1 h
      cases h
      exact fz_retv C hr hlk hT dX9_layRows_162
    · have h := fz_iq c1 h
      refine lv_iconst (v := 0) C.1 C.2.1 dX9_layRows_37 (by decide) ?_
      refine lv_istore (lv' := [(4, .int 0), (0, .ref (G.1 0)), (1, .int v1), (3, .int v3)]) C.1 C.2.1 dX9_layRows_38 hl (by decide) rfl (fun ls hl => ?_)
      exact b_X9_layRows_40 C hr hlk hF hag32 hT (lv_sub hl [1, 2, 3, 0] rfl) h
set_option maxHeartbeats 4000000 in
set_option maxRecDepth 100000 in
theorem b_X9_layRows_32 {p : Program} {l : Launch} {e : Env} {s : State} {m : MethodId} {args : Array Value} {below : List Frame} {meth : Method} {c : Code} {G : fz_G}     {v1 : Int32} {v3 : Int32} {M : fz_M} {H : Heap} {locs : List Loc} {ls : Array Slot} {M9 : fz_M} (C : CallFix p m c cX9_layRows 5 s args wsL_law RX9) (hr : meth.sig.returnType = none) (hlk : meth.locks = false) (hF : fz_F G fz_KM s)  (hT : fz_T G fz_shM fz_KM s M H locs) (hl : lv_has ls 5 [(0, .ref (G.1 0)), (1, .int v1), (3, .int v3)]) (h : f_X9_layRows_32 v1 v3 M = some M9) : W p l e (fz_rm 1 24) s m args below meth c H locs 0 0 (MQ below (fz_Qv G fz_shM fz_KM M9) args s 0 0 (fz_Fr G fz_KM)) (F0 m 32 ls []) :=
  b_X9_layRows_32_l C hr hlk hF fz_fuel v3 M H locs ls hT hl h
set_option maxHeartbeats 4000000 in
set_option maxRecDepth 100000 in
theorem b_X9_layRows_23 {p : Program} {l : Launch} {e : Env} {s : State} {m : MethodId} {args : Array Value} {below : List Frame} {meth : Method} {c : Code} {G : fz_G}   {ag2 : (Int32 × fz_M) → Option fz_M}  {v1 : Int32} {v2 : Int32} {v3 : Int32} {s1 : Int32} {s2 : Int64} {M : fz_M} {H : Heap} {locs : List Loc} {ls : Array Slot} {M9 : fz_M} (C : CallFix p m c cX9_layRows 5 s args wsL_law RX9) (hr : meth.sig.returnType = none) (hlk : meth.locks = false) (hF : fz_F G fz_KM s) (hag2 : ∀ (v3 : Int32) (M : fz_M) (H : Heap) (locs : List Loc) (ls : Array Slot), fz_T G fz_shM fz_KM s M H locs → lv_has ls 5 [(0, .ref (G.1 0)), (1, .int v1), (2, .int v2), (3, .int v3)] → ag2 (v3, M) = some M9 → W p l e (fz_rm 1 24) s m args below meth c H locs 0 0 (MQ below (fz_Qv G fz_shM fz_KM M9) args s 0 0 (fz_Fr G fz_KM)) (F0 m 2 ls [])) (hT : fz_T G fz_shM fz_KM s M H locs) (hl : lv_has ls 5 [(0, .ref (G.1 0)), (1, .int v1), (2, .int v2), (3, .int v3)]) (h : f_X9_layRows_23 ag2 v1 v2 v3 s1 s2 M = some M9) : W p l e (fz_rm 1 24) s m args below meth c H locs 0 0 (MQ below (fz_Qv G fz_shM fz_KM M9) args s 0 0 (fz_Fr G fz_KM)) (F0 m 23 ls [.long s2, .int s1, .ref (G.1 34)]) := by
  obtain ⟨g1, h⟩ := fz_gd_s h
  obtain ⟨M2, eM2, h⟩ := fz_bd_s h
  refine fz_las C hF hT fz_m34 g1 dX9_layRows_23 (fun H locs hT => ?_)
  rw [← eM2] at hT
  refine lv_iinc (v := (v3 + 1)) (lv' := [(3, .int (v3 + 1)), (0, .ref (G.1 0)), (1, .int v1), (2, .int v2)]) C.1 C.2.1 dX9_layRows_24 hl (k := 3) rfl rfl (by decide) rfl (fun ls hl => ?_)
  refine lv_goto (tgt := 2) C.1 C.2.1 dX9_layRows_27 (by decide) ?_
  exact hag2 (v3 + 1) M2 _ _ _ hT (lv_sub hl [1, 2, 3, 0] rfl) h
set_option maxHeartbeats 4000000 in
set_option maxRecDepth 100000 in
theorem b_X9_layRows_2_l {p : Program} {l : Launch} {e : Env} {s : State} {m : MethodId} {args : Array Value} {below : List Frame} {meth : Method} {c : Code} {G : fz_G}     {v1 : Int32} {v2 : Int32}  {M9 : fz_M} (C : CallFix p m c cX9_layRows 5 s args wsL_law RX9) (hr : meth.sig.returnType = none) (hlk : meth.locks = false) (hF : fz_F G fz_KM s)  : ∀ (n : Nat) (v3 : Int32) (M : fz_M) (H : Heap) (locs : List Loc) (ls : Array Slot), fz_T G fz_shM fz_KM s M H locs → lv_has ls 5 [(0, .ref (G.1 0)), (1, .int v1), (2, .int v2), (3, .int v3)] → fz_lp (fun ag z => f_X9_layRows_2_s ag v1 v2 z.1 z.2) n (v3, M) = some M9 → W p l e (fz_rm 1 24) s m args below meth c H locs 0 0 (MQ below (fz_Qv G fz_shM fz_KM M9) args s 0 0 (fz_Fr G fz_KM)) (F0 m 2 ls []) := by
  intro n
  induction n with
  | zero =>
    intro v3 M H locs ls hT hl h
    cases h
  | succ n ih =>
    intro v3 M H locs ls hT hl h
    have h : f_X9_layRows_2_s (fz_lp (fun ag z => f_X9_layRows_2_s ag v1 v2 z.1 z.2) n) v1 v2 v3 M = some M9 := h
    have hag2 := ih
    generalize fz_lp (fun ag z => f_X9_layRows_2_s ag v1 v2 z.1 z.2) n = ag2 at h hag2
    refine lv_iload_n C.1 C.2.1 dX9_layRows_2 rfl (lv_at hl 3 rfl) ?_
    refine lv_bipush (v := 6) C.1 C.2.1 dX9_layRows_3 (by decide) ?_
    refine lv_icmp_ge (tgt := 30) C.1 C.2.1 dX9_layRows_5 (by decide) (fun c1 => ?_) (fun c1 => ?_)
    · have h := fz_ip c1 h
      refine lv_iconst (v := 1) C.1 C.2.1 dX9_layRows_30 (by decide) ?_
      refine lv_istore_n (lv' := [(3, .int 1), (0, .ref (G.1 0)), (1, .int v1), (2, .int v2)]) C.1 C.2.1 dX9_layRows_31 rfl hl (by decide) rfl (fun ls hl => ?_)
      exact b_X9_layRows_32 C hr hlk hF hT (lv_sub hl [1, 2, 0] rfl) h
    · have h := fz_iq c1 h
      refine lv_aload_n C.1 C.2.1 dX9_layRows_8 rfl (lv_at hl 0 rfl) ?_
      refine fz_getr C hF hT fz_m0 (j := 46) rfl fl_X9_110 dX9_layRows_9 ?_
      refine lv_iload_n C.1 C.2.1 dX9_layRows_12 rfl (lv_at hl 3 rfl) ?_
      refine lv_iload_n C.1 C.2.1 dX9_layRows_13 rfl (lv_at hl 3 rfl) ?_
      refine lv_iload_n C.1 C.2.1 dX9_layRows_14 rfl (lv_at hl 2 rfl) ?_
      refine lv_icmp_ne (tgt := 22) C.1 C.2.1 dX9_layRows_15 (by decide) (fun c2 => ?_) (fun c2 => ?_)
      · have h := fz_ip c2 h
        refine lv_lconst (v := 0) C.1 C.2.1 dX9_layRows_22 (by decide) ?_
        exact b_X9_layRows_23 C hr hlk hF hag2 hT (lv_sub hl [0, 1, 2, 3] rfl) h
      · have h := fz_iq (not_not_intro c2) h
        refine lv_lconst (v := 1) C.1 C.2.1 dX9_layRows_18 (by decide) ?_
        refine lv_goto (tgt := 23) C.1 C.2.1 dX9_layRows_19 (by decide) ?_
        exact b_X9_layRows_23 C hr hlk hF hag2 hT (lv_sub hl [0, 1, 2, 3] rfl) h
set_option maxHeartbeats 4000000 in
set_option maxRecDepth 100000 in
theorem b_X9_layRows_2 {p : Program} {l : Launch} {e : Env} {s : State} {m : MethodId} {args : Array Value} {below : List Frame} {meth : Method} {c : Code} {G : fz_G}     {v1 : Int32} {v2 : Int32} {v3 : Int32} {M : fz_M} {H : Heap} {locs : List Loc} {ls : Array Slot} {M9 : fz_M} (C : CallFix p m c cX9_layRows 5 s args wsL_law RX9) (hr : meth.sig.returnType = none) (hlk : meth.locks = false) (hF : fz_F G fz_KM s)  (hT : fz_T G fz_shM fz_KM s M H locs) (hl : lv_has ls 5 [(0, .ref (G.1 0)), (1, .int v1), (2, .int v2), (3, .int v3)]) (h : f_X9_layRows_2 v1 v2 v3 M = some M9) : W p l e (fz_rm 1 24) s m args below meth c H locs 0 0 (MQ below (fz_Qv G fz_shM fz_KM M9) args s 0 0 (fz_Fr G fz_KM)) (F0 m 2 ls []) :=
  b_X9_layRows_2_l C hr hlk hF fz_fuel v3 M H locs ls hT hl h
set_option maxHeartbeats 4000000 in
set_option maxRecDepth 100000 in
theorem b_X9_layRows_0 {p : Program} {l : Launch} {e : Env} {s : State} {m : MethodId} {args : Array Value} {below : List Frame} {meth : Method} {c : Code} {G : fz_G}     {v1 : Int32} {v2 : Int32} {M : fz_M} {H : Heap} {locs : List Loc} {ls : Array Slot} {M9 : fz_M} (C : CallFix p m c cX9_layRows 5 s args wsL_law RX9) (hr : meth.sig.returnType = none) (hlk : meth.locks = false) (hF : fz_F G fz_KM s)  (hT : fz_T G fz_shM fz_KM s M H locs) (hl : lv_has ls 5 [(0, .ref (G.1 0)), (1, .int v1), (2, .int v2)]) (h : f_X9_layRows v1 v2 M = some M9) : W p l e (fz_rm 1 24) s m args below meth c H locs 0 0 (MQ below (fz_Qv G fz_shM fz_KM M9) args s 0 0 (fz_Fr G fz_KM)) (F0 m 0 ls []) := by
  refine lv_iconst (v := 0) C.1 C.2.1 dX9_layRows_0 (by decide) ?_
  refine lv_istore_n (lv' := [(3, .int 0), (0, .ref (G.1 0)), (1, .int v1), (2, .int v2)]) C.1 C.2.1 dX9_layRows_1 rfl hl (by decide) rfl (fun ls hl => ?_)
  exact b_X9_layRows_2 C hr hlk hF hT (lv_sub hl [1, 2, 3, 0] rfl) h
set_option maxRecDepth 100000 in
theorem c_X9_layRows (l : Launch) (G : fz_G)  (a0 : Int32) (a1 : Int32) (M : fz_M) (M9 : fz_M) (h : f_X9_layRows a0 a1 M = some M9) : fz_Me l yX9_layRows cX9_layRows 5 none 1 24 G fz_shM fz_KM [.ref (G.1 0), .int a0, .int a1] M (fz_Qv G fz_shM fz_KM M9) := by
  refine fz_body (by decide) (Nat.le_of_ble_eq_true rfl) ?_
  intro p e s m args below meth c H locs ls C hr hlk hF hT hl
  have C : CallFix p m c cX9_layRows 5 s args wsL_law RX9 := C
  have hl : lv_has ls 5 [(0, .ref (G.1 0)), (1, .int a0), (2, .int a1)] := hl
  exact b_X9_layRows_0 C hr hlk hF hT (lv_sub hl [0, 1, 2] rfl) h
set_option maxHeartbeats 4000000 in
set_option maxRecDepth 100000 in
theorem b_X9_rows_44_l {p : Program} {l : Launch} {e : Env} {s : State} {m : MethodId} {args : Array Value} {below : List Frame} {meth : Method} {c : Code} {G : fz_G}      {M : fz_M} {r : Int64} {M9 : fz_M} (C : CallFix p m c cX9_rows 6 s args wsL_law RX9) (hr : meth.sig.returnType = (some .long)) (hlk : meth.locks = false) (hF : fz_F G fz_KM s)  : ∀ (n : Nat) (v3 : Int64) (v5 : Int32) (H : Heap) (locs : List Loc) (ls : Array Slot), fz_T G fz_shM fz_KM s M H locs → lv_has ls 6 [(0, .ref (G.1 0)), (3, .long v3), (5, .int v5)] → fz_lp (fun ag z => f_X9_rows_44_s ag z.1 z.2 M) n (v3, v5) = some (r, M9) → W p l e (fz_rm 2 48) s m args below meth c H locs 0 0 (MQ below (fz_Ql G fz_shM fz_KM r M9) args s 0 0 (fz_Fr G fz_KM)) (F0 m 44 ls []) := by
  intro n
  induction n with
  | zero =>
    intro v3 v5 H locs ls hT hl h
    cases h
  | succ n ih =>
    intro v3 v5 H locs ls hT hl h
    have h : f_X9_rows_44_s (fz_lp (fun ag z => f_X9_rows_44_s ag z.1 z.2 M) n) v3 v5 M = some (r, M9) := h
    have hag44 := ih
    generalize fz_lp (fun ag z => f_X9_rows_44_s ag z.1 z.2 M) n = ag44 at h hag44
    refine lv_iload C.1 C.2.1 dX9_rows_44 (lv_at hl 2 rfl) ?_
    refine lv_bipush (v := 6) C.1 C.2.1 dX9_rows_46 (by decide) ?_
    refine lv_icmp_ge (tgt := 67) C.1 C.2.1 dX9_rows_48 (by decide) (fun c1 => ?_) (fun c1 => ?_)
    · have h := fz_ip c1 h
      refine lv_lload_n C.1 C.2.1 dX9_rows_67 rfl (lv_at hl 1 rfl) ?_
      cases h
      exact fz_retl C hr hlk hT dX9_rows_68
    · have h := fz_iq c1 h
      refine lv_lload_n C.1 C.2.1 dX9_rows_51 rfl (lv_at hl 1 rfl) ?_
      refine lv_aload_n C.1 C.2.1 dX9_rows_52 rfl (lv_at hl 0 rfl) ?_
      refine fz_getr C hF hT fz_m0 (j := 46) rfl fl_X9_110 dX9_rows_53 ?_
      refine lv_iload C.1 C.2.1 dX9_rows_56 (lv_at hl 2 rfl) ?_
      obtain ⟨g2, h⟩ := fz_gd_s h
      refine fz_la C hF hT fz_m34 g2 dX9_rows_58 ?_
      refine lv_ladd C.1 C.2.1 dX9_rows_59 ?_
      obtain ⟨x3, ex3, h⟩ := fz_bd_s h
      refine fz_nml ex3 ?_
      refine lv_lstore_n (lv' := [(3, .long x3), (0, .ref (G.1 0)), (5, .int v5)]) C.1 C.2.1 dX9_rows_60 rfl hl (by decide) rfl (fun ls hl => ?_)
      refine lv_iinc (v := (v5 + 1)) (lv' := [(5, .int (v5 + 1)), (3, .long x3), (0, .ref (G.1 0))]) C.1 C.2.1 dX9_rows_61 hl (k := 2) rfl rfl (by decide) rfl (fun ls hl => ?_)
      refine lv_goto (tgt := 44) C.1 C.2.1 dX9_rows_64 (by decide) ?_
      exact hag44 x3 (v5 + 1) _ _ _ hT (lv_sub hl [2, 1, 0] rfl) h
set_option maxHeartbeats 4000000 in
set_option maxRecDepth 100000 in
theorem b_X9_rows_44 {p : Program} {l : Launch} {e : Env} {s : State} {m : MethodId} {args : Array Value} {below : List Frame} {meth : Method} {c : Code} {G : fz_G}     {v3 : Int64} {v5 : Int32} {M : fz_M} {H : Heap} {locs : List Loc} {ls : Array Slot} {r : Int64} {M9 : fz_M} (C : CallFix p m c cX9_rows 6 s args wsL_law RX9) (hr : meth.sig.returnType = (some .long)) (hlk : meth.locks = false) (hF : fz_F G fz_KM s)  (hT : fz_T G fz_shM fz_KM s M H locs) (hl : lv_has ls 6 [(0, .ref (G.1 0)), (3, .long v3), (5, .int v5)]) (h : f_X9_rows_44 v3 v5 M = some (r, M9)) : W p l e (fz_rm 2 48) s m args below meth c H locs 0 0 (MQ below (fz_Ql G fz_shM fz_KM r M9) args s 0 0 (fz_Fr G fz_KM)) (F0 m 44 ls []) :=
  b_X9_rows_44_l C hr hlk hF fz_fuel v3 v5 H locs ls hT hl h
set_option maxHeartbeats 4000000 in
set_option maxRecDepth 100000 in
theorem b_X9_rows_0 {p : Program} {l : Launch} {e : Env} {s : State} {m : MethodId} {args : Array Value} {below : List Frame} {meth : Method} {c : Code} {G : fz_G}     {v1 : Int32} {v2 : Int32} {M : fz_M} {H : Heap} {locs : List Loc} {ls : Array Slot} {r : Int64} {M9 : fz_M} (C : CallFix p m c cX9_rows 6 s args wsL_law RX9) (hr : meth.sig.returnType = (some .long)) (hlk : meth.locks = false) (hF : fz_F G fz_KM s)  (hT : fz_T G fz_shM fz_KM s M H locs) (hl : lv_has ls 6 [(0, .ref (G.1 0)), (1, .int v1), (2, .int v2)]) (h : f_X9_rows v1 v2 M = some (r, M9)) : W p l e (fz_rm 2 48) s m args below meth c H locs 0 0 (MQ below (fz_Ql G fz_shM fz_KM r M9) args s 0 0 (fz_Fr G fz_KM)) (F0 m 0 ls []) := by
  refine lv_aload_n C.1 C.2.1 dX9_rows_0 rfl (lv_at hl 0 rfl) ?_
  refine lv_iconst (v := 0) C.1 C.2.1 dX9_rows_1 (by decide) ?_
  obtain ⟨M1, eM1, h⟩ := fz_bd_s h
  refine fz_puti C hF hT fz_m0 (j := 0) rfl fw_X9_117 dX9_rows_2 (fun H locs hT => ?_)
  rw [← eM1] at hT
  refine lv_aload_n C.1 C.2.1 dX9_rows_5 rfl (lv_at hl 0 rfl) ?_
  refine lv_iload_n C.1 C.2.1 dX9_rows_6 rfl (lv_at hl 2 rfl) ?_
  obtain ⟨r2, w4, h⟩ := fz_b1_s h
  refine fz_ci hT (fz_runV (np := 1) (rest := []) C hF hT (c_X9_noHouse l G v2 M1 r2 w4) fz_m0 (T := TX9) (N := 49) rfl cl_X9_200 rfl hl.1 rfl (Nat.le_of_ble_eq_true rfl) ⟨Nat.le_of_ble_eq_true rfl, Nat.le_of_ble_eq_true rfl, Nat.zero_le _, Nat.zero_le _⟩ dX9_rows_7) (fun H locs hT => ?_)
  refine lv_if_eq (tgt := 17) C.1 C.2.1 dX9_rows_10 (by decide) (fun c5 => ?_) (fun c5 => ?_)
  · have h := fz_ip c5 h
    refine lv_iload_n C.1 C.2.1 dX9_rows_17 rfl (lv_at hl 1 rfl) ?_
    refine lv_i2l (v := (v1.toInt64)) C.1 C.2.1 dX9_rows_18 rfl ?_
    refine lv_lconst (v := 0) C.1 C.2.1 dX9_rows_19 (by decide) ?_
    refine lv_ldc2 (v := 9) C.1 C.2.1 C.2.2.2.1 (C.2.2.2.2 _ (fz_q18 _ (List.mem_of_getElem? (i := 23) rfl))) dX9_rows_20 ?_
    obtain ⟨r6, w8, h⟩ := fz_b1_s h
    refine fz_ci hT (fz_runS (np := 3) (rest := []) C hF hT (c_X9_in l G (v1.toInt64) 0 9 M1 r6 w8) cl_X9_124 rfl hl.1 rfl (Nat.le_of_ble_eq_true rfl) ⟨Nat.le_of_ble_eq_true rfl, Nat.le_of_ble_eq_true rfl, Nat.zero_le _, Nat.zero_le _⟩ dX9_rows_23) (fun H locs hT => ?_)
    refine lv_if_ne (tgt := 33) C.1 C.2.1 dX9_rows_26 (by decide) (fun c9 => ?_) (fun c9 => ?_)
    · have h := fz_ip c9 h
      refine lv_aload_n C.1 C.2.1 dX9_rows_33 rfl (lv_at hl 0 rfl) ?_
      refine lv_iload_n C.1 C.2.1 dX9_rows_34 rfl (lv_at hl 1 rfl) ?_
      refine lv_iload_n C.1 C.2.1 dX9_rows_35 rfl (lv_at hl 2 rfl) ?_
      obtain ⟨M11, w12, h⟩ := fz_b1_s h
      refine fz_cv hT (fz_runV (np := 2) (rest := []) C hF hT (c_X9_layRows l G v1 v2 M1 M11 w12) fz_m0 (T := TX9) (N := 49) rfl cl_X9_264 rfl hl.1 rfl (Nat.le_of_ble_eq_true rfl) ⟨Nat.le_of_ble_eq_true rfl, Nat.le_of_ble_eq_true rfl, Nat.zero_le _, Nat.zero_le _⟩ dX9_rows_36) (fun H locs hT => ?_)
      refine lv_lconst (v := 0) C.1 C.2.1 dX9_rows_39 (by decide) ?_
      refine lv_lstore_n (lv' := [(3, .long 0), (0, .ref (G.1 0)), (1, .int v1), (2, .int v2)]) C.1 C.2.1 dX9_rows_40 rfl hl (by decide) rfl (fun ls hl => ?_)
      refine lv_iconst (v := 0) C.1 C.2.1 dX9_rows_41 (by decide) ?_
      refine lv_istore (lv' := [(5, .int 0), (3, .long 0), (0, .ref (G.1 0)), (1, .int v1), (2, .int v2)]) C.1 C.2.1 dX9_rows_42 hl (by decide) rfl (fun ls hl => ?_)
      exact b_X9_rows_44 C hr hlk hF hT (lv_sub hl [2, 1, 0] rfl) h
    · have h := fz_iq (not_not_intro c9) h
      refine lv_ldc2 (v := (-2)) C.1 C.2.1 C.2.2.2.1 (C.2.2.2.2 _ (fz_q30 _ (List.mem_of_getElem? (i := 10) rfl))) dX9_rows_29 ?_
      cases h
      exact fz_retl C hr hlk hT dX9_rows_32
  · have h := fz_iq c5 h
    refine lv_ldc2 (v := (-1)) C.1 C.2.1 C.2.2.2.1 (C.2.2.2.2 _ (fz_q30 _ (List.mem_of_getElem? (i := 9) rfl))) dX9_rows_13 ?_
    cases h
    exact fz_retl C hr hlk hT dX9_rows_16
set_option maxRecDepth 100000 in
theorem c_X9_rows (l : Launch) (G : fz_G)  (a0 : Int32) (a1 : Int32) (M : fz_M) (r : Int64) (M9 : fz_M) (h : f_X9_rows a0 a1 M = some (r, M9)) : fz_Me l yX9_rows cX9_rows 6 (some .long) 2 48 G fz_shM fz_KM [.ref (G.1 0), .int a0, .int a1] M (fz_Ql G fz_shM fz_KM r M9) := by
  refine fz_body (by decide) (Nat.le_of_ble_eq_true rfl) ?_
  intro p e s m args below meth c H locs ls C hr hlk hF hT hl
  have C : CallFix p m c cX9_rows 6 s args wsL_law RX9 := C
  have hl : lv_has ls 6 [(0, .ref (G.1 0)), (1, .int a0), (2, .int a1)] := hl
  exact b_X9_rows_0 C hr hlk hF hT (lv_sub hl [0, 1, 2] rfl) h
set_option maxHeartbeats 4000000 in
set_option maxRecDepth 100000 in
theorem b_X9_ends_69 {p : Program} {l : Launch} {e : Env} {s : State} {m : MethodId} {args : Array Value} {below : List Frame} {meth : Method} {c : Code} {G : fz_G}   {ag41 : (Int32 × Int32) → Option (Int32 × fz_M)}  {v4 : Int32} {s0 : Int32} {s1 : Int32} {M : fz_M} {H : Heap} {locs : List Loc} {ls : Array Slot} {r : Int32} {M9 : fz_M} (C : CallFix p m c cX9_ends 5 s args wsL_law RX9) (hr : meth.sig.returnType = (some .int)) (hlk : meth.locks = false) (hF : fz_F G fz_KM s) (hag41 : ∀ (v3 : Int32) (v4 : Int32) (H : Heap) (locs : List Loc) (ls : Array Slot), fz_T G fz_shM fz_KM s M H locs → lv_has ls 5 [(0, .ref (G.1 0)), (3, .int v3), (4, .int v4)] → ag41 (v3, v4) = some (r, M9) → W p l e (fz_rm 2 48) s m args below meth c H locs 0 0 (MQ below (fz_Qi G fz_shM fz_KM r M9) args s 0 0 (fz_Fr G fz_KM)) (F0 m 41 ls [])) (hT : fz_T G fz_shM fz_KM s M H locs) (hl : lv_has ls 5 [(0, .ref (G.1 0)), (4, .int v4)]) (h : f_X9_ends_69 ag41 v4 s0 s1 M = some (r, M9)) : W p l e (fz_rm 2 48) s m args below meth c H locs 0 0 (MQ below (fz_Qi G fz_shM fz_KM r M9) args s 0 0 (fz_Fr G fz_KM)) (F0 m 69 ls [.int s1, .int s0]) := by
  refine lv_ior C.1 C.2.1 dX9_ends_69 ?_
  obtain ⟨x1, ex1, h⟩ := fz_bd_s h
  refine fz_nmi ex1 ?_
  refine lv_istore_n (lv' := [(3, .int x1), (0, .ref (G.1 0)), (4, .int v4)]) C.1 C.2.1 dX9_ends_70 rfl hl (by decide) rfl (fun ls hl => ?_)
  refine lv_iinc (v := (v4 + 1)) (lv' := [(4, .int (v4 + 1)), (3, .int x1), (0, .ref (G.1 0))]) C.1 C.2.1 dX9_ends_71 hl (k := 2) rfl rfl (by decide) rfl (fun ls hl => ?_)
  refine lv_goto (tgt := 41) C.1 C.2.1 dX9_ends_74 (by decide) ?_
  exact hag41 x1 (v4 + 1) _ _ _ hT (lv_sub hl [2, 1, 0] rfl) h
set_option maxHeartbeats 4000000 in
set_option maxRecDepth 100000 in
theorem b_X9_ends_41_l {p : Program} {l : Launch} {e : Env} {s : State} {m : MethodId} {args : Array Value} {below : List Frame} {meth : Method} {c : Code} {G : fz_G}      {M : fz_M} {r : Int32} {M9 : fz_M} (C : CallFix p m c cX9_ends 5 s args wsL_law RX9) (hr : meth.sig.returnType = (some .int)) (hlk : meth.locks = false) (hF : fz_F G fz_KM s)  : ∀ (n : Nat) (v3 : Int32) (v4 : Int32) (H : Heap) (locs : List Loc) (ls : Array Slot), fz_T G fz_shM fz_KM s M H locs → lv_has ls 5 [(0, .ref (G.1 0)), (3, .int v3), (4, .int v4)] → fz_lp (fun ag z => f_X9_ends_41_s ag z.1 z.2 M) n (v3, v4) = some (r, M9) → W p l e (fz_rm 2 48) s m args below meth c H locs 0 0 (MQ below (fz_Qi G fz_shM fz_KM r M9) args s 0 0 (fz_Fr G fz_KM)) (F0 m 41 ls []) := by
  intro n
  induction n with
  | zero =>
    intro v3 v4 H locs ls hT hl h
    cases h
  | succ n ih =>
    intro v3 v4 H locs ls hT hl h
    have h : f_X9_ends_41_s (fz_lp (fun ag z => f_X9_ends_41_s ag z.1 z.2 M) n) v3 v4 M = some (r, M9) := h
    have hag41 := ih
    generalize fz_lp (fun ag z => f_X9_ends_41_s ag z.1 z.2 M) n = ag41 at h hag41
    refine lv_iload C.1 C.2.1 dX9_ends_41 (lv_at hl 2 rfl) ?_
    refine lv_bipush (v := 6) C.1 C.2.1 dX9_ends_43 (by decide) ?_
    refine lv_icmp_ge (tgt := 77) C.1 C.2.1 dX9_ends_45 (by decide) (fun c1 => ?_) (fun c1 => ?_)
    · have h := fz_ip c1 h
      refine lv_iload_n C.1 C.2.1 dX9_ends_77 rfl (lv_at hl 1 rfl) ?_
      cases h
      exact fz_reti C hr hlk hT dX9_ends_78
    · have h := fz_iq c1 h
      refine lv_iload_n C.1 C.2.1 dX9_ends_48 rfl (lv_at hl 1 rfl) ?_
      refine lv_aload_n C.1 C.2.1 dX9_ends_49 rfl (lv_at hl 0 rfl) ?_
      refine fz_getr C hF hT fz_m0 (j := 46) rfl fl_X9_110 dX9_ends_50 ?_
      refine lv_iload C.1 C.2.1 dX9_ends_53 (lv_at hl 2 rfl) ?_
      obtain ⟨g2, h⟩ := fz_gd_s h
      refine fz_la C hF hT fz_m34 g2 dX9_ends_55 ?_
      refine lv_lconst (v := 0) C.1 C.2.1 dX9_ends_56 (by decide) ?_
      refine W.lcmp C.1 C.2.1 dX9_ends_57 ?_
      refine lv_if_le (tgt := 68) C.1 C.2.1 dX9_ends_58 (by decide) (fun c3 => ?_) (fun c3 => ?_)
      · have h := fz_ip c3 h
        refine lv_iconst (v := 0) C.1 C.2.1 dX9_ends_68 (by decide) ?_
        exact b_X9_ends_69 C hr hlk hF hag41 hT (lv_sub hl [0, 2] rfl) h
      · have h := fz_iq c3 h
        refine lv_iconst (v := 1) C.1 C.2.1 dX9_ends_61 (by decide) ?_
        refine lv_iload C.1 C.2.1 dX9_ends_62 (lv_at hl 2 rfl) ?_
        refine lv_ishl C.1 C.2.1 dX9_ends_64 ?_
        refine lv_goto (tgt := 69) C.1 C.2.1 dX9_ends_65 (by decide) ?_
        exact b_X9_ends_69 C hr hlk hF hag41 hT (lv_sub hl [0, 2] rfl) h
set_option maxHeartbeats 4000000 in
set_option maxRecDepth 100000 in
theorem b_X9_ends_41 {p : Program} {l : Launch} {e : Env} {s : State} {m : MethodId} {args : Array Value} {below : List Frame} {meth : Method} {c : Code} {G : fz_G}     {v3 : Int32} {v4 : Int32} {M : fz_M} {H : Heap} {locs : List Loc} {ls : Array Slot} {r : Int32} {M9 : fz_M} (C : CallFix p m c cX9_ends 5 s args wsL_law RX9) (hr : meth.sig.returnType = (some .int)) (hlk : meth.locks = false) (hF : fz_F G fz_KM s)  (hT : fz_T G fz_shM fz_KM s M H locs) (hl : lv_has ls 5 [(0, .ref (G.1 0)), (3, .int v3), (4, .int v4)]) (h : f_X9_ends_41 v3 v4 M = some (r, M9)) : W p l e (fz_rm 2 48) s m args below meth c H locs 0 0 (MQ below (fz_Qi G fz_shM fz_KM r M9) args s 0 0 (fz_Fr G fz_KM)) (F0 m 41 ls []) :=
  b_X9_ends_41_l C hr hlk hF fz_fuel v3 v4 H locs ls hT hl h
set_option maxHeartbeats 4000000 in
set_option maxRecDepth 100000 in
theorem b_X9_ends_0 {p : Program} {l : Launch} {e : Env} {s : State} {m : MethodId} {args : Array Value} {below : List Frame} {meth : Method} {c : Code} {G : fz_G}     {v1 : Int32} {v2 : Int32} {M : fz_M} {H : Heap} {locs : List Loc} {ls : Array Slot} {r : Int32} {M9 : fz_M} (C : CallFix p m c cX9_ends 5 s args wsL_law RX9) (hr : meth.sig.returnType = (some .int)) (hlk : meth.locks = false) (hF : fz_F G fz_KM s)  (hT : fz_T G fz_shM fz_KM s M H locs) (hl : lv_has ls 5 [(0, .ref (G.1 0)), (1, .int v1), (2, .int v2)]) (h : f_X9_ends v1 v2 M = some (r, M9)) : W p l e (fz_rm 2 48) s m args below meth c H locs 0 0 (MQ below (fz_Qi G fz_shM fz_KM r M9) args s 0 0 (fz_Fr G fz_KM)) (F0 m 0 ls []) := by
  refine lv_aload_n C.1 C.2.1 dX9_ends_0 rfl (lv_at hl 0 rfl) ?_
  refine lv_iconst (v := 0) C.1 C.2.1 dX9_ends_1 (by decide) ?_
  obtain ⟨M1, eM1, h⟩ := fz_bd_s h
  refine fz_puti C hF hT fz_m0 (j := 0) rfl fw_X9_117 dX9_ends_2 (fun H locs hT => ?_)
  rw [← eM1] at hT
  refine lv_aload_n C.1 C.2.1 dX9_ends_5 rfl (lv_at hl 0 rfl) ?_
  refine lv_iload_n C.1 C.2.1 dX9_ends_6 rfl (lv_at hl 2 rfl) ?_
  obtain ⟨r2, w4, h⟩ := fz_b1_s h
  refine fz_ci hT (fz_runV (np := 1) (rest := []) C hF hT (c_X9_noHouse l G v2 M1 r2 w4) fz_m0 (T := TX9) (N := 49) rfl cl_X9_200 rfl hl.1 rfl (Nat.le_of_ble_eq_true rfl) ⟨Nat.le_of_ble_eq_true rfl, Nat.le_of_ble_eq_true rfl, Nat.zero_le _, Nat.zero_le _⟩ dX9_ends_7) (fun H locs hT => ?_)
  refine lv_if_eq (tgt := 15) C.1 C.2.1 dX9_ends_10 (by decide) (fun c5 => ?_) (fun c5 => ?_)
  · have h := fz_ip c5 h
    refine lv_iload_n C.1 C.2.1 dX9_ends_15 rfl (lv_at hl 1 rfl) ?_
    refine lv_i2l (v := (v1.toInt64)) C.1 C.2.1 dX9_ends_16 rfl ?_
    refine lv_lconst (v := 0) C.1 C.2.1 dX9_ends_17 (by decide) ?_
    refine lv_ldc2 (v := 9) C.1 C.2.1 C.2.2.2.1 (C.2.2.2.2 _ (fz_q18 _ (List.mem_of_getElem? (i := 23) rfl))) dX9_ends_18 ?_
    obtain ⟨r6, w8, h⟩ := fz_b1_s h
    refine fz_ci hT (fz_runS (np := 3) (rest := []) C hF hT (c_X9_in l G (v1.toInt64) 0 9 M1 r6 w8) cl_X9_124 rfl hl.1 rfl (Nat.le_of_ble_eq_true rfl) ⟨Nat.le_of_ble_eq_true rfl, Nat.le_of_ble_eq_true rfl, Nat.zero_le _, Nat.zero_le _⟩ dX9_ends_21) (fun H locs hT => ?_)
    refine lv_if_ne (tgt := 30) C.1 C.2.1 dX9_ends_24 (by decide) (fun c9 => ?_) (fun c9 => ?_)
    · have h := fz_ip c9 h
      refine lv_aload_n C.1 C.2.1 dX9_ends_30 rfl (lv_at hl 0 rfl) ?_
      refine lv_iload_n C.1 C.2.1 dX9_ends_31 rfl (lv_at hl 1 rfl) ?_
      refine lv_iload_n C.1 C.2.1 dX9_ends_32 rfl (lv_at hl 2 rfl) ?_
      obtain ⟨M11, w12, h⟩ := fz_b1_s h
      refine fz_cv hT (fz_runV (np := 2) (rest := []) C hF hT (c_X9_layRows l G v1 v2 M1 M11 w12) fz_m0 (T := TX9) (N := 49) rfl cl_X9_264 rfl hl.1 rfl (Nat.le_of_ble_eq_true rfl) ⟨Nat.le_of_ble_eq_true rfl, Nat.le_of_ble_eq_true rfl, Nat.zero_le _, Nat.zero_le _⟩ dX9_ends_33) (fun H locs hT => ?_)
      refine lv_iconst (v := 0) C.1 C.2.1 dX9_ends_36 (by decide) ?_
      refine lv_istore_n (lv' := [(3, .int 0), (0, .ref (G.1 0)), (1, .int v1), (2, .int v2)]) C.1 C.2.1 dX9_ends_37 rfl hl (by decide) rfl (fun ls hl => ?_)
      refine lv_iconst (v := 0) C.1 C.2.1 dX9_ends_38 (by decide) ?_
      refine lv_istore (lv' := [(4, .int 0), (3, .int 0), (0, .ref (G.1 0)), (1, .int v1), (2, .int v2)]) C.1 C.2.1 dX9_ends_39 hl (by decide) rfl (fun ls hl => ?_)
      exact b_X9_ends_41 C hr hlk hF hT (lv_sub hl [2, 1, 0] rfl) h
    · have h := fz_iq (not_not_intro c9) h
      refine lv_bipush (v := (-2)) C.1 C.2.1 dX9_ends_27 (by decide) ?_
      cases h
      exact fz_reti C hr hlk hT dX9_ends_29
  · have h := fz_iq c5 h
    refine lv_iconst (v := (-1)) C.1 C.2.1 dX9_ends_13 (by decide) ?_
    cases h
    exact fz_reti C hr hlk hT dX9_ends_14
set_option maxRecDepth 100000 in
theorem c_X9_ends (l : Launch) (G : fz_G)  (a0 : Int32) (a1 : Int32) (M : fz_M) (r : Int32) (M9 : fz_M) (h : f_X9_ends a0 a1 M = some (r, M9)) : fz_Me l yX9_ends cX9_ends 5 (some .int) 2 48 G fz_shM fz_KM [.ref (G.1 0), .int a0, .int a1] M (fz_Qi G fz_shM fz_KM r M9) := by
  refine fz_body (by decide) (Nat.le_of_ble_eq_true rfl) ?_
  intro p e s m args below meth c H locs ls C hr hlk hF hT hl
  have C : CallFix p m c cX9_ends 5 s args wsL_law RX9 := C
  have hl : lv_has ls 5 [(0, .ref (G.1 0)), (1, .int a0), (2, .int a1)] := hl
  exact b_X9_ends_0 C hr hlk hF hT (lv_sub hl [0, 1, 2] rfl) h
set_option maxHeartbeats 4000000 in
set_option maxRecDepth 100000 in
theorem b_X9_keep_38_l {p : Program} {l : Launch} {e : Env} {s : State} {m : MethodId} {args : Array Value} {below : List Frame} {meth : Method} {c : Code} {G : fz_G}     {v1 : Int32}  {r : Int32} {M9 : fz_M} (C : CallFix p m c cX9_keep 3 s args wsL_law RX9) (hr : meth.sig.returnType = (some .int)) (hlk : meth.locks = false) (hF : fz_F G fz_KM s)  : ∀ (n : Nat) (v2 : Int32) (M : fz_M) (H : Heap) (locs : List Loc) (ls : Array Slot), fz_T G fz_shM fz_KM s M H locs → lv_has ls 3 [(0, .ref (G.1 0)), (1, .int v1), (2, .int v2)] → fz_lp (fun ag z => f_X9_keep_38_s ag v1 z.1 z.2) n (v2, M) = some (r, M9) → W p l e (fz_rm 1 25) s m args below meth c H locs 0 0 (MQ below (fz_Qi G fz_shM fz_KM r M9) args s 0 0 (fz_Fr G fz_KM)) (F0 m 38 ls []) := by
  intro n
  induction n with
  | zero =>
    intro v2 M H locs ls hT hl h
    cases h
  | succ n ih =>
    intro v2 M H locs ls hT hl h
    have h : f_X9_keep_38_s (fz_lp (fun ag z => f_X9_keep_38_s ag v1 z.1 z.2) n) v1 v2 M = some (r, M9) := h
    have hag38 := ih
    generalize fz_lp (fun ag z => f_X9_keep_38_s ag v1 z.1 z.2) n = ag38 at h hag38
    refine lv_iload_n C.1 C.2.1 dX9_keep_38 rfl (lv_at hl 2 rfl) ?_
    refine lv_bipush (v := 10) C.1 C.2.1 dX9_keep_39 (by decide) ?_
    refine lv_icmp_ge (tgt := 67) C.1 C.2.1 dX9_keep_41 (by decide) (fun c1 => ?_) (fun c1 => ?_)
    · have h := fz_ip c1 h
      refine lv_aload_n C.1 C.2.1 dX9_keep_67 rfl (lv_at hl 0 rfl) ?_
      refine fz_geti C hF hT fz_m0 (j := 21) rfl fl_X9_191 dX9_keep_68 ?_
      cases h
      exact fz_reti C hr hlk hT dX9_keep_71
    · have h := fz_iq c1 h
      refine lv_aload_n C.1 C.2.1 dX9_keep_44 rfl (lv_at hl 0 rfl) ?_
      refine fz_getr C hF hT fz_m0 (j := 37) rfl fl_X9_89 dX9_keep_45 ?_
      refine lv_bipush (v := 10) C.1 C.2.1 dX9_keep_48 (by decide) ?_
      refine lv_iload_n C.1 C.2.1 dX9_keep_50 rfl (lv_at hl 1 rfl) ?_
      refine lv_imul C.1 C.2.1 dX9_keep_51 ?_
      refine lv_iload_n C.1 C.2.1 dX9_keep_52 rfl (lv_at hl 2 rfl) ?_
      refine lv_iadd C.1 C.2.1 dX9_keep_53 ?_
      refine lv_aload_n C.1 C.2.1 dX9_keep_54 rfl (lv_at hl 0 rfl) ?_
      refine fz_getr C hF hT fz_m0 (j := 12) rfl fl_X9_28 dX9_keep_55 ?_
      refine lv_iload_n C.1 C.2.1 dX9_keep_58 rfl (lv_at hl 2 rfl) ?_
      obtain ⟨g2, h⟩ := fz_gd_s h
      refine fz_za C hF hT fz_m7 g2 dX9_keep_59 ?_
      obtain ⟨g3, h⟩ := fz_gd_s h
      obtain ⟨M4, eM4, h⟩ := fz_bd_s h
      refine fz_zas C hF hT fz_m27 g3 dX9_keep_60 (fun H locs hT => ?_)
      rw [← eM4] at hT
      refine lv_iinc (v := (v2 + 1)) (lv' := [(2, .int (v2 + 1)), (0, .ref (G.1 0)), (1, .int v1)]) C.1 C.2.1 dX9_keep_61 hl (k := 2) rfl rfl (by decide) rfl (fun ls hl => ?_)
      refine lv_goto (tgt := 38) C.1 C.2.1 dX9_keep_64 (by decide) ?_
      exact hag38 (v2 + 1) M4 _ _ _ hT (lv_sub hl [1, 2, 0] rfl) h
set_option maxHeartbeats 4000000 in
set_option maxRecDepth 100000 in
theorem b_X9_keep_38 {p : Program} {l : Launch} {e : Env} {s : State} {m : MethodId} {args : Array Value} {below : List Frame} {meth : Method} {c : Code} {G : fz_G}     {v1 : Int32} {v2 : Int32} {M : fz_M} {H : Heap} {locs : List Loc} {ls : Array Slot} {r : Int32} {M9 : fz_M} (C : CallFix p m c cX9_keep 3 s args wsL_law RX9) (hr : meth.sig.returnType = (some .int)) (hlk : meth.locks = false) (hF : fz_F G fz_KM s)  (hT : fz_T G fz_shM fz_KM s M H locs) (hl : lv_has ls 3 [(0, .ref (G.1 0)), (1, .int v1), (2, .int v2)]) (h : f_X9_keep_38 v1 v2 M = some (r, M9)) : W p l e (fz_rm 1 25) s m args below meth c H locs 0 0 (MQ below (fz_Qi G fz_shM fz_KM r M9) args s 0 0 (fz_Fr G fz_KM)) (F0 m 38 ls []) :=
  b_X9_keep_38_l C hr hlk hF fz_fuel v2 M H locs ls hT hl h
set_option maxHeartbeats 4000000 in
set_option maxRecDepth 100000 in
theorem b_X9_keep_0 {p : Program} {l : Launch} {e : Env} {s : State} {m : MethodId} {args : Array Value} {below : List Frame} {meth : Method} {c : Code} {G : fz_G}     {v1 : Int32} {M : fz_M} {H : Heap} {locs : List Loc} {ls : Array Slot} {r : Int32} {M9 : fz_M} (C : CallFix p m c cX9_keep 3 s args wsL_law RX9) (hr : meth.sig.returnType = (some .int)) (hlk : meth.locks = false) (hF : fz_F G fz_KM s)  (hT : fz_T G fz_shM fz_KM s M H locs) (hl : lv_has ls 3 [(0, .ref (G.1 0)), (1, .int v1)]) (h : f_X9_keep v1 M = some (r, M9)) : W p l e (fz_rm 1 25) s m args below meth c H locs 0 0 (MQ below (fz_Qi G fz_shM fz_KM r M9) args s 0 0 (fz_Fr G fz_KM)) (F0 m 0 ls []) := by
  refine lv_aload_n C.1 C.2.1 dX9_keep_0 rfl (lv_at hl 0 rfl) ?_
  refine lv_iconst (v := 0) C.1 C.2.1 dX9_keep_1 (by decide) ?_
  obtain ⟨M1, eM1, h⟩ := fz_bd_s h
  refine fz_puti C hF hT fz_m0 (j := 0) rfl fw_X9_117 dX9_keep_2 (fun H locs hT => ?_)
  rw [← eM1] at hT
  refine lv_iload_n C.1 C.2.1 dX9_keep_5 rfl (lv_at hl 1 rfl) ?_
  refine lv_i2l (v := (v1.toInt64)) C.1 C.2.1 dX9_keep_6 rfl ?_
  refine lv_lconst (v := 0) C.1 C.2.1 dX9_keep_7 (by decide) ?_
  refine lv_lconst (v := 1) C.1 C.2.1 dX9_keep_8 (by decide) ?_
  obtain ⟨r2, w4, h⟩ := fz_b1_s h
  refine fz_ci hT (fz_runS (np := 3) (rest := []) C hF hT (c_X9_in l G (v1.toInt64) 0 1 M1 r2 w4) cl_X9_124 rfl hl.1 rfl (Nat.le_of_ble_eq_true rfl) ⟨Nat.le_of_ble_eq_true rfl, Nat.le_of_ble_eq_true rfl, Nat.zero_le _, Nat.zero_le _⟩ dX9_keep_9) (fun H locs hT => ?_)
  refine lv_if_ne (tgt := 17) C.1 C.2.1 dX9_keep_12 (by decide) (fun c5 => ?_) (fun c5 => ?_)
  · have h := fz_ip c5 h
    refine lv_aload_n C.1 C.2.1 dX9_keep_17 rfl (lv_at hl 0 rfl) ?_
    refine fz_getr C hF hT fz_m0 (j := 38) rfl fl_X9_92 dX9_keep_18 ?_
    refine lv_iload_n C.1 C.2.1 dX9_keep_21 rfl (lv_at hl 1 rfl) ?_
    refine lv_iconst (v := 1) C.1 C.2.1 dX9_keep_22 (by decide) ?_
    obtain ⟨g6, h⟩ := fz_gd_s h
    obtain ⟨M7, eM7, h⟩ := fz_bd_s h
    refine fz_zas C hF hT fz_m28 g6 dX9_keep_23 (fun H locs hT => ?_)
    rw [← eM7] at hT
    refine lv_aload_n C.1 C.2.1 dX9_keep_24 rfl (lv_at hl 0 rfl) ?_
    refine lv_aload_n C.1 C.2.1 dX9_keep_25 rfl (lv_at hl 0 rfl) ?_
    refine fz_getr C hF hT fz_m0 (j := 36) rfl fl_X9_86 dX9_keep_26 ?_
    refine lv_bipush (v := 73) C.1 C.2.1 dX9_keep_29 (by decide) ?_
    refine lv_iload_n C.1 C.2.1 dX9_keep_31 rfl (lv_at hl 1 rfl) ?_
    refine lv_imul C.1 C.2.1 dX9_keep_32 ?_
    obtain ⟨M9, w10, h⟩ := fz_b1_s h
    refine fz_cv hT (fz_runV (np := 2) (rest := []) C hF hT (c_X9_layPage l G 26 (Or.inr rfl) (73 * v1) M7 M9 w10) fz_m0 (T := TX9) (N := 49) rfl cl_X9_218 rfl hl.1 rfl (Nat.le_of_ble_eq_true rfl) ⟨Nat.le_of_ble_eq_true rfl, Nat.le_of_ble_eq_true rfl, Nat.zero_le _, Nat.zero_le _⟩ dX9_keep_33) (fun H locs hT => ?_)
    refine lv_iconst (v := 0) C.1 C.2.1 dX9_keep_36 (by decide) ?_
    refine lv_istore_n (lv' := [(2, .int 0), (0, .ref (G.1 0)), (1, .int v1)]) C.1 C.2.1 dX9_keep_37 rfl hl (by decide) rfl (fun ls hl => ?_)
    exact b_X9_keep_38 C hr hlk hF hT (lv_sub hl [1, 2, 0] rfl) h
  · have h := fz_iq (not_not_intro c5) h
    refine lv_iconst (v := (-1)) C.1 C.2.1 dX9_keep_15 (by decide) ?_
    cases h
    exact fz_reti C hr hlk hT dX9_keep_16
set_option maxRecDepth 100000 in
theorem c_X9_keep (l : Launch) (G : fz_G)  (a0 : Int32) (M : fz_M) (r : Int32) (M9 : fz_M) (h : f_X9_keep a0 M = some (r, M9)) : fz_Me l yX9_keep cX9_keep 3 (some .int) 1 25 G fz_shM fz_KM [.ref (G.1 0), .int a0] M (fz_Qi G fz_shM fz_KM r M9) := by
  refine fz_body (by decide) (Nat.le_of_ble_eq_true rfl) ?_
  intro p e s m args below meth c H locs ls C hr hlk hF hT hl
  have C : CallFix p m c cX9_keep 3 s args wsL_law RX9 := C
  have hl : lv_has ls 3 [(0, .ref (G.1 0)), (1, .int a0)] := hl
  exact b_X9_keep_0 C hr hlk hF hT (lv_sub hl [0, 1] rfl) h
set_option maxHeartbeats 4000000 in
set_option maxRecDepth 100000 in
theorem b_X9_again_43_l {p : Program} {l : Launch} {e : Env} {s : State} {m : MethodId} {args : Array Value} {below : List Frame} {meth : Method} {c : Code} {G : fz_G}     {v1 : Int32}  {r : Int32} {M9 : fz_M} (C : CallFix p m c cX9_again 3 s args wsL_law RX9) (hr : meth.sig.returnType = (some .int)) (hlk : meth.locks = false) (hF : fz_F G fz_KM s)  : ∀ (n : Nat) (v2 : Int32) (M : fz_M) (H : Heap) (locs : List Loc) (ls : Array Slot), fz_T G fz_shM fz_KM s M H locs → lv_has ls 3 [(0, .ref (G.1 0)), (1, .int v1), (2, .int v2)] → fz_lp (fun ag z => f_X9_again_43_s ag v1 z.1 z.2) n (v2, M) = some (r, M9) → W p l e (fz_rm 1 25) s m args below meth c H locs 0 0 (MQ below (fz_Qi G fz_shM fz_KM r M9) args s 0 0 (fz_Fr G fz_KM)) (F0 m 43 ls []) := by
  intro n
  induction n with
  | zero =>
    intro v2 M H locs ls hT hl h
    cases h
  | succ n ih =>
    intro v2 M H locs ls hT hl h
    have h : f_X9_again_43_s (fz_lp (fun ag z => f_X9_again_43_s ag v1 z.1 z.2) n) v1 v2 M = some (r, M9) := h
    have hag43 := ih
    generalize fz_lp (fun ag z => f_X9_again_43_s ag v1 z.1 z.2) n = ag43 at h hag43
    refine lv_iload_n C.1 C.2.1 dX9_again_43 rfl (lv_at hl 2 rfl) ?_
    refine lv_bipush (v := 10) C.1 C.2.1 dX9_again_44 (by decide) ?_
    refine lv_icmp_ge (tgt := 72) C.1 C.2.1 dX9_again_46 (by decide) (fun c1 => ?_) (fun c1 => ?_)
    · have h := fz_ip c1 h
      refine lv_aload_n C.1 C.2.1 dX9_again_72 rfl (lv_at hl 0 rfl) ?_
      refine lv_iconst (v := 0) C.1 C.2.1 dX9_again_73 (by decide) ?_
      obtain ⟨M2, eM2, h⟩ := fz_bd_s h
      refine fz_puti C hF hT fz_m0 (j := 35) rfl fw_X9_194 dX9_again_74 (fun H locs hT => ?_)
      rw [← eM2] at hT
      refine lv_aload_n C.1 C.2.1 dX9_again_77 rfl (lv_at hl 0 rfl) ?_
      refine fz_geti C hF hT fz_m0 (j := 21) rfl fl_X9_191 dX9_again_78 ?_
      cases h
      exact fz_reti C hr hlk hT dX9_again_81
    · have h := fz_iq c1 h
      refine lv_aload_n C.1 C.2.1 dX9_again_49 rfl (lv_at hl 0 rfl) ?_
      refine fz_getr C hF hT fz_m0 (j := 12) rfl fl_X9_28 dX9_again_50 ?_
      refine lv_iload_n C.1 C.2.1 dX9_again_53 rfl (lv_at hl 2 rfl) ?_
      refine lv_aload_n C.1 C.2.1 dX9_again_54 rfl (lv_at hl 0 rfl) ?_
      refine fz_getr C hF hT fz_m0 (j := 37) rfl fl_X9_89 dX9_again_55 ?_
      refine lv_bipush (v := 10) C.1 C.2.1 dX9_again_58 (by decide) ?_
      refine lv_iload_n C.1 C.2.1 dX9_again_60 rfl (lv_at hl 1 rfl) ?_
      refine lv_imul C.1 C.2.1 dX9_again_61 ?_
      refine lv_iload_n C.1 C.2.1 dX9_again_62 rfl (lv_at hl 2 rfl) ?_
      refine lv_iadd C.1 C.2.1 dX9_again_63 ?_
      obtain ⟨g3, h⟩ := fz_gd_s h
      refine fz_za C hF hT fz_m27 g3 dX9_again_64 ?_
      obtain ⟨g4, h⟩ := fz_gd_s h
      obtain ⟨M5, eM5, h⟩ := fz_bd_s h
      refine fz_zas C hF hT fz_m7 g4 dX9_again_65 (fun H locs hT => ?_)
      rw [← eM5] at hT
      refine lv_iinc (v := (v2 + 1)) (lv' := [(2, .int (v2 + 1)), (0, .ref (G.1 0)), (1, .int v1)]) C.1 C.2.1 dX9_again_66 hl (k := 2) rfl rfl (by decide) rfl (fun ls hl => ?_)
      refine lv_goto (tgt := 43) C.1 C.2.1 dX9_again_69 (by decide) ?_
      exact hag43 (v2 + 1) M5 _ _ _ hT (lv_sub hl [1, 2, 0] rfl) h
set_option maxHeartbeats 4000000 in
set_option maxRecDepth 100000 in
theorem b_X9_again_43 {p : Program} {l : Launch} {e : Env} {s : State} {m : MethodId} {args : Array Value} {below : List Frame} {meth : Method} {c : Code} {G : fz_G}     {v1 : Int32} {v2 : Int32} {M : fz_M} {H : Heap} {locs : List Loc} {ls : Array Slot} {r : Int32} {M9 : fz_M} (C : CallFix p m c cX9_again 3 s args wsL_law RX9) (hr : meth.sig.returnType = (some .int)) (hlk : meth.locks = false) (hF : fz_F G fz_KM s)  (hT : fz_T G fz_shM fz_KM s M H locs) (hl : lv_has ls 3 [(0, .ref (G.1 0)), (1, .int v1), (2, .int v2)]) (h : f_X9_again_43 v1 v2 M = some (r, M9)) : W p l e (fz_rm 1 25) s m args below meth c H locs 0 0 (MQ below (fz_Qi G fz_shM fz_KM r M9) args s 0 0 (fz_Fr G fz_KM)) (F0 m 43 ls []) :=
  b_X9_again_43_l C hr hlk hF fz_fuel v2 M H locs ls hT hl h
set_option maxHeartbeats 4000000 in
set_option maxRecDepth 100000 in
theorem b_X9_again_0 {p : Program} {l : Launch} {e : Env} {s : State} {m : MethodId} {args : Array Value} {below : List Frame} {meth : Method} {c : Code} {G : fz_G}     {v1 : Int32} {M : fz_M} {H : Heap} {locs : List Loc} {ls : Array Slot} {r : Int32} {M9 : fz_M} (C : CallFix p m c cX9_again 3 s args wsL_law RX9) (hr : meth.sig.returnType = (some .int)) (hlk : meth.locks = false) (hF : fz_F G fz_KM s)  (hT : fz_T G fz_shM fz_KM s M H locs) (hl : lv_has ls 3 [(0, .ref (G.1 0)), (1, .int v1)]) (h : f_X9_again v1 M = some (r, M9)) : W p l e (fz_rm 1 25) s m args below meth c H locs 0 0 (MQ below (fz_Qi G fz_shM fz_KM r M9) args s 0 0 (fz_Fr G fz_KM)) (F0 m 0 ls []) := by
  refine lv_aload_n C.1 C.2.1 dX9_again_0 rfl (lv_at hl 0 rfl) ?_
  refine lv_iconst (v := 0) C.1 C.2.1 dX9_again_1 (by decide) ?_
  obtain ⟨M1, eM1, h⟩ := fz_bd_s h
  refine fz_puti C hF hT fz_m0 (j := 0) rfl fw_X9_117 dX9_again_2 (fun H locs hT => ?_)
  rw [← eM1] at hT
  refine lv_iload_n C.1 C.2.1 dX9_again_5 rfl (lv_at hl 1 rfl) ?_
  refine lv_i2l (v := (v1.toInt64)) C.1 C.2.1 dX9_again_6 rfl ?_
  refine lv_lconst (v := 0) C.1 C.2.1 dX9_again_7 (by decide) ?_
  refine lv_lconst (v := 1) C.1 C.2.1 dX9_again_8 (by decide) ?_
  obtain ⟨r2, w4, h⟩ := fz_b1_s h
  refine fz_ci hT (fz_runS (np := 3) (rest := []) C hF hT (c_X9_in l G (v1.toInt64) 0 1 M1 r2 w4) cl_X9_124 rfl hl.1 rfl (Nat.le_of_ble_eq_true rfl) ⟨Nat.le_of_ble_eq_true rfl, Nat.le_of_ble_eq_true rfl, Nat.zero_le _, Nat.zero_le _⟩ dX9_again_9) (fun H locs hT => ?_)
  refine lv_if_ne (tgt := 17) C.1 C.2.1 dX9_again_12 (by decide) (fun c5 => ?_) (fun c5 => ?_)
  · have h := fz_ip c5 h
    refine lv_aload_n C.1 C.2.1 dX9_again_17 rfl (lv_at hl 0 rfl) ?_
    refine fz_getr C hF hT fz_m0 (j := 38) rfl fl_X9_92 dX9_again_18 ?_
    refine lv_iload_n C.1 C.2.1 dX9_again_21 rfl (lv_at hl 1 rfl) ?_
    obtain ⟨g6, h⟩ := fz_gd_s h
    refine fz_za C hF hT fz_m28 g6 dX9_again_22 ?_
    refine lv_if_ne (tgt := 29) C.1 C.2.1 dX9_again_23 (by decide) (fun c7 => ?_) (fun c7 => ?_)
    · have h := fz_ip c7 h
      refine lv_aload_n C.1 C.2.1 dX9_again_29 rfl (lv_at hl 0 rfl) ?_
      refine lv_aload_n C.1 C.2.1 dX9_again_30 rfl (lv_at hl 0 rfl) ?_
      refine fz_getr C hF hT fz_m0 (j := 36) rfl fl_X9_86 dX9_again_31 ?_
      refine lv_bipush (v := 73) C.1 C.2.1 dX9_again_34 (by decide) ?_
      refine lv_iload_n C.1 C.2.1 dX9_again_36 rfl (lv_at hl 1 rfl) ?_
      refine lv_imul C.1 C.2.1 dX9_again_37 ?_
      obtain ⟨M9, w10, h⟩ := fz_b1_s h
      refine fz_cv hT (fz_runV (np := 2) (rest := []) C hF hT (c_X9_takePage l G 26 (Or.inr rfl) (73 * v1) M1 M9 w10) fz_m0 (T := TX9) (N := 49) rfl cl_X9_228 rfl hl.1 rfl (Nat.le_of_ble_eq_true rfl) ⟨Nat.le_of_ble_eq_true rfl, Nat.le_of_ble_eq_true rfl, Nat.zero_le _, Nat.zero_le _⟩ dX9_again_38) (fun H locs hT => ?_)
      refine lv_iconst (v := 0) C.1 C.2.1 dX9_again_41 (by decide) ?_
      refine lv_istore_n (lv' := [(2, .int 0), (0, .ref (G.1 0)), (1, .int v1)]) C.1 C.2.1 dX9_again_42 rfl hl (by decide) rfl (fun ls hl => ?_)
      exact b_X9_again_43 C hr hlk hF hT (lv_sub hl [1, 2, 0] rfl) h
    · have h := fz_iq (not_not_intro c7) h
      refine lv_bipush (v := (-3)) C.1 C.2.1 dX9_again_26 (by decide) ?_
      cases h
      exact fz_reti C hr hlk hT dX9_again_28
  · have h := fz_iq (not_not_intro c5) h
    refine lv_iconst (v := (-1)) C.1 C.2.1 dX9_again_15 (by decide) ?_
    cases h
    exact fz_reti C hr hlk hT dX9_again_16
set_option maxRecDepth 100000 in
theorem c_X9_again (l : Launch) (G : fz_G)  (a0 : Int32) (M : fz_M) (r : Int32) (M9 : fz_M) (h : f_X9_again a0 M = some (r, M9)) : fz_Me l yX9_again cX9_again 3 (some .int) 1 25 G fz_shM fz_KM [.ref (G.1 0), .int a0] M (fz_Qi G fz_shM fz_KM r M9) := by
  refine fz_body (by decide) (Nat.le_of_ble_eq_true rfl) ?_
  intro p e s m args below meth c H locs ls C hr hlk hF hT hl
  have C : CallFix p m c cX9_again 3 s args wsL_law RX9 := C
  have hl : lv_has ls 3 [(0, .ref (G.1 0)), (1, .int a0)] := hl
  exact b_X9_again_0 C hr hlk hF hT (lv_sub hl [0, 1] rfl) h
