set_option maxHeartbeats 4000000 in
set_option maxRecDepth 100000 in
theorem b_X9_about_69 {p : Program} {l : Launch} {e : Env} {s : State} {m : MethodId} {args : Array Value} {below : List Frame} {meth : Method} {c : Code} {G : fz_G}   {ag12 : (Int32 × Int32 × Int32) → Option (Int32 × fz_M)}  {v1 : Int32} {v2 : Int32} {v4 : Int32} {s0 : Int32} {s1 : Int32} {M : fz_M} {H : Heap} {locs : List Loc} {ls : Array Slot} {r : Int32} {M9 : fz_M} (C : CallFix p m c cX9_about 5 s args wsL_law RX9) (hr : meth.sig.returnType = (some .int)) (hlk : meth.locks = false) (hF : fz_F G fz_KM s) (hag12 : ∀ (v2 : Int32) (v3 : Int32) (v4 : Int32) (H : Heap) (locs : List Loc) (ls : Array Slot), fz_T G fz_shM fz_KM s M H locs → lv_has ls 5 [(0, .ref (G.1 0)), (1, .int v1), (2, .int v2), (3, .int v3), (4, .int v4)] → ag12 (v2, v3, v4) = some (r, M9) → W p l e (fz_rm 0 0) s m args below meth c H locs 0 0 (MQ below (fz_Qi G fz_shM fz_KM r M9) args s 0 0 (fz_Fr G fz_KM)) (F0 m 12 ls [])) (hT : fz_T G fz_shM fz_KM s M H locs) (hl : lv_has ls 5 [(0, .ref (G.1 0)), (1, .int v1), (2, .int v2), (4, .int v4)]) (h : f_X9_about_69 ag12 v1 v2 v4 s0 s1 M = some (r, M9)) : W p l e (fz_rm 0 0) s m args below meth c H locs 0 0 (MQ below (fz_Qi G fz_shM fz_KM r M9) args s 0 0 (fz_Fr G fz_KM)) (F0 m 69 ls [.int s1, .int s0]) := by
  refine lv_iadd C.1 C.2.1 dX9_about_69 ?_
  obtain ⟨x1, ex1, h⟩ := fz_bd_s h
  refine fz_nmi ex1 ?_
  refine lv_istore_n (lv' := [(3, .int x1), (0, .ref (G.1 0)), (1, .int v1), (2, .int v2), (4, .int v4)]) C.1 C.2.1 dX9_about_70 rfl hl (by decide) rfl (fun ls hl => ?_)
  refine lv_iinc (v := (v4 + 1)) (lv' := [(4, .int (v4 + 1)), (3, .int x1), (0, .ref (G.1 0)), (1, .int v1), (2, .int v2)]) C.1 C.2.1 dX9_about_71 hl (k := 4) rfl rfl (by decide) rfl (fun ls hl => ?_)
  refine lv_goto (tgt := 12) C.1 C.2.1 dX9_about_74 (by decide) ?_
  exact hag12 v2 x1 (v4 + 1) _ _ _ hT (lv_sub hl [2, 3, 4, 1, 0] rfl) h
set_option maxHeartbeats 4000000 in
set_option maxRecDepth 100000 in
theorem b_X9_about_44 {p : Program} {l : Launch} {e : Env} {s : State} {m : MethodId} {args : Array Value} {below : List Frame} {meth : Method} {c : Code} {G : fz_G}   {ag12 : (Int32 × Int32 × Int32) → Option (Int32 × fz_M)}  {v1 : Int32} {v3 : Int32} {v4 : Int32} {s0 : Int32} {s1 : Int32} {M : fz_M} {H : Heap} {locs : List Loc} {ls : Array Slot} {r : Int32} {M9 : fz_M} (C : CallFix p m c cX9_about 5 s args wsL_law RX9) (hr : meth.sig.returnType = (some .int)) (hlk : meth.locks = false) (hF : fz_F G fz_KM s) (hag12 : ∀ (v2 : Int32) (v3 : Int32) (v4 : Int32) (H : Heap) (locs : List Loc) (ls : Array Slot), fz_T G fz_shM fz_KM s M H locs → lv_has ls 5 [(0, .ref (G.1 0)), (1, .int v1), (2, .int v2), (3, .int v3), (4, .int v4)] → ag12 (v2, v3, v4) = some (r, M9) → W p l e (fz_rm 0 0) s m args below meth c H locs 0 0 (MQ below (fz_Qi G fz_shM fz_KM r M9) args s 0 0 (fz_Fr G fz_KM)) (F0 m 12 ls [])) (hT : fz_T G fz_shM fz_KM s M H locs) (hl : lv_has ls 5 [(0, .ref (G.1 0)), (1, .int v1), (3, .int v3), (4, .int v4)]) (h : f_X9_about_44 ag12 v1 v3 v4 s0 s1 M = some (r, M9)) : W p l e (fz_rm 0 0) s m args below meth c H locs 0 0 (MQ below (fz_Qi G fz_shM fz_KM r M9) args s 0 0 (fz_Fr G fz_KM)) (F0 m 44 ls [.int s1, .int s0]) := by
  refine lv_iadd C.1 C.2.1 dX9_about_44 ?_
  obtain ⟨x1, ex1, h⟩ := fz_bd_s h
  refine fz_nmi ex1 ?_
  refine lv_istore_n (lv' := [(2, .int x1), (0, .ref (G.1 0)), (1, .int v1), (3, .int v3), (4, .int v4)]) C.1 C.2.1 dX9_about_45 rfl hl (by decide) rfl (fun ls hl => ?_)
  refine lv_iload_n C.1 C.2.1 dX9_about_46 rfl (lv_at hl 3 rfl) ?_
  refine lv_aload_n C.1 C.2.1 dX9_about_47 rfl (lv_at hl 1 rfl) ?_
  refine fz_getr C hF hT fz_m0 (j := 20) rfl fl_X9_53 dX9_about_48 ?_
  refine lv_iload C.1 C.2.1 dX9_about_51 (lv_at hl 4 rfl) ?_
  obtain ⟨g2, h⟩ := fz_gd_s h
  refine fz_ia C hF hT fz_m15 g2 dX9_about_53 ?_
  refine lv_aload_n C.1 C.2.1 dX9_about_54 rfl (lv_at hl 1 rfl) ?_
  refine fz_getr C hF hT fz_m0 (j := 13) rfl fl_X9_32 dX9_about_55 ?_
  refine lv_iload C.1 C.2.1 dX9_about_58 (lv_at hl 4 rfl) ?_
  obtain ⟨g3, h⟩ := fz_gd_s h
  refine fz_ia C hF hT fz_m8 g3 dX9_about_60 ?_
  refine lv_icmp_ne (tgt := 68) C.1 C.2.1 dX9_about_61 (by decide) (fun c4 => ?_) (fun c4 => ?_)
  · have h := fz_ip c4 h
    refine lv_iconst (v := 1) C.1 C.2.1 dX9_about_68 (by decide) ?_
    exact b_X9_about_69 C hr hlk hF hag12 hT (lv_sub hl [1, 2, 0, 4] rfl) h
  · have h := fz_iq (not_not_intro c4) h
    refine lv_iconst (v := 0) C.1 C.2.1 dX9_about_64 (by decide) ?_
    refine lv_goto (tgt := 69) C.1 C.2.1 dX9_about_65 (by decide) ?_
    exact b_X9_about_69 C hr hlk hF hag12 hT (lv_sub hl [1, 2, 0, 4] rfl) h
set_option maxHeartbeats 4000000 in
set_option maxRecDepth 100000 in
theorem b_X9_about_12_l {p : Program} {l : Launch} {e : Env} {s : State} {m : MethodId} {args : Array Value} {below : List Frame} {meth : Method} {c : Code} {G : fz_G}     {v1 : Int32} {M : fz_M} {r : Int32} {M9 : fz_M} (C : CallFix p m c cX9_about 5 s args wsL_law RX9) (hr : meth.sig.returnType = (some .int)) (hlk : meth.locks = false) (hF : fz_F G fz_KM s)  : ∀ (n : Nat) (v2 : Int32) (v3 : Int32) (v4 : Int32) (H : Heap) (locs : List Loc) (ls : Array Slot), fz_T G fz_shM fz_KM s M H locs → lv_has ls 5 [(0, .ref (G.1 0)), (1, .int v1), (2, .int v2), (3, .int v3), (4, .int v4)] → fz_lp (fun ag z => f_X9_about_12_s ag v1 z.1 z.2.1 z.2.2 M) n (v2, v3, v4) = some (r, M9) → W p l e (fz_rm 0 0) s m args below meth c H locs 0 0 (MQ below (fz_Qi G fz_shM fz_KM r M9) args s 0 0 (fz_Fr G fz_KM)) (F0 m 12 ls []) := by
  intro n
  induction n with
  | zero =>
    intro v2 v3 v4 H locs ls hT hl h
    cases h
  | succ n ih =>
    intro v2 v3 v4 H locs ls hT hl h
    have h : f_X9_about_12_s (fz_lp (fun ag z => f_X9_about_12_s ag v1 z.1 z.2.1 z.2.2 M) n) v1 v2 v3 v4 M = some (r, M9) := h
    have hag12 := ih
    generalize fz_lp (fun ag z => f_X9_about_12_s ag v1 z.1 z.2.1 z.2.2 M) n = ag12 at h hag12
    refine lv_iload C.1 C.2.1 dX9_about_12 (lv_at hl 4 rfl) ?_
    refine lv_aload_n C.1 C.2.1 dX9_about_14 rfl (lv_at hl 0 rfl) ?_
    refine fz_geti C hF hT fz_m0 (j := 6) rfl fl_X9_128 dX9_about_15 ?_
    refine lv_icmp_ge (tgt := 77) C.1 C.2.1 dX9_about_18 (by decide) (fun c1 => ?_) (fun c1 => ?_)
    · have h := fz_ip c1 h
      refine lv_iload_n C.1 C.2.1 dX9_about_77 rfl (lv_at hl 1 rfl) ?_
      by_cases c2 : v1 = 0
      · have h := fz_ip c2 h
        refine lv_tableIn (off := 50) (tgt := 128) C.1 C.2.1 dX9_about_78 (by rw [c2]; decide) (by rw [c2]; decide) (by rw [c2]; rfl) (by decide) ?_
        refine lv_aload_n C.1 C.2.1 dX9_about_128 rfl (lv_at hl 0 rfl) ?_
        refine fz_geti C hF hT fz_m0 (j := 4) rfl fl_X9_121 dX9_about_129 ?_
        cases h
        exact fz_reti C hr hlk hT dX9_about_132
      have h := fz_iq c2 h
      by_cases c3 : v1 = 1
      · have h := fz_ip c3 h
        refine lv_tableIn (off := 55) (tgt := 133) C.1 C.2.1 dX9_about_78 (by rw [c3]; decide) (by rw [c3]; decide) (by rw [c3]; rfl) (by decide) ?_
        refine lv_aload_n C.1 C.2.1 dX9_about_133 rfl (lv_at hl 0 rfl) ?_
        refine fz_geti C hF hT fz_m0 (j := 5) rfl fl_X9_188 dX9_about_134 ?_
        cases h
        exact fz_reti C hr hlk hT dX9_about_137
      have h := fz_iq c3 h
      by_cases c4 : v1 = 2
      · have h := fz_ip c4 h
        refine lv_tableIn (off := 60) (tgt := 138) C.1 C.2.1 dX9_about_78 (by rw [c4]; decide) (by rw [c4]; decide) (by rw [c4]; rfl) (by decide) ?_
        refine lv_aload_n C.1 C.2.1 dX9_about_138 rfl (lv_at hl 0 rfl) ?_
        refine fz_geti C hF hT fz_m0 (j := 6) rfl fl_X9_128 dX9_about_139 ?_
        cases h
        exact fz_reti C hr hlk hT dX9_about_142
      have h := fz_iq c4 h
      by_cases c5 : v1 = 3
      · have h := fz_ip c5 h
        refine lv_tableIn (off := 65) (tgt := 143) C.1 C.2.1 dX9_about_78 (by rw [c5]; decide) (by rw [c5]; decide) (by rw [c5]; rfl) (by decide) ?_
        refine lv_aload_n C.1 C.2.1 dX9_about_143 rfl (lv_at hl 0 rfl) ?_
        refine fz_geti C hF hT fz_m0 (j := 21) rfl fl_X9_191 dX9_about_144 ?_
        cases h
        exact fz_reti C hr hlk hT dX9_about_147
      have h := fz_iq c5 h
      by_cases c6 : v1 = 4
      · have h := fz_ip c6 h
        refine lv_tableIn (off := 70) (tgt := 148) C.1 C.2.1 dX9_about_78 (by rw [c6]; decide) (by rw [c6]; decide) (by rw [c6]; rfl) (by decide) ?_
        refine lv_aload_n C.1 C.2.1 dX9_about_148 rfl (lv_at hl 0 rfl) ?_
        refine fz_geti C hF hT fz_m0 (j := 35) rfl fl_X9_194 dX9_about_149 ?_
        cases h
        exact fz_reti C hr hlk hT dX9_about_152
      have h := fz_iq c6 h
      by_cases c7 : v1 = 5
      · have h := fz_ip c7 h
        refine lv_tableIn (off := 75) (tgt := 153) C.1 C.2.1 dX9_about_78 (by rw [c7]; decide) (by rw [c7]; decide) (by rw [c7]; rfl) (by decide) ?_
        refine lv_iload_n C.1 C.2.1 dX9_about_153 rfl (lv_at hl 2 rfl) ?_
        cases h
        exact fz_reti C hr hlk hT dX9_about_154
      have h := fz_iq c7 h
      by_cases c8 : v1 = 6
      · have h := fz_ip c8 h
        refine lv_tableIn (off := 77) (tgt := 155) C.1 C.2.1 dX9_about_78 (by rw [c8]; decide) (by rw [c8]; decide) (by rw [c8]; rfl) (by decide) ?_
        refine lv_iload_n C.1 C.2.1 dX9_about_155 rfl (lv_at hl 3 rfl) ?_
        cases h
        exact fz_reti C hr hlk hT dX9_about_156
      have h := fz_iq c8 h
      by_cases c9 : v1 = 7
      · have h := fz_ip c9 h
        refine lv_tableIn (off := 79) (tgt := 157) C.1 C.2.1 dX9_about_78 (by rw [c9]; decide) (by rw [c9]; decide) (by rw [c9]; rfl) (by decide) ?_
        refine lv_aload_n C.1 C.2.1 dX9_about_157 rfl (lv_at hl 0 rfl) ?_
        refine fz_geti C hF hT fz_m0 (j := 43) rfl fl_X9_197 dX9_about_158 ?_
        cases h
        exact fz_reti C hr hlk hT dX9_about_161
      have h := fz_iq c9 h
      by_cases c10 : v1 = 8
      · have h := fz_ip c10 h
        refine lv_tableIn (off := 84) (tgt := 162) C.1 C.2.1 dX9_about_78 (by rw [c10]; decide) (by rw [c10]; decide) (by rw [c10]; rfl) (by decide) ?_
        refine lv_aload_n C.1 C.2.1 dX9_about_162 rfl (lv_at hl 0 rfl) ?_
        refine fz_geti C hF hT fz_m0 (j := 2) rfl fl_X9_137 dX9_about_163 ?_
        cases h
        exact fz_reti C hr hlk hT dX9_about_166
      have h := fz_iq c10 h
      refine lv_tableOut (tgt := 167) C.1 C.2.1 dX9_about_78 (by have nc2 := fz_ni c2 (i := 0) rfl; have nc3 := fz_ni c3 (i := 1) rfl; have nc4 := fz_ni c4 (i := 2) rfl; have nc5 := fz_ni c5 (i := 3) rfl; have nc6 := fz_ni c6 (i := 4) rfl; have nc7 := fz_ni c7 (i := 5) rfl; have nc8 := fz_ni c8 (i := 6) rfl; have nc9 := fz_ni c9 (i := 7) rfl; have nc10 := fz_ni c10 (i := 8) rfl; omega) (by decide) ?_
      refine lv_bipush (v := (-2)) C.1 C.2.1 dX9_about_167 (by decide) ?_
      cases h
      exact fz_reti C hr hlk hT dX9_about_169
    · have h := fz_iq c1 h
      refine lv_iload_n C.1 C.2.1 dX9_about_21 rfl (lv_at hl 2 rfl) ?_
      refine lv_aload_n C.1 C.2.1 dX9_about_22 rfl (lv_at hl 0 rfl) ?_
      refine fz_getr C hF hT fz_m0 (j := 16) rfl fl_X9_41 dX9_about_23 ?_
      refine lv_iload C.1 C.2.1 dX9_about_26 (lv_at hl 4 rfl) ?_
      obtain ⟨g11, h⟩ := fz_gd_s h
      refine fz_ia C hF hT fz_m11 g11 dX9_about_28 ?_
      refine lv_aload_n C.1 C.2.1 dX9_about_29 rfl (lv_at hl 0 rfl) ?_
      refine fz_getr C hF hT fz_m0 (j := 13) rfl fl_X9_32 dX9_about_30 ?_
      refine lv_iload C.1 C.2.1 dX9_about_33 (lv_at hl 4 rfl) ?_
      obtain ⟨g12, h⟩ := fz_gd_s h
      refine fz_ia C hF hT fz_m8 g12 dX9_about_35 ?_
      refine lv_icmp_ne (tgt := 43) C.1 C.2.1 dX9_about_36 (by decide) (fun c13 => ?_) (fun c13 => ?_)
      · have h := fz_ip c13 h
        refine lv_iconst (v := 1) C.1 C.2.1 dX9_about_43 (by decide) ?_
        exact b_X9_about_44 C hr hlk hF hag12 hT (lv_sub hl [0, 1, 3, 4] rfl) h
      · have h := fz_iq (not_not_intro c13) h
        refine lv_iconst (v := 0) C.1 C.2.1 dX9_about_39 (by decide) ?_
        refine lv_goto (tgt := 44) C.1 C.2.1 dX9_about_40 (by decide) ?_
        exact b_X9_about_44 C hr hlk hF hag12 hT (lv_sub hl [0, 1, 3, 4] rfl) h
set_option maxHeartbeats 4000000 in
set_option maxRecDepth 100000 in
theorem b_X9_about_12 {p : Program} {l : Launch} {e : Env} {s : State} {m : MethodId} {args : Array Value} {below : List Frame} {meth : Method} {c : Code} {G : fz_G}     {v1 : Int32} {v2 : Int32} {v3 : Int32} {v4 : Int32} {M : fz_M} {H : Heap} {locs : List Loc} {ls : Array Slot} {r : Int32} {M9 : fz_M} (C : CallFix p m c cX9_about 5 s args wsL_law RX9) (hr : meth.sig.returnType = (some .int)) (hlk : meth.locks = false) (hF : fz_F G fz_KM s)  (hT : fz_T G fz_shM fz_KM s M H locs) (hl : lv_has ls 5 [(0, .ref (G.1 0)), (1, .int v1), (2, .int v2), (3, .int v3), (4, .int v4)]) (h : f_X9_about_12 v1 v2 v3 v4 M = some (r, M9)) : W p l e (fz_rm 0 0) s m args below meth c H locs 0 0 (MQ below (fz_Qi G fz_shM fz_KM r M9) args s 0 0 (fz_Fr G fz_KM)) (F0 m 12 ls []) :=
  b_X9_about_12_l C hr hlk hF fz_fuel v2 v3 v4 H locs ls hT hl h
set_option maxHeartbeats 4000000 in
set_option maxRecDepth 100000 in
theorem b_X9_about_0 {p : Program} {l : Launch} {e : Env} {s : State} {m : MethodId} {args : Array Value} {below : List Frame} {meth : Method} {c : Code} {G : fz_G}     {v1 : Int32} {M : fz_M} {H : Heap} {locs : List Loc} {ls : Array Slot} {r : Int32} {M9 : fz_M} (C : CallFix p m c cX9_about 5 s args wsL_law RX9) (hr : meth.sig.returnType = (some .int)) (hlk : meth.locks = false) (hF : fz_F G fz_KM s)  (hT : fz_T G fz_shM fz_KM s M H locs) (hl : lv_has ls 5 [(0, .ref (G.1 0)), (1, .int v1)]) (h : f_X9_about v1 M = some (r, M9)) : W p l e (fz_rm 0 0) s m args below meth c H locs 0 0 (MQ below (fz_Qi G fz_shM fz_KM r M9) args s 0 0 (fz_Fr G fz_KM)) (F0 m 0 ls []) := by
  refine lv_aload_n C.1 C.2.1 dX9_about_0 rfl (lv_at hl 0 rfl) ?_
  refine lv_iconst (v := 0) C.1 C.2.1 dX9_about_1 (by decide) ?_
  obtain ⟨M1, eM1, h⟩ := fz_bd_s h
  refine fz_puti C hF hT fz_m0 (j := 0) rfl fw_X9_117 dX9_about_2 (fun H locs hT => ?_)
  rw [← eM1] at hT
  refine lv_iconst (v := 0) C.1 C.2.1 dX9_about_5 (by decide) ?_
  refine lv_istore_n (lv' := [(2, .int 0), (0, .ref (G.1 0)), (1, .int v1)]) C.1 C.2.1 dX9_about_6 rfl hl (by decide) rfl (fun ls hl => ?_)
  refine lv_iconst (v := 0) C.1 C.2.1 dX9_about_7 (by decide) ?_
  refine lv_istore_n (lv' := [(3, .int 0), (2, .int 0), (0, .ref (G.1 0)), (1, .int v1)]) C.1 C.2.1 dX9_about_8 rfl hl (by decide) rfl (fun ls hl => ?_)
  refine lv_iconst (v := 0) C.1 C.2.1 dX9_about_9 (by decide) ?_
  refine lv_istore (lv' := [(4, .int 0), (3, .int 0), (2, .int 0), (0, .ref (G.1 0)), (1, .int v1)]) C.1 C.2.1 dX9_about_10 hl (by decide) rfl (fun ls hl => ?_)
  exact b_X9_about_12 C hr hlk hF hT (lv_sub hl [3, 4, 2, 1, 0] rfl) h
set_option maxRecDepth 100000 in
theorem c_X9_about (l : Launch) (G : fz_G)  (a0 : Int32) (M : fz_M) (r : Int32) (M9 : fz_M) (h : f_X9_about a0 M = some (r, M9)) : fz_Me l yX9_about cX9_about 5 (some .int) 0 0 G fz_shM fz_KM [.ref (G.1 0), .int a0] M (fz_Qi G fz_shM fz_KM r M9) := by
  refine fz_body (by decide) (Nat.le_of_ble_eq_true rfl) ?_
  intro p e s m args below meth c H locs ls C hr hlk hF hT hl
  have C : CallFix p m c cX9_about 5 s args wsL_law RX9 := C
  have hl : lv_has ls 5 [(0, .ref (G.1 0)), (1, .int a0)] := hl
  exact b_X9_about_0 C hr hlk hF hT (lv_sub hl [0, 1] rfl) h
set_option maxHeartbeats 4000000 in
set_option maxRecDepth 100000 in
theorem b_X9_house_78 {p : Program} {l : Launch} {e : Env} {s : State} {m : MethodId} {args : Array Value} {below : List Frame} {meth : Method} {c : Code} {G : fz_G}   {ag23 : (Int32 × Int32 × Int32) → Option (Int32 × fz_M)}  {v1 : Int32} {v2 : Int32} {v3 : Int32} {v5 : Int32} {s0 : Int32} {s1 : Int32} {M : fz_M} {H : Heap} {locs : List Loc} {ls : Array Slot} {r : Int32} {M9 : fz_M} (C : CallFix p m c cX9_house 6 s args wsL_law RX9) (hr : meth.sig.returnType = (some .int)) (hlk : meth.locks = false) (hF : fz_F G fz_KM s) (hag23 : ∀ (v3 : Int32) (v4 : Int32) (v5 : Int32) (H : Heap) (locs : List Loc) (ls : Array Slot), fz_T G fz_shM fz_KM s M H locs → lv_has ls 6 [(0, .ref (G.1 0)), (1, .int v1), (2, .int v2), (3, .int v3), (4, .int v4), (5, .int v5)] → ag23 (v3, v4, v5) = some (r, M9) → W p l e (fz_rm 2 46) s m args below meth c H locs 0 0 (MQ below (fz_Qi G fz_shM fz_KM r M9) args s 0 0 (fz_Fr G fz_KM)) (F0 m 23 ls [])) (hT : fz_T G fz_shM fz_KM s M H locs) (hl : lv_has ls 6 [(0, .ref (G.1 0)), (1, .int v1), (2, .int v2), (3, .int v3), (5, .int v5)]) (h : f_X9_house_78 ag23 v1 v2 v3 v5 s0 s1 M = some (r, M9)) : W p l e (fz_rm 2 46) s m args below meth c H locs 0 0 (MQ below (fz_Qi G fz_shM fz_KM r M9) args s 0 0 (fz_Fr G fz_KM)) (F0 m 78 ls [.int s1, .int s0]) := by
  refine lv_iadd C.1 C.2.1 dX9_house_78 ?_
  obtain ⟨x1, ex1, h⟩ := fz_bd_s h
  refine fz_nmi ex1 ?_
  refine lv_istore (lv' := [(4, .int x1), (0, .ref (G.1 0)), (1, .int v1), (2, .int v2), (3, .int v3), (5, .int v5)]) C.1 C.2.1 dX9_house_79 hl (by decide) rfl (fun ls hl => ?_)
  refine lv_iinc (v := (v5 + 1)) (lv' := [(5, .int (v5 + 1)), (4, .int x1), (0, .ref (G.1 0)), (1, .int v1), (2, .int v2), (3, .int v3)]) C.1 C.2.1 dX9_house_81 hl (k := 5) rfl rfl (by decide) rfl (fun ls hl => ?_)
  refine lv_goto (tgt := 23) C.1 C.2.1 dX9_house_84 (by decide) ?_
  exact hag23 v3 x1 (v5 + 1) _ _ _ hT (lv_sub hl [2, 3, 4, 5, 1, 0] rfl) h
set_option maxHeartbeats 4000000 in
set_option maxRecDepth 100000 in
theorem b_X9_house_52 {p : Program} {l : Launch} {e : Env} {s : State} {m : MethodId} {args : Array Value} {below : List Frame} {meth : Method} {c : Code} {G : fz_G}   {ag23 : (Int32 × Int32 × Int32) → Option (Int32 × fz_M)}  {v1 : Int32} {v2 : Int32} {v4 : Int32} {v5 : Int32} {s0 : Int32} {s1 : Int32} {M : fz_M} {H : Heap} {locs : List Loc} {ls : Array Slot} {r : Int32} {M9 : fz_M} (C : CallFix p m c cX9_house 6 s args wsL_law RX9) (hr : meth.sig.returnType = (some .int)) (hlk : meth.locks = false) (hF : fz_F G fz_KM s) (hag23 : ∀ (v3 : Int32) (v4 : Int32) (v5 : Int32) (H : Heap) (locs : List Loc) (ls : Array Slot), fz_T G fz_shM fz_KM s M H locs → lv_has ls 6 [(0, .ref (G.1 0)), (1, .int v1), (2, .int v2), (3, .int v3), (4, .int v4), (5, .int v5)] → ag23 (v3, v4, v5) = some (r, M9) → W p l e (fz_rm 2 46) s m args below meth c H locs 0 0 (MQ below (fz_Qi G fz_shM fz_KM r M9) args s 0 0 (fz_Fr G fz_KM)) (F0 m 23 ls [])) (hT : fz_T G fz_shM fz_KM s M H locs) (hl : lv_has ls 6 [(0, .ref (G.1 0)), (1, .int v1), (2, .int v2), (4, .int v4), (5, .int v5)]) (h : f_X9_house_52 ag23 v1 v2 v4 v5 s0 s1 M = some (r, M9)) : W p l e (fz_rm 2 46) s m args below meth c H locs 0 0 (MQ below (fz_Qi G fz_shM fz_KM r M9) args s 0 0 (fz_Fr G fz_KM)) (F0 m 52 ls [.int s1, .int s0]) := by
  refine lv_ior C.1 C.2.1 dX9_house_52 ?_
  obtain ⟨x1, ex1, h⟩ := fz_bd_s h
  refine fz_nmi ex1 ?_
  refine lv_istore_n (lv' := [(3, .int x1), (0, .ref (G.1 0)), (1, .int v1), (2, .int v2), (4, .int v4), (5, .int v5)]) C.1 C.2.1 dX9_house_53 rfl hl (by decide) rfl (fun ls hl => ?_)
  refine lv_iload C.1 C.2.1 dX9_house_54 (lv_at hl 4 rfl) ?_
  refine lv_aload_n C.1 C.2.1 dX9_house_56 rfl (lv_at hl 1 rfl) ?_
  refine fz_getr C hF hT fz_m0 (j := 16) rfl fl_X9_41 dX9_house_57 ?_
  refine lv_iload C.1 C.2.1 dX9_house_60 (lv_at hl 5 rfl) ?_
  obtain ⟨g2, h⟩ := fz_gd_s h
  refine fz_ia C hF hT fz_m11 g2 dX9_house_62 ?_
  refine lv_iload_n C.1 C.2.1 dX9_house_63 rfl (lv_at hl 2 rfl) ?_
  refine lv_icmp_ne (tgt := 77) C.1 C.2.1 dX9_house_64 (by decide) (fun c3 => ?_) (fun c3 => ?_)
  · have h := fz_ip c3 h
    refine lv_iconst (v := 0) C.1 C.2.1 dX9_house_77 (by decide) ?_
    exact b_X9_house_78 C hr hlk hF hag23 hT (lv_sub hl [1, 2, 3, 0, 5] rfl) h
  · have h := fz_iq (not_not_intro c3) h
    refine lv_aload_n C.1 C.2.1 dX9_house_67 rfl (lv_at hl 1 rfl) ?_
    refine fz_getr C hF hT fz_m0 (j := 14) rfl fl_X9_35 dX9_house_68 ?_
    refine lv_iload C.1 C.2.1 dX9_house_71 (lv_at hl 5 rfl) ?_
    obtain ⟨g4, h⟩ := fz_gd_s h
    refine fz_ia C hF hT fz_m9 g4 dX9_house_73 ?_
    refine lv_goto (tgt := 78) C.1 C.2.1 dX9_house_74 (by decide) ?_
    exact b_X9_house_78 C hr hlk hF hag23 hT (lv_sub hl [1, 2, 3, 0, 5] rfl) h
set_option maxHeartbeats 4000000 in
set_option maxRecDepth 100000 in
theorem b_X9_house_23_l {p : Program} {l : Launch} {e : Env} {s : State} {m : MethodId} {args : Array Value} {below : List Frame} {meth : Method} {c : Code} {G : fz_G}     {v1 : Int32} {v2 : Int32} {M : fz_M} {r : Int32} {M9 : fz_M} (C : CallFix p m c cX9_house 6 s args wsL_law RX9) (hr : meth.sig.returnType = (some .int)) (hlk : meth.locks = false) (hF : fz_F G fz_KM s)  : ∀ (n : Nat) (v3 : Int32) (v4 : Int32) (v5 : Int32) (H : Heap) (locs : List Loc) (ls : Array Slot), fz_T G fz_shM fz_KM s M H locs → lv_has ls 6 [(0, .ref (G.1 0)), (1, .int v1), (2, .int v2), (3, .int v3), (4, .int v4), (5, .int v5)] → fz_lp (fun ag z => f_X9_house_23_s ag v1 v2 z.1 z.2.1 z.2.2 M) n (v3, v4, v5) = some (r, M9) → W p l e (fz_rm 2 46) s m args below meth c H locs 0 0 (MQ below (fz_Qi G fz_shM fz_KM r M9) args s 0 0 (fz_Fr G fz_KM)) (F0 m 23 ls []) := by
  intro n
  induction n with
  | zero =>
    intro v3 v4 v5 H locs ls hT hl h
    cases h
  | succ n ih =>
    intro v3 v4 v5 H locs ls hT hl h
    have h : f_X9_house_23_s (fz_lp (fun ag z => f_X9_house_23_s ag v1 v2 z.1 z.2.1 z.2.2 M) n) v1 v2 v3 v4 v5 M = some (r, M9) := h
    have hag23 := ih
    generalize fz_lp (fun ag z => f_X9_house_23_s ag v1 v2 z.1 z.2.1 z.2.2 M) n = ag23 at h hag23
    refine lv_iload C.1 C.2.1 dX9_house_23 (lv_at hl 5 rfl) ?_
    refine lv_aload_n C.1 C.2.1 dX9_house_25 rfl (lv_at hl 0 rfl) ?_
    refine fz_geti C hF hT fz_m0 (j := 6) rfl fl_X9_128 dX9_house_26 ?_
    refine lv_icmp_ge (tgt := 87) C.1 C.2.1 dX9_house_29 (by decide) (fun c1 => ?_) (fun c1 => ?_)
    · have h := fz_ip c1 h
      refine lv_iload_n C.1 C.2.1 dX9_house_87 rfl (lv_at hl 2 rfl) ?_
      refine lv_if_ne (tgt := 100) C.1 C.2.1 dX9_house_88 (by decide) (fun c2 => ?_) (fun c2 => ?_)
      · have h := fz_ip c2 h
        refine lv_iload_n C.1 C.2.1 dX9_house_100 rfl (lv_at hl 2 rfl) ?_
        refine lv_iconst (v := 1) C.1 C.2.1 dX9_house_101 (by decide) ?_
        refine lv_icmp_ne (tgt := 114) C.1 C.2.1 dX9_house_102 (by decide) (fun c3 => ?_) (fun c3 => ?_)
        · have h := fz_ip c3 h
          refine lv_iload_n C.1 C.2.1 dX9_house_114 rfl (lv_at hl 2 rfl) ?_
          refine lv_iconst (v := 2) C.1 C.2.1 dX9_house_115 (by decide) ?_
          refine lv_icmp_ne (tgt := 123) C.1 C.2.1 dX9_house_116 (by decide) (fun c4 => ?_) (fun c4 => ?_)
          · have h := fz_ip c4 h
            refine lv_iload_n C.1 C.2.1 dX9_house_123 rfl (lv_at hl 2 rfl) ?_
            refine lv_iconst (v := 3) C.1 C.2.1 dX9_house_124 (by decide) ?_
            refine lv_icmp_ne (tgt := 133) C.1 C.2.1 dX9_house_125 (by decide) (fun c5 => ?_) (fun c5 => ?_)
            · have h := fz_ip c5 h
              refine lv_bipush (v := (-2)) C.1 C.2.1 dX9_house_133 (by decide) ?_
              cases h
              exact fz_reti C hr hlk hT dX9_house_135
            · have h := fz_iq (not_not_intro c5) h
              refine lv_iload C.1 C.2.1 dX9_house_128 (lv_at hl 4 rfl) ?_
              refine lv_goto (tgt := 135) C.1 C.2.1 dX9_house_130 (by decide) ?_
              cases h
              exact fz_reti C hr hlk hT dX9_house_135
          · have h := fz_iq (not_not_intro c4) h
            refine lv_iload_n C.1 C.2.1 dX9_house_119 rfl (lv_at hl 3 rfl) ?_
            refine lv_goto (tgt := 135) C.1 C.2.1 dX9_house_120 (by decide) ?_
            cases h
            exact fz_reti C hr hlk hT dX9_house_135
        · have h := fz_iq (not_not_intro c3) h
          refine lv_aload_n C.1 C.2.1 dX9_house_105 rfl (lv_at hl 0 rfl) ?_
          refine fz_getr C hF hT fz_m0 (j := 8) rfl fl_X9_16 dX9_house_106 ?_
          refine lv_iload_n C.1 C.2.1 dX9_house_109 rfl (lv_at hl 1 rfl) ?_
          obtain ⟨g6, h⟩ := fz_gd_s h
          refine fz_ia C hF hT fz_m3 g6 dX9_house_110 ?_
          refine lv_goto (tgt := 135) C.1 C.2.1 dX9_house_111 (by decide) ?_
          cases h
          exact fz_reti C hr hlk hT dX9_house_135
      · have h := fz_iq (not_not_intro c2) h
        refine lv_aload_n C.1 C.2.1 dX9_house_91 rfl (lv_at hl 0 rfl) ?_
        refine fz_getr C hF hT fz_m0 (j := 7) rfl fl_X9_13 dX9_house_92 ?_
        refine lv_iload_n C.1 C.2.1 dX9_house_95 rfl (lv_at hl 1 rfl) ?_
        obtain ⟨g7, h⟩ := fz_gd_s h
        refine fz_ia C hF hT fz_m2 g7 dX9_house_96 ?_
        refine lv_goto (tgt := 135) C.1 C.2.1 dX9_house_97 (by decide) ?_
        cases h
        exact fz_reti C hr hlk hT dX9_house_135
    · have h := fz_iq c1 h
      refine lv_iload_n C.1 C.2.1 dX9_house_32 rfl (lv_at hl 3 rfl) ?_
      refine lv_aload_n C.1 C.2.1 dX9_house_33 rfl (lv_at hl 0 rfl) ?_
      refine fz_getr C hF hT fz_m0 (j := 16) rfl fl_X9_41 dX9_house_34 ?_
      refine lv_iload C.1 C.2.1 dX9_house_37 (lv_at hl 5 rfl) ?_
      obtain ⟨g8, h⟩ := fz_gd_s h
      refine fz_ia C hF hT fz_m11 g8 dX9_house_39 ?_
      refine lv_iload_n C.1 C.2.1 dX9_house_40 rfl (lv_at hl 1 rfl) ?_
      refine lv_icmp_ne (tgt := 51) C.1 C.2.1 dX9_house_41 (by decide) (fun c9 => ?_) (fun c9 => ?_)
      · have h := fz_ip c9 h
        refine lv_iconst (v := 0) C.1 C.2.1 dX9_house_51 (by decide) ?_
        exact b_X9_house_52 C hr hlk hF hag23 hT (lv_sub hl [0, 1, 2, 4, 5] rfl) h
      · have h := fz_iq (not_not_intro c9) h
        refine lv_iconst (v := 1) C.1 C.2.1 dX9_house_44 (by decide) ?_
        refine lv_iload C.1 C.2.1 dX9_house_45 (lv_at hl 5 rfl) ?_
        refine lv_ishl C.1 C.2.1 dX9_house_47 ?_
        refine lv_goto (tgt := 52) C.1 C.2.1 dX9_house_48 (by decide) ?_
        exact b_X9_house_52 C hr hlk hF hag23 hT (lv_sub hl [0, 1, 2, 4, 5] rfl) h
set_option maxHeartbeats 4000000 in
set_option maxRecDepth 100000 in
theorem b_X9_house_23 {p : Program} {l : Launch} {e : Env} {s : State} {m : MethodId} {args : Array Value} {below : List Frame} {meth : Method} {c : Code} {G : fz_G}     {v1 : Int32} {v2 : Int32} {v3 : Int32} {v4 : Int32} {v5 : Int32} {M : fz_M} {H : Heap} {locs : List Loc} {ls : Array Slot} {r : Int32} {M9 : fz_M} (C : CallFix p m c cX9_house 6 s args wsL_law RX9) (hr : meth.sig.returnType = (some .int)) (hlk : meth.locks = false) (hF : fz_F G fz_KM s)  (hT : fz_T G fz_shM fz_KM s M H locs) (hl : lv_has ls 6 [(0, .ref (G.1 0)), (1, .int v1), (2, .int v2), (3, .int v3), (4, .int v4), (5, .int v5)]) (h : f_X9_house_23 v1 v2 v3 v4 v5 M = some (r, M9)) : W p l e (fz_rm 2 46) s m args below meth c H locs 0 0 (MQ below (fz_Qi G fz_shM fz_KM r M9) args s 0 0 (fz_Fr G fz_KM)) (F0 m 23 ls []) :=
  b_X9_house_23_l C hr hlk hF fz_fuel v3 v4 v5 H locs ls hT hl h
set_option maxHeartbeats 4000000 in
set_option maxRecDepth 100000 in
theorem b_X9_house_0 {p : Program} {l : Launch} {e : Env} {s : State} {m : MethodId} {args : Array Value} {below : List Frame} {meth : Method} {c : Code} {G : fz_G}     {v1 : Int32} {v2 : Int32} {M : fz_M} {H : Heap} {locs : List Loc} {ls : Array Slot} {r : Int32} {M9 : fz_M} (C : CallFix p m c cX9_house 6 s args wsL_law RX9) (hr : meth.sig.returnType = (some .int)) (hlk : meth.locks = false) (hF : fz_F G fz_KM s)  (hT : fz_T G fz_shM fz_KM s M H locs) (hl : lv_has ls 6 [(0, .ref (G.1 0)), (1, .int v1), (2, .int v2)]) (h : f_X9_house v1 v2 M = some (r, M9)) : W p l e (fz_rm 2 46) s m args below meth c H locs 0 0 (MQ below (fz_Qi G fz_shM fz_KM r M9) args s 0 0 (fz_Fr G fz_KM)) (F0 m 0 ls []) := by
  refine lv_aload_n C.1 C.2.1 dX9_house_0 rfl (lv_at hl 0 rfl) ?_
  refine lv_iconst (v := 0) C.1 C.2.1 dX9_house_1 (by decide) ?_
  obtain ⟨M1, eM1, h⟩ := fz_bd_s h
  refine fz_puti C hF hT fz_m0 (j := 0) rfl fw_X9_117 dX9_house_2 (fun H locs hT => ?_)
  rw [← eM1] at hT
  refine lv_aload_n C.1 C.2.1 dX9_house_5 rfl (lv_at hl 0 rfl) ?_
  refine lv_iload_n C.1 C.2.1 dX9_house_6 rfl (lv_at hl 1 rfl) ?_
  obtain ⟨r2, w4, h⟩ := fz_b1_s h
  refine fz_ci hT (fz_runV (np := 1) (rest := []) C hF hT (c_X9_noHouse l G v1 M1 r2 w4) fz_m0 (T := TX9) (N := 49) rfl cl_X9_200 rfl hl.1 rfl (Nat.le_of_ble_eq_true rfl) ⟨Nat.le_of_ble_eq_true rfl, Nat.le_of_ble_eq_true rfl, Nat.zero_le _, Nat.zero_le _⟩ dX9_house_7) (fun H locs hT => ?_)
  refine lv_if_eq (tgt := 15) C.1 C.2.1 dX9_house_10 (by decide) (fun c5 => ?_) (fun c5 => ?_)
  · have h := fz_ip c5 h
    refine lv_iconst (v := 0) C.1 C.2.1 dX9_house_15 (by decide) ?_
    refine lv_istore_n (lv' := [(3, .int 0), (0, .ref (G.1 0)), (1, .int v1), (2, .int v2)]) C.1 C.2.1 dX9_house_16 rfl hl (by decide) rfl (fun ls hl => ?_)
    refine lv_iconst (v := 0) C.1 C.2.1 dX9_house_17 (by decide) ?_
    refine lv_istore (lv' := [(4, .int 0), (3, .int 0), (0, .ref (G.1 0)), (1, .int v1), (2, .int v2)]) C.1 C.2.1 dX9_house_18 hl (by decide) rfl (fun ls hl => ?_)
    refine lv_iconst (v := 0) C.1 C.2.1 dX9_house_20 (by decide) ?_
    refine lv_istore (lv' := [(5, .int 0), (4, .int 0), (3, .int 0), (0, .ref (G.1 0)), (1, .int v1), (2, .int v2)]) C.1 C.2.1 dX9_house_21 hl (by decide) rfl (fun ls hl => ?_)
    exact b_X9_house_23 C hr hlk hF hT (lv_sub hl [3, 4, 5, 2, 1, 0] rfl) h
  · have h := fz_iq c5 h
    refine lv_iconst (v := (-1)) C.1 C.2.1 dX9_house_13 (by decide) ?_
    cases h
    exact fz_reti C hr hlk hT dX9_house_14
set_option maxRecDepth 100000 in
theorem c_X9_house (l : Launch) (G : fz_G)  (a0 : Int32) (a1 : Int32) (M : fz_M) (r : Int32) (M9 : fz_M) (h : f_X9_house a0 a1 M = some (r, M9)) : fz_Me l yX9_house cX9_house 6 (some .int) 2 46 G fz_shM fz_KM [.ref (G.1 0), .int a0, .int a1] M (fz_Qi G fz_shM fz_KM r M9) := by
  refine fz_body (by decide) (Nat.le_of_ble_eq_true rfl) ?_
  intro p e s m args below meth c H locs ls C hr hlk hF hT hl
  have C : CallFix p m c cX9_house 6 s args wsL_law RX9 := C
  have hl : lv_has ls 6 [(0, .ref (G.1 0)), (1, .int a0), (2, .int a1)] := hl
  exact b_X9_house_0 C hr hlk hF hT (lv_sub hl [0, 1, 2] rfl) h
set_option maxHeartbeats 4000000 in
set_option maxRecDepth 100000 in
theorem b_X9_stream_0 {p : Program} {l : Launch} {e : Env} {s : State} {m : MethodId} {args : Array Value} {below : List Frame} {meth : Method} {c : Code} {G : fz_G}     {v1 : Int32} {v2 : Int32} {M : fz_M} {H : Heap} {locs : List Loc} {ls : Array Slot} {r : Int32} {M9 : fz_M} (C : CallFix p m c cX9_stream 3 s args wsL_law RX9) (hr : meth.sig.returnType = (some .int)) (hlk : meth.locks = false) (hF : fz_F G fz_KM s)  (hT : fz_T G fz_shM fz_KM s M H locs) (hl : lv_has ls 3 [(0, .ref (G.1 0)), (1, .int v1), (2, .int v2)]) (h : f_X9_stream v1 v2 M = some (r, M9)) : W p l e (fz_rm 1 25) s m args below meth c H locs 0 0 (MQ below (fz_Qi G fz_shM fz_KM r M9) args s 0 0 (fz_Fr G fz_KM)) (F0 m 0 ls []) := by
  refine lv_aload_n C.1 C.2.1 dX9_stream_0 rfl (lv_at hl 0 rfl) ?_
  refine lv_iconst (v := 0) C.1 C.2.1 dX9_stream_1 (by decide) ?_
  obtain ⟨M1, eM1, h⟩ := fz_bd_s h
  refine fz_puti C hF hT fz_m0 (j := 0) rfl fw_X9_117 dX9_stream_2 (fun H locs hT => ?_)
  rw [← eM1] at hT
  refine lv_iload_n C.1 C.2.1 dX9_stream_5 rfl (lv_at hl 1 rfl) ?_
  refine lv_i2l (v := (v1.toInt64)) C.1 C.2.1 dX9_stream_6 rfl ?_
  refine lv_lconst (v := 0) C.1 C.2.1 dX9_stream_7 (by decide) ?_
  refine lv_aload_n C.1 C.2.1 dX9_stream_8 rfl (lv_at hl 0 rfl) ?_
  refine fz_geti C hF hT fz_m0 (j := 5) rfl fl_X9_188 dX9_stream_9 ?_
  refine lv_iconst (v := 1) C.1 C.2.1 dX9_stream_12 (by decide) ?_
  refine lv_isub C.1 C.2.1 dX9_stream_13 ?_
  refine lv_i2l (v := (((fz_f M1 0 5) - 1).toInt64)) C.1 C.2.1 dX9_stream_14 rfl ?_
  obtain ⟨r2, w4, h⟩ := fz_b1_s h
  refine fz_ci hT (fz_runS (np := 3) (rest := []) C hF hT (c_X9_in l G (v1.toInt64) 0 (((fz_f M1 0 5) - 1).toInt64) M1 r2 w4) cl_X9_124 rfl hl.1 rfl (Nat.le_of_ble_eq_true rfl) ⟨Nat.le_of_ble_eq_true rfl, Nat.le_of_ble_eq_true rfl, Nat.zero_le _, Nat.zero_le _⟩ dX9_stream_15) (fun H locs hT => ?_)
  refine lv_if_ne (tgt := 23) C.1 C.2.1 dX9_stream_18 (by decide) (fun c5 => ?_) (fun c5 => ?_)
  · have h := fz_ip c5 h
    refine lv_iload_n C.1 C.2.1 dX9_stream_23 rfl (lv_at hl 2 rfl) ?_
    refine lv_if_ne (tgt := 36) C.1 C.2.1 dX9_stream_24 (by decide) (fun c6 => ?_) (fun c6 => ?_)
    · have h := fz_ip c6 h
      refine lv_iload_n C.1 C.2.1 dX9_stream_36 rfl (lv_at hl 2 rfl) ?_
      refine lv_iconst (v := 1) C.1 C.2.1 dX9_stream_37 (by decide) ?_
      refine lv_icmp_ne (tgt := 50) C.1 C.2.1 dX9_stream_38 (by decide) (fun c7 => ?_) (fun c7 => ?_)
      · have h := fz_ip c7 h
        refine lv_iload_n C.1 C.2.1 dX9_stream_50 rfl (lv_at hl 2 rfl) ?_
        refine lv_iconst (v := 2) C.1 C.2.1 dX9_stream_51 (by decide) ?_
        refine lv_icmp_ne (tgt := 64) C.1 C.2.1 dX9_stream_52 (by decide) (fun c8 => ?_) (fun c8 => ?_)
        · have h := fz_ip c8 h
          refine lv_iload_n C.1 C.2.1 dX9_stream_64 rfl (lv_at hl 2 rfl) ?_
          refine lv_iconst (v := 3) C.1 C.2.1 dX9_stream_65 (by decide) ?_
          refine lv_icmp_ne (tgt := 86) C.1 C.2.1 dX9_stream_66 (by decide) (fun c9 => ?_) (fun c9 => ?_)
          · have h := fz_ip c9 h
            refine lv_bipush (v := (-2)) C.1 C.2.1 dX9_stream_86 (by decide) ?_
            cases h
            exact fz_reti C hr hlk hT dX9_stream_88
          · have h := fz_iq (not_not_intro c9) h
            refine lv_aload_n C.1 C.2.1 dX9_stream_69 rfl (lv_at hl 0 rfl) ?_
            refine fz_getr C hF hT fz_m0 (j := 12) rfl fl_X9_28 dX9_stream_70 ?_
            refine lv_iload_n C.1 C.2.1 dX9_stream_73 rfl (lv_at hl 1 rfl) ?_
            obtain ⟨g10, h⟩ := fz_gd_s h
            refine fz_za C hF hT fz_m7 g10 dX9_stream_74 ?_
            refine lv_if_eq (tgt := 82) C.1 C.2.1 dX9_stream_75 (by decide) (fun c11 => ?_) (fun c11 => ?_)
            · have h := fz_ip c11 h
              refine lv_iconst (v := 0) C.1 C.2.1 dX9_stream_82 (by decide) ?_
              refine lv_goto (tgt := 88) C.1 C.2.1 dX9_stream_83 (by decide) ?_
              cases h
              exact fz_reti C hr hlk hT dX9_stream_88
            · have h := fz_iq c11 h
              refine lv_iconst (v := 1) C.1 C.2.1 dX9_stream_78 (by decide) ?_
              refine lv_goto (tgt := 88) C.1 C.2.1 dX9_stream_79 (by decide) ?_
              cases h
              exact fz_reti C hr hlk hT dX9_stream_88
        · have h := fz_iq (not_not_intro c8) h
          refine lv_aload_n C.1 C.2.1 dX9_stream_55 rfl (lv_at hl 0 rfl) ?_
          refine fz_getr C hF hT fz_m0 (j := 11) rfl fl_X9_25 dX9_stream_56 ?_
          refine lv_iload_n C.1 C.2.1 dX9_stream_59 rfl (lv_at hl 1 rfl) ?_
          obtain ⟨g12, h⟩ := fz_gd_s h
          refine fz_ia C hF hT fz_m6 g12 dX9_stream_60 ?_
          refine lv_goto (tgt := 88) C.1 C.2.1 dX9_stream_61 (by decide) ?_
          cases h
          exact fz_reti C hr hlk hT dX9_stream_88
      · have h := fz_iq (not_not_intro c7) h
        refine lv_aload_n C.1 C.2.1 dX9_stream_41 rfl (lv_at hl 0 rfl) ?_
        refine fz_getr C hF hT fz_m0 (j := 10) rfl fl_X9_22 dX9_stream_42 ?_
        refine lv_iload_n C.1 C.2.1 dX9_stream_45 rfl (lv_at hl 1 rfl) ?_
        obtain ⟨g13, h⟩ := fz_gd_s h
        refine fz_ia C hF hT fz_m5 g13 dX9_stream_46 ?_
        refine lv_goto (tgt := 88) C.1 C.2.1 dX9_stream_47 (by decide) ?_
        cases h
        exact fz_reti C hr hlk hT dX9_stream_88
    · have h := fz_iq (not_not_intro c6) h
      refine lv_aload_n C.1 C.2.1 dX9_stream_27 rfl (lv_at hl 0 rfl) ?_
      refine fz_getr C hF hT fz_m0 (j := 9) rfl fl_X9_19 dX9_stream_28 ?_
      refine lv_iload_n C.1 C.2.1 dX9_stream_31 rfl (lv_at hl 1 rfl) ?_
      obtain ⟨g14, h⟩ := fz_gd_s h
      refine fz_ia C hF hT fz_m4 g14 dX9_stream_32 ?_
      refine lv_goto (tgt := 88) C.1 C.2.1 dX9_stream_33 (by decide) ?_
      cases h
      exact fz_reti C hr hlk hT dX9_stream_88
  · have h := fz_iq (not_not_intro c5) h
    refine lv_iconst (v := (-1)) C.1 C.2.1 dX9_stream_21 (by decide) ?_
    cases h
    exact fz_reti C hr hlk hT dX9_stream_22
set_option maxRecDepth 100000 in
theorem c_X9_stream (l : Launch) (G : fz_G)  (a0 : Int32) (a1 : Int32) (M : fz_M) (r : Int32) (M9 : fz_M) (h : f_X9_stream a0 a1 M = some (r, M9)) : fz_Me l yX9_stream cX9_stream 3 (some .int) 1 25 G fz_shM fz_KM [.ref (G.1 0), .int a0, .int a1] M (fz_Qi G fz_shM fz_KM r M9) := by
  refine fz_body (by decide) (Nat.le_of_ble_eq_true rfl) ?_
  intro p e s m args below meth c H locs ls C hr hlk hF hT hl
  have C : CallFix p m c cX9_stream 3 s args wsL_law RX9 := C
  have hl : lv_has ls 3 [(0, .ref (G.1 0)), (1, .int a0), (2, .int a1)] := hl
  exact b_X9_stream_0 C hr hlk hF hT (lv_sub hl [0, 1, 2] rfl) h
set_option maxHeartbeats 4000000 in
set_option maxRecDepth 100000 in
theorem b_X9_piece_0 {p : Program} {l : Launch} {e : Env} {s : State} {m : MethodId} {args : Array Value} {below : List Frame} {meth : Method} {c : Code} {G : fz_G}     {v1 : Int32} {v2 : Int32} {M : fz_M} {H : Heap} {locs : List Loc} {ls : Array Slot} {r : Int32} {M9 : fz_M} (C : CallFix p m c cX9_piece 3 s args wsL_law RX9) (hr : meth.sig.returnType = (some .int)) (hlk : meth.locks = false) (hF : fz_F G fz_KM s)  (hT : fz_T G fz_shM fz_KM s M H locs) (hl : lv_has ls 3 [(0, .ref (G.1 0)), (1, .int v1), (2, .int v2)]) (h : f_X9_piece v1 v2 M = some (r, M9)) : W p l e (fz_rm 2 46) s m args below meth c H locs 0 0 (MQ below (fz_Qi G fz_shM fz_KM r M9) args s 0 0 (fz_Fr G fz_KM)) (F0 m 0 ls []) := by
  refine lv_aload_n C.1 C.2.1 dX9_piece_0 rfl (lv_at hl 0 rfl) ?_
  refine lv_iconst (v := 0) C.1 C.2.1 dX9_piece_1 (by decide) ?_
  obtain ⟨M1, eM1, h⟩ := fz_bd_s h
  refine fz_puti C hF hT fz_m0 (j := 0) rfl fw_X9_117 dX9_piece_2 (fun H locs hT => ?_)
  rw [← eM1] at hT
  refine lv_aload_n C.1 C.2.1 dX9_piece_5 rfl (lv_at hl 0 rfl) ?_
  refine lv_iload_n C.1 C.2.1 dX9_piece_6 rfl (lv_at hl 1 rfl) ?_
  obtain ⟨r2, w4, h⟩ := fz_b1_s h
  refine fz_ci hT (fz_runV (np := 1) (rest := []) C hF hT (c_X9_noPiece l G v1 M1 r2 w4) fz_m0 (T := TX9) (N := 49) rfl cl_X9_203 rfl hl.1 rfl (Nat.le_of_ble_eq_true rfl) ⟨Nat.le_of_ble_eq_true rfl, Nat.le_of_ble_eq_true rfl, Nat.zero_le _, Nat.zero_le _⟩ dX9_piece_7) (fun H locs hT => ?_)
  refine lv_if_eq (tgt := 15) C.1 C.2.1 dX9_piece_10 (by decide) (fun c5 => ?_) (fun c5 => ?_)
  · have h := fz_ip c5 h
    refine lv_iload_n C.1 C.2.1 dX9_piece_15 rfl (lv_at hl 2 rfl) ?_
    by_cases c6 : v2 = 0
    · have h := fz_ip c6 h
      refine lv_tableIn (off := 40) (tgt := 56) C.1 C.2.1 dX9_piece_16 (by rw [c6]; decide) (by rw [c6]; decide) (by rw [c6]; rfl) (by decide) ?_
      refine lv_aload_n C.1 C.2.1 dX9_piece_56 rfl (lv_at hl 0 rfl) ?_
      refine fz_getr C hF hT fz_m0 (j := 16) rfl fl_X9_41 dX9_piece_57 ?_
      refine lv_iload_n C.1 C.2.1 dX9_piece_60 rfl (lv_at hl 1 rfl) ?_
      obtain ⟨g7, h⟩ := fz_gd_s h
      refine fz_ia C hF hT fz_m11 g7 dX9_piece_61 ?_
      cases h
      exact fz_reti C hr hlk hT dX9_piece_62
    have h := fz_iq c6 h
    by_cases c8 : v2 = 1
    · have h := fz_ip c8 h
      refine lv_tableIn (off := 47) (tgt := 63) C.1 C.2.1 dX9_piece_16 (by rw [c8]; decide) (by rw [c8]; decide) (by rw [c8]; rfl) (by decide) ?_
      refine lv_aload_n C.1 C.2.1 dX9_piece_63 rfl (lv_at hl 0 rfl) ?_
      refine fz_getr C hF hT fz_m0 (j := 14) rfl fl_X9_35 dX9_piece_64 ?_
      refine lv_iload_n C.1 C.2.1 dX9_piece_67 rfl (lv_at hl 1 rfl) ?_
      obtain ⟨g9, h⟩ := fz_gd_s h
      refine fz_ia C hF hT fz_m9 g9 dX9_piece_68 ?_
      cases h
      exact fz_reti C hr hlk hT dX9_piece_69
    have h := fz_iq c8 h
    by_cases c10 : v2 = 2
    · have h := fz_ip c10 h
      refine lv_tableIn (off := 54) (tgt := 70) C.1 C.2.1 dX9_piece_16 (by rw [c10]; decide) (by rw [c10]; decide) (by rw [c10]; rfl) (by decide) ?_
      refine lv_aload_n C.1 C.2.1 dX9_piece_70 rfl (lv_at hl 0 rfl) ?_
      refine fz_getr C hF hT fz_m0 (j := 15) rfl fl_X9_38 dX9_piece_71 ?_
      refine lv_iload_n C.1 C.2.1 dX9_piece_74 rfl (lv_at hl 1 rfl) ?_
      obtain ⟨g11, h⟩ := fz_gd_s h
      refine fz_ia C hF hT fz_m10 g11 dX9_piece_75 ?_
      cases h
      exact fz_reti C hr hlk hT dX9_piece_76
    have h := fz_iq c10 h
    by_cases c12 : v2 = 3
    · have h := fz_ip c12 h
      refine lv_tableIn (off := 61) (tgt := 77) C.1 C.2.1 dX9_piece_16 (by rw [c12]; decide) (by rw [c12]; decide) (by rw [c12]; rfl) (by decide) ?_
      refine lv_aload_n C.1 C.2.1 dX9_piece_77 rfl (lv_at hl 0 rfl) ?_
      refine fz_getr C hF hT fz_m0 (j := 17) rfl fl_X9_44 dX9_piece_78 ?_
      refine lv_iload_n C.1 C.2.1 dX9_piece_81 rfl (lv_at hl 1 rfl) ?_
      obtain ⟨g13, h⟩ := fz_gd_s h
      refine fz_ia C hF hT fz_m12 g13 dX9_piece_82 ?_
      cases h
      exact fz_reti C hr hlk hT dX9_piece_83
    have h := fz_iq c12 h
    by_cases c14 : v2 = 4
    · have h := fz_ip c14 h
      refine lv_tableIn (off := 68) (tgt := 84) C.1 C.2.1 dX9_piece_16 (by rw [c14]; decide) (by rw [c14]; decide) (by rw [c14]; rfl) (by decide) ?_
      refine lv_aload_n C.1 C.2.1 dX9_piece_84 rfl (lv_at hl 0 rfl) ?_
      refine fz_getr C hF hT fz_m0 (j := 13) rfl fl_X9_32 dX9_piece_85 ?_
      refine lv_iload_n C.1 C.2.1 dX9_piece_88 rfl (lv_at hl 1 rfl) ?_
      obtain ⟨g15, h⟩ := fz_gd_s h
      refine fz_ia C hF hT fz_m8 g15 dX9_piece_89 ?_
      cases h
      exact fz_reti C hr hlk hT dX9_piece_90
    have h := fz_iq c14 h
    by_cases c16 : v2 = 5
    · have h := fz_ip c16 h
      refine lv_tableIn (off := 75) (tgt := 91) C.1 C.2.1 dX9_piece_16 (by rw [c16]; decide) (by rw [c16]; decide) (by rw [c16]; rfl) (by decide) ?_
      refine lv_aload_n C.1 C.2.1 dX9_piece_91 rfl (lv_at hl 0 rfl) ?_
      refine fz_getr C hF hT fz_m0 (j := 20) rfl fl_X9_53 dX9_piece_92 ?_
      refine lv_iload_n C.1 C.2.1 dX9_piece_95 rfl (lv_at hl 1 rfl) ?_
      obtain ⟨g17, h⟩ := fz_gd_s h
      refine fz_ia C hF hT fz_m15 g17 dX9_piece_96 ?_
      cases h
      exact fz_reti C hr hlk hT dX9_piece_97
    have h := fz_iq c16 h
    refine lv_tableOut (tgt := 98) C.1 C.2.1 dX9_piece_16 (by have nc6 := fz_ni c6 (i := 0) rfl; have nc8 := fz_ni c8 (i := 1) rfl; have nc10 := fz_ni c10 (i := 2) rfl; have nc12 := fz_ni c12 (i := 3) rfl; have nc14 := fz_ni c14 (i := 4) rfl; have nc16 := fz_ni c16 (i := 5) rfl; omega) (by decide) ?_
    refine lv_bipush (v := (-2)) C.1 C.2.1 dX9_piece_98 (by decide) ?_
    cases h
    exact fz_reti C hr hlk hT dX9_piece_100
  · have h := fz_iq c5 h
    refine lv_iconst (v := (-1)) C.1 C.2.1 dX9_piece_13 (by decide) ?_
    cases h
    exact fz_reti C hr hlk hT dX9_piece_14
set_option maxRecDepth 100000 in
theorem c_X9_piece (l : Launch) (G : fz_G)  (a0 : Int32) (a1 : Int32) (M : fz_M) (r : Int32) (M9 : fz_M) (h : f_X9_piece a0 a1 M = some (r, M9)) : fz_Me l yX9_piece cX9_piece 3 (some .int) 2 46 G fz_shM fz_KM [.ref (G.1 0), .int a0, .int a1] M (fz_Qi G fz_shM fz_KM r M9) := by
  refine fz_body (by decide) (Nat.le_of_ble_eq_true rfl) ?_
  intro p e s m args below meth c H locs ls C hr hlk hF hT hl
  have C : CallFix p m c cX9_piece 3 s args wsL_law RX9 := C
  have hl : lv_has ls 3 [(0, .ref (G.1 0)), (1, .int a0), (2, .int a1)] := hl
  exact b_X9_piece_0 C hr hlk hF hT (lv_sub hl [0, 1, 2] rfl) h
set_option maxHeartbeats 4000000 in
set_option maxRecDepth 100000 in
theorem b_X9_owner_0 {p : Program} {l : Launch} {e : Env} {s : State} {m : MethodId} {args : Array Value} {below : List Frame} {meth : Method} {c : Code} {G : fz_G}     {v1 : Int32} {v2 : Int32} {M : fz_M} {H : Heap} {locs : List Loc} {ls : Array Slot} {r : Int32} {M9 : fz_M} (C : CallFix p m c cX9_owner 3 s args wsL_law RX9) (hr : meth.sig.returnType = (some .int)) (hlk : meth.locks = false) (hF : fz_F G fz_KM s)  (hT : fz_T G fz_shM fz_KM s M H locs) (hl : lv_has ls 3 [(0, .ref (G.1 0)), (1, .int v1), (2, .int v2)]) (h : f_X9_owner v1 v2 M = some (r, M9)) : W p l e (fz_rm 2 46) s m args below meth c H locs 0 0 (MQ below (fz_Qi G fz_shM fz_KM r M9) args s 0 0 (fz_Fr G fz_KM)) (F0 m 0 ls []) := by
  refine lv_aload_n C.1 C.2.1 dX9_owner_0 rfl (lv_at hl 0 rfl) ?_
  refine lv_iconst (v := 0) C.1 C.2.1 dX9_owner_1 (by decide) ?_
  obtain ⟨M1, eM1, h⟩ := fz_bd_s h
  refine fz_puti C hF hT fz_m0 (j := 0) rfl fw_X9_117 dX9_owner_2 (fun H locs hT => ?_)
  rw [← eM1] at hT
  refine lv_aload_n C.1 C.2.1 dX9_owner_5 rfl (lv_at hl 0 rfl) ?_
  refine lv_iload_n C.1 C.2.1 dX9_owner_6 rfl (lv_at hl 1 rfl) ?_
  obtain ⟨r2, w4, h⟩ := fz_b1_s h
  refine fz_ci hT (fz_runV (np := 1) (rest := []) C hF hT (c_X9_noPiece l G v1 M1 r2 w4) fz_m0 (T := TX9) (N := 49) rfl cl_X9_203 rfl hl.1 rfl (Nat.le_of_ble_eq_true rfl) ⟨Nat.le_of_ble_eq_true rfl, Nat.le_of_ble_eq_true rfl, Nat.zero_le _, Nat.zero_le _⟩ dX9_owner_7) (fun H locs hT => ?_)
  refine lv_if_eq (tgt := 15) C.1 C.2.1 dX9_owner_10 (by decide) (fun c5 => ?_) (fun c5 => ?_)
  · have h := fz_ip c5 h
    refine lv_iload_n C.1 C.2.1 dX9_owner_15 rfl (lv_at hl 2 rfl) ?_
    refine lv_i2l (v := (v2.toInt64)) C.1 C.2.1 dX9_owner_16 rfl ?_
    refine lv_lconst (v := 0) C.1 C.2.1 dX9_owner_17 (by decide) ?_
    refine lv_aload_n C.1 C.2.1 dX9_owner_18 rfl (lv_at hl 0 rfl) ?_
    refine fz_getr C hF hT fz_m0 (j := 19) rfl fl_X9_50 dX9_owner_19 ?_
    refine lv_iload_n C.1 C.2.1 dX9_owner_22 rfl (lv_at hl 1 rfl) ?_
    obtain ⟨g6, h⟩ := fz_gd_s h
    refine fz_ia C hF hT fz_m14 g6 dX9_owner_23 ?_
    refine lv_iconst (v := 1) C.1 C.2.1 dX9_owner_24 (by decide) ?_
    refine lv_isub C.1 C.2.1 dX9_owner_25 ?_
    refine lv_i2l (v := (((fz_g M1 14 v1) - 1).toInt64)) C.1 C.2.1 dX9_owner_26 rfl ?_
    obtain ⟨r7, w9, h⟩ := fz_b1_s h
    refine fz_ci hT (fz_runS (np := 3) (rest := []) C hF hT (c_X9_in l G (v2.toInt64) 0 (((fz_g M1 14 v1) - 1).toInt64) M1 r7 w9) cl_X9_124 rfl hl.1 rfl (Nat.le_of_ble_eq_true rfl) ⟨Nat.le_of_ble_eq_true rfl, Nat.le_of_ble_eq_true rfl, Nat.zero_le _, Nat.zero_le _⟩ dX9_owner_27) (fun H locs hT => ?_)
    refine lv_if_eq (tgt := 47) C.1 C.2.1 dX9_owner_30 (by decide) (fun c10 => ?_) (fun c10 => ?_)
    · have h := fz_ip c10 h
      refine lv_bipush (v := (-9)) C.1 C.2.1 dX9_owner_47 (by decide) ?_
      cases h
      exact fz_reti C hr hlk hT dX9_owner_49
    · have h := fz_iq c10 h
      refine lv_aload_n C.1 C.2.1 dX9_owner_33 rfl (lv_at hl 0 rfl) ?_
      refine fz_getr C hF hT fz_m0 (j := 18) rfl fl_X9_47 dX9_owner_34 ?_
      refine lv_bipush (v := 8) C.1 C.2.1 dX9_owner_37 (by decide) ?_
      refine lv_iload_n C.1 C.2.1 dX9_owner_39 rfl (lv_at hl 1 rfl) ?_
      refine lv_imul C.1 C.2.1 dX9_owner_40 ?_
      refine lv_iload_n C.1 C.2.1 dX9_owner_41 rfl (lv_at hl 2 rfl) ?_
      refine lv_iadd C.1 C.2.1 dX9_owner_42 ?_
      obtain ⟨g11, h⟩ := fz_gd_s h
      refine fz_ia C hF hT fz_m13 g11 dX9_owner_43 ?_
      refine lv_goto (tgt := 49) C.1 C.2.1 dX9_owner_44 (by decide) ?_
      cases h
      exact fz_reti C hr hlk hT dX9_owner_49
  · have h := fz_iq c5 h
    refine lv_iconst (v := (-1)) C.1 C.2.1 dX9_owner_13 (by decide) ?_
    cases h
    exact fz_reti C hr hlk hT dX9_owner_14
set_option maxRecDepth 100000 in
theorem c_X9_owner (l : Launch) (G : fz_G)  (a0 : Int32) (a1 : Int32) (M : fz_M) (r : Int32) (M9 : fz_M) (h : f_X9_owner a0 a1 M = some (r, M9)) : fz_Me l yX9_owner cX9_owner 3 (some .int) 2 46 G fz_shM fz_KM [.ref (G.1 0), .int a0, .int a1] M (fz_Qi G fz_shM fz_KM r M9) := by
  refine fz_body (by decide) (Nat.le_of_ble_eq_true rfl) ?_
  intro p e s m args below meth c H locs ls C hr hlk hF hT hl
  have C : CallFix p m c cX9_owner 3 s args wsL_law RX9 := C
  have hl : lv_has ls 3 [(0, .ref (G.1 0)), (1, .int a0), (2, .int a1)] := hl
  exact b_X9_owner_0 C hr hlk hF hT (lv_sub hl [0, 1, 2] rfl) h
set_option maxHeartbeats 4000000 in
set_option maxRecDepth 100000 in
theorem b_X9_tie_0 {p : Program} {l : Launch} {e : Env} {s : State} {m : MethodId} {args : Array Value} {below : List Frame} {meth : Method} {c : Code} {G : fz_G}     {v1 : Int32} {v2 : Int32} {M : fz_M} {H : Heap} {locs : List Loc} {ls : Array Slot} {r : Int32} {M9 : fz_M} (C : CallFix p m c cX9_tie 4 s args wsL_law RX9) (hr : meth.sig.returnType = (some .int)) (hlk : meth.locks = false) (hF : fz_F G fz_KM s)  (hT : fz_T G fz_shM fz_KM s M H locs) (hl : lv_has ls 4 [(0, .ref (G.1 0)), (1, .int v1), (2, .int v2)]) (h : f_X9_tie v1 v2 M = some (r, M9)) : W p l e (fz_rm 2 46) s m args below meth c H locs 0 0 (MQ below (fz_Qi G fz_shM fz_KM r M9) args s 0 0 (fz_Fr G fz_KM)) (F0 m 0 ls []) := by
  refine lv_aload_n C.1 C.2.1 dX9_tie_0 rfl (lv_at hl 0 rfl) ?_
  refine lv_iconst (v := 0) C.1 C.2.1 dX9_tie_1 (by decide) ?_
  obtain ⟨M1, eM1, h⟩ := fz_bd_s h
  refine fz_puti C hF hT fz_m0 (j := 0) rfl fw_X9_117 dX9_tie_2 (fun H locs hT => ?_)
  rw [← eM1] at hT
  refine lv_aload_n C.1 C.2.1 dX9_tie_5 rfl (lv_at hl 0 rfl) ?_
  refine lv_iload_n C.1 C.2.1 dX9_tie_6 rfl (lv_at hl 1 rfl) ?_
  obtain ⟨r2, w4, h⟩ := fz_b1_s h
  refine fz_ci hT (fz_runV (np := 1) (rest := []) C hF hT (c_X9_noPiece l G v1 M1 r2 w4) fz_m0 (T := TX9) (N := 49) rfl cl_X9_203 rfl hl.1 rfl (Nat.le_of_ble_eq_true rfl) ⟨Nat.le_of_ble_eq_true rfl, Nat.le_of_ble_eq_true rfl, Nat.zero_le _, Nat.zero_le _⟩ dX9_tie_7) (fun H locs hT => ?_)
  refine lv_if_eq (tgt := 15) C.1 C.2.1 dX9_tie_10 (by decide) (fun c5 => ?_) (fun c5 => ?_)
  · have h := fz_ip c5 h
    refine lv_iload_n C.1 C.2.1 dX9_tie_15 rfl (lv_at hl 2 rfl) ?_
    refine lv_i2l (v := (v2.toInt64)) C.1 C.2.1 dX9_tie_16 rfl ?_
    refine lv_lconst (v := 0) C.1 C.2.1 dX9_tie_17 (by decide) ?_
    refine lv_ldc2 (v := 9) C.1 C.2.1 C.2.2.2.1 (C.2.2.2.2 _ (fz_q18 _ (List.mem_of_getElem? (i := 23) rfl))) dX9_tie_18 ?_
    obtain ⟨r6, w8, h⟩ := fz_b1_s h
    refine fz_ci hT (fz_runS (np := 3) (rest := []) C hF hT (c_X9_in l G (v2.toInt64) 0 9 M1 r6 w8) cl_X9_124 rfl hl.1 rfl (Nat.le_of_ble_eq_true rfl) ⟨Nat.le_of_ble_eq_true rfl, Nat.le_of_ble_eq_true rfl, Nat.zero_le _, Nat.zero_le _⟩ dX9_tie_21) (fun H locs hT => ?_)
    refine lv_if_ne (tgt := 30) C.1 C.2.1 dX9_tie_24 (by decide) (fun c9 => ?_) (fun c9 => ?_)
    · have h := fz_ip c9 h
      refine lv_aload_n C.1 C.2.1 dX9_tie_30 rfl (lv_at hl 0 rfl) ?_
      refine fz_getr C hF hT fz_m0 (j := 17) rfl fl_X9_44 dX9_tie_31 ?_
      refine lv_iload_n C.1 C.2.1 dX9_tie_34 rfl (lv_at hl 1 rfl) ?_
      obtain ⟨g10, h⟩ := fz_gd_s h
      refine fz_ia C hF hT fz_m12 g10 dX9_tie_35 ?_
      obtain ⟨x11, ex11, h⟩ := fz_bd_s h
      refine fz_nmi ex11 ?_
      refine lv_istore_n (lv' := [(3, .int x11), (0, .ref (G.1 0)), (1, .int v1), (2, .int v2)]) C.1 C.2.1 dX9_tie_36 rfl hl (by decide) rfl (fun ls hl => ?_)
      refine lv_aload_n C.1 C.2.1 dX9_tie_37 rfl (lv_at hl 1 rfl) ?_
      refine fz_getr C hF hT fz_m0 (j := 17) rfl fl_X9_44 dX9_tie_38 ?_
      refine lv_iload_n C.1 C.2.1 dX9_tie_41 rfl (lv_at hl 2 rfl) ?_
      refine lv_iload_n C.1 C.2.1 dX9_tie_42 rfl (lv_at hl 3 rfl) ?_
      obtain ⟨g12, h⟩ := fz_gd_s h
      obtain ⟨M13, eM13, h⟩ := fz_bd_s h
      refine fz_ias C hF hT fz_m12 g12 dX9_tie_43 (fun H locs hT => ?_)
      rw [← eM13] at hT
      refine lv_iload_n C.1 C.2.1 dX9_tie_44 rfl (lv_at hl 0 rfl) ?_
      cases h
      exact fz_reti C hr hlk hT dX9_tie_45
    · have h := fz_iq (not_not_intro c9) h
      refine lv_bipush (v := (-2)) C.1 C.2.1 dX9_tie_27 (by decide) ?_
      cases h
      exact fz_reti C hr hlk hT dX9_tie_29
  · have h := fz_iq c5 h
    refine lv_iconst (v := (-1)) C.1 C.2.1 dX9_tie_13 (by decide) ?_
    cases h
    exact fz_reti C hr hlk hT dX9_tie_14
set_option maxRecDepth 100000 in
theorem c_X9_tie (l : Launch) (G : fz_G)  (a0 : Int32) (a1 : Int32) (M : fz_M) (r : Int32) (M9 : fz_M) (h : f_X9_tie a0 a1 M = some (r, M9)) : fz_Me l yX9_tie cX9_tie 4 (some .int) 2 46 G fz_shM fz_KM [.ref (G.1 0), .int a0, .int a1] M (fz_Qi G fz_shM fz_KM r M9) := by
  refine fz_body (by decide) (Nat.le_of_ble_eq_true rfl) ?_
  intro p e s m args below meth c H locs ls C hr hlk hF hT hl
  have C : CallFix p m c cX9_tie 4 s args wsL_law RX9 := C
  have hl : lv_has ls 4 [(0, .ref (G.1 0)), (1, .int a0), (2, .int a1)] := hl
  exact b_X9_tie_0 C hr hlk hF hT (lv_sub hl [0, 1, 2] rfl) h
set_option maxHeartbeats 4000000 in
set_option maxRecDepth 100000 in
theorem b_X9_carry_0 {p : Program} {l : Launch} {e : Env} {s : State} {m : MethodId} {args : Array Value} {below : List Frame} {meth : Method} {c : Code} {G : fz_G}     {v1 : Int32} {v2 : Int32} {M : fz_M} {H : Heap} {locs : List Loc} {ls : Array Slot} {r : Int32} {M9 : fz_M} (C : CallFix p m c cX9_carry 4 s args wsL_law RX9) (hr : meth.sig.returnType = (some .int)) (hlk : meth.locks = false) (hF : fz_F G fz_KM s)  (hT : fz_T G fz_shM fz_KM s M H locs) (hl : lv_has ls 4 [(0, .ref (G.1 0)), (1, .int v1), (2, .int v2)]) (h : f_X9_carry v1 v2 M = some (r, M9)) : W p l e (fz_rm 2 46) s m args below meth c H locs 0 0 (MQ below (fz_Qi G fz_shM fz_KM r M9) args s 0 0 (fz_Fr G fz_KM)) (F0 m 0 ls []) := by
  refine lv_aload_n C.1 C.2.1 dX9_carry_0 rfl (lv_at hl 0 rfl) ?_
  refine lv_iconst (v := 0) C.1 C.2.1 dX9_carry_1 (by decide) ?_
  obtain ⟨M1, eM1, h⟩ := fz_bd_s h
  refine fz_puti C hF hT fz_m0 (j := 0) rfl fw_X9_117 dX9_carry_2 (fun H locs hT => ?_)
  rw [← eM1] at hT
  refine lv_aload_n C.1 C.2.1 dX9_carry_5 rfl (lv_at hl 0 rfl) ?_
  refine lv_iload_n C.1 C.2.1 dX9_carry_6 rfl (lv_at hl 1 rfl) ?_
  obtain ⟨r2, w4, h⟩ := fz_b1_s h
  refine fz_ci hT (fz_runV (np := 1) (rest := []) C hF hT (c_X9_noPiece l G v1 M1 r2 w4) fz_m0 (T := TX9) (N := 49) rfl cl_X9_203 rfl hl.1 rfl (Nat.le_of_ble_eq_true rfl) ⟨Nat.le_of_ble_eq_true rfl, Nat.le_of_ble_eq_true rfl, Nat.zero_le _, Nat.zero_le _⟩ dX9_carry_7) (fun H locs hT => ?_)
  refine lv_if_ne (tgt := 21) C.1 C.2.1 dX9_carry_10 (by decide) (fun c5 => ?_) (fun c5 => ?_)
  · have h := fz_ip c5 h
    refine lv_iconst (v := (-1)) C.1 C.2.1 dX9_carry_21 (by decide) ?_
    cases h
    exact fz_reti C hr hlk hT dX9_carry_22
  · have h := fz_iq (not_not_intro c5) h
    refine lv_aload_n C.1 C.2.1 dX9_carry_13 rfl (lv_at hl 0 rfl) ?_
    refine lv_iload_n C.1 C.2.1 dX9_carry_14 rfl (lv_at hl 2 rfl) ?_
    obtain ⟨r6, w8, h⟩ := fz_b1_s h
    refine fz_ci hT (fz_runV (np := 1) (rest := []) C hF hT (c_X9_noHouse l G v2 M1 r6 w8) fz_m0 (T := TX9) (N := 49) rfl cl_X9_200 rfl hl.1 rfl (Nat.le_of_ble_eq_true rfl) ⟨Nat.le_of_ble_eq_true rfl, Nat.le_of_ble_eq_true rfl, Nat.zero_le _, Nat.zero_le _⟩ dX9_carry_15) (fun H locs hT => ?_)
    refine lv_if_eq (tgt := 23) C.1 C.2.1 dX9_carry_18 (by decide) (fun c9 => ?_) (fun c9 => ?_)
    · have h := fz_ip c9 h
      refine lv_aload_n C.1 C.2.1 dX9_carry_23 rfl (lv_at hl 0 rfl) ?_
      refine fz_getr C hF hT fz_m0 (j := 16) rfl fl_X9_41 dX9_carry_24 ?_
      refine lv_iload_n C.1 C.2.1 dX9_carry_27 rfl (lv_at hl 1 rfl) ?_
      obtain ⟨g10, h⟩ := fz_gd_s h
      refine fz_ia C hF hT fz_m11 g10 dX9_carry_28 ?_
      obtain ⟨x11, ex11, h⟩ := fz_bd_s h
      refine fz_nmi ex11 ?_
      refine lv_istore_n (lv' := [(3, .int x11), (0, .ref (G.1 0)), (1, .int v1), (2, .int v2)]) C.1 C.2.1 dX9_carry_29 rfl hl (by decide) rfl (fun ls hl => ?_)
      refine lv_aload_n C.1 C.2.1 dX9_carry_30 rfl (lv_at hl 1 rfl) ?_
      refine fz_getr C hF hT fz_m0 (j := 16) rfl fl_X9_41 dX9_carry_31 ?_
      refine lv_iload_n C.1 C.2.1 dX9_carry_34 rfl (lv_at hl 2 rfl) ?_
      refine lv_iload_n C.1 C.2.1 dX9_carry_35 rfl (lv_at hl 3 rfl) ?_
      obtain ⟨g12, h⟩ := fz_gd_s h
      obtain ⟨M13, eM13, h⟩ := fz_bd_s h
      refine fz_ias C hF hT fz_m11 g12 dX9_carry_36 (fun H locs hT => ?_)
      rw [← eM13] at hT
      refine lv_iload_n C.1 C.2.1 dX9_carry_37 rfl (lv_at hl 0 rfl) ?_
      cases h
      exact fz_reti C hr hlk hT dX9_carry_38
    · have h := fz_iq c9 h
      refine lv_iconst (v := (-1)) C.1 C.2.1 dX9_carry_21 (by decide) ?_
      cases h
      exact fz_reti C hr hlk hT dX9_carry_22
set_option maxRecDepth 100000 in
theorem c_X9_carry (l : Launch) (G : fz_G)  (a0 : Int32) (a1 : Int32) (M : fz_M) (r : Int32) (M9 : fz_M) (h : f_X9_carry a0 a1 M = some (r, M9)) : fz_Me l yX9_carry cX9_carry 4 (some .int) 2 46 G fz_shM fz_KM [.ref (G.1 0), .int a0, .int a1] M (fz_Qi G fz_shM fz_KM r M9) := by
  refine fz_body (by decide) (Nat.le_of_ble_eq_true rfl) ?_
  intro p e s m args below meth c H locs ls C hr hlk hF hT hl
  have C : CallFix p m c cX9_carry 4 s args wsL_law RX9 := C
  have hl : lv_has ls 4 [(0, .ref (G.1 0)), (1, .int a0), (2, .int a1)] := hl
  exact b_X9_carry_0 C hr hlk hF hT (lv_sub hl [0, 1, 2] rfl) h
set_option maxHeartbeats 4000000 in
set_option maxRecDepth 100000 in
theorem b_X9_shut_0 {p : Program} {l : Launch} {e : Env} {s : State} {m : MethodId} {args : Array Value} {below : List Frame} {meth : Method} {c : Code} {G : fz_G}     {v1 : Int32} {v2 : Int32} {M : fz_M} {H : Heap} {locs : List Loc} {ls : Array Slot} {r : Int32} {M9 : fz_M} (C : CallFix p m c cX9_shut 4 s args wsL_law RX9) (hr : meth.sig.returnType = (some .int)) (hlk : meth.locks = false) (hF : fz_F G fz_KM s)  (hT : fz_T G fz_shM fz_KM s M H locs) (hl : lv_has ls 4 [(0, .ref (G.1 0)), (1, .int v1), (2, .int v2)]) (h : f_X9_shut v1 v2 M = some (r, M9)) : W p l e (fz_rm 1 25) s m args below meth c H locs 0 0 (MQ below (fz_Qi G fz_shM fz_KM r M9) args s 0 0 (fz_Fr G fz_KM)) (F0 m 0 ls []) := by
  refine lv_aload_n C.1 C.2.1 dX9_shut_0 rfl (lv_at hl 0 rfl) ?_
  refine lv_iconst (v := 0) C.1 C.2.1 dX9_shut_1 (by decide) ?_
  obtain ⟨M1, eM1, h⟩ := fz_bd_s h
  refine fz_puti C hF hT fz_m0 (j := 0) rfl fw_X9_117 dX9_shut_2 (fun H locs hT => ?_)
  rw [← eM1] at hT
  refine lv_iload_n C.1 C.2.1 dX9_shut_5 rfl (lv_at hl 1 rfl) ?_
  refine lv_i2l (v := (v1.toInt64)) C.1 C.2.1 dX9_shut_6 rfl ?_
  refine lv_lconst (v := 0) C.1 C.2.1 dX9_shut_7 (by decide) ?_
  refine lv_aload_n C.1 C.2.1 dX9_shut_8 rfl (lv_at hl 0 rfl) ?_
  refine fz_geti C hF hT fz_m0 (j := 5) rfl fl_X9_188 dX9_shut_9 ?_
  refine lv_iconst (v := 1) C.1 C.2.1 dX9_shut_12 (by decide) ?_
  refine lv_isub C.1 C.2.1 dX9_shut_13 ?_
  refine lv_i2l (v := (((fz_f M1 0 5) - 1).toInt64)) C.1 C.2.1 dX9_shut_14 rfl ?_
  obtain ⟨r2, w4, h⟩ := fz_b1_s h
  refine fz_ci hT (fz_runS (np := 3) (rest := []) C hF hT (c_X9_in l G (v1.toInt64) 0 (((fz_f M1 0 5) - 1).toInt64) M1 r2 w4) cl_X9_124 rfl hl.1 rfl (Nat.le_of_ble_eq_true rfl) ⟨Nat.le_of_ble_eq_true rfl, Nat.le_of_ble_eq_true rfl, Nat.zero_le _, Nat.zero_le _⟩ dX9_shut_15) (fun H locs hT => ?_)
  refine lv_if_ne (tgt := 23) C.1 C.2.1 dX9_shut_18 (by decide) (fun c5 => ?_) (fun c5 => ?_)
  · have h := fz_ip c5 h
    refine lv_aload_n C.1 C.2.1 dX9_shut_23 rfl (lv_at hl 0 rfl) ?_
    refine fz_getr C hF hT fz_m0 (j := 12) rfl fl_X9_28 dX9_shut_24 ?_
    refine lv_iload_n C.1 C.2.1 dX9_shut_27 rfl (lv_at hl 1 rfl) ?_
    obtain ⟨g6, h⟩ := fz_gd_s h
    refine fz_za C hF hT fz_m7 g6 dX9_shut_28 ?_
    obtain ⟨x7, ex7, h⟩ := fz_bd_s h
    refine fz_nmi ex7 ?_
    refine lv_istore_n (lv' := [(3, .int x7), (0, .ref (G.1 0)), (1, .int v1), (2, .int v2)]) C.1 C.2.1 dX9_shut_29 rfl hl (by decide) rfl (fun ls hl => ?_)
    refine lv_aload_n C.1 C.2.1 dX9_shut_30 rfl (lv_at hl 1 rfl) ?_
    refine fz_getr C hF hT fz_m0 (j := 12) rfl fl_X9_28 dX9_shut_31 ?_
    refine lv_iload_n C.1 C.2.1 dX9_shut_34 rfl (lv_at hl 2 rfl) ?_
    refine lv_iload_n C.1 C.2.1 dX9_shut_35 rfl (lv_at hl 3 rfl) ?_
    obtain ⟨g8, h⟩ := fz_gd_s h
    obtain ⟨M9, eM9, h⟩ := fz_bd_s h
    refine fz_zas C hF hT fz_m7 g8 dX9_shut_36 (fun H locs hT => ?_)
    rw [← eM9] at hT
    refine lv_iload_n C.1 C.2.1 dX9_shut_37 rfl (lv_at hl 0 rfl) ?_
    refine lv_iload_n C.1 C.2.1 dX9_shut_38 rfl (lv_at hl 3 rfl) ?_
    refine lv_icmp_ne (tgt := 46) C.1 C.2.1 dX9_shut_39 (by decide) (fun c10 => ?_) (fun c10 => ?_)
    · have h := fz_ip c10 h
      refine lv_iconst (v := 1) C.1 C.2.1 dX9_shut_46 (by decide) ?_
      cases h
      exact fz_reti C hr hlk hT dX9_shut_47
    · have h := fz_iq (not_not_intro c10) h
      refine lv_iconst (v := 0) C.1 C.2.1 dX9_shut_42 (by decide) ?_
      refine lv_goto (tgt := 47) C.1 C.2.1 dX9_shut_43 (by decide) ?_
      cases h
      exact fz_reti C hr hlk hT dX9_shut_47
  · have h := fz_iq (not_not_intro c5) h
    refine lv_iconst (v := (-1)) C.1 C.2.1 dX9_shut_21 (by decide) ?_
    cases h
    exact fz_reti C hr hlk hT dX9_shut_22
set_option maxRecDepth 100000 in
theorem c_X9_shut (l : Launch) (G : fz_G)  (a0 : Int32) (a1 : Int32) (M : fz_M) (r : Int32) (M9 : fz_M) (h : f_X9_shut a0 a1 M = some (r, M9)) : fz_Me l yX9_shut cX9_shut 4 (some .int) 1 25 G fz_shM fz_KM [.ref (G.1 0), .int a0, .int a1] M (fz_Qi G fz_shM fz_KM r M9) := by
  refine fz_body (by decide) (Nat.le_of_ble_eq_true rfl) ?_
  intro p e s m args below meth c H locs ls C hr hlk hF hT hl
  have C : CallFix p m c cX9_shut 4 s args wsL_law RX9 := C
  have hl : lv_has ls 4 [(0, .ref (G.1 0)), (1, .int a0), (2, .int a1)] := hl
  exact b_X9_shut_0 C hr hlk hF hT (lv_sub hl [0, 1, 2] rfl) h
set_option maxHeartbeats 4000000 in
set_option maxRecDepth 100000 in
theorem b_X9_depth_0 {p : Program} {l : Launch} {e : Env} {s : State} {m : MethodId} {args : Array Value} {below : List Frame} {meth : Method} {c : Code} {G : fz_G}     {v1 : Int32} {v2 : Int32} {M : fz_M} {H : Heap} {locs : List Loc} {ls : Array Slot} {r : Int32} (C : CallFix p m c cX9_depth 3 s args wsL_law RX9) (hr : meth.sig.returnType = (some .int)) (hlk : meth.locks = false) (hF : fz_F G fz_KM s)  (hT : fz_T G fz_shM fz_KM s M H locs) (hl : lv_has ls 3 [(0, .ref (G.1 0)), (1, .int v1), (2, .int v2)]) (h : f_X9_depth v1 v2 M = some r) : W p l e (fz_rm 0 0) s m args below meth c H locs 0 0 (MQ below (fz_Qi G fz_shM fz_KM r M) args s 0 0 (fz_Fr G fz_KM)) (F0 m 0 ls []) := by
  refine lv_iload_n C.1 C.2.1 dX9_depth_0 rfl (lv_at hl 2 rfl) ?_
  refine lv_aload_n C.1 C.2.1 dX9_depth_1 rfl (lv_at hl 0 rfl) ?_
  refine fz_getr C hF hT fz_m0 (j := 7) rfl fl_X9_13 dX9_depth_2 ?_
  refine lv_iload_n C.1 C.2.1 dX9_depth_5 rfl (lv_at hl 1 rfl) ?_
  obtain ⟨g1, h⟩ := fz_gd_s h
  refine fz_ia C hF hT fz_m2 g1 dX9_depth_6 ?_
  refine lv_icmp_le (tgt := 21) C.1 C.2.1 dX9_depth_7 (by decide) (fun c2 => ?_) (fun c2 => ?_)
  · have h := fz_ip c2 h
    refine lv_iconst (v := 0) C.1 C.2.1 dX9_depth_21 (by decide) ?_
    cases h
    exact fz_reti C hr hlk hT dX9_depth_22
  · have h := fz_iq c2 h
    refine lv_iload_n C.1 C.2.1 dX9_depth_10 rfl (lv_at hl 2 rfl) ?_
    refine lv_aload_n C.1 C.2.1 dX9_depth_11 rfl (lv_at hl 0 rfl) ?_
    refine fz_getr C hF hT fz_m0 (j := 7) rfl fl_X9_13 dX9_depth_12 ?_
    refine lv_iload_n C.1 C.2.1 dX9_depth_15 rfl (lv_at hl 1 rfl) ?_
    obtain ⟨g3, h⟩ := fz_gd_s h
    refine fz_ia C hF hT fz_m2 g3 dX9_depth_16 ?_
    refine lv_isub C.1 C.2.1 dX9_depth_17 ?_
    refine lv_goto (tgt := 22) C.1 C.2.1 dX9_depth_18 (by decide) ?_
    cases h
    exact fz_reti C hr hlk hT dX9_depth_22
set_option maxRecDepth 100000 in
theorem c_X9_depth (l : Launch) (G : fz_G)  (a0 : Int32) (a1 : Int32) (M : fz_M) (r : Int32) (h : f_X9_depth a0 a1 M = some r) : fz_Me l yX9_depth cX9_depth 3 (some .int) 0 0 G fz_shM fz_KM [.ref (G.1 0), .int a0, .int a1] M (fz_Qi G fz_shM fz_KM r M) := by
  refine fz_body (by decide) (Nat.le_of_ble_eq_true rfl) ?_
  intro p e s m args below meth c H locs ls C hr hlk hF hT hl
  have C : CallFix p m c cX9_depth 3 s args wsL_law RX9 := C
  have hl : lv_has ls 3 [(0, .ref (G.1 0)), (1, .int a0), (2, .int a1)] := hl
  exact b_X9_depth_0 C hr hlk hF hT (lv_sub hl [0, 1, 2] rfl) h
set_option maxHeartbeats 4000000 in
set_option maxRecDepth 100000 in
theorem b_X9_deep_0 {p : Program} {l : Launch} {e : Env} {s : State} {m : MethodId} {args : Array Value} {below : List Frame} {meth : Method} {c : Code} {G : fz_G}     {v1 : Int32} {v2 : Int32} {M : fz_M} {H : Heap} {locs : List Loc} {ls : Array Slot} {r : Int32} {M9 : fz_M} (C : CallFix p m c cX9_deep 3 s args wsL_law RX9) (hr : meth.sig.returnType = (some .int)) (hlk : meth.locks = false) (hF : fz_F G fz_KM s)  (hT : fz_T G fz_shM fz_KM s M H locs) (hl : lv_has ls 3 [(0, .ref (G.1 0)), (1, .int v1), (2, .int v2)]) (h : f_X9_deep v1 v2 M = some (r, M9)) : W p l e (fz_rm 2 46) s m args below meth c H locs 0 0 (MQ below (fz_Qi G fz_shM fz_KM r M9) args s 0 0 (fz_Fr G fz_KM)) (F0 m 0 ls []) := by
  refine lv_aload_n C.1 C.2.1 dX9_deep_0 rfl (lv_at hl 0 rfl) ?_
  refine lv_iconst (v := 0) C.1 C.2.1 dX9_deep_1 (by decide) ?_
  obtain ⟨M1, eM1, h⟩ := fz_bd_s h
  refine fz_puti C hF hT fz_m0 (j := 0) rfl fw_X9_117 dX9_deep_2 (fun H locs hT => ?_)
  rw [← eM1] at hT
  refine lv_aload_n C.1 C.2.1 dX9_deep_5 rfl (lv_at hl 0 rfl) ?_
  refine lv_iload_n C.1 C.2.1 dX9_deep_6 rfl (lv_at hl 1 rfl) ?_
  obtain ⟨r2, w4, h⟩ := fz_b1_s h
  refine fz_ci hT (fz_runV (np := 1) (rest := []) C hF hT (c_X9_noHouse l G v1 M1 r2 w4) fz_m0 (T := TX9) (N := 49) rfl cl_X9_200 rfl hl.1 rfl (Nat.le_of_ble_eq_true rfl) ⟨Nat.le_of_ble_eq_true rfl, Nat.le_of_ble_eq_true rfl, Nat.zero_le _, Nat.zero_le _⟩ dX9_deep_7) (fun H locs hT => ?_)
  refine lv_if_eq (tgt := 15) C.1 C.2.1 dX9_deep_10 (by decide) (fun c5 => ?_) (fun c5 => ?_)
  · have h := fz_ip c5 h
    refine lv_iload_n C.1 C.2.1 dX9_deep_15 rfl (lv_at hl 2 rfl) ?_
    refine lv_i2l (v := (v2.toInt64)) C.1 C.2.1 dX9_deep_16 rfl ?_
    refine lv_lconst (v := 0) C.1 C.2.1 dX9_deep_17 (by decide) ?_
    refine lv_ldc2 (v := 19) C.1 C.2.1 C.2.2.2.1 (C.2.2.2.2 _ (fz_q20 _ (List.mem_of_getElem? (i := 11) rfl))) dX9_deep_18 ?_
    obtain ⟨r6, w8, h⟩ := fz_b1_s h
    refine fz_ci hT (fz_runS (np := 3) (rest := []) C hF hT (c_X9_in l G (v2.toInt64) 0 19 M1 r6 w8) cl_X9_124 rfl hl.1 rfl (Nat.le_of_ble_eq_true rfl) ⟨Nat.le_of_ble_eq_true rfl, Nat.le_of_ble_eq_true rfl, Nat.zero_le _, Nat.zero_le _⟩ dX9_deep_21) (fun H locs hT => ?_)
    refine lv_if_eq (tgt := 36) C.1 C.2.1 dX9_deep_24 (by decide) (fun c9 => ?_) (fun c9 => ?_)
    · have h := fz_ip c9 h
      refine lv_bipush (v := (-2)) C.1 C.2.1 dX9_deep_36 (by decide) ?_
      cases h
      exact fz_reti C hr hlk hT dX9_deep_38
    · have h := fz_iq c9 h
      refine lv_aload_n C.1 C.2.1 dX9_deep_27 rfl (lv_at hl 0 rfl) ?_
      refine lv_iload_n C.1 C.2.1 dX9_deep_28 rfl (lv_at hl 1 rfl) ?_
      refine lv_iload_n C.1 C.2.1 dX9_deep_29 rfl (lv_at hl 2 rfl) ?_
      obtain ⟨r10, w12, h⟩ := fz_b1_s h
      refine fz_ci hT (fz_runV (np := 2) (rest := []) C hF hT (c_X9_depth l G v1 v2 M1 r10 w12) fz_m0 (T := TX9) (N := 49) rfl cl_X9_206 rfl hl.1 rfl (Nat.le_of_ble_eq_true rfl) ⟨Nat.le_of_ble_eq_true rfl, Nat.le_of_ble_eq_true rfl, Nat.zero_le _, Nat.zero_le _⟩ dX9_deep_30) (fun H locs hT => ?_)
      refine lv_goto (tgt := 38) C.1 C.2.1 dX9_deep_33 (by decide) ?_
      cases h
      exact fz_reti C hr hlk hT dX9_deep_38
  · have h := fz_iq c5 h
    refine lv_iconst (v := (-1)) C.1 C.2.1 dX9_deep_13 (by decide) ?_
    cases h
    exact fz_reti C hr hlk hT dX9_deep_14
set_option maxRecDepth 100000 in
theorem c_X9_deep (l : Launch) (G : fz_G)  (a0 : Int32) (a1 : Int32) (M : fz_M) (r : Int32) (M9 : fz_M) (h : f_X9_deep a0 a1 M = some (r, M9)) : fz_Me l yX9_deep cX9_deep 3 (some .int) 2 46 G fz_shM fz_KM [.ref (G.1 0), .int a0, .int a1] M (fz_Qi G fz_shM fz_KM r M9) := by
  refine fz_body (by decide) (Nat.le_of_ble_eq_true rfl) ?_
  intro p e s m args below meth c H locs ls C hr hlk hF hT hl
  have C : CallFix p m c cX9_deep 3 s args wsL_law RX9 := C
  have hl : lv_has ls 3 [(0, .ref (G.1 0)), (1, .int a0), (2, .int a1)] := hl
  exact b_X9_deep_0 C hr hlk hF hT (lv_sub hl [0, 1, 2] rfl) h
set_option maxHeartbeats 4000000 in
set_option maxRecDepth 100000 in
theorem b_X9_strongest_70 {p : Program} {l : Launch} {e : Env} {s : State} {m : MethodId} {args : Array Value} {below : List Frame} {meth : Method} {c : Code} {G : fz_G}   {ag5 : (Int32 × Int32) → Option Int32}  {v1 : Int32} {v3 : Int32} {s0 : Int32} {M : fz_M} {H : Heap} {locs : List Loc} {ls : Array Slot} {r : Int32} (C : CallFix p m c cX9_strongest 5 s args wsL_law RX9) (hr : meth.sig.returnType = (some .int)) (hlk : meth.locks = false) (hF : fz_F G fz_KM s) (hag5 : ∀ (v2 : Int32) (v3 : Int32) (H : Heap) (locs : List Loc) (ls : Array Slot), fz_T G fz_shM fz_KM s M H locs → lv_has ls 5 [(0, .ref (G.1 0)), (1, .int v1), (2, .int v2), (3, .int v3)] → ag5 (v2, v3) = some r → W p l e (fz_rm 0 0) s m args below meth c H locs 0 0 (MQ below (fz_Qi G fz_shM fz_KM r M) args s 0 0 (fz_Fr G fz_KM)) (F0 m 5 ls [])) (hT : fz_T G fz_shM fz_KM s M H locs) (hl : lv_has ls 5 [(0, .ref (G.1 0)), (1, .int v1), (3, .int v3)]) (h : f_X9_strongest_70 ag5 v1 v3 s0 M = some r) : W p l e (fz_rm 0 0) s m args below meth c H locs 0 0 (MQ below (fz_Qi G fz_shM fz_KM r M) args s 0 0 (fz_Fr G fz_KM)) (F0 m 70 ls [.int s0]) := by
  refine lv_istore_n (lv' := [(2, .int s0), (0, .ref (G.1 0)), (1, .int v1), (3, .int v3)]) C.1 C.2.1 dX9_strongest_70 rfl hl (by decide) rfl (fun ls hl => ?_)
  refine lv_iinc (v := (v3 + 1)) (lv' := [(3, .int (v3 + 1)), (2, .int s0), (0, .ref (G.1 0)), (1, .int v1)]) C.1 C.2.1 dX9_strongest_71 hl (k := 3) rfl rfl (by decide) rfl (fun ls hl => ?_)
  refine lv_goto (tgt := 5) C.1 C.2.1 dX9_strongest_74 (by decide) ?_
  exact hag5 s0 (v3 + 1) _ _ _ hT (lv_sub hl [2, 3, 1, 0] rfl) h
set_option maxHeartbeats 4000000 in
set_option maxRecDepth 100000 in
theorem b_X9_strongest_69 {p : Program} {l : Launch} {e : Env} {s : State} {m : MethodId} {args : Array Value} {below : List Frame} {meth : Method} {c : Code} {G : fz_G}   {ag5 : (Int32 × Int32) → Option Int32}  {v1 : Int32} {v2 : Int32} {v3 : Int32} {M : fz_M} {H : Heap} {locs : List Loc} {ls : Array Slot} {r : Int32} (C : CallFix p m c cX9_strongest 5 s args wsL_law RX9) (hr : meth.sig.returnType = (some .int)) (hlk : meth.locks = false) (hF : fz_F G fz_KM s) (hag5 : ∀ (v2 : Int32) (v3 : Int32) (H : Heap) (locs : List Loc) (ls : Array Slot), fz_T G fz_shM fz_KM s M H locs → lv_has ls 5 [(0, .ref (G.1 0)), (1, .int v1), (2, .int v2), (3, .int v3)] → ag5 (v2, v3) = some r → W p l e (fz_rm 0 0) s m args below meth c H locs 0 0 (MQ below (fz_Qi G fz_shM fz_KM r M) args s 0 0 (fz_Fr G fz_KM)) (F0 m 5 ls [])) (hT : fz_T G fz_shM fz_KM s M H locs) (hl : lv_has ls 5 [(0, .ref (G.1 0)), (1, .int v1), (2, .int v2), (3, .int v3)]) (h : f_X9_strongest_69 ag5 v1 v2 v3 M = some r) : W p l e (fz_rm 0 0) s m args below meth c H locs 0 0 (MQ below (fz_Qi G fz_shM fz_KM r M) args s 0 0 (fz_Fr G fz_KM)) (F0 m 69 ls []) := by
  refine lv_iload_n C.1 C.2.1 dX9_strongest_69 rfl (lv_at hl 2 rfl) ?_
  exact b_X9_strongest_70 C hr hlk hF hag5 hT (lv_sub hl [0, 1, 3] rfl) h
set_option maxHeartbeats 4000000 in
set_option maxRecDepth 100000 in
theorem b_X9_strongest_37 {p : Program} {l : Launch} {e : Env} {s : State} {m : MethodId} {args : Array Value} {below : List Frame} {meth : Method} {c : Code} {G : fz_G}   {ag5 : (Int32 × Int32) → Option Int32}  {v1 : Int32} {v2 : Int32} {v3 : Int32} {s0 : Int32} {M : fz_M} {H : Heap} {locs : List Loc} {ls : Array Slot} {r : Int32} (C : CallFix p m c cX9_strongest 5 s args wsL_law RX9) (hr : meth.sig.returnType = (some .int)) (hlk : meth.locks = false) (hF : fz_F G fz_KM s) (hag5 : ∀ (v2 : Int32) (v3 : Int32) (H : Heap) (locs : List Loc) (ls : Array Slot), fz_T G fz_shM fz_KM s M H locs → lv_has ls 5 [(0, .ref (G.1 0)), (1, .int v1), (2, .int v2), (3, .int v3)] → ag5 (v2, v3) = some r → W p l e (fz_rm 0 0) s m args below meth c H locs 0 0 (MQ below (fz_Qi G fz_shM fz_KM r M) args s 0 0 (fz_Fr G fz_KM)) (F0 m 5 ls [])) (hT : fz_T G fz_shM fz_KM s M H locs) (hl : lv_has ls 5 [(0, .ref (G.1 0)), (1, .int v1), (2, .int v2), (3, .int v3)]) (h : f_X9_strongest_37 ag5 v1 v2 v3 s0 M = some r) : W p l e (fz_rm 0 0) s m args below meth c H locs 0 0 (MQ below (fz_Qi G fz_shM fz_KM r M) args s 0 0 (fz_Fr G fz_KM)) (F0 m 37 ls [.int s0]) := by
  refine lv_istore (lv' := [(4, .int s0), (0, .ref (G.1 0)), (1, .int v1), (2, .int v2), (3, .int v3)]) C.1 C.2.1 dX9_strongest_37 hl (by decide) rfl (fun ls hl => ?_)
  refine lv_iload C.1 C.2.1 dX9_strongest_39 (lv_at hl 0 rfl) ?_
  refine lv_if_eq (tgt := 69) C.1 C.2.1 dX9_strongest_41 (by decide) (fun c1 => ?_) (fun c1 => ?_)
  · have h := fz_ip c1 h
    exact b_X9_strongest_69 C hr hlk hF hag5 hT (lv_sub hl [1, 2, 3, 4] rfl) h
  · have h := fz_iq c1 h
    refine lv_iload_n C.1 C.2.1 dX9_strongest_44 rfl (lv_at hl 3 rfl) ?_
    refine lv_bipush (v := (-9)) C.1 C.2.1 dX9_strongest_45 (by decide) ?_
    refine lv_icmp_eq (tgt := 65) C.1 C.2.1 dX9_strongest_47 (by decide) (fun c2 => ?_) (fun c2 => ?_)
    · have h := fz_ip c2 h
      refine lv_iload_n C.1 C.2.1 dX9_strongest_65 rfl (lv_at hl 4 rfl) ?_
      refine lv_goto (tgt := 70) C.1 C.2.1 dX9_strongest_66 (by decide) ?_
      exact b_X9_strongest_70 C hr hlk hF hag5 hT (lv_sub hl [1, 2, 4] rfl) h
    · have h := fz_iq c2 h
      refine lv_aload_n C.1 C.2.1 dX9_strongest_50 rfl (lv_at hl 1 rfl) ?_
      refine fz_getr C hF hT fz_m0 (j := 11) rfl fl_X9_25 dX9_strongest_51 ?_
      refine lv_iload_n C.1 C.2.1 dX9_strongest_54 rfl (lv_at hl 4 rfl) ?_
      obtain ⟨g3, h⟩ := fz_gd_s h
      refine fz_ia C hF hT fz_m6 g3 dX9_strongest_55 ?_
      refine lv_aload_n C.1 C.2.1 dX9_strongest_56 rfl (lv_at hl 1 rfl) ?_
      refine fz_getr C hF hT fz_m0 (j := 11) rfl fl_X9_25 dX9_strongest_57 ?_
      refine lv_iload_n C.1 C.2.1 dX9_strongest_60 rfl (lv_at hl 3 rfl) ?_
      obtain ⟨g4, h⟩ := fz_gd_s h
      refine fz_ia C hF hT fz_m6 g4 dX9_strongest_61 ?_
      refine lv_icmp_le (tgt := 69) C.1 C.2.1 dX9_strongest_62 (by decide) (fun c5 => ?_) (fun c5 => ?_)
      · have h := fz_ip c5 h
        exact b_X9_strongest_69 C hr hlk hF hag5 hT (lv_sub hl [1, 2, 3, 4] rfl) h
      · have h := fz_iq c5 h
        refine lv_iload_n C.1 C.2.1 dX9_strongest_65 rfl (lv_at hl 4 rfl) ?_
        refine lv_goto (tgt := 70) C.1 C.2.1 dX9_strongest_66 (by decide) ?_
        exact b_X9_strongest_70 C hr hlk hF hag5 hT (lv_sub hl [1, 2, 4] rfl) h
set_option maxHeartbeats 4000000 in
set_option maxRecDepth 100000 in
theorem b_X9_strongest_36 {p : Program} {l : Launch} {e : Env} {s : State} {m : MethodId} {args : Array Value} {below : List Frame} {meth : Method} {c : Code} {G : fz_G}   {ag5 : (Int32 × Int32) → Option Int32}  {v1 : Int32} {v2 : Int32} {v3 : Int32} {M : fz_M} {H : Heap} {locs : List Loc} {ls : Array Slot} {r : Int32} (C : CallFix p m c cX9_strongest 5 s args wsL_law RX9) (hr : meth.sig.returnType = (some .int)) (hlk : meth.locks = false) (hF : fz_F G fz_KM s) (hag5 : ∀ (v2 : Int32) (v3 : Int32) (H : Heap) (locs : List Loc) (ls : Array Slot), fz_T G fz_shM fz_KM s M H locs → lv_has ls 5 [(0, .ref (G.1 0)), (1, .int v1), (2, .int v2), (3, .int v3)] → ag5 (v2, v3) = some r → W p l e (fz_rm 0 0) s m args below meth c H locs 0 0 (MQ below (fz_Qi G fz_shM fz_KM r M) args s 0 0 (fz_Fr G fz_KM)) (F0 m 5 ls [])) (hT : fz_T G fz_shM fz_KM s M H locs) (hl : lv_has ls 5 [(0, .ref (G.1 0)), (1, .int v1), (2, .int v2), (3, .int v3)]) (h : f_X9_strongest_36 ag5 v1 v2 v3 M = some r) : W p l e (fz_rm 0 0) s m args below meth c H locs 0 0 (MQ below (fz_Qi G fz_shM fz_KM r M) args s 0 0 (fz_Fr G fz_KM)) (F0 m 36 ls []) := by
  refine lv_iconst (v := 0) C.1 C.2.1 dX9_strongest_36 (by decide) ?_
  exact b_X9_strongest_37 C hr hlk hF hag5 hT (lv_sub hl [0, 1, 2, 3] rfl) h
set_option maxHeartbeats 4000000 in
set_option maxRecDepth 100000 in
theorem b_X9_strongest_5_l {p : Program} {l : Launch} {e : Env} {s : State} {m : MethodId} {args : Array Value} {below : List Frame} {meth : Method} {c : Code} {G : fz_G}     {v1 : Int32} {M : fz_M} {r : Int32} (C : CallFix p m c cX9_strongest 5 s args wsL_law RX9) (hr : meth.sig.returnType = (some .int)) (hlk : meth.locks = false) (hF : fz_F G fz_KM s)  : ∀ (n : Nat) (v2 : Int32) (v3 : Int32) (H : Heap) (locs : List Loc) (ls : Array Slot), fz_T G fz_shM fz_KM s M H locs → lv_has ls 5 [(0, .ref (G.1 0)), (1, .int v1), (2, .int v2), (3, .int v3)] → fz_lp (fun ag z => f_X9_strongest_5_s ag v1 z.1 z.2 M) n (v2, v3) = some r → W p l e (fz_rm 0 0) s m args below meth c H locs 0 0 (MQ below (fz_Qi G fz_shM fz_KM r M) args s 0 0 (fz_Fr G fz_KM)) (F0 m 5 ls []) := by
  intro n
  induction n with
  | zero =>
    intro v2 v3 H locs ls hT hl h
    cases h
  | succ n ih =>
    intro v2 v3 H locs ls hT hl h
    have h : f_X9_strongest_5_s (fz_lp (fun ag z => f_X9_strongest_5_s ag v1 z.1 z.2 M) n) v1 v2 v3 M = some r := h
    have hag5 := ih
    generalize fz_lp (fun ag z => f_X9_strongest_5_s ag v1 z.1 z.2 M) n = ag5 at h hag5
    refine lv_iload_n C.1 C.2.1 dX9_strongest_5 rfl (lv_at hl 3 rfl) ?_
    refine lv_aload_n C.1 C.2.1 dX9_strongest_6 rfl (lv_at hl 0 rfl) ?_
    refine fz_geti C hF hT fz_m0 (j := 5) rfl fl_X9_188 dX9_strongest_7 ?_
    refine lv_icmp_ge (tgt := 77) C.1 C.2.1 dX9_strongest_10 (by decide) (fun c1 => ?_) (fun c1 => ?_)
    · have h := fz_ip c1 h
      refine lv_iload_n C.1 C.2.1 dX9_strongest_77 rfl (lv_at hl 2 rfl) ?_
      cases h
      exact fz_reti C hr hlk hT dX9_strongest_78
    · have h := fz_iq c1 h
      refine lv_aload_n C.1 C.2.1 dX9_strongest_13 rfl (lv_at hl 0 rfl) ?_
      refine fz_getr C hF hT fz_m0 (j := 9) rfl fl_X9_19 dX9_strongest_14 ?_
      refine lv_iload_n C.1 C.2.1 dX9_strongest_17 rfl (lv_at hl 3 rfl) ?_
      obtain ⟨g2, h⟩ := fz_gd_s h
      refine fz_ia C hF hT fz_m4 g2 dX9_strongest_18 ?_
      refine lv_iload_n C.1 C.2.1 dX9_strongest_19 rfl (lv_at hl 1 rfl) ?_
      refine lv_icmp_ne (tgt := 36) C.1 C.2.1 dX9_strongest_20 (by decide) (fun c3 => ?_) (fun c3 => ?_)
      · have h := fz_ip c3 h
        exact b_X9_strongest_36 C hr hlk hF hag5 hT (lv_sub hl [0, 1, 2, 3] rfl) h
      · have h := fz_iq (not_not_intro c3) h
        refine lv_aload_n C.1 C.2.1 dX9_strongest_23 rfl (lv_at hl 0 rfl) ?_
        refine fz_getr C hF hT fz_m0 (j := 12) rfl fl_X9_28 dX9_strongest_24 ?_
        refine lv_iload_n C.1 C.2.1 dX9_strongest_27 rfl (lv_at hl 3 rfl) ?_
        obtain ⟨g4, h⟩ := fz_gd_s h
        refine fz_za C hF hT fz_m7 g4 dX9_strongest_28 ?_
        refine lv_if_ne (tgt := 36) C.1 C.2.1 dX9_strongest_29 (by decide) (fun c5 => ?_) (fun c5 => ?_)
        · have h := fz_ip c5 h
          exact b_X9_strongest_36 C hr hlk hF hag5 hT (lv_sub hl [0, 1, 2, 3] rfl) h
        · have h := fz_iq (not_not_intro c5) h
          refine lv_iconst (v := 1) C.1 C.2.1 dX9_strongest_32 (by decide) ?_
          refine lv_goto (tgt := 37) C.1 C.2.1 dX9_strongest_33 (by decide) ?_
          exact b_X9_strongest_37 C hr hlk hF hag5 hT (lv_sub hl [0, 1, 2, 3] rfl) h
set_option maxHeartbeats 4000000 in
set_option maxRecDepth 100000 in
theorem b_X9_strongest_5 {p : Program} {l : Launch} {e : Env} {s : State} {m : MethodId} {args : Array Value} {below : List Frame} {meth : Method} {c : Code} {G : fz_G}     {v1 : Int32} {v2 : Int32} {v3 : Int32} {M : fz_M} {H : Heap} {locs : List Loc} {ls : Array Slot} {r : Int32} (C : CallFix p m c cX9_strongest 5 s args wsL_law RX9) (hr : meth.sig.returnType = (some .int)) (hlk : meth.locks = false) (hF : fz_F G fz_KM s)  (hT : fz_T G fz_shM fz_KM s M H locs) (hl : lv_has ls 5 [(0, .ref (G.1 0)), (1, .int v1), (2, .int v2), (3, .int v3)]) (h : f_X9_strongest_5 v1 v2 v3 M = some r) : W p l e (fz_rm 0 0) s m args below meth c H locs 0 0 (MQ below (fz_Qi G fz_shM fz_KM r M) args s 0 0 (fz_Fr G fz_KM)) (F0 m 5 ls []) :=
  b_X9_strongest_5_l C hr hlk hF fz_fuel v2 v3 H locs ls hT hl h
set_option maxHeartbeats 4000000 in
set_option maxRecDepth 100000 in
theorem b_X9_strongest_0 {p : Program} {l : Launch} {e : Env} {s : State} {m : MethodId} {args : Array Value} {below : List Frame} {meth : Method} {c : Code} {G : fz_G}     {v1 : Int32} {M : fz_M} {H : Heap} {locs : List Loc} {ls : Array Slot} {r : Int32} (C : CallFix p m c cX9_strongest 5 s args wsL_law RX9) (hr : meth.sig.returnType = (some .int)) (hlk : meth.locks = false) (hF : fz_F G fz_KM s)  (hT : fz_T G fz_shM fz_KM s M H locs) (hl : lv_has ls 5 [(0, .ref (G.1 0)), (1, .int v1)]) (h : f_X9_strongest v1 M = some r) : W p l e (fz_rm 0 0) s m args below meth c H locs 0 0 (MQ below (fz_Qi G fz_shM fz_KM r M) args s 0 0 (fz_Fr G fz_KM)) (F0 m 0 ls []) := by
  refine lv_bipush (v := (-9)) C.1 C.2.1 dX9_strongest_0 (by decide) ?_
  refine lv_istore_n (lv' := [(2, .int (-9)), (0, .ref (G.1 0)), (1, .int v1)]) C.1 C.2.1 dX9_strongest_2 rfl hl (by decide) rfl (fun ls hl => ?_)
  refine lv_iconst (v := 0) C.1 C.2.1 dX9_strongest_3 (by decide) ?_
  refine lv_istore_n (lv' := [(3, .int 0), (2, .int (-9)), (0, .ref (G.1 0)), (1, .int v1)]) C.1 C.2.1 dX9_strongest_4 rfl hl (by decide) rfl (fun ls hl => ?_)
  exact b_X9_strongest_5 C hr hlk hF hT (lv_sub hl [2, 3, 1, 0] rfl) h
set_option maxRecDepth 100000 in
theorem c_X9_strongest (l : Launch) (G : fz_G)  (a0 : Int32) (M : fz_M) (r : Int32) (h : f_X9_strongest a0 M = some r) : fz_Me l yX9_strongest cX9_strongest 5 (some .int) 0 0 G fz_shM fz_KM [.ref (G.1 0), .int a0] M (fz_Qi G fz_shM fz_KM r M) := by
  refine fz_body (by decide) (Nat.le_of_ble_eq_true rfl) ?_
  intro p e s m args below meth c H locs ls C hr hlk hF hT hl
  have C : CallFix p m c cX9_strongest 5 s args wsL_law RX9 := C
  have hl : lv_has ls 5 [(0, .ref (G.1 0)), (1, .int a0)] := hl
  exact b_X9_strongest_0 C hr hlk hF hT (lv_sub hl [0, 1] rfl) h
set_option maxHeartbeats 4000000 in
set_option maxRecDepth 100000 in
theorem b_X9_begin_2_l {p : Program} {l : Launch} {e : Env} {s : State} {m : MethodId} {args : Array Value} {below : List Frame} {meth : Method} {c : Code} {G : fz_G}       {M9 : fz_M} (C : CallFix p m c cX9_begin 2 s args wsL_law RX9) (hr : meth.sig.returnType = none) (hlk : meth.locks = false) (hF : fz_F G fz_KM s)  : ∀ (n : Nat) (v1 : Int32) (M : fz_M) (H : Heap) (locs : List Loc) (ls : Array Slot), fz_T G fz_shM fz_KM s M H locs → lv_has ls 2 [(0, .ref (G.1 0)), (1, .int v1)] → fz_lp (fun ag z => f_X9_begin_2_s ag z.1 z.2) n (v1, M) = some M9 → W p l e (fz_rm 0 0) s m args below meth c H locs 0 0 (MQ below (fz_Qv G fz_shM fz_KM M9) args s 0 0 (fz_Fr G fz_KM)) (F0 m 2 ls []) := by
  intro n
  induction n with
  | zero =>
    intro v1 M H locs ls hT hl h
    cases h
  | succ n ih =>
    intro v1 M H locs ls hT hl h
    have h : f_X9_begin_2_s (fz_lp (fun ag z => f_X9_begin_2_s ag z.1 z.2) n) v1 M = some M9 := h
    have hag2 := ih
    generalize fz_lp (fun ag z => f_X9_begin_2_s ag z.1 z.2) n = ag2 at h hag2
    refine lv_iload_n C.1 C.2.1 dX9_begin_2 rfl (lv_at hl 1 rfl) ?_
    refine lv_aload_n C.1 C.2.1 dX9_begin_3 rfl (lv_at hl 0 rfl) ?_
    refine fz_geti C hF hT fz_m0 (j := 6) rfl fl_X9_128 dX9_begin_4 ?_
    refine lv_icmp_ge (tgt := 40) C.1 C.2.1 dX9_begin_7 (by decide) (fun c1 => ?_) (fun c1 => ?_)
    · have h := fz_ip c1 h
      cases h
      exact fz_retv C hr hlk hT dX9_begin_40
    · have h := fz_iq c1 h
      refine lv_aload_n C.1 C.2.1 dX9_begin_10 rfl (lv_at hl 0 rfl) ?_
      refine fz_getr C hF hT fz_m0 (j := 39) rfl fl_X9_95 dX9_begin_11 ?_
      refine lv_iload_n C.1 C.2.1 dX9_begin_14 rfl (lv_at hl 1 rfl) ?_
      refine lv_aload_n C.1 C.2.1 dX9_begin_15 rfl (lv_at hl 0 rfl) ?_
      refine fz_getr C hF hT fz_m0 (j := 16) rfl fl_X9_41 dX9_begin_16 ?_
      refine lv_iload_n C.1 C.2.1 dX9_begin_19 rfl (lv_at hl 1 rfl) ?_
      obtain ⟨g2, h⟩ := fz_gd_s h
      refine fz_ia C hF hT fz_m11 g2 dX9_begin_20 ?_
      obtain ⟨g3, h⟩ := fz_gd_s h
      obtain ⟨M4, eM4, h⟩ := fz_bd_s h
      refine fz_ias C hF hT fz_m29 g3 dX9_begin_21 (fun H locs hT => ?_)
      rw [← eM4] at hT
      refine lv_aload_n C.1 C.2.1 dX9_begin_22 rfl (lv_at hl 0 rfl) ?_
      refine fz_getr C hF hT fz_m0 (j := 40) rfl fl_X9_98 dX9_begin_23 ?_
      refine lv_iload_n C.1 C.2.1 dX9_begin_26 rfl (lv_at hl 1 rfl) ?_
      refine lv_aload_n C.1 C.2.1 dX9_begin_27 rfl (lv_at hl 0 rfl) ?_
      refine fz_getr C hF hT fz_m0 (j := 17) rfl fl_X9_44 dX9_begin_28 ?_
      refine lv_iload_n C.1 C.2.1 dX9_begin_31 rfl (lv_at hl 1 rfl) ?_
      obtain ⟨g5, h⟩ := fz_gd_s h
      refine fz_ia C hF hT fz_m12 g5 dX9_begin_32 ?_
      obtain ⟨g6, h⟩ := fz_gd_s h
      obtain ⟨M7, eM7, h⟩ := fz_bd_s h
      refine fz_ias C hF hT fz_m30 g6 dX9_begin_33 (fun H locs hT => ?_)
      rw [← eM7] at hT
      refine lv_iinc (v := (v1 + 1)) (lv' := [(1, .int (v1 + 1)), (0, .ref (G.1 0))]) C.1 C.2.1 dX9_begin_34 hl (k := 1) rfl rfl (by decide) rfl (fun ls hl => ?_)
      refine lv_goto (tgt := 2) C.1 C.2.1 dX9_begin_37 (by decide) ?_
      exact hag2 (v1 + 1) M7 _ _ _ hT (lv_sub hl [1, 0] rfl) h
set_option maxHeartbeats 4000000 in
set_option maxRecDepth 100000 in
theorem b_X9_begin_2 {p : Program} {l : Launch} {e : Env} {s : State} {m : MethodId} {args : Array Value} {below : List Frame} {meth : Method} {c : Code} {G : fz_G}     {v1 : Int32} {M : fz_M} {H : Heap} {locs : List Loc} {ls : Array Slot} {M9 : fz_M} (C : CallFix p m c cX9_begin 2 s args wsL_law RX9) (hr : meth.sig.returnType = none) (hlk : meth.locks = false) (hF : fz_F G fz_KM s)  (hT : fz_T G fz_shM fz_KM s M H locs) (hl : lv_has ls 2 [(0, .ref (G.1 0)), (1, .int v1)]) (h : f_X9_begin_2 v1 M = some M9) : W p l e (fz_rm 0 0) s m args below meth c H locs 0 0 (MQ below (fz_Qv G fz_shM fz_KM M9) args s 0 0 (fz_Fr G fz_KM)) (F0 m 2 ls []) :=
  b_X9_begin_2_l C hr hlk hF fz_fuel v1 M H locs ls hT hl h
set_option maxHeartbeats 4000000 in
set_option maxRecDepth 100000 in
theorem b_X9_begin_0 {p : Program} {l : Launch} {e : Env} {s : State} {m : MethodId} {args : Array Value} {below : List Frame} {meth : Method} {c : Code} {G : fz_G}      {M : fz_M} {H : Heap} {locs : List Loc} {ls : Array Slot} {M9 : fz_M} (C : CallFix p m c cX9_begin 2 s args wsL_law RX9) (hr : meth.sig.returnType = none) (hlk : meth.locks = false) (hF : fz_F G fz_KM s)  (hT : fz_T G fz_shM fz_KM s M H locs) (hl : lv_has ls 2 [(0, .ref (G.1 0))]) (h : f_X9_begin M = some M9) : W p l e (fz_rm 0 0) s m args below meth c H locs 0 0 (MQ below (fz_Qv G fz_shM fz_KM M9) args s 0 0 (fz_Fr G fz_KM)) (F0 m 0 ls []) := by
  refine lv_iconst (v := 0) C.1 C.2.1 dX9_begin_0 (by decide) ?_
  refine lv_istore_n (lv' := [(1, .int 0), (0, .ref (G.1 0))]) C.1 C.2.1 dX9_begin_1 rfl hl (by decide) rfl (fun ls hl => ?_)
  exact b_X9_begin_2 C hr hlk hF hT (lv_sub hl [1, 0] rfl) h
set_option maxRecDepth 100000 in
theorem c_X9_begin (l : Launch) (G : fz_G)   (M : fz_M) (M9 : fz_M) (h : f_X9_begin M = some M9) : fz_Me l yX9_begin cX9_begin 2 none 0 0 G fz_shM fz_KM [.ref (G.1 0)] M (fz_Qv G fz_shM fz_KM M9) := by
  refine fz_body (by decide) (Nat.le_of_ble_eq_true rfl) ?_
  intro p e s m args below meth c H locs ls C hr hlk hF hT hl
  have C : CallFix p m c cX9_begin 2 s args wsL_law RX9 := C
  have hl : lv_has ls 2 [(0, .ref (G.1 0))] := hl
  exact b_X9_begin_0 C hr hlk hF hT (lv_sub hl [0] rfl) h
set_option maxHeartbeats 4000000 in
set_option maxRecDepth 100000 in
theorem b_X9_goHour_193 {p : Program} {l : Launch} {e : Env} {s : State} {m : MethodId} {args : Array Value} {below : List Frame} {meth : Method} {c : Code} {G : fz_G}   {ag37 : (Int32 × Int32 × fz_M) → Option (Int32 × fz_M)}  {v1 : Int32} {v2 : Int32} {v3 : Int32} {v6 : Int32} {s0 : Int32} {M : fz_M} {H : Heap} {locs : List Loc} {ls : Array Slot} {r : Int32} {M9 : fz_M} (C : CallFix p m c cX9_goHour 8 s args wsL_law RX9) (hr : meth.sig.returnType = (some .int)) (hlk : meth.locks = false) (hF : fz_F G fz_KM s) (hag37 : ∀ (v2 : Int32) (v3 : Int32) (M : fz_M) (H : Heap) (locs : List Loc) (ls : Array Slot), fz_T G fz_shM fz_KM s M H locs → lv_has ls 8 [(0, .ref (G.1 0)), (1, .int v1), (2, .int v2), (3, .int v3)] → ag37 (v2, v3, M) = some (r, M9) → W p l e (fz_rm 1 24) s m args below meth c H locs 0 0 (MQ below (fz_Qi G fz_shM fz_KM r M9) args s 0 0 (fz_Fr G fz_KM)) (F0 m 37 ls [])) (hT : fz_T G fz_shM fz_KM s M H locs) (hl : lv_has ls 8 [(0, .ref (G.1 0)), (1, .int v1), (2, .int v2), (3, .int v3), (6, .int v6)]) (h : f_X9_goHour_193 ag37 v1 v2 v3 v6 s0 M = some (r, M9)) : W p l e (fz_rm 1 24) s m args below meth c H locs 0 0 (MQ below (fz_Qi G fz_shM fz_KM r M9) args s 0 0 (fz_Fr G fz_KM)) (F0 m 193 ls [.int s0]) := by
  refine lv_istore (lv' := [(7, .int s0), (0, .ref (G.1 0)), (1, .int v1), (2, .int v2), (3, .int v3), (6, .int v6)]) C.1 C.2.1 dX9_goHour_193 hl (by decide) rfl (fun ls hl => ?_)
  refine lv_iload C.1 C.2.1 dX9_goHour_195 (lv_at hl 0 rfl) ?_
  refine lv_if_eq (tgt := 264) C.1 C.2.1 dX9_goHour_197 (by decide) (fun c1 => ?_) (fun c1 => ?_)
  · have h := fz_ip c1 h
    refine lv_aload_n C.1 C.2.1 dX9_goHour_264 rfl (lv_at hl 1 rfl) ?_
    refine lv_dup C.1 C.2.1 dX9_goHour_265 rfl ?_
    refine fz_geti C hF hT fz_m0 (j := 42) rfl fl_X9_209 dX9_goHour_266 ?_
    refine lv_iconst (v := 1) C.1 C.2.1 dX9_goHour_269 (by decide) ?_
    refine lv_iload_n C.1 C.2.1 dX9_goHour_270 rfl (lv_at hl 4 rfl) ?_
    refine lv_ishl C.1 C.2.1 dX9_goHour_271 ?_
    refine lv_ior C.1 C.2.1 dX9_goHour_272 ?_
    obtain ⟨M2, eM2, h⟩ := fz_bd_s h
    refine fz_puti C hF hT fz_m0 (j := 42) rfl fw_X9_209 dX9_goHour_273 (fun H locs hT => ?_)
    rw [← eM2] at hT
    refine lv_iinc (v := (v3 + 1)) (lv' := [(3, .int (v3 + 1)), (7, .int s0), (0, .ref (G.1 0)), (1, .int v1), (2, .int v2), (6, .int v6)]) C.1 C.2.1 dX9_goHour_276 hl (k := 4) rfl rfl (by decide) rfl (fun ls hl => ?_)
    refine lv_goto (tgt := 37) C.1 C.2.1 dX9_goHour_279 (by decide) ?_
    exact hag37 v2 (v3 + 1) M2 _ _ _ hT (lv_sub hl [2, 3, 4, 0] rfl) h
  · have h := fz_iq c1 h
    refine lv_aload_n C.1 C.2.1 dX9_goHour_200 rfl (lv_at hl 1 rfl) ?_
    refine fz_getr C hF hT fz_m0 (j := 41) rfl fl_X9_101 dX9_goHour_201 ?_
    refine lv_aload_n C.1 C.2.1 dX9_goHour_204 rfl (lv_at hl 1 rfl) ?_
    refine fz_getr C hF hT fz_m0 (j := 9) rfl fl_X9_19 dX9_goHour_205 ?_
    refine lv_iload C.1 C.2.1 dX9_goHour_208 (lv_at hl 5 rfl) ?_
    obtain ⟨g3, h⟩ := fz_gd_s h
    refine fz_ia C hF hT fz_m4 g3 dX9_goHour_210 ?_
    refine lv_dup2_11 C.1 C.2.1 dX9_goHour_211 rfl rfl ?_
    obtain ⟨g4, h⟩ := fz_gd_s h
    refine fz_ia C hF hT fz_m31 g4 dX9_goHour_212 ?_
    refine lv_aload_n C.1 C.2.1 dX9_goHour_213 rfl (lv_at hl 1 rfl) ?_
    refine fz_getr C hF hT fz_m0 (j := 14) rfl fl_X9_35 dX9_goHour_214 ?_
    refine lv_iload_n C.1 C.2.1 dX9_goHour_217 rfl (lv_at hl 4 rfl) ?_
    obtain ⟨g5, h⟩ := fz_gd_s h
    refine fz_ia C hF hT fz_m9 g5 dX9_goHour_218 ?_
    refine lv_isub C.1 C.2.1 dX9_goHour_219 ?_
    obtain ⟨g6, h⟩ := fz_gd_s h
    obtain ⟨M7, eM7, h⟩ := fz_bd_s h
    refine fz_ias C hF hT fz_m31 g6 dX9_goHour_220 (fun H locs hT => ?_)
    rw [← eM7] at hT
    refine lv_aload_n C.1 C.2.1 dX9_goHour_221 rfl (lv_at hl 1 rfl) ?_
    refine fz_getr C hF hT fz_m0 (j := 41) rfl fl_X9_101 dX9_goHour_222 ?_
    refine lv_aload_n C.1 C.2.1 dX9_goHour_225 rfl (lv_at hl 1 rfl) ?_
    refine fz_getr C hF hT fz_m0 (j := 10) rfl fl_X9_22 dX9_goHour_226 ?_
    refine lv_iload C.1 C.2.1 dX9_goHour_229 (lv_at hl 5 rfl) ?_
    obtain ⟨g8, h⟩ := fz_gd_s h
    refine fz_ia C hF hT fz_m5 g8 dX9_goHour_231 ?_
    refine lv_dup2_11 C.1 C.2.1 dX9_goHour_232 rfl rfl ?_
    obtain ⟨g9, h⟩ := fz_gd_s h
    refine fz_ia C hF hT fz_m31 g9 dX9_goHour_233 ?_
    refine lv_aload_n C.1 C.2.1 dX9_goHour_234 rfl (lv_at hl 1 rfl) ?_
    refine fz_getr C hF hT fz_m0 (j := 14) rfl fl_X9_35 dX9_goHour_235 ?_
    refine lv_iload_n C.1 C.2.1 dX9_goHour_238 rfl (lv_at hl 4 rfl) ?_
    obtain ⟨g10, h⟩ := fz_gd_s h
    refine fz_ia C hF hT fz_m9 g10 dX9_goHour_239 ?_
    refine lv_isub C.1 C.2.1 dX9_goHour_240 ?_
    obtain ⟨g11, h⟩ := fz_gd_s h
    obtain ⟨M12, eM12, h⟩ := fz_bd_s h
    refine fz_ias C hF hT fz_m31 g11 dX9_goHour_241 (fun H locs hT => ?_)
    rw [← eM12] at hT
    refine lv_aload_n C.1 C.2.1 dX9_goHour_242 rfl (lv_at hl 1 rfl) ?_
    refine fz_getr C hF hT fz_m0 (j := 39) rfl fl_X9_95 dX9_goHour_243 ?_
    refine lv_iload_n C.1 C.2.1 dX9_goHour_246 rfl (lv_at hl 4 rfl) ?_
    refine lv_aload_n C.1 C.2.1 dX9_goHour_247 rfl (lv_at hl 1 rfl) ?_
    refine fz_getr C hF hT fz_m0 (j := 10) rfl fl_X9_22 dX9_goHour_248 ?_
    refine lv_iload C.1 C.2.1 dX9_goHour_251 (lv_at hl 5 rfl) ?_
    obtain ⟨g13, h⟩ := fz_gd_s h
    refine fz_ia C hF hT fz_m5 g13 dX9_goHour_253 ?_
    obtain ⟨g14, h⟩ := fz_gd_s h
    obtain ⟨M15, eM15, h⟩ := fz_bd_s h
    refine fz_ias C hF hT fz_m29 g14 dX9_goHour_254 (fun H locs hT => ?_)
    rw [← eM15] at hT
    refine lv_iload_n C.1 C.2.1 dX9_goHour_255 rfl (lv_at hl 3 rfl) ?_
    refine lv_iconst (v := 1) C.1 C.2.1 dX9_goHour_256 (by decide) ?_
    refine lv_iload_n C.1 C.2.1 dX9_goHour_257 rfl (lv_at hl 4 rfl) ?_
    refine lv_ishl C.1 C.2.1 dX9_goHour_258 ?_
    refine lv_ior C.1 C.2.1 dX9_goHour_259 ?_
    obtain ⟨x16, ex16, h⟩ := fz_bd_s h
    refine fz_nmi ex16 ?_
    refine lv_istore_n (lv' := [(2, .int x16), (7, .int s0), (0, .ref (G.1 0)), (1, .int v1), (3, .int v3), (6, .int v6)]) C.1 C.2.1 dX9_goHour_260 rfl hl (by decide) rfl (fun ls hl => ?_)
    refine lv_goto (tgt := 276) C.1 C.2.1 dX9_goHour_261 (by decide) ?_
    refine lv_iinc (v := (v3 + 1)) (lv' := [(3, .int (v3 + 1)), (2, .int x16), (7, .int s0), (0, .ref (G.1 0)), (1, .int v1), (6, .int v6)]) C.1 C.2.1 dX9_goHour_276 hl (k := 4) rfl rfl (by decide) rfl (fun ls hl => ?_)
    refine lv_goto (tgt := 37) C.1 C.2.1 dX9_goHour_279 (by decide) ?_
    exact hag37 x16 (v3 + 1) M15 _ _ _ hT (lv_sub hl [3, 4, 1, 0] rfl) h
set_option maxHeartbeats 4000000 in
set_option maxRecDepth 100000 in
theorem b_X9_goHour_192 {p : Program} {l : Launch} {e : Env} {s : State} {m : MethodId} {args : Array Value} {below : List Frame} {meth : Method} {c : Code} {G : fz_G}   {ag37 : (Int32 × Int32 × fz_M) → Option (Int32 × fz_M)}  {v1 : Int32} {v2 : Int32} {v3 : Int32} {v6 : Int32} {M : fz_M} {H : Heap} {locs : List Loc} {ls : Array Slot} {r : Int32} {M9 : fz_M} (C : CallFix p m c cX9_goHour 8 s args wsL_law RX9) (hr : meth.sig.returnType = (some .int)) (hlk : meth.locks = false) (hF : fz_F G fz_KM s) (hag37 : ∀ (v2 : Int32) (v3 : Int32) (M : fz_M) (H : Heap) (locs : List Loc) (ls : Array Slot), fz_T G fz_shM fz_KM s M H locs → lv_has ls 8 [(0, .ref (G.1 0)), (1, .int v1), (2, .int v2), (3, .int v3)] → ag37 (v2, v3, M) = some (r, M9) → W p l e (fz_rm 1 24) s m args below meth c H locs 0 0 (MQ below (fz_Qi G fz_shM fz_KM r M9) args s 0 0 (fz_Fr G fz_KM)) (F0 m 37 ls [])) (hT : fz_T G fz_shM fz_KM s M H locs) (hl : lv_has ls 8 [(0, .ref (G.1 0)), (1, .int v1), (2, .int v2), (3, .int v3), (6, .int v6)]) (h : f_X9_goHour_192 ag37 v1 v2 v3 v6 M = some (r, M9)) : W p l e (fz_rm 1 24) s m args below meth c H locs 0 0 (MQ below (fz_Qi G fz_shM fz_KM r M9) args s 0 0 (fz_Fr G fz_KM)) (F0 m 192 ls []) := by
  refine lv_iconst (v := 0) C.1 C.2.1 dX9_goHour_192 (by decide) ?_
  exact b_X9_goHour_193 C hr hlk hF hag37 hT (lv_sub hl [0, 1, 2, 3, 4] rfl) h
set_option maxHeartbeats 4000000 in
set_option maxRecDepth 100000 in
theorem b_X9_goHour_137 {p : Program} {l : Launch} {e : Env} {s : State} {m : MethodId} {args : Array Value} {below : List Frame} {meth : Method} {c : Code} {G : fz_G}   {ag37 : (Int32 × Int32 × fz_M) → Option (Int32 × fz_M)}  {v1 : Int32} {v2 : Int32} {v3 : Int32} {s0 : Int32} {M : fz_M} {H : Heap} {locs : List Loc} {ls : Array Slot} {r : Int32} {M9 : fz_M} (C : CallFix p m c cX9_goHour 8 s args wsL_law RX9) (hr : meth.sig.returnType = (some .int)) (hlk : meth.locks = false) (hF : fz_F G fz_KM s) (hag37 : ∀ (v2 : Int32) (v3 : Int32) (M : fz_M) (H : Heap) (locs : List Loc) (ls : Array Slot), fz_T G fz_shM fz_KM s M H locs → lv_has ls 8 [(0, .ref (G.1 0)), (1, .int v1), (2, .int v2), (3, .int v3)] → ag37 (v2, v3, M) = some (r, M9) → W p l e (fz_rm 1 24) s m args below meth c H locs 0 0 (MQ below (fz_Qi G fz_shM fz_KM r M9) args s 0 0 (fz_Fr G fz_KM)) (F0 m 37 ls [])) (hT : fz_T G fz_shM fz_KM s M H locs) (hl : lv_has ls 8 [(0, .ref (G.1 0)), (1, .int v1), (2, .int v2), (3, .int v3)]) (h : f_X9_goHour_137 ag37 v1 v2 v3 s0 M = some (r, M9)) : W p l e (fz_rm 1 24) s m args below meth c H locs 0 0 (MQ below (fz_Qi G fz_shM fz_KM r M9) args s 0 0 (fz_Fr G fz_KM)) (F0 m 137 ls [.int s0]) := by
  refine lv_istore (lv' := [(6, .int s0), (0, .ref (G.1 0)), (1, .int v1), (2, .int v2), (3, .int v3)]) C.1 C.2.1 dX9_goHour_137 hl (by decide) rfl (fun ls hl => ?_)
  refine lv_iload C.1 C.2.1 dX9_goHour_139 (lv_at hl 0 rfl) ?_
  refine lv_bipush (v := (-9)) C.1 C.2.1 dX9_goHour_141 (by decide) ?_
  refine lv_icmp_eq (tgt := 276) C.1 C.2.1 dX9_goHour_143 (by decide) (fun c1 => ?_) (fun c1 => ?_)
  · have h := fz_ip c1 h
    refine lv_iinc (v := (v3 + 1)) (lv' := [(3, .int (v3 + 1)), (6, .int s0), (0, .ref (G.1 0)), (1, .int v1), (2, .int v2)]) C.1 C.2.1 dX9_goHour_276 hl (k := 4) rfl rfl (by decide) rfl (fun ls hl => ?_)
    refine lv_goto (tgt := 37) C.1 C.2.1 dX9_goHour_279 (by decide) ?_
    exact hag37 v2 (v3 + 1) M _ _ _ hT (lv_sub hl [2, 3, 4, 0] rfl) h
  · have h := fz_iq c1 h
    refine lv_aload_n C.1 C.2.1 dX9_goHour_146 rfl (lv_at hl 1 rfl) ?_
    refine fz_getr C hF hT fz_m0 (j := 41) rfl fl_X9_101 dX9_goHour_147 ?_
    refine lv_aload_n C.1 C.2.1 dX9_goHour_150 rfl (lv_at hl 1 rfl) ?_
    refine fz_getr C hF hT fz_m0 (j := 9) rfl fl_X9_19 dX9_goHour_151 ?_
    refine lv_iload C.1 C.2.1 dX9_goHour_154 (lv_at hl 0 rfl) ?_
    obtain ⟨g2, h⟩ := fz_gd_s h
    refine fz_ia C hF hT fz_m4 g2 dX9_goHour_156 ?_
    obtain ⟨g3, h⟩ := fz_gd_s h
    refine fz_ia C hF hT fz_m31 g3 dX9_goHour_157 ?_
    refine lv_aload_n C.1 C.2.1 dX9_goHour_158 rfl (lv_at hl 1 rfl) ?_
    refine fz_getr C hF hT fz_m0 (j := 14) rfl fl_X9_35 dX9_goHour_159 ?_
    refine lv_iload_n C.1 C.2.1 dX9_goHour_162 rfl (lv_at hl 4 rfl) ?_
    obtain ⟨g4, h⟩ := fz_gd_s h
    refine fz_ia C hF hT fz_m9 g4 dX9_goHour_163 ?_
    refine lv_icmp_lt (tgt := 192) C.1 C.2.1 dX9_goHour_164 (by decide) (fun c5 => ?_) (fun c5 => ?_)
    · have h := fz_ip c5 h
      exact b_X9_goHour_192 C hr hlk hF hag37 hT (lv_sub hl [1, 2, 3, 4, 0] rfl) h
    · have h := fz_iq c5 h
      refine lv_aload_n C.1 C.2.1 dX9_goHour_167 rfl (lv_at hl 1 rfl) ?_
      refine fz_getr C hF hT fz_m0 (j := 41) rfl fl_X9_101 dX9_goHour_168 ?_
      refine lv_aload_n C.1 C.2.1 dX9_goHour_171 rfl (lv_at hl 1 rfl) ?_
      refine fz_getr C hF hT fz_m0 (j := 10) rfl fl_X9_22 dX9_goHour_172 ?_
      refine lv_iload C.1 C.2.1 dX9_goHour_175 (lv_at hl 0 rfl) ?_
      obtain ⟨g6, h⟩ := fz_gd_s h
      refine fz_ia C hF hT fz_m5 g6 dX9_goHour_177 ?_
      obtain ⟨g7, h⟩ := fz_gd_s h
      refine fz_ia C hF hT fz_m31 g7 dX9_goHour_178 ?_
      refine lv_aload_n C.1 C.2.1 dX9_goHour_179 rfl (lv_at hl 1 rfl) ?_
      refine fz_getr C hF hT fz_m0 (j := 14) rfl fl_X9_35 dX9_goHour_180 ?_
      refine lv_iload_n C.1 C.2.1 dX9_goHour_183 rfl (lv_at hl 4 rfl) ?_
      obtain ⟨g8, h⟩ := fz_gd_s h
      refine fz_ia C hF hT fz_m9 g8 dX9_goHour_184 ?_
      refine lv_icmp_lt (tgt := 192) C.1 C.2.1 dX9_goHour_185 (by decide) (fun c9 => ?_) (fun c9 => ?_)
      · have h := fz_ip c9 h
        exact b_X9_goHour_192 C hr hlk hF hag37 hT (lv_sub hl [1, 2, 3, 4, 0] rfl) h
      · have h := fz_iq c9 h
        refine lv_iconst (v := 1) C.1 C.2.1 dX9_goHour_188 (by decide) ?_
        refine lv_goto (tgt := 193) C.1 C.2.1 dX9_goHour_189 (by decide) ?_
        exact b_X9_goHour_193 C hr hlk hF hag37 hT (lv_sub hl [1, 2, 3, 4, 0] rfl) h
set_option maxHeartbeats 4000000 in
set_option maxRecDepth 100000 in
theorem b_X9_goHour_135 {p : Program} {l : Launch} {e : Env} {s : State} {m : MethodId} {args : Array Value} {below : List Frame} {meth : Method} {c : Code} {G : fz_G}   {ag37 : (Int32 × Int32 × fz_M) → Option (Int32 × fz_M)}  {v1 : Int32} {v2 : Int32} {v3 : Int32} {M : fz_M} {H : Heap} {locs : List Loc} {ls : Array Slot} {r : Int32} {M9 : fz_M} (C : CallFix p m c cX9_goHour 8 s args wsL_law RX9) (hr : meth.sig.returnType = (some .int)) (hlk : meth.locks = false) (hF : fz_F G fz_KM s) (hag37 : ∀ (v2 : Int32) (v3 : Int32) (M : fz_M) (H : Heap) (locs : List Loc) (ls : Array Slot), fz_T G fz_shM fz_KM s M H locs → lv_has ls 8 [(0, .ref (G.1 0)), (1, .int v1), (2, .int v2), (3, .int v3)] → ag37 (v2, v3, M) = some (r, M9) → W p l e (fz_rm 1 24) s m args below meth c H locs 0 0 (MQ below (fz_Qi G fz_shM fz_KM r M9) args s 0 0 (fz_Fr G fz_KM)) (F0 m 37 ls [])) (hT : fz_T G fz_shM fz_KM s M H locs) (hl : lv_has ls 8 [(0, .ref (G.1 0)), (1, .int v1), (2, .int v2), (3, .int v3)]) (h : f_X9_goHour_135 ag37 v1 v2 v3 M = some (r, M9)) : W p l e (fz_rm 1 24) s m args below meth c H locs 0 0 (MQ below (fz_Qi G fz_shM fz_KM r M9) args s 0 0 (fz_Fr G fz_KM)) (F0 m 135 ls []) := by
  refine lv_bipush (v := (-9)) C.1 C.2.1 dX9_goHour_135 (by decide) ?_
  exact b_X9_goHour_137 C hr hlk hF hag37 hT (lv_sub hl [0, 1, 2, 3] rfl) h
set_option maxHeartbeats 4000000 in
set_option maxRecDepth 100000 in
theorem b_X9_goHour_107 {p : Program} {l : Launch} {e : Env} {s : State} {m : MethodId} {args : Array Value} {below : List Frame} {meth : Method} {c : Code} {G : fz_G}   {ag37 : (Int32 × Int32 × fz_M) → Option (Int32 × fz_M)}  {v1 : Int32} {v2 : Int32} {v3 : Int32} {v5 : Int32} {s1 : Int32} {s2 : Int32} {M : fz_M} {H : Heap} {locs : List Loc} {ls : Array Slot} {r : Int32} {M9 : fz_M} (C : CallFix p m c cX9_goHour 8 s args wsL_law RX9) (hr : meth.sig.returnType = (some .int)) (hlk : meth.locks = false) (hF : fz_F G fz_KM s) (hag37 : ∀ (v2 : Int32) (v3 : Int32) (M : fz_M) (H : Heap) (locs : List Loc) (ls : Array Slot), fz_T G fz_shM fz_KM s M H locs → lv_has ls 8 [(0, .ref (G.1 0)), (1, .int v1), (2, .int v2), (3, .int v3)] → ag37 (v2, v3, M) = some (r, M9) → W p l e (fz_rm 1 24) s m args below meth c H locs 0 0 (MQ below (fz_Qi G fz_shM fz_KM r M9) args s 0 0 (fz_Fr G fz_KM)) (F0 m 37 ls [])) (hT : fz_T G fz_shM fz_KM s M H locs) (hl : lv_has ls 8 [(0, .ref (G.1 0)), (1, .int v1), (2, .int v2), (3, .int v3), (5, .int v5)]) (h : f_X9_goHour_107 ag37 v1 v2 v3 v5 s1 s2 M = some (r, M9)) : W p l e (fz_rm 1 24) s m args below meth c H locs 0 0 (MQ below (fz_Qi G fz_shM fz_KM r M9) args s 0 0 (fz_Fr G fz_KM)) (F0 m 107 ls [.int s2, .int s1, .ref (G.1 30)]) := by
  obtain ⟨g1, h⟩ := fz_gd_s h
  obtain ⟨M2, eM2, h⟩ := fz_bd_s h
  refine fz_ias C hF hT fz_m30 g1 dX9_goHour_107 (fun H locs hT => ?_)
  rw [← eM2] at hT
  refine lv_iload C.1 C.2.1 dX9_goHour_108 (lv_at hl 4 rfl) ?_
  refine lv_if_eq (tgt := 135) C.1 C.2.1 dX9_goHour_110 (by decide) (fun c3 => ?_) (fun c3 => ?_)
  · have h := fz_ip c3 h
    exact b_X9_goHour_135 C hr hlk hF hag37 hT (lv_sub hl [0, 1, 2, 3] rfl) h
  · have h := fz_iq c3 h
    refine lv_aload_n C.1 C.2.1 dX9_goHour_113 rfl (lv_at hl 0 rfl) ?_
    refine fz_getr C hF hT fz_m0 (j := 40) rfl fl_X9_98 dX9_goHour_114 ?_
    refine lv_iload_n C.1 C.2.1 dX9_goHour_117 rfl (lv_at hl 3 rfl) ?_
    obtain ⟨g4, h⟩ := fz_gd_s h
    refine fz_ia C hF hT fz_m30 g4 dX9_goHour_118 ?_
    refine lv_if_ne (tgt := 135) C.1 C.2.1 dX9_goHour_119 (by decide) (fun c5 => ?_) (fun c5 => ?_)
    · have h := fz_ip c5 h
      exact b_X9_goHour_135 C hr hlk hF hag37 hT (lv_sub hl [0, 1, 2, 3] rfl) h
    · have h := fz_iq (not_not_intro c5) h
      refine lv_aload_n C.1 C.2.1 dX9_goHour_122 rfl (lv_at hl 0 rfl) ?_
      refine lv_aload_n C.1 C.2.1 dX9_goHour_123 rfl (lv_at hl 0 rfl) ?_
      refine fz_getr C hF hT fz_m0 (j := 39) rfl fl_X9_95 dX9_goHour_124 ?_
      refine lv_iload_n C.1 C.2.1 dX9_goHour_127 rfl (lv_at hl 3 rfl) ?_
      obtain ⟨g6, h⟩ := fz_gd_s h
      refine fz_ia C hF hT fz_m29 g6 dX9_goHour_128 ?_
      obtain ⟨r7, w9, h⟩ := fz_b1_s h
      refine fz_ci hT (fz_runV (np := 1) (rest := []) C hF hT (c_X9_strongest l G (fz_g M2 29 v3) M2 r7 w9) fz_m0 (T := TX9) (N := 49) rfl cl_X9_212 rfl hl.1 rfl (Nat.le_of_ble_eq_true rfl) ⟨Nat.le_of_ble_eq_true rfl, Nat.le_of_ble_eq_true rfl, Nat.zero_le _, Nat.zero_le _⟩ dX9_goHour_129) (fun H locs hT => ?_)
      refine lv_goto (tgt := 137) C.1 C.2.1 dX9_goHour_132 (by decide) ?_
      exact b_X9_goHour_137 C hr hlk hF hag37 hT (lv_sub hl [0, 1, 2, 3] rfl) h
set_option maxHeartbeats 4000000 in
set_option maxRecDepth 100000 in
theorem b_X9_goHour_101 {p : Program} {l : Launch} {e : Env} {s : State} {m : MethodId} {args : Array Value} {below : List Frame} {meth : Method} {c : Code} {G : fz_G}   {ag37 : (Int32 × Int32 × fz_M) → Option (Int32 × fz_M)}  {v1 : Int32} {v2 : Int32} {v3 : Int32} {v5 : Int32} {s1 : Int32} {M : fz_M} {H : Heap} {locs : List Loc} {ls : Array Slot} {r : Int32} {M9 : fz_M} (C : CallFix p m c cX9_goHour 8 s args wsL_law RX9) (hr : meth.sig.returnType = (some .int)) (hlk : meth.locks = false) (hF : fz_F G fz_KM s) (hag37 : ∀ (v2 : Int32) (v3 : Int32) (M : fz_M) (H : Heap) (locs : List Loc) (ls : Array Slot), fz_T G fz_shM fz_KM s M H locs → lv_has ls 8 [(0, .ref (G.1 0)), (1, .int v1), (2, .int v2), (3, .int v3)] → ag37 (v2, v3, M) = some (r, M9) → W p l e (fz_rm 1 24) s m args below meth c H locs 0 0 (MQ below (fz_Qi G fz_shM fz_KM r M9) args s 0 0 (fz_Fr G fz_KM)) (F0 m 37 ls [])) (hT : fz_T G fz_shM fz_KM s M H locs) (hl : lv_has ls 8 [(0, .ref (G.1 0)), (1, .int v1), (2, .int v2), (3, .int v3), (5, .int v5)]) (h : f_X9_goHour_101 ag37 v1 v2 v3 v5 s1 M = some (r, M9)) : W p l e (fz_rm 1 24) s m args below meth c H locs 0 0 (MQ below (fz_Qi G fz_shM fz_KM r M9) args s 0 0 (fz_Fr G fz_KM)) (F0 m 101 ls [.int s1, .ref (G.1 30)]) := by
  refine lv_aload_n C.1 C.2.1 dX9_goHour_101 rfl (lv_at hl 0 rfl) ?_
  refine fz_getr C hF hT fz_m0 (j := 40) rfl fl_X9_98 dX9_goHour_102 ?_
  refine lv_iload_n C.1 C.2.1 dX9_goHour_105 rfl (lv_at hl 3 rfl) ?_
  obtain ⟨g1, h⟩ := fz_gd_s h
  refine fz_ia C hF hT fz_m30 g1 dX9_goHour_106 ?_
  exact b_X9_goHour_107 C hr hlk hF hag37 hT (lv_sub hl [0, 1, 2, 3, 4] rfl) h
set_option maxHeartbeats 4000000 in
set_option maxRecDepth 100000 in
theorem b_X9_goHour_74 {p : Program} {l : Launch} {e : Env} {s : State} {m : MethodId} {args : Array Value} {below : List Frame} {meth : Method} {c : Code} {G : fz_G}   {ag37 : (Int32 × Int32 × fz_M) → Option (Int32 × fz_M)}  {v1 : Int32} {v2 : Int32} {v3 : Int32} {v4 : Int32} {s0 : Int32} {M : fz_M} {H : Heap} {locs : List Loc} {ls : Array Slot} {r : Int32} {M9 : fz_M} (C : CallFix p m c cX9_goHour 8 s args wsL_law RX9) (hr : meth.sig.returnType = (some .int)) (hlk : meth.locks = false) (hF : fz_F G fz_KM s) (hag37 : ∀ (v2 : Int32) (v3 : Int32) (M : fz_M) (H : Heap) (locs : List Loc) (ls : Array Slot), fz_T G fz_shM fz_KM s M H locs → lv_has ls 8 [(0, .ref (G.1 0)), (1, .int v1), (2, .int v2), (3, .int v3)] → ag37 (v2, v3, M) = some (r, M9) → W p l e (fz_rm 1 24) s m args below meth c H locs 0 0 (MQ below (fz_Qi G fz_shM fz_KM r M9) args s 0 0 (fz_Fr G fz_KM)) (F0 m 37 ls [])) (hT : fz_T G fz_shM fz_KM s M H locs) (hl : lv_has ls 8 [(0, .ref (G.1 0)), (1, .int v1), (2, .int v2), (3, .int v3), (4, .int v4)]) (h : f_X9_goHour_74 ag37 v1 v2 v3 v4 s0 M = some (r, M9)) : W p l e (fz_rm 1 24) s m args below meth c H locs 0 0 (MQ below (fz_Qi G fz_shM fz_KM r M9) args s 0 0 (fz_Fr G fz_KM)) (F0 m 74 ls [.int s0]) := by
  refine lv_istore (lv' := [(5, .int s0), (0, .ref (G.1 0)), (1, .int v1), (2, .int v2), (3, .int v3), (4, .int v4)]) C.1 C.2.1 dX9_goHour_74 hl (by decide) rfl (fun ls hl => ?_)
  refine lv_aload_n C.1 C.2.1 dX9_goHour_76 rfl (lv_at hl 1 rfl) ?_
  refine fz_getr C hF hT fz_m0 (j := 40) rfl fl_X9_98 dX9_goHour_77 ?_
  refine lv_iload_n C.1 C.2.1 dX9_goHour_80 rfl (lv_at hl 4 rfl) ?_
  refine lv_iload C.1 C.2.1 dX9_goHour_81 (lv_at hl 0 rfl) ?_
  refine lv_if_eq (tgt := 101) C.1 C.2.1 dX9_goHour_83 (by decide) (fun c1 => ?_) (fun c1 => ?_)
  · have h := fz_ip c1 h
    exact b_X9_goHour_101 C hr hlk hF hag37 hT (lv_sub hl [1, 2, 3, 4, 0] rfl) h
  · have h := fz_iq c1 h
    refine lv_aload_n C.1 C.2.1 dX9_goHour_86 rfl (lv_at hl 1 rfl) ?_
    refine fz_getr C hF hT fz_m0 (j := 40) rfl fl_X9_98 dX9_goHour_87 ?_
    refine lv_iload_n C.1 C.2.1 dX9_goHour_90 rfl (lv_at hl 4 rfl) ?_
    obtain ⟨g2, h⟩ := fz_gd_s h
    refine fz_ia C hF hT fz_m30 g2 dX9_goHour_91 ?_
    refine lv_iload C.1 C.2.1 dX9_goHour_92 (lv_at hl 5 rfl) ?_
    refine lv_icmp_ge (tgt := 101) C.1 C.2.1 dX9_goHour_94 (by decide) (fun c3 => ?_) (fun c3 => ?_)
    · have h := fz_ip c3 h
      exact b_X9_goHour_101 C hr hlk hF hag37 hT (lv_sub hl [1, 2, 3, 4, 0] rfl) h
    · have h := fz_iq c3 h
      refine lv_iconst (v := 0) C.1 C.2.1 dX9_goHour_97 (by decide) ?_
      refine lv_goto (tgt := 107) C.1 C.2.1 dX9_goHour_98 (by decide) ?_
      exact b_X9_goHour_107 C hr hlk hF hag37 hT (lv_sub hl [1, 2, 3, 4, 0] rfl) h
set_option maxHeartbeats 4000000 in
set_option maxRecDepth 100000 in
theorem b_X9_goHour_37_l {p : Program} {l : Launch} {e : Env} {s : State} {m : MethodId} {args : Array Value} {below : List Frame} {meth : Method} {c : Code} {G : fz_G}     {v1 : Int32}  {r : Int32} {M9 : fz_M} (C : CallFix p m c cX9_goHour 8 s args wsL_law RX9) (hr : meth.sig.returnType = (some .int)) (hlk : meth.locks = false) (hF : fz_F G fz_KM s)  : ∀ (n : Nat) (v2 : Int32) (v3 : Int32) (M : fz_M) (H : Heap) (locs : List Loc) (ls : Array Slot), fz_T G fz_shM fz_KM s M H locs → lv_has ls 8 [(0, .ref (G.1 0)), (1, .int v1), (2, .int v2), (3, .int v3)] → fz_lp (fun ag z => f_X9_goHour_37_s ag v1 z.1 z.2.1 z.2.2) n (v2, v3, M) = some (r, M9) → W p l e (fz_rm 1 24) s m args below meth c H locs 0 0 (MQ below (fz_Qi G fz_shM fz_KM r M9) args s 0 0 (fz_Fr G fz_KM)) (F0 m 37 ls []) := by
  intro n
  induction n with
  | zero =>
    intro v2 v3 M H locs ls hT hl h
    cases h
  | succ n ih =>
    intro v2 v3 M H locs ls hT hl h
    have h : f_X9_goHour_37_s (fz_lp (fun ag z => f_X9_goHour_37_s ag v1 z.1 z.2.1 z.2.2) n) v1 v2 v3 M = some (r, M9) := h
    have hag37 := ih
    generalize fz_lp (fun ag z => f_X9_goHour_37_s ag v1 z.1 z.2.1 z.2.2) n = ag37 at h hag37
    refine lv_iload_n C.1 C.2.1 dX9_goHour_37 rfl (lv_at hl 3 rfl) ?_
    refine lv_aload_n C.1 C.2.1 dX9_goHour_38 rfl (lv_at hl 0 rfl) ?_
    refine fz_geti C hF hT fz_m0 (j := 6) rfl fl_X9_128 dX9_goHour_39 ?_
    refine lv_icmp_ge (tgt := 282) C.1 C.2.1 dX9_goHour_42 (by decide) (fun c1 => ?_) (fun c1 => ?_)
    · have h := fz_ip c1 h
      refine lv_iload_n C.1 C.2.1 dX9_goHour_282 rfl (lv_at hl 2 rfl) ?_
      cases h
      exact fz_reti C hr hlk hT dX9_goHour_283
    · have h := fz_iq c1 h
      refine lv_aload_n C.1 C.2.1 dX9_goHour_45 rfl (lv_at hl 0 rfl) ?_
      refine lv_aload_n C.1 C.2.1 dX9_goHour_46 rfl (lv_at hl 0 rfl) ?_
      refine fz_getr C hF hT fz_m0 (j := 39) rfl fl_X9_95 dX9_goHour_47 ?_
      refine lv_iload_n C.1 C.2.1 dX9_goHour_50 rfl (lv_at hl 3 rfl) ?_
      obtain ⟨g2, h⟩ := fz_gd_s h
      refine fz_ia C hF hT fz_m29 g2 dX9_goHour_51 ?_
      refine lv_iload_n C.1 C.2.1 dX9_goHour_52 rfl (lv_at hl 1 rfl) ?_
      obtain ⟨r3, w5, h⟩ := fz_b1_s h
      refine fz_ci hT (fz_runV (np := 2) (rest := []) C hF hT (c_X9_depth l G (fz_g M 29 v3) v1 M r3 w5) fz_m0 (T := TX9) (N := 49) rfl cl_X9_206 rfl hl.1 rfl (Nat.le_of_ble_eq_true rfl) ⟨Nat.le_of_ble_eq_true rfl, Nat.le_of_ble_eq_true rfl, Nat.zero_le _, Nat.zero_le _⟩ dX9_goHour_53) (fun H locs hT => ?_)
      refine lv_istore (lv' := [(4, .int r3), (0, .ref (G.1 0)), (1, .int v1), (2, .int v2), (3, .int v3)]) C.1 C.2.1 dX9_goHour_56 hl (by decide) rfl (fun ls hl => ?_)
      refine lv_iload C.1 C.2.1 dX9_goHour_58 (lv_at hl 0 rfl) ?_
      refine lv_aload_n C.1 C.2.1 dX9_goHour_60 rfl (lv_at hl 1 rfl) ?_
      refine fz_getr C hF hT fz_m0 (j := 15) rfl fl_X9_38 dX9_goHour_61 ?_
      refine lv_iload_n C.1 C.2.1 dX9_goHour_64 rfl (lv_at hl 4 rfl) ?_
      obtain ⟨g6, h⟩ := fz_gd_s h
      refine fz_ia C hF hT fz_m10 g6 dX9_goHour_65 ?_
      refine lv_icmp_lt (tgt := 73) C.1 C.2.1 dX9_goHour_66 (by decide) (fun c7 => ?_) (fun c7 => ?_)
      · have h := fz_ip c7 h
        refine lv_iconst (v := 0) C.1 C.2.1 dX9_goHour_73 (by decide) ?_
        exact b_X9_goHour_74 C hr hlk hF hag37 hT (lv_sub hl [1, 2, 3, 4, 0] rfl) h
      · have h := fz_iq c7 h
        refine lv_iconst (v := 1) C.1 C.2.1 dX9_goHour_69 (by decide) ?_
        refine lv_goto (tgt := 74) C.1 C.2.1 dX9_goHour_70 (by decide) ?_
        exact b_X9_goHour_74 C hr hlk hF hag37 hT (lv_sub hl [1, 2, 3, 4, 0] rfl) h
set_option maxHeartbeats 4000000 in
set_option maxRecDepth 100000 in
theorem b_X9_goHour_37 {p : Program} {l : Launch} {e : Env} {s : State} {m : MethodId} {args : Array Value} {below : List Frame} {meth : Method} {c : Code} {G : fz_G}     {v1 : Int32} {v2 : Int32} {v3 : Int32} {M : fz_M} {H : Heap} {locs : List Loc} {ls : Array Slot} {r : Int32} {M9 : fz_M} (C : CallFix p m c cX9_goHour 8 s args wsL_law RX9) (hr : meth.sig.returnType = (some .int)) (hlk : meth.locks = false) (hF : fz_F G fz_KM s)  (hT : fz_T G fz_shM fz_KM s M H locs) (hl : lv_has ls 8 [(0, .ref (G.1 0)), (1, .int v1), (2, .int v2), (3, .int v3)]) (h : f_X9_goHour_37 v1 v2 v3 M = some (r, M9)) : W p l e (fz_rm 1 24) s m args below meth c H locs 0 0 (MQ below (fz_Qi G fz_shM fz_KM r M9) args s 0 0 (fz_Fr G fz_KM)) (F0 m 37 ls []) :=
  b_X9_goHour_37_l C hr hlk hF fz_fuel v2 v3 M H locs ls hT hl h
set_option maxHeartbeats 4000000 in
set_option maxRecDepth 100000 in
theorem b_X9_goHour_9_l {p : Program} {l : Launch} {e : Env} {s : State} {m : MethodId} {args : Array Value} {below : List Frame} {meth : Method} {c : Code} {G : fz_G}     {v1 : Int32} {v2 : Int32}  {r : Int32} {M9 : fz_M} (C : CallFix p m c cX9_goHour 8 s args wsL_law RX9) (hr : meth.sig.returnType = (some .int)) (hlk : meth.locks = false) (hF : fz_F G fz_KM s)  : ∀ (n : Nat) (v3 : Int32) (M : fz_M) (H : Heap) (locs : List Loc) (ls : Array Slot), fz_T G fz_shM fz_KM s M H locs → lv_has ls 8 [(0, .ref (G.1 0)), (1, .int v1), (2, .int v2), (3, .int v3)] → fz_lp (fun ag z => f_X9_goHour_9_s ag v1 v2 z.1 z.2) n (v3, M) = some (r, M9) → W p l e (fz_rm 1 24) s m args below meth c H locs 0 0 (MQ below (fz_Qi G fz_shM fz_KM r M9) args s 0 0 (fz_Fr G fz_KM)) (F0 m 9 ls []) := by
  intro n
  induction n with
  | zero =>
    intro v3 M H locs ls hT hl h
    cases h
  | succ n ih =>
    intro v3 M H locs ls hT hl h
    have h : f_X9_goHour_9_s (fz_lp (fun ag z => f_X9_goHour_9_s ag v1 v2 z.1 z.2) n) v1 v2 v3 M = some (r, M9) := h
    have hag9 := ih
    generalize fz_lp (fun ag z => f_X9_goHour_9_s ag v1 v2 z.1 z.2) n = ag9 at h hag9
    refine lv_iload_n C.1 C.2.1 dX9_goHour_9 rfl (lv_at hl 3 rfl) ?_
    refine lv_aload_n C.1 C.2.1 dX9_goHour_10 rfl (lv_at hl 0 rfl) ?_
    refine fz_geti C hF hT fz_m0 (j := 4) rfl fl_X9_121 dX9_goHour_11 ?_
    refine lv_icmp_ge (tgt := 35) C.1 C.2.1 dX9_goHour_14 (by decide) (fun c1 => ?_) (fun c1 => ?_)
    · have h := fz_ip c1 h
      refine lv_iconst (v := 0) C.1 C.2.1 dX9_goHour_35 (by decide) ?_
      refine lv_istore_n (lv' := [(3, .int 0), (0, .ref (G.1 0)), (1, .int v1), (2, .int v2)]) C.1 C.2.1 dX9_goHour_36 rfl hl (by decide) rfl (fun ls hl => ?_)
      exact b_X9_goHour_37 C hr hlk hF hT (lv_sub hl [1, 2, 3, 0] rfl) h
    · have h := fz_iq c1 h
      refine lv_aload_n C.1 C.2.1 dX9_goHour_17 rfl (lv_at hl 0 rfl) ?_
      refine fz_getr C hF hT fz_m0 (j := 41) rfl fl_X9_101 dX9_goHour_18 ?_
      refine lv_iload_n C.1 C.2.1 dX9_goHour_21 rfl (lv_at hl 3 rfl) ?_
      refine lv_aload_n C.1 C.2.1 dX9_goHour_22 rfl (lv_at hl 0 rfl) ?_
      refine fz_getr C hF hT fz_m0 (j := 8) rfl fl_X9_16 dX9_goHour_23 ?_
      refine lv_iload_n C.1 C.2.1 dX9_goHour_26 rfl (lv_at hl 3 rfl) ?_
      obtain ⟨g2, h⟩ := fz_gd_s h
      refine fz_ia C hF hT fz_m3 g2 dX9_goHour_27 ?_
      obtain ⟨g3, h⟩ := fz_gd_s h
      obtain ⟨M4, eM4, h⟩ := fz_bd_s h
      refine fz_ias C hF hT fz_m31 g3 dX9_goHour_28 (fun H locs hT => ?_)
      rw [← eM4] at hT
      refine lv_iinc (v := (v3 + 1)) (lv' := [(3, .int (v3 + 1)), (0, .ref (G.1 0)), (1, .int v1), (2, .int v2)]) C.1 C.2.1 dX9_goHour_29 hl (k := 3) rfl rfl (by decide) rfl (fun ls hl => ?_)
      refine lv_goto (tgt := 9) C.1 C.2.1 dX9_goHour_32 (by decide) ?_
      exact hag9 (v3 + 1) M4 _ _ _ hT (lv_sub hl [1, 2, 3, 0] rfl) h
set_option maxHeartbeats 4000000 in
set_option maxRecDepth 100000 in
theorem b_X9_goHour_9 {p : Program} {l : Launch} {e : Env} {s : State} {m : MethodId} {args : Array Value} {below : List Frame} {meth : Method} {c : Code} {G : fz_G}     {v1 : Int32} {v2 : Int32} {v3 : Int32} {M : fz_M} {H : Heap} {locs : List Loc} {ls : Array Slot} {r : Int32} {M9 : fz_M} (C : CallFix p m c cX9_goHour 8 s args wsL_law RX9) (hr : meth.sig.returnType = (some .int)) (hlk : meth.locks = false) (hF : fz_F G fz_KM s)  (hT : fz_T G fz_shM fz_KM s M H locs) (hl : lv_has ls 8 [(0, .ref (G.1 0)), (1, .int v1), (2, .int v2), (3, .int v3)]) (h : f_X9_goHour_9 v1 v2 v3 M = some (r, M9)) : W p l e (fz_rm 1 24) s m args below meth c H locs 0 0 (MQ below (fz_Qi G fz_shM fz_KM r M9) args s 0 0 (fz_Fr G fz_KM)) (F0 m 9 ls []) :=
  b_X9_goHour_9_l C hr hlk hF fz_fuel v3 M H locs ls hT hl h
set_option maxHeartbeats 4000000 in
set_option maxRecDepth 100000 in
theorem b_X9_goHour_0 {p : Program} {l : Launch} {e : Env} {s : State} {m : MethodId} {args : Array Value} {below : List Frame} {meth : Method} {c : Code} {G : fz_G}     {v1 : Int32} {M : fz_M} {H : Heap} {locs : List Loc} {ls : Array Slot} {r : Int32} {M9 : fz_M} (C : CallFix p m c cX9_goHour 8 s args wsL_law RX9) (hr : meth.sig.returnType = (some .int)) (hlk : meth.locks = false) (hF : fz_F G fz_KM s)  (hT : fz_T G fz_shM fz_KM s M H locs) (hl : lv_has ls 8 [(0, .ref (G.1 0)), (1, .int v1)]) (h : f_X9_goHour v1 M = some (r, M9)) : W p l e (fz_rm 1 24) s m args below meth c H locs 0 0 (MQ below (fz_Qi G fz_shM fz_KM r M9) args s 0 0 (fz_Fr G fz_KM)) (F0 m 0 ls []) := by
  refine lv_iconst (v := 0) C.1 C.2.1 dX9_goHour_0 (by decide) ?_
  refine lv_istore_n (lv' := [(2, .int 0), (0, .ref (G.1 0)), (1, .int v1)]) C.1 C.2.1 dX9_goHour_1 rfl hl (by decide) rfl (fun ls hl => ?_)
  refine lv_aload_n C.1 C.2.1 dX9_goHour_2 rfl (lv_at hl 1 rfl) ?_
  refine lv_iconst (v := 0) C.1 C.2.1 dX9_goHour_3 (by decide) ?_
  obtain ⟨M1, eM1, h⟩ := fz_bd_s h
  refine fz_puti C hF hT fz_m0 (j := 42) rfl fw_X9_209 dX9_goHour_4 (fun H locs hT => ?_)
  rw [← eM1] at hT
  refine lv_iconst (v := 0) C.1 C.2.1 dX9_goHour_7 (by decide) ?_
  refine lv_istore_n (lv' := [(3, .int 0), (2, .int 0), (0, .ref (G.1 0)), (1, .int v1)]) C.1 C.2.1 dX9_goHour_8 rfl hl (by decide) rfl (fun ls hl => ?_)
  exact b_X9_goHour_9 C hr hlk hF hT (lv_sub hl [2, 3, 1, 0] rfl) h
set_option maxRecDepth 100000 in
theorem c_X9_goHour (l : Launch) (G : fz_G)  (a0 : Int32) (M : fz_M) (r : Int32) (M9 : fz_M) (h : f_X9_goHour a0 M = some (r, M9)) : fz_Me l yX9_goHour cX9_goHour 8 (some .int) 1 24 G fz_shM fz_KM [.ref (G.1 0), .int a0] M (fz_Qi G fz_shM fz_KM r M9) := by
  refine fz_body (by decide) (Nat.le_of_ble_eq_true rfl) ?_
  intro p e s m args below meth c H locs ls C hr hlk hF hT hl
  have C : CallFix p m c cX9_goHour 8 s args wsL_law RX9 := C
  have hl : lv_has ls 8 [(0, .ref (G.1 0)), (1, .int a0)] := hl
  exact b_X9_goHour_0 C hr hlk hF hT (lv_sub hl [0, 1] rfl) h
set_option maxHeartbeats 4000000 in
set_option maxRecDepth 100000 in
theorem b_X9_goHours_2_l {p : Program} {l : Launch} {e : Env} {s : State} {m : MethodId} {args : Array Value} {below : List Frame} {meth : Method} {c : Code} {G : fz_G}     {v1 : Int32} {v2 : Int32}  {M9 : fz_M} (C : CallFix p m c cX9_goHours 4 s args wsL_law RX9) (hr : meth.sig.returnType = none) (hlk : meth.locks = false) (hF : fz_F G fz_KM s)  : ∀ (n : Nat) (v3 : Int32) (M : fz_M) (H : Heap) (locs : List Loc) (ls : Array Slot), fz_T G fz_shM fz_KM s M H locs → lv_has ls 4 [(0, .ref (G.1 0)), (1, .int v1), (2, .int v2), (3, .int v3)] → fz_lp (fun ag z => f_X9_goHours_2_s ag v1 v2 z.1 z.2) n (v3, M) = some M9 → W p l e (fz_rm 2 51) s m args below meth c H locs 0 0 (MQ below (fz_Qv G fz_shM fz_KM M9) args s 0 0 (fz_Fr G fz_KM)) (F0 m 2 ls []) := by
  intro n
  induction n with
  | zero =>
    intro v3 M H locs ls hT hl h
    cases h
  | succ n ih =>
    intro v3 M H locs ls hT hl h
    have h : f_X9_goHours_2_s (fz_lp (fun ag z => f_X9_goHours_2_s ag v1 v2 z.1 z.2) n) v1 v2 v3 M = some M9 := h
    have hag2 := ih
    generalize fz_lp (fun ag z => f_X9_goHours_2_s ag v1 v2 z.1 z.2) n = ag2 at h hag2
    refine lv_iload_n C.1 C.2.1 dX9_goHours_2 rfl (lv_at hl 3 rfl) ?_
    refine lv_iload_n C.1 C.2.1 dX9_goHours_3 rfl (lv_at hl 2 rfl) ?_
    refine lv_icmp_ge (tgt := 19) C.1 C.2.1 dX9_goHours_4 (by decide) (fun c1 => ?_) (fun c1 => ?_)
    · have h := fz_ip c1 h
      cases h
      exact fz_retv C hr hlk hT dX9_goHours_19
    · have h := fz_iq c1 h
      refine lv_aload_n C.1 C.2.1 dX9_goHours_7 rfl (lv_at hl 0 rfl) ?_
      refine lv_iload_n C.1 C.2.1 dX9_goHours_8 rfl (lv_at hl 1 rfl) ?_
      obtain ⟨r2, M3, w4, h⟩ := fz_b2_s h
      refine fz_ci hT (fz_runV (np := 1) (rest := []) C hF hT (c_X9_goHour l G v1 M r2 M3 w4) fz_m0 (T := TX9) (N := 49) rfl cl_X9_215 rfl hl.1 rfl (Nat.le_of_ble_eq_true rfl) ⟨Nat.le_of_ble_eq_true rfl, Nat.le_of_ble_eq_true rfl, Nat.zero_le _, Nat.zero_le _⟩ dX9_goHours_9) (fun H locs hT => ?_)
      refine lv_pop C.1 C.2.1 dX9_goHours_12 rfl ?_
      refine lv_iinc (v := (v3 + 1)) (lv' := [(3, .int (v3 + 1)), (0, .ref (G.1 0)), (1, .int v1), (2, .int v2)]) C.1 C.2.1 dX9_goHours_13 hl (k := 3) rfl rfl (by decide) rfl (fun ls hl => ?_)
      refine lv_goto (tgt := 2) C.1 C.2.1 dX9_goHours_16 (by decide) ?_
      exact hag2 (v3 + 1) M3 _ _ _ hT (lv_sub hl [1, 2, 3, 0] rfl) h
set_option maxHeartbeats 4000000 in
set_option maxRecDepth 100000 in
theorem b_X9_goHours_2 {p : Program} {l : Launch} {e : Env} {s : State} {m : MethodId} {args : Array Value} {below : List Frame} {meth : Method} {c : Code} {G : fz_G}     {v1 : Int32} {v2 : Int32} {v3 : Int32} {M : fz_M} {H : Heap} {locs : List Loc} {ls : Array Slot} {M9 : fz_M} (C : CallFix p m c cX9_goHours 4 s args wsL_law RX9) (hr : meth.sig.returnType = none) (hlk : meth.locks = false) (hF : fz_F G fz_KM s)  (hT : fz_T G fz_shM fz_KM s M H locs) (hl : lv_has ls 4 [(0, .ref (G.1 0)), (1, .int v1), (2, .int v2), (3, .int v3)]) (h : f_X9_goHours_2 v1 v2 v3 M = some M9) : W p l e (fz_rm 2 51) s m args below meth c H locs 0 0 (MQ below (fz_Qv G fz_shM fz_KM M9) args s 0 0 (fz_Fr G fz_KM)) (F0 m 2 ls []) :=
  b_X9_goHours_2_l C hr hlk hF fz_fuel v3 M H locs ls hT hl h
set_option maxHeartbeats 4000000 in
set_option maxRecDepth 100000 in
theorem b_X9_goHours_0 {p : Program} {l : Launch} {e : Env} {s : State} {m : MethodId} {args : Array Value} {below : List Frame} {meth : Method} {c : Code} {G : fz_G}     {v1 : Int32} {v2 : Int32} {M : fz_M} {H : Heap} {locs : List Loc} {ls : Array Slot} {M9 : fz_M} (C : CallFix p m c cX9_goHours 4 s args wsL_law RX9) (hr : meth.sig.returnType = none) (hlk : meth.locks = false) (hF : fz_F G fz_KM s)  (hT : fz_T G fz_shM fz_KM s M H locs) (hl : lv_has ls 4 [(0, .ref (G.1 0)), (1, .int v1), (2, .int v2)]) (h : f_X9_goHours v1 v2 M = some M9) : W p l e (fz_rm 2 51) s m args below meth c H locs 0 0 (MQ below (fz_Qv G fz_shM fz_KM M9) args s 0 0 (fz_Fr G fz_KM)) (F0 m 0 ls []) := by
  refine lv_iconst (v := 0) C.1 C.2.1 dX9_goHours_0 (by decide) ?_
  refine lv_istore_n (lv' := [(3, .int 0), (0, .ref (G.1 0)), (1, .int v1), (2, .int v2)]) C.1 C.2.1 dX9_goHours_1 rfl hl (by decide) rfl (fun ls hl => ?_)
  exact b_X9_goHours_2 C hr hlk hF hT (lv_sub hl [1, 2, 3, 0] rfl) h
set_option maxRecDepth 100000 in
theorem c_X9_goHours (l : Launch) (G : fz_G)  (a0 : Int32) (a1 : Int32) (M : fz_M) (M9 : fz_M) (h : f_X9_goHours a0 a1 M = some M9) : fz_Me l yX9_goHours cX9_goHours 4 none 2 51 G fz_shM fz_KM [.ref (G.1 0), .int a0, .int a1] M (fz_Qv G fz_shM fz_KM M9) := by
  refine fz_body (by decide) (Nat.le_of_ble_eq_true rfl) ?_
  intro p e s m args below meth c H locs ls C hr hlk hF hT hl
  have C : CallFix p m c cX9_goHours 4 s args wsL_law RX9 := C
  have hl : lv_has ls 4 [(0, .ref (G.1 0)), (1, .int a0), (2, .int a1)] := hl
  exact b_X9_goHours_0 C hr hlk hF hT (lv_sub hl [0, 1, 2] rfl) h
set_option maxHeartbeats 4000000 in
set_option maxRecDepth 100000 in
theorem b_X9_layPage_69_l {p : Program} {l : Launch} {e : Env} {s : State} {m : MethodId} {args : Array Value} {below : List Frame} {meth : Method} {c : Code} {G : fz_G} {k0 : Nat} (hk0 : fz_isG k0)    {v2 : Int32}  {M9 : fz_M} (C : CallFix p m c cX9_layPage 4 s args wsL_law RX9) (hr : meth.sig.returnType = none) (hlk : meth.locks = false) (hF : fz_F G fz_KM s)  : ∀ (n : Nat) (v3 : Int32) (M : fz_M) (H : Heap) (locs : List Loc) (ls : Array Slot), fz_T G fz_shM fz_KM s M H locs → lv_has ls 4 [(0, .ref (G.1 0)), (1, .ref (G.1 k0)), (2, .int v2), (3, .int v3)] → fz_lp (fun ag z => f_X9_layPage_69_s k0 ag v2 z.1 z.2) n (v3, M) = some M9 → W p l e (fz_rm 0 0) s m args below meth c H locs 0 0 (MQ below (fz_Qv G fz_shM fz_KM M9) args s 0 0 (fz_Fr G fz_KM)) (F0 m 69 ls []) := by
  intro n
  induction n with
  | zero =>
    intro v3 M H locs ls hT hl h
    cases h
  | succ n ih =>
    intro v3 M H locs ls hT hl h
    have h : f_X9_layPage_69_s k0 (fz_lp (fun ag z => f_X9_layPage_69_s k0 ag v2 z.1 z.2) n) v2 v3 M = some M9 := h
    have hag69 := ih
    generalize fz_lp (fun ag z => f_X9_layPage_69_s k0 ag v2 z.1 z.2) n = ag69 at h hag69
    refine lv_iload_n C.1 C.2.1 dX9_layPage_69 rfl (lv_at hl 3 rfl) ?_
    refine lv_bipush (v := 48) C.1 C.2.1 dX9_layPage_70 (by decide) ?_
    refine lv_icmp_ge (tgt := 95) C.1 C.2.1 dX9_layPage_72 (by decide) (fun c1 => ?_) (fun c1 => ?_)
    · have h := fz_ip c1 h
      refine lv_aload_n C.1 C.2.1 dX9_layPage_95 rfl (lv_at hl 1 rfl) ?_
      refine lv_iload_n C.1 C.2.1 dX9_layPage_96 rfl (lv_at hl 2 rfl) ?_
      refine lv_bipush (v := 72) C.1 C.2.1 dX9_layPage_97 (by decide) ?_
      refine lv_iadd C.1 C.2.1 dX9_layPage_99 ?_
      refine lv_aload_n C.1 C.2.1 dX9_layPage_100 rfl (lv_at hl 0 rfl) ?_
      refine fz_geti C hF hT fz_m0 (j := 21) rfl fl_X9_191 dX9_layPage_101 ?_
      obtain ⟨g2, h⟩ := fz_gd_s h
      obtain ⟨M3, eM3, h⟩ := fz_bd_s h
      refine fz_ias C hF hT (fz_mp hk0) g2 dX9_layPage_104 (fun H locs hT => ?_)
      rw [← eM3] at hT
      cases h
      exact fz_retv C hr hlk hT dX9_layPage_105
    · have h := fz_iq c1 h
      refine lv_aload_n C.1 C.2.1 dX9_layPage_75 rfl (lv_at hl 1 rfl) ?_
      refine lv_iload_n C.1 C.2.1 dX9_layPage_76 rfl (lv_at hl 2 rfl) ?_
      refine lv_bipush (v := 24) C.1 C.2.1 dX9_layPage_77 (by decide) ?_
      refine lv_iadd C.1 C.2.1 dX9_layPage_79 ?_
      refine lv_iload_n C.1 C.2.1 dX9_layPage_80 rfl (lv_at hl 3 rfl) ?_
      refine lv_iadd C.1 C.2.1 dX9_layPage_81 ?_
      refine lv_aload_n C.1 C.2.1 dX9_layPage_82 rfl (lv_at hl 0 rfl) ?_
      refine fz_getr C hF hT fz_m0 (j := 18) rfl fl_X9_47 dX9_layPage_83 ?_
      refine lv_iload_n C.1 C.2.1 dX9_layPage_86 rfl (lv_at hl 3 rfl) ?_
      obtain ⟨g4, h⟩ := fz_gd_s h
      refine fz_ia C hF hT fz_m13 g4 dX9_layPage_87 ?_
      obtain ⟨g5, h⟩ := fz_gd_s h
      obtain ⟨M6, eM6, h⟩ := fz_bd_s h
      refine fz_ias C hF hT (fz_mp hk0) g5 dX9_layPage_88 (fun H locs hT => ?_)
      rw [← eM6] at hT
      refine lv_iinc (v := (v3 + 1)) (lv' := [(3, .int (v3 + 1)), (0, .ref (G.1 0)), (1, .ref (G.1 k0)), (2, .int v2)]) C.1 C.2.1 dX9_layPage_89 hl (k := 3) rfl rfl (by decide) rfl (fun ls hl => ?_)
      refine lv_goto (tgt := 69) C.1 C.2.1 dX9_layPage_92 (by decide) ?_
      exact hag69 (v3 + 1) M6 _ _ _ hT (lv_sub hl [1, 2, 3, 0] rfl) h
set_option maxHeartbeats 4000000 in
set_option maxRecDepth 100000 in
theorem b_X9_layPage_69 {p : Program} {l : Launch} {e : Env} {s : State} {m : MethodId} {args : Array Value} {below : List Frame} {meth : Method} {c : Code} {G : fz_G} {k0 : Nat} (hk0 : fz_isG k0)    {v2 : Int32} {v3 : Int32} {M : fz_M} {H : Heap} {locs : List Loc} {ls : Array Slot} {M9 : fz_M} (C : CallFix p m c cX9_layPage 4 s args wsL_law RX9) (hr : meth.sig.returnType = none) (hlk : meth.locks = false) (hF : fz_F G fz_KM s)  (hT : fz_T G fz_shM fz_KM s M H locs) (hl : lv_has ls 4 [(0, .ref (G.1 0)), (1, .ref (G.1 k0)), (2, .int v2), (3, .int v3)]) (h : f_X9_layPage_69 k0 v2 v3 M = some M9) : W p l e (fz_rm 0 0) s m args below meth c H locs 0 0 (MQ below (fz_Qv G fz_shM fz_KM M9) args s 0 0 (fz_Fr G fz_KM)) (F0 m 69 ls []) :=
  b_X9_layPage_69_l hk0 C hr hlk hF fz_fuel v3 M H locs ls hT hl h
set_option maxHeartbeats 4000000 in
set_option maxRecDepth 100000 in
theorem b_X9_layPage_2_l {p : Program} {l : Launch} {e : Env} {s : State} {m : MethodId} {args : Array Value} {below : List Frame} {meth : Method} {c : Code} {G : fz_G} {k0 : Nat} (hk0 : fz_isG k0)    {v2 : Int32}  {M9 : fz_M} (C : CallFix p m c cX9_layPage 4 s args wsL_law RX9) (hr : meth.sig.returnType = none) (hlk : meth.locks = false) (hF : fz_F G fz_KM s)  : ∀ (n : Nat) (v3 : Int32) (M : fz_M) (H : Heap) (locs : List Loc) (ls : Array Slot), fz_T G fz_shM fz_KM s M H locs → lv_has ls 4 [(0, .ref (G.1 0)), (1, .ref (G.1 k0)), (2, .int v2), (3, .int v3)] → fz_lp (fun ag z => f_X9_layPage_2_s k0 ag v2 z.1 z.2) n (v3, M) = some M9 → W p l e (fz_rm 0 0) s m args below meth c H locs 0 0 (MQ below (fz_Qv G fz_shM fz_KM M9) args s 0 0 (fz_Fr G fz_KM)) (F0 m 2 ls []) := by
  intro n
  induction n with
  | zero =>
    intro v3 M H locs ls hT hl h
    cases h
  | succ n ih =>
    intro v3 M H locs ls hT hl h
    have h : f_X9_layPage_2_s k0 (fz_lp (fun ag z => f_X9_layPage_2_s k0 ag v2 z.1 z.2) n) v2 v3 M = some M9 := h
    have hag2 := ih
    generalize fz_lp (fun ag z => f_X9_layPage_2_s k0 ag v2 z.1 z.2) n = ag2 at h hag2
    refine lv_iload_n C.1 C.2.1 dX9_layPage_2 rfl (lv_at hl 3 rfl) ?_
    refine lv_bipush (v := 6) C.1 C.2.1 dX9_layPage_3 (by decide) ?_
    refine lv_icmp_ge (tgt := 67) C.1 C.2.1 dX9_layPage_5 (by decide) (fun c1 => ?_) (fun c1 => ?_)
    · have h := fz_ip c1 h
      refine lv_iconst (v := 0) C.1 C.2.1 dX9_layPage_67 (by decide) ?_
      refine lv_istore_n (lv' := [(3, .int 0), (0, .ref (G.1 0)), (1, .ref (G.1 k0)), (2, .int v2)]) C.1 C.2.1 dX9_layPage_68 rfl hl (by decide) rfl (fun ls hl => ?_)
      exact b_X9_layPage_69 hk0 C hr hlk hF hT (lv_sub hl [1, 2, 3, 0] rfl) h
    · have h := fz_iq c1 h
      refine lv_aload_n C.1 C.2.1 dX9_layPage_8 rfl (lv_at hl 1 rfl) ?_
      refine lv_iload_n C.1 C.2.1 dX9_layPage_9 rfl (lv_at hl 2 rfl) ?_
      refine lv_iload_n C.1 C.2.1 dX9_layPage_10 rfl (lv_at hl 3 rfl) ?_
      refine lv_iadd C.1 C.2.1 dX9_layPage_11 ?_
      refine lv_aload_n C.1 C.2.1 dX9_layPage_12 rfl (lv_at hl 0 rfl) ?_
      refine fz_getr C hF hT fz_m0 (j := 16) rfl fl_X9_41 dX9_layPage_13 ?_
      refine lv_iload_n C.1 C.2.1 dX9_layPage_16 rfl (lv_at hl 3 rfl) ?_
      obtain ⟨g2, h⟩ := fz_gd_s h
      refine fz_ia C hF hT fz_m11 g2 dX9_layPage_17 ?_
      obtain ⟨g3, h⟩ := fz_gd_s h
      obtain ⟨M4, eM4, h⟩ := fz_bd_s h
      refine fz_ias C hF hT (fz_mp hk0) g3 dX9_layPage_18 (fun H locs hT => ?_)
      rw [← eM4] at hT
      refine lv_aload_n C.1 C.2.1 dX9_layPage_19 rfl (lv_at hl 1 rfl) ?_
      refine lv_iload_n C.1 C.2.1 dX9_layPage_20 rfl (lv_at hl 2 rfl) ?_
      refine lv_bipush (v := 6) C.1 C.2.1 dX9_layPage_21 (by decide) ?_
      refine lv_iadd C.1 C.2.1 dX9_layPage_23 ?_
      refine lv_iload_n C.1 C.2.1 dX9_layPage_24 rfl (lv_at hl 3 rfl) ?_
      refine lv_iadd C.1 C.2.1 dX9_layPage_25 ?_
      refine lv_aload_n C.1 C.2.1 dX9_layPage_26 rfl (lv_at hl 0 rfl) ?_
      refine fz_getr C hF hT fz_m0 (j := 17) rfl fl_X9_44 dX9_layPage_27 ?_
      refine lv_iload_n C.1 C.2.1 dX9_layPage_30 rfl (lv_at hl 3 rfl) ?_
      obtain ⟨g5, h⟩ := fz_gd_s h
      refine fz_ia C hF hT fz_m12 g5 dX9_layPage_31 ?_
      obtain ⟨g6, h⟩ := fz_gd_s h
      obtain ⟨M7, eM7, h⟩ := fz_bd_s h
      refine fz_ias C hF hT (fz_mp hk0) g6 dX9_layPage_32 (fun H locs hT => ?_)
      rw [← eM7] at hT
      refine lv_aload_n C.1 C.2.1 dX9_layPage_33 rfl (lv_at hl 1 rfl) ?_
      refine lv_iload_n C.1 C.2.1 dX9_layPage_34 rfl (lv_at hl 2 rfl) ?_
      refine lv_bipush (v := 12) C.1 C.2.1 dX9_layPage_35 (by decide) ?_
      refine lv_iadd C.1 C.2.1 dX9_layPage_37 ?_
      refine lv_iload_n C.1 C.2.1 dX9_layPage_38 rfl (lv_at hl 3 rfl) ?_
      refine lv_iadd C.1 C.2.1 dX9_layPage_39 ?_
      refine lv_aload_n C.1 C.2.1 dX9_layPage_40 rfl (lv_at hl 0 rfl) ?_
      refine fz_getr C hF hT fz_m0 (j := 19) rfl fl_X9_50 dX9_layPage_41 ?_
      refine lv_iload_n C.1 C.2.1 dX9_layPage_44 rfl (lv_at hl 3 rfl) ?_
      obtain ⟨g8, h⟩ := fz_gd_s h
      refine fz_ia C hF hT fz_m14 g8 dX9_layPage_45 ?_
      obtain ⟨g9, h⟩ := fz_gd_s h
      obtain ⟨M10, eM10, h⟩ := fz_bd_s h
      refine fz_ias C hF hT (fz_mp hk0) g9 dX9_layPage_46 (fun H locs hT => ?_)
      rw [← eM10] at hT
      refine lv_aload_n C.1 C.2.1 dX9_layPage_47 rfl (lv_at hl 1 rfl) ?_
      refine lv_iload_n C.1 C.2.1 dX9_layPage_48 rfl (lv_at hl 2 rfl) ?_
      refine lv_bipush (v := 18) C.1 C.2.1 dX9_layPage_49 (by decide) ?_
      refine lv_iadd C.1 C.2.1 dX9_layPage_51 ?_
      refine lv_iload_n C.1 C.2.1 dX9_layPage_52 rfl (lv_at hl 3 rfl) ?_
      refine lv_iadd C.1 C.2.1 dX9_layPage_53 ?_
      refine lv_aload_n C.1 C.2.1 dX9_layPage_54 rfl (lv_at hl 0 rfl) ?_
      refine fz_getr C hF hT fz_m0 (j := 20) rfl fl_X9_53 dX9_layPage_55 ?_
      refine lv_iload_n C.1 C.2.1 dX9_layPage_58 rfl (lv_at hl 3 rfl) ?_
      obtain ⟨g11, h⟩ := fz_gd_s h
      refine fz_ia C hF hT fz_m15 g11 dX9_layPage_59 ?_
      obtain ⟨g12, h⟩ := fz_gd_s h
      obtain ⟨M13, eM13, h⟩ := fz_bd_s h
      refine fz_ias C hF hT (fz_mp hk0) g12 dX9_layPage_60 (fun H locs hT => ?_)
      rw [← eM13] at hT
      refine lv_iinc (v := (v3 + 1)) (lv' := [(3, .int (v3 + 1)), (0, .ref (G.1 0)), (1, .ref (G.1 k0)), (2, .int v2)]) C.1 C.2.1 dX9_layPage_61 hl (k := 3) rfl rfl (by decide) rfl (fun ls hl => ?_)
      refine lv_goto (tgt := 2) C.1 C.2.1 dX9_layPage_64 (by decide) ?_
      exact hag2 (v3 + 1) M13 _ _ _ hT (lv_sub hl [1, 2, 3, 0] rfl) h
set_option maxHeartbeats 4000000 in
set_option maxRecDepth 100000 in
theorem b_X9_layPage_2 {p : Program} {l : Launch} {e : Env} {s : State} {m : MethodId} {args : Array Value} {below : List Frame} {meth : Method} {c : Code} {G : fz_G} {k0 : Nat} (hk0 : fz_isG k0)    {v2 : Int32} {v3 : Int32} {M : fz_M} {H : Heap} {locs : List Loc} {ls : Array Slot} {M9 : fz_M} (C : CallFix p m c cX9_layPage 4 s args wsL_law RX9) (hr : meth.sig.returnType = none) (hlk : meth.locks = false) (hF : fz_F G fz_KM s)  (hT : fz_T G fz_shM fz_KM s M H locs) (hl : lv_has ls 4 [(0, .ref (G.1 0)), (1, .ref (G.1 k0)), (2, .int v2), (3, .int v3)]) (h : f_X9_layPage_2 k0 v2 v3 M = some M9) : W p l e (fz_rm 0 0) s m args below meth c H locs 0 0 (MQ below (fz_Qv G fz_shM fz_KM M9) args s 0 0 (fz_Fr G fz_KM)) (F0 m 2 ls []) :=
  b_X9_layPage_2_l hk0 C hr hlk hF fz_fuel v3 M H locs ls hT hl h
set_option maxHeartbeats 4000000 in
set_option maxRecDepth 100000 in
theorem b_X9_layPage_0 {p : Program} {l : Launch} {e : Env} {s : State} {m : MethodId} {args : Array Value} {below : List Frame} {meth : Method} {c : Code} {G : fz_G} {k0 : Nat} (hk0 : fz_isG k0)    {v2 : Int32} {M : fz_M} {H : Heap} {locs : List Loc} {ls : Array Slot} {M9 : fz_M} (C : CallFix p m c cX9_layPage 4 s args wsL_law RX9) (hr : meth.sig.returnType = none) (hlk : meth.locks = false) (hF : fz_F G fz_KM s)  (hT : fz_T G fz_shM fz_KM s M H locs) (hl : lv_has ls 4 [(0, .ref (G.1 0)), (1, .ref (G.1 k0)), (2, .int v2)]) (h : f_X9_layPage k0 v2 M = some M9) : W p l e (fz_rm 0 0) s m args below meth c H locs 0 0 (MQ below (fz_Qv G fz_shM fz_KM M9) args s 0 0 (fz_Fr G fz_KM)) (F0 m 0 ls []) := by
  refine lv_iconst (v := 0) C.1 C.2.1 dX9_layPage_0 (by decide) ?_
  refine lv_istore_n (lv' := [(3, .int 0), (0, .ref (G.1 0)), (1, .ref (G.1 k0)), (2, .int v2)]) C.1 C.2.1 dX9_layPage_1 rfl hl (by decide) rfl (fun ls hl => ?_)
  exact b_X9_layPage_2 hk0 C hr hlk hF hT (lv_sub hl [1, 2, 3, 0] rfl) h
set_option maxRecDepth 100000 in
theorem c_X9_layPage (l : Launch) (G : fz_G) (k0 : Nat) (hk0 : fz_isG k0) (a1 : Int32) (M : fz_M) (M9 : fz_M) (h : f_X9_layPage k0 a1 M = some M9) : fz_Me l yX9_layPage cX9_layPage 4 none 0 0 G fz_shM fz_KM [.ref (G.1 0), .ref (G.1 k0), .int a1] M (fz_Qv G fz_shM fz_KM M9) := by
  refine fz_body (by decide) (Nat.le_of_ble_eq_true rfl) ?_
  intro p e s m args below meth c H locs ls C hr hlk hF hT hl
  have C : CallFix p m c cX9_layPage 4 s args wsL_law RX9 := C
  have hl : lv_has ls 4 [(0, .ref (G.1 0)), (1, .ref (G.1 k0)), (2, .int a1)] := hl
  exact b_X9_layPage_0 hk0 C hr hlk hF hT (lv_sub hl [0, 1, 2] rfl) h
