theorem fz_j7 {j : Nat} (h : j < 7) : j = 0 ∨ j = 1 ∨ j = 2 ∨ j = 3 ∨ j = 4 ∨ j = 5 ∨ j = 6 := by omega
theorem ff_X0_11 : fz_ff RX0 11 0 0 (.array (.object "FurnitureByFlood$Stand")) := ⟨RX0, TX0, 3, tyX0, rfl, inlX0, by decide, (fz_q3 _ (List.mem_of_getElem? (i := 15) rfl)), tyX0_ok, nmX0, rfl, rfl, by decide +kernel⟩
/-! THE STANDS' BLOCKS, Acts() and FurnitureByFlood() -/
def fz_sB (G : fz_G) (a : Nat → Nat) : va_W := fz_bk G fz_shC fz_0C 40 13 a
def fz_bl (G : fz_G) (A : Nat → Nat → Nat) : Nat → va_W
  | 0 => []
  | j + 1 => fz_sB G (A j) ++ fz_bl G A j
theorem fz_r13 {i : Nat} (h : i < 13) : i = 0 ∨ i = 1 ∨ i = 2 ∨ i = 3 ∨ i = 4 ∨ i = 5 ∨ i = 6 ∨ i = 7 ∨ i = 8 ∨ i = 9 ∨ i = 10 ∨ i = 11 ∨ i = 12 := by omega
/-- a stand's block, by the addresses of its thirteen cells, wherever its cells lie -/
theorem fz_sB_at {G : fz_G} {a ad : Nat → Nat} {k : Nat} (hk : fz_isS k) (h : ∀ t, t < 13 → ad (k + t) = a t) : fz_sB G a = (List.range 13).map (fun i => (ad (k + i), fz_en (ad, G.2) fz_0C (k + i) (fz_shC (k + i)))) := by
  unfold fz_sB fz_bk
  apply List.map_congr_left
  intro i hi
  have hi := List.mem_range.mp hi
  rw [h i hi]
  congr 1
  rcases fz_r13 hi with rfl | rfl | rfl | rfl | rfl | rfl | rfl | rfl | rfl | rfl | rfl | rfl | rfl
  · rw [show fz_shC (k + 0) = _ from (fz_st hk).2]
    show (Sum.inr (6, [Value.int 0, .ref (a 1), .ref (a 2), .ref (a 3), .ref (a 4), .ref (a 5), .ref (a 12)]) : va_E) = Sum.inr (6, [Value.int 0, .ref (ad (k + 1)), .ref (ad (k + 2)), .ref (ad (k + 3)), .ref (ad (k + 4)), .ref (ad (k + 5)), .ref (ad (k + 12))])
    rw [h 1 (by decide), h 2 (by decide), h 3 (by decide), h 4 (by decide), h 5 (by decide), h 12 (by decide)]
  · rw [(fz_st1 hk).2]; rfl
  · rw [(fz_st2 hk).2]; rfl
  · rw [(fz_st3 hk).2]; rfl
  · rw [(fz_st4 hk).2]; rfl
  · rw [(fz_st5 hk).2]
    show (Sum.inl (G.2.2 4, 6, Sum.inr (Sum.inr (Sum.inr (Sum.inr (fun i => if i < 6 then some (a (46 + 1 * i - 40)) else none))))) : va_E) = Sum.inl (G.2.2 4, 6, Sum.inr (Sum.inr (Sum.inr (Sum.inr (fun i => if i < 6 then some (ad (k + 6 + 1 * i)) else none)))))
    have hf : (fun i => if i < 6 then some (a (46 + 1 * i - 40)) else none) = (fun i => if i < 6 then some (ad (k + 6 + 1 * i)) else none) := by
      funext i
      by_cases h6 : i < 6
      · rw [if_pos h6, if_pos h6, show k + 6 + 1 * i = k + (6 + i) from by omega, h (6 + i) (by omega), show 46 + 1 * i - 40 = 6 + i from by omega]
      · rw [if_neg h6, if_neg h6]
    rw [hf]
  · have e := (fz_str hk (i := 0) rfl).2; rw [show k + 6 + 1 * (0 : Int32).toNatClampNeg = k + 6 from rfl] at e; rw [e]; rfl
  · have e := (fz_str hk (i := 1) rfl).2; rw [show k + 6 + 1 * (1 : Int32).toNatClampNeg = k + 7 from rfl] at e; rw [e]; rfl
  · have e := (fz_str hk (i := 2) rfl).2; rw [show k + 6 + 1 * (2 : Int32).toNatClampNeg = k + 8 from rfl] at e; rw [e]; rfl
  · have e := (fz_str hk (i := 3) rfl).2; rw [show k + 6 + 1 * (3 : Int32).toNatClampNeg = k + 9 from rfl] at e; rw [e]; rfl
  · have e := (fz_str hk (i := 4) rfl).2; rw [show k + 6 + 1 * (4 : Int32).toNatClampNeg = k + 10 from rfl] at e; rw [e]; rfl
  · have e := (fz_str hk (i := 5) rfl).2; rw [show k + 6 + 1 * (5 : Int32).toNatClampNeg = k + 11 from rfl] at e; rw [e]; rfl
  · rw [(fz_st12 hk).2]; rfl
theorem fz_sB_congr {G : fz_G} {a a' : Nat → Nat} (h : ∀ t, t < 13 → a t = a' t) : fz_sB G a = fz_sB G a' := by
  have e1 : fz_sB G a = _ := fz_sB_at (ad := fun c => a (c - 40)) fz_now (fun t _ => by show a (40 + t - 40) = a t; rw [Nat.add_sub_cancel_left])
  have e2 : fz_sB G a' = _ := fz_sB_at (ad := fun c => a (c - 40)) fz_now (fun t ht => by show a (40 + t - 40) = a' t; rw [Nat.add_sub_cancel_left]; exact h t ht)
  rw [e1, e2]
theorem fz_bl_congr {G : fz_G} {A A' : Nat → Nat → Nat} : ∀ {j : Nat}, (∀ i, i < j → ∀ t, t < 13 → A i t = A' i t) → fz_bl G A j = fz_bl G A' j
  | 0, _ => rfl
  | j + 1, h => by
    show fz_sB G (A j) ++ fz_bl G A j = fz_sB G (A' j) ++ fz_bl G A' j
    rw [fz_sB_congr (h j (Nat.lt_succ_self j)), fz_bl_congr fun i hi => h i (Nat.lt_succ_of_lt hi)]
def fz_bA (G : fz_G) (a : Nat → Nat) : va_W := (a 1, .inl (G.2.2 3, 12, .inr (.inr (.inr (.inr (fun i => if i < 12 then some (a (2 + 13 * i)) else none)))))) :: (a 0, .inr (0, [.ref (a 1), .int 0, .int 0])) :: fz_bl G (fun i t => a (2 + 13 * i + t)) 12
set_option maxHeartbeats 4000000 in
set_option maxRecDepth 100000 in
theorem k_X0_loop {p : Program} {l : Launch} {e : Env} {s : State} {m : MethodId} {args : Array Value} {below : List Frame} {meth : Method} {c : Code} {G : fz_G} {Z : Nat → Prop} {h0 q : Nat} (C : CallFix p m c cX0_init 2 s args wsL_law RX0) (hr : meth.sig.returnType = none) (hlk : meth.locks = false) (hCP : fz_CP G s) (hA : ∀ q, s.heap.size ≤ q → Z q) : ∀ (n j : Nat) (A : Nat → Nat → Nat) (f : Nat → Option Nat) (H : Heap) (locs : List Loc) (ls : Array Slot), j + n = 12 → (∀ i, i < j → f i = some (A i 0)) → fz_N G.2.1 Z s ((q, .inl (G.2.2 3, 12, .inr (.inr (.inr (.inr f))))) :: (h0, .inr (0, [.ref q, .int 0, .int 0])) :: fz_bl G A j) H locs → lv_has ls 2 [(0, .ref h0), (1, .int (nI j))] →
    W p l e (fz_rmc 2 157 1152 32) s m args below meth c H locs (1 + 13 * j) (12 + 95 * j) (MQ below (va_Qv (fun a : Nat → Nat => a 0 = h0) (fun a t => va_P G.2.1 vwCl (fz_bA G a) t.heap ∧ va_D Z (fz_bA G a)) Z) args s 157 1152 Z) (F0 m 15 ls []) := by
  intro n
  induction n with
  | zero =>
    intro j A f H locs ls hj hf hN hl
    have hj : j = 12 := by omega
    subst hj
    refine lv_iload_n C.1 C.2.1 dX0_init_15 rfl (lv_at hl 1 rfl) ?_
    refine lv_bipush (v := 12) C.1 C.2.1 dX0_init_16 (by decide) ?_
    refine lv_icmp_ge (tgt := 40) C.1 C.2.1 dX0_init_18 (by decide) (fun _ => ?_) (fun q => absurd (by decide) q)
    have hN1 := fz_Nq (w1 := []) (fun i => if i < 12 then some (A i 0) else none) hN (fun i hi => by rw [if_pos hi]; exact hf i hi)
    generalize ha : (fun c => if c = 0 then h0 else if c = 1 then q else A ((c - 2) / 13) ((c - 2) % 13) : Nat → Nat) = a
    have e0 : a 0 = h0 := by rw [← ha]; rfl
    have e1 : a 1 = q := by rw [← ha]; rfl
    have e2 : ∀ i t, t < 13 → a (2 + 13 * i + t) = A i t := by
      intro i t ht
      rw [← ha]
      show (if 2 + 13 * i + t = 0 then h0 else if 2 + 13 * i + t = 1 then q else A ((2 + 13 * i + t - 2) / 13) ((2 + 13 * i + t - 2) % 13)) = _
      rw [if_neg (by omega), if_neg (by omega), show (2 + 13 * i + t - 2) / 13 = i from by omega, show (2 + 13 * i + t - 2) % 13 = t from by omega]
    refine fz_cret (B := fz_bA G) C hr hlk a e0 ?_ dX0_init_40
    unfold fz_bA
    rw [e0, e1, fz_bl_congr (A' := A) (fun i _ t ht => e2 i t ht), show (fun i => if i < 12 then some (a (2 + 13 * i)) else none) = (fun i => if i < 12 then some (A i 0) else none) from funext fun i => by rw [show a (2 + 13 * i) = A i 0 from e2 i 0 (by decide)]]
    exact hN1
  | succ n ih =>
    intro j A f H locs ls hj hf hN hl
    have hlt : ¬ (12 : Int32) ≤ nI j := show ¬ nI 12 ≤ nI j from nI_ge (by omega) (by decide)
    refine lv_iload_n C.1 C.2.1 dX0_init_15 rfl (lv_at hl 1 rfl) ?_
    refine lv_bipush (v := 12) C.1 C.2.1 dX0_init_16 (by decide) ?_
    refine lv_icmp_ge (tgt := 40) C.1 C.2.1 dX0_init_18 (by decide) (fun q => absurd q hlt) (fun _ => ?_)
    refine lv_aload_n C.1 C.2.1 dX0_init_21 rfl (lv_at hl 0 rfl) ?_
    refine fz_gN (x := h0) (ci := 0) (j := 0) 1 C hCP.1 hN rfl fl_X0_11 rfl dX0_init_22 ?_
    refine lv_iload_n C.1 C.2.1 dX0_init_25 rfl (lv_at hl 1 rfl) ?_
    refine fz_new (ci := 6) (fs := [.int 0, .null, .null, .null, .null, .null, .null]) tyX6 C hCP.1 hA hN rfl inlX6 tyX6_ok (fz_q3 _ (List.mem_of_getElem? (i := 14) rfl)) (fz_q2 _ (List.mem_of_getElem? (i := 14) rfl)) (fz_q2 _ (List.mem_of_getElem? (i := 15) rfl)) (fun j hj => by rcases fz_j7 hj with rfl | rfl | rfl | rfl | rfl | rfl | rfl <;> rfl) (by show 1 + 13 * j + 1 ≤ 157; omega) (by show 12 + 95 * j + 7 ≤ 1152; omega) dX0_init_26 (fun v H hN => ?_)
    refine lv_dup C.1 C.2.1 dX0_init_29 rfl ?_
    refine fz_ctor (rest := [.ref v, .int (nI j), .ref q]) C hCP hA hN (k_X6 l G) (by decide +kernel) (fz_q3 _ (List.mem_of_getElem? (i := 16) rfl)) (fz_q2 _ (List.mem_of_getElem? (i := 15) rfl)) (fz_q3 _ (List.mem_of_getElem? (i := 17) rfl)) rfl (by decide) hl.1 (Nat.le_of_ble_eq_true rfl) ⟨Nat.le_of_ble_eq_true rfl, Nat.le_of_ble_eq_true rfl⟩ ⟨by show 1 + 13 * j + 1 + 12 ≤ 157; omega, by show 12 + 95 * j + 7 + 88 ≤ 1152; omega⟩ dX0_init_30 (fun a H locs ha hN2 => ?_)
    subst ha
    have hN : fz_N G.2.1 Z s (fz_sB G a ++ (q, .inl (G.2.2 3, 12, .inr (.inr (.inr (.inr f))))) :: (h0, .inr (0, [.ref q, .int 0, .int 0])) :: fz_bl G A j) H locs := hN2
    have hN := hN.perm (List.perm_middle.trans ((List.perm_middle (l₁ := fz_sB G a)).cons _))
    refine va_astq (ws := (q, .inl (G.2.2 3, 12, .inr (.inr (.inr (.inr f))))) :: (h0, .inr (0, [.ref q, .int 0, .int 0])) :: (fz_sB G a ++ fz_bl G A j)) (r := (RX6, TX6, 7)) C.1 C.2.1 hCP.1 hN.1 hN.2.1 hN.2.2 0 3 2 6 rfl rfl rfl rfl (vp_in_nI (by omega) (by decide)) dX0_init_33 (fun H locs hP hD hS => ?_)
    rw [nI_clamp (by omega)] at hP hD
    have hN : fz_N G.2.1 Z s ((q, .inl (G.2.2 3, 12, .inr (.inr (.inr (.inr (va_up f j (some (a 0)))))))) :: (h0, .inr (0, [.ref q, .int 0, .int 0])) :: (fz_sB G a ++ fz_bl G A j)) H locs := ⟨hP, hD, hS⟩
    refine lv_iinc (v := nI (j + 1)) (lv' := [(1, .int (nI (j + 1))), (0, .ref h0)]) C.1 C.2.1 dX0_init_34 hl (k := 1) rfl (nI_add j 1) (by decide) rfl (fun ls hl => ?_)
    refine lv_goto (tgt := 15) C.1 C.2.1 dX0_init_37 (by decide) ?_
    refine W.cs (show 1 + 13 * j + 1 + 12 = 1 + 13 * (j + 1) by omega) (show 12 + 95 * j + 7 + 88 = 12 + 95 * (j + 1) by omega) ?_
    refine ih (j + 1) (fun i => if i = j then a else A i) (va_up f j (some (a 0))) H locs ls (by omega) (fun i hi => ?_) ?_ (lv_sub hl [1, 0] rfl)
    · show va_up f j (some (a 0)) i = some ((if i = j then a else A i) 0)
      unfold va_up
      by_cases hij : i = j
      · rw [if_pos hij, if_pos hij]
      · rw [if_neg hij, if_neg hij]; exact hf i (by omega)
    · have e : fz_bl G (fun i => if i = j then a else A i) (j + 1) = fz_sB G a ++ fz_bl G A j := by
        show fz_sB G (if j = j then a else A j) ++ fz_bl G (fun i => if i = j then a else A i) j = _
        rw [if_pos rfl, fz_bl_congr (A' := A) (fun i hi t _ => by show (if i = j then a else A i) t = A i t; rw [if_neg (by omega)])]
      rw [e]
      exact hN
set_option maxHeartbeats 4000000 in
set_option maxRecDepth 100000 in
theorem k_X0 (l : Launch) (G : fz_G) : fz_Ct l yX0_init cX0_init 2 2 32 157 1152 G 0 [.null, .int 0, .int 0] (fz_bA G) := by
  refine fz_cbody (by decide) rfl (Nat.le_of_ble_eq_true rfl) ?_
  intro p e s m args below meth c H locs ls h0 A C hr hlk hin hCP hA hN hl
  have C : CallFix p m c cX0_init 2 s args wsL_law RX0 := C
  refine lv_aload_n C.1 C.2.1 dX0_init_0 rfl (lv_at hl 0 rfl) ?_
  refine fz_oinit C (fz_q3 _ (List.mem_of_getElem? (i := 13) rfl)) hl.1 dX0_init_1 (Nat.le_of_ble_eq_true rfl) (Nat.le_of_ble_eq_true rfl) ?_
  refine lv_aload_n C.1 C.2.1 dX0_init_4 rfl (lv_at hl 0 rfl) ?_
  refine lv_bipush (v := 12) C.1 C.2.1 dX0_init_5 (by decide) ?_
  refine fz_nref (N' := 12) C hCP hA hN (fz_q3 _ (List.mem_of_getElem? (i := 14) rfl)) (by decide) (by decide) (by decide) (Nat.le_of_ble_eq_true rfl) (Nat.le_of_ble_eq_true rfl) dX0_init_7 (fun q H hN => ?_)
  refine fz_pF (x := h0) (ci := 0) (v := .ref q) 1 C hin hCP.1 hN rfl ff_X0_11 rfl rfl (Nat.le_of_ble_eq_true rfl) dX0_init_10 (fun H locs hN => ?_)
  have hN : fz_N G.2.1 A s ((q, .inl (G.2.2 3, 12, .inr (.inr (.inr (.inr (fun _ => none)))))) :: (h0, .inr (0, [.ref q, .int 0, .int 0])) :: fz_bl G (fun _ _ => 0) 0) H locs := hN
  refine lv_iconst (v := 0) C.1 C.2.1 dX0_init_13 (by decide) ?_
  refine lv_istore_n (lv' := [(1, .int 0), (0, .ref h0)]) C.1 C.2.1 dX0_init_14 rfl hl (by decide) rfl (fun ls hl => ?_)
  exact k_X0_loop C hr hlk hCP hA 12 0 (fun _ _ => 0) _ H locs ls rfl (fun i hi => absurd hi (Nat.not_lt_zero i)) hN (lv_sub hl [1, 0] rfl)
