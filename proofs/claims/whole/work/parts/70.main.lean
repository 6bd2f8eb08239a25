theorem fz_n2 {j : Nat} (h : j < 2) : j = 0 ∨ j = 1 := by omega
theorem fz_n3 {j : Nat} (h : j < 3) : j = 0 ∨ j = 1 ∨ j = 2 := by omega
theorem fz_n6 {j : Nat} (h : j < 6) : j = 0 ∨ j = 1 ∨ j = 2 ∨ j = 3 ∨ j = 4 ∨ j = 5 := by omega
theorem fz_n7 {j : Nat} (h : j < 7) : j = 0 ∨ j = 1 ∨ j = 2 ∨ j = 3 ∨ j = 4 ∨ j = 5 ∨ j = 6 := by omega
theorem fz_n12 {j : Nat} (h : j < 12) : j = 0 ∨ j = 1 ∨ j = 2 ∨ j = 3 ∨ j = 4 ∨ j = 5 ∨ j = 6 ∨ j = 7 ∨ j = 8 ∨ j = 9 ∨ j = 10 ∨ j = 11 := by omega
theorem ff_X8_10 : fz_ff RX8 10 8 0 (.object "FurnitureByFlood$Letters") := ⟨RX8, TX8, 11, tyX8, rfl, inlX8, by decide, (fz_q1 _ (List.mem_of_getElem? (i := 16) rfl)), tyX8_ok, nmX8, rfl, rfl, by decide +kernel⟩
theorem ff_X8_19 : fz_ff RX8 19 8 1 (.object "FurnitureByFlood$Reader") := ⟨RX8, TX8, 11, tyX8, rfl, inlX8, by decide, (fz_q1 _ (List.mem_of_getElem? (i := 20) rfl)), tyX8_ok, nmX8, rfl, rfl, by decide +kernel⟩
theorem ff_X8_26 : fz_ff RX8 26 8 2 (.object "FurnitureByFlood$Acts") := ⟨RX8, TX8, 11, tyX8, rfl, inlX8, by decide, (fz_q2 _ (List.mem_of_getElem? (i := 0) rfl)), tyX8_ok, nmX8, rfl, rfl, by decide +kernel⟩
theorem ff_X8_33 : fz_ff RX8 33 8 3 (.object "FurnitureByFlood$Marks") := ⟨RX8, TX8, 11, tyX8, rfl, inlX8, by decide, (fz_q2 _ (List.mem_of_getElem? (i := 4) rfl)), tyX8_ok, nmX8, rfl, rfl, by decide +kernel⟩
theorem ff_X8_40 : fz_ff RX8 40 8 4 (.object "FurnitureByFlood$Trial") := ⟨RX8, TX8, 11, tyX8, rfl, inlX8, by decide, (fz_q2 _ (List.mem_of_getElem? (i := 8) rfl)), tyX8_ok, nmX8, rfl, rfl, by decide +kernel⟩
theorem ff_X8_47 : fz_ff RX8 47 8 5 (.object "FurnitureByFlood$Spread") := ⟨RX8, TX8, 11, tyX8, rfl, inlX8, by decide, (fz_q2 _ (List.mem_of_getElem? (i := 12) rfl)), tyX8_ok, nmX8, rfl, rfl, by decide +kernel⟩
theorem ff_X8_54 : fz_ff RX8 54 8 6 (.object "FurnitureByFlood$Stand") := ⟨RX8, TX8, 11, tyX8, rfl, inlX8, by decide, (fz_q2 _ (List.mem_of_getElem? (i := 16) rfl)), tyX8_ok, nmX8, rfl, rfl, by decide +kernel⟩
theorem ff_X8_58 : fz_ff RX8 58 8 7 (.array (.object "FurnitureByFlood$Stand")) := ⟨RX8, TX8, 11, tyX8, rfl, inlX8, by decide, (fz_q2 _ (List.mem_of_getElem? (i := 17) rfl)), tyX8_ok, nmX8, rfl, rfl, by decide +kernel⟩
theorem ff_X8_62 : fz_ff RX8 62 8 8 (.array .boolean) := ⟨RX8, TX8, 11, tyX8, rfl, inlX8, by decide, (fz_q2 _ (List.mem_of_getElem? (i := 19) rfl)), tyX8_ok, nmX8, rfl, rfl, by decide +kernel⟩
theorem fg_X8_69 : fz_fw RX8 69 8 9 (.object "FurnitureByFlood$Plan") := ⟨RX8, TX8, 11, tyX8, rfl, inlX8, by decide, (fz_q2 _ (List.mem_of_getElem? (i := 23) rfl)), tyX8_ok, nmX8, rfl, by decide +kernel⟩
theorem fg_X8_73 : fz_fw RX8 73 8 10 (.object "FurnitureByFlood$Plan") := ⟨RX8, TX8, 11, tyX8, rfl, inlX8, by decide, (fz_q3 _ (List.mem_of_getElem? (i := 0) rfl)), tyX8_ok, nmX8, rfl, by decide +kernel⟩
def fz_ix : Nat → List Nat
  | 0 => []
  | j + 1 => (List.range 13).map (fun t => 79 + 13 * j + t) ++ fz_ix j
theorem fz_bl_at {G : fz_G} {ad : Nat → Nat} {A : Nat → Nat → Nat} (h : ∀ i t, t < 13 → ad (79 + 13 * i + t) = A i t) : ∀ j, j ≤ 12 → fz_bl G A j = (fz_ix j).map (fun c => (ad c, fz_en (ad, G.2) fz_0C c (fz_shC c)))
  | 0, _ => rfl
  | j + 1, hj => by
    show fz_sB G (A j) ++ fz_bl G A j = ((List.range 13).map (fun t => 79 + 13 * j + t) ++ fz_ix j).map _
    rw [List.map_append, List.map_map, fz_bl_at h j (by omega), fz_sB_at (k := 79 + 13 * j) ⟨j + 3, by omega, by omega⟩ (h j)]
    rfl
set_option maxHeartbeats 4000000 in
set_option maxRecDepth 100000 in
theorem fz_main_perm {G : fz_G} {ad : Nat → Nat} {h0 qk qz : Nat} {a1 a2 a3 a4 a5 a6 a7 a8 a9 a10 a11 : Nat → Nat} (e0 : ad 0 = h0) (e1 : ad 1 = a1 0) (e2 : ad 2 = a1 1) (e3 : ad 3 = a2 0) (e4 : ad 4 = a2 1) (e5 : ad 5 = a3 0) (e6 : ad 6 = a3 1) (e7 : ad 7 = a4 0) (e8 : ad 8 = a4 1) (e9 : ad 9 = a4 2) (e10 : ad 10 = a5 0) (e11 : ad 11 = a5 1) (e12 : ad 12 = a5 2) (e13 : ad 13 = a5 3) (e14 : ad 14 = a5 4) (e15 : ad 15 = a6 0) (e16 : ad 16 = a6 1) (e17 : ad 17 = a6 2) (e18 : ad 18 = qk) (e19 : ad 19 = qz) (e20 : ad 20 = a8 0) (e21 : ad 21 = a8 1) (e22 : ad 22 = a8 2) (e23 : ad 23 = a8 3) (e24 : ad 24 = a8 4) (e25 : ad 25 = a8 5) (e26 : ad 26 = a8 6) (e27 : ad 27 = a8 7) (e28 : ad 28 = a8 8) (e29 : ad 29 = a8 9) (e30 : ad 30 = a9 0) (e31 : ad 31 = a9 1) (e32 : ad 32 = a9 2) (e33 : ad 33 = a9 3) (e34 : ad 34 = a9 4) (e35 : ad 35 = a9 5) (e36 : ad 36 = a9 6) (e37 : ad 37 = a9 7) (e38 : ad 38 = a9 8) (e39 : ad 39 = a9 9) (s40 : ∀ t, t < 13 → ad (40 + t) = a7 t) (s53 : ∀ t, t < 13 → ad (53 + t) = a10 t) (s66 : ∀ t, t < 13 → ad (66 + t) = a11 t) (sA : ∀ i t, t < 13 → ad (79 + 13 * i + t) = a3 (2 + 13 * i + t)) :
    List.Perm ([(h0, .inr (8, [.ref (a1 0), .ref (a2 0), .ref (a3 0), .ref (a4 0), .ref (a5 0), .ref (a6 0), .ref (a7 0), .ref qk, .ref qz, .ref (a8 0), .ref (a9 0)]))] ++ (qk, .inl (G.2.2 3, 2, .inr (.inr (.inr (.inr (fun i => if i < 2 then some (ad (53 + 13 * i)) else none)))))) :: (fz_sB G a11 ++ (fz_sB G a10 ++ (fz_bk G fz_shC fz_0C 20 10 a9 ++ (fz_bk G fz_shC fz_0C 20 10 a8 ++ ((qz, .inl (G.2.2 1, 2, .inl (fun _ => 0))) :: (fz_sB G a7 ++ (fz_bk G fz_shC fz_0C 15 3 a6 ++ (fz_bk G fz_shC fz_0C 10 5 a5 ++ (fz_bk G fz_shC fz_0C 7 3 a4 ++ (fz_bA G a3 ++ (fz_bk G fz_shC fz_0C 3 2 a2 ++ (fz_bk G fz_shC fz_0C 1 2 a1 ++ []))))))))))))) (fz_wl (ad, G.2) fz_shC fz_KC fz_0C) := by
  have hix : List.Perm ([0, 18] ++ ((List.range 13).map (fun t => 66 + t) ++ ((List.range 13).map (fun t => 53 + t) ++ ((List.range 10).map (fun t => 30 + t) ++ ((List.range 10).map (fun t => 20 + t) ++ ([19] ++ ((List.range 13).map (fun t => 40 + t) ++ ([15, 16, 17] ++ ([10, 11, 12, 13, 14] ++ ([7, 8, 9] ++ (6 :: 5 :: fz_ix 12 ++ ([3, 4] ++ [1, 2])))))))))))) (List.range fz_KC) := by decide +kernel
  have hp := hix.map (fun c => (ad c, fz_en (ad, G.2) fz_0C c (fz_shC c)))
  refine List.Perm.trans (List.Perm.of_eq ?_) hp
  simp only [List.map_append]
  rw [fz_sB_at (ad := ad) (k := 40) fz_now s40, fz_sB_at (ad := ad) (k := 53) ⟨1, by decide, rfl⟩ s53, fz_sB_at (ad := ad) (k := 66) ⟨2, by decide, rfl⟩ s66]
  unfold fz_bA
  rw [fz_bl_at (ad := ad) (A := fun i t => a3 (2 + 13 * i + t)) sA 12 (by decide), show (fun i => if i < 12 then some (a3 (2 + 13 * i)) else none) = (fun i => if i < 12 then some (ad (79 + 13 * i)) else none) from funext fun i => by rw [show ad (79 + 13 * i) = a3 (2 + 13 * i) from sA i 0 (by decide)]]
  rw [← e0, ← e18, ← e19, show a7 0 = ad 40 from (s40 0 (by decide)).symm]
  have b1 : fz_bk G fz_shC fz_0C 1 2 a1 = [1, 2].map (fun c => (ad c, fz_en (ad, G.2) fz_0C c (fz_shC c))) := by
    show [(a1 0, (Sum.inr (1, [Value.ref (a1 1), .int 0]) : va_E)), (a1 1, .inl (G.2.2 0, 96, .inl (fun _ => 0)))] = _
    rw [← e1, ← e2]; rfl
  have b3 : fz_bk G fz_shC fz_0C 3 2 a2 = [3, 4].map (fun c => (ad c, fz_en (ad, G.2) fz_0C c (fz_shC c))) := by
    show [(a2 0, (Sum.inr (4, [Value.ref (a2 1), .int 0]) : va_E)), (a2 1, .inl (G.2.2 0, 5, .inl (fun _ => 0)))] = _
    rw [← e3, ← e4]; rfl
  have b7 : fz_bk G fz_shC fz_0C 7 3 a4 = [7, 8, 9].map (fun c => (ad c, fz_en (ad, G.2) fz_0C c (fz_shC c))) := by
    show [(a4 0, (Sum.inr (2, [Value.ref (a4 1), .ref (a4 2), .int 0]) : va_E)), (a4 1, .inl (G.2.2 0, 8, .inl (fun _ => 0))), (a4 2, .inl (G.2.2 0, 8, .inl (fun _ => 0)))] = _
    rw [← e7, ← e8, ← e9]; rfl
  have b10 : fz_bk G fz_shC fz_0C 10 5 a5 = [10, 11, 12, 13, 14].map (fun c => (ad c, fz_en (ad, G.2) fz_0C c (fz_shC c))) := by
    show [(a5 0, (Sum.inr (7, [Value.ref (a5 1), .ref (a5 2), .ref (a5 3), .ref (a5 4), .int 0, .int 0]) : va_E)), (a5 1, .inl (G.2.2 0, 6, .inl (fun _ => 0))), (a5 2, .inl (G.2.2 0, 6, .inl (fun _ => 0))), (a5 3, .inl (G.2.2 0, 6, .inl (fun _ => 0))), (a5 4, .inl (G.2.2 0, 6, .inl (fun _ => 0)))] = _
    rw [← e10, ← e11, ← e12, ← e13, ← e14]; rfl
  have b15 : fz_bk G fz_shC fz_0C 15 3 a6 = [15, 16, 17].map (fun c => (ad c, fz_en (ad, G.2) fz_0C c (fz_shC c))) := by
    show [(a6 0, (Sum.inr (5, [Value.ref (a6 1), .ref (a6 2)]) : va_E)), (a6 1, .inl (G.2.2 2, 6, .inr (.inl (fun _ => 0)))), (a6 2, .inl (G.2.2 2, 6, .inr (.inl (fun _ => 0))))] = _
    rw [← e15, ← e16, ← e17]; rfl
  have b20 : fz_bk G fz_shC fz_0C 20 10 a8 = (List.range 10).map (fun t => (ad (20 + t), fz_en (ad, G.2) fz_0C (20 + t) (fz_shC (20 + t)))) := by
    show [(a8 0, (Sum.inr (3, [Value.int 0, .int 0, .int 0, .ref (a8 1), .ref (a8 2), .ref (a8 3), .ref (a8 4), .ref (a8 5), .ref (a8 6), .ref (a8 7), .ref (a8 8), .ref (a8 9)]) : va_E)), (a8 1, .inl (G.2.2 0, 6, .inl (fun _ => 0))), (a8 2, .inl (G.2.2 0, 6, .inl (fun _ => 0))), (a8 3, .inl (G.2.2 0, 10, .inl (fun _ => 0))), (a8 4, .inl (G.2.2 0, 10, .inl (fun _ => 0))), (a8 5, .inl (G.2.2 0, 10, .inl (fun _ => 0))), (a8 6, .inl (G.2.2 0, 6, .inl (fun _ => 0))), (a8 7, .inl (G.2.2 0, 6, .inl (fun _ => 0))), (a8 8, .inl (G.2.2 0, 6, .inl (fun _ => 0))), (a8 9, .inl (G.2.2 0, 6, .inl (fun _ => 0)))] = _
    rw [← e20, ← e21, ← e22, ← e23, ← e24, ← e25, ← e26, ← e27, ← e28, ← e29]; rfl
  have b30 : fz_bk G fz_shC fz_0C 20 10 a9 = (List.range 10).map (fun t => (ad (30 + t), fz_en (ad, G.2) fz_0C (30 + t) (fz_shC (30 + t)))) := by
    show [(a9 0, (Sum.inr (3, [Value.int 0, .int 0, .int 0, .ref (a9 1), .ref (a9 2), .ref (a9 3), .ref (a9 4), .ref (a9 5), .ref (a9 6), .ref (a9 7), .ref (a9 8), .ref (a9 9)]) : va_E)), (a9 1, .inl (G.2.2 0, 6, .inl (fun _ => 0))), (a9 2, .inl (G.2.2 0, 6, .inl (fun _ => 0))), (a9 3, .inl (G.2.2 0, 10, .inl (fun _ => 0))), (a9 4, .inl (G.2.2 0, 10, .inl (fun _ => 0))), (a9 5, .inl (G.2.2 0, 10, .inl (fun _ => 0))), (a9 6, .inl (G.2.2 0, 6, .inl (fun _ => 0))), (a9 7, .inl (G.2.2 0, 6, .inl (fun _ => 0))), (a9 8, .inl (G.2.2 0, 6, .inl (fun _ => 0))), (a9 9, .inl (G.2.2 0, 6, .inl (fun _ => 0)))] = _
    rw [← e30, ← e31, ← e32, ← e33, ← e34, ← e35, ← e36, ← e37, ← e38, ← e39]; rfl
  rw [b1, b3, b7, b10, b15, b20, b30, ← e1, ← e3, ← e5, ← e6, ← e7, ← e10, ← e15, ← e20, ← e30]
  simp only [List.map_map]
  rfl
set_option maxHeartbeats 4000000 in
set_option maxRecDepth 100000 in
theorem k_X8 (l : Launch) (G : fz_G) : fz_Ct l yX8_init cX8_init 2 3 53 234 1768 G 8 [.null, .null, .null, .null, .null, .null, .null, .null, .null, .null, .null] (fun ad => fz_wl (ad, G.2) fz_shC fz_KC fz_0C) := by
  refine fz_cbody (by decide) rfl (Nat.le_of_ble_eq_true rfl) ?_
  intro p e s m args below meth c H locs ls h0 A C hr hlk hin hCP hA hN hl
  have C : CallFix p m c cX8_init 2 s args wsL_law RX8 := C
  refine lv_aload_n C.1 C.2.1 dX8_init_0 rfl (lv_at hl 0 rfl) ?_
  refine fz_oinit C (fz_q1 _ (List.mem_of_getElem? (i := 10) rfl)) hl.1 dX8_init_1 (Nat.le_of_ble_eq_true rfl) (Nat.le_of_ble_eq_true rfl) ?_
  refine lv_aload_n C.1 C.2.1 dX8_init_4 rfl (lv_at hl 0 rfl) ?_
  refine fz_new (ci := 1) (fs := [.null, .int 0]) tyX1 C hCP.1 hA hN rfl inlX1 tyX1_ok (fz_q1 _ (List.mem_of_getElem? (i := 13) rfl)) (fz_q1 _ (List.mem_of_getElem? (i := 14) rfl)) (fz_q1 _ (List.mem_of_getElem? (i := 15) rfl)) (fun j hj => by rcases fz_n2 hj with rfl | rfl <;> rfl) (Nat.le_of_ble_eq_true rfl) (Nat.le_of_ble_eq_true rfl) dX8_init_5 (fun v H hN => ?_)
  refine lv_dup C.1 C.2.1 dX8_init_8 rfl ?_
  refine fz_ctor (rest := [.ref v, .ref h0]) C hCP hA hN (k_X1 l G) (by decide +kernel) (fz_q3 _ (List.mem_of_getElem? (i := 1) rfl)) (fz_q1 _ (List.mem_of_getElem? (i := 15) rfl)) (fz_q3 _ (List.mem_of_getElem? (i := 2) rfl)) rfl (by decide) hl.1 (Nat.le_of_ble_eq_true rfl) ⟨Nat.le_of_ble_eq_true rfl, Nat.le_of_ble_eq_true rfl⟩ ⟨Nat.le_of_ble_eq_true rfl, Nat.le_of_ble_eq_true rfl⟩ dX8_init_9 (fun a1 H locs ha hN2 => ?_)
  subst ha
  have hN : fz_N G.2.1 A s (fz_bk G fz_shC fz_0C 1 2 a1 ++ (h0, .inr (8, [.null, .null, .null, .null, .null, .null, .null, .null, .null, .null, .null])) :: []) H locs := hN2
  have hN := hN.perm List.perm_middle
  have hN : fz_N G.2.1 A s ((h0, .inr (8, [.null, .null, .null, .null, .null, .null, .null, .null, .null, .null, .null])) :: (fz_bk G fz_shC fz_0C 1 2 a1 ++ [])) H locs := hN
  refine fz_pF (x := h0) (ci := 8) (v := .ref (a1 0)) 0 C hin hCP.1 hN rfl ff_X8_10 rfl rfl (Nat.le_of_ble_eq_true rfl) dX8_init_12 (fun H locs hN => ?_)
  have hN : fz_N G.2.1 A s ((h0, .inr (8, [.ref (a1 0), .null, .null, .null, .null, .null, .null, .null, .null, .null, .null])) :: (fz_bk G fz_shC fz_0C 1 2 a1 ++ [])) H locs := hN
  refine lv_aload_n C.1 C.2.1 dX8_init_15 rfl (lv_at hl 0 rfl) ?_
  refine fz_new (ci := 4) (fs := [.null, .int 0]) tyX4 C hCP.1 hA hN rfl inlX4 tyX4_ok (fz_q1 _ (List.mem_of_getElem? (i := 17) rfl)) (fz_q1 _ (List.mem_of_getElem? (i := 18) rfl)) (fz_q1 _ (List.mem_of_getElem? (i := 19) rfl)) (fun j hj => by rcases fz_n2 hj with rfl | rfl <;> rfl) (Nat.le_of_ble_eq_true rfl) (Nat.le_of_ble_eq_true rfl) dX8_init_16 (fun v H hN => ?_)
  refine lv_dup C.1 C.2.1 dX8_init_19 rfl ?_
  refine fz_ctor (rest := [.ref v, .ref h0]) C hCP hA hN (k_X4 l G) (by decide +kernel) (fz_q3 _ (List.mem_of_getElem? (i := 6) rfl)) (fz_q1 _ (List.mem_of_getElem? (i := 19) rfl)) (fz_q3 _ (List.mem_of_getElem? (i := 7) rfl)) rfl (by decide) hl.1 (Nat.le_of_ble_eq_true rfl) ⟨Nat.le_of_ble_eq_true rfl, Nat.le_of_ble_eq_true rfl⟩ ⟨Nat.le_of_ble_eq_true rfl, Nat.le_of_ble_eq_true rfl⟩ dX8_init_20 (fun a2 H locs ha hN2 => ?_)
  subst ha
  have hN : fz_N G.2.1 A s (fz_bk G fz_shC fz_0C 3 2 a2 ++ (h0, .inr (8, [.ref (a1 0), .null, .null, .null, .null, .null, .null, .null, .null, .null, .null])) :: (fz_bk G fz_shC fz_0C 1 2 a1 ++ [])) H locs := hN2
  have hN := hN.perm List.perm_middle
  have hN : fz_N G.2.1 A s ((h0, .inr (8, [.ref (a1 0), .null, .null, .null, .null, .null, .null, .null, .null, .null, .null])) :: (fz_bk G fz_shC fz_0C 3 2 a2 ++ (fz_bk G fz_shC fz_0C 1 2 a1 ++ []))) H locs := hN
  refine fz_pF (x := h0) (ci := 8) (v := .ref (a2 0)) 0 C hin hCP.1 hN rfl ff_X8_19 rfl rfl (Nat.le_of_ble_eq_true rfl) dX8_init_23 (fun H locs hN => ?_)
  have hN : fz_N G.2.1 A s ((h0, .inr (8, [.ref (a1 0), .ref (a2 0), .null, .null, .null, .null, .null, .null, .null, .null, .null])) :: (fz_bk G fz_shC fz_0C 3 2 a2 ++ (fz_bk G fz_shC fz_0C 1 2 a1 ++ []))) H locs := hN
  refine lv_aload_n C.1 C.2.1 dX8_init_26 rfl (lv_at hl 0 rfl) ?_
  refine fz_new (ci := 0) (fs := [.null, .int 0, .int 0]) tyX0 C hCP.1 hA hN rfl inlX0 tyX0_ok (fz_q1 _ (List.mem_of_getElem? (i := 21) rfl)) (fz_q1 _ (List.mem_of_getElem? (i := 22) rfl)) (fz_q1 _ (List.mem_of_getElem? (i := 23) rfl)) (fun j hj => by rcases fz_n3 hj with rfl | rfl | rfl <;> rfl) (Nat.le_of_ble_eq_true rfl) (Nat.le_of_ble_eq_true rfl) dX8_init_27 (fun v H hN => ?_)
  refine lv_dup C.1 C.2.1 dX8_init_30 rfl ?_
  refine fz_ctorO (rest := [.ref v, .ref h0]) C hCP hA hN (k_X0 l G) (fz_q3 _ (List.mem_of_getElem? (i := 10) rfl)) (fz_q3 _ (List.mem_of_getElem? (i := 11) rfl)) (fz_q1 _ (List.mem_of_getElem? (i := 23) rfl)) (fz_q3 _ (List.mem_of_getElem? (i := 12) rfl)) rfl (by decide) hl.1 (Nat.le_of_ble_eq_true rfl) ⟨Nat.le_of_ble_eq_true rfl, Nat.le_of_ble_eq_true rfl⟩ ⟨Nat.le_of_ble_eq_true rfl, Nat.le_of_ble_eq_true rfl⟩ dX8_init_31 (fun a3 H locs ha hN2 => ?_)
  subst ha
  have hN : fz_N G.2.1 A s (fz_bA G a3 ++ (h0, .inr (8, [.ref (a1 0), .ref (a2 0), .null, .null, .null, .null, .null, .null, .null, .null, .null])) :: (fz_bk G fz_shC fz_0C 3 2 a2 ++ (fz_bk G fz_shC fz_0C 1 2 a1 ++ []))) H locs := hN2
  have hN := hN.perm List.perm_middle
  have hN : fz_N G.2.1 A s ((h0, .inr (8, [.ref (a1 0), .ref (a2 0), .null, .null, .null, .null, .null, .null, .null, .null, .null])) :: (fz_bA G a3 ++ (fz_bk G fz_shC fz_0C 3 2 a2 ++ (fz_bk G fz_shC fz_0C 1 2 a1 ++ [])))) H locs := hN
  refine fz_pF (x := h0) (ci := 8) (v := .ref (a3 0)) 0 C hin hCP.1 hN rfl ff_X8_26 rfl rfl (Nat.le_of_ble_eq_true rfl) dX8_init_34 (fun H locs hN => ?_)
  have hN : fz_N G.2.1 A s ((h0, .inr (8, [.ref (a1 0), .ref (a2 0), .ref (a3 0), .null, .null, .null, .null, .null, .null, .null, .null])) :: (fz_bA G a3 ++ (fz_bk G fz_shC fz_0C 3 2 a2 ++ (fz_bk G fz_shC fz_0C 1 2 a1 ++ [])))) H locs := hN
  refine lv_aload_n C.1 C.2.1 dX8_init_37 rfl (lv_at hl 0 rfl) ?_
  refine fz_new (ci := 2) (fs := [.null, .null, .int 0]) tyX2 C hCP.1 hA hN rfl inlX2 tyX2_ok (fz_q2 _ (List.mem_of_getElem? (i := 1) rfl)) (fz_q2 _ (List.mem_of_getElem? (i := 2) rfl)) (fz_q2 _ (List.mem_of_getElem? (i := 3) rfl)) (fun j hj => by rcases fz_n3 hj with rfl | rfl | rfl <;> rfl) (Nat.le_of_ble_eq_true rfl) (Nat.le_of_ble_eq_true rfl) dX8_init_38 (fun v H hN => ?_)
  refine lv_dup C.1 C.2.1 dX8_init_41 rfl ?_
  refine fz_ctor (rest := [.ref v, .ref h0]) C hCP hA hN (k_X2 l G) (by decide +kernel) (fz_q4 _ (List.mem_of_getElem? (i := 2) rfl)) (fz_q2 _ (List.mem_of_getElem? (i := 3) rfl)) (fz_q4 _ (List.mem_of_getElem? (i := 3) rfl)) rfl (by decide) hl.1 (Nat.le_of_ble_eq_true rfl) ⟨Nat.le_of_ble_eq_true rfl, Nat.le_of_ble_eq_true rfl⟩ ⟨Nat.le_of_ble_eq_true rfl, Nat.le_of_ble_eq_true rfl⟩ dX8_init_42 (fun a4 H locs ha hN2 => ?_)
  subst ha
  have hN : fz_N G.2.1 A s (fz_bk G fz_shC fz_0C 7 3 a4 ++ (h0, .inr (8, [.ref (a1 0), .ref (a2 0), .ref (a3 0), .null, .null, .null, .null, .null, .null, .null, .null])) :: (fz_bA G a3 ++ (fz_bk G fz_shC fz_0C 3 2 a2 ++ (fz_bk G fz_shC fz_0C 1 2 a1 ++ [])))) H locs := hN2
  have hN := hN.perm List.perm_middle
  have hN : fz_N G.2.1 A s ((h0, .inr (8, [.ref (a1 0), .ref (a2 0), .ref (a3 0), .null, .null, .null, .null, .null, .null, .null, .null])) :: (fz_bk G fz_shC fz_0C 7 3 a4 ++ (fz_bA G a3 ++ (fz_bk G fz_shC fz_0C 3 2 a2 ++ (fz_bk G fz_shC fz_0C 1 2 a1 ++ []))))) H locs := hN
  refine fz_pF (x := h0) (ci := 8) (v := .ref (a4 0)) 0 C hin hCP.1 hN rfl ff_X8_33 rfl rfl (Nat.le_of_ble_eq_true rfl) dX8_init_45 (fun H locs hN => ?_)
  have hN : fz_N G.2.1 A s ((h0, .inr (8, [.ref (a1 0), .ref (a2 0), .ref (a3 0), .ref (a4 0), .null, .null, .null, .null, .null, .null, .null])) :: (fz_bk G fz_shC fz_0C 7 3 a4 ++ (fz_bA G a3 ++ (fz_bk G fz_shC fz_0C 3 2 a2 ++ (fz_bk G fz_shC fz_0C 1 2 a1 ++ []))))) H locs := hN
  refine lv_aload_n C.1 C.2.1 dX8_init_48 rfl (lv_at hl 0 rfl) ?_
  refine fz_new (ci := 7) (fs := [.null, .null, .null, .null, .int 0, .int 0]) tyX7 C hCP.1 hA hN rfl inlX7 tyX7_ok (fz_q2 _ (List.mem_of_getElem? (i := 5) rfl)) (fz_q2 _ (List.mem_of_getElem? (i := 6) rfl)) (fz_q2 _ (List.mem_of_getElem? (i := 7) rfl)) (fun j hj => by rcases fz_n6 hj with rfl | rfl | rfl | rfl | rfl | rfl <;> rfl) (Nat.le_of_ble_eq_true rfl) (Nat.le_of_ble_eq_true rfl) dX8_init_49 (fun v H hN => ?_)
  refine lv_dup C.1 C.2.1 dX8_init_52 rfl ?_
  refine fz_ctor (rest := [.ref v, .ref h0]) C hCP hA hN (k_X7 l G) (by decide +kernel) (fz_q4 _ (List.mem_of_getElem? (i := 7) rfl)) (fz_q2 _ (List.mem_of_getElem? (i := 7) rfl)) (fz_q4 _ (List.mem_of_getElem? (i := 8) rfl)) rfl (by decide) hl.1 (Nat.le_of_ble_eq_true rfl) ⟨Nat.le_of_ble_eq_true rfl, Nat.le_of_ble_eq_true rfl⟩ ⟨Nat.le_of_ble_eq_true rfl, Nat.le_of_ble_eq_true rfl⟩ dX8_init_53 (fun a5 H locs ha hN2 => ?_)
  subst ha
  have hN : fz_N G.2.1 A s (fz_bk G fz_shC fz_0C 10 5 a5 ++ (h0, .inr (8, [.ref (a1 0), .ref (a2 0), .ref (a3 0), .ref (a4 0), .null, .null, .null, .null, .null, .null, .null])) :: (fz_bk G fz_shC fz_0C 7 3 a4 ++ (fz_bA G a3 ++ (fz_bk G fz_shC fz_0C 3 2 a2 ++ (fz_bk G fz_shC fz_0C 1 2 a1 ++ []))))) H locs := hN2
  have hN := hN.perm List.perm_middle
  have hN : fz_N G.2.1 A s ((h0, .inr (8, [.ref (a1 0), .ref (a2 0), .ref (a3 0), .ref (a4 0), .null, .null, .null, .null, .null, .null, .null])) :: (fz_bk G fz_shC fz_0C 10 5 a5 ++ (fz_bk G fz_shC fz_0C 7 3 a4 ++ (fz_bA G a3 ++ (fz_bk G fz_shC fz_0C 3 2 a2 ++ (fz_bk G fz_shC fz_0C 1 2 a1 ++ [])))))) H locs := hN
  refine fz_pF (x := h0) (ci := 8) (v := .ref (a5 0)) 0 C hin hCP.1 hN rfl ff_X8_40 rfl rfl (Nat.le_of_ble_eq_true rfl) dX8_init_56 (fun H locs hN => ?_)
  have hN : fz_N G.2.1 A s ((h0, .inr (8, [.ref (a1 0), .ref (a2 0), .ref (a3 0), .ref (a4 0), .ref (a5 0), .null, .null, .null, .null, .null, .null])) :: (fz_bk G fz_shC fz_0C 10 5 a5 ++ (fz_bk G fz_shC fz_0C 7 3 a4 ++ (fz_bA G a3 ++ (fz_bk G fz_shC fz_0C 3 2 a2 ++ (fz_bk G fz_shC fz_0C 1 2 a1 ++ [])))))) H locs := hN
  refine lv_aload_n C.1 C.2.1 dX8_init_59 rfl (lv_at hl 0 rfl) ?_
  refine fz_new (ci := 5) (fs := [.null, .null]) tyX5 C hCP.1 hA hN rfl inlX5 tyX5_ok (fz_q2 _ (List.mem_of_getElem? (i := 9) rfl)) (fz_q2 _ (List.mem_of_getElem? (i := 10) rfl)) (fz_q2 _ (List.mem_of_getElem? (i := 11) rfl)) (fun j hj => by rcases fz_n2 hj with rfl | rfl <;> rfl) (Nat.le_of_ble_eq_true rfl) (Nat.le_of_ble_eq_true rfl) dX8_init_60 (fun v H hN => ?_)
  refine lv_dup C.1 C.2.1 dX8_init_63 rfl ?_
  refine fz_ctor (rest := [.ref v, .ref h0]) C hCP hA hN (k_X5 l G) (by decide +kernel) (fz_q4 _ (List.mem_of_getElem? (i := 14) rfl)) (fz_q2 _ (List.mem_of_getElem? (i := 11) rfl)) (fz_q4 _ (List.mem_of_getElem? (i := 15) rfl)) rfl (by decide) hl.1 (Nat.le_of_ble_eq_true rfl) ⟨Nat.le_of_ble_eq_true rfl, Nat.le_of_ble_eq_true rfl⟩ ⟨Nat.le_of_ble_eq_true rfl, Nat.le_of_ble_eq_true rfl⟩ dX8_init_64 (fun a6 H locs ha hN2 => ?_)
  subst ha
  have hN : fz_N G.2.1 A s (fz_bk G fz_shC fz_0C 15 3 a6 ++ (h0, .inr (8, [.ref (a1 0), .ref (a2 0), .ref (a3 0), .ref (a4 0), .ref (a5 0), .null, .null, .null, .null, .null, .null])) :: (fz_bk G fz_shC fz_0C 10 5 a5 ++ (fz_bk G fz_shC fz_0C 7 3 a4 ++ (fz_bA G a3 ++ (fz_bk G fz_shC fz_0C 3 2 a2 ++ (fz_bk G fz_shC fz_0C 1 2 a1 ++ [])))))) H locs := hN2
  have hN := hN.perm List.perm_middle
  have hN : fz_N G.2.1 A s ((h0, .inr (8, [.ref (a1 0), .ref (a2 0), .ref (a3 0), .ref (a4 0), .ref (a5 0), .null, .null, .null, .null, .null, .null])) :: (fz_bk G fz_shC fz_0C 15 3 a6 ++ (fz_bk G fz_shC fz_0C 10 5 a5 ++ (fz_bk G fz_shC fz_0C 7 3 a4 ++ (fz_bA G a3 ++ (fz_bk G fz_shC fz_0C 3 2 a2 ++ (fz_bk G fz_shC fz_0C 1 2 a1 ++ []))))))) H locs := hN
  refine fz_pF (x := h0) (ci := 8) (v := .ref (a6 0)) 0 C hin hCP.1 hN rfl ff_X8_47 rfl rfl (Nat.le_of_ble_eq_true rfl) dX8_init_67 (fun H locs hN => ?_)
  have hN : fz_N G.2.1 A s ((h0, .inr (8, [.ref (a1 0), .ref (a2 0), .ref (a3 0), .ref (a4 0), .ref (a5 0), .ref (a6 0), .null, .null, .null, .null, .null])) :: (fz_bk G fz_shC fz_0C 15 3 a6 ++ (fz_bk G fz_shC fz_0C 10 5 a5 ++ (fz_bk G fz_shC fz_0C 7 3 a4 ++ (fz_bA G a3 ++ (fz_bk G fz_shC fz_0C 3 2 a2 ++ (fz_bk G fz_shC fz_0C 1 2 a1 ++ []))))))) H locs := hN
  refine lv_aload_n C.1 C.2.1 dX8_init_70 rfl (lv_at hl 0 rfl) ?_
  refine fz_new (ci := 6) (fs := [.int 0, .null, .null, .null, .null, .null, .null]) tyX6 C hCP.1 hA hN rfl inlX6 tyX6_ok (fz_q2 _ (List.mem_of_getElem? (i := 13) rfl)) (fz_q2 _ (List.mem_of_getElem? (i := 14) rfl)) (fz_q2 _ (List.mem_of_getElem? (i := 15) rfl)) (fun j hj => by rcases fz_n7 hj with rfl | rfl | rfl | rfl | rfl | rfl | rfl <;> rfl) (Nat.le_of_ble_eq_true rfl) (Nat.le_of_ble_eq_true rfl) dX8_init_71 (fun v H hN => ?_)
  refine lv_dup C.1 C.2.1 dX8_init_74 rfl ?_
  refine fz_ctor (rest := [.ref v, .ref h0]) C hCP hA hN (k_X6 l G) (by decide +kernel) (fz_q3 _ (List.mem_of_getElem? (i := 16) rfl)) (fz_q2 _ (List.mem_of_getElem? (i := 15) rfl)) (fz_q3 _ (List.mem_of_getElem? (i := 17) rfl)) rfl (by decide) hl.1 (Nat.le_of_ble_eq_true rfl) ⟨Nat.le_of_ble_eq_true rfl, Nat.le_of_ble_eq_true rfl⟩ ⟨Nat.le_of_ble_eq_true rfl, Nat.le_of_ble_eq_true rfl⟩ dX8_init_75 (fun a7 H locs ha hN2 => ?_)
  subst ha
  have hN : fz_N G.2.1 A s (fz_sB G a7 ++ (h0, .inr (8, [.ref (a1 0), .ref (a2 0), .ref (a3 0), .ref (a4 0), .ref (a5 0), .ref (a6 0), .null, .null, .null, .null, .null])) :: (fz_bk G fz_shC fz_0C 15 3 a6 ++ (fz_bk G fz_shC fz_0C 10 5 a5 ++ (fz_bk G fz_shC fz_0C 7 3 a4 ++ (fz_bA G a3 ++ (fz_bk G fz_shC fz_0C 3 2 a2 ++ (fz_bk G fz_shC fz_0C 1 2 a1 ++ []))))))) H locs := hN2
  have hN := hN.perm List.perm_middle
  have hN : fz_N G.2.1 A s ((h0, .inr (8, [.ref (a1 0), .ref (a2 0), .ref (a3 0), .ref (a4 0), .ref (a5 0), .ref (a6 0), .null, .null, .null, .null, .null])) :: (fz_sB G a7 ++ (fz_bk G fz_shC fz_0C 15 3 a6 ++ (fz_bk G fz_shC fz_0C 10 5 a5 ++ (fz_bk G fz_shC fz_0C 7 3 a4 ++ (fz_bA G a3 ++ (fz_bk G fz_shC fz_0C 3 2 a2 ++ (fz_bk G fz_shC fz_0C 1 2 a1 ++ [])))))))) H locs := hN
  refine fz_pF (x := h0) (ci := 8) (v := .ref (a7 0)) 0 C hin hCP.1 hN rfl ff_X8_54 rfl rfl (Nat.le_of_ble_eq_true rfl) dX8_init_78 (fun H locs hN => ?_)
  have hN : fz_N G.2.1 A s ((h0, .inr (8, [.ref (a1 0), .ref (a2 0), .ref (a3 0), .ref (a4 0), .ref (a5 0), .ref (a6 0), .ref (a7 0), .null, .null, .null, .null])) :: (fz_sB G a7 ++ (fz_bk G fz_shC fz_0C 15 3 a6 ++ (fz_bk G fz_shC fz_0C 10 5 a5 ++ (fz_bk G fz_shC fz_0C 7 3 a4 ++ (fz_bA G a3 ++ (fz_bk G fz_shC fz_0C 3 2 a2 ++ (fz_bk G fz_shC fz_0C 1 2 a1 ++ [])))))))) H locs := hN
  refine lv_aload_n C.1 C.2.1 dX8_init_81 rfl (lv_at hl 0 rfl) ?_
  refine lv_iconst (v := 2) C.1 C.2.1 dX8_init_82 (by decide) ?_
  refine fz_nref (N' := 2) C hCP hA hN (fz_q2 _ (List.mem_of_getElem? (i := 13) rfl)) (by decide) (by decide) (by decide) (Nat.le_of_ble_eq_true rfl) (Nat.le_of_ble_eq_true rfl) dX8_init_83 (fun qk H hN => ?_)
  have hN := hN.perm (List.Perm.swap _ _ _)
  have hN : fz_N G.2.1 A s ((h0, .inr (8, [.ref (a1 0), .ref (a2 0), .ref (a3 0), .ref (a4 0), .ref (a5 0), .ref (a6 0), .ref (a7 0), .null, .null, .null, .null])) :: (qk, .inl (G.2.2 3, 2, .inr (.inr (.inr (.inr (fun _ => none)))))) :: (fz_sB G a7 ++ (fz_bk G fz_shC fz_0C 15 3 a6 ++ (fz_bk G fz_shC fz_0C 10 5 a5 ++ (fz_bk G fz_shC fz_0C 7 3 a4 ++ (fz_bA G a3 ++ (fz_bk G fz_shC fz_0C 3 2 a2 ++ (fz_bk G fz_shC fz_0C 1 2 a1 ++ [])))))))) H locs := hN
  refine fz_pF (x := h0) (ci := 8) (v := .ref qk) 0 C hin hCP.1 hN rfl ff_X8_58 rfl rfl (Nat.le_of_ble_eq_true rfl) dX8_init_86 (fun H locs hN => ?_)
  have hN : fz_N G.2.1 A s ((h0, .inr (8, [.ref (a1 0), .ref (a2 0), .ref (a3 0), .ref (a4 0), .ref (a5 0), .ref (a6 0), .ref (a7 0), .ref qk, .null, .null, .null])) :: (qk, .inl (G.2.2 3, 2, .inr (.inr (.inr (.inr (fun _ => none)))))) :: (fz_sB G a7 ++ (fz_bk G fz_shC fz_0C 15 3 a6 ++ (fz_bk G fz_shC fz_0C 10 5 a5 ++ (fz_bk G fz_shC fz_0C 7 3 a4 ++ (fz_bA G a3 ++ (fz_bk G fz_shC fz_0C 3 2 a2 ++ (fz_bk G fz_shC fz_0C 1 2 a1 ++ [])))))))) H locs := hN
  refine lv_aload_n C.1 C.2.1 dX8_init_89 rfl (lv_at hl 0 rfl) ?_
  refine lv_iconst (v := 2) C.1 C.2.1 dX8_init_90 (by decide) ?_
  refine fz_narr (atype := .boolean) (ty := .boolean) (i := 1) (N' := 2) (a0 := (2, .inl (fun _ => 0))) C hCP.1 hA hN rfl rfl (fz_q2 _ (List.mem_of_getElem? (i := 18) rfl)) (fz_va1 2) (by decide) (by decide) (by decide) (Nat.le_of_ble_eq_true rfl) (Nat.le_of_ble_eq_true rfl) dX8_init_91 (fun qz H hN => ?_)
  have hN := hN.perm ((List.Perm.swap _ _ _).trans ((List.Perm.swap _ _ _).cons _))
  have hN : fz_N G.2.1 A s ((h0, .inr (8, [.ref (a1 0), .ref (a2 0), .ref (a3 0), .ref (a4 0), .ref (a5 0), .ref (a6 0), .ref (a7 0), .ref qk, .null, .null, .null])) :: (qk, .inl (G.2.2 3, 2, .inr (.inr (.inr (.inr (fun _ => none)))))) :: ((qz, .inl (G.2.2 1, 2, .inl (fun _ => 0))) :: (fz_sB G a7 ++ (fz_bk G fz_shC fz_0C 15 3 a6 ++ (fz_bk G fz_shC fz_0C 10 5 a5 ++ (fz_bk G fz_shC fz_0C 7 3 a4 ++ (fz_bA G a3 ++ (fz_bk G fz_shC fz_0C 3 2 a2 ++ (fz_bk G fz_shC fz_0C 1 2 a1 ++ []))))))))) H locs := hN
  refine fz_pF (x := h0) (ci := 8) (v := .ref qz) 0 C hin hCP.1 hN rfl ff_X8_62 rfl rfl (Nat.le_of_ble_eq_true rfl) dX8_init_93 (fun H locs hN => ?_)
  have hN : fz_N G.2.1 A s ((h0, .inr (8, [.ref (a1 0), .ref (a2 0), .ref (a3 0), .ref (a4 0), .ref (a5 0), .ref (a6 0), .ref (a7 0), .ref qk, .ref qz, .null, .null])) :: (qk, .inl (G.2.2 3, 2, .inr (.inr (.inr (.inr (fun _ => none)))))) :: ((qz, .inl (G.2.2 1, 2, .inl (fun _ => 0))) :: (fz_sB G a7 ++ (fz_bk G fz_shC fz_0C 15 3 a6 ++ (fz_bk G fz_shC fz_0C 10 5 a5 ++ (fz_bk G fz_shC fz_0C 7 3 a4 ++ (fz_bA G a3 ++ (fz_bk G fz_shC fz_0C 3 2 a2 ++ (fz_bk G fz_shC fz_0C 1 2 a1 ++ []))))))))) H locs := hN
  refine lv_aload_n C.1 C.2.1 dX8_init_96 rfl (lv_at hl 0 rfl) ?_
  refine fz_new (ci := 3) (fs := [.int 0, .int 0, .int 0, .null, .null, .null, .null, .null, .null, .null, .null, .null]) tyX3 C hCP.1 hA hN rfl inlX3 tyX3_ok (fz_q2 _ (List.mem_of_getElem? (i := 20) rfl)) (fz_q2 _ (List.mem_of_getElem? (i := 21) rfl)) (fz_q2 _ (List.mem_of_getElem? (i := 22) rfl)) (fun j hj => by rcases fz_n12 hj with rfl | rfl | rfl | rfl | rfl | rfl | rfl | rfl | rfl | rfl | rfl | rfl <;> rfl) (Nat.le_of_ble_eq_true rfl) (Nat.le_of_ble_eq_true rfl) dX8_init_97 (fun v H hN => ?_)
  refine lv_dup C.1 C.2.1 dX8_init_100 rfl ?_
  refine fz_ctor (rest := [.ref v, .ref h0]) C hCP hA hN (k_X3 l G) (by decide +kernel) (fz_q4 _ (List.mem_of_getElem? (i := 20) rfl)) (fz_q2 _ (List.mem_of_getElem? (i := 22) rfl)) (fz_q4 _ (List.mem_of_getElem? (i := 21) rfl)) rfl (by decide) hl.1 (Nat.le_of_ble_eq_true rfl) ⟨Nat.le_of_ble_eq_true rfl, Nat.le_of_ble_eq_true rfl⟩ ⟨Nat.le_of_ble_eq_true rfl, Nat.le_of_ble_eq_true rfl⟩ dX8_init_101 (fun a8 H locs ha hN2 => ?_)
  subst ha
  have hN : fz_N G.2.1 A s (fz_bk G fz_shC fz_0C 20 10 a8 ++ (h0, .inr (8, [.ref (a1 0), .ref (a2 0), .ref (a3 0), .ref (a4 0), .ref (a5 0), .ref (a6 0), .ref (a7 0), .ref qk, .ref qz, .null, .null])) :: (qk, .inl (G.2.2 3, 2, .inr (.inr (.inr (.inr (fun _ => none)))))) :: ((qz, .inl (G.2.2 1, 2, .inl (fun _ => 0))) :: (fz_sB G a7 ++ (fz_bk G fz_shC fz_0C 15 3 a6 ++ (fz_bk G fz_shC fz_0C 10 5 a5 ++ (fz_bk G fz_shC fz_0C 7 3 a4 ++ (fz_bA G a3 ++ (fz_bk G fz_shC fz_0C 3 2 a2 ++ (fz_bk G fz_shC fz_0C 1 2 a1 ++ []))))))))) H locs := hN2
  have hN := hN.perm (List.perm_middle.trans ((List.perm_middle (l₁ := fz_bk G fz_shC fz_0C 20 10 a8)).cons _))
  have hN : fz_N G.2.1 A s ((h0, .inr (8, [.ref (a1 0), .ref (a2 0), .ref (a3 0), .ref (a4 0), .ref (a5 0), .ref (a6 0), .ref (a7 0), .ref qk, .ref qz, .null, .null])) :: (qk, .inl (G.2.2 3, 2, .inr (.inr (.inr (.inr (fun _ => none)))))) :: (fz_bk G fz_shC fz_0C 20 10 a8 ++ ((qz, .inl (G.2.2 1, 2, .inl (fun _ => 0))) :: (fz_sB G a7 ++ (fz_bk G fz_shC fz_0C 15 3 a6 ++ (fz_bk G fz_shC fz_0C 10 5 a5 ++ (fz_bk G fz_shC fz_0C 7 3 a4 ++ (fz_bA G a3 ++ (fz_bk G fz_shC fz_0C 3 2 a2 ++ (fz_bk G fz_shC fz_0C 1 2 a1 ++ [])))))))))) H locs := hN
  refine fz_pN (x := h0) (ci := 8) (v := .ref (a8 0)) 0 C hCP.1 hN rfl fg_X8_69 rfl rfl (Nat.le_of_ble_eq_true rfl) dX8_init_104 (fun H locs hN => ?_)
  have hN : fz_N G.2.1 A s ((h0, .inr (8, [.ref (a1 0), .ref (a2 0), .ref (a3 0), .ref (a4 0), .ref (a5 0), .ref (a6 0), .ref (a7 0), .ref qk, .ref qz, .ref (a8 0), .null])) :: (qk, .inl (G.2.2 3, 2, .inr (.inr (.inr (.inr (fun _ => none)))))) :: (fz_bk G fz_shC fz_0C 20 10 a8 ++ ((qz, .inl (G.2.2 1, 2, .inl (fun _ => 0))) :: (fz_sB G a7 ++ (fz_bk G fz_shC fz_0C 15 3 a6 ++ (fz_bk G fz_shC fz_0C 10 5 a5 ++ (fz_bk G fz_shC fz_0C 7 3 a4 ++ (fz_bA G a3 ++ (fz_bk G fz_shC fz_0C 3 2 a2 ++ (fz_bk G fz_shC fz_0C 1 2 a1 ++ [])))))))))) H locs := hN
  refine lv_aload_n C.1 C.2.1 dX8_init_107 rfl (lv_at hl 0 rfl) ?_
  refine fz_new (ci := 3) (fs := [.int 0, .int 0, .int 0, .null, .null, .null, .null, .null, .null, .null, .null, .null]) tyX3 C hCP.1 hA hN rfl inlX3 tyX3_ok (fz_q2 _ (List.mem_of_getElem? (i := 20) rfl)) (fz_q2 _ (List.mem_of_getElem? (i := 21) rfl)) (fz_q2 _ (List.mem_of_getElem? (i := 22) rfl)) (fun j hj => by rcases fz_n12 hj with rfl | rfl | rfl | rfl | rfl | rfl | rfl | rfl | rfl | rfl | rfl | rfl <;> rfl) (Nat.le_of_ble_eq_true rfl) (Nat.le_of_ble_eq_true rfl) dX8_init_108 (fun v H hN => ?_)
  refine lv_dup C.1 C.2.1 dX8_init_111 rfl ?_
  refine fz_ctor (rest := [.ref v, .ref h0]) C hCP hA hN (k_X3 l G) (by decide +kernel) (fz_q4 _ (List.mem_of_getElem? (i := 20) rfl)) (fz_q2 _ (List.mem_of_getElem? (i := 22) rfl)) (fz_q4 _ (List.mem_of_getElem? (i := 21) rfl)) rfl (by decide) hl.1 (Nat.le_of_ble_eq_true rfl) ⟨Nat.le_of_ble_eq_true rfl, Nat.le_of_ble_eq_true rfl⟩ ⟨Nat.le_of_ble_eq_true rfl, Nat.le_of_ble_eq_true rfl⟩ dX8_init_112 (fun a9 H locs ha hN2 => ?_)
  subst ha
  have hN : fz_N G.2.1 A s (fz_bk G fz_shC fz_0C 20 10 a9 ++ (h0, .inr (8, [.ref (a1 0), .ref (a2 0), .ref (a3 0), .ref (a4 0), .ref (a5 0), .ref (a6 0), .ref (a7 0), .ref qk, .ref qz, .ref (a8 0), .null])) :: (qk, .inl (G.2.2 3, 2, .inr (.inr (.inr (.inr (fun _ => none)))))) :: (fz_bk G fz_shC fz_0C 20 10 a8 ++ ((qz, .inl (G.2.2 1, 2, .inl (fun _ => 0))) :: (fz_sB G a7 ++ (fz_bk G fz_shC fz_0C 15 3 a6 ++ (fz_bk G fz_shC fz_0C 10 5 a5 ++ (fz_bk G fz_shC fz_0C 7 3 a4 ++ (fz_bA G a3 ++ (fz_bk G fz_shC fz_0C 3 2 a2 ++ (fz_bk G fz_shC fz_0C 1 2 a1 ++ [])))))))))) H locs := hN2
  have hN := hN.perm (List.perm_middle.trans ((List.perm_middle (l₁ := fz_bk G fz_shC fz_0C 20 10 a9)).cons _))
  have hN : fz_N G.2.1 A s ((h0, .inr (8, [.ref (a1 0), .ref (a2 0), .ref (a3 0), .ref (a4 0), .ref (a5 0), .ref (a6 0), .ref (a7 0), .ref qk, .ref qz, .ref (a8 0), .null])) :: (qk, .inl (G.2.2 3, 2, .inr (.inr (.inr (.inr (fun _ => none)))))) :: (fz_bk G fz_shC fz_0C 20 10 a9 ++ (fz_bk G fz_shC fz_0C 20 10 a8 ++ ((qz, .inl (G.2.2 1, 2, .inl (fun _ => 0))) :: (fz_sB G a7 ++ (fz_bk G fz_shC fz_0C 15 3 a6 ++ (fz_bk G fz_shC fz_0C 10 5 a5 ++ (fz_bk G fz_shC fz_0C 7 3 a4 ++ (fz_bA G a3 ++ (fz_bk G fz_shC fz_0C 3 2 a2 ++ (fz_bk G fz_shC fz_0C 1 2 a1 ++ []))))))))))) H locs := hN
  refine fz_pN (x := h0) (ci := 8) (v := .ref (a9 0)) 0 C hCP.1 hN rfl fg_X8_73 rfl rfl (Nat.le_of_ble_eq_true rfl) dX8_init_115 (fun H locs hN => ?_)
  have hN : fz_N G.2.1 A s ((h0, .inr (8, [.ref (a1 0), .ref (a2 0), .ref (a3 0), .ref (a4 0), .ref (a5 0), .ref (a6 0), .ref (a7 0), .ref qk, .ref qz, .ref (a8 0), .ref (a9 0)])) :: (qk, .inl (G.2.2 3, 2, .inr (.inr (.inr (.inr (fun _ => none)))))) :: (fz_bk G fz_shC fz_0C 20 10 a9 ++ (fz_bk G fz_shC fz_0C 20 10 a8 ++ ((qz, .inl (G.2.2 1, 2, .inl (fun _ => 0))) :: (fz_sB G a7 ++ (fz_bk G fz_shC fz_0C 15 3 a6 ++ (fz_bk G fz_shC fz_0C 10 5 a5 ++ (fz_bk G fz_shC fz_0C 7 3 a4 ++ (fz_bA G a3 ++ (fz_bk G fz_shC fz_0C 3 2 a2 ++ (fz_bk G fz_shC fz_0C 1 2 a1 ++ []))))))))))) H locs := hN
  refine lv_iconst (v := 0) C.1 C.2.1 dX8_init_118 (by decide) ?_
  refine lv_istore_n (lv' := [(1, .int 0), (0, .ref h0)]) C.1 C.2.1 dX8_init_119 rfl hl (by decide) rfl (fun ls hl => ?_)
  have hl := lv_sub hl (l' := [(0, .ref h0), (1, .int 0)]) [1, 0] rfl
  refine lv_iload_n C.1 C.2.1 dX8_init_120 rfl (lv_at hl 1 rfl) ?_
  refine lv_iconst (v := 2) C.1 C.2.1 dX8_init_121 (by decide) ?_
  refine lv_icmp_ge (tgt := 144) C.1 C.2.1 dX8_init_122 (by decide) (fun q => absurd q (by decide)) (fun _ => ?_)
  refine lv_aload_n C.1 C.2.1 dX8_init_125 rfl (lv_at hl 0 rfl) ?_
  refine fz_gN (x := h0) (ci := 8) (j := 7) 0 C hCP.1 hN rfl fl_X8_58 rfl dX8_init_126 ?_
  refine lv_iload_n C.1 C.2.1 dX8_init_129 rfl (lv_at hl 1 rfl) ?_
  refine fz_new (ci := 6) (fs := [.int 0, .null, .null, .null, .null, .null, .null]) tyX6 C hCP.1 hA hN rfl inlX6 tyX6_ok (fz_q2 _ (List.mem_of_getElem? (i := 13) rfl)) (fz_q2 _ (List.mem_of_getElem? (i := 14) rfl)) (fz_q2 _ (List.mem_of_getElem? (i := 15) rfl)) (fun j hj => by rcases fz_n7 hj with rfl | rfl | rfl | rfl | rfl | rfl | rfl <;> rfl) (Nat.le_of_ble_eq_true rfl) (Nat.le_of_ble_eq_true rfl) dX8_init_130 (fun v H hN => ?_)
  refine lv_dup C.1 C.2.1 dX8_init_133 rfl ?_
  refine fz_ctor (rest := [.ref v, .int 0, .ref qk]) C hCP hA hN (k_X6 l G) (by decide +kernel) (fz_q3 _ (List.mem_of_getElem? (i := 16) rfl)) (fz_q2 _ (List.mem_of_getElem? (i := 15) rfl)) (fz_q3 _ (List.mem_of_getElem? (i := 17) rfl)) rfl (by decide) hl.1 (Nat.le_of_ble_eq_true rfl) ⟨Nat.le_of_ble_eq_true rfl, Nat.le_of_ble_eq_true rfl⟩ ⟨Nat.le_of_ble_eq_true rfl, Nat.le_of_ble_eq_true rfl⟩ dX8_init_134 (fun a10 H locs ha hN2 => ?_)
  subst ha
  have hN : fz_N G.2.1 A s (fz_sB G a10 ++ (h0, .inr (8, [.ref (a1 0), .ref (a2 0), .ref (a3 0), .ref (a4 0), .ref (a5 0), .ref (a6 0), .ref (a7 0), .ref qk, .ref qz, .ref (a8 0), .ref (a9 0)])) :: (qk, .inl (G.2.2 3, 2, .inr (.inr (.inr (.inr (fun _ => none)))))) :: (fz_bk G fz_shC fz_0C 20 10 a9 ++ (fz_bk G fz_shC fz_0C 20 10 a8 ++ ((qz, .inl (G.2.2 1, 2, .inl (fun _ => 0))) :: (fz_sB G a7 ++ (fz_bk G fz_shC fz_0C 15 3 a6 ++ (fz_bk G fz_shC fz_0C 10 5 a5 ++ (fz_bk G fz_shC fz_0C 7 3 a4 ++ (fz_bA G a3 ++ (fz_bk G fz_shC fz_0C 3 2 a2 ++ (fz_bk G fz_shC fz_0C 1 2 a1 ++ []))))))))))) H locs := hN2
  have hN := hN.perm (List.perm_middle.trans ((List.perm_middle (l₁ := fz_sB G a10)).cons _))
  have hN : fz_N G.2.1 A s ((h0, .inr (8, [.ref (a1 0), .ref (a2 0), .ref (a3 0), .ref (a4 0), .ref (a5 0), .ref (a6 0), .ref (a7 0), .ref qk, .ref qz, .ref (a8 0), .ref (a9 0)])) :: (qk, .inl (G.2.2 3, 2, .inr (.inr (.inr (.inr (fun _ => none)))))) :: (fz_sB G a10 ++ (fz_bk G fz_shC fz_0C 20 10 a9 ++ (fz_bk G fz_shC fz_0C 20 10 a8 ++ ((qz, .inl (G.2.2 1, 2, .inl (fun _ => 0))) :: (fz_sB G a7 ++ (fz_bk G fz_shC fz_0C 15 3 a6 ++ (fz_bk G fz_shC fz_0C 10 5 a5 ++ (fz_bk G fz_shC fz_0C 7 3 a4 ++ (fz_bA G a3 ++ (fz_bk G fz_shC fz_0C 3 2 a2 ++ (fz_bk G fz_shC fz_0C 1 2 a1 ++ [])))))))))))) H locs := hN
  refine va_astq (ws := (h0, .inr (8, [.ref (a1 0), .ref (a2 0), .ref (a3 0), .ref (a4 0), .ref (a5 0), .ref (a6 0), .ref (a7 0), .ref qk, .ref qz, .ref (a8 0), .ref (a9 0)])) :: (qk, .inl (G.2.2 3, 2, .inr (.inr (.inr (.inr (fun _ => none)))))) :: (fz_sB G a10 ++ (fz_bk G fz_shC fz_0C 20 10 a9 ++ (fz_bk G fz_shC fz_0C 20 10 a8 ++ ((qz, .inl (G.2.2 1, 2, .inl (fun _ => 0))) :: (fz_sB G a7 ++ (fz_bk G fz_shC fz_0C 15 3 a6 ++ (fz_bk G fz_shC fz_0C 10 5 a5 ++ (fz_bk G fz_shC fz_0C 7 3 a4 ++ (fz_bA G a3 ++ (fz_bk G fz_shC fz_0C 3 2 a2 ++ (fz_bk G fz_shC fz_0C 1 2 a1 ++ [])))))))))))) (r := (RX6, TX6, 7)) C.1 C.2.1 hCP.1 hN.1 hN.2.1 hN.2.2 1 3 2 6 rfl rfl rfl rfl (fz_in_vp (by decide)) dX8_init_137 (fun H locs hP hD hS => ?_)
  have hN : fz_N G.2.1 A s ((h0, .inr (8, [.ref (a1 0), .ref (a2 0), .ref (a3 0), .ref (a4 0), .ref (a5 0), .ref (a6 0), .ref (a7 0), .ref qk, .ref qz, .ref (a8 0), .ref (a9 0)])) :: (qk, .inl (G.2.2 3, 2, .inr (.inr (.inr (.inr (va_up (fun _ => none) 0 (some (a10 0)))))))) :: (fz_sB G a10 ++ (fz_bk G fz_shC fz_0C 20 10 a9 ++ (fz_bk G fz_shC fz_0C 20 10 a8 ++ ((qz, .inl (G.2.2 1, 2, .inl (fun _ => 0))) :: (fz_sB G a7 ++ (fz_bk G fz_shC fz_0C 15 3 a6 ++ (fz_bk G fz_shC fz_0C 10 5 a5 ++ (fz_bk G fz_shC fz_0C 7 3 a4 ++ (fz_bA G a3 ++ (fz_bk G fz_shC fz_0C 3 2 a2 ++ (fz_bk G fz_shC fz_0C 1 2 a1 ++ [])))))))))))) H locs := ⟨hP, hD, hS⟩
  refine lv_iinc (v := 1) (lv' := [(1, .int 1), (0, .ref h0)]) C.1 C.2.1 dX8_init_138 hl (k := 1) rfl (by decide) (by decide) rfl (fun ls hl => ?_)
  have hl := lv_sub hl (l' := [(0, .ref h0), (1, .int 1)]) [1, 0] rfl
  refine lv_goto (tgt := 120) C.1 C.2.1 dX8_init_141 (by decide) ?_
  refine lv_iload_n C.1 C.2.1 dX8_init_120 rfl (lv_at hl 1 rfl) ?_
  refine lv_iconst (v := 2) C.1 C.2.1 dX8_init_121 (by decide) ?_
  refine lv_icmp_ge (tgt := 144) C.1 C.2.1 dX8_init_122 (by decide) (fun q => absurd q (by decide)) (fun _ => ?_)
  refine lv_aload_n C.1 C.2.1 dX8_init_125 rfl (lv_at hl 0 rfl) ?_
  refine fz_gN (x := h0) (ci := 8) (j := 7) 0 C hCP.1 hN rfl fl_X8_58 rfl dX8_init_126 ?_
  refine lv_iload_n C.1 C.2.1 dX8_init_129 rfl (lv_at hl 1 rfl) ?_
  refine fz_new (ci := 6) (fs := [.int 0, .null, .null, .null, .null, .null, .null]) tyX6 C hCP.1 hA hN rfl inlX6 tyX6_ok (fz_q2 _ (List.mem_of_getElem? (i := 13) rfl)) (fz_q2 _ (List.mem_of_getElem? (i := 14) rfl)) (fz_q2 _ (List.mem_of_getElem? (i := 15) rfl)) (fun j hj => by rcases fz_n7 hj with rfl | rfl | rfl | rfl | rfl | rfl | rfl <;> rfl) (Nat.le_of_ble_eq_true rfl) (Nat.le_of_ble_eq_true rfl) dX8_init_130 (fun v H hN => ?_)
  refine lv_dup C.1 C.2.1 dX8_init_133 rfl ?_
  refine fz_ctor (rest := [.ref v, .int 1, .ref qk]) C hCP hA hN (k_X6 l G) (by decide +kernel) (fz_q3 _ (List.mem_of_getElem? (i := 16) rfl)) (fz_q2 _ (List.mem_of_getElem? (i := 15) rfl)) (fz_q3 _ (List.mem_of_getElem? (i := 17) rfl)) rfl (by decide) hl.1 (Nat.le_of_ble_eq_true rfl) ⟨Nat.le_of_ble_eq_true rfl, Nat.le_of_ble_eq_true rfl⟩ ⟨Nat.le_of_ble_eq_true rfl, Nat.le_of_ble_eq_true rfl⟩ dX8_init_134 (fun a11 H locs ha hN2 => ?_)
  subst ha
  have hN : fz_N G.2.1 A s (fz_sB G a11 ++ (h0, .inr (8, [.ref (a1 0), .ref (a2 0), .ref (a3 0), .ref (a4 0), .ref (a5 0), .ref (a6 0), .ref (a7 0), .ref qk, .ref qz, .ref (a8 0), .ref (a9 0)])) :: (qk, .inl (G.2.2 3, 2, .inr (.inr (.inr (.inr (va_up (fun _ => none) 0 (some (a10 0)))))))) :: (fz_sB G a10 ++ (fz_bk G fz_shC fz_0C 20 10 a9 ++ (fz_bk G fz_shC fz_0C 20 10 a8 ++ ((qz, .inl (G.2.2 1, 2, .inl (fun _ => 0))) :: (fz_sB G a7 ++ (fz_bk G fz_shC fz_0C 15 3 a6 ++ (fz_bk G fz_shC fz_0C 10 5 a5 ++ (fz_bk G fz_shC fz_0C 7 3 a4 ++ (fz_bA G a3 ++ (fz_bk G fz_shC fz_0C 3 2 a2 ++ (fz_bk G fz_shC fz_0C 1 2 a1 ++ [])))))))))))) H locs := hN2
  have hN := hN.perm (List.perm_middle.trans ((List.perm_middle (l₁ := fz_sB G a11)).cons _))
  have hN : fz_N G.2.1 A s ((h0, .inr (8, [.ref (a1 0), .ref (a2 0), .ref (a3 0), .ref (a4 0), .ref (a5 0), .ref (a6 0), .ref (a7 0), .ref qk, .ref qz, .ref (a8 0), .ref (a9 0)])) :: (qk, .inl (G.2.2 3, 2, .inr (.inr (.inr (.inr (va_up (fun _ => none) 0 (some (a10 0)))))))) :: (fz_sB G a11 ++ (fz_sB G a10 ++ (fz_bk G fz_shC fz_0C 20 10 a9 ++ (fz_bk G fz_shC fz_0C 20 10 a8 ++ ((qz, .inl (G.2.2 1, 2, .inl (fun _ => 0))) :: (fz_sB G a7 ++ (fz_bk G fz_shC fz_0C 15 3 a6 ++ (fz_bk G fz_shC fz_0C 10 5 a5 ++ (fz_bk G fz_shC fz_0C 7 3 a4 ++ (fz_bA G a3 ++ (fz_bk G fz_shC fz_0C 3 2 a2 ++ (fz_bk G fz_shC fz_0C 1 2 a1 ++ []))))))))))))) H locs := hN
  refine va_astq (ws := (h0, .inr (8, [.ref (a1 0), .ref (a2 0), .ref (a3 0), .ref (a4 0), .ref (a5 0), .ref (a6 0), .ref (a7 0), .ref qk, .ref qz, .ref (a8 0), .ref (a9 0)])) :: (qk, .inl (G.2.2 3, 2, .inr (.inr (.inr (.inr (va_up (fun _ => none) 0 (some (a10 0)))))))) :: (fz_sB G a11 ++ (fz_sB G a10 ++ (fz_bk G fz_shC fz_0C 20 10 a9 ++ (fz_bk G fz_shC fz_0C 20 10 a8 ++ ((qz, .inl (G.2.2 1, 2, .inl (fun _ => 0))) :: (fz_sB G a7 ++ (fz_bk G fz_shC fz_0C 15 3 a6 ++ (fz_bk G fz_shC fz_0C 10 5 a5 ++ (fz_bk G fz_shC fz_0C 7 3 a4 ++ (fz_bA G a3 ++ (fz_bk G fz_shC fz_0C 3 2 a2 ++ (fz_bk G fz_shC fz_0C 1 2 a1 ++ []))))))))))))) (r := (RX6, TX6, 7)) C.1 C.2.1 hCP.1 hN.1 hN.2.1 hN.2.2 1 3 2 6 rfl rfl rfl rfl (fz_in_vp (by decide)) dX8_init_137 (fun H locs hP hD hS => ?_)
  have hN : fz_N G.2.1 A s ((h0, .inr (8, [.ref (a1 0), .ref (a2 0), .ref (a3 0), .ref (a4 0), .ref (a5 0), .ref (a6 0), .ref (a7 0), .ref qk, .ref qz, .ref (a8 0), .ref (a9 0)])) :: (qk, .inl (G.2.2 3, 2, .inr (.inr (.inr (.inr (va_up (va_up (fun _ => none) 0 (some (a10 0))) 1 (some (a11 0)))))))) :: (fz_sB G a11 ++ (fz_sB G a10 ++ (fz_bk G fz_shC fz_0C 20 10 a9 ++ (fz_bk G fz_shC fz_0C 20 10 a8 ++ ((qz, .inl (G.2.2 1, 2, .inl (fun _ => 0))) :: (fz_sB G a7 ++ (fz_bk G fz_shC fz_0C 15 3 a6 ++ (fz_bk G fz_shC fz_0C 10 5 a5 ++ (fz_bk G fz_shC fz_0C 7 3 a4 ++ (fz_bA G a3 ++ (fz_bk G fz_shC fz_0C 3 2 a2 ++ (fz_bk G fz_shC fz_0C 1 2 a1 ++ []))))))))))))) H locs := ⟨hP, hD, hS⟩
  refine lv_iinc (v := 2) (lv' := [(1, .int 2), (0, .ref h0)]) C.1 C.2.1 dX8_init_138 hl (k := 1) rfl (by decide) (by decide) rfl (fun ls hl => ?_)
  have hl := lv_sub hl (l' := [(0, .ref h0), (1, .int 2)]) [1, 0] rfl
  refine lv_goto (tgt := 120) C.1 C.2.1 dX8_init_141 (by decide) ?_
  refine lv_iload_n C.1 C.2.1 dX8_init_120 rfl (lv_at hl 1 rfl) ?_
  refine lv_iconst (v := 2) C.1 C.2.1 dX8_init_121 (by decide) ?_
  refine lv_icmp_ge (tgt := 144) C.1 C.2.1 dX8_init_122 (by decide) (fun _ => ?_) (fun q => absurd (by decide) q)
  generalize hade : (fun c => if c = 0 then h0 else if c < 3 then a1 (c - 1) else if c < 5 then a2 (c - 3) else if c < 7 then a3 (c - 5) else if c < 10 then a4 (c - 7) else if c < 15 then a5 (c - 10) else if c < 18 then a6 (c - 15) else if c = 18 then qk else if c = 19 then qz else if c < 30 then a8 (c - 20) else if c < 40 then a9 (c - 30) else if c < 53 then a7 (c - 40) else if c < 66 then a10 (c - 53) else if c < 79 then a11 (c - 66) else a3 (2 + (c - 79)) : Nat → Nat) = ad
  have e0 : ad 0 = h0 := by rw [← hade]; rfl
  have e1 : ad 1 = a1 0 := by rw [← hade]; rfl
  have e2 : ad 2 = a1 1 := by rw [← hade]; rfl
  have e3 : ad 3 = a2 0 := by rw [← hade]; rfl
  have e4 : ad 4 = a2 1 := by rw [← hade]; rfl
  have e5 : ad 5 = a3 0 := by rw [← hade]; rfl
  have e6 : ad 6 = a3 1 := by rw [← hade]; rfl
  have e7 : ad 7 = a4 0 := by rw [← hade]; rfl
  have e8 : ad 8 = a4 1 := by rw [← hade]; rfl
  have e9 : ad 9 = a4 2 := by rw [← hade]; rfl
  have e10 : ad 10 = a5 0 := by rw [← hade]; rfl
  have e11 : ad 11 = a5 1 := by rw [← hade]; rfl
  have e12 : ad 12 = a5 2 := by rw [← hade]; rfl
  have e13 : ad 13 = a5 3 := by rw [← hade]; rfl
  have e14 : ad 14 = a5 4 := by rw [← hade]; rfl
  have e15 : ad 15 = a6 0 := by rw [← hade]; rfl
  have e16 : ad 16 = a6 1 := by rw [← hade]; rfl
  have e17 : ad 17 = a6 2 := by rw [← hade]; rfl
  have e20 : ad 20 = a8 0 := by rw [← hade]; rfl
  have e21 : ad 21 = a8 1 := by rw [← hade]; rfl
  have e22 : ad 22 = a8 2 := by rw [← hade]; rfl
  have e23 : ad 23 = a8 3 := by rw [← hade]; rfl
  have e24 : ad 24 = a8 4 := by rw [← hade]; rfl
  have e25 : ad 25 = a8 5 := by rw [← hade]; rfl
  have e26 : ad 26 = a8 6 := by rw [← hade]; rfl
  have e27 : ad 27 = a8 7 := by rw [← hade]; rfl
  have e28 : ad 28 = a8 8 := by rw [← hade]; rfl
  have e29 : ad 29 = a8 9 := by rw [← hade]; rfl
  have e30 : ad 30 = a9 0 := by rw [← hade]; rfl
  have e31 : ad 31 = a9 1 := by rw [← hade]; rfl
  have e32 : ad 32 = a9 2 := by rw [← hade]; rfl
  have e33 : ad 33 = a9 3 := by rw [← hade]; rfl
  have e34 : ad 34 = a9 4 := by rw [← hade]; rfl
  have e35 : ad 35 = a9 5 := by rw [← hade]; rfl
  have e36 : ad 36 = a9 6 := by rw [← hade]; rfl
  have e37 : ad 37 = a9 7 := by rw [← hade]; rfl
  have e38 : ad 38 = a9 8 := by rw [← hade]; rfl
  have e39 : ad 39 = a9 9 := by rw [← hade]; rfl
  have e18 : ad 18 = qk := by rw [← hade]; rfl
  have e19 : ad 19 = qz := by rw [← hade]; rfl
  have s40 : ∀ t, t < 13 → ad (40 + t) = a7 t := by
    intro t ht
    rw [← hade]
    show (if 40 + t = 0 then _ else _) = _
    rw [if_neg (by omega), if_neg (by omega), if_neg (by omega), if_neg (by omega), if_neg (by omega), if_neg (by omega), if_neg (by omega), if_neg (by omega), if_neg (by omega), if_neg (by omega), if_neg (by omega), if_pos (by omega), Nat.add_sub_cancel_left]
  have s53 : ∀ t, t < 13 → ad (53 + t) = a10 t := by
    intro t ht
    rw [← hade]
    show (if 53 + t = 0 then _ else _) = _
    rw [if_neg (by omega), if_neg (by omega), if_neg (by omega), if_neg (by omega), if_neg (by omega), if_neg (by omega), if_neg (by omega), if_neg (by omega), if_neg (by omega), if_neg (by omega), if_neg (by omega), if_neg (by omega), if_pos (by omega), Nat.add_sub_cancel_left]
  have s66 : ∀ t, t < 13 → ad (66 + t) = a11 t := by
    intro t ht
    rw [← hade]
    show (if 66 + t = 0 then _ else _) = _
    rw [if_neg (by omega), if_neg (by omega), if_neg (by omega), if_neg (by omega), if_neg (by omega), if_neg (by omega), if_neg (by omega), if_neg (by omega), if_neg (by omega), if_neg (by omega), if_neg (by omega), if_neg (by omega), if_neg (by omega), if_pos (by omega), Nat.add_sub_cancel_left]
  have sA : ∀ i t, t < 13 → ad (79 + 13 * i + t) = a3 (2 + 13 * i + t) := by
    intro i t ht
    rw [← hade]
    show (if 79 + 13 * i + t = 0 then _ else _) = _
    rw [if_neg (by omega), if_neg (by omega), if_neg (by omega), if_neg (by omega), if_neg (by omega), if_neg (by omega), if_neg (by omega), if_neg (by omega), if_neg (by omega), if_neg (by omega), if_neg (by omega), if_neg (by omega), if_neg (by omega), if_neg (by omega), show 2 + (79 + 13 * i + t - 79) = 2 + 13 * i + t from by omega]
  have hk2 : ∀ i, i < 2 → (va_up (va_up (fun _ => none) 0 (some (a10 0))) 1 (some (a11 0))) i = (if i < 2 then some (ad (53 + 13 * i)) else none) := by
    intro i hi
    have hi2 : i = 0 ∨ i = 1 := fz_n2 hi
    rcases hi2 with rfl | rfl
    · show some (a10 0) = some (ad 53)
      rw [show ad 53 = a10 0 from s53 0 (by decide)]
    · show some (a11 0) = some (ad 66)
      rw [show ad 66 = a11 0 from s66 0 (by decide)]
  have hN := fz_Nq (w1 := [(h0, .inr (8, [.ref (a1 0), .ref (a2 0), .ref (a3 0), .ref (a4 0), .ref (a5 0), .ref (a6 0), .ref (a7 0), .ref qk, .ref qz, .ref (a8 0), .ref (a9 0)]))]) (fun i => if i < 2 then some (ad (53 + 13 * i)) else none) hN hk2
  refine fz_cret (B := fun ad => fz_wl (ad, G.2) fz_shC fz_KC fz_0C) C hr hlk ad e0 (hN.perm ?_) dX8_init_144
  show List.Perm _ (fz_wl (ad, G.2) fz_shC fz_KC fz_0C)
  exact fz_main_perm e0 e1 e2 e3 e4 e5 e6 e7 e8 e9 e10 e11 e12 e13 e14 e15 e16 e17 e18 e19 e20 e21 e22 e23 e24 e25 e26 e27 e28 e29 e30 e31 e32 e33 e34 e35 e36 e37 e38 e39 s40 s53 s66 sA
