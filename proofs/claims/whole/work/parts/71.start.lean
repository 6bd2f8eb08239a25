theorem fz_n11 {j : Nat} (h : j < 11) : j = 0 ∨ j = 1 ∨ j = 2 ∨ j = 3 ∨ j = 4 ∨ j = 5 ∨ j = 6 ∨ j = 7 ∨ j = 8 ∨ j = 9 ∨ j = 10 := by omega
theorem fz_n49 {j : Nat} (h : j < 49) : j = 0 ∨ j = 1 ∨ j = 2 ∨ j = 3 ∨ j = 4 ∨ j = 5 ∨ j = 6 ∨ j = 7 ∨ j = 8 ∨ j = 9 ∨ j = 10 ∨ j = 11 ∨ j = 12 ∨ j = 13 ∨ j = 14 ∨ j = 15 ∨ j = 16 ∨ j = 17 ∨ j = 18 ∨ j = 19 ∨ j = 20 ∨ j = 21 ∨ j = 22 ∨ j = 23 ∨ j = 24 ∨ j = 25 ∨ j = 26 ∨ j = 27 ∨ j = 28 ∨ j = 29 ∨ j = 30 ∨ j = 31 ∨ j = 32 ∨ j = 33 ∨ j = 34 ∨ j = 35 ∨ j = 36 ∨ j = 37 ∨ j = 38 ∨ j = 39 ∨ j = 40 ∨ j = 41 ∨ j = 42 ∨ j = 43 ∨ j = 44 ∨ j = 45 ∨ j = 46 ∨ j = 47 ∨ j = 48 := by omega
theorem fz_d9 : ∀ j, j < 49 → defaultValue (tyX9 j) = vp_V [.int 0, .null, .int 0, .int 0, .int 0, .int 0, .int 0, .null, .null, .null, .null, .null, .null, .null, .null, .null, .null, .null, .null, .null, .null, .int 0, .int 0, .int 0, .int 0, .null, .null, .null, .null, .null, .null, .null, .null, .null, .null, .int 0, .null, .null, .null, .null, .null, .null, .int 0, .int 0, .null, .null, .null, .null, .int 0] j := by
  intro j hj
  rcases fz_n49 hj with rfl | rfl | rfl | rfl | rfl | rfl | rfl | rfl | rfl | rfl | rfl | rfl | rfl | rfl | rfl | rfl | rfl | rfl | rfl | rfl | rfl | rfl | rfl | rfl | rfl | rfl | rfl | rfl | rfl | rfl | rfl | rfl | rfl | rfl | rfl | rfl | rfl | rfl | rfl | rfl | rfl | rfl | rfl | rfl | rfl | rfl | rfl | rfl | rfl <;> rfl
/-! FROM THE LAW'S ENTRY TO ITS LOOP -/
theorem fz_wl_I {G : fz_G} {sh : Nat → fz_Sh} {K : Nat} {M : fz_M} {A : Nat → Prop} (h : va_D A (fz_wl G sh K M)) : fz_I G K := fun i j hi hj he => h.1 i j _ _ (fz_wl_at G sh M hi) (fz_wl_at G sh M hj) he
theorem fz_bk_wl (G : fz_G) (sh : Nat → fz_Sh) (M : fz_M) (n : Nat) (a : Nat → Nat) : fz_bk G sh M 0 n a = fz_wl (a, G.2) sh n M := by
  unfold fz_bk fz_wl
  apply List.map_congr_left
  intro i _
  simp only [Nat.zero_add, Nat.sub_zero]
theorem fz_Papp {D : va_G} {w1 w2 : va_W} {H : Heap} (h : va_P D vwCl (w1 ++ w2) H) : va_P D vwCl w1 H ∧ va_P D vwCl w2 H :=
  ⟨fz_Pm.mpr fun q hq => fz_Pm.mp h q (List.mem_append_left _ hq), fz_Pm.mpr fun q hq => fz_Pm.mp h q (List.mem_append_right _ hq)⟩
theorem fz_Dapp {A : Nat → Prop} {w1 w2 : va_W} (h : va_D A (w1 ++ w2)) : va_D A w1 ∧ va_D A w2 ∧ ∀ p ∈ w1, ∀ q ∈ w2, p.1 ≠ q.1 := by
  have h1 := fz_Dm.mp h
  rw [List.map_append, List.nodup_append] at h1
  refine ⟨fz_Dm.mpr ⟨h1.1.1, fun q hq => h1.2 q (List.mem_append_left _ hq)⟩, fz_Dm.mpr ⟨h1.1.2.1, fun q hq => h1.2 q (List.mem_append_right _ hq)⟩, fun p hp q hq => h1.1.2.2 p.1 (List.mem_map.mpr ⟨p, hp, rfl⟩) q.1 (List.mem_map.mpr ⟨q, hq, rfl⟩)⟩
theorem fz_known {s : State} {args : Array Value} (hts : ∀ w ∈ lw_tbl, w.before args s = true) : ∃ (D : va_G) (cy : Nat → ClassId), fz_CP ((fun _ => 0), D, cy) s := by
  have hw : ∀ w ∈ wsL_law, w.before args s = true := fun w h => hts w (wsL_law_in w h)
  obtain ⟨c0, i0, n0⟩ := u_known (C := RX0) (T := TX0) (N := 3) (n := 3) hw inlX0 (hw (.instantiable RX0 3) (fz_q1 _ (List.mem_of_getElem? (i := 22) rfl)))
  obtain ⟨c1, i1, n1⟩ := u_known (C := RX1) (T := TX1) (N := 2) (n := 2) hw inlX1 (hw (.instantiable RX1 2) (fz_q1 _ (List.mem_of_getElem? (i := 14) rfl)))
  obtain ⟨c2, i2, n2⟩ := u_known (C := RX2) (T := TX2) (N := 3) (n := 3) hw inlX2 (hw (.instantiable RX2 3) (fz_q2 _ (List.mem_of_getElem? (i := 2) rfl)))
  obtain ⟨c3, i3, n3⟩ := u_known (C := RX3) (T := TX3) (N := 12) (n := 12) hw inlX3 (hw (.instantiable RX3 12) (fz_q2 _ (List.mem_of_getElem? (i := 21) rfl)))
  obtain ⟨c4, i4, n4⟩ := u_known (C := RX4) (T := TX4) (N := 2) (n := 2) hw inlX4 (hw (.instantiable RX4 2) (fz_q1 _ (List.mem_of_getElem? (i := 18) rfl)))
  obtain ⟨c5, i5, n5⟩ := u_known (C := RX5) (T := TX5) (N := 2) (n := 2) hw inlX5 (hw (.instantiable RX5 2) (fz_q2 _ (List.mem_of_getElem? (i := 10) rfl)))
  obtain ⟨c6, i6, n6⟩ := u_known (C := RX6) (T := TX6) (N := 7) (n := 7) hw inlX6 (hw (.instantiable RX6 7) (fz_q2 _ (List.mem_of_getElem? (i := 14) rfl)))
  obtain ⟨c7, i7, n7⟩ := u_known (C := RX7) (T := TX7) (N := 6) (n := 6) hw inlX7 (hw (.instantiable RX7 6) (fz_q2 _ (List.mem_of_getElem? (i := 6) rfl)))
  obtain ⟨c8, i8, n8⟩ := u_known (C := RX8) (T := TX8) (N := 11) (n := 11) hw inlX8 (hw (.instantiable RX8 11) (fz_q1 _ (List.mem_of_getElem? (i := 1) rfl)))
  obtain ⟨c9, i9, n9⟩ := u_known (C := RX9) (T := TX9) (N := 49) (n := 49) hw inlX9 (hw (.instantiable RX9 49) (fz_q1 _ (List.mem_of_getElem? (i := 4) rfl)))
  obtain ⟨y0, k0, p0, f0, g0, m0⟩ := Cond.arrayClass_spec (hw (.arrayClass .int) (fz_q3 _ (List.mem_of_getElem? (i := 4) rfl)))
  obtain ⟨y1, k1, p1, f1, g1, m1⟩ := Cond.arrayClass_spec (hw (.arrayClass .boolean) (fz_q2 _ (List.mem_of_getElem? (i := 18) rfl)))
  obtain ⟨y2, k2, p2, f2, g2, m2⟩ := Cond.arrayClass_spec (hw (.arrayClass .long) (fz_q4 _ (List.mem_of_getElem? (i := 17) rfl)))
  have ho3 := hts (.arrayOver (.object "FurnitureByFlood$Stand")) (List.mem_of_getElem? (i := 101) rfl)
  have ho4 := hts (.arrayOver (.array .int)) (List.mem_of_getElem? (i := 108) rfl)
  obtain ⟨p3, y3, k3, e3, -, g3, m3, f3⟩ := Cond.arrayOver_spec ho3
  obtain ⟨p4, y4, k4, e4, -, g4, m4, f4⟩ := arrayOverA_spec ho4
  refine ⟨(fun k => ([c0, c1, c2, c3, c4, c5, c6, c7, c8, c9] : List ClassId).getD k c0, fun k => ([i0, i1, i2, i3, i4, i5, i6, i7, i8, i9] : List (Nat → Nat)).getD k i0), fun k => ([y0, y1, y2, y3, y4] : List ClassId).getD k y0, ⟨fun k q hq => ?_, fun k q hq => ?_⟩, va_AO.of ho3, over_moved (Vm.Alike.refl s.vm) ho4, ?_⟩
  · match k, hq with
    | 0, hq => cases hq; exact n0
    | 1, hq => cases hq; exact n1
    | 2, hq => cases hq; exact n2
    | 3, hq => cases hq; exact n3
    | 4, hq => cases hq; exact n4
    | 5, hq => cases hq; exact n5
    | 6, hq => cases hq; exact n6
    | 7, hq => cases hq; exact n7
    | 8, hq => cases hq; exact n8
    | 9, hq => cases hq; exact n9
    | k + 10, hq => exact absurd (List.getElem?_eq_some_iff.mp hq).1 (by show ¬ k + 10 < 10; omega)
  · match k, hq with
    | 0, hq => cases hq; exact ⟨fun n z => ⟨fun k h => (by cases h), k0, g0, p0, m0⟩, f0⟩
    | 1, hq => cases hq; exact ⟨fun n z => ⟨fun k h => (by cases h), k1, g1, p1, m1⟩, f1⟩
    | 2, hq => cases hq; exact ⟨fun n z => ⟨fun k h => (by cases h), k2, g2, p2, m2⟩, f2⟩
    | 3, hq => cases hq; exact ⟨fun n z => ⟨fun k h => (by cases h), k3, g3, p3, m3⟩, ⟨k3, p3, g3, m3, e3, f3⟩⟩
    | 4, hq => cases hq; exact ⟨fun n z => ⟨fun k h => (by cases h), k4, g4, p4, m4⟩, f4⟩
    | k + 5, hq => exact absurd (List.getElem?_eq_some_iff.mp hq).1 (by show ¬ k + 5 < 5; omega)
  · intro w h
    have hb : w.before args s = true := by
      simp only [fz_nests, List.mem_cons, List.not_mem_nil, or_false] at h
      rcases h with rfl | rfl | rfl | rfl | rfl | rfl | rfl | rfl
      · exact hts _ (List.mem_of_getElem? (i := 66) rfl)
      · exact hts _ (List.mem_of_getElem? (i := 83) rfl)
      · exact hts _ (List.mem_of_getElem? (i := 103) rfl)
      · exact hts _ (List.mem_of_getElem? (i := 155) rfl)
      · exact hts _ (List.mem_of_getElem? (i := 172) rfl)
      · exact hts _ (List.mem_of_getElem? (i := 202) rfl)
      · exact hts _ (List.mem_of_getElem? (i := 216) rfl)
      · exact hts _ (List.mem_of_getElem? (i := 219) rfl)
    simp only [fz_nests, List.mem_cons, List.not_mem_nil, or_false] at h
    rcases h with rfl | rfl | rfl | rfl | rfl | rfl | rfl | rfl <;> exact va_Nw.of rfl hb
set_option maxHeartbeats 4000000 in
set_option maxRecDepth 100000 in
theorem start_of {Rel : fz_M → fz_M → Prop} (hp : fz_Pure Rel) (h0 : Rel fz_0C fz_0M) {p : Program} {e : Env} {s : State} {m : MethodId} {below : List Frame} {meth : Method} {c : Code} (l : Launch) {b L : Nat} {xs : Nat → Int32} (hL : L ≤ 3072) (C0 : lw_At p s m meth c b L xs) : W p l e room_1 s m #[Value.ref b] below meth c s.heap [] 0 0 (lw_Z below #[Value.ref b] s) (entryFrame m ([Value.ref b] : List Value).toArray 4) := by
  obtain ⟨hx, hb, hr, hml, hown, hts, hX, hbl, hlocks, hgv⟩ := C0
  have C : CallFix p m c code 4 s #[Value.ref b] wsL_law RL := ⟨hx, hb, hml, hown, fun w h => hts w (wsL_law_in w h)⟩
  obtain ⟨D, cy, hCP⟩ := fz_known hts
  generalize hG : ((fun _ => 0, D, cy) : fz_G) = G at hCP
  have hG2 : G.2 = (D, cy) := by rw [← hG]
  have hA : ∀ q : Nat, s.heap.size ≤ q → (fun q : Nat => s.heap.size ≤ q) q := fun _ h => h
  have hN : fz_N G.2.1 (fun q : Nat => s.heap.size ≤ q) s [] s.heap [] := ⟨fun k q h => by simp at h, ⟨fun i j p q h => by simp at h, fun k q h => by simp at h⟩, va_S.rf⟩
  have hl := lv_entry ([.ref b]) (n := 4) (Nat.le_of_ble_eq_true rfl)
  rw [lg_entry_eq]
  generalize (lg_sl ([.ref b]) ++ List.replicate (4 - (lg_sl ([.ref b])).length) Slot.unset).toArray = ls at hl ⊢
  have hl : lv_has ls 4 [(0, .ref b)] := hl
  refine fz_new (ci := 8) (fs := [.null, .null, .null, .null, .null, .null, .null, .null, .null, .null, .null]) tyX8 C hCP.1 hA hN rfl inlX8 tyX8_ok (fz_q1 _ (List.mem_of_getElem? (i := 0) rfl)) (fz_q1 _ (List.mem_of_getElem? (i := 1) rfl)) (fz_q1 _ (List.mem_of_getElem? (i := 2) rfl)) (fun j hj => by rcases fz_n11 hj with rfl | rfl | rfl | rfl | rfl | rfl | rfl | rfl | rfl | rfl | rfl <;> rfl) (Nat.le_of_ble_eq_true rfl) (Nat.le_of_ble_eq_true rfl) dL_law_0 (fun q H hN => ?_)
  refine lv_dup C.1 C.2.1 dL_law_3 rfl ?_
  refine fz_ctorO (rest := [.ref q]) C hCP hA hN (k_X8 l G) (fz_q1 _ (List.mem_of_getElem? (i := 7) rfl)) (fz_q1 _ (List.mem_of_getElem? (i := 8) rfl)) (fz_q1 _ (List.mem_of_getElem? (i := 2) rfl)) (fz_q1 _ (List.mem_of_getElem? (i := 9) rfl)) rfl (by decide) hl.1 (Nat.le_of_ble_eq_true rfl) ⟨Nat.le_of_ble_eq_true rfl, Nat.le_of_ble_eq_true rfl⟩ ⟨Nat.le_of_ble_eq_true rfl, Nat.le_of_ble_eq_true rfl⟩ dL_law_4 (fun ad H locs ha hN2 => ?_)
  subst ha
  have hN : fz_N G.2.1 (fun q : Nat => s.heap.size ≤ q) s (fz_wl (ad, G.2) fz_shC fz_KC fz_0C ++ []) H locs := hN2
  refine lv_astore_n (lv' := [(1, .ref (ad 0)), (0, .ref b)]) C.1 C.2.1 dL_law_7 rfl hl (by decide) rfl (fun ls hl => ?_)
  refine fz_new (ci := 9) (fs := [.int 0, .null, .int 0, .int 0, .int 0, .int 0, .int 0, .null, .null, .null, .null, .null, .null, .null, .null, .null, .null, .null, .null, .null, .null, .int 0, .int 0, .int 0, .int 0, .null, .null, .null, .null, .null, .null, .null, .null, .null, .null, .int 0, .null, .null, .null, .null, .null, .null, .int 0, .int 0, .null, .null, .null, .null, .int 0]) tyX9 C hCP.1 hA hN rfl inlX9 tyX9_ok (fz_q1 _ (List.mem_of_getElem? (i := 3) rfl)) (fz_q1 _ (List.mem_of_getElem? (i := 4) rfl)) (fz_q1 _ (List.mem_of_getElem? (i := 5) rfl)) (fun j hj => fz_d9 j hj) (Nat.le_of_ble_eq_true rfl) (Nat.le_of_ble_eq_true rfl) dL_law_8 (fun q H hN => ?_)
  refine lv_dup C.1 C.2.1 dL_law_11 rfl ?_
  refine fz_ctorO (rest := [.ref q]) C hCP hA hN (k_X9 l G) (fz_q5 _ (List.mem_of_getElem? (i := 8) rfl)) (fz_q5 _ (List.mem_of_getElem? (i := 9) rfl)) (fz_q1 _ (List.mem_of_getElem? (i := 5) rfl)) (fz_q5 _ (List.mem_of_getElem? (i := 10) rfl)) rfl (by decide) hl.1 (Nat.le_of_ble_eq_true rfl) ⟨Nat.le_of_ble_eq_true rfl, Nat.le_of_ble_eq_true rfl⟩ ⟨Nat.le_of_ble_eq_true rfl, Nat.le_of_ble_eq_true rfl⟩ dL_law_12 (fun aM H locs ha hN2 => ?_)
  subst ha
  have hN : fz_N G.2.1 (fun q : Nat => s.heap.size ≤ q) s (fz_bk G fz_shM fz_0M 0 36 aM ++ (fz_wl (ad, G.2) fz_shC fz_KC fz_0C ++ [])) H locs := hN2
  rw [fz_bk_wl, List.append_nil] at hN
  refine lv_astore_n (lv' := [(2, .ref (aM 0)), (1, .ref (ad 0)), (0, .ref b)]) C.1 C.2.1 dL_law_15 rfl hl (by decide) rfl (fun ls hl => ?_)
  refine lv_iconst (v := 0) C.1 C.2.1 dL_law_16 (by decide) ?_
  refine lv_istore_n (lv' := [(3, .int 0), (2, .ref (aM 0)), (1, .ref (ad 0)), (0, .ref b)]) C.1 C.2.1 dL_law_17 rfl hl (by decide) rfl (fun ls hl => ?_)
  refine W.widen (k := 600000) (n := 7302250) (Nat.le_of_ble_eq_true rfl) (Nat.le_of_ble_eq_true rfl) ?_
  obtain ⟨hP1, hP2⟩ := fz_Papp hN.1
  obtain ⟨hD1, hD2, hdis⟩ := fz_Dapp hN.2.1
  have hF : lw_F (ad, G.2) (aM, G.2) s := by
    refine ⟨⟨hCP.1, fz_wl_I hD2⟩, ⟨hCP.1, fz_wl_I hD1⟩, fun i j hi hj he => ?_, fun i hi => ?_, fun j hj => ?_⟩
    · exact hdis _ (List.mem_of_getElem? (fz_wl_at (aM, G.2) fz_shM fz_0M hj)) _ (List.mem_of_getElem? (fz_wl_at (ad, G.2) fz_shC fz_0C hi)) he.symm
    · exact hD2.2 _ _ (fz_wl_at (ad, G.2) fz_shC fz_0C hi)
    · exact hD1.2 _ _ (fz_wl_at (aM, G.2) fz_shM fz_0M hj)
  exact law_loop hp C hr hlocks hF hX hbl hL (L + 1) 0 fz_0C fz_0M H locs ls (by omega) (by omega) h0 ⟨hP2, hP1, hN.2.2⟩ (lv_sub hl [3, 2, 1, 0] rfl)
