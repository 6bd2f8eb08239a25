theorem fz_arrq (c : ClassId) (N : Nat) (f g : Nat → Option Nat) (h : ∀ i, i < N → f i = g i) : vp_cell c (N, .inr (.inr (.inr (.inr f)))) = vp_cell c (N, .inr (.inr (.inr (.inr g)))) := by
  rw [vp_cell_q, vp_cell_q]
  unfold arrV
  congr 2
  funext j
  show va_rf (f j.val) = va_rf (g j.val)
  rw [h j.val j.isLt]
theorem fz_Nq {D : va_G} {A : Nat → Prop} {s : State} {w1 w2 : va_W} {q N : Nat} {c : ClassId} {f : Nat → Option Nat} {H : Heap} {locs : List Loc} (g : Nat → Option Nat) (hN : fz_N D A s (w1 ++ (q, .inl (c, N, .inr (.inr (.inr (.inr f))))) :: w2) H locs) (h : ∀ i, i < N → f i = g i) : fz_N D A s (w1 ++ (q, .inl (c, N, .inr (.inr (.inr (.inr g))))) :: w2) H locs := by
  have hm := fz_Pm.mp hN.1
  have hd := fz_Dm.mp hN.2.1
  refine ⟨fz_Pm.mpr fun x hx => ?_, fz_Dm.mpr ⟨by simpa using hd.1, fun x hx => ?_⟩, hN.2.2⟩
  · rcases List.mem_append.mp hx with hx | hx
    · exact hm x (List.mem_append_left _ hx)
    · rcases List.mem_cons.mp hx with rfl | hx
      · have h3 : H[q]? = some (vp_cell c (N, .inr (.inr (.inr (.inr f))))) := hm (q, .inl (c, N, .inr (.inr (.inr (.inr f))))) (List.mem_append_right _ List.mem_cons_self)
        rw [fz_arrq c N f g h] at h3
        exact h3
      · exact hm x (List.mem_append_right _ (List.mem_cons_of_mem _ hx))
  · rcases List.mem_append.mp hx with hx | hx
    · exact hd.2 x (List.mem_append_left _ hx)
    · rcases List.mem_cons.mp hx with rfl | hx
      · exact hd.2 (q, .inl (c, N, .inr (.inr (.inr (.inr f))))) (List.mem_append_right _ List.mem_cons_self)
      · exact hd.2 x (List.mem_append_right _ (List.mem_cons_of_mem _ hx))
section FZMU
variable {p : Program} {l : Launch} {e : Env} {R : Room} {s : State} {m : MethodId} {args : Array Value} {below : List Frame} {meth : Method} {c : Code} {H : Heap} {locs : List Loc} {Q : State → Prop} {cc : ByteArray} {nL pc cells slots : Nat} {own : String} {ls : Array Slot} {rest : List Value}
variable {G : fz_G} {A : Nat → Prop} {ws : va_W} {index : Nat}
theorem fz_nmul (C : CallFix p m c cc nL s args wsL_law own) (hC : fz_CP G s) (hA : ∀ q, s.heap.size ≤ q → A q) (hN : fz_N G.2.1 A s ws H locs) (h1 : Cond.classLink own index "[[I" ∈ wsL_law) (hcells : cells + 7 ≤ R.cells) (hslots : slots + 54 ≤ R.slots) (hdg : decode cc pc = .ok (.multianewarray index 2, 4))
    (k : ∀ (q : Nat) (r : Nat → Nat) (H1 : Heap), fz_N G.2.1 A s ((q, .inl (G.2.2 4, 6, .inr (.inr (.inr (.inr (fun i => if i < 6 then some (r i) else none)))))) :: (r 0, .inl (G.2.2 0, 8, .inl (fun _ => 0))) :: (r 1, .inl (G.2.2 0, 8, .inl (fun _ => 0))) :: (r 2, .inl (G.2.2 0, 8, .inl (fun _ => 0))) :: (r 3, .inl (G.2.2 0, 8, .inl (fun _ => 0))) :: (r 4, .inl (G.2.2 0, 8, .inl (fun _ => 0))) :: (r 5, .inl (G.2.2 0, 8, .inl (fun _ => 0))) :: ws) H1 locs → W p l e R s m args below meth c H1 locs (cells + 7) (slots + 54) Q (F0 m (pc + 4) ls (.ref q :: rest))) : W p l e R s m args below meth c H locs cells slots Q (F0 m pc ls (.int 8 :: .int 6 :: rest)) := by
  sorry
end FZMU
