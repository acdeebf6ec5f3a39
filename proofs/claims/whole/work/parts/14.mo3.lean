def wd_Mo_isLeast (cA : Nat → ClassId) (a_r : Nat → Nat) (r_manner : Int32) (r_above : Int32) (r_below : Int32) (r_nodes : Int32) (r_arcs : Int32) (r_left : Int32) (r_isBest : Int32) (r_arePlateaus : Int32) (r_all : Int64) (r_a : Int64) (r_b : Int64) (r_ties : Int32) (r_z : Int32) (r_plateaus : Int32) (r_found : Nat → Int32) : va_W := [(a_r 0, .inr (8, [.int r_manner, .int r_above, .int r_below, .int r_nodes, .int r_arcs, .int r_left, .ref (a_r 1), .ref (a_r 2), .ref (a_r 3), .ref (a_r 4), .ref (a_r 5), .int r_isBest, .int r_arePlateaus, .ref (a_r 6), .ref (a_r 7), .ref (a_r 8), .long r_all, .ref (a_r 9), .ref (a_r 10), .long r_a, .long r_b, .ref (a_r 11), .ref (a_r 12), .ref (a_r 13), .ref (a_r 14), .ref (a_r 15), .int r_ties, .ref (a_r 16), .ref (a_r 17), .ref (a_r 18), .int r_z, .int r_plateaus, .ref (a_r 19), .ref (a_r 20), .ref (a_r 21), .ref (a_r 22)])), (a_r 14, .inl (cA 0, 9, .inl r_found))]
noncomputable def s_Mo_isLeast_2 (x1 : Int32) (r_found : Nat → Int32) (zz : Int32) (back exit : Int32 → Option Int32) : Option Int32 :=
  (if x1 ≤ zz then (exit zz) else (if inb zz 9 then (if inb x1 9 then (if (r_found zz.toNatClampNeg) = (r_found x1.toNatClampNeg) then some (0 : Int32) else (back (zz + 1))) else none) else none))
noncomputable def m_Mo_isLeast (r_found : Nat → Int32) (v1 : Int32) : Option Int32 :=
  (loopC (s_Mo_isLeast_2 v1 r_found) (fun z2 : Int32 => some (1 : Int32)) FU (0 : Int32))
set_option maxHeartbeats 4000000 in
set_option maxRecDepth 100000 in
theorem c_Mo_isLeast (l : Launch) (D : va_G) (cA : Nat → ClassId) (a_r : Nat → Nat) (sz : Nat) (r_manner : Int32) (r_above : Int32) (r_below : Int32) (r_nodes : Int32) (r_arcs : Int32) (r_left : Int32) (r_isBest : Int32) (r_arePlateaus : Int32) (r_all : Int64) (r_a : Int64) (r_b : Int64) (r_ties : Int32) (r_z : Int32) (r_plateaus : Int32) (r_found : Nat → Int32) (v1 : Int32) (out : Int32) (h : m_Mo_isLeast r_found v1 = some out) : Met l y_Mo_isLeast w_Mo_isLeast ({ frames := 0, cells := 0, slots := 0, locals := 0 }) (va_Pc [.ref (a_r 0), .int v1] (fun U => U.heap.size = sz ∧ va_P D cls9 (wd_Mo_isLeast cA a_r r_manner r_above r_below r_nodes r_arcs r_left r_isBest r_arePlateaus r_all r_a r_b r_ties r_z r_plateaus r_found) U.heap ∧ va_K D cls9 (tys5 cA) U ∧ va_D (fun _ => True) (wd_Mo_isLeast cA a_r r_manner r_above r_below r_nodes r_arcs r_left r_isBest r_arePlateaus r_all r_a r_b r_ties r_z r_plateaus r_found))) (va_Qi (fun (rr : Int32) (uu : Unit) => rr = out) (fun (uu : Unit) (t : State) => va_P D cls9 (wd_Mo_isLeast cA a_r r_manner r_above r_below r_nodes r_arcs r_left r_isBest r_arePlateaus r_all r_a r_b r_ties r_z r_plateaus r_found) t.heap ∧ va_K D cls9 (tys5 cA) t ∧ va_D (va_A (wd_Mo_isLeast cA a_r r_manner r_above r_below r_nodes r_arcs r_left r_isBest r_arePlateaus r_all r_a r_b r_ties r_z r_plateaus r_found) sz) (wd_Mo_isLeast cA a_r r_manner r_above r_below r_nodes r_arcs r_left r_isBest r_arePlateaus r_all r_a r_b r_ties r_z r_plateaus r_found)) (va_A (wd_Mo_isLeast cA a_r r_manner r_above r_below r_nodes r_arcs r_left r_isBest r_arePlateaus r_all r_a r_b r_ties r_z r_plateaus r_found) sz)) 0 0 (va_A (wd_Mo_isLeast cA a_r r_manner r_above r_below r_nodes r_arcs r_left r_isBest r_arePlateaus r_all r_a r_b r_ties r_z r_plateaus r_found) sz) := by
  refine Met.ofW (cc := b_Mo_isLeast) (maxL := 3) (ret := (Option.some Jvm.ClassFile.FieldType.boolean)) (by decide) rfl ?_
  intro p e s m args below meth c s₁ B hml hv
  obtain ⟨rfl, hsz, hP, hK, hD0⟩ := hv
  have hx := B.exec
  have hb := B.bytes
  have hr := B.returns
  have hts := atoms_spec (ws := w_Mo_isLeast) B.pre
  have hal : ∀ w ∈ ALLW, w.before _ s = true := fun w hw => hts w (List.mem_cons_of_mem _ hw)
  have hown : s.vm.findClass R_Mo = some m.cls := findClass_of_methodNamed B.named
  have hlocks := B.notSynchronized
  subst hsz
  have hD := hD0.self (sz := s.heap.size)
  generalize hAe : va_A (wd_Mo_isLeast cA a_r r_manner r_above r_below r_nodes r_arcs r_left r_isBest r_arePlateaus r_all r_a r_b r_ties r_z r_plateaus r_found) s.heap.size = A at hD ⊢
  have hA : ∀ q : Nat, s.heap.size ≤ q → A q := fun q h => by rw [← hAe]; exact Or.inr h
  have hS : va_S A s.heap s.heap [] := va_S.rf
  have hl := lv_entry ([.ref (a_r 0), .int v1]) (n := 3) (Nat.le_of_ble_eq_true rfl)
  rw [lg_entry_eq]
  generalize (lg_sl ([.ref (a_r 0), .int v1]) ++ List.replicate (3 - (lg_sl ([.ref (a_r 0), .int v1])).length) Slot.unset).toArray = ls at hl ⊢
  have hl : lv_has ls 3 [(0, .ref (a_r 0)), (1, .int v1)] := hl
  refine wg (fun G hG => ?_)
  refine cast (hG _ _ _ _ _ _ _).symm ?_
  obtain ⟨H, locs, hHl, hS⟩ : ∃ (H : Heap) (locs : List Loc), (H = s.heap ∧ locs = []) ∧ va_S A s.heap H locs := ⟨s.heap, [], ⟨rfl, rfl⟩, hS⟩
  have hP : va_P D cls9 (wd_Mo_isLeast cA a_r r_manner r_above r_below r_nodes r_arcs r_left r_isBest r_arePlateaus r_all r_a r_b r_ties r_z r_plateaus r_found) H := by rw [hHl.1]; exact hP
  rw [← hHl.1, ← hHl.2]
  clear hHl
  refine lv_iconst (v := 0) hx hb d_Mo_isLeast_0 (by decide) ?_
  refine lv_istore_n (lv' := [(2, .int (0 : Int32)), (0, .ref (a_r 0)), (1, .int v1)]) hx hb d_Mo_isLeast_1 rfl hl (by decide) rfl (fun ls hl => ?_)
  refine cast (hG _ _ _ _ _ _ _) (lp_go2 h (fun zz : Int32 => ∀ (H : Heap) (locs : List Loc) (ls : Array Slot), va_P D cls9 (wd_Mo_isLeast cA a_r r_manner r_above r_below r_nodes r_arcs r_left r_isBest r_arePlateaus r_all r_a r_b r_ties r_z r_plateaus r_found) H → va_D A (wd_Mo_isLeast cA a_r r_manner r_above r_below r_nodes r_arcs r_left r_isBest r_arePlateaus r_all r_a r_b r_ties r_z r_plateaus r_found) → va_S A s.heap H locs → lv_has ls 3 [(2, .int zz), (0, .ref (a_r 0)), (1, .int v1)] → G H locs 0 0 ls 30 []) ?_ (fun zz : Int32 => ∀ (H : Heap) (locs : List Loc) (ls : Array Slot), va_P D cls9 (wd_Mo_isLeast cA a_r r_manner r_above r_below r_nodes r_arcs r_left r_isBest r_arePlateaus r_all r_a r_b r_ties r_z r_plateaus r_found) H → va_D A (wd_Mo_isLeast cA a_r r_manner r_above r_below r_nodes r_arcs r_left r_isBest r_arePlateaus r_all r_a r_b r_ties r_z r_plateaus r_found) → va_S A s.heap H locs → lv_has ls 3 [(2, .int zz), (0, .ref (a_r 0)), (1, .int v1)] → G H locs 0 0 ls 2 []) ?_ _ _ ls hP hD hS (lv_sub hl [0, 1, 2] rfl))
  · intro zz h H locs ls hP hD hS hl
    obtain ⟨x2_2e, rfl⟩ : ∃ q, q = zz := ⟨_, rfl⟩
    have hP : va_P D cls9 (wd_Mo_isLeast cA a_r r_manner r_above r_below r_nodes r_arcs r_left r_isBest r_arePlateaus r_all r_a r_b r_ties r_z r_plateaus r_found) H := hP
    have hD : va_D A (wd_Mo_isLeast cA a_r r_manner r_above r_below r_nodes r_arcs r_left r_isBest r_arePlateaus r_all r_a r_b r_ties r_z r_plateaus r_found) := hD
    have hl : lv_has ls 3 [(2, .int x2_2e), (0, .ref (a_r 0)), (1, .int v1)] := hl
    refine cast (hG _ _ _ _ _ _ _).symm ?_
    refine lv_iconst (v := 1) hx hb d_Mo_isLeast_30 (by decide) ?_
    exact W.zret (v := (1 : Int32)) hx hb hr (by decide) (fun t ht hW => ⟨⟨(1 : Int32), (), rfl, Option.some.inj h, by rw [ht]; exact hP, va_K.moved hW.alike hK, hD⟩, hS.F ht⟩) hS.2.2 d_Mo_isLeast_31
  · intro back exit zz hB_2 hE_2 h H locs ls hP hD hS hl
    obtain ⟨x2_2, rfl⟩ : ∃ q, q = zz := ⟨_, rfl⟩
    have hP : va_P D cls9 (wd_Mo_isLeast cA a_r r_manner r_above r_below r_nodes r_arcs r_left r_isBest r_arePlateaus r_all r_a r_b r_ties r_z r_plateaus r_found) H := hP
    have hD : va_D A (wd_Mo_isLeast cA a_r r_manner r_above r_below r_nodes r_arcs r_left r_isBest r_arePlateaus r_all r_a r_b r_ties r_z r_plateaus r_found) := hD
    have hl : lv_has ls 3 [(2, .int x2_2), (0, .ref (a_r 0)), (1, .int v1)] := hl
    refine cast (hG _ _ _ _ _ _ _).symm ?_
    refine lv_iload_n hx hb d_Mo_isLeast_2 rfl (lv_at hl 0 rfl) ?_
    refine lv_iload_n hx hb d_Mo_isLeast_3 rfl (lv_at hl 2 rfl) ?_
    refine lv_icmp_ge (tgt := 30) hx hb d_Mo_isLeast_4 (by decide) (fun c_1 => ?_) (fun c_1 => ?_)
    · have h := ifp (c_1) h
      exact cast (hG _ _ _ _ _ _ _) (hE_2 x2_2 h _ _ _ hP hD hS (lv_sub hl [0, 1, 2] rfl))
    · have h := ifn (c_1) h
      refine lv_aload_n hx hb d_Mo_isLeast_7 rfl (lv_at hl 1 rfl) ?_
      refine va_get (ci := 8) (v := .ref (a_r 14)) (C := R_Mo) (T := F_Mo) (N := 36) hx hb hal in_Mo hown hK hP 0 rfl rfl 24 (by decide) (hal _ kw_661) (fun _ h9 => h9) rfl d_Mo_isLeast_8 ?_
      refine lv_iload_n hx hb d_Mo_isLeast_11 rfl (lv_at hl 0 rfl) ?_
      obtain ⟨g_2, h⟩ := gd h
      refine va_iald hx hb hK hP 1 0 rfl rfl (inb_in g_2) d_Mo_isLeast_12 ?_
      refine lv_aload_n hx hb d_Mo_isLeast_13 rfl (lv_at hl 1 rfl) ?_
      refine va_get (ci := 8) (v := .ref (a_r 14)) (C := R_Mo) (T := F_Mo) (N := 36) hx hb hal in_Mo hown hK hP 0 rfl rfl 24 (by decide) (hal _ kw_661) (fun _ h9 => h9) rfl d_Mo_isLeast_14 ?_
      refine lv_iload_n hx hb d_Mo_isLeast_17 rfl (lv_at hl 2 rfl) ?_
      obtain ⟨g_3, h⟩ := gd h
      refine va_iald hx hb hK hP 1 0 rfl rfl (inb_in g_3) d_Mo_isLeast_18 ?_
      refine lv_icmp_ne (tgt := 24) hx hb d_Mo_isLeast_19 (by decide) (fun c_4 => ?_) (fun c_4 => ?_)
      · have h := ifn (c_4) h
        refine lv_iinc (v := (x2_2 + 1)) (lv' := [(2, .int (x2_2 + 1)), (0, .ref (a_r 0)), (1, .int v1)]) hx hb d_Mo_isLeast_24 hl (k := 0) rfl rfl (by decide) rfl (fun ls hl => ?_)
        refine lv_goto (tgt := 2) hx hb d_Mo_isLeast_27 (by decide) ?_
        exact cast (hG _ _ _ _ _ _ _) (hB_2 (x2_2 + 1) h _ _ _ hP hD hS (lv_sub hl [0, 1, 2] rfl))
      · have h := ifp (c_4) h
        refine lv_iconst (v := 0) hx hb d_Mo_isLeast_22 (by decide) ?_
        exact W.zret (v := (0 : Int32)) hx hb hr (by decide) (fun t ht hW => ⟨⟨(0 : Int32), (), rfl, Option.some.inj h, by rw [ht]; exact hP, va_K.moved hW.alike hK, hD⟩, hS.F ht⟩) hS.2.2 d_Mo_isLeast_23
def wd_Mo_mergeOnce (cA : Nat → ClassId) (a_r : Nat → Nat) (r_manner : Int32) (r_above : Int32) (r_below : Int32) (r_nodes : Int32) (r_arcs : Int32) (r_left : Int32) (r_isBest : Int32) (r_arePlateaus : Int32) (r_all : Int64) (r_a : Int64) (r_b : Int64) (r_ties : Int32) (r_z : Int32) (r_plateaus : Int32) (r_between : Nat → Int32) (r_has : Nat → Int32) (r_sums : Nat → Int64) (r_sizes : Nat → Int64) (r_names : Nat → Int32) (r_found : Nat → Int32) (r_tried : Nat → Int32) : va_W := [(a_r 0, .inr (8, [.int r_manner, .int r_above, .int r_below, .int r_nodes, .int r_arcs, .int r_left, .ref (a_r 1), .ref (a_r 2), .ref (a_r 3), .ref (a_r 4), .ref (a_r 5), .int r_isBest, .int r_arePlateaus, .ref (a_r 6), .ref (a_r 7), .ref (a_r 8), .long r_all, .ref (a_r 9), .ref (a_r 10), .long r_a, .long r_b, .ref (a_r 11), .ref (a_r 12), .ref (a_r 13), .ref (a_r 14), .ref (a_r 15), .int r_ties, .ref (a_r 16), .ref (a_r 17), .ref (a_r 18), .int r_z, .int r_plateaus, .ref (a_r 19), .ref (a_r 20), .ref (a_r 21), .ref (a_r 22)])), (a_r 6, .inl (cA 0, 81, .inl r_between)), (a_r 8, .inl (cA 0, 9, .inl r_has)), (a_r 9, .inl (cA 1, 9, .inr (.inl r_sums))), (a_r 10, .inl (cA 1, 9, .inr (.inl r_sizes))), (a_r 11, .inl (cA 0, 9, .inl r_names)), (a_r 14, .inl (cA 0, 9, .inl r_found)), (a_r 16, .inl (cA 0, 9, .inl r_tried))]
noncomputable def s_Mo_mergeOnce_28 (x6 : Int32) (r_above : Int32) (r_all : Int64) (r_below : Int32) (r_between : Nat → Int32) (r_found : Nat → Int32) (r_has : Nat → Int32) (r_manner : Int32) (r_nodes : Int32) (zz : Int32 × Int64 × Int32 × Int32 × Int32 × Int64 × Int64 × (Nat → Int32) × (Nat → Int64) × (Nat → Int64) × (Nat → Int32)) (back exit : (Int32 × Int64 × Int32 × Int32 × Int32 × Int64 × Int64 × (Nat → Int32) × (Nat → Int64) × (Nat → Int64) × (Nat → Int32)) → Option (Int64 × Int64 × (Nat → Int64) × (Nat → Int64) × (Nat → Int32) × (Nat → Int32) × (Nat → Int32))) : Option (Int64 × Int64 × (Nat → Int64) × (Nat → Int64) × (Nat → Int32) × (Nat → Int32) × (Nat → Int32)) :=
  (if r_nodes ≤ zz.2.2.2.2.1 then (exit (zz.1, zz.2.1, zz.2.2.1, zz.2.2.2.1, zz.2.2.2.2.1, zz.2.2.2.2.2.1, zz.2.2.2.2.2.2.1, zz.2.2.2.2.2.2.2.1, zz.2.2.2.2.2.2.2.2.1, zz.2.2.2.2.2.2.2.2.2.1, zz.2.2.2.2.2.2.2.2.2.2)) else ((m_Mo_isLeast r_found x6).bind (fun r40 : Int32 => (if r40 = 0 then (back (zz.1, zz.2.1, zz.2.2.1, zz.2.2.2.1, (zz.2.2.2.2.1 + 1), zz.2.2.2.2.2.1, zz.2.2.2.2.2.2.1, zz.2.2.2.2.2.2.2.1, zz.2.2.2.2.2.2.2.2.1, zz.2.2.2.2.2.2.2.2.2.1, zz.2.2.2.2.2.2.2.2.2.2)) else ((m_Mo_isLeast r_found zz.2.2.2.2.1).bind (fun r49 : Int32 => (if r49 = 0 then (back (zz.1, zz.2.1, zz.2.2.1, zz.2.2.2.1, (zz.2.2.2.2.1 + 1), zz.2.2.2.2.2.1, zz.2.2.2.2.2.2.1, zz.2.2.2.2.2.2.2.1, zz.2.2.2.2.2.2.2.2.1, zz.2.2.2.2.2.2.2.2.2.1, zz.2.2.2.2.2.2.2.2.2.2)) else ((m_Mo_copy r_nodes r_found zz.2.2.2.2.2.2.2.2.2.2).bind (fun r67 : (Nat → Int32) => ((m_Mo_mergeIn r_nodes zz.2.2.2.2.2.2.2.1 r67 x6 zz.2.2.2.2.1).bind (fun r79 : (Nat → Int32) × (Nat → Int32) => ((m_Mo_valueOf r_manner r_above r_below r_nodes r_all r_between r_has zz.2.2.2.2.2.2.2.2.2.1 zz.2.2.2.2.2.2.2.2.1 r79.2).bind (fun r87 : Int64 × Int64 × Int64 × (Nat → Int64) × (Nat → Int64) => (jn (fun z103 : Unit => (back ((1 : Int32), r87.1, x6, zz.2.2.2.2.1, (zz.2.2.2.2.1 + 1), r87.2.1, r87.2.2.1, r79.1, r87.2.2.2.2, r87.2.2.2.1, r79.2))) (fun j103 => (if zz.1 = 0 then (j103 ()) else (if r87.1 ≤ zz.2.1 then (back (zz.1, zz.2.1, zz.2.2.1, zz.2.2.2.1, (zz.2.2.2.2.1 + 1), r87.2.1, r87.2.2.1, r79.1, r87.2.2.2.2, r87.2.2.2.1, r79.2)) else (j103 ()))))))))))))))))))
noncomputable def s_Mo_mergeOnce_13 (r_above : Int32) (r_all : Int64) (r_below : Int32) (r_between : Nat → Int32) (r_found : Nat → Int32) (r_has : Nat → Int32) (r_manner : Int32) (r_nodes : Int32) (zz : Int32 × Int64 × Int32 × Int32 × Int32 × Int64 × Int64 × (Nat → Int32) × (Nat → Int64) × (Nat → Int64) × (Nat → Int32)) (back exit : (Int32 × Int64 × Int32 × Int32 × Int32 × Int64 × Int64 × (Nat → Int32) × (Nat → Int64) × (Nat → Int64) × (Nat → Int32)) → Option (Int64 × Int64 × (Nat → Int64) × (Nat → Int64) × (Nat → Int32) × (Nat → Int32) × (Nat → Int32))) : Option (Int64 × Int64 × (Nat → Int64) × (Nat → Int64) × (Nat → Int32) × (Nat → Int32) × (Nat → Int32)) :=
  (if r_nodes ≤ zz.2.2.2.2.1 then (exit (zz.1, zz.2.1, zz.2.2.1, zz.2.2.2.1, zz.2.2.2.2.1, zz.2.2.2.2.2.1, zz.2.2.2.2.2.2.1, zz.2.2.2.2.2.2.2.1, zz.2.2.2.2.2.2.2.2.1, zz.2.2.2.2.2.2.2.2.2.1, zz.2.2.2.2.2.2.2.2.2.2)) else (loopC (s_Mo_mergeOnce_28 zz.2.2.2.2.1 r_above r_all r_below r_between r_found r_has r_manner r_nodes) (fun z28 : Int32 × Int64 × Int32 × Int32 × Int32 × Int64 × Int64 × (Nat → Int32) × (Nat → Int64) × (Nat → Int64) × (Nat → Int32) => (back (z28.1, z28.2.1, z28.2.2.1, z28.2.2.2.1, (zz.2.2.2.2.1 + 1), z28.2.2.2.2.2.1, z28.2.2.2.2.2.2.1, z28.2.2.2.2.2.2.2.1, z28.2.2.2.2.2.2.2.2.1, z28.2.2.2.2.2.2.2.2.2.1, z28.2.2.2.2.2.2.2.2.2.2))) FU (zz.1, zz.2.1, zz.2.2.1, zz.2.2.2.1, (zz.2.2.2.2.1 + (1 : Int32)), zz.2.2.2.2.2.1, zz.2.2.2.2.2.2.1, zz.2.2.2.2.2.2.2.1, zz.2.2.2.2.2.2.2.2.1, zz.2.2.2.2.2.2.2.2.2.1, zz.2.2.2.2.2.2.2.2.2.2)))
noncomputable def m_Mo_mergeOnce (r_manner : Int32) (r_above : Int32) (r_below : Int32) (r_nodes : Int32) (r_all : Int64) (r_a : Int64) (r_b : Int64) (r_between : Nat → Int32) (r_has : Nat → Int32) (r_sums : Nat → Int64) (r_sizes : Nat → Int64) (r_names : Nat → Int32) (r_found : Nat → Int32) (r_tried : Nat → Int32) : Option (Int64 × Int64 × (Nat → Int64) × (Nat → Int64) × (Nat → Int32) × (Nat → Int32) × (Nat → Int32)) :=
  (loopC (s_Mo_mergeOnce_13 r_above r_all r_below r_between r_found r_has r_manner r_nodes) (fun z13 : Int32 × Int64 × Int32 × Int32 × Int32 × Int64 × Int64 × (Nat → Int32) × (Nat → Int64) × (Nat → Int64) × (Nat → Int32) => ((m_Mo_mergeIn r_nodes z13.2.2.2.2.2.2.2.1 r_found z13.2.2.1 z13.2.2.2.1).bind (fun r137 : (Nat → Int32) × (Nat → Int32) => some (z13.2.2.2.2.2.1, z13.2.2.2.2.2.2.1, z13.2.2.2.2.2.2.2.2.2.1, z13.2.2.2.2.2.2.2.2.1, r137.1, r137.2, z13.2.2.2.2.2.2.2.2.2.2)))) FU ((0 : Int32), (0 : Int64), (0 : Int32), (0 : Int32), (0 : Int32), r_a, r_b, r_names, r_sizes, r_sums, r_tried))
set_option maxHeartbeats 4000000 in
set_option maxRecDepth 100000 in
theorem c_Mo_mergeOnce (l : Launch) (D : va_G) (cA : Nat → ClassId) (a_r : Nat → Nat) (sz : Nat) (r_manner : Int32) (r_above : Int32) (r_below : Int32) (r_nodes : Int32) (r_arcs : Int32) (r_left : Int32) (r_isBest : Int32) (r_arePlateaus : Int32) (r_all : Int64) (r_a : Int64) (r_b : Int64) (r_ties : Int32) (r_z : Int32) (r_plateaus : Int32) (r_between : Nat → Int32) (r_has : Nat → Int32) (r_sums : Nat → Int64) (r_sizes : Nat → Int64) (r_names : Nat → Int32) (r_found : Nat → Int32) (r_tried : Nat → Int32)  (out : Int64 × Int64 × (Nat → Int64) × (Nat → Int64) × (Nat → Int32) × (Nat → Int32) × (Nat → Int32)) (h : m_Mo_mergeOnce r_manner r_above r_below r_nodes r_all r_a r_b r_between r_has r_sums r_sizes r_names r_found r_tried = some out) : Met l y_Mo_mergeOnce w_Mo_mergeOnce ({ frames := 2, cells := 0, slots := 0, locals := 49 }) (va_Pc [.ref (a_r 0)] (fun U => U.heap.size = sz ∧ va_P D cls9 (wd_Mo_mergeOnce cA a_r r_manner r_above r_below r_nodes r_arcs r_left r_isBest r_arePlateaus r_all r_a r_b r_ties r_z r_plateaus r_between r_has r_sums r_sizes r_names r_found r_tried) U.heap ∧ va_K D cls9 (tys5 cA) U ∧ va_D (fun _ => True) (wd_Mo_mergeOnce cA a_r r_manner r_above r_below r_nodes r_arcs r_left r_isBest r_arePlateaus r_all r_a r_b r_ties r_z r_plateaus r_between r_has r_sums r_sizes r_names r_found r_tried))) (va_Qv (fun uu : Int64 × Int64 × (Nat → Int64) × (Nat → Int64) × (Nat → Int32) × (Nat → Int32) × (Nat → Int32) => uu = out) (fun (uu : Int64 × Int64 × (Nat → Int64) × (Nat → Int64) × (Nat → Int32) × (Nat → Int32) × (Nat → Int32)) (t : State) => va_P D cls9 (wd_Mo_mergeOnce cA a_r r_manner r_above r_below r_nodes r_arcs r_left r_isBest r_arePlateaus r_all uu.1 uu.2.1 r_ties r_z r_plateaus r_between r_has uu.2.2.1 uu.2.2.2.1 uu.2.2.2.2.1 uu.2.2.2.2.2.1 uu.2.2.2.2.2.2) t.heap ∧ va_K D cls9 (tys5 cA) t ∧ va_D (va_A (wd_Mo_mergeOnce cA a_r r_manner r_above r_below r_nodes r_arcs r_left r_isBest r_arePlateaus r_all r_a r_b r_ties r_z r_plateaus r_between r_has r_sums r_sizes r_names r_found r_tried) sz) (wd_Mo_mergeOnce cA a_r r_manner r_above r_below r_nodes r_arcs r_left r_isBest r_arePlateaus r_all uu.1 uu.2.1 r_ties r_z r_plateaus r_between r_has uu.2.2.1 uu.2.2.2.1 uu.2.2.2.2.1 uu.2.2.2.2.2.1 uu.2.2.2.2.2.2)) (va_A (wd_Mo_mergeOnce cA a_r r_manner r_above r_below r_nodes r_arcs r_left r_isBest r_arePlateaus r_all r_a r_b r_ties r_z r_plateaus r_between r_has r_sums r_sizes r_names r_found r_tried) sz)) 0 0 (va_A (wd_Mo_mergeOnce cA a_r r_manner r_above r_below r_nodes r_arcs r_left r_isBest r_arePlateaus r_all r_a r_b r_ties r_z r_plateaus r_between r_has r_sums r_sizes r_names r_found r_tried) sz) := by
  refine Met.ofW (cc := b_Mo_mergeOnce) (maxL := 10) (ret := (Option.none : Option Jvm.ClassFile.FieldType)) (by decide) rfl ?_
  intro p e s m args below meth c s₁ B hml hv
  obtain ⟨rfl, hsz, hP, hK, hD0⟩ := hv
  have hx := B.exec
  have hb := B.bytes
  have hr := B.returns
  have hts := atoms_spec (ws := w_Mo_mergeOnce) B.pre
  have hal : ∀ w ∈ ALLW, w.before _ s = true := fun w hw => hts w (List.mem_cons_of_mem _ hw)
  have hown : s.vm.findClass R_Mo = some m.cls := findClass_of_methodNamed B.named
  have hlocks := B.notSynchronized
  subst hsz
  have hD := hD0.self (sz := s.heap.size)
  generalize hAe : va_A (wd_Mo_mergeOnce cA a_r r_manner r_above r_below r_nodes r_arcs r_left r_isBest r_arePlateaus r_all r_a r_b r_ties r_z r_plateaus r_between r_has r_sums r_sizes r_names r_found r_tried) s.heap.size = A at hD ⊢
  have hA : ∀ q : Nat, s.heap.size ≤ q → A q := fun q h => by rw [← hAe]; exact Or.inr h
  have hS : va_S A s.heap s.heap [] := va_S.rf
  have hl := lv_entry ([.ref (a_r 0)]) (n := 10) (Nat.le_of_ble_eq_true rfl)
  rw [lg_entry_eq]
  generalize (lg_sl ([.ref (a_r 0)]) ++ List.replicate (10 - (lg_sl ([.ref (a_r 0)])).length) Slot.unset).toArray = ls at hl ⊢
  have hl : lv_has ls 10 [(0, .ref (a_r 0))] := hl
  refine wg (fun G hG => ?_)
  refine cast (hG _ _ _ _ _ _ _).symm ?_
  obtain ⟨H, locs, hHl, hS⟩ : ∃ (H : Heap) (locs : List Loc), (H = s.heap ∧ locs = []) ∧ va_S A s.heap H locs := ⟨s.heap, [], ⟨rfl, rfl⟩, hS⟩
  have hP : va_P D cls9 (wd_Mo_mergeOnce cA a_r r_manner r_above r_below r_nodes r_arcs r_left r_isBest r_arePlateaus r_all r_a r_b r_ties r_z r_plateaus r_between r_has r_sums r_sizes r_names r_found r_tried) H := by rw [hHl.1]; exact hP
  rw [← hHl.1, ← hHl.2]
  clear hHl
  refine lv_iconst (v := 0) hx hb d_Mo_mergeOnce_0 (by decide) ?_
  refine lv_istore_n (lv' := [(1, .int (0 : Int32)), (0, .ref (a_r 0))]) hx hb d_Mo_mergeOnce_1 rfl hl (by decide) rfl (fun ls hl => ?_)
  refine lv_lconst (v := 0) hx hb d_Mo_mergeOnce_2 (by decide) ?_
  refine lv_lstore_n (lv' := [(2, .long (0 : Int64)), (1, .int (0 : Int32)), (0, .ref (a_r 0))]) hx hb d_Mo_mergeOnce_3 rfl hl (by decide) rfl (fun ls hl => ?_)
  refine lv_iconst (v := 0) hx hb d_Mo_mergeOnce_4 (by decide) ?_
  refine lv_istore (lv' := [(4, .int (0 : Int32)), (2, .long (0 : Int64)), (1, .int (0 : Int32)), (0, .ref (a_r 0))]) hx hb d_Mo_mergeOnce_5 hl (by decide) rfl (fun ls hl => ?_)
  refine lv_iconst (v := 0) hx hb d_Mo_mergeOnce_7 (by decide) ?_
  refine lv_istore (lv' := [(5, .int (0 : Int32)), (4, .int (0 : Int32)), (2, .long (0 : Int64)), (1, .int (0 : Int32)), (0, .ref (a_r 0))]) hx hb d_Mo_mergeOnce_8 hl (by decide) rfl (fun ls hl => ?_)
  refine lv_iconst (v := 0) hx hb d_Mo_mergeOnce_10 (by decide) ?_
  refine lv_istore (lv' := [(6, .int (0 : Int32)), (5, .int (0 : Int32)), (4, .int (0 : Int32)), (2, .long (0 : Int64)), (1, .int (0 : Int32)), (0, .ref (a_r 0))]) hx hb d_Mo_mergeOnce_11 hl (by decide) rfl (fun ls hl => ?_)
  refine cast (hG _ _ _ _ _ _ _) (lp_go2 h (fun zz : Int32 × Int64 × Int32 × Int32 × Int32 × Int64 × Int64 × (Nat → Int32) × (Nat → Int64) × (Nat → Int64) × (Nat → Int32) => ∀ (H : Heap) (locs : List Loc) (ls : Array Slot), va_P D cls9 (wd_Mo_mergeOnce cA a_r r_manner r_above r_below r_nodes r_arcs r_left r_isBest r_arePlateaus r_all zz.2.2.2.2.2.1 zz.2.2.2.2.2.2.1 r_ties r_z r_plateaus r_between r_has zz.2.2.2.2.2.2.2.2.2.1 zz.2.2.2.2.2.2.2.2.1 zz.2.2.2.2.2.2.2.1 r_found zz.2.2.2.2.2.2.2.2.2.2) H → va_D A (wd_Mo_mergeOnce cA a_r r_manner r_above r_below r_nodes r_arcs r_left r_isBest r_arePlateaus r_all zz.2.2.2.2.2.1 zz.2.2.2.2.2.2.1 r_ties r_z r_plateaus r_between r_has zz.2.2.2.2.2.2.2.2.2.1 zz.2.2.2.2.2.2.2.2.1 zz.2.2.2.2.2.2.2.1 r_found zz.2.2.2.2.2.2.2.2.2.2) → va_S A s.heap H locs → lv_has ls 10 [(6, .int zz.2.2.2.2.1), (5, .int zz.2.2.2.1), (4, .int zz.2.2.1), (2, .long zz.2.1), (1, .int zz.1), (0, .ref (a_r 0))] → G H locs 0 0 ls 128 []) ?_ (fun zz : Int32 × Int64 × Int32 × Int32 × Int32 × Int64 × Int64 × (Nat → Int32) × (Nat → Int64) × (Nat → Int64) × (Nat → Int32) => ∀ (H : Heap) (locs : List Loc) (ls : Array Slot), va_P D cls9 (wd_Mo_mergeOnce cA a_r r_manner r_above r_below r_nodes r_arcs r_left r_isBest r_arePlateaus r_all zz.2.2.2.2.2.1 zz.2.2.2.2.2.2.1 r_ties r_z r_plateaus r_between r_has zz.2.2.2.2.2.2.2.2.2.1 zz.2.2.2.2.2.2.2.2.1 zz.2.2.2.2.2.2.2.1 r_found zz.2.2.2.2.2.2.2.2.2.2) H → va_D A (wd_Mo_mergeOnce cA a_r r_manner r_above r_below r_nodes r_arcs r_left r_isBest r_arePlateaus r_all zz.2.2.2.2.2.1 zz.2.2.2.2.2.2.1 r_ties r_z r_plateaus r_between r_has zz.2.2.2.2.2.2.2.2.2.1 zz.2.2.2.2.2.2.2.2.1 zz.2.2.2.2.2.2.2.1 r_found zz.2.2.2.2.2.2.2.2.2.2) → va_S A s.heap H locs → lv_has ls 10 [(6, .int zz.2.2.2.2.1), (5, .int zz.2.2.2.1), (4, .int zz.2.2.1), (2, .long zz.2.1), (1, .int zz.1), (0, .ref (a_r 0))] → G H locs 0 0 ls 13 []) ?_ _ _ ls hP hD hS (lv_sub hl [0, 1, 2, 3, 4, 5] rfl))
  · intro zz h H locs ls hP hD hS hl
    obtain ⟨x1_13e, x2_13e, x4_13e, x5_13e, x6_13e, r_a_13e, r_b_13e, r_names_13e, r_sizes_13e, r_sums_13e, r_tried_13e⟩ := zz
    have hP : va_P D cls9 (wd_Mo_mergeOnce cA a_r r_manner r_above r_below r_nodes r_arcs r_left r_isBest r_arePlateaus r_all r_a_13e r_b_13e r_ties r_z r_plateaus r_between r_has r_sums_13e r_sizes_13e r_names_13e r_found r_tried_13e) H := hP
    have hD : va_D A (wd_Mo_mergeOnce cA a_r r_manner r_above r_below r_nodes r_arcs r_left r_isBest r_arePlateaus r_all r_a_13e r_b_13e r_ties r_z r_plateaus r_between r_has r_sums_13e r_sizes_13e r_names_13e r_found r_tried_13e) := hD
    have hl : lv_has ls 10 [(6, .int x6_13e), (5, .int x5_13e), (4, .int x4_13e), (2, .long x2_13e), (1, .int x1_13e), (0, .ref (a_r 0))] := hl
    refine cast (hG _ _ _ _ _ _ _).symm ?_
    refine lv_aload_n hx hb d_Mo_mergeOnce_128 rfl (lv_at hl 5 rfl) ?_
    refine lv_aload_n hx hb d_Mo_mergeOnce_129 rfl (lv_at hl 5 rfl) ?_
    refine va_get (ci := 8) (v := .ref (a_r 14)) (C := R_Mo) (T := F_Mo) (N := 36) hx hb hal in_Mo hown hK hP 0 rfl rfl 24 (by decide) (hal _ kw_661) (fun _ h9 => h9) rfl d_Mo_mergeOnce_130 ?_
    refine lv_iload hx hb d_Mo_mergeOnce_133 (lv_at hl 2 rfl) ?_
    refine lv_iload hx hb d_Mo_mergeOnce_135 (lv_at hl 1 rfl) ?_
    obtain ⟨o_6, hc_5, h⟩ := bd h
    have hPc := hP.sub (ws' := (wd_Mo_mergeIn cA a_r (fun _ => a_r 14) r_manner r_above r_below r_nodes r_arcs r_left r_isBest r_arePlateaus r_all r_a_13e r_b_13e r_ties r_z r_plateaus r_names_13e r_found)) [0, 5, 6] rfl
    have hDc := hD.sub (ws' := (wd_Mo_mergeIn cA a_r (fun _ => a_r 14) r_manner r_above r_below r_nodes r_arcs r_left r_isBest r_arePlateaus r_all r_a_13e r_b_13e r_ties r_z r_plateaus r_names_13e r_found)) [0, 5, 6] (by decide) rfl
    have hFc := va_free (wc := (wd_Mo_mergeIn cA a_r (fun _ => a_r 14) r_manner r_above r_below r_nodes r_arcs r_left r_isBest r_arePlateaus r_all r_a_13e r_b_13e r_ties r_z r_plateaus r_names_13e r_found)) hD hS hA [0, 5, 6] rfl
    refine va_callv (va_runV (C := R_Mo) (As := [.ref (a_r 14), .int x4_13e, .int x5_13e]) (rest := []) ⟨hx, hb, hml, hown, hal⟩ (c_Mo_mergeIn l D cA a_r (fun _ => a_r 14) H.size r_manner r_above r_below r_nodes r_arcs r_left r_isBest r_arePlateaus r_all r_a_13e r_b_13e r_ties r_z r_plateaus r_names_13e r_found x4_13e x5_13e o_6 hc_5) (cwV 3 hal (goodV kw_845 kw_847 kw_p37 kw_9 kw_848) rfl rfl rfl (by decide +kernel) ⟨Nat.le_of_ble_eq_true rfl, Nat.le_of_ble_eq_true rfl⟩) ⟨fun a U g mk q => by obtain ⟨q0, q1, qP, qK, qD⟩ := q; exact ⟨q0, q1, qP, va_K.moved (u := U) (U := U.calling g mk a) (Vm.Alike.refl U.vm) qK, qD⟩, va_recv hK hP (ci := 8) (q0 := 0) rfl rfl, fun U hU hW => ⟨rfl, by rw [hU], by rw [hU]; exact hPc, va_K.moved hW.alike hK, hDc.weaken (fun _ _ _ _ => trivial)⟩⟩ rfl rfl hl.1 rfl (lv_room (Nat.le_of_ble_eq_true rfl)) d_Mo_mergeOnce_137 ⟨Nat.le_of_ble_eq_true rfl, Nat.le_of_ble_eq_true rfl⟩) hS (fun q _ h => hFc q h) hFc (fun u t H1 locs ht hvm hw hB hz1 hk1 hS => ?_)
    obtain ⟨u_3, u_4⟩ := u
    subst hw
    obtain ⟨hP1, hK1, hD1⟩ := hB
    rw [ht] at hP1
    have hP1 : va_P D cls9 (wd_Mo_mergeIn cA a_r (fun _ => a_r 14) r_manner r_above r_below r_nodes r_arcs r_left r_isBest r_arePlateaus r_all r_a_13e r_b_13e r_ties r_z r_plateaus u_3 u_4) H1 := hP1
    obtain ⟨hP, hD⟩ := va_join (wr := ([1, 2, 3, 4, 7] : List Nat).filterMap (fun i => (wd_Mo_mergeOnce cA a_r r_manner r_above r_below r_nodes r_arcs r_left r_isBest r_arePlateaus r_all r_a_13e r_b_13e r_ties r_z r_plateaus r_between r_has r_sums_13e r_sizes_13e r_names_13e r_found r_tried_13e)[i]?)) (w1 := (wd_Mo_mergeIn cA a_r (fun _ => a_r 14) r_manner r_above r_below r_nodes r_arcs r_left r_isBest r_arePlateaus r_all r_a_13e r_b_13e r_ties r_z r_plateaus u_3 u_4)) hP hD [0, 5, 6] [1, 2, 3, 4, 7] rfl rfl (by decide) (by decide) hk1 hFc hP1 hD1
    generalize H1 = H at hP hS ⊢
    have hP : va_P D cls9 (wd_Mo_mergeOnce cA a_r r_manner r_above r_below r_nodes r_arcs r_left r_isBest r_arePlateaus r_all r_a_13e r_b_13e r_ties r_z r_plateaus r_between r_has r_sums_13e r_sizes_13e u_3 u_4 r_tried_13e) H := hP.sub [5, 0, 1, 2, 3, 6, 7, 4] rfl
    have hD : va_D A (wd_Mo_mergeOnce cA a_r r_manner r_above r_below r_nodes r_arcs r_left r_isBest r_arePlateaus r_all r_a_13e r_b_13e r_ties r_z r_plateaus r_between r_has r_sums_13e r_sizes_13e u_3 u_4 r_tried_13e) := hD.sub [5, 0, 1, 2, 3, 6, 7, 4] (by decide) rfl
    exact W.vret hx hb hr (fun t ht hW => ⟨⟨(r_a_13e, r_b_13e, r_sums_13e, r_sizes_13e, u_3, u_4, r_tried_13e), rfl, Option.some.inj h, by rw [ht]; exact hP, va_K.moved hW.alike hK, hD⟩, hS.F ht⟩) hS.2.2 d_Mo_mergeOnce_140
  · intro back exit zz hB_13 hE_13 h H locs ls hP hD hS hl
    obtain ⟨x1_13, x2_13, x4_13, x5_13, x6_13, r_a_13, r_b_13, r_names_13, r_sizes_13, r_sums_13, r_tried_13⟩ := zz
    have hP : va_P D cls9 (wd_Mo_mergeOnce cA a_r r_manner r_above r_below r_nodes r_arcs r_left r_isBest r_arePlateaus r_all r_a_13 r_b_13 r_ties r_z r_plateaus r_between r_has r_sums_13 r_sizes_13 r_names_13 r_found r_tried_13) H := hP
    have hD : va_D A (wd_Mo_mergeOnce cA a_r r_manner r_above r_below r_nodes r_arcs r_left r_isBest r_arePlateaus r_all r_a_13 r_b_13 r_ties r_z r_plateaus r_between r_has r_sums_13 r_sizes_13 r_names_13 r_found r_tried_13) := hD
    have hl : lv_has ls 10 [(6, .int x6_13), (5, .int x5_13), (4, .int x4_13), (2, .long x2_13), (1, .int x1_13), (0, .ref (a_r 0))] := hl
    refine cast (hG _ _ _ _ _ _ _).symm ?_
    refine lv_iload hx hb d_Mo_mergeOnce_13 (lv_at hl 0 rfl) ?_
    refine lv_aload_n hx hb d_Mo_mergeOnce_15 rfl (lv_at hl 5 rfl) ?_
    refine va_get (ci := 8) (v := .int r_nodes) (C := R_Mo) (T := F_Mo) (N := 36) hx hb hal in_Mo hown hK hP 0 rfl rfl 3 (by decide) (hal _ kw_640) (fun _ h9 => h9) rfl d_Mo_mergeOnce_16 ?_
    refine lv_icmp_ge (tgt := 128) hx hb d_Mo_mergeOnce_19 (by decide) (fun c_7 => ?_) (fun c_7 => ?_)
    · have h := ifp (c_7) h
      exact cast (hG _ _ _ _ _ _ _) (hE_13 (x1_13, x2_13, x4_13, x5_13, x6_13, r_a_13, r_b_13, r_names_13, r_sizes_13, r_sums_13, r_tried_13) h _ _ _ hP hD hS (lv_sub hl [0, 1, 2, 3, 4, 5] rfl))
    · have h := ifn (c_7) h
      refine lv_iload hx hb d_Mo_mergeOnce_22 (lv_at hl 0 rfl) ?_
      refine lv_iconst (v := 1) hx hb d_Mo_mergeOnce_24 (by decide) ?_
      refine lv_iadd hx hb d_Mo_mergeOnce_25 ?_
      refine lv_istore (lv' := [(7, .int (x6_13 + (1 : Int32))), (6, .int x6_13), (5, .int x5_13), (4, .int x4_13), (2, .long x2_13), (1, .int x1_13), (0, .ref (a_r 0))]) hx hb d_Mo_mergeOnce_26 hl (by decide) rfl (fun ls hl => ?_)
      refine cast (hG _ _ _ _ _ _ _) (lp_go2 h (fun zz : Int32 × Int64 × Int32 × Int32 × Int32 × Int64 × Int64 × (Nat → Int32) × (Nat → Int64) × (Nat → Int64) × (Nat → Int32) => ∀ (H : Heap) (locs : List Loc) (ls : Array Slot), va_P D cls9 (wd_Mo_mergeOnce cA a_r r_manner r_above r_below r_nodes r_arcs r_left r_isBest r_arePlateaus r_all zz.2.2.2.2.2.1 zz.2.2.2.2.2.2.1 r_ties r_z r_plateaus r_between r_has zz.2.2.2.2.2.2.2.2.2.1 zz.2.2.2.2.2.2.2.2.1 zz.2.2.2.2.2.2.2.1 r_found zz.2.2.2.2.2.2.2.2.2.2) H → va_D A (wd_Mo_mergeOnce cA a_r r_manner r_above r_below r_nodes r_arcs r_left r_isBest r_arePlateaus r_all zz.2.2.2.2.2.1 zz.2.2.2.2.2.2.1 r_ties r_z r_plateaus r_between r_has zz.2.2.2.2.2.2.2.2.2.1 zz.2.2.2.2.2.2.2.2.1 zz.2.2.2.2.2.2.2.1 r_found zz.2.2.2.2.2.2.2.2.2.2) → va_S A s.heap H locs → lv_has ls 10 [(7, .int zz.2.2.2.2.1), (6, .int x6_13), (5, .int zz.2.2.2.1), (4, .int zz.2.2.1), (2, .long zz.2.1), (1, .int zz.1), (0, .ref (a_r 0))] → G H locs 0 0 ls 122 []) ?_ (fun zz : Int32 × Int64 × Int32 × Int32 × Int32 × Int64 × Int64 × (Nat → Int32) × (Nat → Int64) × (Nat → Int64) × (Nat → Int32) => ∀ (H : Heap) (locs : List Loc) (ls : Array Slot), va_P D cls9 (wd_Mo_mergeOnce cA a_r r_manner r_above r_below r_nodes r_arcs r_left r_isBest r_arePlateaus r_all zz.2.2.2.2.2.1 zz.2.2.2.2.2.2.1 r_ties r_z r_plateaus r_between r_has zz.2.2.2.2.2.2.2.2.2.1 zz.2.2.2.2.2.2.2.2.1 zz.2.2.2.2.2.2.2.1 r_found zz.2.2.2.2.2.2.2.2.2.2) H → va_D A (wd_Mo_mergeOnce cA a_r r_manner r_above r_below r_nodes r_arcs r_left r_isBest r_arePlateaus r_all zz.2.2.2.2.2.1 zz.2.2.2.2.2.2.1 r_ties r_z r_plateaus r_between r_has zz.2.2.2.2.2.2.2.2.2.1 zz.2.2.2.2.2.2.2.2.1 zz.2.2.2.2.2.2.2.1 r_found zz.2.2.2.2.2.2.2.2.2.2) → va_S A s.heap H locs → lv_has ls 10 [(7, .int zz.2.2.2.2.1), (6, .int x6_13), (5, .int zz.2.2.2.1), (4, .int zz.2.2.1), (2, .long zz.2.1), (1, .int zz.1), (0, .ref (a_r 0))] → G H locs 0 0 ls 28 []) ?_ _ _ ls hP hD hS (lv_sub hl [0, 1, 2, 3, 4, 5, 6] rfl))
      · intro zz h H locs ls hP hD hS hl
        obtain ⟨x1_28e, x2_28e, x4_28e, x5_28e, x7_28e, r_a_28e, r_b_28e, r_names_28e, r_sizes_28e, r_sums_28e, r_tried_28e⟩ := zz
        have hP : va_P D cls9 (wd_Mo_mergeOnce cA a_r r_manner r_above r_below r_nodes r_arcs r_left r_isBest r_arePlateaus r_all r_a_28e r_b_28e r_ties r_z r_plateaus r_between r_has r_sums_28e r_sizes_28e r_names_28e r_found r_tried_28e) H := hP
        have hD : va_D A (wd_Mo_mergeOnce cA a_r r_manner r_above r_below r_nodes r_arcs r_left r_isBest r_arePlateaus r_all r_a_28e r_b_28e r_ties r_z r_plateaus r_between r_has r_sums_28e r_sizes_28e r_names_28e r_found r_tried_28e) := hD
        have hl : lv_has ls 10 [(7, .int x7_28e), (6, .int x6_13), (5, .int x5_28e), (4, .int x4_28e), (2, .long x2_28e), (1, .int x1_28e), (0, .ref (a_r 0))] := hl
        refine cast (hG _ _ _ _ _ _ _).symm ?_
        refine lv_iinc (v := (x6_13 + 1)) (lv' := [(6, .int (x6_13 + 1)), (7, .int x7_28e), (5, .int x5_28e), (4, .int x4_28e), (2, .long x2_28e), (1, .int x1_28e), (0, .ref (a_r 0))]) hx hb d_Mo_mergeOnce_122 hl (k := 1) rfl rfl (by decide) rfl (fun ls hl => ?_)
        refine lv_goto (tgt := 13) hx hb d_Mo_mergeOnce_125 (by decide) ?_
        exact cast (hG _ _ _ _ _ _ _) (hB_13 (x1_28e, x2_28e, x4_28e, x5_28e, (x6_13 + 1), r_a_28e, r_b_28e, r_names_28e, r_sizes_28e, r_sums_28e, r_tried_28e) h _ _ _ hP hD hS (lv_sub hl [0, 2, 3, 4, 5, 6] rfl))
      · intro back exit zz hB_28 hE_28 h H locs ls hP hD hS hl
        obtain ⟨x1_28, x2_28, x4_28, x5_28, x7_28, r_a_28, r_b_28, r_names_28, r_sizes_28, r_sums_28, r_tried_28⟩ := zz
        have hP : va_P D cls9 (wd_Mo_mergeOnce cA a_r r_manner r_above r_below r_nodes r_arcs r_left r_isBest r_arePlateaus r_all r_a_28 r_b_28 r_ties r_z r_plateaus r_between r_has r_sums_28 r_sizes_28 r_names_28 r_found r_tried_28) H := hP
        have hD : va_D A (wd_Mo_mergeOnce cA a_r r_manner r_above r_below r_nodes r_arcs r_left r_isBest r_arePlateaus r_all r_a_28 r_b_28 r_ties r_z r_plateaus r_between r_has r_sums_28 r_sizes_28 r_names_28 r_found r_tried_28) := hD
        have hl : lv_has ls 10 [(7, .int x7_28), (6, .int x6_13), (5, .int x5_28), (4, .int x4_28), (2, .long x2_28), (1, .int x1_28), (0, .ref (a_r 0))] := hl
        refine cast (hG _ _ _ _ _ _ _).symm ?_
        refine lv_iload hx hb d_Mo_mergeOnce_28 (lv_at hl 0 rfl) ?_
        refine lv_aload_n hx hb d_Mo_mergeOnce_30 rfl (lv_at hl 6 rfl) ?_
        refine va_get (ci := 8) (v := .int r_nodes) (C := R_Mo) (T := F_Mo) (N := 36) hx hb hal in_Mo hown hK hP 0 rfl rfl 3 (by decide) (hal _ kw_640) (fun _ h9 => h9) rfl d_Mo_mergeOnce_31 ?_
        refine lv_icmp_ge (tgt := 122) hx hb d_Mo_mergeOnce_34 (by decide) (fun c_8 => ?_) (fun c_8 => ?_)
        · have h := ifp (c_8) h
          exact cast (hG _ _ _ _ _ _ _) (hE_28 (x1_28, x2_28, x4_28, x5_28, x7_28, r_a_28, r_b_28, r_names_28, r_sizes_28, r_sums_28, r_tried_28) h _ _ _ hP hD hS (lv_sub hl [0, 1, 2, 3, 4, 5, 6] rfl))
        · have h := ifn (c_8) h
          refine lv_aload_n hx hb d_Mo_mergeOnce_37 rfl (lv_at hl 6 rfl) ?_
          refine lv_iload hx hb d_Mo_mergeOnce_38 (lv_at hl 1 rfl) ?_
          obtain ⟨o_12, hc_11, h⟩ := bd h
          have hPc := hP.sub (ws' := (wd_Mo_isLeast cA a_r r_manner r_above r_below r_nodes r_arcs r_left r_isBest r_arePlateaus r_all r_a_28 r_b_28 r_ties r_z r_plateaus r_found)) [0, 6] rfl
          have hDc := hD.sub (ws' := (wd_Mo_isLeast cA a_r r_manner r_above r_below r_nodes r_arcs r_left r_isBest r_arePlateaus r_all r_a_28 r_b_28 r_ties r_z r_plateaus r_found)) [0, 6] (by decide) rfl
          have hFc := va_free (wc := (wd_Mo_isLeast cA a_r r_manner r_above r_below r_nodes r_arcs r_left r_isBest r_arePlateaus r_all r_a_28 r_b_28 r_ties r_z r_plateaus r_found)) hD hS hA [0, 6] rfl
          refine va_calli (va_runV (C := R_Mo) (As := [.int x6_13]) (rest := []) ⟨hx, hb, hml, hown, hal⟩ (c_Mo_isLeast l D cA a_r H.size r_manner r_above r_below r_nodes r_arcs r_left r_isBest r_arePlateaus r_all r_a_28 r_b_28 r_ties r_z r_plateaus r_found x6_13 o_12 hc_11) (cwV 1 hal (goodV kw_889 kw_891 kw_p43 kw_9 kw_892) rfl rfl rfl (by decide +kernel) ⟨Nat.le_of_ble_eq_true rfl, Nat.le_of_ble_eq_true rfl⟩) ⟨fun a U g mk q => by obtain ⟨q0, q1, qP, qK, qD⟩ := q; exact ⟨q0, q1, qP, va_K.moved (u := U) (U := U.calling g mk a) (Vm.Alike.refl U.vm) qK, qD⟩, va_recv hK hP (ci := 8) (q0 := 0) rfl rfl, fun U hU hW => ⟨rfl, by rw [hU], by rw [hU]; exact hPc, va_K.moved hW.alike hK, hDc.weaken (fun _ _ _ _ => trivial)⟩⟩ rfl rfl hl.1 rfl (lv_room (Nat.le_of_ble_eq_true rfl)) d_Mo_mergeOnce_40 ⟨Nat.le_of_ble_eq_true rfl, Nat.le_of_ble_eq_true rfl⟩) hS (fun q _ h => hFc q h) hFc (fun r_10 u t H1 locs ht hvm hw hB hz1 hk1 hS => ?_)
          subst hw
          obtain ⟨hP1, hK1, hD1⟩ := hB
          rw [ht] at hP1
          have hP1 : va_P D cls9 (wd_Mo_isLeast cA a_r r_manner r_above r_below r_nodes r_arcs r_left r_isBest r_arePlateaus r_all r_a_28 r_b_28 r_ties r_z r_plateaus r_found) H1 := hP1
          obtain ⟨hP, hD⟩ := va_join (wr := ([1, 2, 3, 4, 5, 7] : List Nat).filterMap (fun i => (wd_Mo_mergeOnce cA a_r r_manner r_above r_below r_nodes r_arcs r_left r_isBest r_arePlateaus r_all r_a_28 r_b_28 r_ties r_z r_plateaus r_between r_has r_sums_28 r_sizes_28 r_names_28 r_found r_tried_28)[i]?)) (w1 := (wd_Mo_isLeast cA a_r r_manner r_above r_below r_nodes r_arcs r_left r_isBest r_arePlateaus r_all r_a_28 r_b_28 r_ties r_z r_plateaus r_found)) hP hD [0, 6] [1, 2, 3, 4, 5, 7] rfl rfl (by decide) (by decide) hk1 hFc hP1 hD1
          generalize H1 = H at hP hS ⊢
          have hP : va_P D cls9 (wd_Mo_mergeOnce cA a_r r_manner r_above r_below r_nodes r_arcs r_left r_isBest r_arePlateaus r_all r_a_28 r_b_28 r_ties r_z r_plateaus r_between r_has r_sums_28 r_sizes_28 r_names_28 r_found r_tried_28) H := hP.sub [6, 0, 1, 2, 3, 4, 7, 5] rfl
          have hD : va_D A (wd_Mo_mergeOnce cA a_r r_manner r_above r_below r_nodes r_arcs r_left r_isBest r_arePlateaus r_all r_a_28 r_b_28 r_ties r_z r_plateaus r_between r_has r_sums_28 r_sizes_28 r_names_28 r_found r_tried_28) := hD.sub [6, 0, 1, 2, 3, 4, 7, 5] (by decide) rfl
          refine lv_if_eq (tgt := 116) hx hb d_Mo_mergeOnce_43 (by decide) (fun c_13 => ?_) (fun c_13 => ?_)
          · have h := ifp (c_13) h
            refine lv_iinc (v := (x7_28 + 1)) (lv' := [(7, .int (x7_28 + 1)), (6, .int x6_13), (5, .int x5_28), (4, .int x4_28), (2, .long x2_28), (1, .int x1_28), (0, .ref (a_r 0))]) hx hb d_Mo_mergeOnce_116 hl (k := 0) rfl rfl (by decide) rfl (fun ls hl => ?_)
            refine lv_goto (tgt := 28) hx hb d_Mo_mergeOnce_119 (by decide) ?_
            exact cast (hG _ _ _ _ _ _ _) (hB_28 (x1_28, x2_28, x4_28, x5_28, (x7_28 + 1), r_a_28, r_b_28, r_names_28, r_sizes_28, r_sums_28, r_tried_28) h _ _ _ hP hD hS (lv_sub hl [0, 1, 2, 3, 4, 5, 6] rfl))
          · have h := ifn (c_13) h
            refine lv_aload_n hx hb d_Mo_mergeOnce_46 rfl (lv_at hl 6 rfl) ?_
            refine lv_iload hx hb d_Mo_mergeOnce_47 (lv_at hl 0 rfl) ?_
            obtain ⟨o_17, hc_16, h⟩ := bd h
            have hPc := hP.sub (ws' := (wd_Mo_isLeast cA a_r r_manner r_above r_below r_nodes r_arcs r_left r_isBest r_arePlateaus r_all r_a_28 r_b_28 r_ties r_z r_plateaus r_found)) [0, 6] rfl
            have hDc := hD.sub (ws' := (wd_Mo_isLeast cA a_r r_manner r_above r_below r_nodes r_arcs r_left r_isBest r_arePlateaus r_all r_a_28 r_b_28 r_ties r_z r_plateaus r_found)) [0, 6] (by decide) rfl
            have hFc := va_free (wc := (wd_Mo_isLeast cA a_r r_manner r_above r_below r_nodes r_arcs r_left r_isBest r_arePlateaus r_all r_a_28 r_b_28 r_ties r_z r_plateaus r_found)) hD hS hA [0, 6] rfl
            refine va_calli (va_runV (C := R_Mo) (As := [.int x7_28]) (rest := []) ⟨hx, hb, hml, hown, hal⟩ (c_Mo_isLeast l D cA a_r H.size r_manner r_above r_below r_nodes r_arcs r_left r_isBest r_arePlateaus r_all r_a_28 r_b_28 r_ties r_z r_plateaus r_found x7_28 o_17 hc_16) (cwV 1 hal (goodV kw_889 kw_891 kw_p43 kw_9 kw_892) rfl rfl rfl (by decide +kernel) ⟨Nat.le_of_ble_eq_true rfl, Nat.le_of_ble_eq_true rfl⟩) ⟨fun a U g mk q => by obtain ⟨q0, q1, qP, qK, qD⟩ := q; exact ⟨q0, q1, qP, va_K.moved (u := U) (U := U.calling g mk a) (Vm.Alike.refl U.vm) qK, qD⟩, va_recv hK hP (ci := 8) (q0 := 0) rfl rfl, fun U hU hW => ⟨rfl, by rw [hU], by rw [hU]; exact hPc, va_K.moved hW.alike hK, hDc.weaken (fun _ _ _ _ => trivial)⟩⟩ rfl rfl hl.1 rfl (lv_room (Nat.le_of_ble_eq_true rfl)) d_Mo_mergeOnce_49 ⟨Nat.le_of_ble_eq_true rfl, Nat.le_of_ble_eq_true rfl⟩) hS (fun q _ h => hFc q h) hFc (fun r_15 u t H1 locs ht hvm hw hB hz1 hk1 hS => ?_)
            subst hw
            obtain ⟨hP1, hK1, hD1⟩ := hB
            rw [ht] at hP1
            have hP1 : va_P D cls9 (wd_Mo_isLeast cA a_r r_manner r_above r_below r_nodes r_arcs r_left r_isBest r_arePlateaus r_all r_a_28 r_b_28 r_ties r_z r_plateaus r_found) H1 := hP1
            obtain ⟨hP, hD⟩ := va_join (wr := ([1, 2, 3, 4, 5, 7] : List Nat).filterMap (fun i => (wd_Mo_mergeOnce cA a_r r_manner r_above r_below r_nodes r_arcs r_left r_isBest r_arePlateaus r_all r_a_28 r_b_28 r_ties r_z r_plateaus r_between r_has r_sums_28 r_sizes_28 r_names_28 r_found r_tried_28)[i]?)) (w1 := (wd_Mo_isLeast cA a_r r_manner r_above r_below r_nodes r_arcs r_left r_isBest r_arePlateaus r_all r_a_28 r_b_28 r_ties r_z r_plateaus r_found)) hP hD [0, 6] [1, 2, 3, 4, 5, 7] rfl rfl (by decide) (by decide) hk1 hFc hP1 hD1
            generalize H1 = H at hP hS ⊢
            have hP : va_P D cls9 (wd_Mo_mergeOnce cA a_r r_manner r_above r_below r_nodes r_arcs r_left r_isBest r_arePlateaus r_all r_a_28 r_b_28 r_ties r_z r_plateaus r_between r_has r_sums_28 r_sizes_28 r_names_28 r_found r_tried_28) H := hP.sub [6, 0, 1, 2, 3, 4, 7, 5] rfl
            have hD : va_D A (wd_Mo_mergeOnce cA a_r r_manner r_above r_below r_nodes r_arcs r_left r_isBest r_arePlateaus r_all r_a_28 r_b_28 r_ties r_z r_plateaus r_between r_has r_sums_28 r_sizes_28 r_names_28 r_found r_tried_28) := hD.sub [6, 0, 1, 2, 3, 4, 7, 5] (by decide) rfl
            refine lv_if_ne (tgt := 58) hx hb d_Mo_mergeOnce_52 (by decide) (fun c_18 => ?_) (fun c_18 => ?_)
            · have h := ifn (c_18) h
              refine lv_aload_n hx hb d_Mo_mergeOnce_58 rfl (lv_at hl 6 rfl) ?_
              refine lv_aload_n hx hb d_Mo_mergeOnce_59 rfl (lv_at hl 6 rfl) ?_
              refine va_get (ci := 8) (v := .ref (a_r 14)) (C := R_Mo) (T := F_Mo) (N := 36) hx hb hal in_Mo hown hK hP 0 rfl rfl 24 (by decide) (hal _ kw_661) (fun _ h9 => h9) rfl d_Mo_mergeOnce_60 ?_
              refine lv_aload_n hx hb d_Mo_mergeOnce_63 rfl (lv_at hl 6 rfl) ?_
              refine va_get (ci := 8) (v := .ref (a_r 16)) (C := R_Mo) (T := F_Mo) (N := 36) hx hb hal in_Mo hown hK hP 0 rfl rfl 27 (by decide) (hal _ kw_664) (fun _ h9 => h9) rfl d_Mo_mergeOnce_64 ?_
              obtain ⟨o_23, hc_22, h⟩ := bd h
              have hPc := hP.sub (ws' := (wd_Mo_copy cA a_r (fun _ => a_r 14) (fun _ => a_r 16) r_manner r_above r_below r_nodes r_arcs r_left r_isBest r_arePlateaus r_all r_a_28 r_b_28 r_ties r_z r_plateaus r_found r_tried_28)) [0, 6, 7] rfl
              have hDc := hD.sub (ws' := (wd_Mo_copy cA a_r (fun _ => a_r 14) (fun _ => a_r 16) r_manner r_above r_below r_nodes r_arcs r_left r_isBest r_arePlateaus r_all r_a_28 r_b_28 r_ties r_z r_plateaus r_found r_tried_28)) [0, 6, 7] (by decide) rfl
              have hFc := va_free (wc := (wd_Mo_copy cA a_r (fun _ => a_r 14) (fun _ => a_r 16) r_manner r_above r_below r_nodes r_arcs r_left r_isBest r_arePlateaus r_all r_a_28 r_b_28 r_ties r_z r_plateaus r_found r_tried_28)) hD hS hA [0, 6, 7] rfl
              refine va_callv (va_runV (C := R_Mo) (As := [.ref (a_r 14), .ref (a_r 16)]) (rest := []) ⟨hx, hb, hml, hown, hal⟩ (c_Mo_copy l D cA a_r (fun _ => a_r 14) (fun _ => a_r 16) H.size r_manner r_above r_below r_nodes r_arcs r_left r_isBest r_arePlateaus r_all r_a_28 r_b_28 r_ties r_z r_plateaus r_found r_tried_28 o_23 hc_22) (cwV 2 hal (goodV kw_833 kw_835 kw_p35 kw_9 kw_836) rfl rfl rfl (by decide +kernel) ⟨Nat.le_of_ble_eq_true rfl, Nat.le_of_ble_eq_true rfl⟩) ⟨fun a U g mk q => by obtain ⟨q0, q1, qP, qK, qD⟩ := q; exact ⟨q0, q1, qP, va_K.moved (u := U) (U := U.calling g mk a) (Vm.Alike.refl U.vm) qK, qD⟩, va_recv hK hP (ci := 8) (q0 := 0) rfl rfl, fun U hU hW => ⟨rfl, by rw [hU], by rw [hU]; exact hPc, va_K.moved hW.alike hK, hDc.weaken (fun _ _ _ _ => trivial)⟩⟩ rfl rfl hl.1 rfl (lv_room (Nat.le_of_ble_eq_true rfl)) d_Mo_mergeOnce_67 ⟨Nat.le_of_ble_eq_true rfl, Nat.le_of_ble_eq_true rfl⟩) hS (fun q _ h => hFc q h) hFc (fun u t H1 locs ht hvm hw hB hz1 hk1 hS => ?_)
              obtain ⟨u_21, rfl⟩ : ∃ q, q = u := ⟨_, rfl⟩
              subst hw
              obtain ⟨hP1, hK1, hD1⟩ := hB
              rw [ht] at hP1
              have hP1 : va_P D cls9 (wd_Mo_copy cA a_r (fun _ => a_r 14) (fun _ => a_r 16) r_manner r_above r_below r_nodes r_arcs r_left r_isBest r_arePlateaus r_all r_a_28 r_b_28 r_ties r_z r_plateaus r_found u_21) H1 := hP1
              obtain ⟨hP, hD⟩ := va_join (wr := ([1, 2, 3, 4, 5] : List Nat).filterMap (fun i => (wd_Mo_mergeOnce cA a_r r_manner r_above r_below r_nodes r_arcs r_left r_isBest r_arePlateaus r_all r_a_28 r_b_28 r_ties r_z r_plateaus r_between r_has r_sums_28 r_sizes_28 r_names_28 r_found r_tried_28)[i]?)) (w1 := (wd_Mo_copy cA a_r (fun _ => a_r 14) (fun _ => a_r 16) r_manner r_above r_below r_nodes r_arcs r_left r_isBest r_arePlateaus r_all r_a_28 r_b_28 r_ties r_z r_plateaus r_found u_21)) hP hD [0, 6, 7] [1, 2, 3, 4, 5] rfl rfl (by decide) (by decide) hk1 hFc hP1 hD1
              generalize H1 = H at hP hS ⊢
              have hP : va_P D cls9 (wd_Mo_mergeOnce cA a_r r_manner r_above r_below r_nodes r_arcs r_left r_isBest r_arePlateaus r_all r_a_28 r_b_28 r_ties r_z r_plateaus r_between r_has r_sums_28 r_sizes_28 r_names_28 r_found u_21) H := hP.sub [5, 0, 1, 2, 3, 4, 6, 7] rfl
              have hD : va_D A (wd_Mo_mergeOnce cA a_r r_manner r_above r_below r_nodes r_arcs r_left r_isBest r_arePlateaus r_all r_a_28 r_b_28 r_ties r_z r_plateaus r_between r_has r_sums_28 r_sizes_28 r_names_28 r_found u_21) := hD.sub [5, 0, 1, 2, 3, 4, 6, 7] (by decide) rfl
              refine lv_aload_n hx hb d_Mo_mergeOnce_70 rfl (lv_at hl 6 rfl) ?_
              refine lv_aload_n hx hb d_Mo_mergeOnce_71 rfl (lv_at hl 6 rfl) ?_
              refine va_get (ci := 8) (v := .ref (a_r 16)) (C := R_Mo) (T := F_Mo) (N := 36) hx hb hal in_Mo hown hK hP 0 rfl rfl 27 (by decide) (hal _ kw_664) (fun _ h9 => h9) rfl d_Mo_mergeOnce_72 ?_
              refine lv_iload hx hb d_Mo_mergeOnce_75 (lv_at hl 1 rfl) ?_
              refine lv_iload hx hb d_Mo_mergeOnce_77 (lv_at hl 0 rfl) ?_
              obtain ⟨o_29, hc_28, h⟩ := bd h
              have hPc := hP.sub (ws' := (wd_Mo_mergeIn cA a_r (fun _ => a_r 16) r_manner r_above r_below r_nodes r_arcs r_left r_isBest r_arePlateaus r_all r_a_28 r_b_28 r_ties r_z r_plateaus r_names_28 u_21)) [0, 5, 7] rfl
              have hDc := hD.sub (ws' := (wd_Mo_mergeIn cA a_r (fun _ => a_r 16) r_manner r_above r_below r_nodes r_arcs r_left r_isBest r_arePlateaus r_all r_a_28 r_b_28 r_ties r_z r_plateaus r_names_28 u_21)) [0, 5, 7] (by decide) rfl
              have hFc := va_free (wc := (wd_Mo_mergeIn cA a_r (fun _ => a_r 16) r_manner r_above r_below r_nodes r_arcs r_left r_isBest r_arePlateaus r_all r_a_28 r_b_28 r_ties r_z r_plateaus r_names_28 u_21)) hD hS hA [0, 5, 7] rfl
              refine va_callv (va_runV (C := R_Mo) (As := [.ref (a_r 16), .int x6_13, .int x7_28]) (rest := []) ⟨hx, hb, hml, hown, hal⟩ (c_Mo_mergeIn l D cA a_r (fun _ => a_r 16) H.size r_manner r_above r_below r_nodes r_arcs r_left r_isBest r_arePlateaus r_all r_a_28 r_b_28 r_ties r_z r_plateaus r_names_28 u_21 x6_13 x7_28 o_29 hc_28) (cwV 3 hal (goodV kw_845 kw_847 kw_p37 kw_9 kw_848) rfl rfl rfl (by decide +kernel) ⟨Nat.le_of_ble_eq_true rfl, Nat.le_of_ble_eq_true rfl⟩) ⟨fun a U g mk q => by obtain ⟨q0, q1, qP, qK, qD⟩ := q; exact ⟨q0, q1, qP, va_K.moved (u := U) (U := U.calling g mk a) (Vm.Alike.refl U.vm) qK, qD⟩, va_recv hK hP (ci := 8) (q0 := 0) rfl rfl, fun U hU hW => ⟨rfl, by rw [hU], by rw [hU]; exact hPc, va_K.moved hW.alike hK, hDc.weaken (fun _ _ _ _ => trivial)⟩⟩ rfl rfl hl.1 rfl (lv_room (Nat.le_of_ble_eq_true rfl)) d_Mo_mergeOnce_79 ⟨Nat.le_of_ble_eq_true rfl, Nat.le_of_ble_eq_true rfl⟩) hS (fun q _ h => hFc q h) hFc (fun u t H1 locs ht hvm hw hB hz1 hk1 hS => ?_)
              obtain ⟨u_26, u_27⟩ := u
              subst hw
              obtain ⟨hP1, hK1, hD1⟩ := hB
              rw [ht] at hP1
              have hP1 : va_P D cls9 (wd_Mo_mergeIn cA a_r (fun _ => a_r 16) r_manner r_above r_below r_nodes r_arcs r_left r_isBest r_arePlateaus r_all r_a_28 r_b_28 r_ties r_z r_plateaus u_26 u_27) H1 := hP1
              obtain ⟨hP, hD⟩ := va_join (wr := ([1, 2, 3, 4, 6] : List Nat).filterMap (fun i => (wd_Mo_mergeOnce cA a_r r_manner r_above r_below r_nodes r_arcs r_left r_isBest r_arePlateaus r_all r_a_28 r_b_28 r_ties r_z r_plateaus r_between r_has r_sums_28 r_sizes_28 r_names_28 r_found u_21)[i]?)) (w1 := (wd_Mo_mergeIn cA a_r (fun _ => a_r 16) r_manner r_above r_below r_nodes r_arcs r_left r_isBest r_arePlateaus r_all r_a_28 r_b_28 r_ties r_z r_plateaus u_26 u_27)) hP hD [0, 5, 7] [1, 2, 3, 4, 6] rfl rfl (by decide) (by decide) hk1 hFc hP1 hD1
              generalize H1 = H at hP hS ⊢
              have hP : va_P D cls9 (wd_Mo_mergeOnce cA a_r r_manner r_above r_below r_nodes r_arcs r_left r_isBest r_arePlateaus r_all r_a_28 r_b_28 r_ties r_z r_plateaus r_between r_has r_sums_28 r_sizes_28 u_26 r_found u_27) H := hP.sub [5, 0, 1, 2, 3, 6, 4, 7] rfl
              have hD : va_D A (wd_Mo_mergeOnce cA a_r r_manner r_above r_below r_nodes r_arcs r_left r_isBest r_arePlateaus r_all r_a_28 r_b_28 r_ties r_z r_plateaus r_between r_has r_sums_28 r_sizes_28 u_26 r_found u_27) := hD.sub [5, 0, 1, 2, 3, 6, 4, 7] (by decide) rfl
              refine lv_aload_n hx hb d_Mo_mergeOnce_82 rfl (lv_at hl 6 rfl) ?_
              refine lv_aload_n hx hb d_Mo_mergeOnce_83 rfl (lv_at hl 6 rfl) ?_
              refine va_get (ci := 8) (v := .ref (a_r 16)) (C := R_Mo) (T := F_Mo) (N := 36) hx hb hal in_Mo hown hK hP 0 rfl rfl 27 (by decide) (hal _ kw_664) (fun _ h9 => h9) rfl d_Mo_mergeOnce_84 ?_
              obtain ⟨o_37, hc_36, h⟩ := bd h
              have hPc := hP.sub (ws' := (wd_Mo_valueOf cA a_r (fun _ => a_r 16) r_manner r_above r_below r_nodes r_arcs r_left r_isBest r_arePlateaus r_all r_a_28 r_b_28 r_ties r_z r_plateaus r_between r_has r_sums_28 r_sizes_28 u_27)) [0, 1, 2, 3, 4, 7] rfl
              have hDc := hD.sub (ws' := (wd_Mo_valueOf cA a_r (fun _ => a_r 16) r_manner r_above r_below r_nodes r_arcs r_left r_isBest r_arePlateaus r_all r_a_28 r_b_28 r_ties r_z r_plateaus r_between r_has r_sums_28 r_sizes_28 u_27)) [0, 1, 2, 3, 4, 7] (by decide) rfl
              have hFc := va_free (wc := (wd_Mo_valueOf cA a_r (fun _ => a_r 16) r_manner r_above r_below r_nodes r_arcs r_left r_isBest r_arePlateaus r_all r_a_28 r_b_28 r_ties r_z r_plateaus r_between r_has r_sums_28 r_sizes_28 u_27)) hD hS hA [0, 1, 2, 3, 4, 7] rfl
              refine va_calll (va_runV (C := R_Mo) (As := [.ref (a_r 16)]) (rest := []) ⟨hx, hb, hml, hown, hal⟩ (c_Mo_valueOf l D cA a_r (fun _ => a_r 16) H.size r_manner r_above r_below r_nodes r_arcs r_left r_isBest r_arePlateaus r_all r_a_28 r_b_28 r_ties r_z r_plateaus r_between r_has r_sums_28 r_sizes_28 u_27 o_37 hc_36) (cwV 1 hal (goodV kw_811 kw_813 kw_p32 kw_9 kw_814) rfl rfl rfl (by decide +kernel) ⟨Nat.le_of_ble_eq_true rfl, Nat.le_of_ble_eq_true rfl⟩) ⟨fun a U g mk q => by obtain ⟨q0, q1, qP, qK, qD⟩ := q; exact ⟨q0, q1, qP, va_K.moved (u := U) (U := U.calling g mk a) (Vm.Alike.refl U.vm) qK, qD⟩, va_recv hK hP (ci := 8) (q0 := 0) rfl rfl, fun U hU hW => ⟨rfl, by rw [hU], by rw [hU]; exact hPc, va_K.moved hW.alike hK, hDc.weaken (fun _ _ _ _ => trivial)⟩⟩ rfl rfl hl.1 rfl (lv_room (Nat.le_of_ble_eq_true rfl)) d_Mo_mergeOnce_87 ⟨Nat.le_of_ble_eq_true rfl, Nat.le_of_ble_eq_true rfl⟩) hS (fun q _ h => hFc q h) hFc (fun r_31 u t H1 locs ht hvm hw hB hz1 hk1 hS => ?_)
              obtain ⟨u_32, u_33, u_34, u_35⟩ := u
              subst hw
              obtain ⟨hP1, hK1, hD1⟩ := hB
              rw [ht] at hP1
              have hP1 : va_P D cls9 (wd_Mo_valueOf cA a_r (fun _ => a_r 16) r_manner r_above r_below r_nodes r_arcs r_left r_isBest r_arePlateaus r_all u_32 u_33 r_ties r_z r_plateaus r_between r_has u_34 u_35 u_27) H1 := hP1
              obtain ⟨hP, hD⟩ := va_join (wr := ([5, 6] : List Nat).filterMap (fun i => (wd_Mo_mergeOnce cA a_r r_manner r_above r_below r_nodes r_arcs r_left r_isBest r_arePlateaus r_all r_a_28 r_b_28 r_ties r_z r_plateaus r_between r_has r_sums_28 r_sizes_28 u_26 r_found u_27)[i]?)) (w1 := (wd_Mo_valueOf cA a_r (fun _ => a_r 16) r_manner r_above r_below r_nodes r_arcs r_left r_isBest r_arePlateaus r_all u_32 u_33 r_ties r_z r_plateaus r_between r_has u_34 u_35 u_27)) hP hD [0, 1, 2, 3, 4, 7] [5, 6] rfl rfl (by decide) (by decide) hk1 hFc hP1 hD1
              generalize H1 = H at hP hS ⊢
              have hP : va_P D cls9 (wd_Mo_mergeOnce cA a_r r_manner r_above r_below r_nodes r_arcs r_left r_isBest r_arePlateaus r_all u_32 u_33 r_ties r_z r_plateaus r_between r_has u_34 u_35 u_26 r_found u_27) H := hP.sub [2, 3, 4, 5, 6, 0, 1, 7] rfl
              have hD : va_D A (wd_Mo_mergeOnce cA a_r r_manner r_above r_below r_nodes r_arcs r_left r_isBest r_arePlateaus r_all u_32 u_33 r_ties r_z r_plateaus r_between r_has u_34 u_35 u_26 r_found u_27) := hD.sub [2, 3, 4, 5, 6, 0, 1, 7] (by decide) rfl
              refine lv_lstore (lv' := [(8, .long r_31), (7, .int x7_28), (6, .int x6_13), (5, .int x5_28), (4, .int x4_28), (2, .long x2_28), (1, .int x1_28), (0, .ref (a_r 0))]) hx hb d_Mo_mergeOnce_90 hl (by decide) rfl (fun ls hl => ?_)
              refine lv_iload_n hx hb d_Mo_mergeOnce_92 rfl (lv_at hl 6 rfl) ?_
              refine cast (hG _ _ _ _ _ _ _) (jn_go h (fun zz : Unit => ∀ (H : Heap) (locs : List Loc) (ls : Array Slot), va_P D cls9 (wd_Mo_mergeOnce cA a_r r_manner r_above r_below r_nodes r_arcs r_left r_isBest r_arePlateaus r_all u_32 u_33 r_ties r_z r_plateaus r_between r_has u_34 u_35 u_26 r_found u_27) H → va_D A (wd_Mo_mergeOnce cA a_r r_manner r_above r_below r_nodes r_arcs r_left r_isBest r_arePlateaus r_all u_32 u_33 r_ties r_z r_plateaus r_between r_has u_34 u_35 u_26 r_found u_27) → va_S A s.heap H locs → lv_has ls 10 [(8, .long r_31), (7, .int x7_28), (6, .int x6_13), (5, .int x5_28), (4, .int x4_28), (2, .long x2_28), (1, .int x1_28), (0, .ref (a_r 0))] → G H locs 0 0 ls 103 []) ?_ ?_)
              · intro zz h H locs ls hP hD hS hl
                have hP : va_P D cls9 (wd_Mo_mergeOnce cA a_r r_manner r_above r_below r_nodes r_arcs r_left r_isBest r_arePlateaus r_all u_32 u_33 r_ties r_z r_plateaus r_between r_has u_34 u_35 u_26 r_found u_27) H := hP
                have hD : va_D A (wd_Mo_mergeOnce cA a_r r_manner r_above r_below r_nodes r_arcs r_left r_isBest r_arePlateaus r_all u_32 u_33 r_ties r_z r_plateaus r_between r_has u_34 u_35 u_26 r_found u_27) := hD
                have hl : lv_has ls 10 [(8, .long r_31), (7, .int x7_28), (6, .int x6_13), (5, .int x5_28), (4, .int x4_28), (2, .long x2_28), (1, .int x1_28), (0, .ref (a_r 0))] := hl
                refine cast (hG _ _ _ _ _ _ _).symm ?_
                refine lv_iconst (v := 1) hx hb d_Mo_mergeOnce_103 (by decide) ?_
                refine lv_istore_n (lv' := [(1, .int (1 : Int32)), (8, .long r_31), (7, .int x7_28), (6, .int x6_13), (5, .int x5_28), (4, .int x4_28), (2, .long x2_28), (0, .ref (a_r 0))]) hx hb d_Mo_mergeOnce_104 rfl hl (by decide) rfl (fun ls hl => ?_)
                refine lv_lload hx hb d_Mo_mergeOnce_105 (lv_at hl 1 rfl) ?_
                refine lv_lstore_n (lv' := [(2, .long r_31), (1, .int (1 : Int32)), (8, .long r_31), (7, .int x7_28), (6, .int x6_13), (5, .int x5_28), (4, .int x4_28), (0, .ref (a_r 0))]) hx hb d_Mo_mergeOnce_107 rfl hl (by decide) rfl (fun ls hl => ?_)
                refine lv_iload hx hb d_Mo_mergeOnce_108 (lv_at hl 4 rfl) ?_
                refine lv_istore (lv' := [(4, .int x6_13), (2, .long r_31), (1, .int (1 : Int32)), (8, .long r_31), (7, .int x7_28), (6, .int x6_13), (5, .int x5_28), (0, .ref (a_r 0))]) hx hb d_Mo_mergeOnce_110 hl (by decide) rfl (fun ls hl => ?_)
                refine lv_iload hx hb d_Mo_mergeOnce_112 (lv_at hl 4 rfl) ?_
                refine lv_istore (lv' := [(5, .int x7_28), (4, .int x6_13), (2, .long r_31), (1, .int (1 : Int32)), (8, .long r_31), (7, .int x7_28), (6, .int x6_13), (0, .ref (a_r 0))]) hx hb d_Mo_mergeOnce_114 hl (by decide) rfl (fun ls hl => ?_)
                refine lv_iinc (v := (x7_28 + 1)) (lv' := [(7, .int (x7_28 + 1)), (5, .int x7_28), (4, .int x6_13), (2, .long r_31), (1, .int (1 : Int32)), (8, .long r_31), (6, .int x6_13), (0, .ref (a_r 0))]) hx hb d_Mo_mergeOnce_116 hl (k := 5) rfl rfl (by decide) rfl (fun ls hl => ?_)
                refine lv_goto (tgt := 28) hx hb d_Mo_mergeOnce_119 (by decide) ?_
                exact cast (hG _ _ _ _ _ _ _) (hB_28 ((1 : Int32), r_31, x6_13, x7_28, (x7_28 + 1), u_32, u_33, u_26, u_35, u_34, u_27) h _ _ _ hP hD hS (lv_sub hl [0, 6, 1, 2, 3, 4, 7] rfl))
              · intro j103 hJ_103 h
                refine cast (hG _ _ _ _ _ _ _).symm ?_
                refine lv_if_eq (tgt := 103) hx hb d_Mo_mergeOnce_93 (by decide) (fun c_38 => ?_) (fun c_38 => ?_)
                · have h := ifp (c_38) h
                  exact cast (hG _ _ _ _ _ _ _) (hJ_103 () h _ _ _ hP hD hS (lv_sub hl [0, 1, 2, 3, 4, 5, 6, 7] rfl))
                · have h := ifn (c_38) h
                  refine lv_lload hx hb d_Mo_mergeOnce_96 (lv_at hl 0 rfl) ?_
                  refine lv_lload_n hx hb d_Mo_mergeOnce_98 rfl (lv_at hl 5 rfl) ?_
                  refine W.lcmp hx hb d_Mo_mergeOnce_99 ?_
                  refine lv_if_le (tgt := 116) hx hb d_Mo_mergeOnce_100 (by decide) (fun c_39 => ?_) (fun c_39 => ?_)
                  · have h := ifp (lc_le.mp (c_39)) h
                    refine lv_iinc (v := (x7_28 + 1)) (lv' := [(7, .int (x7_28 + 1)), (8, .long r_31), (6, .int x6_13), (5, .int x5_28), (4, .int x4_28), (2, .long x2_28), (1, .int x1_28), (0, .ref (a_r 0))]) hx hb d_Mo_mergeOnce_116 hl (k := 1) rfl rfl (by decide) rfl (fun ls hl => ?_)
                    refine lv_goto (tgt := 28) hx hb d_Mo_mergeOnce_119 (by decide) ?_
                    exact cast (hG _ _ _ _ _ _ _) (hB_28 (x1_28, x2_28, x4_28, x5_28, (x7_28 + 1), u_32, u_33, u_26, u_35, u_34, u_27) h _ _ _ hP hD hS (lv_sub hl [0, 2, 3, 4, 5, 6, 7] rfl))
                  · have h := ifn (fun q => (c_39) (lc_le.mpr q)) h
                    exact cast (hG _ _ _ _ _ _ _) (hJ_103 () h _ _ _ hP hD hS (lv_sub hl [0, 1, 2, 3, 4, 5, 6, 7] rfl))
            · have h := ifp (c_18) h
              refine lv_goto (tgt := 116) hx hb d_Mo_mergeOnce_55 (by decide) ?_
              refine lv_iinc (v := (x7_28 + 1)) (lv' := [(7, .int (x7_28 + 1)), (6, .int x6_13), (5, .int x5_28), (4, .int x4_28), (2, .long x2_28), (1, .int x1_28), (0, .ref (a_r 0))]) hx hb d_Mo_mergeOnce_116 hl (k := 0) rfl rfl (by decide) rfl (fun ls hl => ?_)
              refine lv_goto (tgt := 28) hx hb d_Mo_mergeOnce_119 (by decide) ?_
              exact cast (hG _ _ _ _ _ _ _) (hB_28 (x1_28, x2_28, x4_28, x5_28, (x7_28 + 1), r_a_28, r_b_28, r_names_28, r_sizes_28, r_sums_28, r_tried_28) h _ _ _ hP hD hS (lv_sub hl [0, 1, 2, 3, 4, 5, 6] rfl))
def wd_Mo_beginMerging (cA : Nat → ClassId) (a_r : Nat → Nat) (r_manner : Int32) (r_above : Int32) (r_below : Int32) (r_nodes : Int32) (r_arcs : Int32) (r_left : Int32) (r_isBest : Int32) (r_arePlateaus : Int32) (r_all : Int64) (r_a : Int64) (r_b : Int64) (r_ties : Int32) (r_z : Int32) (r_plateaus : Int32) (r_ones : Nat → Int32) (r_others : Nat → Int32) (r_weights : Nat → Int32) (r_there : Nat → Int32) (r_between : Nat → Int32) (r_joins : Nat → Int32) (r_has : Nat → Int32) (r_found : Nat → Int32) : va_W := [(a_r 0, .inr (8, [.int r_manner, .int r_above, .int r_below, .int r_nodes, .int r_arcs, .int r_left, .ref (a_r 1), .ref (a_r 2), .ref (a_r 3), .ref (a_r 4), .ref (a_r 5), .int r_isBest, .int r_arePlateaus, .ref (a_r 6), .ref (a_r 7), .ref (a_r 8), .long r_all, .ref (a_r 9), .ref (a_r 10), .long r_a, .long r_b, .ref (a_r 11), .ref (a_r 12), .ref (a_r 13), .ref (a_r 14), .ref (a_r 15), .int r_ties, .ref (a_r 16), .ref (a_r 17), .ref (a_r 18), .int r_z, .int r_plateaus, .ref (a_r 19), .ref (a_r 20), .ref (a_r 21), .ref (a_r 22)])), (a_r 1, .inl (cA 0, 36, .inl r_ones)), (a_r 2, .inl (cA 0, 36, .inl r_others)), (a_r 3, .inl (cA 0, 36, .inl r_weights)), (a_r 4, .inl (cA 2, 36, .inl r_there)), (a_r 6, .inl (cA 0, 81, .inl r_between)), (a_r 7, .inl (cA 2, 81, .inl r_joins)), (a_r 8, .inl (cA 0, 9, .inl r_has)), (a_r 14, .inl (cA 0, 9, .inl r_found))]
noncomputable def s_Mo_beginMerging_6 (r_nodes : Int32) (zz : Int32 × (Nat → Int32)) (back exit : (Int32 × (Nat → Int32)) → Option (Int64 × (Nat → Int32) × (Nat → Int32) × (Nat → Int32) × (Nat → Int32))) : Option (Int64 × (Nat → Int32) × (Nat → Int32) × (Nat → Int32) × (Nat → Int32)) :=
  (if r_nodes ≤ zz.1 then (exit (zz.1, zz.2)) else (if inb zz.1 9 then (back ((zz.1 + 1), (upd zz.2 zz.1.toNatClampNeg zz.1))) else none))
noncomputable def m_Mo_beginMerging (r_manner : Int32) (r_nodes : Int32) (r_arcs : Int32) (r_ones : Nat → Int32) (r_others : Nat → Int32) (r_weights : Nat → Int32) (r_there : Nat → Int32) (r_between : Nat → Int32) (r_joins : Nat → Int32) (r_has : Nat → Int32) (r_found : Nat → Int32) : Option (Int64 × (Nat → Int32) × (Nat → Int32) × (Nat → Int32) × (Nat → Int32)) :=
  ((m_Mo_weigh r_manner r_arcs r_ones r_others r_weights r_there r_between r_joins r_has).bind (fun r1 : Int64 × (Nat → Int32) × (Nat → Int32) × (Nat → Int32) => (loopC (s_Mo_beginMerging_6 r_nodes) (fun z6 : Int32 × (Nat → Int32) => some (r1.1, r1.2.1, r1.2.2.1, r1.2.2.2, z6.2)) FU ((0 : Int32), r_found))))
set_option maxHeartbeats 4000000 in
set_option maxRecDepth 100000 in
theorem c_Mo_beginMerging (l : Launch) (D : va_G) (cA : Nat → ClassId) (a_r : Nat → Nat) (sz : Nat) (r_manner : Int32) (r_above : Int32) (r_below : Int32) (r_nodes : Int32) (r_arcs : Int32) (r_left : Int32) (r_isBest : Int32) (r_arePlateaus : Int32) (r_all : Int64) (r_a : Int64) (r_b : Int64) (r_ties : Int32) (r_z : Int32) (r_plateaus : Int32) (r_ones : Nat → Int32) (r_others : Nat → Int32) (r_weights : Nat → Int32) (r_there : Nat → Int32) (r_between : Nat → Int32) (r_joins : Nat → Int32) (r_has : Nat → Int32) (r_found : Nat → Int32)  (out : Int64 × (Nat → Int32) × (Nat → Int32) × (Nat → Int32) × (Nat → Int32)) (h : m_Mo_beginMerging r_manner r_nodes r_arcs r_ones r_others r_weights r_there r_between r_joins r_has r_found = some out) : Met l y_Mo_beginMerging w_Mo_beginMerging ({ frames := 2, cells := 0, slots := 0, locals := 42 }) (va_Pc [.ref (a_r 0)] (fun U => U.heap.size = sz ∧ va_P D cls9 (wd_Mo_beginMerging cA a_r r_manner r_above r_below r_nodes r_arcs r_left r_isBest r_arePlateaus r_all r_a r_b r_ties r_z r_plateaus r_ones r_others r_weights r_there r_between r_joins r_has r_found) U.heap ∧ va_K D cls9 (tys5 cA) U ∧ va_D (fun _ => True) (wd_Mo_beginMerging cA a_r r_manner r_above r_below r_nodes r_arcs r_left r_isBest r_arePlateaus r_all r_a r_b r_ties r_z r_plateaus r_ones r_others r_weights r_there r_between r_joins r_has r_found))) (va_Qv (fun uu : Int64 × (Nat → Int32) × (Nat → Int32) × (Nat → Int32) × (Nat → Int32) => uu = out) (fun (uu : Int64 × (Nat → Int32) × (Nat → Int32) × (Nat → Int32) × (Nat → Int32)) (t : State) => va_P D cls9 (wd_Mo_beginMerging cA a_r r_manner r_above r_below r_nodes r_arcs r_left r_isBest r_arePlateaus uu.1 r_a r_b r_ties r_z r_plateaus r_ones r_others r_weights r_there uu.2.1 uu.2.2.1 uu.2.2.2.1 uu.2.2.2.2) t.heap ∧ va_K D cls9 (tys5 cA) t ∧ va_D (va_A (wd_Mo_beginMerging cA a_r r_manner r_above r_below r_nodes r_arcs r_left r_isBest r_arePlateaus r_all r_a r_b r_ties r_z r_plateaus r_ones r_others r_weights r_there r_between r_joins r_has r_found) sz) (wd_Mo_beginMerging cA a_r r_manner r_above r_below r_nodes r_arcs r_left r_isBest r_arePlateaus uu.1 r_a r_b r_ties r_z r_plateaus r_ones r_others r_weights r_there uu.2.1 uu.2.2.1 uu.2.2.2.1 uu.2.2.2.2)) (va_A (wd_Mo_beginMerging cA a_r r_manner r_above r_below r_nodes r_arcs r_left r_isBest r_arePlateaus r_all r_a r_b r_ties r_z r_plateaus r_ones r_others r_weights r_there r_between r_joins r_has r_found) sz)) 0 0 (va_A (wd_Mo_beginMerging cA a_r r_manner r_above r_below r_nodes r_arcs r_left r_isBest r_arePlateaus r_all r_a r_b r_ties r_z r_plateaus r_ones r_others r_weights r_there r_between r_joins r_has r_found) sz) := by
  refine Met.ofW (cc := b_Mo_beginMerging) (maxL := 2) (ret := (Option.none : Option Jvm.ClassFile.FieldType)) (by decide) rfl ?_
  intro p e s m args below meth c s₁ B hml hv
  obtain ⟨rfl, hsz, hP, hK, hD0⟩ := hv
  have hx := B.exec
  have hb := B.bytes
  have hr := B.returns
  have hts := atoms_spec (ws := w_Mo_beginMerging) B.pre
  have hal : ∀ w ∈ ALLW, w.before _ s = true := fun w hw => hts w (List.mem_cons_of_mem _ hw)
  have hown : s.vm.findClass R_Mo = some m.cls := findClass_of_methodNamed B.named
  have hlocks := B.notSynchronized
  subst hsz
  have hD := hD0.self (sz := s.heap.size)
  generalize hAe : va_A (wd_Mo_beginMerging cA a_r r_manner r_above r_below r_nodes r_arcs r_left r_isBest r_arePlateaus r_all r_a r_b r_ties r_z r_plateaus r_ones r_others r_weights r_there r_between r_joins r_has r_found) s.heap.size = A at hD ⊢
  have hA : ∀ q : Nat, s.heap.size ≤ q → A q := fun q h => by rw [← hAe]; exact Or.inr h
  have hS : va_S A s.heap s.heap [] := va_S.rf
  have hl := lv_entry ([.ref (a_r 0)]) (n := 2) (Nat.le_of_ble_eq_true rfl)
  rw [lg_entry_eq]
  generalize (lg_sl ([.ref (a_r 0)]) ++ List.replicate (2 - (lg_sl ([.ref (a_r 0)])).length) Slot.unset).toArray = ls at hl ⊢
  have hl : lv_has ls 2 [(0, .ref (a_r 0))] := hl
  refine wg (fun G hG => ?_)
  refine cast (hG _ _ _ _ _ _ _).symm ?_
  obtain ⟨H, locs, hHl, hS⟩ : ∃ (H : Heap) (locs : List Loc), (H = s.heap ∧ locs = []) ∧ va_S A s.heap H locs := ⟨s.heap, [], ⟨rfl, rfl⟩, hS⟩
  have hP : va_P D cls9 (wd_Mo_beginMerging cA a_r r_manner r_above r_below r_nodes r_arcs r_left r_isBest r_arePlateaus r_all r_a r_b r_ties r_z r_plateaus r_ones r_others r_weights r_there r_between r_joins r_has r_found) H := by rw [hHl.1]; exact hP
  rw [← hHl.1, ← hHl.2]
  clear hHl
  refine lv_aload_n hx hb d_Mo_beginMerging_0 rfl (lv_at hl 0 rfl) ?_
  obtain ⟨o_8, hc_7, h⟩ := bd h
  have hPc := hP.sub (ws' := (wd_Mo_weigh cA a_r r_manner r_above r_below r_nodes r_arcs r_left r_isBest r_arePlateaus r_all r_a r_b r_ties r_z r_plateaus r_ones r_others r_weights r_there r_between r_joins r_has)) [0, 1, 2, 3, 4, 5, 6, 7] rfl
  have hDc := hD.sub (ws' := (wd_Mo_weigh cA a_r r_manner r_above r_below r_nodes r_arcs r_left r_isBest r_arePlateaus r_all r_a r_b r_ties r_z r_plateaus r_ones r_others r_weights r_there r_between r_joins r_has)) [0, 1, 2, 3, 4, 5, 6, 7] (by decide) rfl
  have hFc := va_free (wc := (wd_Mo_weigh cA a_r r_manner r_above r_below r_nodes r_arcs r_left r_isBest r_arePlateaus r_all r_a r_b r_ties r_z r_plateaus r_ones r_others r_weights r_there r_between r_joins r_has)) hD hS hA [0, 1, 2, 3, 4, 5, 6, 7] rfl
  refine va_callv (va_runV (C := R_Mo) (As := []) (rest := []) ⟨hx, hb, hml, hown, hal⟩ (c_Mo_weigh l D cA a_r H.size r_manner r_above r_below r_nodes r_arcs r_left r_isBest r_arePlateaus r_all r_a r_b r_ties r_z r_plateaus r_ones r_others r_weights r_there r_between r_joins r_has o_8 hc_7) (cwV 0 hal (goodV kw_803 kw_805 kw_p30 kw_9 kw_806) rfl rfl rfl (by decide +kernel) ⟨Nat.le_of_ble_eq_true rfl, Nat.le_of_ble_eq_true rfl⟩) ⟨fun a U g mk q => by obtain ⟨q0, q1, qP, qK, qD⟩ := q; exact ⟨q0, q1, qP, va_K.moved (u := U) (U := U.calling g mk a) (Vm.Alike.refl U.vm) qK, qD⟩, va_recv hK hP (ci := 8) (q0 := 0) rfl rfl, fun U hU hW => ⟨rfl, by rw [hU], by rw [hU]; exact hPc, va_K.moved hW.alike hK, hDc.weaken (fun _ _ _ _ => trivial)⟩⟩ rfl rfl hl.1 rfl (lv_room (Nat.le_of_ble_eq_true rfl)) d_Mo_beginMerging_1 ⟨Nat.le_of_ble_eq_true rfl, Nat.le_of_ble_eq_true rfl⟩) hS (fun q _ h => hFc q h) hFc (fun u t H1 locs ht hvm hw hB hz1 hk1 hS => ?_)
  obtain ⟨u_3, u_4, u_5, u_6⟩ := u
  subst hw
  obtain ⟨hP1, hK1, hD1⟩ := hB
  rw [ht] at hP1
  have hP1 : va_P D cls9 (wd_Mo_weigh cA a_r r_manner r_above r_below r_nodes r_arcs r_left r_isBest r_arePlateaus u_3 r_a r_b r_ties r_z r_plateaus r_ones r_others r_weights r_there u_4 u_5 u_6) H1 := hP1
  obtain ⟨hP, hD⟩ := va_join (wr := ([8] : List Nat).filterMap (fun i => (wd_Mo_beginMerging cA a_r r_manner r_above r_below r_nodes r_arcs r_left r_isBest r_arePlateaus r_all r_a r_b r_ties r_z r_plateaus r_ones r_others r_weights r_there r_between r_joins r_has r_found)[i]?)) (w1 := (wd_Mo_weigh cA a_r r_manner r_above r_below r_nodes r_arcs r_left r_isBest r_arePlateaus u_3 r_a r_b r_ties r_z r_plateaus r_ones r_others r_weights r_there u_4 u_5 u_6)) hP hD [0, 1, 2, 3, 4, 5, 6, 7] [8] rfl rfl (by decide) (by decide) hk1 hFc hP1 hD1
  generalize H1 = H at hP hS ⊢
  have hP : va_P D cls9 (wd_Mo_beginMerging cA a_r r_manner r_above r_below r_nodes r_arcs r_left r_isBest r_arePlateaus u_3 r_a r_b r_ties r_z r_plateaus r_ones r_others r_weights r_there u_4 u_5 u_6 r_found) H := hP.sub [1, 2, 3, 4, 5, 6, 7, 8, 0] rfl
  have hD : va_D A (wd_Mo_beginMerging cA a_r r_manner r_above r_below r_nodes r_arcs r_left r_isBest r_arePlateaus u_3 r_a r_b r_ties r_z r_plateaus r_ones r_others r_weights r_there u_4 u_5 u_6 r_found) := hD.sub [1, 2, 3, 4, 5, 6, 7, 8, 0] (by decide) rfl
  refine lv_iconst (v := 0) hx hb d_Mo_beginMerging_4 (by decide) ?_
  refine lv_istore_n (lv' := [(1, .int (0 : Int32)), (0, .ref (a_r 0))]) hx hb d_Mo_beginMerging_5 rfl hl (by decide) rfl (fun ls hl => ?_)
  refine cast (hG _ _ _ _ _ _ _) (lp_go2 h (fun zz : Int32 × (Nat → Int32) => ∀ (H : Heap) (locs : List Loc) (ls : Array Slot), va_P D cls9 (wd_Mo_beginMerging cA a_r r_manner r_above r_below r_nodes r_arcs r_left r_isBest r_arePlateaus u_3 r_a r_b r_ties r_z r_plateaus r_ones r_others r_weights r_there u_4 u_5 u_6 zz.2) H → va_D A (wd_Mo_beginMerging cA a_r r_manner r_above r_below r_nodes r_arcs r_left r_isBest r_arePlateaus u_3 r_a r_b r_ties r_z r_plateaus r_ones r_others r_weights r_there u_4 u_5 u_6 zz.2) → va_S A s.heap H locs → lv_has ls 2 [(1, .int zz.1), (0, .ref (a_r 0))] → G H locs 0 0 ls 27 []) ?_ (fun zz : Int32 × (Nat → Int32) => ∀ (H : Heap) (locs : List Loc) (ls : Array Slot), va_P D cls9 (wd_Mo_beginMerging cA a_r r_manner r_above r_below r_nodes r_arcs r_left r_isBest r_arePlateaus u_3 r_a r_b r_ties r_z r_plateaus r_ones r_others r_weights r_there u_4 u_5 u_6 zz.2) H → va_D A (wd_Mo_beginMerging cA a_r r_manner r_above r_below r_nodes r_arcs r_left r_isBest r_arePlateaus u_3 r_a r_b r_ties r_z r_plateaus r_ones r_others r_weights r_there u_4 u_5 u_6 zz.2) → va_S A s.heap H locs → lv_has ls 2 [(1, .int zz.1), (0, .ref (a_r 0))] → G H locs 0 0 ls 6 []) ?_ _ _ ls hP hD hS (lv_sub hl [0, 1] rfl))
  · intro zz h H locs ls hP hD hS hl
    obtain ⟨x1_6e, r_found_6e⟩ := zz
    have hP : va_P D cls9 (wd_Mo_beginMerging cA a_r r_manner r_above r_below r_nodes r_arcs r_left r_isBest r_arePlateaus u_3 r_a r_b r_ties r_z r_plateaus r_ones r_others r_weights r_there u_4 u_5 u_6 r_found_6e) H := hP
    have hD : va_D A (wd_Mo_beginMerging cA a_r r_manner r_above r_below r_nodes r_arcs r_left r_isBest r_arePlateaus u_3 r_a r_b r_ties r_z r_plateaus r_ones r_others r_weights r_there u_4 u_5 u_6 r_found_6e) := hD
    have hl : lv_has ls 2 [(1, .int x1_6e), (0, .ref (a_r 0))] := hl
    refine cast (hG _ _ _ _ _ _ _).symm ?_
    exact W.vret hx hb hr (fun t ht hW => ⟨⟨(u_3, u_4, u_5, u_6, r_found_6e), rfl, Option.some.inj h, by rw [ht]; exact hP, va_K.moved hW.alike hK, hD⟩, hS.F ht⟩) hS.2.2 d_Mo_beginMerging_27
  · intro back exit zz hB_6 hE_6 h H locs ls hP hD hS hl
    obtain ⟨x1_6, r_found_6⟩ := zz
    have hP : va_P D cls9 (wd_Mo_beginMerging cA a_r r_manner r_above r_below r_nodes r_arcs r_left r_isBest r_arePlateaus u_3 r_a r_b r_ties r_z r_plateaus r_ones r_others r_weights r_there u_4 u_5 u_6 r_found_6) H := hP
    have hD : va_D A (wd_Mo_beginMerging cA a_r r_manner r_above r_below r_nodes r_arcs r_left r_isBest r_arePlateaus u_3 r_a r_b r_ties r_z r_plateaus r_ones r_others r_weights r_there u_4 u_5 u_6 r_found_6) := hD
    have hl : lv_has ls 2 [(1, .int x1_6), (0, .ref (a_r 0))] := hl
    refine cast (hG _ _ _ _ _ _ _).symm ?_
    refine lv_iload_n hx hb d_Mo_beginMerging_6 rfl (lv_at hl 0 rfl) ?_
    refine lv_aload_n hx hb d_Mo_beginMerging_7 rfl (lv_at hl 1 rfl) ?_
    refine va_get (ci := 8) (v := .int r_nodes) (C := R_Mo) (T := F_Mo) (N := 36) hx hb hal in_Mo hown hK hP 0 rfl rfl 3 (by decide) (hal _ kw_640) (fun _ h9 => h9) rfl d_Mo_beginMerging_8 ?_
    refine lv_icmp_ge (tgt := 27) hx hb d_Mo_beginMerging_11 (by decide) (fun c_9 => ?_) (fun c_9 => ?_)
    · have h := ifp (c_9) h
      exact cast (hG _ _ _ _ _ _ _) (hE_6 (x1_6, r_found_6) h _ _ _ hP hD hS (lv_sub hl [0, 1] rfl))
    · have h := ifn (c_9) h
      refine lv_aload_n hx hb d_Mo_beginMerging_14 rfl (lv_at hl 1 rfl) ?_
      refine va_get (ci := 8) (v := .ref (a_r 14)) (C := R_Mo) (T := F_Mo) (N := 36) hx hb hal in_Mo hown hK hP 0 rfl rfl 24 (by decide) (hal _ kw_661) (fun _ h9 => h9) rfl d_Mo_beginMerging_15 ?_
      refine lv_iload_n hx hb d_Mo_beginMerging_18 rfl (lv_at hl 0 rfl) ?_
      refine lv_iload_n hx hb d_Mo_beginMerging_19 rfl (lv_at hl 0 rfl) ?_
      obtain ⟨g_10, h⟩ := gd h
      refine va_iast hx hb hK hP hD hS 8 0 rfl rfl (inb_in g_10) d_Mo_beginMerging_20 (fun H locs hP hD hS => ?_)
      have hP : va_P D cls9 (wd_Mo_beginMerging cA a_r r_manner r_above r_below r_nodes r_arcs r_left r_isBest r_arePlateaus u_3 r_a r_b r_ties r_z r_plateaus r_ones r_others r_weights r_there u_4 u_5 u_6 (upd r_found_6 x1_6.toNatClampNeg x1_6)) H := hP
      have hD : va_D A (wd_Mo_beginMerging cA a_r r_manner r_above r_below r_nodes r_arcs r_left r_isBest r_arePlateaus u_3 r_a r_b r_ties r_z r_plateaus r_ones r_others r_weights r_there u_4 u_5 u_6 (upd r_found_6 x1_6.toNatClampNeg x1_6)) := hD
      refine lv_iinc (v := (x1_6 + 1)) (lv' := [(1, .int (x1_6 + 1)), (0, .ref (a_r 0))]) hx hb d_Mo_beginMerging_21 hl (k := 0) rfl rfl (by decide) rfl (fun ls hl => ?_)
      refine lv_goto (tgt := 6) hx hb d_Mo_beginMerging_24 (by decide) ?_
      exact cast (hG _ _ _ _ _ _ _) (hB_6 ((x1_6 + 1), (upd r_found_6 x1_6.toNatClampNeg x1_6)) h _ _ _ hP hD hS (lv_sub hl [0, 1] rfl))
def wd_Mo_merged (cA : Nat → ClassId) (a_r : Nat → Nat) (r_manner : Int32) (r_above : Int32) (r_below : Int32) (r_nodes : Int32) (r_arcs : Int32) (r_left : Int32) (r_isBest : Int32) (r_arePlateaus : Int32) (r_all : Int64) (r_a : Int64) (r_b : Int64) (r_ties : Int32) (r_z : Int32) (r_plateaus : Int32) (r_ones : Nat → Int32) (r_others : Nat → Int32) (r_weights : Nat → Int32) (r_there : Nat → Int32) (r_hand : Nat → Int32) (r_between : Nat → Int32) (r_joins : Nat → Int32) (r_has : Nat → Int32) (r_sums : Nat → Int64) (r_sizes : Nat → Int64) (r_names : Nat → Int32) (r_found : Nat → Int32) (r_tried : Nat → Int32) : va_W := [(a_r 0, .inr (8, [.int r_manner, .int r_above, .int r_below, .int r_nodes, .int r_arcs, .int r_left, .ref (a_r 1), .ref (a_r 2), .ref (a_r 3), .ref (a_r 4), .ref (a_r 5), .int r_isBest, .int r_arePlateaus, .ref (a_r 6), .ref (a_r 7), .ref (a_r 8), .long r_all, .ref (a_r 9), .ref (a_r 10), .long r_a, .long r_b, .ref (a_r 11), .ref (a_r 12), .ref (a_r 13), .ref (a_r 14), .ref (a_r 15), .int r_ties, .ref (a_r 16), .ref (a_r 17), .ref (a_r 18), .int r_z, .int r_plateaus, .ref (a_r 19), .ref (a_r 20), .ref (a_r 21), .ref (a_r 22)])), (a_r 1, .inl (cA 0, 36, .inl r_ones)), (a_r 2, .inl (cA 0, 36, .inl r_others)), (a_r 3, .inl (cA 0, 36, .inl r_weights)), (a_r 4, .inl (cA 2, 36, .inl r_there)), (a_r 5, .inl (cA 0, 9, .inl r_hand)), (a_r 6, .inl (cA 0, 81, .inl r_between)), (a_r 7, .inl (cA 2, 81, .inl r_joins)), (a_r 8, .inl (cA 0, 9, .inl r_has)), (a_r 9, .inl (cA 1, 9, .inr (.inl r_sums))), (a_r 10, .inl (cA 1, 9, .inr (.inl r_sizes))), (a_r 11, .inl (cA 0, 9, .inl r_names)), (a_r 14, .inl (cA 0, 9, .inl r_found)), (a_r 16, .inl (cA 0, 9, .inl r_tried))]
noncomputable def s_Mo_merged_25 (x1 : Int32) (r_above : Int32) (r_all : Int64) (r_below : Int32) (r_between : Nat → Int32) (r_has : Nat → Int32) (r_manner : Int32) (r_nodes : Int32) (zz : Int32 × Int64 × Int64 × (Nat → Int32) × (Nat → Int32) × (Nat → Int64) × (Nat → Int64) × (Nat → Int32)) (back exit : (Int32 × Int64 × Int64 × (Nat → Int32) × (Nat → Int32) × (Nat → Int64) × (Nat → Int64) × (Nat → Int32)) → Option (Int32 × Int64 × Int64 × Int64 × (Nat → Int32) × (Nat → Int32) × (Nat → Int32) × (Nat → Int32) × (Nat → Int64) × (Nat → Int64) × (Nat → Int32) × (Nat → Int32) × (Nat → Int32))) : Option (Int32 × Int64 × Int64 × Int64 × (Nat → Int32) × (Nat → Int32) × (Nat → Int32) × (Nat → Int32) × (Nat → Int64) × (Nat → Int64) × (Nat → Int32) × (Nat → Int32) × (Nat → Int32)) :=
  (if x1 ≤ zz.1 then (exit (zz.1, zz.2.1, zz.2.2.1, zz.2.2.2.1, zz.2.2.2.2.1, zz.2.2.2.2.2.1, zz.2.2.2.2.2.2.1, zz.2.2.2.2.2.2.2)) else ((m_Mo_mergeOnce r_manner r_above r_below r_nodes r_all zz.2.1 zz.2.2.1 r_between r_has zz.2.2.2.2.2.2.1 zz.2.2.2.2.2.1 zz.2.2.2.2.1 zz.2.2.2.1 zz.2.2.2.2.2.2.2).bind (fun r31 : Int64 × Int64 × (Nat → Int64) × (Nat → Int64) × (Nat → Int32) × (Nat → Int32) × (Nat → Int32) => (back ((zz.1 + 1), r31.1, r31.2.1, r31.2.2.2.2.2.1, r31.2.2.2.2.1, r31.2.2.2.1, r31.2.2.1, r31.2.2.2.2.2.2)))))
noncomputable def m_Mo_merged (r_manner : Int32) (r_above : Int32) (r_below : Int32) (r_nodes : Int32) (r_arcs : Int32) (r_all : Int64) (r_a : Int64) (r_b : Int64) (r_ones : Nat → Int32) (r_others : Nat → Int32) (r_weights : Nat → Int32) (r_there : Nat → Int32) (r_hand : Nat → Int32) (r_between : Nat → Int32) (r_joins : Nat → Int32) (r_has : Nat → Int32) (r_sums : Nat → Int64) (r_sizes : Nat → Int64) (r_names : Nat → Int32) (r_found : Nat → Int32) (r_tried : Nat → Int32) (v1 : Int32) : Option (Int32 × Int64 × Int64 × Int64 × (Nat → Int32) × (Nat → Int32) × (Nat → Int32) × (Nat → Int32) × (Nat → Int64) × (Nat → Int64) × (Nat → Int32) × (Nat → Int32) × (Nat → Int32)) :=
  (if v1 < 0 then some ((-2 : Int32), r_all, r_a, r_b, r_hand, r_between, r_joins, r_has, r_sums, r_sizes, r_names, r_found, r_tried) else (jn (fun z19 : Unit => ((m_Mo_beginMerging r_manner r_nodes r_arcs r_ones r_others r_weights r_there r_between r_joins r_has r_found).bind (fun r20 : Int64 × (Nat → Int32) × (Nat → Int32) × (Nat → Int32) × (Nat → Int32) => (loopC (s_Mo_merged_25 v1 r_above r20.1 r_below r20.2.1 r20.2.2.2.1 r_manner r_nodes) (fun z25 : Int32 × Int64 × Int64 × (Nat → Int32) × (Nat → Int32) × (Nat → Int64) × (Nat → Int64) × (Nat → Int32) => ((m_Mo_copy r_nodes z25.2.2.2.1 r_hand).bind (fun r49 : (Nat → Int32) => ((m_Mo_number r_nodes z25.2.2.2.2.1 r49).bind (fun r57 : Int32 × (Nat → Int32) × (Nat → Int32) => some (r57.1, r20.1, z25.2.1, z25.2.2.1, r57.2.2, r20.2.1, r20.2.2.1, r20.2.2.2.1, z25.2.2.2.2.2.2.1, z25.2.2.2.2.2.1, r57.2.1, z25.2.2.2.1, z25.2.2.2.2.2.2.2)))))) FU ((0 : Int32), r_a, r_b, r20.2.2.2.2, r_names, r_sizes, r_sums, r_tried))))) (fun j19 => (if v1 < r_nodes then (j19 ()) else (if v1 ≤ 0 then (j19 ()) else some ((-2 : Int32), r_all, r_a, r_b, r_hand, r_between, r_joins, r_has, r_sums, r_sizes, r_names, r_found, r_tried))))))
set_option maxHeartbeats 4000000 in
set_option maxRecDepth 100000 in
theorem c_Mo_merged (l : Launch) (D : va_G) (cA : Nat → ClassId) (a_r : Nat → Nat) (sz : Nat) (r_manner : Int32) (r_above : Int32) (r_below : Int32) (r_nodes : Int32) (r_arcs : Int32) (r_left : Int32) (r_isBest : Int32) (r_arePlateaus : Int32) (r_all : Int64) (r_a : Int64) (r_b : Int64) (r_ties : Int32) (r_z : Int32) (r_plateaus : Int32) (r_ones : Nat → Int32) (r_others : Nat → Int32) (r_weights : Nat → Int32) (r_there : Nat → Int32) (r_hand : Nat → Int32) (r_between : Nat → Int32) (r_joins : Nat → Int32) (r_has : Nat → Int32) (r_sums : Nat → Int64) (r_sizes : Nat → Int64) (r_names : Nat → Int32) (r_found : Nat → Int32) (r_tried : Nat → Int32) (v1 : Int32) (out : Int32 × Int64 × Int64 × Int64 × (Nat → Int32) × (Nat → Int32) × (Nat → Int32) × (Nat → Int32) × (Nat → Int64) × (Nat → Int64) × (Nat → Int32) × (Nat → Int32) × (Nat → Int32)) (h : m_Mo_merged r_manner r_above r_below r_nodes r_arcs r_all r_a r_b r_ones r_others r_weights r_there r_hand r_between r_joins r_has r_sums r_sizes r_names r_found r_tried v1 = some out) : Met l y_Mo_merged w_Mo_merged ({ frames := 3, cells := 0, slots := 0, locals := 78 }) (va_Pc [.ref (a_r 0), .int v1] (fun U => U.heap.size = sz ∧ va_P D cls9 (wd_Mo_merged cA a_r r_manner r_above r_below r_nodes r_arcs r_left r_isBest r_arePlateaus r_all r_a r_b r_ties r_z r_plateaus r_ones r_others r_weights r_there r_hand r_between r_joins r_has r_sums r_sizes r_names r_found r_tried) U.heap ∧ va_K D cls9 (tys5 cA) U ∧ va_D (fun _ => True) (wd_Mo_merged cA a_r r_manner r_above r_below r_nodes r_arcs r_left r_isBest r_arePlateaus r_all r_a r_b r_ties r_z r_plateaus r_ones r_others r_weights r_there r_hand r_between r_joins r_has r_sums r_sizes r_names r_found r_tried))) (va_Qi (fun (rr : Int32) (uu : Int64 × Int64 × Int64 × (Nat → Int32) × (Nat → Int32) × (Nat → Int32) × (Nat → Int32) × (Nat → Int64) × (Nat → Int64) × (Nat → Int32) × (Nat → Int32) × (Nat → Int32)) => (rr, uu) = out) (fun (uu : Int64 × Int64 × Int64 × (Nat → Int32) × (Nat → Int32) × (Nat → Int32) × (Nat → Int32) × (Nat → Int64) × (Nat → Int64) × (Nat → Int32) × (Nat → Int32) × (Nat → Int32)) (t : State) => va_P D cls9 (wd_Mo_merged cA a_r r_manner r_above r_below r_nodes r_arcs r_left r_isBest r_arePlateaus uu.1 uu.2.1 uu.2.2.1 r_ties r_z r_plateaus r_ones r_others r_weights r_there uu.2.2.2.1 uu.2.2.2.2.1 uu.2.2.2.2.2.1 uu.2.2.2.2.2.2.1 uu.2.2.2.2.2.2.2.1 uu.2.2.2.2.2.2.2.2.1 uu.2.2.2.2.2.2.2.2.2.1 uu.2.2.2.2.2.2.2.2.2.2.1 uu.2.2.2.2.2.2.2.2.2.2.2) t.heap ∧ va_K D cls9 (tys5 cA) t ∧ va_D (va_A (wd_Mo_merged cA a_r r_manner r_above r_below r_nodes r_arcs r_left r_isBest r_arePlateaus r_all r_a r_b r_ties r_z r_plateaus r_ones r_others r_weights r_there r_hand r_between r_joins r_has r_sums r_sizes r_names r_found r_tried) sz) (wd_Mo_merged cA a_r r_manner r_above r_below r_nodes r_arcs r_left r_isBest r_arePlateaus uu.1 uu.2.1 uu.2.2.1 r_ties r_z r_plateaus r_ones r_others r_weights r_there uu.2.2.2.1 uu.2.2.2.2.1 uu.2.2.2.2.2.1 uu.2.2.2.2.2.2.1 uu.2.2.2.2.2.2.2.1 uu.2.2.2.2.2.2.2.2.1 uu.2.2.2.2.2.2.2.2.2.1 uu.2.2.2.2.2.2.2.2.2.2.1 uu.2.2.2.2.2.2.2.2.2.2.2)) (va_A (wd_Mo_merged cA a_r r_manner r_above r_below r_nodes r_arcs r_left r_isBest r_arePlateaus r_all r_a r_b r_ties r_z r_plateaus r_ones r_others r_weights r_there r_hand r_between r_joins r_has r_sums r_sizes r_names r_found r_tried) sz)) 0 0 (va_A (wd_Mo_merged cA a_r r_manner r_above r_below r_nodes r_arcs r_left r_isBest r_arePlateaus r_all r_a r_b r_ties r_z r_plateaus r_ones r_others r_weights r_there r_hand r_between r_joins r_has r_sums r_sizes r_names r_found r_tried) sz) := by
  refine Met.ofW (cc := b_Mo_merged) (maxL := 3) (ret := (Option.some Jvm.ClassFile.FieldType.int)) (by decide) rfl ?_
  intro p e s m args below meth c s₁ B hml hv
  obtain ⟨rfl, hsz, hP, hK, hD0⟩ := hv
  have hx := B.exec
  have hb := B.bytes
  have hr := B.returns
  have hts := atoms_spec (ws := w_Mo_merged) B.pre
  have hal : ∀ w ∈ ALLW, w.before _ s = true := fun w hw => hts w (List.mem_cons_of_mem _ hw)
  have hown : s.vm.findClass R_Mo = some m.cls := findClass_of_methodNamed B.named
  have hlocks := B.notSynchronized
  subst hsz
  have hD := hD0.self (sz := s.heap.size)
  generalize hAe : va_A (wd_Mo_merged cA a_r r_manner r_above r_below r_nodes r_arcs r_left r_isBest r_arePlateaus r_all r_a r_b r_ties r_z r_plateaus r_ones r_others r_weights r_there r_hand r_between r_joins r_has r_sums r_sizes r_names r_found r_tried) s.heap.size = A at hD ⊢
  have hA : ∀ q : Nat, s.heap.size ≤ q → A q := fun q h => by rw [← hAe]; exact Or.inr h
  have hS : va_S A s.heap s.heap [] := va_S.rf
  have hl := lv_entry ([.ref (a_r 0), .int v1]) (n := 3) (Nat.le_of_ble_eq_true rfl)
  rw [lg_entry_eq]
  generalize (lg_sl ([.ref (a_r 0), .int v1]) ++ List.replicate (3 - (lg_sl ([.ref (a_r 0), .int v1])).length) Slot.unset).toArray = ls at hl ⊢
  have hl : lv_has ls 3 [(0, .ref (a_r 0)), (1, .int v1)] := hl
  refine wg (fun G hG => ?_)
  refine cast (hG _ _ _ _ _ _ _).symm ?_
  obtain ⟨H, locs, hHl, hS⟩ : ∃ (H : Heap) (locs : List Loc), (H = s.heap ∧ locs = []) ∧ va_S A s.heap H locs := ⟨s.heap, [], ⟨rfl, rfl⟩, hS⟩
  have hP : va_P D cls9 (wd_Mo_merged cA a_r r_manner r_above r_below r_nodes r_arcs r_left r_isBest r_arePlateaus r_all r_a r_b r_ties r_z r_plateaus r_ones r_others r_weights r_there r_hand r_between r_joins r_has r_sums r_sizes r_names r_found r_tried) H := by rw [hHl.1]; exact hP
  rw [← hHl.1, ← hHl.2]
  clear hHl
  refine lv_iload_n hx hb d_Mo_merged_0 rfl (lv_at hl 1 rfl) ?_
  refine lv_if_lt (tgt := 16) hx hb d_Mo_merged_1 (by decide) (fun c_1 => ?_) (fun c_1 => ?_)
  · have h := ifp (c_1) h
    refine lv_bipush (v := (-2)) hx hb d_Mo_merged_16 (by decide) ?_
    exact W.iret (v := (-2 : Int32)) hx hb hr (fun t ht hW => ⟨⟨(-2 : Int32), (r_all, r_a, r_b, r_hand, r_between, r_joins, r_has, r_sums, r_sizes, r_names, r_found, r_tried), rfl, Option.some.inj h, by rw [ht]; exact hP, va_K.moved hW.alike hK, hD⟩, hS.F ht⟩) hS.2.2 d_Mo_merged_18
  · have h := ifn (c_1) h
    refine lv_iload_n hx hb d_Mo_merged_4 rfl (lv_at hl 1 rfl) ?_
    refine lv_aload_n hx hb d_Mo_merged_5 rfl (lv_at hl 0 rfl) ?_
    refine va_get (ci := 8) (v := .int r_nodes) (C := R_Mo) (T := F_Mo) (N := 36) hx hb hal in_Mo hown hK hP 0 rfl rfl 3 (by decide) (hal _ kw_640) (fun _ h9 => h9) rfl d_Mo_merged_6 ?_
    refine cast (hG _ _ _ _ _ _ _) (jn_go h (fun zz : Unit => ∀ (H : Heap) (locs : List Loc) (ls : Array Slot), va_P D cls9 (wd_Mo_merged cA a_r r_manner r_above r_below r_nodes r_arcs r_left r_isBest r_arePlateaus r_all r_a r_b r_ties r_z r_plateaus r_ones r_others r_weights r_there r_hand r_between r_joins r_has r_sums r_sizes r_names r_found r_tried) H → va_D A (wd_Mo_merged cA a_r r_manner r_above r_below r_nodes r_arcs r_left r_isBest r_arePlateaus r_all r_a r_b r_ties r_z r_plateaus r_ones r_others r_weights r_there r_hand r_between r_joins r_has r_sums r_sizes r_names r_found r_tried) → va_S A s.heap H locs → lv_has ls 3 [(0, .ref (a_r 0)), (1, .int v1)] → G H locs 0 0 ls 19 []) ?_ ?_)
    · intro zz h H locs ls hP hD hS hl
      have hP : va_P D cls9 (wd_Mo_merged cA a_r r_manner r_above r_below r_nodes r_arcs r_left r_isBest r_arePlateaus r_all r_a r_b r_ties r_z r_plateaus r_ones r_others r_weights r_there r_hand r_between r_joins r_has r_sums r_sizes r_names r_found r_tried) H := hP
      have hD : va_D A (wd_Mo_merged cA a_r r_manner r_above r_below r_nodes r_arcs r_left r_isBest r_arePlateaus r_all r_a r_b r_ties r_z r_plateaus r_ones r_others r_weights r_there r_hand r_between r_joins r_has r_sums r_sizes r_names r_found r_tried) := hD
      have hl : lv_has ls 3 [(0, .ref (a_r 0)), (1, .int v1)] := hl
      refine cast (hG _ _ _ _ _ _ _).symm ?_
      refine lv_aload_n hx hb d_Mo_merged_19 rfl (lv_at hl 0 rfl) ?_
      obtain ⟨o_10, hc_9, h⟩ := bd h
      have hPc := hP.sub (ws' := (wd_Mo_beginMerging cA a_r r_manner r_above r_below r_nodes r_arcs r_left r_isBest r_arePlateaus r_all r_a r_b r_ties r_z r_plateaus r_ones r_others r_weights r_there r_between r_joins r_has r_found)) [0, 1, 2, 3, 4, 6, 7, 8, 12] rfl
      have hDc := hD.sub (ws' := (wd_Mo_beginMerging cA a_r r_manner r_above r_below r_nodes r_arcs r_left r_isBest r_arePlateaus r_all r_a r_b r_ties r_z r_plateaus r_ones r_others r_weights r_there r_between r_joins r_has r_found)) [0, 1, 2, 3, 4, 6, 7, 8, 12] (by decide) rfl
      have hFc := va_free (wc := (wd_Mo_beginMerging cA a_r r_manner r_above r_below r_nodes r_arcs r_left r_isBest r_arePlateaus r_all r_a r_b r_ties r_z r_plateaus r_ones r_others r_weights r_there r_between r_joins r_has r_found)) hD hS hA [0, 1, 2, 3, 4, 6, 7, 8, 12] rfl
      refine va_callv (va_runV (C := R_Mo) (As := []) (rest := []) ⟨hx, hb, hml, hown, hal⟩ (c_Mo_beginMerging l D cA a_r H.size r_manner r_above r_below r_nodes r_arcs r_left r_isBest r_arePlateaus r_all r_a r_b r_ties r_z r_plateaus r_ones r_others r_weights r_there r_between r_joins r_has r_found o_10 hc_9) (cwV 0 hal (goodV kw_881 kw_883 kw_p41 kw_9 kw_884) rfl rfl rfl (by decide +kernel) ⟨Nat.le_of_ble_eq_true rfl, Nat.le_of_ble_eq_true rfl⟩) ⟨fun a U g mk q => by obtain ⟨q0, q1, qP, qK, qD⟩ := q; exact ⟨q0, q1, qP, va_K.moved (u := U) (U := U.calling g mk a) (Vm.Alike.refl U.vm) qK, qD⟩, va_recv hK hP (ci := 8) (q0 := 0) rfl rfl, fun U hU hW => ⟨rfl, by rw [hU], by rw [hU]; exact hPc, va_K.moved hW.alike hK, hDc.weaken (fun _ _ _ _ => trivial)⟩⟩ rfl rfl hl.1 rfl (lv_room (Nat.le_of_ble_eq_true rfl)) d_Mo_merged_20 ⟨Nat.le_of_ble_eq_true rfl, Nat.le_of_ble_eq_true rfl⟩) hS (fun q _ h => hFc q h) hFc (fun u t H1 locs ht hvm hw hB hz1 hk1 hS => ?_)
      obtain ⟨u_4, u_5, u_6, u_7, u_8⟩ := u
      subst hw
      obtain ⟨hP1, hK1, hD1⟩ := hB
      rw [ht] at hP1
      have hP1 : va_P D cls9 (wd_Mo_beginMerging cA a_r r_manner r_above r_below r_nodes r_arcs r_left r_isBest r_arePlateaus u_4 r_a r_b r_ties r_z r_plateaus r_ones r_others r_weights r_there u_5 u_6 u_7 u_8) H1 := hP1
      obtain ⟨hP, hD⟩ := va_join (wr := ([5, 9, 10, 11, 13] : List Nat).filterMap (fun i => (wd_Mo_merged cA a_r r_manner r_above r_below r_nodes r_arcs r_left r_isBest r_arePlateaus r_all r_a r_b r_ties r_z r_plateaus r_ones r_others r_weights r_there r_hand r_between r_joins r_has r_sums r_sizes r_names r_found r_tried)[i]?)) (w1 := (wd_Mo_beginMerging cA a_r r_manner r_above r_below r_nodes r_arcs r_left r_isBest r_arePlateaus u_4 r_a r_b r_ties r_z r_plateaus r_ones r_others r_weights r_there u_5 u_6 u_7 u_8)) hP hD [0, 1, 2, 3, 4, 6, 7, 8, 12] [5, 9, 10, 11, 13] rfl rfl (by decide) (by decide) hk1 hFc hP1 hD1
      generalize H1 = H at hP hS ⊢
      have hP : va_P D cls9 (wd_Mo_merged cA a_r r_manner r_above r_below r_nodes r_arcs r_left r_isBest r_arePlateaus u_4 r_a r_b r_ties r_z r_plateaus r_ones r_others r_weights r_there r_hand u_5 u_6 u_7 r_sums r_sizes r_names u_8 r_tried) H := hP.sub [5, 6, 7, 8, 9, 0, 10, 11, 12, 1, 2, 3, 13, 4] rfl
      have hD : va_D A (wd_Mo_merged cA a_r r_manner r_above r_below r_nodes r_arcs r_left r_isBest r_arePlateaus u_4 r_a r_b r_ties r_z r_plateaus r_ones r_others r_weights r_there r_hand u_5 u_6 u_7 r_sums r_sizes r_names u_8 r_tried) := hD.sub [5, 6, 7, 8, 9, 0, 10, 11, 12, 1, 2, 3, 13, 4] (by decide) rfl
      refine lv_iconst (v := 0) hx hb d_Mo_merged_23 (by decide) ?_
      refine lv_istore_n (lv' := [(2, .int (0 : Int32)), (0, .ref (a_r 0)), (1, .int v1)]) hx hb d_Mo_merged_24 rfl hl (by decide) rfl (fun ls hl => ?_)
      refine cast (hG _ _ _ _ _ _ _) (lp_go2 h (fun zz : Int32 × Int64 × Int64 × (Nat → Int32) × (Nat → Int32) × (Nat → Int64) × (Nat → Int64) × (Nat → Int32) => ∀ (H : Heap) (locs : List Loc) (ls : Array Slot), va_P D cls9 (wd_Mo_merged cA a_r r_manner r_above r_below r_nodes r_arcs r_left r_isBest r_arePlateaus u_4 zz.2.1 zz.2.2.1 r_ties r_z r_plateaus r_ones r_others r_weights r_there r_hand u_5 u_6 u_7 zz.2.2.2.2.2.2.1 zz.2.2.2.2.2.1 zz.2.2.2.2.1 zz.2.2.2.1 zz.2.2.2.2.2.2.2) H → va_D A (wd_Mo_merged cA a_r r_manner r_above r_below r_nodes r_arcs r_left r_isBest r_arePlateaus u_4 zz.2.1 zz.2.2.1 r_ties r_z r_plateaus r_ones r_others r_weights r_there r_hand u_5 u_6 u_7 zz.2.2.2.2.2.2.1 zz.2.2.2.2.2.1 zz.2.2.2.2.1 zz.2.2.2.1 zz.2.2.2.2.2.2.2) → va_S A s.heap H locs → lv_has ls 3 [(2, .int zz.1), (0, .ref (a_r 0)), (1, .int v1)] → G H locs 0 0 ls 40 []) ?_ (fun zz : Int32 × Int64 × Int64 × (Nat → Int32) × (Nat → Int32) × (Nat → Int64) × (Nat → Int64) × (Nat → Int32) => ∀ (H : Heap) (locs : List Loc) (ls : Array Slot), va_P D cls9 (wd_Mo_merged cA a_r r_manner r_above r_below r_nodes r_arcs r_left r_isBest r_arePlateaus u_4 zz.2.1 zz.2.2.1 r_ties r_z r_plateaus r_ones r_others r_weights r_there r_hand u_5 u_6 u_7 zz.2.2.2.2.2.2.1 zz.2.2.2.2.2.1 zz.2.2.2.2.1 zz.2.2.2.1 zz.2.2.2.2.2.2.2) H → va_D A (wd_Mo_merged cA a_r r_manner r_above r_below r_nodes r_arcs r_left r_isBest r_arePlateaus u_4 zz.2.1 zz.2.2.1 r_ties r_z r_plateaus r_ones r_others r_weights r_there r_hand u_5 u_6 u_7 zz.2.2.2.2.2.2.1 zz.2.2.2.2.2.1 zz.2.2.2.2.1 zz.2.2.2.1 zz.2.2.2.2.2.2.2) → va_S A s.heap H locs → lv_has ls 3 [(2, .int zz.1), (0, .ref (a_r 0)), (1, .int v1)] → G H locs 0 0 ls 25 []) ?_ _ _ ls hP hD hS (lv_sub hl [0, 1, 2] rfl))
      · intro zz h H locs ls hP hD hS hl
        obtain ⟨x2_25e, r_a_25e, r_b_25e, r_found_25e, r_names_25e, r_sizes_25e, r_sums_25e, r_tried_25e⟩ := zz
        have hP : va_P D cls9 (wd_Mo_merged cA a_r r_manner r_above r_below r_nodes r_arcs r_left r_isBest r_arePlateaus u_4 r_a_25e r_b_25e r_ties r_z r_plateaus r_ones r_others r_weights r_there r_hand u_5 u_6 u_7 r_sums_25e r_sizes_25e r_names_25e r_found_25e r_tried_25e) H := hP
        have hD : va_D A (wd_Mo_merged cA a_r r_manner r_above r_below r_nodes r_arcs r_left r_isBest r_arePlateaus u_4 r_a_25e r_b_25e r_ties r_z r_plateaus r_ones r_others r_weights r_there r_hand u_5 u_6 u_7 r_sums_25e r_sizes_25e r_names_25e r_found_25e r_tried_25e) := hD
        have hl : lv_has ls 3 [(2, .int x2_25e), (0, .ref (a_r 0)), (1, .int v1)] := hl
        refine cast (hG _ _ _ _ _ _ _).symm ?_
        refine lv_aload_n hx hb d_Mo_merged_40 rfl (lv_at hl 1 rfl) ?_
        refine lv_aload_n hx hb d_Mo_merged_41 rfl (lv_at hl 1 rfl) ?_
        refine va_get (ci := 8) (v := .ref (a_r 14)) (C := R_Mo) (T := F_Mo) (N := 36) hx hb hal in_Mo hown hK hP 0 rfl rfl 24 (by decide) (hal _ kw_661) (fun _ h9 => h9) rfl d_Mo_merged_42 ?_
        refine lv_aload_n hx hb d_Mo_merged_45 rfl (lv_at hl 1 rfl) ?_
        refine va_get (ci := 8) (v := .ref (a_r 5)) (C := R_Mo) (T := F_Mo) (N := 36) hx hb hal in_Mo hown hK hP 0 rfl rfl 10 (by decide) (hal _ kw_647) (fun _ h9 => h9) rfl d_Mo_merged_46 ?_
        obtain ⟨o_15, hc_14, h⟩ := bd h
        have hPc := hP.sub (ws' := (wd_Mo_copy cA a_r (fun _ => a_r 14) (fun _ => a_r 5) r_manner r_above r_below r_nodes r_arcs r_left r_isBest r_arePlateaus u_4 r_a_25e r_b_25e r_ties r_z r_plateaus r_found_25e r_hand)) [0, 12, 5] rfl
        have hDc := hD.sub (ws' := (wd_Mo_copy cA a_r (fun _ => a_r 14) (fun _ => a_r 5) r_manner r_above r_below r_nodes r_arcs r_left r_isBest r_arePlateaus u_4 r_a_25e r_b_25e r_ties r_z r_plateaus r_found_25e r_hand)) [0, 12, 5] (by decide) rfl
        have hFc := va_free (wc := (wd_Mo_copy cA a_r (fun _ => a_r 14) (fun _ => a_r 5) r_manner r_above r_below r_nodes r_arcs r_left r_isBest r_arePlateaus u_4 r_a_25e r_b_25e r_ties r_z r_plateaus r_found_25e r_hand)) hD hS hA [0, 12, 5] rfl
        refine va_callv (va_runV (C := R_Mo) (As := [.ref (a_r 14), .ref (a_r 5)]) (rest := []) ⟨hx, hb, hml, hown, hal⟩ (c_Mo_copy l D cA a_r (fun _ => a_r 14) (fun _ => a_r 5) H.size r_manner r_above r_below r_nodes r_arcs r_left r_isBest r_arePlateaus u_4 r_a_25e r_b_25e r_ties r_z r_plateaus r_found_25e r_hand o_15 hc_14) (cwV 2 hal (goodV kw_833 kw_835 kw_p35 kw_9 kw_836) rfl rfl rfl (by decide +kernel) ⟨Nat.le_of_ble_eq_true rfl, Nat.le_of_ble_eq_true rfl⟩) ⟨fun a U g mk q => by obtain ⟨q0, q1, qP, qK, qD⟩ := q; exact ⟨q0, q1, qP, va_K.moved (u := U) (U := U.calling g mk a) (Vm.Alike.refl U.vm) qK, qD⟩, va_recv hK hP (ci := 8) (q0 := 0) rfl rfl, fun U hU hW => ⟨rfl, by rw [hU], by rw [hU]; exact hPc, va_K.moved hW.alike hK, hDc.weaken (fun _ _ _ _ => trivial)⟩⟩ rfl rfl hl.1 rfl (lv_room (Nat.le_of_ble_eq_true rfl)) d_Mo_merged_49 ⟨Nat.le_of_ble_eq_true rfl, Nat.le_of_ble_eq_true rfl⟩) hS (fun q _ h => hFc q h) hFc (fun u t H1 locs ht hvm hw hB hz1 hk1 hS => ?_)
        obtain ⟨u_13, rfl⟩ : ∃ q, q = u := ⟨_, rfl⟩
        subst hw
        obtain ⟨hP1, hK1, hD1⟩ := hB
        rw [ht] at hP1
        have hP1 : va_P D cls9 (wd_Mo_copy cA a_r (fun _ => a_r 14) (fun _ => a_r 5) r_manner r_above r_below r_nodes r_arcs r_left r_isBest r_arePlateaus u_4 r_a_25e r_b_25e r_ties r_z r_plateaus r_found_25e u_13) H1 := hP1
        obtain ⟨hP, hD⟩ := va_join (wr := ([1, 2, 3, 4, 6, 7, 8, 9, 10, 11, 13] : List Nat).filterMap (fun i => (wd_Mo_merged cA a_r r_manner r_above r_below r_nodes r_arcs r_left r_isBest r_arePlateaus u_4 r_a_25e r_b_25e r_ties r_z r_plateaus r_ones r_others r_weights r_there r_hand u_5 u_6 u_7 r_sums_25e r_sizes_25e r_names_25e r_found_25e r_tried_25e)[i]?)) (w1 := (wd_Mo_copy cA a_r (fun _ => a_r 14) (fun _ => a_r 5) r_manner r_above r_below r_nodes r_arcs r_left r_isBest r_arePlateaus u_4 r_a_25e r_b_25e r_ties r_z r_plateaus r_found_25e u_13)) hP hD [0, 12, 5] [1, 2, 3, 4, 6, 7, 8, 9, 10, 11, 13] rfl rfl (by decide) (by decide) hk1 hFc hP1 hD1
        generalize H1 = H at hP hS ⊢
        have hP : va_P D cls9 (wd_Mo_merged cA a_r r_manner r_above r_below r_nodes r_arcs r_left r_isBest r_arePlateaus u_4 r_a_25e r_b_25e r_ties r_z r_plateaus r_ones r_others r_weights r_there u_13 u_5 u_6 u_7 r_sums_25e r_sizes_25e r_names_25e r_found_25e r_tried_25e) H := hP.sub [11, 0, 1, 2, 3, 13, 4, 5, 6, 7, 8, 9, 12, 10] rfl
        have hD : va_D A (wd_Mo_merged cA a_r r_manner r_above r_below r_nodes r_arcs r_left r_isBest r_arePlateaus u_4 r_a_25e r_b_25e r_ties r_z r_plateaus r_ones r_others r_weights r_there u_13 u_5 u_6 u_7 r_sums_25e r_sizes_25e r_names_25e r_found_25e r_tried_25e) := hD.sub [11, 0, 1, 2, 3, 13, 4, 5, 6, 7, 8, 9, 12, 10] (by decide) rfl
        refine lv_aload_n hx hb d_Mo_merged_52 rfl (lv_at hl 1 rfl) ?_
        refine lv_aload_n hx hb d_Mo_merged_53 rfl (lv_at hl 1 rfl) ?_
        refine va_get (ci := 8) (v := .ref (a_r 5)) (C := R_Mo) (T := F_Mo) (N := 36) hx hb hal in_Mo hown hK hP 0 rfl rfl 10 (by decide) (hal _ kw_647) (fun _ h9 => h9) rfl d_Mo_merged_54 ?_
        obtain ⟨o_21, hc_20, h⟩ := bd h
        have hPc := hP.sub (ws' := (wd_Mo_number cA a_r (fun _ => a_r 5) r_manner r_above r_below r_nodes r_arcs r_left r_isBest r_arePlateaus u_4 r_a_25e r_b_25e r_ties r_z r_plateaus r_names_25e u_13)) [0, 11, 5] rfl
        have hDc := hD.sub (ws' := (wd_Mo_number cA a_r (fun _ => a_r 5) r_manner r_above r_below r_nodes r_arcs r_left r_isBest r_arePlateaus u_4 r_a_25e r_b_25e r_ties r_z r_plateaus r_names_25e u_13)) [0, 11, 5] (by decide) rfl
        have hFc := va_free (wc := (wd_Mo_number cA a_r (fun _ => a_r 5) r_manner r_above r_below r_nodes r_arcs r_left r_isBest r_arePlateaus u_4 r_a_25e r_b_25e r_ties r_z r_plateaus r_names_25e u_13)) hD hS hA [0, 11, 5] rfl
        refine va_calli (va_runV (C := R_Mo) (As := [.ref (a_r 5)]) (rest := []) ⟨hx, hb, hml, hown, hal⟩ (c_Mo_number l D cA a_r (fun _ => a_r 5) H.size r_manner r_above r_below r_nodes r_arcs r_left r_isBest r_arePlateaus u_4 r_a_25e r_b_25e r_ties r_z r_plateaus r_names_25e u_13 o_21 hc_20) (cwV 1 hal (goodV kw_791 kw_793 kw_p29 kw_9 kw_794) rfl rfl rfl (by decide +kernel) ⟨Nat.le_of_ble_eq_true rfl, Nat.le_of_ble_eq_true rfl⟩) ⟨fun a U g mk q => by obtain ⟨q0, q1, qP, qK, qD⟩ := q; exact ⟨q0, q1, qP, va_K.moved (u := U) (U := U.calling g mk a) (Vm.Alike.refl U.vm) qK, qD⟩, va_recv hK hP (ci := 8) (q0 := 0) rfl rfl, fun U hU hW => ⟨rfl, by rw [hU], by rw [hU]; exact hPc, va_K.moved hW.alike hK, hDc.weaken (fun _ _ _ _ => trivial)⟩⟩ rfl rfl hl.1 rfl (lv_room (Nat.le_of_ble_eq_true rfl)) d_Mo_merged_57 ⟨Nat.le_of_ble_eq_true rfl, Nat.le_of_ble_eq_true rfl⟩) hS (fun q _ h => hFc q h) hFc (fun r_17 u t H1 locs ht hvm hw hB hz1 hk1 hS => ?_)
        obtain ⟨u_18, u_19⟩ := u
        subst hw
        obtain ⟨hP1, hK1, hD1⟩ := hB
        rw [ht] at hP1
        have hP1 : va_P D cls9 (wd_Mo_number cA a_r (fun _ => a_r 5) r_manner r_above r_below r_nodes r_arcs r_left r_isBest r_arePlateaus u_4 r_a_25e r_b_25e r_ties r_z r_plateaus u_18 u_19) H1 := hP1
        obtain ⟨hP, hD⟩ := va_join (wr := ([1, 2, 3, 4, 6, 7, 8, 9, 10, 12, 13] : List Nat).filterMap (fun i => (wd_Mo_merged cA a_r r_manner r_above r_below r_nodes r_arcs r_left r_isBest r_arePlateaus u_4 r_a_25e r_b_25e r_ties r_z r_plateaus r_ones r_others r_weights r_there u_13 u_5 u_6 u_7 r_sums_25e r_sizes_25e r_names_25e r_found_25e r_tried_25e)[i]?)) (w1 := (wd_Mo_number cA a_r (fun _ => a_r 5) r_manner r_above r_below r_nodes r_arcs r_left r_isBest r_arePlateaus u_4 r_a_25e r_b_25e r_ties r_z r_plateaus u_18 u_19)) hP hD [0, 11, 5] [1, 2, 3, 4, 6, 7, 8, 9, 10, 12, 13] rfl rfl (by decide) (by decide) hk1 hFc hP1 hD1
        generalize H1 = H at hP hS ⊢
        have hP : va_P D cls9 (wd_Mo_merged cA a_r r_manner r_above r_below r_nodes r_arcs r_left r_isBest r_arePlateaus u_4 r_a_25e r_b_25e r_ties r_z r_plateaus r_ones r_others r_weights r_there u_19 u_5 u_6 u_7 r_sums_25e r_sizes_25e u_18 r_found_25e r_tried_25e) H := hP.sub [11, 0, 1, 2, 3, 13, 4, 5, 6, 7, 8, 12, 9, 10] rfl
        have hD : va_D A (wd_Mo_merged cA a_r r_manner r_above r_below r_nodes r_arcs r_left r_isBest r_arePlateaus u_4 r_a_25e r_b_25e r_ties r_z r_plateaus r_ones r_others r_weights r_there u_19 u_5 u_6 u_7 r_sums_25e r_sizes_25e u_18 r_found_25e r_tried_25e) := hD.sub [11, 0, 1, 2, 3, 13, 4, 5, 6, 7, 8, 12, 9, 10] (by decide) rfl
        exact W.iret (v := r_17) hx hb hr (fun t ht hW => ⟨⟨r_17, (u_4, r_a_25e, r_b_25e, u_19, u_5, u_6, u_7, r_sums_25e, r_sizes_25e, u_18, r_found_25e, r_tried_25e), rfl, Option.some.inj h, by rw [ht]; exact hP, va_K.moved hW.alike hK, hD⟩, hS.F ht⟩) hS.2.2 d_Mo_merged_60
      · intro back exit zz hB_25 hE_25 h H locs ls hP hD hS hl
        obtain ⟨x2_25, r_a_25, r_b_25, r_found_25, r_names_25, r_sizes_25, r_sums_25, r_tried_25⟩ := zz
        have hP : va_P D cls9 (wd_Mo_merged cA a_r r_manner r_above r_below r_nodes r_arcs r_left r_isBest r_arePlateaus u_4 r_a_25 r_b_25 r_ties r_z r_plateaus r_ones r_others r_weights r_there r_hand u_5 u_6 u_7 r_sums_25 r_sizes_25 r_names_25 r_found_25 r_tried_25) H := hP
        have hD : va_D A (wd_Mo_merged cA a_r r_manner r_above r_below r_nodes r_arcs r_left r_isBest r_arePlateaus u_4 r_a_25 r_b_25 r_ties r_z r_plateaus r_ones r_others r_weights r_there r_hand u_5 u_6 u_7 r_sums_25 r_sizes_25 r_names_25 r_found_25 r_tried_25) := hD
        have hl : lv_has ls 3 [(2, .int x2_25), (0, .ref (a_r 0)), (1, .int v1)] := hl
        refine cast (hG _ _ _ _ _ _ _).symm ?_
        refine lv_iload_n hx hb d_Mo_merged_25 rfl (lv_at hl 0 rfl) ?_
        refine lv_iload_n hx hb d_Mo_merged_26 rfl (lv_at hl 2 rfl) ?_
        refine lv_icmp_ge (tgt := 40) hx hb d_Mo_merged_27 (by decide) (fun c_22 => ?_) (fun c_22 => ?_)
        · have h := ifp (c_22) h
          exact cast (hG _ _ _ _ _ _ _) (hE_25 (x2_25, r_a_25, r_b_25, r_found_25, r_names_25, r_sizes_25, r_sums_25, r_tried_25) h _ _ _ hP hD hS (lv_sub hl [0, 1, 2] rfl))
        · have h := ifn (c_22) h
          refine lv_aload_n hx hb d_Mo_merged_30 rfl (lv_at hl 1 rfl) ?_
          obtain ⟨o_33, hc_32, h⟩ := bd h
          have hPc := hP.sub (ws' := (wd_Mo_mergeOnce cA a_r r_manner r_above r_below r_nodes r_arcs r_left r_isBest r_arePlateaus u_4 r_a_25 r_b_25 r_ties r_z r_plateaus u_5 u_7 r_sums_25 r_sizes_25 r_names_25 r_found_25 r_tried_25)) [0, 6, 8, 9, 10, 11, 12, 13] rfl
          have hDc := hD.sub (ws' := (wd_Mo_mergeOnce cA a_r r_manner r_above r_below r_nodes r_arcs r_left r_isBest r_arePlateaus u_4 r_a_25 r_b_25 r_ties r_z r_plateaus u_5 u_7 r_sums_25 r_sizes_25 r_names_25 r_found_25 r_tried_25)) [0, 6, 8, 9, 10, 11, 12, 13] (by decide) rfl
          have hFc := va_free (wc := (wd_Mo_mergeOnce cA a_r r_manner r_above r_below r_nodes r_arcs r_left r_isBest r_arePlateaus u_4 r_a_25 r_b_25 r_ties r_z r_plateaus u_5 u_7 r_sums_25 r_sizes_25 r_names_25 r_found_25 r_tried_25)) hD hS hA [0, 6, 8, 9, 10, 11, 12, 13] rfl
          refine va_callv (va_runV (C := R_Mo) (As := []) (rest := []) ⟨hx, hb, hml, hown, hal⟩ (c_Mo_mergeOnce l D cA a_r H.size r_manner r_above r_below r_nodes r_arcs r_left r_isBest r_arePlateaus u_4 r_a_25 r_b_25 r_ties r_z r_plateaus u_5 u_7 r_sums_25 r_sizes_25 r_names_25 r_found_25 r_tried_25 o_33 hc_32) (cwV 0 hal (goodV kw_885 kw_887 kw_p42 kw_9 kw_888) rfl rfl rfl (by decide +kernel) ⟨Nat.le_of_ble_eq_true rfl, Nat.le_of_ble_eq_true rfl⟩) ⟨fun a U g mk q => by obtain ⟨q0, q1, qP, qK, qD⟩ := q; exact ⟨q0, q1, qP, va_K.moved (u := U) (U := U.calling g mk a) (Vm.Alike.refl U.vm) qK, qD⟩, va_recv hK hP (ci := 8) (q0 := 0) rfl rfl, fun U hU hW => ⟨rfl, by rw [hU], by rw [hU]; exact hPc, va_K.moved hW.alike hK, hDc.weaken (fun _ _ _ _ => trivial)⟩⟩ rfl rfl hl.1 rfl (lv_room (Nat.le_of_ble_eq_true rfl)) d_Mo_merged_31 ⟨Nat.le_of_ble_eq_true rfl, Nat.le_of_ble_eq_true rfl⟩) hS (fun q _ h => hFc q h) hFc (fun u t H1 locs ht hvm hw hB hz1 hk1 hS => ?_)
          obtain ⟨u_25, u_26, u_27, u_28, u_29, u_30, u_31⟩ := u
          subst hw
          obtain ⟨hP1, hK1, hD1⟩ := hB
          rw [ht] at hP1
          have hP1 : va_P D cls9 (wd_Mo_mergeOnce cA a_r r_manner r_above r_below r_nodes r_arcs r_left r_isBest r_arePlateaus u_4 u_25 u_26 r_ties r_z r_plateaus u_5 u_7 u_27 u_28 u_29 u_30 u_31) H1 := hP1
          obtain ⟨hP, hD⟩ := va_join (wr := ([1, 2, 3, 4, 5, 7] : List Nat).filterMap (fun i => (wd_Mo_merged cA a_r r_manner r_above r_below r_nodes r_arcs r_left r_isBest r_arePlateaus u_4 r_a_25 r_b_25 r_ties r_z r_plateaus r_ones r_others r_weights r_there r_hand u_5 u_6 u_7 r_sums_25 r_sizes_25 r_names_25 r_found_25 r_tried_25)[i]?)) (w1 := (wd_Mo_mergeOnce cA a_r r_manner r_above r_below r_nodes r_arcs r_left r_isBest r_arePlateaus u_4 u_25 u_26 r_ties r_z r_plateaus u_5 u_7 u_27 u_28 u_29 u_30 u_31)) hP hD [0, 6, 8, 9, 10, 11, 12, 13] [1, 2, 3, 4, 5, 7] rfl rfl (by decide) (by decide) hk1 hFc hP1 hD1
          generalize H1 = H at hP hS ⊢
          have hP : va_P D cls9 (wd_Mo_merged cA a_r r_manner r_above r_below r_nodes r_arcs r_left r_isBest r_arePlateaus u_4 u_25 u_26 r_ties r_z r_plateaus r_ones r_others r_weights r_there r_hand u_5 u_6 u_7 u_27 u_28 u_29 u_30 u_31) H := hP.sub [6, 0, 1, 2, 3, 4, 7, 5, 8, 9, 10, 11, 12, 13] rfl
          have hD : va_D A (wd_Mo_merged cA a_r r_manner r_above r_below r_nodes r_arcs r_left r_isBest r_arePlateaus u_4 u_25 u_26 r_ties r_z r_plateaus r_ones r_others r_weights r_there r_hand u_5 u_6 u_7 u_27 u_28 u_29 u_30 u_31) := hD.sub [6, 0, 1, 2, 3, 4, 7, 5, 8, 9, 10, 11, 12, 13] (by decide) rfl
          refine lv_iinc (v := (x2_25 + 1)) (lv' := [(2, .int (x2_25 + 1)), (0, .ref (a_r 0)), (1, .int v1)]) hx hb d_Mo_merged_34 hl (k := 0) rfl rfl (by decide) rfl (fun ls hl => ?_)
          refine lv_goto (tgt := 25) hx hb d_Mo_merged_37 (by decide) ?_
          exact cast (hG _ _ _ _ _ _ _) (hB_25 ((x2_25 + 1), u_25, u_26, u_30, u_29, u_28, u_27, u_31) h _ _ _ hP hD hS (lv_sub hl [0, 1, 2] rfl))
    · intro j19 hJ_19 h
      refine cast (hG _ _ _ _ _ _ _).symm ?_
      refine lv_icmp_lt (tgt := 19) hx hb d_Mo_merged_9 (by decide) (fun c_34 => ?_) (fun c_34 => ?_)
      · have h := ifp (c_34) h
        exact cast (hG _ _ _ _ _ _ _) (hJ_19 () h _ _ _ hP hD hS (lv_sub hl [0, 1] rfl))
      · have h := ifn (c_34) h
        refine lv_iload_n hx hb d_Mo_merged_12 rfl (lv_at hl 1 rfl) ?_
        refine lv_if_le (tgt := 19) hx hb d_Mo_merged_13 (by decide) (fun c_35 => ?_) (fun c_35 => ?_)
        · have h := ifp (c_35) h
          exact cast (hG _ _ _ _ _ _ _) (hJ_19 () h _ _ _ hP hD hS (lv_sub hl [0, 1] rfl))
        · have h := ifn (c_35) h
          refine lv_bipush (v := (-2)) hx hb d_Mo_merged_16 (by decide) ?_
          exact W.iret (v := (-2 : Int32)) hx hb hr (fun t ht hW => ⟨⟨(-2 : Int32), (r_all, r_a, r_b, r_hand, r_between, r_joins, r_has, r_sums, r_sizes, r_names, r_found, r_tried), rfl, Option.some.inj h, by rw [ht]; exact hP, va_K.moved hW.alike hK, hD⟩, hS.F ht⟩) hS.2.2 d_Mo_merged_18
def wd_Mo_mergedBest (cA : Nat → ClassId) (a_r : Nat → Nat) (r_manner : Int32) (r_above : Int32) (r_below : Int32) (r_nodes : Int32) (r_arcs : Int32) (r_left : Int32) (r_isBest : Int32) (r_arePlateaus : Int32) (r_all : Int64) (r_a : Int64) (r_b : Int64) (r_ties : Int32) (r_z : Int32) (r_plateaus : Int32) (r_ones : Nat → Int32) (r_others : Nat → Int32) (r_weights : Nat → Int32) (r_there : Nat → Int32) (r_between : Nat → Int32) (r_joins : Nat → Int32) (r_has : Nat → Int32) (r_sums : Nat → Int64) (r_sizes : Nat → Int64) (r_names : Nat → Int32) (r_found : Nat → Int32) (r_tried : Nat → Int32) : va_W := [(a_r 0, .inr (8, [.int r_manner, .int r_above, .int r_below, .int r_nodes, .int r_arcs, .int r_left, .ref (a_r 1), .ref (a_r 2), .ref (a_r 3), .ref (a_r 4), .ref (a_r 5), .int r_isBest, .int r_arePlateaus, .ref (a_r 6), .ref (a_r 7), .ref (a_r 8), .long r_all, .ref (a_r 9), .ref (a_r 10), .long r_a, .long r_b, .ref (a_r 11), .ref (a_r 12), .ref (a_r 13), .ref (a_r 14), .ref (a_r 15), .int r_ties, .ref (a_r 16), .ref (a_r 17), .ref (a_r 18), .int r_z, .int r_plateaus, .ref (a_r 19), .ref (a_r 20), .ref (a_r 21), .ref (a_r 22)])), (a_r 1, .inl (cA 0, 36, .inl r_ones)), (a_r 2, .inl (cA 0, 36, .inl r_others)), (a_r 3, .inl (cA 0, 36, .inl r_weights)), (a_r 4, .inl (cA 2, 36, .inl r_there)), (a_r 6, .inl (cA 0, 81, .inl r_between)), (a_r 7, .inl (cA 2, 81, .inl r_joins)), (a_r 8, .inl (cA 0, 9, .inl r_has)), (a_r 9, .inl (cA 1, 9, .inr (.inl r_sums))), (a_r 10, .inl (cA 1, 9, .inr (.inl r_sizes))), (a_r 11, .inl (cA 0, 9, .inl r_names)), (a_r 14, .inl (cA 0, 9, .inl r_found)), (a_r 16, .inl (cA 0, 9, .inl r_tried))]
noncomputable def s_Mo_mergedBest_18 (r_above : Int32) (r_all : Int64) (r_below : Int32) (r_between : Nat → Int32) (r_has : Nat → Int32) (r_manner : Int32) (r_nodes : Int32) (zz : Int64 × Int32 × Int32 × Int64 × Int64 × (Nat → Int32) × (Nat → Int32) × (Nat → Int64) × (Nat → Int64) × (Nat → Int32)) (back exit : (Int64 × Int32 × Int32 × Int64 × Int64 × (Nat → Int32) × (Nat → Int32) × (Nat → Int64) × (Nat → Int64) × (Nat → Int32)) → Option (Int32 × Int64 × Int64 × Int64 × (Nat → Int32) × (Nat → Int32) × (Nat → Int32) × (Nat → Int64) × (Nat → Int64) × (Nat → Int32) × (Nat → Int32) × (Nat → Int32))) : Option (Int32 × Int64 × Int64 × Int64 × (Nat → Int32) × (Nat → Int32) × (Nat → Int32) × (Nat → Int64) × (Nat → Int64) × (Nat → Int32) × (Nat → Int32) × (Nat → Int32)) :=
  (if r_nodes ≤ zz.2.2.1 then (exit (zz.1, zz.2.1, zz.2.2.1, zz.2.2.2.1, zz.2.2.2.2.1, zz.2.2.2.2.2.1, zz.2.2.2.2.2.2.1, zz.2.2.2.2.2.2.2.1, zz.2.2.2.2.2.2.2.2.1, zz.2.2.2.2.2.2.2.2.2)) else ((m_Mo_mergeOnce r_manner r_above r_below r_nodes r_all zz.2.2.2.1 zz.2.2.2.2.1 r_between r_has zz.2.2.2.2.2.2.2.2.1 zz.2.2.2.2.2.2.2.1 zz.2.2.2.2.2.2.1 zz.2.2.2.2.2.1 zz.2.2.2.2.2.2.2.2.2).bind (fun r28 : Int64 × Int64 × (Nat → Int64) × (Nat → Int64) × (Nat → Int32) × (Nat → Int32) × (Nat → Int32) => ((m_Mo_valueOf r_manner r_above r_below r_nodes r_all r_between r_has r28.2.2.1 r28.2.2.2.1 r28.2.2.2.2.2.1).bind (fun r36 : Int64 × Int64 × Int64 × (Nat → Int64) × (Nat → Int64) => (if r36.1 ≤ zz.1 then (back (zz.1, zz.2.1, (zz.2.2.1 + 1), r36.2.1, r36.2.2.1, r28.2.2.2.2.2.1, r28.2.2.2.2.1, r36.2.2.2.2, r36.2.2.2.1, r28.2.2.2.2.2.2)) else (back (r36.1, zz.2.2.1, (zz.2.2.1 + 1), r36.2.1, r36.2.2.1, r28.2.2.2.2.2.1, r28.2.2.2.2.1, r36.2.2.2.2, r36.2.2.2.1, r28.2.2.2.2.2.2))))))))
noncomputable def m_Mo_mergedBest (r_manner : Int32) (r_above : Int32) (r_below : Int32) (r_nodes : Int32) (r_arcs : Int32) (r_ones : Nat → Int32) (r_others : Nat → Int32) (r_weights : Nat → Int32) (r_there : Nat → Int32) (r_between : Nat → Int32) (r_joins : Nat → Int32) (r_has : Nat → Int32) (r_sums : Nat → Int64) (r_sizes : Nat → Int64) (r_names : Nat → Int32) (r_found : Nat → Int32) (r_tried : Nat → Int32) : Option (Int32 × Int64 × Int64 × Int64 × (Nat → Int32) × (Nat → Int32) × (Nat → Int32) × (Nat → Int64) × (Nat → Int64) × (Nat → Int32) × (Nat → Int32) × (Nat → Int32)) :=
  ((m_Mo_beginMerging r_manner r_nodes r_arcs r_ones r_others r_weights r_there r_between r_joins r_has r_found).bind (fun r1 : Int64 × (Nat → Int32) × (Nat → Int32) × (Nat → Int32) × (Nat → Int32) => ((m_Mo_valueOf r_manner r_above r_below r_nodes r1.1 r1.2.1 r1.2.2.2.1 r_sums r_sizes r1.2.2.2.2).bind (fun r9 : Int64 × Int64 × Int64 × (Nat → Int64) × (Nat → Int64) => (loopC (s_Mo_mergedBest_18 r_above r1.1 r_below r1.2.1 r1.2.2.2.1 r_manner r_nodes) (fun z18 : Int64 × Int32 × Int32 × Int64 × Int64 × (Nat → Int32) × (Nat → Int32) × (Nat → Int64) × (Nat → Int64) × (Nat → Int32) => some (z18.2.1, r1.1, z18.2.2.2.1, z18.2.2.2.2.1, r1.2.1, r1.2.2.1, r1.2.2.2.1, z18.2.2.2.2.2.2.2.2.1, z18.2.2.2.2.2.2.2.1, z18.2.2.2.2.2.2.1, z18.2.2.2.2.2.1, z18.2.2.2.2.2.2.2.2.2)) FU (r9.1, (0 : Int32), (1 : Int32), r9.2.1, r9.2.2.1, r1.2.2.2.2, r_names, r9.2.2.2.2, r9.2.2.2.1, r_tried))))))
set_option maxHeartbeats 4000000 in
set_option maxRecDepth 100000 in
theorem c_Mo_mergedBest (l : Launch) (D : va_G) (cA : Nat → ClassId) (a_r : Nat → Nat) (sz : Nat) (r_manner : Int32) (r_above : Int32) (r_below : Int32) (r_nodes : Int32) (r_arcs : Int32) (r_left : Int32) (r_isBest : Int32) (r_arePlateaus : Int32) (r_all : Int64) (r_a : Int64) (r_b : Int64) (r_ties : Int32) (r_z : Int32) (r_plateaus : Int32) (r_ones : Nat → Int32) (r_others : Nat → Int32) (r_weights : Nat → Int32) (r_there : Nat → Int32) (r_between : Nat → Int32) (r_joins : Nat → Int32) (r_has : Nat → Int32) (r_sums : Nat → Int64) (r_sizes : Nat → Int64) (r_names : Nat → Int32) (r_found : Nat → Int32) (r_tried : Nat → Int32)  (out : Int32 × Int64 × Int64 × Int64 × (Nat → Int32) × (Nat → Int32) × (Nat → Int32) × (Nat → Int64) × (Nat → Int64) × (Nat → Int32) × (Nat → Int32) × (Nat → Int32)) (h : m_Mo_mergedBest r_manner r_above r_below r_nodes r_arcs r_ones r_others r_weights r_there r_between r_joins r_has r_sums r_sizes r_names r_found r_tried = some out) : Met l y_Mo_mergedBest w_Mo_mergedBest ({ frames := 3, cells := 0, slots := 0, locals := 78 }) (va_Pc [.ref (a_r 0)] (fun U => U.heap.size = sz ∧ va_P D cls9 (wd_Mo_mergedBest cA a_r r_manner r_above r_below r_nodes r_arcs r_left r_isBest r_arePlateaus r_all r_a r_b r_ties r_z r_plateaus r_ones r_others r_weights r_there r_between r_joins r_has r_sums r_sizes r_names r_found r_tried) U.heap ∧ va_K D cls9 (tys5 cA) U ∧ va_D (fun _ => True) (wd_Mo_mergedBest cA a_r r_manner r_above r_below r_nodes r_arcs r_left r_isBest r_arePlateaus r_all r_a r_b r_ties r_z r_plateaus r_ones r_others r_weights r_there r_between r_joins r_has r_sums r_sizes r_names r_found r_tried))) (va_Qi (fun (rr : Int32) (uu : Int64 × Int64 × Int64 × (Nat → Int32) × (Nat → Int32) × (Nat → Int32) × (Nat → Int64) × (Nat → Int64) × (Nat → Int32) × (Nat → Int32) × (Nat → Int32)) => (rr, uu) = out) (fun (uu : Int64 × Int64 × Int64 × (Nat → Int32) × (Nat → Int32) × (Nat → Int32) × (Nat → Int64) × (Nat → Int64) × (Nat → Int32) × (Nat → Int32) × (Nat → Int32)) (t : State) => va_P D cls9 (wd_Mo_mergedBest cA a_r r_manner r_above r_below r_nodes r_arcs r_left r_isBest r_arePlateaus uu.1 uu.2.1 uu.2.2.1 r_ties r_z r_plateaus r_ones r_others r_weights r_there uu.2.2.2.1 uu.2.2.2.2.1 uu.2.2.2.2.2.1 uu.2.2.2.2.2.2.1 uu.2.2.2.2.2.2.2.1 uu.2.2.2.2.2.2.2.2.1 uu.2.2.2.2.2.2.2.2.2.1 uu.2.2.2.2.2.2.2.2.2.2) t.heap ∧ va_K D cls9 (tys5 cA) t ∧ va_D (va_A (wd_Mo_mergedBest cA a_r r_manner r_above r_below r_nodes r_arcs r_left r_isBest r_arePlateaus r_all r_a r_b r_ties r_z r_plateaus r_ones r_others r_weights r_there r_between r_joins r_has r_sums r_sizes r_names r_found r_tried) sz) (wd_Mo_mergedBest cA a_r r_manner r_above r_below r_nodes r_arcs r_left r_isBest r_arePlateaus uu.1 uu.2.1 uu.2.2.1 r_ties r_z r_plateaus r_ones r_others r_weights r_there uu.2.2.2.1 uu.2.2.2.2.1 uu.2.2.2.2.2.1 uu.2.2.2.2.2.2.1 uu.2.2.2.2.2.2.2.1 uu.2.2.2.2.2.2.2.2.1 uu.2.2.2.2.2.2.2.2.2.1 uu.2.2.2.2.2.2.2.2.2.2)) (va_A (wd_Mo_mergedBest cA a_r r_manner r_above r_below r_nodes r_arcs r_left r_isBest r_arePlateaus r_all r_a r_b r_ties r_z r_plateaus r_ones r_others r_weights r_there r_between r_joins r_has r_sums r_sizes r_names r_found r_tried) sz)) 0 0 (va_A (wd_Mo_mergedBest cA a_r r_manner r_above r_below r_nodes r_arcs r_left r_isBest r_arePlateaus r_all r_a r_b r_ties r_z r_plateaus r_ones r_others r_weights r_there r_between r_joins r_has r_sums r_sizes r_names r_found r_tried) sz) := by
  refine Met.ofW (cc := b_Mo_mergedBest) (maxL := 7) (ret := (Option.some Jvm.ClassFile.FieldType.int)) (by decide) rfl ?_
  intro p e s m args below meth c s₁ B hml hv
  obtain ⟨rfl, hsz, hP, hK, hD0⟩ := hv
  have hx := B.exec
  have hb := B.bytes
  have hr := B.returns
  have hts := atoms_spec (ws := w_Mo_mergedBest) B.pre
  have hal : ∀ w ∈ ALLW, w.before _ s = true := fun w hw => hts w (List.mem_cons_of_mem _ hw)
  have hown : s.vm.findClass R_Mo = some m.cls := findClass_of_methodNamed B.named
  have hlocks := B.notSynchronized
  subst hsz
  have hD := hD0.self (sz := s.heap.size)
  generalize hAe : va_A (wd_Mo_mergedBest cA a_r r_manner r_above r_below r_nodes r_arcs r_left r_isBest r_arePlateaus r_all r_a r_b r_ties r_z r_plateaus r_ones r_others r_weights r_there r_between r_joins r_has r_sums r_sizes r_names r_found r_tried) s.heap.size = A at hD ⊢
  have hA : ∀ q : Nat, s.heap.size ≤ q → A q := fun q h => by rw [← hAe]; exact Or.inr h
  have hS : va_S A s.heap s.heap [] := va_S.rf
  have hl := lv_entry ([.ref (a_r 0)]) (n := 7) (Nat.le_of_ble_eq_true rfl)
  rw [lg_entry_eq]
  generalize (lg_sl ([.ref (a_r 0)]) ++ List.replicate (7 - (lg_sl ([.ref (a_r 0)])).length) Slot.unset).toArray = ls at hl ⊢
  have hl : lv_has ls 7 [(0, .ref (a_r 0))] := hl
  refine wg (fun G hG => ?_)
  refine cast (hG _ _ _ _ _ _ _).symm ?_
  obtain ⟨H, locs, hHl, hS⟩ : ∃ (H : Heap) (locs : List Loc), (H = s.heap ∧ locs = []) ∧ va_S A s.heap H locs := ⟨s.heap, [], ⟨rfl, rfl⟩, hS⟩
  have hP : va_P D cls9 (wd_Mo_mergedBest cA a_r r_manner r_above r_below r_nodes r_arcs r_left r_isBest r_arePlateaus r_all r_a r_b r_ties r_z r_plateaus r_ones r_others r_weights r_there r_between r_joins r_has r_sums r_sizes r_names r_found r_tried) H := by rw [hHl.1]; exact hP
  rw [← hHl.1, ← hHl.2]
  clear hHl
  refine lv_aload_n hx hb d_Mo_mergedBest_0 rfl (lv_at hl 0 rfl) ?_
  obtain ⟨o_9, hc_8, h⟩ := bd h
  have hPc := hP.sub (ws' := (wd_Mo_beginMerging cA a_r r_manner r_above r_below r_nodes r_arcs r_left r_isBest r_arePlateaus r_all r_a r_b r_ties r_z r_plateaus r_ones r_others r_weights r_there r_between r_joins r_has r_found)) [0, 1, 2, 3, 4, 5, 6, 7, 11] rfl
  have hDc := hD.sub (ws' := (wd_Mo_beginMerging cA a_r r_manner r_above r_below r_nodes r_arcs r_left r_isBest r_arePlateaus r_all r_a r_b r_ties r_z r_plateaus r_ones r_others r_weights r_there r_between r_joins r_has r_found)) [0, 1, 2, 3, 4, 5, 6, 7, 11] (by decide) rfl
  have hFc := va_free (wc := (wd_Mo_beginMerging cA a_r r_manner r_above r_below r_nodes r_arcs r_left r_isBest r_arePlateaus r_all r_a r_b r_ties r_z r_plateaus r_ones r_others r_weights r_there r_between r_joins r_has r_found)) hD hS hA [0, 1, 2, 3, 4, 5, 6, 7, 11] rfl
  refine va_callv (va_runV (C := R_Mo) (As := []) (rest := []) ⟨hx, hb, hml, hown, hal⟩ (c_Mo_beginMerging l D cA a_r H.size r_manner r_above r_below r_nodes r_arcs r_left r_isBest r_arePlateaus r_all r_a r_b r_ties r_z r_plateaus r_ones r_others r_weights r_there r_between r_joins r_has r_found o_9 hc_8) (cwV 0 hal (goodV kw_881 kw_883 kw_p41 kw_9 kw_884) rfl rfl rfl (by decide +kernel) ⟨Nat.le_of_ble_eq_true rfl, Nat.le_of_ble_eq_true rfl⟩) ⟨fun a U g mk q => by obtain ⟨q0, q1, qP, qK, qD⟩ := q; exact ⟨q0, q1, qP, va_K.moved (u := U) (U := U.calling g mk a) (Vm.Alike.refl U.vm) qK, qD⟩, va_recv hK hP (ci := 8) (q0 := 0) rfl rfl, fun U hU hW => ⟨rfl, by rw [hU], by rw [hU]; exact hPc, va_K.moved hW.alike hK, hDc.weaken (fun _ _ _ _ => trivial)⟩⟩ rfl rfl hl.1 rfl (lv_room (Nat.le_of_ble_eq_true rfl)) d_Mo_mergedBest_1 ⟨Nat.le_of_ble_eq_true rfl, Nat.le_of_ble_eq_true rfl⟩) hS (fun q _ h => hFc q h) hFc (fun u t H1 locs ht hvm hw hB hz1 hk1 hS => ?_)
  obtain ⟨u_3, u_4, u_5, u_6, u_7⟩ := u
  subst hw
  obtain ⟨hP1, hK1, hD1⟩ := hB
  rw [ht] at hP1
  have hP1 : va_P D cls9 (wd_Mo_beginMerging cA a_r r_manner r_above r_below r_nodes r_arcs r_left r_isBest r_arePlateaus u_3 r_a r_b r_ties r_z r_plateaus r_ones r_others r_weights r_there u_4 u_5 u_6 u_7) H1 := hP1
  obtain ⟨hP, hD⟩ := va_join (wr := ([8, 9, 10, 12] : List Nat).filterMap (fun i => (wd_Mo_mergedBest cA a_r r_manner r_above r_below r_nodes r_arcs r_left r_isBest r_arePlateaus r_all r_a r_b r_ties r_z r_plateaus r_ones r_others r_weights r_there r_between r_joins r_has r_sums r_sizes r_names r_found r_tried)[i]?)) (w1 := (wd_Mo_beginMerging cA a_r r_manner r_above r_below r_nodes r_arcs r_left r_isBest r_arePlateaus u_3 r_a r_b r_ties r_z r_plateaus r_ones r_others r_weights r_there u_4 u_5 u_6 u_7)) hP hD [0, 1, 2, 3, 4, 5, 6, 7, 11] [8, 9, 10, 12] rfl rfl (by decide) (by decide) hk1 hFc hP1 hD1
  generalize H1 = H at hP hS ⊢
  have hP : va_P D cls9 (wd_Mo_mergedBest cA a_r r_manner r_above r_below r_nodes r_arcs r_left r_isBest r_arePlateaus u_3 r_a r_b r_ties r_z r_plateaus r_ones r_others r_weights r_there u_4 u_5 u_6 r_sums r_sizes r_names u_7 r_tried) H := hP.sub [4, 5, 6, 7, 8, 9, 10, 11, 0, 1, 2, 12, 3] rfl
  have hD : va_D A (wd_Mo_mergedBest cA a_r r_manner r_above r_below r_nodes r_arcs r_left r_isBest r_arePlateaus u_3 r_a r_b r_ties r_z r_plateaus r_ones r_others r_weights r_there u_4 u_5 u_6 r_sums r_sizes r_names u_7 r_tried) := hD.sub [4, 5, 6, 7, 8, 9, 10, 11, 0, 1, 2, 12, 3] (by decide) rfl
  refine lv_aload_n hx hb d_Mo_mergedBest_4 rfl (lv_at hl 0 rfl) ?_
  refine lv_aload_n hx hb d_Mo_mergedBest_5 rfl (lv_at hl 0 rfl) ?_
  refine va_get (ci := 8) (v := .ref (a_r 14)) (C := R_Mo) (T := F_Mo) (N := 36) hx hb hal in_Mo hown hK hP 0 rfl rfl 24 (by decide) (hal _ kw_661) (fun _ h9 => h9) rfl d_Mo_mergedBest_6 ?_
  obtain ⟨o_17, hc_16, h⟩ := bd h
  have hPc := hP.sub (ws' := (wd_Mo_valueOf cA a_r (fun _ => a_r 14) r_manner r_above r_below r_nodes r_arcs r_left r_isBest r_arePlateaus u_3 r_a r_b r_ties r_z r_plateaus u_4 u_6 r_sums r_sizes u_7)) [0, 5, 7, 8, 9, 11] rfl
  have hDc := hD.sub (ws' := (wd_Mo_valueOf cA a_r (fun _ => a_r 14) r_manner r_above r_below r_nodes r_arcs r_left r_isBest r_arePlateaus u_3 r_a r_b r_ties r_z r_plateaus u_4 u_6 r_sums r_sizes u_7)) [0, 5, 7, 8, 9, 11] (by decide) rfl
  have hFc := va_free (wc := (wd_Mo_valueOf cA a_r (fun _ => a_r 14) r_manner r_above r_below r_nodes r_arcs r_left r_isBest r_arePlateaus u_3 r_a r_b r_ties r_z r_plateaus u_4 u_6 r_sums r_sizes u_7)) hD hS hA [0, 5, 7, 8, 9, 11] rfl
  refine va_calll (va_runV (C := R_Mo) (As := [.ref (a_r 14)]) (rest := []) ⟨hx, hb, hml, hown, hal⟩ (c_Mo_valueOf l D cA a_r (fun _ => a_r 14) H.size r_manner r_above r_below r_nodes r_arcs r_left r_isBest r_arePlateaus u_3 r_a r_b r_ties r_z r_plateaus u_4 u_6 r_sums r_sizes u_7 o_17 hc_16) (cwV 1 hal (goodV kw_811 kw_813 kw_p32 kw_9 kw_814) rfl rfl rfl (by decide +kernel) ⟨Nat.le_of_ble_eq_true rfl, Nat.le_of_ble_eq_true rfl⟩) ⟨fun a U g mk q => by obtain ⟨q0, q1, qP, qK, qD⟩ := q; exact ⟨q0, q1, qP, va_K.moved (u := U) (U := U.calling g mk a) (Vm.Alike.refl U.vm) qK, qD⟩, va_recv hK hP (ci := 8) (q0 := 0) rfl rfl, fun U hU hW => ⟨rfl, by rw [hU], by rw [hU]; exact hPc, va_K.moved hW.alike hK, hDc.weaken (fun _ _ _ _ => trivial)⟩⟩ rfl rfl hl.1 rfl (lv_room (Nat.le_of_ble_eq_true rfl)) d_Mo_mergedBest_9 ⟨Nat.le_of_ble_eq_true rfl, Nat.le_of_ble_eq_true rfl⟩) hS (fun q _ h => hFc q h) hFc (fun r_11 u t H1 locs ht hvm hw hB hz1 hk1 hS => ?_)
  obtain ⟨u_12, u_13, u_14, u_15⟩ := u
  subst hw
  obtain ⟨hP1, hK1, hD1⟩ := hB
  rw [ht] at hP1
  have hP1 : va_P D cls9 (wd_Mo_valueOf cA a_r (fun _ => a_r 14) r_manner r_above r_below r_nodes r_arcs r_left r_isBest r_arePlateaus u_3 u_12 u_13 r_ties r_z r_plateaus u_4 u_6 u_14 u_15 u_7) H1 := hP1
  obtain ⟨hP, hD⟩ := va_join (wr := ([1, 2, 3, 4, 6, 10, 12] : List Nat).filterMap (fun i => (wd_Mo_mergedBest cA a_r r_manner r_above r_below r_nodes r_arcs r_left r_isBest r_arePlateaus u_3 r_a r_b r_ties r_z r_plateaus r_ones r_others r_weights r_there u_4 u_5 u_6 r_sums r_sizes r_names u_7 r_tried)[i]?)) (w1 := (wd_Mo_valueOf cA a_r (fun _ => a_r 14) r_manner r_above r_below r_nodes r_arcs r_left r_isBest r_arePlateaus u_3 u_12 u_13 r_ties r_z r_plateaus u_4 u_6 u_14 u_15 u_7)) hP hD [0, 5, 7, 8, 9, 11] [1, 2, 3, 4, 6, 10, 12] rfl rfl (by decide) (by decide) hk1 hFc hP1 hD1
  generalize H1 = H at hP hS ⊢
  have hP : va_P D cls9 (wd_Mo_mergedBest cA a_r r_manner r_above r_below r_nodes r_arcs r_left r_isBest r_arePlateaus u_3 u_12 u_13 r_ties r_z r_plateaus r_ones r_others r_weights r_there u_4 u_5 u_6 u_14 u_15 r_names u_7 r_tried) H := hP.sub [7, 0, 1, 2, 3, 8, 4, 9, 10, 11, 5, 12, 6] rfl
  have hD : va_D A (wd_Mo_mergedBest cA a_r r_manner r_above r_below r_nodes r_arcs r_left r_isBest r_arePlateaus u_3 u_12 u_13 r_ties r_z r_plateaus r_ones r_others r_weights r_there u_4 u_5 u_6 u_14 u_15 r_names u_7 r_tried) := hD.sub [7, 0, 1, 2, 3, 8, 4, 9, 10, 11, 5, 12, 6] (by decide) rfl
  refine lv_lstore_n (lv' := [(1, .long r_11), (0, .ref (a_r 0))]) hx hb d_Mo_mergedBest_12 rfl hl (by decide) rfl (fun ls hl => ?_)
  refine lv_iconst (v := 0) hx hb d_Mo_mergedBest_13 (by decide) ?_
  refine lv_istore_n (lv' := [(3, .int (0 : Int32)), (1, .long r_11), (0, .ref (a_r 0))]) hx hb d_Mo_mergedBest_14 rfl hl (by decide) rfl (fun ls hl => ?_)
  refine lv_iconst (v := 1) hx hb d_Mo_mergedBest_15 (by decide) ?_
  refine lv_istore (lv' := [(4, .int (1 : Int32)), (3, .int (0 : Int32)), (1, .long r_11), (0, .ref (a_r 0))]) hx hb d_Mo_mergedBest_16 hl (by decide) rfl (fun ls hl => ?_)
  refine cast (hG _ _ _ _ _ _ _) (lp_go2 h (fun zz : Int64 × Int32 × Int32 × Int64 × Int64 × (Nat → Int32) × (Nat → Int32) × (Nat → Int64) × (Nat → Int64) × (Nat → Int32) => ∀ (H : Heap) (locs : List Loc) (ls : Array Slot), va_P D cls9 (wd_Mo_mergedBest cA a_r r_manner r_above r_below r_nodes r_arcs r_left r_isBest r_arePlateaus u_3 zz.2.2.2.1 zz.2.2.2.2.1 r_ties r_z r_plateaus r_ones r_others r_weights r_there u_4 u_5 u_6 zz.2.2.2.2.2.2.2.2.1 zz.2.2.2.2.2.2.2.1 zz.2.2.2.2.2.2.1 zz.2.2.2.2.2.1 zz.2.2.2.2.2.2.2.2.2) H → va_D A (wd_Mo_mergedBest cA a_r r_manner r_above r_below r_nodes r_arcs r_left r_isBest r_arePlateaus u_3 zz.2.2.2.1 zz.2.2.2.2.1 r_ties r_z r_plateaus r_ones r_others r_weights r_there u_4 u_5 u_6 zz.2.2.2.2.2.2.2.2.1 zz.2.2.2.2.2.2.2.1 zz.2.2.2.2.2.2.1 zz.2.2.2.2.2.1 zz.2.2.2.2.2.2.2.2.2) → va_S A s.heap H locs → lv_has ls 7 [(4, .int zz.2.2.1), (3, .int zz.2.1), (1, .long zz.1), (0, .ref (a_r 0))] → G H locs 0 0 ls 60 []) ?_ (fun zz : Int64 × Int32 × Int32 × Int64 × Int64 × (Nat → Int32) × (Nat → Int32) × (Nat → Int64) × (Nat → Int64) × (Nat → Int32) => ∀ (H : Heap) (locs : List Loc) (ls : Array Slot), va_P D cls9 (wd_Mo_mergedBest cA a_r r_manner r_above r_below r_nodes r_arcs r_left r_isBest r_arePlateaus u_3 zz.2.2.2.1 zz.2.2.2.2.1 r_ties r_z r_plateaus r_ones r_others r_weights r_there u_4 u_5 u_6 zz.2.2.2.2.2.2.2.2.1 zz.2.2.2.2.2.2.2.1 zz.2.2.2.2.2.2.1 zz.2.2.2.2.2.1 zz.2.2.2.2.2.2.2.2.2) H → va_D A (wd_Mo_mergedBest cA a_r r_manner r_above r_below r_nodes r_arcs r_left r_isBest r_arePlateaus u_3 zz.2.2.2.1 zz.2.2.2.2.1 r_ties r_z r_plateaus r_ones r_others r_weights r_there u_4 u_5 u_6 zz.2.2.2.2.2.2.2.2.1 zz.2.2.2.2.2.2.2.1 zz.2.2.2.2.2.2.1 zz.2.2.2.2.2.1 zz.2.2.2.2.2.2.2.2.2) → va_S A s.heap H locs → lv_has ls 7 [(4, .int zz.2.2.1), (3, .int zz.2.1), (1, .long zz.1), (0, .ref (a_r 0))] → G H locs 0 0 ls 18 []) ?_ _ _ ls hP hD hS (lv_sub hl [0, 1, 2, 3] rfl))
  · intro zz h H locs ls hP hD hS hl
    obtain ⟨x1_18e, x3_18e, x4_18e, r_a_18e, r_b_18e, r_found_18e, r_names_18e, r_sizes_18e, r_sums_18e, r_tried_18e⟩ := zz
    have hP : va_P D cls9 (wd_Mo_mergedBest cA a_r r_manner r_above r_below r_nodes r_arcs r_left r_isBest r_arePlateaus u_3 r_a_18e r_b_18e r_ties r_z r_plateaus r_ones r_others r_weights r_there u_4 u_5 u_6 r_sums_18e r_sizes_18e r_names_18e r_found_18e r_tried_18e) H := hP
    have hD : va_D A (wd_Mo_mergedBest cA a_r r_manner r_above r_below r_nodes r_arcs r_left r_isBest r_arePlateaus u_3 r_a_18e r_b_18e r_ties r_z r_plateaus r_ones r_others r_weights r_there u_4 u_5 u_6 r_sums_18e r_sizes_18e r_names_18e r_found_18e r_tried_18e) := hD
    have hl : lv_has ls 7 [(4, .int x4_18e), (3, .int x3_18e), (1, .long x1_18e), (0, .ref (a_r 0))] := hl
    refine cast (hG _ _ _ _ _ _ _).symm ?_
    refine lv_iload_n hx hb d_Mo_mergedBest_60 rfl (lv_at hl 1 rfl) ?_
    exact W.iret (v := x3_18e) hx hb hr (fun t ht hW => ⟨⟨x3_18e, (u_3, r_a_18e, r_b_18e, u_4, u_5, u_6, r_sums_18e, r_sizes_18e, r_names_18e, r_found_18e, r_tried_18e), rfl, Option.some.inj h, by rw [ht]; exact hP, va_K.moved hW.alike hK, hD⟩, hS.F ht⟩) hS.2.2 d_Mo_mergedBest_61
  · intro back exit zz hB_18 hE_18 h H locs ls hP hD hS hl
    obtain ⟨x1_18, x3_18, x4_18, r_a_18, r_b_18, r_found_18, r_names_18, r_sizes_18, r_sums_18, r_tried_18⟩ := zz
    have hP : va_P D cls9 (wd_Mo_mergedBest cA a_r r_manner r_above r_below r_nodes r_arcs r_left r_isBest r_arePlateaus u_3 r_a_18 r_b_18 r_ties r_z r_plateaus r_ones r_others r_weights r_there u_4 u_5 u_6 r_sums_18 r_sizes_18 r_names_18 r_found_18 r_tried_18) H := hP
    have hD : va_D A (wd_Mo_mergedBest cA a_r r_manner r_above r_below r_nodes r_arcs r_left r_isBest r_arePlateaus u_3 r_a_18 r_b_18 r_ties r_z r_plateaus r_ones r_others r_weights r_there u_4 u_5 u_6 r_sums_18 r_sizes_18 r_names_18 r_found_18 r_tried_18) := hD
    have hl : lv_has ls 7 [(4, .int x4_18), (3, .int x3_18), (1, .long x1_18), (0, .ref (a_r 0))] := hl
    refine cast (hG _ _ _ _ _ _ _).symm ?_
    refine lv_iload hx hb d_Mo_mergedBest_18 (lv_at hl 0 rfl) ?_
    refine lv_aload_n hx hb d_Mo_mergedBest_20 rfl (lv_at hl 3 rfl) ?_
    refine va_get (ci := 8) (v := .int r_nodes) (C := R_Mo) (T := F_Mo) (N := 36) hx hb hal in_Mo hown hK hP 0 rfl rfl 3 (by decide) (hal _ kw_640) (fun _ h9 => h9) rfl d_Mo_mergedBest_21 ?_
    refine lv_icmp_ge (tgt := 60) hx hb d_Mo_mergedBest_24 (by decide) (fun c_18 => ?_) (fun c_18 => ?_)
    · have h := ifp (c_18) h
      exact cast (hG _ _ _ _ _ _ _) (hE_18 (x1_18, x3_18, x4_18, r_a_18, r_b_18, r_found_18, r_names_18, r_sizes_18, r_sums_18, r_tried_18) h _ _ _ hP hD hS (lv_sub hl [0, 1, 2, 3] rfl))
    · have h := ifn (c_18) h
      refine lv_aload_n hx hb d_Mo_mergedBest_27 rfl (lv_at hl 3 rfl) ?_
      obtain ⟨o_29, hc_28, h⟩ := bd h
      have hPc := hP.sub (ws' := (wd_Mo_mergeOnce cA a_r r_manner r_above r_below r_nodes r_arcs r_left r_isBest r_arePlateaus u_3 r_a_18 r_b_18 r_ties r_z r_plateaus u_4 u_6 r_sums_18 r_sizes_18 r_names_18 r_found_18 r_tried_18)) [0, 5, 7, 8, 9, 10, 11, 12] rfl
      have hDc := hD.sub (ws' := (wd_Mo_mergeOnce cA a_r r_manner r_above r_below r_nodes r_arcs r_left r_isBest r_arePlateaus u_3 r_a_18 r_b_18 r_ties r_z r_plateaus u_4 u_6 r_sums_18 r_sizes_18 r_names_18 r_found_18 r_tried_18)) [0, 5, 7, 8, 9, 10, 11, 12] (by decide) rfl
      have hFc := va_free (wc := (wd_Mo_mergeOnce cA a_r r_manner r_above r_below r_nodes r_arcs r_left r_isBest r_arePlateaus u_3 r_a_18 r_b_18 r_ties r_z r_plateaus u_4 u_6 r_sums_18 r_sizes_18 r_names_18 r_found_18 r_tried_18)) hD hS hA [0, 5, 7, 8, 9, 10, 11, 12] rfl
      refine va_callv (va_runV (C := R_Mo) (As := []) (rest := []) ⟨hx, hb, hml, hown, hal⟩ (c_Mo_mergeOnce l D cA a_r H.size r_manner r_above r_below r_nodes r_arcs r_left r_isBest r_arePlateaus u_3 r_a_18 r_b_18 r_ties r_z r_plateaus u_4 u_6 r_sums_18 r_sizes_18 r_names_18 r_found_18 r_tried_18 o_29 hc_28) (cwV 0 hal (goodV kw_885 kw_887 kw_p42 kw_9 kw_888) rfl rfl rfl (by decide +kernel) ⟨Nat.le_of_ble_eq_true rfl, Nat.le_of_ble_eq_true rfl⟩) ⟨fun a U g mk q => by obtain ⟨q0, q1, qP, qK, qD⟩ := q; exact ⟨q0, q1, qP, va_K.moved (u := U) (U := U.calling g mk a) (Vm.Alike.refl U.vm) qK, qD⟩, va_recv hK hP (ci := 8) (q0 := 0) rfl rfl, fun U hU hW => ⟨rfl, by rw [hU], by rw [hU]; exact hPc, va_K.moved hW.alike hK, hDc.weaken (fun _ _ _ _ => trivial)⟩⟩ rfl rfl hl.1 rfl (lv_room (Nat.le_of_ble_eq_true rfl)) d_Mo_mergedBest_28 ⟨Nat.le_of_ble_eq_true rfl, Nat.le_of_ble_eq_true rfl⟩) hS (fun q _ h => hFc q h) hFc (fun u t H1 locs ht hvm hw hB hz1 hk1 hS => ?_)
      obtain ⟨u_21, u_22, u_23, u_24, u_25, u_26, u_27⟩ := u
      subst hw
      obtain ⟨hP1, hK1, hD1⟩ := hB
      rw [ht] at hP1
      have hP1 : va_P D cls9 (wd_Mo_mergeOnce cA a_r r_manner r_above r_below r_nodes r_arcs r_left r_isBest r_arePlateaus u_3 u_21 u_22 r_ties r_z r_plateaus u_4 u_6 u_23 u_24 u_25 u_26 u_27) H1 := hP1
      obtain ⟨hP, hD⟩ := va_join (wr := ([1, 2, 3, 4, 6] : List Nat).filterMap (fun i => (wd_Mo_mergedBest cA a_r r_manner r_above r_below r_nodes r_arcs r_left r_isBest r_arePlateaus u_3 r_a_18 r_b_18 r_ties r_z r_plateaus r_ones r_others r_weights r_there u_4 u_5 u_6 r_sums_18 r_sizes_18 r_names_18 r_found_18 r_tried_18)[i]?)) (w1 := (wd_Mo_mergeOnce cA a_r r_manner r_above r_below r_nodes r_arcs r_left r_isBest r_arePlateaus u_3 u_21 u_22 r_ties r_z r_plateaus u_4 u_6 u_23 u_24 u_25 u_26 u_27)) hP hD [0, 5, 7, 8, 9, 10, 11, 12] [1, 2, 3, 4, 6] rfl rfl (by decide) (by decide) hk1 hFc hP1 hD1
      generalize H1 = H at hP hS ⊢
      have hP : va_P D cls9 (wd_Mo_mergedBest cA a_r r_manner r_above r_below r_nodes r_arcs r_left r_isBest r_arePlateaus u_3 u_21 u_22 r_ties r_z r_plateaus r_ones r_others r_weights r_there u_4 u_5 u_6 u_23 u_24 u_25 u_26 u_27) H := hP.sub [5, 0, 1, 2, 3, 6, 4, 7, 8, 9, 10, 11, 12] rfl
      have hD : va_D A (wd_Mo_mergedBest cA a_r r_manner r_above r_below r_nodes r_arcs r_left r_isBest r_arePlateaus u_3 u_21 u_22 r_ties r_z r_plateaus r_ones r_others r_weights r_there u_4 u_5 u_6 u_23 u_24 u_25 u_26 u_27) := hD.sub [5, 0, 1, 2, 3, 6, 4, 7, 8, 9, 10, 11, 12] (by decide) rfl
      refine lv_aload_n hx hb d_Mo_mergedBest_31 rfl (lv_at hl 3 rfl) ?_
      refine lv_aload_n hx hb d_Mo_mergedBest_32 rfl (lv_at hl 3 rfl) ?_
      refine va_get (ci := 8) (v := .ref (a_r 14)) (C := R_Mo) (T := F_Mo) (N := 36) hx hb hal in_Mo hown hK hP 0 rfl rfl 24 (by decide) (hal _ kw_661) (fun _ h9 => h9) rfl d_Mo_mergedBest_33 ?_
      obtain ⟨o_37, hc_36, h⟩ := bd h
      have hPc := hP.sub (ws' := (wd_Mo_valueOf cA a_r (fun _ => a_r 14) r_manner r_above r_below r_nodes r_arcs r_left r_isBest r_arePlateaus u_3 u_21 u_22 r_ties r_z r_plateaus u_4 u_6 u_23 u_24 u_26)) [0, 5, 7, 8, 9, 11] rfl
      have hDc := hD.sub (ws' := (wd_Mo_valueOf cA a_r (fun _ => a_r 14) r_manner r_above r_below r_nodes r_arcs r_left r_isBest r_arePlateaus u_3 u_21 u_22 r_ties r_z r_plateaus u_4 u_6 u_23 u_24 u_26)) [0, 5, 7, 8, 9, 11] (by decide) rfl
      have hFc := va_free (wc := (wd_Mo_valueOf cA a_r (fun _ => a_r 14) r_manner r_above r_below r_nodes r_arcs r_left r_isBest r_arePlateaus u_3 u_21 u_22 r_ties r_z r_plateaus u_4 u_6 u_23 u_24 u_26)) hD hS hA [0, 5, 7, 8, 9, 11] rfl
      refine va_calll (va_runV (C := R_Mo) (As := [.ref (a_r 14)]) (rest := []) ⟨hx, hb, hml, hown, hal⟩ (c_Mo_valueOf l D cA a_r (fun _ => a_r 14) H.size r_manner r_above r_below r_nodes r_arcs r_left r_isBest r_arePlateaus u_3 u_21 u_22 r_ties r_z r_plateaus u_4 u_6 u_23 u_24 u_26 o_37 hc_36) (cwV 1 hal (goodV kw_811 kw_813 kw_p32 kw_9 kw_814) rfl rfl rfl (by decide +kernel) ⟨Nat.le_of_ble_eq_true rfl, Nat.le_of_ble_eq_true rfl⟩) ⟨fun a U g mk q => by obtain ⟨q0, q1, qP, qK, qD⟩ := q; exact ⟨q0, q1, qP, va_K.moved (u := U) (U := U.calling g mk a) (Vm.Alike.refl U.vm) qK, qD⟩, va_recv hK hP (ci := 8) (q0 := 0) rfl rfl, fun U hU hW => ⟨rfl, by rw [hU], by rw [hU]; exact hPc, va_K.moved hW.alike hK, hDc.weaken (fun _ _ _ _ => trivial)⟩⟩ rfl rfl hl.1 rfl (lv_room (Nat.le_of_ble_eq_true rfl)) d_Mo_mergedBest_36 ⟨Nat.le_of_ble_eq_true rfl, Nat.le_of_ble_eq_true rfl⟩) hS (fun q _ h => hFc q h) hFc (fun r_31 u t H1 locs ht hvm hw hB hz1 hk1 hS => ?_)
      obtain ⟨u_32, u_33, u_34, u_35⟩ := u
      subst hw
      obtain ⟨hP1, hK1, hD1⟩ := hB
      rw [ht] at hP1
      have hP1 : va_P D cls9 (wd_Mo_valueOf cA a_r (fun _ => a_r 14) r_manner r_above r_below r_nodes r_arcs r_left r_isBest r_arePlateaus u_3 u_32 u_33 r_ties r_z r_plateaus u_4 u_6 u_34 u_35 u_26) H1 := hP1
      obtain ⟨hP, hD⟩ := va_join (wr := ([1, 2, 3, 4, 6, 10, 12] : List Nat).filterMap (fun i => (wd_Mo_mergedBest cA a_r r_manner r_above r_below r_nodes r_arcs r_left r_isBest r_arePlateaus u_3 u_21 u_22 r_ties r_z r_plateaus r_ones r_others r_weights r_there u_4 u_5 u_6 u_23 u_24 u_25 u_26 u_27)[i]?)) (w1 := (wd_Mo_valueOf cA a_r (fun _ => a_r 14) r_manner r_above r_below r_nodes r_arcs r_left r_isBest r_arePlateaus u_3 u_32 u_33 r_ties r_z r_plateaus u_4 u_6 u_34 u_35 u_26)) hP hD [0, 5, 7, 8, 9, 11] [1, 2, 3, 4, 6, 10, 12] rfl rfl (by decide) (by decide) hk1 hFc hP1 hD1
      generalize H1 = H at hP hS ⊢
      have hP : va_P D cls9 (wd_Mo_mergedBest cA a_r r_manner r_above r_below r_nodes r_arcs r_left r_isBest r_arePlateaus u_3 u_32 u_33 r_ties r_z r_plateaus r_ones r_others r_weights r_there u_4 u_5 u_6 u_34 u_35 u_25 u_26 u_27) H := hP.sub [7, 0, 1, 2, 3, 8, 4, 9, 10, 11, 5, 12, 6] rfl
      have hD : va_D A (wd_Mo_mergedBest cA a_r r_manner r_above r_below r_nodes r_arcs r_left r_isBest r_arePlateaus u_3 u_32 u_33 r_ties r_z r_plateaus r_ones r_others r_weights r_there u_4 u_5 u_6 u_34 u_35 u_25 u_26 u_27) := hD.sub [7, 0, 1, 2, 3, 8, 4, 9, 10, 11, 5, 12, 6] (by decide) rfl
      refine lv_lstore (lv' := [(5, .long r_31), (4, .int x4_18), (3, .int x3_18), (1, .long x1_18), (0, .ref (a_r 0))]) hx hb d_Mo_mergedBest_39 hl (by decide) rfl (fun ls hl => ?_)
      refine lv_lload hx hb d_Mo_mergedBest_41 (lv_at hl 0 rfl) ?_
      refine lv_lload_n hx hb d_Mo_mergedBest_43 rfl (lv_at hl 3 rfl) ?_
      refine W.lcmp hx hb d_Mo_mergedBest_44 ?_
      refine lv_if_le (tgt := 54) hx hb d_Mo_mergedBest_45 (by decide) (fun c_38 => ?_) (fun c_38 => ?_)
      · have h := ifp (lc_le.mp (c_38)) h
        refine lv_iinc (v := (x4_18 + 1)) (lv' := [(4, .int (x4_18 + 1)), (5, .long r_31), (3, .int x3_18), (1, .long x1_18), (0, .ref (a_r 0))]) hx hb d_Mo_mergedBest_54 hl (k := 1) rfl rfl (by decide) rfl (fun ls hl => ?_)
        refine lv_goto (tgt := 18) hx hb d_Mo_mergedBest_57 (by decide) ?_
        exact cast (hG _ _ _ _ _ _ _) (hB_18 (x1_18, x3_18, (x4_18 + 1), u_32, u_33, u_26, u_25, u_35, u_34, u_27) h _ _ _ hP hD hS (lv_sub hl [0, 2, 3, 4] rfl))
      · have h := ifn (fun q => (c_38) (lc_le.mpr q)) h
        refine lv_lload hx hb d_Mo_mergedBest_48 (lv_at hl 0 rfl) ?_
        refine lv_lstore_n (lv' := [(1, .long r_31), (5, .long r_31), (4, .int x4_18), (3, .int x3_18), (0, .ref (a_r 0))]) hx hb d_Mo_mergedBest_50 rfl hl (by decide) rfl (fun ls hl => ?_)
        refine lv_iload hx hb d_Mo_mergedBest_51 (lv_at hl 2 rfl) ?_
        refine lv_istore_n (lv' := [(3, .int x4_18), (1, .long r_31), (5, .long r_31), (4, .int x4_18), (0, .ref (a_r 0))]) hx hb d_Mo_mergedBest_53 rfl hl (by decide) rfl (fun ls hl => ?_)
        refine lv_iinc (v := (x4_18 + 1)) (lv' := [(4, .int (x4_18 + 1)), (3, .int x4_18), (1, .long r_31), (5, .long r_31), (0, .ref (a_r 0))]) hx hb d_Mo_mergedBest_54 hl (k := 3) rfl rfl (by decide) rfl (fun ls hl => ?_)
        refine lv_goto (tgt := 18) hx hb d_Mo_mergedBest_57 (by decide) ?_
        exact cast (hG _ _ _ _ _ _ _) (hB_18 (r_31, x4_18, (x4_18 + 1), u_32, u_33, u_26, u_25, u_35, u_34, u_27) h _ _ _ hP hD hS (lv_sub hl [0, 1, 2, 4] rfl))
def wd_Mo_wanted (cA : Nat → ClassId) (a_r : Nat → Nat) (r_manner : Int32) (r_above : Int32) (r_below : Int32) (r_nodes : Int32) (r_arcs : Int32) (r_left : Int32) (r_isBest : Int32) (r_arePlateaus : Int32) (r_all : Int64) (r_a : Int64) (r_b : Int64) (r_ties : Int32) (r_z : Int32) (r_plateaus : Int32) (r_between : Nat → Int32) (r_joins : Nat → Int32) (r_label : Nat → Int32) : va_W := [(a_r 0, .inr (8, [.int r_manner, .int r_above, .int r_below, .int r_nodes, .int r_arcs, .int r_left, .ref (a_r 1), .ref (a_r 2), .ref (a_r 3), .ref (a_r 4), .ref (a_r 5), .int r_isBest, .int r_arePlateaus, .ref (a_r 6), .ref (a_r 7), .ref (a_r 8), .long r_all, .ref (a_r 9), .ref (a_r 10), .long r_a, .long r_b, .ref (a_r 11), .ref (a_r 12), .ref (a_r 13), .ref (a_r 14), .ref (a_r 15), .int r_ties, .ref (a_r 16), .ref (a_r 17), .ref (a_r 18), .int r_z, .int r_plateaus, .ref (a_r 19), .ref (a_r 20), .ref (a_r 21), .ref (a_r 22)])), (a_r 6, .inl (cA 0, 81, .inl r_between)), (a_r 7, .inl (cA 2, 81, .inl r_joins)), (a_r 18, .inl (cA 0, 9, .inl r_label))]
noncomputable def s_Mo_wanted_33 (x1 : Int32) (x5 : Int32) (r_between : Nat → Int32) (r_joins : Nat → Int32) (r_label : Nat → Int32) (r_nodes : Int32) (zz : Int32 × Int32 × Int32) (back exit : (Int32 × Int32 × Int32) → Option Int32) : Option Int32 :=
  (if r_nodes ≤ zz.2.2 then (exit (zz.1, zz.2.1, zz.2.2)) else (if inb (((9 : Int32) * x1) + zz.2.2) 81 then (if (r_joins (((9 : Int32) * x1) + zz.2.2).toNatClampNeg) = 0 then (back (zz.1, zz.2.1, (zz.2.2 + 1))) else (if inb zz.2.2 9 then (if (r_label zz.2.2.toNatClampNeg) = x5 then (back ((1 : Int32), (zz.2.1 + (r_between (((9 : Int32) * x1) + zz.2.2).toNatClampNeg)), (zz.2.2 + 1))) else (back (zz.1, zz.2.1, (zz.2.2 + 1)))) else none)) else none))
noncomputable def s_Mo_wanted_15 (x1 : Int32) (r_between : Nat → Int32) (r_joins : Nat → Int32) (r_label : Nat → Int32) (r_nodes : Int32) (zz : Int32 × Int32 × Int32 × Int32) (back exit : (Int32 × Int32 × Int32 × Int32) → Option Int32) : Option Int32 :=
  (if r_nodes ≤ zz.2.2.2 then (exit (zz.1, zz.2.1, zz.2.2.1, zz.2.2.2)) else (loopC (s_Mo_wanted_33 x1 zz.2.2.2 r_between r_joins r_label r_nodes) (fun z33 : Int32 × Int32 × Int32 => (if z33.1 = 0 then (back (zz.1, zz.2.1, zz.2.2.1, (zz.2.2.2 + 1))) else (jn (fun z127 : Unit => (back ((1 : Int32), z33.2.1, zz.2.2.2, (zz.2.2.2 + 1)))) (fun j127 => (if zz.1 = 0 then (j127 ()) else (if zz.2.1 < z33.2.1 then (j127 ()) else (if z33.2.1 = zz.2.1 then (if inb x1 9 then (if zz.2.2.2 = (r_label x1.toNatClampNeg) then (j127 ()) else (back (zz.1, zz.2.1, zz.2.2.1, (zz.2.2.2 + 1)))) else none) else (back (zz.1, zz.2.1, zz.2.2.1, (zz.2.2.2 + 1)))))))))) FU ((0 : Int32), (0 : Int32), (0 : Int32))))
noncomputable def m_Mo_wanted (r_nodes : Int32) (r_between : Nat → Int32) (r_joins : Nat → Int32) (r_label : Nat → Int32) (v1 : Int32) : Option Int32 :=
  (if inb v1 9 then (loopC (s_Mo_wanted_15 v1 r_between r_joins r_label r_nodes) (fun z15 : Int32 × Int32 × Int32 × Int32 => some z15.2.2.1) FU ((0 : Int32), (0 : Int32), (r_label v1.toNatClampNeg), (0 : Int32))) else none)
set_option maxHeartbeats 4000000 in
set_option maxRecDepth 100000 in
theorem c_Mo_wanted (l : Launch) (D : va_G) (cA : Nat → ClassId) (a_r : Nat → Nat) (sz : Nat) (r_manner : Int32) (r_above : Int32) (r_below : Int32) (r_nodes : Int32) (r_arcs : Int32) (r_left : Int32) (r_isBest : Int32) (r_arePlateaus : Int32) (r_all : Int64) (r_a : Int64) (r_b : Int64) (r_ties : Int32) (r_z : Int32) (r_plateaus : Int32) (r_between : Nat → Int32) (r_joins : Nat → Int32) (r_label : Nat → Int32) (v1 : Int32) (out : Int32) (h : m_Mo_wanted r_nodes r_between r_joins r_label v1 = some out) : Met l y_Mo_wanted w_Mo_wanted ({ frames := 0, cells := 0, slots := 0, locals := 0 }) (va_Pc [.ref (a_r 0), .int v1] (fun U => U.heap.size = sz ∧ va_P D cls9 (wd_Mo_wanted cA a_r r_manner r_above r_below r_nodes r_arcs r_left r_isBest r_arePlateaus r_all r_a r_b r_ties r_z r_plateaus r_between r_joins r_label) U.heap ∧ va_K D cls9 (tys5 cA) U ∧ va_D (fun _ => True) (wd_Mo_wanted cA a_r r_manner r_above r_below r_nodes r_arcs r_left r_isBest r_arePlateaus r_all r_a r_b r_ties r_z r_plateaus r_between r_joins r_label))) (va_Qi (fun (rr : Int32) (uu : Unit) => rr = out) (fun (uu : Unit) (t : State) => va_P D cls9 (wd_Mo_wanted cA a_r r_manner r_above r_below r_nodes r_arcs r_left r_isBest r_arePlateaus r_all r_a r_b r_ties r_z r_plateaus r_between r_joins r_label) t.heap ∧ va_K D cls9 (tys5 cA) t ∧ va_D (va_A (wd_Mo_wanted cA a_r r_manner r_above r_below r_nodes r_arcs r_left r_isBest r_arePlateaus r_all r_a r_b r_ties r_z r_plateaus r_between r_joins r_label) sz) (wd_Mo_wanted cA a_r r_manner r_above r_below r_nodes r_arcs r_left r_isBest r_arePlateaus r_all r_a r_b r_ties r_z r_plateaus r_between r_joins r_label)) (va_A (wd_Mo_wanted cA a_r r_manner r_above r_below r_nodes r_arcs r_left r_isBest r_arePlateaus r_all r_a r_b r_ties r_z r_plateaus r_between r_joins r_label) sz)) 0 0 (va_A (wd_Mo_wanted cA a_r r_manner r_above r_below r_nodes r_arcs r_left r_isBest r_arePlateaus r_all r_a r_b r_ties r_z r_plateaus r_between r_joins r_label) sz) := by
  refine Met.ofW (cc := b_Mo_wanted) (maxL := 9) (ret := (Option.some Jvm.ClassFile.FieldType.int)) (by decide) rfl ?_
  intro p e s m args below meth c s₁ B hml hv
  obtain ⟨rfl, hsz, hP, hK, hD0⟩ := hv
  have hx := B.exec
  have hb := B.bytes
  have hr := B.returns
  have hts := atoms_spec (ws := w_Mo_wanted) B.pre
  have hal : ∀ w ∈ ALLW, w.before _ s = true := fun w hw => hts w (List.mem_cons_of_mem _ hw)
  have hown : s.vm.findClass R_Mo = some m.cls := findClass_of_methodNamed B.named
  have hlocks := B.notSynchronized
  subst hsz
  have hD := hD0.self (sz := s.heap.size)
  generalize hAe : va_A (wd_Mo_wanted cA a_r r_manner r_above r_below r_nodes r_arcs r_left r_isBest r_arePlateaus r_all r_a r_b r_ties r_z r_plateaus r_between r_joins r_label) s.heap.size = A at hD ⊢
  have hA : ∀ q : Nat, s.heap.size ≤ q → A q := fun q h => by rw [← hAe]; exact Or.inr h
  have hS : va_S A s.heap s.heap [] := va_S.rf
  have hl := lv_entry ([.ref (a_r 0), .int v1]) (n := 9) (Nat.le_of_ble_eq_true rfl)
  rw [lg_entry_eq]
  generalize (lg_sl ([.ref (a_r 0), .int v1]) ++ List.replicate (9 - (lg_sl ([.ref (a_r 0), .int v1])).length) Slot.unset).toArray = ls at hl ⊢
  have hl : lv_has ls 9 [(0, .ref (a_r 0)), (1, .int v1)] := hl
  refine wg (fun G hG => ?_)
  refine cast (hG _ _ _ _ _ _ _).symm ?_
  obtain ⟨H, locs, hHl, hS⟩ : ∃ (H : Heap) (locs : List Loc), (H = s.heap ∧ locs = []) ∧ va_S A s.heap H locs := ⟨s.heap, [], ⟨rfl, rfl⟩, hS⟩
  have hP : va_P D cls9 (wd_Mo_wanted cA a_r r_manner r_above r_below r_nodes r_arcs r_left r_isBest r_arePlateaus r_all r_a r_b r_ties r_z r_plateaus r_between r_joins r_label) H := by rw [hHl.1]; exact hP
  rw [← hHl.1, ← hHl.2]
  clear hHl
  refine lv_iconst (v := 0) hx hb d_Mo_wanted_0 (by decide) ?_
  refine lv_istore_n (lv' := [(2, .int (0 : Int32)), (0, .ref (a_r 0)), (1, .int v1)]) hx hb d_Mo_wanted_1 rfl hl (by decide) rfl (fun ls hl => ?_)
  refine lv_iconst (v := 0) hx hb d_Mo_wanted_2 (by decide) ?_
  refine lv_istore_n (lv' := [(3, .int (0 : Int32)), (2, .int (0 : Int32)), (0, .ref (a_r 0)), (1, .int v1)]) hx hb d_Mo_wanted_3 rfl hl (by decide) rfl (fun ls hl => ?_)
  refine lv_aload_n hx hb d_Mo_wanted_4 rfl (lv_at hl 2 rfl) ?_
  refine va_get (ci := 8) (v := .ref (a_r 18)) (C := R_Mo) (T := F_Mo) (N := 36) hx hb hal in_Mo hown hK hP 0 rfl rfl 29 (by decide) (hal _ kw_666) (fun _ h9 => h9) rfl d_Mo_wanted_5 ?_
  refine lv_iload_n hx hb d_Mo_wanted_8 rfl (lv_at hl 3 rfl) ?_
  obtain ⟨g_1, h⟩ := gd h
  refine va_iald hx hb hK hP 3 0 rfl rfl (inb_in g_1) d_Mo_wanted_9 ?_
  refine lv_istore (lv' := [(4, .int (r_label v1.toNatClampNeg)), (3, .int (0 : Int32)), (2, .int (0 : Int32)), (0, .ref (a_r 0)), (1, .int v1)]) hx hb d_Mo_wanted_10 hl (by decide) rfl (fun ls hl => ?_)
  refine lv_iconst (v := 0) hx hb d_Mo_wanted_12 (by decide) ?_
  refine lv_istore (lv' := [(5, .int (0 : Int32)), (4, .int (r_label v1.toNatClampNeg)), (3, .int (0 : Int32)), (2, .int (0 : Int32)), (0, .ref (a_r 0)), (1, .int v1)]) hx hb d_Mo_wanted_13 hl (by decide) rfl (fun ls hl => ?_)
  refine cast (hG _ _ _ _ _ _ _) (lp_go2 h (fun zz : Int32 × Int32 × Int32 × Int32 => ∀ (H : Heap) (locs : List Loc) (ls : Array Slot), va_P D cls9 (wd_Mo_wanted cA a_r r_manner r_above r_below r_nodes r_arcs r_left r_isBest r_arePlateaus r_all r_a r_b r_ties r_z r_plateaus r_between r_joins r_label) H → va_D A (wd_Mo_wanted cA a_r r_manner r_above r_below r_nodes r_arcs r_left r_isBest r_arePlateaus r_all r_a r_b r_ties r_z r_plateaus r_between r_joins r_label) → va_S A s.heap H locs → lv_has ls 9 [(5, .int zz.2.2.2), (4, .int zz.2.2.1), (3, .int zz.2.1), (2, .int zz.1), (0, .ref (a_r 0)), (1, .int v1)] → G H locs 0 0 ls 142 []) ?_ (fun zz : Int32 × Int32 × Int32 × Int32 => ∀ (H : Heap) (locs : List Loc) (ls : Array Slot), va_P D cls9 (wd_Mo_wanted cA a_r r_manner r_above r_below r_nodes r_arcs r_left r_isBest r_arePlateaus r_all r_a r_b r_ties r_z r_plateaus r_between r_joins r_label) H → va_D A (wd_Mo_wanted cA a_r r_manner r_above r_below r_nodes r_arcs r_left r_isBest r_arePlateaus r_all r_a r_b r_ties r_z r_plateaus r_between r_joins r_label) → va_S A s.heap H locs → lv_has ls 9 [(5, .int zz.2.2.2), (4, .int zz.2.2.1), (3, .int zz.2.1), (2, .int zz.1), (0, .ref (a_r 0)), (1, .int v1)] → G H locs 0 0 ls 15 []) ?_ _ _ ls hP hD hS (lv_sub hl [0, 1, 2, 3, 4, 5] rfl))
  · intro zz h H locs ls hP hD hS hl
    obtain ⟨x2_15e, x3_15e, x4_15e, x5_15e⟩ := zz
    have hP : va_P D cls9 (wd_Mo_wanted cA a_r r_manner r_above r_below r_nodes r_arcs r_left r_isBest r_arePlateaus r_all r_a r_b r_ties r_z r_plateaus r_between r_joins r_label) H := hP
    have hD : va_D A (wd_Mo_wanted cA a_r r_manner r_above r_below r_nodes r_arcs r_left r_isBest r_arePlateaus r_all r_a r_b r_ties r_z r_plateaus r_between r_joins r_label) := hD
    have hl : lv_has ls 9 [(5, .int x5_15e), (4, .int x4_15e), (3, .int x3_15e), (2, .int x2_15e), (0, .ref (a_r 0)), (1, .int v1)] := hl
    refine cast (hG _ _ _ _ _ _ _).symm ?_
    refine lv_iload hx hb d_Mo_wanted_142 (lv_at hl 1 rfl) ?_
    exact W.iret (v := x4_15e) hx hb hr (fun t ht hW => ⟨⟨x4_15e, (), rfl, Option.some.inj h, by rw [ht]; exact hP, va_K.moved hW.alike hK, hD⟩, hS.F ht⟩) hS.2.2 d_Mo_wanted_144
  · intro back exit zz hB_15 hE_15 h H locs ls hP hD hS hl
    obtain ⟨x2_15, x3_15, x4_15, x5_15⟩ := zz
    have hP : va_P D cls9 (wd_Mo_wanted cA a_r r_manner r_above r_below r_nodes r_arcs r_left r_isBest r_arePlateaus r_all r_a r_b r_ties r_z r_plateaus r_between r_joins r_label) H := hP
    have hD : va_D A (wd_Mo_wanted cA a_r r_manner r_above r_below r_nodes r_arcs r_left r_isBest r_arePlateaus r_all r_a r_b r_ties r_z r_plateaus r_between r_joins r_label) := hD
    have hl : lv_has ls 9 [(5, .int x5_15), (4, .int x4_15), (3, .int x3_15), (2, .int x2_15), (0, .ref (a_r 0)), (1, .int v1)] := hl
    refine cast (hG _ _ _ _ _ _ _).symm ?_
    refine lv_iload hx hb d_Mo_wanted_15 (lv_at hl 0 rfl) ?_
    refine lv_aload_n hx hb d_Mo_wanted_17 rfl (lv_at hl 4 rfl) ?_
    refine va_get (ci := 8) (v := .int r_nodes) (C := R_Mo) (T := F_Mo) (N := 36) hx hb hal in_Mo hown hK hP 0 rfl rfl 3 (by decide) (hal _ kw_640) (fun _ h9 => h9) rfl d_Mo_wanted_18 ?_
    refine lv_icmp_ge (tgt := 142) hx hb d_Mo_wanted_21 (by decide) (fun c_2 => ?_) (fun c_2 => ?_)
    · have h := ifp (c_2) h
      exact cast (hG _ _ _ _ _ _ _) (hE_15 (x2_15, x3_15, x4_15, x5_15) h _ _ _ hP hD hS (lv_sub hl [0, 1, 2, 3, 4, 5] rfl))
    · have h := ifn (c_2) h
      refine lv_iconst (v := 0) hx hb d_Mo_wanted_24 (by decide) ?_
      refine lv_istore (lv' := [(6, .int (0 : Int32)), (5, .int x5_15), (4, .int x4_15), (3, .int x3_15), (2, .int x2_15), (0, .ref (a_r 0)), (1, .int v1)]) hx hb d_Mo_wanted_25 hl (by decide) rfl (fun ls hl => ?_)
      refine lv_iconst (v := 0) hx hb d_Mo_wanted_27 (by decide) ?_
      refine lv_istore (lv' := [(7, .int (0 : Int32)), (6, .int (0 : Int32)), (5, .int x5_15), (4, .int x4_15), (3, .int x3_15), (2, .int x2_15), (0, .ref (a_r 0)), (1, .int v1)]) hx hb d_Mo_wanted_28 hl (by decide) rfl (fun ls hl => ?_)
      refine lv_iconst (v := 0) hx hb d_Mo_wanted_30 (by decide) ?_
      refine lv_istore (lv' := [(8, .int (0 : Int32)), (7, .int (0 : Int32)), (6, .int (0 : Int32)), (5, .int x5_15), (4, .int x4_15), (3, .int x3_15), (2, .int x2_15), (0, .ref (a_r 0)), (1, .int v1)]) hx hb d_Mo_wanted_31 hl (by decide) rfl (fun ls hl => ?_)
      refine cast (hG _ _ _ _ _ _ _) (lp_go2 h (fun zz : Int32 × Int32 × Int32 => ∀ (H : Heap) (locs : List Loc) (ls : Array Slot), va_P D cls9 (wd_Mo_wanted cA a_r r_manner r_above r_below r_nodes r_arcs r_left r_isBest r_arePlateaus r_all r_a r_b r_ties r_z r_plateaus r_between r_joins r_label) H → va_D A (wd_Mo_wanted cA a_r r_manner r_above r_below r_nodes r_arcs r_left r_isBest r_arePlateaus r_all r_a r_b r_ties r_z r_plateaus r_between r_joins r_label) → va_S A s.heap H locs → lv_has ls 9 [(8, .int zz.2.2), (7, .int zz.2.1), (6, .int zz.1), (5, .int x5_15), (4, .int x4_15), (3, .int x3_15), (2, .int x2_15), (0, .ref (a_r 0)), (1, .int v1)] → G H locs 0 0 ls 95 []) ?_ (fun zz : Int32 × Int32 × Int32 => ∀ (H : Heap) (locs : List Loc) (ls : Array Slot), va_P D cls9 (wd_Mo_wanted cA a_r r_manner r_above r_below r_nodes r_arcs r_left r_isBest r_arePlateaus r_all r_a r_b r_ties r_z r_plateaus r_between r_joins r_label) H → va_D A (wd_Mo_wanted cA a_r r_manner r_above r_below r_nodes r_arcs r_left r_isBest r_arePlateaus r_all r_a r_b r_ties r_z r_plateaus r_between r_joins r_label) → va_S A s.heap H locs → lv_has ls 9 [(8, .int zz.2.2), (7, .int zz.2.1), (6, .int zz.1), (5, .int x5_15), (4, .int x4_15), (3, .int x3_15), (2, .int x2_15), (0, .ref (a_r 0)), (1, .int v1)] → G H locs 0 0 ls 33 []) ?_ _ _ ls hP hD hS (lv_sub hl [0, 1, 2, 3, 4, 5, 6, 7, 8] rfl))
      · intro zz h H locs ls hP hD hS hl
        obtain ⟨x6_33e, x7_33e, x8_33e⟩ := zz
        have hP : va_P D cls9 (wd_Mo_wanted cA a_r r_manner r_above r_below r_nodes r_arcs r_left r_isBest r_arePlateaus r_all r_a r_b r_ties r_z r_plateaus r_between r_joins r_label) H := hP
        have hD : va_D A (wd_Mo_wanted cA a_r r_manner r_above r_below r_nodes r_arcs r_left r_isBest r_arePlateaus r_all r_a r_b r_ties r_z r_plateaus r_between r_joins r_label) := hD
        have hl : lv_has ls 9 [(8, .int x8_33e), (7, .int x7_33e), (6, .int x6_33e), (5, .int x5_15), (4, .int x4_15), (3, .int x3_15), (2, .int x2_15), (0, .ref (a_r 0)), (1, .int v1)] := hl
        refine cast (hG _ _ _ _ _ _ _).symm ?_
        refine lv_iload hx hb d_Mo_wanted_95 (lv_at hl 2 rfl) ?_
        refine lv_if_eq (tgt := 136) hx hb d_Mo_wanted_97 (by decide) (fun c_3 => ?_) (fun c_3 => ?_)
        · have h := ifp (c_3) h
          refine lv_iinc (v := (x5_15 + 1)) (lv' := [(5, .int (x5_15 + 1)), (8, .int x8_33e), (7, .int x7_33e), (6, .int x6_33e), (4, .int x4_15), (3, .int x3_15), (2, .int x2_15), (0, .ref (a_r 0)), (1, .int v1)]) hx hb d_Mo_wanted_136 hl (k := 3) rfl rfl (by decide) rfl (fun ls hl => ?_)
          refine lv_goto (tgt := 15) hx hb d_Mo_wanted_139 (by decide) ?_
          exact cast (hG _ _ _ _ _ _ _) (hB_15 (x2_15, x3_15, x4_15, (x5_15 + 1)) h _ _ _ hP hD hS (lv_sub hl [0, 4, 5, 6, 7, 8] rfl))
        · have h := ifn (c_3) h
          refine lv_iload_n hx hb d_Mo_wanted_100 rfl (lv_at hl 6 rfl) ?_
          refine cast (hG _ _ _ _ _ _ _) (jn_go h (fun zz : Unit => ∀ (H : Heap) (locs : List Loc) (ls : Array Slot), va_P D cls9 (wd_Mo_wanted cA a_r r_manner r_above r_below r_nodes r_arcs r_left r_isBest r_arePlateaus r_all r_a r_b r_ties r_z r_plateaus r_between r_joins r_label) H → va_D A (wd_Mo_wanted cA a_r r_manner r_above r_below r_nodes r_arcs r_left r_isBest r_arePlateaus r_all r_a r_b r_ties r_z r_plateaus r_between r_joins r_label) → va_S A s.heap H locs → lv_has ls 9 [(8, .int x8_33e), (7, .int x7_33e), (6, .int x6_33e), (5, .int x5_15), (4, .int x4_15), (3, .int x3_15), (2, .int x2_15), (0, .ref (a_r 0)), (1, .int v1)] → G H locs 0 0 ls 127 []) ?_ ?_)
          · intro zz h H locs ls hP hD hS hl
            have hP : va_P D cls9 (wd_Mo_wanted cA a_r r_manner r_above r_below r_nodes r_arcs r_left r_isBest r_arePlateaus r_all r_a r_b r_ties r_z r_plateaus r_between r_joins r_label) H := hP
            have hD : va_D A (wd_Mo_wanted cA a_r r_manner r_above r_below r_nodes r_arcs r_left r_isBest r_arePlateaus r_all r_a r_b r_ties r_z r_plateaus r_between r_joins r_label) := hD
            have hl : lv_has ls 9 [(8, .int x8_33e), (7, .int x7_33e), (6, .int x6_33e), (5, .int x5_15), (4, .int x4_15), (3, .int x3_15), (2, .int x2_15), (0, .ref (a_r 0)), (1, .int v1)] := hl
            refine cast (hG _ _ _ _ _ _ _).symm ?_
            refine lv_iconst (v := 1) hx hb d_Mo_wanted_127 (by decide) ?_
            refine lv_istore_n (lv' := [(2, .int (1 : Int32)), (8, .int x8_33e), (7, .int x7_33e), (6, .int x6_33e), (5, .int x5_15), (4, .int x4_15), (3, .int x3_15), (0, .ref (a_r 0)), (1, .int v1)]) hx hb d_Mo_wanted_128 rfl hl (by decide) rfl (fun ls hl => ?_)
            refine lv_iload hx hb d_Mo_wanted_129 (lv_at hl 2 rfl) ?_
            refine lv_istore_n (lv' := [(3, .int x7_33e), (2, .int (1 : Int32)), (8, .int x8_33e), (7, .int x7_33e), (6, .int x6_33e), (5, .int x5_15), (4, .int x4_15), (0, .ref (a_r 0)), (1, .int v1)]) hx hb d_Mo_wanted_131 rfl hl (by decide) rfl (fun ls hl => ?_)
            refine lv_iload hx hb d_Mo_wanted_132 (lv_at hl 5 rfl) ?_
            refine lv_istore (lv' := [(4, .int x5_15), (3, .int x7_33e), (2, .int (1 : Int32)), (8, .int x8_33e), (7, .int x7_33e), (6, .int x6_33e), (5, .int x5_15), (0, .ref (a_r 0)), (1, .int v1)]) hx hb d_Mo_wanted_134 hl (by decide) rfl (fun ls hl => ?_)
            refine lv_iinc (v := (x5_15 + 1)) (lv' := [(5, .int (x5_15 + 1)), (4, .int x5_15), (3, .int x7_33e), (2, .int (1 : Int32)), (8, .int x8_33e), (7, .int x7_33e), (6, .int x6_33e), (0, .ref (a_r 0)), (1, .int v1)]) hx hb d_Mo_wanted_136 hl (k := 6) rfl rfl (by decide) rfl (fun ls hl => ?_)
            refine lv_goto (tgt := 15) hx hb d_Mo_wanted_139 (by decide) ?_
            exact cast (hG _ _ _ _ _ _ _) (hB_15 ((1 : Int32), x7_33e, x5_15, (x5_15 + 1)) h _ _ _ hP hD hS (lv_sub hl [0, 1, 2, 3, 7, 8] rfl))
          · intro j127 hJ_127 h
            refine cast (hG _ _ _ _ _ _ _).symm ?_
            refine lv_if_eq (tgt := 127) hx hb d_Mo_wanted_101 (by decide) (fun c_4 => ?_) (fun c_4 => ?_)
            · have h := ifp (c_4) h
              exact cast (hG _ _ _ _ _ _ _) (hJ_127 () h _ _ _ hP hD hS (lv_sub hl [0, 1, 2, 3, 4, 5, 6, 7, 8] rfl))
            · have h := ifn (c_4) h
              refine lv_iload hx hb d_Mo_wanted_104 (lv_at hl 1 rfl) ?_
              refine lv_iload_n hx hb d_Mo_wanted_106 rfl (lv_at hl 5 rfl) ?_
              refine lv_icmp_gt (tgt := 127) hx hb d_Mo_wanted_107 (by decide) (fun c_5 => ?_) (fun c_5 => ?_)
              · have h := ifp (c_5) h
                exact cast (hG _ _ _ _ _ _ _) (hJ_127 () h _ _ _ hP hD hS (lv_sub hl [0, 1, 2, 3, 4, 5, 6, 7, 8] rfl))
              · have h := ifn (c_5) h
                refine lv_iload hx hb d_Mo_wanted_110 (lv_at hl 1 rfl) ?_
                refine lv_iload_n hx hb d_Mo_wanted_112 rfl (lv_at hl 5 rfl) ?_
                refine lv_icmp_ne (tgt := 136) hx hb d_Mo_wanted_113 (by decide) (fun c_6 => ?_) (fun c_6 => ?_)
                · have h := ifn (c_6) h
                  refine lv_iinc (v := (x5_15 + 1)) (lv' := [(5, .int (x5_15 + 1)), (8, .int x8_33e), (7, .int x7_33e), (6, .int x6_33e), (4, .int x4_15), (3, .int x3_15), (2, .int x2_15), (0, .ref (a_r 0)), (1, .int v1)]) hx hb d_Mo_wanted_136 hl (k := 3) rfl rfl (by decide) rfl (fun ls hl => ?_)
                  refine lv_goto (tgt := 15) hx hb d_Mo_wanted_139 (by decide) ?_
                  exact cast (hG _ _ _ _ _ _ _) (hB_15 (x2_15, x3_15, x4_15, (x5_15 + 1)) h _ _ _ hP hD hS (lv_sub hl [0, 4, 5, 6, 7, 8] rfl))
                · have h := ifp (c_6) h
                  refine lv_iload hx hb d_Mo_wanted_116 (lv_at hl 3 rfl) ?_
                  refine lv_aload_n hx hb d_Mo_wanted_118 rfl (lv_at hl 7 rfl) ?_
                  refine va_get (ci := 8) (v := .ref (a_r 18)) (C := R_Mo) (T := F_Mo) (N := 36) hx hb hal in_Mo hown hK hP 0 rfl rfl 29 (by decide) (hal _ kw_666) (fun _ h9 => h9) rfl d_Mo_wanted_119 ?_
                  refine lv_iload_n hx hb d_Mo_wanted_122 rfl (lv_at hl 8 rfl) ?_
                  obtain ⟨g_7, h⟩ := gd h
                  refine va_iald hx hb hK hP 3 0 rfl rfl (inb_in g_7) d_Mo_wanted_123 ?_
                  refine lv_icmp_ne (tgt := 136) hx hb d_Mo_wanted_124 (by decide) (fun c_8 => ?_) (fun c_8 => ?_)
                  · have h := ifn (c_8) h
                    refine lv_iinc (v := (x5_15 + 1)) (lv' := [(5, .int (x5_15 + 1)), (8, .int x8_33e), (7, .int x7_33e), (6, .int x6_33e), (4, .int x4_15), (3, .int x3_15), (2, .int x2_15), (0, .ref (a_r 0)), (1, .int v1)]) hx hb d_Mo_wanted_136 hl (k := 3) rfl rfl (by decide) rfl (fun ls hl => ?_)
                    refine lv_goto (tgt := 15) hx hb d_Mo_wanted_139 (by decide) ?_
                    exact cast (hG _ _ _ _ _ _ _) (hB_15 (x2_15, x3_15, x4_15, (x5_15 + 1)) h _ _ _ hP hD hS (lv_sub hl [0, 4, 5, 6, 7, 8] rfl))
                  · have h := ifp (c_8) h
                    exact cast (hG _ _ _ _ _ _ _) (hJ_127 () h _ _ _ hP hD hS (lv_sub hl [0, 1, 2, 3, 4, 5, 6, 7, 8] rfl))
      · intro back exit zz hB_33 hE_33 h H locs ls hP hD hS hl
        obtain ⟨x6_33, x7_33, x8_33⟩ := zz
        have hP : va_P D cls9 (wd_Mo_wanted cA a_r r_manner r_above r_below r_nodes r_arcs r_left r_isBest r_arePlateaus r_all r_a r_b r_ties r_z r_plateaus r_between r_joins r_label) H := hP
        have hD : va_D A (wd_Mo_wanted cA a_r r_manner r_above r_below r_nodes r_arcs r_left r_isBest r_arePlateaus r_all r_a r_b r_ties r_z r_plateaus r_between r_joins r_label) := hD
        have hl : lv_has ls 9 [(8, .int x8_33), (7, .int x7_33), (6, .int x6_33), (5, .int x5_15), (4, .int x4_15), (3, .int x3_15), (2, .int x2_15), (0, .ref (a_r 0)), (1, .int v1)] := hl
        refine cast (hG _ _ _ _ _ _ _).symm ?_
        refine lv_iload hx hb d_Mo_wanted_33 (lv_at hl 0 rfl) ?_
        refine lv_aload_n hx hb d_Mo_wanted_35 rfl (lv_at hl 7 rfl) ?_
        refine va_get (ci := 8) (v := .int r_nodes) (C := R_Mo) (T := F_Mo) (N := 36) hx hb hal in_Mo hown hK hP 0 rfl rfl 3 (by decide) (hal _ kw_640) (fun _ h9 => h9) rfl d_Mo_wanted_36 ?_
        refine lv_icmp_ge (tgt := 95) hx hb d_Mo_wanted_39 (by decide) (fun c_9 => ?_) (fun c_9 => ?_)
        · have h := ifp (c_9) h
          exact cast (hG _ _ _ _ _ _ _) (hE_33 (x6_33, x7_33, x8_33) h _ _ _ hP hD hS (lv_sub hl [0, 1, 2, 3, 4, 5, 6, 7, 8] rfl))
        · have h := ifn (c_9) h
          refine lv_aload_n hx hb d_Mo_wanted_42 rfl (lv_at hl 7 rfl) ?_
          refine va_get (ci := 8) (v := .ref (a_r 7)) (C := R_Mo) (T := F_Mo) (N := 36) hx hb hal in_Mo hown hK hP 0 rfl rfl 14 (by decide) (hal _ kw_651) (fun _ h9 => h9) rfl d_Mo_wanted_43 ?_
          refine lv_bipush (v := 9) hx hb d_Mo_wanted_46 (by decide) ?_
          refine lv_iload_n hx hb d_Mo_wanted_48 rfl (lv_at hl 8 rfl) ?_
          refine lv_imul hx hb d_Mo_wanted_49 ?_
          refine lv_iload hx hb d_Mo_wanted_50 (lv_at hl 0 rfl) ?_
          refine lv_iadd hx hb d_Mo_wanted_52 ?_
          obtain ⟨g_10, h⟩ := gd h
          refine va_zald hx hb hK hP 2 2 rfl rfl (inb_in g_10) d_Mo_wanted_53 ?_
          refine lv_if_eq (tgt := 89) hx hb d_Mo_wanted_54 (by decide) (fun c_11 => ?_) (fun c_11 => ?_)
          · have h := ifp (c_11) h
            refine lv_iinc (v := (x8_33 + 1)) (lv' := [(8, .int (x8_33 + 1)), (7, .int x7_33), (6, .int x6_33), (5, .int x5_15), (4, .int x4_15), (3, .int x3_15), (2, .int x2_15), (0, .ref (a_r 0)), (1, .int v1)]) hx hb d_Mo_wanted_89 hl (k := 0) rfl rfl (by decide) rfl (fun ls hl => ?_)
            refine lv_goto (tgt := 33) hx hb d_Mo_wanted_92 (by decide) ?_
            exact cast (hG _ _ _ _ _ _ _) (hB_33 (x6_33, x7_33, (x8_33 + 1)) h _ _ _ hP hD hS (lv_sub hl [0, 1, 2, 3, 4, 5, 6, 7, 8] rfl))
          · have h := ifn (c_11) h
            refine lv_aload_n hx hb d_Mo_wanted_57 rfl (lv_at hl 7 rfl) ?_
            refine va_get (ci := 8) (v := .ref (a_r 18)) (C := R_Mo) (T := F_Mo) (N := 36) hx hb hal in_Mo hown hK hP 0 rfl rfl 29 (by decide) (hal _ kw_666) (fun _ h9 => h9) rfl d_Mo_wanted_58 ?_
            refine lv_iload hx hb d_Mo_wanted_61 (lv_at hl 0 rfl) ?_
            obtain ⟨g_12, h⟩ := gd h
            refine va_iald hx hb hK hP 3 0 rfl rfl (inb_in g_12) d_Mo_wanted_63 ?_
            refine lv_iload hx hb d_Mo_wanted_64 (lv_at hl 3 rfl) ?_
            refine lv_icmp_ne (tgt := 89) hx hb d_Mo_wanted_66 (by decide) (fun c_13 => ?_) (fun c_13 => ?_)
            · have h := ifn (c_13) h
              refine lv_iinc (v := (x8_33 + 1)) (lv' := [(8, .int (x8_33 + 1)), (7, .int x7_33), (6, .int x6_33), (5, .int x5_15), (4, .int x4_15), (3, .int x3_15), (2, .int x2_15), (0, .ref (a_r 0)), (1, .int v1)]) hx hb d_Mo_wanted_89 hl (k := 0) rfl rfl (by decide) rfl (fun ls hl => ?_)
              refine lv_goto (tgt := 33) hx hb d_Mo_wanted_92 (by decide) ?_
              exact cast (hG _ _ _ _ _ _ _) (hB_33 (x6_33, x7_33, (x8_33 + 1)) h _ _ _ hP hD hS (lv_sub hl [0, 1, 2, 3, 4, 5, 6, 7, 8] rfl))
            · have h := ifp (c_13) h
              refine lv_iconst (v := 1) hx hb d_Mo_wanted_69 (by decide) ?_
              refine lv_istore (lv' := [(6, .int (1 : Int32)), (8, .int x8_33), (7, .int x7_33), (5, .int x5_15), (4, .int x4_15), (3, .int x3_15), (2, .int x2_15), (0, .ref (a_r 0)), (1, .int v1)]) hx hb d_Mo_wanted_70 hl (by decide) rfl (fun ls hl => ?_)
              refine lv_iload hx hb d_Mo_wanted_72 (lv_at hl 2 rfl) ?_
              refine lv_aload_n hx hb d_Mo_wanted_74 rfl (lv_at hl 7 rfl) ?_
              refine va_get (ci := 8) (v := .ref (a_r 6)) (C := R_Mo) (T := F_Mo) (N := 36) hx hb hal in_Mo hown hK hP 0 rfl rfl 13 (by decide) (hal _ kw_650) (fun _ h9 => h9) rfl d_Mo_wanted_75 ?_
              refine lv_bipush (v := 9) hx hb d_Mo_wanted_78 (by decide) ?_
              refine lv_iload_n hx hb d_Mo_wanted_80 rfl (lv_at hl 8 rfl) ?_
              refine lv_imul hx hb d_Mo_wanted_81 ?_
              refine lv_iload hx hb d_Mo_wanted_82 (lv_at hl 1 rfl) ?_
              refine lv_iadd hx hb d_Mo_wanted_84 ?_
              refine va_iald hx hb hK hP 1 0 rfl rfl (inb_in g_10) d_Mo_wanted_85 ?_
              refine lv_iadd hx hb d_Mo_wanted_86 ?_
              refine lv_istore (lv' := [(7, .int (x7_33 + (r_between (((9 : Int32) * v1) + x8_33).toNatClampNeg))), (6, .int (1 : Int32)), (8, .int x8_33), (5, .int x5_15), (4, .int x4_15), (3, .int x3_15), (2, .int x2_15), (0, .ref (a_r 0)), (1, .int v1)]) hx hb d_Mo_wanted_87 hl (by decide) rfl (fun ls hl => ?_)
              refine lv_iinc (v := (x8_33 + 1)) (lv' := [(8, .int (x8_33 + 1)), (7, .int (x7_33 + (r_between (((9 : Int32) * v1) + x8_33).toNatClampNeg))), (6, .int (1 : Int32)), (5, .int x5_15), (4, .int x4_15), (3, .int x3_15), (2, .int x2_15), (0, .ref (a_r 0)), (1, .int v1)]) hx hb d_Mo_wanted_89 hl (k := 2) rfl rfl (by decide) rfl (fun ls hl => ?_)
              refine lv_goto (tgt := 33) hx hb d_Mo_wanted_92 (by decide) ?_
              exact cast (hG _ _ _ _ _ _ _) (hB_33 ((1 : Int32), (x7_33 + (r_between (((9 : Int32) * v1) + x8_33).toNatClampNeg)), (x8_33 + 1)) h _ _ _ hP hD hS (lv_sub hl [0, 1, 2, 3, 4, 5, 6, 7, 8] rfl))
def wd_Mo_round (cA : Nat → ClassId) (a_r : Nat → Nat) (r_manner : Int32) (r_above : Int32) (r_below : Int32) (r_nodes : Int32) (r_arcs : Int32) (r_left : Int32) (r_isBest : Int32) (r_arePlateaus : Int32) (r_all : Int64) (r_a : Int64) (r_b : Int64) (r_ties : Int32) (r_z : Int32) (r_plateaus : Int32) (r_between : Nat → Int32) (r_joins : Nat → Int32) (r_order : Nat → Int32) (r_label : Nat → Int32) : va_W := [(a_r 0, .inr (8, [.int r_manner, .int r_above, .int r_below, .int r_nodes, .int r_arcs, .int r_left, .ref (a_r 1), .ref (a_r 2), .ref (a_r 3), .ref (a_r 4), .ref (a_r 5), .int r_isBest, .int r_arePlateaus, .ref (a_r 6), .ref (a_r 7), .ref (a_r 8), .long r_all, .ref (a_r 9), .ref (a_r 10), .long r_a, .long r_b, .ref (a_r 11), .ref (a_r 12), .ref (a_r 13), .ref (a_r 14), .ref (a_r 15), .int r_ties, .ref (a_r 16), .ref (a_r 17), .ref (a_r 18), .int r_z, .int r_plateaus, .ref (a_r 19), .ref (a_r 20), .ref (a_r 21), .ref (a_r 22)])), (a_r 6, .inl (cA 0, 81, .inl r_between)), (a_r 7, .inl (cA 2, 81, .inl r_joins)), (a_r 17, .inl (cA 0, 9, .inl r_order)), (a_r 18, .inl (cA 0, 9, .inl r_label))]
noncomputable def s_Mo_round_95 (r_between : Nat → Int32) (r_joins : Nat → Int32) (r_nodes : Int32) (r_order : Nat → Int32) (zz : Int32 × Int32 × (Nat → Int32)) (back exit : (Int32 × Int32 × (Nat → Int32)) → Option (Int32 × Int32 × (Nat → Int32) × (Nat → Int32))) : Option (Int32 × Int32 × (Nat → Int32) × (Nat → Int32)) :=
  (if r_nodes ≤ zz.2.1 then (exit (zz.1, zz.2.1, zz.2.2)) else (if inb zz.2.1 9 then ((m_Mo_wanted r_nodes r_between r_joins zz.2.2 (r_order zz.2.1.toNatClampNeg)).bind (fun r112 : Int32 => (jn (fun z137 : Int32 => (if inb (r_order zz.2.1.toNatClampNeg) 9 then (back (z137, (zz.2.1 + 1), (upd zz.2.2 (r_order zz.2.1.toNatClampNeg).toNatClampNeg r112))) else none)) (fun j137 => (jn (fun z132 : Unit => (j137 (1 : Int32))) (fun j132 => (if zz.1 = 0 then (if inb (r_order zz.2.1.toNatClampNeg) 9 then (if r112 = (zz.2.2 (r_order zz.2.1.toNatClampNeg).toNatClampNeg) then (j137 (0 : Int32)) else (j132 ())) else none) else (j132 ())))))))) else none))
noncomputable def s_Mo_round_30  (zz : Int32 × (Nat → Int32) × Int32) (back exit : (Int32 × (Nat → Int32) × Int32) → Option (Int32 × Int32 × (Nat → Int32) × (Nat → Int32))) : Option (Int32 × Int32 × (Nat → Int32) × (Nat → Int32)) :=
  (if zz.1 ≤ 0 then (exit (zz.1, zz.2.1, zz.2.2)) else (if ¬ (zz.1 + (1 : Int32)) = 0 then (if inb zz.1 9 then (if inb ((((zz.2.2 * (1664525 : Int32)) + (1013904223 : Int32)).toUInt32 >>> ((1 : Int32).toUInt32 &&& Int32.toUInt32 31)).toInt32 - (((zz.2.2 * (1664525 : Int32)) + (1013904223 : Int32)).toUInt32 >>> ((1 : Int32).toUInt32 &&& Int32.toUInt32 31)).toInt32 / (zz.1 + (1 : Int32)) * (zz.1 + (1 : Int32))) 9 then (back ((zz.1 + (-1)), (upd (upd zz.2.1 zz.1.toNatClampNeg (zz.2.1 ((((zz.2.2 * (1664525 : Int32)) + (1013904223 : Int32)).toUInt32 >>> ((1 : Int32).toUInt32 &&& Int32.toUInt32 31)).toInt32 - (((zz.2.2 * (1664525 : Int32)) + (1013904223 : Int32)).toUInt32 >>> ((1 : Int32).toUInt32 &&& Int32.toUInt32 31)).toInt32 / (zz.1 + (1 : Int32)) * (zz.1 + (1 : Int32))).toNatClampNeg)) ((((zz.2.2 * (1664525 : Int32)) + (1013904223 : Int32)).toUInt32 >>> ((1 : Int32).toUInt32 &&& Int32.toUInt32 31)).toInt32 - (((zz.2.2 * (1664525 : Int32)) + (1013904223 : Int32)).toUInt32 >>> ((1 : Int32).toUInt32 &&& Int32.toUInt32 31)).toInt32 / (zz.1 + (1 : Int32)) * (zz.1 + (1 : Int32))).toNatClampNeg (zz.2.1 zz.1.toNatClampNeg)), ((zz.2.2 * (1664525 : Int32)) + (1013904223 : Int32)))) else none) else none) else none))
noncomputable def s_Mo_round_2 (r_nodes : Int32) (zz : Int32 × (Nat → Int32)) (back exit : (Int32 × (Nat → Int32)) → Option (Int32 × Int32 × (Nat → Int32) × (Nat → Int32))) : Option (Int32 × Int32 × (Nat → Int32) × (Nat → Int32)) :=
  (if r_nodes ≤ zz.1 then (exit (zz.1, zz.2)) else (if inb zz.1 9 then (back ((zz.1 + 1), (upd zz.2 zz.1.toNatClampNeg zz.1))) else none))
noncomputable def m_Mo_round (r_nodes : Int32) (r_z : Int32) (r_between : Nat → Int32) (r_joins : Nat → Int32) (r_order : Nat → Int32) (r_label : Nat → Int32) : Option (Int32 × Int32 × (Nat → Int32) × (Nat → Int32)) :=
  (loopC (s_Mo_round_2 r_nodes) (fun z2 : Int32 × (Nat → Int32) => (loopC (s_Mo_round_30) (fun z30 : Int32 × (Nat → Int32) × Int32 => (loopC (s_Mo_round_95 r_between r_joins r_nodes z30.2.1) (fun z95 : Int32 × Int32 × (Nat → Int32) => (if z95.1 = 0 ∨ z95.1 = 1 then some (z95.1, z30.2.2, z30.2.1, z95.2.2) else none)) FU ((0 : Int32), (0 : Int32), r_label))) FU ((r_nodes - (1 : Int32)), z2.2, r_z))) FU ((0 : Int32), r_order))
set_option maxHeartbeats 4000000 in
set_option maxRecDepth 100000 in
theorem c_Mo_round (l : Launch) (D : va_G) (cA : Nat → ClassId) (a_r : Nat → Nat) (sz : Nat) (r_manner : Int32) (r_above : Int32) (r_below : Int32) (r_nodes : Int32) (r_arcs : Int32) (r_left : Int32) (r_isBest : Int32) (r_arePlateaus : Int32) (r_all : Int64) (r_a : Int64) (r_b : Int64) (r_ties : Int32) (r_z : Int32) (r_plateaus : Int32) (r_between : Nat → Int32) (r_joins : Nat → Int32) (r_order : Nat → Int32) (r_label : Nat → Int32)  (out : Int32 × Int32 × (Nat → Int32) × (Nat → Int32)) (h : m_Mo_round r_nodes r_z r_between r_joins r_order r_label = some out) : Met l y_Mo_round w_Mo_round ({ frames := 1, cells := 0, slots := 0, locals := 28 }) (va_Pc [.ref (a_r 0)] (fun U => U.heap.size = sz ∧ va_P D cls9 (wd_Mo_round cA a_r r_manner r_above r_below r_nodes r_arcs r_left r_isBest r_arePlateaus r_all r_a r_b r_ties r_z r_plateaus r_between r_joins r_order r_label) U.heap ∧ va_K D cls9 (tys5 cA) U ∧ va_D (fun _ => True) (wd_Mo_round cA a_r r_manner r_above r_below r_nodes r_arcs r_left r_isBest r_arePlateaus r_all r_a r_b r_ties r_z r_plateaus r_between r_joins r_order r_label))) (va_Qi (fun (rr : Int32) (uu : Int32 × (Nat → Int32) × (Nat → Int32)) => (rr, uu) = out) (fun (uu : Int32 × (Nat → Int32) × (Nat → Int32)) (t : State) => va_P D cls9 (wd_Mo_round cA a_r r_manner r_above r_below r_nodes r_arcs r_left r_isBest r_arePlateaus r_all r_a r_b r_ties uu.1 r_plateaus r_between r_joins uu.2.1 uu.2.2) t.heap ∧ va_K D cls9 (tys5 cA) t ∧ va_D (va_A (wd_Mo_round cA a_r r_manner r_above r_below r_nodes r_arcs r_left r_isBest r_arePlateaus r_all r_a r_b r_ties r_z r_plateaus r_between r_joins r_order r_label) sz) (wd_Mo_round cA a_r r_manner r_above r_below r_nodes r_arcs r_left r_isBest r_arePlateaus r_all r_a r_b r_ties uu.1 r_plateaus r_between r_joins uu.2.1 uu.2.2)) (va_A (wd_Mo_round cA a_r r_manner r_above r_below r_nodes r_arcs r_left r_isBest r_arePlateaus r_all r_a r_b r_ties r_z r_plateaus r_between r_joins r_order r_label) sz)) 0 0 (va_A (wd_Mo_round cA a_r r_manner r_above r_below r_nodes r_arcs r_left r_isBest r_arePlateaus r_all r_a r_b r_ties r_z r_plateaus r_between r_joins r_order r_label) sz) := by
  refine Met.ofW (cc := b_Mo_round) (maxL := 5) (ret := (Option.some Jvm.ClassFile.FieldType.boolean)) (by decide) rfl ?_
  intro p e s m args below meth c s₁ B hml hv
  obtain ⟨rfl, hsz, hP, hK, hD0⟩ := hv
  have hx := B.exec
  have hb := B.bytes
  have hr := B.returns
  have hts := atoms_spec (ws := w_Mo_round) B.pre
  have hal : ∀ w ∈ ALLW, w.before _ s = true := fun w hw => hts w (List.mem_cons_of_mem _ hw)
  have hown : s.vm.findClass R_Mo = some m.cls := findClass_of_methodNamed B.named
  have hlocks := B.notSynchronized
  subst hsz
  have hD := hD0.self (sz := s.heap.size)
  generalize hAe : va_A (wd_Mo_round cA a_r r_manner r_above r_below r_nodes r_arcs r_left r_isBest r_arePlateaus r_all r_a r_b r_ties r_z r_plateaus r_between r_joins r_order r_label) s.heap.size = A at hD ⊢
  have hA : ∀ q : Nat, s.heap.size ≤ q → A q := fun q h => by rw [← hAe]; exact Or.inr h
  have hS : va_S A s.heap s.heap [] := va_S.rf
  have hl := lv_entry ([.ref (a_r 0)]) (n := 5) (Nat.le_of_ble_eq_true rfl)
  rw [lg_entry_eq]
  generalize (lg_sl ([.ref (a_r 0)]) ++ List.replicate (5 - (lg_sl ([.ref (a_r 0)])).length) Slot.unset).toArray = ls at hl ⊢
  have hl : lv_has ls 5 [(0, .ref (a_r 0))] := hl
  refine wg (fun G hG => ?_)
  refine cast (hG _ _ _ _ _ _ _).symm ?_
  obtain ⟨H, locs, hHl, hS⟩ : ∃ (H : Heap) (locs : List Loc), (H = s.heap ∧ locs = []) ∧ va_S A s.heap H locs := ⟨s.heap, [], ⟨rfl, rfl⟩, hS⟩
  have hP : va_P D cls9 (wd_Mo_round cA a_r r_manner r_above r_below r_nodes r_arcs r_left r_isBest r_arePlateaus r_all r_a r_b r_ties r_z r_plateaus r_between r_joins r_order r_label) H := by rw [hHl.1]; exact hP
  rw [← hHl.1, ← hHl.2]
  clear hHl
  refine lv_iconst (v := 0) hx hb d_Mo_round_0 (by decide) ?_
  refine lv_istore_n (lv' := [(1, .int (0 : Int32)), (0, .ref (a_r 0))]) hx hb d_Mo_round_1 rfl hl (by decide) rfl (fun ls hl => ?_)
  refine cast (hG _ _ _ _ _ _ _) (lp_go2 h (fun zz : Int32 × (Nat → Int32) => ∀ (H : Heap) (locs : List Loc) (ls : Array Slot), va_P D cls9 (wd_Mo_round cA a_r r_manner r_above r_below r_nodes r_arcs r_left r_isBest r_arePlateaus r_all r_a r_b r_ties r_z r_plateaus r_between r_joins zz.2 r_label) H → va_D A (wd_Mo_round cA a_r r_manner r_above r_below r_nodes r_arcs r_left r_isBest r_arePlateaus r_all r_a r_b r_ties r_z r_plateaus r_between r_joins zz.2 r_label) → va_S A s.heap H locs → lv_has ls 5 [(1, .int zz.1), (0, .ref (a_r 0))] → G H locs 0 0 ls 23 []) ?_ (fun zz : Int32 × (Nat → Int32) => ∀ (H : Heap) (locs : List Loc) (ls : Array Slot), va_P D cls9 (wd_Mo_round cA a_r r_manner r_above r_below r_nodes r_arcs r_left r_isBest r_arePlateaus r_all r_a r_b r_ties r_z r_plateaus r_between r_joins zz.2 r_label) H → va_D A (wd_Mo_round cA a_r r_manner r_above r_below r_nodes r_arcs r_left r_isBest r_arePlateaus r_all r_a r_b r_ties r_z r_plateaus r_between r_joins zz.2 r_label) → va_S A s.heap H locs → lv_has ls 5 [(1, .int zz.1), (0, .ref (a_r 0))] → G H locs 0 0 ls 2 []) ?_ _ _ ls hP hD hS (lv_sub hl [0, 1] rfl))
  · intro zz h H locs ls hP hD hS hl
    obtain ⟨x1_2e, r_order_2e⟩ := zz
    have hP : va_P D cls9 (wd_Mo_round cA a_r r_manner r_above r_below r_nodes r_arcs r_left r_isBest r_arePlateaus r_all r_a r_b r_ties r_z r_plateaus r_between r_joins r_order_2e r_label) H := hP
    have hD : va_D A (wd_Mo_round cA a_r r_manner r_above r_below r_nodes r_arcs r_left r_isBest r_arePlateaus r_all r_a r_b r_ties r_z r_plateaus r_between r_joins r_order_2e r_label) := hD
    have hl : lv_has ls 5 [(1, .int x1_2e), (0, .ref (a_r 0))] := hl
    refine cast (hG _ _ _ _ _ _ _).symm ?_
    refine lv_aload_n hx hb d_Mo_round_23 rfl (lv_at hl 1 rfl) ?_
    refine va_get (ci := 8) (v := .int r_nodes) (C := R_Mo) (T := F_Mo) (N := 36) hx hb hal in_Mo hown hK hP 0 rfl rfl 3 (by decide) (hal _ kw_640) (fun _ h9 => h9) rfl d_Mo_round_24 ?_
    refine lv_iconst (v := 1) hx hb d_Mo_round_27 (by decide) ?_
    refine lv_isub hx hb d_Mo_round_28 ?_
    refine lv_istore_n (lv' := [(1, .int (r_nodes - (1 : Int32))), (0, .ref (a_r 0))]) hx hb d_Mo_round_29 rfl hl (by decide) rfl (fun ls hl => ?_)
    refine cast (hG _ _ _ _ _ _ _) (lp_go2 h (fun zz : Int32 × (Nat → Int32) × Int32 => ∀ (H : Heap) (locs : List Loc) (ls : Array Slot), va_P D cls9 (wd_Mo_round cA a_r r_manner r_above r_below r_nodes r_arcs r_left r_isBest r_arePlateaus r_all r_a r_b r_ties zz.2.2 r_plateaus r_between r_joins zz.2.1 r_label) H → va_D A (wd_Mo_round cA a_r r_manner r_above r_below r_nodes r_arcs r_left r_isBest r_arePlateaus r_all r_a r_b r_ties zz.2.2 r_plateaus r_between r_joins zz.2.1 r_label) → va_S A s.heap H locs → lv_has ls 5 [(1, .int zz.1), (0, .ref (a_r 0))] → G H locs 0 0 ls 91 []) ?_ (fun zz : Int32 × (Nat → Int32) × Int32 => ∀ (H : Heap) (locs : List Loc) (ls : Array Slot), va_P D cls9 (wd_Mo_round cA a_r r_manner r_above r_below r_nodes r_arcs r_left r_isBest r_arePlateaus r_all r_a r_b r_ties zz.2.2 r_plateaus r_between r_joins zz.2.1 r_label) H → va_D A (wd_Mo_round cA a_r r_manner r_above r_below r_nodes r_arcs r_left r_isBest r_arePlateaus r_all r_a r_b r_ties zz.2.2 r_plateaus r_between r_joins zz.2.1 r_label) → va_S A s.heap H locs → lv_has ls 5 [(1, .int zz.1), (0, .ref (a_r 0))] → G H locs 0 0 ls 30 []) ?_ _ _ ls hP hD hS (lv_sub hl [0, 1] rfl))
    · intro zz h H locs ls hP hD hS hl
      obtain ⟨x1_30e, r_order_30e, r_z_30e⟩ := zz
      have hP : va_P D cls9 (wd_Mo_round cA a_r r_manner r_above r_below r_nodes r_arcs r_left r_isBest r_arePlateaus r_all r_a r_b r_ties r_z_30e r_plateaus r_between r_joins r_order_30e r_label) H := hP
      have hD : va_D A (wd_Mo_round cA a_r r_manner r_above r_below r_nodes r_arcs r_left r_isBest r_arePlateaus r_all r_a r_b r_ties r_z_30e r_plateaus r_between r_joins r_order_30e r_label) := hD
      have hl : lv_has ls 5 [(1, .int x1_30e), (0, .ref (a_r 0))] := hl
      refine cast (hG _ _ _ _ _ _ _).symm ?_
      refine lv_iconst (v := 0) hx hb d_Mo_round_91 (by decide) ?_
      refine lv_istore_n (lv' := [(1, .int (0 : Int32)), (0, .ref (a_r 0))]) hx hb d_Mo_round_92 rfl hl (by decide) rfl (fun ls hl => ?_)
      refine lv_iconst (v := 0) hx hb d_Mo_round_93 (by decide) ?_
      refine lv_istore_n (lv' := [(2, .int (0 : Int32)), (1, .int (0 : Int32)), (0, .ref (a_r 0))]) hx hb d_Mo_round_94 rfl hl (by decide) rfl (fun ls hl => ?_)
      refine cast (hG _ _ _ _ _ _ _) (lp_go2 h (fun zz : Int32 × Int32 × (Nat → Int32) => ∀ (H : Heap) (locs : List Loc) (ls : Array Slot), va_P D cls9 (wd_Mo_round cA a_r r_manner r_above r_below r_nodes r_arcs r_left r_isBest r_arePlateaus r_all r_a r_b r_ties r_z_30e r_plateaus r_between r_joins r_order_30e zz.2.2) H → va_D A (wd_Mo_round cA a_r r_manner r_above r_below r_nodes r_arcs r_left r_isBest r_arePlateaus r_all r_a r_b r_ties r_z_30e r_plateaus r_between r_joins r_order_30e zz.2.2) → va_S A s.heap H locs → lv_has ls 5 [(2, .int zz.2.1), (1, .int zz.1), (0, .ref (a_r 0))] → G H locs 0 0 ls 152 []) ?_ (fun zz : Int32 × Int32 × (Nat → Int32) => ∀ (H : Heap) (locs : List Loc) (ls : Array Slot), va_P D cls9 (wd_Mo_round cA a_r r_manner r_above r_below r_nodes r_arcs r_left r_isBest r_arePlateaus r_all r_a r_b r_ties r_z_30e r_plateaus r_between r_joins r_order_30e zz.2.2) H → va_D A (wd_Mo_round cA a_r r_manner r_above r_below r_nodes r_arcs r_left r_isBest r_arePlateaus r_all r_a r_b r_ties r_z_30e r_plateaus r_between r_joins r_order_30e zz.2.2) → va_S A s.heap H locs → lv_has ls 5 [(2, .int zz.2.1), (1, .int zz.1), (0, .ref (a_r 0))] → G H locs 0 0 ls 95 []) ?_ _ _ ls hP hD hS (lv_sub hl [0, 1, 2] rfl))
      · intro zz h H locs ls hP hD hS hl
        obtain ⟨x1_95e, x2_95e, r_label_95e⟩ := zz
        have hP : va_P D cls9 (wd_Mo_round cA a_r r_manner r_above r_below r_nodes r_arcs r_left r_isBest r_arePlateaus r_all r_a r_b r_ties r_z_30e r_plateaus r_between r_joins r_order_30e r_label_95e) H := hP
        have hD : va_D A (wd_Mo_round cA a_r r_manner r_above r_below r_nodes r_arcs r_left r_isBest r_arePlateaus r_all r_a r_b r_ties r_z_30e r_plateaus r_between r_joins r_order_30e r_label_95e) := hD
        have hl : lv_has ls 5 [(2, .int x2_95e), (1, .int x1_95e), (0, .ref (a_r 0))] := hl
        refine cast (hG _ _ _ _ _ _ _).symm ?_
        refine lv_iload_n hx hb d_Mo_round_152 rfl (lv_at hl 1 rfl) ?_
        obtain ⟨z_1, h⟩ := gd h
        exact W.zret (v := x1_95e) hx hb hr (nar_z z_1) (fun t ht hW => ⟨⟨x1_95e, (r_z_30e, r_order_30e, r_label_95e), rfl, Option.some.inj h, by rw [ht]; exact hP, va_K.moved hW.alike hK, hD⟩, hS.F ht⟩) hS.2.2 d_Mo_round_153
      · intro back exit zz hB_95 hE_95 h H locs ls hP hD hS hl
        obtain ⟨x1_95, x2_95, r_label_95⟩ := zz
        have hP : va_P D cls9 (wd_Mo_round cA a_r r_manner r_above r_below r_nodes r_arcs r_left r_isBest r_arePlateaus r_all r_a r_b r_ties r_z_30e r_plateaus r_between r_joins r_order_30e r_label_95) H := hP
        have hD : va_D A (wd_Mo_round cA a_r r_manner r_above r_below r_nodes r_arcs r_left r_isBest r_arePlateaus r_all r_a r_b r_ties r_z_30e r_plateaus r_between r_joins r_order_30e r_label_95) := hD
        have hl : lv_has ls 5 [(2, .int x2_95), (1, .int x1_95), (0, .ref (a_r 0))] := hl
        refine cast (hG _ _ _ _ _ _ _).symm ?_
        refine lv_iload_n hx hb d_Mo_round_95 rfl (lv_at hl 0 rfl) ?_
        refine lv_aload_n hx hb d_Mo_round_96 rfl (lv_at hl 2 rfl) ?_
        refine va_get (ci := 8) (v := .int r_nodes) (C := R_Mo) (T := F_Mo) (N := 36) hx hb hal in_Mo hown hK hP 0 rfl rfl 3 (by decide) (hal _ kw_640) (fun _ h9 => h9) rfl d_Mo_round_97 ?_
        refine lv_icmp_ge (tgt := 152) hx hb d_Mo_round_100 (by decide) (fun c_2 => ?_) (fun c_2 => ?_)
        · have h := ifp (c_2) h
          exact cast (hG _ _ _ _ _ _ _) (hE_95 (x1_95, x2_95, r_label_95) h _ _ _ hP hD hS (lv_sub hl [0, 1, 2] rfl))
        · have h := ifn (c_2) h
          refine lv_aload_n hx hb d_Mo_round_103 rfl (lv_at hl 2 rfl) ?_
          refine va_get (ci := 8) (v := .ref (a_r 17)) (C := R_Mo) (T := F_Mo) (N := 36) hx hb hal in_Mo hown hK hP 0 rfl rfl 28 (by decide) (hal _ kw_665) (fun _ h9 => h9) rfl d_Mo_round_104 ?_
          refine lv_iload_n hx hb d_Mo_round_107 rfl (lv_at hl 0 rfl) ?_
          obtain ⟨g_3, h⟩ := gd h
          refine va_iald hx hb hK hP 3 0 rfl rfl (inb_in g_3) d_Mo_round_108 ?_
          refine lv_istore_n (lv' := [(3, .int (r_order_30e x2_95.toNatClampNeg)), (2, .int x2_95), (1, .int x1_95), (0, .ref (a_r 0))]) hx hb d_Mo_round_109 rfl hl (by decide) rfl (fun ls hl => ?_)
          refine lv_aload_n hx hb d_Mo_round_110 rfl (lv_at hl 3 rfl) ?_
          refine lv_iload_n hx hb d_Mo_round_111 rfl (lv_at hl 0 rfl) ?_
          obtain ⟨o_7, hc_6, h⟩ := bd h
          have hPc := hP.sub (ws' := (wd_Mo_wanted cA a_r r_manner r_above r_below r_nodes r_arcs r_left r_isBest r_arePlateaus r_all r_a r_b r_ties r_z_30e r_plateaus r_between r_joins r_label_95)) [0, 1, 2, 4] rfl
          have hDc := hD.sub (ws' := (wd_Mo_wanted cA a_r r_manner r_above r_below r_nodes r_arcs r_left r_isBest r_arePlateaus r_all r_a r_b r_ties r_z_30e r_plateaus r_between r_joins r_label_95)) [0, 1, 2, 4] (by decide) rfl
          have hFc := va_free (wc := (wd_Mo_wanted cA a_r r_manner r_above r_below r_nodes r_arcs r_left r_isBest r_arePlateaus r_all r_a r_b r_ties r_z_30e r_plateaus r_between r_joins r_label_95)) hD hS hA [0, 1, 2, 4] rfl
          refine va_calli (va_runV (C := R_Mo) (As := [.int (r_order_30e x2_95.toNatClampNeg)]) (rest := []) ⟨hx, hb, hml, hown, hal⟩ (c_Mo_wanted l D cA a_r H.size r_manner r_above r_below r_nodes r_arcs r_left r_isBest r_arePlateaus r_all r_a r_b r_ties r_z_30e r_plateaus r_between r_joins r_label_95 (r_order_30e x2_95.toNatClampNeg) o_7 hc_6) (cwV 1 hal (goodV kw_911 kw_913 kw_p46 kw_9 kw_914) rfl rfl rfl (by decide +kernel) ⟨Nat.le_of_ble_eq_true rfl, Nat.le_of_ble_eq_true rfl⟩) ⟨fun a U g mk q => by obtain ⟨q0, q1, qP, qK, qD⟩ := q; exact ⟨q0, q1, qP, va_K.moved (u := U) (U := U.calling g mk a) (Vm.Alike.refl U.vm) qK, qD⟩, va_recv hK hP (ci := 8) (q0 := 0) rfl rfl, fun U hU hW => ⟨rfl, by rw [hU], by rw [hU]; exact hPc, va_K.moved hW.alike hK, hDc.weaken (fun _ _ _ _ => trivial)⟩⟩ rfl rfl hl.1 rfl (lv_room (Nat.le_of_ble_eq_true rfl)) d_Mo_round_112 ⟨Nat.le_of_ble_eq_true rfl, Nat.le_of_ble_eq_true rfl⟩) hS (fun q _ h => hFc q h) hFc (fun r_5 u t H1 locs ht hvm hw hB hz1 hk1 hS => ?_)
          subst hw
          obtain ⟨hP1, hK1, hD1⟩ := hB
          rw [ht] at hP1
          have hP1 : va_P D cls9 (wd_Mo_wanted cA a_r r_manner r_above r_below r_nodes r_arcs r_left r_isBest r_arePlateaus r_all r_a r_b r_ties r_z_30e r_plateaus r_between r_joins r_label_95) H1 := hP1
          obtain ⟨hP, hD⟩ := va_join (wr := ([3] : List Nat).filterMap (fun i => (wd_Mo_round cA a_r r_manner r_above r_below r_nodes r_arcs r_left r_isBest r_arePlateaus r_all r_a r_b r_ties r_z_30e r_plateaus r_between r_joins r_order_30e r_label_95)[i]?)) (w1 := (wd_Mo_wanted cA a_r r_manner r_above r_below r_nodes r_arcs r_left r_isBest r_arePlateaus r_all r_a r_b r_ties r_z_30e r_plateaus r_between r_joins r_label_95)) hP hD [0, 1, 2, 4] [3] rfl rfl (by decide) (by decide) hk1 hFc hP1 hD1
          generalize H1 = H at hP hS ⊢
          have hP : va_P D cls9 (wd_Mo_round cA a_r r_manner r_above r_below r_nodes r_arcs r_left r_isBest r_arePlateaus r_all r_a r_b r_ties r_z_30e r_plateaus r_between r_joins r_order_30e r_label_95) H := hP.sub [1, 2, 3, 0, 4] rfl
          have hD : va_D A (wd_Mo_round cA a_r r_manner r_above r_below r_nodes r_arcs r_left r_isBest r_arePlateaus r_all r_a r_b r_ties r_z_30e r_plateaus r_between r_joins r_order_30e r_label_95) := hD.sub [1, 2, 3, 0, 4] (by decide) rfl
          refine lv_istore (lv' := [(4, .int r_5), (3, .int (r_order_30e x2_95.toNatClampNeg)), (2, .int x2_95), (1, .int x1_95), (0, .ref (a_r 0))]) hx hb d_Mo_round_115 hl (by decide) rfl (fun ls hl => ?_)
          refine lv_iload_n hx hb d_Mo_round_117 rfl (lv_at hl 3 rfl) ?_
          refine cast (hG _ _ _ _ _ _ _) (jn_go h (fun zz : Int32 => ∀ (H : Heap) (locs : List Loc) (ls : Array Slot), va_P D cls9 (wd_Mo_round cA a_r r_manner r_above r_below r_nodes r_arcs r_left r_isBest r_arePlateaus r_all r_a r_b r_ties r_z_30e r_plateaus r_between r_joins r_order_30e r_label_95) H → va_D A (wd_Mo_round cA a_r r_manner r_above r_below r_nodes r_arcs r_left r_isBest r_arePlateaus r_all r_a r_b r_ties r_z_30e r_plateaus r_between r_joins r_order_30e r_label_95) → va_S A s.heap H locs → lv_has ls 5 [(4, .int r_5), (3, .int (r_order_30e x2_95.toNatClampNeg)), (2, .int x2_95), (1, .int x1_95), (0, .ref (a_r 0))] → G H locs 0 0 ls 137 [.int zz]) ?_ ?_)
          · intro zz h H locs ls hP hD hS hl
            obtain ⟨y0_137j, rfl⟩ : ∃ q, q = zz := ⟨_, rfl⟩
            have hP : va_P D cls9 (wd_Mo_round cA a_r r_manner r_above r_below r_nodes r_arcs r_left r_isBest r_arePlateaus r_all r_a r_b r_ties r_z_30e r_plateaus r_between r_joins r_order_30e r_label_95) H := hP
            have hD : va_D A (wd_Mo_round cA a_r r_manner r_above r_below r_nodes r_arcs r_left r_isBest r_arePlateaus r_all r_a r_b r_ties r_z_30e r_plateaus r_between r_joins r_order_30e r_label_95) := hD
            have hl : lv_has ls 5 [(4, .int r_5), (3, .int (r_order_30e x2_95.toNatClampNeg)), (2, .int x2_95), (1, .int x1_95), (0, .ref (a_r 0))] := hl
            refine cast (hG _ _ _ _ _ _ _).symm ?_
            refine lv_istore_n (lv' := [(1, .int y0_137j), (4, .int r_5), (3, .int (r_order_30e x2_95.toNatClampNeg)), (2, .int x2_95), (0, .ref (a_r 0))]) hx hb d_Mo_round_137 rfl hl (by decide) rfl (fun ls hl => ?_)
            refine lv_aload_n hx hb d_Mo_round_138 rfl (lv_at hl 4 rfl) ?_
            refine va_get (ci := 8) (v := .ref (a_r 18)) (C := R_Mo) (T := F_Mo) (N := 36) hx hb hal in_Mo hown hK hP 0 rfl rfl 29 (by decide) (hal _ kw_666) (fun _ h9 => h9) rfl d_Mo_round_139 ?_
            refine lv_iload_n hx hb d_Mo_round_142 rfl (lv_at hl 2 rfl) ?_
            refine lv_iload hx hb d_Mo_round_143 (lv_at hl 1 rfl) ?_
            obtain ⟨g_8, h⟩ := gd h
            refine va_iast hx hb hK hP hD hS 4 0 rfl rfl (inb_in g_8) d_Mo_round_145 (fun H locs hP hD hS => ?_)
            have hP : va_P D cls9 (wd_Mo_round cA a_r r_manner r_above r_below r_nodes r_arcs r_left r_isBest r_arePlateaus r_all r_a r_b r_ties r_z_30e r_plateaus r_between r_joins r_order_30e (upd r_label_95 (r_order_30e x2_95.toNatClampNeg).toNatClampNeg r_5)) H := hP
            have hD : va_D A (wd_Mo_round cA a_r r_manner r_above r_below r_nodes r_arcs r_left r_isBest r_arePlateaus r_all r_a r_b r_ties r_z_30e r_plateaus r_between r_joins r_order_30e (upd r_label_95 (r_order_30e x2_95.toNatClampNeg).toNatClampNeg r_5)) := hD
            refine lv_iinc (v := (x2_95 + 1)) (lv' := [(2, .int (x2_95 + 1)), (1, .int y0_137j), (4, .int r_5), (3, .int (r_order_30e x2_95.toNatClampNeg)), (0, .ref (a_r 0))]) hx hb d_Mo_round_146 hl (k := 3) rfl rfl (by decide) rfl (fun ls hl => ?_)
            refine lv_goto (tgt := 95) hx hb d_Mo_round_149 (by decide) ?_
            exact cast (hG _ _ _ _ _ _ _) (hB_95 (y0_137j, (x2_95 + 1), (upd r_label_95 (r_order_30e x2_95.toNatClampNeg).toNatClampNeg r_5)) h _ _ _ hP hD hS (lv_sub hl [0, 1, 4] rfl))
          · intro j137 hJ_137 h
            refine cast (hG _ _ _ _ _ _ _).symm ?_
            refine cast (hG _ _ _ _ _ _ _) (jn_go h (fun zz : Unit => ∀ (H : Heap) (locs : List Loc) (ls : Array Slot), va_P D cls9 (wd_Mo_round cA a_r r_manner r_above r_below r_nodes r_arcs r_left r_isBest r_arePlateaus r_all r_a r_b r_ties r_z_30e r_plateaus r_between r_joins r_order_30e r_label_95) H → va_D A (wd_Mo_round cA a_r r_manner r_above r_below r_nodes r_arcs r_left r_isBest r_arePlateaus r_all r_a r_b r_ties r_z_30e r_plateaus r_between r_joins r_order_30e r_label_95) → va_S A s.heap H locs → lv_has ls 5 [(4, .int r_5), (3, .int (r_order_30e x2_95.toNatClampNeg)), (2, .int x2_95), (1, .int x1_95), (0, .ref (a_r 0))] → G H locs 0 0 ls 132 []) ?_ ?_)
            · intro zz h H locs ls hP hD hS hl
              have hP : va_P D cls9 (wd_Mo_round cA a_r r_manner r_above r_below r_nodes r_arcs r_left r_isBest r_arePlateaus r_all r_a r_b r_ties r_z_30e r_plateaus r_between r_joins r_order_30e r_label_95) H := hP
              have hD : va_D A (wd_Mo_round cA a_r r_manner r_above r_below r_nodes r_arcs r_left r_isBest r_arePlateaus r_all r_a r_b r_ties r_z_30e r_plateaus r_between r_joins r_order_30e r_label_95) := hD
              have hl : lv_has ls 5 [(4, .int r_5), (3, .int (r_order_30e x2_95.toNatClampNeg)), (2, .int x2_95), (1, .int x1_95), (0, .ref (a_r 0))] := hl
              refine cast (hG _ _ _ _ _ _ _).symm ?_
              refine lv_iconst (v := 1) hx hb d_Mo_round_132 (by decide) ?_
              refine lv_goto (tgt := 137) hx hb d_Mo_round_133 (by decide) ?_
              exact cast (hG _ _ _ _ _ _ _) (hJ_137 (1 : Int32) h _ _ _ hP hD hS (lv_sub hl [0, 1, 2, 3, 4] rfl))
            · intro j132 hJ_132 h
              refine cast (hG _ _ _ _ _ _ _).symm ?_
              refine lv_if_ne (tgt := 132) hx hb d_Mo_round_118 (by decide) (fun c_9 => ?_) (fun c_9 => ?_)
              · have h := ifn (c_9) h
                exact cast (hG _ _ _ _ _ _ _) (hJ_132 () h _ _ _ hP hD hS (lv_sub hl [0, 1, 2, 3, 4] rfl))
              · have h := ifp (c_9) h
                refine lv_iload hx hb d_Mo_round_121 (lv_at hl 0 rfl) ?_
                refine lv_aload_n hx hb d_Mo_round_123 rfl (lv_at hl 4 rfl) ?_
                refine va_get (ci := 8) (v := .ref (a_r 18)) (C := R_Mo) (T := F_Mo) (N := 36) hx hb hal in_Mo hown hK hP 0 rfl rfl 29 (by decide) (hal _ kw_666) (fun _ h9 => h9) rfl d_Mo_round_124 ?_
                refine lv_iload_n hx hb d_Mo_round_127 rfl (lv_at hl 1 rfl) ?_
                obtain ⟨g_10, h⟩ := gd h
                refine va_iald hx hb hK hP 4 0 rfl rfl (inb_in g_10) d_Mo_round_128 ?_
                refine lv_icmp_eq (tgt := 136) hx hb d_Mo_round_129 (by decide) (fun c_11 => ?_) (fun c_11 => ?_)
                · have h := ifp (c_11) h
                  refine lv_iconst (v := 0) hx hb d_Mo_round_136 (by decide) ?_
                  exact cast (hG _ _ _ _ _ _ _) (hJ_137 (0 : Int32) h _ _ _ hP hD hS (lv_sub hl [0, 1, 2, 3, 4] rfl))
                · have h := ifn (c_11) h
                  exact cast (hG _ _ _ _ _ _ _) (hJ_132 () h _ _ _ hP hD hS (lv_sub hl [0, 1, 2, 3, 4] rfl))
    · intro back exit zz hB_30 hE_30 h H locs ls hP hD hS hl
      obtain ⟨x1_30, r_order_30, r_z_30⟩ := zz
      have hP : va_P D cls9 (wd_Mo_round cA a_r r_manner r_above r_below r_nodes r_arcs r_left r_isBest r_arePlateaus r_all r_a r_b r_ties r_z_30 r_plateaus r_between r_joins r_order_30 r_label) H := hP
      have hD : va_D A (wd_Mo_round cA a_r r_manner r_above r_below r_nodes r_arcs r_left r_isBest r_arePlateaus r_all r_a r_b r_ties r_z_30 r_plateaus r_between r_joins r_order_30 r_label) := hD
      have hl : lv_has ls 5 [(1, .int x1_30), (0, .ref (a_r 0))] := hl
      refine cast (hG _ _ _ _ _ _ _).symm ?_
      refine lv_iload_n hx hb d_Mo_round_30 rfl (lv_at hl 0 rfl) ?_
      refine lv_if_le (tgt := 91) hx hb d_Mo_round_31 (by decide) (fun c_12 => ?_) (fun c_12 => ?_)
      · have h := ifp (c_12) h
        exact cast (hG _ _ _ _ _ _ _) (hE_30 (x1_30, r_order_30, r_z_30) h _ _ _ hP hD hS (lv_sub hl [0, 1] rfl))
      · have h := ifn (c_12) h
        refine lv_aload_n hx hb d_Mo_round_34 rfl (lv_at hl 1 rfl) ?_
        refine lv_aload_n hx hb d_Mo_round_35 rfl (lv_at hl 1 rfl) ?_
        refine va_get (ci := 8) (v := .int r_z_30) (C := R_Mo) (T := F_Mo) (N := 36) hx hb hal in_Mo hown hK hP 0 rfl rfl 30 (by decide) (hal _ kw_667) (fun _ h9 => h9) rfl d_Mo_round_36 ?_
        refine lv_ldc (v := 1664525) hx hb hown (hal _ kw_909) d_Mo_round_39 ?_
        refine lv_imul hx hb d_Mo_round_41 ?_
        refine lv_ldc (v := 1013904223) hx hb hown (hal _ kw_910) d_Mo_round_42 ?_
        refine lv_iadd hx hb d_Mo_round_44 ?_
        refine va_put (ci := 8) (v := .int ((r_z_30 * (1664525 : Int32)) + (1013904223 : Int32))) (ty := .int) (C := R_Mo) (T := F_Mo) (N := 36) hx hb hal in_Mo t_Mo t_Mo_ok n_Mo hown hK hP hD hS 0 rfl rfl 30 (by decide) (hal _ kw_667) (fun _ h9 => h9) rfl (by decide +kernel) rfl rfl (Nat.le_of_ble_eq_true rfl) d_Mo_round_45 (fun H locs hP hD hS => ?_)
        have hP : va_P D cls9 (wd_Mo_round cA a_r r_manner r_above r_below r_nodes r_arcs r_left r_isBest r_arePlateaus r_all r_a r_b r_ties ((r_z_30 * (1664525 : Int32)) + (1013904223 : Int32)) r_plateaus r_between r_joins r_order_30 r_label) H := hP
        have hD : va_D A (wd_Mo_round cA a_r r_manner r_above r_below r_nodes r_arcs r_left r_isBest r_arePlateaus r_all r_a r_b r_ties ((r_z_30 * (1664525 : Int32)) + (1013904223 : Int32)) r_plateaus r_between r_joins r_order_30 r_label) := hD
        refine lv_aload_n hx hb d_Mo_round_48 rfl (lv_at hl 1 rfl) ?_
        refine va_get (ci := 8) (v := .int ((r_z_30 * (1664525 : Int32)) + (1013904223 : Int32))) (C := R_Mo) (T := F_Mo) (N := 36) hx hb hal in_Mo hown hK hP 0 rfl rfl 30 (by decide) (hal _ kw_667) (fun _ h9 => h9) rfl d_Mo_round_49 ?_
        refine lv_iconst (v := 1) hx hb d_Mo_round_52 (by decide) ?_
        refine lv_iushr hx hb d_Mo_round_53 rfl ?_
        refine lv_iload_n hx hb d_Mo_round_54 rfl (lv_at hl 0 rfl) ?_
        refine lv_iconst (v := 1) hx hb d_Mo_round_55 (by decide) ?_
        refine lv_iadd hx hb d_Mo_round_56 ?_
        obtain ⟨z_13, h⟩ := gd h
        refine lv_irem hx hb d_Mo_round_57 z_13 ?_
        refine lv_istore_n (lv' := [(2, .int ((((r_z_30 * (1664525 : Int32)) + (1013904223 : Int32)).toUInt32 >>> ((1 : Int32).toUInt32 &&& Int32.toUInt32 31)).toInt32 - (((r_z_30 * (1664525 : Int32)) + (1013904223 : Int32)).toUInt32 >>> ((1 : Int32).toUInt32 &&& Int32.toUInt32 31)).toInt32 / (x1_30 + (1 : Int32)) * (x1_30 + (1 : Int32)))), (1, .int x1_30), (0, .ref (a_r 0))]) hx hb d_Mo_round_58 rfl hl (by decide) rfl (fun ls hl => ?_)
        refine lv_aload_n hx hb d_Mo_round_59 rfl (lv_at hl 2 rfl) ?_
        refine va_get (ci := 8) (v := .ref (a_r 17)) (C := R_Mo) (T := F_Mo) (N := 36) hx hb hal in_Mo hown hK hP 0 rfl rfl 28 (by decide) (hal _ kw_665) (fun _ h9 => h9) rfl d_Mo_round_60 ?_
        refine lv_iload_n hx hb d_Mo_round_63 rfl (lv_at hl 1 rfl) ?_
        obtain ⟨g_14, h⟩ := gd h
        refine va_iald hx hb hK hP 3 0 rfl rfl (inb_in g_14) d_Mo_round_64 ?_
        refine lv_istore_n (lv' := [(3, .int (r_order_30 x1_30.toNatClampNeg)), (2, .int ((((r_z_30 * (1664525 : Int32)) + (1013904223 : Int32)).toUInt32 >>> ((1 : Int32).toUInt32 &&& Int32.toUInt32 31)).toInt32 - (((r_z_30 * (1664525 : Int32)) + (1013904223 : Int32)).toUInt32 >>> ((1 : Int32).toUInt32 &&& Int32.toUInt32 31)).toInt32 / (x1_30 + (1 : Int32)) * (x1_30 + (1 : Int32)))), (1, .int x1_30), (0, .ref (a_r 0))]) hx hb d_Mo_round_65 rfl hl (by decide) rfl (fun ls hl => ?_)
        refine lv_aload_n hx hb d_Mo_round_66 rfl (lv_at hl 3 rfl) ?_
        refine va_get (ci := 8) (v := .ref (a_r 17)) (C := R_Mo) (T := F_Mo) (N := 36) hx hb hal in_Mo hown hK hP 0 rfl rfl 28 (by decide) (hal _ kw_665) (fun _ h9 => h9) rfl d_Mo_round_67 ?_
        refine lv_iload_n hx hb d_Mo_round_70 rfl (lv_at hl 2 rfl) ?_
        refine lv_aload_n hx hb d_Mo_round_71 rfl (lv_at hl 3 rfl) ?_
        refine va_get (ci := 8) (v := .ref (a_r 17)) (C := R_Mo) (T := F_Mo) (N := 36) hx hb hal in_Mo hown hK hP 0 rfl rfl 28 (by decide) (hal _ kw_665) (fun _ h9 => h9) rfl d_Mo_round_72 ?_
        refine lv_iload_n hx hb d_Mo_round_75 rfl (lv_at hl 1 rfl) ?_
        obtain ⟨g_15, h⟩ := gd h
        refine va_iald hx hb hK hP 3 0 rfl rfl (inb_in g_15) d_Mo_round_76 ?_
        refine va_iast hx hb hK hP hD hS 3 0 rfl rfl (inb_in g_14) d_Mo_round_77 (fun H locs hP hD hS => ?_)
        have hP : va_P D cls9 (wd_Mo_round cA a_r r_manner r_above r_below r_nodes r_arcs r_left r_isBest r_arePlateaus r_all r_a r_b r_ties ((r_z_30 * (1664525 : Int32)) + (1013904223 : Int32)) r_plateaus r_between r_joins (upd r_order_30 x1_30.toNatClampNeg (r_order_30 ((((r_z_30 * (1664525 : Int32)) + (1013904223 : Int32)).toUInt32 >>> ((1 : Int32).toUInt32 &&& Int32.toUInt32 31)).toInt32 - (((r_z_30 * (1664525 : Int32)) + (1013904223 : Int32)).toUInt32 >>> ((1 : Int32).toUInt32 &&& Int32.toUInt32 31)).toInt32 / (x1_30 + (1 : Int32)) * (x1_30 + (1 : Int32))).toNatClampNeg)) r_label) H := hP
        have hD : va_D A (wd_Mo_round cA a_r r_manner r_above r_below r_nodes r_arcs r_left r_isBest r_arePlateaus r_all r_a r_b r_ties ((r_z_30 * (1664525 : Int32)) + (1013904223 : Int32)) r_plateaus r_between r_joins (upd r_order_30 x1_30.toNatClampNeg (r_order_30 ((((r_z_30 * (1664525 : Int32)) + (1013904223 : Int32)).toUInt32 >>> ((1 : Int32).toUInt32 &&& Int32.toUInt32 31)).toInt32 - (((r_z_30 * (1664525 : Int32)) + (1013904223 : Int32)).toUInt32 >>> ((1 : Int32).toUInt32 &&& Int32.toUInt32 31)).toInt32 / (x1_30 + (1 : Int32)) * (x1_30 + (1 : Int32))).toNatClampNeg)) r_label) := hD
        refine lv_aload_n hx hb d_Mo_round_78 rfl (lv_at hl 3 rfl) ?_
        refine va_get (ci := 8) (v := .ref (a_r 17)) (C := R_Mo) (T := F_Mo) (N := 36) hx hb hal in_Mo hown hK hP 0 rfl rfl 28 (by decide) (hal _ kw_665) (fun _ h9 => h9) rfl d_Mo_round_79 ?_
        refine lv_iload_n hx hb d_Mo_round_82 rfl (lv_at hl 1 rfl) ?_
        refine lv_iload_n hx hb d_Mo_round_83 rfl (lv_at hl 0 rfl) ?_
        refine va_iast hx hb hK hP hD hS 3 0 rfl rfl (inb_in g_15) d_Mo_round_84 (fun H locs hP hD hS => ?_)
        have hP : va_P D cls9 (wd_Mo_round cA a_r r_manner r_above r_below r_nodes r_arcs r_left r_isBest r_arePlateaus r_all r_a r_b r_ties ((r_z_30 * (1664525 : Int32)) + (1013904223 : Int32)) r_plateaus r_between r_joins (upd (upd r_order_30 x1_30.toNatClampNeg (r_order_30 ((((r_z_30 * (1664525 : Int32)) + (1013904223 : Int32)).toUInt32 >>> ((1 : Int32).toUInt32 &&& Int32.toUInt32 31)).toInt32 - (((r_z_30 * (1664525 : Int32)) + (1013904223 : Int32)).toUInt32 >>> ((1 : Int32).toUInt32 &&& Int32.toUInt32 31)).toInt32 / (x1_30 + (1 : Int32)) * (x1_30 + (1 : Int32))).toNatClampNeg)) ((((r_z_30 * (1664525 : Int32)) + (1013904223 : Int32)).toUInt32 >>> ((1 : Int32).toUInt32 &&& Int32.toUInt32 31)).toInt32 - (((r_z_30 * (1664525 : Int32)) + (1013904223 : Int32)).toUInt32 >>> ((1 : Int32).toUInt32 &&& Int32.toUInt32 31)).toInt32 / (x1_30 + (1 : Int32)) * (x1_30 + (1 : Int32))).toNatClampNeg (r_order_30 x1_30.toNatClampNeg)) r_label) H := hP
        have hD : va_D A (wd_Mo_round cA a_r r_manner r_above r_below r_nodes r_arcs r_left r_isBest r_arePlateaus r_all r_a r_b r_ties ((r_z_30 * (1664525 : Int32)) + (1013904223 : Int32)) r_plateaus r_between r_joins (upd (upd r_order_30 x1_30.toNatClampNeg (r_order_30 ((((r_z_30 * (1664525 : Int32)) + (1013904223 : Int32)).toUInt32 >>> ((1 : Int32).toUInt32 &&& Int32.toUInt32 31)).toInt32 - (((r_z_30 * (1664525 : Int32)) + (1013904223 : Int32)).toUInt32 >>> ((1 : Int32).toUInt32 &&& Int32.toUInt32 31)).toInt32 / (x1_30 + (1 : Int32)) * (x1_30 + (1 : Int32))).toNatClampNeg)) ((((r_z_30 * (1664525 : Int32)) + (1013904223 : Int32)).toUInt32 >>> ((1 : Int32).toUInt32 &&& Int32.toUInt32 31)).toInt32 - (((r_z_30 * (1664525 : Int32)) + (1013904223 : Int32)).toUInt32 >>> ((1 : Int32).toUInt32 &&& Int32.toUInt32 31)).toInt32 / (x1_30 + (1 : Int32)) * (x1_30 + (1 : Int32))).toNatClampNeg (r_order_30 x1_30.toNatClampNeg)) r_label) := hD
        refine lv_iinc (v := (x1_30 + (-1))) (lv' := [(1, .int (x1_30 + (-1))), (3, .int (r_order_30 x1_30.toNatClampNeg)), (2, .int ((((r_z_30 * (1664525 : Int32)) + (1013904223 : Int32)).toUInt32 >>> ((1 : Int32).toUInt32 &&& Int32.toUInt32 31)).toInt32 - (((r_z_30 * (1664525 : Int32)) + (1013904223 : Int32)).toUInt32 >>> ((1 : Int32).toUInt32 &&& Int32.toUInt32 31)).toInt32 / (x1_30 + (1 : Int32)) * (x1_30 + (1 : Int32)))), (0, .ref (a_r 0))]) hx hb d_Mo_round_85 hl (k := 2) rfl rfl (by decide) rfl (fun ls hl => ?_)
        refine lv_goto (tgt := 30) hx hb d_Mo_round_88 (by decide) ?_
        exact cast (hG _ _ _ _ _ _ _) (hB_30 ((x1_30 + (-1)), (upd (upd r_order_30 x1_30.toNatClampNeg (r_order_30 ((((r_z_30 * (1664525 : Int32)) + (1013904223 : Int32)).toUInt32 >>> ((1 : Int32).toUInt32 &&& Int32.toUInt32 31)).toInt32 - (((r_z_30 * (1664525 : Int32)) + (1013904223 : Int32)).toUInt32 >>> ((1 : Int32).toUInt32 &&& Int32.toUInt32 31)).toInt32 / (x1_30 + (1 : Int32)) * (x1_30 + (1 : Int32))).toNatClampNeg)) ((((r_z_30 * (1664525 : Int32)) + (1013904223 : Int32)).toUInt32 >>> ((1 : Int32).toUInt32 &&& Int32.toUInt32 31)).toInt32 - (((r_z_30 * (1664525 : Int32)) + (1013904223 : Int32)).toUInt32 >>> ((1 : Int32).toUInt32 &&& Int32.toUInt32 31)).toInt32 / (x1_30 + (1 : Int32)) * (x1_30 + (1 : Int32))).toNatClampNeg (r_order_30 x1_30.toNatClampNeg)), ((r_z_30 * (1664525 : Int32)) + (1013904223 : Int32))) h _ _ _ hP hD hS (lv_sub hl [0, 3] rfl))
  · intro back exit zz hB_2 hE_2 h H locs ls hP hD hS hl
    obtain ⟨x1_2, r_order_2⟩ := zz
    have hP : va_P D cls9 (wd_Mo_round cA a_r r_manner r_above r_below r_nodes r_arcs r_left r_isBest r_arePlateaus r_all r_a r_b r_ties r_z r_plateaus r_between r_joins r_order_2 r_label) H := hP
    have hD : va_D A (wd_Mo_round cA a_r r_manner r_above r_below r_nodes r_arcs r_left r_isBest r_arePlateaus r_all r_a r_b r_ties r_z r_plateaus r_between r_joins r_order_2 r_label) := hD
    have hl : lv_has ls 5 [(1, .int x1_2), (0, .ref (a_r 0))] := hl
    refine cast (hG _ _ _ _ _ _ _).symm ?_
    refine lv_iload_n hx hb d_Mo_round_2 rfl (lv_at hl 0 rfl) ?_
    refine lv_aload_n hx hb d_Mo_round_3 rfl (lv_at hl 1 rfl) ?_
    refine va_get (ci := 8) (v := .int r_nodes) (C := R_Mo) (T := F_Mo) (N := 36) hx hb hal in_Mo hown hK hP 0 rfl rfl 3 (by decide) (hal _ kw_640) (fun _ h9 => h9) rfl d_Mo_round_4 ?_
    refine lv_icmp_ge (tgt := 23) hx hb d_Mo_round_7 (by decide) (fun c_16 => ?_) (fun c_16 => ?_)
    · have h := ifp (c_16) h
      exact cast (hG _ _ _ _ _ _ _) (hE_2 (x1_2, r_order_2) h _ _ _ hP hD hS (lv_sub hl [0, 1] rfl))
    · have h := ifn (c_16) h
      refine lv_aload_n hx hb d_Mo_round_10 rfl (lv_at hl 1 rfl) ?_
      refine va_get (ci := 8) (v := .ref (a_r 17)) (C := R_Mo) (T := F_Mo) (N := 36) hx hb hal in_Mo hown hK hP 0 rfl rfl 28 (by decide) (hal _ kw_665) (fun _ h9 => h9) rfl d_Mo_round_11 ?_
      refine lv_iload_n hx hb d_Mo_round_14 rfl (lv_at hl 0 rfl) ?_
      refine lv_iload_n hx hb d_Mo_round_15 rfl (lv_at hl 0 rfl) ?_
      obtain ⟨g_17, h⟩ := gd h
      refine va_iast hx hb hK hP hD hS 3 0 rfl rfl (inb_in g_17) d_Mo_round_16 (fun H locs hP hD hS => ?_)
      have hP : va_P D cls9 (wd_Mo_round cA a_r r_manner r_above r_below r_nodes r_arcs r_left r_isBest r_arePlateaus r_all r_a r_b r_ties r_z r_plateaus r_between r_joins (upd r_order_2 x1_2.toNatClampNeg x1_2) r_label) H := hP
      have hD : va_D A (wd_Mo_round cA a_r r_manner r_above r_below r_nodes r_arcs r_left r_isBest r_arePlateaus r_all r_a r_b r_ties r_z r_plateaus r_between r_joins (upd r_order_2 x1_2.toNatClampNeg x1_2) r_label) := hD
      refine lv_iinc (v := (x1_2 + 1)) (lv' := [(1, .int (x1_2 + 1)), (0, .ref (a_r 0))]) hx hb d_Mo_round_17 hl (k := 0) rfl rfl (by decide) rfl (fun ls hl => ?_)
      refine lv_goto (tgt := 2) hx hb d_Mo_round_20 (by decide) ?_
      exact cast (hG _ _ _ _ _ _ _) (hB_2 ((x1_2 + 1), (upd r_order_2 x1_2.toNatClampNeg x1_2)) h _ _ _ hP hD hS (lv_sub hl [0, 1] rfl))
def wd_Mo_spread (cA : Nat → ClassId) (a_r : Nat → Nat) (r_manner : Int32) (r_above : Int32) (r_below : Int32) (r_nodes : Int32) (r_arcs : Int32) (r_left : Int32) (r_isBest : Int32) (r_arePlateaus : Int32) (r_all : Int64) (r_a : Int64) (r_b : Int64) (r_ties : Int32) (r_z : Int32) (r_plateaus : Int32) (r_ones : Nat → Int32) (r_others : Nat → Int32) (r_weights : Nat → Int32) (r_there : Nat → Int32) (r_between : Nat → Int32) (r_joins : Nat → Int32) (r_has : Nat → Int32) (r_order : Nat → Int32) (r_label : Nat → Int32) : va_W := [(a_r 0, .inr (8, [.int r_manner, .int r_above, .int r_below, .int r_nodes, .int r_arcs, .int r_left, .ref (a_r 1), .ref (a_r 2), .ref (a_r 3), .ref (a_r 4), .ref (a_r 5), .int r_isBest, .int r_arePlateaus, .ref (a_r 6), .ref (a_r 7), .ref (a_r 8), .long r_all, .ref (a_r 9), .ref (a_r 10), .long r_a, .long r_b, .ref (a_r 11), .ref (a_r 12), .ref (a_r 13), .ref (a_r 14), .ref (a_r 15), .int r_ties, .ref (a_r 16), .ref (a_r 17), .ref (a_r 18), .int r_z, .int r_plateaus, .ref (a_r 19), .ref (a_r 20), .ref (a_r 21), .ref (a_r 22)])), (a_r 1, .inl (cA 0, 36, .inl r_ones)), (a_r 2, .inl (cA 0, 36, .inl r_others)), (a_r 3, .inl (cA 0, 36, .inl r_weights)), (a_r 4, .inl (cA 2, 36, .inl r_there)), (a_r 6, .inl (cA 0, 81, .inl r_between)), (a_r 7, .inl (cA 2, 81, .inl r_joins)), (a_r 8, .inl (cA 0, 9, .inl r_has)), (a_r 17, .inl (cA 0, 9, .inl r_order)), (a_r 18, .inl (cA 0, 9, .inl r_label))]
noncomputable def s_Mo_spread_34 (r_between : Nat → Int32) (r_joins : Nat → Int32) (r_nodes : Int32) (zz : Int32 × (Nat → Int32) × (Nat → Int32) × Int32) (back exit : (Int32 × (Nat → Int32) × (Nat → Int32) × Int32) → Option (Int32 × Int64 × Int32 × (Nat → Int32) × (Nat → Int32) × (Nat → Int32) × (Nat → Int32) × (Nat → Int32))) : Option (Int32 × Int64 × Int32 × (Nat → Int32) × (Nat → Int32) × (Nat → Int32) × (Nat → Int32) × (Nat → Int32)) :=
  ((m_Mo_round r_nodes zz.2.2.2 r_between r_joins zz.2.2.1 zz.2.1).bind (fun r35 : Int32 × Int32 × (Nat → Int32) × (Nat → Int32) => (if r35.1 = 0 then (exit (zz.1, r35.2.2.2, r35.2.2.1, r35.2.1)) else (if (20 : Int32) ≤ zz.1 then (exit (zz.1, r35.2.2.2, r35.2.2.1, r35.2.1)) else (back ((zz.1 + 1), r35.2.2.2, r35.2.2.1, r35.2.1))))))
noncomputable def s_Mo_spread_11 (r_nodes : Int32) (zz : Int32 × (Nat → Int32)) (back exit : (Int32 × (Nat → Int32)) → Option (Int32 × Int64 × Int32 × (Nat → Int32) × (Nat → Int32) × (Nat → Int32) × (Nat → Int32) × (Nat → Int32))) : Option (Int32 × Int64 × Int32 × (Nat → Int32) × (Nat → Int32) × (Nat → Int32) × (Nat → Int32) × (Nat → Int32)) :=
  (if r_nodes ≤ zz.1 then (exit (zz.1, zz.2)) else (if inb zz.1 9 then (back ((zz.1 + 1), (upd zz.2 zz.1.toNatClampNeg zz.1))) else none))
noncomputable def m_Mo_spread (r_manner : Int32) (r_nodes : Int32) (r_arcs : Int32) (r_ones : Nat → Int32) (r_others : Nat → Int32) (r_weights : Nat → Int32) (r_there : Nat → Int32) (r_between : Nat → Int32) (r_joins : Nat → Int32) (r_has : Nat → Int32) (r_order : Nat → Int32) (r_label : Nat → Int32) (v1 : Int32) : Option (Int32 × Int64 × Int32 × (Nat → Int32) × (Nat → Int32) × (Nat → Int32) × (Nat → Int32) × (Nat → Int32)) :=
  ((m_Mo_weigh r_manner r_arcs r_ones r_others r_weights r_there r_between r_joins r_has).bind (fun r1 : Int64 × (Nat → Int32) × (Nat → Int32) × (Nat → Int32) => (loopC (s_Mo_spread_11 r_nodes) (fun z11 : Int32 × (Nat → Int32) => (loopC (s_Mo_spread_34 r1.2.1 r1.2.2.1 r_nodes) (fun z34 : Int32 × (Nat → Int32) × (Nat → Int32) × Int32 => some (z34.1, r1.1, z34.2.2.2, r1.2.1, r1.2.2.1, r1.2.2.2, z34.2.2.1, z34.2.1)) FU ((1 : Int32), z11.2, r_order, v1))) FU ((0 : Int32), r_label))))
set_option maxHeartbeats 4000000 in
set_option maxRecDepth 100000 in
theorem c_Mo_spread (l : Launch) (D : va_G) (cA : Nat → ClassId) (a_r : Nat → Nat) (sz : Nat) (r_manner : Int32) (r_above : Int32) (r_below : Int32) (r_nodes : Int32) (r_arcs : Int32) (r_left : Int32) (r_isBest : Int32) (r_arePlateaus : Int32) (r_all : Int64) (r_a : Int64) (r_b : Int64) (r_ties : Int32) (r_z : Int32) (r_plateaus : Int32) (r_ones : Nat → Int32) (r_others : Nat → Int32) (r_weights : Nat → Int32) (r_there : Nat → Int32) (r_between : Nat → Int32) (r_joins : Nat → Int32) (r_has : Nat → Int32) (r_order : Nat → Int32) (r_label : Nat → Int32) (v1 : Int32) (out : Int32 × Int64 × Int32 × (Nat → Int32) × (Nat → Int32) × (Nat → Int32) × (Nat → Int32) × (Nat → Int32)) (h : m_Mo_spread r_manner r_nodes r_arcs r_ones r_others r_weights r_there r_between r_joins r_has r_order r_label v1 = some out) : Met l y_Mo_spread w_Mo_spread ({ frames := 2, cells := 0, slots := 0, locals := 52 }) (va_Pc [.ref (a_r 0), .int v1] (fun U => U.heap.size = sz ∧ va_P D cls9 (wd_Mo_spread cA a_r r_manner r_above r_below r_nodes r_arcs r_left r_isBest r_arePlateaus r_all r_a r_b r_ties r_z r_plateaus r_ones r_others r_weights r_there r_between r_joins r_has r_order r_label) U.heap ∧ va_K D cls9 (tys5 cA) U ∧ va_D (fun _ => True) (wd_Mo_spread cA a_r r_manner r_above r_below r_nodes r_arcs r_left r_isBest r_arePlateaus r_all r_a r_b r_ties r_z r_plateaus r_ones r_others r_weights r_there r_between r_joins r_has r_order r_label))) (va_Qi (fun (rr : Int32) (uu : Int64 × Int32 × (Nat → Int32) × (Nat → Int32) × (Nat → Int32) × (Nat → Int32) × (Nat → Int32)) => (rr, uu) = out) (fun (uu : Int64 × Int32 × (Nat → Int32) × (Nat → Int32) × (Nat → Int32) × (Nat → Int32) × (Nat → Int32)) (t : State) => va_P D cls9 (wd_Mo_spread cA a_r r_manner r_above r_below r_nodes r_arcs r_left r_isBest r_arePlateaus uu.1 r_a r_b r_ties uu.2.1 r_plateaus r_ones r_others r_weights r_there uu.2.2.1 uu.2.2.2.1 uu.2.2.2.2.1 uu.2.2.2.2.2.1 uu.2.2.2.2.2.2) t.heap ∧ va_K D cls9 (tys5 cA) t ∧ va_D (va_A (wd_Mo_spread cA a_r r_manner r_above r_below r_nodes r_arcs r_left r_isBest r_arePlateaus r_all r_a r_b r_ties r_z r_plateaus r_ones r_others r_weights r_there r_between r_joins r_has r_order r_label) sz) (wd_Mo_spread cA a_r r_manner r_above r_below r_nodes r_arcs r_left r_isBest r_arePlateaus uu.1 r_a r_b r_ties uu.2.1 r_plateaus r_ones r_others r_weights r_there uu.2.2.1 uu.2.2.2.1 uu.2.2.2.2.1 uu.2.2.2.2.2.1 uu.2.2.2.2.2.2)) (va_A (wd_Mo_spread cA a_r r_manner r_above r_below r_nodes r_arcs r_left r_isBest r_arePlateaus r_all r_a r_b r_ties r_z r_plateaus r_ones r_others r_weights r_there r_between r_joins r_has r_order r_label) sz)) 0 0 (va_A (wd_Mo_spread cA a_r r_manner r_above r_below r_nodes r_arcs r_left r_isBest r_arePlateaus r_all r_a r_b r_ties r_z r_plateaus r_ones r_others r_weights r_there r_between r_joins r_has r_order r_label) sz) := by
  refine Met.ofW (cc := b_Mo_spread) (maxL := 3) (ret := (Option.some Jvm.ClassFile.FieldType.int)) (by decide) rfl ?_
  intro p e s m args below meth c s₁ B hml hv
  obtain ⟨rfl, hsz, hP, hK, hD0⟩ := hv
  have hx := B.exec
  have hb := B.bytes
  have hr := B.returns
  have hts := atoms_spec (ws := w_Mo_spread) B.pre
  have hal : ∀ w ∈ ALLW, w.before _ s = true := fun w hw => hts w (List.mem_cons_of_mem _ hw)
  have hown : s.vm.findClass R_Mo = some m.cls := findClass_of_methodNamed B.named
  have hlocks := B.notSynchronized
  subst hsz
  have hD := hD0.self (sz := s.heap.size)
  generalize hAe : va_A (wd_Mo_spread cA a_r r_manner r_above r_below r_nodes r_arcs r_left r_isBest r_arePlateaus r_all r_a r_b r_ties r_z r_plateaus r_ones r_others r_weights r_there r_between r_joins r_has r_order r_label) s.heap.size = A at hD ⊢
  have hA : ∀ q : Nat, s.heap.size ≤ q → A q := fun q h => by rw [← hAe]; exact Or.inr h
  have hS : va_S A s.heap s.heap [] := va_S.rf
  have hl := lv_entry ([.ref (a_r 0), .int v1]) (n := 3) (Nat.le_of_ble_eq_true rfl)
  rw [lg_entry_eq]
  generalize (lg_sl ([.ref (a_r 0), .int v1]) ++ List.replicate (3 - (lg_sl ([.ref (a_r 0), .int v1])).length) Slot.unset).toArray = ls at hl ⊢
  have hl : lv_has ls 3 [(0, .ref (a_r 0)), (1, .int v1)] := hl
  refine wg (fun G hG => ?_)
  refine cast (hG _ _ _ _ _ _ _).symm ?_
  obtain ⟨H, locs, hHl, hS⟩ : ∃ (H : Heap) (locs : List Loc), (H = s.heap ∧ locs = []) ∧ va_S A s.heap H locs := ⟨s.heap, [], ⟨rfl, rfl⟩, hS⟩
  have hP : va_P D cls9 (wd_Mo_spread cA a_r r_manner r_above r_below r_nodes r_arcs r_left r_isBest r_arePlateaus r_all r_a r_b r_ties r_z r_plateaus r_ones r_others r_weights r_there r_between r_joins r_has r_order r_label) H := by rw [hHl.1]; exact hP
  rw [← hHl.1, ← hHl.2]
  clear hHl
  refine lv_aload_n hx hb d_Mo_spread_0 rfl (lv_at hl 0 rfl) ?_
  obtain ⟨o_8, hc_7, h⟩ := bd h
  have hPc := hP.sub (ws' := (wd_Mo_weigh cA a_r r_manner r_above r_below r_nodes r_arcs r_left r_isBest r_arePlateaus r_all r_a r_b r_ties r_z r_plateaus r_ones r_others r_weights r_there r_between r_joins r_has)) [0, 1, 2, 3, 4, 5, 6, 7] rfl
  have hDc := hD.sub (ws' := (wd_Mo_weigh cA a_r r_manner r_above r_below r_nodes r_arcs r_left r_isBest r_arePlateaus r_all r_a r_b r_ties r_z r_plateaus r_ones r_others r_weights r_there r_between r_joins r_has)) [0, 1, 2, 3, 4, 5, 6, 7] (by decide) rfl
  have hFc := va_free (wc := (wd_Mo_weigh cA a_r r_manner r_above r_below r_nodes r_arcs r_left r_isBest r_arePlateaus r_all r_a r_b r_ties r_z r_plateaus r_ones r_others r_weights r_there r_between r_joins r_has)) hD hS hA [0, 1, 2, 3, 4, 5, 6, 7] rfl
  refine va_callv (va_runV (C := R_Mo) (As := []) (rest := []) ⟨hx, hb, hml, hown, hal⟩ (c_Mo_weigh l D cA a_r H.size r_manner r_above r_below r_nodes r_arcs r_left r_isBest r_arePlateaus r_all r_a r_b r_ties r_z r_plateaus r_ones r_others r_weights r_there r_between r_joins r_has o_8 hc_7) (cwV 0 hal (goodV kw_803 kw_805 kw_p30 kw_9 kw_806) rfl rfl rfl (by decide +kernel) ⟨Nat.le_of_ble_eq_true rfl, Nat.le_of_ble_eq_true rfl⟩) ⟨fun a U g mk q => by obtain ⟨q0, q1, qP, qK, qD⟩ := q; exact ⟨q0, q1, qP, va_K.moved (u := U) (U := U.calling g mk a) (Vm.Alike.refl U.vm) qK, qD⟩, va_recv hK hP (ci := 8) (q0 := 0) rfl rfl, fun U hU hW => ⟨rfl, by rw [hU], by rw [hU]; exact hPc, va_K.moved hW.alike hK, hDc.weaken (fun _ _ _ _ => trivial)⟩⟩ rfl rfl hl.1 rfl (lv_room (Nat.le_of_ble_eq_true rfl)) d_Mo_spread_1 ⟨Nat.le_of_ble_eq_true rfl, Nat.le_of_ble_eq_true rfl⟩) hS (fun q _ h => hFc q h) hFc (fun u t H1 locs ht hvm hw hB hz1 hk1 hS => ?_)
  obtain ⟨u_3, u_4, u_5, u_6⟩ := u
  subst hw
  obtain ⟨hP1, hK1, hD1⟩ := hB
  rw [ht] at hP1
  have hP1 : va_P D cls9 (wd_Mo_weigh cA a_r r_manner r_above r_below r_nodes r_arcs r_left r_isBest r_arePlateaus u_3 r_a r_b r_ties r_z r_plateaus r_ones r_others r_weights r_there u_4 u_5 u_6) H1 := hP1
  obtain ⟨hP, hD⟩ := va_join (wr := ([8, 9] : List Nat).filterMap (fun i => (wd_Mo_spread cA a_r r_manner r_above r_below r_nodes r_arcs r_left r_isBest r_arePlateaus r_all r_a r_b r_ties r_z r_plateaus r_ones r_others r_weights r_there r_between r_joins r_has r_order r_label)[i]?)) (w1 := (wd_Mo_weigh cA a_r r_manner r_above r_below r_nodes r_arcs r_left r_isBest r_arePlateaus u_3 r_a r_b r_ties r_z r_plateaus r_ones r_others r_weights r_there u_4 u_5 u_6)) hP hD [0, 1, 2, 3, 4, 5, 6, 7] [8, 9] rfl rfl (by decide) (by decide) hk1 hFc hP1 hD1
  generalize H1 = H at hP hS ⊢
  have hP : va_P D cls9 (wd_Mo_spread cA a_r r_manner r_above r_below r_nodes r_arcs r_left r_isBest r_arePlateaus u_3 r_a r_b r_ties r_z r_plateaus r_ones r_others r_weights r_there u_4 u_5 u_6 r_order r_label) H := hP.sub [2, 3, 4, 5, 6, 7, 8, 9, 0, 1] rfl
  have hD : va_D A (wd_Mo_spread cA a_r r_manner r_above r_below r_nodes r_arcs r_left r_isBest r_arePlateaus u_3 r_a r_b r_ties r_z r_plateaus r_ones r_others r_weights r_there u_4 u_5 u_6 r_order r_label) := hD.sub [2, 3, 4, 5, 6, 7, 8, 9, 0, 1] (by decide) rfl
  refine lv_aload_n hx hb d_Mo_spread_4 rfl (lv_at hl 0 rfl) ?_
  refine lv_iload_n hx hb d_Mo_spread_5 rfl (lv_at hl 1 rfl) ?_
  refine va_put (ci := 8) (v := .int v1) (ty := .int) (C := R_Mo) (T := F_Mo) (N := 36) hx hb hal in_Mo t_Mo t_Mo_ok n_Mo hown hK hP hD hS 0 rfl rfl 30 (by decide) (hal _ kw_667) (fun _ h9 => h9) rfl (by decide +kernel) rfl rfl (Nat.le_of_ble_eq_true rfl) d_Mo_spread_6 (fun H locs hP hD hS => ?_)
  have hP : va_P D cls9 (wd_Mo_spread cA a_r r_manner r_above r_below r_nodes r_arcs r_left r_isBest r_arePlateaus u_3 r_a r_b r_ties v1 r_plateaus r_ones r_others r_weights r_there u_4 u_5 u_6 r_order r_label) H := hP
  have hD : va_D A (wd_Mo_spread cA a_r r_manner r_above r_below r_nodes r_arcs r_left r_isBest r_arePlateaus u_3 r_a r_b r_ties v1 r_plateaus r_ones r_others r_weights r_there u_4 u_5 u_6 r_order r_label) := hD
  refine lv_iconst (v := 0) hx hb d_Mo_spread_9 (by decide) ?_
  refine lv_istore_n (lv' := [(2, .int (0 : Int32)), (0, .ref (a_r 0)), (1, .int v1)]) hx hb d_Mo_spread_10 rfl hl (by decide) rfl (fun ls hl => ?_)
  refine cast (hG _ _ _ _ _ _ _) (lp_go2 h (fun zz : Int32 × (Nat → Int32) => ∀ (H : Heap) (locs : List Loc) (ls : Array Slot), va_P D cls9 (wd_Mo_spread cA a_r r_manner r_above r_below r_nodes r_arcs r_left r_isBest r_arePlateaus u_3 r_a r_b r_ties v1 r_plateaus r_ones r_others r_weights r_there u_4 u_5 u_6 r_order zz.2) H → va_D A (wd_Mo_spread cA a_r r_manner r_above r_below r_nodes r_arcs r_left r_isBest r_arePlateaus u_3 r_a r_b r_ties v1 r_plateaus r_ones r_others r_weights r_there u_4 u_5 u_6 r_order zz.2) → va_S A s.heap H locs → lv_has ls 3 [(2, .int zz.1), (0, .ref (a_r 0)), (1, .int v1)] → G H locs 0 0 ls 32 []) ?_ (fun zz : Int32 × (Nat → Int32) => ∀ (H : Heap) (locs : List Loc) (ls : Array Slot), va_P D cls9 (wd_Mo_spread cA a_r r_manner r_above r_below r_nodes r_arcs r_left r_isBest r_arePlateaus u_3 r_a r_b r_ties v1 r_plateaus r_ones r_others r_weights r_there u_4 u_5 u_6 r_order zz.2) H → va_D A (wd_Mo_spread cA a_r r_manner r_above r_below r_nodes r_arcs r_left r_isBest r_arePlateaus u_3 r_a r_b r_ties v1 r_plateaus r_ones r_others r_weights r_there u_4 u_5 u_6 r_order zz.2) → va_S A s.heap H locs → lv_has ls 3 [(2, .int zz.1), (0, .ref (a_r 0)), (1, .int v1)] → G H locs 0 0 ls 11 []) ?_ _ _ ls hP hD hS (lv_sub hl [0, 1, 2] rfl))
  · intro zz h H locs ls hP hD hS hl
    obtain ⟨x2_11e, r_label_11e⟩ := zz
    have hP : va_P D cls9 (wd_Mo_spread cA a_r r_manner r_above r_below r_nodes r_arcs r_left r_isBest r_arePlateaus u_3 r_a r_b r_ties v1 r_plateaus r_ones r_others r_weights r_there u_4 u_5 u_6 r_order r_label_11e) H := hP
    have hD : va_D A (wd_Mo_spread cA a_r r_manner r_above r_below r_nodes r_arcs r_left r_isBest r_arePlateaus u_3 r_a r_b r_ties v1 r_plateaus r_ones r_others r_weights r_there u_4 u_5 u_6 r_order r_label_11e) := hD
    have hl : lv_has ls 3 [(2, .int x2_11e), (0, .ref (a_r 0)), (1, .int v1)] := hl
    refine cast (hG _ _ _ _ _ _ _).symm ?_
    refine lv_iconst (v := 1) hx hb d_Mo_spread_32 (by decide) ?_
    refine lv_istore_n (lv' := [(2, .int (1 : Int32)), (0, .ref (a_r 0)), (1, .int v1)]) hx hb d_Mo_spread_33 rfl hl (by decide) rfl (fun ls hl => ?_)
    refine cast (hG _ _ _ _ _ _ _) (lp_go2 h (fun zz : Int32 × (Nat → Int32) × (Nat → Int32) × Int32 => ∀ (H : Heap) (locs : List Loc) (ls : Array Slot), va_P D cls9 (wd_Mo_spread cA a_r r_manner r_above r_below r_nodes r_arcs r_left r_isBest r_arePlateaus u_3 r_a r_b r_ties zz.2.2.2 r_plateaus r_ones r_others r_weights r_there u_4 u_5 u_6 zz.2.2.1 zz.2.1) H → va_D A (wd_Mo_spread cA a_r r_manner r_above r_below r_nodes r_arcs r_left r_isBest r_arePlateaus u_3 r_a r_b r_ties zz.2.2.2 r_plateaus r_ones r_others r_weights r_there u_4 u_5 u_6 zz.2.2.1 zz.2.1) → va_S A s.heap H locs → lv_has ls 3 [(2, .int zz.1), (0, .ref (a_r 0)), (1, .int v1)] → G H locs 0 0 ls 53 []) ?_ (fun zz : Int32 × (Nat → Int32) × (Nat → Int32) × Int32 => ∀ (H : Heap) (locs : List Loc) (ls : Array Slot), va_P D cls9 (wd_Mo_spread cA a_r r_manner r_above r_below r_nodes r_arcs r_left r_isBest r_arePlateaus u_3 r_a r_b r_ties zz.2.2.2 r_plateaus r_ones r_others r_weights r_there u_4 u_5 u_6 zz.2.2.1 zz.2.1) H → va_D A (wd_Mo_spread cA a_r r_manner r_above r_below r_nodes r_arcs r_left r_isBest r_arePlateaus u_3 r_a r_b r_ties zz.2.2.2 r_plateaus r_ones r_others r_weights r_there u_4 u_5 u_6 zz.2.2.1 zz.2.1) → va_S A s.heap H locs → lv_has ls 3 [(2, .int zz.1), (0, .ref (a_r 0)), (1, .int v1)] → G H locs 0 0 ls 34 []) ?_ _ _ ls hP hD hS (lv_sub hl [0, 1, 2] rfl))
    · intro zz h H locs ls hP hD hS hl
      obtain ⟨x2_34e, r_label_34e, r_order_34e, r_z_34e⟩ := zz
      have hP : va_P D cls9 (wd_Mo_spread cA a_r r_manner r_above r_below r_nodes r_arcs r_left r_isBest r_arePlateaus u_3 r_a r_b r_ties r_z_34e r_plateaus r_ones r_others r_weights r_there u_4 u_5 u_6 r_order_34e r_label_34e) H := hP
      have hD : va_D A (wd_Mo_spread cA a_r r_manner r_above r_below r_nodes r_arcs r_left r_isBest r_arePlateaus u_3 r_a r_b r_ties r_z_34e r_plateaus r_ones r_others r_weights r_there u_4 u_5 u_6 r_order_34e r_label_34e) := hD
      have hl : lv_has ls 3 [(2, .int x2_34e), (0, .ref (a_r 0)), (1, .int v1)] := hl
      refine cast (hG _ _ _ _ _ _ _).symm ?_
      refine lv_iload_n hx hb d_Mo_spread_53 rfl (lv_at hl 0 rfl) ?_
      exact W.iret (v := x2_34e) hx hb hr (fun t ht hW => ⟨⟨x2_34e, (u_3, r_z_34e, u_4, u_5, u_6, r_order_34e, r_label_34e), rfl, Option.some.inj h, by rw [ht]; exact hP, va_K.moved hW.alike hK, hD⟩, hS.F ht⟩) hS.2.2 d_Mo_spread_54
    · intro back exit zz hB_34 hE_34 h H locs ls hP hD hS hl
      obtain ⟨x2_34, r_label_34, r_order_34, r_z_34⟩ := zz
      have hP : va_P D cls9 (wd_Mo_spread cA a_r r_manner r_above r_below r_nodes r_arcs r_left r_isBest r_arePlateaus u_3 r_a r_b r_ties r_z_34 r_plateaus r_ones r_others r_weights r_there u_4 u_5 u_6 r_order_34 r_label_34) H := hP
      have hD : va_D A (wd_Mo_spread cA a_r r_manner r_above r_below r_nodes r_arcs r_left r_isBest r_arePlateaus u_3 r_a r_b r_ties r_z_34 r_plateaus r_ones r_others r_weights r_there u_4 u_5 u_6 r_order_34 r_label_34) := hD
      have hl : lv_has ls 3 [(2, .int x2_34), (0, .ref (a_r 0)), (1, .int v1)] := hl
      refine cast (hG _ _ _ _ _ _ _).symm ?_
      refine lv_aload_n hx hb d_Mo_spread_34 rfl (lv_at hl 1 rfl) ?_
      obtain ⟨o_15, hc_14, h⟩ := bd h
      have hPc := hP.sub (ws' := (wd_Mo_round cA a_r r_manner r_above r_below r_nodes r_arcs r_left r_isBest r_arePlateaus u_3 r_a r_b r_ties r_z_34 r_plateaus u_4 u_5 r_order_34 r_label_34)) [0, 5, 6, 8, 9] rfl
      have hDc := hD.sub (ws' := (wd_Mo_round cA a_r r_manner r_above r_below r_nodes r_arcs r_left r_isBest r_arePlateaus u_3 r_a r_b r_ties r_z_34 r_plateaus u_4 u_5 r_order_34 r_label_34)) [0, 5, 6, 8, 9] (by decide) rfl
      have hFc := va_free (wc := (wd_Mo_round cA a_r r_manner r_above r_below r_nodes r_arcs r_left r_isBest r_arePlateaus u_3 r_a r_b r_ties r_z_34 r_plateaus u_4 u_5 r_order_34 r_label_34)) hD hS hA [0, 5, 6, 8, 9] rfl
      refine va_calli (va_runV (C := R_Mo) (As := []) (rest := []) ⟨hx, hb, hml, hown, hal⟩ (c_Mo_round l D cA a_r H.size r_manner r_above r_below r_nodes r_arcs r_left r_isBest r_arePlateaus u_3 r_a r_b r_ties r_z_34 r_plateaus u_4 u_5 r_order_34 r_label_34 o_15 hc_14) (cwV 0 hal (goodV kw_905 kw_907 kw_p45 kw_9 kw_908) rfl rfl rfl (by decide +kernel) ⟨Nat.le_of_ble_eq_true rfl, Nat.le_of_ble_eq_true rfl⟩) ⟨fun a U g mk q => by obtain ⟨q0, q1, qP, qK, qD⟩ := q; exact ⟨q0, q1, qP, va_K.moved (u := U) (U := U.calling g mk a) (Vm.Alike.refl U.vm) qK, qD⟩, va_recv hK hP (ci := 8) (q0 := 0) rfl rfl, fun U hU hW => ⟨rfl, by rw [hU], by rw [hU]; exact hPc, va_K.moved hW.alike hK, hDc.weaken (fun _ _ _ _ => trivial)⟩⟩ rfl rfl hl.1 rfl (lv_room (Nat.le_of_ble_eq_true rfl)) d_Mo_spread_35 ⟨Nat.le_of_ble_eq_true rfl, Nat.le_of_ble_eq_true rfl⟩) hS (fun q _ h => hFc q h) hFc (fun r_10 u t H1 locs ht hvm hw hB hz1 hk1 hS => ?_)
      obtain ⟨u_11, u_12, u_13⟩ := u
      subst hw
      obtain ⟨hP1, hK1, hD1⟩ := hB
      rw [ht] at hP1
      have hP1 : va_P D cls9 (wd_Mo_round cA a_r r_manner r_above r_below r_nodes r_arcs r_left r_isBest r_arePlateaus u_3 r_a r_b r_ties u_11 r_plateaus u_4 u_5 u_12 u_13) H1 := hP1
      obtain ⟨hP, hD⟩ := va_join (wr := ([1, 2, 3, 4, 7] : List Nat).filterMap (fun i => (wd_Mo_spread cA a_r r_manner r_above r_below r_nodes r_arcs r_left r_isBest r_arePlateaus u_3 r_a r_b r_ties r_z_34 r_plateaus r_ones r_others r_weights r_there u_4 u_5 u_6 r_order_34 r_label_34)[i]?)) (w1 := (wd_Mo_round cA a_r r_manner r_above r_below r_nodes r_arcs r_left r_isBest r_arePlateaus u_3 r_a r_b r_ties u_11 r_plateaus u_4 u_5 u_12 u_13)) hP hD [0, 5, 6, 8, 9] [1, 2, 3, 4, 7] rfl rfl (by decide) (by decide) hk1 hFc hP1 hD1
      generalize H1 = H at hP hS ⊢
      have hP : va_P D cls9 (wd_Mo_spread cA a_r r_manner r_above r_below r_nodes r_arcs r_left r_isBest r_arePlateaus u_3 r_a r_b r_ties u_11 r_plateaus r_ones r_others r_weights r_there u_4 u_5 u_6 u_12 u_13) H := hP.sub [5, 0, 1, 2, 3, 6, 7, 4, 8, 9] rfl
      have hD : va_D A (wd_Mo_spread cA a_r r_manner r_above r_below r_nodes r_arcs r_left r_isBest r_arePlateaus u_3 r_a r_b r_ties u_11 r_plateaus r_ones r_others r_weights r_there u_4 u_5 u_6 u_12 u_13) := hD.sub [5, 0, 1, 2, 3, 6, 7, 4, 8, 9] (by decide) rfl
      refine lv_if_eq (tgt := 53) hx hb d_Mo_spread_38 (by decide) (fun c_16 => ?_) (fun c_16 => ?_)
      · have h := ifp (c_16) h
        exact cast (hG _ _ _ _ _ _ _) (hE_34 (x2_34, u_13, u_12, u_11) h _ _ _ hP hD hS (lv_sub hl [0, 1, 2] rfl))
      · have h := ifn (c_16) h
        refine lv_iload_n hx hb d_Mo_spread_41 rfl (lv_at hl 0 rfl) ?_
        refine lv_bipush (v := 20) hx hb d_Mo_spread_42 (by decide) ?_
        refine lv_icmp_ge (tgt := 53) hx hb d_Mo_spread_44 (by decide) (fun c_17 => ?_) (fun c_17 => ?_)
        · have h := ifp (c_17) h
          exact cast (hG _ _ _ _ _ _ _) (hE_34 (x2_34, u_13, u_12, u_11) h _ _ _ hP hD hS (lv_sub hl [0, 1, 2] rfl))
        · have h := ifn (c_17) h
          refine lv_iinc (v := (x2_34 + 1)) (lv' := [(2, .int (x2_34 + 1)), (0, .ref (a_r 0)), (1, .int v1)]) hx hb d_Mo_spread_47 hl (k := 0) rfl rfl (by decide) rfl (fun ls hl => ?_)
          refine lv_goto (tgt := 34) hx hb d_Mo_spread_50 (by decide) ?_
          exact cast (hG _ _ _ _ _ _ _) (hB_34 ((x2_34 + 1), u_13, u_12, u_11) h _ _ _ hP hD hS (lv_sub hl [0, 1, 2] rfl))
  · intro back exit zz hB_11 hE_11 h H locs ls hP hD hS hl
    obtain ⟨x2_11, r_label_11⟩ := zz
    have hP : va_P D cls9 (wd_Mo_spread cA a_r r_manner r_above r_below r_nodes r_arcs r_left r_isBest r_arePlateaus u_3 r_a r_b r_ties v1 r_plateaus r_ones r_others r_weights r_there u_4 u_5 u_6 r_order r_label_11) H := hP
    have hD : va_D A (wd_Mo_spread cA a_r r_manner r_above r_below r_nodes r_arcs r_left r_isBest r_arePlateaus u_3 r_a r_b r_ties v1 r_plateaus r_ones r_others r_weights r_there u_4 u_5 u_6 r_order r_label_11) := hD
    have hl : lv_has ls 3 [(2, .int x2_11), (0, .ref (a_r 0)), (1, .int v1)] := hl
    refine cast (hG _ _ _ _ _ _ _).symm ?_
    refine lv_iload_n hx hb d_Mo_spread_11 rfl (lv_at hl 0 rfl) ?_
    refine lv_aload_n hx hb d_Mo_spread_12 rfl (lv_at hl 1 rfl) ?_
    refine va_get (ci := 8) (v := .int r_nodes) (C := R_Mo) (T := F_Mo) (N := 36) hx hb hal in_Mo hown hK hP 0 rfl rfl 3 (by decide) (hal _ kw_640) (fun _ h9 => h9) rfl d_Mo_spread_13 ?_
    refine lv_icmp_ge (tgt := 32) hx hb d_Mo_spread_16 (by decide) (fun c_18 => ?_) (fun c_18 => ?_)
    · have h := ifp (c_18) h
      exact cast (hG _ _ _ _ _ _ _) (hE_11 (x2_11, r_label_11) h _ _ _ hP hD hS (lv_sub hl [0, 1, 2] rfl))
    · have h := ifn (c_18) h
      refine lv_aload_n hx hb d_Mo_spread_19 rfl (lv_at hl 1 rfl) ?_
      refine va_get (ci := 8) (v := .ref (a_r 18)) (C := R_Mo) (T := F_Mo) (N := 36) hx hb hal in_Mo hown hK hP 0 rfl rfl 29 (by decide) (hal _ kw_666) (fun _ h9 => h9) rfl d_Mo_spread_20 ?_
      refine lv_iload_n hx hb d_Mo_spread_23 rfl (lv_at hl 0 rfl) ?_
      refine lv_iload_n hx hb d_Mo_spread_24 rfl (lv_at hl 0 rfl) ?_
      obtain ⟨g_19, h⟩ := gd h
      refine va_iast hx hb hK hP hD hS 9 0 rfl rfl (inb_in g_19) d_Mo_spread_25 (fun H locs hP hD hS => ?_)
      have hP : va_P D cls9 (wd_Mo_spread cA a_r r_manner r_above r_below r_nodes r_arcs r_left r_isBest r_arePlateaus u_3 r_a r_b r_ties v1 r_plateaus r_ones r_others r_weights r_there u_4 u_5 u_6 r_order (upd r_label_11 x2_11.toNatClampNeg x2_11)) H := hP
      have hD : va_D A (wd_Mo_spread cA a_r r_manner r_above r_below r_nodes r_arcs r_left r_isBest r_arePlateaus u_3 r_a r_b r_ties v1 r_plateaus r_ones r_others r_weights r_there u_4 u_5 u_6 r_order (upd r_label_11 x2_11.toNatClampNeg x2_11)) := hD
      refine lv_iinc (v := (x2_11 + 1)) (lv' := [(2, .int (x2_11 + 1)), (0, .ref (a_r 0)), (1, .int v1)]) hx hb d_Mo_spread_26 hl (k := 0) rfl rfl (by decide) rfl (fun ls hl => ?_)
      refine lv_goto (tgt := 11) hx hb d_Mo_spread_29 (by decide) ?_
      exact cast (hG _ _ _ _ _ _ _) (hB_11 ((x2_11 + 1), (upd r_label_11 x2_11.toNatClampNeg x2_11)) h _ _ _ hP hD hS (lv_sub hl [0, 1, 2] rfl))
def wd_Mo_labels (cA : Nat → ClassId) (a_r : Nat → Nat) (r_manner : Int32) (r_above : Int32) (r_below : Int32) (r_nodes : Int32) (r_arcs : Int32) (r_left : Int32) (r_isBest : Int32) (r_arePlateaus : Int32) (r_all : Int64) (r_a : Int64) (r_b : Int64) (r_ties : Int32) (r_z : Int32) (r_plateaus : Int32) (r_ones : Nat → Int32) (r_others : Nat → Int32) (r_weights : Nat → Int32) (r_there : Nat → Int32) (r_hand : Nat → Int32) (r_between : Nat → Int32) (r_joins : Nat → Int32) (r_has : Nat → Int32) (r_names : Nat → Int32) (r_order : Nat → Int32) (r_label : Nat → Int32) : va_W := [(a_r 0, .inr (8, [.int r_manner, .int r_above, .int r_below, .int r_nodes, .int r_arcs, .int r_left, .ref (a_r 1), .ref (a_r 2), .ref (a_r 3), .ref (a_r 4), .ref (a_r 5), .int r_isBest, .int r_arePlateaus, .ref (a_r 6), .ref (a_r 7), .ref (a_r 8), .long r_all, .ref (a_r 9), .ref (a_r 10), .long r_a, .long r_b, .ref (a_r 11), .ref (a_r 12), .ref (a_r 13), .ref (a_r 14), .ref (a_r 15), .int r_ties, .ref (a_r 16), .ref (a_r 17), .ref (a_r 18), .int r_z, .int r_plateaus, .ref (a_r 19), .ref (a_r 20), .ref (a_r 21), .ref (a_r 22)])), (a_r 1, .inl (cA 0, 36, .inl r_ones)), (a_r 2, .inl (cA 0, 36, .inl r_others)), (a_r 3, .inl (cA 0, 36, .inl r_weights)), (a_r 4, .inl (cA 2, 36, .inl r_there)), (a_r 5, .inl (cA 0, 9, .inl r_hand)), (a_r 6, .inl (cA 0, 81, .inl r_between)), (a_r 7, .inl (cA 2, 81, .inl r_joins)), (a_r 8, .inl (cA 0, 9, .inl r_has)), (a_r 11, .inl (cA 0, 9, .inl r_names)), (a_r 17, .inl (cA 0, 9, .inl r_order)), (a_r 18, .inl (cA 0, 9, .inl r_label))]
noncomputable def m_Mo_labels (r_manner : Int32) (r_nodes : Int32) (r_arcs : Int32) (r_ones : Nat → Int32) (r_others : Nat → Int32) (r_weights : Nat → Int32) (r_there : Nat → Int32) (r_hand : Nat → Int32) (r_between : Nat → Int32) (r_joins : Nat → Int32) (r_has : Nat → Int32) (r_names : Nat → Int32) (r_order : Nat → Int32) (r_label : Nat → Int32) (v1 : Int32) : Option (Int32 × Int64 × Int32 × (Nat → Int32) × (Nat → Int32) × (Nat → Int32) × (Nat → Int32) × (Nat → Int32) × (Nat → Int32) × (Nat → Int32)) :=
  ((m_Mo_spread r_manner r_nodes r_arcs r_ones r_others r_weights r_there r_between r_joins r_has r_order r_label v1).bind (fun r2 : Int32 × Int64 × Int32 × (Nat → Int32) × (Nat → Int32) × (Nat → Int32) × (Nat → Int32) × (Nat → Int32) => ((m_Mo_copy r_nodes r2.2.2.2.2.2.2.2 r_hand).bind (fun r15 : (Nat → Int32) => ((m_Mo_number r_nodes r_names r15).bind (fun r23 : Int32 × (Nat → Int32) × (Nat → Int32) => some (r2.1, r2.2.1, r2.2.2.1, r23.2.2, r2.2.2.2.1, r2.2.2.2.2.1, r2.2.2.2.2.2.1, r23.2.1, r2.2.2.2.2.2.2.1, r2.2.2.2.2.2.2.2)))))))
set_option maxHeartbeats 4000000 in
set_option maxRecDepth 100000 in
theorem c_Mo_labels (l : Launch) (D : va_G) (cA : Nat → ClassId) (a_r : Nat → Nat) (sz : Nat) (r_manner : Int32) (r_above : Int32) (r_below : Int32) (r_nodes : Int32) (r_arcs : Int32) (r_left : Int32) (r_isBest : Int32) (r_arePlateaus : Int32) (r_all : Int64) (r_a : Int64) (r_b : Int64) (r_ties : Int32) (r_z : Int32) (r_plateaus : Int32) (r_ones : Nat → Int32) (r_others : Nat → Int32) (r_weights : Nat → Int32) (r_there : Nat → Int32) (r_hand : Nat → Int32) (r_between : Nat → Int32) (r_joins : Nat → Int32) (r_has : Nat → Int32) (r_names : Nat → Int32) (r_order : Nat → Int32) (r_label : Nat → Int32) (v1 : Int32) (out : Int32 × Int64 × Int32 × (Nat → Int32) × (Nat → Int32) × (Nat → Int32) × (Nat → Int32) × (Nat → Int32) × (Nat → Int32) × (Nat → Int32)) (h : m_Mo_labels r_manner r_nodes r_arcs r_ones r_others r_weights r_there r_hand r_between r_joins r_has r_names r_order r_label v1 = some out) : Met l y_Mo_labels w_Mo_labels ({ frames := 3, cells := 0, slots := 0, locals := 74 }) (va_Pc [.ref (a_r 0), .int v1] (fun U => U.heap.size = sz ∧ va_P D cls9 (wd_Mo_labels cA a_r r_manner r_above r_below r_nodes r_arcs r_left r_isBest r_arePlateaus r_all r_a r_b r_ties r_z r_plateaus r_ones r_others r_weights r_there r_hand r_between r_joins r_has r_names r_order r_label) U.heap ∧ va_K D cls9 (tys5 cA) U ∧ va_D (fun _ => True) (wd_Mo_labels cA a_r r_manner r_above r_below r_nodes r_arcs r_left r_isBest r_arePlateaus r_all r_a r_b r_ties r_z r_plateaus r_ones r_others r_weights r_there r_hand r_between r_joins r_has r_names r_order r_label))) (va_Qi (fun (rr : Int32) (uu : Int64 × Int32 × (Nat → Int32) × (Nat → Int32) × (Nat → Int32) × (Nat → Int32) × (Nat → Int32) × (Nat → Int32) × (Nat → Int32)) => (rr, uu) = out) (fun (uu : Int64 × Int32 × (Nat → Int32) × (Nat → Int32) × (Nat → Int32) × (Nat → Int32) × (Nat → Int32) × (Nat → Int32) × (Nat → Int32)) (t : State) => va_P D cls9 (wd_Mo_labels cA a_r r_manner r_above r_below r_nodes r_arcs r_left r_isBest r_arePlateaus uu.1 r_a r_b r_ties uu.2.1 r_plateaus r_ones r_others r_weights r_there uu.2.2.1 uu.2.2.2.1 uu.2.2.2.2.1 uu.2.2.2.2.2.1 uu.2.2.2.2.2.2.1 uu.2.2.2.2.2.2.2.1 uu.2.2.2.2.2.2.2.2) t.heap ∧ va_K D cls9 (tys5 cA) t ∧ va_D (va_A (wd_Mo_labels cA a_r r_manner r_above r_below r_nodes r_arcs r_left r_isBest r_arePlateaus r_all r_a r_b r_ties r_z r_plateaus r_ones r_others r_weights r_there r_hand r_between r_joins r_has r_names r_order r_label) sz) (wd_Mo_labels cA a_r r_manner r_above r_below r_nodes r_arcs r_left r_isBest r_arePlateaus uu.1 r_a r_b r_ties uu.2.1 r_plateaus r_ones r_others r_weights r_there uu.2.2.1 uu.2.2.2.1 uu.2.2.2.2.1 uu.2.2.2.2.2.1 uu.2.2.2.2.2.2.1 uu.2.2.2.2.2.2.2.1 uu.2.2.2.2.2.2.2.2)) (va_A (wd_Mo_labels cA a_r r_manner r_above r_below r_nodes r_arcs r_left r_isBest r_arePlateaus r_all r_a r_b r_ties r_z r_plateaus r_ones r_others r_weights r_there r_hand r_between r_joins r_has r_names r_order r_label) sz)) 0 0 (va_A (wd_Mo_labels cA a_r r_manner r_above r_below r_nodes r_arcs r_left r_isBest r_arePlateaus r_all r_a r_b r_ties r_z r_plateaus r_ones r_others r_weights r_there r_hand r_between r_joins r_has r_names r_order r_label) sz) := by
  refine Met.ofW (cc := b_Mo_labels) (maxL := 4) (ret := (Option.some Jvm.ClassFile.FieldType.int)) (by decide) rfl ?_
  intro p e s m args below meth c s₁ B hml hv
  obtain ⟨rfl, hsz, hP, hK, hD0⟩ := hv
  have hx := B.exec
  have hb := B.bytes
  have hr := B.returns
  have hts := atoms_spec (ws := w_Mo_labels) B.pre
  have hal : ∀ w ∈ ALLW, w.before _ s = true := fun w hw => hts w (List.mem_cons_of_mem _ hw)
  have hown : s.vm.findClass R_Mo = some m.cls := findClass_of_methodNamed B.named
  have hlocks := B.notSynchronized
  subst hsz
  have hD := hD0.self (sz := s.heap.size)
  generalize hAe : va_A (wd_Mo_labels cA a_r r_manner r_above r_below r_nodes r_arcs r_left r_isBest r_arePlateaus r_all r_a r_b r_ties r_z r_plateaus r_ones r_others r_weights r_there r_hand r_between r_joins r_has r_names r_order r_label) s.heap.size = A at hD ⊢
  have hA : ∀ q : Nat, s.heap.size ≤ q → A q := fun q h => by rw [← hAe]; exact Or.inr h
  have hS : va_S A s.heap s.heap [] := va_S.rf
  have hl := lv_entry ([.ref (a_r 0), .int v1]) (n := 4) (Nat.le_of_ble_eq_true rfl)
  rw [lg_entry_eq]
  generalize (lg_sl ([.ref (a_r 0), .int v1]) ++ List.replicate (4 - (lg_sl ([.ref (a_r 0), .int v1])).length) Slot.unset).toArray = ls at hl ⊢
  have hl : lv_has ls 4 [(0, .ref (a_r 0)), (1, .int v1)] := hl
  refine wg (fun G hG => ?_)
  refine cast (hG _ _ _ _ _ _ _).symm ?_
  obtain ⟨H, locs, hHl, hS⟩ : ∃ (H : Heap) (locs : List Loc), (H = s.heap ∧ locs = []) ∧ va_S A s.heap H locs := ⟨s.heap, [], ⟨rfl, rfl⟩, hS⟩
  have hP : va_P D cls9 (wd_Mo_labels cA a_r r_manner r_above r_below r_nodes r_arcs r_left r_isBest r_arePlateaus r_all r_a r_b r_ties r_z r_plateaus r_ones r_others r_weights r_there r_hand r_between r_joins r_has r_names r_order r_label) H := by rw [hHl.1]; exact hP
  rw [← hHl.1, ← hHl.2]
  clear hHl
  refine lv_aload_n hx hb d_Mo_labels_0 rfl (lv_at hl 0 rfl) ?_
  refine lv_iload_n hx hb d_Mo_labels_1 rfl (lv_at hl 1 rfl) ?_
  obtain ⟨o_11, hc_10, h⟩ := bd h
  have hPc := hP.sub (ws' := (wd_Mo_spread cA a_r r_manner r_above r_below r_nodes r_arcs r_left r_isBest r_arePlateaus r_all r_a r_b r_ties r_z r_plateaus r_ones r_others r_weights r_there r_between r_joins r_has r_order r_label)) [0, 1, 2, 3, 4, 6, 7, 8, 10, 11] rfl
  have hDc := hD.sub (ws' := (wd_Mo_spread cA a_r r_manner r_above r_below r_nodes r_arcs r_left r_isBest r_arePlateaus r_all r_a r_b r_ties r_z r_plateaus r_ones r_others r_weights r_there r_between r_joins r_has r_order r_label)) [0, 1, 2, 3, 4, 6, 7, 8, 10, 11] (by decide) rfl
  have hFc := va_free (wc := (wd_Mo_spread cA a_r r_manner r_above r_below r_nodes r_arcs r_left r_isBest r_arePlateaus r_all r_a r_b r_ties r_z r_plateaus r_ones r_others r_weights r_there r_between r_joins r_has r_order r_label)) hD hS hA [0, 1, 2, 3, 4, 6, 7, 8, 10, 11] rfl
  refine va_calli (va_runV (C := R_Mo) (As := [.int v1]) (rest := []) ⟨hx, hb, hml, hown, hal⟩ (c_Mo_spread l D cA a_r H.size r_manner r_above r_below r_nodes r_arcs r_left r_isBest r_arePlateaus r_all r_a r_b r_ties r_z r_plateaus r_ones r_others r_weights r_there r_between r_joins r_has r_order r_label v1 o_11 hc_10) (cwV 1 hal (goodV kw_901 kw_903 kw_p44 kw_9 kw_904) rfl rfl rfl (by decide +kernel) ⟨Nat.le_of_ble_eq_true rfl, Nat.le_of_ble_eq_true rfl⟩) ⟨fun a U g mk q => by obtain ⟨q0, q1, qP, qK, qD⟩ := q; exact ⟨q0, q1, qP, va_K.moved (u := U) (U := U.calling g mk a) (Vm.Alike.refl U.vm) qK, qD⟩, va_recv hK hP (ci := 8) (q0 := 0) rfl rfl, fun U hU hW => ⟨rfl, by rw [hU], by rw [hU]; exact hPc, va_K.moved hW.alike hK, hDc.weaken (fun _ _ _ _ => trivial)⟩⟩ rfl rfl hl.1 rfl (lv_room (Nat.le_of_ble_eq_true rfl)) d_Mo_labels_2 ⟨Nat.le_of_ble_eq_true rfl, Nat.le_of_ble_eq_true rfl⟩) hS (fun q _ h => hFc q h) hFc (fun r_2 u t H1 locs ht hvm hw hB hz1 hk1 hS => ?_)
  obtain ⟨u_3, u_4, u_5, u_6, u_7, u_8, u_9⟩ := u
  subst hw
  obtain ⟨hP1, hK1, hD1⟩ := hB
  rw [ht] at hP1
  have hP1 : va_P D cls9 (wd_Mo_spread cA a_r r_manner r_above r_below r_nodes r_arcs r_left r_isBest r_arePlateaus u_3 r_a r_b r_ties u_4 r_plateaus r_ones r_others r_weights r_there u_5 u_6 u_7 u_8 u_9) H1 := hP1
  obtain ⟨hP, hD⟩ := va_join (wr := ([5, 9] : List Nat).filterMap (fun i => (wd_Mo_labels cA a_r r_manner r_above r_below r_nodes r_arcs r_left r_isBest r_arePlateaus r_all r_a r_b r_ties r_z r_plateaus r_ones r_others r_weights r_there r_hand r_between r_joins r_has r_names r_order r_label)[i]?)) (w1 := (wd_Mo_spread cA a_r r_manner r_above r_below r_nodes r_arcs r_left r_isBest r_arePlateaus u_3 r_a r_b r_ties u_4 r_plateaus r_ones r_others r_weights r_there u_5 u_6 u_7 u_8 u_9)) hP hD [0, 1, 2, 3, 4, 6, 7, 8, 10, 11] [5, 9] rfl rfl (by decide) (by decide) hk1 hFc hP1 hD1
  generalize H1 = H at hP hS ⊢
  have hP : va_P D cls9 (wd_Mo_labels cA a_r r_manner r_above r_below r_nodes r_arcs r_left r_isBest r_arePlateaus u_3 r_a r_b r_ties u_4 r_plateaus r_ones r_others r_weights r_there r_hand u_5 u_6 u_7 r_names u_8 u_9) H := hP.sub [2, 3, 4, 5, 6, 0, 7, 8, 9, 1, 10, 11] rfl
  have hD : va_D A (wd_Mo_labels cA a_r r_manner r_above r_below r_nodes r_arcs r_left r_isBest r_arePlateaus u_3 r_a r_b r_ties u_4 r_plateaus r_ones r_others r_weights r_there r_hand u_5 u_6 u_7 r_names u_8 u_9) := hD.sub [2, 3, 4, 5, 6, 0, 7, 8, 9, 1, 10, 11] (by decide) rfl
  refine lv_istore_n (lv' := [(2, .int r_2), (0, .ref (a_r 0)), (1, .int v1)]) hx hb d_Mo_labels_5 rfl hl (by decide) rfl (fun ls hl => ?_)
  refine lv_aload_n hx hb d_Mo_labels_6 rfl (lv_at hl 1 rfl) ?_
  refine lv_aload_n hx hb d_Mo_labels_7 rfl (lv_at hl 1 rfl) ?_
  refine va_get (ci := 8) (v := .ref (a_r 18)) (C := R_Mo) (T := F_Mo) (N := 36) hx hb hal in_Mo hown hK hP 0 rfl rfl 29 (by decide) (hal _ kw_666) (fun _ h9 => h9) rfl d_Mo_labels_8 ?_
  refine lv_aload_n hx hb d_Mo_labels_11 rfl (lv_at hl 1 rfl) ?_
  refine va_get (ci := 8) (v := .ref (a_r 5)) (C := R_Mo) (T := F_Mo) (N := 36) hx hb hal in_Mo hown hK hP 0 rfl rfl 10 (by decide) (hal _ kw_647) (fun _ h9 => h9) rfl d_Mo_labels_12 ?_
  obtain ⟨o_16, hc_15, h⟩ := bd h
  have hPc := hP.sub (ws' := (wd_Mo_copy cA a_r (fun _ => a_r 18) (fun _ => a_r 5) r_manner r_above r_below r_nodes r_arcs r_left r_isBest r_arePlateaus u_3 r_a r_b r_ties u_4 r_plateaus u_9 r_hand)) [0, 11, 5] rfl
  have hDc := hD.sub (ws' := (wd_Mo_copy cA a_r (fun _ => a_r 18) (fun _ => a_r 5) r_manner r_above r_below r_nodes r_arcs r_left r_isBest r_arePlateaus u_3 r_a r_b r_ties u_4 r_plateaus u_9 r_hand)) [0, 11, 5] (by decide) rfl
  have hFc := va_free (wc := (wd_Mo_copy cA a_r (fun _ => a_r 18) (fun _ => a_r 5) r_manner r_above r_below r_nodes r_arcs r_left r_isBest r_arePlateaus u_3 r_a r_b r_ties u_4 r_plateaus u_9 r_hand)) hD hS hA [0, 11, 5] rfl
  refine va_callv (va_runV (C := R_Mo) (As := [.ref (a_r 18), .ref (a_r 5)]) (rest := []) ⟨hx, hb, hml, hown, hal⟩ (c_Mo_copy l D cA a_r (fun _ => a_r 18) (fun _ => a_r 5) H.size r_manner r_above r_below r_nodes r_arcs r_left r_isBest r_arePlateaus u_3 r_a r_b r_ties u_4 r_plateaus u_9 r_hand o_16 hc_15) (cwV 2 hal (goodV kw_833 kw_835 kw_p35 kw_9 kw_836) rfl rfl rfl (by decide +kernel) ⟨Nat.le_of_ble_eq_true rfl, Nat.le_of_ble_eq_true rfl⟩) ⟨fun a U g mk q => by obtain ⟨q0, q1, qP, qK, qD⟩ := q; exact ⟨q0, q1, qP, va_K.moved (u := U) (U := U.calling g mk a) (Vm.Alike.refl U.vm) qK, qD⟩, va_recv hK hP (ci := 8) (q0 := 0) rfl rfl, fun U hU hW => ⟨rfl, by rw [hU], by rw [hU]; exact hPc, va_K.moved hW.alike hK, hDc.weaken (fun _ _ _ _ => trivial)⟩⟩ rfl rfl hl.1 rfl (lv_room (Nat.le_of_ble_eq_true rfl)) d_Mo_labels_15 ⟨Nat.le_of_ble_eq_true rfl, Nat.le_of_ble_eq_true rfl⟩) hS (fun q _ h => hFc q h) hFc (fun u t H1 locs ht hvm hw hB hz1 hk1 hS => ?_)
  obtain ⟨u_14, rfl⟩ : ∃ q, q = u := ⟨_, rfl⟩
  subst hw
  obtain ⟨hP1, hK1, hD1⟩ := hB
  rw [ht] at hP1
  have hP1 : va_P D cls9 (wd_Mo_copy cA a_r (fun _ => a_r 18) (fun _ => a_r 5) r_manner r_above r_below r_nodes r_arcs r_left r_isBest r_arePlateaus u_3 r_a r_b r_ties u_4 r_plateaus u_9 u_14) H1 := hP1
  obtain ⟨hP, hD⟩ := va_join (wr := ([1, 2, 3, 4, 6, 7, 8, 9, 10] : List Nat).filterMap (fun i => (wd_Mo_labels cA a_r r_manner r_above r_below r_nodes r_arcs r_left r_isBest r_arePlateaus u_3 r_a r_b r_ties u_4 r_plateaus r_ones r_others r_weights r_there r_hand u_5 u_6 u_7 r_names u_8 u_9)[i]?)) (w1 := (wd_Mo_copy cA a_r (fun _ => a_r 18) (fun _ => a_r 5) r_manner r_above r_below r_nodes r_arcs r_left r_isBest r_arePlateaus u_3 r_a r_b r_ties u_4 r_plateaus u_9 u_14)) hP hD [0, 11, 5] [1, 2, 3, 4, 6, 7, 8, 9, 10] rfl rfl (by decide) (by decide) hk1 hFc hP1 hD1
  generalize H1 = H at hP hS ⊢
  have hP : va_P D cls9 (wd_Mo_labels cA a_r r_manner r_above r_below r_nodes r_arcs r_left r_isBest r_arePlateaus u_3 r_a r_b r_ties u_4 r_plateaus r_ones r_others r_weights r_there u_14 u_5 u_6 u_7 r_names u_8 u_9) H := hP.sub [9, 0, 1, 2, 3, 11, 4, 5, 6, 7, 8, 10] rfl
  have hD : va_D A (wd_Mo_labels cA a_r r_manner r_above r_below r_nodes r_arcs r_left r_isBest r_arePlateaus u_3 r_a r_b r_ties u_4 r_plateaus r_ones r_others r_weights r_there u_14 u_5 u_6 u_7 r_names u_8 u_9) := hD.sub [9, 0, 1, 2, 3, 11, 4, 5, 6, 7, 8, 10] (by decide) rfl
  refine lv_aload_n hx hb d_Mo_labels_18 rfl (lv_at hl 1 rfl) ?_
  refine lv_aload_n hx hb d_Mo_labels_19 rfl (lv_at hl 1 rfl) ?_
  refine va_get (ci := 8) (v := .ref (a_r 5)) (C := R_Mo) (T := F_Mo) (N := 36) hx hb hal in_Mo hown hK hP 0 rfl rfl 10 (by decide) (hal _ kw_647) (fun _ h9 => h9) rfl d_Mo_labels_20 ?_
  obtain ⟨o_22, hc_21, h⟩ := bd h
  have hPc := hP.sub (ws' := (wd_Mo_number cA a_r (fun _ => a_r 5) r_manner r_above r_below r_nodes r_arcs r_left r_isBest r_arePlateaus u_3 r_a r_b r_ties u_4 r_plateaus r_names u_14)) [0, 9, 5] rfl
  have hDc := hD.sub (ws' := (wd_Mo_number cA a_r (fun _ => a_r 5) r_manner r_above r_below r_nodes r_arcs r_left r_isBest r_arePlateaus u_3 r_a r_b r_ties u_4 r_plateaus r_names u_14)) [0, 9, 5] (by decide) rfl
  have hFc := va_free (wc := (wd_Mo_number cA a_r (fun _ => a_r 5) r_manner r_above r_below r_nodes r_arcs r_left r_isBest r_arePlateaus u_3 r_a r_b r_ties u_4 r_plateaus r_names u_14)) hD hS hA [0, 9, 5] rfl
  refine va_calli (va_runV (C := R_Mo) (As := [.ref (a_r 5)]) (rest := []) ⟨hx, hb, hml, hown, hal⟩ (c_Mo_number l D cA a_r (fun _ => a_r 5) H.size r_manner r_above r_below r_nodes r_arcs r_left r_isBest r_arePlateaus u_3 r_a r_b r_ties u_4 r_plateaus r_names u_14 o_22 hc_21) (cwV 1 hal (goodV kw_791 kw_793 kw_p29 kw_9 kw_794) rfl rfl rfl (by decide +kernel) ⟨Nat.le_of_ble_eq_true rfl, Nat.le_of_ble_eq_true rfl⟩) ⟨fun a U g mk q => by obtain ⟨q0, q1, qP, qK, qD⟩ := q; exact ⟨q0, q1, qP, va_K.moved (u := U) (U := U.calling g mk a) (Vm.Alike.refl U.vm) qK, qD⟩, va_recv hK hP (ci := 8) (q0 := 0) rfl rfl, fun U hU hW => ⟨rfl, by rw [hU], by rw [hU]; exact hPc, va_K.moved hW.alike hK, hDc.weaken (fun _ _ _ _ => trivial)⟩⟩ rfl rfl hl.1 rfl (lv_room (Nat.le_of_ble_eq_true rfl)) d_Mo_labels_23 ⟨Nat.le_of_ble_eq_true rfl, Nat.le_of_ble_eq_true rfl⟩) hS (fun q _ h => hFc q h) hFc (fun r_18 u t H1 locs ht hvm hw hB hz1 hk1 hS => ?_)
  obtain ⟨u_19, u_20⟩ := u
  subst hw
  obtain ⟨hP1, hK1, hD1⟩ := hB
  rw [ht] at hP1
  have hP1 : va_P D cls9 (wd_Mo_number cA a_r (fun _ => a_r 5) r_manner r_above r_below r_nodes r_arcs r_left r_isBest r_arePlateaus u_3 r_a r_b r_ties u_4 r_plateaus u_19 u_20) H1 := hP1
  obtain ⟨hP, hD⟩ := va_join (wr := ([1, 2, 3, 4, 6, 7, 8, 10, 11] : List Nat).filterMap (fun i => (wd_Mo_labels cA a_r r_manner r_above r_below r_nodes r_arcs r_left r_isBest r_arePlateaus u_3 r_a r_b r_ties u_4 r_plateaus r_ones r_others r_weights r_there u_14 u_5 u_6 u_7 r_names u_8 u_9)[i]?)) (w1 := (wd_Mo_number cA a_r (fun _ => a_r 5) r_manner r_above r_below r_nodes r_arcs r_left r_isBest r_arePlateaus u_3 r_a r_b r_ties u_4 r_plateaus u_19 u_20)) hP hD [0, 9, 5] [1, 2, 3, 4, 6, 7, 8, 10, 11] rfl rfl (by decide) (by decide) hk1 hFc hP1 hD1
  generalize H1 = H at hP hS ⊢
  have hP : va_P D cls9 (wd_Mo_labels cA a_r r_manner r_above r_below r_nodes r_arcs r_left r_isBest r_arePlateaus u_3 r_a r_b r_ties u_4 r_plateaus r_ones r_others r_weights r_there u_20 u_5 u_6 u_7 u_19 u_8 u_9) H := hP.sub [9, 0, 1, 2, 3, 11, 4, 5, 6, 10, 7, 8] rfl
  have hD : va_D A (wd_Mo_labels cA a_r r_manner r_above r_below r_nodes r_arcs r_left r_isBest r_arePlateaus u_3 r_a r_b r_ties u_4 r_plateaus r_ones r_others r_weights r_there u_20 u_5 u_6 u_7 u_19 u_8 u_9) := hD.sub [9, 0, 1, 2, 3, 11, 4, 5, 6, 10, 7, 8] (by decide) rfl
  refine lv_istore_n (lv' := [(3, .int r_18), (2, .int r_2), (0, .ref (a_r 0)), (1, .int v1)]) hx hb d_Mo_labels_26 rfl hl (by decide) rfl (fun ls hl => ?_)
  refine lv_iload_n hx hb d_Mo_labels_27 rfl (lv_at hl 1 rfl) ?_
  exact W.iret (v := r_2) hx hb hr (fun t ht hW => ⟨⟨r_2, (u_3, u_4, u_20, u_5, u_6, u_7, u_19, u_8, u_9), rfl, Option.some.inj h, by rw [ht]; exact hP, va_K.moved hW.alike hK, hD⟩, hS.F ht⟩) hS.2.2 d_Mo_labels_28
def wd_Mo_together (cA : Nat → ClassId) (a_r : Nat → Nat) (r_manner : Int32) (r_above : Int32) (r_below : Int32) (r_nodes : Int32) (r_arcs : Int32) (r_left : Int32) (r_isBest : Int32) (r_arePlateaus : Int32) (r_all : Int64) (r_a : Int64) (r_b : Int64) (r_ties : Int32) (r_z : Int32) (r_plateaus : Int32) (r_ones : Nat → Int32) (r_others : Nat → Int32) (r_weights : Nat → Int32) (r_there : Nat → Int32) (r_between : Nat → Int32) (r_joins : Nat → Int32) (r_has : Nat → Int32) (r_order : Nat → Int32) (r_label : Nat → Int32) : va_W := [(a_r 0, .inr (8, [.int r_manner, .int r_above, .int r_below, .int r_nodes, .int r_arcs, .int r_left, .ref (a_r 1), .ref (a_r 2), .ref (a_r 3), .ref (a_r 4), .ref (a_r 5), .int r_isBest, .int r_arePlateaus, .ref (a_r 6), .ref (a_r 7), .ref (a_r 8), .long r_all, .ref (a_r 9), .ref (a_r 10), .long r_a, .long r_b, .ref (a_r 11), .ref (a_r 12), .ref (a_r 13), .ref (a_r 14), .ref (a_r 15), .int r_ties, .ref (a_r 16), .ref (a_r 17), .ref (a_r 18), .int r_z, .int r_plateaus, .ref (a_r 19), .ref (a_r 20), .ref (a_r 21), .ref (a_r 22)])), (a_r 1, .inl (cA 0, 36, .inl r_ones)), (a_r 2, .inl (cA 0, 36, .inl r_others)), (a_r 3, .inl (cA 0, 36, .inl r_weights)), (a_r 4, .inl (cA 2, 36, .inl r_there)), (a_r 6, .inl (cA 0, 81, .inl r_between)), (a_r 7, .inl (cA 2, 81, .inl r_joins)), (a_r 8, .inl (cA 0, 9, .inl r_has)), (a_r 17, .inl (cA 0, 9, .inl r_order)), (a_r 18, .inl (cA 0, 9, .inl r_label))]
noncomputable def s_Mo_together_23 (x1 : Int32) (x2 : Int32) (r_arcs : Int32) (r_manner : Int32) (r_nodes : Int32) (r_ones : Nat → Int32) (r_others : Nat → Int32) (r_there : Nat → Int32) (r_weights : Nat → Int32) (zz : Int32 × Int32 × Int64 × (Nat → Int32) × (Nat → Int32) × (Nat → Int32) × (Nat → Int32) × (Nat → Int32) × Int32) (back exit : (Int32 × Int32 × Int64 × (Nat → Int32) × (Nat → Int32) × (Nat → Int32) × (Nat → Int32) × (Nat → Int32) × Int32) → Option (Int32 × Int64 × Int32 × (Nat → Int32) × (Nat → Int32) × (Nat → Int32) × (Nat → Int32) × (Nat → Int32))) : Option (Int32 × Int64 × Int32 × (Nat → Int32) × (Nat → Int32) × (Nat → Int32) × (Nat → Int32) × (Nat → Int32)) :=
  (if (20 : Int32) ≤ zz.2.1 then (exit (zz.1, zz.2.1, zz.2.2.1, zz.2.2.2.1, zz.2.2.2.2.1, zz.2.2.2.2.2.1, zz.2.2.2.2.2.2.1, zz.2.2.2.2.2.2.2.1, zz.2.2.2.2.2.2.2.2)) else ((m_Mo_spread r_manner r_nodes r_arcs r_ones r_others r_weights r_there zz.2.2.2.1 zz.2.2.2.2.2.1 zz.2.2.2.2.1 zz.2.2.2.2.2.2.2.1 zz.2.2.2.2.2.2.1 zz.2.1).bind (fun r33 : Int32 × Int64 × Int32 × (Nat → Int32) × (Nat → Int32) × (Nat → Int32) × (Nat → Int32) × (Nat → Int32) => (if inb x1 9 then (if inb x2 9 then (if (r33.2.2.2.2.2.2.2 x1.toNatClampNeg) = (r33.2.2.2.2.2.2.2 x2.toNatClampNeg) then (back ((zz.1 + (1 : Int32)), (zz.2.1 + 1), r33.2.1, r33.2.2.2.1, r33.2.2.2.2.2.1, r33.2.2.2.2.1, r33.2.2.2.2.2.2.2, r33.2.2.2.2.2.2.1, r33.2.2.1)) else (back ((zz.1 + (0 : Int32)), (zz.2.1 + 1), r33.2.1, r33.2.2.2.1, r33.2.2.2.2.2.1, r33.2.2.2.2.1, r33.2.2.2.2.2.2.2, r33.2.2.2.2.2.2.1, r33.2.2.1))) else none) else none))))
noncomputable def m_Mo_together (r_manner : Int32) (r_nodes : Int32) (r_arcs : Int32) (r_all : Int64) (r_z : Int32) (r_ones : Nat → Int32) (r_others : Nat → Int32) (r_weights : Nat → Int32) (r_there : Nat → Int32) (r_between : Nat → Int32) (r_joins : Nat → Int32) (r_has : Nat → Int32) (r_order : Nat → Int32) (r_label : Nat → Int32) (v1 : Int32) (v2 : Int32) : Option (Int32 × Int64 × Int32 × (Nat → Int32) × (Nat → Int32) × (Nat → Int32) × (Nat → Int32) × (Nat → Int32)) :=
  ((m_Mo_isNode r_nodes v1).bind (fun r2 : Int32 => (if r2 = 0 then some ((-1 : Int32), r_all, r_z, r_between, r_joins, r_has, r_order, r_label) else ((m_Mo_isNode r_nodes v2).bind (fun r10 : Int32 => (if r10 = 0 then some ((-1 : Int32), r_all, r_z, r_between, r_joins, r_has, r_order, r_label) else (loopC (s_Mo_together_23 v1 v2 r_arcs r_manner r_nodes r_ones r_others r_there r_weights) (fun z23 : Int32 × Int32 × Int64 × (Nat → Int32) × (Nat → Int32) × (Nat → Int32) × (Nat → Int32) × (Nat → Int32) × Int32 => some (z23.1, z23.2.2.1, z23.2.2.2.2.2.2.2.2, z23.2.2.2.1, z23.2.2.2.2.2.1, z23.2.2.2.2.1, z23.2.2.2.2.2.2.2.1, z23.2.2.2.2.2.2.1)) FU ((0 : Int32), (0 : Int32), r_all, r_between, r_has, r_joins, r_label, r_order, r_z))))))))
set_option maxHeartbeats 4000000 in
set_option maxRecDepth 100000 in
theorem c_Mo_together (l : Launch) (D : va_G) (cA : Nat → ClassId) (a_r : Nat → Nat) (sz : Nat) (r_manner : Int32) (r_above : Int32) (r_below : Int32) (r_nodes : Int32) (r_arcs : Int32) (r_left : Int32) (r_isBest : Int32) (r_arePlateaus : Int32) (r_all : Int64) (r_a : Int64) (r_b : Int64) (r_ties : Int32) (r_z : Int32) (r_plateaus : Int32) (r_ones : Nat → Int32) (r_others : Nat → Int32) (r_weights : Nat → Int32) (r_there : Nat → Int32) (r_between : Nat → Int32) (r_joins : Nat → Int32) (r_has : Nat → Int32) (r_order : Nat → Int32) (r_label : Nat → Int32) (v1 : Int32) (v2 : Int32) (out : Int32 × Int64 × Int32 × (Nat → Int32) × (Nat → Int32) × (Nat → Int32) × (Nat → Int32) × (Nat → Int32)) (h : m_Mo_together r_manner r_nodes r_arcs r_all r_z r_ones r_others r_weights r_there r_between r_joins r_has r_order r_label v1 v2 = some out) : Met l y_Mo_together w_Mo_together ({ frames := 3, cells := 0, slots := 0, locals := 74 }) (va_Pc [.ref (a_r 0), .int v1, .int v2] (fun U => U.heap.size = sz ∧ va_P D cls9 (wd_Mo_together cA a_r r_manner r_above r_below r_nodes r_arcs r_left r_isBest r_arePlateaus r_all r_a r_b r_ties r_z r_plateaus r_ones r_others r_weights r_there r_between r_joins r_has r_order r_label) U.heap ∧ va_K D cls9 (tys5 cA) U ∧ va_D (fun _ => True) (wd_Mo_together cA a_r r_manner r_above r_below r_nodes r_arcs r_left r_isBest r_arePlateaus r_all r_a r_b r_ties r_z r_plateaus r_ones r_others r_weights r_there r_between r_joins r_has r_order r_label))) (va_Qi (fun (rr : Int32) (uu : Int64 × Int32 × (Nat → Int32) × (Nat → Int32) × (Nat → Int32) × (Nat → Int32) × (Nat → Int32)) => (rr, uu) = out) (fun (uu : Int64 × Int32 × (Nat → Int32) × (Nat → Int32) × (Nat → Int32) × (Nat → Int32) × (Nat → Int32)) (t : State) => va_P D cls9 (wd_Mo_together cA a_r r_manner r_above r_below r_nodes r_arcs r_left r_isBest r_arePlateaus uu.1 r_a r_b r_ties uu.2.1 r_plateaus r_ones r_others r_weights r_there uu.2.2.1 uu.2.2.2.1 uu.2.2.2.2.1 uu.2.2.2.2.2.1 uu.2.2.2.2.2.2) t.heap ∧ va_K D cls9 (tys5 cA) t ∧ va_D (va_A (wd_Mo_together cA a_r r_manner r_above r_below r_nodes r_arcs r_left r_isBest r_arePlateaus r_all r_a r_b r_ties r_z r_plateaus r_ones r_others r_weights r_there r_between r_joins r_has r_order r_label) sz) (wd_Mo_together cA a_r r_manner r_above r_below r_nodes r_arcs r_left r_isBest r_arePlateaus uu.1 r_a r_b r_ties uu.2.1 r_plateaus r_ones r_others r_weights r_there uu.2.2.1 uu.2.2.2.1 uu.2.2.2.2.1 uu.2.2.2.2.2.1 uu.2.2.2.2.2.2)) (va_A (wd_Mo_together cA a_r r_manner r_above r_below r_nodes r_arcs r_left r_isBest r_arePlateaus r_all r_a r_b r_ties r_z r_plateaus r_ones r_others r_weights r_there r_between r_joins r_has r_order r_label) sz)) 0 0 (va_A (wd_Mo_together cA a_r r_manner r_above r_below r_nodes r_arcs r_left r_isBest r_arePlateaus r_all r_a r_b r_ties r_z r_plateaus r_ones r_others r_weights r_there r_between r_joins r_has r_order r_label) sz) := by
  refine Met.ofW (cc := b_Mo_together) (maxL := 6) (ret := (Option.some Jvm.ClassFile.FieldType.int)) (by decide) rfl ?_
  intro p e s m args below meth c s₁ B hml hv
  obtain ⟨rfl, hsz, hP, hK, hD0⟩ := hv
  have hx := B.exec
  have hb := B.bytes
  have hr := B.returns
  have hts := atoms_spec (ws := w_Mo_together) B.pre
  have hal : ∀ w ∈ ALLW, w.before _ s = true := fun w hw => hts w (List.mem_cons_of_mem _ hw)
  have hown : s.vm.findClass R_Mo = some m.cls := findClass_of_methodNamed B.named
  have hlocks := B.notSynchronized
  subst hsz
  have hD := hD0.self (sz := s.heap.size)
  generalize hAe : va_A (wd_Mo_together cA a_r r_manner r_above r_below r_nodes r_arcs r_left r_isBest r_arePlateaus r_all r_a r_b r_ties r_z r_plateaus r_ones r_others r_weights r_there r_between r_joins r_has r_order r_label) s.heap.size = A at hD ⊢
  have hA : ∀ q : Nat, s.heap.size ≤ q → A q := fun q h => by rw [← hAe]; exact Or.inr h
  have hS : va_S A s.heap s.heap [] := va_S.rf
  have hl := lv_entry ([.ref (a_r 0), .int v1, .int v2]) (n := 6) (Nat.le_of_ble_eq_true rfl)
  rw [lg_entry_eq]
  generalize (lg_sl ([.ref (a_r 0), .int v1, .int v2]) ++ List.replicate (6 - (lg_sl ([.ref (a_r 0), .int v1, .int v2])).length) Slot.unset).toArray = ls at hl ⊢
  have hl : lv_has ls 6 [(0, .ref (a_r 0)), (1, .int v1), (2, .int v2)] := hl
  refine wg (fun G hG => ?_)
  refine cast (hG _ _ _ _ _ _ _).symm ?_
  obtain ⟨H, locs, hHl, hS⟩ : ∃ (H : Heap) (locs : List Loc), (H = s.heap ∧ locs = []) ∧ va_S A s.heap H locs := ⟨s.heap, [], ⟨rfl, rfl⟩, hS⟩
  have hP : va_P D cls9 (wd_Mo_together cA a_r r_manner r_above r_below r_nodes r_arcs r_left r_isBest r_arePlateaus r_all r_a r_b r_ties r_z r_plateaus r_ones r_others r_weights r_there r_between r_joins r_has r_order r_label) H := by rw [hHl.1]; exact hP
  rw [← hHl.1, ← hHl.2]
  clear hHl
  refine lv_aload_n hx hb d_Mo_together_0 rfl (lv_at hl 0 rfl) ?_
  refine lv_iload_n hx hb d_Mo_together_1 rfl (lv_at hl 1 rfl) ?_
  obtain ⟨o_4, hc_3, h⟩ := bd h
  have hPc := hP.sub (ws' := (wd_Mo_isNode cA a_r r_manner r_above r_below r_nodes r_arcs r_left r_isBest r_arePlateaus r_all r_a r_b r_ties r_z r_plateaus)) [0] rfl
  have hDc := hD.sub (ws' := (wd_Mo_isNode cA a_r r_manner r_above r_below r_nodes r_arcs r_left r_isBest r_arePlateaus r_all r_a r_b r_ties r_z r_plateaus)) [0] (by decide) rfl
  have hFc := va_free (wc := (wd_Mo_isNode cA a_r r_manner r_above r_below r_nodes r_arcs r_left r_isBest r_arePlateaus r_all r_a r_b r_ties r_z r_plateaus)) hD hS hA [0] rfl
  refine va_calli (va_runV (C := R_Mo) (As := [.int v1]) (rest := []) ⟨hx, hb, hml, hown, hal⟩ (c_Mo_isNode l D cA a_r H.size r_manner r_above r_below r_nodes r_arcs r_left r_isBest r_arePlateaus r_all r_a r_b r_ties r_z r_plateaus v1 o_4 hc_3) (cwV 1 hal (goodV kw_767 kw_769 kw_p26 kw_9 kw_770) rfl rfl rfl (by decide +kernel) ⟨Nat.le_of_ble_eq_true rfl, Nat.le_of_ble_eq_true rfl⟩) ⟨fun a U g mk q => by obtain ⟨q0, q1, qP, qK, qD⟩ := q; exact ⟨q0, q1, qP, va_K.moved (u := U) (U := U.calling g mk a) (Vm.Alike.refl U.vm) qK, qD⟩, va_recv hK hP (ci := 8) (q0 := 0) rfl rfl, fun U hU hW => ⟨rfl, by rw [hU], by rw [hU]; exact hPc, va_K.moved hW.alike hK, hDc.weaken (fun _ _ _ _ => trivial)⟩⟩ rfl rfl hl.1 rfl (lv_room (Nat.le_of_ble_eq_true rfl)) d_Mo_together_2 ⟨Nat.le_of_ble_eq_true rfl, Nat.le_of_ble_eq_true rfl⟩) hS (fun q _ h => hFc q h) hFc (fun r_2 u t H1 locs ht hvm hw hB hz1 hk1 hS => ?_)
  subst hw
  obtain ⟨hP1, hK1, hD1⟩ := hB
  rw [ht] at hP1
  have hP1 : va_P D cls9 (wd_Mo_isNode cA a_r r_manner r_above r_below r_nodes r_arcs r_left r_isBest r_arePlateaus r_all r_a r_b r_ties r_z r_plateaus) H1 := hP1
  obtain ⟨hP, hD⟩ := va_join (wr := ([1, 2, 3, 4, 5, 6, 7, 8, 9] : List Nat).filterMap (fun i => (wd_Mo_together cA a_r r_manner r_above r_below r_nodes r_arcs r_left r_isBest r_arePlateaus r_all r_a r_b r_ties r_z r_plateaus r_ones r_others r_weights r_there r_between r_joins r_has r_order r_label)[i]?)) (w1 := (wd_Mo_isNode cA a_r r_manner r_above r_below r_nodes r_arcs r_left r_isBest r_arePlateaus r_all r_a r_b r_ties r_z r_plateaus)) hP hD [0] [1, 2, 3, 4, 5, 6, 7, 8, 9] rfl rfl (by decide) (by decide) hk1 hFc hP1 hD1
  generalize H1 = H at hP hS ⊢
  have hP : va_P D cls9 (wd_Mo_together cA a_r r_manner r_above r_below r_nodes r_arcs r_left r_isBest r_arePlateaus r_all r_a r_b r_ties r_z r_plateaus r_ones r_others r_weights r_there r_between r_joins r_has r_order r_label) H := hP.sub [9, 0, 1, 2, 3, 4, 5, 6, 7, 8] rfl
  have hD : va_D A (wd_Mo_together cA a_r r_manner r_above r_below r_nodes r_arcs r_left r_isBest r_arePlateaus r_all r_a r_b r_ties r_z r_plateaus r_ones r_others r_weights r_there r_between r_joins r_has r_order r_label) := hD.sub [9, 0, 1, 2, 3, 4, 5, 6, 7, 8] (by decide) rfl
  refine lv_if_eq (tgt := 16) hx hb d_Mo_together_5 (by decide) (fun c_5 => ?_) (fun c_5 => ?_)
  · have h := ifp (c_5) h
    refine lv_iconst (v := (-1)) hx hb d_Mo_together_16 (by decide) ?_
    exact W.iret (v := (-1 : Int32)) hx hb hr (fun t ht hW => ⟨⟨(-1 : Int32), (r_all, r_z, r_between, r_joins, r_has, r_order, r_label), rfl, Option.some.inj h, by rw [ht]; exact hP, va_K.moved hW.alike hK, hD⟩, hS.F ht⟩) hS.2.2 d_Mo_together_17
  · have h := ifn (c_5) h
    refine lv_aload_n hx hb d_Mo_together_8 rfl (lv_at hl 0 rfl) ?_
    refine lv_iload_n hx hb d_Mo_together_9 rfl (lv_at hl 2 rfl) ?_
    obtain ⟨o_9, hc_8, h⟩ := bd h
    have hPc := hP.sub (ws' := (wd_Mo_isNode cA a_r r_manner r_above r_below r_nodes r_arcs r_left r_isBest r_arePlateaus r_all r_a r_b r_ties r_z r_plateaus)) [0] rfl
    have hDc := hD.sub (ws' := (wd_Mo_isNode cA a_r r_manner r_above r_below r_nodes r_arcs r_left r_isBest r_arePlateaus r_all r_a r_b r_ties r_z r_plateaus)) [0] (by decide) rfl
    have hFc := va_free (wc := (wd_Mo_isNode cA a_r r_manner r_above r_below r_nodes r_arcs r_left r_isBest r_arePlateaus r_all r_a r_b r_ties r_z r_plateaus)) hD hS hA [0] rfl
    refine va_calli (va_runV (C := R_Mo) (As := [.int v2]) (rest := []) ⟨hx, hb, hml, hown, hal⟩ (c_Mo_isNode l D cA a_r H.size r_manner r_above r_below r_nodes r_arcs r_left r_isBest r_arePlateaus r_all r_a r_b r_ties r_z r_plateaus v2 o_9 hc_8) (cwV 1 hal (goodV kw_767 kw_769 kw_p26 kw_9 kw_770) rfl rfl rfl (by decide +kernel) ⟨Nat.le_of_ble_eq_true rfl, Nat.le_of_ble_eq_true rfl⟩) ⟨fun a U g mk q => by obtain ⟨q0, q1, qP, qK, qD⟩ := q; exact ⟨q0, q1, qP, va_K.moved (u := U) (U := U.calling g mk a) (Vm.Alike.refl U.vm) qK, qD⟩, va_recv hK hP (ci := 8) (q0 := 0) rfl rfl, fun U hU hW => ⟨rfl, by rw [hU], by rw [hU]; exact hPc, va_K.moved hW.alike hK, hDc.weaken (fun _ _ _ _ => trivial)⟩⟩ rfl rfl hl.1 rfl (lv_room (Nat.le_of_ble_eq_true rfl)) d_Mo_together_10 ⟨Nat.le_of_ble_eq_true rfl, Nat.le_of_ble_eq_true rfl⟩) hS (fun q _ h => hFc q h) hFc (fun r_7 u t H1 locs ht hvm hw hB hz1 hk1 hS => ?_)
    subst hw
    obtain ⟨hP1, hK1, hD1⟩ := hB
    rw [ht] at hP1
    have hP1 : va_P D cls9 (wd_Mo_isNode cA a_r r_manner r_above r_below r_nodes r_arcs r_left r_isBest r_arePlateaus r_all r_a r_b r_ties r_z r_plateaus) H1 := hP1
    obtain ⟨hP, hD⟩ := va_join (wr := ([1, 2, 3, 4, 5, 6, 7, 8, 9] : List Nat).filterMap (fun i => (wd_Mo_together cA a_r r_manner r_above r_below r_nodes r_arcs r_left r_isBest r_arePlateaus r_all r_a r_b r_ties r_z r_plateaus r_ones r_others r_weights r_there r_between r_joins r_has r_order r_label)[i]?)) (w1 := (wd_Mo_isNode cA a_r r_manner r_above r_below r_nodes r_arcs r_left r_isBest r_arePlateaus r_all r_a r_b r_ties r_z r_plateaus)) hP hD [0] [1, 2, 3, 4, 5, 6, 7, 8, 9] rfl rfl (by decide) (by decide) hk1 hFc hP1 hD1
    generalize H1 = H at hP hS ⊢
    have hP : va_P D cls9 (wd_Mo_together cA a_r r_manner r_above r_below r_nodes r_arcs r_left r_isBest r_arePlateaus r_all r_a r_b r_ties r_z r_plateaus r_ones r_others r_weights r_there r_between r_joins r_has r_order r_label) H := hP.sub [9, 0, 1, 2, 3, 4, 5, 6, 7, 8] rfl
    have hD : va_D A (wd_Mo_together cA a_r r_manner r_above r_below r_nodes r_arcs r_left r_isBest r_arePlateaus r_all r_a r_b r_ties r_z r_plateaus r_ones r_others r_weights r_there r_between r_joins r_has r_order r_label) := hD.sub [9, 0, 1, 2, 3, 4, 5, 6, 7, 8] (by decide) rfl
    refine lv_if_ne (tgt := 18) hx hb d_Mo_together_13 (by decide) (fun c_10 => ?_) (fun c_10 => ?_)
    · have h := ifn (c_10) h
      refine lv_iconst (v := 0) hx hb d_Mo_together_18 (by decide) ?_
      refine lv_istore_n (lv' := [(3, .int (0 : Int32)), (0, .ref (a_r 0)), (1, .int v1), (2, .int v2)]) hx hb d_Mo_together_19 rfl hl (by decide) rfl (fun ls hl => ?_)
      refine lv_iconst (v := 0) hx hb d_Mo_together_20 (by decide) ?_
      refine lv_istore (lv' := [(4, .int (0 : Int32)), (3, .int (0 : Int32)), (0, .ref (a_r 0)), (1, .int v1), (2, .int v2)]) hx hb d_Mo_together_21 hl (by decide) rfl (fun ls hl => ?_)
      refine cast (hG _ _ _ _ _ _ _) (lp_go2 h (fun zz : Int32 × Int32 × Int64 × (Nat → Int32) × (Nat → Int32) × (Nat → Int32) × (Nat → Int32) × (Nat → Int32) × Int32 => ∀ (H : Heap) (locs : List Loc) (ls : Array Slot), va_P D cls9 (wd_Mo_together cA a_r r_manner r_above r_below r_nodes r_arcs r_left r_isBest r_arePlateaus zz.2.2.1 r_a r_b r_ties zz.2.2.2.2.2.2.2.2 r_plateaus r_ones r_others r_weights r_there zz.2.2.2.1 zz.2.2.2.2.2.1 zz.2.2.2.2.1 zz.2.2.2.2.2.2.2.1 zz.2.2.2.2.2.2.1) H → va_D A (wd_Mo_together cA a_r r_manner r_above r_below r_nodes r_arcs r_left r_isBest r_arePlateaus zz.2.2.1 r_a r_b r_ties zz.2.2.2.2.2.2.2.2 r_plateaus r_ones r_others r_weights r_there zz.2.2.2.1 zz.2.2.2.2.2.1 zz.2.2.2.2.1 zz.2.2.2.2.2.2.2.1 zz.2.2.2.2.2.2.1) → va_S A s.heap H locs → lv_has ls 6 [(4, .int zz.2.1), (3, .int zz.1), (0, .ref (a_r 0)), (1, .int v1), (2, .int v2)] → G H locs 0 0 ls 67 []) ?_ (fun zz : Int32 × Int32 × Int64 × (Nat → Int32) × (Nat → Int32) × (Nat → Int32) × (Nat → Int32) × (Nat → Int32) × Int32 => ∀ (H : Heap) (locs : List Loc) (ls : Array Slot), va_P D cls9 (wd_Mo_together cA a_r r_manner r_above r_below r_nodes r_arcs r_left r_isBest r_arePlateaus zz.2.2.1 r_a r_b r_ties zz.2.2.2.2.2.2.2.2 r_plateaus r_ones r_others r_weights r_there zz.2.2.2.1 zz.2.2.2.2.2.1 zz.2.2.2.2.1 zz.2.2.2.2.2.2.2.1 zz.2.2.2.2.2.2.1) H → va_D A (wd_Mo_together cA a_r r_manner r_above r_below r_nodes r_arcs r_left r_isBest r_arePlateaus zz.2.2.1 r_a r_b r_ties zz.2.2.2.2.2.2.2.2 r_plateaus r_ones r_others r_weights r_there zz.2.2.2.1 zz.2.2.2.2.2.1 zz.2.2.2.2.1 zz.2.2.2.2.2.2.2.1 zz.2.2.2.2.2.2.1) → va_S A s.heap H locs → lv_has ls 6 [(4, .int zz.2.1), (3, .int zz.1), (0, .ref (a_r 0)), (1, .int v1), (2, .int v2)] → G H locs 0 0 ls 23 []) ?_ _ _ ls hP hD hS (lv_sub hl [0, 1, 2, 3, 4] rfl))
      · intro zz h H locs ls hP hD hS hl
        obtain ⟨x3_23e, x4_23e, r_all_23e, r_between_23e, r_has_23e, r_joins_23e, r_label_23e, r_order_23e, r_z_23e⟩ := zz
        have hP : va_P D cls9 (wd_Mo_together cA a_r r_manner r_above r_below r_nodes r_arcs r_left r_isBest r_arePlateaus r_all_23e r_a r_b r_ties r_z_23e r_plateaus r_ones r_others r_weights r_there r_between_23e r_joins_23e r_has_23e r_order_23e r_label_23e) H := hP
        have hD : va_D A (wd_Mo_together cA a_r r_manner r_above r_below r_nodes r_arcs r_left r_isBest r_arePlateaus r_all_23e r_a r_b r_ties r_z_23e r_plateaus r_ones r_others r_weights r_there r_between_23e r_joins_23e r_has_23e r_order_23e r_label_23e) := hD
        have hl : lv_has ls 6 [(4, .int x4_23e), (3, .int x3_23e), (0, .ref (a_r 0)), (1, .int v1), (2, .int v2)] := hl
        refine cast (hG _ _ _ _ _ _ _).symm ?_
        refine lv_iload_n hx hb d_Mo_together_67 rfl (lv_at hl 1 rfl) ?_
        exact W.iret (v := x3_23e) hx hb hr (fun t ht hW => ⟨⟨x3_23e, (r_all_23e, r_z_23e, r_between_23e, r_joins_23e, r_has_23e, r_order_23e, r_label_23e), rfl, Option.some.inj h, by rw [ht]; exact hP, va_K.moved hW.alike hK, hD⟩, hS.F ht⟩) hS.2.2 d_Mo_together_68
      · intro back exit zz hB_23 hE_23 h H locs ls hP hD hS hl
        obtain ⟨x3_23, x4_23, r_all_23, r_between_23, r_has_23, r_joins_23, r_label_23, r_order_23, r_z_23⟩ := zz
        have hP : va_P D cls9 (wd_Mo_together cA a_r r_manner r_above r_below r_nodes r_arcs r_left r_isBest r_arePlateaus r_all_23 r_a r_b r_ties r_z_23 r_plateaus r_ones r_others r_weights r_there r_between_23 r_joins_23 r_has_23 r_order_23 r_label_23) H := hP
        have hD : va_D A (wd_Mo_together cA a_r r_manner r_above r_below r_nodes r_arcs r_left r_isBest r_arePlateaus r_all_23 r_a r_b r_ties r_z_23 r_plateaus r_ones r_others r_weights r_there r_between_23 r_joins_23 r_has_23 r_order_23 r_label_23) := hD
        have hl : lv_has ls 6 [(4, .int x4_23), (3, .int x3_23), (0, .ref (a_r 0)), (1, .int v1), (2, .int v2)] := hl
        refine cast (hG _ _ _ _ _ _ _).symm ?_
        refine lv_iload hx hb d_Mo_together_23 (lv_at hl 0 rfl) ?_
        refine lv_bipush (v := 20) hx hb d_Mo_together_25 (by decide) ?_
        refine lv_icmp_ge (tgt := 67) hx hb d_Mo_together_27 (by decide) (fun c_11 => ?_) (fun c_11 => ?_)
        · have h := ifp (c_11) h
          exact cast (hG _ _ _ _ _ _ _) (hE_23 (x3_23, x4_23, r_all_23, r_between_23, r_has_23, r_joins_23, r_label_23, r_order_23, r_z_23) h _ _ _ hP hD hS (lv_sub hl [0, 1, 2, 3, 4] rfl))
        · have h := ifn (c_11) h
          refine lv_aload_n hx hb d_Mo_together_30 rfl (lv_at hl 2 rfl) ?_
          refine lv_iload hx hb d_Mo_together_31 (lv_at hl 0 rfl) ?_
          obtain ⟨o_22, hc_21, h⟩ := bd h
          have hPc := hP.sub (ws' := (wd_Mo_spread cA a_r r_manner r_above r_below r_nodes r_arcs r_left r_isBest r_arePlateaus r_all_23 r_a r_b r_ties r_z_23 r_plateaus r_ones r_others r_weights r_there r_between_23 r_joins_23 r_has_23 r_order_23 r_label_23)) [0, 1, 2, 3, 4, 5, 6, 7, 8, 9] rfl
          have hDc := hD.sub (ws' := (wd_Mo_spread cA a_r r_manner r_above r_below r_nodes r_arcs r_left r_isBest r_arePlateaus r_all_23 r_a r_b r_ties r_z_23 r_plateaus r_ones r_others r_weights r_there r_between_23 r_joins_23 r_has_23 r_order_23 r_label_23)) [0, 1, 2, 3, 4, 5, 6, 7, 8, 9] (by decide) rfl
          have hFc := va_free (wc := (wd_Mo_spread cA a_r r_manner r_above r_below r_nodes r_arcs r_left r_isBest r_arePlateaus r_all_23 r_a r_b r_ties r_z_23 r_plateaus r_ones r_others r_weights r_there r_between_23 r_joins_23 r_has_23 r_order_23 r_label_23)) hD hS hA [0, 1, 2, 3, 4, 5, 6, 7, 8, 9] rfl
          refine va_calli (va_runV (C := R_Mo) (As := [.int x4_23]) (rest := []) ⟨hx, hb, hml, hown, hal⟩ (c_Mo_spread l D cA a_r H.size r_manner r_above r_below r_nodes r_arcs r_left r_isBest r_arePlateaus r_all_23 r_a r_b r_ties r_z_23 r_plateaus r_ones r_others r_weights r_there r_between_23 r_joins_23 r_has_23 r_order_23 r_label_23 x4_23 o_22 hc_21) (cwV 1 hal (goodV kw_901 kw_903 kw_p44 kw_9 kw_904) rfl rfl rfl (by decide +kernel) ⟨Nat.le_of_ble_eq_true rfl, Nat.le_of_ble_eq_true rfl⟩) ⟨fun a U g mk q => by obtain ⟨q0, q1, qP, qK, qD⟩ := q; exact ⟨q0, q1, qP, va_K.moved (u := U) (U := U.calling g mk a) (Vm.Alike.refl U.vm) qK, qD⟩, va_recv hK hP (ci := 8) (q0 := 0) rfl rfl, fun U hU hW => ⟨rfl, by rw [hU], by rw [hU]; exact hPc, va_K.moved hW.alike hK, hDc.weaken (fun _ _ _ _ => trivial)⟩⟩ rfl rfl hl.1 rfl (lv_room (Nat.le_of_ble_eq_true rfl)) d_Mo_together_33 ⟨Nat.le_of_ble_eq_true rfl, Nat.le_of_ble_eq_true rfl⟩) hS (fun q _ h => hFc q h) hFc (fun r_13 u t H1 locs ht hvm hw hB hz1 hk1 hS => ?_)
          obtain ⟨u_14, u_15, u_16, u_17, u_18, u_19, u_20⟩ := u
          subst hw
          obtain ⟨hP1, hK1, hD1⟩ := hB
          rw [ht] at hP1
          have hP1 : va_P D cls9 (wd_Mo_spread cA a_r r_manner r_above r_below r_nodes r_arcs r_left r_isBest r_arePlateaus u_14 r_a r_b r_ties u_15 r_plateaus r_ones r_others r_weights r_there u_16 u_17 u_18 u_19 u_20) H1 := hP1
          obtain ⟨hP, hD⟩ := va_join (wr := ([] : List Nat).filterMap (fun i => (wd_Mo_together cA a_r r_manner r_above r_below r_nodes r_arcs r_left r_isBest r_arePlateaus r_all_23 r_a r_b r_ties r_z_23 r_plateaus r_ones r_others r_weights r_there r_between_23 r_joins_23 r_has_23 r_order_23 r_label_23)[i]?)) (w1 := (wd_Mo_spread cA a_r r_manner r_above r_below r_nodes r_arcs r_left r_isBest r_arePlateaus u_14 r_a r_b r_ties u_15 r_plateaus r_ones r_others r_weights r_there u_16 u_17 u_18 u_19 u_20)) hP hD [0, 1, 2, 3, 4, 5, 6, 7, 8, 9] [] rfl rfl (by decide) (by decide) hk1 hFc hP1 hD1
          generalize H1 = H at hP hS ⊢
          have hP : va_P D cls9 (wd_Mo_together cA a_r r_manner r_above r_below r_nodes r_arcs r_left r_isBest r_arePlateaus u_14 r_a r_b r_ties u_15 r_plateaus r_ones r_others r_weights r_there u_16 u_17 u_18 u_19 u_20) H := hP.sub [0, 1, 2, 3, 4, 5, 6, 7, 8, 9] rfl
          have hD : va_D A (wd_Mo_together cA a_r r_manner r_above r_below r_nodes r_arcs r_left r_isBest r_arePlateaus u_14 r_a r_b r_ties u_15 r_plateaus r_ones r_others r_weights r_there u_16 u_17 u_18 u_19 u_20) := hD.sub [0, 1, 2, 3, 4, 5, 6, 7, 8, 9] (by decide) rfl
          refine lv_istore (lv' := [(5, .int r_13), (4, .int x4_23), (3, .int x3_23), (0, .ref (a_r 0)), (1, .int v1), (2, .int v2)]) hx hb d_Mo_together_36 hl (by decide) rfl (fun ls hl => ?_)
          refine lv_iload_n hx hb d_Mo_together_38 rfl (lv_at hl 2 rfl) ?_
          refine lv_aload_n hx hb d_Mo_together_39 rfl (lv_at hl 3 rfl) ?_
          refine va_get (ci := 8) (v := .ref (a_r 18)) (C := R_Mo) (T := F_Mo) (N := 36) hx hb hal in_Mo hown hK hP 0 rfl rfl 29 (by decide) (hal _ kw_666) (fun _ h9 => h9) rfl d_Mo_together_40 ?_
          refine lv_iload_n hx hb d_Mo_together_43 rfl (lv_at hl 4 rfl) ?_
          obtain ⟨g_23, h⟩ := gd h
          refine va_iald hx hb hK hP 9 0 rfl rfl (inb_in g_23) d_Mo_together_44 ?_
          refine lv_aload_n hx hb d_Mo_together_45 rfl (lv_at hl 3 rfl) ?_
          refine va_get (ci := 8) (v := .ref (a_r 18)) (C := R_Mo) (T := F_Mo) (N := 36) hx hb hal in_Mo hown hK hP 0 rfl rfl 29 (by decide) (hal _ kw_666) (fun _ h9 => h9) rfl d_Mo_together_46 ?_
          refine lv_iload_n hx hb d_Mo_together_49 rfl (lv_at hl 5 rfl) ?_
          obtain ⟨g_24, h⟩ := gd h
          refine va_iald hx hb hK hP 9 0 rfl rfl (inb_in g_24) d_Mo_together_50 ?_
          refine lv_icmp_ne (tgt := 58) hx hb d_Mo_together_51 (by decide) (fun c_25 => ?_) (fun c_25 => ?_)
          · have h := ifn (c_25) h
            refine lv_iconst (v := 0) hx hb d_Mo_together_58 (by decide) ?_
            refine lv_iadd hx hb d_Mo_together_59 ?_
            refine lv_istore_n (lv' := [(3, .int (x3_23 + (0 : Int32))), (5, .int r_13), (4, .int x4_23), (0, .ref (a_r 0)), (1, .int v1), (2, .int v2)]) hx hb d_Mo_together_60 rfl hl (by decide) rfl (fun ls hl => ?_)
            refine lv_iinc (v := (x4_23 + 1)) (lv' := [(4, .int (x4_23 + 1)), (3, .int (x3_23 + (0 : Int32))), (5, .int r_13), (0, .ref (a_r 0)), (1, .int v1), (2, .int v2)]) hx hb d_Mo_together_61 hl (k := 2) rfl rfl (by decide) rfl (fun ls hl => ?_)
            refine lv_goto (tgt := 23) hx hb d_Mo_together_64 (by decide) ?_
            exact cast (hG _ _ _ _ _ _ _) (hB_23 ((x3_23 + (0 : Int32)), (x4_23 + 1), u_14, u_16, u_18, u_17, u_20, u_19, u_15) h _ _ _ hP hD hS (lv_sub hl [0, 1, 3, 4, 5] rfl))
          · have h := ifp (c_25) h
            refine lv_iconst (v := 1) hx hb d_Mo_together_54 (by decide) ?_
            refine lv_goto (tgt := 59) hx hb d_Mo_together_55 (by decide) ?_
            refine lv_iadd hx hb d_Mo_together_59 ?_
            refine lv_istore_n (lv' := [(3, .int (x3_23 + (1 : Int32))), (5, .int r_13), (4, .int x4_23), (0, .ref (a_r 0)), (1, .int v1), (2, .int v2)]) hx hb d_Mo_together_60 rfl hl (by decide) rfl (fun ls hl => ?_)
            refine lv_iinc (v := (x4_23 + 1)) (lv' := [(4, .int (x4_23 + 1)), (3, .int (x3_23 + (1 : Int32))), (5, .int r_13), (0, .ref (a_r 0)), (1, .int v1), (2, .int v2)]) hx hb d_Mo_together_61 hl (k := 2) rfl rfl (by decide) rfl (fun ls hl => ?_)
            refine lv_goto (tgt := 23) hx hb d_Mo_together_64 (by decide) ?_
            exact cast (hG _ _ _ _ _ _ _) (hB_23 ((x3_23 + (1 : Int32)), (x4_23 + 1), u_14, u_16, u_18, u_17, u_20, u_19, u_15) h _ _ _ hP hD hS (lv_sub hl [0, 1, 3, 4, 5] rfl))
    · have h := ifp (c_10) h
      refine lv_iconst (v := (-1)) hx hb d_Mo_together_16 (by decide) ?_
      exact W.iret (v := (-1 : Int32)) hx hb hr (fun t ht hW => ⟨⟨(-1 : Int32), (r_all, r_z, r_between, r_joins, r_has, r_order, r_label), rfl, Option.some.inj h, by rw [ht]; exact hP, va_K.moved hW.alike hK, hD⟩, hS.F ht⟩) hS.2.2 d_Mo_together_17
def wd_Mo_show (cA : Nat → ClassId) (a_r : Nat → Nat) (r_manner : Int32) (r_above : Int32) (r_below : Int32) (r_nodes : Int32) (r_arcs : Int32) (r_left : Int32) (r_isBest : Int32) (r_arePlateaus : Int32) (r_all : Int64) (r_a : Int64) (r_b : Int64) (r_ties : Int32) (r_z : Int32) (r_plateaus : Int32) (r_shown : Nat → Int32) (r_shownOf : Nat → Int64) : va_W := [(a_r 0, .inr (8, [.int r_manner, .int r_above, .int r_below, .int r_nodes, .int r_arcs, .int r_left, .ref (a_r 1), .ref (a_r 2), .ref (a_r 3), .ref (a_r 4), .ref (a_r 5), .int r_isBest, .int r_arePlateaus, .ref (a_r 6), .ref (a_r 7), .ref (a_r 8), .long r_all, .ref (a_r 9), .ref (a_r 10), .long r_a, .long r_b, .ref (a_r 11), .ref (a_r 12), .ref (a_r 13), .ref (a_r 14), .ref (a_r 15), .int r_ties, .ref (a_r 16), .ref (a_r 17), .ref (a_r 18), .int r_z, .int r_plateaus, .ref (a_r 19), .ref (a_r 20), .ref (a_r 21), .ref (a_r 22)])), (a_r 19, .inl (cA 0, 9, .inl r_shown)), (a_r 22, .inl (cA 1, 1801, .inr (.inl r_shownOf)))]
noncomputable def s_Mo_show_9 (x1 : Int32) (r_nodes : Int32) (r_shown : Nat → Int32) (zz : Int32 × (Nat → Int64)) (back exit : (Int32 × (Nat → Int64)) → Option ((Nat → Int64))) : Option ((Nat → Int64)) :=
  (if r_nodes ≤ zz.1 then (exit (zz.1, zz.2)) else (if inb x1 1801 then (if inb zz.1 9 then (back ((zz.1 + 1), (vp_updL zz.2 x1.toNatClampNeg ((zz.2 x1.toNatClampNeg) ||| ((r_shown zz.1.toNatClampNeg).toInt64 <<< (((4 : Int32) * zz.1).toInt64 &&& 63)))))) else none) else none))
noncomputable def m_Mo_show (r_nodes : Int32) (r_shown : Nat → Int32) (r_shownOf : Nat → Int64) (v1 : Int32) : Option ((Nat → Int64)) :=
  (if inb v1 1801 then (loopC (s_Mo_show_9 v1 r_nodes r_shown) (fun z9 : Int32 × (Nat → Int64) => some z9.2) FU ((0 : Int32), (vp_updL r_shownOf v1.toNatClampNeg (0 : Int64)))) else none)
set_option maxHeartbeats 4000000 in
set_option maxRecDepth 100000 in
theorem c_Mo_show (l : Launch) (D : va_G) (cA : Nat → ClassId) (a_r : Nat → Nat) (sz : Nat) (r_manner : Int32) (r_above : Int32) (r_below : Int32) (r_nodes : Int32) (r_arcs : Int32) (r_left : Int32) (r_isBest : Int32) (r_arePlateaus : Int32) (r_all : Int64) (r_a : Int64) (r_b : Int64) (r_ties : Int32) (r_z : Int32) (r_plateaus : Int32) (r_shown : Nat → Int32) (r_shownOf : Nat → Int64) (v1 : Int32) (out : (Nat → Int64)) (h : m_Mo_show r_nodes r_shown r_shownOf v1 = some out) : Met l y_Mo_show w_Mo_show ({ frames := 0, cells := 0, slots := 0, locals := 0 }) (va_Pc [.ref (a_r 0), .int v1] (fun U => U.heap.size = sz ∧ va_P D cls9 (wd_Mo_show cA a_r r_manner r_above r_below r_nodes r_arcs r_left r_isBest r_arePlateaus r_all r_a r_b r_ties r_z r_plateaus r_shown r_shownOf) U.heap ∧ va_K D cls9 (tys5 cA) U ∧ va_D (fun _ => True) (wd_Mo_show cA a_r r_manner r_above r_below r_nodes r_arcs r_left r_isBest r_arePlateaus r_all r_a r_b r_ties r_z r_plateaus r_shown r_shownOf))) (va_Qv (fun uu : (Nat → Int64) => uu = out) (fun (uu : (Nat → Int64)) (t : State) => va_P D cls9 (wd_Mo_show cA a_r r_manner r_above r_below r_nodes r_arcs r_left r_isBest r_arePlateaus r_all r_a r_b r_ties r_z r_plateaus r_shown uu) t.heap ∧ va_K D cls9 (tys5 cA) t ∧ va_D (va_A (wd_Mo_show cA a_r r_manner r_above r_below r_nodes r_arcs r_left r_isBest r_arePlateaus r_all r_a r_b r_ties r_z r_plateaus r_shown r_shownOf) sz) (wd_Mo_show cA a_r r_manner r_above r_below r_nodes r_arcs r_left r_isBest r_arePlateaus r_all r_a r_b r_ties r_z r_plateaus r_shown uu)) (va_A (wd_Mo_show cA a_r r_manner r_above r_below r_nodes r_arcs r_left r_isBest r_arePlateaus r_all r_a r_b r_ties r_z r_plateaus r_shown r_shownOf) sz)) 0 0 (va_A (wd_Mo_show cA a_r r_manner r_above r_below r_nodes r_arcs r_left r_isBest r_arePlateaus r_all r_a r_b r_ties r_z r_plateaus r_shown r_shownOf) sz) := by
  refine Met.ofW (cc := b_Mo_show) (maxL := 3) (ret := (Option.none : Option Jvm.ClassFile.FieldType)) (by decide) rfl ?_
  intro p e s m args below meth c s₁ B hml hv
  obtain ⟨rfl, hsz, hP, hK, hD0⟩ := hv
  have hx := B.exec
  have hb := B.bytes
  have hr := B.returns
  have hts := atoms_spec (ws := w_Mo_show) B.pre
  have hal : ∀ w ∈ ALLW, w.before _ s = true := fun w hw => hts w (List.mem_cons_of_mem _ hw)
  have hown : s.vm.findClass R_Mo = some m.cls := findClass_of_methodNamed B.named
  have hlocks := B.notSynchronized
  subst hsz
  have hD := hD0.self (sz := s.heap.size)
  generalize hAe : va_A (wd_Mo_show cA a_r r_manner r_above r_below r_nodes r_arcs r_left r_isBest r_arePlateaus r_all r_a r_b r_ties r_z r_plateaus r_shown r_shownOf) s.heap.size = A at hD ⊢
  have hA : ∀ q : Nat, s.heap.size ≤ q → A q := fun q h => by rw [← hAe]; exact Or.inr h
  have hS : va_S A s.heap s.heap [] := va_S.rf
  have hl := lv_entry ([.ref (a_r 0), .int v1]) (n := 3) (Nat.le_of_ble_eq_true rfl)
  rw [lg_entry_eq]
  generalize (lg_sl ([.ref (a_r 0), .int v1]) ++ List.replicate (3 - (lg_sl ([.ref (a_r 0), .int v1])).length) Slot.unset).toArray = ls at hl ⊢
  have hl : lv_has ls 3 [(0, .ref (a_r 0)), (1, .int v1)] := hl
  refine wg (fun G hG => ?_)
  refine cast (hG _ _ _ _ _ _ _).symm ?_
  obtain ⟨H, locs, hHl, hS⟩ : ∃ (H : Heap) (locs : List Loc), (H = s.heap ∧ locs = []) ∧ va_S A s.heap H locs := ⟨s.heap, [], ⟨rfl, rfl⟩, hS⟩
  have hP : va_P D cls9 (wd_Mo_show cA a_r r_manner r_above r_below r_nodes r_arcs r_left r_isBest r_arePlateaus r_all r_a r_b r_ties r_z r_plateaus r_shown r_shownOf) H := by rw [hHl.1]; exact hP
  rw [← hHl.1, ← hHl.2]
  clear hHl
  refine lv_aload_n hx hb d_Mo_show_0 rfl (lv_at hl 0 rfl) ?_
  refine va_get (ci := 8) (v := .ref (a_r 22)) (C := R_Mo) (T := F_Mo) (N := 36) hx hb hal in_Mo hown hK hP 0 rfl rfl 35 (by decide) (hal _ kw_672) (fun _ h9 => h9) rfl d_Mo_show_1 ?_
  refine lv_iload_n hx hb d_Mo_show_4 rfl (lv_at hl 1 rfl) ?_
  refine lv_lconst (v := 0) hx hb d_Mo_show_5 (by decide) ?_
  obtain ⟨g_1, h⟩ := gd h
  refine va_last hx hb hK hP hD hS 2 1 rfl rfl (inb_in g_1) d_Mo_show_6 (fun H locs hP hD hS => ?_)
  have hP : va_P D cls9 (wd_Mo_show cA a_r r_manner r_above r_below r_nodes r_arcs r_left r_isBest r_arePlateaus r_all r_a r_b r_ties r_z r_plateaus r_shown (vp_updL r_shownOf v1.toNatClampNeg (0 : Int64))) H := hP
  have hD : va_D A (wd_Mo_show cA a_r r_manner r_above r_below r_nodes r_arcs r_left r_isBest r_arePlateaus r_all r_a r_b r_ties r_z r_plateaus r_shown (vp_updL r_shownOf v1.toNatClampNeg (0 : Int64))) := hD
  refine lv_iconst (v := 0) hx hb d_Mo_show_7 (by decide) ?_
  refine lv_istore_n (lv' := [(2, .int (0 : Int32)), (0, .ref (a_r 0)), (1, .int v1)]) hx hb d_Mo_show_8 rfl hl (by decide) rfl (fun ls hl => ?_)
  refine cast (hG _ _ _ _ _ _ _) (lp_go2 h (fun zz : Int32 × (Nat → Int64) => ∀ (H : Heap) (locs : List Loc) (ls : Array Slot), va_P D cls9 (wd_Mo_show cA a_r r_manner r_above r_below r_nodes r_arcs r_left r_isBest r_arePlateaus r_all r_a r_b r_ties r_z r_plateaus r_shown zz.2) H → va_D A (wd_Mo_show cA a_r r_manner r_above r_below r_nodes r_arcs r_left r_isBest r_arePlateaus r_all r_a r_b r_ties r_z r_plateaus r_shown zz.2) → va_S A s.heap H locs → lv_has ls 3 [(2, .int zz.1), (0, .ref (a_r 0)), (1, .int v1)] → G H locs 0 0 ls 43 []) ?_ (fun zz : Int32 × (Nat → Int64) => ∀ (H : Heap) (locs : List Loc) (ls : Array Slot), va_P D cls9 (wd_Mo_show cA a_r r_manner r_above r_below r_nodes r_arcs r_left r_isBest r_arePlateaus r_all r_a r_b r_ties r_z r_plateaus r_shown zz.2) H → va_D A (wd_Mo_show cA a_r r_manner r_above r_below r_nodes r_arcs r_left r_isBest r_arePlateaus r_all r_a r_b r_ties r_z r_plateaus r_shown zz.2) → va_S A s.heap H locs → lv_has ls 3 [(2, .int zz.1), (0, .ref (a_r 0)), (1, .int v1)] → G H locs 0 0 ls 9 []) ?_ _ _ ls hP hD hS (lv_sub hl [0, 1, 2] rfl))
  · intro zz h H locs ls hP hD hS hl
    obtain ⟨x2_9e, r_shownOf_9e⟩ := zz
    have hP : va_P D cls9 (wd_Mo_show cA a_r r_manner r_above r_below r_nodes r_arcs r_left r_isBest r_arePlateaus r_all r_a r_b r_ties r_z r_plateaus r_shown r_shownOf_9e) H := hP
    have hD : va_D A (wd_Mo_show cA a_r r_manner r_above r_below r_nodes r_arcs r_left r_isBest r_arePlateaus r_all r_a r_b r_ties r_z r_plateaus r_shown r_shownOf_9e) := hD
    have hl : lv_has ls 3 [(2, .int x2_9e), (0, .ref (a_r 0)), (1, .int v1)] := hl
    refine cast (hG _ _ _ _ _ _ _).symm ?_
    exact W.vret hx hb hr (fun t ht hW => ⟨⟨r_shownOf_9e, rfl, Option.some.inj h, by rw [ht]; exact hP, va_K.moved hW.alike hK, hD⟩, hS.F ht⟩) hS.2.2 d_Mo_show_43
  · intro back exit zz hB_9 hE_9 h H locs ls hP hD hS hl
    obtain ⟨x2_9, r_shownOf_9⟩ := zz
    have hP : va_P D cls9 (wd_Mo_show cA a_r r_manner r_above r_below r_nodes r_arcs r_left r_isBest r_arePlateaus r_all r_a r_b r_ties r_z r_plateaus r_shown r_shownOf_9) H := hP
    have hD : va_D A (wd_Mo_show cA a_r r_manner r_above r_below r_nodes r_arcs r_left r_isBest r_arePlateaus r_all r_a r_b r_ties r_z r_plateaus r_shown r_shownOf_9) := hD
    have hl : lv_has ls 3 [(2, .int x2_9), (0, .ref (a_r 0)), (1, .int v1)] := hl
    refine cast (hG _ _ _ _ _ _ _).symm ?_
    refine lv_iload_n hx hb d_Mo_show_9 rfl (lv_at hl 0 rfl) ?_
    refine lv_aload_n hx hb d_Mo_show_10 rfl (lv_at hl 1 rfl) ?_
    refine va_get (ci := 8) (v := .int r_nodes) (C := R_Mo) (T := F_Mo) (N := 36) hx hb hal in_Mo hown hK hP 0 rfl rfl 3 (by decide) (hal _ kw_640) (fun _ h9 => h9) rfl d_Mo_show_11 ?_
    refine lv_icmp_ge (tgt := 43) hx hb d_Mo_show_14 (by decide) (fun c_2 => ?_) (fun c_2 => ?_)
    · have h := ifp (c_2) h
      exact cast (hG _ _ _ _ _ _ _) (hE_9 (x2_9, r_shownOf_9) h _ _ _ hP hD hS (lv_sub hl [0, 1, 2] rfl))
    · have h := ifn (c_2) h
      refine lv_aload_n hx hb d_Mo_show_17 rfl (lv_at hl 1 rfl) ?_
      refine va_get (ci := 8) (v := .ref (a_r 22)) (C := R_Mo) (T := F_Mo) (N := 36) hx hb hal in_Mo hown hK hP 0 rfl rfl 35 (by decide) (hal _ kw_672) (fun _ h9 => h9) rfl d_Mo_show_18 ?_
      refine lv_iload_n hx hb d_Mo_show_21 rfl (lv_at hl 2 rfl) ?_
      refine lv_dup2_11 hx hb d_Mo_show_22 rfl rfl ?_
      obtain ⟨g_3, h⟩ := gd h
      refine va_lald hx hb hK hP 2 1 rfl rfl (inb_in g_3) d_Mo_show_23 ?_
      refine lv_aload_n hx hb d_Mo_show_24 rfl (lv_at hl 1 rfl) ?_
      refine va_get (ci := 8) (v := .ref (a_r 19)) (C := R_Mo) (T := F_Mo) (N := 36) hx hb hal in_Mo hown hK hP 0 rfl rfl 32 (by decide) (hal _ kw_669) (fun _ h9 => h9) rfl d_Mo_show_25 ?_
      refine lv_iload_n hx hb d_Mo_show_28 rfl (lv_at hl 0 rfl) ?_
      obtain ⟨g_4, h⟩ := gd h
      refine va_iald hx hb hK hP 1 0 rfl rfl (inb_in g_4) d_Mo_show_29 ?_
      refine lv_i2l hx hb d_Mo_show_30 rfl ?_
      refine lv_iconst (v := 4) hx hb d_Mo_show_31 (by decide) ?_
      refine lv_iload_n hx hb d_Mo_show_32 rfl (lv_at hl 0 rfl) ?_
      refine lv_imul hx hb d_Mo_show_33 ?_
      refine lv_lshl hx hb d_Mo_show_34 rfl ?_
      refine lv_lor hx hb d_Mo_show_35 ?_
      refine va_last hx hb hK hP hD hS 2 1 rfl rfl (inb_in g_3) d_Mo_show_36 (fun H locs hP hD hS => ?_)
      have hP : va_P D cls9 (wd_Mo_show cA a_r r_manner r_above r_below r_nodes r_arcs r_left r_isBest r_arePlateaus r_all r_a r_b r_ties r_z r_plateaus r_shown (vp_updL r_shownOf_9 v1.toNatClampNeg ((r_shownOf_9 v1.toNatClampNeg) ||| ((r_shown x2_9.toNatClampNeg).toInt64 <<< (((4 : Int32) * x2_9).toInt64 &&& 63))))) H := hP
      have hD : va_D A (wd_Mo_show cA a_r r_manner r_above r_below r_nodes r_arcs r_left r_isBest r_arePlateaus r_all r_a r_b r_ties r_z r_plateaus r_shown (vp_updL r_shownOf_9 v1.toNatClampNeg ((r_shownOf_9 v1.toNatClampNeg) ||| ((r_shown x2_9.toNatClampNeg).toInt64 <<< (((4 : Int32) * x2_9).toInt64 &&& 63))))) := hD
      refine lv_iinc (v := (x2_9 + 1)) (lv' := [(2, .int (x2_9 + 1)), (0, .ref (a_r 0)), (1, .int v1)]) hx hb d_Mo_show_37 hl (k := 0) rfl rfl (by decide) rfl (fun ls hl => ?_)
      refine lv_goto (tgt := 9) hx hb d_Mo_show_40 (by decide) ?_
      exact cast (hG _ _ _ _ _ _ _) (hB_9 ((x2_9 + 1), (vp_updL r_shownOf_9 v1.toNatClampNeg ((r_shownOf_9 v1.toNatClampNeg) ||| ((r_shown x2_9.toNatClampNeg).toInt64 <<< (((4 : Int32) * x2_9).toInt64 &&& 63))))) h _ _ _ hP hD hS (lv_sub hl [0, 1, 2] rfl))
def wd_Mo_findPlateaus (cA : Nat → ClassId) (a_r : Nat → Nat) (r_manner : Int32) (r_above : Int32) (r_below : Int32) (r_nodes : Int32) (r_arcs : Int32) (r_left : Int32) (r_isBest : Int32) (r_arePlateaus : Int32) (r_all : Int64) (r_a : Int64) (r_b : Int64) (r_ties : Int32) (r_z : Int32) (r_plateaus : Int32) (r_ones : Nat → Int32) (r_others : Nat → Int32) (r_weights : Nat → Int32) (r_there : Nat → Int32) (r_between : Nat → Int32) (r_joins : Nat → Int32) (r_has : Nat → Int32) (r_sums : Nat → Int64) (r_sizes : Nat → Int64) (r_walk : Nat → Int32) (r_found : Nat → Int32) (r_shown : Nat → Int32) (r_beginsAbove : Nat → Int64) (r_beginsBelow : Nat → Int64) (r_shownOf : Nat → Int64) : va_W := [(a_r 0, .inr (8, [.int r_manner, .int r_above, .int r_below, .int r_nodes, .int r_arcs, .int r_left, .ref (a_r 1), .ref (a_r 2), .ref (a_r 3), .ref (a_r 4), .ref (a_r 5), .int r_isBest, .int r_arePlateaus, .ref (a_r 6), .ref (a_r 7), .ref (a_r 8), .long r_all, .ref (a_r 9), .ref (a_r 10), .long r_a, .long r_b, .ref (a_r 11), .ref (a_r 12), .ref (a_r 13), .ref (a_r 14), .ref (a_r 15), .int r_ties, .ref (a_r 16), .ref (a_r 17), .ref (a_r 18), .int r_z, .int r_plateaus, .ref (a_r 19), .ref (a_r 20), .ref (a_r 21), .ref (a_r 22)])), (a_r 1, .inl (cA 0, 36, .inl r_ones)), (a_r 2, .inl (cA 0, 36, .inl r_others)), (a_r 3, .inl (cA 0, 36, .inl r_weights)), (a_r 4, .inl (cA 2, 36, .inl r_there)), (a_r 6, .inl (cA 0, 81, .inl r_between)), (a_r 7, .inl (cA 2, 81, .inl r_joins)), (a_r 8, .inl (cA 0, 9, .inl r_has)), (a_r 9, .inl (cA 1, 9, .inr (.inl r_sums))), (a_r 10, .inl (cA 1, 9, .inr (.inl r_sizes))), (a_r 13, .inl (cA 0, 9, .inl r_walk)), (a_r 14, .inl (cA 0, 9, .inl r_found)), (a_r 19, .inl (cA 0, 9, .inl r_shown)), (a_r 20, .inl (cA 1, 1801, .inr (.inl r_beginsAbove))), (a_r 21, .inl (cA 1, 1801, .inr (.inl r_beginsBelow))), (a_r 22, .inl (cA 1, 1801, .inr (.inl r_shownOf)))]
noncomputable def s_Mo_findPlateaus_182 (x1 : Int64) (x3 : Int64) (r_all : Int64) (r_between : Nat → Int32) (r_has : Nat → Int32) (r_manner : Int32) (r_nodes : Int32) (zz : Int32 × Int64 × Int64 × Int64 × Int64 × Int32 × Int64 × Int64 × (Nat → Int32) × (Nat → Int64) × (Nat → Int64) × (Nat → Int32)) (back exit : (Int32 × Int64 × Int64 × Int64 × Int64 × Int32 × Int64 × Int64 × (Nat → Int32) × (Nat → Int64) × (Nat → Int64) × (Nat → Int32)) → Option (Int32 × Int64 × Int64 × Int64 × Int32 × (Nat → Int32) × (Nat → Int32) × (Nat → Int32) × (Nat → Int64) × (Nat → Int64) × (Nat → Int32) × (Nat → Int32) × (Nat → Int32) × (Nat → Int64) × (Nat → Int64) × (Nat → Int64))) : Option (Int32 × Int64 × Int64 × Int64 × Int32 × (Nat → Int32) × (Nat → Int32) × (Nat → Int32) × (Nat → Int64) × (Nat → Int64) × (Nat → Int32) × (Nat → Int32) × (Nat → Int32) × (Nat → Int64) × (Nat → Int64) × (Nat → Int64)) :=
  (if zz.2.2.2.2.2.1 = 0 then (exit (zz.1, zz.2.1, zz.2.2.1, zz.2.2.2.1, zz.2.2.2.2.1, zz.2.2.2.2.2.1, zz.2.2.2.2.2.2.1, zz.2.2.2.2.2.2.2.1, zz.2.2.2.2.2.2.2.2.1, zz.2.2.2.2.2.2.2.2.2.1, zz.2.2.2.2.2.2.2.2.2.2.1, zz.2.2.2.2.2.2.2.2.2.2.2)) else ((m_Mo_judge r_manner r_nodes r_all r_between r_has zz.2.2.2.2.2.2.2.2.2.2.1 zz.2.2.2.2.2.2.2.2.2.1 zz.2.2.2.2.2.2.2.2.2.2.2).bind (fun r192 : Int64 × Int64 × (Nat → Int64) × (Nat → Int64) => (jn (fun z242 : Int32 => (jn (fun z285 : Int32 => (jn (fun z332 : Int64 × Int64 × Int64 × Int64 × Int32 × (Nat → Int32) => ((m_Mo_next r_nodes zz.2.2.2.2.2.2.2.2.2.2.2).bind (fun r333 : Int32 × (Nat → Int32) => (back (z332.2.2.2.2.1, z332.2.2.2.1, z332.2.2.1, z332.2.1, z332.1, r333.1, r192.1, r192.2.1, z332.2.2.2.2.2, r192.2.2.2, r192.2.2.1, r333.2))))) (fun j332 => (jn (fun z297 : Unit => ((m_Mo_copy r_nodes zz.2.2.2.2.2.2.2.2.2.2.2 zz.2.2.2.2.2.2.2.2.1).bind (fun r329 : (Nat → Int32) => (j332 (r192.2.1, r192.1, (x3 - r192.2.1), (x1 - r192.1), (1 : Int32), r329))))) (fun j297 => (if z242 = 0 then (if z285 = 0 then (j332 (zz.2.2.2.2.1, zz.2.2.2.1, zz.2.2.1, zz.2.1, zz.1, zz.2.2.2.2.2.2.2.2.1)) else (j297 ())) else (j297 ()))))))) (fun j285 => (jn (fun z284 : Unit => (j285 (0 : Int32))) (fun j284 => (if (x3 - r192.2.1) ≤ (0 : Int64) then (j284 ()) else (if zz.1 = 0 then (j284 ()) else (if ((x1 - r192.1) * zz.2.2.1) = (zz.2.1 * (x3 - r192.2.1)) then (if zz.2.2.2.2.1 ≤ r192.2.1 then (j284 ()) else (j285 (1 : Int32))) else (j284 ()))))))))) (fun j242 => (jn (fun z241 : Unit => (j242 (0 : Int32))) (fun j241 => (if (x3 - r192.2.1) ≤ (0 : Int64) then (j241 ()) else (jn (fun z237 : Unit => (j242 (1 : Int32))) (fun j237 => (if zz.1 = 0 then (j237 ()) else (if (zz.2.1 * (x3 - r192.2.1)) ≤ ((x1 - r192.1) * zz.2.2.1) then (j241 ()) else (j237 ())))))))))))))
noncomputable def s_Mo_findPlateaus_145 (r_all : Int64) (r_between : Nat → Int32) (r_has : Nat → Int32) (r_manner : Int32) (r_nodes : Int32) (zz : Int64 × Int64 × Int32 × Int64 × Int64 × (Nat → Int64) × (Nat → Int64) × (Nat → Int32) × Int32 × (Nat → Int32) × (Nat → Int64) × (Nat → Int64) × (Nat → Int64) × (Nat → Int32)) (back exit : (Int64 × Int64 × Int32 × Int64 × Int64 × (Nat → Int64) × (Nat → Int64) × (Nat → Int32) × Int32 × (Nat → Int32) × (Nat → Int64) × (Nat → Int64) × (Nat → Int64) × (Nat → Int32)) → Option (Int32 × Int64 × Int64 × Int64 × Int32 × (Nat → Int32) × (Nat → Int32) × (Nat → Int32) × (Nat → Int64) × (Nat → Int64) × (Nat → Int32) × (Nat → Int32) × (Nat → Int32) × (Nat → Int64) × (Nat → Int64) × (Nat → Int64))) : Option (Int32 × Int64 × Int64 × Int64 × Int32 × (Nat → Int32) × (Nat → Int32) × (Nat → Int32) × (Nat → Int64) × (Nat → Int64) × (Nat → Int32) × (Nat → Int32) × (Nat → Int32) × (Nat → Int64) × (Nat → Int64) × (Nat → Int64)) :=
  (if zz.2.2.1 = 0 then (exit (zz.1, zz.2.1, zz.2.2.1, zz.2.2.2.1, zz.2.2.2.2.1, zz.2.2.2.2.2.1, zz.2.2.2.2.2.2.1, zz.2.2.2.2.2.2.2.1, zz.2.2.2.2.2.2.2.2.1, zz.2.2.2.2.2.2.2.2.2.1, zz.2.2.2.2.2.2.2.2.2.2.1, zz.2.2.2.2.2.2.2.2.2.2.2.1, zz.2.2.2.2.2.2.2.2.2.2.2.2.1, zz.2.2.2.2.2.2.2.2.2.2.2.2.2)) else (if (1801 : Int32) ≤ zz.2.2.2.2.2.2.2.2.1 then (exit (zz.1, zz.2.1, zz.2.2.1, zz.2.2.2.1, zz.2.2.2.2.1, zz.2.2.2.2.2.1, zz.2.2.2.2.2.2.1, zz.2.2.2.2.2.2.2.1, zz.2.2.2.2.2.2.2.2.1, zz.2.2.2.2.2.2.2.2.2.1, zz.2.2.2.2.2.2.2.2.2.2.1, zz.2.2.2.2.2.2.2.2.2.2.2.1, zz.2.2.2.2.2.2.2.2.2.2.2.2.1, zz.2.2.2.2.2.2.2.2.2.2.2.2.2)) else ((m_Mo_first r_nodes zz.2.2.2.2.2.2.2.2.2.2.2.2.2).bind (fun r176 : (Nat → Int32) => (loopC (s_Mo_findPlateaus_182 zz.1 zz.2.1 r_all r_between r_has r_manner r_nodes) (fun z182 : Int32 × Int64 × Int64 × Int64 × Int64 × Int32 × Int64 × Int64 × (Nat → Int32) × (Nat → Int64) × (Nat → Int64) × (Nat → Int32) => (if z182.1 = 0 then (back (zz.1, zz.2.1, z182.1, z182.2.2.2.2.2.2.1, z182.2.2.2.2.2.2.2.1, zz.2.2.2.2.2.1, zz.2.2.2.2.2.2.1, z182.2.2.2.2.2.2.2.2.1, zz.2.2.2.2.2.2.2.2.1, zz.2.2.2.2.2.2.2.2.2.1, zz.2.2.2.2.2.2.2.2.2.2.1, z182.2.2.2.2.2.2.2.2.2.1, z182.2.2.2.2.2.2.2.2.2.2.1, z182.2.2.2.2.2.2.2.2.2.2.2)) else ((m_Mo_copy r_nodes z182.2.2.2.2.2.2.2.2.1 zz.2.2.2.2.2.2.2.2.2.1).bind (fun r361 : (Nat → Int32) => ((m_Mo_show r_nodes r361 zz.2.2.2.2.2.2.2.2.2.2.1 zz.2.2.2.2.2.2.2.2.1).bind (fun r369 : (Nat → Int64) => (if inb zz.2.2.2.2.2.2.2.2.1 1801 then (back (z182.2.2.2.1, z182.2.2.2.2.1, z182.1, z182.2.2.2.2.2.2.1, z182.2.2.2.2.2.2.2.1, (vp_updL zz.2.2.2.2.2.1 zz.2.2.2.2.2.2.2.2.1.toNatClampNeg z182.2.1), (vp_updL zz.2.2.2.2.2.2.1 zz.2.2.2.2.2.2.2.2.1.toNatClampNeg z182.2.2.1), z182.2.2.2.2.2.2.2.2.1, (zz.2.2.2.2.2.2.2.2.1 + (1 : Int32)), r361, r369, z182.2.2.2.2.2.2.2.2.2.1, z182.2.2.2.2.2.2.2.2.2.2.1, z182.2.2.2.2.2.2.2.2.2.2.2)) else none))))))) FU ((0 : Int32), (0 : Int64), (1 : Int64), (0 : Int64), (0 : Int64), (1 : Int32), zz.2.2.2.1, zz.2.2.2.2.1, zz.2.2.2.2.2.2.2.1, zz.2.2.2.2.2.2.2.2.2.2.2.1, zz.2.2.2.2.2.2.2.2.2.2.2.2.1, r176))))))
noncomputable def s_Mo_findPlateaus_51 (r_all : Int64) (r_between : Nat → Int32) (r_has : Nat → Int32) (r_manner : Int32) (r_nodes : Int32) (zz : Int64 × Int64 × Int64 × Int64 × (Nat → Int32) × (Nat → Int64) × (Nat → Int64) × (Nat → Int32)) (back exit : (Int64 × Int64 × Int64 × Int64 × (Nat → Int32) × (Nat → Int64) × (Nat → Int64) × (Nat → Int32)) → Option (Int32 × Int64 × Int64 × Int64 × Int32 × (Nat → Int32) × (Nat → Int32) × (Nat → Int32) × (Nat → Int64) × (Nat → Int64) × (Nat → Int32) × (Nat → Int32) × (Nat → Int32) × (Nat → Int64) × (Nat → Int64) × (Nat → Int64))) : Option (Int32 × Int64 × Int64 × Int64 × Int32 × (Nat → Int32) × (Nat → Int32) × (Nat → Int32) × (Nat → Int64) × (Nat → Int64) × (Nat → Int32) × (Nat → Int32) × (Nat → Int32) × (Nat → Int64) × (Nat → Int64) × (Nat → Int64)) :=
  ((m_Mo_next r_nodes zz.2.2.2.2.2.2.2).bind (fun r52 : Int32 × (Nat → Int32) => (if r52.1 = 0 then (exit (zz.1, zz.2.1, zz.2.2.1, zz.2.2.2.1, zz.2.2.2.2.1, zz.2.2.2.2.2.1, zz.2.2.2.2.2.2.1, r52.2)) else ((m_Mo_judge r_manner r_nodes r_all r_between r_has zz.2.2.2.2.2.2.1 zz.2.2.2.2.2.1 r52.2).bind (fun r63 : Int64 × Int64 × (Nat → Int64) × (Nat → Int64) => (jn (fun z93 : Unit => ((m_Mo_copy r_nodes r52.2 zz.2.2.2.2.1).bind (fun r112 : (Nat → Int32) => (back (r63.1, r63.2.1, r63.1, r63.2.1, r112, r63.2.2.2, r63.2.2.1, r52.2))))) (fun j93 => (if zz.1 < r63.1 then (j93 ()) else (if r63.1 = zz.1 then (if zz.2.1 ≤ r63.2.1 then (back (zz.1, zz.2.1, r63.1, r63.2.1, zz.2.2.2.2.1, r63.2.2.2, r63.2.2.1, r52.2)) else (j93 ())) else (back (zz.1, zz.2.1, r63.1, r63.2.1, zz.2.2.2.2.1, r63.2.2.2, r63.2.2.1, r52.2)))))))))))
noncomputable def m_Mo_findPlateaus (r_manner : Int32) (r_nodes : Int32) (r_arcs : Int32) (r_arePlateaus : Int32) (r_all : Int64) (r_a : Int64) (r_b : Int64) (r_plateaus : Int32) (r_ones : Nat → Int32) (r_others : Nat → Int32) (r_weights : Nat → Int32) (r_there : Nat → Int32) (r_between : Nat → Int32) (r_joins : Nat → Int32) (r_has : Nat → Int32) (r_sums : Nat → Int64) (r_sizes : Nat → Int64) (r_walk : Nat → Int32) (r_found : Nat → Int32) (r_shown : Nat → Int32) (r_beginsAbove : Nat → Int64) (r_beginsBelow : Nat → Int64) (r_shownOf : Nat → Int64) : Option (Int32 × Int64 × Int64 × Int64 × Int32 × (Nat → Int32) × (Nat → Int32) × (Nat → Int32) × (Nat → Int64) × (Nat → Int64) × (Nat → Int32) × (Nat → Int32) × (Nat → Int32) × (Nat → Int64) × (Nat → Int64) × (Nat → Int64)) :=
  (if r_arePlateaus = 0 then ((m_Mo_weigh r_manner r_arcs r_ones r_others r_weights r_there r_between r_joins r_has).bind (fun r14 : Int64 × (Nat → Int32) × (Nat → Int32) × (Nat → Int32) => ((m_Mo_first r_nodes r_walk).bind (fun r18 : (Nat → Int32) => ((m_Mo_judge r_manner r_nodes r14.1 r14.2.1 r14.2.2.2 r_sums r_sizes r18).bind (fun r26 : Int64 × Int64 × (Nat → Int64) × (Nat → Int64) => ((m_Mo_copy r_nodes r18 r_shown).bind (fun r48 : (Nat → Int32) => (loopC (s_Mo_findPlateaus_51 r14.1 r14.2.1 r14.2.2.2 r_manner r_nodes) (fun z51 : Int64 × Int64 × Int64 × Int64 × (Nat → Int32) × (Nat → Int64) × (Nat → Int64) × (Nat → Int32) => ((m_Mo_show r_nodes z51.2.2.2.2.1 r_shownOf (0 : Int32)).bind (fun r125 : (Nat → Int64) => (if inb (0 : Int32) 1801 then (loopC (s_Mo_findPlateaus_145 r14.1 r14.2.1 r14.2.2.2 r_manner r_nodes) (fun z145 : Int64 × Int64 × Int32 × Int64 × Int64 × (Nat → Int64) × (Nat → Int64) × (Nat → Int32) × Int32 × (Nat → Int32) × (Nat → Int64) × (Nat → Int64) × (Nat → Int64) × (Nat → Int32) => some ((1 : Int32), r14.1, z145.2.2.2.1, z145.2.2.2.2.1, z145.2.2.2.2.2.2.2.2.1, r14.2.1, r14.2.2.1, r14.2.2.2, z145.2.2.2.2.2.2.2.2.2.2.2.2.1, z145.2.2.2.2.2.2.2.2.2.2.2.1, z145.2.2.2.2.2.2.2.2.2.2.2.2.2, z145.2.2.2.2.2.2.2.1, z145.2.2.2.2.2.2.2.2.2.1, z145.2.2.2.2.2.1, z145.2.2.2.2.2.2.1, z145.2.2.2.2.2.2.2.2.2.2.1)) FU (z51.1, z51.2.1, (1 : Int32), z51.2.2.1, z51.2.2.2.1, (vp_updL r_beginsAbove (0 : Int32).toNatClampNeg (0 : Int64)), (vp_updL r_beginsBelow (0 : Int32).toNatClampNeg (1 : Int64)), r_found, (1 : Int32), z51.2.2.2.2.1, r125, z51.2.2.2.2.2.1, z51.2.2.2.2.2.2.1, z51.2.2.2.2.2.2.2)) else none)))) FU (r26.1, r26.2.1, r26.1, r26.2.1, r48, r26.2.2.2, r26.2.2.1, r18)))))))))) else some (r_arePlateaus, r_all, r_a, r_b, r_plateaus, r_between, r_joins, r_has, r_sums, r_sizes, r_walk, r_found, r_shown, r_beginsAbove, r_beginsBelow, r_shownOf))
set_option maxHeartbeats 4000000 in
set_option maxRecDepth 100000 in
theorem c_Mo_findPlateaus (l : Launch) (D : va_G) (cA : Nat → ClassId) (a_r : Nat → Nat) (sz : Nat) (r_manner : Int32) (r_above : Int32) (r_below : Int32) (r_nodes : Int32) (r_arcs : Int32) (r_left : Int32) (r_isBest : Int32) (r_arePlateaus : Int32) (r_all : Int64) (r_a : Int64) (r_b : Int64) (r_ties : Int32) (r_z : Int32) (r_plateaus : Int32) (r_ones : Nat → Int32) (r_others : Nat → Int32) (r_weights : Nat → Int32) (r_there : Nat → Int32) (r_between : Nat → Int32) (r_joins : Nat → Int32) (r_has : Nat → Int32) (r_sums : Nat → Int64) (r_sizes : Nat → Int64) (r_walk : Nat → Int32) (r_found : Nat → Int32) (r_shown : Nat → Int32) (r_beginsAbove : Nat → Int64) (r_beginsBelow : Nat → Int64) (r_shownOf : Nat → Int64)  (out : Int32 × Int64 × Int64 × Int64 × Int32 × (Nat → Int32) × (Nat → Int32) × (Nat → Int32) × (Nat → Int64) × (Nat → Int64) × (Nat → Int32) × (Nat → Int32) × (Nat → Int32) × (Nat → Int64) × (Nat → Int64) × (Nat → Int64)) (h : m_Mo_findPlateaus r_manner r_nodes r_arcs r_arePlateaus r_all r_a r_b r_plateaus r_ones r_others r_weights r_there r_between r_joins r_has r_sums r_sizes r_walk r_found r_shown r_beginsAbove r_beginsBelow r_shownOf = some out) : Met l y_Mo_findPlateaus w_Mo_findPlateaus ({ frames := 2, cells := 0, slots := 0, locals := 42 }) (va_Pc [.ref (a_r 0)] (fun U => U.heap.size = sz ∧ va_P D cls9 (wd_Mo_findPlateaus cA a_r r_manner r_above r_below r_nodes r_arcs r_left r_isBest r_arePlateaus r_all r_a r_b r_ties r_z r_plateaus r_ones r_others r_weights r_there r_between r_joins r_has r_sums r_sizes r_walk r_found r_shown r_beginsAbove r_beginsBelow r_shownOf) U.heap ∧ va_K D cls9 (tys5 cA) U ∧ va_D (fun _ => True) (wd_Mo_findPlateaus cA a_r r_manner r_above r_below r_nodes r_arcs r_left r_isBest r_arePlateaus r_all r_a r_b r_ties r_z r_plateaus r_ones r_others r_weights r_there r_between r_joins r_has r_sums r_sizes r_walk r_found r_shown r_beginsAbove r_beginsBelow r_shownOf))) (va_Qv (fun uu : Int32 × Int64 × Int64 × Int64 × Int32 × (Nat → Int32) × (Nat → Int32) × (Nat → Int32) × (Nat → Int64) × (Nat → Int64) × (Nat → Int32) × (Nat → Int32) × (Nat → Int32) × (Nat → Int64) × (Nat → Int64) × (Nat → Int64) => uu = out) (fun (uu : Int32 × Int64 × Int64 × Int64 × Int32 × (Nat → Int32) × (Nat → Int32) × (Nat → Int32) × (Nat → Int64) × (Nat → Int64) × (Nat → Int32) × (Nat → Int32) × (Nat → Int32) × (Nat → Int64) × (Nat → Int64) × (Nat → Int64)) (t : State) => va_P D cls9 (wd_Mo_findPlateaus cA a_r r_manner r_above r_below r_nodes r_arcs r_left r_isBest uu.1 uu.2.1 uu.2.2.1 uu.2.2.2.1 r_ties r_z uu.2.2.2.2.1 r_ones r_others r_weights r_there uu.2.2.2.2.2.1 uu.2.2.2.2.2.2.1 uu.2.2.2.2.2.2.2.1 uu.2.2.2.2.2.2.2.2.1 uu.2.2.2.2.2.2.2.2.2.1 uu.2.2.2.2.2.2.2.2.2.2.1 uu.2.2.2.2.2.2.2.2.2.2.2.1 uu.2.2.2.2.2.2.2.2.2.2.2.2.1 uu.2.2.2.2.2.2.2.2.2.2.2.2.2.1 uu.2.2.2.2.2.2.2.2.2.2.2.2.2.2.1 uu.2.2.2.2.2.2.2.2.2.2.2.2.2.2.2) t.heap ∧ va_K D cls9 (tys5 cA) t ∧ va_D (va_A (wd_Mo_findPlateaus cA a_r r_manner r_above r_below r_nodes r_arcs r_left r_isBest r_arePlateaus r_all r_a r_b r_ties r_z r_plateaus r_ones r_others r_weights r_there r_between r_joins r_has r_sums r_sizes r_walk r_found r_shown r_beginsAbove r_beginsBelow r_shownOf) sz) (wd_Mo_findPlateaus cA a_r r_manner r_above r_below r_nodes r_arcs r_left r_isBest uu.1 uu.2.1 uu.2.2.1 uu.2.2.2.1 r_ties r_z uu.2.2.2.2.1 r_ones r_others r_weights r_there uu.2.2.2.2.2.1 uu.2.2.2.2.2.2.1 uu.2.2.2.2.2.2.2.1 uu.2.2.2.2.2.2.2.2.1 uu.2.2.2.2.2.2.2.2.2.1 uu.2.2.2.2.2.2.2.2.2.2.1 uu.2.2.2.2.2.2.2.2.2.2.2.1 uu.2.2.2.2.2.2.2.2.2.2.2.2.1 uu.2.2.2.2.2.2.2.2.2.2.2.2.2.1 uu.2.2.2.2.2.2.2.2.2.2.2.2.2.2.1 uu.2.2.2.2.2.2.2.2.2.2.2.2.2.2.2)) (va_A (wd_Mo_findPlateaus cA a_r r_manner r_above r_below r_nodes r_arcs r_left r_isBest r_arePlateaus r_all r_a r_b r_ties r_z r_plateaus r_ones r_others r_weights r_there r_between r_joins r_has r_sums r_sizes r_walk r_found r_shown r_beginsAbove r_beginsBelow r_shownOf) sz)) 0 0 (va_A (wd_Mo_findPlateaus cA a_r r_manner r_above r_below r_nodes r_arcs r_left r_isBest r_arePlateaus r_all r_a r_b r_ties r_z r_plateaus r_ones r_others r_weights r_there r_between r_joins r_has r_sums r_sizes r_walk r_found r_shown r_beginsAbove r_beginsBelow r_shownOf) sz) := by
  refine Met.ofW (cc := b_Mo_findPlateaus) (maxL := 21) (ret := (Option.none : Option Jvm.ClassFile.FieldType)) (by decide) rfl ?_
  intro p e s m args below meth c s₁ B hml hv
  obtain ⟨rfl, hsz, hP, hK, hD0⟩ := hv
  have hx := B.exec
  have hb := B.bytes
  have hr := B.returns
  have hts := atoms_spec (ws := w_Mo_findPlateaus) B.pre
  have hal : ∀ w ∈ ALLW, w.before _ s = true := fun w hw => hts w (List.mem_cons_of_mem _ hw)
  have hown : s.vm.findClass R_Mo = some m.cls := findClass_of_methodNamed B.named
  have hlocks := B.notSynchronized
  subst hsz
  have hD := hD0.self (sz := s.heap.size)
  generalize hAe : va_A (wd_Mo_findPlateaus cA a_r r_manner r_above r_below r_nodes r_arcs r_left r_isBest r_arePlateaus r_all r_a r_b r_ties r_z r_plateaus r_ones r_others r_weights r_there r_between r_joins r_has r_sums r_sizes r_walk r_found r_shown r_beginsAbove r_beginsBelow r_shownOf) s.heap.size = A at hD ⊢
  have hA : ∀ q : Nat, s.heap.size ≤ q → A q := fun q h => by rw [← hAe]; exact Or.inr h
  have hS : va_S A s.heap s.heap [] := va_S.rf
  have hl := lv_entry ([.ref (a_r 0)]) (n := 21) (Nat.le_of_ble_eq_true rfl)
  rw [lg_entry_eq]
  generalize (lg_sl ([.ref (a_r 0)]) ++ List.replicate (21 - (lg_sl ([.ref (a_r 0)])).length) Slot.unset).toArray = ls at hl ⊢
  have hl : lv_has ls 21 [(0, .ref (a_r 0))] := hl
  refine wg (fun G hG => ?_)
  refine cast (hG _ _ _ _ _ _ _).symm ?_
  obtain ⟨H, locs, hHl, hS⟩ : ∃ (H : Heap) (locs : List Loc), (H = s.heap ∧ locs = []) ∧ va_S A s.heap H locs := ⟨s.heap, [], ⟨rfl, rfl⟩, hS⟩
  have hP : va_P D cls9 (wd_Mo_findPlateaus cA a_r r_manner r_above r_below r_nodes r_arcs r_left r_isBest r_arePlateaus r_all r_a r_b r_ties r_z r_plateaus r_ones r_others r_weights r_there r_between r_joins r_has r_sums r_sizes r_walk r_found r_shown r_beginsAbove r_beginsBelow r_shownOf) H := by rw [hHl.1]; exact hP
  rw [← hHl.1, ← hHl.2]
  clear hHl
  refine lv_aload_n hx hb d_Mo_findPlateaus_0 rfl (lv_at hl 0 rfl) ?_
  refine va_get (ci := 8) (v := .int r_arePlateaus) (C := R_Mo) (T := F_Mo) (N := 36) hx hb hal in_Mo hown hK hP 0 rfl rfl 12 (by decide) (hal _ kw_649) (fun _ h9 => h9) rfl d_Mo_findPlateaus_1 ?_
  refine lv_if_eq (tgt := 8) hx hb d_Mo_findPlateaus_4 (by decide) (fun c_1 => ?_) (fun c_1 => ?_)
  · have h := ifp (c_1) h
    refine lv_aload_n hx hb d_Mo_findPlateaus_8 rfl (lv_at hl 0 rfl) ?_
    refine lv_iconst (v := 1) hx hb d_Mo_findPlateaus_9 (by decide) ?_
    refine va_put (ci := 8) (v := .int (1 : Int32)) (ty := .boolean) (C := R_Mo) (T := F_Mo) (N := 36) hx hb hal in_Mo t_Mo t_Mo_ok n_Mo hown hK hP hD hS 0 rfl rfl 12 (by decide) (hal _ kw_649) (fun _ h9 => h9) rfl (by decide +kernel) (by decide) (by decide) (Nat.le_of_ble_eq_true rfl) d_Mo_findPlateaus_10 (fun H locs hP hD hS => ?_)
    have hP : va_P D cls9 (wd_Mo_findPlateaus cA a_r r_manner r_above r_below r_nodes r_arcs r_left r_isBest (1 : Int32) r_all r_a r_b r_ties r_z r_plateaus r_ones r_others r_weights r_there r_between r_joins r_has r_sums r_sizes r_walk r_found r_shown r_beginsAbove r_beginsBelow r_shownOf) H := hP
    have hD : va_D A (wd_Mo_findPlateaus cA a_r r_manner r_above r_below r_nodes r_arcs r_left r_isBest (1 : Int32) r_all r_a r_b r_ties r_z r_plateaus r_ones r_others r_weights r_there r_between r_joins r_has r_sums r_sizes r_walk r_found r_shown r_beginsAbove r_beginsBelow r_shownOf) := hD
    refine lv_aload_n hx hb d_Mo_findPlateaus_13 rfl (lv_at hl 0 rfl) ?_
    obtain ⟨o_9, hc_8, h⟩ := bd h
    have hPc := hP.sub (ws' := (wd_Mo_weigh cA a_r r_manner r_above r_below r_nodes r_arcs r_left r_isBest (1 : Int32) r_all r_a r_b r_ties r_z r_plateaus r_ones r_others r_weights r_there r_between r_joins r_has)) [0, 1, 2, 3, 4, 5, 6, 7] rfl
    have hDc := hD.sub (ws' := (wd_Mo_weigh cA a_r r_manner r_above r_below r_nodes r_arcs r_left r_isBest (1 : Int32) r_all r_a r_b r_ties r_z r_plateaus r_ones r_others r_weights r_there r_between r_joins r_has)) [0, 1, 2, 3, 4, 5, 6, 7] (by decide) rfl
    have hFc := va_free (wc := (wd_Mo_weigh cA a_r r_manner r_above r_below r_nodes r_arcs r_left r_isBest (1 : Int32) r_all r_a r_b r_ties r_z r_plateaus r_ones r_others r_weights r_there r_between r_joins r_has)) hD hS hA [0, 1, 2, 3, 4, 5, 6, 7] rfl
    refine va_callv (va_runV (C := R_Mo) (As := []) (rest := []) ⟨hx, hb, hml, hown, hal⟩ (c_Mo_weigh l D cA a_r H.size r_manner r_above r_below r_nodes r_arcs r_left r_isBest (1 : Int32) r_all r_a r_b r_ties r_z r_plateaus r_ones r_others r_weights r_there r_between r_joins r_has o_9 hc_8) (cwV 0 hal (goodV kw_803 kw_805 kw_p30 kw_9 kw_806) rfl rfl rfl (by decide +kernel) ⟨Nat.le_of_ble_eq_true rfl, Nat.le_of_ble_eq_true rfl⟩) ⟨fun a U g mk q => by obtain ⟨q0, q1, qP, qK, qD⟩ := q; exact ⟨q0, q1, qP, va_K.moved (u := U) (U := U.calling g mk a) (Vm.Alike.refl U.vm) qK, qD⟩, va_recv hK hP (ci := 8) (q0 := 0) rfl rfl, fun U hU hW => ⟨rfl, by rw [hU], by rw [hU]; exact hPc, va_K.moved hW.alike hK, hDc.weaken (fun _ _ _ _ => trivial)⟩⟩ rfl rfl hl.1 rfl (lv_room (Nat.le_of_ble_eq_true rfl)) d_Mo_findPlateaus_14 ⟨Nat.le_of_ble_eq_true rfl, Nat.le_of_ble_eq_true rfl⟩) hS (fun q _ h => hFc q h) hFc (fun u t H1 locs ht hvm hw hB hz1 hk1 hS => ?_)
    obtain ⟨u_4, u_5, u_6, u_7⟩ := u
    subst hw
    obtain ⟨hP1, hK1, hD1⟩ := hB
    rw [ht] at hP1
    have hP1 : va_P D cls9 (wd_Mo_weigh cA a_r r_manner r_above r_below r_nodes r_arcs r_left r_isBest (1 : Int32) u_4 r_a r_b r_ties r_z r_plateaus r_ones r_others r_weights r_there u_5 u_6 u_7) H1 := hP1
    obtain ⟨hP, hD⟩ := va_join (wr := ([8, 9, 10, 11, 12, 13, 14, 15] : List Nat).filterMap (fun i => (wd_Mo_findPlateaus cA a_r r_manner r_above r_below r_nodes r_arcs r_left r_isBest (1 : Int32) r_all r_a r_b r_ties r_z r_plateaus r_ones r_others r_weights r_there r_between r_joins r_has r_sums r_sizes r_walk r_found r_shown r_beginsAbove r_beginsBelow r_shownOf)[i]?)) (w1 := (wd_Mo_weigh cA a_r r_manner r_above r_below r_nodes r_arcs r_left r_isBest (1 : Int32) u_4 r_a r_b r_ties r_z r_plateaus r_ones r_others r_weights r_there u_5 u_6 u_7)) hP hD [0, 1, 2, 3, 4, 5, 6, 7] [8, 9, 10, 11, 12, 13, 14, 15] rfl rfl (by decide) (by decide) hk1 hFc hP1 hD1
    generalize H1 = H at hP hS ⊢
    have hP : va_P D cls9 (wd_Mo_findPlateaus cA a_r r_manner r_above r_below r_nodes r_arcs r_left r_isBest (1 : Int32) u_4 r_a r_b r_ties r_z r_plateaus r_ones r_others r_weights r_there u_5 u_6 u_7 r_sums r_sizes r_walk r_found r_shown r_beginsAbove r_beginsBelow r_shownOf) H := hP.sub [8, 9, 10, 11, 12, 13, 14, 15, 0, 1, 2, 3, 4, 5, 6, 7] rfl
    have hD : va_D A (wd_Mo_findPlateaus cA a_r r_manner r_above r_below r_nodes r_arcs r_left r_isBest (1 : Int32) u_4 r_a r_b r_ties r_z r_plateaus r_ones r_others r_weights r_there u_5 u_6 u_7 r_sums r_sizes r_walk r_found r_shown r_beginsAbove r_beginsBelow r_shownOf) := hD.sub [8, 9, 10, 11, 12, 13, 14, 15, 0, 1, 2, 3, 4, 5, 6, 7] (by decide) rfl
    refine lv_aload_n hx hb d_Mo_findPlateaus_17 rfl (lv_at hl 0 rfl) ?_
    obtain ⟨o_14, hc_13, h⟩ := bd h
    have hPc := hP.sub (ws' := (wd_Mo_first cA a_r r_manner r_above r_below r_nodes r_arcs r_left r_isBest (1 : Int32) u_4 r_a r_b r_ties r_z r_plateaus r_walk)) [0, 10] rfl
    have hDc := hD.sub (ws' := (wd_Mo_first cA a_r r_manner r_above r_below r_nodes r_arcs r_left r_isBest (1 : Int32) u_4 r_a r_b r_ties r_z r_plateaus r_walk)) [0, 10] (by decide) rfl
    have hFc := va_free (wc := (wd_Mo_first cA a_r r_manner r_above r_below r_nodes r_arcs r_left r_isBest (1 : Int32) u_4 r_a r_b r_ties r_z r_plateaus r_walk)) hD hS hA [0, 10] rfl
    refine va_callv (va_runV (C := R_Mo) (As := []) (rest := []) ⟨hx, hb, hml, hown, hal⟩ (c_Mo_first l D cA a_r H.size r_manner r_above r_below r_nodes r_arcs r_left r_isBest (1 : Int32) u_4 r_a r_b r_ties r_z r_plateaus r_walk o_14 hc_13) (cwV 0 hal (goodV kw_865 kw_867 kw_p39 kw_9 kw_868) rfl rfl rfl (by decide +kernel) ⟨Nat.le_of_ble_eq_true rfl, Nat.le_of_ble_eq_true rfl⟩) ⟨fun a U g mk q => by obtain ⟨q0, q1, qP, qK, qD⟩ := q; exact ⟨q0, q1, qP, va_K.moved (u := U) (U := U.calling g mk a) (Vm.Alike.refl U.vm) qK, qD⟩, va_recv hK hP (ci := 8) (q0 := 0) rfl rfl, fun U hU hW => ⟨rfl, by rw [hU], by rw [hU]; exact hPc, va_K.moved hW.alike hK, hDc.weaken (fun _ _ _ _ => trivial)⟩⟩ rfl rfl hl.1 rfl (lv_room (Nat.le_of_ble_eq_true rfl)) d_Mo_findPlateaus_18 ⟨Nat.le_of_ble_eq_true rfl, Nat.le_of_ble_eq_true rfl⟩) hS (fun q _ h => hFc q h) hFc (fun u t H1 locs ht hvm hw hB hz1 hk1 hS => ?_)
    obtain ⟨u_12, rfl⟩ : ∃ q, q = u := ⟨_, rfl⟩
    subst hw
    obtain ⟨hP1, hK1, hD1⟩ := hB
    rw [ht] at hP1
    have hP1 : va_P D cls9 (wd_Mo_first cA a_r r_manner r_above r_below r_nodes r_arcs r_left r_isBest (1 : Int32) u_4 r_a r_b r_ties r_z r_plateaus u_12) H1 := hP1
    obtain ⟨hP, hD⟩ := va_join (wr := ([1, 2, 3, 4, 5, 6, 7, 8, 9, 11, 12, 13, 14, 15] : List Nat).filterMap (fun i => (wd_Mo_findPlateaus cA a_r r_manner r_above r_below r_nodes r_arcs r_left r_isBest (1 : Int32) u_4 r_a r_b r_ties r_z r_plateaus r_ones r_others r_weights r_there u_5 u_6 u_7 r_sums r_sizes r_walk r_found r_shown r_beginsAbove r_beginsBelow r_shownOf)[i]?)) (w1 := (wd_Mo_first cA a_r r_manner r_above r_below r_nodes r_arcs r_left r_isBest (1 : Int32) u_4 r_a r_b r_ties r_z r_plateaus u_12)) hP hD [0, 10] [1, 2, 3, 4, 5, 6, 7, 8, 9, 11, 12, 13, 14, 15] rfl rfl (by decide) (by decide) hk1 hFc hP1 hD1
    generalize H1 = H at hP hS ⊢
    have hP : va_P D cls9 (wd_Mo_findPlateaus cA a_r r_manner r_above r_below r_nodes r_arcs r_left r_isBest (1 : Int32) u_4 r_a r_b r_ties r_z r_plateaus r_ones r_others r_weights r_there u_5 u_6 u_7 r_sums r_sizes u_12 r_found r_shown r_beginsAbove r_beginsBelow r_shownOf) H := hP.sub [14, 0, 1, 2, 3, 4, 5, 6, 7, 8, 15, 9, 10, 11, 12, 13] rfl
    have hD : va_D A (wd_Mo_findPlateaus cA a_r r_manner r_above r_below r_nodes r_arcs r_left r_isBest (1 : Int32) u_4 r_a r_b r_ties r_z r_plateaus r_ones r_others r_weights r_there u_5 u_6 u_7 r_sums r_sizes u_12 r_found r_shown r_beginsAbove r_beginsBelow r_shownOf) := hD.sub [14, 0, 1, 2, 3, 4, 5, 6, 7, 8, 15, 9, 10, 11, 12, 13] (by decide) rfl
    refine lv_aload_n hx hb d_Mo_findPlateaus_21 rfl (lv_at hl 0 rfl) ?_
    refine lv_aload_n hx hb d_Mo_findPlateaus_22 rfl (lv_at hl 0 rfl) ?_
    refine va_get (ci := 8) (v := .ref (a_r 13)) (C := R_Mo) (T := F_Mo) (N := 36) hx hb hal in_Mo hown hK hP 0 rfl rfl 23 (by decide) (hal _ kw_660) (fun _ h9 => h9) rfl d_Mo_findPlateaus_23 ?_
    obtain ⟨o_22, hc_21, h⟩ := bd h
    have hPc := hP.sub (ws' := (wd_Mo_judge cA a_r (fun _ => a_r 13) r_manner r_above r_below r_nodes r_arcs r_left r_isBest (1 : Int32) u_4 r_a r_b r_ties r_z r_plateaus u_5 u_7 r_sums r_sizes u_12)) [0, 5, 7, 8, 9, 10] rfl
    have hDc := hD.sub (ws' := (wd_Mo_judge cA a_r (fun _ => a_r 13) r_manner r_above r_below r_nodes r_arcs r_left r_isBest (1 : Int32) u_4 r_a r_b r_ties r_z r_plateaus u_5 u_7 r_sums r_sizes u_12)) [0, 5, 7, 8, 9, 10] (by decide) rfl
    have hFc := va_free (wc := (wd_Mo_judge cA a_r (fun _ => a_r 13) r_manner r_above r_below r_nodes r_arcs r_left r_isBest (1 : Int32) u_4 r_a r_b r_ties r_z r_plateaus u_5 u_7 r_sums r_sizes u_12)) hD hS hA [0, 5, 7, 8, 9, 10] rfl
    refine va_callv (va_runV (C := R_Mo) (As := [.ref (a_r 13)]) (rest := []) ⟨hx, hb, hml, hown, hal⟩ (c_Mo_judge l D cA a_r (fun _ => a_r 13) H.size r_manner r_above r_below r_nodes r_arcs r_left r_isBest (1 : Int32) u_4 r_a r_b r_ties r_z r_plateaus u_5 u_7 r_sums r_sizes u_12 o_22 hc_21) (cwV 1 hal (goodV kw_815 kw_817 kw_p33 kw_9 kw_818) rfl rfl rfl (by decide +kernel) ⟨Nat.le_of_ble_eq_true rfl, Nat.le_of_ble_eq_true rfl⟩) ⟨fun a U g mk q => by obtain ⟨q0, q1, qP, qK, qD⟩ := q; exact ⟨q0, q1, qP, va_K.moved (u := U) (U := U.calling g mk a) (Vm.Alike.refl U.vm) qK, qD⟩, va_recv hK hP (ci := 8) (q0 := 0) rfl rfl, fun U hU hW => ⟨rfl, by rw [hU], by rw [hU]; exact hPc, va_K.moved hW.alike hK, hDc.weaken (fun _ _ _ _ => trivial)⟩⟩ rfl rfl hl.1 rfl (lv_room (Nat.le_of_ble_eq_true rfl)) d_Mo_findPlateaus_26 ⟨Nat.le_of_ble_eq_true rfl, Nat.le_of_ble_eq_true rfl⟩) hS (fun q _ h => hFc q h) hFc (fun u t H1 locs ht hvm hw hB hz1 hk1 hS => ?_)
    obtain ⟨u_17, u_18, u_19, u_20⟩ := u
    subst hw
    obtain ⟨hP1, hK1, hD1⟩ := hB
    rw [ht] at hP1
    have hP1 : va_P D cls9 (wd_Mo_judge cA a_r (fun _ => a_r 13) r_manner r_above r_below r_nodes r_arcs r_left r_isBest (1 : Int32) u_4 u_17 u_18 r_ties r_z r_plateaus u_5 u_7 u_19 u_20 u_12) H1 := hP1
    obtain ⟨hP, hD⟩ := va_join (wr := ([1, 2, 3, 4, 6, 11, 12, 13, 14, 15] : List Nat).filterMap (fun i => (wd_Mo_findPlateaus cA a_r r_manner r_above r_below r_nodes r_arcs r_left r_isBest (1 : Int32) u_4 r_a r_b r_ties r_z r_plateaus r_ones r_others r_weights r_there u_5 u_6 u_7 r_sums r_sizes u_12 r_found r_shown r_beginsAbove r_beginsBelow r_shownOf)[i]?)) (w1 := (wd_Mo_judge cA a_r (fun _ => a_r 13) r_manner r_above r_below r_nodes r_arcs r_left r_isBest (1 : Int32) u_4 u_17 u_18 r_ties r_z r_plateaus u_5 u_7 u_19 u_20 u_12)) hP hD [0, 5, 7, 8, 9, 10] [1, 2, 3, 4, 6, 11, 12, 13, 14, 15] rfl rfl (by decide) (by decide) hk1 hFc hP1 hD1
    generalize H1 = H at hP hS ⊢
    have hP : va_P D cls9 (wd_Mo_findPlateaus cA a_r r_manner r_above r_below r_nodes r_arcs r_left r_isBest (1 : Int32) u_4 u_17 u_18 r_ties r_z r_plateaus r_ones r_others r_weights r_there u_5 u_6 u_7 u_19 u_20 u_12 r_found r_shown r_beginsAbove r_beginsBelow r_shownOf) H := hP.sub [10, 0, 1, 2, 3, 11, 4, 12, 13, 14, 15, 5, 6, 7, 8, 9] rfl
    have hD : va_D A (wd_Mo_findPlateaus cA a_r r_manner r_above r_below r_nodes r_arcs r_left r_isBest (1 : Int32) u_4 u_17 u_18 r_ties r_z r_plateaus r_ones r_others r_weights r_there u_5 u_6 u_7 u_19 u_20 u_12 r_found r_shown r_beginsAbove r_beginsBelow r_shownOf) := hD.sub [10, 0, 1, 2, 3, 11, 4, 12, 13, 14, 15, 5, 6, 7, 8, 9] (by decide) rfl
    refine lv_aload_n hx hb d_Mo_findPlateaus_29 rfl (lv_at hl 0 rfl) ?_
    refine va_get (ci := 8) (v := .long u_17) (C := R_Mo) (T := F_Mo) (N := 36) hx hb hal in_Mo hown hK hP 0 rfl rfl 19 (by decide) (hal _ kw_656) (fun _ h9 => h9) rfl d_Mo_findPlateaus_30 ?_
    refine lv_lstore_n (lv' := [(1, .long u_17), (0, .ref (a_r 0))]) hx hb d_Mo_findPlateaus_33 rfl hl (by decide) rfl (fun ls hl => ?_)
    refine lv_aload_n hx hb d_Mo_findPlateaus_34 rfl (lv_at hl 1 rfl) ?_
    refine va_get (ci := 8) (v := .long u_18) (C := R_Mo) (T := F_Mo) (N := 36) hx hb hal in_Mo hown hK hP 0 rfl rfl 20 (by decide) (hal _ kw_657) (fun _ h9 => h9) rfl d_Mo_findPlateaus_35 ?_
    refine lv_lstore_n (lv' := [(3, .long u_18), (1, .long u_17), (0, .ref (a_r 0))]) hx hb d_Mo_findPlateaus_38 rfl hl (by decide) rfl (fun ls hl => ?_)
    refine lv_aload_n hx hb d_Mo_findPlateaus_39 rfl (lv_at hl 2 rfl) ?_
    refine lv_aload_n hx hb d_Mo_findPlateaus_40 rfl (lv_at hl 2 rfl) ?_
    refine va_get (ci := 8) (v := .ref (a_r 13)) (C := R_Mo) (T := F_Mo) (N := 36) hx hb hal in_Mo hown hK hP 0 rfl rfl 23 (by decide) (hal _ kw_660) (fun _ h9 => h9) rfl d_Mo_findPlateaus_41 ?_
    refine lv_aload_n hx hb d_Mo_findPlateaus_44 rfl (lv_at hl 2 rfl) ?_
    refine va_get (ci := 8) (v := .ref (a_r 19)) (C := R_Mo) (T := F_Mo) (N := 36) hx hb hal in_Mo hown hK hP 0 rfl rfl 32 (by decide) (hal _ kw_669) (fun _ h9 => h9) rfl d_Mo_findPlateaus_45 ?_
    obtain ⟨o_27, hc_26, h⟩ := bd h
    have hPc := hP.sub (ws' := (wd_Mo_copy cA a_r (fun _ => a_r 13) (fun _ => a_r 19) r_manner r_above r_below r_nodes r_arcs r_left r_isBest (1 : Int32) u_4 u_17 u_18 r_ties r_z r_plateaus u_12 r_shown)) [0, 10, 12] rfl
    have hDc := hD.sub (ws' := (wd_Mo_copy cA a_r (fun _ => a_r 13) (fun _ => a_r 19) r_manner r_above r_below r_nodes r_arcs r_left r_isBest (1 : Int32) u_4 u_17 u_18 r_ties r_z r_plateaus u_12 r_shown)) [0, 10, 12] (by decide) rfl
    have hFc := va_free (wc := (wd_Mo_copy cA a_r (fun _ => a_r 13) (fun _ => a_r 19) r_manner r_above r_below r_nodes r_arcs r_left r_isBest (1 : Int32) u_4 u_17 u_18 r_ties r_z r_plateaus u_12 r_shown)) hD hS hA [0, 10, 12] rfl
    refine va_callv (va_runV (C := R_Mo) (As := [.ref (a_r 13), .ref (a_r 19)]) (rest := []) ⟨hx, hb, hml, hown, hal⟩ (c_Mo_copy l D cA a_r (fun _ => a_r 13) (fun _ => a_r 19) H.size r_manner r_above r_below r_nodes r_arcs r_left r_isBest (1 : Int32) u_4 u_17 u_18 r_ties r_z r_plateaus u_12 r_shown o_27 hc_26) (cwV 2 hal (goodV kw_833 kw_835 kw_p35 kw_9 kw_836) rfl rfl rfl (by decide +kernel) ⟨Nat.le_of_ble_eq_true rfl, Nat.le_of_ble_eq_true rfl⟩) ⟨fun a U g mk q => by obtain ⟨q0, q1, qP, qK, qD⟩ := q; exact ⟨q0, q1, qP, va_K.moved (u := U) (U := U.calling g mk a) (Vm.Alike.refl U.vm) qK, qD⟩, va_recv hK hP (ci := 8) (q0 := 0) rfl rfl, fun U hU hW => ⟨rfl, by rw [hU], by rw [hU]; exact hPc, va_K.moved hW.alike hK, hDc.weaken (fun _ _ _ _ => trivial)⟩⟩ rfl rfl hl.1 rfl (lv_room (Nat.le_of_ble_eq_true rfl)) d_Mo_findPlateaus_48 ⟨Nat.le_of_ble_eq_true rfl, Nat.le_of_ble_eq_true rfl⟩) hS (fun q _ h => hFc q h) hFc (fun u t H1 locs ht hvm hw hB hz1 hk1 hS => ?_)
    obtain ⟨u_25, rfl⟩ : ∃ q, q = u := ⟨_, rfl⟩
    subst hw
    obtain ⟨hP1, hK1, hD1⟩ := hB
    rw [ht] at hP1
    have hP1 : va_P D cls9 (wd_Mo_copy cA a_r (fun _ => a_r 13) (fun _ => a_r 19) r_manner r_above r_below r_nodes r_arcs r_left r_isBest (1 : Int32) u_4 u_17 u_18 r_ties r_z r_plateaus u_12 u_25) H1 := hP1
    obtain ⟨hP, hD⟩ := va_join (wr := ([1, 2, 3, 4, 5, 6, 7, 8, 9, 11, 13, 14, 15] : List Nat).filterMap (fun i => (wd_Mo_findPlateaus cA a_r r_manner r_above r_below r_nodes r_arcs r_left r_isBest (1 : Int32) u_4 u_17 u_18 r_ties r_z r_plateaus r_ones r_others r_weights r_there u_5 u_6 u_7 u_19 u_20 u_12 r_found r_shown r_beginsAbove r_beginsBelow r_shownOf)[i]?)) (w1 := (wd_Mo_copy cA a_r (fun _ => a_r 13) (fun _ => a_r 19) r_manner r_above r_below r_nodes r_arcs r_left r_isBest (1 : Int32) u_4 u_17 u_18 r_ties r_z r_plateaus u_12 u_25)) hP hD [0, 10, 12] [1, 2, 3, 4, 5, 6, 7, 8, 9, 11, 13, 14, 15] rfl rfl (by decide) (by decide) hk1 hFc hP1 hD1
    generalize H1 = H at hP hS ⊢
    have hP : va_P D cls9 (wd_Mo_findPlateaus cA a_r r_manner r_above r_below r_nodes r_arcs r_left r_isBest (1 : Int32) u_4 u_17 u_18 r_ties r_z r_plateaus r_ones r_others r_weights r_there u_5 u_6 u_7 u_19 u_20 u_12 r_found u_25 r_beginsAbove r_beginsBelow r_shownOf) H := hP.sub [13, 0, 1, 2, 3, 4, 5, 6, 7, 8, 14, 9, 15, 10, 11, 12] rfl
    have hD : va_D A (wd_Mo_findPlateaus cA a_r r_manner r_above r_below r_nodes r_arcs r_left r_isBest (1 : Int32) u_4 u_17 u_18 r_ties r_z r_plateaus r_ones r_others r_weights r_there u_5 u_6 u_7 u_19 u_20 u_12 r_found u_25 r_beginsAbove r_beginsBelow r_shownOf) := hD.sub [13, 0, 1, 2, 3, 4, 5, 6, 7, 8, 14, 9, 15, 10, 11, 12] (by decide) rfl
    refine cast (hG _ _ _ _ _ _ _) (lp_go2 h (fun zz : Int64 × Int64 × Int64 × Int64 × (Nat → Int32) × (Nat → Int64) × (Nat → Int64) × (Nat → Int32) => ∀ (H : Heap) (locs : List Loc) (ls : Array Slot), va_P D cls9 (wd_Mo_findPlateaus cA a_r r_manner r_above r_below r_nodes r_arcs r_left r_isBest (1 : Int32) u_4 zz.2.2.1 zz.2.2.2.1 r_ties r_z r_plateaus r_ones r_others r_weights r_there u_5 u_6 u_7 zz.2.2.2.2.2.2.1 zz.2.2.2.2.2.1 zz.2.2.2.2.2.2.2 r_found zz.2.2.2.2.1 r_beginsAbove r_beginsBelow r_shownOf) H → va_D A (wd_Mo_findPlateaus cA a_r r_manner r_above r_below r_nodes r_arcs r_left r_isBest (1 : Int32) u_4 zz.2.2.1 zz.2.2.2.1 r_ties r_z r_plateaus r_ones r_others r_weights r_there u_5 u_6 u_7 zz.2.2.2.2.2.2.1 zz.2.2.2.2.2.1 zz.2.2.2.2.2.2.2 r_found zz.2.2.2.2.1 r_beginsAbove r_beginsBelow r_shownOf) → va_S A s.heap H locs → lv_has ls 21 [(3, .long zz.2.1), (1, .long zz.1), (0, .ref (a_r 0))] → G H locs 0 0 ls 118 []) ?_ (fun zz : Int64 × Int64 × Int64 × Int64 × (Nat → Int32) × (Nat → Int64) × (Nat → Int64) × (Nat → Int32) => ∀ (H : Heap) (locs : List Loc) (ls : Array Slot), va_P D cls9 (wd_Mo_findPlateaus cA a_r r_manner r_above r_below r_nodes r_arcs r_left r_isBest (1 : Int32) u_4 zz.2.2.1 zz.2.2.2.1 r_ties r_z r_plateaus r_ones r_others r_weights r_there u_5 u_6 u_7 zz.2.2.2.2.2.2.1 zz.2.2.2.2.2.1 zz.2.2.2.2.2.2.2 r_found zz.2.2.2.2.1 r_beginsAbove r_beginsBelow r_shownOf) H → va_D A (wd_Mo_findPlateaus cA a_r r_manner r_above r_below r_nodes r_arcs r_left r_isBest (1 : Int32) u_4 zz.2.2.1 zz.2.2.2.1 r_ties r_z r_plateaus r_ones r_others r_weights r_there u_5 u_6 u_7 zz.2.2.2.2.2.2.1 zz.2.2.2.2.2.1 zz.2.2.2.2.2.2.2 r_found zz.2.2.2.2.1 r_beginsAbove r_beginsBelow r_shownOf) → va_S A s.heap H locs → lv_has ls 21 [(3, .long zz.2.1), (1, .long zz.1), (0, .ref (a_r 0))] → G H locs 0 0 ls 51 []) ?_ _ _ ls hP hD hS (lv_sub hl [0, 1, 2] rfl))
    · intro zz h H locs ls hP hD hS hl
      obtain ⟨x1_51e, x3_51e, r_a_51e, r_b_51e, r_shown_51e, r_sizes_51e, r_sums_51e, r_walk_51e⟩ := zz
      have hP : va_P D cls9 (wd_Mo_findPlateaus cA a_r r_manner r_above r_below r_nodes r_arcs r_left r_isBest (1 : Int32) u_4 r_a_51e r_b_51e r_ties r_z r_plateaus r_ones r_others r_weights r_there u_5 u_6 u_7 r_sums_51e r_sizes_51e r_walk_51e r_found r_shown_51e r_beginsAbove r_beginsBelow r_shownOf) H := hP
      have hD : va_D A (wd_Mo_findPlateaus cA a_r r_manner r_above r_below r_nodes r_arcs r_left r_isBest (1 : Int32) u_4 r_a_51e r_b_51e r_ties r_z r_plateaus r_ones r_others r_weights r_there u_5 u_6 u_7 r_sums_51e r_sizes_51e r_walk_51e r_found r_shown_51e r_beginsAbove r_beginsBelow r_shownOf) := hD
      have hl : lv_has ls 21 [(3, .long x3_51e), (1, .long x1_51e), (0, .ref (a_r 0))] := hl
      refine cast (hG _ _ _ _ _ _ _).symm ?_
      refine lv_aload_n hx hb d_Mo_findPlateaus_118 rfl (lv_at hl 2 rfl) ?_
      refine lv_iconst (v := 1) hx hb d_Mo_findPlateaus_119 (by decide) ?_
      refine va_put (ci := 8) (v := .int (1 : Int32)) (ty := .int) (C := R_Mo) (T := F_Mo) (N := 36) hx hb hal in_Mo t_Mo t_Mo_ok n_Mo hown hK hP hD hS 0 rfl rfl 31 (by decide) (hal _ kw_668) (fun _ h9 => h9) rfl (by decide +kernel) rfl rfl (Nat.le_of_ble_eq_true rfl) d_Mo_findPlateaus_120 (fun H locs hP hD hS => ?_)
      have hP : va_P D cls9 (wd_Mo_findPlateaus cA a_r r_manner r_above r_below r_nodes r_arcs r_left r_isBest (1 : Int32) u_4 r_a_51e r_b_51e r_ties r_z (1 : Int32) r_ones r_others r_weights r_there u_5 u_6 u_7 r_sums_51e r_sizes_51e r_walk_51e r_found r_shown_51e r_beginsAbove r_beginsBelow r_shownOf) H := hP
      have hD : va_D A (wd_Mo_findPlateaus cA a_r r_manner r_above r_below r_nodes r_arcs r_left r_isBest (1 : Int32) u_4 r_a_51e r_b_51e r_ties r_z (1 : Int32) r_ones r_others r_weights r_there u_5 u_6 u_7 r_sums_51e r_sizes_51e r_walk_51e r_found r_shown_51e r_beginsAbove r_beginsBelow r_shownOf) := hD
      refine lv_aload_n hx hb d_Mo_findPlateaus_123 rfl (lv_at hl 2 rfl) ?_
      refine lv_iconst (v := 0) hx hb d_Mo_findPlateaus_124 (by decide) ?_
      obtain ⟨o_32, hc_31, h⟩ := bd h
      have hPc := hP.sub (ws' := (wd_Mo_show cA a_r r_manner r_above r_below r_nodes r_arcs r_left r_isBest (1 : Int32) u_4 r_a_51e r_b_51e r_ties r_z (1 : Int32) r_shown_51e r_shownOf)) [0, 12, 15] rfl
      have hDc := hD.sub (ws' := (wd_Mo_show cA a_r r_manner r_above r_below r_nodes r_arcs r_left r_isBest (1 : Int32) u_4 r_a_51e r_b_51e r_ties r_z (1 : Int32) r_shown_51e r_shownOf)) [0, 12, 15] (by decide) rfl
      have hFc := va_free (wc := (wd_Mo_show cA a_r r_manner r_above r_below r_nodes r_arcs r_left r_isBest (1 : Int32) u_4 r_a_51e r_b_51e r_ties r_z (1 : Int32) r_shown_51e r_shownOf)) hD hS hA [0, 12, 15] rfl
      refine va_callv (va_runV (C := R_Mo) (As := [.int (0 : Int32)]) (rest := []) ⟨hx, hb, hml, hown, hal⟩ (c_Mo_show l D cA a_r H.size r_manner r_above r_below r_nodes r_arcs r_left r_isBest (1 : Int32) u_4 r_a_51e r_b_51e r_ties r_z (1 : Int32) r_shown_51e r_shownOf (0 : Int32) o_32 hc_31) (cwV 1 hal (goodV kw_927 kw_929 kw_p48 kw_9 kw_930) rfl rfl rfl (by decide +kernel) ⟨Nat.le_of_ble_eq_true rfl, Nat.le_of_ble_eq_true rfl⟩) ⟨fun a U g mk q => by obtain ⟨q0, q1, qP, qK, qD⟩ := q; exact ⟨q0, q1, qP, va_K.moved (u := U) (U := U.calling g mk a) (Vm.Alike.refl U.vm) qK, qD⟩, va_recv hK hP (ci := 8) (q0 := 0) rfl rfl, fun U hU hW => ⟨rfl, by rw [hU], by rw [hU]; exact hPc, va_K.moved hW.alike hK, hDc.weaken (fun _ _ _ _ => trivial)⟩⟩ rfl rfl hl.1 rfl (lv_room (Nat.le_of_ble_eq_true rfl)) d_Mo_findPlateaus_125 ⟨Nat.le_of_ble_eq_true rfl, Nat.le_of_ble_eq_true rfl⟩) hS (fun q _ h => hFc q h) hFc (fun u t H1 locs ht hvm hw hB hz1 hk1 hS => ?_)
      obtain ⟨u_30, rfl⟩ : ∃ q, q = u := ⟨_, rfl⟩
      subst hw
      obtain ⟨hP1, hK1, hD1⟩ := hB
      rw [ht] at hP1
      have hP1 : va_P D cls9 (wd_Mo_show cA a_r r_manner r_above r_below r_nodes r_arcs r_left r_isBest (1 : Int32) u_4 r_a_51e r_b_51e r_ties r_z (1 : Int32) r_shown_51e u_30) H1 := hP1
      obtain ⟨hP, hD⟩ := va_join (wr := ([1, 2, 3, 4, 5, 6, 7, 8, 9, 10, 11, 13, 14] : List Nat).filterMap (fun i => (wd_Mo_findPlateaus cA a_r r_manner r_above r_below r_nodes r_arcs r_left r_isBest (1 : Int32) u_4 r_a_51e r_b_51e r_ties r_z (1 : Int32) r_ones r_others r_weights r_there u_5 u_6 u_7 r_sums_51e r_sizes_51e r_walk_51e r_found r_shown_51e r_beginsAbove r_beginsBelow r_shownOf)[i]?)) (w1 := (wd_Mo_show cA a_r r_manner r_above r_below r_nodes r_arcs r_left r_isBest (1 : Int32) u_4 r_a_51e r_b_51e r_ties r_z (1 : Int32) r_shown_51e u_30)) hP hD [0, 12, 15] [1, 2, 3, 4, 5, 6, 7, 8, 9, 10, 11, 13, 14] rfl rfl (by decide) (by decide) hk1 hFc hP1 hD1
      generalize H1 = H at hP hS ⊢
      have hP : va_P D cls9 (wd_Mo_findPlateaus cA a_r r_manner r_above r_below r_nodes r_arcs r_left r_isBest (1 : Int32) u_4 r_a_51e r_b_51e r_ties r_z (1 : Int32) r_ones r_others r_weights r_there u_5 u_6 u_7 r_sums_51e r_sizes_51e r_walk_51e r_found r_shown_51e r_beginsAbove r_beginsBelow u_30) H := hP.sub [13, 0, 1, 2, 3, 4, 5, 6, 7, 8, 9, 10, 14, 11, 12, 15] rfl
      have hD : va_D A (wd_Mo_findPlateaus cA a_r r_manner r_above r_below r_nodes r_arcs r_left r_isBest (1 : Int32) u_4 r_a_51e r_b_51e r_ties r_z (1 : Int32) r_ones r_others r_weights r_there u_5 u_6 u_7 r_sums_51e r_sizes_51e r_walk_51e r_found r_shown_51e r_beginsAbove r_beginsBelow u_30) := hD.sub [13, 0, 1, 2, 3, 4, 5, 6, 7, 8, 9, 10, 14, 11, 12, 15] (by decide) rfl
      refine lv_aload_n hx hb d_Mo_findPlateaus_128 rfl (lv_at hl 2 rfl) ?_
      refine va_get (ci := 8) (v := .ref (a_r 20)) (C := R_Mo) (T := F_Mo) (N := 36) hx hb hal in_Mo hown hK hP 0 rfl rfl 33 (by decide) (hal _ kw_670) (fun _ h9 => h9) rfl d_Mo_findPlateaus_129 ?_
      refine lv_iconst (v := 0) hx hb d_Mo_findPlateaus_132 (by decide) ?_
      refine lv_lconst (v := 0) hx hb d_Mo_findPlateaus_133 (by decide) ?_
      obtain ⟨g_33, h⟩ := gd h
      refine va_last hx hb hK hP hD hS 13 1 rfl rfl (inb_in g_33) d_Mo_findPlateaus_134 (fun H locs hP hD hS => ?_)
      have hP : va_P D cls9 (wd_Mo_findPlateaus cA a_r r_manner r_above r_below r_nodes r_arcs r_left r_isBest (1 : Int32) u_4 r_a_51e r_b_51e r_ties r_z (1 : Int32) r_ones r_others r_weights r_there u_5 u_6 u_7 r_sums_51e r_sizes_51e r_walk_51e r_found r_shown_51e (vp_updL r_beginsAbove (0 : Int32).toNatClampNeg (0 : Int64)) r_beginsBelow u_30) H := hP
      have hD : va_D A (wd_Mo_findPlateaus cA a_r r_manner r_above r_below r_nodes r_arcs r_left r_isBest (1 : Int32) u_4 r_a_51e r_b_51e r_ties r_z (1 : Int32) r_ones r_others r_weights r_there u_5 u_6 u_7 r_sums_51e r_sizes_51e r_walk_51e r_found r_shown_51e (vp_updL r_beginsAbove (0 : Int32).toNatClampNeg (0 : Int64)) r_beginsBelow u_30) := hD
      refine lv_aload_n hx hb d_Mo_findPlateaus_135 rfl (lv_at hl 2 rfl) ?_
      refine va_get (ci := 8) (v := .ref (a_r 21)) (C := R_Mo) (T := F_Mo) (N := 36) hx hb hal in_Mo hown hK hP 0 rfl rfl 34 (by decide) (hal _ kw_671) (fun _ h9 => h9) rfl d_Mo_findPlateaus_136 ?_
      refine lv_iconst (v := 0) hx hb d_Mo_findPlateaus_139 (by decide) ?_
      refine lv_lconst (v := 1) hx hb d_Mo_findPlateaus_140 (by decide) ?_
      refine va_last hx hb hK hP hD hS 14 1 rfl rfl (inb_in g_33) d_Mo_findPlateaus_141 (fun H locs hP hD hS => ?_)
      have hP : va_P D cls9 (wd_Mo_findPlateaus cA a_r r_manner r_above r_below r_nodes r_arcs r_left r_isBest (1 : Int32) u_4 r_a_51e r_b_51e r_ties r_z (1 : Int32) r_ones r_others r_weights r_there u_5 u_6 u_7 r_sums_51e r_sizes_51e r_walk_51e r_found r_shown_51e (vp_updL r_beginsAbove (0 : Int32).toNatClampNeg (0 : Int64)) (vp_updL r_beginsBelow (0 : Int32).toNatClampNeg (1 : Int64)) u_30) H := hP
      have hD : va_D A (wd_Mo_findPlateaus cA a_r r_manner r_above r_below r_nodes r_arcs r_left r_isBest (1 : Int32) u_4 r_a_51e r_b_51e r_ties r_z (1 : Int32) r_ones r_others r_weights r_there u_5 u_6 u_7 r_sums_51e r_sizes_51e r_walk_51e r_found r_shown_51e (vp_updL r_beginsAbove (0 : Int32).toNatClampNeg (0 : Int64)) (vp_updL r_beginsBelow (0 : Int32).toNatClampNeg (1 : Int64)) u_30) := hD
      refine lv_iconst (v := 1) hx hb d_Mo_findPlateaus_142 (by decide) ?_
      refine lv_istore (lv' := [(5, .int (1 : Int32)), (3, .long x3_51e), (1, .long x1_51e), (0, .ref (a_r 0))]) hx hb d_Mo_findPlateaus_143 hl (by decide) rfl (fun ls hl => ?_)
      refine cast (hG _ _ _ _ _ _ _) (lp_go2 h (fun zz : Int64 × Int64 × Int32 × Int64 × Int64 × (Nat → Int64) × (Nat → Int64) × (Nat → Int32) × Int32 × (Nat → Int32) × (Nat → Int64) × (Nat → Int64) × (Nat → Int64) × (Nat → Int32) => ∀ (H : Heap) (locs : List Loc) (ls : Array Slot), va_P D cls9 (wd_Mo_findPlateaus cA a_r r_manner r_above r_below r_nodes r_arcs r_left r_isBest (1 : Int32) u_4 zz.2.2.2.1 zz.2.2.2.2.1 r_ties r_z zz.2.2.2.2.2.2.2.2.1 r_ones r_others r_weights r_there u_5 u_6 u_7 zz.2.2.2.2.2.2.2.2.2.2.2.2.1 zz.2.2.2.2.2.2.2.2.2.2.2.1 zz.2.2.2.2.2.2.2.2.2.2.2.2.2 zz.2.2.2.2.2.2.2.1 zz.2.2.2.2.2.2.2.2.2.1 zz.2.2.2.2.2.1 zz.2.2.2.2.2.2.1 zz.2.2.2.2.2.2.2.2.2.2.1) H → va_D A (wd_Mo_findPlateaus cA a_r r_manner r_above r_below r_nodes r_arcs r_left r_isBest (1 : Int32) u_4 zz.2.2.2.1 zz.2.2.2.2.1 r_ties r_z zz.2.2.2.2.2.2.2.2.1 r_ones r_others r_weights r_there u_5 u_6 u_7 zz.2.2.2.2.2.2.2.2.2.2.2.2.1 zz.2.2.2.2.2.2.2.2.2.2.2.1 zz.2.2.2.2.2.2.2.2.2.2.2.2.2 zz.2.2.2.2.2.2.2.1 zz.2.2.2.2.2.2.2.2.2.1 zz.2.2.2.2.2.1 zz.2.2.2.2.2.2.1 zz.2.2.2.2.2.2.2.2.2.2.1) → va_S A s.heap H locs → lv_has ls 21 [(5, .int zz.2.2.1), (3, .long zz.2.1), (1, .long zz.1), (0, .ref (a_r 0))] → G H locs 0 0 ls 407 []) ?_ (fun zz : Int64 × Int64 × Int32 × Int64 × Int64 × (Nat → Int64) × (Nat → Int64) × (Nat → Int32) × Int32 × (Nat → Int32) × (Nat → Int64) × (Nat → Int64) × (Nat → Int64) × (Nat → Int32) => ∀ (H : Heap) (locs : List Loc) (ls : Array Slot), va_P D cls9 (wd_Mo_findPlateaus cA a_r r_manner r_above r_below r_nodes r_arcs r_left r_isBest (1 : Int32) u_4 zz.2.2.2.1 zz.2.2.2.2.1 r_ties r_z zz.2.2.2.2.2.2.2.2.1 r_ones r_others r_weights r_there u_5 u_6 u_7 zz.2.2.2.2.2.2.2.2.2.2.2.2.1 zz.2.2.2.2.2.2.2.2.2.2.2.1 zz.2.2.2.2.2.2.2.2.2.2.2.2.2 zz.2.2.2.2.2.2.2.1 zz.2.2.2.2.2.2.2.2.2.1 zz.2.2.2.2.2.1 zz.2.2.2.2.2.2.1 zz.2.2.2.2.2.2.2.2.2.2.1) H → va_D A (wd_Mo_findPlateaus cA a_r r_manner r_above r_below r_nodes r_arcs r_left r_isBest (1 : Int32) u_4 zz.2.2.2.1 zz.2.2.2.2.1 r_ties r_z zz.2.2.2.2.2.2.2.2.1 r_ones r_others r_weights r_there u_5 u_6 u_7 zz.2.2.2.2.2.2.2.2.2.2.2.2.1 zz.2.2.2.2.2.2.2.2.2.2.2.1 zz.2.2.2.2.2.2.2.2.2.2.2.2.2 zz.2.2.2.2.2.2.2.1 zz.2.2.2.2.2.2.2.2.2.1 zz.2.2.2.2.2.1 zz.2.2.2.2.2.2.1 zz.2.2.2.2.2.2.2.2.2.2.1) → va_S A s.heap H locs → lv_has ls 21 [(5, .int zz.2.2.1), (3, .long zz.2.1), (1, .long zz.1), (0, .ref (a_r 0))] → G H locs 0 0 ls 145 []) ?_ _ _ ls hP hD hS (lv_sub hl [0, 1, 2, 3] rfl))
      · intro zz h H locs ls hP hD hS hl
        obtain ⟨x1_145e, x3_145e, x5_145e, r_a_145e, r_b_145e, r_beginsAbove_145e, r_beginsBelow_145e, r_found_145e, r_plateaus_145e, r_shown_145e, r_shownOf_145e, r_sizes_145e, r_sums_145e, r_walk_145e⟩ := zz
        have hP : va_P D cls9 (wd_Mo_findPlateaus cA a_r r_manner r_above r_below r_nodes r_arcs r_left r_isBest (1 : Int32) u_4 r_a_145e r_b_145e r_ties r_z r_plateaus_145e r_ones r_others r_weights r_there u_5 u_6 u_7 r_sums_145e r_sizes_145e r_walk_145e r_found_145e r_shown_145e r_beginsAbove_145e r_beginsBelow_145e r_shownOf_145e) H := hP
        have hD : va_D A (wd_Mo_findPlateaus cA a_r r_manner r_above r_below r_nodes r_arcs r_left r_isBest (1 : Int32) u_4 r_a_145e r_b_145e r_ties r_z r_plateaus_145e r_ones r_others r_weights r_there u_5 u_6 u_7 r_sums_145e r_sizes_145e r_walk_145e r_found_145e r_shown_145e r_beginsAbove_145e r_beginsBelow_145e r_shownOf_145e) := hD
        have hl : lv_has ls 21 [(5, .int x5_145e), (3, .long x3_145e), (1, .long x1_145e), (0, .ref (a_r 0))] := hl
        refine cast (hG _ _ _ _ _ _ _).symm ?_
        exact W.vret hx hb hr (fun t ht hW => ⟨⟨((1 : Int32), u_4, r_a_145e, r_b_145e, r_plateaus_145e, u_5, u_6, u_7, r_sums_145e, r_sizes_145e, r_walk_145e, r_found_145e, r_shown_145e, r_beginsAbove_145e, r_beginsBelow_145e, r_shownOf_145e), rfl, Option.some.inj h, by rw [ht]; exact hP, va_K.moved hW.alike hK, hD⟩, hS.F ht⟩) hS.2.2 d_Mo_findPlateaus_407
      · intro back exit zz hB_145 hE_145 h H locs ls hP hD hS hl
        obtain ⟨x1_145, x3_145, x5_145, r_a_145, r_b_145, r_beginsAbove_145, r_beginsBelow_145, r_found_145, r_plateaus_145, r_shown_145, r_shownOf_145, r_sizes_145, r_sums_145, r_walk_145⟩ := zz
        have hP : va_P D cls9 (wd_Mo_findPlateaus cA a_r r_manner r_above r_below r_nodes r_arcs r_left r_isBest (1 : Int32) u_4 r_a_145 r_b_145 r_ties r_z r_plateaus_145 r_ones r_others r_weights r_there u_5 u_6 u_7 r_sums_145 r_sizes_145 r_walk_145 r_found_145 r_shown_145 r_beginsAbove_145 r_beginsBelow_145 r_shownOf_145) H := hP
        have hD : va_D A (wd_Mo_findPlateaus cA a_r r_manner r_above r_below r_nodes r_arcs r_left r_isBest (1 : Int32) u_4 r_a_145 r_b_145 r_ties r_z r_plateaus_145 r_ones r_others r_weights r_there u_5 u_6 u_7 r_sums_145 r_sizes_145 r_walk_145 r_found_145 r_shown_145 r_beginsAbove_145 r_beginsBelow_145 r_shownOf_145) := hD
        have hl : lv_has ls 21 [(5, .int x5_145), (3, .long x3_145), (1, .long x1_145), (0, .ref (a_r 0))] := hl
        refine cast (hG _ _ _ _ _ _ _).symm ?_
        refine lv_iload hx hb d_Mo_findPlateaus_145 (lv_at hl 0 rfl) ?_
        refine lv_if_eq (tgt := 407) hx hb d_Mo_findPlateaus_147 (by decide) (fun c_34 => ?_) (fun c_34 => ?_)
        · have h := ifp (c_34) h
          exact cast (hG _ _ _ _ _ _ _) (hE_145 (x1_145, x3_145, x5_145, r_a_145, r_b_145, r_beginsAbove_145, r_beginsBelow_145, r_found_145, r_plateaus_145, r_shown_145, r_shownOf_145, r_sizes_145, r_sums_145, r_walk_145) h _ _ _ hP hD hS (lv_sub hl [0, 1, 2, 3] rfl))
        · have h := ifn (c_34) h
          refine lv_aload_n hx hb d_Mo_findPlateaus_150 rfl (lv_at hl 3 rfl) ?_
          refine va_get (ci := 8) (v := .int r_plateaus_145) (C := R_Mo) (T := F_Mo) (N := 36) hx hb hal in_Mo hown hK hP 0 rfl rfl 31 (by decide) (hal _ kw_668) (fun _ h9 => h9) rfl d_Mo_findPlateaus_151 ?_
          refine lv_sipush (v := 1801) hx hb d_Mo_findPlateaus_154 (by decide) ?_
          refine lv_icmp_ge (tgt := 407) hx hb d_Mo_findPlateaus_157 (by decide) (fun c_35 => ?_) (fun c_35 => ?_)
          · have h := ifp (c_35) h
            exact cast (hG _ _ _ _ _ _ _) (hE_145 (x1_145, x3_145, x5_145, r_a_145, r_b_145, r_beginsAbove_145, r_beginsBelow_145, r_found_145, r_plateaus_145, r_shown_145, r_shownOf_145, r_sizes_145, r_sums_145, r_walk_145) h _ _ _ hP hD hS (lv_sub hl [0, 1, 2, 3] rfl))
          · have h := ifn (c_35) h
            refine lv_iconst (v := 0) hx hb d_Mo_findPlateaus_160 (by decide) ?_
            refine lv_istore (lv' := [(5, .int (0 : Int32)), (3, .long x3_145), (1, .long x1_145), (0, .ref (a_r 0))]) hx hb d_Mo_findPlateaus_161 hl (by decide) rfl (fun ls hl => ?_)
            refine lv_lconst (v := 0) hx hb d_Mo_findPlateaus_163 (by decide) ?_
            refine lv_lstore (lv' := [(6, .long (0 : Int64)), (5, .int (0 : Int32)), (3, .long x3_145), (1, .long x1_145), (0, .ref (a_r 0))]) hx hb d_Mo_findPlateaus_164 hl (by decide) rfl (fun ls hl => ?_)
            refine lv_lconst (v := 1) hx hb d_Mo_findPlateaus_166 (by decide) ?_
            refine lv_lstore (lv' := [(8, .long (1 : Int64)), (6, .long (0 : Int64)), (5, .int (0 : Int32)), (3, .long x3_145), (1, .long x1_145), (0, .ref (a_r 0))]) hx hb d_Mo_findPlateaus_167 hl (by decide) rfl (fun ls hl => ?_)
            refine lv_lconst (v := 0) hx hb d_Mo_findPlateaus_169 (by decide) ?_
            refine lv_lstore (lv' := [(10, .long (0 : Int64)), (8, .long (1 : Int64)), (6, .long (0 : Int64)), (5, .int (0 : Int32)), (3, .long x3_145), (1, .long x1_145), (0, .ref (a_r 0))]) hx hb d_Mo_findPlateaus_170 hl (by decide) rfl (fun ls hl => ?_)
            refine lv_lconst (v := 0) hx hb d_Mo_findPlateaus_172 (by decide) ?_
            refine lv_lstore (lv' := [(12, .long (0 : Int64)), (10, .long (0 : Int64)), (8, .long (1 : Int64)), (6, .long (0 : Int64)), (5, .int (0 : Int32)), (3, .long x3_145), (1, .long x1_145), (0, .ref (a_r 0))]) hx hb d_Mo_findPlateaus_173 hl (by decide) rfl (fun ls hl => ?_)
            refine lv_aload_n hx hb d_Mo_findPlateaus_175 rfl (lv_at hl 7 rfl) ?_
            obtain ⟨o_40, hc_39, h⟩ := bd h
            have hPc := hP.sub (ws' := (wd_Mo_first cA a_r r_manner r_above r_below r_nodes r_arcs r_left r_isBest (1 : Int32) u_4 r_a_145 r_b_145 r_ties r_z r_plateaus_145 r_walk_145)) [0, 10] rfl
            have hDc := hD.sub (ws' := (wd_Mo_first cA a_r r_manner r_above r_below r_nodes r_arcs r_left r_isBest (1 : Int32) u_4 r_a_145 r_b_145 r_ties r_z r_plateaus_145 r_walk_145)) [0, 10] (by decide) rfl
            have hFc := va_free (wc := (wd_Mo_first cA a_r r_manner r_above r_below r_nodes r_arcs r_left r_isBest (1 : Int32) u_4 r_a_145 r_b_145 r_ties r_z r_plateaus_145 r_walk_145)) hD hS hA [0, 10] rfl
            refine va_callv (va_runV (C := R_Mo) (As := []) (rest := []) ⟨hx, hb, hml, hown, hal⟩ (c_Mo_first l D cA a_r H.size r_manner r_above r_below r_nodes r_arcs r_left r_isBest (1 : Int32) u_4 r_a_145 r_b_145 r_ties r_z r_plateaus_145 r_walk_145 o_40 hc_39) (cwV 0 hal (goodV kw_865 kw_867 kw_p39 kw_9 kw_868) rfl rfl rfl (by decide +kernel) ⟨Nat.le_of_ble_eq_true rfl, Nat.le_of_ble_eq_true rfl⟩) ⟨fun a U g mk q => by obtain ⟨q0, q1, qP, qK, qD⟩ := q; exact ⟨q0, q1, qP, va_K.moved (u := U) (U := U.calling g mk a) (Vm.Alike.refl U.vm) qK, qD⟩, va_recv hK hP (ci := 8) (q0 := 0) rfl rfl, fun U hU hW => ⟨rfl, by rw [hU], by rw [hU]; exact hPc, va_K.moved hW.alike hK, hDc.weaken (fun _ _ _ _ => trivial)⟩⟩ rfl rfl hl.1 rfl (lv_room (Nat.le_of_ble_eq_true rfl)) d_Mo_findPlateaus_176 ⟨Nat.le_of_ble_eq_true rfl, Nat.le_of_ble_eq_true rfl⟩) hS (fun q _ h => hFc q h) hFc (fun u t H1 locs ht hvm hw hB hz1 hk1 hS => ?_)
            obtain ⟨u_38, rfl⟩ : ∃ q, q = u := ⟨_, rfl⟩
            subst hw
            obtain ⟨hP1, hK1, hD1⟩ := hB
            rw [ht] at hP1
            have hP1 : va_P D cls9 (wd_Mo_first cA a_r r_manner r_above r_below r_nodes r_arcs r_left r_isBest (1 : Int32) u_4 r_a_145 r_b_145 r_ties r_z r_plateaus_145 u_38) H1 := hP1
            obtain ⟨hP, hD⟩ := va_join (wr := ([1, 2, 3, 4, 5, 6, 7, 8, 9, 11, 12, 13, 14, 15] : List Nat).filterMap (fun i => (wd_Mo_findPlateaus cA a_r r_manner r_above r_below r_nodes r_arcs r_left r_isBest (1 : Int32) u_4 r_a_145 r_b_145 r_ties r_z r_plateaus_145 r_ones r_others r_weights r_there u_5 u_6 u_7 r_sums_145 r_sizes_145 r_walk_145 r_found_145 r_shown_145 r_beginsAbove_145 r_beginsBelow_145 r_shownOf_145)[i]?)) (w1 := (wd_Mo_first cA a_r r_manner r_above r_below r_nodes r_arcs r_left r_isBest (1 : Int32) u_4 r_a_145 r_b_145 r_ties r_z r_plateaus_145 u_38)) hP hD [0, 10] [1, 2, 3, 4, 5, 6, 7, 8, 9, 11, 12, 13, 14, 15] rfl rfl (by decide) (by decide) hk1 hFc hP1 hD1
            generalize H1 = H at hP hS ⊢
            have hP : va_P D cls9 (wd_Mo_findPlateaus cA a_r r_manner r_above r_below r_nodes r_arcs r_left r_isBest (1 : Int32) u_4 r_a_145 r_b_145 r_ties r_z r_plateaus_145 r_ones r_others r_weights r_there u_5 u_6 u_7 r_sums_145 r_sizes_145 u_38 r_found_145 r_shown_145 r_beginsAbove_145 r_beginsBelow_145 r_shownOf_145) H := hP.sub [14, 0, 1, 2, 3, 4, 5, 6, 7, 8, 15, 9, 10, 11, 12, 13] rfl
            have hD : va_D A (wd_Mo_findPlateaus cA a_r r_manner r_above r_below r_nodes r_arcs r_left r_isBest (1 : Int32) u_4 r_a_145 r_b_145 r_ties r_z r_plateaus_145 r_ones r_others r_weights r_there u_5 u_6 u_7 r_sums_145 r_sizes_145 u_38 r_found_145 r_shown_145 r_beginsAbove_145 r_beginsBelow_145 r_shownOf_145) := hD.sub [14, 0, 1, 2, 3, 4, 5, 6, 7, 8, 15, 9, 10, 11, 12, 13] (by decide) rfl
            refine lv_iconst (v := 1) hx hb d_Mo_findPlateaus_179 (by decide) ?_
            refine lv_istore (lv' := [(14, .int (1 : Int32)), (12, .long (0 : Int64)), (10, .long (0 : Int64)), (8, .long (1 : Int64)), (6, .long (0 : Int64)), (5, .int (0 : Int32)), (3, .long x3_145), (1, .long x1_145), (0, .ref (a_r 0))]) hx hb d_Mo_findPlateaus_180 hl (by decide) rfl (fun ls hl => ?_)
            refine cast (hG _ _ _ _ _ _ _) (lp_go2 h (fun zz : Int32 × Int64 × Int64 × Int64 × Int64 × Int32 × Int64 × Int64 × (Nat → Int32) × (Nat → Int64) × (Nat → Int64) × (Nat → Int32) => ∀ (H : Heap) (locs : List Loc) (ls : Array Slot), va_P D cls9 (wd_Mo_findPlateaus cA a_r r_manner r_above r_below r_nodes r_arcs r_left r_isBest (1 : Int32) u_4 zz.2.2.2.2.2.2.1 zz.2.2.2.2.2.2.2.1 r_ties r_z r_plateaus_145 r_ones r_others r_weights r_there u_5 u_6 u_7 zz.2.2.2.2.2.2.2.2.2.2.1 zz.2.2.2.2.2.2.2.2.2.1 zz.2.2.2.2.2.2.2.2.2.2.2 zz.2.2.2.2.2.2.2.2.1 r_shown_145 r_beginsAbove_145 r_beginsBelow_145 r_shownOf_145) H → va_D A (wd_Mo_findPlateaus cA a_r r_manner r_above r_below r_nodes r_arcs r_left r_isBest (1 : Int32) u_4 zz.2.2.2.2.2.2.1 zz.2.2.2.2.2.2.2.1 r_ties r_z r_plateaus_145 r_ones r_others r_weights r_there u_5 u_6 u_7 zz.2.2.2.2.2.2.2.2.2.2.1 zz.2.2.2.2.2.2.2.2.2.1 zz.2.2.2.2.2.2.2.2.2.2.2 zz.2.2.2.2.2.2.2.2.1 r_shown_145 r_beginsAbove_145 r_beginsBelow_145 r_shownOf_145) → va_S A s.heap H locs → lv_has ls 21 [(14, .int zz.2.2.2.2.2.1), (12, .long zz.2.2.2.2.1), (10, .long zz.2.2.2.1), (8, .long zz.2.2.1), (6, .long zz.2.1), (5, .int zz.1), (3, .long x3_145), (1, .long x1_145), (0, .ref (a_r 0))] → G H locs 0 0 ls 341 []) ?_ (fun zz : Int32 × Int64 × Int64 × Int64 × Int64 × Int32 × Int64 × Int64 × (Nat → Int32) × (Nat → Int64) × (Nat → Int64) × (Nat → Int32) => ∀ (H : Heap) (locs : List Loc) (ls : Array Slot), va_P D cls9 (wd_Mo_findPlateaus cA a_r r_manner r_above r_below r_nodes r_arcs r_left r_isBest (1 : Int32) u_4 zz.2.2.2.2.2.2.1 zz.2.2.2.2.2.2.2.1 r_ties r_z r_plateaus_145 r_ones r_others r_weights r_there u_5 u_6 u_7 zz.2.2.2.2.2.2.2.2.2.2.1 zz.2.2.2.2.2.2.2.2.2.1 zz.2.2.2.2.2.2.2.2.2.2.2 zz.2.2.2.2.2.2.2.2.1 r_shown_145 r_beginsAbove_145 r_beginsBelow_145 r_shownOf_145) H → va_D A (wd_Mo_findPlateaus cA a_r r_manner r_above r_below r_nodes r_arcs r_left r_isBest (1 : Int32) u_4 zz.2.2.2.2.2.2.1 zz.2.2.2.2.2.2.2.1 r_ties r_z r_plateaus_145 r_ones r_others r_weights r_there u_5 u_6 u_7 zz.2.2.2.2.2.2.2.2.2.2.1 zz.2.2.2.2.2.2.2.2.2.1 zz.2.2.2.2.2.2.2.2.2.2.2 zz.2.2.2.2.2.2.2.2.1 r_shown_145 r_beginsAbove_145 r_beginsBelow_145 r_shownOf_145) → va_S A s.heap H locs → lv_has ls 21 [(14, .int zz.2.2.2.2.2.1), (12, .long zz.2.2.2.2.1), (10, .long zz.2.2.2.1), (8, .long zz.2.2.1), (6, .long zz.2.1), (5, .int zz.1), (3, .long x3_145), (1, .long x1_145), (0, .ref (a_r 0))] → G H locs 0 0 ls 182 []) ?_ _ _ ls hP hD hS (lv_sub hl [0, 1, 2, 3, 4, 5, 6, 7, 8] rfl))
            · intro zz h H locs ls hP hD hS hl
              obtain ⟨x5_182e, x6_182e, x8_182e, x10_182e, x12_182e, x14_182e, r_a_182e, r_b_182e, r_found_182e, r_sizes_182e, r_sums_182e, r_walk_182e⟩ := zz
              have hP : va_P D cls9 (wd_Mo_findPlateaus cA a_r r_manner r_above r_below r_nodes r_arcs r_left r_isBest (1 : Int32) u_4 r_a_182e r_b_182e r_ties r_z r_plateaus_145 r_ones r_others r_weights r_there u_5 u_6 u_7 r_sums_182e r_sizes_182e r_walk_182e r_found_182e r_shown_145 r_beginsAbove_145 r_beginsBelow_145 r_shownOf_145) H := hP
              have hD : va_D A (wd_Mo_findPlateaus cA a_r r_manner r_above r_below r_nodes r_arcs r_left r_isBest (1 : Int32) u_4 r_a_182e r_b_182e r_ties r_z r_plateaus_145 r_ones r_others r_weights r_there u_5 u_6 u_7 r_sums_182e r_sizes_182e r_walk_182e r_found_182e r_shown_145 r_beginsAbove_145 r_beginsBelow_145 r_shownOf_145) := hD
              have hl : lv_has ls 21 [(14, .int x14_182e), (12, .long x12_182e), (10, .long x10_182e), (8, .long x8_182e), (6, .long x6_182e), (5, .int x5_182e), (3, .long x3_145), (1, .long x1_145), (0, .ref (a_r 0))] := hl
              refine cast (hG _ _ _ _ _ _ _).symm ?_
              refine lv_iload hx hb d_Mo_findPlateaus_341 (lv_at hl 5 rfl) ?_
              refine lv_if_eq (tgt := 404) hx hb d_Mo_findPlateaus_343 (by decide) (fun c_41 => ?_) (fun c_41 => ?_)
              · have h := ifp (c_41) h
                refine lv_goto (tgt := 145) hx hb d_Mo_findPlateaus_404 (by decide) ?_
                exact cast (hG _ _ _ _ _ _ _) (hB_145 (x1_145, x3_145, x5_182e, r_a_182e, r_b_182e, r_beginsAbove_145, r_beginsBelow_145, r_found_182e, r_plateaus_145, r_shown_145, r_shownOf_145, r_sizes_182e, r_sums_182e, r_walk_182e) h _ _ _ hP hD hS (lv_sub hl [5, 6, 7, 8] rfl))
              · have h := ifn (c_41) h
                refine lv_lload hx hb d_Mo_findPlateaus_346 (lv_at hl 2 rfl) ?_
                refine lv_lstore_n (lv' := [(1, .long x10_182e), (14, .int x14_182e), (12, .long x12_182e), (10, .long x10_182e), (8, .long x8_182e), (6, .long x6_182e), (5, .int x5_182e), (3, .long x3_145), (0, .ref (a_r 0))]) hx hb d_Mo_findPlateaus_348 rfl hl (by decide) rfl (fun ls hl => ?_)
                refine lv_lload hx hb d_Mo_findPlateaus_349 (lv_at hl 2 rfl) ?_
                refine lv_lstore_n (lv' := [(3, .long x12_182e), (1, .long x10_182e), (14, .int x14_182e), (12, .long x12_182e), (10, .long x10_182e), (8, .long x8_182e), (6, .long x6_182e), (5, .int x5_182e), (0, .ref (a_r 0))]) hx hb d_Mo_findPlateaus_351 rfl hl (by decide) rfl (fun ls hl => ?_)
                refine lv_aload_n hx hb d_Mo_findPlateaus_352 rfl (lv_at hl 8 rfl) ?_
                refine lv_aload_n hx hb d_Mo_findPlateaus_353 rfl (lv_at hl 8 rfl) ?_
                refine va_get (ci := 8) (v := .ref (a_r 14)) (C := R_Mo) (T := F_Mo) (N := 36) hx hb hal in_Mo hown hK hP 0 rfl rfl 24 (by decide) (hal _ kw_661) (fun _ h9 => h9) rfl d_Mo_findPlateaus_354 ?_
                refine lv_aload_n hx hb d_Mo_findPlateaus_357 rfl (lv_at hl 8 rfl) ?_
                refine va_get (ci := 8) (v := .ref (a_r 19)) (C := R_Mo) (T := F_Mo) (N := 36) hx hb hal in_Mo hown hK hP 0 rfl rfl 32 (by decide) (hal _ kw_669) (fun _ h9 => h9) rfl d_Mo_findPlateaus_358 ?_
                obtain ⟨o_46, hc_45, h⟩ := bd h
                have hPc := hP.sub (ws' := (wd_Mo_copy cA a_r (fun _ => a_r 14) (fun _ => a_r 19) r_manner r_above r_below r_nodes r_arcs r_left r_isBest (1 : Int32) u_4 r_a_182e r_b_182e r_ties r_z r_plateaus_145 r_found_182e r_shown_145)) [0, 11, 12] rfl
                have hDc := hD.sub (ws' := (wd_Mo_copy cA a_r (fun _ => a_r 14) (fun _ => a_r 19) r_manner r_above r_below r_nodes r_arcs r_left r_isBest (1 : Int32) u_4 r_a_182e r_b_182e r_ties r_z r_plateaus_145 r_found_182e r_shown_145)) [0, 11, 12] (by decide) rfl
                have hFc := va_free (wc := (wd_Mo_copy cA a_r (fun _ => a_r 14) (fun _ => a_r 19) r_manner r_above r_below r_nodes r_arcs r_left r_isBest (1 : Int32) u_4 r_a_182e r_b_182e r_ties r_z r_plateaus_145 r_found_182e r_shown_145)) hD hS hA [0, 11, 12] rfl
                refine va_callv (va_runV (C := R_Mo) (As := [.ref (a_r 14), .ref (a_r 19)]) (rest := []) ⟨hx, hb, hml, hown, hal⟩ (c_Mo_copy l D cA a_r (fun _ => a_r 14) (fun _ => a_r 19) H.size r_manner r_above r_below r_nodes r_arcs r_left r_isBest (1 : Int32) u_4 r_a_182e r_b_182e r_ties r_z r_plateaus_145 r_found_182e r_shown_145 o_46 hc_45) (cwV 2 hal (goodV kw_833 kw_835 kw_p35 kw_9 kw_836) rfl rfl rfl (by decide +kernel) ⟨Nat.le_of_ble_eq_true rfl, Nat.le_of_ble_eq_true rfl⟩) ⟨fun a U g mk q => by obtain ⟨q0, q1, qP, qK, qD⟩ := q; exact ⟨q0, q1, qP, va_K.moved (u := U) (U := U.calling g mk a) (Vm.Alike.refl U.vm) qK, qD⟩, va_recv hK hP (ci := 8) (q0 := 0) rfl rfl, fun U hU hW => ⟨rfl, by rw [hU], by rw [hU]; exact hPc, va_K.moved hW.alike hK, hDc.weaken (fun _ _ _ _ => trivial)⟩⟩ rfl rfl hl.1 rfl (lv_room (Nat.le_of_ble_eq_true rfl)) d_Mo_findPlateaus_361 ⟨Nat.le_of_ble_eq_true rfl, Nat.le_of_ble_eq_true rfl⟩) hS (fun q _ h => hFc q h) hFc (fun u t H1 locs ht hvm hw hB hz1 hk1 hS => ?_)
                obtain ⟨u_44, rfl⟩ : ∃ q, q = u := ⟨_, rfl⟩
                subst hw
                obtain ⟨hP1, hK1, hD1⟩ := hB
                rw [ht] at hP1
                have hP1 : va_P D cls9 (wd_Mo_copy cA a_r (fun _ => a_r 14) (fun _ => a_r 19) r_manner r_above r_below r_nodes r_arcs r_left r_isBest (1 : Int32) u_4 r_a_182e r_b_182e r_ties r_z r_plateaus_145 r_found_182e u_44) H1 := hP1
                obtain ⟨hP, hD⟩ := va_join (wr := ([1, 2, 3, 4, 5, 6, 7, 8, 9, 10, 13, 14, 15] : List Nat).filterMap (fun i => (wd_Mo_findPlateaus cA a_r r_manner r_above r_below r_nodes r_arcs r_left r_isBest (1 : Int32) u_4 r_a_182e r_b_182e r_ties r_z r_plateaus_145 r_ones r_others r_weights r_there u_5 u_6 u_7 r_sums_182e r_sizes_182e r_walk_182e r_found_182e r_shown_145 r_beginsAbove_145 r_beginsBelow_145 r_shownOf_145)[i]?)) (w1 := (wd_Mo_copy cA a_r (fun _ => a_r 14) (fun _ => a_r 19) r_manner r_above r_below r_nodes r_arcs r_left r_isBest (1 : Int32) u_4 r_a_182e r_b_182e r_ties r_z r_plateaus_145 r_found_182e u_44)) hP hD [0, 11, 12] [1, 2, 3, 4, 5, 6, 7, 8, 9, 10, 13, 14, 15] rfl rfl (by decide) (by decide) hk1 hFc hP1 hD1
                generalize H1 = H at hP hS ⊢
                have hP : va_P D cls9 (wd_Mo_findPlateaus cA a_r r_manner r_above r_below r_nodes r_arcs r_left r_isBest (1 : Int32) u_4 r_a_182e r_b_182e r_ties r_z r_plateaus_145 r_ones r_others r_weights r_there u_5 u_6 u_7 r_sums_182e r_sizes_182e r_walk_182e r_found_182e u_44 r_beginsAbove_145 r_beginsBelow_145 r_shownOf_145) H := hP.sub [13, 0, 1, 2, 3, 4, 5, 6, 7, 8, 9, 14, 15, 10, 11, 12] rfl
                have hD : va_D A (wd_Mo_findPlateaus cA a_r r_manner r_above r_below r_nodes r_arcs r_left r_isBest (1 : Int32) u_4 r_a_182e r_b_182e r_ties r_z r_plateaus_145 r_ones r_others r_weights r_there u_5 u_6 u_7 r_sums_182e r_sizes_182e r_walk_182e r_found_182e u_44 r_beginsAbove_145 r_beginsBelow_145 r_shownOf_145) := hD.sub [13, 0, 1, 2, 3, 4, 5, 6, 7, 8, 9, 14, 15, 10, 11, 12] (by decide) rfl
                refine lv_aload_n hx hb d_Mo_findPlateaus_364 rfl (lv_at hl 8 rfl) ?_
                refine lv_aload_n hx hb d_Mo_findPlateaus_365 rfl (lv_at hl 8 rfl) ?_
                refine va_get (ci := 8) (v := .int r_plateaus_145) (C := R_Mo) (T := F_Mo) (N := 36) hx hb hal in_Mo hown hK hP 0 rfl rfl 31 (by decide) (hal _ kw_668) (fun _ h9 => h9) rfl d_Mo_findPlateaus_366 ?_
                obtain ⟨o_51, hc_50, h⟩ := bd h
                have hPc := hP.sub (ws' := (wd_Mo_show cA a_r r_manner r_above r_below r_nodes r_arcs r_left r_isBest (1 : Int32) u_4 r_a_182e r_b_182e r_ties r_z r_plateaus_145 u_44 r_shownOf_145)) [0, 12, 15] rfl
                have hDc := hD.sub (ws' := (wd_Mo_show cA a_r r_manner r_above r_below r_nodes r_arcs r_left r_isBest (1 : Int32) u_4 r_a_182e r_b_182e r_ties r_z r_plateaus_145 u_44 r_shownOf_145)) [0, 12, 15] (by decide) rfl
                have hFc := va_free (wc := (wd_Mo_show cA a_r r_manner r_above r_below r_nodes r_arcs r_left r_isBest (1 : Int32) u_4 r_a_182e r_b_182e r_ties r_z r_plateaus_145 u_44 r_shownOf_145)) hD hS hA [0, 12, 15] rfl
                refine va_callv (va_runV (C := R_Mo) (As := [.int r_plateaus_145]) (rest := []) ⟨hx, hb, hml, hown, hal⟩ (c_Mo_show l D cA a_r H.size r_manner r_above r_below r_nodes r_arcs r_left r_isBest (1 : Int32) u_4 r_a_182e r_b_182e r_ties r_z r_plateaus_145 u_44 r_shownOf_145 r_plateaus_145 o_51 hc_50) (cwV 1 hal (goodV kw_927 kw_929 kw_p48 kw_9 kw_930) rfl rfl rfl (by decide +kernel) ⟨Nat.le_of_ble_eq_true rfl, Nat.le_of_ble_eq_true rfl⟩) ⟨fun a U g mk q => by obtain ⟨q0, q1, qP, qK, qD⟩ := q; exact ⟨q0, q1, qP, va_K.moved (u := U) (U := U.calling g mk a) (Vm.Alike.refl U.vm) qK, qD⟩, va_recv hK hP (ci := 8) (q0 := 0) rfl rfl, fun U hU hW => ⟨rfl, by rw [hU], by rw [hU]; exact hPc, va_K.moved hW.alike hK, hDc.weaken (fun _ _ _ _ => trivial)⟩⟩ rfl rfl hl.1 rfl (lv_room (Nat.le_of_ble_eq_true rfl)) d_Mo_findPlateaus_369 ⟨Nat.le_of_ble_eq_true rfl, Nat.le_of_ble_eq_true rfl⟩) hS (fun q _ h => hFc q h) hFc (fun u t H1 locs ht hvm hw hB hz1 hk1 hS => ?_)
                obtain ⟨u_49, rfl⟩ : ∃ q, q = u := ⟨_, rfl⟩
                subst hw
                obtain ⟨hP1, hK1, hD1⟩ := hB
                rw [ht] at hP1
                have hP1 : va_P D cls9 (wd_Mo_show cA a_r r_manner r_above r_below r_nodes r_arcs r_left r_isBest (1 : Int32) u_4 r_a_182e r_b_182e r_ties r_z r_plateaus_145 u_44 u_49) H1 := hP1
                obtain ⟨hP, hD⟩ := va_join (wr := ([1, 2, 3, 4, 5, 6, 7, 8, 9, 10, 11, 13, 14] : List Nat).filterMap (fun i => (wd_Mo_findPlateaus cA a_r r_manner r_above r_below r_nodes r_arcs r_left r_isBest (1 : Int32) u_4 r_a_182e r_b_182e r_ties r_z r_plateaus_145 r_ones r_others r_weights r_there u_5 u_6 u_7 r_sums_182e r_sizes_182e r_walk_182e r_found_182e u_44 r_beginsAbove_145 r_beginsBelow_145 r_shownOf_145)[i]?)) (w1 := (wd_Mo_show cA a_r r_manner r_above r_below r_nodes r_arcs r_left r_isBest (1 : Int32) u_4 r_a_182e r_b_182e r_ties r_z r_plateaus_145 u_44 u_49)) hP hD [0, 12, 15] [1, 2, 3, 4, 5, 6, 7, 8, 9, 10, 11, 13, 14] rfl rfl (by decide) (by decide) hk1 hFc hP1 hD1
                generalize H1 = H at hP hS ⊢
                have hP : va_P D cls9 (wd_Mo_findPlateaus cA a_r r_manner r_above r_below r_nodes r_arcs r_left r_isBest (1 : Int32) u_4 r_a_182e r_b_182e r_ties r_z r_plateaus_145 r_ones r_others r_weights r_there u_5 u_6 u_7 r_sums_182e r_sizes_182e r_walk_182e r_found_182e u_44 r_beginsAbove_145 r_beginsBelow_145 u_49) H := hP.sub [13, 0, 1, 2, 3, 4, 5, 6, 7, 8, 9, 10, 14, 11, 12, 15] rfl
                have hD : va_D A (wd_Mo_findPlateaus cA a_r r_manner r_above r_below r_nodes r_arcs r_left r_isBest (1 : Int32) u_4 r_a_182e r_b_182e r_ties r_z r_plateaus_145 r_ones r_others r_weights r_there u_5 u_6 u_7 r_sums_182e r_sizes_182e r_walk_182e r_found_182e u_44 r_beginsAbove_145 r_beginsBelow_145 u_49) := hD.sub [13, 0, 1, 2, 3, 4, 5, 6, 7, 8, 9, 10, 14, 11, 12, 15] (by decide) rfl
                refine lv_aload_n hx hb d_Mo_findPlateaus_372 rfl (lv_at hl 8 rfl) ?_
                refine va_get (ci := 8) (v := .ref (a_r 20)) (C := R_Mo) (T := F_Mo) (N := 36) hx hb hal in_Mo hown hK hP 0 rfl rfl 33 (by decide) (hal _ kw_670) (fun _ h9 => h9) rfl d_Mo_findPlateaus_373 ?_
                refine lv_aload_n hx hb d_Mo_findPlateaus_376 rfl (lv_at hl 8 rfl) ?_
                refine va_get (ci := 8) (v := .int r_plateaus_145) (C := R_Mo) (T := F_Mo) (N := 36) hx hb hal in_Mo hown hK hP 0 rfl rfl 31 (by decide) (hal _ kw_668) (fun _ h9 => h9) rfl d_Mo_findPlateaus_377 ?_
                refine lv_lload hx hb d_Mo_findPlateaus_380 (lv_at hl 6 rfl) ?_
                obtain ⟨g_52, h⟩ := gd h
                refine va_last hx hb hK hP hD hS 13 1 rfl rfl (inb_in g_52) d_Mo_findPlateaus_382 (fun H locs hP hD hS => ?_)
                have hP : va_P D cls9 (wd_Mo_findPlateaus cA a_r r_manner r_above r_below r_nodes r_arcs r_left r_isBest (1 : Int32) u_4 r_a_182e r_b_182e r_ties r_z r_plateaus_145 r_ones r_others r_weights r_there u_5 u_6 u_7 r_sums_182e r_sizes_182e r_walk_182e r_found_182e u_44 (vp_updL r_beginsAbove_145 r_plateaus_145.toNatClampNeg x6_182e) r_beginsBelow_145 u_49) H := hP
                have hD : va_D A (wd_Mo_findPlateaus cA a_r r_manner r_above r_below r_nodes r_arcs r_left r_isBest (1 : Int32) u_4 r_a_182e r_b_182e r_ties r_z r_plateaus_145 r_ones r_others r_weights r_there u_5 u_6 u_7 r_sums_182e r_sizes_182e r_walk_182e r_found_182e u_44 (vp_updL r_beginsAbove_145 r_plateaus_145.toNatClampNeg x6_182e) r_beginsBelow_145 u_49) := hD
                refine lv_aload_n hx hb d_Mo_findPlateaus_383 rfl (lv_at hl 8 rfl) ?_
                refine va_get (ci := 8) (v := .ref (a_r 21)) (C := R_Mo) (T := F_Mo) (N := 36) hx hb hal in_Mo hown hK hP 0 rfl rfl 34 (by decide) (hal _ kw_671) (fun _ h9 => h9) rfl d_Mo_findPlateaus_384 ?_
                refine lv_aload_n hx hb d_Mo_findPlateaus_387 rfl (lv_at hl 8 rfl) ?_
                refine va_get (ci := 8) (v := .int r_plateaus_145) (C := R_Mo) (T := F_Mo) (N := 36) hx hb hal in_Mo hown hK hP 0 rfl rfl 31 (by decide) (hal _ kw_668) (fun _ h9 => h9) rfl d_Mo_findPlateaus_388 ?_
                refine lv_lload hx hb d_Mo_findPlateaus_391 (lv_at hl 5 rfl) ?_
                refine va_last hx hb hK hP hD hS 14 1 rfl rfl (inb_in g_52) d_Mo_findPlateaus_393 (fun H locs hP hD hS => ?_)
                have hP : va_P D cls9 (wd_Mo_findPlateaus cA a_r r_manner r_above r_below r_nodes r_arcs r_left r_isBest (1 : Int32) u_4 r_a_182e r_b_182e r_ties r_z r_plateaus_145 r_ones r_others r_weights r_there u_5 u_6 u_7 r_sums_182e r_sizes_182e r_walk_182e r_found_182e u_44 (vp_updL r_beginsAbove_145 r_plateaus_145.toNatClampNeg x6_182e) (vp_updL r_beginsBelow_145 r_plateaus_145.toNatClampNeg x8_182e) u_49) H := hP
                have hD : va_D A (wd_Mo_findPlateaus cA a_r r_manner r_above r_below r_nodes r_arcs r_left r_isBest (1 : Int32) u_4 r_a_182e r_b_182e r_ties r_z r_plateaus_145 r_ones r_others r_weights r_there u_5 u_6 u_7 r_sums_182e r_sizes_182e r_walk_182e r_found_182e u_44 (vp_updL r_beginsAbove_145 r_plateaus_145.toNatClampNeg x6_182e) (vp_updL r_beginsBelow_145 r_plateaus_145.toNatClampNeg x8_182e) u_49) := hD
                refine lv_aload_n hx hb d_Mo_findPlateaus_394 rfl (lv_at hl 8 rfl) ?_
                refine lv_dup hx hb d_Mo_findPlateaus_395 rfl ?_
                refine va_get (ci := 8) (v := .int r_plateaus_145) (C := R_Mo) (T := F_Mo) (N := 36) hx hb hal in_Mo hown hK hP 0 rfl rfl 31 (by decide) (hal _ kw_668) (fun _ h9 => h9) rfl d_Mo_findPlateaus_396 ?_
                refine lv_iconst (v := 1) hx hb d_Mo_findPlateaus_399 (by decide) ?_
                refine lv_iadd hx hb d_Mo_findPlateaus_400 ?_
                refine va_put (ci := 8) (v := .int (r_plateaus_145 + (1 : Int32))) (ty := .int) (C := R_Mo) (T := F_Mo) (N := 36) hx hb hal in_Mo t_Mo t_Mo_ok n_Mo hown hK hP hD hS 0 rfl rfl 31 (by decide) (hal _ kw_668) (fun _ h9 => h9) rfl (by decide +kernel) rfl rfl (Nat.le_of_ble_eq_true rfl) d_Mo_findPlateaus_401 (fun H locs hP hD hS => ?_)
                have hP : va_P D cls9 (wd_Mo_findPlateaus cA a_r r_manner r_above r_below r_nodes r_arcs r_left r_isBest (1 : Int32) u_4 r_a_182e r_b_182e r_ties r_z (r_plateaus_145 + (1 : Int32)) r_ones r_others r_weights r_there u_5 u_6 u_7 r_sums_182e r_sizes_182e r_walk_182e r_found_182e u_44 (vp_updL r_beginsAbove_145 r_plateaus_145.toNatClampNeg x6_182e) (vp_updL r_beginsBelow_145 r_plateaus_145.toNatClampNeg x8_182e) u_49) H := hP
                have hD : va_D A (wd_Mo_findPlateaus cA a_r r_manner r_above r_below r_nodes r_arcs r_left r_isBest (1 : Int32) u_4 r_a_182e r_b_182e r_ties r_z (r_plateaus_145 + (1 : Int32)) r_ones r_others r_weights r_there u_5 u_6 u_7 r_sums_182e r_sizes_182e r_walk_182e r_found_182e u_44 (vp_updL r_beginsAbove_145 r_plateaus_145.toNatClampNeg x6_182e) (vp_updL r_beginsBelow_145 r_plateaus_145.toNatClampNeg x8_182e) u_49) := hD
                refine lv_goto (tgt := 145) hx hb d_Mo_findPlateaus_404 (by decide) ?_
                exact cast (hG _ _ _ _ _ _ _) (hB_145 (x10_182e, x12_182e, x5_182e, r_a_182e, r_b_182e, (vp_updL r_beginsAbove_145 r_plateaus_145.toNatClampNeg x6_182e), (vp_updL r_beginsBelow_145 r_plateaus_145.toNatClampNeg x8_182e), r_found_182e, (r_plateaus_145 + (1 : Int32)), u_44, u_49, r_sizes_182e, r_sums_182e, r_walk_182e) h _ _ _ hP hD hS (lv_sub hl [7, 0, 1, 8] rfl))
            · intro back exit zz hB_182 hE_182 h H locs ls hP hD hS hl
              obtain ⟨x5_182, x6_182, x8_182, x10_182, x12_182, x14_182, r_a_182, r_b_182, r_found_182, r_sizes_182, r_sums_182, r_walk_182⟩ := zz
              have hP : va_P D cls9 (wd_Mo_findPlateaus cA a_r r_manner r_above r_below r_nodes r_arcs r_left r_isBest (1 : Int32) u_4 r_a_182 r_b_182 r_ties r_z r_plateaus_145 r_ones r_others r_weights r_there u_5 u_6 u_7 r_sums_182 r_sizes_182 r_walk_182 r_found_182 r_shown_145 r_beginsAbove_145 r_beginsBelow_145 r_shownOf_145) H := hP
              have hD : va_D A (wd_Mo_findPlateaus cA a_r r_manner r_above r_below r_nodes r_arcs r_left r_isBest (1 : Int32) u_4 r_a_182 r_b_182 r_ties r_z r_plateaus_145 r_ones r_others r_weights r_there u_5 u_6 u_7 r_sums_182 r_sizes_182 r_walk_182 r_found_182 r_shown_145 r_beginsAbove_145 r_beginsBelow_145 r_shownOf_145) := hD
              have hl : lv_has ls 21 [(14, .int x14_182), (12, .long x12_182), (10, .long x10_182), (8, .long x8_182), (6, .long x6_182), (5, .int x5_182), (3, .long x3_145), (1, .long x1_145), (0, .ref (a_r 0))] := hl
              refine cast (hG _ _ _ _ _ _ _).symm ?_
              refine lv_iload hx hb d_Mo_findPlateaus_182 (lv_at hl 0 rfl) ?_
              refine lv_if_eq (tgt := 341) hx hb d_Mo_findPlateaus_184 (by decide) (fun c_53 => ?_) (fun c_53 => ?_)
              · have h := ifp (c_53) h
                exact cast (hG _ _ _ _ _ _ _) (hE_182 (x5_182, x6_182, x8_182, x10_182, x12_182, x14_182, r_a_182, r_b_182, r_found_182, r_sizes_182, r_sums_182, r_walk_182) h _ _ _ hP hD hS (lv_sub hl [0, 1, 2, 3, 4, 5, 6, 7, 8] rfl))
              · have h := ifn (c_53) h
                refine lv_aload_n hx hb d_Mo_findPlateaus_187 rfl (lv_at hl 8 rfl) ?_
                refine lv_aload_n hx hb d_Mo_findPlateaus_188 rfl (lv_at hl 8 rfl) ?_
                refine va_get (ci := 8) (v := .ref (a_r 13)) (C := R_Mo) (T := F_Mo) (N := 36) hx hb hal in_Mo hown hK hP 0 rfl rfl 23 (by decide) (hal _ kw_660) (fun _ h9 => h9) rfl d_Mo_findPlateaus_189 ?_
                obtain ⟨o_61, hc_60, h⟩ := bd h
                have hPc := hP.sub (ws' := (wd_Mo_judge cA a_r (fun _ => a_r 13) r_manner r_above r_below r_nodes r_arcs r_left r_isBest (1 : Int32) u_4 r_a_182 r_b_182 r_ties r_z r_plateaus_145 u_5 u_7 r_sums_182 r_sizes_182 r_walk_182)) [0, 5, 7, 8, 9, 10] rfl
                have hDc := hD.sub (ws' := (wd_Mo_judge cA a_r (fun _ => a_r 13) r_manner r_above r_below r_nodes r_arcs r_left r_isBest (1 : Int32) u_4 r_a_182 r_b_182 r_ties r_z r_plateaus_145 u_5 u_7 r_sums_182 r_sizes_182 r_walk_182)) [0, 5, 7, 8, 9, 10] (by decide) rfl
                have hFc := va_free (wc := (wd_Mo_judge cA a_r (fun _ => a_r 13) r_manner r_above r_below r_nodes r_arcs r_left r_isBest (1 : Int32) u_4 r_a_182 r_b_182 r_ties r_z r_plateaus_145 u_5 u_7 r_sums_182 r_sizes_182 r_walk_182)) hD hS hA [0, 5, 7, 8, 9, 10] rfl
                refine va_callv (va_runV (C := R_Mo) (As := [.ref (a_r 13)]) (rest := []) ⟨hx, hb, hml, hown, hal⟩ (c_Mo_judge l D cA a_r (fun _ => a_r 13) H.size r_manner r_above r_below r_nodes r_arcs r_left r_isBest (1 : Int32) u_4 r_a_182 r_b_182 r_ties r_z r_plateaus_145 u_5 u_7 r_sums_182 r_sizes_182 r_walk_182 o_61 hc_60) (cwV 1 hal (goodV kw_815 kw_817 kw_p33 kw_9 kw_818) rfl rfl rfl (by decide +kernel) ⟨Nat.le_of_ble_eq_true rfl, Nat.le_of_ble_eq_true rfl⟩) ⟨fun a U g mk q => by obtain ⟨q0, q1, qP, qK, qD⟩ := q; exact ⟨q0, q1, qP, va_K.moved (u := U) (U := U.calling g mk a) (Vm.Alike.refl U.vm) qK, qD⟩, va_recv hK hP (ci := 8) (q0 := 0) rfl rfl, fun U hU hW => ⟨rfl, by rw [hU], by rw [hU]; exact hPc, va_K.moved hW.alike hK, hDc.weaken (fun _ _ _ _ => trivial)⟩⟩ rfl rfl hl.1 rfl (lv_room (Nat.le_of_ble_eq_true rfl)) d_Mo_findPlateaus_192 ⟨Nat.le_of_ble_eq_true rfl, Nat.le_of_ble_eq_true rfl⟩) hS (fun q _ h => hFc q h) hFc (fun u t H1 locs ht hvm hw hB hz1 hk1 hS => ?_)
                obtain ⟨u_56, u_57, u_58, u_59⟩ := u
                subst hw
                obtain ⟨hP1, hK1, hD1⟩ := hB
                rw [ht] at hP1
                have hP1 : va_P D cls9 (wd_Mo_judge cA a_r (fun _ => a_r 13) r_manner r_above r_below r_nodes r_arcs r_left r_isBest (1 : Int32) u_4 u_56 u_57 r_ties r_z r_plateaus_145 u_5 u_7 u_58 u_59 r_walk_182) H1 := hP1
                obtain ⟨hP, hD⟩ := va_join (wr := ([1, 2, 3, 4, 6, 11, 12, 13, 14, 15] : List Nat).filterMap (fun i => (wd_Mo_findPlateaus cA a_r r_manner r_above r_below r_nodes r_arcs r_left r_isBest (1 : Int32) u_4 r_a_182 r_b_182 r_ties r_z r_plateaus_145 r_ones r_others r_weights r_there u_5 u_6 u_7 r_sums_182 r_sizes_182 r_walk_182 r_found_182 r_shown_145 r_beginsAbove_145 r_beginsBelow_145 r_shownOf_145)[i]?)) (w1 := (wd_Mo_judge cA a_r (fun _ => a_r 13) r_manner r_above r_below r_nodes r_arcs r_left r_isBest (1 : Int32) u_4 u_56 u_57 r_ties r_z r_plateaus_145 u_5 u_7 u_58 u_59 r_walk_182)) hP hD [0, 5, 7, 8, 9, 10] [1, 2, 3, 4, 6, 11, 12, 13, 14, 15] rfl rfl (by decide) (by decide) hk1 hFc hP1 hD1
                generalize H1 = H at hP hS ⊢
                have hP : va_P D cls9 (wd_Mo_findPlateaus cA a_r r_manner r_above r_below r_nodes r_arcs r_left r_isBest (1 : Int32) u_4 u_56 u_57 r_ties r_z r_plateaus_145 r_ones r_others r_weights r_there u_5 u_6 u_7 u_58 u_59 r_walk_182 r_found_182 r_shown_145 r_beginsAbove_145 r_beginsBelow_145 r_shownOf_145) H := hP.sub [10, 0, 1, 2, 3, 11, 4, 12, 13, 14, 15, 5, 6, 7, 8, 9] rfl
                have hD : va_D A (wd_Mo_findPlateaus cA a_r r_manner r_above r_below r_nodes r_arcs r_left r_isBest (1 : Int32) u_4 u_56 u_57 r_ties r_z r_plateaus_145 r_ones r_others r_weights r_there u_5 u_6 u_7 u_58 u_59 r_walk_182 r_found_182 r_shown_145 r_beginsAbove_145 r_beginsBelow_145 r_shownOf_145) := hD.sub [10, 0, 1, 2, 3, 11, 4, 12, 13, 14, 15, 5, 6, 7, 8, 9] (by decide) rfl
                refine lv_lload_n hx hb d_Mo_findPlateaus_195 rfl (lv_at hl 7 rfl) ?_
                refine lv_aload_n hx hb d_Mo_findPlateaus_196 rfl (lv_at hl 8 rfl) ?_
                refine va_get (ci := 8) (v := .long u_56) (C := R_Mo) (T := F_Mo) (N := 36) hx hb hal in_Mo hown hK hP 0 rfl rfl 19 (by decide) (hal _ kw_656) (fun _ h9 => h9) rfl d_Mo_findPlateaus_197 ?_
                refine lv_lsub hx hb d_Mo_findPlateaus_200 ?_
                refine lv_lstore (lv' := [(15, .long (x1_145 - u_56)), (14, .int x14_182), (12, .long x12_182), (10, .long x10_182), (8, .long x8_182), (6, .long x6_182), (5, .int x5_182), (3, .long x3_145), (1, .long x1_145), (0, .ref (a_r 0))]) hx hb d_Mo_findPlateaus_201 hl (by decide) rfl (fun ls hl => ?_)
                refine lv_lload_n hx hb d_Mo_findPlateaus_203 rfl (lv_at hl 7 rfl) ?_
                refine lv_aload_n hx hb d_Mo_findPlateaus_204 rfl (lv_at hl 9 rfl) ?_
                refine va_get (ci := 8) (v := .long u_57) (C := R_Mo) (T := F_Mo) (N := 36) hx hb hal in_Mo hown hK hP 0 rfl rfl 20 (by decide) (hal _ kw_657) (fun _ h9 => h9) rfl d_Mo_findPlateaus_205 ?_
                refine lv_lsub hx hb d_Mo_findPlateaus_208 ?_
                refine lv_lstore (lv' := [(17, .long (x3_145 - u_57)), (15, .long (x1_145 - u_56)), (14, .int x14_182), (12, .long x12_182), (10, .long x10_182), (8, .long x8_182), (6, .long x6_182), (5, .int x5_182), (3, .long x3_145), (1, .long x1_145), (0, .ref (a_r 0))]) hx hb d_Mo_findPlateaus_209 hl (by decide) rfl (fun ls hl => ?_)
                refine lv_lload hx hb d_Mo_findPlateaus_211 (lv_at hl 0 rfl) ?_
                refine lv_lconst (v := 0) hx hb d_Mo_findPlateaus_213 (by decide) ?_
                refine W.lcmp hx hb d_Mo_findPlateaus_214 ?_
                refine cast (hG _ _ _ _ _ _ _) (jn_go h (fun zz : Int32 => ∀ (H : Heap) (locs : List Loc) (ls : Array Slot), va_P D cls9 (wd_Mo_findPlateaus cA a_r r_manner r_above r_below r_nodes r_arcs r_left r_isBest (1 : Int32) u_4 u_56 u_57 r_ties r_z r_plateaus_145 r_ones r_others r_weights r_there u_5 u_6 u_7 u_58 u_59 r_walk_182 r_found_182 r_shown_145 r_beginsAbove_145 r_beginsBelow_145 r_shownOf_145) H → va_D A (wd_Mo_findPlateaus cA a_r r_manner r_above r_below r_nodes r_arcs r_left r_isBest (1 : Int32) u_4 u_56 u_57 r_ties r_z r_plateaus_145 r_ones r_others r_weights r_there u_5 u_6 u_7 u_58 u_59 r_walk_182 r_found_182 r_shown_145 r_beginsAbove_145 r_beginsBelow_145 r_shownOf_145) → va_S A s.heap H locs → lv_has ls 21 [(17, .long (x3_145 - u_57)), (15, .long (x1_145 - u_56)), (14, .int x14_182), (12, .long x12_182), (10, .long x10_182), (8, .long x8_182), (6, .long x6_182), (5, .int x5_182), (3, .long x3_145), (1, .long x1_145), (0, .ref (a_r 0))] → G H locs 0 0 ls 242 [.int zz]) ?_ ?_)
                · intro zz h H locs ls hP hD hS hl
                  obtain ⟨y0_242j, rfl⟩ : ∃ q, q = zz := ⟨_, rfl⟩
                  have hP : va_P D cls9 (wd_Mo_findPlateaus cA a_r r_manner r_above r_below r_nodes r_arcs r_left r_isBest (1 : Int32) u_4 u_56 u_57 r_ties r_z r_plateaus_145 r_ones r_others r_weights r_there u_5 u_6 u_7 u_58 u_59 r_walk_182 r_found_182 r_shown_145 r_beginsAbove_145 r_beginsBelow_145 r_shownOf_145) H := hP
                  have hD : va_D A (wd_Mo_findPlateaus cA a_r r_manner r_above r_below r_nodes r_arcs r_left r_isBest (1 : Int32) u_4 u_56 u_57 r_ties r_z r_plateaus_145 r_ones r_others r_weights r_there u_5 u_6 u_7 u_58 u_59 r_walk_182 r_found_182 r_shown_145 r_beginsAbove_145 r_beginsBelow_145 r_shownOf_145) := hD
                  have hl : lv_has ls 21 [(17, .long (x3_145 - u_57)), (15, .long (x1_145 - u_56)), (14, .int x14_182), (12, .long x12_182), (10, .long x10_182), (8, .long x8_182), (6, .long x6_182), (5, .int x5_182), (3, .long x3_145), (1, .long x1_145), (0, .ref (a_r 0))] := hl
                  refine cast (hG _ _ _ _ _ _ _).symm ?_
                  refine lv_istore (lv' := [(19, .int y0_242j), (17, .long (x3_145 - u_57)), (15, .long (x1_145 - u_56)), (14, .int x14_182), (12, .long x12_182), (10, .long x10_182), (8, .long x8_182), (6, .long x6_182), (5, .int x5_182), (3, .long x3_145), (1, .long x1_145), (0, .ref (a_r 0))]) hx hb d_Mo_findPlateaus_242 hl (by decide) rfl (fun ls hl => ?_)
                  refine lv_lload hx hb d_Mo_findPlateaus_244 (lv_at hl 1 rfl) ?_
                  refine lv_lconst (v := 0) hx hb d_Mo_findPlateaus_246 (by decide) ?_
                  refine W.lcmp hx hb d_Mo_findPlateaus_247 ?_
                  refine cast (hG _ _ _ _ _ _ _) (jn_go h (fun zz : Int32 => ∀ (H : Heap) (locs : List Loc) (ls : Array Slot), va_P D cls9 (wd_Mo_findPlateaus cA a_r r_manner r_above r_below r_nodes r_arcs r_left r_isBest (1 : Int32) u_4 u_56 u_57 r_ties r_z r_plateaus_145 r_ones r_others r_weights r_there u_5 u_6 u_7 u_58 u_59 r_walk_182 r_found_182 r_shown_145 r_beginsAbove_145 r_beginsBelow_145 r_shownOf_145) H → va_D A (wd_Mo_findPlateaus cA a_r r_manner r_above r_below r_nodes r_arcs r_left r_isBest (1 : Int32) u_4 u_56 u_57 r_ties r_z r_plateaus_145 r_ones r_others r_weights r_there u_5 u_6 u_7 u_58 u_59 r_walk_182 r_found_182 r_shown_145 r_beginsAbove_145 r_beginsBelow_145 r_shownOf_145) → va_S A s.heap H locs → lv_has ls 21 [(19, .int y0_242j), (17, .long (x3_145 - u_57)), (15, .long (x1_145 - u_56)), (14, .int x14_182), (12, .long x12_182), (10, .long x10_182), (8, .long x8_182), (6, .long x6_182), (5, .int x5_182), (3, .long x3_145), (1, .long x1_145), (0, .ref (a_r 0))] → G H locs 0 0 ls 285 [.int zz]) ?_ ?_)
                  · intro zz h H locs ls hP hD hS hl
                    obtain ⟨y0_285j, rfl⟩ : ∃ q, q = zz := ⟨_, rfl⟩
                    have hP : va_P D cls9 (wd_Mo_findPlateaus cA a_r r_manner r_above r_below r_nodes r_arcs r_left r_isBest (1 : Int32) u_4 u_56 u_57 r_ties r_z r_plateaus_145 r_ones r_others r_weights r_there u_5 u_6 u_7 u_58 u_59 r_walk_182 r_found_182 r_shown_145 r_beginsAbove_145 r_beginsBelow_145 r_shownOf_145) H := hP
                    have hD : va_D A (wd_Mo_findPlateaus cA a_r r_manner r_above r_below r_nodes r_arcs r_left r_isBest (1 : Int32) u_4 u_56 u_57 r_ties r_z r_plateaus_145 r_ones r_others r_weights r_there u_5 u_6 u_7 u_58 u_59 r_walk_182 r_found_182 r_shown_145 r_beginsAbove_145 r_beginsBelow_145 r_shownOf_145) := hD
                    have hl : lv_has ls 21 [(19, .int y0_242j), (17, .long (x3_145 - u_57)), (15, .long (x1_145 - u_56)), (14, .int x14_182), (12, .long x12_182), (10, .long x10_182), (8, .long x8_182), (6, .long x6_182), (5, .int x5_182), (3, .long x3_145), (1, .long x1_145), (0, .ref (a_r 0))] := hl
                    refine cast (hG _ _ _ _ _ _ _).symm ?_
                    refine lv_istore (lv' := [(20, .int y0_285j), (19, .int y0_242j), (17, .long (x3_145 - u_57)), (15, .long (x1_145 - u_56)), (14, .int x14_182), (12, .long x12_182), (10, .long x10_182), (8, .long x8_182), (6, .long x6_182), (5, .int x5_182), (3, .long x3_145), (1, .long x1_145), (0, .ref (a_r 0))]) hx hb d_Mo_findPlateaus_285 hl (by decide) rfl (fun ls hl => ?_)
                    refine lv_iload hx hb d_Mo_findPlateaus_287 (lv_at hl 1 rfl) ?_
                    refine cast (hG _ _ _ _ _ _ _) (jn_go h (fun zz : Int64 × Int64 × Int64 × Int64 × Int32 × (Nat → Int32) => ∀ (H : Heap) (locs : List Loc) (ls : Array Slot), va_P D cls9 (wd_Mo_findPlateaus cA a_r r_manner r_above r_below r_nodes r_arcs r_left r_isBest (1 : Int32) u_4 u_56 u_57 r_ties r_z r_plateaus_145 r_ones r_others r_weights r_there u_5 u_6 u_7 u_58 u_59 r_walk_182 zz.2.2.2.2.2 r_shown_145 r_beginsAbove_145 r_beginsBelow_145 r_shownOf_145) H → va_D A (wd_Mo_findPlateaus cA a_r r_manner r_above r_below r_nodes r_arcs r_left r_isBest (1 : Int32) u_4 u_56 u_57 r_ties r_z r_plateaus_145 r_ones r_others r_weights r_there u_5 u_6 u_7 u_58 u_59 r_walk_182 zz.2.2.2.2.2 r_shown_145 r_beginsAbove_145 r_beginsBelow_145 r_shownOf_145) → va_S A s.heap H locs → lv_has ls 21 [(20, .int y0_285j), (19, .int y0_242j), (17, .long (x3_145 - u_57)), (15, .long (x1_145 - u_56)), (14, .int x14_182), (12, .long zz.1), (10, .long zz.2.1), (8, .long zz.2.2.1), (6, .long zz.2.2.2.1), (5, .int zz.2.2.2.2.1), (3, .long x3_145), (1, .long x1_145), (0, .ref (a_r 0))] → G H locs 0 0 ls 332 []) ?_ ?_)
                    · intro zz h H locs ls hP hD hS hl
                      obtain ⟨x12_332j, x10_332j, x8_332j, x6_332j, x5_332j, r_found_332j⟩ := zz
                      have hP : va_P D cls9 (wd_Mo_findPlateaus cA a_r r_manner r_above r_below r_nodes r_arcs r_left r_isBest (1 : Int32) u_4 u_56 u_57 r_ties r_z r_plateaus_145 r_ones r_others r_weights r_there u_5 u_6 u_7 u_58 u_59 r_walk_182 r_found_332j r_shown_145 r_beginsAbove_145 r_beginsBelow_145 r_shownOf_145) H := hP
                      have hD : va_D A (wd_Mo_findPlateaus cA a_r r_manner r_above r_below r_nodes r_arcs r_left r_isBest (1 : Int32) u_4 u_56 u_57 r_ties r_z r_plateaus_145 r_ones r_others r_weights r_there u_5 u_6 u_7 u_58 u_59 r_walk_182 r_found_332j r_shown_145 r_beginsAbove_145 r_beginsBelow_145 r_shownOf_145) := hD
                      have hl : lv_has ls 21 [(20, .int y0_285j), (19, .int y0_242j), (17, .long (x3_145 - u_57)), (15, .long (x1_145 - u_56)), (14, .int x14_182), (12, .long x12_332j), (10, .long x10_332j), (8, .long x8_332j), (6, .long x6_332j), (5, .int x5_332j), (3, .long x3_145), (1, .long x1_145), (0, .ref (a_r 0))] := hl
                      refine cast (hG _ _ _ _ _ _ _).symm ?_
                      refine lv_aload_n hx hb d_Mo_findPlateaus_332 rfl (lv_at hl 12 rfl) ?_
                      obtain ⟨o_66, hc_65, h⟩ := bd h
                      have hPc := hP.sub (ws' := (wd_Mo_next cA a_r r_manner r_above r_below r_nodes r_arcs r_left r_isBest (1 : Int32) u_4 u_56 u_57 r_ties r_z r_plateaus_145 r_walk_182)) [0, 10] rfl
                      have hDc := hD.sub (ws' := (wd_Mo_next cA a_r r_manner r_above r_below r_nodes r_arcs r_left r_isBest (1 : Int32) u_4 u_56 u_57 r_ties r_z r_plateaus_145 r_walk_182)) [0, 10] (by decide) rfl
                      have hFc := va_free (wc := (wd_Mo_next cA a_r r_manner r_above r_below r_nodes r_arcs r_left r_isBest (1 : Int32) u_4 u_56 u_57 r_ties r_z r_plateaus_145 r_walk_182)) hD hS hA [0, 10] rfl
                      refine va_calli (va_runV (C := R_Mo) (As := []) (rest := []) ⟨hx, hb, hml, hown, hal⟩ (c_Mo_next l D cA a_r H.size r_manner r_above r_below r_nodes r_arcs r_left r_isBest (1 : Int32) u_4 u_56 u_57 r_ties r_z r_plateaus_145 r_walk_182 o_66 hc_65) (cwV 0 hal (goodV kw_869 kw_871 kw_p40 kw_9 kw_872) rfl rfl rfl (by decide +kernel) ⟨Nat.le_of_ble_eq_true rfl, Nat.le_of_ble_eq_true rfl⟩) ⟨fun a U g mk q => by obtain ⟨q0, q1, qP, qK, qD⟩ := q; exact ⟨q0, q1, qP, va_K.moved (u := U) (U := U.calling g mk a) (Vm.Alike.refl U.vm) qK, qD⟩, va_recv hK hP (ci := 8) (q0 := 0) rfl rfl, fun U hU hW => ⟨rfl, by rw [hU], by rw [hU]; exact hPc, va_K.moved hW.alike hK, hDc.weaken (fun _ _ _ _ => trivial)⟩⟩ rfl rfl hl.1 rfl (lv_room (Nat.le_of_ble_eq_true rfl)) d_Mo_findPlateaus_333 ⟨Nat.le_of_ble_eq_true rfl, Nat.le_of_ble_eq_true rfl⟩) hS (fun q _ h => hFc q h) hFc (fun r_63 u t H1 locs ht hvm hw hB hz1 hk1 hS => ?_)
                      obtain ⟨u_64, rfl⟩ : ∃ q, q = u := ⟨_, rfl⟩
                      subst hw
                      obtain ⟨hP1, hK1, hD1⟩ := hB
                      rw [ht] at hP1
                      have hP1 : va_P D cls9 (wd_Mo_next cA a_r r_manner r_above r_below r_nodes r_arcs r_left r_isBest (1 : Int32) u_4 u_56 u_57 r_ties r_z r_plateaus_145 u_64) H1 := hP1
                      obtain ⟨hP, hD⟩ := va_join (wr := ([1, 2, 3, 4, 5, 6, 7, 8, 9, 11, 12, 13, 14, 15] : List Nat).filterMap (fun i => (wd_Mo_findPlateaus cA a_r r_manner r_above r_below r_nodes r_arcs r_left r_isBest (1 : Int32) u_4 u_56 u_57 r_ties r_z r_plateaus_145 r_ones r_others r_weights r_there u_5 u_6 u_7 u_58 u_59 r_walk_182 r_found_332j r_shown_145 r_beginsAbove_145 r_beginsBelow_145 r_shownOf_145)[i]?)) (w1 := (wd_Mo_next cA a_r r_manner r_above r_below r_nodes r_arcs r_left r_isBest (1 : Int32) u_4 u_56 u_57 r_ties r_z r_plateaus_145 u_64)) hP hD [0, 10] [1, 2, 3, 4, 5, 6, 7, 8, 9, 11, 12, 13, 14, 15] rfl rfl (by decide) (by decide) hk1 hFc hP1 hD1
                      generalize H1 = H at hP hS ⊢
                      have hP : va_P D cls9 (wd_Mo_findPlateaus cA a_r r_manner r_above r_below r_nodes r_arcs r_left r_isBest (1 : Int32) u_4 u_56 u_57 r_ties r_z r_plateaus_145 r_ones r_others r_weights r_there u_5 u_6 u_7 u_58 u_59 u_64 r_found_332j r_shown_145 r_beginsAbove_145 r_beginsBelow_145 r_shownOf_145) H := hP.sub [14, 0, 1, 2, 3, 4, 5, 6, 7, 8, 15, 9, 10, 11, 12, 13] rfl
                      have hD : va_D A (wd_Mo_findPlateaus cA a_r r_manner r_above r_below r_nodes r_arcs r_left r_isBest (1 : Int32) u_4 u_56 u_57 r_ties r_z r_plateaus_145 r_ones r_others r_weights r_there u_5 u_6 u_7 u_58 u_59 u_64 r_found_332j r_shown_145 r_beginsAbove_145 r_beginsBelow_145 r_shownOf_145) := hD.sub [14, 0, 1, 2, 3, 4, 5, 6, 7, 8, 15, 9, 10, 11, 12, 13] (by decide) rfl
                      refine lv_istore (lv' := [(14, .int r_63), (20, .int y0_285j), (19, .int y0_242j), (17, .long (x3_145 - u_57)), (15, .long (x1_145 - u_56)), (12, .long x12_332j), (10, .long x10_332j), (8, .long x8_332j), (6, .long x6_332j), (5, .int x5_332j), (3, .long x3_145), (1, .long x1_145), (0, .ref (a_r 0))]) hx hb d_Mo_findPlateaus_336 hl (by decide) rfl (fun ls hl => ?_)
                      refine lv_goto (tgt := 182) hx hb d_Mo_findPlateaus_338 (by decide) ?_
                      exact cast (hG _ _ _ _ _ _ _) (hB_182 (x5_332j, x6_332j, x8_332j, x10_332j, x12_332j, r_63, u_56, u_57, r_found_332j, u_59, u_58, u_64) h _ _ _ hP hD hS (lv_sub hl [0, 5, 6, 7, 8, 9, 10, 11, 12] rfl))
                    · intro j332 hJ_332 h
                      refine cast (hG _ _ _ _ _ _ _).symm ?_
                      refine cast (hG _ _ _ _ _ _ _) (jn_go h (fun zz : Unit => ∀ (H : Heap) (locs : List Loc) (ls : Array Slot), va_P D cls9 (wd_Mo_findPlateaus cA a_r r_manner r_above r_below r_nodes r_arcs r_left r_isBest (1 : Int32) u_4 u_56 u_57 r_ties r_z r_plateaus_145 r_ones r_others r_weights r_there u_5 u_6 u_7 u_58 u_59 r_walk_182 r_found_182 r_shown_145 r_beginsAbove_145 r_beginsBelow_145 r_shownOf_145) H → va_D A (wd_Mo_findPlateaus cA a_r r_manner r_above r_below r_nodes r_arcs r_left r_isBest (1 : Int32) u_4 u_56 u_57 r_ties r_z r_plateaus_145 r_ones r_others r_weights r_there u_5 u_6 u_7 u_58 u_59 r_walk_182 r_found_182 r_shown_145 r_beginsAbove_145 r_beginsBelow_145 r_shownOf_145) → va_S A s.heap H locs → lv_has ls 21 [(20, .int y0_285j), (19, .int y0_242j), (17, .long (x3_145 - u_57)), (15, .long (x1_145 - u_56)), (14, .int x14_182), (12, .long x12_182), (10, .long x10_182), (8, .long x8_182), (6, .long x6_182), (5, .int x5_182), (3, .long x3_145), (1, .long x1_145), (0, .ref (a_r 0))] → G H locs 0 0 ls 297 []) ?_ ?_)
                      · intro zz h H locs ls hP hD hS hl
                        have hP : va_P D cls9 (wd_Mo_findPlateaus cA a_r r_manner r_above r_below r_nodes r_arcs r_left r_isBest (1 : Int32) u_4 u_56 u_57 r_ties r_z r_plateaus_145 r_ones r_others r_weights r_there u_5 u_6 u_7 u_58 u_59 r_walk_182 r_found_182 r_shown_145 r_beginsAbove_145 r_beginsBelow_145 r_shownOf_145) H := hP
                        have hD : va_D A (wd_Mo_findPlateaus cA a_r r_manner r_above r_below r_nodes r_arcs r_left r_isBest (1 : Int32) u_4 u_56 u_57 r_ties r_z r_plateaus_145 r_ones r_others r_weights r_there u_5 u_6 u_7 u_58 u_59 r_walk_182 r_found_182 r_shown_145 r_beginsAbove_145 r_beginsBelow_145 r_shownOf_145) := hD
                        have hl : lv_has ls 21 [(20, .int y0_285j), (19, .int y0_242j), (17, .long (x3_145 - u_57)), (15, .long (x1_145 - u_56)), (14, .int x14_182), (12, .long x12_182), (10, .long x10_182), (8, .long x8_182), (6, .long x6_182), (5, .int x5_182), (3, .long x3_145), (1, .long x1_145), (0, .ref (a_r 0))] := hl
                        refine cast (hG _ _ _ _ _ _ _).symm ?_
                        refine lv_iconst (v := 1) hx hb d_Mo_findPlateaus_297 (by decide) ?_
                        refine lv_istore (lv' := [(5, .int (1 : Int32)), (20, .int y0_285j), (19, .int y0_242j), (17, .long (x3_145 - u_57)), (15, .long (x1_145 - u_56)), (14, .int x14_182), (12, .long x12_182), (10, .long x10_182), (8, .long x8_182), (6, .long x6_182), (3, .long x3_145), (1, .long x1_145), (0, .ref (a_r 0))]) hx hb d_Mo_findPlateaus_298 hl (by decide) rfl (fun ls hl => ?_)
                        refine lv_lload hx hb d_Mo_findPlateaus_300 (lv_at hl 4 rfl) ?_
                        refine lv_lstore (lv' := [(6, .long (x1_145 - u_56)), (5, .int (1 : Int32)), (20, .int y0_285j), (19, .int y0_242j), (17, .long (x3_145 - u_57)), (15, .long (x1_145 - u_56)), (14, .int x14_182), (12, .long x12_182), (10, .long x10_182), (8, .long x8_182), (3, .long x3_145), (1, .long x1_145), (0, .ref (a_r 0))]) hx hb d_Mo_findPlateaus_302 hl (by decide) rfl (fun ls hl => ?_)
                        refine lv_lload hx hb d_Mo_findPlateaus_304 (lv_at hl 4 rfl) ?_
                        refine lv_lstore (lv' := [(8, .long (x3_145 - u_57)), (6, .long (x1_145 - u_56)), (5, .int (1 : Int32)), (20, .int y0_285j), (19, .int y0_242j), (17, .long (x3_145 - u_57)), (15, .long (x1_145 - u_56)), (14, .int x14_182), (12, .long x12_182), (10, .long x10_182), (3, .long x3_145), (1, .long x1_145), (0, .ref (a_r 0))]) hx hb d_Mo_findPlateaus_306 hl (by decide) rfl (fun ls hl => ?_)
                        refine lv_aload_n hx hb d_Mo_findPlateaus_308 rfl (lv_at hl 12 rfl) ?_
                        refine va_get (ci := 8) (v := .long u_56) (C := R_Mo) (T := F_Mo) (N := 36) hx hb hal in_Mo hown hK hP 0 rfl rfl 19 (by decide) (hal _ kw_656) (fun _ h9 => h9) rfl d_Mo_findPlateaus_309 ?_
                        refine lv_lstore (lv' := [(10, .long u_56), (8, .long (x3_145 - u_57)), (6, .long (x1_145 - u_56)), (5, .int (1 : Int32)), (20, .int y0_285j), (19, .int y0_242j), (17, .long (x3_145 - u_57)), (15, .long (x1_145 - u_56)), (14, .int x14_182), (12, .long x12_182), (3, .long x3_145), (1, .long x1_145), (0, .ref (a_r 0))]) hx hb d_Mo_findPlateaus_312 hl (by decide) rfl (fun ls hl => ?_)
                        refine lv_aload_n hx hb d_Mo_findPlateaus_314 rfl (lv_at hl 12 rfl) ?_
                        refine va_get (ci := 8) (v := .long u_57) (C := R_Mo) (T := F_Mo) (N := 36) hx hb hal in_Mo hown hK hP 0 rfl rfl 20 (by decide) (hal _ kw_657) (fun _ h9 => h9) rfl d_Mo_findPlateaus_315 ?_
                        refine lv_lstore (lv' := [(12, .long u_57), (10, .long u_56), (8, .long (x3_145 - u_57)), (6, .long (x1_145 - u_56)), (5, .int (1 : Int32)), (20, .int y0_285j), (19, .int y0_242j), (17, .long (x3_145 - u_57)), (15, .long (x1_145 - u_56)), (14, .int x14_182), (3, .long x3_145), (1, .long x1_145), (0, .ref (a_r 0))]) hx hb d_Mo_findPlateaus_318 hl (by decide) rfl (fun ls hl => ?_)
                        refine lv_aload_n hx hb d_Mo_findPlateaus_320 rfl (lv_at hl 12 rfl) ?_
                        refine lv_aload_n hx hb d_Mo_findPlateaus_321 rfl (lv_at hl 12 rfl) ?_
                        refine va_get (ci := 8) (v := .ref (a_r 13)) (C := R_Mo) (T := F_Mo) (N := 36) hx hb hal in_Mo hown hK hP 0 rfl rfl 23 (by decide) (hal _ kw_660) (fun _ h9 => h9) rfl d_Mo_findPlateaus_322 ?_
                        refine lv_aload_n hx hb d_Mo_findPlateaus_325 rfl (lv_at hl 12 rfl) ?_
                        refine va_get (ci := 8) (v := .ref (a_r 14)) (C := R_Mo) (T := F_Mo) (N := 36) hx hb hal in_Mo hown hK hP 0 rfl rfl 24 (by decide) (hal _ kw_661) (fun _ h9 => h9) rfl d_Mo_findPlateaus_326 ?_
                        obtain ⟨o_71, hc_70, h⟩ := bd h
                        have hPc := hP.sub (ws' := (wd_Mo_copy cA a_r (fun _ => a_r 13) (fun _ => a_r 14) r_manner r_above r_below r_nodes r_arcs r_left r_isBest (1 : Int32) u_4 u_56 u_57 r_ties r_z r_plateaus_145 r_walk_182 r_found_182)) [0, 10, 11] rfl
                        have hDc := hD.sub (ws' := (wd_Mo_copy cA a_r (fun _ => a_r 13) (fun _ => a_r 14) r_manner r_above r_below r_nodes r_arcs r_left r_isBest (1 : Int32) u_4 u_56 u_57 r_ties r_z r_plateaus_145 r_walk_182 r_found_182)) [0, 10, 11] (by decide) rfl
                        have hFc := va_free (wc := (wd_Mo_copy cA a_r (fun _ => a_r 13) (fun _ => a_r 14) r_manner r_above r_below r_nodes r_arcs r_left r_isBest (1 : Int32) u_4 u_56 u_57 r_ties r_z r_plateaus_145 r_walk_182 r_found_182)) hD hS hA [0, 10, 11] rfl
                        refine va_callv (va_runV (C := R_Mo) (As := [.ref (a_r 13), .ref (a_r 14)]) (rest := []) ⟨hx, hb, hml, hown, hal⟩ (c_Mo_copy l D cA a_r (fun _ => a_r 13) (fun _ => a_r 14) H.size r_manner r_above r_below r_nodes r_arcs r_left r_isBest (1 : Int32) u_4 u_56 u_57 r_ties r_z r_plateaus_145 r_walk_182 r_found_182 o_71 hc_70) (cwV 2 hal (goodV kw_833 kw_835 kw_p35 kw_9 kw_836) rfl rfl rfl (by decide +kernel) ⟨Nat.le_of_ble_eq_true rfl, Nat.le_of_ble_eq_true rfl⟩) ⟨fun a U g mk q => by obtain ⟨q0, q1, qP, qK, qD⟩ := q; exact ⟨q0, q1, qP, va_K.moved (u := U) (U := U.calling g mk a) (Vm.Alike.refl U.vm) qK, qD⟩, va_recv hK hP (ci := 8) (q0 := 0) rfl rfl, fun U hU hW => ⟨rfl, by rw [hU], by rw [hU]; exact hPc, va_K.moved hW.alike hK, hDc.weaken (fun _ _ _ _ => trivial)⟩⟩ rfl rfl hl.1 rfl (lv_room (Nat.le_of_ble_eq_true rfl)) d_Mo_findPlateaus_329 ⟨Nat.le_of_ble_eq_true rfl, Nat.le_of_ble_eq_true rfl⟩) hS (fun q _ h => hFc q h) hFc (fun u t H1 locs ht hvm hw hB hz1 hk1 hS => ?_)
                        obtain ⟨u_69, rfl⟩ : ∃ q, q = u := ⟨_, rfl⟩
                        subst hw
                        obtain ⟨hP1, hK1, hD1⟩ := hB
                        rw [ht] at hP1
                        have hP1 : va_P D cls9 (wd_Mo_copy cA a_r (fun _ => a_r 13) (fun _ => a_r 14) r_manner r_above r_below r_nodes r_arcs r_left r_isBest (1 : Int32) u_4 u_56 u_57 r_ties r_z r_plateaus_145 r_walk_182 u_69) H1 := hP1
                        obtain ⟨hP, hD⟩ := va_join (wr := ([1, 2, 3, 4, 5, 6, 7, 8, 9, 12, 13, 14, 15] : List Nat).filterMap (fun i => (wd_Mo_findPlateaus cA a_r r_manner r_above r_below r_nodes r_arcs r_left r_isBest (1 : Int32) u_4 u_56 u_57 r_ties r_z r_plateaus_145 r_ones r_others r_weights r_there u_5 u_6 u_7 u_58 u_59 r_walk_182 r_found_182 r_shown_145 r_beginsAbove_145 r_beginsBelow_145 r_shownOf_145)[i]?)) (w1 := (wd_Mo_copy cA a_r (fun _ => a_r 13) (fun _ => a_r 14) r_manner r_above r_below r_nodes r_arcs r_left r_isBest (1 : Int32) u_4 u_56 u_57 r_ties r_z r_plateaus_145 r_walk_182 u_69)) hP hD [0, 10, 11] [1, 2, 3, 4, 5, 6, 7, 8, 9, 12, 13, 14, 15] rfl rfl (by decide) (by decide) hk1 hFc hP1 hD1
                        generalize H1 = H at hP hS ⊢
                        have hP : va_P D cls9 (wd_Mo_findPlateaus cA a_r r_manner r_above r_below r_nodes r_arcs r_left r_isBest (1 : Int32) u_4 u_56 u_57 r_ties r_z r_plateaus_145 r_ones r_others r_weights r_there u_5 u_6 u_7 u_58 u_59 r_walk_182 u_69 r_shown_145 r_beginsAbove_145 r_beginsBelow_145 r_shownOf_145) H := hP.sub [13, 0, 1, 2, 3, 4, 5, 6, 7, 8, 14, 15, 9, 10, 11, 12] rfl
                        have hD : va_D A (wd_Mo_findPlateaus cA a_r r_manner r_above r_below r_nodes r_arcs r_left r_isBest (1 : Int32) u_4 u_56 u_57 r_ties r_z r_plateaus_145 r_ones r_others r_weights r_there u_5 u_6 u_7 u_58 u_59 r_walk_182 u_69 r_shown_145 r_beginsAbove_145 r_beginsBelow_145 r_shownOf_145) := hD.sub [13, 0, 1, 2, 3, 4, 5, 6, 7, 8, 14, 15, 9, 10, 11, 12] (by decide) rfl
                        exact cast (hG _ _ _ _ _ _ _) (hJ_332 (u_57, u_56, (x3_145 - u_57), (x1_145 - u_56), (1 : Int32), u_69) h _ _ _ hP hD hS (lv_sub hl [5, 6, 7, 8, 9, 0, 1, 2, 3, 4, 10, 11, 12] rfl))
                      · intro j297 hJ_297 h
                        refine cast (hG _ _ _ _ _ _ _).symm ?_
                        refine lv_if_ne (tgt := 297) hx hb d_Mo_findPlateaus_289 (by decide) (fun c_72 => ?_) (fun c_72 => ?_)
                        · have h := ifn (c_72) h
                          exact cast (hG _ _ _ _ _ _ _) (hJ_297 () h _ _ _ hP hD hS (lv_sub hl [0, 1, 2, 3, 4, 5, 6, 7, 8, 9, 10, 11, 12] rfl))
                        · have h := ifp (c_72) h
                          refine lv_iload hx hb d_Mo_findPlateaus_292 (lv_at hl 0 rfl) ?_
                          refine lv_if_eq (tgt := 332) hx hb d_Mo_findPlateaus_294 (by decide) (fun c_73 => ?_) (fun c_73 => ?_)
                          · have h := ifp (c_73) h
                            exact cast (hG _ _ _ _ _ _ _) (hJ_332 (x12_182, x10_182, x8_182, x6_182, x5_182, r_found_182) h _ _ _ hP hD hS (lv_sub hl [0, 1, 2, 3, 4, 5, 6, 7, 8, 9, 10, 11, 12] rfl))
                          · have h := ifn (c_73) h
                            exact cast (hG _ _ _ _ _ _ _) (hJ_297 () h _ _ _ hP hD hS (lv_sub hl [0, 1, 2, 3, 4, 5, 6, 7, 8, 9, 10, 11, 12] rfl))
                  · intro j285 hJ_285 h
                    refine cast (hG _ _ _ _ _ _ _).symm ?_
                    refine cast (hG _ _ _ _ _ _ _) (jn_go h (fun zz : Unit => ∀ (H : Heap) (locs : List Loc) (ls : Array Slot), va_P D cls9 (wd_Mo_findPlateaus cA a_r r_manner r_above r_below r_nodes r_arcs r_left r_isBest (1 : Int32) u_4 u_56 u_57 r_ties r_z r_plateaus_145 r_ones r_others r_weights r_there u_5 u_6 u_7 u_58 u_59 r_walk_182 r_found_182 r_shown_145 r_beginsAbove_145 r_beginsBelow_145 r_shownOf_145) H → va_D A (wd_Mo_findPlateaus cA a_r r_manner r_above r_below r_nodes r_arcs r_left r_isBest (1 : Int32) u_4 u_56 u_57 r_ties r_z r_plateaus_145 r_ones r_others r_weights r_there u_5 u_6 u_7 u_58 u_59 r_walk_182 r_found_182 r_shown_145 r_beginsAbove_145 r_beginsBelow_145 r_shownOf_145) → va_S A s.heap H locs → lv_has ls 21 [(19, .int y0_242j), (17, .long (x3_145 - u_57)), (15, .long (x1_145 - u_56)), (14, .int x14_182), (12, .long x12_182), (10, .long x10_182), (8, .long x8_182), (6, .long x6_182), (5, .int x5_182), (3, .long x3_145), (1, .long x1_145), (0, .ref (a_r 0))] → G H locs 0 0 ls 284 []) ?_ ?_)
                    · intro zz h H locs ls hP hD hS hl
                      have hP : va_P D cls9 (wd_Mo_findPlateaus cA a_r r_manner r_above r_below r_nodes r_arcs r_left r_isBest (1 : Int32) u_4 u_56 u_57 r_ties r_z r_plateaus_145 r_ones r_others r_weights r_there u_5 u_6 u_7 u_58 u_59 r_walk_182 r_found_182 r_shown_145 r_beginsAbove_145 r_beginsBelow_145 r_shownOf_145) H := hP
                      have hD : va_D A (wd_Mo_findPlateaus cA a_r r_manner r_above r_below r_nodes r_arcs r_left r_isBest (1 : Int32) u_4 u_56 u_57 r_ties r_z r_plateaus_145 r_ones r_others r_weights r_there u_5 u_6 u_7 u_58 u_59 r_walk_182 r_found_182 r_shown_145 r_beginsAbove_145 r_beginsBelow_145 r_shownOf_145) := hD
                      have hl : lv_has ls 21 [(19, .int y0_242j), (17, .long (x3_145 - u_57)), (15, .long (x1_145 - u_56)), (14, .int x14_182), (12, .long x12_182), (10, .long x10_182), (8, .long x8_182), (6, .long x6_182), (5, .int x5_182), (3, .long x3_145), (1, .long x1_145), (0, .ref (a_r 0))] := hl
                      refine cast (hG _ _ _ _ _ _ _).symm ?_
                      refine lv_iconst (v := 0) hx hb d_Mo_findPlateaus_284 (by decide) ?_
                      exact cast (hG _ _ _ _ _ _ _) (hJ_285 (0 : Int32) h _ _ _ hP hD hS (lv_sub hl [0, 1, 2, 3, 4, 5, 6, 7, 8, 9, 10, 11] rfl))
                    · intro j284 hJ_284 h
                      refine cast (hG _ _ _ _ _ _ _).symm ?_
                      refine lv_if_le (tgt := 284) hx hb d_Mo_findPlateaus_248 (by decide) (fun c_74 => ?_) (fun c_74 => ?_)
                      · have h := ifp (lc_le.mp (c_74)) h
                        exact cast (hG _ _ _ _ _ _ _) (hJ_284 () h _ _ _ hP hD hS (lv_sub hl [0, 1, 2, 3, 4, 5, 6, 7, 8, 9, 10, 11] rfl))
                      · have h := ifn (fun q => (c_74) (lc_le.mpr q)) h
                        refine lv_iload hx hb d_Mo_findPlateaus_251 (lv_at hl 8 rfl) ?_
                        refine lv_if_eq (tgt := 284) hx hb d_Mo_findPlateaus_253 (by decide) (fun c_75 => ?_) (fun c_75 => ?_)
                        · have h := ifp (c_75) h
                          exact cast (hG _ _ _ _ _ _ _) (hJ_284 () h _ _ _ hP hD hS (lv_sub hl [0, 1, 2, 3, 4, 5, 6, 7, 8, 9, 10, 11] rfl))
                        · have h := ifn (c_75) h
                          refine lv_lload hx hb d_Mo_findPlateaus_256 (lv_at hl 2 rfl) ?_
                          refine lv_lload hx hb d_Mo_findPlateaus_258 (lv_at hl 6 rfl) ?_
                          refine lv_lmul hx hb d_Mo_findPlateaus_260 ?_
                          refine lv_lload hx hb d_Mo_findPlateaus_261 (lv_at hl 7 rfl) ?_
                          refine lv_lload hx hb d_Mo_findPlateaus_263 (lv_at hl 1 rfl) ?_
                          refine lv_lmul hx hb d_Mo_findPlateaus_265 ?_
                          refine W.lcmp hx hb d_Mo_findPlateaus_266 ?_
                          refine lv_if_ne (tgt := 284) hx hb d_Mo_findPlateaus_267 (by decide) (fun c_76 => ?_) (fun c_76 => ?_)
                          · have h := ifn (fun q => (c_76) (lc_eq.mpr q)) h
                            exact cast (hG _ _ _ _ _ _ _) (hJ_284 () h _ _ _ hP hD hS (lv_sub hl [0, 1, 2, 3, 4, 5, 6, 7, 8, 9, 10, 11] rfl))
                          · have h := ifp (lc_eq.mp (c_76)) h
                            refine lv_aload_n hx hb d_Mo_findPlateaus_270 rfl (lv_at hl 11 rfl) ?_
                            refine va_get (ci := 8) (v := .long u_57) (C := R_Mo) (T := F_Mo) (N := 36) hx hb hal in_Mo hown hK hP 0 rfl rfl 20 (by decide) (hal _ kw_657) (fun _ h9 => h9) rfl d_Mo_findPlateaus_271 ?_
                            refine lv_lload hx hb d_Mo_findPlateaus_274 (lv_at hl 4 rfl) ?_
                            refine W.lcmp hx hb d_Mo_findPlateaus_276 ?_
                            refine lv_if_ge (tgt := 284) hx hb d_Mo_findPlateaus_277 (by decide) (fun c_77 => ?_) (fun c_77 => ?_)
                            · have h := ifp (lc_ge.mp (c_77)) h
                              exact cast (hG _ _ _ _ _ _ _) (hJ_284 () h _ _ _ hP hD hS (lv_sub hl [0, 1, 2, 3, 4, 5, 6, 7, 8, 9, 10, 11] rfl))
                            · have h := ifn (fun q => (c_77) (lc_ge.mpr q)) h
                              refine lv_iconst (v := 1) hx hb d_Mo_findPlateaus_280 (by decide) ?_
                              refine lv_goto (tgt := 285) hx hb d_Mo_findPlateaus_281 (by decide) ?_
                              exact cast (hG _ _ _ _ _ _ _) (hJ_285 (1 : Int32) h _ _ _ hP hD hS (lv_sub hl [0, 1, 2, 3, 4, 5, 6, 7, 8, 9, 10, 11] rfl))
                · intro j242 hJ_242 h
                  refine cast (hG _ _ _ _ _ _ _).symm ?_
                  refine cast (hG _ _ _ _ _ _ _) (jn_go h (fun zz : Unit => ∀ (H : Heap) (locs : List Loc) (ls : Array Slot), va_P D cls9 (wd_Mo_findPlateaus cA a_r r_manner r_above r_below r_nodes r_arcs r_left r_isBest (1 : Int32) u_4 u_56 u_57 r_ties r_z r_plateaus_145 r_ones r_others r_weights r_there u_5 u_6 u_7 u_58 u_59 r_walk_182 r_found_182 r_shown_145 r_beginsAbove_145 r_beginsBelow_145 r_shownOf_145) H → va_D A (wd_Mo_findPlateaus cA a_r r_manner r_above r_below r_nodes r_arcs r_left r_isBest (1 : Int32) u_4 u_56 u_57 r_ties r_z r_plateaus_145 r_ones r_others r_weights r_there u_5 u_6 u_7 u_58 u_59 r_walk_182 r_found_182 r_shown_145 r_beginsAbove_145 r_beginsBelow_145 r_shownOf_145) → va_S A s.heap H locs → lv_has ls 21 [(17, .long (x3_145 - u_57)), (15, .long (x1_145 - u_56)), (14, .int x14_182), (12, .long x12_182), (10, .long x10_182), (8, .long x8_182), (6, .long x6_182), (5, .int x5_182), (3, .long x3_145), (1, .long x1_145), (0, .ref (a_r 0))] → G H locs 0 0 ls 241 []) ?_ ?_)
                  · intro zz h H locs ls hP hD hS hl
                    have hP : va_P D cls9 (wd_Mo_findPlateaus cA a_r r_manner r_above r_below r_nodes r_arcs r_left r_isBest (1 : Int32) u_4 u_56 u_57 r_ties r_z r_plateaus_145 r_ones r_others r_weights r_there u_5 u_6 u_7 u_58 u_59 r_walk_182 r_found_182 r_shown_145 r_beginsAbove_145 r_beginsBelow_145 r_shownOf_145) H := hP
                    have hD : va_D A (wd_Mo_findPlateaus cA a_r r_manner r_above r_below r_nodes r_arcs r_left r_isBest (1 : Int32) u_4 u_56 u_57 r_ties r_z r_plateaus_145 r_ones r_others r_weights r_there u_5 u_6 u_7 u_58 u_59 r_walk_182 r_found_182 r_shown_145 r_beginsAbove_145 r_beginsBelow_145 r_shownOf_145) := hD
                    have hl : lv_has ls 21 [(17, .long (x3_145 - u_57)), (15, .long (x1_145 - u_56)), (14, .int x14_182), (12, .long x12_182), (10, .long x10_182), (8, .long x8_182), (6, .long x6_182), (5, .int x5_182), (3, .long x3_145), (1, .long x1_145), (0, .ref (a_r 0))] := hl
                    refine cast (hG _ _ _ _ _ _ _).symm ?_
                    refine lv_iconst (v := 0) hx hb d_Mo_findPlateaus_241 (by decide) ?_
                    exact cast (hG _ _ _ _ _ _ _) (hJ_242 (0 : Int32) h _ _ _ hP hD hS (lv_sub hl [0, 1, 2, 3, 4, 5, 6, 7, 8, 9, 10] rfl))
                  · intro j241 hJ_241 h
                    refine cast (hG _ _ _ _ _ _ _).symm ?_
                    refine lv_if_le (tgt := 241) hx hb d_Mo_findPlateaus_215 (by decide) (fun c_78 => ?_) (fun c_78 => ?_)
                    · have h := ifp (lc_le.mp (c_78)) h
                      exact cast (hG _ _ _ _ _ _ _) (hJ_241 () h _ _ _ hP hD hS (lv_sub hl [0, 1, 2, 3, 4, 5, 6, 7, 8, 9, 10] rfl))
                    · have h := ifn (fun q => (c_78) (lc_le.mpr q)) h
                      refine lv_iload hx hb d_Mo_findPlateaus_218 (lv_at hl 7 rfl) ?_
                      refine cast (hG _ _ _ _ _ _ _) (jn_go h (fun zz : Unit => ∀ (H : Heap) (locs : List Loc) (ls : Array Slot), va_P D cls9 (wd_Mo_findPlateaus cA a_r r_manner r_above r_below r_nodes r_arcs r_left r_isBest (1 : Int32) u_4 u_56 u_57 r_ties r_z r_plateaus_145 r_ones r_others r_weights r_there u_5 u_6 u_7 u_58 u_59 r_walk_182 r_found_182 r_shown_145 r_beginsAbove_145 r_beginsBelow_145 r_shownOf_145) H → va_D A (wd_Mo_findPlateaus cA a_r r_manner r_above r_below r_nodes r_arcs r_left r_isBest (1 : Int32) u_4 u_56 u_57 r_ties r_z r_plateaus_145 r_ones r_others r_weights r_there u_5 u_6 u_7 u_58 u_59 r_walk_182 r_found_182 r_shown_145 r_beginsAbove_145 r_beginsBelow_145 r_shownOf_145) → va_S A s.heap H locs → lv_has ls 21 [(17, .long (x3_145 - u_57)), (15, .long (x1_145 - u_56)), (14, .int x14_182), (12, .long x12_182), (10, .long x10_182), (8, .long x8_182), (6, .long x6_182), (5, .int x5_182), (3, .long x3_145), (1, .long x1_145), (0, .ref (a_r 0))] → G H locs 0 0 ls 237 []) ?_ ?_)
                      · intro zz h H locs ls hP hD hS hl
                        have hP : va_P D cls9 (wd_Mo_findPlateaus cA a_r r_manner r_above r_below r_nodes r_arcs r_left r_isBest (1 : Int32) u_4 u_56 u_57 r_ties r_z r_plateaus_145 r_ones r_others r_weights r_there u_5 u_6 u_7 u_58 u_59 r_walk_182 r_found_182 r_shown_145 r_beginsAbove_145 r_beginsBelow_145 r_shownOf_145) H := hP
                        have hD : va_D A (wd_Mo_findPlateaus cA a_r r_manner r_above r_below r_nodes r_arcs r_left r_isBest (1 : Int32) u_4 u_56 u_57 r_ties r_z r_plateaus_145 r_ones r_others r_weights r_there u_5 u_6 u_7 u_58 u_59 r_walk_182 r_found_182 r_shown_145 r_beginsAbove_145 r_beginsBelow_145 r_shownOf_145) := hD
                        have hl : lv_has ls 21 [(17, .long (x3_145 - u_57)), (15, .long (x1_145 - u_56)), (14, .int x14_182), (12, .long x12_182), (10, .long x10_182), (8, .long x8_182), (6, .long x6_182), (5, .int x5_182), (3, .long x3_145), (1, .long x1_145), (0, .ref (a_r 0))] := hl
                        refine cast (hG _ _ _ _ _ _ _).symm ?_
                        refine lv_iconst (v := 1) hx hb d_Mo_findPlateaus_237 (by decide) ?_
                        refine lv_goto (tgt := 242) hx hb d_Mo_findPlateaus_238 (by decide) ?_
                        exact cast (hG _ _ _ _ _ _ _) (hJ_242 (1 : Int32) h _ _ _ hP hD hS (lv_sub hl [0, 1, 2, 3, 4, 5, 6, 7, 8, 9, 10] rfl))
                      · intro j237 hJ_237 h
                        refine cast (hG _ _ _ _ _ _ _).symm ?_
                        refine lv_if_eq (tgt := 237) hx hb d_Mo_findPlateaus_220 (by decide) (fun c_79 => ?_) (fun c_79 => ?_)
                        · have h := ifp (c_79) h
                          exact cast (hG _ _ _ _ _ _ _) (hJ_237 () h _ _ _ hP hD hS (lv_sub hl [0, 1, 2, 3, 4, 5, 6, 7, 8, 9, 10] rfl))
                        · have h := ifn (c_79) h
                          refine lv_lload hx hb d_Mo_findPlateaus_223 (lv_at hl 1 rfl) ?_
                          refine lv_lload hx hb d_Mo_findPlateaus_225 (lv_at hl 5 rfl) ?_
                          refine lv_lmul hx hb d_Mo_findPlateaus_227 ?_
                          refine lv_lload hx hb d_Mo_findPlateaus_228 (lv_at hl 6 rfl) ?_
                          refine lv_lload hx hb d_Mo_findPlateaus_230 (lv_at hl 0 rfl) ?_
                          refine lv_lmul hx hb d_Mo_findPlateaus_232 ?_
                          refine W.lcmp hx hb d_Mo_findPlateaus_233 ?_
                          refine lv_if_ge (tgt := 241) hx hb d_Mo_findPlateaus_234 (by decide) (fun c_80 => ?_) (fun c_80 => ?_)
                          · have h := ifp (lc_ge.mp (c_80)) h
                            exact cast (hG _ _ _ _ _ _ _) (hJ_241 () h _ _ _ hP hD hS (lv_sub hl [0, 1, 2, 3, 4, 5, 6, 7, 8, 9, 10] rfl))
                          · have h := ifn (fun q => (c_80) (lc_ge.mpr q)) h
                            exact cast (hG _ _ _ _ _ _ _) (hJ_237 () h _ _ _ hP hD hS (lv_sub hl [0, 1, 2, 3, 4, 5, 6, 7, 8, 9, 10] rfl))
    · intro back exit zz hB_51 hE_51 h H locs ls hP hD hS hl
      obtain ⟨x1_51, x3_51, r_a_51, r_b_51, r_shown_51, r_sizes_51, r_sums_51, r_walk_51⟩ := zz
      have hP : va_P D cls9 (wd_Mo_findPlateaus cA a_r r_manner r_above r_below r_nodes r_arcs r_left r_isBest (1 : Int32) u_4 r_a_51 r_b_51 r_ties r_z r_plateaus r_ones r_others r_weights r_there u_5 u_6 u_7 r_sums_51 r_sizes_51 r_walk_51 r_found r_shown_51 r_beginsAbove r_beginsBelow r_shownOf) H := hP
      have hD : va_D A (wd_Mo_findPlateaus cA a_r r_manner r_above r_below r_nodes r_arcs r_left r_isBest (1 : Int32) u_4 r_a_51 r_b_51 r_ties r_z r_plateaus r_ones r_others r_weights r_there u_5 u_6 u_7 r_sums_51 r_sizes_51 r_walk_51 r_found r_shown_51 r_beginsAbove r_beginsBelow r_shownOf) := hD
      have hl : lv_has ls 21 [(3, .long x3_51), (1, .long x1_51), (0, .ref (a_r 0))] := hl
      refine cast (hG _ _ _ _ _ _ _).symm ?_
      refine lv_aload_n hx hb d_Mo_findPlateaus_51 rfl (lv_at hl 2 rfl) ?_
      obtain ⟨o_85, hc_84, h⟩ := bd h
      have hPc := hP.sub (ws' := (wd_Mo_next cA a_r r_manner r_above r_below r_nodes r_arcs r_left r_isBest (1 : Int32) u_4 r_a_51 r_b_51 r_ties r_z r_plateaus r_walk_51)) [0, 10] rfl
      have hDc := hD.sub (ws' := (wd_Mo_next cA a_r r_manner r_above r_below r_nodes r_arcs r_left r_isBest (1 : Int32) u_4 r_a_51 r_b_51 r_ties r_z r_plateaus r_walk_51)) [0, 10] (by decide) rfl
      have hFc := va_free (wc := (wd_Mo_next cA a_r r_manner r_above r_below r_nodes r_arcs r_left r_isBest (1 : Int32) u_4 r_a_51 r_b_51 r_ties r_z r_plateaus r_walk_51)) hD hS hA [0, 10] rfl
      refine va_calli (va_runV (C := R_Mo) (As := []) (rest := []) ⟨hx, hb, hml, hown, hal⟩ (c_Mo_next l D cA a_r H.size r_manner r_above r_below r_nodes r_arcs r_left r_isBest (1 : Int32) u_4 r_a_51 r_b_51 r_ties r_z r_plateaus r_walk_51 o_85 hc_84) (cwV 0 hal (goodV kw_869 kw_871 kw_p40 kw_9 kw_872) rfl rfl rfl (by decide +kernel) ⟨Nat.le_of_ble_eq_true rfl, Nat.le_of_ble_eq_true rfl⟩) ⟨fun a U g mk q => by obtain ⟨q0, q1, qP, qK, qD⟩ := q; exact ⟨q0, q1, qP, va_K.moved (u := U) (U := U.calling g mk a) (Vm.Alike.refl U.vm) qK, qD⟩, va_recv hK hP (ci := 8) (q0 := 0) rfl rfl, fun U hU hW => ⟨rfl, by rw [hU], by rw [hU]; exact hPc, va_K.moved hW.alike hK, hDc.weaken (fun _ _ _ _ => trivial)⟩⟩ rfl rfl hl.1 rfl (lv_room (Nat.le_of_ble_eq_true rfl)) d_Mo_findPlateaus_52 ⟨Nat.le_of_ble_eq_true rfl, Nat.le_of_ble_eq_true rfl⟩) hS (fun q _ h => hFc q h) hFc (fun r_82 u t H1 locs ht hvm hw hB hz1 hk1 hS => ?_)
      obtain ⟨u_83, rfl⟩ : ∃ q, q = u := ⟨_, rfl⟩
      subst hw
      obtain ⟨hP1, hK1, hD1⟩ := hB
      rw [ht] at hP1
      have hP1 : va_P D cls9 (wd_Mo_next cA a_r r_manner r_above r_below r_nodes r_arcs r_left r_isBest (1 : Int32) u_4 r_a_51 r_b_51 r_ties r_z r_plateaus u_83) H1 := hP1
      obtain ⟨hP, hD⟩ := va_join (wr := ([1, 2, 3, 4, 5, 6, 7, 8, 9, 11, 12, 13, 14, 15] : List Nat).filterMap (fun i => (wd_Mo_findPlateaus cA a_r r_manner r_above r_below r_nodes r_arcs r_left r_isBest (1 : Int32) u_4 r_a_51 r_b_51 r_ties r_z r_plateaus r_ones r_others r_weights r_there u_5 u_6 u_7 r_sums_51 r_sizes_51 r_walk_51 r_found r_shown_51 r_beginsAbove r_beginsBelow r_shownOf)[i]?)) (w1 := (wd_Mo_next cA a_r r_manner r_above r_below r_nodes r_arcs r_left r_isBest (1 : Int32) u_4 r_a_51 r_b_51 r_ties r_z r_plateaus u_83)) hP hD [0, 10] [1, 2, 3, 4, 5, 6, 7, 8, 9, 11, 12, 13, 14, 15] rfl rfl (by decide) (by decide) hk1 hFc hP1 hD1
      generalize H1 = H at hP hS ⊢
      have hP : va_P D cls9 (wd_Mo_findPlateaus cA a_r r_manner r_above r_below r_nodes r_arcs r_left r_isBest (1 : Int32) u_4 r_a_51 r_b_51 r_ties r_z r_plateaus r_ones r_others r_weights r_there u_5 u_6 u_7 r_sums_51 r_sizes_51 u_83 r_found r_shown_51 r_beginsAbove r_beginsBelow r_shownOf) H := hP.sub [14, 0, 1, 2, 3, 4, 5, 6, 7, 8, 15, 9, 10, 11, 12, 13] rfl
      have hD : va_D A (wd_Mo_findPlateaus cA a_r r_manner r_above r_below r_nodes r_arcs r_left r_isBest (1 : Int32) u_4 r_a_51 r_b_51 r_ties r_z r_plateaus r_ones r_others r_weights r_there u_5 u_6 u_7 r_sums_51 r_sizes_51 u_83 r_found r_shown_51 r_beginsAbove r_beginsBelow r_shownOf) := hD.sub [14, 0, 1, 2, 3, 4, 5, 6, 7, 8, 15, 9, 10, 11, 12, 13] (by decide) rfl
      refine lv_if_eq (tgt := 118) hx hb d_Mo_findPlateaus_55 (by decide) (fun c_86 => ?_) (fun c_86 => ?_)
      · have h := ifp (c_86) h
        exact cast (hG _ _ _ _ _ _ _) (hE_51 (x1_51, x3_51, r_a_51, r_b_51, r_shown_51, r_sizes_51, r_sums_51, u_83) h _ _ _ hP hD hS (lv_sub hl [0, 1, 2] rfl))
      · have h := ifn (c_86) h
        refine lv_aload_n hx hb d_Mo_findPlateaus_58 rfl (lv_at hl 2 rfl) ?_
        refine lv_aload_n hx hb d_Mo_findPlateaus_59 rfl (lv_at hl 2 rfl) ?_
        refine va_get (ci := 8) (v := .ref (a_r 13)) (C := R_Mo) (T := F_Mo) (N := 36) hx hb hal in_Mo hown hK hP 0 rfl rfl 23 (by decide) (hal _ kw_660) (fun _ h9 => h9) rfl d_Mo_findPlateaus_60 ?_
        obtain ⟨o_94, hc_93, h⟩ := bd h
        have hPc := hP.sub (ws' := (wd_Mo_judge cA a_r (fun _ => a_r 13) r_manner r_above r_below r_nodes r_arcs r_left r_isBest (1 : Int32) u_4 r_a_51 r_b_51 r_ties r_z r_plateaus u_5 u_7 r_sums_51 r_sizes_51 u_83)) [0, 5, 7, 8, 9, 10] rfl
        have hDc := hD.sub (ws' := (wd_Mo_judge cA a_r (fun _ => a_r 13) r_manner r_above r_below r_nodes r_arcs r_left r_isBest (1 : Int32) u_4 r_a_51 r_b_51 r_ties r_z r_plateaus u_5 u_7 r_sums_51 r_sizes_51 u_83)) [0, 5, 7, 8, 9, 10] (by decide) rfl
        have hFc := va_free (wc := (wd_Mo_judge cA a_r (fun _ => a_r 13) r_manner r_above r_below r_nodes r_arcs r_left r_isBest (1 : Int32) u_4 r_a_51 r_b_51 r_ties r_z r_plateaus u_5 u_7 r_sums_51 r_sizes_51 u_83)) hD hS hA [0, 5, 7, 8, 9, 10] rfl
        refine va_callv (va_runV (C := R_Mo) (As := [.ref (a_r 13)]) (rest := []) ⟨hx, hb, hml, hown, hal⟩ (c_Mo_judge l D cA a_r (fun _ => a_r 13) H.size r_manner r_above r_below r_nodes r_arcs r_left r_isBest (1 : Int32) u_4 r_a_51 r_b_51 r_ties r_z r_plateaus u_5 u_7 r_sums_51 r_sizes_51 u_83 o_94 hc_93) (cwV 1 hal (goodV kw_815 kw_817 kw_p33 kw_9 kw_818) rfl rfl rfl (by decide +kernel) ⟨Nat.le_of_ble_eq_true rfl, Nat.le_of_ble_eq_true rfl⟩) ⟨fun a U g mk q => by obtain ⟨q0, q1, qP, qK, qD⟩ := q; exact ⟨q0, q1, qP, va_K.moved (u := U) (U := U.calling g mk a) (Vm.Alike.refl U.vm) qK, qD⟩, va_recv hK hP (ci := 8) (q0 := 0) rfl rfl, fun U hU hW => ⟨rfl, by rw [hU], by rw [hU]; exact hPc, va_K.moved hW.alike hK, hDc.weaken (fun _ _ _ _ => trivial)⟩⟩ rfl rfl hl.1 rfl (lv_room (Nat.le_of_ble_eq_true rfl)) d_Mo_findPlateaus_63 ⟨Nat.le_of_ble_eq_true rfl, Nat.le_of_ble_eq_true rfl⟩) hS (fun q _ h => hFc q h) hFc (fun u t H1 locs ht hvm hw hB hz1 hk1 hS => ?_)
        obtain ⟨u_89, u_90, u_91, u_92⟩ := u
        subst hw
        obtain ⟨hP1, hK1, hD1⟩ := hB
        rw [ht] at hP1
        have hP1 : va_P D cls9 (wd_Mo_judge cA a_r (fun _ => a_r 13) r_manner r_above r_below r_nodes r_arcs r_left r_isBest (1 : Int32) u_4 u_89 u_90 r_ties r_z r_plateaus u_5 u_7 u_91 u_92 u_83) H1 := hP1
        obtain ⟨hP, hD⟩ := va_join (wr := ([1, 2, 3, 4, 6, 11, 12, 13, 14, 15] : List Nat).filterMap (fun i => (wd_Mo_findPlateaus cA a_r r_manner r_above r_below r_nodes r_arcs r_left r_isBest (1 : Int32) u_4 r_a_51 r_b_51 r_ties r_z r_plateaus r_ones r_others r_weights r_there u_5 u_6 u_7 r_sums_51 r_sizes_51 u_83 r_found r_shown_51 r_beginsAbove r_beginsBelow r_shownOf)[i]?)) (w1 := (wd_Mo_judge cA a_r (fun _ => a_r 13) r_manner r_above r_below r_nodes r_arcs r_left r_isBest (1 : Int32) u_4 u_89 u_90 r_ties r_z r_plateaus u_5 u_7 u_91 u_92 u_83)) hP hD [0, 5, 7, 8, 9, 10] [1, 2, 3, 4, 6, 11, 12, 13, 14, 15] rfl rfl (by decide) (by decide) hk1 hFc hP1 hD1
        generalize H1 = H at hP hS ⊢
        have hP : va_P D cls9 (wd_Mo_findPlateaus cA a_r r_manner r_above r_below r_nodes r_arcs r_left r_isBest (1 : Int32) u_4 u_89 u_90 r_ties r_z r_plateaus r_ones r_others r_weights r_there u_5 u_6 u_7 u_91 u_92 u_83 r_found r_shown_51 r_beginsAbove r_beginsBelow r_shownOf) H := hP.sub [10, 0, 1, 2, 3, 11, 4, 12, 13, 14, 15, 5, 6, 7, 8, 9] rfl
        have hD : va_D A (wd_Mo_findPlateaus cA a_r r_manner r_above r_below r_nodes r_arcs r_left r_isBest (1 : Int32) u_4 u_89 u_90 r_ties r_z r_plateaus r_ones r_others r_weights r_there u_5 u_6 u_7 u_91 u_92 u_83 r_found r_shown_51 r_beginsAbove r_beginsBelow r_shownOf) := hD.sub [10, 0, 1, 2, 3, 11, 4, 12, 13, 14, 15, 5, 6, 7, 8, 9] (by decide) rfl
        refine lv_aload_n hx hb d_Mo_findPlateaus_66 rfl (lv_at hl 2 rfl) ?_
        refine va_get (ci := 8) (v := .long u_89) (C := R_Mo) (T := F_Mo) (N := 36) hx hb hal in_Mo hown hK hP 0 rfl rfl 19 (by decide) (hal _ kw_656) (fun _ h9 => h9) rfl d_Mo_findPlateaus_67 ?_
        refine lv_lload_n hx hb d_Mo_findPlateaus_70 rfl (lv_at hl 1 rfl) ?_
        refine W.lcmp hx hb d_Mo_findPlateaus_71 ?_
        refine cast (hG _ _ _ _ _ _ _) (jn_go h (fun zz : Unit => ∀ (H : Heap) (locs : List Loc) (ls : Array Slot), va_P D cls9 (wd_Mo_findPlateaus cA a_r r_manner r_above r_below r_nodes r_arcs r_left r_isBest (1 : Int32) u_4 u_89 u_90 r_ties r_z r_plateaus r_ones r_others r_weights r_there u_5 u_6 u_7 u_91 u_92 u_83 r_found r_shown_51 r_beginsAbove r_beginsBelow r_shownOf) H → va_D A (wd_Mo_findPlateaus cA a_r r_manner r_above r_below r_nodes r_arcs r_left r_isBest (1 : Int32) u_4 u_89 u_90 r_ties r_z r_plateaus r_ones r_others r_weights r_there u_5 u_6 u_7 u_91 u_92 u_83 r_found r_shown_51 r_beginsAbove r_beginsBelow r_shownOf) → va_S A s.heap H locs → lv_has ls 21 [(3, .long x3_51), (1, .long x1_51), (0, .ref (a_r 0))] → G H locs 0 0 ls 93 []) ?_ ?_)
        · intro zz h H locs ls hP hD hS hl
          have hP : va_P D cls9 (wd_Mo_findPlateaus cA a_r r_manner r_above r_below r_nodes r_arcs r_left r_isBest (1 : Int32) u_4 u_89 u_90 r_ties r_z r_plateaus r_ones r_others r_weights r_there u_5 u_6 u_7 u_91 u_92 u_83 r_found r_shown_51 r_beginsAbove r_beginsBelow r_shownOf) H := hP
          have hD : va_D A (wd_Mo_findPlateaus cA a_r r_manner r_above r_below r_nodes r_arcs r_left r_isBest (1 : Int32) u_4 u_89 u_90 r_ties r_z r_plateaus r_ones r_others r_weights r_there u_5 u_6 u_7 u_91 u_92 u_83 r_found r_shown_51 r_beginsAbove r_beginsBelow r_shownOf) := hD
          have hl : lv_has ls 21 [(3, .long x3_51), (1, .long x1_51), (0, .ref (a_r 0))] := hl
          refine cast (hG _ _ _ _ _ _ _).symm ?_
          refine lv_aload_n hx hb d_Mo_findPlateaus_93 rfl (lv_at hl 2 rfl) ?_
          refine va_get (ci := 8) (v := .long u_89) (C := R_Mo) (T := F_Mo) (N := 36) hx hb hal in_Mo hown hK hP 0 rfl rfl 19 (by decide) (hal _ kw_656) (fun _ h9 => h9) rfl d_Mo_findPlateaus_94 ?_
          refine lv_lstore_n (lv' := [(1, .long u_89), (3, .long x3_51), (0, .ref (a_r 0))]) hx hb d_Mo_findPlateaus_97 rfl hl (by decide) rfl (fun ls hl => ?_)
          refine lv_aload_n hx hb d_Mo_findPlateaus_98 rfl (lv_at hl 2 rfl) ?_
          refine va_get (ci := 8) (v := .long u_90) (C := R_Mo) (T := F_Mo) (N := 36) hx hb hal in_Mo hown hK hP 0 rfl rfl 20 (by decide) (hal _ kw_657) (fun _ h9 => h9) rfl d_Mo_findPlateaus_99 ?_
          refine lv_lstore_n (lv' := [(3, .long u_90), (1, .long u_89), (0, .ref (a_r 0))]) hx hb d_Mo_findPlateaus_102 rfl hl (by decide) rfl (fun ls hl => ?_)
          refine lv_aload_n hx hb d_Mo_findPlateaus_103 rfl (lv_at hl 2 rfl) ?_
          refine lv_aload_n hx hb d_Mo_findPlateaus_104 rfl (lv_at hl 2 rfl) ?_
          refine va_get (ci := 8) (v := .ref (a_r 13)) (C := R_Mo) (T := F_Mo) (N := 36) hx hb hal in_Mo hown hK hP 0 rfl rfl 23 (by decide) (hal _ kw_660) (fun _ h9 => h9) rfl d_Mo_findPlateaus_105 ?_
          refine lv_aload_n hx hb d_Mo_findPlateaus_108 rfl (lv_at hl 2 rfl) ?_
          refine va_get (ci := 8) (v := .ref (a_r 19)) (C := R_Mo) (T := F_Mo) (N := 36) hx hb hal in_Mo hown hK hP 0 rfl rfl 32 (by decide) (hal _ kw_669) (fun _ h9 => h9) rfl d_Mo_findPlateaus_109 ?_
          obtain ⟨o_99, hc_98, h⟩ := bd h
          have hPc := hP.sub (ws' := (wd_Mo_copy cA a_r (fun _ => a_r 13) (fun _ => a_r 19) r_manner r_above r_below r_nodes r_arcs r_left r_isBest (1 : Int32) u_4 u_89 u_90 r_ties r_z r_plateaus u_83 r_shown_51)) [0, 10, 12] rfl
          have hDc := hD.sub (ws' := (wd_Mo_copy cA a_r (fun _ => a_r 13) (fun _ => a_r 19) r_manner r_above r_below r_nodes r_arcs r_left r_isBest (1 : Int32) u_4 u_89 u_90 r_ties r_z r_plateaus u_83 r_shown_51)) [0, 10, 12] (by decide) rfl
          have hFc := va_free (wc := (wd_Mo_copy cA a_r (fun _ => a_r 13) (fun _ => a_r 19) r_manner r_above r_below r_nodes r_arcs r_left r_isBest (1 : Int32) u_4 u_89 u_90 r_ties r_z r_plateaus u_83 r_shown_51)) hD hS hA [0, 10, 12] rfl
          refine va_callv (va_runV (C := R_Mo) (As := [.ref (a_r 13), .ref (a_r 19)]) (rest := []) ⟨hx, hb, hml, hown, hal⟩ (c_Mo_copy l D cA a_r (fun _ => a_r 13) (fun _ => a_r 19) H.size r_manner r_above r_below r_nodes r_arcs r_left r_isBest (1 : Int32) u_4 u_89 u_90 r_ties r_z r_plateaus u_83 r_shown_51 o_99 hc_98) (cwV 2 hal (goodV kw_833 kw_835 kw_p35 kw_9 kw_836) rfl rfl rfl (by decide +kernel) ⟨Nat.le_of_ble_eq_true rfl, Nat.le_of_ble_eq_true rfl⟩) ⟨fun a U g mk q => by obtain ⟨q0, q1, qP, qK, qD⟩ := q; exact ⟨q0, q1, qP, va_K.moved (u := U) (U := U.calling g mk a) (Vm.Alike.refl U.vm) qK, qD⟩, va_recv hK hP (ci := 8) (q0 := 0) rfl rfl, fun U hU hW => ⟨rfl, by rw [hU], by rw [hU]; exact hPc, va_K.moved hW.alike hK, hDc.weaken (fun _ _ _ _ => trivial)⟩⟩ rfl rfl hl.1 rfl (lv_room (Nat.le_of_ble_eq_true rfl)) d_Mo_findPlateaus_112 ⟨Nat.le_of_ble_eq_true rfl, Nat.le_of_ble_eq_true rfl⟩) hS (fun q _ h => hFc q h) hFc (fun u t H1 locs ht hvm hw hB hz1 hk1 hS => ?_)
          obtain ⟨u_97, rfl⟩ : ∃ q, q = u := ⟨_, rfl⟩
          subst hw
          obtain ⟨hP1, hK1, hD1⟩ := hB
          rw [ht] at hP1
          have hP1 : va_P D cls9 (wd_Mo_copy cA a_r (fun _ => a_r 13) (fun _ => a_r 19) r_manner r_above r_below r_nodes r_arcs r_left r_isBest (1 : Int32) u_4 u_89 u_90 r_ties r_z r_plateaus u_83 u_97) H1 := hP1
          obtain ⟨hP, hD⟩ := va_join (wr := ([1, 2, 3, 4, 5, 6, 7, 8, 9, 11, 13, 14, 15] : List Nat).filterMap (fun i => (wd_Mo_findPlateaus cA a_r r_manner r_above r_below r_nodes r_arcs r_left r_isBest (1 : Int32) u_4 u_89 u_90 r_ties r_z r_plateaus r_ones r_others r_weights r_there u_5 u_6 u_7 u_91 u_92 u_83 r_found r_shown_51 r_beginsAbove r_beginsBelow r_shownOf)[i]?)) (w1 := (wd_Mo_copy cA a_r (fun _ => a_r 13) (fun _ => a_r 19) r_manner r_above r_below r_nodes r_arcs r_left r_isBest (1 : Int32) u_4 u_89 u_90 r_ties r_z r_plateaus u_83 u_97)) hP hD [0, 10, 12] [1, 2, 3, 4, 5, 6, 7, 8, 9, 11, 13, 14, 15] rfl rfl (by decide) (by decide) hk1 hFc hP1 hD1
          generalize H1 = H at hP hS ⊢
          have hP : va_P D cls9 (wd_Mo_findPlateaus cA a_r r_manner r_above r_below r_nodes r_arcs r_left r_isBest (1 : Int32) u_4 u_89 u_90 r_ties r_z r_plateaus r_ones r_others r_weights r_there u_5 u_6 u_7 u_91 u_92 u_83 r_found u_97 r_beginsAbove r_beginsBelow r_shownOf) H := hP.sub [13, 0, 1, 2, 3, 4, 5, 6, 7, 8, 14, 9, 15, 10, 11, 12] rfl
          have hD : va_D A (wd_Mo_findPlateaus cA a_r r_manner r_above r_below r_nodes r_arcs r_left r_isBest (1 : Int32) u_4 u_89 u_90 r_ties r_z r_plateaus r_ones r_others r_weights r_there u_5 u_6 u_7 u_91 u_92 u_83 r_found u_97 r_beginsAbove r_beginsBelow r_shownOf) := hD.sub [13, 0, 1, 2, 3, 4, 5, 6, 7, 8, 14, 9, 15, 10, 11, 12] (by decide) rfl
          refine lv_goto (tgt := 51) hx hb d_Mo_findPlateaus_115 (by decide) ?_
          exact cast (hG _ _ _ _ _ _ _) (hB_51 (u_89, u_90, u_89, u_90, u_97, u_92, u_91, u_83) h _ _ _ hP hD hS (lv_sub hl [0, 1, 2] rfl))
        · intro j93 hJ_93 h
          refine cast (hG _ _ _ _ _ _ _).symm ?_
          refine lv_if_gt (tgt := 93) hx hb d_Mo_findPlateaus_72 (by decide) (fun c_100 => ?_) (fun c_100 => ?_)
          · have h := ifp (lc_gt.mp (c_100)) h
            exact cast (hG _ _ _ _ _ _ _) (hJ_93 () h _ _ _ hP hD hS (lv_sub hl [0, 1, 2] rfl))
          · have h := ifn (fun q => (c_100) (lc_gt.mpr q)) h
            refine lv_aload_n hx hb d_Mo_findPlateaus_75 rfl (lv_at hl 2 rfl) ?_
            refine va_get (ci := 8) (v := .long u_89) (C := R_Mo) (T := F_Mo) (N := 36) hx hb hal in_Mo hown hK hP 0 rfl rfl 19 (by decide) (hal _ kw_656) (fun _ h9 => h9) rfl d_Mo_findPlateaus_76 ?_
            refine lv_lload_n hx hb d_Mo_findPlateaus_79 rfl (lv_at hl 1 rfl) ?_
            refine W.lcmp hx hb d_Mo_findPlateaus_80 ?_
            refine lv_if_ne (tgt := 51) hx hb d_Mo_findPlateaus_81 (by decide) (fun c_101 => ?_) (fun c_101 => ?_)
            · have h := ifn (fun q => (c_101) (lc_eq.mpr q)) h
              exact cast (hG _ _ _ _ _ _ _) (hB_51 (x1_51, x3_51, u_89, u_90, r_shown_51, u_92, u_91, u_83) h _ _ _ hP hD hS (lv_sub hl [0, 1, 2] rfl))
            · have h := ifp (lc_eq.mp (c_101)) h
              refine lv_aload_n hx hb d_Mo_findPlateaus_84 rfl (lv_at hl 2 rfl) ?_
              refine va_get (ci := 8) (v := .long u_90) (C := R_Mo) (T := F_Mo) (N := 36) hx hb hal in_Mo hown hK hP 0 rfl rfl 20 (by decide) (hal _ kw_657) (fun _ h9 => h9) rfl d_Mo_findPlateaus_85 ?_
              refine lv_lload_n hx hb d_Mo_findPlateaus_88 rfl (lv_at hl 0 rfl) ?_
              refine W.lcmp hx hb d_Mo_findPlateaus_89 ?_
              refine lv_if_ge (tgt := 51) hx hb d_Mo_findPlateaus_90 (by decide) (fun c_102 => ?_) (fun c_102 => ?_)
              · have h := ifp (lc_ge.mp (c_102)) h
                exact cast (hG _ _ _ _ _ _ _) (hB_51 (x1_51, x3_51, u_89, u_90, r_shown_51, u_92, u_91, u_83) h _ _ _ hP hD hS (lv_sub hl [0, 1, 2] rfl))
              · have h := ifn (fun q => (c_102) (lc_ge.mpr q)) h
                exact cast (hG _ _ _ _ _ _ _) (hJ_93 () h _ _ _ hP hD hS (lv_sub hl [0, 1, 2] rfl))
  · have h := ifn (c_1) h
    exact W.vret hx hb hr (fun t ht hW => ⟨⟨(r_arePlateaus, r_all, r_a, r_b, r_plateaus, r_between, r_joins, r_has, r_sums, r_sizes, r_walk, r_found, r_shown, r_beginsAbove, r_beginsBelow, r_shownOf), rfl, Option.some.inj h, by rw [ht]; exact hP, va_K.moved hW.alike hK, hD⟩, hS.F ht⟩) hS.2.2 d_Mo_findPlateaus_7
def wd_Mo_plateaus (cA : Nat → ClassId) (a_r : Nat → Nat) (r_manner : Int32) (r_above : Int32) (r_below : Int32) (r_nodes : Int32) (r_arcs : Int32) (r_left : Int32) (r_isBest : Int32) (r_arePlateaus : Int32) (r_all : Int64) (r_a : Int64) (r_b : Int64) (r_ties : Int32) (r_z : Int32) (r_plateaus : Int32) (r_ones : Nat → Int32) (r_others : Nat → Int32) (r_weights : Nat → Int32) (r_there : Nat → Int32) (r_between : Nat → Int32) (r_joins : Nat → Int32) (r_has : Nat → Int32) (r_sums : Nat → Int64) (r_sizes : Nat → Int64) (r_walk : Nat → Int32) (r_found : Nat → Int32) (r_shown : Nat → Int32) (r_beginsAbove : Nat → Int64) (r_beginsBelow : Nat → Int64) (r_shownOf : Nat → Int64) : va_W := [(a_r 0, .inr (8, [.int r_manner, .int r_above, .int r_below, .int r_nodes, .int r_arcs, .int r_left, .ref (a_r 1), .ref (a_r 2), .ref (a_r 3), .ref (a_r 4), .ref (a_r 5), .int r_isBest, .int r_arePlateaus, .ref (a_r 6), .ref (a_r 7), .ref (a_r 8), .long r_all, .ref (a_r 9), .ref (a_r 10), .long r_a, .long r_b, .ref (a_r 11), .ref (a_r 12), .ref (a_r 13), .ref (a_r 14), .ref (a_r 15), .int r_ties, .ref (a_r 16), .ref (a_r 17), .ref (a_r 18), .int r_z, .int r_plateaus, .ref (a_r 19), .ref (a_r 20), .ref (a_r 21), .ref (a_r 22)])), (a_r 1, .inl (cA 0, 36, .inl r_ones)), (a_r 2, .inl (cA 0, 36, .inl r_others)), (a_r 3, .inl (cA 0, 36, .inl r_weights)), (a_r 4, .inl (cA 2, 36, .inl r_there)), (a_r 6, .inl (cA 0, 81, .inl r_between)), (a_r 7, .inl (cA 2, 81, .inl r_joins)), (a_r 8, .inl (cA 0, 9, .inl r_has)), (a_r 9, .inl (cA 1, 9, .inr (.inl r_sums))), (a_r 10, .inl (cA 1, 9, .inr (.inl r_sizes))), (a_r 13, .inl (cA 0, 9, .inl r_walk)), (a_r 14, .inl (cA 0, 9, .inl r_found)), (a_r 19, .inl (cA 0, 9, .inl r_shown)), (a_r 20, .inl (cA 1, 1801, .inr (.inl r_beginsAbove))), (a_r 21, .inl (cA 1, 1801, .inr (.inl r_beginsBelow))), (a_r 22, .inl (cA 1, 1801, .inr (.inl r_shownOf)))]
noncomputable def m_Mo_plateaus (r_manner : Int32) (r_nodes : Int32) (r_arcs : Int32) (r_arePlateaus : Int32) (r_all : Int64) (r_a : Int64) (r_b : Int64) (r_plateaus : Int32) (r_ones : Nat → Int32) (r_others : Nat → Int32) (r_weights : Nat → Int32) (r_there : Nat → Int32) (r_between : Nat → Int32) (r_joins : Nat → Int32) (r_has : Nat → Int32) (r_sums : Nat → Int64) (r_sizes : Nat → Int64) (r_walk : Nat → Int32) (r_found : Nat → Int32) (r_shown : Nat → Int32) (r_beginsAbove : Nat → Int64) (r_beginsBelow : Nat → Int64) (r_shownOf : Nat → Int64) : Option (Int32 × Int32 × Int64 × Int64 × Int64 × Int32 × (Nat → Int32) × (Nat → Int32) × (Nat → Int32) × (Nat → Int64) × (Nat → Int64) × (Nat → Int32) × (Nat → Int32) × (Nat → Int32) × (Nat → Int64) × (Nat → Int64) × (Nat → Int64)) :=
  ((m_Mo_findPlateaus r_manner r_nodes r_arcs r_arePlateaus r_all r_a r_b r_plateaus r_ones r_others r_weights r_there r_between r_joins r_has r_sums r_sizes r_walk r_found r_shown r_beginsAbove r_beginsBelow r_shownOf).bind (fun r1 : Int32 × Int64 × Int64 × Int64 × Int32 × (Nat → Int32) × (Nat → Int32) × (Nat → Int32) × (Nat → Int64) × (Nat → Int64) × (Nat → Int32) × (Nat → Int32) × (Nat → Int32) × (Nat → Int64) × (Nat → Int64) × (Nat → Int64) => some (r1.2.2.2.2.1, r1.1, r1.2.1, r1.2.2.1, r1.2.2.2.1, r1.2.2.2.2.1, r1.2.2.2.2.2.1, r1.2.2.2.2.2.2.1, r1.2.2.2.2.2.2.2.1, r1.2.2.2.2.2.2.2.2.1, r1.2.2.2.2.2.2.2.2.2.1, r1.2.2.2.2.2.2.2.2.2.2.1, r1.2.2.2.2.2.2.2.2.2.2.2.1, r1.2.2.2.2.2.2.2.2.2.2.2.2.1, r1.2.2.2.2.2.2.2.2.2.2.2.2.2.1, r1.2.2.2.2.2.2.2.2.2.2.2.2.2.2.1, r1.2.2.2.2.2.2.2.2.2.2.2.2.2.2.2)))
set_option maxHeartbeats 4000000 in
set_option maxRecDepth 100000 in
theorem c_Mo_plateaus (l : Launch) (D : va_G) (cA : Nat → ClassId) (a_r : Nat → Nat) (sz : Nat) (r_manner : Int32) (r_above : Int32) (r_below : Int32) (r_nodes : Int32) (r_arcs : Int32) (r_left : Int32) (r_isBest : Int32) (r_arePlateaus : Int32) (r_all : Int64) (r_a : Int64) (r_b : Int64) (r_ties : Int32) (r_z : Int32) (r_plateaus : Int32) (r_ones : Nat → Int32) (r_others : Nat → Int32) (r_weights : Nat → Int32) (r_there : Nat → Int32) (r_between : Nat → Int32) (r_joins : Nat → Int32) (r_has : Nat → Int32) (r_sums : Nat → Int64) (r_sizes : Nat → Int64) (r_walk : Nat → Int32) (r_found : Nat → Int32) (r_shown : Nat → Int32) (r_beginsAbove : Nat → Int64) (r_beginsBelow : Nat → Int64) (r_shownOf : Nat → Int64)  (out : Int32 × Int32 × Int64 × Int64 × Int64 × Int32 × (Nat → Int32) × (Nat → Int32) × (Nat → Int32) × (Nat → Int64) × (Nat → Int64) × (Nat → Int32) × (Nat → Int32) × (Nat → Int32) × (Nat → Int64) × (Nat → Int64) × (Nat → Int64)) (h : m_Mo_plateaus r_manner r_nodes r_arcs r_arePlateaus r_all r_a r_b r_plateaus r_ones r_others r_weights r_there r_between r_joins r_has r_sums r_sizes r_walk r_found r_shown r_beginsAbove r_beginsBelow r_shownOf = some out) : Met l y_Mo_plateaus w_Mo_plateaus ({ frames := 3, cells := 0, slots := 0, locals := 82 }) (va_Pc [.ref (a_r 0)] (fun U => U.heap.size = sz ∧ va_P D cls9 (wd_Mo_plateaus cA a_r r_manner r_above r_below r_nodes r_arcs r_left r_isBest r_arePlateaus r_all r_a r_b r_ties r_z r_plateaus r_ones r_others r_weights r_there r_between r_joins r_has r_sums r_sizes r_walk r_found r_shown r_beginsAbove r_beginsBelow r_shownOf) U.heap ∧ va_K D cls9 (tys5 cA) U ∧ va_D (fun _ => True) (wd_Mo_plateaus cA a_r r_manner r_above r_below r_nodes r_arcs r_left r_isBest r_arePlateaus r_all r_a r_b r_ties r_z r_plateaus r_ones r_others r_weights r_there r_between r_joins r_has r_sums r_sizes r_walk r_found r_shown r_beginsAbove r_beginsBelow r_shownOf))) (va_Qi (fun (rr : Int32) (uu : Int32 × Int64 × Int64 × Int64 × Int32 × (Nat → Int32) × (Nat → Int32) × (Nat → Int32) × (Nat → Int64) × (Nat → Int64) × (Nat → Int32) × (Nat → Int32) × (Nat → Int32) × (Nat → Int64) × (Nat → Int64) × (Nat → Int64)) => (rr, uu) = out) (fun (uu : Int32 × Int64 × Int64 × Int64 × Int32 × (Nat → Int32) × (Nat → Int32) × (Nat → Int32) × (Nat → Int64) × (Nat → Int64) × (Nat → Int32) × (Nat → Int32) × (Nat → Int32) × (Nat → Int64) × (Nat → Int64) × (Nat → Int64)) (t : State) => va_P D cls9 (wd_Mo_plateaus cA a_r r_manner r_above r_below r_nodes r_arcs r_left r_isBest uu.1 uu.2.1 uu.2.2.1 uu.2.2.2.1 r_ties r_z uu.2.2.2.2.1 r_ones r_others r_weights r_there uu.2.2.2.2.2.1 uu.2.2.2.2.2.2.1 uu.2.2.2.2.2.2.2.1 uu.2.2.2.2.2.2.2.2.1 uu.2.2.2.2.2.2.2.2.2.1 uu.2.2.2.2.2.2.2.2.2.2.1 uu.2.2.2.2.2.2.2.2.2.2.2.1 uu.2.2.2.2.2.2.2.2.2.2.2.2.1 uu.2.2.2.2.2.2.2.2.2.2.2.2.2.1 uu.2.2.2.2.2.2.2.2.2.2.2.2.2.2.1 uu.2.2.2.2.2.2.2.2.2.2.2.2.2.2.2) t.heap ∧ va_K D cls9 (tys5 cA) t ∧ va_D (va_A (wd_Mo_plateaus cA a_r r_manner r_above r_below r_nodes r_arcs r_left r_isBest r_arePlateaus r_all r_a r_b r_ties r_z r_plateaus r_ones r_others r_weights r_there r_between r_joins r_has r_sums r_sizes r_walk r_found r_shown r_beginsAbove r_beginsBelow r_shownOf) sz) (wd_Mo_plateaus cA a_r r_manner r_above r_below r_nodes r_arcs r_left r_isBest uu.1 uu.2.1 uu.2.2.1 uu.2.2.2.1 r_ties r_z uu.2.2.2.2.1 r_ones r_others r_weights r_there uu.2.2.2.2.2.1 uu.2.2.2.2.2.2.1 uu.2.2.2.2.2.2.2.1 uu.2.2.2.2.2.2.2.2.1 uu.2.2.2.2.2.2.2.2.2.1 uu.2.2.2.2.2.2.2.2.2.2.1 uu.2.2.2.2.2.2.2.2.2.2.2.1 uu.2.2.2.2.2.2.2.2.2.2.2.2.1 uu.2.2.2.2.2.2.2.2.2.2.2.2.2.1 uu.2.2.2.2.2.2.2.2.2.2.2.2.2.2.1 uu.2.2.2.2.2.2.2.2.2.2.2.2.2.2.2)) (va_A (wd_Mo_plateaus cA a_r r_manner r_above r_below r_nodes r_arcs r_left r_isBest r_arePlateaus r_all r_a r_b r_ties r_z r_plateaus r_ones r_others r_weights r_there r_between r_joins r_has r_sums r_sizes r_walk r_found r_shown r_beginsAbove r_beginsBelow r_shownOf) sz)) 0 0 (va_A (wd_Mo_plateaus cA a_r r_manner r_above r_below r_nodes r_arcs r_left r_isBest r_arePlateaus r_all r_a r_b r_ties r_z r_plateaus r_ones r_others r_weights r_there r_between r_joins r_has r_sums r_sizes r_walk r_found r_shown r_beginsAbove r_beginsBelow r_shownOf) sz) := by
  refine Met.ofW (cc := b_Mo_plateaus) (maxL := 1) (ret := (Option.some Jvm.ClassFile.FieldType.int)) (by decide) rfl ?_
  intro p e s m args below meth c s₁ B hml hv
  obtain ⟨rfl, hsz, hP, hK, hD0⟩ := hv
  have hx := B.exec
  have hb := B.bytes
  have hr := B.returns
  have hts := atoms_spec (ws := w_Mo_plateaus) B.pre
  have hal : ∀ w ∈ ALLW, w.before _ s = true := fun w hw => hts w (List.mem_cons_of_mem _ hw)
  have hown : s.vm.findClass R_Mo = some m.cls := findClass_of_methodNamed B.named
  have hlocks := B.notSynchronized
  subst hsz
  have hD := hD0.self (sz := s.heap.size)
  generalize hAe : va_A (wd_Mo_plateaus cA a_r r_manner r_above r_below r_nodes r_arcs r_left r_isBest r_arePlateaus r_all r_a r_b r_ties r_z r_plateaus r_ones r_others r_weights r_there r_between r_joins r_has r_sums r_sizes r_walk r_found r_shown r_beginsAbove r_beginsBelow r_shownOf) s.heap.size = A at hD ⊢
  have hA : ∀ q : Nat, s.heap.size ≤ q → A q := fun q h => by rw [← hAe]; exact Or.inr h
  have hS : va_S A s.heap s.heap [] := va_S.rf
  have hl := lv_entry ([.ref (a_r 0)]) (n := 1) (Nat.le_of_ble_eq_true rfl)
  rw [lg_entry_eq]
  generalize (lg_sl ([.ref (a_r 0)]) ++ List.replicate (1 - (lg_sl ([.ref (a_r 0)])).length) Slot.unset).toArray = ls at hl ⊢
  have hl : lv_has ls 1 [(0, .ref (a_r 0))] := hl
  refine wg (fun G hG => ?_)
  refine cast (hG _ _ _ _ _ _ _).symm ?_
  obtain ⟨H, locs, hHl, hS⟩ : ∃ (H : Heap) (locs : List Loc), (H = s.heap ∧ locs = []) ∧ va_S A s.heap H locs := ⟨s.heap, [], ⟨rfl, rfl⟩, hS⟩
  have hP : va_P D cls9 (wd_Mo_plateaus cA a_r r_manner r_above r_below r_nodes r_arcs r_left r_isBest r_arePlateaus r_all r_a r_b r_ties r_z r_plateaus r_ones r_others r_weights r_there r_between r_joins r_has r_sums r_sizes r_walk r_found r_shown r_beginsAbove r_beginsBelow r_shownOf) H := by rw [hHl.1]; exact hP
  rw [← hHl.1, ← hHl.2]
  clear hHl
  refine lv_aload_n hx hb d_Mo_plateaus_0 rfl (lv_at hl 0 rfl) ?_
  obtain ⟨o_20, hc_19, h⟩ := bd h
  have hPc := hP.sub (ws' := (wd_Mo_findPlateaus cA a_r r_manner r_above r_below r_nodes r_arcs r_left r_isBest r_arePlateaus r_all r_a r_b r_ties r_z r_plateaus r_ones r_others r_weights r_there r_between r_joins r_has r_sums r_sizes r_walk r_found r_shown r_beginsAbove r_beginsBelow r_shownOf)) [0, 1, 2, 3, 4, 5, 6, 7, 8, 9, 10, 11, 12, 13, 14, 15] rfl
  have hDc := hD.sub (ws' := (wd_Mo_findPlateaus cA a_r r_manner r_above r_below r_nodes r_arcs r_left r_isBest r_arePlateaus r_all r_a r_b r_ties r_z r_plateaus r_ones r_others r_weights r_there r_between r_joins r_has r_sums r_sizes r_walk r_found r_shown r_beginsAbove r_beginsBelow r_shownOf)) [0, 1, 2, 3, 4, 5, 6, 7, 8, 9, 10, 11, 12, 13, 14, 15] (by decide) rfl
  have hFc := va_free (wc := (wd_Mo_findPlateaus cA a_r r_manner r_above r_below r_nodes r_arcs r_left r_isBest r_arePlateaus r_all r_a r_b r_ties r_z r_plateaus r_ones r_others r_weights r_there r_between r_joins r_has r_sums r_sizes r_walk r_found r_shown r_beginsAbove r_beginsBelow r_shownOf)) hD hS hA [0, 1, 2, 3, 4, 5, 6, 7, 8, 9, 10, 11, 12, 13, 14, 15] rfl
  refine va_callv (va_runV (C := R_Mo) (As := []) (rest := []) ⟨hx, hb, hml, hown, hal⟩ (c_Mo_findPlateaus l D cA a_r H.size r_manner r_above r_below r_nodes r_arcs r_left r_isBest r_arePlateaus r_all r_a r_b r_ties r_z r_plateaus r_ones r_others r_weights r_there r_between r_joins r_has r_sums r_sizes r_walk r_found r_shown r_beginsAbove r_beginsBelow r_shownOf o_20 hc_19) (cwV 0 hal (goodV kw_923 kw_925 kw_p47 kw_9 kw_926) rfl rfl rfl (by decide +kernel) ⟨Nat.le_of_ble_eq_true rfl, Nat.le_of_ble_eq_true rfl⟩) ⟨fun a U g mk q => by obtain ⟨q0, q1, qP, qK, qD⟩ := q; exact ⟨q0, q1, qP, va_K.moved (u := U) (U := U.calling g mk a) (Vm.Alike.refl U.vm) qK, qD⟩, va_recv hK hP (ci := 8) (q0 := 0) rfl rfl, fun U hU hW => ⟨rfl, by rw [hU], by rw [hU]; exact hPc, va_K.moved hW.alike hK, hDc.weaken (fun _ _ _ _ => trivial)⟩⟩ rfl rfl hl.1 rfl (lv_room (Nat.le_of_ble_eq_true rfl)) d_Mo_plateaus_1 ⟨Nat.le_of_ble_eq_true rfl, Nat.le_of_ble_eq_true rfl⟩) hS (fun q _ h => hFc q h) hFc (fun u t H1 locs ht hvm hw hB hz1 hk1 hS => ?_)
  obtain ⟨u_3, u_4, u_5, u_6, u_7, u_8, u_9, u_10, u_11, u_12, u_13, u_14, u_15, u_16, u_17, u_18⟩ := u
  subst hw
  obtain ⟨hP1, hK1, hD1⟩ := hB
  rw [ht] at hP1
  have hP1 : va_P D cls9 (wd_Mo_findPlateaus cA a_r r_manner r_above r_below r_nodes r_arcs r_left r_isBest u_3 u_4 u_5 u_6 r_ties r_z u_7 r_ones r_others r_weights r_there u_8 u_9 u_10 u_11 u_12 u_13 u_14 u_15 u_16 u_17 u_18) H1 := hP1
  obtain ⟨hP, hD⟩ := va_join (wr := ([] : List Nat).filterMap (fun i => (wd_Mo_plateaus cA a_r r_manner r_above r_below r_nodes r_arcs r_left r_isBest r_arePlateaus r_all r_a r_b r_ties r_z r_plateaus r_ones r_others r_weights r_there r_between r_joins r_has r_sums r_sizes r_walk r_found r_shown r_beginsAbove r_beginsBelow r_shownOf)[i]?)) (w1 := (wd_Mo_findPlateaus cA a_r r_manner r_above r_below r_nodes r_arcs r_left r_isBest u_3 u_4 u_5 u_6 r_ties r_z u_7 r_ones r_others r_weights r_there u_8 u_9 u_10 u_11 u_12 u_13 u_14 u_15 u_16 u_17 u_18)) hP hD [0, 1, 2, 3, 4, 5, 6, 7, 8, 9, 10, 11, 12, 13, 14, 15] [] rfl rfl (by decide) (by decide) hk1 hFc hP1 hD1
  generalize H1 = H at hP hS ⊢
  have hP : va_P D cls9 (wd_Mo_plateaus cA a_r r_manner r_above r_below r_nodes r_arcs r_left r_isBest u_3 u_4 u_5 u_6 r_ties r_z u_7 r_ones r_others r_weights r_there u_8 u_9 u_10 u_11 u_12 u_13 u_14 u_15 u_16 u_17 u_18) H := hP.sub [0, 1, 2, 3, 4, 5, 6, 7, 8, 9, 10, 11, 12, 13, 14, 15] rfl
  have hD : va_D A (wd_Mo_plateaus cA a_r r_manner r_above r_below r_nodes r_arcs r_left r_isBest u_3 u_4 u_5 u_6 r_ties r_z u_7 r_ones r_others r_weights r_there u_8 u_9 u_10 u_11 u_12 u_13 u_14 u_15 u_16 u_17 u_18) := hD.sub [0, 1, 2, 3, 4, 5, 6, 7, 8, 9, 10, 11, 12, 13, 14, 15] (by decide) rfl
  refine lv_aload_n hx hb d_Mo_plateaus_4 rfl (lv_at hl 0 rfl) ?_
  refine va_get (ci := 8) (v := .int u_7) (C := R_Mo) (T := F_Mo) (N := 36) hx hb hal in_Mo hown hK hP 0 rfl rfl 31 (by decide) (hal _ kw_668) (fun _ h9 => h9) rfl d_Mo_plateaus_5 ?_
  exact W.iret (v := u_7) hx hb hr (fun t ht hW => ⟨⟨u_7, (u_3, u_4, u_5, u_6, u_7, u_8, u_9, u_10, u_11, u_12, u_13, u_14, u_15, u_16, u_17, u_18), rfl, Option.some.inj h, by rw [ht]; exact hP, va_K.moved hW.alike hK, hD⟩, hS.F ht⟩) hS.2.2 d_Mo_plateaus_8
def wd_Mo_begins (cA : Nat → ClassId) (a_r : Nat → Nat) (r_manner : Int32) (r_above : Int32) (r_below : Int32) (r_nodes : Int32) (r_arcs : Int32) (r_left : Int32) (r_isBest : Int32) (r_arePlateaus : Int32) (r_all : Int64) (r_a : Int64) (r_b : Int64) (r_ties : Int32) (r_z : Int32) (r_plateaus : Int32) (r_ones : Nat → Int32) (r_others : Nat → Int32) (r_weights : Nat → Int32) (r_there : Nat → Int32) (r_between : Nat → Int32) (r_joins : Nat → Int32) (r_has : Nat → Int32) (r_sums : Nat → Int64) (r_sizes : Nat → Int64) (r_walk : Nat → Int32) (r_found : Nat → Int32) (r_shown : Nat → Int32) (r_beginsAbove : Nat → Int64) (r_beginsBelow : Nat → Int64) (r_shownOf : Nat → Int64) : va_W := [(a_r 0, .inr (8, [.int r_manner, .int r_above, .int r_below, .int r_nodes, .int r_arcs, .int r_left, .ref (a_r 1), .ref (a_r 2), .ref (a_r 3), .ref (a_r 4), .ref (a_r 5), .int r_isBest, .int r_arePlateaus, .ref (a_r 6), .ref (a_r 7), .ref (a_r 8), .long r_all, .ref (a_r 9), .ref (a_r 10), .long r_a, .long r_b, .ref (a_r 11), .ref (a_r 12), .ref (a_r 13), .ref (a_r 14), .ref (a_r 15), .int r_ties, .ref (a_r 16), .ref (a_r 17), .ref (a_r 18), .int r_z, .int r_plateaus, .ref (a_r 19), .ref (a_r 20), .ref (a_r 21), .ref (a_r 22)])), (a_r 1, .inl (cA 0, 36, .inl r_ones)), (a_r 2, .inl (cA 0, 36, .inl r_others)), (a_r 3, .inl (cA 0, 36, .inl r_weights)), (a_r 4, .inl (cA 2, 36, .inl r_there)), (a_r 6, .inl (cA 0, 81, .inl r_between)), (a_r 7, .inl (cA 2, 81, .inl r_joins)), (a_r 8, .inl (cA 0, 9, .inl r_has)), (a_r 9, .inl (cA 1, 9, .inr (.inl r_sums))), (a_r 10, .inl (cA 1, 9, .inr (.inl r_sizes))), (a_r 13, .inl (cA 0, 9, .inl r_walk)), (a_r 14, .inl (cA 0, 9, .inl r_found)), (a_r 19, .inl (cA 0, 9, .inl r_shown)), (a_r 20, .inl (cA 1, 1801, .inr (.inl r_beginsAbove))), (a_r 21, .inl (cA 1, 1801, .inr (.inl r_beginsBelow))), (a_r 22, .inl (cA 1, 1801, .inr (.inl r_shownOf)))]
noncomputable def s_Mo_begins_48  (zz : Int64 × Int64) (back exit : (Int64 × Int64) → Option (Int64 × Int32 × Int64 × Int64 × Int64 × Int32 × (Nat → Int32) × (Nat → Int32) × (Nat → Int32) × (Nat → Int64) × (Nat → Int64) × (Nat → Int32) × (Nat → Int32) × (Nat → Int32) × (Nat → Int64) × (Nat → Int64) × (Nat → Int64))) : Option (Int64 × Int32 × Int64 × Int64 × Int64 × Int32 × (Nat → Int32) × (Nat → Int32) × (Nat → Int32) × (Nat → Int64) × (Nat → Int64) × (Nat → Int32) × (Nat → Int32) × (Nat → Int32) × (Nat → Int64) × (Nat → Int64) × (Nat → Int64)) :=
  (if zz.2 = (0 : Int64) then (exit (zz.1, zz.2)) else (if ¬ zz.2 = 0 then (back (zz.2, (zz.1 - zz.1 / zz.2 * zz.2))) else none))
noncomputable def m_Mo_begins (r_manner : Int32) (r_nodes : Int32) (r_arcs : Int32) (r_arePlateaus : Int32) (r_all : Int64) (r_a : Int64) (r_b : Int64) (r_plateaus : Int32) (r_ones : Nat → Int32) (r_others : Nat → Int32) (r_weights : Nat → Int32) (r_there : Nat → Int32) (r_between : Nat → Int32) (r_joins : Nat → Int32) (r_has : Nat → Int32) (r_sums : Nat → Int64) (r_sizes : Nat → Int64) (r_walk : Nat → Int32) (r_found : Nat → Int32) (r_shown : Nat → Int32) (r_beginsAbove : Nat → Int64) (r_beginsBelow : Nat → Int64) (r_shownOf : Nat → Int64) (v1 : Int32) (v2 : Int32) : Option (Int64 × Int32 × Int64 × Int64 × Int64 × Int32 × (Nat → Int32) × (Nat → Int32) × (Nat → Int32) × (Nat → Int64) × (Nat → Int64) × (Nat → Int32) × (Nat → Int32) × (Nat → Int32) × (Nat → Int64) × (Nat → Int64) × (Nat → Int64)) :=
  ((m_Mo_findPlateaus r_manner r_nodes r_arcs r_arePlateaus r_all r_a r_b r_plateaus r_ones r_others r_weights r_there r_between r_joins r_has r_sums r_sizes r_walk r_found r_shown r_beginsAbove r_beginsBelow r_shownOf).bind (fun r1 : Int32 × Int64 × Int64 × Int64 × Int32 × (Nat → Int32) × (Nat → Int32) × (Nat → Int32) × (Nat → Int64) × (Nat → Int64) × (Nat → Int32) × (Nat → Int32) × (Nat → Int32) × (Nat → Int64) × (Nat → Int64) × (Nat → Int64) => (if v1 < 0 then some ((-1 : Int64), r1.1, r1.2.1, r1.2.2.1, r1.2.2.2.1, r1.2.2.2.2.1, r1.2.2.2.2.2.1, r1.2.2.2.2.2.2.1, r1.2.2.2.2.2.2.2.1, r1.2.2.2.2.2.2.2.2.1, r1.2.2.2.2.2.2.2.2.2.1, r1.2.2.2.2.2.2.2.2.2.2.1, r1.2.2.2.2.2.2.2.2.2.2.2.1, r1.2.2.2.2.2.2.2.2.2.2.2.2.1, r1.2.2.2.2.2.2.2.2.2.2.2.2.2.1, r1.2.2.2.2.2.2.2.2.2.2.2.2.2.2.1, r1.2.2.2.2.2.2.2.2.2.2.2.2.2.2.2) else (if v1 < r1.2.2.2.2.1 then (jn (fun z33 : Unit => (if inb v1 1801 then (loopC (s_Mo_begins_48) (fun z48 : Int64 × Int64 => (if v2 = 0 then (if inb v1 1801 then (if ¬ z48.1 = 0 then some (((r1.2.2.2.2.2.2.2.2.2.2.2.2.2.1 v1.toNatClampNeg) / z48.1), r1.1, r1.2.1, r1.2.2.1, r1.2.2.2.1, r1.2.2.2.2.1, r1.2.2.2.2.2.1, r1.2.2.2.2.2.2.1, r1.2.2.2.2.2.2.2.1, r1.2.2.2.2.2.2.2.2.1, r1.2.2.2.2.2.2.2.2.2.1, r1.2.2.2.2.2.2.2.2.2.2.1, r1.2.2.2.2.2.2.2.2.2.2.2.1, r1.2.2.2.2.2.2.2.2.2.2.2.2.1, r1.2.2.2.2.2.2.2.2.2.2.2.2.2.1, r1.2.2.2.2.2.2.2.2.2.2.2.2.2.2.1, r1.2.2.2.2.2.2.2.2.2.2.2.2.2.2.2) else none) else none) else (if inb v1 1801 then (if ¬ z48.1 = 0 then some (((r1.2.2.2.2.2.2.2.2.2.2.2.2.2.2.1 v1.toNatClampNeg) / z48.1), r1.1, r1.2.1, r1.2.2.1, r1.2.2.2.1, r1.2.2.2.2.1, r1.2.2.2.2.2.1, r1.2.2.2.2.2.2.1, r1.2.2.2.2.2.2.2.1, r1.2.2.2.2.2.2.2.2.1, r1.2.2.2.2.2.2.2.2.2.1, r1.2.2.2.2.2.2.2.2.2.2.1, r1.2.2.2.2.2.2.2.2.2.2.2.1, r1.2.2.2.2.2.2.2.2.2.2.2.2.1, r1.2.2.2.2.2.2.2.2.2.2.2.2.2.1, r1.2.2.2.2.2.2.2.2.2.2.2.2.2.2.1, r1.2.2.2.2.2.2.2.2.2.2.2.2.2.2.2) else none) else none))) FU ((r1.2.2.2.2.2.2.2.2.2.2.2.2.2.1 v1.toNatClampNeg), (r1.2.2.2.2.2.2.2.2.2.2.2.2.2.2.1 v1.toNatClampNeg))) else none)) (fun j33 => (if v2 = 0 then (j33 ()) else (if v2 = (1 : Int32) then (j33 ()) else some ((-2 : Int64), r1.1, r1.2.1, r1.2.2.1, r1.2.2.2.1, r1.2.2.2.2.1, r1.2.2.2.2.2.1, r1.2.2.2.2.2.2.1, r1.2.2.2.2.2.2.2.1, r1.2.2.2.2.2.2.2.2.1, r1.2.2.2.2.2.2.2.2.2.1, r1.2.2.2.2.2.2.2.2.2.2.1, r1.2.2.2.2.2.2.2.2.2.2.2.1, r1.2.2.2.2.2.2.2.2.2.2.2.2.1, r1.2.2.2.2.2.2.2.2.2.2.2.2.2.1, r1.2.2.2.2.2.2.2.2.2.2.2.2.2.2.1, r1.2.2.2.2.2.2.2.2.2.2.2.2.2.2.2))))) else some ((-1 : Int64), r1.1, r1.2.1, r1.2.2.1, r1.2.2.2.1, r1.2.2.2.2.1, r1.2.2.2.2.2.1, r1.2.2.2.2.2.2.1, r1.2.2.2.2.2.2.2.1, r1.2.2.2.2.2.2.2.2.1, r1.2.2.2.2.2.2.2.2.2.1, r1.2.2.2.2.2.2.2.2.2.2.1, r1.2.2.2.2.2.2.2.2.2.2.2.1, r1.2.2.2.2.2.2.2.2.2.2.2.2.1, r1.2.2.2.2.2.2.2.2.2.2.2.2.2.1, r1.2.2.2.2.2.2.2.2.2.2.2.2.2.2.1, r1.2.2.2.2.2.2.2.2.2.2.2.2.2.2.2)))))
set_option maxHeartbeats 4000000 in
set_option maxRecDepth 100000 in
theorem c_Mo_begins (l : Launch) (D : va_G) (cA : Nat → ClassId) (a_r : Nat → Nat) (sz : Nat) (r_manner : Int32) (r_above : Int32) (r_below : Int32) (r_nodes : Int32) (r_arcs : Int32) (r_left : Int32) (r_isBest : Int32) (r_arePlateaus : Int32) (r_all : Int64) (r_a : Int64) (r_b : Int64) (r_ties : Int32) (r_z : Int32) (r_plateaus : Int32) (r_ones : Nat → Int32) (r_others : Nat → Int32) (r_weights : Nat → Int32) (r_there : Nat → Int32) (r_between : Nat → Int32) (r_joins : Nat → Int32) (r_has : Nat → Int32) (r_sums : Nat → Int64) (r_sizes : Nat → Int64) (r_walk : Nat → Int32) (r_found : Nat → Int32) (r_shown : Nat → Int32) (r_beginsAbove : Nat → Int64) (r_beginsBelow : Nat → Int64) (r_shownOf : Nat → Int64) (v1 : Int32) (v2 : Int32) (out : Int64 × Int32 × Int64 × Int64 × Int64 × Int32 × (Nat → Int32) × (Nat → Int32) × (Nat → Int32) × (Nat → Int64) × (Nat → Int64) × (Nat → Int32) × (Nat → Int32) × (Nat → Int32) × (Nat → Int64) × (Nat → Int64) × (Nat → Int64)) (h : m_Mo_begins r_manner r_nodes r_arcs r_arePlateaus r_all r_a r_b r_plateaus r_ones r_others r_weights r_there r_between r_joins r_has r_sums r_sizes r_walk r_found r_shown r_beginsAbove r_beginsBelow r_shownOf v1 v2 = some out) : Met l y_Mo_begins w_Mo_begins ({ frames := 3, cells := 0, slots := 0, locals := 82 }) (va_Pc [.ref (a_r 0), .int v1, .int v2] (fun U => U.heap.size = sz ∧ va_P D cls9 (wd_Mo_begins cA a_r r_manner r_above r_below r_nodes r_arcs r_left r_isBest r_arePlateaus r_all r_a r_b r_ties r_z r_plateaus r_ones r_others r_weights r_there r_between r_joins r_has r_sums r_sizes r_walk r_found r_shown r_beginsAbove r_beginsBelow r_shownOf) U.heap ∧ va_K D cls9 (tys5 cA) U ∧ va_D (fun _ => True) (wd_Mo_begins cA a_r r_manner r_above r_below r_nodes r_arcs r_left r_isBest r_arePlateaus r_all r_a r_b r_ties r_z r_plateaus r_ones r_others r_weights r_there r_between r_joins r_has r_sums r_sizes r_walk r_found r_shown r_beginsAbove r_beginsBelow r_shownOf))) (va_Ql (fun (rr : Int64) (uu : Int32 × Int64 × Int64 × Int64 × Int32 × (Nat → Int32) × (Nat → Int32) × (Nat → Int32) × (Nat → Int64) × (Nat → Int64) × (Nat → Int32) × (Nat → Int32) × (Nat → Int32) × (Nat → Int64) × (Nat → Int64) × (Nat → Int64)) => (rr, uu) = out) (fun (uu : Int32 × Int64 × Int64 × Int64 × Int32 × (Nat → Int32) × (Nat → Int32) × (Nat → Int32) × (Nat → Int64) × (Nat → Int64) × (Nat → Int32) × (Nat → Int32) × (Nat → Int32) × (Nat → Int64) × (Nat → Int64) × (Nat → Int64)) (t : State) => va_P D cls9 (wd_Mo_begins cA a_r r_manner r_above r_below r_nodes r_arcs r_left r_isBest uu.1 uu.2.1 uu.2.2.1 uu.2.2.2.1 r_ties r_z uu.2.2.2.2.1 r_ones r_others r_weights r_there uu.2.2.2.2.2.1 uu.2.2.2.2.2.2.1 uu.2.2.2.2.2.2.2.1 uu.2.2.2.2.2.2.2.2.1 uu.2.2.2.2.2.2.2.2.2.1 uu.2.2.2.2.2.2.2.2.2.2.1 uu.2.2.2.2.2.2.2.2.2.2.2.1 uu.2.2.2.2.2.2.2.2.2.2.2.2.1 uu.2.2.2.2.2.2.2.2.2.2.2.2.2.1 uu.2.2.2.2.2.2.2.2.2.2.2.2.2.2.1 uu.2.2.2.2.2.2.2.2.2.2.2.2.2.2.2) t.heap ∧ va_K D cls9 (tys5 cA) t ∧ va_D (va_A (wd_Mo_begins cA a_r r_manner r_above r_below r_nodes r_arcs r_left r_isBest r_arePlateaus r_all r_a r_b r_ties r_z r_plateaus r_ones r_others r_weights r_there r_between r_joins r_has r_sums r_sizes r_walk r_found r_shown r_beginsAbove r_beginsBelow r_shownOf) sz) (wd_Mo_begins cA a_r r_manner r_above r_below r_nodes r_arcs r_left r_isBest uu.1 uu.2.1 uu.2.2.1 uu.2.2.2.1 r_ties r_z uu.2.2.2.2.1 r_ones r_others r_weights r_there uu.2.2.2.2.2.1 uu.2.2.2.2.2.2.1 uu.2.2.2.2.2.2.2.1 uu.2.2.2.2.2.2.2.2.1 uu.2.2.2.2.2.2.2.2.2.1 uu.2.2.2.2.2.2.2.2.2.2.1 uu.2.2.2.2.2.2.2.2.2.2.2.1 uu.2.2.2.2.2.2.2.2.2.2.2.2.1 uu.2.2.2.2.2.2.2.2.2.2.2.2.2.1 uu.2.2.2.2.2.2.2.2.2.2.2.2.2.2.1 uu.2.2.2.2.2.2.2.2.2.2.2.2.2.2.2)) (va_A (wd_Mo_begins cA a_r r_manner r_above r_below r_nodes r_arcs r_left r_isBest r_arePlateaus r_all r_a r_b r_ties r_z r_plateaus r_ones r_others r_weights r_there r_between r_joins r_has r_sums r_sizes r_walk r_found r_shown r_beginsAbove r_beginsBelow r_shownOf) sz)) 0 0 (va_A (wd_Mo_begins cA a_r r_manner r_above r_below r_nodes r_arcs r_left r_isBest r_arePlateaus r_all r_a r_b r_ties r_z r_plateaus r_ones r_others r_weights r_there r_between r_joins r_has r_sums r_sizes r_walk r_found r_shown r_beginsAbove r_beginsBelow r_shownOf) sz) := by
  refine Met.ofW (cc := b_Mo_begins) (maxL := 9) (ret := (Option.some Jvm.ClassFile.FieldType.long)) (by decide) rfl ?_
  intro p e s m args below meth c s₁ B hml hv
  obtain ⟨rfl, hsz, hP, hK, hD0⟩ := hv
  have hx := B.exec
  have hb := B.bytes
  have hr := B.returns
  have hts := atoms_spec (ws := w_Mo_begins) B.pre
  have hal : ∀ w ∈ ALLW, w.before _ s = true := fun w hw => hts w (List.mem_cons_of_mem _ hw)
  have hown : s.vm.findClass R_Mo = some m.cls := findClass_of_methodNamed B.named
  have hlocks := B.notSynchronized
  subst hsz
  have hD := hD0.self (sz := s.heap.size)
  generalize hAe : va_A (wd_Mo_begins cA a_r r_manner r_above r_below r_nodes r_arcs r_left r_isBest r_arePlateaus r_all r_a r_b r_ties r_z r_plateaus r_ones r_others r_weights r_there r_between r_joins r_has r_sums r_sizes r_walk r_found r_shown r_beginsAbove r_beginsBelow r_shownOf) s.heap.size = A at hD ⊢
  have hA : ∀ q : Nat, s.heap.size ≤ q → A q := fun q h => by rw [← hAe]; exact Or.inr h
  have hS : va_S A s.heap s.heap [] := va_S.rf
  have hl := lv_entry ([.ref (a_r 0), .int v1, .int v2]) (n := 9) (Nat.le_of_ble_eq_true rfl)
  rw [lg_entry_eq]
  generalize (lg_sl ([.ref (a_r 0), .int v1, .int v2]) ++ List.replicate (9 - (lg_sl ([.ref (a_r 0), .int v1, .int v2])).length) Slot.unset).toArray = ls at hl ⊢
  have hl : lv_has ls 9 [(0, .ref (a_r 0)), (1, .int v1), (2, .int v2)] := hl
  refine wg (fun G hG => ?_)
  refine cast (hG _ _ _ _ _ _ _).symm ?_
  obtain ⟨H, locs, hHl, hS⟩ : ∃ (H : Heap) (locs : List Loc), (H = s.heap ∧ locs = []) ∧ va_S A s.heap H locs := ⟨s.heap, [], ⟨rfl, rfl⟩, hS⟩
  have hP : va_P D cls9 (wd_Mo_begins cA a_r r_manner r_above r_below r_nodes r_arcs r_left r_isBest r_arePlateaus r_all r_a r_b r_ties r_z r_plateaus r_ones r_others r_weights r_there r_between r_joins r_has r_sums r_sizes r_walk r_found r_shown r_beginsAbove r_beginsBelow r_shownOf) H := by rw [hHl.1]; exact hP
  rw [← hHl.1, ← hHl.2]
  clear hHl
  refine lv_aload_n hx hb d_Mo_begins_0 rfl (lv_at hl 0 rfl) ?_
  obtain ⟨o_20, hc_19, h⟩ := bd h
  have hPc := hP.sub (ws' := (wd_Mo_findPlateaus cA a_r r_manner r_above r_below r_nodes r_arcs r_left r_isBest r_arePlateaus r_all r_a r_b r_ties r_z r_plateaus r_ones r_others r_weights r_there r_between r_joins r_has r_sums r_sizes r_walk r_found r_shown r_beginsAbove r_beginsBelow r_shownOf)) [0, 1, 2, 3, 4, 5, 6, 7, 8, 9, 10, 11, 12, 13, 14, 15] rfl
  have hDc := hD.sub (ws' := (wd_Mo_findPlateaus cA a_r r_manner r_above r_below r_nodes r_arcs r_left r_isBest r_arePlateaus r_all r_a r_b r_ties r_z r_plateaus r_ones r_others r_weights r_there r_between r_joins r_has r_sums r_sizes r_walk r_found r_shown r_beginsAbove r_beginsBelow r_shownOf)) [0, 1, 2, 3, 4, 5, 6, 7, 8, 9, 10, 11, 12, 13, 14, 15] (by decide) rfl
  have hFc := va_free (wc := (wd_Mo_findPlateaus cA a_r r_manner r_above r_below r_nodes r_arcs r_left r_isBest r_arePlateaus r_all r_a r_b r_ties r_z r_plateaus r_ones r_others r_weights r_there r_between r_joins r_has r_sums r_sizes r_walk r_found r_shown r_beginsAbove r_beginsBelow r_shownOf)) hD hS hA [0, 1, 2, 3, 4, 5, 6, 7, 8, 9, 10, 11, 12, 13, 14, 15] rfl
  refine va_callv (va_runV (C := R_Mo) (As := []) (rest := []) ⟨hx, hb, hml, hown, hal⟩ (c_Mo_findPlateaus l D cA a_r H.size r_manner r_above r_below r_nodes r_arcs r_left r_isBest r_arePlateaus r_all r_a r_b r_ties r_z r_plateaus r_ones r_others r_weights r_there r_between r_joins r_has r_sums r_sizes r_walk r_found r_shown r_beginsAbove r_beginsBelow r_shownOf o_20 hc_19) (cwV 0 hal (goodV kw_923 kw_925 kw_p47 kw_9 kw_926) rfl rfl rfl (by decide +kernel) ⟨Nat.le_of_ble_eq_true rfl, Nat.le_of_ble_eq_true rfl⟩) ⟨fun a U g mk q => by obtain ⟨q0, q1, qP, qK, qD⟩ := q; exact ⟨q0, q1, qP, va_K.moved (u := U) (U := U.calling g mk a) (Vm.Alike.refl U.vm) qK, qD⟩, va_recv hK hP (ci := 8) (q0 := 0) rfl rfl, fun U hU hW => ⟨rfl, by rw [hU], by rw [hU]; exact hPc, va_K.moved hW.alike hK, hDc.weaken (fun _ _ _ _ => trivial)⟩⟩ rfl rfl hl.1 rfl (lv_room (Nat.le_of_ble_eq_true rfl)) d_Mo_begins_1 ⟨Nat.le_of_ble_eq_true rfl, Nat.le_of_ble_eq_true rfl⟩) hS (fun q _ h => hFc q h) hFc (fun u t H1 locs ht hvm hw hB hz1 hk1 hS => ?_)
  obtain ⟨u_3, u_4, u_5, u_6, u_7, u_8, u_9, u_10, u_11, u_12, u_13, u_14, u_15, u_16, u_17, u_18⟩ := u
  subst hw
  obtain ⟨hP1, hK1, hD1⟩ := hB
  rw [ht] at hP1
  have hP1 : va_P D cls9 (wd_Mo_findPlateaus cA a_r r_manner r_above r_below r_nodes r_arcs r_left r_isBest u_3 u_4 u_5 u_6 r_ties r_z u_7 r_ones r_others r_weights r_there u_8 u_9 u_10 u_11 u_12 u_13 u_14 u_15 u_16 u_17 u_18) H1 := hP1
  obtain ⟨hP, hD⟩ := va_join (wr := ([] : List Nat).filterMap (fun i => (wd_Mo_begins cA a_r r_manner r_above r_below r_nodes r_arcs r_left r_isBest r_arePlateaus r_all r_a r_b r_ties r_z r_plateaus r_ones r_others r_weights r_there r_between r_joins r_has r_sums r_sizes r_walk r_found r_shown r_beginsAbove r_beginsBelow r_shownOf)[i]?)) (w1 := (wd_Mo_findPlateaus cA a_r r_manner r_above r_below r_nodes r_arcs r_left r_isBest u_3 u_4 u_5 u_6 r_ties r_z u_7 r_ones r_others r_weights r_there u_8 u_9 u_10 u_11 u_12 u_13 u_14 u_15 u_16 u_17 u_18)) hP hD [0, 1, 2, 3, 4, 5, 6, 7, 8, 9, 10, 11, 12, 13, 14, 15] [] rfl rfl (by decide) (by decide) hk1 hFc hP1 hD1
  generalize H1 = H at hP hS ⊢
  have hP : va_P D cls9 (wd_Mo_begins cA a_r r_manner r_above r_below r_nodes r_arcs r_left r_isBest u_3 u_4 u_5 u_6 r_ties r_z u_7 r_ones r_others r_weights r_there u_8 u_9 u_10 u_11 u_12 u_13 u_14 u_15 u_16 u_17 u_18) H := hP.sub [0, 1, 2, 3, 4, 5, 6, 7, 8, 9, 10, 11, 12, 13, 14, 15] rfl
  have hD : va_D A (wd_Mo_begins cA a_r r_manner r_above r_below r_nodes r_arcs r_left r_isBest u_3 u_4 u_5 u_6 r_ties r_z u_7 r_ones r_others r_weights r_there u_8 u_9 u_10 u_11 u_12 u_13 u_14 u_15 u_16 u_17 u_18) := hD.sub [0, 1, 2, 3, 4, 5, 6, 7, 8, 9, 10, 11, 12, 13, 14, 15] (by decide) rfl
  refine lv_iload_n hx hb d_Mo_begins_4 rfl (lv_at hl 1 rfl) ?_
  refine lv_if_lt (tgt := 16) hx hb d_Mo_begins_5 (by decide) (fun c_21 => ?_) (fun c_21 => ?_)
  · have h := ifp (c_21) h
    refine lv_ldc2 (v := -1) hx hb hown (hal _ kw_935) d_Mo_begins_16 ?_
    exact W.lret (v := (-1 : Int64)) hx hb hr (fun t ht hW => ⟨⟨(-1 : Int64), (u_3, u_4, u_5, u_6, u_7, u_8, u_9, u_10, u_11, u_12, u_13, u_14, u_15, u_16, u_17, u_18), rfl, Option.some.inj h, by rw [ht]; exact hP, va_K.moved hW.alike hK, hD⟩, hS.F ht⟩) hS.2.2 d_Mo_begins_19
  · have h := ifn (c_21) h
    refine lv_iload_n hx hb d_Mo_begins_8 rfl (lv_at hl 1 rfl) ?_
    refine lv_aload_n hx hb d_Mo_begins_9 rfl (lv_at hl 0 rfl) ?_
    refine va_get (ci := 8) (v := .int u_7) (C := R_Mo) (T := F_Mo) (N := 36) hx hb hal in_Mo hown hK hP 0 rfl rfl 31 (by decide) (hal _ kw_668) (fun _ h9 => h9) rfl d_Mo_begins_10 ?_
    refine lv_icmp_lt (tgt := 20) hx hb d_Mo_begins_13 (by decide) (fun c_22 => ?_) (fun c_22 => ?_)
    · have h := ifp (c_22) h
      refine lv_iload_n hx hb d_Mo_begins_20 rfl (lv_at hl 2 rfl) ?_
      refine cast (hG _ _ _ _ _ _ _) (jn_go h (fun zz : Unit => ∀ (H : Heap) (locs : List Loc) (ls : Array Slot), va_P D cls9 (wd_Mo_begins cA a_r r_manner r_above r_below r_nodes r_arcs r_left r_isBest u_3 u_4 u_5 u_6 r_ties r_z u_7 r_ones r_others r_weights r_there u_8 u_9 u_10 u_11 u_12 u_13 u_14 u_15 u_16 u_17 u_18) H → va_D A (wd_Mo_begins cA a_r r_manner r_above r_below r_nodes r_arcs r_left r_isBest u_3 u_4 u_5 u_6 r_ties r_z u_7 r_ones r_others r_weights r_there u_8 u_9 u_10 u_11 u_12 u_13 u_14 u_15 u_16 u_17 u_18) → va_S A s.heap H locs → lv_has ls 9 [(0, .ref (a_r 0)), (1, .int v1), (2, .int v2)] → G H locs 0 0 ls 33 []) ?_ ?_)
      · intro zz h H locs ls hP hD hS hl
        have hP : va_P D cls9 (wd_Mo_begins cA a_r r_manner r_above r_below r_nodes r_arcs r_left r_isBest u_3 u_4 u_5 u_6 r_ties r_z u_7 r_ones r_others r_weights r_there u_8 u_9 u_10 u_11 u_12 u_13 u_14 u_15 u_16 u_17 u_18) H := hP
        have hD : va_D A (wd_Mo_begins cA a_r r_manner r_above r_below r_nodes r_arcs r_left r_isBest u_3 u_4 u_5 u_6 r_ties r_z u_7 r_ones r_others r_weights r_there u_8 u_9 u_10 u_11 u_12 u_13 u_14 u_15 u_16 u_17 u_18) := hD
        have hl : lv_has ls 9 [(0, .ref (a_r 0)), (1, .int v1), (2, .int v2)] := hl
        refine cast (hG _ _ _ _ _ _ _).symm ?_
        refine lv_aload_n hx hb d_Mo_begins_33 rfl (lv_at hl 0 rfl) ?_
        refine va_get (ci := 8) (v := .ref (a_r 20)) (C := R_Mo) (T := F_Mo) (N := 36) hx hb hal in_Mo hown hK hP 0 rfl rfl 33 (by decide) (hal _ kw_670) (fun _ h9 => h9) rfl d_Mo_begins_34 ?_
        refine lv_iload_n hx hb d_Mo_begins_37 rfl (lv_at hl 1 rfl) ?_
        obtain ⟨g_23, h⟩ := gd h
        refine va_lald hx hb hK hP 13 1 rfl rfl (inb_in g_23) d_Mo_begins_38 ?_
        refine lv_lstore_n (lv' := [(3, .long (u_16 v1.toNatClampNeg)), (0, .ref (a_r 0)), (1, .int v1), (2, .int v2)]) hx hb d_Mo_begins_39 rfl hl (by decide) rfl (fun ls hl => ?_)
        refine lv_aload_n hx hb d_Mo_begins_40 rfl (lv_at hl 1 rfl) ?_
        refine va_get (ci := 8) (v := .ref (a_r 21)) (C := R_Mo) (T := F_Mo) (N := 36) hx hb hal in_Mo hown hK hP 0 rfl rfl 34 (by decide) (hal _ kw_671) (fun _ h9 => h9) rfl d_Mo_begins_41 ?_
        refine lv_iload_n hx hb d_Mo_begins_44 rfl (lv_at hl 2 rfl) ?_
        refine va_lald hx hb hK hP 14 1 rfl rfl (inb_in g_23) d_Mo_begins_45 ?_
        refine lv_lstore (lv' := [(5, .long (u_17 v1.toNatClampNeg)), (3, .long (u_16 v1.toNatClampNeg)), (0, .ref (a_r 0)), (1, .int v1), (2, .int v2)]) hx hb d_Mo_begins_46 hl (by decide) rfl (fun ls hl => ?_)
        refine cast (hG _ _ _ _ _ _ _) (lp_go2 h (fun zz : Int64 × Int64 => ∀ (H : Heap) (locs : List Loc) (ls : Array Slot), va_P D cls9 (wd_Mo_begins cA a_r r_manner r_above r_below r_nodes r_arcs r_left r_isBest u_3 u_4 u_5 u_6 r_ties r_z u_7 r_ones r_others r_weights r_there u_8 u_9 u_10 u_11 u_12 u_13 u_14 u_15 u_16 u_17 u_18) H → va_D A (wd_Mo_begins cA a_r r_manner r_above r_below r_nodes r_arcs r_left r_isBest u_3 u_4 u_5 u_6 r_ties r_z u_7 r_ones r_others r_weights r_there u_8 u_9 u_10 u_11 u_12 u_13 u_14 u_15 u_16 u_17 u_18) → va_S A s.heap H locs → lv_has ls 9 [(5, .long zz.2), (3, .long zz.1), (0, .ref (a_r 0)), (1, .int v1), (2, .int v2)] → G H locs 0 0 ls 71 []) ?_ (fun zz : Int64 × Int64 => ∀ (H : Heap) (locs : List Loc) (ls : Array Slot), va_P D cls9 (wd_Mo_begins cA a_r r_manner r_above r_below r_nodes r_arcs r_left r_isBest u_3 u_4 u_5 u_6 r_ties r_z u_7 r_ones r_others r_weights r_there u_8 u_9 u_10 u_11 u_12 u_13 u_14 u_15 u_16 u_17 u_18) H → va_D A (wd_Mo_begins cA a_r r_manner r_above r_below r_nodes r_arcs r_left r_isBest u_3 u_4 u_5 u_6 r_ties r_z u_7 r_ones r_others r_weights r_there u_8 u_9 u_10 u_11 u_12 u_13 u_14 u_15 u_16 u_17 u_18) → va_S A s.heap H locs → lv_has ls 9 [(5, .long zz.2), (3, .long zz.1), (0, .ref (a_r 0)), (1, .int v1), (2, .int v2)] → G H locs 0 0 ls 48 []) ?_ _ _ ls hP hD hS (lv_sub hl [0, 1, 2, 3, 4] rfl))
        · intro zz h H locs ls hP hD hS hl
          obtain ⟨x3_48e, x5_48e⟩ := zz
          have hP : va_P D cls9 (wd_Mo_begins cA a_r r_manner r_above r_below r_nodes r_arcs r_left r_isBest u_3 u_4 u_5 u_6 r_ties r_z u_7 r_ones r_others r_weights r_there u_8 u_9 u_10 u_11 u_12 u_13 u_14 u_15 u_16 u_17 u_18) H := hP
          have hD : va_D A (wd_Mo_begins cA a_r r_manner r_above r_below r_nodes r_arcs r_left r_isBest u_3 u_4 u_5 u_6 r_ties r_z u_7 r_ones r_others r_weights r_there u_8 u_9 u_10 u_11 u_12 u_13 u_14 u_15 u_16 u_17 u_18) := hD
          have hl : lv_has ls 9 [(5, .long x5_48e), (3, .long x3_48e), (0, .ref (a_r 0)), (1, .int v1), (2, .int v2)] := hl
          refine cast (hG _ _ _ _ _ _ _).symm ?_
          refine lv_iload_n hx hb d_Mo_begins_71 rfl (lv_at hl 4 rfl) ?_
          refine lv_if_ne (tgt := 84) hx hb d_Mo_begins_72 (by decide) (fun c_24 => ?_) (fun c_24 => ?_)
          · have h := ifn (c_24) h
            refine lv_aload_n hx hb d_Mo_begins_84 rfl (lv_at hl 2 rfl) ?_
            refine va_get (ci := 8) (v := .ref (a_r 21)) (C := R_Mo) (T := F_Mo) (N := 36) hx hb hal in_Mo hown hK hP 0 rfl rfl 34 (by decide) (hal _ kw_671) (fun _ h9 => h9) rfl d_Mo_begins_85 ?_
            refine lv_iload_n hx hb d_Mo_begins_88 rfl (lv_at hl 3 rfl) ?_
            obtain ⟨g_25, h⟩ := gd h
            refine va_lald hx hb hK hP 14 1 rfl rfl (inb_in g_25) d_Mo_begins_89 ?_
            refine lv_lload_n hx hb d_Mo_begins_90 rfl (lv_at hl 1 rfl) ?_
            obtain ⟨z_26, h⟩ := gd h
            refine lv_ldiv hx hb d_Mo_begins_91 z_26 ?_
            exact W.lret (v := ((u_17 v1.toNatClampNeg) / x3_48e)) hx hb hr (fun t ht hW => ⟨⟨((u_17 v1.toNatClampNeg) / x3_48e), (u_3, u_4, u_5, u_6, u_7, u_8, u_9, u_10, u_11, u_12, u_13, u_14, u_15, u_16, u_17, u_18), rfl, Option.some.inj h, by rw [ht]; exact hP, va_K.moved hW.alike hK, hD⟩, hS.F ht⟩) hS.2.2 d_Mo_begins_92
          · have h := ifp (c_24) h
            refine lv_aload_n hx hb d_Mo_begins_75 rfl (lv_at hl 2 rfl) ?_
            refine va_get (ci := 8) (v := .ref (a_r 20)) (C := R_Mo) (T := F_Mo) (N := 36) hx hb hal in_Mo hown hK hP 0 rfl rfl 33 (by decide) (hal _ kw_670) (fun _ h9 => h9) rfl d_Mo_begins_76 ?_
            refine lv_iload_n hx hb d_Mo_begins_79 rfl (lv_at hl 3 rfl) ?_
            obtain ⟨g_27, h⟩ := gd h
            refine va_lald hx hb hK hP 13 1 rfl rfl (inb_in g_27) d_Mo_begins_80 ?_
            refine lv_goto (tgt := 90) hx hb d_Mo_begins_81 (by decide) ?_
            refine lv_lload_n hx hb d_Mo_begins_90 rfl (lv_at hl 1 rfl) ?_
            obtain ⟨z_28, h⟩ := gd h
            refine lv_ldiv hx hb d_Mo_begins_91 z_28 ?_
            exact W.lret (v := ((u_16 v1.toNatClampNeg) / x3_48e)) hx hb hr (fun t ht hW => ⟨⟨((u_16 v1.toNatClampNeg) / x3_48e), (u_3, u_4, u_5, u_6, u_7, u_8, u_9, u_10, u_11, u_12, u_13, u_14, u_15, u_16, u_17, u_18), rfl, Option.some.inj h, by rw [ht]; exact hP, va_K.moved hW.alike hK, hD⟩, hS.F ht⟩) hS.2.2 d_Mo_begins_92
        · intro back exit zz hB_48 hE_48 h H locs ls hP hD hS hl
          obtain ⟨x3_48, x5_48⟩ := zz
          have hP : va_P D cls9 (wd_Mo_begins cA a_r r_manner r_above r_below r_nodes r_arcs r_left r_isBest u_3 u_4 u_5 u_6 r_ties r_z u_7 r_ones r_others r_weights r_there u_8 u_9 u_10 u_11 u_12 u_13 u_14 u_15 u_16 u_17 u_18) H := hP
          have hD : va_D A (wd_Mo_begins cA a_r r_manner r_above r_below r_nodes r_arcs r_left r_isBest u_3 u_4 u_5 u_6 r_ties r_z u_7 r_ones r_others r_weights r_there u_8 u_9 u_10 u_11 u_12 u_13 u_14 u_15 u_16 u_17 u_18) := hD
          have hl : lv_has ls 9 [(5, .long x5_48), (3, .long x3_48), (0, .ref (a_r 0)), (1, .int v1), (2, .int v2)] := hl
          refine cast (hG _ _ _ _ _ _ _).symm ?_
          refine lv_lload hx hb d_Mo_begins_48 (lv_at hl 0 rfl) ?_
          refine lv_lconst (v := 0) hx hb d_Mo_begins_50 (by decide) ?_
          refine W.lcmp hx hb d_Mo_begins_51 ?_
          refine lv_if_eq (tgt := 71) hx hb d_Mo_begins_52 (by decide) (fun c_29 => ?_) (fun c_29 => ?_)
          · have h := ifp (lc_eq.mp (c_29)) h
            exact cast (hG _ _ _ _ _ _ _) (hE_48 (x3_48, x5_48) h _ _ _ hP hD hS (lv_sub hl [0, 1, 2, 3, 4] rfl))
          · have h := ifn (fun q => (c_29) (lc_eq.mpr q)) h
            refine lv_lload_n hx hb d_Mo_begins_55 rfl (lv_at hl 1 rfl) ?_
            refine lv_lload hx hb d_Mo_begins_56 (lv_at hl 0 rfl) ?_
            obtain ⟨z_30, h⟩ := gd h
            refine lv_lrem hx hb d_Mo_begins_58 z_30 ?_
            refine lv_lstore (lv' := [(7, .long (x3_48 - x3_48 / x5_48 * x5_48)), (5, .long x5_48), (3, .long x3_48), (0, .ref (a_r 0)), (1, .int v1), (2, .int v2)]) hx hb d_Mo_begins_59 hl (by decide) rfl (fun ls hl => ?_)
            refine lv_lload hx hb d_Mo_begins_61 (lv_at hl 1 rfl) ?_
            refine lv_lstore_n (lv' := [(3, .long x5_48), (7, .long (x3_48 - x3_48 / x5_48 * x5_48)), (5, .long x5_48), (0, .ref (a_r 0)), (1, .int v1), (2, .int v2)]) hx hb d_Mo_begins_63 rfl hl (by decide) rfl (fun ls hl => ?_)
            refine lv_lload hx hb d_Mo_begins_64 (lv_at hl 1 rfl) ?_
            refine lv_lstore (lv' := [(5, .long (x3_48 - x3_48 / x5_48 * x5_48)), (3, .long x5_48), (7, .long (x3_48 - x3_48 / x5_48 * x5_48)), (0, .ref (a_r 0)), (1, .int v1), (2, .int v2)]) hx hb d_Mo_begins_66 hl (by decide) rfl (fun ls hl => ?_)
            refine lv_goto (tgt := 48) hx hb d_Mo_begins_68 (by decide) ?_
            exact cast (hG _ _ _ _ _ _ _) (hB_48 (x5_48, (x3_48 - x3_48 / x5_48 * x5_48)) h _ _ _ hP hD hS (lv_sub hl [0, 1, 3, 4, 5] rfl))
      · intro j33 hJ_33 h
        refine cast (hG _ _ _ _ _ _ _).symm ?_
        refine lv_if_eq (tgt := 33) hx hb d_Mo_begins_21 (by decide) (fun c_31 => ?_) (fun c_31 => ?_)
        · have h := ifp (c_31) h
          exact cast (hG _ _ _ _ _ _ _) (hJ_33 () h _ _ _ hP hD hS (lv_sub hl [0, 1, 2] rfl))
        · have h := ifn (c_31) h
          refine lv_iload_n hx hb d_Mo_begins_24 rfl (lv_at hl 2 rfl) ?_
          refine lv_iconst (v := 1) hx hb d_Mo_begins_25 (by decide) ?_
          refine lv_icmp_eq (tgt := 33) hx hb d_Mo_begins_26 (by decide) (fun c_32 => ?_) (fun c_32 => ?_)
          · have h := ifp (c_32) h
            exact cast (hG _ _ _ _ _ _ _) (hJ_33 () h _ _ _ hP hD hS (lv_sub hl [0, 1, 2] rfl))
          · have h := ifn (c_32) h
            refine lv_ldc2 (v := -2) hx hb hown (hal _ kw_936) d_Mo_begins_29 ?_
            exact W.lret (v := (-2 : Int64)) hx hb hr (fun t ht hW => ⟨⟨(-2 : Int64), (u_3, u_4, u_5, u_6, u_7, u_8, u_9, u_10, u_11, u_12, u_13, u_14, u_15, u_16, u_17, u_18), rfl, Option.some.inj h, by rw [ht]; exact hP, va_K.moved hW.alike hK, hD⟩, hS.F ht⟩) hS.2.2 d_Mo_begins_32
    · have h := ifn (c_22) h
      refine lv_ldc2 (v := -1) hx hb hown (hal _ kw_935) d_Mo_begins_16 ?_
      exact W.lret (v := (-1 : Int64)) hx hb hr (fun t ht hW => ⟨⟨(-1 : Int64), (u_3, u_4, u_5, u_6, u_7, u_8, u_9, u_10, u_11, u_12, u_13, u_14, u_15, u_16, u_17, u_18), rfl, Option.some.inj h, by rw [ht]; exact hP, va_K.moved hW.alike hK, hD⟩, hS.F ht⟩) hS.2.2 d_Mo_begins_19
def wd_Mo_plateau (cA : Nat → ClassId) (a_r : Nat → Nat) (r_manner : Int32) (r_above : Int32) (r_below : Int32) (r_nodes : Int32) (r_arcs : Int32) (r_left : Int32) (r_isBest : Int32) (r_arePlateaus : Int32) (r_all : Int64) (r_a : Int64) (r_b : Int64) (r_ties : Int32) (r_z : Int32) (r_plateaus : Int32) (r_ones : Nat → Int32) (r_others : Nat → Int32) (r_weights : Nat → Int32) (r_there : Nat → Int32) (r_hand : Nat → Int32) (r_between : Nat → Int32) (r_joins : Nat → Int32) (r_has : Nat → Int32) (r_sums : Nat → Int64) (r_sizes : Nat → Int64) (r_names : Nat → Int32) (r_walk : Nat → Int32) (r_found : Nat → Int32) (r_shown : Nat → Int32) (r_beginsAbove : Nat → Int64) (r_beginsBelow : Nat → Int64) (r_shownOf : Nat → Int64) : va_W := [(a_r 0, .inr (8, [.int r_manner, .int r_above, .int r_below, .int r_nodes, .int r_arcs, .int r_left, .ref (a_r 1), .ref (a_r 2), .ref (a_r 3), .ref (a_r 4), .ref (a_r 5), .int r_isBest, .int r_arePlateaus, .ref (a_r 6), .ref (a_r 7), .ref (a_r 8), .long r_all, .ref (a_r 9), .ref (a_r 10), .long r_a, .long r_b, .ref (a_r 11), .ref (a_r 12), .ref (a_r 13), .ref (a_r 14), .ref (a_r 15), .int r_ties, .ref (a_r 16), .ref (a_r 17), .ref (a_r 18), .int r_z, .int r_plateaus, .ref (a_r 19), .ref (a_r 20), .ref (a_r 21), .ref (a_r 22)])), (a_r 1, .inl (cA 0, 36, .inl r_ones)), (a_r 2, .inl (cA 0, 36, .inl r_others)), (a_r 3, .inl (cA 0, 36, .inl r_weights)), (a_r 4, .inl (cA 2, 36, .inl r_there)), (a_r 5, .inl (cA 0, 9, .inl r_hand)), (a_r 6, .inl (cA 0, 81, .inl r_between)), (a_r 7, .inl (cA 2, 81, .inl r_joins)), (a_r 8, .inl (cA 0, 9, .inl r_has)), (a_r 9, .inl (cA 1, 9, .inr (.inl r_sums))), (a_r 10, .inl (cA 1, 9, .inr (.inl r_sizes))), (a_r 11, .inl (cA 0, 9, .inl r_names)), (a_r 13, .inl (cA 0, 9, .inl r_walk)), (a_r 14, .inl (cA 0, 9, .inl r_found)), (a_r 19, .inl (cA 0, 9, .inl r_shown)), (a_r 20, .inl (cA 1, 1801, .inr (.inl r_beginsAbove))), (a_r 21, .inl (cA 1, 1801, .inr (.inl r_beginsBelow))), (a_r 22, .inl (cA 1, 1801, .inr (.inl r_shownOf)))]
noncomputable def s_Mo_plateau_20 (x1 : Int32) (r_nodes : Int32) (r_shownOf : Nat → Int64) (zz : Int32 × (Nat → Int32)) (back exit : (Int32 × (Nat → Int32)) → Option (Int32 × Int32 × Int64 × Int64 × Int64 × Int32 × (Nat → Int32) × (Nat → Int32) × (Nat → Int32) × (Nat → Int32) × (Nat → Int64) × (Nat → Int64) × (Nat → Int32) × (Nat → Int32) × (Nat → Int32) × (Nat → Int32) × (Nat → Int64) × (Nat → Int64) × (Nat → Int64))) : Option (Int32 × Int32 × Int64 × Int64 × Int64 × Int32 × (Nat → Int32) × (Nat → Int32) × (Nat → Int32) × (Nat → Int32) × (Nat → Int64) × (Nat → Int64) × (Nat → Int32) × (Nat → Int32) × (Nat → Int32) × (Nat → Int32) × (Nat → Int64) × (Nat → Int64) × (Nat → Int64)) :=
  (if r_nodes ≤ zz.1 then (exit (zz.1, zz.2)) else (if inb x1 1801 then (if inb zz.1 9 then (back ((zz.1 + 1), (upd zz.2 zz.1.toNatClampNeg (((r_shownOf x1.toNatClampNeg) >>> (((4 : Int32) * zz.1).toInt64 &&& 63)).toInt32 &&& (15 : Int32))))) else none) else none))
noncomputable def m_Mo_plateau (r_manner : Int32) (r_nodes : Int32) (r_arcs : Int32) (r_arePlateaus : Int32) (r_all : Int64) (r_a : Int64) (r_b : Int64) (r_plateaus : Int32) (r_ones : Nat → Int32) (r_others : Nat → Int32) (r_weights : Nat → Int32) (r_there : Nat → Int32) (r_hand : Nat → Int32) (r_between : Nat → Int32) (r_joins : Nat → Int32) (r_has : Nat → Int32) (r_sums : Nat → Int64) (r_sizes : Nat → Int64) (r_names : Nat → Int32) (r_walk : Nat → Int32) (r_found : Nat → Int32) (r_shown : Nat → Int32) (r_beginsAbove : Nat → Int64) (r_beginsBelow : Nat → Int64) (r_shownOf : Nat → Int64) (v1 : Int32) : Option (Int32 × Int32 × Int64 × Int64 × Int64 × Int32 × (Nat → Int32) × (Nat → Int32) × (Nat → Int32) × (Nat → Int32) × (Nat → Int64) × (Nat → Int64) × (Nat → Int32) × (Nat → Int32) × (Nat → Int32) × (Nat → Int32) × (Nat → Int64) × (Nat → Int64) × (Nat → Int64)) :=
  ((m_Mo_findPlateaus r_manner r_nodes r_arcs r_arePlateaus r_all r_a r_b r_plateaus r_ones r_others r_weights r_there r_between r_joins r_has r_sums r_sizes r_walk r_found r_shown r_beginsAbove r_beginsBelow r_shownOf).bind (fun r1 : Int32 × Int64 × Int64 × Int64 × Int32 × (Nat → Int32) × (Nat → Int32) × (Nat → Int32) × (Nat → Int64) × (Nat → Int64) × (Nat → Int32) × (Nat → Int32) × (Nat → Int32) × (Nat → Int64) × (Nat → Int64) × (Nat → Int64) => (if v1 < 0 then some ((-1 : Int32), r1.1, r1.2.1, r1.2.2.1, r1.2.2.2.1, r1.2.2.2.2.1, r_hand, r1.2.2.2.2.2.1, r1.2.2.2.2.2.2.1, r1.2.2.2.2.2.2.2.1, r1.2.2.2.2.2.2.2.2.1, r1.2.2.2.2.2.2.2.2.2.1, r_names, r1.2.2.2.2.2.2.2.2.2.2.1, r1.2.2.2.2.2.2.2.2.2.2.2.1, r1.2.2.2.2.2.2.2.2.2.2.2.2.1, r1.2.2.2.2.2.2.2.2.2.2.2.2.2.1, r1.2.2.2.2.2.2.2.2.2.2.2.2.2.2.1, r1.2.2.2.2.2.2.2.2.2.2.2.2.2.2.2) else (if v1 < r1.2.2.2.2.1 then (loopC (s_Mo_plateau_20 v1 r_nodes r1.2.2.2.2.2.2.2.2.2.2.2.2.2.2.2) (fun z20 : Int32 × (Nat → Int32) => ((m_Mo_number r_nodes r_names z20.2).bind (fun r59 : Int32 × (Nat → Int32) × (Nat → Int32) => some (r59.1, r1.1, r1.2.1, r1.2.2.1, r1.2.2.2.1, r1.2.2.2.2.1, r59.2.2, r1.2.2.2.2.2.1, r1.2.2.2.2.2.2.1, r1.2.2.2.2.2.2.2.1, r1.2.2.2.2.2.2.2.2.1, r1.2.2.2.2.2.2.2.2.2.1, r59.2.1, r1.2.2.2.2.2.2.2.2.2.2.1, r1.2.2.2.2.2.2.2.2.2.2.2.1, r1.2.2.2.2.2.2.2.2.2.2.2.2.1, r1.2.2.2.2.2.2.2.2.2.2.2.2.2.1, r1.2.2.2.2.2.2.2.2.2.2.2.2.2.2.1, r1.2.2.2.2.2.2.2.2.2.2.2.2.2.2.2)))) FU ((0 : Int32), r_hand)) else some ((-1 : Int32), r1.1, r1.2.1, r1.2.2.1, r1.2.2.2.1, r1.2.2.2.2.1, r_hand, r1.2.2.2.2.2.1, r1.2.2.2.2.2.2.1, r1.2.2.2.2.2.2.2.1, r1.2.2.2.2.2.2.2.2.1, r1.2.2.2.2.2.2.2.2.2.1, r_names, r1.2.2.2.2.2.2.2.2.2.2.1, r1.2.2.2.2.2.2.2.2.2.2.2.1, r1.2.2.2.2.2.2.2.2.2.2.2.2.1, r1.2.2.2.2.2.2.2.2.2.2.2.2.2.1, r1.2.2.2.2.2.2.2.2.2.2.2.2.2.2.1, r1.2.2.2.2.2.2.2.2.2.2.2.2.2.2.2)))))
set_option maxHeartbeats 4000000 in
set_option maxRecDepth 100000 in
theorem c_Mo_plateau (l : Launch) (D : va_G) (cA : Nat → ClassId) (a_r : Nat → Nat) (sz : Nat) (r_manner : Int32) (r_above : Int32) (r_below : Int32) (r_nodes : Int32) (r_arcs : Int32) (r_left : Int32) (r_isBest : Int32) (r_arePlateaus : Int32) (r_all : Int64) (r_a : Int64) (r_b : Int64) (r_ties : Int32) (r_z : Int32) (r_plateaus : Int32) (r_ones : Nat → Int32) (r_others : Nat → Int32) (r_weights : Nat → Int32) (r_there : Nat → Int32) (r_hand : Nat → Int32) (r_between : Nat → Int32) (r_joins : Nat → Int32) (r_has : Nat → Int32) (r_sums : Nat → Int64) (r_sizes : Nat → Int64) (r_names : Nat → Int32) (r_walk : Nat → Int32) (r_found : Nat → Int32) (r_shown : Nat → Int32) (r_beginsAbove : Nat → Int64) (r_beginsBelow : Nat → Int64) (r_shownOf : Nat → Int64) (v1 : Int32) (out : Int32 × Int32 × Int64 × Int64 × Int64 × Int32 × (Nat → Int32) × (Nat → Int32) × (Nat → Int32) × (Nat → Int32) × (Nat → Int64) × (Nat → Int64) × (Nat → Int32) × (Nat → Int32) × (Nat → Int32) × (Nat → Int32) × (Nat → Int64) × (Nat → Int64) × (Nat → Int64)) (h : m_Mo_plateau r_manner r_nodes r_arcs r_arePlateaus r_all r_a r_b r_plateaus r_ones r_others r_weights r_there r_hand r_between r_joins r_has r_sums r_sizes r_names r_walk r_found r_shown r_beginsAbove r_beginsBelow r_shownOf v1 = some out) : Met l y_Mo_plateau w_Mo_plateau ({ frames := 3, cells := 0, slots := 0, locals := 82 }) (va_Pc [.ref (a_r 0), .int v1] (fun U => U.heap.size = sz ∧ va_P D cls9 (wd_Mo_plateau cA a_r r_manner r_above r_below r_nodes r_arcs r_left r_isBest r_arePlateaus r_all r_a r_b r_ties r_z r_plateaus r_ones r_others r_weights r_there r_hand r_between r_joins r_has r_sums r_sizes r_names r_walk r_found r_shown r_beginsAbove r_beginsBelow r_shownOf) U.heap ∧ va_K D cls9 (tys5 cA) U ∧ va_D (fun _ => True) (wd_Mo_plateau cA a_r r_manner r_above r_below r_nodes r_arcs r_left r_isBest r_arePlateaus r_all r_a r_b r_ties r_z r_plateaus r_ones r_others r_weights r_there r_hand r_between r_joins r_has r_sums r_sizes r_names r_walk r_found r_shown r_beginsAbove r_beginsBelow r_shownOf))) (va_Qi (fun (rr : Int32) (uu : Int32 × Int64 × Int64 × Int64 × Int32 × (Nat → Int32) × (Nat → Int32) × (Nat → Int32) × (Nat → Int32) × (Nat → Int64) × (Nat → Int64) × (Nat → Int32) × (Nat → Int32) × (Nat → Int32) × (Nat → Int32) × (Nat → Int64) × (Nat → Int64) × (Nat → Int64)) => (rr, uu) = out) (fun (uu : Int32 × Int64 × Int64 × Int64 × Int32 × (Nat → Int32) × (Nat → Int32) × (Nat → Int32) × (Nat → Int32) × (Nat → Int64) × (Nat → Int64) × (Nat → Int32) × (Nat → Int32) × (Nat → Int32) × (Nat → Int32) × (Nat → Int64) × (Nat → Int64) × (Nat → Int64)) (t : State) => va_P D cls9 (wd_Mo_plateau cA a_r r_manner r_above r_below r_nodes r_arcs r_left r_isBest uu.1 uu.2.1 uu.2.2.1 uu.2.2.2.1 r_ties r_z uu.2.2.2.2.1 r_ones r_others r_weights r_there uu.2.2.2.2.2.1 uu.2.2.2.2.2.2.1 uu.2.2.2.2.2.2.2.1 uu.2.2.2.2.2.2.2.2.1 uu.2.2.2.2.2.2.2.2.2.1 uu.2.2.2.2.2.2.2.2.2.2.1 uu.2.2.2.2.2.2.2.2.2.2.2.1 uu.2.2.2.2.2.2.2.2.2.2.2.2.1 uu.2.2.2.2.2.2.2.2.2.2.2.2.2.1 uu.2.2.2.2.2.2.2.2.2.2.2.2.2.2.1 uu.2.2.2.2.2.2.2.2.2.2.2.2.2.2.2.1 uu.2.2.2.2.2.2.2.2.2.2.2.2.2.2.2.2.1 uu.2.2.2.2.2.2.2.2.2.2.2.2.2.2.2.2.2) t.heap ∧ va_K D cls9 (tys5 cA) t ∧ va_D (va_A (wd_Mo_plateau cA a_r r_manner r_above r_below r_nodes r_arcs r_left r_isBest r_arePlateaus r_all r_a r_b r_ties r_z r_plateaus r_ones r_others r_weights r_there r_hand r_between r_joins r_has r_sums r_sizes r_names r_walk r_found r_shown r_beginsAbove r_beginsBelow r_shownOf) sz) (wd_Mo_plateau cA a_r r_manner r_above r_below r_nodes r_arcs r_left r_isBest uu.1 uu.2.1 uu.2.2.1 uu.2.2.2.1 r_ties r_z uu.2.2.2.2.1 r_ones r_others r_weights r_there uu.2.2.2.2.2.1 uu.2.2.2.2.2.2.1 uu.2.2.2.2.2.2.2.1 uu.2.2.2.2.2.2.2.2.1 uu.2.2.2.2.2.2.2.2.2.1 uu.2.2.2.2.2.2.2.2.2.2.1 uu.2.2.2.2.2.2.2.2.2.2.2.1 uu.2.2.2.2.2.2.2.2.2.2.2.2.1 uu.2.2.2.2.2.2.2.2.2.2.2.2.2.1 uu.2.2.2.2.2.2.2.2.2.2.2.2.2.2.1 uu.2.2.2.2.2.2.2.2.2.2.2.2.2.2.2.1 uu.2.2.2.2.2.2.2.2.2.2.2.2.2.2.2.2.1 uu.2.2.2.2.2.2.2.2.2.2.2.2.2.2.2.2.2)) (va_A (wd_Mo_plateau cA a_r r_manner r_above r_below r_nodes r_arcs r_left r_isBest r_arePlateaus r_all r_a r_b r_ties r_z r_plateaus r_ones r_others r_weights r_there r_hand r_between r_joins r_has r_sums r_sizes r_names r_walk r_found r_shown r_beginsAbove r_beginsBelow r_shownOf) sz)) 0 0 (va_A (wd_Mo_plateau cA a_r r_manner r_above r_below r_nodes r_arcs r_left r_isBest r_arePlateaus r_all r_a r_b r_ties r_z r_plateaus r_ones r_others r_weights r_there r_hand r_between r_joins r_has r_sums r_sizes r_names r_walk r_found r_shown r_beginsAbove r_beginsBelow r_shownOf) sz) := by
  refine Met.ofW (cc := b_Mo_plateau) (maxL := 3) (ret := (Option.some Jvm.ClassFile.FieldType.int)) (by decide) rfl ?_
  intro p e s m args below meth c s₁ B hml hv
  obtain ⟨rfl, hsz, hP, hK, hD0⟩ := hv
  have hx := B.exec
  have hb := B.bytes
  have hr := B.returns
  have hts := atoms_spec (ws := w_Mo_plateau) B.pre
  have hal : ∀ w ∈ ALLW, w.before _ s = true := fun w hw => hts w (List.mem_cons_of_mem _ hw)
  have hown : s.vm.findClass R_Mo = some m.cls := findClass_of_methodNamed B.named
  have hlocks := B.notSynchronized
  subst hsz
  have hD := hD0.self (sz := s.heap.size)
  generalize hAe : va_A (wd_Mo_plateau cA a_r r_manner r_above r_below r_nodes r_arcs r_left r_isBest r_arePlateaus r_all r_a r_b r_ties r_z r_plateaus r_ones r_others r_weights r_there r_hand r_between r_joins r_has r_sums r_sizes r_names r_walk r_found r_shown r_beginsAbove r_beginsBelow r_shownOf) s.heap.size = A at hD ⊢
  have hA : ∀ q : Nat, s.heap.size ≤ q → A q := fun q h => by rw [← hAe]; exact Or.inr h
  have hS : va_S A s.heap s.heap [] := va_S.rf
  have hl := lv_entry ([.ref (a_r 0), .int v1]) (n := 3) (Nat.le_of_ble_eq_true rfl)
  rw [lg_entry_eq]
  generalize (lg_sl ([.ref (a_r 0), .int v1]) ++ List.replicate (3 - (lg_sl ([.ref (a_r 0), .int v1])).length) Slot.unset).toArray = ls at hl ⊢
  have hl : lv_has ls 3 [(0, .ref (a_r 0)), (1, .int v1)] := hl
  refine wg (fun G hG => ?_)
  refine cast (hG _ _ _ _ _ _ _).symm ?_
  obtain ⟨H, locs, hHl, hS⟩ : ∃ (H : Heap) (locs : List Loc), (H = s.heap ∧ locs = []) ∧ va_S A s.heap H locs := ⟨s.heap, [], ⟨rfl, rfl⟩, hS⟩
  have hP : va_P D cls9 (wd_Mo_plateau cA a_r r_manner r_above r_below r_nodes r_arcs r_left r_isBest r_arePlateaus r_all r_a r_b r_ties r_z r_plateaus r_ones r_others r_weights r_there r_hand r_between r_joins r_has r_sums r_sizes r_names r_walk r_found r_shown r_beginsAbove r_beginsBelow r_shownOf) H := by rw [hHl.1]; exact hP
  rw [← hHl.1, ← hHl.2]
  clear hHl
  refine lv_aload_n hx hb d_Mo_plateau_0 rfl (lv_at hl 0 rfl) ?_
  obtain ⟨o_20, hc_19, h⟩ := bd h
  have hPc := hP.sub (ws' := (wd_Mo_findPlateaus cA a_r r_manner r_above r_below r_nodes r_arcs r_left r_isBest r_arePlateaus r_all r_a r_b r_ties r_z r_plateaus r_ones r_others r_weights r_there r_between r_joins r_has r_sums r_sizes r_walk r_found r_shown r_beginsAbove r_beginsBelow r_shownOf)) [0, 1, 2, 3, 4, 6, 7, 8, 9, 10, 12, 13, 14, 15, 16, 17] rfl
  have hDc := hD.sub (ws' := (wd_Mo_findPlateaus cA a_r r_manner r_above r_below r_nodes r_arcs r_left r_isBest r_arePlateaus r_all r_a r_b r_ties r_z r_plateaus r_ones r_others r_weights r_there r_between r_joins r_has r_sums r_sizes r_walk r_found r_shown r_beginsAbove r_beginsBelow r_shownOf)) [0, 1, 2, 3, 4, 6, 7, 8, 9, 10, 12, 13, 14, 15, 16, 17] (by decide) rfl
  have hFc := va_free (wc := (wd_Mo_findPlateaus cA a_r r_manner r_above r_below r_nodes r_arcs r_left r_isBest r_arePlateaus r_all r_a r_b r_ties r_z r_plateaus r_ones r_others r_weights r_there r_between r_joins r_has r_sums r_sizes r_walk r_found r_shown r_beginsAbove r_beginsBelow r_shownOf)) hD hS hA [0, 1, 2, 3, 4, 6, 7, 8, 9, 10, 12, 13, 14, 15, 16, 17] rfl
  refine va_callv (va_runV (C := R_Mo) (As := []) (rest := []) ⟨hx, hb, hml, hown, hal⟩ (c_Mo_findPlateaus l D cA a_r H.size r_manner r_above r_below r_nodes r_arcs r_left r_isBest r_arePlateaus r_all r_a r_b r_ties r_z r_plateaus r_ones r_others r_weights r_there r_between r_joins r_has r_sums r_sizes r_walk r_found r_shown r_beginsAbove r_beginsBelow r_shownOf o_20 hc_19) (cwV 0 hal (goodV kw_923 kw_925 kw_p47 kw_9 kw_926) rfl rfl rfl (by decide +kernel) ⟨Nat.le_of_ble_eq_true rfl, Nat.le_of_ble_eq_true rfl⟩) ⟨fun a U g mk q => by obtain ⟨q0, q1, qP, qK, qD⟩ := q; exact ⟨q0, q1, qP, va_K.moved (u := U) (U := U.calling g mk a) (Vm.Alike.refl U.vm) qK, qD⟩, va_recv hK hP (ci := 8) (q0 := 0) rfl rfl, fun U hU hW => ⟨rfl, by rw [hU], by rw [hU]; exact hPc, va_K.moved hW.alike hK, hDc.weaken (fun _ _ _ _ => trivial)⟩⟩ rfl rfl hl.1 rfl (lv_room (Nat.le_of_ble_eq_true rfl)) d_Mo_plateau_1 ⟨Nat.le_of_ble_eq_true rfl, Nat.le_of_ble_eq_true rfl⟩) hS (fun q _ h => hFc q h) hFc (fun u t H1 locs ht hvm hw hB hz1 hk1 hS => ?_)
  obtain ⟨u_3, u_4, u_5, u_6, u_7, u_8, u_9, u_10, u_11, u_12, u_13, u_14, u_15, u_16, u_17, u_18⟩ := u
  subst hw
  obtain ⟨hP1, hK1, hD1⟩ := hB
  rw [ht] at hP1
  have hP1 : va_P D cls9 (wd_Mo_findPlateaus cA a_r r_manner r_above r_below r_nodes r_arcs r_left r_isBest u_3 u_4 u_5 u_6 r_ties r_z u_7 r_ones r_others r_weights r_there u_8 u_9 u_10 u_11 u_12 u_13 u_14 u_15 u_16 u_17 u_18) H1 := hP1
  obtain ⟨hP, hD⟩ := va_join (wr := ([5, 11] : List Nat).filterMap (fun i => (wd_Mo_plateau cA a_r r_manner r_above r_below r_nodes r_arcs r_left r_isBest r_arePlateaus r_all r_a r_b r_ties r_z r_plateaus r_ones r_others r_weights r_there r_hand r_between r_joins r_has r_sums r_sizes r_names r_walk r_found r_shown r_beginsAbove r_beginsBelow r_shownOf)[i]?)) (w1 := (wd_Mo_findPlateaus cA a_r r_manner r_above r_below r_nodes r_arcs r_left r_isBest u_3 u_4 u_5 u_6 r_ties r_z u_7 r_ones r_others r_weights r_there u_8 u_9 u_10 u_11 u_12 u_13 u_14 u_15 u_16 u_17 u_18)) hP hD [0, 1, 2, 3, 4, 6, 7, 8, 9, 10, 12, 13, 14, 15, 16, 17] [5, 11] rfl rfl (by decide) (by decide) hk1 hFc hP1 hD1
  generalize H1 = H at hP hS ⊢
  have hP : va_P D cls9 (wd_Mo_plateau cA a_r r_manner r_above r_below r_nodes r_arcs r_left r_isBest u_3 u_4 u_5 u_6 r_ties r_z u_7 r_ones r_others r_weights r_there r_hand u_8 u_9 u_10 u_11 u_12 r_names u_13 u_14 u_15 u_16 u_17 u_18) H := hP.sub [2, 3, 4, 5, 6, 0, 7, 8, 9, 10, 11, 1, 12, 13, 14, 15, 16, 17] rfl
  have hD : va_D A (wd_Mo_plateau cA a_r r_manner r_above r_below r_nodes r_arcs r_left r_isBest u_3 u_4 u_5 u_6 r_ties r_z u_7 r_ones r_others r_weights r_there r_hand u_8 u_9 u_10 u_11 u_12 r_names u_13 u_14 u_15 u_16 u_17 u_18) := hD.sub [2, 3, 4, 5, 6, 0, 7, 8, 9, 10, 11, 1, 12, 13, 14, 15, 16, 17] (by decide) rfl
  refine lv_iload_n hx hb d_Mo_plateau_4 rfl (lv_at hl 1 rfl) ?_
  refine lv_if_lt (tgt := 16) hx hb d_Mo_plateau_5 (by decide) (fun c_21 => ?_) (fun c_21 => ?_)
  · have h := ifp (c_21) h
    refine lv_iconst (v := (-1)) hx hb d_Mo_plateau_16 (by decide) ?_
    exact W.iret (v := (-1 : Int32)) hx hb hr (fun t ht hW => ⟨⟨(-1 : Int32), (u_3, u_4, u_5, u_6, u_7, r_hand, u_8, u_9, u_10, u_11, u_12, r_names, u_13, u_14, u_15, u_16, u_17, u_18), rfl, Option.some.inj h, by rw [ht]; exact hP, va_K.moved hW.alike hK, hD⟩, hS.F ht⟩) hS.2.2 d_Mo_plateau_17
  · have h := ifn (c_21) h
    refine lv_iload_n hx hb d_Mo_plateau_8 rfl (lv_at hl 1 rfl) ?_
    refine lv_aload_n hx hb d_Mo_plateau_9 rfl (lv_at hl 0 rfl) ?_
    refine va_get (ci := 8) (v := .int u_7) (C := R_Mo) (T := F_Mo) (N := 36) hx hb hal in_Mo hown hK hP 0 rfl rfl 31 (by decide) (hal _ kw_668) (fun _ h9 => h9) rfl d_Mo_plateau_10 ?_
    refine lv_icmp_lt (tgt := 18) hx hb d_Mo_plateau_13 (by decide) (fun c_22 => ?_) (fun c_22 => ?_)
    · have h := ifp (c_22) h
      refine lv_iconst (v := 0) hx hb d_Mo_plateau_18 (by decide) ?_
      refine lv_istore_n (lv' := [(2, .int (0 : Int32)), (0, .ref (a_r 0)), (1, .int v1)]) hx hb d_Mo_plateau_19 rfl hl (by decide) rfl (fun ls hl => ?_)
      refine cast (hG _ _ _ _ _ _ _) (lp_go2 h (fun zz : Int32 × (Nat → Int32) => ∀ (H : Heap) (locs : List Loc) (ls : Array Slot), va_P D cls9 (wd_Mo_plateau cA a_r r_manner r_above r_below r_nodes r_arcs r_left r_isBest u_3 u_4 u_5 u_6 r_ties r_z u_7 r_ones r_others r_weights r_there zz.2 u_8 u_9 u_10 u_11 u_12 r_names u_13 u_14 u_15 u_16 u_17 u_18) H → va_D A (wd_Mo_plateau cA a_r r_manner r_above r_below r_nodes r_arcs r_left r_isBest u_3 u_4 u_5 u_6 r_ties r_z u_7 r_ones r_others r_weights r_there zz.2 u_8 u_9 u_10 u_11 u_12 r_names u_13 u_14 u_15 u_16 u_17 u_18) → va_S A s.heap H locs → lv_has ls 3 [(2, .int zz.1), (0, .ref (a_r 0)), (1, .int v1)] → G H locs 0 0 ls 54 []) ?_ (fun zz : Int32 × (Nat → Int32) => ∀ (H : Heap) (locs : List Loc) (ls : Array Slot), va_P D cls9 (wd_Mo_plateau cA a_r r_manner r_above r_below r_nodes r_arcs r_left r_isBest u_3 u_4 u_5 u_6 r_ties r_z u_7 r_ones r_others r_weights r_there zz.2 u_8 u_9 u_10 u_11 u_12 r_names u_13 u_14 u_15 u_16 u_17 u_18) H → va_D A (wd_Mo_plateau cA a_r r_manner r_above r_below r_nodes r_arcs r_left r_isBest u_3 u_4 u_5 u_6 r_ties r_z u_7 r_ones r_others r_weights r_there zz.2 u_8 u_9 u_10 u_11 u_12 r_names u_13 u_14 u_15 u_16 u_17 u_18) → va_S A s.heap H locs → lv_has ls 3 [(2, .int zz.1), (0, .ref (a_r 0)), (1, .int v1)] → G H locs 0 0 ls 20 []) ?_ _ _ ls hP hD hS (lv_sub hl [0, 1, 2] rfl))
      · intro zz h H locs ls hP hD hS hl
        obtain ⟨x2_20e, r_hand_20e⟩ := zz
        have hP : va_P D cls9 (wd_Mo_plateau cA a_r r_manner r_above r_below r_nodes r_arcs r_left r_isBest u_3 u_4 u_5 u_6 r_ties r_z u_7 r_ones r_others r_weights r_there r_hand_20e u_8 u_9 u_10 u_11 u_12 r_names u_13 u_14 u_15 u_16 u_17 u_18) H := hP
        have hD : va_D A (wd_Mo_plateau cA a_r r_manner r_above r_below r_nodes r_arcs r_left r_isBest u_3 u_4 u_5 u_6 r_ties r_z u_7 r_ones r_others r_weights r_there r_hand_20e u_8 u_9 u_10 u_11 u_12 r_names u_13 u_14 u_15 u_16 u_17 u_18) := hD
        have hl : lv_has ls 3 [(2, .int x2_20e), (0, .ref (a_r 0)), (1, .int v1)] := hl
        refine cast (hG _ _ _ _ _ _ _).symm ?_
        refine lv_aload_n hx hb d_Mo_plateau_54 rfl (lv_at hl 1 rfl) ?_
        refine lv_aload_n hx hb d_Mo_plateau_55 rfl (lv_at hl 1 rfl) ?_
        refine va_get (ci := 8) (v := .ref (a_r 5)) (C := R_Mo) (T := F_Mo) (N := 36) hx hb hal in_Mo hown hK hP 0 rfl rfl 10 (by decide) (hal _ kw_647) (fun _ h9 => h9) rfl d_Mo_plateau_56 ?_
        obtain ⟨o_28, hc_27, h⟩ := bd h
        have hPc := hP.sub (ws' := (wd_Mo_number cA a_r (fun _ => a_r 5) r_manner r_above r_below r_nodes r_arcs r_left r_isBest u_3 u_4 u_5 u_6 r_ties r_z u_7 r_names r_hand_20e)) [0, 11, 5] rfl
        have hDc := hD.sub (ws' := (wd_Mo_number cA a_r (fun _ => a_r 5) r_manner r_above r_below r_nodes r_arcs r_left r_isBest u_3 u_4 u_5 u_6 r_ties r_z u_7 r_names r_hand_20e)) [0, 11, 5] (by decide) rfl
        have hFc := va_free (wc := (wd_Mo_number cA a_r (fun _ => a_r 5) r_manner r_above r_below r_nodes r_arcs r_left r_isBest u_3 u_4 u_5 u_6 r_ties r_z u_7 r_names r_hand_20e)) hD hS hA [0, 11, 5] rfl
        refine va_calli (va_runV (C := R_Mo) (As := [.ref (a_r 5)]) (rest := []) ⟨hx, hb, hml, hown, hal⟩ (c_Mo_number l D cA a_r (fun _ => a_r 5) H.size r_manner r_above r_below r_nodes r_arcs r_left r_isBest u_3 u_4 u_5 u_6 r_ties r_z u_7 r_names r_hand_20e o_28 hc_27) (cwV 1 hal (goodV kw_791 kw_793 kw_p29 kw_9 kw_794) rfl rfl rfl (by decide +kernel) ⟨Nat.le_of_ble_eq_true rfl, Nat.le_of_ble_eq_true rfl⟩) ⟨fun a U g mk q => by obtain ⟨q0, q1, qP, qK, qD⟩ := q; exact ⟨q0, q1, qP, va_K.moved (u := U) (U := U.calling g mk a) (Vm.Alike.refl U.vm) qK, qD⟩, va_recv hK hP (ci := 8) (q0 := 0) rfl rfl, fun U hU hW => ⟨rfl, by rw [hU], by rw [hU]; exact hPc, va_K.moved hW.alike hK, hDc.weaken (fun _ _ _ _ => trivial)⟩⟩ rfl rfl hl.1 rfl (lv_room (Nat.le_of_ble_eq_true rfl)) d_Mo_plateau_59 ⟨Nat.le_of_ble_eq_true rfl, Nat.le_of_ble_eq_true rfl⟩) hS (fun q _ h => hFc q h) hFc (fun r_24 u t H1 locs ht hvm hw hB hz1 hk1 hS => ?_)
        obtain ⟨u_25, u_26⟩ := u
        subst hw
        obtain ⟨hP1, hK1, hD1⟩ := hB
        rw [ht] at hP1
        have hP1 : va_P D cls9 (wd_Mo_number cA a_r (fun _ => a_r 5) r_manner r_above r_below r_nodes r_arcs r_left r_isBest u_3 u_4 u_5 u_6 r_ties r_z u_7 u_25 u_26) H1 := hP1
        obtain ⟨hP, hD⟩ := va_join (wr := ([1, 2, 3, 4, 6, 7, 8, 9, 10, 12, 13, 14, 15, 16, 17] : List Nat).filterMap (fun i => (wd_Mo_plateau cA a_r r_manner r_above r_below r_nodes r_arcs r_left r_isBest u_3 u_4 u_5 u_6 r_ties r_z u_7 r_ones r_others r_weights r_there r_hand_20e u_8 u_9 u_10 u_11 u_12 r_names u_13 u_14 u_15 u_16 u_17 u_18)[i]?)) (w1 := (wd_Mo_number cA a_r (fun _ => a_r 5) r_manner r_above r_below r_nodes r_arcs r_left r_isBest u_3 u_4 u_5 u_6 r_ties r_z u_7 u_25 u_26)) hP hD [0, 11, 5] [1, 2, 3, 4, 6, 7, 8, 9, 10, 12, 13, 14, 15, 16, 17] rfl rfl (by decide) (by decide) hk1 hFc hP1 hD1
        generalize H1 = H at hP hS ⊢
        have hP : va_P D cls9 (wd_Mo_plateau cA a_r r_manner r_above r_below r_nodes r_arcs r_left r_isBest u_3 u_4 u_5 u_6 r_ties r_z u_7 r_ones r_others r_weights r_there u_26 u_8 u_9 u_10 u_11 u_12 u_25 u_13 u_14 u_15 u_16 u_17 u_18) H := hP.sub [15, 0, 1, 2, 3, 17, 4, 5, 6, 7, 8, 16, 9, 10, 11, 12, 13, 14] rfl
        have hD : va_D A (wd_Mo_plateau cA a_r r_manner r_above r_below r_nodes r_arcs r_left r_isBest u_3 u_4 u_5 u_6 r_ties r_z u_7 r_ones r_others r_weights r_there u_26 u_8 u_9 u_10 u_11 u_12 u_25 u_13 u_14 u_15 u_16 u_17 u_18) := hD.sub [15, 0, 1, 2, 3, 17, 4, 5, 6, 7, 8, 16, 9, 10, 11, 12, 13, 14] (by decide) rfl
        exact W.iret (v := r_24) hx hb hr (fun t ht hW => ⟨⟨r_24, (u_3, u_4, u_5, u_6, u_7, u_26, u_8, u_9, u_10, u_11, u_12, u_25, u_13, u_14, u_15, u_16, u_17, u_18), rfl, Option.some.inj h, by rw [ht]; exact hP, va_K.moved hW.alike hK, hD⟩, hS.F ht⟩) hS.2.2 d_Mo_plateau_62
      · intro back exit zz hB_20 hE_20 h H locs ls hP hD hS hl
        obtain ⟨x2_20, r_hand_20⟩ := zz
        have hP : va_P D cls9 (wd_Mo_plateau cA a_r r_manner r_above r_below r_nodes r_arcs r_left r_isBest u_3 u_4 u_5 u_6 r_ties r_z u_7 r_ones r_others r_weights r_there r_hand_20 u_8 u_9 u_10 u_11 u_12 r_names u_13 u_14 u_15 u_16 u_17 u_18) H := hP
        have hD : va_D A (wd_Mo_plateau cA a_r r_manner r_above r_below r_nodes r_arcs r_left r_isBest u_3 u_4 u_5 u_6 r_ties r_z u_7 r_ones r_others r_weights r_there r_hand_20 u_8 u_9 u_10 u_11 u_12 r_names u_13 u_14 u_15 u_16 u_17 u_18) := hD
        have hl : lv_has ls 3 [(2, .int x2_20), (0, .ref (a_r 0)), (1, .int v1)] := hl
        refine cast (hG _ _ _ _ _ _ _).symm ?_
        refine lv_iload_n hx hb d_Mo_plateau_20 rfl (lv_at hl 0 rfl) ?_
        refine lv_aload_n hx hb d_Mo_plateau_21 rfl (lv_at hl 1 rfl) ?_
        refine va_get (ci := 8) (v := .int r_nodes) (C := R_Mo) (T := F_Mo) (N := 36) hx hb hal in_Mo hown hK hP 0 rfl rfl 3 (by decide) (hal _ kw_640) (fun _ h9 => h9) rfl d_Mo_plateau_22 ?_
        refine lv_icmp_ge (tgt := 54) hx hb d_Mo_plateau_25 (by decide) (fun c_29 => ?_) (fun c_29 => ?_)
        · have h := ifp (c_29) h
          exact cast (hG _ _ _ _ _ _ _) (hE_20 (x2_20, r_hand_20) h _ _ _ hP hD hS (lv_sub hl [0, 1, 2] rfl))
        · have h := ifn (c_29) h
          refine lv_aload_n hx hb d_Mo_plateau_28 rfl (lv_at hl 1 rfl) ?_
          refine va_get (ci := 8) (v := .ref (a_r 5)) (C := R_Mo) (T := F_Mo) (N := 36) hx hb hal in_Mo hown hK hP 0 rfl rfl 10 (by decide) (hal _ kw_647) (fun _ h9 => h9) rfl d_Mo_plateau_29 ?_
          refine lv_iload_n hx hb d_Mo_plateau_32 rfl (lv_at hl 0 rfl) ?_
          refine lv_aload_n hx hb d_Mo_plateau_33 rfl (lv_at hl 1 rfl) ?_
          refine va_get (ci := 8) (v := .ref (a_r 22)) (C := R_Mo) (T := F_Mo) (N := 36) hx hb hal in_Mo hown hK hP 0 rfl rfl 35 (by decide) (hal _ kw_672) (fun _ h9 => h9) rfl d_Mo_plateau_34 ?_
          refine lv_iload_n hx hb d_Mo_plateau_37 rfl (lv_at hl 2 rfl) ?_
          obtain ⟨g_30, h⟩ := gd h
          refine va_lald hx hb hK hP 17 1 rfl rfl (inb_in g_30) d_Mo_plateau_38 ?_
          refine lv_iconst (v := 4) hx hb d_Mo_plateau_39 (by decide) ?_
          refine lv_iload_n hx hb d_Mo_plateau_40 rfl (lv_at hl 0 rfl) ?_
          refine lv_imul hx hb d_Mo_plateau_41 ?_
          refine lv_lshr hx hb d_Mo_plateau_42 rfl ?_
          refine lv_l2i hx hb d_Mo_plateau_43 rfl ?_
          refine lv_bipush (v := 15) hx hb d_Mo_plateau_44 (by decide) ?_
          refine lv_iand hx hb d_Mo_plateau_46 ?_
          obtain ⟨g_31, h⟩ := gd h
          refine va_iast hx hb hK hP hD hS 5 0 rfl rfl (inb_in g_31) d_Mo_plateau_47 (fun H locs hP hD hS => ?_)
          have hP : va_P D cls9 (wd_Mo_plateau cA a_r r_manner r_above r_below r_nodes r_arcs r_left r_isBest u_3 u_4 u_5 u_6 r_ties r_z u_7 r_ones r_others r_weights r_there (upd r_hand_20 x2_20.toNatClampNeg (((u_18 v1.toNatClampNeg) >>> (((4 : Int32) * x2_20).toInt64 &&& 63)).toInt32 &&& (15 : Int32))) u_8 u_9 u_10 u_11 u_12 r_names u_13 u_14 u_15 u_16 u_17 u_18) H := hP
          have hD : va_D A (wd_Mo_plateau cA a_r r_manner r_above r_below r_nodes r_arcs r_left r_isBest u_3 u_4 u_5 u_6 r_ties r_z u_7 r_ones r_others r_weights r_there (upd r_hand_20 x2_20.toNatClampNeg (((u_18 v1.toNatClampNeg) >>> (((4 : Int32) * x2_20).toInt64 &&& 63)).toInt32 &&& (15 : Int32))) u_8 u_9 u_10 u_11 u_12 r_names u_13 u_14 u_15 u_16 u_17 u_18) := hD
          refine lv_iinc (v := (x2_20 + 1)) (lv' := [(2, .int (x2_20 + 1)), (0, .ref (a_r 0)), (1, .int v1)]) hx hb d_Mo_plateau_48 hl (k := 0) rfl rfl (by decide) rfl (fun ls hl => ?_)
          refine lv_goto (tgt := 20) hx hb d_Mo_plateau_51 (by decide) ?_
          exact cast (hG _ _ _ _ _ _ _) (hB_20 ((x2_20 + 1), (upd r_hand_20 x2_20.toNatClampNeg (((u_18 v1.toNatClampNeg) >>> (((4 : Int32) * x2_20).toInt64 &&& 63)).toInt32 &&& (15 : Int32)))) h _ _ _ hP hD hS (lv_sub hl [0, 1, 2] rfl))
    · have h := ifn (c_22) h
      refine lv_iconst (v := (-1)) hx hb d_Mo_plateau_16 (by decide) ?_
      exact W.iret (v := (-1 : Int32)) hx hb hr (fun t ht hW => ⟨⟨(-1 : Int32), (u_3, u_4, u_5, u_6, u_7, r_hand, u_8, u_9, u_10, u_11, u_12, r_names, u_13, u_14, u_15, u_16, u_17, u_18), rfl, Option.some.inj h, by rw [ht]; exact hP, va_K.moved hW.alike hK, hD⟩, hS.F ht⟩) hS.2.2 d_Mo_plateau_17
