def wd_Mo_alone (cA : Nat → ClassId) (a_r : Nat → Nat) (r_manner : Int32) (r_above : Int32) (r_below : Int32) (r_nodes : Int32) (r_arcs : Int32) (r_left : Int32) (r_isBest : Int32) (r_arePlateaus : Int32) (r_all : Int64) (r_a : Int64) (r_b : Int64) (r_ties : Int32) (r_z : Int32) (r_plateaus : Int32) (r_hand : Nat → Int32) : va_W := [(a_r 0, .inr (8, [.int r_manner, .int r_above, .int r_below, .int r_nodes, .int r_arcs, .int r_left, .ref (a_r 1), .ref (a_r 2), .ref (a_r 3), .ref (a_r 4), .ref (a_r 5), .int r_isBest, .int r_arePlateaus, .ref (a_r 6), .ref (a_r 7), .ref (a_r 8), .long r_all, .ref (a_r 9), .ref (a_r 10), .long r_a, .long r_b, .ref (a_r 11), .ref (a_r 12), .ref (a_r 13), .ref (a_r 14), .ref (a_r 15), .int r_ties, .ref (a_r 16), .ref (a_r 17), .ref (a_r 18), .int r_z, .int r_plateaus, .ref (a_r 19), .ref (a_r 20), .ref (a_r 21), .ref (a_r 22)])), (a_r 5, .inl (cA 0, 9, .inl r_hand))]
noncomputable def s_Mo_alone_12 (r_nodes : Int32) (zz : Int32 × (Nat → Int32)) (back exit : (Int32 × (Nat → Int32)) → Option (Int32 × Int32 × (Nat → Int32))) : Option (Int32 × Int32 × (Nat → Int32)) :=
  (if r_nodes ≤ zz.1 then (exit (zz.1, zz.2)) else (if inb zz.1 9 then (back ((zz.1 + 1), (upd zz.2 zz.1.toNatClampNeg zz.1))) else none))
noncomputable def m_Mo_alone (r_nodes : Int32) (r_hand : Nat → Int32) : Option (Int32 × Int32 × (Nat → Int32)) :=
  (loopC (s_Mo_alone_12 r_nodes) (fun z12 : Int32 × (Nat → Int32) => some ((0 : Int32), (0 : Int32), z12.2)) FU ((0 : Int32), r_hand))
set_option maxHeartbeats 4000000 in
set_option maxRecDepth 100000 in
theorem c_Mo_alone (l : Launch) (D : va_G) (cA : Nat → ClassId) (a_r : Nat → Nat) (sz : Nat) (r_manner : Int32) (r_above : Int32) (r_below : Int32) (r_nodes : Int32) (r_arcs : Int32) (r_left : Int32) (r_isBest : Int32) (r_arePlateaus : Int32) (r_all : Int64) (r_a : Int64) (r_b : Int64) (r_ties : Int32) (r_z : Int32) (r_plateaus : Int32) (r_hand : Nat → Int32)  (out : Int32 × Int32 × (Nat → Int32)) (h : m_Mo_alone r_nodes r_hand = some out) : Met l y_Mo_alone w_Mo_alone ({ frames := 0, cells := 0, slots := 0, locals := 0 }) (va_Pc [.ref (a_r 0)] (fun U => U.heap.size = sz ∧ va_P D cls9 (wd_Mo_alone cA a_r r_manner r_above r_below r_nodes r_arcs r_left r_isBest r_arePlateaus r_all r_a r_b r_ties r_z r_plateaus r_hand) U.heap ∧ va_K D cls9 (tys5 cA) U ∧ va_D (fun _ => True) (wd_Mo_alone cA a_r r_manner r_above r_below r_nodes r_arcs r_left r_isBest r_arePlateaus r_all r_a r_b r_ties r_z r_plateaus r_hand))) (va_Qv (fun uu : Int32 × Int32 × (Nat → Int32) => uu = out) (fun (uu : Int32 × Int32 × (Nat → Int32)) (t : State) => va_P D cls9 (wd_Mo_alone cA a_r r_manner r_above r_below r_nodes r_arcs r_left uu.1 uu.2.1 r_all r_a r_b r_ties r_z r_plateaus uu.2.2) t.heap ∧ va_K D cls9 (tys5 cA) t ∧ va_D (va_A (wd_Mo_alone cA a_r r_manner r_above r_below r_nodes r_arcs r_left r_isBest r_arePlateaus r_all r_a r_b r_ties r_z r_plateaus r_hand) sz) (wd_Mo_alone cA a_r r_manner r_above r_below r_nodes r_arcs r_left uu.1 uu.2.1 r_all r_a r_b r_ties r_z r_plateaus uu.2.2)) (va_A (wd_Mo_alone cA a_r r_manner r_above r_below r_nodes r_arcs r_left r_isBest r_arePlateaus r_all r_a r_b r_ties r_z r_plateaus r_hand) sz)) 0 0 (va_A (wd_Mo_alone cA a_r r_manner r_above r_below r_nodes r_arcs r_left r_isBest r_arePlateaus r_all r_a r_b r_ties r_z r_plateaus r_hand) sz) := by
  refine Met.ofW (cc := b_Mo_alone) (maxL := 2) (ret := (Option.none : Option Jvm.ClassFile.FieldType)) (by decide) rfl ?_
  intro p e s m args below meth c s₁ B hml hv
  obtain ⟨rfl, hsz, hP, hK, hD0⟩ := hv
  have hx := B.exec
  have hb := B.bytes
  have hr := B.returns
  have hts := atoms_spec (ws := w_Mo_alone) B.pre
  have hal : ∀ w ∈ ALLW, w.before _ s = true := fun w hw => hts w (List.mem_cons_of_mem _ hw)
  have hown : s.vm.findClass R_Mo = some m.cls := findClass_of_methodNamed B.named
  have hlocks := B.notSynchronized
  subst hsz
  have hD := hD0.self (sz := s.heap.size)
  generalize hAe : va_A (wd_Mo_alone cA a_r r_manner r_above r_below r_nodes r_arcs r_left r_isBest r_arePlateaus r_all r_a r_b r_ties r_z r_plateaus r_hand) s.heap.size = A at hD ⊢
  have hA : ∀ q : Nat, s.heap.size ≤ q → A q := fun q h => by rw [← hAe]; exact Or.inr h
  have hS : va_S A s.heap s.heap [] := va_S.rf
  have hl := lv_entry ([.ref (a_r 0)]) (n := 2) (Nat.le_of_ble_eq_true rfl)
  rw [lg_entry_eq]
  generalize (lg_sl ([.ref (a_r 0)]) ++ List.replicate (2 - (lg_sl ([.ref (a_r 0)])).length) Slot.unset).toArray = ls at hl ⊢
  have hl : lv_has ls 2 [(0, .ref (a_r 0))] := hl
  refine wg (fun G hG => ?_)
  refine cast (hG _ _ _ _ _ _ _).symm ?_
  obtain ⟨H, locs, hHl, hS⟩ : ∃ (H : Heap) (locs : List Loc), (H = s.heap ∧ locs = []) ∧ va_S A s.heap H locs := ⟨s.heap, [], ⟨rfl, rfl⟩, hS⟩
  have hP : va_P D cls9 (wd_Mo_alone cA a_r r_manner r_above r_below r_nodes r_arcs r_left r_isBest r_arePlateaus r_all r_a r_b r_ties r_z r_plateaus r_hand) H := by rw [hHl.1]; exact hP
  rw [← hHl.1, ← hHl.2]
  clear hHl
  refine lv_aload_n hx hb d_Mo_alone_0 rfl (lv_at hl 0 rfl) ?_
  refine lv_iconst (v := 0) hx hb d_Mo_alone_1 (by decide) ?_
  refine va_put (ci := 8) (v := .int (0 : Int32)) (ty := .boolean) (C := R_Mo) (T := F_Mo) (N := 36) hx hb hal in_Mo t_Mo t_Mo_ok n_Mo hown hK hP hD hS 0 rfl rfl 11 (by decide) (hal _ kw_648) (fun _ h9 => h9) rfl (by decide +kernel) (by decide) (by decide) (Nat.le_of_ble_eq_true rfl) d_Mo_alone_2 (fun H locs hP hD hS => ?_)
  have hP : va_P D cls9 (wd_Mo_alone cA a_r r_manner r_above r_below r_nodes r_arcs r_left (0 : Int32) r_arePlateaus r_all r_a r_b r_ties r_z r_plateaus r_hand) H := hP
  have hD : va_D A (wd_Mo_alone cA a_r r_manner r_above r_below r_nodes r_arcs r_left (0 : Int32) r_arePlateaus r_all r_a r_b r_ties r_z r_plateaus r_hand) := hD
  refine lv_aload_n hx hb d_Mo_alone_5 rfl (lv_at hl 0 rfl) ?_
  refine lv_iconst (v := 0) hx hb d_Mo_alone_6 (by decide) ?_
  refine va_put (ci := 8) (v := .int (0 : Int32)) (ty := .boolean) (C := R_Mo) (T := F_Mo) (N := 36) hx hb hal in_Mo t_Mo t_Mo_ok n_Mo hown hK hP hD hS 0 rfl rfl 12 (by decide) (hal _ kw_649) (fun _ h9 => h9) rfl (by decide +kernel) (by decide) (by decide) (Nat.le_of_ble_eq_true rfl) d_Mo_alone_7 (fun H locs hP hD hS => ?_)
  have hP : va_P D cls9 (wd_Mo_alone cA a_r r_manner r_above r_below r_nodes r_arcs r_left (0 : Int32) (0 : Int32) r_all r_a r_b r_ties r_z r_plateaus r_hand) H := hP
  have hD : va_D A (wd_Mo_alone cA a_r r_manner r_above r_below r_nodes r_arcs r_left (0 : Int32) (0 : Int32) r_all r_a r_b r_ties r_z r_plateaus r_hand) := hD
  refine lv_iconst (v := 0) hx hb d_Mo_alone_10 (by decide) ?_
  refine lv_istore_n (lv' := [(1, .int (0 : Int32)), (0, .ref (a_r 0))]) hx hb d_Mo_alone_11 rfl hl (by decide) rfl (fun ls hl => ?_)
  refine cast (hG _ _ _ _ _ _ _) (lp_go2 h (fun zz : Int32 × (Nat → Int32) => ∀ (H : Heap) (locs : List Loc) (ls : Array Slot), va_P D cls9 (wd_Mo_alone cA a_r r_manner r_above r_below r_nodes r_arcs r_left (0 : Int32) (0 : Int32) r_all r_a r_b r_ties r_z r_plateaus zz.2) H → va_D A (wd_Mo_alone cA a_r r_manner r_above r_below r_nodes r_arcs r_left (0 : Int32) (0 : Int32) r_all r_a r_b r_ties r_z r_plateaus zz.2) → va_S A s.heap H locs → lv_has ls 2 [(1, .int zz.1), (0, .ref (a_r 0))] → G H locs 0 0 ls 33 []) ?_ (fun zz : Int32 × (Nat → Int32) => ∀ (H : Heap) (locs : List Loc) (ls : Array Slot), va_P D cls9 (wd_Mo_alone cA a_r r_manner r_above r_below r_nodes r_arcs r_left (0 : Int32) (0 : Int32) r_all r_a r_b r_ties r_z r_plateaus zz.2) H → va_D A (wd_Mo_alone cA a_r r_manner r_above r_below r_nodes r_arcs r_left (0 : Int32) (0 : Int32) r_all r_a r_b r_ties r_z r_plateaus zz.2) → va_S A s.heap H locs → lv_has ls 2 [(1, .int zz.1), (0, .ref (a_r 0))] → G H locs 0 0 ls 12 []) ?_ _ _ ls hP hD hS (lv_sub hl [0, 1] rfl))
  · intro zz h H locs ls hP hD hS hl
    obtain ⟨x1_12e, r_hand_12e⟩ := zz
    have hP : va_P D cls9 (wd_Mo_alone cA a_r r_manner r_above r_below r_nodes r_arcs r_left (0 : Int32) (0 : Int32) r_all r_a r_b r_ties r_z r_plateaus r_hand_12e) H := hP
    have hD : va_D A (wd_Mo_alone cA a_r r_manner r_above r_below r_nodes r_arcs r_left (0 : Int32) (0 : Int32) r_all r_a r_b r_ties r_z r_plateaus r_hand_12e) := hD
    have hl : lv_has ls 2 [(1, .int x1_12e), (0, .ref (a_r 0))] := hl
    refine cast (hG _ _ _ _ _ _ _).symm ?_
    exact W.vret hx hb hr (fun t ht hW => ⟨⟨((0 : Int32), (0 : Int32), r_hand_12e), rfl, Option.some.inj h, by rw [ht]; exact hP, va_K.moved hW.alike hK, hD⟩, hS.F ht⟩) hS.2.2 d_Mo_alone_33
  · intro back exit zz hB_12 hE_12 h H locs ls hP hD hS hl
    obtain ⟨x1_12, r_hand_12⟩ := zz
    have hP : va_P D cls9 (wd_Mo_alone cA a_r r_manner r_above r_below r_nodes r_arcs r_left (0 : Int32) (0 : Int32) r_all r_a r_b r_ties r_z r_plateaus r_hand_12) H := hP
    have hD : va_D A (wd_Mo_alone cA a_r r_manner r_above r_below r_nodes r_arcs r_left (0 : Int32) (0 : Int32) r_all r_a r_b r_ties r_z r_plateaus r_hand_12) := hD
    have hl : lv_has ls 2 [(1, .int x1_12), (0, .ref (a_r 0))] := hl
    refine cast (hG _ _ _ _ _ _ _).symm ?_
    refine lv_iload_n hx hb d_Mo_alone_12 rfl (lv_at hl 0 rfl) ?_
    refine lv_aload_n hx hb d_Mo_alone_13 rfl (lv_at hl 1 rfl) ?_
    refine va_get (ci := 8) (v := .int r_nodes) (C := R_Mo) (T := F_Mo) (N := 36) hx hb hal in_Mo hown hK hP 0 rfl rfl 3 (by decide) (hal _ kw_640) (fun _ h9 => h9) rfl d_Mo_alone_14 ?_
    refine lv_icmp_ge (tgt := 33) hx hb d_Mo_alone_17 (by decide) (fun c_1 => ?_) (fun c_1 => ?_)
    · have h := ifp (c_1) h
      exact cast (hG _ _ _ _ _ _ _) (hE_12 (x1_12, r_hand_12) h _ _ _ hP hD hS (lv_sub hl [0, 1] rfl))
    · have h := ifn (c_1) h
      refine lv_aload_n hx hb d_Mo_alone_20 rfl (lv_at hl 1 rfl) ?_
      refine va_get (ci := 8) (v := .ref (a_r 5)) (C := R_Mo) (T := F_Mo) (N := 36) hx hb hal in_Mo hown hK hP 0 rfl rfl 10 (by decide) (hal _ kw_647) (fun _ h9 => h9) rfl d_Mo_alone_21 ?_
      refine lv_iload_n hx hb d_Mo_alone_24 rfl (lv_at hl 0 rfl) ?_
      refine lv_iload_n hx hb d_Mo_alone_25 rfl (lv_at hl 0 rfl) ?_
      obtain ⟨g_2, h⟩ := gd h
      refine va_iast hx hb hK hP hD hS 1 0 rfl rfl (inb_in g_2) d_Mo_alone_26 (fun H locs hP hD hS => ?_)
      have hP : va_P D cls9 (wd_Mo_alone cA a_r r_manner r_above r_below r_nodes r_arcs r_left (0 : Int32) (0 : Int32) r_all r_a r_b r_ties r_z r_plateaus (upd r_hand_12 x1_12.toNatClampNeg x1_12)) H := hP
      have hD : va_D A (wd_Mo_alone cA a_r r_manner r_above r_below r_nodes r_arcs r_left (0 : Int32) (0 : Int32) r_all r_a r_b r_ties r_z r_plateaus (upd r_hand_12 x1_12.toNatClampNeg x1_12)) := hD
      refine lv_iinc (v := (x1_12 + 1)) (lv' := [(1, .int (x1_12 + 1)), (0, .ref (a_r 0))]) hx hb d_Mo_alone_27 hl (k := 0) rfl rfl (by decide) rfl (fun ls hl => ?_)
      refine lv_goto (tgt := 12) hx hb d_Mo_alone_30 (by decide) ?_
      exact cast (hG _ _ _ _ _ _ _) (hB_12 ((x1_12 + 1), (upd r_hand_12 x1_12.toNatClampNeg x1_12)) h _ _ _ hP hD hS (lv_sub hl [0, 1] rfl))
def wd_Mo_isNode (cA : Nat → ClassId) (a_r : Nat → Nat) (r_manner : Int32) (r_above : Int32) (r_below : Int32) (r_nodes : Int32) (r_arcs : Int32) (r_left : Int32) (r_isBest : Int32) (r_arePlateaus : Int32) (r_all : Int64) (r_a : Int64) (r_b : Int64) (r_ties : Int32) (r_z : Int32) (r_plateaus : Int32) : va_W := [(a_r 0, .inr (8, [.int r_manner, .int r_above, .int r_below, .int r_nodes, .int r_arcs, .int r_left, .ref (a_r 1), .ref (a_r 2), .ref (a_r 3), .ref (a_r 4), .ref (a_r 5), .int r_isBest, .int r_arePlateaus, .ref (a_r 6), .ref (a_r 7), .ref (a_r 8), .long r_all, .ref (a_r 9), .ref (a_r 10), .long r_a, .long r_b, .ref (a_r 11), .ref (a_r 12), .ref (a_r 13), .ref (a_r 14), .ref (a_r 15), .int r_ties, .ref (a_r 16), .ref (a_r 17), .ref (a_r 18), .int r_z, .int r_plateaus, .ref (a_r 19), .ref (a_r 20), .ref (a_r 21), .ref (a_r 22)]))]
noncomputable def m_Mo_isNode (r_nodes : Int32) (v1 : Int32) : Option Int32 :=
  (if v1 < 0 then some (0 : Int32) else (if r_nodes ≤ v1 then some (0 : Int32) else some (1 : Int32)))
set_option maxHeartbeats 4000000 in
set_option maxRecDepth 100000 in
theorem c_Mo_isNode (l : Launch) (D : va_G) (cA : Nat → ClassId) (a_r : Nat → Nat) (sz : Nat) (r_manner : Int32) (r_above : Int32) (r_below : Int32) (r_nodes : Int32) (r_arcs : Int32) (r_left : Int32) (r_isBest : Int32) (r_arePlateaus : Int32) (r_all : Int64) (r_a : Int64) (r_b : Int64) (r_ties : Int32) (r_z : Int32) (r_plateaus : Int32) (v1 : Int32) (out : Int32) (h : m_Mo_isNode r_nodes v1 = some out) : Met l y_Mo_isNode w_Mo_isNode ({ frames := 0, cells := 0, slots := 0, locals := 0 }) (va_Pc [.ref (a_r 0), .int v1] (fun U => U.heap.size = sz ∧ va_P D cls9 (wd_Mo_isNode cA a_r r_manner r_above r_below r_nodes r_arcs r_left r_isBest r_arePlateaus r_all r_a r_b r_ties r_z r_plateaus) U.heap ∧ va_K D cls9 (tys5 cA) U ∧ va_D (fun _ => True) (wd_Mo_isNode cA a_r r_manner r_above r_below r_nodes r_arcs r_left r_isBest r_arePlateaus r_all r_a r_b r_ties r_z r_plateaus))) (va_Qi (fun (rr : Int32) (uu : Unit) => rr = out) (fun (uu : Unit) (t : State) => va_P D cls9 (wd_Mo_isNode cA a_r r_manner r_above r_below r_nodes r_arcs r_left r_isBest r_arePlateaus r_all r_a r_b r_ties r_z r_plateaus) t.heap ∧ va_K D cls9 (tys5 cA) t ∧ va_D (va_A (wd_Mo_isNode cA a_r r_manner r_above r_below r_nodes r_arcs r_left r_isBest r_arePlateaus r_all r_a r_b r_ties r_z r_plateaus) sz) (wd_Mo_isNode cA a_r r_manner r_above r_below r_nodes r_arcs r_left r_isBest r_arePlateaus r_all r_a r_b r_ties r_z r_plateaus)) (va_A (wd_Mo_isNode cA a_r r_manner r_above r_below r_nodes r_arcs r_left r_isBest r_arePlateaus r_all r_a r_b r_ties r_z r_plateaus) sz)) 0 0 (va_A (wd_Mo_isNode cA a_r r_manner r_above r_below r_nodes r_arcs r_left r_isBest r_arePlateaus r_all r_a r_b r_ties r_z r_plateaus) sz) := by
  refine Met.ofW (cc := b_Mo_isNode) (maxL := 2) (ret := (Option.some Jvm.ClassFile.FieldType.boolean)) (by decide) rfl ?_
  intro p e s m args below meth c s₁ B hml hv
  obtain ⟨rfl, hsz, hP, hK, hD0⟩ := hv
  have hx := B.exec
  have hb := B.bytes
  have hr := B.returns
  have hts := atoms_spec (ws := w_Mo_isNode) B.pre
  have hal : ∀ w ∈ ALLW, w.before _ s = true := fun w hw => hts w (List.mem_cons_of_mem _ hw)
  have hown : s.vm.findClass R_Mo = some m.cls := findClass_of_methodNamed B.named
  have hlocks := B.notSynchronized
  subst hsz
  have hD := hD0.self (sz := s.heap.size)
  generalize hAe : va_A (wd_Mo_isNode cA a_r r_manner r_above r_below r_nodes r_arcs r_left r_isBest r_arePlateaus r_all r_a r_b r_ties r_z r_plateaus) s.heap.size = A at hD ⊢
  have hA : ∀ q : Nat, s.heap.size ≤ q → A q := fun q h => by rw [← hAe]; exact Or.inr h
  have hS : va_S A s.heap s.heap [] := va_S.rf
  have hl := lv_entry ([.ref (a_r 0), .int v1]) (n := 2) (Nat.le_of_ble_eq_true rfl)
  rw [lg_entry_eq]
  generalize (lg_sl ([.ref (a_r 0), .int v1]) ++ List.replicate (2 - (lg_sl ([.ref (a_r 0), .int v1])).length) Slot.unset).toArray = ls at hl ⊢
  have hl : lv_has ls 2 [(0, .ref (a_r 0)), (1, .int v1)] := hl
  refine wg (fun G hG => ?_)
  refine cast (hG _ _ _ _ _ _ _).symm ?_
  obtain ⟨H, locs, hHl, hS⟩ : ∃ (H : Heap) (locs : List Loc), (H = s.heap ∧ locs = []) ∧ va_S A s.heap H locs := ⟨s.heap, [], ⟨rfl, rfl⟩, hS⟩
  have hP : va_P D cls9 (wd_Mo_isNode cA a_r r_manner r_above r_below r_nodes r_arcs r_left r_isBest r_arePlateaus r_all r_a r_b r_ties r_z r_plateaus) H := by rw [hHl.1]; exact hP
  rw [← hHl.1, ← hHl.2]
  clear hHl
  refine lv_iload_n hx hb d_Mo_isNode_0 rfl (lv_at hl 1 rfl) ?_
  refine lv_if_lt (tgt := 16) hx hb d_Mo_isNode_1 (by decide) (fun c_1 => ?_) (fun c_1 => ?_)
  · have h := ifp (c_1) h
    refine lv_iconst (v := 0) hx hb d_Mo_isNode_16 (by decide) ?_
    exact W.zret (v := (0 : Int32)) hx hb hr (by decide) (fun t ht hW => ⟨⟨(0 : Int32), (), rfl, Option.some.inj h, by rw [ht]; exact hP, va_K.moved hW.alike hK, hD⟩, hS.F ht⟩) hS.2.2 d_Mo_isNode_17
  · have h := ifn (c_1) h
    refine lv_iload_n hx hb d_Mo_isNode_4 rfl (lv_at hl 1 rfl) ?_
    refine lv_aload_n hx hb d_Mo_isNode_5 rfl (lv_at hl 0 rfl) ?_
    refine va_get (ci := 8) (v := .int r_nodes) (C := R_Mo) (T := F_Mo) (N := 36) hx hb hal in_Mo hown hK hP 0 rfl rfl 3 (by decide) (hal _ kw_640) (fun _ h9 => h9) rfl d_Mo_isNode_6 ?_
    refine lv_icmp_ge (tgt := 16) hx hb d_Mo_isNode_9 (by decide) (fun c_2 => ?_) (fun c_2 => ?_)
    · have h := ifp (c_2) h
      refine lv_iconst (v := 0) hx hb d_Mo_isNode_16 (by decide) ?_
      exact W.zret (v := (0 : Int32)) hx hb hr (by decide) (fun t ht hW => ⟨⟨(0 : Int32), (), rfl, Option.some.inj h, by rw [ht]; exact hP, va_K.moved hW.alike hK, hD⟩, hS.F ht⟩) hS.2.2 d_Mo_isNode_17
    · have h := ifn (c_2) h
      refine lv_iconst (v := 1) hx hb d_Mo_isNode_12 (by decide) ?_
      refine lv_goto (tgt := 17) hx hb d_Mo_isNode_13 (by decide) ?_
      exact W.zret (v := (1 : Int32)) hx hb hr (by decide) (fun t ht hW => ⟨⟨(1 : Int32), (), rfl, Option.some.inj h, by rw [ht]; exact hP, va_K.moved hW.alike hK, hD⟩, hS.F ht⟩) hS.2.2 d_Mo_isNode_17
def wd_Mo_counts (cA : Nat → ClassId) (a_r : Nat → Nat) (r_manner : Int32) (r_above : Int32) (r_below : Int32) (r_nodes : Int32) (r_arcs : Int32) (r_left : Int32) (r_isBest : Int32) (r_arePlateaus : Int32) (r_all : Int64) (r_a : Int64) (r_b : Int64) (r_ties : Int32) (r_z : Int32) (r_plateaus : Int32) (r_weights : Nat → Int32) (r_there : Nat → Int32) : va_W := [(a_r 0, .inr (8, [.int r_manner, .int r_above, .int r_below, .int r_nodes, .int r_arcs, .int r_left, .ref (a_r 1), .ref (a_r 2), .ref (a_r 3), .ref (a_r 4), .ref (a_r 5), .int r_isBest, .int r_arePlateaus, .ref (a_r 6), .ref (a_r 7), .ref (a_r 8), .long r_all, .ref (a_r 9), .ref (a_r 10), .long r_a, .long r_b, .ref (a_r 11), .ref (a_r 12), .ref (a_r 13), .ref (a_r 14), .ref (a_r 15), .int r_ties, .ref (a_r 16), .ref (a_r 17), .ref (a_r 18), .int r_z, .int r_plateaus, .ref (a_r 19), .ref (a_r 20), .ref (a_r 21), .ref (a_r 22)])), (a_r 3, .inl (cA 0, 36, .inl r_weights)), (a_r 4, .inl (cA 2, 36, .inl r_there))]
noncomputable def m_Mo_counts (r_manner : Int32) (r_weights : Nat → Int32) (r_there : Nat → Int32) (v1 : Int32) : Option Int32 :=
  (if inb v1 36 then (if (r_there v1.toNatClampNeg) = 0 then some (0 : Int32) else (if r_manner = (1 : Int32) then some (1 : Int32) else (if (r_weights v1.toNatClampNeg) ≤ 0 then some (0 : Int32) else some (1 : Int32)))) else none)
set_option maxHeartbeats 4000000 in
set_option maxRecDepth 100000 in
theorem c_Mo_counts (l : Launch) (D : va_G) (cA : Nat → ClassId) (a_r : Nat → Nat) (sz : Nat) (r_manner : Int32) (r_above : Int32) (r_below : Int32) (r_nodes : Int32) (r_arcs : Int32) (r_left : Int32) (r_isBest : Int32) (r_arePlateaus : Int32) (r_all : Int64) (r_a : Int64) (r_b : Int64) (r_ties : Int32) (r_z : Int32) (r_plateaus : Int32) (r_weights : Nat → Int32) (r_there : Nat → Int32) (v1 : Int32) (out : Int32) (h : m_Mo_counts r_manner r_weights r_there v1 = some out) : Met l y_Mo_counts w_Mo_counts ({ frames := 0, cells := 0, slots := 0, locals := 0 }) (va_Pc [.ref (a_r 0), .int v1] (fun U => U.heap.size = sz ∧ va_P D cls9 (wd_Mo_counts cA a_r r_manner r_above r_below r_nodes r_arcs r_left r_isBest r_arePlateaus r_all r_a r_b r_ties r_z r_plateaus r_weights r_there) U.heap ∧ va_K D cls9 (tys5 cA) U ∧ va_D (fun _ => True) (wd_Mo_counts cA a_r r_manner r_above r_below r_nodes r_arcs r_left r_isBest r_arePlateaus r_all r_a r_b r_ties r_z r_plateaus r_weights r_there))) (va_Qi (fun (rr : Int32) (uu : Unit) => rr = out) (fun (uu : Unit) (t : State) => va_P D cls9 (wd_Mo_counts cA a_r r_manner r_above r_below r_nodes r_arcs r_left r_isBest r_arePlateaus r_all r_a r_b r_ties r_z r_plateaus r_weights r_there) t.heap ∧ va_K D cls9 (tys5 cA) t ∧ va_D (va_A (wd_Mo_counts cA a_r r_manner r_above r_below r_nodes r_arcs r_left r_isBest r_arePlateaus r_all r_a r_b r_ties r_z r_plateaus r_weights r_there) sz) (wd_Mo_counts cA a_r r_manner r_above r_below r_nodes r_arcs r_left r_isBest r_arePlateaus r_all r_a r_b r_ties r_z r_plateaus r_weights r_there)) (va_A (wd_Mo_counts cA a_r r_manner r_above r_below r_nodes r_arcs r_left r_isBest r_arePlateaus r_all r_a r_b r_ties r_z r_plateaus r_weights r_there) sz)) 0 0 (va_A (wd_Mo_counts cA a_r r_manner r_above r_below r_nodes r_arcs r_left r_isBest r_arePlateaus r_all r_a r_b r_ties r_z r_plateaus r_weights r_there) sz) := by
  refine Met.ofW (cc := b_Mo_counts) (maxL := 2) (ret := (Option.some Jvm.ClassFile.FieldType.boolean)) (by decide) rfl ?_
  intro p e s m args below meth c s₁ B hml hv
  obtain ⟨rfl, hsz, hP, hK, hD0⟩ := hv
  have hx := B.exec
  have hb := B.bytes
  have hr := B.returns
  have hts := atoms_spec (ws := w_Mo_counts) B.pre
  have hal : ∀ w ∈ ALLW, w.before _ s = true := fun w hw => hts w (List.mem_cons_of_mem _ hw)
  have hown : s.vm.findClass R_Mo = some m.cls := findClass_of_methodNamed B.named
  have hlocks := B.notSynchronized
  subst hsz
  have hD := hD0.self (sz := s.heap.size)
  generalize hAe : va_A (wd_Mo_counts cA a_r r_manner r_above r_below r_nodes r_arcs r_left r_isBest r_arePlateaus r_all r_a r_b r_ties r_z r_plateaus r_weights r_there) s.heap.size = A at hD ⊢
  have hA : ∀ q : Nat, s.heap.size ≤ q → A q := fun q h => by rw [← hAe]; exact Or.inr h
  have hS : va_S A s.heap s.heap [] := va_S.rf
  have hl := lv_entry ([.ref (a_r 0), .int v1]) (n := 2) (Nat.le_of_ble_eq_true rfl)
  rw [lg_entry_eq]
  generalize (lg_sl ([.ref (a_r 0), .int v1]) ++ List.replicate (2 - (lg_sl ([.ref (a_r 0), .int v1])).length) Slot.unset).toArray = ls at hl ⊢
  have hl : lv_has ls 2 [(0, .ref (a_r 0)), (1, .int v1)] := hl
  refine wg (fun G hG => ?_)
  refine cast (hG _ _ _ _ _ _ _).symm ?_
  obtain ⟨H, locs, hHl, hS⟩ : ∃ (H : Heap) (locs : List Loc), (H = s.heap ∧ locs = []) ∧ va_S A s.heap H locs := ⟨s.heap, [], ⟨rfl, rfl⟩, hS⟩
  have hP : va_P D cls9 (wd_Mo_counts cA a_r r_manner r_above r_below r_nodes r_arcs r_left r_isBest r_arePlateaus r_all r_a r_b r_ties r_z r_plateaus r_weights r_there) H := by rw [hHl.1]; exact hP
  rw [← hHl.1, ← hHl.2]
  clear hHl
  refine lv_aload_n hx hb d_Mo_counts_0 rfl (lv_at hl 0 rfl) ?_
  refine va_get (ci := 8) (v := .ref (a_r 4)) (C := R_Mo) (T := F_Mo) (N := 36) hx hb hal in_Mo hown hK hP 0 rfl rfl 9 (by decide) (hal _ kw_646) (fun _ h9 => h9) rfl d_Mo_counts_1 ?_
  refine lv_iload_n hx hb d_Mo_counts_4 rfl (lv_at hl 1 rfl) ?_
  obtain ⟨g_1, h⟩ := gd h
  refine va_zald hx hb hK hP 2 2 rfl rfl (inb_in g_1) d_Mo_counts_5 ?_
  refine lv_if_eq (tgt := 30) hx hb d_Mo_counts_6 (by decide) (fun c_2 => ?_) (fun c_2 => ?_)
  · have h := ifp (c_2) h
    refine lv_iconst (v := 0) hx hb d_Mo_counts_30 (by decide) ?_
    exact W.zret (v := (0 : Int32)) hx hb hr (by decide) (fun t ht hW => ⟨⟨(0 : Int32), (), rfl, Option.some.inj h, by rw [ht]; exact hP, va_K.moved hW.alike hK, hD⟩, hS.F ht⟩) hS.2.2 d_Mo_counts_31
  · have h := ifn (c_2) h
    refine lv_aload_n hx hb d_Mo_counts_9 rfl (lv_at hl 0 rfl) ?_
    refine va_get (ci := 8) (v := .int r_manner) (C := R_Mo) (T := F_Mo) (N := 36) hx hb hal in_Mo hown hK hP 0 rfl rfl 0 (by decide) (hal _ kw_637) (fun _ h9 => h9) rfl d_Mo_counts_10 ?_
    refine lv_iconst (v := 1) hx hb d_Mo_counts_13 (by decide) ?_
    refine lv_icmp_eq (tgt := 26) hx hb d_Mo_counts_14 (by decide) (fun c_3 => ?_) (fun c_3 => ?_)
    · have h := ifp (c_3) h
      refine lv_iconst (v := 1) hx hb d_Mo_counts_26 (by decide) ?_
      refine lv_goto (tgt := 31) hx hb d_Mo_counts_27 (by decide) ?_
      exact W.zret (v := (1 : Int32)) hx hb hr (by decide) (fun t ht hW => ⟨⟨(1 : Int32), (), rfl, Option.some.inj h, by rw [ht]; exact hP, va_K.moved hW.alike hK, hD⟩, hS.F ht⟩) hS.2.2 d_Mo_counts_31
    · have h := ifn (c_3) h
      refine lv_aload_n hx hb d_Mo_counts_17 rfl (lv_at hl 0 rfl) ?_
      refine va_get (ci := 8) (v := .ref (a_r 3)) (C := R_Mo) (T := F_Mo) (N := 36) hx hb hal in_Mo hown hK hP 0 rfl rfl 8 (by decide) (hal _ kw_645) (fun _ h9 => h9) rfl d_Mo_counts_18 ?_
      refine lv_iload_n hx hb d_Mo_counts_21 rfl (lv_at hl 1 rfl) ?_
      refine va_iald hx hb hK hP 1 0 rfl rfl (inb_in g_1) d_Mo_counts_22 ?_
      refine lv_if_le (tgt := 30) hx hb d_Mo_counts_23 (by decide) (fun c_4 => ?_) (fun c_4 => ?_)
      · have h := ifp (c_4) h
        refine lv_iconst (v := 0) hx hb d_Mo_counts_30 (by decide) ?_
        exact W.zret (v := (0 : Int32)) hx hb hr (by decide) (fun t ht hW => ⟨⟨(0 : Int32), (), rfl, Option.some.inj h, by rw [ht]; exact hP, va_K.moved hW.alike hK, hD⟩, hS.F ht⟩) hS.2.2 d_Mo_counts_31
      · have h := ifn (c_4) h
        refine lv_iconst (v := 1) hx hb d_Mo_counts_26 (by decide) ?_
        refine lv_goto (tgt := 31) hx hb d_Mo_counts_27 (by decide) ?_
        exact W.zret (v := (1 : Int32)) hx hb hr (by decide) (fun t ht hW => ⟨⟨(1 : Int32), (), rfl, Option.some.inj h, by rw [ht]; exact hP, va_K.moved hW.alike hK, hD⟩, hS.F ht⟩) hS.2.2 d_Mo_counts_31
def wd_Mo_manner (cA : Nat → ClassId) (a_r : Nat → Nat) (r_manner : Int32) (r_above : Int32) (r_below : Int32) (r_nodes : Int32) (r_arcs : Int32) (r_left : Int32) (r_isBest : Int32) (r_arePlateaus : Int32) (r_all : Int64) (r_a : Int64) (r_b : Int64) (r_ties : Int32) (r_z : Int32) (r_plateaus : Int32) : va_W := [(a_r 0, .inr (8, [.int r_manner, .int r_above, .int r_below, .int r_nodes, .int r_arcs, .int r_left, .ref (a_r 1), .ref (a_r 2), .ref (a_r 3), .ref (a_r 4), .ref (a_r 5), .int r_isBest, .int r_arePlateaus, .ref (a_r 6), .ref (a_r 7), .ref (a_r 8), .long r_all, .ref (a_r 9), .ref (a_r 10), .long r_a, .long r_b, .ref (a_r 11), .ref (a_r 12), .ref (a_r 13), .ref (a_r 14), .ref (a_r 15), .int r_ties, .ref (a_r 16), .ref (a_r 17), .ref (a_r 18), .int r_z, .int r_plateaus, .ref (a_r 19), .ref (a_r 20), .ref (a_r 21), .ref (a_r 22)]))]
noncomputable def m_Mo_manner (r_manner : Int32) (r_isBest : Int32) (r_arePlateaus : Int32) (v1 : Int32) : Option (Int32 × Int32 × Int32 × Int32) :=
  (if v1 < 0 then some ((-2 : Int32), r_manner, r_isBest, r_arePlateaus) else (if v1 ≤ (1 : Int32) then some (r_manner, v1, (0 : Int32), (0 : Int32)) else some ((-2 : Int32), r_manner, r_isBest, r_arePlateaus)))
set_option maxHeartbeats 4000000 in
set_option maxRecDepth 100000 in
theorem c_Mo_manner (l : Launch) (D : va_G) (cA : Nat → ClassId) (a_r : Nat → Nat) (sz : Nat) (r_manner : Int32) (r_above : Int32) (r_below : Int32) (r_nodes : Int32) (r_arcs : Int32) (r_left : Int32) (r_isBest : Int32) (r_arePlateaus : Int32) (r_all : Int64) (r_a : Int64) (r_b : Int64) (r_ties : Int32) (r_z : Int32) (r_plateaus : Int32) (v1 : Int32) (out : Int32 × Int32 × Int32 × Int32) (h : m_Mo_manner r_manner r_isBest r_arePlateaus v1 = some out) : Met l y_Mo_manner w_Mo_manner ({ frames := 0, cells := 0, slots := 0, locals := 0 }) (va_Pc [.ref (a_r 0), .int v1] (fun U => U.heap.size = sz ∧ va_P D cls9 (wd_Mo_manner cA a_r r_manner r_above r_below r_nodes r_arcs r_left r_isBest r_arePlateaus r_all r_a r_b r_ties r_z r_plateaus) U.heap ∧ va_K D cls9 (tys5 cA) U ∧ va_D (fun _ => True) (wd_Mo_manner cA a_r r_manner r_above r_below r_nodes r_arcs r_left r_isBest r_arePlateaus r_all r_a r_b r_ties r_z r_plateaus))) (va_Qi (fun (rr : Int32) (uu : Int32 × Int32 × Int32) => (rr, uu) = out) (fun (uu : Int32 × Int32 × Int32) (t : State) => va_P D cls9 (wd_Mo_manner cA a_r uu.1 r_above r_below r_nodes r_arcs r_left uu.2.1 uu.2.2 r_all r_a r_b r_ties r_z r_plateaus) t.heap ∧ va_K D cls9 (tys5 cA) t ∧ va_D (va_A (wd_Mo_manner cA a_r r_manner r_above r_below r_nodes r_arcs r_left r_isBest r_arePlateaus r_all r_a r_b r_ties r_z r_plateaus) sz) (wd_Mo_manner cA a_r uu.1 r_above r_below r_nodes r_arcs r_left uu.2.1 uu.2.2 r_all r_a r_b r_ties r_z r_plateaus)) (va_A (wd_Mo_manner cA a_r r_manner r_above r_below r_nodes r_arcs r_left r_isBest r_arePlateaus r_all r_a r_b r_ties r_z r_plateaus) sz)) 0 0 (va_A (wd_Mo_manner cA a_r r_manner r_above r_below r_nodes r_arcs r_left r_isBest r_arePlateaus r_all r_a r_b r_ties r_z r_plateaus) sz) := by
  refine Met.ofW (cc := b_Mo_manner) (maxL := 3) (ret := (Option.some Jvm.ClassFile.FieldType.int)) (by decide) rfl ?_
  intro p e s m args below meth c s₁ B hml hv
  obtain ⟨rfl, hsz, hP, hK, hD0⟩ := hv
  have hx := B.exec
  have hb := B.bytes
  have hr := B.returns
  have hts := atoms_spec (ws := w_Mo_manner) B.pre
  have hal : ∀ w ∈ ALLW, w.before _ s = true := fun w hw => hts w (List.mem_cons_of_mem _ hw)
  have hown : s.vm.findClass R_Mo = some m.cls := findClass_of_methodNamed B.named
  have hlocks := B.notSynchronized
  subst hsz
  have hD := hD0.self (sz := s.heap.size)
  generalize hAe : va_A (wd_Mo_manner cA a_r r_manner r_above r_below r_nodes r_arcs r_left r_isBest r_arePlateaus r_all r_a r_b r_ties r_z r_plateaus) s.heap.size = A at hD ⊢
  have hA : ∀ q : Nat, s.heap.size ≤ q → A q := fun q h => by rw [← hAe]; exact Or.inr h
  have hS : va_S A s.heap s.heap [] := va_S.rf
  have hl := lv_entry ([.ref (a_r 0), .int v1]) (n := 3) (Nat.le_of_ble_eq_true rfl)
  rw [lg_entry_eq]
  generalize (lg_sl ([.ref (a_r 0), .int v1]) ++ List.replicate (3 - (lg_sl ([.ref (a_r 0), .int v1])).length) Slot.unset).toArray = ls at hl ⊢
  have hl : lv_has ls 3 [(0, .ref (a_r 0)), (1, .int v1)] := hl
  refine wg (fun G hG => ?_)
  refine cast (hG _ _ _ _ _ _ _).symm ?_
  obtain ⟨H, locs, hHl, hS⟩ : ∃ (H : Heap) (locs : List Loc), (H = s.heap ∧ locs = []) ∧ va_S A s.heap H locs := ⟨s.heap, [], ⟨rfl, rfl⟩, hS⟩
  have hP : va_P D cls9 (wd_Mo_manner cA a_r r_manner r_above r_below r_nodes r_arcs r_left r_isBest r_arePlateaus r_all r_a r_b r_ties r_z r_plateaus) H := by rw [hHl.1]; exact hP
  rw [← hHl.1, ← hHl.2]
  clear hHl
  refine lv_iload_n hx hb d_Mo_manner_0 rfl (lv_at hl 1 rfl) ?_
  refine lv_if_lt (tgt := 9) hx hb d_Mo_manner_1 (by decide) (fun c_1 => ?_) (fun c_1 => ?_)
  · have h := ifp (c_1) h
    refine lv_bipush (v := (-2)) hx hb d_Mo_manner_9 (by decide) ?_
    exact W.iret (v := (-2 : Int32)) hx hb hr (fun t ht hW => ⟨⟨(-2 : Int32), (r_manner, r_isBest, r_arePlateaus), rfl, Option.some.inj h, by rw [ht]; exact hP, va_K.moved hW.alike hK, hD⟩, hS.F ht⟩) hS.2.2 d_Mo_manner_11
  · have h := ifn (c_1) h
    refine lv_iload_n hx hb d_Mo_manner_4 rfl (lv_at hl 1 rfl) ?_
    refine lv_iconst (v := 1) hx hb d_Mo_manner_5 (by decide) ?_
    refine lv_icmp_le (tgt := 12) hx hb d_Mo_manner_6 (by decide) (fun c_2 => ?_) (fun c_2 => ?_)
    · have h := ifp (c_2) h
      refine lv_aload_n hx hb d_Mo_manner_12 rfl (lv_at hl 0 rfl) ?_
      refine va_get (ci := 8) (v := .int r_manner) (C := R_Mo) (T := F_Mo) (N := 36) hx hb hal in_Mo hown hK hP 0 rfl rfl 0 (by decide) (hal _ kw_637) (fun _ h9 => h9) rfl d_Mo_manner_13 ?_
      refine lv_istore_n (lv' := [(2, .int r_manner), (0, .ref (a_r 0)), (1, .int v1)]) hx hb d_Mo_manner_16 rfl hl (by decide) rfl (fun ls hl => ?_)
      refine lv_aload_n hx hb d_Mo_manner_17 rfl (lv_at hl 1 rfl) ?_
      refine lv_iload_n hx hb d_Mo_manner_18 rfl (lv_at hl 2 rfl) ?_
      refine va_put (ci := 8) (v := .int v1) (ty := .int) (C := R_Mo) (T := F_Mo) (N := 36) hx hb hal in_Mo t_Mo t_Mo_ok n_Mo hown hK hP hD hS 0 rfl rfl 0 (by decide) (hal _ kw_637) (fun _ h9 => h9) rfl (by decide +kernel) rfl rfl (Nat.le_of_ble_eq_true rfl) d_Mo_manner_19 (fun H locs hP hD hS => ?_)
      have hP : va_P D cls9 (wd_Mo_manner cA a_r v1 r_above r_below r_nodes r_arcs r_left r_isBest r_arePlateaus r_all r_a r_b r_ties r_z r_plateaus) H := hP
      have hD : va_D A (wd_Mo_manner cA a_r v1 r_above r_below r_nodes r_arcs r_left r_isBest r_arePlateaus r_all r_a r_b r_ties r_z r_plateaus) := hD
      refine lv_aload_n hx hb d_Mo_manner_22 rfl (lv_at hl 1 rfl) ?_
      refine lv_iconst (v := 0) hx hb d_Mo_manner_23 (by decide) ?_
      refine va_put (ci := 8) (v := .int (0 : Int32)) (ty := .boolean) (C := R_Mo) (T := F_Mo) (N := 36) hx hb hal in_Mo t_Mo t_Mo_ok n_Mo hown hK hP hD hS 0 rfl rfl 11 (by decide) (hal _ kw_648) (fun _ h9 => h9) rfl (by decide +kernel) (by decide) (by decide) (Nat.le_of_ble_eq_true rfl) d_Mo_manner_24 (fun H locs hP hD hS => ?_)
      have hP : va_P D cls9 (wd_Mo_manner cA a_r v1 r_above r_below r_nodes r_arcs r_left (0 : Int32) r_arePlateaus r_all r_a r_b r_ties r_z r_plateaus) H := hP
      have hD : va_D A (wd_Mo_manner cA a_r v1 r_above r_below r_nodes r_arcs r_left (0 : Int32) r_arePlateaus r_all r_a r_b r_ties r_z r_plateaus) := hD
      refine lv_aload_n hx hb d_Mo_manner_27 rfl (lv_at hl 1 rfl) ?_
      refine lv_iconst (v := 0) hx hb d_Mo_manner_28 (by decide) ?_
      refine va_put (ci := 8) (v := .int (0 : Int32)) (ty := .boolean) (C := R_Mo) (T := F_Mo) (N := 36) hx hb hal in_Mo t_Mo t_Mo_ok n_Mo hown hK hP hD hS 0 rfl rfl 12 (by decide) (hal _ kw_649) (fun _ h9 => h9) rfl (by decide +kernel) (by decide) (by decide) (Nat.le_of_ble_eq_true rfl) d_Mo_manner_29 (fun H locs hP hD hS => ?_)
      have hP : va_P D cls9 (wd_Mo_manner cA a_r v1 r_above r_below r_nodes r_arcs r_left (0 : Int32) (0 : Int32) r_all r_a r_b r_ties r_z r_plateaus) H := hP
      have hD : va_D A (wd_Mo_manner cA a_r v1 r_above r_below r_nodes r_arcs r_left (0 : Int32) (0 : Int32) r_all r_a r_b r_ties r_z r_plateaus) := hD
      refine lv_iload_n hx hb d_Mo_manner_32 rfl (lv_at hl 0 rfl) ?_
      exact W.iret (v := r_manner) hx hb hr (fun t ht hW => ⟨⟨r_manner, (v1, (0 : Int32), (0 : Int32)), rfl, Option.some.inj h, by rw [ht]; exact hP, va_K.moved hW.alike hK, hD⟩, hS.F ht⟩) hS.2.2 d_Mo_manner_33
    · have h := ifn (c_2) h
      refine lv_bipush (v := (-2)) hx hb d_Mo_manner_9 (by decide) ?_
      exact W.iret (v := (-2 : Int32)) hx hb hr (fun t ht hW => ⟨⟨(-2 : Int32), (r_manner, r_isBest, r_arePlateaus), rfl, Option.some.inj h, by rw [ht]; exact hP, va_K.moved hW.alike hK, hD⟩, hS.F ht⟩) hS.2.2 d_Mo_manner_11
def wd_Mo_resolution (cA : Nat → ClassId) (a_r : Nat → Nat) (r_manner : Int32) (r_above : Int32) (r_below : Int32) (r_nodes : Int32) (r_arcs : Int32) (r_left : Int32) (r_isBest : Int32) (r_arePlateaus : Int32) (r_all : Int64) (r_a : Int64) (r_b : Int64) (r_ties : Int32) (r_z : Int32) (r_plateaus : Int32) : va_W := [(a_r 0, .inr (8, [.int r_manner, .int r_above, .int r_below, .int r_nodes, .int r_arcs, .int r_left, .ref (a_r 1), .ref (a_r 2), .ref (a_r 3), .ref (a_r 4), .ref (a_r 5), .int r_isBest, .int r_arePlateaus, .ref (a_r 6), .ref (a_r 7), .ref (a_r 8), .long r_all, .ref (a_r 9), .ref (a_r 10), .long r_a, .long r_b, .ref (a_r 11), .ref (a_r 12), .ref (a_r 13), .ref (a_r 14), .ref (a_r 15), .int r_ties, .ref (a_r 16), .ref (a_r 17), .ref (a_r 18), .int r_z, .int r_plateaus, .ref (a_r 19), .ref (a_r 20), .ref (a_r 21), .ref (a_r 22)]))]
noncomputable def m_Mo_resolution (r_above : Int32) (r_below : Int32) (r_isBest : Int32) (v1 : Int32) (v2 : Int32) : Option (Int32 × Int32 × Int32 × Int32) :=
  (if v1 < 0 then some ((-2 : Int32), r_above, r_below, r_isBest) else (if (1000 : Int32) < v1 then some ((-2 : Int32), r_above, r_below, r_isBest) else (if v2 < (1 : Int32) then some ((-2 : Int32), r_above, r_below, r_isBest) else (if v2 ≤ (100 : Int32) then some ((1 : Int32), v1, v2, (0 : Int32)) else some ((-2 : Int32), r_above, r_below, r_isBest)))))
set_option maxHeartbeats 4000000 in
set_option maxRecDepth 100000 in
theorem c_Mo_resolution (l : Launch) (D : va_G) (cA : Nat → ClassId) (a_r : Nat → Nat) (sz : Nat) (r_manner : Int32) (r_above : Int32) (r_below : Int32) (r_nodes : Int32) (r_arcs : Int32) (r_left : Int32) (r_isBest : Int32) (r_arePlateaus : Int32) (r_all : Int64) (r_a : Int64) (r_b : Int64) (r_ties : Int32) (r_z : Int32) (r_plateaus : Int32) (v1 : Int32) (v2 : Int32) (out : Int32 × Int32 × Int32 × Int32) (h : m_Mo_resolution r_above r_below r_isBest v1 v2 = some out) : Met l y_Mo_resolution w_Mo_resolution ({ frames := 0, cells := 0, slots := 0, locals := 0 }) (va_Pc [.ref (a_r 0), .int v1, .int v2] (fun U => U.heap.size = sz ∧ va_P D cls9 (wd_Mo_resolution cA a_r r_manner r_above r_below r_nodes r_arcs r_left r_isBest r_arePlateaus r_all r_a r_b r_ties r_z r_plateaus) U.heap ∧ va_K D cls9 (tys5 cA) U ∧ va_D (fun _ => True) (wd_Mo_resolution cA a_r r_manner r_above r_below r_nodes r_arcs r_left r_isBest r_arePlateaus r_all r_a r_b r_ties r_z r_plateaus))) (va_Qi (fun (rr : Int32) (uu : Int32 × Int32 × Int32) => (rr, uu) = out) (fun (uu : Int32 × Int32 × Int32) (t : State) => va_P D cls9 (wd_Mo_resolution cA a_r r_manner uu.1 uu.2.1 r_nodes r_arcs r_left uu.2.2 r_arePlateaus r_all r_a r_b r_ties r_z r_plateaus) t.heap ∧ va_K D cls9 (tys5 cA) t ∧ va_D (va_A (wd_Mo_resolution cA a_r r_manner r_above r_below r_nodes r_arcs r_left r_isBest r_arePlateaus r_all r_a r_b r_ties r_z r_plateaus) sz) (wd_Mo_resolution cA a_r r_manner uu.1 uu.2.1 r_nodes r_arcs r_left uu.2.2 r_arePlateaus r_all r_a r_b r_ties r_z r_plateaus)) (va_A (wd_Mo_resolution cA a_r r_manner r_above r_below r_nodes r_arcs r_left r_isBest r_arePlateaus r_all r_a r_b r_ties r_z r_plateaus) sz)) 0 0 (va_A (wd_Mo_resolution cA a_r r_manner r_above r_below r_nodes r_arcs r_left r_isBest r_arePlateaus r_all r_a r_b r_ties r_z r_plateaus) sz) := by
  refine Met.ofW (cc := b_Mo_resolution) (maxL := 3) (ret := (Option.some Jvm.ClassFile.FieldType.int)) (by decide) rfl ?_
  intro p e s m args below meth c s₁ B hml hv
  obtain ⟨rfl, hsz, hP, hK, hD0⟩ := hv
  have hx := B.exec
  have hb := B.bytes
  have hr := B.returns
  have hts := atoms_spec (ws := w_Mo_resolution) B.pre
  have hal : ∀ w ∈ ALLW, w.before _ s = true := fun w hw => hts w (List.mem_cons_of_mem _ hw)
  have hown : s.vm.findClass R_Mo = some m.cls := findClass_of_methodNamed B.named
  have hlocks := B.notSynchronized
  subst hsz
  have hD := hD0.self (sz := s.heap.size)
  generalize hAe : va_A (wd_Mo_resolution cA a_r r_manner r_above r_below r_nodes r_arcs r_left r_isBest r_arePlateaus r_all r_a r_b r_ties r_z r_plateaus) s.heap.size = A at hD ⊢
  have hA : ∀ q : Nat, s.heap.size ≤ q → A q := fun q h => by rw [← hAe]; exact Or.inr h
  have hS : va_S A s.heap s.heap [] := va_S.rf
  have hl := lv_entry ([.ref (a_r 0), .int v1, .int v2]) (n := 3) (Nat.le_of_ble_eq_true rfl)
  rw [lg_entry_eq]
  generalize (lg_sl ([.ref (a_r 0), .int v1, .int v2]) ++ List.replicate (3 - (lg_sl ([.ref (a_r 0), .int v1, .int v2])).length) Slot.unset).toArray = ls at hl ⊢
  have hl : lv_has ls 3 [(0, .ref (a_r 0)), (1, .int v1), (2, .int v2)] := hl
  refine wg (fun G hG => ?_)
  refine cast (hG _ _ _ _ _ _ _).symm ?_
  obtain ⟨H, locs, hHl, hS⟩ : ∃ (H : Heap) (locs : List Loc), (H = s.heap ∧ locs = []) ∧ va_S A s.heap H locs := ⟨s.heap, [], ⟨rfl, rfl⟩, hS⟩
  have hP : va_P D cls9 (wd_Mo_resolution cA a_r r_manner r_above r_below r_nodes r_arcs r_left r_isBest r_arePlateaus r_all r_a r_b r_ties r_z r_plateaus) H := by rw [hHl.1]; exact hP
  rw [← hHl.1, ← hHl.2]
  clear hHl
  refine lv_iload_n hx hb d_Mo_resolution_0 rfl (lv_at hl 1 rfl) ?_
  refine lv_if_lt (tgt := 22) hx hb d_Mo_resolution_1 (by decide) (fun c_1 => ?_) (fun c_1 => ?_)
  · have h := ifp (c_1) h
    refine lv_bipush (v := (-2)) hx hb d_Mo_resolution_22 (by decide) ?_
    exact W.iret (v := (-2 : Int32)) hx hb hr (fun t ht hW => ⟨⟨(-2 : Int32), (r_above, r_below, r_isBest), rfl, Option.some.inj h, by rw [ht]; exact hP, va_K.moved hW.alike hK, hD⟩, hS.F ht⟩) hS.2.2 d_Mo_resolution_24
  · have h := ifn (c_1) h
    refine lv_iload_n hx hb d_Mo_resolution_4 rfl (lv_at hl 1 rfl) ?_
    refine lv_sipush (v := 1000) hx hb d_Mo_resolution_5 (by decide) ?_
    refine lv_icmp_gt (tgt := 22) hx hb d_Mo_resolution_8 (by decide) (fun c_2 => ?_) (fun c_2 => ?_)
    · have h := ifp (c_2) h
      refine lv_bipush (v := (-2)) hx hb d_Mo_resolution_22 (by decide) ?_
      exact W.iret (v := (-2 : Int32)) hx hb hr (fun t ht hW => ⟨⟨(-2 : Int32), (r_above, r_below, r_isBest), rfl, Option.some.inj h, by rw [ht]; exact hP, va_K.moved hW.alike hK, hD⟩, hS.F ht⟩) hS.2.2 d_Mo_resolution_24
    · have h := ifn (c_2) h
      refine lv_iload_n hx hb d_Mo_resolution_11 rfl (lv_at hl 2 rfl) ?_
      refine lv_iconst (v := 1) hx hb d_Mo_resolution_12 (by decide) ?_
      refine lv_icmp_lt (tgt := 22) hx hb d_Mo_resolution_13 (by decide) (fun c_3 => ?_) (fun c_3 => ?_)
      · have h := ifp (c_3) h
        refine lv_bipush (v := (-2)) hx hb d_Mo_resolution_22 (by decide) ?_
        exact W.iret (v := (-2 : Int32)) hx hb hr (fun t ht hW => ⟨⟨(-2 : Int32), (r_above, r_below, r_isBest), rfl, Option.some.inj h, by rw [ht]; exact hP, va_K.moved hW.alike hK, hD⟩, hS.F ht⟩) hS.2.2 d_Mo_resolution_24
      · have h := ifn (c_3) h
        refine lv_iload_n hx hb d_Mo_resolution_16 rfl (lv_at hl 2 rfl) ?_
        refine lv_bipush (v := 100) hx hb d_Mo_resolution_17 (by decide) ?_
        refine lv_icmp_le (tgt := 25) hx hb d_Mo_resolution_19 (by decide) (fun c_4 => ?_) (fun c_4 => ?_)
        · have h := ifp (c_4) h
          refine lv_aload_n hx hb d_Mo_resolution_25 rfl (lv_at hl 0 rfl) ?_
          refine lv_iload_n hx hb d_Mo_resolution_26 rfl (lv_at hl 1 rfl) ?_
          refine va_put (ci := 8) (v := .int v1) (ty := .int) (C := R_Mo) (T := F_Mo) (N := 36) hx hb hal in_Mo t_Mo t_Mo_ok n_Mo hown hK hP hD hS 0 rfl rfl 1 (by decide) (hal _ kw_638) (fun _ h9 => h9) rfl (by decide +kernel) rfl rfl (Nat.le_of_ble_eq_true rfl) d_Mo_resolution_27 (fun H locs hP hD hS => ?_)
          have hP : va_P D cls9 (wd_Mo_resolution cA a_r r_manner v1 r_below r_nodes r_arcs r_left r_isBest r_arePlateaus r_all r_a r_b r_ties r_z r_plateaus) H := hP
          have hD : va_D A (wd_Mo_resolution cA a_r r_manner v1 r_below r_nodes r_arcs r_left r_isBest r_arePlateaus r_all r_a r_b r_ties r_z r_plateaus) := hD
          refine lv_aload_n hx hb d_Mo_resolution_30 rfl (lv_at hl 0 rfl) ?_
          refine lv_iload_n hx hb d_Mo_resolution_31 rfl (lv_at hl 2 rfl) ?_
          refine va_put (ci := 8) (v := .int v2) (ty := .int) (C := R_Mo) (T := F_Mo) (N := 36) hx hb hal in_Mo t_Mo t_Mo_ok n_Mo hown hK hP hD hS 0 rfl rfl 2 (by decide) (hal _ kw_639) (fun _ h9 => h9) rfl (by decide +kernel) rfl rfl (Nat.le_of_ble_eq_true rfl) d_Mo_resolution_32 (fun H locs hP hD hS => ?_)
          have hP : va_P D cls9 (wd_Mo_resolution cA a_r r_manner v1 v2 r_nodes r_arcs r_left r_isBest r_arePlateaus r_all r_a r_b r_ties r_z r_plateaus) H := hP
          have hD : va_D A (wd_Mo_resolution cA a_r r_manner v1 v2 r_nodes r_arcs r_left r_isBest r_arePlateaus r_all r_a r_b r_ties r_z r_plateaus) := hD
          refine lv_aload_n hx hb d_Mo_resolution_35 rfl (lv_at hl 0 rfl) ?_
          refine lv_iconst (v := 0) hx hb d_Mo_resolution_36 (by decide) ?_
          refine va_put (ci := 8) (v := .int (0 : Int32)) (ty := .boolean) (C := R_Mo) (T := F_Mo) (N := 36) hx hb hal in_Mo t_Mo t_Mo_ok n_Mo hown hK hP hD hS 0 rfl rfl 11 (by decide) (hal _ kw_648) (fun _ h9 => h9) rfl (by decide +kernel) (by decide) (by decide) (Nat.le_of_ble_eq_true rfl) d_Mo_resolution_37 (fun H locs hP hD hS => ?_)
          have hP : va_P D cls9 (wd_Mo_resolution cA a_r r_manner v1 v2 r_nodes r_arcs r_left (0 : Int32) r_arePlateaus r_all r_a r_b r_ties r_z r_plateaus) H := hP
          have hD : va_D A (wd_Mo_resolution cA a_r r_manner v1 v2 r_nodes r_arcs r_left (0 : Int32) r_arePlateaus r_all r_a r_b r_ties r_z r_plateaus) := hD
          refine lv_iconst (v := 1) hx hb d_Mo_resolution_40 (by decide) ?_
          exact W.iret (v := (1 : Int32)) hx hb hr (fun t ht hW => ⟨⟨(1 : Int32), (v1, v2, (0 : Int32)), rfl, Option.some.inj h, by rw [ht]; exact hP, va_K.moved hW.alike hK, hD⟩, hS.F ht⟩) hS.2.2 d_Mo_resolution_41
        · have h := ifn (c_4) h
          refine lv_bipush (v := (-2)) hx hb d_Mo_resolution_22 (by decide) ?_
          exact W.iret (v := (-2 : Int32)) hx hb hr (fun t ht hW => ⟨⟨(-2 : Int32), (r_above, r_below, r_isBest), rfl, Option.some.inj h, by rw [ht]; exact hP, va_K.moved hW.alike hK, hD⟩, hS.F ht⟩) hS.2.2 d_Mo_resolution_24
def wd_Mo_node (cA : Nat → ClassId) (a_r : Nat → Nat) (r_manner : Int32) (r_above : Int32) (r_below : Int32) (r_nodes : Int32) (r_arcs : Int32) (r_left : Int32) (r_isBest : Int32) (r_arePlateaus : Int32) (r_all : Int64) (r_a : Int64) (r_b : Int64) (r_ties : Int32) (r_z : Int32) (r_plateaus : Int32) (r_hand : Nat → Int32) : va_W := [(a_r 0, .inr (8, [.int r_manner, .int r_above, .int r_below, .int r_nodes, .int r_arcs, .int r_left, .ref (a_r 1), .ref (a_r 2), .ref (a_r 3), .ref (a_r 4), .ref (a_r 5), .int r_isBest, .int r_arePlateaus, .ref (a_r 6), .ref (a_r 7), .ref (a_r 8), .long r_all, .ref (a_r 9), .ref (a_r 10), .long r_a, .long r_b, .ref (a_r 11), .ref (a_r 12), .ref (a_r 13), .ref (a_r 14), .ref (a_r 15), .int r_ties, .ref (a_r 16), .ref (a_r 17), .ref (a_r 18), .int r_z, .int r_plateaus, .ref (a_r 19), .ref (a_r 20), .ref (a_r 21), .ref (a_r 22)])), (a_r 5, .inl (cA 0, 9, .inl r_hand))]
noncomputable def m_Mo_node (r_nodes : Int32) (r_isBest : Int32) (r_arePlateaus : Int32) (r_hand : Nat → Int32) : Option (Int32 × Int32 × Int32 × Int32 × (Nat → Int32)) :=
  (if r_nodes = (9 : Int32) then some ((-4 : Int32), r_nodes, r_isBest, r_arePlateaus, r_hand) else ((m_Mo_alone (r_nodes + (1 : Int32)) r_hand).bind (fun r23 : Int32 × Int32 × (Nat → Int32) => some (((r_nodes + (1 : Int32)) - (1 : Int32)), (r_nodes + (1 : Int32)), r23.1, r23.2.1, r23.2.2))))
set_option maxHeartbeats 4000000 in
set_option maxRecDepth 100000 in
theorem c_Mo_node (l : Launch) (D : va_G) (cA : Nat → ClassId) (a_r : Nat → Nat) (sz : Nat) (r_manner : Int32) (r_above : Int32) (r_below : Int32) (r_nodes : Int32) (r_arcs : Int32) (r_left : Int32) (r_isBest : Int32) (r_arePlateaus : Int32) (r_all : Int64) (r_a : Int64) (r_b : Int64) (r_ties : Int32) (r_z : Int32) (r_plateaus : Int32) (r_hand : Nat → Int32)  (out : Int32 × Int32 × Int32 × Int32 × (Nat → Int32)) (h : m_Mo_node r_nodes r_isBest r_arePlateaus r_hand = some out) : Met l y_Mo_node w_Mo_node ({ frames := 1, cells := 0, slots := 0, locals := 21 }) (va_Pc [.ref (a_r 0)] (fun U => U.heap.size = sz ∧ va_P D cls9 (wd_Mo_node cA a_r r_manner r_above r_below r_nodes r_arcs r_left r_isBest r_arePlateaus r_all r_a r_b r_ties r_z r_plateaus r_hand) U.heap ∧ va_K D cls9 (tys5 cA) U ∧ va_D (fun _ => True) (wd_Mo_node cA a_r r_manner r_above r_below r_nodes r_arcs r_left r_isBest r_arePlateaus r_all r_a r_b r_ties r_z r_plateaus r_hand))) (va_Qi (fun (rr : Int32) (uu : Int32 × Int32 × Int32 × (Nat → Int32)) => (rr, uu) = out) (fun (uu : Int32 × Int32 × Int32 × (Nat → Int32)) (t : State) => va_P D cls9 (wd_Mo_node cA a_r r_manner r_above r_below uu.1 r_arcs r_left uu.2.1 uu.2.2.1 r_all r_a r_b r_ties r_z r_plateaus uu.2.2.2) t.heap ∧ va_K D cls9 (tys5 cA) t ∧ va_D (va_A (wd_Mo_node cA a_r r_manner r_above r_below r_nodes r_arcs r_left r_isBest r_arePlateaus r_all r_a r_b r_ties r_z r_plateaus r_hand) sz) (wd_Mo_node cA a_r r_manner r_above r_below uu.1 r_arcs r_left uu.2.1 uu.2.2.1 r_all r_a r_b r_ties r_z r_plateaus uu.2.2.2)) (va_A (wd_Mo_node cA a_r r_manner r_above r_below r_nodes r_arcs r_left r_isBest r_arePlateaus r_all r_a r_b r_ties r_z r_plateaus r_hand) sz)) 0 0 (va_A (wd_Mo_node cA a_r r_manner r_above r_below r_nodes r_arcs r_left r_isBest r_arePlateaus r_all r_a r_b r_ties r_z r_plateaus r_hand) sz) := by
  refine Met.ofW (cc := b_Mo_node) (maxL := 1) (ret := (Option.some Jvm.ClassFile.FieldType.int)) (by decide) rfl ?_
  intro p e s m args below meth c s₁ B hml hv
  obtain ⟨rfl, hsz, hP, hK, hD0⟩ := hv
  have hx := B.exec
  have hb := B.bytes
  have hr := B.returns
  have hts := atoms_spec (ws := w_Mo_node) B.pre
  have hal : ∀ w ∈ ALLW, w.before _ s = true := fun w hw => hts w (List.mem_cons_of_mem _ hw)
  have hown : s.vm.findClass R_Mo = some m.cls := findClass_of_methodNamed B.named
  have hlocks := B.notSynchronized
  subst hsz
  have hD := hD0.self (sz := s.heap.size)
  generalize hAe : va_A (wd_Mo_node cA a_r r_manner r_above r_below r_nodes r_arcs r_left r_isBest r_arePlateaus r_all r_a r_b r_ties r_z r_plateaus r_hand) s.heap.size = A at hD ⊢
  have hA : ∀ q : Nat, s.heap.size ≤ q → A q := fun q h => by rw [← hAe]; exact Or.inr h
  have hS : va_S A s.heap s.heap [] := va_S.rf
  have hl := lv_entry ([.ref (a_r 0)]) (n := 1) (Nat.le_of_ble_eq_true rfl)
  rw [lg_entry_eq]
  generalize (lg_sl ([.ref (a_r 0)]) ++ List.replicate (1 - (lg_sl ([.ref (a_r 0)])).length) Slot.unset).toArray = ls at hl ⊢
  have hl : lv_has ls 1 [(0, .ref (a_r 0))] := hl
  refine wg (fun G hG => ?_)
  refine cast (hG _ _ _ _ _ _ _).symm ?_
  obtain ⟨H, locs, hHl, hS⟩ : ∃ (H : Heap) (locs : List Loc), (H = s.heap ∧ locs = []) ∧ va_S A s.heap H locs := ⟨s.heap, [], ⟨rfl, rfl⟩, hS⟩
  have hP : va_P D cls9 (wd_Mo_node cA a_r r_manner r_above r_below r_nodes r_arcs r_left r_isBest r_arePlateaus r_all r_a r_b r_ties r_z r_plateaus r_hand) H := by rw [hHl.1]; exact hP
  rw [← hHl.1, ← hHl.2]
  clear hHl
  refine lv_aload_n hx hb d_Mo_node_0 rfl (lv_at hl 0 rfl) ?_
  refine va_get (ci := 8) (v := .int r_nodes) (C := R_Mo) (T := F_Mo) (N := 36) hx hb hal in_Mo hown hK hP 0 rfl rfl 3 (by decide) (hal _ kw_640) (fun _ h9 => h9) rfl d_Mo_node_1 ?_
  refine lv_bipush (v := 9) hx hb d_Mo_node_4 (by decide) ?_
  refine lv_icmp_ne (tgt := 12) hx hb d_Mo_node_6 (by decide) (fun c_1 => ?_) (fun c_1 => ?_)
  · have h := ifn (c_1) h
    refine lv_aload_n hx hb d_Mo_node_12 rfl (lv_at hl 0 rfl) ?_
    refine lv_dup hx hb d_Mo_node_13 rfl ?_
    refine va_get (ci := 8) (v := .int r_nodes) (C := R_Mo) (T := F_Mo) (N := 36) hx hb hal in_Mo hown hK hP 0 rfl rfl 3 (by decide) (hal _ kw_640) (fun _ h9 => h9) rfl d_Mo_node_14 ?_
    refine lv_iconst (v := 1) hx hb d_Mo_node_17 (by decide) ?_
    refine lv_iadd hx hb d_Mo_node_18 ?_
    refine va_put (ci := 8) (v := .int (r_nodes + (1 : Int32))) (ty := .int) (C := R_Mo) (T := F_Mo) (N := 36) hx hb hal in_Mo t_Mo t_Mo_ok n_Mo hown hK hP hD hS 0 rfl rfl 3 (by decide) (hal _ kw_640) (fun _ h9 => h9) rfl (by decide +kernel) rfl rfl (Nat.le_of_ble_eq_true rfl) d_Mo_node_19 (fun H locs hP hD hS => ?_)
    have hP : va_P D cls9 (wd_Mo_node cA a_r r_manner r_above r_below (r_nodes + (1 : Int32)) r_arcs r_left r_isBest r_arePlateaus r_all r_a r_b r_ties r_z r_plateaus r_hand) H := hP
    have hD : va_D A (wd_Mo_node cA a_r r_manner r_above r_below (r_nodes + (1 : Int32)) r_arcs r_left r_isBest r_arePlateaus r_all r_a r_b r_ties r_z r_plateaus r_hand) := hD
    refine lv_aload_n hx hb d_Mo_node_22 rfl (lv_at hl 0 rfl) ?_
    obtain ⟨o_8, hc_7, h⟩ := bd h
    have hPc := hP.sub (ws' := (wd_Mo_alone cA a_r r_manner r_above r_below (r_nodes + (1 : Int32)) r_arcs r_left r_isBest r_arePlateaus r_all r_a r_b r_ties r_z r_plateaus r_hand)) [0, 1] rfl
    have hDc := hD.sub (ws' := (wd_Mo_alone cA a_r r_manner r_above r_below (r_nodes + (1 : Int32)) r_arcs r_left r_isBest r_arePlateaus r_all r_a r_b r_ties r_z r_plateaus r_hand)) [0, 1] (by decide) rfl
    have hFc := va_free (wc := (wd_Mo_alone cA a_r r_manner r_above r_below (r_nodes + (1 : Int32)) r_arcs r_left r_isBest r_arePlateaus r_all r_a r_b r_ties r_z r_plateaus r_hand)) hD hS hA [0, 1] rfl
    refine va_callv (va_runV (C := R_Mo) (As := []) (rest := []) ⟨hx, hb, hml, hown, hal⟩ (c_Mo_alone l D cA a_r H.size r_manner r_above r_below (r_nodes + (1 : Int32)) r_arcs r_left r_isBest r_arePlateaus r_all r_a r_b r_ties r_z r_plateaus r_hand o_8 hc_7) (cwV 0 hal (goodV kw_759 kw_761 kw_p25 kw_9 kw_762) rfl rfl rfl (by decide +kernel) ⟨Nat.le_of_ble_eq_true rfl, Nat.le_of_ble_eq_true rfl⟩) ⟨fun a U g mk q => by obtain ⟨q0, q1, qP, qK, qD⟩ := q; exact ⟨q0, q1, qP, va_K.moved (u := U) (U := U.calling g mk a) (Vm.Alike.refl U.vm) qK, qD⟩, va_recv hK hP (ci := 8) (q0 := 0) rfl rfl, fun U hU hW => ⟨rfl, by rw [hU], by rw [hU]; exact hPc, va_K.moved hW.alike hK, hDc.weaken (fun _ _ _ _ => trivial)⟩⟩ rfl rfl hl.1 rfl (lv_room (Nat.le_of_ble_eq_true rfl)) d_Mo_node_23 ⟨Nat.le_of_ble_eq_true rfl, Nat.le_of_ble_eq_true rfl⟩) hS (fun q _ h => hFc q h) hFc (fun u t H1 locs ht hvm hw hB hz1 hk1 hS => ?_)
    obtain ⟨u_4, u_5, u_6⟩ := u
    subst hw
    obtain ⟨hP1, hK1, hD1⟩ := hB
    rw [ht] at hP1
    have hP1 : va_P D cls9 (wd_Mo_alone cA a_r r_manner r_above r_below (r_nodes + (1 : Int32)) r_arcs r_left u_4 u_5 r_all r_a r_b r_ties r_z r_plateaus u_6) H1 := hP1
    obtain ⟨hP, hD⟩ := va_join (wr := ([] : List Nat).filterMap (fun i => (wd_Mo_node cA a_r r_manner r_above r_below (r_nodes + (1 : Int32)) r_arcs r_left r_isBest r_arePlateaus r_all r_a r_b r_ties r_z r_plateaus r_hand)[i]?)) (w1 := (wd_Mo_alone cA a_r r_manner r_above r_below (r_nodes + (1 : Int32)) r_arcs r_left u_4 u_5 r_all r_a r_b r_ties r_z r_plateaus u_6)) hP hD [0, 1] [] rfl rfl (by decide) (by decide) hk1 hFc hP1 hD1
    generalize H1 = H at hP hS ⊢
    have hP : va_P D cls9 (wd_Mo_node cA a_r r_manner r_above r_below (r_nodes + (1 : Int32)) r_arcs r_left u_4 u_5 r_all r_a r_b r_ties r_z r_plateaus u_6) H := hP.sub [0, 1] rfl
    have hD : va_D A (wd_Mo_node cA a_r r_manner r_above r_below (r_nodes + (1 : Int32)) r_arcs r_left u_4 u_5 r_all r_a r_b r_ties r_z r_plateaus u_6) := hD.sub [0, 1] (by decide) rfl
    refine lv_aload_n hx hb d_Mo_node_26 rfl (lv_at hl 0 rfl) ?_
    refine va_get (ci := 8) (v := .int (r_nodes + (1 : Int32))) (C := R_Mo) (T := F_Mo) (N := 36) hx hb hal in_Mo hown hK hP 0 rfl rfl 3 (by decide) (hal _ kw_640) (fun _ h9 => h9) rfl d_Mo_node_27 ?_
    refine lv_iconst (v := 1) hx hb d_Mo_node_30 (by decide) ?_
    refine lv_isub hx hb d_Mo_node_31 ?_
    exact W.iret (v := ((r_nodes + (1 : Int32)) - (1 : Int32))) hx hb hr (fun t ht hW => ⟨⟨((r_nodes + (1 : Int32)) - (1 : Int32)), ((r_nodes + (1 : Int32)), u_4, u_5, u_6), rfl, Option.some.inj h, by rw [ht]; exact hP, va_K.moved hW.alike hK, hD⟩, hS.F ht⟩) hS.2.2 d_Mo_node_32
  · have h := ifp (c_1) h
    refine lv_bipush (v := (-4)) hx hb d_Mo_node_9 (by decide) ?_
    exact W.iret (v := (-4 : Int32)) hx hb hr (fun t ht hW => ⟨⟨(-4 : Int32), (r_nodes, r_isBest, r_arePlateaus, r_hand), rfl, Option.some.inj h, by rw [ht]; exact hP, va_K.moved hW.alike hK, hD⟩, hS.F ht⟩) hS.2.2 d_Mo_node_11
def wd_Mo_arc (cA : Nat → ClassId) (a_r : Nat → Nat) (r_manner : Int32) (r_above : Int32) (r_below : Int32) (r_nodes : Int32) (r_arcs : Int32) (r_left : Int32) (r_isBest : Int32) (r_arePlateaus : Int32) (r_all : Int64) (r_a : Int64) (r_b : Int64) (r_ties : Int32) (r_z : Int32) (r_plateaus : Int32) (r_ones : Nat → Int32) (r_others : Nat → Int32) (r_weights : Nat → Int32) (r_there : Nat → Int32) (r_hand : Nat → Int32) : va_W := [(a_r 0, .inr (8, [.int r_manner, .int r_above, .int r_below, .int r_nodes, .int r_arcs, .int r_left, .ref (a_r 1), .ref (a_r 2), .ref (a_r 3), .ref (a_r 4), .ref (a_r 5), .int r_isBest, .int r_arePlateaus, .ref (a_r 6), .ref (a_r 7), .ref (a_r 8), .long r_all, .ref (a_r 9), .ref (a_r 10), .long r_a, .long r_b, .ref (a_r 11), .ref (a_r 12), .ref (a_r 13), .ref (a_r 14), .ref (a_r 15), .int r_ties, .ref (a_r 16), .ref (a_r 17), .ref (a_r 18), .int r_z, .int r_plateaus, .ref (a_r 19), .ref (a_r 20), .ref (a_r 21), .ref (a_r 22)])), (a_r 1, .inl (cA 0, 36, .inl r_ones)), (a_r 2, .inl (cA 0, 36, .inl r_others)), (a_r 3, .inl (cA 0, 36, .inl r_weights)), (a_r 4, .inl (cA 2, 36, .inl r_there)), (a_r 5, .inl (cA 0, 9, .inl r_hand))]
noncomputable def m_Mo_arc (r_nodes : Int32) (r_arcs : Int32) (r_left : Int32) (r_isBest : Int32) (r_arePlateaus : Int32) (r_ones : Nat → Int32) (r_others : Nat → Int32) (r_weights : Nat → Int32) (r_there : Nat → Int32) (r_hand : Nat → Int32) (v1 : Int32) (v2 : Int32) (v3 : Int32) : Option (Int32 × Int32 × Int32 × Int32 × Int32 × (Nat → Int32) × (Nat → Int32) × (Nat → Int32) × (Nat → Int32) × (Nat → Int32)) :=
  ((m_Mo_isNode r_nodes v1).bind (fun r2 : Int32 => (if r2 = 0 then some ((-1 : Int32), r_arcs, r_left, r_isBest, r_arePlateaus, r_ones, r_others, r_weights, r_there, r_hand) else ((m_Mo_isNode r_nodes v2).bind (fun r10 : Int32 => (if r10 = 0 then some ((-1 : Int32), r_arcs, r_left, r_isBest, r_arePlateaus, r_ones, r_others, r_weights, r_there, r_hand) else (if v1 = v2 then some ((-1 : Int32), r_arcs, r_left, r_isBest, r_arePlateaus, r_ones, r_others, r_weights, r_there, r_hand) else (if v3 < (-50 : Int32) then some ((-2 : Int32), r_arcs, r_left, r_isBest, r_arePlateaus, r_ones, r_others, r_weights, r_there, r_hand) else (if (50 : Int32) < v3 then some ((-2 : Int32), r_arcs, r_left, r_isBest, r_arePlateaus, r_ones, r_others, r_weights, r_there, r_hand) else (if v3 = 0 then some ((-2 : Int32), r_arcs, r_left, r_isBest, r_arePlateaus, r_ones, r_others, r_weights, r_there, r_hand) else (if r_arcs = (36 : Int32) then some ((-4 : Int32), r_arcs, r_left, r_isBest, r_arePlateaus, r_ones, r_others, r_weights, r_there, r_hand) else (if inb r_arcs 36 then ((m_Mo_alone r_nodes r_hand).bind (fun r115 : Int32 × Int32 × (Nat → Int32) => some (((r_arcs + (1 : Int32)) - (1 : Int32)), (r_arcs + (1 : Int32)), (r_left + (1 : Int32)), r115.1, r115.2.1, (upd r_ones r_arcs.toNatClampNeg v1), (upd r_others r_arcs.toNatClampNeg v2), (upd r_weights r_arcs.toNatClampNeg v3), (upd r_there r_arcs.toNatClampNeg (vp_nar .boolean (1 : Int32))), r115.2.2))) else none))))))))))))
set_option maxHeartbeats 4000000 in
set_option maxRecDepth 100000 in
theorem c_Mo_arc (l : Launch) (D : va_G) (cA : Nat → ClassId) (a_r : Nat → Nat) (sz : Nat) (r_manner : Int32) (r_above : Int32) (r_below : Int32) (r_nodes : Int32) (r_arcs : Int32) (r_left : Int32) (r_isBest : Int32) (r_arePlateaus : Int32) (r_all : Int64) (r_a : Int64) (r_b : Int64) (r_ties : Int32) (r_z : Int32) (r_plateaus : Int32) (r_ones : Nat → Int32) (r_others : Nat → Int32) (r_weights : Nat → Int32) (r_there : Nat → Int32) (r_hand : Nat → Int32) (v1 : Int32) (v2 : Int32) (v3 : Int32) (out : Int32 × Int32 × Int32 × Int32 × Int32 × (Nat → Int32) × (Nat → Int32) × (Nat → Int32) × (Nat → Int32) × (Nat → Int32)) (h : m_Mo_arc r_nodes r_arcs r_left r_isBest r_arePlateaus r_ones r_others r_weights r_there r_hand v1 v2 v3 = some out) : Met l y_Mo_arc w_Mo_arc ({ frames := 1, cells := 0, slots := 0, locals := 21 }) (va_Pc [.ref (a_r 0), .int v1, .int v2, .int v3] (fun U => U.heap.size = sz ∧ va_P D cls9 (wd_Mo_arc cA a_r r_manner r_above r_below r_nodes r_arcs r_left r_isBest r_arePlateaus r_all r_a r_b r_ties r_z r_plateaus r_ones r_others r_weights r_there r_hand) U.heap ∧ va_K D cls9 (tys5 cA) U ∧ va_D (fun _ => True) (wd_Mo_arc cA a_r r_manner r_above r_below r_nodes r_arcs r_left r_isBest r_arePlateaus r_all r_a r_b r_ties r_z r_plateaus r_ones r_others r_weights r_there r_hand))) (va_Qi (fun (rr : Int32) (uu : Int32 × Int32 × Int32 × Int32 × (Nat → Int32) × (Nat → Int32) × (Nat → Int32) × (Nat → Int32) × (Nat → Int32)) => (rr, uu) = out) (fun (uu : Int32 × Int32 × Int32 × Int32 × (Nat → Int32) × (Nat → Int32) × (Nat → Int32) × (Nat → Int32) × (Nat → Int32)) (t : State) => va_P D cls9 (wd_Mo_arc cA a_r r_manner r_above r_below r_nodes uu.1 uu.2.1 uu.2.2.1 uu.2.2.2.1 r_all r_a r_b r_ties r_z r_plateaus uu.2.2.2.2.1 uu.2.2.2.2.2.1 uu.2.2.2.2.2.2.1 uu.2.2.2.2.2.2.2.1 uu.2.2.2.2.2.2.2.2) t.heap ∧ va_K D cls9 (tys5 cA) t ∧ va_D (va_A (wd_Mo_arc cA a_r r_manner r_above r_below r_nodes r_arcs r_left r_isBest r_arePlateaus r_all r_a r_b r_ties r_z r_plateaus r_ones r_others r_weights r_there r_hand) sz) (wd_Mo_arc cA a_r r_manner r_above r_below r_nodes uu.1 uu.2.1 uu.2.2.1 uu.2.2.2.1 r_all r_a r_b r_ties r_z r_plateaus uu.2.2.2.2.1 uu.2.2.2.2.2.1 uu.2.2.2.2.2.2.1 uu.2.2.2.2.2.2.2.1 uu.2.2.2.2.2.2.2.2)) (va_A (wd_Mo_arc cA a_r r_manner r_above r_below r_nodes r_arcs r_left r_isBest r_arePlateaus r_all r_a r_b r_ties r_z r_plateaus r_ones r_others r_weights r_there r_hand) sz)) 0 0 (va_A (wd_Mo_arc cA a_r r_manner r_above r_below r_nodes r_arcs r_left r_isBest r_arePlateaus r_all r_a r_b r_ties r_z r_plateaus r_ones r_others r_weights r_there r_hand) sz) := by
  refine Met.ofW (cc := b_Mo_arc) (maxL := 4) (ret := (Option.some Jvm.ClassFile.FieldType.int)) (by decide) rfl ?_
  intro p e s m args below meth c s₁ B hml hv
  obtain ⟨rfl, hsz, hP, hK, hD0⟩ := hv
  have hx := B.exec
  have hb := B.bytes
  have hr := B.returns
  have hts := atoms_spec (ws := w_Mo_arc) B.pre
  have hal : ∀ w ∈ ALLW, w.before _ s = true := fun w hw => hts w (List.mem_cons_of_mem _ hw)
  have hown : s.vm.findClass R_Mo = some m.cls := findClass_of_methodNamed B.named
  have hlocks := B.notSynchronized
  subst hsz
  have hD := hD0.self (sz := s.heap.size)
  generalize hAe : va_A (wd_Mo_arc cA a_r r_manner r_above r_below r_nodes r_arcs r_left r_isBest r_arePlateaus r_all r_a r_b r_ties r_z r_plateaus r_ones r_others r_weights r_there r_hand) s.heap.size = A at hD ⊢
  have hA : ∀ q : Nat, s.heap.size ≤ q → A q := fun q h => by rw [← hAe]; exact Or.inr h
  have hS : va_S A s.heap s.heap [] := va_S.rf
  have hl := lv_entry ([.ref (a_r 0), .int v1, .int v2, .int v3]) (n := 4) (Nat.le_of_ble_eq_true rfl)
  rw [lg_entry_eq]
  generalize (lg_sl ([.ref (a_r 0), .int v1, .int v2, .int v3]) ++ List.replicate (4 - (lg_sl ([.ref (a_r 0), .int v1, .int v2, .int v3])).length) Slot.unset).toArray = ls at hl ⊢
  have hl : lv_has ls 4 [(0, .ref (a_r 0)), (1, .int v1), (2, .int v2), (3, .int v3)] := hl
  refine wg (fun G hG => ?_)
  refine cast (hG _ _ _ _ _ _ _).symm ?_
  obtain ⟨H, locs, hHl, hS⟩ : ∃ (H : Heap) (locs : List Loc), (H = s.heap ∧ locs = []) ∧ va_S A s.heap H locs := ⟨s.heap, [], ⟨rfl, rfl⟩, hS⟩
  have hP : va_P D cls9 (wd_Mo_arc cA a_r r_manner r_above r_below r_nodes r_arcs r_left r_isBest r_arePlateaus r_all r_a r_b r_ties r_z r_plateaus r_ones r_others r_weights r_there r_hand) H := by rw [hHl.1]; exact hP
  rw [← hHl.1, ← hHl.2]
  clear hHl
  refine lv_aload_n hx hb d_Mo_arc_0 rfl (lv_at hl 0 rfl) ?_
  refine lv_iload_n hx hb d_Mo_arc_1 rfl (lv_at hl 1 rfl) ?_
  obtain ⟨o_4, hc_3, h⟩ := bd h
  have hPc := hP.sub (ws' := (wd_Mo_isNode cA a_r r_manner r_above r_below r_nodes r_arcs r_left r_isBest r_arePlateaus r_all r_a r_b r_ties r_z r_plateaus)) [0] rfl
  have hDc := hD.sub (ws' := (wd_Mo_isNode cA a_r r_manner r_above r_below r_nodes r_arcs r_left r_isBest r_arePlateaus r_all r_a r_b r_ties r_z r_plateaus)) [0] (by decide) rfl
  have hFc := va_free (wc := (wd_Mo_isNode cA a_r r_manner r_above r_below r_nodes r_arcs r_left r_isBest r_arePlateaus r_all r_a r_b r_ties r_z r_plateaus)) hD hS hA [0] rfl
  refine va_calli (va_runV (C := R_Mo) (As := [.int v1]) (rest := []) ⟨hx, hb, hml, hown, hal⟩ (c_Mo_isNode l D cA a_r H.size r_manner r_above r_below r_nodes r_arcs r_left r_isBest r_arePlateaus r_all r_a r_b r_ties r_z r_plateaus v1 o_4 hc_3) (cwV 1 hal (goodV kw_767 kw_769 kw_p26 kw_9 kw_770) rfl rfl rfl (by decide +kernel) ⟨Nat.le_of_ble_eq_true rfl, Nat.le_of_ble_eq_true rfl⟩) ⟨fun a U g mk q => by obtain ⟨q0, q1, qP, qK, qD⟩ := q; exact ⟨q0, q1, qP, va_K.moved (u := U) (U := U.calling g mk a) (Vm.Alike.refl U.vm) qK, qD⟩, va_recv hK hP (ci := 8) (q0 := 0) rfl rfl, fun U hU hW => ⟨rfl, by rw [hU], by rw [hU]; exact hPc, va_K.moved hW.alike hK, hDc.weaken (fun _ _ _ _ => trivial)⟩⟩ rfl rfl hl.1 rfl (lv_room (Nat.le_of_ble_eq_true rfl)) d_Mo_arc_2 ⟨Nat.le_of_ble_eq_true rfl, Nat.le_of_ble_eq_true rfl⟩) hS (fun q _ h => hFc q h) hFc (fun r_2 u t H1 locs ht hvm hw hB hz1 hk1 hS => ?_)
  subst hw
  obtain ⟨hP1, hK1, hD1⟩ := hB
  rw [ht] at hP1
  have hP1 : va_P D cls9 (wd_Mo_isNode cA a_r r_manner r_above r_below r_nodes r_arcs r_left r_isBest r_arePlateaus r_all r_a r_b r_ties r_z r_plateaus) H1 := hP1
  obtain ⟨hP, hD⟩ := va_join (wr := ([1, 2, 3, 4, 5] : List Nat).filterMap (fun i => (wd_Mo_arc cA a_r r_manner r_above r_below r_nodes r_arcs r_left r_isBest r_arePlateaus r_all r_a r_b r_ties r_z r_plateaus r_ones r_others r_weights r_there r_hand)[i]?)) (w1 := (wd_Mo_isNode cA a_r r_manner r_above r_below r_nodes r_arcs r_left r_isBest r_arePlateaus r_all r_a r_b r_ties r_z r_plateaus)) hP hD [0] [1, 2, 3, 4, 5] rfl rfl (by decide) (by decide) hk1 hFc hP1 hD1
  generalize H1 = H at hP hS ⊢
  have hP : va_P D cls9 (wd_Mo_arc cA a_r r_manner r_above r_below r_nodes r_arcs r_left r_isBest r_arePlateaus r_all r_a r_b r_ties r_z r_plateaus r_ones r_others r_weights r_there r_hand) H := hP.sub [5, 0, 1, 2, 3, 4] rfl
  have hD : va_D A (wd_Mo_arc cA a_r r_manner r_above r_below r_nodes r_arcs r_left r_isBest r_arePlateaus r_all r_a r_b r_ties r_z r_plateaus r_ones r_others r_weights r_there r_hand) := hD.sub [5, 0, 1, 2, 3, 4] (by decide) rfl
  refine lv_if_eq (tgt := 21) hx hb d_Mo_arc_5 (by decide) (fun c_5 => ?_) (fun c_5 => ?_)
  · have h := ifp (c_5) h
    refine lv_iconst (v := (-1)) hx hb d_Mo_arc_21 (by decide) ?_
    exact W.iret (v := (-1 : Int32)) hx hb hr (fun t ht hW => ⟨⟨(-1 : Int32), (r_arcs, r_left, r_isBest, r_arePlateaus, r_ones, r_others, r_weights, r_there, r_hand), rfl, Option.some.inj h, by rw [ht]; exact hP, va_K.moved hW.alike hK, hD⟩, hS.F ht⟩) hS.2.2 d_Mo_arc_22
  · have h := ifn (c_5) h
    refine lv_aload_n hx hb d_Mo_arc_8 rfl (lv_at hl 0 rfl) ?_
    refine lv_iload_n hx hb d_Mo_arc_9 rfl (lv_at hl 2 rfl) ?_
    obtain ⟨o_9, hc_8, h⟩ := bd h
    have hPc := hP.sub (ws' := (wd_Mo_isNode cA a_r r_manner r_above r_below r_nodes r_arcs r_left r_isBest r_arePlateaus r_all r_a r_b r_ties r_z r_plateaus)) [0] rfl
    have hDc := hD.sub (ws' := (wd_Mo_isNode cA a_r r_manner r_above r_below r_nodes r_arcs r_left r_isBest r_arePlateaus r_all r_a r_b r_ties r_z r_plateaus)) [0] (by decide) rfl
    have hFc := va_free (wc := (wd_Mo_isNode cA a_r r_manner r_above r_below r_nodes r_arcs r_left r_isBest r_arePlateaus r_all r_a r_b r_ties r_z r_plateaus)) hD hS hA [0] rfl
    refine va_calli (va_runV (C := R_Mo) (As := [.int v2]) (rest := []) ⟨hx, hb, hml, hown, hal⟩ (c_Mo_isNode l D cA a_r H.size r_manner r_above r_below r_nodes r_arcs r_left r_isBest r_arePlateaus r_all r_a r_b r_ties r_z r_plateaus v2 o_9 hc_8) (cwV 1 hal (goodV kw_767 kw_769 kw_p26 kw_9 kw_770) rfl rfl rfl (by decide +kernel) ⟨Nat.le_of_ble_eq_true rfl, Nat.le_of_ble_eq_true rfl⟩) ⟨fun a U g mk q => by obtain ⟨q0, q1, qP, qK, qD⟩ := q; exact ⟨q0, q1, qP, va_K.moved (u := U) (U := U.calling g mk a) (Vm.Alike.refl U.vm) qK, qD⟩, va_recv hK hP (ci := 8) (q0 := 0) rfl rfl, fun U hU hW => ⟨rfl, by rw [hU], by rw [hU]; exact hPc, va_K.moved hW.alike hK, hDc.weaken (fun _ _ _ _ => trivial)⟩⟩ rfl rfl hl.1 rfl (lv_room (Nat.le_of_ble_eq_true rfl)) d_Mo_arc_10 ⟨Nat.le_of_ble_eq_true rfl, Nat.le_of_ble_eq_true rfl⟩) hS (fun q _ h => hFc q h) hFc (fun r_7 u t H1 locs ht hvm hw hB hz1 hk1 hS => ?_)
    subst hw
    obtain ⟨hP1, hK1, hD1⟩ := hB
    rw [ht] at hP1
    have hP1 : va_P D cls9 (wd_Mo_isNode cA a_r r_manner r_above r_below r_nodes r_arcs r_left r_isBest r_arePlateaus r_all r_a r_b r_ties r_z r_plateaus) H1 := hP1
    obtain ⟨hP, hD⟩ := va_join (wr := ([1, 2, 3, 4, 5] : List Nat).filterMap (fun i => (wd_Mo_arc cA a_r r_manner r_above r_below r_nodes r_arcs r_left r_isBest r_arePlateaus r_all r_a r_b r_ties r_z r_plateaus r_ones r_others r_weights r_there r_hand)[i]?)) (w1 := (wd_Mo_isNode cA a_r r_manner r_above r_below r_nodes r_arcs r_left r_isBest r_arePlateaus r_all r_a r_b r_ties r_z r_plateaus)) hP hD [0] [1, 2, 3, 4, 5] rfl rfl (by decide) (by decide) hk1 hFc hP1 hD1
    generalize H1 = H at hP hS ⊢
    have hP : va_P D cls9 (wd_Mo_arc cA a_r r_manner r_above r_below r_nodes r_arcs r_left r_isBest r_arePlateaus r_all r_a r_b r_ties r_z r_plateaus r_ones r_others r_weights r_there r_hand) H := hP.sub [5, 0, 1, 2, 3, 4] rfl
    have hD : va_D A (wd_Mo_arc cA a_r r_manner r_above r_below r_nodes r_arcs r_left r_isBest r_arePlateaus r_all r_a r_b r_ties r_z r_plateaus r_ones r_others r_weights r_there r_hand) := hD.sub [5, 0, 1, 2, 3, 4] (by decide) rfl
    refine lv_if_eq (tgt := 21) hx hb d_Mo_arc_13 (by decide) (fun c_10 => ?_) (fun c_10 => ?_)
    · have h := ifp (c_10) h
      refine lv_iconst (v := (-1)) hx hb d_Mo_arc_21 (by decide) ?_
      exact W.iret (v := (-1 : Int32)) hx hb hr (fun t ht hW => ⟨⟨(-1 : Int32), (r_arcs, r_left, r_isBest, r_arePlateaus, r_ones, r_others, r_weights, r_there, r_hand), rfl, Option.some.inj h, by rw [ht]; exact hP, va_K.moved hW.alike hK, hD⟩, hS.F ht⟩) hS.2.2 d_Mo_arc_22
    · have h := ifn (c_10) h
      refine lv_iload_n hx hb d_Mo_arc_16 rfl (lv_at hl 1 rfl) ?_
      refine lv_iload_n hx hb d_Mo_arc_17 rfl (lv_at hl 2 rfl) ?_
      refine lv_icmp_ne (tgt := 23) hx hb d_Mo_arc_18 (by decide) (fun c_11 => ?_) (fun c_11 => ?_)
      · have h := ifn (c_11) h
        refine lv_iload_n hx hb d_Mo_arc_23 rfl (lv_at hl 3 rfl) ?_
        refine lv_bipush (v := (-50)) hx hb d_Mo_arc_24 (by decide) ?_
        refine lv_icmp_lt (tgt := 39) hx hb d_Mo_arc_26 (by decide) (fun c_12 => ?_) (fun c_12 => ?_)
        · have h := ifp (c_12) h
          refine lv_bipush (v := (-2)) hx hb d_Mo_arc_39 (by decide) ?_
          exact W.iret (v := (-2 : Int32)) hx hb hr (fun t ht hW => ⟨⟨(-2 : Int32), (r_arcs, r_left, r_isBest, r_arePlateaus, r_ones, r_others, r_weights, r_there, r_hand), rfl, Option.some.inj h, by rw [ht]; exact hP, va_K.moved hW.alike hK, hD⟩, hS.F ht⟩) hS.2.2 d_Mo_arc_41
        · have h := ifn (c_12) h
          refine lv_iload_n hx hb d_Mo_arc_29 rfl (lv_at hl 3 rfl) ?_
          refine lv_bipush (v := 50) hx hb d_Mo_arc_30 (by decide) ?_
          refine lv_icmp_gt (tgt := 39) hx hb d_Mo_arc_32 (by decide) (fun c_13 => ?_) (fun c_13 => ?_)
          · have h := ifp (c_13) h
            refine lv_bipush (v := (-2)) hx hb d_Mo_arc_39 (by decide) ?_
            exact W.iret (v := (-2 : Int32)) hx hb hr (fun t ht hW => ⟨⟨(-2 : Int32), (r_arcs, r_left, r_isBest, r_arePlateaus, r_ones, r_others, r_weights, r_there, r_hand), rfl, Option.some.inj h, by rw [ht]; exact hP, va_K.moved hW.alike hK, hD⟩, hS.F ht⟩) hS.2.2 d_Mo_arc_41
          · have h := ifn (c_13) h
            refine lv_iload_n hx hb d_Mo_arc_35 rfl (lv_at hl 3 rfl) ?_
            refine lv_if_ne (tgt := 42) hx hb d_Mo_arc_36 (by decide) (fun c_14 => ?_) (fun c_14 => ?_)
            · have h := ifn (c_14) h
              refine lv_aload_n hx hb d_Mo_arc_42 rfl (lv_at hl 0 rfl) ?_
              refine va_get (ci := 8) (v := .int r_arcs) (C := R_Mo) (T := F_Mo) (N := 36) hx hb hal in_Mo hown hK hP 0 rfl rfl 4 (by decide) (hal _ kw_641) (fun _ h9 => h9) rfl d_Mo_arc_43 ?_
              refine lv_bipush (v := 36) hx hb d_Mo_arc_46 (by decide) ?_
              refine lv_icmp_ne (tgt := 54) hx hb d_Mo_arc_48 (by decide) (fun c_15 => ?_) (fun c_15 => ?_)
              · have h := ifn (c_15) h
                refine lv_aload_n hx hb d_Mo_arc_54 rfl (lv_at hl 0 rfl) ?_
                refine va_get (ci := 8) (v := .ref (a_r 1)) (C := R_Mo) (T := F_Mo) (N := 36) hx hb hal in_Mo hown hK hP 0 rfl rfl 6 (by decide) (hal _ kw_643) (fun _ h9 => h9) rfl d_Mo_arc_55 ?_
                refine lv_aload_n hx hb d_Mo_arc_58 rfl (lv_at hl 0 rfl) ?_
                refine va_get (ci := 8) (v := .int r_arcs) (C := R_Mo) (T := F_Mo) (N := 36) hx hb hal in_Mo hown hK hP 0 rfl rfl 4 (by decide) (hal _ kw_641) (fun _ h9 => h9) rfl d_Mo_arc_59 ?_
                refine lv_iload_n hx hb d_Mo_arc_62 rfl (lv_at hl 1 rfl) ?_
                obtain ⟨g_16, h⟩ := gd h
                refine va_iast hx hb hK hP hD hS 1 0 rfl rfl (inb_in g_16) d_Mo_arc_63 (fun H locs hP hD hS => ?_)
                have hP : va_P D cls9 (wd_Mo_arc cA a_r r_manner r_above r_below r_nodes r_arcs r_left r_isBest r_arePlateaus r_all r_a r_b r_ties r_z r_plateaus (upd r_ones r_arcs.toNatClampNeg v1) r_others r_weights r_there r_hand) H := hP
                have hD : va_D A (wd_Mo_arc cA a_r r_manner r_above r_below r_nodes r_arcs r_left r_isBest r_arePlateaus r_all r_a r_b r_ties r_z r_plateaus (upd r_ones r_arcs.toNatClampNeg v1) r_others r_weights r_there r_hand) := hD
                refine lv_aload_n hx hb d_Mo_arc_64 rfl (lv_at hl 0 rfl) ?_
                refine va_get (ci := 8) (v := .ref (a_r 2)) (C := R_Mo) (T := F_Mo) (N := 36) hx hb hal in_Mo hown hK hP 0 rfl rfl 7 (by decide) (hal _ kw_644) (fun _ h9 => h9) rfl d_Mo_arc_65 ?_
                refine lv_aload_n hx hb d_Mo_arc_68 rfl (lv_at hl 0 rfl) ?_
                refine va_get (ci := 8) (v := .int r_arcs) (C := R_Mo) (T := F_Mo) (N := 36) hx hb hal in_Mo hown hK hP 0 rfl rfl 4 (by decide) (hal _ kw_641) (fun _ h9 => h9) rfl d_Mo_arc_69 ?_
                refine lv_iload_n hx hb d_Mo_arc_72 rfl (lv_at hl 2 rfl) ?_
                refine va_iast hx hb hK hP hD hS 2 0 rfl rfl (inb_in g_16) d_Mo_arc_73 (fun H locs hP hD hS => ?_)
                have hP : va_P D cls9 (wd_Mo_arc cA a_r r_manner r_above r_below r_nodes r_arcs r_left r_isBest r_arePlateaus r_all r_a r_b r_ties r_z r_plateaus (upd r_ones r_arcs.toNatClampNeg v1) (upd r_others r_arcs.toNatClampNeg v2) r_weights r_there r_hand) H := hP
                have hD : va_D A (wd_Mo_arc cA a_r r_manner r_above r_below r_nodes r_arcs r_left r_isBest r_arePlateaus r_all r_a r_b r_ties r_z r_plateaus (upd r_ones r_arcs.toNatClampNeg v1) (upd r_others r_arcs.toNatClampNeg v2) r_weights r_there r_hand) := hD
                refine lv_aload_n hx hb d_Mo_arc_74 rfl (lv_at hl 0 rfl) ?_
                refine va_get (ci := 8) (v := .ref (a_r 3)) (C := R_Mo) (T := F_Mo) (N := 36) hx hb hal in_Mo hown hK hP 0 rfl rfl 8 (by decide) (hal _ kw_645) (fun _ h9 => h9) rfl d_Mo_arc_75 ?_
                refine lv_aload_n hx hb d_Mo_arc_78 rfl (lv_at hl 0 rfl) ?_
                refine va_get (ci := 8) (v := .int r_arcs) (C := R_Mo) (T := F_Mo) (N := 36) hx hb hal in_Mo hown hK hP 0 rfl rfl 4 (by decide) (hal _ kw_641) (fun _ h9 => h9) rfl d_Mo_arc_79 ?_
                refine lv_iload_n hx hb d_Mo_arc_82 rfl (lv_at hl 3 rfl) ?_
                refine va_iast hx hb hK hP hD hS 3 0 rfl rfl (inb_in g_16) d_Mo_arc_83 (fun H locs hP hD hS => ?_)
                have hP : va_P D cls9 (wd_Mo_arc cA a_r r_manner r_above r_below r_nodes r_arcs r_left r_isBest r_arePlateaus r_all r_a r_b r_ties r_z r_plateaus (upd r_ones r_arcs.toNatClampNeg v1) (upd r_others r_arcs.toNatClampNeg v2) (upd r_weights r_arcs.toNatClampNeg v3) r_there r_hand) H := hP
                have hD : va_D A (wd_Mo_arc cA a_r r_manner r_above r_below r_nodes r_arcs r_left r_isBest r_arePlateaus r_all r_a r_b r_ties r_z r_plateaus (upd r_ones r_arcs.toNatClampNeg v1) (upd r_others r_arcs.toNatClampNeg v2) (upd r_weights r_arcs.toNatClampNeg v3) r_there r_hand) := hD
                refine lv_aload_n hx hb d_Mo_arc_84 rfl (lv_at hl 0 rfl) ?_
                refine va_get (ci := 8) (v := .ref (a_r 4)) (C := R_Mo) (T := F_Mo) (N := 36) hx hb hal in_Mo hown hK hP 0 rfl rfl 9 (by decide) (hal _ kw_646) (fun _ h9 => h9) rfl d_Mo_arc_85 ?_
                refine lv_aload_n hx hb d_Mo_arc_88 rfl (lv_at hl 0 rfl) ?_
                refine va_get (ci := 8) (v := .int r_arcs) (C := R_Mo) (T := F_Mo) (N := 36) hx hb hal in_Mo hown hK hP 0 rfl rfl 4 (by decide) (hal _ kw_641) (fun _ h9 => h9) rfl d_Mo_arc_89 ?_
                refine lv_iconst (v := 1) hx hb d_Mo_arc_92 (by decide) ?_
                refine va_zast hx hb hK hP hD hS 4 2 rfl rfl (inb_in g_16) d_Mo_arc_93 (fun H locs hP hD hS => ?_)
                have hP : va_P D cls9 (wd_Mo_arc cA a_r r_manner r_above r_below r_nodes r_arcs r_left r_isBest r_arePlateaus r_all r_a r_b r_ties r_z r_plateaus (upd r_ones r_arcs.toNatClampNeg v1) (upd r_others r_arcs.toNatClampNeg v2) (upd r_weights r_arcs.toNatClampNeg v3) (upd r_there r_arcs.toNatClampNeg (vp_nar .boolean (1 : Int32))) r_hand) H := hP
                have hD : va_D A (wd_Mo_arc cA a_r r_manner r_above r_below r_nodes r_arcs r_left r_isBest r_arePlateaus r_all r_a r_b r_ties r_z r_plateaus (upd r_ones r_arcs.toNatClampNeg v1) (upd r_others r_arcs.toNatClampNeg v2) (upd r_weights r_arcs.toNatClampNeg v3) (upd r_there r_arcs.toNatClampNeg (vp_nar .boolean (1 : Int32))) r_hand) := hD
                refine lv_aload_n hx hb d_Mo_arc_94 rfl (lv_at hl 0 rfl) ?_
                refine lv_dup hx hb d_Mo_arc_95 rfl ?_
                refine va_get (ci := 8) (v := .int r_arcs) (C := R_Mo) (T := F_Mo) (N := 36) hx hb hal in_Mo hown hK hP 0 rfl rfl 4 (by decide) (hal _ kw_641) (fun _ h9 => h9) rfl d_Mo_arc_96 ?_
                refine lv_iconst (v := 1) hx hb d_Mo_arc_99 (by decide) ?_
                refine lv_iadd hx hb d_Mo_arc_100 ?_
                refine va_put (ci := 8) (v := .int (r_arcs + (1 : Int32))) (ty := .int) (C := R_Mo) (T := F_Mo) (N := 36) hx hb hal in_Mo t_Mo t_Mo_ok n_Mo hown hK hP hD hS 0 rfl rfl 4 (by decide) (hal _ kw_641) (fun _ h9 => h9) rfl (by decide +kernel) rfl rfl (Nat.le_of_ble_eq_true rfl) d_Mo_arc_101 (fun H locs hP hD hS => ?_)
                have hP : va_P D cls9 (wd_Mo_arc cA a_r r_manner r_above r_below r_nodes (r_arcs + (1 : Int32)) r_left r_isBest r_arePlateaus r_all r_a r_b r_ties r_z r_plateaus (upd r_ones r_arcs.toNatClampNeg v1) (upd r_others r_arcs.toNatClampNeg v2) (upd r_weights r_arcs.toNatClampNeg v3) (upd r_there r_arcs.toNatClampNeg (vp_nar .boolean (1 : Int32))) r_hand) H := hP
                have hD : va_D A (wd_Mo_arc cA a_r r_manner r_above r_below r_nodes (r_arcs + (1 : Int32)) r_left r_isBest r_arePlateaus r_all r_a r_b r_ties r_z r_plateaus (upd r_ones r_arcs.toNatClampNeg v1) (upd r_others r_arcs.toNatClampNeg v2) (upd r_weights r_arcs.toNatClampNeg v3) (upd r_there r_arcs.toNatClampNeg (vp_nar .boolean (1 : Int32))) r_hand) := hD
                refine lv_aload_n hx hb d_Mo_arc_104 rfl (lv_at hl 0 rfl) ?_
                refine lv_dup hx hb d_Mo_arc_105 rfl ?_
                refine va_get (ci := 8) (v := .int r_left) (C := R_Mo) (T := F_Mo) (N := 36) hx hb hal in_Mo hown hK hP 0 rfl rfl 5 (by decide) (hal _ kw_642) (fun _ h9 => h9) rfl d_Mo_arc_106 ?_
                refine lv_iconst (v := 1) hx hb d_Mo_arc_109 (by decide) ?_
                refine lv_iadd hx hb d_Mo_arc_110 ?_
                refine va_put (ci := 8) (v := .int (r_left + (1 : Int32))) (ty := .int) (C := R_Mo) (T := F_Mo) (N := 36) hx hb hal in_Mo t_Mo t_Mo_ok n_Mo hown hK hP hD hS 0 rfl rfl 5 (by decide) (hal _ kw_642) (fun _ h9 => h9) rfl (by decide +kernel) rfl rfl (Nat.le_of_ble_eq_true rfl) d_Mo_arc_111 (fun H locs hP hD hS => ?_)
                have hP : va_P D cls9 (wd_Mo_arc cA a_r r_manner r_above r_below r_nodes (r_arcs + (1 : Int32)) (r_left + (1 : Int32)) r_isBest r_arePlateaus r_all r_a r_b r_ties r_z r_plateaus (upd r_ones r_arcs.toNatClampNeg v1) (upd r_others r_arcs.toNatClampNeg v2) (upd r_weights r_arcs.toNatClampNeg v3) (upd r_there r_arcs.toNatClampNeg (vp_nar .boolean (1 : Int32))) r_hand) H := hP
                have hD : va_D A (wd_Mo_arc cA a_r r_manner r_above r_below r_nodes (r_arcs + (1 : Int32)) (r_left + (1 : Int32)) r_isBest r_arePlateaus r_all r_a r_b r_ties r_z r_plateaus (upd r_ones r_arcs.toNatClampNeg v1) (upd r_others r_arcs.toNatClampNeg v2) (upd r_weights r_arcs.toNatClampNeg v3) (upd r_there r_arcs.toNatClampNeg (vp_nar .boolean (1 : Int32))) r_hand) := hD
                refine lv_aload_n hx hb d_Mo_arc_114 rfl (lv_at hl 0 rfl) ?_
                obtain ⟨o_23, hc_22, h⟩ := bd h
                have hPc := hP.sub (ws' := (wd_Mo_alone cA a_r r_manner r_above r_below r_nodes (r_arcs + (1 : Int32)) (r_left + (1 : Int32)) r_isBest r_arePlateaus r_all r_a r_b r_ties r_z r_plateaus r_hand)) [0, 5] rfl
                have hDc := hD.sub (ws' := (wd_Mo_alone cA a_r r_manner r_above r_below r_nodes (r_arcs + (1 : Int32)) (r_left + (1 : Int32)) r_isBest r_arePlateaus r_all r_a r_b r_ties r_z r_plateaus r_hand)) [0, 5] (by decide) rfl
                have hFc := va_free (wc := (wd_Mo_alone cA a_r r_manner r_above r_below r_nodes (r_arcs + (1 : Int32)) (r_left + (1 : Int32)) r_isBest r_arePlateaus r_all r_a r_b r_ties r_z r_plateaus r_hand)) hD hS hA [0, 5] rfl
                refine va_callv (va_runV (C := R_Mo) (As := []) (rest := []) ⟨hx, hb, hml, hown, hal⟩ (c_Mo_alone l D cA a_r H.size r_manner r_above r_below r_nodes (r_arcs + (1 : Int32)) (r_left + (1 : Int32)) r_isBest r_arePlateaus r_all r_a r_b r_ties r_z r_plateaus r_hand o_23 hc_22) (cwV 0 hal (goodV kw_759 kw_761 kw_p25 kw_9 kw_762) rfl rfl rfl (by decide +kernel) ⟨Nat.le_of_ble_eq_true rfl, Nat.le_of_ble_eq_true rfl⟩) ⟨fun a U g mk q => by obtain ⟨q0, q1, qP, qK, qD⟩ := q; exact ⟨q0, q1, qP, va_K.moved (u := U) (U := U.calling g mk a) (Vm.Alike.refl U.vm) qK, qD⟩, va_recv hK hP (ci := 8) (q0 := 0) rfl rfl, fun U hU hW => ⟨rfl, by rw [hU], by rw [hU]; exact hPc, va_K.moved hW.alike hK, hDc.weaken (fun _ _ _ _ => trivial)⟩⟩ rfl rfl hl.1 rfl (lv_room (Nat.le_of_ble_eq_true rfl)) d_Mo_arc_115 ⟨Nat.le_of_ble_eq_true rfl, Nat.le_of_ble_eq_true rfl⟩) hS (fun q _ h => hFc q h) hFc (fun u t H1 locs ht hvm hw hB hz1 hk1 hS => ?_)
                obtain ⟨u_19, u_20, u_21⟩ := u
                subst hw
                obtain ⟨hP1, hK1, hD1⟩ := hB
                rw [ht] at hP1
                have hP1 : va_P D cls9 (wd_Mo_alone cA a_r r_manner r_above r_below r_nodes (r_arcs + (1 : Int32)) (r_left + (1 : Int32)) u_19 u_20 r_all r_a r_b r_ties r_z r_plateaus u_21) H1 := hP1
                obtain ⟨hP, hD⟩ := va_join (wr := ([1, 2, 3, 4] : List Nat).filterMap (fun i => (wd_Mo_arc cA a_r r_manner r_above r_below r_nodes (r_arcs + (1 : Int32)) (r_left + (1 : Int32)) r_isBest r_arePlateaus r_all r_a r_b r_ties r_z r_plateaus (upd r_ones r_arcs.toNatClampNeg v1) (upd r_others r_arcs.toNatClampNeg v2) (upd r_weights r_arcs.toNatClampNeg v3) (upd r_there r_arcs.toNatClampNeg (vp_nar .boolean (1 : Int32))) r_hand)[i]?)) (w1 := (wd_Mo_alone cA a_r r_manner r_above r_below r_nodes (r_arcs + (1 : Int32)) (r_left + (1 : Int32)) u_19 u_20 r_all r_a r_b r_ties r_z r_plateaus u_21)) hP hD [0, 5] [1, 2, 3, 4] rfl rfl (by decide) (by decide) hk1 hFc hP1 hD1
                generalize H1 = H at hP hS ⊢
                have hP : va_P D cls9 (wd_Mo_arc cA a_r r_manner r_above r_below r_nodes (r_arcs + (1 : Int32)) (r_left + (1 : Int32)) u_19 u_20 r_all r_a r_b r_ties r_z r_plateaus (upd r_ones r_arcs.toNatClampNeg v1) (upd r_others r_arcs.toNatClampNeg v2) (upd r_weights r_arcs.toNatClampNeg v3) (upd r_there r_arcs.toNatClampNeg (vp_nar .boolean (1 : Int32))) u_21) H := hP.sub [4, 0, 1, 2, 3, 5] rfl
                have hD : va_D A (wd_Mo_arc cA a_r r_manner r_above r_below r_nodes (r_arcs + (1 : Int32)) (r_left + (1 : Int32)) u_19 u_20 r_all r_a r_b r_ties r_z r_plateaus (upd r_ones r_arcs.toNatClampNeg v1) (upd r_others r_arcs.toNatClampNeg v2) (upd r_weights r_arcs.toNatClampNeg v3) (upd r_there r_arcs.toNatClampNeg (vp_nar .boolean (1 : Int32))) u_21) := hD.sub [4, 0, 1, 2, 3, 5] (by decide) rfl
                refine lv_aload_n hx hb d_Mo_arc_118 rfl (lv_at hl 0 rfl) ?_
                refine va_get (ci := 8) (v := .int (r_arcs + (1 : Int32))) (C := R_Mo) (T := F_Mo) (N := 36) hx hb hal in_Mo hown hK hP 0 rfl rfl 4 (by decide) (hal _ kw_641) (fun _ h9 => h9) rfl d_Mo_arc_119 ?_
                refine lv_iconst (v := 1) hx hb d_Mo_arc_122 (by decide) ?_
                refine lv_isub hx hb d_Mo_arc_123 ?_
                exact W.iret (v := ((r_arcs + (1 : Int32)) - (1 : Int32))) hx hb hr (fun t ht hW => ⟨⟨((r_arcs + (1 : Int32)) - (1 : Int32)), ((r_arcs + (1 : Int32)), (r_left + (1 : Int32)), u_19, u_20, (upd r_ones r_arcs.toNatClampNeg v1), (upd r_others r_arcs.toNatClampNeg v2), (upd r_weights r_arcs.toNatClampNeg v3), (upd r_there r_arcs.toNatClampNeg (vp_nar .boolean (1 : Int32))), u_21), rfl, Option.some.inj h, by rw [ht]; exact hP, va_K.moved hW.alike hK, hD⟩, hS.F ht⟩) hS.2.2 d_Mo_arc_124
              · have h := ifp (c_15) h
                refine lv_bipush (v := (-4)) hx hb d_Mo_arc_51 (by decide) ?_
                exact W.iret (v := (-4 : Int32)) hx hb hr (fun t ht hW => ⟨⟨(-4 : Int32), (r_arcs, r_left, r_isBest, r_arePlateaus, r_ones, r_others, r_weights, r_there, r_hand), rfl, Option.some.inj h, by rw [ht]; exact hP, va_K.moved hW.alike hK, hD⟩, hS.F ht⟩) hS.2.2 d_Mo_arc_53
            · have h := ifp (c_14) h
              refine lv_bipush (v := (-2)) hx hb d_Mo_arc_39 (by decide) ?_
              exact W.iret (v := (-2 : Int32)) hx hb hr (fun t ht hW => ⟨⟨(-2 : Int32), (r_arcs, r_left, r_isBest, r_arePlateaus, r_ones, r_others, r_weights, r_there, r_hand), rfl, Option.some.inj h, by rw [ht]; exact hP, va_K.moved hW.alike hK, hD⟩, hS.F ht⟩) hS.2.2 d_Mo_arc_41
      · have h := ifp (c_11) h
        refine lv_iconst (v := (-1)) hx hb d_Mo_arc_21 (by decide) ?_
        exact W.iret (v := (-1 : Int32)) hx hb hr (fun t ht hW => ⟨⟨(-1 : Int32), (r_arcs, r_left, r_isBest, r_arePlateaus, r_ones, r_others, r_weights, r_there, r_hand), rfl, Option.some.inj h, by rw [ht]; exact hP, va_K.moved hW.alike hK, hD⟩, hS.F ht⟩) hS.2.2 d_Mo_arc_22
def wd_Mo_drop (cA : Nat → ClassId) (a_r : Nat → Nat) (r_manner : Int32) (r_above : Int32) (r_below : Int32) (r_nodes : Int32) (r_arcs : Int32) (r_left : Int32) (r_isBest : Int32) (r_arePlateaus : Int32) (r_all : Int64) (r_a : Int64) (r_b : Int64) (r_ties : Int32) (r_z : Int32) (r_plateaus : Int32) (r_there : Nat → Int32) (r_hand : Nat → Int32) : va_W := [(a_r 0, .inr (8, [.int r_manner, .int r_above, .int r_below, .int r_nodes, .int r_arcs, .int r_left, .ref (a_r 1), .ref (a_r 2), .ref (a_r 3), .ref (a_r 4), .ref (a_r 5), .int r_isBest, .int r_arePlateaus, .ref (a_r 6), .ref (a_r 7), .ref (a_r 8), .long r_all, .ref (a_r 9), .ref (a_r 10), .long r_a, .long r_b, .ref (a_r 11), .ref (a_r 12), .ref (a_r 13), .ref (a_r 14), .ref (a_r 15), .int r_ties, .ref (a_r 16), .ref (a_r 17), .ref (a_r 18), .int r_z, .int r_plateaus, .ref (a_r 19), .ref (a_r 20), .ref (a_r 21), .ref (a_r 22)])), (a_r 4, .inl (cA 2, 36, .inl r_there)), (a_r 5, .inl (cA 0, 9, .inl r_hand))]
noncomputable def m_Mo_drop (r_nodes : Int32) (r_arcs : Int32) (r_left : Int32) (r_isBest : Int32) (r_arePlateaus : Int32) (r_there : Nat → Int32) (r_hand : Nat → Int32) (v1 : Int32) : Option (Int32 × Int32 × Int32 × Int32 × (Nat → Int32) × (Nat → Int32)) :=
  (if v1 < 0 then some ((-1 : Int32), r_left, r_isBest, r_arePlateaus, r_there, r_hand) else (if r_arcs ≤ v1 then some ((-1 : Int32), r_left, r_isBest, r_arePlateaus, r_there, r_hand) else (if inb v1 36 then (if (r_there v1.toNatClampNeg) = 0 then some ((-1 : Int32), r_left, r_isBest, r_arePlateaus, r_there, r_hand) else ((m_Mo_alone r_nodes r_hand).bind (fun r41 : Int32 × Int32 × (Nat → Int32) => some ((r_left - (1 : Int32)), (r_left - (1 : Int32)), r41.1, r41.2.1, (upd r_there v1.toNatClampNeg (vp_nar .boolean (0 : Int32))), r41.2.2)))) else none)))
set_option maxHeartbeats 4000000 in
set_option maxRecDepth 100000 in
theorem c_Mo_drop (l : Launch) (D : va_G) (cA : Nat → ClassId) (a_r : Nat → Nat) (sz : Nat) (r_manner : Int32) (r_above : Int32) (r_below : Int32) (r_nodes : Int32) (r_arcs : Int32) (r_left : Int32) (r_isBest : Int32) (r_arePlateaus : Int32) (r_all : Int64) (r_a : Int64) (r_b : Int64) (r_ties : Int32) (r_z : Int32) (r_plateaus : Int32) (r_there : Nat → Int32) (r_hand : Nat → Int32) (v1 : Int32) (out : Int32 × Int32 × Int32 × Int32 × (Nat → Int32) × (Nat → Int32)) (h : m_Mo_drop r_nodes r_arcs r_left r_isBest r_arePlateaus r_there r_hand v1 = some out) : Met l y_Mo_drop w_Mo_drop ({ frames := 1, cells := 0, slots := 0, locals := 21 }) (va_Pc [.ref (a_r 0), .int v1] (fun U => U.heap.size = sz ∧ va_P D cls9 (wd_Mo_drop cA a_r r_manner r_above r_below r_nodes r_arcs r_left r_isBest r_arePlateaus r_all r_a r_b r_ties r_z r_plateaus r_there r_hand) U.heap ∧ va_K D cls9 (tys5 cA) U ∧ va_D (fun _ => True) (wd_Mo_drop cA a_r r_manner r_above r_below r_nodes r_arcs r_left r_isBest r_arePlateaus r_all r_a r_b r_ties r_z r_plateaus r_there r_hand))) (va_Qi (fun (rr : Int32) (uu : Int32 × Int32 × Int32 × (Nat → Int32) × (Nat → Int32)) => (rr, uu) = out) (fun (uu : Int32 × Int32 × Int32 × (Nat → Int32) × (Nat → Int32)) (t : State) => va_P D cls9 (wd_Mo_drop cA a_r r_manner r_above r_below r_nodes r_arcs uu.1 uu.2.1 uu.2.2.1 r_all r_a r_b r_ties r_z r_plateaus uu.2.2.2.1 uu.2.2.2.2) t.heap ∧ va_K D cls9 (tys5 cA) t ∧ va_D (va_A (wd_Mo_drop cA a_r r_manner r_above r_below r_nodes r_arcs r_left r_isBest r_arePlateaus r_all r_a r_b r_ties r_z r_plateaus r_there r_hand) sz) (wd_Mo_drop cA a_r r_manner r_above r_below r_nodes r_arcs uu.1 uu.2.1 uu.2.2.1 r_all r_a r_b r_ties r_z r_plateaus uu.2.2.2.1 uu.2.2.2.2)) (va_A (wd_Mo_drop cA a_r r_manner r_above r_below r_nodes r_arcs r_left r_isBest r_arePlateaus r_all r_a r_b r_ties r_z r_plateaus r_there r_hand) sz)) 0 0 (va_A (wd_Mo_drop cA a_r r_manner r_above r_below r_nodes r_arcs r_left r_isBest r_arePlateaus r_all r_a r_b r_ties r_z r_plateaus r_there r_hand) sz) := by
  refine Met.ofW (cc := b_Mo_drop) (maxL := 2) (ret := (Option.some Jvm.ClassFile.FieldType.int)) (by decide) rfl ?_
  intro p e s m args below meth c s₁ B hml hv
  obtain ⟨rfl, hsz, hP, hK, hD0⟩ := hv
  have hx := B.exec
  have hb := B.bytes
  have hr := B.returns
  have hts := atoms_spec (ws := w_Mo_drop) B.pre
  have hal : ∀ w ∈ ALLW, w.before _ s = true := fun w hw => hts w (List.mem_cons_of_mem _ hw)
  have hown : s.vm.findClass R_Mo = some m.cls := findClass_of_methodNamed B.named
  have hlocks := B.notSynchronized
  subst hsz
  have hD := hD0.self (sz := s.heap.size)
  generalize hAe : va_A (wd_Mo_drop cA a_r r_manner r_above r_below r_nodes r_arcs r_left r_isBest r_arePlateaus r_all r_a r_b r_ties r_z r_plateaus r_there r_hand) s.heap.size = A at hD ⊢
  have hA : ∀ q : Nat, s.heap.size ≤ q → A q := fun q h => by rw [← hAe]; exact Or.inr h
  have hS : va_S A s.heap s.heap [] := va_S.rf
  have hl := lv_entry ([.ref (a_r 0), .int v1]) (n := 2) (Nat.le_of_ble_eq_true rfl)
  rw [lg_entry_eq]
  generalize (lg_sl ([.ref (a_r 0), .int v1]) ++ List.replicate (2 - (lg_sl ([.ref (a_r 0), .int v1])).length) Slot.unset).toArray = ls at hl ⊢
  have hl : lv_has ls 2 [(0, .ref (a_r 0)), (1, .int v1)] := hl
  refine wg (fun G hG => ?_)
  refine cast (hG _ _ _ _ _ _ _).symm ?_
  obtain ⟨H, locs, hHl, hS⟩ : ∃ (H : Heap) (locs : List Loc), (H = s.heap ∧ locs = []) ∧ va_S A s.heap H locs := ⟨s.heap, [], ⟨rfl, rfl⟩, hS⟩
  have hP : va_P D cls9 (wd_Mo_drop cA a_r r_manner r_above r_below r_nodes r_arcs r_left r_isBest r_arePlateaus r_all r_a r_b r_ties r_z r_plateaus r_there r_hand) H := by rw [hHl.1]; exact hP
  rw [← hHl.1, ← hHl.2]
  clear hHl
  refine lv_iload_n hx hb d_Mo_drop_0 rfl (lv_at hl 1 rfl) ?_
  refine lv_if_lt (tgt := 21) hx hb d_Mo_drop_1 (by decide) (fun c_1 => ?_) (fun c_1 => ?_)
  · have h := ifp (c_1) h
    refine lv_iconst (v := (-1)) hx hb d_Mo_drop_21 (by decide) ?_
    exact W.iret (v := (-1 : Int32)) hx hb hr (fun t ht hW => ⟨⟨(-1 : Int32), (r_left, r_isBest, r_arePlateaus, r_there, r_hand), rfl, Option.some.inj h, by rw [ht]; exact hP, va_K.moved hW.alike hK, hD⟩, hS.F ht⟩) hS.2.2 d_Mo_drop_22
  · have h := ifn (c_1) h
    refine lv_iload_n hx hb d_Mo_drop_4 rfl (lv_at hl 1 rfl) ?_
    refine lv_aload_n hx hb d_Mo_drop_5 rfl (lv_at hl 0 rfl) ?_
    refine va_get (ci := 8) (v := .int r_arcs) (C := R_Mo) (T := F_Mo) (N := 36) hx hb hal in_Mo hown hK hP 0 rfl rfl 4 (by decide) (hal _ kw_641) (fun _ h9 => h9) rfl d_Mo_drop_6 ?_
    refine lv_icmp_ge (tgt := 21) hx hb d_Mo_drop_9 (by decide) (fun c_2 => ?_) (fun c_2 => ?_)
    · have h := ifp (c_2) h
      refine lv_iconst (v := (-1)) hx hb d_Mo_drop_21 (by decide) ?_
      exact W.iret (v := (-1 : Int32)) hx hb hr (fun t ht hW => ⟨⟨(-1 : Int32), (r_left, r_isBest, r_arePlateaus, r_there, r_hand), rfl, Option.some.inj h, by rw [ht]; exact hP, va_K.moved hW.alike hK, hD⟩, hS.F ht⟩) hS.2.2 d_Mo_drop_22
    · have h := ifn (c_2) h
      refine lv_aload_n hx hb d_Mo_drop_12 rfl (lv_at hl 0 rfl) ?_
      refine va_get (ci := 8) (v := .ref (a_r 4)) (C := R_Mo) (T := F_Mo) (N := 36) hx hb hal in_Mo hown hK hP 0 rfl rfl 9 (by decide) (hal _ kw_646) (fun _ h9 => h9) rfl d_Mo_drop_13 ?_
      refine lv_iload_n hx hb d_Mo_drop_16 rfl (lv_at hl 1 rfl) ?_
      obtain ⟨g_3, h⟩ := gd h
      refine va_zald hx hb hK hP 1 2 rfl rfl (inb_in g_3) d_Mo_drop_17 ?_
      refine lv_if_ne (tgt := 23) hx hb d_Mo_drop_18 (by decide) (fun c_4 => ?_) (fun c_4 => ?_)
      · have h := ifn (c_4) h
        refine lv_aload_n hx hb d_Mo_drop_23 rfl (lv_at hl 0 rfl) ?_
        refine va_get (ci := 8) (v := .ref (a_r 4)) (C := R_Mo) (T := F_Mo) (N := 36) hx hb hal in_Mo hown hK hP 0 rfl rfl 9 (by decide) (hal _ kw_646) (fun _ h9 => h9) rfl d_Mo_drop_24 ?_
        refine lv_iload_n hx hb d_Mo_drop_27 rfl (lv_at hl 1 rfl) ?_
        refine lv_iconst (v := 0) hx hb d_Mo_drop_28 (by decide) ?_
        refine va_zast hx hb hK hP hD hS 1 2 rfl rfl (inb_in g_3) d_Mo_drop_29 (fun H locs hP hD hS => ?_)
        have hP : va_P D cls9 (wd_Mo_drop cA a_r r_manner r_above r_below r_nodes r_arcs r_left r_isBest r_arePlateaus r_all r_a r_b r_ties r_z r_plateaus (upd r_there v1.toNatClampNeg (vp_nar .boolean (0 : Int32))) r_hand) H := hP
        have hD : va_D A (wd_Mo_drop cA a_r r_manner r_above r_below r_nodes r_arcs r_left r_isBest r_arePlateaus r_all r_a r_b r_ties r_z r_plateaus (upd r_there v1.toNatClampNeg (vp_nar .boolean (0 : Int32))) r_hand) := hD
        refine lv_aload_n hx hb d_Mo_drop_30 rfl (lv_at hl 0 rfl) ?_
        refine lv_dup hx hb d_Mo_drop_31 rfl ?_
        refine va_get (ci := 8) (v := .int r_left) (C := R_Mo) (T := F_Mo) (N := 36) hx hb hal in_Mo hown hK hP 0 rfl rfl 5 (by decide) (hal _ kw_642) (fun _ h9 => h9) rfl d_Mo_drop_32 ?_
        refine lv_iconst (v := 1) hx hb d_Mo_drop_35 (by decide) ?_
        refine lv_isub hx hb d_Mo_drop_36 ?_
        refine va_put (ci := 8) (v := .int (r_left - (1 : Int32))) (ty := .int) (C := R_Mo) (T := F_Mo) (N := 36) hx hb hal in_Mo t_Mo t_Mo_ok n_Mo hown hK hP hD hS 0 rfl rfl 5 (by decide) (hal _ kw_642) (fun _ h9 => h9) rfl (by decide +kernel) rfl rfl (Nat.le_of_ble_eq_true rfl) d_Mo_drop_37 (fun H locs hP hD hS => ?_)
        have hP : va_P D cls9 (wd_Mo_drop cA a_r r_manner r_above r_below r_nodes r_arcs (r_left - (1 : Int32)) r_isBest r_arePlateaus r_all r_a r_b r_ties r_z r_plateaus (upd r_there v1.toNatClampNeg (vp_nar .boolean (0 : Int32))) r_hand) H := hP
        have hD : va_D A (wd_Mo_drop cA a_r r_manner r_above r_below r_nodes r_arcs (r_left - (1 : Int32)) r_isBest r_arePlateaus r_all r_a r_b r_ties r_z r_plateaus (upd r_there v1.toNatClampNeg (vp_nar .boolean (0 : Int32))) r_hand) := hD
        refine lv_aload_n hx hb d_Mo_drop_40 rfl (lv_at hl 0 rfl) ?_
        obtain ⟨o_11, hc_10, h⟩ := bd h
        have hPc := hP.sub (ws' := (wd_Mo_alone cA a_r r_manner r_above r_below r_nodes r_arcs (r_left - (1 : Int32)) r_isBest r_arePlateaus r_all r_a r_b r_ties r_z r_plateaus r_hand)) [0, 2] rfl
        have hDc := hD.sub (ws' := (wd_Mo_alone cA a_r r_manner r_above r_below r_nodes r_arcs (r_left - (1 : Int32)) r_isBest r_arePlateaus r_all r_a r_b r_ties r_z r_plateaus r_hand)) [0, 2] (by decide) rfl
        have hFc := va_free (wc := (wd_Mo_alone cA a_r r_manner r_above r_below r_nodes r_arcs (r_left - (1 : Int32)) r_isBest r_arePlateaus r_all r_a r_b r_ties r_z r_plateaus r_hand)) hD hS hA [0, 2] rfl
        refine va_callv (va_runV (C := R_Mo) (As := []) (rest := []) ⟨hx, hb, hml, hown, hal⟩ (c_Mo_alone l D cA a_r H.size r_manner r_above r_below r_nodes r_arcs (r_left - (1 : Int32)) r_isBest r_arePlateaus r_all r_a r_b r_ties r_z r_plateaus r_hand o_11 hc_10) (cwV 0 hal (goodV kw_759 kw_761 kw_p25 kw_9 kw_762) rfl rfl rfl (by decide +kernel) ⟨Nat.le_of_ble_eq_true rfl, Nat.le_of_ble_eq_true rfl⟩) ⟨fun a U g mk q => by obtain ⟨q0, q1, qP, qK, qD⟩ := q; exact ⟨q0, q1, qP, va_K.moved (u := U) (U := U.calling g mk a) (Vm.Alike.refl U.vm) qK, qD⟩, va_recv hK hP (ci := 8) (q0 := 0) rfl rfl, fun U hU hW => ⟨rfl, by rw [hU], by rw [hU]; exact hPc, va_K.moved hW.alike hK, hDc.weaken (fun _ _ _ _ => trivial)⟩⟩ rfl rfl hl.1 rfl (lv_room (Nat.le_of_ble_eq_true rfl)) d_Mo_drop_41 ⟨Nat.le_of_ble_eq_true rfl, Nat.le_of_ble_eq_true rfl⟩) hS (fun q _ h => hFc q h) hFc (fun u t H1 locs ht hvm hw hB hz1 hk1 hS => ?_)
        obtain ⟨u_7, u_8, u_9⟩ := u
        subst hw
        obtain ⟨hP1, hK1, hD1⟩ := hB
        rw [ht] at hP1
        have hP1 : va_P D cls9 (wd_Mo_alone cA a_r r_manner r_above r_below r_nodes r_arcs (r_left - (1 : Int32)) u_7 u_8 r_all r_a r_b r_ties r_z r_plateaus u_9) H1 := hP1
        obtain ⟨hP, hD⟩ := va_join (wr := ([1] : List Nat).filterMap (fun i => (wd_Mo_drop cA a_r r_manner r_above r_below r_nodes r_arcs (r_left - (1 : Int32)) r_isBest r_arePlateaus r_all r_a r_b r_ties r_z r_plateaus (upd r_there v1.toNatClampNeg (vp_nar .boolean (0 : Int32))) r_hand)[i]?)) (w1 := (wd_Mo_alone cA a_r r_manner r_above r_below r_nodes r_arcs (r_left - (1 : Int32)) u_7 u_8 r_all r_a r_b r_ties r_z r_plateaus u_9)) hP hD [0, 2] [1] rfl rfl (by decide) (by decide) hk1 hFc hP1 hD1
        generalize H1 = H at hP hS ⊢
        have hP : va_P D cls9 (wd_Mo_drop cA a_r r_manner r_above r_below r_nodes r_arcs (r_left - (1 : Int32)) u_7 u_8 r_all r_a r_b r_ties r_z r_plateaus (upd r_there v1.toNatClampNeg (vp_nar .boolean (0 : Int32))) u_9) H := hP.sub [1, 0, 2] rfl
        have hD : va_D A (wd_Mo_drop cA a_r r_manner r_above r_below r_nodes r_arcs (r_left - (1 : Int32)) u_7 u_8 r_all r_a r_b r_ties r_z r_plateaus (upd r_there v1.toNatClampNeg (vp_nar .boolean (0 : Int32))) u_9) := hD.sub [1, 0, 2] (by decide) rfl
        refine lv_aload_n hx hb d_Mo_drop_44 rfl (lv_at hl 0 rfl) ?_
        refine va_get (ci := 8) (v := .int (r_left - (1 : Int32))) (C := R_Mo) (T := F_Mo) (N := 36) hx hb hal in_Mo hown hK hP 0 rfl rfl 5 (by decide) (hal _ kw_642) (fun _ h9 => h9) rfl d_Mo_drop_45 ?_
        exact W.iret (v := (r_left - (1 : Int32))) hx hb hr (fun t ht hW => ⟨⟨(r_left - (1 : Int32)), ((r_left - (1 : Int32)), u_7, u_8, (upd r_there v1.toNatClampNeg (vp_nar .boolean (0 : Int32))), u_9), rfl, Option.some.inj h, by rw [ht]; exact hP, va_K.moved hW.alike hK, hD⟩, hS.F ht⟩) hS.2.2 d_Mo_drop_48
      · have h := ifp (c_4) h
        refine lv_iconst (v := (-1)) hx hb d_Mo_drop_21 (by decide) ?_
        exact W.iret (v := (-1 : Int32)) hx hb hr (fun t ht hW => ⟨⟨(-1 : Int32), (r_left, r_isBest, r_arePlateaus, r_there, r_hand), rfl, Option.some.inj h, by rw [ht]; exact hP, va_K.moved hW.alike hK, hD⟩, hS.F ht⟩) hS.2.2 d_Mo_drop_22
def wd_Mo_clear (cA : Nat → ClassId) (a_r : Nat → Nat) (r_manner : Int32) (r_above : Int32) (r_below : Int32) (r_nodes : Int32) (r_arcs : Int32) (r_left : Int32) (r_isBest : Int32) (r_arePlateaus : Int32) (r_all : Int64) (r_a : Int64) (r_b : Int64) (r_ties : Int32) (r_z : Int32) (r_plateaus : Int32) (r_hand : Nat → Int32) : va_W := [(a_r 0, .inr (8, [.int r_manner, .int r_above, .int r_below, .int r_nodes, .int r_arcs, .int r_left, .ref (a_r 1), .ref (a_r 2), .ref (a_r 3), .ref (a_r 4), .ref (a_r 5), .int r_isBest, .int r_arePlateaus, .ref (a_r 6), .ref (a_r 7), .ref (a_r 8), .long r_all, .ref (a_r 9), .ref (a_r 10), .long r_a, .long r_b, .ref (a_r 11), .ref (a_r 12), .ref (a_r 13), .ref (a_r 14), .ref (a_r 15), .int r_ties, .ref (a_r 16), .ref (a_r 17), .ref (a_r 18), .int r_z, .int r_plateaus, .ref (a_r 19), .ref (a_r 20), .ref (a_r 21), .ref (a_r 22)])), (a_r 5, .inl (cA 0, 9, .inl r_hand))]
noncomputable def m_Mo_clear (r_nodes : Int32) (r_hand : Nat → Int32) : Option (Int32 × Int32 × Int32 × Int32 × Int32 × Int32 × (Nat → Int32)) :=
  ((m_Mo_alone (0 : Int32) r_hand).bind (fun r21 : Int32 × Int32 × (Nat → Int32) => some (r_nodes, (0 : Int32), (0 : Int32), (0 : Int32), r21.1, r21.2.1, r21.2.2)))
set_option maxHeartbeats 4000000 in
set_option maxRecDepth 100000 in
theorem c_Mo_clear (l : Launch) (D : va_G) (cA : Nat → ClassId) (a_r : Nat → Nat) (sz : Nat) (r_manner : Int32) (r_above : Int32) (r_below : Int32) (r_nodes : Int32) (r_arcs : Int32) (r_left : Int32) (r_isBest : Int32) (r_arePlateaus : Int32) (r_all : Int64) (r_a : Int64) (r_b : Int64) (r_ties : Int32) (r_z : Int32) (r_plateaus : Int32) (r_hand : Nat → Int32)  (out : Int32 × Int32 × Int32 × Int32 × Int32 × Int32 × (Nat → Int32)) (h : m_Mo_clear r_nodes r_hand = some out) : Met l y_Mo_clear w_Mo_clear ({ frames := 1, cells := 0, slots := 0, locals := 21 }) (va_Pc [.ref (a_r 0)] (fun U => U.heap.size = sz ∧ va_P D cls9 (wd_Mo_clear cA a_r r_manner r_above r_below r_nodes r_arcs r_left r_isBest r_arePlateaus r_all r_a r_b r_ties r_z r_plateaus r_hand) U.heap ∧ va_K D cls9 (tys5 cA) U ∧ va_D (fun _ => True) (wd_Mo_clear cA a_r r_manner r_above r_below r_nodes r_arcs r_left r_isBest r_arePlateaus r_all r_a r_b r_ties r_z r_plateaus r_hand))) (va_Qi (fun (rr : Int32) (uu : Int32 × Int32 × Int32 × Int32 × Int32 × (Nat → Int32)) => (rr, uu) = out) (fun (uu : Int32 × Int32 × Int32 × Int32 × Int32 × (Nat → Int32)) (t : State) => va_P D cls9 (wd_Mo_clear cA a_r r_manner r_above r_below uu.1 uu.2.1 uu.2.2.1 uu.2.2.2.1 uu.2.2.2.2.1 r_all r_a r_b r_ties r_z r_plateaus uu.2.2.2.2.2) t.heap ∧ va_K D cls9 (tys5 cA) t ∧ va_D (va_A (wd_Mo_clear cA a_r r_manner r_above r_below r_nodes r_arcs r_left r_isBest r_arePlateaus r_all r_a r_b r_ties r_z r_plateaus r_hand) sz) (wd_Mo_clear cA a_r r_manner r_above r_below uu.1 uu.2.1 uu.2.2.1 uu.2.2.2.1 uu.2.2.2.2.1 r_all r_a r_b r_ties r_z r_plateaus uu.2.2.2.2.2)) (va_A (wd_Mo_clear cA a_r r_manner r_above r_below r_nodes r_arcs r_left r_isBest r_arePlateaus r_all r_a r_b r_ties r_z r_plateaus r_hand) sz)) 0 0 (va_A (wd_Mo_clear cA a_r r_manner r_above r_below r_nodes r_arcs r_left r_isBest r_arePlateaus r_all r_a r_b r_ties r_z r_plateaus r_hand) sz) := by
  refine Met.ofW (cc := b_Mo_clear) (maxL := 2) (ret := (Option.some Jvm.ClassFile.FieldType.int)) (by decide) rfl ?_
  intro p e s m args below meth c s₁ B hml hv
  obtain ⟨rfl, hsz, hP, hK, hD0⟩ := hv
  have hx := B.exec
  have hb := B.bytes
  have hr := B.returns
  have hts := atoms_spec (ws := w_Mo_clear) B.pre
  have hal : ∀ w ∈ ALLW, w.before _ s = true := fun w hw => hts w (List.mem_cons_of_mem _ hw)
  have hown : s.vm.findClass R_Mo = some m.cls := findClass_of_methodNamed B.named
  have hlocks := B.notSynchronized
  subst hsz
  have hD := hD0.self (sz := s.heap.size)
  generalize hAe : va_A (wd_Mo_clear cA a_r r_manner r_above r_below r_nodes r_arcs r_left r_isBest r_arePlateaus r_all r_a r_b r_ties r_z r_plateaus r_hand) s.heap.size = A at hD ⊢
  have hA : ∀ q : Nat, s.heap.size ≤ q → A q := fun q h => by rw [← hAe]; exact Or.inr h
  have hS : va_S A s.heap s.heap [] := va_S.rf
  have hl := lv_entry ([.ref (a_r 0)]) (n := 2) (Nat.le_of_ble_eq_true rfl)
  rw [lg_entry_eq]
  generalize (lg_sl ([.ref (a_r 0)]) ++ List.replicate (2 - (lg_sl ([.ref (a_r 0)])).length) Slot.unset).toArray = ls at hl ⊢
  have hl : lv_has ls 2 [(0, .ref (a_r 0))] := hl
  refine wg (fun G hG => ?_)
  refine cast (hG _ _ _ _ _ _ _).symm ?_
  obtain ⟨H, locs, hHl, hS⟩ : ∃ (H : Heap) (locs : List Loc), (H = s.heap ∧ locs = []) ∧ va_S A s.heap H locs := ⟨s.heap, [], ⟨rfl, rfl⟩, hS⟩
  have hP : va_P D cls9 (wd_Mo_clear cA a_r r_manner r_above r_below r_nodes r_arcs r_left r_isBest r_arePlateaus r_all r_a r_b r_ties r_z r_plateaus r_hand) H := by rw [hHl.1]; exact hP
  rw [← hHl.1, ← hHl.2]
  clear hHl
  refine lv_aload_n hx hb d_Mo_clear_0 rfl (lv_at hl 0 rfl) ?_
  refine va_get (ci := 8) (v := .int r_nodes) (C := R_Mo) (T := F_Mo) (N := 36) hx hb hal in_Mo hown hK hP 0 rfl rfl 3 (by decide) (hal _ kw_640) (fun _ h9 => h9) rfl d_Mo_clear_1 ?_
  refine lv_istore_n (lv' := [(1, .int r_nodes), (0, .ref (a_r 0))]) hx hb d_Mo_clear_4 rfl hl (by decide) rfl (fun ls hl => ?_)
  refine lv_aload_n hx hb d_Mo_clear_5 rfl (lv_at hl 1 rfl) ?_
  refine lv_iconst (v := 0) hx hb d_Mo_clear_6 (by decide) ?_
  refine va_put (ci := 8) (v := .int (0 : Int32)) (ty := .int) (C := R_Mo) (T := F_Mo) (N := 36) hx hb hal in_Mo t_Mo t_Mo_ok n_Mo hown hK hP hD hS 0 rfl rfl 3 (by decide) (hal _ kw_640) (fun _ h9 => h9) rfl (by decide +kernel) rfl rfl (Nat.le_of_ble_eq_true rfl) d_Mo_clear_7 (fun H locs hP hD hS => ?_)
  have hP : va_P D cls9 (wd_Mo_clear cA a_r r_manner r_above r_below (0 : Int32) r_arcs r_left r_isBest r_arePlateaus r_all r_a r_b r_ties r_z r_plateaus r_hand) H := hP
  have hD : va_D A (wd_Mo_clear cA a_r r_manner r_above r_below (0 : Int32) r_arcs r_left r_isBest r_arePlateaus r_all r_a r_b r_ties r_z r_plateaus r_hand) := hD
  refine lv_aload_n hx hb d_Mo_clear_10 rfl (lv_at hl 1 rfl) ?_
  refine lv_iconst (v := 0) hx hb d_Mo_clear_11 (by decide) ?_
  refine va_put (ci := 8) (v := .int (0 : Int32)) (ty := .int) (C := R_Mo) (T := F_Mo) (N := 36) hx hb hal in_Mo t_Mo t_Mo_ok n_Mo hown hK hP hD hS 0 rfl rfl 4 (by decide) (hal _ kw_641) (fun _ h9 => h9) rfl (by decide +kernel) rfl rfl (Nat.le_of_ble_eq_true rfl) d_Mo_clear_12 (fun H locs hP hD hS => ?_)
  have hP : va_P D cls9 (wd_Mo_clear cA a_r r_manner r_above r_below (0 : Int32) (0 : Int32) r_left r_isBest r_arePlateaus r_all r_a r_b r_ties r_z r_plateaus r_hand) H := hP
  have hD : va_D A (wd_Mo_clear cA a_r r_manner r_above r_below (0 : Int32) (0 : Int32) r_left r_isBest r_arePlateaus r_all r_a r_b r_ties r_z r_plateaus r_hand) := hD
  refine lv_aload_n hx hb d_Mo_clear_15 rfl (lv_at hl 1 rfl) ?_
  refine lv_iconst (v := 0) hx hb d_Mo_clear_16 (by decide) ?_
  refine va_put (ci := 8) (v := .int (0 : Int32)) (ty := .int) (C := R_Mo) (T := F_Mo) (N := 36) hx hb hal in_Mo t_Mo t_Mo_ok n_Mo hown hK hP hD hS 0 rfl rfl 5 (by decide) (hal _ kw_642) (fun _ h9 => h9) rfl (by decide +kernel) rfl rfl (Nat.le_of_ble_eq_true rfl) d_Mo_clear_17 (fun H locs hP hD hS => ?_)
  have hP : va_P D cls9 (wd_Mo_clear cA a_r r_manner r_above r_below (0 : Int32) (0 : Int32) (0 : Int32) r_isBest r_arePlateaus r_all r_a r_b r_ties r_z r_plateaus r_hand) H := hP
  have hD : va_D A (wd_Mo_clear cA a_r r_manner r_above r_below (0 : Int32) (0 : Int32) (0 : Int32) r_isBest r_arePlateaus r_all r_a r_b r_ties r_z r_plateaus r_hand) := hD
  refine lv_aload_n hx hb d_Mo_clear_20 rfl (lv_at hl 1 rfl) ?_
  obtain ⟨o_7, hc_6, h⟩ := bd h
  have hPc := hP.sub (ws' := (wd_Mo_alone cA a_r r_manner r_above r_below (0 : Int32) (0 : Int32) (0 : Int32) r_isBest r_arePlateaus r_all r_a r_b r_ties r_z r_plateaus r_hand)) [0, 1] rfl
  have hDc := hD.sub (ws' := (wd_Mo_alone cA a_r r_manner r_above r_below (0 : Int32) (0 : Int32) (0 : Int32) r_isBest r_arePlateaus r_all r_a r_b r_ties r_z r_plateaus r_hand)) [0, 1] (by decide) rfl
  have hFc := va_free (wc := (wd_Mo_alone cA a_r r_manner r_above r_below (0 : Int32) (0 : Int32) (0 : Int32) r_isBest r_arePlateaus r_all r_a r_b r_ties r_z r_plateaus r_hand)) hD hS hA [0, 1] rfl
  refine va_callv (va_runV (C := R_Mo) (As := []) (rest := []) ⟨hx, hb, hml, hown, hal⟩ (c_Mo_alone l D cA a_r H.size r_manner r_above r_below (0 : Int32) (0 : Int32) (0 : Int32) r_isBest r_arePlateaus r_all r_a r_b r_ties r_z r_plateaus r_hand o_7 hc_6) (cwV 0 hal (goodV kw_759 kw_761 kw_p25 kw_9 kw_762) rfl rfl rfl (by decide +kernel) ⟨Nat.le_of_ble_eq_true rfl, Nat.le_of_ble_eq_true rfl⟩) ⟨fun a U g mk q => by obtain ⟨q0, q1, qP, qK, qD⟩ := q; exact ⟨q0, q1, qP, va_K.moved (u := U) (U := U.calling g mk a) (Vm.Alike.refl U.vm) qK, qD⟩, va_recv hK hP (ci := 8) (q0 := 0) rfl rfl, fun U hU hW => ⟨rfl, by rw [hU], by rw [hU]; exact hPc, va_K.moved hW.alike hK, hDc.weaken (fun _ _ _ _ => trivial)⟩⟩ rfl rfl hl.1 rfl (lv_room (Nat.le_of_ble_eq_true rfl)) d_Mo_clear_21 ⟨Nat.le_of_ble_eq_true rfl, Nat.le_of_ble_eq_true rfl⟩) hS (fun q _ h => hFc q h) hFc (fun u t H1 locs ht hvm hw hB hz1 hk1 hS => ?_)
  obtain ⟨u_3, u_4, u_5⟩ := u
  subst hw
  obtain ⟨hP1, hK1, hD1⟩ := hB
  rw [ht] at hP1
  have hP1 : va_P D cls9 (wd_Mo_alone cA a_r r_manner r_above r_below (0 : Int32) (0 : Int32) (0 : Int32) u_3 u_4 r_all r_a r_b r_ties r_z r_plateaus u_5) H1 := hP1
  obtain ⟨hP, hD⟩ := va_join (wr := ([] : List Nat).filterMap (fun i => (wd_Mo_clear cA a_r r_manner r_above r_below (0 : Int32) (0 : Int32) (0 : Int32) r_isBest r_arePlateaus r_all r_a r_b r_ties r_z r_plateaus r_hand)[i]?)) (w1 := (wd_Mo_alone cA a_r r_manner r_above r_below (0 : Int32) (0 : Int32) (0 : Int32) u_3 u_4 r_all r_a r_b r_ties r_z r_plateaus u_5)) hP hD [0, 1] [] rfl rfl (by decide) (by decide) hk1 hFc hP1 hD1
  generalize H1 = H at hP hS ⊢
  have hP : va_P D cls9 (wd_Mo_clear cA a_r r_manner r_above r_below (0 : Int32) (0 : Int32) (0 : Int32) u_3 u_4 r_all r_a r_b r_ties r_z r_plateaus u_5) H := hP.sub [0, 1] rfl
  have hD : va_D A (wd_Mo_clear cA a_r r_manner r_above r_below (0 : Int32) (0 : Int32) (0 : Int32) u_3 u_4 r_all r_a r_b r_ties r_z r_plateaus u_5) := hD.sub [0, 1] (by decide) rfl
  refine lv_iload_n hx hb d_Mo_clear_24 rfl (lv_at hl 0 rfl) ?_
  exact W.iret (v := r_nodes) hx hb hr (fun t ht hW => ⟨⟨r_nodes, ((0 : Int32), (0 : Int32), (0 : Int32), u_3, u_4, u_5), rfl, Option.some.inj h, by rw [ht]; exact hP, va_K.moved hW.alike hK, hD⟩, hS.F ht⟩) hS.2.2 d_Mo_clear_25
def wd_Mo_weigh (cA : Nat → ClassId) (a_r : Nat → Nat) (r_manner : Int32) (r_above : Int32) (r_below : Int32) (r_nodes : Int32) (r_arcs : Int32) (r_left : Int32) (r_isBest : Int32) (r_arePlateaus : Int32) (r_all : Int64) (r_a : Int64) (r_b : Int64) (r_ties : Int32) (r_z : Int32) (r_plateaus : Int32) (r_ones : Nat → Int32) (r_others : Nat → Int32) (r_weights : Nat → Int32) (r_there : Nat → Int32) (r_between : Nat → Int32) (r_joins : Nat → Int32) (r_has : Nat → Int32) : va_W := [(a_r 0, .inr (8, [.int r_manner, .int r_above, .int r_below, .int r_nodes, .int r_arcs, .int r_left, .ref (a_r 1), .ref (a_r 2), .ref (a_r 3), .ref (a_r 4), .ref (a_r 5), .int r_isBest, .int r_arePlateaus, .ref (a_r 6), .ref (a_r 7), .ref (a_r 8), .long r_all, .ref (a_r 9), .ref (a_r 10), .long r_a, .long r_b, .ref (a_r 11), .ref (a_r 12), .ref (a_r 13), .ref (a_r 14), .ref (a_r 15), .int r_ties, .ref (a_r 16), .ref (a_r 17), .ref (a_r 18), .int r_z, .int r_plateaus, .ref (a_r 19), .ref (a_r 20), .ref (a_r 21), .ref (a_r 22)])), (a_r 1, .inl (cA 0, 36, .inl r_ones)), (a_r 2, .inl (cA 0, 36, .inl r_others)), (a_r 3, .inl (cA 0, 36, .inl r_weights)), (a_r 4, .inl (cA 2, 36, .inl r_there)), (a_r 6, .inl (cA 0, 81, .inl r_between)), (a_r 7, .inl (cA 2, 81, .inl r_joins)), (a_r 8, .inl (cA 0, 9, .inl r_has))]
noncomputable def s_Mo_weigh_56 (r_arcs : Int32) (r_manner : Int32) (r_ones : Nat → Int32) (r_others : Nat → Int32) (r_there : Nat → Int32) (r_weights : Nat → Int32) (zz : Int32 × Int64 × (Nat → Int32) × (Nat → Int32) × (Nat → Int32)) (back exit : (Int32 × Int64 × (Nat → Int32) × (Nat → Int32) × (Nat → Int32)) → Option (Int64 × (Nat → Int32) × (Nat → Int32) × (Nat → Int32))) : Option (Int64 × (Nat → Int32) × (Nat → Int32) × (Nat → Int32)) :=
  (if r_arcs ≤ zz.1 then (exit (zz.1, zz.2.1, zz.2.2.1, zz.2.2.2.1, zz.2.2.2.2)) else ((m_Mo_counts r_manner r_weights r_there zz.1).bind (fun r66 : Int32 => (if r66 = 0 then (back ((zz.1 + 1), zz.2.1, zz.2.2.1, zz.2.2.2.1, zz.2.2.2.2)) else (if inb zz.1 36 then (if inb (((9 : Int32) * (r_ones zz.1.toNatClampNeg)) + (r_others zz.1.toNatClampNeg)) 81 then (if inb (((9 : Int32) * (r_others zz.1.toNatClampNeg)) + (r_ones zz.1.toNatClampNeg)) 81 then (if inb (r_ones zz.1.toNatClampNeg) 9 then (if inb (r_others zz.1.toNatClampNeg) 9 then (back ((zz.1 + 1), (zz.2.1 + (r_weights zz.1.toNatClampNeg).toInt64), (upd (upd zz.2.2.1 (((9 : Int32) * (r_ones zz.1.toNatClampNeg)) + (r_others zz.1.toNatClampNeg)).toNatClampNeg ((zz.2.2.1 (((9 : Int32) * (r_ones zz.1.toNatClampNeg)) + (r_others zz.1.toNatClampNeg)).toNatClampNeg) + (r_weights zz.1.toNatClampNeg))) (((9 : Int32) * (r_others zz.1.toNatClampNeg)) + (r_ones zz.1.toNatClampNeg)).toNatClampNeg (((upd zz.2.2.1 (((9 : Int32) * (r_ones zz.1.toNatClampNeg)) + (r_others zz.1.toNatClampNeg)).toNatClampNeg ((zz.2.2.1 (((9 : Int32) * (r_ones zz.1.toNatClampNeg)) + (r_others zz.1.toNatClampNeg)).toNatClampNeg) + (r_weights zz.1.toNatClampNeg))) (((9 : Int32) * (r_others zz.1.toNatClampNeg)) + (r_ones zz.1.toNatClampNeg)).toNatClampNeg) + (r_weights zz.1.toNatClampNeg))), (upd (upd zz.2.2.2.1 (r_ones zz.1.toNatClampNeg).toNatClampNeg ((zz.2.2.2.1 (r_ones zz.1.toNatClampNeg).toNatClampNeg) + (r_weights zz.1.toNatClampNeg))) (r_others zz.1.toNatClampNeg).toNatClampNeg (((upd zz.2.2.2.1 (r_ones zz.1.toNatClampNeg).toNatClampNeg ((zz.2.2.2.1 (r_ones zz.1.toNatClampNeg).toNatClampNeg) + (r_weights zz.1.toNatClampNeg))) (r_others zz.1.toNatClampNeg).toNatClampNeg) + (r_weights zz.1.toNatClampNeg))), (upd (upd zz.2.2.2.2 (((9 : Int32) * (r_ones zz.1.toNatClampNeg)) + (r_others zz.1.toNatClampNeg)).toNatClampNeg (vp_nar .boolean (1 : Int32))) (((9 : Int32) * (r_others zz.1.toNatClampNeg)) + (r_ones zz.1.toNatClampNeg)).toNatClampNeg (vp_nar .boolean (1 : Int32))))) else none) else none) else none) else none) else none)))))
noncomputable def s_Mo_weigh_30  (zz : Int32 × (Nat → Int32)) (back exit : (Int32 × (Nat → Int32)) → Option (Int64 × (Nat → Int32) × (Nat → Int32) × (Nat → Int32))) : Option (Int64 × (Nat → Int32) × (Nat → Int32) × (Nat → Int32)) :=
  (if (9 : Int32) ≤ zz.1 then (exit (zz.1, zz.2)) else (if inb zz.1 9 then (back ((zz.1 + 1), (upd zz.2 zz.1.toNatClampNeg (0 : Int32)))) else none))
noncomputable def s_Mo_weigh_2  (zz : Int32 × (Nat → Int32) × (Nat → Int32)) (back exit : (Int32 × (Nat → Int32) × (Nat → Int32)) → Option (Int64 × (Nat → Int32) × (Nat → Int32) × (Nat → Int32))) : Option (Int64 × (Nat → Int32) × (Nat → Int32) × (Nat → Int32)) :=
  (if (81 : Int32) ≤ zz.1 then (exit (zz.1, zz.2.1, zz.2.2)) else (if inb zz.1 81 then (back ((zz.1 + 1), (upd zz.2.1 zz.1.toNatClampNeg (0 : Int32)), (upd zz.2.2 zz.1.toNatClampNeg (vp_nar .boolean (0 : Int32))))) else none))
noncomputable def m_Mo_weigh (r_manner : Int32) (r_arcs : Int32) (r_ones : Nat → Int32) (r_others : Nat → Int32) (r_weights : Nat → Int32) (r_there : Nat → Int32) (r_between : Nat → Int32) (r_joins : Nat → Int32) (r_has : Nat → Int32) : Option (Int64 × (Nat → Int32) × (Nat → Int32) × (Nat → Int32)) :=
  (loopC (s_Mo_weigh_2) (fun z2 : Int32 × (Nat → Int32) × (Nat → Int32) => (loopC (s_Mo_weigh_30) (fun z30 : Int32 × (Nat → Int32) => (loopC (s_Mo_weigh_56 r_arcs r_manner r_ones r_others r_there r_weights) (fun z56 : Int32 × Int64 × (Nat → Int32) × (Nat → Int32) × (Nat → Int32) => some (z56.2.1, z56.2.2.1, z56.2.2.2.2, z56.2.2.2.1)) FU ((0 : Int32), (0 : Int64), z2.2.1, z30.2, z2.2.2))) FU ((0 : Int32), r_has))) FU ((0 : Int32), r_between, r_joins))
set_option maxHeartbeats 4000000 in
set_option maxRecDepth 100000 in
theorem c_Mo_weigh (l : Launch) (D : va_G) (cA : Nat → ClassId) (a_r : Nat → Nat) (sz : Nat) (r_manner : Int32) (r_above : Int32) (r_below : Int32) (r_nodes : Int32) (r_arcs : Int32) (r_left : Int32) (r_isBest : Int32) (r_arePlateaus : Int32) (r_all : Int64) (r_a : Int64) (r_b : Int64) (r_ties : Int32) (r_z : Int32) (r_plateaus : Int32) (r_ones : Nat → Int32) (r_others : Nat → Int32) (r_weights : Nat → Int32) (r_there : Nat → Int32) (r_between : Nat → Int32) (r_joins : Nat → Int32) (r_has : Nat → Int32)  (out : Int64 × (Nat → Int32) × (Nat → Int32) × (Nat → Int32)) (h : m_Mo_weigh r_manner r_arcs r_ones r_others r_weights r_there r_between r_joins r_has = some out) : Met l y_Mo_weigh w_Mo_weigh ({ frames := 1, cells := 0, slots := 0, locals := 21 }) (va_Pc [.ref (a_r 0)] (fun U => U.heap.size = sz ∧ va_P D cls9 (wd_Mo_weigh cA a_r r_manner r_above r_below r_nodes r_arcs r_left r_isBest r_arePlateaus r_all r_a r_b r_ties r_z r_plateaus r_ones r_others r_weights r_there r_between r_joins r_has) U.heap ∧ va_K D cls9 (tys5 cA) U ∧ va_D (fun _ => True) (wd_Mo_weigh cA a_r r_manner r_above r_below r_nodes r_arcs r_left r_isBest r_arePlateaus r_all r_a r_b r_ties r_z r_plateaus r_ones r_others r_weights r_there r_between r_joins r_has))) (va_Qv (fun uu : Int64 × (Nat → Int32) × (Nat → Int32) × (Nat → Int32) => uu = out) (fun (uu : Int64 × (Nat → Int32) × (Nat → Int32) × (Nat → Int32)) (t : State) => va_P D cls9 (wd_Mo_weigh cA a_r r_manner r_above r_below r_nodes r_arcs r_left r_isBest r_arePlateaus uu.1 r_a r_b r_ties r_z r_plateaus r_ones r_others r_weights r_there uu.2.1 uu.2.2.1 uu.2.2.2) t.heap ∧ va_K D cls9 (tys5 cA) t ∧ va_D (va_A (wd_Mo_weigh cA a_r r_manner r_above r_below r_nodes r_arcs r_left r_isBest r_arePlateaus r_all r_a r_b r_ties r_z r_plateaus r_ones r_others r_weights r_there r_between r_joins r_has) sz) (wd_Mo_weigh cA a_r r_manner r_above r_below r_nodes r_arcs r_left r_isBest r_arePlateaus uu.1 r_a r_b r_ties r_z r_plateaus r_ones r_others r_weights r_there uu.2.1 uu.2.2.1 uu.2.2.2)) (va_A (wd_Mo_weigh cA a_r r_manner r_above r_below r_nodes r_arcs r_left r_isBest r_arePlateaus r_all r_a r_b r_ties r_z r_plateaus r_ones r_others r_weights r_there r_between r_joins r_has) sz)) 0 0 (va_A (wd_Mo_weigh cA a_r r_manner r_above r_below r_nodes r_arcs r_left r_isBest r_arePlateaus r_all r_a r_b r_ties r_z r_plateaus r_ones r_others r_weights r_there r_between r_joins r_has) sz) := by
  refine Met.ofW (cc := b_Mo_weigh) (maxL := 2) (ret := (Option.none : Option Jvm.ClassFile.FieldType)) (by decide) rfl ?_
  intro p e s m args below meth c s₁ B hml hv
  obtain ⟨rfl, hsz, hP, hK, hD0⟩ := hv
  have hx := B.exec
  have hb := B.bytes
  have hr := B.returns
  have hts := atoms_spec (ws := w_Mo_weigh) B.pre
  have hal : ∀ w ∈ ALLW, w.before _ s = true := fun w hw => hts w (List.mem_cons_of_mem _ hw)
  have hown : s.vm.findClass R_Mo = some m.cls := findClass_of_methodNamed B.named
  have hlocks := B.notSynchronized
  subst hsz
  have hD := hD0.self (sz := s.heap.size)
  generalize hAe : va_A (wd_Mo_weigh cA a_r r_manner r_above r_below r_nodes r_arcs r_left r_isBest r_arePlateaus r_all r_a r_b r_ties r_z r_plateaus r_ones r_others r_weights r_there r_between r_joins r_has) s.heap.size = A at hD ⊢
  have hA : ∀ q : Nat, s.heap.size ≤ q → A q := fun q h => by rw [← hAe]; exact Or.inr h
  have hS : va_S A s.heap s.heap [] := va_S.rf
  have hl := lv_entry ([.ref (a_r 0)]) (n := 2) (Nat.le_of_ble_eq_true rfl)
  rw [lg_entry_eq]
  generalize (lg_sl ([.ref (a_r 0)]) ++ List.replicate (2 - (lg_sl ([.ref (a_r 0)])).length) Slot.unset).toArray = ls at hl ⊢
  have hl : lv_has ls 2 [(0, .ref (a_r 0))] := hl
  refine wg (fun G hG => ?_)
  refine cast (hG _ _ _ _ _ _ _).symm ?_
  obtain ⟨H, locs, hHl, hS⟩ : ∃ (H : Heap) (locs : List Loc), (H = s.heap ∧ locs = []) ∧ va_S A s.heap H locs := ⟨s.heap, [], ⟨rfl, rfl⟩, hS⟩
  have hP : va_P D cls9 (wd_Mo_weigh cA a_r r_manner r_above r_below r_nodes r_arcs r_left r_isBest r_arePlateaus r_all r_a r_b r_ties r_z r_plateaus r_ones r_others r_weights r_there r_between r_joins r_has) H := by rw [hHl.1]; exact hP
  rw [← hHl.1, ← hHl.2]
  clear hHl
  refine lv_iconst (v := 0) hx hb d_Mo_weigh_0 (by decide) ?_
  refine lv_istore_n (lv' := [(1, .int (0 : Int32)), (0, .ref (a_r 0))]) hx hb d_Mo_weigh_1 rfl hl (by decide) rfl (fun ls hl => ?_)
  refine cast (hG _ _ _ _ _ _ _) (lp_go2 h (fun zz : Int32 × (Nat → Int32) × (Nat → Int32) => ∀ (H : Heap) (locs : List Loc) (ls : Array Slot), va_P D cls9 (wd_Mo_weigh cA a_r r_manner r_above r_below r_nodes r_arcs r_left r_isBest r_arePlateaus r_all r_a r_b r_ties r_z r_plateaus r_ones r_others r_weights r_there zz.2.1 zz.2.2 r_has) H → va_D A (wd_Mo_weigh cA a_r r_manner r_above r_below r_nodes r_arcs r_left r_isBest r_arePlateaus r_all r_a r_b r_ties r_z r_plateaus r_ones r_others r_weights r_there zz.2.1 zz.2.2 r_has) → va_S A s.heap H locs → lv_has ls 2 [(1, .int zz.1), (0, .ref (a_r 0))] → G H locs 0 0 ls 28 []) ?_ (fun zz : Int32 × (Nat → Int32) × (Nat → Int32) => ∀ (H : Heap) (locs : List Loc) (ls : Array Slot), va_P D cls9 (wd_Mo_weigh cA a_r r_manner r_above r_below r_nodes r_arcs r_left r_isBest r_arePlateaus r_all r_a r_b r_ties r_z r_plateaus r_ones r_others r_weights r_there zz.2.1 zz.2.2 r_has) H → va_D A (wd_Mo_weigh cA a_r r_manner r_above r_below r_nodes r_arcs r_left r_isBest r_arePlateaus r_all r_a r_b r_ties r_z r_plateaus r_ones r_others r_weights r_there zz.2.1 zz.2.2 r_has) → va_S A s.heap H locs → lv_has ls 2 [(1, .int zz.1), (0, .ref (a_r 0))] → G H locs 0 0 ls 2 []) ?_ _ _ ls hP hD hS (lv_sub hl [0, 1] rfl))
  · intro zz h H locs ls hP hD hS hl
    obtain ⟨x1_2e, r_between_2e, r_joins_2e⟩ := zz
    have hP : va_P D cls9 (wd_Mo_weigh cA a_r r_manner r_above r_below r_nodes r_arcs r_left r_isBest r_arePlateaus r_all r_a r_b r_ties r_z r_plateaus r_ones r_others r_weights r_there r_between_2e r_joins_2e r_has) H := hP
    have hD : va_D A (wd_Mo_weigh cA a_r r_manner r_above r_below r_nodes r_arcs r_left r_isBest r_arePlateaus r_all r_a r_b r_ties r_z r_plateaus r_ones r_others r_weights r_there r_between_2e r_joins_2e r_has) := hD
    have hl : lv_has ls 2 [(1, .int x1_2e), (0, .ref (a_r 0))] := hl
    refine cast (hG _ _ _ _ _ _ _).symm ?_
    refine lv_iconst (v := 0) hx hb d_Mo_weigh_28 (by decide) ?_
    refine lv_istore_n (lv' := [(1, .int (0 : Int32)), (0, .ref (a_r 0))]) hx hb d_Mo_weigh_29 rfl hl (by decide) rfl (fun ls hl => ?_)
    refine cast (hG _ _ _ _ _ _ _) (lp_go2 h (fun zz : Int32 × (Nat → Int32) => ∀ (H : Heap) (locs : List Loc) (ls : Array Slot), va_P D cls9 (wd_Mo_weigh cA a_r r_manner r_above r_below r_nodes r_arcs r_left r_isBest r_arePlateaus r_all r_a r_b r_ties r_z r_plateaus r_ones r_others r_weights r_there r_between_2e r_joins_2e zz.2) H → va_D A (wd_Mo_weigh cA a_r r_manner r_above r_below r_nodes r_arcs r_left r_isBest r_arePlateaus r_all r_a r_b r_ties r_z r_plateaus r_ones r_others r_weights r_there r_between_2e r_joins_2e zz.2) → va_S A s.heap H locs → lv_has ls 2 [(1, .int zz.1), (0, .ref (a_r 0))] → G H locs 0 0 ls 49 []) ?_ (fun zz : Int32 × (Nat → Int32) => ∀ (H : Heap) (locs : List Loc) (ls : Array Slot), va_P D cls9 (wd_Mo_weigh cA a_r r_manner r_above r_below r_nodes r_arcs r_left r_isBest r_arePlateaus r_all r_a r_b r_ties r_z r_plateaus r_ones r_others r_weights r_there r_between_2e r_joins_2e zz.2) H → va_D A (wd_Mo_weigh cA a_r r_manner r_above r_below r_nodes r_arcs r_left r_isBest r_arePlateaus r_all r_a r_b r_ties r_z r_plateaus r_ones r_others r_weights r_there r_between_2e r_joins_2e zz.2) → va_S A s.heap H locs → lv_has ls 2 [(1, .int zz.1), (0, .ref (a_r 0))] → G H locs 0 0 ls 30 []) ?_ _ _ ls hP hD hS (lv_sub hl [0, 1] rfl))
    · intro zz h H locs ls hP hD hS hl
      obtain ⟨x1_30e, r_has_30e⟩ := zz
      have hP : va_P D cls9 (wd_Mo_weigh cA a_r r_manner r_above r_below r_nodes r_arcs r_left r_isBest r_arePlateaus r_all r_a r_b r_ties r_z r_plateaus r_ones r_others r_weights r_there r_between_2e r_joins_2e r_has_30e) H := hP
      have hD : va_D A (wd_Mo_weigh cA a_r r_manner r_above r_below r_nodes r_arcs r_left r_isBest r_arePlateaus r_all r_a r_b r_ties r_z r_plateaus r_ones r_others r_weights r_there r_between_2e r_joins_2e r_has_30e) := hD
      have hl : lv_has ls 2 [(1, .int x1_30e), (0, .ref (a_r 0))] := hl
      refine cast (hG _ _ _ _ _ _ _).symm ?_
      refine lv_aload_n hx hb d_Mo_weigh_49 rfl (lv_at hl 1 rfl) ?_
      refine lv_lconst (v := 0) hx hb d_Mo_weigh_50 (by decide) ?_
      refine va_put (ci := 8) (v := .long (0 : Int64)) (ty := .long) (C := R_Mo) (T := F_Mo) (N := 36) hx hb hal in_Mo t_Mo t_Mo_ok n_Mo hown hK hP hD hS 0 rfl rfl 16 (by decide) (hal _ kw_653) (fun _ h9 => h9) rfl (by decide +kernel) rfl rfl (Nat.le_of_ble_eq_true rfl) d_Mo_weigh_51 (fun H locs hP hD hS => ?_)
      have hP : va_P D cls9 (wd_Mo_weigh cA a_r r_manner r_above r_below r_nodes r_arcs r_left r_isBest r_arePlateaus (0 : Int64) r_a r_b r_ties r_z r_plateaus r_ones r_others r_weights r_there r_between_2e r_joins_2e r_has_30e) H := hP
      have hD : va_D A (wd_Mo_weigh cA a_r r_manner r_above r_below r_nodes r_arcs r_left r_isBest r_arePlateaus (0 : Int64) r_a r_b r_ties r_z r_plateaus r_ones r_others r_weights r_there r_between_2e r_joins_2e r_has_30e) := hD
      refine lv_iconst (v := 0) hx hb d_Mo_weigh_54 (by decide) ?_
      refine lv_istore_n (lv' := [(1, .int (0 : Int32)), (0, .ref (a_r 0))]) hx hb d_Mo_weigh_55 rfl hl (by decide) rfl (fun ls hl => ?_)
      refine cast (hG _ _ _ _ _ _ _) (lp_go2 h (fun zz : Int32 × Int64 × (Nat → Int32) × (Nat → Int32) × (Nat → Int32) => ∀ (H : Heap) (locs : List Loc) (ls : Array Slot), va_P D cls9 (wd_Mo_weigh cA a_r r_manner r_above r_below r_nodes r_arcs r_left r_isBest r_arePlateaus zz.2.1 r_a r_b r_ties r_z r_plateaus r_ones r_others r_weights r_there zz.2.2.1 zz.2.2.2.2 zz.2.2.2.1) H → va_D A (wd_Mo_weigh cA a_r r_manner r_above r_below r_nodes r_arcs r_left r_isBest r_arePlateaus zz.2.1 r_a r_b r_ties r_z r_plateaus r_ones r_others r_weights r_there zz.2.2.1 zz.2.2.2.2 zz.2.2.2.1) → va_S A s.heap H locs → lv_has ls 2 [(1, .int zz.1), (0, .ref (a_r 0))] → G H locs 0 0 ls 238 []) ?_ (fun zz : Int32 × Int64 × (Nat → Int32) × (Nat → Int32) × (Nat → Int32) => ∀ (H : Heap) (locs : List Loc) (ls : Array Slot), va_P D cls9 (wd_Mo_weigh cA a_r r_manner r_above r_below r_nodes r_arcs r_left r_isBest r_arePlateaus zz.2.1 r_a r_b r_ties r_z r_plateaus r_ones r_others r_weights r_there zz.2.2.1 zz.2.2.2.2 zz.2.2.2.1) H → va_D A (wd_Mo_weigh cA a_r r_manner r_above r_below r_nodes r_arcs r_left r_isBest r_arePlateaus zz.2.1 r_a r_b r_ties r_z r_plateaus r_ones r_others r_weights r_there zz.2.2.1 zz.2.2.2.2 zz.2.2.2.1) → va_S A s.heap H locs → lv_has ls 2 [(1, .int zz.1), (0, .ref (a_r 0))] → G H locs 0 0 ls 56 []) ?_ _ _ ls hP hD hS (lv_sub hl [0, 1] rfl))
      · intro zz h H locs ls hP hD hS hl
        obtain ⟨x1_56e, r_all_56e, r_between_56e, r_has_56e, r_joins_56e⟩ := zz
        have hP : va_P D cls9 (wd_Mo_weigh cA a_r r_manner r_above r_below r_nodes r_arcs r_left r_isBest r_arePlateaus r_all_56e r_a r_b r_ties r_z r_plateaus r_ones r_others r_weights r_there r_between_56e r_joins_56e r_has_56e) H := hP
        have hD : va_D A (wd_Mo_weigh cA a_r r_manner r_above r_below r_nodes r_arcs r_left r_isBest r_arePlateaus r_all_56e r_a r_b r_ties r_z r_plateaus r_ones r_others r_weights r_there r_between_56e r_joins_56e r_has_56e) := hD
        have hl : lv_has ls 2 [(1, .int x1_56e), (0, .ref (a_r 0))] := hl
        refine cast (hG _ _ _ _ _ _ _).symm ?_
        exact W.vret hx hb hr (fun t ht hW => ⟨⟨(r_all_56e, r_between_56e, r_joins_56e, r_has_56e), rfl, Option.some.inj h, by rw [ht]; exact hP, va_K.moved hW.alike hK, hD⟩, hS.F ht⟩) hS.2.2 d_Mo_weigh_238
      · intro back exit zz hB_56 hE_56 h H locs ls hP hD hS hl
        obtain ⟨x1_56, r_all_56, r_between_56, r_has_56, r_joins_56⟩ := zz
        have hP : va_P D cls9 (wd_Mo_weigh cA a_r r_manner r_above r_below r_nodes r_arcs r_left r_isBest r_arePlateaus r_all_56 r_a r_b r_ties r_z r_plateaus r_ones r_others r_weights r_there r_between_56 r_joins_56 r_has_56) H := hP
        have hD : va_D A (wd_Mo_weigh cA a_r r_manner r_above r_below r_nodes r_arcs r_left r_isBest r_arePlateaus r_all_56 r_a r_b r_ties r_z r_plateaus r_ones r_others r_weights r_there r_between_56 r_joins_56 r_has_56) := hD
        have hl : lv_has ls 2 [(1, .int x1_56), (0, .ref (a_r 0))] := hl
        refine cast (hG _ _ _ _ _ _ _).symm ?_
        refine lv_iload_n hx hb d_Mo_weigh_56 rfl (lv_at hl 0 rfl) ?_
        refine lv_aload_n hx hb d_Mo_weigh_57 rfl (lv_at hl 1 rfl) ?_
        refine va_get (ci := 8) (v := .int r_arcs) (C := R_Mo) (T := F_Mo) (N := 36) hx hb hal in_Mo hown hK hP 0 rfl rfl 4 (by decide) (hal _ kw_641) (fun _ h9 => h9) rfl d_Mo_weigh_58 ?_
        refine lv_icmp_ge (tgt := 238) hx hb d_Mo_weigh_61 (by decide) (fun c_1 => ?_) (fun c_1 => ?_)
        · have h := ifp (c_1) h
          exact cast (hG _ _ _ _ _ _ _) (hE_56 (x1_56, r_all_56, r_between_56, r_has_56, r_joins_56) h _ _ _ hP hD hS (lv_sub hl [0, 1] rfl))
        · have h := ifn (c_1) h
          refine lv_aload_n hx hb d_Mo_weigh_64 rfl (lv_at hl 1 rfl) ?_
          refine lv_iload_n hx hb d_Mo_weigh_65 rfl (lv_at hl 0 rfl) ?_
          obtain ⟨o_5, hc_4, h⟩ := bd h
          have hPc := hP.sub (ws' := (wd_Mo_counts cA a_r r_manner r_above r_below r_nodes r_arcs r_left r_isBest r_arePlateaus r_all_56 r_a r_b r_ties r_z r_plateaus r_weights r_there)) [0, 3, 4] rfl
          have hDc := hD.sub (ws' := (wd_Mo_counts cA a_r r_manner r_above r_below r_nodes r_arcs r_left r_isBest r_arePlateaus r_all_56 r_a r_b r_ties r_z r_plateaus r_weights r_there)) [0, 3, 4] (by decide) rfl
          have hFc := va_free (wc := (wd_Mo_counts cA a_r r_manner r_above r_below r_nodes r_arcs r_left r_isBest r_arePlateaus r_all_56 r_a r_b r_ties r_z r_plateaus r_weights r_there)) hD hS hA [0, 3, 4] rfl
          refine va_calli (va_runV (C := R_Mo) (As := [.int x1_56]) (rest := []) ⟨hx, hb, hml, hown, hal⟩ (c_Mo_counts l D cA a_r H.size r_manner r_above r_below r_nodes r_arcs r_left r_isBest r_arePlateaus r_all_56 r_a r_b r_ties r_z r_plateaus r_weights r_there x1_56 o_5 hc_4) (cwV 1 hal (goodV kw_807 kw_809 kw_p31 kw_9 kw_810) rfl rfl rfl (by decide +kernel) ⟨Nat.le_of_ble_eq_true rfl, Nat.le_of_ble_eq_true rfl⟩) ⟨fun a U g mk q => by obtain ⟨q0, q1, qP, qK, qD⟩ := q; exact ⟨q0, q1, qP, va_K.moved (u := U) (U := U.calling g mk a) (Vm.Alike.refl U.vm) qK, qD⟩, va_recv hK hP (ci := 8) (q0 := 0) rfl rfl, fun U hU hW => ⟨rfl, by rw [hU], by rw [hU]; exact hPc, va_K.moved hW.alike hK, hDc.weaken (fun _ _ _ _ => trivial)⟩⟩ rfl rfl hl.1 rfl (lv_room (Nat.le_of_ble_eq_true rfl)) d_Mo_weigh_66 ⟨Nat.le_of_ble_eq_true rfl, Nat.le_of_ble_eq_true rfl⟩) hS (fun q _ h => hFc q h) hFc (fun r_3 u t H1 locs ht hvm hw hB hz1 hk1 hS => ?_)
          subst hw
          obtain ⟨hP1, hK1, hD1⟩ := hB
          rw [ht] at hP1
          have hP1 : va_P D cls9 (wd_Mo_counts cA a_r r_manner r_above r_below r_nodes r_arcs r_left r_isBest r_arePlateaus r_all_56 r_a r_b r_ties r_z r_plateaus r_weights r_there) H1 := hP1
          obtain ⟨hP, hD⟩ := va_join (wr := ([1, 2, 5, 6, 7] : List Nat).filterMap (fun i => (wd_Mo_weigh cA a_r r_manner r_above r_below r_nodes r_arcs r_left r_isBest r_arePlateaus r_all_56 r_a r_b r_ties r_z r_plateaus r_ones r_others r_weights r_there r_between_56 r_joins_56 r_has_56)[i]?)) (w1 := (wd_Mo_counts cA a_r r_manner r_above r_below r_nodes r_arcs r_left r_isBest r_arePlateaus r_all_56 r_a r_b r_ties r_z r_plateaus r_weights r_there)) hP hD [0, 3, 4] [1, 2, 5, 6, 7] rfl rfl (by decide) (by decide) hk1 hFc hP1 hD1
          generalize H1 = H at hP hS ⊢
          have hP : va_P D cls9 (wd_Mo_weigh cA a_r r_manner r_above r_below r_nodes r_arcs r_left r_isBest r_arePlateaus r_all_56 r_a r_b r_ties r_z r_plateaus r_ones r_others r_weights r_there r_between_56 r_joins_56 r_has_56) H := hP.sub [5, 0, 1, 6, 7, 2, 3, 4] rfl
          have hD : va_D A (wd_Mo_weigh cA a_r r_manner r_above r_below r_nodes r_arcs r_left r_isBest r_arePlateaus r_all_56 r_a r_b r_ties r_z r_plateaus r_ones r_others r_weights r_there r_between_56 r_joins_56 r_has_56) := hD.sub [5, 0, 1, 6, 7, 2, 3, 4] (by decide) rfl
          refine lv_if_eq (tgt := 232) hx hb d_Mo_weigh_69 (by decide) (fun c_6 => ?_) (fun c_6 => ?_)
          · have h := ifp (c_6) h
            refine lv_iinc (v := (x1_56 + 1)) (lv' := [(1, .int (x1_56 + 1)), (0, .ref (a_r 0))]) hx hb d_Mo_weigh_232 hl (k := 0) rfl rfl (by decide) rfl (fun ls hl => ?_)
            refine lv_goto (tgt := 56) hx hb d_Mo_weigh_235 (by decide) ?_
            exact cast (hG _ _ _ _ _ _ _) (hB_56 ((x1_56 + 1), r_all_56, r_between_56, r_has_56, r_joins_56) h _ _ _ hP hD hS (lv_sub hl [0, 1] rfl))
          · have h := ifn (c_6) h
            refine lv_aload_n hx hb d_Mo_weigh_72 rfl (lv_at hl 1 rfl) ?_
            refine va_get (ci := 8) (v := .ref (a_r 6)) (C := R_Mo) (T := F_Mo) (N := 36) hx hb hal in_Mo hown hK hP 0 rfl rfl 13 (by decide) (hal _ kw_650) (fun _ h9 => h9) rfl d_Mo_weigh_73 ?_
            refine lv_bipush (v := 9) hx hb d_Mo_weigh_76 (by decide) ?_
            refine lv_aload_n hx hb d_Mo_weigh_78 rfl (lv_at hl 1 rfl) ?_
            refine va_get (ci := 8) (v := .ref (a_r 1)) (C := R_Mo) (T := F_Mo) (N := 36) hx hb hal in_Mo hown hK hP 0 rfl rfl 6 (by decide) (hal _ kw_643) (fun _ h9 => h9) rfl d_Mo_weigh_79 ?_
            refine lv_iload_n hx hb d_Mo_weigh_82 rfl (lv_at hl 0 rfl) ?_
            obtain ⟨g_7, h⟩ := gd h
            refine va_iald hx hb hK hP 1 0 rfl rfl (inb_in g_7) d_Mo_weigh_83 ?_
            refine lv_imul hx hb d_Mo_weigh_84 ?_
            refine lv_aload_n hx hb d_Mo_weigh_85 rfl (lv_at hl 1 rfl) ?_
            refine va_get (ci := 8) (v := .ref (a_r 2)) (C := R_Mo) (T := F_Mo) (N := 36) hx hb hal in_Mo hown hK hP 0 rfl rfl 7 (by decide) (hal _ kw_644) (fun _ h9 => h9) rfl d_Mo_weigh_86 ?_
            refine lv_iload_n hx hb d_Mo_weigh_89 rfl (lv_at hl 0 rfl) ?_
            refine va_iald hx hb hK hP 2 0 rfl rfl (inb_in g_7) d_Mo_weigh_90 ?_
            refine lv_iadd hx hb d_Mo_weigh_91 ?_
            refine lv_dup2_11 hx hb d_Mo_weigh_92 rfl rfl ?_
            obtain ⟨g_8, h⟩ := gd h
            refine va_iald hx hb hK hP 5 0 rfl rfl (inb_in g_8) d_Mo_weigh_93 ?_
            refine lv_aload_n hx hb d_Mo_weigh_94 rfl (lv_at hl 1 rfl) ?_
            refine va_get (ci := 8) (v := .ref (a_r 3)) (C := R_Mo) (T := F_Mo) (N := 36) hx hb hal in_Mo hown hK hP 0 rfl rfl 8 (by decide) (hal _ kw_645) (fun _ h9 => h9) rfl d_Mo_weigh_95 ?_
            refine lv_iload_n hx hb d_Mo_weigh_98 rfl (lv_at hl 0 rfl) ?_
            refine va_iald hx hb hK hP 3 0 rfl rfl (inb_in g_7) d_Mo_weigh_99 ?_
            refine lv_iadd hx hb d_Mo_weigh_100 ?_
            refine va_iast hx hb hK hP hD hS 5 0 rfl rfl (inb_in g_8) d_Mo_weigh_101 (fun H locs hP hD hS => ?_)
            have hP : va_P D cls9 (wd_Mo_weigh cA a_r r_manner r_above r_below r_nodes r_arcs r_left r_isBest r_arePlateaus r_all_56 r_a r_b r_ties r_z r_plateaus r_ones r_others r_weights r_there (upd r_between_56 (((9 : Int32) * (r_ones x1_56.toNatClampNeg)) + (r_others x1_56.toNatClampNeg)).toNatClampNeg ((r_between_56 (((9 : Int32) * (r_ones x1_56.toNatClampNeg)) + (r_others x1_56.toNatClampNeg)).toNatClampNeg) + (r_weights x1_56.toNatClampNeg))) r_joins_56 r_has_56) H := hP
            have hD : va_D A (wd_Mo_weigh cA a_r r_manner r_above r_below r_nodes r_arcs r_left r_isBest r_arePlateaus r_all_56 r_a r_b r_ties r_z r_plateaus r_ones r_others r_weights r_there (upd r_between_56 (((9 : Int32) * (r_ones x1_56.toNatClampNeg)) + (r_others x1_56.toNatClampNeg)).toNatClampNeg ((r_between_56 (((9 : Int32) * (r_ones x1_56.toNatClampNeg)) + (r_others x1_56.toNatClampNeg)).toNatClampNeg) + (r_weights x1_56.toNatClampNeg))) r_joins_56 r_has_56) := hD
            refine lv_aload_n hx hb d_Mo_weigh_102 rfl (lv_at hl 1 rfl) ?_
            refine va_get (ci := 8) (v := .ref (a_r 6)) (C := R_Mo) (T := F_Mo) (N := 36) hx hb hal in_Mo hown hK hP 0 rfl rfl 13 (by decide) (hal _ kw_650) (fun _ h9 => h9) rfl d_Mo_weigh_103 ?_
            refine lv_bipush (v := 9) hx hb d_Mo_weigh_106 (by decide) ?_
            refine lv_aload_n hx hb d_Mo_weigh_108 rfl (lv_at hl 1 rfl) ?_
            refine va_get (ci := 8) (v := .ref (a_r 2)) (C := R_Mo) (T := F_Mo) (N := 36) hx hb hal in_Mo hown hK hP 0 rfl rfl 7 (by decide) (hal _ kw_644) (fun _ h9 => h9) rfl d_Mo_weigh_109 ?_
            refine lv_iload_n hx hb d_Mo_weigh_112 rfl (lv_at hl 0 rfl) ?_
            refine va_iald hx hb hK hP 2 0 rfl rfl (inb_in g_7) d_Mo_weigh_113 ?_
            refine lv_imul hx hb d_Mo_weigh_114 ?_
            refine lv_aload_n hx hb d_Mo_weigh_115 rfl (lv_at hl 1 rfl) ?_
            refine va_get (ci := 8) (v := .ref (a_r 1)) (C := R_Mo) (T := F_Mo) (N := 36) hx hb hal in_Mo hown hK hP 0 rfl rfl 6 (by decide) (hal _ kw_643) (fun _ h9 => h9) rfl d_Mo_weigh_116 ?_
            refine lv_iload_n hx hb d_Mo_weigh_119 rfl (lv_at hl 0 rfl) ?_
            refine va_iald hx hb hK hP 1 0 rfl rfl (inb_in g_7) d_Mo_weigh_120 ?_
            refine lv_iadd hx hb d_Mo_weigh_121 ?_
            refine lv_dup2_11 hx hb d_Mo_weigh_122 rfl rfl ?_
            obtain ⟨g_9, h⟩ := gd h
            refine va_iald hx hb hK hP 5 0 rfl rfl (inb_in g_9) d_Mo_weigh_123 ?_
            refine lv_aload_n hx hb d_Mo_weigh_124 rfl (lv_at hl 1 rfl) ?_
            refine va_get (ci := 8) (v := .ref (a_r 3)) (C := R_Mo) (T := F_Mo) (N := 36) hx hb hal in_Mo hown hK hP 0 rfl rfl 8 (by decide) (hal _ kw_645) (fun _ h9 => h9) rfl d_Mo_weigh_125 ?_
            refine lv_iload_n hx hb d_Mo_weigh_128 rfl (lv_at hl 0 rfl) ?_
            refine va_iald hx hb hK hP 3 0 rfl rfl (inb_in g_7) d_Mo_weigh_129 ?_
            refine lv_iadd hx hb d_Mo_weigh_130 ?_
            refine va_iast hx hb hK hP hD hS 5 0 rfl rfl (inb_in g_9) d_Mo_weigh_131 (fun H locs hP hD hS => ?_)
            have hP : va_P D cls9 (wd_Mo_weigh cA a_r r_manner r_above r_below r_nodes r_arcs r_left r_isBest r_arePlateaus r_all_56 r_a r_b r_ties r_z r_plateaus r_ones r_others r_weights r_there (upd (upd r_between_56 (((9 : Int32) * (r_ones x1_56.toNatClampNeg)) + (r_others x1_56.toNatClampNeg)).toNatClampNeg ((r_between_56 (((9 : Int32) * (r_ones x1_56.toNatClampNeg)) + (r_others x1_56.toNatClampNeg)).toNatClampNeg) + (r_weights x1_56.toNatClampNeg))) (((9 : Int32) * (r_others x1_56.toNatClampNeg)) + (r_ones x1_56.toNatClampNeg)).toNatClampNeg (((upd r_between_56 (((9 : Int32) * (r_ones x1_56.toNatClampNeg)) + (r_others x1_56.toNatClampNeg)).toNatClampNeg ((r_between_56 (((9 : Int32) * (r_ones x1_56.toNatClampNeg)) + (r_others x1_56.toNatClampNeg)).toNatClampNeg) + (r_weights x1_56.toNatClampNeg))) (((9 : Int32) * (r_others x1_56.toNatClampNeg)) + (r_ones x1_56.toNatClampNeg)).toNatClampNeg) + (r_weights x1_56.toNatClampNeg))) r_joins_56 r_has_56) H := hP
            have hD : va_D A (wd_Mo_weigh cA a_r r_manner r_above r_below r_nodes r_arcs r_left r_isBest r_arePlateaus r_all_56 r_a r_b r_ties r_z r_plateaus r_ones r_others r_weights r_there (upd (upd r_between_56 (((9 : Int32) * (r_ones x1_56.toNatClampNeg)) + (r_others x1_56.toNatClampNeg)).toNatClampNeg ((r_between_56 (((9 : Int32) * (r_ones x1_56.toNatClampNeg)) + (r_others x1_56.toNatClampNeg)).toNatClampNeg) + (r_weights x1_56.toNatClampNeg))) (((9 : Int32) * (r_others x1_56.toNatClampNeg)) + (r_ones x1_56.toNatClampNeg)).toNatClampNeg (((upd r_between_56 (((9 : Int32) * (r_ones x1_56.toNatClampNeg)) + (r_others x1_56.toNatClampNeg)).toNatClampNeg ((r_between_56 (((9 : Int32) * (r_ones x1_56.toNatClampNeg)) + (r_others x1_56.toNatClampNeg)).toNatClampNeg) + (r_weights x1_56.toNatClampNeg))) (((9 : Int32) * (r_others x1_56.toNatClampNeg)) + (r_ones x1_56.toNatClampNeg)).toNatClampNeg) + (r_weights x1_56.toNatClampNeg))) r_joins_56 r_has_56) := hD
            refine lv_aload_n hx hb d_Mo_weigh_132 rfl (lv_at hl 1 rfl) ?_
            refine va_get (ci := 8) (v := .ref (a_r 7)) (C := R_Mo) (T := F_Mo) (N := 36) hx hb hal in_Mo hown hK hP 0 rfl rfl 14 (by decide) (hal _ kw_651) (fun _ h9 => h9) rfl d_Mo_weigh_133 ?_
            refine lv_bipush (v := 9) hx hb d_Mo_weigh_136 (by decide) ?_
            refine lv_aload_n hx hb d_Mo_weigh_138 rfl (lv_at hl 1 rfl) ?_
            refine va_get (ci := 8) (v := .ref (a_r 1)) (C := R_Mo) (T := F_Mo) (N := 36) hx hb hal in_Mo hown hK hP 0 rfl rfl 6 (by decide) (hal _ kw_643) (fun _ h9 => h9) rfl d_Mo_weigh_139 ?_
            refine lv_iload_n hx hb d_Mo_weigh_142 rfl (lv_at hl 0 rfl) ?_
            refine va_iald hx hb hK hP 1 0 rfl rfl (inb_in g_7) d_Mo_weigh_143 ?_
            refine lv_imul hx hb d_Mo_weigh_144 ?_
            refine lv_aload_n hx hb d_Mo_weigh_145 rfl (lv_at hl 1 rfl) ?_
            refine va_get (ci := 8) (v := .ref (a_r 2)) (C := R_Mo) (T := F_Mo) (N := 36) hx hb hal in_Mo hown hK hP 0 rfl rfl 7 (by decide) (hal _ kw_644) (fun _ h9 => h9) rfl d_Mo_weigh_146 ?_
            refine lv_iload_n hx hb d_Mo_weigh_149 rfl (lv_at hl 0 rfl) ?_
            refine va_iald hx hb hK hP 2 0 rfl rfl (inb_in g_7) d_Mo_weigh_150 ?_
            refine lv_iadd hx hb d_Mo_weigh_151 ?_
            refine lv_iconst (v := 1) hx hb d_Mo_weigh_152 (by decide) ?_
            refine va_zast hx hb hK hP hD hS 6 2 rfl rfl (inb_in g_8) d_Mo_weigh_153 (fun H locs hP hD hS => ?_)
            have hP : va_P D cls9 (wd_Mo_weigh cA a_r r_manner r_above r_below r_nodes r_arcs r_left r_isBest r_arePlateaus r_all_56 r_a r_b r_ties r_z r_plateaus r_ones r_others r_weights r_there (upd (upd r_between_56 (((9 : Int32) * (r_ones x1_56.toNatClampNeg)) + (r_others x1_56.toNatClampNeg)).toNatClampNeg ((r_between_56 (((9 : Int32) * (r_ones x1_56.toNatClampNeg)) + (r_others x1_56.toNatClampNeg)).toNatClampNeg) + (r_weights x1_56.toNatClampNeg))) (((9 : Int32) * (r_others x1_56.toNatClampNeg)) + (r_ones x1_56.toNatClampNeg)).toNatClampNeg (((upd r_between_56 (((9 : Int32) * (r_ones x1_56.toNatClampNeg)) + (r_others x1_56.toNatClampNeg)).toNatClampNeg ((r_between_56 (((9 : Int32) * (r_ones x1_56.toNatClampNeg)) + (r_others x1_56.toNatClampNeg)).toNatClampNeg) + (r_weights x1_56.toNatClampNeg))) (((9 : Int32) * (r_others x1_56.toNatClampNeg)) + (r_ones x1_56.toNatClampNeg)).toNatClampNeg) + (r_weights x1_56.toNatClampNeg))) (upd r_joins_56 (((9 : Int32) * (r_ones x1_56.toNatClampNeg)) + (r_others x1_56.toNatClampNeg)).toNatClampNeg (vp_nar .boolean (1 : Int32))) r_has_56) H := hP
            have hD : va_D A (wd_Mo_weigh cA a_r r_manner r_above r_below r_nodes r_arcs r_left r_isBest r_arePlateaus r_all_56 r_a r_b r_ties r_z r_plateaus r_ones r_others r_weights r_there (upd (upd r_between_56 (((9 : Int32) * (r_ones x1_56.toNatClampNeg)) + (r_others x1_56.toNatClampNeg)).toNatClampNeg ((r_between_56 (((9 : Int32) * (r_ones x1_56.toNatClampNeg)) + (r_others x1_56.toNatClampNeg)).toNatClampNeg) + (r_weights x1_56.toNatClampNeg))) (((9 : Int32) * (r_others x1_56.toNatClampNeg)) + (r_ones x1_56.toNatClampNeg)).toNatClampNeg (((upd r_between_56 (((9 : Int32) * (r_ones x1_56.toNatClampNeg)) + (r_others x1_56.toNatClampNeg)).toNatClampNeg ((r_between_56 (((9 : Int32) * (r_ones x1_56.toNatClampNeg)) + (r_others x1_56.toNatClampNeg)).toNatClampNeg) + (r_weights x1_56.toNatClampNeg))) (((9 : Int32) * (r_others x1_56.toNatClampNeg)) + (r_ones x1_56.toNatClampNeg)).toNatClampNeg) + (r_weights x1_56.toNatClampNeg))) (upd r_joins_56 (((9 : Int32) * (r_ones x1_56.toNatClampNeg)) + (r_others x1_56.toNatClampNeg)).toNatClampNeg (vp_nar .boolean (1 : Int32))) r_has_56) := hD
            refine lv_aload_n hx hb d_Mo_weigh_154 rfl (lv_at hl 1 rfl) ?_
            refine va_get (ci := 8) (v := .ref (a_r 7)) (C := R_Mo) (T := F_Mo) (N := 36) hx hb hal in_Mo hown hK hP 0 rfl rfl 14 (by decide) (hal _ kw_651) (fun _ h9 => h9) rfl d_Mo_weigh_155 ?_
            refine lv_bipush (v := 9) hx hb d_Mo_weigh_158 (by decide) ?_
            refine lv_aload_n hx hb d_Mo_weigh_160 rfl (lv_at hl 1 rfl) ?_
            refine va_get (ci := 8) (v := .ref (a_r 2)) (C := R_Mo) (T := F_Mo) (N := 36) hx hb hal in_Mo hown hK hP 0 rfl rfl 7 (by decide) (hal _ kw_644) (fun _ h9 => h9) rfl d_Mo_weigh_161 ?_
            refine lv_iload_n hx hb d_Mo_weigh_164 rfl (lv_at hl 0 rfl) ?_
            refine va_iald hx hb hK hP 2 0 rfl rfl (inb_in g_7) d_Mo_weigh_165 ?_
            refine lv_imul hx hb d_Mo_weigh_166 ?_
            refine lv_aload_n hx hb d_Mo_weigh_167 rfl (lv_at hl 1 rfl) ?_
            refine va_get (ci := 8) (v := .ref (a_r 1)) (C := R_Mo) (T := F_Mo) (N := 36) hx hb hal in_Mo hown hK hP 0 rfl rfl 6 (by decide) (hal _ kw_643) (fun _ h9 => h9) rfl d_Mo_weigh_168 ?_
            refine lv_iload_n hx hb d_Mo_weigh_171 rfl (lv_at hl 0 rfl) ?_
            refine va_iald hx hb hK hP 1 0 rfl rfl (inb_in g_7) d_Mo_weigh_172 ?_
            refine lv_iadd hx hb d_Mo_weigh_173 ?_
            refine lv_iconst (v := 1) hx hb d_Mo_weigh_174 (by decide) ?_
            refine va_zast hx hb hK hP hD hS 6 2 rfl rfl (inb_in g_9) d_Mo_weigh_175 (fun H locs hP hD hS => ?_)
            have hP : va_P D cls9 (wd_Mo_weigh cA a_r r_manner r_above r_below r_nodes r_arcs r_left r_isBest r_arePlateaus r_all_56 r_a r_b r_ties r_z r_plateaus r_ones r_others r_weights r_there (upd (upd r_between_56 (((9 : Int32) * (r_ones x1_56.toNatClampNeg)) + (r_others x1_56.toNatClampNeg)).toNatClampNeg ((r_between_56 (((9 : Int32) * (r_ones x1_56.toNatClampNeg)) + (r_others x1_56.toNatClampNeg)).toNatClampNeg) + (r_weights x1_56.toNatClampNeg))) (((9 : Int32) * (r_others x1_56.toNatClampNeg)) + (r_ones x1_56.toNatClampNeg)).toNatClampNeg (((upd r_between_56 (((9 : Int32) * (r_ones x1_56.toNatClampNeg)) + (r_others x1_56.toNatClampNeg)).toNatClampNeg ((r_between_56 (((9 : Int32) * (r_ones x1_56.toNatClampNeg)) + (r_others x1_56.toNatClampNeg)).toNatClampNeg) + (r_weights x1_56.toNatClampNeg))) (((9 : Int32) * (r_others x1_56.toNatClampNeg)) + (r_ones x1_56.toNatClampNeg)).toNatClampNeg) + (r_weights x1_56.toNatClampNeg))) (upd (upd r_joins_56 (((9 : Int32) * (r_ones x1_56.toNatClampNeg)) + (r_others x1_56.toNatClampNeg)).toNatClampNeg (vp_nar .boolean (1 : Int32))) (((9 : Int32) * (r_others x1_56.toNatClampNeg)) + (r_ones x1_56.toNatClampNeg)).toNatClampNeg (vp_nar .boolean (1 : Int32))) r_has_56) H := hP
            have hD : va_D A (wd_Mo_weigh cA a_r r_manner r_above r_below r_nodes r_arcs r_left r_isBest r_arePlateaus r_all_56 r_a r_b r_ties r_z r_plateaus r_ones r_others r_weights r_there (upd (upd r_between_56 (((9 : Int32) * (r_ones x1_56.toNatClampNeg)) + (r_others x1_56.toNatClampNeg)).toNatClampNeg ((r_between_56 (((9 : Int32) * (r_ones x1_56.toNatClampNeg)) + (r_others x1_56.toNatClampNeg)).toNatClampNeg) + (r_weights x1_56.toNatClampNeg))) (((9 : Int32) * (r_others x1_56.toNatClampNeg)) + (r_ones x1_56.toNatClampNeg)).toNatClampNeg (((upd r_between_56 (((9 : Int32) * (r_ones x1_56.toNatClampNeg)) + (r_others x1_56.toNatClampNeg)).toNatClampNeg ((r_between_56 (((9 : Int32) * (r_ones x1_56.toNatClampNeg)) + (r_others x1_56.toNatClampNeg)).toNatClampNeg) + (r_weights x1_56.toNatClampNeg))) (((9 : Int32) * (r_others x1_56.toNatClampNeg)) + (r_ones x1_56.toNatClampNeg)).toNatClampNeg) + (r_weights x1_56.toNatClampNeg))) (upd (upd r_joins_56 (((9 : Int32) * (r_ones x1_56.toNatClampNeg)) + (r_others x1_56.toNatClampNeg)).toNatClampNeg (vp_nar .boolean (1 : Int32))) (((9 : Int32) * (r_others x1_56.toNatClampNeg)) + (r_ones x1_56.toNatClampNeg)).toNatClampNeg (vp_nar .boolean (1 : Int32))) r_has_56) := hD
            refine lv_aload_n hx hb d_Mo_weigh_176 rfl (lv_at hl 1 rfl) ?_
            refine va_get (ci := 8) (v := .ref (a_r 8)) (C := R_Mo) (T := F_Mo) (N := 36) hx hb hal in_Mo hown hK hP 0 rfl rfl 15 (by decide) (hal _ kw_652) (fun _ h9 => h9) rfl d_Mo_weigh_177 ?_
            refine lv_aload_n hx hb d_Mo_weigh_180 rfl (lv_at hl 1 rfl) ?_
            refine va_get (ci := 8) (v := .ref (a_r 1)) (C := R_Mo) (T := F_Mo) (N := 36) hx hb hal in_Mo hown hK hP 0 rfl rfl 6 (by decide) (hal _ kw_643) (fun _ h9 => h9) rfl d_Mo_weigh_181 ?_
            refine lv_iload_n hx hb d_Mo_weigh_184 rfl (lv_at hl 0 rfl) ?_
            refine va_iald hx hb hK hP 1 0 rfl rfl (inb_in g_7) d_Mo_weigh_185 ?_
            refine lv_dup2_11 hx hb d_Mo_weigh_186 rfl rfl ?_
            obtain ⟨g_10, h⟩ := gd h
            refine va_iald hx hb hK hP 7 0 rfl rfl (inb_in g_10) d_Mo_weigh_187 ?_
            refine lv_aload_n hx hb d_Mo_weigh_188 rfl (lv_at hl 1 rfl) ?_
            refine va_get (ci := 8) (v := .ref (a_r 3)) (C := R_Mo) (T := F_Mo) (N := 36) hx hb hal in_Mo hown hK hP 0 rfl rfl 8 (by decide) (hal _ kw_645) (fun _ h9 => h9) rfl d_Mo_weigh_189 ?_
            refine lv_iload_n hx hb d_Mo_weigh_192 rfl (lv_at hl 0 rfl) ?_
            refine va_iald hx hb hK hP 3 0 rfl rfl (inb_in g_7) d_Mo_weigh_193 ?_
            refine lv_iadd hx hb d_Mo_weigh_194 ?_
            refine va_iast hx hb hK hP hD hS 7 0 rfl rfl (inb_in g_10) d_Mo_weigh_195 (fun H locs hP hD hS => ?_)
            have hP : va_P D cls9 (wd_Mo_weigh cA a_r r_manner r_above r_below r_nodes r_arcs r_left r_isBest r_arePlateaus r_all_56 r_a r_b r_ties r_z r_plateaus r_ones r_others r_weights r_there (upd (upd r_between_56 (((9 : Int32) * (r_ones x1_56.toNatClampNeg)) + (r_others x1_56.toNatClampNeg)).toNatClampNeg ((r_between_56 (((9 : Int32) * (r_ones x1_56.toNatClampNeg)) + (r_others x1_56.toNatClampNeg)).toNatClampNeg) + (r_weights x1_56.toNatClampNeg))) (((9 : Int32) * (r_others x1_56.toNatClampNeg)) + (r_ones x1_56.toNatClampNeg)).toNatClampNeg (((upd r_between_56 (((9 : Int32) * (r_ones x1_56.toNatClampNeg)) + (r_others x1_56.toNatClampNeg)).toNatClampNeg ((r_between_56 (((9 : Int32) * (r_ones x1_56.toNatClampNeg)) + (r_others x1_56.toNatClampNeg)).toNatClampNeg) + (r_weights x1_56.toNatClampNeg))) (((9 : Int32) * (r_others x1_56.toNatClampNeg)) + (r_ones x1_56.toNatClampNeg)).toNatClampNeg) + (r_weights x1_56.toNatClampNeg))) (upd (upd r_joins_56 (((9 : Int32) * (r_ones x1_56.toNatClampNeg)) + (r_others x1_56.toNatClampNeg)).toNatClampNeg (vp_nar .boolean (1 : Int32))) (((9 : Int32) * (r_others x1_56.toNatClampNeg)) + (r_ones x1_56.toNatClampNeg)).toNatClampNeg (vp_nar .boolean (1 : Int32))) (upd r_has_56 (r_ones x1_56.toNatClampNeg).toNatClampNeg ((r_has_56 (r_ones x1_56.toNatClampNeg).toNatClampNeg) + (r_weights x1_56.toNatClampNeg)))) H := hP
            have hD : va_D A (wd_Mo_weigh cA a_r r_manner r_above r_below r_nodes r_arcs r_left r_isBest r_arePlateaus r_all_56 r_a r_b r_ties r_z r_plateaus r_ones r_others r_weights r_there (upd (upd r_between_56 (((9 : Int32) * (r_ones x1_56.toNatClampNeg)) + (r_others x1_56.toNatClampNeg)).toNatClampNeg ((r_between_56 (((9 : Int32) * (r_ones x1_56.toNatClampNeg)) + (r_others x1_56.toNatClampNeg)).toNatClampNeg) + (r_weights x1_56.toNatClampNeg))) (((9 : Int32) * (r_others x1_56.toNatClampNeg)) + (r_ones x1_56.toNatClampNeg)).toNatClampNeg (((upd r_between_56 (((9 : Int32) * (r_ones x1_56.toNatClampNeg)) + (r_others x1_56.toNatClampNeg)).toNatClampNeg ((r_between_56 (((9 : Int32) * (r_ones x1_56.toNatClampNeg)) + (r_others x1_56.toNatClampNeg)).toNatClampNeg) + (r_weights x1_56.toNatClampNeg))) (((9 : Int32) * (r_others x1_56.toNatClampNeg)) + (r_ones x1_56.toNatClampNeg)).toNatClampNeg) + (r_weights x1_56.toNatClampNeg))) (upd (upd r_joins_56 (((9 : Int32) * (r_ones x1_56.toNatClampNeg)) + (r_others x1_56.toNatClampNeg)).toNatClampNeg (vp_nar .boolean (1 : Int32))) (((9 : Int32) * (r_others x1_56.toNatClampNeg)) + (r_ones x1_56.toNatClampNeg)).toNatClampNeg (vp_nar .boolean (1 : Int32))) (upd r_has_56 (r_ones x1_56.toNatClampNeg).toNatClampNeg ((r_has_56 (r_ones x1_56.toNatClampNeg).toNatClampNeg) + (r_weights x1_56.toNatClampNeg)))) := hD
            refine lv_aload_n hx hb d_Mo_weigh_196 rfl (lv_at hl 1 rfl) ?_
            refine va_get (ci := 8) (v := .ref (a_r 8)) (C := R_Mo) (T := F_Mo) (N := 36) hx hb hal in_Mo hown hK hP 0 rfl rfl 15 (by decide) (hal _ kw_652) (fun _ h9 => h9) rfl d_Mo_weigh_197 ?_
            refine lv_aload_n hx hb d_Mo_weigh_200 rfl (lv_at hl 1 rfl) ?_
            refine va_get (ci := 8) (v := .ref (a_r 2)) (C := R_Mo) (T := F_Mo) (N := 36) hx hb hal in_Mo hown hK hP 0 rfl rfl 7 (by decide) (hal _ kw_644) (fun _ h9 => h9) rfl d_Mo_weigh_201 ?_
            refine lv_iload_n hx hb d_Mo_weigh_204 rfl (lv_at hl 0 rfl) ?_
            refine va_iald hx hb hK hP 2 0 rfl rfl (inb_in g_7) d_Mo_weigh_205 ?_
            refine lv_dup2_11 hx hb d_Mo_weigh_206 rfl rfl ?_
            obtain ⟨g_11, h⟩ := gd h
            refine va_iald hx hb hK hP 7 0 rfl rfl (inb_in g_11) d_Mo_weigh_207 ?_
            refine lv_aload_n hx hb d_Mo_weigh_208 rfl (lv_at hl 1 rfl) ?_
            refine va_get (ci := 8) (v := .ref (a_r 3)) (C := R_Mo) (T := F_Mo) (N := 36) hx hb hal in_Mo hown hK hP 0 rfl rfl 8 (by decide) (hal _ kw_645) (fun _ h9 => h9) rfl d_Mo_weigh_209 ?_
            refine lv_iload_n hx hb d_Mo_weigh_212 rfl (lv_at hl 0 rfl) ?_
            refine va_iald hx hb hK hP 3 0 rfl rfl (inb_in g_7) d_Mo_weigh_213 ?_
            refine lv_iadd hx hb d_Mo_weigh_214 ?_
            refine va_iast hx hb hK hP hD hS 7 0 rfl rfl (inb_in g_11) d_Mo_weigh_215 (fun H locs hP hD hS => ?_)
            have hP : va_P D cls9 (wd_Mo_weigh cA a_r r_manner r_above r_below r_nodes r_arcs r_left r_isBest r_arePlateaus r_all_56 r_a r_b r_ties r_z r_plateaus r_ones r_others r_weights r_there (upd (upd r_between_56 (((9 : Int32) * (r_ones x1_56.toNatClampNeg)) + (r_others x1_56.toNatClampNeg)).toNatClampNeg ((r_between_56 (((9 : Int32) * (r_ones x1_56.toNatClampNeg)) + (r_others x1_56.toNatClampNeg)).toNatClampNeg) + (r_weights x1_56.toNatClampNeg))) (((9 : Int32) * (r_others x1_56.toNatClampNeg)) + (r_ones x1_56.toNatClampNeg)).toNatClampNeg (((upd r_between_56 (((9 : Int32) * (r_ones x1_56.toNatClampNeg)) + (r_others x1_56.toNatClampNeg)).toNatClampNeg ((r_between_56 (((9 : Int32) * (r_ones x1_56.toNatClampNeg)) + (r_others x1_56.toNatClampNeg)).toNatClampNeg) + (r_weights x1_56.toNatClampNeg))) (((9 : Int32) * (r_others x1_56.toNatClampNeg)) + (r_ones x1_56.toNatClampNeg)).toNatClampNeg) + (r_weights x1_56.toNatClampNeg))) (upd (upd r_joins_56 (((9 : Int32) * (r_ones x1_56.toNatClampNeg)) + (r_others x1_56.toNatClampNeg)).toNatClampNeg (vp_nar .boolean (1 : Int32))) (((9 : Int32) * (r_others x1_56.toNatClampNeg)) + (r_ones x1_56.toNatClampNeg)).toNatClampNeg (vp_nar .boolean (1 : Int32))) (upd (upd r_has_56 (r_ones x1_56.toNatClampNeg).toNatClampNeg ((r_has_56 (r_ones x1_56.toNatClampNeg).toNatClampNeg) + (r_weights x1_56.toNatClampNeg))) (r_others x1_56.toNatClampNeg).toNatClampNeg (((upd r_has_56 (r_ones x1_56.toNatClampNeg).toNatClampNeg ((r_has_56 (r_ones x1_56.toNatClampNeg).toNatClampNeg) + (r_weights x1_56.toNatClampNeg))) (r_others x1_56.toNatClampNeg).toNatClampNeg) + (r_weights x1_56.toNatClampNeg)))) H := hP
            have hD : va_D A (wd_Mo_weigh cA a_r r_manner r_above r_below r_nodes r_arcs r_left r_isBest r_arePlateaus r_all_56 r_a r_b r_ties r_z r_plateaus r_ones r_others r_weights r_there (upd (upd r_between_56 (((9 : Int32) * (r_ones x1_56.toNatClampNeg)) + (r_others x1_56.toNatClampNeg)).toNatClampNeg ((r_between_56 (((9 : Int32) * (r_ones x1_56.toNatClampNeg)) + (r_others x1_56.toNatClampNeg)).toNatClampNeg) + (r_weights x1_56.toNatClampNeg))) (((9 : Int32) * (r_others x1_56.toNatClampNeg)) + (r_ones x1_56.toNatClampNeg)).toNatClampNeg (((upd r_between_56 (((9 : Int32) * (r_ones x1_56.toNatClampNeg)) + (r_others x1_56.toNatClampNeg)).toNatClampNeg ((r_between_56 (((9 : Int32) * (r_ones x1_56.toNatClampNeg)) + (r_others x1_56.toNatClampNeg)).toNatClampNeg) + (r_weights x1_56.toNatClampNeg))) (((9 : Int32) * (r_others x1_56.toNatClampNeg)) + (r_ones x1_56.toNatClampNeg)).toNatClampNeg) + (r_weights x1_56.toNatClampNeg))) (upd (upd r_joins_56 (((9 : Int32) * (r_ones x1_56.toNatClampNeg)) + (r_others x1_56.toNatClampNeg)).toNatClampNeg (vp_nar .boolean (1 : Int32))) (((9 : Int32) * (r_others x1_56.toNatClampNeg)) + (r_ones x1_56.toNatClampNeg)).toNatClampNeg (vp_nar .boolean (1 : Int32))) (upd (upd r_has_56 (r_ones x1_56.toNatClampNeg).toNatClampNeg ((r_has_56 (r_ones x1_56.toNatClampNeg).toNatClampNeg) + (r_weights x1_56.toNatClampNeg))) (r_others x1_56.toNatClampNeg).toNatClampNeg (((upd r_has_56 (r_ones x1_56.toNatClampNeg).toNatClampNeg ((r_has_56 (r_ones x1_56.toNatClampNeg).toNatClampNeg) + (r_weights x1_56.toNatClampNeg))) (r_others x1_56.toNatClampNeg).toNatClampNeg) + (r_weights x1_56.toNatClampNeg)))) := hD
            refine lv_aload_n hx hb d_Mo_weigh_216 rfl (lv_at hl 1 rfl) ?_
            refine lv_dup hx hb d_Mo_weigh_217 rfl ?_
            refine va_get (ci := 8) (v := .long r_all_56) (C := R_Mo) (T := F_Mo) (N := 36) hx hb hal in_Mo hown hK hP 0 rfl rfl 16 (by decide) (hal _ kw_653) (fun _ h9 => h9) rfl d_Mo_weigh_218 ?_
            refine lv_aload_n hx hb d_Mo_weigh_221 rfl (lv_at hl 1 rfl) ?_
            refine va_get (ci := 8) (v := .ref (a_r 3)) (C := R_Mo) (T := F_Mo) (N := 36) hx hb hal in_Mo hown hK hP 0 rfl rfl 8 (by decide) (hal _ kw_645) (fun _ h9 => h9) rfl d_Mo_weigh_222 ?_
            refine lv_iload_n hx hb d_Mo_weigh_225 rfl (lv_at hl 0 rfl) ?_
            refine va_iald hx hb hK hP 3 0 rfl rfl (inb_in g_7) d_Mo_weigh_226 ?_
            refine lv_i2l hx hb d_Mo_weigh_227 rfl ?_
            refine lv_ladd hx hb d_Mo_weigh_228 ?_
            refine va_put (ci := 8) (v := .long (r_all_56 + (r_weights x1_56.toNatClampNeg).toInt64)) (ty := .long) (C := R_Mo) (T := F_Mo) (N := 36) hx hb hal in_Mo t_Mo t_Mo_ok n_Mo hown hK hP hD hS 0 rfl rfl 16 (by decide) (hal _ kw_653) (fun _ h9 => h9) rfl (by decide +kernel) rfl rfl (Nat.le_of_ble_eq_true rfl) d_Mo_weigh_229 (fun H locs hP hD hS => ?_)
            have hP : va_P D cls9 (wd_Mo_weigh cA a_r r_manner r_above r_below r_nodes r_arcs r_left r_isBest r_arePlateaus (r_all_56 + (r_weights x1_56.toNatClampNeg).toInt64) r_a r_b r_ties r_z r_plateaus r_ones r_others r_weights r_there (upd (upd r_between_56 (((9 : Int32) * (r_ones x1_56.toNatClampNeg)) + (r_others x1_56.toNatClampNeg)).toNatClampNeg ((r_between_56 (((9 : Int32) * (r_ones x1_56.toNatClampNeg)) + (r_others x1_56.toNatClampNeg)).toNatClampNeg) + (r_weights x1_56.toNatClampNeg))) (((9 : Int32) * (r_others x1_56.toNatClampNeg)) + (r_ones x1_56.toNatClampNeg)).toNatClampNeg (((upd r_between_56 (((9 : Int32) * (r_ones x1_56.toNatClampNeg)) + (r_others x1_56.toNatClampNeg)).toNatClampNeg ((r_between_56 (((9 : Int32) * (r_ones x1_56.toNatClampNeg)) + (r_others x1_56.toNatClampNeg)).toNatClampNeg) + (r_weights x1_56.toNatClampNeg))) (((9 : Int32) * (r_others x1_56.toNatClampNeg)) + (r_ones x1_56.toNatClampNeg)).toNatClampNeg) + (r_weights x1_56.toNatClampNeg))) (upd (upd r_joins_56 (((9 : Int32) * (r_ones x1_56.toNatClampNeg)) + (r_others x1_56.toNatClampNeg)).toNatClampNeg (vp_nar .boolean (1 : Int32))) (((9 : Int32) * (r_others x1_56.toNatClampNeg)) + (r_ones x1_56.toNatClampNeg)).toNatClampNeg (vp_nar .boolean (1 : Int32))) (upd (upd r_has_56 (r_ones x1_56.toNatClampNeg).toNatClampNeg ((r_has_56 (r_ones x1_56.toNatClampNeg).toNatClampNeg) + (r_weights x1_56.toNatClampNeg))) (r_others x1_56.toNatClampNeg).toNatClampNeg (((upd r_has_56 (r_ones x1_56.toNatClampNeg).toNatClampNeg ((r_has_56 (r_ones x1_56.toNatClampNeg).toNatClampNeg) + (r_weights x1_56.toNatClampNeg))) (r_others x1_56.toNatClampNeg).toNatClampNeg) + (r_weights x1_56.toNatClampNeg)))) H := hP
            have hD : va_D A (wd_Mo_weigh cA a_r r_manner r_above r_below r_nodes r_arcs r_left r_isBest r_arePlateaus (r_all_56 + (r_weights x1_56.toNatClampNeg).toInt64) r_a r_b r_ties r_z r_plateaus r_ones r_others r_weights r_there (upd (upd r_between_56 (((9 : Int32) * (r_ones x1_56.toNatClampNeg)) + (r_others x1_56.toNatClampNeg)).toNatClampNeg ((r_between_56 (((9 : Int32) * (r_ones x1_56.toNatClampNeg)) + (r_others x1_56.toNatClampNeg)).toNatClampNeg) + (r_weights x1_56.toNatClampNeg))) (((9 : Int32) * (r_others x1_56.toNatClampNeg)) + (r_ones x1_56.toNatClampNeg)).toNatClampNeg (((upd r_between_56 (((9 : Int32) * (r_ones x1_56.toNatClampNeg)) + (r_others x1_56.toNatClampNeg)).toNatClampNeg ((r_between_56 (((9 : Int32) * (r_ones x1_56.toNatClampNeg)) + (r_others x1_56.toNatClampNeg)).toNatClampNeg) + (r_weights x1_56.toNatClampNeg))) (((9 : Int32) * (r_others x1_56.toNatClampNeg)) + (r_ones x1_56.toNatClampNeg)).toNatClampNeg) + (r_weights x1_56.toNatClampNeg))) (upd (upd r_joins_56 (((9 : Int32) * (r_ones x1_56.toNatClampNeg)) + (r_others x1_56.toNatClampNeg)).toNatClampNeg (vp_nar .boolean (1 : Int32))) (((9 : Int32) * (r_others x1_56.toNatClampNeg)) + (r_ones x1_56.toNatClampNeg)).toNatClampNeg (vp_nar .boolean (1 : Int32))) (upd (upd r_has_56 (r_ones x1_56.toNatClampNeg).toNatClampNeg ((r_has_56 (r_ones x1_56.toNatClampNeg).toNatClampNeg) + (r_weights x1_56.toNatClampNeg))) (r_others x1_56.toNatClampNeg).toNatClampNeg (((upd r_has_56 (r_ones x1_56.toNatClampNeg).toNatClampNeg ((r_has_56 (r_ones x1_56.toNatClampNeg).toNatClampNeg) + (r_weights x1_56.toNatClampNeg))) (r_others x1_56.toNatClampNeg).toNatClampNeg) + (r_weights x1_56.toNatClampNeg)))) := hD
            refine lv_iinc (v := (x1_56 + 1)) (lv' := [(1, .int (x1_56 + 1)), (0, .ref (a_r 0))]) hx hb d_Mo_weigh_232 hl (k := 0) rfl rfl (by decide) rfl (fun ls hl => ?_)
            refine lv_goto (tgt := 56) hx hb d_Mo_weigh_235 (by decide) ?_
            exact cast (hG _ _ _ _ _ _ _) (hB_56 ((x1_56 + 1), (r_all_56 + (r_weights x1_56.toNatClampNeg).toInt64), (upd (upd r_between_56 (((9 : Int32) * (r_ones x1_56.toNatClampNeg)) + (r_others x1_56.toNatClampNeg)).toNatClampNeg ((r_between_56 (((9 : Int32) * (r_ones x1_56.toNatClampNeg)) + (r_others x1_56.toNatClampNeg)).toNatClampNeg) + (r_weights x1_56.toNatClampNeg))) (((9 : Int32) * (r_others x1_56.toNatClampNeg)) + (r_ones x1_56.toNatClampNeg)).toNatClampNeg (((upd r_between_56 (((9 : Int32) * (r_ones x1_56.toNatClampNeg)) + (r_others x1_56.toNatClampNeg)).toNatClampNeg ((r_between_56 (((9 : Int32) * (r_ones x1_56.toNatClampNeg)) + (r_others x1_56.toNatClampNeg)).toNatClampNeg) + (r_weights x1_56.toNatClampNeg))) (((9 : Int32) * (r_others x1_56.toNatClampNeg)) + (r_ones x1_56.toNatClampNeg)).toNatClampNeg) + (r_weights x1_56.toNatClampNeg))), (upd (upd r_has_56 (r_ones x1_56.toNatClampNeg).toNatClampNeg ((r_has_56 (r_ones x1_56.toNatClampNeg).toNatClampNeg) + (r_weights x1_56.toNatClampNeg))) (r_others x1_56.toNatClampNeg).toNatClampNeg (((upd r_has_56 (r_ones x1_56.toNatClampNeg).toNatClampNeg ((r_has_56 (r_ones x1_56.toNatClampNeg).toNatClampNeg) + (r_weights x1_56.toNatClampNeg))) (r_others x1_56.toNatClampNeg).toNatClampNeg) + (r_weights x1_56.toNatClampNeg))), (upd (upd r_joins_56 (((9 : Int32) * (r_ones x1_56.toNatClampNeg)) + (r_others x1_56.toNatClampNeg)).toNatClampNeg (vp_nar .boolean (1 : Int32))) (((9 : Int32) * (r_others x1_56.toNatClampNeg)) + (r_ones x1_56.toNatClampNeg)).toNatClampNeg (vp_nar .boolean (1 : Int32)))) h _ _ _ hP hD hS (lv_sub hl [0, 1] rfl))
    · intro back exit zz hB_30 hE_30 h H locs ls hP hD hS hl
      obtain ⟨x1_30, r_has_30⟩ := zz
      have hP : va_P D cls9 (wd_Mo_weigh cA a_r r_manner r_above r_below r_nodes r_arcs r_left r_isBest r_arePlateaus r_all r_a r_b r_ties r_z r_plateaus r_ones r_others r_weights r_there r_between_2e r_joins_2e r_has_30) H := hP
      have hD : va_D A (wd_Mo_weigh cA a_r r_manner r_above r_below r_nodes r_arcs r_left r_isBest r_arePlateaus r_all r_a r_b r_ties r_z r_plateaus r_ones r_others r_weights r_there r_between_2e r_joins_2e r_has_30) := hD
      have hl : lv_has ls 2 [(1, .int x1_30), (0, .ref (a_r 0))] := hl
      refine cast (hG _ _ _ _ _ _ _).symm ?_
      refine lv_iload_n hx hb d_Mo_weigh_30 rfl (lv_at hl 0 rfl) ?_
      refine lv_bipush (v := 9) hx hb d_Mo_weigh_31 (by decide) ?_
      refine lv_icmp_ge (tgt := 49) hx hb d_Mo_weigh_33 (by decide) (fun c_12 => ?_) (fun c_12 => ?_)
      · have h := ifp (c_12) h
        exact cast (hG _ _ _ _ _ _ _) (hE_30 (x1_30, r_has_30) h _ _ _ hP hD hS (lv_sub hl [0, 1] rfl))
      · have h := ifn (c_12) h
        refine lv_aload_n hx hb d_Mo_weigh_36 rfl (lv_at hl 1 rfl) ?_
        refine va_get (ci := 8) (v := .ref (a_r 8)) (C := R_Mo) (T := F_Mo) (N := 36) hx hb hal in_Mo hown hK hP 0 rfl rfl 15 (by decide) (hal _ kw_652) (fun _ h9 => h9) rfl d_Mo_weigh_37 ?_
        refine lv_iload_n hx hb d_Mo_weigh_40 rfl (lv_at hl 0 rfl) ?_
        refine lv_iconst (v := 0) hx hb d_Mo_weigh_41 (by decide) ?_
        obtain ⟨g_13, h⟩ := gd h
        refine va_iast hx hb hK hP hD hS 7 0 rfl rfl (inb_in g_13) d_Mo_weigh_42 (fun H locs hP hD hS => ?_)
        have hP : va_P D cls9 (wd_Mo_weigh cA a_r r_manner r_above r_below r_nodes r_arcs r_left r_isBest r_arePlateaus r_all r_a r_b r_ties r_z r_plateaus r_ones r_others r_weights r_there r_between_2e r_joins_2e (upd r_has_30 x1_30.toNatClampNeg (0 : Int32))) H := hP
        have hD : va_D A (wd_Mo_weigh cA a_r r_manner r_above r_below r_nodes r_arcs r_left r_isBest r_arePlateaus r_all r_a r_b r_ties r_z r_plateaus r_ones r_others r_weights r_there r_between_2e r_joins_2e (upd r_has_30 x1_30.toNatClampNeg (0 : Int32))) := hD
        refine lv_iinc (v := (x1_30 + 1)) (lv' := [(1, .int (x1_30 + 1)), (0, .ref (a_r 0))]) hx hb d_Mo_weigh_43 hl (k := 0) rfl rfl (by decide) rfl (fun ls hl => ?_)
        refine lv_goto (tgt := 30) hx hb d_Mo_weigh_46 (by decide) ?_
        exact cast (hG _ _ _ _ _ _ _) (hB_30 ((x1_30 + 1), (upd r_has_30 x1_30.toNatClampNeg (0 : Int32))) h _ _ _ hP hD hS (lv_sub hl [0, 1] rfl))
  · intro back exit zz hB_2 hE_2 h H locs ls hP hD hS hl
    obtain ⟨x1_2, r_between_2, r_joins_2⟩ := zz
    have hP : va_P D cls9 (wd_Mo_weigh cA a_r r_manner r_above r_below r_nodes r_arcs r_left r_isBest r_arePlateaus r_all r_a r_b r_ties r_z r_plateaus r_ones r_others r_weights r_there r_between_2 r_joins_2 r_has) H := hP
    have hD : va_D A (wd_Mo_weigh cA a_r r_manner r_above r_below r_nodes r_arcs r_left r_isBest r_arePlateaus r_all r_a r_b r_ties r_z r_plateaus r_ones r_others r_weights r_there r_between_2 r_joins_2 r_has) := hD
    have hl : lv_has ls 2 [(1, .int x1_2), (0, .ref (a_r 0))] := hl
    refine cast (hG _ _ _ _ _ _ _).symm ?_
    refine lv_iload_n hx hb d_Mo_weigh_2 rfl (lv_at hl 0 rfl) ?_
    refine lv_bipush (v := 81) hx hb d_Mo_weigh_3 (by decide) ?_
    refine lv_icmp_ge (tgt := 28) hx hb d_Mo_weigh_5 (by decide) (fun c_14 => ?_) (fun c_14 => ?_)
    · have h := ifp (c_14) h
      exact cast (hG _ _ _ _ _ _ _) (hE_2 (x1_2, r_between_2, r_joins_2) h _ _ _ hP hD hS (lv_sub hl [0, 1] rfl))
    · have h := ifn (c_14) h
      refine lv_aload_n hx hb d_Mo_weigh_8 rfl (lv_at hl 1 rfl) ?_
      refine va_get (ci := 8) (v := .ref (a_r 6)) (C := R_Mo) (T := F_Mo) (N := 36) hx hb hal in_Mo hown hK hP 0 rfl rfl 13 (by decide) (hal _ kw_650) (fun _ h9 => h9) rfl d_Mo_weigh_9 ?_
      refine lv_iload_n hx hb d_Mo_weigh_12 rfl (lv_at hl 0 rfl) ?_
      refine lv_iconst (v := 0) hx hb d_Mo_weigh_13 (by decide) ?_
      obtain ⟨g_15, h⟩ := gd h
      refine va_iast hx hb hK hP hD hS 5 0 rfl rfl (inb_in g_15) d_Mo_weigh_14 (fun H locs hP hD hS => ?_)
      have hP : va_P D cls9 (wd_Mo_weigh cA a_r r_manner r_above r_below r_nodes r_arcs r_left r_isBest r_arePlateaus r_all r_a r_b r_ties r_z r_plateaus r_ones r_others r_weights r_there (upd r_between_2 x1_2.toNatClampNeg (0 : Int32)) r_joins_2 r_has) H := hP
      have hD : va_D A (wd_Mo_weigh cA a_r r_manner r_above r_below r_nodes r_arcs r_left r_isBest r_arePlateaus r_all r_a r_b r_ties r_z r_plateaus r_ones r_others r_weights r_there (upd r_between_2 x1_2.toNatClampNeg (0 : Int32)) r_joins_2 r_has) := hD
      refine lv_aload_n hx hb d_Mo_weigh_15 rfl (lv_at hl 1 rfl) ?_
      refine va_get (ci := 8) (v := .ref (a_r 7)) (C := R_Mo) (T := F_Mo) (N := 36) hx hb hal in_Mo hown hK hP 0 rfl rfl 14 (by decide) (hal _ kw_651) (fun _ h9 => h9) rfl d_Mo_weigh_16 ?_
      refine lv_iload_n hx hb d_Mo_weigh_19 rfl (lv_at hl 0 rfl) ?_
      refine lv_iconst (v := 0) hx hb d_Mo_weigh_20 (by decide) ?_
      refine va_zast hx hb hK hP hD hS 6 2 rfl rfl (inb_in g_15) d_Mo_weigh_21 (fun H locs hP hD hS => ?_)
      have hP : va_P D cls9 (wd_Mo_weigh cA a_r r_manner r_above r_below r_nodes r_arcs r_left r_isBest r_arePlateaus r_all r_a r_b r_ties r_z r_plateaus r_ones r_others r_weights r_there (upd r_between_2 x1_2.toNatClampNeg (0 : Int32)) (upd r_joins_2 x1_2.toNatClampNeg (vp_nar .boolean (0 : Int32))) r_has) H := hP
      have hD : va_D A (wd_Mo_weigh cA a_r r_manner r_above r_below r_nodes r_arcs r_left r_isBest r_arePlateaus r_all r_a r_b r_ties r_z r_plateaus r_ones r_others r_weights r_there (upd r_between_2 x1_2.toNatClampNeg (0 : Int32)) (upd r_joins_2 x1_2.toNatClampNeg (vp_nar .boolean (0 : Int32))) r_has) := hD
      refine lv_iinc (v := (x1_2 + 1)) (lv' := [(1, .int (x1_2 + 1)), (0, .ref (a_r 0))]) hx hb d_Mo_weigh_22 hl (k := 0) rfl rfl (by decide) rfl (fun ls hl => ?_)
      refine lv_goto (tgt := 2) hx hb d_Mo_weigh_25 (by decide) ?_
      exact cast (hG _ _ _ _ _ _ _) (hB_2 ((x1_2 + 1), (upd r_between_2 x1_2.toNatClampNeg (0 : Int32)), (upd r_joins_2 x1_2.toNatClampNeg (vp_nar .boolean (0 : Int32)))) h _ _ _ hP hD hS (lv_sub hl [0, 1] rfl))
def wd_Mo_judge (cA : Nat → ClassId) (a_r a_q : Nat → Nat) (r_manner : Int32) (r_above : Int32) (r_below : Int32) (r_nodes : Int32) (r_arcs : Int32) (r_left : Int32) (r_isBest : Int32) (r_arePlateaus : Int32) (r_all : Int64) (r_a : Int64) (r_b : Int64) (r_ties : Int32) (r_z : Int32) (r_plateaus : Int32) (r_between : Nat → Int32) (r_has : Nat → Int32) (r_sums : Nat → Int64) (r_sizes : Nat → Int64) (q_arr : Nat → Int32) : va_W := [(a_r 0, .inr (8, [.int r_manner, .int r_above, .int r_below, .int r_nodes, .int r_arcs, .int r_left, .ref (a_r 1), .ref (a_r 2), .ref (a_r 3), .ref (a_r 4), .ref (a_r 5), .int r_isBest, .int r_arePlateaus, .ref (a_r 6), .ref (a_r 7), .ref (a_r 8), .long r_all, .ref (a_r 9), .ref (a_r 10), .long r_a, .long r_b, .ref (a_r 11), .ref (a_r 12), .ref (a_r 13), .ref (a_r 14), .ref (a_r 15), .int r_ties, .ref (a_r 16), .ref (a_r 17), .ref (a_r 18), .int r_z, .int r_plateaus, .ref (a_r 19), .ref (a_r 20), .ref (a_r 21), .ref (a_r 22)])), (a_r 6, .inl (cA 0, 81, .inl r_between)), (a_r 8, .inl (cA 0, 9, .inl r_has)), (a_r 9, .inl (cA 1, 9, .inr (.inl r_sums))), (a_r 10, .inl (cA 1, 9, .inr (.inl r_sizes))), (a_q 0, .inl (cA 0, 9, .inl q_arr))]
noncomputable def s_Mo_judge_166 (r_manner : Int32) (r_sizes : Nat → Int64) (r_sums : Nat → Int64) (zz : Int32 × Int64) (back exit : (Int32 × Int64) → Option (Int64 × Int64 × (Nat → Int64) × (Nat → Int64))) : Option (Int64 × Int64 × (Nat → Int64) × (Nat → Int64)) :=
  (if (9 : Int32) ≤ zz.1 then (exit (zz.1, zz.2)) else (if r_manner = 0 then (if inb zz.1 9 then (back ((zz.1 + 1), (zz.2 + ((r_sums zz.1.toNatClampNeg) * (r_sums zz.1.toNatClampNeg))))) else none) else (if inb zz.1 9 then (back ((zz.1 + 1), (zz.2 + (((r_sizes zz.1.toNatClampNeg) * ((r_sizes zz.1.toNatClampNeg) - (1 : Int64))) / (2 : Int64))))) else none)))
noncomputable def s_Mo_judge_82 (x4 : Int32) (q_arr : Nat → Int32) (r_between : Nat → Int32) (zz : Int64 × Int32) (back exit : (Int64 × Int32) → Option (Int64 × Int64 × (Nat → Int64) × (Nat → Int64))) : Option (Int64 × Int64 × (Nat → Int64) × (Nat → Int64)) :=
  (if x4 ≤ zz.2 then (exit (zz.1, zz.2)) else (if inb zz.2 9 then (if inb x4 9 then (if (q_arr zz.2.toNatClampNeg) = (q_arr x4.toNatClampNeg) then (if inb (((9 : Int32) * zz.2) + x4) 81 then (back ((zz.1 + (r_between (((9 : Int32) * zz.2) + x4).toNatClampNeg).toInt64), (zz.2 + 1))) else none) else (back ((zz.1 + (0 : Int64)), (zz.2 + 1)))) else none) else none))
noncomputable def s_Mo_judge_37 (q_arr : Nat → Int32) (r_between : Nat → Int32) (r_has : Nat → Int32) (r_nodes : Int32) (zz : Int64 × Int32 × (Nat → Int64) × (Nat → Int64)) (back exit : (Int64 × Int32 × (Nat → Int64) × (Nat → Int64)) → Option (Int64 × Int64 × (Nat → Int64) × (Nat → Int64))) : Option (Int64 × Int64 × (Nat → Int64) × (Nat → Int64)) :=
  (if r_nodes ≤ zz.2.1 then (exit (zz.1, zz.2.1, zz.2.2.1, zz.2.2.2)) else (if inb zz.2.1 9 then (if inb (q_arr zz.2.1.toNatClampNeg) 9 then (loopC (s_Mo_judge_82 zz.2.1 q_arr r_between) (fun z82 : Int64 × Int32 => (back (z82.1, (zz.2.1 + 1), (vp_updL zz.2.2.1 (q_arr zz.2.1.toNatClampNeg).toNatClampNeg ((zz.2.2.1 (q_arr zz.2.1.toNatClampNeg).toNatClampNeg) + (1 : Int64))), (vp_updL zz.2.2.2 (q_arr zz.2.1.toNatClampNeg).toNatClampNeg ((zz.2.2.2 (q_arr zz.2.1.toNatClampNeg).toNatClampNeg) + (r_has zz.2.1.toNatClampNeg).toInt64))))) FU (zz.1, (0 : Int32))) else none) else none))
noncomputable def s_Mo_judge_5  (zz : Int32 × (Nat → Int64) × (Nat → Int64)) (back exit : (Int32 × (Nat → Int64) × (Nat → Int64)) → Option (Int64 × Int64 × (Nat → Int64) × (Nat → Int64))) : Option (Int64 × Int64 × (Nat → Int64) × (Nat → Int64)) :=
  (if (9 : Int32) ≤ zz.1 then (exit (zz.1, zz.2.1, zz.2.2)) else (if inb zz.1 9 then (back ((zz.1 + 1), (vp_updL zz.2.1 zz.1.toNatClampNeg (0 : Int64)), (vp_updL zz.2.2 zz.1.toNatClampNeg (0 : Int64)))) else none))
noncomputable def m_Mo_judge (r_manner : Int32) (r_nodes : Int32) (r_all : Int64) (r_between : Nat → Int32) (r_has : Nat → Int32) (r_sums : Nat → Int64) (r_sizes : Nat → Int64) (q_arr : Nat → Int32) : Option (Int64 × Int64 × (Nat → Int64) × (Nat → Int64)) :=
  (loopC (s_Mo_judge_5) (fun z5 : Int32 × (Nat → Int64) × (Nat → Int64) => (loopC (s_Mo_judge_37 q_arr r_between r_has r_nodes) (fun z37 : Int64 × Int32 × (Nat → Int64) × (Nat → Int64) => (jn (fun z155 : Int64 => (loopC (s_Mo_judge_166 r_manner z37.2.2.1 z37.2.2.2) (fun z166 : Int32 × Int64 => some (z155, z166.2, z37.2.2.2, z37.2.2.1)) FU ((0 : Int32), (0 : Int64)))) (fun j155 => (if r_manner = 0 then (j155 (((4 : Int64) * r_all) * z37.1)) else (j155 z37.1))))) FU ((0 : Int64), (0 : Int32), z5.2.1, z5.2.2))) FU ((0 : Int32), r_sizes, r_sums))
set_option maxHeartbeats 4000000 in
set_option maxRecDepth 100000 in
theorem c_Mo_judge (l : Launch) (D : va_G) (cA : Nat → ClassId) (a_r a_q : Nat → Nat) (sz : Nat) (r_manner : Int32) (r_above : Int32) (r_below : Int32) (r_nodes : Int32) (r_arcs : Int32) (r_left : Int32) (r_isBest : Int32) (r_arePlateaus : Int32) (r_all : Int64) (r_a : Int64) (r_b : Int64) (r_ties : Int32) (r_z : Int32) (r_plateaus : Int32) (r_between : Nat → Int32) (r_has : Nat → Int32) (r_sums : Nat → Int64) (r_sizes : Nat → Int64) (q_arr : Nat → Int32)  (out : Int64 × Int64 × (Nat → Int64) × (Nat → Int64)) (h : m_Mo_judge r_manner r_nodes r_all r_between r_has r_sums r_sizes q_arr = some out) : Met l y_Mo_judge w_Mo_judge ({ frames := 0, cells := 0, slots := 0, locals := 0 }) (va_Pc [.ref (a_r 0), .ref (a_q 0)] (fun U => U.heap.size = sz ∧ va_P D cls9 (wd_Mo_judge cA a_r a_q r_manner r_above r_below r_nodes r_arcs r_left r_isBest r_arePlateaus r_all r_a r_b r_ties r_z r_plateaus r_between r_has r_sums r_sizes q_arr) U.heap ∧ va_K D cls9 (tys5 cA) U ∧ va_D (fun _ => True) (wd_Mo_judge cA a_r a_q r_manner r_above r_below r_nodes r_arcs r_left r_isBest r_arePlateaus r_all r_a r_b r_ties r_z r_plateaus r_between r_has r_sums r_sizes q_arr))) (va_Qv (fun uu : Int64 × Int64 × (Nat → Int64) × (Nat → Int64) => uu = out) (fun (uu : Int64 × Int64 × (Nat → Int64) × (Nat → Int64)) (t : State) => va_P D cls9 (wd_Mo_judge cA a_r a_q r_manner r_above r_below r_nodes r_arcs r_left r_isBest r_arePlateaus r_all uu.1 uu.2.1 r_ties r_z r_plateaus r_between r_has uu.2.2.1 uu.2.2.2 q_arr) t.heap ∧ va_K D cls9 (tys5 cA) t ∧ va_D (va_A (wd_Mo_judge cA a_r a_q r_manner r_above r_below r_nodes r_arcs r_left r_isBest r_arePlateaus r_all r_a r_b r_ties r_z r_plateaus r_between r_has r_sums r_sizes q_arr) sz) (wd_Mo_judge cA a_r a_q r_manner r_above r_below r_nodes r_arcs r_left r_isBest r_arePlateaus r_all uu.1 uu.2.1 r_ties r_z r_plateaus r_between r_has uu.2.2.1 uu.2.2.2 q_arr)) (va_A (wd_Mo_judge cA a_r a_q r_manner r_above r_below r_nodes r_arcs r_left r_isBest r_arePlateaus r_all r_a r_b r_ties r_z r_plateaus r_between r_has r_sums r_sizes q_arr) sz)) 0 0 (va_A (wd_Mo_judge cA a_r a_q r_manner r_above r_below r_nodes r_arcs r_left r_isBest r_arePlateaus r_all r_a r_b r_ties r_z r_plateaus r_between r_has r_sums r_sizes q_arr) sz) := by
  refine Met.ofW (cc := b_Mo_judge) (maxL := 6) (ret := (Option.none : Option Jvm.ClassFile.FieldType)) (by decide) rfl ?_
  intro p e s m args below meth c s₁ B hml hv
  obtain ⟨rfl, hsz, hP, hK, hD0⟩ := hv
  have hx := B.exec
  have hb := B.bytes
  have hr := B.returns
  have hts := atoms_spec (ws := w_Mo_judge) B.pre
  have hal : ∀ w ∈ ALLW, w.before _ s = true := fun w hw => hts w (List.mem_cons_of_mem _ hw)
  have hown : s.vm.findClass R_Mo = some m.cls := findClass_of_methodNamed B.named
  have hlocks := B.notSynchronized
  subst hsz
  have hD := hD0.self (sz := s.heap.size)
  generalize hAe : va_A (wd_Mo_judge cA a_r a_q r_manner r_above r_below r_nodes r_arcs r_left r_isBest r_arePlateaus r_all r_a r_b r_ties r_z r_plateaus r_between r_has r_sums r_sizes q_arr) s.heap.size = A at hD ⊢
  have hA : ∀ q : Nat, s.heap.size ≤ q → A q := fun q h => by rw [← hAe]; exact Or.inr h
  have hS : va_S A s.heap s.heap [] := va_S.rf
  have hl := lv_entry ([.ref (a_r 0), .ref (a_q 0)]) (n := 6) (Nat.le_of_ble_eq_true rfl)
  rw [lg_entry_eq]
  generalize (lg_sl ([.ref (a_r 0), .ref (a_q 0)]) ++ List.replicate (6 - (lg_sl ([.ref (a_r 0), .ref (a_q 0)])).length) Slot.unset).toArray = ls at hl ⊢
  have hl : lv_has ls 6 [(0, .ref (a_r 0)), (1, .ref (a_q 0))] := hl
  refine wg (fun G hG => ?_)
  refine cast (hG _ _ _ _ _ _ _).symm ?_
  obtain ⟨H, locs, hHl, hS⟩ : ∃ (H : Heap) (locs : List Loc), (H = s.heap ∧ locs = []) ∧ va_S A s.heap H locs := ⟨s.heap, [], ⟨rfl, rfl⟩, hS⟩
  have hP : va_P D cls9 (wd_Mo_judge cA a_r a_q r_manner r_above r_below r_nodes r_arcs r_left r_isBest r_arePlateaus r_all r_a r_b r_ties r_z r_plateaus r_between r_has r_sums r_sizes q_arr) H := by rw [hHl.1]; exact hP
  rw [← hHl.1, ← hHl.2]
  clear hHl
  refine lv_lconst (v := 0) hx hb d_Mo_judge_0 (by decide) ?_
  refine lv_lstore_n (lv' := [(2, .long (0 : Int64)), (0, .ref (a_r 0)), (1, .ref (a_q 0))]) hx hb d_Mo_judge_1 rfl hl (by decide) rfl (fun ls hl => ?_)
  refine lv_iconst (v := 0) hx hb d_Mo_judge_2 (by decide) ?_
  refine lv_istore (lv' := [(4, .int (0 : Int32)), (2, .long (0 : Int64)), (0, .ref (a_r 0)), (1, .ref (a_q 0))]) hx hb d_Mo_judge_3 hl (by decide) rfl (fun ls hl => ?_)
  refine cast (hG _ _ _ _ _ _ _) (lp_go2 h (fun zz : Int32 × (Nat → Int64) × (Nat → Int64) => ∀ (H : Heap) (locs : List Loc) (ls : Array Slot), va_P D cls9 (wd_Mo_judge cA a_r a_q r_manner r_above r_below r_nodes r_arcs r_left r_isBest r_arePlateaus r_all r_a r_b r_ties r_z r_plateaus r_between r_has zz.2.2 zz.2.1 q_arr) H → va_D A (wd_Mo_judge cA a_r a_q r_manner r_above r_below r_nodes r_arcs r_left r_isBest r_arePlateaus r_all r_a r_b r_ties r_z r_plateaus r_between r_has zz.2.2 zz.2.1 q_arr) → va_S A s.heap H locs → lv_has ls 6 [(4, .int zz.1), (2, .long (0 : Int64)), (0, .ref (a_r 0)), (1, .ref (a_q 0))] → G H locs 0 0 ls 34 []) ?_ (fun zz : Int32 × (Nat → Int64) × (Nat → Int64) => ∀ (H : Heap) (locs : List Loc) (ls : Array Slot), va_P D cls9 (wd_Mo_judge cA a_r a_q r_manner r_above r_below r_nodes r_arcs r_left r_isBest r_arePlateaus r_all r_a r_b r_ties r_z r_plateaus r_between r_has zz.2.2 zz.2.1 q_arr) H → va_D A (wd_Mo_judge cA a_r a_q r_manner r_above r_below r_nodes r_arcs r_left r_isBest r_arePlateaus r_all r_a r_b r_ties r_z r_plateaus r_between r_has zz.2.2 zz.2.1 q_arr) → va_S A s.heap H locs → lv_has ls 6 [(4, .int zz.1), (2, .long (0 : Int64)), (0, .ref (a_r 0)), (1, .ref (a_q 0))] → G H locs 0 0 ls 5 []) ?_ _ _ ls hP hD hS (lv_sub hl [0, 1, 2, 3] rfl))
  · intro zz h H locs ls hP hD hS hl
    obtain ⟨x4_5e, r_sizes_5e, r_sums_5e⟩ := zz
    have hP : va_P D cls9 (wd_Mo_judge cA a_r a_q r_manner r_above r_below r_nodes r_arcs r_left r_isBest r_arePlateaus r_all r_a r_b r_ties r_z r_plateaus r_between r_has r_sums_5e r_sizes_5e q_arr) H := hP
    have hD : va_D A (wd_Mo_judge cA a_r a_q r_manner r_above r_below r_nodes r_arcs r_left r_isBest r_arePlateaus r_all r_a r_b r_ties r_z r_plateaus r_between r_has r_sums_5e r_sizes_5e q_arr) := hD
    have hl : lv_has ls 6 [(4, .int x4_5e), (2, .long (0 : Int64)), (0, .ref (a_r 0)), (1, .ref (a_q 0))] := hl
    refine cast (hG _ _ _ _ _ _ _).symm ?_
    refine lv_iconst (v := 0) hx hb d_Mo_judge_34 (by decide) ?_
    refine lv_istore (lv' := [(4, .int (0 : Int32)), (2, .long (0 : Int64)), (0, .ref (a_r 0)), (1, .ref (a_q 0))]) hx hb d_Mo_judge_35 hl (by decide) rfl (fun ls hl => ?_)
    refine cast (hG _ _ _ _ _ _ _) (lp_go2 h (fun zz : Int64 × Int32 × (Nat → Int64) × (Nat → Int64) => ∀ (H : Heap) (locs : List Loc) (ls : Array Slot), va_P D cls9 (wd_Mo_judge cA a_r a_q r_manner r_above r_below r_nodes r_arcs r_left r_isBest r_arePlateaus r_all r_a r_b r_ties r_z r_plateaus r_between r_has zz.2.2.2 zz.2.2.1 q_arr) H → va_D A (wd_Mo_judge cA a_r a_q r_manner r_above r_below r_nodes r_arcs r_left r_isBest r_arePlateaus r_all r_a r_b r_ties r_z r_plateaus r_between r_has zz.2.2.2 zz.2.2.1 q_arr) → va_S A s.heap H locs → lv_has ls 6 [(4, .int zz.2.1), (2, .long zz.1), (0, .ref (a_r 0)), (1, .ref (a_q 0))] → G H locs 0 0 ls 133 []) ?_ (fun zz : Int64 × Int32 × (Nat → Int64) × (Nat → Int64) => ∀ (H : Heap) (locs : List Loc) (ls : Array Slot), va_P D cls9 (wd_Mo_judge cA a_r a_q r_manner r_above r_below r_nodes r_arcs r_left r_isBest r_arePlateaus r_all r_a r_b r_ties r_z r_plateaus r_between r_has zz.2.2.2 zz.2.2.1 q_arr) H → va_D A (wd_Mo_judge cA a_r a_q r_manner r_above r_below r_nodes r_arcs r_left r_isBest r_arePlateaus r_all r_a r_b r_ties r_z r_plateaus r_between r_has zz.2.2.2 zz.2.2.1 q_arr) → va_S A s.heap H locs → lv_has ls 6 [(4, .int zz.2.1), (2, .long zz.1), (0, .ref (a_r 0)), (1, .ref (a_q 0))] → G H locs 0 0 ls 37 []) ?_ _ _ ls hP hD hS (lv_sub hl [0, 1, 2, 3] rfl))
    · intro zz h H locs ls hP hD hS hl
      obtain ⟨x2_37e, x4_37e, r_sizes_37e, r_sums_37e⟩ := zz
      have hP : va_P D cls9 (wd_Mo_judge cA a_r a_q r_manner r_above r_below r_nodes r_arcs r_left r_isBest r_arePlateaus r_all r_a r_b r_ties r_z r_plateaus r_between r_has r_sums_37e r_sizes_37e q_arr) H := hP
      have hD : va_D A (wd_Mo_judge cA a_r a_q r_manner r_above r_below r_nodes r_arcs r_left r_isBest r_arePlateaus r_all r_a r_b r_ties r_z r_plateaus r_between r_has r_sums_37e r_sizes_37e q_arr) := hD
      have hl : lv_has ls 6 [(4, .int x4_37e), (2, .long x2_37e), (0, .ref (a_r 0)), (1, .ref (a_q 0))] := hl
      refine cast (hG _ _ _ _ _ _ _).symm ?_
      refine lv_aload_n hx hb d_Mo_judge_133 rfl (lv_at hl 2 rfl) ?_
      refine lv_aload_n hx hb d_Mo_judge_134 rfl (lv_at hl 2 rfl) ?_
      refine va_get (ci := 8) (v := .int r_manner) (C := R_Mo) (T := F_Mo) (N := 36) hx hb hal in_Mo hown hK hP 0 rfl rfl 0 (by decide) (hal _ kw_637) (fun _ h9 => h9) rfl d_Mo_judge_135 ?_
      refine cast (hG _ _ _ _ _ _ _) (jn_go h (fun zz : Int64 => ∀ (H : Heap) (locs : List Loc) (ls : Array Slot), va_P D cls9 (wd_Mo_judge cA a_r a_q r_manner r_above r_below r_nodes r_arcs r_left r_isBest r_arePlateaus r_all r_a r_b r_ties r_z r_plateaus r_between r_has r_sums_37e r_sizes_37e q_arr) H → va_D A (wd_Mo_judge cA a_r a_q r_manner r_above r_below r_nodes r_arcs r_left r_isBest r_arePlateaus r_all r_a r_b r_ties r_z r_plateaus r_between r_has r_sums_37e r_sizes_37e q_arr) → va_S A s.heap H locs → lv_has ls 6 [(4, .int x4_37e), (2, .long x2_37e), (0, .ref (a_r 0)), (1, .ref (a_q 0))] → G H locs 0 0 ls 155 [.long zz, .ref (a_r 0)]) ?_ ?_)
      · intro zz h H locs ls hP hD hS hl
        obtain ⟨y0_155j, rfl⟩ : ∃ q, q = zz := ⟨_, rfl⟩
        have hP : va_P D cls9 (wd_Mo_judge cA a_r a_q r_manner r_above r_below r_nodes r_arcs r_left r_isBest r_arePlateaus r_all r_a r_b r_ties r_z r_plateaus r_between r_has r_sums_37e r_sizes_37e q_arr) H := hP
        have hD : va_D A (wd_Mo_judge cA a_r a_q r_manner r_above r_below r_nodes r_arcs r_left r_isBest r_arePlateaus r_all r_a r_b r_ties r_z r_plateaus r_between r_has r_sums_37e r_sizes_37e q_arr) := hD
        have hl : lv_has ls 6 [(4, .int x4_37e), (2, .long x2_37e), (0, .ref (a_r 0)), (1, .ref (a_q 0))] := hl
        refine cast (hG _ _ _ _ _ _ _).symm ?_
        refine va_put (ci := 8) (v := .long y0_155j) (ty := .long) (C := R_Mo) (T := F_Mo) (N := 36) hx hb hal in_Mo t_Mo t_Mo_ok n_Mo hown hK hP hD hS 0 rfl rfl 19 (by decide) (hal _ kw_656) (fun _ h9 => h9) rfl (by decide +kernel) rfl rfl (Nat.le_of_ble_eq_true rfl) d_Mo_judge_155 (fun H locs hP hD hS => ?_)
        have hP : va_P D cls9 (wd_Mo_judge cA a_r a_q r_manner r_above r_below r_nodes r_arcs r_left r_isBest r_arePlateaus r_all y0_155j r_b r_ties r_z r_plateaus r_between r_has r_sums_37e r_sizes_37e q_arr) H := hP
        have hD : va_D A (wd_Mo_judge cA a_r a_q r_manner r_above r_below r_nodes r_arcs r_left r_isBest r_arePlateaus r_all y0_155j r_b r_ties r_z r_plateaus r_between r_has r_sums_37e r_sizes_37e q_arr) := hD
        refine lv_aload_n hx hb d_Mo_judge_158 rfl (lv_at hl 2 rfl) ?_
        refine lv_lconst (v := 0) hx hb d_Mo_judge_159 (by decide) ?_
        refine va_put (ci := 8) (v := .long (0 : Int64)) (ty := .long) (C := R_Mo) (T := F_Mo) (N := 36) hx hb hal in_Mo t_Mo t_Mo_ok n_Mo hown hK hP hD hS 0 rfl rfl 20 (by decide) (hal _ kw_657) (fun _ h9 => h9) rfl (by decide +kernel) rfl rfl (Nat.le_of_ble_eq_true rfl) d_Mo_judge_160 (fun H locs hP hD hS => ?_)
        have hP : va_P D cls9 (wd_Mo_judge cA a_r a_q r_manner r_above r_below r_nodes r_arcs r_left r_isBest r_arePlateaus r_all y0_155j (0 : Int64) r_ties r_z r_plateaus r_between r_has r_sums_37e r_sizes_37e q_arr) H := hP
        have hD : va_D A (wd_Mo_judge cA a_r a_q r_manner r_above r_below r_nodes r_arcs r_left r_isBest r_arePlateaus r_all y0_155j (0 : Int64) r_ties r_z r_plateaus r_between r_has r_sums_37e r_sizes_37e q_arr) := hD
        refine lv_iconst (v := 0) hx hb d_Mo_judge_163 (by decide) ?_
        refine lv_istore (lv' := [(4, .int (0 : Int32)), (2, .long x2_37e), (0, .ref (a_r 0)), (1, .ref (a_q 0))]) hx hb d_Mo_judge_164 hl (by decide) rfl (fun ls hl => ?_)
        refine cast (hG _ _ _ _ _ _ _) (lp_go2 h (fun zz : Int32 × Int64 => ∀ (H : Heap) (locs : List Loc) (ls : Array Slot), va_P D cls9 (wd_Mo_judge cA a_r a_q r_manner r_above r_below r_nodes r_arcs r_left r_isBest r_arePlateaus r_all y0_155j zz.2 r_ties r_z r_plateaus r_between r_has r_sums_37e r_sizes_37e q_arr) H → va_D A (wd_Mo_judge cA a_r a_q r_manner r_above r_below r_nodes r_arcs r_left r_isBest r_arePlateaus r_all y0_155j zz.2 r_ties r_z r_plateaus r_between r_has r_sums_37e r_sizes_37e q_arr) → va_S A s.heap H locs → lv_has ls 6 [(4, .int zz.1), (2, .long x2_37e), (0, .ref (a_r 0)), (1, .ref (a_q 0))] → G H locs 0 0 ls 234 []) ?_ (fun zz : Int32 × Int64 => ∀ (H : Heap) (locs : List Loc) (ls : Array Slot), va_P D cls9 (wd_Mo_judge cA a_r a_q r_manner r_above r_below r_nodes r_arcs r_left r_isBest r_arePlateaus r_all y0_155j zz.2 r_ties r_z r_plateaus r_between r_has r_sums_37e r_sizes_37e q_arr) H → va_D A (wd_Mo_judge cA a_r a_q r_manner r_above r_below r_nodes r_arcs r_left r_isBest r_arePlateaus r_all y0_155j zz.2 r_ties r_z r_plateaus r_between r_has r_sums_37e r_sizes_37e q_arr) → va_S A s.heap H locs → lv_has ls 6 [(4, .int zz.1), (2, .long x2_37e), (0, .ref (a_r 0)), (1, .ref (a_q 0))] → G H locs 0 0 ls 166 []) ?_ _ _ ls hP hD hS (lv_sub hl [0, 1, 2, 3] rfl))
        · intro zz h H locs ls hP hD hS hl
          obtain ⟨x4_166e, r_b_166e⟩ := zz
          have hP : va_P D cls9 (wd_Mo_judge cA a_r a_q r_manner r_above r_below r_nodes r_arcs r_left r_isBest r_arePlateaus r_all y0_155j r_b_166e r_ties r_z r_plateaus r_between r_has r_sums_37e r_sizes_37e q_arr) H := hP
          have hD : va_D A (wd_Mo_judge cA a_r a_q r_manner r_above r_below r_nodes r_arcs r_left r_isBest r_arePlateaus r_all y0_155j r_b_166e r_ties r_z r_plateaus r_between r_has r_sums_37e r_sizes_37e q_arr) := hD
          have hl : lv_has ls 6 [(4, .int x4_166e), (2, .long x2_37e), (0, .ref (a_r 0)), (1, .ref (a_q 0))] := hl
          refine cast (hG _ _ _ _ _ _ _).symm ?_
          exact W.vret hx hb hr (fun t ht hW => ⟨⟨(y0_155j, r_b_166e, r_sums_37e, r_sizes_37e), rfl, Option.some.inj h, by rw [ht]; exact hP, va_K.moved hW.alike hK, hD⟩, hS.F ht⟩) hS.2.2 d_Mo_judge_234
        · intro back exit zz hB_166 hE_166 h H locs ls hP hD hS hl
          obtain ⟨x4_166, r_b_166⟩ := zz
          have hP : va_P D cls9 (wd_Mo_judge cA a_r a_q r_manner r_above r_below r_nodes r_arcs r_left r_isBest r_arePlateaus r_all y0_155j r_b_166 r_ties r_z r_plateaus r_between r_has r_sums_37e r_sizes_37e q_arr) H := hP
          have hD : va_D A (wd_Mo_judge cA a_r a_q r_manner r_above r_below r_nodes r_arcs r_left r_isBest r_arePlateaus r_all y0_155j r_b_166 r_ties r_z r_plateaus r_between r_has r_sums_37e r_sizes_37e q_arr) := hD
          have hl : lv_has ls 6 [(4, .int x4_166), (2, .long x2_37e), (0, .ref (a_r 0)), (1, .ref (a_q 0))] := hl
          refine cast (hG _ _ _ _ _ _ _).symm ?_
          refine lv_iload hx hb d_Mo_judge_166 (lv_at hl 0 rfl) ?_
          refine lv_bipush (v := 9) hx hb d_Mo_judge_168 (by decide) ?_
          refine lv_icmp_ge (tgt := 234) hx hb d_Mo_judge_170 (by decide) (fun c_1 => ?_) (fun c_1 => ?_)
          · have h := ifp (c_1) h
            exact cast (hG _ _ _ _ _ _ _) (hE_166 (x4_166, r_b_166) h _ _ _ hP hD hS (lv_sub hl [0, 1, 2, 3] rfl))
          · have h := ifn (c_1) h
            refine lv_aload_n hx hb d_Mo_judge_173 rfl (lv_at hl 2 rfl) ?_
            refine lv_dup hx hb d_Mo_judge_174 rfl ?_
            refine va_get (ci := 8) (v := .long r_b_166) (C := R_Mo) (T := F_Mo) (N := 36) hx hb hal in_Mo hown hK hP 0 rfl rfl 20 (by decide) (hal _ kw_657) (fun _ h9 => h9) rfl d_Mo_judge_175 ?_
            refine lv_aload_n hx hb d_Mo_judge_178 rfl (lv_at hl 2 rfl) ?_
            refine va_get (ci := 8) (v := .int r_manner) (C := R_Mo) (T := F_Mo) (N := 36) hx hb hal in_Mo hown hK hP 0 rfl rfl 0 (by decide) (hal _ kw_637) (fun _ h9 => h9) rfl d_Mo_judge_179 ?_
            refine lv_if_ne (tgt := 203) hx hb d_Mo_judge_182 (by decide) (fun c_2 => ?_) (fun c_2 => ?_)
            · have h := ifn (c_2) h
              refine lv_aload_n hx hb d_Mo_judge_203 rfl (lv_at hl 2 rfl) ?_
              refine va_get (ci := 8) (v := .ref (a_r 10)) (C := R_Mo) (T := F_Mo) (N := 36) hx hb hal in_Mo hown hK hP 0 rfl rfl 18 (by decide) (hal _ kw_655) (fun _ h9 => h9) rfl d_Mo_judge_204 ?_
              refine lv_iload hx hb d_Mo_judge_207 (lv_at hl 0 rfl) ?_
              obtain ⟨g_3, h⟩ := gd h
              refine va_lald hx hb hK hP 4 1 rfl rfl (inb_in g_3) d_Mo_judge_209 ?_
              refine lv_aload_n hx hb d_Mo_judge_210 rfl (lv_at hl 2 rfl) ?_
              refine va_get (ci := 8) (v := .ref (a_r 10)) (C := R_Mo) (T := F_Mo) (N := 36) hx hb hal in_Mo hown hK hP 0 rfl rfl 18 (by decide) (hal _ kw_655) (fun _ h9 => h9) rfl d_Mo_judge_211 ?_
              refine lv_iload hx hb d_Mo_judge_214 (lv_at hl 0 rfl) ?_
              refine va_lald hx hb hK hP 4 1 rfl rfl (inb_in g_3) d_Mo_judge_216 ?_
              refine lv_lconst (v := 1) hx hb d_Mo_judge_217 (by decide) ?_
              refine lv_lsub hx hb d_Mo_judge_218 ?_
              refine lv_lmul hx hb d_Mo_judge_219 ?_
              refine lv_ldc2 (v := 2) hx hb hown (hal _ kw_820) d_Mo_judge_220 ?_
              refine lv_ldiv hx hb d_Mo_judge_223 (by decide) ?_
              refine lv_ladd hx hb d_Mo_judge_224 ?_
              refine va_put (ci := 8) (v := .long (r_b_166 + (((r_sizes_37e x4_166.toNatClampNeg) * ((r_sizes_37e x4_166.toNatClampNeg) - (1 : Int64))) / (2 : Int64)))) (ty := .long) (C := R_Mo) (T := F_Mo) (N := 36) hx hb hal in_Mo t_Mo t_Mo_ok n_Mo hown hK hP hD hS 0 rfl rfl 20 (by decide) (hal _ kw_657) (fun _ h9 => h9) rfl (by decide +kernel) rfl rfl (Nat.le_of_ble_eq_true rfl) d_Mo_judge_225 (fun H locs hP hD hS => ?_)
              have hP : va_P D cls9 (wd_Mo_judge cA a_r a_q r_manner r_above r_below r_nodes r_arcs r_left r_isBest r_arePlateaus r_all y0_155j (r_b_166 + (((r_sizes_37e x4_166.toNatClampNeg) * ((r_sizes_37e x4_166.toNatClampNeg) - (1 : Int64))) / (2 : Int64))) r_ties r_z r_plateaus r_between r_has r_sums_37e r_sizes_37e q_arr) H := hP
              have hD : va_D A (wd_Mo_judge cA a_r a_q r_manner r_above r_below r_nodes r_arcs r_left r_isBest r_arePlateaus r_all y0_155j (r_b_166 + (((r_sizes_37e x4_166.toNatClampNeg) * ((r_sizes_37e x4_166.toNatClampNeg) - (1 : Int64))) / (2 : Int64))) r_ties r_z r_plateaus r_between r_has r_sums_37e r_sizes_37e q_arr) := hD
              refine lv_iinc (v := (x4_166 + 1)) (lv' := [(4, .int (x4_166 + 1)), (2, .long x2_37e), (0, .ref (a_r 0)), (1, .ref (a_q 0))]) hx hb d_Mo_judge_228 hl (k := 0) rfl rfl (by decide) rfl (fun ls hl => ?_)
              refine lv_goto (tgt := 166) hx hb d_Mo_judge_231 (by decide) ?_
              exact cast (hG _ _ _ _ _ _ _) (hB_166 ((x4_166 + 1), (r_b_166 + (((r_sizes_37e x4_166.toNatClampNeg) * ((r_sizes_37e x4_166.toNatClampNeg) - (1 : Int64))) / (2 : Int64)))) h _ _ _ hP hD hS (lv_sub hl [0, 1, 2, 3] rfl))
            · have h := ifp (c_2) h
              refine lv_aload_n hx hb d_Mo_judge_185 rfl (lv_at hl 2 rfl) ?_
              refine va_get (ci := 8) (v := .ref (a_r 9)) (C := R_Mo) (T := F_Mo) (N := 36) hx hb hal in_Mo hown hK hP 0 rfl rfl 17 (by decide) (hal _ kw_654) (fun _ h9 => h9) rfl d_Mo_judge_186 ?_
              refine lv_iload hx hb d_Mo_judge_189 (lv_at hl 0 rfl) ?_
              obtain ⟨g_4, h⟩ := gd h
              refine va_lald hx hb hK hP 3 1 rfl rfl (inb_in g_4) d_Mo_judge_191 ?_
              refine lv_aload_n hx hb d_Mo_judge_192 rfl (lv_at hl 2 rfl) ?_
              refine va_get (ci := 8) (v := .ref (a_r 9)) (C := R_Mo) (T := F_Mo) (N := 36) hx hb hal in_Mo hown hK hP 0 rfl rfl 17 (by decide) (hal _ kw_654) (fun _ h9 => h9) rfl d_Mo_judge_193 ?_
              refine lv_iload hx hb d_Mo_judge_196 (lv_at hl 0 rfl) ?_
              refine va_lald hx hb hK hP 3 1 rfl rfl (inb_in g_4) d_Mo_judge_198 ?_
              refine lv_lmul hx hb d_Mo_judge_199 ?_
              refine lv_goto (tgt := 224) hx hb d_Mo_judge_200 (by decide) ?_
              refine lv_ladd hx hb d_Mo_judge_224 ?_
              refine va_put (ci := 8) (v := .long (r_b_166 + ((r_sums_37e x4_166.toNatClampNeg) * (r_sums_37e x4_166.toNatClampNeg)))) (ty := .long) (C := R_Mo) (T := F_Mo) (N := 36) hx hb hal in_Mo t_Mo t_Mo_ok n_Mo hown hK hP hD hS 0 rfl rfl 20 (by decide) (hal _ kw_657) (fun _ h9 => h9) rfl (by decide +kernel) rfl rfl (Nat.le_of_ble_eq_true rfl) d_Mo_judge_225 (fun H locs hP hD hS => ?_)
              have hP : va_P D cls9 (wd_Mo_judge cA a_r a_q r_manner r_above r_below r_nodes r_arcs r_left r_isBest r_arePlateaus r_all y0_155j (r_b_166 + ((r_sums_37e x4_166.toNatClampNeg) * (r_sums_37e x4_166.toNatClampNeg))) r_ties r_z r_plateaus r_between r_has r_sums_37e r_sizes_37e q_arr) H := hP
              have hD : va_D A (wd_Mo_judge cA a_r a_q r_manner r_above r_below r_nodes r_arcs r_left r_isBest r_arePlateaus r_all y0_155j (r_b_166 + ((r_sums_37e x4_166.toNatClampNeg) * (r_sums_37e x4_166.toNatClampNeg))) r_ties r_z r_plateaus r_between r_has r_sums_37e r_sizes_37e q_arr) := hD
              refine lv_iinc (v := (x4_166 + 1)) (lv' := [(4, .int (x4_166 + 1)), (2, .long x2_37e), (0, .ref (a_r 0)), (1, .ref (a_q 0))]) hx hb d_Mo_judge_228 hl (k := 0) rfl rfl (by decide) rfl (fun ls hl => ?_)
              refine lv_goto (tgt := 166) hx hb d_Mo_judge_231 (by decide) ?_
              exact cast (hG _ _ _ _ _ _ _) (hB_166 ((x4_166 + 1), (r_b_166 + ((r_sums_37e x4_166.toNatClampNeg) * (r_sums_37e x4_166.toNatClampNeg)))) h _ _ _ hP hD hS (lv_sub hl [0, 1, 2, 3] rfl))
      · intro j155 hJ_155 h
        refine cast (hG _ _ _ _ _ _ _).symm ?_
        refine lv_if_ne (tgt := 154) hx hb d_Mo_judge_138 (by decide) (fun c_5 => ?_) (fun c_5 => ?_)
        · have h := ifn (c_5) h
          refine lv_lload_n hx hb d_Mo_judge_154 rfl (lv_at hl 1 rfl) ?_
          exact cast (hG _ _ _ _ _ _ _) (hJ_155 x2_37e h _ _ _ hP hD hS (lv_sub hl [0, 1, 2, 3] rfl))
        · have h := ifp (c_5) h
          refine lv_ldc2 (v := 4) hx hb hown (hal _ kw_819) d_Mo_judge_141 ?_
          refine lv_aload_n hx hb d_Mo_judge_144 rfl (lv_at hl 2 rfl) ?_
          refine va_get (ci := 8) (v := .long r_all) (C := R_Mo) (T := F_Mo) (N := 36) hx hb hal in_Mo hown hK hP 0 rfl rfl 16 (by decide) (hal _ kw_653) (fun _ h9 => h9) rfl d_Mo_judge_145 ?_
          refine lv_lmul hx hb d_Mo_judge_148 ?_
          refine lv_lload_n hx hb d_Mo_judge_149 rfl (lv_at hl 1 rfl) ?_
          refine lv_lmul hx hb d_Mo_judge_150 ?_
          refine lv_goto (tgt := 155) hx hb d_Mo_judge_151 (by decide) ?_
          exact cast (hG _ _ _ _ _ _ _) (hJ_155 (((4 : Int64) * r_all) * x2_37e) h _ _ _ hP hD hS (lv_sub hl [0, 1, 2, 3] rfl))
    · intro back exit zz hB_37 hE_37 h H locs ls hP hD hS hl
      obtain ⟨x2_37, x4_37, r_sizes_37, r_sums_37⟩ := zz
      have hP : va_P D cls9 (wd_Mo_judge cA a_r a_q r_manner r_above r_below r_nodes r_arcs r_left r_isBest r_arePlateaus r_all r_a r_b r_ties r_z r_plateaus r_between r_has r_sums_37 r_sizes_37 q_arr) H := hP
      have hD : va_D A (wd_Mo_judge cA a_r a_q r_manner r_above r_below r_nodes r_arcs r_left r_isBest r_arePlateaus r_all r_a r_b r_ties r_z r_plateaus r_between r_has r_sums_37 r_sizes_37 q_arr) := hD
      have hl : lv_has ls 6 [(4, .int x4_37), (2, .long x2_37), (0, .ref (a_r 0)), (1, .ref (a_q 0))] := hl
      refine cast (hG _ _ _ _ _ _ _).symm ?_
      refine lv_iload hx hb d_Mo_judge_37 (lv_at hl 0 rfl) ?_
      refine lv_aload_n hx hb d_Mo_judge_39 rfl (lv_at hl 2 rfl) ?_
      refine va_get (ci := 8) (v := .int r_nodes) (C := R_Mo) (T := F_Mo) (N := 36) hx hb hal in_Mo hown hK hP 0 rfl rfl 3 (by decide) (hal _ kw_640) (fun _ h9 => h9) rfl d_Mo_judge_40 ?_
      refine lv_icmp_ge (tgt := 133) hx hb d_Mo_judge_43 (by decide) (fun c_6 => ?_) (fun c_6 => ?_)
      · have h := ifp (c_6) h
        exact cast (hG _ _ _ _ _ _ _) (hE_37 (x2_37, x4_37, r_sizes_37, r_sums_37) h _ _ _ hP hD hS (lv_sub hl [0, 1, 2, 3] rfl))
      · have h := ifn (c_6) h
        refine lv_aload_n hx hb d_Mo_judge_46 rfl (lv_at hl 2 rfl) ?_
        refine va_get (ci := 8) (v := .ref (a_r 9)) (C := R_Mo) (T := F_Mo) (N := 36) hx hb hal in_Mo hown hK hP 0 rfl rfl 17 (by decide) (hal _ kw_654) (fun _ h9 => h9) rfl d_Mo_judge_47 ?_
        refine lv_aload_n hx hb d_Mo_judge_50 rfl (lv_at hl 3 rfl) ?_
        refine lv_iload hx hb d_Mo_judge_51 (lv_at hl 0 rfl) ?_
        obtain ⟨g_7, h⟩ := gd h
        refine va_iald hx hb hK hP 5 0 rfl rfl (inb_in g_7) d_Mo_judge_53 ?_
        refine lv_dup2_11 hx hb d_Mo_judge_54 rfl rfl ?_
        obtain ⟨g_8, h⟩ := gd h
        refine va_lald hx hb hK hP 3 1 rfl rfl (inb_in g_8) d_Mo_judge_55 ?_
        refine lv_aload_n hx hb d_Mo_judge_56 rfl (lv_at hl 2 rfl) ?_
        refine va_get (ci := 8) (v := .ref (a_r 8)) (C := R_Mo) (T := F_Mo) (N := 36) hx hb hal in_Mo hown hK hP 0 rfl rfl 15 (by decide) (hal _ kw_652) (fun _ h9 => h9) rfl d_Mo_judge_57 ?_
        refine lv_iload hx hb d_Mo_judge_60 (lv_at hl 0 rfl) ?_
        refine va_iald hx hb hK hP 2 0 rfl rfl (inb_in g_7) d_Mo_judge_62 ?_
        refine lv_i2l hx hb d_Mo_judge_63 rfl ?_
        refine lv_ladd hx hb d_Mo_judge_64 ?_
        refine va_last hx hb hK hP hD hS 3 1 rfl rfl (inb_in g_8) d_Mo_judge_65 (fun H locs hP hD hS => ?_)
        have hP : va_P D cls9 (wd_Mo_judge cA a_r a_q r_manner r_above r_below r_nodes r_arcs r_left r_isBest r_arePlateaus r_all r_a r_b r_ties r_z r_plateaus r_between r_has (vp_updL r_sums_37 (q_arr x4_37.toNatClampNeg).toNatClampNeg ((r_sums_37 (q_arr x4_37.toNatClampNeg).toNatClampNeg) + (r_has x4_37.toNatClampNeg).toInt64)) r_sizes_37 q_arr) H := hP
        have hD : va_D A (wd_Mo_judge cA a_r a_q r_manner r_above r_below r_nodes r_arcs r_left r_isBest r_arePlateaus r_all r_a r_b r_ties r_z r_plateaus r_between r_has (vp_updL r_sums_37 (q_arr x4_37.toNatClampNeg).toNatClampNeg ((r_sums_37 (q_arr x4_37.toNatClampNeg).toNatClampNeg) + (r_has x4_37.toNatClampNeg).toInt64)) r_sizes_37 q_arr) := hD
        refine lv_aload_n hx hb d_Mo_judge_66 rfl (lv_at hl 2 rfl) ?_
        refine va_get (ci := 8) (v := .ref (a_r 10)) (C := R_Mo) (T := F_Mo) (N := 36) hx hb hal in_Mo hown hK hP 0 rfl rfl 18 (by decide) (hal _ kw_655) (fun _ h9 => h9) rfl d_Mo_judge_67 ?_
        refine lv_aload_n hx hb d_Mo_judge_70 rfl (lv_at hl 3 rfl) ?_
        refine lv_iload hx hb d_Mo_judge_71 (lv_at hl 0 rfl) ?_
        refine va_iald hx hb hK hP 5 0 rfl rfl (inb_in g_7) d_Mo_judge_73 ?_
        refine lv_dup2_11 hx hb d_Mo_judge_74 rfl rfl ?_
        refine va_lald hx hb hK hP 4 1 rfl rfl (inb_in g_8) d_Mo_judge_75 ?_
        refine lv_lconst (v := 1) hx hb d_Mo_judge_76 (by decide) ?_
        refine lv_ladd hx hb d_Mo_judge_77 ?_
        refine va_last hx hb hK hP hD hS 4 1 rfl rfl (inb_in g_8) d_Mo_judge_78 (fun H locs hP hD hS => ?_)
        have hP : va_P D cls9 (wd_Mo_judge cA a_r a_q r_manner r_above r_below r_nodes r_arcs r_left r_isBest r_arePlateaus r_all r_a r_b r_ties r_z r_plateaus r_between r_has (vp_updL r_sums_37 (q_arr x4_37.toNatClampNeg).toNatClampNeg ((r_sums_37 (q_arr x4_37.toNatClampNeg).toNatClampNeg) + (r_has x4_37.toNatClampNeg).toInt64)) (vp_updL r_sizes_37 (q_arr x4_37.toNatClampNeg).toNatClampNeg ((r_sizes_37 (q_arr x4_37.toNatClampNeg).toNatClampNeg) + (1 : Int64))) q_arr) H := hP
        have hD : va_D A (wd_Mo_judge cA a_r a_q r_manner r_above r_below r_nodes r_arcs r_left r_isBest r_arePlateaus r_all r_a r_b r_ties r_z r_plateaus r_between r_has (vp_updL r_sums_37 (q_arr x4_37.toNatClampNeg).toNatClampNeg ((r_sums_37 (q_arr x4_37.toNatClampNeg).toNatClampNeg) + (r_has x4_37.toNatClampNeg).toInt64)) (vp_updL r_sizes_37 (q_arr x4_37.toNatClampNeg).toNatClampNeg ((r_sizes_37 (q_arr x4_37.toNatClampNeg).toNatClampNeg) + (1 : Int64))) q_arr) := hD
        refine lv_iconst (v := 0) hx hb d_Mo_judge_79 (by decide) ?_
        refine lv_istore (lv' := [(5, .int (0 : Int32)), (4, .int x4_37), (2, .long x2_37), (0, .ref (a_r 0)), (1, .ref (a_q 0))]) hx hb d_Mo_judge_80 hl (by decide) rfl (fun ls hl => ?_)
        refine cast (hG _ _ _ _ _ _ _) (lp_go2 h (fun zz : Int64 × Int32 => ∀ (H : Heap) (locs : List Loc) (ls : Array Slot), va_P D cls9 (wd_Mo_judge cA a_r a_q r_manner r_above r_below r_nodes r_arcs r_left r_isBest r_arePlateaus r_all r_a r_b r_ties r_z r_plateaus r_between r_has (vp_updL r_sums_37 (q_arr x4_37.toNatClampNeg).toNatClampNeg ((r_sums_37 (q_arr x4_37.toNatClampNeg).toNatClampNeg) + (r_has x4_37.toNatClampNeg).toInt64)) (vp_updL r_sizes_37 (q_arr x4_37.toNatClampNeg).toNatClampNeg ((r_sizes_37 (q_arr x4_37.toNatClampNeg).toNatClampNeg) + (1 : Int64))) q_arr) H → va_D A (wd_Mo_judge cA a_r a_q r_manner r_above r_below r_nodes r_arcs r_left r_isBest r_arePlateaus r_all r_a r_b r_ties r_z r_plateaus r_between r_has (vp_updL r_sums_37 (q_arr x4_37.toNatClampNeg).toNatClampNeg ((r_sums_37 (q_arr x4_37.toNatClampNeg).toNatClampNeg) + (r_has x4_37.toNatClampNeg).toInt64)) (vp_updL r_sizes_37 (q_arr x4_37.toNatClampNeg).toNatClampNeg ((r_sizes_37 (q_arr x4_37.toNatClampNeg).toNatClampNeg) + (1 : Int64))) q_arr) → va_S A s.heap H locs → lv_has ls 6 [(5, .int zz.2), (4, .int x4_37), (2, .long zz.1), (0, .ref (a_r 0)), (1, .ref (a_q 0))] → G H locs 0 0 ls 127 []) ?_ (fun zz : Int64 × Int32 => ∀ (H : Heap) (locs : List Loc) (ls : Array Slot), va_P D cls9 (wd_Mo_judge cA a_r a_q r_manner r_above r_below r_nodes r_arcs r_left r_isBest r_arePlateaus r_all r_a r_b r_ties r_z r_plateaus r_between r_has (vp_updL r_sums_37 (q_arr x4_37.toNatClampNeg).toNatClampNeg ((r_sums_37 (q_arr x4_37.toNatClampNeg).toNatClampNeg) + (r_has x4_37.toNatClampNeg).toInt64)) (vp_updL r_sizes_37 (q_arr x4_37.toNatClampNeg).toNatClampNeg ((r_sizes_37 (q_arr x4_37.toNatClampNeg).toNatClampNeg) + (1 : Int64))) q_arr) H → va_D A (wd_Mo_judge cA a_r a_q r_manner r_above r_below r_nodes r_arcs r_left r_isBest r_arePlateaus r_all r_a r_b r_ties r_z r_plateaus r_between r_has (vp_updL r_sums_37 (q_arr x4_37.toNatClampNeg).toNatClampNeg ((r_sums_37 (q_arr x4_37.toNatClampNeg).toNatClampNeg) + (r_has x4_37.toNatClampNeg).toInt64)) (vp_updL r_sizes_37 (q_arr x4_37.toNatClampNeg).toNatClampNeg ((r_sizes_37 (q_arr x4_37.toNatClampNeg).toNatClampNeg) + (1 : Int64))) q_arr) → va_S A s.heap H locs → lv_has ls 6 [(5, .int zz.2), (4, .int x4_37), (2, .long zz.1), (0, .ref (a_r 0)), (1, .ref (a_q 0))] → G H locs 0 0 ls 82 []) ?_ _ _ ls hP hD hS (lv_sub hl [0, 1, 2, 3, 4] rfl))
        · intro zz h H locs ls hP hD hS hl
          obtain ⟨x2_82e, x5_82e⟩ := zz
          have hP : va_P D cls9 (wd_Mo_judge cA a_r a_q r_manner r_above r_below r_nodes r_arcs r_left r_isBest r_arePlateaus r_all r_a r_b r_ties r_z r_plateaus r_between r_has (vp_updL r_sums_37 (q_arr x4_37.toNatClampNeg).toNatClampNeg ((r_sums_37 (q_arr x4_37.toNatClampNeg).toNatClampNeg) + (r_has x4_37.toNatClampNeg).toInt64)) (vp_updL r_sizes_37 (q_arr x4_37.toNatClampNeg).toNatClampNeg ((r_sizes_37 (q_arr x4_37.toNatClampNeg).toNatClampNeg) + (1 : Int64))) q_arr) H := hP
          have hD : va_D A (wd_Mo_judge cA a_r a_q r_manner r_above r_below r_nodes r_arcs r_left r_isBest r_arePlateaus r_all r_a r_b r_ties r_z r_plateaus r_between r_has (vp_updL r_sums_37 (q_arr x4_37.toNatClampNeg).toNatClampNeg ((r_sums_37 (q_arr x4_37.toNatClampNeg).toNatClampNeg) + (r_has x4_37.toNatClampNeg).toInt64)) (vp_updL r_sizes_37 (q_arr x4_37.toNatClampNeg).toNatClampNeg ((r_sizes_37 (q_arr x4_37.toNatClampNeg).toNatClampNeg) + (1 : Int64))) q_arr) := hD
          have hl : lv_has ls 6 [(5, .int x5_82e), (4, .int x4_37), (2, .long x2_82e), (0, .ref (a_r 0)), (1, .ref (a_q 0))] := hl
          refine cast (hG _ _ _ _ _ _ _).symm ?_
          refine lv_iinc (v := (x4_37 + 1)) (lv' := [(4, .int (x4_37 + 1)), (5, .int x5_82e), (2, .long x2_82e), (0, .ref (a_r 0)), (1, .ref (a_q 0))]) hx hb d_Mo_judge_127 hl (k := 1) rfl rfl (by decide) rfl (fun ls hl => ?_)
          refine lv_goto (tgt := 37) hx hb d_Mo_judge_130 (by decide) ?_
          exact cast (hG _ _ _ _ _ _ _) (hB_37 (x2_82e, (x4_37 + 1), (vp_updL r_sizes_37 (q_arr x4_37.toNatClampNeg).toNatClampNeg ((r_sizes_37 (q_arr x4_37.toNatClampNeg).toNatClampNeg) + (1 : Int64))), (vp_updL r_sums_37 (q_arr x4_37.toNatClampNeg).toNatClampNeg ((r_sums_37 (q_arr x4_37.toNatClampNeg).toNatClampNeg) + (r_has x4_37.toNatClampNeg).toInt64))) h _ _ _ hP hD hS (lv_sub hl [0, 2, 3, 4] rfl))
        · intro back exit zz hB_82 hE_82 h H locs ls hP hD hS hl
          obtain ⟨x2_82, x5_82⟩ := zz
          have hP : va_P D cls9 (wd_Mo_judge cA a_r a_q r_manner r_above r_below r_nodes r_arcs r_left r_isBest r_arePlateaus r_all r_a r_b r_ties r_z r_plateaus r_between r_has (vp_updL r_sums_37 (q_arr x4_37.toNatClampNeg).toNatClampNeg ((r_sums_37 (q_arr x4_37.toNatClampNeg).toNatClampNeg) + (r_has x4_37.toNatClampNeg).toInt64)) (vp_updL r_sizes_37 (q_arr x4_37.toNatClampNeg).toNatClampNeg ((r_sizes_37 (q_arr x4_37.toNatClampNeg).toNatClampNeg) + (1 : Int64))) q_arr) H := hP
          have hD : va_D A (wd_Mo_judge cA a_r a_q r_manner r_above r_below r_nodes r_arcs r_left r_isBest r_arePlateaus r_all r_a r_b r_ties r_z r_plateaus r_between r_has (vp_updL r_sums_37 (q_arr x4_37.toNatClampNeg).toNatClampNeg ((r_sums_37 (q_arr x4_37.toNatClampNeg).toNatClampNeg) + (r_has x4_37.toNatClampNeg).toInt64)) (vp_updL r_sizes_37 (q_arr x4_37.toNatClampNeg).toNatClampNeg ((r_sizes_37 (q_arr x4_37.toNatClampNeg).toNatClampNeg) + (1 : Int64))) q_arr) := hD
          have hl : lv_has ls 6 [(5, .int x5_82), (4, .int x4_37), (2, .long x2_82), (0, .ref (a_r 0)), (1, .ref (a_q 0))] := hl
          refine cast (hG _ _ _ _ _ _ _).symm ?_
          refine lv_iload hx hb d_Mo_judge_82 (lv_at hl 0 rfl) ?_
          refine lv_iload hx hb d_Mo_judge_84 (lv_at hl 1 rfl) ?_
          refine lv_icmp_ge (tgt := 127) hx hb d_Mo_judge_86 (by decide) (fun c_9 => ?_) (fun c_9 => ?_)
          · have h := ifp (c_9) h
            exact cast (hG _ _ _ _ _ _ _) (hE_82 (x2_82, x5_82) h _ _ _ hP hD hS (lv_sub hl [0, 1, 2, 3, 4] rfl))
          · have h := ifn (c_9) h
            refine lv_lload_n hx hb d_Mo_judge_89 rfl (lv_at hl 2 rfl) ?_
            refine lv_aload_n hx hb d_Mo_judge_90 rfl (lv_at hl 4 rfl) ?_
            refine lv_iload hx hb d_Mo_judge_91 (lv_at hl 0 rfl) ?_
            obtain ⟨g_10, h⟩ := gd h
            refine va_iald hx hb hK hP 5 0 rfl rfl (inb_in g_10) d_Mo_judge_93 ?_
            refine lv_aload_n hx hb d_Mo_judge_94 rfl (lv_at hl 4 rfl) ?_
            refine lv_iload hx hb d_Mo_judge_95 (lv_at hl 1 rfl) ?_
            obtain ⟨g_11, h⟩ := gd h
            refine va_iald hx hb hK hP 5 0 rfl rfl (inb_in g_11) d_Mo_judge_97 ?_
            refine lv_icmp_ne (tgt := 118) hx hb d_Mo_judge_98 (by decide) (fun c_12 => ?_) (fun c_12 => ?_)
            · have h := ifn (c_12) h
              refine lv_lconst (v := 0) hx hb d_Mo_judge_118 (by decide) ?_
              refine lv_ladd hx hb d_Mo_judge_119 ?_
              refine lv_lstore_n (lv' := [(2, .long (x2_82 + (0 : Int64))), (5, .int x5_82), (4, .int x4_37), (0, .ref (a_r 0)), (1, .ref (a_q 0))]) hx hb d_Mo_judge_120 rfl hl (by decide) rfl (fun ls hl => ?_)
              refine lv_iinc (v := (x5_82 + 1)) (lv' := [(5, .int (x5_82 + 1)), (2, .long (x2_82 + (0 : Int64))), (4, .int x4_37), (0, .ref (a_r 0)), (1, .ref (a_q 0))]) hx hb d_Mo_judge_121 hl (k := 1) rfl rfl (by decide) rfl (fun ls hl => ?_)
              refine lv_goto (tgt := 82) hx hb d_Mo_judge_124 (by decide) ?_
              exact cast (hG _ _ _ _ _ _ _) (hB_82 ((x2_82 + (0 : Int64)), (x5_82 + 1)) h _ _ _ hP hD hS (lv_sub hl [0, 2, 1, 3, 4] rfl))
            · have h := ifp (c_12) h
              refine lv_aload_n hx hb d_Mo_judge_101 rfl (lv_at hl 3 rfl) ?_
              refine va_get (ci := 8) (v := .ref (a_r 6)) (C := R_Mo) (T := F_Mo) (N := 36) hx hb hal in_Mo hown hK hP 0 rfl rfl 13 (by decide) (hal _ kw_650) (fun _ h9 => h9) rfl d_Mo_judge_102 ?_
              refine lv_bipush (v := 9) hx hb d_Mo_judge_105 (by decide) ?_
              refine lv_iload hx hb d_Mo_judge_107 (lv_at hl 0 rfl) ?_
              refine lv_imul hx hb d_Mo_judge_109 ?_
              refine lv_iload hx hb d_Mo_judge_110 (lv_at hl 1 rfl) ?_
              refine lv_iadd hx hb d_Mo_judge_112 ?_
              obtain ⟨g_13, h⟩ := gd h
              refine va_iald hx hb hK hP 1 0 rfl rfl (inb_in g_13) d_Mo_judge_113 ?_
              refine lv_i2l hx hb d_Mo_judge_114 rfl ?_
              refine lv_goto (tgt := 119) hx hb d_Mo_judge_115 (by decide) ?_
              refine lv_ladd hx hb d_Mo_judge_119 ?_
              refine lv_lstore_n (lv' := [(2, .long (x2_82 + (r_between (((9 : Int32) * x5_82) + x4_37).toNatClampNeg).toInt64)), (5, .int x5_82), (4, .int x4_37), (0, .ref (a_r 0)), (1, .ref (a_q 0))]) hx hb d_Mo_judge_120 rfl hl (by decide) rfl (fun ls hl => ?_)
              refine lv_iinc (v := (x5_82 + 1)) (lv' := [(5, .int (x5_82 + 1)), (2, .long (x2_82 + (r_between (((9 : Int32) * x5_82) + x4_37).toNatClampNeg).toInt64)), (4, .int x4_37), (0, .ref (a_r 0)), (1, .ref (a_q 0))]) hx hb d_Mo_judge_121 hl (k := 1) rfl rfl (by decide) rfl (fun ls hl => ?_)
              refine lv_goto (tgt := 82) hx hb d_Mo_judge_124 (by decide) ?_
              exact cast (hG _ _ _ _ _ _ _) (hB_82 ((x2_82 + (r_between (((9 : Int32) * x5_82) + x4_37).toNatClampNeg).toInt64), (x5_82 + 1)) h _ _ _ hP hD hS (lv_sub hl [0, 2, 1, 3, 4] rfl))
  · intro back exit zz hB_5 hE_5 h H locs ls hP hD hS hl
    obtain ⟨x4_5, r_sizes_5, r_sums_5⟩ := zz
    have hP : va_P D cls9 (wd_Mo_judge cA a_r a_q r_manner r_above r_below r_nodes r_arcs r_left r_isBest r_arePlateaus r_all r_a r_b r_ties r_z r_plateaus r_between r_has r_sums_5 r_sizes_5 q_arr) H := hP
    have hD : va_D A (wd_Mo_judge cA a_r a_q r_manner r_above r_below r_nodes r_arcs r_left r_isBest r_arePlateaus r_all r_a r_b r_ties r_z r_plateaus r_between r_has r_sums_5 r_sizes_5 q_arr) := hD
    have hl : lv_has ls 6 [(4, .int x4_5), (2, .long (0 : Int64)), (0, .ref (a_r 0)), (1, .ref (a_q 0))] := hl
    refine cast (hG _ _ _ _ _ _ _).symm ?_
    refine lv_iload hx hb d_Mo_judge_5 (lv_at hl 0 rfl) ?_
    refine lv_bipush (v := 9) hx hb d_Mo_judge_7 (by decide) ?_
    refine lv_icmp_ge (tgt := 34) hx hb d_Mo_judge_9 (by decide) (fun c_14 => ?_) (fun c_14 => ?_)
    · have h := ifp (c_14) h
      exact cast (hG _ _ _ _ _ _ _) (hE_5 (x4_5, r_sizes_5, r_sums_5) h _ _ _ hP hD hS (lv_sub hl [0, 1, 2, 3] rfl))
    · have h := ifn (c_14) h
      refine lv_aload_n hx hb d_Mo_judge_12 rfl (lv_at hl 2 rfl) ?_
      refine va_get (ci := 8) (v := .ref (a_r 9)) (C := R_Mo) (T := F_Mo) (N := 36) hx hb hal in_Mo hown hK hP 0 rfl rfl 17 (by decide) (hal _ kw_654) (fun _ h9 => h9) rfl d_Mo_judge_13 ?_
      refine lv_iload hx hb d_Mo_judge_16 (lv_at hl 0 rfl) ?_
      refine lv_lconst (v := 0) hx hb d_Mo_judge_18 (by decide) ?_
      obtain ⟨g_15, h⟩ := gd h
      refine va_last hx hb hK hP hD hS 3 1 rfl rfl (inb_in g_15) d_Mo_judge_19 (fun H locs hP hD hS => ?_)
      have hP : va_P D cls9 (wd_Mo_judge cA a_r a_q r_manner r_above r_below r_nodes r_arcs r_left r_isBest r_arePlateaus r_all r_a r_b r_ties r_z r_plateaus r_between r_has (vp_updL r_sums_5 x4_5.toNatClampNeg (0 : Int64)) r_sizes_5 q_arr) H := hP
      have hD : va_D A (wd_Mo_judge cA a_r a_q r_manner r_above r_below r_nodes r_arcs r_left r_isBest r_arePlateaus r_all r_a r_b r_ties r_z r_plateaus r_between r_has (vp_updL r_sums_5 x4_5.toNatClampNeg (0 : Int64)) r_sizes_5 q_arr) := hD
      refine lv_aload_n hx hb d_Mo_judge_20 rfl (lv_at hl 2 rfl) ?_
      refine va_get (ci := 8) (v := .ref (a_r 10)) (C := R_Mo) (T := F_Mo) (N := 36) hx hb hal in_Mo hown hK hP 0 rfl rfl 18 (by decide) (hal _ kw_655) (fun _ h9 => h9) rfl d_Mo_judge_21 ?_
      refine lv_iload hx hb d_Mo_judge_24 (lv_at hl 0 rfl) ?_
      refine lv_lconst (v := 0) hx hb d_Mo_judge_26 (by decide) ?_
      refine va_last hx hb hK hP hD hS 4 1 rfl rfl (inb_in g_15) d_Mo_judge_27 (fun H locs hP hD hS => ?_)
      have hP : va_P D cls9 (wd_Mo_judge cA a_r a_q r_manner r_above r_below r_nodes r_arcs r_left r_isBest r_arePlateaus r_all r_a r_b r_ties r_z r_plateaus r_between r_has (vp_updL r_sums_5 x4_5.toNatClampNeg (0 : Int64)) (vp_updL r_sizes_5 x4_5.toNatClampNeg (0 : Int64)) q_arr) H := hP
      have hD : va_D A (wd_Mo_judge cA a_r a_q r_manner r_above r_below r_nodes r_arcs r_left r_isBest r_arePlateaus r_all r_a r_b r_ties r_z r_plateaus r_between r_has (vp_updL r_sums_5 x4_5.toNatClampNeg (0 : Int64)) (vp_updL r_sizes_5 x4_5.toNatClampNeg (0 : Int64)) q_arr) := hD
      refine lv_iinc (v := (x4_5 + 1)) (lv' := [(4, .int (x4_5 + 1)), (2, .long (0 : Int64)), (0, .ref (a_r 0)), (1, .ref (a_q 0))]) hx hb d_Mo_judge_28 hl (k := 0) rfl rfl (by decide) rfl (fun ls hl => ?_)
      refine lv_goto (tgt := 5) hx hb d_Mo_judge_31 (by decide) ?_
      exact cast (hG _ _ _ _ _ _ _) (hB_5 ((x4_5 + 1), (vp_updL r_sizes_5 x4_5.toNatClampNeg (0 : Int64)), (vp_updL r_sums_5 x4_5.toNatClampNeg (0 : Int64))) h _ _ _ hP hD hS (lv_sub hl [0, 1, 2, 3] rfl))
def wd_Mo_valueOf (cA : Nat → ClassId) (a_r a_q : Nat → Nat) (r_manner : Int32) (r_above : Int32) (r_below : Int32) (r_nodes : Int32) (r_arcs : Int32) (r_left : Int32) (r_isBest : Int32) (r_arePlateaus : Int32) (r_all : Int64) (r_a : Int64) (r_b : Int64) (r_ties : Int32) (r_z : Int32) (r_plateaus : Int32) (r_between : Nat → Int32) (r_has : Nat → Int32) (r_sums : Nat → Int64) (r_sizes : Nat → Int64) (q_arr : Nat → Int32) : va_W := [(a_r 0, .inr (8, [.int r_manner, .int r_above, .int r_below, .int r_nodes, .int r_arcs, .int r_left, .ref (a_r 1), .ref (a_r 2), .ref (a_r 3), .ref (a_r 4), .ref (a_r 5), .int r_isBest, .int r_arePlateaus, .ref (a_r 6), .ref (a_r 7), .ref (a_r 8), .long r_all, .ref (a_r 9), .ref (a_r 10), .long r_a, .long r_b, .ref (a_r 11), .ref (a_r 12), .ref (a_r 13), .ref (a_r 14), .ref (a_r 15), .int r_ties, .ref (a_r 16), .ref (a_r 17), .ref (a_r 18), .int r_z, .int r_plateaus, .ref (a_r 19), .ref (a_r 20), .ref (a_r 21), .ref (a_r 22)])), (a_r 6, .inl (cA 0, 81, .inl r_between)), (a_r 8, .inl (cA 0, 9, .inl r_has)), (a_r 9, .inl (cA 1, 9, .inr (.inl r_sums))), (a_r 10, .inl (cA 1, 9, .inr (.inl r_sizes))), (a_q 0, .inl (cA 0, 9, .inl q_arr))]
noncomputable def m_Mo_valueOf (r_manner : Int32) (r_above : Int32) (r_below : Int32) (r_nodes : Int32) (r_all : Int64) (r_between : Nat → Int32) (r_has : Nat → Int32) (r_sums : Nat → Int64) (r_sizes : Nat → Int64) (q_arr : Nat → Int32) : Option (Int64 × Int64 × Int64 × (Nat → Int64) × (Nat → Int64)) :=
  ((m_Mo_judge r_manner r_nodes r_all r_between r_has r_sums r_sizes q_arr).bind (fun r2 : Int64 × Int64 × (Nat → Int64) × (Nat → Int64) => some (((r_below.toInt64 * r2.1) - (r_above.toInt64 * r2.2.1)), r2.1, r2.2.1, r2.2.2.1, r2.2.2.2)))
set_option maxHeartbeats 4000000 in
set_option maxRecDepth 100000 in
theorem c_Mo_valueOf (l : Launch) (D : va_G) (cA : Nat → ClassId) (a_r a_q : Nat → Nat) (sz : Nat) (r_manner : Int32) (r_above : Int32) (r_below : Int32) (r_nodes : Int32) (r_arcs : Int32) (r_left : Int32) (r_isBest : Int32) (r_arePlateaus : Int32) (r_all : Int64) (r_a : Int64) (r_b : Int64) (r_ties : Int32) (r_z : Int32) (r_plateaus : Int32) (r_between : Nat → Int32) (r_has : Nat → Int32) (r_sums : Nat → Int64) (r_sizes : Nat → Int64) (q_arr : Nat → Int32)  (out : Int64 × Int64 × Int64 × (Nat → Int64) × (Nat → Int64)) (h : m_Mo_valueOf r_manner r_above r_below r_nodes r_all r_between r_has r_sums r_sizes q_arr = some out) : Met l y_Mo_valueOf w_Mo_valueOf ({ frames := 1, cells := 0, slots := 0, locals := 25 }) (va_Pc [.ref (a_r 0), .ref (a_q 0)] (fun U => U.heap.size = sz ∧ va_P D cls9 (wd_Mo_valueOf cA a_r a_q r_manner r_above r_below r_nodes r_arcs r_left r_isBest r_arePlateaus r_all r_a r_b r_ties r_z r_plateaus r_between r_has r_sums r_sizes q_arr) U.heap ∧ va_K D cls9 (tys5 cA) U ∧ va_D (fun _ => True) (wd_Mo_valueOf cA a_r a_q r_manner r_above r_below r_nodes r_arcs r_left r_isBest r_arePlateaus r_all r_a r_b r_ties r_z r_plateaus r_between r_has r_sums r_sizes q_arr))) (va_Ql (fun (rr : Int64) (uu : Int64 × Int64 × (Nat → Int64) × (Nat → Int64)) => (rr, uu) = out) (fun (uu : Int64 × Int64 × (Nat → Int64) × (Nat → Int64)) (t : State) => va_P D cls9 (wd_Mo_valueOf cA a_r a_q r_manner r_above r_below r_nodes r_arcs r_left r_isBest r_arePlateaus r_all uu.1 uu.2.1 r_ties r_z r_plateaus r_between r_has uu.2.2.1 uu.2.2.2 q_arr) t.heap ∧ va_K D cls9 (tys5 cA) t ∧ va_D (va_A (wd_Mo_valueOf cA a_r a_q r_manner r_above r_below r_nodes r_arcs r_left r_isBest r_arePlateaus r_all r_a r_b r_ties r_z r_plateaus r_between r_has r_sums r_sizes q_arr) sz) (wd_Mo_valueOf cA a_r a_q r_manner r_above r_below r_nodes r_arcs r_left r_isBest r_arePlateaus r_all uu.1 uu.2.1 r_ties r_z r_plateaus r_between r_has uu.2.2.1 uu.2.2.2 q_arr)) (va_A (wd_Mo_valueOf cA a_r a_q r_manner r_above r_below r_nodes r_arcs r_left r_isBest r_arePlateaus r_all r_a r_b r_ties r_z r_plateaus r_between r_has r_sums r_sizes q_arr) sz)) 0 0 (va_A (wd_Mo_valueOf cA a_r a_q r_manner r_above r_below r_nodes r_arcs r_left r_isBest r_arePlateaus r_all r_a r_b r_ties r_z r_plateaus r_between r_has r_sums r_sizes q_arr) sz) := by
  refine Met.ofW (cc := b_Mo_valueOf) (maxL := 2) (ret := (Option.some Jvm.ClassFile.FieldType.long)) (by decide) rfl ?_
  intro p e s m args below meth c s₁ B hml hv
  obtain ⟨rfl, hsz, hP, hK, hD0⟩ := hv
  have hx := B.exec
  have hb := B.bytes
  have hr := B.returns
  have hts := atoms_spec (ws := w_Mo_valueOf) B.pre
  have hal : ∀ w ∈ ALLW, w.before _ s = true := fun w hw => hts w (List.mem_cons_of_mem _ hw)
  have hown : s.vm.findClass R_Mo = some m.cls := findClass_of_methodNamed B.named
  have hlocks := B.notSynchronized
  subst hsz
  have hD := hD0.self (sz := s.heap.size)
  generalize hAe : va_A (wd_Mo_valueOf cA a_r a_q r_manner r_above r_below r_nodes r_arcs r_left r_isBest r_arePlateaus r_all r_a r_b r_ties r_z r_plateaus r_between r_has r_sums r_sizes q_arr) s.heap.size = A at hD ⊢
  have hA : ∀ q : Nat, s.heap.size ≤ q → A q := fun q h => by rw [← hAe]; exact Or.inr h
  have hS : va_S A s.heap s.heap [] := va_S.rf
  have hl := lv_entry ([.ref (a_r 0), .ref (a_q 0)]) (n := 2) (Nat.le_of_ble_eq_true rfl)
  rw [lg_entry_eq]
  generalize (lg_sl ([.ref (a_r 0), .ref (a_q 0)]) ++ List.replicate (2 - (lg_sl ([.ref (a_r 0), .ref (a_q 0)])).length) Slot.unset).toArray = ls at hl ⊢
  have hl : lv_has ls 2 [(0, .ref (a_r 0)), (1, .ref (a_q 0))] := hl
  refine wg (fun G hG => ?_)
  refine cast (hG _ _ _ _ _ _ _).symm ?_
  obtain ⟨H, locs, hHl, hS⟩ : ∃ (H : Heap) (locs : List Loc), (H = s.heap ∧ locs = []) ∧ va_S A s.heap H locs := ⟨s.heap, [], ⟨rfl, rfl⟩, hS⟩
  have hP : va_P D cls9 (wd_Mo_valueOf cA a_r a_q r_manner r_above r_below r_nodes r_arcs r_left r_isBest r_arePlateaus r_all r_a r_b r_ties r_z r_plateaus r_between r_has r_sums r_sizes q_arr) H := by rw [hHl.1]; exact hP
  rw [← hHl.1, ← hHl.2]
  clear hHl
  refine lv_aload_n hx hb d_Mo_valueOf_0 rfl (lv_at hl 0 rfl) ?_
  refine lv_aload_n hx hb d_Mo_valueOf_1 rfl (lv_at hl 1 rfl) ?_
  obtain ⟨o_8, hc_7, h⟩ := bd h
  have hPc := hP.sub (ws' := (wd_Mo_judge cA a_r a_q r_manner r_above r_below r_nodes r_arcs r_left r_isBest r_arePlateaus r_all r_a r_b r_ties r_z r_plateaus r_between r_has r_sums r_sizes q_arr)) [0, 1, 2, 3, 4, 5] rfl
  have hDc := hD.sub (ws' := (wd_Mo_judge cA a_r a_q r_manner r_above r_below r_nodes r_arcs r_left r_isBest r_arePlateaus r_all r_a r_b r_ties r_z r_plateaus r_between r_has r_sums r_sizes q_arr)) [0, 1, 2, 3, 4, 5] (by decide) rfl
  have hFc := va_free (wc := (wd_Mo_judge cA a_r a_q r_manner r_above r_below r_nodes r_arcs r_left r_isBest r_arePlateaus r_all r_a r_b r_ties r_z r_plateaus r_between r_has r_sums r_sizes q_arr)) hD hS hA [0, 1, 2, 3, 4, 5] rfl
  refine va_callv (va_runV (C := R_Mo) (As := [.ref (a_q 0)]) (rest := []) ⟨hx, hb, hml, hown, hal⟩ (c_Mo_judge l D cA a_r a_q H.size r_manner r_above r_below r_nodes r_arcs r_left r_isBest r_arePlateaus r_all r_a r_b r_ties r_z r_plateaus r_between r_has r_sums r_sizes q_arr o_8 hc_7) (cwV 1 hal (goodV kw_815 kw_817 kw_p33 kw_9 kw_818) rfl rfl rfl (by decide +kernel) ⟨Nat.le_of_ble_eq_true rfl, Nat.le_of_ble_eq_true rfl⟩) ⟨fun a U g mk q => by obtain ⟨q0, q1, qP, qK, qD⟩ := q; exact ⟨q0, q1, qP, va_K.moved (u := U) (U := U.calling g mk a) (Vm.Alike.refl U.vm) qK, qD⟩, va_recv hK hP (ci := 8) (q0 := 0) rfl rfl, fun U hU hW => ⟨rfl, by rw [hU], by rw [hU]; exact hPc, va_K.moved hW.alike hK, hDc.weaken (fun _ _ _ _ => trivial)⟩⟩ rfl rfl hl.1 rfl (lv_room (Nat.le_of_ble_eq_true rfl)) d_Mo_valueOf_2 ⟨Nat.le_of_ble_eq_true rfl, Nat.le_of_ble_eq_true rfl⟩) hS (fun q _ h => hFc q h) hFc (fun u t H1 locs ht hvm hw hB hz1 hk1 hS => ?_)
  obtain ⟨u_3, u_4, u_5, u_6⟩ := u
  subst hw
  obtain ⟨hP1, hK1, hD1⟩ := hB
  rw [ht] at hP1
  have hP1 : va_P D cls9 (wd_Mo_judge cA a_r a_q r_manner r_above r_below r_nodes r_arcs r_left r_isBest r_arePlateaus r_all u_3 u_4 r_ties r_z r_plateaus r_between r_has u_5 u_6 q_arr) H1 := hP1
  obtain ⟨hP, hD⟩ := va_join (wr := ([] : List Nat).filterMap (fun i => (wd_Mo_valueOf cA a_r a_q r_manner r_above r_below r_nodes r_arcs r_left r_isBest r_arePlateaus r_all r_a r_b r_ties r_z r_plateaus r_between r_has r_sums r_sizes q_arr)[i]?)) (w1 := (wd_Mo_judge cA a_r a_q r_manner r_above r_below r_nodes r_arcs r_left r_isBest r_arePlateaus r_all u_3 u_4 r_ties r_z r_plateaus r_between r_has u_5 u_6 q_arr)) hP hD [0, 1, 2, 3, 4, 5] [] rfl rfl (by decide) (by decide) hk1 hFc hP1 hD1
  generalize H1 = H at hP hS ⊢
  have hP : va_P D cls9 (wd_Mo_valueOf cA a_r a_q r_manner r_above r_below r_nodes r_arcs r_left r_isBest r_arePlateaus r_all u_3 u_4 r_ties r_z r_plateaus r_between r_has u_5 u_6 q_arr) H := hP.sub [0, 1, 2, 3, 4, 5] rfl
  have hD : va_D A (wd_Mo_valueOf cA a_r a_q r_manner r_above r_below r_nodes r_arcs r_left r_isBest r_arePlateaus r_all u_3 u_4 r_ties r_z r_plateaus r_between r_has u_5 u_6 q_arr) := hD.sub [0, 1, 2, 3, 4, 5] (by decide) rfl
  refine lv_aload_n hx hb d_Mo_valueOf_5 rfl (lv_at hl 0 rfl) ?_
  refine va_get (ci := 8) (v := .int r_below) (C := R_Mo) (T := F_Mo) (N := 36) hx hb hal in_Mo hown hK hP 0 rfl rfl 2 (by decide) (hal _ kw_639) (fun _ h9 => h9) rfl d_Mo_valueOf_6 ?_
  refine lv_i2l hx hb d_Mo_valueOf_9 rfl ?_
  refine lv_aload_n hx hb d_Mo_valueOf_10 rfl (lv_at hl 0 rfl) ?_
  refine va_get (ci := 8) (v := .long u_3) (C := R_Mo) (T := F_Mo) (N := 36) hx hb hal in_Mo hown hK hP 0 rfl rfl 19 (by decide) (hal _ kw_656) (fun _ h9 => h9) rfl d_Mo_valueOf_11 ?_
  refine lv_lmul hx hb d_Mo_valueOf_14 ?_
  refine lv_aload_n hx hb d_Mo_valueOf_15 rfl (lv_at hl 0 rfl) ?_
  refine va_get (ci := 8) (v := .int r_above) (C := R_Mo) (T := F_Mo) (N := 36) hx hb hal in_Mo hown hK hP 0 rfl rfl 1 (by decide) (hal _ kw_638) (fun _ h9 => h9) rfl d_Mo_valueOf_16 ?_
  refine lv_i2l hx hb d_Mo_valueOf_19 rfl ?_
  refine lv_aload_n hx hb d_Mo_valueOf_20 rfl (lv_at hl 0 rfl) ?_
  refine va_get (ci := 8) (v := .long u_4) (C := R_Mo) (T := F_Mo) (N := 36) hx hb hal in_Mo hown hK hP 0 rfl rfl 20 (by decide) (hal _ kw_657) (fun _ h9 => h9) rfl d_Mo_valueOf_21 ?_
  refine lv_lmul hx hb d_Mo_valueOf_24 ?_
  refine lv_lsub hx hb d_Mo_valueOf_25 ?_
  exact W.lret (v := ((r_below.toInt64 * u_3) - (r_above.toInt64 * u_4))) hx hb hr (fun t ht hW => ⟨⟨((r_below.toInt64 * u_3) - (r_above.toInt64 * u_4)), (u_3, u_4, u_5, u_6), rfl, Option.some.inj h, by rw [ht]; exact hP, va_K.moved hW.alike hK, hD⟩, hS.F ht⟩) hS.2.2 d_Mo_valueOf_26
def wd_Mo_number (cA : Nat → ClassId) (a_r a_q : Nat → Nat) (r_manner : Int32) (r_above : Int32) (r_below : Int32) (r_nodes : Int32) (r_arcs : Int32) (r_left : Int32) (r_isBest : Int32) (r_arePlateaus : Int32) (r_all : Int64) (r_a : Int64) (r_b : Int64) (r_ties : Int32) (r_z : Int32) (r_plateaus : Int32) (r_names : Nat → Int32) (q_arr : Nat → Int32) : va_W := [(a_r 0, .inr (8, [.int r_manner, .int r_above, .int r_below, .int r_nodes, .int r_arcs, .int r_left, .ref (a_r 1), .ref (a_r 2), .ref (a_r 3), .ref (a_r 4), .ref (a_r 5), .int r_isBest, .int r_arePlateaus, .ref (a_r 6), .ref (a_r 7), .ref (a_r 8), .long r_all, .ref (a_r 9), .ref (a_r 10), .long r_a, .long r_b, .ref (a_r 11), .ref (a_r 12), .ref (a_r 13), .ref (a_r 14), .ref (a_r 15), .int r_ties, .ref (a_r 16), .ref (a_r 17), .ref (a_r 18), .int r_z, .int r_plateaus, .ref (a_r 19), .ref (a_r 20), .ref (a_r 21), .ref (a_r 22)])), (a_r 11, .inl (cA 0, 9, .inl r_names)), (a_q 0, .inl (cA 0, 9, .inl q_arr))]
noncomputable def s_Mo_number_76 (r_names : Nat → Int32) (r_nodes : Int32) (zz : Int32 × (Nat → Int32)) (back exit : (Int32 × (Nat → Int32)) → Option (Int32 × (Nat → Int32) × (Nat → Int32))) : Option (Int32 × (Nat → Int32) × (Nat → Int32)) :=
  (if r_nodes ≤ zz.1 then (exit (zz.1, zz.2)) else (if inb zz.1 9 then (back ((zz.1 + 1), (upd zz.2 zz.1.toNatClampNeg (r_names zz.1.toNatClampNeg)))) else none))
noncomputable def s_Mo_number_15 (x3 : Int32) (q_arr : Nat → Int32) (zz : Int32) (back exit : Int32 → Option (Int32 × (Nat → Int32) × (Nat → Int32))) : Option (Int32 × (Nat → Int32) × (Nat → Int32)) :=
  (if inb zz 9 then (if inb x3 9 then (if (q_arr zz.toNatClampNeg) = (q_arr x3.toNatClampNeg) then (exit zz) else (back (zz + 1))) else none) else none)
noncomputable def s_Mo_number_4 (q_arr : Nat → Int32) (r_nodes : Int32) (zz : Int32 × Int32 × (Nat → Int32)) (back exit : (Int32 × Int32 × (Nat → Int32)) → Option (Int32 × (Nat → Int32) × (Nat → Int32))) : Option (Int32 × (Nat → Int32) × (Nat → Int32)) :=
  (if r_nodes ≤ zz.2.1 then (exit (zz.1, zz.2.1, zz.2.2)) else (loopC (s_Mo_number_15 zz.2.1 q_arr) (fun z15 : Int32 => (jn (fun z53 : Int32 => (if inb zz.2.1 9 then (if zz.2.1 ≤ z15 then (back ((zz.1 + (1 : Int32)), (zz.2.1 + 1), (upd zz.2.2 zz.2.1.toNatClampNeg z53))) else (back ((zz.1 + (0 : Int32)), (zz.2.1 + 1), (upd zz.2.2 zz.2.1.toNatClampNeg z53)))) else none)) (fun j53 => (if zz.2.1 ≤ z15 then (j53 zz.1) else (if inb z15 9 then (j53 (zz.2.2 z15.toNatClampNeg)) else none))))) FU (0 : Int32)))
noncomputable def m_Mo_number (r_nodes : Int32) (r_names : Nat → Int32) (q_arr : Nat → Int32) : Option (Int32 × (Nat → Int32) × (Nat → Int32)) :=
  (loopC (s_Mo_number_4 q_arr r_nodes) (fun z4 : Int32 × Int32 × (Nat → Int32) => (loopC (s_Mo_number_76 z4.2.2 r_nodes) (fun z76 : Int32 × (Nat → Int32) => some (z4.1, z4.2.2, z76.2)) FU ((0 : Int32), q_arr))) FU ((0 : Int32), (0 : Int32), r_names))
set_option maxHeartbeats 4000000 in
set_option maxRecDepth 100000 in
theorem c_Mo_number (l : Launch) (D : va_G) (cA : Nat → ClassId) (a_r a_q : Nat → Nat) (sz : Nat) (r_manner : Int32) (r_above : Int32) (r_below : Int32) (r_nodes : Int32) (r_arcs : Int32) (r_left : Int32) (r_isBest : Int32) (r_arePlateaus : Int32) (r_all : Int64) (r_a : Int64) (r_b : Int64) (r_ties : Int32) (r_z : Int32) (r_plateaus : Int32) (r_names : Nat → Int32) (q_arr : Nat → Int32)  (out : Int32 × (Nat → Int32) × (Nat → Int32)) (h : m_Mo_number r_nodes r_names q_arr = some out) : Met l y_Mo_number w_Mo_number ({ frames := 0, cells := 0, slots := 0, locals := 0 }) (va_Pc [.ref (a_r 0), .ref (a_q 0)] (fun U => U.heap.size = sz ∧ va_P D cls9 (wd_Mo_number cA a_r a_q r_manner r_above r_below r_nodes r_arcs r_left r_isBest r_arePlateaus r_all r_a r_b r_ties r_z r_plateaus r_names q_arr) U.heap ∧ va_K D cls9 (tys5 cA) U ∧ va_D (fun _ => True) (wd_Mo_number cA a_r a_q r_manner r_above r_below r_nodes r_arcs r_left r_isBest r_arePlateaus r_all r_a r_b r_ties r_z r_plateaus r_names q_arr))) (va_Qi (fun (rr : Int32) (uu : (Nat → Int32) × (Nat → Int32)) => (rr, uu) = out) (fun (uu : (Nat → Int32) × (Nat → Int32)) (t : State) => va_P D cls9 (wd_Mo_number cA a_r a_q r_manner r_above r_below r_nodes r_arcs r_left r_isBest r_arePlateaus r_all r_a r_b r_ties r_z r_plateaus uu.1 uu.2) t.heap ∧ va_K D cls9 (tys5 cA) t ∧ va_D (va_A (wd_Mo_number cA a_r a_q r_manner r_above r_below r_nodes r_arcs r_left r_isBest r_arePlateaus r_all r_a r_b r_ties r_z r_plateaus r_names q_arr) sz) (wd_Mo_number cA a_r a_q r_manner r_above r_below r_nodes r_arcs r_left r_isBest r_arePlateaus r_all r_a r_b r_ties r_z r_plateaus uu.1 uu.2)) (va_A (wd_Mo_number cA a_r a_q r_manner r_above r_below r_nodes r_arcs r_left r_isBest r_arePlateaus r_all r_a r_b r_ties r_z r_plateaus r_names q_arr) sz)) 0 0 (va_A (wd_Mo_number cA a_r a_q r_manner r_above r_below r_nodes r_arcs r_left r_isBest r_arePlateaus r_all r_a r_b r_ties r_z r_plateaus r_names q_arr) sz) := by
  refine Met.ofW (cc := b_Mo_number) (maxL := 5) (ret := (Option.some Jvm.ClassFile.FieldType.int)) (by decide) rfl ?_
  intro p e s m args below meth c s₁ B hml hv
  obtain ⟨rfl, hsz, hP, hK, hD0⟩ := hv
  have hx := B.exec
  have hb := B.bytes
  have hr := B.returns
  have hts := atoms_spec (ws := w_Mo_number) B.pre
  have hal : ∀ w ∈ ALLW, w.before _ s = true := fun w hw => hts w (List.mem_cons_of_mem _ hw)
  have hown : s.vm.findClass R_Mo = some m.cls := findClass_of_methodNamed B.named
  have hlocks := B.notSynchronized
  subst hsz
  have hD := hD0.self (sz := s.heap.size)
  generalize hAe : va_A (wd_Mo_number cA a_r a_q r_manner r_above r_below r_nodes r_arcs r_left r_isBest r_arePlateaus r_all r_a r_b r_ties r_z r_plateaus r_names q_arr) s.heap.size = A at hD ⊢
  have hA : ∀ q : Nat, s.heap.size ≤ q → A q := fun q h => by rw [← hAe]; exact Or.inr h
  have hS : va_S A s.heap s.heap [] := va_S.rf
  have hl := lv_entry ([.ref (a_r 0), .ref (a_q 0)]) (n := 5) (Nat.le_of_ble_eq_true rfl)
  rw [lg_entry_eq]
  generalize (lg_sl ([.ref (a_r 0), .ref (a_q 0)]) ++ List.replicate (5 - (lg_sl ([.ref (a_r 0), .ref (a_q 0)])).length) Slot.unset).toArray = ls at hl ⊢
  have hl : lv_has ls 5 [(0, .ref (a_r 0)), (1, .ref (a_q 0))] := hl
  refine wg (fun G hG => ?_)
  refine cast (hG _ _ _ _ _ _ _).symm ?_
  obtain ⟨H, locs, hHl, hS⟩ : ∃ (H : Heap) (locs : List Loc), (H = s.heap ∧ locs = []) ∧ va_S A s.heap H locs := ⟨s.heap, [], ⟨rfl, rfl⟩, hS⟩
  have hP : va_P D cls9 (wd_Mo_number cA a_r a_q r_manner r_above r_below r_nodes r_arcs r_left r_isBest r_arePlateaus r_all r_a r_b r_ties r_z r_plateaus r_names q_arr) H := by rw [hHl.1]; exact hP
  rw [← hHl.1, ← hHl.2]
  clear hHl
  refine lv_iconst (v := 0) hx hb d_Mo_number_0 (by decide) ?_
  refine lv_istore_n (lv' := [(2, .int (0 : Int32)), (0, .ref (a_r 0)), (1, .ref (a_q 0))]) hx hb d_Mo_number_1 rfl hl (by decide) rfl (fun ls hl => ?_)
  refine lv_iconst (v := 0) hx hb d_Mo_number_2 (by decide) ?_
  refine lv_istore_n (lv' := [(3, .int (0 : Int32)), (2, .int (0 : Int32)), (0, .ref (a_r 0)), (1, .ref (a_q 0))]) hx hb d_Mo_number_3 rfl hl (by decide) rfl (fun ls hl => ?_)
  refine cast (hG _ _ _ _ _ _ _) (lp_go2 h (fun zz : Int32 × Int32 × (Nat → Int32) => ∀ (H : Heap) (locs : List Loc) (ls : Array Slot), va_P D cls9 (wd_Mo_number cA a_r a_q r_manner r_above r_below r_nodes r_arcs r_left r_isBest r_arePlateaus r_all r_a r_b r_ties r_z r_plateaus zz.2.2 q_arr) H → va_D A (wd_Mo_number cA a_r a_q r_manner r_above r_below r_nodes r_arcs r_left r_isBest r_arePlateaus r_all r_a r_b r_ties r_z r_plateaus zz.2.2 q_arr) → va_S A s.heap H locs → lv_has ls 5 [(3, .int zz.2.1), (2, .int zz.1), (0, .ref (a_r 0)), (1, .ref (a_q 0))] → G H locs 0 0 ls 74 []) ?_ (fun zz : Int32 × Int32 × (Nat → Int32) => ∀ (H : Heap) (locs : List Loc) (ls : Array Slot), va_P D cls9 (wd_Mo_number cA a_r a_q r_manner r_above r_below r_nodes r_arcs r_left r_isBest r_arePlateaus r_all r_a r_b r_ties r_z r_plateaus zz.2.2 q_arr) H → va_D A (wd_Mo_number cA a_r a_q r_manner r_above r_below r_nodes r_arcs r_left r_isBest r_arePlateaus r_all r_a r_b r_ties r_z r_plateaus zz.2.2 q_arr) → va_S A s.heap H locs → lv_has ls 5 [(3, .int zz.2.1), (2, .int zz.1), (0, .ref (a_r 0)), (1, .ref (a_q 0))] → G H locs 0 0 ls 4 []) ?_ _ _ ls hP hD hS (lv_sub hl [0, 1, 2, 3] rfl))
  · intro zz h H locs ls hP hD hS hl
    obtain ⟨x2_4e, x3_4e, r_names_4e⟩ := zz
    have hP : va_P D cls9 (wd_Mo_number cA a_r a_q r_manner r_above r_below r_nodes r_arcs r_left r_isBest r_arePlateaus r_all r_a r_b r_ties r_z r_plateaus r_names_4e q_arr) H := hP
    have hD : va_D A (wd_Mo_number cA a_r a_q r_manner r_above r_below r_nodes r_arcs r_left r_isBest r_arePlateaus r_all r_a r_b r_ties r_z r_plateaus r_names_4e q_arr) := hD
    have hl : lv_has ls 5 [(3, .int x3_4e), (2, .int x2_4e), (0, .ref (a_r 0)), (1, .ref (a_q 0))] := hl
    refine cast (hG _ _ _ _ _ _ _).symm ?_
    refine lv_iconst (v := 0) hx hb d_Mo_number_74 (by decide) ?_
    refine lv_istore_n (lv' := [(3, .int (0 : Int32)), (2, .int x2_4e), (0, .ref (a_r 0)), (1, .ref (a_q 0))]) hx hb d_Mo_number_75 rfl hl (by decide) rfl (fun ls hl => ?_)
    refine cast (hG _ _ _ _ _ _ _) (lp_go2 h (fun zz : Int32 × (Nat → Int32) => ∀ (H : Heap) (locs : List Loc) (ls : Array Slot), va_P D cls9 (wd_Mo_number cA a_r a_q r_manner r_above r_below r_nodes r_arcs r_left r_isBest r_arePlateaus r_all r_a r_b r_ties r_z r_plateaus r_names_4e zz.2) H → va_D A (wd_Mo_number cA a_r a_q r_manner r_above r_below r_nodes r_arcs r_left r_isBest r_arePlateaus r_all r_a r_b r_ties r_z r_plateaus r_names_4e zz.2) → va_S A s.heap H locs → lv_has ls 5 [(3, .int zz.1), (2, .int x2_4e), (0, .ref (a_r 0)), (1, .ref (a_q 0))] → G H locs 0 0 ls 99 []) ?_ (fun zz : Int32 × (Nat → Int32) => ∀ (H : Heap) (locs : List Loc) (ls : Array Slot), va_P D cls9 (wd_Mo_number cA a_r a_q r_manner r_above r_below r_nodes r_arcs r_left r_isBest r_arePlateaus r_all r_a r_b r_ties r_z r_plateaus r_names_4e zz.2) H → va_D A (wd_Mo_number cA a_r a_q r_manner r_above r_below r_nodes r_arcs r_left r_isBest r_arePlateaus r_all r_a r_b r_ties r_z r_plateaus r_names_4e zz.2) → va_S A s.heap H locs → lv_has ls 5 [(3, .int zz.1), (2, .int x2_4e), (0, .ref (a_r 0)), (1, .ref (a_q 0))] → G H locs 0 0 ls 76 []) ?_ _ _ ls hP hD hS (lv_sub hl [0, 1, 2, 3] rfl))
    · intro zz h H locs ls hP hD hS hl
      obtain ⟨x3_76e, q_arr_76e⟩ := zz
      have hP : va_P D cls9 (wd_Mo_number cA a_r a_q r_manner r_above r_below r_nodes r_arcs r_left r_isBest r_arePlateaus r_all r_a r_b r_ties r_z r_plateaus r_names_4e q_arr_76e) H := hP
      have hD : va_D A (wd_Mo_number cA a_r a_q r_manner r_above r_below r_nodes r_arcs r_left r_isBest r_arePlateaus r_all r_a r_b r_ties r_z r_plateaus r_names_4e q_arr_76e) := hD
      have hl : lv_has ls 5 [(3, .int x3_76e), (2, .int x2_4e), (0, .ref (a_r 0)), (1, .ref (a_q 0))] := hl
      refine cast (hG _ _ _ _ _ _ _).symm ?_
      refine lv_iload_n hx hb d_Mo_number_99 rfl (lv_at hl 1 rfl) ?_
      exact W.iret (v := x2_4e) hx hb hr (fun t ht hW => ⟨⟨x2_4e, (r_names_4e, q_arr_76e), rfl, Option.some.inj h, by rw [ht]; exact hP, va_K.moved hW.alike hK, hD⟩, hS.F ht⟩) hS.2.2 d_Mo_number_100
    · intro back exit zz hB_76 hE_76 h H locs ls hP hD hS hl
      obtain ⟨x3_76, q_arr_76⟩ := zz
      have hP : va_P D cls9 (wd_Mo_number cA a_r a_q r_manner r_above r_below r_nodes r_arcs r_left r_isBest r_arePlateaus r_all r_a r_b r_ties r_z r_plateaus r_names_4e q_arr_76) H := hP
      have hD : va_D A (wd_Mo_number cA a_r a_q r_manner r_above r_below r_nodes r_arcs r_left r_isBest r_arePlateaus r_all r_a r_b r_ties r_z r_plateaus r_names_4e q_arr_76) := hD
      have hl : lv_has ls 5 [(3, .int x3_76), (2, .int x2_4e), (0, .ref (a_r 0)), (1, .ref (a_q 0))] := hl
      refine cast (hG _ _ _ _ _ _ _).symm ?_
      refine lv_iload_n hx hb d_Mo_number_76 rfl (lv_at hl 0 rfl) ?_
      refine lv_aload_n hx hb d_Mo_number_77 rfl (lv_at hl 2 rfl) ?_
      refine va_get (ci := 8) (v := .int r_nodes) (C := R_Mo) (T := F_Mo) (N := 36) hx hb hal in_Mo hown hK hP 0 rfl rfl 3 (by decide) (hal _ kw_640) (fun _ h9 => h9) rfl d_Mo_number_78 ?_
      refine lv_icmp_ge (tgt := 99) hx hb d_Mo_number_81 (by decide) (fun c_1 => ?_) (fun c_1 => ?_)
      · have h := ifp (c_1) h
        exact cast (hG _ _ _ _ _ _ _) (hE_76 (x3_76, q_arr_76) h _ _ _ hP hD hS (lv_sub hl [0, 1, 2, 3] rfl))
      · have h := ifn (c_1) h
        refine lv_aload_n hx hb d_Mo_number_84 rfl (lv_at hl 3 rfl) ?_
        refine lv_iload_n hx hb d_Mo_number_85 rfl (lv_at hl 0 rfl) ?_
        refine lv_aload_n hx hb d_Mo_number_86 rfl (lv_at hl 2 rfl) ?_
        refine va_get (ci := 8) (v := .ref (a_r 11)) (C := R_Mo) (T := F_Mo) (N := 36) hx hb hal in_Mo hown hK hP 0 rfl rfl 21 (by decide) (hal _ kw_658) (fun _ h9 => h9) rfl d_Mo_number_87 ?_
        refine lv_iload_n hx hb d_Mo_number_90 rfl (lv_at hl 0 rfl) ?_
        obtain ⟨g_2, h⟩ := gd h
        refine va_iald hx hb hK hP 1 0 rfl rfl (inb_in g_2) d_Mo_number_91 ?_
        refine va_iast hx hb hK hP hD hS 2 0 rfl rfl (inb_in g_2) d_Mo_number_92 (fun H locs hP hD hS => ?_)
        have hP : va_P D cls9 (wd_Mo_number cA a_r a_q r_manner r_above r_below r_nodes r_arcs r_left r_isBest r_arePlateaus r_all r_a r_b r_ties r_z r_plateaus r_names_4e (upd q_arr_76 x3_76.toNatClampNeg (r_names_4e x3_76.toNatClampNeg))) H := hP
        have hD : va_D A (wd_Mo_number cA a_r a_q r_manner r_above r_below r_nodes r_arcs r_left r_isBest r_arePlateaus r_all r_a r_b r_ties r_z r_plateaus r_names_4e (upd q_arr_76 x3_76.toNatClampNeg (r_names_4e x3_76.toNatClampNeg))) := hD
        refine lv_iinc (v := (x3_76 + 1)) (lv' := [(3, .int (x3_76 + 1)), (2, .int x2_4e), (0, .ref (a_r 0)), (1, .ref (a_q 0))]) hx hb d_Mo_number_93 hl (k := 0) rfl rfl (by decide) rfl (fun ls hl => ?_)
        refine lv_goto (tgt := 76) hx hb d_Mo_number_96 (by decide) ?_
        exact cast (hG _ _ _ _ _ _ _) (hB_76 ((x3_76 + 1), (upd q_arr_76 x3_76.toNatClampNeg (r_names_4e x3_76.toNatClampNeg))) h _ _ _ hP hD hS (lv_sub hl [0, 1, 2, 3] rfl))
  · intro back exit zz hB_4 hE_4 h H locs ls hP hD hS hl
    obtain ⟨x2_4, x3_4, r_names_4⟩ := zz
    have hP : va_P D cls9 (wd_Mo_number cA a_r a_q r_manner r_above r_below r_nodes r_arcs r_left r_isBest r_arePlateaus r_all r_a r_b r_ties r_z r_plateaus r_names_4 q_arr) H := hP
    have hD : va_D A (wd_Mo_number cA a_r a_q r_manner r_above r_below r_nodes r_arcs r_left r_isBest r_arePlateaus r_all r_a r_b r_ties r_z r_plateaus r_names_4 q_arr) := hD
    have hl : lv_has ls 5 [(3, .int x3_4), (2, .int x2_4), (0, .ref (a_r 0)), (1, .ref (a_q 0))] := hl
    refine cast (hG _ _ _ _ _ _ _).symm ?_
    refine lv_iload_n hx hb d_Mo_number_4 rfl (lv_at hl 0 rfl) ?_
    refine lv_aload_n hx hb d_Mo_number_5 rfl (lv_at hl 2 rfl) ?_
    refine va_get (ci := 8) (v := .int r_nodes) (C := R_Mo) (T := F_Mo) (N := 36) hx hb hal in_Mo hown hK hP 0 rfl rfl 3 (by decide) (hal _ kw_640) (fun _ h9 => h9) rfl d_Mo_number_6 ?_
    refine lv_icmp_ge (tgt := 74) hx hb d_Mo_number_9 (by decide) (fun c_3 => ?_) (fun c_3 => ?_)
    · have h := ifp (c_3) h
      exact cast (hG _ _ _ _ _ _ _) (hE_4 (x2_4, x3_4, r_names_4) h _ _ _ hP hD hS (lv_sub hl [0, 1, 2, 3] rfl))
    · have h := ifn (c_3) h
      refine lv_iconst (v := 0) hx hb d_Mo_number_12 (by decide) ?_
      refine lv_istore (lv' := [(4, .int (0 : Int32)), (3, .int x3_4), (2, .int x2_4), (0, .ref (a_r 0)), (1, .ref (a_q 0))]) hx hb d_Mo_number_13 hl (by decide) rfl (fun ls hl => ?_)
      refine cast (hG _ _ _ _ _ _ _) (lp_go2 h (fun zz : Int32 => ∀ (H : Heap) (locs : List Loc) (ls : Array Slot), va_P D cls9 (wd_Mo_number cA a_r a_q r_manner r_above r_below r_nodes r_arcs r_left r_isBest r_arePlateaus r_all r_a r_b r_ties r_z r_plateaus r_names_4 q_arr) H → va_D A (wd_Mo_number cA a_r a_q r_manner r_above r_below r_nodes r_arcs r_left r_isBest r_arePlateaus r_all r_a r_b r_ties r_z r_plateaus r_names_4 q_arr) → va_S A s.heap H locs → lv_has ls 5 [(4, .int zz), (3, .int x3_4), (2, .int x2_4), (0, .ref (a_r 0)), (1, .ref (a_q 0))] → G H locs 0 0 ls 31 []) ?_ (fun zz : Int32 => ∀ (H : Heap) (locs : List Loc) (ls : Array Slot), va_P D cls9 (wd_Mo_number cA a_r a_q r_manner r_above r_below r_nodes r_arcs r_left r_isBest r_arePlateaus r_all r_a r_b r_ties r_z r_plateaus r_names_4 q_arr) H → va_D A (wd_Mo_number cA a_r a_q r_manner r_above r_below r_nodes r_arcs r_left r_isBest r_arePlateaus r_all r_a r_b r_ties r_z r_plateaus r_names_4 q_arr) → va_S A s.heap H locs → lv_has ls 5 [(4, .int zz), (3, .int x3_4), (2, .int x2_4), (0, .ref (a_r 0)), (1, .ref (a_q 0))] → G H locs 0 0 ls 15 []) ?_ _ _ ls hP hD hS (lv_sub hl [0, 1, 2, 3, 4] rfl))
      · intro zz h H locs ls hP hD hS hl
        obtain ⟨x4_15e, rfl⟩ : ∃ q, q = zz := ⟨_, rfl⟩
        have hP : va_P D cls9 (wd_Mo_number cA a_r a_q r_manner r_above r_below r_nodes r_arcs r_left r_isBest r_arePlateaus r_all r_a r_b r_ties r_z r_plateaus r_names_4 q_arr) H := hP
        have hD : va_D A (wd_Mo_number cA a_r a_q r_manner r_above r_below r_nodes r_arcs r_left r_isBest r_arePlateaus r_all r_a r_b r_ties r_z r_plateaus r_names_4 q_arr) := hD
        have hl : lv_has ls 5 [(4, .int x4_15e), (3, .int x3_4), (2, .int x2_4), (0, .ref (a_r 0)), (1, .ref (a_q 0))] := hl
        refine cast (hG _ _ _ _ _ _ _).symm ?_
        refine lv_aload_n hx hb d_Mo_number_31 rfl (lv_at hl 3 rfl) ?_
        refine va_get (ci := 8) (v := .ref (a_r 11)) (C := R_Mo) (T := F_Mo) (N := 36) hx hb hal in_Mo hown hK hP 0 rfl rfl 21 (by decide) (hal _ kw_658) (fun _ h9 => h9) rfl d_Mo_number_32 ?_
        refine lv_iload_n hx hb d_Mo_number_35 rfl (lv_at hl 1 rfl) ?_
        refine lv_iload hx hb d_Mo_number_36 (lv_at hl 0 rfl) ?_
        refine lv_iload_n hx hb d_Mo_number_38 rfl (lv_at hl 1 rfl) ?_
        refine cast (hG _ _ _ _ _ _ _) (jn_go h (fun zz : Int32 => ∀ (H : Heap) (locs : List Loc) (ls : Array Slot), va_P D cls9 (wd_Mo_number cA a_r a_q r_manner r_above r_below r_nodes r_arcs r_left r_isBest r_arePlateaus r_all r_a r_b r_ties r_z r_plateaus r_names_4 q_arr) H → va_D A (wd_Mo_number cA a_r a_q r_manner r_above r_below r_nodes r_arcs r_left r_isBest r_arePlateaus r_all r_a r_b r_ties r_z r_plateaus r_names_4 q_arr) → va_S A s.heap H locs → lv_has ls 5 [(4, .int x4_15e), (3, .int x3_4), (2, .int x2_4), (0, .ref (a_r 0)), (1, .ref (a_q 0))] → G H locs 0 0 ls 53 [.int zz, .int x3_4, .ref (a_r 11)]) ?_ ?_)
        · intro zz h H locs ls hP hD hS hl
          obtain ⟨y0_53j, rfl⟩ : ∃ q, q = zz := ⟨_, rfl⟩
          have hP : va_P D cls9 (wd_Mo_number cA a_r a_q r_manner r_above r_below r_nodes r_arcs r_left r_isBest r_arePlateaus r_all r_a r_b r_ties r_z r_plateaus r_names_4 q_arr) H := hP
          have hD : va_D A (wd_Mo_number cA a_r a_q r_manner r_above r_below r_nodes r_arcs r_left r_isBest r_arePlateaus r_all r_a r_b r_ties r_z r_plateaus r_names_4 q_arr) := hD
          have hl : lv_has ls 5 [(4, .int x4_15e), (3, .int x3_4), (2, .int x2_4), (0, .ref (a_r 0)), (1, .ref (a_q 0))] := hl
          refine cast (hG _ _ _ _ _ _ _).symm ?_
          obtain ⟨g_4, h⟩ := gd h
          refine va_iast hx hb hK hP hD hS 1 0 rfl rfl (inb_in g_4) d_Mo_number_53 (fun H locs hP hD hS => ?_)
          have hP : va_P D cls9 (wd_Mo_number cA a_r a_q r_manner r_above r_below r_nodes r_arcs r_left r_isBest r_arePlateaus r_all r_a r_b r_ties r_z r_plateaus (upd r_names_4 x3_4.toNatClampNeg y0_53j) q_arr) H := hP
          have hD : va_D A (wd_Mo_number cA a_r a_q r_manner r_above r_below r_nodes r_arcs r_left r_isBest r_arePlateaus r_all r_a r_b r_ties r_z r_plateaus (upd r_names_4 x3_4.toNatClampNeg y0_53j) q_arr) := hD
          refine lv_iload_n hx hb d_Mo_number_54 rfl (lv_at hl 2 rfl) ?_
          refine lv_iload hx hb d_Mo_number_55 (lv_at hl 0 rfl) ?_
          refine lv_iload_n hx hb d_Mo_number_57 rfl (lv_at hl 1 rfl) ?_
          refine lv_icmp_ge (tgt := 65) hx hb d_Mo_number_58 (by decide) (fun c_5 => ?_) (fun c_5 => ?_)
          · have h := ifp (c_5) h
            refine lv_iconst (v := 1) hx hb d_Mo_number_65 (by decide) ?_
            refine lv_iadd hx hb d_Mo_number_66 ?_
            refine lv_istore_n (lv' := [(2, .int (x2_4 + (1 : Int32))), (4, .int x4_15e), (3, .int x3_4), (0, .ref (a_r 0)), (1, .ref (a_q 0))]) hx hb d_Mo_number_67 rfl hl (by decide) rfl (fun ls hl => ?_)
            refine lv_iinc (v := (x3_4 + 1)) (lv' := [(3, .int (x3_4 + 1)), (2, .int (x2_4 + (1 : Int32))), (4, .int x4_15e), (0, .ref (a_r 0)), (1, .ref (a_q 0))]) hx hb d_Mo_number_68 hl (k := 2) rfl rfl (by decide) rfl (fun ls hl => ?_)
            refine lv_goto (tgt := 4) hx hb d_Mo_number_71 (by decide) ?_
            exact cast (hG _ _ _ _ _ _ _) (hB_4 ((x2_4 + (1 : Int32)), (x3_4 + 1), (upd r_names_4 x3_4.toNatClampNeg y0_53j)) h _ _ _ hP hD hS (lv_sub hl [0, 1, 3, 4] rfl))
          · have h := ifn (c_5) h
            refine lv_iconst (v := 0) hx hb d_Mo_number_61 (by decide) ?_
            refine lv_goto (tgt := 66) hx hb d_Mo_number_62 (by decide) ?_
            refine lv_iadd hx hb d_Mo_number_66 ?_
            refine lv_istore_n (lv' := [(2, .int (x2_4 + (0 : Int32))), (4, .int x4_15e), (3, .int x3_4), (0, .ref (a_r 0)), (1, .ref (a_q 0))]) hx hb d_Mo_number_67 rfl hl (by decide) rfl (fun ls hl => ?_)
            refine lv_iinc (v := (x3_4 + 1)) (lv' := [(3, .int (x3_4 + 1)), (2, .int (x2_4 + (0 : Int32))), (4, .int x4_15e), (0, .ref (a_r 0)), (1, .ref (a_q 0))]) hx hb d_Mo_number_68 hl (k := 2) rfl rfl (by decide) rfl (fun ls hl => ?_)
            refine lv_goto (tgt := 4) hx hb d_Mo_number_71 (by decide) ?_
            exact cast (hG _ _ _ _ _ _ _) (hB_4 ((x2_4 + (0 : Int32)), (x3_4 + 1), (upd r_names_4 x3_4.toNatClampNeg y0_53j)) h _ _ _ hP hD hS (lv_sub hl [0, 1, 3, 4] rfl))
        · intro j53 hJ_53 h
          refine cast (hG _ _ _ _ _ _ _).symm ?_
          refine lv_icmp_ge (tgt := 52) hx hb d_Mo_number_39 (by decide) (fun c_6 => ?_) (fun c_6 => ?_)
          · have h := ifp (c_6) h
            refine lv_iload_n hx hb d_Mo_number_52 rfl (lv_at hl 2 rfl) ?_
            exact cast (hG _ _ _ _ _ _ _) (hJ_53 x2_4 h _ _ _ hP hD hS (lv_sub hl [0, 1, 2, 3, 4] rfl))
          · have h := ifn (c_6) h
            refine lv_aload_n hx hb d_Mo_number_42 rfl (lv_at hl 3 rfl) ?_
            refine va_get (ci := 8) (v := .ref (a_r 11)) (C := R_Mo) (T := F_Mo) (N := 36) hx hb hal in_Mo hown hK hP 0 rfl rfl 21 (by decide) (hal _ kw_658) (fun _ h9 => h9) rfl d_Mo_number_43 ?_
            refine lv_iload hx hb d_Mo_number_46 (lv_at hl 0 rfl) ?_
            obtain ⟨g_7, h⟩ := gd h
            refine va_iald hx hb hK hP 1 0 rfl rfl (inb_in g_7) d_Mo_number_48 ?_
            refine lv_goto (tgt := 53) hx hb d_Mo_number_49 (by decide) ?_
            exact cast (hG _ _ _ _ _ _ _) (hJ_53 (r_names_4 x4_15e.toNatClampNeg) h _ _ _ hP hD hS (lv_sub hl [0, 1, 2, 3, 4] rfl))
      · intro back exit zz hB_15 hE_15 h H locs ls hP hD hS hl
        obtain ⟨x4_15, rfl⟩ : ∃ q, q = zz := ⟨_, rfl⟩
        have hP : va_P D cls9 (wd_Mo_number cA a_r a_q r_manner r_above r_below r_nodes r_arcs r_left r_isBest r_arePlateaus r_all r_a r_b r_ties r_z r_plateaus r_names_4 q_arr) H := hP
        have hD : va_D A (wd_Mo_number cA a_r a_q r_manner r_above r_below r_nodes r_arcs r_left r_isBest r_arePlateaus r_all r_a r_b r_ties r_z r_plateaus r_names_4 q_arr) := hD
        have hl : lv_has ls 5 [(4, .int x4_15), (3, .int x3_4), (2, .int x2_4), (0, .ref (a_r 0)), (1, .ref (a_q 0))] := hl
        refine cast (hG _ _ _ _ _ _ _).symm ?_
        refine lv_aload_n hx hb d_Mo_number_15 rfl (lv_at hl 4 rfl) ?_
        refine lv_iload hx hb d_Mo_number_16 (lv_at hl 0 rfl) ?_
        obtain ⟨g_8, h⟩ := gd h
        refine va_iald hx hb hK hP 2 0 rfl rfl (inb_in g_8) d_Mo_number_18 ?_
        refine lv_aload_n hx hb d_Mo_number_19 rfl (lv_at hl 4 rfl) ?_
        refine lv_iload_n hx hb d_Mo_number_20 rfl (lv_at hl 1 rfl) ?_
        obtain ⟨g_9, h⟩ := gd h
        refine va_iald hx hb hK hP 2 0 rfl rfl (inb_in g_9) d_Mo_number_21 ?_
        refine lv_icmp_eq (tgt := 31) hx hb d_Mo_number_22 (by decide) (fun c_10 => ?_) (fun c_10 => ?_)
        · have h := ifp (c_10) h
          exact cast (hG _ _ _ _ _ _ _) (hE_15 x4_15 h _ _ _ hP hD hS (lv_sub hl [0, 1, 2, 3, 4] rfl))
        · have h := ifn (c_10) h
          refine lv_iinc (v := (x4_15 + 1)) (lv' := [(4, .int (x4_15 + 1)), (3, .int x3_4), (2, .int x2_4), (0, .ref (a_r 0)), (1, .ref (a_q 0))]) hx hb d_Mo_number_25 hl (k := 0) rfl rfl (by decide) rfl (fun ls hl => ?_)
          refine lv_goto (tgt := 15) hx hb d_Mo_number_28 (by decide) ?_
          exact cast (hG _ _ _ _ _ _ _) (hB_15 (x4_15 + 1) h _ _ _ hP hD hS (lv_sub hl [0, 1, 2, 3, 4] rfl))
def wd_Mo_copy (cA : Nat → ClassId) (a_r a_q a_w : Nat → Nat) (r_manner : Int32) (r_above : Int32) (r_below : Int32) (r_nodes : Int32) (r_arcs : Int32) (r_left : Int32) (r_isBest : Int32) (r_arePlateaus : Int32) (r_all : Int64) (r_a : Int64) (r_b : Int64) (r_ties : Int32) (r_z : Int32) (r_plateaus : Int32) (q_arr : Nat → Int32) (w_arr : Nat → Int32) : va_W := [(a_r 0, .inr (8, [.int r_manner, .int r_above, .int r_below, .int r_nodes, .int r_arcs, .int r_left, .ref (a_r 1), .ref (a_r 2), .ref (a_r 3), .ref (a_r 4), .ref (a_r 5), .int r_isBest, .int r_arePlateaus, .ref (a_r 6), .ref (a_r 7), .ref (a_r 8), .long r_all, .ref (a_r 9), .ref (a_r 10), .long r_a, .long r_b, .ref (a_r 11), .ref (a_r 12), .ref (a_r 13), .ref (a_r 14), .ref (a_r 15), .int r_ties, .ref (a_r 16), .ref (a_r 17), .ref (a_r 18), .int r_z, .int r_plateaus, .ref (a_r 19), .ref (a_r 20), .ref (a_r 21), .ref (a_r 22)])), (a_q 0, .inl (cA 0, 9, .inl q_arr)), (a_w 0, .inl (cA 0, 9, .inl w_arr))]
noncomputable def s_Mo_copy_2 (q_arr : Nat → Int32) (r_nodes : Int32) (zz : Int32 × (Nat → Int32)) (back exit : (Int32 × (Nat → Int32)) → Option ((Nat → Int32))) : Option ((Nat → Int32)) :=
  (if r_nodes ≤ zz.1 then (exit (zz.1, zz.2)) else (if inb zz.1 9 then (back ((zz.1 + 1), (upd zz.2 zz.1.toNatClampNeg (q_arr zz.1.toNatClampNeg)))) else none))
noncomputable def m_Mo_copy (r_nodes : Int32) (q_arr : Nat → Int32) (w_arr : Nat → Int32) : Option ((Nat → Int32)) :=
  (loopC (s_Mo_copy_2 q_arr r_nodes) (fun z2 : Int32 × (Nat → Int32) => some z2.2) FU ((0 : Int32), w_arr))
set_option maxHeartbeats 4000000 in
set_option maxRecDepth 100000 in
theorem c_Mo_copy (l : Launch) (D : va_G) (cA : Nat → ClassId) (a_r a_q a_w : Nat → Nat) (sz : Nat) (r_manner : Int32) (r_above : Int32) (r_below : Int32) (r_nodes : Int32) (r_arcs : Int32) (r_left : Int32) (r_isBest : Int32) (r_arePlateaus : Int32) (r_all : Int64) (r_a : Int64) (r_b : Int64) (r_ties : Int32) (r_z : Int32) (r_plateaus : Int32) (q_arr : Nat → Int32) (w_arr : Nat → Int32)  (out : (Nat → Int32)) (h : m_Mo_copy r_nodes q_arr w_arr = some out) : Met l y_Mo_copy w_Mo_copy ({ frames := 0, cells := 0, slots := 0, locals := 0 }) (va_Pc [.ref (a_r 0), .ref (a_q 0), .ref (a_w 0)] (fun U => U.heap.size = sz ∧ va_P D cls9 (wd_Mo_copy cA a_r a_q a_w r_manner r_above r_below r_nodes r_arcs r_left r_isBest r_arePlateaus r_all r_a r_b r_ties r_z r_plateaus q_arr w_arr) U.heap ∧ va_K D cls9 (tys5 cA) U ∧ va_D (fun _ => True) (wd_Mo_copy cA a_r a_q a_w r_manner r_above r_below r_nodes r_arcs r_left r_isBest r_arePlateaus r_all r_a r_b r_ties r_z r_plateaus q_arr w_arr))) (va_Qv (fun uu : (Nat → Int32) => uu = out) (fun (uu : (Nat → Int32)) (t : State) => va_P D cls9 (wd_Mo_copy cA a_r a_q a_w r_manner r_above r_below r_nodes r_arcs r_left r_isBest r_arePlateaus r_all r_a r_b r_ties r_z r_plateaus q_arr uu) t.heap ∧ va_K D cls9 (tys5 cA) t ∧ va_D (va_A (wd_Mo_copy cA a_r a_q a_w r_manner r_above r_below r_nodes r_arcs r_left r_isBest r_arePlateaus r_all r_a r_b r_ties r_z r_plateaus q_arr w_arr) sz) (wd_Mo_copy cA a_r a_q a_w r_manner r_above r_below r_nodes r_arcs r_left r_isBest r_arePlateaus r_all r_a r_b r_ties r_z r_plateaus q_arr uu)) (va_A (wd_Mo_copy cA a_r a_q a_w r_manner r_above r_below r_nodes r_arcs r_left r_isBest r_arePlateaus r_all r_a r_b r_ties r_z r_plateaus q_arr w_arr) sz)) 0 0 (va_A (wd_Mo_copy cA a_r a_q a_w r_manner r_above r_below r_nodes r_arcs r_left r_isBest r_arePlateaus r_all r_a r_b r_ties r_z r_plateaus q_arr w_arr) sz) := by
  refine Met.ofW (cc := b_Mo_copy) (maxL := 4) (ret := (Option.none : Option Jvm.ClassFile.FieldType)) (by decide) rfl ?_
  intro p e s m args below meth c s₁ B hml hv
  obtain ⟨rfl, hsz, hP, hK, hD0⟩ := hv
  have hx := B.exec
  have hb := B.bytes
  have hr := B.returns
  have hts := atoms_spec (ws := w_Mo_copy) B.pre
  have hal : ∀ w ∈ ALLW, w.before _ s = true := fun w hw => hts w (List.mem_cons_of_mem _ hw)
  have hown : s.vm.findClass R_Mo = some m.cls := findClass_of_methodNamed B.named
  have hlocks := B.notSynchronized
  subst hsz
  have hD := hD0.self (sz := s.heap.size)
  generalize hAe : va_A (wd_Mo_copy cA a_r a_q a_w r_manner r_above r_below r_nodes r_arcs r_left r_isBest r_arePlateaus r_all r_a r_b r_ties r_z r_plateaus q_arr w_arr) s.heap.size = A at hD ⊢
  have hA : ∀ q : Nat, s.heap.size ≤ q → A q := fun q h => by rw [← hAe]; exact Or.inr h
  have hS : va_S A s.heap s.heap [] := va_S.rf
  have hl := lv_entry ([.ref (a_r 0), .ref (a_q 0), .ref (a_w 0)]) (n := 4) (Nat.le_of_ble_eq_true rfl)
  rw [lg_entry_eq]
  generalize (lg_sl ([.ref (a_r 0), .ref (a_q 0), .ref (a_w 0)]) ++ List.replicate (4 - (lg_sl ([.ref (a_r 0), .ref (a_q 0), .ref (a_w 0)])).length) Slot.unset).toArray = ls at hl ⊢
  have hl : lv_has ls 4 [(0, .ref (a_r 0)), (1, .ref (a_q 0)), (2, .ref (a_w 0))] := hl
  refine wg (fun G hG => ?_)
  refine cast (hG _ _ _ _ _ _ _).symm ?_
  obtain ⟨H, locs, hHl, hS⟩ : ∃ (H : Heap) (locs : List Loc), (H = s.heap ∧ locs = []) ∧ va_S A s.heap H locs := ⟨s.heap, [], ⟨rfl, rfl⟩, hS⟩
  have hP : va_P D cls9 (wd_Mo_copy cA a_r a_q a_w r_manner r_above r_below r_nodes r_arcs r_left r_isBest r_arePlateaus r_all r_a r_b r_ties r_z r_plateaus q_arr w_arr) H := by rw [hHl.1]; exact hP
  rw [← hHl.1, ← hHl.2]
  clear hHl
  refine lv_iconst (v := 0) hx hb d_Mo_copy_0 (by decide) ?_
  refine lv_istore_n (lv' := [(3, .int (0 : Int32)), (0, .ref (a_r 0)), (1, .ref (a_q 0)), (2, .ref (a_w 0))]) hx hb d_Mo_copy_1 rfl hl (by decide) rfl (fun ls hl => ?_)
  refine cast (hG _ _ _ _ _ _ _) (lp_go2 h (fun zz : Int32 × (Nat → Int32) => ∀ (H : Heap) (locs : List Loc) (ls : Array Slot), va_P D cls9 (wd_Mo_copy cA a_r a_q a_w r_manner r_above r_below r_nodes r_arcs r_left r_isBest r_arePlateaus r_all r_a r_b r_ties r_z r_plateaus q_arr zz.2) H → va_D A (wd_Mo_copy cA a_r a_q a_w r_manner r_above r_below r_nodes r_arcs r_left r_isBest r_arePlateaus r_all r_a r_b r_ties r_z r_plateaus q_arr zz.2) → va_S A s.heap H locs → lv_has ls 4 [(3, .int zz.1), (0, .ref (a_r 0)), (1, .ref (a_q 0)), (2, .ref (a_w 0))] → G H locs 0 0 ls 22 []) ?_ (fun zz : Int32 × (Nat → Int32) => ∀ (H : Heap) (locs : List Loc) (ls : Array Slot), va_P D cls9 (wd_Mo_copy cA a_r a_q a_w r_manner r_above r_below r_nodes r_arcs r_left r_isBest r_arePlateaus r_all r_a r_b r_ties r_z r_plateaus q_arr zz.2) H → va_D A (wd_Mo_copy cA a_r a_q a_w r_manner r_above r_below r_nodes r_arcs r_left r_isBest r_arePlateaus r_all r_a r_b r_ties r_z r_plateaus q_arr zz.2) → va_S A s.heap H locs → lv_has ls 4 [(3, .int zz.1), (0, .ref (a_r 0)), (1, .ref (a_q 0)), (2, .ref (a_w 0))] → G H locs 0 0 ls 2 []) ?_ _ _ ls hP hD hS (lv_sub hl [0, 1, 2, 3] rfl))
  · intro zz h H locs ls hP hD hS hl
    obtain ⟨x3_2e, w_arr_2e⟩ := zz
    have hP : va_P D cls9 (wd_Mo_copy cA a_r a_q a_w r_manner r_above r_below r_nodes r_arcs r_left r_isBest r_arePlateaus r_all r_a r_b r_ties r_z r_plateaus q_arr w_arr_2e) H := hP
    have hD : va_D A (wd_Mo_copy cA a_r a_q a_w r_manner r_above r_below r_nodes r_arcs r_left r_isBest r_arePlateaus r_all r_a r_b r_ties r_z r_plateaus q_arr w_arr_2e) := hD
    have hl : lv_has ls 4 [(3, .int x3_2e), (0, .ref (a_r 0)), (1, .ref (a_q 0)), (2, .ref (a_w 0))] := hl
    refine cast (hG _ _ _ _ _ _ _).symm ?_
    exact W.vret hx hb hr (fun t ht hW => ⟨⟨w_arr_2e, rfl, Option.some.inj h, by rw [ht]; exact hP, va_K.moved hW.alike hK, hD⟩, hS.F ht⟩) hS.2.2 d_Mo_copy_22
  · intro back exit zz hB_2 hE_2 h H locs ls hP hD hS hl
    obtain ⟨x3_2, w_arr_2⟩ := zz
    have hP : va_P D cls9 (wd_Mo_copy cA a_r a_q a_w r_manner r_above r_below r_nodes r_arcs r_left r_isBest r_arePlateaus r_all r_a r_b r_ties r_z r_plateaus q_arr w_arr_2) H := hP
    have hD : va_D A (wd_Mo_copy cA a_r a_q a_w r_manner r_above r_below r_nodes r_arcs r_left r_isBest r_arePlateaus r_all r_a r_b r_ties r_z r_plateaus q_arr w_arr_2) := hD
    have hl : lv_has ls 4 [(3, .int x3_2), (0, .ref (a_r 0)), (1, .ref (a_q 0)), (2, .ref (a_w 0))] := hl
    refine cast (hG _ _ _ _ _ _ _).symm ?_
    refine lv_iload_n hx hb d_Mo_copy_2 rfl (lv_at hl 0 rfl) ?_
    refine lv_aload_n hx hb d_Mo_copy_3 rfl (lv_at hl 1 rfl) ?_
    refine va_get (ci := 8) (v := .int r_nodes) (C := R_Mo) (T := F_Mo) (N := 36) hx hb hal in_Mo hown hK hP 0 rfl rfl 3 (by decide) (hal _ kw_640) (fun _ h9 => h9) rfl d_Mo_copy_4 ?_
    refine lv_icmp_ge (tgt := 22) hx hb d_Mo_copy_7 (by decide) (fun c_1 => ?_) (fun c_1 => ?_)
    · have h := ifp (c_1) h
      exact cast (hG _ _ _ _ _ _ _) (hE_2 (x3_2, w_arr_2) h _ _ _ hP hD hS (lv_sub hl [0, 1, 2, 3] rfl))
    · have h := ifn (c_1) h
      refine lv_aload_n hx hb d_Mo_copy_10 rfl (lv_at hl 3 rfl) ?_
      refine lv_iload_n hx hb d_Mo_copy_11 rfl (lv_at hl 0 rfl) ?_
      refine lv_aload_n hx hb d_Mo_copy_12 rfl (lv_at hl 2 rfl) ?_
      refine lv_iload_n hx hb d_Mo_copy_13 rfl (lv_at hl 0 rfl) ?_
      obtain ⟨g_2, h⟩ := gd h
      refine va_iald hx hb hK hP 1 0 rfl rfl (inb_in g_2) d_Mo_copy_14 ?_
      refine va_iast hx hb hK hP hD hS 2 0 rfl rfl (inb_in g_2) d_Mo_copy_15 (fun H locs hP hD hS => ?_)
      have hP : va_P D cls9 (wd_Mo_copy cA a_r a_q a_w r_manner r_above r_below r_nodes r_arcs r_left r_isBest r_arePlateaus r_all r_a r_b r_ties r_z r_plateaus q_arr (upd w_arr_2 x3_2.toNatClampNeg (q_arr x3_2.toNatClampNeg))) H := hP
      have hD : va_D A (wd_Mo_copy cA a_r a_q a_w r_manner r_above r_below r_nodes r_arcs r_left r_isBest r_arePlateaus r_all r_a r_b r_ties r_z r_plateaus q_arr (upd w_arr_2 x3_2.toNatClampNeg (q_arr x3_2.toNatClampNeg))) := hD
      refine lv_iinc (v := (x3_2 + 1)) (lv' := [(3, .int (x3_2 + 1)), (0, .ref (a_r 0)), (1, .ref (a_q 0)), (2, .ref (a_w 0))]) hx hb d_Mo_copy_16 hl (k := 0) rfl rfl (by decide) rfl (fun ls hl => ?_)
      refine lv_goto (tgt := 2) hx hb d_Mo_copy_19 (by decide) ?_
      exact cast (hG _ _ _ _ _ _ _) (hB_2 ((x3_2 + 1), (upd w_arr_2 x3_2.toNatClampNeg (q_arr x3_2.toNatClampNeg))) h _ _ _ hP hD hS (lv_sub hl [0, 1, 2, 3] rfl))
def wd_Mo_free (cA : Nat → ClassId) (a_r a_q : Nat → Nat) (r_manner : Int32) (r_above : Int32) (r_below : Int32) (r_nodes : Int32) (r_arcs : Int32) (r_left : Int32) (r_isBest : Int32) (r_arePlateaus : Int32) (r_all : Int64) (r_a : Int64) (r_b : Int64) (r_ties : Int32) (r_z : Int32) (r_plateaus : Int32) (q_arr : Nat → Int32) : va_W := [(a_r 0, .inr (8, [.int r_manner, .int r_above, .int r_below, .int r_nodes, .int r_arcs, .int r_left, .ref (a_r 1), .ref (a_r 2), .ref (a_r 3), .ref (a_r 4), .ref (a_r 5), .int r_isBest, .int r_arePlateaus, .ref (a_r 6), .ref (a_r 7), .ref (a_r 8), .long r_all, .ref (a_r 9), .ref (a_r 10), .long r_a, .long r_b, .ref (a_r 11), .ref (a_r 12), .ref (a_r 13), .ref (a_r 14), .ref (a_r 15), .int r_ties, .ref (a_r 16), .ref (a_r 17), .ref (a_r 18), .int r_z, .int r_plateaus, .ref (a_r 19), .ref (a_r 20), .ref (a_r 21), .ref (a_r 22)])), (a_q 0, .inl (cA 0, 9, .inl q_arr))]
noncomputable def s_Mo_free_13 (x2 : Int32) (q_arr : Nat → Int32) (r_nodes : Int32) (zz : Int32 × Int32) (back exit : (Int32 × Int32) → Option Int32) : Option Int32 :=
  (if r_nodes ≤ zz.2 then (exit (zz.1, zz.2)) else (jn (fun z34 : Unit => (back ((1 : Int32), (zz.2 + 1)))) (fun j34 => (if zz.1 = 0 then (if inb zz.2 9 then (if (q_arr zz.2.toNatClampNeg) = x2 then (j34 ()) else (back ((0 : Int32), (zz.2 + 1)))) else none) else (j34 ())))))
noncomputable def s_Mo_free_4 (q_arr : Nat → Int32) (r_nodes : Int32) (zz : Int32 × Int32) (back exit : (Int32 × Int32) → Option Int32) : Option Int32 :=
  (if zz.2 = 0 then (exit (zz.1, zz.2)) else (loopC (s_Mo_free_13 zz.1 q_arr r_nodes) (fun z13 : Int32 × Int32 => (if z13.1 = 0 then (back ((zz.1 + (0 : Int32)), z13.1)) else (back ((zz.1 + (1 : Int32)), z13.1)))) FU ((0 : Int32), (0 : Int32))))
noncomputable def m_Mo_free (r_nodes : Int32) (q_arr : Nat → Int32) : Option Int32 :=
  (loopC (s_Mo_free_4 q_arr r_nodes) (fun z4 : Int32 × Int32 => some z4.1) FU ((0 : Int32), (1 : Int32)))
set_option maxHeartbeats 4000000 in
set_option maxRecDepth 100000 in
theorem c_Mo_free (l : Launch) (D : va_G) (cA : Nat → ClassId) (a_r a_q : Nat → Nat) (sz : Nat) (r_manner : Int32) (r_above : Int32) (r_below : Int32) (r_nodes : Int32) (r_arcs : Int32) (r_left : Int32) (r_isBest : Int32) (r_arePlateaus : Int32) (r_all : Int64) (r_a : Int64) (r_b : Int64) (r_ties : Int32) (r_z : Int32) (r_plateaus : Int32) (q_arr : Nat → Int32)  (out : Int32) (h : m_Mo_free r_nodes q_arr = some out) : Met l y_Mo_free w_Mo_free ({ frames := 0, cells := 0, slots := 0, locals := 0 }) (va_Pc [.ref (a_r 0), .ref (a_q 0)] (fun U => U.heap.size = sz ∧ va_P D cls9 (wd_Mo_free cA a_r a_q r_manner r_above r_below r_nodes r_arcs r_left r_isBest r_arePlateaus r_all r_a r_b r_ties r_z r_plateaus q_arr) U.heap ∧ va_K D cls9 (tys5 cA) U ∧ va_D (fun _ => True) (wd_Mo_free cA a_r a_q r_manner r_above r_below r_nodes r_arcs r_left r_isBest r_arePlateaus r_all r_a r_b r_ties r_z r_plateaus q_arr))) (va_Qi (fun (rr : Int32) (uu : Unit) => rr = out) (fun (uu : Unit) (t : State) => va_P D cls9 (wd_Mo_free cA a_r a_q r_manner r_above r_below r_nodes r_arcs r_left r_isBest r_arePlateaus r_all r_a r_b r_ties r_z r_plateaus q_arr) t.heap ∧ va_K D cls9 (tys5 cA) t ∧ va_D (va_A (wd_Mo_free cA a_r a_q r_manner r_above r_below r_nodes r_arcs r_left r_isBest r_arePlateaus r_all r_a r_b r_ties r_z r_plateaus q_arr) sz) (wd_Mo_free cA a_r a_q r_manner r_above r_below r_nodes r_arcs r_left r_isBest r_arePlateaus r_all r_a r_b r_ties r_z r_plateaus q_arr)) (va_A (wd_Mo_free cA a_r a_q r_manner r_above r_below r_nodes r_arcs r_left r_isBest r_arePlateaus r_all r_a r_b r_ties r_z r_plateaus q_arr) sz)) 0 0 (va_A (wd_Mo_free cA a_r a_q r_manner r_above r_below r_nodes r_arcs r_left r_isBest r_arePlateaus r_all r_a r_b r_ties r_z r_plateaus q_arr) sz) := by
  refine Met.ofW (cc := b_Mo_free) (maxL := 5) (ret := (Option.some Jvm.ClassFile.FieldType.int)) (by decide) rfl ?_
  intro p e s m args below meth c s₁ B hml hv
  obtain ⟨rfl, hsz, hP, hK, hD0⟩ := hv
  have hx := B.exec
  have hb := B.bytes
  have hr := B.returns
  have hts := atoms_spec (ws := w_Mo_free) B.pre
  have hal : ∀ w ∈ ALLW, w.before _ s = true := fun w hw => hts w (List.mem_cons_of_mem _ hw)
  have hown : s.vm.findClass R_Mo = some m.cls := findClass_of_methodNamed B.named
  have hlocks := B.notSynchronized
  subst hsz
  have hD := hD0.self (sz := s.heap.size)
  generalize hAe : va_A (wd_Mo_free cA a_r a_q r_manner r_above r_below r_nodes r_arcs r_left r_isBest r_arePlateaus r_all r_a r_b r_ties r_z r_plateaus q_arr) s.heap.size = A at hD ⊢
  have hA : ∀ q : Nat, s.heap.size ≤ q → A q := fun q h => by rw [← hAe]; exact Or.inr h
  have hS : va_S A s.heap s.heap [] := va_S.rf
  have hl := lv_entry ([.ref (a_r 0), .ref (a_q 0)]) (n := 5) (Nat.le_of_ble_eq_true rfl)
  rw [lg_entry_eq]
  generalize (lg_sl ([.ref (a_r 0), .ref (a_q 0)]) ++ List.replicate (5 - (lg_sl ([.ref (a_r 0), .ref (a_q 0)])).length) Slot.unset).toArray = ls at hl ⊢
  have hl : lv_has ls 5 [(0, .ref (a_r 0)), (1, .ref (a_q 0))] := hl
  refine wg (fun G hG => ?_)
  refine cast (hG _ _ _ _ _ _ _).symm ?_
  obtain ⟨H, locs, hHl, hS⟩ : ∃ (H : Heap) (locs : List Loc), (H = s.heap ∧ locs = []) ∧ va_S A s.heap H locs := ⟨s.heap, [], ⟨rfl, rfl⟩, hS⟩
  have hP : va_P D cls9 (wd_Mo_free cA a_r a_q r_manner r_above r_below r_nodes r_arcs r_left r_isBest r_arePlateaus r_all r_a r_b r_ties r_z r_plateaus q_arr) H := by rw [hHl.1]; exact hP
  rw [← hHl.1, ← hHl.2]
  clear hHl
  refine lv_iconst (v := 0) hx hb d_Mo_free_0 (by decide) ?_
  refine lv_istore_n (lv' := [(2, .int (0 : Int32)), (0, .ref (a_r 0)), (1, .ref (a_q 0))]) hx hb d_Mo_free_1 rfl hl (by decide) rfl (fun ls hl => ?_)
  refine lv_iconst (v := 1) hx hb d_Mo_free_2 (by decide) ?_
  refine lv_istore_n (lv' := [(3, .int (1 : Int32)), (2, .int (0 : Int32)), (0, .ref (a_r 0)), (1, .ref (a_q 0))]) hx hb d_Mo_free_3 rfl hl (by decide) rfl (fun ls hl => ?_)
  refine cast (hG _ _ _ _ _ _ _) (lp_go2 h (fun zz : Int32 × Int32 => ∀ (H : Heap) (locs : List Loc) (ls : Array Slot), va_P D cls9 (wd_Mo_free cA a_r a_q r_manner r_above r_below r_nodes r_arcs r_left r_isBest r_arePlateaus r_all r_a r_b r_ties r_z r_plateaus q_arr) H → va_D A (wd_Mo_free cA a_r a_q r_manner r_above r_below r_nodes r_arcs r_left r_isBest r_arePlateaus r_all r_a r_b r_ties r_z r_plateaus q_arr) → va_S A s.heap H locs → lv_has ls 5 [(3, .int zz.2), (2, .int zz.1), (0, .ref (a_r 0)), (1, .ref (a_q 0))] → G H locs 0 0 ls 61 []) ?_ (fun zz : Int32 × Int32 => ∀ (H : Heap) (locs : List Loc) (ls : Array Slot), va_P D cls9 (wd_Mo_free cA a_r a_q r_manner r_above r_below r_nodes r_arcs r_left r_isBest r_arePlateaus r_all r_a r_b r_ties r_z r_plateaus q_arr) H → va_D A (wd_Mo_free cA a_r a_q r_manner r_above r_below r_nodes r_arcs r_left r_isBest r_arePlateaus r_all r_a r_b r_ties r_z r_plateaus q_arr) → va_S A s.heap H locs → lv_has ls 5 [(3, .int zz.2), (2, .int zz.1), (0, .ref (a_r 0)), (1, .ref (a_q 0))] → G H locs 0 0 ls 4 []) ?_ _ _ ls hP hD hS (lv_sub hl [0, 1, 2, 3] rfl))
  · intro zz h H locs ls hP hD hS hl
    obtain ⟨x2_4e, x3_4e⟩ := zz
    have hP : va_P D cls9 (wd_Mo_free cA a_r a_q r_manner r_above r_below r_nodes r_arcs r_left r_isBest r_arePlateaus r_all r_a r_b r_ties r_z r_plateaus q_arr) H := hP
    have hD : va_D A (wd_Mo_free cA a_r a_q r_manner r_above r_below r_nodes r_arcs r_left r_isBest r_arePlateaus r_all r_a r_b r_ties r_z r_plateaus q_arr) := hD
    have hl : lv_has ls 5 [(3, .int x3_4e), (2, .int x2_4e), (0, .ref (a_r 0)), (1, .ref (a_q 0))] := hl
    refine cast (hG _ _ _ _ _ _ _).symm ?_
    refine lv_iload_n hx hb d_Mo_free_61 rfl (lv_at hl 1 rfl) ?_
    exact W.iret (v := x2_4e) hx hb hr (fun t ht hW => ⟨⟨x2_4e, (), rfl, Option.some.inj h, by rw [ht]; exact hP, va_K.moved hW.alike hK, hD⟩, hS.F ht⟩) hS.2.2 d_Mo_free_62
  · intro back exit zz hB_4 hE_4 h H locs ls hP hD hS hl
    obtain ⟨x2_4, x3_4⟩ := zz
    have hP : va_P D cls9 (wd_Mo_free cA a_r a_q r_manner r_above r_below r_nodes r_arcs r_left r_isBest r_arePlateaus r_all r_a r_b r_ties r_z r_plateaus q_arr) H := hP
    have hD : va_D A (wd_Mo_free cA a_r a_q r_manner r_above r_below r_nodes r_arcs r_left r_isBest r_arePlateaus r_all r_a r_b r_ties r_z r_plateaus q_arr) := hD
    have hl : lv_has ls 5 [(3, .int x3_4), (2, .int x2_4), (0, .ref (a_r 0)), (1, .ref (a_q 0))] := hl
    refine cast (hG _ _ _ _ _ _ _).symm ?_
    refine lv_iload_n hx hb d_Mo_free_4 rfl (lv_at hl 0 rfl) ?_
    refine lv_if_eq (tgt := 61) hx hb d_Mo_free_5 (by decide) (fun c_1 => ?_) (fun c_1 => ?_)
    · have h := ifp (c_1) h
      exact cast (hG _ _ _ _ _ _ _) (hE_4 (x2_4, x3_4) h _ _ _ hP hD hS (lv_sub hl [0, 1, 2, 3] rfl))
    · have h := ifn (c_1) h
      refine lv_iconst (v := 0) hx hb d_Mo_free_8 (by decide) ?_
      refine lv_istore_n (lv' := [(3, .int (0 : Int32)), (2, .int x2_4), (0, .ref (a_r 0)), (1, .ref (a_q 0))]) hx hb d_Mo_free_9 rfl hl (by decide) rfl (fun ls hl => ?_)
      refine lv_iconst (v := 0) hx hb d_Mo_free_10 (by decide) ?_
      refine lv_istore (lv' := [(4, .int (0 : Int32)), (3, .int (0 : Int32)), (2, .int x2_4), (0, .ref (a_r 0)), (1, .ref (a_q 0))]) hx hb d_Mo_free_11 hl (by decide) rfl (fun ls hl => ?_)
      refine cast (hG _ _ _ _ _ _ _) (lp_go2 h (fun zz : Int32 × Int32 => ∀ (H : Heap) (locs : List Loc) (ls : Array Slot), va_P D cls9 (wd_Mo_free cA a_r a_q r_manner r_above r_below r_nodes r_arcs r_left r_isBest r_arePlateaus r_all r_a r_b r_ties r_z r_plateaus q_arr) H → va_D A (wd_Mo_free cA a_r a_q r_manner r_above r_below r_nodes r_arcs r_left r_isBest r_arePlateaus r_all r_a r_b r_ties r_z r_plateaus q_arr) → va_S A s.heap H locs → lv_has ls 5 [(4, .int zz.2), (3, .int zz.1), (2, .int x2_4), (0, .ref (a_r 0)), (1, .ref (a_q 0))] → G H locs 0 0 ls 46 []) ?_ (fun zz : Int32 × Int32 => ∀ (H : Heap) (locs : List Loc) (ls : Array Slot), va_P D cls9 (wd_Mo_free cA a_r a_q r_manner r_above r_below r_nodes r_arcs r_left r_isBest r_arePlateaus r_all r_a r_b r_ties r_z r_plateaus q_arr) H → va_D A (wd_Mo_free cA a_r a_q r_manner r_above r_below r_nodes r_arcs r_left r_isBest r_arePlateaus r_all r_a r_b r_ties r_z r_plateaus q_arr) → va_S A s.heap H locs → lv_has ls 5 [(4, .int zz.2), (3, .int zz.1), (2, .int x2_4), (0, .ref (a_r 0)), (1, .ref (a_q 0))] → G H locs 0 0 ls 13 []) ?_ _ _ ls hP hD hS (lv_sub hl [0, 1, 2, 3, 4] rfl))
      · intro zz h H locs ls hP hD hS hl
        obtain ⟨x3_13e, x4_13e⟩ := zz
        have hP : va_P D cls9 (wd_Mo_free cA a_r a_q r_manner r_above r_below r_nodes r_arcs r_left r_isBest r_arePlateaus r_all r_a r_b r_ties r_z r_plateaus q_arr) H := hP
        have hD : va_D A (wd_Mo_free cA a_r a_q r_manner r_above r_below r_nodes r_arcs r_left r_isBest r_arePlateaus r_all r_a r_b r_ties r_z r_plateaus q_arr) := hD
        have hl : lv_has ls 5 [(4, .int x4_13e), (3, .int x3_13e), (2, .int x2_4), (0, .ref (a_r 0)), (1, .ref (a_q 0))] := hl
        refine cast (hG _ _ _ _ _ _ _).symm ?_
        refine lv_iload_n hx hb d_Mo_free_46 rfl (lv_at hl 2 rfl) ?_
        refine lv_iload_n hx hb d_Mo_free_47 rfl (lv_at hl 1 rfl) ?_
        refine lv_if_eq (tgt := 55) hx hb d_Mo_free_48 (by decide) (fun c_2 => ?_) (fun c_2 => ?_)
        · have h := ifp (c_2) h
          refine lv_iconst (v := 0) hx hb d_Mo_free_55 (by decide) ?_
          refine lv_iadd hx hb d_Mo_free_56 ?_
          refine lv_istore_n (lv' := [(2, .int (x2_4 + (0 : Int32))), (4, .int x4_13e), (3, .int x3_13e), (0, .ref (a_r 0)), (1, .ref (a_q 0))]) hx hb d_Mo_free_57 rfl hl (by decide) rfl (fun ls hl => ?_)
          refine lv_goto (tgt := 4) hx hb d_Mo_free_58 (by decide) ?_
          exact cast (hG _ _ _ _ _ _ _) (hB_4 ((x2_4 + (0 : Int32)), x3_13e) h _ _ _ hP hD hS (lv_sub hl [2, 0, 3, 4] rfl))
        · have h := ifn (c_2) h
          refine lv_iconst (v := 1) hx hb d_Mo_free_51 (by decide) ?_
          refine lv_goto (tgt := 56) hx hb d_Mo_free_52 (by decide) ?_
          refine lv_iadd hx hb d_Mo_free_56 ?_
          refine lv_istore_n (lv' := [(2, .int (x2_4 + (1 : Int32))), (4, .int x4_13e), (3, .int x3_13e), (0, .ref (a_r 0)), (1, .ref (a_q 0))]) hx hb d_Mo_free_57 rfl hl (by decide) rfl (fun ls hl => ?_)
          refine lv_goto (tgt := 4) hx hb d_Mo_free_58 (by decide) ?_
          exact cast (hG _ _ _ _ _ _ _) (hB_4 ((x2_4 + (1 : Int32)), x3_13e) h _ _ _ hP hD hS (lv_sub hl [2, 0, 3, 4] rfl))
      · intro back exit zz hB_13 hE_13 h H locs ls hP hD hS hl
        obtain ⟨x3_13, x4_13⟩ := zz
        have hP : va_P D cls9 (wd_Mo_free cA a_r a_q r_manner r_above r_below r_nodes r_arcs r_left r_isBest r_arePlateaus r_all r_a r_b r_ties r_z r_plateaus q_arr) H := hP
        have hD : va_D A (wd_Mo_free cA a_r a_q r_manner r_above r_below r_nodes r_arcs r_left r_isBest r_arePlateaus r_all r_a r_b r_ties r_z r_plateaus q_arr) := hD
        have hl : lv_has ls 5 [(4, .int x4_13), (3, .int x3_13), (2, .int x2_4), (0, .ref (a_r 0)), (1, .ref (a_q 0))] := hl
        refine cast (hG _ _ _ _ _ _ _).symm ?_
        refine lv_iload hx hb d_Mo_free_13 (lv_at hl 0 rfl) ?_
        refine lv_aload_n hx hb d_Mo_free_15 rfl (lv_at hl 3 rfl) ?_
        refine va_get (ci := 8) (v := .int r_nodes) (C := R_Mo) (T := F_Mo) (N := 36) hx hb hal in_Mo hown hK hP 0 rfl rfl 3 (by decide) (hal _ kw_640) (fun _ h9 => h9) rfl d_Mo_free_16 ?_
        refine lv_icmp_ge (tgt := 46) hx hb d_Mo_free_19 (by decide) (fun c_3 => ?_) (fun c_3 => ?_)
        · have h := ifp (c_3) h
          exact cast (hG _ _ _ _ _ _ _) (hE_13 (x3_13, x4_13) h _ _ _ hP hD hS (lv_sub hl [0, 1, 2, 3, 4] rfl))
        · have h := ifn (c_3) h
          refine lv_iload_n hx hb d_Mo_free_22 rfl (lv_at hl 1 rfl) ?_
          refine cast (hG _ _ _ _ _ _ _) (jn_go h (fun zz : Unit => ∀ (H : Heap) (locs : List Loc) (ls : Array Slot), va_P D cls9 (wd_Mo_free cA a_r a_q r_manner r_above r_below r_nodes r_arcs r_left r_isBest r_arePlateaus r_all r_a r_b r_ties r_z r_plateaus q_arr) H → va_D A (wd_Mo_free cA a_r a_q r_manner r_above r_below r_nodes r_arcs r_left r_isBest r_arePlateaus r_all r_a r_b r_ties r_z r_plateaus q_arr) → va_S A s.heap H locs → lv_has ls 5 [(4, .int x4_13), (3, .int x3_13), (2, .int x2_4), (0, .ref (a_r 0)), (1, .ref (a_q 0))] → G H locs 0 0 ls 34 []) ?_ ?_)
          · intro zz h H locs ls hP hD hS hl
            have hP : va_P D cls9 (wd_Mo_free cA a_r a_q r_manner r_above r_below r_nodes r_arcs r_left r_isBest r_arePlateaus r_all r_a r_b r_ties r_z r_plateaus q_arr) H := hP
            have hD : va_D A (wd_Mo_free cA a_r a_q r_manner r_above r_below r_nodes r_arcs r_left r_isBest r_arePlateaus r_all r_a r_b r_ties r_z r_plateaus q_arr) := hD
            have hl : lv_has ls 5 [(4, .int x4_13), (3, .int x3_13), (2, .int x2_4), (0, .ref (a_r 0)), (1, .ref (a_q 0))] := hl
            refine cast (hG _ _ _ _ _ _ _).symm ?_
            refine lv_iconst (v := 1) hx hb d_Mo_free_34 (by decide) ?_
            refine lv_goto (tgt := 39) hx hb d_Mo_free_35 (by decide) ?_
            refine lv_istore_n (lv' := [(3, .int (1 : Int32)), (4, .int x4_13), (2, .int x2_4), (0, .ref (a_r 0)), (1, .ref (a_q 0))]) hx hb d_Mo_free_39 rfl hl (by decide) rfl (fun ls hl => ?_)
            refine lv_iinc (v := (x4_13 + 1)) (lv' := [(4, .int (x4_13 + 1)), (3, .int (1 : Int32)), (2, .int x2_4), (0, .ref (a_r 0)), (1, .ref (a_q 0))]) hx hb d_Mo_free_40 hl (k := 1) rfl rfl (by decide) rfl (fun ls hl => ?_)
            refine lv_goto (tgt := 13) hx hb d_Mo_free_43 (by decide) ?_
            exact cast (hG _ _ _ _ _ _ _) (hB_13 ((1 : Int32), (x4_13 + 1)) h _ _ _ hP hD hS (lv_sub hl [0, 1, 2, 3, 4] rfl))
          · intro j34 hJ_34 h
            refine cast (hG _ _ _ _ _ _ _).symm ?_
            refine lv_if_ne (tgt := 34) hx hb d_Mo_free_23 (by decide) (fun c_4 => ?_) (fun c_4 => ?_)
            · have h := ifn (c_4) h
              exact cast (hG _ _ _ _ _ _ _) (hJ_34 () h _ _ _ hP hD hS (lv_sub hl [0, 1, 2, 3, 4] rfl))
            · have h := ifp (c_4) h
              refine lv_aload_n hx hb d_Mo_free_26 rfl (lv_at hl 4 rfl) ?_
              refine lv_iload hx hb d_Mo_free_27 (lv_at hl 0 rfl) ?_
              obtain ⟨g_5, h⟩ := gd h
              refine va_iald hx hb hK hP 1 0 rfl rfl (inb_in g_5) d_Mo_free_29 ?_
              refine lv_iload_n hx hb d_Mo_free_30 rfl (lv_at hl 2 rfl) ?_
              refine lv_icmp_ne (tgt := 38) hx hb d_Mo_free_31 (by decide) (fun c_6 => ?_) (fun c_6 => ?_)
              · have h := ifn (c_6) h
                refine lv_iconst (v := 0) hx hb d_Mo_free_38 (by decide) ?_
                refine lv_istore_n (lv' := [(3, .int (0 : Int32)), (4, .int x4_13), (2, .int x2_4), (0, .ref (a_r 0)), (1, .ref (a_q 0))]) hx hb d_Mo_free_39 rfl hl (by decide) rfl (fun ls hl => ?_)
                refine lv_iinc (v := (x4_13 + 1)) (lv' := [(4, .int (x4_13 + 1)), (3, .int (0 : Int32)), (2, .int x2_4), (0, .ref (a_r 0)), (1, .ref (a_q 0))]) hx hb d_Mo_free_40 hl (k := 1) rfl rfl (by decide) rfl (fun ls hl => ?_)
                refine lv_goto (tgt := 13) hx hb d_Mo_free_43 (by decide) ?_
                exact cast (hG _ _ _ _ _ _ _) (hB_13 ((0 : Int32), (x4_13 + 1)) h _ _ _ hP hD hS (lv_sub hl [0, 1, 2, 3, 4] rfl))
              · have h := ifp (c_6) h
                exact cast (hG _ _ _ _ _ _ _) (hJ_34 () h _ _ _ hP hD hS (lv_sub hl [0, 1, 2, 3, 4] rfl))
def wd_Mo_moveIn (cA : Nat → ClassId) (a_r a_q : Nat → Nat) (r_manner : Int32) (r_above : Int32) (r_below : Int32) (r_nodes : Int32) (r_arcs : Int32) (r_left : Int32) (r_isBest : Int32) (r_arePlateaus : Int32) (r_all : Int64) (r_a : Int64) (r_b : Int64) (r_ties : Int32) (r_z : Int32) (r_plateaus : Int32) (r_names : Nat → Int32) (q_arr : Nat → Int32) : va_W := [(a_r 0, .inr (8, [.int r_manner, .int r_above, .int r_below, .int r_nodes, .int r_arcs, .int r_left, .ref (a_r 1), .ref (a_r 2), .ref (a_r 3), .ref (a_r 4), .ref (a_r 5), .int r_isBest, .int r_arePlateaus, .ref (a_r 6), .ref (a_r 7), .ref (a_r 8), .long r_all, .ref (a_r 9), .ref (a_r 10), .long r_a, .long r_b, .ref (a_r 11), .ref (a_r 12), .ref (a_r 13), .ref (a_r 14), .ref (a_r 15), .int r_ties, .ref (a_r 16), .ref (a_r 17), .ref (a_r 18), .int r_z, .int r_plateaus, .ref (a_r 19), .ref (a_r 20), .ref (a_r 21), .ref (a_r 22)])), (a_r 11, .inl (cA 0, 9, .inl r_names)), (a_q 0, .inl (cA 0, 9, .inl q_arr))]
noncomputable def s_Mo_moveIn_11 (x2 : Int32) (q_arr : Nat → Int32) (r_nodes : Int32) (zz : Int32 × Int32) (back exit : (Int32 × Int32) → Option ((Nat → Int32) × (Nat → Int32))) : Option ((Nat → Int32) × (Nat → Int32)) :=
  (if r_nodes ≤ zz.2 then (exit (zz.1, zz.2)) else (if zz.1 = 0 then (back ((0 : Int32), (zz.2 + 1))) else (jn (fun z41 : Unit => (back ((1 : Int32), (zz.2 + 1)))) (fun j41 => (if zz.2 = x2 then (j41 ()) else (if inb zz.2 9 then (if inb x2 9 then (if (q_arr zz.2.toNatClampNeg) = (q_arr x2.toNatClampNeg) then (back ((0 : Int32), (zz.2 + 1))) else (j41 ())) else none) else none))))))
noncomputable def m_Mo_moveIn (r_nodes : Int32) (r_names : Nat → Int32) (q_arr : Nat → Int32) (v2 : Int32) (v3 : Int32) : Option ((Nat → Int32) × (Nat → Int32)) :=
  (jn (fun z82 : (Nat → Int32) => ((m_Mo_number r_nodes r_names z82).bind (fun r84 : Int32 × (Nat → Int32) × (Nat → Int32) => some (r84.2.1, r84.2.2)))) (fun j82 => (if v2 = v3 then (loopC (s_Mo_moveIn_11 v2 q_arr r_nodes) (fun z11 : Int32 × Int32 => (jn (fun z72 : Int32 => (if inb v2 9 then (j82 (upd q_arr v2.toNatClampNeg z72)) else none)) (fun j72 => (if z11.1 = 0 then ((m_Mo_free r_nodes q_arr).bind (fun r69 : Int32 => (j72 r69))) else (if inb v2 9 then (j72 (q_arr v2.toNatClampNeg)) else none))))) FU ((1 : Int32), (0 : Int32))) else (if inb v3 9 then (if inb v2 9 then (j82 (upd q_arr v2.toNatClampNeg (q_arr v3.toNatClampNeg))) else none) else none))))
set_option maxHeartbeats 4000000 in
set_option maxRecDepth 100000 in
theorem c_Mo_moveIn (l : Launch) (D : va_G) (cA : Nat → ClassId) (a_r a_q : Nat → Nat) (sz : Nat) (r_manner : Int32) (r_above : Int32) (r_below : Int32) (r_nodes : Int32) (r_arcs : Int32) (r_left : Int32) (r_isBest : Int32) (r_arePlateaus : Int32) (r_all : Int64) (r_a : Int64) (r_b : Int64) (r_ties : Int32) (r_z : Int32) (r_plateaus : Int32) (r_names : Nat → Int32) (q_arr : Nat → Int32) (v2 : Int32) (v3 : Int32) (out : (Nat → Int32) × (Nat → Int32)) (h : m_Mo_moveIn r_nodes r_names q_arr v2 v3 = some out) : Met l y_Mo_moveIn w_Mo_moveIn ({ frames := 1, cells := 0, slots := 0, locals := 24 }) (va_Pc [.ref (a_r 0), .ref (a_q 0), .int v2, .int v3] (fun U => U.heap.size = sz ∧ va_P D cls9 (wd_Mo_moveIn cA a_r a_q r_manner r_above r_below r_nodes r_arcs r_left r_isBest r_arePlateaus r_all r_a r_b r_ties r_z r_plateaus r_names q_arr) U.heap ∧ va_K D cls9 (tys5 cA) U ∧ va_D (fun _ => True) (wd_Mo_moveIn cA a_r a_q r_manner r_above r_below r_nodes r_arcs r_left r_isBest r_arePlateaus r_all r_a r_b r_ties r_z r_plateaus r_names q_arr))) (va_Qv (fun uu : (Nat → Int32) × (Nat → Int32) => uu = out) (fun (uu : (Nat → Int32) × (Nat → Int32)) (t : State) => va_P D cls9 (wd_Mo_moveIn cA a_r a_q r_manner r_above r_below r_nodes r_arcs r_left r_isBest r_arePlateaus r_all r_a r_b r_ties r_z r_plateaus uu.1 uu.2) t.heap ∧ va_K D cls9 (tys5 cA) t ∧ va_D (va_A (wd_Mo_moveIn cA a_r a_q r_manner r_above r_below r_nodes r_arcs r_left r_isBest r_arePlateaus r_all r_a r_b r_ties r_z r_plateaus r_names q_arr) sz) (wd_Mo_moveIn cA a_r a_q r_manner r_above r_below r_nodes r_arcs r_left r_isBest r_arePlateaus r_all r_a r_b r_ties r_z r_plateaus uu.1 uu.2)) (va_A (wd_Mo_moveIn cA a_r a_q r_manner r_above r_below r_nodes r_arcs r_left r_isBest r_arePlateaus r_all r_a r_b r_ties r_z r_plateaus r_names q_arr) sz)) 0 0 (va_A (wd_Mo_moveIn cA a_r a_q r_manner r_above r_below r_nodes r_arcs r_left r_isBest r_arePlateaus r_all r_a r_b r_ties r_z r_plateaus r_names q_arr) sz) := by
  refine Met.ofW (cc := b_Mo_moveIn) (maxL := 6) (ret := (Option.none : Option Jvm.ClassFile.FieldType)) (by decide) rfl ?_
  intro p e s m args below meth c s₁ B hml hv
  obtain ⟨rfl, hsz, hP, hK, hD0⟩ := hv
  have hx := B.exec
  have hb := B.bytes
  have hr := B.returns
  have hts := atoms_spec (ws := w_Mo_moveIn) B.pre
  have hal : ∀ w ∈ ALLW, w.before _ s = true := fun w hw => hts w (List.mem_cons_of_mem _ hw)
  have hown : s.vm.findClass R_Mo = some m.cls := findClass_of_methodNamed B.named
  have hlocks := B.notSynchronized
  subst hsz
  have hD := hD0.self (sz := s.heap.size)
  generalize hAe : va_A (wd_Mo_moveIn cA a_r a_q r_manner r_above r_below r_nodes r_arcs r_left r_isBest r_arePlateaus r_all r_a r_b r_ties r_z r_plateaus r_names q_arr) s.heap.size = A at hD ⊢
  have hA : ∀ q : Nat, s.heap.size ≤ q → A q := fun q h => by rw [← hAe]; exact Or.inr h
  have hS : va_S A s.heap s.heap [] := va_S.rf
  have hl := lv_entry ([.ref (a_r 0), .ref (a_q 0), .int v2, .int v3]) (n := 6) (Nat.le_of_ble_eq_true rfl)
  rw [lg_entry_eq]
  generalize (lg_sl ([.ref (a_r 0), .ref (a_q 0), .int v2, .int v3]) ++ List.replicate (6 - (lg_sl ([.ref (a_r 0), .ref (a_q 0), .int v2, .int v3])).length) Slot.unset).toArray = ls at hl ⊢
  have hl : lv_has ls 6 [(0, .ref (a_r 0)), (1, .ref (a_q 0)), (2, .int v2), (3, .int v3)] := hl
  refine wg (fun G hG => ?_)
  refine cast (hG _ _ _ _ _ _ _).symm ?_
  obtain ⟨H, locs, hHl, hS⟩ : ∃ (H : Heap) (locs : List Loc), (H = s.heap ∧ locs = []) ∧ va_S A s.heap H locs := ⟨s.heap, [], ⟨rfl, rfl⟩, hS⟩
  have hP : va_P D cls9 (wd_Mo_moveIn cA a_r a_q r_manner r_above r_below r_nodes r_arcs r_left r_isBest r_arePlateaus r_all r_a r_b r_ties r_z r_plateaus r_names q_arr) H := by rw [hHl.1]; exact hP
  rw [← hHl.1, ← hHl.2]
  clear hHl
  refine lv_iload_n hx hb d_Mo_moveIn_0 rfl (lv_at hl 2 rfl) ?_
  refine lv_iload_n hx hb d_Mo_moveIn_1 rfl (lv_at hl 3 rfl) ?_
  refine cast (hG _ _ _ _ _ _ _) (jn_go h (fun zz : (Nat → Int32) => ∀ (H : Heap) (locs : List Loc) (ls : Array Slot), va_P D cls9 (wd_Mo_moveIn cA a_r a_q r_manner r_above r_below r_nodes r_arcs r_left r_isBest r_arePlateaus r_all r_a r_b r_ties r_z r_plateaus r_names zz) H → va_D A (wd_Mo_moveIn cA a_r a_q r_manner r_above r_below r_nodes r_arcs r_left r_isBest r_arePlateaus r_all r_a r_b r_ties r_z r_plateaus r_names zz) → va_S A s.heap H locs → lv_has ls 6 [(0, .ref (a_r 0)), (1, .ref (a_q 0)), (2, .int v2), (3, .int v3)] → G H locs 0 0 ls 82 []) ?_ ?_)
  · intro zz h H locs ls hP hD hS hl
    obtain ⟨q_arr_82j, rfl⟩ : ∃ q, q = zz := ⟨_, rfl⟩
    have hP : va_P D cls9 (wd_Mo_moveIn cA a_r a_q r_manner r_above r_below r_nodes r_arcs r_left r_isBest r_arePlateaus r_all r_a r_b r_ties r_z r_plateaus r_names q_arr_82j) H := hP
    have hD : va_D A (wd_Mo_moveIn cA a_r a_q r_manner r_above r_below r_nodes r_arcs r_left r_isBest r_arePlateaus r_all r_a r_b r_ties r_z r_plateaus r_names q_arr_82j) := hD
    have hl : lv_has ls 6 [(0, .ref (a_r 0)), (1, .ref (a_q 0)), (2, .int v2), (3, .int v3)] := hl
    refine cast (hG _ _ _ _ _ _ _).symm ?_
    refine lv_aload_n hx hb d_Mo_moveIn_82 rfl (lv_at hl 0 rfl) ?_
    refine lv_aload_n hx hb d_Mo_moveIn_83 rfl (lv_at hl 1 rfl) ?_
    obtain ⟨o_6, hc_5, h⟩ := bd h
    have hPc := hP.sub (ws' := (wd_Mo_number cA a_r a_q r_manner r_above r_below r_nodes r_arcs r_left r_isBest r_arePlateaus r_all r_a r_b r_ties r_z r_plateaus r_names q_arr_82j)) [0, 1, 2] rfl
    have hDc := hD.sub (ws' := (wd_Mo_number cA a_r a_q r_manner r_above r_below r_nodes r_arcs r_left r_isBest r_arePlateaus r_all r_a r_b r_ties r_z r_plateaus r_names q_arr_82j)) [0, 1, 2] (by decide) rfl
    have hFc := va_free (wc := (wd_Mo_number cA a_r a_q r_manner r_above r_below r_nodes r_arcs r_left r_isBest r_arePlateaus r_all r_a r_b r_ties r_z r_plateaus r_names q_arr_82j)) hD hS hA [0, 1, 2] rfl
    refine va_calli (va_runV (C := R_Mo) (As := [.ref (a_q 0)]) (rest := []) ⟨hx, hb, hml, hown, hal⟩ (c_Mo_number l D cA a_r a_q H.size r_manner r_above r_below r_nodes r_arcs r_left r_isBest r_arePlateaus r_all r_a r_b r_ties r_z r_plateaus r_names q_arr_82j o_6 hc_5) (cwV 1 hal (goodV kw_791 kw_793 kw_p29 kw_9 kw_794) rfl rfl rfl (by decide +kernel) ⟨Nat.le_of_ble_eq_true rfl, Nat.le_of_ble_eq_true rfl⟩) ⟨fun a U g mk q => by obtain ⟨q0, q1, qP, qK, qD⟩ := q; exact ⟨q0, q1, qP, va_K.moved (u := U) (U := U.calling g mk a) (Vm.Alike.refl U.vm) qK, qD⟩, va_recv hK hP (ci := 8) (q0 := 0) rfl rfl, fun U hU hW => ⟨rfl, by rw [hU], by rw [hU]; exact hPc, va_K.moved hW.alike hK, hDc.weaken (fun _ _ _ _ => trivial)⟩⟩ rfl rfl hl.1 rfl (lv_room (Nat.le_of_ble_eq_true rfl)) d_Mo_moveIn_84 ⟨Nat.le_of_ble_eq_true rfl, Nat.le_of_ble_eq_true rfl⟩) hS (fun q _ h => hFc q h) hFc (fun r_2 u t H1 locs ht hvm hw hB hz1 hk1 hS => ?_)
    obtain ⟨u_3, u_4⟩ := u
    subst hw
    obtain ⟨hP1, hK1, hD1⟩ := hB
    rw [ht] at hP1
    have hP1 : va_P D cls9 (wd_Mo_number cA a_r a_q r_manner r_above r_below r_nodes r_arcs r_left r_isBest r_arePlateaus r_all r_a r_b r_ties r_z r_plateaus u_3 u_4) H1 := hP1
    obtain ⟨hP, hD⟩ := va_join (wr := ([] : List Nat).filterMap (fun i => (wd_Mo_moveIn cA a_r a_q r_manner r_above r_below r_nodes r_arcs r_left r_isBest r_arePlateaus r_all r_a r_b r_ties r_z r_plateaus r_names q_arr_82j)[i]?)) (w1 := (wd_Mo_number cA a_r a_q r_manner r_above r_below r_nodes r_arcs r_left r_isBest r_arePlateaus r_all r_a r_b r_ties r_z r_plateaus u_3 u_4)) hP hD [0, 1, 2] [] rfl rfl (by decide) (by decide) hk1 hFc hP1 hD1
    generalize H1 = H at hP hS ⊢
    have hP : va_P D cls9 (wd_Mo_moveIn cA a_r a_q r_manner r_above r_below r_nodes r_arcs r_left r_isBest r_arePlateaus r_all r_a r_b r_ties r_z r_plateaus u_3 u_4) H := hP.sub [0, 1, 2] rfl
    have hD : va_D A (wd_Mo_moveIn cA a_r a_q r_manner r_above r_below r_nodes r_arcs r_left r_isBest r_arePlateaus r_all r_a r_b r_ties r_z r_plateaus u_3 u_4) := hD.sub [0, 1, 2] (by decide) rfl
    refine lv_istore (lv' := [(4, .int r_2), (0, .ref (a_r 0)), (1, .ref (a_q 0)), (2, .int v2), (3, .int v3)]) hx hb d_Mo_moveIn_87 hl (by decide) rfl (fun ls hl => ?_)
    exact W.vret hx hb hr (fun t ht hW => ⟨⟨(u_3, u_4), rfl, Option.some.inj h, by rw [ht]; exact hP, va_K.moved hW.alike hK, hD⟩, hS.F ht⟩) hS.2.2 d_Mo_moveIn_89
  · intro j82 hJ_82 h
    refine cast (hG _ _ _ _ _ _ _).symm ?_
    refine lv_icmp_ne (tgt := 76) hx hb d_Mo_moveIn_2 (by decide) (fun c_7 => ?_) (fun c_7 => ?_)
    · have h := ifn (c_7) h
      refine lv_aload_n hx hb d_Mo_moveIn_76 rfl (lv_at hl 1 rfl) ?_
      refine lv_iload_n hx hb d_Mo_moveIn_77 rfl (lv_at hl 2 rfl) ?_
      refine lv_aload_n hx hb d_Mo_moveIn_78 rfl (lv_at hl 1 rfl) ?_
      refine lv_iload_n hx hb d_Mo_moveIn_79 rfl (lv_at hl 3 rfl) ?_
      obtain ⟨g_8, h⟩ := gd h
      refine va_iald hx hb hK hP 2 0 rfl rfl (inb_in g_8) d_Mo_moveIn_80 ?_
      obtain ⟨g_9, h⟩ := gd h
      refine va_iast hx hb hK hP hD hS 2 0 rfl rfl (inb_in g_9) d_Mo_moveIn_81 (fun H locs hP hD hS => ?_)
      have hP : va_P D cls9 (wd_Mo_moveIn cA a_r a_q r_manner r_above r_below r_nodes r_arcs r_left r_isBest r_arePlateaus r_all r_a r_b r_ties r_z r_plateaus r_names (upd q_arr v2.toNatClampNeg (q_arr v3.toNatClampNeg))) H := hP
      have hD : va_D A (wd_Mo_moveIn cA a_r a_q r_manner r_above r_below r_nodes r_arcs r_left r_isBest r_arePlateaus r_all r_a r_b r_ties r_z r_plateaus r_names (upd q_arr v2.toNatClampNeg (q_arr v3.toNatClampNeg))) := hD
      exact cast (hG _ _ _ _ _ _ _) (hJ_82 (upd q_arr v2.toNatClampNeg (q_arr v3.toNatClampNeg)) h _ _ _ hP hD hS (lv_sub hl [0, 1, 2, 3] rfl))
    · have h := ifp (c_7) h
      refine lv_iconst (v := 1) hx hb d_Mo_moveIn_5 (by decide) ?_
      refine lv_istore (lv' := [(4, .int (1 : Int32)), (0, .ref (a_r 0)), (1, .ref (a_q 0)), (2, .int v2), (3, .int v3)]) hx hb d_Mo_moveIn_6 hl (by decide) rfl (fun ls hl => ?_)
      refine lv_iconst (v := 0) hx hb d_Mo_moveIn_8 (by decide) ?_
      refine lv_istore (lv' := [(5, .int (0 : Int32)), (4, .int (1 : Int32)), (0, .ref (a_r 0)), (1, .ref (a_q 0)), (2, .int v2), (3, .int v3)]) hx hb d_Mo_moveIn_9 hl (by decide) rfl (fun ls hl => ?_)
      refine cast (hG _ _ _ _ _ _ _) (lp_go2 h (fun zz : Int32 × Int32 => ∀ (H : Heap) (locs : List Loc) (ls : Array Slot), va_P D cls9 (wd_Mo_moveIn cA a_r a_q r_manner r_above r_below r_nodes r_arcs r_left r_isBest r_arePlateaus r_all r_a r_b r_ties r_z r_plateaus r_names q_arr) H → va_D A (wd_Mo_moveIn cA a_r a_q r_manner r_above r_below r_nodes r_arcs r_left r_isBest r_arePlateaus r_all r_a r_b r_ties r_z r_plateaus r_names q_arr) → va_S A s.heap H locs → lv_has ls 6 [(5, .int zz.2), (4, .int zz.1), (0, .ref (a_r 0)), (1, .ref (a_q 0)), (2, .int v2), (3, .int v3)] → G H locs 0 0 ls 54 []) ?_ (fun zz : Int32 × Int32 => ∀ (H : Heap) (locs : List Loc) (ls : Array Slot), va_P D cls9 (wd_Mo_moveIn cA a_r a_q r_manner r_above r_below r_nodes r_arcs r_left r_isBest r_arePlateaus r_all r_a r_b r_ties r_z r_plateaus r_names q_arr) H → va_D A (wd_Mo_moveIn cA a_r a_q r_manner r_above r_below r_nodes r_arcs r_left r_isBest r_arePlateaus r_all r_a r_b r_ties r_z r_plateaus r_names q_arr) → va_S A s.heap H locs → lv_has ls 6 [(5, .int zz.2), (4, .int zz.1), (0, .ref (a_r 0)), (1, .ref (a_q 0)), (2, .int v2), (3, .int v3)] → G H locs 0 0 ls 11 []) ?_ _ _ ls hP hD hS (lv_sub hl [0, 1, 2, 3, 4, 5] rfl))
      · intro zz h H locs ls hP hD hS hl
        obtain ⟨x4_11e, x5_11e⟩ := zz
        have hP : va_P D cls9 (wd_Mo_moveIn cA a_r a_q r_manner r_above r_below r_nodes r_arcs r_left r_isBest r_arePlateaus r_all r_a r_b r_ties r_z r_plateaus r_names q_arr) H := hP
        have hD : va_D A (wd_Mo_moveIn cA a_r a_q r_manner r_above r_below r_nodes r_arcs r_left r_isBest r_arePlateaus r_all r_a r_b r_ties r_z r_plateaus r_names q_arr) := hD
        have hl : lv_has ls 6 [(5, .int x5_11e), (4, .int x4_11e), (0, .ref (a_r 0)), (1, .ref (a_q 0)), (2, .int v2), (3, .int v3)] := hl
        refine cast (hG _ _ _ _ _ _ _).symm ?_
        refine lv_aload_n hx hb d_Mo_moveIn_54 rfl (lv_at hl 3 rfl) ?_
        refine lv_iload_n hx hb d_Mo_moveIn_55 rfl (lv_at hl 4 rfl) ?_
        refine lv_iload hx hb d_Mo_moveIn_56 (lv_at hl 1 rfl) ?_
        refine cast (hG _ _ _ _ _ _ _) (jn_go h (fun zz : Int32 => ∀ (H : Heap) (locs : List Loc) (ls : Array Slot), va_P D cls9 (wd_Mo_moveIn cA a_r a_q r_manner r_above r_below r_nodes r_arcs r_left r_isBest r_arePlateaus r_all r_a r_b r_ties r_z r_plateaus r_names q_arr) H → va_D A (wd_Mo_moveIn cA a_r a_q r_manner r_above r_below r_nodes r_arcs r_left r_isBest r_arePlateaus r_all r_a r_b r_ties r_z r_plateaus r_names q_arr) → va_S A s.heap H locs → lv_has ls 6 [(5, .int x5_11e), (4, .int x4_11e), (0, .ref (a_r 0)), (1, .ref (a_q 0)), (2, .int v2), (3, .int v3)] → G H locs 0 0 ls 72 [.int zz, .int v2, .ref (a_q 0)]) ?_ ?_)
        · intro zz h H locs ls hP hD hS hl
          obtain ⟨y0_72j, rfl⟩ : ∃ q, q = zz := ⟨_, rfl⟩
          have hP : va_P D cls9 (wd_Mo_moveIn cA a_r a_q r_manner r_above r_below r_nodes r_arcs r_left r_isBest r_arePlateaus r_all r_a r_b r_ties r_z r_plateaus r_names q_arr) H := hP
          have hD : va_D A (wd_Mo_moveIn cA a_r a_q r_manner r_above r_below r_nodes r_arcs r_left r_isBest r_arePlateaus r_all r_a r_b r_ties r_z r_plateaus r_names q_arr) := hD
          have hl : lv_has ls 6 [(5, .int x5_11e), (4, .int x4_11e), (0, .ref (a_r 0)), (1, .ref (a_q 0)), (2, .int v2), (3, .int v3)] := hl
          refine cast (hG _ _ _ _ _ _ _).symm ?_
          obtain ⟨g_10, h⟩ := gd h
          refine va_iast hx hb hK hP hD hS 2 0 rfl rfl (inb_in g_10) d_Mo_moveIn_72 (fun H locs hP hD hS => ?_)
          have hP : va_P D cls9 (wd_Mo_moveIn cA a_r a_q r_manner r_above r_below r_nodes r_arcs r_left r_isBest r_arePlateaus r_all r_a r_b r_ties r_z r_plateaus r_names (upd q_arr v2.toNatClampNeg y0_72j)) H := hP
          have hD : va_D A (wd_Mo_moveIn cA a_r a_q r_manner r_above r_below r_nodes r_arcs r_left r_isBest r_arePlateaus r_all r_a r_b r_ties r_z r_plateaus r_names (upd q_arr v2.toNatClampNeg y0_72j)) := hD
          refine lv_goto (tgt := 82) hx hb d_Mo_moveIn_73 (by decide) ?_
          exact cast (hG _ _ _ _ _ _ _) (hJ_82 (upd q_arr v2.toNatClampNeg y0_72j) h _ _ _ hP hD hS (lv_sub hl [2, 3, 4, 5] rfl))
        · intro j72 hJ_72 h
          refine cast (hG _ _ _ _ _ _ _).symm ?_
          refine lv_if_eq (tgt := 67) hx hb d_Mo_moveIn_58 (by decide) (fun c_11 => ?_) (fun c_11 => ?_)
          · have h := ifp (c_11) h
            refine lv_aload_n hx hb d_Mo_moveIn_67 rfl (lv_at hl 2 rfl) ?_
            refine lv_aload_n hx hb d_Mo_moveIn_68 rfl (lv_at hl 3 rfl) ?_
            obtain ⟨o_15, hc_14, h⟩ := bd h
            have hPc := hP.sub (ws' := (wd_Mo_free cA a_r a_q r_manner r_above r_below r_nodes r_arcs r_left r_isBest r_arePlateaus r_all r_a r_b r_ties r_z r_plateaus q_arr)) [0, 2] rfl
            have hDc := hD.sub (ws' := (wd_Mo_free cA a_r a_q r_manner r_above r_below r_nodes r_arcs r_left r_isBest r_arePlateaus r_all r_a r_b r_ties r_z r_plateaus q_arr)) [0, 2] (by decide) rfl
            have hFc := va_free (wc := (wd_Mo_free cA a_r a_q r_manner r_above r_below r_nodes r_arcs r_left r_isBest r_arePlateaus r_all r_a r_b r_ties r_z r_plateaus q_arr)) hD hS hA [0, 2] rfl
            refine va_calli (va_runV (C := R_Mo) (As := [.ref (a_q 0)]) (rest := [.int v2, .ref (a_q 0)]) ⟨hx, hb, hml, hown, hal⟩ (c_Mo_free l D cA a_r a_q H.size r_manner r_above r_below r_nodes r_arcs r_left r_isBest r_arePlateaus r_all r_a r_b r_ties r_z r_plateaus q_arr o_15 hc_14) (cwV 1 hal (goodV kw_787 kw_789 kw_p28 kw_9 kw_790) rfl rfl rfl (by decide +kernel) ⟨Nat.le_of_ble_eq_true rfl, Nat.le_of_ble_eq_true rfl⟩) ⟨fun a U g mk q => by obtain ⟨q0, q1, qP, qK, qD⟩ := q; exact ⟨q0, q1, qP, va_K.moved (u := U) (U := U.calling g mk a) (Vm.Alike.refl U.vm) qK, qD⟩, va_recv hK hP (ci := 8) (q0 := 0) rfl rfl, fun U hU hW => ⟨rfl, by rw [hU], by rw [hU]; exact hPc, va_K.moved hW.alike hK, hDc.weaken (fun _ _ _ _ => trivial)⟩⟩ rfl rfl hl.1 rfl (lv_room (Nat.le_of_ble_eq_true rfl)) d_Mo_moveIn_69 ⟨Nat.le_of_ble_eq_true rfl, Nat.le_of_ble_eq_true rfl⟩) hS (fun q _ h => hFc q h) hFc (fun r_13 u t H1 locs ht hvm hw hB hz1 hk1 hS => ?_)
            subst hw
            obtain ⟨hP1, hK1, hD1⟩ := hB
            rw [ht] at hP1
            have hP1 : va_P D cls9 (wd_Mo_free cA a_r a_q r_manner r_above r_below r_nodes r_arcs r_left r_isBest r_arePlateaus r_all r_a r_b r_ties r_z r_plateaus q_arr) H1 := hP1
            obtain ⟨hP, hD⟩ := va_join (wr := ([1] : List Nat).filterMap (fun i => (wd_Mo_moveIn cA a_r a_q r_manner r_above r_below r_nodes r_arcs r_left r_isBest r_arePlateaus r_all r_a r_b r_ties r_z r_plateaus r_names q_arr)[i]?)) (w1 := (wd_Mo_free cA a_r a_q r_manner r_above r_below r_nodes r_arcs r_left r_isBest r_arePlateaus r_all r_a r_b r_ties r_z r_plateaus q_arr)) hP hD [0, 2] [1] rfl rfl (by decide) (by decide) hk1 hFc hP1 hD1
            generalize H1 = H at hP hS ⊢
            have hP : va_P D cls9 (wd_Mo_moveIn cA a_r a_q r_manner r_above r_below r_nodes r_arcs r_left r_isBest r_arePlateaus r_all r_a r_b r_ties r_z r_plateaus r_names q_arr) H := hP.sub [1, 0, 2] rfl
            have hD : va_D A (wd_Mo_moveIn cA a_r a_q r_manner r_above r_below r_nodes r_arcs r_left r_isBest r_arePlateaus r_all r_a r_b r_ties r_z r_plateaus r_names q_arr) := hD.sub [1, 0, 2] (by decide) rfl
            exact cast (hG _ _ _ _ _ _ _) (hJ_72 r_13 h _ _ _ hP hD hS (lv_sub hl [0, 1, 2, 3, 4, 5] rfl))
          · have h := ifn (c_11) h
            refine lv_aload_n hx hb d_Mo_moveIn_61 rfl (lv_at hl 3 rfl) ?_
            refine lv_iload_n hx hb d_Mo_moveIn_62 rfl (lv_at hl 4 rfl) ?_
            obtain ⟨g_16, h⟩ := gd h
            refine va_iald hx hb hK hP 2 0 rfl rfl (inb_in g_16) d_Mo_moveIn_63 ?_
            refine lv_goto (tgt := 72) hx hb d_Mo_moveIn_64 (by decide) ?_
            exact cast (hG _ _ _ _ _ _ _) (hJ_72 (q_arr v2.toNatClampNeg) h _ _ _ hP hD hS (lv_sub hl [0, 1, 2, 3, 4, 5] rfl))
      · intro back exit zz hB_11 hE_11 h H locs ls hP hD hS hl
        obtain ⟨x4_11, x5_11⟩ := zz
        have hP : va_P D cls9 (wd_Mo_moveIn cA a_r a_q r_manner r_above r_below r_nodes r_arcs r_left r_isBest r_arePlateaus r_all r_a r_b r_ties r_z r_plateaus r_names q_arr) H := hP
        have hD : va_D A (wd_Mo_moveIn cA a_r a_q r_manner r_above r_below r_nodes r_arcs r_left r_isBest r_arePlateaus r_all r_a r_b r_ties r_z r_plateaus r_names q_arr) := hD
        have hl : lv_has ls 6 [(5, .int x5_11), (4, .int x4_11), (0, .ref (a_r 0)), (1, .ref (a_q 0)), (2, .int v2), (3, .int v3)] := hl
        refine cast (hG _ _ _ _ _ _ _).symm ?_
        refine lv_iload hx hb d_Mo_moveIn_11 (lv_at hl 0 rfl) ?_
        refine lv_aload_n hx hb d_Mo_moveIn_13 rfl (lv_at hl 2 rfl) ?_
        refine va_get (ci := 8) (v := .int r_nodes) (C := R_Mo) (T := F_Mo) (N := 36) hx hb hal in_Mo hown hK hP 0 rfl rfl 3 (by decide) (hal _ kw_640) (fun _ h9 => h9) rfl d_Mo_moveIn_14 ?_
        refine lv_icmp_ge (tgt := 54) hx hb d_Mo_moveIn_17 (by decide) (fun c_17 => ?_) (fun c_17 => ?_)
        · have h := ifp (c_17) h
          exact cast (hG _ _ _ _ _ _ _) (hE_11 (x4_11, x5_11) h _ _ _ hP hD hS (lv_sub hl [0, 1, 2, 3, 4, 5] rfl))
        · have h := ifn (c_17) h
          refine lv_iload hx hb d_Mo_moveIn_20 (lv_at hl 1 rfl) ?_
          refine lv_if_eq (tgt := 45) hx hb d_Mo_moveIn_22 (by decide) (fun c_18 => ?_) (fun c_18 => ?_)
          · have h := ifp (c_18) h
            refine lv_iconst (v := 0) hx hb d_Mo_moveIn_45 (by decide) ?_
            refine lv_istore (lv' := [(4, .int (0 : Int32)), (5, .int x5_11), (0, .ref (a_r 0)), (1, .ref (a_q 0)), (2, .int v2), (3, .int v3)]) hx hb d_Mo_moveIn_46 hl (by decide) rfl (fun ls hl => ?_)
            refine lv_iinc (v := (x5_11 + 1)) (lv' := [(5, .int (x5_11 + 1)), (4, .int (0 : Int32)), (0, .ref (a_r 0)), (1, .ref (a_q 0)), (2, .int v2), (3, .int v3)]) hx hb d_Mo_moveIn_48 hl (k := 1) rfl rfl (by decide) rfl (fun ls hl => ?_)
            refine lv_goto (tgt := 11) hx hb d_Mo_moveIn_51 (by decide) ?_
            exact cast (hG _ _ _ _ _ _ _) (hB_11 ((0 : Int32), (x5_11 + 1)) h _ _ _ hP hD hS (lv_sub hl [0, 1, 2, 3, 4, 5] rfl))
          · have h := ifn (c_18) h
            refine lv_iload hx hb d_Mo_moveIn_25 (lv_at hl 0 rfl) ?_
            refine lv_iload_n hx hb d_Mo_moveIn_27 rfl (lv_at hl 4 rfl) ?_
            refine cast (hG _ _ _ _ _ _ _) (jn_go h (fun zz : Unit => ∀ (H : Heap) (locs : List Loc) (ls : Array Slot), va_P D cls9 (wd_Mo_moveIn cA a_r a_q r_manner r_above r_below r_nodes r_arcs r_left r_isBest r_arePlateaus r_all r_a r_b r_ties r_z r_plateaus r_names q_arr) H → va_D A (wd_Mo_moveIn cA a_r a_q r_manner r_above r_below r_nodes r_arcs r_left r_isBest r_arePlateaus r_all r_a r_b r_ties r_z r_plateaus r_names q_arr) → va_S A s.heap H locs → lv_has ls 6 [(5, .int x5_11), (4, .int x4_11), (0, .ref (a_r 0)), (1, .ref (a_q 0)), (2, .int v2), (3, .int v3)] → G H locs 0 0 ls 41 []) ?_ ?_)
            · intro zz h H locs ls hP hD hS hl
              have hP : va_P D cls9 (wd_Mo_moveIn cA a_r a_q r_manner r_above r_below r_nodes r_arcs r_left r_isBest r_arePlateaus r_all r_a r_b r_ties r_z r_plateaus r_names q_arr) H := hP
              have hD : va_D A (wd_Mo_moveIn cA a_r a_q r_manner r_above r_below r_nodes r_arcs r_left r_isBest r_arePlateaus r_all r_a r_b r_ties r_z r_plateaus r_names q_arr) := hD
              have hl : lv_has ls 6 [(5, .int x5_11), (4, .int x4_11), (0, .ref (a_r 0)), (1, .ref (a_q 0)), (2, .int v2), (3, .int v3)] := hl
              refine cast (hG _ _ _ _ _ _ _).symm ?_
              refine lv_iconst (v := 1) hx hb d_Mo_moveIn_41 (by decide) ?_
              refine lv_goto (tgt := 46) hx hb d_Mo_moveIn_42 (by decide) ?_
              refine lv_istore (lv' := [(4, .int (1 : Int32)), (5, .int x5_11), (0, .ref (a_r 0)), (1, .ref (a_q 0)), (2, .int v2), (3, .int v3)]) hx hb d_Mo_moveIn_46 hl (by decide) rfl (fun ls hl => ?_)
              refine lv_iinc (v := (x5_11 + 1)) (lv' := [(5, .int (x5_11 + 1)), (4, .int (1 : Int32)), (0, .ref (a_r 0)), (1, .ref (a_q 0)), (2, .int v2), (3, .int v3)]) hx hb d_Mo_moveIn_48 hl (k := 1) rfl rfl (by decide) rfl (fun ls hl => ?_)
              refine lv_goto (tgt := 11) hx hb d_Mo_moveIn_51 (by decide) ?_
              exact cast (hG _ _ _ _ _ _ _) (hB_11 ((1 : Int32), (x5_11 + 1)) h _ _ _ hP hD hS (lv_sub hl [0, 1, 2, 3, 4, 5] rfl))
            · intro j41 hJ_41 h
              refine cast (hG _ _ _ _ _ _ _).symm ?_
              refine lv_icmp_eq (tgt := 41) hx hb d_Mo_moveIn_28 (by decide) (fun c_19 => ?_) (fun c_19 => ?_)
              · have h := ifp (c_19) h
                exact cast (hG _ _ _ _ _ _ _) (hJ_41 () h _ _ _ hP hD hS (lv_sub hl [0, 1, 2, 3, 4, 5] rfl))
              · have h := ifn (c_19) h
                refine lv_aload_n hx hb d_Mo_moveIn_31 rfl (lv_at hl 3 rfl) ?_
                refine lv_iload hx hb d_Mo_moveIn_32 (lv_at hl 0 rfl) ?_
                obtain ⟨g_20, h⟩ := gd h
                refine va_iald hx hb hK hP 2 0 rfl rfl (inb_in g_20) d_Mo_moveIn_34 ?_
                refine lv_aload_n hx hb d_Mo_moveIn_35 rfl (lv_at hl 3 rfl) ?_
                refine lv_iload_n hx hb d_Mo_moveIn_36 rfl (lv_at hl 4 rfl) ?_
                obtain ⟨g_21, h⟩ := gd h
                refine va_iald hx hb hK hP 2 0 rfl rfl (inb_in g_21) d_Mo_moveIn_37 ?_
                refine lv_icmp_eq (tgt := 45) hx hb d_Mo_moveIn_38 (by decide) (fun c_22 => ?_) (fun c_22 => ?_)
                · have h := ifp (c_22) h
                  refine lv_iconst (v := 0) hx hb d_Mo_moveIn_45 (by decide) ?_
                  refine lv_istore (lv' := [(4, .int (0 : Int32)), (5, .int x5_11), (0, .ref (a_r 0)), (1, .ref (a_q 0)), (2, .int v2), (3, .int v3)]) hx hb d_Mo_moveIn_46 hl (by decide) rfl (fun ls hl => ?_)
                  refine lv_iinc (v := (x5_11 + 1)) (lv' := [(5, .int (x5_11 + 1)), (4, .int (0 : Int32)), (0, .ref (a_r 0)), (1, .ref (a_q 0)), (2, .int v2), (3, .int v3)]) hx hb d_Mo_moveIn_48 hl (k := 1) rfl rfl (by decide) rfl (fun ls hl => ?_)
                  refine lv_goto (tgt := 11) hx hb d_Mo_moveIn_51 (by decide) ?_
                  exact cast (hG _ _ _ _ _ _ _) (hB_11 ((0 : Int32), (x5_11 + 1)) h _ _ _ hP hD hS (lv_sub hl [0, 1, 2, 3, 4, 5] rfl))
                · have h := ifn (c_22) h
                  exact cast (hG _ _ _ _ _ _ _) (hJ_41 () h _ _ _ hP hD hS (lv_sub hl [0, 1, 2, 3, 4, 5] rfl))
def wd_Mo_mergeIn (cA : Nat → ClassId) (a_r a_q : Nat → Nat) (r_manner : Int32) (r_above : Int32) (r_below : Int32) (r_nodes : Int32) (r_arcs : Int32) (r_left : Int32) (r_isBest : Int32) (r_arePlateaus : Int32) (r_all : Int64) (r_a : Int64) (r_b : Int64) (r_ties : Int32) (r_z : Int32) (r_plateaus : Int32) (r_names : Nat → Int32) (q_arr : Nat → Int32) : va_W := [(a_r 0, .inr (8, [.int r_manner, .int r_above, .int r_below, .int r_nodes, .int r_arcs, .int r_left, .ref (a_r 1), .ref (a_r 2), .ref (a_r 3), .ref (a_r 4), .ref (a_r 5), .int r_isBest, .int r_arePlateaus, .ref (a_r 6), .ref (a_r 7), .ref (a_r 8), .long r_all, .ref (a_r 9), .ref (a_r 10), .long r_a, .long r_b, .ref (a_r 11), .ref (a_r 12), .ref (a_r 13), .ref (a_r 14), .ref (a_r 15), .int r_ties, .ref (a_r 16), .ref (a_r 17), .ref (a_r 18), .int r_z, .int r_plateaus, .ref (a_r 19), .ref (a_r 20), .ref (a_r 21), .ref (a_r 22)])), (a_r 11, .inl (cA 0, 9, .inl r_names)), (a_q 0, .inl (cA 0, 9, .inl q_arr))]
noncomputable def s_Mo_mergeIn_8 (x2 : Int32) (x4 : Int32) (r_nodes : Int32) (zz : Int32 × (Nat → Int32)) (back exit : (Int32 × (Nat → Int32)) → Option ((Nat → Int32) × (Nat → Int32))) : Option ((Nat → Int32) × (Nat → Int32)) :=
  (if r_nodes ≤ zz.1 then (exit (zz.1, zz.2)) else (if inb zz.1 9 then (if (zz.2 zz.1.toNatClampNeg) = x4 then (if inb x2 9 then (back ((zz.1 + 1), (upd zz.2 zz.1.toNatClampNeg (zz.2 x2.toNatClampNeg)))) else none) else (back ((zz.1 + 1), (upd zz.2 zz.1.toNatClampNeg (zz.2 zz.1.toNatClampNeg))))) else none))
noncomputable def m_Mo_mergeIn (r_nodes : Int32) (r_names : Nat → Int32) (q_arr : Nat → Int32) (v2 : Int32) (v3 : Int32) : Option ((Nat → Int32) × (Nat → Int32)) :=
  (if inb v3 9 then (loopC (s_Mo_mergeIn_8 v2 (q_arr v3.toNatClampNeg) r_nodes) (fun z8 : Int32 × (Nat → Int32) => ((m_Mo_number r_nodes r_names z8.2).bind (fun r48 : Int32 × (Nat → Int32) × (Nat → Int32) => some (r48.2.1, r48.2.2)))) FU ((0 : Int32), q_arr)) else none)
set_option maxHeartbeats 4000000 in
set_option maxRecDepth 100000 in
theorem c_Mo_mergeIn (l : Launch) (D : va_G) (cA : Nat → ClassId) (a_r a_q : Nat → Nat) (sz : Nat) (r_manner : Int32) (r_above : Int32) (r_below : Int32) (r_nodes : Int32) (r_arcs : Int32) (r_left : Int32) (r_isBest : Int32) (r_arePlateaus : Int32) (r_all : Int64) (r_a : Int64) (r_b : Int64) (r_ties : Int32) (r_z : Int32) (r_plateaus : Int32) (r_names : Nat → Int32) (q_arr : Nat → Int32) (v2 : Int32) (v3 : Int32) (out : (Nat → Int32) × (Nat → Int32)) (h : m_Mo_mergeIn r_nodes r_names q_arr v2 v3 = some out) : Met l y_Mo_mergeIn w_Mo_mergeIn ({ frames := 1, cells := 0, slots := 0, locals := 24 }) (va_Pc [.ref (a_r 0), .ref (a_q 0), .int v2, .int v3] (fun U => U.heap.size = sz ∧ va_P D cls9 (wd_Mo_mergeIn cA a_r a_q r_manner r_above r_below r_nodes r_arcs r_left r_isBest r_arePlateaus r_all r_a r_b r_ties r_z r_plateaus r_names q_arr) U.heap ∧ va_K D cls9 (tys5 cA) U ∧ va_D (fun _ => True) (wd_Mo_mergeIn cA a_r a_q r_manner r_above r_below r_nodes r_arcs r_left r_isBest r_arePlateaus r_all r_a r_b r_ties r_z r_plateaus r_names q_arr))) (va_Qv (fun uu : (Nat → Int32) × (Nat → Int32) => uu = out) (fun (uu : (Nat → Int32) × (Nat → Int32)) (t : State) => va_P D cls9 (wd_Mo_mergeIn cA a_r a_q r_manner r_above r_below r_nodes r_arcs r_left r_isBest r_arePlateaus r_all r_a r_b r_ties r_z r_plateaus uu.1 uu.2) t.heap ∧ va_K D cls9 (tys5 cA) t ∧ va_D (va_A (wd_Mo_mergeIn cA a_r a_q r_manner r_above r_below r_nodes r_arcs r_left r_isBest r_arePlateaus r_all r_a r_b r_ties r_z r_plateaus r_names q_arr) sz) (wd_Mo_mergeIn cA a_r a_q r_manner r_above r_below r_nodes r_arcs r_left r_isBest r_arePlateaus r_all r_a r_b r_ties r_z r_plateaus uu.1 uu.2)) (va_A (wd_Mo_mergeIn cA a_r a_q r_manner r_above r_below r_nodes r_arcs r_left r_isBest r_arePlateaus r_all r_a r_b r_ties r_z r_plateaus r_names q_arr) sz)) 0 0 (va_A (wd_Mo_mergeIn cA a_r a_q r_manner r_above r_below r_nodes r_arcs r_left r_isBest r_arePlateaus r_all r_a r_b r_ties r_z r_plateaus r_names q_arr) sz) := by
  refine Met.ofW (cc := b_Mo_mergeIn) (maxL := 6) (ret := (Option.none : Option Jvm.ClassFile.FieldType)) (by decide) rfl ?_
  intro p e s m args below meth c s₁ B hml hv
  obtain ⟨rfl, hsz, hP, hK, hD0⟩ := hv
  have hx := B.exec
  have hb := B.bytes
  have hr := B.returns
  have hts := atoms_spec (ws := w_Mo_mergeIn) B.pre
  have hal : ∀ w ∈ ALLW, w.before _ s = true := fun w hw => hts w (List.mem_cons_of_mem _ hw)
  have hown : s.vm.findClass R_Mo = some m.cls := findClass_of_methodNamed B.named
  have hlocks := B.notSynchronized
  subst hsz
  have hD := hD0.self (sz := s.heap.size)
  generalize hAe : va_A (wd_Mo_mergeIn cA a_r a_q r_manner r_above r_below r_nodes r_arcs r_left r_isBest r_arePlateaus r_all r_a r_b r_ties r_z r_plateaus r_names q_arr) s.heap.size = A at hD ⊢
  have hA : ∀ q : Nat, s.heap.size ≤ q → A q := fun q h => by rw [← hAe]; exact Or.inr h
  have hS : va_S A s.heap s.heap [] := va_S.rf
  have hl := lv_entry ([.ref (a_r 0), .ref (a_q 0), .int v2, .int v3]) (n := 6) (Nat.le_of_ble_eq_true rfl)
  rw [lg_entry_eq]
  generalize (lg_sl ([.ref (a_r 0), .ref (a_q 0), .int v2, .int v3]) ++ List.replicate (6 - (lg_sl ([.ref (a_r 0), .ref (a_q 0), .int v2, .int v3])).length) Slot.unset).toArray = ls at hl ⊢
  have hl : lv_has ls 6 [(0, .ref (a_r 0)), (1, .ref (a_q 0)), (2, .int v2), (3, .int v3)] := hl
  refine wg (fun G hG => ?_)
  refine cast (hG _ _ _ _ _ _ _).symm ?_
  obtain ⟨H, locs, hHl, hS⟩ : ∃ (H : Heap) (locs : List Loc), (H = s.heap ∧ locs = []) ∧ va_S A s.heap H locs := ⟨s.heap, [], ⟨rfl, rfl⟩, hS⟩
  have hP : va_P D cls9 (wd_Mo_mergeIn cA a_r a_q r_manner r_above r_below r_nodes r_arcs r_left r_isBest r_arePlateaus r_all r_a r_b r_ties r_z r_plateaus r_names q_arr) H := by rw [hHl.1]; exact hP
  rw [← hHl.1, ← hHl.2]
  clear hHl
  refine lv_aload_n hx hb d_Mo_mergeIn_0 rfl (lv_at hl 1 rfl) ?_
  refine lv_iload_n hx hb d_Mo_mergeIn_1 rfl (lv_at hl 3 rfl) ?_
  obtain ⟨g_1, h⟩ := gd h
  refine va_iald hx hb hK hP 2 0 rfl rfl (inb_in g_1) d_Mo_mergeIn_2 ?_
  refine lv_istore (lv' := [(4, .int (q_arr v3.toNatClampNeg)), (0, .ref (a_r 0)), (1, .ref (a_q 0)), (2, .int v2), (3, .int v3)]) hx hb d_Mo_mergeIn_3 hl (by decide) rfl (fun ls hl => ?_)
  refine lv_iconst (v := 0) hx hb d_Mo_mergeIn_5 (by decide) ?_
  refine lv_istore (lv' := [(5, .int (0 : Int32)), (4, .int (q_arr v3.toNatClampNeg)), (0, .ref (a_r 0)), (1, .ref (a_q 0)), (2, .int v2), (3, .int v3)]) hx hb d_Mo_mergeIn_6 hl (by decide) rfl (fun ls hl => ?_)
  refine cast (hG _ _ _ _ _ _ _) (lp_go2 h (fun zz : Int32 × (Nat → Int32) => ∀ (H : Heap) (locs : List Loc) (ls : Array Slot), va_P D cls9 (wd_Mo_mergeIn cA a_r a_q r_manner r_above r_below r_nodes r_arcs r_left r_isBest r_arePlateaus r_all r_a r_b r_ties r_z r_plateaus r_names zz.2) H → va_D A (wd_Mo_mergeIn cA a_r a_q r_manner r_above r_below r_nodes r_arcs r_left r_isBest r_arePlateaus r_all r_a r_b r_ties r_z r_plateaus r_names zz.2) → va_S A s.heap H locs → lv_has ls 6 [(5, .int zz.1), (4, .int (q_arr v3.toNatClampNeg)), (0, .ref (a_r 0)), (1, .ref (a_q 0)), (2, .int v2), (3, .int v3)] → G H locs 0 0 ls 46 []) ?_ (fun zz : Int32 × (Nat → Int32) => ∀ (H : Heap) (locs : List Loc) (ls : Array Slot), va_P D cls9 (wd_Mo_mergeIn cA a_r a_q r_manner r_above r_below r_nodes r_arcs r_left r_isBest r_arePlateaus r_all r_a r_b r_ties r_z r_plateaus r_names zz.2) H → va_D A (wd_Mo_mergeIn cA a_r a_q r_manner r_above r_below r_nodes r_arcs r_left r_isBest r_arePlateaus r_all r_a r_b r_ties r_z r_plateaus r_names zz.2) → va_S A s.heap H locs → lv_has ls 6 [(5, .int zz.1), (4, .int (q_arr v3.toNatClampNeg)), (0, .ref (a_r 0)), (1, .ref (a_q 0)), (2, .int v2), (3, .int v3)] → G H locs 0 0 ls 8 []) ?_ _ _ ls hP hD hS (lv_sub hl [0, 1, 2, 3, 4, 5] rfl))
  · intro zz h H locs ls hP hD hS hl
    obtain ⟨x5_8e, q_arr_8e⟩ := zz
    have hP : va_P D cls9 (wd_Mo_mergeIn cA a_r a_q r_manner r_above r_below r_nodes r_arcs r_left r_isBest r_arePlateaus r_all r_a r_b r_ties r_z r_plateaus r_names q_arr_8e) H := hP
    have hD : va_D A (wd_Mo_mergeIn cA a_r a_q r_manner r_above r_below r_nodes r_arcs r_left r_isBest r_arePlateaus r_all r_a r_b r_ties r_z r_plateaus r_names q_arr_8e) := hD
    have hl : lv_has ls 6 [(5, .int x5_8e), (4, .int (q_arr v3.toNatClampNeg)), (0, .ref (a_r 0)), (1, .ref (a_q 0)), (2, .int v2), (3, .int v3)] := hl
    refine cast (hG _ _ _ _ _ _ _).symm ?_
    refine lv_aload_n hx hb d_Mo_mergeIn_46 rfl (lv_at hl 2 rfl) ?_
    refine lv_aload_n hx hb d_Mo_mergeIn_47 rfl (lv_at hl 3 rfl) ?_
    obtain ⟨o_7, hc_6, h⟩ := bd h
    have hPc := hP.sub (ws' := (wd_Mo_number cA a_r a_q r_manner r_above r_below r_nodes r_arcs r_left r_isBest r_arePlateaus r_all r_a r_b r_ties r_z r_plateaus r_names q_arr_8e)) [0, 1, 2] rfl
    have hDc := hD.sub (ws' := (wd_Mo_number cA a_r a_q r_manner r_above r_below r_nodes r_arcs r_left r_isBest r_arePlateaus r_all r_a r_b r_ties r_z r_plateaus r_names q_arr_8e)) [0, 1, 2] (by decide) rfl
    have hFc := va_free (wc := (wd_Mo_number cA a_r a_q r_manner r_above r_below r_nodes r_arcs r_left r_isBest r_arePlateaus r_all r_a r_b r_ties r_z r_plateaus r_names q_arr_8e)) hD hS hA [0, 1, 2] rfl
    refine va_calli (va_runV (C := R_Mo) (As := [.ref (a_q 0)]) (rest := []) ⟨hx, hb, hml, hown, hal⟩ (c_Mo_number l D cA a_r a_q H.size r_manner r_above r_below r_nodes r_arcs r_left r_isBest r_arePlateaus r_all r_a r_b r_ties r_z r_plateaus r_names q_arr_8e o_7 hc_6) (cwV 1 hal (goodV kw_791 kw_793 kw_p29 kw_9 kw_794) rfl rfl rfl (by decide +kernel) ⟨Nat.le_of_ble_eq_true rfl, Nat.le_of_ble_eq_true rfl⟩) ⟨fun a U g mk q => by obtain ⟨q0, q1, qP, qK, qD⟩ := q; exact ⟨q0, q1, qP, va_K.moved (u := U) (U := U.calling g mk a) (Vm.Alike.refl U.vm) qK, qD⟩, va_recv hK hP (ci := 8) (q0 := 0) rfl rfl, fun U hU hW => ⟨rfl, by rw [hU], by rw [hU]; exact hPc, va_K.moved hW.alike hK, hDc.weaken (fun _ _ _ _ => trivial)⟩⟩ rfl rfl hl.1 rfl (lv_room (Nat.le_of_ble_eq_true rfl)) d_Mo_mergeIn_48 ⟨Nat.le_of_ble_eq_true rfl, Nat.le_of_ble_eq_true rfl⟩) hS (fun q _ h => hFc q h) hFc (fun r_3 u t H1 locs ht hvm hw hB hz1 hk1 hS => ?_)
    obtain ⟨u_4, u_5⟩ := u
    subst hw
    obtain ⟨hP1, hK1, hD1⟩ := hB
    rw [ht] at hP1
    have hP1 : va_P D cls9 (wd_Mo_number cA a_r a_q r_manner r_above r_below r_nodes r_arcs r_left r_isBest r_arePlateaus r_all r_a r_b r_ties r_z r_plateaus u_4 u_5) H1 := hP1
    obtain ⟨hP, hD⟩ := va_join (wr := ([] : List Nat).filterMap (fun i => (wd_Mo_mergeIn cA a_r a_q r_manner r_above r_below r_nodes r_arcs r_left r_isBest r_arePlateaus r_all r_a r_b r_ties r_z r_plateaus r_names q_arr_8e)[i]?)) (w1 := (wd_Mo_number cA a_r a_q r_manner r_above r_below r_nodes r_arcs r_left r_isBest r_arePlateaus r_all r_a r_b r_ties r_z r_plateaus u_4 u_5)) hP hD [0, 1, 2] [] rfl rfl (by decide) (by decide) hk1 hFc hP1 hD1
    generalize H1 = H at hP hS ⊢
    have hP : va_P D cls9 (wd_Mo_mergeIn cA a_r a_q r_manner r_above r_below r_nodes r_arcs r_left r_isBest r_arePlateaus r_all r_a r_b r_ties r_z r_plateaus u_4 u_5) H := hP.sub [0, 1, 2] rfl
    have hD : va_D A (wd_Mo_mergeIn cA a_r a_q r_manner r_above r_below r_nodes r_arcs r_left r_isBest r_arePlateaus r_all r_a r_b r_ties r_z r_plateaus u_4 u_5) := hD.sub [0, 1, 2] (by decide) rfl
    refine lv_istore (lv' := [(5, .int r_3), (4, .int (q_arr v3.toNatClampNeg)), (0, .ref (a_r 0)), (1, .ref (a_q 0)), (2, .int v2), (3, .int v3)]) hx hb d_Mo_mergeIn_51 hl (by decide) rfl (fun ls hl => ?_)
    exact W.vret hx hb hr (fun t ht hW => ⟨⟨(u_4, u_5), rfl, Option.some.inj h, by rw [ht]; exact hP, va_K.moved hW.alike hK, hD⟩, hS.F ht⟩) hS.2.2 d_Mo_mergeIn_53
  · intro back exit zz hB_8 hE_8 h H locs ls hP hD hS hl
    obtain ⟨x5_8, q_arr_8⟩ := zz
    have hP : va_P D cls9 (wd_Mo_mergeIn cA a_r a_q r_manner r_above r_below r_nodes r_arcs r_left r_isBest r_arePlateaus r_all r_a r_b r_ties r_z r_plateaus r_names q_arr_8) H := hP
    have hD : va_D A (wd_Mo_mergeIn cA a_r a_q r_manner r_above r_below r_nodes r_arcs r_left r_isBest r_arePlateaus r_all r_a r_b r_ties r_z r_plateaus r_names q_arr_8) := hD
    have hl : lv_has ls 6 [(5, .int x5_8), (4, .int (q_arr v3.toNatClampNeg)), (0, .ref (a_r 0)), (1, .ref (a_q 0)), (2, .int v2), (3, .int v3)] := hl
    refine cast (hG _ _ _ _ _ _ _).symm ?_
    refine lv_iload hx hb d_Mo_mergeIn_8 (lv_at hl 0 rfl) ?_
    refine lv_aload_n hx hb d_Mo_mergeIn_10 rfl (lv_at hl 2 rfl) ?_
    refine va_get (ci := 8) (v := .int r_nodes) (C := R_Mo) (T := F_Mo) (N := 36) hx hb hal in_Mo hown hK hP 0 rfl rfl 3 (by decide) (hal _ kw_640) (fun _ h9 => h9) rfl d_Mo_mergeIn_11 ?_
    refine lv_icmp_ge (tgt := 46) hx hb d_Mo_mergeIn_14 (by decide) (fun c_8 => ?_) (fun c_8 => ?_)
    · have h := ifp (c_8) h
      exact cast (hG _ _ _ _ _ _ _) (hE_8 (x5_8, q_arr_8) h _ _ _ hP hD hS (lv_sub hl [0, 1, 2, 3, 4, 5] rfl))
    · have h := ifn (c_8) h
      refine lv_aload_n hx hb d_Mo_mergeIn_17 rfl (lv_at hl 3 rfl) ?_
      refine lv_iload hx hb d_Mo_mergeIn_18 (lv_at hl 0 rfl) ?_
      refine lv_aload_n hx hb d_Mo_mergeIn_20 rfl (lv_at hl 3 rfl) ?_
      refine lv_iload hx hb d_Mo_mergeIn_21 (lv_at hl 0 rfl) ?_
      obtain ⟨g_9, h⟩ := gd h
      refine va_iald hx hb hK hP 2 0 rfl rfl (inb_in g_9) d_Mo_mergeIn_23 ?_
      refine lv_iload hx hb d_Mo_mergeIn_24 (lv_at hl 1 rfl) ?_
      refine lv_icmp_ne (tgt := 35) hx hb d_Mo_mergeIn_26 (by decide) (fun c_10 => ?_) (fun c_10 => ?_)
      · have h := ifn (c_10) h
        refine lv_aload_n hx hb d_Mo_mergeIn_35 rfl (lv_at hl 3 rfl) ?_
        refine lv_iload hx hb d_Mo_mergeIn_36 (lv_at hl 0 rfl) ?_
        refine va_iald hx hb hK hP 2 0 rfl rfl (inb_in g_9) d_Mo_mergeIn_38 ?_
        refine va_iast hx hb hK hP hD hS 2 0 rfl rfl (inb_in g_9) d_Mo_mergeIn_39 (fun H locs hP hD hS => ?_)
        have hP : va_P D cls9 (wd_Mo_mergeIn cA a_r a_q r_manner r_above r_below r_nodes r_arcs r_left r_isBest r_arePlateaus r_all r_a r_b r_ties r_z r_plateaus r_names (upd q_arr_8 x5_8.toNatClampNeg (q_arr_8 x5_8.toNatClampNeg))) H := hP
        have hD : va_D A (wd_Mo_mergeIn cA a_r a_q r_manner r_above r_below r_nodes r_arcs r_left r_isBest r_arePlateaus r_all r_a r_b r_ties r_z r_plateaus r_names (upd q_arr_8 x5_8.toNatClampNeg (q_arr_8 x5_8.toNatClampNeg))) := hD
        refine lv_iinc (v := (x5_8 + 1)) (lv' := [(5, .int (x5_8 + 1)), (4, .int (q_arr v3.toNatClampNeg)), (0, .ref (a_r 0)), (1, .ref (a_q 0)), (2, .int v2), (3, .int v3)]) hx hb d_Mo_mergeIn_40 hl (k := 0) rfl rfl (by decide) rfl (fun ls hl => ?_)
        refine lv_goto (tgt := 8) hx hb d_Mo_mergeIn_43 (by decide) ?_
        exact cast (hG _ _ _ _ _ _ _) (hB_8 ((x5_8 + 1), (upd q_arr_8 x5_8.toNatClampNeg (q_arr_8 x5_8.toNatClampNeg))) h _ _ _ hP hD hS (lv_sub hl [0, 1, 2, 3, 4, 5] rfl))
      · have h := ifp (c_10) h
        refine lv_aload_n hx hb d_Mo_mergeIn_29 rfl (lv_at hl 3 rfl) ?_
        refine lv_iload_n hx hb d_Mo_mergeIn_30 rfl (lv_at hl 4 rfl) ?_
        obtain ⟨g_11, h⟩ := gd h
        refine va_iald hx hb hK hP 2 0 rfl rfl (inb_in g_11) d_Mo_mergeIn_31 ?_
        refine lv_goto (tgt := 39) hx hb d_Mo_mergeIn_32 (by decide) ?_
        refine va_iast hx hb hK hP hD hS 2 0 rfl rfl (inb_in g_9) d_Mo_mergeIn_39 (fun H locs hP hD hS => ?_)
        have hP : va_P D cls9 (wd_Mo_mergeIn cA a_r a_q r_manner r_above r_below r_nodes r_arcs r_left r_isBest r_arePlateaus r_all r_a r_b r_ties r_z r_plateaus r_names (upd q_arr_8 x5_8.toNatClampNeg (q_arr_8 v2.toNatClampNeg))) H := hP
        have hD : va_D A (wd_Mo_mergeIn cA a_r a_q r_manner r_above r_below r_nodes r_arcs r_left r_isBest r_arePlateaus r_all r_a r_b r_ties r_z r_plateaus r_names (upd q_arr_8 x5_8.toNatClampNeg (q_arr_8 v2.toNatClampNeg))) := hD
        refine lv_iinc (v := (x5_8 + 1)) (lv' := [(5, .int (x5_8 + 1)), (4, .int (q_arr v3.toNatClampNeg)), (0, .ref (a_r 0)), (1, .ref (a_q 0)), (2, .int v2), (3, .int v3)]) hx hb d_Mo_mergeIn_40 hl (k := 0) rfl rfl (by decide) rfl (fun ls hl => ?_)
        refine lv_goto (tgt := 8) hx hb d_Mo_mergeIn_43 (by decide) ?_
        exact cast (hG _ _ _ _ _ _ _) (hB_8 ((x5_8 + 1), (upd q_arr_8 x5_8.toNatClampNeg (q_arr_8 v2.toNatClampNeg))) h _ _ _ hP hD hS (lv_sub hl [0, 1, 2, 3, 4, 5] rfl))
