def wd_Ar_fill_AII (cA : Nat → ClassId) (a_q : Nat → Nat) (q_arr : Nat → Int32) (q_arr_n : Nat) : va_W := [(a_q 0, .inl (cA 0, q_arr_n, .inl q_arr))]
noncomputable def s_Ar_fill_AII_5 (x1 : Int32) (x3 : Int32) (q_arr_n : Nat) (zz : Int32 × (Nat → Int32)) (back exit : (Int32 × (Nat → Int32)) → Option ((Nat → Int32))) : Option ((Nat → Int32)) :=
  (if x3 ≤ zz.1 then (exit (zz.1, zz.2)) else (if inb zz.1 q_arr_n then (back ((zz.1 + 1), (upd zz.2 zz.1.toNatClampNeg x1))) else none))
noncomputable def m_Ar_fill_AII (q_arr : Nat → Int32) (q_arr_n : Nat) (v1 : Int32) : Option ((Nat → Int32)) :=
  (loopC (s_Ar_fill_AII_5 v1 (Int32.ofNat q_arr_n) q_arr_n) (fun z5 : Int32 × (Nat → Int32) => some z5.2) FU ((0 : Int32), q_arr))
set_option maxHeartbeats 4000000 in
set_option maxRecDepth 100000 in
theorem c_Ar_fill_AII (l : Launch) (D : va_G) (cA : Nat → ClassId) (a_q : Nat → Nat) (sz : Nat) (q_arr : Nat → Int32) (q_arr_n : Nat) (v1 : Int32) (out : (Nat → Int32)) (h : m_Ar_fill_AII q_arr q_arr_n v1 = some out) : Met l y_Ar_fill_AII w_Ar_fill_AII ({ frames := 0, cells := 0, slots := 0, locals := 0 }) (va_Pc [.ref (a_q 0), .int v1] (fun U => U.heap.size = sz ∧ va_P D cls9 (wd_Ar_fill_AII cA a_q q_arr q_arr_n) U.heap ∧ va_K D cls9 (tys5 cA) U ∧ va_D (fun _ => True) (wd_Ar_fill_AII cA a_q q_arr q_arr_n))) (va_Qv (fun uu : (Nat → Int32) => uu = out) (fun (uu : (Nat → Int32)) (t : State) => va_P D cls9 (wd_Ar_fill_AII cA a_q uu q_arr_n) t.heap ∧ va_K D cls9 (tys5 cA) t ∧ va_D (va_A (wd_Ar_fill_AII cA a_q q_arr q_arr_n) sz) (wd_Ar_fill_AII cA a_q uu q_arr_n)) (va_A (wd_Ar_fill_AII cA a_q q_arr q_arr_n) sz)) 0 0 (va_A (wd_Ar_fill_AII cA a_q q_arr q_arr_n) sz) := by
  refine Met.ofW (cc := b_Ar_fill_AII) (maxL := 4) (ret := (Option.none : Option Jvm.ClassFile.FieldType)) (by decide) rfl ?_
  intro p e s m args below meth c s₁ B hml hv
  obtain ⟨rfl, hsz, hP, hK, hD0⟩ := hv
  have hx := B.exec
  have hb := B.bytes
  have hr := B.returns
  have hts := atoms_spec (ws := w_Ar_fill_AII) B.pre
  have hal : ∀ w ∈ ALLW, w.before _ s = true := fun w hw => hts w (List.mem_cons_of_mem _ hw)
  have hown : s.vm.findClass R_Ar = some m.cls := findClass_of_methodNamed B.named
  have hlocks := B.notSynchronized
  subst hsz
  have hD := hD0.self (sz := s.heap.size)
  generalize hAe : va_A (wd_Ar_fill_AII cA a_q q_arr q_arr_n) s.heap.size = A at hD ⊢
  have hA : ∀ q : Nat, s.heap.size ≤ q → A q := fun q h => by rw [← hAe]; exact Or.inr h
  have hS : va_S A s.heap s.heap [] := va_S.rf
  have hl := lv_entry ([.ref (a_q 0), .int v1]) (n := 4) (Nat.le_of_ble_eq_true rfl)
  rw [lg_entry_eq]
  generalize (lg_sl ([.ref (a_q 0), .int v1]) ++ List.replicate (4 - (lg_sl ([.ref (a_q 0), .int v1])).length) Slot.unset).toArray = ls at hl ⊢
  have hl : lv_has ls 4 [(0, .ref (a_q 0)), (1, .int v1)] := hl
  refine wg (fun G hG => ?_)
  refine cast (hG _ _ _ _ _ _ _).symm ?_
  obtain ⟨H, locs, hHl, hS⟩ : ∃ (H : Heap) (locs : List Loc), (H = s.heap ∧ locs = []) ∧ va_S A s.heap H locs := ⟨s.heap, [], ⟨rfl, rfl⟩, hS⟩
  have hP : va_P D cls9 (wd_Ar_fill_AII cA a_q q_arr q_arr_n) H := by rw [hHl.1]; exact hP
  rw [← hHl.1, ← hHl.2]
  clear hHl
  refine lv_iconst (v := 0) hx hb d_Ar_fill_AII_0 (by decide) ?_
  refine lv_istore_n (lv' := [(2, .int (0 : Int32)), (0, .ref (a_q 0)), (1, .int v1)]) hx hb d_Ar_fill_AII_1 rfl hl (by decide) rfl (fun ls hl => ?_)
  refine lv_aload_n hx hb d_Ar_fill_AII_2 rfl (lv_at hl 1 rfl) ?_
  refine va_alen (ty := .int) (v := (Int32.ofNat q_arr_n)) hx hb hK hP 0 0 rfl rfl rfl d_Ar_fill_AII_3 ?_
  refine lv_istore_n (lv' := [(3, .int (Int32.ofNat q_arr_n)), (2, .int (0 : Int32)), (0, .ref (a_q 0)), (1, .int v1)]) hx hb d_Ar_fill_AII_4 rfl hl (by decide) rfl (fun ls hl => ?_)
  refine cast (hG _ _ _ _ _ _ _) (lp_go2 h (fun zz : Int32 × (Nat → Int32) => ∀ (H : Heap) (locs : List Loc) (ls : Array Slot), va_P D cls9 (wd_Ar_fill_AII cA a_q zz.2 q_arr_n) H → va_D A (wd_Ar_fill_AII cA a_q zz.2 q_arr_n) → va_S A s.heap H locs → lv_has ls 4 [(3, .int (Int32.ofNat q_arr_n)), (2, .int zz.1), (0, .ref (a_q 0)), (1, .int v1)] → G H locs 0 0 ls 20 []) ?_ (fun zz : Int32 × (Nat → Int32) => ∀ (H : Heap) (locs : List Loc) (ls : Array Slot), va_P D cls9 (wd_Ar_fill_AII cA a_q zz.2 q_arr_n) H → va_D A (wd_Ar_fill_AII cA a_q zz.2 q_arr_n) → va_S A s.heap H locs → lv_has ls 4 [(3, .int (Int32.ofNat q_arr_n)), (2, .int zz.1), (0, .ref (a_q 0)), (1, .int v1)] → G H locs 0 0 ls 5 []) ?_ _ _ ls hP hD hS (lv_sub hl [0, 1, 2, 3] rfl))
  · intro zz h H locs ls hP hD hS hl
    obtain ⟨x2_5e, q_arr_5e⟩ := zz
    have hP : va_P D cls9 (wd_Ar_fill_AII cA a_q q_arr_5e q_arr_n) H := hP
    have hD : va_D A (wd_Ar_fill_AII cA a_q q_arr_5e q_arr_n) := hD
    have hl : lv_has ls 4 [(3, .int (Int32.ofNat q_arr_n)), (2, .int x2_5e), (0, .ref (a_q 0)), (1, .int v1)] := hl
    refine cast (hG _ _ _ _ _ _ _).symm ?_
    exact W.vret hx hb hr (fun t ht hW => ⟨⟨q_arr_5e, rfl, Option.some.inj h, by rw [ht]; exact hP, va_K.moved hW.alike hK, hD⟩, hS.F ht⟩) hS.2.2 d_Ar_fill_AII_20
  · intro back exit zz hB_5 hE_5 h H locs ls hP hD hS hl
    obtain ⟨x2_5, q_arr_5⟩ := zz
    have hP : va_P D cls9 (wd_Ar_fill_AII cA a_q q_arr_5 q_arr_n) H := hP
    have hD : va_D A (wd_Ar_fill_AII cA a_q q_arr_5 q_arr_n) := hD
    have hl : lv_has ls 4 [(3, .int (Int32.ofNat q_arr_n)), (2, .int x2_5), (0, .ref (a_q 0)), (1, .int v1)] := hl
    refine cast (hG _ _ _ _ _ _ _).symm ?_
    refine lv_iload_n hx hb d_Ar_fill_AII_5 rfl (lv_at hl 1 rfl) ?_
    refine lv_iload_n hx hb d_Ar_fill_AII_6 rfl (lv_at hl 0 rfl) ?_
    refine lv_icmp_ge (tgt := 20) hx hb d_Ar_fill_AII_7 (by decide) (fun c_1 => ?_) (fun c_1 => ?_)
    · have h := ifp (c_1) h
      exact cast (hG _ _ _ _ _ _ _) (hE_5 (x2_5, q_arr_5) h _ _ _ hP hD hS (lv_sub hl [0, 1, 2, 3] rfl))
    · have h := ifn (c_1) h
      refine lv_aload_n hx hb d_Ar_fill_AII_10 rfl (lv_at hl 2 rfl) ?_
      refine lv_iload_n hx hb d_Ar_fill_AII_11 rfl (lv_at hl 1 rfl) ?_
      refine lv_iload_n hx hb d_Ar_fill_AII_12 rfl (lv_at hl 3 rfl) ?_
      obtain ⟨g_2, h⟩ := gd h
      refine va_iast hx hb hK hP hD hS 0 0 rfl rfl (inb_in g_2) d_Ar_fill_AII_13 (fun H locs hP hD hS => ?_)
      have hP : va_P D cls9 (wd_Ar_fill_AII cA a_q (upd q_arr_5 x2_5.toNatClampNeg v1) q_arr_n) H := hP
      have hD : va_D A (wd_Ar_fill_AII cA a_q (upd q_arr_5 x2_5.toNatClampNeg v1) q_arr_n) := hD
      refine lv_iinc (v := (x2_5 + 1)) (lv' := [(2, .int (x2_5 + 1)), (3, .int (Int32.ofNat q_arr_n)), (0, .ref (a_q 0)), (1, .int v1)]) hx hb d_Ar_fill_AII_14 hl (k := 1) rfl rfl (by decide) rfl (fun ls hl => ?_)
      refine lv_goto (tgt := 5) hx hb d_Ar_fill_AII_17 (by decide) ?_
      exact cast (hG _ _ _ _ _ _ _) (hB_5 ((x2_5 + 1), (upd q_arr_5 x2_5.toNatClampNeg v1)) h _ _ _ hP hD hS (lv_sub hl [1, 0, 2, 3] rfl))
def wd_Ar_fill_AJJ (cA : Nat → ClassId) (a_q : Nat → Nat) (q_arr : Nat → Int64) (q_arr_n : Nat) : va_W := [(a_q 0, .inl (cA 1, q_arr_n, .inr (.inl q_arr)))]
noncomputable def s_Ar_fill_AJJ_6 (x1 : Int64) (x4 : Int32) (q_arr_n : Nat) (zz : Int32 × (Nat → Int64)) (back exit : (Int32 × (Nat → Int64)) → Option ((Nat → Int64))) : Option ((Nat → Int64)) :=
  (if x4 ≤ zz.1 then (exit (zz.1, zz.2)) else (if inb zz.1 q_arr_n then (back ((zz.1 + 1), (vp_updL zz.2 zz.1.toNatClampNeg x1))) else none))
noncomputable def m_Ar_fill_AJJ (q_arr : Nat → Int64) (q_arr_n : Nat) (v1 : Int64) : Option ((Nat → Int64)) :=
  (loopC (s_Ar_fill_AJJ_6 v1 (Int32.ofNat q_arr_n) q_arr_n) (fun z6 : Int32 × (Nat → Int64) => some z6.2) FU ((0 : Int32), q_arr))
set_option maxHeartbeats 4000000 in
set_option maxRecDepth 100000 in
theorem c_Ar_fill_AJJ (l : Launch) (D : va_G) (cA : Nat → ClassId) (a_q : Nat → Nat) (sz : Nat) (q_arr : Nat → Int64) (q_arr_n : Nat) (v1 : Int64) (out : (Nat → Int64)) (h : m_Ar_fill_AJJ q_arr q_arr_n v1 = some out) : Met l y_Ar_fill_AJJ w_Ar_fill_AJJ ({ frames := 0, cells := 0, slots := 0, locals := 0 }) (va_Pc [.ref (a_q 0), .long v1] (fun U => U.heap.size = sz ∧ va_P D cls9 (wd_Ar_fill_AJJ cA a_q q_arr q_arr_n) U.heap ∧ va_K D cls9 (tys5 cA) U ∧ va_D (fun _ => True) (wd_Ar_fill_AJJ cA a_q q_arr q_arr_n))) (va_Qv (fun uu : (Nat → Int64) => uu = out) (fun (uu : (Nat → Int64)) (t : State) => va_P D cls9 (wd_Ar_fill_AJJ cA a_q uu q_arr_n) t.heap ∧ va_K D cls9 (tys5 cA) t ∧ va_D (va_A (wd_Ar_fill_AJJ cA a_q q_arr q_arr_n) sz) (wd_Ar_fill_AJJ cA a_q uu q_arr_n)) (va_A (wd_Ar_fill_AJJ cA a_q q_arr q_arr_n) sz)) 0 0 (va_A (wd_Ar_fill_AJJ cA a_q q_arr q_arr_n) sz) := by
  refine Met.ofW (cc := b_Ar_fill_AJJ) (maxL := 5) (ret := (Option.none : Option Jvm.ClassFile.FieldType)) (by decide) rfl ?_
  intro p e s m args below meth c s₁ B hml hv
  obtain ⟨rfl, hsz, hP, hK, hD0⟩ := hv
  have hx := B.exec
  have hb := B.bytes
  have hr := B.returns
  have hts := atoms_spec (ws := w_Ar_fill_AJJ) B.pre
  have hal : ∀ w ∈ ALLW, w.before _ s = true := fun w hw => hts w (List.mem_cons_of_mem _ hw)
  have hown : s.vm.findClass R_Ar = some m.cls := findClass_of_methodNamed B.named
  have hlocks := B.notSynchronized
  subst hsz
  have hD := hD0.self (sz := s.heap.size)
  generalize hAe : va_A (wd_Ar_fill_AJJ cA a_q q_arr q_arr_n) s.heap.size = A at hD ⊢
  have hA : ∀ q : Nat, s.heap.size ≤ q → A q := fun q h => by rw [← hAe]; exact Or.inr h
  have hS : va_S A s.heap s.heap [] := va_S.rf
  have hl := lv_entry ([.ref (a_q 0), .long v1]) (n := 5) (Nat.le_of_ble_eq_true rfl)
  rw [lg_entry_eq]
  generalize (lg_sl ([.ref (a_q 0), .long v1]) ++ List.replicate (5 - (lg_sl ([.ref (a_q 0), .long v1])).length) Slot.unset).toArray = ls at hl ⊢
  have hl : lv_has ls 5 [(0, .ref (a_q 0)), (1, .long v1)] := hl
  refine wg (fun G hG => ?_)
  refine cast (hG _ _ _ _ _ _ _).symm ?_
  obtain ⟨H, locs, hHl, hS⟩ : ∃ (H : Heap) (locs : List Loc), (H = s.heap ∧ locs = []) ∧ va_S A s.heap H locs := ⟨s.heap, [], ⟨rfl, rfl⟩, hS⟩
  have hP : va_P D cls9 (wd_Ar_fill_AJJ cA a_q q_arr q_arr_n) H := by rw [hHl.1]; exact hP
  rw [← hHl.1, ← hHl.2]
  clear hHl
  refine lv_iconst (v := 0) hx hb d_Ar_fill_AJJ_0 (by decide) ?_
  refine lv_istore_n (lv' := [(3, .int (0 : Int32)), (0, .ref (a_q 0)), (1, .long v1)]) hx hb d_Ar_fill_AJJ_1 rfl hl (by decide) rfl (fun ls hl => ?_)
  refine lv_aload_n hx hb d_Ar_fill_AJJ_2 rfl (lv_at hl 1 rfl) ?_
  refine va_alen (ty := .long) (v := (Int32.ofNat q_arr_n)) hx hb hK hP 0 1 rfl rfl rfl d_Ar_fill_AJJ_3 ?_
  refine lv_istore (lv' := [(4, .int (Int32.ofNat q_arr_n)), (3, .int (0 : Int32)), (0, .ref (a_q 0)), (1, .long v1)]) hx hb d_Ar_fill_AJJ_4 hl (by decide) rfl (fun ls hl => ?_)
  refine cast (hG _ _ _ _ _ _ _) (lp_go2 h (fun zz : Int32 × (Nat → Int64) => ∀ (H : Heap) (locs : List Loc) (ls : Array Slot), va_P D cls9 (wd_Ar_fill_AJJ cA a_q zz.2 q_arr_n) H → va_D A (wd_Ar_fill_AJJ cA a_q zz.2 q_arr_n) → va_S A s.heap H locs → lv_has ls 5 [(4, .int (Int32.ofNat q_arr_n)), (3, .int zz.1), (0, .ref (a_q 0)), (1, .long v1)] → G H locs 0 0 ls 22 []) ?_ (fun zz : Int32 × (Nat → Int64) => ∀ (H : Heap) (locs : List Loc) (ls : Array Slot), va_P D cls9 (wd_Ar_fill_AJJ cA a_q zz.2 q_arr_n) H → va_D A (wd_Ar_fill_AJJ cA a_q zz.2 q_arr_n) → va_S A s.heap H locs → lv_has ls 5 [(4, .int (Int32.ofNat q_arr_n)), (3, .int zz.1), (0, .ref (a_q 0)), (1, .long v1)] → G H locs 0 0 ls 6 []) ?_ _ _ ls hP hD hS (lv_sub hl [0, 1, 2, 3] rfl))
  · intro zz h H locs ls hP hD hS hl
    obtain ⟨x3_6e, q_arr_6e⟩ := zz
    have hP : va_P D cls9 (wd_Ar_fill_AJJ cA a_q q_arr_6e q_arr_n) H := hP
    have hD : va_D A (wd_Ar_fill_AJJ cA a_q q_arr_6e q_arr_n) := hD
    have hl : lv_has ls 5 [(4, .int (Int32.ofNat q_arr_n)), (3, .int x3_6e), (0, .ref (a_q 0)), (1, .long v1)] := hl
    refine cast (hG _ _ _ _ _ _ _).symm ?_
    exact W.vret hx hb hr (fun t ht hW => ⟨⟨q_arr_6e, rfl, Option.some.inj h, by rw [ht]; exact hP, va_K.moved hW.alike hK, hD⟩, hS.F ht⟩) hS.2.2 d_Ar_fill_AJJ_22
  · intro back exit zz hB_6 hE_6 h H locs ls hP hD hS hl
    obtain ⟨x3_6, q_arr_6⟩ := zz
    have hP : va_P D cls9 (wd_Ar_fill_AJJ cA a_q q_arr_6 q_arr_n) H := hP
    have hD : va_D A (wd_Ar_fill_AJJ cA a_q q_arr_6 q_arr_n) := hD
    have hl : lv_has ls 5 [(4, .int (Int32.ofNat q_arr_n)), (3, .int x3_6), (0, .ref (a_q 0)), (1, .long v1)] := hl
    refine cast (hG _ _ _ _ _ _ _).symm ?_
    refine lv_iload_n hx hb d_Ar_fill_AJJ_6 rfl (lv_at hl 1 rfl) ?_
    refine lv_iload hx hb d_Ar_fill_AJJ_7 (lv_at hl 0 rfl) ?_
    refine lv_icmp_ge (tgt := 22) hx hb d_Ar_fill_AJJ_9 (by decide) (fun c_1 => ?_) (fun c_1 => ?_)
    · have h := ifp (c_1) h
      exact cast (hG _ _ _ _ _ _ _) (hE_6 (x3_6, q_arr_6) h _ _ _ hP hD hS (lv_sub hl [0, 1, 2, 3] rfl))
    · have h := ifn (c_1) h
      refine lv_aload_n hx hb d_Ar_fill_AJJ_12 rfl (lv_at hl 2 rfl) ?_
      refine lv_iload_n hx hb d_Ar_fill_AJJ_13 rfl (lv_at hl 1 rfl) ?_
      refine lv_lload_n hx hb d_Ar_fill_AJJ_14 rfl (lv_at hl 3 rfl) ?_
      obtain ⟨g_2, h⟩ := gd h
      refine va_last hx hb hK hP hD hS 0 1 rfl rfl (inb_in g_2) d_Ar_fill_AJJ_15 (fun H locs hP hD hS => ?_)
      have hP : va_P D cls9 (wd_Ar_fill_AJJ cA a_q (vp_updL q_arr_6 x3_6.toNatClampNeg v1) q_arr_n) H := hP
      have hD : va_D A (wd_Ar_fill_AJJ cA a_q (vp_updL q_arr_6 x3_6.toNatClampNeg v1) q_arr_n) := hD
      refine lv_iinc (v := (x3_6 + 1)) (lv' := [(3, .int (x3_6 + 1)), (4, .int (Int32.ofNat q_arr_n)), (0, .ref (a_q 0)), (1, .long v1)]) hx hb d_Ar_fill_AJJ_16 hl (k := 1) rfl rfl (by decide) rfl (fun ls hl => ?_)
      refine lv_goto (tgt := 6) hx hb d_Ar_fill_AJJ_19 (by decide) ?_
      exact cast (hG _ _ _ _ _ _ _) (hB_6 ((x3_6 + 1), (vp_updL q_arr_6 x3_6.toNatClampNeg v1)) h _ _ _ hP hD hS (lv_sub hl [1, 0, 2, 3] rfl))
def wd_Gr_hasNode (cA : Nat → ClassId) (a_g : Nat → Nat) (g_manner : Int32) (g_nodes : Int32) (g_arcs : Int32) : va_W := [(a_g 0, .inr (1, [.int g_manner, .int g_nodes, .int g_arcs, .ref (a_g 1), .ref (a_g 2), .ref (a_g 3)]))]
noncomputable def m_Gr_hasNode (g_nodes : Int32) (v1 : Int32) : Option Int32 :=
  (if v1 < 0 then some (0 : Int32) else (if g_nodes ≤ v1 then some (0 : Int32) else some (1 : Int32)))
set_option maxHeartbeats 4000000 in
set_option maxRecDepth 100000 in
theorem c_Gr_hasNode (l : Launch) (D : va_G) (cA : Nat → ClassId) (a_g : Nat → Nat) (sz : Nat) (g_manner : Int32) (g_nodes : Int32) (g_arcs : Int32) (v1 : Int32) (out : Int32) (h : m_Gr_hasNode g_nodes v1 = some out) : Met l y_Gr_hasNode w_Gr_hasNode ({ frames := 0, cells := 0, slots := 0, locals := 0 }) (va_Pc [.ref (a_g 0), .int v1] (fun U => U.heap.size = sz ∧ va_P D cls9 (wd_Gr_hasNode cA a_g g_manner g_nodes g_arcs) U.heap ∧ va_K D cls9 (tys5 cA) U ∧ va_D (fun _ => True) (wd_Gr_hasNode cA a_g g_manner g_nodes g_arcs))) (va_Qi (fun (rr : Int32) (uu : Unit) => rr = out) (fun (uu : Unit) (t : State) => va_P D cls9 (wd_Gr_hasNode cA a_g g_manner g_nodes g_arcs) t.heap ∧ va_K D cls9 (tys5 cA) t ∧ va_D (va_A (wd_Gr_hasNode cA a_g g_manner g_nodes g_arcs) sz) (wd_Gr_hasNode cA a_g g_manner g_nodes g_arcs)) (va_A (wd_Gr_hasNode cA a_g g_manner g_nodes g_arcs) sz)) 0 0 (va_A (wd_Gr_hasNode cA a_g g_manner g_nodes g_arcs) sz) := by
  refine Met.ofW (cc := b_Gr_hasNode) (maxL := 2) (ret := (Option.some Jvm.ClassFile.FieldType.boolean)) (by decide) rfl ?_
  intro p e s m args below meth c s₁ B hml hv
  obtain ⟨rfl, hsz, hP, hK, hD0⟩ := hv
  have hx := B.exec
  have hb := B.bytes
  have hr := B.returns
  have hts := atoms_spec (ws := w_Gr_hasNode) B.pre
  have hal : ∀ w ∈ ALLW, w.before _ s = true := fun w hw => hts w (List.mem_cons_of_mem _ hw)
  have hown : s.vm.findClass R_Gr = some m.cls := findClass_of_methodNamed B.named
  have hlocks := B.notSynchronized
  subst hsz
  have hD := hD0.self (sz := s.heap.size)
  generalize hAe : va_A (wd_Gr_hasNode cA a_g g_manner g_nodes g_arcs) s.heap.size = A at hD ⊢
  have hA : ∀ q : Nat, s.heap.size ≤ q → A q := fun q h => by rw [← hAe]; exact Or.inr h
  have hS : va_S A s.heap s.heap [] := va_S.rf
  have hl := lv_entry ([.ref (a_g 0), .int v1]) (n := 2) (Nat.le_of_ble_eq_true rfl)
  rw [lg_entry_eq]
  generalize (lg_sl ([.ref (a_g 0), .int v1]) ++ List.replicate (2 - (lg_sl ([.ref (a_g 0), .int v1])).length) Slot.unset).toArray = ls at hl ⊢
  have hl : lv_has ls 2 [(0, .ref (a_g 0)), (1, .int v1)] := hl
  refine wg (fun G hG => ?_)
  refine cast (hG _ _ _ _ _ _ _).symm ?_
  obtain ⟨H, locs, hHl, hS⟩ : ∃ (H : Heap) (locs : List Loc), (H = s.heap ∧ locs = []) ∧ va_S A s.heap H locs := ⟨s.heap, [], ⟨rfl, rfl⟩, hS⟩
  have hP : va_P D cls9 (wd_Gr_hasNode cA a_g g_manner g_nodes g_arcs) H := by rw [hHl.1]; exact hP
  rw [← hHl.1, ← hHl.2]
  clear hHl
  refine lv_iload_n hx hb d_Gr_hasNode_0 rfl (lv_at hl 1 rfl) ?_
  refine lv_if_lt (tgt := 16) hx hb d_Gr_hasNode_1 (by decide) (fun c_1 => ?_) (fun c_1 => ?_)
  · have h := ifp (c_1) h
    refine lv_iconst (v := 0) hx hb d_Gr_hasNode_16 (by decide) ?_
    exact W.zret (v := (0 : Int32)) hx hb hr (by decide) (fun t ht hW => ⟨⟨(0 : Int32), (), rfl, Option.some.inj h, by rw [ht]; exact hP, va_K.moved hW.alike hK, hD⟩, hS.F ht⟩) hS.2.2 d_Gr_hasNode_17
  · have h := ifn (c_1) h
    refine lv_iload_n hx hb d_Gr_hasNode_4 rfl (lv_at hl 1 rfl) ?_
    refine lv_aload_n hx hb d_Gr_hasNode_5 rfl (lv_at hl 0 rfl) ?_
    refine va_get (ci := 1) (v := .int g_nodes) (C := R_Gr) (T := F_Gr) (N := 6) hx hb hal in_Gr hown hK hP 0 rfl rfl 1 (by decide) (hal _ kw_31) (fun _ h9 => h9) rfl d_Gr_hasNode_6 ?_
    refine lv_icmp_ge (tgt := 16) hx hb d_Gr_hasNode_9 (by decide) (fun c_2 => ?_) (fun c_2 => ?_)
    · have h := ifp (c_2) h
      refine lv_iconst (v := 0) hx hb d_Gr_hasNode_16 (by decide) ?_
      exact W.zret (v := (0 : Int32)) hx hb hr (by decide) (fun t ht hW => ⟨⟨(0 : Int32), (), rfl, Option.some.inj h, by rw [ht]; exact hP, va_K.moved hW.alike hK, hD⟩, hS.F ht⟩) hS.2.2 d_Gr_hasNode_17
    · have h := ifn (c_2) h
      refine lv_iconst (v := 1) hx hb d_Gr_hasNode_12 (by decide) ?_
      refine lv_goto (tgt := 17) hx hb d_Gr_hasNode_13 (by decide) ?_
      exact W.zret (v := (1 : Int32)) hx hb hr (by decide) (fun t ht hW => ⟨⟨(1 : Int32), (), rfl, Option.some.inj h, by rw [ht]; exact hP, va_K.moved hW.alike hK, hD⟩, hS.F ht⟩) hS.2.2 d_Gr_hasNode_17
def wd_Gr_hasNodes (cA : Nat → ClassId) (a_g : Nat → Nat) (g_manner : Int32) (g_nodes : Int32) (g_arcs : Int32) : va_W := [(a_g 0, .inr (1, [.int g_manner, .int g_nodes, .int g_arcs, .ref (a_g 1), .ref (a_g 2), .ref (a_g 3)]))]
noncomputable def m_Gr_hasNodes (g_nodes : Int32) (v1 : Int32) (v2 : Int32) : Option Int32 :=
  ((m_Gr_hasNode g_nodes v1).bind (fun r2 : Int32 => (if r2 = 0 then some (0 : Int32) else ((m_Gr_hasNode g_nodes v2).bind (fun r10 : Int32 => (if r10 = 0 then some (0 : Int32) else some (1 : Int32)))))))
set_option maxHeartbeats 4000000 in
set_option maxRecDepth 100000 in
theorem c_Gr_hasNodes (l : Launch) (D : va_G) (cA : Nat → ClassId) (a_g : Nat → Nat) (sz : Nat) (g_manner : Int32) (g_nodes : Int32) (g_arcs : Int32) (v1 : Int32) (v2 : Int32) (out : Int32) (h : m_Gr_hasNodes g_nodes v1 v2 = some out) : Met l y_Gr_hasNodes w_Gr_hasNodes ({ frames := 1, cells := 0, slots := 0, locals := 21 }) (va_Pc [.ref (a_g 0), .int v1, .int v2] (fun U => U.heap.size = sz ∧ va_P D cls9 (wd_Gr_hasNodes cA a_g g_manner g_nodes g_arcs) U.heap ∧ va_K D cls9 (tys5 cA) U ∧ va_D (fun _ => True) (wd_Gr_hasNodes cA a_g g_manner g_nodes g_arcs))) (va_Qi (fun (rr : Int32) (uu : Unit) => rr = out) (fun (uu : Unit) (t : State) => va_P D cls9 (wd_Gr_hasNodes cA a_g g_manner g_nodes g_arcs) t.heap ∧ va_K D cls9 (tys5 cA) t ∧ va_D (va_A (wd_Gr_hasNodes cA a_g g_manner g_nodes g_arcs) sz) (wd_Gr_hasNodes cA a_g g_manner g_nodes g_arcs)) (va_A (wd_Gr_hasNodes cA a_g g_manner g_nodes g_arcs) sz)) 0 0 (va_A (wd_Gr_hasNodes cA a_g g_manner g_nodes g_arcs) sz) := by
  refine Met.ofW (cc := b_Gr_hasNodes) (maxL := 3) (ret := (Option.some Jvm.ClassFile.FieldType.boolean)) (by decide) rfl ?_
  intro p e s m args below meth c s₁ B hml hv
  obtain ⟨rfl, hsz, hP, hK, hD0⟩ := hv
  have hx := B.exec
  have hb := B.bytes
  have hr := B.returns
  have hts := atoms_spec (ws := w_Gr_hasNodes) B.pre
  have hal : ∀ w ∈ ALLW, w.before _ s = true := fun w hw => hts w (List.mem_cons_of_mem _ hw)
  have hown : s.vm.findClass R_Gr = some m.cls := findClass_of_methodNamed B.named
  have hlocks := B.notSynchronized
  subst hsz
  have hD := hD0.self (sz := s.heap.size)
  generalize hAe : va_A (wd_Gr_hasNodes cA a_g g_manner g_nodes g_arcs) s.heap.size = A at hD ⊢
  have hA : ∀ q : Nat, s.heap.size ≤ q → A q := fun q h => by rw [← hAe]; exact Or.inr h
  have hS : va_S A s.heap s.heap [] := va_S.rf
  have hl := lv_entry ([.ref (a_g 0), .int v1, .int v2]) (n := 3) (Nat.le_of_ble_eq_true rfl)
  rw [lg_entry_eq]
  generalize (lg_sl ([.ref (a_g 0), .int v1, .int v2]) ++ List.replicate (3 - (lg_sl ([.ref (a_g 0), .int v1, .int v2])).length) Slot.unset).toArray = ls at hl ⊢
  have hl : lv_has ls 3 [(0, .ref (a_g 0)), (1, .int v1), (2, .int v2)] := hl
  refine wg (fun G hG => ?_)
  refine cast (hG _ _ _ _ _ _ _).symm ?_
  obtain ⟨H, locs, hHl, hS⟩ : ∃ (H : Heap) (locs : List Loc), (H = s.heap ∧ locs = []) ∧ va_S A s.heap H locs := ⟨s.heap, [], ⟨rfl, rfl⟩, hS⟩
  have hP : va_P D cls9 (wd_Gr_hasNodes cA a_g g_manner g_nodes g_arcs) H := by rw [hHl.1]; exact hP
  rw [← hHl.1, ← hHl.2]
  clear hHl
  refine lv_aload_n hx hb d_Gr_hasNodes_0 rfl (lv_at hl 0 rfl) ?_
  refine lv_iload_n hx hb d_Gr_hasNodes_1 rfl (lv_at hl 1 rfl) ?_
  obtain ⟨o_4, hc_3, h⟩ := bd h
  have hPc := hP.sub (ws' := (wd_Gr_hasNode cA a_g g_manner g_nodes g_arcs)) [0] rfl
  have hDc := hD.sub (ws' := (wd_Gr_hasNode cA a_g g_manner g_nodes g_arcs)) [0] (by decide) rfl
  have hFc := va_free (wc := (wd_Gr_hasNode cA a_g g_manner g_nodes g_arcs)) hD hS hA [0] rfl
  refine va_calli (va_runV (C := R_Gr) (As := [.int v1]) (rest := []) ⟨hx, hb, hml, hown, hal⟩ (c_Gr_hasNode l D cA a_g H.size g_manner g_nodes g_arcs v1 o_4 hc_3) (cwV 1 hal (goodV kw_334 kw_335 kw_336 kw_2 kw_337) rfl rfl rfl (by decide +kernel) ⟨Nat.le_of_ble_eq_true rfl, Nat.le_of_ble_eq_true rfl⟩) ⟨fun a U g mk q => by obtain ⟨q0, q1, qP, qK, qD⟩ := q; exact ⟨q0, q1, qP, va_K.moved (u := U) (U := U.calling g mk a) (Vm.Alike.refl U.vm) qK, qD⟩, va_recv hK hP (ci := 1) (q0 := 0) rfl rfl, fun U hU hW => ⟨rfl, by rw [hU], by rw [hU]; exact hPc, va_K.moved hW.alike hK, hDc.weaken (fun _ _ _ _ => trivial)⟩⟩ rfl rfl hl.1 rfl (lv_room (Nat.le_of_ble_eq_true rfl)) d_Gr_hasNodes_2 ⟨Nat.le_of_ble_eq_true rfl, Nat.le_of_ble_eq_true rfl⟩) hS (fun q _ h => hFc q h) hFc (fun r_2 u t H1 locs ht hvm hw hB hz1 hk1 hS => ?_)
  subst hw
  obtain ⟨hP1, hK1, hD1⟩ := hB
  rw [ht] at hP1
  have hP1 : va_P D cls9 (wd_Gr_hasNode cA a_g g_manner g_nodes g_arcs) H1 := hP1
  obtain ⟨hP, hD⟩ := va_join (wr := ([] : List Nat).filterMap (fun i => (wd_Gr_hasNodes cA a_g g_manner g_nodes g_arcs)[i]?)) (w1 := (wd_Gr_hasNode cA a_g g_manner g_nodes g_arcs)) hP hD [0] [] rfl rfl (by decide) (by decide) hk1 hFc hP1 hD1
  generalize H1 = H at hP hS ⊢
  have hP : va_P D cls9 (wd_Gr_hasNodes cA a_g g_manner g_nodes g_arcs) H := hP.sub [0] rfl
  have hD : va_D A (wd_Gr_hasNodes cA a_g g_manner g_nodes g_arcs) := hD.sub [0] (by decide) rfl
  refine lv_if_eq (tgt := 20) hx hb d_Gr_hasNodes_5 (by decide) (fun c_5 => ?_) (fun c_5 => ?_)
  · have h := ifp (c_5) h
    refine lv_iconst (v := 0) hx hb d_Gr_hasNodes_20 (by decide) ?_
    exact W.zret (v := (0 : Int32)) hx hb hr (by decide) (fun t ht hW => ⟨⟨(0 : Int32), (), rfl, Option.some.inj h, by rw [ht]; exact hP, va_K.moved hW.alike hK, hD⟩, hS.F ht⟩) hS.2.2 d_Gr_hasNodes_21
  · have h := ifn (c_5) h
    refine lv_aload_n hx hb d_Gr_hasNodes_8 rfl (lv_at hl 0 rfl) ?_
    refine lv_iload_n hx hb d_Gr_hasNodes_9 rfl (lv_at hl 2 rfl) ?_
    obtain ⟨o_9, hc_8, h⟩ := bd h
    have hPc := hP.sub (ws' := (wd_Gr_hasNode cA a_g g_manner g_nodes g_arcs)) [0] rfl
    have hDc := hD.sub (ws' := (wd_Gr_hasNode cA a_g g_manner g_nodes g_arcs)) [0] (by decide) rfl
    have hFc := va_free (wc := (wd_Gr_hasNode cA a_g g_manner g_nodes g_arcs)) hD hS hA [0] rfl
    refine va_calli (va_runV (C := R_Gr) (As := [.int v2]) (rest := []) ⟨hx, hb, hml, hown, hal⟩ (c_Gr_hasNode l D cA a_g H.size g_manner g_nodes g_arcs v2 o_9 hc_8) (cwV 1 hal (goodV kw_334 kw_335 kw_336 kw_2 kw_337) rfl rfl rfl (by decide +kernel) ⟨Nat.le_of_ble_eq_true rfl, Nat.le_of_ble_eq_true rfl⟩) ⟨fun a U g mk q => by obtain ⟨q0, q1, qP, qK, qD⟩ := q; exact ⟨q0, q1, qP, va_K.moved (u := U) (U := U.calling g mk a) (Vm.Alike.refl U.vm) qK, qD⟩, va_recv hK hP (ci := 1) (q0 := 0) rfl rfl, fun U hU hW => ⟨rfl, by rw [hU], by rw [hU]; exact hPc, va_K.moved hW.alike hK, hDc.weaken (fun _ _ _ _ => trivial)⟩⟩ rfl rfl hl.1 rfl (lv_room (Nat.le_of_ble_eq_true rfl)) d_Gr_hasNodes_10 ⟨Nat.le_of_ble_eq_true rfl, Nat.le_of_ble_eq_true rfl⟩) hS (fun q _ h => hFc q h) hFc (fun r_7 u t H1 locs ht hvm hw hB hz1 hk1 hS => ?_)
    subst hw
    obtain ⟨hP1, hK1, hD1⟩ := hB
    rw [ht] at hP1
    have hP1 : va_P D cls9 (wd_Gr_hasNode cA a_g g_manner g_nodes g_arcs) H1 := hP1
    obtain ⟨hP, hD⟩ := va_join (wr := ([] : List Nat).filterMap (fun i => (wd_Gr_hasNodes cA a_g g_manner g_nodes g_arcs)[i]?)) (w1 := (wd_Gr_hasNode cA a_g g_manner g_nodes g_arcs)) hP hD [0] [] rfl rfl (by decide) (by decide) hk1 hFc hP1 hD1
    generalize H1 = H at hP hS ⊢
    have hP : va_P D cls9 (wd_Gr_hasNodes cA a_g g_manner g_nodes g_arcs) H := hP.sub [0] rfl
    have hD : va_D A (wd_Gr_hasNodes cA a_g g_manner g_nodes g_arcs) := hD.sub [0] (by decide) rfl
    refine lv_if_eq (tgt := 20) hx hb d_Gr_hasNodes_13 (by decide) (fun c_10 => ?_) (fun c_10 => ?_)
    · have h := ifp (c_10) h
      refine lv_iconst (v := 0) hx hb d_Gr_hasNodes_20 (by decide) ?_
      exact W.zret (v := (0 : Int32)) hx hb hr (by decide) (fun t ht hW => ⟨⟨(0 : Int32), (), rfl, Option.some.inj h, by rw [ht]; exact hP, va_K.moved hW.alike hK, hD⟩, hS.F ht⟩) hS.2.2 d_Gr_hasNodes_21
    · have h := ifn (c_10) h
      refine lv_iconst (v := 1) hx hb d_Gr_hasNodes_16 (by decide) ?_
      refine lv_goto (tgt := 21) hx hb d_Gr_hasNodes_17 (by decide) ?_
      exact W.zret (v := (1 : Int32)) hx hb hr (by decide) (fun t ht hW => ⟨⟨(1 : Int32), (), rfl, Option.some.inj h, by rw [ht]; exact hP, va_K.moved hW.alike hK, hD⟩, hS.F ht⟩) hS.2.2 d_Gr_hasNodes_21
def wd_Gr_hasArc (cA : Nat → ClassId) (a_g : Nat → Nat) (g_manner : Int32) (g_nodes : Int32) (g_arcs : Int32) (g_weight : Nat → Int32) : va_W := [(a_g 0, .inr (1, [.int g_manner, .int g_nodes, .int g_arcs, .ref (a_g 1), .ref (a_g 2), .ref (a_g 3)])), (a_g 3, .inl (cA 0, 36, .inl g_weight))]
noncomputable def m_Gr_hasArc (g_arcs : Int32) (g_weight : Nat → Int32) (v1 : Int32) : Option Int32 :=
  (if v1 < 0 then some (0 : Int32) else (if g_arcs ≤ v1 then some (0 : Int32) else (if inb v1 36 then (if (g_weight v1.toNatClampNeg) = 0 then some (0 : Int32) else some (1 : Int32)) else none)))
set_option maxHeartbeats 4000000 in
set_option maxRecDepth 100000 in
theorem c_Gr_hasArc (l : Launch) (D : va_G) (cA : Nat → ClassId) (a_g : Nat → Nat) (sz : Nat) (g_manner : Int32) (g_nodes : Int32) (g_arcs : Int32) (g_weight : Nat → Int32) (v1 : Int32) (out : Int32) (h : m_Gr_hasArc g_arcs g_weight v1 = some out) : Met l y_Gr_hasArc w_Gr_hasArc ({ frames := 0, cells := 0, slots := 0, locals := 0 }) (va_Pc [.ref (a_g 0), .int v1] (fun U => U.heap.size = sz ∧ va_P D cls9 (wd_Gr_hasArc cA a_g g_manner g_nodes g_arcs g_weight) U.heap ∧ va_K D cls9 (tys5 cA) U ∧ va_D (fun _ => True) (wd_Gr_hasArc cA a_g g_manner g_nodes g_arcs g_weight))) (va_Qi (fun (rr : Int32) (uu : Unit) => rr = out) (fun (uu : Unit) (t : State) => va_P D cls9 (wd_Gr_hasArc cA a_g g_manner g_nodes g_arcs g_weight) t.heap ∧ va_K D cls9 (tys5 cA) t ∧ va_D (va_A (wd_Gr_hasArc cA a_g g_manner g_nodes g_arcs g_weight) sz) (wd_Gr_hasArc cA a_g g_manner g_nodes g_arcs g_weight)) (va_A (wd_Gr_hasArc cA a_g g_manner g_nodes g_arcs g_weight) sz)) 0 0 (va_A (wd_Gr_hasArc cA a_g g_manner g_nodes g_arcs g_weight) sz) := by
  refine Met.ofW (cc := b_Gr_hasArc) (maxL := 2) (ret := (Option.some Jvm.ClassFile.FieldType.boolean)) (by decide) rfl ?_
  intro p e s m args below meth c s₁ B hml hv
  obtain ⟨rfl, hsz, hP, hK, hD0⟩ := hv
  have hx := B.exec
  have hb := B.bytes
  have hr := B.returns
  have hts := atoms_spec (ws := w_Gr_hasArc) B.pre
  have hal : ∀ w ∈ ALLW, w.before _ s = true := fun w hw => hts w (List.mem_cons_of_mem _ hw)
  have hown : s.vm.findClass R_Gr = some m.cls := findClass_of_methodNamed B.named
  have hlocks := B.notSynchronized
  subst hsz
  have hD := hD0.self (sz := s.heap.size)
  generalize hAe : va_A (wd_Gr_hasArc cA a_g g_manner g_nodes g_arcs g_weight) s.heap.size = A at hD ⊢
  have hA : ∀ q : Nat, s.heap.size ≤ q → A q := fun q h => by rw [← hAe]; exact Or.inr h
  have hS : va_S A s.heap s.heap [] := va_S.rf
  have hl := lv_entry ([.ref (a_g 0), .int v1]) (n := 2) (Nat.le_of_ble_eq_true rfl)
  rw [lg_entry_eq]
  generalize (lg_sl ([.ref (a_g 0), .int v1]) ++ List.replicate (2 - (lg_sl ([.ref (a_g 0), .int v1])).length) Slot.unset).toArray = ls at hl ⊢
  have hl : lv_has ls 2 [(0, .ref (a_g 0)), (1, .int v1)] := hl
  refine wg (fun G hG => ?_)
  refine cast (hG _ _ _ _ _ _ _).symm ?_
  obtain ⟨H, locs, hHl, hS⟩ : ∃ (H : Heap) (locs : List Loc), (H = s.heap ∧ locs = []) ∧ va_S A s.heap H locs := ⟨s.heap, [], ⟨rfl, rfl⟩, hS⟩
  have hP : va_P D cls9 (wd_Gr_hasArc cA a_g g_manner g_nodes g_arcs g_weight) H := by rw [hHl.1]; exact hP
  rw [← hHl.1, ← hHl.2]
  clear hHl
  refine lv_iload_n hx hb d_Gr_hasArc_0 rfl (lv_at hl 1 rfl) ?_
  refine lv_if_lt (tgt := 25) hx hb d_Gr_hasArc_1 (by decide) (fun c_1 => ?_) (fun c_1 => ?_)
  · have h := ifp (c_1) h
    refine lv_iconst (v := 0) hx hb d_Gr_hasArc_25 (by decide) ?_
    exact W.zret (v := (0 : Int32)) hx hb hr (by decide) (fun t ht hW => ⟨⟨(0 : Int32), (), rfl, Option.some.inj h, by rw [ht]; exact hP, va_K.moved hW.alike hK, hD⟩, hS.F ht⟩) hS.2.2 d_Gr_hasArc_26
  · have h := ifn (c_1) h
    refine lv_iload_n hx hb d_Gr_hasArc_4 rfl (lv_at hl 1 rfl) ?_
    refine lv_aload_n hx hb d_Gr_hasArc_5 rfl (lv_at hl 0 rfl) ?_
    refine va_get (ci := 1) (v := .int g_arcs) (C := R_Gr) (T := F_Gr) (N := 6) hx hb hal in_Gr hown hK hP 0 rfl rfl 2 (by decide) (hal _ kw_34) (fun _ h9 => h9) rfl d_Gr_hasArc_6 ?_
    refine lv_icmp_ge (tgt := 25) hx hb d_Gr_hasArc_9 (by decide) (fun c_2 => ?_) (fun c_2 => ?_)
    · have h := ifp (c_2) h
      refine lv_iconst (v := 0) hx hb d_Gr_hasArc_25 (by decide) ?_
      exact W.zret (v := (0 : Int32)) hx hb hr (by decide) (fun t ht hW => ⟨⟨(0 : Int32), (), rfl, Option.some.inj h, by rw [ht]; exact hP, va_K.moved hW.alike hK, hD⟩, hS.F ht⟩) hS.2.2 d_Gr_hasArc_26
    · have h := ifn (c_2) h
      refine lv_aload_n hx hb d_Gr_hasArc_12 rfl (lv_at hl 0 rfl) ?_
      refine va_get (ci := 1) (v := .ref (a_g 3)) (C := R_Gr) (T := F_Gr) (N := 6) hx hb hal in_Gr hown hK hP 0 rfl rfl 5 (by decide) (hal _ kw_40) (fun _ h9 => h9) rfl d_Gr_hasArc_13 ?_
      refine lv_iload_n hx hb d_Gr_hasArc_16 rfl (lv_at hl 1 rfl) ?_
      obtain ⟨g_3, h⟩ := gd h
      refine va_iald hx hb hK hP 1 0 rfl rfl (inb_in g_3) d_Gr_hasArc_17 ?_
      refine lv_if_eq (tgt := 25) hx hb d_Gr_hasArc_18 (by decide) (fun c_4 => ?_) (fun c_4 => ?_)
      · have h := ifp (c_4) h
        refine lv_iconst (v := 0) hx hb d_Gr_hasArc_25 (by decide) ?_
        exact W.zret (v := (0 : Int32)) hx hb hr (by decide) (fun t ht hW => ⟨⟨(0 : Int32), (), rfl, Option.some.inj h, by rw [ht]; exact hP, va_K.moved hW.alike hK, hD⟩, hS.F ht⟩) hS.2.2 d_Gr_hasArc_26
      · have h := ifn (c_4) h
        refine lv_iconst (v := 1) hx hb d_Gr_hasArc_21 (by decide) ?_
        refine lv_goto (tgt := 26) hx hb d_Gr_hasArc_22 (by decide) ?_
        exact W.zret (v := (1 : Int32)) hx hb hr (by decide) (fun t ht hW => ⟨⟨(1 : Int32), (), rfl, Option.some.inj h, by rw [ht]; exact hP, va_K.moved hW.alike hK, hD⟩, hS.F ht⟩) hS.2.2 d_Gr_hasArc_26
def wd_Gr_counts (cA : Nat → ClassId) (a_g : Nat → Nat) (g_manner : Int32) (g_nodes : Int32) (g_arcs : Int32) (g_weight : Nat → Int32) : va_W := [(a_g 0, .inr (1, [.int g_manner, .int g_nodes, .int g_arcs, .ref (a_g 1), .ref (a_g 2), .ref (a_g 3)])), (a_g 3, .inl (cA 0, 36, .inl g_weight))]
noncomputable def m_Gr_counts (g_manner : Int32) (g_weight : Nat → Int32) (v1 : Int32) : Option Int32 :=
  (if inb v1 36 then (if 0 < (g_weight v1.toNatClampNeg) then some (1 : Int32) else (if g_manner = (1 : Int32) then (if (g_weight v1.toNatClampNeg) = 0 then some (0 : Int32) else some (1 : Int32)) else some (0 : Int32))) else none)
set_option maxHeartbeats 4000000 in
set_option maxRecDepth 100000 in
theorem c_Gr_counts (l : Launch) (D : va_G) (cA : Nat → ClassId) (a_g : Nat → Nat) (sz : Nat) (g_manner : Int32) (g_nodes : Int32) (g_arcs : Int32) (g_weight : Nat → Int32) (v1 : Int32) (out : Int32) (h : m_Gr_counts g_manner g_weight v1 = some out) : Met l y_Gr_counts w_Gr_counts ({ frames := 0, cells := 0, slots := 0, locals := 0 }) (va_Pc [.ref (a_g 0), .int v1] (fun U => U.heap.size = sz ∧ va_P D cls9 (wd_Gr_counts cA a_g g_manner g_nodes g_arcs g_weight) U.heap ∧ va_K D cls9 (tys5 cA) U ∧ va_D (fun _ => True) (wd_Gr_counts cA a_g g_manner g_nodes g_arcs g_weight))) (va_Qi (fun (rr : Int32) (uu : Unit) => rr = out) (fun (uu : Unit) (t : State) => va_P D cls9 (wd_Gr_counts cA a_g g_manner g_nodes g_arcs g_weight) t.heap ∧ va_K D cls9 (tys5 cA) t ∧ va_D (va_A (wd_Gr_counts cA a_g g_manner g_nodes g_arcs g_weight) sz) (wd_Gr_counts cA a_g g_manner g_nodes g_arcs g_weight)) (va_A (wd_Gr_counts cA a_g g_manner g_nodes g_arcs g_weight) sz)) 0 0 (va_A (wd_Gr_counts cA a_g g_manner g_nodes g_arcs g_weight) sz) := by
  refine Met.ofW (cc := b_Gr_counts) (maxL := 2) (ret := (Option.some Jvm.ClassFile.FieldType.boolean)) (by decide) rfl ?_
  intro p e s m args below meth c s₁ B hml hv
  obtain ⟨rfl, hsz, hP, hK, hD0⟩ := hv
  have hx := B.exec
  have hb := B.bytes
  have hr := B.returns
  have hts := atoms_spec (ws := w_Gr_counts) B.pre
  have hal : ∀ w ∈ ALLW, w.before _ s = true := fun w hw => hts w (List.mem_cons_of_mem _ hw)
  have hown : s.vm.findClass R_Gr = some m.cls := findClass_of_methodNamed B.named
  have hlocks := B.notSynchronized
  subst hsz
  have hD := hD0.self (sz := s.heap.size)
  generalize hAe : va_A (wd_Gr_counts cA a_g g_manner g_nodes g_arcs g_weight) s.heap.size = A at hD ⊢
  have hA : ∀ q : Nat, s.heap.size ≤ q → A q := fun q h => by rw [← hAe]; exact Or.inr h
  have hS : va_S A s.heap s.heap [] := va_S.rf
  have hl := lv_entry ([.ref (a_g 0), .int v1]) (n := 2) (Nat.le_of_ble_eq_true rfl)
  rw [lg_entry_eq]
  generalize (lg_sl ([.ref (a_g 0), .int v1]) ++ List.replicate (2 - (lg_sl ([.ref (a_g 0), .int v1])).length) Slot.unset).toArray = ls at hl ⊢
  have hl : lv_has ls 2 [(0, .ref (a_g 0)), (1, .int v1)] := hl
  refine wg (fun G hG => ?_)
  refine cast (hG _ _ _ _ _ _ _).symm ?_
  obtain ⟨H, locs, hHl, hS⟩ : ∃ (H : Heap) (locs : List Loc), (H = s.heap ∧ locs = []) ∧ va_S A s.heap H locs := ⟨s.heap, [], ⟨rfl, rfl⟩, hS⟩
  have hP : va_P D cls9 (wd_Gr_counts cA a_g g_manner g_nodes g_arcs g_weight) H := by rw [hHl.1]; exact hP
  rw [← hHl.1, ← hHl.2]
  clear hHl
  refine lv_aload_n hx hb d_Gr_counts_0 rfl (lv_at hl 0 rfl) ?_
  refine va_get (ci := 1) (v := .ref (a_g 3)) (C := R_Gr) (T := F_Gr) (N := 6) hx hb hal in_Gr hown hK hP 0 rfl rfl 5 (by decide) (hal _ kw_40) (fun _ h9 => h9) rfl d_Gr_counts_1 ?_
  refine lv_iload_n hx hb d_Gr_counts_4 rfl (lv_at hl 1 rfl) ?_
  obtain ⟨g_1, h⟩ := gd h
  refine va_iald hx hb hK hP 1 0 rfl rfl (inb_in g_1) d_Gr_counts_5 ?_
  refine lv_if_gt (tgt := 26) hx hb d_Gr_counts_6 (by decide) (fun c_2 => ?_) (fun c_2 => ?_)
  · have h := ifp (c_2) h
    refine lv_iconst (v := 1) hx hb d_Gr_counts_26 (by decide) ?_
    refine lv_goto (tgt := 31) hx hb d_Gr_counts_27 (by decide) ?_
    exact W.zret (v := (1 : Int32)) hx hb hr (by decide) (fun t ht hW => ⟨⟨(1 : Int32), (), rfl, Option.some.inj h, by rw [ht]; exact hP, va_K.moved hW.alike hK, hD⟩, hS.F ht⟩) hS.2.2 d_Gr_counts_31
  · have h := ifn (c_2) h
    refine lv_aload_n hx hb d_Gr_counts_9 rfl (lv_at hl 0 rfl) ?_
    refine va_get (ci := 1) (v := .int g_manner) (C := R_Gr) (T := F_Gr) (N := 6) hx hb hal in_Gr hown hK hP 0 rfl rfl 0 (by decide) (hal _ kw_29) (fun _ h9 => h9) rfl d_Gr_counts_10 ?_
    refine lv_iconst (v := 1) hx hb d_Gr_counts_13 (by decide) ?_
    refine lv_icmp_ne (tgt := 30) hx hb d_Gr_counts_14 (by decide) (fun c_3 => ?_) (fun c_3 => ?_)
    · have h := ifn (c_3) h
      refine lv_iconst (v := 0) hx hb d_Gr_counts_30 (by decide) ?_
      exact W.zret (v := (0 : Int32)) hx hb hr (by decide) (fun t ht hW => ⟨⟨(0 : Int32), (), rfl, Option.some.inj h, by rw [ht]; exact hP, va_K.moved hW.alike hK, hD⟩, hS.F ht⟩) hS.2.2 d_Gr_counts_31
    · have h := ifp (c_3) h
      refine lv_aload_n hx hb d_Gr_counts_17 rfl (lv_at hl 0 rfl) ?_
      refine va_get (ci := 1) (v := .ref (a_g 3)) (C := R_Gr) (T := F_Gr) (N := 6) hx hb hal in_Gr hown hK hP 0 rfl rfl 5 (by decide) (hal _ kw_40) (fun _ h9 => h9) rfl d_Gr_counts_18 ?_
      refine lv_iload_n hx hb d_Gr_counts_21 rfl (lv_at hl 1 rfl) ?_
      refine va_iald hx hb hK hP 1 0 rfl rfl (inb_in g_1) d_Gr_counts_22 ?_
      refine lv_if_eq (tgt := 30) hx hb d_Gr_counts_23 (by decide) (fun c_4 => ?_) (fun c_4 => ?_)
      · have h := ifp (c_4) h
        refine lv_iconst (v := 0) hx hb d_Gr_counts_30 (by decide) ?_
        exact W.zret (v := (0 : Int32)) hx hb hr (by decide) (fun t ht hW => ⟨⟨(0 : Int32), (), rfl, Option.some.inj h, by rw [ht]; exact hP, va_K.moved hW.alike hK, hD⟩, hS.F ht⟩) hS.2.2 d_Gr_counts_31
      · have h := ifn (c_4) h
        refine lv_iconst (v := 1) hx hb d_Gr_counts_26 (by decide) ?_
        refine lv_goto (tgt := 31) hx hb d_Gr_counts_27 (by decide) ?_
        exact W.zret (v := (1 : Int32)) hx hb hr (by decide) (fun t ht hW => ⟨⟨(1 : Int32), (), rfl, Option.some.inj h, by rw [ht]; exact hP, va_K.moved hW.alike hK, hD⟩, hS.F ht⟩) hS.2.2 d_Gr_counts_31
def wd_Gr_addArc (cA : Nat → ClassId) (a_g : Nat → Nat) (g_manner : Int32) (g_nodes : Int32) (g_arcs : Int32) (g_from : Nat → Int32) (g_to : Nat → Int32) (g_weight : Nat → Int32) : va_W := [(a_g 0, .inr (1, [.int g_manner, .int g_nodes, .int g_arcs, .ref (a_g 1), .ref (a_g 2), .ref (a_g 3)])), (a_g 1, .inl (cA 0, 36, .inl g_from)), (a_g 2, .inl (cA 0, 36, .inl g_to)), (a_g 3, .inl (cA 0, 36, .inl g_weight))]
noncomputable def m_Gr_addArc (g_arcs : Int32) (g_from : Nat → Int32) (g_to : Nat → Int32) (g_weight : Nat → Int32) (v1 : Int32) (v2 : Int32) (v3 : Int32) : Option (Int32 × Int32 × (Nat → Int32) × (Nat → Int32) × (Nat → Int32)) :=
  (if inb g_arcs 36 then some (g_arcs, (g_arcs + (1 : Int32)), (upd g_from g_arcs.toNatClampNeg v1), (upd g_to g_arcs.toNatClampNeg v2), (upd g_weight g_arcs.toNatClampNeg v3)) else none)
set_option maxHeartbeats 4000000 in
set_option maxRecDepth 100000 in
theorem c_Gr_addArc (l : Launch) (D : va_G) (cA : Nat → ClassId) (a_g : Nat → Nat) (sz : Nat) (g_manner : Int32) (g_nodes : Int32) (g_arcs : Int32) (g_from : Nat → Int32) (g_to : Nat → Int32) (g_weight : Nat → Int32) (v1 : Int32) (v2 : Int32) (v3 : Int32) (out : Int32 × Int32 × (Nat → Int32) × (Nat → Int32) × (Nat → Int32)) (h : m_Gr_addArc g_arcs g_from g_to g_weight v1 v2 v3 = some out) : Met l y_Gr_addArc w_Gr_addArc ({ frames := 0, cells := 0, slots := 0, locals := 0 }) (va_Pc [.ref (a_g 0), .int v1, .int v2, .int v3] (fun U => U.heap.size = sz ∧ va_P D cls9 (wd_Gr_addArc cA a_g g_manner g_nodes g_arcs g_from g_to g_weight) U.heap ∧ va_K D cls9 (tys5 cA) U ∧ va_D (fun _ => True) (wd_Gr_addArc cA a_g g_manner g_nodes g_arcs g_from g_to g_weight))) (va_Qi (fun (rr : Int32) (uu : Int32 × (Nat → Int32) × (Nat → Int32) × (Nat → Int32)) => (rr, uu) = out) (fun (uu : Int32 × (Nat → Int32) × (Nat → Int32) × (Nat → Int32)) (t : State) => va_P D cls9 (wd_Gr_addArc cA a_g g_manner g_nodes uu.1 uu.2.1 uu.2.2.1 uu.2.2.2) t.heap ∧ va_K D cls9 (tys5 cA) t ∧ va_D (va_A (wd_Gr_addArc cA a_g g_manner g_nodes g_arcs g_from g_to g_weight) sz) (wd_Gr_addArc cA a_g g_manner g_nodes uu.1 uu.2.1 uu.2.2.1 uu.2.2.2)) (va_A (wd_Gr_addArc cA a_g g_manner g_nodes g_arcs g_from g_to g_weight) sz)) 0 0 (va_A (wd_Gr_addArc cA a_g g_manner g_nodes g_arcs g_from g_to g_weight) sz) := by
  refine Met.ofW (cc := b_Gr_addArc) (maxL := 5) (ret := (Option.some Jvm.ClassFile.FieldType.int)) (by decide) rfl ?_
  intro p e s m args below meth c s₁ B hml hv
  obtain ⟨rfl, hsz, hP, hK, hD0⟩ := hv
  have hx := B.exec
  have hb := B.bytes
  have hr := B.returns
  have hts := atoms_spec (ws := w_Gr_addArc) B.pre
  have hal : ∀ w ∈ ALLW, w.before _ s = true := fun w hw => hts w (List.mem_cons_of_mem _ hw)
  have hown : s.vm.findClass R_Gr = some m.cls := findClass_of_methodNamed B.named
  have hlocks := B.notSynchronized
  subst hsz
  have hD := hD0.self (sz := s.heap.size)
  generalize hAe : va_A (wd_Gr_addArc cA a_g g_manner g_nodes g_arcs g_from g_to g_weight) s.heap.size = A at hD ⊢
  have hA : ∀ q : Nat, s.heap.size ≤ q → A q := fun q h => by rw [← hAe]; exact Or.inr h
  have hS : va_S A s.heap s.heap [] := va_S.rf
  have hl := lv_entry ([.ref (a_g 0), .int v1, .int v2, .int v3]) (n := 5) (Nat.le_of_ble_eq_true rfl)
  rw [lg_entry_eq]
  generalize (lg_sl ([.ref (a_g 0), .int v1, .int v2, .int v3]) ++ List.replicate (5 - (lg_sl ([.ref (a_g 0), .int v1, .int v2, .int v3])).length) Slot.unset).toArray = ls at hl ⊢
  have hl : lv_has ls 5 [(0, .ref (a_g 0)), (1, .int v1), (2, .int v2), (3, .int v3)] := hl
  refine wg (fun G hG => ?_)
  refine cast (hG _ _ _ _ _ _ _).symm ?_
  obtain ⟨H, locs, hHl, hS⟩ : ∃ (H : Heap) (locs : List Loc), (H = s.heap ∧ locs = []) ∧ va_S A s.heap H locs := ⟨s.heap, [], ⟨rfl, rfl⟩, hS⟩
  have hP : va_P D cls9 (wd_Gr_addArc cA a_g g_manner g_nodes g_arcs g_from g_to g_weight) H := by rw [hHl.1]; exact hP
  rw [← hHl.1, ← hHl.2]
  clear hHl
  refine lv_aload_n hx hb d_Gr_addArc_0 rfl (lv_at hl 0 rfl) ?_
  refine va_get (ci := 1) (v := .int g_arcs) (C := R_Gr) (T := F_Gr) (N := 6) hx hb hal in_Gr hown hK hP 0 rfl rfl 2 (by decide) (hal _ kw_34) (fun _ h9 => h9) rfl d_Gr_addArc_1 ?_
  refine lv_istore (lv' := [(4, .int g_arcs), (0, .ref (a_g 0)), (1, .int v1), (2, .int v2), (3, .int v3)]) hx hb d_Gr_addArc_4 hl (by decide) rfl (fun ls hl => ?_)
  refine lv_aload_n hx hb d_Gr_addArc_6 rfl (lv_at hl 1 rfl) ?_
  refine va_get (ci := 1) (v := .ref (a_g 1)) (C := R_Gr) (T := F_Gr) (N := 6) hx hb hal in_Gr hown hK hP 0 rfl rfl 3 (by decide) (hal _ kw_36) (fun _ h9 => h9) rfl d_Gr_addArc_7 ?_
  refine lv_iload hx hb d_Gr_addArc_10 (lv_at hl 0 rfl) ?_
  refine lv_iload_n hx hb d_Gr_addArc_12 rfl (lv_at hl 2 rfl) ?_
  obtain ⟨g_1, h⟩ := gd h
  refine va_iast hx hb hK hP hD hS 1 0 rfl rfl (inb_in g_1) d_Gr_addArc_13 (fun H locs hP hD hS => ?_)
  have hP : va_P D cls9 (wd_Gr_addArc cA a_g g_manner g_nodes g_arcs (upd g_from g_arcs.toNatClampNeg v1) g_to g_weight) H := hP
  have hD : va_D A (wd_Gr_addArc cA a_g g_manner g_nodes g_arcs (upd g_from g_arcs.toNatClampNeg v1) g_to g_weight) := hD
  refine lv_aload_n hx hb d_Gr_addArc_14 rfl (lv_at hl 1 rfl) ?_
  refine va_get (ci := 1) (v := .ref (a_g 2)) (C := R_Gr) (T := F_Gr) (N := 6) hx hb hal in_Gr hown hK hP 0 rfl rfl 4 (by decide) (hal _ kw_38) (fun _ h9 => h9) rfl d_Gr_addArc_15 ?_
  refine lv_iload hx hb d_Gr_addArc_18 (lv_at hl 0 rfl) ?_
  refine lv_iload_n hx hb d_Gr_addArc_20 rfl (lv_at hl 3 rfl) ?_
  refine va_iast hx hb hK hP hD hS 2 0 rfl rfl (inb_in g_1) d_Gr_addArc_21 (fun H locs hP hD hS => ?_)
  have hP : va_P D cls9 (wd_Gr_addArc cA a_g g_manner g_nodes g_arcs (upd g_from g_arcs.toNatClampNeg v1) (upd g_to g_arcs.toNatClampNeg v2) g_weight) H := hP
  have hD : va_D A (wd_Gr_addArc cA a_g g_manner g_nodes g_arcs (upd g_from g_arcs.toNatClampNeg v1) (upd g_to g_arcs.toNatClampNeg v2) g_weight) := hD
  refine lv_aload_n hx hb d_Gr_addArc_22 rfl (lv_at hl 1 rfl) ?_
  refine va_get (ci := 1) (v := .ref (a_g 3)) (C := R_Gr) (T := F_Gr) (N := 6) hx hb hal in_Gr hown hK hP 0 rfl rfl 5 (by decide) (hal _ kw_40) (fun _ h9 => h9) rfl d_Gr_addArc_23 ?_
  refine lv_iload hx hb d_Gr_addArc_26 (lv_at hl 0 rfl) ?_
  refine lv_iload_n hx hb d_Gr_addArc_28 rfl (lv_at hl 4 rfl) ?_
  refine va_iast hx hb hK hP hD hS 3 0 rfl rfl (inb_in g_1) d_Gr_addArc_29 (fun H locs hP hD hS => ?_)
  have hP : va_P D cls9 (wd_Gr_addArc cA a_g g_manner g_nodes g_arcs (upd g_from g_arcs.toNatClampNeg v1) (upd g_to g_arcs.toNatClampNeg v2) (upd g_weight g_arcs.toNatClampNeg v3)) H := hP
  have hD : va_D A (wd_Gr_addArc cA a_g g_manner g_nodes g_arcs (upd g_from g_arcs.toNatClampNeg v1) (upd g_to g_arcs.toNatClampNeg v2) (upd g_weight g_arcs.toNatClampNeg v3)) := hD
  refine lv_aload_n hx hb d_Gr_addArc_30 rfl (lv_at hl 1 rfl) ?_
  refine lv_dup hx hb d_Gr_addArc_31 rfl ?_
  refine va_get (ci := 1) (v := .int g_arcs) (C := R_Gr) (T := F_Gr) (N := 6) hx hb hal in_Gr hown hK hP 0 rfl rfl 2 (by decide) (hal _ kw_34) (fun _ h9 => h9) rfl d_Gr_addArc_32 ?_
  refine lv_iconst (v := 1) hx hb d_Gr_addArc_35 (by decide) ?_
  refine lv_iadd hx hb d_Gr_addArc_36 ?_
  refine va_put (ci := 1) (v := .int (g_arcs + (1 : Int32))) (ty := .int) (C := R_Gr) (T := F_Gr) (N := 6) hx hb hal in_Gr t_Gr t_Gr_ok n_Gr hown hK hP hD hS 0 rfl rfl 2 (by decide) (hal _ kw_34) (fun _ h9 => h9) rfl (by decide +kernel) rfl rfl (Nat.le_of_ble_eq_true rfl) d_Gr_addArc_37 (fun H locs hP hD hS => ?_)
  have hP : va_P D cls9 (wd_Gr_addArc cA a_g g_manner g_nodes (g_arcs + (1 : Int32)) (upd g_from g_arcs.toNatClampNeg v1) (upd g_to g_arcs.toNatClampNeg v2) (upd g_weight g_arcs.toNatClampNeg v3)) H := hP
  have hD : va_D A (wd_Gr_addArc cA a_g g_manner g_nodes (g_arcs + (1 : Int32)) (upd g_from g_arcs.toNatClampNeg v1) (upd g_to g_arcs.toNatClampNeg v2) (upd g_weight g_arcs.toNatClampNeg v3)) := hD
  refine lv_iload hx hb d_Gr_addArc_40 (lv_at hl 0 rfl) ?_
  exact W.iret (v := g_arcs) hx hb hr (fun t ht hW => ⟨⟨g_arcs, ((g_arcs + (1 : Int32)), (upd g_from g_arcs.toNatClampNeg v1), (upd g_to g_arcs.toNatClampNeg v2), (upd g_weight g_arcs.toNatClampNeg v3)), rfl, Option.some.inj h, by rw [ht]; exact hP, va_K.moved hW.alike hK, hD⟩, hS.F ht⟩) hS.2.2 d_Gr_addArc_42
def wd_Gr_countArcs (cA : Nat → ClassId) (a_g : Nat → Nat) (g_manner : Int32) (g_nodes : Int32) (g_arcs : Int32) (g_weight : Nat → Int32) : va_W := [(a_g 0, .inr (1, [.int g_manner, .int g_nodes, .int g_arcs, .ref (a_g 1), .ref (a_g 2), .ref (a_g 3)])), (a_g 3, .inl (cA 0, 36, .inl g_weight))]
noncomputable def s_Gr_countArcs_4 (g_arcs : Int32) (g_weight : Nat → Int32) (zz : Int32 × Int32) (back exit : (Int32 × Int32) → Option Int32) : Option Int32 :=
  (if g_arcs ≤ zz.2 then (exit (zz.1, zz.2)) else (if inb zz.2 36 then (if (g_weight zz.2.toNatClampNeg) = 0 then (back (zz.1, (zz.2 + 1))) else (back ((zz.1 + 1), (zz.2 + 1)))) else none))
noncomputable def m_Gr_countArcs (g_arcs : Int32) (g_weight : Nat → Int32) : Option Int32 :=
  (loopC (s_Gr_countArcs_4 g_arcs g_weight) (fun z4 : Int32 × Int32 => some z4.1) FU ((0 : Int32), (0 : Int32)))
set_option maxHeartbeats 4000000 in
set_option maxRecDepth 100000 in
theorem c_Gr_countArcs (l : Launch) (D : va_G) (cA : Nat → ClassId) (a_g : Nat → Nat) (sz : Nat) (g_manner : Int32) (g_nodes : Int32) (g_arcs : Int32) (g_weight : Nat → Int32)  (out : Int32) (h : m_Gr_countArcs g_arcs g_weight = some out) : Met l y_Gr_countArcs w_Gr_countArcs ({ frames := 0, cells := 0, slots := 0, locals := 0 }) (va_Pc [.ref (a_g 0)] (fun U => U.heap.size = sz ∧ va_P D cls9 (wd_Gr_countArcs cA a_g g_manner g_nodes g_arcs g_weight) U.heap ∧ va_K D cls9 (tys5 cA) U ∧ va_D (fun _ => True) (wd_Gr_countArcs cA a_g g_manner g_nodes g_arcs g_weight))) (va_Qi (fun (rr : Int32) (uu : Unit) => rr = out) (fun (uu : Unit) (t : State) => va_P D cls9 (wd_Gr_countArcs cA a_g g_manner g_nodes g_arcs g_weight) t.heap ∧ va_K D cls9 (tys5 cA) t ∧ va_D (va_A (wd_Gr_countArcs cA a_g g_manner g_nodes g_arcs g_weight) sz) (wd_Gr_countArcs cA a_g g_manner g_nodes g_arcs g_weight)) (va_A (wd_Gr_countArcs cA a_g g_manner g_nodes g_arcs g_weight) sz)) 0 0 (va_A (wd_Gr_countArcs cA a_g g_manner g_nodes g_arcs g_weight) sz) := by
  refine Met.ofW (cc := b_Gr_countArcs) (maxL := 3) (ret := (Option.some Jvm.ClassFile.FieldType.int)) (by decide) rfl ?_
  intro p e s m args below meth c s₁ B hml hv
  obtain ⟨rfl, hsz, hP, hK, hD0⟩ := hv
  have hx := B.exec
  have hb := B.bytes
  have hr := B.returns
  have hts := atoms_spec (ws := w_Gr_countArcs) B.pre
  have hal : ∀ w ∈ ALLW, w.before _ s = true := fun w hw => hts w (List.mem_cons_of_mem _ hw)
  have hown : s.vm.findClass R_Gr = some m.cls := findClass_of_methodNamed B.named
  have hlocks := B.notSynchronized
  subst hsz
  have hD := hD0.self (sz := s.heap.size)
  generalize hAe : va_A (wd_Gr_countArcs cA a_g g_manner g_nodes g_arcs g_weight) s.heap.size = A at hD ⊢
  have hA : ∀ q : Nat, s.heap.size ≤ q → A q := fun q h => by rw [← hAe]; exact Or.inr h
  have hS : va_S A s.heap s.heap [] := va_S.rf
  have hl := lv_entry ([.ref (a_g 0)]) (n := 3) (Nat.le_of_ble_eq_true rfl)
  rw [lg_entry_eq]
  generalize (lg_sl ([.ref (a_g 0)]) ++ List.replicate (3 - (lg_sl ([.ref (a_g 0)])).length) Slot.unset).toArray = ls at hl ⊢
  have hl : lv_has ls 3 [(0, .ref (a_g 0))] := hl
  refine wg (fun G hG => ?_)
  refine cast (hG _ _ _ _ _ _ _).symm ?_
  obtain ⟨H, locs, hHl, hS⟩ : ∃ (H : Heap) (locs : List Loc), (H = s.heap ∧ locs = []) ∧ va_S A s.heap H locs := ⟨s.heap, [], ⟨rfl, rfl⟩, hS⟩
  have hP : va_P D cls9 (wd_Gr_countArcs cA a_g g_manner g_nodes g_arcs g_weight) H := by rw [hHl.1]; exact hP
  rw [← hHl.1, ← hHl.2]
  clear hHl
  refine lv_iconst (v := 0) hx hb d_Gr_countArcs_0 (by decide) ?_
  refine lv_istore_n (lv' := [(1, .int (0 : Int32)), (0, .ref (a_g 0))]) hx hb d_Gr_countArcs_1 rfl hl (by decide) rfl (fun ls hl => ?_)
  refine lv_iconst (v := 0) hx hb d_Gr_countArcs_2 (by decide) ?_
  refine lv_istore_n (lv' := [(2, .int (0 : Int32)), (1, .int (0 : Int32)), (0, .ref (a_g 0))]) hx hb d_Gr_countArcs_3 rfl hl (by decide) rfl (fun ls hl => ?_)
  refine cast (hG _ _ _ _ _ _ _) (lp_go2 h (fun zz : Int32 × Int32 => ∀ (H : Heap) (locs : List Loc) (ls : Array Slot), va_P D cls9 (wd_Gr_countArcs cA a_g g_manner g_nodes g_arcs g_weight) H → va_D A (wd_Gr_countArcs cA a_g g_manner g_nodes g_arcs g_weight) → va_S A s.heap H locs → lv_has ls 3 [(2, .int zz.2), (1, .int zz.1), (0, .ref (a_g 0))] → G H locs 0 0 ls 30 []) ?_ (fun zz : Int32 × Int32 => ∀ (H : Heap) (locs : List Loc) (ls : Array Slot), va_P D cls9 (wd_Gr_countArcs cA a_g g_manner g_nodes g_arcs g_weight) H → va_D A (wd_Gr_countArcs cA a_g g_manner g_nodes g_arcs g_weight) → va_S A s.heap H locs → lv_has ls 3 [(2, .int zz.2), (1, .int zz.1), (0, .ref (a_g 0))] → G H locs 0 0 ls 4 []) ?_ _ _ ls hP hD hS (lv_sub hl [0, 1, 2] rfl))
  · intro zz h H locs ls hP hD hS hl
    obtain ⟨x1_4e, x2_4e⟩ := zz
    have hP : va_P D cls9 (wd_Gr_countArcs cA a_g g_manner g_nodes g_arcs g_weight) H := hP
    have hD : va_D A (wd_Gr_countArcs cA a_g g_manner g_nodes g_arcs g_weight) := hD
    have hl : lv_has ls 3 [(2, .int x2_4e), (1, .int x1_4e), (0, .ref (a_g 0))] := hl
    refine cast (hG _ _ _ _ _ _ _).symm ?_
    refine lv_iload_n hx hb d_Gr_countArcs_30 rfl (lv_at hl 1 rfl) ?_
    exact W.iret (v := x1_4e) hx hb hr (fun t ht hW => ⟨⟨x1_4e, (), rfl, Option.some.inj h, by rw [ht]; exact hP, va_K.moved hW.alike hK, hD⟩, hS.F ht⟩) hS.2.2 d_Gr_countArcs_31
  · intro back exit zz hB_4 hE_4 h H locs ls hP hD hS hl
    obtain ⟨x1_4, x2_4⟩ := zz
    have hP : va_P D cls9 (wd_Gr_countArcs cA a_g g_manner g_nodes g_arcs g_weight) H := hP
    have hD : va_D A (wd_Gr_countArcs cA a_g g_manner g_nodes g_arcs g_weight) := hD
    have hl : lv_has ls 3 [(2, .int x2_4), (1, .int x1_4), (0, .ref (a_g 0))] := hl
    refine cast (hG _ _ _ _ _ _ _).symm ?_
    refine lv_iload_n hx hb d_Gr_countArcs_4 rfl (lv_at hl 0 rfl) ?_
    refine lv_aload_n hx hb d_Gr_countArcs_5 rfl (lv_at hl 2 rfl) ?_
    refine va_get (ci := 1) (v := .int g_arcs) (C := R_Gr) (T := F_Gr) (N := 6) hx hb hal in_Gr hown hK hP 0 rfl rfl 2 (by decide) (hal _ kw_34) (fun _ h9 => h9) rfl d_Gr_countArcs_6 ?_
    refine lv_icmp_ge (tgt := 30) hx hb d_Gr_countArcs_9 (by decide) (fun c_1 => ?_) (fun c_1 => ?_)
    · have h := ifp (c_1) h
      exact cast (hG _ _ _ _ _ _ _) (hE_4 (x1_4, x2_4) h _ _ _ hP hD hS (lv_sub hl [0, 1, 2] rfl))
    · have h := ifn (c_1) h
      refine lv_aload_n hx hb d_Gr_countArcs_12 rfl (lv_at hl 2 rfl) ?_
      refine va_get (ci := 1) (v := .ref (a_g 3)) (C := R_Gr) (T := F_Gr) (N := 6) hx hb hal in_Gr hown hK hP 0 rfl rfl 5 (by decide) (hal _ kw_40) (fun _ h9 => h9) rfl d_Gr_countArcs_13 ?_
      refine lv_iload_n hx hb d_Gr_countArcs_16 rfl (lv_at hl 0 rfl) ?_
      obtain ⟨g_2, h⟩ := gd h
      refine va_iald hx hb hK hP 1 0 rfl rfl (inb_in g_2) d_Gr_countArcs_17 ?_
      refine lv_if_eq (tgt := 24) hx hb d_Gr_countArcs_18 (by decide) (fun c_3 => ?_) (fun c_3 => ?_)
      · have h := ifp (c_3) h
        refine lv_iinc (v := (x2_4 + 1)) (lv' := [(2, .int (x2_4 + 1)), (1, .int x1_4), (0, .ref (a_g 0))]) hx hb d_Gr_countArcs_24 hl (k := 0) rfl rfl (by decide) rfl (fun ls hl => ?_)
        refine lv_goto (tgt := 4) hx hb d_Gr_countArcs_27 (by decide) ?_
        exact cast (hG _ _ _ _ _ _ _) (hB_4 (x1_4, (x2_4 + 1)) h _ _ _ hP hD hS (lv_sub hl [0, 1, 2] rfl))
      · have h := ifn (c_3) h
        refine lv_iinc (v := (x1_4 + 1)) (lv' := [(1, .int (x1_4 + 1)), (2, .int x2_4), (0, .ref (a_g 0))]) hx hb d_Gr_countArcs_21 hl (k := 1) rfl rfl (by decide) rfl (fun ls hl => ?_)
        refine lv_iinc (v := (x2_4 + 1)) (lv' := [(2, .int (x2_4 + 1)), (1, .int (x1_4 + 1)), (0, .ref (a_g 0))]) hx hb d_Gr_countArcs_24 hl (k := 1) rfl rfl (by decide) rfl (fun ls hl => ?_)
        refine lv_goto (tgt := 4) hx hb d_Gr_countArcs_27 (by decide) ?_
        exact cast (hG _ _ _ _ _ _ _) (hB_4 ((x1_4 + 1), (x2_4 + 1)) h _ _ _ hP hD hS (lv_sub hl [0, 1, 2] rfl))
def wd_Wa_groupIn (cA : Nat → ClassId)   : va_W := []
noncomputable def m_Wa_groupIn (v0 : Int64) (v2 : Int32) : Option Int32 :=
  some (((v0.toUInt64 >>> (((4 : Int32) * v2).toInt64.toUInt64 &&& Int64.toUInt64 63)).toInt64).toInt32 &&& (15 : Int32))
set_option maxHeartbeats 4000000 in
set_option maxRecDepth 100000 in
theorem c_Wa_groupIn (l : Launch) (D : va_G) (cA : Nat → ClassId)  (sz : Nat)  (v0 : Int64) (v2 : Int32) (out : Int32) (h : m_Wa_groupIn v0 v2 = some out) : Met l y_Wa_groupIn w_Wa_groupIn ({ frames := 0, cells := 0, slots := 0, locals := 0 }) (va_Pc [.long v0, .int v2] (fun U => U.heap.size = sz ∧ va_P D cls9 (wd_Wa_groupIn cA) U.heap ∧ va_K D cls9 (tys5 cA) U ∧ va_D (fun _ => True) (wd_Wa_groupIn cA))) (va_Qi (fun (rr : Int32) (uu : Unit) => rr = out) (fun (uu : Unit) (t : State) => va_P D cls9 (wd_Wa_groupIn cA) t.heap ∧ va_K D cls9 (tys5 cA) t ∧ va_D (va_A (wd_Wa_groupIn cA) sz) (wd_Wa_groupIn cA)) (va_A (wd_Wa_groupIn cA) sz)) 0 0 (va_A (wd_Wa_groupIn cA) sz) := by
  refine Met.ofW (cc := b_Wa_groupIn) (maxL := 3) (ret := (Option.some Jvm.ClassFile.FieldType.int)) (by decide) rfl ?_
  intro p e s m args below meth c s₁ B hml hv
  obtain ⟨rfl, hsz, hP, hK, hD0⟩ := hv
  have hx := B.exec
  have hb := B.bytes
  have hr := B.returns
  have hts := atoms_spec (ws := w_Wa_groupIn) B.pre
  have hal : ∀ w ∈ ALLW, w.before _ s = true := fun w hw => hts w (List.mem_cons_of_mem _ hw)
  have hown : s.vm.findClass R_Wa = some m.cls := findClass_of_methodNamed B.named
  have hlocks := B.notSynchronized
  subst hsz
  have hD := hD0.self (sz := s.heap.size)
  generalize hAe : va_A (wd_Wa_groupIn cA) s.heap.size = A at hD ⊢
  have hA : ∀ q : Nat, s.heap.size ≤ q → A q := fun q h => by rw [← hAe]; exact Or.inr h
  have hS : va_S A s.heap s.heap [] := va_S.rf
  have hl := lv_entry ([.long v0, .int v2]) (n := 3) (Nat.le_of_ble_eq_true rfl)
  rw [lg_entry_eq]
  generalize (lg_sl ([.long v0, .int v2]) ++ List.replicate (3 - (lg_sl ([.long v0, .int v2])).length) Slot.unset).toArray = ls at hl ⊢
  have hl : lv_has ls 3 [(0, .long v0), (2, .int v2)] := hl
  refine wg (fun G hG => ?_)
  refine cast (hG _ _ _ _ _ _ _).symm ?_
  obtain ⟨H, locs, hHl, hS⟩ : ∃ (H : Heap) (locs : List Loc), (H = s.heap ∧ locs = []) ∧ va_S A s.heap H locs := ⟨s.heap, [], ⟨rfl, rfl⟩, hS⟩
  have hP : va_P D cls9 (wd_Wa_groupIn cA) H := by rw [hHl.1]; exact hP
  rw [← hHl.1, ← hHl.2]
  clear hHl
  refine lv_lload_n hx hb d_Wa_groupIn_0 rfl (lv_at hl 0 rfl) ?_
  refine lv_iconst (v := 4) hx hb d_Wa_groupIn_1 (by decide) ?_
  refine lv_iload_n hx hb d_Wa_groupIn_2 rfl (lv_at hl 1 rfl) ?_
  refine lv_imul hx hb d_Wa_groupIn_3 ?_
  refine lv_lushr hx hb d_Wa_groupIn_4 rfl ?_
  refine lv_l2i hx hb d_Wa_groupIn_5 rfl ?_
  refine lv_bipush (v := 15) hx hb d_Wa_groupIn_6 (by decide) ?_
  refine lv_iand hx hb d_Wa_groupIn_8 ?_
  exact W.iret (v := (((v0.toUInt64 >>> (((4 : Int32) * v2).toInt64.toUInt64 &&& Int64.toUInt64 63)).toInt64).toInt32 &&& (15 : Int32))) hx hb hr (fun t ht hW => ⟨⟨(((v0.toUInt64 >>> (((4 : Int32) * v2).toInt64.toUInt64 &&& Int64.toUInt64 63)).toInt64).toInt32 &&& (15 : Int32)), (), rfl, Option.some.inj h, by rw [ht]; exact hP, va_K.moved hW.alike hK, hD⟩, hS.F ht⟩) hS.2.2 d_Wa_groupIn_9
def wd_Pa_renumber (cA : Nat → ClassId) (a_p : Nat → Nat) (p_nodes : Int32) (p_count : Int32) (p_groups : Nat → Int32) (p_names : Nat → Int32) : va_W := [(a_p 0, .inr (2, [.int p_nodes, .int p_count, .ref (a_p 1), .ref (a_p 2)])), (a_p 1, .inl (cA 0, 9, .inl p_groups)), (a_p 2, .inl (cA 0, 10, .inl p_names))]
noncomputable def s_Pa_renumber_15 (p_nodes : Int32) (zz : Int32 × Int32 × (Nat → Int32) × (Nat → Int32)) (back exit : (Int32 × Int32 × (Nat → Int32) × (Nat → Int32)) → Option (Int32 × (Nat → Int32) × (Nat → Int32))) : Option (Int32 × (Nat → Int32) × (Nat → Int32)) :=
  (if p_nodes ≤ zz.1 then (exit (zz.1, zz.2.1, zz.2.2.1, zz.2.2.2)) else (if inb zz.1 9 then (if inb (zz.2.2.1 zz.1.toNatClampNeg) 10 then (jn (fun z59 : Int32 × (Nat → Int32) => (if inb (zz.2.2.1 zz.1.toNatClampNeg) 10 then (if inb zz.1 9 then (back ((zz.1 + 1), z59.1, (upd zz.2.2.1 zz.1.toNatClampNeg (z59.2 (zz.2.2.1 zz.1.toNatClampNeg).toNatClampNeg)), z59.2)) else none) else none)) (fun j59 => (if 0 ≤ (zz.2.2.2 (zz.2.2.1 zz.1.toNatClampNeg).toNatClampNeg) then (j59 (zz.2.1, zz.2.2.2)) else (j59 ((zz.2.1 + (1 : Int32)), (upd zz.2.2.2 (zz.2.2.1 zz.1.toNatClampNeg).toNatClampNeg zz.2.1)))))) else none) else none))
noncomputable def m_Pa_renumber (p_nodes : Int32) (p_groups : Nat → Int32) (p_names : Nat → Int32) : Option (Int32 × (Nat → Int32) × (Nat → Int32)) :=
  ((m_Ar_fill_AII p_names 10 (-1 : Int32)).bind (fun r5 : (Nat → Int32) => (loopC (s_Pa_renumber_15 p_nodes) (fun z15 : Int32 × Int32 × (Nat → Int32) × (Nat → Int32) => some (z15.2.1, z15.2.2.1, z15.2.2.2)) FU ((0 : Int32), (0 : Int32), p_groups, r5))))
set_option maxHeartbeats 4000000 in
set_option maxRecDepth 100000 in
theorem c_Pa_renumber (l : Launch) (D : va_G) (cA : Nat → ClassId) (a_p : Nat → Nat) (sz : Nat) (p_nodes : Int32) (p_count : Int32) (p_groups : Nat → Int32) (p_names : Nat → Int32)  (out : Int32 × (Nat → Int32) × (Nat → Int32)) (h : m_Pa_renumber p_nodes p_groups p_names = some out) : Met l y_Pa_renumber w_Pa_renumber ({ frames := 1, cells := 0, slots := 0, locals := 23 }) (va_Pc [.ref (a_p 0)] (fun U => U.heap.size = sz ∧ va_P D cls9 (wd_Pa_renumber cA a_p p_nodes p_count p_groups p_names) U.heap ∧ va_K D cls9 (tys5 cA) U ∧ va_D (fun _ => True) (wd_Pa_renumber cA a_p p_nodes p_count p_groups p_names))) (va_Qv (fun uu : Int32 × (Nat → Int32) × (Nat → Int32) => uu = out) (fun (uu : Int32 × (Nat → Int32) × (Nat → Int32)) (t : State) => va_P D cls9 (wd_Pa_renumber cA a_p p_nodes uu.1 uu.2.1 uu.2.2) t.heap ∧ va_K D cls9 (tys5 cA) t ∧ va_D (va_A (wd_Pa_renumber cA a_p p_nodes p_count p_groups p_names) sz) (wd_Pa_renumber cA a_p p_nodes uu.1 uu.2.1 uu.2.2)) (va_A (wd_Pa_renumber cA a_p p_nodes p_count p_groups p_names) sz)) 0 0 (va_A (wd_Pa_renumber cA a_p p_nodes p_count p_groups p_names) sz) := by
  refine Met.ofW (cc := b_Pa_renumber) (maxL := 3) (ret := (Option.none : Option Jvm.ClassFile.FieldType)) (by decide) rfl ?_
  intro p e s m args below meth c s₁ B hml hv
  obtain ⟨rfl, hsz, hP, hK, hD0⟩ := hv
  have hx := B.exec
  have hb := B.bytes
  have hr := B.returns
  have hts := atoms_spec (ws := w_Pa_renumber) B.pre
  have hal : ∀ w ∈ ALLW, w.before _ s = true := fun w hw => hts w (List.mem_cons_of_mem _ hw)
  have hown : s.vm.findClass R_Pa = some m.cls := findClass_of_methodNamed B.named
  have hlocks := B.notSynchronized
  subst hsz
  have hD := hD0.self (sz := s.heap.size)
  generalize hAe : va_A (wd_Pa_renumber cA a_p p_nodes p_count p_groups p_names) s.heap.size = A at hD ⊢
  have hA : ∀ q : Nat, s.heap.size ≤ q → A q := fun q h => by rw [← hAe]; exact Or.inr h
  have hS : va_S A s.heap s.heap [] := va_S.rf
  have hl := lv_entry ([.ref (a_p 0)]) (n := 3) (Nat.le_of_ble_eq_true rfl)
  rw [lg_entry_eq]
  generalize (lg_sl ([.ref (a_p 0)]) ++ List.replicate (3 - (lg_sl ([.ref (a_p 0)])).length) Slot.unset).toArray = ls at hl ⊢
  have hl : lv_has ls 3 [(0, .ref (a_p 0))] := hl
  refine wg (fun G hG => ?_)
  refine cast (hG _ _ _ _ _ _ _).symm ?_
  obtain ⟨H, locs, hHl, hS⟩ : ∃ (H : Heap) (locs : List Loc), (H = s.heap ∧ locs = []) ∧ va_S A s.heap H locs := ⟨s.heap, [], ⟨rfl, rfl⟩, hS⟩
  have hP : va_P D cls9 (wd_Pa_renumber cA a_p p_nodes p_count p_groups p_names) H := by rw [hHl.1]; exact hP
  rw [← hHl.1, ← hHl.2]
  clear hHl
  refine lv_aload_n hx hb d_Pa_renumber_0 rfl (lv_at hl 0 rfl) ?_
  refine va_get (ci := 2) (v := .ref (a_p 2)) (C := R_Pa) (T := F_Pa) (N := 4) hx hb hal in_Pa hown hK hP 0 rfl rfl 3 (by decide) (hal _ kw_117) (fun _ h9 => h9) rfl d_Pa_renumber_1 ?_
  refine lv_iconst (v := (-1)) hx hb d_Pa_renumber_4 (by decide) ?_
  obtain ⟨o_5, hc_4, h⟩ := bd h
  have hPc := hP.sub (ws' := (wd_Ar_fill_AII cA (fun _ => a_p 2) p_names 10)) [2] rfl
  have hDc := hD.sub (ws' := (wd_Ar_fill_AII cA (fun _ => a_p 2) p_names 10)) [2] (by decide) rfl
  have hFc := va_free (wc := (wd_Ar_fill_AII cA (fun _ => a_p 2) p_names 10)) hD hS hA [2] rfl
  refine va_callv (va_runS (As := [.ref (a_p 2), .int (-1 : Int32)]) (rest := []) ⟨hx, hb, hml, hown, hal⟩ (c_Ar_fill_AII l D cA (fun _ => a_p 2) H.size p_names 10 (-1 : Int32) o_5 hc_4) (va_cwS 2 hal (goodS kw_370 kw_283 kw_10 kw_284) rfl rfl rfl (by decide +kernel) ⟨Nat.le_of_ble_eq_true rfl, Nat.le_of_ble_eq_true rfl⟩) ⟨fun a U g mk q => by obtain ⟨q0, q1, qP, qK, qD⟩ := q; exact ⟨q0, q1, qP, va_K.moved (u := U) (U := U.calling g mk a) (Vm.Alike.refl U.vm) qK, qD⟩, fun U hU hW => ⟨rfl, by rw [hU], by rw [hU]; exact hPc, va_K.moved hW.alike hK, hDc.weaken (fun _ _ _ _ => trivial)⟩⟩ rfl rfl hl.1 rfl (lv_room (Nat.le_of_ble_eq_true rfl)) d_Pa_renumber_5 ⟨Nat.le_of_ble_eq_true rfl, Nat.le_of_ble_eq_true rfl⟩) hS (fun q _ h => hFc q h) hFc (fun u t H1 locs ht hvm hw hB hz1 hk1 hS => ?_)
  obtain ⟨u_3, rfl⟩ : ∃ q, q = u := ⟨_, rfl⟩
  subst hw
  obtain ⟨hP1, hK1, hD1⟩ := hB
  rw [ht] at hP1
  have hP1 : va_P D cls9 (wd_Ar_fill_AII cA (fun _ => a_p 2) u_3 10) H1 := hP1
  obtain ⟨hP, hD⟩ := va_join (wr := ([0, 1] : List Nat).filterMap (fun i => (wd_Pa_renumber cA a_p p_nodes p_count p_groups p_names)[i]?)) (w1 := (wd_Ar_fill_AII cA (fun _ => a_p 2) u_3 10)) hP hD [2] [0, 1] rfl rfl (by decide) (by decide) hk1 hFc hP1 hD1
  generalize H1 = H at hP hS ⊢
  have hP : va_P D cls9 (wd_Pa_renumber cA a_p p_nodes p_count p_groups u_3) H := hP.sub [0, 1, 2] rfl
  have hD : va_D A (wd_Pa_renumber cA a_p p_nodes p_count p_groups u_3) := hD.sub [0, 1, 2] (by decide) rfl
  refine lv_aload_n hx hb d_Pa_renumber_8 rfl (lv_at hl 0 rfl) ?_
  refine lv_iconst (v := 0) hx hb d_Pa_renumber_9 (by decide) ?_
  refine va_put (ci := 2) (v := .int (0 : Int32)) (ty := .int) (C := R_Pa) (T := F_Pa) (N := 4) hx hb hal in_Pa t_Pa t_Pa_ok n_Pa hown hK hP hD hS 0 rfl rfl 1 (by decide) (hal _ kw_112) (fun _ h9 => h9) rfl (by decide +kernel) rfl rfl (Nat.le_of_ble_eq_true rfl) d_Pa_renumber_10 (fun H locs hP hD hS => ?_)
  have hP : va_P D cls9 (wd_Pa_renumber cA a_p p_nodes (0 : Int32) p_groups u_3) H := hP
  have hD : va_D A (wd_Pa_renumber cA a_p p_nodes (0 : Int32) p_groups u_3) := hD
  refine lv_iconst (v := 0) hx hb d_Pa_renumber_13 (by decide) ?_
  refine lv_istore_n (lv' := [(1, .int (0 : Int32)), (0, .ref (a_p 0))]) hx hb d_Pa_renumber_14 rfl hl (by decide) rfl (fun ls hl => ?_)
  refine cast (hG _ _ _ _ _ _ _) (lp_go2 h (fun zz : Int32 × Int32 × (Nat → Int32) × (Nat → Int32) => ∀ (H : Heap) (locs : List Loc) (ls : Array Slot), va_P D cls9 (wd_Pa_renumber cA a_p p_nodes zz.2.1 zz.2.2.1 zz.2.2.2) H → va_D A (wd_Pa_renumber cA a_p p_nodes zz.2.1 zz.2.2.1 zz.2.2.2) → va_S A s.heap H locs → lv_has ls 3 [(1, .int zz.1), (0, .ref (a_p 0))] → G H locs 0 0 ls 77 []) ?_ (fun zz : Int32 × Int32 × (Nat → Int32) × (Nat → Int32) => ∀ (H : Heap) (locs : List Loc) (ls : Array Slot), va_P D cls9 (wd_Pa_renumber cA a_p p_nodes zz.2.1 zz.2.2.1 zz.2.2.2) H → va_D A (wd_Pa_renumber cA a_p p_nodes zz.2.1 zz.2.2.1 zz.2.2.2) → va_S A s.heap H locs → lv_has ls 3 [(1, .int zz.1), (0, .ref (a_p 0))] → G H locs 0 0 ls 15 []) ?_ _ _ ls hP hD hS (lv_sub hl [0, 1] rfl))
  · intro zz h H locs ls hP hD hS hl
    obtain ⟨x1_15e, p_count_15e, p_groups_15e, p_names_15e⟩ := zz
    have hP : va_P D cls9 (wd_Pa_renumber cA a_p p_nodes p_count_15e p_groups_15e p_names_15e) H := hP
    have hD : va_D A (wd_Pa_renumber cA a_p p_nodes p_count_15e p_groups_15e p_names_15e) := hD
    have hl : lv_has ls 3 [(1, .int x1_15e), (0, .ref (a_p 0))] := hl
    refine cast (hG _ _ _ _ _ _ _).symm ?_
    exact W.vret hx hb hr (fun t ht hW => ⟨⟨(p_count_15e, p_groups_15e, p_names_15e), rfl, Option.some.inj h, by rw [ht]; exact hP, va_K.moved hW.alike hK, hD⟩, hS.F ht⟩) hS.2.2 d_Pa_renumber_77
  · intro back exit zz hB_15 hE_15 h H locs ls hP hD hS hl
    obtain ⟨x1_15, p_count_15, p_groups_15, p_names_15⟩ := zz
    have hP : va_P D cls9 (wd_Pa_renumber cA a_p p_nodes p_count_15 p_groups_15 p_names_15) H := hP
    have hD : va_D A (wd_Pa_renumber cA a_p p_nodes p_count_15 p_groups_15 p_names_15) := hD
    have hl : lv_has ls 3 [(1, .int x1_15), (0, .ref (a_p 0))] := hl
    refine cast (hG _ _ _ _ _ _ _).symm ?_
    refine lv_iload_n hx hb d_Pa_renumber_15 rfl (lv_at hl 0 rfl) ?_
    refine lv_aload_n hx hb d_Pa_renumber_16 rfl (lv_at hl 1 rfl) ?_
    refine va_get (ci := 2) (v := .int p_nodes) (C := R_Pa) (T := F_Pa) (N := 4) hx hb hal in_Pa hown hK hP 0 rfl rfl 0 (by decide) (hal _ kw_111) (fun _ h9 => h9) rfl d_Pa_renumber_17 ?_
    refine lv_icmp_ge (tgt := 77) hx hb d_Pa_renumber_20 (by decide) (fun c_6 => ?_) (fun c_6 => ?_)
    · have h := ifp (c_6) h
      exact cast (hG _ _ _ _ _ _ _) (hE_15 (x1_15, p_count_15, p_groups_15, p_names_15) h _ _ _ hP hD hS (lv_sub hl [0, 1] rfl))
    · have h := ifn (c_6) h
      refine lv_aload_n hx hb d_Pa_renumber_23 rfl (lv_at hl 1 rfl) ?_
      refine va_get (ci := 2) (v := .ref (a_p 1)) (C := R_Pa) (T := F_Pa) (N := 4) hx hb hal in_Pa hown hK hP 0 rfl rfl 2 (by decide) (hal _ kw_114) (fun _ h9 => h9) rfl d_Pa_renumber_24 ?_
      refine lv_iload_n hx hb d_Pa_renumber_27 rfl (lv_at hl 0 rfl) ?_
      obtain ⟨g_7, h⟩ := gd h
      refine va_iald hx hb hK hP 1 0 rfl rfl (inb_in g_7) d_Pa_renumber_28 ?_
      refine lv_istore_n (lv' := [(2, .int (p_groups_15 x1_15.toNatClampNeg)), (1, .int x1_15), (0, .ref (a_p 0))]) hx hb d_Pa_renumber_29 rfl hl (by decide) rfl (fun ls hl => ?_)
      refine lv_aload_n hx hb d_Pa_renumber_30 rfl (lv_at hl 2 rfl) ?_
      refine va_get (ci := 2) (v := .ref (a_p 2)) (C := R_Pa) (T := F_Pa) (N := 4) hx hb hal in_Pa hown hK hP 0 rfl rfl 3 (by decide) (hal _ kw_117) (fun _ h9 => h9) rfl d_Pa_renumber_31 ?_
      refine lv_iload_n hx hb d_Pa_renumber_34 rfl (lv_at hl 0 rfl) ?_
      obtain ⟨g_8, h⟩ := gd h
      refine va_iald hx hb hK hP 2 0 rfl rfl (inb_in g_8) d_Pa_renumber_35 ?_
      refine cast (hG _ _ _ _ _ _ _) (jn_go h (fun zz : Int32 × (Nat → Int32) => ∀ (H : Heap) (locs : List Loc) (ls : Array Slot), va_P D cls9 (wd_Pa_renumber cA a_p p_nodes zz.1 p_groups_15 zz.2) H → va_D A (wd_Pa_renumber cA a_p p_nodes zz.1 p_groups_15 zz.2) → va_S A s.heap H locs → lv_has ls 3 [(2, .int (p_groups_15 x1_15.toNatClampNeg)), (1, .int x1_15), (0, .ref (a_p 0))] → G H locs 0 0 ls 59 []) ?_ ?_)
      · intro zz h H locs ls hP hD hS hl
        obtain ⟨p_count_59j, p_names_59j⟩ := zz
        have hP : va_P D cls9 (wd_Pa_renumber cA a_p p_nodes p_count_59j p_groups_15 p_names_59j) H := hP
        have hD : va_D A (wd_Pa_renumber cA a_p p_nodes p_count_59j p_groups_15 p_names_59j) := hD
        have hl : lv_has ls 3 [(2, .int (p_groups_15 x1_15.toNatClampNeg)), (1, .int x1_15), (0, .ref (a_p 0))] := hl
        refine cast (hG _ _ _ _ _ _ _).symm ?_
        refine lv_aload_n hx hb d_Pa_renumber_59 rfl (lv_at hl 2 rfl) ?_
        refine va_get (ci := 2) (v := .ref (a_p 1)) (C := R_Pa) (T := F_Pa) (N := 4) hx hb hal in_Pa hown hK hP 0 rfl rfl 2 (by decide) (hal _ kw_114) (fun _ h9 => h9) rfl d_Pa_renumber_60 ?_
        refine lv_iload_n hx hb d_Pa_renumber_63 rfl (lv_at hl 1 rfl) ?_
        refine lv_aload_n hx hb d_Pa_renumber_64 rfl (lv_at hl 2 rfl) ?_
        refine va_get (ci := 2) (v := .ref (a_p 2)) (C := R_Pa) (T := F_Pa) (N := 4) hx hb hal in_Pa hown hK hP 0 rfl rfl 3 (by decide) (hal _ kw_117) (fun _ h9 => h9) rfl d_Pa_renumber_65 ?_
        refine lv_iload_n hx hb d_Pa_renumber_68 rfl (lv_at hl 0 rfl) ?_
        obtain ⟨g_9, h⟩ := gd h
        refine va_iald hx hb hK hP 2 0 rfl rfl (inb_in g_9) d_Pa_renumber_69 ?_
        obtain ⟨g_10, h⟩ := gd h
        refine va_iast hx hb hK hP hD hS 1 0 rfl rfl (inb_in g_10) d_Pa_renumber_70 (fun H locs hP hD hS => ?_)
        have hP : va_P D cls9 (wd_Pa_renumber cA a_p p_nodes p_count_59j (upd p_groups_15 x1_15.toNatClampNeg (p_names_59j (p_groups_15 x1_15.toNatClampNeg).toNatClampNeg)) p_names_59j) H := hP
        have hD : va_D A (wd_Pa_renumber cA a_p p_nodes p_count_59j (upd p_groups_15 x1_15.toNatClampNeg (p_names_59j (p_groups_15 x1_15.toNatClampNeg).toNatClampNeg)) p_names_59j) := hD
        refine lv_iinc (v := (x1_15 + 1)) (lv' := [(1, .int (x1_15 + 1)), (2, .int (p_groups_15 x1_15.toNatClampNeg)), (0, .ref (a_p 0))]) hx hb d_Pa_renumber_71 hl (k := 1) rfl rfl (by decide) rfl (fun ls hl => ?_)
        refine lv_goto (tgt := 15) hx hb d_Pa_renumber_74 (by decide) ?_
        exact cast (hG _ _ _ _ _ _ _) (hB_15 ((x1_15 + 1), p_count_59j, (upd p_groups_15 x1_15.toNatClampNeg (p_names_59j (p_groups_15 x1_15.toNatClampNeg).toNatClampNeg)), p_names_59j) h _ _ _ hP hD hS (lv_sub hl [0, 2] rfl))
      · intro j59 hJ_59 h
        refine cast (hG _ _ _ _ _ _ _).symm ?_
        refine lv_if_ge (tgt := 59) hx hb d_Pa_renumber_36 (by decide) (fun c_11 => ?_) (fun c_11 => ?_)
        · have h := ifp (c_11) h
          exact cast (hG _ _ _ _ _ _ _) (hJ_59 (p_count_15, p_names_15) h _ _ _ hP hD hS (lv_sub hl [0, 1, 2] rfl))
        · have h := ifn (c_11) h
          refine lv_aload_n hx hb d_Pa_renumber_39 rfl (lv_at hl 2 rfl) ?_
          refine va_get (ci := 2) (v := .ref (a_p 2)) (C := R_Pa) (T := F_Pa) (N := 4) hx hb hal in_Pa hown hK hP 0 rfl rfl 3 (by decide) (hal _ kw_117) (fun _ h9 => h9) rfl d_Pa_renumber_40 ?_
          refine lv_iload_n hx hb d_Pa_renumber_43 rfl (lv_at hl 0 rfl) ?_
          refine lv_aload_n hx hb d_Pa_renumber_44 rfl (lv_at hl 2 rfl) ?_
          refine va_get (ci := 2) (v := .int p_count_15) (C := R_Pa) (T := F_Pa) (N := 4) hx hb hal in_Pa hown hK hP 0 rfl rfl 1 (by decide) (hal _ kw_112) (fun _ h9 => h9) rfl d_Pa_renumber_45 ?_
          refine va_iast hx hb hK hP hD hS 2 0 rfl rfl (inb_in g_8) d_Pa_renumber_48 (fun H locs hP hD hS => ?_)
          have hP : va_P D cls9 (wd_Pa_renumber cA a_p p_nodes p_count_15 p_groups_15 (upd p_names_15 (p_groups_15 x1_15.toNatClampNeg).toNatClampNeg p_count_15)) H := hP
          have hD : va_D A (wd_Pa_renumber cA a_p p_nodes p_count_15 p_groups_15 (upd p_names_15 (p_groups_15 x1_15.toNatClampNeg).toNatClampNeg p_count_15)) := hD
          refine lv_aload_n hx hb d_Pa_renumber_49 rfl (lv_at hl 2 rfl) ?_
          refine lv_dup hx hb d_Pa_renumber_50 rfl ?_
          refine va_get (ci := 2) (v := .int p_count_15) (C := R_Pa) (T := F_Pa) (N := 4) hx hb hal in_Pa hown hK hP 0 rfl rfl 1 (by decide) (hal _ kw_112) (fun _ h9 => h9) rfl d_Pa_renumber_51 ?_
          refine lv_iconst (v := 1) hx hb d_Pa_renumber_54 (by decide) ?_
          refine lv_iadd hx hb d_Pa_renumber_55 ?_
          refine va_put (ci := 2) (v := .int (p_count_15 + (1 : Int32))) (ty := .int) (C := R_Pa) (T := F_Pa) (N := 4) hx hb hal in_Pa t_Pa t_Pa_ok n_Pa hown hK hP hD hS 0 rfl rfl 1 (by decide) (hal _ kw_112) (fun _ h9 => h9) rfl (by decide +kernel) rfl rfl (Nat.le_of_ble_eq_true rfl) d_Pa_renumber_56 (fun H locs hP hD hS => ?_)
          have hP : va_P D cls9 (wd_Pa_renumber cA a_p p_nodes (p_count_15 + (1 : Int32)) p_groups_15 (upd p_names_15 (p_groups_15 x1_15.toNatClampNeg).toNatClampNeg p_count_15)) H := hP
          have hD : va_D A (wd_Pa_renumber cA a_p p_nodes (p_count_15 + (1 : Int32)) p_groups_15 (upd p_names_15 (p_groups_15 x1_15.toNatClampNeg).toNatClampNeg p_count_15)) := hD
          exact cast (hG _ _ _ _ _ _ _) (hJ_59 ((p_count_15 + (1 : Int32)), (upd p_names_15 (p_groups_15 x1_15.toNatClampNeg).toNatClampNeg p_count_15)) h _ _ _ hP hD hS (lv_sub hl [0, 1, 2] rfl))
def wd_Pa_separate (cA : Nat → ClassId) (a_p : Nat → Nat) (p_nodes : Int32) (p_count : Int32) (p_groups : Nat → Int32) : va_W := [(a_p 0, .inr (2, [.int p_nodes, .int p_count, .ref (a_p 1), .ref (a_p 2)])), (a_p 1, .inl (cA 0, 9, .inl p_groups))]
noncomputable def s_Pa_separate_12 (x1 : Int32) (zz : Int32 × (Nat → Int32)) (back exit : (Int32 × (Nat → Int32)) → Option (Int32 × Int32 × (Nat → Int32))) : Option (Int32 × Int32 × (Nat → Int32)) :=
  (if x1 ≤ zz.1 then (exit (zz.1, zz.2)) else (if inb zz.1 9 then (back ((zz.1 + 1), (upd zz.2 zz.1.toNatClampNeg zz.1))) else none))
noncomputable def m_Pa_separate (p_groups : Nat → Int32) (v1 : Int32) : Option (Int32 × Int32 × (Nat → Int32)) :=
  (loopC (s_Pa_separate_12 v1) (fun z12 : Int32 × (Nat → Int32) => some (v1, v1, z12.2)) FU ((0 : Int32), p_groups))
set_option maxHeartbeats 4000000 in
set_option maxRecDepth 100000 in
theorem c_Pa_separate (l : Launch) (D : va_G) (cA : Nat → ClassId) (a_p : Nat → Nat) (sz : Nat) (p_nodes : Int32) (p_count : Int32) (p_groups : Nat → Int32) (v1 : Int32) (out : Int32 × Int32 × (Nat → Int32)) (h : m_Pa_separate p_groups v1 = some out) : Met l y_Pa_separate w_Pa_separate ({ frames := 0, cells := 0, slots := 0, locals := 0 }) (va_Pc [.ref (a_p 0), .int v1] (fun U => U.heap.size = sz ∧ va_P D cls9 (wd_Pa_separate cA a_p p_nodes p_count p_groups) U.heap ∧ va_K D cls9 (tys5 cA) U ∧ va_D (fun _ => True) (wd_Pa_separate cA a_p p_nodes p_count p_groups))) (va_Qv (fun uu : Int32 × Int32 × (Nat → Int32) => uu = out) (fun (uu : Int32 × Int32 × (Nat → Int32)) (t : State) => va_P D cls9 (wd_Pa_separate cA a_p uu.1 uu.2.1 uu.2.2) t.heap ∧ va_K D cls9 (tys5 cA) t ∧ va_D (va_A (wd_Pa_separate cA a_p p_nodes p_count p_groups) sz) (wd_Pa_separate cA a_p uu.1 uu.2.1 uu.2.2)) (va_A (wd_Pa_separate cA a_p p_nodes p_count p_groups) sz)) 0 0 (va_A (wd_Pa_separate cA a_p p_nodes p_count p_groups) sz) := by
  refine Met.ofW (cc := b_Pa_separate) (maxL := 3) (ret := (Option.none : Option Jvm.ClassFile.FieldType)) (by decide) rfl ?_
  intro p e s m args below meth c s₁ B hml hv
  obtain ⟨rfl, hsz, hP, hK, hD0⟩ := hv
  have hx := B.exec
  have hb := B.bytes
  have hr := B.returns
  have hts := atoms_spec (ws := w_Pa_separate) B.pre
  have hal : ∀ w ∈ ALLW, w.before _ s = true := fun w hw => hts w (List.mem_cons_of_mem _ hw)
  have hown : s.vm.findClass R_Pa = some m.cls := findClass_of_methodNamed B.named
  have hlocks := B.notSynchronized
  subst hsz
  have hD := hD0.self (sz := s.heap.size)
  generalize hAe : va_A (wd_Pa_separate cA a_p p_nodes p_count p_groups) s.heap.size = A at hD ⊢
  have hA : ∀ q : Nat, s.heap.size ≤ q → A q := fun q h => by rw [← hAe]; exact Or.inr h
  have hS : va_S A s.heap s.heap [] := va_S.rf
  have hl := lv_entry ([.ref (a_p 0), .int v1]) (n := 3) (Nat.le_of_ble_eq_true rfl)
  rw [lg_entry_eq]
  generalize (lg_sl ([.ref (a_p 0), .int v1]) ++ List.replicate (3 - (lg_sl ([.ref (a_p 0), .int v1])).length) Slot.unset).toArray = ls at hl ⊢
  have hl : lv_has ls 3 [(0, .ref (a_p 0)), (1, .int v1)] := hl
  refine wg (fun G hG => ?_)
  refine cast (hG _ _ _ _ _ _ _).symm ?_
  obtain ⟨H, locs, hHl, hS⟩ : ∃ (H : Heap) (locs : List Loc), (H = s.heap ∧ locs = []) ∧ va_S A s.heap H locs := ⟨s.heap, [], ⟨rfl, rfl⟩, hS⟩
  have hP : va_P D cls9 (wd_Pa_separate cA a_p p_nodes p_count p_groups) H := by rw [hHl.1]; exact hP
  rw [← hHl.1, ← hHl.2]
  clear hHl
  refine lv_aload_n hx hb d_Pa_separate_0 rfl (lv_at hl 0 rfl) ?_
  refine lv_iload_n hx hb d_Pa_separate_1 rfl (lv_at hl 1 rfl) ?_
  refine va_put (ci := 2) (v := .int v1) (ty := .int) (C := R_Pa) (T := F_Pa) (N := 4) hx hb hal in_Pa t_Pa t_Pa_ok n_Pa hown hK hP hD hS 0 rfl rfl 0 (by decide) (hal _ kw_111) (fun _ h9 => h9) rfl (by decide +kernel) rfl rfl (Nat.le_of_ble_eq_true rfl) d_Pa_separate_2 (fun H locs hP hD hS => ?_)
  have hP : va_P D cls9 (wd_Pa_separate cA a_p v1 p_count p_groups) H := hP
  have hD : va_D A (wd_Pa_separate cA a_p v1 p_count p_groups) := hD
  refine lv_aload_n hx hb d_Pa_separate_5 rfl (lv_at hl 0 rfl) ?_
  refine lv_iload_n hx hb d_Pa_separate_6 rfl (lv_at hl 1 rfl) ?_
  refine va_put (ci := 2) (v := .int v1) (ty := .int) (C := R_Pa) (T := F_Pa) (N := 4) hx hb hal in_Pa t_Pa t_Pa_ok n_Pa hown hK hP hD hS 0 rfl rfl 1 (by decide) (hal _ kw_112) (fun _ h9 => h9) rfl (by decide +kernel) rfl rfl (Nat.le_of_ble_eq_true rfl) d_Pa_separate_7 (fun H locs hP hD hS => ?_)
  have hP : va_P D cls9 (wd_Pa_separate cA a_p v1 v1 p_groups) H := hP
  have hD : va_D A (wd_Pa_separate cA a_p v1 v1 p_groups) := hD
  refine lv_iconst (v := 0) hx hb d_Pa_separate_10 (by decide) ?_
  refine lv_istore_n (lv' := [(2, .int (0 : Int32)), (0, .ref (a_p 0)), (1, .int v1)]) hx hb d_Pa_separate_11 rfl hl (by decide) rfl (fun ls hl => ?_)
  refine cast (hG _ _ _ _ _ _ _) (lp_go2 h (fun zz : Int32 × (Nat → Int32) => ∀ (H : Heap) (locs : List Loc) (ls : Array Slot), va_P D cls9 (wd_Pa_separate cA a_p v1 v1 zz.2) H → va_D A (wd_Pa_separate cA a_p v1 v1 zz.2) → va_S A s.heap H locs → lv_has ls 3 [(2, .int zz.1), (0, .ref (a_p 0)), (1, .int v1)] → G H locs 0 0 ls 30 []) ?_ (fun zz : Int32 × (Nat → Int32) => ∀ (H : Heap) (locs : List Loc) (ls : Array Slot), va_P D cls9 (wd_Pa_separate cA a_p v1 v1 zz.2) H → va_D A (wd_Pa_separate cA a_p v1 v1 zz.2) → va_S A s.heap H locs → lv_has ls 3 [(2, .int zz.1), (0, .ref (a_p 0)), (1, .int v1)] → G H locs 0 0 ls 12 []) ?_ _ _ ls hP hD hS (lv_sub hl [0, 1, 2] rfl))
  · intro zz h H locs ls hP hD hS hl
    obtain ⟨x2_12e, p_groups_12e⟩ := zz
    have hP : va_P D cls9 (wd_Pa_separate cA a_p v1 v1 p_groups_12e) H := hP
    have hD : va_D A (wd_Pa_separate cA a_p v1 v1 p_groups_12e) := hD
    have hl : lv_has ls 3 [(2, .int x2_12e), (0, .ref (a_p 0)), (1, .int v1)] := hl
    refine cast (hG _ _ _ _ _ _ _).symm ?_
    exact W.vret hx hb hr (fun t ht hW => ⟨⟨(v1, v1, p_groups_12e), rfl, Option.some.inj h, by rw [ht]; exact hP, va_K.moved hW.alike hK, hD⟩, hS.F ht⟩) hS.2.2 d_Pa_separate_30
  · intro back exit zz hB_12 hE_12 h H locs ls hP hD hS hl
    obtain ⟨x2_12, p_groups_12⟩ := zz
    have hP : va_P D cls9 (wd_Pa_separate cA a_p v1 v1 p_groups_12) H := hP
    have hD : va_D A (wd_Pa_separate cA a_p v1 v1 p_groups_12) := hD
    have hl : lv_has ls 3 [(2, .int x2_12), (0, .ref (a_p 0)), (1, .int v1)] := hl
    refine cast (hG _ _ _ _ _ _ _).symm ?_
    refine lv_iload_n hx hb d_Pa_separate_12 rfl (lv_at hl 0 rfl) ?_
    refine lv_iload_n hx hb d_Pa_separate_13 rfl (lv_at hl 2 rfl) ?_
    refine lv_icmp_ge (tgt := 30) hx hb d_Pa_separate_14 (by decide) (fun c_1 => ?_) (fun c_1 => ?_)
    · have h := ifp (c_1) h
      exact cast (hG _ _ _ _ _ _ _) (hE_12 (x2_12, p_groups_12) h _ _ _ hP hD hS (lv_sub hl [0, 1, 2] rfl))
    · have h := ifn (c_1) h
      refine lv_aload_n hx hb d_Pa_separate_17 rfl (lv_at hl 1 rfl) ?_
      refine va_get (ci := 2) (v := .ref (a_p 1)) (C := R_Pa) (T := F_Pa) (N := 4) hx hb hal in_Pa hown hK hP 0 rfl rfl 2 (by decide) (hal _ kw_114) (fun _ h9 => h9) rfl d_Pa_separate_18 ?_
      refine lv_iload_n hx hb d_Pa_separate_21 rfl (lv_at hl 0 rfl) ?_
      refine lv_iload_n hx hb d_Pa_separate_22 rfl (lv_at hl 0 rfl) ?_
      obtain ⟨g_2, h⟩ := gd h
      refine va_iast hx hb hK hP hD hS 1 0 rfl rfl (inb_in g_2) d_Pa_separate_23 (fun H locs hP hD hS => ?_)
      have hP : va_P D cls9 (wd_Pa_separate cA a_p v1 v1 (upd p_groups_12 x2_12.toNatClampNeg x2_12)) H := hP
      have hD : va_D A (wd_Pa_separate cA a_p v1 v1 (upd p_groups_12 x2_12.toNatClampNeg x2_12)) := hD
      refine lv_iinc (v := (x2_12 + 1)) (lv' := [(2, .int (x2_12 + 1)), (0, .ref (a_p 0)), (1, .int v1)]) hx hb d_Pa_separate_24 hl (k := 0) rfl rfl (by decide) rfl (fun ls hl => ?_)
      refine lv_goto (tgt := 12) hx hb d_Pa_separate_27 (by decide) ?_
      exact cast (hG _ _ _ _ _ _ _) (hB_12 ((x2_12 + 1), (upd p_groups_12 x2_12.toNatClampNeg x2_12)) h _ _ _ hP hD hS (lv_sub hl [0, 1, 2] rfl))
def wd_Pa_decode (cA : Nat → ClassId) (a_p : Nat → Nat) (p_nodes : Int32) (p_count : Int32) (p_groups : Nat → Int32) (p_names : Nat → Int32) : va_W := [(a_p 0, .inr (2, [.int p_nodes, .int p_count, .ref (a_p 1), .ref (a_p 2)])), (a_p 1, .inl (cA 0, 9, .inl p_groups)), (a_p 2, .inl (cA 0, 10, .inl p_names))]
noncomputable def s_Pa_decode_8 (x1 : Int64) (x3 : Int32) (zz : Int32 × (Nat → Int32)) (back exit : (Int32 × (Nat → Int32)) → Option (Int32 × Int32 × (Nat → Int32) × (Nat → Int32))) : Option (Int32 × Int32 × (Nat → Int32) × (Nat → Int32)) :=
  (if x3 ≤ zz.1 then (exit (zz.1, zz.2)) else ((m_Wa_groupIn x1 zz.1).bind (fun r23 : Int32 => (if inb zz.1 9 then (back ((zz.1 + 1), (upd zz.2 zz.1.toNatClampNeg r23))) else none))))
noncomputable def m_Pa_decode (p_groups : Nat → Int32) (p_names : Nat → Int32) (v1 : Int64) (v3 : Int32) : Option (Int32 × Int32 × (Nat → Int32) × (Nat → Int32)) :=
  (loopC (s_Pa_decode_8 v1 v3) (fun z8 : Int32 × (Nat → Int32) => ((m_Pa_renumber v3 z8.2 p_names).bind (fun r34 : Int32 × (Nat → Int32) × (Nat → Int32) => some (v3, r34.1, r34.2.1, r34.2.2)))) FU ((0 : Int32), p_groups))
set_option maxHeartbeats 4000000 in
set_option maxRecDepth 100000 in
theorem c_Pa_decode (l : Launch) (D : va_G) (cA : Nat → ClassId) (a_p : Nat → Nat) (sz : Nat) (p_nodes : Int32) (p_count : Int32) (p_groups : Nat → Int32) (p_names : Nat → Int32) (v1 : Int64) (v3 : Int32) (out : Int32 × Int32 × (Nat → Int32) × (Nat → Int32)) (h : m_Pa_decode p_groups p_names v1 v3 = some out) : Met l y_Pa_decode w_Pa_decode ({ frames := 2, cells := 0, slots := 0, locals := 45 }) (va_Pc [.ref (a_p 0), .long v1, .int v3] (fun U => U.heap.size = sz ∧ va_P D cls9 (wd_Pa_decode cA a_p p_nodes p_count p_groups p_names) U.heap ∧ va_K D cls9 (tys5 cA) U ∧ va_D (fun _ => True) (wd_Pa_decode cA a_p p_nodes p_count p_groups p_names))) (va_Qv (fun uu : Int32 × Int32 × (Nat → Int32) × (Nat → Int32) => uu = out) (fun (uu : Int32 × Int32 × (Nat → Int32) × (Nat → Int32)) (t : State) => va_P D cls9 (wd_Pa_decode cA a_p uu.1 uu.2.1 uu.2.2.1 uu.2.2.2) t.heap ∧ va_K D cls9 (tys5 cA) t ∧ va_D (va_A (wd_Pa_decode cA a_p p_nodes p_count p_groups p_names) sz) (wd_Pa_decode cA a_p uu.1 uu.2.1 uu.2.2.1 uu.2.2.2)) (va_A (wd_Pa_decode cA a_p p_nodes p_count p_groups p_names) sz)) 0 0 (va_A (wd_Pa_decode cA a_p p_nodes p_count p_groups p_names) sz) := by
  refine Met.ofW (cc := b_Pa_decode) (maxL := 5) (ret := (Option.none : Option Jvm.ClassFile.FieldType)) (by decide) rfl ?_
  intro p e s m args below meth c s₁ B hml hv
  obtain ⟨rfl, hsz, hP, hK, hD0⟩ := hv
  have hx := B.exec
  have hb := B.bytes
  have hr := B.returns
  have hts := atoms_spec (ws := w_Pa_decode) B.pre
  have hal : ∀ w ∈ ALLW, w.before _ s = true := fun w hw => hts w (List.mem_cons_of_mem _ hw)
  have hown : s.vm.findClass R_Pa = some m.cls := findClass_of_methodNamed B.named
  have hlocks := B.notSynchronized
  subst hsz
  have hD := hD0.self (sz := s.heap.size)
  generalize hAe : va_A (wd_Pa_decode cA a_p p_nodes p_count p_groups p_names) s.heap.size = A at hD ⊢
  have hA : ∀ q : Nat, s.heap.size ≤ q → A q := fun q h => by rw [← hAe]; exact Or.inr h
  have hS : va_S A s.heap s.heap [] := va_S.rf
  have hl := lv_entry ([.ref (a_p 0), .long v1, .int v3]) (n := 5) (Nat.le_of_ble_eq_true rfl)
  rw [lg_entry_eq]
  generalize (lg_sl ([.ref (a_p 0), .long v1, .int v3]) ++ List.replicate (5 - (lg_sl ([.ref (a_p 0), .long v1, .int v3])).length) Slot.unset).toArray = ls at hl ⊢
  have hl : lv_has ls 5 [(0, .ref (a_p 0)), (1, .long v1), (3, .int v3)] := hl
  refine wg (fun G hG => ?_)
  refine cast (hG _ _ _ _ _ _ _).symm ?_
  obtain ⟨H, locs, hHl, hS⟩ : ∃ (H : Heap) (locs : List Loc), (H = s.heap ∧ locs = []) ∧ va_S A s.heap H locs := ⟨s.heap, [], ⟨rfl, rfl⟩, hS⟩
  have hP : va_P D cls9 (wd_Pa_decode cA a_p p_nodes p_count p_groups p_names) H := by rw [hHl.1]; exact hP
  rw [← hHl.1, ← hHl.2]
  clear hHl
  refine lv_aload_n hx hb d_Pa_decode_0 rfl (lv_at hl 0 rfl) ?_
  refine lv_iload_n hx hb d_Pa_decode_1 rfl (lv_at hl 2 rfl) ?_
  refine va_put (ci := 2) (v := .int v3) (ty := .int) (C := R_Pa) (T := F_Pa) (N := 4) hx hb hal in_Pa t_Pa t_Pa_ok n_Pa hown hK hP hD hS 0 rfl rfl 0 (by decide) (hal _ kw_111) (fun _ h9 => h9) rfl (by decide +kernel) rfl rfl (Nat.le_of_ble_eq_true rfl) d_Pa_decode_2 (fun H locs hP hD hS => ?_)
  have hP : va_P D cls9 (wd_Pa_decode cA a_p v3 p_count p_groups p_names) H := hP
  have hD : va_D A (wd_Pa_decode cA a_p v3 p_count p_groups p_names) := hD
  refine lv_iconst (v := 0) hx hb d_Pa_decode_5 (by decide) ?_
  refine lv_istore (lv' := [(4, .int (0 : Int32)), (0, .ref (a_p 0)), (1, .long v1), (3, .int v3)]) hx hb d_Pa_decode_6 hl (by decide) rfl (fun ls hl => ?_)
  refine cast (hG _ _ _ _ _ _ _) (lp_go2 h (fun zz : Int32 × (Nat → Int32) => ∀ (H : Heap) (locs : List Loc) (ls : Array Slot), va_P D cls9 (wd_Pa_decode cA a_p v3 p_count zz.2 p_names) H → va_D A (wd_Pa_decode cA a_p v3 p_count zz.2 p_names) → va_S A s.heap H locs → lv_has ls 5 [(4, .int zz.1), (0, .ref (a_p 0)), (1, .long v1), (3, .int v3)] → G H locs 0 0 ls 33 []) ?_ (fun zz : Int32 × (Nat → Int32) => ∀ (H : Heap) (locs : List Loc) (ls : Array Slot), va_P D cls9 (wd_Pa_decode cA a_p v3 p_count zz.2 p_names) H → va_D A (wd_Pa_decode cA a_p v3 p_count zz.2 p_names) → va_S A s.heap H locs → lv_has ls 5 [(4, .int zz.1), (0, .ref (a_p 0)), (1, .long v1), (3, .int v3)] → G H locs 0 0 ls 8 []) ?_ _ _ ls hP hD hS (lv_sub hl [0, 1, 2, 3] rfl))
  · intro zz h H locs ls hP hD hS hl
    obtain ⟨x4_8e, p_groups_8e⟩ := zz
    have hP : va_P D cls9 (wd_Pa_decode cA a_p v3 p_count p_groups_8e p_names) H := hP
    have hD : va_D A (wd_Pa_decode cA a_p v3 p_count p_groups_8e p_names) := hD
    have hl : lv_has ls 5 [(4, .int x4_8e), (0, .ref (a_p 0)), (1, .long v1), (3, .int v3)] := hl
    refine cast (hG _ _ _ _ _ _ _).symm ?_
    refine lv_aload_n hx hb d_Pa_decode_33 rfl (lv_at hl 1 rfl) ?_
    obtain ⟨o_7, hc_6, h⟩ := bd h
    have hPc := hP.sub (ws' := (wd_Pa_renumber cA a_p v3 p_count p_groups_8e p_names)) [0, 1, 2] rfl
    have hDc := hD.sub (ws' := (wd_Pa_renumber cA a_p v3 p_count p_groups_8e p_names)) [0, 1, 2] (by decide) rfl
    have hFc := va_free (wc := (wd_Pa_renumber cA a_p v3 p_count p_groups_8e p_names)) hD hS hA [0, 1, 2] rfl
    refine va_callv (va_runV (C := R_Pa) (As := []) (rest := []) ⟨hx, hb, hml, hown, hal⟩ (c_Pa_renumber l D cA a_p H.size v3 p_count p_groups_8e p_names o_7 hc_6) (cwV 0 hal (goodV kw_366 kw_368 kw_p6 kw_4 kw_369) rfl rfl rfl (by decide +kernel) ⟨Nat.le_of_ble_eq_true rfl, Nat.le_of_ble_eq_true rfl⟩) ⟨fun a U g mk q => by obtain ⟨q0, q1, qP, qK, qD⟩ := q; exact ⟨q0, q1, qP, va_K.moved (u := U) (U := U.calling g mk a) (Vm.Alike.refl U.vm) qK, qD⟩, va_recv hK hP (ci := 2) (q0 := 0) rfl rfl, fun U hU hW => ⟨rfl, by rw [hU], by rw [hU]; exact hPc, va_K.moved hW.alike hK, hDc.weaken (fun _ _ _ _ => trivial)⟩⟩ rfl rfl hl.1 rfl (lv_room (Nat.le_of_ble_eq_true rfl)) d_Pa_decode_34 ⟨Nat.le_of_ble_eq_true rfl, Nat.le_of_ble_eq_true rfl⟩) hS (fun q _ h => hFc q h) hFc (fun u t H1 locs ht hvm hw hB hz1 hk1 hS => ?_)
    obtain ⟨u_3, u_4, u_5⟩ := u
    subst hw
    obtain ⟨hP1, hK1, hD1⟩ := hB
    rw [ht] at hP1
    have hP1 : va_P D cls9 (wd_Pa_renumber cA a_p v3 u_3 u_4 u_5) H1 := hP1
    obtain ⟨hP, hD⟩ := va_join (wr := ([] : List Nat).filterMap (fun i => (wd_Pa_decode cA a_p v3 p_count p_groups_8e p_names)[i]?)) (w1 := (wd_Pa_renumber cA a_p v3 u_3 u_4 u_5)) hP hD [0, 1, 2] [] rfl rfl (by decide) (by decide) hk1 hFc hP1 hD1
    generalize H1 = H at hP hS ⊢
    have hP : va_P D cls9 (wd_Pa_decode cA a_p v3 u_3 u_4 u_5) H := hP.sub [0, 1, 2] rfl
    have hD : va_D A (wd_Pa_decode cA a_p v3 u_3 u_4 u_5) := hD.sub [0, 1, 2] (by decide) rfl
    exact W.vret hx hb hr (fun t ht hW => ⟨⟨(v3, u_3, u_4, u_5), rfl, Option.some.inj h, by rw [ht]; exact hP, va_K.moved hW.alike hK, hD⟩, hS.F ht⟩) hS.2.2 d_Pa_decode_37
  · intro back exit zz hB_8 hE_8 h H locs ls hP hD hS hl
    obtain ⟨x4_8, p_groups_8⟩ := zz
    have hP : va_P D cls9 (wd_Pa_decode cA a_p v3 p_count p_groups_8 p_names) H := hP
    have hD : va_D A (wd_Pa_decode cA a_p v3 p_count p_groups_8 p_names) := hD
    have hl : lv_has ls 5 [(4, .int x4_8), (0, .ref (a_p 0)), (1, .long v1), (3, .int v3)] := hl
    refine cast (hG _ _ _ _ _ _ _).symm ?_
    refine lv_iload hx hb d_Pa_decode_8 (lv_at hl 0 rfl) ?_
    refine lv_iload_n hx hb d_Pa_decode_10 rfl (lv_at hl 3 rfl) ?_
    refine lv_icmp_ge (tgt := 33) hx hb d_Pa_decode_11 (by decide) (fun c_8 => ?_) (fun c_8 => ?_)
    · have h := ifp (c_8) h
      exact cast (hG _ _ _ _ _ _ _) (hE_8 (x4_8, p_groups_8) h _ _ _ hP hD hS (lv_sub hl [0, 1, 2, 3] rfl))
    · have h := ifn (c_8) h
      refine lv_aload_n hx hb d_Pa_decode_14 rfl (lv_at hl 1 rfl) ?_
      refine va_get (ci := 2) (v := .ref (a_p 1)) (C := R_Pa) (T := F_Pa) (N := 4) hx hb hal in_Pa hown hK hP 0 rfl rfl 2 (by decide) (hal _ kw_114) (fun _ h9 => h9) rfl d_Pa_decode_15 ?_
      refine lv_iload hx hb d_Pa_decode_18 (lv_at hl 0 rfl) ?_
      refine lv_lload_n hx hb d_Pa_decode_20 rfl (lv_at hl 2 rfl) ?_
      refine lv_iload hx hb d_Pa_decode_21 (lv_at hl 0 rfl) ?_
      obtain ⟨o_12, hc_11, h⟩ := bd h
      have hPc := hP.sub (ws' := (wd_Wa_groupIn cA)) [] rfl
      have hDc := hD.sub (ws' := (wd_Wa_groupIn cA)) [] (by decide) rfl
      have hFc := va_free (wc := (wd_Wa_groupIn cA)) hD hS hA [] rfl
      refine va_calli (va_runS (As := [.long v1, .int x4_8]) (rest := [.int x4_8, .ref (a_p 1)]) ⟨hx, hb, hml, hown, hal⟩ (c_Wa_groupIn l D cA H.size v1 x4_8 o_12 hc_11) (va_cwS 2 hal (goodS kw_499 kw_500 kw_5 kw_501) rfl rfl rfl (by decide +kernel) ⟨Nat.le_of_ble_eq_true rfl, Nat.le_of_ble_eq_true rfl⟩) ⟨fun a U g mk q => by obtain ⟨q0, q1, qP, qK, qD⟩ := q; exact ⟨q0, q1, qP, va_K.moved (u := U) (U := U.calling g mk a) (Vm.Alike.refl U.vm) qK, qD⟩, fun U hU hW => ⟨rfl, by rw [hU], by rw [hU]; exact hPc, va_K.moved hW.alike hK, hDc.weaken (fun _ _ _ _ => trivial)⟩⟩ rfl rfl hl.1 rfl (lv_room (Nat.le_of_ble_eq_true rfl)) d_Pa_decode_23 ⟨Nat.le_of_ble_eq_true rfl, Nat.le_of_ble_eq_true rfl⟩) hS (fun q _ h => hFc q h) hFc (fun r_10 u t H1 locs ht hvm hw hB hz1 hk1 hS => ?_)
      subst hw
      obtain ⟨hP1, hK1, hD1⟩ := hB
      rw [ht] at hP1
      have hP1 : va_P D cls9 (wd_Wa_groupIn cA) H1 := hP1
      obtain ⟨hP, hD⟩ := va_join (wr := ([0, 1, 2] : List Nat).filterMap (fun i => (wd_Pa_decode cA a_p v3 p_count p_groups_8 p_names)[i]?)) (w1 := (wd_Wa_groupIn cA)) hP hD [] [0, 1, 2] rfl rfl (by decide) (by decide) hk1 hFc hP1 hD1
      generalize H1 = H at hP hS ⊢
      have hP : va_P D cls9 (wd_Pa_decode cA a_p v3 p_count p_groups_8 p_names) H := hP.sub [0, 1, 2] rfl
      have hD : va_D A (wd_Pa_decode cA a_p v3 p_count p_groups_8 p_names) := hD.sub [0, 1, 2] (by decide) rfl
      obtain ⟨g_13, h⟩ := gd h
      refine va_iast hx hb hK hP hD hS 1 0 rfl rfl (inb_in g_13) d_Pa_decode_26 (fun H locs hP hD hS => ?_)
      have hP : va_P D cls9 (wd_Pa_decode cA a_p v3 p_count (upd p_groups_8 x4_8.toNatClampNeg r_10) p_names) H := hP
      have hD : va_D A (wd_Pa_decode cA a_p v3 p_count (upd p_groups_8 x4_8.toNatClampNeg r_10) p_names) := hD
      refine lv_iinc (v := (x4_8 + 1)) (lv' := [(4, .int (x4_8 + 1)), (0, .ref (a_p 0)), (1, .long v1), (3, .int v3)]) hx hb d_Pa_decode_27 hl (k := 0) rfl rfl (by decide) rfl (fun ls hl => ?_)
      refine lv_goto (tgt := 8) hx hb d_Pa_decode_30 (by decide) ?_
      exact cast (hG _ _ _ _ _ _ _) (hB_8 ((x4_8 + 1), (upd p_groups_8 x4_8.toNatClampNeg r_10)) h _ _ _ hP hD hS (lv_sub hl [0, 1, 2, 3] rfl))
def wd_Pa_shift (cA : Nat → ClassId) (a_p : Nat → Nat) (p_nodes : Int32) (p_count : Int32) (p_groups : Nat → Int32) (p_names : Nat → Int32) : va_W := [(a_p 0, .inr (2, [.int p_nodes, .int p_count, .ref (a_p 1), .ref (a_p 2)])), (a_p 1, .inl (cA 0, 9, .inl p_groups)), (a_p 2, .inl (cA 0, 10, .inl p_names))]
noncomputable def m_Pa_shift (p_nodes : Int32) (p_groups : Nat → Int32) (p_names : Nat → Int32) (v1 : Int32) (v2 : Int32) : Option (Int32 × (Nat → Int32) × (Nat → Int32)) :=
  (jn (fun z21 : Int32 => (if inb v1 9 then ((m_Pa_renumber p_nodes (upd p_groups v1.toNatClampNeg z21) p_names).bind (fun r23 : Int32 × (Nat → Int32) × (Nat → Int32) => some (r23.1, r23.2.1, r23.2.2))) else none)) (fun j21 => (if v1 = v2 then (j21 (9 : Int32)) else (if inb v2 9 then (j21 (p_groups v2.toNatClampNeg)) else none))))
set_option maxHeartbeats 4000000 in
set_option maxRecDepth 100000 in
theorem c_Pa_shift (l : Launch) (D : va_G) (cA : Nat → ClassId) (a_p : Nat → Nat) (sz : Nat) (p_nodes : Int32) (p_count : Int32) (p_groups : Nat → Int32) (p_names : Nat → Int32) (v1 : Int32) (v2 : Int32) (out : Int32 × (Nat → Int32) × (Nat → Int32)) (h : m_Pa_shift p_nodes p_groups p_names v1 v2 = some out) : Met l y_Pa_shift w_Pa_shift ({ frames := 2, cells := 0, slots := 0, locals := 45 }) (va_Pc [.ref (a_p 0), .int v1, .int v2] (fun U => U.heap.size = sz ∧ va_P D cls9 (wd_Pa_shift cA a_p p_nodes p_count p_groups p_names) U.heap ∧ va_K D cls9 (tys5 cA) U ∧ va_D (fun _ => True) (wd_Pa_shift cA a_p p_nodes p_count p_groups p_names))) (va_Qv (fun uu : Int32 × (Nat → Int32) × (Nat → Int32) => uu = out) (fun (uu : Int32 × (Nat → Int32) × (Nat → Int32)) (t : State) => va_P D cls9 (wd_Pa_shift cA a_p p_nodes uu.1 uu.2.1 uu.2.2) t.heap ∧ va_K D cls9 (tys5 cA) t ∧ va_D (va_A (wd_Pa_shift cA a_p p_nodes p_count p_groups p_names) sz) (wd_Pa_shift cA a_p p_nodes uu.1 uu.2.1 uu.2.2)) (va_A (wd_Pa_shift cA a_p p_nodes p_count p_groups p_names) sz)) 0 0 (va_A (wd_Pa_shift cA a_p p_nodes p_count p_groups p_names) sz) := by
  refine Met.ofW (cc := b_Pa_shift) (maxL := 3) (ret := (Option.none : Option Jvm.ClassFile.FieldType)) (by decide) rfl ?_
  intro p e s m args below meth c s₁ B hml hv
  obtain ⟨rfl, hsz, hP, hK, hD0⟩ := hv
  have hx := B.exec
  have hb := B.bytes
  have hr := B.returns
  have hts := atoms_spec (ws := w_Pa_shift) B.pre
  have hal : ∀ w ∈ ALLW, w.before _ s = true := fun w hw => hts w (List.mem_cons_of_mem _ hw)
  have hown : s.vm.findClass R_Pa = some m.cls := findClass_of_methodNamed B.named
  have hlocks := B.notSynchronized
  subst hsz
  have hD := hD0.self (sz := s.heap.size)
  generalize hAe : va_A (wd_Pa_shift cA a_p p_nodes p_count p_groups p_names) s.heap.size = A at hD ⊢
  have hA : ∀ q : Nat, s.heap.size ≤ q → A q := fun q h => by rw [← hAe]; exact Or.inr h
  have hS : va_S A s.heap s.heap [] := va_S.rf
  have hl := lv_entry ([.ref (a_p 0), .int v1, .int v2]) (n := 3) (Nat.le_of_ble_eq_true rfl)
  rw [lg_entry_eq]
  generalize (lg_sl ([.ref (a_p 0), .int v1, .int v2]) ++ List.replicate (3 - (lg_sl ([.ref (a_p 0), .int v1, .int v2])).length) Slot.unset).toArray = ls at hl ⊢
  have hl : lv_has ls 3 [(0, .ref (a_p 0)), (1, .int v1), (2, .int v2)] := hl
  refine wg (fun G hG => ?_)
  refine cast (hG _ _ _ _ _ _ _).symm ?_
  obtain ⟨H, locs, hHl, hS⟩ : ∃ (H : Heap) (locs : List Loc), (H = s.heap ∧ locs = []) ∧ va_S A s.heap H locs := ⟨s.heap, [], ⟨rfl, rfl⟩, hS⟩
  have hP : va_P D cls9 (wd_Pa_shift cA a_p p_nodes p_count p_groups p_names) H := by rw [hHl.1]; exact hP
  rw [← hHl.1, ← hHl.2]
  clear hHl
  refine lv_aload_n hx hb d_Pa_shift_0 rfl (lv_at hl 0 rfl) ?_
  refine va_get (ci := 2) (v := .ref (a_p 1)) (C := R_Pa) (T := F_Pa) (N := 4) hx hb hal in_Pa hown hK hP 0 rfl rfl 2 (by decide) (hal _ kw_114) (fun _ h9 => h9) rfl d_Pa_shift_1 ?_
  refine lv_iload_n hx hb d_Pa_shift_4 rfl (lv_at hl 1 rfl) ?_
  refine lv_iload_n hx hb d_Pa_shift_5 rfl (lv_at hl 1 rfl) ?_
  refine lv_iload_n hx hb d_Pa_shift_6 rfl (lv_at hl 2 rfl) ?_
  refine cast (hG _ _ _ _ _ _ _) (jn_go h (fun zz : Int32 => ∀ (H : Heap) (locs : List Loc) (ls : Array Slot), va_P D cls9 (wd_Pa_shift cA a_p p_nodes p_count p_groups p_names) H → va_D A (wd_Pa_shift cA a_p p_nodes p_count p_groups p_names) → va_S A s.heap H locs → lv_has ls 3 [(0, .ref (a_p 0)), (1, .int v1), (2, .int v2)] → G H locs 0 0 ls 21 [.int zz, .int v1, .ref (a_p 1)]) ?_ ?_)
  · intro zz h H locs ls hP hD hS hl
    obtain ⟨y0_21j, rfl⟩ : ∃ q, q = zz := ⟨_, rfl⟩
    have hP : va_P D cls9 (wd_Pa_shift cA a_p p_nodes p_count p_groups p_names) H := hP
    have hD : va_D A (wd_Pa_shift cA a_p p_nodes p_count p_groups p_names) := hD
    have hl : lv_has ls 3 [(0, .ref (a_p 0)), (1, .int v1), (2, .int v2)] := hl
    refine cast (hG _ _ _ _ _ _ _).symm ?_
    obtain ⟨g_1, h⟩ := gd h
    refine va_iast hx hb hK hP hD hS 1 0 rfl rfl (inb_in g_1) d_Pa_shift_21 (fun H locs hP hD hS => ?_)
    have hP : va_P D cls9 (wd_Pa_shift cA a_p p_nodes p_count (upd p_groups v1.toNatClampNeg y0_21j) p_names) H := hP
    have hD : va_D A (wd_Pa_shift cA a_p p_nodes p_count (upd p_groups v1.toNatClampNeg y0_21j) p_names) := hD
    refine lv_aload_n hx hb d_Pa_shift_22 rfl (lv_at hl 0 rfl) ?_
    obtain ⟨o_8, hc_7, h⟩ := bd h
    have hPc := hP.sub (ws' := (wd_Pa_renumber cA a_p p_nodes p_count (upd p_groups v1.toNatClampNeg y0_21j) p_names)) [0, 1, 2] rfl
    have hDc := hD.sub (ws' := (wd_Pa_renumber cA a_p p_nodes p_count (upd p_groups v1.toNatClampNeg y0_21j) p_names)) [0, 1, 2] (by decide) rfl
    have hFc := va_free (wc := (wd_Pa_renumber cA a_p p_nodes p_count (upd p_groups v1.toNatClampNeg y0_21j) p_names)) hD hS hA [0, 1, 2] rfl
    refine va_callv (va_runV (C := R_Pa) (As := []) (rest := []) ⟨hx, hb, hml, hown, hal⟩ (c_Pa_renumber l D cA a_p H.size p_nodes p_count (upd p_groups v1.toNatClampNeg y0_21j) p_names o_8 hc_7) (cwV 0 hal (goodV kw_366 kw_368 kw_p6 kw_4 kw_369) rfl rfl rfl (by decide +kernel) ⟨Nat.le_of_ble_eq_true rfl, Nat.le_of_ble_eq_true rfl⟩) ⟨fun a U g mk q => by obtain ⟨q0, q1, qP, qK, qD⟩ := q; exact ⟨q0, q1, qP, va_K.moved (u := U) (U := U.calling g mk a) (Vm.Alike.refl U.vm) qK, qD⟩, va_recv hK hP (ci := 2) (q0 := 0) rfl rfl, fun U hU hW => ⟨rfl, by rw [hU], by rw [hU]; exact hPc, va_K.moved hW.alike hK, hDc.weaken (fun _ _ _ _ => trivial)⟩⟩ rfl rfl hl.1 rfl (lv_room (Nat.le_of_ble_eq_true rfl)) d_Pa_shift_23 ⟨Nat.le_of_ble_eq_true rfl, Nat.le_of_ble_eq_true rfl⟩) hS (fun q _ h => hFc q h) hFc (fun u t H1 locs ht hvm hw hB hz1 hk1 hS => ?_)
    obtain ⟨u_4, u_5, u_6⟩ := u
    subst hw
    obtain ⟨hP1, hK1, hD1⟩ := hB
    rw [ht] at hP1
    have hP1 : va_P D cls9 (wd_Pa_renumber cA a_p p_nodes u_4 u_5 u_6) H1 := hP1
    obtain ⟨hP, hD⟩ := va_join (wr := ([] : List Nat).filterMap (fun i => (wd_Pa_shift cA a_p p_nodes p_count (upd p_groups v1.toNatClampNeg y0_21j) p_names)[i]?)) (w1 := (wd_Pa_renumber cA a_p p_nodes u_4 u_5 u_6)) hP hD [0, 1, 2] [] rfl rfl (by decide) (by decide) hk1 hFc hP1 hD1
    generalize H1 = H at hP hS ⊢
    have hP : va_P D cls9 (wd_Pa_shift cA a_p p_nodes u_4 u_5 u_6) H := hP.sub [0, 1, 2] rfl
    have hD : va_D A (wd_Pa_shift cA a_p p_nodes u_4 u_5 u_6) := hD.sub [0, 1, 2] (by decide) rfl
    exact W.vret hx hb hr (fun t ht hW => ⟨⟨(u_4, u_5, u_6), rfl, Option.some.inj h, by rw [ht]; exact hP, va_K.moved hW.alike hK, hD⟩, hS.F ht⟩) hS.2.2 d_Pa_shift_26
  · intro j21 hJ_21 h
    refine cast (hG _ _ _ _ _ _ _).symm ?_
    refine lv_icmp_ne (tgt := 15) hx hb d_Pa_shift_7 (by decide) (fun c_9 => ?_) (fun c_9 => ?_)
    · have h := ifn (c_9) h
      refine lv_aload_n hx hb d_Pa_shift_15 rfl (lv_at hl 0 rfl) ?_
      refine va_get (ci := 2) (v := .ref (a_p 1)) (C := R_Pa) (T := F_Pa) (N := 4) hx hb hal in_Pa hown hK hP 0 rfl rfl 2 (by decide) (hal _ kw_114) (fun _ h9 => h9) rfl d_Pa_shift_16 ?_
      refine lv_iload_n hx hb d_Pa_shift_19 rfl (lv_at hl 2 rfl) ?_
      obtain ⟨g_10, h⟩ := gd h
      refine va_iald hx hb hK hP 1 0 rfl rfl (inb_in g_10) d_Pa_shift_20 ?_
      exact cast (hG _ _ _ _ _ _ _) (hJ_21 (p_groups v2.toNatClampNeg) h _ _ _ hP hD hS (lv_sub hl [0, 1, 2] rfl))
    · have h := ifp (c_9) h
      refine lv_bipush (v := 9) hx hb d_Pa_shift_10 (by decide) ?_
      refine lv_goto (tgt := 21) hx hb d_Pa_shift_12 (by decide) ?_
      exact cast (hG _ _ _ _ _ _ _) (hJ_21 (9 : Int32) h _ _ _ hP hD hS (lv_sub hl [0, 1, 2] rfl))
def wd_Pa_unite (cA : Nat → ClassId) (a_p : Nat → Nat) (p_nodes : Int32) (p_count : Int32) (p_groups : Nat → Int32) (p_names : Nat → Int32) : va_W := [(a_p 0, .inr (2, [.int p_nodes, .int p_count, .ref (a_p 1), .ref (a_p 2)])), (a_p 1, .inl (cA 0, 9, .inl p_groups)), (a_p 2, .inl (cA 0, 10, .inl p_names))]
noncomputable def s_Pa_unite_2 (x1 : Int32) (x2 : Int32) (p_nodes : Int32) (zz : Int32 × (Nat → Int32)) (back exit : (Int32 × (Nat → Int32)) → Option (Int32 × (Nat → Int32) × (Nat → Int32))) : Option (Int32 × (Nat → Int32) × (Nat → Int32)) :=
  (if p_nodes ≤ zz.1 then (exit (zz.1, zz.2)) else (if inb zz.1 9 then (if (zz.2 zz.1.toNatClampNeg) = x2 then (back ((zz.1 + 1), (upd zz.2 zz.1.toNatClampNeg x1))) else (back ((zz.1 + 1), zz.2))) else none))
noncomputable def m_Pa_unite (p_nodes : Int32) (p_groups : Nat → Int32) (p_names : Nat → Int32) (v1 : Int32) (v2 : Int32) : Option (Int32 × (Nat → Int32) × (Nat → Int32)) :=
  (loopC (s_Pa_unite_2 v1 v2 p_nodes) (fun z2 : Int32 × (Nat → Int32) => ((m_Pa_renumber p_nodes z2.2 p_names).bind (fun r34 : Int32 × (Nat → Int32) × (Nat → Int32) => some (r34.1, r34.2.1, r34.2.2)))) FU ((0 : Int32), p_groups))
set_option maxHeartbeats 4000000 in
set_option maxRecDepth 100000 in
theorem c_Pa_unite (l : Launch) (D : va_G) (cA : Nat → ClassId) (a_p : Nat → Nat) (sz : Nat) (p_nodes : Int32) (p_count : Int32) (p_groups : Nat → Int32) (p_names : Nat → Int32) (v1 : Int32) (v2 : Int32) (out : Int32 × (Nat → Int32) × (Nat → Int32)) (h : m_Pa_unite p_nodes p_groups p_names v1 v2 = some out) : Met l y_Pa_unite w_Pa_unite ({ frames := 2, cells := 0, slots := 0, locals := 45 }) (va_Pc [.ref (a_p 0), .int v1, .int v2] (fun U => U.heap.size = sz ∧ va_P D cls9 (wd_Pa_unite cA a_p p_nodes p_count p_groups p_names) U.heap ∧ va_K D cls9 (tys5 cA) U ∧ va_D (fun _ => True) (wd_Pa_unite cA a_p p_nodes p_count p_groups p_names))) (va_Qv (fun uu : Int32 × (Nat → Int32) × (Nat → Int32) => uu = out) (fun (uu : Int32 × (Nat → Int32) × (Nat → Int32)) (t : State) => va_P D cls9 (wd_Pa_unite cA a_p p_nodes uu.1 uu.2.1 uu.2.2) t.heap ∧ va_K D cls9 (tys5 cA) t ∧ va_D (va_A (wd_Pa_unite cA a_p p_nodes p_count p_groups p_names) sz) (wd_Pa_unite cA a_p p_nodes uu.1 uu.2.1 uu.2.2)) (va_A (wd_Pa_unite cA a_p p_nodes p_count p_groups p_names) sz)) 0 0 (va_A (wd_Pa_unite cA a_p p_nodes p_count p_groups p_names) sz) := by
  refine Met.ofW (cc := b_Pa_unite) (maxL := 4) (ret := (Option.none : Option Jvm.ClassFile.FieldType)) (by decide) rfl ?_
  intro p e s m args below meth c s₁ B hml hv
  obtain ⟨rfl, hsz, hP, hK, hD0⟩ := hv
  have hx := B.exec
  have hb := B.bytes
  have hr := B.returns
  have hts := atoms_spec (ws := w_Pa_unite) B.pre
  have hal : ∀ w ∈ ALLW, w.before _ s = true := fun w hw => hts w (List.mem_cons_of_mem _ hw)
  have hown : s.vm.findClass R_Pa = some m.cls := findClass_of_methodNamed B.named
  have hlocks := B.notSynchronized
  subst hsz
  have hD := hD0.self (sz := s.heap.size)
  generalize hAe : va_A (wd_Pa_unite cA a_p p_nodes p_count p_groups p_names) s.heap.size = A at hD ⊢
  have hA : ∀ q : Nat, s.heap.size ≤ q → A q := fun q h => by rw [← hAe]; exact Or.inr h
  have hS : va_S A s.heap s.heap [] := va_S.rf
  have hl := lv_entry ([.ref (a_p 0), .int v1, .int v2]) (n := 4) (Nat.le_of_ble_eq_true rfl)
  rw [lg_entry_eq]
  generalize (lg_sl ([.ref (a_p 0), .int v1, .int v2]) ++ List.replicate (4 - (lg_sl ([.ref (a_p 0), .int v1, .int v2])).length) Slot.unset).toArray = ls at hl ⊢
  have hl : lv_has ls 4 [(0, .ref (a_p 0)), (1, .int v1), (2, .int v2)] := hl
  refine wg (fun G hG => ?_)
  refine cast (hG _ _ _ _ _ _ _).symm ?_
  obtain ⟨H, locs, hHl, hS⟩ : ∃ (H : Heap) (locs : List Loc), (H = s.heap ∧ locs = []) ∧ va_S A s.heap H locs := ⟨s.heap, [], ⟨rfl, rfl⟩, hS⟩
  have hP : va_P D cls9 (wd_Pa_unite cA a_p p_nodes p_count p_groups p_names) H := by rw [hHl.1]; exact hP
  rw [← hHl.1, ← hHl.2]
  clear hHl
  refine lv_iconst (v := 0) hx hb d_Pa_unite_0 (by decide) ?_
  refine lv_istore_n (lv' := [(3, .int (0 : Int32)), (0, .ref (a_p 0)), (1, .int v1), (2, .int v2)]) hx hb d_Pa_unite_1 rfl hl (by decide) rfl (fun ls hl => ?_)
  refine cast (hG _ _ _ _ _ _ _) (lp_go2 h (fun zz : Int32 × (Nat → Int32) => ∀ (H : Heap) (locs : List Loc) (ls : Array Slot), va_P D cls9 (wd_Pa_unite cA a_p p_nodes p_count zz.2 p_names) H → va_D A (wd_Pa_unite cA a_p p_nodes p_count zz.2 p_names) → va_S A s.heap H locs → lv_has ls 4 [(3, .int zz.1), (0, .ref (a_p 0)), (1, .int v1), (2, .int v2)] → G H locs 0 0 ls 33 []) ?_ (fun zz : Int32 × (Nat → Int32) => ∀ (H : Heap) (locs : List Loc) (ls : Array Slot), va_P D cls9 (wd_Pa_unite cA a_p p_nodes p_count zz.2 p_names) H → va_D A (wd_Pa_unite cA a_p p_nodes p_count zz.2 p_names) → va_S A s.heap H locs → lv_has ls 4 [(3, .int zz.1), (0, .ref (a_p 0)), (1, .int v1), (2, .int v2)] → G H locs 0 0 ls 2 []) ?_ _ _ ls hP hD hS (lv_sub hl [0, 1, 2, 3] rfl))
  · intro zz h H locs ls hP hD hS hl
    obtain ⟨x3_2e, p_groups_2e⟩ := zz
    have hP : va_P D cls9 (wd_Pa_unite cA a_p p_nodes p_count p_groups_2e p_names) H := hP
    have hD : va_D A (wd_Pa_unite cA a_p p_nodes p_count p_groups_2e p_names) := hD
    have hl : lv_has ls 4 [(3, .int x3_2e), (0, .ref (a_p 0)), (1, .int v1), (2, .int v2)] := hl
    refine cast (hG _ _ _ _ _ _ _).symm ?_
    refine lv_aload_n hx hb d_Pa_unite_33 rfl (lv_at hl 1 rfl) ?_
    obtain ⟨o_7, hc_6, h⟩ := bd h
    have hPc := hP.sub (ws' := (wd_Pa_renumber cA a_p p_nodes p_count p_groups_2e p_names)) [0, 1, 2] rfl
    have hDc := hD.sub (ws' := (wd_Pa_renumber cA a_p p_nodes p_count p_groups_2e p_names)) [0, 1, 2] (by decide) rfl
    have hFc := va_free (wc := (wd_Pa_renumber cA a_p p_nodes p_count p_groups_2e p_names)) hD hS hA [0, 1, 2] rfl
    refine va_callv (va_runV (C := R_Pa) (As := []) (rest := []) ⟨hx, hb, hml, hown, hal⟩ (c_Pa_renumber l D cA a_p H.size p_nodes p_count p_groups_2e p_names o_7 hc_6) (cwV 0 hal (goodV kw_366 kw_368 kw_p6 kw_4 kw_369) rfl rfl rfl (by decide +kernel) ⟨Nat.le_of_ble_eq_true rfl, Nat.le_of_ble_eq_true rfl⟩) ⟨fun a U g mk q => by obtain ⟨q0, q1, qP, qK, qD⟩ := q; exact ⟨q0, q1, qP, va_K.moved (u := U) (U := U.calling g mk a) (Vm.Alike.refl U.vm) qK, qD⟩, va_recv hK hP (ci := 2) (q0 := 0) rfl rfl, fun U hU hW => ⟨rfl, by rw [hU], by rw [hU]; exact hPc, va_K.moved hW.alike hK, hDc.weaken (fun _ _ _ _ => trivial)⟩⟩ rfl rfl hl.1 rfl (lv_room (Nat.le_of_ble_eq_true rfl)) d_Pa_unite_34 ⟨Nat.le_of_ble_eq_true rfl, Nat.le_of_ble_eq_true rfl⟩) hS (fun q _ h => hFc q h) hFc (fun u t H1 locs ht hvm hw hB hz1 hk1 hS => ?_)
    obtain ⟨u_3, u_4, u_5⟩ := u
    subst hw
    obtain ⟨hP1, hK1, hD1⟩ := hB
    rw [ht] at hP1
    have hP1 : va_P D cls9 (wd_Pa_renumber cA a_p p_nodes u_3 u_4 u_5) H1 := hP1
    obtain ⟨hP, hD⟩ := va_join (wr := ([] : List Nat).filterMap (fun i => (wd_Pa_unite cA a_p p_nodes p_count p_groups_2e p_names)[i]?)) (w1 := (wd_Pa_renumber cA a_p p_nodes u_3 u_4 u_5)) hP hD [0, 1, 2] [] rfl rfl (by decide) (by decide) hk1 hFc hP1 hD1
    generalize H1 = H at hP hS ⊢
    have hP : va_P D cls9 (wd_Pa_unite cA a_p p_nodes u_3 u_4 u_5) H := hP.sub [0, 1, 2] rfl
    have hD : va_D A (wd_Pa_unite cA a_p p_nodes u_3 u_4 u_5) := hD.sub [0, 1, 2] (by decide) rfl
    exact W.vret hx hb hr (fun t ht hW => ⟨⟨(u_3, u_4, u_5), rfl, Option.some.inj h, by rw [ht]; exact hP, va_K.moved hW.alike hK, hD⟩, hS.F ht⟩) hS.2.2 d_Pa_unite_37
  · intro back exit zz hB_2 hE_2 h H locs ls hP hD hS hl
    obtain ⟨x3_2, p_groups_2⟩ := zz
    have hP : va_P D cls9 (wd_Pa_unite cA a_p p_nodes p_count p_groups_2 p_names) H := hP
    have hD : va_D A (wd_Pa_unite cA a_p p_nodes p_count p_groups_2 p_names) := hD
    have hl : lv_has ls 4 [(3, .int x3_2), (0, .ref (a_p 0)), (1, .int v1), (2, .int v2)] := hl
    refine cast (hG _ _ _ _ _ _ _).symm ?_
    refine lv_iload_n hx hb d_Pa_unite_2 rfl (lv_at hl 0 rfl) ?_
    refine lv_aload_n hx hb d_Pa_unite_3 rfl (lv_at hl 1 rfl) ?_
    refine va_get (ci := 2) (v := .int p_nodes) (C := R_Pa) (T := F_Pa) (N := 4) hx hb hal in_Pa hown hK hP 0 rfl rfl 0 (by decide) (hal _ kw_111) (fun _ h9 => h9) rfl d_Pa_unite_4 ?_
    refine lv_icmp_ge (tgt := 33) hx hb d_Pa_unite_7 (by decide) (fun c_8 => ?_) (fun c_8 => ?_)
    · have h := ifp (c_8) h
      exact cast (hG _ _ _ _ _ _ _) (hE_2 (x3_2, p_groups_2) h _ _ _ hP hD hS (lv_sub hl [0, 1, 2, 3] rfl))
    · have h := ifn (c_8) h
      refine lv_aload_n hx hb d_Pa_unite_10 rfl (lv_at hl 1 rfl) ?_
      refine va_get (ci := 2) (v := .ref (a_p 1)) (C := R_Pa) (T := F_Pa) (N := 4) hx hb hal in_Pa hown hK hP 0 rfl rfl 2 (by decide) (hal _ kw_114) (fun _ h9 => h9) rfl d_Pa_unite_11 ?_
      refine lv_iload_n hx hb d_Pa_unite_14 rfl (lv_at hl 0 rfl) ?_
      obtain ⟨g_9, h⟩ := gd h
      refine va_iald hx hb hK hP 1 0 rfl rfl (inb_in g_9) d_Pa_unite_15 ?_
      refine lv_iload_n hx hb d_Pa_unite_16 rfl (lv_at hl 3 rfl) ?_
      refine lv_icmp_ne (tgt := 27) hx hb d_Pa_unite_17 (by decide) (fun c_10 => ?_) (fun c_10 => ?_)
      · have h := ifn (c_10) h
        refine lv_iinc (v := (x3_2 + 1)) (lv' := [(3, .int (x3_2 + 1)), (0, .ref (a_p 0)), (1, .int v1), (2, .int v2)]) hx hb d_Pa_unite_27 hl (k := 0) rfl rfl (by decide) rfl (fun ls hl => ?_)
        refine lv_goto (tgt := 2) hx hb d_Pa_unite_30 (by decide) ?_
        exact cast (hG _ _ _ _ _ _ _) (hB_2 ((x3_2 + 1), p_groups_2) h _ _ _ hP hD hS (lv_sub hl [0, 1, 2, 3] rfl))
      · have h := ifp (c_10) h
        refine lv_aload_n hx hb d_Pa_unite_20 rfl (lv_at hl 1 rfl) ?_
        refine va_get (ci := 2) (v := .ref (a_p 1)) (C := R_Pa) (T := F_Pa) (N := 4) hx hb hal in_Pa hown hK hP 0 rfl rfl 2 (by decide) (hal _ kw_114) (fun _ h9 => h9) rfl d_Pa_unite_21 ?_
        refine lv_iload_n hx hb d_Pa_unite_24 rfl (lv_at hl 0 rfl) ?_
        refine lv_iload_n hx hb d_Pa_unite_25 rfl (lv_at hl 2 rfl) ?_
        refine va_iast hx hb hK hP hD hS 1 0 rfl rfl (inb_in g_9) d_Pa_unite_26 (fun H locs hP hD hS => ?_)
        have hP : va_P D cls9 (wd_Pa_unite cA a_p p_nodes p_count (upd p_groups_2 x3_2.toNatClampNeg v1) p_names) H := hP
        have hD : va_D A (wd_Pa_unite cA a_p p_nodes p_count (upd p_groups_2 x3_2.toNatClampNeg v1) p_names) := hD
        refine lv_iinc (v := (x3_2 + 1)) (lv' := [(3, .int (x3_2 + 1)), (0, .ref (a_p 0)), (1, .int v1), (2, .int v2)]) hx hb d_Pa_unite_27 hl (k := 0) rfl rfl (by decide) rfl (fun ls hl => ?_)
        refine lv_goto (tgt := 2) hx hb d_Pa_unite_30 (by decide) ?_
        exact cast (hG _ _ _ _ _ _ _) (hB_2 ((x3_2 + 1), (upd p_groups_2 x3_2.toNatClampNeg v1)) h _ _ _ hP hD hS (lv_sub hl [0, 1, 2, 3] rfl))
def wd_Pa_membersOf (cA : Nat → ClassId) (a_p : Nat → Nat) (p_nodes : Int32) (p_count : Int32) (p_groups : Nat → Int32) : va_W := [(a_p 0, .inr (2, [.int p_nodes, .int p_count, .ref (a_p 1), .ref (a_p 2)])), (a_p 1, .inl (cA 0, 9, .inl p_groups))]
noncomputable def s_Pa_membersOf_4 (x1 : Int32) (p_groups : Nat → Int32) (p_nodes : Int32) (zz : Int32 × Int32) (back exit : (Int32 × Int32) → Option Int32) : Option Int32 :=
  (if p_nodes ≤ zz.2 then (exit (zz.1, zz.2)) else (if inb zz.2 9 then (if (p_groups zz.2.toNatClampNeg) = x1 then (back ((zz.1 ||| ((1 : Int32) <<< (zz.2 &&& 31))), (zz.2 + 1))) else (back (zz.1, (zz.2 + 1)))) else none))
noncomputable def m_Pa_membersOf (p_nodes : Int32) (p_groups : Nat → Int32) (v1 : Int32) : Option Int32 :=
  (loopC (s_Pa_membersOf_4 v1 p_groups p_nodes) (fun z4 : Int32 × Int32 => some z4.1) FU ((0 : Int32), (0 : Int32)))
set_option maxHeartbeats 4000000 in
set_option maxRecDepth 100000 in
theorem c_Pa_membersOf (l : Launch) (D : va_G) (cA : Nat → ClassId) (a_p : Nat → Nat) (sz : Nat) (p_nodes : Int32) (p_count : Int32) (p_groups : Nat → Int32) (v1 : Int32) (out : Int32) (h : m_Pa_membersOf p_nodes p_groups v1 = some out) : Met l y_Pa_membersOf w_Pa_membersOf ({ frames := 0, cells := 0, slots := 0, locals := 0 }) (va_Pc [.ref (a_p 0), .int v1] (fun U => U.heap.size = sz ∧ va_P D cls9 (wd_Pa_membersOf cA a_p p_nodes p_count p_groups) U.heap ∧ va_K D cls9 (tys5 cA) U ∧ va_D (fun _ => True) (wd_Pa_membersOf cA a_p p_nodes p_count p_groups))) (va_Qi (fun (rr : Int32) (uu : Unit) => rr = out) (fun (uu : Unit) (t : State) => va_P D cls9 (wd_Pa_membersOf cA a_p p_nodes p_count p_groups) t.heap ∧ va_K D cls9 (tys5 cA) t ∧ va_D (va_A (wd_Pa_membersOf cA a_p p_nodes p_count p_groups) sz) (wd_Pa_membersOf cA a_p p_nodes p_count p_groups)) (va_A (wd_Pa_membersOf cA a_p p_nodes p_count p_groups) sz)) 0 0 (va_A (wd_Pa_membersOf cA a_p p_nodes p_count p_groups) sz) := by
  refine Met.ofW (cc := b_Pa_membersOf) (maxL := 4) (ret := (Option.some Jvm.ClassFile.FieldType.int)) (by decide) rfl ?_
  intro p e s m args below meth c s₁ B hml hv
  obtain ⟨rfl, hsz, hP, hK, hD0⟩ := hv
  have hx := B.exec
  have hb := B.bytes
  have hr := B.returns
  have hts := atoms_spec (ws := w_Pa_membersOf) B.pre
  have hal : ∀ w ∈ ALLW, w.before _ s = true := fun w hw => hts w (List.mem_cons_of_mem _ hw)
  have hown : s.vm.findClass R_Pa = some m.cls := findClass_of_methodNamed B.named
  have hlocks := B.notSynchronized
  subst hsz
  have hD := hD0.self (sz := s.heap.size)
  generalize hAe : va_A (wd_Pa_membersOf cA a_p p_nodes p_count p_groups) s.heap.size = A at hD ⊢
  have hA : ∀ q : Nat, s.heap.size ≤ q → A q := fun q h => by rw [← hAe]; exact Or.inr h
  have hS : va_S A s.heap s.heap [] := va_S.rf
  have hl := lv_entry ([.ref (a_p 0), .int v1]) (n := 4) (Nat.le_of_ble_eq_true rfl)
  rw [lg_entry_eq]
  generalize (lg_sl ([.ref (a_p 0), .int v1]) ++ List.replicate (4 - (lg_sl ([.ref (a_p 0), .int v1])).length) Slot.unset).toArray = ls at hl ⊢
  have hl : lv_has ls 4 [(0, .ref (a_p 0)), (1, .int v1)] := hl
  refine wg (fun G hG => ?_)
  refine cast (hG _ _ _ _ _ _ _).symm ?_
  obtain ⟨H, locs, hHl, hS⟩ : ∃ (H : Heap) (locs : List Loc), (H = s.heap ∧ locs = []) ∧ va_S A s.heap H locs := ⟨s.heap, [], ⟨rfl, rfl⟩, hS⟩
  have hP : va_P D cls9 (wd_Pa_membersOf cA a_p p_nodes p_count p_groups) H := by rw [hHl.1]; exact hP
  rw [← hHl.1, ← hHl.2]
  clear hHl
  refine lv_iconst (v := 0) hx hb d_Pa_membersOf_0 (by decide) ?_
  refine lv_istore_n (lv' := [(2, .int (0 : Int32)), (0, .ref (a_p 0)), (1, .int v1)]) hx hb d_Pa_membersOf_1 rfl hl (by decide) rfl (fun ls hl => ?_)
  refine lv_iconst (v := 0) hx hb d_Pa_membersOf_2 (by decide) ?_
  refine lv_istore_n (lv' := [(3, .int (0 : Int32)), (2, .int (0 : Int32)), (0, .ref (a_p 0)), (1, .int v1)]) hx hb d_Pa_membersOf_3 rfl hl (by decide) rfl (fun ls hl => ?_)
  refine cast (hG _ _ _ _ _ _ _) (lp_go2 h (fun zz : Int32 × Int32 => ∀ (H : Heap) (locs : List Loc) (ls : Array Slot), va_P D cls9 (wd_Pa_membersOf cA a_p p_nodes p_count p_groups) H → va_D A (wd_Pa_membersOf cA a_p p_nodes p_count p_groups) → va_S A s.heap H locs → lv_has ls 4 [(3, .int zz.2), (2, .int zz.1), (0, .ref (a_p 0)), (1, .int v1)] → G H locs 0 0 ls 34 []) ?_ (fun zz : Int32 × Int32 => ∀ (H : Heap) (locs : List Loc) (ls : Array Slot), va_P D cls9 (wd_Pa_membersOf cA a_p p_nodes p_count p_groups) H → va_D A (wd_Pa_membersOf cA a_p p_nodes p_count p_groups) → va_S A s.heap H locs → lv_has ls 4 [(3, .int zz.2), (2, .int zz.1), (0, .ref (a_p 0)), (1, .int v1)] → G H locs 0 0 ls 4 []) ?_ _ _ ls hP hD hS (lv_sub hl [0, 1, 2, 3] rfl))
  · intro zz h H locs ls hP hD hS hl
    obtain ⟨x2_4e, x3_4e⟩ := zz
    have hP : va_P D cls9 (wd_Pa_membersOf cA a_p p_nodes p_count p_groups) H := hP
    have hD : va_D A (wd_Pa_membersOf cA a_p p_nodes p_count p_groups) := hD
    have hl : lv_has ls 4 [(3, .int x3_4e), (2, .int x2_4e), (0, .ref (a_p 0)), (1, .int v1)] := hl
    refine cast (hG _ _ _ _ _ _ _).symm ?_
    refine lv_iload_n hx hb d_Pa_membersOf_34 rfl (lv_at hl 1 rfl) ?_
    exact W.iret (v := x2_4e) hx hb hr (fun t ht hW => ⟨⟨x2_4e, (), rfl, Option.some.inj h, by rw [ht]; exact hP, va_K.moved hW.alike hK, hD⟩, hS.F ht⟩) hS.2.2 d_Pa_membersOf_35
  · intro back exit zz hB_4 hE_4 h H locs ls hP hD hS hl
    obtain ⟨x2_4, x3_4⟩ := zz
    have hP : va_P D cls9 (wd_Pa_membersOf cA a_p p_nodes p_count p_groups) H := hP
    have hD : va_D A (wd_Pa_membersOf cA a_p p_nodes p_count p_groups) := hD
    have hl : lv_has ls 4 [(3, .int x3_4), (2, .int x2_4), (0, .ref (a_p 0)), (1, .int v1)] := hl
    refine cast (hG _ _ _ _ _ _ _).symm ?_
    refine lv_iload_n hx hb d_Pa_membersOf_4 rfl (lv_at hl 0 rfl) ?_
    refine lv_aload_n hx hb d_Pa_membersOf_5 rfl (lv_at hl 2 rfl) ?_
    refine va_get (ci := 2) (v := .int p_nodes) (C := R_Pa) (T := F_Pa) (N := 4) hx hb hal in_Pa hown hK hP 0 rfl rfl 0 (by decide) (hal _ kw_111) (fun _ h9 => h9) rfl d_Pa_membersOf_6 ?_
    refine lv_icmp_ge (tgt := 34) hx hb d_Pa_membersOf_9 (by decide) (fun c_1 => ?_) (fun c_1 => ?_)
    · have h := ifp (c_1) h
      exact cast (hG _ _ _ _ _ _ _) (hE_4 (x2_4, x3_4) h _ _ _ hP hD hS (lv_sub hl [0, 1, 2, 3] rfl))
    · have h := ifn (c_1) h
      refine lv_aload_n hx hb d_Pa_membersOf_12 rfl (lv_at hl 2 rfl) ?_
      refine va_get (ci := 2) (v := .ref (a_p 1)) (C := R_Pa) (T := F_Pa) (N := 4) hx hb hal in_Pa hown hK hP 0 rfl rfl 2 (by decide) (hal _ kw_114) (fun _ h9 => h9) rfl d_Pa_membersOf_13 ?_
      refine lv_iload_n hx hb d_Pa_membersOf_16 rfl (lv_at hl 0 rfl) ?_
      obtain ⟨g_2, h⟩ := gd h
      refine va_iald hx hb hK hP 1 0 rfl rfl (inb_in g_2) d_Pa_membersOf_17 ?_
      refine lv_iload_n hx hb d_Pa_membersOf_18 rfl (lv_at hl 3 rfl) ?_
      refine lv_icmp_ne (tgt := 28) hx hb d_Pa_membersOf_19 (by decide) (fun c_3 => ?_) (fun c_3 => ?_)
      · have h := ifn (c_3) h
        refine lv_iinc (v := (x3_4 + 1)) (lv' := [(3, .int (x3_4 + 1)), (2, .int x2_4), (0, .ref (a_p 0)), (1, .int v1)]) hx hb d_Pa_membersOf_28 hl (k := 0) rfl rfl (by decide) rfl (fun ls hl => ?_)
        refine lv_goto (tgt := 4) hx hb d_Pa_membersOf_31 (by decide) ?_
        exact cast (hG _ _ _ _ _ _ _) (hB_4 (x2_4, (x3_4 + 1)) h _ _ _ hP hD hS (lv_sub hl [0, 1, 2, 3] rfl))
      · have h := ifp (c_3) h
        refine lv_iload_n hx hb d_Pa_membersOf_22 rfl (lv_at hl 1 rfl) ?_
        refine lv_iconst (v := 1) hx hb d_Pa_membersOf_23 (by decide) ?_
        refine lv_iload_n hx hb d_Pa_membersOf_24 rfl (lv_at hl 0 rfl) ?_
        refine lv_ishl hx hb d_Pa_membersOf_25 ?_
        refine lv_ior hx hb d_Pa_membersOf_26 ?_
        refine lv_istore_n (lv' := [(2, .int (x2_4 ||| ((1 : Int32) <<< (x3_4 &&& 31)))), (3, .int x3_4), (0, .ref (a_p 0)), (1, .int v1)]) hx hb d_Pa_membersOf_27 rfl hl (by decide) rfl (fun ls hl => ?_)
        refine lv_iinc (v := (x3_4 + 1)) (lv' := [(3, .int (x3_4 + 1)), (2, .int (x2_4 ||| ((1 : Int32) <<< (x3_4 &&& 31)))), (0, .ref (a_p 0)), (1, .int v1)]) hx hb d_Pa_membersOf_28 hl (k := 1) rfl rfl (by decide) rfl (fun ls hl => ?_)
        refine lv_goto (tgt := 4) hx hb d_Pa_membersOf_31 (by decide) ?_
        exact cast (hG _ _ _ _ _ _ _) (hB_4 ((x2_4 ||| ((1 : Int32) <<< (x3_4 &&& 31))), (x3_4 + 1)) h _ _ _ hP hD hS (lv_sub hl [0, 1, 2, 3] rfl))
def wd_Pa_take (cA : Nat → ClassId) (a_p a_q : Nat → Nat) (p_nodes : Int32) (p_count : Int32) (p_groups : Nat → Int32) (p_names : Nat → Int32) (q_arr : Nat → Int32) : va_W := [(a_p 0, .inr (2, [.int p_nodes, .int p_count, .ref (a_p 1), .ref (a_p 2)])), (a_p 1, .inl (cA 0, 9, .inl p_groups)), (a_p 2, .inl (cA 0, 10, .inl p_names)), (a_q 0, .inl (cA 0, 9, .inl q_arr))]
noncomputable def s_Pa_take_7 (x2 : Int32) (q_arr : Nat → Int32) (zz : Int32 × (Nat → Int32)) (back exit : (Int32 × (Nat → Int32)) → Option (Int32 × Int32 × (Nat → Int32) × (Nat → Int32))) : Option (Int32 × Int32 × (Nat → Int32) × (Nat → Int32)) :=
  (if x2 ≤ zz.1 then (exit (zz.1, zz.2)) else (if inb zz.1 9 then (back ((zz.1 + 1), (upd zz.2 zz.1.toNatClampNeg (q_arr zz.1.toNatClampNeg)))) else none))
noncomputable def m_Pa_take (p_groups : Nat → Int32) (p_names : Nat → Int32) (q_arr : Nat → Int32) (v2 : Int32) : Option (Int32 × Int32 × (Nat → Int32) × (Nat → Int32)) :=
  (loopC (s_Pa_take_7 v2 q_arr) (fun z7 : Int32 × (Nat → Int32) => ((m_Pa_renumber v2 z7.2 p_names).bind (fun r28 : Int32 × (Nat → Int32) × (Nat → Int32) => some (v2, r28.1, r28.2.1, r28.2.2)))) FU ((0 : Int32), p_groups))
set_option maxHeartbeats 4000000 in
set_option maxRecDepth 100000 in
theorem c_Pa_take (l : Launch) (D : va_G) (cA : Nat → ClassId) (a_p a_q : Nat → Nat) (sz : Nat) (p_nodes : Int32) (p_count : Int32) (p_groups : Nat → Int32) (p_names : Nat → Int32) (q_arr : Nat → Int32) (v2 : Int32) (out : Int32 × Int32 × (Nat → Int32) × (Nat → Int32)) (h : m_Pa_take p_groups p_names q_arr v2 = some out) : Met l y_Pa_take w_Pa_take ({ frames := 2, cells := 0, slots := 0, locals := 45 }) (va_Pc [.ref (a_p 0), .ref (a_q 0), .int v2] (fun U => U.heap.size = sz ∧ va_P D cls9 (wd_Pa_take cA a_p a_q p_nodes p_count p_groups p_names q_arr) U.heap ∧ va_K D cls9 (tys5 cA) U ∧ va_D (fun _ => True) (wd_Pa_take cA a_p a_q p_nodes p_count p_groups p_names q_arr))) (va_Qv (fun uu : Int32 × Int32 × (Nat → Int32) × (Nat → Int32) => uu = out) (fun (uu : Int32 × Int32 × (Nat → Int32) × (Nat → Int32)) (t : State) => va_P D cls9 (wd_Pa_take cA a_p a_q uu.1 uu.2.1 uu.2.2.1 uu.2.2.2 q_arr) t.heap ∧ va_K D cls9 (tys5 cA) t ∧ va_D (va_A (wd_Pa_take cA a_p a_q p_nodes p_count p_groups p_names q_arr) sz) (wd_Pa_take cA a_p a_q uu.1 uu.2.1 uu.2.2.1 uu.2.2.2 q_arr)) (va_A (wd_Pa_take cA a_p a_q p_nodes p_count p_groups p_names q_arr) sz)) 0 0 (va_A (wd_Pa_take cA a_p a_q p_nodes p_count p_groups p_names q_arr) sz) := by
  refine Met.ofW (cc := b_Pa_take) (maxL := 4) (ret := (Option.none : Option Jvm.ClassFile.FieldType)) (by decide) rfl ?_
  intro p e s m args below meth c s₁ B hml hv
  obtain ⟨rfl, hsz, hP, hK, hD0⟩ := hv
  have hx := B.exec
  have hb := B.bytes
  have hr := B.returns
  have hts := atoms_spec (ws := w_Pa_take) B.pre
  have hal : ∀ w ∈ ALLW, w.before _ s = true := fun w hw => hts w (List.mem_cons_of_mem _ hw)
  have hown : s.vm.findClass R_Pa = some m.cls := findClass_of_methodNamed B.named
  have hlocks := B.notSynchronized
  subst hsz
  have hD := hD0.self (sz := s.heap.size)
  generalize hAe : va_A (wd_Pa_take cA a_p a_q p_nodes p_count p_groups p_names q_arr) s.heap.size = A at hD ⊢
  have hA : ∀ q : Nat, s.heap.size ≤ q → A q := fun q h => by rw [← hAe]; exact Or.inr h
  have hS : va_S A s.heap s.heap [] := va_S.rf
  have hl := lv_entry ([.ref (a_p 0), .ref (a_q 0), .int v2]) (n := 4) (Nat.le_of_ble_eq_true rfl)
  rw [lg_entry_eq]
  generalize (lg_sl ([.ref (a_p 0), .ref (a_q 0), .int v2]) ++ List.replicate (4 - (lg_sl ([.ref (a_p 0), .ref (a_q 0), .int v2])).length) Slot.unset).toArray = ls at hl ⊢
  have hl : lv_has ls 4 [(0, .ref (a_p 0)), (1, .ref (a_q 0)), (2, .int v2)] := hl
  refine wg (fun G hG => ?_)
  refine cast (hG _ _ _ _ _ _ _).symm ?_
  obtain ⟨H, locs, hHl, hS⟩ : ∃ (H : Heap) (locs : List Loc), (H = s.heap ∧ locs = []) ∧ va_S A s.heap H locs := ⟨s.heap, [], ⟨rfl, rfl⟩, hS⟩
  have hP : va_P D cls9 (wd_Pa_take cA a_p a_q p_nodes p_count p_groups p_names q_arr) H := by rw [hHl.1]; exact hP
  rw [← hHl.1, ← hHl.2]
  clear hHl
  refine lv_aload_n hx hb d_Pa_take_0 rfl (lv_at hl 0 rfl) ?_
  refine lv_iload_n hx hb d_Pa_take_1 rfl (lv_at hl 2 rfl) ?_
  refine va_put (ci := 2) (v := .int v2) (ty := .int) (C := R_Pa) (T := F_Pa) (N := 4) hx hb hal in_Pa t_Pa t_Pa_ok n_Pa hown hK hP hD hS 0 rfl rfl 0 (by decide) (hal _ kw_111) (fun _ h9 => h9) rfl (by decide +kernel) rfl rfl (Nat.le_of_ble_eq_true rfl) d_Pa_take_2 (fun H locs hP hD hS => ?_)
  have hP : va_P D cls9 (wd_Pa_take cA a_p a_q v2 p_count p_groups p_names q_arr) H := hP
  have hD : va_D A (wd_Pa_take cA a_p a_q v2 p_count p_groups p_names q_arr) := hD
  refine lv_iconst (v := 0) hx hb d_Pa_take_5 (by decide) ?_
  refine lv_istore_n (lv' := [(3, .int (0 : Int32)), (0, .ref (a_p 0)), (1, .ref (a_q 0)), (2, .int v2)]) hx hb d_Pa_take_6 rfl hl (by decide) rfl (fun ls hl => ?_)
  refine cast (hG _ _ _ _ _ _ _) (lp_go2 h (fun zz : Int32 × (Nat → Int32) => ∀ (H : Heap) (locs : List Loc) (ls : Array Slot), va_P D cls9 (wd_Pa_take cA a_p a_q v2 p_count zz.2 p_names q_arr) H → va_D A (wd_Pa_take cA a_p a_q v2 p_count zz.2 p_names q_arr) → va_S A s.heap H locs → lv_has ls 4 [(3, .int zz.1), (0, .ref (a_p 0)), (1, .ref (a_q 0)), (2, .int v2)] → G H locs 0 0 ls 27 []) ?_ (fun zz : Int32 × (Nat → Int32) => ∀ (H : Heap) (locs : List Loc) (ls : Array Slot), va_P D cls9 (wd_Pa_take cA a_p a_q v2 p_count zz.2 p_names q_arr) H → va_D A (wd_Pa_take cA a_p a_q v2 p_count zz.2 p_names q_arr) → va_S A s.heap H locs → lv_has ls 4 [(3, .int zz.1), (0, .ref (a_p 0)), (1, .ref (a_q 0)), (2, .int v2)] → G H locs 0 0 ls 7 []) ?_ _ _ ls hP hD hS (lv_sub hl [0, 1, 2, 3] rfl))
  · intro zz h H locs ls hP hD hS hl
    obtain ⟨x3_7e, p_groups_7e⟩ := zz
    have hP : va_P D cls9 (wd_Pa_take cA a_p a_q v2 p_count p_groups_7e p_names q_arr) H := hP
    have hD : va_D A (wd_Pa_take cA a_p a_q v2 p_count p_groups_7e p_names q_arr) := hD
    have hl : lv_has ls 4 [(3, .int x3_7e), (0, .ref (a_p 0)), (1, .ref (a_q 0)), (2, .int v2)] := hl
    refine cast (hG _ _ _ _ _ _ _).symm ?_
    refine lv_aload_n hx hb d_Pa_take_27 rfl (lv_at hl 1 rfl) ?_
    obtain ⟨o_7, hc_6, h⟩ := bd h
    have hPc := hP.sub (ws' := (wd_Pa_renumber cA a_p v2 p_count p_groups_7e p_names)) [0, 1, 2] rfl
    have hDc := hD.sub (ws' := (wd_Pa_renumber cA a_p v2 p_count p_groups_7e p_names)) [0, 1, 2] (by decide) rfl
    have hFc := va_free (wc := (wd_Pa_renumber cA a_p v2 p_count p_groups_7e p_names)) hD hS hA [0, 1, 2] rfl
    refine va_callv (va_runV (C := R_Pa) (As := []) (rest := []) ⟨hx, hb, hml, hown, hal⟩ (c_Pa_renumber l D cA a_p H.size v2 p_count p_groups_7e p_names o_7 hc_6) (cwV 0 hal (goodV kw_366 kw_368 kw_p6 kw_4 kw_369) rfl rfl rfl (by decide +kernel) ⟨Nat.le_of_ble_eq_true rfl, Nat.le_of_ble_eq_true rfl⟩) ⟨fun a U g mk q => by obtain ⟨q0, q1, qP, qK, qD⟩ := q; exact ⟨q0, q1, qP, va_K.moved (u := U) (U := U.calling g mk a) (Vm.Alike.refl U.vm) qK, qD⟩, va_recv hK hP (ci := 2) (q0 := 0) rfl rfl, fun U hU hW => ⟨rfl, by rw [hU], by rw [hU]; exact hPc, va_K.moved hW.alike hK, hDc.weaken (fun _ _ _ _ => trivial)⟩⟩ rfl rfl hl.1 rfl (lv_room (Nat.le_of_ble_eq_true rfl)) d_Pa_take_28 ⟨Nat.le_of_ble_eq_true rfl, Nat.le_of_ble_eq_true rfl⟩) hS (fun q _ h => hFc q h) hFc (fun u t H1 locs ht hvm hw hB hz1 hk1 hS => ?_)
    obtain ⟨u_3, u_4, u_5⟩ := u
    subst hw
    obtain ⟨hP1, hK1, hD1⟩ := hB
    rw [ht] at hP1
    have hP1 : va_P D cls9 (wd_Pa_renumber cA a_p v2 u_3 u_4 u_5) H1 := hP1
    obtain ⟨hP, hD⟩ := va_join (wr := ([3] : List Nat).filterMap (fun i => (wd_Pa_take cA a_p a_q v2 p_count p_groups_7e p_names q_arr)[i]?)) (w1 := (wd_Pa_renumber cA a_p v2 u_3 u_4 u_5)) hP hD [0, 1, 2] [3] rfl rfl (by decide) (by decide) hk1 hFc hP1 hD1
    generalize H1 = H at hP hS ⊢
    have hP : va_P D cls9 (wd_Pa_take cA a_p a_q v2 u_3 u_4 u_5 q_arr) H := hP.sub [1, 2, 3, 0] rfl
    have hD : va_D A (wd_Pa_take cA a_p a_q v2 u_3 u_4 u_5 q_arr) := hD.sub [1, 2, 3, 0] (by decide) rfl
    exact W.vret hx hb hr (fun t ht hW => ⟨⟨(v2, u_3, u_4, u_5), rfl, Option.some.inj h, by rw [ht]; exact hP, va_K.moved hW.alike hK, hD⟩, hS.F ht⟩) hS.2.2 d_Pa_take_31
  · intro back exit zz hB_7 hE_7 h H locs ls hP hD hS hl
    obtain ⟨x3_7, p_groups_7⟩ := zz
    have hP : va_P D cls9 (wd_Pa_take cA a_p a_q v2 p_count p_groups_7 p_names q_arr) H := hP
    have hD : va_D A (wd_Pa_take cA a_p a_q v2 p_count p_groups_7 p_names q_arr) := hD
    have hl : lv_has ls 4 [(3, .int x3_7), (0, .ref (a_p 0)), (1, .ref (a_q 0)), (2, .int v2)] := hl
    refine cast (hG _ _ _ _ _ _ _).symm ?_
    refine lv_iload_n hx hb d_Pa_take_7 rfl (lv_at hl 0 rfl) ?_
    refine lv_iload_n hx hb d_Pa_take_8 rfl (lv_at hl 3 rfl) ?_
    refine lv_icmp_ge (tgt := 27) hx hb d_Pa_take_9 (by decide) (fun c_8 => ?_) (fun c_8 => ?_)
    · have h := ifp (c_8) h
      exact cast (hG _ _ _ _ _ _ _) (hE_7 (x3_7, p_groups_7) h _ _ _ hP hD hS (lv_sub hl [0, 1, 2, 3] rfl))
    · have h := ifn (c_8) h
      refine lv_aload_n hx hb d_Pa_take_12 rfl (lv_at hl 1 rfl) ?_
      refine va_get (ci := 2) (v := .ref (a_p 1)) (C := R_Pa) (T := F_Pa) (N := 4) hx hb hal in_Pa hown hK hP 0 rfl rfl 2 (by decide) (hal _ kw_114) (fun _ h9 => h9) rfl d_Pa_take_13 ?_
      refine lv_iload_n hx hb d_Pa_take_16 rfl (lv_at hl 0 rfl) ?_
      refine lv_aload_n hx hb d_Pa_take_17 rfl (lv_at hl 2 rfl) ?_
      refine lv_iload_n hx hb d_Pa_take_18 rfl (lv_at hl 0 rfl) ?_
      obtain ⟨g_9, h⟩ := gd h
      refine va_iald hx hb hK hP 3 0 rfl rfl (inb_in g_9) d_Pa_take_19 ?_
      refine va_iast hx hb hK hP hD hS 1 0 rfl rfl (inb_in g_9) d_Pa_take_20 (fun H locs hP hD hS => ?_)
      have hP : va_P D cls9 (wd_Pa_take cA a_p a_q v2 p_count (upd p_groups_7 x3_7.toNatClampNeg (q_arr x3_7.toNatClampNeg)) p_names q_arr) H := hP
      have hD : va_D A (wd_Pa_take cA a_p a_q v2 p_count (upd p_groups_7 x3_7.toNatClampNeg (q_arr x3_7.toNatClampNeg)) p_names q_arr) := hD
      refine lv_iinc (v := (x3_7 + 1)) (lv' := [(3, .int (x3_7 + 1)), (0, .ref (a_p 0)), (1, .ref (a_q 0)), (2, .int v2)]) hx hb d_Pa_take_21 hl (k := 0) rfl rfl (by decide) rfl (fun ls hl => ?_)
      refine lv_goto (tgt := 7) hx hb d_Pa_take_24 (by decide) ?_
      exact cast (hG _ _ _ _ _ _ _) (hB_7 ((x3_7 + 1), (upd p_groups_7 x3_7.toNatClampNeg (q_arr x3_7.toNatClampNeg))) h _ _ _ hP hD hS (lv_sub hl [0, 1, 2, 3] rfl))
def wd_Pa_copy (cA : Nat → ClassId) (a_p a_o : Nat → Nat) (p_nodes : Int32) (p_count : Int32) (p_groups : Nat → Int32) (p_names : Nat → Int32) (o_nodes : Int32) (o_count : Int32) (o_groups : Nat → Int32) : va_W := [(a_p 0, .inr (2, [.int p_nodes, .int p_count, .ref (a_p 1), .ref (a_p 2)])), (a_p 1, .inl (cA 0, 9, .inl p_groups)), (a_p 2, .inl (cA 0, 10, .inl p_names)), (a_o 0, .inr (2, [.int o_nodes, .int o_count, .ref (a_o 1), .ref (a_o 2)])), (a_o 1, .inl (cA 0, 9, .inl o_groups))]
noncomputable def m_Pa_copy (p_groups : Nat → Int32) (p_names : Nat → Int32) (o_nodes : Int32) (o_groups : Nat → Int32) : Option (Int32 × Int32 × (Nat → Int32) × (Nat → Int32)) :=
  ((m_Pa_take p_groups p_names o_groups o_nodes).bind (fun r9 : Int32 × Int32 × (Nat → Int32) × (Nat → Int32) => some (r9.1, r9.2.1, r9.2.2.1, r9.2.2.2)))
set_option maxHeartbeats 4000000 in
set_option maxRecDepth 100000 in
theorem c_Pa_copy (l : Launch) (D : va_G) (cA : Nat → ClassId) (a_p a_o : Nat → Nat) (sz : Nat) (p_nodes : Int32) (p_count : Int32) (p_groups : Nat → Int32) (p_names : Nat → Int32) (o_nodes : Int32) (o_count : Int32) (o_groups : Nat → Int32)  (out : Int32 × Int32 × (Nat → Int32) × (Nat → Int32)) (h : m_Pa_copy p_groups p_names o_nodes o_groups = some out) : Met l y_Pa_copy w_Pa_copy ({ frames := 3, cells := 0, slots := 0, locals := 68 }) (va_Pc [.ref (a_p 0), .ref (a_o 0)] (fun U => U.heap.size = sz ∧ va_P D cls9 (wd_Pa_copy cA a_p a_o p_nodes p_count p_groups p_names o_nodes o_count o_groups) U.heap ∧ va_K D cls9 (tys5 cA) U ∧ va_D (fun _ => True) (wd_Pa_copy cA a_p a_o p_nodes p_count p_groups p_names o_nodes o_count o_groups))) (va_Qv (fun uu : Int32 × Int32 × (Nat → Int32) × (Nat → Int32) => uu = out) (fun (uu : Int32 × Int32 × (Nat → Int32) × (Nat → Int32)) (t : State) => va_P D cls9 (wd_Pa_copy cA a_p a_o uu.1 uu.2.1 uu.2.2.1 uu.2.2.2 o_nodes o_count o_groups) t.heap ∧ va_K D cls9 (tys5 cA) t ∧ va_D (va_A (wd_Pa_copy cA a_p a_o p_nodes p_count p_groups p_names o_nodes o_count o_groups) sz) (wd_Pa_copy cA a_p a_o uu.1 uu.2.1 uu.2.2.1 uu.2.2.2 o_nodes o_count o_groups)) (va_A (wd_Pa_copy cA a_p a_o p_nodes p_count p_groups p_names o_nodes o_count o_groups) sz)) 0 0 (va_A (wd_Pa_copy cA a_p a_o p_nodes p_count p_groups p_names o_nodes o_count o_groups) sz) := by
  refine Met.ofW (cc := b_Pa_copy) (maxL := 2) (ret := (Option.none : Option Jvm.ClassFile.FieldType)) (by decide) rfl ?_
  intro p e s m args below meth c s₁ B hml hv
  obtain ⟨rfl, hsz, hP, hK, hD0⟩ := hv
  have hx := B.exec
  have hb := B.bytes
  have hr := B.returns
  have hts := atoms_spec (ws := w_Pa_copy) B.pre
  have hal : ∀ w ∈ ALLW, w.before _ s = true := fun w hw => hts w (List.mem_cons_of_mem _ hw)
  have hown : s.vm.findClass R_Pa = some m.cls := findClass_of_methodNamed B.named
  have hlocks := B.notSynchronized
  subst hsz
  have hD := hD0.self (sz := s.heap.size)
  generalize hAe : va_A (wd_Pa_copy cA a_p a_o p_nodes p_count p_groups p_names o_nodes o_count o_groups) s.heap.size = A at hD ⊢
  have hA : ∀ q : Nat, s.heap.size ≤ q → A q := fun q h => by rw [← hAe]; exact Or.inr h
  have hS : va_S A s.heap s.heap [] := va_S.rf
  have hl := lv_entry ([.ref (a_p 0), .ref (a_o 0)]) (n := 2) (Nat.le_of_ble_eq_true rfl)
  rw [lg_entry_eq]
  generalize (lg_sl ([.ref (a_p 0), .ref (a_o 0)]) ++ List.replicate (2 - (lg_sl ([.ref (a_p 0), .ref (a_o 0)])).length) Slot.unset).toArray = ls at hl ⊢
  have hl : lv_has ls 2 [(0, .ref (a_p 0)), (1, .ref (a_o 0))] := hl
  refine wg (fun G hG => ?_)
  refine cast (hG _ _ _ _ _ _ _).symm ?_
  obtain ⟨H, locs, hHl, hS⟩ : ∃ (H : Heap) (locs : List Loc), (H = s.heap ∧ locs = []) ∧ va_S A s.heap H locs := ⟨s.heap, [], ⟨rfl, rfl⟩, hS⟩
  have hP : va_P D cls9 (wd_Pa_copy cA a_p a_o p_nodes p_count p_groups p_names o_nodes o_count o_groups) H := by rw [hHl.1]; exact hP
  rw [← hHl.1, ← hHl.2]
  clear hHl
  refine lv_aload_n hx hb d_Pa_copy_0 rfl (lv_at hl 0 rfl) ?_
  refine lv_aload_n hx hb d_Pa_copy_1 rfl (lv_at hl 1 rfl) ?_
  refine va_get (ci := 2) (v := .ref (a_o 1)) (C := R_Pa) (T := F_Pa) (N := 4) hx hb hal in_Pa hown hK hP 3 rfl rfl 2 (by decide) (hal _ kw_114) (fun _ h9 => h9) rfl d_Pa_copy_2 ?_
  refine lv_aload_n hx hb d_Pa_copy_5 rfl (lv_at hl 1 rfl) ?_
  refine va_get (ci := 2) (v := .int o_nodes) (C := R_Pa) (T := F_Pa) (N := 4) hx hb hal in_Pa hown hK hP 3 rfl rfl 0 (by decide) (hal _ kw_111) (fun _ h9 => h9) rfl d_Pa_copy_6 ?_
  obtain ⟨o_8, hc_7, h⟩ := bd h
  have hPc := hP.sub (ws' := (wd_Pa_take cA a_p (fun _ => a_o 1) p_nodes p_count p_groups p_names o_groups)) [0, 1, 2, 4] rfl
  have hDc := hD.sub (ws' := (wd_Pa_take cA a_p (fun _ => a_o 1) p_nodes p_count p_groups p_names o_groups)) [0, 1, 2, 4] (by decide) rfl
  have hFc := va_free (wc := (wd_Pa_take cA a_p (fun _ => a_o 1) p_nodes p_count p_groups p_names o_groups)) hD hS hA [0, 1, 2, 4] rfl
  refine va_callv (va_runV (C := R_Pa) (As := [.ref (a_o 1), .int o_nodes]) (rest := []) ⟨hx, hb, hml, hown, hal⟩ (c_Pa_take l D cA a_p (fun _ => a_o 1) H.size p_nodes p_count p_groups p_names o_groups o_nodes o_8 hc_7) (cwV 2 hal (goodV kw_418 kw_419 kw_420 kw_4 kw_421) rfl rfl rfl (by decide +kernel) ⟨Nat.le_of_ble_eq_true rfl, Nat.le_of_ble_eq_true rfl⟩) ⟨fun a U g mk q => by obtain ⟨q0, q1, qP, qK, qD⟩ := q; exact ⟨q0, q1, qP, va_K.moved (u := U) (U := U.calling g mk a) (Vm.Alike.refl U.vm) qK, qD⟩, va_recv hK hP (ci := 2) (q0 := 0) rfl rfl, fun U hU hW => ⟨rfl, by rw [hU], by rw [hU]; exact hPc, va_K.moved hW.alike hK, hDc.weaken (fun _ _ _ _ => trivial)⟩⟩ rfl rfl hl.1 rfl (lv_room (Nat.le_of_ble_eq_true rfl)) d_Pa_copy_9 ⟨Nat.le_of_ble_eq_true rfl, Nat.le_of_ble_eq_true rfl⟩) hS (fun q _ h => hFc q h) hFc (fun u t H1 locs ht hvm hw hB hz1 hk1 hS => ?_)
  obtain ⟨u_3, u_4, u_5, u_6⟩ := u
  subst hw
  obtain ⟨hP1, hK1, hD1⟩ := hB
  rw [ht] at hP1
  have hP1 : va_P D cls9 (wd_Pa_take cA a_p (fun _ => a_o 1) u_3 u_4 u_5 u_6 o_groups) H1 := hP1
  obtain ⟨hP, hD⟩ := va_join (wr := ([3] : List Nat).filterMap (fun i => (wd_Pa_copy cA a_p a_o p_nodes p_count p_groups p_names o_nodes o_count o_groups)[i]?)) (w1 := (wd_Pa_take cA a_p (fun _ => a_o 1) u_3 u_4 u_5 u_6 o_groups)) hP hD [0, 1, 2, 4] [3] rfl rfl (by decide) (by decide) hk1 hFc hP1 hD1
  generalize H1 = H at hP hS ⊢
  have hP : va_P D cls9 (wd_Pa_copy cA a_p a_o u_3 u_4 u_5 u_6 o_nodes o_count o_groups) H := hP.sub [1, 2, 3, 0, 4] rfl
  have hD : va_D A (wd_Pa_copy cA a_p a_o u_3 u_4 u_5 u_6 o_nodes o_count o_groups) := hD.sub [1, 2, 3, 0, 4] (by decide) rfl
  exact W.vret hx hb hr (fun t ht hW => ⟨⟨(u_3, u_4, u_5, u_6), rfl, Option.some.inj h, by rw [ht]; exact hP, va_K.moved hW.alike hK, hD⟩, hS.F ht⟩) hS.2.2 d_Pa_copy_12
