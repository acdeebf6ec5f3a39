def wd_Sp_bearersOf (cA : Nat → ClassId) (a_n a_s : Nat → Nat) (n_x : Int32) (n_y : Int32) (n_nodes : Int32) (n_aloneB : Int64) (s_drawn : Int32) (s_labels : Nat → Int32) : va_W := [(a_n 0, .inr (0, [.int n_x, .int n_y, .int n_nodes, .long n_aloneB, .ref (a_n 1), .ref (a_n 11), .ref (a_n 21), .ref (a_n 31), .ref (a_n 32)])), (a_s 0, .inr (4, [.ref (a_n 0), .ref (a_s 1), .ref (a_s 2), .int s_drawn])), (a_s 1, .inl (cA 0, 9, .inl s_labels))]
noncomputable def s_Sp_bearersOf_4 (x1 : Int32) (n_nodes : Int32) (s_labels : Nat → Int32) (zz : Int32 × Int32) (back exit : (Int32 × Int32) → Option Int32) : Option Int32 :=
  (if n_nodes ≤ zz.2 then (exit (zz.1, zz.2)) else (if inb zz.2 9 then (if (s_labels zz.2.toNatClampNeg) = x1 then (back ((zz.1 ||| ((1 : Int32) <<< (zz.2 &&& 31))), (zz.2 + 1))) else (back (zz.1, (zz.2 + 1)))) else none))
noncomputable def m_Sp_bearersOf (n_nodes : Int32) (s_labels : Nat → Int32) (v1 : Int32) : Option Int32 :=
  (loopC (s_Sp_bearersOf_4 v1 n_nodes s_labels) (fun z4 : Int32 × Int32 => some z4.1) FU ((0 : Int32), (0 : Int32)))
set_option maxHeartbeats 4000000 in
set_option maxRecDepth 100000 in
theorem c_Sp_bearersOf (l : Launch) (D : va_G) (cA : Nat → ClassId) (a_n a_s : Nat → Nat) (sz : Nat) (n_x : Int32) (n_y : Int32) (n_nodes : Int32) (n_aloneB : Int64) (s_drawn : Int32) (s_labels : Nat → Int32) (v1 : Int32) (out : Int32) (h : m_Sp_bearersOf n_nodes s_labels v1 = some out) : Met l y_Sp_bearersOf w_Sp_bearersOf ({ frames := 0, cells := 0, slots := 0, locals := 0 }) (va_Pc [.ref (a_s 0), .int v1] (fun U => U.heap.size = sz ∧ va_P D cls9 (wd_Sp_bearersOf cA a_n a_s n_x n_y n_nodes n_aloneB s_drawn s_labels) U.heap ∧ va_K D cls9 (tys5 cA) U ∧ va_D (fun _ => True) (wd_Sp_bearersOf cA a_n a_s n_x n_y n_nodes n_aloneB s_drawn s_labels))) (va_Qi (fun (rr : Int32) (uu : Unit) => rr = out) (fun (uu : Unit) (t : State) => va_P D cls9 (wd_Sp_bearersOf cA a_n a_s n_x n_y n_nodes n_aloneB s_drawn s_labels) t.heap ∧ va_K D cls9 (tys5 cA) t ∧ va_D (va_A (wd_Sp_bearersOf cA a_n a_s n_x n_y n_nodes n_aloneB s_drawn s_labels) sz) (wd_Sp_bearersOf cA a_n a_s n_x n_y n_nodes n_aloneB s_drawn s_labels)) (va_A (wd_Sp_bearersOf cA a_n a_s n_x n_y n_nodes n_aloneB s_drawn s_labels) sz)) 0 0 (va_A (wd_Sp_bearersOf cA a_n a_s n_x n_y n_nodes n_aloneB s_drawn s_labels) sz) := by
  refine Met.ofW (cc := b_Sp_bearersOf) (maxL := 4) (ret := (Option.some Jvm.ClassFile.FieldType.int)) (by decide) rfl ?_
  intro p e s m args below meth c s₁ B hml hv
  obtain ⟨rfl, hsz, hP, hK, hD0⟩ := hv
  have hx := B.exec
  have hb := B.bytes
  have hr := B.returns
  have hts := atoms_spec (ws := w_Sp_bearersOf) B.pre
  have hal : ∀ w ∈ ALLW, w.before _ s = true := fun w hw => hts w (List.mem_cons_of_mem _ hw)
  have hown : s.vm.findClass R_Sp = some m.cls := findClass_of_methodNamed B.named
  have hlocks := B.notSynchronized
  subst hsz
  have hD := hD0.self (sz := s.heap.size)
  generalize hAe : va_A (wd_Sp_bearersOf cA a_n a_s n_x n_y n_nodes n_aloneB s_drawn s_labels) s.heap.size = A at hD ⊢
  have hA : ∀ q : Nat, s.heap.size ≤ q → A q := fun q h => by rw [← hAe]; exact Or.inr h
  have hS : va_S A s.heap s.heap [] := va_S.rf
  have hl := lv_entry ([.ref (a_s 0), .int v1]) (n := 4) (Nat.le_of_ble_eq_true rfl)
  rw [lg_entry_eq]
  generalize (lg_sl ([.ref (a_s 0), .int v1]) ++ List.replicate (4 - (lg_sl ([.ref (a_s 0), .int v1])).length) Slot.unset).toArray = ls at hl ⊢
  have hl : lv_has ls 4 [(0, .ref (a_s 0)), (1, .int v1)] := hl
  refine wg (fun G hG => ?_)
  refine cast (hG _ _ _ _ _ _ _).symm ?_
  obtain ⟨H, locs, hHl, hS⟩ : ∃ (H : Heap) (locs : List Loc), (H = s.heap ∧ locs = []) ∧ va_S A s.heap H locs := ⟨s.heap, [], ⟨rfl, rfl⟩, hS⟩
  have hP : va_P D cls9 (wd_Sp_bearersOf cA a_n a_s n_x n_y n_nodes n_aloneB s_drawn s_labels) H := by rw [hHl.1]; exact hP
  rw [← hHl.1, ← hHl.2]
  clear hHl
  refine lv_iconst (v := 0) hx hb d_Sp_bearersOf_0 (by decide) ?_
  refine lv_istore_n (lv' := [(2, .int (0 : Int32)), (0, .ref (a_s 0)), (1, .int v1)]) hx hb d_Sp_bearersOf_1 rfl hl (by decide) rfl (fun ls hl => ?_)
  refine lv_iconst (v := 0) hx hb d_Sp_bearersOf_2 (by decide) ?_
  refine lv_istore_n (lv' := [(3, .int (0 : Int32)), (2, .int (0 : Int32)), (0, .ref (a_s 0)), (1, .int v1)]) hx hb d_Sp_bearersOf_3 rfl hl (by decide) rfl (fun ls hl => ?_)
  refine cast (hG _ _ _ _ _ _ _) (lp_go2 h (fun zz : Int32 × Int32 => ∀ (H : Heap) (locs : List Loc) (ls : Array Slot), va_P D cls9 (wd_Sp_bearersOf cA a_n a_s n_x n_y n_nodes n_aloneB s_drawn s_labels) H → va_D A (wd_Sp_bearersOf cA a_n a_s n_x n_y n_nodes n_aloneB s_drawn s_labels) → va_S A s.heap H locs → lv_has ls 4 [(3, .int zz.2), (2, .int zz.1), (0, .ref (a_s 0)), (1, .int v1)] → G H locs 0 0 ls 37 []) ?_ (fun zz : Int32 × Int32 => ∀ (H : Heap) (locs : List Loc) (ls : Array Slot), va_P D cls9 (wd_Sp_bearersOf cA a_n a_s n_x n_y n_nodes n_aloneB s_drawn s_labels) H → va_D A (wd_Sp_bearersOf cA a_n a_s n_x n_y n_nodes n_aloneB s_drawn s_labels) → va_S A s.heap H locs → lv_has ls 4 [(3, .int zz.2), (2, .int zz.1), (0, .ref (a_s 0)), (1, .int v1)] → G H locs 0 0 ls 4 []) ?_ _ _ ls hP hD hS (lv_sub hl [0, 1, 2, 3] rfl))
  · intro zz h H locs ls hP hD hS hl
    obtain ⟨x2_4e, x3_4e⟩ := zz
    have hP : va_P D cls9 (wd_Sp_bearersOf cA a_n a_s n_x n_y n_nodes n_aloneB s_drawn s_labels) H := hP
    have hD : va_D A (wd_Sp_bearersOf cA a_n a_s n_x n_y n_nodes n_aloneB s_drawn s_labels) := hD
    have hl : lv_has ls 4 [(3, .int x3_4e), (2, .int x2_4e), (0, .ref (a_s 0)), (1, .int v1)] := hl
    refine cast (hG _ _ _ _ _ _ _).symm ?_
    refine lv_iload_n hx hb d_Sp_bearersOf_37 rfl (lv_at hl 1 rfl) ?_
    exact W.iret (v := x2_4e) hx hb hr (fun t ht hW => ⟨⟨x2_4e, (), rfl, Option.some.inj h, by rw [ht]; exact hP, va_K.moved hW.alike hK, hD⟩, hS.F ht⟩) hS.2.2 d_Sp_bearersOf_38
  · intro back exit zz hB_4 hE_4 h H locs ls hP hD hS hl
    obtain ⟨x2_4, x3_4⟩ := zz
    have hP : va_P D cls9 (wd_Sp_bearersOf cA a_n a_s n_x n_y n_nodes n_aloneB s_drawn s_labels) H := hP
    have hD : va_D A (wd_Sp_bearersOf cA a_n a_s n_x n_y n_nodes n_aloneB s_drawn s_labels) := hD
    have hl : lv_has ls 4 [(3, .int x3_4), (2, .int x2_4), (0, .ref (a_s 0)), (1, .int v1)] := hl
    refine cast (hG _ _ _ _ _ _ _).symm ?_
    refine lv_iload_n hx hb d_Sp_bearersOf_4 rfl (lv_at hl 0 rfl) ?_
    refine lv_aload_n hx hb d_Sp_bearersOf_5 rfl (lv_at hl 2 rfl) ?_
    refine va_get (ci := 4) (v := .ref (a_n 0)) (C := R_Sp) (T := F_Sp) (N := 4) hx hb hal in_Sp hown hK hP 1 rfl rfl 0 (by decide) (hal _ kw_183) (fun _ h9 => h9) rfl d_Sp_bearersOf_6 ?_
    refine va_get (ci := 0) (v := .int n_nodes) (C := R_Ga) (T := F_Ga) (N := 9) hx hb hal in_Ga hown hK hP 0 rfl rfl 2 (by decide) (hal _ kw_72) (fun _ h9 => h9) rfl d_Sp_bearersOf_9 ?_
    refine lv_icmp_ge (tgt := 37) hx hb d_Sp_bearersOf_12 (by decide) (fun c_1 => ?_) (fun c_1 => ?_)
    · have h := ifp (c_1) h
      exact cast (hG _ _ _ _ _ _ _) (hE_4 (x2_4, x3_4) h _ _ _ hP hD hS (lv_sub hl [0, 1, 2, 3] rfl))
    · have h := ifn (c_1) h
      refine lv_aload_n hx hb d_Sp_bearersOf_15 rfl (lv_at hl 2 rfl) ?_
      refine va_get (ci := 4) (v := .ref (a_s 1)) (C := R_Sp) (T := F_Sp) (N := 4) hx hb hal in_Sp hown hK hP 1 rfl rfl 1 (by decide) (hal _ kw_184) (fun _ h9 => h9) rfl d_Sp_bearersOf_16 ?_
      refine lv_iload_n hx hb d_Sp_bearersOf_19 rfl (lv_at hl 0 rfl) ?_
      obtain ⟨g_2, h⟩ := gd h
      refine va_iald hx hb hK hP 2 0 rfl rfl (inb_in g_2) d_Sp_bearersOf_20 ?_
      refine lv_iload_n hx hb d_Sp_bearersOf_21 rfl (lv_at hl 3 rfl) ?_
      refine lv_icmp_ne (tgt := 31) hx hb d_Sp_bearersOf_22 (by decide) (fun c_3 => ?_) (fun c_3 => ?_)
      · have h := ifn (c_3) h
        refine lv_iinc (v := (x3_4 + 1)) (lv' := [(3, .int (x3_4 + 1)), (2, .int x2_4), (0, .ref (a_s 0)), (1, .int v1)]) hx hb d_Sp_bearersOf_31 hl (k := 0) rfl rfl (by decide) rfl (fun ls hl => ?_)
        refine lv_goto (tgt := 4) hx hb d_Sp_bearersOf_34 (by decide) ?_
        exact cast (hG _ _ _ _ _ _ _) (hB_4 (x2_4, (x3_4 + 1)) h _ _ _ hP hD hS (lv_sub hl [0, 1, 2, 3] rfl))
      · have h := ifp (c_3) h
        refine lv_iload_n hx hb d_Sp_bearersOf_25 rfl (lv_at hl 1 rfl) ?_
        refine lv_iconst (v := 1) hx hb d_Sp_bearersOf_26 (by decide) ?_
        refine lv_iload_n hx hb d_Sp_bearersOf_27 rfl (lv_at hl 0 rfl) ?_
        refine lv_ishl hx hb d_Sp_bearersOf_28 ?_
        refine lv_ior hx hb d_Sp_bearersOf_29 ?_
        refine lv_istore_n (lv' := [(2, .int (x2_4 ||| ((1 : Int32) <<< (x3_4 &&& 31)))), (3, .int x3_4), (0, .ref (a_s 0)), (1, .int v1)]) hx hb d_Sp_bearersOf_30 rfl hl (by decide) rfl (fun ls hl => ?_)
        refine lv_iinc (v := (x3_4 + 1)) (lv' := [(3, .int (x3_4 + 1)), (2, .int (x2_4 ||| ((1 : Int32) <<< (x3_4 &&& 31)))), (0, .ref (a_s 0)), (1, .int v1)]) hx hb d_Sp_bearersOf_31 hl (k := 1) rfl rfl (by decide) rfl (fun ls hl => ?_)
        refine lv_goto (tgt := 4) hx hb d_Sp_bearersOf_34 (by decide) ?_
        exact cast (hG _ _ _ _ _ _ _) (hB_4 ((x2_4 ||| ((1 : Int32) <<< (x3_4 &&& 31))), (x3_4 + 1)) h _ _ _ hP hD hS (lv_sub hl [0, 1, 2, 3] rfl))
def wd_Sp_weightTo (cA : Nat → ClassId) (a_n a_s : Nat → Nat) (n_x : Int32) (n_y : Int32) (n_nodes : Int32) (n_aloneB : Int64) (n_link : Nat → Nat → Int32) (s_drawn : Int32) : va_W := [(a_n 0, .inr (0, [.int n_x, .int n_y, .int n_nodes, .long n_aloneB, .ref (a_n 1), .ref (a_n 11), .ref (a_n 21), .ref (a_n 31), .ref (a_n 32)])), (a_n 21, .inl (cA 3, 9, .inr (.inr (.inr (.inr (fun i => if i < 9 then some (a_n (i + 22)) else none)))))), (a_n (0 + 22), .inl (cA 0, 9, .inl (n_link 0))), (a_n (1 + 22), .inl (cA 0, 9, .inl (n_link 1))), (a_n (2 + 22), .inl (cA 0, 9, .inl (n_link 2))), (a_n (3 + 22), .inl (cA 0, 9, .inl (n_link 3))), (a_n (4 + 22), .inl (cA 0, 9, .inl (n_link 4))), (a_n (5 + 22), .inl (cA 0, 9, .inl (n_link 5))), (a_n (6 + 22), .inl (cA 0, 9, .inl (n_link 6))), (a_n (7 + 22), .inl (cA 0, 9, .inl (n_link 7))), (a_n (8 + 22), .inl (cA 0, 9, .inl (n_link 8))), (a_s 0, .inr (4, [.ref (a_n 0), .ref (a_s 1), .ref (a_s 2), .int s_drawn]))]
theorem row_Sp_weightTo_n_link {cA : Nat → ClassId} {a_n a_s : Nat → Nat} {n_x : Int32} {n_y : Int32} {n_nodes : Int32} {n_aloneB : Int64} {s_drawn : Int32} (n_link : Nat → Nat → Int32) (k : Nat) (hk : k < 9) : (wd_Sp_weightTo cA a_n a_s n_x n_y n_nodes n_aloneB n_link s_drawn)[2 + k]? = some (a_n (k + 22), .inl (cA 0, 9, .inl (n_link k))) := by
  rcases lt9 hk with rfl | rfl | rfl | rfl | rfl | rfl | rfl | rfl | rfl <;> rfl
theorem set_Sp_weightTo_n_link {cA : Nat → ClassId} {a_n a_s : Nat → Nat} {n_x : Int32} {n_y : Int32} {n_nodes : Int32} {n_aloneB : Int64} {s_drawn : Int32} {n_link : Nat → Nat → Int32} {f : Nat → Int32} (k : Nat) (hk : k < 9) : (wd_Sp_weightTo cA a_n a_s n_x n_y n_nodes n_aloneB n_link s_drawn).set (2 + k) (a_n (k + 22), .inl (cA 0, 9, .inl f)) = wd_Sp_weightTo cA a_n a_s n_x n_y n_nodes n_aloneB (va_up n_link k f) s_drawn := by
  rcases lt9 hk with rfl | rfl | rfl | rfl | rfl | rfl | rfl | rfl | rfl <;> rfl
noncomputable def s_Sp_weightTo_5 (x1 : Int32) (x2 : Int32) (n_link : Nat → Nat → Int32) (n_nodes : Int32) (zz : Int32 × Int32) (back exit : (Int32 × Int32) → Option Int32) : Option Int32 :=
  (if n_nodes ≤ zz.2 then (exit (zz.1, zz.2)) else (if ((x2 >>> (zz.2 &&& 31)) &&& (1 : Int32)) = (1 : Int32) then (if inb x1 9 then (if inb zz.2 9 then (back ((zz.1 + ((n_link x1.toNatClampNeg) zz.2.toNatClampNeg)), (zz.2 + 1))) else none) else none) else (back (zz.1, (zz.2 + 1)))))
noncomputable def m_Sp_weightTo (n_nodes : Int32) (n_link : Nat → Nat → Int32) (v1 : Int32) (v2 : Int32) : Option Int32 :=
  (loopC (s_Sp_weightTo_5 v1 v2 n_link n_nodes) (fun z5 : Int32 × Int32 => some z5.1) FU ((0 : Int32), (0 : Int32)))
set_option maxHeartbeats 4000000 in
set_option maxRecDepth 100000 in
theorem c_Sp_weightTo (l : Launch) (D : va_G) (cA : Nat → ClassId) (a_n a_s : Nat → Nat) (sz : Nat) (n_x : Int32) (n_y : Int32) (n_nodes : Int32) (n_aloneB : Int64) (n_link : Nat → Nat → Int32) (s_drawn : Int32) (v1 : Int32) (v2 : Int32) (out : Int32) (h : m_Sp_weightTo n_nodes n_link v1 v2 = some out) : Met l y_Sp_weightTo w_Sp_weightTo ({ frames := 0, cells := 0, slots := 0, locals := 0 }) (va_Pc [.ref (a_s 0), .int v1, .int v2] (fun U => U.heap.size = sz ∧ va_P D cls9 (wd_Sp_weightTo cA a_n a_s n_x n_y n_nodes n_aloneB n_link s_drawn) U.heap ∧ va_K D cls9 (tys5 cA) U ∧ va_D (fun _ => True) (wd_Sp_weightTo cA a_n a_s n_x n_y n_nodes n_aloneB n_link s_drawn))) (va_Qi (fun (rr : Int32) (uu : Unit) => rr = out) (fun (uu : Unit) (t : State) => va_P D cls9 (wd_Sp_weightTo cA a_n a_s n_x n_y n_nodes n_aloneB n_link s_drawn) t.heap ∧ va_K D cls9 (tys5 cA) t ∧ va_D (va_A (wd_Sp_weightTo cA a_n a_s n_x n_y n_nodes n_aloneB n_link s_drawn) sz) (wd_Sp_weightTo cA a_n a_s n_x n_y n_nodes n_aloneB n_link s_drawn)) (va_A (wd_Sp_weightTo cA a_n a_s n_x n_y n_nodes n_aloneB n_link s_drawn) sz)) 0 0 (va_A (wd_Sp_weightTo cA a_n a_s n_x n_y n_nodes n_aloneB n_link s_drawn) sz) := by
  refine Met.ofW (cc := b_Sp_weightTo) (maxL := 5) (ret := (Option.some Jvm.ClassFile.FieldType.int)) (by decide) rfl ?_
  intro p e s m args below meth c s₁ B hml hv
  obtain ⟨rfl, hsz, hP, hK, hD0⟩ := hv
  have hx := B.exec
  have hb := B.bytes
  have hr := B.returns
  have hts := atoms_spec (ws := w_Sp_weightTo) B.pre
  have hal : ∀ w ∈ ALLW, w.before _ s = true := fun w hw => hts w (List.mem_cons_of_mem _ hw)
  have hown : s.vm.findClass R_Sp = some m.cls := findClass_of_methodNamed B.named
  have hlocks := B.notSynchronized
  subst hsz
  have hD := hD0.self (sz := s.heap.size)
  generalize hAe : va_A (wd_Sp_weightTo cA a_n a_s n_x n_y n_nodes n_aloneB n_link s_drawn) s.heap.size = A at hD ⊢
  have hA : ∀ q : Nat, s.heap.size ≤ q → A q := fun q h => by rw [← hAe]; exact Or.inr h
  have hS : va_S A s.heap s.heap [] := va_S.rf
  have hl := lv_entry ([.ref (a_s 0), .int v1, .int v2]) (n := 5) (Nat.le_of_ble_eq_true rfl)
  rw [lg_entry_eq]
  generalize (lg_sl ([.ref (a_s 0), .int v1, .int v2]) ++ List.replicate (5 - (lg_sl ([.ref (a_s 0), .int v1, .int v2])).length) Slot.unset).toArray = ls at hl ⊢
  have hl : lv_has ls 5 [(0, .ref (a_s 0)), (1, .int v1), (2, .int v2)] := hl
  refine wg (fun G hG => ?_)
  refine cast (hG _ _ _ _ _ _ _).symm ?_
  obtain ⟨H, locs, hHl, hS⟩ : ∃ (H : Heap) (locs : List Loc), (H = s.heap ∧ locs = []) ∧ va_S A s.heap H locs := ⟨s.heap, [], ⟨rfl, rfl⟩, hS⟩
  have hP : va_P D cls9 (wd_Sp_weightTo cA a_n a_s n_x n_y n_nodes n_aloneB n_link s_drawn) H := by rw [hHl.1]; exact hP
  rw [← hHl.1, ← hHl.2]
  clear hHl
  refine lv_iconst (v := 0) hx hb d_Sp_weightTo_0 (by decide) ?_
  refine lv_istore_n (lv' := [(3, .int (0 : Int32)), (0, .ref (a_s 0)), (1, .int v1), (2, .int v2)]) hx hb d_Sp_weightTo_1 rfl hl (by decide) rfl (fun ls hl => ?_)
  refine lv_iconst (v := 0) hx hb d_Sp_weightTo_2 (by decide) ?_
  refine lv_istore (lv' := [(4, .int (0 : Int32)), (3, .int (0 : Int32)), (0, .ref (a_s 0)), (1, .int v1), (2, .int v2)]) hx hb d_Sp_weightTo_3 hl (by decide) rfl (fun ls hl => ?_)
  refine cast (hG _ _ _ _ _ _ _) (lp_go2 h (fun zz : Int32 × Int32 => ∀ (H : Heap) (locs : List Loc) (ls : Array Slot), va_P D cls9 (wd_Sp_weightTo cA a_n a_s n_x n_y n_nodes n_aloneB n_link s_drawn) H → va_D A (wd_Sp_weightTo cA a_n a_s n_x n_y n_nodes n_aloneB n_link s_drawn) → va_S A s.heap H locs → lv_has ls 5 [(4, .int zz.2), (3, .int zz.1), (0, .ref (a_s 0)), (1, .int v1), (2, .int v2)] → G H locs 0 0 ls 48 []) ?_ (fun zz : Int32 × Int32 => ∀ (H : Heap) (locs : List Loc) (ls : Array Slot), va_P D cls9 (wd_Sp_weightTo cA a_n a_s n_x n_y n_nodes n_aloneB n_link s_drawn) H → va_D A (wd_Sp_weightTo cA a_n a_s n_x n_y n_nodes n_aloneB n_link s_drawn) → va_S A s.heap H locs → lv_has ls 5 [(4, .int zz.2), (3, .int zz.1), (0, .ref (a_s 0)), (1, .int v1), (2, .int v2)] → G H locs 0 0 ls 5 []) ?_ _ _ ls hP hD hS (lv_sub hl [0, 1, 2, 3, 4] rfl))
  · intro zz h H locs ls hP hD hS hl
    obtain ⟨x3_5e, x4_5e⟩ := zz
    have hP : va_P D cls9 (wd_Sp_weightTo cA a_n a_s n_x n_y n_nodes n_aloneB n_link s_drawn) H := hP
    have hD : va_D A (wd_Sp_weightTo cA a_n a_s n_x n_y n_nodes n_aloneB n_link s_drawn) := hD
    have hl : lv_has ls 5 [(4, .int x4_5e), (3, .int x3_5e), (0, .ref (a_s 0)), (1, .int v1), (2, .int v2)] := hl
    refine cast (hG _ _ _ _ _ _ _).symm ?_
    refine lv_iload_n hx hb d_Sp_weightTo_48 rfl (lv_at hl 1 rfl) ?_
    exact W.iret (v := x3_5e) hx hb hr (fun t ht hW => ⟨⟨x3_5e, (), rfl, Option.some.inj h, by rw [ht]; exact hP, va_K.moved hW.alike hK, hD⟩, hS.F ht⟩) hS.2.2 d_Sp_weightTo_49
  · intro back exit zz hB_5 hE_5 h H locs ls hP hD hS hl
    obtain ⟨x3_5, x4_5⟩ := zz
    have hP : va_P D cls9 (wd_Sp_weightTo cA a_n a_s n_x n_y n_nodes n_aloneB n_link s_drawn) H := hP
    have hD : va_D A (wd_Sp_weightTo cA a_n a_s n_x n_y n_nodes n_aloneB n_link s_drawn) := hD
    have hl : lv_has ls 5 [(4, .int x4_5), (3, .int x3_5), (0, .ref (a_s 0)), (1, .int v1), (2, .int v2)] := hl
    refine cast (hG _ _ _ _ _ _ _).symm ?_
    refine lv_iload hx hb d_Sp_weightTo_5 (lv_at hl 0 rfl) ?_
    refine lv_aload_n hx hb d_Sp_weightTo_7 rfl (lv_at hl 2 rfl) ?_
    refine va_get (ci := 4) (v := .ref (a_n 0)) (C := R_Sp) (T := F_Sp) (N := 4) hx hb hal in_Sp hown hK hP 11 rfl rfl 0 (by decide) (hal _ kw_183) (fun _ h9 => h9) rfl d_Sp_weightTo_8 ?_
    refine va_get (ci := 0) (v := .int n_nodes) (C := R_Ga) (T := F_Ga) (N := 9) hx hb hal in_Ga hown hK hP 0 rfl rfl 2 (by decide) (hal _ kw_72) (fun _ h9 => h9) rfl d_Sp_weightTo_11 ?_
    refine lv_icmp_ge (tgt := 48) hx hb d_Sp_weightTo_14 (by decide) (fun c_1 => ?_) (fun c_1 => ?_)
    · have h := ifp (c_1) h
      exact cast (hG _ _ _ _ _ _ _) (hE_5 (x3_5, x4_5) h _ _ _ hP hD hS (lv_sub hl [0, 1, 2, 3, 4] rfl))
    · have h := ifn (c_1) h
      refine lv_iload_n hx hb d_Sp_weightTo_17 rfl (lv_at hl 4 rfl) ?_
      refine lv_iload hx hb d_Sp_weightTo_18 (lv_at hl 0 rfl) ?_
      refine lv_ishr hx hb d_Sp_weightTo_20 ?_
      refine lv_iconst (v := 1) hx hb d_Sp_weightTo_21 (by decide) ?_
      refine lv_iand hx hb d_Sp_weightTo_22 ?_
      refine lv_iconst (v := 1) hx hb d_Sp_weightTo_23 (by decide) ?_
      refine lv_icmp_ne (tgt := 42) hx hb d_Sp_weightTo_24 (by decide) (fun c_2 => ?_) (fun c_2 => ?_)
      · have h := ifn (c_2) h
        refine lv_iinc (v := (x4_5 + 1)) (lv' := [(4, .int (x4_5 + 1)), (3, .int x3_5), (0, .ref (a_s 0)), (1, .int v1), (2, .int v2)]) hx hb d_Sp_weightTo_42 hl (k := 0) rfl rfl (by decide) rfl (fun ls hl => ?_)
        refine lv_goto (tgt := 5) hx hb d_Sp_weightTo_45 (by decide) ?_
        exact cast (hG _ _ _ _ _ _ _) (hB_5 (x3_5, (x4_5 + 1)) h _ _ _ hP hD hS (lv_sub hl [0, 1, 2, 3, 4] rfl))
      · have h := ifp (c_2) h
        refine lv_iload_n hx hb d_Sp_weightTo_27 rfl (lv_at hl 1 rfl) ?_
        refine lv_aload_n hx hb d_Sp_weightTo_28 rfl (lv_at hl 2 rfl) ?_
        refine va_get (ci := 4) (v := .ref (a_n 0)) (C := R_Sp) (T := F_Sp) (N := 4) hx hb hal in_Sp hown hK hP 11 rfl rfl 0 (by decide) (hal _ kw_183) (fun _ h9 => h9) rfl d_Sp_weightTo_29 ?_
        refine va_get (ci := 0) (v := .ref (a_n 21)) (C := R_Ga) (T := F_Ga) (N := 9) hx hb hal in_Ga hown hK hP 0 rfl rfl 6 (by decide) (hal _ kw_81) (fun _ h9 => h9) rfl d_Sp_weightTo_32 ?_
        refine lv_iload_n hx hb d_Sp_weightTo_35 rfl (lv_at hl 3 rfl) ?_
        obtain ⟨g_3, h⟩ := gd h
        refine my_aald (ad := fun i => a_n (i + 22)) (t := .int) hx hb hK hP 1 3 rfl rfl (inb_in g_3) (inb_lt g_3) d_Sp_weightTo_36 ?_
        refine lv_iload hx hb d_Sp_weightTo_37 (lv_at hl 0 rfl) ?_
        obtain ⟨g_4, h⟩ := gd h
        refine va_iald hx hb hK hP (2 + v1.toNatClampNeg) 0 (row_Sp_weightTo_n_link _ _ (inb_lt g_3)) rfl (inb_in g_4) d_Sp_weightTo_39 ?_
        refine lv_iadd hx hb d_Sp_weightTo_40 ?_
        refine lv_istore_n (lv' := [(3, .int (x3_5 + ((n_link v1.toNatClampNeg) x4_5.toNatClampNeg))), (4, .int x4_5), (0, .ref (a_s 0)), (1, .int v1), (2, .int v2)]) hx hb d_Sp_weightTo_41 rfl hl (by decide) rfl (fun ls hl => ?_)
        refine lv_iinc (v := (x4_5 + 1)) (lv' := [(4, .int (x4_5 + 1)), (3, .int (x3_5 + ((n_link v1.toNatClampNeg) x4_5.toNatClampNeg))), (0, .ref (a_s 0)), (1, .int v1), (2, .int v2)]) hx hb d_Sp_weightTo_42 hl (k := 1) rfl rfl (by decide) rfl (fun ls hl => ?_)
        refine lv_goto (tgt := 5) hx hb d_Sp_weightTo_45 (by decide) ?_
        exact cast (hG _ _ _ _ _ _ _) (hB_5 ((x3_5 + ((n_link v1.toNatClampNeg) x4_5.toNatClampNeg)), (x4_5 + 1)) h _ _ _ hP hD hS (lv_sub hl [0, 1, 2, 3, 4] rfl))
def wd_Sp_strongestLabel (cA : Nat → ClassId) (a_n a_s : Nat → Nat) (n_x : Int32) (n_y : Int32) (n_nodes : Int32) (n_aloneB : Int64) (n_link : Nat → Nat → Int32) (n_near : Nat → Int32) (s_drawn : Int32) (s_labels : Nat → Int32) : va_W := [(a_n 0, .inr (0, [.int n_x, .int n_y, .int n_nodes, .long n_aloneB, .ref (a_n 1), .ref (a_n 11), .ref (a_n 21), .ref (a_n 31), .ref (a_n 32)])), (a_n 21, .inl (cA 3, 9, .inr (.inr (.inr (.inr (fun i => if i < 9 then some (a_n (i + 22)) else none)))))), (a_n (0 + 22), .inl (cA 0, 9, .inl (n_link 0))), (a_n (1 + 22), .inl (cA 0, 9, .inl (n_link 1))), (a_n (2 + 22), .inl (cA 0, 9, .inl (n_link 2))), (a_n (3 + 22), .inl (cA 0, 9, .inl (n_link 3))), (a_n (4 + 22), .inl (cA 0, 9, .inl (n_link 4))), (a_n (5 + 22), .inl (cA 0, 9, .inl (n_link 5))), (a_n (6 + 22), .inl (cA 0, 9, .inl (n_link 6))), (a_n (7 + 22), .inl (cA 0, 9, .inl (n_link 7))), (a_n (8 + 22), .inl (cA 0, 9, .inl (n_link 8))), (a_n 31, .inl (cA 0, 9, .inl n_near)), (a_s 0, .inr (4, [.ref (a_n 0), .ref (a_s 1), .ref (a_s 2), .int s_drawn])), (a_s 1, .inl (cA 0, 9, .inl s_labels))]
theorem row_Sp_strongestLabel_n_link {cA : Nat → ClassId} {a_n a_s : Nat → Nat} {n_x : Int32} {n_y : Int32} {n_nodes : Int32} {n_aloneB : Int64} {n_near : Nat → Int32} {s_drawn : Int32} {s_labels : Nat → Int32} (n_link : Nat → Nat → Int32) (k : Nat) (hk : k < 9) : (wd_Sp_strongestLabel cA a_n a_s n_x n_y n_nodes n_aloneB n_link n_near s_drawn s_labels)[2 + k]? = some (a_n (k + 22), .inl (cA 0, 9, .inl (n_link k))) := by
  rcases lt9 hk with rfl | rfl | rfl | rfl | rfl | rfl | rfl | rfl | rfl <;> rfl
theorem set_Sp_strongestLabel_n_link {cA : Nat → ClassId} {a_n a_s : Nat → Nat} {n_x : Int32} {n_y : Int32} {n_nodes : Int32} {n_aloneB : Int64} {n_near : Nat → Int32} {s_drawn : Int32} {s_labels : Nat → Int32} {n_link : Nat → Nat → Int32} {f : Nat → Int32} (k : Nat) (hk : k < 9) : (wd_Sp_strongestLabel cA a_n a_s n_x n_y n_nodes n_aloneB n_link n_near s_drawn s_labels).set (2 + k) (a_n (k + 22), .inl (cA 0, 9, .inl f)) = wd_Sp_strongestLabel cA a_n a_s n_x n_y n_nodes n_aloneB (va_up n_link k f) n_near s_drawn s_labels := by
  rcases lt9 hk with rfl | rfl | rfl | rfl | rfl | rfl | rfl | rfl | rfl <;> rfl
noncomputable def s_Sp_strongestLabel_15 (x1 : Int32) (x2 : Int32) (n_link : Nat → Nat → Int32) (n_near : Nat → Int32) (n_nodes : Int32) (s_labels : Nat → Int32) (zz : Int32 × Int32 × Int32) (back exit : (Int32 × Int32 × Int32) → Option Int32) : Option Int32 :=
  (if n_nodes ≤ zz.2.2 then (exit (zz.1, zz.2.1, zz.2.2)) else (if inb x1 9 then ((m_Sp_bearersOf n_nodes s_labels zz.2.2).bind (fun r39 : Int32 => (if ((n_near x1.toNatClampNeg) &&& r39) = 0 then (back (zz.1, zz.2.1, (zz.2.2 + 1))) else ((m_Sp_weightTo n_nodes n_link x1 ((n_near x1.toNatClampNeg) &&& r39)).bind (fun r54 : Int32 => (jn (fun z83 : Unit => (back (zz.2.2, r54, (zz.2.2 + 1)))) (fun j83 => (if zz.1 < 0 then (j83 ()) else (if zz.2.1 < r54 then (j83 ()) else (if r54 = zz.2.1 then (if zz.2.2 = x2 then (j83 ()) else (back (zz.1, zz.2.1, (zz.2.2 + 1)))) else (back (zz.1, zz.2.1, (zz.2.2 + 1))))))))))))) else none))
noncomputable def m_Sp_strongestLabel (n_nodes : Int32) (n_link : Nat → Nat → Int32) (n_near : Nat → Int32) (s_labels : Nat → Int32) (v1 : Int32) : Option Int32 :=
  (if inb v1 9 then (loopC (s_Sp_strongestLabel_15 v1 (s_labels v1.toNatClampNeg) n_link n_near n_nodes s_labels) (fun z15 : Int32 × Int32 × Int32 => (if 0 ≤ z15.1 then some z15.1 else some (s_labels v1.toNatClampNeg))) FU ((-1 : Int32), (0 : Int32), (0 : Int32))) else none)
set_option maxHeartbeats 4000000 in
set_option maxRecDepth 100000 in
theorem c_Sp_strongestLabel (l : Launch) (D : va_G) (cA : Nat → ClassId) (a_n a_s : Nat → Nat) (sz : Nat) (n_x : Int32) (n_y : Int32) (n_nodes : Int32) (n_aloneB : Int64) (n_link : Nat → Nat → Int32) (n_near : Nat → Int32) (s_drawn : Int32) (s_labels : Nat → Int32) (v1 : Int32) (out : Int32) (h : m_Sp_strongestLabel n_nodes n_link n_near s_labels v1 = some out) : Met l y_Sp_strongestLabel w_Sp_strongestLabel ({ frames := 1, cells := 0, slots := 0, locals := 24 }) (va_Pc [.ref (a_s 0), .int v1] (fun U => U.heap.size = sz ∧ va_P D cls9 (wd_Sp_strongestLabel cA a_n a_s n_x n_y n_nodes n_aloneB n_link n_near s_drawn s_labels) U.heap ∧ va_K D cls9 (tys5 cA) U ∧ va_D (fun _ => True) (wd_Sp_strongestLabel cA a_n a_s n_x n_y n_nodes n_aloneB n_link n_near s_drawn s_labels))) (va_Qi (fun (rr : Int32) (uu : Unit) => rr = out) (fun (uu : Unit) (t : State) => va_P D cls9 (wd_Sp_strongestLabel cA a_n a_s n_x n_y n_nodes n_aloneB n_link n_near s_drawn s_labels) t.heap ∧ va_K D cls9 (tys5 cA) t ∧ va_D (va_A (wd_Sp_strongestLabel cA a_n a_s n_x n_y n_nodes n_aloneB n_link n_near s_drawn s_labels) sz) (wd_Sp_strongestLabel cA a_n a_s n_x n_y n_nodes n_aloneB n_link n_near s_drawn s_labels)) (va_A (wd_Sp_strongestLabel cA a_n a_s n_x n_y n_nodes n_aloneB n_link n_near s_drawn s_labels) sz)) 0 0 (va_A (wd_Sp_strongestLabel cA a_n a_s n_x n_y n_nodes n_aloneB n_link n_near s_drawn s_labels) sz) := by
  refine Met.ofW (cc := b_Sp_strongestLabel) (maxL := 8) (ret := (Option.some Jvm.ClassFile.FieldType.int)) (by decide) rfl ?_
  intro p e s m args below meth c s₁ B hml hv
  obtain ⟨rfl, hsz, hP, hK, hD0⟩ := hv
  have hx := B.exec
  have hb := B.bytes
  have hr := B.returns
  have hts := atoms_spec (ws := w_Sp_strongestLabel) B.pre
  have hal : ∀ w ∈ ALLW, w.before _ s = true := fun w hw => hts w (List.mem_cons_of_mem _ hw)
  have hown : s.vm.findClass R_Sp = some m.cls := findClass_of_methodNamed B.named
  have hlocks := B.notSynchronized
  subst hsz
  have hD := hD0.self (sz := s.heap.size)
  generalize hAe : va_A (wd_Sp_strongestLabel cA a_n a_s n_x n_y n_nodes n_aloneB n_link n_near s_drawn s_labels) s.heap.size = A at hD ⊢
  have hA : ∀ q : Nat, s.heap.size ≤ q → A q := fun q h => by rw [← hAe]; exact Or.inr h
  have hS : va_S A s.heap s.heap [] := va_S.rf
  have hl := lv_entry ([.ref (a_s 0), .int v1]) (n := 8) (Nat.le_of_ble_eq_true rfl)
  rw [lg_entry_eq]
  generalize (lg_sl ([.ref (a_s 0), .int v1]) ++ List.replicate (8 - (lg_sl ([.ref (a_s 0), .int v1])).length) Slot.unset).toArray = ls at hl ⊢
  have hl : lv_has ls 8 [(0, .ref (a_s 0)), (1, .int v1)] := hl
  refine wg (fun G hG => ?_)
  refine cast (hG _ _ _ _ _ _ _).symm ?_
  obtain ⟨H, locs, hHl, hS⟩ : ∃ (H : Heap) (locs : List Loc), (H = s.heap ∧ locs = []) ∧ va_S A s.heap H locs := ⟨s.heap, [], ⟨rfl, rfl⟩, hS⟩
  have hP : va_P D cls9 (wd_Sp_strongestLabel cA a_n a_s n_x n_y n_nodes n_aloneB n_link n_near s_drawn s_labels) H := by rw [hHl.1]; exact hP
  rw [← hHl.1, ← hHl.2]
  clear hHl
  refine lv_aload_n hx hb d_Sp_strongestLabel_0 rfl (lv_at hl 0 rfl) ?_
  refine va_get (ci := 4) (v := .ref (a_s 1)) (C := R_Sp) (T := F_Sp) (N := 4) hx hb hal in_Sp hown hK hP 12 rfl rfl 1 (by decide) (hal _ kw_184) (fun _ h9 => h9) rfl d_Sp_strongestLabel_1 ?_
  refine lv_iload_n hx hb d_Sp_strongestLabel_4 rfl (lv_at hl 1 rfl) ?_
  obtain ⟨g_1, h⟩ := gd h
  refine va_iald hx hb hK hP 13 0 rfl rfl (inb_in g_1) d_Sp_strongestLabel_5 ?_
  refine lv_istore_n (lv' := [(2, .int (s_labels v1.toNatClampNeg)), (0, .ref (a_s 0)), (1, .int v1)]) hx hb d_Sp_strongestLabel_6 rfl hl (by decide) rfl (fun ls hl => ?_)
  refine lv_iconst (v := (-1)) hx hb d_Sp_strongestLabel_7 (by decide) ?_
  refine lv_istore_n (lv' := [(3, .int (-1 : Int32)), (2, .int (s_labels v1.toNatClampNeg)), (0, .ref (a_s 0)), (1, .int v1)]) hx hb d_Sp_strongestLabel_8 rfl hl (by decide) rfl (fun ls hl => ?_)
  refine lv_iconst (v := 0) hx hb d_Sp_strongestLabel_9 (by decide) ?_
  refine lv_istore (lv' := [(4, .int (0 : Int32)), (3, .int (-1 : Int32)), (2, .int (s_labels v1.toNatClampNeg)), (0, .ref (a_s 0)), (1, .int v1)]) hx hb d_Sp_strongestLabel_10 hl (by decide) rfl (fun ls hl => ?_)
  refine lv_iconst (v := 0) hx hb d_Sp_strongestLabel_12 (by decide) ?_
  refine lv_istore (lv' := [(5, .int (0 : Int32)), (4, .int (0 : Int32)), (3, .int (-1 : Int32)), (2, .int (s_labels v1.toNatClampNeg)), (0, .ref (a_s 0)), (1, .int v1)]) hx hb d_Sp_strongestLabel_13 hl (by decide) rfl (fun ls hl => ?_)
  refine cast (hG _ _ _ _ _ _ _) (lp_go2 h (fun zz : Int32 × Int32 × Int32 => ∀ (H : Heap) (locs : List Loc) (ls : Array Slot), va_P D cls9 (wd_Sp_strongestLabel cA a_n a_s n_x n_y n_nodes n_aloneB n_link n_near s_drawn s_labels) H → va_D A (wd_Sp_strongestLabel cA a_n a_s n_x n_y n_nodes n_aloneB n_link n_near s_drawn s_labels) → va_S A s.heap H locs → lv_has ls 8 [(5, .int zz.2.2), (4, .int zz.2.1), (3, .int zz.1), (2, .int (s_labels v1.toNatClampNeg)), (0, .ref (a_s 0)), (1, .int v1)] → G H locs 0 0 ls 96 []) ?_ (fun zz : Int32 × Int32 × Int32 => ∀ (H : Heap) (locs : List Loc) (ls : Array Slot), va_P D cls9 (wd_Sp_strongestLabel cA a_n a_s n_x n_y n_nodes n_aloneB n_link n_near s_drawn s_labels) H → va_D A (wd_Sp_strongestLabel cA a_n a_s n_x n_y n_nodes n_aloneB n_link n_near s_drawn s_labels) → va_S A s.heap H locs → lv_has ls 8 [(5, .int zz.2.2), (4, .int zz.2.1), (3, .int zz.1), (2, .int (s_labels v1.toNatClampNeg)), (0, .ref (a_s 0)), (1, .int v1)] → G H locs 0 0 ls 15 []) ?_ _ _ ls hP hD hS (lv_sub hl [0, 1, 2, 3, 4, 5] rfl))
  · intro zz h H locs ls hP hD hS hl
    obtain ⟨x3_15e, x4_15e, x5_15e⟩ := zz
    have hP : va_P D cls9 (wd_Sp_strongestLabel cA a_n a_s n_x n_y n_nodes n_aloneB n_link n_near s_drawn s_labels) H := hP
    have hD : va_D A (wd_Sp_strongestLabel cA a_n a_s n_x n_y n_nodes n_aloneB n_link n_near s_drawn s_labels) := hD
    have hl : lv_has ls 8 [(5, .int x5_15e), (4, .int x4_15e), (3, .int x3_15e), (2, .int (s_labels v1.toNatClampNeg)), (0, .ref (a_s 0)), (1, .int v1)] := hl
    refine cast (hG _ _ _ _ _ _ _).symm ?_
    refine lv_iload_n hx hb d_Sp_strongestLabel_96 rfl (lv_at hl 2 rfl) ?_
    refine lv_if_ge (tgt := 104) hx hb d_Sp_strongestLabel_97 (by decide) (fun c_2 => ?_) (fun c_2 => ?_)
    · have h := ifp (c_2) h
      refine lv_iload_n hx hb d_Sp_strongestLabel_104 rfl (lv_at hl 2 rfl) ?_
      exact W.iret (v := x3_15e) hx hb hr (fun t ht hW => ⟨⟨x3_15e, (), rfl, Option.some.inj h, by rw [ht]; exact hP, va_K.moved hW.alike hK, hD⟩, hS.F ht⟩) hS.2.2 d_Sp_strongestLabel_105
    · have h := ifn (c_2) h
      refine lv_iload_n hx hb d_Sp_strongestLabel_100 rfl (lv_at hl 3 rfl) ?_
      refine lv_goto (tgt := 105) hx hb d_Sp_strongestLabel_101 (by decide) ?_
      exact W.iret (v := (s_labels v1.toNatClampNeg)) hx hb hr (fun t ht hW => ⟨⟨(s_labels v1.toNatClampNeg), (), rfl, Option.some.inj h, by rw [ht]; exact hP, va_K.moved hW.alike hK, hD⟩, hS.F ht⟩) hS.2.2 d_Sp_strongestLabel_105
  · intro back exit zz hB_15 hE_15 h H locs ls hP hD hS hl
    obtain ⟨x3_15, x4_15, x5_15⟩ := zz
    have hP : va_P D cls9 (wd_Sp_strongestLabel cA a_n a_s n_x n_y n_nodes n_aloneB n_link n_near s_drawn s_labels) H := hP
    have hD : va_D A (wd_Sp_strongestLabel cA a_n a_s n_x n_y n_nodes n_aloneB n_link n_near s_drawn s_labels) := hD
    have hl : lv_has ls 8 [(5, .int x5_15), (4, .int x4_15), (3, .int x3_15), (2, .int (s_labels v1.toNatClampNeg)), (0, .ref (a_s 0)), (1, .int v1)] := hl
    refine cast (hG _ _ _ _ _ _ _).symm ?_
    refine lv_iload hx hb d_Sp_strongestLabel_15 (lv_at hl 0 rfl) ?_
    refine lv_aload_n hx hb d_Sp_strongestLabel_17 rfl (lv_at hl 4 rfl) ?_
    refine va_get (ci := 4) (v := .ref (a_n 0)) (C := R_Sp) (T := F_Sp) (N := 4) hx hb hal in_Sp hown hK hP 12 rfl rfl 0 (by decide) (hal _ kw_183) (fun _ h9 => h9) rfl d_Sp_strongestLabel_18 ?_
    refine va_get (ci := 0) (v := .int n_nodes) (C := R_Ga) (T := F_Ga) (N := 9) hx hb hal in_Ga hown hK hP 0 rfl rfl 2 (by decide) (hal _ kw_72) (fun _ h9 => h9) rfl d_Sp_strongestLabel_21 ?_
    refine lv_icmp_ge (tgt := 96) hx hb d_Sp_strongestLabel_24 (by decide) (fun c_3 => ?_) (fun c_3 => ?_)
    · have h := ifp (c_3) h
      exact cast (hG _ _ _ _ _ _ _) (hE_15 (x3_15, x4_15, x5_15) h _ _ _ hP hD hS (lv_sub hl [0, 1, 2, 3, 4, 5] rfl))
    · have h := ifn (c_3) h
      refine lv_aload_n hx hb d_Sp_strongestLabel_27 rfl (lv_at hl 4 rfl) ?_
      refine va_get (ci := 4) (v := .ref (a_n 0)) (C := R_Sp) (T := F_Sp) (N := 4) hx hb hal in_Sp hown hK hP 12 rfl rfl 0 (by decide) (hal _ kw_183) (fun _ h9 => h9) rfl d_Sp_strongestLabel_28 ?_
      refine va_get (ci := 0) (v := .ref (a_n 31)) (C := R_Ga) (T := F_Ga) (N := 9) hx hb hal in_Ga hown hK hP 0 rfl rfl 7 (by decide) (hal _ kw_83) (fun _ h9 => h9) rfl d_Sp_strongestLabel_31 ?_
      refine lv_iload_n hx hb d_Sp_strongestLabel_34 rfl (lv_at hl 5 rfl) ?_
      obtain ⟨g_4, h⟩ := gd h
      refine va_iald hx hb hK hP 11 0 rfl rfl (inb_in g_4) d_Sp_strongestLabel_35 ?_
      refine lv_aload_n hx hb d_Sp_strongestLabel_36 rfl (lv_at hl 4 rfl) ?_
      refine lv_iload hx hb d_Sp_strongestLabel_37 (lv_at hl 0 rfl) ?_
      obtain ⟨o_8, hc_7, h⟩ := bd h
      have hPc := hP.sub (ws' := (wd_Sp_bearersOf cA a_n a_s n_x n_y n_nodes n_aloneB s_drawn s_labels)) [0, 12, 13] rfl
      have hDc := hD.sub (ws' := (wd_Sp_bearersOf cA a_n a_s n_x n_y n_nodes n_aloneB s_drawn s_labels)) [0, 12, 13] (by decide) rfl
      have hFc := va_free (wc := (wd_Sp_bearersOf cA a_n a_s n_x n_y n_nodes n_aloneB s_drawn s_labels)) hD hS hA [0, 12, 13] rfl
      refine va_calli (va_runV (C := R_Sp) (As := [.int x5_15]) (rest := [.int (n_near v1.toNatClampNeg)]) ⟨hx, hb, hml, hown, hal⟩ (c_Sp_bearersOf l D cA a_n a_s H.size n_x n_y n_nodes n_aloneB s_drawn s_labels x5_15 o_8 hc_7) (cwV 1 hal (goodV kw_545 kw_547 kw_p17 kw_7 kw_548) rfl rfl rfl (by decide +kernel) ⟨Nat.le_of_ble_eq_true rfl, Nat.le_of_ble_eq_true rfl⟩) ⟨fun a U g mk q => by obtain ⟨q0, q1, qP, qK, qD⟩ := q; exact ⟨q0, q1, qP, va_K.moved (u := U) (U := U.calling g mk a) (Vm.Alike.refl U.vm) qK, qD⟩, va_recv hK hP (ci := 4) (q0 := 12) rfl rfl, fun U hU hW => ⟨rfl, by rw [hU], by rw [hU]; exact hPc, va_K.moved hW.alike hK, hDc.weaken (fun _ _ _ _ => trivial)⟩⟩ rfl rfl hl.1 rfl (lv_room (Nat.le_of_ble_eq_true rfl)) d_Sp_strongestLabel_39 ⟨Nat.le_of_ble_eq_true rfl, Nat.le_of_ble_eq_true rfl⟩) hS (fun q _ h => hFc q h) hFc (fun r_6 u t H1 locs ht hvm hw hB hz1 hk1 hS => ?_)
      subst hw
      obtain ⟨hP1, hK1, hD1⟩ := hB
      rw [ht] at hP1
      have hP1 : va_P D cls9 (wd_Sp_bearersOf cA a_n a_s n_x n_y n_nodes n_aloneB s_drawn s_labels) H1 := hP1
      obtain ⟨hP, hD⟩ := va_join (wr := ([1, 2, 3, 4, 5, 6, 7, 8, 9, 10, 11] : List Nat).filterMap (fun i => (wd_Sp_strongestLabel cA a_n a_s n_x n_y n_nodes n_aloneB n_link n_near s_drawn s_labels)[i]?)) (w1 := (wd_Sp_bearersOf cA a_n a_s n_x n_y n_nodes n_aloneB s_drawn s_labels)) hP hD [0, 12, 13] [1, 2, 3, 4, 5, 6, 7, 8, 9, 10, 11] rfl rfl (by decide) (by decide) hk1 hFc hP1 hD1
      generalize H1 = H at hP hS ⊢
      have hP : va_P D cls9 (wd_Sp_strongestLabel cA a_n a_s n_x n_y n_nodes n_aloneB n_link n_near s_drawn s_labels) H := hP.sub [11, 0, 1, 2, 3, 4, 5, 6, 7, 8, 9, 10, 12, 13] rfl
      have hD : va_D A (wd_Sp_strongestLabel cA a_n a_s n_x n_y n_nodes n_aloneB n_link n_near s_drawn s_labels) := hD.sub [11, 0, 1, 2, 3, 4, 5, 6, 7, 8, 9, 10, 12, 13] (by decide) rfl
      refine lv_iand hx hb d_Sp_strongestLabel_42 ?_
      refine lv_istore (lv' := [(6, .int ((n_near v1.toNatClampNeg) &&& r_6)), (5, .int x5_15), (4, .int x4_15), (3, .int x3_15), (2, .int (s_labels v1.toNatClampNeg)), (0, .ref (a_s 0)), (1, .int v1)]) hx hb d_Sp_strongestLabel_43 hl (by decide) rfl (fun ls hl => ?_)
      refine lv_iload hx hb d_Sp_strongestLabel_45 (lv_at hl 0 rfl) ?_
      refine lv_if_eq (tgt := 90) hx hb d_Sp_strongestLabel_47 (by decide) (fun c_9 => ?_) (fun c_9 => ?_)
      · have h := ifp (c_9) h
        refine lv_iinc (v := (x5_15 + 1)) (lv' := [(5, .int (x5_15 + 1)), (6, .int ((n_near v1.toNatClampNeg) &&& r_6)), (4, .int x4_15), (3, .int x3_15), (2, .int (s_labels v1.toNatClampNeg)), (0, .ref (a_s 0)), (1, .int v1)]) hx hb d_Sp_strongestLabel_90 hl (k := 1) rfl rfl (by decide) rfl (fun ls hl => ?_)
        refine lv_goto (tgt := 15) hx hb d_Sp_strongestLabel_93 (by decide) ?_
        exact cast (hG _ _ _ _ _ _ _) (hB_15 (x3_15, x4_15, (x5_15 + 1)) h _ _ _ hP hD hS (lv_sub hl [0, 2, 3, 4, 5, 6] rfl))
      · have h := ifn (c_9) h
        refine lv_aload_n hx hb d_Sp_strongestLabel_50 rfl (lv_at hl 5 rfl) ?_
        refine lv_iload_n hx hb d_Sp_strongestLabel_51 rfl (lv_at hl 6 rfl) ?_
        refine lv_iload hx hb d_Sp_strongestLabel_52 (lv_at hl 0 rfl) ?_
        obtain ⟨o_13, hc_12, h⟩ := bd h
        have hPc := hP.sub (ws' := (wd_Sp_weightTo cA a_n a_s n_x n_y n_nodes n_aloneB n_link s_drawn)) [0, 1, 2, 3, 4, 5, 6, 7, 8, 9, 10, 12] rfl
        have hDc := hD.sub (ws' := (wd_Sp_weightTo cA a_n a_s n_x n_y n_nodes n_aloneB n_link s_drawn)) [0, 1, 2, 3, 4, 5, 6, 7, 8, 9, 10, 12] (by decide) rfl
        have hFc := va_free (wc := (wd_Sp_weightTo cA a_n a_s n_x n_y n_nodes n_aloneB n_link s_drawn)) hD hS hA [0, 1, 2, 3, 4, 5, 6, 7, 8, 9, 10, 12] rfl
        refine va_calli (va_runV (C := R_Sp) (As := [.int v1, .int ((n_near v1.toNatClampNeg) &&& r_6)]) (rest := []) ⟨hx, hb, hml, hown, hal⟩ (c_Sp_weightTo l D cA a_n a_s H.size n_x n_y n_nodes n_aloneB n_link s_drawn v1 ((n_near v1.toNatClampNeg) &&& r_6) o_13 hc_12) (cwV 2 hal (goodV kw_549 kw_551 kw_p18 kw_7 kw_552) rfl rfl rfl (by decide +kernel) ⟨Nat.le_of_ble_eq_true rfl, Nat.le_of_ble_eq_true rfl⟩) ⟨fun a U g mk q => by obtain ⟨q0, q1, qP, qK, qD⟩ := q; exact ⟨q0, q1, qP, va_K.moved (u := U) (U := U.calling g mk a) (Vm.Alike.refl U.vm) qK, qD⟩, va_recv hK hP (ci := 4) (q0 := 12) rfl rfl, fun U hU hW => ⟨rfl, by rw [hU], by rw [hU]; exact hPc, va_K.moved hW.alike hK, hDc.weaken (fun _ _ _ _ => trivial)⟩⟩ rfl rfl hl.1 rfl (lv_room (Nat.le_of_ble_eq_true rfl)) d_Sp_strongestLabel_54 ⟨Nat.le_of_ble_eq_true rfl, Nat.le_of_ble_eq_true rfl⟩) hS (fun q _ h => hFc q h) hFc (fun r_11 u t H1 locs ht hvm hw hB hz1 hk1 hS => ?_)
        subst hw
        obtain ⟨hP1, hK1, hD1⟩ := hB
        rw [ht] at hP1
        have hP1 : va_P D cls9 (wd_Sp_weightTo cA a_n a_s n_x n_y n_nodes n_aloneB n_link s_drawn) H1 := hP1
        obtain ⟨hP, hD⟩ := va_join (wr := ([11, 13] : List Nat).filterMap (fun i => (wd_Sp_strongestLabel cA a_n a_s n_x n_y n_nodes n_aloneB n_link n_near s_drawn s_labels)[i]?)) (w1 := (wd_Sp_weightTo cA a_n a_s n_x n_y n_nodes n_aloneB n_link s_drawn)) hP hD [0, 1, 2, 3, 4, 5, 6, 7, 8, 9, 10, 12] [11, 13] rfl rfl (by decide) (by decide) hk1 hFc hP1 hD1
        generalize H1 = H at hP hS ⊢
        have hP : va_P D cls9 (wd_Sp_strongestLabel cA a_n a_s n_x n_y n_nodes n_aloneB n_link n_near s_drawn s_labels) H := hP.sub [2, 3, 4, 5, 6, 7, 8, 9, 10, 11, 12, 0, 13, 1] rfl
        have hD : va_D A (wd_Sp_strongestLabel cA a_n a_s n_x n_y n_nodes n_aloneB n_link n_near s_drawn s_labels) := hD.sub [2, 3, 4, 5, 6, 7, 8, 9, 10, 11, 12, 0, 13, 1] (by decide) rfl
        refine lv_istore (lv' := [(7, .int r_11), (6, .int ((n_near v1.toNatClampNeg) &&& r_6)), (5, .int x5_15), (4, .int x4_15), (3, .int x3_15), (2, .int (s_labels v1.toNatClampNeg)), (0, .ref (a_s 0)), (1, .int v1)]) hx hb d_Sp_strongestLabel_57 hl (by decide) rfl (fun ls hl => ?_)
        refine lv_iload_n hx hb d_Sp_strongestLabel_59 rfl (lv_at hl 4 rfl) ?_
        refine cast (hG _ _ _ _ _ _ _) (jn_go h (fun zz : Unit => ∀ (H : Heap) (locs : List Loc) (ls : Array Slot), va_P D cls9 (wd_Sp_strongestLabel cA a_n a_s n_x n_y n_nodes n_aloneB n_link n_near s_drawn s_labels) H → va_D A (wd_Sp_strongestLabel cA a_n a_s n_x n_y n_nodes n_aloneB n_link n_near s_drawn s_labels) → va_S A s.heap H locs → lv_has ls 8 [(7, .int r_11), (6, .int ((n_near v1.toNatClampNeg) &&& r_6)), (5, .int x5_15), (4, .int x4_15), (3, .int x3_15), (2, .int (s_labels v1.toNatClampNeg)), (0, .ref (a_s 0)), (1, .int v1)] → G H locs 0 0 ls 83 []) ?_ ?_)
        · intro zz h H locs ls hP hD hS hl
          have hP : va_P D cls9 (wd_Sp_strongestLabel cA a_n a_s n_x n_y n_nodes n_aloneB n_link n_near s_drawn s_labels) H := hP
          have hD : va_D A (wd_Sp_strongestLabel cA a_n a_s n_x n_y n_nodes n_aloneB n_link n_near s_drawn s_labels) := hD
          have hl : lv_has ls 8 [(7, .int r_11), (6, .int ((n_near v1.toNatClampNeg) &&& r_6)), (5, .int x5_15), (4, .int x4_15), (3, .int x3_15), (2, .int (s_labels v1.toNatClampNeg)), (0, .ref (a_s 0)), (1, .int v1)] := hl
          refine cast (hG _ _ _ _ _ _ _).symm ?_
          refine lv_iload hx hb d_Sp_strongestLabel_83 (lv_at hl 2 rfl) ?_
          refine lv_istore_n (lv' := [(3, .int x5_15), (7, .int r_11), (6, .int ((n_near v1.toNatClampNeg) &&& r_6)), (5, .int x5_15), (4, .int x4_15), (2, .int (s_labels v1.toNatClampNeg)), (0, .ref (a_s 0)), (1, .int v1)]) hx hb d_Sp_strongestLabel_85 rfl hl (by decide) rfl (fun ls hl => ?_)
          refine lv_iload hx hb d_Sp_strongestLabel_86 (lv_at hl 1 rfl) ?_
          refine lv_istore (lv' := [(4, .int r_11), (3, .int x5_15), (7, .int r_11), (6, .int ((n_near v1.toNatClampNeg) &&& r_6)), (5, .int x5_15), (2, .int (s_labels v1.toNatClampNeg)), (0, .ref (a_s 0)), (1, .int v1)]) hx hb d_Sp_strongestLabel_88 hl (by decide) rfl (fun ls hl => ?_)
          refine lv_iinc (v := (x5_15 + 1)) (lv' := [(5, .int (x5_15 + 1)), (4, .int r_11), (3, .int x5_15), (7, .int r_11), (6, .int ((n_near v1.toNatClampNeg) &&& r_6)), (2, .int (s_labels v1.toNatClampNeg)), (0, .ref (a_s 0)), (1, .int v1)]) hx hb d_Sp_strongestLabel_90 hl (k := 4) rfl rfl (by decide) rfl (fun ls hl => ?_)
          refine lv_goto (tgt := 15) hx hb d_Sp_strongestLabel_93 (by decide) ?_
          exact cast (hG _ _ _ _ _ _ _) (hB_15 (x5_15, r_11, (x5_15 + 1)) h _ _ _ hP hD hS (lv_sub hl [0, 1, 2, 5, 6, 7] rfl))
        · intro j83 hJ_83 h
          refine cast (hG _ _ _ _ _ _ _).symm ?_
          refine lv_if_lt (tgt := 83) hx hb d_Sp_strongestLabel_60 (by decide) (fun c_14 => ?_) (fun c_14 => ?_)
          · have h := ifp (c_14) h
            exact cast (hG _ _ _ _ _ _ _) (hJ_83 () h _ _ _ hP hD hS (lv_sub hl [0, 1, 2, 3, 4, 5, 6, 7] rfl))
          · have h := ifn (c_14) h
            refine lv_iload hx hb d_Sp_strongestLabel_63 (lv_at hl 0 rfl) ?_
            refine lv_iload hx hb d_Sp_strongestLabel_65 (lv_at hl 3 rfl) ?_
            refine lv_icmp_gt (tgt := 83) hx hb d_Sp_strongestLabel_67 (by decide) (fun c_15 => ?_) (fun c_15 => ?_)
            · have h := ifp (c_15) h
              exact cast (hG _ _ _ _ _ _ _) (hJ_83 () h _ _ _ hP hD hS (lv_sub hl [0, 1, 2, 3, 4, 5, 6, 7] rfl))
            · have h := ifn (c_15) h
              refine lv_iload hx hb d_Sp_strongestLabel_70 (lv_at hl 0 rfl) ?_
              refine lv_iload hx hb d_Sp_strongestLabel_72 (lv_at hl 3 rfl) ?_
              refine lv_icmp_ne (tgt := 90) hx hb d_Sp_strongestLabel_74 (by decide) (fun c_16 => ?_) (fun c_16 => ?_)
              · have h := ifn (c_16) h
                refine lv_iinc (v := (x5_15 + 1)) (lv' := [(5, .int (x5_15 + 1)), (7, .int r_11), (6, .int ((n_near v1.toNatClampNeg) &&& r_6)), (4, .int x4_15), (3, .int x3_15), (2, .int (s_labels v1.toNatClampNeg)), (0, .ref (a_s 0)), (1, .int v1)]) hx hb d_Sp_strongestLabel_90 hl (k := 2) rfl rfl (by decide) rfl (fun ls hl => ?_)
                refine lv_goto (tgt := 15) hx hb d_Sp_strongestLabel_93 (by decide) ?_
                exact cast (hG _ _ _ _ _ _ _) (hB_15 (x3_15, x4_15, (x5_15 + 1)) h _ _ _ hP hD hS (lv_sub hl [0, 3, 4, 5, 6, 7] rfl))
              · have h := ifp (c_16) h
                refine lv_iload hx hb d_Sp_strongestLabel_77 (lv_at hl 2 rfl) ?_
                refine lv_iload_n hx hb d_Sp_strongestLabel_79 rfl (lv_at hl 5 rfl) ?_
                refine lv_icmp_ne (tgt := 90) hx hb d_Sp_strongestLabel_80 (by decide) (fun c_17 => ?_) (fun c_17 => ?_)
                · have h := ifn (c_17) h
                  refine lv_iinc (v := (x5_15 + 1)) (lv' := [(5, .int (x5_15 + 1)), (7, .int r_11), (6, .int ((n_near v1.toNatClampNeg) &&& r_6)), (4, .int x4_15), (3, .int x3_15), (2, .int (s_labels v1.toNatClampNeg)), (0, .ref (a_s 0)), (1, .int v1)]) hx hb d_Sp_strongestLabel_90 hl (k := 2) rfl rfl (by decide) rfl (fun ls hl => ?_)
                  refine lv_goto (tgt := 15) hx hb d_Sp_strongestLabel_93 (by decide) ?_
                  exact cast (hG _ _ _ _ _ _ _) (hB_15 (x3_15, x4_15, (x5_15 + 1)) h _ _ _ hP hD hS (lv_sub hl [0, 3, 4, 5, 6, 7] rfl))
                · have h := ifp (c_17) h
                  exact cast (hG _ _ _ _ _ _ _) (hJ_83 () h _ _ _ hP hD hS (lv_sub hl [0, 1, 2, 3, 4, 5, 6, 7] rfl))
def wd_Sp_relabelAll (cA : Nat → ClassId) (a_n a_s : Nat → Nat) (n_x : Int32) (n_y : Int32) (n_nodes : Int32) (n_aloneB : Int64) (n_link : Nat → Nat → Int32) (n_near : Nat → Int32) (s_drawn : Int32) (s_labels : Nat → Int32) (s_order : Nat → Int32) : va_W := [(a_n 0, .inr (0, [.int n_x, .int n_y, .int n_nodes, .long n_aloneB, .ref (a_n 1), .ref (a_n 11), .ref (a_n 21), .ref (a_n 31), .ref (a_n 32)])), (a_n 21, .inl (cA 3, 9, .inr (.inr (.inr (.inr (fun i => if i < 9 then some (a_n (i + 22)) else none)))))), (a_n (0 + 22), .inl (cA 0, 9, .inl (n_link 0))), (a_n (1 + 22), .inl (cA 0, 9, .inl (n_link 1))), (a_n (2 + 22), .inl (cA 0, 9, .inl (n_link 2))), (a_n (3 + 22), .inl (cA 0, 9, .inl (n_link 3))), (a_n (4 + 22), .inl (cA 0, 9, .inl (n_link 4))), (a_n (5 + 22), .inl (cA 0, 9, .inl (n_link 5))), (a_n (6 + 22), .inl (cA 0, 9, .inl (n_link 6))), (a_n (7 + 22), .inl (cA 0, 9, .inl (n_link 7))), (a_n (8 + 22), .inl (cA 0, 9, .inl (n_link 8))), (a_n 31, .inl (cA 0, 9, .inl n_near)), (a_s 0, .inr (4, [.ref (a_n 0), .ref (a_s 1), .ref (a_s 2), .int s_drawn])), (a_s 1, .inl (cA 0, 9, .inl s_labels)), (a_s 2, .inl (cA 0, 9, .inl s_order))]
theorem row_Sp_relabelAll_n_link {cA : Nat → ClassId} {a_n a_s : Nat → Nat} {n_x : Int32} {n_y : Int32} {n_nodes : Int32} {n_aloneB : Int64} {n_near : Nat → Int32} {s_drawn : Int32} {s_labels : Nat → Int32} {s_order : Nat → Int32} (n_link : Nat → Nat → Int32) (k : Nat) (hk : k < 9) : (wd_Sp_relabelAll cA a_n a_s n_x n_y n_nodes n_aloneB n_link n_near s_drawn s_labels s_order)[2 + k]? = some (a_n (k + 22), .inl (cA 0, 9, .inl (n_link k))) := by
  rcases lt9 hk with rfl | rfl | rfl | rfl | rfl | rfl | rfl | rfl | rfl <;> rfl
theorem set_Sp_relabelAll_n_link {cA : Nat → ClassId} {a_n a_s : Nat → Nat} {n_x : Int32} {n_y : Int32} {n_nodes : Int32} {n_aloneB : Int64} {n_near : Nat → Int32} {s_drawn : Int32} {s_labels : Nat → Int32} {s_order : Nat → Int32} {n_link : Nat → Nat → Int32} {f : Nat → Int32} (k : Nat) (hk : k < 9) : (wd_Sp_relabelAll cA a_n a_s n_x n_y n_nodes n_aloneB n_link n_near s_drawn s_labels s_order).set (2 + k) (a_n (k + 22), .inl (cA 0, 9, .inl f)) = wd_Sp_relabelAll cA a_n a_s n_x n_y n_nodes n_aloneB (va_up n_link k f) n_near s_drawn s_labels s_order := by
  rcases lt9 hk with rfl | rfl | rfl | rfl | rfl | rfl | rfl | rfl | rfl <;> rfl
noncomputable def s_Sp_relabelAll_4 (n_link : Nat → Nat → Int32) (n_near : Nat → Int32) (n_nodes : Int32) (s_order : Nat → Int32) (zz : Int32 × Int32 × (Nat → Int32)) (back exit : (Int32 × Int32 × (Nat → Int32)) → Option (Int32 × (Nat → Int32))) : Option (Int32 × (Nat → Int32)) :=
  (if n_nodes ≤ zz.2.1 then (exit (zz.1, zz.2.1, zz.2.2)) else (if inb zz.2.1 9 then ((m_Sp_strongestLabel n_nodes n_link n_near zz.2.2 (s_order zz.2.1.toNatClampNeg)).bind (fun r24 : Int32 => (if inb (s_order zz.2.1.toNatClampNeg) 9 then (jn (fun z46 : Int32 => (if inb (s_order zz.2.1.toNatClampNeg) 9 then (back ((zz.1 ||| z46), (zz.2.1 + 1), (upd zz.2.2 (s_order zz.2.1.toNatClampNeg).toNatClampNeg r24))) else none)) (fun j46 => (if r24 = (zz.2.2 (s_order zz.2.1.toNatClampNeg).toNatClampNeg) then (j46 (0 : Int32)) else (j46 (1 : Int32))))) else none))) else none))
noncomputable def m_Sp_relabelAll (n_nodes : Int32) (n_link : Nat → Nat → Int32) (n_near : Nat → Int32) (s_labels : Nat → Int32) (s_order : Nat → Int32) : Option (Int32 × (Nat → Int32)) :=
  (loopC (s_Sp_relabelAll_4 n_link n_near n_nodes s_order) (fun z4 : Int32 × Int32 × (Nat → Int32) => (if z4.1 = 0 ∨ z4.1 = 1 then some (z4.1, z4.2.2) else none)) FU ((0 : Int32), (0 : Int32), s_labels))
set_option maxHeartbeats 4000000 in
set_option maxRecDepth 100000 in
theorem c_Sp_relabelAll (l : Launch) (D : va_G) (cA : Nat → ClassId) (a_n a_s : Nat → Nat) (sz : Nat) (n_x : Int32) (n_y : Int32) (n_nodes : Int32) (n_aloneB : Int64) (n_link : Nat → Nat → Int32) (n_near : Nat → Int32) (s_drawn : Int32) (s_labels : Nat → Int32) (s_order : Nat → Int32)  (out : Int32 × (Nat → Int32)) (h : m_Sp_relabelAll n_nodes n_link n_near s_labels s_order = some out) : Met l y_Sp_relabelAll w_Sp_relabelAll ({ frames := 2, cells := 0, slots := 0, locals := 51 }) (va_Pc [.ref (a_s 0)] (fun U => U.heap.size = sz ∧ va_P D cls9 (wd_Sp_relabelAll cA a_n a_s n_x n_y n_nodes n_aloneB n_link n_near s_drawn s_labels s_order) U.heap ∧ va_K D cls9 (tys5 cA) U ∧ va_D (fun _ => True) (wd_Sp_relabelAll cA a_n a_s n_x n_y n_nodes n_aloneB n_link n_near s_drawn s_labels s_order))) (va_Qi (fun (rr : Int32) (uu : (Nat → Int32)) => (rr, uu) = out) (fun (uu : (Nat → Int32)) (t : State) => va_P D cls9 (wd_Sp_relabelAll cA a_n a_s n_x n_y n_nodes n_aloneB n_link n_near s_drawn uu s_order) t.heap ∧ va_K D cls9 (tys5 cA) t ∧ va_D (va_A (wd_Sp_relabelAll cA a_n a_s n_x n_y n_nodes n_aloneB n_link n_near s_drawn s_labels s_order) sz) (wd_Sp_relabelAll cA a_n a_s n_x n_y n_nodes n_aloneB n_link n_near s_drawn uu s_order)) (va_A (wd_Sp_relabelAll cA a_n a_s n_x n_y n_nodes n_aloneB n_link n_near s_drawn s_labels s_order) sz)) 0 0 (va_A (wd_Sp_relabelAll cA a_n a_s n_x n_y n_nodes n_aloneB n_link n_near s_drawn s_labels s_order) sz) := by
  refine Met.ofW (cc := b_Sp_relabelAll) (maxL := 5) (ret := (Option.some Jvm.ClassFile.FieldType.boolean)) (by decide) rfl ?_
  intro p e s m args below meth c s₁ B hml hv
  obtain ⟨rfl, hsz, hP, hK, hD0⟩ := hv
  have hx := B.exec
  have hb := B.bytes
  have hr := B.returns
  have hts := atoms_spec (ws := w_Sp_relabelAll) B.pre
  have hal : ∀ w ∈ ALLW, w.before _ s = true := fun w hw => hts w (List.mem_cons_of_mem _ hw)
  have hown : s.vm.findClass R_Sp = some m.cls := findClass_of_methodNamed B.named
  have hlocks := B.notSynchronized
  subst hsz
  have hD := hD0.self (sz := s.heap.size)
  generalize hAe : va_A (wd_Sp_relabelAll cA a_n a_s n_x n_y n_nodes n_aloneB n_link n_near s_drawn s_labels s_order) s.heap.size = A at hD ⊢
  have hA : ∀ q : Nat, s.heap.size ≤ q → A q := fun q h => by rw [← hAe]; exact Or.inr h
  have hS : va_S A s.heap s.heap [] := va_S.rf
  have hl := lv_entry ([.ref (a_s 0)]) (n := 5) (Nat.le_of_ble_eq_true rfl)
  rw [lg_entry_eq]
  generalize (lg_sl ([.ref (a_s 0)]) ++ List.replicate (5 - (lg_sl ([.ref (a_s 0)])).length) Slot.unset).toArray = ls at hl ⊢
  have hl : lv_has ls 5 [(0, .ref (a_s 0))] := hl
  refine wg (fun G hG => ?_)
  refine cast (hG _ _ _ _ _ _ _).symm ?_
  obtain ⟨H, locs, hHl, hS⟩ : ∃ (H : Heap) (locs : List Loc), (H = s.heap ∧ locs = []) ∧ va_S A s.heap H locs := ⟨s.heap, [], ⟨rfl, rfl⟩, hS⟩
  have hP : va_P D cls9 (wd_Sp_relabelAll cA a_n a_s n_x n_y n_nodes n_aloneB n_link n_near s_drawn s_labels s_order) H := by rw [hHl.1]; exact hP
  rw [← hHl.1, ← hHl.2]
  clear hHl
  refine lv_iconst (v := 0) hx hb d_Sp_relabelAll_0 (by decide) ?_
  refine lv_istore_n (lv' := [(1, .int (0 : Int32)), (0, .ref (a_s 0))]) hx hb d_Sp_relabelAll_1 rfl hl (by decide) rfl (fun ls hl => ?_)
  refine lv_iconst (v := 0) hx hb d_Sp_relabelAll_2 (by decide) ?_
  refine lv_istore_n (lv' := [(2, .int (0 : Int32)), (1, .int (0 : Int32)), (0, .ref (a_s 0))]) hx hb d_Sp_relabelAll_3 rfl hl (by decide) rfl (fun ls hl => ?_)
  refine cast (hG _ _ _ _ _ _ _) (lp_go2 h (fun zz : Int32 × Int32 × (Nat → Int32) => ∀ (H : Heap) (locs : List Loc) (ls : Array Slot), va_P D cls9 (wd_Sp_relabelAll cA a_n a_s n_x n_y n_nodes n_aloneB n_link n_near s_drawn zz.2.2 s_order) H → va_D A (wd_Sp_relabelAll cA a_n a_s n_x n_y n_nodes n_aloneB n_link n_near s_drawn zz.2.2 s_order) → va_S A s.heap H locs → lv_has ls 5 [(2, .int zz.2.1), (1, .int zz.1), (0, .ref (a_s 0))] → G H locs 0 0 ls 62 []) ?_ (fun zz : Int32 × Int32 × (Nat → Int32) => ∀ (H : Heap) (locs : List Loc) (ls : Array Slot), va_P D cls9 (wd_Sp_relabelAll cA a_n a_s n_x n_y n_nodes n_aloneB n_link n_near s_drawn zz.2.2 s_order) H → va_D A (wd_Sp_relabelAll cA a_n a_s n_x n_y n_nodes n_aloneB n_link n_near s_drawn zz.2.2 s_order) → va_S A s.heap H locs → lv_has ls 5 [(2, .int zz.2.1), (1, .int zz.1), (0, .ref (a_s 0))] → G H locs 0 0 ls 4 []) ?_ _ _ ls hP hD hS (lv_sub hl [0, 1, 2] rfl))
  · intro zz h H locs ls hP hD hS hl
    obtain ⟨x1_4e, x2_4e, s_labels_4e⟩ := zz
    have hP : va_P D cls9 (wd_Sp_relabelAll cA a_n a_s n_x n_y n_nodes n_aloneB n_link n_near s_drawn s_labels_4e s_order) H := hP
    have hD : va_D A (wd_Sp_relabelAll cA a_n a_s n_x n_y n_nodes n_aloneB n_link n_near s_drawn s_labels_4e s_order) := hD
    have hl : lv_has ls 5 [(2, .int x2_4e), (1, .int x1_4e), (0, .ref (a_s 0))] := hl
    refine cast (hG _ _ _ _ _ _ _).symm ?_
    refine lv_iload_n hx hb d_Sp_relabelAll_62 rfl (lv_at hl 1 rfl) ?_
    obtain ⟨z_1, h⟩ := gd h
    exact W.zret (v := x1_4e) hx hb hr (nar_z z_1) (fun t ht hW => ⟨⟨x1_4e, s_labels_4e, rfl, Option.some.inj h, by rw [ht]; exact hP, va_K.moved hW.alike hK, hD⟩, hS.F ht⟩) hS.2.2 d_Sp_relabelAll_63
  · intro back exit zz hB_4 hE_4 h H locs ls hP hD hS hl
    obtain ⟨x1_4, x2_4, s_labels_4⟩ := zz
    have hP : va_P D cls9 (wd_Sp_relabelAll cA a_n a_s n_x n_y n_nodes n_aloneB n_link n_near s_drawn s_labels_4 s_order) H := hP
    have hD : va_D A (wd_Sp_relabelAll cA a_n a_s n_x n_y n_nodes n_aloneB n_link n_near s_drawn s_labels_4 s_order) := hD
    have hl : lv_has ls 5 [(2, .int x2_4), (1, .int x1_4), (0, .ref (a_s 0))] := hl
    refine cast (hG _ _ _ _ _ _ _).symm ?_
    refine lv_iload_n hx hb d_Sp_relabelAll_4 rfl (lv_at hl 0 rfl) ?_
    refine lv_aload_n hx hb d_Sp_relabelAll_5 rfl (lv_at hl 2 rfl) ?_
    refine va_get (ci := 4) (v := .ref (a_n 0)) (C := R_Sp) (T := F_Sp) (N := 4) hx hb hal in_Sp hown hK hP 12 rfl rfl 0 (by decide) (hal _ kw_183) (fun _ h9 => h9) rfl d_Sp_relabelAll_6 ?_
    refine va_get (ci := 0) (v := .int n_nodes) (C := R_Ga) (T := F_Ga) (N := 9) hx hb hal in_Ga hown hK hP 0 rfl rfl 2 (by decide) (hal _ kw_72) (fun _ h9 => h9) rfl d_Sp_relabelAll_9 ?_
    refine lv_icmp_ge (tgt := 62) hx hb d_Sp_relabelAll_12 (by decide) (fun c_2 => ?_) (fun c_2 => ?_)
    · have h := ifp (c_2) h
      exact cast (hG _ _ _ _ _ _ _) (hE_4 (x1_4, x2_4, s_labels_4) h _ _ _ hP hD hS (lv_sub hl [0, 1, 2] rfl))
    · have h := ifn (c_2) h
      refine lv_aload_n hx hb d_Sp_relabelAll_15 rfl (lv_at hl 2 rfl) ?_
      refine va_get (ci := 4) (v := .ref (a_s 2)) (C := R_Sp) (T := F_Sp) (N := 4) hx hb hal in_Sp hown hK hP 12 rfl rfl 2 (by decide) (hal _ kw_186) (fun _ h9 => h9) rfl d_Sp_relabelAll_16 ?_
      refine lv_iload_n hx hb d_Sp_relabelAll_19 rfl (lv_at hl 0 rfl) ?_
      obtain ⟨g_3, h⟩ := gd h
      refine va_iald hx hb hK hP 14 0 rfl rfl (inb_in g_3) d_Sp_relabelAll_20 ?_
      refine lv_istore_n (lv' := [(3, .int (s_order x2_4.toNatClampNeg)), (2, .int x2_4), (1, .int x1_4), (0, .ref (a_s 0))]) hx hb d_Sp_relabelAll_21 rfl hl (by decide) rfl (fun ls hl => ?_)
      refine lv_aload_n hx hb d_Sp_relabelAll_22 rfl (lv_at hl 3 rfl) ?_
      refine lv_iload_n hx hb d_Sp_relabelAll_23 rfl (lv_at hl 0 rfl) ?_
      obtain ⟨o_7, hc_6, h⟩ := bd h
      have hPc := hP.sub (ws' := (wd_Sp_strongestLabel cA a_n a_s n_x n_y n_nodes n_aloneB n_link n_near s_drawn s_labels_4)) [0, 1, 2, 3, 4, 5, 6, 7, 8, 9, 10, 11, 12, 13] rfl
      have hDc := hD.sub (ws' := (wd_Sp_strongestLabel cA a_n a_s n_x n_y n_nodes n_aloneB n_link n_near s_drawn s_labels_4)) [0, 1, 2, 3, 4, 5, 6, 7, 8, 9, 10, 11, 12, 13] (by decide) rfl
      have hFc := va_free (wc := (wd_Sp_strongestLabel cA a_n a_s n_x n_y n_nodes n_aloneB n_link n_near s_drawn s_labels_4)) hD hS hA [0, 1, 2, 3, 4, 5, 6, 7, 8, 9, 10, 11, 12, 13] rfl
      refine va_calli (va_runV (C := R_Sp) (As := [.int (s_order x2_4.toNatClampNeg)]) (rest := []) ⟨hx, hb, hml, hown, hal⟩ (c_Sp_strongestLabel l D cA a_n a_s H.size n_x n_y n_nodes n_aloneB n_link n_near s_drawn s_labels_4 (s_order x2_4.toNatClampNeg) o_7 hc_6) (cwV 1 hal (goodV kw_541 kw_543 kw_p16 kw_7 kw_544) rfl rfl rfl (by decide +kernel) ⟨Nat.le_of_ble_eq_true rfl, Nat.le_of_ble_eq_true rfl⟩) ⟨fun a U g mk q => by obtain ⟨q0, q1, qP, qK, qD⟩ := q; exact ⟨q0, q1, qP, va_K.moved (u := U) (U := U.calling g mk a) (Vm.Alike.refl U.vm) qK, qD⟩, va_recv hK hP (ci := 4) (q0 := 12) rfl rfl, fun U hU hW => ⟨rfl, by rw [hU], by rw [hU]; exact hPc, va_K.moved hW.alike hK, hDc.weaken (fun _ _ _ _ => trivial)⟩⟩ rfl rfl hl.1 rfl (lv_room (Nat.le_of_ble_eq_true rfl)) d_Sp_relabelAll_24 ⟨Nat.le_of_ble_eq_true rfl, Nat.le_of_ble_eq_true rfl⟩) hS (fun q _ h => hFc q h) hFc (fun r_5 u t H1 locs ht hvm hw hB hz1 hk1 hS => ?_)
      subst hw
      obtain ⟨hP1, hK1, hD1⟩ := hB
      rw [ht] at hP1
      have hP1 : va_P D cls9 (wd_Sp_strongestLabel cA a_n a_s n_x n_y n_nodes n_aloneB n_link n_near s_drawn s_labels_4) H1 := hP1
      obtain ⟨hP, hD⟩ := va_join (wr := ([14] : List Nat).filterMap (fun i => (wd_Sp_relabelAll cA a_n a_s n_x n_y n_nodes n_aloneB n_link n_near s_drawn s_labels_4 s_order)[i]?)) (w1 := (wd_Sp_strongestLabel cA a_n a_s n_x n_y n_nodes n_aloneB n_link n_near s_drawn s_labels_4)) hP hD [0, 1, 2, 3, 4, 5, 6, 7, 8, 9, 10, 11, 12, 13] [14] rfl rfl (by decide) (by decide) hk1 hFc hP1 hD1
      generalize H1 = H at hP hS ⊢
      have hP : va_P D cls9 (wd_Sp_relabelAll cA a_n a_s n_x n_y n_nodes n_aloneB n_link n_near s_drawn s_labels_4 s_order) H := hP.sub [1, 2, 3, 4, 5, 6, 7, 8, 9, 10, 11, 12, 13, 14, 0] rfl
      have hD : va_D A (wd_Sp_relabelAll cA a_n a_s n_x n_y n_nodes n_aloneB n_link n_near s_drawn s_labels_4 s_order) := hD.sub [1, 2, 3, 4, 5, 6, 7, 8, 9, 10, 11, 12, 13, 14, 0] (by decide) rfl
      refine lv_istore (lv' := [(4, .int r_5), (3, .int (s_order x2_4.toNatClampNeg)), (2, .int x2_4), (1, .int x1_4), (0, .ref (a_s 0))]) hx hb d_Sp_relabelAll_27 hl (by decide) rfl (fun ls hl => ?_)
      refine lv_iload_n hx hb d_Sp_relabelAll_29 rfl (lv_at hl 3 rfl) ?_
      refine lv_iload hx hb d_Sp_relabelAll_30 (lv_at hl 0 rfl) ?_
      refine lv_aload_n hx hb d_Sp_relabelAll_32 rfl (lv_at hl 4 rfl) ?_
      refine va_get (ci := 4) (v := .ref (a_s 1)) (C := R_Sp) (T := F_Sp) (N := 4) hx hb hal in_Sp hown hK hP 12 rfl rfl 1 (by decide) (hal _ kw_184) (fun _ h9 => h9) rfl d_Sp_relabelAll_33 ?_
      refine lv_iload_n hx hb d_Sp_relabelAll_36 rfl (lv_at hl 1 rfl) ?_
      obtain ⟨g_8, h⟩ := gd h
      refine va_iald hx hb hK hP 13 0 rfl rfl (inb_in g_8) d_Sp_relabelAll_37 ?_
      refine cast (hG _ _ _ _ _ _ _) (jn_go h (fun zz : Int32 => ∀ (H : Heap) (locs : List Loc) (ls : Array Slot), va_P D cls9 (wd_Sp_relabelAll cA a_n a_s n_x n_y n_nodes n_aloneB n_link n_near s_drawn s_labels_4 s_order) H → va_D A (wd_Sp_relabelAll cA a_n a_s n_x n_y n_nodes n_aloneB n_link n_near s_drawn s_labels_4 s_order) → va_S A s.heap H locs → lv_has ls 5 [(4, .int r_5), (3, .int (s_order x2_4.toNatClampNeg)), (2, .int x2_4), (1, .int x1_4), (0, .ref (a_s 0))] → G H locs 0 0 ls 46 [.int zz, .int x1_4]) ?_ ?_)
      · intro zz h H locs ls hP hD hS hl
        obtain ⟨y0_46j, rfl⟩ : ∃ q, q = zz := ⟨_, rfl⟩
        have hP : va_P D cls9 (wd_Sp_relabelAll cA a_n a_s n_x n_y n_nodes n_aloneB n_link n_near s_drawn s_labels_4 s_order) H := hP
        have hD : va_D A (wd_Sp_relabelAll cA a_n a_s n_x n_y n_nodes n_aloneB n_link n_near s_drawn s_labels_4 s_order) := hD
        have hl : lv_has ls 5 [(4, .int r_5), (3, .int (s_order x2_4.toNatClampNeg)), (2, .int x2_4), (1, .int x1_4), (0, .ref (a_s 0))] := hl
        refine cast (hG _ _ _ _ _ _ _).symm ?_
        refine lv_ior hx hb d_Sp_relabelAll_46 ?_
        refine lv_istore_n (lv' := [(1, .int (x1_4 ||| y0_46j)), (4, .int r_5), (3, .int (s_order x2_4.toNatClampNeg)), (2, .int x2_4), (0, .ref (a_s 0))]) hx hb d_Sp_relabelAll_47 rfl hl (by decide) rfl (fun ls hl => ?_)
        refine lv_aload_n hx hb d_Sp_relabelAll_48 rfl (lv_at hl 4 rfl) ?_
        refine va_get (ci := 4) (v := .ref (a_s 1)) (C := R_Sp) (T := F_Sp) (N := 4) hx hb hal in_Sp hown hK hP 12 rfl rfl 1 (by decide) (hal _ kw_184) (fun _ h9 => h9) rfl d_Sp_relabelAll_49 ?_
        refine lv_iload_n hx hb d_Sp_relabelAll_52 rfl (lv_at hl 2 rfl) ?_
        refine lv_iload hx hb d_Sp_relabelAll_53 (lv_at hl 1 rfl) ?_
        obtain ⟨g_9, h⟩ := gd h
        refine va_iast hx hb hK hP hD hS 13 0 rfl rfl (inb_in g_9) d_Sp_relabelAll_55 (fun H locs hP hD hS => ?_)
        have hP : va_P D cls9 (wd_Sp_relabelAll cA a_n a_s n_x n_y n_nodes n_aloneB n_link n_near s_drawn (upd s_labels_4 (s_order x2_4.toNatClampNeg).toNatClampNeg r_5) s_order) H := hP
        have hD : va_D A (wd_Sp_relabelAll cA a_n a_s n_x n_y n_nodes n_aloneB n_link n_near s_drawn (upd s_labels_4 (s_order x2_4.toNatClampNeg).toNatClampNeg r_5) s_order) := hD
        refine lv_iinc (v := (x2_4 + 1)) (lv' := [(2, .int (x2_4 + 1)), (1, .int (x1_4 ||| y0_46j)), (4, .int r_5), (3, .int (s_order x2_4.toNatClampNeg)), (0, .ref (a_s 0))]) hx hb d_Sp_relabelAll_56 hl (k := 3) rfl rfl (by decide) rfl (fun ls hl => ?_)
        refine lv_goto (tgt := 4) hx hb d_Sp_relabelAll_59 (by decide) ?_
        exact cast (hG _ _ _ _ _ _ _) (hB_4 ((x1_4 ||| y0_46j), (x2_4 + 1), (upd s_labels_4 (s_order x2_4.toNatClampNeg).toNatClampNeg r_5)) h _ _ _ hP hD hS (lv_sub hl [0, 1, 4] rfl))
      · intro j46 hJ_46 h
        refine cast (hG _ _ _ _ _ _ _).symm ?_
        refine lv_icmp_eq (tgt := 45) hx hb d_Sp_relabelAll_38 (by decide) (fun c_10 => ?_) (fun c_10 => ?_)
        · have h := ifp (c_10) h
          refine lv_iconst (v := 0) hx hb d_Sp_relabelAll_45 (by decide) ?_
          exact cast (hG _ _ _ _ _ _ _) (hJ_46 (0 : Int32) h _ _ _ hP hD hS (lv_sub hl [0, 1, 2, 3, 4] rfl))
        · have h := ifn (c_10) h
          refine lv_iconst (v := 1) hx hb d_Sp_relabelAll_41 (by decide) ?_
          refine lv_goto (tgt := 46) hx hb d_Sp_relabelAll_42 (by decide) ?_
          exact cast (hG _ _ _ _ _ _ _) (hJ_46 (1 : Int32) h _ _ _ hP hD hS (lv_sub hl [0, 1, 2, 3, 4] rfl))
def wd_Sp_drawOrder (cA : Nat → ClassId) (a_n a_s : Nat → Nat) (n_x : Int32) (n_y : Int32) (n_nodes : Int32) (n_aloneB : Int64) (s_drawn : Int32) (s_order : Nat → Int32) : va_W := [(a_n 0, .inr (0, [.int n_x, .int n_y, .int n_nodes, .long n_aloneB, .ref (a_n 1), .ref (a_n 11), .ref (a_n 21), .ref (a_n 31), .ref (a_n 32)])), (a_s 0, .inr (4, [.ref (a_n 0), .ref (a_s 1), .ref (a_s 2), .int s_drawn])), (a_s 2, .inl (cA 0, 9, .inl s_order))]
noncomputable def s_Sp_drawOrder_36  (zz : Int32 × Int32 × (Nat → Int32)) (back exit : (Int32 × Int32 × (Nat → Int32)) → Option (Int32 × (Nat → Int32))) : Option (Int32 × (Nat → Int32)) :=
  (if zz.1 < (1 : Int32) then (exit (zz.1, zz.2.1, zz.2.2)) else (if ¬ (zz.1 + (1 : Int32)) = 0 then (if inb zz.1 9 then (if inb ((((zz.2.1 * (1664525 : Int32)) + (1013904223 : Int32)).toUInt32 >>> ((1 : Int32).toUInt32 &&& Int32.toUInt32 31)).toInt32 - (((zz.2.1 * (1664525 : Int32)) + (1013904223 : Int32)).toUInt32 >>> ((1 : Int32).toUInt32 &&& Int32.toUInt32 31)).toInt32 / (zz.1 + (1 : Int32)) * (zz.1 + (1 : Int32))) 9 then (back ((zz.1 + (-1)), ((zz.2.1 * (1664525 : Int32)) + (1013904223 : Int32)), (upd (upd zz.2.2 zz.1.toNatClampNeg (zz.2.2 ((((zz.2.1 * (1664525 : Int32)) + (1013904223 : Int32)).toUInt32 >>> ((1 : Int32).toUInt32 &&& Int32.toUInt32 31)).toInt32 - (((zz.2.1 * (1664525 : Int32)) + (1013904223 : Int32)).toUInt32 >>> ((1 : Int32).toUInt32 &&& Int32.toUInt32 31)).toInt32 / (zz.1 + (1 : Int32)) * (zz.1 + (1 : Int32))).toNatClampNeg)) ((((zz.2.1 * (1664525 : Int32)) + (1013904223 : Int32)).toUInt32 >>> ((1 : Int32).toUInt32 &&& Int32.toUInt32 31)).toInt32 - (((zz.2.1 * (1664525 : Int32)) + (1013904223 : Int32)).toUInt32 >>> ((1 : Int32).toUInt32 &&& Int32.toUInt32 31)).toInt32 / (zz.1 + (1 : Int32)) * (zz.1 + (1 : Int32))).toNatClampNeg (zz.2.2 zz.1.toNatClampNeg)))) else none) else none) else none))
noncomputable def s_Sp_drawOrder_2 (n_nodes : Int32) (zz : Int32 × (Nat → Int32)) (back exit : (Int32 × (Nat → Int32)) → Option (Int32 × (Nat → Int32))) : Option (Int32 × (Nat → Int32)) :=
  (if n_nodes ≤ zz.1 then (exit (zz.1, zz.2)) else (if inb zz.1 9 then (back ((zz.1 + 1), (upd zz.2 zz.1.toNatClampNeg zz.1))) else none))
noncomputable def m_Sp_drawOrder (n_nodes : Int32) (s_drawn : Int32) (s_order : Nat → Int32) : Option (Int32 × (Nat → Int32)) :=
  (loopC (s_Sp_drawOrder_2 n_nodes) (fun z2 : Int32 × (Nat → Int32) => (loopC (s_Sp_drawOrder_36) (fun z36 : Int32 × Int32 × (Nat → Int32) => some (z36.2.1, z36.2.2)) FU ((n_nodes - (1 : Int32)), s_drawn, z2.2))) FU ((0 : Int32), s_order))
set_option maxHeartbeats 4000000 in
set_option maxRecDepth 100000 in
theorem c_Sp_drawOrder (l : Launch) (D : va_G) (cA : Nat → ClassId) (a_n a_s : Nat → Nat) (sz : Nat) (n_x : Int32) (n_y : Int32) (n_nodes : Int32) (n_aloneB : Int64) (s_drawn : Int32) (s_order : Nat → Int32)  (out : Int32 × (Nat → Int32)) (h : m_Sp_drawOrder n_nodes s_drawn s_order = some out) : Met l y_Sp_drawOrder w_Sp_drawOrder ({ frames := 0, cells := 0, slots := 0, locals := 0 }) (va_Pc [.ref (a_s 0)] (fun U => U.heap.size = sz ∧ va_P D cls9 (wd_Sp_drawOrder cA a_n a_s n_x n_y n_nodes n_aloneB s_drawn s_order) U.heap ∧ va_K D cls9 (tys5 cA) U ∧ va_D (fun _ => True) (wd_Sp_drawOrder cA a_n a_s n_x n_y n_nodes n_aloneB s_drawn s_order))) (va_Qv (fun uu : Int32 × (Nat → Int32) => uu = out) (fun (uu : Int32 × (Nat → Int32)) (t : State) => va_P D cls9 (wd_Sp_drawOrder cA a_n a_s n_x n_y n_nodes n_aloneB uu.1 uu.2) t.heap ∧ va_K D cls9 (tys5 cA) t ∧ va_D (va_A (wd_Sp_drawOrder cA a_n a_s n_x n_y n_nodes n_aloneB s_drawn s_order) sz) (wd_Sp_drawOrder cA a_n a_s n_x n_y n_nodes n_aloneB uu.1 uu.2)) (va_A (wd_Sp_drawOrder cA a_n a_s n_x n_y n_nodes n_aloneB s_drawn s_order) sz)) 0 0 (va_A (wd_Sp_drawOrder cA a_n a_s n_x n_y n_nodes n_aloneB s_drawn s_order) sz) := by
  refine Met.ofW (cc := b_Sp_drawOrder) (maxL := 4) (ret := (Option.none : Option Jvm.ClassFile.FieldType)) (by decide) rfl ?_
  intro p e s m args below meth c s₁ B hml hv
  obtain ⟨rfl, hsz, hP, hK, hD0⟩ := hv
  have hx := B.exec
  have hb := B.bytes
  have hr := B.returns
  have hts := atoms_spec (ws := w_Sp_drawOrder) B.pre
  have hal : ∀ w ∈ ALLW, w.before _ s = true := fun w hw => hts w (List.mem_cons_of_mem _ hw)
  have hown : s.vm.findClass R_Sp = some m.cls := findClass_of_methodNamed B.named
  have hlocks := B.notSynchronized
  subst hsz
  have hD := hD0.self (sz := s.heap.size)
  generalize hAe : va_A (wd_Sp_drawOrder cA a_n a_s n_x n_y n_nodes n_aloneB s_drawn s_order) s.heap.size = A at hD ⊢
  have hA : ∀ q : Nat, s.heap.size ≤ q → A q := fun q h => by rw [← hAe]; exact Or.inr h
  have hS : va_S A s.heap s.heap [] := va_S.rf
  have hl := lv_entry ([.ref (a_s 0)]) (n := 4) (Nat.le_of_ble_eq_true rfl)
  rw [lg_entry_eq]
  generalize (lg_sl ([.ref (a_s 0)]) ++ List.replicate (4 - (lg_sl ([.ref (a_s 0)])).length) Slot.unset).toArray = ls at hl ⊢
  have hl : lv_has ls 4 [(0, .ref (a_s 0))] := hl
  refine wg (fun G hG => ?_)
  refine cast (hG _ _ _ _ _ _ _).symm ?_
  obtain ⟨H, locs, hHl, hS⟩ : ∃ (H : Heap) (locs : List Loc), (H = s.heap ∧ locs = []) ∧ va_S A s.heap H locs := ⟨s.heap, [], ⟨rfl, rfl⟩, hS⟩
  have hP : va_P D cls9 (wd_Sp_drawOrder cA a_n a_s n_x n_y n_nodes n_aloneB s_drawn s_order) H := by rw [hHl.1]; exact hP
  rw [← hHl.1, ← hHl.2]
  clear hHl
  refine lv_iconst (v := 0) hx hb d_Sp_drawOrder_0 (by decide) ?_
  refine lv_istore_n (lv' := [(1, .int (0 : Int32)), (0, .ref (a_s 0))]) hx hb d_Sp_drawOrder_1 rfl hl (by decide) rfl (fun ls hl => ?_)
  refine cast (hG _ _ _ _ _ _ _) (lp_go2 h (fun zz : Int32 × (Nat → Int32) => ∀ (H : Heap) (locs : List Loc) (ls : Array Slot), va_P D cls9 (wd_Sp_drawOrder cA a_n a_s n_x n_y n_nodes n_aloneB s_drawn zz.2) H → va_D A (wd_Sp_drawOrder cA a_n a_s n_x n_y n_nodes n_aloneB s_drawn zz.2) → va_S A s.heap H locs → lv_has ls 4 [(1, .int zz.1), (0, .ref (a_s 0))] → G H locs 0 0 ls 26 []) ?_ (fun zz : Int32 × (Nat → Int32) => ∀ (H : Heap) (locs : List Loc) (ls : Array Slot), va_P D cls9 (wd_Sp_drawOrder cA a_n a_s n_x n_y n_nodes n_aloneB s_drawn zz.2) H → va_D A (wd_Sp_drawOrder cA a_n a_s n_x n_y n_nodes n_aloneB s_drawn zz.2) → va_S A s.heap H locs → lv_has ls 4 [(1, .int zz.1), (0, .ref (a_s 0))] → G H locs 0 0 ls 2 []) ?_ _ _ ls hP hD hS (lv_sub hl [0, 1] rfl))
  · intro zz h H locs ls hP hD hS hl
    obtain ⟨x1_2e, s_order_2e⟩ := zz
    have hP : va_P D cls9 (wd_Sp_drawOrder cA a_n a_s n_x n_y n_nodes n_aloneB s_drawn s_order_2e) H := hP
    have hD : va_D A (wd_Sp_drawOrder cA a_n a_s n_x n_y n_nodes n_aloneB s_drawn s_order_2e) := hD
    have hl : lv_has ls 4 [(1, .int x1_2e), (0, .ref (a_s 0))] := hl
    refine cast (hG _ _ _ _ _ _ _).symm ?_
    refine lv_aload_n hx hb d_Sp_drawOrder_26 rfl (lv_at hl 1 rfl) ?_
    refine va_get (ci := 4) (v := .ref (a_n 0)) (C := R_Sp) (T := F_Sp) (N := 4) hx hb hal in_Sp hown hK hP 1 rfl rfl 0 (by decide) (hal _ kw_183) (fun _ h9 => h9) rfl d_Sp_drawOrder_27 ?_
    refine va_get (ci := 0) (v := .int n_nodes) (C := R_Ga) (T := F_Ga) (N := 9) hx hb hal in_Ga hown hK hP 0 rfl rfl 2 (by decide) (hal _ kw_72) (fun _ h9 => h9) rfl d_Sp_drawOrder_30 ?_
    refine lv_iconst (v := 1) hx hb d_Sp_drawOrder_33 (by decide) ?_
    refine lv_isub hx hb d_Sp_drawOrder_34 ?_
    refine lv_istore_n (lv' := [(1, .int (n_nodes - (1 : Int32))), (0, .ref (a_s 0))]) hx hb d_Sp_drawOrder_35 rfl hl (by decide) rfl (fun ls hl => ?_)
    refine cast (hG _ _ _ _ _ _ _) (lp_go2 h (fun zz : Int32 × Int32 × (Nat → Int32) => ∀ (H : Heap) (locs : List Loc) (ls : Array Slot), va_P D cls9 (wd_Sp_drawOrder cA a_n a_s n_x n_y n_nodes n_aloneB zz.2.1 zz.2.2) H → va_D A (wd_Sp_drawOrder cA a_n a_s n_x n_y n_nodes n_aloneB zz.2.1 zz.2.2) → va_S A s.heap H locs → lv_has ls 4 [(1, .int zz.1), (0, .ref (a_s 0))] → G H locs 0 0 ls 98 []) ?_ (fun zz : Int32 × Int32 × (Nat → Int32) => ∀ (H : Heap) (locs : List Loc) (ls : Array Slot), va_P D cls9 (wd_Sp_drawOrder cA a_n a_s n_x n_y n_nodes n_aloneB zz.2.1 zz.2.2) H → va_D A (wd_Sp_drawOrder cA a_n a_s n_x n_y n_nodes n_aloneB zz.2.1 zz.2.2) → va_S A s.heap H locs → lv_has ls 4 [(1, .int zz.1), (0, .ref (a_s 0))] → G H locs 0 0 ls 36 []) ?_ _ _ ls hP hD hS (lv_sub hl [0, 1] rfl))
    · intro zz h H locs ls hP hD hS hl
      obtain ⟨x1_36e, s_drawn_36e, s_order_36e⟩ := zz
      have hP : va_P D cls9 (wd_Sp_drawOrder cA a_n a_s n_x n_y n_nodes n_aloneB s_drawn_36e s_order_36e) H := hP
      have hD : va_D A (wd_Sp_drawOrder cA a_n a_s n_x n_y n_nodes n_aloneB s_drawn_36e s_order_36e) := hD
      have hl : lv_has ls 4 [(1, .int x1_36e), (0, .ref (a_s 0))] := hl
      refine cast (hG _ _ _ _ _ _ _).symm ?_
      exact W.vret hx hb hr (fun t ht hW => ⟨⟨(s_drawn_36e, s_order_36e), rfl, Option.some.inj h, by rw [ht]; exact hP, va_K.moved hW.alike hK, hD⟩, hS.F ht⟩) hS.2.2 d_Sp_drawOrder_98
    · intro back exit zz hB_36 hE_36 h H locs ls hP hD hS hl
      obtain ⟨x1_36, s_drawn_36, s_order_36⟩ := zz
      have hP : va_P D cls9 (wd_Sp_drawOrder cA a_n a_s n_x n_y n_nodes n_aloneB s_drawn_36 s_order_36) H := hP
      have hD : va_D A (wd_Sp_drawOrder cA a_n a_s n_x n_y n_nodes n_aloneB s_drawn_36 s_order_36) := hD
      have hl : lv_has ls 4 [(1, .int x1_36), (0, .ref (a_s 0))] := hl
      refine cast (hG _ _ _ _ _ _ _).symm ?_
      refine lv_iload_n hx hb d_Sp_drawOrder_36 rfl (lv_at hl 0 rfl) ?_
      refine lv_iconst (v := 1) hx hb d_Sp_drawOrder_37 (by decide) ?_
      refine lv_icmp_lt (tgt := 98) hx hb d_Sp_drawOrder_38 (by decide) (fun c_1 => ?_) (fun c_1 => ?_)
      · have h := ifp (c_1) h
        exact cast (hG _ _ _ _ _ _ _) (hE_36 (x1_36, s_drawn_36, s_order_36) h _ _ _ hP hD hS (lv_sub hl [0, 1] rfl))
      · have h := ifn (c_1) h
        refine lv_aload_n hx hb d_Sp_drawOrder_41 rfl (lv_at hl 1 rfl) ?_
        refine lv_aload_n hx hb d_Sp_drawOrder_42 rfl (lv_at hl 1 rfl) ?_
        refine va_get (ci := 4) (v := .int s_drawn_36) (C := R_Sp) (T := F_Sp) (N := 4) hx hb hal in_Sp hown hK hP 1 rfl rfl 3 (by decide) (hal _ kw_187) (fun _ h9 => h9) rfl d_Sp_drawOrder_43 ?_
        refine lv_ldc (v := 1664525) hx hb hown (hal _ kw_535) d_Sp_drawOrder_46 ?_
        refine lv_imul hx hb d_Sp_drawOrder_48 ?_
        refine lv_ldc (v := 1013904223) hx hb hown (hal _ kw_536) d_Sp_drawOrder_49 ?_
        refine lv_iadd hx hb d_Sp_drawOrder_51 ?_
        refine va_put (ci := 4) (v := .int ((s_drawn_36 * (1664525 : Int32)) + (1013904223 : Int32))) (ty := .int) (C := R_Sp) (T := F_Sp) (N := 4) hx hb hal in_Sp t_Sp t_Sp_ok n_Sp hown hK hP hD hS 1 rfl rfl 3 (by decide) (hal _ kw_187) (fun _ h9 => h9) rfl (by decide +kernel) rfl rfl (Nat.le_of_ble_eq_true rfl) d_Sp_drawOrder_52 (fun H locs hP hD hS => ?_)
        have hP : va_P D cls9 (wd_Sp_drawOrder cA a_n a_s n_x n_y n_nodes n_aloneB ((s_drawn_36 * (1664525 : Int32)) + (1013904223 : Int32)) s_order_36) H := hP
        have hD : va_D A (wd_Sp_drawOrder cA a_n a_s n_x n_y n_nodes n_aloneB ((s_drawn_36 * (1664525 : Int32)) + (1013904223 : Int32)) s_order_36) := hD
        refine lv_aload_n hx hb d_Sp_drawOrder_55 rfl (lv_at hl 1 rfl) ?_
        refine va_get (ci := 4) (v := .int ((s_drawn_36 * (1664525 : Int32)) + (1013904223 : Int32))) (C := R_Sp) (T := F_Sp) (N := 4) hx hb hal in_Sp hown hK hP 1 rfl rfl 3 (by decide) (hal _ kw_187) (fun _ h9 => h9) rfl d_Sp_drawOrder_56 ?_
        refine lv_iconst (v := 1) hx hb d_Sp_drawOrder_59 (by decide) ?_
        refine lv_iushr hx hb d_Sp_drawOrder_60 rfl ?_
        refine lv_iload_n hx hb d_Sp_drawOrder_61 rfl (lv_at hl 0 rfl) ?_
        refine lv_iconst (v := 1) hx hb d_Sp_drawOrder_62 (by decide) ?_
        refine lv_iadd hx hb d_Sp_drawOrder_63 ?_
        obtain ⟨z_2, h⟩ := gd h
        refine lv_irem hx hb d_Sp_drawOrder_64 z_2 ?_
        refine lv_istore_n (lv' := [(2, .int ((((s_drawn_36 * (1664525 : Int32)) + (1013904223 : Int32)).toUInt32 >>> ((1 : Int32).toUInt32 &&& Int32.toUInt32 31)).toInt32 - (((s_drawn_36 * (1664525 : Int32)) + (1013904223 : Int32)).toUInt32 >>> ((1 : Int32).toUInt32 &&& Int32.toUInt32 31)).toInt32 / (x1_36 + (1 : Int32)) * (x1_36 + (1 : Int32)))), (1, .int x1_36), (0, .ref (a_s 0))]) hx hb d_Sp_drawOrder_65 rfl hl (by decide) rfl (fun ls hl => ?_)
        refine lv_aload_n hx hb d_Sp_drawOrder_66 rfl (lv_at hl 2 rfl) ?_
        refine va_get (ci := 4) (v := .ref (a_s 2)) (C := R_Sp) (T := F_Sp) (N := 4) hx hb hal in_Sp hown hK hP 1 rfl rfl 2 (by decide) (hal _ kw_186) (fun _ h9 => h9) rfl d_Sp_drawOrder_67 ?_
        refine lv_iload_n hx hb d_Sp_drawOrder_70 rfl (lv_at hl 1 rfl) ?_
        obtain ⟨g_3, h⟩ := gd h
        refine va_iald hx hb hK hP 2 0 rfl rfl (inb_in g_3) d_Sp_drawOrder_71 ?_
        refine lv_istore_n (lv' := [(3, .int (s_order_36 x1_36.toNatClampNeg)), (2, .int ((((s_drawn_36 * (1664525 : Int32)) + (1013904223 : Int32)).toUInt32 >>> ((1 : Int32).toUInt32 &&& Int32.toUInt32 31)).toInt32 - (((s_drawn_36 * (1664525 : Int32)) + (1013904223 : Int32)).toUInt32 >>> ((1 : Int32).toUInt32 &&& Int32.toUInt32 31)).toInt32 / (x1_36 + (1 : Int32)) * (x1_36 + (1 : Int32)))), (1, .int x1_36), (0, .ref (a_s 0))]) hx hb d_Sp_drawOrder_72 rfl hl (by decide) rfl (fun ls hl => ?_)
        refine lv_aload_n hx hb d_Sp_drawOrder_73 rfl (lv_at hl 3 rfl) ?_
        refine va_get (ci := 4) (v := .ref (a_s 2)) (C := R_Sp) (T := F_Sp) (N := 4) hx hb hal in_Sp hown hK hP 1 rfl rfl 2 (by decide) (hal _ kw_186) (fun _ h9 => h9) rfl d_Sp_drawOrder_74 ?_
        refine lv_iload_n hx hb d_Sp_drawOrder_77 rfl (lv_at hl 2 rfl) ?_
        refine lv_aload_n hx hb d_Sp_drawOrder_78 rfl (lv_at hl 3 rfl) ?_
        refine va_get (ci := 4) (v := .ref (a_s 2)) (C := R_Sp) (T := F_Sp) (N := 4) hx hb hal in_Sp hown hK hP 1 rfl rfl 2 (by decide) (hal _ kw_186) (fun _ h9 => h9) rfl d_Sp_drawOrder_79 ?_
        refine lv_iload_n hx hb d_Sp_drawOrder_82 rfl (lv_at hl 1 rfl) ?_
        obtain ⟨g_4, h⟩ := gd h
        refine va_iald hx hb hK hP 2 0 rfl rfl (inb_in g_4) d_Sp_drawOrder_83 ?_
        refine va_iast hx hb hK hP hD hS 2 0 rfl rfl (inb_in g_3) d_Sp_drawOrder_84 (fun H locs hP hD hS => ?_)
        have hP : va_P D cls9 (wd_Sp_drawOrder cA a_n a_s n_x n_y n_nodes n_aloneB ((s_drawn_36 * (1664525 : Int32)) + (1013904223 : Int32)) (upd s_order_36 x1_36.toNatClampNeg (s_order_36 ((((s_drawn_36 * (1664525 : Int32)) + (1013904223 : Int32)).toUInt32 >>> ((1 : Int32).toUInt32 &&& Int32.toUInt32 31)).toInt32 - (((s_drawn_36 * (1664525 : Int32)) + (1013904223 : Int32)).toUInt32 >>> ((1 : Int32).toUInt32 &&& Int32.toUInt32 31)).toInt32 / (x1_36 + (1 : Int32)) * (x1_36 + (1 : Int32))).toNatClampNeg))) H := hP
        have hD : va_D A (wd_Sp_drawOrder cA a_n a_s n_x n_y n_nodes n_aloneB ((s_drawn_36 * (1664525 : Int32)) + (1013904223 : Int32)) (upd s_order_36 x1_36.toNatClampNeg (s_order_36 ((((s_drawn_36 * (1664525 : Int32)) + (1013904223 : Int32)).toUInt32 >>> ((1 : Int32).toUInt32 &&& Int32.toUInt32 31)).toInt32 - (((s_drawn_36 * (1664525 : Int32)) + (1013904223 : Int32)).toUInt32 >>> ((1 : Int32).toUInt32 &&& Int32.toUInt32 31)).toInt32 / (x1_36 + (1 : Int32)) * (x1_36 + (1 : Int32))).toNatClampNeg))) := hD
        refine lv_aload_n hx hb d_Sp_drawOrder_85 rfl (lv_at hl 3 rfl) ?_
        refine va_get (ci := 4) (v := .ref (a_s 2)) (C := R_Sp) (T := F_Sp) (N := 4) hx hb hal in_Sp hown hK hP 1 rfl rfl 2 (by decide) (hal _ kw_186) (fun _ h9 => h9) rfl d_Sp_drawOrder_86 ?_
        refine lv_iload_n hx hb d_Sp_drawOrder_89 rfl (lv_at hl 1 rfl) ?_
        refine lv_iload_n hx hb d_Sp_drawOrder_90 rfl (lv_at hl 0 rfl) ?_
        refine va_iast hx hb hK hP hD hS 2 0 rfl rfl (inb_in g_4) d_Sp_drawOrder_91 (fun H locs hP hD hS => ?_)
        have hP : va_P D cls9 (wd_Sp_drawOrder cA a_n a_s n_x n_y n_nodes n_aloneB ((s_drawn_36 * (1664525 : Int32)) + (1013904223 : Int32)) (upd (upd s_order_36 x1_36.toNatClampNeg (s_order_36 ((((s_drawn_36 * (1664525 : Int32)) + (1013904223 : Int32)).toUInt32 >>> ((1 : Int32).toUInt32 &&& Int32.toUInt32 31)).toInt32 - (((s_drawn_36 * (1664525 : Int32)) + (1013904223 : Int32)).toUInt32 >>> ((1 : Int32).toUInt32 &&& Int32.toUInt32 31)).toInt32 / (x1_36 + (1 : Int32)) * (x1_36 + (1 : Int32))).toNatClampNeg)) ((((s_drawn_36 * (1664525 : Int32)) + (1013904223 : Int32)).toUInt32 >>> ((1 : Int32).toUInt32 &&& Int32.toUInt32 31)).toInt32 - (((s_drawn_36 * (1664525 : Int32)) + (1013904223 : Int32)).toUInt32 >>> ((1 : Int32).toUInt32 &&& Int32.toUInt32 31)).toInt32 / (x1_36 + (1 : Int32)) * (x1_36 + (1 : Int32))).toNatClampNeg (s_order_36 x1_36.toNatClampNeg))) H := hP
        have hD : va_D A (wd_Sp_drawOrder cA a_n a_s n_x n_y n_nodes n_aloneB ((s_drawn_36 * (1664525 : Int32)) + (1013904223 : Int32)) (upd (upd s_order_36 x1_36.toNatClampNeg (s_order_36 ((((s_drawn_36 * (1664525 : Int32)) + (1013904223 : Int32)).toUInt32 >>> ((1 : Int32).toUInt32 &&& Int32.toUInt32 31)).toInt32 - (((s_drawn_36 * (1664525 : Int32)) + (1013904223 : Int32)).toUInt32 >>> ((1 : Int32).toUInt32 &&& Int32.toUInt32 31)).toInt32 / (x1_36 + (1 : Int32)) * (x1_36 + (1 : Int32))).toNatClampNeg)) ((((s_drawn_36 * (1664525 : Int32)) + (1013904223 : Int32)).toUInt32 >>> ((1 : Int32).toUInt32 &&& Int32.toUInt32 31)).toInt32 - (((s_drawn_36 * (1664525 : Int32)) + (1013904223 : Int32)).toUInt32 >>> ((1 : Int32).toUInt32 &&& Int32.toUInt32 31)).toInt32 / (x1_36 + (1 : Int32)) * (x1_36 + (1 : Int32))).toNatClampNeg (s_order_36 x1_36.toNatClampNeg))) := hD
        refine lv_iinc (v := (x1_36 + (-1))) (lv' := [(1, .int (x1_36 + (-1))), (3, .int (s_order_36 x1_36.toNatClampNeg)), (2, .int ((((s_drawn_36 * (1664525 : Int32)) + (1013904223 : Int32)).toUInt32 >>> ((1 : Int32).toUInt32 &&& Int32.toUInt32 31)).toInt32 - (((s_drawn_36 * (1664525 : Int32)) + (1013904223 : Int32)).toUInt32 >>> ((1 : Int32).toUInt32 &&& Int32.toUInt32 31)).toInt32 / (x1_36 + (1 : Int32)) * (x1_36 + (1 : Int32)))), (0, .ref (a_s 0))]) hx hb d_Sp_drawOrder_92 hl (k := 2) rfl rfl (by decide) rfl (fun ls hl => ?_)
        refine lv_goto (tgt := 36) hx hb d_Sp_drawOrder_95 (by decide) ?_
        exact cast (hG _ _ _ _ _ _ _) (hB_36 ((x1_36 + (-1)), ((s_drawn_36 * (1664525 : Int32)) + (1013904223 : Int32)), (upd (upd s_order_36 x1_36.toNatClampNeg (s_order_36 ((((s_drawn_36 * (1664525 : Int32)) + (1013904223 : Int32)).toUInt32 >>> ((1 : Int32).toUInt32 &&& Int32.toUInt32 31)).toInt32 - (((s_drawn_36 * (1664525 : Int32)) + (1013904223 : Int32)).toUInt32 >>> ((1 : Int32).toUInt32 &&& Int32.toUInt32 31)).toInt32 / (x1_36 + (1 : Int32)) * (x1_36 + (1 : Int32))).toNatClampNeg)) ((((s_drawn_36 * (1664525 : Int32)) + (1013904223 : Int32)).toUInt32 >>> ((1 : Int32).toUInt32 &&& Int32.toUInt32 31)).toInt32 - (((s_drawn_36 * (1664525 : Int32)) + (1013904223 : Int32)).toUInt32 >>> ((1 : Int32).toUInt32 &&& Int32.toUInt32 31)).toInt32 / (x1_36 + (1 : Int32)) * (x1_36 + (1 : Int32))).toNatClampNeg (s_order_36 x1_36.toNatClampNeg))) h _ _ _ hP hD hS (lv_sub hl [0, 3] rfl))
  · intro back exit zz hB_2 hE_2 h H locs ls hP hD hS hl
    obtain ⟨x1_2, s_order_2⟩ := zz
    have hP : va_P D cls9 (wd_Sp_drawOrder cA a_n a_s n_x n_y n_nodes n_aloneB s_drawn s_order_2) H := hP
    have hD : va_D A (wd_Sp_drawOrder cA a_n a_s n_x n_y n_nodes n_aloneB s_drawn s_order_2) := hD
    have hl : lv_has ls 4 [(1, .int x1_2), (0, .ref (a_s 0))] := hl
    refine cast (hG _ _ _ _ _ _ _).symm ?_
    refine lv_iload_n hx hb d_Sp_drawOrder_2 rfl (lv_at hl 0 rfl) ?_
    refine lv_aload_n hx hb d_Sp_drawOrder_3 rfl (lv_at hl 1 rfl) ?_
    refine va_get (ci := 4) (v := .ref (a_n 0)) (C := R_Sp) (T := F_Sp) (N := 4) hx hb hal in_Sp hown hK hP 1 rfl rfl 0 (by decide) (hal _ kw_183) (fun _ h9 => h9) rfl d_Sp_drawOrder_4 ?_
    refine va_get (ci := 0) (v := .int n_nodes) (C := R_Ga) (T := F_Ga) (N := 9) hx hb hal in_Ga hown hK hP 0 rfl rfl 2 (by decide) (hal _ kw_72) (fun _ h9 => h9) rfl d_Sp_drawOrder_7 ?_
    refine lv_icmp_ge (tgt := 26) hx hb d_Sp_drawOrder_10 (by decide) (fun c_5 => ?_) (fun c_5 => ?_)
    · have h := ifp (c_5) h
      exact cast (hG _ _ _ _ _ _ _) (hE_2 (x1_2, s_order_2) h _ _ _ hP hD hS (lv_sub hl [0, 1] rfl))
    · have h := ifn (c_5) h
      refine lv_aload_n hx hb d_Sp_drawOrder_13 rfl (lv_at hl 1 rfl) ?_
      refine va_get (ci := 4) (v := .ref (a_s 2)) (C := R_Sp) (T := F_Sp) (N := 4) hx hb hal in_Sp hown hK hP 1 rfl rfl 2 (by decide) (hal _ kw_186) (fun _ h9 => h9) rfl d_Sp_drawOrder_14 ?_
      refine lv_iload_n hx hb d_Sp_drawOrder_17 rfl (lv_at hl 0 rfl) ?_
      refine lv_iload_n hx hb d_Sp_drawOrder_18 rfl (lv_at hl 0 rfl) ?_
      obtain ⟨g_6, h⟩ := gd h
      refine va_iast hx hb hK hP hD hS 2 0 rfl rfl (inb_in g_6) d_Sp_drawOrder_19 (fun H locs hP hD hS => ?_)
      have hP : va_P D cls9 (wd_Sp_drawOrder cA a_n a_s n_x n_y n_nodes n_aloneB s_drawn (upd s_order_2 x1_2.toNatClampNeg x1_2)) H := hP
      have hD : va_D A (wd_Sp_drawOrder cA a_n a_s n_x n_y n_nodes n_aloneB s_drawn (upd s_order_2 x1_2.toNatClampNeg x1_2)) := hD
      refine lv_iinc (v := (x1_2 + 1)) (lv' := [(1, .int (x1_2 + 1)), (0, .ref (a_s 0))]) hx hb d_Sp_drawOrder_20 hl (k := 0) rfl rfl (by decide) rfl (fun ls hl => ?_)
      refine lv_goto (tgt := 2) hx hb d_Sp_drawOrder_23 (by decide) ?_
      exact cast (hG _ _ _ _ _ _ _) (hB_2 ((x1_2 + 1), (upd s_order_2 x1_2.toNatClampNeg x1_2)) h _ _ _ hP hD hS (lv_sub hl [0, 1] rfl))
def wd_Sp_run (cA : Nat → ClassId) (a_n a_s : Nat → Nat) (n_x : Int32) (n_y : Int32) (n_nodes : Int32) (n_aloneB : Int64) (n_link : Nat → Nat → Int32) (n_near : Nat → Int32) (s_drawn : Int32) (s_labels : Nat → Int32) (s_order : Nat → Int32) : va_W := [(a_n 0, .inr (0, [.int n_x, .int n_y, .int n_nodes, .long n_aloneB, .ref (a_n 1), .ref (a_n 11), .ref (a_n 21), .ref (a_n 31), .ref (a_n 32)])), (a_n 21, .inl (cA 3, 9, .inr (.inr (.inr (.inr (fun i => if i < 9 then some (a_n (i + 22)) else none)))))), (a_n (0 + 22), .inl (cA 0, 9, .inl (n_link 0))), (a_n (1 + 22), .inl (cA 0, 9, .inl (n_link 1))), (a_n (2 + 22), .inl (cA 0, 9, .inl (n_link 2))), (a_n (3 + 22), .inl (cA 0, 9, .inl (n_link 3))), (a_n (4 + 22), .inl (cA 0, 9, .inl (n_link 4))), (a_n (5 + 22), .inl (cA 0, 9, .inl (n_link 5))), (a_n (6 + 22), .inl (cA 0, 9, .inl (n_link 6))), (a_n (7 + 22), .inl (cA 0, 9, .inl (n_link 7))), (a_n (8 + 22), .inl (cA 0, 9, .inl (n_link 8))), (a_n 31, .inl (cA 0, 9, .inl n_near)), (a_s 0, .inr (4, [.ref (a_n 0), .ref (a_s 1), .ref (a_s 2), .int s_drawn])), (a_s 1, .inl (cA 0, 9, .inl s_labels)), (a_s 2, .inl (cA 0, 9, .inl s_order))]
theorem row_Sp_run_n_link {cA : Nat → ClassId} {a_n a_s : Nat → Nat} {n_x : Int32} {n_y : Int32} {n_nodes : Int32} {n_aloneB : Int64} {n_near : Nat → Int32} {s_drawn : Int32} {s_labels : Nat → Int32} {s_order : Nat → Int32} (n_link : Nat → Nat → Int32) (k : Nat) (hk : k < 9) : (wd_Sp_run cA a_n a_s n_x n_y n_nodes n_aloneB n_link n_near s_drawn s_labels s_order)[2 + k]? = some (a_n (k + 22), .inl (cA 0, 9, .inl (n_link k))) := by
  rcases lt9 hk with rfl | rfl | rfl | rfl | rfl | rfl | rfl | rfl | rfl <;> rfl
theorem set_Sp_run_n_link {cA : Nat → ClassId} {a_n a_s : Nat → Nat} {n_x : Int32} {n_y : Int32} {n_nodes : Int32} {n_aloneB : Int64} {n_near : Nat → Int32} {s_drawn : Int32} {s_labels : Nat → Int32} {s_order : Nat → Int32} {n_link : Nat → Nat → Int32} {f : Nat → Int32} (k : Nat) (hk : k < 9) : (wd_Sp_run cA a_n a_s n_x n_y n_nodes n_aloneB n_link n_near s_drawn s_labels s_order).set (2 + k) (a_n (k + 22), .inl (cA 0, 9, .inl f)) = wd_Sp_run cA a_n a_s n_x n_y n_nodes n_aloneB (va_up n_link k f) n_near s_drawn s_labels s_order := by
  rcases lt9 hk with rfl | rfl | rfl | rfl | rfl | rfl | rfl | rfl | rfl <;> rfl
noncomputable def s_Sp_run_38 (n_link : Nat → Nat → Int32) (n_near : Nat → Int32) (n_nodes : Int32) (zz : Int32 × Int32 × Int32 × Int32 × (Nat → Int32) × (Nat → Int32)) (back exit : (Int32 × Int32 × Int32 × Int32 × (Nat → Int32) × (Nat → Int32)) → Option (Int32 × Int32 × (Nat → Int32) × (Nat → Int32))) : Option (Int32 × Int32 × (Nat → Int32) × (Nat → Int32)) :=
  (if zz.2.1 = 0 then (exit (zz.1, zz.2.1, zz.2.2.1, zz.2.2.2.1, zz.2.2.2.2.1, zz.2.2.2.2.2)) else (if (20 : Int32) ≤ zz.2.2.1 then (exit (zz.1, zz.2.1, zz.2.2.1, zz.2.2.2.1, zz.2.2.2.2.1, zz.2.2.2.2.2)) else ((m_Sp_drawOrder n_nodes zz.2.2.2.1 zz.2.2.2.2.2).bind (fun r50 : Int32 × (Nat → Int32) => ((m_Sp_relabelAll n_nodes n_link n_near zz.2.2.2.2.1 r50.2).bind (fun r54 : Int32 × (Nat → Int32) => (back ((zz.1 + 1), r54.1, (zz.2.2.1 + 1), r50.1, r54.2, r50.2))))))))
noncomputable def s_Sp_run_7 (n_nodes : Int32) (zz : Int32 × (Nat → Int32)) (back exit : (Int32 × (Nat → Int32)) → Option (Int32 × Int32 × (Nat → Int32) × (Nat → Int32))) : Option (Int32 × Int32 × (Nat → Int32) × (Nat → Int32)) :=
  (if n_nodes ≤ zz.1 then (exit (zz.1, zz.2)) else (if inb zz.1 9 then (back ((zz.1 + 1), (upd zz.2 zz.1.toNatClampNeg zz.1))) else none))
noncomputable def m_Sp_run (n_nodes : Int32) (n_link : Nat → Nat → Int32) (n_near : Nat → Int32) (s_labels : Nat → Int32) (s_order : Nat → Int32) (v1 : Int32) : Option (Int32 × Int32 × (Nat → Int32) × (Nat → Int32)) :=
  (loopC (s_Sp_run_7 n_nodes) (fun z7 : Int32 × (Nat → Int32) => (loopC (s_Sp_run_38 n_link n_near n_nodes) (fun z38 : Int32 × Int32 × Int32 × Int32 × (Nat → Int32) × (Nat → Int32) => some (z38.1, z38.2.2.2.1, z38.2.2.2.2.1, z38.2.2.2.2.2)) FU ((0 : Int32), (1 : Int32), (0 : Int32), v1, z7.2, s_order))) FU ((0 : Int32), s_labels))
set_option maxHeartbeats 4000000 in
set_option maxRecDepth 100000 in
theorem c_Sp_run (l : Launch) (D : va_G) (cA : Nat → ClassId) (a_n a_s : Nat → Nat) (sz : Nat) (n_x : Int32) (n_y : Int32) (n_nodes : Int32) (n_aloneB : Int64) (n_link : Nat → Nat → Int32) (n_near : Nat → Int32) (s_drawn : Int32) (s_labels : Nat → Int32) (s_order : Nat → Int32) (v1 : Int32) (out : Int32 × Int32 × (Nat → Int32) × (Nat → Int32)) (h : m_Sp_run n_nodes n_link n_near s_labels s_order v1 = some out) : Met l y_Sp_run w_Sp_run ({ frames := 3, cells := 0, slots := 0, locals := 75 }) (va_Pc [.ref (a_s 0), .int v1] (fun U => U.heap.size = sz ∧ va_P D cls9 (wd_Sp_run cA a_n a_s n_x n_y n_nodes n_aloneB n_link n_near s_drawn s_labels s_order) U.heap ∧ va_K D cls9 (tys5 cA) U ∧ va_D (fun _ => True) (wd_Sp_run cA a_n a_s n_x n_y n_nodes n_aloneB n_link n_near s_drawn s_labels s_order))) (va_Qi (fun (rr : Int32) (uu : Int32 × (Nat → Int32) × (Nat → Int32)) => (rr, uu) = out) (fun (uu : Int32 × (Nat → Int32) × (Nat → Int32)) (t : State) => va_P D cls9 (wd_Sp_run cA a_n a_s n_x n_y n_nodes n_aloneB n_link n_near uu.1 uu.2.1 uu.2.2) t.heap ∧ va_K D cls9 (tys5 cA) t ∧ va_D (va_A (wd_Sp_run cA a_n a_s n_x n_y n_nodes n_aloneB n_link n_near s_drawn s_labels s_order) sz) (wd_Sp_run cA a_n a_s n_x n_y n_nodes n_aloneB n_link n_near uu.1 uu.2.1 uu.2.2)) (va_A (wd_Sp_run cA a_n a_s n_x n_y n_nodes n_aloneB n_link n_near s_drawn s_labels s_order) sz)) 0 0 (va_A (wd_Sp_run cA a_n a_s n_x n_y n_nodes n_aloneB n_link n_near s_drawn s_labels s_order) sz) := by
  refine Met.ofW (cc := b_Sp_run) (maxL := 5) (ret := (Option.some Jvm.ClassFile.FieldType.int)) (by decide) rfl ?_
  intro p e s m args below meth c s₁ B hml hv
  obtain ⟨rfl, hsz, hP, hK, hD0⟩ := hv
  have hx := B.exec
  have hb := B.bytes
  have hr := B.returns
  have hts := atoms_spec (ws := w_Sp_run) B.pre
  have hal : ∀ w ∈ ALLW, w.before _ s = true := fun w hw => hts w (List.mem_cons_of_mem _ hw)
  have hown : s.vm.findClass R_Sp = some m.cls := findClass_of_methodNamed B.named
  have hlocks := B.notSynchronized
  subst hsz
  have hD := hD0.self (sz := s.heap.size)
  generalize hAe : va_A (wd_Sp_run cA a_n a_s n_x n_y n_nodes n_aloneB n_link n_near s_drawn s_labels s_order) s.heap.size = A at hD ⊢
  have hA : ∀ q : Nat, s.heap.size ≤ q → A q := fun q h => by rw [← hAe]; exact Or.inr h
  have hS : va_S A s.heap s.heap [] := va_S.rf
  have hl := lv_entry ([.ref (a_s 0), .int v1]) (n := 5) (Nat.le_of_ble_eq_true rfl)
  rw [lg_entry_eq]
  generalize (lg_sl ([.ref (a_s 0), .int v1]) ++ List.replicate (5 - (lg_sl ([.ref (a_s 0), .int v1])).length) Slot.unset).toArray = ls at hl ⊢
  have hl : lv_has ls 5 [(0, .ref (a_s 0)), (1, .int v1)] := hl
  refine wg (fun G hG => ?_)
  refine cast (hG _ _ _ _ _ _ _).symm ?_
  obtain ⟨H, locs, hHl, hS⟩ : ∃ (H : Heap) (locs : List Loc), (H = s.heap ∧ locs = []) ∧ va_S A s.heap H locs := ⟨s.heap, [], ⟨rfl, rfl⟩, hS⟩
  have hP : va_P D cls9 (wd_Sp_run cA a_n a_s n_x n_y n_nodes n_aloneB n_link n_near s_drawn s_labels s_order) H := by rw [hHl.1]; exact hP
  rw [← hHl.1, ← hHl.2]
  clear hHl
  refine lv_aload_n hx hb d_Sp_run_0 rfl (lv_at hl 0 rfl) ?_
  refine lv_iload_n hx hb d_Sp_run_1 rfl (lv_at hl 1 rfl) ?_
  refine va_put (ci := 4) (v := .int v1) (ty := .int) (C := R_Sp) (T := F_Sp) (N := 4) hx hb hal in_Sp t_Sp t_Sp_ok n_Sp hown hK hP hD hS 12 rfl rfl 3 (by decide) (hal _ kw_187) (fun _ h9 => h9) rfl (by decide +kernel) rfl rfl (Nat.le_of_ble_eq_true rfl) d_Sp_run_2 (fun H locs hP hD hS => ?_)
  have hP : va_P D cls9 (wd_Sp_run cA a_n a_s n_x n_y n_nodes n_aloneB n_link n_near v1 s_labels s_order) H := hP
  have hD : va_D A (wd_Sp_run cA a_n a_s n_x n_y n_nodes n_aloneB n_link n_near v1 s_labels s_order) := hD
  refine lv_iconst (v := 0) hx hb d_Sp_run_5 (by decide) ?_
  refine lv_istore_n (lv' := [(2, .int (0 : Int32)), (0, .ref (a_s 0)), (1, .int v1)]) hx hb d_Sp_run_6 rfl hl (by decide) rfl (fun ls hl => ?_)
  refine cast (hG _ _ _ _ _ _ _) (lp_go2 h (fun zz : Int32 × (Nat → Int32) => ∀ (H : Heap) (locs : List Loc) (ls : Array Slot), va_P D cls9 (wd_Sp_run cA a_n a_s n_x n_y n_nodes n_aloneB n_link n_near v1 zz.2 s_order) H → va_D A (wd_Sp_run cA a_n a_s n_x n_y n_nodes n_aloneB n_link n_near v1 zz.2 s_order) → va_S A s.heap H locs → lv_has ls 5 [(2, .int zz.1), (0, .ref (a_s 0)), (1, .int v1)] → G H locs 0 0 ls 31 []) ?_ (fun zz : Int32 × (Nat → Int32) => ∀ (H : Heap) (locs : List Loc) (ls : Array Slot), va_P D cls9 (wd_Sp_run cA a_n a_s n_x n_y n_nodes n_aloneB n_link n_near v1 zz.2 s_order) H → va_D A (wd_Sp_run cA a_n a_s n_x n_y n_nodes n_aloneB n_link n_near v1 zz.2 s_order) → va_S A s.heap H locs → lv_has ls 5 [(2, .int zz.1), (0, .ref (a_s 0)), (1, .int v1)] → G H locs 0 0 ls 7 []) ?_ _ _ ls hP hD hS (lv_sub hl [0, 1, 2] rfl))
  · intro zz h H locs ls hP hD hS hl
    obtain ⟨x2_7e, s_labels_7e⟩ := zz
    have hP : va_P D cls9 (wd_Sp_run cA a_n a_s n_x n_y n_nodes n_aloneB n_link n_near v1 s_labels_7e s_order) H := hP
    have hD : va_D A (wd_Sp_run cA a_n a_s n_x n_y n_nodes n_aloneB n_link n_near v1 s_labels_7e s_order) := hD
    have hl : lv_has ls 5 [(2, .int x2_7e), (0, .ref (a_s 0)), (1, .int v1)] := hl
    refine cast (hG _ _ _ _ _ _ _).symm ?_
    refine lv_iconst (v := 0) hx hb d_Sp_run_31 (by decide) ?_
    refine lv_istore_n (lv' := [(2, .int (0 : Int32)), (0, .ref (a_s 0)), (1, .int v1)]) hx hb d_Sp_run_32 rfl hl (by decide) rfl (fun ls hl => ?_)
    refine lv_iconst (v := 1) hx hb d_Sp_run_33 (by decide) ?_
    refine lv_istore_n (lv' := [(3, .int (1 : Int32)), (2, .int (0 : Int32)), (0, .ref (a_s 0)), (1, .int v1)]) hx hb d_Sp_run_34 rfl hl (by decide) rfl (fun ls hl => ?_)
    refine lv_iconst (v := 0) hx hb d_Sp_run_35 (by decide) ?_
    refine lv_istore (lv' := [(4, .int (0 : Int32)), (3, .int (1 : Int32)), (2, .int (0 : Int32)), (0, .ref (a_s 0)), (1, .int v1)]) hx hb d_Sp_run_36 hl (by decide) rfl (fun ls hl => ?_)
    refine cast (hG _ _ _ _ _ _ _) (lp_go2 h (fun zz : Int32 × Int32 × Int32 × Int32 × (Nat → Int32) × (Nat → Int32) => ∀ (H : Heap) (locs : List Loc) (ls : Array Slot), va_P D cls9 (wd_Sp_run cA a_n a_s n_x n_y n_nodes n_aloneB n_link n_near zz.2.2.2.1 zz.2.2.2.2.1 zz.2.2.2.2.2) H → va_D A (wd_Sp_run cA a_n a_s n_x n_y n_nodes n_aloneB n_link n_near zz.2.2.2.1 zz.2.2.2.2.1 zz.2.2.2.2.2) → va_S A s.heap H locs → lv_has ls 5 [(4, .int zz.2.2.1), (3, .int zz.2.1), (2, .int zz.1), (0, .ref (a_s 0)), (1, .int v1)] → G H locs 0 0 ls 67 []) ?_ (fun zz : Int32 × Int32 × Int32 × Int32 × (Nat → Int32) × (Nat → Int32) => ∀ (H : Heap) (locs : List Loc) (ls : Array Slot), va_P D cls9 (wd_Sp_run cA a_n a_s n_x n_y n_nodes n_aloneB n_link n_near zz.2.2.2.1 zz.2.2.2.2.1 zz.2.2.2.2.2) H → va_D A (wd_Sp_run cA a_n a_s n_x n_y n_nodes n_aloneB n_link n_near zz.2.2.2.1 zz.2.2.2.2.1 zz.2.2.2.2.2) → va_S A s.heap H locs → lv_has ls 5 [(4, .int zz.2.2.1), (3, .int zz.2.1), (2, .int zz.1), (0, .ref (a_s 0)), (1, .int v1)] → G H locs 0 0 ls 38 []) ?_ _ _ ls hP hD hS (lv_sub hl [0, 1, 2, 3, 4] rfl))
    · intro zz h H locs ls hP hD hS hl
      obtain ⟨x2_38e, x3_38e, x4_38e, s_drawn_38e, s_labels_38e, s_order_38e⟩ := zz
      have hP : va_P D cls9 (wd_Sp_run cA a_n a_s n_x n_y n_nodes n_aloneB n_link n_near s_drawn_38e s_labels_38e s_order_38e) H := hP
      have hD : va_D A (wd_Sp_run cA a_n a_s n_x n_y n_nodes n_aloneB n_link n_near s_drawn_38e s_labels_38e s_order_38e) := hD
      have hl : lv_has ls 5 [(4, .int x4_38e), (3, .int x3_38e), (2, .int x2_38e), (0, .ref (a_s 0)), (1, .int v1)] := hl
      refine cast (hG _ _ _ _ _ _ _).symm ?_
      refine lv_iload_n hx hb d_Sp_run_67 rfl (lv_at hl 2 rfl) ?_
      exact W.iret (v := x2_38e) hx hb hr (fun t ht hW => ⟨⟨x2_38e, (s_drawn_38e, s_labels_38e, s_order_38e), rfl, Option.some.inj h, by rw [ht]; exact hP, va_K.moved hW.alike hK, hD⟩, hS.F ht⟩) hS.2.2 d_Sp_run_68
    · intro back exit zz hB_38 hE_38 h H locs ls hP hD hS hl
      obtain ⟨x2_38, x3_38, x4_38, s_drawn_38, s_labels_38, s_order_38⟩ := zz
      have hP : va_P D cls9 (wd_Sp_run cA a_n a_s n_x n_y n_nodes n_aloneB n_link n_near s_drawn_38 s_labels_38 s_order_38) H := hP
      have hD : va_D A (wd_Sp_run cA a_n a_s n_x n_y n_nodes n_aloneB n_link n_near s_drawn_38 s_labels_38 s_order_38) := hD
      have hl : lv_has ls 5 [(4, .int x4_38), (3, .int x3_38), (2, .int x2_38), (0, .ref (a_s 0)), (1, .int v1)] := hl
      refine cast (hG _ _ _ _ _ _ _).symm ?_
      refine lv_iload_n hx hb d_Sp_run_38 rfl (lv_at hl 1 rfl) ?_
      refine lv_if_eq (tgt := 67) hx hb d_Sp_run_39 (by decide) (fun c_1 => ?_) (fun c_1 => ?_)
      · have h := ifp (c_1) h
        exact cast (hG _ _ _ _ _ _ _) (hE_38 (x2_38, x3_38, x4_38, s_drawn_38, s_labels_38, s_order_38) h _ _ _ hP hD hS (lv_sub hl [0, 1, 2, 3, 4] rfl))
      · have h := ifn (c_1) h
        refine lv_iload hx hb d_Sp_run_42 (lv_at hl 0 rfl) ?_
        refine lv_bipush (v := 20) hx hb d_Sp_run_44 (by decide) ?_
        refine lv_icmp_ge (tgt := 67) hx hb d_Sp_run_46 (by decide) (fun c_2 => ?_) (fun c_2 => ?_)
        · have h := ifp (c_2) h
          exact cast (hG _ _ _ _ _ _ _) (hE_38 (x2_38, x3_38, x4_38, s_drawn_38, s_labels_38, s_order_38) h _ _ _ hP hD hS (lv_sub hl [0, 1, 2, 3, 4] rfl))
        · have h := ifn (c_2) h
          refine lv_aload_n hx hb d_Sp_run_49 rfl (lv_at hl 3 rfl) ?_
          obtain ⟨o_8, hc_7, h⟩ := bd h
          have hPc := hP.sub (ws' := (wd_Sp_drawOrder cA a_n a_s n_x n_y n_nodes n_aloneB s_drawn_38 s_order_38)) [0, 12, 14] rfl
          have hDc := hD.sub (ws' := (wd_Sp_drawOrder cA a_n a_s n_x n_y n_nodes n_aloneB s_drawn_38 s_order_38)) [0, 12, 14] (by decide) rfl
          have hFc := va_free (wc := (wd_Sp_drawOrder cA a_n a_s n_x n_y n_nodes n_aloneB s_drawn_38 s_order_38)) hD hS hA [0, 12, 14] rfl
          refine va_callv (va_runV (C := R_Sp) (As := []) (rest := []) ⟨hx, hb, hml, hown, hal⟩ (c_Sp_drawOrder l D cA a_n a_s H.size n_x n_y n_nodes n_aloneB s_drawn_38 s_order_38 o_8 hc_7) (cwV 0 hal (goodV kw_531 kw_533 kw_p14 kw_7 kw_534) rfl rfl rfl (by decide +kernel) ⟨Nat.le_of_ble_eq_true rfl, Nat.le_of_ble_eq_true rfl⟩) ⟨fun a U g mk q => by obtain ⟨q0, q1, qP, qK, qD⟩ := q; exact ⟨q0, q1, qP, va_K.moved (u := U) (U := U.calling g mk a) (Vm.Alike.refl U.vm) qK, qD⟩, va_recv hK hP (ci := 4) (q0 := 12) rfl rfl, fun U hU hW => ⟨rfl, by rw [hU], by rw [hU]; exact hPc, va_K.moved hW.alike hK, hDc.weaken (fun _ _ _ _ => trivial)⟩⟩ rfl rfl hl.1 rfl (lv_room (Nat.le_of_ble_eq_true rfl)) d_Sp_run_50 ⟨Nat.le_of_ble_eq_true rfl, Nat.le_of_ble_eq_true rfl⟩) hS (fun q _ h => hFc q h) hFc (fun u t H1 locs ht hvm hw hB hz1 hk1 hS => ?_)
          obtain ⟨u_5, u_6⟩ := u
          subst hw
          obtain ⟨hP1, hK1, hD1⟩ := hB
          rw [ht] at hP1
          have hP1 : va_P D cls9 (wd_Sp_drawOrder cA a_n a_s n_x n_y n_nodes n_aloneB u_5 u_6) H1 := hP1
          obtain ⟨hP, hD⟩ := va_join (wr := ([1, 2, 3, 4, 5, 6, 7, 8, 9, 10, 11, 13] : List Nat).filterMap (fun i => (wd_Sp_run cA a_n a_s n_x n_y n_nodes n_aloneB n_link n_near s_drawn_38 s_labels_38 s_order_38)[i]?)) (w1 := (wd_Sp_drawOrder cA a_n a_s n_x n_y n_nodes n_aloneB u_5 u_6)) hP hD [0, 12, 14] [1, 2, 3, 4, 5, 6, 7, 8, 9, 10, 11, 13] rfl rfl (by decide) (by decide) hk1 hFc hP1 hD1
          generalize H1 = H at hP hS ⊢
          have hP : va_P D cls9 (wd_Sp_run cA a_n a_s n_x n_y n_nodes n_aloneB n_link n_near u_5 s_labels_38 u_6) H := hP.sub [12, 0, 1, 2, 3, 4, 5, 6, 7, 8, 9, 10, 13, 11, 14] rfl
          have hD : va_D A (wd_Sp_run cA a_n a_s n_x n_y n_nodes n_aloneB n_link n_near u_5 s_labels_38 u_6) := hD.sub [12, 0, 1, 2, 3, 4, 5, 6, 7, 8, 9, 10, 13, 11, 14] (by decide) rfl
          refine lv_aload_n hx hb d_Sp_run_53 rfl (lv_at hl 3 rfl) ?_
          obtain ⟨o_13, hc_12, h⟩ := bd h
          have hPc := hP.sub (ws' := (wd_Sp_relabelAll cA a_n a_s n_x n_y n_nodes n_aloneB n_link n_near u_5 s_labels_38 u_6)) [0, 1, 2, 3, 4, 5, 6, 7, 8, 9, 10, 11, 12, 13, 14] rfl
          have hDc := hD.sub (ws' := (wd_Sp_relabelAll cA a_n a_s n_x n_y n_nodes n_aloneB n_link n_near u_5 s_labels_38 u_6)) [0, 1, 2, 3, 4, 5, 6, 7, 8, 9, 10, 11, 12, 13, 14] (by decide) rfl
          have hFc := va_free (wc := (wd_Sp_relabelAll cA a_n a_s n_x n_y n_nodes n_aloneB n_link n_near u_5 s_labels_38 u_6)) hD hS hA [0, 1, 2, 3, 4, 5, 6, 7, 8, 9, 10, 11, 12, 13, 14] rfl
          refine va_calli (va_runV (C := R_Sp) (As := []) (rest := []) ⟨hx, hb, hml, hown, hal⟩ (c_Sp_relabelAll l D cA a_n a_s H.size n_x n_y n_nodes n_aloneB n_link n_near u_5 s_labels_38 u_6 o_13 hc_12) (cwV 0 hal (goodV kw_537 kw_539 kw_p15 kw_7 kw_540) rfl rfl rfl (by decide +kernel) ⟨Nat.le_of_ble_eq_true rfl, Nat.le_of_ble_eq_true rfl⟩) ⟨fun a U g mk q => by obtain ⟨q0, q1, qP, qK, qD⟩ := q; exact ⟨q0, q1, qP, va_K.moved (u := U) (U := U.calling g mk a) (Vm.Alike.refl U.vm) qK, qD⟩, va_recv hK hP (ci := 4) (q0 := 12) rfl rfl, fun U hU hW => ⟨rfl, by rw [hU], by rw [hU]; exact hPc, va_K.moved hW.alike hK, hDc.weaken (fun _ _ _ _ => trivial)⟩⟩ rfl rfl hl.1 rfl (lv_room (Nat.le_of_ble_eq_true rfl)) d_Sp_run_54 ⟨Nat.le_of_ble_eq_true rfl, Nat.le_of_ble_eq_true rfl⟩) hS (fun q _ h => hFc q h) hFc (fun r_10 u t H1 locs ht hvm hw hB hz1 hk1 hS => ?_)
          obtain ⟨u_11, rfl⟩ : ∃ q, q = u := ⟨_, rfl⟩
          subst hw
          obtain ⟨hP1, hK1, hD1⟩ := hB
          rw [ht] at hP1
          have hP1 : va_P D cls9 (wd_Sp_relabelAll cA a_n a_s n_x n_y n_nodes n_aloneB n_link n_near u_5 u_11 u_6) H1 := hP1
          obtain ⟨hP, hD⟩ := va_join (wr := ([] : List Nat).filterMap (fun i => (wd_Sp_run cA a_n a_s n_x n_y n_nodes n_aloneB n_link n_near u_5 s_labels_38 u_6)[i]?)) (w1 := (wd_Sp_relabelAll cA a_n a_s n_x n_y n_nodes n_aloneB n_link n_near u_5 u_11 u_6)) hP hD [0, 1, 2, 3, 4, 5, 6, 7, 8, 9, 10, 11, 12, 13, 14] [] rfl rfl (by decide) (by decide) hk1 hFc hP1 hD1
          generalize H1 = H at hP hS ⊢
          have hP : va_P D cls9 (wd_Sp_run cA a_n a_s n_x n_y n_nodes n_aloneB n_link n_near u_5 u_11 u_6) H := hP.sub [0, 1, 2, 3, 4, 5, 6, 7, 8, 9, 10, 11, 12, 13, 14] rfl
          have hD : va_D A (wd_Sp_run cA a_n a_s n_x n_y n_nodes n_aloneB n_link n_near u_5 u_11 u_6) := hD.sub [0, 1, 2, 3, 4, 5, 6, 7, 8, 9, 10, 11, 12, 13, 14] (by decide) rfl
          refine lv_istore_n (lv' := [(3, .int r_10), (4, .int x4_38), (2, .int x2_38), (0, .ref (a_s 0)), (1, .int v1)]) hx hb d_Sp_run_57 rfl hl (by decide) rfl (fun ls hl => ?_)
          refine lv_iinc (v := (x2_38 + 1)) (lv' := [(2, .int (x2_38 + 1)), (3, .int r_10), (4, .int x4_38), (0, .ref (a_s 0)), (1, .int v1)]) hx hb d_Sp_run_58 hl (k := 2) rfl rfl (by decide) rfl (fun ls hl => ?_)
          refine lv_iinc (v := (x4_38 + 1)) (lv' := [(4, .int (x4_38 + 1)), (2, .int (x2_38 + 1)), (3, .int r_10), (0, .ref (a_s 0)), (1, .int v1)]) hx hb d_Sp_run_61 hl (k := 2) rfl rfl (by decide) rfl (fun ls hl => ?_)
          refine lv_goto (tgt := 38) hx hb d_Sp_run_64 (by decide) ?_
          exact cast (hG _ _ _ _ _ _ _) (hB_38 ((x2_38 + 1), r_10, (x4_38 + 1), u_5, u_11, u_6) h _ _ _ hP hD hS (lv_sub hl [0, 2, 1, 3, 4] rfl))
  · intro back exit zz hB_7 hE_7 h H locs ls hP hD hS hl
    obtain ⟨x2_7, s_labels_7⟩ := zz
    have hP : va_P D cls9 (wd_Sp_run cA a_n a_s n_x n_y n_nodes n_aloneB n_link n_near v1 s_labels_7 s_order) H := hP
    have hD : va_D A (wd_Sp_run cA a_n a_s n_x n_y n_nodes n_aloneB n_link n_near v1 s_labels_7 s_order) := hD
    have hl : lv_has ls 5 [(2, .int x2_7), (0, .ref (a_s 0)), (1, .int v1)] := hl
    refine cast (hG _ _ _ _ _ _ _).symm ?_
    refine lv_iload_n hx hb d_Sp_run_7 rfl (lv_at hl 0 rfl) ?_
    refine lv_aload_n hx hb d_Sp_run_8 rfl (lv_at hl 1 rfl) ?_
    refine va_get (ci := 4) (v := .ref (a_n 0)) (C := R_Sp) (T := F_Sp) (N := 4) hx hb hal in_Sp hown hK hP 12 rfl rfl 0 (by decide) (hal _ kw_183) (fun _ h9 => h9) rfl d_Sp_run_9 ?_
    refine va_get (ci := 0) (v := .int n_nodes) (C := R_Ga) (T := F_Ga) (N := 9) hx hb hal in_Ga hown hK hP 0 rfl rfl 2 (by decide) (hal _ kw_72) (fun _ h9 => h9) rfl d_Sp_run_12 ?_
    refine lv_icmp_ge (tgt := 31) hx hb d_Sp_run_15 (by decide) (fun c_14 => ?_) (fun c_14 => ?_)
    · have h := ifp (c_14) h
      exact cast (hG _ _ _ _ _ _ _) (hE_7 (x2_7, s_labels_7) h _ _ _ hP hD hS (lv_sub hl [0, 1, 2] rfl))
    · have h := ifn (c_14) h
      refine lv_aload_n hx hb d_Sp_run_18 rfl (lv_at hl 1 rfl) ?_
      refine va_get (ci := 4) (v := .ref (a_s 1)) (C := R_Sp) (T := F_Sp) (N := 4) hx hb hal in_Sp hown hK hP 12 rfl rfl 1 (by decide) (hal _ kw_184) (fun _ h9 => h9) rfl d_Sp_run_19 ?_
      refine lv_iload_n hx hb d_Sp_run_22 rfl (lv_at hl 0 rfl) ?_
      refine lv_iload_n hx hb d_Sp_run_23 rfl (lv_at hl 0 rfl) ?_
      obtain ⟨g_15, h⟩ := gd h
      refine va_iast hx hb hK hP hD hS 13 0 rfl rfl (inb_in g_15) d_Sp_run_24 (fun H locs hP hD hS => ?_)
      have hP : va_P D cls9 (wd_Sp_run cA a_n a_s n_x n_y n_nodes n_aloneB n_link n_near v1 (upd s_labels_7 x2_7.toNatClampNeg x2_7) s_order) H := hP
      have hD : va_D A (wd_Sp_run cA a_n a_s n_x n_y n_nodes n_aloneB n_link n_near v1 (upd s_labels_7 x2_7.toNatClampNeg x2_7) s_order) := hD
      refine lv_iinc (v := (x2_7 + 1)) (lv' := [(2, .int (x2_7 + 1)), (0, .ref (a_s 0)), (1, .int v1)]) hx hb d_Sp_run_25 hl (k := 0) rfl rfl (by decide) rfl (fun ls hl => ?_)
      refine lv_goto (tgt := 7) hx hb d_Sp_run_28 (by decide) ?_
      exact cast (hG _ _ _ _ _ _ _) (hB_7 ((x2_7 + 1), (upd s_labels_7 x2_7.toNatClampNeg x2_7)) h _ _ _ hP hD hS (lv_sub hl [0, 1, 2] rfl))
