def wd_Ga_forgetLinks (cA : Nat → ClassId) (a_n : Nat → Nat) (n_x : Int32) (n_y : Int32) (n_nodes : Int32) (n_aloneB : Int64) (n_link : Nat → Nat → Int32) (n_near : Nat → Int32) (n_has : Nat → Int64) : va_W := [(a_n 0, .inr (0, [.int n_x, .int n_y, .int n_nodes, .long n_aloneB, .ref (a_n 1), .ref (a_n 11), .ref (a_n 21), .ref (a_n 31), .ref (a_n 32)])), (a_n 21, .inl (cA 3, 9, .inr (.inr (.inr (.inr (fun i => if i < 9 then some (a_n (i + 22)) else none)))))), (a_n (0 + 22), .inl (cA 0, 9, .inl (n_link 0))), (a_n (1 + 22), .inl (cA 0, 9, .inl (n_link 1))), (a_n (2 + 22), .inl (cA 0, 9, .inl (n_link 2))), (a_n (3 + 22), .inl (cA 0, 9, .inl (n_link 3))), (a_n (4 + 22), .inl (cA 0, 9, .inl (n_link 4))), (a_n (5 + 22), .inl (cA 0, 9, .inl (n_link 5))), (a_n (6 + 22), .inl (cA 0, 9, .inl (n_link 6))), (a_n (7 + 22), .inl (cA 0, 9, .inl (n_link 7))), (a_n (8 + 22), .inl (cA 0, 9, .inl (n_link 8))), (a_n 31, .inl (cA 0, 9, .inl n_near)), (a_n 32, .inl (cA 1, 9, .inr (.inl n_has)))]
theorem row_Ga_forgetLinks_n_link {cA : Nat → ClassId} {a_n : Nat → Nat} {n_x : Int32} {n_y : Int32} {n_nodes : Int32} {n_aloneB : Int64} {n_near : Nat → Int32} {n_has : Nat → Int64} (n_link : Nat → Nat → Int32) (k : Nat) (hk : k < 9) : (wd_Ga_forgetLinks cA a_n n_x n_y n_nodes n_aloneB n_link n_near n_has)[2 + k]? = some (a_n (k + 22), .inl (cA 0, 9, .inl (n_link k))) := by
  rcases lt9 hk with rfl | rfl | rfl | rfl | rfl | rfl | rfl | rfl | rfl <;> rfl
theorem set_Ga_forgetLinks_n_link {cA : Nat → ClassId} {a_n : Nat → Nat} {n_x : Int32} {n_y : Int32} {n_nodes : Int32} {n_aloneB : Int64} {n_near : Nat → Int32} {n_has : Nat → Int64} {n_link : Nat → Nat → Int32} {f : Nat → Int32} (k : Nat) (hk : k < 9) : (wd_Ga_forgetLinks cA a_n n_x n_y n_nodes n_aloneB n_link n_near n_has).set (2 + k) (a_n (k + 22), .inl (cA 0, 9, .inl f)) = wd_Ga_forgetLinks cA a_n n_x n_y n_nodes n_aloneB (va_up n_link k f) n_near n_has := by
  rcases lt9 hk with rfl | rfl | rfl | rfl | rfl | rfl | rfl | rfl | rfl <;> rfl
noncomputable def s_Ga_forgetLinks_18  (zz : Int32 × (Nat → Nat → Int32)) (back exit : (Int32 × (Nat → Nat → Int32)) → Option ((Nat → Nat → Int32) × (Nat → Int32) × (Nat → Int64))) : Option ((Nat → Nat → Int32) × (Nat → Int32) × (Nat → Int64)) :=
  (if (9 : Int32) ≤ zz.1 then (exit (zz.1, zz.2)) else (if inb zz.1 9 then ((m_Ar_fill_AII (zz.2 zz.1.toNatClampNeg) 9 (0 : Int32)).bind (fun r31 : (Nat → Int32) => (back ((zz.1 + 1), (va_up zz.2 zz.1.toNatClampNeg r31))))) else none))
noncomputable def m_Ga_forgetLinks (n_link : Nat → Nat → Int32) (n_near : Nat → Int32) (n_has : Nat → Int64) : Option ((Nat → Nat → Int32) × (Nat → Int32) × (Nat → Int64)) :=
  ((m_Ar_fill_AII n_near 9 (0 : Int32)).bind (fun r5 : (Nat → Int32) => ((m_Ar_fill_AJJ n_has 9 (0 : Int64)).bind (fun r13 : (Nat → Int64) => (loopC (s_Ga_forgetLinks_18) (fun z18 : Int32 × (Nat → Nat → Int32) => some (z18.2, r5, r13)) FU ((0 : Int32), n_link))))))
set_option maxHeartbeats 4000000 in
set_option maxRecDepth 100000 in
theorem c_Ga_forgetLinks (l : Launch) (D : va_G) (cA : Nat → ClassId) (a_n : Nat → Nat) (sz : Nat) (n_x : Int32) (n_y : Int32) (n_nodes : Int32) (n_aloneB : Int64) (n_link : Nat → Nat → Int32) (n_near : Nat → Int32) (n_has : Nat → Int64)  (out : (Nat → Nat → Int32) × (Nat → Int32) × (Nat → Int64)) (h : m_Ga_forgetLinks n_link n_near n_has = some out) : Met l y_Ga_forgetLinks w_Ga_forgetLinks ({ frames := 1, cells := 0, slots := 0, locals := 24 }) (va_Pc [.ref (a_n 0)] (fun U => U.heap.size = sz ∧ va_P D cls9 (wd_Ga_forgetLinks cA a_n n_x n_y n_nodes n_aloneB n_link n_near n_has) U.heap ∧ va_K D cls9 (tys5 cA) U ∧ va_D (fun _ => True) (wd_Ga_forgetLinks cA a_n n_x n_y n_nodes n_aloneB n_link n_near n_has))) (va_Qv (fun uu : (Nat → Nat → Int32) × (Nat → Int32) × (Nat → Int64) => uu = out) (fun (uu : (Nat → Nat → Int32) × (Nat → Int32) × (Nat → Int64)) (t : State) => va_P D cls9 (wd_Ga_forgetLinks cA a_n n_x n_y n_nodes n_aloneB uu.1 uu.2.1 uu.2.2) t.heap ∧ va_K D cls9 (tys5 cA) t ∧ va_D (va_A (wd_Ga_forgetLinks cA a_n n_x n_y n_nodes n_aloneB n_link n_near n_has) sz) (wd_Ga_forgetLinks cA a_n n_x n_y n_nodes n_aloneB uu.1 uu.2.1 uu.2.2)) (va_A (wd_Ga_forgetLinks cA a_n n_x n_y n_nodes n_aloneB n_link n_near n_has) sz)) 0 0 (va_A (wd_Ga_forgetLinks cA a_n n_x n_y n_nodes n_aloneB n_link n_near n_has) sz) := by
  refine Met.ofW (cc := b_Ga_forgetLinks) (maxL := 2) (ret := (Option.none : Option Jvm.ClassFile.FieldType)) (by decide) rfl ?_
  intro p e s m args below meth c s₁ B hml hv
  obtain ⟨rfl, hsz, hP, hK, hD0⟩ := hv
  have hx := B.exec
  have hb := B.bytes
  have hr := B.returns
  have hts := atoms_spec (ws := w_Ga_forgetLinks) B.pre
  have hal : ∀ w ∈ ALLW, w.before _ s = true := fun w hw => hts w (List.mem_cons_of_mem _ hw)
  have hown : s.vm.findClass R_Ga = some m.cls := findClass_of_methodNamed B.named
  have hlocks := B.notSynchronized
  subst hsz
  have hD := hD0.self (sz := s.heap.size)
  generalize hAe : va_A (wd_Ga_forgetLinks cA a_n n_x n_y n_nodes n_aloneB n_link n_near n_has) s.heap.size = A at hD ⊢
  have hA : ∀ q : Nat, s.heap.size ≤ q → A q := fun q h => by rw [← hAe]; exact Or.inr h
  have hS : va_S A s.heap s.heap [] := va_S.rf
  have hl := lv_entry ([.ref (a_n 0)]) (n := 2) (Nat.le_of_ble_eq_true rfl)
  rw [lg_entry_eq]
  generalize (lg_sl ([.ref (a_n 0)]) ++ List.replicate (2 - (lg_sl ([.ref (a_n 0)])).length) Slot.unset).toArray = ls at hl ⊢
  have hl : lv_has ls 2 [(0, .ref (a_n 0))] := hl
  refine wg (fun G hG => ?_)
  refine cast (hG _ _ _ _ _ _ _).symm ?_
  obtain ⟨H, locs, hHl, hS⟩ : ∃ (H : Heap) (locs : List Loc), (H = s.heap ∧ locs = []) ∧ va_S A s.heap H locs := ⟨s.heap, [], ⟨rfl, rfl⟩, hS⟩
  have hP : va_P D cls9 (wd_Ga_forgetLinks cA a_n n_x n_y n_nodes n_aloneB n_link n_near n_has) H := by rw [hHl.1]; exact hP
  rw [← hHl.1, ← hHl.2]
  clear hHl
  refine lv_aload_n hx hb d_Ga_forgetLinks_0 rfl (lv_at hl 0 rfl) ?_
  refine va_get (ci := 0) (v := .ref (a_n 31)) (C := R_Ga) (T := F_Ga) (N := 9) hx hb hal in_Ga hown hK hP 0 rfl rfl 7 (by decide) (hal _ kw_82) (fun _ h9 => h9) rfl d_Ga_forgetLinks_1 ?_
  refine lv_iconst (v := 0) hx hb d_Ga_forgetLinks_4 (by decide) ?_
  obtain ⟨o_5, hc_4, h⟩ := bd h
  have hPc := hP.sub (ws' := (wd_Ar_fill_AII cA (fun _ => a_n 31) n_near 9)) [11] rfl
  have hDc := hD.sub (ws' := (wd_Ar_fill_AII cA (fun _ => a_n 31) n_near 9)) [11] (by decide) rfl
  have hFc := va_free (wc := (wd_Ar_fill_AII cA (fun _ => a_n 31) n_near 9)) hD hS hA [11] rfl
  refine va_callv (va_runS (As := [.ref (a_n 31), .int (0 : Int32)]) (rest := []) ⟨hx, hb, hml, hown, hal⟩ (c_Ar_fill_AII l D cA (fun _ => a_n 31) H.size n_near 9 (0 : Int32) o_5 hc_4) (va_cwS 2 hal (goodS kw_282 kw_283 kw_10 kw_284) rfl rfl rfl (by decide +kernel) ⟨Nat.le_of_ble_eq_true rfl, Nat.le_of_ble_eq_true rfl⟩) ⟨fun a U g mk q => by obtain ⟨q0, q1, qP, qK, qD⟩ := q; exact ⟨q0, q1, qP, va_K.moved (u := U) (U := U.calling g mk a) (Vm.Alike.refl U.vm) qK, qD⟩, fun U hU hW => ⟨rfl, by rw [hU], by rw [hU]; exact hPc, va_K.moved hW.alike hK, hDc.weaken (fun _ _ _ _ => trivial)⟩⟩ rfl rfl hl.1 rfl (lv_room (Nat.le_of_ble_eq_true rfl)) d_Ga_forgetLinks_5 ⟨Nat.le_of_ble_eq_true rfl, Nat.le_of_ble_eq_true rfl⟩) hS (fun q _ h => hFc q h) hFc (fun u t H1 locs ht hvm hw hB hz1 hk1 hS => ?_)
  obtain ⟨u_3, rfl⟩ : ∃ q, q = u := ⟨_, rfl⟩
  subst hw
  obtain ⟨hP1, hK1, hD1⟩ := hB
  rw [ht] at hP1
  have hP1 : va_P D cls9 (wd_Ar_fill_AII cA (fun _ => a_n 31) u_3 9) H1 := hP1
  obtain ⟨hP, hD⟩ := va_join (wr := ([0, 1, 2, 3, 4, 5, 6, 7, 8, 9, 10, 12] : List Nat).filterMap (fun i => (wd_Ga_forgetLinks cA a_n n_x n_y n_nodes n_aloneB n_link n_near n_has)[i]?)) (w1 := (wd_Ar_fill_AII cA (fun _ => a_n 31) u_3 9)) hP hD [11] [0, 1, 2, 3, 4, 5, 6, 7, 8, 9, 10, 12] rfl rfl (by decide) (by decide) hk1 hFc hP1 hD1
  generalize H1 = H at hP hS ⊢
  have hP : va_P D cls9 (wd_Ga_forgetLinks cA a_n n_x n_y n_nodes n_aloneB n_link u_3 n_has) H := hP.sub [0, 1, 2, 3, 4, 5, 6, 7, 8, 9, 10, 12, 11] rfl
  have hD : va_D A (wd_Ga_forgetLinks cA a_n n_x n_y n_nodes n_aloneB n_link u_3 n_has) := hD.sub [0, 1, 2, 3, 4, 5, 6, 7, 8, 9, 10, 12, 11] (by decide) rfl
  refine lv_aload_n hx hb d_Ga_forgetLinks_8 rfl (lv_at hl 0 rfl) ?_
  refine va_get (ci := 0) (v := .ref (a_n 32)) (C := R_Ga) (T := F_Ga) (N := 9) hx hb hal in_Ga hown hK hP 0 rfl rfl 8 (by decide) (hal _ kw_84) (fun _ h9 => h9) rfl d_Ga_forgetLinks_9 ?_
  refine lv_lconst (v := 0) hx hb d_Ga_forgetLinks_12 (by decide) ?_
  obtain ⟨o_10, hc_9, h⟩ := bd h
  have hPc := hP.sub (ws' := (wd_Ar_fill_AJJ cA (fun _ => a_n 32) n_has 9)) [12] rfl
  have hDc := hD.sub (ws' := (wd_Ar_fill_AJJ cA (fun _ => a_n 32) n_has 9)) [12] (by decide) rfl
  have hFc := va_free (wc := (wd_Ar_fill_AJJ cA (fun _ => a_n 32) n_has 9)) hD hS hA [12] rfl
  refine va_callv (va_runS (As := [.ref (a_n 32), .long (0 : Int64)]) (rest := []) ⟨hx, hb, hml, hown, hal⟩ (c_Ar_fill_AJJ l D cA (fun _ => a_n 32) H.size n_has 9 (0 : Int64) o_10 hc_9) (va_cwS 2 hal (goodS kw_285 kw_286 kw_10 kw_287) rfl rfl rfl (by decide +kernel) ⟨Nat.le_of_ble_eq_true rfl, Nat.le_of_ble_eq_true rfl⟩) ⟨fun a U g mk q => by obtain ⟨q0, q1, qP, qK, qD⟩ := q; exact ⟨q0, q1, qP, va_K.moved (u := U) (U := U.calling g mk a) (Vm.Alike.refl U.vm) qK, qD⟩, fun U hU hW => ⟨rfl, by rw [hU], by rw [hU]; exact hPc, va_K.moved hW.alike hK, hDc.weaken (fun _ _ _ _ => trivial)⟩⟩ rfl rfl hl.1 rfl (lv_room (Nat.le_of_ble_eq_true rfl)) d_Ga_forgetLinks_13 ⟨Nat.le_of_ble_eq_true rfl, Nat.le_of_ble_eq_true rfl⟩) hS (fun q _ h => hFc q h) hFc (fun u t H1 locs ht hvm hw hB hz1 hk1 hS => ?_)
  obtain ⟨u_8, rfl⟩ : ∃ q, q = u := ⟨_, rfl⟩
  subst hw
  obtain ⟨hP1, hK1, hD1⟩ := hB
  rw [ht] at hP1
  have hP1 : va_P D cls9 (wd_Ar_fill_AJJ cA (fun _ => a_n 32) u_8 9) H1 := hP1
  obtain ⟨hP, hD⟩ := va_join (wr := ([0, 1, 2, 3, 4, 5, 6, 7, 8, 9, 10, 11] : List Nat).filterMap (fun i => (wd_Ga_forgetLinks cA a_n n_x n_y n_nodes n_aloneB n_link u_3 n_has)[i]?)) (w1 := (wd_Ar_fill_AJJ cA (fun _ => a_n 32) u_8 9)) hP hD [12] [0, 1, 2, 3, 4, 5, 6, 7, 8, 9, 10, 11] rfl rfl (by decide) (by decide) hk1 hFc hP1 hD1
  generalize H1 = H at hP hS ⊢
  have hP : va_P D cls9 (wd_Ga_forgetLinks cA a_n n_x n_y n_nodes n_aloneB n_link u_3 u_8) H := hP.sub [0, 1, 2, 3, 4, 5, 6, 7, 8, 9, 10, 11, 12] rfl
  have hD : va_D A (wd_Ga_forgetLinks cA a_n n_x n_y n_nodes n_aloneB n_link u_3 u_8) := hD.sub [0, 1, 2, 3, 4, 5, 6, 7, 8, 9, 10, 11, 12] (by decide) rfl
  refine lv_iconst (v := 0) hx hb d_Ga_forgetLinks_16 (by decide) ?_
  refine lv_istore_n (lv' := [(1, .int (0 : Int32)), (0, .ref (a_n 0))]) hx hb d_Ga_forgetLinks_17 rfl hl (by decide) rfl (fun ls hl => ?_)
  refine cast (hG _ _ _ _ _ _ _) (lp_go2 h (fun zz : Int32 × (Nat → Nat → Int32) => ∀ (H : Heap) (locs : List Loc) (ls : Array Slot), va_P D cls9 (wd_Ga_forgetLinks cA a_n n_x n_y n_nodes n_aloneB zz.2 u_3 u_8) H → va_D A (wd_Ga_forgetLinks cA a_n n_x n_y n_nodes n_aloneB zz.2 u_3 u_8) → va_S A s.heap H locs → lv_has ls 2 [(1, .int zz.1), (0, .ref (a_n 0))] → G H locs 0 0 ls 40 []) ?_ (fun zz : Int32 × (Nat → Nat → Int32) => ∀ (H : Heap) (locs : List Loc) (ls : Array Slot), va_P D cls9 (wd_Ga_forgetLinks cA a_n n_x n_y n_nodes n_aloneB zz.2 u_3 u_8) H → va_D A (wd_Ga_forgetLinks cA a_n n_x n_y n_nodes n_aloneB zz.2 u_3 u_8) → va_S A s.heap H locs → lv_has ls 2 [(1, .int zz.1), (0, .ref (a_n 0))] → G H locs 0 0 ls 18 []) ?_ _ _ ls hP hD hS (lv_sub hl [0, 1] rfl))
  · intro zz h H locs ls hP hD hS hl
    obtain ⟨x1_18e, n_link_18e⟩ := zz
    have hP : va_P D cls9 (wd_Ga_forgetLinks cA a_n n_x n_y n_nodes n_aloneB n_link_18e u_3 u_8) H := hP
    have hD : va_D A (wd_Ga_forgetLinks cA a_n n_x n_y n_nodes n_aloneB n_link_18e u_3 u_8) := hD
    have hl : lv_has ls 2 [(1, .int x1_18e), (0, .ref (a_n 0))] := hl
    refine cast (hG _ _ _ _ _ _ _).symm ?_
    exact W.vret hx hb hr (fun t ht hW => ⟨⟨(n_link_18e, u_3, u_8), rfl, Option.some.inj h, by rw [ht]; exact hP, va_K.moved hW.alike hK, hD⟩, hS.F ht⟩) hS.2.2 d_Ga_forgetLinks_40
  · intro back exit zz hB_18 hE_18 h H locs ls hP hD hS hl
    obtain ⟨x1_18, n_link_18⟩ := zz
    have hP : va_P D cls9 (wd_Ga_forgetLinks cA a_n n_x n_y n_nodes n_aloneB n_link_18 u_3 u_8) H := hP
    have hD : va_D A (wd_Ga_forgetLinks cA a_n n_x n_y n_nodes n_aloneB n_link_18 u_3 u_8) := hD
    have hl : lv_has ls 2 [(1, .int x1_18), (0, .ref (a_n 0))] := hl
    refine cast (hG _ _ _ _ _ _ _).symm ?_
    refine lv_iload_n hx hb d_Ga_forgetLinks_18 rfl (lv_at hl 0 rfl) ?_
    refine lv_bipush (v := 9) hx hb d_Ga_forgetLinks_19 (by decide) ?_
    refine lv_icmp_ge (tgt := 40) hx hb d_Ga_forgetLinks_21 (by decide) (fun c_11 => ?_) (fun c_11 => ?_)
    · have h := ifp (c_11) h
      exact cast (hG _ _ _ _ _ _ _) (hE_18 (x1_18, n_link_18) h _ _ _ hP hD hS (lv_sub hl [0, 1] rfl))
    · have h := ifn (c_11) h
      refine lv_aload_n hx hb d_Ga_forgetLinks_24 rfl (lv_at hl 1 rfl) ?_
      refine va_get (ci := 0) (v := .ref (a_n 21)) (C := R_Ga) (T := F_Ga) (N := 9) hx hb hal in_Ga hown hK hP 0 rfl rfl 6 (by decide) (hal _ kw_80) (fun _ h9 => h9) rfl d_Ga_forgetLinks_25 ?_
      refine lv_iload_n hx hb d_Ga_forgetLinks_28 rfl (lv_at hl 0 rfl) ?_
      obtain ⟨g_12, h⟩ := gd h
      refine my_aald (ad := fun i => a_n (i + 22)) (t := .int) hx hb hK hP 1 3 rfl rfl (inb_in g_12) (inb_lt g_12) d_Ga_forgetLinks_29 ?_
      refine lv_iconst (v := 0) hx hb d_Ga_forgetLinks_30 (by decide) ?_
      obtain ⟨o_17, hc_16, h⟩ := bd h
      have hPc : va_P D cls9 (wd_Ar_fill_AII cA (fun _ => a_n (x1_18.toNatClampNeg + 22)) (n_link_18 x1_18.toNatClampNeg) 9) H := sub1P hP (row_Ga_forgetLinks_n_link _ _ (inb_lt g_12))
      have hDc : va_D A (wd_Ar_fill_AII cA (fun _ => a_n (x1_18.toNatClampNeg + 22)) (n_link_18 x1_18.toNatClampNeg) 9) := sub1D hD (row_Ga_forgetLinks_n_link _ _ (inb_lt g_12))
      have hFc : ∀ q, va_A (wd_Ar_fill_AII cA (fun _ => a_n (x1_18.toNatClampNeg + 22)) (n_link_18 x1_18.toNatClampNeg) 9) H.size q → A q := free1 hD hS hA (row_Ga_forgetLinks_n_link _ _ (inb_lt g_12))
      refine va_callv (va_runS (As := [.ref (a_n (x1_18.toNatClampNeg + 22)), .int (0 : Int32)]) (rest := []) ⟨hx, hb, hml, hown, hal⟩ (c_Ar_fill_AII l D cA (fun _ => a_n (x1_18.toNatClampNeg + 22)) H.size (n_link_18 x1_18.toNatClampNeg) 9 (0 : Int32) o_17 hc_16) (va_cwS 2 hal (goodS kw_282 kw_283 kw_10 kw_284) rfl rfl rfl (by decide +kernel) ⟨Nat.le_of_ble_eq_true rfl, Nat.le_of_ble_eq_true rfl⟩) ⟨fun a U g mk q => by obtain ⟨q0, q1, qP, qK, qD⟩ := q; exact ⟨q0, q1, qP, va_K.moved (u := U) (U := U.calling g mk a) (Vm.Alike.refl U.vm) qK, qD⟩, fun U hU hW => ⟨rfl, by rw [hU], by rw [hU]; exact hPc, va_K.moved hW.alike hK, hDc.weaken (fun _ _ _ _ => trivial)⟩⟩ rfl rfl hl.1 rfl (lv_room (Nat.le_of_ble_eq_true rfl)) d_Ga_forgetLinks_31 ⟨Nat.le_of_ble_eq_true rfl, Nat.le_of_ble_eq_true rfl⟩) hS (fun q _ h => hFc q h) hFc (fun u t H1 locs ht hvm hw hB hz1 hk1 hS => ?_)
      obtain ⟨u_15, rfl⟩ : ∃ q, q = u := ⟨_, rfl⟩
      subst hw
      obtain ⟨hP1, hK1, hD1⟩ := hB
      rw [ht] at hP1
      have hP1 : va_P D cls9 (wd_Ar_fill_AII cA (fun _ => a_n (x1_18.toNatClampNeg + 22)) u_15 9) H1 := hP1
      obtain ⟨hP, hD⟩ := join1 hP hD (row_Ga_forgetLinks_n_link _ _ (inb_lt g_12)) hk1 hFc hP1 hD1
      generalize H1 = H at hP hS ⊢
      have hP : va_P D cls9 (wd_Ga_forgetLinks cA a_n n_x n_y n_nodes n_aloneB (va_up n_link_18 x1_18.toNatClampNeg u_15) u_3 u_8) H := (set_Ga_forgetLinks_n_link _ (inb_lt g_12)).subst (motive := fun x => va_P D cls9 x H) hP
      have hD : va_D A (wd_Ga_forgetLinks cA a_n n_x n_y n_nodes n_aloneB (va_up n_link_18 x1_18.toNatClampNeg u_15) u_3 u_8) := (set_Ga_forgetLinks_n_link _ (inb_lt g_12)).subst (motive := fun x => va_D A x) hD
      refine lv_iinc (v := (x1_18 + 1)) (lv' := [(1, .int (x1_18 + 1)), (0, .ref (a_n 0))]) hx hb d_Ga_forgetLinks_34 hl (k := 0) rfl rfl (by decide) rfl (fun ls hl => ?_)
      refine lv_goto (tgt := 18) hx hb d_Ga_forgetLinks_37 (by decide) ?_
      exact cast (hG _ _ _ _ _ _ _) (hB_18 ((x1_18 + 1), (va_up n_link_18 x1_18.toNatClampNeg u_15)) h _ _ _ hP hD hS (lv_sub hl [0, 1] rfl))
def wd_Ga_addLink (cA : Nat → ClassId) (a_n : Nat → Nat) (n_x : Int32) (n_y : Int32) (n_nodes : Int32) (n_aloneB : Int64) (n_link : Nat → Nat → Int32) (n_near : Nat → Int32) (n_has : Nat → Int64) : va_W := [(a_n 0, .inr (0, [.int n_x, .int n_y, .int n_nodes, .long n_aloneB, .ref (a_n 1), .ref (a_n 11), .ref (a_n 21), .ref (a_n 31), .ref (a_n 32)])), (a_n 21, .inl (cA 3, 9, .inr (.inr (.inr (.inr (fun i => if i < 9 then some (a_n (i + 22)) else none)))))), (a_n (0 + 22), .inl (cA 0, 9, .inl (n_link 0))), (a_n (1 + 22), .inl (cA 0, 9, .inl (n_link 1))), (a_n (2 + 22), .inl (cA 0, 9, .inl (n_link 2))), (a_n (3 + 22), .inl (cA 0, 9, .inl (n_link 3))), (a_n (4 + 22), .inl (cA 0, 9, .inl (n_link 4))), (a_n (5 + 22), .inl (cA 0, 9, .inl (n_link 5))), (a_n (6 + 22), .inl (cA 0, 9, .inl (n_link 6))), (a_n (7 + 22), .inl (cA 0, 9, .inl (n_link 7))), (a_n (8 + 22), .inl (cA 0, 9, .inl (n_link 8))), (a_n 31, .inl (cA 0, 9, .inl n_near)), (a_n 32, .inl (cA 1, 9, .inr (.inl n_has)))]
theorem row_Ga_addLink_n_link {cA : Nat → ClassId} {a_n : Nat → Nat} {n_x : Int32} {n_y : Int32} {n_nodes : Int32} {n_aloneB : Int64} {n_near : Nat → Int32} {n_has : Nat → Int64} (n_link : Nat → Nat → Int32) (k : Nat) (hk : k < 9) : (wd_Ga_addLink cA a_n n_x n_y n_nodes n_aloneB n_link n_near n_has)[2 + k]? = some (a_n (k + 22), .inl (cA 0, 9, .inl (n_link k))) := by
  rcases lt9 hk with rfl | rfl | rfl | rfl | rfl | rfl | rfl | rfl | rfl <;> rfl
theorem set_Ga_addLink_n_link {cA : Nat → ClassId} {a_n : Nat → Nat} {n_x : Int32} {n_y : Int32} {n_nodes : Int32} {n_aloneB : Int64} {n_near : Nat → Int32} {n_has : Nat → Int64} {n_link : Nat → Nat → Int32} {f : Nat → Int32} (k : Nat) (hk : k < 9) : (wd_Ga_addLink cA a_n n_x n_y n_nodes n_aloneB n_link n_near n_has).set (2 + k) (a_n (k + 22), .inl (cA 0, 9, .inl f)) = wd_Ga_addLink cA a_n n_x n_y n_nodes n_aloneB (va_up n_link k f) n_near n_has := by
  rcases lt9 hk with rfl | rfl | rfl | rfl | rfl | rfl | rfl | rfl | rfl <;> rfl
noncomputable def m_Ga_addLink (n_link : Nat → Nat → Int32) (n_near : Nat → Int32) (n_has : Nat → Int64) (v1 : Int32) (v2 : Int32) (v3 : Int32) : Option ((Nat → Nat → Int32) × (Nat → Int32) × (Nat → Int64)) :=
  (if inb v1 9 then (if inb v2 9 then (if inb v2 9 then (if inb v1 9 then some ((va_up (va_up n_link v1.toNatClampNeg (upd (n_link v1.toNatClampNeg) v2.toNatClampNeg (((n_link v1.toNatClampNeg) v2.toNatClampNeg) + v3))) v2.toNatClampNeg (upd ((va_up n_link v1.toNatClampNeg (upd (n_link v1.toNatClampNeg) v2.toNatClampNeg (((n_link v1.toNatClampNeg) v2.toNatClampNeg) + v3))) v2.toNatClampNeg) v1.toNatClampNeg ((((va_up n_link v1.toNatClampNeg (upd (n_link v1.toNatClampNeg) v2.toNatClampNeg (((n_link v1.toNatClampNeg) v2.toNatClampNeg) + v3))) v2.toNatClampNeg) v1.toNatClampNeg) + v3))), (upd (upd n_near v1.toNatClampNeg ((n_near v1.toNatClampNeg) ||| ((1 : Int32) <<< (v2 &&& 31)))) v2.toNatClampNeg (((upd n_near v1.toNatClampNeg ((n_near v1.toNatClampNeg) ||| ((1 : Int32) <<< (v2 &&& 31)))) v2.toNatClampNeg) ||| ((1 : Int32) <<< (v1 &&& 31)))), (vp_updL (vp_updL n_has v1.toNatClampNeg ((n_has v1.toNatClampNeg) + v3.toInt64)) v2.toNatClampNeg (((vp_updL n_has v1.toNatClampNeg ((n_has v1.toNatClampNeg) + v3.toInt64)) v2.toNatClampNeg) + v3.toInt64))) else none) else none) else none) else none)
set_option maxHeartbeats 4000000 in
set_option maxRecDepth 100000 in
theorem c_Ga_addLink (l : Launch) (D : va_G) (cA : Nat → ClassId) (a_n : Nat → Nat) (sz : Nat) (n_x : Int32) (n_y : Int32) (n_nodes : Int32) (n_aloneB : Int64) (n_link : Nat → Nat → Int32) (n_near : Nat → Int32) (n_has : Nat → Int64) (v1 : Int32) (v2 : Int32) (v3 : Int32) (out : (Nat → Nat → Int32) × (Nat → Int32) × (Nat → Int64)) (h : m_Ga_addLink n_link n_near n_has v1 v2 v3 = some out) : Met l y_Ga_addLink w_Ga_addLink ({ frames := 0, cells := 0, slots := 0, locals := 0 }) (va_Pc [.ref (a_n 0), .int v1, .int v2, .int v3] (fun U => U.heap.size = sz ∧ va_P D cls9 (wd_Ga_addLink cA a_n n_x n_y n_nodes n_aloneB n_link n_near n_has) U.heap ∧ va_K D cls9 (tys5 cA) U ∧ va_D (fun _ => True) (wd_Ga_addLink cA a_n n_x n_y n_nodes n_aloneB n_link n_near n_has))) (va_Qv (fun uu : (Nat → Nat → Int32) × (Nat → Int32) × (Nat → Int64) => uu = out) (fun (uu : (Nat → Nat → Int32) × (Nat → Int32) × (Nat → Int64)) (t : State) => va_P D cls9 (wd_Ga_addLink cA a_n n_x n_y n_nodes n_aloneB uu.1 uu.2.1 uu.2.2) t.heap ∧ va_K D cls9 (tys5 cA) t ∧ va_D (va_A (wd_Ga_addLink cA a_n n_x n_y n_nodes n_aloneB n_link n_near n_has) sz) (wd_Ga_addLink cA a_n n_x n_y n_nodes n_aloneB uu.1 uu.2.1 uu.2.2)) (va_A (wd_Ga_addLink cA a_n n_x n_y n_nodes n_aloneB n_link n_near n_has) sz)) 0 0 (va_A (wd_Ga_addLink cA a_n n_x n_y n_nodes n_aloneB n_link n_near n_has) sz) := by
  refine Met.ofW (cc := b_Ga_addLink) (maxL := 4) (ret := (Option.none : Option Jvm.ClassFile.FieldType)) (by decide) rfl ?_
  intro p e s m args below meth c s₁ B hml hv
  obtain ⟨rfl, hsz, hP, hK, hD0⟩ := hv
  have hx := B.exec
  have hb := B.bytes
  have hr := B.returns
  have hts := atoms_spec (ws := w_Ga_addLink) B.pre
  have hal : ∀ w ∈ ALLW, w.before _ s = true := fun w hw => hts w (List.mem_cons_of_mem _ hw)
  have hown : s.vm.findClass R_Ga = some m.cls := findClass_of_methodNamed B.named
  have hlocks := B.notSynchronized
  subst hsz
  have hD := hD0.self (sz := s.heap.size)
  generalize hAe : va_A (wd_Ga_addLink cA a_n n_x n_y n_nodes n_aloneB n_link n_near n_has) s.heap.size = A at hD ⊢
  have hA : ∀ q : Nat, s.heap.size ≤ q → A q := fun q h => by rw [← hAe]; exact Or.inr h
  have hS : va_S A s.heap s.heap [] := va_S.rf
  have hl := lv_entry ([.ref (a_n 0), .int v1, .int v2, .int v3]) (n := 4) (Nat.le_of_ble_eq_true rfl)
  rw [lg_entry_eq]
  generalize (lg_sl ([.ref (a_n 0), .int v1, .int v2, .int v3]) ++ List.replicate (4 - (lg_sl ([.ref (a_n 0), .int v1, .int v2, .int v3])).length) Slot.unset).toArray = ls at hl ⊢
  have hl : lv_has ls 4 [(0, .ref (a_n 0)), (1, .int v1), (2, .int v2), (3, .int v3)] := hl
  refine wg (fun G hG => ?_)
  refine cast (hG _ _ _ _ _ _ _).symm ?_
  obtain ⟨H, locs, hHl, hS⟩ : ∃ (H : Heap) (locs : List Loc), (H = s.heap ∧ locs = []) ∧ va_S A s.heap H locs := ⟨s.heap, [], ⟨rfl, rfl⟩, hS⟩
  have hP : va_P D cls9 (wd_Ga_addLink cA a_n n_x n_y n_nodes n_aloneB n_link n_near n_has) H := by rw [hHl.1]; exact hP
  rw [← hHl.1, ← hHl.2]
  clear hHl
  refine lv_aload_n hx hb d_Ga_addLink_0 rfl (lv_at hl 0 rfl) ?_
  refine va_get (ci := 0) (v := .ref (a_n 21)) (C := R_Ga) (T := F_Ga) (N := 9) hx hb hal in_Ga hown hK hP 0 rfl rfl 6 (by decide) (hal _ kw_80) (fun _ h9 => h9) rfl d_Ga_addLink_1 ?_
  refine lv_iload_n hx hb d_Ga_addLink_4 rfl (lv_at hl 1 rfl) ?_
  obtain ⟨g_1, h⟩ := gd h
  refine my_aald (ad := fun i => a_n (i + 22)) (t := .int) hx hb hK hP 1 3 rfl rfl (inb_in g_1) (inb_lt g_1) d_Ga_addLink_5 ?_
  refine lv_iload_n hx hb d_Ga_addLink_6 rfl (lv_at hl 2 rfl) ?_
  refine lv_dup2_11 hx hb d_Ga_addLink_7 rfl rfl ?_
  obtain ⟨g_2, h⟩ := gd h
  refine va_iald hx hb hK hP (2 + v1.toNatClampNeg) 0 (row_Ga_addLink_n_link _ _ (inb_lt g_1)) rfl (inb_in g_2) d_Ga_addLink_8 ?_
  refine lv_iload_n hx hb d_Ga_addLink_9 rfl (lv_at hl 3 rfl) ?_
  refine lv_iadd hx hb d_Ga_addLink_10 ?_
  refine va_iast hx hb hK hP hD hS (2 + v1.toNatClampNeg) 0 (row_Ga_addLink_n_link _ _ (inb_lt g_1)) rfl (inb_in g_2) d_Ga_addLink_11 (fun H locs hP hD hS => ?_)
  have hP : va_P D cls9 (wd_Ga_addLink cA a_n n_x n_y n_nodes n_aloneB (va_up n_link v1.toNatClampNeg (upd (n_link v1.toNatClampNeg) v2.toNatClampNeg (((n_link v1.toNatClampNeg) v2.toNatClampNeg) + v3))) n_near n_has) H := (set_Ga_addLink_n_link _ (inb_lt g_1)).subst (motive := fun x => va_P D cls9 x H) hP
  have hD : va_D A (wd_Ga_addLink cA a_n n_x n_y n_nodes n_aloneB (va_up n_link v1.toNatClampNeg (upd (n_link v1.toNatClampNeg) v2.toNatClampNeg (((n_link v1.toNatClampNeg) v2.toNatClampNeg) + v3))) n_near n_has) := (set_Ga_addLink_n_link _ (inb_lt g_1)).subst (motive := fun x => va_D A x) hD
  refine lv_aload_n hx hb d_Ga_addLink_12 rfl (lv_at hl 0 rfl) ?_
  refine va_get (ci := 0) (v := .ref (a_n 21)) (C := R_Ga) (T := F_Ga) (N := 9) hx hb hal in_Ga hown hK hP 0 rfl rfl 6 (by decide) (hal _ kw_80) (fun _ h9 => h9) rfl d_Ga_addLink_13 ?_
  refine lv_iload_n hx hb d_Ga_addLink_16 rfl (lv_at hl 2 rfl) ?_
  obtain ⟨g_3, h⟩ := gd h
  refine my_aald (ad := fun i => a_n (i + 22)) (t := .int) hx hb hK hP 1 3 rfl rfl (inb_in g_3) (inb_lt g_3) d_Ga_addLink_17 ?_
  refine lv_iload_n hx hb d_Ga_addLink_18 rfl (lv_at hl 1 rfl) ?_
  refine lv_dup2_11 hx hb d_Ga_addLink_19 rfl rfl ?_
  obtain ⟨g_4, h⟩ := gd h
  refine va_iald hx hb hK hP (2 + v2.toNatClampNeg) 0 (row_Ga_addLink_n_link _ _ (inb_lt g_3)) rfl (inb_in g_4) d_Ga_addLink_20 ?_
  refine lv_iload_n hx hb d_Ga_addLink_21 rfl (lv_at hl 3 rfl) ?_
  refine lv_iadd hx hb d_Ga_addLink_22 ?_
  refine va_iast hx hb hK hP hD hS (2 + v2.toNatClampNeg) 0 (row_Ga_addLink_n_link _ _ (inb_lt g_3)) rfl (inb_in g_4) d_Ga_addLink_23 (fun H locs hP hD hS => ?_)
  have hP : va_P D cls9 (wd_Ga_addLink cA a_n n_x n_y n_nodes n_aloneB (va_up (va_up n_link v1.toNatClampNeg (upd (n_link v1.toNatClampNeg) v2.toNatClampNeg (((n_link v1.toNatClampNeg) v2.toNatClampNeg) + v3))) v2.toNatClampNeg (upd ((va_up n_link v1.toNatClampNeg (upd (n_link v1.toNatClampNeg) v2.toNatClampNeg (((n_link v1.toNatClampNeg) v2.toNatClampNeg) + v3))) v2.toNatClampNeg) v1.toNatClampNeg ((((va_up n_link v1.toNatClampNeg (upd (n_link v1.toNatClampNeg) v2.toNatClampNeg (((n_link v1.toNatClampNeg) v2.toNatClampNeg) + v3))) v2.toNatClampNeg) v1.toNatClampNeg) + v3))) n_near n_has) H := (set_Ga_addLink_n_link _ (inb_lt g_3)).subst (motive := fun x => va_P D cls9 x H) hP
  have hD : va_D A (wd_Ga_addLink cA a_n n_x n_y n_nodes n_aloneB (va_up (va_up n_link v1.toNatClampNeg (upd (n_link v1.toNatClampNeg) v2.toNatClampNeg (((n_link v1.toNatClampNeg) v2.toNatClampNeg) + v3))) v2.toNatClampNeg (upd ((va_up n_link v1.toNatClampNeg (upd (n_link v1.toNatClampNeg) v2.toNatClampNeg (((n_link v1.toNatClampNeg) v2.toNatClampNeg) + v3))) v2.toNatClampNeg) v1.toNatClampNeg ((((va_up n_link v1.toNatClampNeg (upd (n_link v1.toNatClampNeg) v2.toNatClampNeg (((n_link v1.toNatClampNeg) v2.toNatClampNeg) + v3))) v2.toNatClampNeg) v1.toNatClampNeg) + v3))) n_near n_has) := (set_Ga_addLink_n_link _ (inb_lt g_3)).subst (motive := fun x => va_D A x) hD
  refine lv_aload_n hx hb d_Ga_addLink_24 rfl (lv_at hl 0 rfl) ?_
  refine va_get (ci := 0) (v := .ref (a_n 31)) (C := R_Ga) (T := F_Ga) (N := 9) hx hb hal in_Ga hown hK hP 0 rfl rfl 7 (by decide) (hal _ kw_82) (fun _ h9 => h9) rfl d_Ga_addLink_25 ?_
  refine lv_iload_n hx hb d_Ga_addLink_28 rfl (lv_at hl 1 rfl) ?_
  refine lv_dup2_11 hx hb d_Ga_addLink_29 rfl rfl ?_
  refine va_iald hx hb hK hP 11 0 rfl rfl (inb_in g_4) d_Ga_addLink_30 ?_
  refine lv_iconst (v := 1) hx hb d_Ga_addLink_31 (by decide) ?_
  refine lv_iload_n hx hb d_Ga_addLink_32 rfl (lv_at hl 2 rfl) ?_
  refine lv_ishl hx hb d_Ga_addLink_33 ?_
  refine lv_ior hx hb d_Ga_addLink_34 ?_
  refine va_iast hx hb hK hP hD hS 11 0 rfl rfl (inb_in g_4) d_Ga_addLink_35 (fun H locs hP hD hS => ?_)
  have hP : va_P D cls9 (wd_Ga_addLink cA a_n n_x n_y n_nodes n_aloneB (va_up (va_up n_link v1.toNatClampNeg (upd (n_link v1.toNatClampNeg) v2.toNatClampNeg (((n_link v1.toNatClampNeg) v2.toNatClampNeg) + v3))) v2.toNatClampNeg (upd ((va_up n_link v1.toNatClampNeg (upd (n_link v1.toNatClampNeg) v2.toNatClampNeg (((n_link v1.toNatClampNeg) v2.toNatClampNeg) + v3))) v2.toNatClampNeg) v1.toNatClampNeg ((((va_up n_link v1.toNatClampNeg (upd (n_link v1.toNatClampNeg) v2.toNatClampNeg (((n_link v1.toNatClampNeg) v2.toNatClampNeg) + v3))) v2.toNatClampNeg) v1.toNatClampNeg) + v3))) (upd n_near v1.toNatClampNeg ((n_near v1.toNatClampNeg) ||| ((1 : Int32) <<< (v2 &&& 31)))) n_has) H := hP
  have hD : va_D A (wd_Ga_addLink cA a_n n_x n_y n_nodes n_aloneB (va_up (va_up n_link v1.toNatClampNeg (upd (n_link v1.toNatClampNeg) v2.toNatClampNeg (((n_link v1.toNatClampNeg) v2.toNatClampNeg) + v3))) v2.toNatClampNeg (upd ((va_up n_link v1.toNatClampNeg (upd (n_link v1.toNatClampNeg) v2.toNatClampNeg (((n_link v1.toNatClampNeg) v2.toNatClampNeg) + v3))) v2.toNatClampNeg) v1.toNatClampNeg ((((va_up n_link v1.toNatClampNeg (upd (n_link v1.toNatClampNeg) v2.toNatClampNeg (((n_link v1.toNatClampNeg) v2.toNatClampNeg) + v3))) v2.toNatClampNeg) v1.toNatClampNeg) + v3))) (upd n_near v1.toNatClampNeg ((n_near v1.toNatClampNeg) ||| ((1 : Int32) <<< (v2 &&& 31)))) n_has) := hD
  refine lv_aload_n hx hb d_Ga_addLink_36 rfl (lv_at hl 0 rfl) ?_
  refine va_get (ci := 0) (v := .ref (a_n 31)) (C := R_Ga) (T := F_Ga) (N := 9) hx hb hal in_Ga hown hK hP 0 rfl rfl 7 (by decide) (hal _ kw_82) (fun _ h9 => h9) rfl d_Ga_addLink_37 ?_
  refine lv_iload_n hx hb d_Ga_addLink_40 rfl (lv_at hl 2 rfl) ?_
  refine lv_dup2_11 hx hb d_Ga_addLink_41 rfl rfl ?_
  refine va_iald hx hb hK hP 11 0 rfl rfl (inb_in g_2) d_Ga_addLink_42 ?_
  refine lv_iconst (v := 1) hx hb d_Ga_addLink_43 (by decide) ?_
  refine lv_iload_n hx hb d_Ga_addLink_44 rfl (lv_at hl 1 rfl) ?_
  refine lv_ishl hx hb d_Ga_addLink_45 ?_
  refine lv_ior hx hb d_Ga_addLink_46 ?_
  refine va_iast hx hb hK hP hD hS 11 0 rfl rfl (inb_in g_2) d_Ga_addLink_47 (fun H locs hP hD hS => ?_)
  have hP : va_P D cls9 (wd_Ga_addLink cA a_n n_x n_y n_nodes n_aloneB (va_up (va_up n_link v1.toNatClampNeg (upd (n_link v1.toNatClampNeg) v2.toNatClampNeg (((n_link v1.toNatClampNeg) v2.toNatClampNeg) + v3))) v2.toNatClampNeg (upd ((va_up n_link v1.toNatClampNeg (upd (n_link v1.toNatClampNeg) v2.toNatClampNeg (((n_link v1.toNatClampNeg) v2.toNatClampNeg) + v3))) v2.toNatClampNeg) v1.toNatClampNeg ((((va_up n_link v1.toNatClampNeg (upd (n_link v1.toNatClampNeg) v2.toNatClampNeg (((n_link v1.toNatClampNeg) v2.toNatClampNeg) + v3))) v2.toNatClampNeg) v1.toNatClampNeg) + v3))) (upd (upd n_near v1.toNatClampNeg ((n_near v1.toNatClampNeg) ||| ((1 : Int32) <<< (v2 &&& 31)))) v2.toNatClampNeg (((upd n_near v1.toNatClampNeg ((n_near v1.toNatClampNeg) ||| ((1 : Int32) <<< (v2 &&& 31)))) v2.toNatClampNeg) ||| ((1 : Int32) <<< (v1 &&& 31)))) n_has) H := hP
  have hD : va_D A (wd_Ga_addLink cA a_n n_x n_y n_nodes n_aloneB (va_up (va_up n_link v1.toNatClampNeg (upd (n_link v1.toNatClampNeg) v2.toNatClampNeg (((n_link v1.toNatClampNeg) v2.toNatClampNeg) + v3))) v2.toNatClampNeg (upd ((va_up n_link v1.toNatClampNeg (upd (n_link v1.toNatClampNeg) v2.toNatClampNeg (((n_link v1.toNatClampNeg) v2.toNatClampNeg) + v3))) v2.toNatClampNeg) v1.toNatClampNeg ((((va_up n_link v1.toNatClampNeg (upd (n_link v1.toNatClampNeg) v2.toNatClampNeg (((n_link v1.toNatClampNeg) v2.toNatClampNeg) + v3))) v2.toNatClampNeg) v1.toNatClampNeg) + v3))) (upd (upd n_near v1.toNatClampNeg ((n_near v1.toNatClampNeg) ||| ((1 : Int32) <<< (v2 &&& 31)))) v2.toNatClampNeg (((upd n_near v1.toNatClampNeg ((n_near v1.toNatClampNeg) ||| ((1 : Int32) <<< (v2 &&& 31)))) v2.toNatClampNeg) ||| ((1 : Int32) <<< (v1 &&& 31)))) n_has) := hD
  refine lv_aload_n hx hb d_Ga_addLink_48 rfl (lv_at hl 0 rfl) ?_
  refine va_get (ci := 0) (v := .ref (a_n 32)) (C := R_Ga) (T := F_Ga) (N := 9) hx hb hal in_Ga hown hK hP 0 rfl rfl 8 (by decide) (hal _ kw_84) (fun _ h9 => h9) rfl d_Ga_addLink_49 ?_
  refine lv_iload_n hx hb d_Ga_addLink_52 rfl (lv_at hl 1 rfl) ?_
  refine lv_dup2_11 hx hb d_Ga_addLink_53 rfl rfl ?_
  refine va_lald hx hb hK hP 12 1 rfl rfl (inb_in g_4) d_Ga_addLink_54 ?_
  refine lv_iload_n hx hb d_Ga_addLink_55 rfl (lv_at hl 3 rfl) ?_
  refine lv_i2l hx hb d_Ga_addLink_56 rfl ?_
  refine lv_ladd hx hb d_Ga_addLink_57 ?_
  refine va_last hx hb hK hP hD hS 12 1 rfl rfl (inb_in g_4) d_Ga_addLink_58 (fun H locs hP hD hS => ?_)
  have hP : va_P D cls9 (wd_Ga_addLink cA a_n n_x n_y n_nodes n_aloneB (va_up (va_up n_link v1.toNatClampNeg (upd (n_link v1.toNatClampNeg) v2.toNatClampNeg (((n_link v1.toNatClampNeg) v2.toNatClampNeg) + v3))) v2.toNatClampNeg (upd ((va_up n_link v1.toNatClampNeg (upd (n_link v1.toNatClampNeg) v2.toNatClampNeg (((n_link v1.toNatClampNeg) v2.toNatClampNeg) + v3))) v2.toNatClampNeg) v1.toNatClampNeg ((((va_up n_link v1.toNatClampNeg (upd (n_link v1.toNatClampNeg) v2.toNatClampNeg (((n_link v1.toNatClampNeg) v2.toNatClampNeg) + v3))) v2.toNatClampNeg) v1.toNatClampNeg) + v3))) (upd (upd n_near v1.toNatClampNeg ((n_near v1.toNatClampNeg) ||| ((1 : Int32) <<< (v2 &&& 31)))) v2.toNatClampNeg (((upd n_near v1.toNatClampNeg ((n_near v1.toNatClampNeg) ||| ((1 : Int32) <<< (v2 &&& 31)))) v2.toNatClampNeg) ||| ((1 : Int32) <<< (v1 &&& 31)))) (vp_updL n_has v1.toNatClampNeg ((n_has v1.toNatClampNeg) + v3.toInt64))) H := hP
  have hD : va_D A (wd_Ga_addLink cA a_n n_x n_y n_nodes n_aloneB (va_up (va_up n_link v1.toNatClampNeg (upd (n_link v1.toNatClampNeg) v2.toNatClampNeg (((n_link v1.toNatClampNeg) v2.toNatClampNeg) + v3))) v2.toNatClampNeg (upd ((va_up n_link v1.toNatClampNeg (upd (n_link v1.toNatClampNeg) v2.toNatClampNeg (((n_link v1.toNatClampNeg) v2.toNatClampNeg) + v3))) v2.toNatClampNeg) v1.toNatClampNeg ((((va_up n_link v1.toNatClampNeg (upd (n_link v1.toNatClampNeg) v2.toNatClampNeg (((n_link v1.toNatClampNeg) v2.toNatClampNeg) + v3))) v2.toNatClampNeg) v1.toNatClampNeg) + v3))) (upd (upd n_near v1.toNatClampNeg ((n_near v1.toNatClampNeg) ||| ((1 : Int32) <<< (v2 &&& 31)))) v2.toNatClampNeg (((upd n_near v1.toNatClampNeg ((n_near v1.toNatClampNeg) ||| ((1 : Int32) <<< (v2 &&& 31)))) v2.toNatClampNeg) ||| ((1 : Int32) <<< (v1 &&& 31)))) (vp_updL n_has v1.toNatClampNeg ((n_has v1.toNatClampNeg) + v3.toInt64))) := hD
  refine lv_aload_n hx hb d_Ga_addLink_59 rfl (lv_at hl 0 rfl) ?_
  refine va_get (ci := 0) (v := .ref (a_n 32)) (C := R_Ga) (T := F_Ga) (N := 9) hx hb hal in_Ga hown hK hP 0 rfl rfl 8 (by decide) (hal _ kw_84) (fun _ h9 => h9) rfl d_Ga_addLink_60 ?_
  refine lv_iload_n hx hb d_Ga_addLink_63 rfl (lv_at hl 2 rfl) ?_
  refine lv_dup2_11 hx hb d_Ga_addLink_64 rfl rfl ?_
  refine va_lald hx hb hK hP 12 1 rfl rfl (inb_in g_2) d_Ga_addLink_65 ?_
  refine lv_iload_n hx hb d_Ga_addLink_66 rfl (lv_at hl 3 rfl) ?_
  refine lv_i2l hx hb d_Ga_addLink_67 rfl ?_
  refine lv_ladd hx hb d_Ga_addLink_68 ?_
  refine va_last hx hb hK hP hD hS 12 1 rfl rfl (inb_in g_2) d_Ga_addLink_69 (fun H locs hP hD hS => ?_)
  have hP : va_P D cls9 (wd_Ga_addLink cA a_n n_x n_y n_nodes n_aloneB (va_up (va_up n_link v1.toNatClampNeg (upd (n_link v1.toNatClampNeg) v2.toNatClampNeg (((n_link v1.toNatClampNeg) v2.toNatClampNeg) + v3))) v2.toNatClampNeg (upd ((va_up n_link v1.toNatClampNeg (upd (n_link v1.toNatClampNeg) v2.toNatClampNeg (((n_link v1.toNatClampNeg) v2.toNatClampNeg) + v3))) v2.toNatClampNeg) v1.toNatClampNeg ((((va_up n_link v1.toNatClampNeg (upd (n_link v1.toNatClampNeg) v2.toNatClampNeg (((n_link v1.toNatClampNeg) v2.toNatClampNeg) + v3))) v2.toNatClampNeg) v1.toNatClampNeg) + v3))) (upd (upd n_near v1.toNatClampNeg ((n_near v1.toNatClampNeg) ||| ((1 : Int32) <<< (v2 &&& 31)))) v2.toNatClampNeg (((upd n_near v1.toNatClampNeg ((n_near v1.toNatClampNeg) ||| ((1 : Int32) <<< (v2 &&& 31)))) v2.toNatClampNeg) ||| ((1 : Int32) <<< (v1 &&& 31)))) (vp_updL (vp_updL n_has v1.toNatClampNeg ((n_has v1.toNatClampNeg) + v3.toInt64)) v2.toNatClampNeg (((vp_updL n_has v1.toNatClampNeg ((n_has v1.toNatClampNeg) + v3.toInt64)) v2.toNatClampNeg) + v3.toInt64))) H := hP
  have hD : va_D A (wd_Ga_addLink cA a_n n_x n_y n_nodes n_aloneB (va_up (va_up n_link v1.toNatClampNeg (upd (n_link v1.toNatClampNeg) v2.toNatClampNeg (((n_link v1.toNatClampNeg) v2.toNatClampNeg) + v3))) v2.toNatClampNeg (upd ((va_up n_link v1.toNatClampNeg (upd (n_link v1.toNatClampNeg) v2.toNatClampNeg (((n_link v1.toNatClampNeg) v2.toNatClampNeg) + v3))) v2.toNatClampNeg) v1.toNatClampNeg ((((va_up n_link v1.toNatClampNeg (upd (n_link v1.toNatClampNeg) v2.toNatClampNeg (((n_link v1.toNatClampNeg) v2.toNatClampNeg) + v3))) v2.toNatClampNeg) v1.toNatClampNeg) + v3))) (upd (upd n_near v1.toNatClampNeg ((n_near v1.toNatClampNeg) ||| ((1 : Int32) <<< (v2 &&& 31)))) v2.toNatClampNeg (((upd n_near v1.toNatClampNeg ((n_near v1.toNatClampNeg) ||| ((1 : Int32) <<< (v2 &&& 31)))) v2.toNatClampNeg) ||| ((1 : Int32) <<< (v1 &&& 31)))) (vp_updL (vp_updL n_has v1.toNatClampNeg ((n_has v1.toNatClampNeg) + v3.toInt64)) v2.toNatClampNeg (((vp_updL n_has v1.toNatClampNeg ((n_has v1.toNatClampNeg) + v3.toInt64)) v2.toNatClampNeg) + v3.toInt64))) := hD
  exact W.vret hx hb hr (fun t ht hW => ⟨⟨((va_up (va_up n_link v1.toNatClampNeg (upd (n_link v1.toNatClampNeg) v2.toNatClampNeg (((n_link v1.toNatClampNeg) v2.toNatClampNeg) + v3))) v2.toNatClampNeg (upd ((va_up n_link v1.toNatClampNeg (upd (n_link v1.toNatClampNeg) v2.toNatClampNeg (((n_link v1.toNatClampNeg) v2.toNatClampNeg) + v3))) v2.toNatClampNeg) v1.toNatClampNeg ((((va_up n_link v1.toNatClampNeg (upd (n_link v1.toNatClampNeg) v2.toNatClampNeg (((n_link v1.toNatClampNeg) v2.toNatClampNeg) + v3))) v2.toNatClampNeg) v1.toNatClampNeg) + v3))), (upd (upd n_near v1.toNatClampNeg ((n_near v1.toNatClampNeg) ||| ((1 : Int32) <<< (v2 &&& 31)))) v2.toNatClampNeg (((upd n_near v1.toNatClampNeg ((n_near v1.toNatClampNeg) ||| ((1 : Int32) <<< (v2 &&& 31)))) v2.toNatClampNeg) ||| ((1 : Int32) <<< (v1 &&& 31)))), (vp_updL (vp_updL n_has v1.toNatClampNeg ((n_has v1.toNatClampNeg) + v3.toInt64)) v2.toNatClampNeg (((vp_updL n_has v1.toNatClampNeg ((n_has v1.toNatClampNeg) + v3.toInt64)) v2.toNatClampNeg) + v3.toInt64))), rfl, Option.some.inj h, by rw [ht]; exact hP, va_K.moved hW.alike hK, hD⟩, hS.F ht⟩) hS.2.2 d_Ga_addLink_70
def wd_Ga_pairByWeights (cA : Nat → ClassId) (a_n : Nat → Nat) (n_x : Int32) (n_y : Int32) (n_nodes : Int32) (n_aloneB : Int64) (n_pairA : Nat → Nat → Int64) (n_pairB : Nat → Nat → Int64) (n_link : Nat → Nat → Int32) (n_has : Nat → Int64) : va_W := [(a_n 0, .inr (0, [.int n_x, .int n_y, .int n_nodes, .long n_aloneB, .ref (a_n 1), .ref (a_n 11), .ref (a_n 21), .ref (a_n 31), .ref (a_n 32)])), (a_n 1, .inl (cA 4, 9, .inr (.inr (.inr (.inr (fun i => if i < 9 then some (a_n (i + 2)) else none)))))), (a_n (0 + 2), .inl (cA 1, 9, .inr (.inl (n_pairA 0)))), (a_n (1 + 2), .inl (cA 1, 9, .inr (.inl (n_pairA 1)))), (a_n (2 + 2), .inl (cA 1, 9, .inr (.inl (n_pairA 2)))), (a_n (3 + 2), .inl (cA 1, 9, .inr (.inl (n_pairA 3)))), (a_n (4 + 2), .inl (cA 1, 9, .inr (.inl (n_pairA 4)))), (a_n (5 + 2), .inl (cA 1, 9, .inr (.inl (n_pairA 5)))), (a_n (6 + 2), .inl (cA 1, 9, .inr (.inl (n_pairA 6)))), (a_n (7 + 2), .inl (cA 1, 9, .inr (.inl (n_pairA 7)))), (a_n (8 + 2), .inl (cA 1, 9, .inr (.inl (n_pairA 8)))), (a_n 11, .inl (cA 4, 9, .inr (.inr (.inr (.inr (fun i => if i < 9 then some (a_n (i + 12)) else none)))))), (a_n (0 + 12), .inl (cA 1, 9, .inr (.inl (n_pairB 0)))), (a_n (1 + 12), .inl (cA 1, 9, .inr (.inl (n_pairB 1)))), (a_n (2 + 12), .inl (cA 1, 9, .inr (.inl (n_pairB 2)))), (a_n (3 + 12), .inl (cA 1, 9, .inr (.inl (n_pairB 3)))), (a_n (4 + 12), .inl (cA 1, 9, .inr (.inl (n_pairB 4)))), (a_n (5 + 12), .inl (cA 1, 9, .inr (.inl (n_pairB 5)))), (a_n (6 + 12), .inl (cA 1, 9, .inr (.inl (n_pairB 6)))), (a_n (7 + 12), .inl (cA 1, 9, .inr (.inl (n_pairB 7)))), (a_n (8 + 12), .inl (cA 1, 9, .inr (.inl (n_pairB 8)))), (a_n 21, .inl (cA 3, 9, .inr (.inr (.inr (.inr (fun i => if i < 9 then some (a_n (i + 22)) else none)))))), (a_n (0 + 22), .inl (cA 0, 9, .inl (n_link 0))), (a_n (1 + 22), .inl (cA 0, 9, .inl (n_link 1))), (a_n (2 + 22), .inl (cA 0, 9, .inl (n_link 2))), (a_n (3 + 22), .inl (cA 0, 9, .inl (n_link 3))), (a_n (4 + 22), .inl (cA 0, 9, .inl (n_link 4))), (a_n (5 + 22), .inl (cA 0, 9, .inl (n_link 5))), (a_n (6 + 22), .inl (cA 0, 9, .inl (n_link 6))), (a_n (7 + 22), .inl (cA 0, 9, .inl (n_link 7))), (a_n (8 + 22), .inl (cA 0, 9, .inl (n_link 8))), (a_n 32, .inl (cA 1, 9, .inr (.inl n_has)))]
theorem row_Ga_pairByWeights_n_pairA {cA : Nat → ClassId} {a_n : Nat → Nat} {n_x : Int32} {n_y : Int32} {n_nodes : Int32} {n_aloneB : Int64} {n_pairB : Nat → Nat → Int64} {n_link : Nat → Nat → Int32} {n_has : Nat → Int64} (n_pairA : Nat → Nat → Int64) (k : Nat) (hk : k < 9) : (wd_Ga_pairByWeights cA a_n n_x n_y n_nodes n_aloneB n_pairA n_pairB n_link n_has)[2 + k]? = some (a_n (k + 2), .inl (cA 1, 9, .inr (.inl (n_pairA k)))) := by
  rcases lt9 hk with rfl | rfl | rfl | rfl | rfl | rfl | rfl | rfl | rfl <;> rfl
theorem set_Ga_pairByWeights_n_pairA {cA : Nat → ClassId} {a_n : Nat → Nat} {n_x : Int32} {n_y : Int32} {n_nodes : Int32} {n_aloneB : Int64} {n_pairB : Nat → Nat → Int64} {n_link : Nat → Nat → Int32} {n_has : Nat → Int64} {n_pairA : Nat → Nat → Int64} {f : Nat → Int64} (k : Nat) (hk : k < 9) : (wd_Ga_pairByWeights cA a_n n_x n_y n_nodes n_aloneB n_pairA n_pairB n_link n_has).set (2 + k) (a_n (k + 2), .inl (cA 1, 9, .inr (.inl f))) = wd_Ga_pairByWeights cA a_n n_x n_y n_nodes n_aloneB (va_up n_pairA k f) n_pairB n_link n_has := by
  rcases lt9 hk with rfl | rfl | rfl | rfl | rfl | rfl | rfl | rfl | rfl <;> rfl
theorem row_Ga_pairByWeights_n_pairB {cA : Nat → ClassId} {a_n : Nat → Nat} {n_x : Int32} {n_y : Int32} {n_nodes : Int32} {n_aloneB : Int64} {n_pairA : Nat → Nat → Int64} {n_link : Nat → Nat → Int32} {n_has : Nat → Int64} (n_pairB : Nat → Nat → Int64) (k : Nat) (hk : k < 9) : (wd_Ga_pairByWeights cA a_n n_x n_y n_nodes n_aloneB n_pairA n_pairB n_link n_has)[12 + k]? = some (a_n (k + 12), .inl (cA 1, 9, .inr (.inl (n_pairB k)))) := by
  rcases lt9 hk with rfl | rfl | rfl | rfl | rfl | rfl | rfl | rfl | rfl <;> rfl
theorem set_Ga_pairByWeights_n_pairB {cA : Nat → ClassId} {a_n : Nat → Nat} {n_x : Int32} {n_y : Int32} {n_nodes : Int32} {n_aloneB : Int64} {n_pairA : Nat → Nat → Int64} {n_link : Nat → Nat → Int32} {n_has : Nat → Int64} {n_pairB : Nat → Nat → Int64} {f : Nat → Int64} (k : Nat) (hk : k < 9) : (wd_Ga_pairByWeights cA a_n n_x n_y n_nodes n_aloneB n_pairA n_pairB n_link n_has).set (12 + k) (a_n (k + 12), .inl (cA 1, 9, .inr (.inl f))) = wd_Ga_pairByWeights cA a_n n_x n_y n_nodes n_aloneB n_pairA (va_up n_pairB k f) n_link n_has := by
  rcases lt9 hk with rfl | rfl | rfl | rfl | rfl | rfl | rfl | rfl | rfl <;> rfl
theorem row_Ga_pairByWeights_n_link {cA : Nat → ClassId} {a_n : Nat → Nat} {n_x : Int32} {n_y : Int32} {n_nodes : Int32} {n_aloneB : Int64} {n_pairA : Nat → Nat → Int64} {n_pairB : Nat → Nat → Int64} {n_has : Nat → Int64} (n_link : Nat → Nat → Int32) (k : Nat) (hk : k < 9) : (wd_Ga_pairByWeights cA a_n n_x n_y n_nodes n_aloneB n_pairA n_pairB n_link n_has)[22 + k]? = some (a_n (k + 22), .inl (cA 0, 9, .inl (n_link k))) := by
  rcases lt9 hk with rfl | rfl | rfl | rfl | rfl | rfl | rfl | rfl | rfl <;> rfl
theorem set_Ga_pairByWeights_n_link {cA : Nat → ClassId} {a_n : Nat → Nat} {n_x : Int32} {n_y : Int32} {n_nodes : Int32} {n_aloneB : Int64} {n_pairA : Nat → Nat → Int64} {n_pairB : Nat → Nat → Int64} {n_has : Nat → Int64} {n_link : Nat → Nat → Int32} {f : Nat → Int32} (k : Nat) (hk : k < 9) : (wd_Ga_pairByWeights cA a_n n_x n_y n_nodes n_aloneB n_pairA n_pairB n_link n_has).set (22 + k) (a_n (k + 22), .inl (cA 0, 9, .inl f)) = wd_Ga_pairByWeights cA a_n n_x n_y n_nodes n_aloneB n_pairA n_pairB (va_up n_link k f) n_has := by
  rcases lt9 hk with rfl | rfl | rfl | rfl | rfl | rfl | rfl | rfl | rfl <;> rfl
noncomputable def s_Ga_pairByWeights_40 (x1 : Int64) (x3 : Int32) (n_has : Nat → Int64) (n_link : Nat → Nat → Int32) (n_nodes : Int32) (zz : Int32 × (Nat → Nat → Int64) × (Nat → Nat → Int64)) (back exit : (Int32 × (Nat → Nat → Int64) × (Nat → Nat → Int64)) → Option (Int64 × (Nat → Nat → Int64) × (Nat → Nat → Int64))) : Option (Int64 × (Nat → Nat → Int64) × (Nat → Nat → Int64)) :=
  (if n_nodes ≤ zz.1 then (exit (zz.1, zz.2.1, zz.2.2)) else (if inb x3 9 then (if inb zz.1 9 then (if inb x3 9 then (back ((zz.1 + 1), (va_up zz.2.1 x3.toNatClampNeg (vp_updL (zz.2.1 x3.toNatClampNeg) zz.1.toNatClampNeg (x1 * ((n_link x3.toNatClampNeg) zz.1.toNatClampNeg).toInt64))), (va_up zz.2.2 x3.toNatClampNeg (vp_updL (zz.2.2 x3.toNatClampNeg) zz.1.toNatClampNeg (((2 : Int64) * (n_has x3.toNatClampNeg)) * (n_has zz.1.toNatClampNeg)))))) else none) else none) else none))
noncomputable def s_Ga_pairByWeights_7 (x1 : Int64) (n_has : Nat → Int64) (n_link : Nat → Nat → Int32) (n_nodes : Int32) (zz : Int32 × Int64 × (Nat → Nat → Int64) × (Nat → Nat → Int64)) (back exit : (Int32 × Int64 × (Nat → Nat → Int64) × (Nat → Nat → Int64)) → Option (Int64 × (Nat → Nat → Int64) × (Nat → Nat → Int64))) : Option (Int64 × (Nat → Nat → Int64) × (Nat → Nat → Int64)) :=
  (if n_nodes ≤ zz.1 then (exit (zz.1, zz.2.1, zz.2.2.1, zz.2.2.2)) else (if inb zz.1 9 then (loopC (s_Ga_pairByWeights_40 x1 zz.1 n_has n_link n_nodes) (fun z40 : Int32 × (Nat → Nat → Int64) × (Nat → Nat → Int64) => (back ((zz.1 + 1), (zz.2.1 + ((n_has zz.1.toNatClampNeg) * (n_has zz.1.toNatClampNeg))), z40.2.1, z40.2.2))) FU ((0 : Int32), zz.2.2.1, zz.2.2.2)) else none))
noncomputable def m_Ga_pairByWeights (n_nodes : Int32) (n_pairA : Nat → Nat → Int64) (n_pairB : Nat → Nat → Int64) (n_link : Nat → Nat → Int32) (n_has : Nat → Int64) (v1 : Int64) : Option (Int64 × (Nat → Nat → Int64) × (Nat → Nat → Int64)) :=
  (loopC (s_Ga_pairByWeights_7 v1 n_has n_link n_nodes) (fun z7 : Int32 × Int64 × (Nat → Nat → Int64) × (Nat → Nat → Int64) => some (z7.2.1, z7.2.2.1, z7.2.2.2)) FU ((0 : Int32), (0 : Int64), n_pairA, n_pairB))
set_option maxHeartbeats 4000000 in
set_option maxRecDepth 100000 in
theorem c_Ga_pairByWeights (l : Launch) (D : va_G) (cA : Nat → ClassId) (a_n : Nat → Nat) (sz : Nat) (n_x : Int32) (n_y : Int32) (n_nodes : Int32) (n_aloneB : Int64) (n_pairA : Nat → Nat → Int64) (n_pairB : Nat → Nat → Int64) (n_link : Nat → Nat → Int32) (n_has : Nat → Int64) (v1 : Int64) (out : Int64 × (Nat → Nat → Int64) × (Nat → Nat → Int64)) (h : m_Ga_pairByWeights n_nodes n_pairA n_pairB n_link n_has v1 = some out) : Met l y_Ga_pairByWeights w_Ga_pairByWeights ({ frames := 0, cells := 0, slots := 0, locals := 0 }) (va_Pc [.ref (a_n 0), .long v1] (fun U => U.heap.size = sz ∧ va_P D cls9 (wd_Ga_pairByWeights cA a_n n_x n_y n_nodes n_aloneB n_pairA n_pairB n_link n_has) U.heap ∧ va_K D cls9 (tys5 cA) U ∧ va_D (fun _ => True) (wd_Ga_pairByWeights cA a_n n_x n_y n_nodes n_aloneB n_pairA n_pairB n_link n_has))) (va_Qv (fun uu : Int64 × (Nat → Nat → Int64) × (Nat → Nat → Int64) => uu = out) (fun (uu : Int64 × (Nat → Nat → Int64) × (Nat → Nat → Int64)) (t : State) => va_P D cls9 (wd_Ga_pairByWeights cA a_n n_x n_y n_nodes uu.1 uu.2.1 uu.2.2 n_link n_has) t.heap ∧ va_K D cls9 (tys5 cA) t ∧ va_D (va_A (wd_Ga_pairByWeights cA a_n n_x n_y n_nodes n_aloneB n_pairA n_pairB n_link n_has) sz) (wd_Ga_pairByWeights cA a_n n_x n_y n_nodes uu.1 uu.2.1 uu.2.2 n_link n_has)) (va_A (wd_Ga_pairByWeights cA a_n n_x n_y n_nodes n_aloneB n_pairA n_pairB n_link n_has) sz)) 0 0 (va_A (wd_Ga_pairByWeights cA a_n n_x n_y n_nodes n_aloneB n_pairA n_pairB n_link n_has) sz) := by
  refine Met.ofW (cc := b_Ga_pairByWeights) (maxL := 5) (ret := (Option.none : Option Jvm.ClassFile.FieldType)) (by decide) rfl ?_
  intro p e s m args below meth c s₁ B hml hv
  obtain ⟨rfl, hsz, hP, hK, hD0⟩ := hv
  have hx := B.exec
  have hb := B.bytes
  have hr := B.returns
  have hts := atoms_spec (ws := w_Ga_pairByWeights) B.pre
  have hal : ∀ w ∈ ALLW, w.before _ s = true := fun w hw => hts w (List.mem_cons_of_mem _ hw)
  have hown : s.vm.findClass R_Ga = some m.cls := findClass_of_methodNamed B.named
  have hlocks := B.notSynchronized
  subst hsz
  have hD := hD0.self (sz := s.heap.size)
  generalize hAe : va_A (wd_Ga_pairByWeights cA a_n n_x n_y n_nodes n_aloneB n_pairA n_pairB n_link n_has) s.heap.size = A at hD ⊢
  have hA : ∀ q : Nat, s.heap.size ≤ q → A q := fun q h => by rw [← hAe]; exact Or.inr h
  have hS : va_S A s.heap s.heap [] := va_S.rf
  have hl := lv_entry ([.ref (a_n 0), .long v1]) (n := 5) (Nat.le_of_ble_eq_true rfl)
  rw [lg_entry_eq]
  generalize (lg_sl ([.ref (a_n 0), .long v1]) ++ List.replicate (5 - (lg_sl ([.ref (a_n 0), .long v1])).length) Slot.unset).toArray = ls at hl ⊢
  have hl : lv_has ls 5 [(0, .ref (a_n 0)), (1, .long v1)] := hl
  refine wg (fun G hG => ?_)
  refine cast (hG _ _ _ _ _ _ _).symm ?_
  obtain ⟨H, locs, hHl, hS⟩ : ∃ (H : Heap) (locs : List Loc), (H = s.heap ∧ locs = []) ∧ va_S A s.heap H locs := ⟨s.heap, [], ⟨rfl, rfl⟩, hS⟩
  have hP : va_P D cls9 (wd_Ga_pairByWeights cA a_n n_x n_y n_nodes n_aloneB n_pairA n_pairB n_link n_has) H := by rw [hHl.1]; exact hP
  rw [← hHl.1, ← hHl.2]
  clear hHl
  refine lv_aload_n hx hb d_Ga_pairByWeights_0 rfl (lv_at hl 0 rfl) ?_
  refine lv_lconst (v := 0) hx hb d_Ga_pairByWeights_1 (by decide) ?_
  refine va_put (ci := 0) (v := .long (0 : Int64)) (ty := .long) (C := R_Ga) (T := F_Ga) (N := 9) hx hb hal in_Ga t_Ga t_Ga_ok n_Ga hown hK hP hD hS 0 rfl rfl 3 (by decide) (hal _ kw_75) (fun _ h9 => h9) rfl (by decide +kernel) rfl rfl (Nat.le_of_ble_eq_true rfl) d_Ga_pairByWeights_2 (fun H locs hP hD hS => ?_)
  have hP : va_P D cls9 (wd_Ga_pairByWeights cA a_n n_x n_y n_nodes (0 : Int64) n_pairA n_pairB n_link n_has) H := hP
  have hD : va_D A (wd_Ga_pairByWeights cA a_n n_x n_y n_nodes (0 : Int64) n_pairA n_pairB n_link n_has) := hD
  refine lv_iconst (v := 0) hx hb d_Ga_pairByWeights_5 (by decide) ?_
  refine lv_istore_n (lv' := [(3, .int (0 : Int32)), (0, .ref (a_n 0)), (1, .long v1)]) hx hb d_Ga_pairByWeights_6 rfl hl (by decide) rfl (fun ls hl => ?_)
  refine cast (hG _ _ _ _ _ _ _) (lp_go2 h (fun zz : Int32 × Int64 × (Nat → Nat → Int64) × (Nat → Nat → Int64) => ∀ (H : Heap) (locs : List Loc) (ls : Array Slot), va_P D cls9 (wd_Ga_pairByWeights cA a_n n_x n_y n_nodes zz.2.1 zz.2.2.1 zz.2.2.2 n_link n_has) H → va_D A (wd_Ga_pairByWeights cA a_n n_x n_y n_nodes zz.2.1 zz.2.2.1 zz.2.2.2 n_link n_has) → va_S A s.heap H locs → lv_has ls 5 [(3, .int zz.1), (0, .ref (a_n 0)), (1, .long v1)] → G H locs 0 0 ls 109 []) ?_ (fun zz : Int32 × Int64 × (Nat → Nat → Int64) × (Nat → Nat → Int64) => ∀ (H : Heap) (locs : List Loc) (ls : Array Slot), va_P D cls9 (wd_Ga_pairByWeights cA a_n n_x n_y n_nodes zz.2.1 zz.2.2.1 zz.2.2.2 n_link n_has) H → va_D A (wd_Ga_pairByWeights cA a_n n_x n_y n_nodes zz.2.1 zz.2.2.1 zz.2.2.2 n_link n_has) → va_S A s.heap H locs → lv_has ls 5 [(3, .int zz.1), (0, .ref (a_n 0)), (1, .long v1)] → G H locs 0 0 ls 7 []) ?_ _ _ ls hP hD hS (lv_sub hl [0, 1, 2] rfl))
  · intro zz h H locs ls hP hD hS hl
    obtain ⟨x3_7e, n_aloneB_7e, n_pairA_7e, n_pairB_7e⟩ := zz
    have hP : va_P D cls9 (wd_Ga_pairByWeights cA a_n n_x n_y n_nodes n_aloneB_7e n_pairA_7e n_pairB_7e n_link n_has) H := hP
    have hD : va_D A (wd_Ga_pairByWeights cA a_n n_x n_y n_nodes n_aloneB_7e n_pairA_7e n_pairB_7e n_link n_has) := hD
    have hl : lv_has ls 5 [(3, .int x3_7e), (0, .ref (a_n 0)), (1, .long v1)] := hl
    refine cast (hG _ _ _ _ _ _ _).symm ?_
    exact W.vret hx hb hr (fun t ht hW => ⟨⟨(n_aloneB_7e, n_pairA_7e, n_pairB_7e), rfl, Option.some.inj h, by rw [ht]; exact hP, va_K.moved hW.alike hK, hD⟩, hS.F ht⟩) hS.2.2 d_Ga_pairByWeights_109
  · intro back exit zz hB_7 hE_7 h H locs ls hP hD hS hl
    obtain ⟨x3_7, n_aloneB_7, n_pairA_7, n_pairB_7⟩ := zz
    have hP : va_P D cls9 (wd_Ga_pairByWeights cA a_n n_x n_y n_nodes n_aloneB_7 n_pairA_7 n_pairB_7 n_link n_has) H := hP
    have hD : va_D A (wd_Ga_pairByWeights cA a_n n_x n_y n_nodes n_aloneB_7 n_pairA_7 n_pairB_7 n_link n_has) := hD
    have hl : lv_has ls 5 [(3, .int x3_7), (0, .ref (a_n 0)), (1, .long v1)] := hl
    refine cast (hG _ _ _ _ _ _ _).symm ?_
    refine lv_iload_n hx hb d_Ga_pairByWeights_7 rfl (lv_at hl 0 rfl) ?_
    refine lv_aload_n hx hb d_Ga_pairByWeights_8 rfl (lv_at hl 1 rfl) ?_
    refine va_get (ci := 0) (v := .int n_nodes) (C := R_Ga) (T := F_Ga) (N := 9) hx hb hal in_Ga hown hK hP 0 rfl rfl 2 (by decide) (hal _ kw_71) (fun _ h9 => h9) rfl d_Ga_pairByWeights_9 ?_
    refine lv_icmp_ge (tgt := 109) hx hb d_Ga_pairByWeights_12 (by decide) (fun c_1 => ?_) (fun c_1 => ?_)
    · have h := ifp (c_1) h
      exact cast (hG _ _ _ _ _ _ _) (hE_7 (x3_7, n_aloneB_7, n_pairA_7, n_pairB_7) h _ _ _ hP hD hS (lv_sub hl [0, 1, 2] rfl))
    · have h := ifn (c_1) h
      refine lv_aload_n hx hb d_Ga_pairByWeights_15 rfl (lv_at hl 1 rfl) ?_
      refine lv_dup hx hb d_Ga_pairByWeights_16 rfl ?_
      refine va_get (ci := 0) (v := .long n_aloneB_7) (C := R_Ga) (T := F_Ga) (N := 9) hx hb hal in_Ga hown hK hP 0 rfl rfl 3 (by decide) (hal _ kw_75) (fun _ h9 => h9) rfl d_Ga_pairByWeights_17 ?_
      refine lv_aload_n hx hb d_Ga_pairByWeights_20 rfl (lv_at hl 1 rfl) ?_
      refine va_get (ci := 0) (v := .ref (a_n 32)) (C := R_Ga) (T := F_Ga) (N := 9) hx hb hal in_Ga hown hK hP 0 rfl rfl 8 (by decide) (hal _ kw_84) (fun _ h9 => h9) rfl d_Ga_pairByWeights_21 ?_
      refine lv_iload_n hx hb d_Ga_pairByWeights_24 rfl (lv_at hl 0 rfl) ?_
      obtain ⟨g_2, h⟩ := gd h
      refine va_lald hx hb hK hP 31 1 rfl rfl (inb_in g_2) d_Ga_pairByWeights_25 ?_
      refine lv_aload_n hx hb d_Ga_pairByWeights_26 rfl (lv_at hl 1 rfl) ?_
      refine va_get (ci := 0) (v := .ref (a_n 32)) (C := R_Ga) (T := F_Ga) (N := 9) hx hb hal in_Ga hown hK hP 0 rfl rfl 8 (by decide) (hal _ kw_84) (fun _ h9 => h9) rfl d_Ga_pairByWeights_27 ?_
      refine lv_iload_n hx hb d_Ga_pairByWeights_30 rfl (lv_at hl 0 rfl) ?_
      refine va_lald hx hb hK hP 31 1 rfl rfl (inb_in g_2) d_Ga_pairByWeights_31 ?_
      refine lv_lmul hx hb d_Ga_pairByWeights_32 ?_
      refine lv_ladd hx hb d_Ga_pairByWeights_33 ?_
      refine va_put (ci := 0) (v := .long (n_aloneB_7 + ((n_has x3_7.toNatClampNeg) * (n_has x3_7.toNatClampNeg)))) (ty := .long) (C := R_Ga) (T := F_Ga) (N := 9) hx hb hal in_Ga t_Ga t_Ga_ok n_Ga hown hK hP hD hS 0 rfl rfl 3 (by decide) (hal _ kw_75) (fun _ h9 => h9) rfl (by decide +kernel) rfl rfl (Nat.le_of_ble_eq_true rfl) d_Ga_pairByWeights_34 (fun H locs hP hD hS => ?_)
      have hP : va_P D cls9 (wd_Ga_pairByWeights cA a_n n_x n_y n_nodes (n_aloneB_7 + ((n_has x3_7.toNatClampNeg) * (n_has x3_7.toNatClampNeg))) n_pairA_7 n_pairB_7 n_link n_has) H := hP
      have hD : va_D A (wd_Ga_pairByWeights cA a_n n_x n_y n_nodes (n_aloneB_7 + ((n_has x3_7.toNatClampNeg) * (n_has x3_7.toNatClampNeg))) n_pairA_7 n_pairB_7 n_link n_has) := hD
      refine lv_iconst (v := 0) hx hb d_Ga_pairByWeights_37 (by decide) ?_
      refine lv_istore (lv' := [(4, .int (0 : Int32)), (3, .int x3_7), (0, .ref (a_n 0)), (1, .long v1)]) hx hb d_Ga_pairByWeights_38 hl (by decide) rfl (fun ls hl => ?_)
      refine cast (hG _ _ _ _ _ _ _) (lp_go2 h (fun zz : Int32 × (Nat → Nat → Int64) × (Nat → Nat → Int64) => ∀ (H : Heap) (locs : List Loc) (ls : Array Slot), va_P D cls9 (wd_Ga_pairByWeights cA a_n n_x n_y n_nodes (n_aloneB_7 + ((n_has x3_7.toNatClampNeg) * (n_has x3_7.toNatClampNeg))) zz.2.1 zz.2.2 n_link n_has) H → va_D A (wd_Ga_pairByWeights cA a_n n_x n_y n_nodes (n_aloneB_7 + ((n_has x3_7.toNatClampNeg) * (n_has x3_7.toNatClampNeg))) zz.2.1 zz.2.2 n_link n_has) → va_S A s.heap H locs → lv_has ls 5 [(4, .int zz.1), (3, .int x3_7), (0, .ref (a_n 0)), (1, .long v1)] → G H locs 0 0 ls 103 []) ?_ (fun zz : Int32 × (Nat → Nat → Int64) × (Nat → Nat → Int64) => ∀ (H : Heap) (locs : List Loc) (ls : Array Slot), va_P D cls9 (wd_Ga_pairByWeights cA a_n n_x n_y n_nodes (n_aloneB_7 + ((n_has x3_7.toNatClampNeg) * (n_has x3_7.toNatClampNeg))) zz.2.1 zz.2.2 n_link n_has) H → va_D A (wd_Ga_pairByWeights cA a_n n_x n_y n_nodes (n_aloneB_7 + ((n_has x3_7.toNatClampNeg) * (n_has x3_7.toNatClampNeg))) zz.2.1 zz.2.2 n_link n_has) → va_S A s.heap H locs → lv_has ls 5 [(4, .int zz.1), (3, .int x3_7), (0, .ref (a_n 0)), (1, .long v1)] → G H locs 0 0 ls 40 []) ?_ _ _ ls hP hD hS (lv_sub hl [0, 1, 2, 3] rfl))
      · intro zz h H locs ls hP hD hS hl
        obtain ⟨x4_40e, n_pairA_40e, n_pairB_40e⟩ := zz
        have hP : va_P D cls9 (wd_Ga_pairByWeights cA a_n n_x n_y n_nodes (n_aloneB_7 + ((n_has x3_7.toNatClampNeg) * (n_has x3_7.toNatClampNeg))) n_pairA_40e n_pairB_40e n_link n_has) H := hP
        have hD : va_D A (wd_Ga_pairByWeights cA a_n n_x n_y n_nodes (n_aloneB_7 + ((n_has x3_7.toNatClampNeg) * (n_has x3_7.toNatClampNeg))) n_pairA_40e n_pairB_40e n_link n_has) := hD
        have hl : lv_has ls 5 [(4, .int x4_40e), (3, .int x3_7), (0, .ref (a_n 0)), (1, .long v1)] := hl
        refine cast (hG _ _ _ _ _ _ _).symm ?_
        refine lv_iinc (v := (x3_7 + 1)) (lv' := [(3, .int (x3_7 + 1)), (4, .int x4_40e), (0, .ref (a_n 0)), (1, .long v1)]) hx hb d_Ga_pairByWeights_103 hl (k := 1) rfl rfl (by decide) rfl (fun ls hl => ?_)
        refine lv_goto (tgt := 7) hx hb d_Ga_pairByWeights_106 (by decide) ?_
        exact cast (hG _ _ _ _ _ _ _) (hB_7 ((x3_7 + 1), (n_aloneB_7 + ((n_has x3_7.toNatClampNeg) * (n_has x3_7.toNatClampNeg))), n_pairA_40e, n_pairB_40e) h _ _ _ hP hD hS (lv_sub hl [0, 2, 3] rfl))
      · intro back exit zz hB_40 hE_40 h H locs ls hP hD hS hl
        obtain ⟨x4_40, n_pairA_40, n_pairB_40⟩ := zz
        have hP : va_P D cls9 (wd_Ga_pairByWeights cA a_n n_x n_y n_nodes (n_aloneB_7 + ((n_has x3_7.toNatClampNeg) * (n_has x3_7.toNatClampNeg))) n_pairA_40 n_pairB_40 n_link n_has) H := hP
        have hD : va_D A (wd_Ga_pairByWeights cA a_n n_x n_y n_nodes (n_aloneB_7 + ((n_has x3_7.toNatClampNeg) * (n_has x3_7.toNatClampNeg))) n_pairA_40 n_pairB_40 n_link n_has) := hD
        have hl : lv_has ls 5 [(4, .int x4_40), (3, .int x3_7), (0, .ref (a_n 0)), (1, .long v1)] := hl
        refine cast (hG _ _ _ _ _ _ _).symm ?_
        refine lv_iload hx hb d_Ga_pairByWeights_40 (lv_at hl 0 rfl) ?_
        refine lv_aload_n hx hb d_Ga_pairByWeights_42 rfl (lv_at hl 2 rfl) ?_
        refine va_get (ci := 0) (v := .int n_nodes) (C := R_Ga) (T := F_Ga) (N := 9) hx hb hal in_Ga hown hK hP 0 rfl rfl 2 (by decide) (hal _ kw_71) (fun _ h9 => h9) rfl d_Ga_pairByWeights_43 ?_
        refine lv_icmp_ge (tgt := 103) hx hb d_Ga_pairByWeights_46 (by decide) (fun c_3 => ?_) (fun c_3 => ?_)
        · have h := ifp (c_3) h
          exact cast (hG _ _ _ _ _ _ _) (hE_40 (x4_40, n_pairA_40, n_pairB_40) h _ _ _ hP hD hS (lv_sub hl [0, 1, 2, 3] rfl))
        · have h := ifn (c_3) h
          refine lv_aload_n hx hb d_Ga_pairByWeights_49 rfl (lv_at hl 2 rfl) ?_
          refine va_get (ci := 0) (v := .ref (a_n 1)) (C := R_Ga) (T := F_Ga) (N := 9) hx hb hal in_Ga hown hK hP 0 rfl rfl 4 (by decide) (hal _ kw_76) (fun _ h9 => h9) rfl d_Ga_pairByWeights_50 ?_
          refine lv_iload_n hx hb d_Ga_pairByWeights_53 rfl (lv_at hl 1 rfl) ?_
          obtain ⟨g_4, h⟩ := gd h
          refine my_aald (ad := fun i => a_n (i + 2)) (t := .long) hx hb hK hP 1 4 rfl rfl (inb_in g_4) (inb_lt g_4) d_Ga_pairByWeights_54 ?_
          refine lv_iload hx hb d_Ga_pairByWeights_55 (lv_at hl 0 rfl) ?_
          refine lv_lload_n hx hb d_Ga_pairByWeights_57 rfl (lv_at hl 3 rfl) ?_
          refine lv_aload_n hx hb d_Ga_pairByWeights_58 rfl (lv_at hl 2 rfl) ?_
          refine va_get (ci := 0) (v := .ref (a_n 21)) (C := R_Ga) (T := F_Ga) (N := 9) hx hb hal in_Ga hown hK hP 0 rfl rfl 6 (by decide) (hal _ kw_80) (fun _ h9 => h9) rfl d_Ga_pairByWeights_59 ?_
          refine lv_iload_n hx hb d_Ga_pairByWeights_62 rfl (lv_at hl 1 rfl) ?_
          refine my_aald (ad := fun i => a_n (i + 22)) (t := .int) hx hb hK hP 21 3 rfl rfl (inb_in g_4) (inb_lt g_4) d_Ga_pairByWeights_63 ?_
          refine lv_iload hx hb d_Ga_pairByWeights_64 (lv_at hl 0 rfl) ?_
          obtain ⟨g_5, h⟩ := gd h
          refine va_iald hx hb hK hP (22 + x3_7.toNatClampNeg) 0 (row_Ga_pairByWeights_n_link _ _ (inb_lt g_4)) rfl (inb_in g_5) d_Ga_pairByWeights_66 ?_
          refine lv_i2l hx hb d_Ga_pairByWeights_67 rfl ?_
          refine lv_lmul hx hb d_Ga_pairByWeights_68 ?_
          refine va_last hx hb hK hP hD hS (2 + x3_7.toNatClampNeg) 1 (row_Ga_pairByWeights_n_pairA _ _ (inb_lt g_4)) rfl (inb_in g_5) d_Ga_pairByWeights_69 (fun H locs hP hD hS => ?_)
          have hP : va_P D cls9 (wd_Ga_pairByWeights cA a_n n_x n_y n_nodes (n_aloneB_7 + ((n_has x3_7.toNatClampNeg) * (n_has x3_7.toNatClampNeg))) (va_up n_pairA_40 x3_7.toNatClampNeg (vp_updL (n_pairA_40 x3_7.toNatClampNeg) x4_40.toNatClampNeg (v1 * ((n_link x3_7.toNatClampNeg) x4_40.toNatClampNeg).toInt64))) n_pairB_40 n_link n_has) H := (set_Ga_pairByWeights_n_pairA _ (inb_lt g_4)).subst (motive := fun x => va_P D cls9 x H) hP
          have hD : va_D A (wd_Ga_pairByWeights cA a_n n_x n_y n_nodes (n_aloneB_7 + ((n_has x3_7.toNatClampNeg) * (n_has x3_7.toNatClampNeg))) (va_up n_pairA_40 x3_7.toNatClampNeg (vp_updL (n_pairA_40 x3_7.toNatClampNeg) x4_40.toNatClampNeg (v1 * ((n_link x3_7.toNatClampNeg) x4_40.toNatClampNeg).toInt64))) n_pairB_40 n_link n_has) := (set_Ga_pairByWeights_n_pairA _ (inb_lt g_4)).subst (motive := fun x => va_D A x) hD
          refine lv_aload_n hx hb d_Ga_pairByWeights_70 rfl (lv_at hl 2 rfl) ?_
          refine va_get (ci := 0) (v := .ref (a_n 11)) (C := R_Ga) (T := F_Ga) (N := 9) hx hb hal in_Ga hown hK hP 0 rfl rfl 5 (by decide) (hal _ kw_78) (fun _ h9 => h9) rfl d_Ga_pairByWeights_71 ?_
          refine lv_iload_n hx hb d_Ga_pairByWeights_74 rfl (lv_at hl 1 rfl) ?_
          refine my_aald (ad := fun i => a_n (i + 12)) (t := .long) hx hb hK hP 11 4 rfl rfl (inb_in g_4) (inb_lt g_4) d_Ga_pairByWeights_75 ?_
          refine lv_iload hx hb d_Ga_pairByWeights_76 (lv_at hl 0 rfl) ?_
          refine lv_ldc2 (v := 2) hx hb hown (hal _ kw_301) d_Ga_pairByWeights_78 ?_
          refine lv_aload_n hx hb d_Ga_pairByWeights_81 rfl (lv_at hl 2 rfl) ?_
          refine va_get (ci := 0) (v := .ref (a_n 32)) (C := R_Ga) (T := F_Ga) (N := 9) hx hb hal in_Ga hown hK hP 0 rfl rfl 8 (by decide) (hal _ kw_84) (fun _ h9 => h9) rfl d_Ga_pairByWeights_82 ?_
          refine lv_iload_n hx hb d_Ga_pairByWeights_85 rfl (lv_at hl 1 rfl) ?_
          obtain ⟨g_6, h⟩ := gd h
          refine va_lald hx hb hK hP 31 1 rfl rfl (inb_in g_6) d_Ga_pairByWeights_86 ?_
          refine lv_lmul hx hb d_Ga_pairByWeights_87 ?_
          refine lv_aload_n hx hb d_Ga_pairByWeights_88 rfl (lv_at hl 2 rfl) ?_
          refine va_get (ci := 0) (v := .ref (a_n 32)) (C := R_Ga) (T := F_Ga) (N := 9) hx hb hal in_Ga hown hK hP 0 rfl rfl 8 (by decide) (hal _ kw_84) (fun _ h9 => h9) rfl d_Ga_pairByWeights_89 ?_
          refine lv_iload hx hb d_Ga_pairByWeights_92 (lv_at hl 0 rfl) ?_
          refine va_lald hx hb hK hP 31 1 rfl rfl (inb_in g_5) d_Ga_pairByWeights_94 ?_
          refine lv_lmul hx hb d_Ga_pairByWeights_95 ?_
          refine va_last hx hb hK hP hD hS (12 + x3_7.toNatClampNeg) 1 (row_Ga_pairByWeights_n_pairB _ _ (inb_lt g_4)) rfl (inb_in g_5) d_Ga_pairByWeights_96 (fun H locs hP hD hS => ?_)
          have hP : va_P D cls9 (wd_Ga_pairByWeights cA a_n n_x n_y n_nodes (n_aloneB_7 + ((n_has x3_7.toNatClampNeg) * (n_has x3_7.toNatClampNeg))) (va_up n_pairA_40 x3_7.toNatClampNeg (vp_updL (n_pairA_40 x3_7.toNatClampNeg) x4_40.toNatClampNeg (v1 * ((n_link x3_7.toNatClampNeg) x4_40.toNatClampNeg).toInt64))) (va_up n_pairB_40 x3_7.toNatClampNeg (vp_updL (n_pairB_40 x3_7.toNatClampNeg) x4_40.toNatClampNeg (((2 : Int64) * (n_has x3_7.toNatClampNeg)) * (n_has x4_40.toNatClampNeg)))) n_link n_has) H := (set_Ga_pairByWeights_n_pairB _ (inb_lt g_4)).subst (motive := fun x => va_P D cls9 x H) hP
          have hD : va_D A (wd_Ga_pairByWeights cA a_n n_x n_y n_nodes (n_aloneB_7 + ((n_has x3_7.toNatClampNeg) * (n_has x3_7.toNatClampNeg))) (va_up n_pairA_40 x3_7.toNatClampNeg (vp_updL (n_pairA_40 x3_7.toNatClampNeg) x4_40.toNatClampNeg (v1 * ((n_link x3_7.toNatClampNeg) x4_40.toNatClampNeg).toInt64))) (va_up n_pairB_40 x3_7.toNatClampNeg (vp_updL (n_pairB_40 x3_7.toNatClampNeg) x4_40.toNatClampNeg (((2 : Int64) * (n_has x3_7.toNatClampNeg)) * (n_has x4_40.toNatClampNeg)))) n_link n_has) := (set_Ga_pairByWeights_n_pairB _ (inb_lt g_4)).subst (motive := fun x => va_D A x) hD
          refine lv_iinc (v := (x4_40 + 1)) (lv' := [(4, .int (x4_40 + 1)), (3, .int x3_7), (0, .ref (a_n 0)), (1, .long v1)]) hx hb d_Ga_pairByWeights_97 hl (k := 0) rfl rfl (by decide) rfl (fun ls hl => ?_)
          refine lv_goto (tgt := 40) hx hb d_Ga_pairByWeights_100 (by decide) ?_
          exact cast (hG _ _ _ _ _ _ _) (hB_40 ((x4_40 + 1), (va_up n_pairA_40 x3_7.toNatClampNeg (vp_updL (n_pairA_40 x3_7.toNatClampNeg) x4_40.toNatClampNeg (v1 * ((n_link x3_7.toNatClampNeg) x4_40.toNatClampNeg).toInt64))), (va_up n_pairB_40 x3_7.toNatClampNeg (vp_updL (n_pairB_40 x3_7.toNatClampNeg) x4_40.toNatClampNeg (((2 : Int64) * (n_has x3_7.toNatClampNeg)) * (n_has x4_40.toNatClampNeg))))) h _ _ _ hP hD hS (lv_sub hl [0, 1, 2, 3] rfl))
def wd_Ga_pairByNumbers (cA : Nat → ClassId) (a_n : Nat → Nat) (n_x : Int32) (n_y : Int32) (n_nodes : Int32) (n_aloneB : Int64) (n_pairA : Nat → Nat → Int64) (n_pairB : Nat → Nat → Int64) (n_link : Nat → Nat → Int32) : va_W := [(a_n 0, .inr (0, [.int n_x, .int n_y, .int n_nodes, .long n_aloneB, .ref (a_n 1), .ref (a_n 11), .ref (a_n 21), .ref (a_n 31), .ref (a_n 32)])), (a_n 1, .inl (cA 4, 9, .inr (.inr (.inr (.inr (fun i => if i < 9 then some (a_n (i + 2)) else none)))))), (a_n (0 + 2), .inl (cA 1, 9, .inr (.inl (n_pairA 0)))), (a_n (1 + 2), .inl (cA 1, 9, .inr (.inl (n_pairA 1)))), (a_n (2 + 2), .inl (cA 1, 9, .inr (.inl (n_pairA 2)))), (a_n (3 + 2), .inl (cA 1, 9, .inr (.inl (n_pairA 3)))), (a_n (4 + 2), .inl (cA 1, 9, .inr (.inl (n_pairA 4)))), (a_n (5 + 2), .inl (cA 1, 9, .inr (.inl (n_pairA 5)))), (a_n (6 + 2), .inl (cA 1, 9, .inr (.inl (n_pairA 6)))), (a_n (7 + 2), .inl (cA 1, 9, .inr (.inl (n_pairA 7)))), (a_n (8 + 2), .inl (cA 1, 9, .inr (.inl (n_pairA 8)))), (a_n 11, .inl (cA 4, 9, .inr (.inr (.inr (.inr (fun i => if i < 9 then some (a_n (i + 12)) else none)))))), (a_n (0 + 12), .inl (cA 1, 9, .inr (.inl (n_pairB 0)))), (a_n (1 + 12), .inl (cA 1, 9, .inr (.inl (n_pairB 1)))), (a_n (2 + 12), .inl (cA 1, 9, .inr (.inl (n_pairB 2)))), (a_n (3 + 12), .inl (cA 1, 9, .inr (.inl (n_pairB 3)))), (a_n (4 + 12), .inl (cA 1, 9, .inr (.inl (n_pairB 4)))), (a_n (5 + 12), .inl (cA 1, 9, .inr (.inl (n_pairB 5)))), (a_n (6 + 12), .inl (cA 1, 9, .inr (.inl (n_pairB 6)))), (a_n (7 + 12), .inl (cA 1, 9, .inr (.inl (n_pairB 7)))), (a_n (8 + 12), .inl (cA 1, 9, .inr (.inl (n_pairB 8)))), (a_n 21, .inl (cA 3, 9, .inr (.inr (.inr (.inr (fun i => if i < 9 then some (a_n (i + 22)) else none)))))), (a_n (0 + 22), .inl (cA 0, 9, .inl (n_link 0))), (a_n (1 + 22), .inl (cA 0, 9, .inl (n_link 1))), (a_n (2 + 22), .inl (cA 0, 9, .inl (n_link 2))), (a_n (3 + 22), .inl (cA 0, 9, .inl (n_link 3))), (a_n (4 + 22), .inl (cA 0, 9, .inl (n_link 4))), (a_n (5 + 22), .inl (cA 0, 9, .inl (n_link 5))), (a_n (6 + 22), .inl (cA 0, 9, .inl (n_link 6))), (a_n (7 + 22), .inl (cA 0, 9, .inl (n_link 7))), (a_n (8 + 22), .inl (cA 0, 9, .inl (n_link 8)))]
theorem row_Ga_pairByNumbers_n_pairA {cA : Nat → ClassId} {a_n : Nat → Nat} {n_x : Int32} {n_y : Int32} {n_nodes : Int32} {n_aloneB : Int64} {n_pairB : Nat → Nat → Int64} {n_link : Nat → Nat → Int32} (n_pairA : Nat → Nat → Int64) (k : Nat) (hk : k < 9) : (wd_Ga_pairByNumbers cA a_n n_x n_y n_nodes n_aloneB n_pairA n_pairB n_link)[2 + k]? = some (a_n (k + 2), .inl (cA 1, 9, .inr (.inl (n_pairA k)))) := by
  rcases lt9 hk with rfl | rfl | rfl | rfl | rfl | rfl | rfl | rfl | rfl <;> rfl
theorem set_Ga_pairByNumbers_n_pairA {cA : Nat → ClassId} {a_n : Nat → Nat} {n_x : Int32} {n_y : Int32} {n_nodes : Int32} {n_aloneB : Int64} {n_pairB : Nat → Nat → Int64} {n_link : Nat → Nat → Int32} {n_pairA : Nat → Nat → Int64} {f : Nat → Int64} (k : Nat) (hk : k < 9) : (wd_Ga_pairByNumbers cA a_n n_x n_y n_nodes n_aloneB n_pairA n_pairB n_link).set (2 + k) (a_n (k + 2), .inl (cA 1, 9, .inr (.inl f))) = wd_Ga_pairByNumbers cA a_n n_x n_y n_nodes n_aloneB (va_up n_pairA k f) n_pairB n_link := by
  rcases lt9 hk with rfl | rfl | rfl | rfl | rfl | rfl | rfl | rfl | rfl <;> rfl
theorem row_Ga_pairByNumbers_n_pairB {cA : Nat → ClassId} {a_n : Nat → Nat} {n_x : Int32} {n_y : Int32} {n_nodes : Int32} {n_aloneB : Int64} {n_pairA : Nat → Nat → Int64} {n_link : Nat → Nat → Int32} (n_pairB : Nat → Nat → Int64) (k : Nat) (hk : k < 9) : (wd_Ga_pairByNumbers cA a_n n_x n_y n_nodes n_aloneB n_pairA n_pairB n_link)[12 + k]? = some (a_n (k + 12), .inl (cA 1, 9, .inr (.inl (n_pairB k)))) := by
  rcases lt9 hk with rfl | rfl | rfl | rfl | rfl | rfl | rfl | rfl | rfl <;> rfl
theorem set_Ga_pairByNumbers_n_pairB {cA : Nat → ClassId} {a_n : Nat → Nat} {n_x : Int32} {n_y : Int32} {n_nodes : Int32} {n_aloneB : Int64} {n_pairA : Nat → Nat → Int64} {n_link : Nat → Nat → Int32} {n_pairB : Nat → Nat → Int64} {f : Nat → Int64} (k : Nat) (hk : k < 9) : (wd_Ga_pairByNumbers cA a_n n_x n_y n_nodes n_aloneB n_pairA n_pairB n_link).set (12 + k) (a_n (k + 12), .inl (cA 1, 9, .inr (.inl f))) = wd_Ga_pairByNumbers cA a_n n_x n_y n_nodes n_aloneB n_pairA (va_up n_pairB k f) n_link := by
  rcases lt9 hk with rfl | rfl | rfl | rfl | rfl | rfl | rfl | rfl | rfl <;> rfl
theorem row_Ga_pairByNumbers_n_link {cA : Nat → ClassId} {a_n : Nat → Nat} {n_x : Int32} {n_y : Int32} {n_nodes : Int32} {n_aloneB : Int64} {n_pairA : Nat → Nat → Int64} {n_pairB : Nat → Nat → Int64} (n_link : Nat → Nat → Int32) (k : Nat) (hk : k < 9) : (wd_Ga_pairByNumbers cA a_n n_x n_y n_nodes n_aloneB n_pairA n_pairB n_link)[22 + k]? = some (a_n (k + 22), .inl (cA 0, 9, .inl (n_link k))) := by
  rcases lt9 hk with rfl | rfl | rfl | rfl | rfl | rfl | rfl | rfl | rfl <;> rfl
theorem set_Ga_pairByNumbers_n_link {cA : Nat → ClassId} {a_n : Nat → Nat} {n_x : Int32} {n_y : Int32} {n_nodes : Int32} {n_aloneB : Int64} {n_pairA : Nat → Nat → Int64} {n_pairB : Nat → Nat → Int64} {n_link : Nat → Nat → Int32} {f : Nat → Int32} (k : Nat) (hk : k < 9) : (wd_Ga_pairByNumbers cA a_n n_x n_y n_nodes n_aloneB n_pairA n_pairB n_link).set (22 + k) (a_n (k + 22), .inl (cA 0, 9, .inl f)) = wd_Ga_pairByNumbers cA a_n n_x n_y n_nodes n_aloneB n_pairA n_pairB (va_up n_link k f) := by
  rcases lt9 hk with rfl | rfl | rfl | rfl | rfl | rfl | rfl | rfl | rfl <;> rfl
noncomputable def s_Ga_pairByNumbers_17 (x1 : Int32) (n_link : Nat → Nat → Int32) (n_nodes : Int32) (zz : Int32 × (Nat → Nat → Int64) × (Nat → Nat → Int64)) (back exit : (Int32 × (Nat → Nat → Int64) × (Nat → Nat → Int64)) → Option (Int64 × (Nat → Nat → Int64) × (Nat → Nat → Int64))) : Option (Int64 × (Nat → Nat → Int64) × (Nat → Nat → Int64)) :=
  (if n_nodes ≤ zz.1 then (exit (zz.1, zz.2.1, zz.2.2)) else (if inb x1 9 then (if inb zz.1 9 then (back ((zz.1 + 1), (va_up zz.2.1 x1.toNatClampNeg (vp_updL (zz.2.1 x1.toNatClampNeg) zz.1.toNatClampNeg (((n_link x1.toNatClampNeg) zz.1.toNatClampNeg).toInt64))), (va_up zz.2.2 x1.toNatClampNeg (vp_updL (zz.2.2 x1.toNatClampNeg) zz.1.toNatClampNeg (1 : Int64))))) else none) else none))
noncomputable def s_Ga_pairByNumbers_7 (n_link : Nat → Nat → Int32) (n_nodes : Int32) (zz : Int32 × (Nat → Nat → Int64) × (Nat → Nat → Int64)) (back exit : (Int32 × (Nat → Nat → Int64) × (Nat → Nat → Int64)) → Option (Int64 × (Nat → Nat → Int64) × (Nat → Nat → Int64))) : Option (Int64 × (Nat → Nat → Int64) × (Nat → Nat → Int64)) :=
  (if n_nodes ≤ zz.1 then (exit (zz.1, zz.2.1, zz.2.2)) else (loopC (s_Ga_pairByNumbers_17 zz.1 n_link n_nodes) (fun z17 : Int32 × (Nat → Nat → Int64) × (Nat → Nat → Int64) => (back ((zz.1 + 1), z17.2.1, z17.2.2))) FU ((0 : Int32), zz.2.1, zz.2.2)))
noncomputable def m_Ga_pairByNumbers (n_nodes : Int32) (n_pairA : Nat → Nat → Int64) (n_pairB : Nat → Nat → Int64) (n_link : Nat → Nat → Int32) : Option (Int64 × (Nat → Nat → Int64) × (Nat → Nat → Int64)) :=
  (loopC (s_Ga_pairByNumbers_7 n_link n_nodes) (fun z7 : Int32 × (Nat → Nat → Int64) × (Nat → Nat → Int64) => some ((0 : Int64), z7.2.1, z7.2.2)) FU ((0 : Int32), n_pairA, n_pairB))
set_option maxHeartbeats 4000000 in
set_option maxRecDepth 100000 in
theorem c_Ga_pairByNumbers (l : Launch) (D : va_G) (cA : Nat → ClassId) (a_n : Nat → Nat) (sz : Nat) (n_x : Int32) (n_y : Int32) (n_nodes : Int32) (n_aloneB : Int64) (n_pairA : Nat → Nat → Int64) (n_pairB : Nat → Nat → Int64) (n_link : Nat → Nat → Int32)  (out : Int64 × (Nat → Nat → Int64) × (Nat → Nat → Int64)) (h : m_Ga_pairByNumbers n_nodes n_pairA n_pairB n_link = some out) : Met l y_Ga_pairByNumbers w_Ga_pairByNumbers ({ frames := 0, cells := 0, slots := 0, locals := 0 }) (va_Pc [.ref (a_n 0)] (fun U => U.heap.size = sz ∧ va_P D cls9 (wd_Ga_pairByNumbers cA a_n n_x n_y n_nodes n_aloneB n_pairA n_pairB n_link) U.heap ∧ va_K D cls9 (tys5 cA) U ∧ va_D (fun _ => True) (wd_Ga_pairByNumbers cA a_n n_x n_y n_nodes n_aloneB n_pairA n_pairB n_link))) (va_Qv (fun uu : Int64 × (Nat → Nat → Int64) × (Nat → Nat → Int64) => uu = out) (fun (uu : Int64 × (Nat → Nat → Int64) × (Nat → Nat → Int64)) (t : State) => va_P D cls9 (wd_Ga_pairByNumbers cA a_n n_x n_y n_nodes uu.1 uu.2.1 uu.2.2 n_link) t.heap ∧ va_K D cls9 (tys5 cA) t ∧ va_D (va_A (wd_Ga_pairByNumbers cA a_n n_x n_y n_nodes n_aloneB n_pairA n_pairB n_link) sz) (wd_Ga_pairByNumbers cA a_n n_x n_y n_nodes uu.1 uu.2.1 uu.2.2 n_link)) (va_A (wd_Ga_pairByNumbers cA a_n n_x n_y n_nodes n_aloneB n_pairA n_pairB n_link) sz)) 0 0 (va_A (wd_Ga_pairByNumbers cA a_n n_x n_y n_nodes n_aloneB n_pairA n_pairB n_link) sz) := by
  refine Met.ofW (cc := b_Ga_pairByNumbers) (maxL := 3) (ret := (Option.none : Option Jvm.ClassFile.FieldType)) (by decide) rfl ?_
  intro p e s m args below meth c s₁ B hml hv
  obtain ⟨rfl, hsz, hP, hK, hD0⟩ := hv
  have hx := B.exec
  have hb := B.bytes
  have hr := B.returns
  have hts := atoms_spec (ws := w_Ga_pairByNumbers) B.pre
  have hal : ∀ w ∈ ALLW, w.before _ s = true := fun w hw => hts w (List.mem_cons_of_mem _ hw)
  have hown : s.vm.findClass R_Ga = some m.cls := findClass_of_methodNamed B.named
  have hlocks := B.notSynchronized
  subst hsz
  have hD := hD0.self (sz := s.heap.size)
  generalize hAe : va_A (wd_Ga_pairByNumbers cA a_n n_x n_y n_nodes n_aloneB n_pairA n_pairB n_link) s.heap.size = A at hD ⊢
  have hA : ∀ q : Nat, s.heap.size ≤ q → A q := fun q h => by rw [← hAe]; exact Or.inr h
  have hS : va_S A s.heap s.heap [] := va_S.rf
  have hl := lv_entry ([.ref (a_n 0)]) (n := 3) (Nat.le_of_ble_eq_true rfl)
  rw [lg_entry_eq]
  generalize (lg_sl ([.ref (a_n 0)]) ++ List.replicate (3 - (lg_sl ([.ref (a_n 0)])).length) Slot.unset).toArray = ls at hl ⊢
  have hl : lv_has ls 3 [(0, .ref (a_n 0))] := hl
  refine wg (fun G hG => ?_)
  refine cast (hG _ _ _ _ _ _ _).symm ?_
  obtain ⟨H, locs, hHl, hS⟩ : ∃ (H : Heap) (locs : List Loc), (H = s.heap ∧ locs = []) ∧ va_S A s.heap H locs := ⟨s.heap, [], ⟨rfl, rfl⟩, hS⟩
  have hP : va_P D cls9 (wd_Ga_pairByNumbers cA a_n n_x n_y n_nodes n_aloneB n_pairA n_pairB n_link) H := by rw [hHl.1]; exact hP
  rw [← hHl.1, ← hHl.2]
  clear hHl
  refine lv_aload_n hx hb d_Ga_pairByNumbers_0 rfl (lv_at hl 0 rfl) ?_
  refine lv_lconst (v := 0) hx hb d_Ga_pairByNumbers_1 (by decide) ?_
  refine va_put (ci := 0) (v := .long (0 : Int64)) (ty := .long) (C := R_Ga) (T := F_Ga) (N := 9) hx hb hal in_Ga t_Ga t_Ga_ok n_Ga hown hK hP hD hS 0 rfl rfl 3 (by decide) (hal _ kw_75) (fun _ h9 => h9) rfl (by decide +kernel) rfl rfl (Nat.le_of_ble_eq_true rfl) d_Ga_pairByNumbers_2 (fun H locs hP hD hS => ?_)
  have hP : va_P D cls9 (wd_Ga_pairByNumbers cA a_n n_x n_y n_nodes (0 : Int64) n_pairA n_pairB n_link) H := hP
  have hD : va_D A (wd_Ga_pairByNumbers cA a_n n_x n_y n_nodes (0 : Int64) n_pairA n_pairB n_link) := hD
  refine lv_iconst (v := 0) hx hb d_Ga_pairByNumbers_5 (by decide) ?_
  refine lv_istore_n (lv' := [(1, .int (0 : Int32)), (0, .ref (a_n 0))]) hx hb d_Ga_pairByNumbers_6 rfl hl (by decide) rfl (fun ls hl => ?_)
  refine cast (hG _ _ _ _ _ _ _) (lp_go2 h (fun zz : Int32 × (Nat → Nat → Int64) × (Nat → Nat → Int64) => ∀ (H : Heap) (locs : List Loc) (ls : Array Slot), va_P D cls9 (wd_Ga_pairByNumbers cA a_n n_x n_y n_nodes (0 : Int64) zz.2.1 zz.2.2 n_link) H → va_D A (wd_Ga_pairByNumbers cA a_n n_x n_y n_nodes (0 : Int64) zz.2.1 zz.2.2 n_link) → va_S A s.heap H locs → lv_has ls 3 [(1, .int zz.1), (0, .ref (a_n 0))] → G H locs 0 0 ls 63 []) ?_ (fun zz : Int32 × (Nat → Nat → Int64) × (Nat → Nat → Int64) => ∀ (H : Heap) (locs : List Loc) (ls : Array Slot), va_P D cls9 (wd_Ga_pairByNumbers cA a_n n_x n_y n_nodes (0 : Int64) zz.2.1 zz.2.2 n_link) H → va_D A (wd_Ga_pairByNumbers cA a_n n_x n_y n_nodes (0 : Int64) zz.2.1 zz.2.2 n_link) → va_S A s.heap H locs → lv_has ls 3 [(1, .int zz.1), (0, .ref (a_n 0))] → G H locs 0 0 ls 7 []) ?_ _ _ ls hP hD hS (lv_sub hl [0, 1] rfl))
  · intro zz h H locs ls hP hD hS hl
    obtain ⟨x1_7e, n_pairA_7e, n_pairB_7e⟩ := zz
    have hP : va_P D cls9 (wd_Ga_pairByNumbers cA a_n n_x n_y n_nodes (0 : Int64) n_pairA_7e n_pairB_7e n_link) H := hP
    have hD : va_D A (wd_Ga_pairByNumbers cA a_n n_x n_y n_nodes (0 : Int64) n_pairA_7e n_pairB_7e n_link) := hD
    have hl : lv_has ls 3 [(1, .int x1_7e), (0, .ref (a_n 0))] := hl
    refine cast (hG _ _ _ _ _ _ _).symm ?_
    exact W.vret hx hb hr (fun t ht hW => ⟨⟨((0 : Int64), n_pairA_7e, n_pairB_7e), rfl, Option.some.inj h, by rw [ht]; exact hP, va_K.moved hW.alike hK, hD⟩, hS.F ht⟩) hS.2.2 d_Ga_pairByNumbers_63
  · intro back exit zz hB_7 hE_7 h H locs ls hP hD hS hl
    obtain ⟨x1_7, n_pairA_7, n_pairB_7⟩ := zz
    have hP : va_P D cls9 (wd_Ga_pairByNumbers cA a_n n_x n_y n_nodes (0 : Int64) n_pairA_7 n_pairB_7 n_link) H := hP
    have hD : va_D A (wd_Ga_pairByNumbers cA a_n n_x n_y n_nodes (0 : Int64) n_pairA_7 n_pairB_7 n_link) := hD
    have hl : lv_has ls 3 [(1, .int x1_7), (0, .ref (a_n 0))] := hl
    refine cast (hG _ _ _ _ _ _ _).symm ?_
    refine lv_iload_n hx hb d_Ga_pairByNumbers_7 rfl (lv_at hl 0 rfl) ?_
    refine lv_aload_n hx hb d_Ga_pairByNumbers_8 rfl (lv_at hl 1 rfl) ?_
    refine va_get (ci := 0) (v := .int n_nodes) (C := R_Ga) (T := F_Ga) (N := 9) hx hb hal in_Ga hown hK hP 0 rfl rfl 2 (by decide) (hal _ kw_71) (fun _ h9 => h9) rfl d_Ga_pairByNumbers_9 ?_
    refine lv_icmp_ge (tgt := 63) hx hb d_Ga_pairByNumbers_12 (by decide) (fun c_1 => ?_) (fun c_1 => ?_)
    · have h := ifp (c_1) h
      exact cast (hG _ _ _ _ _ _ _) (hE_7 (x1_7, n_pairA_7, n_pairB_7) h _ _ _ hP hD hS (lv_sub hl [0, 1] rfl))
    · have h := ifn (c_1) h
      refine lv_iconst (v := 0) hx hb d_Ga_pairByNumbers_15 (by decide) ?_
      refine lv_istore_n (lv' := [(2, .int (0 : Int32)), (1, .int x1_7), (0, .ref (a_n 0))]) hx hb d_Ga_pairByNumbers_16 rfl hl (by decide) rfl (fun ls hl => ?_)
      refine cast (hG _ _ _ _ _ _ _) (lp_go2 h (fun zz : Int32 × (Nat → Nat → Int64) × (Nat → Nat → Int64) => ∀ (H : Heap) (locs : List Loc) (ls : Array Slot), va_P D cls9 (wd_Ga_pairByNumbers cA a_n n_x n_y n_nodes (0 : Int64) zz.2.1 zz.2.2 n_link) H → va_D A (wd_Ga_pairByNumbers cA a_n n_x n_y n_nodes (0 : Int64) zz.2.1 zz.2.2 n_link) → va_S A s.heap H locs → lv_has ls 3 [(2, .int zz.1), (1, .int x1_7), (0, .ref (a_n 0))] → G H locs 0 0 ls 57 []) ?_ (fun zz : Int32 × (Nat → Nat → Int64) × (Nat → Nat → Int64) => ∀ (H : Heap) (locs : List Loc) (ls : Array Slot), va_P D cls9 (wd_Ga_pairByNumbers cA a_n n_x n_y n_nodes (0 : Int64) zz.2.1 zz.2.2 n_link) H → va_D A (wd_Ga_pairByNumbers cA a_n n_x n_y n_nodes (0 : Int64) zz.2.1 zz.2.2 n_link) → va_S A s.heap H locs → lv_has ls 3 [(2, .int zz.1), (1, .int x1_7), (0, .ref (a_n 0))] → G H locs 0 0 ls 17 []) ?_ _ _ ls hP hD hS (lv_sub hl [0, 1, 2] rfl))
      · intro zz h H locs ls hP hD hS hl
        obtain ⟨x2_17e, n_pairA_17e, n_pairB_17e⟩ := zz
        have hP : va_P D cls9 (wd_Ga_pairByNumbers cA a_n n_x n_y n_nodes (0 : Int64) n_pairA_17e n_pairB_17e n_link) H := hP
        have hD : va_D A (wd_Ga_pairByNumbers cA a_n n_x n_y n_nodes (0 : Int64) n_pairA_17e n_pairB_17e n_link) := hD
        have hl : lv_has ls 3 [(2, .int x2_17e), (1, .int x1_7), (0, .ref (a_n 0))] := hl
        refine cast (hG _ _ _ _ _ _ _).symm ?_
        refine lv_iinc (v := (x1_7 + 1)) (lv' := [(1, .int (x1_7 + 1)), (2, .int x2_17e), (0, .ref (a_n 0))]) hx hb d_Ga_pairByNumbers_57 hl (k := 1) rfl rfl (by decide) rfl (fun ls hl => ?_)
        refine lv_goto (tgt := 7) hx hb d_Ga_pairByNumbers_60 (by decide) ?_
        exact cast (hG _ _ _ _ _ _ _) (hB_7 ((x1_7 + 1), n_pairA_17e, n_pairB_17e) h _ _ _ hP hD hS (lv_sub hl [0, 2] rfl))
      · intro back exit zz hB_17 hE_17 h H locs ls hP hD hS hl
        obtain ⟨x2_17, n_pairA_17, n_pairB_17⟩ := zz
        have hP : va_P D cls9 (wd_Ga_pairByNumbers cA a_n n_x n_y n_nodes (0 : Int64) n_pairA_17 n_pairB_17 n_link) H := hP
        have hD : va_D A (wd_Ga_pairByNumbers cA a_n n_x n_y n_nodes (0 : Int64) n_pairA_17 n_pairB_17 n_link) := hD
        have hl : lv_has ls 3 [(2, .int x2_17), (1, .int x1_7), (0, .ref (a_n 0))] := hl
        refine cast (hG _ _ _ _ _ _ _).symm ?_
        refine lv_iload_n hx hb d_Ga_pairByNumbers_17 rfl (lv_at hl 0 rfl) ?_
        refine lv_aload_n hx hb d_Ga_pairByNumbers_18 rfl (lv_at hl 2 rfl) ?_
        refine va_get (ci := 0) (v := .int n_nodes) (C := R_Ga) (T := F_Ga) (N := 9) hx hb hal in_Ga hown hK hP 0 rfl rfl 2 (by decide) (hal _ kw_71) (fun _ h9 => h9) rfl d_Ga_pairByNumbers_19 ?_
        refine lv_icmp_ge (tgt := 57) hx hb d_Ga_pairByNumbers_22 (by decide) (fun c_2 => ?_) (fun c_2 => ?_)
        · have h := ifp (c_2) h
          exact cast (hG _ _ _ _ _ _ _) (hE_17 (x2_17, n_pairA_17, n_pairB_17) h _ _ _ hP hD hS (lv_sub hl [0, 1, 2] rfl))
        · have h := ifn (c_2) h
          refine lv_aload_n hx hb d_Ga_pairByNumbers_25 rfl (lv_at hl 2 rfl) ?_
          refine va_get (ci := 0) (v := .ref (a_n 1)) (C := R_Ga) (T := F_Ga) (N := 9) hx hb hal in_Ga hown hK hP 0 rfl rfl 4 (by decide) (hal _ kw_76) (fun _ h9 => h9) rfl d_Ga_pairByNumbers_26 ?_
          refine lv_iload_n hx hb d_Ga_pairByNumbers_29 rfl (lv_at hl 1 rfl) ?_
          obtain ⟨g_3, h⟩ := gd h
          refine my_aald (ad := fun i => a_n (i + 2)) (t := .long) hx hb hK hP 1 4 rfl rfl (inb_in g_3) (inb_lt g_3) d_Ga_pairByNumbers_30 ?_
          refine lv_iload_n hx hb d_Ga_pairByNumbers_31 rfl (lv_at hl 0 rfl) ?_
          refine lv_aload_n hx hb d_Ga_pairByNumbers_32 rfl (lv_at hl 2 rfl) ?_
          refine va_get (ci := 0) (v := .ref (a_n 21)) (C := R_Ga) (T := F_Ga) (N := 9) hx hb hal in_Ga hown hK hP 0 rfl rfl 6 (by decide) (hal _ kw_80) (fun _ h9 => h9) rfl d_Ga_pairByNumbers_33 ?_
          refine lv_iload_n hx hb d_Ga_pairByNumbers_36 rfl (lv_at hl 1 rfl) ?_
          refine my_aald (ad := fun i => a_n (i + 22)) (t := .int) hx hb hK hP 21 3 rfl rfl (inb_in g_3) (inb_lt g_3) d_Ga_pairByNumbers_37 ?_
          refine lv_iload_n hx hb d_Ga_pairByNumbers_38 rfl (lv_at hl 0 rfl) ?_
          obtain ⟨g_4, h⟩ := gd h
          refine va_iald hx hb hK hP (22 + x1_7.toNatClampNeg) 0 (row_Ga_pairByNumbers_n_link _ _ (inb_lt g_3)) rfl (inb_in g_4) d_Ga_pairByNumbers_39 ?_
          refine lv_i2l hx hb d_Ga_pairByNumbers_40 rfl ?_
          refine va_last hx hb hK hP hD hS (2 + x1_7.toNatClampNeg) 1 (row_Ga_pairByNumbers_n_pairA _ _ (inb_lt g_3)) rfl (inb_in g_4) d_Ga_pairByNumbers_41 (fun H locs hP hD hS => ?_)
          have hP : va_P D cls9 (wd_Ga_pairByNumbers cA a_n n_x n_y n_nodes (0 : Int64) (va_up n_pairA_17 x1_7.toNatClampNeg (vp_updL (n_pairA_17 x1_7.toNatClampNeg) x2_17.toNatClampNeg (((n_link x1_7.toNatClampNeg) x2_17.toNatClampNeg).toInt64))) n_pairB_17 n_link) H := (set_Ga_pairByNumbers_n_pairA _ (inb_lt g_3)).subst (motive := fun x => va_P D cls9 x H) hP
          have hD : va_D A (wd_Ga_pairByNumbers cA a_n n_x n_y n_nodes (0 : Int64) (va_up n_pairA_17 x1_7.toNatClampNeg (vp_updL (n_pairA_17 x1_7.toNatClampNeg) x2_17.toNatClampNeg (((n_link x1_7.toNatClampNeg) x2_17.toNatClampNeg).toInt64))) n_pairB_17 n_link) := (set_Ga_pairByNumbers_n_pairA _ (inb_lt g_3)).subst (motive := fun x => va_D A x) hD
          refine lv_aload_n hx hb d_Ga_pairByNumbers_42 rfl (lv_at hl 2 rfl) ?_
          refine va_get (ci := 0) (v := .ref (a_n 11)) (C := R_Ga) (T := F_Ga) (N := 9) hx hb hal in_Ga hown hK hP 0 rfl rfl 5 (by decide) (hal _ kw_78) (fun _ h9 => h9) rfl d_Ga_pairByNumbers_43 ?_
          refine lv_iload_n hx hb d_Ga_pairByNumbers_46 rfl (lv_at hl 1 rfl) ?_
          refine my_aald (ad := fun i => a_n (i + 12)) (t := .long) hx hb hK hP 11 4 rfl rfl (inb_in g_3) (inb_lt g_3) d_Ga_pairByNumbers_47 ?_
          refine lv_iload_n hx hb d_Ga_pairByNumbers_48 rfl (lv_at hl 0 rfl) ?_
          refine lv_lconst (v := 1) hx hb d_Ga_pairByNumbers_49 (by decide) ?_
          refine va_last hx hb hK hP hD hS (12 + x1_7.toNatClampNeg) 1 (row_Ga_pairByNumbers_n_pairB _ _ (inb_lt g_3)) rfl (inb_in g_4) d_Ga_pairByNumbers_50 (fun H locs hP hD hS => ?_)
          have hP : va_P D cls9 (wd_Ga_pairByNumbers cA a_n n_x n_y n_nodes (0 : Int64) (va_up n_pairA_17 x1_7.toNatClampNeg (vp_updL (n_pairA_17 x1_7.toNatClampNeg) x2_17.toNatClampNeg (((n_link x1_7.toNatClampNeg) x2_17.toNatClampNeg).toInt64))) (va_up n_pairB_17 x1_7.toNatClampNeg (vp_updL (n_pairB_17 x1_7.toNatClampNeg) x2_17.toNatClampNeg (1 : Int64))) n_link) H := (set_Ga_pairByNumbers_n_pairB _ (inb_lt g_3)).subst (motive := fun x => va_P D cls9 x H) hP
          have hD : va_D A (wd_Ga_pairByNumbers cA a_n n_x n_y n_nodes (0 : Int64) (va_up n_pairA_17 x1_7.toNatClampNeg (vp_updL (n_pairA_17 x1_7.toNatClampNeg) x2_17.toNatClampNeg (((n_link x1_7.toNatClampNeg) x2_17.toNatClampNeg).toInt64))) (va_up n_pairB_17 x1_7.toNatClampNeg (vp_updL (n_pairB_17 x1_7.toNatClampNeg) x2_17.toNatClampNeg (1 : Int64))) n_link) := (set_Ga_pairByNumbers_n_pairB _ (inb_lt g_3)).subst (motive := fun x => va_D A x) hD
          refine lv_iinc (v := (x2_17 + 1)) (lv' := [(2, .int (x2_17 + 1)), (1, .int x1_7), (0, .ref (a_n 0))]) hx hb d_Ga_pairByNumbers_51 hl (k := 0) rfl rfl (by decide) rfl (fun ls hl => ?_)
          refine lv_goto (tgt := 17) hx hb d_Ga_pairByNumbers_54 (by decide) ?_
          exact cast (hG _ _ _ _ _ _ _) (hB_17 ((x2_17 + 1), (va_up n_pairA_17 x1_7.toNatClampNeg (vp_updL (n_pairA_17 x1_7.toNatClampNeg) x2_17.toNatClampNeg (((n_link x1_7.toNatClampNeg) x2_17.toNatClampNeg).toInt64))), (va_up n_pairB_17 x1_7.toNatClampNeg (vp_updL (n_pairB_17 x1_7.toNatClampNeg) x2_17.toNatClampNeg (1 : Int64)))) h _ _ _ hP hD hS (lv_sub hl [0, 1, 2] rfl))
def wd_Ga_worth (cA : Nat → ClassId) (a_n : Nat → Nat) (n_x : Int32) (n_y : Int32) (n_nodes : Int32) (n_aloneB : Int64) : va_W := [(a_n 0, .inr (0, [.int n_x, .int n_y, .int n_nodes, .long n_aloneB, .ref (a_n 1), .ref (a_n 11), .ref (a_n 21), .ref (a_n 31), .ref (a_n 32)]))]
noncomputable def m_Ga_worth (n_x : Int32) (n_y : Int32) (v1 : Int64) (v3 : Int64) : Option Int64 :=
  some ((n_y.toInt64 * v1) - (n_x.toInt64 * v3))
set_option maxHeartbeats 4000000 in
set_option maxRecDepth 100000 in
theorem c_Ga_worth (l : Launch) (D : va_G) (cA : Nat → ClassId) (a_n : Nat → Nat) (sz : Nat) (n_x : Int32) (n_y : Int32) (n_nodes : Int32) (n_aloneB : Int64) (v1 : Int64) (v3 : Int64) (out : Int64) (h : m_Ga_worth n_x n_y v1 v3 = some out) : Met l y_Ga_worth w_Ga_worth ({ frames := 0, cells := 0, slots := 0, locals := 0 }) (va_Pc [.ref (a_n 0), .long v1, .long v3] (fun U => U.heap.size = sz ∧ va_P D cls9 (wd_Ga_worth cA a_n n_x n_y n_nodes n_aloneB) U.heap ∧ va_K D cls9 (tys5 cA) U ∧ va_D (fun _ => True) (wd_Ga_worth cA a_n n_x n_y n_nodes n_aloneB))) (va_Ql (fun (rr : Int64) (uu : Unit) => rr = out) (fun (uu : Unit) (t : State) => va_P D cls9 (wd_Ga_worth cA a_n n_x n_y n_nodes n_aloneB) t.heap ∧ va_K D cls9 (tys5 cA) t ∧ va_D (va_A (wd_Ga_worth cA a_n n_x n_y n_nodes n_aloneB) sz) (wd_Ga_worth cA a_n n_x n_y n_nodes n_aloneB)) (va_A (wd_Ga_worth cA a_n n_x n_y n_nodes n_aloneB) sz)) 0 0 (va_A (wd_Ga_worth cA a_n n_x n_y n_nodes n_aloneB) sz) := by
  refine Met.ofW (cc := b_Ga_worth) (maxL := 5) (ret := (Option.some Jvm.ClassFile.FieldType.long)) (by decide) rfl ?_
  intro p e s m args below meth c s₁ B hml hv
  obtain ⟨rfl, hsz, hP, hK, hD0⟩ := hv
  have hx := B.exec
  have hb := B.bytes
  have hr := B.returns
  have hts := atoms_spec (ws := w_Ga_worth) B.pre
  have hal : ∀ w ∈ ALLW, w.before _ s = true := fun w hw => hts w (List.mem_cons_of_mem _ hw)
  have hown : s.vm.findClass R_Ga = some m.cls := findClass_of_methodNamed B.named
  have hlocks := B.notSynchronized
  subst hsz
  have hD := hD0.self (sz := s.heap.size)
  generalize hAe : va_A (wd_Ga_worth cA a_n n_x n_y n_nodes n_aloneB) s.heap.size = A at hD ⊢
  have hA : ∀ q : Nat, s.heap.size ≤ q → A q := fun q h => by rw [← hAe]; exact Or.inr h
  have hS : va_S A s.heap s.heap [] := va_S.rf
  have hl := lv_entry ([.ref (a_n 0), .long v1, .long v3]) (n := 5) (Nat.le_of_ble_eq_true rfl)
  rw [lg_entry_eq]
  generalize (lg_sl ([.ref (a_n 0), .long v1, .long v3]) ++ List.replicate (5 - (lg_sl ([.ref (a_n 0), .long v1, .long v3])).length) Slot.unset).toArray = ls at hl ⊢
  have hl : lv_has ls 5 [(0, .ref (a_n 0)), (1, .long v1), (3, .long v3)] := hl
  refine wg (fun G hG => ?_)
  refine cast (hG _ _ _ _ _ _ _).symm ?_
  obtain ⟨H, locs, hHl, hS⟩ : ∃ (H : Heap) (locs : List Loc), (H = s.heap ∧ locs = []) ∧ va_S A s.heap H locs := ⟨s.heap, [], ⟨rfl, rfl⟩, hS⟩
  have hP : va_P D cls9 (wd_Ga_worth cA a_n n_x n_y n_nodes n_aloneB) H := by rw [hHl.1]; exact hP
  rw [← hHl.1, ← hHl.2]
  clear hHl
  refine lv_aload_n hx hb d_Ga_worth_0 rfl (lv_at hl 0 rfl) ?_
  refine va_get (ci := 0) (v := .int n_y) (C := R_Ga) (T := F_Ga) (N := 9) hx hb hal in_Ga hown hK hP 0 rfl rfl 1 (by decide) (hal _ kw_69) (fun _ h9 => h9) rfl d_Ga_worth_1 ?_
  refine lv_i2l hx hb d_Ga_worth_4 rfl ?_
  refine lv_lload_n hx hb d_Ga_worth_5 rfl (lv_at hl 1 rfl) ?_
  refine lv_lmul hx hb d_Ga_worth_6 ?_
  refine lv_aload_n hx hb d_Ga_worth_7 rfl (lv_at hl 0 rfl) ?_
  refine va_get (ci := 0) (v := .int n_x) (C := R_Ga) (T := F_Ga) (N := 9) hx hb hal in_Ga hown hK hP 0 rfl rfl 0 (by decide) (hal _ kw_67) (fun _ h9 => h9) rfl d_Ga_worth_8 ?_
  refine lv_i2l hx hb d_Ga_worth_11 rfl ?_
  refine lv_lload_n hx hb d_Ga_worth_12 rfl (lv_at hl 2 rfl) ?_
  refine lv_lmul hx hb d_Ga_worth_13 ?_
  refine lv_lsub hx hb d_Ga_worth_14 ?_
  exact W.lret (v := ((n_y.toInt64 * v1) - (n_x.toInt64 * v3))) hx hb hr (fun t ht hW => ⟨⟨((n_y.toInt64 * v1) - (n_x.toInt64 * v3)), (), rfl, Option.some.inj h, by rw [ht]; exact hP, va_K.moved hW.alike hK, hD⟩, hS.F ht⟩) hS.2.2 d_Ga_worth_15
def wd_Ga_sumWithin (cA : Nat → ClassId) (a_n a_p a_q : Nat → Nat) (n_x : Int32) (n_y : Int32) (n_nodes : Int32) (n_aloneB : Int64) (p_nodes : Int32) (p_count : Int32) (p_groups : Nat → Int32) (q_arr : Nat → Nat → Int64) : va_W := [(a_n 0, .inr (0, [.int n_x, .int n_y, .int n_nodes, .long n_aloneB, .ref (a_n 1), .ref (a_n 11), .ref (a_n 21), .ref (a_n 31), .ref (a_n 32)])), (a_p 0, .inr (2, [.int p_nodes, .int p_count, .ref (a_p 1), .ref (a_p 2)])), (a_p 1, .inl (cA 0, 9, .inl p_groups)), (a_q 0, .inl (cA 4, 9, .inr (.inr (.inr (.inr (fun i => if i < 9 then some (a_q (i + 1)) else none)))))), (a_q (0 + 1), .inl (cA 1, 9, .inr (.inl (q_arr 0)))), (a_q (1 + 1), .inl (cA 1, 9, .inr (.inl (q_arr 1)))), (a_q (2 + 1), .inl (cA 1, 9, .inr (.inl (q_arr 2)))), (a_q (3 + 1), .inl (cA 1, 9, .inr (.inl (q_arr 3)))), (a_q (4 + 1), .inl (cA 1, 9, .inr (.inl (q_arr 4)))), (a_q (5 + 1), .inl (cA 1, 9, .inr (.inl (q_arr 5)))), (a_q (6 + 1), .inl (cA 1, 9, .inr (.inl (q_arr 6)))), (a_q (7 + 1), .inl (cA 1, 9, .inr (.inl (q_arr 7)))), (a_q (8 + 1), .inl (cA 1, 9, .inr (.inl (q_arr 8))))]
theorem row_Ga_sumWithin_q_arr {cA : Nat → ClassId} {a_n a_p a_q : Nat → Nat} {n_x : Int32} {n_y : Int32} {n_nodes : Int32} {n_aloneB : Int64} {p_nodes : Int32} {p_count : Int32} {p_groups : Nat → Int32} (q_arr : Nat → Nat → Int64) (k : Nat) (hk : k < 9) : (wd_Ga_sumWithin cA a_n a_p a_q n_x n_y n_nodes n_aloneB p_nodes p_count p_groups q_arr)[4 + k]? = some (a_q (k + 1), .inl (cA 1, 9, .inr (.inl (q_arr k)))) := by
  rcases lt9 hk with rfl | rfl | rfl | rfl | rfl | rfl | rfl | rfl | rfl <;> rfl
theorem set_Ga_sumWithin_q_arr {cA : Nat → ClassId} {a_n a_p a_q : Nat → Nat} {n_x : Int32} {n_y : Int32} {n_nodes : Int32} {n_aloneB : Int64} {p_nodes : Int32} {p_count : Int32} {p_groups : Nat → Int32} {q_arr : Nat → Nat → Int64} {f : Nat → Int64} (k : Nat) (hk : k < 9) : (wd_Ga_sumWithin cA a_n a_p a_q n_x n_y n_nodes n_aloneB p_nodes p_count p_groups q_arr).set (4 + k) (a_q (k + 1), .inl (cA 1, 9, .inr (.inl f))) = wd_Ga_sumWithin cA a_n a_p a_q n_x n_y n_nodes n_aloneB p_nodes p_count p_groups (va_up q_arr k f) := by
  rcases lt9 hk with rfl | rfl | rfl | rfl | rfl | rfl | rfl | rfl | rfl <;> rfl
noncomputable def s_Ga_sumWithin_17 (x5 : Int32) (p_groups : Nat → Int32) (q_arr : Nat → Nat → Int64) (zz : Int64 × Int32) (back exit : (Int64 × Int32) → Option Int64) : Option Int64 :=
  (if x5 ≤ zz.2 then (exit (zz.1, zz.2)) else (if inb x5 9 then (if inb zz.2 9 then (if (p_groups x5.toNatClampNeg) = (p_groups zz.2.toNatClampNeg) then (if inb x5 9 then (back ((zz.1 + ((q_arr x5.toNatClampNeg) zz.2.toNatClampNeg)), (zz.2 + 1))) else none) else (back (zz.1, (zz.2 + 1)))) else none) else none))
noncomputable def s_Ga_sumWithin_5 (n_nodes : Int32) (p_groups : Nat → Int32) (q_arr : Nat → Nat → Int64) (zz : Int64 × Int32) (back exit : (Int64 × Int32) → Option Int64) : Option Int64 :=
  (if n_nodes ≤ zz.2 then (exit (zz.1, zz.2)) else (loopC (s_Ga_sumWithin_17 zz.2 p_groups q_arr) (fun z17 : Int64 × Int32 => (back (z17.1, (zz.2 + 1)))) FU (zz.1, (0 : Int32))))
noncomputable def m_Ga_sumWithin (n_nodes : Int32) (p_groups : Nat → Int32) (q_arr : Nat → Nat → Int64) : Option Int64 :=
  (loopC (s_Ga_sumWithin_5 n_nodes p_groups q_arr) (fun z5 : Int64 × Int32 => some z5.1) FU ((0 : Int64), (1 : Int32)))
set_option maxHeartbeats 4000000 in
set_option maxRecDepth 100000 in
theorem c_Ga_sumWithin (l : Launch) (D : va_G) (cA : Nat → ClassId) (a_n a_p a_q : Nat → Nat) (sz : Nat) (n_x : Int32) (n_y : Int32) (n_nodes : Int32) (n_aloneB : Int64) (p_nodes : Int32) (p_count : Int32) (p_groups : Nat → Int32) (q_arr : Nat → Nat → Int64)  (out : Int64) (h : m_Ga_sumWithin n_nodes p_groups q_arr = some out) : Met l y_Ga_sumWithin w_Ga_sumWithin ({ frames := 0, cells := 0, slots := 0, locals := 0 }) (va_Pc [.ref (a_n 0), .ref (a_q 0), .ref (a_p 0)] (fun U => U.heap.size = sz ∧ va_P D cls9 (wd_Ga_sumWithin cA a_n a_p a_q n_x n_y n_nodes n_aloneB p_nodes p_count p_groups q_arr) U.heap ∧ va_K D cls9 (tys5 cA) U ∧ va_D (fun _ => True) (wd_Ga_sumWithin cA a_n a_p a_q n_x n_y n_nodes n_aloneB p_nodes p_count p_groups q_arr))) (va_Ql (fun (rr : Int64) (uu : Unit) => rr = out) (fun (uu : Unit) (t : State) => va_P D cls9 (wd_Ga_sumWithin cA a_n a_p a_q n_x n_y n_nodes n_aloneB p_nodes p_count p_groups q_arr) t.heap ∧ va_K D cls9 (tys5 cA) t ∧ va_D (va_A (wd_Ga_sumWithin cA a_n a_p a_q n_x n_y n_nodes n_aloneB p_nodes p_count p_groups q_arr) sz) (wd_Ga_sumWithin cA a_n a_p a_q n_x n_y n_nodes n_aloneB p_nodes p_count p_groups q_arr)) (va_A (wd_Ga_sumWithin cA a_n a_p a_q n_x n_y n_nodes n_aloneB p_nodes p_count p_groups q_arr) sz)) 0 0 (va_A (wd_Ga_sumWithin cA a_n a_p a_q n_x n_y n_nodes n_aloneB p_nodes p_count p_groups q_arr) sz) := by
  refine Met.ofW (cc := b_Ga_sumWithin) (maxL := 7) (ret := (Option.some Jvm.ClassFile.FieldType.long)) (by decide) rfl ?_
  intro p e s m args below meth c s₁ B hml hv
  obtain ⟨rfl, hsz, hP, hK, hD0⟩ := hv
  have hx := B.exec
  have hb := B.bytes
  have hr := B.returns
  have hts := atoms_spec (ws := w_Ga_sumWithin) B.pre
  have hal : ∀ w ∈ ALLW, w.before _ s = true := fun w hw => hts w (List.mem_cons_of_mem _ hw)
  have hown : s.vm.findClass R_Ga = some m.cls := findClass_of_methodNamed B.named
  have hlocks := B.notSynchronized
  subst hsz
  have hD := hD0.self (sz := s.heap.size)
  generalize hAe : va_A (wd_Ga_sumWithin cA a_n a_p a_q n_x n_y n_nodes n_aloneB p_nodes p_count p_groups q_arr) s.heap.size = A at hD ⊢
  have hA : ∀ q : Nat, s.heap.size ≤ q → A q := fun q h => by rw [← hAe]; exact Or.inr h
  have hS : va_S A s.heap s.heap [] := va_S.rf
  have hl := lv_entry ([.ref (a_n 0), .ref (a_q 0), .ref (a_p 0)]) (n := 7) (Nat.le_of_ble_eq_true rfl)
  rw [lg_entry_eq]
  generalize (lg_sl ([.ref (a_n 0), .ref (a_q 0), .ref (a_p 0)]) ++ List.replicate (7 - (lg_sl ([.ref (a_n 0), .ref (a_q 0), .ref (a_p 0)])).length) Slot.unset).toArray = ls at hl ⊢
  have hl : lv_has ls 7 [(0, .ref (a_n 0)), (1, .ref (a_q 0)), (2, .ref (a_p 0))] := hl
  refine wg (fun G hG => ?_)
  refine cast (hG _ _ _ _ _ _ _).symm ?_
  obtain ⟨H, locs, hHl, hS⟩ : ∃ (H : Heap) (locs : List Loc), (H = s.heap ∧ locs = []) ∧ va_S A s.heap H locs := ⟨s.heap, [], ⟨rfl, rfl⟩, hS⟩
  have hP : va_P D cls9 (wd_Ga_sumWithin cA a_n a_p a_q n_x n_y n_nodes n_aloneB p_nodes p_count p_groups q_arr) H := by rw [hHl.1]; exact hP
  rw [← hHl.1, ← hHl.2]
  clear hHl
  refine lv_lconst (v := 0) hx hb d_Ga_sumWithin_0 (by decide) ?_
  refine lv_lstore_n (lv' := [(3, .long (0 : Int64)), (0, .ref (a_n 0)), (1, .ref (a_q 0)), (2, .ref (a_p 0))]) hx hb d_Ga_sumWithin_1 rfl hl (by decide) rfl (fun ls hl => ?_)
  refine lv_iconst (v := 1) hx hb d_Ga_sumWithin_2 (by decide) ?_
  refine lv_istore (lv' := [(5, .int (1 : Int32)), (3, .long (0 : Int64)), (0, .ref (a_n 0)), (1, .ref (a_q 0)), (2, .ref (a_p 0))]) hx hb d_Ga_sumWithin_3 hl (by decide) rfl (fun ls hl => ?_)
  refine cast (hG _ _ _ _ _ _ _) (lp_go2 h (fun zz : Int64 × Int32 => ∀ (H : Heap) (locs : List Loc) (ls : Array Slot), va_P D cls9 (wd_Ga_sumWithin cA a_n a_p a_q n_x n_y n_nodes n_aloneB p_nodes p_count p_groups q_arr) H → va_D A (wd_Ga_sumWithin cA a_n a_p a_q n_x n_y n_nodes n_aloneB p_nodes p_count p_groups q_arr) → va_S A s.heap H locs → lv_has ls 7 [(5, .int zz.2), (3, .long zz.1), (0, .ref (a_n 0)), (1, .ref (a_q 0)), (2, .ref (a_p 0))] → G H locs 0 0 ls 63 []) ?_ (fun zz : Int64 × Int32 => ∀ (H : Heap) (locs : List Loc) (ls : Array Slot), va_P D cls9 (wd_Ga_sumWithin cA a_n a_p a_q n_x n_y n_nodes n_aloneB p_nodes p_count p_groups q_arr) H → va_D A (wd_Ga_sumWithin cA a_n a_p a_q n_x n_y n_nodes n_aloneB p_nodes p_count p_groups q_arr) → va_S A s.heap H locs → lv_has ls 7 [(5, .int zz.2), (3, .long zz.1), (0, .ref (a_n 0)), (1, .ref (a_q 0)), (2, .ref (a_p 0))] → G H locs 0 0 ls 5 []) ?_ _ _ ls hP hD hS (lv_sub hl [0, 1, 2, 3, 4] rfl))
  · intro zz h H locs ls hP hD hS hl
    obtain ⟨x3_5e, x5_5e⟩ := zz
    have hP : va_P D cls9 (wd_Ga_sumWithin cA a_n a_p a_q n_x n_y n_nodes n_aloneB p_nodes p_count p_groups q_arr) H := hP
    have hD : va_D A (wd_Ga_sumWithin cA a_n a_p a_q n_x n_y n_nodes n_aloneB p_nodes p_count p_groups q_arr) := hD
    have hl : lv_has ls 7 [(5, .int x5_5e), (3, .long x3_5e), (0, .ref (a_n 0)), (1, .ref (a_q 0)), (2, .ref (a_p 0))] := hl
    refine cast (hG _ _ _ _ _ _ _).symm ?_
    refine lv_lload_n hx hb d_Ga_sumWithin_63 rfl (lv_at hl 1 rfl) ?_
    exact W.lret (v := x3_5e) hx hb hr (fun t ht hW => ⟨⟨x3_5e, (), rfl, Option.some.inj h, by rw [ht]; exact hP, va_K.moved hW.alike hK, hD⟩, hS.F ht⟩) hS.2.2 d_Ga_sumWithin_64
  · intro back exit zz hB_5 hE_5 h H locs ls hP hD hS hl
    obtain ⟨x3_5, x5_5⟩ := zz
    have hP : va_P D cls9 (wd_Ga_sumWithin cA a_n a_p a_q n_x n_y n_nodes n_aloneB p_nodes p_count p_groups q_arr) H := hP
    have hD : va_D A (wd_Ga_sumWithin cA a_n a_p a_q n_x n_y n_nodes n_aloneB p_nodes p_count p_groups q_arr) := hD
    have hl : lv_has ls 7 [(5, .int x5_5), (3, .long x3_5), (0, .ref (a_n 0)), (1, .ref (a_q 0)), (2, .ref (a_p 0))] := hl
    refine cast (hG _ _ _ _ _ _ _).symm ?_
    refine lv_iload hx hb d_Ga_sumWithin_5 (lv_at hl 0 rfl) ?_
    refine lv_aload_n hx hb d_Ga_sumWithin_7 rfl (lv_at hl 2 rfl) ?_
    refine va_get (ci := 0) (v := .int n_nodes) (C := R_Ga) (T := F_Ga) (N := 9) hx hb hal in_Ga hown hK hP 0 rfl rfl 2 (by decide) (hal _ kw_71) (fun _ h9 => h9) rfl d_Ga_sumWithin_8 ?_
    refine lv_icmp_ge (tgt := 63) hx hb d_Ga_sumWithin_11 (by decide) (fun c_1 => ?_) (fun c_1 => ?_)
    · have h := ifp (c_1) h
      exact cast (hG _ _ _ _ _ _ _) (hE_5 (x3_5, x5_5) h _ _ _ hP hD hS (lv_sub hl [0, 1, 2, 3, 4] rfl))
    · have h := ifn (c_1) h
      refine lv_iconst (v := 0) hx hb d_Ga_sumWithin_14 (by decide) ?_
      refine lv_istore (lv' := [(6, .int (0 : Int32)), (5, .int x5_5), (3, .long x3_5), (0, .ref (a_n 0)), (1, .ref (a_q 0)), (2, .ref (a_p 0))]) hx hb d_Ga_sumWithin_15 hl (by decide) rfl (fun ls hl => ?_)
      refine cast (hG _ _ _ _ _ _ _) (lp_go2 h (fun zz : Int64 × Int32 => ∀ (H : Heap) (locs : List Loc) (ls : Array Slot), va_P D cls9 (wd_Ga_sumWithin cA a_n a_p a_q n_x n_y n_nodes n_aloneB p_nodes p_count p_groups q_arr) H → va_D A (wd_Ga_sumWithin cA a_n a_p a_q n_x n_y n_nodes n_aloneB p_nodes p_count p_groups q_arr) → va_S A s.heap H locs → lv_has ls 7 [(6, .int zz.2), (5, .int x5_5), (3, .long zz.1), (0, .ref (a_n 0)), (1, .ref (a_q 0)), (2, .ref (a_p 0))] → G H locs 0 0 ls 57 []) ?_ (fun zz : Int64 × Int32 => ∀ (H : Heap) (locs : List Loc) (ls : Array Slot), va_P D cls9 (wd_Ga_sumWithin cA a_n a_p a_q n_x n_y n_nodes n_aloneB p_nodes p_count p_groups q_arr) H → va_D A (wd_Ga_sumWithin cA a_n a_p a_q n_x n_y n_nodes n_aloneB p_nodes p_count p_groups q_arr) → va_S A s.heap H locs → lv_has ls 7 [(6, .int zz.2), (5, .int x5_5), (3, .long zz.1), (0, .ref (a_n 0)), (1, .ref (a_q 0)), (2, .ref (a_p 0))] → G H locs 0 0 ls 17 []) ?_ _ _ ls hP hD hS (lv_sub hl [0, 1, 2, 3, 4, 5] rfl))
      · intro zz h H locs ls hP hD hS hl
        obtain ⟨x3_17e, x6_17e⟩ := zz
        have hP : va_P D cls9 (wd_Ga_sumWithin cA a_n a_p a_q n_x n_y n_nodes n_aloneB p_nodes p_count p_groups q_arr) H := hP
        have hD : va_D A (wd_Ga_sumWithin cA a_n a_p a_q n_x n_y n_nodes n_aloneB p_nodes p_count p_groups q_arr) := hD
        have hl : lv_has ls 7 [(6, .int x6_17e), (5, .int x5_5), (3, .long x3_17e), (0, .ref (a_n 0)), (1, .ref (a_q 0)), (2, .ref (a_p 0))] := hl
        refine cast (hG _ _ _ _ _ _ _).symm ?_
        refine lv_iinc (v := (x5_5 + 1)) (lv' := [(5, .int (x5_5 + 1)), (6, .int x6_17e), (3, .long x3_17e), (0, .ref (a_n 0)), (1, .ref (a_q 0)), (2, .ref (a_p 0))]) hx hb d_Ga_sumWithin_57 hl (k := 1) rfl rfl (by decide) rfl (fun ls hl => ?_)
        refine lv_goto (tgt := 5) hx hb d_Ga_sumWithin_60 (by decide) ?_
        exact cast (hG _ _ _ _ _ _ _) (hB_5 (x3_17e, (x5_5 + 1)) h _ _ _ hP hD hS (lv_sub hl [0, 2, 3, 4, 5] rfl))
      · intro back exit zz hB_17 hE_17 h H locs ls hP hD hS hl
        obtain ⟨x3_17, x6_17⟩ := zz
        have hP : va_P D cls9 (wd_Ga_sumWithin cA a_n a_p a_q n_x n_y n_nodes n_aloneB p_nodes p_count p_groups q_arr) H := hP
        have hD : va_D A (wd_Ga_sumWithin cA a_n a_p a_q n_x n_y n_nodes n_aloneB p_nodes p_count p_groups q_arr) := hD
        have hl : lv_has ls 7 [(6, .int x6_17), (5, .int x5_5), (3, .long x3_17), (0, .ref (a_n 0)), (1, .ref (a_q 0)), (2, .ref (a_p 0))] := hl
        refine cast (hG _ _ _ _ _ _ _).symm ?_
        refine lv_iload hx hb d_Ga_sumWithin_17 (lv_at hl 0 rfl) ?_
        refine lv_iload hx hb d_Ga_sumWithin_19 (lv_at hl 1 rfl) ?_
        refine lv_icmp_ge (tgt := 57) hx hb d_Ga_sumWithin_21 (by decide) (fun c_2 => ?_) (fun c_2 => ?_)
        · have h := ifp (c_2) h
          exact cast (hG _ _ _ _ _ _ _) (hE_17 (x3_17, x6_17) h _ _ _ hP hD hS (lv_sub hl [0, 1, 2, 3, 4, 5] rfl))
        · have h := ifn (c_2) h
          refine lv_aload_n hx hb d_Ga_sumWithin_24 rfl (lv_at hl 5 rfl) ?_
          refine va_get (ci := 2) (v := .ref (a_p 1)) (C := R_Pa) (T := F_Pa) (N := 4) hx hb hal in_Pa hown hK hP 1 rfl rfl 2 (by decide) (hal _ kw_116) (fun _ h9 => h9) rfl d_Ga_sumWithin_25 ?_
          refine lv_iload hx hb d_Ga_sumWithin_28 (lv_at hl 1 rfl) ?_
          obtain ⟨g_3, h⟩ := gd h
          refine va_iald hx hb hK hP 2 0 rfl rfl (inb_in g_3) d_Ga_sumWithin_30 ?_
          refine lv_aload_n hx hb d_Ga_sumWithin_31 rfl (lv_at hl 5 rfl) ?_
          refine va_get (ci := 2) (v := .ref (a_p 1)) (C := R_Pa) (T := F_Pa) (N := 4) hx hb hal in_Pa hown hK hP 1 rfl rfl 2 (by decide) (hal _ kw_116) (fun _ h9 => h9) rfl d_Ga_sumWithin_32 ?_
          refine lv_iload hx hb d_Ga_sumWithin_35 (lv_at hl 0 rfl) ?_
          obtain ⟨g_4, h⟩ := gd h
          refine va_iald hx hb hK hP 2 0 rfl rfl (inb_in g_4) d_Ga_sumWithin_37 ?_
          refine lv_icmp_ne (tgt := 51) hx hb d_Ga_sumWithin_38 (by decide) (fun c_5 => ?_) (fun c_5 => ?_)
          · have h := ifn (c_5) h
            refine lv_iinc (v := (x6_17 + 1)) (lv' := [(6, .int (x6_17 + 1)), (5, .int x5_5), (3, .long x3_17), (0, .ref (a_n 0)), (1, .ref (a_q 0)), (2, .ref (a_p 0))]) hx hb d_Ga_sumWithin_51 hl (k := 0) rfl rfl (by decide) rfl (fun ls hl => ?_)
            refine lv_goto (tgt := 17) hx hb d_Ga_sumWithin_54 (by decide) ?_
            exact cast (hG _ _ _ _ _ _ _) (hB_17 (x3_17, (x6_17 + 1)) h _ _ _ hP hD hS (lv_sub hl [0, 1, 2, 3, 4, 5] rfl))
          · have h := ifp (c_5) h
            refine lv_lload_n hx hb d_Ga_sumWithin_41 rfl (lv_at hl 2 rfl) ?_
            refine lv_aload_n hx hb d_Ga_sumWithin_42 rfl (lv_at hl 4 rfl) ?_
            refine lv_iload hx hb d_Ga_sumWithin_43 (lv_at hl 1 rfl) ?_
            obtain ⟨g_6, h⟩ := gd h
            refine my_aald (ad := fun i => a_q (i + 1)) (t := .long) hx hb hK hP 3 4 rfl rfl (inb_in g_6) (inb_lt g_6) d_Ga_sumWithin_45 ?_
            refine lv_iload hx hb d_Ga_sumWithin_46 (lv_at hl 0 rfl) ?_
            refine va_lald hx hb hK hP (4 + x5_5.toNatClampNeg) 1 (row_Ga_sumWithin_q_arr _ _ (inb_lt g_6)) rfl (inb_in g_4) d_Ga_sumWithin_48 ?_
            refine lv_ladd hx hb d_Ga_sumWithin_49 ?_
            refine lv_lstore_n (lv' := [(3, .long (x3_17 + ((q_arr x5_5.toNatClampNeg) x6_17.toNatClampNeg))), (6, .int x6_17), (5, .int x5_5), (0, .ref (a_n 0)), (1, .ref (a_q 0)), (2, .ref (a_p 0))]) hx hb d_Ga_sumWithin_50 rfl hl (by decide) rfl (fun ls hl => ?_)
            refine lv_iinc (v := (x6_17 + 1)) (lv' := [(6, .int (x6_17 + 1)), (3, .long (x3_17 + ((q_arr x5_5.toNatClampNeg) x6_17.toNatClampNeg))), (5, .int x5_5), (0, .ref (a_n 0)), (1, .ref (a_q 0)), (2, .ref (a_p 0))]) hx hb d_Ga_sumWithin_51 hl (k := 1) rfl rfl (by decide) rfl (fun ls hl => ?_)
            refine lv_goto (tgt := 17) hx hb d_Ga_sumWithin_54 (by decide) ?_
            exact cast (hG _ _ _ _ _ _ _) (hB_17 ((x3_17 + ((q_arr x5_5.toNatClampNeg) x6_17.toNatClampNeg)), (x6_17 + 1)) h _ _ _ hP hD hS (lv_sub hl [0, 2, 1, 3, 4, 5] rfl))
def wd_Ga_sumA (cA : Nat → ClassId) (a_n a_p : Nat → Nat) (n_x : Int32) (n_y : Int32) (n_nodes : Int32) (n_aloneB : Int64) (n_pairA : Nat → Nat → Int64) (p_nodes : Int32) (p_count : Int32) (p_groups : Nat → Int32) : va_W := [(a_n 0, .inr (0, [.int n_x, .int n_y, .int n_nodes, .long n_aloneB, .ref (a_n 1), .ref (a_n 11), .ref (a_n 21), .ref (a_n 31), .ref (a_n 32)])), (a_n 1, .inl (cA 4, 9, .inr (.inr (.inr (.inr (fun i => if i < 9 then some (a_n (i + 2)) else none)))))), (a_n (0 + 2), .inl (cA 1, 9, .inr (.inl (n_pairA 0)))), (a_n (1 + 2), .inl (cA 1, 9, .inr (.inl (n_pairA 1)))), (a_n (2 + 2), .inl (cA 1, 9, .inr (.inl (n_pairA 2)))), (a_n (3 + 2), .inl (cA 1, 9, .inr (.inl (n_pairA 3)))), (a_n (4 + 2), .inl (cA 1, 9, .inr (.inl (n_pairA 4)))), (a_n (5 + 2), .inl (cA 1, 9, .inr (.inl (n_pairA 5)))), (a_n (6 + 2), .inl (cA 1, 9, .inr (.inl (n_pairA 6)))), (a_n (7 + 2), .inl (cA 1, 9, .inr (.inl (n_pairA 7)))), (a_n (8 + 2), .inl (cA 1, 9, .inr (.inl (n_pairA 8)))), (a_p 0, .inr (2, [.int p_nodes, .int p_count, .ref (a_p 1), .ref (a_p 2)])), (a_p 1, .inl (cA 0, 9, .inl p_groups))]
theorem row_Ga_sumA_n_pairA {cA : Nat → ClassId} {a_n a_p : Nat → Nat} {n_x : Int32} {n_y : Int32} {n_nodes : Int32} {n_aloneB : Int64} {p_nodes : Int32} {p_count : Int32} {p_groups : Nat → Int32} (n_pairA : Nat → Nat → Int64) (k : Nat) (hk : k < 9) : (wd_Ga_sumA cA a_n a_p n_x n_y n_nodes n_aloneB n_pairA p_nodes p_count p_groups)[2 + k]? = some (a_n (k + 2), .inl (cA 1, 9, .inr (.inl (n_pairA k)))) := by
  rcases lt9 hk with rfl | rfl | rfl | rfl | rfl | rfl | rfl | rfl | rfl <;> rfl
theorem set_Ga_sumA_n_pairA {cA : Nat → ClassId} {a_n a_p : Nat → Nat} {n_x : Int32} {n_y : Int32} {n_nodes : Int32} {n_aloneB : Int64} {p_nodes : Int32} {p_count : Int32} {p_groups : Nat → Int32} {n_pairA : Nat → Nat → Int64} {f : Nat → Int64} (k : Nat) (hk : k < 9) : (wd_Ga_sumA cA a_n a_p n_x n_y n_nodes n_aloneB n_pairA p_nodes p_count p_groups).set (2 + k) (a_n (k + 2), .inl (cA 1, 9, .inr (.inl f))) = wd_Ga_sumA cA a_n a_p n_x n_y n_nodes n_aloneB (va_up n_pairA k f) p_nodes p_count p_groups := by
  rcases lt9 hk with rfl | rfl | rfl | rfl | rfl | rfl | rfl | rfl | rfl <;> rfl
noncomputable def m_Ga_sumA (n_nodes : Int32) (n_pairA : Nat → Nat → Int64) (p_groups : Nat → Int32) : Option Int64 :=
  ((m_Ga_sumWithin n_nodes p_groups n_pairA).bind (fun r6 : Int64 => some r6))
set_option maxHeartbeats 4000000 in
set_option maxRecDepth 100000 in
theorem c_Ga_sumA (l : Launch) (D : va_G) (cA : Nat → ClassId) (a_n a_p : Nat → Nat) (sz : Nat) (n_x : Int32) (n_y : Int32) (n_nodes : Int32) (n_aloneB : Int64) (n_pairA : Nat → Nat → Int64) (p_nodes : Int32) (p_count : Int32) (p_groups : Nat → Int32)  (out : Int64) (h : m_Ga_sumA n_nodes n_pairA p_groups = some out) : Met l y_Ga_sumA w_Ga_sumA ({ frames := 1, cells := 0, slots := 0, locals := 26 }) (va_Pc [.ref (a_n 0), .ref (a_p 0)] (fun U => U.heap.size = sz ∧ va_P D cls9 (wd_Ga_sumA cA a_n a_p n_x n_y n_nodes n_aloneB n_pairA p_nodes p_count p_groups) U.heap ∧ va_K D cls9 (tys5 cA) U ∧ va_D (fun _ => True) (wd_Ga_sumA cA a_n a_p n_x n_y n_nodes n_aloneB n_pairA p_nodes p_count p_groups))) (va_Ql (fun (rr : Int64) (uu : Unit) => rr = out) (fun (uu : Unit) (t : State) => va_P D cls9 (wd_Ga_sumA cA a_n a_p n_x n_y n_nodes n_aloneB n_pairA p_nodes p_count p_groups) t.heap ∧ va_K D cls9 (tys5 cA) t ∧ va_D (va_A (wd_Ga_sumA cA a_n a_p n_x n_y n_nodes n_aloneB n_pairA p_nodes p_count p_groups) sz) (wd_Ga_sumA cA a_n a_p n_x n_y n_nodes n_aloneB n_pairA p_nodes p_count p_groups)) (va_A (wd_Ga_sumA cA a_n a_p n_x n_y n_nodes n_aloneB n_pairA p_nodes p_count p_groups) sz)) 0 0 (va_A (wd_Ga_sumA cA a_n a_p n_x n_y n_nodes n_aloneB n_pairA p_nodes p_count p_groups) sz) := by
  refine Met.ofW (cc := b_Ga_sumA) (maxL := 2) (ret := (Option.some Jvm.ClassFile.FieldType.long)) (by decide) rfl ?_
  intro p e s m args below meth c s₁ B hml hv
  obtain ⟨rfl, hsz, hP, hK, hD0⟩ := hv
  have hx := B.exec
  have hb := B.bytes
  have hr := B.returns
  have hts := atoms_spec (ws := w_Ga_sumA) B.pre
  have hal : ∀ w ∈ ALLW, w.before _ s = true := fun w hw => hts w (List.mem_cons_of_mem _ hw)
  have hown : s.vm.findClass R_Ga = some m.cls := findClass_of_methodNamed B.named
  have hlocks := B.notSynchronized
  subst hsz
  have hD := hD0.self (sz := s.heap.size)
  generalize hAe : va_A (wd_Ga_sumA cA a_n a_p n_x n_y n_nodes n_aloneB n_pairA p_nodes p_count p_groups) s.heap.size = A at hD ⊢
  have hA : ∀ q : Nat, s.heap.size ≤ q → A q := fun q h => by rw [← hAe]; exact Or.inr h
  have hS : va_S A s.heap s.heap [] := va_S.rf
  have hl := lv_entry ([.ref (a_n 0), .ref (a_p 0)]) (n := 2) (Nat.le_of_ble_eq_true rfl)
  rw [lg_entry_eq]
  generalize (lg_sl ([.ref (a_n 0), .ref (a_p 0)]) ++ List.replicate (2 - (lg_sl ([.ref (a_n 0), .ref (a_p 0)])).length) Slot.unset).toArray = ls at hl ⊢
  have hl : lv_has ls 2 [(0, .ref (a_n 0)), (1, .ref (a_p 0))] := hl
  refine wg (fun G hG => ?_)
  refine cast (hG _ _ _ _ _ _ _).symm ?_
  obtain ⟨H, locs, hHl, hS⟩ : ∃ (H : Heap) (locs : List Loc), (H = s.heap ∧ locs = []) ∧ va_S A s.heap H locs := ⟨s.heap, [], ⟨rfl, rfl⟩, hS⟩
  have hP : va_P D cls9 (wd_Ga_sumA cA a_n a_p n_x n_y n_nodes n_aloneB n_pairA p_nodes p_count p_groups) H := by rw [hHl.1]; exact hP
  rw [← hHl.1, ← hHl.2]
  clear hHl
  refine lv_aload_n hx hb d_Ga_sumA_0 rfl (lv_at hl 0 rfl) ?_
  refine lv_aload_n hx hb d_Ga_sumA_1 rfl (lv_at hl 0 rfl) ?_
  refine va_get (ci := 0) (v := .ref (a_n 1)) (C := R_Ga) (T := F_Ga) (N := 9) hx hb hal in_Ga hown hK hP 0 rfl rfl 4 (by decide) (hal _ kw_76) (fun _ h9 => h9) rfl d_Ga_sumA_2 ?_
  refine lv_aload_n hx hb d_Ga_sumA_5 rfl (lv_at hl 1 rfl) ?_
  obtain ⟨o_4, hc_3, h⟩ := bd h
  have hPc := hP.sub (ws' := (wd_Ga_sumWithin cA a_n a_p (fun k => a_n (k + 1)) n_x n_y n_nodes n_aloneB p_nodes p_count p_groups n_pairA)) [0, 11, 12, 1, 2, 3, 4, 5, 6, 7, 8, 9, 10] rfl
  have hDc := hD.sub (ws' := (wd_Ga_sumWithin cA a_n a_p (fun k => a_n (k + 1)) n_x n_y n_nodes n_aloneB p_nodes p_count p_groups n_pairA)) [0, 11, 12, 1, 2, 3, 4, 5, 6, 7, 8, 9, 10] (by decide) rfl
  have hFc := va_free (wc := (wd_Ga_sumWithin cA a_n a_p (fun k => a_n (k + 1)) n_x n_y n_nodes n_aloneB p_nodes p_count p_groups n_pairA)) hD hS hA [0, 11, 12, 1, 2, 3, 4, 5, 6, 7, 8, 9, 10] rfl
  refine va_calll (va_runV (C := R_Ga) (As := [.ref (a_n 1), .ref (a_p 0)]) (rest := []) ⟨hx, hb, hml, hown, hal⟩ (c_Ga_sumWithin l D cA a_n a_p (fun k => a_n (k + 1)) H.size n_x n_y n_nodes n_aloneB p_nodes p_count p_groups n_pairA o_4 hc_3) (cwV 2 hal (goodV kw_388 kw_390 kw_p7 kw_3 kw_391) rfl rfl rfl (by decide +kernel) ⟨Nat.le_of_ble_eq_true rfl, Nat.le_of_ble_eq_true rfl⟩) ⟨fun a U g mk q => by obtain ⟨q0, q1, qP, qK, qD⟩ := q; exact ⟨q0, q1, qP, va_K.moved (u := U) (U := U.calling g mk a) (Vm.Alike.refl U.vm) qK, qD⟩, va_recv hK hP (ci := 0) (q0 := 0) rfl rfl, fun U hU hW => ⟨rfl, by rw [hU], by rw [hU]; exact hPc, va_K.moved hW.alike hK, hDc.weaken (fun _ _ _ _ => trivial)⟩⟩ rfl rfl hl.1 rfl (lv_room (Nat.le_of_ble_eq_true rfl)) d_Ga_sumA_6 ⟨Nat.le_of_ble_eq_true rfl, Nat.le_of_ble_eq_true rfl⟩) hS (fun q _ h => hFc q h) hFc (fun r_2 u t H1 locs ht hvm hw hB hz1 hk1 hS => ?_)
  subst hw
  obtain ⟨hP1, hK1, hD1⟩ := hB
  rw [ht] at hP1
  have hP1 : va_P D cls9 (wd_Ga_sumWithin cA a_n a_p (fun k => a_n (k + 1)) n_x n_y n_nodes n_aloneB p_nodes p_count p_groups n_pairA) H1 := hP1
  obtain ⟨hP, hD⟩ := va_join (wr := ([] : List Nat).filterMap (fun i => (wd_Ga_sumA cA a_n a_p n_x n_y n_nodes n_aloneB n_pairA p_nodes p_count p_groups)[i]?)) (w1 := (wd_Ga_sumWithin cA a_n a_p (fun k => a_n (k + 1)) n_x n_y n_nodes n_aloneB p_nodes p_count p_groups n_pairA)) hP hD [0, 11, 12, 1, 2, 3, 4, 5, 6, 7, 8, 9, 10] [] rfl rfl (by decide) (by decide) hk1 hFc hP1 hD1
  generalize H1 = H at hP hS ⊢
  have hP : va_P D cls9 (wd_Ga_sumA cA a_n a_p n_x n_y n_nodes n_aloneB n_pairA p_nodes p_count p_groups) H := hP.sub [0, 3, 4, 5, 6, 7, 8, 9, 10, 11, 12, 1, 2] rfl
  have hD : va_D A (wd_Ga_sumA cA a_n a_p n_x n_y n_nodes n_aloneB n_pairA p_nodes p_count p_groups) := hD.sub [0, 3, 4, 5, 6, 7, 8, 9, 10, 11, 12, 1, 2] (by decide) rfl
  exact W.lret (v := r_2) hx hb hr (fun t ht hW => ⟨⟨r_2, (), rfl, Option.some.inj h, by rw [ht]; exact hP, va_K.moved hW.alike hK, hD⟩, hS.F ht⟩) hS.2.2 d_Ga_sumA_9
def wd_Ga_sumB (cA : Nat → ClassId) (a_n a_p : Nat → Nat) (n_x : Int32) (n_y : Int32) (n_nodes : Int32) (n_aloneB : Int64) (n_pairB : Nat → Nat → Int64) (p_nodes : Int32) (p_count : Int32) (p_groups : Nat → Int32) : va_W := [(a_n 0, .inr (0, [.int n_x, .int n_y, .int n_nodes, .long n_aloneB, .ref (a_n 1), .ref (a_n 11), .ref (a_n 21), .ref (a_n 31), .ref (a_n 32)])), (a_n 11, .inl (cA 4, 9, .inr (.inr (.inr (.inr (fun i => if i < 9 then some (a_n (i + 12)) else none)))))), (a_n (0 + 12), .inl (cA 1, 9, .inr (.inl (n_pairB 0)))), (a_n (1 + 12), .inl (cA 1, 9, .inr (.inl (n_pairB 1)))), (a_n (2 + 12), .inl (cA 1, 9, .inr (.inl (n_pairB 2)))), (a_n (3 + 12), .inl (cA 1, 9, .inr (.inl (n_pairB 3)))), (a_n (4 + 12), .inl (cA 1, 9, .inr (.inl (n_pairB 4)))), (a_n (5 + 12), .inl (cA 1, 9, .inr (.inl (n_pairB 5)))), (a_n (6 + 12), .inl (cA 1, 9, .inr (.inl (n_pairB 6)))), (a_n (7 + 12), .inl (cA 1, 9, .inr (.inl (n_pairB 7)))), (a_n (8 + 12), .inl (cA 1, 9, .inr (.inl (n_pairB 8)))), (a_p 0, .inr (2, [.int p_nodes, .int p_count, .ref (a_p 1), .ref (a_p 2)])), (a_p 1, .inl (cA 0, 9, .inl p_groups))]
theorem row_Ga_sumB_n_pairB {cA : Nat → ClassId} {a_n a_p : Nat → Nat} {n_x : Int32} {n_y : Int32} {n_nodes : Int32} {n_aloneB : Int64} {p_nodes : Int32} {p_count : Int32} {p_groups : Nat → Int32} (n_pairB : Nat → Nat → Int64) (k : Nat) (hk : k < 9) : (wd_Ga_sumB cA a_n a_p n_x n_y n_nodes n_aloneB n_pairB p_nodes p_count p_groups)[2 + k]? = some (a_n (k + 12), .inl (cA 1, 9, .inr (.inl (n_pairB k)))) := by
  rcases lt9 hk with rfl | rfl | rfl | rfl | rfl | rfl | rfl | rfl | rfl <;> rfl
theorem set_Ga_sumB_n_pairB {cA : Nat → ClassId} {a_n a_p : Nat → Nat} {n_x : Int32} {n_y : Int32} {n_nodes : Int32} {n_aloneB : Int64} {p_nodes : Int32} {p_count : Int32} {p_groups : Nat → Int32} {n_pairB : Nat → Nat → Int64} {f : Nat → Int64} (k : Nat) (hk : k < 9) : (wd_Ga_sumB cA a_n a_p n_x n_y n_nodes n_aloneB n_pairB p_nodes p_count p_groups).set (2 + k) (a_n (k + 12), .inl (cA 1, 9, .inr (.inl f))) = wd_Ga_sumB cA a_n a_p n_x n_y n_nodes n_aloneB (va_up n_pairB k f) p_nodes p_count p_groups := by
  rcases lt9 hk with rfl | rfl | rfl | rfl | rfl | rfl | rfl | rfl | rfl <;> rfl
noncomputable def m_Ga_sumB (n_nodes : Int32) (n_aloneB : Int64) (n_pairB : Nat → Nat → Int64) (p_groups : Nat → Int32) : Option Int64 :=
  ((m_Ga_sumWithin n_nodes p_groups n_pairB).bind (fun r10 : Int64 => some (n_aloneB + r10)))
set_option maxHeartbeats 4000000 in
set_option maxRecDepth 100000 in
theorem c_Ga_sumB (l : Launch) (D : va_G) (cA : Nat → ClassId) (a_n a_p : Nat → Nat) (sz : Nat) (n_x : Int32) (n_y : Int32) (n_nodes : Int32) (n_aloneB : Int64) (n_pairB : Nat → Nat → Int64) (p_nodes : Int32) (p_count : Int32) (p_groups : Nat → Int32)  (out : Int64) (h : m_Ga_sumB n_nodes n_aloneB n_pairB p_groups = some out) : Met l y_Ga_sumB w_Ga_sumB ({ frames := 1, cells := 0, slots := 0, locals := 26 }) (va_Pc [.ref (a_n 0), .ref (a_p 0)] (fun U => U.heap.size = sz ∧ va_P D cls9 (wd_Ga_sumB cA a_n a_p n_x n_y n_nodes n_aloneB n_pairB p_nodes p_count p_groups) U.heap ∧ va_K D cls9 (tys5 cA) U ∧ va_D (fun _ => True) (wd_Ga_sumB cA a_n a_p n_x n_y n_nodes n_aloneB n_pairB p_nodes p_count p_groups))) (va_Ql (fun (rr : Int64) (uu : Unit) => rr = out) (fun (uu : Unit) (t : State) => va_P D cls9 (wd_Ga_sumB cA a_n a_p n_x n_y n_nodes n_aloneB n_pairB p_nodes p_count p_groups) t.heap ∧ va_K D cls9 (tys5 cA) t ∧ va_D (va_A (wd_Ga_sumB cA a_n a_p n_x n_y n_nodes n_aloneB n_pairB p_nodes p_count p_groups) sz) (wd_Ga_sumB cA a_n a_p n_x n_y n_nodes n_aloneB n_pairB p_nodes p_count p_groups)) (va_A (wd_Ga_sumB cA a_n a_p n_x n_y n_nodes n_aloneB n_pairB p_nodes p_count p_groups) sz)) 0 0 (va_A (wd_Ga_sumB cA a_n a_p n_x n_y n_nodes n_aloneB n_pairB p_nodes p_count p_groups) sz) := by
  refine Met.ofW (cc := b_Ga_sumB) (maxL := 2) (ret := (Option.some Jvm.ClassFile.FieldType.long)) (by decide) rfl ?_
  intro p e s m args below meth c s₁ B hml hv
  obtain ⟨rfl, hsz, hP, hK, hD0⟩ := hv
  have hx := B.exec
  have hb := B.bytes
  have hr := B.returns
  have hts := atoms_spec (ws := w_Ga_sumB) B.pre
  have hal : ∀ w ∈ ALLW, w.before _ s = true := fun w hw => hts w (List.mem_cons_of_mem _ hw)
  have hown : s.vm.findClass R_Ga = some m.cls := findClass_of_methodNamed B.named
  have hlocks := B.notSynchronized
  subst hsz
  have hD := hD0.self (sz := s.heap.size)
  generalize hAe : va_A (wd_Ga_sumB cA a_n a_p n_x n_y n_nodes n_aloneB n_pairB p_nodes p_count p_groups) s.heap.size = A at hD ⊢
  have hA : ∀ q : Nat, s.heap.size ≤ q → A q := fun q h => by rw [← hAe]; exact Or.inr h
  have hS : va_S A s.heap s.heap [] := va_S.rf
  have hl := lv_entry ([.ref (a_n 0), .ref (a_p 0)]) (n := 2) (Nat.le_of_ble_eq_true rfl)
  rw [lg_entry_eq]
  generalize (lg_sl ([.ref (a_n 0), .ref (a_p 0)]) ++ List.replicate (2 - (lg_sl ([.ref (a_n 0), .ref (a_p 0)])).length) Slot.unset).toArray = ls at hl ⊢
  have hl : lv_has ls 2 [(0, .ref (a_n 0)), (1, .ref (a_p 0))] := hl
  refine wg (fun G hG => ?_)
  refine cast (hG _ _ _ _ _ _ _).symm ?_
  obtain ⟨H, locs, hHl, hS⟩ : ∃ (H : Heap) (locs : List Loc), (H = s.heap ∧ locs = []) ∧ va_S A s.heap H locs := ⟨s.heap, [], ⟨rfl, rfl⟩, hS⟩
  have hP : va_P D cls9 (wd_Ga_sumB cA a_n a_p n_x n_y n_nodes n_aloneB n_pairB p_nodes p_count p_groups) H := by rw [hHl.1]; exact hP
  rw [← hHl.1, ← hHl.2]
  clear hHl
  refine lv_aload_n hx hb d_Ga_sumB_0 rfl (lv_at hl 0 rfl) ?_
  refine va_get (ci := 0) (v := .long n_aloneB) (C := R_Ga) (T := F_Ga) (N := 9) hx hb hal in_Ga hown hK hP 0 rfl rfl 3 (by decide) (hal _ kw_75) (fun _ h9 => h9) rfl d_Ga_sumB_1 ?_
  refine lv_aload_n hx hb d_Ga_sumB_4 rfl (lv_at hl 0 rfl) ?_
  refine lv_aload_n hx hb d_Ga_sumB_5 rfl (lv_at hl 0 rfl) ?_
  refine va_get (ci := 0) (v := .ref (a_n 11)) (C := R_Ga) (T := F_Ga) (N := 9) hx hb hal in_Ga hown hK hP 0 rfl rfl 5 (by decide) (hal _ kw_78) (fun _ h9 => h9) rfl d_Ga_sumB_6 ?_
  refine lv_aload_n hx hb d_Ga_sumB_9 rfl (lv_at hl 1 rfl) ?_
  obtain ⟨o_4, hc_3, h⟩ := bd h
  have hPc := hP.sub (ws' := (wd_Ga_sumWithin cA a_n a_p (fun k => a_n (k + 11)) n_x n_y n_nodes n_aloneB p_nodes p_count p_groups n_pairB)) [0, 11, 12, 1, 2, 3, 4, 5, 6, 7, 8, 9, 10] rfl
  have hDc := hD.sub (ws' := (wd_Ga_sumWithin cA a_n a_p (fun k => a_n (k + 11)) n_x n_y n_nodes n_aloneB p_nodes p_count p_groups n_pairB)) [0, 11, 12, 1, 2, 3, 4, 5, 6, 7, 8, 9, 10] (by decide) rfl
  have hFc := va_free (wc := (wd_Ga_sumWithin cA a_n a_p (fun k => a_n (k + 11)) n_x n_y n_nodes n_aloneB p_nodes p_count p_groups n_pairB)) hD hS hA [0, 11, 12, 1, 2, 3, 4, 5, 6, 7, 8, 9, 10] rfl
  refine va_calll (va_runV (C := R_Ga) (As := [.ref (a_n 11), .ref (a_p 0)]) (rest := [.long n_aloneB]) ⟨hx, hb, hml, hown, hal⟩ (c_Ga_sumWithin l D cA a_n a_p (fun k => a_n (k + 11)) H.size n_x n_y n_nodes n_aloneB p_nodes p_count p_groups n_pairB o_4 hc_3) (cwV 2 hal (goodV kw_388 kw_390 kw_p7 kw_3 kw_391) rfl rfl rfl (by decide +kernel) ⟨Nat.le_of_ble_eq_true rfl, Nat.le_of_ble_eq_true rfl⟩) ⟨fun a U g mk q => by obtain ⟨q0, q1, qP, qK, qD⟩ := q; exact ⟨q0, q1, qP, va_K.moved (u := U) (U := U.calling g mk a) (Vm.Alike.refl U.vm) qK, qD⟩, va_recv hK hP (ci := 0) (q0 := 0) rfl rfl, fun U hU hW => ⟨rfl, by rw [hU], by rw [hU]; exact hPc, va_K.moved hW.alike hK, hDc.weaken (fun _ _ _ _ => trivial)⟩⟩ rfl rfl hl.1 rfl (lv_room (Nat.le_of_ble_eq_true rfl)) d_Ga_sumB_10 ⟨Nat.le_of_ble_eq_true rfl, Nat.le_of_ble_eq_true rfl⟩) hS (fun q _ h => hFc q h) hFc (fun r_2 u t H1 locs ht hvm hw hB hz1 hk1 hS => ?_)
  subst hw
  obtain ⟨hP1, hK1, hD1⟩ := hB
  rw [ht] at hP1
  have hP1 : va_P D cls9 (wd_Ga_sumWithin cA a_n a_p (fun k => a_n (k + 11)) n_x n_y n_nodes n_aloneB p_nodes p_count p_groups n_pairB) H1 := hP1
  obtain ⟨hP, hD⟩ := va_join (wr := ([] : List Nat).filterMap (fun i => (wd_Ga_sumB cA a_n a_p n_x n_y n_nodes n_aloneB n_pairB p_nodes p_count p_groups)[i]?)) (w1 := (wd_Ga_sumWithin cA a_n a_p (fun k => a_n (k + 11)) n_x n_y n_nodes n_aloneB p_nodes p_count p_groups n_pairB)) hP hD [0, 11, 12, 1, 2, 3, 4, 5, 6, 7, 8, 9, 10] [] rfl rfl (by decide) (by decide) hk1 hFc hP1 hD1
  generalize H1 = H at hP hS ⊢
  have hP : va_P D cls9 (wd_Ga_sumB cA a_n a_p n_x n_y n_nodes n_aloneB n_pairB p_nodes p_count p_groups) H := hP.sub [0, 3, 4, 5, 6, 7, 8, 9, 10, 11, 12, 1, 2] rfl
  have hD : va_D A (wd_Ga_sumB cA a_n a_p n_x n_y n_nodes n_aloneB n_pairB p_nodes p_count p_groups) := hD.sub [0, 3, 4, 5, 6, 7, 8, 9, 10, 11, 12, 1, 2] (by decide) rfl
  refine lv_ladd hx hb d_Ga_sumB_13 ?_
  exact W.lret (v := (n_aloneB + r_2)) hx hb hr (fun t ht hW => ⟨⟨(n_aloneB + r_2), (), rfl, Option.some.inj h, by rw [ht]; exact hP, va_K.moved hW.alike hK, hD⟩, hS.F ht⟩) hS.2.2 d_Ga_sumB_14
def wd_Ga_worthOf (cA : Nat → ClassId) (a_n a_p : Nat → Nat) (n_x : Int32) (n_y : Int32) (n_nodes : Int32) (n_aloneB : Int64) (n_pairA : Nat → Nat → Int64) (n_pairB : Nat → Nat → Int64) (p_nodes : Int32) (p_count : Int32) (p_groups : Nat → Int32) : va_W := [(a_n 0, .inr (0, [.int n_x, .int n_y, .int n_nodes, .long n_aloneB, .ref (a_n 1), .ref (a_n 11), .ref (a_n 21), .ref (a_n 31), .ref (a_n 32)])), (a_n 1, .inl (cA 4, 9, .inr (.inr (.inr (.inr (fun i => if i < 9 then some (a_n (i + 2)) else none)))))), (a_n (0 + 2), .inl (cA 1, 9, .inr (.inl (n_pairA 0)))), (a_n (1 + 2), .inl (cA 1, 9, .inr (.inl (n_pairA 1)))), (a_n (2 + 2), .inl (cA 1, 9, .inr (.inl (n_pairA 2)))), (a_n (3 + 2), .inl (cA 1, 9, .inr (.inl (n_pairA 3)))), (a_n (4 + 2), .inl (cA 1, 9, .inr (.inl (n_pairA 4)))), (a_n (5 + 2), .inl (cA 1, 9, .inr (.inl (n_pairA 5)))), (a_n (6 + 2), .inl (cA 1, 9, .inr (.inl (n_pairA 6)))), (a_n (7 + 2), .inl (cA 1, 9, .inr (.inl (n_pairA 7)))), (a_n (8 + 2), .inl (cA 1, 9, .inr (.inl (n_pairA 8)))), (a_n 11, .inl (cA 4, 9, .inr (.inr (.inr (.inr (fun i => if i < 9 then some (a_n (i + 12)) else none)))))), (a_n (0 + 12), .inl (cA 1, 9, .inr (.inl (n_pairB 0)))), (a_n (1 + 12), .inl (cA 1, 9, .inr (.inl (n_pairB 1)))), (a_n (2 + 12), .inl (cA 1, 9, .inr (.inl (n_pairB 2)))), (a_n (3 + 12), .inl (cA 1, 9, .inr (.inl (n_pairB 3)))), (a_n (4 + 12), .inl (cA 1, 9, .inr (.inl (n_pairB 4)))), (a_n (5 + 12), .inl (cA 1, 9, .inr (.inl (n_pairB 5)))), (a_n (6 + 12), .inl (cA 1, 9, .inr (.inl (n_pairB 6)))), (a_n (7 + 12), .inl (cA 1, 9, .inr (.inl (n_pairB 7)))), (a_n (8 + 12), .inl (cA 1, 9, .inr (.inl (n_pairB 8)))), (a_p 0, .inr (2, [.int p_nodes, .int p_count, .ref (a_p 1), .ref (a_p 2)])), (a_p 1, .inl (cA 0, 9, .inl p_groups))]
theorem row_Ga_worthOf_n_pairA {cA : Nat → ClassId} {a_n a_p : Nat → Nat} {n_x : Int32} {n_y : Int32} {n_nodes : Int32} {n_aloneB : Int64} {n_pairB : Nat → Nat → Int64} {p_nodes : Int32} {p_count : Int32} {p_groups : Nat → Int32} (n_pairA : Nat → Nat → Int64) (k : Nat) (hk : k < 9) : (wd_Ga_worthOf cA a_n a_p n_x n_y n_nodes n_aloneB n_pairA n_pairB p_nodes p_count p_groups)[2 + k]? = some (a_n (k + 2), .inl (cA 1, 9, .inr (.inl (n_pairA k)))) := by
  rcases lt9 hk with rfl | rfl | rfl | rfl | rfl | rfl | rfl | rfl | rfl <;> rfl
theorem set_Ga_worthOf_n_pairA {cA : Nat → ClassId} {a_n a_p : Nat → Nat} {n_x : Int32} {n_y : Int32} {n_nodes : Int32} {n_aloneB : Int64} {n_pairB : Nat → Nat → Int64} {p_nodes : Int32} {p_count : Int32} {p_groups : Nat → Int32} {n_pairA : Nat → Nat → Int64} {f : Nat → Int64} (k : Nat) (hk : k < 9) : (wd_Ga_worthOf cA a_n a_p n_x n_y n_nodes n_aloneB n_pairA n_pairB p_nodes p_count p_groups).set (2 + k) (a_n (k + 2), .inl (cA 1, 9, .inr (.inl f))) = wd_Ga_worthOf cA a_n a_p n_x n_y n_nodes n_aloneB (va_up n_pairA k f) n_pairB p_nodes p_count p_groups := by
  rcases lt9 hk with rfl | rfl | rfl | rfl | rfl | rfl | rfl | rfl | rfl <;> rfl
theorem row_Ga_worthOf_n_pairB {cA : Nat → ClassId} {a_n a_p : Nat → Nat} {n_x : Int32} {n_y : Int32} {n_nodes : Int32} {n_aloneB : Int64} {n_pairA : Nat → Nat → Int64} {p_nodes : Int32} {p_count : Int32} {p_groups : Nat → Int32} (n_pairB : Nat → Nat → Int64) (k : Nat) (hk : k < 9) : (wd_Ga_worthOf cA a_n a_p n_x n_y n_nodes n_aloneB n_pairA n_pairB p_nodes p_count p_groups)[12 + k]? = some (a_n (k + 12), .inl (cA 1, 9, .inr (.inl (n_pairB k)))) := by
  rcases lt9 hk with rfl | rfl | rfl | rfl | rfl | rfl | rfl | rfl | rfl <;> rfl
theorem set_Ga_worthOf_n_pairB {cA : Nat → ClassId} {a_n a_p : Nat → Nat} {n_x : Int32} {n_y : Int32} {n_nodes : Int32} {n_aloneB : Int64} {n_pairA : Nat → Nat → Int64} {p_nodes : Int32} {p_count : Int32} {p_groups : Nat → Int32} {n_pairB : Nat → Nat → Int64} {f : Nat → Int64} (k : Nat) (hk : k < 9) : (wd_Ga_worthOf cA a_n a_p n_x n_y n_nodes n_aloneB n_pairA n_pairB p_nodes p_count p_groups).set (12 + k) (a_n (k + 12), .inl (cA 1, 9, .inr (.inl f))) = wd_Ga_worthOf cA a_n a_p n_x n_y n_nodes n_aloneB n_pairA (va_up n_pairB k f) p_nodes p_count p_groups := by
  rcases lt9 hk with rfl | rfl | rfl | rfl | rfl | rfl | rfl | rfl | rfl <;> rfl
noncomputable def m_Ga_worthOf (n_x : Int32) (n_y : Int32) (n_nodes : Int32) (n_aloneB : Int64) (n_pairA : Nat → Nat → Int64) (n_pairB : Nat → Nat → Int64) (p_groups : Nat → Int32) : Option Int64 :=
  ((m_Ga_sumA n_nodes n_pairA p_groups).bind (fun r3 : Int64 => ((m_Ga_sumB n_nodes n_aloneB n_pairB p_groups).bind (fun r8 : Int64 => ((m_Ga_worth n_x n_y r3 r8).bind (fun r11 : Int64 => some r11))))))
set_option maxHeartbeats 4000000 in
set_option maxRecDepth 100000 in
theorem c_Ga_worthOf (l : Launch) (D : va_G) (cA : Nat → ClassId) (a_n a_p : Nat → Nat) (sz : Nat) (n_x : Int32) (n_y : Int32) (n_nodes : Int32) (n_aloneB : Int64) (n_pairA : Nat → Nat → Int64) (n_pairB : Nat → Nat → Int64) (p_nodes : Int32) (p_count : Int32) (p_groups : Nat → Int32)  (out : Int64) (h : m_Ga_worthOf n_x n_y n_nodes n_aloneB n_pairA n_pairB p_groups = some out) : Met l y_Ga_worthOf w_Ga_worthOf ({ frames := 2, cells := 0, slots := 0, locals := 47 }) (va_Pc [.ref (a_n 0), .ref (a_p 0)] (fun U => U.heap.size = sz ∧ va_P D cls9 (wd_Ga_worthOf cA a_n a_p n_x n_y n_nodes n_aloneB n_pairA n_pairB p_nodes p_count p_groups) U.heap ∧ va_K D cls9 (tys5 cA) U ∧ va_D (fun _ => True) (wd_Ga_worthOf cA a_n a_p n_x n_y n_nodes n_aloneB n_pairA n_pairB p_nodes p_count p_groups))) (va_Ql (fun (rr : Int64) (uu : Unit) => rr = out) (fun (uu : Unit) (t : State) => va_P D cls9 (wd_Ga_worthOf cA a_n a_p n_x n_y n_nodes n_aloneB n_pairA n_pairB p_nodes p_count p_groups) t.heap ∧ va_K D cls9 (tys5 cA) t ∧ va_D (va_A (wd_Ga_worthOf cA a_n a_p n_x n_y n_nodes n_aloneB n_pairA n_pairB p_nodes p_count p_groups) sz) (wd_Ga_worthOf cA a_n a_p n_x n_y n_nodes n_aloneB n_pairA n_pairB p_nodes p_count p_groups)) (va_A (wd_Ga_worthOf cA a_n a_p n_x n_y n_nodes n_aloneB n_pairA n_pairB p_nodes p_count p_groups) sz)) 0 0 (va_A (wd_Ga_worthOf cA a_n a_p n_x n_y n_nodes n_aloneB n_pairA n_pairB p_nodes p_count p_groups) sz) := by
  refine Met.ofW (cc := b_Ga_worthOf) (maxL := 2) (ret := (Option.some Jvm.ClassFile.FieldType.long)) (by decide) rfl ?_
  intro p e s m args below meth c s₁ B hml hv
  obtain ⟨rfl, hsz, hP, hK, hD0⟩ := hv
  have hx := B.exec
  have hb := B.bytes
  have hr := B.returns
  have hts := atoms_spec (ws := w_Ga_worthOf) B.pre
  have hal : ∀ w ∈ ALLW, w.before _ s = true := fun w hw => hts w (List.mem_cons_of_mem _ hw)
  have hown : s.vm.findClass R_Ga = some m.cls := findClass_of_methodNamed B.named
  have hlocks := B.notSynchronized
  subst hsz
  have hD := hD0.self (sz := s.heap.size)
  generalize hAe : va_A (wd_Ga_worthOf cA a_n a_p n_x n_y n_nodes n_aloneB n_pairA n_pairB p_nodes p_count p_groups) s.heap.size = A at hD ⊢
  have hA : ∀ q : Nat, s.heap.size ≤ q → A q := fun q h => by rw [← hAe]; exact Or.inr h
  have hS : va_S A s.heap s.heap [] := va_S.rf
  have hl := lv_entry ([.ref (a_n 0), .ref (a_p 0)]) (n := 2) (Nat.le_of_ble_eq_true rfl)
  rw [lg_entry_eq]
  generalize (lg_sl ([.ref (a_n 0), .ref (a_p 0)]) ++ List.replicate (2 - (lg_sl ([.ref (a_n 0), .ref (a_p 0)])).length) Slot.unset).toArray = ls at hl ⊢
  have hl : lv_has ls 2 [(0, .ref (a_n 0)), (1, .ref (a_p 0))] := hl
  refine wg (fun G hG => ?_)
  refine cast (hG _ _ _ _ _ _ _).symm ?_
  obtain ⟨H, locs, hHl, hS⟩ : ∃ (H : Heap) (locs : List Loc), (H = s.heap ∧ locs = []) ∧ va_S A s.heap H locs := ⟨s.heap, [], ⟨rfl, rfl⟩, hS⟩
  have hP : va_P D cls9 (wd_Ga_worthOf cA a_n a_p n_x n_y n_nodes n_aloneB n_pairA n_pairB p_nodes p_count p_groups) H := by rw [hHl.1]; exact hP
  rw [← hHl.1, ← hHl.2]
  clear hHl
  refine lv_aload_n hx hb d_Ga_worthOf_0 rfl (lv_at hl 0 rfl) ?_
  refine lv_aload_n hx hb d_Ga_worthOf_1 rfl (lv_at hl 0 rfl) ?_
  refine lv_aload_n hx hb d_Ga_worthOf_2 rfl (lv_at hl 1 rfl) ?_
  obtain ⟨o_4, hc_3, h⟩ := bd h
  have hPc := hP.sub (ws' := (wd_Ga_sumA cA a_n a_p n_x n_y n_nodes n_aloneB n_pairA p_nodes p_count p_groups)) [0, 1, 2, 3, 4, 5, 6, 7, 8, 9, 10, 21, 22] rfl
  have hDc := hD.sub (ws' := (wd_Ga_sumA cA a_n a_p n_x n_y n_nodes n_aloneB n_pairA p_nodes p_count p_groups)) [0, 1, 2, 3, 4, 5, 6, 7, 8, 9, 10, 21, 22] (by decide) rfl
  have hFc := va_free (wc := (wd_Ga_sumA cA a_n a_p n_x n_y n_nodes n_aloneB n_pairA p_nodes p_count p_groups)) hD hS hA [0, 1, 2, 3, 4, 5, 6, 7, 8, 9, 10, 21, 22] rfl
  refine va_calll (va_runV (C := R_Ga) (As := [.ref (a_p 0)]) (rest := [.ref (a_n 0)]) ⟨hx, hb, hml, hown, hal⟩ (c_Ga_sumA l D cA a_n a_p H.size n_x n_y n_nodes n_aloneB n_pairA p_nodes p_count p_groups o_4 hc_3) (cwV 1 hal (goodV kw_384 kw_385 kw_386 kw_3 kw_387) rfl rfl rfl (by decide +kernel) ⟨Nat.le_of_ble_eq_true rfl, Nat.le_of_ble_eq_true rfl⟩) ⟨fun a U g mk q => by obtain ⟨q0, q1, qP, qK, qD⟩ := q; exact ⟨q0, q1, qP, va_K.moved (u := U) (U := U.calling g mk a) (Vm.Alike.refl U.vm) qK, qD⟩, va_recv hK hP (ci := 0) (q0 := 0) rfl rfl, fun U hU hW => ⟨rfl, by rw [hU], by rw [hU]; exact hPc, va_K.moved hW.alike hK, hDc.weaken (fun _ _ _ _ => trivial)⟩⟩ rfl rfl hl.1 rfl (lv_room (Nat.le_of_ble_eq_true rfl)) d_Ga_worthOf_3 ⟨Nat.le_of_ble_eq_true rfl, Nat.le_of_ble_eq_true rfl⟩) hS (fun q _ h => hFc q h) hFc (fun r_2 u t H1 locs ht hvm hw hB hz1 hk1 hS => ?_)
  subst hw
  obtain ⟨hP1, hK1, hD1⟩ := hB
  rw [ht] at hP1
  have hP1 : va_P D cls9 (wd_Ga_sumA cA a_n a_p n_x n_y n_nodes n_aloneB n_pairA p_nodes p_count p_groups) H1 := hP1
  obtain ⟨hP, hD⟩ := va_join (wr := ([11, 12, 13, 14, 15, 16, 17, 18, 19, 20] : List Nat).filterMap (fun i => (wd_Ga_worthOf cA a_n a_p n_x n_y n_nodes n_aloneB n_pairA n_pairB p_nodes p_count p_groups)[i]?)) (w1 := (wd_Ga_sumA cA a_n a_p n_x n_y n_nodes n_aloneB n_pairA p_nodes p_count p_groups)) hP hD [0, 1, 2, 3, 4, 5, 6, 7, 8, 9, 10, 21, 22] [11, 12, 13, 14, 15, 16, 17, 18, 19, 20] rfl rfl (by decide) (by decide) hk1 hFc hP1 hD1
  generalize H1 = H at hP hS ⊢
  have hP : va_P D cls9 (wd_Ga_worthOf cA a_n a_p n_x n_y n_nodes n_aloneB n_pairA n_pairB p_nodes p_count p_groups) H := hP.sub [10, 11, 12, 13, 14, 15, 16, 17, 18, 19, 20, 0, 1, 2, 3, 4, 5, 6, 7, 8, 9, 21, 22] rfl
  have hD : va_D A (wd_Ga_worthOf cA a_n a_p n_x n_y n_nodes n_aloneB n_pairA n_pairB p_nodes p_count p_groups) := hD.sub [10, 11, 12, 13, 14, 15, 16, 17, 18, 19, 20, 0, 1, 2, 3, 4, 5, 6, 7, 8, 9, 21, 22] (by decide) rfl
  refine lv_aload_n hx hb d_Ga_worthOf_6 rfl (lv_at hl 0 rfl) ?_
  refine lv_aload_n hx hb d_Ga_worthOf_7 rfl (lv_at hl 1 rfl) ?_
  obtain ⟨o_8, hc_7, h⟩ := bd h
  have hPc := hP.sub (ws' := (wd_Ga_sumB cA a_n a_p n_x n_y n_nodes n_aloneB n_pairB p_nodes p_count p_groups)) [0, 11, 12, 13, 14, 15, 16, 17, 18, 19, 20, 21, 22] rfl
  have hDc := hD.sub (ws' := (wd_Ga_sumB cA a_n a_p n_x n_y n_nodes n_aloneB n_pairB p_nodes p_count p_groups)) [0, 11, 12, 13, 14, 15, 16, 17, 18, 19, 20, 21, 22] (by decide) rfl
  have hFc := va_free (wc := (wd_Ga_sumB cA a_n a_p n_x n_y n_nodes n_aloneB n_pairB p_nodes p_count p_groups)) hD hS hA [0, 11, 12, 13, 14, 15, 16, 17, 18, 19, 20, 21, 22] rfl
  refine va_calll (va_runV (C := R_Ga) (As := [.ref (a_p 0)]) (rest := [.long r_2, .ref (a_n 0)]) ⟨hx, hb, hml, hown, hal⟩ (c_Ga_sumB l D cA a_n a_p H.size n_x n_y n_nodes n_aloneB n_pairB p_nodes p_count p_groups o_8 hc_7) (cwV 1 hal (goodV kw_392 kw_393 kw_394 kw_3 kw_395) rfl rfl rfl (by decide +kernel) ⟨Nat.le_of_ble_eq_true rfl, Nat.le_of_ble_eq_true rfl⟩) ⟨fun a U g mk q => by obtain ⟨q0, q1, qP, qK, qD⟩ := q; exact ⟨q0, q1, qP, va_K.moved (u := U) (U := U.calling g mk a) (Vm.Alike.refl U.vm) qK, qD⟩, va_recv hK hP (ci := 0) (q0 := 0) rfl rfl, fun U hU hW => ⟨rfl, by rw [hU], by rw [hU]; exact hPc, va_K.moved hW.alike hK, hDc.weaken (fun _ _ _ _ => trivial)⟩⟩ rfl rfl hl.1 rfl (lv_room (Nat.le_of_ble_eq_true rfl)) d_Ga_worthOf_8 ⟨Nat.le_of_ble_eq_true rfl, Nat.le_of_ble_eq_true rfl⟩) hS (fun q _ h => hFc q h) hFc (fun r_6 u t H1 locs ht hvm hw hB hz1 hk1 hS => ?_)
  subst hw
  obtain ⟨hP1, hK1, hD1⟩ := hB
  rw [ht] at hP1
  have hP1 : va_P D cls9 (wd_Ga_sumB cA a_n a_p n_x n_y n_nodes n_aloneB n_pairB p_nodes p_count p_groups) H1 := hP1
  obtain ⟨hP, hD⟩ := va_join (wr := ([1, 2, 3, 4, 5, 6, 7, 8, 9, 10] : List Nat).filterMap (fun i => (wd_Ga_worthOf cA a_n a_p n_x n_y n_nodes n_aloneB n_pairA n_pairB p_nodes p_count p_groups)[i]?)) (w1 := (wd_Ga_sumB cA a_n a_p n_x n_y n_nodes n_aloneB n_pairB p_nodes p_count p_groups)) hP hD [0, 11, 12, 13, 14, 15, 16, 17, 18, 19, 20, 21, 22] [1, 2, 3, 4, 5, 6, 7, 8, 9, 10] rfl rfl (by decide) (by decide) hk1 hFc hP1 hD1
  generalize H1 = H at hP hS ⊢
  have hP : va_P D cls9 (wd_Ga_worthOf cA a_n a_p n_x n_y n_nodes n_aloneB n_pairA n_pairB p_nodes p_count p_groups) H := hP.sub [10, 0, 1, 2, 3, 4, 5, 6, 7, 8, 9, 11, 12, 13, 14, 15, 16, 17, 18, 19, 20, 21, 22] rfl
  have hD : va_D A (wd_Ga_worthOf cA a_n a_p n_x n_y n_nodes n_aloneB n_pairA n_pairB p_nodes p_count p_groups) := hD.sub [10, 0, 1, 2, 3, 4, 5, 6, 7, 8, 9, 11, 12, 13, 14, 15, 16, 17, 18, 19, 20, 21, 22] (by decide) rfl
  obtain ⟨o_12, hc_11, h⟩ := bd h
  have hPc := hP.sub (ws' := (wd_Ga_worth cA a_n n_x n_y n_nodes n_aloneB)) [0] rfl
  have hDc := hD.sub (ws' := (wd_Ga_worth cA a_n n_x n_y n_nodes n_aloneB)) [0] (by decide) rfl
  have hFc := va_free (wc := (wd_Ga_worth cA a_n n_x n_y n_nodes n_aloneB)) hD hS hA [0] rfl
  refine va_calll (va_runV (C := R_Ga) (As := [.long r_2, .long r_6]) (rest := []) ⟨hx, hb, hml, hown, hal⟩ (c_Ga_worth l D cA a_n H.size n_x n_y n_nodes n_aloneB r_2 r_6 o_12 hc_11) (cwV 2 hal (goodV kw_396 kw_397 kw_398 kw_3 kw_399) rfl rfl rfl (by decide +kernel) ⟨Nat.le_of_ble_eq_true rfl, Nat.le_of_ble_eq_true rfl⟩) ⟨fun a U g mk q => by obtain ⟨q0, q1, qP, qK, qD⟩ := q; exact ⟨q0, q1, qP, va_K.moved (u := U) (U := U.calling g mk a) (Vm.Alike.refl U.vm) qK, qD⟩, va_recv hK hP (ci := 0) (q0 := 0) rfl rfl, fun U hU hW => ⟨rfl, by rw [hU], by rw [hU]; exact hPc, va_K.moved hW.alike hK, hDc.weaken (fun _ _ _ _ => trivial)⟩⟩ rfl rfl hl.1 rfl (lv_room (Nat.le_of_ble_eq_true rfl)) d_Ga_worthOf_11 ⟨Nat.le_of_ble_eq_true rfl, Nat.le_of_ble_eq_true rfl⟩) hS (fun q _ h => hFc q h) hFc (fun r_10 u t H1 locs ht hvm hw hB hz1 hk1 hS => ?_)
  subst hw
  obtain ⟨hP1, hK1, hD1⟩ := hB
  rw [ht] at hP1
  have hP1 : va_P D cls9 (wd_Ga_worth cA a_n n_x n_y n_nodes n_aloneB) H1 := hP1
  obtain ⟨hP, hD⟩ := va_join (wr := ([1, 2, 3, 4, 5, 6, 7, 8, 9, 10, 11, 12, 13, 14, 15, 16, 17, 18, 19, 20, 21, 22] : List Nat).filterMap (fun i => (wd_Ga_worthOf cA a_n a_p n_x n_y n_nodes n_aloneB n_pairA n_pairB p_nodes p_count p_groups)[i]?)) (w1 := (wd_Ga_worth cA a_n n_x n_y n_nodes n_aloneB)) hP hD [0] [1, 2, 3, 4, 5, 6, 7, 8, 9, 10, 11, 12, 13, 14, 15, 16, 17, 18, 19, 20, 21, 22] rfl rfl (by decide) (by decide) hk1 hFc hP1 hD1
  generalize H1 = H at hP hS ⊢
  have hP : va_P D cls9 (wd_Ga_worthOf cA a_n a_p n_x n_y n_nodes n_aloneB n_pairA n_pairB p_nodes p_count p_groups) H := hP.sub [22, 0, 1, 2, 3, 4, 5, 6, 7, 8, 9, 10, 11, 12, 13, 14, 15, 16, 17, 18, 19, 20, 21] rfl
  have hD : va_D A (wd_Ga_worthOf cA a_n a_p n_x n_y n_nodes n_aloneB n_pairA n_pairB p_nodes p_count p_groups) := hD.sub [22, 0, 1, 2, 3, 4, 5, 6, 7, 8, 9, 10, 11, 12, 13, 14, 15, 16, 17, 18, 19, 20, 21] (by decide) rfl
  exact W.lret (v := r_10) hx hb hr (fun t ht hW => ⟨⟨r_10, (), rfl, Option.some.inj h, by rw [ht]; exact hP, va_K.moved hW.alike hK, hD⟩, hS.F ht⟩) hS.2.2 d_Ga_worthOf_14
def wd_Ga_between (cA : Nat → ClassId) (a_n a_p : Nat → Nat) (n_x : Int32) (n_y : Int32) (n_nodes : Int32) (n_aloneB : Int64) (n_pairA : Nat → Nat → Int64) (n_pairB : Nat → Nat → Int64) (p_nodes : Int32) (p_count : Int32) (p_groups : Nat → Int32) : va_W := [(a_n 0, .inr (0, [.int n_x, .int n_y, .int n_nodes, .long n_aloneB, .ref (a_n 1), .ref (a_n 11), .ref (a_n 21), .ref (a_n 31), .ref (a_n 32)])), (a_n 1, .inl (cA 4, 9, .inr (.inr (.inr (.inr (fun i => if i < 9 then some (a_n (i + 2)) else none)))))), (a_n (0 + 2), .inl (cA 1, 9, .inr (.inl (n_pairA 0)))), (a_n (1 + 2), .inl (cA 1, 9, .inr (.inl (n_pairA 1)))), (a_n (2 + 2), .inl (cA 1, 9, .inr (.inl (n_pairA 2)))), (a_n (3 + 2), .inl (cA 1, 9, .inr (.inl (n_pairA 3)))), (a_n (4 + 2), .inl (cA 1, 9, .inr (.inl (n_pairA 4)))), (a_n (5 + 2), .inl (cA 1, 9, .inr (.inl (n_pairA 5)))), (a_n (6 + 2), .inl (cA 1, 9, .inr (.inl (n_pairA 6)))), (a_n (7 + 2), .inl (cA 1, 9, .inr (.inl (n_pairA 7)))), (a_n (8 + 2), .inl (cA 1, 9, .inr (.inl (n_pairA 8)))), (a_n 11, .inl (cA 4, 9, .inr (.inr (.inr (.inr (fun i => if i < 9 then some (a_n (i + 12)) else none)))))), (a_n (0 + 12), .inl (cA 1, 9, .inr (.inl (n_pairB 0)))), (a_n (1 + 12), .inl (cA 1, 9, .inr (.inl (n_pairB 1)))), (a_n (2 + 12), .inl (cA 1, 9, .inr (.inl (n_pairB 2)))), (a_n (3 + 12), .inl (cA 1, 9, .inr (.inl (n_pairB 3)))), (a_n (4 + 12), .inl (cA 1, 9, .inr (.inl (n_pairB 4)))), (a_n (5 + 12), .inl (cA 1, 9, .inr (.inl (n_pairB 5)))), (a_n (6 + 12), .inl (cA 1, 9, .inr (.inl (n_pairB 6)))), (a_n (7 + 12), .inl (cA 1, 9, .inr (.inl (n_pairB 7)))), (a_n (8 + 12), .inl (cA 1, 9, .inr (.inl (n_pairB 8)))), (a_p 0, .inr (2, [.int p_nodes, .int p_count, .ref (a_p 1), .ref (a_p 2)])), (a_p 1, .inl (cA 0, 9, .inl p_groups))]
theorem row_Ga_between_n_pairA {cA : Nat → ClassId} {a_n a_p : Nat → Nat} {n_x : Int32} {n_y : Int32} {n_nodes : Int32} {n_aloneB : Int64} {n_pairB : Nat → Nat → Int64} {p_nodes : Int32} {p_count : Int32} {p_groups : Nat → Int32} (n_pairA : Nat → Nat → Int64) (k : Nat) (hk : k < 9) : (wd_Ga_between cA a_n a_p n_x n_y n_nodes n_aloneB n_pairA n_pairB p_nodes p_count p_groups)[2 + k]? = some (a_n (k + 2), .inl (cA 1, 9, .inr (.inl (n_pairA k)))) := by
  rcases lt9 hk with rfl | rfl | rfl | rfl | rfl | rfl | rfl | rfl | rfl <;> rfl
theorem set_Ga_between_n_pairA {cA : Nat → ClassId} {a_n a_p : Nat → Nat} {n_x : Int32} {n_y : Int32} {n_nodes : Int32} {n_aloneB : Int64} {n_pairB : Nat → Nat → Int64} {p_nodes : Int32} {p_count : Int32} {p_groups : Nat → Int32} {n_pairA : Nat → Nat → Int64} {f : Nat → Int64} (k : Nat) (hk : k < 9) : (wd_Ga_between cA a_n a_p n_x n_y n_nodes n_aloneB n_pairA n_pairB p_nodes p_count p_groups).set (2 + k) (a_n (k + 2), .inl (cA 1, 9, .inr (.inl f))) = wd_Ga_between cA a_n a_p n_x n_y n_nodes n_aloneB (va_up n_pairA k f) n_pairB p_nodes p_count p_groups := by
  rcases lt9 hk with rfl | rfl | rfl | rfl | rfl | rfl | rfl | rfl | rfl <;> rfl
theorem row_Ga_between_n_pairB {cA : Nat → ClassId} {a_n a_p : Nat → Nat} {n_x : Int32} {n_y : Int32} {n_nodes : Int32} {n_aloneB : Int64} {n_pairA : Nat → Nat → Int64} {p_nodes : Int32} {p_count : Int32} {p_groups : Nat → Int32} (n_pairB : Nat → Nat → Int64) (k : Nat) (hk : k < 9) : (wd_Ga_between cA a_n a_p n_x n_y n_nodes n_aloneB n_pairA n_pairB p_nodes p_count p_groups)[12 + k]? = some (a_n (k + 12), .inl (cA 1, 9, .inr (.inl (n_pairB k)))) := by
  rcases lt9 hk with rfl | rfl | rfl | rfl | rfl | rfl | rfl | rfl | rfl <;> rfl
theorem set_Ga_between_n_pairB {cA : Nat → ClassId} {a_n a_p : Nat → Nat} {n_x : Int32} {n_y : Int32} {n_nodes : Int32} {n_aloneB : Int64} {n_pairA : Nat → Nat → Int64} {p_nodes : Int32} {p_count : Int32} {p_groups : Nat → Int32} {n_pairB : Nat → Nat → Int64} {f : Nat → Int64} (k : Nat) (hk : k < 9) : (wd_Ga_between cA a_n a_p n_x n_y n_nodes n_aloneB n_pairA n_pairB p_nodes p_count p_groups).set (12 + k) (a_n (k + 12), .inl (cA 1, 9, .inr (.inl f))) = wd_Ga_between cA a_n a_p n_x n_y n_nodes n_aloneB n_pairA (va_up n_pairB k f) p_nodes p_count p_groups := by
  rcases lt9 hk with rfl | rfl | rfl | rfl | rfl | rfl | rfl | rfl | rfl <;> rfl
noncomputable def s_Ga_between_18 (x2 : Int32) (x3 : Int32) (x6 : Int32) (n_nodes : Int32) (n_pairA : Nat → Nat → Int64) (n_pairB : Nat → Nat → Int64) (n_x : Int32) (n_y : Int32) (p_groups : Nat → Int32) (zz : Int64 × Int32) (back exit : (Int64 × Int32) → Option Int64) : Option Int64 :=
  (if n_nodes ≤ zz.2 then (exit (zz.1, zz.2)) else (if inb x6 9 then (if (p_groups x6.toNatClampNeg) = x2 then (if inb zz.2 9 then (if (p_groups zz.2.toNatClampNeg) = x3 then (if inb x6 9 then ((m_Ga_worth n_x n_y ((n_pairA x6.toNatClampNeg) zz.2.toNatClampNeg) ((n_pairB x6.toNatClampNeg) zz.2.toNatClampNeg)).bind (fun r72 : Int64 => (back ((zz.1 + r72), (zz.2 + 1))))) else none) else (back (zz.1, (zz.2 + 1)))) else none) else (back (zz.1, (zz.2 + 1)))) else none))
noncomputable def s_Ga_between_6 (x2 : Int32) (x3 : Int32) (n_nodes : Int32) (n_pairA : Nat → Nat → Int64) (n_pairB : Nat → Nat → Int64) (n_x : Int32) (n_y : Int32) (p_groups : Nat → Int32) (zz : Int64 × Int32) (back exit : (Int64 × Int32) → Option Int64) : Option Int64 :=
  (if n_nodes ≤ zz.2 then (exit (zz.1, zz.2)) else (loopC (s_Ga_between_18 x2 x3 zz.2 n_nodes n_pairA n_pairB n_x n_y p_groups) (fun z18 : Int64 × Int32 => (back (z18.1, (zz.2 + 1)))) FU (zz.1, (0 : Int32))))
noncomputable def m_Ga_between (n_x : Int32) (n_y : Int32) (n_nodes : Int32) (n_pairA : Nat → Nat → Int64) (n_pairB : Nat → Nat → Int64) (p_groups : Nat → Int32) (v2 : Int32) (v3 : Int32) : Option Int64 :=
  (loopC (s_Ga_between_6 v2 v3 n_nodes n_pairA n_pairB n_x n_y p_groups) (fun z6 : Int64 × Int32 => some z6.1) FU ((0 : Int64), (0 : Int32)))
set_option maxHeartbeats 4000000 in
set_option maxRecDepth 100000 in
theorem c_Ga_between (l : Launch) (D : va_G) (cA : Nat → ClassId) (a_n a_p : Nat → Nat) (sz : Nat) (n_x : Int32) (n_y : Int32) (n_nodes : Int32) (n_aloneB : Int64) (n_pairA : Nat → Nat → Int64) (n_pairB : Nat → Nat → Int64) (p_nodes : Int32) (p_count : Int32) (p_groups : Nat → Int32) (v2 : Int32) (v3 : Int32) (out : Int64) (h : m_Ga_between n_x n_y n_nodes n_pairA n_pairB p_groups v2 v3 = some out) : Met l y_Ga_between w_Ga_between ({ frames := 1, cells := 0, slots := 0, locals := 24 }) (va_Pc [.ref (a_n 0), .ref (a_p 0), .int v2, .int v3] (fun U => U.heap.size = sz ∧ va_P D cls9 (wd_Ga_between cA a_n a_p n_x n_y n_nodes n_aloneB n_pairA n_pairB p_nodes p_count p_groups) U.heap ∧ va_K D cls9 (tys5 cA) U ∧ va_D (fun _ => True) (wd_Ga_between cA a_n a_p n_x n_y n_nodes n_aloneB n_pairA n_pairB p_nodes p_count p_groups))) (va_Ql (fun (rr : Int64) (uu : Unit) => rr = out) (fun (uu : Unit) (t : State) => va_P D cls9 (wd_Ga_between cA a_n a_p n_x n_y n_nodes n_aloneB n_pairA n_pairB p_nodes p_count p_groups) t.heap ∧ va_K D cls9 (tys5 cA) t ∧ va_D (va_A (wd_Ga_between cA a_n a_p n_x n_y n_nodes n_aloneB n_pairA n_pairB p_nodes p_count p_groups) sz) (wd_Ga_between cA a_n a_p n_x n_y n_nodes n_aloneB n_pairA n_pairB p_nodes p_count p_groups)) (va_A (wd_Ga_between cA a_n a_p n_x n_y n_nodes n_aloneB n_pairA n_pairB p_nodes p_count p_groups) sz)) 0 0 (va_A (wd_Ga_between cA a_n a_p n_x n_y n_nodes n_aloneB n_pairA n_pairB p_nodes p_count p_groups) sz) := by
  refine Met.ofW (cc := b_Ga_between) (maxL := 8) (ret := (Option.some Jvm.ClassFile.FieldType.long)) (by decide) rfl ?_
  intro p e s m args below meth c s₁ B hml hv
  obtain ⟨rfl, hsz, hP, hK, hD0⟩ := hv
  have hx := B.exec
  have hb := B.bytes
  have hr := B.returns
  have hts := atoms_spec (ws := w_Ga_between) B.pre
  have hal : ∀ w ∈ ALLW, w.before _ s = true := fun w hw => hts w (List.mem_cons_of_mem _ hw)
  have hown : s.vm.findClass R_Ga = some m.cls := findClass_of_methodNamed B.named
  have hlocks := B.notSynchronized
  subst hsz
  have hD := hD0.self (sz := s.heap.size)
  generalize hAe : va_A (wd_Ga_between cA a_n a_p n_x n_y n_nodes n_aloneB n_pairA n_pairB p_nodes p_count p_groups) s.heap.size = A at hD ⊢
  have hA : ∀ q : Nat, s.heap.size ≤ q → A q := fun q h => by rw [← hAe]; exact Or.inr h
  have hS : va_S A s.heap s.heap [] := va_S.rf
  have hl := lv_entry ([.ref (a_n 0), .ref (a_p 0), .int v2, .int v3]) (n := 8) (Nat.le_of_ble_eq_true rfl)
  rw [lg_entry_eq]
  generalize (lg_sl ([.ref (a_n 0), .ref (a_p 0), .int v2, .int v3]) ++ List.replicate (8 - (lg_sl ([.ref (a_n 0), .ref (a_p 0), .int v2, .int v3])).length) Slot.unset).toArray = ls at hl ⊢
  have hl : lv_has ls 8 [(0, .ref (a_n 0)), (1, .ref (a_p 0)), (2, .int v2), (3, .int v3)] := hl
  refine wg (fun G hG => ?_)
  refine cast (hG _ _ _ _ _ _ _).symm ?_
  obtain ⟨H, locs, hHl, hS⟩ : ∃ (H : Heap) (locs : List Loc), (H = s.heap ∧ locs = []) ∧ va_S A s.heap H locs := ⟨s.heap, [], ⟨rfl, rfl⟩, hS⟩
  have hP : va_P D cls9 (wd_Ga_between cA a_n a_p n_x n_y n_nodes n_aloneB n_pairA n_pairB p_nodes p_count p_groups) H := by rw [hHl.1]; exact hP
  rw [← hHl.1, ← hHl.2]
  clear hHl
  refine lv_lconst (v := 0) hx hb d_Ga_between_0 (by decide) ?_
  refine lv_lstore (lv' := [(4, .long (0 : Int64)), (0, .ref (a_n 0)), (1, .ref (a_p 0)), (2, .int v2), (3, .int v3)]) hx hb d_Ga_between_1 hl (by decide) rfl (fun ls hl => ?_)
  refine lv_iconst (v := 0) hx hb d_Ga_between_3 (by decide) ?_
  refine lv_istore (lv' := [(6, .int (0 : Int32)), (4, .long (0 : Int64)), (0, .ref (a_n 0)), (1, .ref (a_p 0)), (2, .int v2), (3, .int v3)]) hx hb d_Ga_between_4 hl (by decide) rfl (fun ls hl => ?_)
  refine cast (hG _ _ _ _ _ _ _) (lp_go2 h (fun zz : Int64 × Int32 => ∀ (H : Heap) (locs : List Loc) (ls : Array Slot), va_P D cls9 (wd_Ga_between cA a_n a_p n_x n_y n_nodes n_aloneB n_pairA n_pairB p_nodes p_count p_groups) H → va_D A (wd_Ga_between cA a_n a_p n_x n_y n_nodes n_aloneB n_pairA n_pairB p_nodes p_count p_groups) → va_S A s.heap H locs → lv_has ls 8 [(6, .int zz.2), (4, .long zz.1), (0, .ref (a_n 0)), (1, .ref (a_p 0)), (2, .int v2), (3, .int v3)] → G H locs 0 0 ls 90 []) ?_ (fun zz : Int64 × Int32 => ∀ (H : Heap) (locs : List Loc) (ls : Array Slot), va_P D cls9 (wd_Ga_between cA a_n a_p n_x n_y n_nodes n_aloneB n_pairA n_pairB p_nodes p_count p_groups) H → va_D A (wd_Ga_between cA a_n a_p n_x n_y n_nodes n_aloneB n_pairA n_pairB p_nodes p_count p_groups) → va_S A s.heap H locs → lv_has ls 8 [(6, .int zz.2), (4, .long zz.1), (0, .ref (a_n 0)), (1, .ref (a_p 0)), (2, .int v2), (3, .int v3)] → G H locs 0 0 ls 6 []) ?_ _ _ ls hP hD hS (lv_sub hl [0, 1, 2, 3, 4, 5] rfl))
  · intro zz h H locs ls hP hD hS hl
    obtain ⟨x4_6e, x6_6e⟩ := zz
    have hP : va_P D cls9 (wd_Ga_between cA a_n a_p n_x n_y n_nodes n_aloneB n_pairA n_pairB p_nodes p_count p_groups) H := hP
    have hD : va_D A (wd_Ga_between cA a_n a_p n_x n_y n_nodes n_aloneB n_pairA n_pairB p_nodes p_count p_groups) := hD
    have hl : lv_has ls 8 [(6, .int x6_6e), (4, .long x4_6e), (0, .ref (a_n 0)), (1, .ref (a_p 0)), (2, .int v2), (3, .int v3)] := hl
    refine cast (hG _ _ _ _ _ _ _).symm ?_
    refine lv_lload hx hb d_Ga_between_90 (lv_at hl 1 rfl) ?_
    exact W.lret (v := x4_6e) hx hb hr (fun t ht hW => ⟨⟨x4_6e, (), rfl, Option.some.inj h, by rw [ht]; exact hP, va_K.moved hW.alike hK, hD⟩, hS.F ht⟩) hS.2.2 d_Ga_between_92
  · intro back exit zz hB_6 hE_6 h H locs ls hP hD hS hl
    obtain ⟨x4_6, x6_6⟩ := zz
    have hP : va_P D cls9 (wd_Ga_between cA a_n a_p n_x n_y n_nodes n_aloneB n_pairA n_pairB p_nodes p_count p_groups) H := hP
    have hD : va_D A (wd_Ga_between cA a_n a_p n_x n_y n_nodes n_aloneB n_pairA n_pairB p_nodes p_count p_groups) := hD
    have hl : lv_has ls 8 [(6, .int x6_6), (4, .long x4_6), (0, .ref (a_n 0)), (1, .ref (a_p 0)), (2, .int v2), (3, .int v3)] := hl
    refine cast (hG _ _ _ _ _ _ _).symm ?_
    refine lv_iload hx hb d_Ga_between_6 (lv_at hl 0 rfl) ?_
    refine lv_aload_n hx hb d_Ga_between_8 rfl (lv_at hl 2 rfl) ?_
    refine va_get (ci := 0) (v := .int n_nodes) (C := R_Ga) (T := F_Ga) (N := 9) hx hb hal in_Ga hown hK hP 0 rfl rfl 2 (by decide) (hal _ kw_71) (fun _ h9 => h9) rfl d_Ga_between_9 ?_
    refine lv_icmp_ge (tgt := 90) hx hb d_Ga_between_12 (by decide) (fun c_1 => ?_) (fun c_1 => ?_)
    · have h := ifp (c_1) h
      exact cast (hG _ _ _ _ _ _ _) (hE_6 (x4_6, x6_6) h _ _ _ hP hD hS (lv_sub hl [0, 1, 2, 3, 4, 5] rfl))
    · have h := ifn (c_1) h
      refine lv_iconst (v := 0) hx hb d_Ga_between_15 (by decide) ?_
      refine lv_istore (lv' := [(7, .int (0 : Int32)), (6, .int x6_6), (4, .long x4_6), (0, .ref (a_n 0)), (1, .ref (a_p 0)), (2, .int v2), (3, .int v3)]) hx hb d_Ga_between_16 hl (by decide) rfl (fun ls hl => ?_)
      refine cast (hG _ _ _ _ _ _ _) (lp_go2 h (fun zz : Int64 × Int32 => ∀ (H : Heap) (locs : List Loc) (ls : Array Slot), va_P D cls9 (wd_Ga_between cA a_n a_p n_x n_y n_nodes n_aloneB n_pairA n_pairB p_nodes p_count p_groups) H → va_D A (wd_Ga_between cA a_n a_p n_x n_y n_nodes n_aloneB n_pairA n_pairB p_nodes p_count p_groups) → va_S A s.heap H locs → lv_has ls 8 [(7, .int zz.2), (6, .int x6_6), (4, .long zz.1), (0, .ref (a_n 0)), (1, .ref (a_p 0)), (2, .int v2), (3, .int v3)] → G H locs 0 0 ls 84 []) ?_ (fun zz : Int64 × Int32 => ∀ (H : Heap) (locs : List Loc) (ls : Array Slot), va_P D cls9 (wd_Ga_between cA a_n a_p n_x n_y n_nodes n_aloneB n_pairA n_pairB p_nodes p_count p_groups) H → va_D A (wd_Ga_between cA a_n a_p n_x n_y n_nodes n_aloneB n_pairA n_pairB p_nodes p_count p_groups) → va_S A s.heap H locs → lv_has ls 8 [(7, .int zz.2), (6, .int x6_6), (4, .long zz.1), (0, .ref (a_n 0)), (1, .ref (a_p 0)), (2, .int v2), (3, .int v3)] → G H locs 0 0 ls 18 []) ?_ _ _ ls hP hD hS (lv_sub hl [0, 1, 2, 3, 4, 5, 6] rfl))
      · intro zz h H locs ls hP hD hS hl
        obtain ⟨x4_18e, x7_18e⟩ := zz
        have hP : va_P D cls9 (wd_Ga_between cA a_n a_p n_x n_y n_nodes n_aloneB n_pairA n_pairB p_nodes p_count p_groups) H := hP
        have hD : va_D A (wd_Ga_between cA a_n a_p n_x n_y n_nodes n_aloneB n_pairA n_pairB p_nodes p_count p_groups) := hD
        have hl : lv_has ls 8 [(7, .int x7_18e), (6, .int x6_6), (4, .long x4_18e), (0, .ref (a_n 0)), (1, .ref (a_p 0)), (2, .int v2), (3, .int v3)] := hl
        refine cast (hG _ _ _ _ _ _ _).symm ?_
        refine lv_iinc (v := (x6_6 + 1)) (lv' := [(6, .int (x6_6 + 1)), (7, .int x7_18e), (4, .long x4_18e), (0, .ref (a_n 0)), (1, .ref (a_p 0)), (2, .int v2), (3, .int v3)]) hx hb d_Ga_between_84 hl (k := 1) rfl rfl (by decide) rfl (fun ls hl => ?_)
        refine lv_goto (tgt := 6) hx hb d_Ga_between_87 (by decide) ?_
        exact cast (hG _ _ _ _ _ _ _) (hB_6 (x4_18e, (x6_6 + 1)) h _ _ _ hP hD hS (lv_sub hl [0, 2, 3, 4, 5, 6] rfl))
      · intro back exit zz hB_18 hE_18 h H locs ls hP hD hS hl
        obtain ⟨x4_18, x7_18⟩ := zz
        have hP : va_P D cls9 (wd_Ga_between cA a_n a_p n_x n_y n_nodes n_aloneB n_pairA n_pairB p_nodes p_count p_groups) H := hP
        have hD : va_D A (wd_Ga_between cA a_n a_p n_x n_y n_nodes n_aloneB n_pairA n_pairB p_nodes p_count p_groups) := hD
        have hl : lv_has ls 8 [(7, .int x7_18), (6, .int x6_6), (4, .long x4_18), (0, .ref (a_n 0)), (1, .ref (a_p 0)), (2, .int v2), (3, .int v3)] := hl
        refine cast (hG _ _ _ _ _ _ _).symm ?_
        refine lv_iload hx hb d_Ga_between_18 (lv_at hl 0 rfl) ?_
        refine lv_aload_n hx hb d_Ga_between_20 rfl (lv_at hl 3 rfl) ?_
        refine va_get (ci := 0) (v := .int n_nodes) (C := R_Ga) (T := F_Ga) (N := 9) hx hb hal in_Ga hown hK hP 0 rfl rfl 2 (by decide) (hal _ kw_71) (fun _ h9 => h9) rfl d_Ga_between_21 ?_
        refine lv_icmp_ge (tgt := 84) hx hb d_Ga_between_24 (by decide) (fun c_2 => ?_) (fun c_2 => ?_)
        · have h := ifp (c_2) h
          exact cast (hG _ _ _ _ _ _ _) (hE_18 (x4_18, x7_18) h _ _ _ hP hD hS (lv_sub hl [0, 1, 2, 3, 4, 5, 6] rfl))
        · have h := ifn (c_2) h
          refine lv_aload_n hx hb d_Ga_between_27 rfl (lv_at hl 4 rfl) ?_
          refine va_get (ci := 2) (v := .ref (a_p 1)) (C := R_Pa) (T := F_Pa) (N := 4) hx hb hal in_Pa hown hK hP 21 rfl rfl 2 (by decide) (hal _ kw_116) (fun _ h9 => h9) rfl d_Ga_between_28 ?_
          refine lv_iload hx hb d_Ga_between_31 (lv_at hl 1 rfl) ?_
          obtain ⟨g_3, h⟩ := gd h
          refine va_iald hx hb hK hP 22 0 rfl rfl (inb_in g_3) d_Ga_between_33 ?_
          refine lv_iload_n hx hb d_Ga_between_34 rfl (lv_at hl 5 rfl) ?_
          refine lv_icmp_ne (tgt := 78) hx hb d_Ga_between_35 (by decide) (fun c_4 => ?_) (fun c_4 => ?_)
          · have h := ifn (c_4) h
            refine lv_iinc (v := (x7_18 + 1)) (lv' := [(7, .int (x7_18 + 1)), (6, .int x6_6), (4, .long x4_18), (0, .ref (a_n 0)), (1, .ref (a_p 0)), (2, .int v2), (3, .int v3)]) hx hb d_Ga_between_78 hl (k := 0) rfl rfl (by decide) rfl (fun ls hl => ?_)
            refine lv_goto (tgt := 18) hx hb d_Ga_between_81 (by decide) ?_
            exact cast (hG _ _ _ _ _ _ _) (hB_18 (x4_18, (x7_18 + 1)) h _ _ _ hP hD hS (lv_sub hl [0, 1, 2, 3, 4, 5, 6] rfl))
          · have h := ifp (c_4) h
            refine lv_aload_n hx hb d_Ga_between_38 rfl (lv_at hl 4 rfl) ?_
            refine va_get (ci := 2) (v := .ref (a_p 1)) (C := R_Pa) (T := F_Pa) (N := 4) hx hb hal in_Pa hown hK hP 21 rfl rfl 2 (by decide) (hal _ kw_116) (fun _ h9 => h9) rfl d_Ga_between_39 ?_
            refine lv_iload hx hb d_Ga_between_42 (lv_at hl 0 rfl) ?_
            obtain ⟨g_5, h⟩ := gd h
            refine va_iald hx hb hK hP 22 0 rfl rfl (inb_in g_5) d_Ga_between_44 ?_
            refine lv_iload_n hx hb d_Ga_between_45 rfl (lv_at hl 6 rfl) ?_
            refine lv_icmp_ne (tgt := 78) hx hb d_Ga_between_46 (by decide) (fun c_6 => ?_) (fun c_6 => ?_)
            · have h := ifn (c_6) h
              refine lv_iinc (v := (x7_18 + 1)) (lv' := [(7, .int (x7_18 + 1)), (6, .int x6_6), (4, .long x4_18), (0, .ref (a_n 0)), (1, .ref (a_p 0)), (2, .int v2), (3, .int v3)]) hx hb d_Ga_between_78 hl (k := 0) rfl rfl (by decide) rfl (fun ls hl => ?_)
              refine lv_goto (tgt := 18) hx hb d_Ga_between_81 (by decide) ?_
              exact cast (hG _ _ _ _ _ _ _) (hB_18 (x4_18, (x7_18 + 1)) h _ _ _ hP hD hS (lv_sub hl [0, 1, 2, 3, 4, 5, 6] rfl))
            · have h := ifp (c_6) h
              refine lv_lload hx hb d_Ga_between_49 (lv_at hl 2 rfl) ?_
              refine lv_aload_n hx hb d_Ga_between_51 rfl (lv_at hl 3 rfl) ?_
              refine lv_aload_n hx hb d_Ga_between_52 rfl (lv_at hl 3 rfl) ?_
              refine va_get (ci := 0) (v := .ref (a_n 1)) (C := R_Ga) (T := F_Ga) (N := 9) hx hb hal in_Ga hown hK hP 0 rfl rfl 4 (by decide) (hal _ kw_76) (fun _ h9 => h9) rfl d_Ga_between_53 ?_
              refine lv_iload hx hb d_Ga_between_56 (lv_at hl 1 rfl) ?_
              obtain ⟨g_7, h⟩ := gd h
              refine my_aald (ad := fun i => a_n (i + 2)) (t := .long) hx hb hK hP 1 4 rfl rfl (inb_in g_7) (inb_lt g_7) d_Ga_between_58 ?_
              refine lv_iload hx hb d_Ga_between_59 (lv_at hl 0 rfl) ?_
              refine va_lald hx hb hK hP (2 + x6_6.toNatClampNeg) 1 (row_Ga_between_n_pairA _ _ (inb_lt g_7)) rfl (inb_in g_5) d_Ga_between_61 ?_
              refine lv_aload_n hx hb d_Ga_between_62 rfl (lv_at hl 3 rfl) ?_
              refine va_get (ci := 0) (v := .ref (a_n 11)) (C := R_Ga) (T := F_Ga) (N := 9) hx hb hal in_Ga hown hK hP 0 rfl rfl 5 (by decide) (hal _ kw_78) (fun _ h9 => h9) rfl d_Ga_between_63 ?_
              refine lv_iload hx hb d_Ga_between_66 (lv_at hl 1 rfl) ?_
              refine my_aald (ad := fun i => a_n (i + 12)) (t := .long) hx hb hK hP 11 4 rfl rfl (inb_in g_7) (inb_lt g_7) d_Ga_between_68 ?_
              refine lv_iload hx hb d_Ga_between_69 (lv_at hl 0 rfl) ?_
              refine va_lald hx hb hK hP (12 + x6_6.toNatClampNeg) 1 (row_Ga_between_n_pairB _ _ (inb_lt g_7)) rfl (inb_in g_5) d_Ga_between_71 ?_
              obtain ⟨o_11, hc_10, h⟩ := bd h
              have hPc := hP.sub (ws' := (wd_Ga_worth cA a_n n_x n_y n_nodes n_aloneB)) [0] rfl
              have hDc := hD.sub (ws' := (wd_Ga_worth cA a_n n_x n_y n_nodes n_aloneB)) [0] (by decide) rfl
              have hFc := va_free (wc := (wd_Ga_worth cA a_n n_x n_y n_nodes n_aloneB)) hD hS hA [0] rfl
              refine va_calll (va_runV (C := R_Ga) (As := [.long ((n_pairA x6_6.toNatClampNeg) x7_18.toNatClampNeg), .long ((n_pairB x6_6.toNatClampNeg) x7_18.toNatClampNeg)]) (rest := [.long x4_18]) ⟨hx, hb, hml, hown, hal⟩ (c_Ga_worth l D cA a_n H.size n_x n_y n_nodes n_aloneB ((n_pairA x6_6.toNatClampNeg) x7_18.toNatClampNeg) ((n_pairB x6_6.toNatClampNeg) x7_18.toNatClampNeg) o_11 hc_10) (cwV 2 hal (goodV kw_396 kw_397 kw_398 kw_3 kw_399) rfl rfl rfl (by decide +kernel) ⟨Nat.le_of_ble_eq_true rfl, Nat.le_of_ble_eq_true rfl⟩) ⟨fun a U g mk q => by obtain ⟨q0, q1, qP, qK, qD⟩ := q; exact ⟨q0, q1, qP, va_K.moved (u := U) (U := U.calling g mk a) (Vm.Alike.refl U.vm) qK, qD⟩, va_recv hK hP (ci := 0) (q0 := 0) rfl rfl, fun U hU hW => ⟨rfl, by rw [hU], by rw [hU]; exact hPc, va_K.moved hW.alike hK, hDc.weaken (fun _ _ _ _ => trivial)⟩⟩ rfl rfl hl.1 rfl (lv_room (Nat.le_of_ble_eq_true rfl)) d_Ga_between_72 ⟨Nat.le_of_ble_eq_true rfl, Nat.le_of_ble_eq_true rfl⟩) hS (fun q _ h => hFc q h) hFc (fun r_9 u t H1 locs ht hvm hw hB hz1 hk1 hS => ?_)
              subst hw
              obtain ⟨hP1, hK1, hD1⟩ := hB
              rw [ht] at hP1
              have hP1 : va_P D cls9 (wd_Ga_worth cA a_n n_x n_y n_nodes n_aloneB) H1 := hP1
              obtain ⟨hP, hD⟩ := va_join (wr := ([1, 2, 3, 4, 5, 6, 7, 8, 9, 10, 11, 12, 13, 14, 15, 16, 17, 18, 19, 20, 21, 22] : List Nat).filterMap (fun i => (wd_Ga_between cA a_n a_p n_x n_y n_nodes n_aloneB n_pairA n_pairB p_nodes p_count p_groups)[i]?)) (w1 := (wd_Ga_worth cA a_n n_x n_y n_nodes n_aloneB)) hP hD [0] [1, 2, 3, 4, 5, 6, 7, 8, 9, 10, 11, 12, 13, 14, 15, 16, 17, 18, 19, 20, 21, 22] rfl rfl (by decide) (by decide) hk1 hFc hP1 hD1
              generalize H1 = H at hP hS ⊢
              have hP : va_P D cls9 (wd_Ga_between cA a_n a_p n_x n_y n_nodes n_aloneB n_pairA n_pairB p_nodes p_count p_groups) H := hP.sub [22, 0, 1, 2, 3, 4, 5, 6, 7, 8, 9, 10, 11, 12, 13, 14, 15, 16, 17, 18, 19, 20, 21] rfl
              have hD : va_D A (wd_Ga_between cA a_n a_p n_x n_y n_nodes n_aloneB n_pairA n_pairB p_nodes p_count p_groups) := hD.sub [22, 0, 1, 2, 3, 4, 5, 6, 7, 8, 9, 10, 11, 12, 13, 14, 15, 16, 17, 18, 19, 20, 21] (by decide) rfl
              refine lv_ladd hx hb d_Ga_between_75 ?_
              refine lv_lstore (lv' := [(4, .long (x4_18 + r_9)), (7, .int x7_18), (6, .int x6_6), (0, .ref (a_n 0)), (1, .ref (a_p 0)), (2, .int v2), (3, .int v3)]) hx hb d_Ga_between_76 hl (by decide) rfl (fun ls hl => ?_)
              refine lv_iinc (v := (x7_18 + 1)) (lv' := [(7, .int (x7_18 + 1)), (4, .long (x4_18 + r_9)), (6, .int x6_6), (0, .ref (a_n 0)), (1, .ref (a_p 0)), (2, .int v2), (3, .int v3)]) hx hb d_Ga_between_78 hl (k := 1) rfl rfl (by decide) rfl (fun ls hl => ?_)
              refine lv_goto (tgt := 18) hx hb d_Ga_between_81 (by decide) ?_
              exact cast (hG _ _ _ _ _ _ _) (hB_18 ((x4_18 + r_9), (x7_18 + 1)) h _ _ _ hP hD hS (lv_sub hl [0, 2, 1, 3, 4, 5, 6] rfl))
def wd_Ga_hangTogether (cA : Nat → ClassId) (a_n : Nat → Nat) (n_x : Int32) (n_y : Int32) (n_nodes : Int32) (n_aloneB : Int64) (n_near : Nat → Int32) : va_W := [(a_n 0, .inr (0, [.int n_x, .int n_y, .int n_nodes, .long n_aloneB, .ref (a_n 1), .ref (a_n 11), .ref (a_n 21), .ref (a_n 31), .ref (a_n 32)])), (a_n 31, .inl (cA 0, 9, .inl n_near))]
noncomputable def s_Ga_hangTogether_18 (x1 : Int32) (n_near : Nat → Int32) (n_nodes : Int32) (zz : Int32 × Int32) (back exit : (Int32 × Int32) → Option Int32) : Option Int32 :=
  (if n_nodes ≤ zz.2 then (exit (zz.1, zz.2)) else (if ((zz.1 >>> (zz.2 &&& 31)) &&& (1 : Int32)) = (1 : Int32) then (if inb zz.2 9 then (back ((zz.1 ||| ((n_near zz.2.toNatClampNeg) &&& x1)), (zz.2 + 1))) else none) else (back (zz.1, (zz.2 + 1)))))
noncomputable def s_Ga_hangTogether_7 (x1 : Int32) (n_near : Nat → Int32) (n_nodes : Int32) (zz : Int32 × Int32) (back exit : (Int32 × Int32) → Option Int32) : Option Int32 :=
  (if n_nodes ≤ zz.2 then (exit (zz.1, zz.2)) else (loopC (s_Ga_hangTogether_18 x1 n_near n_nodes) (fun z18 : Int32 × Int32 => (back (z18.1, (zz.2 + 1)))) FU (zz.1, (0 : Int32))))
noncomputable def m_Ga_hangTogether (n_nodes : Int32) (n_near : Nat → Int32) (v1 : Int32) : Option Int32 :=
  (loopC (s_Ga_hangTogether_7 v1 n_near n_nodes) (fun z7 : Int32 × Int32 => (if z7.1 = v1 then some (1 : Int32) else some (0 : Int32))) FU ((v1 &&& (-v1)), (1 : Int32)))
set_option maxHeartbeats 4000000 in
set_option maxRecDepth 100000 in
theorem c_Ga_hangTogether (l : Launch) (D : va_G) (cA : Nat → ClassId) (a_n : Nat → Nat) (sz : Nat) (n_x : Int32) (n_y : Int32) (n_nodes : Int32) (n_aloneB : Int64) (n_near : Nat → Int32) (v1 : Int32) (out : Int32) (h : m_Ga_hangTogether n_nodes n_near v1 = some out) : Met l y_Ga_hangTogether w_Ga_hangTogether ({ frames := 0, cells := 0, slots := 0, locals := 0 }) (va_Pc [.ref (a_n 0), .int v1] (fun U => U.heap.size = sz ∧ va_P D cls9 (wd_Ga_hangTogether cA a_n n_x n_y n_nodes n_aloneB n_near) U.heap ∧ va_K D cls9 (tys5 cA) U ∧ va_D (fun _ => True) (wd_Ga_hangTogether cA a_n n_x n_y n_nodes n_aloneB n_near))) (va_Qi (fun (rr : Int32) (uu : Unit) => rr = out) (fun (uu : Unit) (t : State) => va_P D cls9 (wd_Ga_hangTogether cA a_n n_x n_y n_nodes n_aloneB n_near) t.heap ∧ va_K D cls9 (tys5 cA) t ∧ va_D (va_A (wd_Ga_hangTogether cA a_n n_x n_y n_nodes n_aloneB n_near) sz) (wd_Ga_hangTogether cA a_n n_x n_y n_nodes n_aloneB n_near)) (va_A (wd_Ga_hangTogether cA a_n n_x n_y n_nodes n_aloneB n_near) sz)) 0 0 (va_A (wd_Ga_hangTogether cA a_n n_x n_y n_nodes n_aloneB n_near) sz) := by
  refine Met.ofW (cc := b_Ga_hangTogether) (maxL := 5) (ret := (Option.some Jvm.ClassFile.FieldType.boolean)) (by decide) rfl ?_
  intro p e s m args below meth c s₁ B hml hv
  obtain ⟨rfl, hsz, hP, hK, hD0⟩ := hv
  have hx := B.exec
  have hb := B.bytes
  have hr := B.returns
  have hts := atoms_spec (ws := w_Ga_hangTogether) B.pre
  have hal : ∀ w ∈ ALLW, w.before _ s = true := fun w hw => hts w (List.mem_cons_of_mem _ hw)
  have hown : s.vm.findClass R_Ga = some m.cls := findClass_of_methodNamed B.named
  have hlocks := B.notSynchronized
  subst hsz
  have hD := hD0.self (sz := s.heap.size)
  generalize hAe : va_A (wd_Ga_hangTogether cA a_n n_x n_y n_nodes n_aloneB n_near) s.heap.size = A at hD ⊢
  have hA : ∀ q : Nat, s.heap.size ≤ q → A q := fun q h => by rw [← hAe]; exact Or.inr h
  have hS : va_S A s.heap s.heap [] := va_S.rf
  have hl := lv_entry ([.ref (a_n 0), .int v1]) (n := 5) (Nat.le_of_ble_eq_true rfl)
  rw [lg_entry_eq]
  generalize (lg_sl ([.ref (a_n 0), .int v1]) ++ List.replicate (5 - (lg_sl ([.ref (a_n 0), .int v1])).length) Slot.unset).toArray = ls at hl ⊢
  have hl : lv_has ls 5 [(0, .ref (a_n 0)), (1, .int v1)] := hl
  refine wg (fun G hG => ?_)
  refine cast (hG _ _ _ _ _ _ _).symm ?_
  obtain ⟨H, locs, hHl, hS⟩ : ∃ (H : Heap) (locs : List Loc), (H = s.heap ∧ locs = []) ∧ va_S A s.heap H locs := ⟨s.heap, [], ⟨rfl, rfl⟩, hS⟩
  have hP : va_P D cls9 (wd_Ga_hangTogether cA a_n n_x n_y n_nodes n_aloneB n_near) H := by rw [hHl.1]; exact hP
  rw [← hHl.1, ← hHl.2]
  clear hHl
  refine lv_iload_n hx hb d_Ga_hangTogether_0 rfl (lv_at hl 1 rfl) ?_
  refine lv_iload_n hx hb d_Ga_hangTogether_1 rfl (lv_at hl 1 rfl) ?_
  refine lv_ineg hx hb d_Ga_hangTogether_2 ?_
  refine lv_iand hx hb d_Ga_hangTogether_3 ?_
  refine lv_istore_n (lv' := [(2, .int (v1 &&& (-v1))), (0, .ref (a_n 0)), (1, .int v1)]) hx hb d_Ga_hangTogether_4 rfl hl (by decide) rfl (fun ls hl => ?_)
  refine lv_iconst (v := 1) hx hb d_Ga_hangTogether_5 (by decide) ?_
  refine lv_istore_n (lv' := [(3, .int (1 : Int32)), (2, .int (v1 &&& (-v1))), (0, .ref (a_n 0)), (1, .int v1)]) hx hb d_Ga_hangTogether_6 rfl hl (by decide) rfl (fun ls hl => ?_)
  refine cast (hG _ _ _ _ _ _ _) (lp_go2 h (fun zz : Int32 × Int32 => ∀ (H : Heap) (locs : List Loc) (ls : Array Slot), va_P D cls9 (wd_Ga_hangTogether cA a_n n_x n_y n_nodes n_aloneB n_near) H → va_D A (wd_Ga_hangTogether cA a_n n_x n_y n_nodes n_aloneB n_near) → va_S A s.heap H locs → lv_has ls 5 [(3, .int zz.2), (2, .int zz.1), (0, .ref (a_n 0)), (1, .int v1)] → G H locs 0 0 ls 61 []) ?_ (fun zz : Int32 × Int32 => ∀ (H : Heap) (locs : List Loc) (ls : Array Slot), va_P D cls9 (wd_Ga_hangTogether cA a_n n_x n_y n_nodes n_aloneB n_near) H → va_D A (wd_Ga_hangTogether cA a_n n_x n_y n_nodes n_aloneB n_near) → va_S A s.heap H locs → lv_has ls 5 [(3, .int zz.2), (2, .int zz.1), (0, .ref (a_n 0)), (1, .int v1)] → G H locs 0 0 ls 7 []) ?_ _ _ ls hP hD hS (lv_sub hl [0, 1, 2, 3] rfl))
  · intro zz h H locs ls hP hD hS hl
    obtain ⟨x2_7e, x3_7e⟩ := zz
    have hP : va_P D cls9 (wd_Ga_hangTogether cA a_n n_x n_y n_nodes n_aloneB n_near) H := hP
    have hD : va_D A (wd_Ga_hangTogether cA a_n n_x n_y n_nodes n_aloneB n_near) := hD
    have hl : lv_has ls 5 [(3, .int x3_7e), (2, .int x2_7e), (0, .ref (a_n 0)), (1, .int v1)] := hl
    refine cast (hG _ _ _ _ _ _ _).symm ?_
    refine lv_iload_n hx hb d_Ga_hangTogether_61 rfl (lv_at hl 1 rfl) ?_
    refine lv_iload_n hx hb d_Ga_hangTogether_62 rfl (lv_at hl 3 rfl) ?_
    refine lv_icmp_ne (tgt := 70) hx hb d_Ga_hangTogether_63 (by decide) (fun c_1 => ?_) (fun c_1 => ?_)
    · have h := ifn (c_1) h
      refine lv_iconst (v := 0) hx hb d_Ga_hangTogether_70 (by decide) ?_
      exact W.zret (v := (0 : Int32)) hx hb hr (by decide) (fun t ht hW => ⟨⟨(0 : Int32), (), rfl, Option.some.inj h, by rw [ht]; exact hP, va_K.moved hW.alike hK, hD⟩, hS.F ht⟩) hS.2.2 d_Ga_hangTogether_71
    · have h := ifp (c_1) h
      refine lv_iconst (v := 1) hx hb d_Ga_hangTogether_66 (by decide) ?_
      refine lv_goto (tgt := 71) hx hb d_Ga_hangTogether_67 (by decide) ?_
      exact W.zret (v := (1 : Int32)) hx hb hr (by decide) (fun t ht hW => ⟨⟨(1 : Int32), (), rfl, Option.some.inj h, by rw [ht]; exact hP, va_K.moved hW.alike hK, hD⟩, hS.F ht⟩) hS.2.2 d_Ga_hangTogether_71
  · intro back exit zz hB_7 hE_7 h H locs ls hP hD hS hl
    obtain ⟨x2_7, x3_7⟩ := zz
    have hP : va_P D cls9 (wd_Ga_hangTogether cA a_n n_x n_y n_nodes n_aloneB n_near) H := hP
    have hD : va_D A (wd_Ga_hangTogether cA a_n n_x n_y n_nodes n_aloneB n_near) := hD
    have hl : lv_has ls 5 [(3, .int x3_7), (2, .int x2_7), (0, .ref (a_n 0)), (1, .int v1)] := hl
    refine cast (hG _ _ _ _ _ _ _).symm ?_
    refine lv_iload_n hx hb d_Ga_hangTogether_7 rfl (lv_at hl 0 rfl) ?_
    refine lv_aload_n hx hb d_Ga_hangTogether_8 rfl (lv_at hl 2 rfl) ?_
    refine va_get (ci := 0) (v := .int n_nodes) (C := R_Ga) (T := F_Ga) (N := 9) hx hb hal in_Ga hown hK hP 0 rfl rfl 2 (by decide) (hal _ kw_71) (fun _ h9 => h9) rfl d_Ga_hangTogether_9 ?_
    refine lv_icmp_ge (tgt := 61) hx hb d_Ga_hangTogether_12 (by decide) (fun c_2 => ?_) (fun c_2 => ?_)
    · have h := ifp (c_2) h
      exact cast (hG _ _ _ _ _ _ _) (hE_7 (x2_7, x3_7) h _ _ _ hP hD hS (lv_sub hl [0, 1, 2, 3] rfl))
    · have h := ifn (c_2) h
      refine lv_iconst (v := 0) hx hb d_Ga_hangTogether_15 (by decide) ?_
      refine lv_istore (lv' := [(4, .int (0 : Int32)), (3, .int x3_7), (2, .int x2_7), (0, .ref (a_n 0)), (1, .int v1)]) hx hb d_Ga_hangTogether_16 hl (by decide) rfl (fun ls hl => ?_)
      refine cast (hG _ _ _ _ _ _ _) (lp_go2 h (fun zz : Int32 × Int32 => ∀ (H : Heap) (locs : List Loc) (ls : Array Slot), va_P D cls9 (wd_Ga_hangTogether cA a_n n_x n_y n_nodes n_aloneB n_near) H → va_D A (wd_Ga_hangTogether cA a_n n_x n_y n_nodes n_aloneB n_near) → va_S A s.heap H locs → lv_has ls 5 [(4, .int zz.2), (3, .int x3_7), (2, .int zz.1), (0, .ref (a_n 0)), (1, .int v1)] → G H locs 0 0 ls 55 []) ?_ (fun zz : Int32 × Int32 => ∀ (H : Heap) (locs : List Loc) (ls : Array Slot), va_P D cls9 (wd_Ga_hangTogether cA a_n n_x n_y n_nodes n_aloneB n_near) H → va_D A (wd_Ga_hangTogether cA a_n n_x n_y n_nodes n_aloneB n_near) → va_S A s.heap H locs → lv_has ls 5 [(4, .int zz.2), (3, .int x3_7), (2, .int zz.1), (0, .ref (a_n 0)), (1, .int v1)] → G H locs 0 0 ls 18 []) ?_ _ _ ls hP hD hS (lv_sub hl [0, 1, 2, 3, 4] rfl))
      · intro zz h H locs ls hP hD hS hl
        obtain ⟨x2_18e, x4_18e⟩ := zz
        have hP : va_P D cls9 (wd_Ga_hangTogether cA a_n n_x n_y n_nodes n_aloneB n_near) H := hP
        have hD : va_D A (wd_Ga_hangTogether cA a_n n_x n_y n_nodes n_aloneB n_near) := hD
        have hl : lv_has ls 5 [(4, .int x4_18e), (3, .int x3_7), (2, .int x2_18e), (0, .ref (a_n 0)), (1, .int v1)] := hl
        refine cast (hG _ _ _ _ _ _ _).symm ?_
        refine lv_iinc (v := (x3_7 + 1)) (lv' := [(3, .int (x3_7 + 1)), (4, .int x4_18e), (2, .int x2_18e), (0, .ref (a_n 0)), (1, .int v1)]) hx hb d_Ga_hangTogether_55 hl (k := 1) rfl rfl (by decide) rfl (fun ls hl => ?_)
        refine lv_goto (tgt := 7) hx hb d_Ga_hangTogether_58 (by decide) ?_
        exact cast (hG _ _ _ _ _ _ _) (hB_7 (x2_18e, (x3_7 + 1)) h _ _ _ hP hD hS (lv_sub hl [0, 2, 3, 4] rfl))
      · intro back exit zz hB_18 hE_18 h H locs ls hP hD hS hl
        obtain ⟨x2_18, x4_18⟩ := zz
        have hP : va_P D cls9 (wd_Ga_hangTogether cA a_n n_x n_y n_nodes n_aloneB n_near) H := hP
        have hD : va_D A (wd_Ga_hangTogether cA a_n n_x n_y n_nodes n_aloneB n_near) := hD
        have hl : lv_has ls 5 [(4, .int x4_18), (3, .int x3_7), (2, .int x2_18), (0, .ref (a_n 0)), (1, .int v1)] := hl
        refine cast (hG _ _ _ _ _ _ _).symm ?_
        refine lv_iload hx hb d_Ga_hangTogether_18 (lv_at hl 0 rfl) ?_
        refine lv_aload_n hx hb d_Ga_hangTogether_20 rfl (lv_at hl 3 rfl) ?_
        refine va_get (ci := 0) (v := .int n_nodes) (C := R_Ga) (T := F_Ga) (N := 9) hx hb hal in_Ga hown hK hP 0 rfl rfl 2 (by decide) (hal _ kw_71) (fun _ h9 => h9) rfl d_Ga_hangTogether_21 ?_
        refine lv_icmp_ge (tgt := 55) hx hb d_Ga_hangTogether_24 (by decide) (fun c_3 => ?_) (fun c_3 => ?_)
        · have h := ifp (c_3) h
          exact cast (hG _ _ _ _ _ _ _) (hE_18 (x2_18, x4_18) h _ _ _ hP hD hS (lv_sub hl [0, 1, 2, 3, 4] rfl))
        · have h := ifn (c_3) h
          refine lv_iload_n hx hb d_Ga_hangTogether_27 rfl (lv_at hl 2 rfl) ?_
          refine lv_iload hx hb d_Ga_hangTogether_28 (lv_at hl 0 rfl) ?_
          refine lv_ishr hx hb d_Ga_hangTogether_30 ?_
          refine lv_iconst (v := 1) hx hb d_Ga_hangTogether_31 (by decide) ?_
          refine lv_iand hx hb d_Ga_hangTogether_32 ?_
          refine lv_iconst (v := 1) hx hb d_Ga_hangTogether_33 (by decide) ?_
          refine lv_icmp_ne (tgt := 49) hx hb d_Ga_hangTogether_34 (by decide) (fun c_4 => ?_) (fun c_4 => ?_)
          · have h := ifn (c_4) h
            refine lv_iinc (v := (x4_18 + 1)) (lv' := [(4, .int (x4_18 + 1)), (3, .int x3_7), (2, .int x2_18), (0, .ref (a_n 0)), (1, .int v1)]) hx hb d_Ga_hangTogether_49 hl (k := 0) rfl rfl (by decide) rfl (fun ls hl => ?_)
            refine lv_goto (tgt := 18) hx hb d_Ga_hangTogether_52 (by decide) ?_
            exact cast (hG _ _ _ _ _ _ _) (hB_18 (x2_18, (x4_18 + 1)) h _ _ _ hP hD hS (lv_sub hl [0, 1, 2, 3, 4] rfl))
          · have h := ifp (c_4) h
            refine lv_iload_n hx hb d_Ga_hangTogether_37 rfl (lv_at hl 2 rfl) ?_
            refine lv_aload_n hx hb d_Ga_hangTogether_38 rfl (lv_at hl 3 rfl) ?_
            refine va_get (ci := 0) (v := .ref (a_n 31)) (C := R_Ga) (T := F_Ga) (N := 9) hx hb hal in_Ga hown hK hP 0 rfl rfl 7 (by decide) (hal _ kw_82) (fun _ h9 => h9) rfl d_Ga_hangTogether_39 ?_
            refine lv_iload hx hb d_Ga_hangTogether_42 (lv_at hl 0 rfl) ?_
            obtain ⟨g_5, h⟩ := gd h
            refine va_iald hx hb hK hP 1 0 rfl rfl (inb_in g_5) d_Ga_hangTogether_44 ?_
            refine lv_iload_n hx hb d_Ga_hangTogether_45 rfl (lv_at hl 4 rfl) ?_
            refine lv_iand hx hb d_Ga_hangTogether_46 ?_
            refine lv_ior hx hb d_Ga_hangTogether_47 ?_
            refine lv_istore_n (lv' := [(2, .int (x2_18 ||| ((n_near x4_18.toNatClampNeg) &&& v1))), (4, .int x4_18), (3, .int x3_7), (0, .ref (a_n 0)), (1, .int v1)]) hx hb d_Ga_hangTogether_48 rfl hl (by decide) rfl (fun ls hl => ?_)
            refine lv_iinc (v := (x4_18 + 1)) (lv' := [(4, .int (x4_18 + 1)), (2, .int (x2_18 ||| ((n_near x4_18.toNatClampNeg) &&& v1))), (3, .int x3_7), (0, .ref (a_n 0)), (1, .int v1)]) hx hb d_Ga_hangTogether_49 hl (k := 1) rfl rfl (by decide) rfl (fun ls hl => ?_)
            refine lv_goto (tgt := 18) hx hb d_Ga_hangTogether_52 (by decide) ?_
            exact cast (hG _ _ _ _ _ _ _) (hB_18 ((x2_18 ||| ((n_near x4_18.toNatClampNeg) &&& v1)), (x4_18 + 1)) h _ _ _ hP hD hS (lv_sub hl [0, 2, 1, 3, 4] rfl))
def wd_Ga_build (cA : Nat → ClassId) (a_g a_n : Nat → Nat) (g_manner : Int32) (g_nodes : Int32) (g_arcs : Int32) (g_from : Nat → Int32) (g_to : Nat → Int32) (g_weight : Nat → Int32) (n_x : Int32) (n_y : Int32) (n_nodes : Int32) (n_aloneB : Int64) (n_pairA : Nat → Nat → Int64) (n_pairB : Nat → Nat → Int64) (n_link : Nat → Nat → Int32) (n_near : Nat → Int32) (n_has : Nat → Int64) : va_W := [(a_g 0, .inr (1, [.int g_manner, .int g_nodes, .int g_arcs, .ref (a_g 1), .ref (a_g 2), .ref (a_g 3)])), (a_g 1, .inl (cA 0, 36, .inl g_from)), (a_g 2, .inl (cA 0, 36, .inl g_to)), (a_g 3, .inl (cA 0, 36, .inl g_weight)), (a_n 0, .inr (0, [.int n_x, .int n_y, .int n_nodes, .long n_aloneB, .ref (a_n 1), .ref (a_n 11), .ref (a_n 21), .ref (a_n 31), .ref (a_n 32)])), (a_n 1, .inl (cA 4, 9, .inr (.inr (.inr (.inr (fun i => if i < 9 then some (a_n (i + 2)) else none)))))), (a_n (0 + 2), .inl (cA 1, 9, .inr (.inl (n_pairA 0)))), (a_n (1 + 2), .inl (cA 1, 9, .inr (.inl (n_pairA 1)))), (a_n (2 + 2), .inl (cA 1, 9, .inr (.inl (n_pairA 2)))), (a_n (3 + 2), .inl (cA 1, 9, .inr (.inl (n_pairA 3)))), (a_n (4 + 2), .inl (cA 1, 9, .inr (.inl (n_pairA 4)))), (a_n (5 + 2), .inl (cA 1, 9, .inr (.inl (n_pairA 5)))), (a_n (6 + 2), .inl (cA 1, 9, .inr (.inl (n_pairA 6)))), (a_n (7 + 2), .inl (cA 1, 9, .inr (.inl (n_pairA 7)))), (a_n (8 + 2), .inl (cA 1, 9, .inr (.inl (n_pairA 8)))), (a_n 11, .inl (cA 4, 9, .inr (.inr (.inr (.inr (fun i => if i < 9 then some (a_n (i + 12)) else none)))))), (a_n (0 + 12), .inl (cA 1, 9, .inr (.inl (n_pairB 0)))), (a_n (1 + 12), .inl (cA 1, 9, .inr (.inl (n_pairB 1)))), (a_n (2 + 12), .inl (cA 1, 9, .inr (.inl (n_pairB 2)))), (a_n (3 + 12), .inl (cA 1, 9, .inr (.inl (n_pairB 3)))), (a_n (4 + 12), .inl (cA 1, 9, .inr (.inl (n_pairB 4)))), (a_n (5 + 12), .inl (cA 1, 9, .inr (.inl (n_pairB 5)))), (a_n (6 + 12), .inl (cA 1, 9, .inr (.inl (n_pairB 6)))), (a_n (7 + 12), .inl (cA 1, 9, .inr (.inl (n_pairB 7)))), (a_n (8 + 12), .inl (cA 1, 9, .inr (.inl (n_pairB 8)))), (a_n 21, .inl (cA 3, 9, .inr (.inr (.inr (.inr (fun i => if i < 9 then some (a_n (i + 22)) else none)))))), (a_n (0 + 22), .inl (cA 0, 9, .inl (n_link 0))), (a_n (1 + 22), .inl (cA 0, 9, .inl (n_link 1))), (a_n (2 + 22), .inl (cA 0, 9, .inl (n_link 2))), (a_n (3 + 22), .inl (cA 0, 9, .inl (n_link 3))), (a_n (4 + 22), .inl (cA 0, 9, .inl (n_link 4))), (a_n (5 + 22), .inl (cA 0, 9, .inl (n_link 5))), (a_n (6 + 22), .inl (cA 0, 9, .inl (n_link 6))), (a_n (7 + 22), .inl (cA 0, 9, .inl (n_link 7))), (a_n (8 + 22), .inl (cA 0, 9, .inl (n_link 8))), (a_n 31, .inl (cA 0, 9, .inl n_near)), (a_n 32, .inl (cA 1, 9, .inr (.inl n_has)))]
theorem row_Ga_build_n_pairA {cA : Nat → ClassId} {a_g a_n : Nat → Nat} {g_manner : Int32} {g_nodes : Int32} {g_arcs : Int32} {g_from : Nat → Int32} {g_to : Nat → Int32} {g_weight : Nat → Int32} {n_x : Int32} {n_y : Int32} {n_nodes : Int32} {n_aloneB : Int64} {n_pairB : Nat → Nat → Int64} {n_link : Nat → Nat → Int32} {n_near : Nat → Int32} {n_has : Nat → Int64} (n_pairA : Nat → Nat → Int64) (k : Nat) (hk : k < 9) : (wd_Ga_build cA a_g a_n g_manner g_nodes g_arcs g_from g_to g_weight n_x n_y n_nodes n_aloneB n_pairA n_pairB n_link n_near n_has)[6 + k]? = some (a_n (k + 2), .inl (cA 1, 9, .inr (.inl (n_pairA k)))) := by
  rcases lt9 hk with rfl | rfl | rfl | rfl | rfl | rfl | rfl | rfl | rfl <;> rfl
theorem set_Ga_build_n_pairA {cA : Nat → ClassId} {a_g a_n : Nat → Nat} {g_manner : Int32} {g_nodes : Int32} {g_arcs : Int32} {g_from : Nat → Int32} {g_to : Nat → Int32} {g_weight : Nat → Int32} {n_x : Int32} {n_y : Int32} {n_nodes : Int32} {n_aloneB : Int64} {n_pairB : Nat → Nat → Int64} {n_link : Nat → Nat → Int32} {n_near : Nat → Int32} {n_has : Nat → Int64} {n_pairA : Nat → Nat → Int64} {f : Nat → Int64} (k : Nat) (hk : k < 9) : (wd_Ga_build cA a_g a_n g_manner g_nodes g_arcs g_from g_to g_weight n_x n_y n_nodes n_aloneB n_pairA n_pairB n_link n_near n_has).set (6 + k) (a_n (k + 2), .inl (cA 1, 9, .inr (.inl f))) = wd_Ga_build cA a_g a_n g_manner g_nodes g_arcs g_from g_to g_weight n_x n_y n_nodes n_aloneB (va_up n_pairA k f) n_pairB n_link n_near n_has := by
  rcases lt9 hk with rfl | rfl | rfl | rfl | rfl | rfl | rfl | rfl | rfl <;> rfl
theorem row_Ga_build_n_pairB {cA : Nat → ClassId} {a_g a_n : Nat → Nat} {g_manner : Int32} {g_nodes : Int32} {g_arcs : Int32} {g_from : Nat → Int32} {g_to : Nat → Int32} {g_weight : Nat → Int32} {n_x : Int32} {n_y : Int32} {n_nodes : Int32} {n_aloneB : Int64} {n_pairA : Nat → Nat → Int64} {n_link : Nat → Nat → Int32} {n_near : Nat → Int32} {n_has : Nat → Int64} (n_pairB : Nat → Nat → Int64) (k : Nat) (hk : k < 9) : (wd_Ga_build cA a_g a_n g_manner g_nodes g_arcs g_from g_to g_weight n_x n_y n_nodes n_aloneB n_pairA n_pairB n_link n_near n_has)[16 + k]? = some (a_n (k + 12), .inl (cA 1, 9, .inr (.inl (n_pairB k)))) := by
  rcases lt9 hk with rfl | rfl | rfl | rfl | rfl | rfl | rfl | rfl | rfl <;> rfl
theorem set_Ga_build_n_pairB {cA : Nat → ClassId} {a_g a_n : Nat → Nat} {g_manner : Int32} {g_nodes : Int32} {g_arcs : Int32} {g_from : Nat → Int32} {g_to : Nat → Int32} {g_weight : Nat → Int32} {n_x : Int32} {n_y : Int32} {n_nodes : Int32} {n_aloneB : Int64} {n_pairA : Nat → Nat → Int64} {n_link : Nat → Nat → Int32} {n_near : Nat → Int32} {n_has : Nat → Int64} {n_pairB : Nat → Nat → Int64} {f : Nat → Int64} (k : Nat) (hk : k < 9) : (wd_Ga_build cA a_g a_n g_manner g_nodes g_arcs g_from g_to g_weight n_x n_y n_nodes n_aloneB n_pairA n_pairB n_link n_near n_has).set (16 + k) (a_n (k + 12), .inl (cA 1, 9, .inr (.inl f))) = wd_Ga_build cA a_g a_n g_manner g_nodes g_arcs g_from g_to g_weight n_x n_y n_nodes n_aloneB n_pairA (va_up n_pairB k f) n_link n_near n_has := by
  rcases lt9 hk with rfl | rfl | rfl | rfl | rfl | rfl | rfl | rfl | rfl <;> rfl
theorem row_Ga_build_n_link {cA : Nat → ClassId} {a_g a_n : Nat → Nat} {g_manner : Int32} {g_nodes : Int32} {g_arcs : Int32} {g_from : Nat → Int32} {g_to : Nat → Int32} {g_weight : Nat → Int32} {n_x : Int32} {n_y : Int32} {n_nodes : Int32} {n_aloneB : Int64} {n_pairA : Nat → Nat → Int64} {n_pairB : Nat → Nat → Int64} {n_near : Nat → Int32} {n_has : Nat → Int64} (n_link : Nat → Nat → Int32) (k : Nat) (hk : k < 9) : (wd_Ga_build cA a_g a_n g_manner g_nodes g_arcs g_from g_to g_weight n_x n_y n_nodes n_aloneB n_pairA n_pairB n_link n_near n_has)[26 + k]? = some (a_n (k + 22), .inl (cA 0, 9, .inl (n_link k))) := by
  rcases lt9 hk with rfl | rfl | rfl | rfl | rfl | rfl | rfl | rfl | rfl <;> rfl
theorem set_Ga_build_n_link {cA : Nat → ClassId} {a_g a_n : Nat → Nat} {g_manner : Int32} {g_nodes : Int32} {g_arcs : Int32} {g_from : Nat → Int32} {g_to : Nat → Int32} {g_weight : Nat → Int32} {n_x : Int32} {n_y : Int32} {n_nodes : Int32} {n_aloneB : Int64} {n_pairA : Nat → Nat → Int64} {n_pairB : Nat → Nat → Int64} {n_near : Nat → Int32} {n_has : Nat → Int64} {n_link : Nat → Nat → Int32} {f : Nat → Int32} (k : Nat) (hk : k < 9) : (wd_Ga_build cA a_g a_n g_manner g_nodes g_arcs g_from g_to g_weight n_x n_y n_nodes n_aloneB n_pairA n_pairB n_link n_near n_has).set (26 + k) (a_n (k + 22), .inl (cA 0, 9, .inl f)) = wd_Ga_build cA a_g a_n g_manner g_nodes g_arcs g_from g_to g_weight n_x n_y n_nodes n_aloneB n_pairA n_pairB (va_up n_link k f) n_near n_has := by
  rcases lt9 hk with rfl | rfl | rfl | rfl | rfl | rfl | rfl | rfl | rfl <;> rfl
noncomputable def s_Ga_build_17 (g_arcs : Int32) (g_from : Nat → Int32) (g_manner : Int32) (g_to : Nat → Int32) (g_weight : Nat → Int32) (zz : Int64 × Int32 × (Nat → Int64) × (Nat → Nat → Int32) × (Nat → Int32)) (back exit : (Int64 × Int32 × (Nat → Int64) × (Nat → Nat → Int32) × (Nat → Int32)) → Option (Int32 × Int64 × (Nat → Nat → Int64) × (Nat → Nat → Int64) × (Nat → Nat → Int32) × (Nat → Int32) × (Nat → Int64))) : Option (Int32 × Int64 × (Nat → Nat → Int64) × (Nat → Nat → Int64) × (Nat → Nat → Int32) × (Nat → Int32) × (Nat → Int64)) :=
  (if g_arcs ≤ zz.2.1 then (exit (zz.1, zz.2.1, zz.2.2.1, zz.2.2.2.1, zz.2.2.2.2)) else ((m_Gr_counts g_manner g_weight zz.2.1).bind (fun r29 : Int32 => (if r29 = 0 then (back (zz.1, (zz.2.1 + 1), zz.2.2.1, zz.2.2.2.1, zz.2.2.2.2)) else (if inb zz.2.1 36 then ((m_Ga_addLink zz.2.2.2.1 zz.2.2.2.2 zz.2.2.1 (g_from zz.2.1.toNatClampNeg) (g_to zz.2.1.toNatClampNeg) (g_weight zz.2.1.toNatClampNeg)).bind (fun r57 : (Nat → Nat → Int32) × (Nat → Int32) × (Nat → Int64) => (back ((zz.1 + (g_weight zz.2.1.toNatClampNeg).toInt64), (zz.2.1 + 1), r57.2.2, r57.1, r57.2.1)))) else none)))))
noncomputable def m_Ga_build (g_manner : Int32) (g_nodes : Int32) (g_arcs : Int32) (g_from : Nat → Int32) (g_to : Nat → Int32) (g_weight : Nat → Int32) (n_pairA : Nat → Nat → Int64) (n_pairB : Nat → Nat → Int64) (n_link : Nat → Nat → Int32) (n_near : Nat → Int32) (n_has : Nat → Int64) : Option (Int32 × Int64 × (Nat → Nat → Int64) × (Nat → Nat → Int64) × (Nat → Nat → Int32) × (Nat → Int32) × (Nat → Int64)) :=
  ((m_Ga_forgetLinks n_link n_near n_has).bind (fun r9 : (Nat → Nat → Int32) × (Nat → Int32) × (Nat → Int64) => (loopC (s_Ga_build_17 g_arcs g_from g_manner g_to g_weight) (fun z17 : Int64 × Int32 × (Nat → Int64) × (Nat → Nat → Int32) × (Nat → Int32) => (if g_manner = 0 then ((m_Ga_pairByWeights g_nodes n_pairA n_pairB z17.2.2.2.1 z17.2.2.1 ((4 : Int64) * z17.1)).bind (fun r90 : Int64 × (Nat → Nat → Int64) × (Nat → Nat → Int64) => some (g_nodes, r90.1, r90.2.1, r90.2.2, z17.2.2.2.1, z17.2.2.2.2, z17.2.2.1))) else ((m_Ga_pairByNumbers g_nodes n_pairA n_pairB z17.2.2.2.1).bind (fun r97 : Int64 × (Nat → Nat → Int64) × (Nat → Nat → Int64) => some (g_nodes, r97.1, r97.2.1, r97.2.2, z17.2.2.2.1, z17.2.2.2.2, z17.2.2.1))))) FU ((0 : Int64), (0 : Int32), r9.2.2, r9.1, r9.2.1))))
set_option maxHeartbeats 4000000 in
set_option maxRecDepth 100000 in
theorem c_Ga_build (l : Launch) (D : va_G) (cA : Nat → ClassId) (a_g a_n : Nat → Nat) (sz : Nat) (g_manner : Int32) (g_nodes : Int32) (g_arcs : Int32) (g_from : Nat → Int32) (g_to : Nat → Int32) (g_weight : Nat → Int32) (n_x : Int32) (n_y : Int32) (n_nodes : Int32) (n_aloneB : Int64) (n_pairA : Nat → Nat → Int64) (n_pairB : Nat → Nat → Int64) (n_link : Nat → Nat → Int32) (n_near : Nat → Int32) (n_has : Nat → Int64)  (out : Int32 × Int64 × (Nat → Nat → Int64) × (Nat → Nat → Int64) × (Nat → Nat → Int32) × (Nat → Int32) × (Nat → Int64)) (h : m_Ga_build g_manner g_nodes g_arcs g_from g_to g_weight n_pairA n_pairB n_link n_near n_has = some out) : Met l y_Ga_build w_Ga_build ({ frames := 2, cells := 0, slots := 0, locals := 45 }) (va_Pc [.ref (a_n 0), .ref (a_g 0)] (fun U => U.heap.size = sz ∧ va_P D cls9 (wd_Ga_build cA a_g a_n g_manner g_nodes g_arcs g_from g_to g_weight n_x n_y n_nodes n_aloneB n_pairA n_pairB n_link n_near n_has) U.heap ∧ va_K D cls9 (tys5 cA) U ∧ va_D (fun _ => True) (wd_Ga_build cA a_g a_n g_manner g_nodes g_arcs g_from g_to g_weight n_x n_y n_nodes n_aloneB n_pairA n_pairB n_link n_near n_has))) (va_Qv (fun uu : Int32 × Int64 × (Nat → Nat → Int64) × (Nat → Nat → Int64) × (Nat → Nat → Int32) × (Nat → Int32) × (Nat → Int64) => uu = out) (fun (uu : Int32 × Int64 × (Nat → Nat → Int64) × (Nat → Nat → Int64) × (Nat → Nat → Int32) × (Nat → Int32) × (Nat → Int64)) (t : State) => va_P D cls9 (wd_Ga_build cA a_g a_n g_manner g_nodes g_arcs g_from g_to g_weight n_x n_y uu.1 uu.2.1 uu.2.2.1 uu.2.2.2.1 uu.2.2.2.2.1 uu.2.2.2.2.2.1 uu.2.2.2.2.2.2) t.heap ∧ va_K D cls9 (tys5 cA) t ∧ va_D (va_A (wd_Ga_build cA a_g a_n g_manner g_nodes g_arcs g_from g_to g_weight n_x n_y n_nodes n_aloneB n_pairA n_pairB n_link n_near n_has) sz) (wd_Ga_build cA a_g a_n g_manner g_nodes g_arcs g_from g_to g_weight n_x n_y uu.1 uu.2.1 uu.2.2.1 uu.2.2.2.1 uu.2.2.2.2.1 uu.2.2.2.2.2.1 uu.2.2.2.2.2.2)) (va_A (wd_Ga_build cA a_g a_n g_manner g_nodes g_arcs g_from g_to g_weight n_x n_y n_nodes n_aloneB n_pairA n_pairB n_link n_near n_has) sz)) 0 0 (va_A (wd_Ga_build cA a_g a_n g_manner g_nodes g_arcs g_from g_to g_weight n_x n_y n_nodes n_aloneB n_pairA n_pairB n_link n_near n_has) sz) := by
  refine Met.ofW (cc := b_Ga_build) (maxL := 5) (ret := (Option.none : Option Jvm.ClassFile.FieldType)) (by decide) rfl ?_
  intro p e s m args below meth c s₁ B hml hv
  obtain ⟨rfl, hsz, hP, hK, hD0⟩ := hv
  have hx := B.exec
  have hb := B.bytes
  have hr := B.returns
  have hts := atoms_spec (ws := w_Ga_build) B.pre
  have hal : ∀ w ∈ ALLW, w.before _ s = true := fun w hw => hts w (List.mem_cons_of_mem _ hw)
  have hown : s.vm.findClass R_Ga = some m.cls := findClass_of_methodNamed B.named
  have hlocks := B.notSynchronized
  subst hsz
  have hD := hD0.self (sz := s.heap.size)
  generalize hAe : va_A (wd_Ga_build cA a_g a_n g_manner g_nodes g_arcs g_from g_to g_weight n_x n_y n_nodes n_aloneB n_pairA n_pairB n_link n_near n_has) s.heap.size = A at hD ⊢
  have hA : ∀ q : Nat, s.heap.size ≤ q → A q := fun q h => by rw [← hAe]; exact Or.inr h
  have hS : va_S A s.heap s.heap [] := va_S.rf
  have hl := lv_entry ([.ref (a_n 0), .ref (a_g 0)]) (n := 5) (Nat.le_of_ble_eq_true rfl)
  rw [lg_entry_eq]
  generalize (lg_sl ([.ref (a_n 0), .ref (a_g 0)]) ++ List.replicate (5 - (lg_sl ([.ref (a_n 0), .ref (a_g 0)])).length) Slot.unset).toArray = ls at hl ⊢
  have hl : lv_has ls 5 [(0, .ref (a_n 0)), (1, .ref (a_g 0))] := hl
  refine wg (fun G hG => ?_)
  refine cast (hG _ _ _ _ _ _ _).symm ?_
  obtain ⟨H, locs, hHl, hS⟩ : ∃ (H : Heap) (locs : List Loc), (H = s.heap ∧ locs = []) ∧ va_S A s.heap H locs := ⟨s.heap, [], ⟨rfl, rfl⟩, hS⟩
  have hP : va_P D cls9 (wd_Ga_build cA a_g a_n g_manner g_nodes g_arcs g_from g_to g_weight n_x n_y n_nodes n_aloneB n_pairA n_pairB n_link n_near n_has) H := by rw [hHl.1]; exact hP
  rw [← hHl.1, ← hHl.2]
  clear hHl
  refine lv_aload_n hx hb d_Ga_build_0 rfl (lv_at hl 0 rfl) ?_
  refine lv_aload_n hx hb d_Ga_build_1 rfl (lv_at hl 1 rfl) ?_
  refine va_get (ci := 1) (v := .int g_nodes) (C := R_Gr) (T := F_Gr) (N := 6) hx hb hal in_Gr hown hK hP 0 rfl rfl 1 (by decide) (hal _ kw_30) (fun _ h9 => h9) rfl d_Ga_build_2 ?_
  refine va_put (ci := 0) (v := .int g_nodes) (ty := .int) (C := R_Ga) (T := F_Ga) (N := 9) hx hb hal in_Ga t_Ga t_Ga_ok n_Ga hown hK hP hD hS 4 rfl rfl 2 (by decide) (hal _ kw_71) (fun _ h9 => h9) rfl (by decide +kernel) rfl rfl (Nat.le_of_ble_eq_true rfl) d_Ga_build_5 (fun H locs hP hD hS => ?_)
  have hP : va_P D cls9 (wd_Ga_build cA a_g a_n g_manner g_nodes g_arcs g_from g_to g_weight n_x n_y g_nodes n_aloneB n_pairA n_pairB n_link n_near n_has) H := hP
  have hD : va_D A (wd_Ga_build cA a_g a_n g_manner g_nodes g_arcs g_from g_to g_weight n_x n_y g_nodes n_aloneB n_pairA n_pairB n_link n_near n_has) := hD
  refine lv_aload_n hx hb d_Ga_build_8 rfl (lv_at hl 0 rfl) ?_
  obtain ⟨o_7, hc_6, h⟩ := bd h
  have hPc := hP.sub (ws' := (wd_Ga_forgetLinks cA a_n n_x n_y g_nodes n_aloneB n_link n_near n_has)) [4, 25, 26, 27, 28, 29, 30, 31, 32, 33, 34, 35, 36] rfl
  have hDc := hD.sub (ws' := (wd_Ga_forgetLinks cA a_n n_x n_y g_nodes n_aloneB n_link n_near n_has)) [4, 25, 26, 27, 28, 29, 30, 31, 32, 33, 34, 35, 36] (by decide) rfl
  have hFc := va_free (wc := (wd_Ga_forgetLinks cA a_n n_x n_y g_nodes n_aloneB n_link n_near n_has)) hD hS hA [4, 25, 26, 27, 28, 29, 30, 31, 32, 33, 34, 35, 36] rfl
  refine va_callv (va_runV (C := R_Ga) (As := []) (rest := []) ⟨hx, hb, hml, hown, hal⟩ (c_Ga_forgetLinks l D cA a_n H.size n_x n_y g_nodes n_aloneB n_link n_near n_has o_7 hc_6) (cwV 0 hal (goodV kw_278 kw_280 kw_p1 kw_3 kw_281) rfl rfl rfl (by decide +kernel) ⟨Nat.le_of_ble_eq_true rfl, Nat.le_of_ble_eq_true rfl⟩) ⟨fun a U g mk q => by obtain ⟨q0, q1, qP, qK, qD⟩ := q; exact ⟨q0, q1, qP, va_K.moved (u := U) (U := U.calling g mk a) (Vm.Alike.refl U.vm) qK, qD⟩, va_recv hK hP (ci := 0) (q0 := 4) rfl rfl, fun U hU hW => ⟨rfl, by rw [hU], by rw [hU]; exact hPc, va_K.moved hW.alike hK, hDc.weaken (fun _ _ _ _ => trivial)⟩⟩ rfl rfl hl.1 rfl (lv_room (Nat.le_of_ble_eq_true rfl)) d_Ga_build_9 ⟨Nat.le_of_ble_eq_true rfl, Nat.le_of_ble_eq_true rfl⟩) hS (fun q _ h => hFc q h) hFc (fun u t H1 locs ht hvm hw hB hz1 hk1 hS => ?_)
  obtain ⟨u_3, u_4, u_5⟩ := u
  subst hw
  obtain ⟨hP1, hK1, hD1⟩ := hB
  rw [ht] at hP1
  have hP1 : va_P D cls9 (wd_Ga_forgetLinks cA a_n n_x n_y g_nodes n_aloneB u_3 u_4 u_5) H1 := hP1
  obtain ⟨hP, hD⟩ := va_join (wr := ([0, 1, 2, 3, 5, 6, 7, 8, 9, 10, 11, 12, 13, 14, 15, 16, 17, 18, 19, 20, 21, 22, 23, 24] : List Nat).filterMap (fun i => (wd_Ga_build cA a_g a_n g_manner g_nodes g_arcs g_from g_to g_weight n_x n_y g_nodes n_aloneB n_pairA n_pairB n_link n_near n_has)[i]?)) (w1 := (wd_Ga_forgetLinks cA a_n n_x n_y g_nodes n_aloneB u_3 u_4 u_5)) hP hD [4, 25, 26, 27, 28, 29, 30, 31, 32, 33, 34, 35, 36] [0, 1, 2, 3, 5, 6, 7, 8, 9, 10, 11, 12, 13, 14, 15, 16, 17, 18, 19, 20, 21, 22, 23, 24] rfl rfl (by decide) (by decide) hk1 hFc hP1 hD1
  generalize H1 = H at hP hS ⊢
  have hP : va_P D cls9 (wd_Ga_build cA a_g a_n g_manner g_nodes g_arcs g_from g_to g_weight n_x n_y g_nodes n_aloneB n_pairA n_pairB u_3 u_4 u_5) H := hP.sub [0, 1, 2, 3, 24, 4, 5, 6, 7, 8, 9, 10, 11, 12, 13, 14, 15, 16, 17, 18, 19, 20, 21, 22, 23, 25, 26, 27, 28, 29, 30, 31, 32, 33, 34, 35, 36] rfl
  have hD : va_D A (wd_Ga_build cA a_g a_n g_manner g_nodes g_arcs g_from g_to g_weight n_x n_y g_nodes n_aloneB n_pairA n_pairB u_3 u_4 u_5) := hD.sub [0, 1, 2, 3, 24, 4, 5, 6, 7, 8, 9, 10, 11, 12, 13, 14, 15, 16, 17, 18, 19, 20, 21, 22, 23, 25, 26, 27, 28, 29, 30, 31, 32, 33, 34, 35, 36] (by decide) rfl
  refine lv_lconst (v := 0) hx hb d_Ga_build_12 (by decide) ?_
  refine lv_lstore_n (lv' := [(2, .long (0 : Int64)), (0, .ref (a_n 0)), (1, .ref (a_g 0))]) hx hb d_Ga_build_13 rfl hl (by decide) rfl (fun ls hl => ?_)
  refine lv_iconst (v := 0) hx hb d_Ga_build_14 (by decide) ?_
  refine lv_istore (lv' := [(4, .int (0 : Int32)), (2, .long (0 : Int64)), (0, .ref (a_n 0)), (1, .ref (a_g 0))]) hx hb d_Ga_build_15 hl (by decide) rfl (fun ls hl => ?_)
  refine cast (hG _ _ _ _ _ _ _) (lp_go2 h (fun zz : Int64 × Int32 × (Nat → Int64) × (Nat → Nat → Int32) × (Nat → Int32) => ∀ (H : Heap) (locs : List Loc) (ls : Array Slot), va_P D cls9 (wd_Ga_build cA a_g a_n g_manner g_nodes g_arcs g_from g_to g_weight n_x n_y g_nodes n_aloneB n_pairA n_pairB zz.2.2.2.1 zz.2.2.2.2 zz.2.2.1) H → va_D A (wd_Ga_build cA a_g a_n g_manner g_nodes g_arcs g_from g_to g_weight n_x n_y g_nodes n_aloneB n_pairA n_pairB zz.2.2.2.1 zz.2.2.2.2 zz.2.2.1) → va_S A s.heap H locs → lv_has ls 5 [(4, .int zz.2.1), (2, .long zz.1), (0, .ref (a_n 0)), (1, .ref (a_g 0))] → G H locs 0 0 ls 77 []) ?_ (fun zz : Int64 × Int32 × (Nat → Int64) × (Nat → Nat → Int32) × (Nat → Int32) => ∀ (H : Heap) (locs : List Loc) (ls : Array Slot), va_P D cls9 (wd_Ga_build cA a_g a_n g_manner g_nodes g_arcs g_from g_to g_weight n_x n_y g_nodes n_aloneB n_pairA n_pairB zz.2.2.2.1 zz.2.2.2.2 zz.2.2.1) H → va_D A (wd_Ga_build cA a_g a_n g_manner g_nodes g_arcs g_from g_to g_weight n_x n_y g_nodes n_aloneB n_pairA n_pairB zz.2.2.2.1 zz.2.2.2.2 zz.2.2.1) → va_S A s.heap H locs → lv_has ls 5 [(4, .int zz.2.1), (2, .long zz.1), (0, .ref (a_n 0)), (1, .ref (a_g 0))] → G H locs 0 0 ls 17 []) ?_ _ _ ls hP hD hS (lv_sub hl [0, 1, 2, 3] rfl))
  · intro zz h H locs ls hP hD hS hl
    obtain ⟨x2_17e, x4_17e, n_has_17e, n_link_17e, n_near_17e⟩ := zz
    have hP : va_P D cls9 (wd_Ga_build cA a_g a_n g_manner g_nodes g_arcs g_from g_to g_weight n_x n_y g_nodes n_aloneB n_pairA n_pairB n_link_17e n_near_17e n_has_17e) H := hP
    have hD : va_D A (wd_Ga_build cA a_g a_n g_manner g_nodes g_arcs g_from g_to g_weight n_x n_y g_nodes n_aloneB n_pairA n_pairB n_link_17e n_near_17e n_has_17e) := hD
    have hl : lv_has ls 5 [(4, .int x4_17e), (2, .long x2_17e), (0, .ref (a_n 0)), (1, .ref (a_g 0))] := hl
    refine cast (hG _ _ _ _ _ _ _).symm ?_
    refine lv_aload_n hx hb d_Ga_build_77 rfl (lv_at hl 3 rfl) ?_
    refine va_get (ci := 1) (v := .int g_manner) (C := R_Gr) (T := F_Gr) (N := 6) hx hb hal in_Gr hown hK hP 0 rfl rfl 0 (by decide) (hal _ kw_28) (fun _ h9 => h9) rfl d_Ga_build_78 ?_
    refine lv_if_ne (tgt := 96) hx hb d_Ga_build_81 (by decide) (fun c_8 => ?_) (fun c_8 => ?_)
    · have h := ifn (c_8) h
      refine lv_aload_n hx hb d_Ga_build_96 rfl (lv_at hl 2 rfl) ?_
      obtain ⟨o_15, hc_14, h⟩ := bd h
      have hPc := hP.sub (ws' := (wd_Ga_pairByNumbers cA a_n n_x n_y g_nodes n_aloneB n_pairA n_pairB n_link_17e)) [4, 5, 6, 7, 8, 9, 10, 11, 12, 13, 14, 15, 16, 17, 18, 19, 20, 21, 22, 23, 24, 25, 26, 27, 28, 29, 30, 31, 32, 33, 34] rfl
      have hDc := hD.sub (ws' := (wd_Ga_pairByNumbers cA a_n n_x n_y g_nodes n_aloneB n_pairA n_pairB n_link_17e)) [4, 5, 6, 7, 8, 9, 10, 11, 12, 13, 14, 15, 16, 17, 18, 19, 20, 21, 22, 23, 24, 25, 26, 27, 28, 29, 30, 31, 32, 33, 34] (by decide) rfl
      have hFc := va_free (wc := (wd_Ga_pairByNumbers cA a_n n_x n_y g_nodes n_aloneB n_pairA n_pairB n_link_17e)) hD hS hA [4, 5, 6, 7, 8, 9, 10, 11, 12, 13, 14, 15, 16, 17, 18, 19, 20, 21, 22, 23, 24, 25, 26, 27, 28, 29, 30, 31, 32, 33, 34] rfl
      refine va_callv (va_runV (C := R_Ga) (As := []) (rest := []) ⟨hx, hb, hml, hown, hal⟩ (c_Ga_pairByNumbers l D cA a_n H.size n_x n_y g_nodes n_aloneB n_pairA n_pairB n_link_17e o_15 hc_14) (cwV 0 hal (goodV kw_302 kw_304 kw_p4 kw_3 kw_305) rfl rfl rfl (by decide +kernel) ⟨Nat.le_of_ble_eq_true rfl, Nat.le_of_ble_eq_true rfl⟩) ⟨fun a U g mk q => by obtain ⟨q0, q1, qP, qK, qD⟩ := q; exact ⟨q0, q1, qP, va_K.moved (u := U) (U := U.calling g mk a) (Vm.Alike.refl U.vm) qK, qD⟩, va_recv hK hP (ci := 0) (q0 := 4) rfl rfl, fun U hU hW => ⟨rfl, by rw [hU], by rw [hU]; exact hPc, va_K.moved hW.alike hK, hDc.weaken (fun _ _ _ _ => trivial)⟩⟩ rfl rfl hl.1 rfl (lv_room (Nat.le_of_ble_eq_true rfl)) d_Ga_build_97 ⟨Nat.le_of_ble_eq_true rfl, Nat.le_of_ble_eq_true rfl⟩) hS (fun q _ h => hFc q h) hFc (fun u t H1 locs ht hvm hw hB hz1 hk1 hS => ?_)
      obtain ⟨u_11, u_12, u_13⟩ := u
      subst hw
      obtain ⟨hP1, hK1, hD1⟩ := hB
      rw [ht] at hP1
      have hP1 : va_P D cls9 (wd_Ga_pairByNumbers cA a_n n_x n_y g_nodes u_11 u_12 u_13 n_link_17e) H1 := hP1
      obtain ⟨hP, hD⟩ := va_join (wr := ([0, 1, 2, 3, 35, 36] : List Nat).filterMap (fun i => (wd_Ga_build cA a_g a_n g_manner g_nodes g_arcs g_from g_to g_weight n_x n_y g_nodes n_aloneB n_pairA n_pairB n_link_17e n_near_17e n_has_17e)[i]?)) (w1 := (wd_Ga_pairByNumbers cA a_n n_x n_y g_nodes u_11 u_12 u_13 n_link_17e)) hP hD [4, 5, 6, 7, 8, 9, 10, 11, 12, 13, 14, 15, 16, 17, 18, 19, 20, 21, 22, 23, 24, 25, 26, 27, 28, 29, 30, 31, 32, 33, 34] [0, 1, 2, 3, 35, 36] rfl rfl (by decide) (by decide) hk1 hFc hP1 hD1
      generalize H1 = H at hP hS ⊢
      have hP : va_P D cls9 (wd_Ga_build cA a_g a_n g_manner g_nodes g_arcs g_from g_to g_weight n_x n_y g_nodes u_11 u_12 u_13 n_link_17e n_near_17e n_has_17e) H := hP.sub [0, 1, 2, 3, 6, 7, 8, 9, 10, 11, 12, 13, 14, 15, 16, 17, 18, 19, 20, 21, 22, 23, 24, 25, 26, 27, 28, 29, 30, 31, 32, 33, 34, 35, 36, 4, 5] rfl
      have hD : va_D A (wd_Ga_build cA a_g a_n g_manner g_nodes g_arcs g_from g_to g_weight n_x n_y g_nodes u_11 u_12 u_13 n_link_17e n_near_17e n_has_17e) := hD.sub [0, 1, 2, 3, 6, 7, 8, 9, 10, 11, 12, 13, 14, 15, 16, 17, 18, 19, 20, 21, 22, 23, 24, 25, 26, 27, 28, 29, 30, 31, 32, 33, 34, 35, 36, 4, 5] (by decide) rfl
      exact W.vret hx hb hr (fun t ht hW => ⟨⟨(g_nodes, u_11, u_12, u_13, n_link_17e, n_near_17e, n_has_17e), rfl, Option.some.inj h, by rw [ht]; exact hP, va_K.moved hW.alike hK, hD⟩, hS.F ht⟩) hS.2.2 d_Ga_build_100
    · have h := ifp (c_8) h
      refine lv_aload_n hx hb d_Ga_build_84 rfl (lv_at hl 2 rfl) ?_
      refine lv_ldc2 (v := 4) hx hb hown (hal _ kw_296) d_Ga_build_85 ?_
      refine lv_lload_n hx hb d_Ga_build_88 rfl (lv_at hl 1 rfl) ?_
      refine lv_lmul hx hb d_Ga_build_89 ?_
      obtain ⟨o_22, hc_21, h⟩ := bd h
      have hPc := hP.sub (ws' := (wd_Ga_pairByWeights cA a_n n_x n_y g_nodes n_aloneB n_pairA n_pairB n_link_17e n_has_17e)) [4, 5, 6, 7, 8, 9, 10, 11, 12, 13, 14, 15, 16, 17, 18, 19, 20, 21, 22, 23, 24, 25, 26, 27, 28, 29, 30, 31, 32, 33, 34, 36] rfl
      have hDc := hD.sub (ws' := (wd_Ga_pairByWeights cA a_n n_x n_y g_nodes n_aloneB n_pairA n_pairB n_link_17e n_has_17e)) [4, 5, 6, 7, 8, 9, 10, 11, 12, 13, 14, 15, 16, 17, 18, 19, 20, 21, 22, 23, 24, 25, 26, 27, 28, 29, 30, 31, 32, 33, 34, 36] (by decide) rfl
      have hFc := va_free (wc := (wd_Ga_pairByWeights cA a_n n_x n_y g_nodes n_aloneB n_pairA n_pairB n_link_17e n_has_17e)) hD hS hA [4, 5, 6, 7, 8, 9, 10, 11, 12, 13, 14, 15, 16, 17, 18, 19, 20, 21, 22, 23, 24, 25, 26, 27, 28, 29, 30, 31, 32, 33, 34, 36] rfl
      refine va_callv (va_runV (C := R_Ga) (As := [.long ((4 : Int64) * x2_17e)]) (rest := []) ⟨hx, hb, hml, hown, hal⟩ (c_Ga_pairByWeights l D cA a_n H.size n_x n_y g_nodes n_aloneB n_pairA n_pairB n_link_17e n_has_17e ((4 : Int64) * x2_17e) o_22 hc_21) (cwV 1 hal (goodV kw_297 kw_299 kw_p3 kw_3 kw_300) rfl rfl rfl (by decide +kernel) ⟨Nat.le_of_ble_eq_true rfl, Nat.le_of_ble_eq_true rfl⟩) ⟨fun a U g mk q => by obtain ⟨q0, q1, qP, qK, qD⟩ := q; exact ⟨q0, q1, qP, va_K.moved (u := U) (U := U.calling g mk a) (Vm.Alike.refl U.vm) qK, qD⟩, va_recv hK hP (ci := 0) (q0 := 4) rfl rfl, fun U hU hW => ⟨rfl, by rw [hU], by rw [hU]; exact hPc, va_K.moved hW.alike hK, hDc.weaken (fun _ _ _ _ => trivial)⟩⟩ rfl rfl hl.1 rfl (lv_room (Nat.le_of_ble_eq_true rfl)) d_Ga_build_90 ⟨Nat.le_of_ble_eq_true rfl, Nat.le_of_ble_eq_true rfl⟩) hS (fun q _ h => hFc q h) hFc (fun u t H1 locs ht hvm hw hB hz1 hk1 hS => ?_)
      obtain ⟨u_18, u_19, u_20⟩ := u
      subst hw
      obtain ⟨hP1, hK1, hD1⟩ := hB
      rw [ht] at hP1
      have hP1 : va_P D cls9 (wd_Ga_pairByWeights cA a_n n_x n_y g_nodes u_18 u_19 u_20 n_link_17e n_has_17e) H1 := hP1
      obtain ⟨hP, hD⟩ := va_join (wr := ([0, 1, 2, 3, 35] : List Nat).filterMap (fun i => (wd_Ga_build cA a_g a_n g_manner g_nodes g_arcs g_from g_to g_weight n_x n_y g_nodes n_aloneB n_pairA n_pairB n_link_17e n_near_17e n_has_17e)[i]?)) (w1 := (wd_Ga_pairByWeights cA a_n n_x n_y g_nodes u_18 u_19 u_20 n_link_17e n_has_17e)) hP hD [4, 5, 6, 7, 8, 9, 10, 11, 12, 13, 14, 15, 16, 17, 18, 19, 20, 21, 22, 23, 24, 25, 26, 27, 28, 29, 30, 31, 32, 33, 34, 36] [0, 1, 2, 3, 35] rfl rfl (by decide) (by decide) hk1 hFc hP1 hD1
      generalize H1 = H at hP hS ⊢
      have hP : va_P D cls9 (wd_Ga_build cA a_g a_n g_manner g_nodes g_arcs g_from g_to g_weight n_x n_y g_nodes u_18 u_19 u_20 n_link_17e n_near_17e n_has_17e) H := hP.sub [0, 1, 2, 3, 5, 6, 7, 8, 9, 10, 11, 12, 13, 14, 15, 16, 17, 18, 19, 20, 21, 22, 23, 24, 25, 26, 27, 28, 29, 30, 31, 32, 33, 34, 35, 4, 36] rfl
      have hD : va_D A (wd_Ga_build cA a_g a_n g_manner g_nodes g_arcs g_from g_to g_weight n_x n_y g_nodes u_18 u_19 u_20 n_link_17e n_near_17e n_has_17e) := hD.sub [0, 1, 2, 3, 5, 6, 7, 8, 9, 10, 11, 12, 13, 14, 15, 16, 17, 18, 19, 20, 21, 22, 23, 24, 25, 26, 27, 28, 29, 30, 31, 32, 33, 34, 35, 4, 36] (by decide) rfl
      refine lv_goto (tgt := 100) hx hb d_Ga_build_93 (by decide) ?_
      exact W.vret hx hb hr (fun t ht hW => ⟨⟨(g_nodes, u_18, u_19, u_20, n_link_17e, n_near_17e, n_has_17e), rfl, Option.some.inj h, by rw [ht]; exact hP, va_K.moved hW.alike hK, hD⟩, hS.F ht⟩) hS.2.2 d_Ga_build_100
  · intro back exit zz hB_17 hE_17 h H locs ls hP hD hS hl
    obtain ⟨x2_17, x4_17, n_has_17, n_link_17, n_near_17⟩ := zz
    have hP : va_P D cls9 (wd_Ga_build cA a_g a_n g_manner g_nodes g_arcs g_from g_to g_weight n_x n_y g_nodes n_aloneB n_pairA n_pairB n_link_17 n_near_17 n_has_17) H := hP
    have hD : va_D A (wd_Ga_build cA a_g a_n g_manner g_nodes g_arcs g_from g_to g_weight n_x n_y g_nodes n_aloneB n_pairA n_pairB n_link_17 n_near_17 n_has_17) := hD
    have hl : lv_has ls 5 [(4, .int x4_17), (2, .long x2_17), (0, .ref (a_n 0)), (1, .ref (a_g 0))] := hl
    refine cast (hG _ _ _ _ _ _ _).symm ?_
    refine lv_iload hx hb d_Ga_build_17 (lv_at hl 0 rfl) ?_
    refine lv_aload_n hx hb d_Ga_build_19 rfl (lv_at hl 3 rfl) ?_
    refine va_get (ci := 1) (v := .int g_arcs) (C := R_Gr) (T := F_Gr) (N := 6) hx hb hal in_Gr hown hK hP 0 rfl rfl 2 (by decide) (hal _ kw_33) (fun _ h9 => h9) rfl d_Ga_build_20 ?_
    refine lv_icmp_ge (tgt := 77) hx hb d_Ga_build_23 (by decide) (fun c_23 => ?_) (fun c_23 => ?_)
    · have h := ifp (c_23) h
      exact cast (hG _ _ _ _ _ _ _) (hE_17 (x2_17, x4_17, n_has_17, n_link_17, n_near_17) h _ _ _ hP hD hS (lv_sub hl [0, 1, 2, 3] rfl))
    · have h := ifn (c_23) h
      refine lv_aload_n hx hb d_Ga_build_26 rfl (lv_at hl 3 rfl) ?_
      refine lv_iload hx hb d_Ga_build_27 (lv_at hl 0 rfl) ?_
      obtain ⟨o_27, hc_26, h⟩ := bd h
      have hPc := hP.sub (ws' := (wd_Gr_counts cA a_g g_manner g_nodes g_arcs g_weight)) [0, 3] rfl
      have hDc := hD.sub (ws' := (wd_Gr_counts cA a_g g_manner g_nodes g_arcs g_weight)) [0, 3] (by decide) rfl
      have hFc := va_free (wc := (wd_Gr_counts cA a_g g_manner g_nodes g_arcs g_weight)) hD hS hA [0, 3] rfl
      refine va_calli (va_runV (C := R_Gr) (As := [.int x4_17]) (rest := []) ⟨hx, hb, hml, hown, hal⟩ (c_Gr_counts l D cA a_g H.size g_manner g_nodes g_arcs g_weight x4_17 o_27 hc_26) (cwV 1 hal (goodV kw_288 kw_289 kw_290 kw_2 kw_291) rfl rfl rfl (by decide +kernel) ⟨Nat.le_of_ble_eq_true rfl, Nat.le_of_ble_eq_true rfl⟩) ⟨fun a U g mk q => by obtain ⟨q0, q1, qP, qK, qD⟩ := q; exact ⟨q0, q1, qP, va_K.moved (u := U) (U := U.calling g mk a) (Vm.Alike.refl U.vm) qK, qD⟩, va_recv hK hP (ci := 1) (q0 := 0) rfl rfl, fun U hU hW => ⟨rfl, by rw [hU], by rw [hU]; exact hPc, va_K.moved hW.alike hK, hDc.weaken (fun _ _ _ _ => trivial)⟩⟩ rfl rfl hl.1 rfl (lv_room (Nat.le_of_ble_eq_true rfl)) d_Ga_build_29 ⟨Nat.le_of_ble_eq_true rfl, Nat.le_of_ble_eq_true rfl⟩) hS (fun q _ h => hFc q h) hFc (fun r_25 u t H1 locs ht hvm hw hB hz1 hk1 hS => ?_)
      subst hw
      obtain ⟨hP1, hK1, hD1⟩ := hB
      rw [ht] at hP1
      have hP1 : va_P D cls9 (wd_Gr_counts cA a_g g_manner g_nodes g_arcs g_weight) H1 := hP1
      obtain ⟨hP, hD⟩ := va_join (wr := ([1, 2, 4, 5, 6, 7, 8, 9, 10, 11, 12, 13, 14, 15, 16, 17, 18, 19, 20, 21, 22, 23, 24, 25, 26, 27, 28, 29, 30, 31, 32, 33, 34, 35, 36] : List Nat).filterMap (fun i => (wd_Ga_build cA a_g a_n g_manner g_nodes g_arcs g_from g_to g_weight n_x n_y g_nodes n_aloneB n_pairA n_pairB n_link_17 n_near_17 n_has_17)[i]?)) (w1 := (wd_Gr_counts cA a_g g_manner g_nodes g_arcs g_weight)) hP hD [0, 3] [1, 2, 4, 5, 6, 7, 8, 9, 10, 11, 12, 13, 14, 15, 16, 17, 18, 19, 20, 21, 22, 23, 24, 25, 26, 27, 28, 29, 30, 31, 32, 33, 34, 35, 36] rfl rfl (by decide) (by decide) hk1 hFc hP1 hD1
      generalize H1 = H at hP hS ⊢
      have hP : va_P D cls9 (wd_Ga_build cA a_g a_n g_manner g_nodes g_arcs g_from g_to g_weight n_x n_y g_nodes n_aloneB n_pairA n_pairB n_link_17 n_near_17 n_has_17) H := hP.sub [35, 0, 1, 36, 2, 3, 4, 5, 6, 7, 8, 9, 10, 11, 12, 13, 14, 15, 16, 17, 18, 19, 20, 21, 22, 23, 24, 25, 26, 27, 28, 29, 30, 31, 32, 33, 34] rfl
      have hD : va_D A (wd_Ga_build cA a_g a_n g_manner g_nodes g_arcs g_from g_to g_weight n_x n_y g_nodes n_aloneB n_pairA n_pairB n_link_17 n_near_17 n_has_17) := hD.sub [35, 0, 1, 36, 2, 3, 4, 5, 6, 7, 8, 9, 10, 11, 12, 13, 14, 15, 16, 17, 18, 19, 20, 21, 22, 23, 24, 25, 26, 27, 28, 29, 30, 31, 32, 33, 34] (by decide) rfl
      refine lv_if_eq (tgt := 71) hx hb d_Ga_build_32 (by decide) (fun c_28 => ?_) (fun c_28 => ?_)
      · have h := ifp (c_28) h
        refine lv_iinc (v := (x4_17 + 1)) (lv' := [(4, .int (x4_17 + 1)), (2, .long x2_17), (0, .ref (a_n 0)), (1, .ref (a_g 0))]) hx hb d_Ga_build_71 hl (k := 0) rfl rfl (by decide) rfl (fun ls hl => ?_)
        refine lv_goto (tgt := 17) hx hb d_Ga_build_74 (by decide) ?_
        exact cast (hG _ _ _ _ _ _ _) (hB_17 (x2_17, (x4_17 + 1), n_has_17, n_link_17, n_near_17) h _ _ _ hP hD hS (lv_sub hl [0, 1, 2, 3] rfl))
      · have h := ifn (c_28) h
        refine lv_aload_n hx hb d_Ga_build_35 rfl (lv_at hl 2 rfl) ?_
        refine lv_aload_n hx hb d_Ga_build_36 rfl (lv_at hl 3 rfl) ?_
        refine va_get (ci := 1) (v := .ref (a_g 1)) (C := R_Gr) (T := F_Gr) (N := 6) hx hb hal in_Gr hown hK hP 0 rfl rfl 3 (by decide) (hal _ kw_37) (fun _ h9 => h9) rfl d_Ga_build_37 ?_
        refine lv_iload hx hb d_Ga_build_40 (lv_at hl 0 rfl) ?_
        obtain ⟨g_29, h⟩ := gd h
        refine va_iald hx hb hK hP 1 0 rfl rfl (inb_in g_29) d_Ga_build_42 ?_
        refine lv_aload_n hx hb d_Ga_build_43 rfl (lv_at hl 3 rfl) ?_
        refine va_get (ci := 1) (v := .ref (a_g 2)) (C := R_Gr) (T := F_Gr) (N := 6) hx hb hal in_Gr hown hK hP 0 rfl rfl 4 (by decide) (hal _ kw_39) (fun _ h9 => h9) rfl d_Ga_build_44 ?_
        refine lv_iload hx hb d_Ga_build_47 (lv_at hl 0 rfl) ?_
        refine va_iald hx hb hK hP 2 0 rfl rfl (inb_in g_29) d_Ga_build_49 ?_
        refine lv_aload_n hx hb d_Ga_build_50 rfl (lv_at hl 3 rfl) ?_
        refine va_get (ci := 1) (v := .ref (a_g 3)) (C := R_Gr) (T := F_Gr) (N := 6) hx hb hal in_Gr hown hK hP 0 rfl rfl 5 (by decide) (hal _ kw_41) (fun _ h9 => h9) rfl d_Ga_build_51 ?_
        refine lv_iload hx hb d_Ga_build_54 (lv_at hl 0 rfl) ?_
        refine va_iald hx hb hK hP 3 0 rfl rfl (inb_in g_29) d_Ga_build_56 ?_
        obtain ⟨o_36, hc_35, h⟩ := bd h
        have hPc := hP.sub (ws' := (wd_Ga_addLink cA a_n n_x n_y g_nodes n_aloneB n_link_17 n_near_17 n_has_17)) [4, 25, 26, 27, 28, 29, 30, 31, 32, 33, 34, 35, 36] rfl
        have hDc := hD.sub (ws' := (wd_Ga_addLink cA a_n n_x n_y g_nodes n_aloneB n_link_17 n_near_17 n_has_17)) [4, 25, 26, 27, 28, 29, 30, 31, 32, 33, 34, 35, 36] (by decide) rfl
        have hFc := va_free (wc := (wd_Ga_addLink cA a_n n_x n_y g_nodes n_aloneB n_link_17 n_near_17 n_has_17)) hD hS hA [4, 25, 26, 27, 28, 29, 30, 31, 32, 33, 34, 35, 36] rfl
        refine va_callv (va_runV (C := R_Ga) (As := [.int (g_from x4_17.toNatClampNeg), .int (g_to x4_17.toNatClampNeg), .int (g_weight x4_17.toNatClampNeg)]) (rest := []) ⟨hx, hb, hml, hown, hal⟩ (c_Ga_addLink l D cA a_n H.size n_x n_y g_nodes n_aloneB n_link_17 n_near_17 n_has_17 (g_from x4_17.toNatClampNeg) (g_to x4_17.toNatClampNeg) (g_weight x4_17.toNatClampNeg) o_36 hc_35) (cwV 3 hal (goodV kw_292 kw_294 kw_p2 kw_3 kw_295) rfl rfl rfl (by decide +kernel) ⟨Nat.le_of_ble_eq_true rfl, Nat.le_of_ble_eq_true rfl⟩) ⟨fun a U g mk q => by obtain ⟨q0, q1, qP, qK, qD⟩ := q; exact ⟨q0, q1, qP, va_K.moved (u := U) (U := U.calling g mk a) (Vm.Alike.refl U.vm) qK, qD⟩, va_recv hK hP (ci := 0) (q0 := 4) rfl rfl, fun U hU hW => ⟨rfl, by rw [hU], by rw [hU]; exact hPc, va_K.moved hW.alike hK, hDc.weaken (fun _ _ _ _ => trivial)⟩⟩ rfl rfl hl.1 rfl (lv_room (Nat.le_of_ble_eq_true rfl)) d_Ga_build_57 ⟨Nat.le_of_ble_eq_true rfl, Nat.le_of_ble_eq_true rfl⟩) hS (fun q _ h => hFc q h) hFc (fun u t H1 locs ht hvm hw hB hz1 hk1 hS => ?_)
        obtain ⟨u_32, u_33, u_34⟩ := u
        subst hw
        obtain ⟨hP1, hK1, hD1⟩ := hB
        rw [ht] at hP1
        have hP1 : va_P D cls9 (wd_Ga_addLink cA a_n n_x n_y g_nodes n_aloneB u_32 u_33 u_34) H1 := hP1
        obtain ⟨hP, hD⟩ := va_join (wr := ([0, 1, 2, 3, 5, 6, 7, 8, 9, 10, 11, 12, 13, 14, 15, 16, 17, 18, 19, 20, 21, 22, 23, 24] : List Nat).filterMap (fun i => (wd_Ga_build cA a_g a_n g_manner g_nodes g_arcs g_from g_to g_weight n_x n_y g_nodes n_aloneB n_pairA n_pairB n_link_17 n_near_17 n_has_17)[i]?)) (w1 := (wd_Ga_addLink cA a_n n_x n_y g_nodes n_aloneB u_32 u_33 u_34)) hP hD [4, 25, 26, 27, 28, 29, 30, 31, 32, 33, 34, 35, 36] [0, 1, 2, 3, 5, 6, 7, 8, 9, 10, 11, 12, 13, 14, 15, 16, 17, 18, 19, 20, 21, 22, 23, 24] rfl rfl (by decide) (by decide) hk1 hFc hP1 hD1
        generalize H1 = H at hP hS ⊢
        have hP : va_P D cls9 (wd_Ga_build cA a_g a_n g_manner g_nodes g_arcs g_from g_to g_weight n_x n_y g_nodes n_aloneB n_pairA n_pairB u_32 u_33 u_34) H := hP.sub [0, 1, 2, 3, 24, 4, 5, 6, 7, 8, 9, 10, 11, 12, 13, 14, 15, 16, 17, 18, 19, 20, 21, 22, 23, 25, 26, 27, 28, 29, 30, 31, 32, 33, 34, 35, 36] rfl
        have hD : va_D A (wd_Ga_build cA a_g a_n g_manner g_nodes g_arcs g_from g_to g_weight n_x n_y g_nodes n_aloneB n_pairA n_pairB u_32 u_33 u_34) := hD.sub [0, 1, 2, 3, 24, 4, 5, 6, 7, 8, 9, 10, 11, 12, 13, 14, 15, 16, 17, 18, 19, 20, 21, 22, 23, 25, 26, 27, 28, 29, 30, 31, 32, 33, 34, 35, 36] (by decide) rfl
        refine lv_lload_n hx hb d_Ga_build_60 rfl (lv_at hl 1 rfl) ?_
        refine lv_aload_n hx hb d_Ga_build_61 rfl (lv_at hl 3 rfl) ?_
        refine va_get (ci := 1) (v := .ref (a_g 3)) (C := R_Gr) (T := F_Gr) (N := 6) hx hb hal in_Gr hown hK hP 0 rfl rfl 5 (by decide) (hal _ kw_41) (fun _ h9 => h9) rfl d_Ga_build_62 ?_
        refine lv_iload hx hb d_Ga_build_65 (lv_at hl 0 rfl) ?_
        refine va_iald hx hb hK hP 3 0 rfl rfl (inb_in g_29) d_Ga_build_67 ?_
        refine lv_i2l hx hb d_Ga_build_68 rfl ?_
        refine lv_ladd hx hb d_Ga_build_69 ?_
        refine lv_lstore_n (lv' := [(2, .long (x2_17 + (g_weight x4_17.toNatClampNeg).toInt64)), (4, .int x4_17), (0, .ref (a_n 0)), (1, .ref (a_g 0))]) hx hb d_Ga_build_70 rfl hl (by decide) rfl (fun ls hl => ?_)
        refine lv_iinc (v := (x4_17 + 1)) (lv' := [(4, .int (x4_17 + 1)), (2, .long (x2_17 + (g_weight x4_17.toNatClampNeg).toInt64)), (0, .ref (a_n 0)), (1, .ref (a_g 0))]) hx hb d_Ga_build_71 hl (k := 1) rfl rfl (by decide) rfl (fun ls hl => ?_)
        refine lv_goto (tgt := 17) hx hb d_Ga_build_74 (by decide) ?_
        exact cast (hG _ _ _ _ _ _ _) (hB_17 ((x2_17 + (g_weight x4_17.toNatClampNeg).toInt64), (x4_17 + 1), u_34, u_32, u_33) h _ _ _ hP hD hS (lv_sub hl [0, 1, 2, 3] rfl))
