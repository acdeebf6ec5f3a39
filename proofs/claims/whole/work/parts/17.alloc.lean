def wd_copyOf (cA : Nat → ClassId) (a_q : Nat → Nat) (q_arr : Nat → Int64) (q_arr_n : Nat) : va_W := [(a_q 0, .inl (cA 1, q_arr_n, .inr (.inl q_arr)))]
def mn_copyOf (n : Nat) (v1 : Int32) : Int32 := if v1 < Int32.ofNat n then v1 else Int32.ofNat n
noncomputable def m_copyOf (q_arr : Nat → Int64) (q_arr_n : Nat) (v1 : Int32) : Option (Nat → Int64) :=
  (if v1 = Int32.ofNat q_arr_n then none else (if ¬ v1 < 0 ∧ v1.toNatClampNeg * componentBytes .long ≤ 536870912 ∧ ¬ mn_copyOf q_arr_n v1 < 0 ∧ (mn_copyOf q_arr_n v1).toNatClampNeg ≤ q_arr_n ∧ (mn_copyOf q_arr_n v1).toNatClampNeg ≤ v1.toNatClampNeg then some (va_cpy q_arr (fun _ => 0) 0 0 (mn_copyOf q_arr_n v1).toNatClampNeg) else none))
set_option maxHeartbeats 4000000 in
set_option maxRecDepth 100000 in
theorem c_copyOf (l : Launch) (D : va_G) (cA : Nat → ClassId) (a_q : Nat → Nat) (sz : Nat) (q_arr : Nat → Int64) (q_arr_n : Nat) (v1 : Int32) (out : Nat → Int64) (h : m_copyOf q_arr q_arr_n v1 = some out) : Met l y_Ar_copyOf_AJI w_Ar_copyOf_AJI ({ frames := 1, cells := 1, slots := v1.toNatClampNeg, locals := 60 }) (va_Pc [.ref (a_q 0), .int v1] (fun U => U.heap.size = sz ∧ va_P D cls9 (wd_copyOf cA a_q q_arr q_arr_n) U.heap ∧ va_K D cls9 (tys5 cA) U ∧ va_D (fun _ => True) (wd_copyOf cA a_q q_arr q_arr_n))) (va_Qr (fun uu : Unit => True) (fun (uu : Unit) (ra : Nat) (t : State) => va_P D cls9 [(a_q 0, .inl (cA 1, q_arr_n, .inr (.inl q_arr))), (ra, .inl (cA 1, v1.toNatClampNeg, .inr (.inl out)))] t.heap ∧ va_K D cls9 (tys5 cA) t ∧ va_D (va_A (wd_copyOf cA a_q q_arr q_arr_n) sz) [(a_q 0, .inl (cA 1, q_arr_n, .inr (.inl q_arr))), (ra, .inl (cA 1, v1.toNatClampNeg, .inr (.inl out)))]) (va_A (wd_copyOf cA a_q q_arr q_arr_n) sz)) 1 v1.toNatClampNeg (va_A (wd_copyOf cA a_q q_arr q_arr_n) sz) := by
  refine Met.ofW (cc := b_Ar_copyOf_AJI) (maxL := 3) (ret := (some (.array .long))) (by decide) rfl ?_
  intro p e s m args below meth c s₁ B hml hv
  obtain ⟨rfl, hsz, hP, hK, hD0⟩ := hv
  have hx := B.exec
  have hb := B.bytes
  have hr := B.returns
  have hts := atoms_spec (ws := w_Ar_copyOf_AJI) B.pre
  have hal : ∀ w ∈ ALLW, w.before _ s = true := fun w hw => hts w (List.mem_cons_of_mem _ hw)
  have hown : s.vm.findClass R_Ar = some m.cls := findClass_of_methodNamed B.named
  have hlocks := B.notSynchronized
  subst hsz
  have hD := hD0.self (sz := s.heap.size)
  generalize hAe : va_A (wd_copyOf cA a_q q_arr q_arr_n) s.heap.size = A at hD ⊢
  have hA : ∀ q : Nat, s.heap.size ≤ q → A q := fun q h => by rw [← hAe]; exact Or.inr h
  have hS : va_S A s.heap s.heap [] := va_S.rf
  have hl := lv_entry ([.ref (a_q 0), .int v1]) (n := 3) (Nat.le_of_ble_eq_true rfl)
  rw [lg_entry_eq]
  generalize (lg_sl ([.ref (a_q 0), .int v1]) ++ List.replicate (3 - (lg_sl ([.ref (a_q 0), .int v1])).length) Slot.unset).toArray = ls at hl ⊢
  have hl : lv_has ls 3 [(0, .ref (a_q 0)), (1, .int v1)] := hl
  obtain ⟨H, locs, hHl, hS⟩ : ∃ (H : Heap) (locs : List Loc), (H = s.heap ∧ locs = []) ∧ va_S A s.heap H locs := ⟨s.heap, [], ⟨rfl, rfl⟩, hS⟩
  have hP : va_P D cls9 (wd_copyOf cA a_q q_arr q_arr_n) H := by rw [hHl.1]; exact hP
  rw [← hHl.1, ← hHl.2]
  clear hHl
  refine lv_iload_n hx hb d_Ar_copyOf_AJI_0 rfl (lv_at hl 1 rfl) ?_
  refine lv_aload_n hx hb d_Ar_copyOf_AJI_1 rfl (lv_at hl 0 rfl) ?_
  refine va_alen (ty := .long) (v := Int32.ofNat q_arr_n) hx hb hK hP 0 1 rfl rfl rfl d_Ar_copyOf_AJI_2 ?_
  refine lv_icmp_ne (tgt := 14) hx hb d_Ar_copyOf_AJI_3 (by decide) (fun c1 => ?_) (fun c1 => ?_)
  · have h := ifn c1 h
    obtain ⟨⟨g1, g2, g3, g4, g5⟩, h⟩ := gd h
    have h := Option.some.inj h
    subst h
    refine lv_iload_n hx hb d_Ar_copyOf_AJI_14 rfl (lv_at hl 1 rfl) ?_
    refine my_newa (atype := .long) (ty := .long) (N' := v1.toNatClampNeg) (a0 := (v1.toNatClampNeg, .inr (.inl (fun _ => 0)))) hx hb (hal _ kw_104) rfl hK hP hD hS hA 1 rfl (fun _ => rfl) g1 rfl g2 (Nat.le_of_ble_eq_true rfl) (by show 0 + _ ≤ v1.toNatClampNeg; omega) d_Ar_copyOf_AJI_15 (fun q H hP hD hS => ?_)
    have hP : va_P D cls9 [(a_q 0, .inl (cA 1, q_arr_n, .inr (.inl q_arr))), (q, .inl (cA 1, v1.toNatClampNeg, .inr (.inl (fun _ => 0))))] H := hP
    have hD : va_D A [(a_q 0, .inl (cA 1, q_arr_n, .inr (.inl q_arr))), (q, .inl (cA 1, v1.toNatClampNeg, .inr (.inl (fun _ => 0))))] := hD
    refine lv_astore_n (lv' := [(2, .ref q), (0, .ref (a_q 0)), (1, .int v1)]) hx hb d_Ar_copyOf_AJI_17 rfl hl (by decide) rfl (fun ls hl => ?_)
    refine lv_aload_n hx hb d_Ar_copyOf_AJI_18 rfl (lv_at hl 1 rfl) ?_
    refine lv_iconst (v := 0) hx hb d_Ar_copyOf_AJI_19 (by decide) ?_
    refine lv_aload_n hx hb d_Ar_copyOf_AJI_20 rfl (lv_at hl 0 rfl) ?_
    refine lv_iconst (v := 0) hx hb d_Ar_copyOf_AJI_21 (by decide) ?_
    refine lv_aload_n hx hb d_Ar_copyOf_AJI_22 rfl (lv_at hl 1 rfl) ?_
    refine va_alen (ty := .long) (v := Int32.ofNat q_arr_n) hx hb hK hP 0 1 rfl rfl rfl d_Ar_copyOf_AJI_23 ?_
    refine lv_iload_n hx hb d_Ar_copyOf_AJI_24 rfl (lv_at hl 2 rfl) ?_
    refine va_mmin hx hb (by rw [hml]; exact hl.1.symm) hown (hal _ kw_605) (hal _ kw_606) (hal _ kw_11) (hal _ kw_607) (Nat.le_of_ble_eq_true rfl) (Nat.le_of_ble_eq_true rfl) (by show 0 + 1 ≤ 1; omega) (by show 0 + _ ≤ v1.toNatClampNeg; omega) d_Ar_copyOf_AJI_25 ?_
    refine va_copyl (ty := .long) (n := mn_copyOf q_arr_n v1) hx hb (by rw [hml]; exact hl.1.symm) hown (hal _ kw_608) (hal _ kw_610) (hal _ kw_609) (hal _ kw_12) hK hP hD hS 0 1 1 1 rfl rfl rfl rfl rfl (by decide) (by decide) g3 (by show 0 + _ ≤ _; omega) (by show 0 + _ ≤ _; omega) (fun _ _ => rfl) (Nat.le_of_ble_eq_true rfl) (Nat.le_of_ble_eq_true rfl) d_Ar_copyOf_AJI_28 (fun H locs hP hD hS => ?_)
    have hP : va_P D cls9 [(a_q 0, .inl (cA 1, q_arr_n, .inr (.inl q_arr))), (q, .inl (cA 1, v1.toNatClampNeg, .inr (.inl (va_cpy q_arr (fun _ => 0) 0 0 (mn_copyOf q_arr_n v1).toNatClampNeg))))] H := hP
    have hD : va_D A [(a_q 0, .inl (cA 1, q_arr_n, .inr (.inl q_arr))), (q, .inl (cA 1, v1.toNatClampNeg, .inr (.inl (va_cpy q_arr (fun _ => 0) 0 0 (mn_copyOf q_arr_n v1).toNatClampNeg))))] := hD
    refine W.widen (k := 1) (n := v1.toNatClampNeg) (by omega) (by omega) ?_
    refine lv_aload_n hx hb d_Ar_copyOf_AJI_31 rfl (lv_at hl 0 rfl) ?_
    exact W.aret (v := .ref q) hx hb hr (Or.inr ⟨_, rfl⟩) (Or.inr ⟨_, rfl⟩) (fun t ht hW => ⟨⟨(), q, rfl, trivial, by rw [ht]; exact hP, va_K.moved hW.alike hK, hD⟩, hS.F ht⟩) hS.2.2 d_Ar_copyOf_AJI_32
  · have h := ifp c1 h
    cases h
