def wd_St_forget (cA : Nat → ClassId) (a_k a_t : Nat → Nat) (t_known : Int32) (t_count : Int32) (t_lastA : Int64) (t_lastB : Int64) (t_found : Int32) (t_foundA : Int64) (t_foundB : Int64) (t_foundCode : Int64) : va_W := [(a_t 0, .inr (5, [.ref (a_k 0), .int t_known, .int t_count, .ref (a_t 1), .ref (a_t 2), .ref (a_t 3), .long t_lastA, .long t_lastB, .int t_found, .long t_foundA, .long t_foundB, .long t_foundCode]))]
noncomputable def m_St_forget  : Option Int32 :=
  some (0 : Int32)
set_option maxHeartbeats 4000000 in
set_option maxRecDepth 100000 in
theorem c_St_forget (l : Launch) (D : va_G) (cA : Nat → ClassId) (a_k a_t : Nat → Nat) (sz : Nat) (t_known : Int32) (t_count : Int32) (t_lastA : Int64) (t_lastB : Int64) (t_found : Int32) (t_foundA : Int64) (t_foundB : Int64) (t_foundCode : Int64)  (out : Int32) (h : m_St_forget  = some out) : Met l y_St_forget w_St_forget ({ frames := 0, cells := 0, slots := 0, locals := 0 }) (va_Pc [.ref (a_t 0)] (fun U => U.heap.size = sz ∧ va_P D cls9 (wd_St_forget cA a_k a_t t_known t_count t_lastA t_lastB t_found t_foundA t_foundB t_foundCode) U.heap ∧ va_K D cls9 (tys5 cA) U ∧ va_D (fun _ => True) (wd_St_forget cA a_k a_t t_known t_count t_lastA t_lastB t_found t_foundA t_foundB t_foundCode))) (va_Qv (fun uu : Int32 => uu = out) (fun (uu : Int32) (t : State) => va_P D cls9 (wd_St_forget cA a_k a_t uu t_count t_lastA t_lastB t_found t_foundA t_foundB t_foundCode) t.heap ∧ va_K D cls9 (tys5 cA) t ∧ va_D (va_A (wd_St_forget cA a_k a_t t_known t_count t_lastA t_lastB t_found t_foundA t_foundB t_foundCode) sz) (wd_St_forget cA a_k a_t uu t_count t_lastA t_lastB t_found t_foundA t_foundB t_foundCode)) (va_A (wd_St_forget cA a_k a_t t_known t_count t_lastA t_lastB t_found t_foundA t_foundB t_foundCode) sz)) 0 0 (va_A (wd_St_forget cA a_k a_t t_known t_count t_lastA t_lastB t_found t_foundA t_foundB t_foundCode) sz) := by
  refine Met.ofW (cc := b_St_forget) (maxL := 1) (ret := (Option.none : Option Jvm.ClassFile.FieldType)) (by decide) rfl ?_
  intro p e s m args below meth c s₁ B hml hv
  obtain ⟨rfl, hsz, hP, hK, hD0⟩ := hv
  have hx := B.exec
  have hb := B.bytes
  have hr := B.returns
  have hts := atoms_spec (ws := w_St_forget) B.pre
  have hal : ∀ w ∈ ALLW, w.before _ s = true := fun w hw => hts w (List.mem_cons_of_mem _ hw)
  have hown : s.vm.findClass R_St = some m.cls := findClass_of_methodNamed B.named
  have hlocks := B.notSynchronized
  subst hsz
  have hD := hD0.self (sz := s.heap.size)
  generalize hAe : va_A (wd_St_forget cA a_k a_t t_known t_count t_lastA t_lastB t_found t_foundA t_foundB t_foundCode) s.heap.size = A at hD ⊢
  have hA : ∀ q : Nat, s.heap.size ≤ q → A q := fun q h => by rw [← hAe]; exact Or.inr h
  have hS : va_S A s.heap s.heap [] := va_S.rf
  have hl := lv_entry ([.ref (a_t 0)]) (n := 1) (Nat.le_of_ble_eq_true rfl)
  rw [lg_entry_eq]
  generalize (lg_sl ([.ref (a_t 0)]) ++ List.replicate (1 - (lg_sl ([.ref (a_t 0)])).length) Slot.unset).toArray = ls at hl ⊢
  have hl : lv_has ls 1 [(0, .ref (a_t 0))] := hl
  refine wg (fun G hG => ?_)
  refine cast (hG _ _ _ _ _ _ _).symm ?_
  obtain ⟨H, locs, hHl, hS⟩ : ∃ (H : Heap) (locs : List Loc), (H = s.heap ∧ locs = []) ∧ va_S A s.heap H locs := ⟨s.heap, [], ⟨rfl, rfl⟩, hS⟩
  have hP : va_P D cls9 (wd_St_forget cA a_k a_t t_known t_count t_lastA t_lastB t_found t_foundA t_foundB t_foundCode) H := by rw [hHl.1]; exact hP
  rw [← hHl.1, ← hHl.2]
  clear hHl
  refine lv_aload_n hx hb d_St_forget_0 rfl (lv_at hl 0 rfl) ?_
  refine lv_iconst (v := 0) hx hb d_St_forget_1 (by decide) ?_
  refine va_put (ci := 5) (v := .int (0 : Int32)) (ty := .boolean) (C := R_St) (T := F_St) (N := 12) hx hb hal in_St t_St t_St_ok n_St hown hK hP hD hS 0 rfl rfl 1 (by decide) (hal _ kw_204) (fun _ h9 => h9) rfl (by decide +kernel) (by decide) (by decide) (Nat.le_of_ble_eq_true rfl) d_St_forget_2 (fun H locs hP hD hS => ?_)
  have hP : va_P D cls9 (wd_St_forget cA a_k a_t (0 : Int32) t_count t_lastA t_lastB t_found t_foundA t_foundB t_foundCode) H := hP
  have hD : va_D A (wd_St_forget cA a_k a_t (0 : Int32) t_count t_lastA t_lastB t_found t_foundA t_foundB t_foundCode) := hD
  exact W.vret hx hb hr (fun t ht hW => ⟨⟨(0 : Int32), rfl, Option.some.inj h, by rw [ht]; exact hP, va_K.moved hW.alike hK, hD⟩, hS.F ht⟩) hS.2.2 d_St_forget_5
def wd_St_has (cA : Nat → ClassId) (a_k a_t : Nat → Nat) (t_known : Int32) (t_count : Int32) (t_lastA : Int64) (t_lastB : Int64) (t_found : Int32) (t_foundA : Int64) (t_foundB : Int64) (t_foundCode : Int64) : va_W := [(a_t 0, .inr (5, [.ref (a_k 0), .int t_known, .int t_count, .ref (a_t 1), .ref (a_t 2), .ref (a_t 3), .long t_lastA, .long t_lastB, .int t_found, .long t_foundA, .long t_foundB, .long t_foundCode]))]
noncomputable def m_St_has (t_count : Int32) (v1 : Int32) : Option Int32 :=
  (if v1 < 0 then some (0 : Int32) else (if t_count ≤ v1 then some (0 : Int32) else some (1 : Int32)))
set_option maxHeartbeats 4000000 in
set_option maxRecDepth 100000 in
theorem c_St_has (l : Launch) (D : va_G) (cA : Nat → ClassId) (a_k a_t : Nat → Nat) (sz : Nat) (t_known : Int32) (t_count : Int32) (t_lastA : Int64) (t_lastB : Int64) (t_found : Int32) (t_foundA : Int64) (t_foundB : Int64) (t_foundCode : Int64) (v1 : Int32) (out : Int32) (h : m_St_has t_count v1 = some out) : Met l y_St_has w_St_has ({ frames := 0, cells := 0, slots := 0, locals := 0 }) (va_Pc [.ref (a_t 0), .int v1] (fun U => U.heap.size = sz ∧ va_P D cls9 (wd_St_has cA a_k a_t t_known t_count t_lastA t_lastB t_found t_foundA t_foundB t_foundCode) U.heap ∧ va_K D cls9 (tys5 cA) U ∧ va_D (fun _ => True) (wd_St_has cA a_k a_t t_known t_count t_lastA t_lastB t_found t_foundA t_foundB t_foundCode))) (va_Qi (fun (rr : Int32) (uu : Unit) => rr = out) (fun (uu : Unit) (t : State) => va_P D cls9 (wd_St_has cA a_k a_t t_known t_count t_lastA t_lastB t_found t_foundA t_foundB t_foundCode) t.heap ∧ va_K D cls9 (tys5 cA) t ∧ va_D (va_A (wd_St_has cA a_k a_t t_known t_count t_lastA t_lastB t_found t_foundA t_foundB t_foundCode) sz) (wd_St_has cA a_k a_t t_known t_count t_lastA t_lastB t_found t_foundA t_foundB t_foundCode)) (va_A (wd_St_has cA a_k a_t t_known t_count t_lastA t_lastB t_found t_foundA t_foundB t_foundCode) sz)) 0 0 (va_A (wd_St_has cA a_k a_t t_known t_count t_lastA t_lastB t_found t_foundA t_foundB t_foundCode) sz) := by
  refine Met.ofW (cc := b_St_has) (maxL := 2) (ret := (Option.some Jvm.ClassFile.FieldType.boolean)) (by decide) rfl ?_
  intro p e s m args below meth c s₁ B hml hv
  obtain ⟨rfl, hsz, hP, hK, hD0⟩ := hv
  have hx := B.exec
  have hb := B.bytes
  have hr := B.returns
  have hts := atoms_spec (ws := w_St_has) B.pre
  have hal : ∀ w ∈ ALLW, w.before _ s = true := fun w hw => hts w (List.mem_cons_of_mem _ hw)
  have hown : s.vm.findClass R_St = some m.cls := findClass_of_methodNamed B.named
  have hlocks := B.notSynchronized
  subst hsz
  have hD := hD0.self (sz := s.heap.size)
  generalize hAe : va_A (wd_St_has cA a_k a_t t_known t_count t_lastA t_lastB t_found t_foundA t_foundB t_foundCode) s.heap.size = A at hD ⊢
  have hA : ∀ q : Nat, s.heap.size ≤ q → A q := fun q h => by rw [← hAe]; exact Or.inr h
  have hS : va_S A s.heap s.heap [] := va_S.rf
  have hl := lv_entry ([.ref (a_t 0), .int v1]) (n := 2) (Nat.le_of_ble_eq_true rfl)
  rw [lg_entry_eq]
  generalize (lg_sl ([.ref (a_t 0), .int v1]) ++ List.replicate (2 - (lg_sl ([.ref (a_t 0), .int v1])).length) Slot.unset).toArray = ls at hl ⊢
  have hl : lv_has ls 2 [(0, .ref (a_t 0)), (1, .int v1)] := hl
  refine wg (fun G hG => ?_)
  refine cast (hG _ _ _ _ _ _ _).symm ?_
  obtain ⟨H, locs, hHl, hS⟩ : ∃ (H : Heap) (locs : List Loc), (H = s.heap ∧ locs = []) ∧ va_S A s.heap H locs := ⟨s.heap, [], ⟨rfl, rfl⟩, hS⟩
  have hP : va_P D cls9 (wd_St_has cA a_k a_t t_known t_count t_lastA t_lastB t_found t_foundA t_foundB t_foundCode) H := by rw [hHl.1]; exact hP
  rw [← hHl.1, ← hHl.2]
  clear hHl
  refine lv_iload_n hx hb d_St_has_0 rfl (lv_at hl 1 rfl) ?_
  refine lv_if_lt (tgt := 16) hx hb d_St_has_1 (by decide) (fun c_1 => ?_) (fun c_1 => ?_)
  · have h := ifp (c_1) h
    refine lv_iconst (v := 0) hx hb d_St_has_16 (by decide) ?_
    exact W.zret (v := (0 : Int32)) hx hb hr (by decide) (fun t ht hW => ⟨⟨(0 : Int32), (), rfl, Option.some.inj h, by rw [ht]; exact hP, va_K.moved hW.alike hK, hD⟩, hS.F ht⟩) hS.2.2 d_St_has_17
  · have h := ifn (c_1) h
    refine lv_iload_n hx hb d_St_has_4 rfl (lv_at hl 1 rfl) ?_
    refine lv_aload_n hx hb d_St_has_5 rfl (lv_at hl 0 rfl) ?_
    refine va_get (ci := 5) (v := .int t_count) (C := R_St) (T := F_St) (N := 12) hx hb hal in_St hown hK hP 0 rfl rfl 2 (by decide) (hal _ kw_205) (fun _ h9 => h9) rfl d_St_has_6 ?_
    refine lv_icmp_ge (tgt := 16) hx hb d_St_has_9 (by decide) (fun c_2 => ?_) (fun c_2 => ?_)
    · have h := ifp (c_2) h
      refine lv_iconst (v := 0) hx hb d_St_has_16 (by decide) ?_
      exact W.zret (v := (0 : Int32)) hx hb hr (by decide) (fun t ht hW => ⟨⟨(0 : Int32), (), rfl, Option.some.inj h, by rw [ht]; exact hP, va_K.moved hW.alike hK, hD⟩, hS.F ht⟩) hS.2.2 d_St_has_17
    · have h := ifn (c_2) h
      refine lv_iconst (v := 1) hx hb d_St_has_12 (by decide) ?_
      refine lv_goto (tgt := 17) hx hb d_St_has_13 (by decide) ?_
      exact W.zret (v := (1 : Int32)) hx hb hr (by decide) (fun t ht hW => ⟨⟨(1 : Int32), (), rfl, Option.some.inj h, by rw [ht]; exact hP, va_K.moved hW.alike hK, hD⟩, hS.F ht⟩) hS.2.2 d_St_has_17
def wd_St_standsHigher (cA : Nat → ClassId) (a_k a_t : Nat → Nat) (t_known : Int32) (t_count : Int32) (t_lastA : Int64) (t_lastB : Int64) (t_found : Int32) (t_foundA : Int64) (t_foundB : Int64) (t_foundCode : Int64) : va_W := [(a_t 0, .inr (5, [.ref (a_k 0), .int t_known, .int t_count, .ref (a_t 1), .ref (a_t 2), .ref (a_t 3), .long t_lastA, .long t_lastB, .int t_found, .long t_foundA, .long t_foundB, .long t_foundCode]))]
noncomputable def m_St_standsHigher (t_found : Int32) (t_foundA : Int64) (t_foundB : Int64) (v1 : Int64) (v3 : Int64) : Option Int32 :=
  (if t_found = 0 then some (1 : Int32) else (if t_foundA < v1 then some (1 : Int32) else (if v1 = t_foundA then (if t_foundB ≤ v3 then some (0 : Int32) else some (1 : Int32)) else some (0 : Int32))))
set_option maxHeartbeats 4000000 in
set_option maxRecDepth 100000 in
theorem c_St_standsHigher (l : Launch) (D : va_G) (cA : Nat → ClassId) (a_k a_t : Nat → Nat) (sz : Nat) (t_known : Int32) (t_count : Int32) (t_lastA : Int64) (t_lastB : Int64) (t_found : Int32) (t_foundA : Int64) (t_foundB : Int64) (t_foundCode : Int64) (v1 : Int64) (v3 : Int64) (out : Int32) (h : m_St_standsHigher t_found t_foundA t_foundB v1 v3 = some out) : Met l y_St_standsHigher w_St_standsHigher ({ frames := 0, cells := 0, slots := 0, locals := 0 }) (va_Pc [.ref (a_t 0), .long v1, .long v3] (fun U => U.heap.size = sz ∧ va_P D cls9 (wd_St_standsHigher cA a_k a_t t_known t_count t_lastA t_lastB t_found t_foundA t_foundB t_foundCode) U.heap ∧ va_K D cls9 (tys5 cA) U ∧ va_D (fun _ => True) (wd_St_standsHigher cA a_k a_t t_known t_count t_lastA t_lastB t_found t_foundA t_foundB t_foundCode))) (va_Qi (fun (rr : Int32) (uu : Unit) => rr = out) (fun (uu : Unit) (t : State) => va_P D cls9 (wd_St_standsHigher cA a_k a_t t_known t_count t_lastA t_lastB t_found t_foundA t_foundB t_foundCode) t.heap ∧ va_K D cls9 (tys5 cA) t ∧ va_D (va_A (wd_St_standsHigher cA a_k a_t t_known t_count t_lastA t_lastB t_found t_foundA t_foundB t_foundCode) sz) (wd_St_standsHigher cA a_k a_t t_known t_count t_lastA t_lastB t_found t_foundA t_foundB t_foundCode)) (va_A (wd_St_standsHigher cA a_k a_t t_known t_count t_lastA t_lastB t_found t_foundA t_foundB t_foundCode) sz)) 0 0 (va_A (wd_St_standsHigher cA a_k a_t t_known t_count t_lastA t_lastB t_found t_foundA t_foundB t_foundCode) sz) := by
  refine Met.ofW (cc := b_St_standsHigher) (maxL := 5) (ret := (Option.some Jvm.ClassFile.FieldType.boolean)) (by decide) rfl ?_
  intro p e s m args below meth c s₁ B hml hv
  obtain ⟨rfl, hsz, hP, hK, hD0⟩ := hv
  have hx := B.exec
  have hb := B.bytes
  have hr := B.returns
  have hts := atoms_spec (ws := w_St_standsHigher) B.pre
  have hal : ∀ w ∈ ALLW, w.before _ s = true := fun w hw => hts w (List.mem_cons_of_mem _ hw)
  have hown : s.vm.findClass R_St = some m.cls := findClass_of_methodNamed B.named
  have hlocks := B.notSynchronized
  subst hsz
  have hD := hD0.self (sz := s.heap.size)
  generalize hAe : va_A (wd_St_standsHigher cA a_k a_t t_known t_count t_lastA t_lastB t_found t_foundA t_foundB t_foundCode) s.heap.size = A at hD ⊢
  have hA : ∀ q : Nat, s.heap.size ≤ q → A q := fun q h => by rw [← hAe]; exact Or.inr h
  have hS : va_S A s.heap s.heap [] := va_S.rf
  have hl := lv_entry ([.ref (a_t 0), .long v1, .long v3]) (n := 5) (Nat.le_of_ble_eq_true rfl)
  rw [lg_entry_eq]
  generalize (lg_sl ([.ref (a_t 0), .long v1, .long v3]) ++ List.replicate (5 - (lg_sl ([.ref (a_t 0), .long v1, .long v3])).length) Slot.unset).toArray = ls at hl ⊢
  have hl : lv_has ls 5 [(0, .ref (a_t 0)), (1, .long v1), (3, .long v3)] := hl
  refine wg (fun G hG => ?_)
  refine cast (hG _ _ _ _ _ _ _).symm ?_
  obtain ⟨H, locs, hHl, hS⟩ : ∃ (H : Heap) (locs : List Loc), (H = s.heap ∧ locs = []) ∧ va_S A s.heap H locs := ⟨s.heap, [], ⟨rfl, rfl⟩, hS⟩
  have hP : va_P D cls9 (wd_St_standsHigher cA a_k a_t t_known t_count t_lastA t_lastB t_found t_foundA t_foundB t_foundCode) H := by rw [hHl.1]; exact hP
  rw [← hHl.1, ← hHl.2]
  clear hHl
  refine lv_aload_n hx hb d_St_standsHigher_0 rfl (lv_at hl 0 rfl) ?_
  refine va_get (ci := 5) (v := .int t_found) (C := R_St) (T := F_St) (N := 12) hx hb hal in_St hown hK hP 0 rfl rfl 8 (by decide) (hal _ kw_215) (fun _ h9 => h9) rfl d_St_standsHigher_1 ?_
  refine lv_if_eq (tgt := 34) hx hb d_St_standsHigher_4 (by decide) (fun c_1 => ?_) (fun c_1 => ?_)
  · have h := ifp (c_1) h
    refine lv_iconst (v := 1) hx hb d_St_standsHigher_34 (by decide) ?_
    refine lv_goto (tgt := 39) hx hb d_St_standsHigher_35 (by decide) ?_
    exact W.zret (v := (1 : Int32)) hx hb hr (by decide) (fun t ht hW => ⟨⟨(1 : Int32), (), rfl, Option.some.inj h, by rw [ht]; exact hP, va_K.moved hW.alike hK, hD⟩, hS.F ht⟩) hS.2.2 d_St_standsHigher_39
  · have h := ifn (c_1) h
    refine lv_lload_n hx hb d_St_standsHigher_7 rfl (lv_at hl 1 rfl) ?_
    refine lv_aload_n hx hb d_St_standsHigher_8 rfl (lv_at hl 0 rfl) ?_
    refine va_get (ci := 5) (v := .long t_foundA) (C := R_St) (T := F_St) (N := 12) hx hb hal in_St hown hK hP 0 rfl rfl 9 (by decide) (hal _ kw_216) (fun _ h9 => h9) rfl d_St_standsHigher_9 ?_
    refine W.lcmp hx hb d_St_standsHigher_12 ?_
    refine lv_if_gt (tgt := 34) hx hb d_St_standsHigher_13 (by decide) (fun c_2 => ?_) (fun c_2 => ?_)
    · have h := ifp (lc_gt.mp (c_2)) h
      refine lv_iconst (v := 1) hx hb d_St_standsHigher_34 (by decide) ?_
      refine lv_goto (tgt := 39) hx hb d_St_standsHigher_35 (by decide) ?_
      exact W.zret (v := (1 : Int32)) hx hb hr (by decide) (fun t ht hW => ⟨⟨(1 : Int32), (), rfl, Option.some.inj h, by rw [ht]; exact hP, va_K.moved hW.alike hK, hD⟩, hS.F ht⟩) hS.2.2 d_St_standsHigher_39
    · have h := ifn (fun q => (c_2) (lc_gt.mpr q)) h
      refine lv_lload_n hx hb d_St_standsHigher_16 rfl (lv_at hl 1 rfl) ?_
      refine lv_aload_n hx hb d_St_standsHigher_17 rfl (lv_at hl 0 rfl) ?_
      refine va_get (ci := 5) (v := .long t_foundA) (C := R_St) (T := F_St) (N := 12) hx hb hal in_St hown hK hP 0 rfl rfl 9 (by decide) (hal _ kw_216) (fun _ h9 => h9) rfl d_St_standsHigher_18 ?_
      refine W.lcmp hx hb d_St_standsHigher_21 ?_
      refine lv_if_ne (tgt := 38) hx hb d_St_standsHigher_22 (by decide) (fun c_3 => ?_) (fun c_3 => ?_)
      · have h := ifn (fun q => (c_3) (lc_eq.mpr q)) h
        refine lv_iconst (v := 0) hx hb d_St_standsHigher_38 (by decide) ?_
        exact W.zret (v := (0 : Int32)) hx hb hr (by decide) (fun t ht hW => ⟨⟨(0 : Int32), (), rfl, Option.some.inj h, by rw [ht]; exact hP, va_K.moved hW.alike hK, hD⟩, hS.F ht⟩) hS.2.2 d_St_standsHigher_39
      · have h := ifp (lc_eq.mp (c_3)) h
        refine lv_lload_n hx hb d_St_standsHigher_25 rfl (lv_at hl 2 rfl) ?_
        refine lv_aload_n hx hb d_St_standsHigher_26 rfl (lv_at hl 0 rfl) ?_
        refine va_get (ci := 5) (v := .long t_foundB) (C := R_St) (T := F_St) (N := 12) hx hb hal in_St hown hK hP 0 rfl rfl 10 (by decide) (hal _ kw_217) (fun _ h9 => h9) rfl d_St_standsHigher_27 ?_
        refine W.lcmp hx hb d_St_standsHigher_30 ?_
        refine lv_if_ge (tgt := 38) hx hb d_St_standsHigher_31 (by decide) (fun c_4 => ?_) (fun c_4 => ?_)
        · have h := ifp (lc_ge.mp (c_4)) h
          refine lv_iconst (v := 0) hx hb d_St_standsHigher_38 (by decide) ?_
          exact W.zret (v := (0 : Int32)) hx hb hr (by decide) (fun t ht hW => ⟨⟨(0 : Int32), (), rfl, Option.some.inj h, by rw [ht]; exact hP, va_K.moved hW.alike hK, hD⟩, hS.F ht⟩) hS.2.2 d_St_standsHigher_39
        · have h := ifn (fun q => (c_4) (lc_ge.mpr q)) h
          refine lv_iconst (v := 1) hx hb d_St_standsHigher_34 (by decide) ?_
          refine lv_goto (tgt := 39) hx hb d_St_standsHigher_35 (by decide) ?_
          exact W.zret (v := (1 : Int32)) hx hb hr (by decide) (fun t ht hW => ⟨⟨(1 : Int32), (), rfl, Option.some.inj h, by rw [ht]; exact hP, va_K.moved hW.alike hK, hD⟩, hS.F ht⟩) hS.2.2 d_St_standsHigher_39
def wd_St_comesSooner (cA : Nat → ClassId) (a_k a_t : Nat → Nat) (t_known : Int32) (t_count : Int32) (t_lastA : Int64) (t_lastB : Int64) (t_found : Int32) (t_foundA : Int64) (t_foundB : Int64) (t_foundCode : Int64) : va_W := [(a_t 0, .inr (5, [.ref (a_k 0), .int t_known, .int t_count, .ref (a_t 1), .ref (a_t 2), .ref (a_t 3), .long t_lastA, .long t_lastB, .int t_found, .long t_foundA, .long t_foundB, .long t_foundCode]))]
noncomputable def m_St_comesSooner (t_lastA : Int64) (t_lastB : Int64) (t_found : Int32) (t_foundA : Int64) (t_foundB : Int64) (v1 : Int64) (v3 : Int64) : Option Int32 :=
  (if v3 < t_lastB then (if t_found = 0 then some (1 : Int32) else (if ((t_lastA - v1) * (t_lastB - t_foundB)) < ((t_lastA - t_foundA) * (t_lastB - v3)) then some (1 : Int32) else (if ((t_lastA - v1) * (t_lastB - t_foundB)) = ((t_lastA - t_foundA) * (t_lastB - v3)) then (if t_foundB ≤ v3 then some (0 : Int32) else some (1 : Int32)) else some (0 : Int32)))) else some (0 : Int32))
set_option maxHeartbeats 4000000 in
set_option maxRecDepth 100000 in
theorem c_St_comesSooner (l : Launch) (D : va_G) (cA : Nat → ClassId) (a_k a_t : Nat → Nat) (sz : Nat) (t_known : Int32) (t_count : Int32) (t_lastA : Int64) (t_lastB : Int64) (t_found : Int32) (t_foundA : Int64) (t_foundB : Int64) (t_foundCode : Int64) (v1 : Int64) (v3 : Int64) (out : Int32) (h : m_St_comesSooner t_lastA t_lastB t_found t_foundA t_foundB v1 v3 = some out) : Met l y_St_comesSooner w_St_comesSooner ({ frames := 0, cells := 0, slots := 0, locals := 0 }) (va_Pc [.ref (a_t 0), .long v1, .long v3] (fun U => U.heap.size = sz ∧ va_P D cls9 (wd_St_comesSooner cA a_k a_t t_known t_count t_lastA t_lastB t_found t_foundA t_foundB t_foundCode) U.heap ∧ va_K D cls9 (tys5 cA) U ∧ va_D (fun _ => True) (wd_St_comesSooner cA a_k a_t t_known t_count t_lastA t_lastB t_found t_foundA t_foundB t_foundCode))) (va_Qi (fun (rr : Int32) (uu : Unit) => rr = out) (fun (uu : Unit) (t : State) => va_P D cls9 (wd_St_comesSooner cA a_k a_t t_known t_count t_lastA t_lastB t_found t_foundA t_foundB t_foundCode) t.heap ∧ va_K D cls9 (tys5 cA) t ∧ va_D (va_A (wd_St_comesSooner cA a_k a_t t_known t_count t_lastA t_lastB t_found t_foundA t_foundB t_foundCode) sz) (wd_St_comesSooner cA a_k a_t t_known t_count t_lastA t_lastB t_found t_foundA t_foundB t_foundCode)) (va_A (wd_St_comesSooner cA a_k a_t t_known t_count t_lastA t_lastB t_found t_foundA t_foundB t_foundCode) sz)) 0 0 (va_A (wd_St_comesSooner cA a_k a_t t_known t_count t_lastA t_lastB t_found t_foundA t_foundB t_foundCode) sz) := by
  refine Met.ofW (cc := b_St_comesSooner) (maxL := 9) (ret := (Option.some Jvm.ClassFile.FieldType.boolean)) (by decide) rfl ?_
  intro p e s m args below meth c s₁ B hml hv
  obtain ⟨rfl, hsz, hP, hK, hD0⟩ := hv
  have hx := B.exec
  have hb := B.bytes
  have hr := B.returns
  have hts := atoms_spec (ws := w_St_comesSooner) B.pre
  have hal : ∀ w ∈ ALLW, w.before _ s = true := fun w hw => hts w (List.mem_cons_of_mem _ hw)
  have hown : s.vm.findClass R_St = some m.cls := findClass_of_methodNamed B.named
  have hlocks := B.notSynchronized
  subst hsz
  have hD := hD0.self (sz := s.heap.size)
  generalize hAe : va_A (wd_St_comesSooner cA a_k a_t t_known t_count t_lastA t_lastB t_found t_foundA t_foundB t_foundCode) s.heap.size = A at hD ⊢
  have hA : ∀ q : Nat, s.heap.size ≤ q → A q := fun q h => by rw [← hAe]; exact Or.inr h
  have hS : va_S A s.heap s.heap [] := va_S.rf
  have hl := lv_entry ([.ref (a_t 0), .long v1, .long v3]) (n := 9) (Nat.le_of_ble_eq_true rfl)
  rw [lg_entry_eq]
  generalize (lg_sl ([.ref (a_t 0), .long v1, .long v3]) ++ List.replicate (9 - (lg_sl ([.ref (a_t 0), .long v1, .long v3])).length) Slot.unset).toArray = ls at hl ⊢
  have hl : lv_has ls 9 [(0, .ref (a_t 0)), (1, .long v1), (3, .long v3)] := hl
  refine wg (fun G hG => ?_)
  refine cast (hG _ _ _ _ _ _ _).symm ?_
  obtain ⟨H, locs, hHl, hS⟩ : ∃ (H : Heap) (locs : List Loc), (H = s.heap ∧ locs = []) ∧ va_S A s.heap H locs := ⟨s.heap, [], ⟨rfl, rfl⟩, hS⟩
  have hP : va_P D cls9 (wd_St_comesSooner cA a_k a_t t_known t_count t_lastA t_lastB t_found t_foundA t_foundB t_foundCode) H := by rw [hHl.1]; exact hP
  rw [← hHl.1, ← hHl.2]
  clear hHl
  refine lv_lload_n hx hb d_St_comesSooner_0 rfl (lv_at hl 2 rfl) ?_
  refine lv_aload_n hx hb d_St_comesSooner_1 rfl (lv_at hl 0 rfl) ?_
  refine va_get (ci := 5) (v := .long t_lastB) (C := R_St) (T := F_St) (N := 12) hx hb hal in_St hown hK hP 0 rfl rfl 7 (by decide) (hal _ kw_214) (fun _ h9 => h9) rfl d_St_comesSooner_2 ?_
  refine W.lcmp hx hb d_St_comesSooner_5 ?_
  refine lv_if_lt (tgt := 11) hx hb d_St_comesSooner_6 (by decide) (fun c_1 => ?_) (fun c_1 => ?_)
  · have h := ifp (lc_lt.mp (c_1)) h
    refine lv_aload_n hx hb d_St_comesSooner_11 rfl (lv_at hl 0 rfl) ?_
    refine va_get (ci := 5) (v := .int t_found) (C := R_St) (T := F_St) (N := 12) hx hb hal in_St hown hK hP 0 rfl rfl 8 (by decide) (hal _ kw_215) (fun _ h9 => h9) rfl d_St_comesSooner_12 ?_
    refine lv_if_ne (tgt := 20) hx hb d_St_comesSooner_15 (by decide) (fun c_2 => ?_) (fun c_2 => ?_)
    · have h := ifn (c_2) h
      refine lv_aload_n hx hb d_St_comesSooner_20 rfl (lv_at hl 0 rfl) ?_
      refine va_get (ci := 5) (v := .long t_lastA) (C := R_St) (T := F_St) (N := 12) hx hb hal in_St hown hK hP 0 rfl rfl 6 (by decide) (hal _ kw_213) (fun _ h9 => h9) rfl d_St_comesSooner_21 ?_
      refine lv_lload_n hx hb d_St_comesSooner_24 rfl (lv_at hl 1 rfl) ?_
      refine lv_lsub hx hb d_St_comesSooner_25 ?_
      refine lv_aload_n hx hb d_St_comesSooner_26 rfl (lv_at hl 0 rfl) ?_
      refine va_get (ci := 5) (v := .long t_lastB) (C := R_St) (T := F_St) (N := 12) hx hb hal in_St hown hK hP 0 rfl rfl 7 (by decide) (hal _ kw_214) (fun _ h9 => h9) rfl d_St_comesSooner_27 ?_
      refine lv_aload_n hx hb d_St_comesSooner_30 rfl (lv_at hl 0 rfl) ?_
      refine va_get (ci := 5) (v := .long t_foundB) (C := R_St) (T := F_St) (N := 12) hx hb hal in_St hown hK hP 0 rfl rfl 10 (by decide) (hal _ kw_217) (fun _ h9 => h9) rfl d_St_comesSooner_31 ?_
      refine lv_lsub hx hb d_St_comesSooner_34 ?_
      refine lv_lmul hx hb d_St_comesSooner_35 ?_
      refine lv_lstore (lv' := [(5, .long ((t_lastA - v1) * (t_lastB - t_foundB))), (0, .ref (a_t 0)), (1, .long v1), (3, .long v3)]) hx hb d_St_comesSooner_36 hl (by decide) rfl (fun ls hl => ?_)
      refine lv_aload_n hx hb d_St_comesSooner_38 rfl (lv_at hl 1 rfl) ?_
      refine va_get (ci := 5) (v := .long t_lastA) (C := R_St) (T := F_St) (N := 12) hx hb hal in_St hown hK hP 0 rfl rfl 6 (by decide) (hal _ kw_213) (fun _ h9 => h9) rfl d_St_comesSooner_39 ?_
      refine lv_aload_n hx hb d_St_comesSooner_42 rfl (lv_at hl 1 rfl) ?_
      refine va_get (ci := 5) (v := .long t_foundA) (C := R_St) (T := F_St) (N := 12) hx hb hal in_St hown hK hP 0 rfl rfl 9 (by decide) (hal _ kw_216) (fun _ h9 => h9) rfl d_St_comesSooner_43 ?_
      refine lv_lsub hx hb d_St_comesSooner_46 ?_
      refine lv_aload_n hx hb d_St_comesSooner_47 rfl (lv_at hl 1 rfl) ?_
      refine va_get (ci := 5) (v := .long t_lastB) (C := R_St) (T := F_St) (N := 12) hx hb hal in_St hown hK hP 0 rfl rfl 7 (by decide) (hal _ kw_214) (fun _ h9 => h9) rfl d_St_comesSooner_48 ?_
      refine lv_lload_n hx hb d_St_comesSooner_51 rfl (lv_at hl 3 rfl) ?_
      refine lv_lsub hx hb d_St_comesSooner_52 ?_
      refine lv_lmul hx hb d_St_comesSooner_53 ?_
      refine lv_lstore (lv' := [(7, .long ((t_lastA - t_foundA) * (t_lastB - v3))), (5, .long ((t_lastA - v1) * (t_lastB - t_foundB))), (0, .ref (a_t 0)), (1, .long v1), (3, .long v3)]) hx hb d_St_comesSooner_54 hl (by decide) rfl (fun ls hl => ?_)
      refine lv_lload hx hb d_St_comesSooner_56 (lv_at hl 1 rfl) ?_
      refine lv_lload hx hb d_St_comesSooner_58 (lv_at hl 0 rfl) ?_
      refine W.lcmp hx hb d_St_comesSooner_60 ?_
      refine lv_if_lt (tgt := 81) hx hb d_St_comesSooner_61 (by decide) (fun c_3 => ?_) (fun c_3 => ?_)
      · have h := ifp (lc_lt.mp (c_3)) h
        refine lv_iconst (v := 1) hx hb d_St_comesSooner_81 (by decide) ?_
        refine lv_goto (tgt := 86) hx hb d_St_comesSooner_82 (by decide) ?_
        exact W.zret (v := (1 : Int32)) hx hb hr (by decide) (fun t ht hW => ⟨⟨(1 : Int32), (), rfl, Option.some.inj h, by rw [ht]; exact hP, va_K.moved hW.alike hK, hD⟩, hS.F ht⟩) hS.2.2 d_St_comesSooner_86
      · have h := ifn (fun q => (c_3) (lc_lt.mpr q)) h
        refine lv_lload hx hb d_St_comesSooner_64 (lv_at hl 1 rfl) ?_
        refine lv_lload hx hb d_St_comesSooner_66 (lv_at hl 0 rfl) ?_
        refine W.lcmp hx hb d_St_comesSooner_68 ?_
        refine lv_if_ne (tgt := 85) hx hb d_St_comesSooner_69 (by decide) (fun c_4 => ?_) (fun c_4 => ?_)
        · have h := ifn (fun q => (c_4) (lc_eq.mpr q)) h
          refine lv_iconst (v := 0) hx hb d_St_comesSooner_85 (by decide) ?_
          exact W.zret (v := (0 : Int32)) hx hb hr (by decide) (fun t ht hW => ⟨⟨(0 : Int32), (), rfl, Option.some.inj h, by rw [ht]; exact hP, va_K.moved hW.alike hK, hD⟩, hS.F ht⟩) hS.2.2 d_St_comesSooner_86
        · have h := ifp (lc_eq.mp (c_4)) h
          refine lv_lload_n hx hb d_St_comesSooner_72 rfl (lv_at hl 4 rfl) ?_
          refine lv_aload_n hx hb d_St_comesSooner_73 rfl (lv_at hl 2 rfl) ?_
          refine va_get (ci := 5) (v := .long t_foundB) (C := R_St) (T := F_St) (N := 12) hx hb hal in_St hown hK hP 0 rfl rfl 10 (by decide) (hal _ kw_217) (fun _ h9 => h9) rfl d_St_comesSooner_74 ?_
          refine W.lcmp hx hb d_St_comesSooner_77 ?_
          refine lv_if_ge (tgt := 85) hx hb d_St_comesSooner_78 (by decide) (fun c_5 => ?_) (fun c_5 => ?_)
          · have h := ifp (lc_ge.mp (c_5)) h
            refine lv_iconst (v := 0) hx hb d_St_comesSooner_85 (by decide) ?_
            exact W.zret (v := (0 : Int32)) hx hb hr (by decide) (fun t ht hW => ⟨⟨(0 : Int32), (), rfl, Option.some.inj h, by rw [ht]; exact hP, va_K.moved hW.alike hK, hD⟩, hS.F ht⟩) hS.2.2 d_St_comesSooner_86
          · have h := ifn (fun q => (c_5) (lc_ge.mpr q)) h
            refine lv_iconst (v := 1) hx hb d_St_comesSooner_81 (by decide) ?_
            refine lv_goto (tgt := 86) hx hb d_St_comesSooner_82 (by decide) ?_
            exact W.zret (v := (1 : Int32)) hx hb hr (by decide) (fun t ht hW => ⟨⟨(1 : Int32), (), rfl, Option.some.inj h, by rw [ht]; exact hP, va_K.moved hW.alike hK, hD⟩, hS.F ht⟩) hS.2.2 d_St_comesSooner_86
    · have h := ifp (c_2) h
      refine lv_iconst (v := 1) hx hb d_St_comesSooner_18 (by decide) ?_
      exact W.zret (v := (1 : Int32)) hx hb hr (by decide) (fun t ht hW => ⟨⟨(1 : Int32), (), rfl, Option.some.inj h, by rw [ht]; exact hP, va_K.moved hW.alike hK, hD⟩, hS.F ht⟩) hS.2.2 d_St_comesSooner_19
  · have h := ifn (fun q => (c_1) (lc_lt.mpr q)) h
    refine lv_iconst (v := 0) hx hb d_St_comesSooner_9 (by decide) ?_
    exact W.zret (v := (0 : Int32)) hx hb hr (by decide) (fun t ht hW => ⟨⟨(0 : Int32), (), rfl, Option.some.inj h, by rw [ht]; exact hP, va_K.moved hW.alike hK, hD⟩, hS.F ht⟩) hS.2.2 d_St_comesSooner_10
def wd_St_note (cA : Nat → ClassId) (a_n a_k a_t : Nat → Nat) (n_x : Int32) (n_y : Int32) (n_nodes : Int32) (n_aloneB : Int64) (k_groups : Nat → Int32) (t_known : Int32) (t_count : Int32) (t_lastA : Int64) (t_lastB : Int64) (t_found : Int32) (t_foundA : Int64) (t_foundB : Int64) (t_foundCode : Int64) : va_W := [(a_n 0, .inr (0, [.int n_x, .int n_y, .int n_nodes, .long n_aloneB, .ref (a_n 1), .ref (a_n 11), .ref (a_n 21), .ref (a_n 31), .ref (a_n 32)])), (a_k 0, .inr (6, [.ref (a_n 0), .ref (a_k 1), .ref (a_k 2), .ref (a_k 3), .ref (a_k 4), .ref (a_k 5), .ref (a_k 15)])), (a_k 1, .inl (cA 0, 9, .inl k_groups)), (a_t 0, .inr (5, [.ref (a_k 0), .int t_known, .int t_count, .ref (a_t 1), .ref (a_t 2), .ref (a_t 3), .long t_lastA, .long t_lastB, .int t_found, .long t_foundA, .long t_foundB, .long t_foundCode]))]
noncomputable def m_St_note (n_nodes : Int32) (k_groups : Nat → Int32) (v1 : Int64) (v3 : Int64) : Option (Int32 × Int64 × Int64 × Int64) :=
  ((m_Wa_code n_nodes k_groups).bind (fun r20 : Int64 => some ((1 : Int32), v1, v3, r20)))
set_option maxHeartbeats 4000000 in
set_option maxRecDepth 100000 in
theorem c_St_note (l : Launch) (D : va_G) (cA : Nat → ClassId) (a_n a_k a_t : Nat → Nat) (sz : Nat) (n_x : Int32) (n_y : Int32) (n_nodes : Int32) (n_aloneB : Int64) (k_groups : Nat → Int32) (t_known : Int32) (t_count : Int32) (t_lastA : Int64) (t_lastB : Int64) (t_found : Int32) (t_foundA : Int64) (t_foundB : Int64) (t_foundCode : Int64) (v1 : Int64) (v3 : Int64) (out : Int32 × Int64 × Int64 × Int64) (h : m_St_note n_nodes k_groups v1 v3 = some out) : Met l y_St_note w_St_note ({ frames := 1, cells := 0, slots := 0, locals := 23 }) (va_Pc [.ref (a_t 0), .long v1, .long v3] (fun U => U.heap.size = sz ∧ va_P D cls9 (wd_St_note cA a_n a_k a_t n_x n_y n_nodes n_aloneB k_groups t_known t_count t_lastA t_lastB t_found t_foundA t_foundB t_foundCode) U.heap ∧ va_K D cls9 (tys5 cA) U ∧ va_D (fun _ => True) (wd_St_note cA a_n a_k a_t n_x n_y n_nodes n_aloneB k_groups t_known t_count t_lastA t_lastB t_found t_foundA t_foundB t_foundCode))) (va_Qv (fun uu : Int32 × Int64 × Int64 × Int64 => uu = out) (fun (uu : Int32 × Int64 × Int64 × Int64) (t : State) => va_P D cls9 (wd_St_note cA a_n a_k a_t n_x n_y n_nodes n_aloneB k_groups t_known t_count t_lastA t_lastB uu.1 uu.2.1 uu.2.2.1 uu.2.2.2) t.heap ∧ va_K D cls9 (tys5 cA) t ∧ va_D (va_A (wd_St_note cA a_n a_k a_t n_x n_y n_nodes n_aloneB k_groups t_known t_count t_lastA t_lastB t_found t_foundA t_foundB t_foundCode) sz) (wd_St_note cA a_n a_k a_t n_x n_y n_nodes n_aloneB k_groups t_known t_count t_lastA t_lastB uu.1 uu.2.1 uu.2.2.1 uu.2.2.2)) (va_A (wd_St_note cA a_n a_k a_t n_x n_y n_nodes n_aloneB k_groups t_known t_count t_lastA t_lastB t_found t_foundA t_foundB t_foundCode) sz)) 0 0 (va_A (wd_St_note cA a_n a_k a_t n_x n_y n_nodes n_aloneB k_groups t_known t_count t_lastA t_lastB t_found t_foundA t_foundB t_foundCode) sz) := by
  refine Met.ofW (cc := b_St_note) (maxL := 5) (ret := (Option.none : Option Jvm.ClassFile.FieldType)) (by decide) rfl ?_
  intro p e s m args below meth c s₁ B hml hv
  obtain ⟨rfl, hsz, hP, hK, hD0⟩ := hv
  have hx := B.exec
  have hb := B.bytes
  have hr := B.returns
  have hts := atoms_spec (ws := w_St_note) B.pre
  have hal : ∀ w ∈ ALLW, w.before _ s = true := fun w hw => hts w (List.mem_cons_of_mem _ hw)
  have hown : s.vm.findClass R_St = some m.cls := findClass_of_methodNamed B.named
  have hlocks := B.notSynchronized
  subst hsz
  have hD := hD0.self (sz := s.heap.size)
  generalize hAe : va_A (wd_St_note cA a_n a_k a_t n_x n_y n_nodes n_aloneB k_groups t_known t_count t_lastA t_lastB t_found t_foundA t_foundB t_foundCode) s.heap.size = A at hD ⊢
  have hA : ∀ q : Nat, s.heap.size ≤ q → A q := fun q h => by rw [← hAe]; exact Or.inr h
  have hS : va_S A s.heap s.heap [] := va_S.rf
  have hl := lv_entry ([.ref (a_t 0), .long v1, .long v3]) (n := 5) (Nat.le_of_ble_eq_true rfl)
  rw [lg_entry_eq]
  generalize (lg_sl ([.ref (a_t 0), .long v1, .long v3]) ++ List.replicate (5 - (lg_sl ([.ref (a_t 0), .long v1, .long v3])).length) Slot.unset).toArray = ls at hl ⊢
  have hl : lv_has ls 5 [(0, .ref (a_t 0)), (1, .long v1), (3, .long v3)] := hl
  refine wg (fun G hG => ?_)
  refine cast (hG _ _ _ _ _ _ _).symm ?_
  obtain ⟨H, locs, hHl, hS⟩ : ∃ (H : Heap) (locs : List Loc), (H = s.heap ∧ locs = []) ∧ va_S A s.heap H locs := ⟨s.heap, [], ⟨rfl, rfl⟩, hS⟩
  have hP : va_P D cls9 (wd_St_note cA a_n a_k a_t n_x n_y n_nodes n_aloneB k_groups t_known t_count t_lastA t_lastB t_found t_foundA t_foundB t_foundCode) H := by rw [hHl.1]; exact hP
  rw [← hHl.1, ← hHl.2]
  clear hHl
  refine lv_aload_n hx hb d_St_note_0 rfl (lv_at hl 0 rfl) ?_
  refine lv_iconst (v := 1) hx hb d_St_note_1 (by decide) ?_
  refine va_put (ci := 5) (v := .int (1 : Int32)) (ty := .boolean) (C := R_St) (T := F_St) (N := 12) hx hb hal in_St t_St t_St_ok n_St hown hK hP hD hS 3 rfl rfl 8 (by decide) (hal _ kw_215) (fun _ h9 => h9) rfl (by decide +kernel) (by decide) (by decide) (Nat.le_of_ble_eq_true rfl) d_St_note_2 (fun H locs hP hD hS => ?_)
  have hP : va_P D cls9 (wd_St_note cA a_n a_k a_t n_x n_y n_nodes n_aloneB k_groups t_known t_count t_lastA t_lastB (1 : Int32) t_foundA t_foundB t_foundCode) H := hP
  have hD : va_D A (wd_St_note cA a_n a_k a_t n_x n_y n_nodes n_aloneB k_groups t_known t_count t_lastA t_lastB (1 : Int32) t_foundA t_foundB t_foundCode) := hD
  refine lv_aload_n hx hb d_St_note_5 rfl (lv_at hl 0 rfl) ?_
  refine lv_lload_n hx hb d_St_note_6 rfl (lv_at hl 1 rfl) ?_
  refine va_put (ci := 5) (v := .long v1) (ty := .long) (C := R_St) (T := F_St) (N := 12) hx hb hal in_St t_St t_St_ok n_St hown hK hP hD hS 3 rfl rfl 9 (by decide) (hal _ kw_216) (fun _ h9 => h9) rfl (by decide +kernel) rfl rfl (Nat.le_of_ble_eq_true rfl) d_St_note_7 (fun H locs hP hD hS => ?_)
  have hP : va_P D cls9 (wd_St_note cA a_n a_k a_t n_x n_y n_nodes n_aloneB k_groups t_known t_count t_lastA t_lastB (1 : Int32) v1 t_foundB t_foundCode) H := hP
  have hD : va_D A (wd_St_note cA a_n a_k a_t n_x n_y n_nodes n_aloneB k_groups t_known t_count t_lastA t_lastB (1 : Int32) v1 t_foundB t_foundCode) := hD
  refine lv_aload_n hx hb d_St_note_10 rfl (lv_at hl 0 rfl) ?_
  refine lv_lload_n hx hb d_St_note_11 rfl (lv_at hl 2 rfl) ?_
  refine va_put (ci := 5) (v := .long v3) (ty := .long) (C := R_St) (T := F_St) (N := 12) hx hb hal in_St t_St t_St_ok n_St hown hK hP hD hS 3 rfl rfl 10 (by decide) (hal _ kw_217) (fun _ h9 => h9) rfl (by decide +kernel) rfl rfl (Nat.le_of_ble_eq_true rfl) d_St_note_12 (fun H locs hP hD hS => ?_)
  have hP : va_P D cls9 (wd_St_note cA a_n a_k a_t n_x n_y n_nodes n_aloneB k_groups t_known t_count t_lastA t_lastB (1 : Int32) v1 v3 t_foundCode) H := hP
  have hD : va_D A (wd_St_note cA a_n a_k a_t n_x n_y n_nodes n_aloneB k_groups t_known t_count t_lastA t_lastB (1 : Int32) v1 v3 t_foundCode) := hD
  refine lv_aload_n hx hb d_St_note_15 rfl (lv_at hl 0 rfl) ?_
  refine lv_aload_n hx hb d_St_note_16 rfl (lv_at hl 0 rfl) ?_
  refine va_get (ci := 5) (v := .ref (a_k 0)) (C := R_St) (T := F_St) (N := 12) hx hb hal in_St hown hK hP 3 rfl rfl 0 (by decide) (hal _ kw_203) (fun _ h9 => h9) rfl d_St_note_17 ?_
  obtain ⟨o_4, hc_3, h⟩ := bd h
  have hPc := hP.sub (ws' := (wd_Wa_code cA a_n a_k n_x n_y n_nodes n_aloneB k_groups)) [0, 1, 2] rfl
  have hDc := hD.sub (ws' := (wd_Wa_code cA a_n a_k n_x n_y n_nodes n_aloneB k_groups)) [0, 1, 2] (by decide) rfl
  have hFc := va_free (wc := (wd_Wa_code cA a_n a_k n_x n_y n_nodes n_aloneB k_groups)) hD hS hA [0, 1, 2] rfl
  refine va_calll (va_runV (C := R_Wa) (As := []) (rest := [.ref (a_t 0)]) ⟨hx, hb, hml, hown, hal⟩ (c_Wa_code l D cA a_n a_k H.size n_x n_y n_nodes n_aloneB k_groups o_4 hc_3) (cwV 0 hal (goodV kw_585 kw_488 kw_489 kw_5 kw_490) rfl rfl rfl (by decide +kernel) ⟨Nat.le_of_ble_eq_true rfl, Nat.le_of_ble_eq_true rfl⟩) ⟨fun a U g mk q => by obtain ⟨q0, q1, qP, qK, qD⟩ := q; exact ⟨q0, q1, qP, va_K.moved (u := U) (U := U.calling g mk a) (Vm.Alike.refl U.vm) qK, qD⟩, va_recv hK hP (ci := 6) (q0 := 1) rfl rfl, fun U hU hW => ⟨rfl, by rw [hU], by rw [hU]; exact hPc, va_K.moved hW.alike hK, hDc.weaken (fun _ _ _ _ => trivial)⟩⟩ rfl rfl hl.1 rfl (lv_room (Nat.le_of_ble_eq_true rfl)) d_St_note_20 ⟨Nat.le_of_ble_eq_true rfl, Nat.le_of_ble_eq_true rfl⟩) hS (fun q _ h => hFc q h) hFc (fun r_2 u t H1 locs ht hvm hw hB hz1 hk1 hS => ?_)
  subst hw
  obtain ⟨hP1, hK1, hD1⟩ := hB
  rw [ht] at hP1
  have hP1 : va_P D cls9 (wd_Wa_code cA a_n a_k n_x n_y n_nodes n_aloneB k_groups) H1 := hP1
  obtain ⟨hP, hD⟩ := va_join (wr := ([3] : List Nat).filterMap (fun i => (wd_St_note cA a_n a_k a_t n_x n_y n_nodes n_aloneB k_groups t_known t_count t_lastA t_lastB (1 : Int32) v1 v3 t_foundCode)[i]?)) (w1 := (wd_Wa_code cA a_n a_k n_x n_y n_nodes n_aloneB k_groups)) hP hD [0, 1, 2] [3] rfl rfl (by decide) (by decide) hk1 hFc hP1 hD1
  generalize H1 = H at hP hS ⊢
  have hP : va_P D cls9 (wd_St_note cA a_n a_k a_t n_x n_y n_nodes n_aloneB k_groups t_known t_count t_lastA t_lastB (1 : Int32) v1 v3 t_foundCode) H := hP.sub [1, 2, 3, 0] rfl
  have hD : va_D A (wd_St_note cA a_n a_k a_t n_x n_y n_nodes n_aloneB k_groups t_known t_count t_lastA t_lastB (1 : Int32) v1 v3 t_foundCode) := hD.sub [1, 2, 3, 0] (by decide) rfl
  refine va_put (ci := 5) (v := .long r_2) (ty := .long) (C := R_St) (T := F_St) (N := 12) hx hb hal in_St t_St t_St_ok n_St hown hK hP hD hS 3 rfl rfl 11 (by decide) (hal _ kw_218) (fun _ h9 => h9) rfl (by decide +kernel) rfl rfl (Nat.le_of_ble_eq_true rfl) d_St_note_23 (fun H locs hP hD hS => ?_)
  have hP : va_P D cls9 (wd_St_note cA a_n a_k a_t n_x n_y n_nodes n_aloneB k_groups t_known t_count t_lastA t_lastB (1 : Int32) v1 v3 r_2) H := hP
  have hD : va_D A (wd_St_note cA a_n a_k a_t n_x n_y n_nodes n_aloneB k_groups t_known t_count t_lastA t_lastB (1 : Int32) v1 v3 r_2) := hD
  exact W.vret hx hb hr (fun t ht hW => ⟨⟨((1 : Int32), v1, v3, r_2), rfl, Option.some.inj h, by rw [ht]; exact hP, va_K.moved hW.alike hK, hD⟩, hS.F ht⟩) hS.2.2 d_St_note_26
def wd_St_scan (cA : Nat → ClassId) (a_n a_k a_t : Nat → Nat) (n_x : Int32) (n_y : Int32) (n_nodes : Int32) (n_aloneB : Int64) (n_pairA : Nat → Nat → Int64) (n_pairB : Nat → Nat → Int64) (k_groups : Nat → Int32) (k_opened : Nat → Int32) (k_sumsA : Nat → Int64) (k_sumsB : Nat → Int64) (k_bringA : Nat → Nat → Int64) (k_bringB : Nat → Nat → Int64) (t_known : Int32) (t_count : Int32) (t_lastA : Int64) (t_lastB : Int64) (t_found : Int32) (t_foundA : Int64) (t_foundB : Int64) (t_foundCode : Int64) : va_W := [(a_n 0, .inr (0, [.int n_x, .int n_y, .int n_nodes, .long n_aloneB, .ref (a_n 1), .ref (a_n 11), .ref (a_n 21), .ref (a_n 31), .ref (a_n 32)])), (a_n 1, .inl (cA 4, 9, .inr (.inr (.inr (.inr (fun i => if i < 9 then some (a_n (i + 2)) else none)))))), (a_n (0 + 2), .inl (cA 1, 9, .inr (.inl (n_pairA 0)))), (a_n (1 + 2), .inl (cA 1, 9, .inr (.inl (n_pairA 1)))), (a_n (2 + 2), .inl (cA 1, 9, .inr (.inl (n_pairA 2)))), (a_n (3 + 2), .inl (cA 1, 9, .inr (.inl (n_pairA 3)))), (a_n (4 + 2), .inl (cA 1, 9, .inr (.inl (n_pairA 4)))), (a_n (5 + 2), .inl (cA 1, 9, .inr (.inl (n_pairA 5)))), (a_n (6 + 2), .inl (cA 1, 9, .inr (.inl (n_pairA 6)))), (a_n (7 + 2), .inl (cA 1, 9, .inr (.inl (n_pairA 7)))), (a_n (8 + 2), .inl (cA 1, 9, .inr (.inl (n_pairA 8)))), (a_n 11, .inl (cA 4, 9, .inr (.inr (.inr (.inr (fun i => if i < 9 then some (a_n (i + 12)) else none)))))), (a_n (0 + 12), .inl (cA 1, 9, .inr (.inl (n_pairB 0)))), (a_n (1 + 12), .inl (cA 1, 9, .inr (.inl (n_pairB 1)))), (a_n (2 + 12), .inl (cA 1, 9, .inr (.inl (n_pairB 2)))), (a_n (3 + 12), .inl (cA 1, 9, .inr (.inl (n_pairB 3)))), (a_n (4 + 12), .inl (cA 1, 9, .inr (.inl (n_pairB 4)))), (a_n (5 + 12), .inl (cA 1, 9, .inr (.inl (n_pairB 5)))), (a_n (6 + 12), .inl (cA 1, 9, .inr (.inl (n_pairB 6)))), (a_n (7 + 12), .inl (cA 1, 9, .inr (.inl (n_pairB 7)))), (a_n (8 + 12), .inl (cA 1, 9, .inr (.inl (n_pairB 8)))), (a_k 0, .inr (6, [.ref (a_n 0), .ref (a_k 1), .ref (a_k 2), .ref (a_k 3), .ref (a_k 4), .ref (a_k 5), .ref (a_k 15)])), (a_k 1, .inl (cA 0, 9, .inl k_groups)), (a_k 2, .inl (cA 0, 10, .inl k_opened)), (a_k 3, .inl (cA 1, 10, .inr (.inl k_sumsA))), (a_k 4, .inl (cA 1, 10, .inr (.inl k_sumsB))), (a_k 5, .inl (cA 4, 9, .inr (.inr (.inr (.inr (fun i => if i < 9 then some (a_k (i + 6)) else none)))))), (a_k (0 + 6), .inl (cA 1, 9, .inr (.inl (k_bringA 0)))), (a_k (1 + 6), .inl (cA 1, 9, .inr (.inl (k_bringA 1)))), (a_k (2 + 6), .inl (cA 1, 9, .inr (.inl (k_bringA 2)))), (a_k (3 + 6), .inl (cA 1, 9, .inr (.inl (k_bringA 3)))), (a_k (4 + 6), .inl (cA 1, 9, .inr (.inl (k_bringA 4)))), (a_k (5 + 6), .inl (cA 1, 9, .inr (.inl (k_bringA 5)))), (a_k (6 + 6), .inl (cA 1, 9, .inr (.inl (k_bringA 6)))), (a_k (7 + 6), .inl (cA 1, 9, .inr (.inl (k_bringA 7)))), (a_k (8 + 6), .inl (cA 1, 9, .inr (.inl (k_bringA 8)))), (a_k 15, .inl (cA 4, 9, .inr (.inr (.inr (.inr (fun i => if i < 9 then some (a_k (i + 16)) else none)))))), (a_k (0 + 16), .inl (cA 1, 9, .inr (.inl (k_bringB 0)))), (a_k (1 + 16), .inl (cA 1, 9, .inr (.inl (k_bringB 1)))), (a_k (2 + 16), .inl (cA 1, 9, .inr (.inl (k_bringB 2)))), (a_k (3 + 16), .inl (cA 1, 9, .inr (.inl (k_bringB 3)))), (a_k (4 + 16), .inl (cA 1, 9, .inr (.inl (k_bringB 4)))), (a_k (5 + 16), .inl (cA 1, 9, .inr (.inl (k_bringB 5)))), (a_k (6 + 16), .inl (cA 1, 9, .inr (.inl (k_bringB 6)))), (a_k (7 + 16), .inl (cA 1, 9, .inr (.inl (k_bringB 7)))), (a_k (8 + 16), .inl (cA 1, 9, .inr (.inl (k_bringB 8)))), (a_t 0, .inr (5, [.ref (a_k 0), .int t_known, .int t_count, .ref (a_t 1), .ref (a_t 2), .ref (a_t 3), .long t_lastA, .long t_lastB, .int t_found, .long t_foundA, .long t_foundB, .long t_foundCode]))]
theorem row_St_scan_n_pairA {cA : Nat → ClassId} {a_n a_k a_t : Nat → Nat} {n_x : Int32} {n_y : Int32} {n_nodes : Int32} {n_aloneB : Int64} {n_pairB : Nat → Nat → Int64} {k_groups : Nat → Int32} {k_opened : Nat → Int32} {k_sumsA : Nat → Int64} {k_sumsB : Nat → Int64} {k_bringA : Nat → Nat → Int64} {k_bringB : Nat → Nat → Int64} {t_known : Int32} {t_count : Int32} {t_lastA : Int64} {t_lastB : Int64} {t_found : Int32} {t_foundA : Int64} {t_foundB : Int64} {t_foundCode : Int64} (n_pairA : Nat → Nat → Int64) (k : Nat) (hk : k < 9) : (wd_St_scan cA a_n a_k a_t n_x n_y n_nodes n_aloneB n_pairA n_pairB k_groups k_opened k_sumsA k_sumsB k_bringA k_bringB t_known t_count t_lastA t_lastB t_found t_foundA t_foundB t_foundCode)[2 + k]? = some (a_n (k + 2), .inl (cA 1, 9, .inr (.inl (n_pairA k)))) := by
  rcases lt9 hk with rfl | rfl | rfl | rfl | rfl | rfl | rfl | rfl | rfl <;> rfl
theorem set_St_scan_n_pairA {cA : Nat → ClassId} {a_n a_k a_t : Nat → Nat} {n_x : Int32} {n_y : Int32} {n_nodes : Int32} {n_aloneB : Int64} {n_pairB : Nat → Nat → Int64} {k_groups : Nat → Int32} {k_opened : Nat → Int32} {k_sumsA : Nat → Int64} {k_sumsB : Nat → Int64} {k_bringA : Nat → Nat → Int64} {k_bringB : Nat → Nat → Int64} {t_known : Int32} {t_count : Int32} {t_lastA : Int64} {t_lastB : Int64} {t_found : Int32} {t_foundA : Int64} {t_foundB : Int64} {t_foundCode : Int64} {n_pairA : Nat → Nat → Int64} {f : Nat → Int64} (k : Nat) (hk : k < 9) : (wd_St_scan cA a_n a_k a_t n_x n_y n_nodes n_aloneB n_pairA n_pairB k_groups k_opened k_sumsA k_sumsB k_bringA k_bringB t_known t_count t_lastA t_lastB t_found t_foundA t_foundB t_foundCode).set (2 + k) (a_n (k + 2), .inl (cA 1, 9, .inr (.inl f))) = wd_St_scan cA a_n a_k a_t n_x n_y n_nodes n_aloneB (va_up n_pairA k f) n_pairB k_groups k_opened k_sumsA k_sumsB k_bringA k_bringB t_known t_count t_lastA t_lastB t_found t_foundA t_foundB t_foundCode := by
  rcases lt9 hk with rfl | rfl | rfl | rfl | rfl | rfl | rfl | rfl | rfl <;> rfl
theorem row_St_scan_n_pairB {cA : Nat → ClassId} {a_n a_k a_t : Nat → Nat} {n_x : Int32} {n_y : Int32} {n_nodes : Int32} {n_aloneB : Int64} {n_pairA : Nat → Nat → Int64} {k_groups : Nat → Int32} {k_opened : Nat → Int32} {k_sumsA : Nat → Int64} {k_sumsB : Nat → Int64} {k_bringA : Nat → Nat → Int64} {k_bringB : Nat → Nat → Int64} {t_known : Int32} {t_count : Int32} {t_lastA : Int64} {t_lastB : Int64} {t_found : Int32} {t_foundA : Int64} {t_foundB : Int64} {t_foundCode : Int64} (n_pairB : Nat → Nat → Int64) (k : Nat) (hk : k < 9) : (wd_St_scan cA a_n a_k a_t n_x n_y n_nodes n_aloneB n_pairA n_pairB k_groups k_opened k_sumsA k_sumsB k_bringA k_bringB t_known t_count t_lastA t_lastB t_found t_foundA t_foundB t_foundCode)[12 + k]? = some (a_n (k + 12), .inl (cA 1, 9, .inr (.inl (n_pairB k)))) := by
  rcases lt9 hk with rfl | rfl | rfl | rfl | rfl | rfl | rfl | rfl | rfl <;> rfl
theorem set_St_scan_n_pairB {cA : Nat → ClassId} {a_n a_k a_t : Nat → Nat} {n_x : Int32} {n_y : Int32} {n_nodes : Int32} {n_aloneB : Int64} {n_pairA : Nat → Nat → Int64} {k_groups : Nat → Int32} {k_opened : Nat → Int32} {k_sumsA : Nat → Int64} {k_sumsB : Nat → Int64} {k_bringA : Nat → Nat → Int64} {k_bringB : Nat → Nat → Int64} {t_known : Int32} {t_count : Int32} {t_lastA : Int64} {t_lastB : Int64} {t_found : Int32} {t_foundA : Int64} {t_foundB : Int64} {t_foundCode : Int64} {n_pairB : Nat → Nat → Int64} {f : Nat → Int64} (k : Nat) (hk : k < 9) : (wd_St_scan cA a_n a_k a_t n_x n_y n_nodes n_aloneB n_pairA n_pairB k_groups k_opened k_sumsA k_sumsB k_bringA k_bringB t_known t_count t_lastA t_lastB t_found t_foundA t_foundB t_foundCode).set (12 + k) (a_n (k + 12), .inl (cA 1, 9, .inr (.inl f))) = wd_St_scan cA a_n a_k a_t n_x n_y n_nodes n_aloneB n_pairA (va_up n_pairB k f) k_groups k_opened k_sumsA k_sumsB k_bringA k_bringB t_known t_count t_lastA t_lastB t_found t_foundA t_foundB t_foundCode := by
  rcases lt9 hk with rfl | rfl | rfl | rfl | rfl | rfl | rfl | rfl | rfl <;> rfl
theorem row_St_scan_k_bringA {cA : Nat → ClassId} {a_n a_k a_t : Nat → Nat} {n_x : Int32} {n_y : Int32} {n_nodes : Int32} {n_aloneB : Int64} {n_pairA : Nat → Nat → Int64} {n_pairB : Nat → Nat → Int64} {k_groups : Nat → Int32} {k_opened : Nat → Int32} {k_sumsA : Nat → Int64} {k_sumsB : Nat → Int64} {k_bringB : Nat → Nat → Int64} {t_known : Int32} {t_count : Int32} {t_lastA : Int64} {t_lastB : Int64} {t_found : Int32} {t_foundA : Int64} {t_foundB : Int64} {t_foundCode : Int64} (k_bringA : Nat → Nat → Int64) (k : Nat) (hk : k < 9) : (wd_St_scan cA a_n a_k a_t n_x n_y n_nodes n_aloneB n_pairA n_pairB k_groups k_opened k_sumsA k_sumsB k_bringA k_bringB t_known t_count t_lastA t_lastB t_found t_foundA t_foundB t_foundCode)[27 + k]? = some (a_k (k + 6), .inl (cA 1, 9, .inr (.inl (k_bringA k)))) := by
  rcases lt9 hk with rfl | rfl | rfl | rfl | rfl | rfl | rfl | rfl | rfl <;> rfl
theorem set_St_scan_k_bringA {cA : Nat → ClassId} {a_n a_k a_t : Nat → Nat} {n_x : Int32} {n_y : Int32} {n_nodes : Int32} {n_aloneB : Int64} {n_pairA : Nat → Nat → Int64} {n_pairB : Nat → Nat → Int64} {k_groups : Nat → Int32} {k_opened : Nat → Int32} {k_sumsA : Nat → Int64} {k_sumsB : Nat → Int64} {k_bringB : Nat → Nat → Int64} {t_known : Int32} {t_count : Int32} {t_lastA : Int64} {t_lastB : Int64} {t_found : Int32} {t_foundA : Int64} {t_foundB : Int64} {t_foundCode : Int64} {k_bringA : Nat → Nat → Int64} {f : Nat → Int64} (k : Nat) (hk : k < 9) : (wd_St_scan cA a_n a_k a_t n_x n_y n_nodes n_aloneB n_pairA n_pairB k_groups k_opened k_sumsA k_sumsB k_bringA k_bringB t_known t_count t_lastA t_lastB t_found t_foundA t_foundB t_foundCode).set (27 + k) (a_k (k + 6), .inl (cA 1, 9, .inr (.inl f))) = wd_St_scan cA a_n a_k a_t n_x n_y n_nodes n_aloneB n_pairA n_pairB k_groups k_opened k_sumsA k_sumsB (va_up k_bringA k f) k_bringB t_known t_count t_lastA t_lastB t_found t_foundA t_foundB t_foundCode := by
  rcases lt9 hk with rfl | rfl | rfl | rfl | rfl | rfl | rfl | rfl | rfl <;> rfl
theorem row_St_scan_k_bringB {cA : Nat → ClassId} {a_n a_k a_t : Nat → Nat} {n_x : Int32} {n_y : Int32} {n_nodes : Int32} {n_aloneB : Int64} {n_pairA : Nat → Nat → Int64} {n_pairB : Nat → Nat → Int64} {k_groups : Nat → Int32} {k_opened : Nat → Int32} {k_sumsA : Nat → Int64} {k_sumsB : Nat → Int64} {k_bringA : Nat → Nat → Int64} {t_known : Int32} {t_count : Int32} {t_lastA : Int64} {t_lastB : Int64} {t_found : Int32} {t_foundA : Int64} {t_foundB : Int64} {t_foundCode : Int64} (k_bringB : Nat → Nat → Int64) (k : Nat) (hk : k < 9) : (wd_St_scan cA a_n a_k a_t n_x n_y n_nodes n_aloneB n_pairA n_pairB k_groups k_opened k_sumsA k_sumsB k_bringA k_bringB t_known t_count t_lastA t_lastB t_found t_foundA t_foundB t_foundCode)[37 + k]? = some (a_k (k + 16), .inl (cA 1, 9, .inr (.inl (k_bringB k)))) := by
  rcases lt9 hk with rfl | rfl | rfl | rfl | rfl | rfl | rfl | rfl | rfl <;> rfl
theorem set_St_scan_k_bringB {cA : Nat → ClassId} {a_n a_k a_t : Nat → Nat} {n_x : Int32} {n_y : Int32} {n_nodes : Int32} {n_aloneB : Int64} {n_pairA : Nat → Nat → Int64} {n_pairB : Nat → Nat → Int64} {k_groups : Nat → Int32} {k_opened : Nat → Int32} {k_sumsA : Nat → Int64} {k_sumsB : Nat → Int64} {k_bringA : Nat → Nat → Int64} {t_known : Int32} {t_count : Int32} {t_lastA : Int64} {t_lastB : Int64} {t_found : Int32} {t_foundA : Int64} {t_foundB : Int64} {t_foundCode : Int64} {k_bringB : Nat → Nat → Int64} {f : Nat → Int64} (k : Nat) (hk : k < 9) : (wd_St_scan cA a_n a_k a_t n_x n_y n_nodes n_aloneB n_pairA n_pairB k_groups k_opened k_sumsA k_sumsB k_bringA k_bringB t_known t_count t_lastA t_lastB t_found t_foundA t_foundB t_foundCode).set (37 + k) (a_k (k + 16), .inl (cA 1, 9, .inr (.inl f))) = wd_St_scan cA a_n a_k a_t n_x n_y n_nodes n_aloneB n_pairA n_pairB k_groups k_opened k_sumsA k_sumsB k_bringA (va_up k_bringB k f) t_known t_count t_lastA t_lastB t_found t_foundA t_foundB t_foundCode := by
  rcases lt9 hk with rfl | rfl | rfl | rfl | rfl | rfl | rfl | rfl | rfl <;> rfl
noncomputable def s_St_scan_16 (n_nodes : Int32) (n_pairA : Nat → Nat → Int64) (n_pairB : Nat → Nat → Int64) (t_count : Int32) (t_lastA : Int64) (t_lastB : Int64) (zz : Int32 × Int32 × (Nat → Nat → Int64) × (Nat → Nat → Int64) × (Nat → Int32) × (Nat → Int32) × (Nat → Int64) × (Nat → Int64) × Int32 × Int64 × Int64 × Int64) (back exit : (Int32 × Int32 × (Nat → Nat → Int64) × (Nat → Nat → Int64) × (Nat → Int32) × (Nat → Int32) × (Nat → Int64) × (Nat → Int64) × Int32 × Int64 × Int64 × Int64) → Option ((Nat → Int32) × (Nat → Int32) × (Nat → Int64) × (Nat → Int64) × (Nat → Nat → Int64) × (Nat → Nat → Int64) × Int32 × Int64 × Int64 × Int64)) : Option ((Nat → Int32) × (Nat → Int32) × (Nat → Int64) × (Nat → Int64) × (Nat → Nat → Int64) × (Nat → Nat → Int64) × Int32 × Int64 × Int64 × Int64) :=
  (if zz.1 = 0 then (exit (zz.1, zz.2.1, zz.2.2.1, zz.2.2.2.1, zz.2.2.2.2.1, zz.2.2.2.2.2.1, zz.2.2.2.2.2.2.1, zz.2.2.2.2.2.2.2.1, zz.2.2.2.2.2.2.2.2.1, zz.2.2.2.2.2.2.2.2.2.1, zz.2.2.2.2.2.2.2.2.2.2.1, zz.2.2.2.2.2.2.2.2.2.2.2)) else (if (21147 : Int32) ≤ zz.2.1 then (exit (zz.1, zz.2.1, zz.2.2.1, zz.2.2.2.1, zz.2.2.2.2.1, zz.2.2.2.2.2.1, zz.2.2.2.2.2.2.1, zz.2.2.2.2.2.2.2.1, zz.2.2.2.2.2.2.2.2.1, zz.2.2.2.2.2.2.2.2.2.1, zz.2.2.2.2.2.2.2.2.2.2.1, zz.2.2.2.2.2.2.2.2.2.2.2)) else ((m_Wa_a n_nodes zz.2.2.2.2.2.2.1).bind (fun r31 : Int64 => ((m_Wa_b n_nodes zz.2.2.2.2.2.2.2.1).bind (fun r39 : Int64 => (jn (fun z81 : Int32 × Int64 × Int64 × Int64 => ((m_Wa_step n_nodes n_pairA n_pairB zz.2.2.2.2.1 zz.2.2.2.2.2.1 zz.2.2.2.2.2.2.1 zz.2.2.2.2.2.2.2.1 zz.2.2.1 zz.2.2.2.1).bind (fun r85 : Int32 × (Nat → Int32) × (Nat → Int32) × (Nat → Int64) × (Nat → Int64) × (Nat → Nat → Int64) × (Nat → Nat → Int64) => (back (r85.1, (zz.2.1 + 1), r85.2.2.2.2.2.1, r85.2.2.2.2.2.2, r85.2.1, r85.2.2.1, r85.2.2.2.1, r85.2.2.2.2.1, z81.1, z81.2.1, z81.2.2.1, z81.2.2.2))))) (fun j81 => (jn (fun z74 : Unit => ((m_St_note n_nodes zz.2.2.2.2.1 r31 r39).bind (fun r78 : Int32 × Int64 × Int64 × Int64 => (j81 (r78.1, r78.2.1, r78.2.2.1, r78.2.2.2))))) (fun j74 => (if t_count = 0 then ((m_St_standsHigher zz.2.2.2.2.2.2.2.2.1 zz.2.2.2.2.2.2.2.2.2.1 zz.2.2.2.2.2.2.2.2.2.2.1 r31 r39).bind (fun r55 : Int32 => (if r55 = 0 then (j81 (zz.2.2.2.2.2.2.2.2.1, zz.2.2.2.2.2.2.2.2.2.1, zz.2.2.2.2.2.2.2.2.2.2.1, zz.2.2.2.2.2.2.2.2.2.2.2)) else (j74 ())))) else ((m_St_comesSooner t_lastA t_lastB zz.2.2.2.2.2.2.2.2.1 zz.2.2.2.2.2.2.2.2.2.1 zz.2.2.2.2.2.2.2.2.2.2.1 r31 r39).bind (fun r68 : Int32 => (if r68 = 0 then (j81 (zz.2.2.2.2.2.2.2.2.1, zz.2.2.2.2.2.2.2.2.2.1, zz.2.2.2.2.2.2.2.2.2.2.1, zz.2.2.2.2.2.2.2.2.2.2.2)) else (j74 ())))))))))))))))
noncomputable def m_St_scan (n_nodes : Int32) (n_aloneB : Int64) (n_pairA : Nat → Nat → Int64) (n_pairB : Nat → Nat → Int64) (k_groups : Nat → Int32) (k_opened : Nat → Int32) (k_sumsA : Nat → Int64) (k_sumsB : Nat → Int64) (k_bringA : Nat → Nat → Int64) (k_bringB : Nat → Nat → Int64) (t_count : Int32) (t_lastA : Int64) (t_lastB : Int64) (t_foundA : Int64) (t_foundB : Int64) (t_foundCode : Int64) : Option ((Nat → Int32) × (Nat → Int32) × (Nat → Int64) × (Nat → Int64) × (Nat → Nat → Int64) × (Nat → Nat → Int64) × Int32 × Int64 × Int64 × Int64) :=
  ((m_Wa_start n_nodes n_aloneB n_pairA n_pairB k_groups k_opened k_sumsA k_sumsB k_bringA k_bringB).bind (fun r9 : (Nat → Int32) × (Nat → Int32) × (Nat → Int64) × (Nat → Int64) × (Nat → Nat → Int64) × (Nat → Nat → Int64) => (loopC (s_St_scan_16 n_nodes n_pairA n_pairB t_count t_lastA t_lastB) (fun z16 : Int32 × Int32 × (Nat → Nat → Int64) × (Nat → Nat → Int64) × (Nat → Int32) × (Nat → Int32) × (Nat → Int64) × (Nat → Int64) × Int32 × Int64 × Int64 × Int64 => some (z16.2.2.2.2.1, z16.2.2.2.2.2.1, z16.2.2.2.2.2.2.1, z16.2.2.2.2.2.2.2.1, z16.2.2.1, z16.2.2.2.1, z16.2.2.2.2.2.2.2.2.1, z16.2.2.2.2.2.2.2.2.2.1, z16.2.2.2.2.2.2.2.2.2.2.1, z16.2.2.2.2.2.2.2.2.2.2.2)) FU ((1 : Int32), (0 : Int32), r9.2.2.2.2.1, r9.2.2.2.2.2, r9.1, r9.2.1, r9.2.2.1, r9.2.2.2.1, (0 : Int32), t_foundA, t_foundB, t_foundCode))))
set_option maxHeartbeats 4000000 in
set_option maxRecDepth 100000 in
theorem c_St_scan (l : Launch) (D : va_G) (cA : Nat → ClassId) (a_n a_k a_t : Nat → Nat) (sz : Nat) (n_x : Int32) (n_y : Int32) (n_nodes : Int32) (n_aloneB : Int64) (n_pairA : Nat → Nat → Int64) (n_pairB : Nat → Nat → Int64) (k_groups : Nat → Int32) (k_opened : Nat → Int32) (k_sumsA : Nat → Int64) (k_sumsB : Nat → Int64) (k_bringA : Nat → Nat → Int64) (k_bringB : Nat → Nat → Int64) (t_known : Int32) (t_count : Int32) (t_lastA : Int64) (t_lastB : Int64) (t_found : Int32) (t_foundA : Int64) (t_foundB : Int64) (t_foundCode : Int64)  (out : (Nat → Int32) × (Nat → Int32) × (Nat → Int64) × (Nat → Int64) × (Nat → Nat → Int64) × (Nat → Nat → Int64) × Int32 × Int64 × Int64 × Int64) (h : m_St_scan n_nodes n_aloneB n_pairA n_pairB k_groups k_opened k_sumsA k_sumsB k_bringA k_bringB t_count t_lastA t_lastB t_foundA t_foundB t_foundCode = some out) : Met l y_St_scan w_St_scan ({ frames := 4, cells := 0, slots := 0, locals := 91 }) (va_Pc [.ref (a_t 0)] (fun U => U.heap.size = sz ∧ va_P D cls9 (wd_St_scan cA a_n a_k a_t n_x n_y n_nodes n_aloneB n_pairA n_pairB k_groups k_opened k_sumsA k_sumsB k_bringA k_bringB t_known t_count t_lastA t_lastB t_found t_foundA t_foundB t_foundCode) U.heap ∧ va_K D cls9 (tys5 cA) U ∧ va_D (fun _ => True) (wd_St_scan cA a_n a_k a_t n_x n_y n_nodes n_aloneB n_pairA n_pairB k_groups k_opened k_sumsA k_sumsB k_bringA k_bringB t_known t_count t_lastA t_lastB t_found t_foundA t_foundB t_foundCode))) (va_Qv (fun uu : (Nat → Int32) × (Nat → Int32) × (Nat → Int64) × (Nat → Int64) × (Nat → Nat → Int64) × (Nat → Nat → Int64) × Int32 × Int64 × Int64 × Int64 => uu = out) (fun (uu : (Nat → Int32) × (Nat → Int32) × (Nat → Int64) × (Nat → Int64) × (Nat → Nat → Int64) × (Nat → Nat → Int64) × Int32 × Int64 × Int64 × Int64) (t : State) => va_P D cls9 (wd_St_scan cA a_n a_k a_t n_x n_y n_nodes n_aloneB n_pairA n_pairB uu.1 uu.2.1 uu.2.2.1 uu.2.2.2.1 uu.2.2.2.2.1 uu.2.2.2.2.2.1 t_known t_count t_lastA t_lastB uu.2.2.2.2.2.2.1 uu.2.2.2.2.2.2.2.1 uu.2.2.2.2.2.2.2.2.1 uu.2.2.2.2.2.2.2.2.2) t.heap ∧ va_K D cls9 (tys5 cA) t ∧ va_D (va_A (wd_St_scan cA a_n a_k a_t n_x n_y n_nodes n_aloneB n_pairA n_pairB k_groups k_opened k_sumsA k_sumsB k_bringA k_bringB t_known t_count t_lastA t_lastB t_found t_foundA t_foundB t_foundCode) sz) (wd_St_scan cA a_n a_k a_t n_x n_y n_nodes n_aloneB n_pairA n_pairB uu.1 uu.2.1 uu.2.2.1 uu.2.2.2.1 uu.2.2.2.2.1 uu.2.2.2.2.2.1 t_known t_count t_lastA t_lastB uu.2.2.2.2.2.2.1 uu.2.2.2.2.2.2.2.1 uu.2.2.2.2.2.2.2.2.1 uu.2.2.2.2.2.2.2.2.2)) (va_A (wd_St_scan cA a_n a_k a_t n_x n_y n_nodes n_aloneB n_pairA n_pairB k_groups k_opened k_sumsA k_sumsB k_bringA k_bringB t_known t_count t_lastA t_lastB t_found t_foundA t_foundB t_foundCode) sz)) 0 0 (va_A (wd_St_scan cA a_n a_k a_t n_x n_y n_nodes n_aloneB n_pairA n_pairB k_groups k_opened k_sumsA k_sumsB k_bringA k_bringB t_known t_count t_lastA t_lastB t_found t_foundA t_foundB t_foundCode) sz) := by
  refine Met.ofW (cc := b_St_scan) (maxL := 7) (ret := (Option.none : Option Jvm.ClassFile.FieldType)) (by decide) rfl ?_
  intro p e s m args below meth c s₁ B hml hv
  obtain ⟨rfl, hsz, hP, hK, hD0⟩ := hv
  have hx := B.exec
  have hb := B.bytes
  have hr := B.returns
  have hts := atoms_spec (ws := w_St_scan) B.pre
  have hal : ∀ w ∈ ALLW, w.before _ s = true := fun w hw => hts w (List.mem_cons_of_mem _ hw)
  have hown : s.vm.findClass R_St = some m.cls := findClass_of_methodNamed B.named
  have hlocks := B.notSynchronized
  subst hsz
  have hD := hD0.self (sz := s.heap.size)
  generalize hAe : va_A (wd_St_scan cA a_n a_k a_t n_x n_y n_nodes n_aloneB n_pairA n_pairB k_groups k_opened k_sumsA k_sumsB k_bringA k_bringB t_known t_count t_lastA t_lastB t_found t_foundA t_foundB t_foundCode) s.heap.size = A at hD ⊢
  have hA : ∀ q : Nat, s.heap.size ≤ q → A q := fun q h => by rw [← hAe]; exact Or.inr h
  have hS : va_S A s.heap s.heap [] := va_S.rf
  have hl := lv_entry ([.ref (a_t 0)]) (n := 7) (Nat.le_of_ble_eq_true rfl)
  rw [lg_entry_eq]
  generalize (lg_sl ([.ref (a_t 0)]) ++ List.replicate (7 - (lg_sl ([.ref (a_t 0)])).length) Slot.unset).toArray = ls at hl ⊢
  have hl : lv_has ls 7 [(0, .ref (a_t 0))] := hl
  refine wg (fun G hG => ?_)
  refine cast (hG _ _ _ _ _ _ _).symm ?_
  obtain ⟨H, locs, hHl, hS⟩ : ∃ (H : Heap) (locs : List Loc), (H = s.heap ∧ locs = []) ∧ va_S A s.heap H locs := ⟨s.heap, [], ⟨rfl, rfl⟩, hS⟩
  have hP : va_P D cls9 (wd_St_scan cA a_n a_k a_t n_x n_y n_nodes n_aloneB n_pairA n_pairB k_groups k_opened k_sumsA k_sumsB k_bringA k_bringB t_known t_count t_lastA t_lastB t_found t_foundA t_foundB t_foundCode) H := by rw [hHl.1]; exact hP
  rw [← hHl.1, ← hHl.2]
  clear hHl
  refine lv_aload_n hx hb d_St_scan_0 rfl (lv_at hl 0 rfl) ?_
  refine lv_iconst (v := 0) hx hb d_St_scan_1 (by decide) ?_
  refine va_put (ci := 5) (v := .int (0 : Int32)) (ty := .boolean) (C := R_St) (T := F_St) (N := 12) hx hb hal in_St t_St t_St_ok n_St hown hK hP hD hS 46 rfl rfl 8 (by decide) (hal _ kw_215) (fun _ h9 => h9) rfl (by decide +kernel) (by decide) (by decide) (Nat.le_of_ble_eq_true rfl) d_St_scan_2 (fun H locs hP hD hS => ?_)
  have hP : va_P D cls9 (wd_St_scan cA a_n a_k a_t n_x n_y n_nodes n_aloneB n_pairA n_pairB k_groups k_opened k_sumsA k_sumsB k_bringA k_bringB t_known t_count t_lastA t_lastB (0 : Int32) t_foundA t_foundB t_foundCode) H := hP
  have hD : va_D A (wd_St_scan cA a_n a_k a_t n_x n_y n_nodes n_aloneB n_pairA n_pairB k_groups k_opened k_sumsA k_sumsB k_bringA k_bringB t_known t_count t_lastA t_lastB (0 : Int32) t_foundA t_foundB t_foundCode) := hD
  refine lv_aload_n hx hb d_St_scan_5 rfl (lv_at hl 0 rfl) ?_
  refine va_get (ci := 5) (v := .ref (a_k 0)) (C := R_St) (T := F_St) (N := 12) hx hb hal in_St hown hK hP 46 rfl rfl 0 (by decide) (hal _ kw_203) (fun _ h9 => h9) rfl d_St_scan_6 ?_
  obtain ⟨o_10, hc_9, h⟩ := bd h
  have hPc := hP.sub (ws' := (wd_Wa_start cA a_n a_k n_x n_y n_nodes n_aloneB n_pairA n_pairB k_groups k_opened k_sumsA k_sumsB k_bringA k_bringB)) [0, 1, 2, 3, 4, 5, 6, 7, 8, 9, 10, 11, 12, 13, 14, 15, 16, 17, 18, 19, 20, 21, 22, 23, 24, 25, 26, 27, 28, 29, 30, 31, 32, 33, 34, 35, 36, 37, 38, 39, 40, 41, 42, 43, 44, 45] rfl
  have hDc := hD.sub (ws' := (wd_Wa_start cA a_n a_k n_x n_y n_nodes n_aloneB n_pairA n_pairB k_groups k_opened k_sumsA k_sumsB k_bringA k_bringB)) [0, 1, 2, 3, 4, 5, 6, 7, 8, 9, 10, 11, 12, 13, 14, 15, 16, 17, 18, 19, 20, 21, 22, 23, 24, 25, 26, 27, 28, 29, 30, 31, 32, 33, 34, 35, 36, 37, 38, 39, 40, 41, 42, 43, 44, 45] (by decide) rfl
  have hFc := va_free (wc := (wd_Wa_start cA a_n a_k n_x n_y n_nodes n_aloneB n_pairA n_pairB k_groups k_opened k_sumsA k_sumsB k_bringA k_bringB)) hD hS hA [0, 1, 2, 3, 4, 5, 6, 7, 8, 9, 10, 11, 12, 13, 14, 15, 16, 17, 18, 19, 20, 21, 22, 23, 24, 25, 26, 27, 28, 29, 30, 31, 32, 33, 34, 35, 36, 37, 38, 39, 40, 41, 42, 43, 44, 45] rfl
  refine va_callv (va_runV (C := R_Wa) (As := []) (rest := []) ⟨hx, hb, hml, hown, hal⟩ (c_Wa_start l D cA a_n a_k H.size n_x n_y n_nodes n_aloneB n_pairA n_pairB k_groups k_opened k_sumsA k_sumsB k_bringA k_bringB o_10 hc_9) (cwV 0 hal (goodV kw_570 kw_459 kw_460 kw_5 kw_461) rfl rfl rfl (by decide +kernel) ⟨Nat.le_of_ble_eq_true rfl, Nat.le_of_ble_eq_true rfl⟩) ⟨fun a U g mk q => by obtain ⟨q0, q1, qP, qK, qD⟩ := q; exact ⟨q0, q1, qP, va_K.moved (u := U) (U := U.calling g mk a) (Vm.Alike.refl U.vm) qK, qD⟩, va_recv hK hP (ci := 6) (q0 := 21) rfl rfl, fun U hU hW => ⟨rfl, by rw [hU], by rw [hU]; exact hPc, va_K.moved hW.alike hK, hDc.weaken (fun _ _ _ _ => trivial)⟩⟩ rfl rfl hl.1 rfl (lv_room (Nat.le_of_ble_eq_true rfl)) d_St_scan_9 ⟨Nat.le_of_ble_eq_true rfl, Nat.le_of_ble_eq_true rfl⟩) hS (fun q _ h => hFc q h) hFc (fun u t H1 locs ht hvm hw hB hz1 hk1 hS => ?_)
  obtain ⟨u_3, u_4, u_5, u_6, u_7, u_8⟩ := u
  subst hw
  obtain ⟨hP1, hK1, hD1⟩ := hB
  rw [ht] at hP1
  have hP1 : va_P D cls9 (wd_Wa_start cA a_n a_k n_x n_y n_nodes n_aloneB n_pairA n_pairB u_3 u_4 u_5 u_6 u_7 u_8) H1 := hP1
  obtain ⟨hP, hD⟩ := va_join (wr := ([46] : List Nat).filterMap (fun i => (wd_St_scan cA a_n a_k a_t n_x n_y n_nodes n_aloneB n_pairA n_pairB k_groups k_opened k_sumsA k_sumsB k_bringA k_bringB t_known t_count t_lastA t_lastB (0 : Int32) t_foundA t_foundB t_foundCode)[i]?)) (w1 := (wd_Wa_start cA a_n a_k n_x n_y n_nodes n_aloneB n_pairA n_pairB u_3 u_4 u_5 u_6 u_7 u_8)) hP hD [0, 1, 2, 3, 4, 5, 6, 7, 8, 9, 10, 11, 12, 13, 14, 15, 16, 17, 18, 19, 20, 21, 22, 23, 24, 25, 26, 27, 28, 29, 30, 31, 32, 33, 34, 35, 36, 37, 38, 39, 40, 41, 42, 43, 44, 45] [46] rfl rfl (by decide) (by decide) hk1 hFc hP1 hD1
  generalize H1 = H at hP hS ⊢
  have hP : va_P D cls9 (wd_St_scan cA a_n a_k a_t n_x n_y n_nodes n_aloneB n_pairA n_pairB u_3 u_4 u_5 u_6 u_7 u_8 t_known t_count t_lastA t_lastB (0 : Int32) t_foundA t_foundB t_foundCode) H := hP.sub [1, 2, 3, 4, 5, 6, 7, 8, 9, 10, 11, 12, 13, 14, 15, 16, 17, 18, 19, 20, 21, 22, 23, 24, 25, 26, 27, 28, 29, 30, 31, 32, 33, 34, 35, 36, 37, 38, 39, 40, 41, 42, 43, 44, 45, 46, 0] rfl
  have hD : va_D A (wd_St_scan cA a_n a_k a_t n_x n_y n_nodes n_aloneB n_pairA n_pairB u_3 u_4 u_5 u_6 u_7 u_8 t_known t_count t_lastA t_lastB (0 : Int32) t_foundA t_foundB t_foundCode) := hD.sub [1, 2, 3, 4, 5, 6, 7, 8, 9, 10, 11, 12, 13, 14, 15, 16, 17, 18, 19, 20, 21, 22, 23, 24, 25, 26, 27, 28, 29, 30, 31, 32, 33, 34, 35, 36, 37, 38, 39, 40, 41, 42, 43, 44, 45, 46, 0] (by decide) rfl
  refine lv_iconst (v := 1) hx hb d_St_scan_12 (by decide) ?_
  refine lv_istore_n (lv' := [(1, .int (1 : Int32)), (0, .ref (a_t 0))]) hx hb d_St_scan_13 rfl hl (by decide) rfl (fun ls hl => ?_)
  refine lv_iconst (v := 0) hx hb d_St_scan_14 (by decide) ?_
  refine lv_istore_n (lv' := [(2, .int (0 : Int32)), (1, .int (1 : Int32)), (0, .ref (a_t 0))]) hx hb d_St_scan_15 rfl hl (by decide) rfl (fun ls hl => ?_)
  refine cast (hG _ _ _ _ _ _ _) (lp_go2 h (fun zz : Int32 × Int32 × (Nat → Nat → Int64) × (Nat → Nat → Int64) × (Nat → Int32) × (Nat → Int32) × (Nat → Int64) × (Nat → Int64) × Int32 × Int64 × Int64 × Int64 => ∀ (H : Heap) (locs : List Loc) (ls : Array Slot), va_P D cls9 (wd_St_scan cA a_n a_k a_t n_x n_y n_nodes n_aloneB n_pairA n_pairB zz.2.2.2.2.1 zz.2.2.2.2.2.1 zz.2.2.2.2.2.2.1 zz.2.2.2.2.2.2.2.1 zz.2.2.1 zz.2.2.2.1 t_known t_count t_lastA t_lastB zz.2.2.2.2.2.2.2.2.1 zz.2.2.2.2.2.2.2.2.2.1 zz.2.2.2.2.2.2.2.2.2.2.1 zz.2.2.2.2.2.2.2.2.2.2.2) H → va_D A (wd_St_scan cA a_n a_k a_t n_x n_y n_nodes n_aloneB n_pairA n_pairB zz.2.2.2.2.1 zz.2.2.2.2.2.1 zz.2.2.2.2.2.2.1 zz.2.2.2.2.2.2.2.1 zz.2.2.1 zz.2.2.2.1 t_known t_count t_lastA t_lastB zz.2.2.2.2.2.2.2.2.1 zz.2.2.2.2.2.2.2.2.2.1 zz.2.2.2.2.2.2.2.2.2.2.1 zz.2.2.2.2.2.2.2.2.2.2.2) → va_S A s.heap H locs → lv_has ls 7 [(2, .int zz.2.1), (1, .int zz.1), (0, .ref (a_t 0))] → G H locs 0 0 ls 95 []) ?_ (fun zz : Int32 × Int32 × (Nat → Nat → Int64) × (Nat → Nat → Int64) × (Nat → Int32) × (Nat → Int32) × (Nat → Int64) × (Nat → Int64) × Int32 × Int64 × Int64 × Int64 => ∀ (H : Heap) (locs : List Loc) (ls : Array Slot), va_P D cls9 (wd_St_scan cA a_n a_k a_t n_x n_y n_nodes n_aloneB n_pairA n_pairB zz.2.2.2.2.1 zz.2.2.2.2.2.1 zz.2.2.2.2.2.2.1 zz.2.2.2.2.2.2.2.1 zz.2.2.1 zz.2.2.2.1 t_known t_count t_lastA t_lastB zz.2.2.2.2.2.2.2.2.1 zz.2.2.2.2.2.2.2.2.2.1 zz.2.2.2.2.2.2.2.2.2.2.1 zz.2.2.2.2.2.2.2.2.2.2.2) H → va_D A (wd_St_scan cA a_n a_k a_t n_x n_y n_nodes n_aloneB n_pairA n_pairB zz.2.2.2.2.1 zz.2.2.2.2.2.1 zz.2.2.2.2.2.2.1 zz.2.2.2.2.2.2.2.1 zz.2.2.1 zz.2.2.2.1 t_known t_count t_lastA t_lastB zz.2.2.2.2.2.2.2.2.1 zz.2.2.2.2.2.2.2.2.2.1 zz.2.2.2.2.2.2.2.2.2.2.1 zz.2.2.2.2.2.2.2.2.2.2.2) → va_S A s.heap H locs → lv_has ls 7 [(2, .int zz.2.1), (1, .int zz.1), (0, .ref (a_t 0))] → G H locs 0 0 ls 16 []) ?_ _ _ ls hP hD hS (lv_sub hl [0, 1, 2] rfl))
  · intro zz h H locs ls hP hD hS hl
    obtain ⟨x1_16e, x2_16e, k_bringA_16e, k_bringB_16e, k_groups_16e, k_opened_16e, k_sumsA_16e, k_sumsB_16e, t_found_16e, t_foundA_16e, t_foundB_16e, t_foundCode_16e⟩ := zz
    have hP : va_P D cls9 (wd_St_scan cA a_n a_k a_t n_x n_y n_nodes n_aloneB n_pairA n_pairB k_groups_16e k_opened_16e k_sumsA_16e k_sumsB_16e k_bringA_16e k_bringB_16e t_known t_count t_lastA t_lastB t_found_16e t_foundA_16e t_foundB_16e t_foundCode_16e) H := hP
    have hD : va_D A (wd_St_scan cA a_n a_k a_t n_x n_y n_nodes n_aloneB n_pairA n_pairB k_groups_16e k_opened_16e k_sumsA_16e k_sumsB_16e k_bringA_16e k_bringB_16e t_known t_count t_lastA t_lastB t_found_16e t_foundA_16e t_foundB_16e t_foundCode_16e) := hD
    have hl : lv_has ls 7 [(2, .int x2_16e), (1, .int x1_16e), (0, .ref (a_t 0))] := hl
    refine cast (hG _ _ _ _ _ _ _).symm ?_
    exact W.vret hx hb hr (fun t ht hW => ⟨⟨(k_groups_16e, k_opened_16e, k_sumsA_16e, k_sumsB_16e, k_bringA_16e, k_bringB_16e, t_found_16e, t_foundA_16e, t_foundB_16e, t_foundCode_16e), rfl, Option.some.inj h, by rw [ht]; exact hP, va_K.moved hW.alike hK, hD⟩, hS.F ht⟩) hS.2.2 d_St_scan_95
  · intro back exit zz hB_16 hE_16 h H locs ls hP hD hS hl
    obtain ⟨x1_16, x2_16, k_bringA_16, k_bringB_16, k_groups_16, k_opened_16, k_sumsA_16, k_sumsB_16, t_found_16, t_foundA_16, t_foundB_16, t_foundCode_16⟩ := zz
    have hP : va_P D cls9 (wd_St_scan cA a_n a_k a_t n_x n_y n_nodes n_aloneB n_pairA n_pairB k_groups_16 k_opened_16 k_sumsA_16 k_sumsB_16 k_bringA_16 k_bringB_16 t_known t_count t_lastA t_lastB t_found_16 t_foundA_16 t_foundB_16 t_foundCode_16) H := hP
    have hD : va_D A (wd_St_scan cA a_n a_k a_t n_x n_y n_nodes n_aloneB n_pairA n_pairB k_groups_16 k_opened_16 k_sumsA_16 k_sumsB_16 k_bringA_16 k_bringB_16 t_known t_count t_lastA t_lastB t_found_16 t_foundA_16 t_foundB_16 t_foundCode_16) := hD
    have hl : lv_has ls 7 [(2, .int x2_16), (1, .int x1_16), (0, .ref (a_t 0))] := hl
    refine cast (hG _ _ _ _ _ _ _).symm ?_
    refine lv_iload_n hx hb d_St_scan_16 rfl (lv_at hl 1 rfl) ?_
    refine lv_if_eq (tgt := 95) hx hb d_St_scan_17 (by decide) (fun c_11 => ?_) (fun c_11 => ?_)
    · have h := ifp (c_11) h
      exact cast (hG _ _ _ _ _ _ _) (hE_16 (x1_16, x2_16, k_bringA_16, k_bringB_16, k_groups_16, k_opened_16, k_sumsA_16, k_sumsB_16, t_found_16, t_foundA_16, t_foundB_16, t_foundCode_16) h _ _ _ hP hD hS (lv_sub hl [0, 1, 2] rfl))
    · have h := ifn (c_11) h
      refine lv_iload_n hx hb d_St_scan_20 rfl (lv_at hl 0 rfl) ?_
      refine lv_sipush (v := 21147) hx hb d_St_scan_21 (by decide) ?_
      refine lv_icmp_ge (tgt := 95) hx hb d_St_scan_24 (by decide) (fun c_12 => ?_) (fun c_12 => ?_)
      · have h := ifp (c_12) h
        exact cast (hG _ _ _ _ _ _ _) (hE_16 (x1_16, x2_16, k_bringA_16, k_bringB_16, k_groups_16, k_opened_16, k_sumsA_16, k_sumsB_16, t_found_16, t_foundA_16, t_foundB_16, t_foundCode_16) h _ _ _ hP hD hS (lv_sub hl [0, 1, 2] rfl))
      · have h := ifn (c_12) h
        refine lv_aload_n hx hb d_St_scan_27 rfl (lv_at hl 2 rfl) ?_
        refine va_get (ci := 5) (v := .ref (a_k 0)) (C := R_St) (T := F_St) (N := 12) hx hb hal in_St hown hK hP 46 rfl rfl 0 (by decide) (hal _ kw_203) (fun _ h9 => h9) rfl d_St_scan_28 ?_
        obtain ⟨o_16, hc_15, h⟩ := bd h
        have hPc := hP.sub (ws' := (wd_Wa_a cA a_n a_k n_x n_y n_nodes n_aloneB k_sumsA_16)) [0, 21, 24] rfl
        have hDc := hD.sub (ws' := (wd_Wa_a cA a_n a_k n_x n_y n_nodes n_aloneB k_sumsA_16)) [0, 21, 24] (by decide) rfl
        have hFc := va_free (wc := (wd_Wa_a cA a_n a_k n_x n_y n_nodes n_aloneB k_sumsA_16)) hD hS hA [0, 21, 24] rfl
        refine va_calll (va_runV (C := R_Wa) (As := []) (rest := []) ⟨hx, hb, hml, hown, hal⟩ (c_Wa_a l D cA a_n a_k H.size n_x n_y n_nodes n_aloneB k_sumsA_16 o_16 hc_15) (cwV 0 hal (goodV kw_571 kw_479 kw_480 kw_5 kw_481) rfl rfl rfl (by decide +kernel) ⟨Nat.le_of_ble_eq_true rfl, Nat.le_of_ble_eq_true rfl⟩) ⟨fun a U g mk q => by obtain ⟨q0, q1, qP, qK, qD⟩ := q; exact ⟨q0, q1, qP, va_K.moved (u := U) (U := U.calling g mk a) (Vm.Alike.refl U.vm) qK, qD⟩, va_recv hK hP (ci := 6) (q0 := 21) rfl rfl, fun U hU hW => ⟨rfl, by rw [hU], by rw [hU]; exact hPc, va_K.moved hW.alike hK, hDc.weaken (fun _ _ _ _ => trivial)⟩⟩ rfl rfl hl.1 rfl (lv_room (Nat.le_of_ble_eq_true rfl)) d_St_scan_31 ⟨Nat.le_of_ble_eq_true rfl, Nat.le_of_ble_eq_true rfl⟩) hS (fun q _ h => hFc q h) hFc (fun r_14 u t H1 locs ht hvm hw hB hz1 hk1 hS => ?_)
        subst hw
        obtain ⟨hP1, hK1, hD1⟩ := hB
        rw [ht] at hP1
        have hP1 : va_P D cls9 (wd_Wa_a cA a_n a_k n_x n_y n_nodes n_aloneB k_sumsA_16) H1 := hP1
        obtain ⟨hP, hD⟩ := va_join (wr := ([1, 2, 3, 4, 5, 6, 7, 8, 9, 10, 11, 12, 13, 14, 15, 16, 17, 18, 19, 20, 22, 23, 25, 26, 27, 28, 29, 30, 31, 32, 33, 34, 35, 36, 37, 38, 39, 40, 41, 42, 43, 44, 45, 46] : List Nat).filterMap (fun i => (wd_St_scan cA a_n a_k a_t n_x n_y n_nodes n_aloneB n_pairA n_pairB k_groups_16 k_opened_16 k_sumsA_16 k_sumsB_16 k_bringA_16 k_bringB_16 t_known t_count t_lastA t_lastB t_found_16 t_foundA_16 t_foundB_16 t_foundCode_16)[i]?)) (w1 := (wd_Wa_a cA a_n a_k n_x n_y n_nodes n_aloneB k_sumsA_16)) hP hD [0, 21, 24] [1, 2, 3, 4, 5, 6, 7, 8, 9, 10, 11, 12, 13, 14, 15, 16, 17, 18, 19, 20, 22, 23, 25, 26, 27, 28, 29, 30, 31, 32, 33, 34, 35, 36, 37, 38, 39, 40, 41, 42, 43, 44, 45, 46] rfl rfl (by decide) (by decide) hk1 hFc hP1 hD1
        generalize H1 = H at hP hS ⊢
        have hP : va_P D cls9 (wd_St_scan cA a_n a_k a_t n_x n_y n_nodes n_aloneB n_pairA n_pairB k_groups_16 k_opened_16 k_sumsA_16 k_sumsB_16 k_bringA_16 k_bringB_16 t_known t_count t_lastA t_lastB t_found_16 t_foundA_16 t_foundB_16 t_foundCode_16) H := hP.sub [44, 0, 1, 2, 3, 4, 5, 6, 7, 8, 9, 10, 11, 12, 13, 14, 15, 16, 17, 18, 19, 45, 20, 21, 46, 22, 23, 24, 25, 26, 27, 28, 29, 30, 31, 32, 33, 34, 35, 36, 37, 38, 39, 40, 41, 42, 43] rfl
        have hD : va_D A (wd_St_scan cA a_n a_k a_t n_x n_y n_nodes n_aloneB n_pairA n_pairB k_groups_16 k_opened_16 k_sumsA_16 k_sumsB_16 k_bringA_16 k_bringB_16 t_known t_count t_lastA t_lastB t_found_16 t_foundA_16 t_foundB_16 t_foundCode_16) := hD.sub [44, 0, 1, 2, 3, 4, 5, 6, 7, 8, 9, 10, 11, 12, 13, 14, 15, 16, 17, 18, 19, 45, 20, 21, 46, 22, 23, 24, 25, 26, 27, 28, 29, 30, 31, 32, 33, 34, 35, 36, 37, 38, 39, 40, 41, 42, 43] (by decide) rfl
        refine lv_lstore_n (lv' := [(3, .long r_14), (2, .int x2_16), (1, .int x1_16), (0, .ref (a_t 0))]) hx hb d_St_scan_34 rfl hl (by decide) rfl (fun ls hl => ?_)
        refine lv_aload_n hx hb d_St_scan_35 rfl (lv_at hl 3 rfl) ?_
        refine va_get (ci := 5) (v := .ref (a_k 0)) (C := R_St) (T := F_St) (N := 12) hx hb hal in_St hown hK hP 46 rfl rfl 0 (by decide) (hal _ kw_203) (fun _ h9 => h9) rfl d_St_scan_36 ?_
        obtain ⟨o_20, hc_19, h⟩ := bd h
        have hPc := hP.sub (ws' := (wd_Wa_b cA a_n a_k n_x n_y n_nodes n_aloneB k_sumsB_16)) [0, 21, 25] rfl
        have hDc := hD.sub (ws' := (wd_Wa_b cA a_n a_k n_x n_y n_nodes n_aloneB k_sumsB_16)) [0, 21, 25] (by decide) rfl
        have hFc := va_free (wc := (wd_Wa_b cA a_n a_k n_x n_y n_nodes n_aloneB k_sumsB_16)) hD hS hA [0, 21, 25] rfl
        refine va_calll (va_runV (C := R_Wa) (As := []) (rest := []) ⟨hx, hb, hml, hown, hal⟩ (c_Wa_b l D cA a_n a_k H.size n_x n_y n_nodes n_aloneB k_sumsB_16 o_20 hc_19) (cwV 0 hal (goodV kw_572 kw_483 kw_484 kw_5 kw_485) rfl rfl rfl (by decide +kernel) ⟨Nat.le_of_ble_eq_true rfl, Nat.le_of_ble_eq_true rfl⟩) ⟨fun a U g mk q => by obtain ⟨q0, q1, qP, qK, qD⟩ := q; exact ⟨q0, q1, qP, va_K.moved (u := U) (U := U.calling g mk a) (Vm.Alike.refl U.vm) qK, qD⟩, va_recv hK hP (ci := 6) (q0 := 21) rfl rfl, fun U hU hW => ⟨rfl, by rw [hU], by rw [hU]; exact hPc, va_K.moved hW.alike hK, hDc.weaken (fun _ _ _ _ => trivial)⟩⟩ rfl rfl hl.1 rfl (lv_room (Nat.le_of_ble_eq_true rfl)) d_St_scan_39 ⟨Nat.le_of_ble_eq_true rfl, Nat.le_of_ble_eq_true rfl⟩) hS (fun q _ h => hFc q h) hFc (fun r_18 u t H1 locs ht hvm hw hB hz1 hk1 hS => ?_)
        subst hw
        obtain ⟨hP1, hK1, hD1⟩ := hB
        rw [ht] at hP1
        have hP1 : va_P D cls9 (wd_Wa_b cA a_n a_k n_x n_y n_nodes n_aloneB k_sumsB_16) H1 := hP1
        obtain ⟨hP, hD⟩ := va_join (wr := ([1, 2, 3, 4, 5, 6, 7, 8, 9, 10, 11, 12, 13, 14, 15, 16, 17, 18, 19, 20, 22, 23, 24, 26, 27, 28, 29, 30, 31, 32, 33, 34, 35, 36, 37, 38, 39, 40, 41, 42, 43, 44, 45, 46] : List Nat).filterMap (fun i => (wd_St_scan cA a_n a_k a_t n_x n_y n_nodes n_aloneB n_pairA n_pairB k_groups_16 k_opened_16 k_sumsA_16 k_sumsB_16 k_bringA_16 k_bringB_16 t_known t_count t_lastA t_lastB t_found_16 t_foundA_16 t_foundB_16 t_foundCode_16)[i]?)) (w1 := (wd_Wa_b cA a_n a_k n_x n_y n_nodes n_aloneB k_sumsB_16)) hP hD [0, 21, 25] [1, 2, 3, 4, 5, 6, 7, 8, 9, 10, 11, 12, 13, 14, 15, 16, 17, 18, 19, 20, 22, 23, 24, 26, 27, 28, 29, 30, 31, 32, 33, 34, 35, 36, 37, 38, 39, 40, 41, 42, 43, 44, 45, 46] rfl rfl (by decide) (by decide) hk1 hFc hP1 hD1
        generalize H1 = H at hP hS ⊢
        have hP : va_P D cls9 (wd_St_scan cA a_n a_k a_t n_x n_y n_nodes n_aloneB n_pairA n_pairB k_groups_16 k_opened_16 k_sumsA_16 k_sumsB_16 k_bringA_16 k_bringB_16 t_known t_count t_lastA t_lastB t_found_16 t_foundA_16 t_foundB_16 t_foundCode_16) H := hP.sub [44, 0, 1, 2, 3, 4, 5, 6, 7, 8, 9, 10, 11, 12, 13, 14, 15, 16, 17, 18, 19, 45, 20, 21, 22, 46, 23, 24, 25, 26, 27, 28, 29, 30, 31, 32, 33, 34, 35, 36, 37, 38, 39, 40, 41, 42, 43] rfl
        have hD : va_D A (wd_St_scan cA a_n a_k a_t n_x n_y n_nodes n_aloneB n_pairA n_pairB k_groups_16 k_opened_16 k_sumsA_16 k_sumsB_16 k_bringA_16 k_bringB_16 t_known t_count t_lastA t_lastB t_found_16 t_foundA_16 t_foundB_16 t_foundCode_16) := hD.sub [44, 0, 1, 2, 3, 4, 5, 6, 7, 8, 9, 10, 11, 12, 13, 14, 15, 16, 17, 18, 19, 45, 20, 21, 22, 46, 23, 24, 25, 26, 27, 28, 29, 30, 31, 32, 33, 34, 35, 36, 37, 38, 39, 40, 41, 42, 43] (by decide) rfl
        refine lv_lstore (lv' := [(5, .long r_18), (3, .long r_14), (2, .int x2_16), (1, .int x1_16), (0, .ref (a_t 0))]) hx hb d_St_scan_42 hl (by decide) rfl (fun ls hl => ?_)
        refine lv_aload_n hx hb d_St_scan_44 rfl (lv_at hl 4 rfl) ?_
        refine va_get (ci := 5) (v := .int t_count) (C := R_St) (T := F_St) (N := 12) hx hb hal in_St hown hK hP 46 rfl rfl 2 (by decide) (hal _ kw_205) (fun _ h9 => h9) rfl d_St_scan_45 ?_
        refine cast (hG _ _ _ _ _ _ _) (jn_go h (fun zz : Int32 × Int64 × Int64 × Int64 => ∀ (H : Heap) (locs : List Loc) (ls : Array Slot), va_P D cls9 (wd_St_scan cA a_n a_k a_t n_x n_y n_nodes n_aloneB n_pairA n_pairB k_groups_16 k_opened_16 k_sumsA_16 k_sumsB_16 k_bringA_16 k_bringB_16 t_known t_count t_lastA t_lastB zz.1 zz.2.1 zz.2.2.1 zz.2.2.2) H → va_D A (wd_St_scan cA a_n a_k a_t n_x n_y n_nodes n_aloneB n_pairA n_pairB k_groups_16 k_opened_16 k_sumsA_16 k_sumsB_16 k_bringA_16 k_bringB_16 t_known t_count t_lastA t_lastB zz.1 zz.2.1 zz.2.2.1 zz.2.2.2) → va_S A s.heap H locs → lv_has ls 7 [(5, .long r_18), (3, .long r_14), (2, .int x2_16), (1, .int x1_16), (0, .ref (a_t 0))] → G H locs 0 0 ls 81 []) ?_ ?_)
        · intro zz h H locs ls hP hD hS hl
          obtain ⟨t_found_81j, t_foundA_81j, t_foundB_81j, t_foundCode_81j⟩ := zz
          have hP : va_P D cls9 (wd_St_scan cA a_n a_k a_t n_x n_y n_nodes n_aloneB n_pairA n_pairB k_groups_16 k_opened_16 k_sumsA_16 k_sumsB_16 k_bringA_16 k_bringB_16 t_known t_count t_lastA t_lastB t_found_81j t_foundA_81j t_foundB_81j t_foundCode_81j) H := hP
          have hD : va_D A (wd_St_scan cA a_n a_k a_t n_x n_y n_nodes n_aloneB n_pairA n_pairB k_groups_16 k_opened_16 k_sumsA_16 k_sumsB_16 k_bringA_16 k_bringB_16 t_known t_count t_lastA t_lastB t_found_81j t_foundA_81j t_foundB_81j t_foundCode_81j) := hD
          have hl : lv_has ls 7 [(5, .long r_18), (3, .long r_14), (2, .int x2_16), (1, .int x1_16), (0, .ref (a_t 0))] := hl
          refine cast (hG _ _ _ _ _ _ _).symm ?_
          refine lv_aload_n hx hb d_St_scan_81 rfl (lv_at hl 4 rfl) ?_
          refine va_get (ci := 5) (v := .ref (a_k 0)) (C := R_St) (T := F_St) (N := 12) hx hb hal in_St hown hK hP 46 rfl rfl 0 (by decide) (hal _ kw_203) (fun _ h9 => h9) rfl d_St_scan_82 ?_
          obtain ⟨o_30, hc_29, h⟩ := bd h
          have hPc := hP.sub (ws' := (wd_Wa_step cA a_n a_k n_x n_y n_nodes n_aloneB n_pairA n_pairB k_groups_16 k_opened_16 k_sumsA_16 k_sumsB_16 k_bringA_16 k_bringB_16)) [0, 1, 2, 3, 4, 5, 6, 7, 8, 9, 10, 11, 12, 13, 14, 15, 16, 17, 18, 19, 20, 21, 22, 23, 24, 25, 26, 27, 28, 29, 30, 31, 32, 33, 34, 35, 36, 37, 38, 39, 40, 41, 42, 43, 44, 45] rfl
          have hDc := hD.sub (ws' := (wd_Wa_step cA a_n a_k n_x n_y n_nodes n_aloneB n_pairA n_pairB k_groups_16 k_opened_16 k_sumsA_16 k_sumsB_16 k_bringA_16 k_bringB_16)) [0, 1, 2, 3, 4, 5, 6, 7, 8, 9, 10, 11, 12, 13, 14, 15, 16, 17, 18, 19, 20, 21, 22, 23, 24, 25, 26, 27, 28, 29, 30, 31, 32, 33, 34, 35, 36, 37, 38, 39, 40, 41, 42, 43, 44, 45] (by decide) rfl
          have hFc := va_free (wc := (wd_Wa_step cA a_n a_k n_x n_y n_nodes n_aloneB n_pairA n_pairB k_groups_16 k_opened_16 k_sumsA_16 k_sumsB_16 k_bringA_16 k_bringB_16)) hD hS hA [0, 1, 2, 3, 4, 5, 6, 7, 8, 9, 10, 11, 12, 13, 14, 15, 16, 17, 18, 19, 20, 21, 22, 23, 24, 25, 26, 27, 28, 29, 30, 31, 32, 33, 34, 35, 36, 37, 38, 39, 40, 41, 42, 43, 44, 45] rfl
          refine va_calli (va_runV (C := R_Wa) (As := []) (rest := []) ⟨hx, hb, hml, hown, hal⟩ (c_Wa_step l D cA a_n a_k H.size n_x n_y n_nodes n_aloneB n_pairA n_pairB k_groups_16 k_opened_16 k_sumsA_16 k_sumsB_16 k_bringA_16 k_bringB_16 o_30 hc_29) (cwV 0 hal (goodV kw_586 kw_492 kw_493 kw_5 kw_494) rfl rfl rfl (by decide +kernel) ⟨Nat.le_of_ble_eq_true rfl, Nat.le_of_ble_eq_true rfl⟩) ⟨fun a U g mk q => by obtain ⟨q0, q1, qP, qK, qD⟩ := q; exact ⟨q0, q1, qP, va_K.moved (u := U) (U := U.calling g mk a) (Vm.Alike.refl U.vm) qK, qD⟩, va_recv hK hP (ci := 6) (q0 := 21) rfl rfl, fun U hU hW => ⟨rfl, by rw [hU], by rw [hU]; exact hPc, va_K.moved hW.alike hK, hDc.weaken (fun _ _ _ _ => trivial)⟩⟩ rfl rfl hl.1 rfl (lv_room (Nat.le_of_ble_eq_true rfl)) d_St_scan_85 ⟨Nat.le_of_ble_eq_true rfl, Nat.le_of_ble_eq_true rfl⟩) hS (fun q _ h => hFc q h) hFc (fun r_22 u t H1 locs ht hvm hw hB hz1 hk1 hS => ?_)
          obtain ⟨u_23, u_24, u_25, u_26, u_27, u_28⟩ := u
          subst hw
          obtain ⟨hP1, hK1, hD1⟩ := hB
          rw [ht] at hP1
          have hP1 : va_P D cls9 (wd_Wa_step cA a_n a_k n_x n_y n_nodes n_aloneB n_pairA n_pairB u_23 u_24 u_25 u_26 u_27 u_28) H1 := hP1
          obtain ⟨hP, hD⟩ := va_join (wr := ([46] : List Nat).filterMap (fun i => (wd_St_scan cA a_n a_k a_t n_x n_y n_nodes n_aloneB n_pairA n_pairB k_groups_16 k_opened_16 k_sumsA_16 k_sumsB_16 k_bringA_16 k_bringB_16 t_known t_count t_lastA t_lastB t_found_81j t_foundA_81j t_foundB_81j t_foundCode_81j)[i]?)) (w1 := (wd_Wa_step cA a_n a_k n_x n_y n_nodes n_aloneB n_pairA n_pairB u_23 u_24 u_25 u_26 u_27 u_28)) hP hD [0, 1, 2, 3, 4, 5, 6, 7, 8, 9, 10, 11, 12, 13, 14, 15, 16, 17, 18, 19, 20, 21, 22, 23, 24, 25, 26, 27, 28, 29, 30, 31, 32, 33, 34, 35, 36, 37, 38, 39, 40, 41, 42, 43, 44, 45] [46] rfl rfl (by decide) (by decide) hk1 hFc hP1 hD1
          generalize H1 = H at hP hS ⊢
          have hP : va_P D cls9 (wd_St_scan cA a_n a_k a_t n_x n_y n_nodes n_aloneB n_pairA n_pairB u_23 u_24 u_25 u_26 u_27 u_28 t_known t_count t_lastA t_lastB t_found_81j t_foundA_81j t_foundB_81j t_foundCode_81j) H := hP.sub [1, 2, 3, 4, 5, 6, 7, 8, 9, 10, 11, 12, 13, 14, 15, 16, 17, 18, 19, 20, 21, 22, 23, 24, 25, 26, 27, 28, 29, 30, 31, 32, 33, 34, 35, 36, 37, 38, 39, 40, 41, 42, 43, 44, 45, 46, 0] rfl
          have hD : va_D A (wd_St_scan cA a_n a_k a_t n_x n_y n_nodes n_aloneB n_pairA n_pairB u_23 u_24 u_25 u_26 u_27 u_28 t_known t_count t_lastA t_lastB t_found_81j t_foundA_81j t_foundB_81j t_foundCode_81j) := hD.sub [1, 2, 3, 4, 5, 6, 7, 8, 9, 10, 11, 12, 13, 14, 15, 16, 17, 18, 19, 20, 21, 22, 23, 24, 25, 26, 27, 28, 29, 30, 31, 32, 33, 34, 35, 36, 37, 38, 39, 40, 41, 42, 43, 44, 45, 46, 0] (by decide) rfl
          refine lv_istore_n (lv' := [(1, .int r_22), (5, .long r_18), (3, .long r_14), (2, .int x2_16), (0, .ref (a_t 0))]) hx hb d_St_scan_88 rfl hl (by decide) rfl (fun ls hl => ?_)
          refine lv_iinc (v := (x2_16 + 1)) (lv' := [(2, .int (x2_16 + 1)), (1, .int r_22), (5, .long r_18), (3, .long r_14), (0, .ref (a_t 0))]) hx hb d_St_scan_89 hl (k := 3) rfl rfl (by decide) rfl (fun ls hl => ?_)
          refine lv_goto (tgt := 16) hx hb d_St_scan_92 (by decide) ?_
          exact cast (hG _ _ _ _ _ _ _) (hB_16 (r_22, (x2_16 + 1), u_27, u_28, u_23, u_24, u_25, u_26, t_found_81j, t_foundA_81j, t_foundB_81j, t_foundCode_81j) h _ _ _ hP hD hS (lv_sub hl [0, 1, 4] rfl))
        · intro j81 hJ_81 h
          refine cast (hG _ _ _ _ _ _ _).symm ?_
          refine cast (hG _ _ _ _ _ _ _) (jn_go h (fun zz : Unit => ∀ (H : Heap) (locs : List Loc) (ls : Array Slot), va_P D cls9 (wd_St_scan cA a_n a_k a_t n_x n_y n_nodes n_aloneB n_pairA n_pairB k_groups_16 k_opened_16 k_sumsA_16 k_sumsB_16 k_bringA_16 k_bringB_16 t_known t_count t_lastA t_lastB t_found_16 t_foundA_16 t_foundB_16 t_foundCode_16) H → va_D A (wd_St_scan cA a_n a_k a_t n_x n_y n_nodes n_aloneB n_pairA n_pairB k_groups_16 k_opened_16 k_sumsA_16 k_sumsB_16 k_bringA_16 k_bringB_16 t_known t_count t_lastA t_lastB t_found_16 t_foundA_16 t_foundB_16 t_foundCode_16) → va_S A s.heap H locs → lv_has ls 7 [(5, .long r_18), (3, .long r_14), (2, .int x2_16), (1, .int x1_16), (0, .ref (a_t 0))] → G H locs 0 0 ls 74 []) ?_ ?_)
          · intro zz h H locs ls hP hD hS hl
            have hP : va_P D cls9 (wd_St_scan cA a_n a_k a_t n_x n_y n_nodes n_aloneB n_pairA n_pairB k_groups_16 k_opened_16 k_sumsA_16 k_sumsB_16 k_bringA_16 k_bringB_16 t_known t_count t_lastA t_lastB t_found_16 t_foundA_16 t_foundB_16 t_foundCode_16) H := hP
            have hD : va_D A (wd_St_scan cA a_n a_k a_t n_x n_y n_nodes n_aloneB n_pairA n_pairB k_groups_16 k_opened_16 k_sumsA_16 k_sumsB_16 k_bringA_16 k_bringB_16 t_known t_count t_lastA t_lastB t_found_16 t_foundA_16 t_foundB_16 t_foundCode_16) := hD
            have hl : lv_has ls 7 [(5, .long r_18), (3, .long r_14), (2, .int x2_16), (1, .int x1_16), (0, .ref (a_t 0))] := hl
            refine cast (hG _ _ _ _ _ _ _).symm ?_
            refine lv_aload_n hx hb d_St_scan_74 rfl (lv_at hl 4 rfl) ?_
            refine lv_lload_n hx hb d_St_scan_75 rfl (lv_at hl 1 rfl) ?_
            refine lv_lload hx hb d_St_scan_76 (lv_at hl 0 rfl) ?_
            obtain ⟨o_38, hc_37, h⟩ := bd h
            have hPc := hP.sub (ws' := (wd_St_note cA a_n a_k a_t n_x n_y n_nodes n_aloneB k_groups_16 t_known t_count t_lastA t_lastB t_found_16 t_foundA_16 t_foundB_16 t_foundCode_16)) [0, 21, 22, 46] rfl
            have hDc := hD.sub (ws' := (wd_St_note cA a_n a_k a_t n_x n_y n_nodes n_aloneB k_groups_16 t_known t_count t_lastA t_lastB t_found_16 t_foundA_16 t_foundB_16 t_foundCode_16)) [0, 21, 22, 46] (by decide) rfl
            have hFc := va_free (wc := (wd_St_note cA a_n a_k a_t n_x n_y n_nodes n_aloneB k_groups_16 t_known t_count t_lastA t_lastB t_found_16 t_foundA_16 t_foundB_16 t_foundCode_16)) hD hS hA [0, 21, 22, 46] rfl
            refine va_callv (va_runV (C := R_St) (As := [.long r_14, .long r_18]) (rest := []) ⟨hx, hb, hml, hown, hal⟩ (c_St_note l D cA a_n a_k a_t H.size n_x n_y n_nodes n_aloneB k_groups_16 t_known t_count t_lastA t_lastB t_found_16 t_foundA_16 t_foundB_16 t_foundCode_16 r_14 r_18 o_38 hc_37) (cwV 2 hal (goodV kw_581 kw_583 kw_p22 kw_8 kw_584) rfl rfl rfl (by decide +kernel) ⟨Nat.le_of_ble_eq_true rfl, Nat.le_of_ble_eq_true rfl⟩) ⟨fun a U g mk q => by obtain ⟨q0, q1, qP, qK, qD⟩ := q; exact ⟨q0, q1, qP, va_K.moved (u := U) (U := U.calling g mk a) (Vm.Alike.refl U.vm) qK, qD⟩, va_recv hK hP (ci := 5) (q0 := 46) rfl rfl, fun U hU hW => ⟨rfl, by rw [hU], by rw [hU]; exact hPc, va_K.moved hW.alike hK, hDc.weaken (fun _ _ _ _ => trivial)⟩⟩ rfl rfl hl.1 rfl (lv_room (Nat.le_of_ble_eq_true rfl)) d_St_scan_78 ⟨Nat.le_of_ble_eq_true rfl, Nat.le_of_ble_eq_true rfl⟩) hS (fun q _ h => hFc q h) hFc (fun u t H1 locs ht hvm hw hB hz1 hk1 hS => ?_)
            obtain ⟨u_33, u_34, u_35, u_36⟩ := u
            subst hw
            obtain ⟨hP1, hK1, hD1⟩ := hB
            rw [ht] at hP1
            have hP1 : va_P D cls9 (wd_St_note cA a_n a_k a_t n_x n_y n_nodes n_aloneB k_groups_16 t_known t_count t_lastA t_lastB u_33 u_34 u_35 u_36) H1 := hP1
            obtain ⟨hP, hD⟩ := va_join (wr := ([1, 2, 3, 4, 5, 6, 7, 8, 9, 10, 11, 12, 13, 14, 15, 16, 17, 18, 19, 20, 23, 24, 25, 26, 27, 28, 29, 30, 31, 32, 33, 34, 35, 36, 37, 38, 39, 40, 41, 42, 43, 44, 45] : List Nat).filterMap (fun i => (wd_St_scan cA a_n a_k a_t n_x n_y n_nodes n_aloneB n_pairA n_pairB k_groups_16 k_opened_16 k_sumsA_16 k_sumsB_16 k_bringA_16 k_bringB_16 t_known t_count t_lastA t_lastB t_found_16 t_foundA_16 t_foundB_16 t_foundCode_16)[i]?)) (w1 := (wd_St_note cA a_n a_k a_t n_x n_y n_nodes n_aloneB k_groups_16 t_known t_count t_lastA t_lastB u_33 u_34 u_35 u_36)) hP hD [0, 21, 22, 46] [1, 2, 3, 4, 5, 6, 7, 8, 9, 10, 11, 12, 13, 14, 15, 16, 17, 18, 19, 20, 23, 24, 25, 26, 27, 28, 29, 30, 31, 32, 33, 34, 35, 36, 37, 38, 39, 40, 41, 42, 43, 44, 45] rfl rfl (by decide) (by decide) hk1 hFc hP1 hD1
            generalize H1 = H at hP hS ⊢
            have hP : va_P D cls9 (wd_St_scan cA a_n a_k a_t n_x n_y n_nodes n_aloneB n_pairA n_pairB k_groups_16 k_opened_16 k_sumsA_16 k_sumsB_16 k_bringA_16 k_bringB_16 t_known t_count t_lastA t_lastB u_33 u_34 u_35 u_36) H := hP.sub [43, 0, 1, 2, 3, 4, 5, 6, 7, 8, 9, 10, 11, 12, 13, 14, 15, 16, 17, 18, 19, 44, 45, 20, 21, 22, 23, 24, 25, 26, 27, 28, 29, 30, 31, 32, 33, 34, 35, 36, 37, 38, 39, 40, 41, 42, 46] rfl
            have hD : va_D A (wd_St_scan cA a_n a_k a_t n_x n_y n_nodes n_aloneB n_pairA n_pairB k_groups_16 k_opened_16 k_sumsA_16 k_sumsB_16 k_bringA_16 k_bringB_16 t_known t_count t_lastA t_lastB u_33 u_34 u_35 u_36) := hD.sub [43, 0, 1, 2, 3, 4, 5, 6, 7, 8, 9, 10, 11, 12, 13, 14, 15, 16, 17, 18, 19, 44, 45, 20, 21, 22, 23, 24, 25, 26, 27, 28, 29, 30, 31, 32, 33, 34, 35, 36, 37, 38, 39, 40, 41, 42, 46] (by decide) rfl
            exact cast (hG _ _ _ _ _ _ _) (hJ_81 (u_33, u_34, u_35, u_36) h _ _ _ hP hD hS (lv_sub hl [0, 1, 2, 3, 4] rfl))
          · intro j74 hJ_74 h
            refine cast (hG _ _ _ _ _ _ _).symm ?_
            refine lv_if_ne (tgt := 64) hx hb d_St_scan_48 (by decide) (fun c_39 => ?_) (fun c_39 => ?_)
            · have h := ifn (c_39) h
              refine lv_aload_n hx hb d_St_scan_64 rfl (lv_at hl 4 rfl) ?_
              refine lv_lload_n hx hb d_St_scan_65 rfl (lv_at hl 1 rfl) ?_
              refine lv_lload hx hb d_St_scan_66 (lv_at hl 0 rfl) ?_
              obtain ⟨o_43, hc_42, h⟩ := bd h
              have hPc := hP.sub (ws' := (wd_St_comesSooner cA a_k a_t t_known t_count t_lastA t_lastB t_found_16 t_foundA_16 t_foundB_16 t_foundCode_16)) [46] rfl
              have hDc := hD.sub (ws' := (wd_St_comesSooner cA a_k a_t t_known t_count t_lastA t_lastB t_found_16 t_foundA_16 t_foundB_16 t_foundCode_16)) [46] (by decide) rfl
              have hFc := va_free (wc := (wd_St_comesSooner cA a_k a_t t_known t_count t_lastA t_lastB t_found_16 t_foundA_16 t_foundB_16 t_foundCode_16)) hD hS hA [46] rfl
              refine va_calli (va_runV (C := R_St) (As := [.long r_14, .long r_18]) (rest := []) ⟨hx, hb, hml, hown, hal⟩ (c_St_comesSooner l D cA a_k a_t H.size t_known t_count t_lastA t_lastB t_found_16 t_foundA_16 t_foundB_16 t_foundCode_16 r_14 r_18 o_43 hc_42) (cwV 2 hal (goodV kw_577 kw_579 kw_p21 kw_8 kw_580) rfl rfl rfl (by decide +kernel) ⟨Nat.le_of_ble_eq_true rfl, Nat.le_of_ble_eq_true rfl⟩) ⟨fun a U g mk q => by obtain ⟨q0, q1, qP, qK, qD⟩ := q; exact ⟨q0, q1, qP, va_K.moved (u := U) (U := U.calling g mk a) (Vm.Alike.refl U.vm) qK, qD⟩, va_recv hK hP (ci := 5) (q0 := 46) rfl rfl, fun U hU hW => ⟨rfl, by rw [hU], by rw [hU]; exact hPc, va_K.moved hW.alike hK, hDc.weaken (fun _ _ _ _ => trivial)⟩⟩ rfl rfl hl.1 rfl (lv_room (Nat.le_of_ble_eq_true rfl)) d_St_scan_68 ⟨Nat.le_of_ble_eq_true rfl, Nat.le_of_ble_eq_true rfl⟩) hS (fun q _ h => hFc q h) hFc (fun r_41 u t H1 locs ht hvm hw hB hz1 hk1 hS => ?_)
              subst hw
              obtain ⟨hP1, hK1, hD1⟩ := hB
              rw [ht] at hP1
              have hP1 : va_P D cls9 (wd_St_comesSooner cA a_k a_t t_known t_count t_lastA t_lastB t_found_16 t_foundA_16 t_foundB_16 t_foundCode_16) H1 := hP1
              obtain ⟨hP, hD⟩ := va_join (wr := ([0, 1, 2, 3, 4, 5, 6, 7, 8, 9, 10, 11, 12, 13, 14, 15, 16, 17, 18, 19, 20, 21, 22, 23, 24, 25, 26, 27, 28, 29, 30, 31, 32, 33, 34, 35, 36, 37, 38, 39, 40, 41, 42, 43, 44, 45] : List Nat).filterMap (fun i => (wd_St_scan cA a_n a_k a_t n_x n_y n_nodes n_aloneB n_pairA n_pairB k_groups_16 k_opened_16 k_sumsA_16 k_sumsB_16 k_bringA_16 k_bringB_16 t_known t_count t_lastA t_lastB t_found_16 t_foundA_16 t_foundB_16 t_foundCode_16)[i]?)) (w1 := (wd_St_comesSooner cA a_k a_t t_known t_count t_lastA t_lastB t_found_16 t_foundA_16 t_foundB_16 t_foundCode_16)) hP hD [46] [0, 1, 2, 3, 4, 5, 6, 7, 8, 9, 10, 11, 12, 13, 14, 15, 16, 17, 18, 19, 20, 21, 22, 23, 24, 25, 26, 27, 28, 29, 30, 31, 32, 33, 34, 35, 36, 37, 38, 39, 40, 41, 42, 43, 44, 45] rfl rfl (by decide) (by decide) hk1 hFc hP1 hD1
              generalize H1 = H at hP hS ⊢
              have hP : va_P D cls9 (wd_St_scan cA a_n a_k a_t n_x n_y n_nodes n_aloneB n_pairA n_pairB k_groups_16 k_opened_16 k_sumsA_16 k_sumsB_16 k_bringA_16 k_bringB_16 t_known t_count t_lastA t_lastB t_found_16 t_foundA_16 t_foundB_16 t_foundCode_16) H := hP.sub [0, 1, 2, 3, 4, 5, 6, 7, 8, 9, 10, 11, 12, 13, 14, 15, 16, 17, 18, 19, 20, 21, 22, 23, 24, 25, 26, 27, 28, 29, 30, 31, 32, 33, 34, 35, 36, 37, 38, 39, 40, 41, 42, 43, 44, 45, 46] rfl
              have hD : va_D A (wd_St_scan cA a_n a_k a_t n_x n_y n_nodes n_aloneB n_pairA n_pairB k_groups_16 k_opened_16 k_sumsA_16 k_sumsB_16 k_bringA_16 k_bringB_16 t_known t_count t_lastA t_lastB t_found_16 t_foundA_16 t_foundB_16 t_foundCode_16) := hD.sub [0, 1, 2, 3, 4, 5, 6, 7, 8, 9, 10, 11, 12, 13, 14, 15, 16, 17, 18, 19, 20, 21, 22, 23, 24, 25, 26, 27, 28, 29, 30, 31, 32, 33, 34, 35, 36, 37, 38, 39, 40, 41, 42, 43, 44, 45, 46] (by decide) rfl
              refine lv_if_eq (tgt := 81) hx hb d_St_scan_71 (by decide) (fun c_44 => ?_) (fun c_44 => ?_)
              · have h := ifp (c_44) h
                exact cast (hG _ _ _ _ _ _ _) (hJ_81 (t_found_16, t_foundA_16, t_foundB_16, t_foundCode_16) h _ _ _ hP hD hS (lv_sub hl [0, 1, 2, 3, 4] rfl))
              · have h := ifn (c_44) h
                exact cast (hG _ _ _ _ _ _ _) (hJ_74 () h _ _ _ hP hD hS (lv_sub hl [0, 1, 2, 3, 4] rfl))
            · have h := ifp (c_39) h
              refine lv_aload_n hx hb d_St_scan_51 rfl (lv_at hl 4 rfl) ?_
              refine lv_lload_n hx hb d_St_scan_52 rfl (lv_at hl 1 rfl) ?_
              refine lv_lload hx hb d_St_scan_53 (lv_at hl 0 rfl) ?_
              obtain ⟨o_48, hc_47, h⟩ := bd h
              have hPc := hP.sub (ws' := (wd_St_standsHigher cA a_k a_t t_known t_count t_lastA t_lastB t_found_16 t_foundA_16 t_foundB_16 t_foundCode_16)) [46] rfl
              have hDc := hD.sub (ws' := (wd_St_standsHigher cA a_k a_t t_known t_count t_lastA t_lastB t_found_16 t_foundA_16 t_foundB_16 t_foundCode_16)) [46] (by decide) rfl
              have hFc := va_free (wc := (wd_St_standsHigher cA a_k a_t t_known t_count t_lastA t_lastB t_found_16 t_foundA_16 t_foundB_16 t_foundCode_16)) hD hS hA [46] rfl
              refine va_calli (va_runV (C := R_St) (As := [.long r_14, .long r_18]) (rest := []) ⟨hx, hb, hml, hown, hal⟩ (c_St_standsHigher l D cA a_k a_t H.size t_known t_count t_lastA t_lastB t_found_16 t_foundA_16 t_foundB_16 t_foundCode_16 r_14 r_18 o_48 hc_47) (cwV 2 hal (goodV kw_573 kw_575 kw_p20 kw_8 kw_576) rfl rfl rfl (by decide +kernel) ⟨Nat.le_of_ble_eq_true rfl, Nat.le_of_ble_eq_true rfl⟩) ⟨fun a U g mk q => by obtain ⟨q0, q1, qP, qK, qD⟩ := q; exact ⟨q0, q1, qP, va_K.moved (u := U) (U := U.calling g mk a) (Vm.Alike.refl U.vm) qK, qD⟩, va_recv hK hP (ci := 5) (q0 := 46) rfl rfl, fun U hU hW => ⟨rfl, by rw [hU], by rw [hU]; exact hPc, va_K.moved hW.alike hK, hDc.weaken (fun _ _ _ _ => trivial)⟩⟩ rfl rfl hl.1 rfl (lv_room (Nat.le_of_ble_eq_true rfl)) d_St_scan_55 ⟨Nat.le_of_ble_eq_true rfl, Nat.le_of_ble_eq_true rfl⟩) hS (fun q _ h => hFc q h) hFc (fun r_46 u t H1 locs ht hvm hw hB hz1 hk1 hS => ?_)
              subst hw
              obtain ⟨hP1, hK1, hD1⟩ := hB
              rw [ht] at hP1
              have hP1 : va_P D cls9 (wd_St_standsHigher cA a_k a_t t_known t_count t_lastA t_lastB t_found_16 t_foundA_16 t_foundB_16 t_foundCode_16) H1 := hP1
              obtain ⟨hP, hD⟩ := va_join (wr := ([0, 1, 2, 3, 4, 5, 6, 7, 8, 9, 10, 11, 12, 13, 14, 15, 16, 17, 18, 19, 20, 21, 22, 23, 24, 25, 26, 27, 28, 29, 30, 31, 32, 33, 34, 35, 36, 37, 38, 39, 40, 41, 42, 43, 44, 45] : List Nat).filterMap (fun i => (wd_St_scan cA a_n a_k a_t n_x n_y n_nodes n_aloneB n_pairA n_pairB k_groups_16 k_opened_16 k_sumsA_16 k_sumsB_16 k_bringA_16 k_bringB_16 t_known t_count t_lastA t_lastB t_found_16 t_foundA_16 t_foundB_16 t_foundCode_16)[i]?)) (w1 := (wd_St_standsHigher cA a_k a_t t_known t_count t_lastA t_lastB t_found_16 t_foundA_16 t_foundB_16 t_foundCode_16)) hP hD [46] [0, 1, 2, 3, 4, 5, 6, 7, 8, 9, 10, 11, 12, 13, 14, 15, 16, 17, 18, 19, 20, 21, 22, 23, 24, 25, 26, 27, 28, 29, 30, 31, 32, 33, 34, 35, 36, 37, 38, 39, 40, 41, 42, 43, 44, 45] rfl rfl (by decide) (by decide) hk1 hFc hP1 hD1
              generalize H1 = H at hP hS ⊢
              have hP : va_P D cls9 (wd_St_scan cA a_n a_k a_t n_x n_y n_nodes n_aloneB n_pairA n_pairB k_groups_16 k_opened_16 k_sumsA_16 k_sumsB_16 k_bringA_16 k_bringB_16 t_known t_count t_lastA t_lastB t_found_16 t_foundA_16 t_foundB_16 t_foundCode_16) H := hP.sub [0, 1, 2, 3, 4, 5, 6, 7, 8, 9, 10, 11, 12, 13, 14, 15, 16, 17, 18, 19, 20, 21, 22, 23, 24, 25, 26, 27, 28, 29, 30, 31, 32, 33, 34, 35, 36, 37, 38, 39, 40, 41, 42, 43, 44, 45, 46] rfl
              have hD : va_D A (wd_St_scan cA a_n a_k a_t n_x n_y n_nodes n_aloneB n_pairA n_pairB k_groups_16 k_opened_16 k_sumsA_16 k_sumsB_16 k_bringA_16 k_bringB_16 t_known t_count t_lastA t_lastB t_found_16 t_foundA_16 t_foundB_16 t_foundCode_16) := hD.sub [0, 1, 2, 3, 4, 5, 6, 7, 8, 9, 10, 11, 12, 13, 14, 15, 16, 17, 18, 19, 20, 21, 22, 23, 24, 25, 26, 27, 28, 29, 30, 31, 32, 33, 34, 35, 36, 37, 38, 39, 40, 41, 42, 43, 44, 45, 46] (by decide) rfl
              refine lv_if_eq (tgt := 81) hx hb d_St_scan_58 (by decide) (fun c_49 => ?_) (fun c_49 => ?_)
              · have h := ifp (c_49) h
                exact cast (hG _ _ _ _ _ _ _) (hJ_81 (t_found_16, t_foundA_16, t_foundB_16, t_foundCode_16) h _ _ _ hP hD hS (lv_sub hl [0, 1, 2, 3, 4] rfl))
              · have h := ifn (c_49) h
                refine lv_goto (tgt := 74) hx hb d_St_scan_61 (by decide) ?_
                exact cast (hG _ _ _ _ _ _ _) (hJ_74 () h _ _ _ hP hD hS (lv_sub hl [0, 1, 2, 3, 4] rfl))
def wd_St_commonDivisor (cA : Nat → ClassId)   : va_W := []
noncomputable def s_St_commonDivisor_15  (zz : Int64 × Int64 × Int32) (back exit : (Int64 × Int64 × Int32) → Option Int64) : Option Int64 :=
  (if zz.2.1 = (0 : Int64) then (exit (zz.1, zz.2.1, zz.2.2)) else (if (100 : Int32) ≤ zz.2.2 then (exit (zz.1, zz.2.1, zz.2.2)) else (if ¬ zz.2.1 = 0 then (back (zz.2.1, (zz.1 - zz.1 / zz.2.1 * zz.2.1), (zz.2.2 + 1))) else none)))
noncomputable def m_St_commonDivisor (v0 : Int64) (v2 : Int64) : Option Int64 :=
  (loopC (s_St_commonDivisor_15) (fun z15 : Int64 × Int64 × Int32 => some z15.1) FU ((if 0 < v0 then v0 else -v0), (if 0 < v2 then v2 else -v2), (0 : Int32)))
set_option maxHeartbeats 4000000 in
set_option maxRecDepth 100000 in
theorem c_St_commonDivisor (l : Launch) (D : va_G) (cA : Nat → ClassId)  (sz : Nat)  (v0 : Int64) (v2 : Int64) (out : Int64) (h : m_St_commonDivisor v0 v2 = some out) : Met l y_St_commonDivisor w_St_commonDivisor ({ frames := 1, cells := 0, slots := 0, locals := 21 }) (va_Pc [.long v0, .long v2] (fun U => U.heap.size = sz ∧ va_P D cls9 (wd_St_commonDivisor cA) U.heap ∧ va_K D cls9 (tys5 cA) U ∧ va_D (fun _ => True) (wd_St_commonDivisor cA))) (va_Ql (fun (rr : Int64) (uu : Unit) => rr = out) (fun (uu : Unit) (t : State) => va_P D cls9 (wd_St_commonDivisor cA) t.heap ∧ va_K D cls9 (tys5 cA) t ∧ va_D (va_A (wd_St_commonDivisor cA) sz) (wd_St_commonDivisor cA)) (va_A (wd_St_commonDivisor cA) sz)) 0 0 (va_A (wd_St_commonDivisor cA) sz) := by
  refine Met.ofW (cc := b_St_commonDivisor) (maxL := 11) (ret := (Option.some Jvm.ClassFile.FieldType.long)) (by decide) rfl ?_
  intro p e s m args below meth c s₁ B hml hv
  obtain ⟨rfl, hsz, hP, hK, hD0⟩ := hv
  have hx := B.exec
  have hb := B.bytes
  have hr := B.returns
  have hts := atoms_spec (ws := w_St_commonDivisor) B.pre
  have hal : ∀ w ∈ ALLW, w.before _ s = true := fun w hw => hts w (List.mem_cons_of_mem _ hw)
  have hown : s.vm.findClass R_St = some m.cls := findClass_of_methodNamed B.named
  have hlocks := B.notSynchronized
  subst hsz
  have hD := hD0.self (sz := s.heap.size)
  generalize hAe : va_A (wd_St_commonDivisor cA) s.heap.size = A at hD ⊢
  have hA : ∀ q : Nat, s.heap.size ≤ q → A q := fun q h => by rw [← hAe]; exact Or.inr h
  have hS : va_S A s.heap s.heap [] := va_S.rf
  have hl := lv_entry ([.long v0, .long v2]) (n := 11) (Nat.le_of_ble_eq_true rfl)
  rw [lg_entry_eq]
  generalize (lg_sl ([.long v0, .long v2]) ++ List.replicate (11 - (lg_sl ([.long v0, .long v2])).length) Slot.unset).toArray = ls at hl ⊢
  have hl : lv_has ls 11 [(0, .long v0), (2, .long v2)] := hl
  refine wg (fun G hG => ?_)
  refine cast (hG _ _ _ _ _ _ _).symm ?_
  obtain ⟨H, locs, hHl, hS⟩ : ∃ (H : Heap) (locs : List Loc), (H = s.heap ∧ locs = []) ∧ va_S A s.heap H locs := ⟨s.heap, [], ⟨rfl, rfl⟩, hS⟩
  have hP : va_P D cls9 (wd_St_commonDivisor cA) H := by rw [hHl.1]; exact hP
  rw [← hHl.1, ← hHl.2]
  clear hHl
  refine lv_lload_n hx hb d_St_commonDivisor_0 rfl (lv_at hl 0 rfl) ?_
  refine va_mabs_long hx hb (by rw [hml]; exact hl.1.symm) hown (hal _ kw_614) (hal _ kw_615) (hal _ kw_11) (hal _ kw_616) (Nat.le_of_ble_eq_true rfl) (Nat.le_of_ble_eq_true rfl) (Nat.zero_le _) (Nat.zero_le _) d_St_commonDivisor_1 ?_
  refine lv_lstore (lv' := [(4, .long (if 0 < v0 then v0 else -v0)), (0, .long v0), (2, .long v2)]) hx hb d_St_commonDivisor_4 hl (by decide) rfl (fun ls hl => ?_)
  refine lv_lload_n hx hb d_St_commonDivisor_6 rfl (lv_at hl 2 rfl) ?_
  refine va_mabs_long hx hb (by rw [hml]; exact hl.1.symm) hown (hal _ kw_614) (hal _ kw_615) (hal _ kw_11) (hal _ kw_616) (Nat.le_of_ble_eq_true rfl) (Nat.le_of_ble_eq_true rfl) (Nat.zero_le _) (Nat.zero_le _) d_St_commonDivisor_7 ?_
  refine lv_lstore (lv' := [(6, .long (if 0 < v2 then v2 else -v2)), (4, .long (if 0 < v0 then v0 else -v0)), (0, .long v0), (2, .long v2)]) hx hb d_St_commonDivisor_10 hl (by decide) rfl (fun ls hl => ?_)
  refine lv_iconst (v := 0) hx hb d_St_commonDivisor_12 (by decide) ?_
  refine lv_istore (lv' := [(8, .int (0 : Int32)), (6, .long (if 0 < v2 then v2 else -v2)), (4, .long (if 0 < v0 then v0 else -v0)), (0, .long v0), (2, .long v2)]) hx hb d_St_commonDivisor_13 hl (by decide) rfl (fun ls hl => ?_)
  refine cast (hG _ _ _ _ _ _ _) (lp_go2 h (fun zz : Int64 × Int64 × Int32 => ∀ (H : Heap) (locs : List Loc) (ls : Array Slot), va_P D cls9 (wd_St_commonDivisor cA) H → va_D A (wd_St_commonDivisor cA) → va_S A s.heap H locs → lv_has ls 11 [(8, .int zz.2.2), (6, .long zz.2.1), (4, .long zz.1), (0, .long v0), (2, .long v2)] → G H locs 0 0 ls 50 []) ?_ (fun zz : Int64 × Int64 × Int32 => ∀ (H : Heap) (locs : List Loc) (ls : Array Slot), va_P D cls9 (wd_St_commonDivisor cA) H → va_D A (wd_St_commonDivisor cA) → va_S A s.heap H locs → lv_has ls 11 [(8, .int zz.2.2), (6, .long zz.2.1), (4, .long zz.1), (0, .long v0), (2, .long v2)] → G H locs 0 0 ls 15 []) ?_ _ _ ls hP hD hS (lv_sub hl [0, 1, 2, 3, 4] rfl))
  · intro zz h H locs ls hP hD hS hl
    obtain ⟨x4_15e, x6_15e, x8_15e⟩ := zz
    have hP : va_P D cls9 (wd_St_commonDivisor cA) H := hP
    have hD : va_D A (wd_St_commonDivisor cA) := hD
    have hl : lv_has ls 11 [(8, .int x8_15e), (6, .long x6_15e), (4, .long x4_15e), (0, .long v0), (2, .long v2)] := hl
    refine cast (hG _ _ _ _ _ _ _).symm ?_
    refine lv_lload hx hb d_St_commonDivisor_50 (lv_at hl 2 rfl) ?_
    exact W.lret (v := x4_15e) hx hb hr (fun t ht hW => ⟨⟨x4_15e, (), rfl, Option.some.inj h, by rw [ht]; exact hP, va_K.moved hW.alike hK, hD⟩, hS.F ht⟩) hS.2.2 d_St_commonDivisor_52
  · intro back exit zz hB_15 hE_15 h H locs ls hP hD hS hl
    obtain ⟨x4_15, x6_15, x8_15⟩ := zz
    have hP : va_P D cls9 (wd_St_commonDivisor cA) H := hP
    have hD : va_D A (wd_St_commonDivisor cA) := hD
    have hl : lv_has ls 11 [(8, .int x8_15), (6, .long x6_15), (4, .long x4_15), (0, .long v0), (2, .long v2)] := hl
    refine cast (hG _ _ _ _ _ _ _).symm ?_
    refine lv_lload hx hb d_St_commonDivisor_15 (lv_at hl 1 rfl) ?_
    refine lv_lconst (v := 0) hx hb d_St_commonDivisor_17 (by decide) ?_
    refine W.lcmp hx hb d_St_commonDivisor_18 ?_
    refine lv_if_eq (tgt := 50) hx hb d_St_commonDivisor_19 (by decide) (fun c_1 => ?_) (fun c_1 => ?_)
    · have h := ifp (lc_eq.mp (c_1)) h
      exact cast (hG _ _ _ _ _ _ _) (hE_15 (x4_15, x6_15, x8_15) h _ _ _ hP hD hS (lv_sub hl [0, 1, 2, 3, 4] rfl))
    · have h := ifn (fun q => (c_1) (lc_eq.mpr q)) h
      refine lv_iload hx hb d_St_commonDivisor_22 (lv_at hl 0 rfl) ?_
      refine lv_bipush (v := 100) hx hb d_St_commonDivisor_24 (by decide) ?_
      refine lv_icmp_ge (tgt := 50) hx hb d_St_commonDivisor_26 (by decide) (fun c_2 => ?_) (fun c_2 => ?_)
      · have h := ifp (c_2) h
        exact cast (hG _ _ _ _ _ _ _) (hE_15 (x4_15, x6_15, x8_15) h _ _ _ hP hD hS (lv_sub hl [0, 1, 2, 3, 4] rfl))
      · have h := ifn (c_2) h
        refine lv_lload hx hb d_St_commonDivisor_29 (lv_at hl 2 rfl) ?_
        refine lv_lload hx hb d_St_commonDivisor_31 (lv_at hl 1 rfl) ?_
        obtain ⟨z_3, h⟩ := gd h
        refine lv_lrem hx hb d_St_commonDivisor_33 z_3 ?_
        refine lv_lstore (lv' := [(9, .long (x4_15 - x4_15 / x6_15 * x6_15)), (8, .int x8_15), (6, .long x6_15), (4, .long x4_15), (0, .long v0), (2, .long v2)]) hx hb d_St_commonDivisor_34 hl (by decide) rfl (fun ls hl => ?_)
        refine lv_lload hx hb d_St_commonDivisor_36 (lv_at hl 2 rfl) ?_
        refine lv_lstore (lv' := [(4, .long x6_15), (9, .long (x4_15 - x4_15 / x6_15 * x6_15)), (8, .int x8_15), (6, .long x6_15), (0, .long v0), (2, .long v2)]) hx hb d_St_commonDivisor_38 hl (by decide) rfl (fun ls hl => ?_)
        refine lv_lload hx hb d_St_commonDivisor_40 (lv_at hl 1 rfl) ?_
        refine lv_lstore (lv' := [(6, .long (x4_15 - x4_15 / x6_15 * x6_15)), (4, .long x6_15), (9, .long (x4_15 - x4_15 / x6_15 * x6_15)), (8, .int x8_15), (0, .long v0), (2, .long v2)]) hx hb d_St_commonDivisor_42 hl (by decide) rfl (fun ls hl => ?_)
        refine lv_iinc (v := (x8_15 + 1)) (lv' := [(8, .int (x8_15 + 1)), (6, .long (x4_15 - x4_15 / x6_15 * x6_15)), (4, .long x6_15), (9, .long (x4_15 - x4_15 / x6_15 * x6_15)), (0, .long v0), (2, .long v2)]) hx hb d_St_commonDivisor_44 hl (k := 3) rfl rfl (by decide) rfl (fun ls hl => ?_)
        refine lv_goto (tgt := 15) hx hb d_St_commonDivisor_47 (by decide) ?_
        exact cast (hG _ _ _ _ _ _ _) (hB_15 (x6_15, (x4_15 - x4_15 / x6_15 * x6_15), (x8_15 + 1)) h _ _ _ hP hD hS (lv_sub hl [0, 1, 2, 4, 5] rfl))
