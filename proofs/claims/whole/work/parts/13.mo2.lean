def wd_Mo_put (cA : Nat → ClassId) (a_r : Nat → Nat) (r_manner : Int32) (r_above : Int32) (r_below : Int32) (r_nodes : Int32) (r_arcs : Int32) (r_left : Int32) (r_isBest : Int32) (r_arePlateaus : Int32) (r_all : Int64) (r_a : Int64) (r_b : Int64) (r_ties : Int32) (r_z : Int32) (r_plateaus : Int32) (r_hand : Nat → Int32) (r_names : Nat → Int32) : va_W := [(a_r 0, .inr (8, [.int r_manner, .int r_above, .int r_below, .int r_nodes, .int r_arcs, .int r_left, .ref (a_r 1), .ref (a_r 2), .ref (a_r 3), .ref (a_r 4), .ref (a_r 5), .int r_isBest, .int r_arePlateaus, .ref (a_r 6), .ref (a_r 7), .ref (a_r 8), .long r_all, .ref (a_r 9), .ref (a_r 10), .long r_a, .long r_b, .ref (a_r 11), .ref (a_r 12), .ref (a_r 13), .ref (a_r 14), .ref (a_r 15), .int r_ties, .ref (a_r 16), .ref (a_r 17), .ref (a_r 18), .int r_z, .int r_plateaus, .ref (a_r 19), .ref (a_r 20), .ref (a_r 21), .ref (a_r 22)])), (a_r 5, .inl (cA 0, 9, .inl r_hand)), (a_r 11, .inl (cA 0, 9, .inl r_names))]
noncomputable def m_Mo_put (r_nodes : Int32) (r_hand : Nat → Int32) (r_names : Nat → Int32) (v1 : Int32) (v2 : Int32) : Option (Int32 × (Nat → Int32) × (Nat → Int32)) :=
  ((m_Mo_isNode r_nodes v1).bind (fun r2 : Int32 => (if r2 = 0 then some ((-1 : Int32), r_hand, r_names) else ((m_Mo_isNode r_nodes v2).bind (fun r10 : Int32 => (if r10 = 0 then some ((-1 : Int32), r_hand, r_names) else ((m_Mo_moveIn r_nodes r_names r_hand v1 v2).bind (fun r25 : (Nat → Int32) × (Nat → Int32) => ((m_Mo_number r_nodes r25.1 r25.2).bind (fun r33 : Int32 × (Nat → Int32) × (Nat → Int32) => some (r33.1, r33.2.2, r33.2.1)))))))))))
set_option maxHeartbeats 4000000 in
set_option maxRecDepth 100000 in
theorem c_Mo_put (l : Launch) (D : va_G) (cA : Nat → ClassId) (a_r : Nat → Nat) (sz : Nat) (r_manner : Int32) (r_above : Int32) (r_below : Int32) (r_nodes : Int32) (r_arcs : Int32) (r_left : Int32) (r_isBest : Int32) (r_arePlateaus : Int32) (r_all : Int64) (r_a : Int64) (r_b : Int64) (r_ties : Int32) (r_z : Int32) (r_plateaus : Int32) (r_hand : Nat → Int32) (r_names : Nat → Int32) (v1 : Int32) (v2 : Int32) (out : Int32 × (Nat → Int32) × (Nat → Int32)) (h : m_Mo_put r_nodes r_hand r_names v1 v2 = some out) : Met l y_Mo_put w_Mo_put ({ frames := 2, cells := 0, slots := 0, locals := 49 }) (va_Pc [.ref (a_r 0), .int v1, .int v2] (fun U => U.heap.size = sz ∧ va_P D cls9 (wd_Mo_put cA a_r r_manner r_above r_below r_nodes r_arcs r_left r_isBest r_arePlateaus r_all r_a r_b r_ties r_z r_plateaus r_hand r_names) U.heap ∧ va_K D cls9 (tys5 cA) U ∧ va_D (fun _ => True) (wd_Mo_put cA a_r r_manner r_above r_below r_nodes r_arcs r_left r_isBest r_arePlateaus r_all r_a r_b r_ties r_z r_plateaus r_hand r_names))) (va_Qi (fun (rr : Int32) (uu : (Nat → Int32) × (Nat → Int32)) => (rr, uu) = out) (fun (uu : (Nat → Int32) × (Nat → Int32)) (t : State) => va_P D cls9 (wd_Mo_put cA a_r r_manner r_above r_below r_nodes r_arcs r_left r_isBest r_arePlateaus r_all r_a r_b r_ties r_z r_plateaus uu.1 uu.2) t.heap ∧ va_K D cls9 (tys5 cA) t ∧ va_D (va_A (wd_Mo_put cA a_r r_manner r_above r_below r_nodes r_arcs r_left r_isBest r_arePlateaus r_all r_a r_b r_ties r_z r_plateaus r_hand r_names) sz) (wd_Mo_put cA a_r r_manner r_above r_below r_nodes r_arcs r_left r_isBest r_arePlateaus r_all r_a r_b r_ties r_z r_plateaus uu.1 uu.2)) (va_A (wd_Mo_put cA a_r r_manner r_above r_below r_nodes r_arcs r_left r_isBest r_arePlateaus r_all r_a r_b r_ties r_z r_plateaus r_hand r_names) sz)) 0 0 (va_A (wd_Mo_put cA a_r r_manner r_above r_below r_nodes r_arcs r_left r_isBest r_arePlateaus r_all r_a r_b r_ties r_z r_plateaus r_hand r_names) sz) := by
  refine Met.ofW (cc := b_Mo_put) (maxL := 3) (ret := (Option.some Jvm.ClassFile.FieldType.int)) (by decide) rfl ?_
  intro p e s m args below meth c s₁ B hml hv
  obtain ⟨rfl, hsz, hP, hK, hD0⟩ := hv
  have hx := B.exec
  have hb := B.bytes
  have hr := B.returns
  have hts := atoms_spec (ws := w_Mo_put) B.pre
  have hal : ∀ w ∈ ALLW, w.before _ s = true := fun w hw => hts w (List.mem_cons_of_mem _ hw)
  have hown : s.vm.findClass R_Mo = some m.cls := findClass_of_methodNamed B.named
  have hlocks := B.notSynchronized
  subst hsz
  have hD := hD0.self (sz := s.heap.size)
  generalize hAe : va_A (wd_Mo_put cA a_r r_manner r_above r_below r_nodes r_arcs r_left r_isBest r_arePlateaus r_all r_a r_b r_ties r_z r_plateaus r_hand r_names) s.heap.size = A at hD ⊢
  have hA : ∀ q : Nat, s.heap.size ≤ q → A q := fun q h => by rw [← hAe]; exact Or.inr h
  have hS : va_S A s.heap s.heap [] := va_S.rf
  have hl := lv_entry ([.ref (a_r 0), .int v1, .int v2]) (n := 3) (Nat.le_of_ble_eq_true rfl)
  rw [lg_entry_eq]
  generalize (lg_sl ([.ref (a_r 0), .int v1, .int v2]) ++ List.replicate (3 - (lg_sl ([.ref (a_r 0), .int v1, .int v2])).length) Slot.unset).toArray = ls at hl ⊢
  have hl : lv_has ls 3 [(0, .ref (a_r 0)), (1, .int v1), (2, .int v2)] := hl
  refine wg (fun G hG => ?_)
  refine cast (hG _ _ _ _ _ _ _).symm ?_
  obtain ⟨H, locs, hHl, hS⟩ : ∃ (H : Heap) (locs : List Loc), (H = s.heap ∧ locs = []) ∧ va_S A s.heap H locs := ⟨s.heap, [], ⟨rfl, rfl⟩, hS⟩
  have hP : va_P D cls9 (wd_Mo_put cA a_r r_manner r_above r_below r_nodes r_arcs r_left r_isBest r_arePlateaus r_all r_a r_b r_ties r_z r_plateaus r_hand r_names) H := by rw [hHl.1]; exact hP
  rw [← hHl.1, ← hHl.2]
  clear hHl
  refine lv_aload_n hx hb d_Mo_put_0 rfl (lv_at hl 0 rfl) ?_
  refine lv_iload_n hx hb d_Mo_put_1 rfl (lv_at hl 1 rfl) ?_
  obtain ⟨o_4, hc_3, h⟩ := bd h
  have hPc := hP.sub (ws' := (wd_Mo_isNode cA a_r r_manner r_above r_below r_nodes r_arcs r_left r_isBest r_arePlateaus r_all r_a r_b r_ties r_z r_plateaus)) [0] rfl
  have hDc := hD.sub (ws' := (wd_Mo_isNode cA a_r r_manner r_above r_below r_nodes r_arcs r_left r_isBest r_arePlateaus r_all r_a r_b r_ties r_z r_plateaus)) [0] (by decide) rfl
  have hFc := va_free (wc := (wd_Mo_isNode cA a_r r_manner r_above r_below r_nodes r_arcs r_left r_isBest r_arePlateaus r_all r_a r_b r_ties r_z r_plateaus)) hD hS hA [0] rfl
  refine va_calli (va_runV (C := R_Mo) (As := [.int v1]) (rest := []) ⟨hx, hb, hml, hown, hal⟩ (c_Mo_isNode l D cA a_r H.size r_manner r_above r_below r_nodes r_arcs r_left r_isBest r_arePlateaus r_all r_a r_b r_ties r_z r_plateaus v1 o_4 hc_3) (cwV 1 hal (goodV kw_767 kw_769 kw_p26 kw_9 kw_770) rfl rfl rfl (by decide +kernel) ⟨Nat.le_of_ble_eq_true rfl, Nat.le_of_ble_eq_true rfl⟩) ⟨fun a U g mk q => by obtain ⟨q0, q1, qP, qK, qD⟩ := q; exact ⟨q0, q1, qP, va_K.moved (u := U) (U := U.calling g mk a) (Vm.Alike.refl U.vm) qK, qD⟩, va_recv hK hP (ci := 8) (q0 := 0) rfl rfl, fun U hU hW => ⟨rfl, by rw [hU], by rw [hU]; exact hPc, va_K.moved hW.alike hK, hDc.weaken (fun _ _ _ _ => trivial)⟩⟩ rfl rfl hl.1 rfl (lv_room (Nat.le_of_ble_eq_true rfl)) d_Mo_put_2 ⟨Nat.le_of_ble_eq_true rfl, Nat.le_of_ble_eq_true rfl⟩) hS (fun q _ h => hFc q h) hFc (fun r_2 u t H1 locs ht hvm hw hB hz1 hk1 hS => ?_)
  subst hw
  obtain ⟨hP1, hK1, hD1⟩ := hB
  rw [ht] at hP1
  have hP1 : va_P D cls9 (wd_Mo_isNode cA a_r r_manner r_above r_below r_nodes r_arcs r_left r_isBest r_arePlateaus r_all r_a r_b r_ties r_z r_plateaus) H1 := hP1
  obtain ⟨hP, hD⟩ := va_join (wr := ([1, 2] : List Nat).filterMap (fun i => (wd_Mo_put cA a_r r_manner r_above r_below r_nodes r_arcs r_left r_isBest r_arePlateaus r_all r_a r_b r_ties r_z r_plateaus r_hand r_names)[i]?)) (w1 := (wd_Mo_isNode cA a_r r_manner r_above r_below r_nodes r_arcs r_left r_isBest r_arePlateaus r_all r_a r_b r_ties r_z r_plateaus)) hP hD [0] [1, 2] rfl rfl (by decide) (by decide) hk1 hFc hP1 hD1
  generalize H1 = H at hP hS ⊢
  have hP : va_P D cls9 (wd_Mo_put cA a_r r_manner r_above r_below r_nodes r_arcs r_left r_isBest r_arePlateaus r_all r_a r_b r_ties r_z r_plateaus r_hand r_names) H := hP.sub [2, 0, 1] rfl
  have hD : va_D A (wd_Mo_put cA a_r r_manner r_above r_below r_nodes r_arcs r_left r_isBest r_arePlateaus r_all r_a r_b r_ties r_z r_plateaus r_hand r_names) := hD.sub [2, 0, 1] (by decide) rfl
  refine lv_if_eq (tgt := 16) hx hb d_Mo_put_5 (by decide) (fun c_5 => ?_) (fun c_5 => ?_)
  · have h := ifp (c_5) h
    refine lv_iconst (v := (-1)) hx hb d_Mo_put_16 (by decide) ?_
    exact W.iret (v := (-1 : Int32)) hx hb hr (fun t ht hW => ⟨⟨(-1 : Int32), (r_hand, r_names), rfl, Option.some.inj h, by rw [ht]; exact hP, va_K.moved hW.alike hK, hD⟩, hS.F ht⟩) hS.2.2 d_Mo_put_17
  · have h := ifn (c_5) h
    refine lv_aload_n hx hb d_Mo_put_8 rfl (lv_at hl 0 rfl) ?_
    refine lv_iload_n hx hb d_Mo_put_9 rfl (lv_at hl 2 rfl) ?_
    obtain ⟨o_9, hc_8, h⟩ := bd h
    have hPc := hP.sub (ws' := (wd_Mo_isNode cA a_r r_manner r_above r_below r_nodes r_arcs r_left r_isBest r_arePlateaus r_all r_a r_b r_ties r_z r_plateaus)) [0] rfl
    have hDc := hD.sub (ws' := (wd_Mo_isNode cA a_r r_manner r_above r_below r_nodes r_arcs r_left r_isBest r_arePlateaus r_all r_a r_b r_ties r_z r_plateaus)) [0] (by decide) rfl
    have hFc := va_free (wc := (wd_Mo_isNode cA a_r r_manner r_above r_below r_nodes r_arcs r_left r_isBest r_arePlateaus r_all r_a r_b r_ties r_z r_plateaus)) hD hS hA [0] rfl
    refine va_calli (va_runV (C := R_Mo) (As := [.int v2]) (rest := []) ⟨hx, hb, hml, hown, hal⟩ (c_Mo_isNode l D cA a_r H.size r_manner r_above r_below r_nodes r_arcs r_left r_isBest r_arePlateaus r_all r_a r_b r_ties r_z r_plateaus v2 o_9 hc_8) (cwV 1 hal (goodV kw_767 kw_769 kw_p26 kw_9 kw_770) rfl rfl rfl (by decide +kernel) ⟨Nat.le_of_ble_eq_true rfl, Nat.le_of_ble_eq_true rfl⟩) ⟨fun a U g mk q => by obtain ⟨q0, q1, qP, qK, qD⟩ := q; exact ⟨q0, q1, qP, va_K.moved (u := U) (U := U.calling g mk a) (Vm.Alike.refl U.vm) qK, qD⟩, va_recv hK hP (ci := 8) (q0 := 0) rfl rfl, fun U hU hW => ⟨rfl, by rw [hU], by rw [hU]; exact hPc, va_K.moved hW.alike hK, hDc.weaken (fun _ _ _ _ => trivial)⟩⟩ rfl rfl hl.1 rfl (lv_room (Nat.le_of_ble_eq_true rfl)) d_Mo_put_10 ⟨Nat.le_of_ble_eq_true rfl, Nat.le_of_ble_eq_true rfl⟩) hS (fun q _ h => hFc q h) hFc (fun r_7 u t H1 locs ht hvm hw hB hz1 hk1 hS => ?_)
    subst hw
    obtain ⟨hP1, hK1, hD1⟩ := hB
    rw [ht] at hP1
    have hP1 : va_P D cls9 (wd_Mo_isNode cA a_r r_manner r_above r_below r_nodes r_arcs r_left r_isBest r_arePlateaus r_all r_a r_b r_ties r_z r_plateaus) H1 := hP1
    obtain ⟨hP, hD⟩ := va_join (wr := ([1, 2] : List Nat).filterMap (fun i => (wd_Mo_put cA a_r r_manner r_above r_below r_nodes r_arcs r_left r_isBest r_arePlateaus r_all r_a r_b r_ties r_z r_plateaus r_hand r_names)[i]?)) (w1 := (wd_Mo_isNode cA a_r r_manner r_above r_below r_nodes r_arcs r_left r_isBest r_arePlateaus r_all r_a r_b r_ties r_z r_plateaus)) hP hD [0] [1, 2] rfl rfl (by decide) (by decide) hk1 hFc hP1 hD1
    generalize H1 = H at hP hS ⊢
    have hP : va_P D cls9 (wd_Mo_put cA a_r r_manner r_above r_below r_nodes r_arcs r_left r_isBest r_arePlateaus r_all r_a r_b r_ties r_z r_plateaus r_hand r_names) H := hP.sub [2, 0, 1] rfl
    have hD : va_D A (wd_Mo_put cA a_r r_manner r_above r_below r_nodes r_arcs r_left r_isBest r_arePlateaus r_all r_a r_b r_ties r_z r_plateaus r_hand r_names) := hD.sub [2, 0, 1] (by decide) rfl
    refine lv_if_ne (tgt := 18) hx hb d_Mo_put_13 (by decide) (fun c_10 => ?_) (fun c_10 => ?_)
    · have h := ifn (c_10) h
      refine lv_aload_n hx hb d_Mo_put_18 rfl (lv_at hl 0 rfl) ?_
      refine lv_aload_n hx hb d_Mo_put_19 rfl (lv_at hl 0 rfl) ?_
      refine va_get (ci := 8) (v := .ref (a_r 5)) (C := R_Mo) (T := F_Mo) (N := 36) hx hb hal in_Mo hown hK hP 0 rfl rfl 10 (by decide) (hal _ kw_647) (fun _ h9 => h9) rfl d_Mo_put_20 ?_
      refine lv_iload_n hx hb d_Mo_put_23 rfl (lv_at hl 1 rfl) ?_
      refine lv_iload_n hx hb d_Mo_put_24 rfl (lv_at hl 2 rfl) ?_
      obtain ⟨o_16, hc_15, h⟩ := bd h
      have hPc := hP.sub (ws' := (wd_Mo_moveIn cA a_r (fun _ => a_r 5) r_manner r_above r_below r_nodes r_arcs r_left r_isBest r_arePlateaus r_all r_a r_b r_ties r_z r_plateaus r_names r_hand)) [0, 2, 1] rfl
      have hDc := hD.sub (ws' := (wd_Mo_moveIn cA a_r (fun _ => a_r 5) r_manner r_above r_below r_nodes r_arcs r_left r_isBest r_arePlateaus r_all r_a r_b r_ties r_z r_plateaus r_names r_hand)) [0, 2, 1] (by decide) rfl
      have hFc := va_free (wc := (wd_Mo_moveIn cA a_r (fun _ => a_r 5) r_manner r_above r_below r_nodes r_arcs r_left r_isBest r_arePlateaus r_all r_a r_b r_ties r_z r_plateaus r_names r_hand)) hD hS hA [0, 2, 1] rfl
      refine va_callv (va_runV (C := R_Mo) (As := [.ref (a_r 5), .int v1, .int v2]) (rest := []) ⟨hx, hb, hml, hown, hal⟩ (c_Mo_moveIn l D cA a_r (fun _ => a_r 5) H.size r_manner r_above r_below r_nodes r_arcs r_left r_isBest r_arePlateaus r_all r_a r_b r_ties r_z r_plateaus r_names r_hand v1 v2 o_16 hc_15) (cwV 3 hal (goodV kw_783 kw_785 kw_p27 kw_9 kw_786) rfl rfl rfl (by decide +kernel) ⟨Nat.le_of_ble_eq_true rfl, Nat.le_of_ble_eq_true rfl⟩) ⟨fun a U g mk q => by obtain ⟨q0, q1, qP, qK, qD⟩ := q; exact ⟨q0, q1, qP, va_K.moved (u := U) (U := U.calling g mk a) (Vm.Alike.refl U.vm) qK, qD⟩, va_recv hK hP (ci := 8) (q0 := 0) rfl rfl, fun U hU hW => ⟨rfl, by rw [hU], by rw [hU]; exact hPc, va_K.moved hW.alike hK, hDc.weaken (fun _ _ _ _ => trivial)⟩⟩ rfl rfl hl.1 rfl (lv_room (Nat.le_of_ble_eq_true rfl)) d_Mo_put_25 ⟨Nat.le_of_ble_eq_true rfl, Nat.le_of_ble_eq_true rfl⟩) hS (fun q _ h => hFc q h) hFc (fun u t H1 locs ht hvm hw hB hz1 hk1 hS => ?_)
      obtain ⟨u_13, u_14⟩ := u
      subst hw
      obtain ⟨hP1, hK1, hD1⟩ := hB
      rw [ht] at hP1
      have hP1 : va_P D cls9 (wd_Mo_moveIn cA a_r (fun _ => a_r 5) r_manner r_above r_below r_nodes r_arcs r_left r_isBest r_arePlateaus r_all r_a r_b r_ties r_z r_plateaus u_13 u_14) H1 := hP1
      obtain ⟨hP, hD⟩ := va_join (wr := ([] : List Nat).filterMap (fun i => (wd_Mo_put cA a_r r_manner r_above r_below r_nodes r_arcs r_left r_isBest r_arePlateaus r_all r_a r_b r_ties r_z r_plateaus r_hand r_names)[i]?)) (w1 := (wd_Mo_moveIn cA a_r (fun _ => a_r 5) r_manner r_above r_below r_nodes r_arcs r_left r_isBest r_arePlateaus r_all r_a r_b r_ties r_z r_plateaus u_13 u_14)) hP hD [0, 2, 1] [] rfl rfl (by decide) (by decide) hk1 hFc hP1 hD1
      generalize H1 = H at hP hS ⊢
      have hP : va_P D cls9 (wd_Mo_put cA a_r r_manner r_above r_below r_nodes r_arcs r_left r_isBest r_arePlateaus r_all r_a r_b r_ties r_z r_plateaus u_14 u_13) H := hP.sub [0, 2, 1] rfl
      have hD : va_D A (wd_Mo_put cA a_r r_manner r_above r_below r_nodes r_arcs r_left r_isBest r_arePlateaus r_all r_a r_b r_ties r_z r_plateaus u_14 u_13) := hD.sub [0, 2, 1] (by decide) rfl
      refine lv_aload_n hx hb d_Mo_put_28 rfl (lv_at hl 0 rfl) ?_
      refine lv_aload_n hx hb d_Mo_put_29 rfl (lv_at hl 0 rfl) ?_
      refine va_get (ci := 8) (v := .ref (a_r 5)) (C := R_Mo) (T := F_Mo) (N := 36) hx hb hal in_Mo hown hK hP 0 rfl rfl 10 (by decide) (hal _ kw_647) (fun _ h9 => h9) rfl d_Mo_put_30 ?_
      obtain ⟨o_22, hc_21, h⟩ := bd h
      have hPc := hP.sub (ws' := (wd_Mo_number cA a_r (fun _ => a_r 5) r_manner r_above r_below r_nodes r_arcs r_left r_isBest r_arePlateaus r_all r_a r_b r_ties r_z r_plateaus u_13 u_14)) [0, 2, 1] rfl
      have hDc := hD.sub (ws' := (wd_Mo_number cA a_r (fun _ => a_r 5) r_manner r_above r_below r_nodes r_arcs r_left r_isBest r_arePlateaus r_all r_a r_b r_ties r_z r_plateaus u_13 u_14)) [0, 2, 1] (by decide) rfl
      have hFc := va_free (wc := (wd_Mo_number cA a_r (fun _ => a_r 5) r_manner r_above r_below r_nodes r_arcs r_left r_isBest r_arePlateaus r_all r_a r_b r_ties r_z r_plateaus u_13 u_14)) hD hS hA [0, 2, 1] rfl
      refine va_calli (va_runV (C := R_Mo) (As := [.ref (a_r 5)]) (rest := []) ⟨hx, hb, hml, hown, hal⟩ (c_Mo_number l D cA a_r (fun _ => a_r 5) H.size r_manner r_above r_below r_nodes r_arcs r_left r_isBest r_arePlateaus r_all r_a r_b r_ties r_z r_plateaus u_13 u_14 o_22 hc_21) (cwV 1 hal (goodV kw_791 kw_793 kw_p29 kw_9 kw_794) rfl rfl rfl (by decide +kernel) ⟨Nat.le_of_ble_eq_true rfl, Nat.le_of_ble_eq_true rfl⟩) ⟨fun a U g mk q => by obtain ⟨q0, q1, qP, qK, qD⟩ := q; exact ⟨q0, q1, qP, va_K.moved (u := U) (U := U.calling g mk a) (Vm.Alike.refl U.vm) qK, qD⟩, va_recv hK hP (ci := 8) (q0 := 0) rfl rfl, fun U hU hW => ⟨rfl, by rw [hU], by rw [hU]; exact hPc, va_K.moved hW.alike hK, hDc.weaken (fun _ _ _ _ => trivial)⟩⟩ rfl rfl hl.1 rfl (lv_room (Nat.le_of_ble_eq_true rfl)) d_Mo_put_33 ⟨Nat.le_of_ble_eq_true rfl, Nat.le_of_ble_eq_true rfl⟩) hS (fun q _ h => hFc q h) hFc (fun r_18 u t H1 locs ht hvm hw hB hz1 hk1 hS => ?_)
      obtain ⟨u_19, u_20⟩ := u
      subst hw
      obtain ⟨hP1, hK1, hD1⟩ := hB
      rw [ht] at hP1
      have hP1 : va_P D cls9 (wd_Mo_number cA a_r (fun _ => a_r 5) r_manner r_above r_below r_nodes r_arcs r_left r_isBest r_arePlateaus r_all r_a r_b r_ties r_z r_plateaus u_19 u_20) H1 := hP1
      obtain ⟨hP, hD⟩ := va_join (wr := ([] : List Nat).filterMap (fun i => (wd_Mo_put cA a_r r_manner r_above r_below r_nodes r_arcs r_left r_isBest r_arePlateaus r_all r_a r_b r_ties r_z r_plateaus u_14 u_13)[i]?)) (w1 := (wd_Mo_number cA a_r (fun _ => a_r 5) r_manner r_above r_below r_nodes r_arcs r_left r_isBest r_arePlateaus r_all r_a r_b r_ties r_z r_plateaus u_19 u_20)) hP hD [0, 2, 1] [] rfl rfl (by decide) (by decide) hk1 hFc hP1 hD1
      generalize H1 = H at hP hS ⊢
      have hP : va_P D cls9 (wd_Mo_put cA a_r r_manner r_above r_below r_nodes r_arcs r_left r_isBest r_arePlateaus r_all r_a r_b r_ties r_z r_plateaus u_20 u_19) H := hP.sub [0, 2, 1] rfl
      have hD : va_D A (wd_Mo_put cA a_r r_manner r_above r_below r_nodes r_arcs r_left r_isBest r_arePlateaus r_all r_a r_b r_ties r_z r_plateaus u_20 u_19) := hD.sub [0, 2, 1] (by decide) rfl
      exact W.iret (v := r_18) hx hb hr (fun t ht hW => ⟨⟨r_18, (u_20, u_19), rfl, Option.some.inj h, by rw [ht]; exact hP, va_K.moved hW.alike hK, hD⟩, hS.F ht⟩) hS.2.2 d_Mo_put_36
    · have h := ifp (c_10) h
      refine lv_iconst (v := (-1)) hx hb d_Mo_put_16 (by decide) ?_
      exact W.iret (v := (-1 : Int32)) hx hb hr (fun t ht hW => ⟨⟨(-1 : Int32), (r_hand, r_names), rfl, Option.some.inj h, by rw [ht]; exact hP, va_K.moved hW.alike hK, hD⟩, hS.F ht⟩) hS.2.2 d_Mo_put_17
def wd_Mo_group (cA : Nat → ClassId) (a_r : Nat → Nat) (r_manner : Int32) (r_above : Int32) (r_below : Int32) (r_nodes : Int32) (r_arcs : Int32) (r_left : Int32) (r_isBest : Int32) (r_arePlateaus : Int32) (r_all : Int64) (r_a : Int64) (r_b : Int64) (r_ties : Int32) (r_z : Int32) (r_plateaus : Int32) (r_hand : Nat → Int32) : va_W := [(a_r 0, .inr (8, [.int r_manner, .int r_above, .int r_below, .int r_nodes, .int r_arcs, .int r_left, .ref (a_r 1), .ref (a_r 2), .ref (a_r 3), .ref (a_r 4), .ref (a_r 5), .int r_isBest, .int r_arePlateaus, .ref (a_r 6), .ref (a_r 7), .ref (a_r 8), .long r_all, .ref (a_r 9), .ref (a_r 10), .long r_a, .long r_b, .ref (a_r 11), .ref (a_r 12), .ref (a_r 13), .ref (a_r 14), .ref (a_r 15), .int r_ties, .ref (a_r 16), .ref (a_r 17), .ref (a_r 18), .int r_z, .int r_plateaus, .ref (a_r 19), .ref (a_r 20), .ref (a_r 21), .ref (a_r 22)])), (a_r 5, .inl (cA 0, 9, .inl r_hand))]
noncomputable def m_Mo_group (r_nodes : Int32) (r_hand : Nat → Int32) (v1 : Int32) : Option Int32 :=
  ((m_Mo_isNode r_nodes v1).bind (fun r2 : Int32 => (if r2 = 0 then some (-1 : Int32) else (if inb v1 9 then some (r_hand v1.toNatClampNeg) else none))))
set_option maxHeartbeats 4000000 in
set_option maxRecDepth 100000 in
theorem c_Mo_group (l : Launch) (D : va_G) (cA : Nat → ClassId) (a_r : Nat → Nat) (sz : Nat) (r_manner : Int32) (r_above : Int32) (r_below : Int32) (r_nodes : Int32) (r_arcs : Int32) (r_left : Int32) (r_isBest : Int32) (r_arePlateaus : Int32) (r_all : Int64) (r_a : Int64) (r_b : Int64) (r_ties : Int32) (r_z : Int32) (r_plateaus : Int32) (r_hand : Nat → Int32) (v1 : Int32) (out : Int32) (h : m_Mo_group r_nodes r_hand v1 = some out) : Met l y_Mo_group w_Mo_group ({ frames := 1, cells := 0, slots := 0, locals := 21 }) (va_Pc [.ref (a_r 0), .int v1] (fun U => U.heap.size = sz ∧ va_P D cls9 (wd_Mo_group cA a_r r_manner r_above r_below r_nodes r_arcs r_left r_isBest r_arePlateaus r_all r_a r_b r_ties r_z r_plateaus r_hand) U.heap ∧ va_K D cls9 (tys5 cA) U ∧ va_D (fun _ => True) (wd_Mo_group cA a_r r_manner r_above r_below r_nodes r_arcs r_left r_isBest r_arePlateaus r_all r_a r_b r_ties r_z r_plateaus r_hand))) (va_Qi (fun (rr : Int32) (uu : Unit) => rr = out) (fun (uu : Unit) (t : State) => va_P D cls9 (wd_Mo_group cA a_r r_manner r_above r_below r_nodes r_arcs r_left r_isBest r_arePlateaus r_all r_a r_b r_ties r_z r_plateaus r_hand) t.heap ∧ va_K D cls9 (tys5 cA) t ∧ va_D (va_A (wd_Mo_group cA a_r r_manner r_above r_below r_nodes r_arcs r_left r_isBest r_arePlateaus r_all r_a r_b r_ties r_z r_plateaus r_hand) sz) (wd_Mo_group cA a_r r_manner r_above r_below r_nodes r_arcs r_left r_isBest r_arePlateaus r_all r_a r_b r_ties r_z r_plateaus r_hand)) (va_A (wd_Mo_group cA a_r r_manner r_above r_below r_nodes r_arcs r_left r_isBest r_arePlateaus r_all r_a r_b r_ties r_z r_plateaus r_hand) sz)) 0 0 (va_A (wd_Mo_group cA a_r r_manner r_above r_below r_nodes r_arcs r_left r_isBest r_arePlateaus r_all r_a r_b r_ties r_z r_plateaus r_hand) sz) := by
  refine Met.ofW (cc := b_Mo_group) (maxL := 2) (ret := (Option.some Jvm.ClassFile.FieldType.int)) (by decide) rfl ?_
  intro p e s m args below meth c s₁ B hml hv
  obtain ⟨rfl, hsz, hP, hK, hD0⟩ := hv
  have hx := B.exec
  have hb := B.bytes
  have hr := B.returns
  have hts := atoms_spec (ws := w_Mo_group) B.pre
  have hal : ∀ w ∈ ALLW, w.before _ s = true := fun w hw => hts w (List.mem_cons_of_mem _ hw)
  have hown : s.vm.findClass R_Mo = some m.cls := findClass_of_methodNamed B.named
  have hlocks := B.notSynchronized
  subst hsz
  have hD := hD0.self (sz := s.heap.size)
  generalize hAe : va_A (wd_Mo_group cA a_r r_manner r_above r_below r_nodes r_arcs r_left r_isBest r_arePlateaus r_all r_a r_b r_ties r_z r_plateaus r_hand) s.heap.size = A at hD ⊢
  have hA : ∀ q : Nat, s.heap.size ≤ q → A q := fun q h => by rw [← hAe]; exact Or.inr h
  have hS : va_S A s.heap s.heap [] := va_S.rf
  have hl := lv_entry ([.ref (a_r 0), .int v1]) (n := 2) (Nat.le_of_ble_eq_true rfl)
  rw [lg_entry_eq]
  generalize (lg_sl ([.ref (a_r 0), .int v1]) ++ List.replicate (2 - (lg_sl ([.ref (a_r 0), .int v1])).length) Slot.unset).toArray = ls at hl ⊢
  have hl : lv_has ls 2 [(0, .ref (a_r 0)), (1, .int v1)] := hl
  refine wg (fun G hG => ?_)
  refine cast (hG _ _ _ _ _ _ _).symm ?_
  obtain ⟨H, locs, hHl, hS⟩ : ∃ (H : Heap) (locs : List Loc), (H = s.heap ∧ locs = []) ∧ va_S A s.heap H locs := ⟨s.heap, [], ⟨rfl, rfl⟩, hS⟩
  have hP : va_P D cls9 (wd_Mo_group cA a_r r_manner r_above r_below r_nodes r_arcs r_left r_isBest r_arePlateaus r_all r_a r_b r_ties r_z r_plateaus r_hand) H := by rw [hHl.1]; exact hP
  rw [← hHl.1, ← hHl.2]
  clear hHl
  refine lv_aload_n hx hb d_Mo_group_0 rfl (lv_at hl 0 rfl) ?_
  refine lv_iload_n hx hb d_Mo_group_1 rfl (lv_at hl 1 rfl) ?_
  obtain ⟨o_4, hc_3, h⟩ := bd h
  have hPc := hP.sub (ws' := (wd_Mo_isNode cA a_r r_manner r_above r_below r_nodes r_arcs r_left r_isBest r_arePlateaus r_all r_a r_b r_ties r_z r_plateaus)) [0] rfl
  have hDc := hD.sub (ws' := (wd_Mo_isNode cA a_r r_manner r_above r_below r_nodes r_arcs r_left r_isBest r_arePlateaus r_all r_a r_b r_ties r_z r_plateaus)) [0] (by decide) rfl
  have hFc := va_free (wc := (wd_Mo_isNode cA a_r r_manner r_above r_below r_nodes r_arcs r_left r_isBest r_arePlateaus r_all r_a r_b r_ties r_z r_plateaus)) hD hS hA [0] rfl
  refine va_calli (va_runV (C := R_Mo) (As := [.int v1]) (rest := []) ⟨hx, hb, hml, hown, hal⟩ (c_Mo_isNode l D cA a_r H.size r_manner r_above r_below r_nodes r_arcs r_left r_isBest r_arePlateaus r_all r_a r_b r_ties r_z r_plateaus v1 o_4 hc_3) (cwV 1 hal (goodV kw_767 kw_769 kw_p26 kw_9 kw_770) rfl rfl rfl (by decide +kernel) ⟨Nat.le_of_ble_eq_true rfl, Nat.le_of_ble_eq_true rfl⟩) ⟨fun a U g mk q => by obtain ⟨q0, q1, qP, qK, qD⟩ := q; exact ⟨q0, q1, qP, va_K.moved (u := U) (U := U.calling g mk a) (Vm.Alike.refl U.vm) qK, qD⟩, va_recv hK hP (ci := 8) (q0 := 0) rfl rfl, fun U hU hW => ⟨rfl, by rw [hU], by rw [hU]; exact hPc, va_K.moved hW.alike hK, hDc.weaken (fun _ _ _ _ => trivial)⟩⟩ rfl rfl hl.1 rfl (lv_room (Nat.le_of_ble_eq_true rfl)) d_Mo_group_2 ⟨Nat.le_of_ble_eq_true rfl, Nat.le_of_ble_eq_true rfl⟩) hS (fun q _ h => hFc q h) hFc (fun r_2 u t H1 locs ht hvm hw hB hz1 hk1 hS => ?_)
  subst hw
  obtain ⟨hP1, hK1, hD1⟩ := hB
  rw [ht] at hP1
  have hP1 : va_P D cls9 (wd_Mo_isNode cA a_r r_manner r_above r_below r_nodes r_arcs r_left r_isBest r_arePlateaus r_all r_a r_b r_ties r_z r_plateaus) H1 := hP1
  obtain ⟨hP, hD⟩ := va_join (wr := ([1] : List Nat).filterMap (fun i => (wd_Mo_group cA a_r r_manner r_above r_below r_nodes r_arcs r_left r_isBest r_arePlateaus r_all r_a r_b r_ties r_z r_plateaus r_hand)[i]?)) (w1 := (wd_Mo_isNode cA a_r r_manner r_above r_below r_nodes r_arcs r_left r_isBest r_arePlateaus r_all r_a r_b r_ties r_z r_plateaus)) hP hD [0] [1] rfl rfl (by decide) (by decide) hk1 hFc hP1 hD1
  generalize H1 = H at hP hS ⊢
  have hP : va_P D cls9 (wd_Mo_group cA a_r r_manner r_above r_below r_nodes r_arcs r_left r_isBest r_arePlateaus r_all r_a r_b r_ties r_z r_plateaus r_hand) H := hP.sub [1, 0] rfl
  have hD : va_D A (wd_Mo_group cA a_r r_manner r_above r_below r_nodes r_arcs r_left r_isBest r_arePlateaus r_all r_a r_b r_ties r_z r_plateaus r_hand) := hD.sub [1, 0] (by decide) rfl
  refine lv_if_eq (tgt := 17) hx hb d_Mo_group_5 (by decide) (fun c_5 => ?_) (fun c_5 => ?_)
  · have h := ifp (c_5) h
    refine lv_iconst (v := (-1)) hx hb d_Mo_group_17 (by decide) ?_
    exact W.iret (v := (-1 : Int32)) hx hb hr (fun t ht hW => ⟨⟨(-1 : Int32), (), rfl, Option.some.inj h, by rw [ht]; exact hP, va_K.moved hW.alike hK, hD⟩, hS.F ht⟩) hS.2.2 d_Mo_group_18
  · have h := ifn (c_5) h
    refine lv_aload_n hx hb d_Mo_group_8 rfl (lv_at hl 0 rfl) ?_
    refine va_get (ci := 8) (v := .ref (a_r 5)) (C := R_Mo) (T := F_Mo) (N := 36) hx hb hal in_Mo hown hK hP 0 rfl rfl 10 (by decide) (hal _ kw_647) (fun _ h9 => h9) rfl d_Mo_group_9 ?_
    refine lv_iload_n hx hb d_Mo_group_12 rfl (lv_at hl 1 rfl) ?_
    obtain ⟨g_6, h⟩ := gd h
    refine va_iald hx hb hK hP 1 0 rfl rfl (inb_in g_6) d_Mo_group_13 ?_
    refine lv_goto (tgt := 18) hx hb d_Mo_group_14 (by decide) ?_
    exact W.iret (v := (r_hand v1.toNatClampNeg)) hx hb hr (fun t ht hW => ⟨⟨(r_hand v1.toNatClampNeg), (), rfl, Option.some.inj h, by rw [ht]; exact hP, va_K.moved hW.alike hK, hD⟩, hS.F ht⟩) hS.2.2 d_Mo_group_18
def wd_Mo_value (cA : Nat → ClassId) (a_r : Nat → Nat) (r_manner : Int32) (r_above : Int32) (r_below : Int32) (r_nodes : Int32) (r_arcs : Int32) (r_left : Int32) (r_isBest : Int32) (r_arePlateaus : Int32) (r_all : Int64) (r_a : Int64) (r_b : Int64) (r_ties : Int32) (r_z : Int32) (r_plateaus : Int32) (r_ones : Nat → Int32) (r_others : Nat → Int32) (r_weights : Nat → Int32) (r_there : Nat → Int32) (r_hand : Nat → Int32) (r_between : Nat → Int32) (r_joins : Nat → Int32) (r_has : Nat → Int32) (r_sums : Nat → Int64) (r_sizes : Nat → Int64) : va_W := [(a_r 0, .inr (8, [.int r_manner, .int r_above, .int r_below, .int r_nodes, .int r_arcs, .int r_left, .ref (a_r 1), .ref (a_r 2), .ref (a_r 3), .ref (a_r 4), .ref (a_r 5), .int r_isBest, .int r_arePlateaus, .ref (a_r 6), .ref (a_r 7), .ref (a_r 8), .long r_all, .ref (a_r 9), .ref (a_r 10), .long r_a, .long r_b, .ref (a_r 11), .ref (a_r 12), .ref (a_r 13), .ref (a_r 14), .ref (a_r 15), .int r_ties, .ref (a_r 16), .ref (a_r 17), .ref (a_r 18), .int r_z, .int r_plateaus, .ref (a_r 19), .ref (a_r 20), .ref (a_r 21), .ref (a_r 22)])), (a_r 1, .inl (cA 0, 36, .inl r_ones)), (a_r 2, .inl (cA 0, 36, .inl r_others)), (a_r 3, .inl (cA 0, 36, .inl r_weights)), (a_r 4, .inl (cA 2, 36, .inl r_there)), (a_r 5, .inl (cA 0, 9, .inl r_hand)), (a_r 6, .inl (cA 0, 81, .inl r_between)), (a_r 7, .inl (cA 2, 81, .inl r_joins)), (a_r 8, .inl (cA 0, 9, .inl r_has)), (a_r 9, .inl (cA 1, 9, .inr (.inl r_sums))), (a_r 10, .inl (cA 1, 9, .inr (.inl r_sizes)))]
noncomputable def m_Mo_value (r_manner : Int32) (r_above : Int32) (r_below : Int32) (r_nodes : Int32) (r_arcs : Int32) (r_ones : Nat → Int32) (r_others : Nat → Int32) (r_weights : Nat → Int32) (r_there : Nat → Int32) (r_hand : Nat → Int32) (r_between : Nat → Int32) (r_joins : Nat → Int32) (r_has : Nat → Int32) (r_sums : Nat → Int64) (r_sizes : Nat → Int64) : Option (Int64 × Int64 × Int64 × Int64 × (Nat → Int32) × (Nat → Int32) × (Nat → Int32) × (Nat → Int64) × (Nat → Int64)) :=
  ((m_Mo_weigh r_manner r_arcs r_ones r_others r_weights r_there r_between r_joins r_has).bind (fun r1 : Int64 × (Nat → Int32) × (Nat → Int32) × (Nat → Int32) => ((m_Mo_valueOf r_manner r_above r_below r_nodes r1.1 r1.2.1 r1.2.2.2 r_sums r_sizes r_hand).bind (fun r9 : Int64 × Int64 × Int64 × (Nat → Int64) × (Nat → Int64) => some (r9.1, r1.1, r9.2.1, r9.2.2.1, r1.2.1, r1.2.2.1, r1.2.2.2, r9.2.2.2.1, r9.2.2.2.2)))))
set_option maxHeartbeats 4000000 in
set_option maxRecDepth 100000 in
theorem c_Mo_value (l : Launch) (D : va_G) (cA : Nat → ClassId) (a_r : Nat → Nat) (sz : Nat) (r_manner : Int32) (r_above : Int32) (r_below : Int32) (r_nodes : Int32) (r_arcs : Int32) (r_left : Int32) (r_isBest : Int32) (r_arePlateaus : Int32) (r_all : Int64) (r_a : Int64) (r_b : Int64) (r_ties : Int32) (r_z : Int32) (r_plateaus : Int32) (r_ones : Nat → Int32) (r_others : Nat → Int32) (r_weights : Nat → Int32) (r_there : Nat → Int32) (r_hand : Nat → Int32) (r_between : Nat → Int32) (r_joins : Nat → Int32) (r_has : Nat → Int32) (r_sums : Nat → Int64) (r_sizes : Nat → Int64)  (out : Int64 × Int64 × Int64 × Int64 × (Nat → Int32) × (Nat → Int32) × (Nat → Int32) × (Nat → Int64) × (Nat → Int64)) (h : m_Mo_value r_manner r_above r_below r_nodes r_arcs r_ones r_others r_weights r_there r_hand r_between r_joins r_has r_sums r_sizes = some out) : Met l y_Mo_value w_Mo_value ({ frames := 2, cells := 0, slots := 0, locals := 46 }) (va_Pc [.ref (a_r 0)] (fun U => U.heap.size = sz ∧ va_P D cls9 (wd_Mo_value cA a_r r_manner r_above r_below r_nodes r_arcs r_left r_isBest r_arePlateaus r_all r_a r_b r_ties r_z r_plateaus r_ones r_others r_weights r_there r_hand r_between r_joins r_has r_sums r_sizes) U.heap ∧ va_K D cls9 (tys5 cA) U ∧ va_D (fun _ => True) (wd_Mo_value cA a_r r_manner r_above r_below r_nodes r_arcs r_left r_isBest r_arePlateaus r_all r_a r_b r_ties r_z r_plateaus r_ones r_others r_weights r_there r_hand r_between r_joins r_has r_sums r_sizes))) (va_Ql (fun (rr : Int64) (uu : Int64 × Int64 × Int64 × (Nat → Int32) × (Nat → Int32) × (Nat → Int32) × (Nat → Int64) × (Nat → Int64)) => (rr, uu) = out) (fun (uu : Int64 × Int64 × Int64 × (Nat → Int32) × (Nat → Int32) × (Nat → Int32) × (Nat → Int64) × (Nat → Int64)) (t : State) => va_P D cls9 (wd_Mo_value cA a_r r_manner r_above r_below r_nodes r_arcs r_left r_isBest r_arePlateaus uu.1 uu.2.1 uu.2.2.1 r_ties r_z r_plateaus r_ones r_others r_weights r_there r_hand uu.2.2.2.1 uu.2.2.2.2.1 uu.2.2.2.2.2.1 uu.2.2.2.2.2.2.1 uu.2.2.2.2.2.2.2) t.heap ∧ va_K D cls9 (tys5 cA) t ∧ va_D (va_A (wd_Mo_value cA a_r r_manner r_above r_below r_nodes r_arcs r_left r_isBest r_arePlateaus r_all r_a r_b r_ties r_z r_plateaus r_ones r_others r_weights r_there r_hand r_between r_joins r_has r_sums r_sizes) sz) (wd_Mo_value cA a_r r_manner r_above r_below r_nodes r_arcs r_left r_isBest r_arePlateaus uu.1 uu.2.1 uu.2.2.1 r_ties r_z r_plateaus r_ones r_others r_weights r_there r_hand uu.2.2.2.1 uu.2.2.2.2.1 uu.2.2.2.2.2.1 uu.2.2.2.2.2.2.1 uu.2.2.2.2.2.2.2)) (va_A (wd_Mo_value cA a_r r_manner r_above r_below r_nodes r_arcs r_left r_isBest r_arePlateaus r_all r_a r_b r_ties r_z r_plateaus r_ones r_others r_weights r_there r_hand r_between r_joins r_has r_sums r_sizes) sz)) 0 0 (va_A (wd_Mo_value cA a_r r_manner r_above r_below r_nodes r_arcs r_left r_isBest r_arePlateaus r_all r_a r_b r_ties r_z r_plateaus r_ones r_others r_weights r_there r_hand r_between r_joins r_has r_sums r_sizes) sz) := by
  refine Met.ofW (cc := b_Mo_value) (maxL := 1) (ret := (Option.some Jvm.ClassFile.FieldType.long)) (by decide) rfl ?_
  intro p e s m args below meth c s₁ B hml hv
  obtain ⟨rfl, hsz, hP, hK, hD0⟩ := hv
  have hx := B.exec
  have hb := B.bytes
  have hr := B.returns
  have hts := atoms_spec (ws := w_Mo_value) B.pre
  have hal : ∀ w ∈ ALLW, w.before _ s = true := fun w hw => hts w (List.mem_cons_of_mem _ hw)
  have hown : s.vm.findClass R_Mo = some m.cls := findClass_of_methodNamed B.named
  have hlocks := B.notSynchronized
  subst hsz
  have hD := hD0.self (sz := s.heap.size)
  generalize hAe : va_A (wd_Mo_value cA a_r r_manner r_above r_below r_nodes r_arcs r_left r_isBest r_arePlateaus r_all r_a r_b r_ties r_z r_plateaus r_ones r_others r_weights r_there r_hand r_between r_joins r_has r_sums r_sizes) s.heap.size = A at hD ⊢
  have hA : ∀ q : Nat, s.heap.size ≤ q → A q := fun q h => by rw [← hAe]; exact Or.inr h
  have hS : va_S A s.heap s.heap [] := va_S.rf
  have hl := lv_entry ([.ref (a_r 0)]) (n := 1) (Nat.le_of_ble_eq_true rfl)
  rw [lg_entry_eq]
  generalize (lg_sl ([.ref (a_r 0)]) ++ List.replicate (1 - (lg_sl ([.ref (a_r 0)])).length) Slot.unset).toArray = ls at hl ⊢
  have hl : lv_has ls 1 [(0, .ref (a_r 0))] := hl
  refine wg (fun G hG => ?_)
  refine cast (hG _ _ _ _ _ _ _).symm ?_
  obtain ⟨H, locs, hHl, hS⟩ : ∃ (H : Heap) (locs : List Loc), (H = s.heap ∧ locs = []) ∧ va_S A s.heap H locs := ⟨s.heap, [], ⟨rfl, rfl⟩, hS⟩
  have hP : va_P D cls9 (wd_Mo_value cA a_r r_manner r_above r_below r_nodes r_arcs r_left r_isBest r_arePlateaus r_all r_a r_b r_ties r_z r_plateaus r_ones r_others r_weights r_there r_hand r_between r_joins r_has r_sums r_sizes) H := by rw [hHl.1]; exact hP
  rw [← hHl.1, ← hHl.2]
  clear hHl
  refine lv_aload_n hx hb d_Mo_value_0 rfl (lv_at hl 0 rfl) ?_
  obtain ⟨o_8, hc_7, h⟩ := bd h
  have hPc := hP.sub (ws' := (wd_Mo_weigh cA a_r r_manner r_above r_below r_nodes r_arcs r_left r_isBest r_arePlateaus r_all r_a r_b r_ties r_z r_plateaus r_ones r_others r_weights r_there r_between r_joins r_has)) [0, 1, 2, 3, 4, 6, 7, 8] rfl
  have hDc := hD.sub (ws' := (wd_Mo_weigh cA a_r r_manner r_above r_below r_nodes r_arcs r_left r_isBest r_arePlateaus r_all r_a r_b r_ties r_z r_plateaus r_ones r_others r_weights r_there r_between r_joins r_has)) [0, 1, 2, 3, 4, 6, 7, 8] (by decide) rfl
  have hFc := va_free (wc := (wd_Mo_weigh cA a_r r_manner r_above r_below r_nodes r_arcs r_left r_isBest r_arePlateaus r_all r_a r_b r_ties r_z r_plateaus r_ones r_others r_weights r_there r_between r_joins r_has)) hD hS hA [0, 1, 2, 3, 4, 6, 7, 8] rfl
  refine va_callv (va_runV (C := R_Mo) (As := []) (rest := []) ⟨hx, hb, hml, hown, hal⟩ (c_Mo_weigh l D cA a_r H.size r_manner r_above r_below r_nodes r_arcs r_left r_isBest r_arePlateaus r_all r_a r_b r_ties r_z r_plateaus r_ones r_others r_weights r_there r_between r_joins r_has o_8 hc_7) (cwV 0 hal (goodV kw_803 kw_805 kw_p30 kw_9 kw_806) rfl rfl rfl (by decide +kernel) ⟨Nat.le_of_ble_eq_true rfl, Nat.le_of_ble_eq_true rfl⟩) ⟨fun a U g mk q => by obtain ⟨q0, q1, qP, qK, qD⟩ := q; exact ⟨q0, q1, qP, va_K.moved (u := U) (U := U.calling g mk a) (Vm.Alike.refl U.vm) qK, qD⟩, va_recv hK hP (ci := 8) (q0 := 0) rfl rfl, fun U hU hW => ⟨rfl, by rw [hU], by rw [hU]; exact hPc, va_K.moved hW.alike hK, hDc.weaken (fun _ _ _ _ => trivial)⟩⟩ rfl rfl hl.1 rfl (lv_room (Nat.le_of_ble_eq_true rfl)) d_Mo_value_1 ⟨Nat.le_of_ble_eq_true rfl, Nat.le_of_ble_eq_true rfl⟩) hS (fun q _ h => hFc q h) hFc (fun u t H1 locs ht hvm hw hB hz1 hk1 hS => ?_)
  obtain ⟨u_3, u_4, u_5, u_6⟩ := u
  subst hw
  obtain ⟨hP1, hK1, hD1⟩ := hB
  rw [ht] at hP1
  have hP1 : va_P D cls9 (wd_Mo_weigh cA a_r r_manner r_above r_below r_nodes r_arcs r_left r_isBest r_arePlateaus u_3 r_a r_b r_ties r_z r_plateaus r_ones r_others r_weights r_there u_4 u_5 u_6) H1 := hP1
  obtain ⟨hP, hD⟩ := va_join (wr := ([5, 9, 10] : List Nat).filterMap (fun i => (wd_Mo_value cA a_r r_manner r_above r_below r_nodes r_arcs r_left r_isBest r_arePlateaus r_all r_a r_b r_ties r_z r_plateaus r_ones r_others r_weights r_there r_hand r_between r_joins r_has r_sums r_sizes)[i]?)) (w1 := (wd_Mo_weigh cA a_r r_manner r_above r_below r_nodes r_arcs r_left r_isBest r_arePlateaus u_3 r_a r_b r_ties r_z r_plateaus r_ones r_others r_weights r_there u_4 u_5 u_6)) hP hD [0, 1, 2, 3, 4, 6, 7, 8] [5, 9, 10] rfl rfl (by decide) (by decide) hk1 hFc hP1 hD1
  generalize H1 = H at hP hS ⊢
  have hP : va_P D cls9 (wd_Mo_value cA a_r r_manner r_above r_below r_nodes r_arcs r_left r_isBest r_arePlateaus u_3 r_a r_b r_ties r_z r_plateaus r_ones r_others r_weights r_there r_hand u_4 u_5 u_6 r_sums r_sizes) H := hP.sub [3, 4, 5, 6, 7, 0, 8, 9, 10, 1, 2] rfl
  have hD : va_D A (wd_Mo_value cA a_r r_manner r_above r_below r_nodes r_arcs r_left r_isBest r_arePlateaus u_3 r_a r_b r_ties r_z r_plateaus r_ones r_others r_weights r_there r_hand u_4 u_5 u_6 r_sums r_sizes) := hD.sub [3, 4, 5, 6, 7, 0, 8, 9, 10, 1, 2] (by decide) rfl
  refine lv_aload_n hx hb d_Mo_value_4 rfl (lv_at hl 0 rfl) ?_
  refine lv_aload_n hx hb d_Mo_value_5 rfl (lv_at hl 0 rfl) ?_
  refine va_get (ci := 8) (v := .ref (a_r 5)) (C := R_Mo) (T := F_Mo) (N := 36) hx hb hal in_Mo hown hK hP 0 rfl rfl 10 (by decide) (hal _ kw_647) (fun _ h9 => h9) rfl d_Mo_value_6 ?_
  obtain ⟨o_16, hc_15, h⟩ := bd h
  have hPc := hP.sub (ws' := (wd_Mo_valueOf cA a_r (fun _ => a_r 5) r_manner r_above r_below r_nodes r_arcs r_left r_isBest r_arePlateaus u_3 r_a r_b r_ties r_z r_plateaus u_4 u_6 r_sums r_sizes r_hand)) [0, 6, 8, 9, 10, 5] rfl
  have hDc := hD.sub (ws' := (wd_Mo_valueOf cA a_r (fun _ => a_r 5) r_manner r_above r_below r_nodes r_arcs r_left r_isBest r_arePlateaus u_3 r_a r_b r_ties r_z r_plateaus u_4 u_6 r_sums r_sizes r_hand)) [0, 6, 8, 9, 10, 5] (by decide) rfl
  have hFc := va_free (wc := (wd_Mo_valueOf cA a_r (fun _ => a_r 5) r_manner r_above r_below r_nodes r_arcs r_left r_isBest r_arePlateaus u_3 r_a r_b r_ties r_z r_plateaus u_4 u_6 r_sums r_sizes r_hand)) hD hS hA [0, 6, 8, 9, 10, 5] rfl
  refine va_calll (va_runV (C := R_Mo) (As := [.ref (a_r 5)]) (rest := []) ⟨hx, hb, hml, hown, hal⟩ (c_Mo_valueOf l D cA a_r (fun _ => a_r 5) H.size r_manner r_above r_below r_nodes r_arcs r_left r_isBest r_arePlateaus u_3 r_a r_b r_ties r_z r_plateaus u_4 u_6 r_sums r_sizes r_hand o_16 hc_15) (cwV 1 hal (goodV kw_811 kw_813 kw_p32 kw_9 kw_814) rfl rfl rfl (by decide +kernel) ⟨Nat.le_of_ble_eq_true rfl, Nat.le_of_ble_eq_true rfl⟩) ⟨fun a U g mk q => by obtain ⟨q0, q1, qP, qK, qD⟩ := q; exact ⟨q0, q1, qP, va_K.moved (u := U) (U := U.calling g mk a) (Vm.Alike.refl U.vm) qK, qD⟩, va_recv hK hP (ci := 8) (q0 := 0) rfl rfl, fun U hU hW => ⟨rfl, by rw [hU], by rw [hU]; exact hPc, va_K.moved hW.alike hK, hDc.weaken (fun _ _ _ _ => trivial)⟩⟩ rfl rfl hl.1 rfl (lv_room (Nat.le_of_ble_eq_true rfl)) d_Mo_value_9 ⟨Nat.le_of_ble_eq_true rfl, Nat.le_of_ble_eq_true rfl⟩) hS (fun q _ h => hFc q h) hFc (fun r_10 u t H1 locs ht hvm hw hB hz1 hk1 hS => ?_)
  obtain ⟨u_11, u_12, u_13, u_14⟩ := u
  subst hw
  obtain ⟨hP1, hK1, hD1⟩ := hB
  rw [ht] at hP1
  have hP1 : va_P D cls9 (wd_Mo_valueOf cA a_r (fun _ => a_r 5) r_manner r_above r_below r_nodes r_arcs r_left r_isBest r_arePlateaus u_3 u_11 u_12 r_ties r_z r_plateaus u_4 u_6 u_13 u_14 r_hand) H1 := hP1
  obtain ⟨hP, hD⟩ := va_join (wr := ([1, 2, 3, 4, 7] : List Nat).filterMap (fun i => (wd_Mo_value cA a_r r_manner r_above r_below r_nodes r_arcs r_left r_isBest r_arePlateaus u_3 r_a r_b r_ties r_z r_plateaus r_ones r_others r_weights r_there r_hand u_4 u_5 u_6 r_sums r_sizes)[i]?)) (w1 := (wd_Mo_valueOf cA a_r (fun _ => a_r 5) r_manner r_above r_below r_nodes r_arcs r_left r_isBest r_arePlateaus u_3 u_11 u_12 r_ties r_z r_plateaus u_4 u_6 u_13 u_14 r_hand)) hP hD [0, 6, 8, 9, 10, 5] [1, 2, 3, 4, 7] rfl rfl (by decide) (by decide) hk1 hFc hP1 hD1
  generalize H1 = H at hP hS ⊢
  have hP : va_P D cls9 (wd_Mo_value cA a_r r_manner r_above r_below r_nodes r_arcs r_left r_isBest r_arePlateaus u_3 u_11 u_12 r_ties r_z r_plateaus r_ones r_others r_weights r_there r_hand u_4 u_5 u_6 u_13 u_14) H := hP.sub [5, 0, 1, 2, 3, 10, 6, 4, 7, 8, 9] rfl
  have hD : va_D A (wd_Mo_value cA a_r r_manner r_above r_below r_nodes r_arcs r_left r_isBest r_arePlateaus u_3 u_11 u_12 r_ties r_z r_plateaus r_ones r_others r_weights r_there r_hand u_4 u_5 u_6 u_13 u_14) := hD.sub [5, 0, 1, 2, 3, 10, 6, 4, 7, 8, 9] (by decide) rfl
  exact W.lret (v := r_10) hx hb hr (fun t ht hW => ⟨⟨r_10, (u_3, u_11, u_12, u_4, u_5, u_6, u_13, u_14), rfl, Option.some.inj h, by rw [ht]; exact hP, va_K.moved hW.alike hK, hD⟩, hS.F ht⟩) hS.2.2 d_Mo_value_12
def wd_Mo_part (cA : Nat → ClassId) (a_r : Nat → Nat) (r_manner : Int32) (r_above : Int32) (r_below : Int32) (r_nodes : Int32) (r_arcs : Int32) (r_left : Int32) (r_isBest : Int32) (r_arePlateaus : Int32) (r_all : Int64) (r_a : Int64) (r_b : Int64) (r_ties : Int32) (r_z : Int32) (r_plateaus : Int32) (r_ones : Nat → Int32) (r_others : Nat → Int32) (r_weights : Nat → Int32) (r_there : Nat → Int32) (r_hand : Nat → Int32) (r_between : Nat → Int32) (r_joins : Nat → Int32) (r_has : Nat → Int32) (r_sums : Nat → Int64) (r_sizes : Nat → Int64) : va_W := [(a_r 0, .inr (8, [.int r_manner, .int r_above, .int r_below, .int r_nodes, .int r_arcs, .int r_left, .ref (a_r 1), .ref (a_r 2), .ref (a_r 3), .ref (a_r 4), .ref (a_r 5), .int r_isBest, .int r_arePlateaus, .ref (a_r 6), .ref (a_r 7), .ref (a_r 8), .long r_all, .ref (a_r 9), .ref (a_r 10), .long r_a, .long r_b, .ref (a_r 11), .ref (a_r 12), .ref (a_r 13), .ref (a_r 14), .ref (a_r 15), .int r_ties, .ref (a_r 16), .ref (a_r 17), .ref (a_r 18), .int r_z, .int r_plateaus, .ref (a_r 19), .ref (a_r 20), .ref (a_r 21), .ref (a_r 22)])), (a_r 1, .inl (cA 0, 36, .inl r_ones)), (a_r 2, .inl (cA 0, 36, .inl r_others)), (a_r 3, .inl (cA 0, 36, .inl r_weights)), (a_r 4, .inl (cA 2, 36, .inl r_there)), (a_r 5, .inl (cA 0, 9, .inl r_hand)), (a_r 6, .inl (cA 0, 81, .inl r_between)), (a_r 7, .inl (cA 2, 81, .inl r_joins)), (a_r 8, .inl (cA 0, 9, .inl r_has)), (a_r 9, .inl (cA 1, 9, .inr (.inl r_sums))), (a_r 10, .inl (cA 1, 9, .inr (.inl r_sizes)))]
noncomputable def m_Mo_part (r_manner : Int32) (r_nodes : Int32) (r_arcs : Int32) (r_ones : Nat → Int32) (r_others : Nat → Int32) (r_weights : Nat → Int32) (r_there : Nat → Int32) (r_hand : Nat → Int32) (r_between : Nat → Int32) (r_joins : Nat → Int32) (r_has : Nat → Int32) (r_sums : Nat → Int64) (r_sizes : Nat → Int64) (v1 : Int32) : Option (Int64 × Int64 × Int64 × Int64 × (Nat → Int32) × (Nat → Int32) × (Nat → Int32) × (Nat → Int64) × (Nat → Int64)) :=
  ((m_Mo_weigh r_manner r_arcs r_ones r_others r_weights r_there r_between r_joins r_has).bind (fun r1 : Int64 × (Nat → Int32) × (Nat → Int32) × (Nat → Int32) => ((m_Mo_judge r_manner r_nodes r1.1 r1.2.1 r1.2.2.2 r_sums r_sizes r_hand).bind (fun r9 : Int64 × Int64 × (Nat → Int64) × (Nat → Int64) => (if v1 = 0 then some (r9.1, r1.1, r9.1, r9.2.1, r1.2.1, r1.2.2.1, r1.2.2.2, r9.2.2.1, r9.2.2.2) else (if v1 = (1 : Int32) then some (r9.2.1, r1.1, r9.1, r9.2.1, r1.2.1, r1.2.2.1, r1.2.2.2, r9.2.2.1, r9.2.2.2) else some ((0 : Int64), r1.1, r9.1, r9.2.1, r1.2.1, r1.2.2.1, r1.2.2.2, r9.2.2.1, r9.2.2.2)))))))
set_option maxHeartbeats 4000000 in
set_option maxRecDepth 100000 in
theorem c_Mo_part (l : Launch) (D : va_G) (cA : Nat → ClassId) (a_r : Nat → Nat) (sz : Nat) (r_manner : Int32) (r_above : Int32) (r_below : Int32) (r_nodes : Int32) (r_arcs : Int32) (r_left : Int32) (r_isBest : Int32) (r_arePlateaus : Int32) (r_all : Int64) (r_a : Int64) (r_b : Int64) (r_ties : Int32) (r_z : Int32) (r_plateaus : Int32) (r_ones : Nat → Int32) (r_others : Nat → Int32) (r_weights : Nat → Int32) (r_there : Nat → Int32) (r_hand : Nat → Int32) (r_between : Nat → Int32) (r_joins : Nat → Int32) (r_has : Nat → Int32) (r_sums : Nat → Int64) (r_sizes : Nat → Int64) (v1 : Int32) (out : Int64 × Int64 × Int64 × Int64 × (Nat → Int32) × (Nat → Int32) × (Nat → Int32) × (Nat → Int64) × (Nat → Int64)) (h : m_Mo_part r_manner r_nodes r_arcs r_ones r_others r_weights r_there r_hand r_between r_joins r_has r_sums r_sizes v1 = some out) : Met l y_Mo_part w_Mo_part ({ frames := 2, cells := 0, slots := 0, locals := 42 }) (va_Pc [.ref (a_r 0), .int v1] (fun U => U.heap.size = sz ∧ va_P D cls9 (wd_Mo_part cA a_r r_manner r_above r_below r_nodes r_arcs r_left r_isBest r_arePlateaus r_all r_a r_b r_ties r_z r_plateaus r_ones r_others r_weights r_there r_hand r_between r_joins r_has r_sums r_sizes) U.heap ∧ va_K D cls9 (tys5 cA) U ∧ va_D (fun _ => True) (wd_Mo_part cA a_r r_manner r_above r_below r_nodes r_arcs r_left r_isBest r_arePlateaus r_all r_a r_b r_ties r_z r_plateaus r_ones r_others r_weights r_there r_hand r_between r_joins r_has r_sums r_sizes))) (va_Ql (fun (rr : Int64) (uu : Int64 × Int64 × Int64 × (Nat → Int32) × (Nat → Int32) × (Nat → Int32) × (Nat → Int64) × (Nat → Int64)) => (rr, uu) = out) (fun (uu : Int64 × Int64 × Int64 × (Nat → Int32) × (Nat → Int32) × (Nat → Int32) × (Nat → Int64) × (Nat → Int64)) (t : State) => va_P D cls9 (wd_Mo_part cA a_r r_manner r_above r_below r_nodes r_arcs r_left r_isBest r_arePlateaus uu.1 uu.2.1 uu.2.2.1 r_ties r_z r_plateaus r_ones r_others r_weights r_there r_hand uu.2.2.2.1 uu.2.2.2.2.1 uu.2.2.2.2.2.1 uu.2.2.2.2.2.2.1 uu.2.2.2.2.2.2.2) t.heap ∧ va_K D cls9 (tys5 cA) t ∧ va_D (va_A (wd_Mo_part cA a_r r_manner r_above r_below r_nodes r_arcs r_left r_isBest r_arePlateaus r_all r_a r_b r_ties r_z r_plateaus r_ones r_others r_weights r_there r_hand r_between r_joins r_has r_sums r_sizes) sz) (wd_Mo_part cA a_r r_manner r_above r_below r_nodes r_arcs r_left r_isBest r_arePlateaus uu.1 uu.2.1 uu.2.2.1 r_ties r_z r_plateaus r_ones r_others r_weights r_there r_hand uu.2.2.2.1 uu.2.2.2.2.1 uu.2.2.2.2.2.1 uu.2.2.2.2.2.2.1 uu.2.2.2.2.2.2.2)) (va_A (wd_Mo_part cA a_r r_manner r_above r_below r_nodes r_arcs r_left r_isBest r_arePlateaus r_all r_a r_b r_ties r_z r_plateaus r_ones r_others r_weights r_there r_hand r_between r_joins r_has r_sums r_sizes) sz)) 0 0 (va_A (wd_Mo_part cA a_r r_manner r_above r_below r_nodes r_arcs r_left r_isBest r_arePlateaus r_all r_a r_b r_ties r_z r_plateaus r_ones r_others r_weights r_there r_hand r_between r_joins r_has r_sums r_sizes) sz) := by
  refine Met.ofW (cc := b_Mo_part) (maxL := 2) (ret := (Option.some Jvm.ClassFile.FieldType.long)) (by decide) rfl ?_
  intro p e s m args below meth c s₁ B hml hv
  obtain ⟨rfl, hsz, hP, hK, hD0⟩ := hv
  have hx := B.exec
  have hb := B.bytes
  have hr := B.returns
  have hts := atoms_spec (ws := w_Mo_part) B.pre
  have hal : ∀ w ∈ ALLW, w.before _ s = true := fun w hw => hts w (List.mem_cons_of_mem _ hw)
  have hown : s.vm.findClass R_Mo = some m.cls := findClass_of_methodNamed B.named
  have hlocks := B.notSynchronized
  subst hsz
  have hD := hD0.self (sz := s.heap.size)
  generalize hAe : va_A (wd_Mo_part cA a_r r_manner r_above r_below r_nodes r_arcs r_left r_isBest r_arePlateaus r_all r_a r_b r_ties r_z r_plateaus r_ones r_others r_weights r_there r_hand r_between r_joins r_has r_sums r_sizes) s.heap.size = A at hD ⊢
  have hA : ∀ q : Nat, s.heap.size ≤ q → A q := fun q h => by rw [← hAe]; exact Or.inr h
  have hS : va_S A s.heap s.heap [] := va_S.rf
  have hl := lv_entry ([.ref (a_r 0), .int v1]) (n := 2) (Nat.le_of_ble_eq_true rfl)
  rw [lg_entry_eq]
  generalize (lg_sl ([.ref (a_r 0), .int v1]) ++ List.replicate (2 - (lg_sl ([.ref (a_r 0), .int v1])).length) Slot.unset).toArray = ls at hl ⊢
  have hl : lv_has ls 2 [(0, .ref (a_r 0)), (1, .int v1)] := hl
  refine wg (fun G hG => ?_)
  refine cast (hG _ _ _ _ _ _ _).symm ?_
  obtain ⟨H, locs, hHl, hS⟩ : ∃ (H : Heap) (locs : List Loc), (H = s.heap ∧ locs = []) ∧ va_S A s.heap H locs := ⟨s.heap, [], ⟨rfl, rfl⟩, hS⟩
  have hP : va_P D cls9 (wd_Mo_part cA a_r r_manner r_above r_below r_nodes r_arcs r_left r_isBest r_arePlateaus r_all r_a r_b r_ties r_z r_plateaus r_ones r_others r_weights r_there r_hand r_between r_joins r_has r_sums r_sizes) H := by rw [hHl.1]; exact hP
  rw [← hHl.1, ← hHl.2]
  clear hHl
  refine lv_aload_n hx hb d_Mo_part_0 rfl (lv_at hl 0 rfl) ?_
  obtain ⟨o_8, hc_7, h⟩ := bd h
  have hPc := hP.sub (ws' := (wd_Mo_weigh cA a_r r_manner r_above r_below r_nodes r_arcs r_left r_isBest r_arePlateaus r_all r_a r_b r_ties r_z r_plateaus r_ones r_others r_weights r_there r_between r_joins r_has)) [0, 1, 2, 3, 4, 6, 7, 8] rfl
  have hDc := hD.sub (ws' := (wd_Mo_weigh cA a_r r_manner r_above r_below r_nodes r_arcs r_left r_isBest r_arePlateaus r_all r_a r_b r_ties r_z r_plateaus r_ones r_others r_weights r_there r_between r_joins r_has)) [0, 1, 2, 3, 4, 6, 7, 8] (by decide) rfl
  have hFc := va_free (wc := (wd_Mo_weigh cA a_r r_manner r_above r_below r_nodes r_arcs r_left r_isBest r_arePlateaus r_all r_a r_b r_ties r_z r_plateaus r_ones r_others r_weights r_there r_between r_joins r_has)) hD hS hA [0, 1, 2, 3, 4, 6, 7, 8] rfl
  refine va_callv (va_runV (C := R_Mo) (As := []) (rest := []) ⟨hx, hb, hml, hown, hal⟩ (c_Mo_weigh l D cA a_r H.size r_manner r_above r_below r_nodes r_arcs r_left r_isBest r_arePlateaus r_all r_a r_b r_ties r_z r_plateaus r_ones r_others r_weights r_there r_between r_joins r_has o_8 hc_7) (cwV 0 hal (goodV kw_803 kw_805 kw_p30 kw_9 kw_806) rfl rfl rfl (by decide +kernel) ⟨Nat.le_of_ble_eq_true rfl, Nat.le_of_ble_eq_true rfl⟩) ⟨fun a U g mk q => by obtain ⟨q0, q1, qP, qK, qD⟩ := q; exact ⟨q0, q1, qP, va_K.moved (u := U) (U := U.calling g mk a) (Vm.Alike.refl U.vm) qK, qD⟩, va_recv hK hP (ci := 8) (q0 := 0) rfl rfl, fun U hU hW => ⟨rfl, by rw [hU], by rw [hU]; exact hPc, va_K.moved hW.alike hK, hDc.weaken (fun _ _ _ _ => trivial)⟩⟩ rfl rfl hl.1 rfl (lv_room (Nat.le_of_ble_eq_true rfl)) d_Mo_part_1 ⟨Nat.le_of_ble_eq_true rfl, Nat.le_of_ble_eq_true rfl⟩) hS (fun q _ h => hFc q h) hFc (fun u t H1 locs ht hvm hw hB hz1 hk1 hS => ?_)
  obtain ⟨u_3, u_4, u_5, u_6⟩ := u
  subst hw
  obtain ⟨hP1, hK1, hD1⟩ := hB
  rw [ht] at hP1
  have hP1 : va_P D cls9 (wd_Mo_weigh cA a_r r_manner r_above r_below r_nodes r_arcs r_left r_isBest r_arePlateaus u_3 r_a r_b r_ties r_z r_plateaus r_ones r_others r_weights r_there u_4 u_5 u_6) H1 := hP1
  obtain ⟨hP, hD⟩ := va_join (wr := ([5, 9, 10] : List Nat).filterMap (fun i => (wd_Mo_part cA a_r r_manner r_above r_below r_nodes r_arcs r_left r_isBest r_arePlateaus r_all r_a r_b r_ties r_z r_plateaus r_ones r_others r_weights r_there r_hand r_between r_joins r_has r_sums r_sizes)[i]?)) (w1 := (wd_Mo_weigh cA a_r r_manner r_above r_below r_nodes r_arcs r_left r_isBest r_arePlateaus u_3 r_a r_b r_ties r_z r_plateaus r_ones r_others r_weights r_there u_4 u_5 u_6)) hP hD [0, 1, 2, 3, 4, 6, 7, 8] [5, 9, 10] rfl rfl (by decide) (by decide) hk1 hFc hP1 hD1
  generalize H1 = H at hP hS ⊢
  have hP : va_P D cls9 (wd_Mo_part cA a_r r_manner r_above r_below r_nodes r_arcs r_left r_isBest r_arePlateaus u_3 r_a r_b r_ties r_z r_plateaus r_ones r_others r_weights r_there r_hand u_4 u_5 u_6 r_sums r_sizes) H := hP.sub [3, 4, 5, 6, 7, 0, 8, 9, 10, 1, 2] rfl
  have hD : va_D A (wd_Mo_part cA a_r r_manner r_above r_below r_nodes r_arcs r_left r_isBest r_arePlateaus u_3 r_a r_b r_ties r_z r_plateaus r_ones r_others r_weights r_there r_hand u_4 u_5 u_6 r_sums r_sizes) := hD.sub [3, 4, 5, 6, 7, 0, 8, 9, 10, 1, 2] (by decide) rfl
  refine lv_aload_n hx hb d_Mo_part_4 rfl (lv_at hl 0 rfl) ?_
  refine lv_aload_n hx hb d_Mo_part_5 rfl (lv_at hl 0 rfl) ?_
  refine va_get (ci := 8) (v := .ref (a_r 5)) (C := R_Mo) (T := F_Mo) (N := 36) hx hb hal in_Mo hown hK hP 0 rfl rfl 10 (by decide) (hal _ kw_647) (fun _ h9 => h9) rfl d_Mo_part_6 ?_
  obtain ⟨o_16, hc_15, h⟩ := bd h
  have hPc := hP.sub (ws' := (wd_Mo_judge cA a_r (fun _ => a_r 5) r_manner r_above r_below r_nodes r_arcs r_left r_isBest r_arePlateaus u_3 r_a r_b r_ties r_z r_plateaus u_4 u_6 r_sums r_sizes r_hand)) [0, 6, 8, 9, 10, 5] rfl
  have hDc := hD.sub (ws' := (wd_Mo_judge cA a_r (fun _ => a_r 5) r_manner r_above r_below r_nodes r_arcs r_left r_isBest r_arePlateaus u_3 r_a r_b r_ties r_z r_plateaus u_4 u_6 r_sums r_sizes r_hand)) [0, 6, 8, 9, 10, 5] (by decide) rfl
  have hFc := va_free (wc := (wd_Mo_judge cA a_r (fun _ => a_r 5) r_manner r_above r_below r_nodes r_arcs r_left r_isBest r_arePlateaus u_3 r_a r_b r_ties r_z r_plateaus u_4 u_6 r_sums r_sizes r_hand)) hD hS hA [0, 6, 8, 9, 10, 5] rfl
  refine va_callv (va_runV (C := R_Mo) (As := [.ref (a_r 5)]) (rest := []) ⟨hx, hb, hml, hown, hal⟩ (c_Mo_judge l D cA a_r (fun _ => a_r 5) H.size r_manner r_above r_below r_nodes r_arcs r_left r_isBest r_arePlateaus u_3 r_a r_b r_ties r_z r_plateaus u_4 u_6 r_sums r_sizes r_hand o_16 hc_15) (cwV 1 hal (goodV kw_815 kw_817 kw_p33 kw_9 kw_818) rfl rfl rfl (by decide +kernel) ⟨Nat.le_of_ble_eq_true rfl, Nat.le_of_ble_eq_true rfl⟩) ⟨fun a U g mk q => by obtain ⟨q0, q1, qP, qK, qD⟩ := q; exact ⟨q0, q1, qP, va_K.moved (u := U) (U := U.calling g mk a) (Vm.Alike.refl U.vm) qK, qD⟩, va_recv hK hP (ci := 8) (q0 := 0) rfl rfl, fun U hU hW => ⟨rfl, by rw [hU], by rw [hU]; exact hPc, va_K.moved hW.alike hK, hDc.weaken (fun _ _ _ _ => trivial)⟩⟩ rfl rfl hl.1 rfl (lv_room (Nat.le_of_ble_eq_true rfl)) d_Mo_part_9 ⟨Nat.le_of_ble_eq_true rfl, Nat.le_of_ble_eq_true rfl⟩) hS (fun q _ h => hFc q h) hFc (fun u t H1 locs ht hvm hw hB hz1 hk1 hS => ?_)
  obtain ⟨u_11, u_12, u_13, u_14⟩ := u
  subst hw
  obtain ⟨hP1, hK1, hD1⟩ := hB
  rw [ht] at hP1
  have hP1 : va_P D cls9 (wd_Mo_judge cA a_r (fun _ => a_r 5) r_manner r_above r_below r_nodes r_arcs r_left r_isBest r_arePlateaus u_3 u_11 u_12 r_ties r_z r_plateaus u_4 u_6 u_13 u_14 r_hand) H1 := hP1
  obtain ⟨hP, hD⟩ := va_join (wr := ([1, 2, 3, 4, 7] : List Nat).filterMap (fun i => (wd_Mo_part cA a_r r_manner r_above r_below r_nodes r_arcs r_left r_isBest r_arePlateaus u_3 r_a r_b r_ties r_z r_plateaus r_ones r_others r_weights r_there r_hand u_4 u_5 u_6 r_sums r_sizes)[i]?)) (w1 := (wd_Mo_judge cA a_r (fun _ => a_r 5) r_manner r_above r_below r_nodes r_arcs r_left r_isBest r_arePlateaus u_3 u_11 u_12 r_ties r_z r_plateaus u_4 u_6 u_13 u_14 r_hand)) hP hD [0, 6, 8, 9, 10, 5] [1, 2, 3, 4, 7] rfl rfl (by decide) (by decide) hk1 hFc hP1 hD1
  generalize H1 = H at hP hS ⊢
  have hP : va_P D cls9 (wd_Mo_part cA a_r r_manner r_above r_below r_nodes r_arcs r_left r_isBest r_arePlateaus u_3 u_11 u_12 r_ties r_z r_plateaus r_ones r_others r_weights r_there r_hand u_4 u_5 u_6 u_13 u_14) H := hP.sub [5, 0, 1, 2, 3, 10, 6, 4, 7, 8, 9] rfl
  have hD : va_D A (wd_Mo_part cA a_r r_manner r_above r_below r_nodes r_arcs r_left r_isBest r_arePlateaus u_3 u_11 u_12 r_ties r_z r_plateaus r_ones r_others r_weights r_there r_hand u_4 u_5 u_6 u_13 u_14) := hD.sub [5, 0, 1, 2, 3, 10, 6, 4, 7, 8, 9] (by decide) rfl
  refine lv_iload_n hx hb d_Mo_part_12 rfl (lv_at hl 1 rfl) ?_
  refine lv_if_ne (tgt := 23) hx hb d_Mo_part_13 (by decide) (fun c_17 => ?_) (fun c_17 => ?_)
  · have h := ifn (c_17) h
    refine lv_iload_n hx hb d_Mo_part_23 rfl (lv_at hl 1 rfl) ?_
    refine lv_iconst (v := 1) hx hb d_Mo_part_24 (by decide) ?_
    refine lv_icmp_ne (tgt := 35) hx hb d_Mo_part_25 (by decide) (fun c_18 => ?_) (fun c_18 => ?_)
    · have h := ifn (c_18) h
      refine lv_lconst (v := 0) hx hb d_Mo_part_35 (by decide) ?_
      exact W.lret (v := (0 : Int64)) hx hb hr (fun t ht hW => ⟨⟨(0 : Int64), (u_3, u_11, u_12, u_4, u_5, u_6, u_13, u_14), rfl, Option.some.inj h, by rw [ht]; exact hP, va_K.moved hW.alike hK, hD⟩, hS.F ht⟩) hS.2.2 d_Mo_part_36
    · have h := ifp (c_18) h
      refine lv_aload_n hx hb d_Mo_part_28 rfl (lv_at hl 0 rfl) ?_
      refine va_get (ci := 8) (v := .long u_12) (C := R_Mo) (T := F_Mo) (N := 36) hx hb hal in_Mo hown hK hP 0 rfl rfl 20 (by decide) (hal _ kw_657) (fun _ h9 => h9) rfl d_Mo_part_29 ?_
      refine lv_goto (tgt := 36) hx hb d_Mo_part_32 (by decide) ?_
      exact W.lret (v := u_12) hx hb hr (fun t ht hW => ⟨⟨u_12, (u_3, u_11, u_12, u_4, u_5, u_6, u_13, u_14), rfl, Option.some.inj h, by rw [ht]; exact hP, va_K.moved hW.alike hK, hD⟩, hS.F ht⟩) hS.2.2 d_Mo_part_36
  · have h := ifp (c_17) h
    refine lv_aload_n hx hb d_Mo_part_16 rfl (lv_at hl 0 rfl) ?_
    refine va_get (ci := 8) (v := .long u_11) (C := R_Mo) (T := F_Mo) (N := 36) hx hb hal in_Mo hown hK hP 0 rfl rfl 19 (by decide) (hal _ kw_656) (fun _ h9 => h9) rfl d_Mo_part_17 ?_
    refine lv_goto (tgt := 36) hx hb d_Mo_part_20 (by decide) ?_
    exact W.lret (v := u_11) hx hb hr (fun t ht hW => ⟨⟨u_11, (u_3, u_11, u_12, u_4, u_5, u_6, u_13, u_14), rfl, Option.some.inj h, by rw [ht]; exact hP, va_K.moved hW.alike hK, hD⟩, hS.F ht⟩) hS.2.2 d_Mo_part_36
def wd_Mo_moveGain (cA : Nat → ClassId) (a_r : Nat → Nat) (r_manner : Int32) (r_above : Int32) (r_below : Int32) (r_nodes : Int32) (r_arcs : Int32) (r_left : Int32) (r_isBest : Int32) (r_arePlateaus : Int32) (r_all : Int64) (r_a : Int64) (r_b : Int64) (r_ties : Int32) (r_z : Int32) (r_plateaus : Int32) (r_hand : Nat → Int32) (r_between : Nat → Int32) (r_has : Nat → Int32) (r_sums : Nat → Int64) (r_sizes : Nat → Int64) (r_names : Nat → Int32) (r_trial : Nat → Int32) : va_W := [(a_r 0, .inr (8, [.int r_manner, .int r_above, .int r_below, .int r_nodes, .int r_arcs, .int r_left, .ref (a_r 1), .ref (a_r 2), .ref (a_r 3), .ref (a_r 4), .ref (a_r 5), .int r_isBest, .int r_arePlateaus, .ref (a_r 6), .ref (a_r 7), .ref (a_r 8), .long r_all, .ref (a_r 9), .ref (a_r 10), .long r_a, .long r_b, .ref (a_r 11), .ref (a_r 12), .ref (a_r 13), .ref (a_r 14), .ref (a_r 15), .int r_ties, .ref (a_r 16), .ref (a_r 17), .ref (a_r 18), .int r_z, .int r_plateaus, .ref (a_r 19), .ref (a_r 20), .ref (a_r 21), .ref (a_r 22)])), (a_r 5, .inl (cA 0, 9, .inl r_hand)), (a_r 6, .inl (cA 0, 81, .inl r_between)), (a_r 8, .inl (cA 0, 9, .inl r_has)), (a_r 9, .inl (cA 1, 9, .inr (.inl r_sums))), (a_r 10, .inl (cA 1, 9, .inr (.inl r_sizes))), (a_r 11, .inl (cA 0, 9, .inl r_names)), (a_r 12, .inl (cA 0, 9, .inl r_trial))]
noncomputable def m_Mo_moveGain (r_manner : Int32) (r_above : Int32) (r_below : Int32) (r_nodes : Int32) (r_all : Int64) (r_hand : Nat → Int32) (r_between : Nat → Int32) (r_has : Nat → Int32) (r_sums : Nat → Int64) (r_sizes : Nat → Int64) (r_names : Nat → Int32) (r_trial : Nat → Int32) (v1 : Int32) (v2 : Int32) : Option (Int64 × Int64 × Int64 × (Nat → Int64) × (Nat → Int64) × (Nat → Int32) × (Nat → Int32)) :=
  ((m_Mo_copy r_nodes r_hand r_trial).bind (fun r9 : (Nat → Int32) => ((m_Mo_moveIn r_nodes r_names r9 v1 v2).bind (fun r19 : (Nat → Int32) × (Nat → Int32) => ((m_Mo_valueOf r_manner r_above r_below r_nodes r_all r_between r_has r_sums r_sizes r19.2).bind (fun r27 : Int64 × Int64 × Int64 × (Nat → Int64) × (Nat → Int64) => ((m_Mo_valueOf r_manner r_above r_below r_nodes r_all r_between r_has r27.2.2.2.1 r27.2.2.2.2 r_hand).bind (fun r35 : Int64 × Int64 × Int64 × (Nat → Int64) × (Nat → Int64) => some ((r27.1 - r35.1), r35.2.1, r35.2.2.1, r35.2.2.2.1, r35.2.2.2.2, r19.1, r19.2)))))))))
set_option maxHeartbeats 4000000 in
set_option maxRecDepth 100000 in
theorem c_Mo_moveGain (l : Launch) (D : va_G) (cA : Nat → ClassId) (a_r : Nat → Nat) (sz : Nat) (r_manner : Int32) (r_above : Int32) (r_below : Int32) (r_nodes : Int32) (r_arcs : Int32) (r_left : Int32) (r_isBest : Int32) (r_arePlateaus : Int32) (r_all : Int64) (r_a : Int64) (r_b : Int64) (r_ties : Int32) (r_z : Int32) (r_plateaus : Int32) (r_hand : Nat → Int32) (r_between : Nat → Int32) (r_has : Nat → Int32) (r_sums : Nat → Int64) (r_sizes : Nat → Int64) (r_names : Nat → Int32) (r_trial : Nat → Int32) (v1 : Int32) (v2 : Int32) (out : Int64 × Int64 × Int64 × (Nat → Int64) × (Nat → Int64) × (Nat → Int32) × (Nat → Int32)) (h : m_Mo_moveGain r_manner r_above r_below r_nodes r_all r_hand r_between r_has r_sums r_sizes r_names r_trial v1 v2 = some out) : Met l y_Mo_moveGain w_Mo_moveGain ({ frames := 2, cells := 0, slots := 0, locals := 49 }) (va_Pc [.ref (a_r 0), .int v1, .int v2] (fun U => U.heap.size = sz ∧ va_P D cls9 (wd_Mo_moveGain cA a_r r_manner r_above r_below r_nodes r_arcs r_left r_isBest r_arePlateaus r_all r_a r_b r_ties r_z r_plateaus r_hand r_between r_has r_sums r_sizes r_names r_trial) U.heap ∧ va_K D cls9 (tys5 cA) U ∧ va_D (fun _ => True) (wd_Mo_moveGain cA a_r r_manner r_above r_below r_nodes r_arcs r_left r_isBest r_arePlateaus r_all r_a r_b r_ties r_z r_plateaus r_hand r_between r_has r_sums r_sizes r_names r_trial))) (va_Ql (fun (rr : Int64) (uu : Int64 × Int64 × (Nat → Int64) × (Nat → Int64) × (Nat → Int32) × (Nat → Int32)) => (rr, uu) = out) (fun (uu : Int64 × Int64 × (Nat → Int64) × (Nat → Int64) × (Nat → Int32) × (Nat → Int32)) (t : State) => va_P D cls9 (wd_Mo_moveGain cA a_r r_manner r_above r_below r_nodes r_arcs r_left r_isBest r_arePlateaus r_all uu.1 uu.2.1 r_ties r_z r_plateaus r_hand r_between r_has uu.2.2.1 uu.2.2.2.1 uu.2.2.2.2.1 uu.2.2.2.2.2) t.heap ∧ va_K D cls9 (tys5 cA) t ∧ va_D (va_A (wd_Mo_moveGain cA a_r r_manner r_above r_below r_nodes r_arcs r_left r_isBest r_arePlateaus r_all r_a r_b r_ties r_z r_plateaus r_hand r_between r_has r_sums r_sizes r_names r_trial) sz) (wd_Mo_moveGain cA a_r r_manner r_above r_below r_nodes r_arcs r_left r_isBest r_arePlateaus r_all uu.1 uu.2.1 r_ties r_z r_plateaus r_hand r_between r_has uu.2.2.1 uu.2.2.2.1 uu.2.2.2.2.1 uu.2.2.2.2.2)) (va_A (wd_Mo_moveGain cA a_r r_manner r_above r_below r_nodes r_arcs r_left r_isBest r_arePlateaus r_all r_a r_b r_ties r_z r_plateaus r_hand r_between r_has r_sums r_sizes r_names r_trial) sz)) 0 0 (va_A (wd_Mo_moveGain cA a_r r_manner r_above r_below r_nodes r_arcs r_left r_isBest r_arePlateaus r_all r_a r_b r_ties r_z r_plateaus r_hand r_between r_has r_sums r_sizes r_names r_trial) sz) := by
  refine Met.ofW (cc := b_Mo_moveGain) (maxL := 3) (ret := (Option.some Jvm.ClassFile.FieldType.long)) (by decide) rfl ?_
  intro p e s m args below meth c s₁ B hml hv
  obtain ⟨rfl, hsz, hP, hK, hD0⟩ := hv
  have hx := B.exec
  have hb := B.bytes
  have hr := B.returns
  have hts := atoms_spec (ws := w_Mo_moveGain) B.pre
  have hal : ∀ w ∈ ALLW, w.before _ s = true := fun w hw => hts w (List.mem_cons_of_mem _ hw)
  have hown : s.vm.findClass R_Mo = some m.cls := findClass_of_methodNamed B.named
  have hlocks := B.notSynchronized
  subst hsz
  have hD := hD0.self (sz := s.heap.size)
  generalize hAe : va_A (wd_Mo_moveGain cA a_r r_manner r_above r_below r_nodes r_arcs r_left r_isBest r_arePlateaus r_all r_a r_b r_ties r_z r_plateaus r_hand r_between r_has r_sums r_sizes r_names r_trial) s.heap.size = A at hD ⊢
  have hA : ∀ q : Nat, s.heap.size ≤ q → A q := fun q h => by rw [← hAe]; exact Or.inr h
  have hS : va_S A s.heap s.heap [] := va_S.rf
  have hl := lv_entry ([.ref (a_r 0), .int v1, .int v2]) (n := 3) (Nat.le_of_ble_eq_true rfl)
  rw [lg_entry_eq]
  generalize (lg_sl ([.ref (a_r 0), .int v1, .int v2]) ++ List.replicate (3 - (lg_sl ([.ref (a_r 0), .int v1, .int v2])).length) Slot.unset).toArray = ls at hl ⊢
  have hl : lv_has ls 3 [(0, .ref (a_r 0)), (1, .int v1), (2, .int v2)] := hl
  refine wg (fun G hG => ?_)
  refine cast (hG _ _ _ _ _ _ _).symm ?_
  obtain ⟨H, locs, hHl, hS⟩ : ∃ (H : Heap) (locs : List Loc), (H = s.heap ∧ locs = []) ∧ va_S A s.heap H locs := ⟨s.heap, [], ⟨rfl, rfl⟩, hS⟩
  have hP : va_P D cls9 (wd_Mo_moveGain cA a_r r_manner r_above r_below r_nodes r_arcs r_left r_isBest r_arePlateaus r_all r_a r_b r_ties r_z r_plateaus r_hand r_between r_has r_sums r_sizes r_names r_trial) H := by rw [hHl.1]; exact hP
  rw [← hHl.1, ← hHl.2]
  clear hHl
  refine lv_aload_n hx hb d_Mo_moveGain_0 rfl (lv_at hl 0 rfl) ?_
  refine lv_aload_n hx hb d_Mo_moveGain_1 rfl (lv_at hl 0 rfl) ?_
  refine va_get (ci := 8) (v := .ref (a_r 5)) (C := R_Mo) (T := F_Mo) (N := 36) hx hb hal in_Mo hown hK hP 0 rfl rfl 10 (by decide) (hal _ kw_647) (fun _ h9 => h9) rfl d_Mo_moveGain_2 ?_
  refine lv_aload_n hx hb d_Mo_moveGain_5 rfl (lv_at hl 0 rfl) ?_
  refine va_get (ci := 8) (v := .ref (a_r 12)) (C := R_Mo) (T := F_Mo) (N := 36) hx hb hal in_Mo hown hK hP 0 rfl rfl 22 (by decide) (hal _ kw_659) (fun _ h9 => h9) rfl d_Mo_moveGain_6 ?_
  obtain ⟨o_5, hc_4, h⟩ := bd h
  have hPc := hP.sub (ws' := (wd_Mo_copy cA a_r (fun _ => a_r 5) (fun _ => a_r 12) r_manner r_above r_below r_nodes r_arcs r_left r_isBest r_arePlateaus r_all r_a r_b r_ties r_z r_plateaus r_hand r_trial)) [0, 1, 7] rfl
  have hDc := hD.sub (ws' := (wd_Mo_copy cA a_r (fun _ => a_r 5) (fun _ => a_r 12) r_manner r_above r_below r_nodes r_arcs r_left r_isBest r_arePlateaus r_all r_a r_b r_ties r_z r_plateaus r_hand r_trial)) [0, 1, 7] (by decide) rfl
  have hFc := va_free (wc := (wd_Mo_copy cA a_r (fun _ => a_r 5) (fun _ => a_r 12) r_manner r_above r_below r_nodes r_arcs r_left r_isBest r_arePlateaus r_all r_a r_b r_ties r_z r_plateaus r_hand r_trial)) hD hS hA [0, 1, 7] rfl
  refine va_callv (va_runV (C := R_Mo) (As := [.ref (a_r 5), .ref (a_r 12)]) (rest := []) ⟨hx, hb, hml, hown, hal⟩ (c_Mo_copy l D cA a_r (fun _ => a_r 5) (fun _ => a_r 12) H.size r_manner r_above r_below r_nodes r_arcs r_left r_isBest r_arePlateaus r_all r_a r_b r_ties r_z r_plateaus r_hand r_trial o_5 hc_4) (cwV 2 hal (goodV kw_833 kw_835 kw_p35 kw_9 kw_836) rfl rfl rfl (by decide +kernel) ⟨Nat.le_of_ble_eq_true rfl, Nat.le_of_ble_eq_true rfl⟩) ⟨fun a U g mk q => by obtain ⟨q0, q1, qP, qK, qD⟩ := q; exact ⟨q0, q1, qP, va_K.moved (u := U) (U := U.calling g mk a) (Vm.Alike.refl U.vm) qK, qD⟩, va_recv hK hP (ci := 8) (q0 := 0) rfl rfl, fun U hU hW => ⟨rfl, by rw [hU], by rw [hU]; exact hPc, va_K.moved hW.alike hK, hDc.weaken (fun _ _ _ _ => trivial)⟩⟩ rfl rfl hl.1 rfl (lv_room (Nat.le_of_ble_eq_true rfl)) d_Mo_moveGain_9 ⟨Nat.le_of_ble_eq_true rfl, Nat.le_of_ble_eq_true rfl⟩) hS (fun q _ h => hFc q h) hFc (fun u t H1 locs ht hvm hw hB hz1 hk1 hS => ?_)
  obtain ⟨u_3, rfl⟩ : ∃ q, q = u := ⟨_, rfl⟩
  subst hw
  obtain ⟨hP1, hK1, hD1⟩ := hB
  rw [ht] at hP1
  have hP1 : va_P D cls9 (wd_Mo_copy cA a_r (fun _ => a_r 5) (fun _ => a_r 12) r_manner r_above r_below r_nodes r_arcs r_left r_isBest r_arePlateaus r_all r_a r_b r_ties r_z r_plateaus r_hand u_3) H1 := hP1
  obtain ⟨hP, hD⟩ := va_join (wr := ([2, 3, 4, 5, 6] : List Nat).filterMap (fun i => (wd_Mo_moveGain cA a_r r_manner r_above r_below r_nodes r_arcs r_left r_isBest r_arePlateaus r_all r_a r_b r_ties r_z r_plateaus r_hand r_between r_has r_sums r_sizes r_names r_trial)[i]?)) (w1 := (wd_Mo_copy cA a_r (fun _ => a_r 5) (fun _ => a_r 12) r_manner r_above r_below r_nodes r_arcs r_left r_isBest r_arePlateaus r_all r_a r_b r_ties r_z r_plateaus r_hand u_3)) hP hD [0, 1, 7] [2, 3, 4, 5, 6] rfl rfl (by decide) (by decide) hk1 hFc hP1 hD1
  generalize H1 = H at hP hS ⊢
  have hP : va_P D cls9 (wd_Mo_moveGain cA a_r r_manner r_above r_below r_nodes r_arcs r_left r_isBest r_arePlateaus r_all r_a r_b r_ties r_z r_plateaus r_hand r_between r_has r_sums r_sizes r_names u_3) H := hP.sub [5, 6, 0, 1, 2, 3, 4, 7] rfl
  have hD : va_D A (wd_Mo_moveGain cA a_r r_manner r_above r_below r_nodes r_arcs r_left r_isBest r_arePlateaus r_all r_a r_b r_ties r_z r_plateaus r_hand r_between r_has r_sums r_sizes r_names u_3) := hD.sub [5, 6, 0, 1, 2, 3, 4, 7] (by decide) rfl
  refine lv_aload_n hx hb d_Mo_moveGain_12 rfl (lv_at hl 0 rfl) ?_
  refine lv_aload_n hx hb d_Mo_moveGain_13 rfl (lv_at hl 0 rfl) ?_
  refine va_get (ci := 8) (v := .ref (a_r 12)) (C := R_Mo) (T := F_Mo) (N := 36) hx hb hal in_Mo hown hK hP 0 rfl rfl 22 (by decide) (hal _ kw_659) (fun _ h9 => h9) rfl d_Mo_moveGain_14 ?_
  refine lv_iload_n hx hb d_Mo_moveGain_17 rfl (lv_at hl 1 rfl) ?_
  refine lv_iload_n hx hb d_Mo_moveGain_18 rfl (lv_at hl 2 rfl) ?_
  obtain ⟨o_11, hc_10, h⟩ := bd h
  have hPc := hP.sub (ws' := (wd_Mo_moveIn cA a_r (fun _ => a_r 12) r_manner r_above r_below r_nodes r_arcs r_left r_isBest r_arePlateaus r_all r_a r_b r_ties r_z r_plateaus r_names u_3)) [0, 6, 7] rfl
  have hDc := hD.sub (ws' := (wd_Mo_moveIn cA a_r (fun _ => a_r 12) r_manner r_above r_below r_nodes r_arcs r_left r_isBest r_arePlateaus r_all r_a r_b r_ties r_z r_plateaus r_names u_3)) [0, 6, 7] (by decide) rfl
  have hFc := va_free (wc := (wd_Mo_moveIn cA a_r (fun _ => a_r 12) r_manner r_above r_below r_nodes r_arcs r_left r_isBest r_arePlateaus r_all r_a r_b r_ties r_z r_plateaus r_names u_3)) hD hS hA [0, 6, 7] rfl
  refine va_callv (va_runV (C := R_Mo) (As := [.ref (a_r 12), .int v1, .int v2]) (rest := []) ⟨hx, hb, hml, hown, hal⟩ (c_Mo_moveIn l D cA a_r (fun _ => a_r 12) H.size r_manner r_above r_below r_nodes r_arcs r_left r_isBest r_arePlateaus r_all r_a r_b r_ties r_z r_plateaus r_names u_3 v1 v2 o_11 hc_10) (cwV 3 hal (goodV kw_783 kw_785 kw_p27 kw_9 kw_786) rfl rfl rfl (by decide +kernel) ⟨Nat.le_of_ble_eq_true rfl, Nat.le_of_ble_eq_true rfl⟩) ⟨fun a U g mk q => by obtain ⟨q0, q1, qP, qK, qD⟩ := q; exact ⟨q0, q1, qP, va_K.moved (u := U) (U := U.calling g mk a) (Vm.Alike.refl U.vm) qK, qD⟩, va_recv hK hP (ci := 8) (q0 := 0) rfl rfl, fun U hU hW => ⟨rfl, by rw [hU], by rw [hU]; exact hPc, va_K.moved hW.alike hK, hDc.weaken (fun _ _ _ _ => trivial)⟩⟩ rfl rfl hl.1 rfl (lv_room (Nat.le_of_ble_eq_true rfl)) d_Mo_moveGain_19 ⟨Nat.le_of_ble_eq_true rfl, Nat.le_of_ble_eq_true rfl⟩) hS (fun q _ h => hFc q h) hFc (fun u t H1 locs ht hvm hw hB hz1 hk1 hS => ?_)
  obtain ⟨u_8, u_9⟩ := u
  subst hw
  obtain ⟨hP1, hK1, hD1⟩ := hB
  rw [ht] at hP1
  have hP1 : va_P D cls9 (wd_Mo_moveIn cA a_r (fun _ => a_r 12) r_manner r_above r_below r_nodes r_arcs r_left r_isBest r_arePlateaus r_all r_a r_b r_ties r_z r_plateaus u_8 u_9) H1 := hP1
  obtain ⟨hP, hD⟩ := va_join (wr := ([1, 2, 3, 4, 5] : List Nat).filterMap (fun i => (wd_Mo_moveGain cA a_r r_manner r_above r_below r_nodes r_arcs r_left r_isBest r_arePlateaus r_all r_a r_b r_ties r_z r_plateaus r_hand r_between r_has r_sums r_sizes r_names u_3)[i]?)) (w1 := (wd_Mo_moveIn cA a_r (fun _ => a_r 12) r_manner r_above r_below r_nodes r_arcs r_left r_isBest r_arePlateaus r_all r_a r_b r_ties r_z r_plateaus u_8 u_9)) hP hD [0, 6, 7] [1, 2, 3, 4, 5] rfl rfl (by decide) (by decide) hk1 hFc hP1 hD1
  generalize H1 = H at hP hS ⊢
  have hP : va_P D cls9 (wd_Mo_moveGain cA a_r r_manner r_above r_below r_nodes r_arcs r_left r_isBest r_arePlateaus r_all r_a r_b r_ties r_z r_plateaus r_hand r_between r_has r_sums r_sizes u_8 u_9) H := hP.sub [5, 0, 1, 2, 3, 4, 6, 7] rfl
  have hD : va_D A (wd_Mo_moveGain cA a_r r_manner r_above r_below r_nodes r_arcs r_left r_isBest r_arePlateaus r_all r_a r_b r_ties r_z r_plateaus r_hand r_between r_has r_sums r_sizes u_8 u_9) := hD.sub [5, 0, 1, 2, 3, 4, 6, 7] (by decide) rfl
  refine lv_aload_n hx hb d_Mo_moveGain_22 rfl (lv_at hl 0 rfl) ?_
  refine lv_aload_n hx hb d_Mo_moveGain_23 rfl (lv_at hl 0 rfl) ?_
  refine va_get (ci := 8) (v := .ref (a_r 12)) (C := R_Mo) (T := F_Mo) (N := 36) hx hb hal in_Mo hown hK hP 0 rfl rfl 22 (by decide) (hal _ kw_659) (fun _ h9 => h9) rfl d_Mo_moveGain_24 ?_
  obtain ⟨o_19, hc_18, h⟩ := bd h
  have hPc := hP.sub (ws' := (wd_Mo_valueOf cA a_r (fun _ => a_r 12) r_manner r_above r_below r_nodes r_arcs r_left r_isBest r_arePlateaus r_all r_a r_b r_ties r_z r_plateaus r_between r_has r_sums r_sizes u_9)) [0, 2, 3, 4, 5, 7] rfl
  have hDc := hD.sub (ws' := (wd_Mo_valueOf cA a_r (fun _ => a_r 12) r_manner r_above r_below r_nodes r_arcs r_left r_isBest r_arePlateaus r_all r_a r_b r_ties r_z r_plateaus r_between r_has r_sums r_sizes u_9)) [0, 2, 3, 4, 5, 7] (by decide) rfl
  have hFc := va_free (wc := (wd_Mo_valueOf cA a_r (fun _ => a_r 12) r_manner r_above r_below r_nodes r_arcs r_left r_isBest r_arePlateaus r_all r_a r_b r_ties r_z r_plateaus r_between r_has r_sums r_sizes u_9)) hD hS hA [0, 2, 3, 4, 5, 7] rfl
  refine va_calll (va_runV (C := R_Mo) (As := [.ref (a_r 12)]) (rest := []) ⟨hx, hb, hml, hown, hal⟩ (c_Mo_valueOf l D cA a_r (fun _ => a_r 12) H.size r_manner r_above r_below r_nodes r_arcs r_left r_isBest r_arePlateaus r_all r_a r_b r_ties r_z r_plateaus r_between r_has r_sums r_sizes u_9 o_19 hc_18) (cwV 1 hal (goodV kw_811 kw_813 kw_p32 kw_9 kw_814) rfl rfl rfl (by decide +kernel) ⟨Nat.le_of_ble_eq_true rfl, Nat.le_of_ble_eq_true rfl⟩) ⟨fun a U g mk q => by obtain ⟨q0, q1, qP, qK, qD⟩ := q; exact ⟨q0, q1, qP, va_K.moved (u := U) (U := U.calling g mk a) (Vm.Alike.refl U.vm) qK, qD⟩, va_recv hK hP (ci := 8) (q0 := 0) rfl rfl, fun U hU hW => ⟨rfl, by rw [hU], by rw [hU]; exact hPc, va_K.moved hW.alike hK, hDc.weaken (fun _ _ _ _ => trivial)⟩⟩ rfl rfl hl.1 rfl (lv_room (Nat.le_of_ble_eq_true rfl)) d_Mo_moveGain_27 ⟨Nat.le_of_ble_eq_true rfl, Nat.le_of_ble_eq_true rfl⟩) hS (fun q _ h => hFc q h) hFc (fun r_13 u t H1 locs ht hvm hw hB hz1 hk1 hS => ?_)
  obtain ⟨u_14, u_15, u_16, u_17⟩ := u
  subst hw
  obtain ⟨hP1, hK1, hD1⟩ := hB
  rw [ht] at hP1
  have hP1 : va_P D cls9 (wd_Mo_valueOf cA a_r (fun _ => a_r 12) r_manner r_above r_below r_nodes r_arcs r_left r_isBest r_arePlateaus r_all u_14 u_15 r_ties r_z r_plateaus r_between r_has u_16 u_17 u_9) H1 := hP1
  obtain ⟨hP, hD⟩ := va_join (wr := ([1, 6] : List Nat).filterMap (fun i => (wd_Mo_moveGain cA a_r r_manner r_above r_below r_nodes r_arcs r_left r_isBest r_arePlateaus r_all r_a r_b r_ties r_z r_plateaus r_hand r_between r_has r_sums r_sizes u_8 u_9)[i]?)) (w1 := (wd_Mo_valueOf cA a_r (fun _ => a_r 12) r_manner r_above r_below r_nodes r_arcs r_left r_isBest r_arePlateaus r_all u_14 u_15 r_ties r_z r_plateaus r_between r_has u_16 u_17 u_9)) hP hD [0, 2, 3, 4, 5, 7] [1, 6] rfl rfl (by decide) (by decide) hk1 hFc hP1 hD1
  generalize H1 = H at hP hS ⊢
  have hP : va_P D cls9 (wd_Mo_moveGain cA a_r r_manner r_above r_below r_nodes r_arcs r_left r_isBest r_arePlateaus r_all u_14 u_15 r_ties r_z r_plateaus r_hand r_between r_has u_16 u_17 u_8 u_9) H := hP.sub [2, 0, 3, 4, 5, 6, 1, 7] rfl
  have hD : va_D A (wd_Mo_moveGain cA a_r r_manner r_above r_below r_nodes r_arcs r_left r_isBest r_arePlateaus r_all u_14 u_15 r_ties r_z r_plateaus r_hand r_between r_has u_16 u_17 u_8 u_9) := hD.sub [2, 0, 3, 4, 5, 6, 1, 7] (by decide) rfl
  refine lv_aload_n hx hb d_Mo_moveGain_30 rfl (lv_at hl 0 rfl) ?_
  refine lv_aload_n hx hb d_Mo_moveGain_31 rfl (lv_at hl 0 rfl) ?_
  refine va_get (ci := 8) (v := .ref (a_r 5)) (C := R_Mo) (T := F_Mo) (N := 36) hx hb hal in_Mo hown hK hP 0 rfl rfl 10 (by decide) (hal _ kw_647) (fun _ h9 => h9) rfl d_Mo_moveGain_32 ?_
  obtain ⟨o_27, hc_26, h⟩ := bd h
  have hPc := hP.sub (ws' := (wd_Mo_valueOf cA a_r (fun _ => a_r 5) r_manner r_above r_below r_nodes r_arcs r_left r_isBest r_arePlateaus r_all u_14 u_15 r_ties r_z r_plateaus r_between r_has u_16 u_17 r_hand)) [0, 2, 3, 4, 5, 1] rfl
  have hDc := hD.sub (ws' := (wd_Mo_valueOf cA a_r (fun _ => a_r 5) r_manner r_above r_below r_nodes r_arcs r_left r_isBest r_arePlateaus r_all u_14 u_15 r_ties r_z r_plateaus r_between r_has u_16 u_17 r_hand)) [0, 2, 3, 4, 5, 1] (by decide) rfl
  have hFc := va_free (wc := (wd_Mo_valueOf cA a_r (fun _ => a_r 5) r_manner r_above r_below r_nodes r_arcs r_left r_isBest r_arePlateaus r_all u_14 u_15 r_ties r_z r_plateaus r_between r_has u_16 u_17 r_hand)) hD hS hA [0, 2, 3, 4, 5, 1] rfl
  refine va_calll (va_runV (C := R_Mo) (As := [.ref (a_r 5)]) (rest := [.long r_13]) ⟨hx, hb, hml, hown, hal⟩ (c_Mo_valueOf l D cA a_r (fun _ => a_r 5) H.size r_manner r_above r_below r_nodes r_arcs r_left r_isBest r_arePlateaus r_all u_14 u_15 r_ties r_z r_plateaus r_between r_has u_16 u_17 r_hand o_27 hc_26) (cwV 1 hal (goodV kw_811 kw_813 kw_p32 kw_9 kw_814) rfl rfl rfl (by decide +kernel) ⟨Nat.le_of_ble_eq_true rfl, Nat.le_of_ble_eq_true rfl⟩) ⟨fun a U g mk q => by obtain ⟨q0, q1, qP, qK, qD⟩ := q; exact ⟨q0, q1, qP, va_K.moved (u := U) (U := U.calling g mk a) (Vm.Alike.refl U.vm) qK, qD⟩, va_recv hK hP (ci := 8) (q0 := 0) rfl rfl, fun U hU hW => ⟨rfl, by rw [hU], by rw [hU]; exact hPc, va_K.moved hW.alike hK, hDc.weaken (fun _ _ _ _ => trivial)⟩⟩ rfl rfl hl.1 rfl (lv_room (Nat.le_of_ble_eq_true rfl)) d_Mo_moveGain_35 ⟨Nat.le_of_ble_eq_true rfl, Nat.le_of_ble_eq_true rfl⟩) hS (fun q _ h => hFc q h) hFc (fun r_21 u t H1 locs ht hvm hw hB hz1 hk1 hS => ?_)
  obtain ⟨u_22, u_23, u_24, u_25⟩ := u
  subst hw
  obtain ⟨hP1, hK1, hD1⟩ := hB
  rw [ht] at hP1
  have hP1 : va_P D cls9 (wd_Mo_valueOf cA a_r (fun _ => a_r 5) r_manner r_above r_below r_nodes r_arcs r_left r_isBest r_arePlateaus r_all u_22 u_23 r_ties r_z r_plateaus r_between r_has u_24 u_25 r_hand) H1 := hP1
  obtain ⟨hP, hD⟩ := va_join (wr := ([6, 7] : List Nat).filterMap (fun i => (wd_Mo_moveGain cA a_r r_manner r_above r_below r_nodes r_arcs r_left r_isBest r_arePlateaus r_all u_14 u_15 r_ties r_z r_plateaus r_hand r_between r_has u_16 u_17 u_8 u_9)[i]?)) (w1 := (wd_Mo_valueOf cA a_r (fun _ => a_r 5) r_manner r_above r_below r_nodes r_arcs r_left r_isBest r_arePlateaus r_all u_22 u_23 r_ties r_z r_plateaus r_between r_has u_24 u_25 r_hand)) hP hD [0, 2, 3, 4, 5, 1] [6, 7] rfl rfl (by decide) (by decide) hk1 hFc hP1 hD1
  generalize H1 = H at hP hS ⊢
  have hP : va_P D cls9 (wd_Mo_moveGain cA a_r r_manner r_above r_below r_nodes r_arcs r_left r_isBest r_arePlateaus r_all u_22 u_23 r_ties r_z r_plateaus r_hand r_between r_has u_24 u_25 u_8 u_9) H := hP.sub [2, 7, 3, 4, 5, 6, 0, 1] rfl
  have hD : va_D A (wd_Mo_moveGain cA a_r r_manner r_above r_below r_nodes r_arcs r_left r_isBest r_arePlateaus r_all u_22 u_23 r_ties r_z r_plateaus r_hand r_between r_has u_24 u_25 u_8 u_9) := hD.sub [2, 7, 3, 4, 5, 6, 0, 1] (by decide) rfl
  refine lv_lsub hx hb d_Mo_moveGain_38 ?_
  exact W.lret (v := (r_13 - r_21)) hx hb hr (fun t ht hW => ⟨⟨(r_13 - r_21), (u_22, u_23, u_24, u_25, u_8, u_9), rfl, Option.some.inj h, by rw [ht]; exact hP, va_K.moved hW.alike hK, hD⟩, hS.F ht⟩) hS.2.2 d_Mo_moveGain_39
def wd_Mo_mergeGain (cA : Nat → ClassId) (a_r : Nat → Nat) (r_manner : Int32) (r_above : Int32) (r_below : Int32) (r_nodes : Int32) (r_arcs : Int32) (r_left : Int32) (r_isBest : Int32) (r_arePlateaus : Int32) (r_all : Int64) (r_a : Int64) (r_b : Int64) (r_ties : Int32) (r_z : Int32) (r_plateaus : Int32) (r_hand : Nat → Int32) (r_between : Nat → Int32) (r_has : Nat → Int32) (r_sums : Nat → Int64) (r_sizes : Nat → Int64) (r_names : Nat → Int32) (r_trial : Nat → Int32) : va_W := [(a_r 0, .inr (8, [.int r_manner, .int r_above, .int r_below, .int r_nodes, .int r_arcs, .int r_left, .ref (a_r 1), .ref (a_r 2), .ref (a_r 3), .ref (a_r 4), .ref (a_r 5), .int r_isBest, .int r_arePlateaus, .ref (a_r 6), .ref (a_r 7), .ref (a_r 8), .long r_all, .ref (a_r 9), .ref (a_r 10), .long r_a, .long r_b, .ref (a_r 11), .ref (a_r 12), .ref (a_r 13), .ref (a_r 14), .ref (a_r 15), .int r_ties, .ref (a_r 16), .ref (a_r 17), .ref (a_r 18), .int r_z, .int r_plateaus, .ref (a_r 19), .ref (a_r 20), .ref (a_r 21), .ref (a_r 22)])), (a_r 5, .inl (cA 0, 9, .inl r_hand)), (a_r 6, .inl (cA 0, 81, .inl r_between)), (a_r 8, .inl (cA 0, 9, .inl r_has)), (a_r 9, .inl (cA 1, 9, .inr (.inl r_sums))), (a_r 10, .inl (cA 1, 9, .inr (.inl r_sizes))), (a_r 11, .inl (cA 0, 9, .inl r_names)), (a_r 12, .inl (cA 0, 9, .inl r_trial))]
noncomputable def m_Mo_mergeGain (r_manner : Int32) (r_above : Int32) (r_below : Int32) (r_nodes : Int32) (r_all : Int64) (r_hand : Nat → Int32) (r_between : Nat → Int32) (r_has : Nat → Int32) (r_sums : Nat → Int64) (r_sizes : Nat → Int64) (r_names : Nat → Int32) (r_trial : Nat → Int32) (v1 : Int32) (v2 : Int32) : Option (Int64 × Int64 × Int64 × (Nat → Int64) × (Nat → Int64) × (Nat → Int32) × (Nat → Int32)) :=
  ((m_Mo_copy r_nodes r_hand r_trial).bind (fun r9 : (Nat → Int32) => ((m_Mo_mergeIn r_nodes r_names r9 v1 v2).bind (fun r19 : (Nat → Int32) × (Nat → Int32) => ((m_Mo_valueOf r_manner r_above r_below r_nodes r_all r_between r_has r_sums r_sizes r19.2).bind (fun r27 : Int64 × Int64 × Int64 × (Nat → Int64) × (Nat → Int64) => ((m_Mo_valueOf r_manner r_above r_below r_nodes r_all r_between r_has r27.2.2.2.1 r27.2.2.2.2 r_hand).bind (fun r35 : Int64 × Int64 × Int64 × (Nat → Int64) × (Nat → Int64) => some ((r27.1 - r35.1), r35.2.1, r35.2.2.1, r35.2.2.2.1, r35.2.2.2.2, r19.1, r19.2)))))))))
set_option maxHeartbeats 4000000 in
set_option maxRecDepth 100000 in
theorem c_Mo_mergeGain (l : Launch) (D : va_G) (cA : Nat → ClassId) (a_r : Nat → Nat) (sz : Nat) (r_manner : Int32) (r_above : Int32) (r_below : Int32) (r_nodes : Int32) (r_arcs : Int32) (r_left : Int32) (r_isBest : Int32) (r_arePlateaus : Int32) (r_all : Int64) (r_a : Int64) (r_b : Int64) (r_ties : Int32) (r_z : Int32) (r_plateaus : Int32) (r_hand : Nat → Int32) (r_between : Nat → Int32) (r_has : Nat → Int32) (r_sums : Nat → Int64) (r_sizes : Nat → Int64) (r_names : Nat → Int32) (r_trial : Nat → Int32) (v1 : Int32) (v2 : Int32) (out : Int64 × Int64 × Int64 × (Nat → Int64) × (Nat → Int64) × (Nat → Int32) × (Nat → Int32)) (h : m_Mo_mergeGain r_manner r_above r_below r_nodes r_all r_hand r_between r_has r_sums r_sizes r_names r_trial v1 v2 = some out) : Met l y_Mo_mergeGain w_Mo_mergeGain ({ frames := 2, cells := 0, slots := 0, locals := 49 }) (va_Pc [.ref (a_r 0), .int v1, .int v2] (fun U => U.heap.size = sz ∧ va_P D cls9 (wd_Mo_mergeGain cA a_r r_manner r_above r_below r_nodes r_arcs r_left r_isBest r_arePlateaus r_all r_a r_b r_ties r_z r_plateaus r_hand r_between r_has r_sums r_sizes r_names r_trial) U.heap ∧ va_K D cls9 (tys5 cA) U ∧ va_D (fun _ => True) (wd_Mo_mergeGain cA a_r r_manner r_above r_below r_nodes r_arcs r_left r_isBest r_arePlateaus r_all r_a r_b r_ties r_z r_plateaus r_hand r_between r_has r_sums r_sizes r_names r_trial))) (va_Ql (fun (rr : Int64) (uu : Int64 × Int64 × (Nat → Int64) × (Nat → Int64) × (Nat → Int32) × (Nat → Int32)) => (rr, uu) = out) (fun (uu : Int64 × Int64 × (Nat → Int64) × (Nat → Int64) × (Nat → Int32) × (Nat → Int32)) (t : State) => va_P D cls9 (wd_Mo_mergeGain cA a_r r_manner r_above r_below r_nodes r_arcs r_left r_isBest r_arePlateaus r_all uu.1 uu.2.1 r_ties r_z r_plateaus r_hand r_between r_has uu.2.2.1 uu.2.2.2.1 uu.2.2.2.2.1 uu.2.2.2.2.2) t.heap ∧ va_K D cls9 (tys5 cA) t ∧ va_D (va_A (wd_Mo_mergeGain cA a_r r_manner r_above r_below r_nodes r_arcs r_left r_isBest r_arePlateaus r_all r_a r_b r_ties r_z r_plateaus r_hand r_between r_has r_sums r_sizes r_names r_trial) sz) (wd_Mo_mergeGain cA a_r r_manner r_above r_below r_nodes r_arcs r_left r_isBest r_arePlateaus r_all uu.1 uu.2.1 r_ties r_z r_plateaus r_hand r_between r_has uu.2.2.1 uu.2.2.2.1 uu.2.2.2.2.1 uu.2.2.2.2.2)) (va_A (wd_Mo_mergeGain cA a_r r_manner r_above r_below r_nodes r_arcs r_left r_isBest r_arePlateaus r_all r_a r_b r_ties r_z r_plateaus r_hand r_between r_has r_sums r_sizes r_names r_trial) sz)) 0 0 (va_A (wd_Mo_mergeGain cA a_r r_manner r_above r_below r_nodes r_arcs r_left r_isBest r_arePlateaus r_all r_a r_b r_ties r_z r_plateaus r_hand r_between r_has r_sums r_sizes r_names r_trial) sz) := by
  refine Met.ofW (cc := b_Mo_mergeGain) (maxL := 3) (ret := (Option.some Jvm.ClassFile.FieldType.long)) (by decide) rfl ?_
  intro p e s m args below meth c s₁ B hml hv
  obtain ⟨rfl, hsz, hP, hK, hD0⟩ := hv
  have hx := B.exec
  have hb := B.bytes
  have hr := B.returns
  have hts := atoms_spec (ws := w_Mo_mergeGain) B.pre
  have hal : ∀ w ∈ ALLW, w.before _ s = true := fun w hw => hts w (List.mem_cons_of_mem _ hw)
  have hown : s.vm.findClass R_Mo = some m.cls := findClass_of_methodNamed B.named
  have hlocks := B.notSynchronized
  subst hsz
  have hD := hD0.self (sz := s.heap.size)
  generalize hAe : va_A (wd_Mo_mergeGain cA a_r r_manner r_above r_below r_nodes r_arcs r_left r_isBest r_arePlateaus r_all r_a r_b r_ties r_z r_plateaus r_hand r_between r_has r_sums r_sizes r_names r_trial) s.heap.size = A at hD ⊢
  have hA : ∀ q : Nat, s.heap.size ≤ q → A q := fun q h => by rw [← hAe]; exact Or.inr h
  have hS : va_S A s.heap s.heap [] := va_S.rf
  have hl := lv_entry ([.ref (a_r 0), .int v1, .int v2]) (n := 3) (Nat.le_of_ble_eq_true rfl)
  rw [lg_entry_eq]
  generalize (lg_sl ([.ref (a_r 0), .int v1, .int v2]) ++ List.replicate (3 - (lg_sl ([.ref (a_r 0), .int v1, .int v2])).length) Slot.unset).toArray = ls at hl ⊢
  have hl : lv_has ls 3 [(0, .ref (a_r 0)), (1, .int v1), (2, .int v2)] := hl
  refine wg (fun G hG => ?_)
  refine cast (hG _ _ _ _ _ _ _).symm ?_
  obtain ⟨H, locs, hHl, hS⟩ : ∃ (H : Heap) (locs : List Loc), (H = s.heap ∧ locs = []) ∧ va_S A s.heap H locs := ⟨s.heap, [], ⟨rfl, rfl⟩, hS⟩
  have hP : va_P D cls9 (wd_Mo_mergeGain cA a_r r_manner r_above r_below r_nodes r_arcs r_left r_isBest r_arePlateaus r_all r_a r_b r_ties r_z r_plateaus r_hand r_between r_has r_sums r_sizes r_names r_trial) H := by rw [hHl.1]; exact hP
  rw [← hHl.1, ← hHl.2]
  clear hHl
  refine lv_aload_n hx hb d_Mo_mergeGain_0 rfl (lv_at hl 0 rfl) ?_
  refine lv_aload_n hx hb d_Mo_mergeGain_1 rfl (lv_at hl 0 rfl) ?_
  refine va_get (ci := 8) (v := .ref (a_r 5)) (C := R_Mo) (T := F_Mo) (N := 36) hx hb hal in_Mo hown hK hP 0 rfl rfl 10 (by decide) (hal _ kw_647) (fun _ h9 => h9) rfl d_Mo_mergeGain_2 ?_
  refine lv_aload_n hx hb d_Mo_mergeGain_5 rfl (lv_at hl 0 rfl) ?_
  refine va_get (ci := 8) (v := .ref (a_r 12)) (C := R_Mo) (T := F_Mo) (N := 36) hx hb hal in_Mo hown hK hP 0 rfl rfl 22 (by decide) (hal _ kw_659) (fun _ h9 => h9) rfl d_Mo_mergeGain_6 ?_
  obtain ⟨o_5, hc_4, h⟩ := bd h
  have hPc := hP.sub (ws' := (wd_Mo_copy cA a_r (fun _ => a_r 5) (fun _ => a_r 12) r_manner r_above r_below r_nodes r_arcs r_left r_isBest r_arePlateaus r_all r_a r_b r_ties r_z r_plateaus r_hand r_trial)) [0, 1, 7] rfl
  have hDc := hD.sub (ws' := (wd_Mo_copy cA a_r (fun _ => a_r 5) (fun _ => a_r 12) r_manner r_above r_below r_nodes r_arcs r_left r_isBest r_arePlateaus r_all r_a r_b r_ties r_z r_plateaus r_hand r_trial)) [0, 1, 7] (by decide) rfl
  have hFc := va_free (wc := (wd_Mo_copy cA a_r (fun _ => a_r 5) (fun _ => a_r 12) r_manner r_above r_below r_nodes r_arcs r_left r_isBest r_arePlateaus r_all r_a r_b r_ties r_z r_plateaus r_hand r_trial)) hD hS hA [0, 1, 7] rfl
  refine va_callv (va_runV (C := R_Mo) (As := [.ref (a_r 5), .ref (a_r 12)]) (rest := []) ⟨hx, hb, hml, hown, hal⟩ (c_Mo_copy l D cA a_r (fun _ => a_r 5) (fun _ => a_r 12) H.size r_manner r_above r_below r_nodes r_arcs r_left r_isBest r_arePlateaus r_all r_a r_b r_ties r_z r_plateaus r_hand r_trial o_5 hc_4) (cwV 2 hal (goodV kw_833 kw_835 kw_p35 kw_9 kw_836) rfl rfl rfl (by decide +kernel) ⟨Nat.le_of_ble_eq_true rfl, Nat.le_of_ble_eq_true rfl⟩) ⟨fun a U g mk q => by obtain ⟨q0, q1, qP, qK, qD⟩ := q; exact ⟨q0, q1, qP, va_K.moved (u := U) (U := U.calling g mk a) (Vm.Alike.refl U.vm) qK, qD⟩, va_recv hK hP (ci := 8) (q0 := 0) rfl rfl, fun U hU hW => ⟨rfl, by rw [hU], by rw [hU]; exact hPc, va_K.moved hW.alike hK, hDc.weaken (fun _ _ _ _ => trivial)⟩⟩ rfl rfl hl.1 rfl (lv_room (Nat.le_of_ble_eq_true rfl)) d_Mo_mergeGain_9 ⟨Nat.le_of_ble_eq_true rfl, Nat.le_of_ble_eq_true rfl⟩) hS (fun q _ h => hFc q h) hFc (fun u t H1 locs ht hvm hw hB hz1 hk1 hS => ?_)
  obtain ⟨u_3, rfl⟩ : ∃ q, q = u := ⟨_, rfl⟩
  subst hw
  obtain ⟨hP1, hK1, hD1⟩ := hB
  rw [ht] at hP1
  have hP1 : va_P D cls9 (wd_Mo_copy cA a_r (fun _ => a_r 5) (fun _ => a_r 12) r_manner r_above r_below r_nodes r_arcs r_left r_isBest r_arePlateaus r_all r_a r_b r_ties r_z r_plateaus r_hand u_3) H1 := hP1
  obtain ⟨hP, hD⟩ := va_join (wr := ([2, 3, 4, 5, 6] : List Nat).filterMap (fun i => (wd_Mo_mergeGain cA a_r r_manner r_above r_below r_nodes r_arcs r_left r_isBest r_arePlateaus r_all r_a r_b r_ties r_z r_plateaus r_hand r_between r_has r_sums r_sizes r_names r_trial)[i]?)) (w1 := (wd_Mo_copy cA a_r (fun _ => a_r 5) (fun _ => a_r 12) r_manner r_above r_below r_nodes r_arcs r_left r_isBest r_arePlateaus r_all r_a r_b r_ties r_z r_plateaus r_hand u_3)) hP hD [0, 1, 7] [2, 3, 4, 5, 6] rfl rfl (by decide) (by decide) hk1 hFc hP1 hD1
  generalize H1 = H at hP hS ⊢
  have hP : va_P D cls9 (wd_Mo_mergeGain cA a_r r_manner r_above r_below r_nodes r_arcs r_left r_isBest r_arePlateaus r_all r_a r_b r_ties r_z r_plateaus r_hand r_between r_has r_sums r_sizes r_names u_3) H := hP.sub [5, 6, 0, 1, 2, 3, 4, 7] rfl
  have hD : va_D A (wd_Mo_mergeGain cA a_r r_manner r_above r_below r_nodes r_arcs r_left r_isBest r_arePlateaus r_all r_a r_b r_ties r_z r_plateaus r_hand r_between r_has r_sums r_sizes r_names u_3) := hD.sub [5, 6, 0, 1, 2, 3, 4, 7] (by decide) rfl
  refine lv_aload_n hx hb d_Mo_mergeGain_12 rfl (lv_at hl 0 rfl) ?_
  refine lv_aload_n hx hb d_Mo_mergeGain_13 rfl (lv_at hl 0 rfl) ?_
  refine va_get (ci := 8) (v := .ref (a_r 12)) (C := R_Mo) (T := F_Mo) (N := 36) hx hb hal in_Mo hown hK hP 0 rfl rfl 22 (by decide) (hal _ kw_659) (fun _ h9 => h9) rfl d_Mo_mergeGain_14 ?_
  refine lv_iload_n hx hb d_Mo_mergeGain_17 rfl (lv_at hl 1 rfl) ?_
  refine lv_iload_n hx hb d_Mo_mergeGain_18 rfl (lv_at hl 2 rfl) ?_
  obtain ⟨o_11, hc_10, h⟩ := bd h
  have hPc := hP.sub (ws' := (wd_Mo_mergeIn cA a_r (fun _ => a_r 12) r_manner r_above r_below r_nodes r_arcs r_left r_isBest r_arePlateaus r_all r_a r_b r_ties r_z r_plateaus r_names u_3)) [0, 6, 7] rfl
  have hDc := hD.sub (ws' := (wd_Mo_mergeIn cA a_r (fun _ => a_r 12) r_manner r_above r_below r_nodes r_arcs r_left r_isBest r_arePlateaus r_all r_a r_b r_ties r_z r_plateaus r_names u_3)) [0, 6, 7] (by decide) rfl
  have hFc := va_free (wc := (wd_Mo_mergeIn cA a_r (fun _ => a_r 12) r_manner r_above r_below r_nodes r_arcs r_left r_isBest r_arePlateaus r_all r_a r_b r_ties r_z r_plateaus r_names u_3)) hD hS hA [0, 6, 7] rfl
  refine va_callv (va_runV (C := R_Mo) (As := [.ref (a_r 12), .int v1, .int v2]) (rest := []) ⟨hx, hb, hml, hown, hal⟩ (c_Mo_mergeIn l D cA a_r (fun _ => a_r 12) H.size r_manner r_above r_below r_nodes r_arcs r_left r_isBest r_arePlateaus r_all r_a r_b r_ties r_z r_plateaus r_names u_3 v1 v2 o_11 hc_10) (cwV 3 hal (goodV kw_845 kw_847 kw_p37 kw_9 kw_848) rfl rfl rfl (by decide +kernel) ⟨Nat.le_of_ble_eq_true rfl, Nat.le_of_ble_eq_true rfl⟩) ⟨fun a U g mk q => by obtain ⟨q0, q1, qP, qK, qD⟩ := q; exact ⟨q0, q1, qP, va_K.moved (u := U) (U := U.calling g mk a) (Vm.Alike.refl U.vm) qK, qD⟩, va_recv hK hP (ci := 8) (q0 := 0) rfl rfl, fun U hU hW => ⟨rfl, by rw [hU], by rw [hU]; exact hPc, va_K.moved hW.alike hK, hDc.weaken (fun _ _ _ _ => trivial)⟩⟩ rfl rfl hl.1 rfl (lv_room (Nat.le_of_ble_eq_true rfl)) d_Mo_mergeGain_19 ⟨Nat.le_of_ble_eq_true rfl, Nat.le_of_ble_eq_true rfl⟩) hS (fun q _ h => hFc q h) hFc (fun u t H1 locs ht hvm hw hB hz1 hk1 hS => ?_)
  obtain ⟨u_8, u_9⟩ := u
  subst hw
  obtain ⟨hP1, hK1, hD1⟩ := hB
  rw [ht] at hP1
  have hP1 : va_P D cls9 (wd_Mo_mergeIn cA a_r (fun _ => a_r 12) r_manner r_above r_below r_nodes r_arcs r_left r_isBest r_arePlateaus r_all r_a r_b r_ties r_z r_plateaus u_8 u_9) H1 := hP1
  obtain ⟨hP, hD⟩ := va_join (wr := ([1, 2, 3, 4, 5] : List Nat).filterMap (fun i => (wd_Mo_mergeGain cA a_r r_manner r_above r_below r_nodes r_arcs r_left r_isBest r_arePlateaus r_all r_a r_b r_ties r_z r_plateaus r_hand r_between r_has r_sums r_sizes r_names u_3)[i]?)) (w1 := (wd_Mo_mergeIn cA a_r (fun _ => a_r 12) r_manner r_above r_below r_nodes r_arcs r_left r_isBest r_arePlateaus r_all r_a r_b r_ties r_z r_plateaus u_8 u_9)) hP hD [0, 6, 7] [1, 2, 3, 4, 5] rfl rfl (by decide) (by decide) hk1 hFc hP1 hD1
  generalize H1 = H at hP hS ⊢
  have hP : va_P D cls9 (wd_Mo_mergeGain cA a_r r_manner r_above r_below r_nodes r_arcs r_left r_isBest r_arePlateaus r_all r_a r_b r_ties r_z r_plateaus r_hand r_between r_has r_sums r_sizes u_8 u_9) H := hP.sub [5, 0, 1, 2, 3, 4, 6, 7] rfl
  have hD : va_D A (wd_Mo_mergeGain cA a_r r_manner r_above r_below r_nodes r_arcs r_left r_isBest r_arePlateaus r_all r_a r_b r_ties r_z r_plateaus r_hand r_between r_has r_sums r_sizes u_8 u_9) := hD.sub [5, 0, 1, 2, 3, 4, 6, 7] (by decide) rfl
  refine lv_aload_n hx hb d_Mo_mergeGain_22 rfl (lv_at hl 0 rfl) ?_
  refine lv_aload_n hx hb d_Mo_mergeGain_23 rfl (lv_at hl 0 rfl) ?_
  refine va_get (ci := 8) (v := .ref (a_r 12)) (C := R_Mo) (T := F_Mo) (N := 36) hx hb hal in_Mo hown hK hP 0 rfl rfl 22 (by decide) (hal _ kw_659) (fun _ h9 => h9) rfl d_Mo_mergeGain_24 ?_
  obtain ⟨o_19, hc_18, h⟩ := bd h
  have hPc := hP.sub (ws' := (wd_Mo_valueOf cA a_r (fun _ => a_r 12) r_manner r_above r_below r_nodes r_arcs r_left r_isBest r_arePlateaus r_all r_a r_b r_ties r_z r_plateaus r_between r_has r_sums r_sizes u_9)) [0, 2, 3, 4, 5, 7] rfl
  have hDc := hD.sub (ws' := (wd_Mo_valueOf cA a_r (fun _ => a_r 12) r_manner r_above r_below r_nodes r_arcs r_left r_isBest r_arePlateaus r_all r_a r_b r_ties r_z r_plateaus r_between r_has r_sums r_sizes u_9)) [0, 2, 3, 4, 5, 7] (by decide) rfl
  have hFc := va_free (wc := (wd_Mo_valueOf cA a_r (fun _ => a_r 12) r_manner r_above r_below r_nodes r_arcs r_left r_isBest r_arePlateaus r_all r_a r_b r_ties r_z r_plateaus r_between r_has r_sums r_sizes u_9)) hD hS hA [0, 2, 3, 4, 5, 7] rfl
  refine va_calll (va_runV (C := R_Mo) (As := [.ref (a_r 12)]) (rest := []) ⟨hx, hb, hml, hown, hal⟩ (c_Mo_valueOf l D cA a_r (fun _ => a_r 12) H.size r_manner r_above r_below r_nodes r_arcs r_left r_isBest r_arePlateaus r_all r_a r_b r_ties r_z r_plateaus r_between r_has r_sums r_sizes u_9 o_19 hc_18) (cwV 1 hal (goodV kw_811 kw_813 kw_p32 kw_9 kw_814) rfl rfl rfl (by decide +kernel) ⟨Nat.le_of_ble_eq_true rfl, Nat.le_of_ble_eq_true rfl⟩) ⟨fun a U g mk q => by obtain ⟨q0, q1, qP, qK, qD⟩ := q; exact ⟨q0, q1, qP, va_K.moved (u := U) (U := U.calling g mk a) (Vm.Alike.refl U.vm) qK, qD⟩, va_recv hK hP (ci := 8) (q0 := 0) rfl rfl, fun U hU hW => ⟨rfl, by rw [hU], by rw [hU]; exact hPc, va_K.moved hW.alike hK, hDc.weaken (fun _ _ _ _ => trivial)⟩⟩ rfl rfl hl.1 rfl (lv_room (Nat.le_of_ble_eq_true rfl)) d_Mo_mergeGain_27 ⟨Nat.le_of_ble_eq_true rfl, Nat.le_of_ble_eq_true rfl⟩) hS (fun q _ h => hFc q h) hFc (fun r_13 u t H1 locs ht hvm hw hB hz1 hk1 hS => ?_)
  obtain ⟨u_14, u_15, u_16, u_17⟩ := u
  subst hw
  obtain ⟨hP1, hK1, hD1⟩ := hB
  rw [ht] at hP1
  have hP1 : va_P D cls9 (wd_Mo_valueOf cA a_r (fun _ => a_r 12) r_manner r_above r_below r_nodes r_arcs r_left r_isBest r_arePlateaus r_all u_14 u_15 r_ties r_z r_plateaus r_between r_has u_16 u_17 u_9) H1 := hP1
  obtain ⟨hP, hD⟩ := va_join (wr := ([1, 6] : List Nat).filterMap (fun i => (wd_Mo_mergeGain cA a_r r_manner r_above r_below r_nodes r_arcs r_left r_isBest r_arePlateaus r_all r_a r_b r_ties r_z r_plateaus r_hand r_between r_has r_sums r_sizes u_8 u_9)[i]?)) (w1 := (wd_Mo_valueOf cA a_r (fun _ => a_r 12) r_manner r_above r_below r_nodes r_arcs r_left r_isBest r_arePlateaus r_all u_14 u_15 r_ties r_z r_plateaus r_between r_has u_16 u_17 u_9)) hP hD [0, 2, 3, 4, 5, 7] [1, 6] rfl rfl (by decide) (by decide) hk1 hFc hP1 hD1
  generalize H1 = H at hP hS ⊢
  have hP : va_P D cls9 (wd_Mo_mergeGain cA a_r r_manner r_above r_below r_nodes r_arcs r_left r_isBest r_arePlateaus r_all u_14 u_15 r_ties r_z r_plateaus r_hand r_between r_has u_16 u_17 u_8 u_9) H := hP.sub [2, 0, 3, 4, 5, 6, 1, 7] rfl
  have hD : va_D A (wd_Mo_mergeGain cA a_r r_manner r_above r_below r_nodes r_arcs r_left r_isBest r_arePlateaus r_all u_14 u_15 r_ties r_z r_plateaus r_hand r_between r_has u_16 u_17 u_8 u_9) := hD.sub [2, 0, 3, 4, 5, 6, 1, 7] (by decide) rfl
  refine lv_aload_n hx hb d_Mo_mergeGain_30 rfl (lv_at hl 0 rfl) ?_
  refine lv_aload_n hx hb d_Mo_mergeGain_31 rfl (lv_at hl 0 rfl) ?_
  refine va_get (ci := 8) (v := .ref (a_r 5)) (C := R_Mo) (T := F_Mo) (N := 36) hx hb hal in_Mo hown hK hP 0 rfl rfl 10 (by decide) (hal _ kw_647) (fun _ h9 => h9) rfl d_Mo_mergeGain_32 ?_
  obtain ⟨o_27, hc_26, h⟩ := bd h
  have hPc := hP.sub (ws' := (wd_Mo_valueOf cA a_r (fun _ => a_r 5) r_manner r_above r_below r_nodes r_arcs r_left r_isBest r_arePlateaus r_all u_14 u_15 r_ties r_z r_plateaus r_between r_has u_16 u_17 r_hand)) [0, 2, 3, 4, 5, 1] rfl
  have hDc := hD.sub (ws' := (wd_Mo_valueOf cA a_r (fun _ => a_r 5) r_manner r_above r_below r_nodes r_arcs r_left r_isBest r_arePlateaus r_all u_14 u_15 r_ties r_z r_plateaus r_between r_has u_16 u_17 r_hand)) [0, 2, 3, 4, 5, 1] (by decide) rfl
  have hFc := va_free (wc := (wd_Mo_valueOf cA a_r (fun _ => a_r 5) r_manner r_above r_below r_nodes r_arcs r_left r_isBest r_arePlateaus r_all u_14 u_15 r_ties r_z r_plateaus r_between r_has u_16 u_17 r_hand)) hD hS hA [0, 2, 3, 4, 5, 1] rfl
  refine va_calll (va_runV (C := R_Mo) (As := [.ref (a_r 5)]) (rest := [.long r_13]) ⟨hx, hb, hml, hown, hal⟩ (c_Mo_valueOf l D cA a_r (fun _ => a_r 5) H.size r_manner r_above r_below r_nodes r_arcs r_left r_isBest r_arePlateaus r_all u_14 u_15 r_ties r_z r_plateaus r_between r_has u_16 u_17 r_hand o_27 hc_26) (cwV 1 hal (goodV kw_811 kw_813 kw_p32 kw_9 kw_814) rfl rfl rfl (by decide +kernel) ⟨Nat.le_of_ble_eq_true rfl, Nat.le_of_ble_eq_true rfl⟩) ⟨fun a U g mk q => by obtain ⟨q0, q1, qP, qK, qD⟩ := q; exact ⟨q0, q1, qP, va_K.moved (u := U) (U := U.calling g mk a) (Vm.Alike.refl U.vm) qK, qD⟩, va_recv hK hP (ci := 8) (q0 := 0) rfl rfl, fun U hU hW => ⟨rfl, by rw [hU], by rw [hU]; exact hPc, va_K.moved hW.alike hK, hDc.weaken (fun _ _ _ _ => trivial)⟩⟩ rfl rfl hl.1 rfl (lv_room (Nat.le_of_ble_eq_true rfl)) d_Mo_mergeGain_35 ⟨Nat.le_of_ble_eq_true rfl, Nat.le_of_ble_eq_true rfl⟩) hS (fun q _ h => hFc q h) hFc (fun r_21 u t H1 locs ht hvm hw hB hz1 hk1 hS => ?_)
  obtain ⟨u_22, u_23, u_24, u_25⟩ := u
  subst hw
  obtain ⟨hP1, hK1, hD1⟩ := hB
  rw [ht] at hP1
  have hP1 : va_P D cls9 (wd_Mo_valueOf cA a_r (fun _ => a_r 5) r_manner r_above r_below r_nodes r_arcs r_left r_isBest r_arePlateaus r_all u_22 u_23 r_ties r_z r_plateaus r_between r_has u_24 u_25 r_hand) H1 := hP1
  obtain ⟨hP, hD⟩ := va_join (wr := ([6, 7] : List Nat).filterMap (fun i => (wd_Mo_mergeGain cA a_r r_manner r_above r_below r_nodes r_arcs r_left r_isBest r_arePlateaus r_all u_14 u_15 r_ties r_z r_plateaus r_hand r_between r_has u_16 u_17 u_8 u_9)[i]?)) (w1 := (wd_Mo_valueOf cA a_r (fun _ => a_r 5) r_manner r_above r_below r_nodes r_arcs r_left r_isBest r_arePlateaus r_all u_22 u_23 r_ties r_z r_plateaus r_between r_has u_24 u_25 r_hand)) hP hD [0, 2, 3, 4, 5, 1] [6, 7] rfl rfl (by decide) (by decide) hk1 hFc hP1 hD1
  generalize H1 = H at hP hS ⊢
  have hP : va_P D cls9 (wd_Mo_mergeGain cA a_r r_manner r_above r_below r_nodes r_arcs r_left r_isBest r_arePlateaus r_all u_22 u_23 r_ties r_z r_plateaus r_hand r_between r_has u_24 u_25 u_8 u_9) H := hP.sub [2, 7, 3, 4, 5, 6, 0, 1] rfl
  have hD : va_D A (wd_Mo_mergeGain cA a_r r_manner r_above r_below r_nodes r_arcs r_left r_isBest r_arePlateaus r_all u_22 u_23 r_ties r_z r_plateaus r_hand r_between r_has u_24 u_25 u_8 u_9) := hD.sub [2, 7, 3, 4, 5, 6, 0, 1] (by decide) rfl
  refine lv_lsub hx hb d_Mo_mergeGain_38 ?_
  exact W.lret (v := (r_13 - r_21)) hx hb hr (fun t ht hW => ⟨⟨(r_13 - r_21), (u_22, u_23, u_24, u_25, u_8, u_9), rfl, Option.some.inj h, by rw [ht]; exact hP, va_K.moved hW.alike hK, hD⟩, hS.F ht⟩) hS.2.2 d_Mo_mergeGain_39
def wd_Mo_move (cA : Nat → ClassId) (a_r : Nat → Nat) (r_manner : Int32) (r_above : Int32) (r_below : Int32) (r_nodes : Int32) (r_arcs : Int32) (r_left : Int32) (r_isBest : Int32) (r_arePlateaus : Int32) (r_all : Int64) (r_a : Int64) (r_b : Int64) (r_ties : Int32) (r_z : Int32) (r_plateaus : Int32) (r_ones : Nat → Int32) (r_others : Nat → Int32) (r_weights : Nat → Int32) (r_there : Nat → Int32) (r_hand : Nat → Int32) (r_between : Nat → Int32) (r_joins : Nat → Int32) (r_has : Nat → Int32) (r_sums : Nat → Int64) (r_sizes : Nat → Int64) (r_names : Nat → Int32) (r_trial : Nat → Int32) : va_W := [(a_r 0, .inr (8, [.int r_manner, .int r_above, .int r_below, .int r_nodes, .int r_arcs, .int r_left, .ref (a_r 1), .ref (a_r 2), .ref (a_r 3), .ref (a_r 4), .ref (a_r 5), .int r_isBest, .int r_arePlateaus, .ref (a_r 6), .ref (a_r 7), .ref (a_r 8), .long r_all, .ref (a_r 9), .ref (a_r 10), .long r_a, .long r_b, .ref (a_r 11), .ref (a_r 12), .ref (a_r 13), .ref (a_r 14), .ref (a_r 15), .int r_ties, .ref (a_r 16), .ref (a_r 17), .ref (a_r 18), .int r_z, .int r_plateaus, .ref (a_r 19), .ref (a_r 20), .ref (a_r 21), .ref (a_r 22)])), (a_r 1, .inl (cA 0, 36, .inl r_ones)), (a_r 2, .inl (cA 0, 36, .inl r_others)), (a_r 3, .inl (cA 0, 36, .inl r_weights)), (a_r 4, .inl (cA 2, 36, .inl r_there)), (a_r 5, .inl (cA 0, 9, .inl r_hand)), (a_r 6, .inl (cA 0, 81, .inl r_between)), (a_r 7, .inl (cA 2, 81, .inl r_joins)), (a_r 8, .inl (cA 0, 9, .inl r_has)), (a_r 9, .inl (cA 1, 9, .inr (.inl r_sums))), (a_r 10, .inl (cA 1, 9, .inr (.inl r_sizes))), (a_r 11, .inl (cA 0, 9, .inl r_names)), (a_r 12, .inl (cA 0, 9, .inl r_trial))]
noncomputable def m_Mo_move (r_manner : Int32) (r_above : Int32) (r_below : Int32) (r_nodes : Int32) (r_arcs : Int32) (r_a : Int64) (r_b : Int64) (r_ones : Nat → Int32) (r_others : Nat → Int32) (r_weights : Nat → Int32) (r_there : Nat → Int32) (r_hand : Nat → Int32) (r_between : Nat → Int32) (r_joins : Nat → Int32) (r_has : Nat → Int32) (r_sums : Nat → Int64) (r_sizes : Nat → Int64) (r_names : Nat → Int32) (r_trial : Nat → Int32) (v1 : Int32) (v2 : Int32) : Option (Int64 × Int64 × Int64 × Int64 × (Nat → Int32) × (Nat → Int32) × (Nat → Int32) × (Nat → Int64) × (Nat → Int64) × (Nat → Int32) × (Nat → Int32)) :=
  ((m_Mo_weigh r_manner r_arcs r_ones r_others r_weights r_there r_between r_joins r_has).bind (fun r1 : Int64 × (Nat → Int32) × (Nat → Int32) × (Nat → Int32) => ((m_Mo_isNode r_nodes v1).bind (fun r6 : Int32 => (if r6 = 0 then some ((0 : Int64), r1.1, r_a, r_b, r1.2.1, r1.2.2.1, r1.2.2.2, r_sums, r_sizes, r_names, r_trial) else ((m_Mo_isNode r_nodes v2).bind (fun r14 : Int32 => (if r14 = 0 then some ((0 : Int64), r1.1, r_a, r_b, r1.2.1, r1.2.2.1, r1.2.2.2, r_sums, r_sizes, r_names, r_trial) else ((m_Mo_moveGain r_manner r_above r_below r_nodes r1.1 r_hand r1.2.1 r1.2.2.2 r_sums r_sizes r_names r_trial v1 v2).bind (fun r23 : Int64 × Int64 × Int64 × (Nat → Int64) × (Nat → Int64) × (Nat → Int32) × (Nat → Int32) => some (r23.1, r1.1, r23.2.1, r23.2.2.1, r1.2.1, r1.2.2.1, r1.2.2.2, r23.2.2.2.1, r23.2.2.2.2.1, r23.2.2.2.2.2.1, r23.2.2.2.2.2.2)))))))))))
set_option maxHeartbeats 4000000 in
set_option maxRecDepth 100000 in
theorem c_Mo_move (l : Launch) (D : va_G) (cA : Nat → ClassId) (a_r : Nat → Nat) (sz : Nat) (r_manner : Int32) (r_above : Int32) (r_below : Int32) (r_nodes : Int32) (r_arcs : Int32) (r_left : Int32) (r_isBest : Int32) (r_arePlateaus : Int32) (r_all : Int64) (r_a : Int64) (r_b : Int64) (r_ties : Int32) (r_z : Int32) (r_plateaus : Int32) (r_ones : Nat → Int32) (r_others : Nat → Int32) (r_weights : Nat → Int32) (r_there : Nat → Int32) (r_hand : Nat → Int32) (r_between : Nat → Int32) (r_joins : Nat → Int32) (r_has : Nat → Int32) (r_sums : Nat → Int64) (r_sizes : Nat → Int64) (r_names : Nat → Int32) (r_trial : Nat → Int32) (v1 : Int32) (v2 : Int32) (out : Int64 × Int64 × Int64 × Int64 × (Nat → Int32) × (Nat → Int32) × (Nat → Int32) × (Nat → Int64) × (Nat → Int64) × (Nat → Int32) × (Nat → Int32)) (h : m_Mo_move r_manner r_above r_below r_nodes r_arcs r_a r_b r_ones r_others r_weights r_there r_hand r_between r_joins r_has r_sums r_sizes r_names r_trial v1 v2 = some out) : Met l y_Mo_move w_Mo_move ({ frames := 3, cells := 0, slots := 0, locals := 71 }) (va_Pc [.ref (a_r 0), .int v1, .int v2] (fun U => U.heap.size = sz ∧ va_P D cls9 (wd_Mo_move cA a_r r_manner r_above r_below r_nodes r_arcs r_left r_isBest r_arePlateaus r_all r_a r_b r_ties r_z r_plateaus r_ones r_others r_weights r_there r_hand r_between r_joins r_has r_sums r_sizes r_names r_trial) U.heap ∧ va_K D cls9 (tys5 cA) U ∧ va_D (fun _ => True) (wd_Mo_move cA a_r r_manner r_above r_below r_nodes r_arcs r_left r_isBest r_arePlateaus r_all r_a r_b r_ties r_z r_plateaus r_ones r_others r_weights r_there r_hand r_between r_joins r_has r_sums r_sizes r_names r_trial))) (va_Ql (fun (rr : Int64) (uu : Int64 × Int64 × Int64 × (Nat → Int32) × (Nat → Int32) × (Nat → Int32) × (Nat → Int64) × (Nat → Int64) × (Nat → Int32) × (Nat → Int32)) => (rr, uu) = out) (fun (uu : Int64 × Int64 × Int64 × (Nat → Int32) × (Nat → Int32) × (Nat → Int32) × (Nat → Int64) × (Nat → Int64) × (Nat → Int32) × (Nat → Int32)) (t : State) => va_P D cls9 (wd_Mo_move cA a_r r_manner r_above r_below r_nodes r_arcs r_left r_isBest r_arePlateaus uu.1 uu.2.1 uu.2.2.1 r_ties r_z r_plateaus r_ones r_others r_weights r_there r_hand uu.2.2.2.1 uu.2.2.2.2.1 uu.2.2.2.2.2.1 uu.2.2.2.2.2.2.1 uu.2.2.2.2.2.2.2.1 uu.2.2.2.2.2.2.2.2.1 uu.2.2.2.2.2.2.2.2.2) t.heap ∧ va_K D cls9 (tys5 cA) t ∧ va_D (va_A (wd_Mo_move cA a_r r_manner r_above r_below r_nodes r_arcs r_left r_isBest r_arePlateaus r_all r_a r_b r_ties r_z r_plateaus r_ones r_others r_weights r_there r_hand r_between r_joins r_has r_sums r_sizes r_names r_trial) sz) (wd_Mo_move cA a_r r_manner r_above r_below r_nodes r_arcs r_left r_isBest r_arePlateaus uu.1 uu.2.1 uu.2.2.1 r_ties r_z r_plateaus r_ones r_others r_weights r_there r_hand uu.2.2.2.1 uu.2.2.2.2.1 uu.2.2.2.2.2.1 uu.2.2.2.2.2.2.1 uu.2.2.2.2.2.2.2.1 uu.2.2.2.2.2.2.2.2.1 uu.2.2.2.2.2.2.2.2.2)) (va_A (wd_Mo_move cA a_r r_manner r_above r_below r_nodes r_arcs r_left r_isBest r_arePlateaus r_all r_a r_b r_ties r_z r_plateaus r_ones r_others r_weights r_there r_hand r_between r_joins r_has r_sums r_sizes r_names r_trial) sz)) 0 0 (va_A (wd_Mo_move cA a_r r_manner r_above r_below r_nodes r_arcs r_left r_isBest r_arePlateaus r_all r_a r_b r_ties r_z r_plateaus r_ones r_others r_weights r_there r_hand r_between r_joins r_has r_sums r_sizes r_names r_trial) sz) := by
  refine Met.ofW (cc := b_Mo_move) (maxL := 3) (ret := (Option.some Jvm.ClassFile.FieldType.long)) (by decide) rfl ?_
  intro p e s m args below meth c s₁ B hml hv
  obtain ⟨rfl, hsz, hP, hK, hD0⟩ := hv
  have hx := B.exec
  have hb := B.bytes
  have hr := B.returns
  have hts := atoms_spec (ws := w_Mo_move) B.pre
  have hal : ∀ w ∈ ALLW, w.before _ s = true := fun w hw => hts w (List.mem_cons_of_mem _ hw)
  have hown : s.vm.findClass R_Mo = some m.cls := findClass_of_methodNamed B.named
  have hlocks := B.notSynchronized
  subst hsz
  have hD := hD0.self (sz := s.heap.size)
  generalize hAe : va_A (wd_Mo_move cA a_r r_manner r_above r_below r_nodes r_arcs r_left r_isBest r_arePlateaus r_all r_a r_b r_ties r_z r_plateaus r_ones r_others r_weights r_there r_hand r_between r_joins r_has r_sums r_sizes r_names r_trial) s.heap.size = A at hD ⊢
  have hA : ∀ q : Nat, s.heap.size ≤ q → A q := fun q h => by rw [← hAe]; exact Or.inr h
  have hS : va_S A s.heap s.heap [] := va_S.rf
  have hl := lv_entry ([.ref (a_r 0), .int v1, .int v2]) (n := 3) (Nat.le_of_ble_eq_true rfl)
  rw [lg_entry_eq]
  generalize (lg_sl ([.ref (a_r 0), .int v1, .int v2]) ++ List.replicate (3 - (lg_sl ([.ref (a_r 0), .int v1, .int v2])).length) Slot.unset).toArray = ls at hl ⊢
  have hl : lv_has ls 3 [(0, .ref (a_r 0)), (1, .int v1), (2, .int v2)] := hl
  refine wg (fun G hG => ?_)
  refine cast (hG _ _ _ _ _ _ _).symm ?_
  obtain ⟨H, locs, hHl, hS⟩ : ∃ (H : Heap) (locs : List Loc), (H = s.heap ∧ locs = []) ∧ va_S A s.heap H locs := ⟨s.heap, [], ⟨rfl, rfl⟩, hS⟩
  have hP : va_P D cls9 (wd_Mo_move cA a_r r_manner r_above r_below r_nodes r_arcs r_left r_isBest r_arePlateaus r_all r_a r_b r_ties r_z r_plateaus r_ones r_others r_weights r_there r_hand r_between r_joins r_has r_sums r_sizes r_names r_trial) H := by rw [hHl.1]; exact hP
  rw [← hHl.1, ← hHl.2]
  clear hHl
  refine lv_aload_n hx hb d_Mo_move_0 rfl (lv_at hl 0 rfl) ?_
  obtain ⟨o_8, hc_7, h⟩ := bd h
  have hPc := hP.sub (ws' := (wd_Mo_weigh cA a_r r_manner r_above r_below r_nodes r_arcs r_left r_isBest r_arePlateaus r_all r_a r_b r_ties r_z r_plateaus r_ones r_others r_weights r_there r_between r_joins r_has)) [0, 1, 2, 3, 4, 6, 7, 8] rfl
  have hDc := hD.sub (ws' := (wd_Mo_weigh cA a_r r_manner r_above r_below r_nodes r_arcs r_left r_isBest r_arePlateaus r_all r_a r_b r_ties r_z r_plateaus r_ones r_others r_weights r_there r_between r_joins r_has)) [0, 1, 2, 3, 4, 6, 7, 8] (by decide) rfl
  have hFc := va_free (wc := (wd_Mo_weigh cA a_r r_manner r_above r_below r_nodes r_arcs r_left r_isBest r_arePlateaus r_all r_a r_b r_ties r_z r_plateaus r_ones r_others r_weights r_there r_between r_joins r_has)) hD hS hA [0, 1, 2, 3, 4, 6, 7, 8] rfl
  refine va_callv (va_runV (C := R_Mo) (As := []) (rest := []) ⟨hx, hb, hml, hown, hal⟩ (c_Mo_weigh l D cA a_r H.size r_manner r_above r_below r_nodes r_arcs r_left r_isBest r_arePlateaus r_all r_a r_b r_ties r_z r_plateaus r_ones r_others r_weights r_there r_between r_joins r_has o_8 hc_7) (cwV 0 hal (goodV kw_803 kw_805 kw_p30 kw_9 kw_806) rfl rfl rfl (by decide +kernel) ⟨Nat.le_of_ble_eq_true rfl, Nat.le_of_ble_eq_true rfl⟩) ⟨fun a U g mk q => by obtain ⟨q0, q1, qP, qK, qD⟩ := q; exact ⟨q0, q1, qP, va_K.moved (u := U) (U := U.calling g mk a) (Vm.Alike.refl U.vm) qK, qD⟩, va_recv hK hP (ci := 8) (q0 := 0) rfl rfl, fun U hU hW => ⟨rfl, by rw [hU], by rw [hU]; exact hPc, va_K.moved hW.alike hK, hDc.weaken (fun _ _ _ _ => trivial)⟩⟩ rfl rfl hl.1 rfl (lv_room (Nat.le_of_ble_eq_true rfl)) d_Mo_move_1 ⟨Nat.le_of_ble_eq_true rfl, Nat.le_of_ble_eq_true rfl⟩) hS (fun q _ h => hFc q h) hFc (fun u t H1 locs ht hvm hw hB hz1 hk1 hS => ?_)
  obtain ⟨u_3, u_4, u_5, u_6⟩ := u
  subst hw
  obtain ⟨hP1, hK1, hD1⟩ := hB
  rw [ht] at hP1
  have hP1 : va_P D cls9 (wd_Mo_weigh cA a_r r_manner r_above r_below r_nodes r_arcs r_left r_isBest r_arePlateaus u_3 r_a r_b r_ties r_z r_plateaus r_ones r_others r_weights r_there u_4 u_5 u_6) H1 := hP1
  obtain ⟨hP, hD⟩ := va_join (wr := ([5, 9, 10, 11, 12] : List Nat).filterMap (fun i => (wd_Mo_move cA a_r r_manner r_above r_below r_nodes r_arcs r_left r_isBest r_arePlateaus r_all r_a r_b r_ties r_z r_plateaus r_ones r_others r_weights r_there r_hand r_between r_joins r_has r_sums r_sizes r_names r_trial)[i]?)) (w1 := (wd_Mo_weigh cA a_r r_manner r_above r_below r_nodes r_arcs r_left r_isBest r_arePlateaus u_3 r_a r_b r_ties r_z r_plateaus r_ones r_others r_weights r_there u_4 u_5 u_6)) hP hD [0, 1, 2, 3, 4, 6, 7, 8] [5, 9, 10, 11, 12] rfl rfl (by decide) (by decide) hk1 hFc hP1 hD1
  generalize H1 = H at hP hS ⊢
  have hP : va_P D cls9 (wd_Mo_move cA a_r r_manner r_above r_below r_nodes r_arcs r_left r_isBest r_arePlateaus u_3 r_a r_b r_ties r_z r_plateaus r_ones r_others r_weights r_there r_hand u_4 u_5 u_6 r_sums r_sizes r_names r_trial) H := hP.sub [5, 6, 7, 8, 9, 0, 10, 11, 12, 1, 2, 3, 4] rfl
  have hD : va_D A (wd_Mo_move cA a_r r_manner r_above r_below r_nodes r_arcs r_left r_isBest r_arePlateaus u_3 r_a r_b r_ties r_z r_plateaus r_ones r_others r_weights r_there r_hand u_4 u_5 u_6 r_sums r_sizes r_names r_trial) := hD.sub [5, 6, 7, 8, 9, 0, 10, 11, 12, 1, 2, 3, 4] (by decide) rfl
  refine lv_aload_n hx hb d_Mo_move_4 rfl (lv_at hl 0 rfl) ?_
  refine lv_iload_n hx hb d_Mo_move_5 rfl (lv_at hl 1 rfl) ?_
  obtain ⟨o_12, hc_11, h⟩ := bd h
  have hPc := hP.sub (ws' := (wd_Mo_isNode cA a_r r_manner r_above r_below r_nodes r_arcs r_left r_isBest r_arePlateaus u_3 r_a r_b r_ties r_z r_plateaus)) [0] rfl
  have hDc := hD.sub (ws' := (wd_Mo_isNode cA a_r r_manner r_above r_below r_nodes r_arcs r_left r_isBest r_arePlateaus u_3 r_a r_b r_ties r_z r_plateaus)) [0] (by decide) rfl
  have hFc := va_free (wc := (wd_Mo_isNode cA a_r r_manner r_above r_below r_nodes r_arcs r_left r_isBest r_arePlateaus u_3 r_a r_b r_ties r_z r_plateaus)) hD hS hA [0] rfl
  refine va_calli (va_runV (C := R_Mo) (As := [.int v1]) (rest := []) ⟨hx, hb, hml, hown, hal⟩ (c_Mo_isNode l D cA a_r H.size r_manner r_above r_below r_nodes r_arcs r_left r_isBest r_arePlateaus u_3 r_a r_b r_ties r_z r_plateaus v1 o_12 hc_11) (cwV 1 hal (goodV kw_767 kw_769 kw_p26 kw_9 kw_770) rfl rfl rfl (by decide +kernel) ⟨Nat.le_of_ble_eq_true rfl, Nat.le_of_ble_eq_true rfl⟩) ⟨fun a U g mk q => by obtain ⟨q0, q1, qP, qK, qD⟩ := q; exact ⟨q0, q1, qP, va_K.moved (u := U) (U := U.calling g mk a) (Vm.Alike.refl U.vm) qK, qD⟩, va_recv hK hP (ci := 8) (q0 := 0) rfl rfl, fun U hU hW => ⟨rfl, by rw [hU], by rw [hU]; exact hPc, va_K.moved hW.alike hK, hDc.weaken (fun _ _ _ _ => trivial)⟩⟩ rfl rfl hl.1 rfl (lv_room (Nat.le_of_ble_eq_true rfl)) d_Mo_move_6 ⟨Nat.le_of_ble_eq_true rfl, Nat.le_of_ble_eq_true rfl⟩) hS (fun q _ h => hFc q h) hFc (fun r_10 u t H1 locs ht hvm hw hB hz1 hk1 hS => ?_)
  subst hw
  obtain ⟨hP1, hK1, hD1⟩ := hB
  rw [ht] at hP1
  have hP1 : va_P D cls9 (wd_Mo_isNode cA a_r r_manner r_above r_below r_nodes r_arcs r_left r_isBest r_arePlateaus u_3 r_a r_b r_ties r_z r_plateaus) H1 := hP1
  obtain ⟨hP, hD⟩ := va_join (wr := ([1, 2, 3, 4, 5, 6, 7, 8, 9, 10, 11, 12] : List Nat).filterMap (fun i => (wd_Mo_move cA a_r r_manner r_above r_below r_nodes r_arcs r_left r_isBest r_arePlateaus u_3 r_a r_b r_ties r_z r_plateaus r_ones r_others r_weights r_there r_hand u_4 u_5 u_6 r_sums r_sizes r_names r_trial)[i]?)) (w1 := (wd_Mo_isNode cA a_r r_manner r_above r_below r_nodes r_arcs r_left r_isBest r_arePlateaus u_3 r_a r_b r_ties r_z r_plateaus)) hP hD [0] [1, 2, 3, 4, 5, 6, 7, 8, 9, 10, 11, 12] rfl rfl (by decide) (by decide) hk1 hFc hP1 hD1
  generalize H1 = H at hP hS ⊢
  have hP : va_P D cls9 (wd_Mo_move cA a_r r_manner r_above r_below r_nodes r_arcs r_left r_isBest r_arePlateaus u_3 r_a r_b r_ties r_z r_plateaus r_ones r_others r_weights r_there r_hand u_4 u_5 u_6 r_sums r_sizes r_names r_trial) H := hP.sub [12, 0, 1, 2, 3, 4, 5, 6, 7, 8, 9, 10, 11] rfl
  have hD : va_D A (wd_Mo_move cA a_r r_manner r_above r_below r_nodes r_arcs r_left r_isBest r_arePlateaus u_3 r_a r_b r_ties r_z r_plateaus r_ones r_others r_weights r_there r_hand u_4 u_5 u_6 r_sums r_sizes r_names r_trial) := hD.sub [12, 0, 1, 2, 3, 4, 5, 6, 7, 8, 9, 10, 11] (by decide) rfl
  refine lv_if_eq (tgt := 29) hx hb d_Mo_move_9 (by decide) (fun c_13 => ?_) (fun c_13 => ?_)
  · have h := ifp (c_13) h
    refine lv_lconst (v := 0) hx hb d_Mo_move_29 (by decide) ?_
    exact W.lret (v := (0 : Int64)) hx hb hr (fun t ht hW => ⟨⟨(0 : Int64), (u_3, r_a, r_b, u_4, u_5, u_6, r_sums, r_sizes, r_names, r_trial), rfl, Option.some.inj h, by rw [ht]; exact hP, va_K.moved hW.alike hK, hD⟩, hS.F ht⟩) hS.2.2 d_Mo_move_30
  · have h := ifn (c_13) h
    refine lv_aload_n hx hb d_Mo_move_12 rfl (lv_at hl 0 rfl) ?_
    refine lv_iload_n hx hb d_Mo_move_13 rfl (lv_at hl 2 rfl) ?_
    obtain ⟨o_17, hc_16, h⟩ := bd h
    have hPc := hP.sub (ws' := (wd_Mo_isNode cA a_r r_manner r_above r_below r_nodes r_arcs r_left r_isBest r_arePlateaus u_3 r_a r_b r_ties r_z r_plateaus)) [0] rfl
    have hDc := hD.sub (ws' := (wd_Mo_isNode cA a_r r_manner r_above r_below r_nodes r_arcs r_left r_isBest r_arePlateaus u_3 r_a r_b r_ties r_z r_plateaus)) [0] (by decide) rfl
    have hFc := va_free (wc := (wd_Mo_isNode cA a_r r_manner r_above r_below r_nodes r_arcs r_left r_isBest r_arePlateaus u_3 r_a r_b r_ties r_z r_plateaus)) hD hS hA [0] rfl
    refine va_calli (va_runV (C := R_Mo) (As := [.int v2]) (rest := []) ⟨hx, hb, hml, hown, hal⟩ (c_Mo_isNode l D cA a_r H.size r_manner r_above r_below r_nodes r_arcs r_left r_isBest r_arePlateaus u_3 r_a r_b r_ties r_z r_plateaus v2 o_17 hc_16) (cwV 1 hal (goodV kw_767 kw_769 kw_p26 kw_9 kw_770) rfl rfl rfl (by decide +kernel) ⟨Nat.le_of_ble_eq_true rfl, Nat.le_of_ble_eq_true rfl⟩) ⟨fun a U g mk q => by obtain ⟨q0, q1, qP, qK, qD⟩ := q; exact ⟨q0, q1, qP, va_K.moved (u := U) (U := U.calling g mk a) (Vm.Alike.refl U.vm) qK, qD⟩, va_recv hK hP (ci := 8) (q0 := 0) rfl rfl, fun U hU hW => ⟨rfl, by rw [hU], by rw [hU]; exact hPc, va_K.moved hW.alike hK, hDc.weaken (fun _ _ _ _ => trivial)⟩⟩ rfl rfl hl.1 rfl (lv_room (Nat.le_of_ble_eq_true rfl)) d_Mo_move_14 ⟨Nat.le_of_ble_eq_true rfl, Nat.le_of_ble_eq_true rfl⟩) hS (fun q _ h => hFc q h) hFc (fun r_15 u t H1 locs ht hvm hw hB hz1 hk1 hS => ?_)
    subst hw
    obtain ⟨hP1, hK1, hD1⟩ := hB
    rw [ht] at hP1
    have hP1 : va_P D cls9 (wd_Mo_isNode cA a_r r_manner r_above r_below r_nodes r_arcs r_left r_isBest r_arePlateaus u_3 r_a r_b r_ties r_z r_plateaus) H1 := hP1
    obtain ⟨hP, hD⟩ := va_join (wr := ([1, 2, 3, 4, 5, 6, 7, 8, 9, 10, 11, 12] : List Nat).filterMap (fun i => (wd_Mo_move cA a_r r_manner r_above r_below r_nodes r_arcs r_left r_isBest r_arePlateaus u_3 r_a r_b r_ties r_z r_plateaus r_ones r_others r_weights r_there r_hand u_4 u_5 u_6 r_sums r_sizes r_names r_trial)[i]?)) (w1 := (wd_Mo_isNode cA a_r r_manner r_above r_below r_nodes r_arcs r_left r_isBest r_arePlateaus u_3 r_a r_b r_ties r_z r_plateaus)) hP hD [0] [1, 2, 3, 4, 5, 6, 7, 8, 9, 10, 11, 12] rfl rfl (by decide) (by decide) hk1 hFc hP1 hD1
    generalize H1 = H at hP hS ⊢
    have hP : va_P D cls9 (wd_Mo_move cA a_r r_manner r_above r_below r_nodes r_arcs r_left r_isBest r_arePlateaus u_3 r_a r_b r_ties r_z r_plateaus r_ones r_others r_weights r_there r_hand u_4 u_5 u_6 r_sums r_sizes r_names r_trial) H := hP.sub [12, 0, 1, 2, 3, 4, 5, 6, 7, 8, 9, 10, 11] rfl
    have hD : va_D A (wd_Mo_move cA a_r r_manner r_above r_below r_nodes r_arcs r_left r_isBest r_arePlateaus u_3 r_a r_b r_ties r_z r_plateaus r_ones r_others r_weights r_there r_hand u_4 u_5 u_6 r_sums r_sizes r_names r_trial) := hD.sub [12, 0, 1, 2, 3, 4, 5, 6, 7, 8, 9, 10, 11] (by decide) rfl
    refine lv_if_eq (tgt := 29) hx hb d_Mo_move_17 (by decide) (fun c_18 => ?_) (fun c_18 => ?_)
    · have h := ifp (c_18) h
      refine lv_lconst (v := 0) hx hb d_Mo_move_29 (by decide) ?_
      exact W.lret (v := (0 : Int64)) hx hb hr (fun t ht hW => ⟨⟨(0 : Int64), (u_3, r_a, r_b, u_4, u_5, u_6, r_sums, r_sizes, r_names, r_trial), rfl, Option.some.inj h, by rw [ht]; exact hP, va_K.moved hW.alike hK, hD⟩, hS.F ht⟩) hS.2.2 d_Mo_move_30
    · have h := ifn (c_18) h
      refine lv_aload_n hx hb d_Mo_move_20 rfl (lv_at hl 0 rfl) ?_
      refine lv_iload_n hx hb d_Mo_move_21 rfl (lv_at hl 1 rfl) ?_
      refine lv_iload_n hx hb d_Mo_move_22 rfl (lv_at hl 2 rfl) ?_
      obtain ⟨o_28, hc_27, h⟩ := bd h
      have hPc := hP.sub (ws' := (wd_Mo_moveGain cA a_r r_manner r_above r_below r_nodes r_arcs r_left r_isBest r_arePlateaus u_3 r_a r_b r_ties r_z r_plateaus r_hand u_4 u_6 r_sums r_sizes r_names r_trial)) [0, 5, 6, 8, 9, 10, 11, 12] rfl
      have hDc := hD.sub (ws' := (wd_Mo_moveGain cA a_r r_manner r_above r_below r_nodes r_arcs r_left r_isBest r_arePlateaus u_3 r_a r_b r_ties r_z r_plateaus r_hand u_4 u_6 r_sums r_sizes r_names r_trial)) [0, 5, 6, 8, 9, 10, 11, 12] (by decide) rfl
      have hFc := va_free (wc := (wd_Mo_moveGain cA a_r r_manner r_above r_below r_nodes r_arcs r_left r_isBest r_arePlateaus u_3 r_a r_b r_ties r_z r_plateaus r_hand u_4 u_6 r_sums r_sizes r_names r_trial)) hD hS hA [0, 5, 6, 8, 9, 10, 11, 12] rfl
      refine va_calll (va_runV (C := R_Mo) (As := [.int v1, .int v2]) (rest := []) ⟨hx, hb, hml, hown, hal⟩ (c_Mo_moveGain l D cA a_r H.size r_manner r_above r_below r_nodes r_arcs r_left r_isBest r_arePlateaus u_3 r_a r_b r_ties r_z r_plateaus r_hand u_4 u_6 r_sums r_sizes r_names r_trial v1 v2 o_28 hc_27) (cwV 2 hal (goodV kw_829 kw_831 kw_p34 kw_9 kw_832) rfl rfl rfl (by decide +kernel) ⟨Nat.le_of_ble_eq_true rfl, Nat.le_of_ble_eq_true rfl⟩) ⟨fun a U g mk q => by obtain ⟨q0, q1, qP, qK, qD⟩ := q; exact ⟨q0, q1, qP, va_K.moved (u := U) (U := U.calling g mk a) (Vm.Alike.refl U.vm) qK, qD⟩, va_recv hK hP (ci := 8) (q0 := 0) rfl rfl, fun U hU hW => ⟨rfl, by rw [hU], by rw [hU]; exact hPc, va_K.moved hW.alike hK, hDc.weaken (fun _ _ _ _ => trivial)⟩⟩ rfl rfl hl.1 rfl (lv_room (Nat.le_of_ble_eq_true rfl)) d_Mo_move_23 ⟨Nat.le_of_ble_eq_true rfl, Nat.le_of_ble_eq_true rfl⟩) hS (fun q _ h => hFc q h) hFc (fun r_20 u t H1 locs ht hvm hw hB hz1 hk1 hS => ?_)
      obtain ⟨u_21, u_22, u_23, u_24, u_25, u_26⟩ := u
      subst hw
      obtain ⟨hP1, hK1, hD1⟩ := hB
      rw [ht] at hP1
      have hP1 : va_P D cls9 (wd_Mo_moveGain cA a_r r_manner r_above r_below r_nodes r_arcs r_left r_isBest r_arePlateaus u_3 u_21 u_22 r_ties r_z r_plateaus r_hand u_4 u_6 u_23 u_24 u_25 u_26) H1 := hP1
      obtain ⟨hP, hD⟩ := va_join (wr := ([1, 2, 3, 4, 7] : List Nat).filterMap (fun i => (wd_Mo_move cA a_r r_manner r_above r_below r_nodes r_arcs r_left r_isBest r_arePlateaus u_3 r_a r_b r_ties r_z r_plateaus r_ones r_others r_weights r_there r_hand u_4 u_5 u_6 r_sums r_sizes r_names r_trial)[i]?)) (w1 := (wd_Mo_moveGain cA a_r r_manner r_above r_below r_nodes r_arcs r_left r_isBest r_arePlateaus u_3 u_21 u_22 r_ties r_z r_plateaus r_hand u_4 u_6 u_23 u_24 u_25 u_26)) hP hD [0, 5, 6, 8, 9, 10, 11, 12] [1, 2, 3, 4, 7] rfl rfl (by decide) (by decide) hk1 hFc hP1 hD1
      generalize H1 = H at hP hS ⊢
      have hP : va_P D cls9 (wd_Mo_move cA a_r r_manner r_above r_below r_nodes r_arcs r_left r_isBest r_arePlateaus u_3 u_21 u_22 r_ties r_z r_plateaus r_ones r_others r_weights r_there r_hand u_4 u_5 u_6 u_23 u_24 u_25 u_26) H := hP.sub [5, 0, 1, 2, 3, 6, 7, 4, 8, 9, 10, 11, 12] rfl
      have hD : va_D A (wd_Mo_move cA a_r r_manner r_above r_below r_nodes r_arcs r_left r_isBest r_arePlateaus u_3 u_21 u_22 r_ties r_z r_plateaus r_ones r_others r_weights r_there r_hand u_4 u_5 u_6 u_23 u_24 u_25 u_26) := hD.sub [5, 0, 1, 2, 3, 6, 7, 4, 8, 9, 10, 11, 12] (by decide) rfl
      refine lv_goto (tgt := 30) hx hb d_Mo_move_26 (by decide) ?_
      exact W.lret (v := r_20) hx hb hr (fun t ht hW => ⟨⟨r_20, (u_3, u_21, u_22, u_4, u_5, u_6, u_23, u_24, u_25, u_26), rfl, Option.some.inj h, by rw [ht]; exact hP, va_K.moved hW.alike hK, hD⟩, hS.F ht⟩) hS.2.2 d_Mo_move_30
def wd_Mo_merge (cA : Nat → ClassId) (a_r : Nat → Nat) (r_manner : Int32) (r_above : Int32) (r_below : Int32) (r_nodes : Int32) (r_arcs : Int32) (r_left : Int32) (r_isBest : Int32) (r_arePlateaus : Int32) (r_all : Int64) (r_a : Int64) (r_b : Int64) (r_ties : Int32) (r_z : Int32) (r_plateaus : Int32) (r_ones : Nat → Int32) (r_others : Nat → Int32) (r_weights : Nat → Int32) (r_there : Nat → Int32) (r_hand : Nat → Int32) (r_between : Nat → Int32) (r_joins : Nat → Int32) (r_has : Nat → Int32) (r_sums : Nat → Int64) (r_sizes : Nat → Int64) (r_names : Nat → Int32) (r_trial : Nat → Int32) : va_W := [(a_r 0, .inr (8, [.int r_manner, .int r_above, .int r_below, .int r_nodes, .int r_arcs, .int r_left, .ref (a_r 1), .ref (a_r 2), .ref (a_r 3), .ref (a_r 4), .ref (a_r 5), .int r_isBest, .int r_arePlateaus, .ref (a_r 6), .ref (a_r 7), .ref (a_r 8), .long r_all, .ref (a_r 9), .ref (a_r 10), .long r_a, .long r_b, .ref (a_r 11), .ref (a_r 12), .ref (a_r 13), .ref (a_r 14), .ref (a_r 15), .int r_ties, .ref (a_r 16), .ref (a_r 17), .ref (a_r 18), .int r_z, .int r_plateaus, .ref (a_r 19), .ref (a_r 20), .ref (a_r 21), .ref (a_r 22)])), (a_r 1, .inl (cA 0, 36, .inl r_ones)), (a_r 2, .inl (cA 0, 36, .inl r_others)), (a_r 3, .inl (cA 0, 36, .inl r_weights)), (a_r 4, .inl (cA 2, 36, .inl r_there)), (a_r 5, .inl (cA 0, 9, .inl r_hand)), (a_r 6, .inl (cA 0, 81, .inl r_between)), (a_r 7, .inl (cA 2, 81, .inl r_joins)), (a_r 8, .inl (cA 0, 9, .inl r_has)), (a_r 9, .inl (cA 1, 9, .inr (.inl r_sums))), (a_r 10, .inl (cA 1, 9, .inr (.inl r_sizes))), (a_r 11, .inl (cA 0, 9, .inl r_names)), (a_r 12, .inl (cA 0, 9, .inl r_trial))]
noncomputable def m_Mo_merge (r_manner : Int32) (r_above : Int32) (r_below : Int32) (r_nodes : Int32) (r_arcs : Int32) (r_a : Int64) (r_b : Int64) (r_ones : Nat → Int32) (r_others : Nat → Int32) (r_weights : Nat → Int32) (r_there : Nat → Int32) (r_hand : Nat → Int32) (r_between : Nat → Int32) (r_joins : Nat → Int32) (r_has : Nat → Int32) (r_sums : Nat → Int64) (r_sizes : Nat → Int64) (r_names : Nat → Int32) (r_trial : Nat → Int32) (v1 : Int32) (v2 : Int32) : Option (Int64 × Int64 × Int64 × Int64 × (Nat → Int32) × (Nat → Int32) × (Nat → Int32) × (Nat → Int64) × (Nat → Int64) × (Nat → Int32) × (Nat → Int32)) :=
  ((m_Mo_weigh r_manner r_arcs r_ones r_others r_weights r_there r_between r_joins r_has).bind (fun r1 : Int64 × (Nat → Int32) × (Nat → Int32) × (Nat → Int32) => ((m_Mo_isNode r_nodes v1).bind (fun r6 : Int32 => (if r6 = 0 then some ((0 : Int64), r1.1, r_a, r_b, r1.2.1, r1.2.2.1, r1.2.2.2, r_sums, r_sizes, r_names, r_trial) else ((m_Mo_isNode r_nodes v2).bind (fun r14 : Int32 => (if r14 = 0 then some ((0 : Int64), r1.1, r_a, r_b, r1.2.1, r1.2.2.1, r1.2.2.2, r_sums, r_sizes, r_names, r_trial) else ((m_Mo_mergeGain r_manner r_above r_below r_nodes r1.1 r_hand r1.2.1 r1.2.2.2 r_sums r_sizes r_names r_trial v1 v2).bind (fun r23 : Int64 × Int64 × Int64 × (Nat → Int64) × (Nat → Int64) × (Nat → Int32) × (Nat → Int32) => some (r23.1, r1.1, r23.2.1, r23.2.2.1, r1.2.1, r1.2.2.1, r1.2.2.2, r23.2.2.2.1, r23.2.2.2.2.1, r23.2.2.2.2.2.1, r23.2.2.2.2.2.2)))))))))))
set_option maxHeartbeats 4000000 in
set_option maxRecDepth 100000 in
theorem c_Mo_merge (l : Launch) (D : va_G) (cA : Nat → ClassId) (a_r : Nat → Nat) (sz : Nat) (r_manner : Int32) (r_above : Int32) (r_below : Int32) (r_nodes : Int32) (r_arcs : Int32) (r_left : Int32) (r_isBest : Int32) (r_arePlateaus : Int32) (r_all : Int64) (r_a : Int64) (r_b : Int64) (r_ties : Int32) (r_z : Int32) (r_plateaus : Int32) (r_ones : Nat → Int32) (r_others : Nat → Int32) (r_weights : Nat → Int32) (r_there : Nat → Int32) (r_hand : Nat → Int32) (r_between : Nat → Int32) (r_joins : Nat → Int32) (r_has : Nat → Int32) (r_sums : Nat → Int64) (r_sizes : Nat → Int64) (r_names : Nat → Int32) (r_trial : Nat → Int32) (v1 : Int32) (v2 : Int32) (out : Int64 × Int64 × Int64 × Int64 × (Nat → Int32) × (Nat → Int32) × (Nat → Int32) × (Nat → Int64) × (Nat → Int64) × (Nat → Int32) × (Nat → Int32)) (h : m_Mo_merge r_manner r_above r_below r_nodes r_arcs r_a r_b r_ones r_others r_weights r_there r_hand r_between r_joins r_has r_sums r_sizes r_names r_trial v1 v2 = some out) : Met l y_Mo_merge w_Mo_merge ({ frames := 3, cells := 0, slots := 0, locals := 71 }) (va_Pc [.ref (a_r 0), .int v1, .int v2] (fun U => U.heap.size = sz ∧ va_P D cls9 (wd_Mo_merge cA a_r r_manner r_above r_below r_nodes r_arcs r_left r_isBest r_arePlateaus r_all r_a r_b r_ties r_z r_plateaus r_ones r_others r_weights r_there r_hand r_between r_joins r_has r_sums r_sizes r_names r_trial) U.heap ∧ va_K D cls9 (tys5 cA) U ∧ va_D (fun _ => True) (wd_Mo_merge cA a_r r_manner r_above r_below r_nodes r_arcs r_left r_isBest r_arePlateaus r_all r_a r_b r_ties r_z r_plateaus r_ones r_others r_weights r_there r_hand r_between r_joins r_has r_sums r_sizes r_names r_trial))) (va_Ql (fun (rr : Int64) (uu : Int64 × Int64 × Int64 × (Nat → Int32) × (Nat → Int32) × (Nat → Int32) × (Nat → Int64) × (Nat → Int64) × (Nat → Int32) × (Nat → Int32)) => (rr, uu) = out) (fun (uu : Int64 × Int64 × Int64 × (Nat → Int32) × (Nat → Int32) × (Nat → Int32) × (Nat → Int64) × (Nat → Int64) × (Nat → Int32) × (Nat → Int32)) (t : State) => va_P D cls9 (wd_Mo_merge cA a_r r_manner r_above r_below r_nodes r_arcs r_left r_isBest r_arePlateaus uu.1 uu.2.1 uu.2.2.1 r_ties r_z r_plateaus r_ones r_others r_weights r_there r_hand uu.2.2.2.1 uu.2.2.2.2.1 uu.2.2.2.2.2.1 uu.2.2.2.2.2.2.1 uu.2.2.2.2.2.2.2.1 uu.2.2.2.2.2.2.2.2.1 uu.2.2.2.2.2.2.2.2.2) t.heap ∧ va_K D cls9 (tys5 cA) t ∧ va_D (va_A (wd_Mo_merge cA a_r r_manner r_above r_below r_nodes r_arcs r_left r_isBest r_arePlateaus r_all r_a r_b r_ties r_z r_plateaus r_ones r_others r_weights r_there r_hand r_between r_joins r_has r_sums r_sizes r_names r_trial) sz) (wd_Mo_merge cA a_r r_manner r_above r_below r_nodes r_arcs r_left r_isBest r_arePlateaus uu.1 uu.2.1 uu.2.2.1 r_ties r_z r_plateaus r_ones r_others r_weights r_there r_hand uu.2.2.2.1 uu.2.2.2.2.1 uu.2.2.2.2.2.1 uu.2.2.2.2.2.2.1 uu.2.2.2.2.2.2.2.1 uu.2.2.2.2.2.2.2.2.1 uu.2.2.2.2.2.2.2.2.2)) (va_A (wd_Mo_merge cA a_r r_manner r_above r_below r_nodes r_arcs r_left r_isBest r_arePlateaus r_all r_a r_b r_ties r_z r_plateaus r_ones r_others r_weights r_there r_hand r_between r_joins r_has r_sums r_sizes r_names r_trial) sz)) 0 0 (va_A (wd_Mo_merge cA a_r r_manner r_above r_below r_nodes r_arcs r_left r_isBest r_arePlateaus r_all r_a r_b r_ties r_z r_plateaus r_ones r_others r_weights r_there r_hand r_between r_joins r_has r_sums r_sizes r_names r_trial) sz) := by
  refine Met.ofW (cc := b_Mo_merge) (maxL := 3) (ret := (Option.some Jvm.ClassFile.FieldType.long)) (by decide) rfl ?_
  intro p e s m args below meth c s₁ B hml hv
  obtain ⟨rfl, hsz, hP, hK, hD0⟩ := hv
  have hx := B.exec
  have hb := B.bytes
  have hr := B.returns
  have hts := atoms_spec (ws := w_Mo_merge) B.pre
  have hal : ∀ w ∈ ALLW, w.before _ s = true := fun w hw => hts w (List.mem_cons_of_mem _ hw)
  have hown : s.vm.findClass R_Mo = some m.cls := findClass_of_methodNamed B.named
  have hlocks := B.notSynchronized
  subst hsz
  have hD := hD0.self (sz := s.heap.size)
  generalize hAe : va_A (wd_Mo_merge cA a_r r_manner r_above r_below r_nodes r_arcs r_left r_isBest r_arePlateaus r_all r_a r_b r_ties r_z r_plateaus r_ones r_others r_weights r_there r_hand r_between r_joins r_has r_sums r_sizes r_names r_trial) s.heap.size = A at hD ⊢
  have hA : ∀ q : Nat, s.heap.size ≤ q → A q := fun q h => by rw [← hAe]; exact Or.inr h
  have hS : va_S A s.heap s.heap [] := va_S.rf
  have hl := lv_entry ([.ref (a_r 0), .int v1, .int v2]) (n := 3) (Nat.le_of_ble_eq_true rfl)
  rw [lg_entry_eq]
  generalize (lg_sl ([.ref (a_r 0), .int v1, .int v2]) ++ List.replicate (3 - (lg_sl ([.ref (a_r 0), .int v1, .int v2])).length) Slot.unset).toArray = ls at hl ⊢
  have hl : lv_has ls 3 [(0, .ref (a_r 0)), (1, .int v1), (2, .int v2)] := hl
  refine wg (fun G hG => ?_)
  refine cast (hG _ _ _ _ _ _ _).symm ?_
  obtain ⟨H, locs, hHl, hS⟩ : ∃ (H : Heap) (locs : List Loc), (H = s.heap ∧ locs = []) ∧ va_S A s.heap H locs := ⟨s.heap, [], ⟨rfl, rfl⟩, hS⟩
  have hP : va_P D cls9 (wd_Mo_merge cA a_r r_manner r_above r_below r_nodes r_arcs r_left r_isBest r_arePlateaus r_all r_a r_b r_ties r_z r_plateaus r_ones r_others r_weights r_there r_hand r_between r_joins r_has r_sums r_sizes r_names r_trial) H := by rw [hHl.1]; exact hP
  rw [← hHl.1, ← hHl.2]
  clear hHl
  refine lv_aload_n hx hb d_Mo_merge_0 rfl (lv_at hl 0 rfl) ?_
  obtain ⟨o_8, hc_7, h⟩ := bd h
  have hPc := hP.sub (ws' := (wd_Mo_weigh cA a_r r_manner r_above r_below r_nodes r_arcs r_left r_isBest r_arePlateaus r_all r_a r_b r_ties r_z r_plateaus r_ones r_others r_weights r_there r_between r_joins r_has)) [0, 1, 2, 3, 4, 6, 7, 8] rfl
  have hDc := hD.sub (ws' := (wd_Mo_weigh cA a_r r_manner r_above r_below r_nodes r_arcs r_left r_isBest r_arePlateaus r_all r_a r_b r_ties r_z r_plateaus r_ones r_others r_weights r_there r_between r_joins r_has)) [0, 1, 2, 3, 4, 6, 7, 8] (by decide) rfl
  have hFc := va_free (wc := (wd_Mo_weigh cA a_r r_manner r_above r_below r_nodes r_arcs r_left r_isBest r_arePlateaus r_all r_a r_b r_ties r_z r_plateaus r_ones r_others r_weights r_there r_between r_joins r_has)) hD hS hA [0, 1, 2, 3, 4, 6, 7, 8] rfl
  refine va_callv (va_runV (C := R_Mo) (As := []) (rest := []) ⟨hx, hb, hml, hown, hal⟩ (c_Mo_weigh l D cA a_r H.size r_manner r_above r_below r_nodes r_arcs r_left r_isBest r_arePlateaus r_all r_a r_b r_ties r_z r_plateaus r_ones r_others r_weights r_there r_between r_joins r_has o_8 hc_7) (cwV 0 hal (goodV kw_803 kw_805 kw_p30 kw_9 kw_806) rfl rfl rfl (by decide +kernel) ⟨Nat.le_of_ble_eq_true rfl, Nat.le_of_ble_eq_true rfl⟩) ⟨fun a U g mk q => by obtain ⟨q0, q1, qP, qK, qD⟩ := q; exact ⟨q0, q1, qP, va_K.moved (u := U) (U := U.calling g mk a) (Vm.Alike.refl U.vm) qK, qD⟩, va_recv hK hP (ci := 8) (q0 := 0) rfl rfl, fun U hU hW => ⟨rfl, by rw [hU], by rw [hU]; exact hPc, va_K.moved hW.alike hK, hDc.weaken (fun _ _ _ _ => trivial)⟩⟩ rfl rfl hl.1 rfl (lv_room (Nat.le_of_ble_eq_true rfl)) d_Mo_merge_1 ⟨Nat.le_of_ble_eq_true rfl, Nat.le_of_ble_eq_true rfl⟩) hS (fun q _ h => hFc q h) hFc (fun u t H1 locs ht hvm hw hB hz1 hk1 hS => ?_)
  obtain ⟨u_3, u_4, u_5, u_6⟩ := u
  subst hw
  obtain ⟨hP1, hK1, hD1⟩ := hB
  rw [ht] at hP1
  have hP1 : va_P D cls9 (wd_Mo_weigh cA a_r r_manner r_above r_below r_nodes r_arcs r_left r_isBest r_arePlateaus u_3 r_a r_b r_ties r_z r_plateaus r_ones r_others r_weights r_there u_4 u_5 u_6) H1 := hP1
  obtain ⟨hP, hD⟩ := va_join (wr := ([5, 9, 10, 11, 12] : List Nat).filterMap (fun i => (wd_Mo_merge cA a_r r_manner r_above r_below r_nodes r_arcs r_left r_isBest r_arePlateaus r_all r_a r_b r_ties r_z r_plateaus r_ones r_others r_weights r_there r_hand r_between r_joins r_has r_sums r_sizes r_names r_trial)[i]?)) (w1 := (wd_Mo_weigh cA a_r r_manner r_above r_below r_nodes r_arcs r_left r_isBest r_arePlateaus u_3 r_a r_b r_ties r_z r_plateaus r_ones r_others r_weights r_there u_4 u_5 u_6)) hP hD [0, 1, 2, 3, 4, 6, 7, 8] [5, 9, 10, 11, 12] rfl rfl (by decide) (by decide) hk1 hFc hP1 hD1
  generalize H1 = H at hP hS ⊢
  have hP : va_P D cls9 (wd_Mo_merge cA a_r r_manner r_above r_below r_nodes r_arcs r_left r_isBest r_arePlateaus u_3 r_a r_b r_ties r_z r_plateaus r_ones r_others r_weights r_there r_hand u_4 u_5 u_6 r_sums r_sizes r_names r_trial) H := hP.sub [5, 6, 7, 8, 9, 0, 10, 11, 12, 1, 2, 3, 4] rfl
  have hD : va_D A (wd_Mo_merge cA a_r r_manner r_above r_below r_nodes r_arcs r_left r_isBest r_arePlateaus u_3 r_a r_b r_ties r_z r_plateaus r_ones r_others r_weights r_there r_hand u_4 u_5 u_6 r_sums r_sizes r_names r_trial) := hD.sub [5, 6, 7, 8, 9, 0, 10, 11, 12, 1, 2, 3, 4] (by decide) rfl
  refine lv_aload_n hx hb d_Mo_merge_4 rfl (lv_at hl 0 rfl) ?_
  refine lv_iload_n hx hb d_Mo_merge_5 rfl (lv_at hl 1 rfl) ?_
  obtain ⟨o_12, hc_11, h⟩ := bd h
  have hPc := hP.sub (ws' := (wd_Mo_isNode cA a_r r_manner r_above r_below r_nodes r_arcs r_left r_isBest r_arePlateaus u_3 r_a r_b r_ties r_z r_plateaus)) [0] rfl
  have hDc := hD.sub (ws' := (wd_Mo_isNode cA a_r r_manner r_above r_below r_nodes r_arcs r_left r_isBest r_arePlateaus u_3 r_a r_b r_ties r_z r_plateaus)) [0] (by decide) rfl
  have hFc := va_free (wc := (wd_Mo_isNode cA a_r r_manner r_above r_below r_nodes r_arcs r_left r_isBest r_arePlateaus u_3 r_a r_b r_ties r_z r_plateaus)) hD hS hA [0] rfl
  refine va_calli (va_runV (C := R_Mo) (As := [.int v1]) (rest := []) ⟨hx, hb, hml, hown, hal⟩ (c_Mo_isNode l D cA a_r H.size r_manner r_above r_below r_nodes r_arcs r_left r_isBest r_arePlateaus u_3 r_a r_b r_ties r_z r_plateaus v1 o_12 hc_11) (cwV 1 hal (goodV kw_767 kw_769 kw_p26 kw_9 kw_770) rfl rfl rfl (by decide +kernel) ⟨Nat.le_of_ble_eq_true rfl, Nat.le_of_ble_eq_true rfl⟩) ⟨fun a U g mk q => by obtain ⟨q0, q1, qP, qK, qD⟩ := q; exact ⟨q0, q1, qP, va_K.moved (u := U) (U := U.calling g mk a) (Vm.Alike.refl U.vm) qK, qD⟩, va_recv hK hP (ci := 8) (q0 := 0) rfl rfl, fun U hU hW => ⟨rfl, by rw [hU], by rw [hU]; exact hPc, va_K.moved hW.alike hK, hDc.weaken (fun _ _ _ _ => trivial)⟩⟩ rfl rfl hl.1 rfl (lv_room (Nat.le_of_ble_eq_true rfl)) d_Mo_merge_6 ⟨Nat.le_of_ble_eq_true rfl, Nat.le_of_ble_eq_true rfl⟩) hS (fun q _ h => hFc q h) hFc (fun r_10 u t H1 locs ht hvm hw hB hz1 hk1 hS => ?_)
  subst hw
  obtain ⟨hP1, hK1, hD1⟩ := hB
  rw [ht] at hP1
  have hP1 : va_P D cls9 (wd_Mo_isNode cA a_r r_manner r_above r_below r_nodes r_arcs r_left r_isBest r_arePlateaus u_3 r_a r_b r_ties r_z r_plateaus) H1 := hP1
  obtain ⟨hP, hD⟩ := va_join (wr := ([1, 2, 3, 4, 5, 6, 7, 8, 9, 10, 11, 12] : List Nat).filterMap (fun i => (wd_Mo_merge cA a_r r_manner r_above r_below r_nodes r_arcs r_left r_isBest r_arePlateaus u_3 r_a r_b r_ties r_z r_plateaus r_ones r_others r_weights r_there r_hand u_4 u_5 u_6 r_sums r_sizes r_names r_trial)[i]?)) (w1 := (wd_Mo_isNode cA a_r r_manner r_above r_below r_nodes r_arcs r_left r_isBest r_arePlateaus u_3 r_a r_b r_ties r_z r_plateaus)) hP hD [0] [1, 2, 3, 4, 5, 6, 7, 8, 9, 10, 11, 12] rfl rfl (by decide) (by decide) hk1 hFc hP1 hD1
  generalize H1 = H at hP hS ⊢
  have hP : va_P D cls9 (wd_Mo_merge cA a_r r_manner r_above r_below r_nodes r_arcs r_left r_isBest r_arePlateaus u_3 r_a r_b r_ties r_z r_plateaus r_ones r_others r_weights r_there r_hand u_4 u_5 u_6 r_sums r_sizes r_names r_trial) H := hP.sub [12, 0, 1, 2, 3, 4, 5, 6, 7, 8, 9, 10, 11] rfl
  have hD : va_D A (wd_Mo_merge cA a_r r_manner r_above r_below r_nodes r_arcs r_left r_isBest r_arePlateaus u_3 r_a r_b r_ties r_z r_plateaus r_ones r_others r_weights r_there r_hand u_4 u_5 u_6 r_sums r_sizes r_names r_trial) := hD.sub [12, 0, 1, 2, 3, 4, 5, 6, 7, 8, 9, 10, 11] (by decide) rfl
  refine lv_if_eq (tgt := 29) hx hb d_Mo_merge_9 (by decide) (fun c_13 => ?_) (fun c_13 => ?_)
  · have h := ifp (c_13) h
    refine lv_lconst (v := 0) hx hb d_Mo_merge_29 (by decide) ?_
    exact W.lret (v := (0 : Int64)) hx hb hr (fun t ht hW => ⟨⟨(0 : Int64), (u_3, r_a, r_b, u_4, u_5, u_6, r_sums, r_sizes, r_names, r_trial), rfl, Option.some.inj h, by rw [ht]; exact hP, va_K.moved hW.alike hK, hD⟩, hS.F ht⟩) hS.2.2 d_Mo_merge_30
  · have h := ifn (c_13) h
    refine lv_aload_n hx hb d_Mo_merge_12 rfl (lv_at hl 0 rfl) ?_
    refine lv_iload_n hx hb d_Mo_merge_13 rfl (lv_at hl 2 rfl) ?_
    obtain ⟨o_17, hc_16, h⟩ := bd h
    have hPc := hP.sub (ws' := (wd_Mo_isNode cA a_r r_manner r_above r_below r_nodes r_arcs r_left r_isBest r_arePlateaus u_3 r_a r_b r_ties r_z r_plateaus)) [0] rfl
    have hDc := hD.sub (ws' := (wd_Mo_isNode cA a_r r_manner r_above r_below r_nodes r_arcs r_left r_isBest r_arePlateaus u_3 r_a r_b r_ties r_z r_plateaus)) [0] (by decide) rfl
    have hFc := va_free (wc := (wd_Mo_isNode cA a_r r_manner r_above r_below r_nodes r_arcs r_left r_isBest r_arePlateaus u_3 r_a r_b r_ties r_z r_plateaus)) hD hS hA [0] rfl
    refine va_calli (va_runV (C := R_Mo) (As := [.int v2]) (rest := []) ⟨hx, hb, hml, hown, hal⟩ (c_Mo_isNode l D cA a_r H.size r_manner r_above r_below r_nodes r_arcs r_left r_isBest r_arePlateaus u_3 r_a r_b r_ties r_z r_plateaus v2 o_17 hc_16) (cwV 1 hal (goodV kw_767 kw_769 kw_p26 kw_9 kw_770) rfl rfl rfl (by decide +kernel) ⟨Nat.le_of_ble_eq_true rfl, Nat.le_of_ble_eq_true rfl⟩) ⟨fun a U g mk q => by obtain ⟨q0, q1, qP, qK, qD⟩ := q; exact ⟨q0, q1, qP, va_K.moved (u := U) (U := U.calling g mk a) (Vm.Alike.refl U.vm) qK, qD⟩, va_recv hK hP (ci := 8) (q0 := 0) rfl rfl, fun U hU hW => ⟨rfl, by rw [hU], by rw [hU]; exact hPc, va_K.moved hW.alike hK, hDc.weaken (fun _ _ _ _ => trivial)⟩⟩ rfl rfl hl.1 rfl (lv_room (Nat.le_of_ble_eq_true rfl)) d_Mo_merge_14 ⟨Nat.le_of_ble_eq_true rfl, Nat.le_of_ble_eq_true rfl⟩) hS (fun q _ h => hFc q h) hFc (fun r_15 u t H1 locs ht hvm hw hB hz1 hk1 hS => ?_)
    subst hw
    obtain ⟨hP1, hK1, hD1⟩ := hB
    rw [ht] at hP1
    have hP1 : va_P D cls9 (wd_Mo_isNode cA a_r r_manner r_above r_below r_nodes r_arcs r_left r_isBest r_arePlateaus u_3 r_a r_b r_ties r_z r_plateaus) H1 := hP1
    obtain ⟨hP, hD⟩ := va_join (wr := ([1, 2, 3, 4, 5, 6, 7, 8, 9, 10, 11, 12] : List Nat).filterMap (fun i => (wd_Mo_merge cA a_r r_manner r_above r_below r_nodes r_arcs r_left r_isBest r_arePlateaus u_3 r_a r_b r_ties r_z r_plateaus r_ones r_others r_weights r_there r_hand u_4 u_5 u_6 r_sums r_sizes r_names r_trial)[i]?)) (w1 := (wd_Mo_isNode cA a_r r_manner r_above r_below r_nodes r_arcs r_left r_isBest r_arePlateaus u_3 r_a r_b r_ties r_z r_plateaus)) hP hD [0] [1, 2, 3, 4, 5, 6, 7, 8, 9, 10, 11, 12] rfl rfl (by decide) (by decide) hk1 hFc hP1 hD1
    generalize H1 = H at hP hS ⊢
    have hP : va_P D cls9 (wd_Mo_merge cA a_r r_manner r_above r_below r_nodes r_arcs r_left r_isBest r_arePlateaus u_3 r_a r_b r_ties r_z r_plateaus r_ones r_others r_weights r_there r_hand u_4 u_5 u_6 r_sums r_sizes r_names r_trial) H := hP.sub [12, 0, 1, 2, 3, 4, 5, 6, 7, 8, 9, 10, 11] rfl
    have hD : va_D A (wd_Mo_merge cA a_r r_manner r_above r_below r_nodes r_arcs r_left r_isBest r_arePlateaus u_3 r_a r_b r_ties r_z r_plateaus r_ones r_others r_weights r_there r_hand u_4 u_5 u_6 r_sums r_sizes r_names r_trial) := hD.sub [12, 0, 1, 2, 3, 4, 5, 6, 7, 8, 9, 10, 11] (by decide) rfl
    refine lv_if_eq (tgt := 29) hx hb d_Mo_merge_17 (by decide) (fun c_18 => ?_) (fun c_18 => ?_)
    · have h := ifp (c_18) h
      refine lv_lconst (v := 0) hx hb d_Mo_merge_29 (by decide) ?_
      exact W.lret (v := (0 : Int64)) hx hb hr (fun t ht hW => ⟨⟨(0 : Int64), (u_3, r_a, r_b, u_4, u_5, u_6, r_sums, r_sizes, r_names, r_trial), rfl, Option.some.inj h, by rw [ht]; exact hP, va_K.moved hW.alike hK, hD⟩, hS.F ht⟩) hS.2.2 d_Mo_merge_30
    · have h := ifn (c_18) h
      refine lv_aload_n hx hb d_Mo_merge_20 rfl (lv_at hl 0 rfl) ?_
      refine lv_iload_n hx hb d_Mo_merge_21 rfl (lv_at hl 1 rfl) ?_
      refine lv_iload_n hx hb d_Mo_merge_22 rfl (lv_at hl 2 rfl) ?_
      obtain ⟨o_28, hc_27, h⟩ := bd h
      have hPc := hP.sub (ws' := (wd_Mo_mergeGain cA a_r r_manner r_above r_below r_nodes r_arcs r_left r_isBest r_arePlateaus u_3 r_a r_b r_ties r_z r_plateaus r_hand u_4 u_6 r_sums r_sizes r_names r_trial)) [0, 5, 6, 8, 9, 10, 11, 12] rfl
      have hDc := hD.sub (ws' := (wd_Mo_mergeGain cA a_r r_manner r_above r_below r_nodes r_arcs r_left r_isBest r_arePlateaus u_3 r_a r_b r_ties r_z r_plateaus r_hand u_4 u_6 r_sums r_sizes r_names r_trial)) [0, 5, 6, 8, 9, 10, 11, 12] (by decide) rfl
      have hFc := va_free (wc := (wd_Mo_mergeGain cA a_r r_manner r_above r_below r_nodes r_arcs r_left r_isBest r_arePlateaus u_3 r_a r_b r_ties r_z r_plateaus r_hand u_4 u_6 r_sums r_sizes r_names r_trial)) hD hS hA [0, 5, 6, 8, 9, 10, 11, 12] rfl
      refine va_calll (va_runV (C := R_Mo) (As := [.int v1, .int v2]) (rest := []) ⟨hx, hb, hml, hown, hal⟩ (c_Mo_mergeGain l D cA a_r H.size r_manner r_above r_below r_nodes r_arcs r_left r_isBest r_arePlateaus u_3 r_a r_b r_ties r_z r_plateaus r_hand u_4 u_6 r_sums r_sizes r_names r_trial v1 v2 o_28 hc_27) (cwV 2 hal (goodV kw_841 kw_843 kw_p36 kw_9 kw_844) rfl rfl rfl (by decide +kernel) ⟨Nat.le_of_ble_eq_true rfl, Nat.le_of_ble_eq_true rfl⟩) ⟨fun a U g mk q => by obtain ⟨q0, q1, qP, qK, qD⟩ := q; exact ⟨q0, q1, qP, va_K.moved (u := U) (U := U.calling g mk a) (Vm.Alike.refl U.vm) qK, qD⟩, va_recv hK hP (ci := 8) (q0 := 0) rfl rfl, fun U hU hW => ⟨rfl, by rw [hU], by rw [hU]; exact hPc, va_K.moved hW.alike hK, hDc.weaken (fun _ _ _ _ => trivial)⟩⟩ rfl rfl hl.1 rfl (lv_room (Nat.le_of_ble_eq_true rfl)) d_Mo_merge_23 ⟨Nat.le_of_ble_eq_true rfl, Nat.le_of_ble_eq_true rfl⟩) hS (fun q _ h => hFc q h) hFc (fun r_20 u t H1 locs ht hvm hw hB hz1 hk1 hS => ?_)
      obtain ⟨u_21, u_22, u_23, u_24, u_25, u_26⟩ := u
      subst hw
      obtain ⟨hP1, hK1, hD1⟩ := hB
      rw [ht] at hP1
      have hP1 : va_P D cls9 (wd_Mo_mergeGain cA a_r r_manner r_above r_below r_nodes r_arcs r_left r_isBest r_arePlateaus u_3 u_21 u_22 r_ties r_z r_plateaus r_hand u_4 u_6 u_23 u_24 u_25 u_26) H1 := hP1
      obtain ⟨hP, hD⟩ := va_join (wr := ([1, 2, 3, 4, 7] : List Nat).filterMap (fun i => (wd_Mo_merge cA a_r r_manner r_above r_below r_nodes r_arcs r_left r_isBest r_arePlateaus u_3 r_a r_b r_ties r_z r_plateaus r_ones r_others r_weights r_there r_hand u_4 u_5 u_6 r_sums r_sizes r_names r_trial)[i]?)) (w1 := (wd_Mo_mergeGain cA a_r r_manner r_above r_below r_nodes r_arcs r_left r_isBest r_arePlateaus u_3 u_21 u_22 r_ties r_z r_plateaus r_hand u_4 u_6 u_23 u_24 u_25 u_26)) hP hD [0, 5, 6, 8, 9, 10, 11, 12] [1, 2, 3, 4, 7] rfl rfl (by decide) (by decide) hk1 hFc hP1 hD1
      generalize H1 = H at hP hS ⊢
      have hP : va_P D cls9 (wd_Mo_merge cA a_r r_manner r_above r_below r_nodes r_arcs r_left r_isBest r_arePlateaus u_3 u_21 u_22 r_ties r_z r_plateaus r_ones r_others r_weights r_there r_hand u_4 u_5 u_6 u_23 u_24 u_25 u_26) H := hP.sub [5, 0, 1, 2, 3, 6, 7, 4, 8, 9, 10, 11, 12] rfl
      have hD : va_D A (wd_Mo_merge cA a_r r_manner r_above r_below r_nodes r_arcs r_left r_isBest r_arePlateaus u_3 u_21 u_22 r_ties r_z r_plateaus r_ones r_others r_weights r_there r_hand u_4 u_5 u_6 u_23 u_24 u_25 u_26) := hD.sub [5, 0, 1, 2, 3, 6, 7, 4, 8, 9, 10, 11, 12] (by decide) rfl
      refine lv_goto (tgt := 30) hx hb d_Mo_merge_26 (by decide) ?_
      exact W.lret (v := r_20) hx hb hr (fun t ht hW => ⟨⟨r_20, (u_3, u_21, u_22, u_4, u_5, u_6, u_23, u_24, u_25, u_26), rfl, Option.some.inj h, by rw [ht]; exact hP, va_K.moved hW.alike hK, hD⟩, hS.F ht⟩) hS.2.2 d_Mo_merge_30
def wd_Mo_rests (cA : Nat → ClassId) (a_r : Nat → Nat) (r_manner : Int32) (r_above : Int32) (r_below : Int32) (r_nodes : Int32) (r_arcs : Int32) (r_left : Int32) (r_isBest : Int32) (r_arePlateaus : Int32) (r_all : Int64) (r_a : Int64) (r_b : Int64) (r_ties : Int32) (r_z : Int32) (r_plateaus : Int32) (r_ones : Nat → Int32) (r_others : Nat → Int32) (r_weights : Nat → Int32) (r_there : Nat → Int32) (r_hand : Nat → Int32) (r_between : Nat → Int32) (r_joins : Nat → Int32) (r_has : Nat → Int32) (r_sums : Nat → Int64) (r_sizes : Nat → Int64) (r_names : Nat → Int32) (r_trial : Nat → Int32) : va_W := [(a_r 0, .inr (8, [.int r_manner, .int r_above, .int r_below, .int r_nodes, .int r_arcs, .int r_left, .ref (a_r 1), .ref (a_r 2), .ref (a_r 3), .ref (a_r 4), .ref (a_r 5), .int r_isBest, .int r_arePlateaus, .ref (a_r 6), .ref (a_r 7), .ref (a_r 8), .long r_all, .ref (a_r 9), .ref (a_r 10), .long r_a, .long r_b, .ref (a_r 11), .ref (a_r 12), .ref (a_r 13), .ref (a_r 14), .ref (a_r 15), .int r_ties, .ref (a_r 16), .ref (a_r 17), .ref (a_r 18), .int r_z, .int r_plateaus, .ref (a_r 19), .ref (a_r 20), .ref (a_r 21), .ref (a_r 22)])), (a_r 1, .inl (cA 0, 36, .inl r_ones)), (a_r 2, .inl (cA 0, 36, .inl r_others)), (a_r 3, .inl (cA 0, 36, .inl r_weights)), (a_r 4, .inl (cA 2, 36, .inl r_there)), (a_r 5, .inl (cA 0, 9, .inl r_hand)), (a_r 6, .inl (cA 0, 81, .inl r_between)), (a_r 7, .inl (cA 2, 81, .inl r_joins)), (a_r 8, .inl (cA 0, 9, .inl r_has)), (a_r 9, .inl (cA 1, 9, .inr (.inl r_sums))), (a_r 10, .inl (cA 1, 9, .inr (.inl r_sizes))), (a_r 11, .inl (cA 0, 9, .inl r_names)), (a_r 12, .inl (cA 0, 9, .inl r_trial))]
noncomputable def s_Mo_rests_16 (x1 : Int32) (r_above : Int32) (r_all : Int64) (r_below : Int32) (r_between : Nat → Int32) (r_hand : Nat → Int32) (r_has : Nat → Int32) (r_joins : Nat → Int32) (r_manner : Int32) (r_nodes : Int32) (zz : Int32 × Int64 × Int64 × (Nat → Int32) × (Nat → Int64) × (Nat → Int64) × (Nat → Int32)) (back exit : (Int32 × Int64 × Int64 × (Nat → Int32) × (Nat → Int64) × (Nat → Int64) × (Nat → Int32)) → Option (Int32 × Int64 × Int64 × Int64 × (Nat → Int32) × (Nat → Int32) × (Nat → Int32) × (Nat → Int64) × (Nat → Int64) × (Nat → Int32) × (Nat → Int32))) : Option (Int32 × Int64 × Int64 × Int64 × (Nat → Int32) × (Nat → Int32) × (Nat → Int32) × (Nat → Int64) × (Nat → Int64) × (Nat → Int32) × (Nat → Int32)) :=
  (if r_nodes ≤ zz.1 then (exit (zz.1, zz.2.1, zz.2.2.1, zz.2.2.2.1, zz.2.2.2.2.1, zz.2.2.2.2.2.1, zz.2.2.2.2.2.2)) else ((m_Mo_moveGain r_manner r_above r_below r_nodes r_all r_hand r_between r_has zz.2.2.2.2.2.1 zz.2.2.2.2.1 zz.2.2.2.1 zz.2.2.2.2.2.2 x1 zz.1).bind (fun r27 : Int64 × Int64 × Int64 × (Nat → Int64) × (Nat → Int64) × (Nat → Int32) × (Nat → Int32) => (if (0 : Int64) < r27.1 then some ((0 : Int32), r_all, r27.2.1, r27.2.2.1, r_between, r_joins, r_has, r27.2.2.2.1, r27.2.2.2.2.1, r27.2.2.2.2.2.1, r27.2.2.2.2.2.2) else ((m_Mo_mergeGain r_manner r_above r_below r_nodes r_all r_hand r_between r_has r27.2.2.2.1 r27.2.2.2.2.1 r27.2.2.2.2.2.1 r27.2.2.2.2.2.2 x1 zz.1).bind (fun r38 : Int64 × Int64 × Int64 × (Nat → Int64) × (Nat → Int64) × (Nat → Int32) × (Nat → Int32) => (if r38.1 ≤ (0 : Int64) then (back ((zz.1 + 1), r38.2.1, r38.2.2.1, r38.2.2.2.2.2.1, r38.2.2.2.2.1, r38.2.2.2.1, r38.2.2.2.2.2.2)) else some ((0 : Int32), r_all, r38.2.1, r38.2.2.1, r_between, r_joins, r_has, r38.2.2.2.1, r38.2.2.2.2.1, r38.2.2.2.2.2.1, r38.2.2.2.2.2.2))))))))
noncomputable def s_Mo_rests_6 (r_above : Int32) (r_all : Int64) (r_below : Int32) (r_between : Nat → Int32) (r_hand : Nat → Int32) (r_has : Nat → Int32) (r_joins : Nat → Int32) (r_manner : Int32) (r_nodes : Int32) (zz : Int32 × Int64 × Int64 × (Nat → Int32) × (Nat → Int64) × (Nat → Int64) × (Nat → Int32)) (back exit : (Int32 × Int64 × Int64 × (Nat → Int32) × (Nat → Int64) × (Nat → Int64) × (Nat → Int32)) → Option (Int32 × Int64 × Int64 × Int64 × (Nat → Int32) × (Nat → Int32) × (Nat → Int32) × (Nat → Int64) × (Nat → Int64) × (Nat → Int32) × (Nat → Int32))) : Option (Int32 × Int64 × Int64 × Int64 × (Nat → Int32) × (Nat → Int32) × (Nat → Int32) × (Nat → Int64) × (Nat → Int64) × (Nat → Int32) × (Nat → Int32)) :=
  (if r_nodes ≤ zz.1 then (exit (zz.1, zz.2.1, zz.2.2.1, zz.2.2.2.1, zz.2.2.2.2.1, zz.2.2.2.2.2.1, zz.2.2.2.2.2.2)) else (loopC (s_Mo_rests_16 zz.1 r_above r_all r_below r_between r_hand r_has r_joins r_manner r_nodes) (fun z16 : Int32 × Int64 × Int64 × (Nat → Int32) × (Nat → Int64) × (Nat → Int64) × (Nat → Int32) => (back ((zz.1 + 1), z16.2.1, z16.2.2.1, z16.2.2.2.1, z16.2.2.2.2.1, z16.2.2.2.2.2.1, z16.2.2.2.2.2.2))) FU ((0 : Int32), zz.2.1, zz.2.2.1, zz.2.2.2.1, zz.2.2.2.2.1, zz.2.2.2.2.2.1, zz.2.2.2.2.2.2)))
noncomputable def m_Mo_rests (r_manner : Int32) (r_above : Int32) (r_below : Int32) (r_nodes : Int32) (r_arcs : Int32) (r_a : Int64) (r_b : Int64) (r_ones : Nat → Int32) (r_others : Nat → Int32) (r_weights : Nat → Int32) (r_there : Nat → Int32) (r_hand : Nat → Int32) (r_between : Nat → Int32) (r_joins : Nat → Int32) (r_has : Nat → Int32) (r_sums : Nat → Int64) (r_sizes : Nat → Int64) (r_names : Nat → Int32) (r_trial : Nat → Int32) : Option (Int32 × Int64 × Int64 × Int64 × (Nat → Int32) × (Nat → Int32) × (Nat → Int32) × (Nat → Int64) × (Nat → Int64) × (Nat → Int32) × (Nat → Int32)) :=
  ((m_Mo_weigh r_manner r_arcs r_ones r_others r_weights r_there r_between r_joins r_has).bind (fun r1 : Int64 × (Nat → Int32) × (Nat → Int32) × (Nat → Int32) => (loopC (s_Mo_rests_6 r_above r1.1 r_below r1.2.1 r_hand r1.2.2.2 r1.2.2.1 r_manner r_nodes) (fun z6 : Int32 × Int64 × Int64 × (Nat → Int32) × (Nat → Int64) × (Nat → Int64) × (Nat → Int32) => some ((1 : Int32), r1.1, z6.2.1, z6.2.2.1, r1.2.1, r1.2.2.1, r1.2.2.2, z6.2.2.2.2.2.1, z6.2.2.2.2.1, z6.2.2.2.1, z6.2.2.2.2.2.2)) FU ((0 : Int32), r_a, r_b, r_names, r_sizes, r_sums, r_trial))))
set_option maxHeartbeats 4000000 in
set_option maxRecDepth 100000 in
theorem c_Mo_rests (l : Launch) (D : va_G) (cA : Nat → ClassId) (a_r : Nat → Nat) (sz : Nat) (r_manner : Int32) (r_above : Int32) (r_below : Int32) (r_nodes : Int32) (r_arcs : Int32) (r_left : Int32) (r_isBest : Int32) (r_arePlateaus : Int32) (r_all : Int64) (r_a : Int64) (r_b : Int64) (r_ties : Int32) (r_z : Int32) (r_plateaus : Int32) (r_ones : Nat → Int32) (r_others : Nat → Int32) (r_weights : Nat → Int32) (r_there : Nat → Int32) (r_hand : Nat → Int32) (r_between : Nat → Int32) (r_joins : Nat → Int32) (r_has : Nat → Int32) (r_sums : Nat → Int64) (r_sizes : Nat → Int64) (r_names : Nat → Int32) (r_trial : Nat → Int32)  (out : Int32 × Int64 × Int64 × Int64 × (Nat → Int32) × (Nat → Int32) × (Nat → Int32) × (Nat → Int64) × (Nat → Int64) × (Nat → Int32) × (Nat → Int32)) (h : m_Mo_rests r_manner r_above r_below r_nodes r_arcs r_a r_b r_ones r_others r_weights r_there r_hand r_between r_joins r_has r_sums r_sizes r_names r_trial = some out) : Met l y_Mo_rests w_Mo_rests ({ frames := 3, cells := 0, slots := 0, locals := 71 }) (va_Pc [.ref (a_r 0)] (fun U => U.heap.size = sz ∧ va_P D cls9 (wd_Mo_rests cA a_r r_manner r_above r_below r_nodes r_arcs r_left r_isBest r_arePlateaus r_all r_a r_b r_ties r_z r_plateaus r_ones r_others r_weights r_there r_hand r_between r_joins r_has r_sums r_sizes r_names r_trial) U.heap ∧ va_K D cls9 (tys5 cA) U ∧ va_D (fun _ => True) (wd_Mo_rests cA a_r r_manner r_above r_below r_nodes r_arcs r_left r_isBest r_arePlateaus r_all r_a r_b r_ties r_z r_plateaus r_ones r_others r_weights r_there r_hand r_between r_joins r_has r_sums r_sizes r_names r_trial))) (va_Qi (fun (rr : Int32) (uu : Int64 × Int64 × Int64 × (Nat → Int32) × (Nat → Int32) × (Nat → Int32) × (Nat → Int64) × (Nat → Int64) × (Nat → Int32) × (Nat → Int32)) => (rr, uu) = out) (fun (uu : Int64 × Int64 × Int64 × (Nat → Int32) × (Nat → Int32) × (Nat → Int32) × (Nat → Int64) × (Nat → Int64) × (Nat → Int32) × (Nat → Int32)) (t : State) => va_P D cls9 (wd_Mo_rests cA a_r r_manner r_above r_below r_nodes r_arcs r_left r_isBest r_arePlateaus uu.1 uu.2.1 uu.2.2.1 r_ties r_z r_plateaus r_ones r_others r_weights r_there r_hand uu.2.2.2.1 uu.2.2.2.2.1 uu.2.2.2.2.2.1 uu.2.2.2.2.2.2.1 uu.2.2.2.2.2.2.2.1 uu.2.2.2.2.2.2.2.2.1 uu.2.2.2.2.2.2.2.2.2) t.heap ∧ va_K D cls9 (tys5 cA) t ∧ va_D (va_A (wd_Mo_rests cA a_r r_manner r_above r_below r_nodes r_arcs r_left r_isBest r_arePlateaus r_all r_a r_b r_ties r_z r_plateaus r_ones r_others r_weights r_there r_hand r_between r_joins r_has r_sums r_sizes r_names r_trial) sz) (wd_Mo_rests cA a_r r_manner r_above r_below r_nodes r_arcs r_left r_isBest r_arePlateaus uu.1 uu.2.1 uu.2.2.1 r_ties r_z r_plateaus r_ones r_others r_weights r_there r_hand uu.2.2.2.1 uu.2.2.2.2.1 uu.2.2.2.2.2.1 uu.2.2.2.2.2.2.1 uu.2.2.2.2.2.2.2.1 uu.2.2.2.2.2.2.2.2.1 uu.2.2.2.2.2.2.2.2.2)) (va_A (wd_Mo_rests cA a_r r_manner r_above r_below r_nodes r_arcs r_left r_isBest r_arePlateaus r_all r_a r_b r_ties r_z r_plateaus r_ones r_others r_weights r_there r_hand r_between r_joins r_has r_sums r_sizes r_names r_trial) sz)) 0 0 (va_A (wd_Mo_rests cA a_r r_manner r_above r_below r_nodes r_arcs r_left r_isBest r_arePlateaus r_all r_a r_b r_ties r_z r_plateaus r_ones r_others r_weights r_there r_hand r_between r_joins r_has r_sums r_sizes r_names r_trial) sz) := by
  refine Met.ofW (cc := b_Mo_rests) (maxL := 3) (ret := (Option.some Jvm.ClassFile.FieldType.int)) (by decide) rfl ?_
  intro p e s m args below meth c s₁ B hml hv
  obtain ⟨rfl, hsz, hP, hK, hD0⟩ := hv
  have hx := B.exec
  have hb := B.bytes
  have hr := B.returns
  have hts := atoms_spec (ws := w_Mo_rests) B.pre
  have hal : ∀ w ∈ ALLW, w.before _ s = true := fun w hw => hts w (List.mem_cons_of_mem _ hw)
  have hown : s.vm.findClass R_Mo = some m.cls := findClass_of_methodNamed B.named
  have hlocks := B.notSynchronized
  subst hsz
  have hD := hD0.self (sz := s.heap.size)
  generalize hAe : va_A (wd_Mo_rests cA a_r r_manner r_above r_below r_nodes r_arcs r_left r_isBest r_arePlateaus r_all r_a r_b r_ties r_z r_plateaus r_ones r_others r_weights r_there r_hand r_between r_joins r_has r_sums r_sizes r_names r_trial) s.heap.size = A at hD ⊢
  have hA : ∀ q : Nat, s.heap.size ≤ q → A q := fun q h => by rw [← hAe]; exact Or.inr h
  have hS : va_S A s.heap s.heap [] := va_S.rf
  have hl := lv_entry ([.ref (a_r 0)]) (n := 3) (Nat.le_of_ble_eq_true rfl)
  rw [lg_entry_eq]
  generalize (lg_sl ([.ref (a_r 0)]) ++ List.replicate (3 - (lg_sl ([.ref (a_r 0)])).length) Slot.unset).toArray = ls at hl ⊢
  have hl : lv_has ls 3 [(0, .ref (a_r 0))] := hl
  refine wg (fun G hG => ?_)
  refine cast (hG _ _ _ _ _ _ _).symm ?_
  obtain ⟨H, locs, hHl, hS⟩ : ∃ (H : Heap) (locs : List Loc), (H = s.heap ∧ locs = []) ∧ va_S A s.heap H locs := ⟨s.heap, [], ⟨rfl, rfl⟩, hS⟩
  have hP : va_P D cls9 (wd_Mo_rests cA a_r r_manner r_above r_below r_nodes r_arcs r_left r_isBest r_arePlateaus r_all r_a r_b r_ties r_z r_plateaus r_ones r_others r_weights r_there r_hand r_between r_joins r_has r_sums r_sizes r_names r_trial) H := by rw [hHl.1]; exact hP
  rw [← hHl.1, ← hHl.2]
  clear hHl
  refine lv_aload_n hx hb d_Mo_rests_0 rfl (lv_at hl 0 rfl) ?_
  obtain ⟨o_8, hc_7, h⟩ := bd h
  have hPc := hP.sub (ws' := (wd_Mo_weigh cA a_r r_manner r_above r_below r_nodes r_arcs r_left r_isBest r_arePlateaus r_all r_a r_b r_ties r_z r_plateaus r_ones r_others r_weights r_there r_between r_joins r_has)) [0, 1, 2, 3, 4, 6, 7, 8] rfl
  have hDc := hD.sub (ws' := (wd_Mo_weigh cA a_r r_manner r_above r_below r_nodes r_arcs r_left r_isBest r_arePlateaus r_all r_a r_b r_ties r_z r_plateaus r_ones r_others r_weights r_there r_between r_joins r_has)) [0, 1, 2, 3, 4, 6, 7, 8] (by decide) rfl
  have hFc := va_free (wc := (wd_Mo_weigh cA a_r r_manner r_above r_below r_nodes r_arcs r_left r_isBest r_arePlateaus r_all r_a r_b r_ties r_z r_plateaus r_ones r_others r_weights r_there r_between r_joins r_has)) hD hS hA [0, 1, 2, 3, 4, 6, 7, 8] rfl
  refine va_callv (va_runV (C := R_Mo) (As := []) (rest := []) ⟨hx, hb, hml, hown, hal⟩ (c_Mo_weigh l D cA a_r H.size r_manner r_above r_below r_nodes r_arcs r_left r_isBest r_arePlateaus r_all r_a r_b r_ties r_z r_plateaus r_ones r_others r_weights r_there r_between r_joins r_has o_8 hc_7) (cwV 0 hal (goodV kw_803 kw_805 kw_p30 kw_9 kw_806) rfl rfl rfl (by decide +kernel) ⟨Nat.le_of_ble_eq_true rfl, Nat.le_of_ble_eq_true rfl⟩) ⟨fun a U g mk q => by obtain ⟨q0, q1, qP, qK, qD⟩ := q; exact ⟨q0, q1, qP, va_K.moved (u := U) (U := U.calling g mk a) (Vm.Alike.refl U.vm) qK, qD⟩, va_recv hK hP (ci := 8) (q0 := 0) rfl rfl, fun U hU hW => ⟨rfl, by rw [hU], by rw [hU]; exact hPc, va_K.moved hW.alike hK, hDc.weaken (fun _ _ _ _ => trivial)⟩⟩ rfl rfl hl.1 rfl (lv_room (Nat.le_of_ble_eq_true rfl)) d_Mo_rests_1 ⟨Nat.le_of_ble_eq_true rfl, Nat.le_of_ble_eq_true rfl⟩) hS (fun q _ h => hFc q h) hFc (fun u t H1 locs ht hvm hw hB hz1 hk1 hS => ?_)
  obtain ⟨u_3, u_4, u_5, u_6⟩ := u
  subst hw
  obtain ⟨hP1, hK1, hD1⟩ := hB
  rw [ht] at hP1
  have hP1 : va_P D cls9 (wd_Mo_weigh cA a_r r_manner r_above r_below r_nodes r_arcs r_left r_isBest r_arePlateaus u_3 r_a r_b r_ties r_z r_plateaus r_ones r_others r_weights r_there u_4 u_5 u_6) H1 := hP1
  obtain ⟨hP, hD⟩ := va_join (wr := ([5, 9, 10, 11, 12] : List Nat).filterMap (fun i => (wd_Mo_rests cA a_r r_manner r_above r_below r_nodes r_arcs r_left r_isBest r_arePlateaus r_all r_a r_b r_ties r_z r_plateaus r_ones r_others r_weights r_there r_hand r_between r_joins r_has r_sums r_sizes r_names r_trial)[i]?)) (w1 := (wd_Mo_weigh cA a_r r_manner r_above r_below r_nodes r_arcs r_left r_isBest r_arePlateaus u_3 r_a r_b r_ties r_z r_plateaus r_ones r_others r_weights r_there u_4 u_5 u_6)) hP hD [0, 1, 2, 3, 4, 6, 7, 8] [5, 9, 10, 11, 12] rfl rfl (by decide) (by decide) hk1 hFc hP1 hD1
  generalize H1 = H at hP hS ⊢
  have hP : va_P D cls9 (wd_Mo_rests cA a_r r_manner r_above r_below r_nodes r_arcs r_left r_isBest r_arePlateaus u_3 r_a r_b r_ties r_z r_plateaus r_ones r_others r_weights r_there r_hand u_4 u_5 u_6 r_sums r_sizes r_names r_trial) H := hP.sub [5, 6, 7, 8, 9, 0, 10, 11, 12, 1, 2, 3, 4] rfl
  have hD : va_D A (wd_Mo_rests cA a_r r_manner r_above r_below r_nodes r_arcs r_left r_isBest r_arePlateaus u_3 r_a r_b r_ties r_z r_plateaus r_ones r_others r_weights r_there r_hand u_4 u_5 u_6 r_sums r_sizes r_names r_trial) := hD.sub [5, 6, 7, 8, 9, 0, 10, 11, 12, 1, 2, 3, 4] (by decide) rfl
  refine lv_iconst (v := 0) hx hb d_Mo_rests_4 (by decide) ?_
  refine lv_istore_n (lv' := [(1, .int (0 : Int32)), (0, .ref (a_r 0))]) hx hb d_Mo_rests_5 rfl hl (by decide) rfl (fun ls hl => ?_)
  refine cast (hG _ _ _ _ _ _ _) (lp_go2 h (fun zz : Int32 × Int64 × Int64 × (Nat → Int32) × (Nat → Int64) × (Nat → Int64) × (Nat → Int32) => ∀ (H : Heap) (locs : List Loc) (ls : Array Slot), va_P D cls9 (wd_Mo_rests cA a_r r_manner r_above r_below r_nodes r_arcs r_left r_isBest r_arePlateaus u_3 zz.2.1 zz.2.2.1 r_ties r_z r_plateaus r_ones r_others r_weights r_there r_hand u_4 u_5 u_6 zz.2.2.2.2.2.1 zz.2.2.2.2.1 zz.2.2.2.1 zz.2.2.2.2.2.2) H → va_D A (wd_Mo_rests cA a_r r_manner r_above r_below r_nodes r_arcs r_left r_isBest r_arePlateaus u_3 zz.2.1 zz.2.2.1 r_ties r_z r_plateaus r_ones r_others r_weights r_there r_hand u_4 u_5 u_6 zz.2.2.2.2.2.1 zz.2.2.2.2.1 zz.2.2.2.1 zz.2.2.2.2.2.2) → va_S A s.heap H locs → lv_has ls 3 [(1, .int zz.1), (0, .ref (a_r 0))] → G H locs 0 0 ls 60 []) ?_ (fun zz : Int32 × Int64 × Int64 × (Nat → Int32) × (Nat → Int64) × (Nat → Int64) × (Nat → Int32) => ∀ (H : Heap) (locs : List Loc) (ls : Array Slot), va_P D cls9 (wd_Mo_rests cA a_r r_manner r_above r_below r_nodes r_arcs r_left r_isBest r_arePlateaus u_3 zz.2.1 zz.2.2.1 r_ties r_z r_plateaus r_ones r_others r_weights r_there r_hand u_4 u_5 u_6 zz.2.2.2.2.2.1 zz.2.2.2.2.1 zz.2.2.2.1 zz.2.2.2.2.2.2) H → va_D A (wd_Mo_rests cA a_r r_manner r_above r_below r_nodes r_arcs r_left r_isBest r_arePlateaus u_3 zz.2.1 zz.2.2.1 r_ties r_z r_plateaus r_ones r_others r_weights r_there r_hand u_4 u_5 u_6 zz.2.2.2.2.2.1 zz.2.2.2.2.1 zz.2.2.2.1 zz.2.2.2.2.2.2) → va_S A s.heap H locs → lv_has ls 3 [(1, .int zz.1), (0, .ref (a_r 0))] → G H locs 0 0 ls 6 []) ?_ _ _ ls hP hD hS (lv_sub hl [0, 1] rfl))
  · intro zz h H locs ls hP hD hS hl
    obtain ⟨x1_6e, r_a_6e, r_b_6e, r_names_6e, r_sizes_6e, r_sums_6e, r_trial_6e⟩ := zz
    have hP : va_P D cls9 (wd_Mo_rests cA a_r r_manner r_above r_below r_nodes r_arcs r_left r_isBest r_arePlateaus u_3 r_a_6e r_b_6e r_ties r_z r_plateaus r_ones r_others r_weights r_there r_hand u_4 u_5 u_6 r_sums_6e r_sizes_6e r_names_6e r_trial_6e) H := hP
    have hD : va_D A (wd_Mo_rests cA a_r r_manner r_above r_below r_nodes r_arcs r_left r_isBest r_arePlateaus u_3 r_a_6e r_b_6e r_ties r_z r_plateaus r_ones r_others r_weights r_there r_hand u_4 u_5 u_6 r_sums_6e r_sizes_6e r_names_6e r_trial_6e) := hD
    have hl : lv_has ls 3 [(1, .int x1_6e), (0, .ref (a_r 0))] := hl
    refine cast (hG _ _ _ _ _ _ _).symm ?_
    refine lv_iconst (v := 1) hx hb d_Mo_rests_60 (by decide) ?_
    exact W.iret (v := (1 : Int32)) hx hb hr (fun t ht hW => ⟨⟨(1 : Int32), (u_3, r_a_6e, r_b_6e, u_4, u_5, u_6, r_sums_6e, r_sizes_6e, r_names_6e, r_trial_6e), rfl, Option.some.inj h, by rw [ht]; exact hP, va_K.moved hW.alike hK, hD⟩, hS.F ht⟩) hS.2.2 d_Mo_rests_61
  · intro back exit zz hB_6 hE_6 h H locs ls hP hD hS hl
    obtain ⟨x1_6, r_a_6, r_b_6, r_names_6, r_sizes_6, r_sums_6, r_trial_6⟩ := zz
    have hP : va_P D cls9 (wd_Mo_rests cA a_r r_manner r_above r_below r_nodes r_arcs r_left r_isBest r_arePlateaus u_3 r_a_6 r_b_6 r_ties r_z r_plateaus r_ones r_others r_weights r_there r_hand u_4 u_5 u_6 r_sums_6 r_sizes_6 r_names_6 r_trial_6) H := hP
    have hD : va_D A (wd_Mo_rests cA a_r r_manner r_above r_below r_nodes r_arcs r_left r_isBest r_arePlateaus u_3 r_a_6 r_b_6 r_ties r_z r_plateaus r_ones r_others r_weights r_there r_hand u_4 u_5 u_6 r_sums_6 r_sizes_6 r_names_6 r_trial_6) := hD
    have hl : lv_has ls 3 [(1, .int x1_6), (0, .ref (a_r 0))] := hl
    refine cast (hG _ _ _ _ _ _ _).symm ?_
    refine lv_iload_n hx hb d_Mo_rests_6 rfl (lv_at hl 0 rfl) ?_
    refine lv_aload_n hx hb d_Mo_rests_7 rfl (lv_at hl 1 rfl) ?_
    refine va_get (ci := 8) (v := .int r_nodes) (C := R_Mo) (T := F_Mo) (N := 36) hx hb hal in_Mo hown hK hP 0 rfl rfl 3 (by decide) (hal _ kw_640) (fun _ h9 => h9) rfl d_Mo_rests_8 ?_
    refine lv_icmp_ge (tgt := 60) hx hb d_Mo_rests_11 (by decide) (fun c_9 => ?_) (fun c_9 => ?_)
    · have h := ifp (c_9) h
      exact cast (hG _ _ _ _ _ _ _) (hE_6 (x1_6, r_a_6, r_b_6, r_names_6, r_sizes_6, r_sums_6, r_trial_6) h _ _ _ hP hD hS (lv_sub hl [0, 1] rfl))
    · have h := ifn (c_9) h
      refine lv_iconst (v := 0) hx hb d_Mo_rests_14 (by decide) ?_
      refine lv_istore_n (lv' := [(2, .int (0 : Int32)), (1, .int x1_6), (0, .ref (a_r 0))]) hx hb d_Mo_rests_15 rfl hl (by decide) rfl (fun ls hl => ?_)
      refine cast (hG _ _ _ _ _ _ _) (lp_go2 h (fun zz : Int32 × Int64 × Int64 × (Nat → Int32) × (Nat → Int64) × (Nat → Int64) × (Nat → Int32) => ∀ (H : Heap) (locs : List Loc) (ls : Array Slot), va_P D cls9 (wd_Mo_rests cA a_r r_manner r_above r_below r_nodes r_arcs r_left r_isBest r_arePlateaus u_3 zz.2.1 zz.2.2.1 r_ties r_z r_plateaus r_ones r_others r_weights r_there r_hand u_4 u_5 u_6 zz.2.2.2.2.2.1 zz.2.2.2.2.1 zz.2.2.2.1 zz.2.2.2.2.2.2) H → va_D A (wd_Mo_rests cA a_r r_manner r_above r_below r_nodes r_arcs r_left r_isBest r_arePlateaus u_3 zz.2.1 zz.2.2.1 r_ties r_z r_plateaus r_ones r_others r_weights r_there r_hand u_4 u_5 u_6 zz.2.2.2.2.2.1 zz.2.2.2.2.1 zz.2.2.2.1 zz.2.2.2.2.2.2) → va_S A s.heap H locs → lv_has ls 3 [(2, .int zz.1), (1, .int x1_6), (0, .ref (a_r 0))] → G H locs 0 0 ls 54 []) ?_ (fun zz : Int32 × Int64 × Int64 × (Nat → Int32) × (Nat → Int64) × (Nat → Int64) × (Nat → Int32) => ∀ (H : Heap) (locs : List Loc) (ls : Array Slot), va_P D cls9 (wd_Mo_rests cA a_r r_manner r_above r_below r_nodes r_arcs r_left r_isBest r_arePlateaus u_3 zz.2.1 zz.2.2.1 r_ties r_z r_plateaus r_ones r_others r_weights r_there r_hand u_4 u_5 u_6 zz.2.2.2.2.2.1 zz.2.2.2.2.1 zz.2.2.2.1 zz.2.2.2.2.2.2) H → va_D A (wd_Mo_rests cA a_r r_manner r_above r_below r_nodes r_arcs r_left r_isBest r_arePlateaus u_3 zz.2.1 zz.2.2.1 r_ties r_z r_plateaus r_ones r_others r_weights r_there r_hand u_4 u_5 u_6 zz.2.2.2.2.2.1 zz.2.2.2.2.1 zz.2.2.2.1 zz.2.2.2.2.2.2) → va_S A s.heap H locs → lv_has ls 3 [(2, .int zz.1), (1, .int x1_6), (0, .ref (a_r 0))] → G H locs 0 0 ls 16 []) ?_ _ _ ls hP hD hS (lv_sub hl [0, 1, 2] rfl))
      · intro zz h H locs ls hP hD hS hl
        obtain ⟨x2_16e, r_a_16e, r_b_16e, r_names_16e, r_sizes_16e, r_sums_16e, r_trial_16e⟩ := zz
        have hP : va_P D cls9 (wd_Mo_rests cA a_r r_manner r_above r_below r_nodes r_arcs r_left r_isBest r_arePlateaus u_3 r_a_16e r_b_16e r_ties r_z r_plateaus r_ones r_others r_weights r_there r_hand u_4 u_5 u_6 r_sums_16e r_sizes_16e r_names_16e r_trial_16e) H := hP
        have hD : va_D A (wd_Mo_rests cA a_r r_manner r_above r_below r_nodes r_arcs r_left r_isBest r_arePlateaus u_3 r_a_16e r_b_16e r_ties r_z r_plateaus r_ones r_others r_weights r_there r_hand u_4 u_5 u_6 r_sums_16e r_sizes_16e r_names_16e r_trial_16e) := hD
        have hl : lv_has ls 3 [(2, .int x2_16e), (1, .int x1_6), (0, .ref (a_r 0))] := hl
        refine cast (hG _ _ _ _ _ _ _).symm ?_
        refine lv_iinc (v := (x1_6 + 1)) (lv' := [(1, .int (x1_6 + 1)), (2, .int x2_16e), (0, .ref (a_r 0))]) hx hb d_Mo_rests_54 hl (k := 1) rfl rfl (by decide) rfl (fun ls hl => ?_)
        refine lv_goto (tgt := 6) hx hb d_Mo_rests_57 (by decide) ?_
        exact cast (hG _ _ _ _ _ _ _) (hB_6 ((x1_6 + 1), r_a_16e, r_b_16e, r_names_16e, r_sizes_16e, r_sums_16e, r_trial_16e) h _ _ _ hP hD hS (lv_sub hl [0, 2] rfl))
      · intro back exit zz hB_16 hE_16 h H locs ls hP hD hS hl
        obtain ⟨x2_16, r_a_16, r_b_16, r_names_16, r_sizes_16, r_sums_16, r_trial_16⟩ := zz
        have hP : va_P D cls9 (wd_Mo_rests cA a_r r_manner r_above r_below r_nodes r_arcs r_left r_isBest r_arePlateaus u_3 r_a_16 r_b_16 r_ties r_z r_plateaus r_ones r_others r_weights r_there r_hand u_4 u_5 u_6 r_sums_16 r_sizes_16 r_names_16 r_trial_16) H := hP
        have hD : va_D A (wd_Mo_rests cA a_r r_manner r_above r_below r_nodes r_arcs r_left r_isBest r_arePlateaus u_3 r_a_16 r_b_16 r_ties r_z r_plateaus r_ones r_others r_weights r_there r_hand u_4 u_5 u_6 r_sums_16 r_sizes_16 r_names_16 r_trial_16) := hD
        have hl : lv_has ls 3 [(2, .int x2_16), (1, .int x1_6), (0, .ref (a_r 0))] := hl
        refine cast (hG _ _ _ _ _ _ _).symm ?_
        refine lv_iload_n hx hb d_Mo_rests_16 rfl (lv_at hl 0 rfl) ?_
        refine lv_aload_n hx hb d_Mo_rests_17 rfl (lv_at hl 2 rfl) ?_
        refine va_get (ci := 8) (v := .int r_nodes) (C := R_Mo) (T := F_Mo) (N := 36) hx hb hal in_Mo hown hK hP 0 rfl rfl 3 (by decide) (hal _ kw_640) (fun _ h9 => h9) rfl d_Mo_rests_18 ?_
        refine lv_icmp_ge (tgt := 54) hx hb d_Mo_rests_21 (by decide) (fun c_10 => ?_) (fun c_10 => ?_)
        · have h := ifp (c_10) h
          exact cast (hG _ _ _ _ _ _ _) (hE_16 (x2_16, r_a_16, r_b_16, r_names_16, r_sizes_16, r_sums_16, r_trial_16) h _ _ _ hP hD hS (lv_sub hl [0, 1, 2] rfl))
        · have h := ifn (c_10) h
          refine lv_aload_n hx hb d_Mo_rests_24 rfl (lv_at hl 2 rfl) ?_
          refine lv_iload_n hx hb d_Mo_rests_25 rfl (lv_at hl 1 rfl) ?_
          refine lv_iload_n hx hb d_Mo_rests_26 rfl (lv_at hl 0 rfl) ?_
          obtain ⟨o_20, hc_19, h⟩ := bd h
          have hPc := hP.sub (ws' := (wd_Mo_moveGain cA a_r r_manner r_above r_below r_nodes r_arcs r_left r_isBest r_arePlateaus u_3 r_a_16 r_b_16 r_ties r_z r_plateaus r_hand u_4 u_6 r_sums_16 r_sizes_16 r_names_16 r_trial_16)) [0, 5, 6, 8, 9, 10, 11, 12] rfl
          have hDc := hD.sub (ws' := (wd_Mo_moveGain cA a_r r_manner r_above r_below r_nodes r_arcs r_left r_isBest r_arePlateaus u_3 r_a_16 r_b_16 r_ties r_z r_plateaus r_hand u_4 u_6 r_sums_16 r_sizes_16 r_names_16 r_trial_16)) [0, 5, 6, 8, 9, 10, 11, 12] (by decide) rfl
          have hFc := va_free (wc := (wd_Mo_moveGain cA a_r r_manner r_above r_below r_nodes r_arcs r_left r_isBest r_arePlateaus u_3 r_a_16 r_b_16 r_ties r_z r_plateaus r_hand u_4 u_6 r_sums_16 r_sizes_16 r_names_16 r_trial_16)) hD hS hA [0, 5, 6, 8, 9, 10, 11, 12] rfl
          refine va_calll (va_runV (C := R_Mo) (As := [.int x1_6, .int x2_16]) (rest := []) ⟨hx, hb, hml, hown, hal⟩ (c_Mo_moveGain l D cA a_r H.size r_manner r_above r_below r_nodes r_arcs r_left r_isBest r_arePlateaus u_3 r_a_16 r_b_16 r_ties r_z r_plateaus r_hand u_4 u_6 r_sums_16 r_sizes_16 r_names_16 r_trial_16 x1_6 x2_16 o_20 hc_19) (cwV 2 hal (goodV kw_829 kw_831 kw_p34 kw_9 kw_832) rfl rfl rfl (by decide +kernel) ⟨Nat.le_of_ble_eq_true rfl, Nat.le_of_ble_eq_true rfl⟩) ⟨fun a U g mk q => by obtain ⟨q0, q1, qP, qK, qD⟩ := q; exact ⟨q0, q1, qP, va_K.moved (u := U) (U := U.calling g mk a) (Vm.Alike.refl U.vm) qK, qD⟩, va_recv hK hP (ci := 8) (q0 := 0) rfl rfl, fun U hU hW => ⟨rfl, by rw [hU], by rw [hU]; exact hPc, va_K.moved hW.alike hK, hDc.weaken (fun _ _ _ _ => trivial)⟩⟩ rfl rfl hl.1 rfl (lv_room (Nat.le_of_ble_eq_true rfl)) d_Mo_rests_27 ⟨Nat.le_of_ble_eq_true rfl, Nat.le_of_ble_eq_true rfl⟩) hS (fun q _ h => hFc q h) hFc (fun r_12 u t H1 locs ht hvm hw hB hz1 hk1 hS => ?_)
          obtain ⟨u_13, u_14, u_15, u_16, u_17, u_18⟩ := u
          subst hw
          obtain ⟨hP1, hK1, hD1⟩ := hB
          rw [ht] at hP1
          have hP1 : va_P D cls9 (wd_Mo_moveGain cA a_r r_manner r_above r_below r_nodes r_arcs r_left r_isBest r_arePlateaus u_3 u_13 u_14 r_ties r_z r_plateaus r_hand u_4 u_6 u_15 u_16 u_17 u_18) H1 := hP1
          obtain ⟨hP, hD⟩ := va_join (wr := ([1, 2, 3, 4, 7] : List Nat).filterMap (fun i => (wd_Mo_rests cA a_r r_manner r_above r_below r_nodes r_arcs r_left r_isBest r_arePlateaus u_3 r_a_16 r_b_16 r_ties r_z r_plateaus r_ones r_others r_weights r_there r_hand u_4 u_5 u_6 r_sums_16 r_sizes_16 r_names_16 r_trial_16)[i]?)) (w1 := (wd_Mo_moveGain cA a_r r_manner r_above r_below r_nodes r_arcs r_left r_isBest r_arePlateaus u_3 u_13 u_14 r_ties r_z r_plateaus r_hand u_4 u_6 u_15 u_16 u_17 u_18)) hP hD [0, 5, 6, 8, 9, 10, 11, 12] [1, 2, 3, 4, 7] rfl rfl (by decide) (by decide) hk1 hFc hP1 hD1
          generalize H1 = H at hP hS ⊢
          have hP : va_P D cls9 (wd_Mo_rests cA a_r r_manner r_above r_below r_nodes r_arcs r_left r_isBest r_arePlateaus u_3 u_13 u_14 r_ties r_z r_plateaus r_ones r_others r_weights r_there r_hand u_4 u_5 u_6 u_15 u_16 u_17 u_18) H := hP.sub [5, 0, 1, 2, 3, 6, 7, 4, 8, 9, 10, 11, 12] rfl
          have hD : va_D A (wd_Mo_rests cA a_r r_manner r_above r_below r_nodes r_arcs r_left r_isBest r_arePlateaus u_3 u_13 u_14 r_ties r_z r_plateaus r_ones r_others r_weights r_there r_hand u_4 u_5 u_6 u_15 u_16 u_17 u_18) := hD.sub [5, 0, 1, 2, 3, 6, 7, 4, 8, 9, 10, 11, 12] (by decide) rfl
          refine lv_lconst (v := 0) hx hb d_Mo_rests_30 (by decide) ?_
          refine W.lcmp hx hb d_Mo_rests_31 ?_
          refine lv_if_gt (tgt := 46) hx hb d_Mo_rests_32 (by decide) (fun c_21 => ?_) (fun c_21 => ?_)
          · have h := ifp (lc_gt.mp (c_21)) h
            refine lv_iconst (v := 0) hx hb d_Mo_rests_46 (by decide) ?_
            exact W.iret (v := (0 : Int32)) hx hb hr (fun t ht hW => ⟨⟨(0 : Int32), (u_3, u_13, u_14, u_4, u_5, u_6, u_15, u_16, u_17, u_18), rfl, Option.some.inj h, by rw [ht]; exact hP, va_K.moved hW.alike hK, hD⟩, hS.F ht⟩) hS.2.2 d_Mo_rests_47
          · have h := ifn (fun q => (c_21) (lc_gt.mpr q)) h
            refine lv_aload_n hx hb d_Mo_rests_35 rfl (lv_at hl 2 rfl) ?_
            refine lv_iload_n hx hb d_Mo_rests_36 rfl (lv_at hl 1 rfl) ?_
            refine lv_iload_n hx hb d_Mo_rests_37 rfl (lv_at hl 0 rfl) ?_
            obtain ⟨o_31, hc_30, h⟩ := bd h
            have hPc := hP.sub (ws' := (wd_Mo_mergeGain cA a_r r_manner r_above r_below r_nodes r_arcs r_left r_isBest r_arePlateaus u_3 u_13 u_14 r_ties r_z r_plateaus r_hand u_4 u_6 u_15 u_16 u_17 u_18)) [0, 5, 6, 8, 9, 10, 11, 12] rfl
            have hDc := hD.sub (ws' := (wd_Mo_mergeGain cA a_r r_manner r_above r_below r_nodes r_arcs r_left r_isBest r_arePlateaus u_3 u_13 u_14 r_ties r_z r_plateaus r_hand u_4 u_6 u_15 u_16 u_17 u_18)) [0, 5, 6, 8, 9, 10, 11, 12] (by decide) rfl
            have hFc := va_free (wc := (wd_Mo_mergeGain cA a_r r_manner r_above r_below r_nodes r_arcs r_left r_isBest r_arePlateaus u_3 u_13 u_14 r_ties r_z r_plateaus r_hand u_4 u_6 u_15 u_16 u_17 u_18)) hD hS hA [0, 5, 6, 8, 9, 10, 11, 12] rfl
            refine va_calll (va_runV (C := R_Mo) (As := [.int x1_6, .int x2_16]) (rest := []) ⟨hx, hb, hml, hown, hal⟩ (c_Mo_mergeGain l D cA a_r H.size r_manner r_above r_below r_nodes r_arcs r_left r_isBest r_arePlateaus u_3 u_13 u_14 r_ties r_z r_plateaus r_hand u_4 u_6 u_15 u_16 u_17 u_18 x1_6 x2_16 o_31 hc_30) (cwV 2 hal (goodV kw_841 kw_843 kw_p36 kw_9 kw_844) rfl rfl rfl (by decide +kernel) ⟨Nat.le_of_ble_eq_true rfl, Nat.le_of_ble_eq_true rfl⟩) ⟨fun a U g mk q => by obtain ⟨q0, q1, qP, qK, qD⟩ := q; exact ⟨q0, q1, qP, va_K.moved (u := U) (U := U.calling g mk a) (Vm.Alike.refl U.vm) qK, qD⟩, va_recv hK hP (ci := 8) (q0 := 0) rfl rfl, fun U hU hW => ⟨rfl, by rw [hU], by rw [hU]; exact hPc, va_K.moved hW.alike hK, hDc.weaken (fun _ _ _ _ => trivial)⟩⟩ rfl rfl hl.1 rfl (lv_room (Nat.le_of_ble_eq_true rfl)) d_Mo_rests_38 ⟨Nat.le_of_ble_eq_true rfl, Nat.le_of_ble_eq_true rfl⟩) hS (fun q _ h => hFc q h) hFc (fun r_23 u t H1 locs ht hvm hw hB hz1 hk1 hS => ?_)
            obtain ⟨u_24, u_25, u_26, u_27, u_28, u_29⟩ := u
            subst hw
            obtain ⟨hP1, hK1, hD1⟩ := hB
            rw [ht] at hP1
            have hP1 : va_P D cls9 (wd_Mo_mergeGain cA a_r r_manner r_above r_below r_nodes r_arcs r_left r_isBest r_arePlateaus u_3 u_24 u_25 r_ties r_z r_plateaus r_hand u_4 u_6 u_26 u_27 u_28 u_29) H1 := hP1
            obtain ⟨hP, hD⟩ := va_join (wr := ([1, 2, 3, 4, 7] : List Nat).filterMap (fun i => (wd_Mo_rests cA a_r r_manner r_above r_below r_nodes r_arcs r_left r_isBest r_arePlateaus u_3 u_13 u_14 r_ties r_z r_plateaus r_ones r_others r_weights r_there r_hand u_4 u_5 u_6 u_15 u_16 u_17 u_18)[i]?)) (w1 := (wd_Mo_mergeGain cA a_r r_manner r_above r_below r_nodes r_arcs r_left r_isBest r_arePlateaus u_3 u_24 u_25 r_ties r_z r_plateaus r_hand u_4 u_6 u_26 u_27 u_28 u_29)) hP hD [0, 5, 6, 8, 9, 10, 11, 12] [1, 2, 3, 4, 7] rfl rfl (by decide) (by decide) hk1 hFc hP1 hD1
            generalize H1 = H at hP hS ⊢
            have hP : va_P D cls9 (wd_Mo_rests cA a_r r_manner r_above r_below r_nodes r_arcs r_left r_isBest r_arePlateaus u_3 u_24 u_25 r_ties r_z r_plateaus r_ones r_others r_weights r_there r_hand u_4 u_5 u_6 u_26 u_27 u_28 u_29) H := hP.sub [5, 0, 1, 2, 3, 6, 7, 4, 8, 9, 10, 11, 12] rfl
            have hD : va_D A (wd_Mo_rests cA a_r r_manner r_above r_below r_nodes r_arcs r_left r_isBest r_arePlateaus u_3 u_24 u_25 r_ties r_z r_plateaus r_ones r_others r_weights r_there r_hand u_4 u_5 u_6 u_26 u_27 u_28 u_29) := hD.sub [5, 0, 1, 2, 3, 6, 7, 4, 8, 9, 10, 11, 12] (by decide) rfl
            refine lv_lconst (v := 0) hx hb d_Mo_rests_41 (by decide) ?_
            refine W.lcmp hx hb d_Mo_rests_42 ?_
            refine lv_if_le (tgt := 48) hx hb d_Mo_rests_43 (by decide) (fun c_32 => ?_) (fun c_32 => ?_)
            · have h := ifp (lc_le.mp (c_32)) h
              refine lv_iinc (v := (x2_16 + 1)) (lv' := [(2, .int (x2_16 + 1)), (1, .int x1_6), (0, .ref (a_r 0))]) hx hb d_Mo_rests_48 hl (k := 0) rfl rfl (by decide) rfl (fun ls hl => ?_)
              refine lv_goto (tgt := 16) hx hb d_Mo_rests_51 (by decide) ?_
              exact cast (hG _ _ _ _ _ _ _) (hB_16 ((x2_16 + 1), u_24, u_25, u_28, u_27, u_26, u_29) h _ _ _ hP hD hS (lv_sub hl [0, 1, 2] rfl))
            · have h := ifn (fun q => (c_32) (lc_le.mpr q)) h
              refine lv_iconst (v := 0) hx hb d_Mo_rests_46 (by decide) ?_
              exact W.iret (v := (0 : Int32)) hx hb hr (fun t ht hW => ⟨⟨(0 : Int32), (u_3, u_24, u_25, u_4, u_5, u_6, u_26, u_27, u_28, u_29), rfl, Option.some.inj h, by rw [ht]; exact hP, va_K.moved hW.alike hK, hD⟩, hS.F ht⟩) hS.2.2 d_Mo_rests_47
def wd_Mo_joined (cA : Nat → ClassId) (a_r : Nat → Nat) (r_manner : Int32) (r_above : Int32) (r_below : Int32) (r_nodes : Int32) (r_arcs : Int32) (r_left : Int32) (r_isBest : Int32) (r_arePlateaus : Int32) (r_all : Int64) (r_a : Int64) (r_b : Int64) (r_ties : Int32) (r_z : Int32) (r_plateaus : Int32) (r_ones : Nat → Int32) (r_others : Nat → Int32) (r_weights : Nat → Int32) (r_there : Nat → Int32) (r_hand : Nat → Int32) (r_between : Nat → Int32) (r_joins : Nat → Int32) (r_has : Nat → Int32) : va_W := [(a_r 0, .inr (8, [.int r_manner, .int r_above, .int r_below, .int r_nodes, .int r_arcs, .int r_left, .ref (a_r 1), .ref (a_r 2), .ref (a_r 3), .ref (a_r 4), .ref (a_r 5), .int r_isBest, .int r_arePlateaus, .ref (a_r 6), .ref (a_r 7), .ref (a_r 8), .long r_all, .ref (a_r 9), .ref (a_r 10), .long r_a, .long r_b, .ref (a_r 11), .ref (a_r 12), .ref (a_r 13), .ref (a_r 14), .ref (a_r 15), .int r_ties, .ref (a_r 16), .ref (a_r 17), .ref (a_r 18), .int r_z, .int r_plateaus, .ref (a_r 19), .ref (a_r 20), .ref (a_r 21), .ref (a_r 22)])), (a_r 1, .inl (cA 0, 36, .inl r_ones)), (a_r 2, .inl (cA 0, 36, .inl r_others)), (a_r 3, .inl (cA 0, 36, .inl r_weights)), (a_r 4, .inl (cA 2, 36, .inl r_there)), (a_r 5, .inl (cA 0, 9, .inl r_hand)), (a_r 6, .inl (cA 0, 81, .inl r_between)), (a_r 7, .inl (cA 2, 81, .inl r_joins)), (a_r 8, .inl (cA 0, 9, .inl r_has))]
noncomputable def s_Mo_joined_134 (x1 : Int32) (x2 : Int32) (r_all : Int64) (r_between : Nat → Int32) (r_hand : Nat → Int32) (r_has : Nat → Int32) (r_joins : Nat → Int32) (r_nodes : Int32) (zz : Int32) (back exit : Int32 → Option (Int32 × Int64 × (Nat → Int32) × (Nat → Int32) × (Nat → Int32))) : Option (Int32 × Int64 × (Nat → Int32) × (Nat → Int32) × (Nat → Int32)) :=
  (if r_nodes ≤ zz then (exit zz) else (if inb zz 9 then (if inb x1 9 then (if (r_hand zz.toNatClampNeg) = (r_hand x1.toNatClampNeg) then (if ((x2 >>> (zz &&& 31)) &&& (1 : Int32)) = 0 then some ((0 : Int32), r_all, r_between, r_joins, r_has) else (back (zz + 1))) else (back (zz + 1))) else none) else none))
noncomputable def s_Mo_joined_42 (x1 : Int32) (x4 : Int32) (r_hand : Nat → Int32) (r_joins : Nat → Int32) (r_nodes : Int32) (zz : Int32 × Int32) (back exit : (Int32 × Int32) → Option (Int32 × Int64 × (Nat → Int32) × (Nat → Int32) × (Nat → Int32))) : Option (Int32 × Int64 × (Nat → Int32) × (Nat → Int32) × (Nat → Int32)) :=
  (if r_nodes ≤ zz.2 then (exit (zz.1, zz.2)) else (jn (fun z98 : Int32 => (if z98 = 0 then (back ((zz.1 ||| (0 : Int32)), (zz.2 + 1))) else (back ((zz.1 ||| ((1 : Int32) <<< (zz.2 &&& 31))), (zz.2 + 1))))) (fun j98 => (jn (fun z97 : Unit => (j98 (0 : Int32))) (fun j97 => (if ((zz.1 >>> (x4 &&& 31)) &&& (1 : Int32)) = (1 : Int32) then (if inb (((9 : Int32) * x4) + zz.2) 81 then (if (r_joins (((9 : Int32) * x4) + zz.2).toNatClampNeg) = 0 then (j97 ()) else (if inb zz.2 9 then (if inb x1 9 then (if (r_hand zz.2.toNatClampNeg) = (r_hand x1.toNatClampNeg) then (j98 (1 : Int32)) else (j97 ())) else none) else none)) else none) else (j97 ())))))))
noncomputable def s_Mo_joined_30 (x1 : Int32) (r_hand : Nat → Int32) (r_joins : Nat → Int32) (r_nodes : Int32) (zz : Int32 × Int32) (back exit : (Int32 × Int32) → Option (Int32 × Int64 × (Nat → Int32) × (Nat → Int32) × (Nat → Int32))) : Option (Int32 × Int64 × (Nat → Int32) × (Nat → Int32) × (Nat → Int32)) :=
  (if r_nodes ≤ zz.2 then (exit (zz.1, zz.2)) else (loopC (s_Mo_joined_42 x1 zz.2 r_hand r_joins r_nodes) (fun z42 : Int32 × Int32 => (back (z42.1, (zz.2 + 1)))) FU (zz.1, (0 : Int32))))
noncomputable def s_Mo_joined_20 (x1 : Int32) (r_hand : Nat → Int32) (r_joins : Nat → Int32) (r_nodes : Int32) (zz : Int32 × Int32) (back exit : (Int32 × Int32) → Option (Int32 × Int64 × (Nat → Int32) × (Nat → Int32) × (Nat → Int32))) : Option (Int32 × Int64 × (Nat → Int32) × (Nat → Int32) × (Nat → Int32)) :=
  (if zz.1 = zz.2 then (exit (zz.1, zz.2)) else (loopC (s_Mo_joined_30 x1 r_hand r_joins r_nodes) (fun z30 : Int32 × Int32 => (back (z30.1, zz.1))) FU (zz.1, (0 : Int32))))
noncomputable def s_Mo_joined_6 (r_all : Int64) (r_between : Nat → Int32) (r_hand : Nat → Int32) (r_has : Nat → Int32) (r_joins : Nat → Int32) (r_nodes : Int32) (zz : Int32) (back exit : Int32 → Option (Int32 × Int64 × (Nat → Int32) × (Nat → Int32) × (Nat → Int32))) : Option (Int32 × Int64 × (Nat → Int32) × (Nat → Int32) × (Nat → Int32)) :=
  (if r_nodes ≤ zz then (exit zz) else (loopC (s_Mo_joined_20 zz r_hand r_joins r_nodes) (fun z20 : Int32 × Int32 => (loopC (s_Mo_joined_134 zz z20.1 r_all r_between r_hand r_has r_joins r_nodes) (fun z134 : Int32 => (back (zz + 1))) FU (0 : Int32))) FU (((1 : Int32) <<< (zz &&& 31)), (0 : Int32))))
noncomputable def m_Mo_joined (r_manner : Int32) (r_nodes : Int32) (r_arcs : Int32) (r_ones : Nat → Int32) (r_others : Nat → Int32) (r_weights : Nat → Int32) (r_there : Nat → Int32) (r_hand : Nat → Int32) (r_between : Nat → Int32) (r_joins : Nat → Int32) (r_has : Nat → Int32) : Option (Int32 × Int64 × (Nat → Int32) × (Nat → Int32) × (Nat → Int32)) :=
  ((m_Mo_weigh r_manner r_arcs r_ones r_others r_weights r_there r_between r_joins r_has).bind (fun r1 : Int64 × (Nat → Int32) × (Nat → Int32) × (Nat → Int32) => (loopC (s_Mo_joined_6 r1.1 r1.2.1 r_hand r1.2.2.2 r1.2.2.1 r_nodes) (fun z6 : Int32 => some ((1 : Int32), r1.1, r1.2.1, r1.2.2.1, r1.2.2.2)) FU (0 : Int32))))
set_option maxHeartbeats 4000000 in
set_option maxRecDepth 100000 in
theorem c_Mo_joined (l : Launch) (D : va_G) (cA : Nat → ClassId) (a_r : Nat → Nat) (sz : Nat) (r_manner : Int32) (r_above : Int32) (r_below : Int32) (r_nodes : Int32) (r_arcs : Int32) (r_left : Int32) (r_isBest : Int32) (r_arePlateaus : Int32) (r_all : Int64) (r_a : Int64) (r_b : Int64) (r_ties : Int32) (r_z : Int32) (r_plateaus : Int32) (r_ones : Nat → Int32) (r_others : Nat → Int32) (r_weights : Nat → Int32) (r_there : Nat → Int32) (r_hand : Nat → Int32) (r_between : Nat → Int32) (r_joins : Nat → Int32) (r_has : Nat → Int32)  (out : Int32 × Int64 × (Nat → Int32) × (Nat → Int32) × (Nat → Int32)) (h : m_Mo_joined r_manner r_nodes r_arcs r_ones r_others r_weights r_there r_hand r_between r_joins r_has = some out) : Met l y_Mo_joined w_Mo_joined ({ frames := 2, cells := 0, slots := 0, locals := 42 }) (va_Pc [.ref (a_r 0)] (fun U => U.heap.size = sz ∧ va_P D cls9 (wd_Mo_joined cA a_r r_manner r_above r_below r_nodes r_arcs r_left r_isBest r_arePlateaus r_all r_a r_b r_ties r_z r_plateaus r_ones r_others r_weights r_there r_hand r_between r_joins r_has) U.heap ∧ va_K D cls9 (tys5 cA) U ∧ va_D (fun _ => True) (wd_Mo_joined cA a_r r_manner r_above r_below r_nodes r_arcs r_left r_isBest r_arePlateaus r_all r_a r_b r_ties r_z r_plateaus r_ones r_others r_weights r_there r_hand r_between r_joins r_has))) (va_Qi (fun (rr : Int32) (uu : Int64 × (Nat → Int32) × (Nat → Int32) × (Nat → Int32)) => (rr, uu) = out) (fun (uu : Int64 × (Nat → Int32) × (Nat → Int32) × (Nat → Int32)) (t : State) => va_P D cls9 (wd_Mo_joined cA a_r r_manner r_above r_below r_nodes r_arcs r_left r_isBest r_arePlateaus uu.1 r_a r_b r_ties r_z r_plateaus r_ones r_others r_weights r_there r_hand uu.2.1 uu.2.2.1 uu.2.2.2) t.heap ∧ va_K D cls9 (tys5 cA) t ∧ va_D (va_A (wd_Mo_joined cA a_r r_manner r_above r_below r_nodes r_arcs r_left r_isBest r_arePlateaus r_all r_a r_b r_ties r_z r_plateaus r_ones r_others r_weights r_there r_hand r_between r_joins r_has) sz) (wd_Mo_joined cA a_r r_manner r_above r_below r_nodes r_arcs r_left r_isBest r_arePlateaus uu.1 r_a r_b r_ties r_z r_plateaus r_ones r_others r_weights r_there r_hand uu.2.1 uu.2.2.1 uu.2.2.2)) (va_A (wd_Mo_joined cA a_r r_manner r_above r_below r_nodes r_arcs r_left r_isBest r_arePlateaus r_all r_a r_b r_ties r_z r_plateaus r_ones r_others r_weights r_there r_hand r_between r_joins r_has) sz)) 0 0 (va_A (wd_Mo_joined cA a_r r_manner r_above r_below r_nodes r_arcs r_left r_isBest r_arePlateaus r_all r_a r_b r_ties r_z r_plateaus r_ones r_others r_weights r_there r_hand r_between r_joins r_has) sz) := by
  refine Met.ofW (cc := b_Mo_joined) (maxL := 7) (ret := (Option.some Jvm.ClassFile.FieldType.int)) (by decide) rfl ?_
  intro p e s m args below meth c s₁ B hml hv
  obtain ⟨rfl, hsz, hP, hK, hD0⟩ := hv
  have hx := B.exec
  have hb := B.bytes
  have hr := B.returns
  have hts := atoms_spec (ws := w_Mo_joined) B.pre
  have hal : ∀ w ∈ ALLW, w.before _ s = true := fun w hw => hts w (List.mem_cons_of_mem _ hw)
  have hown : s.vm.findClass R_Mo = some m.cls := findClass_of_methodNamed B.named
  have hlocks := B.notSynchronized
  subst hsz
  have hD := hD0.self (sz := s.heap.size)
  generalize hAe : va_A (wd_Mo_joined cA a_r r_manner r_above r_below r_nodes r_arcs r_left r_isBest r_arePlateaus r_all r_a r_b r_ties r_z r_plateaus r_ones r_others r_weights r_there r_hand r_between r_joins r_has) s.heap.size = A at hD ⊢
  have hA : ∀ q : Nat, s.heap.size ≤ q → A q := fun q h => by rw [← hAe]; exact Or.inr h
  have hS : va_S A s.heap s.heap [] := va_S.rf
  have hl := lv_entry ([.ref (a_r 0)]) (n := 7) (Nat.le_of_ble_eq_true rfl)
  rw [lg_entry_eq]
  generalize (lg_sl ([.ref (a_r 0)]) ++ List.replicate (7 - (lg_sl ([.ref (a_r 0)])).length) Slot.unset).toArray = ls at hl ⊢
  have hl : lv_has ls 7 [(0, .ref (a_r 0))] := hl
  refine wg (fun G hG => ?_)
  refine cast (hG _ _ _ _ _ _ _).symm ?_
  obtain ⟨H, locs, hHl, hS⟩ : ∃ (H : Heap) (locs : List Loc), (H = s.heap ∧ locs = []) ∧ va_S A s.heap H locs := ⟨s.heap, [], ⟨rfl, rfl⟩, hS⟩
  have hP : va_P D cls9 (wd_Mo_joined cA a_r r_manner r_above r_below r_nodes r_arcs r_left r_isBest r_arePlateaus r_all r_a r_b r_ties r_z r_plateaus r_ones r_others r_weights r_there r_hand r_between r_joins r_has) H := by rw [hHl.1]; exact hP
  rw [← hHl.1, ← hHl.2]
  clear hHl
  refine lv_aload_n hx hb d_Mo_joined_0 rfl (lv_at hl 0 rfl) ?_
  obtain ⟨o_8, hc_7, h⟩ := bd h
  have hPc := hP.sub (ws' := (wd_Mo_weigh cA a_r r_manner r_above r_below r_nodes r_arcs r_left r_isBest r_arePlateaus r_all r_a r_b r_ties r_z r_plateaus r_ones r_others r_weights r_there r_between r_joins r_has)) [0, 1, 2, 3, 4, 6, 7, 8] rfl
  have hDc := hD.sub (ws' := (wd_Mo_weigh cA a_r r_manner r_above r_below r_nodes r_arcs r_left r_isBest r_arePlateaus r_all r_a r_b r_ties r_z r_plateaus r_ones r_others r_weights r_there r_between r_joins r_has)) [0, 1, 2, 3, 4, 6, 7, 8] (by decide) rfl
  have hFc := va_free (wc := (wd_Mo_weigh cA a_r r_manner r_above r_below r_nodes r_arcs r_left r_isBest r_arePlateaus r_all r_a r_b r_ties r_z r_plateaus r_ones r_others r_weights r_there r_between r_joins r_has)) hD hS hA [0, 1, 2, 3, 4, 6, 7, 8] rfl
  refine va_callv (va_runV (C := R_Mo) (As := []) (rest := []) ⟨hx, hb, hml, hown, hal⟩ (c_Mo_weigh l D cA a_r H.size r_manner r_above r_below r_nodes r_arcs r_left r_isBest r_arePlateaus r_all r_a r_b r_ties r_z r_plateaus r_ones r_others r_weights r_there r_between r_joins r_has o_8 hc_7) (cwV 0 hal (goodV kw_803 kw_805 kw_p30 kw_9 kw_806) rfl rfl rfl (by decide +kernel) ⟨Nat.le_of_ble_eq_true rfl, Nat.le_of_ble_eq_true rfl⟩) ⟨fun a U g mk q => by obtain ⟨q0, q1, qP, qK, qD⟩ := q; exact ⟨q0, q1, qP, va_K.moved (u := U) (U := U.calling g mk a) (Vm.Alike.refl U.vm) qK, qD⟩, va_recv hK hP (ci := 8) (q0 := 0) rfl rfl, fun U hU hW => ⟨rfl, by rw [hU], by rw [hU]; exact hPc, va_K.moved hW.alike hK, hDc.weaken (fun _ _ _ _ => trivial)⟩⟩ rfl rfl hl.1 rfl (lv_room (Nat.le_of_ble_eq_true rfl)) d_Mo_joined_1 ⟨Nat.le_of_ble_eq_true rfl, Nat.le_of_ble_eq_true rfl⟩) hS (fun q _ h => hFc q h) hFc (fun u t H1 locs ht hvm hw hB hz1 hk1 hS => ?_)
  obtain ⟨u_3, u_4, u_5, u_6⟩ := u
  subst hw
  obtain ⟨hP1, hK1, hD1⟩ := hB
  rw [ht] at hP1
  have hP1 : va_P D cls9 (wd_Mo_weigh cA a_r r_manner r_above r_below r_nodes r_arcs r_left r_isBest r_arePlateaus u_3 r_a r_b r_ties r_z r_plateaus r_ones r_others r_weights r_there u_4 u_5 u_6) H1 := hP1
  obtain ⟨hP, hD⟩ := va_join (wr := ([5] : List Nat).filterMap (fun i => (wd_Mo_joined cA a_r r_manner r_above r_below r_nodes r_arcs r_left r_isBest r_arePlateaus r_all r_a r_b r_ties r_z r_plateaus r_ones r_others r_weights r_there r_hand r_between r_joins r_has)[i]?)) (w1 := (wd_Mo_weigh cA a_r r_manner r_above r_below r_nodes r_arcs r_left r_isBest r_arePlateaus u_3 r_a r_b r_ties r_z r_plateaus r_ones r_others r_weights r_there u_4 u_5 u_6)) hP hD [0, 1, 2, 3, 4, 6, 7, 8] [5] rfl rfl (by decide) (by decide) hk1 hFc hP1 hD1
  generalize H1 = H at hP hS ⊢
  have hP : va_P D cls9 (wd_Mo_joined cA a_r r_manner r_above r_below r_nodes r_arcs r_left r_isBest r_arePlateaus u_3 r_a r_b r_ties r_z r_plateaus r_ones r_others r_weights r_there r_hand u_4 u_5 u_6) H := hP.sub [1, 2, 3, 4, 5, 0, 6, 7, 8] rfl
  have hD : va_D A (wd_Mo_joined cA a_r r_manner r_above r_below r_nodes r_arcs r_left r_isBest r_arePlateaus u_3 r_a r_b r_ties r_z r_plateaus r_ones r_others r_weights r_there r_hand u_4 u_5 u_6) := hD.sub [1, 2, 3, 4, 5, 0, 6, 7, 8] (by decide) rfl
  refine lv_iconst (v := 0) hx hb d_Mo_joined_4 (by decide) ?_
  refine lv_istore_n (lv' := [(1, .int (0 : Int32)), (0, .ref (a_r 0))]) hx hb d_Mo_joined_5 rfl hl (by decide) rfl (fun ls hl => ?_)
  refine cast (hG _ _ _ _ _ _ _) (lp_go2 h (fun zz : Int32 => ∀ (H : Heap) (locs : List Loc) (ls : Array Slot), va_P D cls9 (wd_Mo_joined cA a_r r_manner r_above r_below r_nodes r_arcs r_left r_isBest r_arePlateaus u_3 r_a r_b r_ties r_z r_plateaus r_ones r_others r_weights r_there r_hand u_4 u_5 u_6) H → va_D A (wd_Mo_joined cA a_r r_manner r_above r_below r_nodes r_arcs r_left r_isBest r_arePlateaus u_3 r_a r_b r_ties r_z r_plateaus r_ones r_others r_weights r_there r_hand u_4 u_5 u_6) → va_S A s.heap H locs → lv_has ls 7 [(1, .int zz), (0, .ref (a_r 0))] → G H locs 0 0 ls 182 []) ?_ (fun zz : Int32 => ∀ (H : Heap) (locs : List Loc) (ls : Array Slot), va_P D cls9 (wd_Mo_joined cA a_r r_manner r_above r_below r_nodes r_arcs r_left r_isBest r_arePlateaus u_3 r_a r_b r_ties r_z r_plateaus r_ones r_others r_weights r_there r_hand u_4 u_5 u_6) H → va_D A (wd_Mo_joined cA a_r r_manner r_above r_below r_nodes r_arcs r_left r_isBest r_arePlateaus u_3 r_a r_b r_ties r_z r_plateaus r_ones r_others r_weights r_there r_hand u_4 u_5 u_6) → va_S A s.heap H locs → lv_has ls 7 [(1, .int zz), (0, .ref (a_r 0))] → G H locs 0 0 ls 6 []) ?_ _ _ ls hP hD hS (lv_sub hl [0, 1] rfl))
  · intro zz h H locs ls hP hD hS hl
    obtain ⟨x1_6e, rfl⟩ : ∃ q, q = zz := ⟨_, rfl⟩
    have hP : va_P D cls9 (wd_Mo_joined cA a_r r_manner r_above r_below r_nodes r_arcs r_left r_isBest r_arePlateaus u_3 r_a r_b r_ties r_z r_plateaus r_ones r_others r_weights r_there r_hand u_4 u_5 u_6) H := hP
    have hD : va_D A (wd_Mo_joined cA a_r r_manner r_above r_below r_nodes r_arcs r_left r_isBest r_arePlateaus u_3 r_a r_b r_ties r_z r_plateaus r_ones r_others r_weights r_there r_hand u_4 u_5 u_6) := hD
    have hl : lv_has ls 7 [(1, .int x1_6e), (0, .ref (a_r 0))] := hl
    refine cast (hG _ _ _ _ _ _ _).symm ?_
    refine lv_iconst (v := 1) hx hb d_Mo_joined_182 (by decide) ?_
    exact W.iret (v := (1 : Int32)) hx hb hr (fun t ht hW => ⟨⟨(1 : Int32), (u_3, u_4, u_5, u_6), rfl, Option.some.inj h, by rw [ht]; exact hP, va_K.moved hW.alike hK, hD⟩, hS.F ht⟩) hS.2.2 d_Mo_joined_183
  · intro back exit zz hB_6 hE_6 h H locs ls hP hD hS hl
    obtain ⟨x1_6, rfl⟩ : ∃ q, q = zz := ⟨_, rfl⟩
    have hP : va_P D cls9 (wd_Mo_joined cA a_r r_manner r_above r_below r_nodes r_arcs r_left r_isBest r_arePlateaus u_3 r_a r_b r_ties r_z r_plateaus r_ones r_others r_weights r_there r_hand u_4 u_5 u_6) H := hP
    have hD : va_D A (wd_Mo_joined cA a_r r_manner r_above r_below r_nodes r_arcs r_left r_isBest r_arePlateaus u_3 r_a r_b r_ties r_z r_plateaus r_ones r_others r_weights r_there r_hand u_4 u_5 u_6) := hD
    have hl : lv_has ls 7 [(1, .int x1_6), (0, .ref (a_r 0))] := hl
    refine cast (hG _ _ _ _ _ _ _).symm ?_
    refine lv_iload_n hx hb d_Mo_joined_6 rfl (lv_at hl 0 rfl) ?_
    refine lv_aload_n hx hb d_Mo_joined_7 rfl (lv_at hl 1 rfl) ?_
    refine va_get (ci := 8) (v := .int r_nodes) (C := R_Mo) (T := F_Mo) (N := 36) hx hb hal in_Mo hown hK hP 0 rfl rfl 3 (by decide) (hal _ kw_640) (fun _ h9 => h9) rfl d_Mo_joined_8 ?_
    refine lv_icmp_ge (tgt := 182) hx hb d_Mo_joined_11 (by decide) (fun c_9 => ?_) (fun c_9 => ?_)
    · have h := ifp (c_9) h
      exact cast (hG _ _ _ _ _ _ _) (hE_6 x1_6 h _ _ _ hP hD hS (lv_sub hl [0, 1] rfl))
    · have h := ifn (c_9) h
      refine lv_iconst (v := 1) hx hb d_Mo_joined_14 (by decide) ?_
      refine lv_iload_n hx hb d_Mo_joined_15 rfl (lv_at hl 0 rfl) ?_
      refine lv_ishl hx hb d_Mo_joined_16 ?_
      refine lv_istore_n (lv' := [(2, .int ((1 : Int32) <<< (x1_6 &&& 31))), (1, .int x1_6), (0, .ref (a_r 0))]) hx hb d_Mo_joined_17 rfl hl (by decide) rfl (fun ls hl => ?_)
      refine lv_iconst (v := 0) hx hb d_Mo_joined_18 (by decide) ?_
      refine lv_istore_n (lv' := [(3, .int (0 : Int32)), (2, .int ((1 : Int32) <<< (x1_6 &&& 31))), (1, .int x1_6), (0, .ref (a_r 0))]) hx hb d_Mo_joined_19 rfl hl (by decide) rfl (fun ls hl => ?_)
      refine cast (hG _ _ _ _ _ _ _) (lp_go2 h (fun zz : Int32 × Int32 => ∀ (H : Heap) (locs : List Loc) (ls : Array Slot), va_P D cls9 (wd_Mo_joined cA a_r r_manner r_above r_below r_nodes r_arcs r_left r_isBest r_arePlateaus u_3 r_a r_b r_ties r_z r_plateaus r_ones r_others r_weights r_there r_hand u_4 u_5 u_6) H → va_D A (wd_Mo_joined cA a_r r_manner r_above r_below r_nodes r_arcs r_left r_isBest r_arePlateaus u_3 r_a r_b r_ties r_z r_plateaus r_ones r_others r_weights r_there r_hand u_4 u_5 u_6) → va_S A s.heap H locs → lv_has ls 7 [(3, .int zz.2), (2, .int zz.1), (1, .int x1_6), (0, .ref (a_r 0))] → G H locs 0 0 ls 131 []) ?_ (fun zz : Int32 × Int32 => ∀ (H : Heap) (locs : List Loc) (ls : Array Slot), va_P D cls9 (wd_Mo_joined cA a_r r_manner r_above r_below r_nodes r_arcs r_left r_isBest r_arePlateaus u_3 r_a r_b r_ties r_z r_plateaus r_ones r_others r_weights r_there r_hand u_4 u_5 u_6) H → va_D A (wd_Mo_joined cA a_r r_manner r_above r_below r_nodes r_arcs r_left r_isBest r_arePlateaus u_3 r_a r_b r_ties r_z r_plateaus r_ones r_others r_weights r_there r_hand u_4 u_5 u_6) → va_S A s.heap H locs → lv_has ls 7 [(3, .int zz.2), (2, .int zz.1), (1, .int x1_6), (0, .ref (a_r 0))] → G H locs 0 0 ls 20 []) ?_ _ _ ls hP hD hS (lv_sub hl [0, 1, 2, 3] rfl))
      · intro zz h H locs ls hP hD hS hl
        obtain ⟨x2_20e, x3_20e⟩ := zz
        have hP : va_P D cls9 (wd_Mo_joined cA a_r r_manner r_above r_below r_nodes r_arcs r_left r_isBest r_arePlateaus u_3 r_a r_b r_ties r_z r_plateaus r_ones r_others r_weights r_there r_hand u_4 u_5 u_6) H := hP
        have hD : va_D A (wd_Mo_joined cA a_r r_manner r_above r_below r_nodes r_arcs r_left r_isBest r_arePlateaus u_3 r_a r_b r_ties r_z r_plateaus r_ones r_others r_weights r_there r_hand u_4 u_5 u_6) := hD
        have hl : lv_has ls 7 [(3, .int x3_20e), (2, .int x2_20e), (1, .int x1_6), (0, .ref (a_r 0))] := hl
        refine cast (hG _ _ _ _ _ _ _).symm ?_
        refine lv_iconst (v := 0) hx hb d_Mo_joined_131 (by decide) ?_
        refine lv_istore (lv' := [(4, .int (0 : Int32)), (3, .int x3_20e), (2, .int x2_20e), (1, .int x1_6), (0, .ref (a_r 0))]) hx hb d_Mo_joined_132 hl (by decide) rfl (fun ls hl => ?_)
        refine cast (hG _ _ _ _ _ _ _) (lp_go2 h (fun zz : Int32 => ∀ (H : Heap) (locs : List Loc) (ls : Array Slot), va_P D cls9 (wd_Mo_joined cA a_r r_manner r_above r_below r_nodes r_arcs r_left r_isBest r_arePlateaus u_3 r_a r_b r_ties r_z r_plateaus r_ones r_others r_weights r_there r_hand u_4 u_5 u_6) H → va_D A (wd_Mo_joined cA a_r r_manner r_above r_below r_nodes r_arcs r_left r_isBest r_arePlateaus u_3 r_a r_b r_ties r_z r_plateaus r_ones r_others r_weights r_there r_hand u_4 u_5 u_6) → va_S A s.heap H locs → lv_has ls 7 [(4, .int zz), (3, .int x3_20e), (2, .int x2_20e), (1, .int x1_6), (0, .ref (a_r 0))] → G H locs 0 0 ls 176 []) ?_ (fun zz : Int32 => ∀ (H : Heap) (locs : List Loc) (ls : Array Slot), va_P D cls9 (wd_Mo_joined cA a_r r_manner r_above r_below r_nodes r_arcs r_left r_isBest r_arePlateaus u_3 r_a r_b r_ties r_z r_plateaus r_ones r_others r_weights r_there r_hand u_4 u_5 u_6) H → va_D A (wd_Mo_joined cA a_r r_manner r_above r_below r_nodes r_arcs r_left r_isBest r_arePlateaus u_3 r_a r_b r_ties r_z r_plateaus r_ones r_others r_weights r_there r_hand u_4 u_5 u_6) → va_S A s.heap H locs → lv_has ls 7 [(4, .int zz), (3, .int x3_20e), (2, .int x2_20e), (1, .int x1_6), (0, .ref (a_r 0))] → G H locs 0 0 ls 134 []) ?_ _ _ ls hP hD hS (lv_sub hl [0, 1, 2, 3, 4] rfl))
        · intro zz h H locs ls hP hD hS hl
          obtain ⟨x4_134e, rfl⟩ : ∃ q, q = zz := ⟨_, rfl⟩
          have hP : va_P D cls9 (wd_Mo_joined cA a_r r_manner r_above r_below r_nodes r_arcs r_left r_isBest r_arePlateaus u_3 r_a r_b r_ties r_z r_plateaus r_ones r_others r_weights r_there r_hand u_4 u_5 u_6) H := hP
          have hD : va_D A (wd_Mo_joined cA a_r r_manner r_above r_below r_nodes r_arcs r_left r_isBest r_arePlateaus u_3 r_a r_b r_ties r_z r_plateaus r_ones r_others r_weights r_there r_hand u_4 u_5 u_6) := hD
          have hl : lv_has ls 7 [(4, .int x4_134e), (3, .int x3_20e), (2, .int x2_20e), (1, .int x1_6), (0, .ref (a_r 0))] := hl
          refine cast (hG _ _ _ _ _ _ _).symm ?_
          refine lv_iinc (v := (x1_6 + 1)) (lv' := [(1, .int (x1_6 + 1)), (4, .int x4_134e), (3, .int x3_20e), (2, .int x2_20e), (0, .ref (a_r 0))]) hx hb d_Mo_joined_176 hl (k := 3) rfl rfl (by decide) rfl (fun ls hl => ?_)
          refine lv_goto (tgt := 6) hx hb d_Mo_joined_179 (by decide) ?_
          exact cast (hG _ _ _ _ _ _ _) (hB_6 (x1_6 + 1) h _ _ _ hP hD hS (lv_sub hl [0, 4] rfl))
        · intro back exit zz hB_134 hE_134 h H locs ls hP hD hS hl
          obtain ⟨x4_134, rfl⟩ : ∃ q, q = zz := ⟨_, rfl⟩
          have hP : va_P D cls9 (wd_Mo_joined cA a_r r_manner r_above r_below r_nodes r_arcs r_left r_isBest r_arePlateaus u_3 r_a r_b r_ties r_z r_plateaus r_ones r_others r_weights r_there r_hand u_4 u_5 u_6) H := hP
          have hD : va_D A (wd_Mo_joined cA a_r r_manner r_above r_below r_nodes r_arcs r_left r_isBest r_arePlateaus u_3 r_a r_b r_ties r_z r_plateaus r_ones r_others r_weights r_there r_hand u_4 u_5 u_6) := hD
          have hl : lv_has ls 7 [(4, .int x4_134), (3, .int x3_20e), (2, .int x2_20e), (1, .int x1_6), (0, .ref (a_r 0))] := hl
          refine cast (hG _ _ _ _ _ _ _).symm ?_
          refine lv_iload hx hb d_Mo_joined_134 (lv_at hl 0 rfl) ?_
          refine lv_aload_n hx hb d_Mo_joined_136 rfl (lv_at hl 4 rfl) ?_
          refine va_get (ci := 8) (v := .int r_nodes) (C := R_Mo) (T := F_Mo) (N := 36) hx hb hal in_Mo hown hK hP 0 rfl rfl 3 (by decide) (hal _ kw_640) (fun _ h9 => h9) rfl d_Mo_joined_137 ?_
          refine lv_icmp_ge (tgt := 176) hx hb d_Mo_joined_140 (by decide) (fun c_10 => ?_) (fun c_10 => ?_)
          · have h := ifp (c_10) h
            exact cast (hG _ _ _ _ _ _ _) (hE_134 x4_134 h _ _ _ hP hD hS (lv_sub hl [0, 1, 2, 3, 4] rfl))
          · have h := ifn (c_10) h
            refine lv_aload_n hx hb d_Mo_joined_143 rfl (lv_at hl 4 rfl) ?_
            refine va_get (ci := 8) (v := .ref (a_r 5)) (C := R_Mo) (T := F_Mo) (N := 36) hx hb hal in_Mo hown hK hP 0 rfl rfl 10 (by decide) (hal _ kw_647) (fun _ h9 => h9) rfl d_Mo_joined_144 ?_
            refine lv_iload hx hb d_Mo_joined_147 (lv_at hl 0 rfl) ?_
            obtain ⟨g_11, h⟩ := gd h
            refine va_iald hx hb hK hP 5 0 rfl rfl (inb_in g_11) d_Mo_joined_149 ?_
            refine lv_aload_n hx hb d_Mo_joined_150 rfl (lv_at hl 4 rfl) ?_
            refine va_get (ci := 8) (v := .ref (a_r 5)) (C := R_Mo) (T := F_Mo) (N := 36) hx hb hal in_Mo hown hK hP 0 rfl rfl 10 (by decide) (hal _ kw_647) (fun _ h9 => h9) rfl d_Mo_joined_151 ?_
            refine lv_iload_n hx hb d_Mo_joined_154 rfl (lv_at hl 3 rfl) ?_
            obtain ⟨g_12, h⟩ := gd h
            refine va_iald hx hb hK hP 5 0 rfl rfl (inb_in g_12) d_Mo_joined_155 ?_
            refine lv_icmp_ne (tgt := 170) hx hb d_Mo_joined_156 (by decide) (fun c_13 => ?_) (fun c_13 => ?_)
            · have h := ifn (c_13) h
              refine lv_iinc (v := (x4_134 + 1)) (lv' := [(4, .int (x4_134 + 1)), (3, .int x3_20e), (2, .int x2_20e), (1, .int x1_6), (0, .ref (a_r 0))]) hx hb d_Mo_joined_170 hl (k := 0) rfl rfl (by decide) rfl (fun ls hl => ?_)
              refine lv_goto (tgt := 134) hx hb d_Mo_joined_173 (by decide) ?_
              exact cast (hG _ _ _ _ _ _ _) (hB_134 (x4_134 + 1) h _ _ _ hP hD hS (lv_sub hl [0, 1, 2, 3, 4] rfl))
            · have h := ifp (c_13) h
              refine lv_iload_n hx hb d_Mo_joined_159 rfl (lv_at hl 2 rfl) ?_
              refine lv_iload hx hb d_Mo_joined_160 (lv_at hl 0 rfl) ?_
              refine lv_ishr hx hb d_Mo_joined_162 ?_
              refine lv_iconst (v := 1) hx hb d_Mo_joined_163 (by decide) ?_
              refine lv_iand hx hb d_Mo_joined_164 ?_
              refine lv_if_ne (tgt := 170) hx hb d_Mo_joined_165 (by decide) (fun c_14 => ?_) (fun c_14 => ?_)
              · have h := ifn (c_14) h
                refine lv_iinc (v := (x4_134 + 1)) (lv' := [(4, .int (x4_134 + 1)), (3, .int x3_20e), (2, .int x2_20e), (1, .int x1_6), (0, .ref (a_r 0))]) hx hb d_Mo_joined_170 hl (k := 0) rfl rfl (by decide) rfl (fun ls hl => ?_)
                refine lv_goto (tgt := 134) hx hb d_Mo_joined_173 (by decide) ?_
                exact cast (hG _ _ _ _ _ _ _) (hB_134 (x4_134 + 1) h _ _ _ hP hD hS (lv_sub hl [0, 1, 2, 3, 4] rfl))
              · have h := ifp (c_14) h
                refine lv_iconst (v := 0) hx hb d_Mo_joined_168 (by decide) ?_
                exact W.iret (v := (0 : Int32)) hx hb hr (fun t ht hW => ⟨⟨(0 : Int32), (u_3, u_4, u_5, u_6), rfl, Option.some.inj h, by rw [ht]; exact hP, va_K.moved hW.alike hK, hD⟩, hS.F ht⟩) hS.2.2 d_Mo_joined_169
      · intro back exit zz hB_20 hE_20 h H locs ls hP hD hS hl
        obtain ⟨x2_20, x3_20⟩ := zz
        have hP : va_P D cls9 (wd_Mo_joined cA a_r r_manner r_above r_below r_nodes r_arcs r_left r_isBest r_arePlateaus u_3 r_a r_b r_ties r_z r_plateaus r_ones r_others r_weights r_there r_hand u_4 u_5 u_6) H := hP
        have hD : va_D A (wd_Mo_joined cA a_r r_manner r_above r_below r_nodes r_arcs r_left r_isBest r_arePlateaus u_3 r_a r_b r_ties r_z r_plateaus r_ones r_others r_weights r_there r_hand u_4 u_5 u_6) := hD
        have hl : lv_has ls 7 [(3, .int x3_20), (2, .int x2_20), (1, .int x1_6), (0, .ref (a_r 0))] := hl
        refine cast (hG _ _ _ _ _ _ _).symm ?_
        refine lv_iload_n hx hb d_Mo_joined_20 rfl (lv_at hl 1 rfl) ?_
        refine lv_iload_n hx hb d_Mo_joined_21 rfl (lv_at hl 0 rfl) ?_
        refine lv_icmp_eq (tgt := 131) hx hb d_Mo_joined_22 (by decide) (fun c_15 => ?_) (fun c_15 => ?_)
        · have h := ifp (c_15) h
          exact cast (hG _ _ _ _ _ _ _) (hE_20 (x2_20, x3_20) h _ _ _ hP hD hS (lv_sub hl [0, 1, 2, 3] rfl))
        · have h := ifn (c_15) h
          refine lv_iload_n hx hb d_Mo_joined_25 rfl (lv_at hl 1 rfl) ?_
          refine lv_istore_n (lv' := [(3, .int x2_20), (2, .int x2_20), (1, .int x1_6), (0, .ref (a_r 0))]) hx hb d_Mo_joined_26 rfl hl (by decide) rfl (fun ls hl => ?_)
          refine lv_iconst (v := 0) hx hb d_Mo_joined_27 (by decide) ?_
          refine lv_istore (lv' := [(4, .int (0 : Int32)), (3, .int x2_20), (2, .int x2_20), (1, .int x1_6), (0, .ref (a_r 0))]) hx hb d_Mo_joined_28 hl (by decide) rfl (fun ls hl => ?_)
          refine cast (hG _ _ _ _ _ _ _) (lp_go2 h (fun zz : Int32 × Int32 => ∀ (H : Heap) (locs : List Loc) (ls : Array Slot), va_P D cls9 (wd_Mo_joined cA a_r r_manner r_above r_below r_nodes r_arcs r_left r_isBest r_arePlateaus u_3 r_a r_b r_ties r_z r_plateaus r_ones r_others r_weights r_there r_hand u_4 u_5 u_6) H → va_D A (wd_Mo_joined cA a_r r_manner r_above r_below r_nodes r_arcs r_left r_isBest r_arePlateaus u_3 r_a r_b r_ties r_z r_plateaus r_ones r_others r_weights r_there r_hand u_4 u_5 u_6) → va_S A s.heap H locs → lv_has ls 7 [(4, .int zz.2), (3, .int x2_20), (2, .int zz.1), (1, .int x1_6), (0, .ref (a_r 0))] → G H locs 0 0 ls 128 []) ?_ (fun zz : Int32 × Int32 => ∀ (H : Heap) (locs : List Loc) (ls : Array Slot), va_P D cls9 (wd_Mo_joined cA a_r r_manner r_above r_below r_nodes r_arcs r_left r_isBest r_arePlateaus u_3 r_a r_b r_ties r_z r_plateaus r_ones r_others r_weights r_there r_hand u_4 u_5 u_6) H → va_D A (wd_Mo_joined cA a_r r_manner r_above r_below r_nodes r_arcs r_left r_isBest r_arePlateaus u_3 r_a r_b r_ties r_z r_plateaus r_ones r_others r_weights r_there r_hand u_4 u_5 u_6) → va_S A s.heap H locs → lv_has ls 7 [(4, .int zz.2), (3, .int x2_20), (2, .int zz.1), (1, .int x1_6), (0, .ref (a_r 0))] → G H locs 0 0 ls 30 []) ?_ _ _ ls hP hD hS (lv_sub hl [0, 1, 2, 3, 4] rfl))
          · intro zz h H locs ls hP hD hS hl
            obtain ⟨x2_30e, x4_30e⟩ := zz
            have hP : va_P D cls9 (wd_Mo_joined cA a_r r_manner r_above r_below r_nodes r_arcs r_left r_isBest r_arePlateaus u_3 r_a r_b r_ties r_z r_plateaus r_ones r_others r_weights r_there r_hand u_4 u_5 u_6) H := hP
            have hD : va_D A (wd_Mo_joined cA a_r r_manner r_above r_below r_nodes r_arcs r_left r_isBest r_arePlateaus u_3 r_a r_b r_ties r_z r_plateaus r_ones r_others r_weights r_there r_hand u_4 u_5 u_6) := hD
            have hl : lv_has ls 7 [(4, .int x4_30e), (3, .int x2_20), (2, .int x2_30e), (1, .int x1_6), (0, .ref (a_r 0))] := hl
            refine cast (hG _ _ _ _ _ _ _).symm ?_
            refine lv_goto (tgt := 20) hx hb d_Mo_joined_128 (by decide) ?_
            exact cast (hG _ _ _ _ _ _ _) (hB_20 (x2_30e, x2_20) h _ _ _ hP hD hS (lv_sub hl [1, 2, 3, 4] rfl))
          · intro back exit zz hB_30 hE_30 h H locs ls hP hD hS hl
            obtain ⟨x2_30, x4_30⟩ := zz
            have hP : va_P D cls9 (wd_Mo_joined cA a_r r_manner r_above r_below r_nodes r_arcs r_left r_isBest r_arePlateaus u_3 r_a r_b r_ties r_z r_plateaus r_ones r_others r_weights r_there r_hand u_4 u_5 u_6) H := hP
            have hD : va_D A (wd_Mo_joined cA a_r r_manner r_above r_below r_nodes r_arcs r_left r_isBest r_arePlateaus u_3 r_a r_b r_ties r_z r_plateaus r_ones r_others r_weights r_there r_hand u_4 u_5 u_6) := hD
            have hl : lv_has ls 7 [(4, .int x4_30), (3, .int x2_20), (2, .int x2_30), (1, .int x1_6), (0, .ref (a_r 0))] := hl
            refine cast (hG _ _ _ _ _ _ _).symm ?_
            refine lv_iload hx hb d_Mo_joined_30 (lv_at hl 0 rfl) ?_
            refine lv_aload_n hx hb d_Mo_joined_32 rfl (lv_at hl 4 rfl) ?_
            refine va_get (ci := 8) (v := .int r_nodes) (C := R_Mo) (T := F_Mo) (N := 36) hx hb hal in_Mo hown hK hP 0 rfl rfl 3 (by decide) (hal _ kw_640) (fun _ h9 => h9) rfl d_Mo_joined_33 ?_
            refine lv_icmp_ge (tgt := 128) hx hb d_Mo_joined_36 (by decide) (fun c_16 => ?_) (fun c_16 => ?_)
            · have h := ifp (c_16) h
              exact cast (hG _ _ _ _ _ _ _) (hE_30 (x2_30, x4_30) h _ _ _ hP hD hS (lv_sub hl [0, 1, 2, 3, 4] rfl))
            · have h := ifn (c_16) h
              refine lv_iconst (v := 0) hx hb d_Mo_joined_39 (by decide) ?_
              refine lv_istore (lv' := [(5, .int (0 : Int32)), (4, .int x4_30), (3, .int x2_20), (2, .int x2_30), (1, .int x1_6), (0, .ref (a_r 0))]) hx hb d_Mo_joined_40 hl (by decide) rfl (fun ls hl => ?_)
              refine cast (hG _ _ _ _ _ _ _) (lp_go2 h (fun zz : Int32 × Int32 => ∀ (H : Heap) (locs : List Loc) (ls : Array Slot), va_P D cls9 (wd_Mo_joined cA a_r r_manner r_above r_below r_nodes r_arcs r_left r_isBest r_arePlateaus u_3 r_a r_b r_ties r_z r_plateaus r_ones r_others r_weights r_there r_hand u_4 u_5 u_6) H → va_D A (wd_Mo_joined cA a_r r_manner r_above r_below r_nodes r_arcs r_left r_isBest r_arePlateaus u_3 r_a r_b r_ties r_z r_plateaus r_ones r_others r_weights r_there r_hand u_4 u_5 u_6) → va_S A s.heap H locs → lv_has ls 7 [(5, .int zz.2), (4, .int x4_30), (3, .int x2_20), (2, .int zz.1), (1, .int x1_6), (0, .ref (a_r 0))] → G H locs 0 0 ls 122 []) ?_ (fun zz : Int32 × Int32 => ∀ (H : Heap) (locs : List Loc) (ls : Array Slot), va_P D cls9 (wd_Mo_joined cA a_r r_manner r_above r_below r_nodes r_arcs r_left r_isBest r_arePlateaus u_3 r_a r_b r_ties r_z r_plateaus r_ones r_others r_weights r_there r_hand u_4 u_5 u_6) H → va_D A (wd_Mo_joined cA a_r r_manner r_above r_below r_nodes r_arcs r_left r_isBest r_arePlateaus u_3 r_a r_b r_ties r_z r_plateaus r_ones r_others r_weights r_there r_hand u_4 u_5 u_6) → va_S A s.heap H locs → lv_has ls 7 [(5, .int zz.2), (4, .int x4_30), (3, .int x2_20), (2, .int zz.1), (1, .int x1_6), (0, .ref (a_r 0))] → G H locs 0 0 ls 42 []) ?_ _ _ ls hP hD hS (lv_sub hl [0, 1, 2, 3, 4, 5] rfl))
              · intro zz h H locs ls hP hD hS hl
                obtain ⟨x2_42e, x5_42e⟩ := zz
                have hP : va_P D cls9 (wd_Mo_joined cA a_r r_manner r_above r_below r_nodes r_arcs r_left r_isBest r_arePlateaus u_3 r_a r_b r_ties r_z r_plateaus r_ones r_others r_weights r_there r_hand u_4 u_5 u_6) H := hP
                have hD : va_D A (wd_Mo_joined cA a_r r_manner r_above r_below r_nodes r_arcs r_left r_isBest r_arePlateaus u_3 r_a r_b r_ties r_z r_plateaus r_ones r_others r_weights r_there r_hand u_4 u_5 u_6) := hD
                have hl : lv_has ls 7 [(5, .int x5_42e), (4, .int x4_30), (3, .int x2_20), (2, .int x2_42e), (1, .int x1_6), (0, .ref (a_r 0))] := hl
                refine cast (hG _ _ _ _ _ _ _).symm ?_
                refine lv_iinc (v := (x4_30 + 1)) (lv' := [(4, .int (x4_30 + 1)), (5, .int x5_42e), (3, .int x2_20), (2, .int x2_42e), (1, .int x1_6), (0, .ref (a_r 0))]) hx hb d_Mo_joined_122 hl (k := 1) rfl rfl (by decide) rfl (fun ls hl => ?_)
                refine lv_goto (tgt := 30) hx hb d_Mo_joined_125 (by decide) ?_
                exact cast (hG _ _ _ _ _ _ _) (hB_30 (x2_42e, (x4_30 + 1)) h _ _ _ hP hD hS (lv_sub hl [0, 2, 3, 4, 5] rfl))
              · intro back exit zz hB_42 hE_42 h H locs ls hP hD hS hl
                obtain ⟨x2_42, x5_42⟩ := zz
                have hP : va_P D cls9 (wd_Mo_joined cA a_r r_manner r_above r_below r_nodes r_arcs r_left r_isBest r_arePlateaus u_3 r_a r_b r_ties r_z r_plateaus r_ones r_others r_weights r_there r_hand u_4 u_5 u_6) H := hP
                have hD : va_D A (wd_Mo_joined cA a_r r_manner r_above r_below r_nodes r_arcs r_left r_isBest r_arePlateaus u_3 r_a r_b r_ties r_z r_plateaus r_ones r_others r_weights r_there r_hand u_4 u_5 u_6) := hD
                have hl : lv_has ls 7 [(5, .int x5_42), (4, .int x4_30), (3, .int x2_20), (2, .int x2_42), (1, .int x1_6), (0, .ref (a_r 0))] := hl
                refine cast (hG _ _ _ _ _ _ _).symm ?_
                refine lv_iload hx hb d_Mo_joined_42 (lv_at hl 0 rfl) ?_
                refine lv_aload_n hx hb d_Mo_joined_44 rfl (lv_at hl 5 rfl) ?_
                refine va_get (ci := 8) (v := .int r_nodes) (C := R_Mo) (T := F_Mo) (N := 36) hx hb hal in_Mo hown hK hP 0 rfl rfl 3 (by decide) (hal _ kw_640) (fun _ h9 => h9) rfl d_Mo_joined_45 ?_
                refine lv_icmp_ge (tgt := 122) hx hb d_Mo_joined_48 (by decide) (fun c_17 => ?_) (fun c_17 => ?_)
                · have h := ifp (c_17) h
                  exact cast (hG _ _ _ _ _ _ _) (hE_42 (x2_42, x5_42) h _ _ _ hP hD hS (lv_sub hl [0, 1, 2, 3, 4, 5] rfl))
                · have h := ifn (c_17) h
                  refine lv_iload_n hx hb d_Mo_joined_51 rfl (lv_at hl 3 rfl) ?_
                  refine lv_iload hx hb d_Mo_joined_52 (lv_at hl 1 rfl) ?_
                  refine lv_ishr hx hb d_Mo_joined_54 ?_
                  refine lv_iconst (v := 1) hx hb d_Mo_joined_55 (by decide) ?_
                  refine lv_iand hx hb d_Mo_joined_56 ?_
                  refine lv_iconst (v := 1) hx hb d_Mo_joined_57 (by decide) ?_
                  refine cast (hG _ _ _ _ _ _ _) (jn_go h (fun zz : Int32 => ∀ (H : Heap) (locs : List Loc) (ls : Array Slot), va_P D cls9 (wd_Mo_joined cA a_r r_manner r_above r_below r_nodes r_arcs r_left r_isBest r_arePlateaus u_3 r_a r_b r_ties r_z r_plateaus r_ones r_others r_weights r_there r_hand u_4 u_5 u_6) H → va_D A (wd_Mo_joined cA a_r r_manner r_above r_below r_nodes r_arcs r_left r_isBest r_arePlateaus u_3 r_a r_b r_ties r_z r_plateaus r_ones r_others r_weights r_there r_hand u_4 u_5 u_6) → va_S A s.heap H locs → lv_has ls 7 [(5, .int x5_42), (4, .int x4_30), (3, .int x2_20), (2, .int x2_42), (1, .int x1_6), (0, .ref (a_r 0))] → G H locs 0 0 ls 98 [.int zz]) ?_ ?_)
                  · intro zz h H locs ls hP hD hS hl
                    obtain ⟨y0_98j, rfl⟩ : ∃ q, q = zz := ⟨_, rfl⟩
                    have hP : va_P D cls9 (wd_Mo_joined cA a_r r_manner r_above r_below r_nodes r_arcs r_left r_isBest r_arePlateaus u_3 r_a r_b r_ties r_z r_plateaus r_ones r_others r_weights r_there r_hand u_4 u_5 u_6) H := hP
                    have hD : va_D A (wd_Mo_joined cA a_r r_manner r_above r_below r_nodes r_arcs r_left r_isBest r_arePlateaus u_3 r_a r_b r_ties r_z r_plateaus r_ones r_others r_weights r_there r_hand u_4 u_5 u_6) := hD
                    have hl : lv_has ls 7 [(5, .int x5_42), (4, .int x4_30), (3, .int x2_20), (2, .int x2_42), (1, .int x1_6), (0, .ref (a_r 0))] := hl
                    refine cast (hG _ _ _ _ _ _ _).symm ?_
                    refine lv_istore (lv' := [(6, .int y0_98j), (5, .int x5_42), (4, .int x4_30), (3, .int x2_20), (2, .int x2_42), (1, .int x1_6), (0, .ref (a_r 0))]) hx hb d_Mo_joined_98 hl (by decide) rfl (fun ls hl => ?_)
                    refine lv_iload_n hx hb d_Mo_joined_100 rfl (lv_at hl 4 rfl) ?_
                    refine lv_iload hx hb d_Mo_joined_101 (lv_at hl 0 rfl) ?_
                    refine lv_if_eq (tgt := 113) hx hb d_Mo_joined_103 (by decide) (fun c_18 => ?_) (fun c_18 => ?_)
                    · have h := ifp (c_18) h
                      refine lv_iconst (v := 0) hx hb d_Mo_joined_113 (by decide) ?_
                      refine lv_ior hx hb d_Mo_joined_114 ?_
                      refine lv_istore_n (lv' := [(2, .int (x2_42 ||| (0 : Int32))), (6, .int y0_98j), (5, .int x5_42), (4, .int x4_30), (3, .int x2_20), (1, .int x1_6), (0, .ref (a_r 0))]) hx hb d_Mo_joined_115 rfl hl (by decide) rfl (fun ls hl => ?_)
                      refine lv_iinc (v := (x5_42 + 1)) (lv' := [(5, .int (x5_42 + 1)), (2, .int (x2_42 ||| (0 : Int32))), (6, .int y0_98j), (4, .int x4_30), (3, .int x2_20), (1, .int x1_6), (0, .ref (a_r 0))]) hx hb d_Mo_joined_116 hl (k := 2) rfl rfl (by decide) rfl (fun ls hl => ?_)
                      refine lv_goto (tgt := 42) hx hb d_Mo_joined_119 (by decide) ?_
                      exact cast (hG _ _ _ _ _ _ _) (hB_42 ((x2_42 ||| (0 : Int32)), (x5_42 + 1)) h _ _ _ hP hD hS (lv_sub hl [0, 3, 4, 1, 5, 6] rfl))
                    · have h := ifn (c_18) h
                      refine lv_iconst (v := 1) hx hb d_Mo_joined_106 (by decide) ?_
                      refine lv_iload hx hb d_Mo_joined_107 (lv_at hl 1 rfl) ?_
                      refine lv_ishl hx hb d_Mo_joined_109 ?_
                      refine lv_goto (tgt := 114) hx hb d_Mo_joined_110 (by decide) ?_
                      refine lv_ior hx hb d_Mo_joined_114 ?_
                      refine lv_istore_n (lv' := [(2, .int (x2_42 ||| ((1 : Int32) <<< (x5_42 &&& 31)))), (6, .int y0_98j), (5, .int x5_42), (4, .int x4_30), (3, .int x2_20), (1, .int x1_6), (0, .ref (a_r 0))]) hx hb d_Mo_joined_115 rfl hl (by decide) rfl (fun ls hl => ?_)
                      refine lv_iinc (v := (x5_42 + 1)) (lv' := [(5, .int (x5_42 + 1)), (2, .int (x2_42 ||| ((1 : Int32) <<< (x5_42 &&& 31)))), (6, .int y0_98j), (4, .int x4_30), (3, .int x2_20), (1, .int x1_6), (0, .ref (a_r 0))]) hx hb d_Mo_joined_116 hl (k := 2) rfl rfl (by decide) rfl (fun ls hl => ?_)
                      refine lv_goto (tgt := 42) hx hb d_Mo_joined_119 (by decide) ?_
                      exact cast (hG _ _ _ _ _ _ _) (hB_42 ((x2_42 ||| ((1 : Int32) <<< (x5_42 &&& 31))), (x5_42 + 1)) h _ _ _ hP hD hS (lv_sub hl [0, 3, 4, 1, 5, 6] rfl))
                  · intro j98 hJ_98 h
                    refine cast (hG _ _ _ _ _ _ _).symm ?_
                    refine cast (hG _ _ _ _ _ _ _) (jn_go h (fun zz : Unit => ∀ (H : Heap) (locs : List Loc) (ls : Array Slot), va_P D cls9 (wd_Mo_joined cA a_r r_manner r_above r_below r_nodes r_arcs r_left r_isBest r_arePlateaus u_3 r_a r_b r_ties r_z r_plateaus r_ones r_others r_weights r_there r_hand u_4 u_5 u_6) H → va_D A (wd_Mo_joined cA a_r r_manner r_above r_below r_nodes r_arcs r_left r_isBest r_arePlateaus u_3 r_a r_b r_ties r_z r_plateaus r_ones r_others r_weights r_there r_hand u_4 u_5 u_6) → va_S A s.heap H locs → lv_has ls 7 [(5, .int x5_42), (4, .int x4_30), (3, .int x2_20), (2, .int x2_42), (1, .int x1_6), (0, .ref (a_r 0))] → G H locs 0 0 ls 97 []) ?_ ?_)
                    · intro zz h H locs ls hP hD hS hl
                      have hP : va_P D cls9 (wd_Mo_joined cA a_r r_manner r_above r_below r_nodes r_arcs r_left r_isBest r_arePlateaus u_3 r_a r_b r_ties r_z r_plateaus r_ones r_others r_weights r_there r_hand u_4 u_5 u_6) H := hP
                      have hD : va_D A (wd_Mo_joined cA a_r r_manner r_above r_below r_nodes r_arcs r_left r_isBest r_arePlateaus u_3 r_a r_b r_ties r_z r_plateaus r_ones r_others r_weights r_there r_hand u_4 u_5 u_6) := hD
                      have hl : lv_has ls 7 [(5, .int x5_42), (4, .int x4_30), (3, .int x2_20), (2, .int x2_42), (1, .int x1_6), (0, .ref (a_r 0))] := hl
                      refine cast (hG _ _ _ _ _ _ _).symm ?_
                      refine lv_iconst (v := 0) hx hb d_Mo_joined_97 (by decide) ?_
                      exact cast (hG _ _ _ _ _ _ _) (hJ_98 (0 : Int32) h _ _ _ hP hD hS (lv_sub hl [0, 1, 2, 3, 4, 5] rfl))
                    · intro j97 hJ_97 h
                      refine cast (hG _ _ _ _ _ _ _).symm ?_
                      refine lv_icmp_ne (tgt := 97) hx hb d_Mo_joined_58 (by decide) (fun c_19 => ?_) (fun c_19 => ?_)
                      · have h := ifn (c_19) h
                        exact cast (hG _ _ _ _ _ _ _) (hJ_97 () h _ _ _ hP hD hS (lv_sub hl [0, 1, 2, 3, 4, 5] rfl))
                      · have h := ifp (c_19) h
                        refine lv_aload_n hx hb d_Mo_joined_61 rfl (lv_at hl 5 rfl) ?_
                        refine va_get (ci := 8) (v := .ref (a_r 7)) (C := R_Mo) (T := F_Mo) (N := 36) hx hb hal in_Mo hown hK hP 0 rfl rfl 14 (by decide) (hal _ kw_651) (fun _ h9 => h9) rfl d_Mo_joined_62 ?_
                        refine lv_bipush (v := 9) hx hb d_Mo_joined_65 (by decide) ?_
                        refine lv_iload hx hb d_Mo_joined_67 (lv_at hl 1 rfl) ?_
                        refine lv_imul hx hb d_Mo_joined_69 ?_
                        refine lv_iload hx hb d_Mo_joined_70 (lv_at hl 0 rfl) ?_
                        refine lv_iadd hx hb d_Mo_joined_72 ?_
                        obtain ⟨g_20, h⟩ := gd h
                        refine va_zald hx hb hK hP 7 2 rfl rfl (inb_in g_20) d_Mo_joined_73 ?_
                        refine lv_if_eq (tgt := 97) hx hb d_Mo_joined_74 (by decide) (fun c_21 => ?_) (fun c_21 => ?_)
                        · have h := ifp (c_21) h
                          exact cast (hG _ _ _ _ _ _ _) (hJ_97 () h _ _ _ hP hD hS (lv_sub hl [0, 1, 2, 3, 4, 5] rfl))
                        · have h := ifn (c_21) h
                          refine lv_aload_n hx hb d_Mo_joined_77 rfl (lv_at hl 5 rfl) ?_
                          refine va_get (ci := 8) (v := .ref (a_r 5)) (C := R_Mo) (T := F_Mo) (N := 36) hx hb hal in_Mo hown hK hP 0 rfl rfl 10 (by decide) (hal _ kw_647) (fun _ h9 => h9) rfl d_Mo_joined_78 ?_
                          refine lv_iload hx hb d_Mo_joined_81 (lv_at hl 0 rfl) ?_
                          obtain ⟨g_22, h⟩ := gd h
                          refine va_iald hx hb hK hP 5 0 rfl rfl (inb_in g_22) d_Mo_joined_83 ?_
                          refine lv_aload_n hx hb d_Mo_joined_84 rfl (lv_at hl 5 rfl) ?_
                          refine va_get (ci := 8) (v := .ref (a_r 5)) (C := R_Mo) (T := F_Mo) (N := 36) hx hb hal in_Mo hown hK hP 0 rfl rfl 10 (by decide) (hal _ kw_647) (fun _ h9 => h9) rfl d_Mo_joined_85 ?_
                          refine lv_iload_n hx hb d_Mo_joined_88 rfl (lv_at hl 4 rfl) ?_
                          obtain ⟨g_23, h⟩ := gd h
                          refine va_iald hx hb hK hP 5 0 rfl rfl (inb_in g_23) d_Mo_joined_89 ?_
                          refine lv_icmp_ne (tgt := 97) hx hb d_Mo_joined_90 (by decide) (fun c_24 => ?_) (fun c_24 => ?_)
                          · have h := ifn (c_24) h
                            exact cast (hG _ _ _ _ _ _ _) (hJ_97 () h _ _ _ hP hD hS (lv_sub hl [0, 1, 2, 3, 4, 5] rfl))
                          · have h := ifp (c_24) h
                            refine lv_iconst (v := 1) hx hb d_Mo_joined_93 (by decide) ?_
                            refine lv_goto (tgt := 98) hx hb d_Mo_joined_94 (by decide) ?_
                            exact cast (hG _ _ _ _ _ _ _) (hJ_98 (1 : Int32) h _ _ _ hP hD hS (lv_sub hl [0, 1, 2, 3, 4, 5] rfl))
def wd_Mo_first (cA : Nat → ClassId) (a_r : Nat → Nat) (r_manner : Int32) (r_above : Int32) (r_below : Int32) (r_nodes : Int32) (r_arcs : Int32) (r_left : Int32) (r_isBest : Int32) (r_arePlateaus : Int32) (r_all : Int64) (r_a : Int64) (r_b : Int64) (r_ties : Int32) (r_z : Int32) (r_plateaus : Int32) (r_walk : Nat → Int32) : va_W := [(a_r 0, .inr (8, [.int r_manner, .int r_above, .int r_below, .int r_nodes, .int r_arcs, .int r_left, .ref (a_r 1), .ref (a_r 2), .ref (a_r 3), .ref (a_r 4), .ref (a_r 5), .int r_isBest, .int r_arePlateaus, .ref (a_r 6), .ref (a_r 7), .ref (a_r 8), .long r_all, .ref (a_r 9), .ref (a_r 10), .long r_a, .long r_b, .ref (a_r 11), .ref (a_r 12), .ref (a_r 13), .ref (a_r 14), .ref (a_r 15), .int r_ties, .ref (a_r 16), .ref (a_r 17), .ref (a_r 18), .int r_z, .int r_plateaus, .ref (a_r 19), .ref (a_r 20), .ref (a_r 21), .ref (a_r 22)])), (a_r 13, .inl (cA 0, 9, .inl r_walk))]
noncomputable def s_Mo_first_2 (r_nodes : Int32) (zz : Int32 × (Nat → Int32)) (back exit : (Int32 × (Nat → Int32)) → Option ((Nat → Int32))) : Option ((Nat → Int32)) :=
  (if r_nodes ≤ zz.1 then (exit (zz.1, zz.2)) else (if inb zz.1 9 then (back ((zz.1 + 1), (upd zz.2 zz.1.toNatClampNeg (0 : Int32)))) else none))
noncomputable def m_Mo_first (r_nodes : Int32) (r_walk : Nat → Int32) : Option ((Nat → Int32)) :=
  (loopC (s_Mo_first_2 r_nodes) (fun z2 : Int32 × (Nat → Int32) => some z2.2) FU ((0 : Int32), r_walk))
set_option maxHeartbeats 4000000 in
set_option maxRecDepth 100000 in
theorem c_Mo_first (l : Launch) (D : va_G) (cA : Nat → ClassId) (a_r : Nat → Nat) (sz : Nat) (r_manner : Int32) (r_above : Int32) (r_below : Int32) (r_nodes : Int32) (r_arcs : Int32) (r_left : Int32) (r_isBest : Int32) (r_arePlateaus : Int32) (r_all : Int64) (r_a : Int64) (r_b : Int64) (r_ties : Int32) (r_z : Int32) (r_plateaus : Int32) (r_walk : Nat → Int32)  (out : (Nat → Int32)) (h : m_Mo_first r_nodes r_walk = some out) : Met l y_Mo_first w_Mo_first ({ frames := 0, cells := 0, slots := 0, locals := 0 }) (va_Pc [.ref (a_r 0)] (fun U => U.heap.size = sz ∧ va_P D cls9 (wd_Mo_first cA a_r r_manner r_above r_below r_nodes r_arcs r_left r_isBest r_arePlateaus r_all r_a r_b r_ties r_z r_plateaus r_walk) U.heap ∧ va_K D cls9 (tys5 cA) U ∧ va_D (fun _ => True) (wd_Mo_first cA a_r r_manner r_above r_below r_nodes r_arcs r_left r_isBest r_arePlateaus r_all r_a r_b r_ties r_z r_plateaus r_walk))) (va_Qv (fun uu : (Nat → Int32) => uu = out) (fun (uu : (Nat → Int32)) (t : State) => va_P D cls9 (wd_Mo_first cA a_r r_manner r_above r_below r_nodes r_arcs r_left r_isBest r_arePlateaus r_all r_a r_b r_ties r_z r_plateaus uu) t.heap ∧ va_K D cls9 (tys5 cA) t ∧ va_D (va_A (wd_Mo_first cA a_r r_manner r_above r_below r_nodes r_arcs r_left r_isBest r_arePlateaus r_all r_a r_b r_ties r_z r_plateaus r_walk) sz) (wd_Mo_first cA a_r r_manner r_above r_below r_nodes r_arcs r_left r_isBest r_arePlateaus r_all r_a r_b r_ties r_z r_plateaus uu)) (va_A (wd_Mo_first cA a_r r_manner r_above r_below r_nodes r_arcs r_left r_isBest r_arePlateaus r_all r_a r_b r_ties r_z r_plateaus r_walk) sz)) 0 0 (va_A (wd_Mo_first cA a_r r_manner r_above r_below r_nodes r_arcs r_left r_isBest r_arePlateaus r_all r_a r_b r_ties r_z r_plateaus r_walk) sz) := by
  refine Met.ofW (cc := b_Mo_first) (maxL := 2) (ret := (Option.none : Option Jvm.ClassFile.FieldType)) (by decide) rfl ?_
  intro p e s m args below meth c s₁ B hml hv
  obtain ⟨rfl, hsz, hP, hK, hD0⟩ := hv
  have hx := B.exec
  have hb := B.bytes
  have hr := B.returns
  have hts := atoms_spec (ws := w_Mo_first) B.pre
  have hal : ∀ w ∈ ALLW, w.before _ s = true := fun w hw => hts w (List.mem_cons_of_mem _ hw)
  have hown : s.vm.findClass R_Mo = some m.cls := findClass_of_methodNamed B.named
  have hlocks := B.notSynchronized
  subst hsz
  have hD := hD0.self (sz := s.heap.size)
  generalize hAe : va_A (wd_Mo_first cA a_r r_manner r_above r_below r_nodes r_arcs r_left r_isBest r_arePlateaus r_all r_a r_b r_ties r_z r_plateaus r_walk) s.heap.size = A at hD ⊢
  have hA : ∀ q : Nat, s.heap.size ≤ q → A q := fun q h => by rw [← hAe]; exact Or.inr h
  have hS : va_S A s.heap s.heap [] := va_S.rf
  have hl := lv_entry ([.ref (a_r 0)]) (n := 2) (Nat.le_of_ble_eq_true rfl)
  rw [lg_entry_eq]
  generalize (lg_sl ([.ref (a_r 0)]) ++ List.replicate (2 - (lg_sl ([.ref (a_r 0)])).length) Slot.unset).toArray = ls at hl ⊢
  have hl : lv_has ls 2 [(0, .ref (a_r 0))] := hl
  refine wg (fun G hG => ?_)
  refine cast (hG _ _ _ _ _ _ _).symm ?_
  obtain ⟨H, locs, hHl, hS⟩ : ∃ (H : Heap) (locs : List Loc), (H = s.heap ∧ locs = []) ∧ va_S A s.heap H locs := ⟨s.heap, [], ⟨rfl, rfl⟩, hS⟩
  have hP : va_P D cls9 (wd_Mo_first cA a_r r_manner r_above r_below r_nodes r_arcs r_left r_isBest r_arePlateaus r_all r_a r_b r_ties r_z r_plateaus r_walk) H := by rw [hHl.1]; exact hP
  rw [← hHl.1, ← hHl.2]
  clear hHl
  refine lv_iconst (v := 0) hx hb d_Mo_first_0 (by decide) ?_
  refine lv_istore_n (lv' := [(1, .int (0 : Int32)), (0, .ref (a_r 0))]) hx hb d_Mo_first_1 rfl hl (by decide) rfl (fun ls hl => ?_)
  refine cast (hG _ _ _ _ _ _ _) (lp_go2 h (fun zz : Int32 × (Nat → Int32) => ∀ (H : Heap) (locs : List Loc) (ls : Array Slot), va_P D cls9 (wd_Mo_first cA a_r r_manner r_above r_below r_nodes r_arcs r_left r_isBest r_arePlateaus r_all r_a r_b r_ties r_z r_plateaus zz.2) H → va_D A (wd_Mo_first cA a_r r_manner r_above r_below r_nodes r_arcs r_left r_isBest r_arePlateaus r_all r_a r_b r_ties r_z r_plateaus zz.2) → va_S A s.heap H locs → lv_has ls 2 [(1, .int zz.1), (0, .ref (a_r 0))] → G H locs 0 0 ls 23 []) ?_ (fun zz : Int32 × (Nat → Int32) => ∀ (H : Heap) (locs : List Loc) (ls : Array Slot), va_P D cls9 (wd_Mo_first cA a_r r_manner r_above r_below r_nodes r_arcs r_left r_isBest r_arePlateaus r_all r_a r_b r_ties r_z r_plateaus zz.2) H → va_D A (wd_Mo_first cA a_r r_manner r_above r_below r_nodes r_arcs r_left r_isBest r_arePlateaus r_all r_a r_b r_ties r_z r_plateaus zz.2) → va_S A s.heap H locs → lv_has ls 2 [(1, .int zz.1), (0, .ref (a_r 0))] → G H locs 0 0 ls 2 []) ?_ _ _ ls hP hD hS (lv_sub hl [0, 1] rfl))
  · intro zz h H locs ls hP hD hS hl
    obtain ⟨x1_2e, r_walk_2e⟩ := zz
    have hP : va_P D cls9 (wd_Mo_first cA a_r r_manner r_above r_below r_nodes r_arcs r_left r_isBest r_arePlateaus r_all r_a r_b r_ties r_z r_plateaus r_walk_2e) H := hP
    have hD : va_D A (wd_Mo_first cA a_r r_manner r_above r_below r_nodes r_arcs r_left r_isBest r_arePlateaus r_all r_a r_b r_ties r_z r_plateaus r_walk_2e) := hD
    have hl : lv_has ls 2 [(1, .int x1_2e), (0, .ref (a_r 0))] := hl
    refine cast (hG _ _ _ _ _ _ _).symm ?_
    exact W.vret hx hb hr (fun t ht hW => ⟨⟨r_walk_2e, rfl, Option.some.inj h, by rw [ht]; exact hP, va_K.moved hW.alike hK, hD⟩, hS.F ht⟩) hS.2.2 d_Mo_first_23
  · intro back exit zz hB_2 hE_2 h H locs ls hP hD hS hl
    obtain ⟨x1_2, r_walk_2⟩ := zz
    have hP : va_P D cls9 (wd_Mo_first cA a_r r_manner r_above r_below r_nodes r_arcs r_left r_isBest r_arePlateaus r_all r_a r_b r_ties r_z r_plateaus r_walk_2) H := hP
    have hD : va_D A (wd_Mo_first cA a_r r_manner r_above r_below r_nodes r_arcs r_left r_isBest r_arePlateaus r_all r_a r_b r_ties r_z r_plateaus r_walk_2) := hD
    have hl : lv_has ls 2 [(1, .int x1_2), (0, .ref (a_r 0))] := hl
    refine cast (hG _ _ _ _ _ _ _).symm ?_
    refine lv_iload_n hx hb d_Mo_first_2 rfl (lv_at hl 0 rfl) ?_
    refine lv_aload_n hx hb d_Mo_first_3 rfl (lv_at hl 1 rfl) ?_
    refine va_get (ci := 8) (v := .int r_nodes) (C := R_Mo) (T := F_Mo) (N := 36) hx hb hal in_Mo hown hK hP 0 rfl rfl 3 (by decide) (hal _ kw_640) (fun _ h9 => h9) rfl d_Mo_first_4 ?_
    refine lv_icmp_ge (tgt := 23) hx hb d_Mo_first_7 (by decide) (fun c_1 => ?_) (fun c_1 => ?_)
    · have h := ifp (c_1) h
      exact cast (hG _ _ _ _ _ _ _) (hE_2 (x1_2, r_walk_2) h _ _ _ hP hD hS (lv_sub hl [0, 1] rfl))
    · have h := ifn (c_1) h
      refine lv_aload_n hx hb d_Mo_first_10 rfl (lv_at hl 1 rfl) ?_
      refine va_get (ci := 8) (v := .ref (a_r 13)) (C := R_Mo) (T := F_Mo) (N := 36) hx hb hal in_Mo hown hK hP 0 rfl rfl 23 (by decide) (hal _ kw_660) (fun _ h9 => h9) rfl d_Mo_first_11 ?_
      refine lv_iload_n hx hb d_Mo_first_14 rfl (lv_at hl 0 rfl) ?_
      refine lv_iconst (v := 0) hx hb d_Mo_first_15 (by decide) ?_
      obtain ⟨g_2, h⟩ := gd h
      refine va_iast hx hb hK hP hD hS 1 0 rfl rfl (inb_in g_2) d_Mo_first_16 (fun H locs hP hD hS => ?_)
      have hP : va_P D cls9 (wd_Mo_first cA a_r r_manner r_above r_below r_nodes r_arcs r_left r_isBest r_arePlateaus r_all r_a r_b r_ties r_z r_plateaus (upd r_walk_2 x1_2.toNatClampNeg (0 : Int32))) H := hP
      have hD : va_D A (wd_Mo_first cA a_r r_manner r_above r_below r_nodes r_arcs r_left r_isBest r_arePlateaus r_all r_a r_b r_ties r_z r_plateaus (upd r_walk_2 x1_2.toNatClampNeg (0 : Int32))) := hD
      refine lv_iinc (v := (x1_2 + 1)) (lv' := [(1, .int (x1_2 + 1)), (0, .ref (a_r 0))]) hx hb d_Mo_first_17 hl (k := 0) rfl rfl (by decide) rfl (fun ls hl => ?_)
      refine lv_goto (tgt := 2) hx hb d_Mo_first_20 (by decide) ?_
      exact cast (hG _ _ _ _ _ _ _) (hB_2 ((x1_2 + 1), (upd r_walk_2 x1_2.toNatClampNeg (0 : Int32))) h _ _ _ hP hD hS (lv_sub hl [0, 1] rfl))
def wd_Mo_next (cA : Nat → ClassId) (a_r : Nat → Nat) (r_manner : Int32) (r_above : Int32) (r_below : Int32) (r_nodes : Int32) (r_arcs : Int32) (r_left : Int32) (r_isBest : Int32) (r_arePlateaus : Int32) (r_all : Int64) (r_a : Int64) (r_b : Int64) (r_ties : Int32) (r_z : Int32) (r_plateaus : Int32) (r_walk : Nat → Int32) : va_W := [(a_r 0, .inr (8, [.int r_manner, .int r_above, .int r_below, .int r_nodes, .int r_arcs, .int r_left, .ref (a_r 1), .ref (a_r 2), .ref (a_r 3), .ref (a_r 4), .ref (a_r 5), .int r_isBest, .int r_arePlateaus, .ref (a_r 6), .ref (a_r 7), .ref (a_r 8), .long r_all, .ref (a_r 9), .ref (a_r 10), .long r_a, .long r_b, .ref (a_r 11), .ref (a_r 12), .ref (a_r 13), .ref (a_r 14), .ref (a_r 15), .int r_ties, .ref (a_r 16), .ref (a_r 17), .ref (a_r 18), .int r_z, .int r_plateaus, .ref (a_r 19), .ref (a_r 20), .ref (a_r 21), .ref (a_r 22)])), (a_r 13, .inl (cA 0, 9, .inl r_walk))]
noncomputable def s_Mo_next_71 (r_nodes : Int32) (zz : Int32 × (Nat → Int32)) (back exit : (Int32 × (Nat → Int32)) → Option (Int32 × (Nat → Int32))) : Option (Int32 × (Nat → Int32)) :=
  (if r_nodes ≤ zz.1 then (exit (zz.1, zz.2)) else (if inb zz.1 9 then (back ((zz.1 + 1), (upd zz.2 zz.1.toNatClampNeg (0 : Int32)))) else none))
noncomputable def s_Mo_next_15 (x1 : Int32) (r_walk : Nat → Int32) (zz : Int32 × Int32) (back exit : (Int32 × Int32) → Option (Int32 × (Nat → Int32))) : Option (Int32 × (Nat → Int32)) :=
  (if x1 ≤ zz.2 then (exit (zz.1, zz.2)) else (if inb zz.2 9 then (if (r_walk zz.2.toNatClampNeg) ≤ zz.1 then (back (zz.1, (zz.2 + 1))) else (back ((r_walk zz.2.toNatClampNeg), (zz.2 + 1)))) else none))
noncomputable def s_Mo_next_7 (r_nodes : Int32) (r_walk : Nat → Int32) (zz : Int32) (back exit : Int32 → Option (Int32 × (Nat → Int32))) : Option (Int32 × (Nat → Int32)) :=
  (if zz ≤ 0 then (exit zz) else (loopC (s_Mo_next_15 zz r_walk) (fun z15 : Int32 × Int32 => (if inb zz 9 then (if z15.1 < (r_walk zz.toNatClampNeg) then (back (zz + (-1))) else (loopC (s_Mo_next_71 r_nodes) (fun z71 : Int32 × (Nat → Int32) => some ((1 : Int32), z71.2)) FU ((zz + (1 : Int32)), (upd r_walk zz.toNatClampNeg ((r_walk zz.toNatClampNeg) + (1 : Int32)))))) else none)) FU ((0 : Int32), (0 : Int32))))
noncomputable def m_Mo_next (r_nodes : Int32) (r_walk : Nat → Int32) : Option (Int32 × (Nat → Int32)) :=
  (loopC (s_Mo_next_7 r_nodes r_walk) (fun z7 : Int32 => some ((0 : Int32), r_walk)) FU (r_nodes - (1 : Int32)))
set_option maxHeartbeats 4000000 in
set_option maxRecDepth 100000 in
theorem c_Mo_next (l : Launch) (D : va_G) (cA : Nat → ClassId) (a_r : Nat → Nat) (sz : Nat) (r_manner : Int32) (r_above : Int32) (r_below : Int32) (r_nodes : Int32) (r_arcs : Int32) (r_left : Int32) (r_isBest : Int32) (r_arePlateaus : Int32) (r_all : Int64) (r_a : Int64) (r_b : Int64) (r_ties : Int32) (r_z : Int32) (r_plateaus : Int32) (r_walk : Nat → Int32)  (out : Int32 × (Nat → Int32)) (h : m_Mo_next r_nodes r_walk = some out) : Met l y_Mo_next w_Mo_next ({ frames := 0, cells := 0, slots := 0, locals := 0 }) (va_Pc [.ref (a_r 0)] (fun U => U.heap.size = sz ∧ va_P D cls9 (wd_Mo_next cA a_r r_manner r_above r_below r_nodes r_arcs r_left r_isBest r_arePlateaus r_all r_a r_b r_ties r_z r_plateaus r_walk) U.heap ∧ va_K D cls9 (tys5 cA) U ∧ va_D (fun _ => True) (wd_Mo_next cA a_r r_manner r_above r_below r_nodes r_arcs r_left r_isBest r_arePlateaus r_all r_a r_b r_ties r_z r_plateaus r_walk))) (va_Qi (fun (rr : Int32) (uu : (Nat → Int32)) => (rr, uu) = out) (fun (uu : (Nat → Int32)) (t : State) => va_P D cls9 (wd_Mo_next cA a_r r_manner r_above r_below r_nodes r_arcs r_left r_isBest r_arePlateaus r_all r_a r_b r_ties r_z r_plateaus uu) t.heap ∧ va_K D cls9 (tys5 cA) t ∧ va_D (va_A (wd_Mo_next cA a_r r_manner r_above r_below r_nodes r_arcs r_left r_isBest r_arePlateaus r_all r_a r_b r_ties r_z r_plateaus r_walk) sz) (wd_Mo_next cA a_r r_manner r_above r_below r_nodes r_arcs r_left r_isBest r_arePlateaus r_all r_a r_b r_ties r_z r_plateaus uu)) (va_A (wd_Mo_next cA a_r r_manner r_above r_below r_nodes r_arcs r_left r_isBest r_arePlateaus r_all r_a r_b r_ties r_z r_plateaus r_walk) sz)) 0 0 (va_A (wd_Mo_next cA a_r r_manner r_above r_below r_nodes r_arcs r_left r_isBest r_arePlateaus r_all r_a r_b r_ties r_z r_plateaus r_walk) sz) := by
  refine Met.ofW (cc := b_Mo_next) (maxL := 4) (ret := (Option.some Jvm.ClassFile.FieldType.boolean)) (by decide) rfl ?_
  intro p e s m args below meth c s₁ B hml hv
  obtain ⟨rfl, hsz, hP, hK, hD0⟩ := hv
  have hx := B.exec
  have hb := B.bytes
  have hr := B.returns
  have hts := atoms_spec (ws := w_Mo_next) B.pre
  have hal : ∀ w ∈ ALLW, w.before _ s = true := fun w hw => hts w (List.mem_cons_of_mem _ hw)
  have hown : s.vm.findClass R_Mo = some m.cls := findClass_of_methodNamed B.named
  have hlocks := B.notSynchronized
  subst hsz
  have hD := hD0.self (sz := s.heap.size)
  generalize hAe : va_A (wd_Mo_next cA a_r r_manner r_above r_below r_nodes r_arcs r_left r_isBest r_arePlateaus r_all r_a r_b r_ties r_z r_plateaus r_walk) s.heap.size = A at hD ⊢
  have hA : ∀ q : Nat, s.heap.size ≤ q → A q := fun q h => by rw [← hAe]; exact Or.inr h
  have hS : va_S A s.heap s.heap [] := va_S.rf
  have hl := lv_entry ([.ref (a_r 0)]) (n := 4) (Nat.le_of_ble_eq_true rfl)
  rw [lg_entry_eq]
  generalize (lg_sl ([.ref (a_r 0)]) ++ List.replicate (4 - (lg_sl ([.ref (a_r 0)])).length) Slot.unset).toArray = ls at hl ⊢
  have hl : lv_has ls 4 [(0, .ref (a_r 0))] := hl
  refine wg (fun G hG => ?_)
  refine cast (hG _ _ _ _ _ _ _).symm ?_
  obtain ⟨H, locs, hHl, hS⟩ : ∃ (H : Heap) (locs : List Loc), (H = s.heap ∧ locs = []) ∧ va_S A s.heap H locs := ⟨s.heap, [], ⟨rfl, rfl⟩, hS⟩
  have hP : va_P D cls9 (wd_Mo_next cA a_r r_manner r_above r_below r_nodes r_arcs r_left r_isBest r_arePlateaus r_all r_a r_b r_ties r_z r_plateaus r_walk) H := by rw [hHl.1]; exact hP
  rw [← hHl.1, ← hHl.2]
  clear hHl
  refine lv_aload_n hx hb d_Mo_next_0 rfl (lv_at hl 0 rfl) ?_
  refine va_get (ci := 8) (v := .int r_nodes) (C := R_Mo) (T := F_Mo) (N := 36) hx hb hal in_Mo hown hK hP 0 rfl rfl 3 (by decide) (hal _ kw_640) (fun _ h9 => h9) rfl d_Mo_next_1 ?_
  refine lv_iconst (v := 1) hx hb d_Mo_next_4 (by decide) ?_
  refine lv_isub hx hb d_Mo_next_5 ?_
  refine lv_istore_n (lv' := [(1, .int (r_nodes - (1 : Int32))), (0, .ref (a_r 0))]) hx hb d_Mo_next_6 rfl hl (by decide) rfl (fun ls hl => ?_)
  refine cast (hG _ _ _ _ _ _ _) (lp_go2 h (fun zz : Int32 => ∀ (H : Heap) (locs : List Loc) (ls : Array Slot), va_P D cls9 (wd_Mo_next cA a_r r_manner r_above r_below r_nodes r_arcs r_left r_isBest r_arePlateaus r_all r_a r_b r_ties r_z r_plateaus r_walk) H → va_D A (wd_Mo_next cA a_r r_manner r_above r_below r_nodes r_arcs r_left r_isBest r_arePlateaus r_all r_a r_b r_ties r_z r_plateaus r_walk) → va_S A s.heap H locs → lv_has ls 4 [(1, .int zz), (0, .ref (a_r 0))] → G H locs 0 0 ls 100 []) ?_ (fun zz : Int32 => ∀ (H : Heap) (locs : List Loc) (ls : Array Slot), va_P D cls9 (wd_Mo_next cA a_r r_manner r_above r_below r_nodes r_arcs r_left r_isBest r_arePlateaus r_all r_a r_b r_ties r_z r_plateaus r_walk) H → va_D A (wd_Mo_next cA a_r r_manner r_above r_below r_nodes r_arcs r_left r_isBest r_arePlateaus r_all r_a r_b r_ties r_z r_plateaus r_walk) → va_S A s.heap H locs → lv_has ls 4 [(1, .int zz), (0, .ref (a_r 0))] → G H locs 0 0 ls 7 []) ?_ _ _ ls hP hD hS (lv_sub hl [0, 1] rfl))
  · intro zz h H locs ls hP hD hS hl
    obtain ⟨x1_7e, rfl⟩ : ∃ q, q = zz := ⟨_, rfl⟩
    have hP : va_P D cls9 (wd_Mo_next cA a_r r_manner r_above r_below r_nodes r_arcs r_left r_isBest r_arePlateaus r_all r_a r_b r_ties r_z r_plateaus r_walk) H := hP
    have hD : va_D A (wd_Mo_next cA a_r r_manner r_above r_below r_nodes r_arcs r_left r_isBest r_arePlateaus r_all r_a r_b r_ties r_z r_plateaus r_walk) := hD
    have hl : lv_has ls 4 [(1, .int x1_7e), (0, .ref (a_r 0))] := hl
    refine cast (hG _ _ _ _ _ _ _).symm ?_
    refine lv_iconst (v := 0) hx hb d_Mo_next_100 (by decide) ?_
    exact W.zret (v := (0 : Int32)) hx hb hr (by decide) (fun t ht hW => ⟨⟨(0 : Int32), r_walk, rfl, Option.some.inj h, by rw [ht]; exact hP, va_K.moved hW.alike hK, hD⟩, hS.F ht⟩) hS.2.2 d_Mo_next_101
  · intro back exit zz hB_7 hE_7 h H locs ls hP hD hS hl
    obtain ⟨x1_7, rfl⟩ : ∃ q, q = zz := ⟨_, rfl⟩
    have hP : va_P D cls9 (wd_Mo_next cA a_r r_manner r_above r_below r_nodes r_arcs r_left r_isBest r_arePlateaus r_all r_a r_b r_ties r_z r_plateaus r_walk) H := hP
    have hD : va_D A (wd_Mo_next cA a_r r_manner r_above r_below r_nodes r_arcs r_left r_isBest r_arePlateaus r_all r_a r_b r_ties r_z r_plateaus r_walk) := hD
    have hl : lv_has ls 4 [(1, .int x1_7), (0, .ref (a_r 0))] := hl
    refine cast (hG _ _ _ _ _ _ _).symm ?_
    refine lv_iload_n hx hb d_Mo_next_7 rfl (lv_at hl 0 rfl) ?_
    refine lv_if_le (tgt := 100) hx hb d_Mo_next_8 (by decide) (fun c_1 => ?_) (fun c_1 => ?_)
    · have h := ifp (c_1) h
      exact cast (hG _ _ _ _ _ _ _) (hE_7 x1_7 h _ _ _ hP hD hS (lv_sub hl [0, 1] rfl))
    · have h := ifn (c_1) h
      refine lv_iconst (v := 0) hx hb d_Mo_next_11 (by decide) ?_
      refine lv_istore_n (lv' := [(2, .int (0 : Int32)), (1, .int x1_7), (0, .ref (a_r 0))]) hx hb d_Mo_next_12 rfl hl (by decide) rfl (fun ls hl => ?_)
      refine lv_iconst (v := 0) hx hb d_Mo_next_13 (by decide) ?_
      refine lv_istore_n (lv' := [(3, .int (0 : Int32)), (2, .int (0 : Int32)), (1, .int x1_7), (0, .ref (a_r 0))]) hx hb d_Mo_next_14 rfl hl (by decide) rfl (fun ls hl => ?_)
      refine cast (hG _ _ _ _ _ _ _) (lp_go2 h (fun zz : Int32 × Int32 => ∀ (H : Heap) (locs : List Loc) (ls : Array Slot), va_P D cls9 (wd_Mo_next cA a_r r_manner r_above r_below r_nodes r_arcs r_left r_isBest r_arePlateaus r_all r_a r_b r_ties r_z r_plateaus r_walk) H → va_D A (wd_Mo_next cA a_r r_manner r_above r_below r_nodes r_arcs r_left r_isBest r_arePlateaus r_all r_a r_b r_ties r_z r_plateaus r_walk) → va_S A s.heap H locs → lv_has ls 4 [(3, .int zz.2), (2, .int zz.1), (1, .int x1_7), (0, .ref (a_r 0))] → G H locs 0 0 ls 47 []) ?_ (fun zz : Int32 × Int32 => ∀ (H : Heap) (locs : List Loc) (ls : Array Slot), va_P D cls9 (wd_Mo_next cA a_r r_manner r_above r_below r_nodes r_arcs r_left r_isBest r_arePlateaus r_all r_a r_b r_ties r_z r_plateaus r_walk) H → va_D A (wd_Mo_next cA a_r r_manner r_above r_below r_nodes r_arcs r_left r_isBest r_arePlateaus r_all r_a r_b r_ties r_z r_plateaus r_walk) → va_S A s.heap H locs → lv_has ls 4 [(3, .int zz.2), (2, .int zz.1), (1, .int x1_7), (0, .ref (a_r 0))] → G H locs 0 0 ls 15 []) ?_ _ _ ls hP hD hS (lv_sub hl [0, 1, 2, 3] rfl))
      · intro zz h H locs ls hP hD hS hl
        obtain ⟨x2_15e, x3_15e⟩ := zz
        have hP : va_P D cls9 (wd_Mo_next cA a_r r_manner r_above r_below r_nodes r_arcs r_left r_isBest r_arePlateaus r_all r_a r_b r_ties r_z r_plateaus r_walk) H := hP
        have hD : va_D A (wd_Mo_next cA a_r r_manner r_above r_below r_nodes r_arcs r_left r_isBest r_arePlateaus r_all r_a r_b r_ties r_z r_plateaus r_walk) := hD
        have hl : lv_has ls 4 [(3, .int x3_15e), (2, .int x2_15e), (1, .int x1_7), (0, .ref (a_r 0))] := hl
        refine cast (hG _ _ _ _ _ _ _).symm ?_
        refine lv_aload_n hx hb d_Mo_next_47 rfl (lv_at hl 3 rfl) ?_
        refine va_get (ci := 8) (v := .ref (a_r 13)) (C := R_Mo) (T := F_Mo) (N := 36) hx hb hal in_Mo hown hK hP 0 rfl rfl 23 (by decide) (hal _ kw_660) (fun _ h9 => h9) rfl d_Mo_next_48 ?_
        refine lv_iload_n hx hb d_Mo_next_51 rfl (lv_at hl 2 rfl) ?_
        obtain ⟨g_2, h⟩ := gd h
        refine va_iald hx hb hK hP 1 0 rfl rfl (inb_in g_2) d_Mo_next_52 ?_
        refine lv_iload_n hx hb d_Mo_next_53 rfl (lv_at hl 1 rfl) ?_
        refine lv_icmp_gt (tgt := 94) hx hb d_Mo_next_54 (by decide) (fun c_3 => ?_) (fun c_3 => ?_)
        · have h := ifp (c_3) h
          refine lv_iinc (v := (x1_7 + (-1))) (lv' := [(1, .int (x1_7 + (-1))), (3, .int x3_15e), (2, .int x2_15e), (0, .ref (a_r 0))]) hx hb d_Mo_next_94 hl (k := 2) rfl rfl (by decide) rfl (fun ls hl => ?_)
          refine lv_goto (tgt := 7) hx hb d_Mo_next_97 (by decide) ?_
          exact cast (hG _ _ _ _ _ _ _) (hB_7 (x1_7 + (-1)) h _ _ _ hP hD hS (lv_sub hl [0, 3] rfl))
        · have h := ifn (c_3) h
          refine lv_aload_n hx hb d_Mo_next_57 rfl (lv_at hl 3 rfl) ?_
          refine va_get (ci := 8) (v := .ref (a_r 13)) (C := R_Mo) (T := F_Mo) (N := 36) hx hb hal in_Mo hown hK hP 0 rfl rfl 23 (by decide) (hal _ kw_660) (fun _ h9 => h9) rfl d_Mo_next_58 ?_
          refine lv_iload_n hx hb d_Mo_next_61 rfl (lv_at hl 2 rfl) ?_
          refine lv_dup2_11 hx hb d_Mo_next_62 rfl rfl ?_
          refine va_iald hx hb hK hP 1 0 rfl rfl (inb_in g_2) d_Mo_next_63 ?_
          refine lv_iconst (v := 1) hx hb d_Mo_next_64 (by decide) ?_
          refine lv_iadd hx hb d_Mo_next_65 ?_
          refine va_iast hx hb hK hP hD hS 1 0 rfl rfl (inb_in g_2) d_Mo_next_66 (fun H locs hP hD hS => ?_)
          have hP : va_P D cls9 (wd_Mo_next cA a_r r_manner r_above r_below r_nodes r_arcs r_left r_isBest r_arePlateaus r_all r_a r_b r_ties r_z r_plateaus (upd r_walk x1_7.toNatClampNeg ((r_walk x1_7.toNatClampNeg) + (1 : Int32)))) H := hP
          have hD : va_D A (wd_Mo_next cA a_r r_manner r_above r_below r_nodes r_arcs r_left r_isBest r_arePlateaus r_all r_a r_b r_ties r_z r_plateaus (upd r_walk x1_7.toNatClampNeg ((r_walk x1_7.toNatClampNeg) + (1 : Int32)))) := hD
          refine lv_iload_n hx hb d_Mo_next_67 rfl (lv_at hl 2 rfl) ?_
          refine lv_iconst (v := 1) hx hb d_Mo_next_68 (by decide) ?_
          refine lv_iadd hx hb d_Mo_next_69 ?_
          refine lv_istore_n (lv' := [(3, .int (x1_7 + (1 : Int32))), (2, .int x2_15e), (1, .int x1_7), (0, .ref (a_r 0))]) hx hb d_Mo_next_70 rfl hl (by decide) rfl (fun ls hl => ?_)
          refine cast (hG _ _ _ _ _ _ _) (lp_go2 h (fun zz : Int32 × (Nat → Int32) => ∀ (H : Heap) (locs : List Loc) (ls : Array Slot), va_P D cls9 (wd_Mo_next cA a_r r_manner r_above r_below r_nodes r_arcs r_left r_isBest r_arePlateaus r_all r_a r_b r_ties r_z r_plateaus zz.2) H → va_D A (wd_Mo_next cA a_r r_manner r_above r_below r_nodes r_arcs r_left r_isBest r_arePlateaus r_all r_a r_b r_ties r_z r_plateaus zz.2) → va_S A s.heap H locs → lv_has ls 4 [(3, .int zz.1), (2, .int x2_15e), (1, .int x1_7), (0, .ref (a_r 0))] → G H locs 0 0 ls 92 []) ?_ (fun zz : Int32 × (Nat → Int32) => ∀ (H : Heap) (locs : List Loc) (ls : Array Slot), va_P D cls9 (wd_Mo_next cA a_r r_manner r_above r_below r_nodes r_arcs r_left r_isBest r_arePlateaus r_all r_a r_b r_ties r_z r_plateaus zz.2) H → va_D A (wd_Mo_next cA a_r r_manner r_above r_below r_nodes r_arcs r_left r_isBest r_arePlateaus r_all r_a r_b r_ties r_z r_plateaus zz.2) → va_S A s.heap H locs → lv_has ls 4 [(3, .int zz.1), (2, .int x2_15e), (1, .int x1_7), (0, .ref (a_r 0))] → G H locs 0 0 ls 71 []) ?_ _ _ ls hP hD hS (lv_sub hl [0, 1, 2, 3] rfl))
          · intro zz h H locs ls hP hD hS hl
            obtain ⟨x3_71e, r_walk_71e⟩ := zz
            have hP : va_P D cls9 (wd_Mo_next cA a_r r_manner r_above r_below r_nodes r_arcs r_left r_isBest r_arePlateaus r_all r_a r_b r_ties r_z r_plateaus r_walk_71e) H := hP
            have hD : va_D A (wd_Mo_next cA a_r r_manner r_above r_below r_nodes r_arcs r_left r_isBest r_arePlateaus r_all r_a r_b r_ties r_z r_plateaus r_walk_71e) := hD
            have hl : lv_has ls 4 [(3, .int x3_71e), (2, .int x2_15e), (1, .int x1_7), (0, .ref (a_r 0))] := hl
            refine cast (hG _ _ _ _ _ _ _).symm ?_
            refine lv_iconst (v := 1) hx hb d_Mo_next_92 (by decide) ?_
            exact W.zret (v := (1 : Int32)) hx hb hr (by decide) (fun t ht hW => ⟨⟨(1 : Int32), r_walk_71e, rfl, Option.some.inj h, by rw [ht]; exact hP, va_K.moved hW.alike hK, hD⟩, hS.F ht⟩) hS.2.2 d_Mo_next_93
          · intro back exit zz hB_71 hE_71 h H locs ls hP hD hS hl
            obtain ⟨x3_71, r_walk_71⟩ := zz
            have hP : va_P D cls9 (wd_Mo_next cA a_r r_manner r_above r_below r_nodes r_arcs r_left r_isBest r_arePlateaus r_all r_a r_b r_ties r_z r_plateaus r_walk_71) H := hP
            have hD : va_D A (wd_Mo_next cA a_r r_manner r_above r_below r_nodes r_arcs r_left r_isBest r_arePlateaus r_all r_a r_b r_ties r_z r_plateaus r_walk_71) := hD
            have hl : lv_has ls 4 [(3, .int x3_71), (2, .int x2_15e), (1, .int x1_7), (0, .ref (a_r 0))] := hl
            refine cast (hG _ _ _ _ _ _ _).symm ?_
            refine lv_iload_n hx hb d_Mo_next_71 rfl (lv_at hl 0 rfl) ?_
            refine lv_aload_n hx hb d_Mo_next_72 rfl (lv_at hl 3 rfl) ?_
            refine va_get (ci := 8) (v := .int r_nodes) (C := R_Mo) (T := F_Mo) (N := 36) hx hb hal in_Mo hown hK hP 0 rfl rfl 3 (by decide) (hal _ kw_640) (fun _ h9 => h9) rfl d_Mo_next_73 ?_
            refine lv_icmp_ge (tgt := 92) hx hb d_Mo_next_76 (by decide) (fun c_4 => ?_) (fun c_4 => ?_)
            · have h := ifp (c_4) h
              exact cast (hG _ _ _ _ _ _ _) (hE_71 (x3_71, r_walk_71) h _ _ _ hP hD hS (lv_sub hl [0, 1, 2, 3] rfl))
            · have h := ifn (c_4) h
              refine lv_aload_n hx hb d_Mo_next_79 rfl (lv_at hl 3 rfl) ?_
              refine va_get (ci := 8) (v := .ref (a_r 13)) (C := R_Mo) (T := F_Mo) (N := 36) hx hb hal in_Mo hown hK hP 0 rfl rfl 23 (by decide) (hal _ kw_660) (fun _ h9 => h9) rfl d_Mo_next_80 ?_
              refine lv_iload_n hx hb d_Mo_next_83 rfl (lv_at hl 0 rfl) ?_
              refine lv_iconst (v := 0) hx hb d_Mo_next_84 (by decide) ?_
              obtain ⟨g_5, h⟩ := gd h
              refine va_iast hx hb hK hP hD hS 1 0 rfl rfl (inb_in g_5) d_Mo_next_85 (fun H locs hP hD hS => ?_)
              have hP : va_P D cls9 (wd_Mo_next cA a_r r_manner r_above r_below r_nodes r_arcs r_left r_isBest r_arePlateaus r_all r_a r_b r_ties r_z r_plateaus (upd r_walk_71 x3_71.toNatClampNeg (0 : Int32))) H := hP
              have hD : va_D A (wd_Mo_next cA a_r r_manner r_above r_below r_nodes r_arcs r_left r_isBest r_arePlateaus r_all r_a r_b r_ties r_z r_plateaus (upd r_walk_71 x3_71.toNatClampNeg (0 : Int32))) := hD
              refine lv_iinc (v := (x3_71 + 1)) (lv' := [(3, .int (x3_71 + 1)), (2, .int x2_15e), (1, .int x1_7), (0, .ref (a_r 0))]) hx hb d_Mo_next_86 hl (k := 0) rfl rfl (by decide) rfl (fun ls hl => ?_)
              refine lv_goto (tgt := 71) hx hb d_Mo_next_89 (by decide) ?_
              exact cast (hG _ _ _ _ _ _ _) (hB_71 ((x3_71 + 1), (upd r_walk_71 x3_71.toNatClampNeg (0 : Int32))) h _ _ _ hP hD hS (lv_sub hl [0, 1, 2, 3] rfl))
      · intro back exit zz hB_15 hE_15 h H locs ls hP hD hS hl
        obtain ⟨x2_15, x3_15⟩ := zz
        have hP : va_P D cls9 (wd_Mo_next cA a_r r_manner r_above r_below r_nodes r_arcs r_left r_isBest r_arePlateaus r_all r_a r_b r_ties r_z r_plateaus r_walk) H := hP
        have hD : va_D A (wd_Mo_next cA a_r r_manner r_above r_below r_nodes r_arcs r_left r_isBest r_arePlateaus r_all r_a r_b r_ties r_z r_plateaus r_walk) := hD
        have hl : lv_has ls 4 [(3, .int x3_15), (2, .int x2_15), (1, .int x1_7), (0, .ref (a_r 0))] := hl
        refine cast (hG _ _ _ _ _ _ _).symm ?_
        refine lv_iload_n hx hb d_Mo_next_15 rfl (lv_at hl 0 rfl) ?_
        refine lv_iload_n hx hb d_Mo_next_16 rfl (lv_at hl 2 rfl) ?_
        refine lv_icmp_ge (tgt := 47) hx hb d_Mo_next_17 (by decide) (fun c_6 => ?_) (fun c_6 => ?_)
        · have h := ifp (c_6) h
          exact cast (hG _ _ _ _ _ _ _) (hE_15 (x2_15, x3_15) h _ _ _ hP hD hS (lv_sub hl [0, 1, 2, 3] rfl))
        · have h := ifn (c_6) h
          refine lv_aload_n hx hb d_Mo_next_20 rfl (lv_at hl 3 rfl) ?_
          refine va_get (ci := 8) (v := .ref (a_r 13)) (C := R_Mo) (T := F_Mo) (N := 36) hx hb hal in_Mo hown hK hP 0 rfl rfl 23 (by decide) (hal _ kw_660) (fun _ h9 => h9) rfl d_Mo_next_21 ?_
          refine lv_iload_n hx hb d_Mo_next_24 rfl (lv_at hl 0 rfl) ?_
          obtain ⟨g_7, h⟩ := gd h
          refine va_iald hx hb hK hP 1 0 rfl rfl (inb_in g_7) d_Mo_next_25 ?_
          refine lv_iload_n hx hb d_Mo_next_26 rfl (lv_at hl 1 rfl) ?_
          refine lv_icmp_le (tgt := 39) hx hb d_Mo_next_27 (by decide) (fun c_8 => ?_) (fun c_8 => ?_)
          · have h := ifp (c_8) h
            refine lv_iload_n hx hb d_Mo_next_39 rfl (lv_at hl 1 rfl) ?_
            refine lv_istore_n (lv' := [(2, .int x2_15), (3, .int x3_15), (1, .int x1_7), (0, .ref (a_r 0))]) hx hb d_Mo_next_40 rfl hl (by decide) rfl (fun ls hl => ?_)
            refine lv_iinc (v := (x3_15 + 1)) (lv' := [(3, .int (x3_15 + 1)), (2, .int x2_15), (1, .int x1_7), (0, .ref (a_r 0))]) hx hb d_Mo_next_41 hl (k := 1) rfl rfl (by decide) rfl (fun ls hl => ?_)
            refine lv_goto (tgt := 15) hx hb d_Mo_next_44 (by decide) ?_
            exact cast (hG _ _ _ _ _ _ _) (hB_15 (x2_15, (x3_15 + 1)) h _ _ _ hP hD hS (lv_sub hl [0, 1, 2, 3] rfl))
          · have h := ifn (c_8) h
            refine lv_aload_n hx hb d_Mo_next_30 rfl (lv_at hl 3 rfl) ?_
            refine va_get (ci := 8) (v := .ref (a_r 13)) (C := R_Mo) (T := F_Mo) (N := 36) hx hb hal in_Mo hown hK hP 0 rfl rfl 23 (by decide) (hal _ kw_660) (fun _ h9 => h9) rfl d_Mo_next_31 ?_
            refine lv_iload_n hx hb d_Mo_next_34 rfl (lv_at hl 0 rfl) ?_
            refine va_iald hx hb hK hP 1 0 rfl rfl (inb_in g_7) d_Mo_next_35 ?_
            refine lv_goto (tgt := 40) hx hb d_Mo_next_36 (by decide) ?_
            refine lv_istore_n (lv' := [(2, .int (r_walk x3_15.toNatClampNeg)), (3, .int x3_15), (1, .int x1_7), (0, .ref (a_r 0))]) hx hb d_Mo_next_40 rfl hl (by decide) rfl (fun ls hl => ?_)
            refine lv_iinc (v := (x3_15 + 1)) (lv' := [(3, .int (x3_15 + 1)), (2, .int (r_walk x3_15.toNatClampNeg)), (1, .int x1_7), (0, .ref (a_r 0))]) hx hb d_Mo_next_41 hl (k := 1) rfl rfl (by decide) rfl (fun ls hl => ?_)
            refine lv_goto (tgt := 15) hx hb d_Mo_next_44 (by decide) ?_
            exact cast (hG _ _ _ _ _ _ _) (hB_15 ((r_walk x3_15.toNatClampNeg), (x3_15 + 1)) h _ _ _ hP hD hS (lv_sub hl [0, 1, 2, 3] rfl))
def wd_Mo_findBest (cA : Nat → ClassId) (a_r : Nat → Nat) (r_manner : Int32) (r_above : Int32) (r_below : Int32) (r_nodes : Int32) (r_arcs : Int32) (r_left : Int32) (r_isBest : Int32) (r_arePlateaus : Int32) (r_all : Int64) (r_a : Int64) (r_b : Int64) (r_ties : Int32) (r_z : Int32) (r_plateaus : Int32) (r_ones : Nat → Int32) (r_others : Nat → Int32) (r_weights : Nat → Int32) (r_there : Nat → Int32) (r_between : Nat → Int32) (r_joins : Nat → Int32) (r_has : Nat → Int32) (r_sums : Nat → Int64) (r_sizes : Nat → Int64) (r_walk : Nat → Int32) (r_bestOf : Nat → Int32) : va_W := [(a_r 0, .inr (8, [.int r_manner, .int r_above, .int r_below, .int r_nodes, .int r_arcs, .int r_left, .ref (a_r 1), .ref (a_r 2), .ref (a_r 3), .ref (a_r 4), .ref (a_r 5), .int r_isBest, .int r_arePlateaus, .ref (a_r 6), .ref (a_r 7), .ref (a_r 8), .long r_all, .ref (a_r 9), .ref (a_r 10), .long r_a, .long r_b, .ref (a_r 11), .ref (a_r 12), .ref (a_r 13), .ref (a_r 14), .ref (a_r 15), .int r_ties, .ref (a_r 16), .ref (a_r 17), .ref (a_r 18), .int r_z, .int r_plateaus, .ref (a_r 19), .ref (a_r 20), .ref (a_r 21), .ref (a_r 22)])), (a_r 1, .inl (cA 0, 36, .inl r_ones)), (a_r 2, .inl (cA 0, 36, .inl r_others)), (a_r 3, .inl (cA 0, 36, .inl r_weights)), (a_r 4, .inl (cA 2, 36, .inl r_there)), (a_r 6, .inl (cA 0, 81, .inl r_between)), (a_r 7, .inl (cA 2, 81, .inl r_joins)), (a_r 8, .inl (cA 0, 9, .inl r_has)), (a_r 9, .inl (cA 1, 9, .inr (.inl r_sums))), (a_r 10, .inl (cA 1, 9, .inr (.inl r_sizes))), (a_r 13, .inl (cA 0, 9, .inl r_walk)), (a_r 15, .inl (cA 0, 9, .inl r_bestOf))]
noncomputable def s_Mo_findBest_47 (r_above : Int32) (r_all : Int64) (r_below : Int32) (r_between : Nat → Int32) (r_has : Nat → Int32) (r_manner : Int32) (r_nodes : Int32) (zz : Int64 × Int64 × Int64 × (Nat → Int32) × (Nat → Int64) × (Nat → Int64) × Int32 × (Nat → Int32)) (back exit : (Int64 × Int64 × Int64 × (Nat → Int32) × (Nat → Int64) × (Nat → Int64) × Int32 × (Nat → Int32)) → Option (Int32 × Int64 × Int64 × Int64 × Int32 × (Nat → Int32) × (Nat → Int32) × (Nat → Int32) × (Nat → Int64) × (Nat → Int64) × (Nat → Int32) × (Nat → Int32))) : Option (Int32 × Int64 × Int64 × Int64 × Int32 × (Nat → Int32) × (Nat → Int32) × (Nat → Int32) × (Nat → Int64) × (Nat → Int64) × (Nat → Int32) × (Nat → Int32)) :=
  ((m_Mo_next r_nodes zz.2.2.2.2.2.2.2).bind (fun r48 : Int32 × (Nat → Int32) => (if r48.1 = 0 then (exit (zz.1, zz.2.1, zz.2.2.1, zz.2.2.2.1, zz.2.2.2.2.1, zz.2.2.2.2.2.1, zz.2.2.2.2.2.2.1, r48.2)) else ((m_Mo_valueOf r_manner r_above r_below r_nodes r_all r_between r_has zz.2.2.2.2.2.1 zz.2.2.2.2.1 r48.2).bind (fun r59 : Int64 × Int64 × Int64 × (Nat → Int64) × (Nat → Int64) => (if r59.1 ≤ zz.1 then (if r59.1 = zz.1 then (back (zz.1, r59.2.1, r59.2.2.1, zz.2.2.2.1, r59.2.2.2.2, r59.2.2.2.1, (zz.2.2.2.2.2.2.1 + (1 : Int32)), r48.2)) else (back (zz.1, r59.2.1, r59.2.2.1, zz.2.2.2.1, r59.2.2.2.2, r59.2.2.2.1, zz.2.2.2.2.2.2.1, r48.2))) else ((m_Mo_copy r_nodes r48.2 zz.2.2.2.1).bind (fun r80 : (Nat → Int32) => (back (r59.1, r59.2.1, r59.2.2.1, r80, r59.2.2.2.2, r59.2.2.2.1, (1 : Int32), r48.2))))))))))
noncomputable def m_Mo_findBest (r_manner : Int32) (r_above : Int32) (r_below : Int32) (r_nodes : Int32) (r_arcs : Int32) (r_isBest : Int32) (r_all : Int64) (r_a : Int64) (r_b : Int64) (r_ties : Int32) (r_ones : Nat → Int32) (r_others : Nat → Int32) (r_weights : Nat → Int32) (r_there : Nat → Int32) (r_between : Nat → Int32) (r_joins : Nat → Int32) (r_has : Nat → Int32) (r_sums : Nat → Int64) (r_sizes : Nat → Int64) (r_walk : Nat → Int32) (r_bestOf : Nat → Int32) : Option (Int32 × Int64 × Int64 × Int64 × Int32 × (Nat → Int32) × (Nat → Int32) × (Nat → Int32) × (Nat → Int64) × (Nat → Int64) × (Nat → Int32) × (Nat → Int32)) :=
  (if r_isBest = 0 then ((m_Mo_weigh r_manner r_arcs r_ones r_others r_weights r_there r_between r_joins r_has).bind (fun r14 : Int64 × (Nat → Int32) × (Nat → Int32) × (Nat → Int32) => ((m_Mo_first r_nodes r_walk).bind (fun r18 : (Nat → Int32) => ((m_Mo_valueOf r_manner r_above r_below r_nodes r14.1 r14.2.1 r14.2.2.2 r_sums r_sizes r18).bind (fun r26 : Int64 × Int64 × Int64 × (Nat → Int64) × (Nat → Int64) => ((m_Mo_copy r_nodes r18 r_bestOf).bind (fun r39 : (Nat → Int32) => (loopC (s_Mo_findBest_47 r_above r14.1 r_below r14.2.1 r14.2.2.2 r_manner r_nodes) (fun z47 : Int64 × Int64 × Int64 × (Nat → Int32) × (Nat → Int64) × (Nat → Int64) × Int32 × (Nat → Int32) => some ((1 : Int32), r14.1, z47.2.1, z47.2.2.1, z47.2.2.2.2.2.2.1, r14.2.1, r14.2.2.1, r14.2.2.2, z47.2.2.2.2.2.1, z47.2.2.2.2.1, z47.2.2.2.2.2.2.2, z47.2.2.2.1)) FU (r26.1, r26.2.1, r26.2.2.1, r39, r26.2.2.2.2, r26.2.2.2.1, (1 : Int32), r18)))))))))) else some (r_isBest, r_all, r_a, r_b, r_ties, r_between, r_joins, r_has, r_sums, r_sizes, r_walk, r_bestOf))
set_option maxHeartbeats 4000000 in
set_option maxRecDepth 100000 in
theorem c_Mo_findBest (l : Launch) (D : va_G) (cA : Nat → ClassId) (a_r : Nat → Nat) (sz : Nat) (r_manner : Int32) (r_above : Int32) (r_below : Int32) (r_nodes : Int32) (r_arcs : Int32) (r_left : Int32) (r_isBest : Int32) (r_arePlateaus : Int32) (r_all : Int64) (r_a : Int64) (r_b : Int64) (r_ties : Int32) (r_z : Int32) (r_plateaus : Int32) (r_ones : Nat → Int32) (r_others : Nat → Int32) (r_weights : Nat → Int32) (r_there : Nat → Int32) (r_between : Nat → Int32) (r_joins : Nat → Int32) (r_has : Nat → Int32) (r_sums : Nat → Int64) (r_sizes : Nat → Int64) (r_walk : Nat → Int32) (r_bestOf : Nat → Int32)  (out : Int32 × Int64 × Int64 × Int64 × Int32 × (Nat → Int32) × (Nat → Int32) × (Nat → Int32) × (Nat → Int64) × (Nat → Int64) × (Nat → Int32) × (Nat → Int32)) (h : m_Mo_findBest r_manner r_above r_below r_nodes r_arcs r_isBest r_all r_a r_b r_ties r_ones r_others r_weights r_there r_between r_joins r_has r_sums r_sizes r_walk r_bestOf = some out) : Met l y_Mo_findBest w_Mo_findBest ({ frames := 2, cells := 0, slots := 0, locals := 46 }) (va_Pc [.ref (a_r 0)] (fun U => U.heap.size = sz ∧ va_P D cls9 (wd_Mo_findBest cA a_r r_manner r_above r_below r_nodes r_arcs r_left r_isBest r_arePlateaus r_all r_a r_b r_ties r_z r_plateaus r_ones r_others r_weights r_there r_between r_joins r_has r_sums r_sizes r_walk r_bestOf) U.heap ∧ va_K D cls9 (tys5 cA) U ∧ va_D (fun _ => True) (wd_Mo_findBest cA a_r r_manner r_above r_below r_nodes r_arcs r_left r_isBest r_arePlateaus r_all r_a r_b r_ties r_z r_plateaus r_ones r_others r_weights r_there r_between r_joins r_has r_sums r_sizes r_walk r_bestOf))) (va_Qv (fun uu : Int32 × Int64 × Int64 × Int64 × Int32 × (Nat → Int32) × (Nat → Int32) × (Nat → Int32) × (Nat → Int64) × (Nat → Int64) × (Nat → Int32) × (Nat → Int32) => uu = out) (fun (uu : Int32 × Int64 × Int64 × Int64 × Int32 × (Nat → Int32) × (Nat → Int32) × (Nat → Int32) × (Nat → Int64) × (Nat → Int64) × (Nat → Int32) × (Nat → Int32)) (t : State) => va_P D cls9 (wd_Mo_findBest cA a_r r_manner r_above r_below r_nodes r_arcs r_left uu.1 r_arePlateaus uu.2.1 uu.2.2.1 uu.2.2.2.1 uu.2.2.2.2.1 r_z r_plateaus r_ones r_others r_weights r_there uu.2.2.2.2.2.1 uu.2.2.2.2.2.2.1 uu.2.2.2.2.2.2.2.1 uu.2.2.2.2.2.2.2.2.1 uu.2.2.2.2.2.2.2.2.2.1 uu.2.2.2.2.2.2.2.2.2.2.1 uu.2.2.2.2.2.2.2.2.2.2.2) t.heap ∧ va_K D cls9 (tys5 cA) t ∧ va_D (va_A (wd_Mo_findBest cA a_r r_manner r_above r_below r_nodes r_arcs r_left r_isBest r_arePlateaus r_all r_a r_b r_ties r_z r_plateaus r_ones r_others r_weights r_there r_between r_joins r_has r_sums r_sizes r_walk r_bestOf) sz) (wd_Mo_findBest cA a_r r_manner r_above r_below r_nodes r_arcs r_left uu.1 r_arePlateaus uu.2.1 uu.2.2.1 uu.2.2.2.1 uu.2.2.2.2.1 r_z r_plateaus r_ones r_others r_weights r_there uu.2.2.2.2.2.1 uu.2.2.2.2.2.2.1 uu.2.2.2.2.2.2.2.1 uu.2.2.2.2.2.2.2.2.1 uu.2.2.2.2.2.2.2.2.2.1 uu.2.2.2.2.2.2.2.2.2.2.1 uu.2.2.2.2.2.2.2.2.2.2.2)) (va_A (wd_Mo_findBest cA a_r r_manner r_above r_below r_nodes r_arcs r_left r_isBest r_arePlateaus r_all r_a r_b r_ties r_z r_plateaus r_ones r_others r_weights r_there r_between r_joins r_has r_sums r_sizes r_walk r_bestOf) sz)) 0 0 (va_A (wd_Mo_findBest cA a_r r_manner r_above r_below r_nodes r_arcs r_left r_isBest r_arePlateaus r_all r_a r_b r_ties r_z r_plateaus r_ones r_others r_weights r_there r_between r_joins r_has r_sums r_sizes r_walk r_bestOf) sz) := by
  refine Met.ofW (cc := b_Mo_findBest) (maxL := 5) (ret := (Option.none : Option Jvm.ClassFile.FieldType)) (by decide) rfl ?_
  intro p e s m args below meth c s₁ B hml hv
  obtain ⟨rfl, hsz, hP, hK, hD0⟩ := hv
  have hx := B.exec
  have hb := B.bytes
  have hr := B.returns
  have hts := atoms_spec (ws := w_Mo_findBest) B.pre
  have hal : ∀ w ∈ ALLW, w.before _ s = true := fun w hw => hts w (List.mem_cons_of_mem _ hw)
  have hown : s.vm.findClass R_Mo = some m.cls := findClass_of_methodNamed B.named
  have hlocks := B.notSynchronized
  subst hsz
  have hD := hD0.self (sz := s.heap.size)
  generalize hAe : va_A (wd_Mo_findBest cA a_r r_manner r_above r_below r_nodes r_arcs r_left r_isBest r_arePlateaus r_all r_a r_b r_ties r_z r_plateaus r_ones r_others r_weights r_there r_between r_joins r_has r_sums r_sizes r_walk r_bestOf) s.heap.size = A at hD ⊢
  have hA : ∀ q : Nat, s.heap.size ≤ q → A q := fun q h => by rw [← hAe]; exact Or.inr h
  have hS : va_S A s.heap s.heap [] := va_S.rf
  have hl := lv_entry ([.ref (a_r 0)]) (n := 5) (Nat.le_of_ble_eq_true rfl)
  rw [lg_entry_eq]
  generalize (lg_sl ([.ref (a_r 0)]) ++ List.replicate (5 - (lg_sl ([.ref (a_r 0)])).length) Slot.unset).toArray = ls at hl ⊢
  have hl : lv_has ls 5 [(0, .ref (a_r 0))] := hl
  refine wg (fun G hG => ?_)
  refine cast (hG _ _ _ _ _ _ _).symm ?_
  obtain ⟨H, locs, hHl, hS⟩ : ∃ (H : Heap) (locs : List Loc), (H = s.heap ∧ locs = []) ∧ va_S A s.heap H locs := ⟨s.heap, [], ⟨rfl, rfl⟩, hS⟩
  have hP : va_P D cls9 (wd_Mo_findBest cA a_r r_manner r_above r_below r_nodes r_arcs r_left r_isBest r_arePlateaus r_all r_a r_b r_ties r_z r_plateaus r_ones r_others r_weights r_there r_between r_joins r_has r_sums r_sizes r_walk r_bestOf) H := by rw [hHl.1]; exact hP
  rw [← hHl.1, ← hHl.2]
  clear hHl
  refine lv_aload_n hx hb d_Mo_findBest_0 rfl (lv_at hl 0 rfl) ?_
  refine va_get (ci := 8) (v := .int r_isBest) (C := R_Mo) (T := F_Mo) (N := 36) hx hb hal in_Mo hown hK hP 0 rfl rfl 11 (by decide) (hal _ kw_648) (fun _ h9 => h9) rfl d_Mo_findBest_1 ?_
  refine lv_if_eq (tgt := 8) hx hb d_Mo_findBest_4 (by decide) (fun c_1 => ?_) (fun c_1 => ?_)
  · have h := ifp (c_1) h
    refine lv_aload_n hx hb d_Mo_findBest_8 rfl (lv_at hl 0 rfl) ?_
    refine lv_iconst (v := 1) hx hb d_Mo_findBest_9 (by decide) ?_
    refine va_put (ci := 8) (v := .int (1 : Int32)) (ty := .boolean) (C := R_Mo) (T := F_Mo) (N := 36) hx hb hal in_Mo t_Mo t_Mo_ok n_Mo hown hK hP hD hS 0 rfl rfl 11 (by decide) (hal _ kw_648) (fun _ h9 => h9) rfl (by decide +kernel) (by decide) (by decide) (Nat.le_of_ble_eq_true rfl) d_Mo_findBest_10 (fun H locs hP hD hS => ?_)
    have hP : va_P D cls9 (wd_Mo_findBest cA a_r r_manner r_above r_below r_nodes r_arcs r_left (1 : Int32) r_arePlateaus r_all r_a r_b r_ties r_z r_plateaus r_ones r_others r_weights r_there r_between r_joins r_has r_sums r_sizes r_walk r_bestOf) H := hP
    have hD : va_D A (wd_Mo_findBest cA a_r r_manner r_above r_below r_nodes r_arcs r_left (1 : Int32) r_arePlateaus r_all r_a r_b r_ties r_z r_plateaus r_ones r_others r_weights r_there r_between r_joins r_has r_sums r_sizes r_walk r_bestOf) := hD
    refine lv_aload_n hx hb d_Mo_findBest_13 rfl (lv_at hl 0 rfl) ?_
    obtain ⟨o_9, hc_8, h⟩ := bd h
    have hPc := hP.sub (ws' := (wd_Mo_weigh cA a_r r_manner r_above r_below r_nodes r_arcs r_left (1 : Int32) r_arePlateaus r_all r_a r_b r_ties r_z r_plateaus r_ones r_others r_weights r_there r_between r_joins r_has)) [0, 1, 2, 3, 4, 5, 6, 7] rfl
    have hDc := hD.sub (ws' := (wd_Mo_weigh cA a_r r_manner r_above r_below r_nodes r_arcs r_left (1 : Int32) r_arePlateaus r_all r_a r_b r_ties r_z r_plateaus r_ones r_others r_weights r_there r_between r_joins r_has)) [0, 1, 2, 3, 4, 5, 6, 7] (by decide) rfl
    have hFc := va_free (wc := (wd_Mo_weigh cA a_r r_manner r_above r_below r_nodes r_arcs r_left (1 : Int32) r_arePlateaus r_all r_a r_b r_ties r_z r_plateaus r_ones r_others r_weights r_there r_between r_joins r_has)) hD hS hA [0, 1, 2, 3, 4, 5, 6, 7] rfl
    refine va_callv (va_runV (C := R_Mo) (As := []) (rest := []) ⟨hx, hb, hml, hown, hal⟩ (c_Mo_weigh l D cA a_r H.size r_manner r_above r_below r_nodes r_arcs r_left (1 : Int32) r_arePlateaus r_all r_a r_b r_ties r_z r_plateaus r_ones r_others r_weights r_there r_between r_joins r_has o_9 hc_8) (cwV 0 hal (goodV kw_803 kw_805 kw_p30 kw_9 kw_806) rfl rfl rfl (by decide +kernel) ⟨Nat.le_of_ble_eq_true rfl, Nat.le_of_ble_eq_true rfl⟩) ⟨fun a U g mk q => by obtain ⟨q0, q1, qP, qK, qD⟩ := q; exact ⟨q0, q1, qP, va_K.moved (u := U) (U := U.calling g mk a) (Vm.Alike.refl U.vm) qK, qD⟩, va_recv hK hP (ci := 8) (q0 := 0) rfl rfl, fun U hU hW => ⟨rfl, by rw [hU], by rw [hU]; exact hPc, va_K.moved hW.alike hK, hDc.weaken (fun _ _ _ _ => trivial)⟩⟩ rfl rfl hl.1 rfl (lv_room (Nat.le_of_ble_eq_true rfl)) d_Mo_findBest_14 ⟨Nat.le_of_ble_eq_true rfl, Nat.le_of_ble_eq_true rfl⟩) hS (fun q _ h => hFc q h) hFc (fun u t H1 locs ht hvm hw hB hz1 hk1 hS => ?_)
    obtain ⟨u_4, u_5, u_6, u_7⟩ := u
    subst hw
    obtain ⟨hP1, hK1, hD1⟩ := hB
    rw [ht] at hP1
    have hP1 : va_P D cls9 (wd_Mo_weigh cA a_r r_manner r_above r_below r_nodes r_arcs r_left (1 : Int32) r_arePlateaus u_4 r_a r_b r_ties r_z r_plateaus r_ones r_others r_weights r_there u_5 u_6 u_7) H1 := hP1
    obtain ⟨hP, hD⟩ := va_join (wr := ([8, 9, 10, 11] : List Nat).filterMap (fun i => (wd_Mo_findBest cA a_r r_manner r_above r_below r_nodes r_arcs r_left (1 : Int32) r_arePlateaus r_all r_a r_b r_ties r_z r_plateaus r_ones r_others r_weights r_there r_between r_joins r_has r_sums r_sizes r_walk r_bestOf)[i]?)) (w1 := (wd_Mo_weigh cA a_r r_manner r_above r_below r_nodes r_arcs r_left (1 : Int32) r_arePlateaus u_4 r_a r_b r_ties r_z r_plateaus r_ones r_others r_weights r_there u_5 u_6 u_7)) hP hD [0, 1, 2, 3, 4, 5, 6, 7] [8, 9, 10, 11] rfl rfl (by decide) (by decide) hk1 hFc hP1 hD1
    generalize H1 = H at hP hS ⊢
    have hP : va_P D cls9 (wd_Mo_findBest cA a_r r_manner r_above r_below r_nodes r_arcs r_left (1 : Int32) r_arePlateaus u_4 r_a r_b r_ties r_z r_plateaus r_ones r_others r_weights r_there u_5 u_6 u_7 r_sums r_sizes r_walk r_bestOf) H := hP.sub [4, 5, 6, 7, 8, 9, 10, 11, 0, 1, 2, 3] rfl
    have hD : va_D A (wd_Mo_findBest cA a_r r_manner r_above r_below r_nodes r_arcs r_left (1 : Int32) r_arePlateaus u_4 r_a r_b r_ties r_z r_plateaus r_ones r_others r_weights r_there u_5 u_6 u_7 r_sums r_sizes r_walk r_bestOf) := hD.sub [4, 5, 6, 7, 8, 9, 10, 11, 0, 1, 2, 3] (by decide) rfl
    refine lv_aload_n hx hb d_Mo_findBest_17 rfl (lv_at hl 0 rfl) ?_
    obtain ⟨o_14, hc_13, h⟩ := bd h
    have hPc := hP.sub (ws' := (wd_Mo_first cA a_r r_manner r_above r_below r_nodes r_arcs r_left (1 : Int32) r_arePlateaus u_4 r_a r_b r_ties r_z r_plateaus r_walk)) [0, 10] rfl
    have hDc := hD.sub (ws' := (wd_Mo_first cA a_r r_manner r_above r_below r_nodes r_arcs r_left (1 : Int32) r_arePlateaus u_4 r_a r_b r_ties r_z r_plateaus r_walk)) [0, 10] (by decide) rfl
    have hFc := va_free (wc := (wd_Mo_first cA a_r r_manner r_above r_below r_nodes r_arcs r_left (1 : Int32) r_arePlateaus u_4 r_a r_b r_ties r_z r_plateaus r_walk)) hD hS hA [0, 10] rfl
    refine va_callv (va_runV (C := R_Mo) (As := []) (rest := []) ⟨hx, hb, hml, hown, hal⟩ (c_Mo_first l D cA a_r H.size r_manner r_above r_below r_nodes r_arcs r_left (1 : Int32) r_arePlateaus u_4 r_a r_b r_ties r_z r_plateaus r_walk o_14 hc_13) (cwV 0 hal (goodV kw_865 kw_867 kw_p39 kw_9 kw_868) rfl rfl rfl (by decide +kernel) ⟨Nat.le_of_ble_eq_true rfl, Nat.le_of_ble_eq_true rfl⟩) ⟨fun a U g mk q => by obtain ⟨q0, q1, qP, qK, qD⟩ := q; exact ⟨q0, q1, qP, va_K.moved (u := U) (U := U.calling g mk a) (Vm.Alike.refl U.vm) qK, qD⟩, va_recv hK hP (ci := 8) (q0 := 0) rfl rfl, fun U hU hW => ⟨rfl, by rw [hU], by rw [hU]; exact hPc, va_K.moved hW.alike hK, hDc.weaken (fun _ _ _ _ => trivial)⟩⟩ rfl rfl hl.1 rfl (lv_room (Nat.le_of_ble_eq_true rfl)) d_Mo_findBest_18 ⟨Nat.le_of_ble_eq_true rfl, Nat.le_of_ble_eq_true rfl⟩) hS (fun q _ h => hFc q h) hFc (fun u t H1 locs ht hvm hw hB hz1 hk1 hS => ?_)
    obtain ⟨u_12, rfl⟩ : ∃ q, q = u := ⟨_, rfl⟩
    subst hw
    obtain ⟨hP1, hK1, hD1⟩ := hB
    rw [ht] at hP1
    have hP1 : va_P D cls9 (wd_Mo_first cA a_r r_manner r_above r_below r_nodes r_arcs r_left (1 : Int32) r_arePlateaus u_4 r_a r_b r_ties r_z r_plateaus u_12) H1 := hP1
    obtain ⟨hP, hD⟩ := va_join (wr := ([1, 2, 3, 4, 5, 6, 7, 8, 9, 11] : List Nat).filterMap (fun i => (wd_Mo_findBest cA a_r r_manner r_above r_below r_nodes r_arcs r_left (1 : Int32) r_arePlateaus u_4 r_a r_b r_ties r_z r_plateaus r_ones r_others r_weights r_there u_5 u_6 u_7 r_sums r_sizes r_walk r_bestOf)[i]?)) (w1 := (wd_Mo_first cA a_r r_manner r_above r_below r_nodes r_arcs r_left (1 : Int32) r_arePlateaus u_4 r_a r_b r_ties r_z r_plateaus u_12)) hP hD [0, 10] [1, 2, 3, 4, 5, 6, 7, 8, 9, 11] rfl rfl (by decide) (by decide) hk1 hFc hP1 hD1
    generalize H1 = H at hP hS ⊢
    have hP : va_P D cls9 (wd_Mo_findBest cA a_r r_manner r_above r_below r_nodes r_arcs r_left (1 : Int32) r_arePlateaus u_4 r_a r_b r_ties r_z r_plateaus r_ones r_others r_weights r_there u_5 u_6 u_7 r_sums r_sizes u_12 r_bestOf) H := hP.sub [10, 0, 1, 2, 3, 4, 5, 6, 7, 8, 11, 9] rfl
    have hD : va_D A (wd_Mo_findBest cA a_r r_manner r_above r_below r_nodes r_arcs r_left (1 : Int32) r_arePlateaus u_4 r_a r_b r_ties r_z r_plateaus r_ones r_others r_weights r_there u_5 u_6 u_7 r_sums r_sizes u_12 r_bestOf) := hD.sub [10, 0, 1, 2, 3, 4, 5, 6, 7, 8, 11, 9] (by decide) rfl
    refine lv_aload_n hx hb d_Mo_findBest_21 rfl (lv_at hl 0 rfl) ?_
    refine lv_aload_n hx hb d_Mo_findBest_22 rfl (lv_at hl 0 rfl) ?_
    refine va_get (ci := 8) (v := .ref (a_r 13)) (C := R_Mo) (T := F_Mo) (N := 36) hx hb hal in_Mo hown hK hP 0 rfl rfl 23 (by decide) (hal _ kw_660) (fun _ h9 => h9) rfl d_Mo_findBest_23 ?_
    obtain ⟨o_22, hc_21, h⟩ := bd h
    have hPc := hP.sub (ws' := (wd_Mo_valueOf cA a_r (fun _ => a_r 13) r_manner r_above r_below r_nodes r_arcs r_left (1 : Int32) r_arePlateaus u_4 r_a r_b r_ties r_z r_plateaus u_5 u_7 r_sums r_sizes u_12)) [0, 5, 7, 8, 9, 10] rfl
    have hDc := hD.sub (ws' := (wd_Mo_valueOf cA a_r (fun _ => a_r 13) r_manner r_above r_below r_nodes r_arcs r_left (1 : Int32) r_arePlateaus u_4 r_a r_b r_ties r_z r_plateaus u_5 u_7 r_sums r_sizes u_12)) [0, 5, 7, 8, 9, 10] (by decide) rfl
    have hFc := va_free (wc := (wd_Mo_valueOf cA a_r (fun _ => a_r 13) r_manner r_above r_below r_nodes r_arcs r_left (1 : Int32) r_arePlateaus u_4 r_a r_b r_ties r_z r_plateaus u_5 u_7 r_sums r_sizes u_12)) hD hS hA [0, 5, 7, 8, 9, 10] rfl
    refine va_calll (va_runV (C := R_Mo) (As := [.ref (a_r 13)]) (rest := []) ⟨hx, hb, hml, hown, hal⟩ (c_Mo_valueOf l D cA a_r (fun _ => a_r 13) H.size r_manner r_above r_below r_nodes r_arcs r_left (1 : Int32) r_arePlateaus u_4 r_a r_b r_ties r_z r_plateaus u_5 u_7 r_sums r_sizes u_12 o_22 hc_21) (cwV 1 hal (goodV kw_811 kw_813 kw_p32 kw_9 kw_814) rfl rfl rfl (by decide +kernel) ⟨Nat.le_of_ble_eq_true rfl, Nat.le_of_ble_eq_true rfl⟩) ⟨fun a U g mk q => by obtain ⟨q0, q1, qP, qK, qD⟩ := q; exact ⟨q0, q1, qP, va_K.moved (u := U) (U := U.calling g mk a) (Vm.Alike.refl U.vm) qK, qD⟩, va_recv hK hP (ci := 8) (q0 := 0) rfl rfl, fun U hU hW => ⟨rfl, by rw [hU], by rw [hU]; exact hPc, va_K.moved hW.alike hK, hDc.weaken (fun _ _ _ _ => trivial)⟩⟩ rfl rfl hl.1 rfl (lv_room (Nat.le_of_ble_eq_true rfl)) d_Mo_findBest_26 ⟨Nat.le_of_ble_eq_true rfl, Nat.le_of_ble_eq_true rfl⟩) hS (fun q _ h => hFc q h) hFc (fun r_16 u t H1 locs ht hvm hw hB hz1 hk1 hS => ?_)
    obtain ⟨u_17, u_18, u_19, u_20⟩ := u
    subst hw
    obtain ⟨hP1, hK1, hD1⟩ := hB
    rw [ht] at hP1
    have hP1 : va_P D cls9 (wd_Mo_valueOf cA a_r (fun _ => a_r 13) r_manner r_above r_below r_nodes r_arcs r_left (1 : Int32) r_arePlateaus u_4 u_17 u_18 r_ties r_z r_plateaus u_5 u_7 u_19 u_20 u_12) H1 := hP1
    obtain ⟨hP, hD⟩ := va_join (wr := ([1, 2, 3, 4, 6, 11] : List Nat).filterMap (fun i => (wd_Mo_findBest cA a_r r_manner r_above r_below r_nodes r_arcs r_left (1 : Int32) r_arePlateaus u_4 r_a r_b r_ties r_z r_plateaus r_ones r_others r_weights r_there u_5 u_6 u_7 r_sums r_sizes u_12 r_bestOf)[i]?)) (w1 := (wd_Mo_valueOf cA a_r (fun _ => a_r 13) r_manner r_above r_below r_nodes r_arcs r_left (1 : Int32) r_arePlateaus u_4 u_17 u_18 r_ties r_z r_plateaus u_5 u_7 u_19 u_20 u_12)) hP hD [0, 5, 7, 8, 9, 10] [1, 2, 3, 4, 6, 11] rfl rfl (by decide) (by decide) hk1 hFc hP1 hD1
    generalize H1 = H at hP hS ⊢
    have hP : va_P D cls9 (wd_Mo_findBest cA a_r r_manner r_above r_below r_nodes r_arcs r_left (1 : Int32) r_arePlateaus u_4 u_17 u_18 r_ties r_z r_plateaus r_ones r_others r_weights r_there u_5 u_6 u_7 u_19 u_20 u_12 r_bestOf) H := hP.sub [6, 0, 1, 2, 3, 7, 4, 8, 9, 10, 11, 5] rfl
    have hD : va_D A (wd_Mo_findBest cA a_r r_manner r_above r_below r_nodes r_arcs r_left (1 : Int32) r_arePlateaus u_4 u_17 u_18 r_ties r_z r_plateaus r_ones r_others r_weights r_there u_5 u_6 u_7 u_19 u_20 u_12 r_bestOf) := hD.sub [6, 0, 1, 2, 3, 7, 4, 8, 9, 10, 11, 5] (by decide) rfl
    refine lv_lstore_n (lv' := [(1, .long r_16), (0, .ref (a_r 0))]) hx hb d_Mo_findBest_29 rfl hl (by decide) rfl (fun ls hl => ?_)
    refine lv_aload_n hx hb d_Mo_findBest_30 rfl (lv_at hl 1 rfl) ?_
    refine lv_aload_n hx hb d_Mo_findBest_31 rfl (lv_at hl 1 rfl) ?_
    refine va_get (ci := 8) (v := .ref (a_r 13)) (C := R_Mo) (T := F_Mo) (N := 36) hx hb hal in_Mo hown hK hP 0 rfl rfl 23 (by decide) (hal _ kw_660) (fun _ h9 => h9) rfl d_Mo_findBest_32 ?_
    refine lv_aload_n hx hb d_Mo_findBest_35 rfl (lv_at hl 1 rfl) ?_
    refine va_get (ci := 8) (v := .ref (a_r 15)) (C := R_Mo) (T := F_Mo) (N := 36) hx hb hal in_Mo hown hK hP 0 rfl rfl 25 (by decide) (hal _ kw_662) (fun _ h9 => h9) rfl d_Mo_findBest_36 ?_
    obtain ⟨o_27, hc_26, h⟩ := bd h
    have hPc := hP.sub (ws' := (wd_Mo_copy cA a_r (fun _ => a_r 13) (fun _ => a_r 15) r_manner r_above r_below r_nodes r_arcs r_left (1 : Int32) r_arePlateaus u_4 u_17 u_18 r_ties r_z r_plateaus u_12 r_bestOf)) [0, 10, 11] rfl
    have hDc := hD.sub (ws' := (wd_Mo_copy cA a_r (fun _ => a_r 13) (fun _ => a_r 15) r_manner r_above r_below r_nodes r_arcs r_left (1 : Int32) r_arePlateaus u_4 u_17 u_18 r_ties r_z r_plateaus u_12 r_bestOf)) [0, 10, 11] (by decide) rfl
    have hFc := va_free (wc := (wd_Mo_copy cA a_r (fun _ => a_r 13) (fun _ => a_r 15) r_manner r_above r_below r_nodes r_arcs r_left (1 : Int32) r_arePlateaus u_4 u_17 u_18 r_ties r_z r_plateaus u_12 r_bestOf)) hD hS hA [0, 10, 11] rfl
    refine va_callv (va_runV (C := R_Mo) (As := [.ref (a_r 13), .ref (a_r 15)]) (rest := []) ⟨hx, hb, hml, hown, hal⟩ (c_Mo_copy l D cA a_r (fun _ => a_r 13) (fun _ => a_r 15) H.size r_manner r_above r_below r_nodes r_arcs r_left (1 : Int32) r_arePlateaus u_4 u_17 u_18 r_ties r_z r_plateaus u_12 r_bestOf o_27 hc_26) (cwV 2 hal (goodV kw_833 kw_835 kw_p35 kw_9 kw_836) rfl rfl rfl (by decide +kernel) ⟨Nat.le_of_ble_eq_true rfl, Nat.le_of_ble_eq_true rfl⟩) ⟨fun a U g mk q => by obtain ⟨q0, q1, qP, qK, qD⟩ := q; exact ⟨q0, q1, qP, va_K.moved (u := U) (U := U.calling g mk a) (Vm.Alike.refl U.vm) qK, qD⟩, va_recv hK hP (ci := 8) (q0 := 0) rfl rfl, fun U hU hW => ⟨rfl, by rw [hU], by rw [hU]; exact hPc, va_K.moved hW.alike hK, hDc.weaken (fun _ _ _ _ => trivial)⟩⟩ rfl rfl hl.1 rfl (lv_room (Nat.le_of_ble_eq_true rfl)) d_Mo_findBest_39 ⟨Nat.le_of_ble_eq_true rfl, Nat.le_of_ble_eq_true rfl⟩) hS (fun q _ h => hFc q h) hFc (fun u t H1 locs ht hvm hw hB hz1 hk1 hS => ?_)
    obtain ⟨u_25, rfl⟩ : ∃ q, q = u := ⟨_, rfl⟩
    subst hw
    obtain ⟨hP1, hK1, hD1⟩ := hB
    rw [ht] at hP1
    have hP1 : va_P D cls9 (wd_Mo_copy cA a_r (fun _ => a_r 13) (fun _ => a_r 15) r_manner r_above r_below r_nodes r_arcs r_left (1 : Int32) r_arePlateaus u_4 u_17 u_18 r_ties r_z r_plateaus u_12 u_25) H1 := hP1
    obtain ⟨hP, hD⟩ := va_join (wr := ([1, 2, 3, 4, 5, 6, 7, 8, 9] : List Nat).filterMap (fun i => (wd_Mo_findBest cA a_r r_manner r_above r_below r_nodes r_arcs r_left (1 : Int32) r_arePlateaus u_4 u_17 u_18 r_ties r_z r_plateaus r_ones r_others r_weights r_there u_5 u_6 u_7 u_19 u_20 u_12 r_bestOf)[i]?)) (w1 := (wd_Mo_copy cA a_r (fun _ => a_r 13) (fun _ => a_r 15) r_manner r_above r_below r_nodes r_arcs r_left (1 : Int32) r_arePlateaus u_4 u_17 u_18 r_ties r_z r_plateaus u_12 u_25)) hP hD [0, 10, 11] [1, 2, 3, 4, 5, 6, 7, 8, 9] rfl rfl (by decide) (by decide) hk1 hFc hP1 hD1
    generalize H1 = H at hP hS ⊢
    have hP : va_P D cls9 (wd_Mo_findBest cA a_r r_manner r_above r_below r_nodes r_arcs r_left (1 : Int32) r_arePlateaus u_4 u_17 u_18 r_ties r_z r_plateaus r_ones r_others r_weights r_there u_5 u_6 u_7 u_19 u_20 u_12 u_25) H := hP.sub [9, 0, 1, 2, 3, 4, 5, 6, 7, 8, 10, 11] rfl
    have hD : va_D A (wd_Mo_findBest cA a_r r_manner r_above r_below r_nodes r_arcs r_left (1 : Int32) r_arePlateaus u_4 u_17 u_18 r_ties r_z r_plateaus r_ones r_others r_weights r_there u_5 u_6 u_7 u_19 u_20 u_12 u_25) := hD.sub [9, 0, 1, 2, 3, 4, 5, 6, 7, 8, 10, 11] (by decide) rfl
    refine lv_aload_n hx hb d_Mo_findBest_42 rfl (lv_at hl 1 rfl) ?_
    refine lv_iconst (v := 1) hx hb d_Mo_findBest_43 (by decide) ?_
    refine va_put (ci := 8) (v := .int (1 : Int32)) (ty := .int) (C := R_Mo) (T := F_Mo) (N := 36) hx hb hal in_Mo t_Mo t_Mo_ok n_Mo hown hK hP hD hS 0 rfl rfl 26 (by decide) (hal _ kw_663) (fun _ h9 => h9) rfl (by decide +kernel) rfl rfl (Nat.le_of_ble_eq_true rfl) d_Mo_findBest_44 (fun H locs hP hD hS => ?_)
    have hP : va_P D cls9 (wd_Mo_findBest cA a_r r_manner r_above r_below r_nodes r_arcs r_left (1 : Int32) r_arePlateaus u_4 u_17 u_18 (1 : Int32) r_z r_plateaus r_ones r_others r_weights r_there u_5 u_6 u_7 u_19 u_20 u_12 u_25) H := hP
    have hD : va_D A (wd_Mo_findBest cA a_r r_manner r_above r_below r_nodes r_arcs r_left (1 : Int32) r_arePlateaus u_4 u_17 u_18 (1 : Int32) r_z r_plateaus r_ones r_others r_weights r_there u_5 u_6 u_7 u_19 u_20 u_12 u_25) := hD
    refine cast (hG _ _ _ _ _ _ _) (lp_go2 h (fun zz : Int64 × Int64 × Int64 × (Nat → Int32) × (Nat → Int64) × (Nat → Int64) × Int32 × (Nat → Int32) => ∀ (H : Heap) (locs : List Loc) (ls : Array Slot), va_P D cls9 (wd_Mo_findBest cA a_r r_manner r_above r_below r_nodes r_arcs r_left (1 : Int32) r_arePlateaus u_4 zz.2.1 zz.2.2.1 zz.2.2.2.2.2.2.1 r_z r_plateaus r_ones r_others r_weights r_there u_5 u_6 u_7 zz.2.2.2.2.2.1 zz.2.2.2.2.1 zz.2.2.2.2.2.2.2 zz.2.2.2.1) H → va_D A (wd_Mo_findBest cA a_r r_manner r_above r_below r_nodes r_arcs r_left (1 : Int32) r_arePlateaus u_4 zz.2.1 zz.2.2.1 zz.2.2.2.2.2.2.1 r_z r_plateaus r_ones r_others r_weights r_there u_5 u_6 u_7 zz.2.2.2.2.2.1 zz.2.2.2.2.1 zz.2.2.2.2.2.2.2 zz.2.2.2.1) → va_S A s.heap H locs → lv_has ls 5 [(1, .long zz.1), (0, .ref (a_r 0))] → G H locs 0 0 ls 110 []) ?_ (fun zz : Int64 × Int64 × Int64 × (Nat → Int32) × (Nat → Int64) × (Nat → Int64) × Int32 × (Nat → Int32) => ∀ (H : Heap) (locs : List Loc) (ls : Array Slot), va_P D cls9 (wd_Mo_findBest cA a_r r_manner r_above r_below r_nodes r_arcs r_left (1 : Int32) r_arePlateaus u_4 zz.2.1 zz.2.2.1 zz.2.2.2.2.2.2.1 r_z r_plateaus r_ones r_others r_weights r_there u_5 u_6 u_7 zz.2.2.2.2.2.1 zz.2.2.2.2.1 zz.2.2.2.2.2.2.2 zz.2.2.2.1) H → va_D A (wd_Mo_findBest cA a_r r_manner r_above r_below r_nodes r_arcs r_left (1 : Int32) r_arePlateaus u_4 zz.2.1 zz.2.2.1 zz.2.2.2.2.2.2.1 r_z r_plateaus r_ones r_others r_weights r_there u_5 u_6 u_7 zz.2.2.2.2.2.1 zz.2.2.2.2.1 zz.2.2.2.2.2.2.2 zz.2.2.2.1) → va_S A s.heap H locs → lv_has ls 5 [(1, .long zz.1), (0, .ref (a_r 0))] → G H locs 0 0 ls 47 []) ?_ _ _ ls hP hD hS (lv_sub hl [0, 1] rfl))
    · intro zz h H locs ls hP hD hS hl
      obtain ⟨x1_47e, r_a_47e, r_b_47e, r_bestOf_47e, r_sizes_47e, r_sums_47e, r_ties_47e, r_walk_47e⟩ := zz
      have hP : va_P D cls9 (wd_Mo_findBest cA a_r r_manner r_above r_below r_nodes r_arcs r_left (1 : Int32) r_arePlateaus u_4 r_a_47e r_b_47e r_ties_47e r_z r_plateaus r_ones r_others r_weights r_there u_5 u_6 u_7 r_sums_47e r_sizes_47e r_walk_47e r_bestOf_47e) H := hP
      have hD : va_D A (wd_Mo_findBest cA a_r r_manner r_above r_below r_nodes r_arcs r_left (1 : Int32) r_arePlateaus u_4 r_a_47e r_b_47e r_ties_47e r_z r_plateaus r_ones r_others r_weights r_there u_5 u_6 u_7 r_sums_47e r_sizes_47e r_walk_47e r_bestOf_47e) := hD
      have hl : lv_has ls 5 [(1, .long x1_47e), (0, .ref (a_r 0))] := hl
      refine cast (hG _ _ _ _ _ _ _).symm ?_
      exact W.vret hx hb hr (fun t ht hW => ⟨⟨((1 : Int32), u_4, r_a_47e, r_b_47e, r_ties_47e, u_5, u_6, u_7, r_sums_47e, r_sizes_47e, r_walk_47e, r_bestOf_47e), rfl, Option.some.inj h, by rw [ht]; exact hP, va_K.moved hW.alike hK, hD⟩, hS.F ht⟩) hS.2.2 d_Mo_findBest_110
    · intro back exit zz hB_47 hE_47 h H locs ls hP hD hS hl
      obtain ⟨x1_47, r_a_47, r_b_47, r_bestOf_47, r_sizes_47, r_sums_47, r_ties_47, r_walk_47⟩ := zz
      have hP : va_P D cls9 (wd_Mo_findBest cA a_r r_manner r_above r_below r_nodes r_arcs r_left (1 : Int32) r_arePlateaus u_4 r_a_47 r_b_47 r_ties_47 r_z r_plateaus r_ones r_others r_weights r_there u_5 u_6 u_7 r_sums_47 r_sizes_47 r_walk_47 r_bestOf_47) H := hP
      have hD : va_D A (wd_Mo_findBest cA a_r r_manner r_above r_below r_nodes r_arcs r_left (1 : Int32) r_arePlateaus u_4 r_a_47 r_b_47 r_ties_47 r_z r_plateaus r_ones r_others r_weights r_there u_5 u_6 u_7 r_sums_47 r_sizes_47 r_walk_47 r_bestOf_47) := hD
      have hl : lv_has ls 5 [(1, .long x1_47), (0, .ref (a_r 0))] := hl
      refine cast (hG _ _ _ _ _ _ _).symm ?_
      refine lv_aload_n hx hb d_Mo_findBest_47 rfl (lv_at hl 1 rfl) ?_
      obtain ⟨o_32, hc_31, h⟩ := bd h
      have hPc := hP.sub (ws' := (wd_Mo_next cA a_r r_manner r_above r_below r_nodes r_arcs r_left (1 : Int32) r_arePlateaus u_4 r_a_47 r_b_47 r_ties_47 r_z r_plateaus r_walk_47)) [0, 10] rfl
      have hDc := hD.sub (ws' := (wd_Mo_next cA a_r r_manner r_above r_below r_nodes r_arcs r_left (1 : Int32) r_arePlateaus u_4 r_a_47 r_b_47 r_ties_47 r_z r_plateaus r_walk_47)) [0, 10] (by decide) rfl
      have hFc := va_free (wc := (wd_Mo_next cA a_r r_manner r_above r_below r_nodes r_arcs r_left (1 : Int32) r_arePlateaus u_4 r_a_47 r_b_47 r_ties_47 r_z r_plateaus r_walk_47)) hD hS hA [0, 10] rfl
      refine va_calli (va_runV (C := R_Mo) (As := []) (rest := []) ⟨hx, hb, hml, hown, hal⟩ (c_Mo_next l D cA a_r H.size r_manner r_above r_below r_nodes r_arcs r_left (1 : Int32) r_arePlateaus u_4 r_a_47 r_b_47 r_ties_47 r_z r_plateaus r_walk_47 o_32 hc_31) (cwV 0 hal (goodV kw_869 kw_871 kw_p40 kw_9 kw_872) rfl rfl rfl (by decide +kernel) ⟨Nat.le_of_ble_eq_true rfl, Nat.le_of_ble_eq_true rfl⟩) ⟨fun a U g mk q => by obtain ⟨q0, q1, qP, qK, qD⟩ := q; exact ⟨q0, q1, qP, va_K.moved (u := U) (U := U.calling g mk a) (Vm.Alike.refl U.vm) qK, qD⟩, va_recv hK hP (ci := 8) (q0 := 0) rfl rfl, fun U hU hW => ⟨rfl, by rw [hU], by rw [hU]; exact hPc, va_K.moved hW.alike hK, hDc.weaken (fun _ _ _ _ => trivial)⟩⟩ rfl rfl hl.1 rfl (lv_room (Nat.le_of_ble_eq_true rfl)) d_Mo_findBest_48 ⟨Nat.le_of_ble_eq_true rfl, Nat.le_of_ble_eq_true rfl⟩) hS (fun q _ h => hFc q h) hFc (fun r_29 u t H1 locs ht hvm hw hB hz1 hk1 hS => ?_)
      obtain ⟨u_30, rfl⟩ : ∃ q, q = u := ⟨_, rfl⟩
      subst hw
      obtain ⟨hP1, hK1, hD1⟩ := hB
      rw [ht] at hP1
      have hP1 : va_P D cls9 (wd_Mo_next cA a_r r_manner r_above r_below r_nodes r_arcs r_left (1 : Int32) r_arePlateaus u_4 r_a_47 r_b_47 r_ties_47 r_z r_plateaus u_30) H1 := hP1
      obtain ⟨hP, hD⟩ := va_join (wr := ([1, 2, 3, 4, 5, 6, 7, 8, 9, 11] : List Nat).filterMap (fun i => (wd_Mo_findBest cA a_r r_manner r_above r_below r_nodes r_arcs r_left (1 : Int32) r_arePlateaus u_4 r_a_47 r_b_47 r_ties_47 r_z r_plateaus r_ones r_others r_weights r_there u_5 u_6 u_7 r_sums_47 r_sizes_47 r_walk_47 r_bestOf_47)[i]?)) (w1 := (wd_Mo_next cA a_r r_manner r_above r_below r_nodes r_arcs r_left (1 : Int32) r_arePlateaus u_4 r_a_47 r_b_47 r_ties_47 r_z r_plateaus u_30)) hP hD [0, 10] [1, 2, 3, 4, 5, 6, 7, 8, 9, 11] rfl rfl (by decide) (by decide) hk1 hFc hP1 hD1
      generalize H1 = H at hP hS ⊢
      have hP : va_P D cls9 (wd_Mo_findBest cA a_r r_manner r_above r_below r_nodes r_arcs r_left (1 : Int32) r_arePlateaus u_4 r_a_47 r_b_47 r_ties_47 r_z r_plateaus r_ones r_others r_weights r_there u_5 u_6 u_7 r_sums_47 r_sizes_47 u_30 r_bestOf_47) H := hP.sub [10, 0, 1, 2, 3, 4, 5, 6, 7, 8, 11, 9] rfl
      have hD : va_D A (wd_Mo_findBest cA a_r r_manner r_above r_below r_nodes r_arcs r_left (1 : Int32) r_arePlateaus u_4 r_a_47 r_b_47 r_ties_47 r_z r_plateaus r_ones r_others r_weights r_there u_5 u_6 u_7 r_sums_47 r_sizes_47 u_30 r_bestOf_47) := hD.sub [10, 0, 1, 2, 3, 4, 5, 6, 7, 8, 11, 9] (by decide) rfl
      refine lv_if_eq (tgt := 110) hx hb d_Mo_findBest_51 (by decide) (fun c_33 => ?_) (fun c_33 => ?_)
      · have h := ifp (c_33) h
        exact cast (hG _ _ _ _ _ _ _) (hE_47 (x1_47, r_a_47, r_b_47, r_bestOf_47, r_sizes_47, r_sums_47, r_ties_47, u_30) h _ _ _ hP hD hS (lv_sub hl [0, 1] rfl))
      · have h := ifn (c_33) h
        refine lv_aload_n hx hb d_Mo_findBest_54 rfl (lv_at hl 1 rfl) ?_
        refine lv_aload_n hx hb d_Mo_findBest_55 rfl (lv_at hl 1 rfl) ?_
        refine va_get (ci := 8) (v := .ref (a_r 13)) (C := R_Mo) (T := F_Mo) (N := 36) hx hb hal in_Mo hown hK hP 0 rfl rfl 23 (by decide) (hal _ kw_660) (fun _ h9 => h9) rfl d_Mo_findBest_56 ?_
        obtain ⟨o_41, hc_40, h⟩ := bd h
        have hPc := hP.sub (ws' := (wd_Mo_valueOf cA a_r (fun _ => a_r 13) r_manner r_above r_below r_nodes r_arcs r_left (1 : Int32) r_arePlateaus u_4 r_a_47 r_b_47 r_ties_47 r_z r_plateaus u_5 u_7 r_sums_47 r_sizes_47 u_30)) [0, 5, 7, 8, 9, 10] rfl
        have hDc := hD.sub (ws' := (wd_Mo_valueOf cA a_r (fun _ => a_r 13) r_manner r_above r_below r_nodes r_arcs r_left (1 : Int32) r_arePlateaus u_4 r_a_47 r_b_47 r_ties_47 r_z r_plateaus u_5 u_7 r_sums_47 r_sizes_47 u_30)) [0, 5, 7, 8, 9, 10] (by decide) rfl
        have hFc := va_free (wc := (wd_Mo_valueOf cA a_r (fun _ => a_r 13) r_manner r_above r_below r_nodes r_arcs r_left (1 : Int32) r_arePlateaus u_4 r_a_47 r_b_47 r_ties_47 r_z r_plateaus u_5 u_7 r_sums_47 r_sizes_47 u_30)) hD hS hA [0, 5, 7, 8, 9, 10] rfl
        refine va_calll (va_runV (C := R_Mo) (As := [.ref (a_r 13)]) (rest := []) ⟨hx, hb, hml, hown, hal⟩ (c_Mo_valueOf l D cA a_r (fun _ => a_r 13) H.size r_manner r_above r_below r_nodes r_arcs r_left (1 : Int32) r_arePlateaus u_4 r_a_47 r_b_47 r_ties_47 r_z r_plateaus u_5 u_7 r_sums_47 r_sizes_47 u_30 o_41 hc_40) (cwV 1 hal (goodV kw_811 kw_813 kw_p32 kw_9 kw_814) rfl rfl rfl (by decide +kernel) ⟨Nat.le_of_ble_eq_true rfl, Nat.le_of_ble_eq_true rfl⟩) ⟨fun a U g mk q => by obtain ⟨q0, q1, qP, qK, qD⟩ := q; exact ⟨q0, q1, qP, va_K.moved (u := U) (U := U.calling g mk a) (Vm.Alike.refl U.vm) qK, qD⟩, va_recv hK hP (ci := 8) (q0 := 0) rfl rfl, fun U hU hW => ⟨rfl, by rw [hU], by rw [hU]; exact hPc, va_K.moved hW.alike hK, hDc.weaken (fun _ _ _ _ => trivial)⟩⟩ rfl rfl hl.1 rfl (lv_room (Nat.le_of_ble_eq_true rfl)) d_Mo_findBest_59 ⟨Nat.le_of_ble_eq_true rfl, Nat.le_of_ble_eq_true rfl⟩) hS (fun q _ h => hFc q h) hFc (fun r_35 u t H1 locs ht hvm hw hB hz1 hk1 hS => ?_)
        obtain ⟨u_36, u_37, u_38, u_39⟩ := u
        subst hw
        obtain ⟨hP1, hK1, hD1⟩ := hB
        rw [ht] at hP1
        have hP1 : va_P D cls9 (wd_Mo_valueOf cA a_r (fun _ => a_r 13) r_manner r_above r_below r_nodes r_arcs r_left (1 : Int32) r_arePlateaus u_4 u_36 u_37 r_ties_47 r_z r_plateaus u_5 u_7 u_38 u_39 u_30) H1 := hP1
        obtain ⟨hP, hD⟩ := va_join (wr := ([1, 2, 3, 4, 6, 11] : List Nat).filterMap (fun i => (wd_Mo_findBest cA a_r r_manner r_above r_below r_nodes r_arcs r_left (1 : Int32) r_arePlateaus u_4 r_a_47 r_b_47 r_ties_47 r_z r_plateaus r_ones r_others r_weights r_there u_5 u_6 u_7 r_sums_47 r_sizes_47 u_30 r_bestOf_47)[i]?)) (w1 := (wd_Mo_valueOf cA a_r (fun _ => a_r 13) r_manner r_above r_below r_nodes r_arcs r_left (1 : Int32) r_arePlateaus u_4 u_36 u_37 r_ties_47 r_z r_plateaus u_5 u_7 u_38 u_39 u_30)) hP hD [0, 5, 7, 8, 9, 10] [1, 2, 3, 4, 6, 11] rfl rfl (by decide) (by decide) hk1 hFc hP1 hD1
        generalize H1 = H at hP hS ⊢
        have hP : va_P D cls9 (wd_Mo_findBest cA a_r r_manner r_above r_below r_nodes r_arcs r_left (1 : Int32) r_arePlateaus u_4 u_36 u_37 r_ties_47 r_z r_plateaus r_ones r_others r_weights r_there u_5 u_6 u_7 u_38 u_39 u_30 r_bestOf_47) H := hP.sub [6, 0, 1, 2, 3, 7, 4, 8, 9, 10, 11, 5] rfl
        have hD : va_D A (wd_Mo_findBest cA a_r r_manner r_above r_below r_nodes r_arcs r_left (1 : Int32) r_arePlateaus u_4 u_36 u_37 r_ties_47 r_z r_plateaus r_ones r_others r_weights r_there u_5 u_6 u_7 u_38 u_39 u_30 r_bestOf_47) := hD.sub [6, 0, 1, 2, 3, 7, 4, 8, 9, 10, 11, 5] (by decide) rfl
        refine lv_lstore_n (lv' := [(3, .long r_35), (1, .long x1_47), (0, .ref (a_r 0))]) hx hb d_Mo_findBest_62 rfl hl (by decide) rfl (fun ls hl => ?_)
        refine lv_lload_n hx hb d_Mo_findBest_63 rfl (lv_at hl 0 rfl) ?_
        refine lv_lload_n hx hb d_Mo_findBest_64 rfl (lv_at hl 1 rfl) ?_
        refine W.lcmp hx hb d_Mo_findBest_65 ?_
        refine lv_if_le (tgt := 91) hx hb d_Mo_findBest_66 (by decide) (fun c_42 => ?_) (fun c_42 => ?_)
        · have h := ifp (lc_le.mp (c_42)) h
          refine lv_lload_n hx hb d_Mo_findBest_91 rfl (lv_at hl 0 rfl) ?_
          refine lv_lload_n hx hb d_Mo_findBest_92 rfl (lv_at hl 1 rfl) ?_
          refine W.lcmp hx hb d_Mo_findBest_93 ?_
          refine lv_if_ne (tgt := 107) hx hb d_Mo_findBest_94 (by decide) (fun c_43 => ?_) (fun c_43 => ?_)
          · have h := ifn (fun q => (c_43) (lc_eq.mpr q)) h
            refine lv_goto (tgt := 47) hx hb d_Mo_findBest_107 (by decide) ?_
            exact cast (hG _ _ _ _ _ _ _) (hB_47 (x1_47, u_36, u_37, r_bestOf_47, u_39, u_38, r_ties_47, u_30) h _ _ _ hP hD hS (lv_sub hl [1, 2] rfl))
          · have h := ifp (lc_eq.mp (c_43)) h
            refine lv_aload_n hx hb d_Mo_findBest_97 rfl (lv_at hl 2 rfl) ?_
            refine lv_dup hx hb d_Mo_findBest_98 rfl ?_
            refine va_get (ci := 8) (v := .int r_ties_47) (C := R_Mo) (T := F_Mo) (N := 36) hx hb hal in_Mo hown hK hP 0 rfl rfl 26 (by decide) (hal _ kw_663) (fun _ h9 => h9) rfl d_Mo_findBest_99 ?_
            refine lv_iconst (v := 1) hx hb d_Mo_findBest_102 (by decide) ?_
            refine lv_iadd hx hb d_Mo_findBest_103 ?_
            refine va_put (ci := 8) (v := .int (r_ties_47 + (1 : Int32))) (ty := .int) (C := R_Mo) (T := F_Mo) (N := 36) hx hb hal in_Mo t_Mo t_Mo_ok n_Mo hown hK hP hD hS 0 rfl rfl 26 (by decide) (hal _ kw_663) (fun _ h9 => h9) rfl (by decide +kernel) rfl rfl (Nat.le_of_ble_eq_true rfl) d_Mo_findBest_104 (fun H locs hP hD hS => ?_)
            have hP : va_P D cls9 (wd_Mo_findBest cA a_r r_manner r_above r_below r_nodes r_arcs r_left (1 : Int32) r_arePlateaus u_4 u_36 u_37 (r_ties_47 + (1 : Int32)) r_z r_plateaus r_ones r_others r_weights r_there u_5 u_6 u_7 u_38 u_39 u_30 r_bestOf_47) H := hP
            have hD : va_D A (wd_Mo_findBest cA a_r r_manner r_above r_below r_nodes r_arcs r_left (1 : Int32) r_arePlateaus u_4 u_36 u_37 (r_ties_47 + (1 : Int32)) r_z r_plateaus r_ones r_others r_weights r_there u_5 u_6 u_7 u_38 u_39 u_30 r_bestOf_47) := hD
            refine lv_goto (tgt := 47) hx hb d_Mo_findBest_107 (by decide) ?_
            exact cast (hG _ _ _ _ _ _ _) (hB_47 (x1_47, u_36, u_37, r_bestOf_47, u_39, u_38, (r_ties_47 + (1 : Int32)), u_30) h _ _ _ hP hD hS (lv_sub hl [1, 2] rfl))
        · have h := ifn (fun q => (c_42) (lc_le.mpr q)) h
          refine lv_lload_n hx hb d_Mo_findBest_69 rfl (lv_at hl 0 rfl) ?_
          refine lv_lstore_n (lv' := [(1, .long r_35), (3, .long r_35), (0, .ref (a_r 0))]) hx hb d_Mo_findBest_70 rfl hl (by decide) rfl (fun ls hl => ?_)
          refine lv_aload_n hx hb d_Mo_findBest_71 rfl (lv_at hl 2 rfl) ?_
          refine lv_aload_n hx hb d_Mo_findBest_72 rfl (lv_at hl 2 rfl) ?_
          refine va_get (ci := 8) (v := .ref (a_r 13)) (C := R_Mo) (T := F_Mo) (N := 36) hx hb hal in_Mo hown hK hP 0 rfl rfl 23 (by decide) (hal _ kw_660) (fun _ h9 => h9) rfl d_Mo_findBest_73 ?_
          refine lv_aload_n hx hb d_Mo_findBest_76 rfl (lv_at hl 2 rfl) ?_
          refine va_get (ci := 8) (v := .ref (a_r 15)) (C := R_Mo) (T := F_Mo) (N := 36) hx hb hal in_Mo hown hK hP 0 rfl rfl 25 (by decide) (hal _ kw_662) (fun _ h9 => h9) rfl d_Mo_findBest_77 ?_
          obtain ⟨o_48, hc_47, h⟩ := bd h
          have hPc := hP.sub (ws' := (wd_Mo_copy cA a_r (fun _ => a_r 13) (fun _ => a_r 15) r_manner r_above r_below r_nodes r_arcs r_left (1 : Int32) r_arePlateaus u_4 u_36 u_37 r_ties_47 r_z r_plateaus u_30 r_bestOf_47)) [0, 10, 11] rfl
          have hDc := hD.sub (ws' := (wd_Mo_copy cA a_r (fun _ => a_r 13) (fun _ => a_r 15) r_manner r_above r_below r_nodes r_arcs r_left (1 : Int32) r_arePlateaus u_4 u_36 u_37 r_ties_47 r_z r_plateaus u_30 r_bestOf_47)) [0, 10, 11] (by decide) rfl
          have hFc := va_free (wc := (wd_Mo_copy cA a_r (fun _ => a_r 13) (fun _ => a_r 15) r_manner r_above r_below r_nodes r_arcs r_left (1 : Int32) r_arePlateaus u_4 u_36 u_37 r_ties_47 r_z r_plateaus u_30 r_bestOf_47)) hD hS hA [0, 10, 11] rfl
          refine va_callv (va_runV (C := R_Mo) (As := [.ref (a_r 13), .ref (a_r 15)]) (rest := []) ⟨hx, hb, hml, hown, hal⟩ (c_Mo_copy l D cA a_r (fun _ => a_r 13) (fun _ => a_r 15) H.size r_manner r_above r_below r_nodes r_arcs r_left (1 : Int32) r_arePlateaus u_4 u_36 u_37 r_ties_47 r_z r_plateaus u_30 r_bestOf_47 o_48 hc_47) (cwV 2 hal (goodV kw_833 kw_835 kw_p35 kw_9 kw_836) rfl rfl rfl (by decide +kernel) ⟨Nat.le_of_ble_eq_true rfl, Nat.le_of_ble_eq_true rfl⟩) ⟨fun a U g mk q => by obtain ⟨q0, q1, qP, qK, qD⟩ := q; exact ⟨q0, q1, qP, va_K.moved (u := U) (U := U.calling g mk a) (Vm.Alike.refl U.vm) qK, qD⟩, va_recv hK hP (ci := 8) (q0 := 0) rfl rfl, fun U hU hW => ⟨rfl, by rw [hU], by rw [hU]; exact hPc, va_K.moved hW.alike hK, hDc.weaken (fun _ _ _ _ => trivial)⟩⟩ rfl rfl hl.1 rfl (lv_room (Nat.le_of_ble_eq_true rfl)) d_Mo_findBest_80 ⟨Nat.le_of_ble_eq_true rfl, Nat.le_of_ble_eq_true rfl⟩) hS (fun q _ h => hFc q h) hFc (fun u t H1 locs ht hvm hw hB hz1 hk1 hS => ?_)
          obtain ⟨u_46, rfl⟩ : ∃ q, q = u := ⟨_, rfl⟩
          subst hw
          obtain ⟨hP1, hK1, hD1⟩ := hB
          rw [ht] at hP1
          have hP1 : va_P D cls9 (wd_Mo_copy cA a_r (fun _ => a_r 13) (fun _ => a_r 15) r_manner r_above r_below r_nodes r_arcs r_left (1 : Int32) r_arePlateaus u_4 u_36 u_37 r_ties_47 r_z r_plateaus u_30 u_46) H1 := hP1
          obtain ⟨hP, hD⟩ := va_join (wr := ([1, 2, 3, 4, 5, 6, 7, 8, 9] : List Nat).filterMap (fun i => (wd_Mo_findBest cA a_r r_manner r_above r_below r_nodes r_arcs r_left (1 : Int32) r_arePlateaus u_4 u_36 u_37 r_ties_47 r_z r_plateaus r_ones r_others r_weights r_there u_5 u_6 u_7 u_38 u_39 u_30 r_bestOf_47)[i]?)) (w1 := (wd_Mo_copy cA a_r (fun _ => a_r 13) (fun _ => a_r 15) r_manner r_above r_below r_nodes r_arcs r_left (1 : Int32) r_arePlateaus u_4 u_36 u_37 r_ties_47 r_z r_plateaus u_30 u_46)) hP hD [0, 10, 11] [1, 2, 3, 4, 5, 6, 7, 8, 9] rfl rfl (by decide) (by decide) hk1 hFc hP1 hD1
          generalize H1 = H at hP hS ⊢
          have hP : va_P D cls9 (wd_Mo_findBest cA a_r r_manner r_above r_below r_nodes r_arcs r_left (1 : Int32) r_arePlateaus u_4 u_36 u_37 r_ties_47 r_z r_plateaus r_ones r_others r_weights r_there u_5 u_6 u_7 u_38 u_39 u_30 u_46) H := hP.sub [9, 0, 1, 2, 3, 4, 5, 6, 7, 8, 10, 11] rfl
          have hD : va_D A (wd_Mo_findBest cA a_r r_manner r_above r_below r_nodes r_arcs r_left (1 : Int32) r_arePlateaus u_4 u_36 u_37 r_ties_47 r_z r_plateaus r_ones r_others r_weights r_there u_5 u_6 u_7 u_38 u_39 u_30 u_46) := hD.sub [9, 0, 1, 2, 3, 4, 5, 6, 7, 8, 10, 11] (by decide) rfl
          refine lv_aload_n hx hb d_Mo_findBest_83 rfl (lv_at hl 2 rfl) ?_
          refine lv_iconst (v := 1) hx hb d_Mo_findBest_84 (by decide) ?_
          refine va_put (ci := 8) (v := .int (1 : Int32)) (ty := .int) (C := R_Mo) (T := F_Mo) (N := 36) hx hb hal in_Mo t_Mo t_Mo_ok n_Mo hown hK hP hD hS 0 rfl rfl 26 (by decide) (hal _ kw_663) (fun _ h9 => h9) rfl (by decide +kernel) rfl rfl (Nat.le_of_ble_eq_true rfl) d_Mo_findBest_85 (fun H locs hP hD hS => ?_)
          have hP : va_P D cls9 (wd_Mo_findBest cA a_r r_manner r_above r_below r_nodes r_arcs r_left (1 : Int32) r_arePlateaus u_4 u_36 u_37 (1 : Int32) r_z r_plateaus r_ones r_others r_weights r_there u_5 u_6 u_7 u_38 u_39 u_30 u_46) H := hP
          have hD : va_D A (wd_Mo_findBest cA a_r r_manner r_above r_below r_nodes r_arcs r_left (1 : Int32) r_arePlateaus u_4 u_36 u_37 (1 : Int32) r_z r_plateaus r_ones r_others r_weights r_there u_5 u_6 u_7 u_38 u_39 u_30 u_46) := hD
          refine lv_goto (tgt := 107) hx hb d_Mo_findBest_88 (by decide) ?_
          refine lv_goto (tgt := 47) hx hb d_Mo_findBest_107 (by decide) ?_
          exact cast (hG _ _ _ _ _ _ _) (hB_47 (r_35, u_36, u_37, u_46, u_39, u_38, (1 : Int32), u_30) h _ _ _ hP hD hS (lv_sub hl [0, 2] rfl))
  · have h := ifn (c_1) h
    exact W.vret hx hb hr (fun t ht hW => ⟨⟨(r_isBest, r_all, r_a, r_b, r_ties, r_between, r_joins, r_has, r_sums, r_sizes, r_walk, r_bestOf), rfl, Option.some.inj h, by rw [ht]; exact hP, va_K.moved hW.alike hK, hD⟩, hS.F ht⟩) hS.2.2 d_Mo_findBest_7
def wd_Mo_best (cA : Nat → ClassId) (a_r : Nat → Nat) (r_manner : Int32) (r_above : Int32) (r_below : Int32) (r_nodes : Int32) (r_arcs : Int32) (r_left : Int32) (r_isBest : Int32) (r_arePlateaus : Int32) (r_all : Int64) (r_a : Int64) (r_b : Int64) (r_ties : Int32) (r_z : Int32) (r_plateaus : Int32) (r_ones : Nat → Int32) (r_others : Nat → Int32) (r_weights : Nat → Int32) (r_there : Nat → Int32) (r_hand : Nat → Int32) (r_between : Nat → Int32) (r_joins : Nat → Int32) (r_has : Nat → Int32) (r_sums : Nat → Int64) (r_sizes : Nat → Int64) (r_names : Nat → Int32) (r_walk : Nat → Int32) (r_bestOf : Nat → Int32) : va_W := [(a_r 0, .inr (8, [.int r_manner, .int r_above, .int r_below, .int r_nodes, .int r_arcs, .int r_left, .ref (a_r 1), .ref (a_r 2), .ref (a_r 3), .ref (a_r 4), .ref (a_r 5), .int r_isBest, .int r_arePlateaus, .ref (a_r 6), .ref (a_r 7), .ref (a_r 8), .long r_all, .ref (a_r 9), .ref (a_r 10), .long r_a, .long r_b, .ref (a_r 11), .ref (a_r 12), .ref (a_r 13), .ref (a_r 14), .ref (a_r 15), .int r_ties, .ref (a_r 16), .ref (a_r 17), .ref (a_r 18), .int r_z, .int r_plateaus, .ref (a_r 19), .ref (a_r 20), .ref (a_r 21), .ref (a_r 22)])), (a_r 1, .inl (cA 0, 36, .inl r_ones)), (a_r 2, .inl (cA 0, 36, .inl r_others)), (a_r 3, .inl (cA 0, 36, .inl r_weights)), (a_r 4, .inl (cA 2, 36, .inl r_there)), (a_r 5, .inl (cA 0, 9, .inl r_hand)), (a_r 6, .inl (cA 0, 81, .inl r_between)), (a_r 7, .inl (cA 2, 81, .inl r_joins)), (a_r 8, .inl (cA 0, 9, .inl r_has)), (a_r 9, .inl (cA 1, 9, .inr (.inl r_sums))), (a_r 10, .inl (cA 1, 9, .inr (.inl r_sizes))), (a_r 11, .inl (cA 0, 9, .inl r_names)), (a_r 13, .inl (cA 0, 9, .inl r_walk)), (a_r 15, .inl (cA 0, 9, .inl r_bestOf))]
noncomputable def m_Mo_best (r_manner : Int32) (r_above : Int32) (r_below : Int32) (r_nodes : Int32) (r_arcs : Int32) (r_isBest : Int32) (r_all : Int64) (r_a : Int64) (r_b : Int64) (r_ties : Int32) (r_ones : Nat → Int32) (r_others : Nat → Int32) (r_weights : Nat → Int32) (r_there : Nat → Int32) (r_hand : Nat → Int32) (r_between : Nat → Int32) (r_joins : Nat → Int32) (r_has : Nat → Int32) (r_sums : Nat → Int64) (r_sizes : Nat → Int64) (r_names : Nat → Int32) (r_walk : Nat → Int32) (r_bestOf : Nat → Int32) : Option (Int32 × Int32 × Int64 × Int64 × Int64 × Int32 × (Nat → Int32) × (Nat → Int32) × (Nat → Int32) × (Nat → Int32) × (Nat → Int64) × (Nat → Int64) × (Nat → Int32) × (Nat → Int32) × (Nat → Int32)) :=
  ((m_Mo_findBest r_manner r_above r_below r_nodes r_arcs r_isBest r_all r_a r_b r_ties r_ones r_others r_weights r_there r_between r_joins r_has r_sums r_sizes r_walk r_bestOf).bind (fun r1 : Int32 × Int64 × Int64 × Int64 × Int32 × (Nat → Int32) × (Nat → Int32) × (Nat → Int32) × (Nat → Int64) × (Nat → Int64) × (Nat → Int32) × (Nat → Int32) => ((m_Mo_copy r_nodes r1.2.2.2.2.2.2.2.2.2.2.2 r_hand).bind (fun r13 : (Nat → Int32) => ((m_Mo_number r_nodes r_names r13).bind (fun r21 : Int32 × (Nat → Int32) × (Nat → Int32) => some (r21.1, r1.1, r1.2.1, r1.2.2.1, r1.2.2.2.1, r1.2.2.2.2.1, r21.2.2, r1.2.2.2.2.2.1, r1.2.2.2.2.2.2.1, r1.2.2.2.2.2.2.2.1, r1.2.2.2.2.2.2.2.2.1, r1.2.2.2.2.2.2.2.2.2.1, r21.2.1, r1.2.2.2.2.2.2.2.2.2.2.1, r1.2.2.2.2.2.2.2.2.2.2.2)))))))
set_option maxHeartbeats 4000000 in
set_option maxRecDepth 100000 in
theorem c_Mo_best (l : Launch) (D : va_G) (cA : Nat → ClassId) (a_r : Nat → Nat) (sz : Nat) (r_manner : Int32) (r_above : Int32) (r_below : Int32) (r_nodes : Int32) (r_arcs : Int32) (r_left : Int32) (r_isBest : Int32) (r_arePlateaus : Int32) (r_all : Int64) (r_a : Int64) (r_b : Int64) (r_ties : Int32) (r_z : Int32) (r_plateaus : Int32) (r_ones : Nat → Int32) (r_others : Nat → Int32) (r_weights : Nat → Int32) (r_there : Nat → Int32) (r_hand : Nat → Int32) (r_between : Nat → Int32) (r_joins : Nat → Int32) (r_has : Nat → Int32) (r_sums : Nat → Int64) (r_sizes : Nat → Int64) (r_names : Nat → Int32) (r_walk : Nat → Int32) (r_bestOf : Nat → Int32)  (out : Int32 × Int32 × Int64 × Int64 × Int64 × Int32 × (Nat → Int32) × (Nat → Int32) × (Nat → Int32) × (Nat → Int32) × (Nat → Int64) × (Nat → Int64) × (Nat → Int32) × (Nat → Int32) × (Nat → Int32)) (h : m_Mo_best r_manner r_above r_below r_nodes r_arcs r_isBest r_all r_a r_b r_ties r_ones r_others r_weights r_there r_hand r_between r_joins r_has r_sums r_sizes r_names r_walk r_bestOf = some out) : Met l y_Mo_best w_Mo_best ({ frames := 3, cells := 0, slots := 0, locals := 70 }) (va_Pc [.ref (a_r 0)] (fun U => U.heap.size = sz ∧ va_P D cls9 (wd_Mo_best cA a_r r_manner r_above r_below r_nodes r_arcs r_left r_isBest r_arePlateaus r_all r_a r_b r_ties r_z r_plateaus r_ones r_others r_weights r_there r_hand r_between r_joins r_has r_sums r_sizes r_names r_walk r_bestOf) U.heap ∧ va_K D cls9 (tys5 cA) U ∧ va_D (fun _ => True) (wd_Mo_best cA a_r r_manner r_above r_below r_nodes r_arcs r_left r_isBest r_arePlateaus r_all r_a r_b r_ties r_z r_plateaus r_ones r_others r_weights r_there r_hand r_between r_joins r_has r_sums r_sizes r_names r_walk r_bestOf))) (va_Qi (fun (rr : Int32) (uu : Int32 × Int64 × Int64 × Int64 × Int32 × (Nat → Int32) × (Nat → Int32) × (Nat → Int32) × (Nat → Int32) × (Nat → Int64) × (Nat → Int64) × (Nat → Int32) × (Nat → Int32) × (Nat → Int32)) => (rr, uu) = out) (fun (uu : Int32 × Int64 × Int64 × Int64 × Int32 × (Nat → Int32) × (Nat → Int32) × (Nat → Int32) × (Nat → Int32) × (Nat → Int64) × (Nat → Int64) × (Nat → Int32) × (Nat → Int32) × (Nat → Int32)) (t : State) => va_P D cls9 (wd_Mo_best cA a_r r_manner r_above r_below r_nodes r_arcs r_left uu.1 r_arePlateaus uu.2.1 uu.2.2.1 uu.2.2.2.1 uu.2.2.2.2.1 r_z r_plateaus r_ones r_others r_weights r_there uu.2.2.2.2.2.1 uu.2.2.2.2.2.2.1 uu.2.2.2.2.2.2.2.1 uu.2.2.2.2.2.2.2.2.1 uu.2.2.2.2.2.2.2.2.2.1 uu.2.2.2.2.2.2.2.2.2.2.1 uu.2.2.2.2.2.2.2.2.2.2.2.1 uu.2.2.2.2.2.2.2.2.2.2.2.2.1 uu.2.2.2.2.2.2.2.2.2.2.2.2.2) t.heap ∧ va_K D cls9 (tys5 cA) t ∧ va_D (va_A (wd_Mo_best cA a_r r_manner r_above r_below r_nodes r_arcs r_left r_isBest r_arePlateaus r_all r_a r_b r_ties r_z r_plateaus r_ones r_others r_weights r_there r_hand r_between r_joins r_has r_sums r_sizes r_names r_walk r_bestOf) sz) (wd_Mo_best cA a_r r_manner r_above r_below r_nodes r_arcs r_left uu.1 r_arePlateaus uu.2.1 uu.2.2.1 uu.2.2.2.1 uu.2.2.2.2.1 r_z r_plateaus r_ones r_others r_weights r_there uu.2.2.2.2.2.1 uu.2.2.2.2.2.2.1 uu.2.2.2.2.2.2.2.1 uu.2.2.2.2.2.2.2.2.1 uu.2.2.2.2.2.2.2.2.2.1 uu.2.2.2.2.2.2.2.2.2.2.1 uu.2.2.2.2.2.2.2.2.2.2.2.1 uu.2.2.2.2.2.2.2.2.2.2.2.2.1 uu.2.2.2.2.2.2.2.2.2.2.2.2.2)) (va_A (wd_Mo_best cA a_r r_manner r_above r_below r_nodes r_arcs r_left r_isBest r_arePlateaus r_all r_a r_b r_ties r_z r_plateaus r_ones r_others r_weights r_there r_hand r_between r_joins r_has r_sums r_sizes r_names r_walk r_bestOf) sz)) 0 0 (va_A (wd_Mo_best cA a_r r_manner r_above r_below r_nodes r_arcs r_left r_isBest r_arePlateaus r_all r_a r_b r_ties r_z r_plateaus r_ones r_others r_weights r_there r_hand r_between r_joins r_has r_sums r_sizes r_names r_walk r_bestOf) sz) := by
  refine Met.ofW (cc := b_Mo_best) (maxL := 1) (ret := (Option.some Jvm.ClassFile.FieldType.int)) (by decide) rfl ?_
  intro p e s m args below meth c s₁ B hml hv
  obtain ⟨rfl, hsz, hP, hK, hD0⟩ := hv
  have hx := B.exec
  have hb := B.bytes
  have hr := B.returns
  have hts := atoms_spec (ws := w_Mo_best) B.pre
  have hal : ∀ w ∈ ALLW, w.before _ s = true := fun w hw => hts w (List.mem_cons_of_mem _ hw)
  have hown : s.vm.findClass R_Mo = some m.cls := findClass_of_methodNamed B.named
  have hlocks := B.notSynchronized
  subst hsz
  have hD := hD0.self (sz := s.heap.size)
  generalize hAe : va_A (wd_Mo_best cA a_r r_manner r_above r_below r_nodes r_arcs r_left r_isBest r_arePlateaus r_all r_a r_b r_ties r_z r_plateaus r_ones r_others r_weights r_there r_hand r_between r_joins r_has r_sums r_sizes r_names r_walk r_bestOf) s.heap.size = A at hD ⊢
  have hA : ∀ q : Nat, s.heap.size ≤ q → A q := fun q h => by rw [← hAe]; exact Or.inr h
  have hS : va_S A s.heap s.heap [] := va_S.rf
  have hl := lv_entry ([.ref (a_r 0)]) (n := 1) (Nat.le_of_ble_eq_true rfl)
  rw [lg_entry_eq]
  generalize (lg_sl ([.ref (a_r 0)]) ++ List.replicate (1 - (lg_sl ([.ref (a_r 0)])).length) Slot.unset).toArray = ls at hl ⊢
  have hl : lv_has ls 1 [(0, .ref (a_r 0))] := hl
  refine wg (fun G hG => ?_)
  refine cast (hG _ _ _ _ _ _ _).symm ?_
  obtain ⟨H, locs, hHl, hS⟩ : ∃ (H : Heap) (locs : List Loc), (H = s.heap ∧ locs = []) ∧ va_S A s.heap H locs := ⟨s.heap, [], ⟨rfl, rfl⟩, hS⟩
  have hP : va_P D cls9 (wd_Mo_best cA a_r r_manner r_above r_below r_nodes r_arcs r_left r_isBest r_arePlateaus r_all r_a r_b r_ties r_z r_plateaus r_ones r_others r_weights r_there r_hand r_between r_joins r_has r_sums r_sizes r_names r_walk r_bestOf) H := by rw [hHl.1]; exact hP
  rw [← hHl.1, ← hHl.2]
  clear hHl
  refine lv_aload_n hx hb d_Mo_best_0 rfl (lv_at hl 0 rfl) ?_
  obtain ⟨o_16, hc_15, h⟩ := bd h
  have hPc := hP.sub (ws' := (wd_Mo_findBest cA a_r r_manner r_above r_below r_nodes r_arcs r_left r_isBest r_arePlateaus r_all r_a r_b r_ties r_z r_plateaus r_ones r_others r_weights r_there r_between r_joins r_has r_sums r_sizes r_walk r_bestOf)) [0, 1, 2, 3, 4, 6, 7, 8, 9, 10, 12, 13] rfl
  have hDc := hD.sub (ws' := (wd_Mo_findBest cA a_r r_manner r_above r_below r_nodes r_arcs r_left r_isBest r_arePlateaus r_all r_a r_b r_ties r_z r_plateaus r_ones r_others r_weights r_there r_between r_joins r_has r_sums r_sizes r_walk r_bestOf)) [0, 1, 2, 3, 4, 6, 7, 8, 9, 10, 12, 13] (by decide) rfl
  have hFc := va_free (wc := (wd_Mo_findBest cA a_r r_manner r_above r_below r_nodes r_arcs r_left r_isBest r_arePlateaus r_all r_a r_b r_ties r_z r_plateaus r_ones r_others r_weights r_there r_between r_joins r_has r_sums r_sizes r_walk r_bestOf)) hD hS hA [0, 1, 2, 3, 4, 6, 7, 8, 9, 10, 12, 13] rfl
  refine va_callv (va_runV (C := R_Mo) (As := []) (rest := []) ⟨hx, hb, hml, hown, hal⟩ (c_Mo_findBest l D cA a_r H.size r_manner r_above r_below r_nodes r_arcs r_left r_isBest r_arePlateaus r_all r_a r_b r_ties r_z r_plateaus r_ones r_others r_weights r_there r_between r_joins r_has r_sums r_sizes r_walk r_bestOf o_16 hc_15) (cwV 0 hal (goodV kw_861 kw_863 kw_p38 kw_9 kw_864) rfl rfl rfl (by decide +kernel) ⟨Nat.le_of_ble_eq_true rfl, Nat.le_of_ble_eq_true rfl⟩) ⟨fun a U g mk q => by obtain ⟨q0, q1, qP, qK, qD⟩ := q; exact ⟨q0, q1, qP, va_K.moved (u := U) (U := U.calling g mk a) (Vm.Alike.refl U.vm) qK, qD⟩, va_recv hK hP (ci := 8) (q0 := 0) rfl rfl, fun U hU hW => ⟨rfl, by rw [hU], by rw [hU]; exact hPc, va_K.moved hW.alike hK, hDc.weaken (fun _ _ _ _ => trivial)⟩⟩ rfl rfl hl.1 rfl (lv_room (Nat.le_of_ble_eq_true rfl)) d_Mo_best_1 ⟨Nat.le_of_ble_eq_true rfl, Nat.le_of_ble_eq_true rfl⟩) hS (fun q _ h => hFc q h) hFc (fun u t H1 locs ht hvm hw hB hz1 hk1 hS => ?_)
  obtain ⟨u_3, u_4, u_5, u_6, u_7, u_8, u_9, u_10, u_11, u_12, u_13, u_14⟩ := u
  subst hw
  obtain ⟨hP1, hK1, hD1⟩ := hB
  rw [ht] at hP1
  have hP1 : va_P D cls9 (wd_Mo_findBest cA a_r r_manner r_above r_below r_nodes r_arcs r_left u_3 r_arePlateaus u_4 u_5 u_6 u_7 r_z r_plateaus r_ones r_others r_weights r_there u_8 u_9 u_10 u_11 u_12 u_13 u_14) H1 := hP1
  obtain ⟨hP, hD⟩ := va_join (wr := ([5, 11] : List Nat).filterMap (fun i => (wd_Mo_best cA a_r r_manner r_above r_below r_nodes r_arcs r_left r_isBest r_arePlateaus r_all r_a r_b r_ties r_z r_plateaus r_ones r_others r_weights r_there r_hand r_between r_joins r_has r_sums r_sizes r_names r_walk r_bestOf)[i]?)) (w1 := (wd_Mo_findBest cA a_r r_manner r_above r_below r_nodes r_arcs r_left u_3 r_arePlateaus u_4 u_5 u_6 u_7 r_z r_plateaus r_ones r_others r_weights r_there u_8 u_9 u_10 u_11 u_12 u_13 u_14)) hP hD [0, 1, 2, 3, 4, 6, 7, 8, 9, 10, 12, 13] [5, 11] rfl rfl (by decide) (by decide) hk1 hFc hP1 hD1
  generalize H1 = H at hP hS ⊢
  have hP : va_P D cls9 (wd_Mo_best cA a_r r_manner r_above r_below r_nodes r_arcs r_left u_3 r_arePlateaus u_4 u_5 u_6 u_7 r_z r_plateaus r_ones r_others r_weights r_there r_hand u_8 u_9 u_10 u_11 u_12 r_names u_13 u_14) H := hP.sub [2, 3, 4, 5, 6, 0, 7, 8, 9, 10, 11, 1, 12, 13] rfl
  have hD : va_D A (wd_Mo_best cA a_r r_manner r_above r_below r_nodes r_arcs r_left u_3 r_arePlateaus u_4 u_5 u_6 u_7 r_z r_plateaus r_ones r_others r_weights r_there r_hand u_8 u_9 u_10 u_11 u_12 r_names u_13 u_14) := hD.sub [2, 3, 4, 5, 6, 0, 7, 8, 9, 10, 11, 1, 12, 13] (by decide) rfl
  refine lv_aload_n hx hb d_Mo_best_4 rfl (lv_at hl 0 rfl) ?_
  refine lv_aload_n hx hb d_Mo_best_5 rfl (lv_at hl 0 rfl) ?_
  refine va_get (ci := 8) (v := .ref (a_r 15)) (C := R_Mo) (T := F_Mo) (N := 36) hx hb hal in_Mo hown hK hP 0 rfl rfl 25 (by decide) (hal _ kw_662) (fun _ h9 => h9) rfl d_Mo_best_6 ?_
  refine lv_aload_n hx hb d_Mo_best_9 rfl (lv_at hl 0 rfl) ?_
  refine va_get (ci := 8) (v := .ref (a_r 5)) (C := R_Mo) (T := F_Mo) (N := 36) hx hb hal in_Mo hown hK hP 0 rfl rfl 10 (by decide) (hal _ kw_647) (fun _ h9 => h9) rfl d_Mo_best_10 ?_
  obtain ⟨o_21, hc_20, h⟩ := bd h
  have hPc := hP.sub (ws' := (wd_Mo_copy cA a_r (fun _ => a_r 15) (fun _ => a_r 5) r_manner r_above r_below r_nodes r_arcs r_left u_3 r_arePlateaus u_4 u_5 u_6 u_7 r_z r_plateaus u_14 r_hand)) [0, 13, 5] rfl
  have hDc := hD.sub (ws' := (wd_Mo_copy cA a_r (fun _ => a_r 15) (fun _ => a_r 5) r_manner r_above r_below r_nodes r_arcs r_left u_3 r_arePlateaus u_4 u_5 u_6 u_7 r_z r_plateaus u_14 r_hand)) [0, 13, 5] (by decide) rfl
  have hFc := va_free (wc := (wd_Mo_copy cA a_r (fun _ => a_r 15) (fun _ => a_r 5) r_manner r_above r_below r_nodes r_arcs r_left u_3 r_arePlateaus u_4 u_5 u_6 u_7 r_z r_plateaus u_14 r_hand)) hD hS hA [0, 13, 5] rfl
  refine va_callv (va_runV (C := R_Mo) (As := [.ref (a_r 15), .ref (a_r 5)]) (rest := []) ⟨hx, hb, hml, hown, hal⟩ (c_Mo_copy l D cA a_r (fun _ => a_r 15) (fun _ => a_r 5) H.size r_manner r_above r_below r_nodes r_arcs r_left u_3 r_arePlateaus u_4 u_5 u_6 u_7 r_z r_plateaus u_14 r_hand o_21 hc_20) (cwV 2 hal (goodV kw_833 kw_835 kw_p35 kw_9 kw_836) rfl rfl rfl (by decide +kernel) ⟨Nat.le_of_ble_eq_true rfl, Nat.le_of_ble_eq_true rfl⟩) ⟨fun a U g mk q => by obtain ⟨q0, q1, qP, qK, qD⟩ := q; exact ⟨q0, q1, qP, va_K.moved (u := U) (U := U.calling g mk a) (Vm.Alike.refl U.vm) qK, qD⟩, va_recv hK hP (ci := 8) (q0 := 0) rfl rfl, fun U hU hW => ⟨rfl, by rw [hU], by rw [hU]; exact hPc, va_K.moved hW.alike hK, hDc.weaken (fun _ _ _ _ => trivial)⟩⟩ rfl rfl hl.1 rfl (lv_room (Nat.le_of_ble_eq_true rfl)) d_Mo_best_13 ⟨Nat.le_of_ble_eq_true rfl, Nat.le_of_ble_eq_true rfl⟩) hS (fun q _ h => hFc q h) hFc (fun u t H1 locs ht hvm hw hB hz1 hk1 hS => ?_)
  obtain ⟨u_19, rfl⟩ : ∃ q, q = u := ⟨_, rfl⟩
  subst hw
  obtain ⟨hP1, hK1, hD1⟩ := hB
  rw [ht] at hP1
  have hP1 : va_P D cls9 (wd_Mo_copy cA a_r (fun _ => a_r 15) (fun _ => a_r 5) r_manner r_above r_below r_nodes r_arcs r_left u_3 r_arePlateaus u_4 u_5 u_6 u_7 r_z r_plateaus u_14 u_19) H1 := hP1
  obtain ⟨hP, hD⟩ := va_join (wr := ([1, 2, 3, 4, 6, 7, 8, 9, 10, 11, 12] : List Nat).filterMap (fun i => (wd_Mo_best cA a_r r_manner r_above r_below r_nodes r_arcs r_left u_3 r_arePlateaus u_4 u_5 u_6 u_7 r_z r_plateaus r_ones r_others r_weights r_there r_hand u_8 u_9 u_10 u_11 u_12 r_names u_13 u_14)[i]?)) (w1 := (wd_Mo_copy cA a_r (fun _ => a_r 15) (fun _ => a_r 5) r_manner r_above r_below r_nodes r_arcs r_left u_3 r_arePlateaus u_4 u_5 u_6 u_7 r_z r_plateaus u_14 u_19)) hP hD [0, 13, 5] [1, 2, 3, 4, 6, 7, 8, 9, 10, 11, 12] rfl rfl (by decide) (by decide) hk1 hFc hP1 hD1
  generalize H1 = H at hP hS ⊢
  have hP : va_P D cls9 (wd_Mo_best cA a_r r_manner r_above r_below r_nodes r_arcs r_left u_3 r_arePlateaus u_4 u_5 u_6 u_7 r_z r_plateaus r_ones r_others r_weights r_there u_19 u_8 u_9 u_10 u_11 u_12 r_names u_13 u_14) H := hP.sub [11, 0, 1, 2, 3, 13, 4, 5, 6, 7, 8, 9, 10, 12] rfl
  have hD : va_D A (wd_Mo_best cA a_r r_manner r_above r_below r_nodes r_arcs r_left u_3 r_arePlateaus u_4 u_5 u_6 u_7 r_z r_plateaus r_ones r_others r_weights r_there u_19 u_8 u_9 u_10 u_11 u_12 r_names u_13 u_14) := hD.sub [11, 0, 1, 2, 3, 13, 4, 5, 6, 7, 8, 9, 10, 12] (by decide) rfl
  refine lv_aload_n hx hb d_Mo_best_16 rfl (lv_at hl 0 rfl) ?_
  refine lv_aload_n hx hb d_Mo_best_17 rfl (lv_at hl 0 rfl) ?_
  refine va_get (ci := 8) (v := .ref (a_r 5)) (C := R_Mo) (T := F_Mo) (N := 36) hx hb hal in_Mo hown hK hP 0 rfl rfl 10 (by decide) (hal _ kw_647) (fun _ h9 => h9) rfl d_Mo_best_18 ?_
  obtain ⟨o_27, hc_26, h⟩ := bd h
  have hPc := hP.sub (ws' := (wd_Mo_number cA a_r (fun _ => a_r 5) r_manner r_above r_below r_nodes r_arcs r_left u_3 r_arePlateaus u_4 u_5 u_6 u_7 r_z r_plateaus r_names u_19)) [0, 11, 5] rfl
  have hDc := hD.sub (ws' := (wd_Mo_number cA a_r (fun _ => a_r 5) r_manner r_above r_below r_nodes r_arcs r_left u_3 r_arePlateaus u_4 u_5 u_6 u_7 r_z r_plateaus r_names u_19)) [0, 11, 5] (by decide) rfl
  have hFc := va_free (wc := (wd_Mo_number cA a_r (fun _ => a_r 5) r_manner r_above r_below r_nodes r_arcs r_left u_3 r_arePlateaus u_4 u_5 u_6 u_7 r_z r_plateaus r_names u_19)) hD hS hA [0, 11, 5] rfl
  refine va_calli (va_runV (C := R_Mo) (As := [.ref (a_r 5)]) (rest := []) ⟨hx, hb, hml, hown, hal⟩ (c_Mo_number l D cA a_r (fun _ => a_r 5) H.size r_manner r_above r_below r_nodes r_arcs r_left u_3 r_arePlateaus u_4 u_5 u_6 u_7 r_z r_plateaus r_names u_19 o_27 hc_26) (cwV 1 hal (goodV kw_791 kw_793 kw_p29 kw_9 kw_794) rfl rfl rfl (by decide +kernel) ⟨Nat.le_of_ble_eq_true rfl, Nat.le_of_ble_eq_true rfl⟩) ⟨fun a U g mk q => by obtain ⟨q0, q1, qP, qK, qD⟩ := q; exact ⟨q0, q1, qP, va_K.moved (u := U) (U := U.calling g mk a) (Vm.Alike.refl U.vm) qK, qD⟩, va_recv hK hP (ci := 8) (q0 := 0) rfl rfl, fun U hU hW => ⟨rfl, by rw [hU], by rw [hU]; exact hPc, va_K.moved hW.alike hK, hDc.weaken (fun _ _ _ _ => trivial)⟩⟩ rfl rfl hl.1 rfl (lv_room (Nat.le_of_ble_eq_true rfl)) d_Mo_best_21 ⟨Nat.le_of_ble_eq_true rfl, Nat.le_of_ble_eq_true rfl⟩) hS (fun q _ h => hFc q h) hFc (fun r_23 u t H1 locs ht hvm hw hB hz1 hk1 hS => ?_)
  obtain ⟨u_24, u_25⟩ := u
  subst hw
  obtain ⟨hP1, hK1, hD1⟩ := hB
  rw [ht] at hP1
  have hP1 : va_P D cls9 (wd_Mo_number cA a_r (fun _ => a_r 5) r_manner r_above r_below r_nodes r_arcs r_left u_3 r_arePlateaus u_4 u_5 u_6 u_7 r_z r_plateaus u_24 u_25) H1 := hP1
  obtain ⟨hP, hD⟩ := va_join (wr := ([1, 2, 3, 4, 6, 7, 8, 9, 10, 12, 13] : List Nat).filterMap (fun i => (wd_Mo_best cA a_r r_manner r_above r_below r_nodes r_arcs r_left u_3 r_arePlateaus u_4 u_5 u_6 u_7 r_z r_plateaus r_ones r_others r_weights r_there u_19 u_8 u_9 u_10 u_11 u_12 r_names u_13 u_14)[i]?)) (w1 := (wd_Mo_number cA a_r (fun _ => a_r 5) r_manner r_above r_below r_nodes r_arcs r_left u_3 r_arePlateaus u_4 u_5 u_6 u_7 r_z r_plateaus u_24 u_25)) hP hD [0, 11, 5] [1, 2, 3, 4, 6, 7, 8, 9, 10, 12, 13] rfl rfl (by decide) (by decide) hk1 hFc hP1 hD1
  generalize H1 = H at hP hS ⊢
  have hP : va_P D cls9 (wd_Mo_best cA a_r r_manner r_above r_below r_nodes r_arcs r_left u_3 r_arePlateaus u_4 u_5 u_6 u_7 r_z r_plateaus r_ones r_others r_weights r_there u_25 u_8 u_9 u_10 u_11 u_12 u_24 u_13 u_14) H := hP.sub [11, 0, 1, 2, 3, 13, 4, 5, 6, 7, 8, 12, 9, 10] rfl
  have hD : va_D A (wd_Mo_best cA a_r r_manner r_above r_below r_nodes r_arcs r_left u_3 r_arePlateaus u_4 u_5 u_6 u_7 r_z r_plateaus r_ones r_others r_weights r_there u_25 u_8 u_9 u_10 u_11 u_12 u_24 u_13 u_14) := hD.sub [11, 0, 1, 2, 3, 13, 4, 5, 6, 7, 8, 12, 9, 10] (by decide) rfl
  exact W.iret (v := r_23) hx hb hr (fun t ht hW => ⟨⟨r_23, (u_3, u_4, u_5, u_6, u_7, u_25, u_8, u_9, u_10, u_11, u_12, u_24, u_13, u_14), rfl, Option.some.inj h, by rw [ht]; exact hP, va_K.moved hW.alike hK, hD⟩, hS.F ht⟩) hS.2.2 d_Mo_best_24
def wd_Mo_ties (cA : Nat → ClassId) (a_r : Nat → Nat) (r_manner : Int32) (r_above : Int32) (r_below : Int32) (r_nodes : Int32) (r_arcs : Int32) (r_left : Int32) (r_isBest : Int32) (r_arePlateaus : Int32) (r_all : Int64) (r_a : Int64) (r_b : Int64) (r_ties : Int32) (r_z : Int32) (r_plateaus : Int32) (r_ones : Nat → Int32) (r_others : Nat → Int32) (r_weights : Nat → Int32) (r_there : Nat → Int32) (r_between : Nat → Int32) (r_joins : Nat → Int32) (r_has : Nat → Int32) (r_sums : Nat → Int64) (r_sizes : Nat → Int64) (r_walk : Nat → Int32) (r_bestOf : Nat → Int32) : va_W := [(a_r 0, .inr (8, [.int r_manner, .int r_above, .int r_below, .int r_nodes, .int r_arcs, .int r_left, .ref (a_r 1), .ref (a_r 2), .ref (a_r 3), .ref (a_r 4), .ref (a_r 5), .int r_isBest, .int r_arePlateaus, .ref (a_r 6), .ref (a_r 7), .ref (a_r 8), .long r_all, .ref (a_r 9), .ref (a_r 10), .long r_a, .long r_b, .ref (a_r 11), .ref (a_r 12), .ref (a_r 13), .ref (a_r 14), .ref (a_r 15), .int r_ties, .ref (a_r 16), .ref (a_r 17), .ref (a_r 18), .int r_z, .int r_plateaus, .ref (a_r 19), .ref (a_r 20), .ref (a_r 21), .ref (a_r 22)])), (a_r 1, .inl (cA 0, 36, .inl r_ones)), (a_r 2, .inl (cA 0, 36, .inl r_others)), (a_r 3, .inl (cA 0, 36, .inl r_weights)), (a_r 4, .inl (cA 2, 36, .inl r_there)), (a_r 6, .inl (cA 0, 81, .inl r_between)), (a_r 7, .inl (cA 2, 81, .inl r_joins)), (a_r 8, .inl (cA 0, 9, .inl r_has)), (a_r 9, .inl (cA 1, 9, .inr (.inl r_sums))), (a_r 10, .inl (cA 1, 9, .inr (.inl r_sizes))), (a_r 13, .inl (cA 0, 9, .inl r_walk)), (a_r 15, .inl (cA 0, 9, .inl r_bestOf))]
noncomputable def m_Mo_ties (r_manner : Int32) (r_above : Int32) (r_below : Int32) (r_nodes : Int32) (r_arcs : Int32) (r_isBest : Int32) (r_all : Int64) (r_a : Int64) (r_b : Int64) (r_ties : Int32) (r_ones : Nat → Int32) (r_others : Nat → Int32) (r_weights : Nat → Int32) (r_there : Nat → Int32) (r_between : Nat → Int32) (r_joins : Nat → Int32) (r_has : Nat → Int32) (r_sums : Nat → Int64) (r_sizes : Nat → Int64) (r_walk : Nat → Int32) (r_bestOf : Nat → Int32) : Option (Int32 × Int32 × Int64 × Int64 × Int64 × Int32 × (Nat → Int32) × (Nat → Int32) × (Nat → Int32) × (Nat → Int64) × (Nat → Int64) × (Nat → Int32) × (Nat → Int32)) :=
  ((m_Mo_findBest r_manner r_above r_below r_nodes r_arcs r_isBest r_all r_a r_b r_ties r_ones r_others r_weights r_there r_between r_joins r_has r_sums r_sizes r_walk r_bestOf).bind (fun r1 : Int32 × Int64 × Int64 × Int64 × Int32 × (Nat → Int32) × (Nat → Int32) × (Nat → Int32) × (Nat → Int64) × (Nat → Int64) × (Nat → Int32) × (Nat → Int32) => some (r1.2.2.2.2.1, r1.1, r1.2.1, r1.2.2.1, r1.2.2.2.1, r1.2.2.2.2.1, r1.2.2.2.2.2.1, r1.2.2.2.2.2.2.1, r1.2.2.2.2.2.2.2.1, r1.2.2.2.2.2.2.2.2.1, r1.2.2.2.2.2.2.2.2.2.1, r1.2.2.2.2.2.2.2.2.2.2.1, r1.2.2.2.2.2.2.2.2.2.2.2)))
set_option maxHeartbeats 4000000 in
set_option maxRecDepth 100000 in
theorem c_Mo_ties (l : Launch) (D : va_G) (cA : Nat → ClassId) (a_r : Nat → Nat) (sz : Nat) (r_manner : Int32) (r_above : Int32) (r_below : Int32) (r_nodes : Int32) (r_arcs : Int32) (r_left : Int32) (r_isBest : Int32) (r_arePlateaus : Int32) (r_all : Int64) (r_a : Int64) (r_b : Int64) (r_ties : Int32) (r_z : Int32) (r_plateaus : Int32) (r_ones : Nat → Int32) (r_others : Nat → Int32) (r_weights : Nat → Int32) (r_there : Nat → Int32) (r_between : Nat → Int32) (r_joins : Nat → Int32) (r_has : Nat → Int32) (r_sums : Nat → Int64) (r_sizes : Nat → Int64) (r_walk : Nat → Int32) (r_bestOf : Nat → Int32)  (out : Int32 × Int32 × Int64 × Int64 × Int64 × Int32 × (Nat → Int32) × (Nat → Int32) × (Nat → Int32) × (Nat → Int64) × (Nat → Int64) × (Nat → Int32) × (Nat → Int32)) (h : m_Mo_ties r_manner r_above r_below r_nodes r_arcs r_isBest r_all r_a r_b r_ties r_ones r_others r_weights r_there r_between r_joins r_has r_sums r_sizes r_walk r_bestOf = some out) : Met l y_Mo_ties w_Mo_ties ({ frames := 3, cells := 0, slots := 0, locals := 70 }) (va_Pc [.ref (a_r 0)] (fun U => U.heap.size = sz ∧ va_P D cls9 (wd_Mo_ties cA a_r r_manner r_above r_below r_nodes r_arcs r_left r_isBest r_arePlateaus r_all r_a r_b r_ties r_z r_plateaus r_ones r_others r_weights r_there r_between r_joins r_has r_sums r_sizes r_walk r_bestOf) U.heap ∧ va_K D cls9 (tys5 cA) U ∧ va_D (fun _ => True) (wd_Mo_ties cA a_r r_manner r_above r_below r_nodes r_arcs r_left r_isBest r_arePlateaus r_all r_a r_b r_ties r_z r_plateaus r_ones r_others r_weights r_there r_between r_joins r_has r_sums r_sizes r_walk r_bestOf))) (va_Qi (fun (rr : Int32) (uu : Int32 × Int64 × Int64 × Int64 × Int32 × (Nat → Int32) × (Nat → Int32) × (Nat → Int32) × (Nat → Int64) × (Nat → Int64) × (Nat → Int32) × (Nat → Int32)) => (rr, uu) = out) (fun (uu : Int32 × Int64 × Int64 × Int64 × Int32 × (Nat → Int32) × (Nat → Int32) × (Nat → Int32) × (Nat → Int64) × (Nat → Int64) × (Nat → Int32) × (Nat → Int32)) (t : State) => va_P D cls9 (wd_Mo_ties cA a_r r_manner r_above r_below r_nodes r_arcs r_left uu.1 r_arePlateaus uu.2.1 uu.2.2.1 uu.2.2.2.1 uu.2.2.2.2.1 r_z r_plateaus r_ones r_others r_weights r_there uu.2.2.2.2.2.1 uu.2.2.2.2.2.2.1 uu.2.2.2.2.2.2.2.1 uu.2.2.2.2.2.2.2.2.1 uu.2.2.2.2.2.2.2.2.2.1 uu.2.2.2.2.2.2.2.2.2.2.1 uu.2.2.2.2.2.2.2.2.2.2.2) t.heap ∧ va_K D cls9 (tys5 cA) t ∧ va_D (va_A (wd_Mo_ties cA a_r r_manner r_above r_below r_nodes r_arcs r_left r_isBest r_arePlateaus r_all r_a r_b r_ties r_z r_plateaus r_ones r_others r_weights r_there r_between r_joins r_has r_sums r_sizes r_walk r_bestOf) sz) (wd_Mo_ties cA a_r r_manner r_above r_below r_nodes r_arcs r_left uu.1 r_arePlateaus uu.2.1 uu.2.2.1 uu.2.2.2.1 uu.2.2.2.2.1 r_z r_plateaus r_ones r_others r_weights r_there uu.2.2.2.2.2.1 uu.2.2.2.2.2.2.1 uu.2.2.2.2.2.2.2.1 uu.2.2.2.2.2.2.2.2.1 uu.2.2.2.2.2.2.2.2.2.1 uu.2.2.2.2.2.2.2.2.2.2.1 uu.2.2.2.2.2.2.2.2.2.2.2)) (va_A (wd_Mo_ties cA a_r r_manner r_above r_below r_nodes r_arcs r_left r_isBest r_arePlateaus r_all r_a r_b r_ties r_z r_plateaus r_ones r_others r_weights r_there r_between r_joins r_has r_sums r_sizes r_walk r_bestOf) sz)) 0 0 (va_A (wd_Mo_ties cA a_r r_manner r_above r_below r_nodes r_arcs r_left r_isBest r_arePlateaus r_all r_a r_b r_ties r_z r_plateaus r_ones r_others r_weights r_there r_between r_joins r_has r_sums r_sizes r_walk r_bestOf) sz) := by
  refine Met.ofW (cc := b_Mo_ties) (maxL := 1) (ret := (Option.some Jvm.ClassFile.FieldType.int)) (by decide) rfl ?_
  intro p e s m args below meth c s₁ B hml hv
  obtain ⟨rfl, hsz, hP, hK, hD0⟩ := hv
  have hx := B.exec
  have hb := B.bytes
  have hr := B.returns
  have hts := atoms_spec (ws := w_Mo_ties) B.pre
  have hal : ∀ w ∈ ALLW, w.before _ s = true := fun w hw => hts w (List.mem_cons_of_mem _ hw)
  have hown : s.vm.findClass R_Mo = some m.cls := findClass_of_methodNamed B.named
  have hlocks := B.notSynchronized
  subst hsz
  have hD := hD0.self (sz := s.heap.size)
  generalize hAe : va_A (wd_Mo_ties cA a_r r_manner r_above r_below r_nodes r_arcs r_left r_isBest r_arePlateaus r_all r_a r_b r_ties r_z r_plateaus r_ones r_others r_weights r_there r_between r_joins r_has r_sums r_sizes r_walk r_bestOf) s.heap.size = A at hD ⊢
  have hA : ∀ q : Nat, s.heap.size ≤ q → A q := fun q h => by rw [← hAe]; exact Or.inr h
  have hS : va_S A s.heap s.heap [] := va_S.rf
  have hl := lv_entry ([.ref (a_r 0)]) (n := 1) (Nat.le_of_ble_eq_true rfl)
  rw [lg_entry_eq]
  generalize (lg_sl ([.ref (a_r 0)]) ++ List.replicate (1 - (lg_sl ([.ref (a_r 0)])).length) Slot.unset).toArray = ls at hl ⊢
  have hl : lv_has ls 1 [(0, .ref (a_r 0))] := hl
  refine wg (fun G hG => ?_)
  refine cast (hG _ _ _ _ _ _ _).symm ?_
  obtain ⟨H, locs, hHl, hS⟩ : ∃ (H : Heap) (locs : List Loc), (H = s.heap ∧ locs = []) ∧ va_S A s.heap H locs := ⟨s.heap, [], ⟨rfl, rfl⟩, hS⟩
  have hP : va_P D cls9 (wd_Mo_ties cA a_r r_manner r_above r_below r_nodes r_arcs r_left r_isBest r_arePlateaus r_all r_a r_b r_ties r_z r_plateaus r_ones r_others r_weights r_there r_between r_joins r_has r_sums r_sizes r_walk r_bestOf) H := by rw [hHl.1]; exact hP
  rw [← hHl.1, ← hHl.2]
  clear hHl
  refine lv_aload_n hx hb d_Mo_ties_0 rfl (lv_at hl 0 rfl) ?_
  obtain ⟨o_16, hc_15, h⟩ := bd h
  have hPc := hP.sub (ws' := (wd_Mo_findBest cA a_r r_manner r_above r_below r_nodes r_arcs r_left r_isBest r_arePlateaus r_all r_a r_b r_ties r_z r_plateaus r_ones r_others r_weights r_there r_between r_joins r_has r_sums r_sizes r_walk r_bestOf)) [0, 1, 2, 3, 4, 5, 6, 7, 8, 9, 10, 11] rfl
  have hDc := hD.sub (ws' := (wd_Mo_findBest cA a_r r_manner r_above r_below r_nodes r_arcs r_left r_isBest r_arePlateaus r_all r_a r_b r_ties r_z r_plateaus r_ones r_others r_weights r_there r_between r_joins r_has r_sums r_sizes r_walk r_bestOf)) [0, 1, 2, 3, 4, 5, 6, 7, 8, 9, 10, 11] (by decide) rfl
  have hFc := va_free (wc := (wd_Mo_findBest cA a_r r_manner r_above r_below r_nodes r_arcs r_left r_isBest r_arePlateaus r_all r_a r_b r_ties r_z r_plateaus r_ones r_others r_weights r_there r_between r_joins r_has r_sums r_sizes r_walk r_bestOf)) hD hS hA [0, 1, 2, 3, 4, 5, 6, 7, 8, 9, 10, 11] rfl
  refine va_callv (va_runV (C := R_Mo) (As := []) (rest := []) ⟨hx, hb, hml, hown, hal⟩ (c_Mo_findBest l D cA a_r H.size r_manner r_above r_below r_nodes r_arcs r_left r_isBest r_arePlateaus r_all r_a r_b r_ties r_z r_plateaus r_ones r_others r_weights r_there r_between r_joins r_has r_sums r_sizes r_walk r_bestOf o_16 hc_15) (cwV 0 hal (goodV kw_861 kw_863 kw_p38 kw_9 kw_864) rfl rfl rfl (by decide +kernel) ⟨Nat.le_of_ble_eq_true rfl, Nat.le_of_ble_eq_true rfl⟩) ⟨fun a U g mk q => by obtain ⟨q0, q1, qP, qK, qD⟩ := q; exact ⟨q0, q1, qP, va_K.moved (u := U) (U := U.calling g mk a) (Vm.Alike.refl U.vm) qK, qD⟩, va_recv hK hP (ci := 8) (q0 := 0) rfl rfl, fun U hU hW => ⟨rfl, by rw [hU], by rw [hU]; exact hPc, va_K.moved hW.alike hK, hDc.weaken (fun _ _ _ _ => trivial)⟩⟩ rfl rfl hl.1 rfl (lv_room (Nat.le_of_ble_eq_true rfl)) d_Mo_ties_1 ⟨Nat.le_of_ble_eq_true rfl, Nat.le_of_ble_eq_true rfl⟩) hS (fun q _ h => hFc q h) hFc (fun u t H1 locs ht hvm hw hB hz1 hk1 hS => ?_)
  obtain ⟨u_3, u_4, u_5, u_6, u_7, u_8, u_9, u_10, u_11, u_12, u_13, u_14⟩ := u
  subst hw
  obtain ⟨hP1, hK1, hD1⟩ := hB
  rw [ht] at hP1
  have hP1 : va_P D cls9 (wd_Mo_findBest cA a_r r_manner r_above r_below r_nodes r_arcs r_left u_3 r_arePlateaus u_4 u_5 u_6 u_7 r_z r_plateaus r_ones r_others r_weights r_there u_8 u_9 u_10 u_11 u_12 u_13 u_14) H1 := hP1
  obtain ⟨hP, hD⟩ := va_join (wr := ([] : List Nat).filterMap (fun i => (wd_Mo_ties cA a_r r_manner r_above r_below r_nodes r_arcs r_left r_isBest r_arePlateaus r_all r_a r_b r_ties r_z r_plateaus r_ones r_others r_weights r_there r_between r_joins r_has r_sums r_sizes r_walk r_bestOf)[i]?)) (w1 := (wd_Mo_findBest cA a_r r_manner r_above r_below r_nodes r_arcs r_left u_3 r_arePlateaus u_4 u_5 u_6 u_7 r_z r_plateaus r_ones r_others r_weights r_there u_8 u_9 u_10 u_11 u_12 u_13 u_14)) hP hD [0, 1, 2, 3, 4, 5, 6, 7, 8, 9, 10, 11] [] rfl rfl (by decide) (by decide) hk1 hFc hP1 hD1
  generalize H1 = H at hP hS ⊢
  have hP : va_P D cls9 (wd_Mo_ties cA a_r r_manner r_above r_below r_nodes r_arcs r_left u_3 r_arePlateaus u_4 u_5 u_6 u_7 r_z r_plateaus r_ones r_others r_weights r_there u_8 u_9 u_10 u_11 u_12 u_13 u_14) H := hP.sub [0, 1, 2, 3, 4, 5, 6, 7, 8, 9, 10, 11] rfl
  have hD : va_D A (wd_Mo_ties cA a_r r_manner r_above r_below r_nodes r_arcs r_left u_3 r_arePlateaus u_4 u_5 u_6 u_7 r_z r_plateaus r_ones r_others r_weights r_there u_8 u_9 u_10 u_11 u_12 u_13 u_14) := hD.sub [0, 1, 2, 3, 4, 5, 6, 7, 8, 9, 10, 11] (by decide) rfl
  refine lv_aload_n hx hb d_Mo_ties_4 rfl (lv_at hl 0 rfl) ?_
  refine va_get (ci := 8) (v := .int u_7) (C := R_Mo) (T := F_Mo) (N := 36) hx hb hal in_Mo hown hK hP 0 rfl rfl 26 (by decide) (hal _ kw_663) (fun _ h9 => h9) rfl d_Mo_ties_5 ?_
  exact W.iret (v := u_7) hx hb hr (fun t ht hW => ⟨⟨u_7, (u_3, u_4, u_5, u_6, u_7, u_8, u_9, u_10, u_11, u_12, u_13, u_14), rfl, Option.some.inj h, by rw [ht]; exact hP, va_K.moved hW.alike hK, hD⟩, hS.F ht⟩) hS.2.2 d_Mo_ties_8
