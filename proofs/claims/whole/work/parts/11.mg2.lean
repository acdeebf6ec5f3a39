def wd_MG_mergeOnce (cA : Nat → ClassId) (a_m a_g a_n a_h a_u a_p a_e a_s a_t : Nat → Nat) (n_x : Int32) (n_y : Int32) (n_nodes : Int32) (n_aloneB : Int64) (n_pairA : Nat → Nat → Int64) (n_pairB : Nat → Nat → Int64) (p_nodes : Int32) (p_count : Int32) (p_groups : Nat → Int32) (p_names : Nat → Int32) : va_W := [(a_m 0, .inr (7, [.ref (a_g 0), .ref (a_n 0), .ref (a_h 0), .ref (a_u 0), .ref (a_e 0), .ref (a_s 0), .ref (a_t 0)])), (a_n 0, .inr (0, [.int n_x, .int n_y, .int n_nodes, .long n_aloneB, .ref (a_n 1), .ref (a_n 11), .ref (a_n 21), .ref (a_n 31), .ref (a_n 32)])), (a_n 1, .inl (cA 4, 9, .inr (.inr (.inr (.inr (fun i => if i < 9 then some (a_n (i + 2)) else none)))))), (a_n (0 + 2), .inl (cA 1, 9, .inr (.inl (n_pairA 0)))), (a_n (1 + 2), .inl (cA 1, 9, .inr (.inl (n_pairA 1)))), (a_n (2 + 2), .inl (cA 1, 9, .inr (.inl (n_pairA 2)))), (a_n (3 + 2), .inl (cA 1, 9, .inr (.inl (n_pairA 3)))), (a_n (4 + 2), .inl (cA 1, 9, .inr (.inl (n_pairA 4)))), (a_n (5 + 2), .inl (cA 1, 9, .inr (.inl (n_pairA 5)))), (a_n (6 + 2), .inl (cA 1, 9, .inr (.inl (n_pairA 6)))), (a_n (7 + 2), .inl (cA 1, 9, .inr (.inl (n_pairA 7)))), (a_n (8 + 2), .inl (cA 1, 9, .inr (.inl (n_pairA 8)))), (a_n 11, .inl (cA 4, 9, .inr (.inr (.inr (.inr (fun i => if i < 9 then some (a_n (i + 12)) else none)))))), (a_n (0 + 12), .inl (cA 1, 9, .inr (.inl (n_pairB 0)))), (a_n (1 + 12), .inl (cA 1, 9, .inr (.inl (n_pairB 1)))), (a_n (2 + 12), .inl (cA 1, 9, .inr (.inl (n_pairB 2)))), (a_n (3 + 12), .inl (cA 1, 9, .inr (.inl (n_pairB 3)))), (a_n (4 + 12), .inl (cA 1, 9, .inr (.inl (n_pairB 4)))), (a_n (5 + 12), .inl (cA 1, 9, .inr (.inl (n_pairB 5)))), (a_n (6 + 12), .inl (cA 1, 9, .inr (.inl (n_pairB 6)))), (a_n (7 + 12), .inl (cA 1, 9, .inr (.inl (n_pairB 7)))), (a_n (8 + 12), .inl (cA 1, 9, .inr (.inl (n_pairB 8)))), (a_p 0, .inr (2, [.int p_nodes, .int p_count, .ref (a_p 1), .ref (a_p 2)])), (a_p 1, .inl (cA 0, 9, .inl p_groups)), (a_p 2, .inl (cA 0, 10, .inl p_names))]
theorem row_MG_mergeOnce_n_pairA {cA : Nat → ClassId} {a_m a_g a_n a_h a_u a_p a_e a_s a_t : Nat → Nat} {n_x : Int32} {n_y : Int32} {n_nodes : Int32} {n_aloneB : Int64} {n_pairB : Nat → Nat → Int64} {p_nodes : Int32} {p_count : Int32} {p_groups : Nat → Int32} {p_names : Nat → Int32} (n_pairA : Nat → Nat → Int64) (k : Nat) (hk : k < 9) : (wd_MG_mergeOnce cA a_m a_g a_n a_h a_u a_p a_e a_s a_t n_x n_y n_nodes n_aloneB n_pairA n_pairB p_nodes p_count p_groups p_names)[3 + k]? = some (a_n (k + 2), .inl (cA 1, 9, .inr (.inl (n_pairA k)))) := by
  rcases lt9 hk with rfl | rfl | rfl | rfl | rfl | rfl | rfl | rfl | rfl <;> rfl
theorem set_MG_mergeOnce_n_pairA {cA : Nat → ClassId} {a_m a_g a_n a_h a_u a_p a_e a_s a_t : Nat → Nat} {n_x : Int32} {n_y : Int32} {n_nodes : Int32} {n_aloneB : Int64} {n_pairB : Nat → Nat → Int64} {p_nodes : Int32} {p_count : Int32} {p_groups : Nat → Int32} {p_names : Nat → Int32} {n_pairA : Nat → Nat → Int64} {f : Nat → Int64} (k : Nat) (hk : k < 9) : (wd_MG_mergeOnce cA a_m a_g a_n a_h a_u a_p a_e a_s a_t n_x n_y n_nodes n_aloneB n_pairA n_pairB p_nodes p_count p_groups p_names).set (3 + k) (a_n (k + 2), .inl (cA 1, 9, .inr (.inl f))) = wd_MG_mergeOnce cA a_m a_g a_n a_h a_u a_p a_e a_s a_t n_x n_y n_nodes n_aloneB (va_up n_pairA k f) n_pairB p_nodes p_count p_groups p_names := by
  rcases lt9 hk with rfl | rfl | rfl | rfl | rfl | rfl | rfl | rfl | rfl <;> rfl
theorem row_MG_mergeOnce_n_pairB {cA : Nat → ClassId} {a_m a_g a_n a_h a_u a_p a_e a_s a_t : Nat → Nat} {n_x : Int32} {n_y : Int32} {n_nodes : Int32} {n_aloneB : Int64} {n_pairA : Nat → Nat → Int64} {p_nodes : Int32} {p_count : Int32} {p_groups : Nat → Int32} {p_names : Nat → Int32} (n_pairB : Nat → Nat → Int64) (k : Nat) (hk : k < 9) : (wd_MG_mergeOnce cA a_m a_g a_n a_h a_u a_p a_e a_s a_t n_x n_y n_nodes n_aloneB n_pairA n_pairB p_nodes p_count p_groups p_names)[13 + k]? = some (a_n (k + 12), .inl (cA 1, 9, .inr (.inl (n_pairB k)))) := by
  rcases lt9 hk with rfl | rfl | rfl | rfl | rfl | rfl | rfl | rfl | rfl <;> rfl
theorem set_MG_mergeOnce_n_pairB {cA : Nat → ClassId} {a_m a_g a_n a_h a_u a_p a_e a_s a_t : Nat → Nat} {n_x : Int32} {n_y : Int32} {n_nodes : Int32} {n_aloneB : Int64} {n_pairA : Nat → Nat → Int64} {p_nodes : Int32} {p_count : Int32} {p_groups : Nat → Int32} {p_names : Nat → Int32} {n_pairB : Nat → Nat → Int64} {f : Nat → Int64} (k : Nat) (hk : k < 9) : (wd_MG_mergeOnce cA a_m a_g a_n a_h a_u a_p a_e a_s a_t n_x n_y n_nodes n_aloneB n_pairA n_pairB p_nodes p_count p_groups p_names).set (13 + k) (a_n (k + 12), .inl (cA 1, 9, .inr (.inl f))) = wd_MG_mergeOnce cA a_m a_g a_n a_h a_u a_p a_e a_s a_t n_x n_y n_nodes n_aloneB n_pairA (va_up n_pairB k f) p_nodes p_count p_groups p_names := by
  rcases lt9 hk with rfl | rfl | rfl | rfl | rfl | rfl | rfl | rfl | rfl <;> rfl
noncomputable def s_MG_mergeOnce_25 (x6 : Int32) (n_nodes : Int32) (n_pairA : Nat → Nat → Int64) (n_pairB : Nat → Nat → Int64) (n_x : Int32) (n_y : Int32) (p_count : Int32) (p_groups : Nat → Int32) (zz : Int32 × Int32 × Int64 × Int32) (back exit : (Int32 × Int32 × Int64 × Int32) → Option (Int32 × (Nat → Int32) × (Nat → Int32))) : Option (Int32 × (Nat → Int32) × (Nat → Int32)) :=
  (if p_count ≤ zz.2.2.2 then (exit (zz.1, zz.2.1, zz.2.2.1, zz.2.2.2)) else ((m_Ga_between n_x n_y n_nodes n_pairA n_pairB p_groups x6 zz.2.2.2).bind (fun r43 : Int64 => (jn (fun z60 : Unit => (back (x6, zz.2.2.2, r43, (zz.2.2.2 + 1)))) (fun j60 => (if zz.1 < 0 then (j60 ()) else (if r43 ≤ zz.2.2.1 then (back (zz.1, zz.2.1, zz.2.2.1, (zz.2.2.2 + 1))) else (j60 ()))))))))
noncomputable def s_MG_mergeOnce_10 (n_nodes : Int32) (n_pairA : Nat → Nat → Int64) (n_pairB : Nat → Nat → Int64) (n_x : Int32) (n_y : Int32) (p_count : Int32) (p_groups : Nat → Int32) (zz : Int32 × Int32 × Int64 × Int32) (back exit : (Int32 × Int32 × Int64 × Int32) → Option (Int32 × (Nat → Int32) × (Nat → Int32))) : Option (Int32 × (Nat → Int32) × (Nat → Int32)) :=
  (if p_count ≤ zz.2.2.2 then (exit (zz.1, zz.2.1, zz.2.2.1, zz.2.2.2)) else (loopC (s_MG_mergeOnce_25 zz.2.2.2 n_nodes n_pairA n_pairB n_x n_y p_count p_groups) (fun z25 : Int32 × Int32 × Int64 × Int32 => (back (z25.1, z25.2.1, z25.2.2.1, (zz.2.2.2 + 1)))) FU (zz.1, zz.2.1, zz.2.2.1, (zz.2.2.2 + (1 : Int32)))))
noncomputable def m_MG_mergeOnce (n_x : Int32) (n_y : Int32) (n_nodes : Int32) (n_pairA : Nat → Nat → Int64) (n_pairB : Nat → Nat → Int64) (p_nodes : Int32) (p_count : Int32) (p_groups : Nat → Int32) (p_names : Nat → Int32) : Option (Int32 × (Nat → Int32) × (Nat → Int32)) :=
  (loopC (s_MG_mergeOnce_10 n_nodes n_pairA n_pairB n_x n_y p_count p_groups) (fun z10 : Int32 × Int32 × Int64 × Int32 => (if z10.1 < 0 then some (p_count, p_groups, p_names) else ((m_Pa_unite p_nodes p_groups p_names z10.1 z10.2.1).bind (fun r89 : Int32 × (Nat → Int32) × (Nat → Int32) => some (r89.1, r89.2.1, r89.2.2))))) FU ((-1 : Int32), (-1 : Int32), (0 : Int64), (0 : Int32)))
set_option maxHeartbeats 4000000 in
set_option maxRecDepth 100000 in
theorem c_MG_mergeOnce (l : Launch) (D : va_G) (cA : Nat → ClassId) (a_m a_g a_n a_h a_u a_p a_e a_s a_t : Nat → Nat) (sz : Nat) (n_x : Int32) (n_y : Int32) (n_nodes : Int32) (n_aloneB : Int64) (n_pairA : Nat → Nat → Int64) (n_pairB : Nat → Nat → Int64) (p_nodes : Int32) (p_count : Int32) (p_groups : Nat → Int32) (p_names : Nat → Int32)  (out : Int32 × (Nat → Int32) × (Nat → Int32)) (h : m_MG_mergeOnce n_x n_y n_nodes n_pairA n_pairB p_nodes p_count p_groups p_names = some out) : Met l y_MG_mergeOnce w_MG_mergeOnce ({ frames := 3, cells := 0, slots := 0, locals := 68 }) (va_Pc [.ref (a_m 0), .ref (a_p 0)] (fun U => U.heap.size = sz ∧ va_P D cls9 (wd_MG_mergeOnce cA a_m a_g a_n a_h a_u a_p a_e a_s a_t n_x n_y n_nodes n_aloneB n_pairA n_pairB p_nodes p_count p_groups p_names) U.heap ∧ va_K D cls9 (tys5 cA) U ∧ va_D (fun _ => True) (wd_MG_mergeOnce cA a_m a_g a_n a_h a_u a_p a_e a_s a_t n_x n_y n_nodes n_aloneB n_pairA n_pairB p_nodes p_count p_groups p_names))) (va_Qv (fun uu : Int32 × (Nat → Int32) × (Nat → Int32) => uu = out) (fun (uu : Int32 × (Nat → Int32) × (Nat → Int32)) (t : State) => va_P D cls9 (wd_MG_mergeOnce cA a_m a_g a_n a_h a_u a_p a_e a_s a_t n_x n_y n_nodes n_aloneB n_pairA n_pairB p_nodes uu.1 uu.2.1 uu.2.2) t.heap ∧ va_K D cls9 (tys5 cA) t ∧ va_D (va_A (wd_MG_mergeOnce cA a_m a_g a_n a_h a_u a_p a_e a_s a_t n_x n_y n_nodes n_aloneB n_pairA n_pairB p_nodes p_count p_groups p_names) sz) (wd_MG_mergeOnce cA a_m a_g a_n a_h a_u a_p a_e a_s a_t n_x n_y n_nodes n_aloneB n_pairA n_pairB p_nodes uu.1 uu.2.1 uu.2.2)) (va_A (wd_MG_mergeOnce cA a_m a_g a_n a_h a_u a_p a_e a_s a_t n_x n_y n_nodes n_aloneB n_pairA n_pairB p_nodes p_count p_groups p_names) sz)) 0 0 (va_A (wd_MG_mergeOnce cA a_m a_g a_n a_h a_u a_p a_e a_s a_t n_x n_y n_nodes n_aloneB n_pairA n_pairB p_nodes p_count p_groups p_names) sz) := by
  refine Met.ofW (cc := b_MG_mergeOnce) (maxL := 10) (ret := (Option.none : Option Jvm.ClassFile.FieldType)) (by decide) rfl ?_
  intro p e s m args below meth c s₁ B hml hv
  obtain ⟨rfl, hsz, hP, hK, hD0⟩ := hv
  have hx := B.exec
  have hb := B.bytes
  have hr := B.returns
  have hts := atoms_spec (ws := w_MG_mergeOnce) B.pre
  have hal : ∀ w ∈ ALLW, w.before _ s = true := fun w hw => hts w (List.mem_cons_of_mem _ hw)
  have hown : s.vm.findClass R_MG = some m.cls := findClass_of_methodNamed B.named
  have hlocks := B.notSynchronized
  subst hsz
  have hD := hD0.self (sz := s.heap.size)
  generalize hAe : va_A (wd_MG_mergeOnce cA a_m a_g a_n a_h a_u a_p a_e a_s a_t n_x n_y n_nodes n_aloneB n_pairA n_pairB p_nodes p_count p_groups p_names) s.heap.size = A at hD ⊢
  have hA : ∀ q : Nat, s.heap.size ≤ q → A q := fun q h => by rw [← hAe]; exact Or.inr h
  have hS : va_S A s.heap s.heap [] := va_S.rf
  have hl := lv_entry ([.ref (a_m 0), .ref (a_p 0)]) (n := 10) (Nat.le_of_ble_eq_true rfl)
  rw [lg_entry_eq]
  generalize (lg_sl ([.ref (a_m 0), .ref (a_p 0)]) ++ List.replicate (10 - (lg_sl ([.ref (a_m 0), .ref (a_p 0)])).length) Slot.unset).toArray = ls at hl ⊢
  have hl : lv_has ls 10 [(0, .ref (a_m 0)), (1, .ref (a_p 0))] := hl
  refine wg (fun G hG => ?_)
  refine cast (hG _ _ _ _ _ _ _).symm ?_
  obtain ⟨H, locs, hHl, hS⟩ : ∃ (H : Heap) (locs : List Loc), (H = s.heap ∧ locs = []) ∧ va_S A s.heap H locs := ⟨s.heap, [], ⟨rfl, rfl⟩, hS⟩
  have hP : va_P D cls9 (wd_MG_mergeOnce cA a_m a_g a_n a_h a_u a_p a_e a_s a_t n_x n_y n_nodes n_aloneB n_pairA n_pairB p_nodes p_count p_groups p_names) H := by rw [hHl.1]; exact hP
  rw [← hHl.1, ← hHl.2]
  clear hHl
  refine lv_iconst (v := (-1)) hx hb d_MG_mergeOnce_0 (by decide) ?_
  refine lv_istore_n (lv' := [(2, .int (-1 : Int32)), (0, .ref (a_m 0)), (1, .ref (a_p 0))]) hx hb d_MG_mergeOnce_1 rfl hl (by decide) rfl (fun ls hl => ?_)
  refine lv_iconst (v := (-1)) hx hb d_MG_mergeOnce_2 (by decide) ?_
  refine lv_istore_n (lv' := [(3, .int (-1 : Int32)), (2, .int (-1 : Int32)), (0, .ref (a_m 0)), (1, .ref (a_p 0))]) hx hb d_MG_mergeOnce_3 rfl hl (by decide) rfl (fun ls hl => ?_)
  refine lv_lconst (v := 0) hx hb d_MG_mergeOnce_4 (by decide) ?_
  refine lv_lstore (lv' := [(4, .long (0 : Int64)), (3, .int (-1 : Int32)), (2, .int (-1 : Int32)), (0, .ref (a_m 0)), (1, .ref (a_p 0))]) hx hb d_MG_mergeOnce_5 hl (by decide) rfl (fun ls hl => ?_)
  refine lv_iconst (v := 0) hx hb d_MG_mergeOnce_7 (by decide) ?_
  refine lv_istore (lv' := [(6, .int (0 : Int32)), (4, .long (0 : Int64)), (3, .int (-1 : Int32)), (2, .int (-1 : Int32)), (0, .ref (a_m 0)), (1, .ref (a_p 0))]) hx hb d_MG_mergeOnce_8 hl (by decide) rfl (fun ls hl => ?_)
  refine cast (hG _ _ _ _ _ _ _) (lp_go2 h (fun zz : Int32 × Int32 × Int64 × Int32 => ∀ (H : Heap) (locs : List Loc) (ls : Array Slot), va_P D cls9 (wd_MG_mergeOnce cA a_m a_g a_n a_h a_u a_p a_e a_s a_t n_x n_y n_nodes n_aloneB n_pairA n_pairB p_nodes p_count p_groups p_names) H → va_D A (wd_MG_mergeOnce cA a_m a_g a_n a_h a_u a_p a_e a_s a_t n_x n_y n_nodes n_aloneB n_pairA n_pairB p_nodes p_count p_groups p_names) → va_S A s.heap H locs → lv_has ls 10 [(6, .int zz.2.2.2), (4, .long zz.2.2.1), (3, .int zz.2.1), (2, .int zz.1), (0, .ref (a_m 0)), (1, .ref (a_p 0))] → G H locs 0 0 ls 82 []) ?_ (fun zz : Int32 × Int32 × Int64 × Int32 => ∀ (H : Heap) (locs : List Loc) (ls : Array Slot), va_P D cls9 (wd_MG_mergeOnce cA a_m a_g a_n a_h a_u a_p a_e a_s a_t n_x n_y n_nodes n_aloneB n_pairA n_pairB p_nodes p_count p_groups p_names) H → va_D A (wd_MG_mergeOnce cA a_m a_g a_n a_h a_u a_p a_e a_s a_t n_x n_y n_nodes n_aloneB n_pairA n_pairB p_nodes p_count p_groups p_names) → va_S A s.heap H locs → lv_has ls 10 [(6, .int zz.2.2.2), (4, .long zz.2.2.1), (3, .int zz.2.1), (2, .int zz.1), (0, .ref (a_m 0)), (1, .ref (a_p 0))] → G H locs 0 0 ls 10 []) ?_ _ _ ls hP hD hS (lv_sub hl [0, 1, 2, 3, 4, 5] rfl))
  · intro zz h H locs ls hP hD hS hl
    obtain ⟨x2_10e, x3_10e, x4_10e, x6_10e⟩ := zz
    have hP : va_P D cls9 (wd_MG_mergeOnce cA a_m a_g a_n a_h a_u a_p a_e a_s a_t n_x n_y n_nodes n_aloneB n_pairA n_pairB p_nodes p_count p_groups p_names) H := hP
    have hD : va_D A (wd_MG_mergeOnce cA a_m a_g a_n a_h a_u a_p a_e a_s a_t n_x n_y n_nodes n_aloneB n_pairA n_pairB p_nodes p_count p_groups p_names) := hD
    have hl : lv_has ls 10 [(6, .int x6_10e), (4, .long x4_10e), (3, .int x3_10e), (2, .int x2_10e), (0, .ref (a_m 0)), (1, .ref (a_p 0))] := hl
    refine cast (hG _ _ _ _ _ _ _).symm ?_
    refine lv_iload_n hx hb d_MG_mergeOnce_82 rfl (lv_at hl 3 rfl) ?_
    refine lv_if_lt (tgt := 92) hx hb d_MG_mergeOnce_83 (by decide) (fun c_1 => ?_) (fun c_1 => ?_)
    · have h := ifp (c_1) h
      exact W.vret hx hb hr (fun t ht hW => ⟨⟨(p_count, p_groups, p_names), rfl, Option.some.inj h, by rw [ht]; exact hP, va_K.moved hW.alike hK, hD⟩, hS.F ht⟩) hS.2.2 d_MG_mergeOnce_92
    · have h := ifn (c_1) h
      refine lv_aload_n hx hb d_MG_mergeOnce_86 rfl (lv_at hl 5 rfl) ?_
      refine lv_iload_n hx hb d_MG_mergeOnce_87 rfl (lv_at hl 3 rfl) ?_
      refine lv_iload_n hx hb d_MG_mergeOnce_88 rfl (lv_at hl 2 rfl) ?_
      obtain ⟨o_8, hc_7, h⟩ := bd h
      have hPc := hP.sub (ws' := (wd_Pa_unite cA a_p p_nodes p_count p_groups p_names)) [22, 23, 24] rfl
      have hDc := hD.sub (ws' := (wd_Pa_unite cA a_p p_nodes p_count p_groups p_names)) [22, 23, 24] (by decide) rfl
      have hFc := va_free (wc := (wd_Pa_unite cA a_p p_nodes p_count p_groups p_names)) hD hS hA [22, 23, 24] rfl
      refine va_callv (va_runV (C := R_Pa) (As := [.int x2_10e, .int x3_10e]) (rest := []) ⟨hx, hb, hml, hown, hal⟩ (c_Pa_unite l D cA a_p H.size p_nodes p_count p_groups p_names x2_10e x3_10e o_8 hc_7) (cwV 2 hal (goodV kw_515 kw_516 kw_517 kw_4 kw_518) rfl rfl rfl (by decide +kernel) ⟨Nat.le_of_ble_eq_true rfl, Nat.le_of_ble_eq_true rfl⟩) ⟨fun a U g mk q => by obtain ⟨q0, q1, qP, qK, qD⟩ := q; exact ⟨q0, q1, qP, va_K.moved (u := U) (U := U.calling g mk a) (Vm.Alike.refl U.vm) qK, qD⟩, va_recv hK hP (ci := 2) (q0 := 22) rfl rfl, fun U hU hW => ⟨rfl, by rw [hU], by rw [hU]; exact hPc, va_K.moved hW.alike hK, hDc.weaken (fun _ _ _ _ => trivial)⟩⟩ rfl rfl hl.1 rfl (lv_room (Nat.le_of_ble_eq_true rfl)) d_MG_mergeOnce_89 ⟨Nat.le_of_ble_eq_true rfl, Nat.le_of_ble_eq_true rfl⟩) hS (fun q _ h => hFc q h) hFc (fun u t H1 locs ht hvm hw hB hz1 hk1 hS => ?_)
      obtain ⟨u_4, u_5, u_6⟩ := u
      subst hw
      obtain ⟨hP1, hK1, hD1⟩ := hB
      rw [ht] at hP1
      have hP1 : va_P D cls9 (wd_Pa_unite cA a_p p_nodes u_4 u_5 u_6) H1 := hP1
      obtain ⟨hP, hD⟩ := va_join (wr := ([0, 1, 2, 3, 4, 5, 6, 7, 8, 9, 10, 11, 12, 13, 14, 15, 16, 17, 18, 19, 20, 21] : List Nat).filterMap (fun i => (wd_MG_mergeOnce cA a_m a_g a_n a_h a_u a_p a_e a_s a_t n_x n_y n_nodes n_aloneB n_pairA n_pairB p_nodes p_count p_groups p_names)[i]?)) (w1 := (wd_Pa_unite cA a_p p_nodes u_4 u_5 u_6)) hP hD [22, 23, 24] [0, 1, 2, 3, 4, 5, 6, 7, 8, 9, 10, 11, 12, 13, 14, 15, 16, 17, 18, 19, 20, 21] rfl rfl (by decide) (by decide) hk1 hFc hP1 hD1
      generalize H1 = H at hP hS ⊢
      have hP : va_P D cls9 (wd_MG_mergeOnce cA a_m a_g a_n a_h a_u a_p a_e a_s a_t n_x n_y n_nodes n_aloneB n_pairA n_pairB p_nodes u_4 u_5 u_6) H := hP.sub [0, 1, 2, 3, 4, 5, 6, 7, 8, 9, 10, 11, 12, 13, 14, 15, 16, 17, 18, 19, 20, 21, 22, 23, 24] rfl
      have hD : va_D A (wd_MG_mergeOnce cA a_m a_g a_n a_h a_u a_p a_e a_s a_t n_x n_y n_nodes n_aloneB n_pairA n_pairB p_nodes u_4 u_5 u_6) := hD.sub [0, 1, 2, 3, 4, 5, 6, 7, 8, 9, 10, 11, 12, 13, 14, 15, 16, 17, 18, 19, 20, 21, 22, 23, 24] (by decide) rfl
      exact W.vret hx hb hr (fun t ht hW => ⟨⟨(u_4, u_5, u_6), rfl, Option.some.inj h, by rw [ht]; exact hP, va_K.moved hW.alike hK, hD⟩, hS.F ht⟩) hS.2.2 d_MG_mergeOnce_92
  · intro back exit zz hB_10 hE_10 h H locs ls hP hD hS hl
    obtain ⟨x2_10, x3_10, x4_10, x6_10⟩ := zz
    have hP : va_P D cls9 (wd_MG_mergeOnce cA a_m a_g a_n a_h a_u a_p a_e a_s a_t n_x n_y n_nodes n_aloneB n_pairA n_pairB p_nodes p_count p_groups p_names) H := hP
    have hD : va_D A (wd_MG_mergeOnce cA a_m a_g a_n a_h a_u a_p a_e a_s a_t n_x n_y n_nodes n_aloneB n_pairA n_pairB p_nodes p_count p_groups p_names) := hD
    have hl : lv_has ls 10 [(6, .int x6_10), (4, .long x4_10), (3, .int x3_10), (2, .int x2_10), (0, .ref (a_m 0)), (1, .ref (a_p 0))] := hl
    refine cast (hG _ _ _ _ _ _ _).symm ?_
    refine lv_iload hx hb d_MG_mergeOnce_10 (lv_at hl 0 rfl) ?_
    refine lv_aload_n hx hb d_MG_mergeOnce_12 rfl (lv_at hl 5 rfl) ?_
    refine va_get (ci := 2) (v := .int p_count) (C := R_Pa) (T := F_Pa) (N := 4) hx hb hal in_Pa hown hK hP 22 rfl rfl 1 (by decide) (hal _ kw_113) (fun _ h9 => h9) rfl d_MG_mergeOnce_13 ?_
    refine lv_icmp_ge (tgt := 82) hx hb d_MG_mergeOnce_16 (by decide) (fun c_9 => ?_) (fun c_9 => ?_)
    · have h := ifp (c_9) h
      exact cast (hG _ _ _ _ _ _ _) (hE_10 (x2_10, x3_10, x4_10, x6_10) h _ _ _ hP hD hS (lv_sub hl [0, 1, 2, 3, 4, 5] rfl))
    · have h := ifn (c_9) h
      refine lv_iload hx hb d_MG_mergeOnce_19 (lv_at hl 0 rfl) ?_
      refine lv_iconst (v := 1) hx hb d_MG_mergeOnce_21 (by decide) ?_
      refine lv_iadd hx hb d_MG_mergeOnce_22 ?_
      refine lv_istore (lv' := [(7, .int (x6_10 + (1 : Int32))), (6, .int x6_10), (4, .long x4_10), (3, .int x3_10), (2, .int x2_10), (0, .ref (a_m 0)), (1, .ref (a_p 0))]) hx hb d_MG_mergeOnce_23 hl (by decide) rfl (fun ls hl => ?_)
      refine cast (hG _ _ _ _ _ _ _) (lp_go2 h (fun zz : Int32 × Int32 × Int64 × Int32 => ∀ (H : Heap) (locs : List Loc) (ls : Array Slot), va_P D cls9 (wd_MG_mergeOnce cA a_m a_g a_n a_h a_u a_p a_e a_s a_t n_x n_y n_nodes n_aloneB n_pairA n_pairB p_nodes p_count p_groups p_names) H → va_D A (wd_MG_mergeOnce cA a_m a_g a_n a_h a_u a_p a_e a_s a_t n_x n_y n_nodes n_aloneB n_pairA n_pairB p_nodes p_count p_groups p_names) → va_S A s.heap H locs → lv_has ls 10 [(7, .int zz.2.2.2), (6, .int x6_10), (4, .long zz.2.2.1), (3, .int zz.2.1), (2, .int zz.1), (0, .ref (a_m 0)), (1, .ref (a_p 0))] → G H locs 0 0 ls 76 []) ?_ (fun zz : Int32 × Int32 × Int64 × Int32 => ∀ (H : Heap) (locs : List Loc) (ls : Array Slot), va_P D cls9 (wd_MG_mergeOnce cA a_m a_g a_n a_h a_u a_p a_e a_s a_t n_x n_y n_nodes n_aloneB n_pairA n_pairB p_nodes p_count p_groups p_names) H → va_D A (wd_MG_mergeOnce cA a_m a_g a_n a_h a_u a_p a_e a_s a_t n_x n_y n_nodes n_aloneB n_pairA n_pairB p_nodes p_count p_groups p_names) → va_S A s.heap H locs → lv_has ls 10 [(7, .int zz.2.2.2), (6, .int x6_10), (4, .long zz.2.2.1), (3, .int zz.2.1), (2, .int zz.1), (0, .ref (a_m 0)), (1, .ref (a_p 0))] → G H locs 0 0 ls 25 []) ?_ _ _ ls hP hD hS (lv_sub hl [0, 1, 2, 3, 4, 5, 6] rfl))
      · intro zz h H locs ls hP hD hS hl
        obtain ⟨x2_25e, x3_25e, x4_25e, x7_25e⟩ := zz
        have hP : va_P D cls9 (wd_MG_mergeOnce cA a_m a_g a_n a_h a_u a_p a_e a_s a_t n_x n_y n_nodes n_aloneB n_pairA n_pairB p_nodes p_count p_groups p_names) H := hP
        have hD : va_D A (wd_MG_mergeOnce cA a_m a_g a_n a_h a_u a_p a_e a_s a_t n_x n_y n_nodes n_aloneB n_pairA n_pairB p_nodes p_count p_groups p_names) := hD
        have hl : lv_has ls 10 [(7, .int x7_25e), (6, .int x6_10), (4, .long x4_25e), (3, .int x3_25e), (2, .int x2_25e), (0, .ref (a_m 0)), (1, .ref (a_p 0))] := hl
        refine cast (hG _ _ _ _ _ _ _).symm ?_
        refine lv_iinc (v := (x6_10 + 1)) (lv' := [(6, .int (x6_10 + 1)), (7, .int x7_25e), (4, .long x4_25e), (3, .int x3_25e), (2, .int x2_25e), (0, .ref (a_m 0)), (1, .ref (a_p 0))]) hx hb d_MG_mergeOnce_76 hl (k := 1) rfl rfl (by decide) rfl (fun ls hl => ?_)
        refine lv_goto (tgt := 10) hx hb d_MG_mergeOnce_79 (by decide) ?_
        exact cast (hG _ _ _ _ _ _ _) (hB_10 (x2_25e, x3_25e, x4_25e, (x6_10 + 1)) h _ _ _ hP hD hS (lv_sub hl [0, 2, 3, 4, 5, 6] rfl))
      · intro back exit zz hB_25 hE_25 h H locs ls hP hD hS hl
        obtain ⟨x2_25, x3_25, x4_25, x7_25⟩ := zz
        have hP : va_P D cls9 (wd_MG_mergeOnce cA a_m a_g a_n a_h a_u a_p a_e a_s a_t n_x n_y n_nodes n_aloneB n_pairA n_pairB p_nodes p_count p_groups p_names) H := hP
        have hD : va_D A (wd_MG_mergeOnce cA a_m a_g a_n a_h a_u a_p a_e a_s a_t n_x n_y n_nodes n_aloneB n_pairA n_pairB p_nodes p_count p_groups p_names) := hD
        have hl : lv_has ls 10 [(7, .int x7_25), (6, .int x6_10), (4, .long x4_25), (3, .int x3_25), (2, .int x2_25), (0, .ref (a_m 0)), (1, .ref (a_p 0))] := hl
        refine cast (hG _ _ _ _ _ _ _).symm ?_
        refine lv_iload hx hb d_MG_mergeOnce_25 (lv_at hl 0 rfl) ?_
        refine lv_aload_n hx hb d_MG_mergeOnce_27 rfl (lv_at hl 6 rfl) ?_
        refine va_get (ci := 2) (v := .int p_count) (C := R_Pa) (T := F_Pa) (N := 4) hx hb hal in_Pa hown hK hP 22 rfl rfl 1 (by decide) (hal _ kw_113) (fun _ h9 => h9) rfl d_MG_mergeOnce_28 ?_
        refine lv_icmp_ge (tgt := 76) hx hb d_MG_mergeOnce_31 (by decide) (fun c_10 => ?_) (fun c_10 => ?_)
        · have h := ifp (c_10) h
          exact cast (hG _ _ _ _ _ _ _) (hE_25 (x2_25, x3_25, x4_25, x7_25) h _ _ _ hP hD hS (lv_sub hl [0, 1, 2, 3, 4, 5, 6] rfl))
        · have h := ifn (c_10) h
          refine lv_aload_n hx hb d_MG_mergeOnce_34 rfl (lv_at hl 5 rfl) ?_
          refine va_get (ci := 7) (v := .ref (a_n 0)) (C := R_MG) (T := F_MG) (N := 7) hx hb hal in_MG hown hK hP 0 rfl rfl 1 (by decide) (hal _ kw_245) (fun _ h9 => h9) rfl d_MG_mergeOnce_35 ?_
          refine lv_aload_n hx hb d_MG_mergeOnce_38 rfl (lv_at hl 6 rfl) ?_
          refine lv_iload hx hb d_MG_mergeOnce_39 (lv_at hl 1 rfl) ?_
          refine lv_iload hx hb d_MG_mergeOnce_41 (lv_at hl 0 rfl) ?_
          obtain ⟨o_14, hc_13, h⟩ := bd h
          have hPc := hP.sub (ws' := (wd_Ga_between cA a_n a_p n_x n_y n_nodes n_aloneB n_pairA n_pairB p_nodes p_count p_groups)) [1, 2, 3, 4, 5, 6, 7, 8, 9, 10, 11, 12, 13, 14, 15, 16, 17, 18, 19, 20, 21, 22, 23] rfl
          have hDc := hD.sub (ws' := (wd_Ga_between cA a_n a_p n_x n_y n_nodes n_aloneB n_pairA n_pairB p_nodes p_count p_groups)) [1, 2, 3, 4, 5, 6, 7, 8, 9, 10, 11, 12, 13, 14, 15, 16, 17, 18, 19, 20, 21, 22, 23] (by decide) rfl
          have hFc := va_free (wc := (wd_Ga_between cA a_n a_p n_x n_y n_nodes n_aloneB n_pairA n_pairB p_nodes p_count p_groups)) hD hS hA [1, 2, 3, 4, 5, 6, 7, 8, 9, 10, 11, 12, 13, 14, 15, 16, 17, 18, 19, 20, 21, 22, 23] rfl
          refine va_calll (va_runV (C := R_Ga) (As := [.ref (a_p 0), .int x6_10, .int x7_25]) (rest := []) ⟨hx, hb, hml, hown, hal⟩ (c_Ga_between l D cA a_n a_p H.size n_x n_y n_nodes n_aloneB n_pairA n_pairB p_nodes p_count p_groups x6_10 x7_25 o_14 hc_13) (cwV 3 hal (goodV kw_430 kw_431 kw_432 kw_3 kw_433) rfl rfl rfl (by decide +kernel) ⟨Nat.le_of_ble_eq_true rfl, Nat.le_of_ble_eq_true rfl⟩) ⟨fun a U g mk q => by obtain ⟨q0, q1, qP, qK, qD⟩ := q; exact ⟨q0, q1, qP, va_K.moved (u := U) (U := U.calling g mk a) (Vm.Alike.refl U.vm) qK, qD⟩, va_recv hK hP (ci := 0) (q0 := 1) rfl rfl, fun U hU hW => ⟨rfl, by rw [hU], by rw [hU]; exact hPc, va_K.moved hW.alike hK, hDc.weaken (fun _ _ _ _ => trivial)⟩⟩ rfl rfl hl.1 rfl (lv_room (Nat.le_of_ble_eq_true rfl)) d_MG_mergeOnce_43 ⟨Nat.le_of_ble_eq_true rfl, Nat.le_of_ble_eq_true rfl⟩) hS (fun q _ h => hFc q h) hFc (fun r_12 u t H1 locs ht hvm hw hB hz1 hk1 hS => ?_)
          subst hw
          obtain ⟨hP1, hK1, hD1⟩ := hB
          rw [ht] at hP1
          have hP1 : va_P D cls9 (wd_Ga_between cA a_n a_p n_x n_y n_nodes n_aloneB n_pairA n_pairB p_nodes p_count p_groups) H1 := hP1
          obtain ⟨hP, hD⟩ := va_join (wr := ([0, 24] : List Nat).filterMap (fun i => (wd_MG_mergeOnce cA a_m a_g a_n a_h a_u a_p a_e a_s a_t n_x n_y n_nodes n_aloneB n_pairA n_pairB p_nodes p_count p_groups p_names)[i]?)) (w1 := (wd_Ga_between cA a_n a_p n_x n_y n_nodes n_aloneB n_pairA n_pairB p_nodes p_count p_groups)) hP hD [1, 2, 3, 4, 5, 6, 7, 8, 9, 10, 11, 12, 13, 14, 15, 16, 17, 18, 19, 20, 21, 22, 23] [0, 24] rfl rfl (by decide) (by decide) hk1 hFc hP1 hD1
          generalize H1 = H at hP hS ⊢
          have hP : va_P D cls9 (wd_MG_mergeOnce cA a_m a_g a_n a_h a_u a_p a_e a_s a_t n_x n_y n_nodes n_aloneB n_pairA n_pairB p_nodes p_count p_groups p_names) H := hP.sub [0, 2, 3, 4, 5, 6, 7, 8, 9, 10, 11, 12, 13, 14, 15, 16, 17, 18, 19, 20, 21, 22, 23, 24, 1] rfl
          have hD : va_D A (wd_MG_mergeOnce cA a_m a_g a_n a_h a_u a_p a_e a_s a_t n_x n_y n_nodes n_aloneB n_pairA n_pairB p_nodes p_count p_groups p_names) := hD.sub [0, 2, 3, 4, 5, 6, 7, 8, 9, 10, 11, 12, 13, 14, 15, 16, 17, 18, 19, 20, 21, 22, 23, 24, 1] (by decide) rfl
          refine lv_lstore (lv' := [(8, .long r_12), (7, .int x7_25), (6, .int x6_10), (4, .long x4_25), (3, .int x3_25), (2, .int x2_25), (0, .ref (a_m 0)), (1, .ref (a_p 0))]) hx hb d_MG_mergeOnce_46 hl (by decide) rfl (fun ls hl => ?_)
          refine lv_iload_n hx hb d_MG_mergeOnce_48 rfl (lv_at hl 5 rfl) ?_
          refine cast (hG _ _ _ _ _ _ _) (jn_go h (fun zz : Unit => ∀ (H : Heap) (locs : List Loc) (ls : Array Slot), va_P D cls9 (wd_MG_mergeOnce cA a_m a_g a_n a_h a_u a_p a_e a_s a_t n_x n_y n_nodes n_aloneB n_pairA n_pairB p_nodes p_count p_groups p_names) H → va_D A (wd_MG_mergeOnce cA a_m a_g a_n a_h a_u a_p a_e a_s a_t n_x n_y n_nodes n_aloneB n_pairA n_pairB p_nodes p_count p_groups p_names) → va_S A s.heap H locs → lv_has ls 10 [(8, .long r_12), (7, .int x7_25), (6, .int x6_10), (4, .long x4_25), (3, .int x3_25), (2, .int x2_25), (0, .ref (a_m 0)), (1, .ref (a_p 0))] → G H locs 0 0 ls 60 []) ?_ ?_)
          · intro zz h H locs ls hP hD hS hl
            have hP : va_P D cls9 (wd_MG_mergeOnce cA a_m a_g a_n a_h a_u a_p a_e a_s a_t n_x n_y n_nodes n_aloneB n_pairA n_pairB p_nodes p_count p_groups p_names) H := hP
            have hD : va_D A (wd_MG_mergeOnce cA a_m a_g a_n a_h a_u a_p a_e a_s a_t n_x n_y n_nodes n_aloneB n_pairA n_pairB p_nodes p_count p_groups p_names) := hD
            have hl : lv_has ls 10 [(8, .long r_12), (7, .int x7_25), (6, .int x6_10), (4, .long x4_25), (3, .int x3_25), (2, .int x2_25), (0, .ref (a_m 0)), (1, .ref (a_p 0))] := hl
            refine cast (hG _ _ _ _ _ _ _).symm ?_
            refine lv_iload hx hb d_MG_mergeOnce_60 (lv_at hl 2 rfl) ?_
            refine lv_istore_n (lv' := [(2, .int x6_10), (8, .long r_12), (7, .int x7_25), (6, .int x6_10), (4, .long x4_25), (3, .int x3_25), (0, .ref (a_m 0)), (1, .ref (a_p 0))]) hx hb d_MG_mergeOnce_62 rfl hl (by decide) rfl (fun ls hl => ?_)
            refine lv_iload hx hb d_MG_mergeOnce_63 (lv_at hl 2 rfl) ?_
            refine lv_istore_n (lv' := [(3, .int x7_25), (2, .int x6_10), (8, .long r_12), (7, .int x7_25), (6, .int x6_10), (4, .long x4_25), (0, .ref (a_m 0)), (1, .ref (a_p 0))]) hx hb d_MG_mergeOnce_65 rfl hl (by decide) rfl (fun ls hl => ?_)
            refine lv_lload hx hb d_MG_mergeOnce_66 (lv_at hl 2 rfl) ?_
            refine lv_lstore (lv' := [(4, .long r_12), (3, .int x7_25), (2, .int x6_10), (8, .long r_12), (7, .int x7_25), (6, .int x6_10), (0, .ref (a_m 0)), (1, .ref (a_p 0))]) hx hb d_MG_mergeOnce_68 hl (by decide) rfl (fun ls hl => ?_)
            refine lv_iinc (v := (x7_25 + 1)) (lv' := [(7, .int (x7_25 + 1)), (4, .long r_12), (3, .int x7_25), (2, .int x6_10), (8, .long r_12), (6, .int x6_10), (0, .ref (a_m 0)), (1, .ref (a_p 0))]) hx hb d_MG_mergeOnce_70 hl (k := 4) rfl rfl (by decide) rfl (fun ls hl => ?_)
            refine lv_goto (tgt := 25) hx hb d_MG_mergeOnce_73 (by decide) ?_
            exact cast (hG _ _ _ _ _ _ _) (hB_25 (x6_10, x7_25, r_12, (x7_25 + 1)) h _ _ _ hP hD hS (lv_sub hl [0, 5, 1, 2, 3, 6, 7] rfl))
          · intro j60 hJ_60 h
            refine cast (hG _ _ _ _ _ _ _).symm ?_
            refine lv_if_lt (tgt := 60) hx hb d_MG_mergeOnce_49 (by decide) (fun c_15 => ?_) (fun c_15 => ?_)
            · have h := ifp (c_15) h
              exact cast (hG _ _ _ _ _ _ _) (hJ_60 () h _ _ _ hP hD hS (lv_sub hl [0, 1, 2, 3, 4, 5, 6, 7] rfl))
            · have h := ifn (c_15) h
              refine lv_lload hx hb d_MG_mergeOnce_52 (lv_at hl 0 rfl) ?_
              refine lv_lload hx hb d_MG_mergeOnce_54 (lv_at hl 3 rfl) ?_
              refine W.lcmp hx hb d_MG_mergeOnce_56 ?_
              refine lv_if_le (tgt := 70) hx hb d_MG_mergeOnce_57 (by decide) (fun c_16 => ?_) (fun c_16 => ?_)
              · have h := ifp (lc_le.mp (c_16)) h
                refine lv_iinc (v := (x7_25 + 1)) (lv' := [(7, .int (x7_25 + 1)), (8, .long r_12), (6, .int x6_10), (4, .long x4_25), (3, .int x3_25), (2, .int x2_25), (0, .ref (a_m 0)), (1, .ref (a_p 0))]) hx hb d_MG_mergeOnce_70 hl (k := 1) rfl rfl (by decide) rfl (fun ls hl => ?_)
                refine lv_goto (tgt := 25) hx hb d_MG_mergeOnce_73 (by decide) ?_
                exact cast (hG _ _ _ _ _ _ _) (hB_25 (x2_25, x3_25, x4_25, (x7_25 + 1)) h _ _ _ hP hD hS (lv_sub hl [0, 2, 3, 4, 5, 6, 7] rfl))
              · have h := ifn (fun q => (c_16) (lc_le.mpr q)) h
                exact cast (hG _ _ _ _ _ _ _) (hJ_60 () h _ _ _ hP hD hS (lv_sub hl [0, 1, 2, 3, 4, 5, 6, 7] rfl))
def wd_MG_merged (cA : Nat → ClassId) (a_m a_g a_n a_h a_u a_e a_s a_t : Nat → Nat) (g_manner : Int32) (g_nodes : Int32) (g_arcs : Int32) (n_x : Int32) (n_y : Int32) (n_nodes : Int32) (n_aloneB : Int64) (n_pairA : Nat → Nat → Int64) (n_pairB : Nat → Nat → Int64) (h_nodes : Int32) (h_count : Int32) (h_groups : Nat → Int32) (h_names : Nat → Int32) : va_W := [(a_m 0, .inr (7, [.ref (a_g 0), .ref (a_n 0), .ref (a_h 0), .ref (a_u 0), .ref (a_e 0), .ref (a_s 0), .ref (a_t 0)])), (a_g 0, .inr (1, [.int g_manner, .int g_nodes, .int g_arcs, .ref (a_g 1), .ref (a_g 2), .ref (a_g 3)])), (a_n 0, .inr (0, [.int n_x, .int n_y, .int n_nodes, .long n_aloneB, .ref (a_n 1), .ref (a_n 11), .ref (a_n 21), .ref (a_n 31), .ref (a_n 32)])), (a_n 1, .inl (cA 4, 9, .inr (.inr (.inr (.inr (fun i => if i < 9 then some (a_n (i + 2)) else none)))))), (a_n (0 + 2), .inl (cA 1, 9, .inr (.inl (n_pairA 0)))), (a_n (1 + 2), .inl (cA 1, 9, .inr (.inl (n_pairA 1)))), (a_n (2 + 2), .inl (cA 1, 9, .inr (.inl (n_pairA 2)))), (a_n (3 + 2), .inl (cA 1, 9, .inr (.inl (n_pairA 3)))), (a_n (4 + 2), .inl (cA 1, 9, .inr (.inl (n_pairA 4)))), (a_n (5 + 2), .inl (cA 1, 9, .inr (.inl (n_pairA 5)))), (a_n (6 + 2), .inl (cA 1, 9, .inr (.inl (n_pairA 6)))), (a_n (7 + 2), .inl (cA 1, 9, .inr (.inl (n_pairA 7)))), (a_n (8 + 2), .inl (cA 1, 9, .inr (.inl (n_pairA 8)))), (a_n 11, .inl (cA 4, 9, .inr (.inr (.inr (.inr (fun i => if i < 9 then some (a_n (i + 12)) else none)))))), (a_n (0 + 12), .inl (cA 1, 9, .inr (.inl (n_pairB 0)))), (a_n (1 + 12), .inl (cA 1, 9, .inr (.inl (n_pairB 1)))), (a_n (2 + 12), .inl (cA 1, 9, .inr (.inl (n_pairB 2)))), (a_n (3 + 12), .inl (cA 1, 9, .inr (.inl (n_pairB 3)))), (a_n (4 + 12), .inl (cA 1, 9, .inr (.inl (n_pairB 4)))), (a_n (5 + 12), .inl (cA 1, 9, .inr (.inl (n_pairB 5)))), (a_n (6 + 12), .inl (cA 1, 9, .inr (.inl (n_pairB 6)))), (a_n (7 + 12), .inl (cA 1, 9, .inr (.inl (n_pairB 7)))), (a_n (8 + 12), .inl (cA 1, 9, .inr (.inl (n_pairB 8)))), (a_h 0, .inr (2, [.int h_nodes, .int h_count, .ref (a_h 1), .ref (a_h 2)])), (a_h 1, .inl (cA 0, 9, .inl h_groups)), (a_h 2, .inl (cA 0, 10, .inl h_names))]
theorem row_MG_merged_n_pairA {cA : Nat → ClassId} {a_m a_g a_n a_h a_u a_e a_s a_t : Nat → Nat} {g_manner : Int32} {g_nodes : Int32} {g_arcs : Int32} {n_x : Int32} {n_y : Int32} {n_nodes : Int32} {n_aloneB : Int64} {n_pairB : Nat → Nat → Int64} {h_nodes : Int32} {h_count : Int32} {h_groups : Nat → Int32} {h_names : Nat → Int32} (n_pairA : Nat → Nat → Int64) (k : Nat) (hk : k < 9) : (wd_MG_merged cA a_m a_g a_n a_h a_u a_e a_s a_t g_manner g_nodes g_arcs n_x n_y n_nodes n_aloneB n_pairA n_pairB h_nodes h_count h_groups h_names)[4 + k]? = some (a_n (k + 2), .inl (cA 1, 9, .inr (.inl (n_pairA k)))) := by
  rcases lt9 hk with rfl | rfl | rfl | rfl | rfl | rfl | rfl | rfl | rfl <;> rfl
theorem set_MG_merged_n_pairA {cA : Nat → ClassId} {a_m a_g a_n a_h a_u a_e a_s a_t : Nat → Nat} {g_manner : Int32} {g_nodes : Int32} {g_arcs : Int32} {n_x : Int32} {n_y : Int32} {n_nodes : Int32} {n_aloneB : Int64} {n_pairB : Nat → Nat → Int64} {h_nodes : Int32} {h_count : Int32} {h_groups : Nat → Int32} {h_names : Nat → Int32} {n_pairA : Nat → Nat → Int64} {f : Nat → Int64} (k : Nat) (hk : k < 9) : (wd_MG_merged cA a_m a_g a_n a_h a_u a_e a_s a_t g_manner g_nodes g_arcs n_x n_y n_nodes n_aloneB n_pairA n_pairB h_nodes h_count h_groups h_names).set (4 + k) (a_n (k + 2), .inl (cA 1, 9, .inr (.inl f))) = wd_MG_merged cA a_m a_g a_n a_h a_u a_e a_s a_t g_manner g_nodes g_arcs n_x n_y n_nodes n_aloneB (va_up n_pairA k f) n_pairB h_nodes h_count h_groups h_names := by
  rcases lt9 hk with rfl | rfl | rfl | rfl | rfl | rfl | rfl | rfl | rfl <;> rfl
theorem row_MG_merged_n_pairB {cA : Nat → ClassId} {a_m a_g a_n a_h a_u a_e a_s a_t : Nat → Nat} {g_manner : Int32} {g_nodes : Int32} {g_arcs : Int32} {n_x : Int32} {n_y : Int32} {n_nodes : Int32} {n_aloneB : Int64} {n_pairA : Nat → Nat → Int64} {h_nodes : Int32} {h_count : Int32} {h_groups : Nat → Int32} {h_names : Nat → Int32} (n_pairB : Nat → Nat → Int64) (k : Nat) (hk : k < 9) : (wd_MG_merged cA a_m a_g a_n a_h a_u a_e a_s a_t g_manner g_nodes g_arcs n_x n_y n_nodes n_aloneB n_pairA n_pairB h_nodes h_count h_groups h_names)[14 + k]? = some (a_n (k + 12), .inl (cA 1, 9, .inr (.inl (n_pairB k)))) := by
  rcases lt9 hk with rfl | rfl | rfl | rfl | rfl | rfl | rfl | rfl | rfl <;> rfl
theorem set_MG_merged_n_pairB {cA : Nat → ClassId} {a_m a_g a_n a_h a_u a_e a_s a_t : Nat → Nat} {g_manner : Int32} {g_nodes : Int32} {g_arcs : Int32} {n_x : Int32} {n_y : Int32} {n_nodes : Int32} {n_aloneB : Int64} {n_pairA : Nat → Nat → Int64} {h_nodes : Int32} {h_count : Int32} {h_groups : Nat → Int32} {h_names : Nat → Int32} {n_pairB : Nat → Nat → Int64} {f : Nat → Int64} (k : Nat) (hk : k < 9) : (wd_MG_merged cA a_m a_g a_n a_h a_u a_e a_s a_t g_manner g_nodes g_arcs n_x n_y n_nodes n_aloneB n_pairA n_pairB h_nodes h_count h_groups h_names).set (14 + k) (a_n (k + 12), .inl (cA 1, 9, .inr (.inl f))) = wd_MG_merged cA a_m a_g a_n a_h a_u a_e a_s a_t g_manner g_nodes g_arcs n_x n_y n_nodes n_aloneB n_pairA (va_up n_pairB k f) h_nodes h_count h_groups h_names := by
  rcases lt9 hk with rfl | rfl | rfl | rfl | rfl | rfl | rfl | rfl | rfl <;> rfl
noncomputable def s_MG_merged_40 (x1 : Int32) (h_nodes : Int32) (n_nodes : Int32) (n_pairA : Nat → Nat → Int64) (n_pairB : Nat → Nat → Int64) (n_x : Int32) (n_y : Int32) (zz : Int32 × Int32 × (Nat → Int32) × (Nat → Int32)) (back exit : (Int32 × Int32 × (Nat → Int32) × (Nat → Int32)) → Option (Int32 × Int32 × Int32 × (Nat → Int32) × (Nat → Int32))) : Option (Int32 × Int32 × Int32 × (Nat → Int32) × (Nat → Int32)) :=
  (if x1 ≤ zz.1 then (exit (zz.1, zz.2.1, zz.2.2.1, zz.2.2.2)) else ((m_MG_mergeOnce n_x n_y n_nodes n_pairA n_pairB h_nodes zz.2.1 zz.2.2.1 zz.2.2.2).bind (fun r50 : Int32 × (Nat → Int32) × (Nat → Int32) => (back ((zz.1 + 1), r50.1, r50.2.1, r50.2.2)))))
noncomputable def m_MG_merged (g_nodes : Int32) (n_x : Int32) (n_y : Int32) (n_nodes : Int32) (n_pairA : Nat → Nat → Int64) (n_pairB : Nat → Nat → Int64) (h_nodes : Int32) (h_count : Int32) (h_groups : Nat → Int32) (h_names : Nat → Int32) (v1 : Int32) : Option (Int32 × Int32 × Int32 × (Nat → Int32) × (Nat → Int32)) :=
  (if v1 < 0 then some ((-2 : Int32), h_nodes, h_count, h_groups, h_names) else (if v1 ≤ (if (0 : Int32) < (g_nodes - (1 : Int32)) then (g_nodes - (1 : Int32)) else (0 : Int32)) then ((m_Pa_separate h_groups g_nodes).bind (fun r35 : Int32 × Int32 × (Nat → Int32) => (loopC (s_MG_merged_40 v1 r35.1 n_nodes n_pairA n_pairB n_x n_y) (fun z40 : Int32 × Int32 × (Nat → Int32) × (Nat → Int32) => some (z40.2.1, r35.1, z40.2.1, z40.2.2.1, z40.2.2.2)) FU ((0 : Int32), r35.2.1, r35.2.2, h_names)))) else some ((-2 : Int32), h_nodes, h_count, h_groups, h_names)))
set_option maxHeartbeats 4000000 in
set_option maxRecDepth 100000 in
theorem c_MG_merged (l : Launch) (D : va_G) (cA : Nat → ClassId) (a_m a_g a_n a_h a_u a_e a_s a_t : Nat → Nat) (sz : Nat) (g_manner : Int32) (g_nodes : Int32) (g_arcs : Int32) (n_x : Int32) (n_y : Int32) (n_nodes : Int32) (n_aloneB : Int64) (n_pairA : Nat → Nat → Int64) (n_pairB : Nat → Nat → Int64) (h_nodes : Int32) (h_count : Int32) (h_groups : Nat → Int32) (h_names : Nat → Int32) (v1 : Int32) (out : Int32 × Int32 × Int32 × (Nat → Int32) × (Nat → Int32)) (h : m_MG_merged g_nodes n_x n_y n_nodes n_pairA n_pairB h_nodes h_count h_groups h_names v1 = some out) : Met l y_MG_merged w_MG_merged ({ frames := 4, cells := 0, slots := 0, locals := 97 }) (va_Pc [.ref (a_m 0), .int v1] (fun U => U.heap.size = sz ∧ va_P D cls9 (wd_MG_merged cA a_m a_g a_n a_h a_u a_e a_s a_t g_manner g_nodes g_arcs n_x n_y n_nodes n_aloneB n_pairA n_pairB h_nodes h_count h_groups h_names) U.heap ∧ va_K D cls9 (tys5 cA) U ∧ va_D (fun _ => True) (wd_MG_merged cA a_m a_g a_n a_h a_u a_e a_s a_t g_manner g_nodes g_arcs n_x n_y n_nodes n_aloneB n_pairA n_pairB h_nodes h_count h_groups h_names))) (va_Qi (fun (rr : Int32) (uu : Int32 × Int32 × (Nat → Int32) × (Nat → Int32)) => (rr, uu) = out) (fun (uu : Int32 × Int32 × (Nat → Int32) × (Nat → Int32)) (t : State) => va_P D cls9 (wd_MG_merged cA a_m a_g a_n a_h a_u a_e a_s a_t g_manner g_nodes g_arcs n_x n_y n_nodes n_aloneB n_pairA n_pairB uu.1 uu.2.1 uu.2.2.1 uu.2.2.2) t.heap ∧ va_K D cls9 (tys5 cA) t ∧ va_D (va_A (wd_MG_merged cA a_m a_g a_n a_h a_u a_e a_s a_t g_manner g_nodes g_arcs n_x n_y n_nodes n_aloneB n_pairA n_pairB h_nodes h_count h_groups h_names) sz) (wd_MG_merged cA a_m a_g a_n a_h a_u a_e a_s a_t g_manner g_nodes g_arcs n_x n_y n_nodes n_aloneB n_pairA n_pairB uu.1 uu.2.1 uu.2.2.1 uu.2.2.2)) (va_A (wd_MG_merged cA a_m a_g a_n a_h a_u a_e a_s a_t g_manner g_nodes g_arcs n_x n_y n_nodes n_aloneB n_pairA n_pairB h_nodes h_count h_groups h_names) sz)) 0 0 (va_A (wd_MG_merged cA a_m a_g a_n a_h a_u a_e a_s a_t g_manner g_nodes g_arcs n_x n_y n_nodes n_aloneB n_pairA n_pairB h_nodes h_count h_groups h_names) sz) := by
  refine Met.ofW (cc := b_MG_merged) (maxL := 3) (ret := (Option.some Jvm.ClassFile.FieldType.int)) (by decide) rfl ?_
  intro p e s m args below meth c s₁ B hml hv
  obtain ⟨rfl, hsz, hP, hK, hD0⟩ := hv
  have hx := B.exec
  have hb := B.bytes
  have hr := B.returns
  have hts := atoms_spec (ws := w_MG_merged) B.pre
  have hal : ∀ w ∈ ALLW, w.before _ s = true := fun w hw => hts w (List.mem_cons_of_mem _ hw)
  have hown : s.vm.findClass R_MG = some m.cls := findClass_of_methodNamed B.named
  have hlocks := B.notSynchronized
  subst hsz
  have hD := hD0.self (sz := s.heap.size)
  generalize hAe : va_A (wd_MG_merged cA a_m a_g a_n a_h a_u a_e a_s a_t g_manner g_nodes g_arcs n_x n_y n_nodes n_aloneB n_pairA n_pairB h_nodes h_count h_groups h_names) s.heap.size = A at hD ⊢
  have hA : ∀ q : Nat, s.heap.size ≤ q → A q := fun q h => by rw [← hAe]; exact Or.inr h
  have hS : va_S A s.heap s.heap [] := va_S.rf
  have hl := lv_entry ([.ref (a_m 0), .int v1]) (n := 3) (Nat.le_of_ble_eq_true rfl)
  rw [lg_entry_eq]
  generalize (lg_sl ([.ref (a_m 0), .int v1]) ++ List.replicate (3 - (lg_sl ([.ref (a_m 0), .int v1])).length) Slot.unset).toArray = ls at hl ⊢
  have hl : lv_has ls 3 [(0, .ref (a_m 0)), (1, .int v1)] := hl
  refine wg (fun G hG => ?_)
  refine cast (hG _ _ _ _ _ _ _).symm ?_
  obtain ⟨H, locs, hHl, hS⟩ : ∃ (H : Heap) (locs : List Loc), (H = s.heap ∧ locs = []) ∧ va_S A s.heap H locs := ⟨s.heap, [], ⟨rfl, rfl⟩, hS⟩
  have hP : va_P D cls9 (wd_MG_merged cA a_m a_g a_n a_h a_u a_e a_s a_t g_manner g_nodes g_arcs n_x n_y n_nodes n_aloneB n_pairA n_pairB h_nodes h_count h_groups h_names) H := by rw [hHl.1]; exact hP
  rw [← hHl.1, ← hHl.2]
  clear hHl
  refine lv_iload_n hx hb d_MG_merged_0 rfl (lv_at hl 1 rfl) ?_
  refine lv_if_lt (tgt := 21) hx hb d_MG_merged_1 (by decide) (fun c_1 => ?_) (fun c_1 => ?_)
  · have h := ifp (c_1) h
    refine lv_bipush (v := (-2)) hx hb d_MG_merged_21 (by decide) ?_
    exact W.iret (v := (-2 : Int32)) hx hb hr (fun t ht hW => ⟨⟨(-2 : Int32), (h_nodes, h_count, h_groups, h_names), rfl, Option.some.inj h, by rw [ht]; exact hP, va_K.moved hW.alike hK, hD⟩, hS.F ht⟩) hS.2.2 d_MG_merged_23
  · have h := ifn (c_1) h
    refine lv_iload_n hx hb d_MG_merged_4 rfl (lv_at hl 1 rfl) ?_
    refine lv_iconst (v := 0) hx hb d_MG_merged_5 (by decide) ?_
    refine lv_aload_n hx hb d_MG_merged_6 rfl (lv_at hl 0 rfl) ?_
    refine va_get (ci := 7) (v := .ref (a_g 0)) (C := R_MG) (T := F_MG) (N := 7) hx hb hal in_MG hown hK hP 0 rfl rfl 0 (by decide) (hal _ kw_244) (fun _ h9 => h9) rfl d_MG_merged_7 ?_
    refine va_get (ci := 1) (v := .int g_nodes) (C := R_Gr) (T := F_Gr) (N := 6) hx hb hal in_Gr hown hK hP 1 rfl rfl 1 (by decide) (hal _ kw_32) (fun _ h9 => h9) rfl d_MG_merged_10 ?_
    refine lv_iconst (v := 1) hx hb d_MG_merged_13 (by decide) ?_
    refine lv_isub hx hb d_MG_merged_14 ?_
    refine va_mmax hx hb (by rw [hml]; exact hl.1.symm) hown (hal _ kw_510) (hal _ kw_476) (hal _ kw_11) (hal _ kw_477) (Nat.le_of_ble_eq_true rfl) (Nat.le_of_ble_eq_true rfl) (Nat.zero_le _) (Nat.zero_le _) d_MG_merged_15 ?_
    refine lv_icmp_le (tgt := 24) hx hb d_MG_merged_18 (by decide) (fun c_2 => ?_) (fun c_2 => ?_)
    · have h := ifp (c_2) h
      refine lv_aload_n hx hb d_MG_merged_24 rfl (lv_at hl 0 rfl) ?_
      refine va_get (ci := 7) (v := .ref (a_h 0)) (C := R_MG) (T := F_MG) (N := 7) hx hb hal in_MG hown hK hP 0 rfl rfl 2 (by decide) (hal _ kw_246) (fun _ h9 => h9) rfl d_MG_merged_25 ?_
      refine lv_aload_n hx hb d_MG_merged_28 rfl (lv_at hl 0 rfl) ?_
      refine va_get (ci := 7) (v := .ref (a_g 0)) (C := R_MG) (T := F_MG) (N := 7) hx hb hal in_MG hown hK hP 0 rfl rfl 0 (by decide) (hal _ kw_244) (fun _ h9 => h9) rfl d_MG_merged_29 ?_
      refine va_get (ci := 1) (v := .int g_nodes) (C := R_Gr) (T := F_Gr) (N := 6) hx hb hal in_Gr hown hK hP 1 rfl rfl 1 (by decide) (hal _ kw_32) (fun _ h9 => h9) rfl d_MG_merged_32 ?_
      obtain ⟨o_9, hc_8, h⟩ := bd h
      have hPc := hP.sub (ws' := (wd_Pa_separate cA a_h h_nodes h_count h_groups)) [23, 24] rfl
      have hDc := hD.sub (ws' := (wd_Pa_separate cA a_h h_nodes h_count h_groups)) [23, 24] (by decide) rfl
      have hFc := va_free (wc := (wd_Pa_separate cA a_h h_nodes h_count h_groups)) hD hS hA [23, 24] rfl
      refine va_callv (va_runV (C := R_Pa) (As := [.int g_nodes]) (rest := []) ⟨hx, hb, hml, hown, hal⟩ (c_Pa_separate l D cA a_h H.size h_nodes h_count h_groups g_nodes o_9 hc_8) (cwV 1 hal (goodV kw_322 kw_323 kw_324 kw_4 kw_325) rfl rfl rfl (by decide +kernel) ⟨Nat.le_of_ble_eq_true rfl, Nat.le_of_ble_eq_true rfl⟩) ⟨fun a U g mk q => by obtain ⟨q0, q1, qP, qK, qD⟩ := q; exact ⟨q0, q1, qP, va_K.moved (u := U) (U := U.calling g mk a) (Vm.Alike.refl U.vm) qK, qD⟩, va_recv hK hP (ci := 2) (q0 := 23) rfl rfl, fun U hU hW => ⟨rfl, by rw [hU], by rw [hU]; exact hPc, va_K.moved hW.alike hK, hDc.weaken (fun _ _ _ _ => trivial)⟩⟩ rfl rfl hl.1 rfl (lv_room (Nat.le_of_ble_eq_true rfl)) d_MG_merged_35 ⟨Nat.le_of_ble_eq_true rfl, Nat.le_of_ble_eq_true rfl⟩) hS (fun q _ h => hFc q h) hFc (fun u t H1 locs ht hvm hw hB hz1 hk1 hS => ?_)
      obtain ⟨u_5, u_6, u_7⟩ := u
      subst hw
      obtain ⟨hP1, hK1, hD1⟩ := hB
      rw [ht] at hP1
      have hP1 : va_P D cls9 (wd_Pa_separate cA a_h u_5 u_6 u_7) H1 := hP1
      obtain ⟨hP, hD⟩ := va_join (wr := ([0, 1, 2, 3, 4, 5, 6, 7, 8, 9, 10, 11, 12, 13, 14, 15, 16, 17, 18, 19, 20, 21, 22, 25] : List Nat).filterMap (fun i => (wd_MG_merged cA a_m a_g a_n a_h a_u a_e a_s a_t g_manner g_nodes g_arcs n_x n_y n_nodes n_aloneB n_pairA n_pairB h_nodes h_count h_groups h_names)[i]?)) (w1 := (wd_Pa_separate cA a_h u_5 u_6 u_7)) hP hD [23, 24] [0, 1, 2, 3, 4, 5, 6, 7, 8, 9, 10, 11, 12, 13, 14, 15, 16, 17, 18, 19, 20, 21, 22, 25] rfl rfl (by decide) (by decide) hk1 hFc hP1 hD1
      generalize H1 = H at hP hS ⊢
      have hP : va_P D cls9 (wd_MG_merged cA a_m a_g a_n a_h a_u a_e a_s a_t g_manner g_nodes g_arcs n_x n_y n_nodes n_aloneB n_pairA n_pairB u_5 u_6 u_7 h_names) H := hP.sub [0, 1, 2, 3, 4, 5, 6, 7, 8, 9, 10, 11, 12, 13, 14, 15, 16, 17, 18, 19, 20, 21, 22, 24, 25, 23] rfl
      have hD : va_D A (wd_MG_merged cA a_m a_g a_n a_h a_u a_e a_s a_t g_manner g_nodes g_arcs n_x n_y n_nodes n_aloneB n_pairA n_pairB u_5 u_6 u_7 h_names) := hD.sub [0, 1, 2, 3, 4, 5, 6, 7, 8, 9, 10, 11, 12, 13, 14, 15, 16, 17, 18, 19, 20, 21, 22, 24, 25, 23] (by decide) rfl
      refine lv_iconst (v := 0) hx hb d_MG_merged_38 (by decide) ?_
      refine lv_istore_n (lv' := [(2, .int (0 : Int32)), (0, .ref (a_m 0)), (1, .int v1)]) hx hb d_MG_merged_39 rfl hl (by decide) rfl (fun ls hl => ?_)
      refine cast (hG _ _ _ _ _ _ _) (lp_go2 h (fun zz : Int32 × Int32 × (Nat → Int32) × (Nat → Int32) => ∀ (H : Heap) (locs : List Loc) (ls : Array Slot), va_P D cls9 (wd_MG_merged cA a_m a_g a_n a_h a_u a_e a_s a_t g_manner g_nodes g_arcs n_x n_y n_nodes n_aloneB n_pairA n_pairB u_5 zz.2.1 zz.2.2.1 zz.2.2.2) H → va_D A (wd_MG_merged cA a_m a_g a_n a_h a_u a_e a_s a_t g_manner g_nodes g_arcs n_x n_y n_nodes n_aloneB n_pairA n_pairB u_5 zz.2.1 zz.2.2.1 zz.2.2.2) → va_S A s.heap H locs → lv_has ls 3 [(2, .int zz.1), (0, .ref (a_m 0)), (1, .int v1)] → G H locs 0 0 ls 59 []) ?_ (fun zz : Int32 × Int32 × (Nat → Int32) × (Nat → Int32) => ∀ (H : Heap) (locs : List Loc) (ls : Array Slot), va_P D cls9 (wd_MG_merged cA a_m a_g a_n a_h a_u a_e a_s a_t g_manner g_nodes g_arcs n_x n_y n_nodes n_aloneB n_pairA n_pairB u_5 zz.2.1 zz.2.2.1 zz.2.2.2) H → va_D A (wd_MG_merged cA a_m a_g a_n a_h a_u a_e a_s a_t g_manner g_nodes g_arcs n_x n_y n_nodes n_aloneB n_pairA n_pairB u_5 zz.2.1 zz.2.2.1 zz.2.2.2) → va_S A s.heap H locs → lv_has ls 3 [(2, .int zz.1), (0, .ref (a_m 0)), (1, .int v1)] → G H locs 0 0 ls 40 []) ?_ _ _ ls hP hD hS (lv_sub hl [0, 1, 2] rfl))
      · intro zz h H locs ls hP hD hS hl
        obtain ⟨x2_40e, h_count_40e, h_groups_40e, h_names_40e⟩ := zz
        have hP : va_P D cls9 (wd_MG_merged cA a_m a_g a_n a_h a_u a_e a_s a_t g_manner g_nodes g_arcs n_x n_y n_nodes n_aloneB n_pairA n_pairB u_5 h_count_40e h_groups_40e h_names_40e) H := hP
        have hD : va_D A (wd_MG_merged cA a_m a_g a_n a_h a_u a_e a_s a_t g_manner g_nodes g_arcs n_x n_y n_nodes n_aloneB n_pairA n_pairB u_5 h_count_40e h_groups_40e h_names_40e) := hD
        have hl : lv_has ls 3 [(2, .int x2_40e), (0, .ref (a_m 0)), (1, .int v1)] := hl
        refine cast (hG _ _ _ _ _ _ _).symm ?_
        refine lv_aload_n hx hb d_MG_merged_59 rfl (lv_at hl 1 rfl) ?_
        refine va_get (ci := 7) (v := .ref (a_h 0)) (C := R_MG) (T := F_MG) (N := 7) hx hb hal in_MG hown hK hP 0 rfl rfl 2 (by decide) (hal _ kw_246) (fun _ h9 => h9) rfl d_MG_merged_60 ?_
        refine va_get (ci := 2) (v := .int h_count_40e) (C := R_Pa) (T := F_Pa) (N := 4) hx hb hal in_Pa hown hK hP 23 rfl rfl 1 (by decide) (hal _ kw_113) (fun _ h9 => h9) rfl d_MG_merged_63 ?_
        exact W.iret (v := h_count_40e) hx hb hr (fun t ht hW => ⟨⟨h_count_40e, (u_5, h_count_40e, h_groups_40e, h_names_40e), rfl, Option.some.inj h, by rw [ht]; exact hP, va_K.moved hW.alike hK, hD⟩, hS.F ht⟩) hS.2.2 d_MG_merged_66
      · intro back exit zz hB_40 hE_40 h H locs ls hP hD hS hl
        obtain ⟨x2_40, h_count_40, h_groups_40, h_names_40⟩ := zz
        have hP : va_P D cls9 (wd_MG_merged cA a_m a_g a_n a_h a_u a_e a_s a_t g_manner g_nodes g_arcs n_x n_y n_nodes n_aloneB n_pairA n_pairB u_5 h_count_40 h_groups_40 h_names_40) H := hP
        have hD : va_D A (wd_MG_merged cA a_m a_g a_n a_h a_u a_e a_s a_t g_manner g_nodes g_arcs n_x n_y n_nodes n_aloneB n_pairA n_pairB u_5 h_count_40 h_groups_40 h_names_40) := hD
        have hl : lv_has ls 3 [(2, .int x2_40), (0, .ref (a_m 0)), (1, .int v1)] := hl
        refine cast (hG _ _ _ _ _ _ _).symm ?_
        refine lv_iload_n hx hb d_MG_merged_40 rfl (lv_at hl 0 rfl) ?_
        refine lv_iload_n hx hb d_MG_merged_41 rfl (lv_at hl 2 rfl) ?_
        refine lv_icmp_ge (tgt := 59) hx hb d_MG_merged_42 (by decide) (fun c_10 => ?_) (fun c_10 => ?_)
        · have h := ifp (c_10) h
          exact cast (hG _ _ _ _ _ _ _) (hE_40 (x2_40, h_count_40, h_groups_40, h_names_40) h _ _ _ hP hD hS (lv_sub hl [0, 1, 2] rfl))
        · have h := ifn (c_10) h
          refine lv_aload_n hx hb d_MG_merged_45 rfl (lv_at hl 1 rfl) ?_
          refine lv_aload_n hx hb d_MG_merged_46 rfl (lv_at hl 1 rfl) ?_
          refine va_get (ci := 7) (v := .ref (a_h 0)) (C := R_MG) (T := F_MG) (N := 7) hx hb hal in_MG hown hK hP 0 rfl rfl 2 (by decide) (hal _ kw_246) (fun _ h9 => h9) rfl d_MG_merged_47 ?_
          obtain ⟨o_17, hc_16, h⟩ := bd h
          have hPc := hP.sub (ws' := (wd_MG_mergeOnce cA a_m a_g a_n a_h a_u a_h a_e a_s a_t n_x n_y n_nodes n_aloneB n_pairA n_pairB u_5 h_count_40 h_groups_40 h_names_40)) [0, 2, 3, 4, 5, 6, 7, 8, 9, 10, 11, 12, 13, 14, 15, 16, 17, 18, 19, 20, 21, 22, 23, 24, 25] rfl
          have hDc := hD.sub (ws' := (wd_MG_mergeOnce cA a_m a_g a_n a_h a_u a_h a_e a_s a_t n_x n_y n_nodes n_aloneB n_pairA n_pairB u_5 h_count_40 h_groups_40 h_names_40)) [0, 2, 3, 4, 5, 6, 7, 8, 9, 10, 11, 12, 13, 14, 15, 16, 17, 18, 19, 20, 21, 22, 23, 24, 25] (by decide) rfl
          have hFc := va_free (wc := (wd_MG_mergeOnce cA a_m a_g a_n a_h a_u a_h a_e a_s a_t n_x n_y n_nodes n_aloneB n_pairA n_pairB u_5 h_count_40 h_groups_40 h_names_40)) hD hS hA [0, 2, 3, 4, 5, 6, 7, 8, 9, 10, 11, 12, 13, 14, 15, 16, 17, 18, 19, 20, 21, 22, 23, 24, 25] rfl
          refine va_callv (va_runV (C := R_MG) (As := [.ref (a_h 0)]) (rest := []) ⟨hx, hb, hml, hown, hal⟩ (c_MG_mergeOnce l D cA a_m a_g a_n a_h a_u a_h a_e a_s a_t H.size n_x n_y n_nodes n_aloneB n_pairA n_pairB u_5 h_count_40 h_groups_40 h_names_40 o_17 hc_16) (cwV 1 hal (goodV kw_511 kw_513 kw_p13 kw_1 kw_514) rfl rfl rfl (by decide +kernel) ⟨Nat.le_of_ble_eq_true rfl, Nat.le_of_ble_eq_true rfl⟩) ⟨fun a U g mk q => by obtain ⟨q0, q1, qP, qK, qD⟩ := q; exact ⟨q0, q1, qP, va_K.moved (u := U) (U := U.calling g mk a) (Vm.Alike.refl U.vm) qK, qD⟩, va_recv hK hP (ci := 7) (q0 := 0) rfl rfl, fun U hU hW => ⟨rfl, by rw [hU], by rw [hU]; exact hPc, va_K.moved hW.alike hK, hDc.weaken (fun _ _ _ _ => trivial)⟩⟩ rfl rfl hl.1 rfl (lv_room (Nat.le_of_ble_eq_true rfl)) d_MG_merged_50 ⟨Nat.le_of_ble_eq_true rfl, Nat.le_of_ble_eq_true rfl⟩) hS (fun q _ h => hFc q h) hFc (fun u t H1 locs ht hvm hw hB hz1 hk1 hS => ?_)
          obtain ⟨u_13, u_14, u_15⟩ := u
          subst hw
          obtain ⟨hP1, hK1, hD1⟩ := hB
          rw [ht] at hP1
          have hP1 : va_P D cls9 (wd_MG_mergeOnce cA a_m a_g a_n a_h a_u a_h a_e a_s a_t n_x n_y n_nodes n_aloneB n_pairA n_pairB u_5 u_13 u_14 u_15) H1 := hP1
          obtain ⟨hP, hD⟩ := va_join (wr := ([1] : List Nat).filterMap (fun i => (wd_MG_merged cA a_m a_g a_n a_h a_u a_e a_s a_t g_manner g_nodes g_arcs n_x n_y n_nodes n_aloneB n_pairA n_pairB u_5 h_count_40 h_groups_40 h_names_40)[i]?)) (w1 := (wd_MG_mergeOnce cA a_m a_g a_n a_h a_u a_h a_e a_s a_t n_x n_y n_nodes n_aloneB n_pairA n_pairB u_5 u_13 u_14 u_15)) hP hD [0, 2, 3, 4, 5, 6, 7, 8, 9, 10, 11, 12, 13, 14, 15, 16, 17, 18, 19, 20, 21, 22, 23, 24, 25] [1] rfl rfl (by decide) (by decide) hk1 hFc hP1 hD1
          generalize H1 = H at hP hS ⊢
          have hP : va_P D cls9 (wd_MG_merged cA a_m a_g a_n a_h a_u a_e a_s a_t g_manner g_nodes g_arcs n_x n_y n_nodes n_aloneB n_pairA n_pairB u_5 u_13 u_14 u_15) H := hP.sub [1, 0, 2, 3, 4, 5, 6, 7, 8, 9, 10, 11, 12, 13, 14, 15, 16, 17, 18, 19, 20, 21, 22, 23, 24, 25] rfl
          have hD : va_D A (wd_MG_merged cA a_m a_g a_n a_h a_u a_e a_s a_t g_manner g_nodes g_arcs n_x n_y n_nodes n_aloneB n_pairA n_pairB u_5 u_13 u_14 u_15) := hD.sub [1, 0, 2, 3, 4, 5, 6, 7, 8, 9, 10, 11, 12, 13, 14, 15, 16, 17, 18, 19, 20, 21, 22, 23, 24, 25] (by decide) rfl
          refine lv_iinc (v := (x2_40 + 1)) (lv' := [(2, .int (x2_40 + 1)), (0, .ref (a_m 0)), (1, .int v1)]) hx hb d_MG_merged_53 hl (k := 0) rfl rfl (by decide) rfl (fun ls hl => ?_)
          refine lv_goto (tgt := 40) hx hb d_MG_merged_56 (by decide) ?_
          exact cast (hG _ _ _ _ _ _ _) (hB_40 ((x2_40 + 1), u_13, u_14, u_15) h _ _ _ hP hD hS (lv_sub hl [0, 1, 2] rfl))
    · have h := ifn (c_2) h
      refine lv_bipush (v := (-2)) hx hb d_MG_merged_21 (by decide) ?_
      exact W.iret (v := (-2 : Int32)) hx hb hr (fun t ht hW => ⟨⟨(-2 : Int32), (h_nodes, h_count, h_groups, h_names), rfl, Option.some.inj h, by rw [ht]; exact hP, va_K.moved hW.alike hK, hD⟩, hS.F ht⟩) hS.2.2 d_MG_merged_23
def wd_MG_mergedBest (cA : Nat → ClassId) (a_m a_g a_n a_h a_u a_e a_s a_t : Nat → Nat) (g_manner : Int32) (g_nodes : Int32) (g_arcs : Int32) (n_x : Int32) (n_y : Int32) (n_nodes : Int32) (n_aloneB : Int64) (n_pairA : Nat → Nat → Int64) (n_pairB : Nat → Nat → Int64) (u_nodes : Int32) (u_count : Int32) (u_groups : Nat → Int32) (u_names : Nat → Int32) : va_W := [(a_m 0, .inr (7, [.ref (a_g 0), .ref (a_n 0), .ref (a_h 0), .ref (a_u 0), .ref (a_e 0), .ref (a_s 0), .ref (a_t 0)])), (a_g 0, .inr (1, [.int g_manner, .int g_nodes, .int g_arcs, .ref (a_g 1), .ref (a_g 2), .ref (a_g 3)])), (a_n 0, .inr (0, [.int n_x, .int n_y, .int n_nodes, .long n_aloneB, .ref (a_n 1), .ref (a_n 11), .ref (a_n 21), .ref (a_n 31), .ref (a_n 32)])), (a_n 1, .inl (cA 4, 9, .inr (.inr (.inr (.inr (fun i => if i < 9 then some (a_n (i + 2)) else none)))))), (a_n (0 + 2), .inl (cA 1, 9, .inr (.inl (n_pairA 0)))), (a_n (1 + 2), .inl (cA 1, 9, .inr (.inl (n_pairA 1)))), (a_n (2 + 2), .inl (cA 1, 9, .inr (.inl (n_pairA 2)))), (a_n (3 + 2), .inl (cA 1, 9, .inr (.inl (n_pairA 3)))), (a_n (4 + 2), .inl (cA 1, 9, .inr (.inl (n_pairA 4)))), (a_n (5 + 2), .inl (cA 1, 9, .inr (.inl (n_pairA 5)))), (a_n (6 + 2), .inl (cA 1, 9, .inr (.inl (n_pairA 6)))), (a_n (7 + 2), .inl (cA 1, 9, .inr (.inl (n_pairA 7)))), (a_n (8 + 2), .inl (cA 1, 9, .inr (.inl (n_pairA 8)))), (a_n 11, .inl (cA 4, 9, .inr (.inr (.inr (.inr (fun i => if i < 9 then some (a_n (i + 12)) else none)))))), (a_n (0 + 12), .inl (cA 1, 9, .inr (.inl (n_pairB 0)))), (a_n (1 + 12), .inl (cA 1, 9, .inr (.inl (n_pairB 1)))), (a_n (2 + 12), .inl (cA 1, 9, .inr (.inl (n_pairB 2)))), (a_n (3 + 12), .inl (cA 1, 9, .inr (.inl (n_pairB 3)))), (a_n (4 + 12), .inl (cA 1, 9, .inr (.inl (n_pairB 4)))), (a_n (5 + 12), .inl (cA 1, 9, .inr (.inl (n_pairB 5)))), (a_n (6 + 12), .inl (cA 1, 9, .inr (.inl (n_pairB 6)))), (a_n (7 + 12), .inl (cA 1, 9, .inr (.inl (n_pairB 7)))), (a_n (8 + 12), .inl (cA 1, 9, .inr (.inl (n_pairB 8)))), (a_u 0, .inr (2, [.int u_nodes, .int u_count, .ref (a_u 1), .ref (a_u 2)])), (a_u 1, .inl (cA 0, 9, .inl u_groups)), (a_u 2, .inl (cA 0, 10, .inl u_names))]
theorem row_MG_mergedBest_n_pairA {cA : Nat → ClassId} {a_m a_g a_n a_h a_u a_e a_s a_t : Nat → Nat} {g_manner : Int32} {g_nodes : Int32} {g_arcs : Int32} {n_x : Int32} {n_y : Int32} {n_nodes : Int32} {n_aloneB : Int64} {n_pairB : Nat → Nat → Int64} {u_nodes : Int32} {u_count : Int32} {u_groups : Nat → Int32} {u_names : Nat → Int32} (n_pairA : Nat → Nat → Int64) (k : Nat) (hk : k < 9) : (wd_MG_mergedBest cA a_m a_g a_n a_h a_u a_e a_s a_t g_manner g_nodes g_arcs n_x n_y n_nodes n_aloneB n_pairA n_pairB u_nodes u_count u_groups u_names)[4 + k]? = some (a_n (k + 2), .inl (cA 1, 9, .inr (.inl (n_pairA k)))) := by
  rcases lt9 hk with rfl | rfl | rfl | rfl | rfl | rfl | rfl | rfl | rfl <;> rfl
theorem set_MG_mergedBest_n_pairA {cA : Nat → ClassId} {a_m a_g a_n a_h a_u a_e a_s a_t : Nat → Nat} {g_manner : Int32} {g_nodes : Int32} {g_arcs : Int32} {n_x : Int32} {n_y : Int32} {n_nodes : Int32} {n_aloneB : Int64} {n_pairB : Nat → Nat → Int64} {u_nodes : Int32} {u_count : Int32} {u_groups : Nat → Int32} {u_names : Nat → Int32} {n_pairA : Nat → Nat → Int64} {f : Nat → Int64} (k : Nat) (hk : k < 9) : (wd_MG_mergedBest cA a_m a_g a_n a_h a_u a_e a_s a_t g_manner g_nodes g_arcs n_x n_y n_nodes n_aloneB n_pairA n_pairB u_nodes u_count u_groups u_names).set (4 + k) (a_n (k + 2), .inl (cA 1, 9, .inr (.inl f))) = wd_MG_mergedBest cA a_m a_g a_n a_h a_u a_e a_s a_t g_manner g_nodes g_arcs n_x n_y n_nodes n_aloneB (va_up n_pairA k f) n_pairB u_nodes u_count u_groups u_names := by
  rcases lt9 hk with rfl | rfl | rfl | rfl | rfl | rfl | rfl | rfl | rfl <;> rfl
theorem row_MG_mergedBest_n_pairB {cA : Nat → ClassId} {a_m a_g a_n a_h a_u a_e a_s a_t : Nat → Nat} {g_manner : Int32} {g_nodes : Int32} {g_arcs : Int32} {n_x : Int32} {n_y : Int32} {n_nodes : Int32} {n_aloneB : Int64} {n_pairA : Nat → Nat → Int64} {u_nodes : Int32} {u_count : Int32} {u_groups : Nat → Int32} {u_names : Nat → Int32} (n_pairB : Nat → Nat → Int64) (k : Nat) (hk : k < 9) : (wd_MG_mergedBest cA a_m a_g a_n a_h a_u a_e a_s a_t g_manner g_nodes g_arcs n_x n_y n_nodes n_aloneB n_pairA n_pairB u_nodes u_count u_groups u_names)[14 + k]? = some (a_n (k + 12), .inl (cA 1, 9, .inr (.inl (n_pairB k)))) := by
  rcases lt9 hk with rfl | rfl | rfl | rfl | rfl | rfl | rfl | rfl | rfl <;> rfl
theorem set_MG_mergedBest_n_pairB {cA : Nat → ClassId} {a_m a_g a_n a_h a_u a_e a_s a_t : Nat → Nat} {g_manner : Int32} {g_nodes : Int32} {g_arcs : Int32} {n_x : Int32} {n_y : Int32} {n_nodes : Int32} {n_aloneB : Int64} {n_pairA : Nat → Nat → Int64} {u_nodes : Int32} {u_count : Int32} {u_groups : Nat → Int32} {u_names : Nat → Int32} {n_pairB : Nat → Nat → Int64} {f : Nat → Int64} (k : Nat) (hk : k < 9) : (wd_MG_mergedBest cA a_m a_g a_n a_h a_u a_e a_s a_t g_manner g_nodes g_arcs n_x n_y n_nodes n_aloneB n_pairA n_pairB u_nodes u_count u_groups u_names).set (14 + k) (a_n (k + 12), .inl (cA 1, 9, .inr (.inl f))) = wd_MG_mergedBest cA a_m a_g a_n a_h a_u a_e a_s a_t g_manner g_nodes g_arcs n_x n_y n_nodes n_aloneB n_pairA (va_up n_pairB k f) u_nodes u_count u_groups u_names := by
  rcases lt9 hk with rfl | rfl | rfl | rfl | rfl | rfl | rfl | rfl | rfl <;> rfl
noncomputable def s_MG_mergedBest_31 (g_nodes : Int32) (n_aloneB : Int64) (n_nodes : Int32) (n_pairA : Nat → Nat → Int64) (n_pairB : Nat → Nat → Int64) (n_x : Int32) (n_y : Int32) (u_nodes : Int32) (zz : Int64 × Int32 × Int32 × Int32 × (Nat → Int32) × (Nat → Int32)) (back exit : (Int64 × Int32 × Int32 × Int32 × (Nat → Int32) × (Nat → Int32)) → Option (Int32 × Int32 × Int32 × (Nat → Int32) × (Nat → Int32))) : Option (Int32 × Int32 × Int32 × (Nat → Int32) × (Nat → Int32)) :=
  (if g_nodes ≤ zz.2.2.1 then (exit (zz.1, zz.2.1, zz.2.2.1, zz.2.2.2.1, zz.2.2.2.2.1, zz.2.2.2.2.2)) else ((m_MG_mergeOnce n_x n_y n_nodes n_pairA n_pairB u_nodes zz.2.2.2.1 zz.2.2.2.2.1 zz.2.2.2.2.2).bind (fun r48 : Int32 × (Nat → Int32) × (Nat → Int32) => ((m_Ga_worthOf n_x n_y n_nodes n_aloneB n_pairA n_pairB r48.2.1).bind (fun r59 : Int64 => (if r59 ≤ zz.1 then (back (zz.1, zz.2.1, (zz.2.2.1 + 1), r48.1, r48.2.1, r48.2.2)) else (back (r59, zz.2.2.1, (zz.2.2.1 + 1), r48.1, r48.2.1, r48.2.2))))))))
noncomputable def m_MG_mergedBest (g_nodes : Int32) (n_x : Int32) (n_y : Int32) (n_nodes : Int32) (n_aloneB : Int64) (n_pairA : Nat → Nat → Int64) (n_pairB : Nat → Nat → Int64) (u_groups : Nat → Int32) (u_names : Nat → Int32) : Option (Int32 × Int32 × Int32 × (Nat → Int32) × (Nat → Int32)) :=
  ((m_Pa_separate u_groups g_nodes).bind (fun r11 : Int32 × Int32 × (Nat → Int32) => ((m_Ga_worthOf n_x n_y n_nodes n_aloneB n_pairA n_pairB r11.2.2).bind (fun r22 : Int64 => (loopC (s_MG_mergedBest_31 g_nodes n_aloneB n_nodes n_pairA n_pairB n_x n_y r11.1) (fun z31 : Int64 × Int32 × Int32 × Int32 × (Nat → Int32) × (Nat → Int32) => some (z31.2.1, r11.1, z31.2.2.2.1, z31.2.2.2.2.1, z31.2.2.2.2.2)) FU (r22, (0 : Int32), (1 : Int32), r11.2.1, r11.2.2, u_names))))))
set_option maxHeartbeats 4000000 in
set_option maxRecDepth 100000 in
theorem c_MG_mergedBest (l : Launch) (D : va_G) (cA : Nat → ClassId) (a_m a_g a_n a_h a_u a_e a_s a_t : Nat → Nat) (sz : Nat) (g_manner : Int32) (g_nodes : Int32) (g_arcs : Int32) (n_x : Int32) (n_y : Int32) (n_nodes : Int32) (n_aloneB : Int64) (n_pairA : Nat → Nat → Int64) (n_pairB : Nat → Nat → Int64) (u_nodes : Int32) (u_count : Int32) (u_groups : Nat → Int32) (u_names : Nat → Int32)  (out : Int32 × Int32 × Int32 × (Nat → Int32) × (Nat → Int32)) (h : m_MG_mergedBest g_nodes n_x n_y n_nodes n_aloneB n_pairA n_pairB u_groups u_names = some out) : Met l y_MG_mergedBest w_MG_mergedBest ({ frames := 4, cells := 0, slots := 0, locals := 97 }) (va_Pc [.ref (a_m 0)] (fun U => U.heap.size = sz ∧ va_P D cls9 (wd_MG_mergedBest cA a_m a_g a_n a_h a_u a_e a_s a_t g_manner g_nodes g_arcs n_x n_y n_nodes n_aloneB n_pairA n_pairB u_nodes u_count u_groups u_names) U.heap ∧ va_K D cls9 (tys5 cA) U ∧ va_D (fun _ => True) (wd_MG_mergedBest cA a_m a_g a_n a_h a_u a_e a_s a_t g_manner g_nodes g_arcs n_x n_y n_nodes n_aloneB n_pairA n_pairB u_nodes u_count u_groups u_names))) (va_Qi (fun (rr : Int32) (uu : Int32 × Int32 × (Nat → Int32) × (Nat → Int32)) => (rr, uu) = out) (fun (uu : Int32 × Int32 × (Nat → Int32) × (Nat → Int32)) (t : State) => va_P D cls9 (wd_MG_mergedBest cA a_m a_g a_n a_h a_u a_e a_s a_t g_manner g_nodes g_arcs n_x n_y n_nodes n_aloneB n_pairA n_pairB uu.1 uu.2.1 uu.2.2.1 uu.2.2.2) t.heap ∧ va_K D cls9 (tys5 cA) t ∧ va_D (va_A (wd_MG_mergedBest cA a_m a_g a_n a_h a_u a_e a_s a_t g_manner g_nodes g_arcs n_x n_y n_nodes n_aloneB n_pairA n_pairB u_nodes u_count u_groups u_names) sz) (wd_MG_mergedBest cA a_m a_g a_n a_h a_u a_e a_s a_t g_manner g_nodes g_arcs n_x n_y n_nodes n_aloneB n_pairA n_pairB uu.1 uu.2.1 uu.2.2.1 uu.2.2.2)) (va_A (wd_MG_mergedBest cA a_m a_g a_n a_h a_u a_e a_s a_t g_manner g_nodes g_arcs n_x n_y n_nodes n_aloneB n_pairA n_pairB u_nodes u_count u_groups u_names) sz)) 0 0 (va_A (wd_MG_mergedBest cA a_m a_g a_n a_h a_u a_e a_s a_t g_manner g_nodes g_arcs n_x n_y n_nodes n_aloneB n_pairA n_pairB u_nodes u_count u_groups u_names) sz) := by
  refine Met.ofW (cc := b_MG_mergedBest) (maxL := 7) (ret := (Option.some Jvm.ClassFile.FieldType.int)) (by decide) rfl ?_
  intro p e s m args below meth c s₁ B hml hv
  obtain ⟨rfl, hsz, hP, hK, hD0⟩ := hv
  have hx := B.exec
  have hb := B.bytes
  have hr := B.returns
  have hts := atoms_spec (ws := w_MG_mergedBest) B.pre
  have hal : ∀ w ∈ ALLW, w.before _ s = true := fun w hw => hts w (List.mem_cons_of_mem _ hw)
  have hown : s.vm.findClass R_MG = some m.cls := findClass_of_methodNamed B.named
  have hlocks := B.notSynchronized
  subst hsz
  have hD := hD0.self (sz := s.heap.size)
  generalize hAe : va_A (wd_MG_mergedBest cA a_m a_g a_n a_h a_u a_e a_s a_t g_manner g_nodes g_arcs n_x n_y n_nodes n_aloneB n_pairA n_pairB u_nodes u_count u_groups u_names) s.heap.size = A at hD ⊢
  have hA : ∀ q : Nat, s.heap.size ≤ q → A q := fun q h => by rw [← hAe]; exact Or.inr h
  have hS : va_S A s.heap s.heap [] := va_S.rf
  have hl := lv_entry ([.ref (a_m 0)]) (n := 7) (Nat.le_of_ble_eq_true rfl)
  rw [lg_entry_eq]
  generalize (lg_sl ([.ref (a_m 0)]) ++ List.replicate (7 - (lg_sl ([.ref (a_m 0)])).length) Slot.unset).toArray = ls at hl ⊢
  have hl : lv_has ls 7 [(0, .ref (a_m 0))] := hl
  refine wg (fun G hG => ?_)
  refine cast (hG _ _ _ _ _ _ _).symm ?_
  obtain ⟨H, locs, hHl, hS⟩ : ∃ (H : Heap) (locs : List Loc), (H = s.heap ∧ locs = []) ∧ va_S A s.heap H locs := ⟨s.heap, [], ⟨rfl, rfl⟩, hS⟩
  have hP : va_P D cls9 (wd_MG_mergedBest cA a_m a_g a_n a_h a_u a_e a_s a_t g_manner g_nodes g_arcs n_x n_y n_nodes n_aloneB n_pairA n_pairB u_nodes u_count u_groups u_names) H := by rw [hHl.1]; exact hP
  rw [← hHl.1, ← hHl.2]
  clear hHl
  refine lv_aload_n hx hb d_MG_mergedBest_0 rfl (lv_at hl 0 rfl) ?_
  refine va_get (ci := 7) (v := .ref (a_u 0)) (C := R_MG) (T := F_MG) (N := 7) hx hb hal in_MG hown hK hP 0 rfl rfl 3 (by decide) (hal _ kw_247) (fun _ h9 => h9) rfl d_MG_mergedBest_1 ?_
  refine lv_aload_n hx hb d_MG_mergedBest_4 rfl (lv_at hl 0 rfl) ?_
  refine va_get (ci := 7) (v := .ref (a_g 0)) (C := R_MG) (T := F_MG) (N := 7) hx hb hal in_MG hown hK hP 0 rfl rfl 0 (by decide) (hal _ kw_244) (fun _ h9 => h9) rfl d_MG_mergedBest_5 ?_
  refine va_get (ci := 1) (v := .int g_nodes) (C := R_Gr) (T := F_Gr) (N := 6) hx hb hal in_Gr hown hK hP 1 rfl rfl 1 (by decide) (hal _ kw_32) (fun _ h9 => h9) rfl d_MG_mergedBest_8 ?_
  obtain ⟨o_7, hc_6, h⟩ := bd h
  have hPc := hP.sub (ws' := (wd_Pa_separate cA a_u u_nodes u_count u_groups)) [23, 24] rfl
  have hDc := hD.sub (ws' := (wd_Pa_separate cA a_u u_nodes u_count u_groups)) [23, 24] (by decide) rfl
  have hFc := va_free (wc := (wd_Pa_separate cA a_u u_nodes u_count u_groups)) hD hS hA [23, 24] rfl
  refine va_callv (va_runV (C := R_Pa) (As := [.int g_nodes]) (rest := []) ⟨hx, hb, hml, hown, hal⟩ (c_Pa_separate l D cA a_u H.size u_nodes u_count u_groups g_nodes o_7 hc_6) (cwV 1 hal (goodV kw_322 kw_323 kw_324 kw_4 kw_325) rfl rfl rfl (by decide +kernel) ⟨Nat.le_of_ble_eq_true rfl, Nat.le_of_ble_eq_true rfl⟩) ⟨fun a U g mk q => by obtain ⟨q0, q1, qP, qK, qD⟩ := q; exact ⟨q0, q1, qP, va_K.moved (u := U) (U := U.calling g mk a) (Vm.Alike.refl U.vm) qK, qD⟩, va_recv hK hP (ci := 2) (q0 := 23) rfl rfl, fun U hU hW => ⟨rfl, by rw [hU], by rw [hU]; exact hPc, va_K.moved hW.alike hK, hDc.weaken (fun _ _ _ _ => trivial)⟩⟩ rfl rfl hl.1 rfl (lv_room (Nat.le_of_ble_eq_true rfl)) d_MG_mergedBest_11 ⟨Nat.le_of_ble_eq_true rfl, Nat.le_of_ble_eq_true rfl⟩) hS (fun q _ h => hFc q h) hFc (fun u t H1 locs ht hvm hw hB hz1 hk1 hS => ?_)
  obtain ⟨u_3, u_4, u_5⟩ := u
  subst hw
  obtain ⟨hP1, hK1, hD1⟩ := hB
  rw [ht] at hP1
  have hP1 : va_P D cls9 (wd_Pa_separate cA a_u u_3 u_4 u_5) H1 := hP1
  obtain ⟨hP, hD⟩ := va_join (wr := ([0, 1, 2, 3, 4, 5, 6, 7, 8, 9, 10, 11, 12, 13, 14, 15, 16, 17, 18, 19, 20, 21, 22, 25] : List Nat).filterMap (fun i => (wd_MG_mergedBest cA a_m a_g a_n a_h a_u a_e a_s a_t g_manner g_nodes g_arcs n_x n_y n_nodes n_aloneB n_pairA n_pairB u_nodes u_count u_groups u_names)[i]?)) (w1 := (wd_Pa_separate cA a_u u_3 u_4 u_5)) hP hD [23, 24] [0, 1, 2, 3, 4, 5, 6, 7, 8, 9, 10, 11, 12, 13, 14, 15, 16, 17, 18, 19, 20, 21, 22, 25] rfl rfl (by decide) (by decide) hk1 hFc hP1 hD1
  generalize H1 = H at hP hS ⊢
  have hP : va_P D cls9 (wd_MG_mergedBest cA a_m a_g a_n a_h a_u a_e a_s a_t g_manner g_nodes g_arcs n_x n_y n_nodes n_aloneB n_pairA n_pairB u_3 u_4 u_5 u_names) H := hP.sub [0, 1, 2, 3, 4, 5, 6, 7, 8, 9, 10, 11, 12, 13, 14, 15, 16, 17, 18, 19, 20, 21, 22, 24, 25, 23] rfl
  have hD : va_D A (wd_MG_mergedBest cA a_m a_g a_n a_h a_u a_e a_s a_t g_manner g_nodes g_arcs n_x n_y n_nodes n_aloneB n_pairA n_pairB u_3 u_4 u_5 u_names) := hD.sub [0, 1, 2, 3, 4, 5, 6, 7, 8, 9, 10, 11, 12, 13, 14, 15, 16, 17, 18, 19, 20, 21, 22, 24, 25, 23] (by decide) rfl
  refine lv_aload_n hx hb d_MG_mergedBest_14 rfl (lv_at hl 0 rfl) ?_
  refine va_get (ci := 7) (v := .ref (a_n 0)) (C := R_MG) (T := F_MG) (N := 7) hx hb hal in_MG hown hK hP 0 rfl rfl 1 (by decide) (hal _ kw_245) (fun _ h9 => h9) rfl d_MG_mergedBest_15 ?_
  refine lv_aload_n hx hb d_MG_mergedBest_18 rfl (lv_at hl 0 rfl) ?_
  refine va_get (ci := 7) (v := .ref (a_u 0)) (C := R_MG) (T := F_MG) (N := 7) hx hb hal in_MG hown hK hP 0 rfl rfl 3 (by decide) (hal _ kw_247) (fun _ h9 => h9) rfl d_MG_mergedBest_19 ?_
  obtain ⟨o_11, hc_10, h⟩ := bd h
  have hPc := hP.sub (ws' := (wd_Ga_worthOf cA a_n a_u n_x n_y n_nodes n_aloneB n_pairA n_pairB u_3 u_4 u_5)) [2, 3, 4, 5, 6, 7, 8, 9, 10, 11, 12, 13, 14, 15, 16, 17, 18, 19, 20, 21, 22, 23, 24] rfl
  have hDc := hD.sub (ws' := (wd_Ga_worthOf cA a_n a_u n_x n_y n_nodes n_aloneB n_pairA n_pairB u_3 u_4 u_5)) [2, 3, 4, 5, 6, 7, 8, 9, 10, 11, 12, 13, 14, 15, 16, 17, 18, 19, 20, 21, 22, 23, 24] (by decide) rfl
  have hFc := va_free (wc := (wd_Ga_worthOf cA a_n a_u n_x n_y n_nodes n_aloneB n_pairA n_pairB u_3 u_4 u_5)) hD hS hA [2, 3, 4, 5, 6, 7, 8, 9, 10, 11, 12, 13, 14, 15, 16, 17, 18, 19, 20, 21, 22, 23, 24] rfl
  refine va_calll (va_runV (C := R_Ga) (As := [.ref (a_u 0)]) (rest := []) ⟨hx, hb, hml, hown, hal⟩ (c_Ga_worthOf l D cA a_n a_u H.size n_x n_y n_nodes n_aloneB n_pairA n_pairB u_3 u_4 u_5 o_11 hc_10) (cwV 1 hal (goodV kw_380 kw_381 kw_382 kw_3 kw_383) rfl rfl rfl (by decide +kernel) ⟨Nat.le_of_ble_eq_true rfl, Nat.le_of_ble_eq_true rfl⟩) ⟨fun a U g mk q => by obtain ⟨q0, q1, qP, qK, qD⟩ := q; exact ⟨q0, q1, qP, va_K.moved (u := U) (U := U.calling g mk a) (Vm.Alike.refl U.vm) qK, qD⟩, va_recv hK hP (ci := 0) (q0 := 2) rfl rfl, fun U hU hW => ⟨rfl, by rw [hU], by rw [hU]; exact hPc, va_K.moved hW.alike hK, hDc.weaken (fun _ _ _ _ => trivial)⟩⟩ rfl rfl hl.1 rfl (lv_room (Nat.le_of_ble_eq_true rfl)) d_MG_mergedBest_22 ⟨Nat.le_of_ble_eq_true rfl, Nat.le_of_ble_eq_true rfl⟩) hS (fun q _ h => hFc q h) hFc (fun r_9 u t H1 locs ht hvm hw hB hz1 hk1 hS => ?_)
  subst hw
  obtain ⟨hP1, hK1, hD1⟩ := hB
  rw [ht] at hP1
  have hP1 : va_P D cls9 (wd_Ga_worthOf cA a_n a_u n_x n_y n_nodes n_aloneB n_pairA n_pairB u_3 u_4 u_5) H1 := hP1
  obtain ⟨hP, hD⟩ := va_join (wr := ([0, 1, 25] : List Nat).filterMap (fun i => (wd_MG_mergedBest cA a_m a_g a_n a_h a_u a_e a_s a_t g_manner g_nodes g_arcs n_x n_y n_nodes n_aloneB n_pairA n_pairB u_3 u_4 u_5 u_names)[i]?)) (w1 := (wd_Ga_worthOf cA a_n a_u n_x n_y n_nodes n_aloneB n_pairA n_pairB u_3 u_4 u_5)) hP hD [2, 3, 4, 5, 6, 7, 8, 9, 10, 11, 12, 13, 14, 15, 16, 17, 18, 19, 20, 21, 22, 23, 24] [0, 1, 25] rfl rfl (by decide) (by decide) hk1 hFc hP1 hD1
  generalize H1 = H at hP hS ⊢
  have hP : va_P D cls9 (wd_MG_mergedBest cA a_m a_g a_n a_h a_u a_e a_s a_t g_manner g_nodes g_arcs n_x n_y n_nodes n_aloneB n_pairA n_pairB u_3 u_4 u_5 u_names) H := hP.sub [0, 1, 3, 4, 5, 6, 7, 8, 9, 10, 11, 12, 13, 14, 15, 16, 17, 18, 19, 20, 21, 22, 23, 24, 25, 2] rfl
  have hD : va_D A (wd_MG_mergedBest cA a_m a_g a_n a_h a_u a_e a_s a_t g_manner g_nodes g_arcs n_x n_y n_nodes n_aloneB n_pairA n_pairB u_3 u_4 u_5 u_names) := hD.sub [0, 1, 3, 4, 5, 6, 7, 8, 9, 10, 11, 12, 13, 14, 15, 16, 17, 18, 19, 20, 21, 22, 23, 24, 25, 2] (by decide) rfl
  refine lv_lstore_n (lv' := [(1, .long r_9), (0, .ref (a_m 0))]) hx hb d_MG_mergedBest_25 rfl hl (by decide) rfl (fun ls hl => ?_)
  refine lv_iconst (v := 0) hx hb d_MG_mergedBest_26 (by decide) ?_
  refine lv_istore_n (lv' := [(3, .int (0 : Int32)), (1, .long r_9), (0, .ref (a_m 0))]) hx hb d_MG_mergedBest_27 rfl hl (by decide) rfl (fun ls hl => ?_)
  refine lv_iconst (v := 1) hx hb d_MG_mergedBest_28 (by decide) ?_
  refine lv_istore (lv' := [(4, .int (1 : Int32)), (3, .int (0 : Int32)), (1, .long r_9), (0, .ref (a_m 0))]) hx hb d_MG_mergedBest_29 hl (by decide) rfl (fun ls hl => ?_)
  refine cast (hG _ _ _ _ _ _ _) (lp_go2 h (fun zz : Int64 × Int32 × Int32 × Int32 × (Nat → Int32) × (Nat → Int32) => ∀ (H : Heap) (locs : List Loc) (ls : Array Slot), va_P D cls9 (wd_MG_mergedBest cA a_m a_g a_n a_h a_u a_e a_s a_t g_manner g_nodes g_arcs n_x n_y n_nodes n_aloneB n_pairA n_pairB u_3 zz.2.2.2.1 zz.2.2.2.2.1 zz.2.2.2.2.2) H → va_D A (wd_MG_mergedBest cA a_m a_g a_n a_h a_u a_e a_s a_t g_manner g_nodes g_arcs n_x n_y n_nodes n_aloneB n_pairA n_pairB u_3 zz.2.2.2.1 zz.2.2.2.2.1 zz.2.2.2.2.2) → va_S A s.heap H locs → lv_has ls 7 [(4, .int zz.2.2.1), (3, .int zz.2.1), (1, .long zz.1), (0, .ref (a_m 0))] → G H locs 0 0 ls 83 []) ?_ (fun zz : Int64 × Int32 × Int32 × Int32 × (Nat → Int32) × (Nat → Int32) => ∀ (H : Heap) (locs : List Loc) (ls : Array Slot), va_P D cls9 (wd_MG_mergedBest cA a_m a_g a_n a_h a_u a_e a_s a_t g_manner g_nodes g_arcs n_x n_y n_nodes n_aloneB n_pairA n_pairB u_3 zz.2.2.2.1 zz.2.2.2.2.1 zz.2.2.2.2.2) H → va_D A (wd_MG_mergedBest cA a_m a_g a_n a_h a_u a_e a_s a_t g_manner g_nodes g_arcs n_x n_y n_nodes n_aloneB n_pairA n_pairB u_3 zz.2.2.2.1 zz.2.2.2.2.1 zz.2.2.2.2.2) → va_S A s.heap H locs → lv_has ls 7 [(4, .int zz.2.2.1), (3, .int zz.2.1), (1, .long zz.1), (0, .ref (a_m 0))] → G H locs 0 0 ls 31 []) ?_ _ _ ls hP hD hS (lv_sub hl [0, 1, 2, 3] rfl))
  · intro zz h H locs ls hP hD hS hl
    obtain ⟨x1_31e, x3_31e, x4_31e, u_count_31e, u_groups_31e, u_names_31e⟩ := zz
    have hP : va_P D cls9 (wd_MG_mergedBest cA a_m a_g a_n a_h a_u a_e a_s a_t g_manner g_nodes g_arcs n_x n_y n_nodes n_aloneB n_pairA n_pairB u_3 u_count_31e u_groups_31e u_names_31e) H := hP
    have hD : va_D A (wd_MG_mergedBest cA a_m a_g a_n a_h a_u a_e a_s a_t g_manner g_nodes g_arcs n_x n_y n_nodes n_aloneB n_pairA n_pairB u_3 u_count_31e u_groups_31e u_names_31e) := hD
    have hl : lv_has ls 7 [(4, .int x4_31e), (3, .int x3_31e), (1, .long x1_31e), (0, .ref (a_m 0))] := hl
    refine cast (hG _ _ _ _ _ _ _).symm ?_
    refine lv_iload_n hx hb d_MG_mergedBest_83 rfl (lv_at hl 1 rfl) ?_
    exact W.iret (v := x3_31e) hx hb hr (fun t ht hW => ⟨⟨x3_31e, (u_3, u_count_31e, u_groups_31e, u_names_31e), rfl, Option.some.inj h, by rw [ht]; exact hP, va_K.moved hW.alike hK, hD⟩, hS.F ht⟩) hS.2.2 d_MG_mergedBest_84
  · intro back exit zz hB_31 hE_31 h H locs ls hP hD hS hl
    obtain ⟨x1_31, x3_31, x4_31, u_count_31, u_groups_31, u_names_31⟩ := zz
    have hP : va_P D cls9 (wd_MG_mergedBest cA a_m a_g a_n a_h a_u a_e a_s a_t g_manner g_nodes g_arcs n_x n_y n_nodes n_aloneB n_pairA n_pairB u_3 u_count_31 u_groups_31 u_names_31) H := hP
    have hD : va_D A (wd_MG_mergedBest cA a_m a_g a_n a_h a_u a_e a_s a_t g_manner g_nodes g_arcs n_x n_y n_nodes n_aloneB n_pairA n_pairB u_3 u_count_31 u_groups_31 u_names_31) := hD
    have hl : lv_has ls 7 [(4, .int x4_31), (3, .int x3_31), (1, .long x1_31), (0, .ref (a_m 0))] := hl
    refine cast (hG _ _ _ _ _ _ _).symm ?_
    refine lv_iload hx hb d_MG_mergedBest_31 (lv_at hl 0 rfl) ?_
    refine lv_aload_n hx hb d_MG_mergedBest_33 rfl (lv_at hl 3 rfl) ?_
    refine va_get (ci := 7) (v := .ref (a_g 0)) (C := R_MG) (T := F_MG) (N := 7) hx hb hal in_MG hown hK hP 0 rfl rfl 0 (by decide) (hal _ kw_244) (fun _ h9 => h9) rfl d_MG_mergedBest_34 ?_
    refine va_get (ci := 1) (v := .int g_nodes) (C := R_Gr) (T := F_Gr) (N := 6) hx hb hal in_Gr hown hK hP 1 rfl rfl 1 (by decide) (hal _ kw_32) (fun _ h9 => h9) rfl d_MG_mergedBest_37 ?_
    refine lv_icmp_ge (tgt := 83) hx hb d_MG_mergedBest_40 (by decide) (fun c_12 => ?_) (fun c_12 => ?_)
    · have h := ifp (c_12) h
      exact cast (hG _ _ _ _ _ _ _) (hE_31 (x1_31, x3_31, x4_31, u_count_31, u_groups_31, u_names_31) h _ _ _ hP hD hS (lv_sub hl [0, 1, 2, 3] rfl))
    · have h := ifn (c_12) h
      refine lv_aload_n hx hb d_MG_mergedBest_43 rfl (lv_at hl 3 rfl) ?_
      refine lv_aload_n hx hb d_MG_mergedBest_44 rfl (lv_at hl 3 rfl) ?_
      refine va_get (ci := 7) (v := .ref (a_u 0)) (C := R_MG) (T := F_MG) (N := 7) hx hb hal in_MG hown hK hP 0 rfl rfl 3 (by decide) (hal _ kw_247) (fun _ h9 => h9) rfl d_MG_mergedBest_45 ?_
      obtain ⟨o_19, hc_18, h⟩ := bd h
      have hPc := hP.sub (ws' := (wd_MG_mergeOnce cA a_m a_g a_n a_h a_u a_u a_e a_s a_t n_x n_y n_nodes n_aloneB n_pairA n_pairB u_3 u_count_31 u_groups_31 u_names_31)) [0, 2, 3, 4, 5, 6, 7, 8, 9, 10, 11, 12, 13, 14, 15, 16, 17, 18, 19, 20, 21, 22, 23, 24, 25] rfl
      have hDc := hD.sub (ws' := (wd_MG_mergeOnce cA a_m a_g a_n a_h a_u a_u a_e a_s a_t n_x n_y n_nodes n_aloneB n_pairA n_pairB u_3 u_count_31 u_groups_31 u_names_31)) [0, 2, 3, 4, 5, 6, 7, 8, 9, 10, 11, 12, 13, 14, 15, 16, 17, 18, 19, 20, 21, 22, 23, 24, 25] (by decide) rfl
      have hFc := va_free (wc := (wd_MG_mergeOnce cA a_m a_g a_n a_h a_u a_u a_e a_s a_t n_x n_y n_nodes n_aloneB n_pairA n_pairB u_3 u_count_31 u_groups_31 u_names_31)) hD hS hA [0, 2, 3, 4, 5, 6, 7, 8, 9, 10, 11, 12, 13, 14, 15, 16, 17, 18, 19, 20, 21, 22, 23, 24, 25] rfl
      refine va_callv (va_runV (C := R_MG) (As := [.ref (a_u 0)]) (rest := []) ⟨hx, hb, hml, hown, hal⟩ (c_MG_mergeOnce l D cA a_m a_g a_n a_h a_u a_u a_e a_s a_t H.size n_x n_y n_nodes n_aloneB n_pairA n_pairB u_3 u_count_31 u_groups_31 u_names_31 o_19 hc_18) (cwV 1 hal (goodV kw_511 kw_513 kw_p13 kw_1 kw_514) rfl rfl rfl (by decide +kernel) ⟨Nat.le_of_ble_eq_true rfl, Nat.le_of_ble_eq_true rfl⟩) ⟨fun a U g mk q => by obtain ⟨q0, q1, qP, qK, qD⟩ := q; exact ⟨q0, q1, qP, va_K.moved (u := U) (U := U.calling g mk a) (Vm.Alike.refl U.vm) qK, qD⟩, va_recv hK hP (ci := 7) (q0 := 0) rfl rfl, fun U hU hW => ⟨rfl, by rw [hU], by rw [hU]; exact hPc, va_K.moved hW.alike hK, hDc.weaken (fun _ _ _ _ => trivial)⟩⟩ rfl rfl hl.1 rfl (lv_room (Nat.le_of_ble_eq_true rfl)) d_MG_mergedBest_48 ⟨Nat.le_of_ble_eq_true rfl, Nat.le_of_ble_eq_true rfl⟩) hS (fun q _ h => hFc q h) hFc (fun u t H1 locs ht hvm hw hB hz1 hk1 hS => ?_)
      obtain ⟨u_15, u_16, u_17⟩ := u
      subst hw
      obtain ⟨hP1, hK1, hD1⟩ := hB
      rw [ht] at hP1
      have hP1 : va_P D cls9 (wd_MG_mergeOnce cA a_m a_g a_n a_h a_u a_u a_e a_s a_t n_x n_y n_nodes n_aloneB n_pairA n_pairB u_3 u_15 u_16 u_17) H1 := hP1
      obtain ⟨hP, hD⟩ := va_join (wr := ([1] : List Nat).filterMap (fun i => (wd_MG_mergedBest cA a_m a_g a_n a_h a_u a_e a_s a_t g_manner g_nodes g_arcs n_x n_y n_nodes n_aloneB n_pairA n_pairB u_3 u_count_31 u_groups_31 u_names_31)[i]?)) (w1 := (wd_MG_mergeOnce cA a_m a_g a_n a_h a_u a_u a_e a_s a_t n_x n_y n_nodes n_aloneB n_pairA n_pairB u_3 u_15 u_16 u_17)) hP hD [0, 2, 3, 4, 5, 6, 7, 8, 9, 10, 11, 12, 13, 14, 15, 16, 17, 18, 19, 20, 21, 22, 23, 24, 25] [1] rfl rfl (by decide) (by decide) hk1 hFc hP1 hD1
      generalize H1 = H at hP hS ⊢
      have hP : va_P D cls9 (wd_MG_mergedBest cA a_m a_g a_n a_h a_u a_e a_s a_t g_manner g_nodes g_arcs n_x n_y n_nodes n_aloneB n_pairA n_pairB u_3 u_15 u_16 u_17) H := hP.sub [1, 0, 2, 3, 4, 5, 6, 7, 8, 9, 10, 11, 12, 13, 14, 15, 16, 17, 18, 19, 20, 21, 22, 23, 24, 25] rfl
      have hD : va_D A (wd_MG_mergedBest cA a_m a_g a_n a_h a_u a_e a_s a_t g_manner g_nodes g_arcs n_x n_y n_nodes n_aloneB n_pairA n_pairB u_3 u_15 u_16 u_17) := hD.sub [1, 0, 2, 3, 4, 5, 6, 7, 8, 9, 10, 11, 12, 13, 14, 15, 16, 17, 18, 19, 20, 21, 22, 23, 24, 25] (by decide) rfl
      refine lv_aload_n hx hb d_MG_mergedBest_51 rfl (lv_at hl 3 rfl) ?_
      refine va_get (ci := 7) (v := .ref (a_n 0)) (C := R_MG) (T := F_MG) (N := 7) hx hb hal in_MG hown hK hP 0 rfl rfl 1 (by decide) (hal _ kw_245) (fun _ h9 => h9) rfl d_MG_mergedBest_52 ?_
      refine lv_aload_n hx hb d_MG_mergedBest_55 rfl (lv_at hl 3 rfl) ?_
      refine va_get (ci := 7) (v := .ref (a_u 0)) (C := R_MG) (T := F_MG) (N := 7) hx hb hal in_MG hown hK hP 0 rfl rfl 3 (by decide) (hal _ kw_247) (fun _ h9 => h9) rfl d_MG_mergedBest_56 ?_
      obtain ⟨o_23, hc_22, h⟩ := bd h
      have hPc := hP.sub (ws' := (wd_Ga_worthOf cA a_n a_u n_x n_y n_nodes n_aloneB n_pairA n_pairB u_3 u_15 u_16)) [2, 3, 4, 5, 6, 7, 8, 9, 10, 11, 12, 13, 14, 15, 16, 17, 18, 19, 20, 21, 22, 23, 24] rfl
      have hDc := hD.sub (ws' := (wd_Ga_worthOf cA a_n a_u n_x n_y n_nodes n_aloneB n_pairA n_pairB u_3 u_15 u_16)) [2, 3, 4, 5, 6, 7, 8, 9, 10, 11, 12, 13, 14, 15, 16, 17, 18, 19, 20, 21, 22, 23, 24] (by decide) rfl
      have hFc := va_free (wc := (wd_Ga_worthOf cA a_n a_u n_x n_y n_nodes n_aloneB n_pairA n_pairB u_3 u_15 u_16)) hD hS hA [2, 3, 4, 5, 6, 7, 8, 9, 10, 11, 12, 13, 14, 15, 16, 17, 18, 19, 20, 21, 22, 23, 24] rfl
      refine va_calll (va_runV (C := R_Ga) (As := [.ref (a_u 0)]) (rest := []) ⟨hx, hb, hml, hown, hal⟩ (c_Ga_worthOf l D cA a_n a_u H.size n_x n_y n_nodes n_aloneB n_pairA n_pairB u_3 u_15 u_16 o_23 hc_22) (cwV 1 hal (goodV kw_380 kw_381 kw_382 kw_3 kw_383) rfl rfl rfl (by decide +kernel) ⟨Nat.le_of_ble_eq_true rfl, Nat.le_of_ble_eq_true rfl⟩) ⟨fun a U g mk q => by obtain ⟨q0, q1, qP, qK, qD⟩ := q; exact ⟨q0, q1, qP, va_K.moved (u := U) (U := U.calling g mk a) (Vm.Alike.refl U.vm) qK, qD⟩, va_recv hK hP (ci := 0) (q0 := 2) rfl rfl, fun U hU hW => ⟨rfl, by rw [hU], by rw [hU]; exact hPc, va_K.moved hW.alike hK, hDc.weaken (fun _ _ _ _ => trivial)⟩⟩ rfl rfl hl.1 rfl (lv_room (Nat.le_of_ble_eq_true rfl)) d_MG_mergedBest_59 ⟨Nat.le_of_ble_eq_true rfl, Nat.le_of_ble_eq_true rfl⟩) hS (fun q _ h => hFc q h) hFc (fun r_21 u t H1 locs ht hvm hw hB hz1 hk1 hS => ?_)
      subst hw
      obtain ⟨hP1, hK1, hD1⟩ := hB
      rw [ht] at hP1
      have hP1 : va_P D cls9 (wd_Ga_worthOf cA a_n a_u n_x n_y n_nodes n_aloneB n_pairA n_pairB u_3 u_15 u_16) H1 := hP1
      obtain ⟨hP, hD⟩ := va_join (wr := ([0, 1, 25] : List Nat).filterMap (fun i => (wd_MG_mergedBest cA a_m a_g a_n a_h a_u a_e a_s a_t g_manner g_nodes g_arcs n_x n_y n_nodes n_aloneB n_pairA n_pairB u_3 u_15 u_16 u_17)[i]?)) (w1 := (wd_Ga_worthOf cA a_n a_u n_x n_y n_nodes n_aloneB n_pairA n_pairB u_3 u_15 u_16)) hP hD [2, 3, 4, 5, 6, 7, 8, 9, 10, 11, 12, 13, 14, 15, 16, 17, 18, 19, 20, 21, 22, 23, 24] [0, 1, 25] rfl rfl (by decide) (by decide) hk1 hFc hP1 hD1
      generalize H1 = H at hP hS ⊢
      have hP : va_P D cls9 (wd_MG_mergedBest cA a_m a_g a_n a_h a_u a_e a_s a_t g_manner g_nodes g_arcs n_x n_y n_nodes n_aloneB n_pairA n_pairB u_3 u_15 u_16 u_17) H := hP.sub [0, 1, 3, 4, 5, 6, 7, 8, 9, 10, 11, 12, 13, 14, 15, 16, 17, 18, 19, 20, 21, 22, 23, 24, 25, 2] rfl
      have hD : va_D A (wd_MG_mergedBest cA a_m a_g a_n a_h a_u a_e a_s a_t g_manner g_nodes g_arcs n_x n_y n_nodes n_aloneB n_pairA n_pairB u_3 u_15 u_16 u_17) := hD.sub [0, 1, 3, 4, 5, 6, 7, 8, 9, 10, 11, 12, 13, 14, 15, 16, 17, 18, 19, 20, 21, 22, 23, 24, 25, 2] (by decide) rfl
      refine lv_lstore (lv' := [(5, .long r_21), (4, .int x4_31), (3, .int x3_31), (1, .long x1_31), (0, .ref (a_m 0))]) hx hb d_MG_mergedBest_62 hl (by decide) rfl (fun ls hl => ?_)
      refine lv_lload hx hb d_MG_mergedBest_64 (lv_at hl 0 rfl) ?_
      refine lv_lload_n hx hb d_MG_mergedBest_66 rfl (lv_at hl 3 rfl) ?_
      refine W.lcmp hx hb d_MG_mergedBest_67 ?_
      refine lv_if_le (tgt := 77) hx hb d_MG_mergedBest_68 (by decide) (fun c_24 => ?_) (fun c_24 => ?_)
      · have h := ifp (lc_le.mp (c_24)) h
        refine lv_iinc (v := (x4_31 + 1)) (lv' := [(4, .int (x4_31 + 1)), (5, .long r_21), (3, .int x3_31), (1, .long x1_31), (0, .ref (a_m 0))]) hx hb d_MG_mergedBest_77 hl (k := 1) rfl rfl (by decide) rfl (fun ls hl => ?_)
        refine lv_goto (tgt := 31) hx hb d_MG_mergedBest_80 (by decide) ?_
        exact cast (hG _ _ _ _ _ _ _) (hB_31 (x1_31, x3_31, (x4_31 + 1), u_15, u_16, u_17) h _ _ _ hP hD hS (lv_sub hl [0, 2, 3, 4] rfl))
      · have h := ifn (fun q => (c_24) (lc_le.mpr q)) h
        refine lv_lload hx hb d_MG_mergedBest_71 (lv_at hl 0 rfl) ?_
        refine lv_lstore_n (lv' := [(1, .long r_21), (5, .long r_21), (4, .int x4_31), (3, .int x3_31), (0, .ref (a_m 0))]) hx hb d_MG_mergedBest_73 rfl hl (by decide) rfl (fun ls hl => ?_)
        refine lv_iload hx hb d_MG_mergedBest_74 (lv_at hl 2 rfl) ?_
        refine lv_istore_n (lv' := [(3, .int x4_31), (1, .long r_21), (5, .long r_21), (4, .int x4_31), (0, .ref (a_m 0))]) hx hb d_MG_mergedBest_76 rfl hl (by decide) rfl (fun ls hl => ?_)
        refine lv_iinc (v := (x4_31 + 1)) (lv' := [(4, .int (x4_31 + 1)), (3, .int x4_31), (1, .long r_21), (5, .long r_21), (0, .ref (a_m 0))]) hx hb d_MG_mergedBest_77 hl (k := 3) rfl rfl (by decide) rfl (fun ls hl => ?_)
        refine lv_goto (tgt := 31) hx hb d_MG_mergedBest_80 (by decide) ?_
        exact cast (hG _ _ _ _ _ _ _) (hB_31 (r_21, x4_31, (x4_31 + 1), u_15, u_16, u_17) h _ _ _ hP hD hS (lv_sub hl [0, 1, 2, 4] rfl))
def wd_MG_labels (cA : Nat → ClassId) (a_m a_g a_n a_h a_u a_e a_s a_t : Nat → Nat) (g_manner : Int32) (g_nodes : Int32) (g_arcs : Int32) (n_x : Int32) (n_y : Int32) (n_nodes : Int32) (n_aloneB : Int64) (n_link : Nat → Nat → Int32) (n_near : Nat → Int32) (h_nodes : Int32) (h_count : Int32) (h_groups : Nat → Int32) (h_names : Nat → Int32) (s_drawn : Int32) (s_labels : Nat → Int32) (s_order : Nat → Int32) : va_W := [(a_m 0, .inr (7, [.ref (a_g 0), .ref (a_n 0), .ref (a_h 0), .ref (a_u 0), .ref (a_e 0), .ref (a_s 0), .ref (a_t 0)])), (a_g 0, .inr (1, [.int g_manner, .int g_nodes, .int g_arcs, .ref (a_g 1), .ref (a_g 2), .ref (a_g 3)])), (a_n 0, .inr (0, [.int n_x, .int n_y, .int n_nodes, .long n_aloneB, .ref (a_n 1), .ref (a_n 11), .ref (a_n 21), .ref (a_n 31), .ref (a_n 32)])), (a_n 21, .inl (cA 3, 9, .inr (.inr (.inr (.inr (fun i => if i < 9 then some (a_n (i + 22)) else none)))))), (a_n (0 + 22), .inl (cA 0, 9, .inl (n_link 0))), (a_n (1 + 22), .inl (cA 0, 9, .inl (n_link 1))), (a_n (2 + 22), .inl (cA 0, 9, .inl (n_link 2))), (a_n (3 + 22), .inl (cA 0, 9, .inl (n_link 3))), (a_n (4 + 22), .inl (cA 0, 9, .inl (n_link 4))), (a_n (5 + 22), .inl (cA 0, 9, .inl (n_link 5))), (a_n (6 + 22), .inl (cA 0, 9, .inl (n_link 6))), (a_n (7 + 22), .inl (cA 0, 9, .inl (n_link 7))), (a_n (8 + 22), .inl (cA 0, 9, .inl (n_link 8))), (a_n 31, .inl (cA 0, 9, .inl n_near)), (a_h 0, .inr (2, [.int h_nodes, .int h_count, .ref (a_h 1), .ref (a_h 2)])), (a_h 1, .inl (cA 0, 9, .inl h_groups)), (a_h 2, .inl (cA 0, 10, .inl h_names)), (a_s 0, .inr (4, [.ref (a_n 0), .ref (a_s 1), .ref (a_s 2), .int s_drawn])), (a_s 1, .inl (cA 0, 9, .inl s_labels)), (a_s 2, .inl (cA 0, 9, .inl s_order))]
theorem row_MG_labels_n_link {cA : Nat → ClassId} {a_m a_g a_n a_h a_u a_e a_s a_t : Nat → Nat} {g_manner : Int32} {g_nodes : Int32} {g_arcs : Int32} {n_x : Int32} {n_y : Int32} {n_nodes : Int32} {n_aloneB : Int64} {n_near : Nat → Int32} {h_nodes : Int32} {h_count : Int32} {h_groups : Nat → Int32} {h_names : Nat → Int32} {s_drawn : Int32} {s_labels : Nat → Int32} {s_order : Nat → Int32} (n_link : Nat → Nat → Int32) (k : Nat) (hk : k < 9) : (wd_MG_labels cA a_m a_g a_n a_h a_u a_e a_s a_t g_manner g_nodes g_arcs n_x n_y n_nodes n_aloneB n_link n_near h_nodes h_count h_groups h_names s_drawn s_labels s_order)[4 + k]? = some (a_n (k + 22), .inl (cA 0, 9, .inl (n_link k))) := by
  rcases lt9 hk with rfl | rfl | rfl | rfl | rfl | rfl | rfl | rfl | rfl <;> rfl
theorem set_MG_labels_n_link {cA : Nat → ClassId} {a_m a_g a_n a_h a_u a_e a_s a_t : Nat → Nat} {g_manner : Int32} {g_nodes : Int32} {g_arcs : Int32} {n_x : Int32} {n_y : Int32} {n_nodes : Int32} {n_aloneB : Int64} {n_near : Nat → Int32} {h_nodes : Int32} {h_count : Int32} {h_groups : Nat → Int32} {h_names : Nat → Int32} {s_drawn : Int32} {s_labels : Nat → Int32} {s_order : Nat → Int32} {n_link : Nat → Nat → Int32} {f : Nat → Int32} (k : Nat) (hk : k < 9) : (wd_MG_labels cA a_m a_g a_n a_h a_u a_e a_s a_t g_manner g_nodes g_arcs n_x n_y n_nodes n_aloneB n_link n_near h_nodes h_count h_groups h_names s_drawn s_labels s_order).set (4 + k) (a_n (k + 22), .inl (cA 0, 9, .inl f)) = wd_MG_labels cA a_m a_g a_n a_h a_u a_e a_s a_t g_manner g_nodes g_arcs n_x n_y n_nodes n_aloneB (va_up n_link k f) n_near h_nodes h_count h_groups h_names s_drawn s_labels s_order := by
  rcases lt9 hk with rfl | rfl | rfl | rfl | rfl | rfl | rfl | rfl | rfl <;> rfl
noncomputable def m_MG_labels (g_nodes : Int32) (n_nodes : Int32) (n_link : Nat → Nat → Int32) (n_near : Nat → Int32) (h_groups : Nat → Int32) (h_names : Nat → Int32) (s_labels : Nat → Int32) (s_order : Nat → Int32) (v1 : Int32) : Option (Int32 × Int32 × Int32 × (Nat → Int32) × (Nat → Int32) × Int32 × (Nat → Int32) × (Nat → Int32)) :=
  ((m_Sp_run n_nodes n_link n_near s_labels s_order v1).bind (fun r5 : Int32 × Int32 × (Nat → Int32) × (Nat → Int32) => ((m_Pa_take h_groups h_names r5.2.2.1 g_nodes).bind (fun r27 : Int32 × Int32 × (Nat → Int32) × (Nat → Int32) => some (r5.1, r27.1, r27.2.1, r27.2.2.1, r27.2.2.2, r5.2.1, r5.2.2.1, r5.2.2.2)))))
set_option maxHeartbeats 4000000 in
set_option maxRecDepth 100000 in
theorem c_MG_labels (l : Launch) (D : va_G) (cA : Nat → ClassId) (a_m a_g a_n a_h a_u a_e a_s a_t : Nat → Nat) (sz : Nat) (g_manner : Int32) (g_nodes : Int32) (g_arcs : Int32) (n_x : Int32) (n_y : Int32) (n_nodes : Int32) (n_aloneB : Int64) (n_link : Nat → Nat → Int32) (n_near : Nat → Int32) (h_nodes : Int32) (h_count : Int32) (h_groups : Nat → Int32) (h_names : Nat → Int32) (s_drawn : Int32) (s_labels : Nat → Int32) (s_order : Nat → Int32) (v1 : Int32) (out : Int32 × Int32 × Int32 × (Nat → Int32) × (Nat → Int32) × Int32 × (Nat → Int32) × (Nat → Int32)) (h : m_MG_labels g_nodes n_nodes n_link n_near h_groups h_names s_labels s_order v1 = some out) : Met l y_MG_labels w_MG_labels ({ frames := 4, cells := 0, slots := 0, locals := 99 }) (va_Pc [.ref (a_m 0), .int v1] (fun U => U.heap.size = sz ∧ va_P D cls9 (wd_MG_labels cA a_m a_g a_n a_h a_u a_e a_s a_t g_manner g_nodes g_arcs n_x n_y n_nodes n_aloneB n_link n_near h_nodes h_count h_groups h_names s_drawn s_labels s_order) U.heap ∧ va_K D cls9 (tys5 cA) U ∧ va_D (fun _ => True) (wd_MG_labels cA a_m a_g a_n a_h a_u a_e a_s a_t g_manner g_nodes g_arcs n_x n_y n_nodes n_aloneB n_link n_near h_nodes h_count h_groups h_names s_drawn s_labels s_order))) (va_Qi (fun (rr : Int32) (uu : Int32 × Int32 × (Nat → Int32) × (Nat → Int32) × Int32 × (Nat → Int32) × (Nat → Int32)) => (rr, uu) = out) (fun (uu : Int32 × Int32 × (Nat → Int32) × (Nat → Int32) × Int32 × (Nat → Int32) × (Nat → Int32)) (t : State) => va_P D cls9 (wd_MG_labels cA a_m a_g a_n a_h a_u a_e a_s a_t g_manner g_nodes g_arcs n_x n_y n_nodes n_aloneB n_link n_near uu.1 uu.2.1 uu.2.2.1 uu.2.2.2.1 uu.2.2.2.2.1 uu.2.2.2.2.2.1 uu.2.2.2.2.2.2) t.heap ∧ va_K D cls9 (tys5 cA) t ∧ va_D (va_A (wd_MG_labels cA a_m a_g a_n a_h a_u a_e a_s a_t g_manner g_nodes g_arcs n_x n_y n_nodes n_aloneB n_link n_near h_nodes h_count h_groups h_names s_drawn s_labels s_order) sz) (wd_MG_labels cA a_m a_g a_n a_h a_u a_e a_s a_t g_manner g_nodes g_arcs n_x n_y n_nodes n_aloneB n_link n_near uu.1 uu.2.1 uu.2.2.1 uu.2.2.2.1 uu.2.2.2.2.1 uu.2.2.2.2.2.1 uu.2.2.2.2.2.2)) (va_A (wd_MG_labels cA a_m a_g a_n a_h a_u a_e a_s a_t g_manner g_nodes g_arcs n_x n_y n_nodes n_aloneB n_link n_near h_nodes h_count h_groups h_names s_drawn s_labels s_order) sz)) 0 0 (va_A (wd_MG_labels cA a_m a_g a_n a_h a_u a_e a_s a_t g_manner g_nodes g_arcs n_x n_y n_nodes n_aloneB n_link n_near h_nodes h_count h_groups h_names s_drawn s_labels s_order) sz) := by
  refine Met.ofW (cc := b_MG_labels) (maxL := 3) (ret := (Option.some Jvm.ClassFile.FieldType.int)) (by decide) rfl ?_
  intro p e s m args below meth c s₁ B hml hv
  obtain ⟨rfl, hsz, hP, hK, hD0⟩ := hv
  have hx := B.exec
  have hb := B.bytes
  have hr := B.returns
  have hts := atoms_spec (ws := w_MG_labels) B.pre
  have hal : ∀ w ∈ ALLW, w.before _ s = true := fun w hw => hts w (List.mem_cons_of_mem _ hw)
  have hown : s.vm.findClass R_MG = some m.cls := findClass_of_methodNamed B.named
  have hlocks := B.notSynchronized
  subst hsz
  have hD := hD0.self (sz := s.heap.size)
  generalize hAe : va_A (wd_MG_labels cA a_m a_g a_n a_h a_u a_e a_s a_t g_manner g_nodes g_arcs n_x n_y n_nodes n_aloneB n_link n_near h_nodes h_count h_groups h_names s_drawn s_labels s_order) s.heap.size = A at hD ⊢
  have hA : ∀ q : Nat, s.heap.size ≤ q → A q := fun q h => by rw [← hAe]; exact Or.inr h
  have hS : va_S A s.heap s.heap [] := va_S.rf
  have hl := lv_entry ([.ref (a_m 0), .int v1]) (n := 3) (Nat.le_of_ble_eq_true rfl)
  rw [lg_entry_eq]
  generalize (lg_sl ([.ref (a_m 0), .int v1]) ++ List.replicate (3 - (lg_sl ([.ref (a_m 0), .int v1])).length) Slot.unset).toArray = ls at hl ⊢
  have hl : lv_has ls 3 [(0, .ref (a_m 0)), (1, .int v1)] := hl
  refine wg (fun G hG => ?_)
  refine cast (hG _ _ _ _ _ _ _).symm ?_
  obtain ⟨H, locs, hHl, hS⟩ : ∃ (H : Heap) (locs : List Loc), (H = s.heap ∧ locs = []) ∧ va_S A s.heap H locs := ⟨s.heap, [], ⟨rfl, rfl⟩, hS⟩
  have hP : va_P D cls9 (wd_MG_labels cA a_m a_g a_n a_h a_u a_e a_s a_t g_manner g_nodes g_arcs n_x n_y n_nodes n_aloneB n_link n_near h_nodes h_count h_groups h_names s_drawn s_labels s_order) H := by rw [hHl.1]; exact hP
  rw [← hHl.1, ← hHl.2]
  clear hHl
  refine lv_aload_n hx hb d_MG_labels_0 rfl (lv_at hl 0 rfl) ?_
  refine va_get (ci := 7) (v := .ref (a_s 0)) (C := R_MG) (T := F_MG) (N := 7) hx hb hal in_MG hown hK hP 0 rfl rfl 5 (by decide) (hal _ kw_249) (fun _ h9 => h9) rfl d_MG_labels_1 ?_
  refine lv_iload_n hx hb d_MG_labels_4 rfl (lv_at hl 1 rfl) ?_
  obtain ⟨o_7, hc_6, h⟩ := bd h
  have hPc := hP.sub (ws' := (wd_Sp_run cA a_n a_s n_x n_y n_nodes n_aloneB n_link n_near s_drawn s_labels s_order)) [2, 3, 4, 5, 6, 7, 8, 9, 10, 11, 12, 13, 17, 18, 19] rfl
  have hDc := hD.sub (ws' := (wd_Sp_run cA a_n a_s n_x n_y n_nodes n_aloneB n_link n_near s_drawn s_labels s_order)) [2, 3, 4, 5, 6, 7, 8, 9, 10, 11, 12, 13, 17, 18, 19] (by decide) rfl
  have hFc := va_free (wc := (wd_Sp_run cA a_n a_s n_x n_y n_nodes n_aloneB n_link n_near s_drawn s_labels s_order)) hD hS hA [2, 3, 4, 5, 6, 7, 8, 9, 10, 11, 12, 13, 17, 18, 19] rfl
  refine va_calli (va_runV (C := R_Sp) (As := [.int v1]) (rest := []) ⟨hx, hb, hml, hown, hal⟩ (c_Sp_run l D cA a_n a_s H.size n_x n_y n_nodes n_aloneB n_link n_near s_drawn s_labels s_order v1 o_7 hc_6) (cwV 1 hal (goodV kw_527 kw_528 kw_529 kw_7 kw_530) rfl rfl rfl (by decide +kernel) ⟨Nat.le_of_ble_eq_true rfl, Nat.le_of_ble_eq_true rfl⟩) ⟨fun a U g mk q => by obtain ⟨q0, q1, qP, qK, qD⟩ := q; exact ⟨q0, q1, qP, va_K.moved (u := U) (U := U.calling g mk a) (Vm.Alike.refl U.vm) qK, qD⟩, va_recv hK hP (ci := 4) (q0 := 17) rfl rfl, fun U hU hW => ⟨rfl, by rw [hU], by rw [hU]; exact hPc, va_K.moved hW.alike hK, hDc.weaken (fun _ _ _ _ => trivial)⟩⟩ rfl rfl hl.1 rfl (lv_room (Nat.le_of_ble_eq_true rfl)) d_MG_labels_5 ⟨Nat.le_of_ble_eq_true rfl, Nat.le_of_ble_eq_true rfl⟩) hS (fun q _ h => hFc q h) hFc (fun r_2 u t H1 locs ht hvm hw hB hz1 hk1 hS => ?_)
  obtain ⟨u_3, u_4, u_5⟩ := u
  subst hw
  obtain ⟨hP1, hK1, hD1⟩ := hB
  rw [ht] at hP1
  have hP1 : va_P D cls9 (wd_Sp_run cA a_n a_s n_x n_y n_nodes n_aloneB n_link n_near u_3 u_4 u_5) H1 := hP1
  obtain ⟨hP, hD⟩ := va_join (wr := ([0, 1, 14, 15, 16] : List Nat).filterMap (fun i => (wd_MG_labels cA a_m a_g a_n a_h a_u a_e a_s a_t g_manner g_nodes g_arcs n_x n_y n_nodes n_aloneB n_link n_near h_nodes h_count h_groups h_names s_drawn s_labels s_order)[i]?)) (w1 := (wd_Sp_run cA a_n a_s n_x n_y n_nodes n_aloneB n_link n_near u_3 u_4 u_5)) hP hD [2, 3, 4, 5, 6, 7, 8, 9, 10, 11, 12, 13, 17, 18, 19] [0, 1, 14, 15, 16] rfl rfl (by decide) (by decide) hk1 hFc hP1 hD1
  generalize H1 = H at hP hS ⊢
  have hP : va_P D cls9 (wd_MG_labels cA a_m a_g a_n a_h a_u a_e a_s a_t g_manner g_nodes g_arcs n_x n_y n_nodes n_aloneB n_link n_near h_nodes h_count h_groups h_names u_3 u_4 u_5) H := hP.sub [0, 1, 5, 6, 7, 8, 9, 10, 11, 12, 13, 14, 15, 16, 2, 3, 4, 17, 18, 19] rfl
  have hD : va_D A (wd_MG_labels cA a_m a_g a_n a_h a_u a_e a_s a_t g_manner g_nodes g_arcs n_x n_y n_nodes n_aloneB n_link n_near h_nodes h_count h_groups h_names u_3 u_4 u_5) := hD.sub [0, 1, 5, 6, 7, 8, 9, 10, 11, 12, 13, 14, 15, 16, 2, 3, 4, 17, 18, 19] (by decide) rfl
  refine lv_istore_n (lv' := [(2, .int r_2), (0, .ref (a_m 0)), (1, .int v1)]) hx hb d_MG_labels_8 rfl hl (by decide) rfl (fun ls hl => ?_)
  refine lv_aload_n hx hb d_MG_labels_9 rfl (lv_at hl 1 rfl) ?_
  refine va_get (ci := 7) (v := .ref (a_h 0)) (C := R_MG) (T := F_MG) (N := 7) hx hb hal in_MG hown hK hP 0 rfl rfl 2 (by decide) (hal _ kw_246) (fun _ h9 => h9) rfl d_MG_labels_10 ?_
  refine lv_aload_n hx hb d_MG_labels_13 rfl (lv_at hl 1 rfl) ?_
  refine va_get (ci := 7) (v := .ref (a_s 0)) (C := R_MG) (T := F_MG) (N := 7) hx hb hal in_MG hown hK hP 0 rfl rfl 5 (by decide) (hal _ kw_249) (fun _ h9 => h9) rfl d_MG_labels_14 ?_
  refine va_get (ci := 4) (v := .ref (a_s 1)) (C := R_Sp) (T := F_Sp) (N := 4) hx hb hal in_Sp hown hK hP 17 rfl rfl 1 (by decide) (hal _ kw_185) (fun _ h9 => h9) rfl d_MG_labels_17 ?_
  refine lv_aload_n hx hb d_MG_labels_20 rfl (lv_at hl 1 rfl) ?_
  refine va_get (ci := 7) (v := .ref (a_g 0)) (C := R_MG) (T := F_MG) (N := 7) hx hb hal in_MG hown hK hP 0 rfl rfl 0 (by decide) (hal _ kw_244) (fun _ h9 => h9) rfl d_MG_labels_21 ?_
  refine va_get (ci := 1) (v := .int g_nodes) (C := R_Gr) (T := F_Gr) (N := 6) hx hb hal in_Gr hown hK hP 1 rfl rfl 1 (by decide) (hal _ kw_32) (fun _ h9 => h9) rfl d_MG_labels_24 ?_
  obtain ⟨o_15, hc_14, h⟩ := bd h
  have hPc := hP.sub (ws' := (wd_Pa_take cA a_h (fun _ => a_s 1) h_nodes h_count h_groups h_names u_4)) [14, 15, 16, 18] rfl
  have hDc := hD.sub (ws' := (wd_Pa_take cA a_h (fun _ => a_s 1) h_nodes h_count h_groups h_names u_4)) [14, 15, 16, 18] (by decide) rfl
  have hFc := va_free (wc := (wd_Pa_take cA a_h (fun _ => a_s 1) h_nodes h_count h_groups h_names u_4)) hD hS hA [14, 15, 16, 18] rfl
  refine va_callv (va_runV (C := R_Pa) (As := [.ref (a_s 1), .int g_nodes]) (rest := []) ⟨hx, hb, hml, hown, hal⟩ (c_Pa_take l D cA a_h (fun _ => a_s 1) H.size h_nodes h_count h_groups h_names u_4 g_nodes o_15 hc_14) (cwV 2 hal (goodV kw_553 kw_419 kw_420 kw_4 kw_421) rfl rfl rfl (by decide +kernel) ⟨Nat.le_of_ble_eq_true rfl, Nat.le_of_ble_eq_true rfl⟩) ⟨fun a U g mk q => by obtain ⟨q0, q1, qP, qK, qD⟩ := q; exact ⟨q0, q1, qP, va_K.moved (u := U) (U := U.calling g mk a) (Vm.Alike.refl U.vm) qK, qD⟩, va_recv hK hP (ci := 2) (q0 := 14) rfl rfl, fun U hU hW => ⟨rfl, by rw [hU], by rw [hU]; exact hPc, va_K.moved hW.alike hK, hDc.weaken (fun _ _ _ _ => trivial)⟩⟩ rfl rfl hl.1 rfl (lv_room (Nat.le_of_ble_eq_true rfl)) d_MG_labels_27 ⟨Nat.le_of_ble_eq_true rfl, Nat.le_of_ble_eq_true rfl⟩) hS (fun q _ h => hFc q h) hFc (fun u t H1 locs ht hvm hw hB hz1 hk1 hS => ?_)
  obtain ⟨u_10, u_11, u_12, u_13⟩ := u
  subst hw
  obtain ⟨hP1, hK1, hD1⟩ := hB
  rw [ht] at hP1
  have hP1 : va_P D cls9 (wd_Pa_take cA a_h (fun _ => a_s 1) u_10 u_11 u_12 u_13 u_4) H1 := hP1
  obtain ⟨hP, hD⟩ := va_join (wr := ([0, 1, 2, 3, 4, 5, 6, 7, 8, 9, 10, 11, 12, 13, 17, 19] : List Nat).filterMap (fun i => (wd_MG_labels cA a_m a_g a_n a_h a_u a_e a_s a_t g_manner g_nodes g_arcs n_x n_y n_nodes n_aloneB n_link n_near h_nodes h_count h_groups h_names u_3 u_4 u_5)[i]?)) (w1 := (wd_Pa_take cA a_h (fun _ => a_s 1) u_10 u_11 u_12 u_13 u_4)) hP hD [14, 15, 16, 18] [0, 1, 2, 3, 4, 5, 6, 7, 8, 9, 10, 11, 12, 13, 17, 19] rfl rfl (by decide) (by decide) hk1 hFc hP1 hD1
  generalize H1 = H at hP hS ⊢
  have hP : va_P D cls9 (wd_MG_labels cA a_m a_g a_n a_h a_u a_e a_s a_t g_manner g_nodes g_arcs n_x n_y n_nodes n_aloneB n_link n_near u_10 u_11 u_12 u_13 u_3 u_4 u_5) H := hP.sub [0, 1, 2, 3, 4, 5, 6, 7, 8, 9, 10, 11, 12, 13, 16, 17, 18, 14, 19, 15] rfl
  have hD : va_D A (wd_MG_labels cA a_m a_g a_n a_h a_u a_e a_s a_t g_manner g_nodes g_arcs n_x n_y n_nodes n_aloneB n_link n_near u_10 u_11 u_12 u_13 u_3 u_4 u_5) := hD.sub [0, 1, 2, 3, 4, 5, 6, 7, 8, 9, 10, 11, 12, 13, 16, 17, 18, 14, 19, 15] (by decide) rfl
  refine lv_iload_n hx hb d_MG_labels_30 rfl (lv_at hl 0 rfl) ?_
  exact W.iret (v := r_2) hx hb hr (fun t ht hW => ⟨⟨r_2, (u_10, u_11, u_12, u_13, u_3, u_4, u_5), rfl, Option.some.inj h, by rw [ht]; exact hP, va_K.moved hW.alike hK, hD⟩, hS.F ht⟩) hS.2.2 d_MG_labels_31
def wd_MG_together (cA : Nat → ClassId) (a_m a_g a_n a_h a_u a_e a_s a_t : Nat → Nat) (g_manner : Int32) (g_nodes : Int32) (g_arcs : Int32) (n_x : Int32) (n_y : Int32) (n_nodes : Int32) (n_aloneB : Int64) (n_link : Nat → Nat → Int32) (n_near : Nat → Int32) (s_drawn : Int32) (s_labels : Nat → Int32) (s_order : Nat → Int32) : va_W := [(a_m 0, .inr (7, [.ref (a_g 0), .ref (a_n 0), .ref (a_h 0), .ref (a_u 0), .ref (a_e 0), .ref (a_s 0), .ref (a_t 0)])), (a_g 0, .inr (1, [.int g_manner, .int g_nodes, .int g_arcs, .ref (a_g 1), .ref (a_g 2), .ref (a_g 3)])), (a_n 0, .inr (0, [.int n_x, .int n_y, .int n_nodes, .long n_aloneB, .ref (a_n 1), .ref (a_n 11), .ref (a_n 21), .ref (a_n 31), .ref (a_n 32)])), (a_n 21, .inl (cA 3, 9, .inr (.inr (.inr (.inr (fun i => if i < 9 then some (a_n (i + 22)) else none)))))), (a_n (0 + 22), .inl (cA 0, 9, .inl (n_link 0))), (a_n (1 + 22), .inl (cA 0, 9, .inl (n_link 1))), (a_n (2 + 22), .inl (cA 0, 9, .inl (n_link 2))), (a_n (3 + 22), .inl (cA 0, 9, .inl (n_link 3))), (a_n (4 + 22), .inl (cA 0, 9, .inl (n_link 4))), (a_n (5 + 22), .inl (cA 0, 9, .inl (n_link 5))), (a_n (6 + 22), .inl (cA 0, 9, .inl (n_link 6))), (a_n (7 + 22), .inl (cA 0, 9, .inl (n_link 7))), (a_n (8 + 22), .inl (cA 0, 9, .inl (n_link 8))), (a_n 31, .inl (cA 0, 9, .inl n_near)), (a_s 0, .inr (4, [.ref (a_n 0), .ref (a_s 1), .ref (a_s 2), .int s_drawn])), (a_s 1, .inl (cA 0, 9, .inl s_labels)), (a_s 2, .inl (cA 0, 9, .inl s_order))]
theorem row_MG_together_n_link {cA : Nat → ClassId} {a_m a_g a_n a_h a_u a_e a_s a_t : Nat → Nat} {g_manner : Int32} {g_nodes : Int32} {g_arcs : Int32} {n_x : Int32} {n_y : Int32} {n_nodes : Int32} {n_aloneB : Int64} {n_near : Nat → Int32} {s_drawn : Int32} {s_labels : Nat → Int32} {s_order : Nat → Int32} (n_link : Nat → Nat → Int32) (k : Nat) (hk : k < 9) : (wd_MG_together cA a_m a_g a_n a_h a_u a_e a_s a_t g_manner g_nodes g_arcs n_x n_y n_nodes n_aloneB n_link n_near s_drawn s_labels s_order)[4 + k]? = some (a_n (k + 22), .inl (cA 0, 9, .inl (n_link k))) := by
  rcases lt9 hk with rfl | rfl | rfl | rfl | rfl | rfl | rfl | rfl | rfl <;> rfl
theorem set_MG_together_n_link {cA : Nat → ClassId} {a_m a_g a_n a_h a_u a_e a_s a_t : Nat → Nat} {g_manner : Int32} {g_nodes : Int32} {g_arcs : Int32} {n_x : Int32} {n_y : Int32} {n_nodes : Int32} {n_aloneB : Int64} {n_near : Nat → Int32} {s_drawn : Int32} {s_labels : Nat → Int32} {s_order : Nat → Int32} {n_link : Nat → Nat → Int32} {f : Nat → Int32} (k : Nat) (hk : k < 9) : (wd_MG_together cA a_m a_g a_n a_h a_u a_e a_s a_t g_manner g_nodes g_arcs n_x n_y n_nodes n_aloneB n_link n_near s_drawn s_labels s_order).set (4 + k) (a_n (k + 22), .inl (cA 0, 9, .inl f)) = wd_MG_together cA a_m a_g a_n a_h a_u a_e a_s a_t g_manner g_nodes g_arcs n_x n_y n_nodes n_aloneB (va_up n_link k f) n_near s_drawn s_labels s_order := by
  rcases lt9 hk with rfl | rfl | rfl | rfl | rfl | rfl | rfl | rfl | rfl <;> rfl
noncomputable def s_MG_together_19 (x1 : Int32) (x2 : Int32) (n_link : Nat → Nat → Int32) (n_near : Nat → Int32) (n_nodes : Int32) (zz : Int32 × Int32 × Int32 × (Nat → Int32) × (Nat → Int32)) (back exit : (Int32 × Int32 × Int32 × (Nat → Int32) × (Nat → Int32)) → Option (Int32 × Int32 × (Nat → Int32) × (Nat → Int32))) : Option (Int32 × Int32 × (Nat → Int32) × (Nat → Int32)) :=
  (if (20 : Int32) ≤ zz.2.1 then (exit (zz.1, zz.2.1, zz.2.2.1, zz.2.2.2.1, zz.2.2.2.2)) else ((m_Sp_run n_nodes n_link n_near zz.2.2.2.1 zz.2.2.2.2 zz.2.1).bind (fun r32 : Int32 × Int32 × (Nat → Int32) × (Nat → Int32) => (if inb x1 9 then (if inb x2 9 then (if (r32.2.2.1 x1.toNatClampNeg) = (r32.2.2.1 x2.toNatClampNeg) then (back ((zz.1 + 1), (zz.2.1 + 1), r32.2.1, r32.2.2.1, r32.2.2.2)) else (back (zz.1, (zz.2.1 + 1), r32.2.1, r32.2.2.1, r32.2.2.2))) else none) else none))))
noncomputable def m_MG_together (g_nodes : Int32) (n_nodes : Int32) (n_link : Nat → Nat → Int32) (n_near : Nat → Int32) (s_drawn : Int32) (s_labels : Nat → Int32) (s_order : Nat → Int32) (v1 : Int32) (v2 : Int32) : Option (Int32 × Int32 × (Nat → Int32) × (Nat → Int32)) :=
  ((m_Gr_hasNodes g_nodes v1 v2).bind (fun r6 : Int32 => (if r6 = 0 then some ((-1 : Int32), s_drawn, s_labels, s_order) else (loopC (s_MG_together_19 v1 v2 n_link n_near n_nodes) (fun z19 : Int32 × Int32 × Int32 × (Nat → Int32) × (Nat → Int32) => some (z19.1, z19.2.2.1, z19.2.2.2.1, z19.2.2.2.2)) FU ((0 : Int32), (0 : Int32), s_drawn, s_labels, s_order)))))
set_option maxHeartbeats 4000000 in
set_option maxRecDepth 100000 in
theorem c_MG_together (l : Launch) (D : va_G) (cA : Nat → ClassId) (a_m a_g a_n a_h a_u a_e a_s a_t : Nat → Nat) (sz : Nat) (g_manner : Int32) (g_nodes : Int32) (g_arcs : Int32) (n_x : Int32) (n_y : Int32) (n_nodes : Int32) (n_aloneB : Int64) (n_link : Nat → Nat → Int32) (n_near : Nat → Int32) (s_drawn : Int32) (s_labels : Nat → Int32) (s_order : Nat → Int32) (v1 : Int32) (v2 : Int32) (out : Int32 × Int32 × (Nat → Int32) × (Nat → Int32)) (h : m_MG_together g_nodes n_nodes n_link n_near s_drawn s_labels s_order v1 v2 = some out) : Met l y_MG_together w_MG_together ({ frames := 4, cells := 0, slots := 0, locals := 99 }) (va_Pc [.ref (a_m 0), .int v1, .int v2] (fun U => U.heap.size = sz ∧ va_P D cls9 (wd_MG_together cA a_m a_g a_n a_h a_u a_e a_s a_t g_manner g_nodes g_arcs n_x n_y n_nodes n_aloneB n_link n_near s_drawn s_labels s_order) U.heap ∧ va_K D cls9 (tys5 cA) U ∧ va_D (fun _ => True) (wd_MG_together cA a_m a_g a_n a_h a_u a_e a_s a_t g_manner g_nodes g_arcs n_x n_y n_nodes n_aloneB n_link n_near s_drawn s_labels s_order))) (va_Qi (fun (rr : Int32) (uu : Int32 × (Nat → Int32) × (Nat → Int32)) => (rr, uu) = out) (fun (uu : Int32 × (Nat → Int32) × (Nat → Int32)) (t : State) => va_P D cls9 (wd_MG_together cA a_m a_g a_n a_h a_u a_e a_s a_t g_manner g_nodes g_arcs n_x n_y n_nodes n_aloneB n_link n_near uu.1 uu.2.1 uu.2.2) t.heap ∧ va_K D cls9 (tys5 cA) t ∧ va_D (va_A (wd_MG_together cA a_m a_g a_n a_h a_u a_e a_s a_t g_manner g_nodes g_arcs n_x n_y n_nodes n_aloneB n_link n_near s_drawn s_labels s_order) sz) (wd_MG_together cA a_m a_g a_n a_h a_u a_e a_s a_t g_manner g_nodes g_arcs n_x n_y n_nodes n_aloneB n_link n_near uu.1 uu.2.1 uu.2.2)) (va_A (wd_MG_together cA a_m a_g a_n a_h a_u a_e a_s a_t g_manner g_nodes g_arcs n_x n_y n_nodes n_aloneB n_link n_near s_drawn s_labels s_order) sz)) 0 0 (va_A (wd_MG_together cA a_m a_g a_n a_h a_u a_e a_s a_t g_manner g_nodes g_arcs n_x n_y n_nodes n_aloneB n_link n_near s_drawn s_labels s_order) sz) := by
  refine Met.ofW (cc := b_MG_together) (maxL := 5) (ret := (Option.some Jvm.ClassFile.FieldType.int)) (by decide) rfl ?_
  intro p e s m args below meth c s₁ B hml hv
  obtain ⟨rfl, hsz, hP, hK, hD0⟩ := hv
  have hx := B.exec
  have hb := B.bytes
  have hr := B.returns
  have hts := atoms_spec (ws := w_MG_together) B.pre
  have hal : ∀ w ∈ ALLW, w.before _ s = true := fun w hw => hts w (List.mem_cons_of_mem _ hw)
  have hown : s.vm.findClass R_MG = some m.cls := findClass_of_methodNamed B.named
  have hlocks := B.notSynchronized
  subst hsz
  have hD := hD0.self (sz := s.heap.size)
  generalize hAe : va_A (wd_MG_together cA a_m a_g a_n a_h a_u a_e a_s a_t g_manner g_nodes g_arcs n_x n_y n_nodes n_aloneB n_link n_near s_drawn s_labels s_order) s.heap.size = A at hD ⊢
  have hA : ∀ q : Nat, s.heap.size ≤ q → A q := fun q h => by rw [← hAe]; exact Or.inr h
  have hS : va_S A s.heap s.heap [] := va_S.rf
  have hl := lv_entry ([.ref (a_m 0), .int v1, .int v2]) (n := 5) (Nat.le_of_ble_eq_true rfl)
  rw [lg_entry_eq]
  generalize (lg_sl ([.ref (a_m 0), .int v1, .int v2]) ++ List.replicate (5 - (lg_sl ([.ref (a_m 0), .int v1, .int v2])).length) Slot.unset).toArray = ls at hl ⊢
  have hl : lv_has ls 5 [(0, .ref (a_m 0)), (1, .int v1), (2, .int v2)] := hl
  refine wg (fun G hG => ?_)
  refine cast (hG _ _ _ _ _ _ _).symm ?_
  obtain ⟨H, locs, hHl, hS⟩ : ∃ (H : Heap) (locs : List Loc), (H = s.heap ∧ locs = []) ∧ va_S A s.heap H locs := ⟨s.heap, [], ⟨rfl, rfl⟩, hS⟩
  have hP : va_P D cls9 (wd_MG_together cA a_m a_g a_n a_h a_u a_e a_s a_t g_manner g_nodes g_arcs n_x n_y n_nodes n_aloneB n_link n_near s_drawn s_labels s_order) H := by rw [hHl.1]; exact hP
  rw [← hHl.1, ← hHl.2]
  clear hHl
  refine lv_aload_n hx hb d_MG_together_0 rfl (lv_at hl 0 rfl) ?_
  refine va_get (ci := 7) (v := .ref (a_g 0)) (C := R_MG) (T := F_MG) (N := 7) hx hb hal in_MG hown hK hP 0 rfl rfl 0 (by decide) (hal _ kw_244) (fun _ h9 => h9) rfl d_MG_together_1 ?_
  refine lv_iload_n hx hb d_MG_together_4 rfl (lv_at hl 1 rfl) ?_
  refine lv_iload_n hx hb d_MG_together_5 rfl (lv_at hl 2 rfl) ?_
  obtain ⟨o_4, hc_3, h⟩ := bd h
  have hPc := hP.sub (ws' := (wd_Gr_hasNodes cA a_g g_manner g_nodes g_arcs)) [1] rfl
  have hDc := hD.sub (ws' := (wd_Gr_hasNodes cA a_g g_manner g_nodes g_arcs)) [1] (by decide) rfl
  have hFc := va_free (wc := (wd_Gr_hasNodes cA a_g g_manner g_nodes g_arcs)) hD hS hA [1] rfl
  refine va_calli (va_runV (C := R_Gr) (As := [.int v1, .int v2]) (rest := []) ⟨hx, hb, hml, hown, hal⟩ (c_Gr_hasNodes l D cA a_g H.size g_manner g_nodes g_arcs v1 v2 o_4 hc_3) (cwV 2 hal (goodV kw_330 kw_331 kw_332 kw_2 kw_333) rfl rfl rfl (by decide +kernel) ⟨Nat.le_of_ble_eq_true rfl, Nat.le_of_ble_eq_true rfl⟩) ⟨fun a U g mk q => by obtain ⟨q0, q1, qP, qK, qD⟩ := q; exact ⟨q0, q1, qP, va_K.moved (u := U) (U := U.calling g mk a) (Vm.Alike.refl U.vm) qK, qD⟩, va_recv hK hP (ci := 1) (q0 := 1) rfl rfl, fun U hU hW => ⟨rfl, by rw [hU], by rw [hU]; exact hPc, va_K.moved hW.alike hK, hDc.weaken (fun _ _ _ _ => trivial)⟩⟩ rfl rfl hl.1 rfl (lv_room (Nat.le_of_ble_eq_true rfl)) d_MG_together_6 ⟨Nat.le_of_ble_eq_true rfl, Nat.le_of_ble_eq_true rfl⟩) hS (fun q _ h => hFc q h) hFc (fun r_2 u t H1 locs ht hvm hw hB hz1 hk1 hS => ?_)
  subst hw
  obtain ⟨hP1, hK1, hD1⟩ := hB
  rw [ht] at hP1
  have hP1 : va_P D cls9 (wd_Gr_hasNodes cA a_g g_manner g_nodes g_arcs) H1 := hP1
  obtain ⟨hP, hD⟩ := va_join (wr := ([0, 2, 3, 4, 5, 6, 7, 8, 9, 10, 11, 12, 13, 14, 15, 16] : List Nat).filterMap (fun i => (wd_MG_together cA a_m a_g a_n a_h a_u a_e a_s a_t g_manner g_nodes g_arcs n_x n_y n_nodes n_aloneB n_link n_near s_drawn s_labels s_order)[i]?)) (w1 := (wd_Gr_hasNodes cA a_g g_manner g_nodes g_arcs)) hP hD [1] [0, 2, 3, 4, 5, 6, 7, 8, 9, 10, 11, 12, 13, 14, 15, 16] rfl rfl (by decide) (by decide) hk1 hFc hP1 hD1
  generalize H1 = H at hP hS ⊢
  have hP : va_P D cls9 (wd_MG_together cA a_m a_g a_n a_h a_u a_e a_s a_t g_manner g_nodes g_arcs n_x n_y n_nodes n_aloneB n_link n_near s_drawn s_labels s_order) H := hP.sub [0, 16, 1, 2, 3, 4, 5, 6, 7, 8, 9, 10, 11, 12, 13, 14, 15] rfl
  have hD : va_D A (wd_MG_together cA a_m a_g a_n a_h a_u a_e a_s a_t g_manner g_nodes g_arcs n_x n_y n_nodes n_aloneB n_link n_near s_drawn s_labels s_order) := hD.sub [0, 16, 1, 2, 3, 4, 5, 6, 7, 8, 9, 10, 11, 12, 13, 14, 15] (by decide) rfl
  refine lv_if_ne (tgt := 14) hx hb d_MG_together_9 (by decide) (fun c_5 => ?_) (fun c_5 => ?_)
  · have h := ifn (c_5) h
    refine lv_iconst (v := 0) hx hb d_MG_together_14 (by decide) ?_
    refine lv_istore_n (lv' := [(3, .int (0 : Int32)), (0, .ref (a_m 0)), (1, .int v1), (2, .int v2)]) hx hb d_MG_together_15 rfl hl (by decide) rfl (fun ls hl => ?_)
    refine lv_iconst (v := 0) hx hb d_MG_together_16 (by decide) ?_
    refine lv_istore (lv' := [(4, .int (0 : Int32)), (3, .int (0 : Int32)), (0, .ref (a_m 0)), (1, .int v1), (2, .int v2)]) hx hb d_MG_together_17 hl (by decide) rfl (fun ls hl => ?_)
    refine cast (hG _ _ _ _ _ _ _) (lp_go2 h (fun zz : Int32 × Int32 × Int32 × (Nat → Int32) × (Nat → Int32) => ∀ (H : Heap) (locs : List Loc) (ls : Array Slot), va_P D cls9 (wd_MG_together cA a_m a_g a_n a_h a_u a_e a_s a_t g_manner g_nodes g_arcs n_x n_y n_nodes n_aloneB n_link n_near zz.2.2.1 zz.2.2.2.1 zz.2.2.2.2) H → va_D A (wd_MG_together cA a_m a_g a_n a_h a_u a_e a_s a_t g_manner g_nodes g_arcs n_x n_y n_nodes n_aloneB n_link n_near zz.2.2.1 zz.2.2.2.1 zz.2.2.2.2) → va_S A s.heap H locs → lv_has ls 5 [(4, .int zz.2.1), (3, .int zz.1), (0, .ref (a_m 0)), (1, .int v1), (2, .int v2)] → G H locs 0 0 ls 66 []) ?_ (fun zz : Int32 × Int32 × Int32 × (Nat → Int32) × (Nat → Int32) => ∀ (H : Heap) (locs : List Loc) (ls : Array Slot), va_P D cls9 (wd_MG_together cA a_m a_g a_n a_h a_u a_e a_s a_t g_manner g_nodes g_arcs n_x n_y n_nodes n_aloneB n_link n_near zz.2.2.1 zz.2.2.2.1 zz.2.2.2.2) H → va_D A (wd_MG_together cA a_m a_g a_n a_h a_u a_e a_s a_t g_manner g_nodes g_arcs n_x n_y n_nodes n_aloneB n_link n_near zz.2.2.1 zz.2.2.2.1 zz.2.2.2.2) → va_S A s.heap H locs → lv_has ls 5 [(4, .int zz.2.1), (3, .int zz.1), (0, .ref (a_m 0)), (1, .int v1), (2, .int v2)] → G H locs 0 0 ls 19 []) ?_ _ _ ls hP hD hS (lv_sub hl [0, 1, 2, 3, 4] rfl))
    · intro zz h H locs ls hP hD hS hl
      obtain ⟨x3_19e, x4_19e, s_drawn_19e, s_labels_19e, s_order_19e⟩ := zz
      have hP : va_P D cls9 (wd_MG_together cA a_m a_g a_n a_h a_u a_e a_s a_t g_manner g_nodes g_arcs n_x n_y n_nodes n_aloneB n_link n_near s_drawn_19e s_labels_19e s_order_19e) H := hP
      have hD : va_D A (wd_MG_together cA a_m a_g a_n a_h a_u a_e a_s a_t g_manner g_nodes g_arcs n_x n_y n_nodes n_aloneB n_link n_near s_drawn_19e s_labels_19e s_order_19e) := hD
      have hl : lv_has ls 5 [(4, .int x4_19e), (3, .int x3_19e), (0, .ref (a_m 0)), (1, .int v1), (2, .int v2)] := hl
      refine cast (hG _ _ _ _ _ _ _).symm ?_
      refine lv_iload_n hx hb d_MG_together_66 rfl (lv_at hl 1 rfl) ?_
      exact W.iret (v := x3_19e) hx hb hr (fun t ht hW => ⟨⟨x3_19e, (s_drawn_19e, s_labels_19e, s_order_19e), rfl, Option.some.inj h, by rw [ht]; exact hP, va_K.moved hW.alike hK, hD⟩, hS.F ht⟩) hS.2.2 d_MG_together_67
    · intro back exit zz hB_19 hE_19 h H locs ls hP hD hS hl
      obtain ⟨x3_19, x4_19, s_drawn_19, s_labels_19, s_order_19⟩ := zz
      have hP : va_P D cls9 (wd_MG_together cA a_m a_g a_n a_h a_u a_e a_s a_t g_manner g_nodes g_arcs n_x n_y n_nodes n_aloneB n_link n_near s_drawn_19 s_labels_19 s_order_19) H := hP
      have hD : va_D A (wd_MG_together cA a_m a_g a_n a_h a_u a_e a_s a_t g_manner g_nodes g_arcs n_x n_y n_nodes n_aloneB n_link n_near s_drawn_19 s_labels_19 s_order_19) := hD
      have hl : lv_has ls 5 [(4, .int x4_19), (3, .int x3_19), (0, .ref (a_m 0)), (1, .int v1), (2, .int v2)] := hl
      refine cast (hG _ _ _ _ _ _ _).symm ?_
      refine lv_iload hx hb d_MG_together_19 (lv_at hl 0 rfl) ?_
      refine lv_bipush (v := 20) hx hb d_MG_together_21 (by decide) ?_
      refine lv_icmp_ge (tgt := 66) hx hb d_MG_together_23 (by decide) (fun c_6 => ?_) (fun c_6 => ?_)
      · have h := ifp (c_6) h
        exact cast (hG _ _ _ _ _ _ _) (hE_19 (x3_19, x4_19, s_drawn_19, s_labels_19, s_order_19) h _ _ _ hP hD hS (lv_sub hl [0, 1, 2, 3, 4] rfl))
      · have h := ifn (c_6) h
        refine lv_aload_n hx hb d_MG_together_26 rfl (lv_at hl 2 rfl) ?_
        refine va_get (ci := 7) (v := .ref (a_s 0)) (C := R_MG) (T := F_MG) (N := 7) hx hb hal in_MG hown hK hP 0 rfl rfl 5 (by decide) (hal _ kw_249) (fun _ h9 => h9) rfl d_MG_together_27 ?_
        refine lv_iload hx hb d_MG_together_30 (lv_at hl 0 rfl) ?_
        obtain ⟨o_13, hc_12, h⟩ := bd h
        have hPc := hP.sub (ws' := (wd_Sp_run cA a_n a_s n_x n_y n_nodes n_aloneB n_link n_near s_drawn_19 s_labels_19 s_order_19)) [2, 3, 4, 5, 6, 7, 8, 9, 10, 11, 12, 13, 14, 15, 16] rfl
        have hDc := hD.sub (ws' := (wd_Sp_run cA a_n a_s n_x n_y n_nodes n_aloneB n_link n_near s_drawn_19 s_labels_19 s_order_19)) [2, 3, 4, 5, 6, 7, 8, 9, 10, 11, 12, 13, 14, 15, 16] (by decide) rfl
        have hFc := va_free (wc := (wd_Sp_run cA a_n a_s n_x n_y n_nodes n_aloneB n_link n_near s_drawn_19 s_labels_19 s_order_19)) hD hS hA [2, 3, 4, 5, 6, 7, 8, 9, 10, 11, 12, 13, 14, 15, 16] rfl
        refine va_calli (va_runV (C := R_Sp) (As := [.int x4_19]) (rest := []) ⟨hx, hb, hml, hown, hal⟩ (c_Sp_run l D cA a_n a_s H.size n_x n_y n_nodes n_aloneB n_link n_near s_drawn_19 s_labels_19 s_order_19 x4_19 o_13 hc_12) (cwV 1 hal (goodV kw_527 kw_528 kw_529 kw_7 kw_530) rfl rfl rfl (by decide +kernel) ⟨Nat.le_of_ble_eq_true rfl, Nat.le_of_ble_eq_true rfl⟩) ⟨fun a U g mk q => by obtain ⟨q0, q1, qP, qK, qD⟩ := q; exact ⟨q0, q1, qP, va_K.moved (u := U) (U := U.calling g mk a) (Vm.Alike.refl U.vm) qK, qD⟩, va_recv hK hP (ci := 4) (q0 := 14) rfl rfl, fun U hU hW => ⟨rfl, by rw [hU], by rw [hU]; exact hPc, va_K.moved hW.alike hK, hDc.weaken (fun _ _ _ _ => trivial)⟩⟩ rfl rfl hl.1 rfl (lv_room (Nat.le_of_ble_eq_true rfl)) d_MG_together_32 ⟨Nat.le_of_ble_eq_true rfl, Nat.le_of_ble_eq_true rfl⟩) hS (fun q _ h => hFc q h) hFc (fun r_8 u t H1 locs ht hvm hw hB hz1 hk1 hS => ?_)
        obtain ⟨u_9, u_10, u_11⟩ := u
        subst hw
        obtain ⟨hP1, hK1, hD1⟩ := hB
        rw [ht] at hP1
        have hP1 : va_P D cls9 (wd_Sp_run cA a_n a_s n_x n_y n_nodes n_aloneB n_link n_near u_9 u_10 u_11) H1 := hP1
        obtain ⟨hP, hD⟩ := va_join (wr := ([0, 1] : List Nat).filterMap (fun i => (wd_MG_together cA a_m a_g a_n a_h a_u a_e a_s a_t g_manner g_nodes g_arcs n_x n_y n_nodes n_aloneB n_link n_near s_drawn_19 s_labels_19 s_order_19)[i]?)) (w1 := (wd_Sp_run cA a_n a_s n_x n_y n_nodes n_aloneB n_link n_near u_9 u_10 u_11)) hP hD [2, 3, 4, 5, 6, 7, 8, 9, 10, 11, 12, 13, 14, 15, 16] [0, 1] rfl rfl (by decide) (by decide) hk1 hFc hP1 hD1
        generalize H1 = H at hP hS ⊢
        have hP : va_P D cls9 (wd_MG_together cA a_m a_g a_n a_h a_u a_e a_s a_t g_manner g_nodes g_arcs n_x n_y n_nodes n_aloneB n_link n_near u_9 u_10 u_11) H := hP.sub [0, 1, 2, 3, 4, 5, 6, 7, 8, 9, 10, 11, 12, 13, 14, 15, 16] rfl
        have hD : va_D A (wd_MG_together cA a_m a_g a_n a_h a_u a_e a_s a_t g_manner g_nodes g_arcs n_x n_y n_nodes n_aloneB n_link n_near u_9 u_10 u_11) := hD.sub [0, 1, 2, 3, 4, 5, 6, 7, 8, 9, 10, 11, 12, 13, 14, 15, 16] (by decide) rfl
        refine lv_pop hx hb d_MG_together_35 rfl ?_
        refine lv_aload_n hx hb d_MG_together_36 rfl (lv_at hl 2 rfl) ?_
        refine va_get (ci := 7) (v := .ref (a_s 0)) (C := R_MG) (T := F_MG) (N := 7) hx hb hal in_MG hown hK hP 0 rfl rfl 5 (by decide) (hal _ kw_249) (fun _ h9 => h9) rfl d_MG_together_37 ?_
        refine va_get (ci := 4) (v := .ref (a_s 1)) (C := R_Sp) (T := F_Sp) (N := 4) hx hb hal in_Sp hown hK hP 14 rfl rfl 1 (by decide) (hal _ kw_185) (fun _ h9 => h9) rfl d_MG_together_40 ?_
        refine lv_iload_n hx hb d_MG_together_43 rfl (lv_at hl 3 rfl) ?_
        obtain ⟨g_14, h⟩ := gd h
        refine va_iald hx hb hK hP 15 0 rfl rfl (inb_in g_14) d_MG_together_44 ?_
        refine lv_aload_n hx hb d_MG_together_45 rfl (lv_at hl 2 rfl) ?_
        refine va_get (ci := 7) (v := .ref (a_s 0)) (C := R_MG) (T := F_MG) (N := 7) hx hb hal in_MG hown hK hP 0 rfl rfl 5 (by decide) (hal _ kw_249) (fun _ h9 => h9) rfl d_MG_together_46 ?_
        refine va_get (ci := 4) (v := .ref (a_s 1)) (C := R_Sp) (T := F_Sp) (N := 4) hx hb hal in_Sp hown hK hP 14 rfl rfl 1 (by decide) (hal _ kw_185) (fun _ h9 => h9) rfl d_MG_together_49 ?_
        refine lv_iload_n hx hb d_MG_together_52 rfl (lv_at hl 4 rfl) ?_
        obtain ⟨g_15, h⟩ := gd h
        refine va_iald hx hb hK hP 15 0 rfl rfl (inb_in g_15) d_MG_together_53 ?_
        refine lv_icmp_ne (tgt := 60) hx hb d_MG_together_54 (by decide) (fun c_16 => ?_) (fun c_16 => ?_)
        · have h := ifn (c_16) h
          refine lv_iinc (v := (x4_19 + 1)) (lv' := [(4, .int (x4_19 + 1)), (3, .int x3_19), (0, .ref (a_m 0)), (1, .int v1), (2, .int v2)]) hx hb d_MG_together_60 hl (k := 0) rfl rfl (by decide) rfl (fun ls hl => ?_)
          refine lv_goto (tgt := 19) hx hb d_MG_together_63 (by decide) ?_
          exact cast (hG _ _ _ _ _ _ _) (hB_19 (x3_19, (x4_19 + 1), u_9, u_10, u_11) h _ _ _ hP hD hS (lv_sub hl [0, 1, 2, 3, 4] rfl))
        · have h := ifp (c_16) h
          refine lv_iinc (v := (x3_19 + 1)) (lv' := [(3, .int (x3_19 + 1)), (4, .int x4_19), (0, .ref (a_m 0)), (1, .int v1), (2, .int v2)]) hx hb d_MG_together_57 hl (k := 1) rfl rfl (by decide) rfl (fun ls hl => ?_)
          refine lv_iinc (v := (x4_19 + 1)) (lv' := [(4, .int (x4_19 + 1)), (3, .int (x3_19 + 1)), (0, .ref (a_m 0)), (1, .int v1), (2, .int v2)]) hx hb d_MG_together_60 hl (k := 1) rfl rfl (by decide) rfl (fun ls hl => ?_)
          refine lv_goto (tgt := 19) hx hb d_MG_together_63 (by decide) ?_
          exact cast (hG _ _ _ _ _ _ _) (hB_19 ((x3_19 + 1), (x4_19 + 1), u_9, u_10, u_11) h _ _ _ hP hD hS (lv_sub hl [0, 1, 2, 3, 4] rfl))
  · have h := ifp (c_5) h
    refine lv_iconst (v := (-1)) hx hb d_MG_together_12 (by decide) ?_
    exact W.iret (v := (-1 : Int32)) hx hb hr (fun t ht hW => ⟨⟨(-1 : Int32), (s_drawn, s_labels, s_order), rfl, Option.some.inj h, by rw [ht]; exact hP, va_K.moved hW.alike hK, hD⟩, hS.F ht⟩) hS.2.2 d_MG_together_13
