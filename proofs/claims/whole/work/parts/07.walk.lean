def wd_Wa_weigh (cA : Nat → ClassId) (a_n a_k : Nat → Nat) (n_x : Int32) (n_y : Int32) (n_nodes : Int32) (n_aloneB : Int64) (n_pairA : Nat → Nat → Int64) (n_pairB : Nat → Nat → Int64) (k_groups : Nat → Int32) (k_bringA : Nat → Nat → Int64) (k_bringB : Nat → Nat → Int64) : va_W := [(a_n 0, .inr (0, [.int n_x, .int n_y, .int n_nodes, .long n_aloneB, .ref (a_n 1), .ref (a_n 11), .ref (a_n 21), .ref (a_n 31), .ref (a_n 32)])), (a_n 1, .inl (cA 4, 9, .inr (.inr (.inr (.inr (fun i => if i < 9 then some (a_n (i + 2)) else none)))))), (a_n (0 + 2), .inl (cA 1, 9, .inr (.inl (n_pairA 0)))), (a_n (1 + 2), .inl (cA 1, 9, .inr (.inl (n_pairA 1)))), (a_n (2 + 2), .inl (cA 1, 9, .inr (.inl (n_pairA 2)))), (a_n (3 + 2), .inl (cA 1, 9, .inr (.inl (n_pairA 3)))), (a_n (4 + 2), .inl (cA 1, 9, .inr (.inl (n_pairA 4)))), (a_n (5 + 2), .inl (cA 1, 9, .inr (.inl (n_pairA 5)))), (a_n (6 + 2), .inl (cA 1, 9, .inr (.inl (n_pairA 6)))), (a_n (7 + 2), .inl (cA 1, 9, .inr (.inl (n_pairA 7)))), (a_n (8 + 2), .inl (cA 1, 9, .inr (.inl (n_pairA 8)))), (a_n 11, .inl (cA 4, 9, .inr (.inr (.inr (.inr (fun i => if i < 9 then some (a_n (i + 12)) else none)))))), (a_n (0 + 12), .inl (cA 1, 9, .inr (.inl (n_pairB 0)))), (a_n (1 + 12), .inl (cA 1, 9, .inr (.inl (n_pairB 1)))), (a_n (2 + 12), .inl (cA 1, 9, .inr (.inl (n_pairB 2)))), (a_n (3 + 12), .inl (cA 1, 9, .inr (.inl (n_pairB 3)))), (a_n (4 + 12), .inl (cA 1, 9, .inr (.inl (n_pairB 4)))), (a_n (5 + 12), .inl (cA 1, 9, .inr (.inl (n_pairB 5)))), (a_n (6 + 12), .inl (cA 1, 9, .inr (.inl (n_pairB 6)))), (a_n (7 + 12), .inl (cA 1, 9, .inr (.inl (n_pairB 7)))), (a_n (8 + 12), .inl (cA 1, 9, .inr (.inl (n_pairB 8)))), (a_k 0, .inr (6, [.ref (a_n 0), .ref (a_k 1), .ref (a_k 2), .ref (a_k 3), .ref (a_k 4), .ref (a_k 5), .ref (a_k 15)])), (a_k 1, .inl (cA 0, 9, .inl k_groups)), (a_k 5, .inl (cA 4, 9, .inr (.inr (.inr (.inr (fun i => if i < 9 then some (a_k (i + 6)) else none)))))), (a_k (0 + 6), .inl (cA 1, 9, .inr (.inl (k_bringA 0)))), (a_k (1 + 6), .inl (cA 1, 9, .inr (.inl (k_bringA 1)))), (a_k (2 + 6), .inl (cA 1, 9, .inr (.inl (k_bringA 2)))), (a_k (3 + 6), .inl (cA 1, 9, .inr (.inl (k_bringA 3)))), (a_k (4 + 6), .inl (cA 1, 9, .inr (.inl (k_bringA 4)))), (a_k (5 + 6), .inl (cA 1, 9, .inr (.inl (k_bringA 5)))), (a_k (6 + 6), .inl (cA 1, 9, .inr (.inl (k_bringA 6)))), (a_k (7 + 6), .inl (cA 1, 9, .inr (.inl (k_bringA 7)))), (a_k (8 + 6), .inl (cA 1, 9, .inr (.inl (k_bringA 8)))), (a_k 15, .inl (cA 4, 9, .inr (.inr (.inr (.inr (fun i => if i < 9 then some (a_k (i + 16)) else none)))))), (a_k (0 + 16), .inl (cA 1, 9, .inr (.inl (k_bringB 0)))), (a_k (1 + 16), .inl (cA 1, 9, .inr (.inl (k_bringB 1)))), (a_k (2 + 16), .inl (cA 1, 9, .inr (.inl (k_bringB 2)))), (a_k (3 + 16), .inl (cA 1, 9, .inr (.inl (k_bringB 3)))), (a_k (4 + 16), .inl (cA 1, 9, .inr (.inl (k_bringB 4)))), (a_k (5 + 16), .inl (cA 1, 9, .inr (.inl (k_bringB 5)))), (a_k (6 + 16), .inl (cA 1, 9, .inr (.inl (k_bringB 6)))), (a_k (7 + 16), .inl (cA 1, 9, .inr (.inl (k_bringB 7)))), (a_k (8 + 16), .inl (cA 1, 9, .inr (.inl (k_bringB 8))))]
theorem row_Wa_weigh_n_pairA {cA : Nat → ClassId} {a_n a_k : Nat → Nat} {n_x : Int32} {n_y : Int32} {n_nodes : Int32} {n_aloneB : Int64} {n_pairB : Nat → Nat → Int64} {k_groups : Nat → Int32} {k_bringA : Nat → Nat → Int64} {k_bringB : Nat → Nat → Int64} (n_pairA : Nat → Nat → Int64) (k : Nat) (hk : k < 9) : (wd_Wa_weigh cA a_n a_k n_x n_y n_nodes n_aloneB n_pairA n_pairB k_groups k_bringA k_bringB)[2 + k]? = some (a_n (k + 2), .inl (cA 1, 9, .inr (.inl (n_pairA k)))) := by
  rcases lt9 hk with rfl | rfl | rfl | rfl | rfl | rfl | rfl | rfl | rfl <;> rfl
theorem set_Wa_weigh_n_pairA {cA : Nat → ClassId} {a_n a_k : Nat → Nat} {n_x : Int32} {n_y : Int32} {n_nodes : Int32} {n_aloneB : Int64} {n_pairB : Nat → Nat → Int64} {k_groups : Nat → Int32} {k_bringA : Nat → Nat → Int64} {k_bringB : Nat → Nat → Int64} {n_pairA : Nat → Nat → Int64} {f : Nat → Int64} (k : Nat) (hk : k < 9) : (wd_Wa_weigh cA a_n a_k n_x n_y n_nodes n_aloneB n_pairA n_pairB k_groups k_bringA k_bringB).set (2 + k) (a_n (k + 2), .inl (cA 1, 9, .inr (.inl f))) = wd_Wa_weigh cA a_n a_k n_x n_y n_nodes n_aloneB (va_up n_pairA k f) n_pairB k_groups k_bringA k_bringB := by
  rcases lt9 hk with rfl | rfl | rfl | rfl | rfl | rfl | rfl | rfl | rfl <;> rfl
theorem row_Wa_weigh_n_pairB {cA : Nat → ClassId} {a_n a_k : Nat → Nat} {n_x : Int32} {n_y : Int32} {n_nodes : Int32} {n_aloneB : Int64} {n_pairA : Nat → Nat → Int64} {k_groups : Nat → Int32} {k_bringA : Nat → Nat → Int64} {k_bringB : Nat → Nat → Int64} (n_pairB : Nat → Nat → Int64) (k : Nat) (hk : k < 9) : (wd_Wa_weigh cA a_n a_k n_x n_y n_nodes n_aloneB n_pairA n_pairB k_groups k_bringA k_bringB)[12 + k]? = some (a_n (k + 12), .inl (cA 1, 9, .inr (.inl (n_pairB k)))) := by
  rcases lt9 hk with rfl | rfl | rfl | rfl | rfl | rfl | rfl | rfl | rfl <;> rfl
theorem set_Wa_weigh_n_pairB {cA : Nat → ClassId} {a_n a_k : Nat → Nat} {n_x : Int32} {n_y : Int32} {n_nodes : Int32} {n_aloneB : Int64} {n_pairA : Nat → Nat → Int64} {k_groups : Nat → Int32} {k_bringA : Nat → Nat → Int64} {k_bringB : Nat → Nat → Int64} {n_pairB : Nat → Nat → Int64} {f : Nat → Int64} (k : Nat) (hk : k < 9) : (wd_Wa_weigh cA a_n a_k n_x n_y n_nodes n_aloneB n_pairA n_pairB k_groups k_bringA k_bringB).set (12 + k) (a_n (k + 12), .inl (cA 1, 9, .inr (.inl f))) = wd_Wa_weigh cA a_n a_k n_x n_y n_nodes n_aloneB n_pairA (va_up n_pairB k f) k_groups k_bringA k_bringB := by
  rcases lt9 hk with rfl | rfl | rfl | rfl | rfl | rfl | rfl | rfl | rfl <;> rfl
theorem row_Wa_weigh_k_bringA {cA : Nat → ClassId} {a_n a_k : Nat → Nat} {n_x : Int32} {n_y : Int32} {n_nodes : Int32} {n_aloneB : Int64} {n_pairA : Nat → Nat → Int64} {n_pairB : Nat → Nat → Int64} {k_groups : Nat → Int32} {k_bringB : Nat → Nat → Int64} (k_bringA : Nat → Nat → Int64) (k : Nat) (hk : k < 9) : (wd_Wa_weigh cA a_n a_k n_x n_y n_nodes n_aloneB n_pairA n_pairB k_groups k_bringA k_bringB)[24 + k]? = some (a_k (k + 6), .inl (cA 1, 9, .inr (.inl (k_bringA k)))) := by
  rcases lt9 hk with rfl | rfl | rfl | rfl | rfl | rfl | rfl | rfl | rfl <;> rfl
theorem set_Wa_weigh_k_bringA {cA : Nat → ClassId} {a_n a_k : Nat → Nat} {n_x : Int32} {n_y : Int32} {n_nodes : Int32} {n_aloneB : Int64} {n_pairA : Nat → Nat → Int64} {n_pairB : Nat → Nat → Int64} {k_groups : Nat → Int32} {k_bringB : Nat → Nat → Int64} {k_bringA : Nat → Nat → Int64} {f : Nat → Int64} (k : Nat) (hk : k < 9) : (wd_Wa_weigh cA a_n a_k n_x n_y n_nodes n_aloneB n_pairA n_pairB k_groups k_bringA k_bringB).set (24 + k) (a_k (k + 6), .inl (cA 1, 9, .inr (.inl f))) = wd_Wa_weigh cA a_n a_k n_x n_y n_nodes n_aloneB n_pairA n_pairB k_groups (va_up k_bringA k f) k_bringB := by
  rcases lt9 hk with rfl | rfl | rfl | rfl | rfl | rfl | rfl | rfl | rfl <;> rfl
theorem row_Wa_weigh_k_bringB {cA : Nat → ClassId} {a_n a_k : Nat → Nat} {n_x : Int32} {n_y : Int32} {n_nodes : Int32} {n_aloneB : Int64} {n_pairA : Nat → Nat → Int64} {n_pairB : Nat → Nat → Int64} {k_groups : Nat → Int32} {k_bringA : Nat → Nat → Int64} (k_bringB : Nat → Nat → Int64) (k : Nat) (hk : k < 9) : (wd_Wa_weigh cA a_n a_k n_x n_y n_nodes n_aloneB n_pairA n_pairB k_groups k_bringA k_bringB)[34 + k]? = some (a_k (k + 16), .inl (cA 1, 9, .inr (.inl (k_bringB k)))) := by
  rcases lt9 hk with rfl | rfl | rfl | rfl | rfl | rfl | rfl | rfl | rfl <;> rfl
theorem set_Wa_weigh_k_bringB {cA : Nat → ClassId} {a_n a_k : Nat → Nat} {n_x : Int32} {n_y : Int32} {n_nodes : Int32} {n_aloneB : Int64} {n_pairA : Nat → Nat → Int64} {n_pairB : Nat → Nat → Int64} {k_groups : Nat → Int32} {k_bringA : Nat → Nat → Int64} {k_bringB : Nat → Nat → Int64} {f : Nat → Int64} (k : Nat) (hk : k < 9) : (wd_Wa_weigh cA a_n a_k n_x n_y n_nodes n_aloneB n_pairA n_pairB k_groups k_bringA k_bringB).set (34 + k) (a_k (k + 16), .inl (cA 1, 9, .inr (.inl f))) = wd_Wa_weigh cA a_n a_k n_x n_y n_nodes n_aloneB n_pairA n_pairB k_groups k_bringA (va_up k_bringB k f) := by
  rcases lt9 hk with rfl | rfl | rfl | rfl | rfl | rfl | rfl | rfl | rfl <;> rfl
noncomputable def s_Wa_weigh_27 (w2 : Nat) (w3 : Nat) (x1 : Int32) (k_groups : Nat → Int32) (n_pairA : Nat → Nat → Int64) (n_pairB : Nat → Nat → Int64) (zz : Int32 × (Nat → Nat → Int64) × (Nat → Nat → Int64)) (back exit : (Int32 × (Nat → Nat → Int64) × (Nat → Nat → Int64)) → Option ((Nat → Nat → Int64) × (Nat → Nat → Int64))) : Option ((Nat → Nat → Int64) × (Nat → Nat → Int64)) :=
  (if x1 ≤ zz.1 then (exit (zz.1, zz.2.1, zz.2.2)) else (if inb zz.1 9 then (if inb (k_groups zz.1.toNatClampNeg) 9 then (if inb x1 9 then (back ((zz.1 + 1), (va_up zz.2.1 w2 (vp_updL (zz.2.1 w2) (k_groups zz.1.toNatClampNeg).toNatClampNeg (((zz.2.1 w2) (k_groups zz.1.toNatClampNeg).toNatClampNeg) + ((n_pairA x1.toNatClampNeg) zz.1.toNatClampNeg)))), (va_up zz.2.2 w3 (vp_updL (zz.2.2 w3) (k_groups zz.1.toNatClampNeg).toNatClampNeg (((zz.2.2 w3) (k_groups zz.1.toNatClampNeg).toNatClampNeg) + ((n_pairB x1.toNatClampNeg) zz.1.toNatClampNeg)))))) else none) else none) else none))
noncomputable def m_Wa_weigh (n_pairA : Nat → Nat → Int64) (n_pairB : Nat → Nat → Int64) (k_groups : Nat → Int32) (k_bringA : Nat → Nat → Int64) (k_bringB : Nat → Nat → Int64) (v1 : Int32) : Option ((Nat → Nat → Int64) × (Nat → Nat → Int64)) :=
  (if inb v1 9 then ((m_Ar_fill_AJJ (k_bringA v1.toNatClampNeg) 9 (0 : Int64)).bind (fun r16 : (Nat → Int64) => ((m_Ar_fill_AJJ (k_bringB v1.toNatClampNeg) 9 (0 : Int64)).bind (fun r21 : (Nat → Int64) => (loopC (s_Wa_weigh_27 v1.toNatClampNeg v1.toNatClampNeg v1 k_groups n_pairA n_pairB) (fun z27 : Int32 × (Nat → Nat → Int64) × (Nat → Nat → Int64) => some (z27.2.1, z27.2.2)) FU ((0 : Int32), (va_up k_bringA v1.toNatClampNeg r16), (va_up k_bringB v1.toNatClampNeg r21))))))) else none)
set_option maxHeartbeats 4000000 in
set_option maxRecDepth 100000 in
theorem c_Wa_weigh (l : Launch) (D : va_G) (cA : Nat → ClassId) (a_n a_k : Nat → Nat) (sz : Nat) (n_x : Int32) (n_y : Int32) (n_nodes : Int32) (n_aloneB : Int64) (n_pairA : Nat → Nat → Int64) (n_pairB : Nat → Nat → Int64) (k_groups : Nat → Int32) (k_bringA : Nat → Nat → Int64) (k_bringB : Nat → Nat → Int64) (v1 : Int32) (out : (Nat → Nat → Int64) × (Nat → Nat → Int64)) (h : m_Wa_weigh n_pairA n_pairB k_groups k_bringA k_bringB v1 = some out) : Met l y_Wa_weigh w_Wa_weigh ({ frames := 1, cells := 0, slots := 0, locals := 24 }) (va_Pc [.ref (a_k 0), .int v1] (fun U => U.heap.size = sz ∧ va_P D cls9 (wd_Wa_weigh cA a_n a_k n_x n_y n_nodes n_aloneB n_pairA n_pairB k_groups k_bringA k_bringB) U.heap ∧ va_K D cls9 (tys5 cA) U ∧ va_D (fun _ => True) (wd_Wa_weigh cA a_n a_k n_x n_y n_nodes n_aloneB n_pairA n_pairB k_groups k_bringA k_bringB))) (va_Qv (fun uu : (Nat → Nat → Int64) × (Nat → Nat → Int64) => uu = out) (fun (uu : (Nat → Nat → Int64) × (Nat → Nat → Int64)) (t : State) => va_P D cls9 (wd_Wa_weigh cA a_n a_k n_x n_y n_nodes n_aloneB n_pairA n_pairB k_groups uu.1 uu.2) t.heap ∧ va_K D cls9 (tys5 cA) t ∧ va_D (va_A (wd_Wa_weigh cA a_n a_k n_x n_y n_nodes n_aloneB n_pairA n_pairB k_groups k_bringA k_bringB) sz) (wd_Wa_weigh cA a_n a_k n_x n_y n_nodes n_aloneB n_pairA n_pairB k_groups uu.1 uu.2)) (va_A (wd_Wa_weigh cA a_n a_k n_x n_y n_nodes n_aloneB n_pairA n_pairB k_groups k_bringA k_bringB) sz)) 0 0 (va_A (wd_Wa_weigh cA a_n a_k n_x n_y n_nodes n_aloneB n_pairA n_pairB k_groups k_bringA k_bringB) sz) := by
  refine Met.ofW (cc := b_Wa_weigh) (maxL := 5) (ret := (Option.none : Option Jvm.ClassFile.FieldType)) (by decide) rfl ?_
  intro p e s m args below meth c s₁ B hml hv
  obtain ⟨rfl, hsz, hP, hK, hD0⟩ := hv
  have hx := B.exec
  have hb := B.bytes
  have hr := B.returns
  have hts := atoms_spec (ws := w_Wa_weigh) B.pre
  have hal : ∀ w ∈ ALLW, w.before _ s = true := fun w hw => hts w (List.mem_cons_of_mem _ hw)
  have hown : s.vm.findClass R_Wa = some m.cls := findClass_of_methodNamed B.named
  have hlocks := B.notSynchronized
  subst hsz
  have hD := hD0.self (sz := s.heap.size)
  generalize hAe : va_A (wd_Wa_weigh cA a_n a_k n_x n_y n_nodes n_aloneB n_pairA n_pairB k_groups k_bringA k_bringB) s.heap.size = A at hD ⊢
  have hA : ∀ q : Nat, s.heap.size ≤ q → A q := fun q h => by rw [← hAe]; exact Or.inr h
  have hS : va_S A s.heap s.heap [] := va_S.rf
  have hl := lv_entry ([.ref (a_k 0), .int v1]) (n := 5) (Nat.le_of_ble_eq_true rfl)
  rw [lg_entry_eq]
  generalize (lg_sl ([.ref (a_k 0), .int v1]) ++ List.replicate (5 - (lg_sl ([.ref (a_k 0), .int v1])).length) Slot.unset).toArray = ls at hl ⊢
  have hl : lv_has ls 5 [(0, .ref (a_k 0)), (1, .int v1)] := hl
  refine wg (fun G hG => ?_)
  refine cast (hG _ _ _ _ _ _ _).symm ?_
  obtain ⟨H, locs, hHl, hS⟩ : ∃ (H : Heap) (locs : List Loc), (H = s.heap ∧ locs = []) ∧ va_S A s.heap H locs := ⟨s.heap, [], ⟨rfl, rfl⟩, hS⟩
  have hP : va_P D cls9 (wd_Wa_weigh cA a_n a_k n_x n_y n_nodes n_aloneB n_pairA n_pairB k_groups k_bringA k_bringB) H := by rw [hHl.1]; exact hP
  rw [← hHl.1, ← hHl.2]
  clear hHl
  refine lv_aload_n hx hb d_Wa_weigh_0 rfl (lv_at hl 0 rfl) ?_
  refine va_get (ci := 6) (v := .ref (a_k 5)) (C := R_Wa) (T := F_Wa) (N := 7) hx hb hal in_Wa hown hK hP 21 rfl rfl 5 (by decide) (hal _ kw_139) (fun _ h9 => h9) rfl d_Wa_weigh_1 ?_
  refine lv_iload_n hx hb d_Wa_weigh_4 rfl (lv_at hl 1 rfl) ?_
  obtain ⟨g_1, h⟩ := gd h
  refine my_aald (ad := fun i => a_k (i + 6)) (t := .long) hx hb hK hP 23 4 rfl rfl (inb_in g_1) (inb_lt g_1) d_Wa_weigh_5 ?_
  refine lv_astore_n (lv' := [(2, .ref (a_k (v1.toNatClampNeg + 6))), (0, .ref (a_k 0)), (1, .int v1)]) hx hb d_Wa_weigh_6 rfl hl (by decide) rfl (fun ls hl => ?_)
  refine lv_aload_n hx hb d_Wa_weigh_7 rfl (lv_at hl 1 rfl) ?_
  refine va_get (ci := 6) (v := .ref (a_k 15)) (C := R_Wa) (T := F_Wa) (N := 7) hx hb hal in_Wa hown hK hP 21 rfl rfl 6 (by decide) (hal _ kw_140) (fun _ h9 => h9) rfl d_Wa_weigh_8 ?_
  refine lv_iload_n hx hb d_Wa_weigh_11 rfl (lv_at hl 2 rfl) ?_
  refine my_aald (ad := fun i => a_k (i + 16)) (t := .long) hx hb hK hP 33 4 rfl rfl (inb_in g_1) (inb_lt g_1) d_Wa_weigh_12 ?_
  refine lv_astore_n (lv' := [(3, .ref (a_k (v1.toNatClampNeg + 16))), (2, .ref (a_k (v1.toNatClampNeg + 6))), (0, .ref (a_k 0)), (1, .int v1)]) hx hb d_Wa_weigh_13 rfl hl (by decide) rfl (fun ls hl => ?_)
  refine lv_aload_n hx hb d_Wa_weigh_14 rfl (lv_at hl 1 rfl) ?_
  refine lv_lconst (v := 0) hx hb d_Wa_weigh_15 (by decide) ?_
  obtain ⟨o_6, hc_5, h⟩ := bd h
  have hPc : va_P D cls9 (wd_Ar_fill_AJJ cA (fun _ => a_k (v1.toNatClampNeg + 6)) (k_bringA v1.toNatClampNeg) 9) H := sub1P hP (row_Wa_weigh_k_bringA _ _ (inb_lt g_1))
  have hDc : va_D A (wd_Ar_fill_AJJ cA (fun _ => a_k (v1.toNatClampNeg + 6)) (k_bringA v1.toNatClampNeg) 9) := sub1D hD (row_Wa_weigh_k_bringA _ _ (inb_lt g_1))
  have hFc : ∀ q, va_A (wd_Ar_fill_AJJ cA (fun _ => a_k (v1.toNatClampNeg + 6)) (k_bringA v1.toNatClampNeg) 9) H.size q → A q := free1 hD hS hA (row_Wa_weigh_k_bringA _ _ (inb_lt g_1))
  refine va_callv (va_runS (As := [.ref (a_k (v1.toNatClampNeg + 6)), .long (0 : Int64)]) (rest := []) ⟨hx, hb, hml, hown, hal⟩ (c_Ar_fill_AJJ l D cA (fun _ => a_k (v1.toNatClampNeg + 6)) H.size (k_bringA v1.toNatClampNeg) 9 (0 : Int64) o_6 hc_5) (va_cwS 2 hal (goodS kw_470 kw_286 kw_10 kw_287) rfl rfl rfl (by decide +kernel) ⟨Nat.le_of_ble_eq_true rfl, Nat.le_of_ble_eq_true rfl⟩) ⟨fun a U g mk q => by obtain ⟨q0, q1, qP, qK, qD⟩ := q; exact ⟨q0, q1, qP, va_K.moved (u := U) (U := U.calling g mk a) (Vm.Alike.refl U.vm) qK, qD⟩, fun U hU hW => ⟨rfl, by rw [hU], by rw [hU]; exact hPc, va_K.moved hW.alike hK, hDc.weaken (fun _ _ _ _ => trivial)⟩⟩ rfl rfl hl.1 rfl (lv_room (Nat.le_of_ble_eq_true rfl)) d_Wa_weigh_16 ⟨Nat.le_of_ble_eq_true rfl, Nat.le_of_ble_eq_true rfl⟩) hS (fun q _ h => hFc q h) hFc (fun u t H1 locs ht hvm hw hB hz1 hk1 hS => ?_)
  obtain ⟨u_4, rfl⟩ : ∃ q, q = u := ⟨_, rfl⟩
  subst hw
  obtain ⟨hP1, hK1, hD1⟩ := hB
  rw [ht] at hP1
  have hP1 : va_P D cls9 (wd_Ar_fill_AJJ cA (fun _ => a_k (v1.toNatClampNeg + 6)) u_4 9) H1 := hP1
  obtain ⟨hP, hD⟩ := join1 hP hD (row_Wa_weigh_k_bringA _ _ (inb_lt g_1)) hk1 hFc hP1 hD1
  generalize H1 = H at hP hS ⊢
  have hP : va_P D cls9 (wd_Wa_weigh cA a_n a_k n_x n_y n_nodes n_aloneB n_pairA n_pairB k_groups (va_up k_bringA v1.toNatClampNeg u_4) k_bringB) H := (set_Wa_weigh_k_bringA _ (inb_lt g_1)).subst (motive := fun x => va_P D cls9 x H) hP
  have hD : va_D A (wd_Wa_weigh cA a_n a_k n_x n_y n_nodes n_aloneB n_pairA n_pairB k_groups (va_up k_bringA v1.toNatClampNeg u_4) k_bringB) := (set_Wa_weigh_k_bringA _ (inb_lt g_1)).subst (motive := fun x => va_D A x) hD
  refine lv_aload_n hx hb d_Wa_weigh_19 rfl (lv_at hl 0 rfl) ?_
  refine lv_lconst (v := 0) hx hb d_Wa_weigh_20 (by decide) ?_
  obtain ⟨o_11, hc_10, h⟩ := bd h
  have hPc : va_P D cls9 (wd_Ar_fill_AJJ cA (fun _ => a_k (v1.toNatClampNeg + 16)) (k_bringB v1.toNatClampNeg) 9) H := sub1P hP (row_Wa_weigh_k_bringB _ _ (inb_lt g_1))
  have hDc : va_D A (wd_Ar_fill_AJJ cA (fun _ => a_k (v1.toNatClampNeg + 16)) (k_bringB v1.toNatClampNeg) 9) := sub1D hD (row_Wa_weigh_k_bringB _ _ (inb_lt g_1))
  have hFc : ∀ q, va_A (wd_Ar_fill_AJJ cA (fun _ => a_k (v1.toNatClampNeg + 16)) (k_bringB v1.toNatClampNeg) 9) H.size q → A q := free1 hD hS hA (row_Wa_weigh_k_bringB _ _ (inb_lt g_1))
  refine va_callv (va_runS (As := [.ref (a_k (v1.toNatClampNeg + 16)), .long (0 : Int64)]) (rest := []) ⟨hx, hb, hml, hown, hal⟩ (c_Ar_fill_AJJ l D cA (fun _ => a_k (v1.toNatClampNeg + 16)) H.size (k_bringB v1.toNatClampNeg) 9 (0 : Int64) o_11 hc_10) (va_cwS 2 hal (goodS kw_470 kw_286 kw_10 kw_287) rfl rfl rfl (by decide +kernel) ⟨Nat.le_of_ble_eq_true rfl, Nat.le_of_ble_eq_true rfl⟩) ⟨fun a U g mk q => by obtain ⟨q0, q1, qP, qK, qD⟩ := q; exact ⟨q0, q1, qP, va_K.moved (u := U) (U := U.calling g mk a) (Vm.Alike.refl U.vm) qK, qD⟩, fun U hU hW => ⟨rfl, by rw [hU], by rw [hU]; exact hPc, va_K.moved hW.alike hK, hDc.weaken (fun _ _ _ _ => trivial)⟩⟩ rfl rfl hl.1 rfl (lv_room (Nat.le_of_ble_eq_true rfl)) d_Wa_weigh_21 ⟨Nat.le_of_ble_eq_true rfl, Nat.le_of_ble_eq_true rfl⟩) hS (fun q _ h => hFc q h) hFc (fun u t H1 locs ht hvm hw hB hz1 hk1 hS => ?_)
  obtain ⟨u_9, rfl⟩ : ∃ q, q = u := ⟨_, rfl⟩
  subst hw
  obtain ⟨hP1, hK1, hD1⟩ := hB
  rw [ht] at hP1
  have hP1 : va_P D cls9 (wd_Ar_fill_AJJ cA (fun _ => a_k (v1.toNatClampNeg + 16)) u_9 9) H1 := hP1
  obtain ⟨hP, hD⟩ := join1 hP hD (row_Wa_weigh_k_bringB _ _ (inb_lt g_1)) hk1 hFc hP1 hD1
  generalize H1 = H at hP hS ⊢
  have hP : va_P D cls9 (wd_Wa_weigh cA a_n a_k n_x n_y n_nodes n_aloneB n_pairA n_pairB k_groups (va_up k_bringA v1.toNatClampNeg u_4) (va_up k_bringB v1.toNatClampNeg u_9)) H := (set_Wa_weigh_k_bringB _ (inb_lt g_1)).subst (motive := fun x => va_P D cls9 x H) hP
  have hD : va_D A (wd_Wa_weigh cA a_n a_k n_x n_y n_nodes n_aloneB n_pairA n_pairB k_groups (va_up k_bringA v1.toNatClampNeg u_4) (va_up k_bringB v1.toNatClampNeg u_9)) := (set_Wa_weigh_k_bringB _ (inb_lt g_1)).subst (motive := fun x => va_D A x) hD
  refine lv_iconst (v := 0) hx hb d_Wa_weigh_24 (by decide) ?_
  refine lv_istore (lv' := [(4, .int (0 : Int32)), (3, .ref (a_k (v1.toNatClampNeg + 16))), (2, .ref (a_k (v1.toNatClampNeg + 6))), (0, .ref (a_k 0)), (1, .int v1)]) hx hb d_Wa_weigh_25 hl (by decide) rfl (fun ls hl => ?_)
  refine cast (hG _ _ _ _ _ _ _) (lp_go2 h (fun zz : Int32 × (Nat → Nat → Int64) × (Nat → Nat → Int64) => ∀ (H : Heap) (locs : List Loc) (ls : Array Slot), va_P D cls9 (wd_Wa_weigh cA a_n a_k n_x n_y n_nodes n_aloneB n_pairA n_pairB k_groups zz.2.1 zz.2.2) H → va_D A (wd_Wa_weigh cA a_n a_k n_x n_y n_nodes n_aloneB n_pairA n_pairB k_groups zz.2.1 zz.2.2) → va_S A s.heap H locs → lv_has ls 5 [(4, .int zz.1), (3, .ref (a_k (v1.toNatClampNeg + 16))), (2, .ref (a_k (v1.toNatClampNeg + 6))), (0, .ref (a_k 0)), (1, .int v1)] → G H locs 0 0 ls 87 []) ?_ (fun zz : Int32 × (Nat → Nat → Int64) × (Nat → Nat → Int64) => ∀ (H : Heap) (locs : List Loc) (ls : Array Slot), va_P D cls9 (wd_Wa_weigh cA a_n a_k n_x n_y n_nodes n_aloneB n_pairA n_pairB k_groups zz.2.1 zz.2.2) H → va_D A (wd_Wa_weigh cA a_n a_k n_x n_y n_nodes n_aloneB n_pairA n_pairB k_groups zz.2.1 zz.2.2) → va_S A s.heap H locs → lv_has ls 5 [(4, .int zz.1), (3, .ref (a_k (v1.toNatClampNeg + 16))), (2, .ref (a_k (v1.toNatClampNeg + 6))), (0, .ref (a_k 0)), (1, .int v1)] → G H locs 0 0 ls 27 []) ?_ _ _ ls hP hD hS (lv_sub hl [0, 1, 2, 3, 4] rfl))
  · intro zz h H locs ls hP hD hS hl
    obtain ⟨x4_27e, k_bringA_27e, k_bringB_27e⟩ := zz
    have hP : va_P D cls9 (wd_Wa_weigh cA a_n a_k n_x n_y n_nodes n_aloneB n_pairA n_pairB k_groups k_bringA_27e k_bringB_27e) H := hP
    have hD : va_D A (wd_Wa_weigh cA a_n a_k n_x n_y n_nodes n_aloneB n_pairA n_pairB k_groups k_bringA_27e k_bringB_27e) := hD
    have hl : lv_has ls 5 [(4, .int x4_27e), (3, .ref (a_k (v1.toNatClampNeg + 16))), (2, .ref (a_k (v1.toNatClampNeg + 6))), (0, .ref (a_k 0)), (1, .int v1)] := hl
    refine cast (hG _ _ _ _ _ _ _).symm ?_
    exact W.vret hx hb hr (fun t ht hW => ⟨⟨(k_bringA_27e, k_bringB_27e), rfl, Option.some.inj h, by rw [ht]; exact hP, va_K.moved hW.alike hK, hD⟩, hS.F ht⟩) hS.2.2 d_Wa_weigh_87
  · intro back exit zz hB_27 hE_27 h H locs ls hP hD hS hl
    obtain ⟨x4_27, k_bringA_27, k_bringB_27⟩ := zz
    have hP : va_P D cls9 (wd_Wa_weigh cA a_n a_k n_x n_y n_nodes n_aloneB n_pairA n_pairB k_groups k_bringA_27 k_bringB_27) H := hP
    have hD : va_D A (wd_Wa_weigh cA a_n a_k n_x n_y n_nodes n_aloneB n_pairA n_pairB k_groups k_bringA_27 k_bringB_27) := hD
    have hl : lv_has ls 5 [(4, .int x4_27), (3, .ref (a_k (v1.toNatClampNeg + 16))), (2, .ref (a_k (v1.toNatClampNeg + 6))), (0, .ref (a_k 0)), (1, .int v1)] := hl
    refine cast (hG _ _ _ _ _ _ _).symm ?_
    refine lv_iload hx hb d_Wa_weigh_27 (lv_at hl 0 rfl) ?_
    refine lv_iload_n hx hb d_Wa_weigh_29 rfl (lv_at hl 4 rfl) ?_
    refine lv_icmp_ge (tgt := 87) hx hb d_Wa_weigh_30 (by decide) (fun c_12 => ?_) (fun c_12 => ?_)
    · have h := ifp (c_12) h
      exact cast (hG _ _ _ _ _ _ _) (hE_27 (x4_27, k_bringA_27, k_bringB_27) h _ _ _ hP hD hS (lv_sub hl [0, 1, 2, 3, 4] rfl))
    · have h := ifn (c_12) h
      refine lv_aload_n hx hb d_Wa_weigh_33 rfl (lv_at hl 2 rfl) ?_
      refine lv_aload_n hx hb d_Wa_weigh_34 rfl (lv_at hl 3 rfl) ?_
      refine va_get (ci := 6) (v := .ref (a_k 1)) (C := R_Wa) (T := F_Wa) (N := 7) hx hb hal in_Wa hown hK hP 21 rfl rfl 1 (by decide) (hal _ kw_135) (fun _ h9 => h9) rfl d_Wa_weigh_35 ?_
      refine lv_iload hx hb d_Wa_weigh_38 (lv_at hl 0 rfl) ?_
      obtain ⟨g_13, h⟩ := gd h
      refine va_iald hx hb hK hP 22 0 rfl rfl (inb_in g_13) d_Wa_weigh_40 ?_
      refine lv_dup2_11 hx hb d_Wa_weigh_41 rfl rfl ?_
      obtain ⟨g_14, h⟩ := gd h
      refine va_lald hx hb hK hP (24 + v1.toNatClampNeg) 1 (row_Wa_weigh_k_bringA _ _ (inb_lt g_1)) rfl (inb_in g_14) d_Wa_weigh_42 ?_
      refine lv_aload_n hx hb d_Wa_weigh_43 rfl (lv_at hl 3 rfl) ?_
      refine va_get (ci := 6) (v := .ref (a_n 0)) (C := R_Wa) (T := F_Wa) (N := 7) hx hb hal in_Wa hown hK hP 21 rfl rfl 0 (by decide) (hal _ kw_134) (fun _ h9 => h9) rfl d_Wa_weigh_44 ?_
      refine va_get (ci := 0) (v := .ref (a_n 1)) (C := R_Ga) (T := F_Ga) (N := 9) hx hb hal in_Ga hown hK hP 0 rfl rfl 4 (by decide) (hal _ kw_77) (fun _ h9 => h9) rfl d_Wa_weigh_47 ?_
      refine lv_iload_n hx hb d_Wa_weigh_50 rfl (lv_at hl 4 rfl) ?_
      obtain ⟨g_15, h⟩ := gd h
      refine my_aald (ad := fun i => a_n (i + 2)) (t := .long) hx hb hK hP 1 4 rfl rfl (inb_in g_15) (inb_lt g_15) d_Wa_weigh_51 ?_
      refine lv_iload hx hb d_Wa_weigh_52 (lv_at hl 0 rfl) ?_
      refine va_lald hx hb hK hP (2 + v1.toNatClampNeg) 1 (row_Wa_weigh_n_pairA _ _ (inb_lt g_15)) rfl (inb_in g_13) d_Wa_weigh_54 ?_
      refine lv_ladd hx hb d_Wa_weigh_55 ?_
      refine va_last hx hb hK hP hD hS (24 + v1.toNatClampNeg) 1 (row_Wa_weigh_k_bringA _ _ (inb_lt g_1)) rfl (inb_in g_14) d_Wa_weigh_56 (fun H locs hP hD hS => ?_)
      have hP : va_P D cls9 (wd_Wa_weigh cA a_n a_k n_x n_y n_nodes n_aloneB n_pairA n_pairB k_groups (va_up k_bringA_27 v1.toNatClampNeg (vp_updL (k_bringA_27 v1.toNatClampNeg) (k_groups x4_27.toNatClampNeg).toNatClampNeg (((k_bringA_27 v1.toNatClampNeg) (k_groups x4_27.toNatClampNeg).toNatClampNeg) + ((n_pairA v1.toNatClampNeg) x4_27.toNatClampNeg)))) k_bringB_27) H := (set_Wa_weigh_k_bringA _ (inb_lt g_1)).subst (motive := fun x => va_P D cls9 x H) hP
      have hD : va_D A (wd_Wa_weigh cA a_n a_k n_x n_y n_nodes n_aloneB n_pairA n_pairB k_groups (va_up k_bringA_27 v1.toNatClampNeg (vp_updL (k_bringA_27 v1.toNatClampNeg) (k_groups x4_27.toNatClampNeg).toNatClampNeg (((k_bringA_27 v1.toNatClampNeg) (k_groups x4_27.toNatClampNeg).toNatClampNeg) + ((n_pairA v1.toNatClampNeg) x4_27.toNatClampNeg)))) k_bringB_27) := (set_Wa_weigh_k_bringA _ (inb_lt g_1)).subst (motive := fun x => va_D A x) hD
      refine lv_aload_n hx hb d_Wa_weigh_57 rfl (lv_at hl 1 rfl) ?_
      refine lv_aload_n hx hb d_Wa_weigh_58 rfl (lv_at hl 3 rfl) ?_
      refine va_get (ci := 6) (v := .ref (a_k 1)) (C := R_Wa) (T := F_Wa) (N := 7) hx hb hal in_Wa hown hK hP 21 rfl rfl 1 (by decide) (hal _ kw_135) (fun _ h9 => h9) rfl d_Wa_weigh_59 ?_
      refine lv_iload hx hb d_Wa_weigh_62 (lv_at hl 0 rfl) ?_
      refine va_iald hx hb hK hP 22 0 rfl rfl (inb_in g_13) d_Wa_weigh_64 ?_
      refine lv_dup2_11 hx hb d_Wa_weigh_65 rfl rfl ?_
      refine va_lald hx hb hK hP (34 + v1.toNatClampNeg) 1 (row_Wa_weigh_k_bringB _ _ (inb_lt g_1)) rfl (inb_in g_14) d_Wa_weigh_66 ?_
      refine lv_aload_n hx hb d_Wa_weigh_67 rfl (lv_at hl 3 rfl) ?_
      refine va_get (ci := 6) (v := .ref (a_n 0)) (C := R_Wa) (T := F_Wa) (N := 7) hx hb hal in_Wa hown hK hP 21 rfl rfl 0 (by decide) (hal _ kw_134) (fun _ h9 => h9) rfl d_Wa_weigh_68 ?_
      refine va_get (ci := 0) (v := .ref (a_n 11)) (C := R_Ga) (T := F_Ga) (N := 9) hx hb hal in_Ga hown hK hP 0 rfl rfl 5 (by decide) (hal _ kw_79) (fun _ h9 => h9) rfl d_Wa_weigh_71 ?_
      refine lv_iload_n hx hb d_Wa_weigh_74 rfl (lv_at hl 4 rfl) ?_
      refine my_aald (ad := fun i => a_n (i + 12)) (t := .long) hx hb hK hP 11 4 rfl rfl (inb_in g_15) (inb_lt g_15) d_Wa_weigh_75 ?_
      refine lv_iload hx hb d_Wa_weigh_76 (lv_at hl 0 rfl) ?_
      refine va_lald hx hb hK hP (12 + v1.toNatClampNeg) 1 (row_Wa_weigh_n_pairB _ _ (inb_lt g_15)) rfl (inb_in g_13) d_Wa_weigh_78 ?_
      refine lv_ladd hx hb d_Wa_weigh_79 ?_
      refine va_last hx hb hK hP hD hS (34 + v1.toNatClampNeg) 1 (row_Wa_weigh_k_bringB _ _ (inb_lt g_1)) rfl (inb_in g_14) d_Wa_weigh_80 (fun H locs hP hD hS => ?_)
      have hP : va_P D cls9 (wd_Wa_weigh cA a_n a_k n_x n_y n_nodes n_aloneB n_pairA n_pairB k_groups (va_up k_bringA_27 v1.toNatClampNeg (vp_updL (k_bringA_27 v1.toNatClampNeg) (k_groups x4_27.toNatClampNeg).toNatClampNeg (((k_bringA_27 v1.toNatClampNeg) (k_groups x4_27.toNatClampNeg).toNatClampNeg) + ((n_pairA v1.toNatClampNeg) x4_27.toNatClampNeg)))) (va_up k_bringB_27 v1.toNatClampNeg (vp_updL (k_bringB_27 v1.toNatClampNeg) (k_groups x4_27.toNatClampNeg).toNatClampNeg (((k_bringB_27 v1.toNatClampNeg) (k_groups x4_27.toNatClampNeg).toNatClampNeg) + ((n_pairB v1.toNatClampNeg) x4_27.toNatClampNeg))))) H := (set_Wa_weigh_k_bringB _ (inb_lt g_1)).subst (motive := fun x => va_P D cls9 x H) hP
      have hD : va_D A (wd_Wa_weigh cA a_n a_k n_x n_y n_nodes n_aloneB n_pairA n_pairB k_groups (va_up k_bringA_27 v1.toNatClampNeg (vp_updL (k_bringA_27 v1.toNatClampNeg) (k_groups x4_27.toNatClampNeg).toNatClampNeg (((k_bringA_27 v1.toNatClampNeg) (k_groups x4_27.toNatClampNeg).toNatClampNeg) + ((n_pairA v1.toNatClampNeg) x4_27.toNatClampNeg)))) (va_up k_bringB_27 v1.toNatClampNeg (vp_updL (k_bringB_27 v1.toNatClampNeg) (k_groups x4_27.toNatClampNeg).toNatClampNeg (((k_bringB_27 v1.toNatClampNeg) (k_groups x4_27.toNatClampNeg).toNatClampNeg) + ((n_pairB v1.toNatClampNeg) x4_27.toNatClampNeg))))) := (set_Wa_weigh_k_bringB _ (inb_lt g_1)).subst (motive := fun x => va_D A x) hD
      refine lv_iinc (v := (x4_27 + 1)) (lv' := [(4, .int (x4_27 + 1)), (3, .ref (a_k (v1.toNatClampNeg + 16))), (2, .ref (a_k (v1.toNatClampNeg + 6))), (0, .ref (a_k 0)), (1, .int v1)]) hx hb d_Wa_weigh_81 hl (k := 0) rfl rfl (by decide) rfl (fun ls hl => ?_)
      refine lv_goto (tgt := 27) hx hb d_Wa_weigh_84 (by decide) ?_
      exact cast (hG _ _ _ _ _ _ _) (hB_27 ((x4_27 + 1), (va_up k_bringA_27 v1.toNatClampNeg (vp_updL (k_bringA_27 v1.toNatClampNeg) (k_groups x4_27.toNatClampNeg).toNatClampNeg (((k_bringA_27 v1.toNatClampNeg) (k_groups x4_27.toNatClampNeg).toNatClampNeg) + ((n_pairA v1.toNatClampNeg) x4_27.toNatClampNeg)))), (va_up k_bringB_27 v1.toNatClampNeg (vp_updL (k_bringB_27 v1.toNatClampNeg) (k_groups x4_27.toNatClampNeg).toNatClampNeg (((k_bringB_27 v1.toNatClampNeg) (k_groups x4_27.toNatClampNeg).toNatClampNeg) + ((n_pairB v1.toNatClampNeg) x4_27.toNatClampNeg))))) h _ _ _ hP hD hS (lv_sub hl [0, 1, 2, 3, 4] rfl))
def wd_Wa_settle (cA : Nat → ClassId) (a_n a_k : Nat → Nat) (k_groups : Nat → Int32) (k_opened : Nat → Int32) (k_sumsA : Nat → Int64) (k_sumsB : Nat → Int64) (k_bringA : Nat → Nat → Int64) (k_bringB : Nat → Nat → Int64) : va_W := [(a_k 0, .inr (6, [.ref (a_n 0), .ref (a_k 1), .ref (a_k 2), .ref (a_k 3), .ref (a_k 4), .ref (a_k 5), .ref (a_k 15)])), (a_k 1, .inl (cA 0, 9, .inl k_groups)), (a_k 2, .inl (cA 0, 10, .inl k_opened)), (a_k 3, .inl (cA 1, 10, .inr (.inl k_sumsA))), (a_k 4, .inl (cA 1, 10, .inr (.inl k_sumsB))), (a_k 5, .inl (cA 4, 9, .inr (.inr (.inr (.inr (fun i => if i < 9 then some (a_k (i + 6)) else none)))))), (a_k (0 + 6), .inl (cA 1, 9, .inr (.inl (k_bringA 0)))), (a_k (1 + 6), .inl (cA 1, 9, .inr (.inl (k_bringA 1)))), (a_k (2 + 6), .inl (cA 1, 9, .inr (.inl (k_bringA 2)))), (a_k (3 + 6), .inl (cA 1, 9, .inr (.inl (k_bringA 3)))), (a_k (4 + 6), .inl (cA 1, 9, .inr (.inl (k_bringA 4)))), (a_k (5 + 6), .inl (cA 1, 9, .inr (.inl (k_bringA 5)))), (a_k (6 + 6), .inl (cA 1, 9, .inr (.inl (k_bringA 6)))), (a_k (7 + 6), .inl (cA 1, 9, .inr (.inl (k_bringA 7)))), (a_k (8 + 6), .inl (cA 1, 9, .inr (.inl (k_bringA 8)))), (a_k 15, .inl (cA 4, 9, .inr (.inr (.inr (.inr (fun i => if i < 9 then some (a_k (i + 16)) else none)))))), (a_k (0 + 16), .inl (cA 1, 9, .inr (.inl (k_bringB 0)))), (a_k (1 + 16), .inl (cA 1, 9, .inr (.inl (k_bringB 1)))), (a_k (2 + 16), .inl (cA 1, 9, .inr (.inl (k_bringB 2)))), (a_k (3 + 16), .inl (cA 1, 9, .inr (.inl (k_bringB 3)))), (a_k (4 + 16), .inl (cA 1, 9, .inr (.inl (k_bringB 4)))), (a_k (5 + 16), .inl (cA 1, 9, .inr (.inl (k_bringB 5)))), (a_k (6 + 16), .inl (cA 1, 9, .inr (.inl (k_bringB 6)))), (a_k (7 + 16), .inl (cA 1, 9, .inr (.inl (k_bringB 7)))), (a_k (8 + 16), .inl (cA 1, 9, .inr (.inl (k_bringB 8))))]
theorem row_Wa_settle_k_bringA {cA : Nat → ClassId} {a_n a_k : Nat → Nat} {k_groups : Nat → Int32} {k_opened : Nat → Int32} {k_sumsA : Nat → Int64} {k_sumsB : Nat → Int64} {k_bringB : Nat → Nat → Int64} (k_bringA : Nat → Nat → Int64) (k : Nat) (hk : k < 9) : (wd_Wa_settle cA a_n a_k k_groups k_opened k_sumsA k_sumsB k_bringA k_bringB)[6 + k]? = some (a_k (k + 6), .inl (cA 1, 9, .inr (.inl (k_bringA k)))) := by
  rcases lt9 hk with rfl | rfl | rfl | rfl | rfl | rfl | rfl | rfl | rfl <;> rfl
theorem set_Wa_settle_k_bringA {cA : Nat → ClassId} {a_n a_k : Nat → Nat} {k_groups : Nat → Int32} {k_opened : Nat → Int32} {k_sumsA : Nat → Int64} {k_sumsB : Nat → Int64} {k_bringB : Nat → Nat → Int64} {k_bringA : Nat → Nat → Int64} {f : Nat → Int64} (k : Nat) (hk : k < 9) : (wd_Wa_settle cA a_n a_k k_groups k_opened k_sumsA k_sumsB k_bringA k_bringB).set (6 + k) (a_k (k + 6), .inl (cA 1, 9, .inr (.inl f))) = wd_Wa_settle cA a_n a_k k_groups k_opened k_sumsA k_sumsB (va_up k_bringA k f) k_bringB := by
  rcases lt9 hk with rfl | rfl | rfl | rfl | rfl | rfl | rfl | rfl | rfl <;> rfl
theorem row_Wa_settle_k_bringB {cA : Nat → ClassId} {a_n a_k : Nat → Nat} {k_groups : Nat → Int32} {k_opened : Nat → Int32} {k_sumsA : Nat → Int64} {k_sumsB : Nat → Int64} {k_bringA : Nat → Nat → Int64} (k_bringB : Nat → Nat → Int64) (k : Nat) (hk : k < 9) : (wd_Wa_settle cA a_n a_k k_groups k_opened k_sumsA k_sumsB k_bringA k_bringB)[16 + k]? = some (a_k (k + 16), .inl (cA 1, 9, .inr (.inl (k_bringB k)))) := by
  rcases lt9 hk with rfl | rfl | rfl | rfl | rfl | rfl | rfl | rfl | rfl <;> rfl
theorem set_Wa_settle_k_bringB {cA : Nat → ClassId} {a_n a_k : Nat → Nat} {k_groups : Nat → Int32} {k_opened : Nat → Int32} {k_sumsA : Nat → Int64} {k_sumsB : Nat → Int64} {k_bringA : Nat → Nat → Int64} {k_bringB : Nat → Nat → Int64} {f : Nat → Int64} (k : Nat) (hk : k < 9) : (wd_Wa_settle cA a_n a_k k_groups k_opened k_sumsA k_sumsB k_bringA k_bringB).set (16 + k) (a_k (k + 16), .inl (cA 1, 9, .inr (.inl f))) = wd_Wa_settle cA a_n a_k k_groups k_opened k_sumsA k_sumsB k_bringA (va_up k_bringB k f) := by
  rcases lt9 hk with rfl | rfl | rfl | rfl | rfl | rfl | rfl | rfl | rfl <;> rfl
noncomputable def m_Wa_settle (k_groups : Nat → Int32) (k_opened : Nat → Int32) (k_sumsA : Nat → Int64) (k_sumsB : Nat → Int64) (k_bringA : Nat → Nat → Int64) (k_bringB : Nat → Nat → Int64) (v1 : Int32) : Option ((Nat → Int32) × (Nat → Int64) × (Nat → Int64)) :=
  (if inb v1 9 then (if inb v1 10 then (if inb v1 9 then (if inb (k_groups v1.toNatClampNeg) 9 then (if inb (v1 + (1 : Int32)) 10 then some ((upd k_opened (v1 + (1 : Int32)).toNatClampNeg (if (k_opened v1.toNatClampNeg) < ((k_groups v1.toNatClampNeg) + (1 : Int32)) then ((k_groups v1.toNatClampNeg) + (1 : Int32)) else (k_opened v1.toNatClampNeg))), (vp_updL k_sumsA (v1 + (1 : Int32)).toNatClampNeg ((k_sumsA v1.toNatClampNeg) + ((k_bringA v1.toNatClampNeg) (k_groups v1.toNatClampNeg).toNatClampNeg))), (vp_updL k_sumsB (v1 + (1 : Int32)).toNatClampNeg ((k_sumsB v1.toNatClampNeg) + ((k_bringB v1.toNatClampNeg) (k_groups v1.toNatClampNeg).toNatClampNeg)))) else none) else none) else none) else none) else none)
set_option maxHeartbeats 4000000 in
set_option maxRecDepth 100000 in
theorem c_Wa_settle (l : Launch) (D : va_G) (cA : Nat → ClassId) (a_n a_k : Nat → Nat) (sz : Nat) (k_groups : Nat → Int32) (k_opened : Nat → Int32) (k_sumsA : Nat → Int64) (k_sumsB : Nat → Int64) (k_bringA : Nat → Nat → Int64) (k_bringB : Nat → Nat → Int64) (v1 : Int32) (out : (Nat → Int32) × (Nat → Int64) × (Nat → Int64)) (h : m_Wa_settle k_groups k_opened k_sumsA k_sumsB k_bringA k_bringB v1 = some out) : Met l y_Wa_settle w_Wa_settle ({ frames := 1, cells := 0, slots := 0, locals := 21 }) (va_Pc [.ref (a_k 0), .int v1] (fun U => U.heap.size = sz ∧ va_P D cls9 (wd_Wa_settle cA a_n a_k k_groups k_opened k_sumsA k_sumsB k_bringA k_bringB) U.heap ∧ va_K D cls9 (tys5 cA) U ∧ va_D (fun _ => True) (wd_Wa_settle cA a_n a_k k_groups k_opened k_sumsA k_sumsB k_bringA k_bringB))) (va_Qv (fun uu : (Nat → Int32) × (Nat → Int64) × (Nat → Int64) => uu = out) (fun (uu : (Nat → Int32) × (Nat → Int64) × (Nat → Int64)) (t : State) => va_P D cls9 (wd_Wa_settle cA a_n a_k k_groups uu.1 uu.2.1 uu.2.2 k_bringA k_bringB) t.heap ∧ va_K D cls9 (tys5 cA) t ∧ va_D (va_A (wd_Wa_settle cA a_n a_k k_groups k_opened k_sumsA k_sumsB k_bringA k_bringB) sz) (wd_Wa_settle cA a_n a_k k_groups uu.1 uu.2.1 uu.2.2 k_bringA k_bringB)) (va_A (wd_Wa_settle cA a_n a_k k_groups k_opened k_sumsA k_sumsB k_bringA k_bringB) sz)) 0 0 (va_A (wd_Wa_settle cA a_n a_k k_groups k_opened k_sumsA k_sumsB k_bringA k_bringB) sz) := by
  refine Met.ofW (cc := b_Wa_settle) (maxL := 3) (ret := (Option.none : Option Jvm.ClassFile.FieldType)) (by decide) rfl ?_
  intro p e s m args below meth c s₁ B hml hv
  obtain ⟨rfl, hsz, hP, hK, hD0⟩ := hv
  have hx := B.exec
  have hb := B.bytes
  have hr := B.returns
  have hts := atoms_spec (ws := w_Wa_settle) B.pre
  have hal : ∀ w ∈ ALLW, w.before _ s = true := fun w hw => hts w (List.mem_cons_of_mem _ hw)
  have hown : s.vm.findClass R_Wa = some m.cls := findClass_of_methodNamed B.named
  have hlocks := B.notSynchronized
  subst hsz
  have hD := hD0.self (sz := s.heap.size)
  generalize hAe : va_A (wd_Wa_settle cA a_n a_k k_groups k_opened k_sumsA k_sumsB k_bringA k_bringB) s.heap.size = A at hD ⊢
  have hA : ∀ q : Nat, s.heap.size ≤ q → A q := fun q h => by rw [← hAe]; exact Or.inr h
  have hS : va_S A s.heap s.heap [] := va_S.rf
  have hl := lv_entry ([.ref (a_k 0), .int v1]) (n := 3) (Nat.le_of_ble_eq_true rfl)
  rw [lg_entry_eq]
  generalize (lg_sl ([.ref (a_k 0), .int v1]) ++ List.replicate (3 - (lg_sl ([.ref (a_k 0), .int v1])).length) Slot.unset).toArray = ls at hl ⊢
  have hl : lv_has ls 3 [(0, .ref (a_k 0)), (1, .int v1)] := hl
  refine wg (fun G hG => ?_)
  refine cast (hG _ _ _ _ _ _ _).symm ?_
  obtain ⟨H, locs, hHl, hS⟩ : ∃ (H : Heap) (locs : List Loc), (H = s.heap ∧ locs = []) ∧ va_S A s.heap H locs := ⟨s.heap, [], ⟨rfl, rfl⟩, hS⟩
  have hP : va_P D cls9 (wd_Wa_settle cA a_n a_k k_groups k_opened k_sumsA k_sumsB k_bringA k_bringB) H := by rw [hHl.1]; exact hP
  rw [← hHl.1, ← hHl.2]
  clear hHl
  refine lv_aload_n hx hb d_Wa_settle_0 rfl (lv_at hl 0 rfl) ?_
  refine va_get (ci := 6) (v := .ref (a_k 1)) (C := R_Wa) (T := F_Wa) (N := 7) hx hb hal in_Wa hown hK hP 0 rfl rfl 1 (by decide) (hal _ kw_135) (fun _ h9 => h9) rfl d_Wa_settle_1 ?_
  refine lv_iload_n hx hb d_Wa_settle_4 rfl (lv_at hl 1 rfl) ?_
  obtain ⟨g_1, h⟩ := gd h
  refine va_iald hx hb hK hP 1 0 rfl rfl (inb_in g_1) d_Wa_settle_5 ?_
  refine lv_istore_n (lv' := [(2, .int (k_groups v1.toNatClampNeg)), (0, .ref (a_k 0)), (1, .int v1)]) hx hb d_Wa_settle_6 rfl hl (by decide) rfl (fun ls hl => ?_)
  refine lv_aload_n hx hb d_Wa_settle_7 rfl (lv_at hl 1 rfl) ?_
  refine va_get (ci := 6) (v := .ref (a_k 3)) (C := R_Wa) (T := F_Wa) (N := 7) hx hb hal in_Wa hown hK hP 0 rfl rfl 3 (by decide) (hal _ kw_137) (fun _ h9 => h9) rfl d_Wa_settle_8 ?_
  refine lv_iload_n hx hb d_Wa_settle_11 rfl (lv_at hl 2 rfl) ?_
  refine lv_iconst (v := 1) hx hb d_Wa_settle_12 (by decide) ?_
  refine lv_iadd hx hb d_Wa_settle_13 ?_
  refine lv_aload_n hx hb d_Wa_settle_14 rfl (lv_at hl 1 rfl) ?_
  refine va_get (ci := 6) (v := .ref (a_k 3)) (C := R_Wa) (T := F_Wa) (N := 7) hx hb hal in_Wa hown hK hP 0 rfl rfl 3 (by decide) (hal _ kw_137) (fun _ h9 => h9) rfl d_Wa_settle_15 ?_
  refine lv_iload_n hx hb d_Wa_settle_18 rfl (lv_at hl 2 rfl) ?_
  obtain ⟨g_2, h⟩ := gd h
  refine va_lald hx hb hK hP 3 1 rfl rfl (inb_in g_2) d_Wa_settle_19 ?_
  refine lv_aload_n hx hb d_Wa_settle_20 rfl (lv_at hl 1 rfl) ?_
  refine va_get (ci := 6) (v := .ref (a_k 5)) (C := R_Wa) (T := F_Wa) (N := 7) hx hb hal in_Wa hown hK hP 0 rfl rfl 5 (by decide) (hal _ kw_139) (fun _ h9 => h9) rfl d_Wa_settle_21 ?_
  refine lv_iload_n hx hb d_Wa_settle_24 rfl (lv_at hl 2 rfl) ?_
  obtain ⟨g_3, h⟩ := gd h
  refine my_aald (ad := fun i => a_k (i + 6)) (t := .long) hx hb hK hP 5 4 rfl rfl (inb_in g_3) (inb_lt g_3) d_Wa_settle_25 ?_
  refine lv_iload_n hx hb d_Wa_settle_26 rfl (lv_at hl 0 rfl) ?_
  obtain ⟨g_4, h⟩ := gd h
  refine va_lald hx hb hK hP (6 + v1.toNatClampNeg) 1 (row_Wa_settle_k_bringA _ _ (inb_lt g_3)) rfl (inb_in g_4) d_Wa_settle_27 ?_
  refine lv_ladd hx hb d_Wa_settle_28 ?_
  obtain ⟨g_5, h⟩ := gd h
  refine va_last hx hb hK hP hD hS 3 1 rfl rfl (inb_in g_5) d_Wa_settle_29 (fun H locs hP hD hS => ?_)
  have hP : va_P D cls9 (wd_Wa_settle cA a_n a_k k_groups k_opened (vp_updL k_sumsA (v1 + (1 : Int32)).toNatClampNeg ((k_sumsA v1.toNatClampNeg) + ((k_bringA v1.toNatClampNeg) (k_groups v1.toNatClampNeg).toNatClampNeg))) k_sumsB k_bringA k_bringB) H := hP
  have hD : va_D A (wd_Wa_settle cA a_n a_k k_groups k_opened (vp_updL k_sumsA (v1 + (1 : Int32)).toNatClampNeg ((k_sumsA v1.toNatClampNeg) + ((k_bringA v1.toNatClampNeg) (k_groups v1.toNatClampNeg).toNatClampNeg))) k_sumsB k_bringA k_bringB) := hD
  refine lv_aload_n hx hb d_Wa_settle_30 rfl (lv_at hl 1 rfl) ?_
  refine va_get (ci := 6) (v := .ref (a_k 4)) (C := R_Wa) (T := F_Wa) (N := 7) hx hb hal in_Wa hown hK hP 0 rfl rfl 4 (by decide) (hal _ kw_138) (fun _ h9 => h9) rfl d_Wa_settle_31 ?_
  refine lv_iload_n hx hb d_Wa_settle_34 rfl (lv_at hl 2 rfl) ?_
  refine lv_iconst (v := 1) hx hb d_Wa_settle_35 (by decide) ?_
  refine lv_iadd hx hb d_Wa_settle_36 ?_
  refine lv_aload_n hx hb d_Wa_settle_37 rfl (lv_at hl 1 rfl) ?_
  refine va_get (ci := 6) (v := .ref (a_k 4)) (C := R_Wa) (T := F_Wa) (N := 7) hx hb hal in_Wa hown hK hP 0 rfl rfl 4 (by decide) (hal _ kw_138) (fun _ h9 => h9) rfl d_Wa_settle_38 ?_
  refine lv_iload_n hx hb d_Wa_settle_41 rfl (lv_at hl 2 rfl) ?_
  refine va_lald hx hb hK hP 4 1 rfl rfl (inb_in g_2) d_Wa_settle_42 ?_
  refine lv_aload_n hx hb d_Wa_settle_43 rfl (lv_at hl 1 rfl) ?_
  refine va_get (ci := 6) (v := .ref (a_k 15)) (C := R_Wa) (T := F_Wa) (N := 7) hx hb hal in_Wa hown hK hP 0 rfl rfl 6 (by decide) (hal _ kw_140) (fun _ h9 => h9) rfl d_Wa_settle_44 ?_
  refine lv_iload_n hx hb d_Wa_settle_47 rfl (lv_at hl 2 rfl) ?_
  refine my_aald (ad := fun i => a_k (i + 16)) (t := .long) hx hb hK hP 15 4 rfl rfl (inb_in g_3) (inb_lt g_3) d_Wa_settle_48 ?_
  refine lv_iload_n hx hb d_Wa_settle_49 rfl (lv_at hl 0 rfl) ?_
  refine va_lald hx hb hK hP (16 + v1.toNatClampNeg) 1 (row_Wa_settle_k_bringB _ _ (inb_lt g_3)) rfl (inb_in g_4) d_Wa_settle_50 ?_
  refine lv_ladd hx hb d_Wa_settle_51 ?_
  refine va_last hx hb hK hP hD hS 4 1 rfl rfl (inb_in g_5) d_Wa_settle_52 (fun H locs hP hD hS => ?_)
  have hP : va_P D cls9 (wd_Wa_settle cA a_n a_k k_groups k_opened (vp_updL k_sumsA (v1 + (1 : Int32)).toNatClampNeg ((k_sumsA v1.toNatClampNeg) + ((k_bringA v1.toNatClampNeg) (k_groups v1.toNatClampNeg).toNatClampNeg))) (vp_updL k_sumsB (v1 + (1 : Int32)).toNatClampNeg ((k_sumsB v1.toNatClampNeg) + ((k_bringB v1.toNatClampNeg) (k_groups v1.toNatClampNeg).toNatClampNeg))) k_bringA k_bringB) H := hP
  have hD : va_D A (wd_Wa_settle cA a_n a_k k_groups k_opened (vp_updL k_sumsA (v1 + (1 : Int32)).toNatClampNeg ((k_sumsA v1.toNatClampNeg) + ((k_bringA v1.toNatClampNeg) (k_groups v1.toNatClampNeg).toNatClampNeg))) (vp_updL k_sumsB (v1 + (1 : Int32)).toNatClampNeg ((k_sumsB v1.toNatClampNeg) + ((k_bringB v1.toNatClampNeg) (k_groups v1.toNatClampNeg).toNatClampNeg))) k_bringA k_bringB) := hD
  refine lv_aload_n hx hb d_Wa_settle_53 rfl (lv_at hl 1 rfl) ?_
  refine va_get (ci := 6) (v := .ref (a_k 2)) (C := R_Wa) (T := F_Wa) (N := 7) hx hb hal in_Wa hown hK hP 0 rfl rfl 2 (by decide) (hal _ kw_136) (fun _ h9 => h9) rfl d_Wa_settle_54 ?_
  refine lv_iload_n hx hb d_Wa_settle_57 rfl (lv_at hl 2 rfl) ?_
  refine lv_iconst (v := 1) hx hb d_Wa_settle_58 (by decide) ?_
  refine lv_iadd hx hb d_Wa_settle_59 ?_
  refine lv_aload_n hx hb d_Wa_settle_60 rfl (lv_at hl 1 rfl) ?_
  refine va_get (ci := 6) (v := .ref (a_k 2)) (C := R_Wa) (T := F_Wa) (N := 7) hx hb hal in_Wa hown hK hP 0 rfl rfl 2 (by decide) (hal _ kw_136) (fun _ h9 => h9) rfl d_Wa_settle_61 ?_
  refine lv_iload_n hx hb d_Wa_settle_64 rfl (lv_at hl 2 rfl) ?_
  refine va_iald hx hb hK hP 2 0 rfl rfl (inb_in g_2) d_Wa_settle_65 ?_
  refine lv_iload_n hx hb d_Wa_settle_66 rfl (lv_at hl 0 rfl) ?_
  refine lv_iconst (v := 1) hx hb d_Wa_settle_67 (by decide) ?_
  refine lv_iadd hx hb d_Wa_settle_68 ?_
  refine va_mmax hx hb (by rw [hml]; exact hl.1.symm) hown (hal _ kw_475) (hal _ kw_476) (hal _ kw_11) (hal _ kw_477) (Nat.le_of_ble_eq_true rfl) (Nat.le_of_ble_eq_true rfl) (Nat.zero_le _) (Nat.zero_le _) d_Wa_settle_69 ?_
  refine va_iast hx hb hK hP hD hS 2 0 rfl rfl (inb_in g_5) d_Wa_settle_72 (fun H locs hP hD hS => ?_)
  have hP : va_P D cls9 (wd_Wa_settle cA a_n a_k k_groups (upd k_opened (v1 + (1 : Int32)).toNatClampNeg (if (k_opened v1.toNatClampNeg) < ((k_groups v1.toNatClampNeg) + (1 : Int32)) then ((k_groups v1.toNatClampNeg) + (1 : Int32)) else (k_opened v1.toNatClampNeg))) (vp_updL k_sumsA (v1 + (1 : Int32)).toNatClampNeg ((k_sumsA v1.toNatClampNeg) + ((k_bringA v1.toNatClampNeg) (k_groups v1.toNatClampNeg).toNatClampNeg))) (vp_updL k_sumsB (v1 + (1 : Int32)).toNatClampNeg ((k_sumsB v1.toNatClampNeg) + ((k_bringB v1.toNatClampNeg) (k_groups v1.toNatClampNeg).toNatClampNeg))) k_bringA k_bringB) H := hP
  have hD : va_D A (wd_Wa_settle cA a_n a_k k_groups (upd k_opened (v1 + (1 : Int32)).toNatClampNeg (if (k_opened v1.toNatClampNeg) < ((k_groups v1.toNatClampNeg) + (1 : Int32)) then ((k_groups v1.toNatClampNeg) + (1 : Int32)) else (k_opened v1.toNatClampNeg))) (vp_updL k_sumsA (v1 + (1 : Int32)).toNatClampNeg ((k_sumsA v1.toNatClampNeg) + ((k_bringA v1.toNatClampNeg) (k_groups v1.toNatClampNeg).toNatClampNeg))) (vp_updL k_sumsB (v1 + (1 : Int32)).toNatClampNeg ((k_sumsB v1.toNatClampNeg) + ((k_bringB v1.toNatClampNeg) (k_groups v1.toNatClampNeg).toNatClampNeg))) k_bringA k_bringB) := hD
  exact W.vret hx hb hr (fun t ht hW => ⟨⟨((upd k_opened (v1 + (1 : Int32)).toNatClampNeg (if (k_opened v1.toNatClampNeg) < ((k_groups v1.toNatClampNeg) + (1 : Int32)) then ((k_groups v1.toNatClampNeg) + (1 : Int32)) else (k_opened v1.toNatClampNeg))), (vp_updL k_sumsA (v1 + (1 : Int32)).toNatClampNeg ((k_sumsA v1.toNatClampNeg) + ((k_bringA v1.toNatClampNeg) (k_groups v1.toNatClampNeg).toNatClampNeg))), (vp_updL k_sumsB (v1 + (1 : Int32)).toNatClampNeg ((k_sumsB v1.toNatClampNeg) + ((k_bringB v1.toNatClampNeg) (k_groups v1.toNatClampNeg).toNatClampNeg)))), rfl, Option.some.inj h, by rw [ht]; exact hP, va_K.moved hW.alike hK, hD⟩, hS.F ht⟩) hS.2.2 d_Wa_settle_73
def wd_Wa_enterFrom (cA : Nat → ClassId) (a_n a_k : Nat → Nat) (n_x : Int32) (n_y : Int32) (n_nodes : Int32) (n_aloneB : Int64) (n_pairA : Nat → Nat → Int64) (n_pairB : Nat → Nat → Int64) (k_groups : Nat → Int32) (k_opened : Nat → Int32) (k_sumsA : Nat → Int64) (k_sumsB : Nat → Int64) (k_bringA : Nat → Nat → Int64) (k_bringB : Nat → Nat → Int64) : va_W := [(a_n 0, .inr (0, [.int n_x, .int n_y, .int n_nodes, .long n_aloneB, .ref (a_n 1), .ref (a_n 11), .ref (a_n 21), .ref (a_n 31), .ref (a_n 32)])), (a_n 1, .inl (cA 4, 9, .inr (.inr (.inr (.inr (fun i => if i < 9 then some (a_n (i + 2)) else none)))))), (a_n (0 + 2), .inl (cA 1, 9, .inr (.inl (n_pairA 0)))), (a_n (1 + 2), .inl (cA 1, 9, .inr (.inl (n_pairA 1)))), (a_n (2 + 2), .inl (cA 1, 9, .inr (.inl (n_pairA 2)))), (a_n (3 + 2), .inl (cA 1, 9, .inr (.inl (n_pairA 3)))), (a_n (4 + 2), .inl (cA 1, 9, .inr (.inl (n_pairA 4)))), (a_n (5 + 2), .inl (cA 1, 9, .inr (.inl (n_pairA 5)))), (a_n (6 + 2), .inl (cA 1, 9, .inr (.inl (n_pairA 6)))), (a_n (7 + 2), .inl (cA 1, 9, .inr (.inl (n_pairA 7)))), (a_n (8 + 2), .inl (cA 1, 9, .inr (.inl (n_pairA 8)))), (a_n 11, .inl (cA 4, 9, .inr (.inr (.inr (.inr (fun i => if i < 9 then some (a_n (i + 12)) else none)))))), (a_n (0 + 12), .inl (cA 1, 9, .inr (.inl (n_pairB 0)))), (a_n (1 + 12), .inl (cA 1, 9, .inr (.inl (n_pairB 1)))), (a_n (2 + 12), .inl (cA 1, 9, .inr (.inl (n_pairB 2)))), (a_n (3 + 12), .inl (cA 1, 9, .inr (.inl (n_pairB 3)))), (a_n (4 + 12), .inl (cA 1, 9, .inr (.inl (n_pairB 4)))), (a_n (5 + 12), .inl (cA 1, 9, .inr (.inl (n_pairB 5)))), (a_n (6 + 12), .inl (cA 1, 9, .inr (.inl (n_pairB 6)))), (a_n (7 + 12), .inl (cA 1, 9, .inr (.inl (n_pairB 7)))), (a_n (8 + 12), .inl (cA 1, 9, .inr (.inl (n_pairB 8)))), (a_k 0, .inr (6, [.ref (a_n 0), .ref (a_k 1), .ref (a_k 2), .ref (a_k 3), .ref (a_k 4), .ref (a_k 5), .ref (a_k 15)])), (a_k 1, .inl (cA 0, 9, .inl k_groups)), (a_k 2, .inl (cA 0, 10, .inl k_opened)), (a_k 3, .inl (cA 1, 10, .inr (.inl k_sumsA))), (a_k 4, .inl (cA 1, 10, .inr (.inl k_sumsB))), (a_k 5, .inl (cA 4, 9, .inr (.inr (.inr (.inr (fun i => if i < 9 then some (a_k (i + 6)) else none)))))), (a_k (0 + 6), .inl (cA 1, 9, .inr (.inl (k_bringA 0)))), (a_k (1 + 6), .inl (cA 1, 9, .inr (.inl (k_bringA 1)))), (a_k (2 + 6), .inl (cA 1, 9, .inr (.inl (k_bringA 2)))), (a_k (3 + 6), .inl (cA 1, 9, .inr (.inl (k_bringA 3)))), (a_k (4 + 6), .inl (cA 1, 9, .inr (.inl (k_bringA 4)))), (a_k (5 + 6), .inl (cA 1, 9, .inr (.inl (k_bringA 5)))), (a_k (6 + 6), .inl (cA 1, 9, .inr (.inl (k_bringA 6)))), (a_k (7 + 6), .inl (cA 1, 9, .inr (.inl (k_bringA 7)))), (a_k (8 + 6), .inl (cA 1, 9, .inr (.inl (k_bringA 8)))), (a_k 15, .inl (cA 4, 9, .inr (.inr (.inr (.inr (fun i => if i < 9 then some (a_k (i + 16)) else none)))))), (a_k (0 + 16), .inl (cA 1, 9, .inr (.inl (k_bringB 0)))), (a_k (1 + 16), .inl (cA 1, 9, .inr (.inl (k_bringB 1)))), (a_k (2 + 16), .inl (cA 1, 9, .inr (.inl (k_bringB 2)))), (a_k (3 + 16), .inl (cA 1, 9, .inr (.inl (k_bringB 3)))), (a_k (4 + 16), .inl (cA 1, 9, .inr (.inl (k_bringB 4)))), (a_k (5 + 16), .inl (cA 1, 9, .inr (.inl (k_bringB 5)))), (a_k (6 + 16), .inl (cA 1, 9, .inr (.inl (k_bringB 6)))), (a_k (7 + 16), .inl (cA 1, 9, .inr (.inl (k_bringB 7)))), (a_k (8 + 16), .inl (cA 1, 9, .inr (.inl (k_bringB 8))))]
theorem row_Wa_enterFrom_n_pairA {cA : Nat → ClassId} {a_n a_k : Nat → Nat} {n_x : Int32} {n_y : Int32} {n_nodes : Int32} {n_aloneB : Int64} {n_pairB : Nat → Nat → Int64} {k_groups : Nat → Int32} {k_opened : Nat → Int32} {k_sumsA : Nat → Int64} {k_sumsB : Nat → Int64} {k_bringA : Nat → Nat → Int64} {k_bringB : Nat → Nat → Int64} (n_pairA : Nat → Nat → Int64) (k : Nat) (hk : k < 9) : (wd_Wa_enterFrom cA a_n a_k n_x n_y n_nodes n_aloneB n_pairA n_pairB k_groups k_opened k_sumsA k_sumsB k_bringA k_bringB)[2 + k]? = some (a_n (k + 2), .inl (cA 1, 9, .inr (.inl (n_pairA k)))) := by
  rcases lt9 hk with rfl | rfl | rfl | rfl | rfl | rfl | rfl | rfl | rfl <;> rfl
theorem set_Wa_enterFrom_n_pairA {cA : Nat → ClassId} {a_n a_k : Nat → Nat} {n_x : Int32} {n_y : Int32} {n_nodes : Int32} {n_aloneB : Int64} {n_pairB : Nat → Nat → Int64} {k_groups : Nat → Int32} {k_opened : Nat → Int32} {k_sumsA : Nat → Int64} {k_sumsB : Nat → Int64} {k_bringA : Nat → Nat → Int64} {k_bringB : Nat → Nat → Int64} {n_pairA : Nat → Nat → Int64} {f : Nat → Int64} (k : Nat) (hk : k < 9) : (wd_Wa_enterFrom cA a_n a_k n_x n_y n_nodes n_aloneB n_pairA n_pairB k_groups k_opened k_sumsA k_sumsB k_bringA k_bringB).set (2 + k) (a_n (k + 2), .inl (cA 1, 9, .inr (.inl f))) = wd_Wa_enterFrom cA a_n a_k n_x n_y n_nodes n_aloneB (va_up n_pairA k f) n_pairB k_groups k_opened k_sumsA k_sumsB k_bringA k_bringB := by
  rcases lt9 hk with rfl | rfl | rfl | rfl | rfl | rfl | rfl | rfl | rfl <;> rfl
theorem row_Wa_enterFrom_n_pairB {cA : Nat → ClassId} {a_n a_k : Nat → Nat} {n_x : Int32} {n_y : Int32} {n_nodes : Int32} {n_aloneB : Int64} {n_pairA : Nat → Nat → Int64} {k_groups : Nat → Int32} {k_opened : Nat → Int32} {k_sumsA : Nat → Int64} {k_sumsB : Nat → Int64} {k_bringA : Nat → Nat → Int64} {k_bringB : Nat → Nat → Int64} (n_pairB : Nat → Nat → Int64) (k : Nat) (hk : k < 9) : (wd_Wa_enterFrom cA a_n a_k n_x n_y n_nodes n_aloneB n_pairA n_pairB k_groups k_opened k_sumsA k_sumsB k_bringA k_bringB)[12 + k]? = some (a_n (k + 12), .inl (cA 1, 9, .inr (.inl (n_pairB k)))) := by
  rcases lt9 hk with rfl | rfl | rfl | rfl | rfl | rfl | rfl | rfl | rfl <;> rfl
theorem set_Wa_enterFrom_n_pairB {cA : Nat → ClassId} {a_n a_k : Nat → Nat} {n_x : Int32} {n_y : Int32} {n_nodes : Int32} {n_aloneB : Int64} {n_pairA : Nat → Nat → Int64} {k_groups : Nat → Int32} {k_opened : Nat → Int32} {k_sumsA : Nat → Int64} {k_sumsB : Nat → Int64} {k_bringA : Nat → Nat → Int64} {k_bringB : Nat → Nat → Int64} {n_pairB : Nat → Nat → Int64} {f : Nat → Int64} (k : Nat) (hk : k < 9) : (wd_Wa_enterFrom cA a_n a_k n_x n_y n_nodes n_aloneB n_pairA n_pairB k_groups k_opened k_sumsA k_sumsB k_bringA k_bringB).set (12 + k) (a_n (k + 12), .inl (cA 1, 9, .inr (.inl f))) = wd_Wa_enterFrom cA a_n a_k n_x n_y n_nodes n_aloneB n_pairA (va_up n_pairB k f) k_groups k_opened k_sumsA k_sumsB k_bringA k_bringB := by
  rcases lt9 hk with rfl | rfl | rfl | rfl | rfl | rfl | rfl | rfl | rfl <;> rfl
theorem row_Wa_enterFrom_k_bringA {cA : Nat → ClassId} {a_n a_k : Nat → Nat} {n_x : Int32} {n_y : Int32} {n_nodes : Int32} {n_aloneB : Int64} {n_pairA : Nat → Nat → Int64} {n_pairB : Nat → Nat → Int64} {k_groups : Nat → Int32} {k_opened : Nat → Int32} {k_sumsA : Nat → Int64} {k_sumsB : Nat → Int64} {k_bringB : Nat → Nat → Int64} (k_bringA : Nat → Nat → Int64) (k : Nat) (hk : k < 9) : (wd_Wa_enterFrom cA a_n a_k n_x n_y n_nodes n_aloneB n_pairA n_pairB k_groups k_opened k_sumsA k_sumsB k_bringA k_bringB)[27 + k]? = some (a_k (k + 6), .inl (cA 1, 9, .inr (.inl (k_bringA k)))) := by
  rcases lt9 hk with rfl | rfl | rfl | rfl | rfl | rfl | rfl | rfl | rfl <;> rfl
theorem set_Wa_enterFrom_k_bringA {cA : Nat → ClassId} {a_n a_k : Nat → Nat} {n_x : Int32} {n_y : Int32} {n_nodes : Int32} {n_aloneB : Int64} {n_pairA : Nat → Nat → Int64} {n_pairB : Nat → Nat → Int64} {k_groups : Nat → Int32} {k_opened : Nat → Int32} {k_sumsA : Nat → Int64} {k_sumsB : Nat → Int64} {k_bringB : Nat → Nat → Int64} {k_bringA : Nat → Nat → Int64} {f : Nat → Int64} (k : Nat) (hk : k < 9) : (wd_Wa_enterFrom cA a_n a_k n_x n_y n_nodes n_aloneB n_pairA n_pairB k_groups k_opened k_sumsA k_sumsB k_bringA k_bringB).set (27 + k) (a_k (k + 6), .inl (cA 1, 9, .inr (.inl f))) = wd_Wa_enterFrom cA a_n a_k n_x n_y n_nodes n_aloneB n_pairA n_pairB k_groups k_opened k_sumsA k_sumsB (va_up k_bringA k f) k_bringB := by
  rcases lt9 hk with rfl | rfl | rfl | rfl | rfl | rfl | rfl | rfl | rfl <;> rfl
theorem row_Wa_enterFrom_k_bringB {cA : Nat → ClassId} {a_n a_k : Nat → Nat} {n_x : Int32} {n_y : Int32} {n_nodes : Int32} {n_aloneB : Int64} {n_pairA : Nat → Nat → Int64} {n_pairB : Nat → Nat → Int64} {k_groups : Nat → Int32} {k_opened : Nat → Int32} {k_sumsA : Nat → Int64} {k_sumsB : Nat → Int64} {k_bringA : Nat → Nat → Int64} (k_bringB : Nat → Nat → Int64) (k : Nat) (hk : k < 9) : (wd_Wa_enterFrom cA a_n a_k n_x n_y n_nodes n_aloneB n_pairA n_pairB k_groups k_opened k_sumsA k_sumsB k_bringA k_bringB)[37 + k]? = some (a_k (k + 16), .inl (cA 1, 9, .inr (.inl (k_bringB k)))) := by
  rcases lt9 hk with rfl | rfl | rfl | rfl | rfl | rfl | rfl | rfl | rfl <;> rfl
theorem set_Wa_enterFrom_k_bringB {cA : Nat → ClassId} {a_n a_k : Nat → Nat} {n_x : Int32} {n_y : Int32} {n_nodes : Int32} {n_aloneB : Int64} {n_pairA : Nat → Nat → Int64} {n_pairB : Nat → Nat → Int64} {k_groups : Nat → Int32} {k_opened : Nat → Int32} {k_sumsA : Nat → Int64} {k_sumsB : Nat → Int64} {k_bringA : Nat → Nat → Int64} {k_bringB : Nat → Nat → Int64} {f : Nat → Int64} (k : Nat) (hk : k < 9) : (wd_Wa_enterFrom cA a_n a_k n_x n_y n_nodes n_aloneB n_pairA n_pairB k_groups k_opened k_sumsA k_sumsB k_bringA k_bringB).set (37 + k) (a_k (k + 16), .inl (cA 1, 9, .inr (.inl f))) = wd_Wa_enterFrom cA a_n a_k n_x n_y n_nodes n_aloneB n_pairA n_pairB k_groups k_opened k_sumsA k_sumsB k_bringA (va_up k_bringB k f) := by
  rcases lt9 hk with rfl | rfl | rfl | rfl | rfl | rfl | rfl | rfl | rfl <;> rfl
noncomputable def s_Wa_enterFrom_2 (n_nodes : Int32) (n_pairA : Nat → Nat → Int64) (n_pairB : Nat → Nat → Int64) (zz : Int32 × (Nat → Nat → Int64) × (Nat → Nat → Int64) × (Nat → Int32) × (Nat → Int32) × (Nat → Int64) × (Nat → Int64)) (back exit : (Int32 × (Nat → Nat → Int64) × (Nat → Nat → Int64) × (Nat → Int32) × (Nat → Int32) × (Nat → Int64) × (Nat → Int64)) → Option ((Nat → Int32) × (Nat → Int32) × (Nat → Int64) × (Nat → Int64) × (Nat → Nat → Int64) × (Nat → Nat → Int64))) : Option ((Nat → Int32) × (Nat → Int32) × (Nat → Int64) × (Nat → Int64) × (Nat → Nat → Int64) × (Nat → Nat → Int64)) :=
  (if n_nodes ≤ zz.1 then (exit (zz.1, zz.2.1, zz.2.2.1, zz.2.2.2.1, zz.2.2.2.2.1, zz.2.2.2.2.2.1, zz.2.2.2.2.2.2)) else (if inb zz.1 9 then ((m_Wa_weigh n_pairA n_pairB (upd zz.2.2.2.1 zz.1.toNatClampNeg (0 : Int32)) zz.2.1 zz.2.2.1 zz.1).bind (fun r22 : (Nat → Nat → Int64) × (Nat → Nat → Int64) => ((m_Wa_settle (upd zz.2.2.2.1 zz.1.toNatClampNeg (0 : Int32)) zz.2.2.2.2.1 zz.2.2.2.2.2.1 zz.2.2.2.2.2.2 r22.1 r22.2 zz.1).bind (fun r27 : (Nat → Int32) × (Nat → Int64) × (Nat → Int64) => (back ((zz.1 + 1), r22.1, r22.2, (upd zz.2.2.2.1 zz.1.toNatClampNeg (0 : Int32)), r27.1, r27.2.1, r27.2.2)))))) else none))
noncomputable def m_Wa_enterFrom (n_nodes : Int32) (n_pairA : Nat → Nat → Int64) (n_pairB : Nat → Nat → Int64) (k_groups : Nat → Int32) (k_opened : Nat → Int32) (k_sumsA : Nat → Int64) (k_sumsB : Nat → Int64) (k_bringA : Nat → Nat → Int64) (k_bringB : Nat → Nat → Int64) (v1 : Int32) : Option ((Nat → Int32) × (Nat → Int32) × (Nat → Int64) × (Nat → Int64) × (Nat → Nat → Int64) × (Nat → Nat → Int64)) :=
  (loopC (s_Wa_enterFrom_2 n_nodes n_pairA n_pairB) (fun z2 : Int32 × (Nat → Nat → Int64) × (Nat → Nat → Int64) × (Nat → Int32) × (Nat → Int32) × (Nat → Int64) × (Nat → Int64) => some (z2.2.2.2.1, z2.2.2.2.2.1, z2.2.2.2.2.2.1, z2.2.2.2.2.2.2, z2.2.1, z2.2.2.1)) FU (v1, k_bringA, k_bringB, k_groups, k_opened, k_sumsA, k_sumsB))
set_option maxHeartbeats 4000000 in
set_option maxRecDepth 100000 in
theorem c_Wa_enterFrom (l : Launch) (D : va_G) (cA : Nat → ClassId) (a_n a_k : Nat → Nat) (sz : Nat) (n_x : Int32) (n_y : Int32) (n_nodes : Int32) (n_aloneB : Int64) (n_pairA : Nat → Nat → Int64) (n_pairB : Nat → Nat → Int64) (k_groups : Nat → Int32) (k_opened : Nat → Int32) (k_sumsA : Nat → Int64) (k_sumsB : Nat → Int64) (k_bringA : Nat → Nat → Int64) (k_bringB : Nat → Nat → Int64) (v1 : Int32) (out : (Nat → Int32) × (Nat → Int32) × (Nat → Int64) × (Nat → Int64) × (Nat → Nat → Int64) × (Nat → Nat → Int64)) (h : m_Wa_enterFrom n_nodes n_pairA n_pairB k_groups k_opened k_sumsA k_sumsB k_bringA k_bringB v1 = some out) : Met l y_Wa_enterFrom w_Wa_enterFrom ({ frames := 2, cells := 0, slots := 0, locals := 48 }) (va_Pc [.ref (a_k 0), .int v1] (fun U => U.heap.size = sz ∧ va_P D cls9 (wd_Wa_enterFrom cA a_n a_k n_x n_y n_nodes n_aloneB n_pairA n_pairB k_groups k_opened k_sumsA k_sumsB k_bringA k_bringB) U.heap ∧ va_K D cls9 (tys5 cA) U ∧ va_D (fun _ => True) (wd_Wa_enterFrom cA a_n a_k n_x n_y n_nodes n_aloneB n_pairA n_pairB k_groups k_opened k_sumsA k_sumsB k_bringA k_bringB))) (va_Qv (fun uu : (Nat → Int32) × (Nat → Int32) × (Nat → Int64) × (Nat → Int64) × (Nat → Nat → Int64) × (Nat → Nat → Int64) => uu = out) (fun (uu : (Nat → Int32) × (Nat → Int32) × (Nat → Int64) × (Nat → Int64) × (Nat → Nat → Int64) × (Nat → Nat → Int64)) (t : State) => va_P D cls9 (wd_Wa_enterFrom cA a_n a_k n_x n_y n_nodes n_aloneB n_pairA n_pairB uu.1 uu.2.1 uu.2.2.1 uu.2.2.2.1 uu.2.2.2.2.1 uu.2.2.2.2.2) t.heap ∧ va_K D cls9 (tys5 cA) t ∧ va_D (va_A (wd_Wa_enterFrom cA a_n a_k n_x n_y n_nodes n_aloneB n_pairA n_pairB k_groups k_opened k_sumsA k_sumsB k_bringA k_bringB) sz) (wd_Wa_enterFrom cA a_n a_k n_x n_y n_nodes n_aloneB n_pairA n_pairB uu.1 uu.2.1 uu.2.2.1 uu.2.2.2.1 uu.2.2.2.2.1 uu.2.2.2.2.2)) (va_A (wd_Wa_enterFrom cA a_n a_k n_x n_y n_nodes n_aloneB n_pairA n_pairB k_groups k_opened k_sumsA k_sumsB k_bringA k_bringB) sz)) 0 0 (va_A (wd_Wa_enterFrom cA a_n a_k n_x n_y n_nodes n_aloneB n_pairA n_pairB k_groups k_opened k_sumsA k_sumsB k_bringA k_bringB) sz) := by
  refine Met.ofW (cc := b_Wa_enterFrom) (maxL := 3) (ret := (Option.none : Option Jvm.ClassFile.FieldType)) (by decide) rfl ?_
  intro p e s m args below meth c s₁ B hml hv
  obtain ⟨rfl, hsz, hP, hK, hD0⟩ := hv
  have hx := B.exec
  have hb := B.bytes
  have hr := B.returns
  have hts := atoms_spec (ws := w_Wa_enterFrom) B.pre
  have hal : ∀ w ∈ ALLW, w.before _ s = true := fun w hw => hts w (List.mem_cons_of_mem _ hw)
  have hown : s.vm.findClass R_Wa = some m.cls := findClass_of_methodNamed B.named
  have hlocks := B.notSynchronized
  subst hsz
  have hD := hD0.self (sz := s.heap.size)
  generalize hAe : va_A (wd_Wa_enterFrom cA a_n a_k n_x n_y n_nodes n_aloneB n_pairA n_pairB k_groups k_opened k_sumsA k_sumsB k_bringA k_bringB) s.heap.size = A at hD ⊢
  have hA : ∀ q : Nat, s.heap.size ≤ q → A q := fun q h => by rw [← hAe]; exact Or.inr h
  have hS : va_S A s.heap s.heap [] := va_S.rf
  have hl := lv_entry ([.ref (a_k 0), .int v1]) (n := 3) (Nat.le_of_ble_eq_true rfl)
  rw [lg_entry_eq]
  generalize (lg_sl ([.ref (a_k 0), .int v1]) ++ List.replicate (3 - (lg_sl ([.ref (a_k 0), .int v1])).length) Slot.unset).toArray = ls at hl ⊢
  have hl : lv_has ls 3 [(0, .ref (a_k 0)), (1, .int v1)] := hl
  refine wg (fun G hG => ?_)
  refine cast (hG _ _ _ _ _ _ _).symm ?_
  obtain ⟨H, locs, hHl, hS⟩ : ∃ (H : Heap) (locs : List Loc), (H = s.heap ∧ locs = []) ∧ va_S A s.heap H locs := ⟨s.heap, [], ⟨rfl, rfl⟩, hS⟩
  have hP : va_P D cls9 (wd_Wa_enterFrom cA a_n a_k n_x n_y n_nodes n_aloneB n_pairA n_pairB k_groups k_opened k_sumsA k_sumsB k_bringA k_bringB) H := by rw [hHl.1]; exact hP
  rw [← hHl.1, ← hHl.2]
  clear hHl
  refine lv_iload_n hx hb d_Wa_enterFrom_0 rfl (lv_at hl 1 rfl) ?_
  refine lv_istore_n (lv' := [(2, .int v1), (0, .ref (a_k 0)), (1, .int v1)]) hx hb d_Wa_enterFrom_1 rfl hl (by decide) rfl (fun ls hl => ?_)
  refine cast (hG _ _ _ _ _ _ _) (lp_go2 h (fun zz : Int32 × (Nat → Nat → Int64) × (Nat → Nat → Int64) × (Nat → Int32) × (Nat → Int32) × (Nat → Int64) × (Nat → Int64) => ∀ (H : Heap) (locs : List Loc) (ls : Array Slot), va_P D cls9 (wd_Wa_enterFrom cA a_n a_k n_x n_y n_nodes n_aloneB n_pairA n_pairB zz.2.2.2.1 zz.2.2.2.2.1 zz.2.2.2.2.2.1 zz.2.2.2.2.2.2 zz.2.1 zz.2.2.1) H → va_D A (wd_Wa_enterFrom cA a_n a_k n_x n_y n_nodes n_aloneB n_pairA n_pairB zz.2.2.2.1 zz.2.2.2.2.1 zz.2.2.2.2.2.1 zz.2.2.2.2.2.2 zz.2.1 zz.2.2.1) → va_S A s.heap H locs → lv_has ls 3 [(2, .int zz.1), (0, .ref (a_k 0)), (1, .int v1)] → G H locs 0 0 ls 36 []) ?_ (fun zz : Int32 × (Nat → Nat → Int64) × (Nat → Nat → Int64) × (Nat → Int32) × (Nat → Int32) × (Nat → Int64) × (Nat → Int64) => ∀ (H : Heap) (locs : List Loc) (ls : Array Slot), va_P D cls9 (wd_Wa_enterFrom cA a_n a_k n_x n_y n_nodes n_aloneB n_pairA n_pairB zz.2.2.2.1 zz.2.2.2.2.1 zz.2.2.2.2.2.1 zz.2.2.2.2.2.2 zz.2.1 zz.2.2.1) H → va_D A (wd_Wa_enterFrom cA a_n a_k n_x n_y n_nodes n_aloneB n_pairA n_pairB zz.2.2.2.1 zz.2.2.2.2.1 zz.2.2.2.2.2.1 zz.2.2.2.2.2.2 zz.2.1 zz.2.2.1) → va_S A s.heap H locs → lv_has ls 3 [(2, .int zz.1), (0, .ref (a_k 0)), (1, .int v1)] → G H locs 0 0 ls 2 []) ?_ _ _ ls hP hD hS (lv_sub hl [0, 1, 2] rfl))
  · intro zz h H locs ls hP hD hS hl
    obtain ⟨x2_2e, k_bringA_2e, k_bringB_2e, k_groups_2e, k_opened_2e, k_sumsA_2e, k_sumsB_2e⟩ := zz
    have hP : va_P D cls9 (wd_Wa_enterFrom cA a_n a_k n_x n_y n_nodes n_aloneB n_pairA n_pairB k_groups_2e k_opened_2e k_sumsA_2e k_sumsB_2e k_bringA_2e k_bringB_2e) H := hP
    have hD : va_D A (wd_Wa_enterFrom cA a_n a_k n_x n_y n_nodes n_aloneB n_pairA n_pairB k_groups_2e k_opened_2e k_sumsA_2e k_sumsB_2e k_bringA_2e k_bringB_2e) := hD
    have hl : lv_has ls 3 [(2, .int x2_2e), (0, .ref (a_k 0)), (1, .int v1)] := hl
    refine cast (hG _ _ _ _ _ _ _).symm ?_
    exact W.vret hx hb hr (fun t ht hW => ⟨⟨(k_groups_2e, k_opened_2e, k_sumsA_2e, k_sumsB_2e, k_bringA_2e, k_bringB_2e), rfl, Option.some.inj h, by rw [ht]; exact hP, va_K.moved hW.alike hK, hD⟩, hS.F ht⟩) hS.2.2 d_Wa_enterFrom_36
  · intro back exit zz hB_2 hE_2 h H locs ls hP hD hS hl
    obtain ⟨x2_2, k_bringA_2, k_bringB_2, k_groups_2, k_opened_2, k_sumsA_2, k_sumsB_2⟩ := zz
    have hP : va_P D cls9 (wd_Wa_enterFrom cA a_n a_k n_x n_y n_nodes n_aloneB n_pairA n_pairB k_groups_2 k_opened_2 k_sumsA_2 k_sumsB_2 k_bringA_2 k_bringB_2) H := hP
    have hD : va_D A (wd_Wa_enterFrom cA a_n a_k n_x n_y n_nodes n_aloneB n_pairA n_pairB k_groups_2 k_opened_2 k_sumsA_2 k_sumsB_2 k_bringA_2 k_bringB_2) := hD
    have hl : lv_has ls 3 [(2, .int x2_2), (0, .ref (a_k 0)), (1, .int v1)] := hl
    refine cast (hG _ _ _ _ _ _ _).symm ?_
    refine lv_iload_n hx hb d_Wa_enterFrom_2 rfl (lv_at hl 0 rfl) ?_
    refine lv_aload_n hx hb d_Wa_enterFrom_3 rfl (lv_at hl 1 rfl) ?_
    refine va_get (ci := 6) (v := .ref (a_n 0)) (C := R_Wa) (T := F_Wa) (N := 7) hx hb hal in_Wa hown hK hP 21 rfl rfl 0 (by decide) (hal _ kw_134) (fun _ h9 => h9) rfl d_Wa_enterFrom_4 ?_
    refine va_get (ci := 0) (v := .int n_nodes) (C := R_Ga) (T := F_Ga) (N := 9) hx hb hal in_Ga hown hK hP 0 rfl rfl 2 (by decide) (hal _ kw_73) (fun _ h9 => h9) rfl d_Wa_enterFrom_7 ?_
    refine lv_icmp_ge (tgt := 36) hx hb d_Wa_enterFrom_10 (by decide) (fun c_1 => ?_) (fun c_1 => ?_)
    · have h := ifp (c_1) h
      exact cast (hG _ _ _ _ _ _ _) (hE_2 (x2_2, k_bringA_2, k_bringB_2, k_groups_2, k_opened_2, k_sumsA_2, k_sumsB_2) h _ _ _ hP hD hS (lv_sub hl [0, 1, 2] rfl))
    · have h := ifn (c_1) h
      refine lv_aload_n hx hb d_Wa_enterFrom_13 rfl (lv_at hl 1 rfl) ?_
      refine va_get (ci := 6) (v := .ref (a_k 1)) (C := R_Wa) (T := F_Wa) (N := 7) hx hb hal in_Wa hown hK hP 21 rfl rfl 1 (by decide) (hal _ kw_135) (fun _ h9 => h9) rfl d_Wa_enterFrom_14 ?_
      refine lv_iload_n hx hb d_Wa_enterFrom_17 rfl (lv_at hl 0 rfl) ?_
      refine lv_iconst (v := 0) hx hb d_Wa_enterFrom_18 (by decide) ?_
      obtain ⟨g_2, h⟩ := gd h
      refine va_iast hx hb hK hP hD hS 22 0 rfl rfl (inb_in g_2) d_Wa_enterFrom_19 (fun H locs hP hD hS => ?_)
      have hP : va_P D cls9 (wd_Wa_enterFrom cA a_n a_k n_x n_y n_nodes n_aloneB n_pairA n_pairB (upd k_groups_2 x2_2.toNatClampNeg (0 : Int32)) k_opened_2 k_sumsA_2 k_sumsB_2 k_bringA_2 k_bringB_2) H := hP
      have hD : va_D A (wd_Wa_enterFrom cA a_n a_k n_x n_y n_nodes n_aloneB n_pairA n_pairB (upd k_groups_2 x2_2.toNatClampNeg (0 : Int32)) k_opened_2 k_sumsA_2 k_sumsB_2 k_bringA_2 k_bringB_2) := hD
      refine lv_aload_n hx hb d_Wa_enterFrom_20 rfl (lv_at hl 1 rfl) ?_
      refine lv_iload_n hx hb d_Wa_enterFrom_21 rfl (lv_at hl 0 rfl) ?_
      obtain ⟨o_8, hc_7, h⟩ := bd h
      have hPc := hP.sub (ws' := (wd_Wa_weigh cA a_n a_k n_x n_y n_nodes n_aloneB n_pairA n_pairB (upd k_groups_2 x2_2.toNatClampNeg (0 : Int32)) k_bringA_2 k_bringB_2)) [0, 1, 2, 3, 4, 5, 6, 7, 8, 9, 10, 11, 12, 13, 14, 15, 16, 17, 18, 19, 20, 21, 22, 26, 27, 28, 29, 30, 31, 32, 33, 34, 35, 36, 37, 38, 39, 40, 41, 42, 43, 44, 45] rfl
      have hDc := hD.sub (ws' := (wd_Wa_weigh cA a_n a_k n_x n_y n_nodes n_aloneB n_pairA n_pairB (upd k_groups_2 x2_2.toNatClampNeg (0 : Int32)) k_bringA_2 k_bringB_2)) [0, 1, 2, 3, 4, 5, 6, 7, 8, 9, 10, 11, 12, 13, 14, 15, 16, 17, 18, 19, 20, 21, 22, 26, 27, 28, 29, 30, 31, 32, 33, 34, 35, 36, 37, 38, 39, 40, 41, 42, 43, 44, 45] (by decide) rfl
      have hFc := va_free (wc := (wd_Wa_weigh cA a_n a_k n_x n_y n_nodes n_aloneB n_pairA n_pairB (upd k_groups_2 x2_2.toNatClampNeg (0 : Int32)) k_bringA_2 k_bringB_2)) hD hS hA [0, 1, 2, 3, 4, 5, 6, 7, 8, 9, 10, 11, 12, 13, 14, 15, 16, 17, 18, 19, 20, 21, 22, 26, 27, 28, 29, 30, 31, 32, 33, 34, 35, 36, 37, 38, 39, 40, 41, 42, 43, 44, 45] rfl
      refine va_callv (va_runV (C := R_Wa) (As := [.int x2_2]) (rest := []) ⟨hx, hb, hml, hown, hal⟩ (c_Wa_weigh l D cA a_n a_k H.size n_x n_y n_nodes n_aloneB n_pairA n_pairB (upd k_groups_2 x2_2.toNatClampNeg (0 : Int32)) k_bringA_2 k_bringB_2 x2_2 o_8 hc_7) (cwV 1 hal (goodV kw_466 kw_468 kw_p11 kw_5 kw_469) rfl rfl rfl (by decide +kernel) ⟨Nat.le_of_ble_eq_true rfl, Nat.le_of_ble_eq_true rfl⟩) ⟨fun a U g mk q => by obtain ⟨q0, q1, qP, qK, qD⟩ := q; exact ⟨q0, q1, qP, va_K.moved (u := U) (U := U.calling g mk a) (Vm.Alike.refl U.vm) qK, qD⟩, va_recv hK hP (ci := 6) (q0 := 21) rfl rfl, fun U hU hW => ⟨rfl, by rw [hU], by rw [hU]; exact hPc, va_K.moved hW.alike hK, hDc.weaken (fun _ _ _ _ => trivial)⟩⟩ rfl rfl hl.1 rfl (lv_room (Nat.le_of_ble_eq_true rfl)) d_Wa_enterFrom_22 ⟨Nat.le_of_ble_eq_true rfl, Nat.le_of_ble_eq_true rfl⟩) hS (fun q _ h => hFc q h) hFc (fun u t H1 locs ht hvm hw hB hz1 hk1 hS => ?_)
      obtain ⟨u_5, u_6⟩ := u
      subst hw
      obtain ⟨hP1, hK1, hD1⟩ := hB
      rw [ht] at hP1
      have hP1 : va_P D cls9 (wd_Wa_weigh cA a_n a_k n_x n_y n_nodes n_aloneB n_pairA n_pairB (upd k_groups_2 x2_2.toNatClampNeg (0 : Int32)) u_5 u_6) H1 := hP1
      obtain ⟨hP, hD⟩ := va_join (wr := ([23, 24, 25] : List Nat).filterMap (fun i => (wd_Wa_enterFrom cA a_n a_k n_x n_y n_nodes n_aloneB n_pairA n_pairB (upd k_groups_2 x2_2.toNatClampNeg (0 : Int32)) k_opened_2 k_sumsA_2 k_sumsB_2 k_bringA_2 k_bringB_2)[i]?)) (w1 := (wd_Wa_weigh cA a_n a_k n_x n_y n_nodes n_aloneB n_pairA n_pairB (upd k_groups_2 x2_2.toNatClampNeg (0 : Int32)) u_5 u_6)) hP hD [0, 1, 2, 3, 4, 5, 6, 7, 8, 9, 10, 11, 12, 13, 14, 15, 16, 17, 18, 19, 20, 21, 22, 26, 27, 28, 29, 30, 31, 32, 33, 34, 35, 36, 37, 38, 39, 40, 41, 42, 43, 44, 45] [23, 24, 25] rfl rfl (by decide) (by decide) hk1 hFc hP1 hD1
      generalize H1 = H at hP hS ⊢
      have hP : va_P D cls9 (wd_Wa_enterFrom cA a_n a_k n_x n_y n_nodes n_aloneB n_pairA n_pairB (upd k_groups_2 x2_2.toNatClampNeg (0 : Int32)) k_opened_2 k_sumsA_2 k_sumsB_2 u_5 u_6) H := hP.sub [3, 4, 5, 6, 7, 8, 9, 10, 11, 12, 13, 14, 15, 16, 17, 18, 19, 20, 21, 22, 23, 24, 25, 0, 1, 2, 26, 27, 28, 29, 30, 31, 32, 33, 34, 35, 36, 37, 38, 39, 40, 41, 42, 43, 44, 45] rfl
      have hD : va_D A (wd_Wa_enterFrom cA a_n a_k n_x n_y n_nodes n_aloneB n_pairA n_pairB (upd k_groups_2 x2_2.toNatClampNeg (0 : Int32)) k_opened_2 k_sumsA_2 k_sumsB_2 u_5 u_6) := hD.sub [3, 4, 5, 6, 7, 8, 9, 10, 11, 12, 13, 14, 15, 16, 17, 18, 19, 20, 21, 22, 23, 24, 25, 0, 1, 2, 26, 27, 28, 29, 30, 31, 32, 33, 34, 35, 36, 37, 38, 39, 40, 41, 42, 43, 44, 45] (by decide) rfl
      refine lv_aload_n hx hb d_Wa_enterFrom_25 rfl (lv_at hl 1 rfl) ?_
      refine lv_iload_n hx hb d_Wa_enterFrom_26 rfl (lv_at hl 0 rfl) ?_
      obtain ⟨o_15, hc_14, h⟩ := bd h
      have hPc := hP.sub (ws' := (wd_Wa_settle cA a_n a_k (upd k_groups_2 x2_2.toNatClampNeg (0 : Int32)) k_opened_2 k_sumsA_2 k_sumsB_2 u_5 u_6)) [21, 22, 23, 24, 25, 26, 27, 28, 29, 30, 31, 32, 33, 34, 35, 36, 37, 38, 39, 40, 41, 42, 43, 44, 45] rfl
      have hDc := hD.sub (ws' := (wd_Wa_settle cA a_n a_k (upd k_groups_2 x2_2.toNatClampNeg (0 : Int32)) k_opened_2 k_sumsA_2 k_sumsB_2 u_5 u_6)) [21, 22, 23, 24, 25, 26, 27, 28, 29, 30, 31, 32, 33, 34, 35, 36, 37, 38, 39, 40, 41, 42, 43, 44, 45] (by decide) rfl
      have hFc := va_free (wc := (wd_Wa_settle cA a_n a_k (upd k_groups_2 x2_2.toNatClampNeg (0 : Int32)) k_opened_2 k_sumsA_2 k_sumsB_2 u_5 u_6)) hD hS hA [21, 22, 23, 24, 25, 26, 27, 28, 29, 30, 31, 32, 33, 34, 35, 36, 37, 38, 39, 40, 41, 42, 43, 44, 45] rfl
      refine va_callv (va_runV (C := R_Wa) (As := [.int x2_2]) (rest := []) ⟨hx, hb, hml, hown, hal⟩ (c_Wa_settle l D cA a_n a_k H.size (upd k_groups_2 x2_2.toNatClampNeg (0 : Int32)) k_opened_2 k_sumsA_2 k_sumsB_2 u_5 u_6 x2_2 o_15 hc_14) (cwV 1 hal (goodV kw_471 kw_473 kw_p12 kw_5 kw_474) rfl rfl rfl (by decide +kernel) ⟨Nat.le_of_ble_eq_true rfl, Nat.le_of_ble_eq_true rfl⟩) ⟨fun a U g mk q => by obtain ⟨q0, q1, qP, qK, qD⟩ := q; exact ⟨q0, q1, qP, va_K.moved (u := U) (U := U.calling g mk a) (Vm.Alike.refl U.vm) qK, qD⟩, va_recv hK hP (ci := 6) (q0 := 21) rfl rfl, fun U hU hW => ⟨rfl, by rw [hU], by rw [hU]; exact hPc, va_K.moved hW.alike hK, hDc.weaken (fun _ _ _ _ => trivial)⟩⟩ rfl rfl hl.1 rfl (lv_room (Nat.le_of_ble_eq_true rfl)) d_Wa_enterFrom_27 ⟨Nat.le_of_ble_eq_true rfl, Nat.le_of_ble_eq_true rfl⟩) hS (fun q _ h => hFc q h) hFc (fun u t H1 locs ht hvm hw hB hz1 hk1 hS => ?_)
      obtain ⟨u_11, u_12, u_13⟩ := u
      subst hw
      obtain ⟨hP1, hK1, hD1⟩ := hB
      rw [ht] at hP1
      have hP1 : va_P D cls9 (wd_Wa_settle cA a_n a_k (upd k_groups_2 x2_2.toNatClampNeg (0 : Int32)) u_11 u_12 u_13 u_5 u_6) H1 := hP1
      obtain ⟨hP, hD⟩ := va_join (wr := ([0, 1, 2, 3, 4, 5, 6, 7, 8, 9, 10, 11, 12, 13, 14, 15, 16, 17, 18, 19, 20] : List Nat).filterMap (fun i => (wd_Wa_enterFrom cA a_n a_k n_x n_y n_nodes n_aloneB n_pairA n_pairB (upd k_groups_2 x2_2.toNatClampNeg (0 : Int32)) k_opened_2 k_sumsA_2 k_sumsB_2 u_5 u_6)[i]?)) (w1 := (wd_Wa_settle cA a_n a_k (upd k_groups_2 x2_2.toNatClampNeg (0 : Int32)) u_11 u_12 u_13 u_5 u_6)) hP hD [21, 22, 23, 24, 25, 26, 27, 28, 29, 30, 31, 32, 33, 34, 35, 36, 37, 38, 39, 40, 41, 42, 43, 44, 45] [0, 1, 2, 3, 4, 5, 6, 7, 8, 9, 10, 11, 12, 13, 14, 15, 16, 17, 18, 19, 20] rfl rfl (by decide) (by decide) hk1 hFc hP1 hD1
      generalize H1 = H at hP hS ⊢
      have hP : va_P D cls9 (wd_Wa_enterFrom cA a_n a_k n_x n_y n_nodes n_aloneB n_pairA n_pairB (upd k_groups_2 x2_2.toNatClampNeg (0 : Int32)) u_11 u_12 u_13 u_5 u_6) H := hP.sub [0, 1, 2, 3, 4, 5, 6, 7, 8, 9, 10, 11, 12, 13, 14, 15, 16, 17, 18, 19, 20, 21, 22, 23, 24, 25, 26, 27, 28, 29, 30, 31, 32, 33, 34, 35, 36, 37, 38, 39, 40, 41, 42, 43, 44, 45] rfl
      have hD : va_D A (wd_Wa_enterFrom cA a_n a_k n_x n_y n_nodes n_aloneB n_pairA n_pairB (upd k_groups_2 x2_2.toNatClampNeg (0 : Int32)) u_11 u_12 u_13 u_5 u_6) := hD.sub [0, 1, 2, 3, 4, 5, 6, 7, 8, 9, 10, 11, 12, 13, 14, 15, 16, 17, 18, 19, 20, 21, 22, 23, 24, 25, 26, 27, 28, 29, 30, 31, 32, 33, 34, 35, 36, 37, 38, 39, 40, 41, 42, 43, 44, 45] (by decide) rfl
      refine lv_iinc (v := (x2_2 + 1)) (lv' := [(2, .int (x2_2 + 1)), (0, .ref (a_k 0)), (1, .int v1)]) hx hb d_Wa_enterFrom_30 hl (k := 0) rfl rfl (by decide) rfl (fun ls hl => ?_)
      refine lv_goto (tgt := 2) hx hb d_Wa_enterFrom_33 (by decide) ?_
      exact cast (hG _ _ _ _ _ _ _) (hB_2 ((x2_2 + 1), u_5, u_6, (upd k_groups_2 x2_2.toNatClampNeg (0 : Int32)), u_11, u_12, u_13) h _ _ _ hP hD hS (lv_sub hl [0, 1, 2] rfl))
def wd_Wa_start (cA : Nat → ClassId) (a_n a_k : Nat → Nat) (n_x : Int32) (n_y : Int32) (n_nodes : Int32) (n_aloneB : Int64) (n_pairA : Nat → Nat → Int64) (n_pairB : Nat → Nat → Int64) (k_groups : Nat → Int32) (k_opened : Nat → Int32) (k_sumsA : Nat → Int64) (k_sumsB : Nat → Int64) (k_bringA : Nat → Nat → Int64) (k_bringB : Nat → Nat → Int64) : va_W := [(a_n 0, .inr (0, [.int n_x, .int n_y, .int n_nodes, .long n_aloneB, .ref (a_n 1), .ref (a_n 11), .ref (a_n 21), .ref (a_n 31), .ref (a_n 32)])), (a_n 1, .inl (cA 4, 9, .inr (.inr (.inr (.inr (fun i => if i < 9 then some (a_n (i + 2)) else none)))))), (a_n (0 + 2), .inl (cA 1, 9, .inr (.inl (n_pairA 0)))), (a_n (1 + 2), .inl (cA 1, 9, .inr (.inl (n_pairA 1)))), (a_n (2 + 2), .inl (cA 1, 9, .inr (.inl (n_pairA 2)))), (a_n (3 + 2), .inl (cA 1, 9, .inr (.inl (n_pairA 3)))), (a_n (4 + 2), .inl (cA 1, 9, .inr (.inl (n_pairA 4)))), (a_n (5 + 2), .inl (cA 1, 9, .inr (.inl (n_pairA 5)))), (a_n (6 + 2), .inl (cA 1, 9, .inr (.inl (n_pairA 6)))), (a_n (7 + 2), .inl (cA 1, 9, .inr (.inl (n_pairA 7)))), (a_n (8 + 2), .inl (cA 1, 9, .inr (.inl (n_pairA 8)))), (a_n 11, .inl (cA 4, 9, .inr (.inr (.inr (.inr (fun i => if i < 9 then some (a_n (i + 12)) else none)))))), (a_n (0 + 12), .inl (cA 1, 9, .inr (.inl (n_pairB 0)))), (a_n (1 + 12), .inl (cA 1, 9, .inr (.inl (n_pairB 1)))), (a_n (2 + 12), .inl (cA 1, 9, .inr (.inl (n_pairB 2)))), (a_n (3 + 12), .inl (cA 1, 9, .inr (.inl (n_pairB 3)))), (a_n (4 + 12), .inl (cA 1, 9, .inr (.inl (n_pairB 4)))), (a_n (5 + 12), .inl (cA 1, 9, .inr (.inl (n_pairB 5)))), (a_n (6 + 12), .inl (cA 1, 9, .inr (.inl (n_pairB 6)))), (a_n (7 + 12), .inl (cA 1, 9, .inr (.inl (n_pairB 7)))), (a_n (8 + 12), .inl (cA 1, 9, .inr (.inl (n_pairB 8)))), (a_k 0, .inr (6, [.ref (a_n 0), .ref (a_k 1), .ref (a_k 2), .ref (a_k 3), .ref (a_k 4), .ref (a_k 5), .ref (a_k 15)])), (a_k 1, .inl (cA 0, 9, .inl k_groups)), (a_k 2, .inl (cA 0, 10, .inl k_opened)), (a_k 3, .inl (cA 1, 10, .inr (.inl k_sumsA))), (a_k 4, .inl (cA 1, 10, .inr (.inl k_sumsB))), (a_k 5, .inl (cA 4, 9, .inr (.inr (.inr (.inr (fun i => if i < 9 then some (a_k (i + 6)) else none)))))), (a_k (0 + 6), .inl (cA 1, 9, .inr (.inl (k_bringA 0)))), (a_k (1 + 6), .inl (cA 1, 9, .inr (.inl (k_bringA 1)))), (a_k (2 + 6), .inl (cA 1, 9, .inr (.inl (k_bringA 2)))), (a_k (3 + 6), .inl (cA 1, 9, .inr (.inl (k_bringA 3)))), (a_k (4 + 6), .inl (cA 1, 9, .inr (.inl (k_bringA 4)))), (a_k (5 + 6), .inl (cA 1, 9, .inr (.inl (k_bringA 5)))), (a_k (6 + 6), .inl (cA 1, 9, .inr (.inl (k_bringA 6)))), (a_k (7 + 6), .inl (cA 1, 9, .inr (.inl (k_bringA 7)))), (a_k (8 + 6), .inl (cA 1, 9, .inr (.inl (k_bringA 8)))), (a_k 15, .inl (cA 4, 9, .inr (.inr (.inr (.inr (fun i => if i < 9 then some (a_k (i + 16)) else none)))))), (a_k (0 + 16), .inl (cA 1, 9, .inr (.inl (k_bringB 0)))), (a_k (1 + 16), .inl (cA 1, 9, .inr (.inl (k_bringB 1)))), (a_k (2 + 16), .inl (cA 1, 9, .inr (.inl (k_bringB 2)))), (a_k (3 + 16), .inl (cA 1, 9, .inr (.inl (k_bringB 3)))), (a_k (4 + 16), .inl (cA 1, 9, .inr (.inl (k_bringB 4)))), (a_k (5 + 16), .inl (cA 1, 9, .inr (.inl (k_bringB 5)))), (a_k (6 + 16), .inl (cA 1, 9, .inr (.inl (k_bringB 6)))), (a_k (7 + 16), .inl (cA 1, 9, .inr (.inl (k_bringB 7)))), (a_k (8 + 16), .inl (cA 1, 9, .inr (.inl (k_bringB 8))))]
theorem row_Wa_start_n_pairA {cA : Nat → ClassId} {a_n a_k : Nat → Nat} {n_x : Int32} {n_y : Int32} {n_nodes : Int32} {n_aloneB : Int64} {n_pairB : Nat → Nat → Int64} {k_groups : Nat → Int32} {k_opened : Nat → Int32} {k_sumsA : Nat → Int64} {k_sumsB : Nat → Int64} {k_bringA : Nat → Nat → Int64} {k_bringB : Nat → Nat → Int64} (n_pairA : Nat → Nat → Int64) (k : Nat) (hk : k < 9) : (wd_Wa_start cA a_n a_k n_x n_y n_nodes n_aloneB n_pairA n_pairB k_groups k_opened k_sumsA k_sumsB k_bringA k_bringB)[2 + k]? = some (a_n (k + 2), .inl (cA 1, 9, .inr (.inl (n_pairA k)))) := by
  rcases lt9 hk with rfl | rfl | rfl | rfl | rfl | rfl | rfl | rfl | rfl <;> rfl
theorem set_Wa_start_n_pairA {cA : Nat → ClassId} {a_n a_k : Nat → Nat} {n_x : Int32} {n_y : Int32} {n_nodes : Int32} {n_aloneB : Int64} {n_pairB : Nat → Nat → Int64} {k_groups : Nat → Int32} {k_opened : Nat → Int32} {k_sumsA : Nat → Int64} {k_sumsB : Nat → Int64} {k_bringA : Nat → Nat → Int64} {k_bringB : Nat → Nat → Int64} {n_pairA : Nat → Nat → Int64} {f : Nat → Int64} (k : Nat) (hk : k < 9) : (wd_Wa_start cA a_n a_k n_x n_y n_nodes n_aloneB n_pairA n_pairB k_groups k_opened k_sumsA k_sumsB k_bringA k_bringB).set (2 + k) (a_n (k + 2), .inl (cA 1, 9, .inr (.inl f))) = wd_Wa_start cA a_n a_k n_x n_y n_nodes n_aloneB (va_up n_pairA k f) n_pairB k_groups k_opened k_sumsA k_sumsB k_bringA k_bringB := by
  rcases lt9 hk with rfl | rfl | rfl | rfl | rfl | rfl | rfl | rfl | rfl <;> rfl
theorem row_Wa_start_n_pairB {cA : Nat → ClassId} {a_n a_k : Nat → Nat} {n_x : Int32} {n_y : Int32} {n_nodes : Int32} {n_aloneB : Int64} {n_pairA : Nat → Nat → Int64} {k_groups : Nat → Int32} {k_opened : Nat → Int32} {k_sumsA : Nat → Int64} {k_sumsB : Nat → Int64} {k_bringA : Nat → Nat → Int64} {k_bringB : Nat → Nat → Int64} (n_pairB : Nat → Nat → Int64) (k : Nat) (hk : k < 9) : (wd_Wa_start cA a_n a_k n_x n_y n_nodes n_aloneB n_pairA n_pairB k_groups k_opened k_sumsA k_sumsB k_bringA k_bringB)[12 + k]? = some (a_n (k + 12), .inl (cA 1, 9, .inr (.inl (n_pairB k)))) := by
  rcases lt9 hk with rfl | rfl | rfl | rfl | rfl | rfl | rfl | rfl | rfl <;> rfl
theorem set_Wa_start_n_pairB {cA : Nat → ClassId} {a_n a_k : Nat → Nat} {n_x : Int32} {n_y : Int32} {n_nodes : Int32} {n_aloneB : Int64} {n_pairA : Nat → Nat → Int64} {k_groups : Nat → Int32} {k_opened : Nat → Int32} {k_sumsA : Nat → Int64} {k_sumsB : Nat → Int64} {k_bringA : Nat → Nat → Int64} {k_bringB : Nat → Nat → Int64} {n_pairB : Nat → Nat → Int64} {f : Nat → Int64} (k : Nat) (hk : k < 9) : (wd_Wa_start cA a_n a_k n_x n_y n_nodes n_aloneB n_pairA n_pairB k_groups k_opened k_sumsA k_sumsB k_bringA k_bringB).set (12 + k) (a_n (k + 12), .inl (cA 1, 9, .inr (.inl f))) = wd_Wa_start cA a_n a_k n_x n_y n_nodes n_aloneB n_pairA (va_up n_pairB k f) k_groups k_opened k_sumsA k_sumsB k_bringA k_bringB := by
  rcases lt9 hk with rfl | rfl | rfl | rfl | rfl | rfl | rfl | rfl | rfl <;> rfl
theorem row_Wa_start_k_bringA {cA : Nat → ClassId} {a_n a_k : Nat → Nat} {n_x : Int32} {n_y : Int32} {n_nodes : Int32} {n_aloneB : Int64} {n_pairA : Nat → Nat → Int64} {n_pairB : Nat → Nat → Int64} {k_groups : Nat → Int32} {k_opened : Nat → Int32} {k_sumsA : Nat → Int64} {k_sumsB : Nat → Int64} {k_bringB : Nat → Nat → Int64} (k_bringA : Nat → Nat → Int64) (k : Nat) (hk : k < 9) : (wd_Wa_start cA a_n a_k n_x n_y n_nodes n_aloneB n_pairA n_pairB k_groups k_opened k_sumsA k_sumsB k_bringA k_bringB)[27 + k]? = some (a_k (k + 6), .inl (cA 1, 9, .inr (.inl (k_bringA k)))) := by
  rcases lt9 hk with rfl | rfl | rfl | rfl | rfl | rfl | rfl | rfl | rfl <;> rfl
theorem set_Wa_start_k_bringA {cA : Nat → ClassId} {a_n a_k : Nat → Nat} {n_x : Int32} {n_y : Int32} {n_nodes : Int32} {n_aloneB : Int64} {n_pairA : Nat → Nat → Int64} {n_pairB : Nat → Nat → Int64} {k_groups : Nat → Int32} {k_opened : Nat → Int32} {k_sumsA : Nat → Int64} {k_sumsB : Nat → Int64} {k_bringB : Nat → Nat → Int64} {k_bringA : Nat → Nat → Int64} {f : Nat → Int64} (k : Nat) (hk : k < 9) : (wd_Wa_start cA a_n a_k n_x n_y n_nodes n_aloneB n_pairA n_pairB k_groups k_opened k_sumsA k_sumsB k_bringA k_bringB).set (27 + k) (a_k (k + 6), .inl (cA 1, 9, .inr (.inl f))) = wd_Wa_start cA a_n a_k n_x n_y n_nodes n_aloneB n_pairA n_pairB k_groups k_opened k_sumsA k_sumsB (va_up k_bringA k f) k_bringB := by
  rcases lt9 hk with rfl | rfl | rfl | rfl | rfl | rfl | rfl | rfl | rfl <;> rfl
theorem row_Wa_start_k_bringB {cA : Nat → ClassId} {a_n a_k : Nat → Nat} {n_x : Int32} {n_y : Int32} {n_nodes : Int32} {n_aloneB : Int64} {n_pairA : Nat → Nat → Int64} {n_pairB : Nat → Nat → Int64} {k_groups : Nat → Int32} {k_opened : Nat → Int32} {k_sumsA : Nat → Int64} {k_sumsB : Nat → Int64} {k_bringA : Nat → Nat → Int64} (k_bringB : Nat → Nat → Int64) (k : Nat) (hk : k < 9) : (wd_Wa_start cA a_n a_k n_x n_y n_nodes n_aloneB n_pairA n_pairB k_groups k_opened k_sumsA k_sumsB k_bringA k_bringB)[37 + k]? = some (a_k (k + 16), .inl (cA 1, 9, .inr (.inl (k_bringB k)))) := by
  rcases lt9 hk with rfl | rfl | rfl | rfl | rfl | rfl | rfl | rfl | rfl <;> rfl
theorem set_Wa_start_k_bringB {cA : Nat → ClassId} {a_n a_k : Nat → Nat} {n_x : Int32} {n_y : Int32} {n_nodes : Int32} {n_aloneB : Int64} {n_pairA : Nat → Nat → Int64} {n_pairB : Nat → Nat → Int64} {k_groups : Nat → Int32} {k_opened : Nat → Int32} {k_sumsA : Nat → Int64} {k_sumsB : Nat → Int64} {k_bringA : Nat → Nat → Int64} {k_bringB : Nat → Nat → Int64} {f : Nat → Int64} (k : Nat) (hk : k < 9) : (wd_Wa_start cA a_n a_k n_x n_y n_nodes n_aloneB n_pairA n_pairB k_groups k_opened k_sumsA k_sumsB k_bringA k_bringB).set (37 + k) (a_k (k + 16), .inl (cA 1, 9, .inr (.inl f))) = wd_Wa_start cA a_n a_k n_x n_y n_nodes n_aloneB n_pairA n_pairB k_groups k_opened k_sumsA k_sumsB k_bringA (va_up k_bringB k f) := by
  rcases lt9 hk with rfl | rfl | rfl | rfl | rfl | rfl | rfl | rfl | rfl <;> rfl
noncomputable def m_Wa_start (n_nodes : Int32) (n_aloneB : Int64) (n_pairA : Nat → Nat → Int64) (n_pairB : Nat → Nat → Int64) (k_groups : Nat → Int32) (k_opened : Nat → Int32) (k_sumsA : Nat → Int64) (k_sumsB : Nat → Int64) (k_bringA : Nat → Nat → Int64) (k_bringB : Nat → Nat → Int64) : Option ((Nat → Int32) × (Nat → Int32) × (Nat → Int64) × (Nat → Int64) × (Nat → Nat → Int64) × (Nat → Nat → Int64)) :=
  (if inb (0 : Int32) 10 then ((m_Wa_enterFrom n_nodes n_pairA n_pairB k_groups k_opened k_sumsA (vp_updL k_sumsB (0 : Int32).toNatClampNeg n_aloneB) k_bringA k_bringB (0 : Int32)).bind (fun r15 : (Nat → Int32) × (Nat → Int32) × (Nat → Int64) × (Nat → Int64) × (Nat → Nat → Int64) × (Nat → Nat → Int64) => some (r15.1, r15.2.1, r15.2.2.1, r15.2.2.2.1, r15.2.2.2.2.1, r15.2.2.2.2.2))) else none)
set_option maxHeartbeats 4000000 in
set_option maxRecDepth 100000 in
theorem c_Wa_start (l : Launch) (D : va_G) (cA : Nat → ClassId) (a_n a_k : Nat → Nat) (sz : Nat) (n_x : Int32) (n_y : Int32) (n_nodes : Int32) (n_aloneB : Int64) (n_pairA : Nat → Nat → Int64) (n_pairB : Nat → Nat → Int64) (k_groups : Nat → Int32) (k_opened : Nat → Int32) (k_sumsA : Nat → Int64) (k_sumsB : Nat → Int64) (k_bringA : Nat → Nat → Int64) (k_bringB : Nat → Nat → Int64)  (out : (Nat → Int32) × (Nat → Int32) × (Nat → Int64) × (Nat → Int64) × (Nat → Nat → Int64) × (Nat → Nat → Int64)) (h : m_Wa_start n_nodes n_aloneB n_pairA n_pairB k_groups k_opened k_sumsA k_sumsB k_bringA k_bringB = some out) : Met l y_Wa_start w_Wa_start ({ frames := 3, cells := 0, slots := 0, locals := 70 }) (va_Pc [.ref (a_k 0)] (fun U => U.heap.size = sz ∧ va_P D cls9 (wd_Wa_start cA a_n a_k n_x n_y n_nodes n_aloneB n_pairA n_pairB k_groups k_opened k_sumsA k_sumsB k_bringA k_bringB) U.heap ∧ va_K D cls9 (tys5 cA) U ∧ va_D (fun _ => True) (wd_Wa_start cA a_n a_k n_x n_y n_nodes n_aloneB n_pairA n_pairB k_groups k_opened k_sumsA k_sumsB k_bringA k_bringB))) (va_Qv (fun uu : (Nat → Int32) × (Nat → Int32) × (Nat → Int64) × (Nat → Int64) × (Nat → Nat → Int64) × (Nat → Nat → Int64) => uu = out) (fun (uu : (Nat → Int32) × (Nat → Int32) × (Nat → Int64) × (Nat → Int64) × (Nat → Nat → Int64) × (Nat → Nat → Int64)) (t : State) => va_P D cls9 (wd_Wa_start cA a_n a_k n_x n_y n_nodes n_aloneB n_pairA n_pairB uu.1 uu.2.1 uu.2.2.1 uu.2.2.2.1 uu.2.2.2.2.1 uu.2.2.2.2.2) t.heap ∧ va_K D cls9 (tys5 cA) t ∧ va_D (va_A (wd_Wa_start cA a_n a_k n_x n_y n_nodes n_aloneB n_pairA n_pairB k_groups k_opened k_sumsA k_sumsB k_bringA k_bringB) sz) (wd_Wa_start cA a_n a_k n_x n_y n_nodes n_aloneB n_pairA n_pairB uu.1 uu.2.1 uu.2.2.1 uu.2.2.2.1 uu.2.2.2.2.1 uu.2.2.2.2.2)) (va_A (wd_Wa_start cA a_n a_k n_x n_y n_nodes n_aloneB n_pairA n_pairB k_groups k_opened k_sumsA k_sumsB k_bringA k_bringB) sz)) 0 0 (va_A (wd_Wa_start cA a_n a_k n_x n_y n_nodes n_aloneB n_pairA n_pairB k_groups k_opened k_sumsA k_sumsB k_bringA k_bringB) sz) := by
  refine Met.ofW (cc := b_Wa_start) (maxL := 1) (ret := (Option.none : Option Jvm.ClassFile.FieldType)) (by decide) rfl ?_
  intro p e s m args below meth c s₁ B hml hv
  obtain ⟨rfl, hsz, hP, hK, hD0⟩ := hv
  have hx := B.exec
  have hb := B.bytes
  have hr := B.returns
  have hts := atoms_spec (ws := w_Wa_start) B.pre
  have hal : ∀ w ∈ ALLW, w.before _ s = true := fun w hw => hts w (List.mem_cons_of_mem _ hw)
  have hown : s.vm.findClass R_Wa = some m.cls := findClass_of_methodNamed B.named
  have hlocks := B.notSynchronized
  subst hsz
  have hD := hD0.self (sz := s.heap.size)
  generalize hAe : va_A (wd_Wa_start cA a_n a_k n_x n_y n_nodes n_aloneB n_pairA n_pairB k_groups k_opened k_sumsA k_sumsB k_bringA k_bringB) s.heap.size = A at hD ⊢
  have hA : ∀ q : Nat, s.heap.size ≤ q → A q := fun q h => by rw [← hAe]; exact Or.inr h
  have hS : va_S A s.heap s.heap [] := va_S.rf
  have hl := lv_entry ([.ref (a_k 0)]) (n := 1) (Nat.le_of_ble_eq_true rfl)
  rw [lg_entry_eq]
  generalize (lg_sl ([.ref (a_k 0)]) ++ List.replicate (1 - (lg_sl ([.ref (a_k 0)])).length) Slot.unset).toArray = ls at hl ⊢
  have hl : lv_has ls 1 [(0, .ref (a_k 0))] := hl
  refine wg (fun G hG => ?_)
  refine cast (hG _ _ _ _ _ _ _).symm ?_
  obtain ⟨H, locs, hHl, hS⟩ : ∃ (H : Heap) (locs : List Loc), (H = s.heap ∧ locs = []) ∧ va_S A s.heap H locs := ⟨s.heap, [], ⟨rfl, rfl⟩, hS⟩
  have hP : va_P D cls9 (wd_Wa_start cA a_n a_k n_x n_y n_nodes n_aloneB n_pairA n_pairB k_groups k_opened k_sumsA k_sumsB k_bringA k_bringB) H := by rw [hHl.1]; exact hP
  rw [← hHl.1, ← hHl.2]
  clear hHl
  refine lv_aload_n hx hb d_Wa_start_0 rfl (lv_at hl 0 rfl) ?_
  refine va_get (ci := 6) (v := .ref (a_k 4)) (C := R_Wa) (T := F_Wa) (N := 7) hx hb hal in_Wa hown hK hP 21 rfl rfl 4 (by decide) (hal _ kw_138) (fun _ h9 => h9) rfl d_Wa_start_1 ?_
  refine lv_iconst (v := 0) hx hb d_Wa_start_4 (by decide) ?_
  refine lv_aload_n hx hb d_Wa_start_5 rfl (lv_at hl 0 rfl) ?_
  refine va_get (ci := 6) (v := .ref (a_n 0)) (C := R_Wa) (T := F_Wa) (N := 7) hx hb hal in_Wa hown hK hP 21 rfl rfl 0 (by decide) (hal _ kw_134) (fun _ h9 => h9) rfl d_Wa_start_6 ?_
  refine va_get (ci := 0) (v := .long n_aloneB) (C := R_Ga) (T := F_Ga) (N := 9) hx hb hal in_Ga hown hK hP 0 rfl rfl 3 (by decide) (hal _ kw_74) (fun _ h9 => h9) rfl d_Wa_start_9 ?_
  obtain ⟨g_1, h⟩ := gd h
  refine va_last hx hb hK hP hD hS 25 1 rfl rfl (inb_in g_1) d_Wa_start_12 (fun H locs hP hD hS => ?_)
  have hP : va_P D cls9 (wd_Wa_start cA a_n a_k n_x n_y n_nodes n_aloneB n_pairA n_pairB k_groups k_opened k_sumsA (vp_updL k_sumsB (0 : Int32).toNatClampNeg n_aloneB) k_bringA k_bringB) H := hP
  have hD : va_D A (wd_Wa_start cA a_n a_k n_x n_y n_nodes n_aloneB n_pairA n_pairB k_groups k_opened k_sumsA (vp_updL k_sumsB (0 : Int32).toNatClampNeg n_aloneB) k_bringA k_bringB) := hD
  refine lv_aload_n hx hb d_Wa_start_13 rfl (lv_at hl 0 rfl) ?_
  refine lv_iconst (v := 0) hx hb d_Wa_start_14 (by decide) ?_
  obtain ⟨o_11, hc_10, h⟩ := bd h
  have hPc := hP.sub (ws' := (wd_Wa_enterFrom cA a_n a_k n_x n_y n_nodes n_aloneB n_pairA n_pairB k_groups k_opened k_sumsA (vp_updL k_sumsB (0 : Int32).toNatClampNeg n_aloneB) k_bringA k_bringB)) [0, 1, 2, 3, 4, 5, 6, 7, 8, 9, 10, 11, 12, 13, 14, 15, 16, 17, 18, 19, 20, 21, 22, 23, 24, 25, 26, 27, 28, 29, 30, 31, 32, 33, 34, 35, 36, 37, 38, 39, 40, 41, 42, 43, 44, 45] rfl
  have hDc := hD.sub (ws' := (wd_Wa_enterFrom cA a_n a_k n_x n_y n_nodes n_aloneB n_pairA n_pairB k_groups k_opened k_sumsA (vp_updL k_sumsB (0 : Int32).toNatClampNeg n_aloneB) k_bringA k_bringB)) [0, 1, 2, 3, 4, 5, 6, 7, 8, 9, 10, 11, 12, 13, 14, 15, 16, 17, 18, 19, 20, 21, 22, 23, 24, 25, 26, 27, 28, 29, 30, 31, 32, 33, 34, 35, 36, 37, 38, 39, 40, 41, 42, 43, 44, 45] (by decide) rfl
  have hFc := va_free (wc := (wd_Wa_enterFrom cA a_n a_k n_x n_y n_nodes n_aloneB n_pairA n_pairB k_groups k_opened k_sumsA (vp_updL k_sumsB (0 : Int32).toNatClampNeg n_aloneB) k_bringA k_bringB)) hD hS hA [0, 1, 2, 3, 4, 5, 6, 7, 8, 9, 10, 11, 12, 13, 14, 15, 16, 17, 18, 19, 20, 21, 22, 23, 24, 25, 26, 27, 28, 29, 30, 31, 32, 33, 34, 35, 36, 37, 38, 39, 40, 41, 42, 43, 44, 45] rfl
  refine va_callv (va_runV (C := R_Wa) (As := [.int (0 : Int32)]) (rest := []) ⟨hx, hb, hml, hown, hal⟩ (c_Wa_enterFrom l D cA a_n a_k H.size n_x n_y n_nodes n_aloneB n_pairA n_pairB k_groups k_opened k_sumsA (vp_updL k_sumsB (0 : Int32).toNatClampNeg n_aloneB) k_bringA k_bringB (0 : Int32) o_11 hc_10) (cwV 1 hal (goodV kw_462 kw_464 kw_p10 kw_5 kw_465) rfl rfl rfl (by decide +kernel) ⟨Nat.le_of_ble_eq_true rfl, Nat.le_of_ble_eq_true rfl⟩) ⟨fun a U g mk q => by obtain ⟨q0, q1, qP, qK, qD⟩ := q; exact ⟨q0, q1, qP, va_K.moved (u := U) (U := U.calling g mk a) (Vm.Alike.refl U.vm) qK, qD⟩, va_recv hK hP (ci := 6) (q0 := 21) rfl rfl, fun U hU hW => ⟨rfl, by rw [hU], by rw [hU]; exact hPc, va_K.moved hW.alike hK, hDc.weaken (fun _ _ _ _ => trivial)⟩⟩ rfl rfl hl.1 rfl (lv_room (Nat.le_of_ble_eq_true rfl)) d_Wa_start_15 ⟨Nat.le_of_ble_eq_true rfl, Nat.le_of_ble_eq_true rfl⟩) hS (fun q _ h => hFc q h) hFc (fun u t H1 locs ht hvm hw hB hz1 hk1 hS => ?_)
  obtain ⟨u_4, u_5, u_6, u_7, u_8, u_9⟩ := u
  subst hw
  obtain ⟨hP1, hK1, hD1⟩ := hB
  rw [ht] at hP1
  have hP1 : va_P D cls9 (wd_Wa_enterFrom cA a_n a_k n_x n_y n_nodes n_aloneB n_pairA n_pairB u_4 u_5 u_6 u_7 u_8 u_9) H1 := hP1
  obtain ⟨hP, hD⟩ := va_join (wr := ([] : List Nat).filterMap (fun i => (wd_Wa_start cA a_n a_k n_x n_y n_nodes n_aloneB n_pairA n_pairB k_groups k_opened k_sumsA (vp_updL k_sumsB (0 : Int32).toNatClampNeg n_aloneB) k_bringA k_bringB)[i]?)) (w1 := (wd_Wa_enterFrom cA a_n a_k n_x n_y n_nodes n_aloneB n_pairA n_pairB u_4 u_5 u_6 u_7 u_8 u_9)) hP hD [0, 1, 2, 3, 4, 5, 6, 7, 8, 9, 10, 11, 12, 13, 14, 15, 16, 17, 18, 19, 20, 21, 22, 23, 24, 25, 26, 27, 28, 29, 30, 31, 32, 33, 34, 35, 36, 37, 38, 39, 40, 41, 42, 43, 44, 45] [] rfl rfl (by decide) (by decide) hk1 hFc hP1 hD1
  generalize H1 = H at hP hS ⊢
  have hP : va_P D cls9 (wd_Wa_start cA a_n a_k n_x n_y n_nodes n_aloneB n_pairA n_pairB u_4 u_5 u_6 u_7 u_8 u_9) H := hP.sub [0, 1, 2, 3, 4, 5, 6, 7, 8, 9, 10, 11, 12, 13, 14, 15, 16, 17, 18, 19, 20, 21, 22, 23, 24, 25, 26, 27, 28, 29, 30, 31, 32, 33, 34, 35, 36, 37, 38, 39, 40, 41, 42, 43, 44, 45] rfl
  have hD : va_D A (wd_Wa_start cA a_n a_k n_x n_y n_nodes n_aloneB n_pairA n_pairB u_4 u_5 u_6 u_7 u_8 u_9) := hD.sub [0, 1, 2, 3, 4, 5, 6, 7, 8, 9, 10, 11, 12, 13, 14, 15, 16, 17, 18, 19, 20, 21, 22, 23, 24, 25, 26, 27, 28, 29, 30, 31, 32, 33, 34, 35, 36, 37, 38, 39, 40, 41, 42, 43, 44, 45] (by decide) rfl
  exact W.vret hx hb hr (fun t ht hW => ⟨⟨(u_4, u_5, u_6, u_7, u_8, u_9), rfl, Option.some.inj h, by rw [ht]; exact hP, va_K.moved hW.alike hK, hD⟩, hS.F ht⟩) hS.2.2 d_Wa_start_18
def wd_Wa_step (cA : Nat → ClassId) (a_n a_k : Nat → Nat) (n_x : Int32) (n_y : Int32) (n_nodes : Int32) (n_aloneB : Int64) (n_pairA : Nat → Nat → Int64) (n_pairB : Nat → Nat → Int64) (k_groups : Nat → Int32) (k_opened : Nat → Int32) (k_sumsA : Nat → Int64) (k_sumsB : Nat → Int64) (k_bringA : Nat → Nat → Int64) (k_bringB : Nat → Nat → Int64) : va_W := [(a_n 0, .inr (0, [.int n_x, .int n_y, .int n_nodes, .long n_aloneB, .ref (a_n 1), .ref (a_n 11), .ref (a_n 21), .ref (a_n 31), .ref (a_n 32)])), (a_n 1, .inl (cA 4, 9, .inr (.inr (.inr (.inr (fun i => if i < 9 then some (a_n (i + 2)) else none)))))), (a_n (0 + 2), .inl (cA 1, 9, .inr (.inl (n_pairA 0)))), (a_n (1 + 2), .inl (cA 1, 9, .inr (.inl (n_pairA 1)))), (a_n (2 + 2), .inl (cA 1, 9, .inr (.inl (n_pairA 2)))), (a_n (3 + 2), .inl (cA 1, 9, .inr (.inl (n_pairA 3)))), (a_n (4 + 2), .inl (cA 1, 9, .inr (.inl (n_pairA 4)))), (a_n (5 + 2), .inl (cA 1, 9, .inr (.inl (n_pairA 5)))), (a_n (6 + 2), .inl (cA 1, 9, .inr (.inl (n_pairA 6)))), (a_n (7 + 2), .inl (cA 1, 9, .inr (.inl (n_pairA 7)))), (a_n (8 + 2), .inl (cA 1, 9, .inr (.inl (n_pairA 8)))), (a_n 11, .inl (cA 4, 9, .inr (.inr (.inr (.inr (fun i => if i < 9 then some (a_n (i + 12)) else none)))))), (a_n (0 + 12), .inl (cA 1, 9, .inr (.inl (n_pairB 0)))), (a_n (1 + 12), .inl (cA 1, 9, .inr (.inl (n_pairB 1)))), (a_n (2 + 12), .inl (cA 1, 9, .inr (.inl (n_pairB 2)))), (a_n (3 + 12), .inl (cA 1, 9, .inr (.inl (n_pairB 3)))), (a_n (4 + 12), .inl (cA 1, 9, .inr (.inl (n_pairB 4)))), (a_n (5 + 12), .inl (cA 1, 9, .inr (.inl (n_pairB 5)))), (a_n (6 + 12), .inl (cA 1, 9, .inr (.inl (n_pairB 6)))), (a_n (7 + 12), .inl (cA 1, 9, .inr (.inl (n_pairB 7)))), (a_n (8 + 12), .inl (cA 1, 9, .inr (.inl (n_pairB 8)))), (a_k 0, .inr (6, [.ref (a_n 0), .ref (a_k 1), .ref (a_k 2), .ref (a_k 3), .ref (a_k 4), .ref (a_k 5), .ref (a_k 15)])), (a_k 1, .inl (cA 0, 9, .inl k_groups)), (a_k 2, .inl (cA 0, 10, .inl k_opened)), (a_k 3, .inl (cA 1, 10, .inr (.inl k_sumsA))), (a_k 4, .inl (cA 1, 10, .inr (.inl k_sumsB))), (a_k 5, .inl (cA 4, 9, .inr (.inr (.inr (.inr (fun i => if i < 9 then some (a_k (i + 6)) else none)))))), (a_k (0 + 6), .inl (cA 1, 9, .inr (.inl (k_bringA 0)))), (a_k (1 + 6), .inl (cA 1, 9, .inr (.inl (k_bringA 1)))), (a_k (2 + 6), .inl (cA 1, 9, .inr (.inl (k_bringA 2)))), (a_k (3 + 6), .inl (cA 1, 9, .inr (.inl (k_bringA 3)))), (a_k (4 + 6), .inl (cA 1, 9, .inr (.inl (k_bringA 4)))), (a_k (5 + 6), .inl (cA 1, 9, .inr (.inl (k_bringA 5)))), (a_k (6 + 6), .inl (cA 1, 9, .inr (.inl (k_bringA 6)))), (a_k (7 + 6), .inl (cA 1, 9, .inr (.inl (k_bringA 7)))), (a_k (8 + 6), .inl (cA 1, 9, .inr (.inl (k_bringA 8)))), (a_k 15, .inl (cA 4, 9, .inr (.inr (.inr (.inr (fun i => if i < 9 then some (a_k (i + 16)) else none)))))), (a_k (0 + 16), .inl (cA 1, 9, .inr (.inl (k_bringB 0)))), (a_k (1 + 16), .inl (cA 1, 9, .inr (.inl (k_bringB 1)))), (a_k (2 + 16), .inl (cA 1, 9, .inr (.inl (k_bringB 2)))), (a_k (3 + 16), .inl (cA 1, 9, .inr (.inl (k_bringB 3)))), (a_k (4 + 16), .inl (cA 1, 9, .inr (.inl (k_bringB 4)))), (a_k (5 + 16), .inl (cA 1, 9, .inr (.inl (k_bringB 5)))), (a_k (6 + 16), .inl (cA 1, 9, .inr (.inl (k_bringB 6)))), (a_k (7 + 16), .inl (cA 1, 9, .inr (.inl (k_bringB 7)))), (a_k (8 + 16), .inl (cA 1, 9, .inr (.inl (k_bringB 8))))]
theorem row_Wa_step_n_pairA {cA : Nat → ClassId} {a_n a_k : Nat → Nat} {n_x : Int32} {n_y : Int32} {n_nodes : Int32} {n_aloneB : Int64} {n_pairB : Nat → Nat → Int64} {k_groups : Nat → Int32} {k_opened : Nat → Int32} {k_sumsA : Nat → Int64} {k_sumsB : Nat → Int64} {k_bringA : Nat → Nat → Int64} {k_bringB : Nat → Nat → Int64} (n_pairA : Nat → Nat → Int64) (k : Nat) (hk : k < 9) : (wd_Wa_step cA a_n a_k n_x n_y n_nodes n_aloneB n_pairA n_pairB k_groups k_opened k_sumsA k_sumsB k_bringA k_bringB)[2 + k]? = some (a_n (k + 2), .inl (cA 1, 9, .inr (.inl (n_pairA k)))) := by
  rcases lt9 hk with rfl | rfl | rfl | rfl | rfl | rfl | rfl | rfl | rfl <;> rfl
theorem set_Wa_step_n_pairA {cA : Nat → ClassId} {a_n a_k : Nat → Nat} {n_x : Int32} {n_y : Int32} {n_nodes : Int32} {n_aloneB : Int64} {n_pairB : Nat → Nat → Int64} {k_groups : Nat → Int32} {k_opened : Nat → Int32} {k_sumsA : Nat → Int64} {k_sumsB : Nat → Int64} {k_bringA : Nat → Nat → Int64} {k_bringB : Nat → Nat → Int64} {n_pairA : Nat → Nat → Int64} {f : Nat → Int64} (k : Nat) (hk : k < 9) : (wd_Wa_step cA a_n a_k n_x n_y n_nodes n_aloneB n_pairA n_pairB k_groups k_opened k_sumsA k_sumsB k_bringA k_bringB).set (2 + k) (a_n (k + 2), .inl (cA 1, 9, .inr (.inl f))) = wd_Wa_step cA a_n a_k n_x n_y n_nodes n_aloneB (va_up n_pairA k f) n_pairB k_groups k_opened k_sumsA k_sumsB k_bringA k_bringB := by
  rcases lt9 hk with rfl | rfl | rfl | rfl | rfl | rfl | rfl | rfl | rfl <;> rfl
theorem row_Wa_step_n_pairB {cA : Nat → ClassId} {a_n a_k : Nat → Nat} {n_x : Int32} {n_y : Int32} {n_nodes : Int32} {n_aloneB : Int64} {n_pairA : Nat → Nat → Int64} {k_groups : Nat → Int32} {k_opened : Nat → Int32} {k_sumsA : Nat → Int64} {k_sumsB : Nat → Int64} {k_bringA : Nat → Nat → Int64} {k_bringB : Nat → Nat → Int64} (n_pairB : Nat → Nat → Int64) (k : Nat) (hk : k < 9) : (wd_Wa_step cA a_n a_k n_x n_y n_nodes n_aloneB n_pairA n_pairB k_groups k_opened k_sumsA k_sumsB k_bringA k_bringB)[12 + k]? = some (a_n (k + 12), .inl (cA 1, 9, .inr (.inl (n_pairB k)))) := by
  rcases lt9 hk with rfl | rfl | rfl | rfl | rfl | rfl | rfl | rfl | rfl <;> rfl
theorem set_Wa_step_n_pairB {cA : Nat → ClassId} {a_n a_k : Nat → Nat} {n_x : Int32} {n_y : Int32} {n_nodes : Int32} {n_aloneB : Int64} {n_pairA : Nat → Nat → Int64} {k_groups : Nat → Int32} {k_opened : Nat → Int32} {k_sumsA : Nat → Int64} {k_sumsB : Nat → Int64} {k_bringA : Nat → Nat → Int64} {k_bringB : Nat → Nat → Int64} {n_pairB : Nat → Nat → Int64} {f : Nat → Int64} (k : Nat) (hk : k < 9) : (wd_Wa_step cA a_n a_k n_x n_y n_nodes n_aloneB n_pairA n_pairB k_groups k_opened k_sumsA k_sumsB k_bringA k_bringB).set (12 + k) (a_n (k + 12), .inl (cA 1, 9, .inr (.inl f))) = wd_Wa_step cA a_n a_k n_x n_y n_nodes n_aloneB n_pairA (va_up n_pairB k f) k_groups k_opened k_sumsA k_sumsB k_bringA k_bringB := by
  rcases lt9 hk with rfl | rfl | rfl | rfl | rfl | rfl | rfl | rfl | rfl <;> rfl
theorem row_Wa_step_k_bringA {cA : Nat → ClassId} {a_n a_k : Nat → Nat} {n_x : Int32} {n_y : Int32} {n_nodes : Int32} {n_aloneB : Int64} {n_pairA : Nat → Nat → Int64} {n_pairB : Nat → Nat → Int64} {k_groups : Nat → Int32} {k_opened : Nat → Int32} {k_sumsA : Nat → Int64} {k_sumsB : Nat → Int64} {k_bringB : Nat → Nat → Int64} (k_bringA : Nat → Nat → Int64) (k : Nat) (hk : k < 9) : (wd_Wa_step cA a_n a_k n_x n_y n_nodes n_aloneB n_pairA n_pairB k_groups k_opened k_sumsA k_sumsB k_bringA k_bringB)[27 + k]? = some (a_k (k + 6), .inl (cA 1, 9, .inr (.inl (k_bringA k)))) := by
  rcases lt9 hk with rfl | rfl | rfl | rfl | rfl | rfl | rfl | rfl | rfl <;> rfl
theorem set_Wa_step_k_bringA {cA : Nat → ClassId} {a_n a_k : Nat → Nat} {n_x : Int32} {n_y : Int32} {n_nodes : Int32} {n_aloneB : Int64} {n_pairA : Nat → Nat → Int64} {n_pairB : Nat → Nat → Int64} {k_groups : Nat → Int32} {k_opened : Nat → Int32} {k_sumsA : Nat → Int64} {k_sumsB : Nat → Int64} {k_bringB : Nat → Nat → Int64} {k_bringA : Nat → Nat → Int64} {f : Nat → Int64} (k : Nat) (hk : k < 9) : (wd_Wa_step cA a_n a_k n_x n_y n_nodes n_aloneB n_pairA n_pairB k_groups k_opened k_sumsA k_sumsB k_bringA k_bringB).set (27 + k) (a_k (k + 6), .inl (cA 1, 9, .inr (.inl f))) = wd_Wa_step cA a_n a_k n_x n_y n_nodes n_aloneB n_pairA n_pairB k_groups k_opened k_sumsA k_sumsB (va_up k_bringA k f) k_bringB := by
  rcases lt9 hk with rfl | rfl | rfl | rfl | rfl | rfl | rfl | rfl | rfl <;> rfl
theorem row_Wa_step_k_bringB {cA : Nat → ClassId} {a_n a_k : Nat → Nat} {n_x : Int32} {n_y : Int32} {n_nodes : Int32} {n_aloneB : Int64} {n_pairA : Nat → Nat → Int64} {n_pairB : Nat → Nat → Int64} {k_groups : Nat → Int32} {k_opened : Nat → Int32} {k_sumsA : Nat → Int64} {k_sumsB : Nat → Int64} {k_bringA : Nat → Nat → Int64} (k_bringB : Nat → Nat → Int64) (k : Nat) (hk : k < 9) : (wd_Wa_step cA a_n a_k n_x n_y n_nodes n_aloneB n_pairA n_pairB k_groups k_opened k_sumsA k_sumsB k_bringA k_bringB)[37 + k]? = some (a_k (k + 16), .inl (cA 1, 9, .inr (.inl (k_bringB k)))) := by
  rcases lt9 hk with rfl | rfl | rfl | rfl | rfl | rfl | rfl | rfl | rfl <;> rfl
theorem set_Wa_step_k_bringB {cA : Nat → ClassId} {a_n a_k : Nat → Nat} {n_x : Int32} {n_y : Int32} {n_nodes : Int32} {n_aloneB : Int64} {n_pairA : Nat → Nat → Int64} {n_pairB : Nat → Nat → Int64} {k_groups : Nat → Int32} {k_opened : Nat → Int32} {k_sumsA : Nat → Int64} {k_sumsB : Nat → Int64} {k_bringA : Nat → Nat → Int64} {k_bringB : Nat → Nat → Int64} {f : Nat → Int64} (k : Nat) (hk : k < 9) : (wd_Wa_step cA a_n a_k n_x n_y n_nodes n_aloneB n_pairA n_pairB k_groups k_opened k_sumsA k_sumsB k_bringA k_bringB).set (37 + k) (a_k (k + 16), .inl (cA 1, 9, .inr (.inl f))) = wd_Wa_step cA a_n a_k n_x n_y n_nodes n_aloneB n_pairA n_pairB k_groups k_opened k_sumsA k_sumsB k_bringA (va_up k_bringB k f) := by
  rcases lt9 hk with rfl | rfl | rfl | rfl | rfl | rfl | rfl | rfl | rfl <;> rfl
noncomputable def s_Wa_step_10 (k_bringA : Nat → Nat → Int64) (k_bringB : Nat → Nat → Int64) (k_groups : Nat → Int32) (k_opened : Nat → Int32) (k_sumsA : Nat → Int64) (k_sumsB : Nat → Int64) (n_nodes : Int32) (n_pairA : Nat → Nat → Int64) (n_pairB : Nat → Nat → Int64) (zz : Int32) (back exit : Int32 → Option (Int32 × (Nat → Int32) × (Nat → Int32) × (Nat → Int64) × (Nat → Int64) × (Nat → Nat → Int64) × (Nat → Nat → Int64))) : Option (Int32 × (Nat → Int32) × (Nat → Int32) × (Nat → Int64) × (Nat → Int64) × (Nat → Nat → Int64) × (Nat → Nat → Int64)) :=
  (if zz ≤ 0 then (exit zz) else (if inb zz 9 then (if inb zz 10 then (if (k_opened zz.toNatClampNeg) ≤ (k_groups zz.toNatClampNeg) then (back (zz + (-1))) else ((m_Wa_settle (upd k_groups zz.toNatClampNeg ((k_groups zz.toNatClampNeg) + (1 : Int32))) k_opened k_sumsA k_sumsB k_bringA k_bringB zz).bind (fun r41 : (Nat → Int32) × (Nat → Int64) × (Nat → Int64) => ((m_Wa_enterFrom n_nodes n_pairA n_pairB (upd k_groups zz.toNatClampNeg ((k_groups zz.toNatClampNeg) + (1 : Int32))) r41.1 r41.2.1 r41.2.2 k_bringA k_bringB (zz + (1 : Int32))).bind (fun r48 : (Nat → Int32) × (Nat → Int32) × (Nat → Int64) × (Nat → Int64) × (Nat → Nat → Int64) × (Nat → Nat → Int64) => some ((1 : Int32), r48.1, r48.2.1, r48.2.2.1, r48.2.2.2.1, r48.2.2.2.2.1, r48.2.2.2.2.2)))))) else none) else none))
noncomputable def m_Wa_step (n_nodes : Int32) (n_pairA : Nat → Nat → Int64) (n_pairB : Nat → Nat → Int64) (k_groups : Nat → Int32) (k_opened : Nat → Int32) (k_sumsA : Nat → Int64) (k_sumsB : Nat → Int64) (k_bringA : Nat → Nat → Int64) (k_bringB : Nat → Nat → Int64) : Option (Int32 × (Nat → Int32) × (Nat → Int32) × (Nat → Int64) × (Nat → Int64) × (Nat → Nat → Int64) × (Nat → Nat → Int64)) :=
  (loopC (s_Wa_step_10 k_bringA k_bringB k_groups k_opened k_sumsA k_sumsB n_nodes n_pairA n_pairB) (fun z10 : Int32 => some ((0 : Int32), k_groups, k_opened, k_sumsA, k_sumsB, k_bringA, k_bringB)) FU (n_nodes - (1 : Int32)))
set_option maxHeartbeats 4000000 in
set_option maxRecDepth 100000 in
theorem c_Wa_step (l : Launch) (D : va_G) (cA : Nat → ClassId) (a_n a_k : Nat → Nat) (sz : Nat) (n_x : Int32) (n_y : Int32) (n_nodes : Int32) (n_aloneB : Int64) (n_pairA : Nat → Nat → Int64) (n_pairB : Nat → Nat → Int64) (k_groups : Nat → Int32) (k_opened : Nat → Int32) (k_sumsA : Nat → Int64) (k_sumsB : Nat → Int64) (k_bringA : Nat → Nat → Int64) (k_bringB : Nat → Nat → Int64)  (out : Int32 × (Nat → Int32) × (Nat → Int32) × (Nat → Int64) × (Nat → Int64) × (Nat → Nat → Int64) × (Nat → Nat → Int64)) (h : m_Wa_step n_nodes n_pairA n_pairB k_groups k_opened k_sumsA k_sumsB k_bringA k_bringB = some out) : Met l y_Wa_step w_Wa_step ({ frames := 3, cells := 0, slots := 0, locals := 70 }) (va_Pc [.ref (a_k 0)] (fun U => U.heap.size = sz ∧ va_P D cls9 (wd_Wa_step cA a_n a_k n_x n_y n_nodes n_aloneB n_pairA n_pairB k_groups k_opened k_sumsA k_sumsB k_bringA k_bringB) U.heap ∧ va_K D cls9 (tys5 cA) U ∧ va_D (fun _ => True) (wd_Wa_step cA a_n a_k n_x n_y n_nodes n_aloneB n_pairA n_pairB k_groups k_opened k_sumsA k_sumsB k_bringA k_bringB))) (va_Qi (fun (rr : Int32) (uu : (Nat → Int32) × (Nat → Int32) × (Nat → Int64) × (Nat → Int64) × (Nat → Nat → Int64) × (Nat → Nat → Int64)) => (rr, uu) = out) (fun (uu : (Nat → Int32) × (Nat → Int32) × (Nat → Int64) × (Nat → Int64) × (Nat → Nat → Int64) × (Nat → Nat → Int64)) (t : State) => va_P D cls9 (wd_Wa_step cA a_n a_k n_x n_y n_nodes n_aloneB n_pairA n_pairB uu.1 uu.2.1 uu.2.2.1 uu.2.2.2.1 uu.2.2.2.2.1 uu.2.2.2.2.2) t.heap ∧ va_K D cls9 (tys5 cA) t ∧ va_D (va_A (wd_Wa_step cA a_n a_k n_x n_y n_nodes n_aloneB n_pairA n_pairB k_groups k_opened k_sumsA k_sumsB k_bringA k_bringB) sz) (wd_Wa_step cA a_n a_k n_x n_y n_nodes n_aloneB n_pairA n_pairB uu.1 uu.2.1 uu.2.2.1 uu.2.2.2.1 uu.2.2.2.2.1 uu.2.2.2.2.2)) (va_A (wd_Wa_step cA a_n a_k n_x n_y n_nodes n_aloneB n_pairA n_pairB k_groups k_opened k_sumsA k_sumsB k_bringA k_bringB) sz)) 0 0 (va_A (wd_Wa_step cA a_n a_k n_x n_y n_nodes n_aloneB n_pairA n_pairB k_groups k_opened k_sumsA k_sumsB k_bringA k_bringB) sz) := by
  refine Met.ofW (cc := b_Wa_step) (maxL := 2) (ret := (Option.some Jvm.ClassFile.FieldType.boolean)) (by decide) rfl ?_
  intro p e s m args below meth c s₁ B hml hv
  obtain ⟨rfl, hsz, hP, hK, hD0⟩ := hv
  have hx := B.exec
  have hb := B.bytes
  have hr := B.returns
  have hts := atoms_spec (ws := w_Wa_step) B.pre
  have hal : ∀ w ∈ ALLW, w.before _ s = true := fun w hw => hts w (List.mem_cons_of_mem _ hw)
  have hown : s.vm.findClass R_Wa = some m.cls := findClass_of_methodNamed B.named
  have hlocks := B.notSynchronized
  subst hsz
  have hD := hD0.self (sz := s.heap.size)
  generalize hAe : va_A (wd_Wa_step cA a_n a_k n_x n_y n_nodes n_aloneB n_pairA n_pairB k_groups k_opened k_sumsA k_sumsB k_bringA k_bringB) s.heap.size = A at hD ⊢
  have hA : ∀ q : Nat, s.heap.size ≤ q → A q := fun q h => by rw [← hAe]; exact Or.inr h
  have hS : va_S A s.heap s.heap [] := va_S.rf
  have hl := lv_entry ([.ref (a_k 0)]) (n := 2) (Nat.le_of_ble_eq_true rfl)
  rw [lg_entry_eq]
  generalize (lg_sl ([.ref (a_k 0)]) ++ List.replicate (2 - (lg_sl ([.ref (a_k 0)])).length) Slot.unset).toArray = ls at hl ⊢
  have hl : lv_has ls 2 [(0, .ref (a_k 0))] := hl
  refine wg (fun G hG => ?_)
  refine cast (hG _ _ _ _ _ _ _).symm ?_
  obtain ⟨H, locs, hHl, hS⟩ : ∃ (H : Heap) (locs : List Loc), (H = s.heap ∧ locs = []) ∧ va_S A s.heap H locs := ⟨s.heap, [], ⟨rfl, rfl⟩, hS⟩
  have hP : va_P D cls9 (wd_Wa_step cA a_n a_k n_x n_y n_nodes n_aloneB n_pairA n_pairB k_groups k_opened k_sumsA k_sumsB k_bringA k_bringB) H := by rw [hHl.1]; exact hP
  rw [← hHl.1, ← hHl.2]
  clear hHl
  refine lv_aload_n hx hb d_Wa_step_0 rfl (lv_at hl 0 rfl) ?_
  refine va_get (ci := 6) (v := .ref (a_n 0)) (C := R_Wa) (T := F_Wa) (N := 7) hx hb hal in_Wa hown hK hP 21 rfl rfl 0 (by decide) (hal _ kw_134) (fun _ h9 => h9) rfl d_Wa_step_1 ?_
  refine va_get (ci := 0) (v := .int n_nodes) (C := R_Ga) (T := F_Ga) (N := 9) hx hb hal in_Ga hown hK hP 0 rfl rfl 2 (by decide) (hal _ kw_73) (fun _ h9 => h9) rfl d_Wa_step_4 ?_
  refine lv_iconst (v := 1) hx hb d_Wa_step_7 (by decide) ?_
  refine lv_isub hx hb d_Wa_step_8 ?_
  refine lv_istore_n (lv' := [(1, .int (n_nodes - (1 : Int32))), (0, .ref (a_k 0))]) hx hb d_Wa_step_9 rfl hl (by decide) rfl (fun ls hl => ?_)
  refine cast (hG _ _ _ _ _ _ _) (lp_go2 h (fun zz : Int32 => ∀ (H : Heap) (locs : List Loc) (ls : Array Slot), va_P D cls9 (wd_Wa_step cA a_n a_k n_x n_y n_nodes n_aloneB n_pairA n_pairB k_groups k_opened k_sumsA k_sumsB k_bringA k_bringB) H → va_D A (wd_Wa_step cA a_n a_k n_x n_y n_nodes n_aloneB n_pairA n_pairB k_groups k_opened k_sumsA k_sumsB k_bringA k_bringB) → va_S A s.heap H locs → lv_has ls 2 [(1, .int zz), (0, .ref (a_k 0))] → G H locs 0 0 ls 59 []) ?_ (fun zz : Int32 => ∀ (H : Heap) (locs : List Loc) (ls : Array Slot), va_P D cls9 (wd_Wa_step cA a_n a_k n_x n_y n_nodes n_aloneB n_pairA n_pairB k_groups k_opened k_sumsA k_sumsB k_bringA k_bringB) H → va_D A (wd_Wa_step cA a_n a_k n_x n_y n_nodes n_aloneB n_pairA n_pairB k_groups k_opened k_sumsA k_sumsB k_bringA k_bringB) → va_S A s.heap H locs → lv_has ls 2 [(1, .int zz), (0, .ref (a_k 0))] → G H locs 0 0 ls 10 []) ?_ _ _ ls hP hD hS (lv_sub hl [0, 1] rfl))
  · intro zz h H locs ls hP hD hS hl
    obtain ⟨x1_10e, rfl⟩ : ∃ q, q = zz := ⟨_, rfl⟩
    have hP : va_P D cls9 (wd_Wa_step cA a_n a_k n_x n_y n_nodes n_aloneB n_pairA n_pairB k_groups k_opened k_sumsA k_sumsB k_bringA k_bringB) H := hP
    have hD : va_D A (wd_Wa_step cA a_n a_k n_x n_y n_nodes n_aloneB n_pairA n_pairB k_groups k_opened k_sumsA k_sumsB k_bringA k_bringB) := hD
    have hl : lv_has ls 2 [(1, .int x1_10e), (0, .ref (a_k 0))] := hl
    refine cast (hG _ _ _ _ _ _ _).symm ?_
    refine lv_iconst (v := 0) hx hb d_Wa_step_59 (by decide) ?_
    exact W.zret (v := (0 : Int32)) hx hb hr (by decide) (fun t ht hW => ⟨⟨(0 : Int32), (k_groups, k_opened, k_sumsA, k_sumsB, k_bringA, k_bringB), rfl, Option.some.inj h, by rw [ht]; exact hP, va_K.moved hW.alike hK, hD⟩, hS.F ht⟩) hS.2.2 d_Wa_step_60
  · intro back exit zz hB_10 hE_10 h H locs ls hP hD hS hl
    obtain ⟨x1_10, rfl⟩ : ∃ q, q = zz := ⟨_, rfl⟩
    have hP : va_P D cls9 (wd_Wa_step cA a_n a_k n_x n_y n_nodes n_aloneB n_pairA n_pairB k_groups k_opened k_sumsA k_sumsB k_bringA k_bringB) H := hP
    have hD : va_D A (wd_Wa_step cA a_n a_k n_x n_y n_nodes n_aloneB n_pairA n_pairB k_groups k_opened k_sumsA k_sumsB k_bringA k_bringB) := hD
    have hl : lv_has ls 2 [(1, .int x1_10), (0, .ref (a_k 0))] := hl
    refine cast (hG _ _ _ _ _ _ _).symm ?_
    refine lv_iload_n hx hb d_Wa_step_10 rfl (lv_at hl 0 rfl) ?_
    refine lv_if_le (tgt := 59) hx hb d_Wa_step_11 (by decide) (fun c_1 => ?_) (fun c_1 => ?_)
    · have h := ifp (c_1) h
      exact cast (hG _ _ _ _ _ _ _) (hE_10 x1_10 h _ _ _ hP hD hS (lv_sub hl [0, 1] rfl))
    · have h := ifn (c_1) h
      refine lv_aload_n hx hb d_Wa_step_14 rfl (lv_at hl 1 rfl) ?_
      refine va_get (ci := 6) (v := .ref (a_k 1)) (C := R_Wa) (T := F_Wa) (N := 7) hx hb hal in_Wa hown hK hP 21 rfl rfl 1 (by decide) (hal _ kw_135) (fun _ h9 => h9) rfl d_Wa_step_15 ?_
      refine lv_iload_n hx hb d_Wa_step_18 rfl (lv_at hl 0 rfl) ?_
      obtain ⟨g_2, h⟩ := gd h
      refine va_iald hx hb hK hP 22 0 rfl rfl (inb_in g_2) d_Wa_step_19 ?_
      refine lv_aload_n hx hb d_Wa_step_20 rfl (lv_at hl 1 rfl) ?_
      refine va_get (ci := 6) (v := .ref (a_k 2)) (C := R_Wa) (T := F_Wa) (N := 7) hx hb hal in_Wa hown hK hP 21 rfl rfl 2 (by decide) (hal _ kw_136) (fun _ h9 => h9) rfl d_Wa_step_21 ?_
      refine lv_iload_n hx hb d_Wa_step_24 rfl (lv_at hl 0 rfl) ?_
      obtain ⟨g_3, h⟩ := gd h
      refine va_iald hx hb hK hP 23 0 rfl rfl (inb_in g_3) d_Wa_step_25 ?_
      refine lv_icmp_ge (tgt := 53) hx hb d_Wa_step_26 (by decide) (fun c_4 => ?_) (fun c_4 => ?_)
      · have h := ifp (c_4) h
        refine lv_iinc (v := (x1_10 + (-1))) (lv' := [(1, .int (x1_10 + (-1))), (0, .ref (a_k 0))]) hx hb d_Wa_step_53 hl (k := 0) rfl rfl (by decide) rfl (fun ls hl => ?_)
        refine lv_goto (tgt := 10) hx hb d_Wa_step_56 (by decide) ?_
        exact cast (hG _ _ _ _ _ _ _) (hB_10 (x1_10 + (-1)) h _ _ _ hP hD hS (lv_sub hl [0, 1] rfl))
      · have h := ifn (c_4) h
        refine lv_aload_n hx hb d_Wa_step_29 rfl (lv_at hl 1 rfl) ?_
        refine va_get (ci := 6) (v := .ref (a_k 1)) (C := R_Wa) (T := F_Wa) (N := 7) hx hb hal in_Wa hown hK hP 21 rfl rfl 1 (by decide) (hal _ kw_135) (fun _ h9 => h9) rfl d_Wa_step_30 ?_
        refine lv_iload_n hx hb d_Wa_step_33 rfl (lv_at hl 0 rfl) ?_
        refine lv_dup2_11 hx hb d_Wa_step_34 rfl rfl ?_
        refine va_iald hx hb hK hP 22 0 rfl rfl (inb_in g_2) d_Wa_step_35 ?_
        refine lv_iconst (v := 1) hx hb d_Wa_step_36 (by decide) ?_
        refine lv_iadd hx hb d_Wa_step_37 ?_
        refine va_iast hx hb hK hP hD hS 22 0 rfl rfl (inb_in g_2) d_Wa_step_38 (fun H locs hP hD hS => ?_)
        have hP : va_P D cls9 (wd_Wa_step cA a_n a_k n_x n_y n_nodes n_aloneB n_pairA n_pairB (upd k_groups x1_10.toNatClampNeg ((k_groups x1_10.toNatClampNeg) + (1 : Int32))) k_opened k_sumsA k_sumsB k_bringA k_bringB) H := hP
        have hD : va_D A (wd_Wa_step cA a_n a_k n_x n_y n_nodes n_aloneB n_pairA n_pairB (upd k_groups x1_10.toNatClampNeg ((k_groups x1_10.toNatClampNeg) + (1 : Int32))) k_opened k_sumsA k_sumsB k_bringA k_bringB) := hD
        refine lv_aload_n hx hb d_Wa_step_39 rfl (lv_at hl 1 rfl) ?_
        refine lv_iload_n hx hb d_Wa_step_40 rfl (lv_at hl 0 rfl) ?_
        obtain ⟨o_11, hc_10, h⟩ := bd h
        have hPc := hP.sub (ws' := (wd_Wa_settle cA a_n a_k (upd k_groups x1_10.toNatClampNeg ((k_groups x1_10.toNatClampNeg) + (1 : Int32))) k_opened k_sumsA k_sumsB k_bringA k_bringB)) [21, 22, 23, 24, 25, 26, 27, 28, 29, 30, 31, 32, 33, 34, 35, 36, 37, 38, 39, 40, 41, 42, 43, 44, 45] rfl
        have hDc := hD.sub (ws' := (wd_Wa_settle cA a_n a_k (upd k_groups x1_10.toNatClampNeg ((k_groups x1_10.toNatClampNeg) + (1 : Int32))) k_opened k_sumsA k_sumsB k_bringA k_bringB)) [21, 22, 23, 24, 25, 26, 27, 28, 29, 30, 31, 32, 33, 34, 35, 36, 37, 38, 39, 40, 41, 42, 43, 44, 45] (by decide) rfl
        have hFc := va_free (wc := (wd_Wa_settle cA a_n a_k (upd k_groups x1_10.toNatClampNeg ((k_groups x1_10.toNatClampNeg) + (1 : Int32))) k_opened k_sumsA k_sumsB k_bringA k_bringB)) hD hS hA [21, 22, 23, 24, 25, 26, 27, 28, 29, 30, 31, 32, 33, 34, 35, 36, 37, 38, 39, 40, 41, 42, 43, 44, 45] rfl
        refine va_callv (va_runV (C := R_Wa) (As := [.int x1_10]) (rest := []) ⟨hx, hb, hml, hown, hal⟩ (c_Wa_settle l D cA a_n a_k H.size (upd k_groups x1_10.toNatClampNeg ((k_groups x1_10.toNatClampNeg) + (1 : Int32))) k_opened k_sumsA k_sumsB k_bringA k_bringB x1_10 o_11 hc_10) (cwV 1 hal (goodV kw_471 kw_473 kw_p12 kw_5 kw_474) rfl rfl rfl (by decide +kernel) ⟨Nat.le_of_ble_eq_true rfl, Nat.le_of_ble_eq_true rfl⟩) ⟨fun a U g mk q => by obtain ⟨q0, q1, qP, qK, qD⟩ := q; exact ⟨q0, q1, qP, va_K.moved (u := U) (U := U.calling g mk a) (Vm.Alike.refl U.vm) qK, qD⟩, va_recv hK hP (ci := 6) (q0 := 21) rfl rfl, fun U hU hW => ⟨rfl, by rw [hU], by rw [hU]; exact hPc, va_K.moved hW.alike hK, hDc.weaken (fun _ _ _ _ => trivial)⟩⟩ rfl rfl hl.1 rfl (lv_room (Nat.le_of_ble_eq_true rfl)) d_Wa_step_41 ⟨Nat.le_of_ble_eq_true rfl, Nat.le_of_ble_eq_true rfl⟩) hS (fun q _ h => hFc q h) hFc (fun u t H1 locs ht hvm hw hB hz1 hk1 hS => ?_)
        obtain ⟨u_7, u_8, u_9⟩ := u
        subst hw
        obtain ⟨hP1, hK1, hD1⟩ := hB
        rw [ht] at hP1
        have hP1 : va_P D cls9 (wd_Wa_settle cA a_n a_k (upd k_groups x1_10.toNatClampNeg ((k_groups x1_10.toNatClampNeg) + (1 : Int32))) u_7 u_8 u_9 k_bringA k_bringB) H1 := hP1
        obtain ⟨hP, hD⟩ := va_join (wr := ([0, 1, 2, 3, 4, 5, 6, 7, 8, 9, 10, 11, 12, 13, 14, 15, 16, 17, 18, 19, 20] : List Nat).filterMap (fun i => (wd_Wa_step cA a_n a_k n_x n_y n_nodes n_aloneB n_pairA n_pairB (upd k_groups x1_10.toNatClampNeg ((k_groups x1_10.toNatClampNeg) + (1 : Int32))) k_opened k_sumsA k_sumsB k_bringA k_bringB)[i]?)) (w1 := (wd_Wa_settle cA a_n a_k (upd k_groups x1_10.toNatClampNeg ((k_groups x1_10.toNatClampNeg) + (1 : Int32))) u_7 u_8 u_9 k_bringA k_bringB)) hP hD [21, 22, 23, 24, 25, 26, 27, 28, 29, 30, 31, 32, 33, 34, 35, 36, 37, 38, 39, 40, 41, 42, 43, 44, 45] [0, 1, 2, 3, 4, 5, 6, 7, 8, 9, 10, 11, 12, 13, 14, 15, 16, 17, 18, 19, 20] rfl rfl (by decide) (by decide) hk1 hFc hP1 hD1
        generalize H1 = H at hP hS ⊢
        have hP : va_P D cls9 (wd_Wa_step cA a_n a_k n_x n_y n_nodes n_aloneB n_pairA n_pairB (upd k_groups x1_10.toNatClampNeg ((k_groups x1_10.toNatClampNeg) + (1 : Int32))) u_7 u_8 u_9 k_bringA k_bringB) H := hP.sub [0, 1, 2, 3, 4, 5, 6, 7, 8, 9, 10, 11, 12, 13, 14, 15, 16, 17, 18, 19, 20, 21, 22, 23, 24, 25, 26, 27, 28, 29, 30, 31, 32, 33, 34, 35, 36, 37, 38, 39, 40, 41, 42, 43, 44, 45] rfl
        have hD : va_D A (wd_Wa_step cA a_n a_k n_x n_y n_nodes n_aloneB n_pairA n_pairB (upd k_groups x1_10.toNatClampNeg ((k_groups x1_10.toNatClampNeg) + (1 : Int32))) u_7 u_8 u_9 k_bringA k_bringB) := hD.sub [0, 1, 2, 3, 4, 5, 6, 7, 8, 9, 10, 11, 12, 13, 14, 15, 16, 17, 18, 19, 20, 21, 22, 23, 24, 25, 26, 27, 28, 29, 30, 31, 32, 33, 34, 35, 36, 37, 38, 39, 40, 41, 42, 43, 44, 45] (by decide) rfl
        refine lv_aload_n hx hb d_Wa_step_44 rfl (lv_at hl 1 rfl) ?_
        refine lv_iload_n hx hb d_Wa_step_45 rfl (lv_at hl 0 rfl) ?_
        refine lv_iconst (v := 1) hx hb d_Wa_step_46 (by decide) ?_
        refine lv_iadd hx hb d_Wa_step_47 ?_
        obtain ⟨o_21, hc_20, h⟩ := bd h
        have hPc := hP.sub (ws' := (wd_Wa_enterFrom cA a_n a_k n_x n_y n_nodes n_aloneB n_pairA n_pairB (upd k_groups x1_10.toNatClampNeg ((k_groups x1_10.toNatClampNeg) + (1 : Int32))) u_7 u_8 u_9 k_bringA k_bringB)) [0, 1, 2, 3, 4, 5, 6, 7, 8, 9, 10, 11, 12, 13, 14, 15, 16, 17, 18, 19, 20, 21, 22, 23, 24, 25, 26, 27, 28, 29, 30, 31, 32, 33, 34, 35, 36, 37, 38, 39, 40, 41, 42, 43, 44, 45] rfl
        have hDc := hD.sub (ws' := (wd_Wa_enterFrom cA a_n a_k n_x n_y n_nodes n_aloneB n_pairA n_pairB (upd k_groups x1_10.toNatClampNeg ((k_groups x1_10.toNatClampNeg) + (1 : Int32))) u_7 u_8 u_9 k_bringA k_bringB)) [0, 1, 2, 3, 4, 5, 6, 7, 8, 9, 10, 11, 12, 13, 14, 15, 16, 17, 18, 19, 20, 21, 22, 23, 24, 25, 26, 27, 28, 29, 30, 31, 32, 33, 34, 35, 36, 37, 38, 39, 40, 41, 42, 43, 44, 45] (by decide) rfl
        have hFc := va_free (wc := (wd_Wa_enterFrom cA a_n a_k n_x n_y n_nodes n_aloneB n_pairA n_pairB (upd k_groups x1_10.toNatClampNeg ((k_groups x1_10.toNatClampNeg) + (1 : Int32))) u_7 u_8 u_9 k_bringA k_bringB)) hD hS hA [0, 1, 2, 3, 4, 5, 6, 7, 8, 9, 10, 11, 12, 13, 14, 15, 16, 17, 18, 19, 20, 21, 22, 23, 24, 25, 26, 27, 28, 29, 30, 31, 32, 33, 34, 35, 36, 37, 38, 39, 40, 41, 42, 43, 44, 45] rfl
        refine va_callv (va_runV (C := R_Wa) (As := [.int (x1_10 + (1 : Int32))]) (rest := []) ⟨hx, hb, hml, hown, hal⟩ (c_Wa_enterFrom l D cA a_n a_k H.size n_x n_y n_nodes n_aloneB n_pairA n_pairB (upd k_groups x1_10.toNatClampNeg ((k_groups x1_10.toNatClampNeg) + (1 : Int32))) u_7 u_8 u_9 k_bringA k_bringB (x1_10 + (1 : Int32)) o_21 hc_20) (cwV 1 hal (goodV kw_462 kw_464 kw_p10 kw_5 kw_465) rfl rfl rfl (by decide +kernel) ⟨Nat.le_of_ble_eq_true rfl, Nat.le_of_ble_eq_true rfl⟩) ⟨fun a U g mk q => by obtain ⟨q0, q1, qP, qK, qD⟩ := q; exact ⟨q0, q1, qP, va_K.moved (u := U) (U := U.calling g mk a) (Vm.Alike.refl U.vm) qK, qD⟩, va_recv hK hP (ci := 6) (q0 := 21) rfl rfl, fun U hU hW => ⟨rfl, by rw [hU], by rw [hU]; exact hPc, va_K.moved hW.alike hK, hDc.weaken (fun _ _ _ _ => trivial)⟩⟩ rfl rfl hl.1 rfl (lv_room (Nat.le_of_ble_eq_true rfl)) d_Wa_step_48 ⟨Nat.le_of_ble_eq_true rfl, Nat.le_of_ble_eq_true rfl⟩) hS (fun q _ h => hFc q h) hFc (fun u t H1 locs ht hvm hw hB hz1 hk1 hS => ?_)
        obtain ⟨u_14, u_15, u_16, u_17, u_18, u_19⟩ := u
        subst hw
        obtain ⟨hP1, hK1, hD1⟩ := hB
        rw [ht] at hP1
        have hP1 : va_P D cls9 (wd_Wa_enterFrom cA a_n a_k n_x n_y n_nodes n_aloneB n_pairA n_pairB u_14 u_15 u_16 u_17 u_18 u_19) H1 := hP1
        obtain ⟨hP, hD⟩ := va_join (wr := ([] : List Nat).filterMap (fun i => (wd_Wa_step cA a_n a_k n_x n_y n_nodes n_aloneB n_pairA n_pairB (upd k_groups x1_10.toNatClampNeg ((k_groups x1_10.toNatClampNeg) + (1 : Int32))) u_7 u_8 u_9 k_bringA k_bringB)[i]?)) (w1 := (wd_Wa_enterFrom cA a_n a_k n_x n_y n_nodes n_aloneB n_pairA n_pairB u_14 u_15 u_16 u_17 u_18 u_19)) hP hD [0, 1, 2, 3, 4, 5, 6, 7, 8, 9, 10, 11, 12, 13, 14, 15, 16, 17, 18, 19, 20, 21, 22, 23, 24, 25, 26, 27, 28, 29, 30, 31, 32, 33, 34, 35, 36, 37, 38, 39, 40, 41, 42, 43, 44, 45] [] rfl rfl (by decide) (by decide) hk1 hFc hP1 hD1
        generalize H1 = H at hP hS ⊢
        have hP : va_P D cls9 (wd_Wa_step cA a_n a_k n_x n_y n_nodes n_aloneB n_pairA n_pairB u_14 u_15 u_16 u_17 u_18 u_19) H := hP.sub [0, 1, 2, 3, 4, 5, 6, 7, 8, 9, 10, 11, 12, 13, 14, 15, 16, 17, 18, 19, 20, 21, 22, 23, 24, 25, 26, 27, 28, 29, 30, 31, 32, 33, 34, 35, 36, 37, 38, 39, 40, 41, 42, 43, 44, 45] rfl
        have hD : va_D A (wd_Wa_step cA a_n a_k n_x n_y n_nodes n_aloneB n_pairA n_pairB u_14 u_15 u_16 u_17 u_18 u_19) := hD.sub [0, 1, 2, 3, 4, 5, 6, 7, 8, 9, 10, 11, 12, 13, 14, 15, 16, 17, 18, 19, 20, 21, 22, 23, 24, 25, 26, 27, 28, 29, 30, 31, 32, 33, 34, 35, 36, 37, 38, 39, 40, 41, 42, 43, 44, 45] (by decide) rfl
        refine lv_iconst (v := 1) hx hb d_Wa_step_51 (by decide) ?_
        exact W.zret (v := (1 : Int32)) hx hb hr (by decide) (fun t ht hW => ⟨⟨(1 : Int32), (u_14, u_15, u_16, u_17, u_18, u_19), rfl, Option.some.inj h, by rw [ht]; exact hP, va_K.moved hW.alike hK, hD⟩, hS.F ht⟩) hS.2.2 d_Wa_step_52
def wd_Wa_a (cA : Nat → ClassId) (a_n a_k : Nat → Nat) (n_x : Int32) (n_y : Int32) (n_nodes : Int32) (n_aloneB : Int64) (k_sumsA : Nat → Int64) : va_W := [(a_n 0, .inr (0, [.int n_x, .int n_y, .int n_nodes, .long n_aloneB, .ref (a_n 1), .ref (a_n 11), .ref (a_n 21), .ref (a_n 31), .ref (a_n 32)])), (a_k 0, .inr (6, [.ref (a_n 0), .ref (a_k 1), .ref (a_k 2), .ref (a_k 3), .ref (a_k 4), .ref (a_k 5), .ref (a_k 15)])), (a_k 3, .inl (cA 1, 10, .inr (.inl k_sumsA)))]
noncomputable def m_Wa_a (n_nodes : Int32) (k_sumsA : Nat → Int64) : Option Int64 :=
  (if inb n_nodes 10 then some (k_sumsA n_nodes.toNatClampNeg) else none)
set_option maxHeartbeats 4000000 in
set_option maxRecDepth 100000 in
theorem c_Wa_a (l : Launch) (D : va_G) (cA : Nat → ClassId) (a_n a_k : Nat → Nat) (sz : Nat) (n_x : Int32) (n_y : Int32) (n_nodes : Int32) (n_aloneB : Int64) (k_sumsA : Nat → Int64)  (out : Int64) (h : m_Wa_a n_nodes k_sumsA = some out) : Met l y_Wa_a w_Wa_a ({ frames := 0, cells := 0, slots := 0, locals := 0 }) (va_Pc [.ref (a_k 0)] (fun U => U.heap.size = sz ∧ va_P D cls9 (wd_Wa_a cA a_n a_k n_x n_y n_nodes n_aloneB k_sumsA) U.heap ∧ va_K D cls9 (tys5 cA) U ∧ va_D (fun _ => True) (wd_Wa_a cA a_n a_k n_x n_y n_nodes n_aloneB k_sumsA))) (va_Ql (fun (rr : Int64) (uu : Unit) => rr = out) (fun (uu : Unit) (t : State) => va_P D cls9 (wd_Wa_a cA a_n a_k n_x n_y n_nodes n_aloneB k_sumsA) t.heap ∧ va_K D cls9 (tys5 cA) t ∧ va_D (va_A (wd_Wa_a cA a_n a_k n_x n_y n_nodes n_aloneB k_sumsA) sz) (wd_Wa_a cA a_n a_k n_x n_y n_nodes n_aloneB k_sumsA)) (va_A (wd_Wa_a cA a_n a_k n_x n_y n_nodes n_aloneB k_sumsA) sz)) 0 0 (va_A (wd_Wa_a cA a_n a_k n_x n_y n_nodes n_aloneB k_sumsA) sz) := by
  refine Met.ofW (cc := b_Wa_a) (maxL := 1) (ret := (Option.some Jvm.ClassFile.FieldType.long)) (by decide) rfl ?_
  intro p e s m args below meth c s₁ B hml hv
  obtain ⟨rfl, hsz, hP, hK, hD0⟩ := hv
  have hx := B.exec
  have hb := B.bytes
  have hr := B.returns
  have hts := atoms_spec (ws := w_Wa_a) B.pre
  have hal : ∀ w ∈ ALLW, w.before _ s = true := fun w hw => hts w (List.mem_cons_of_mem _ hw)
  have hown : s.vm.findClass R_Wa = some m.cls := findClass_of_methodNamed B.named
  have hlocks := B.notSynchronized
  subst hsz
  have hD := hD0.self (sz := s.heap.size)
  generalize hAe : va_A (wd_Wa_a cA a_n a_k n_x n_y n_nodes n_aloneB k_sumsA) s.heap.size = A at hD ⊢
  have hA : ∀ q : Nat, s.heap.size ≤ q → A q := fun q h => by rw [← hAe]; exact Or.inr h
  have hS : va_S A s.heap s.heap [] := va_S.rf
  have hl := lv_entry ([.ref (a_k 0)]) (n := 1) (Nat.le_of_ble_eq_true rfl)
  rw [lg_entry_eq]
  generalize (lg_sl ([.ref (a_k 0)]) ++ List.replicate (1 - (lg_sl ([.ref (a_k 0)])).length) Slot.unset).toArray = ls at hl ⊢
  have hl : lv_has ls 1 [(0, .ref (a_k 0))] := hl
  refine wg (fun G hG => ?_)
  refine cast (hG _ _ _ _ _ _ _).symm ?_
  obtain ⟨H, locs, hHl, hS⟩ : ∃ (H : Heap) (locs : List Loc), (H = s.heap ∧ locs = []) ∧ va_S A s.heap H locs := ⟨s.heap, [], ⟨rfl, rfl⟩, hS⟩
  have hP : va_P D cls9 (wd_Wa_a cA a_n a_k n_x n_y n_nodes n_aloneB k_sumsA) H := by rw [hHl.1]; exact hP
  rw [← hHl.1, ← hHl.2]
  clear hHl
  refine lv_aload_n hx hb d_Wa_a_0 rfl (lv_at hl 0 rfl) ?_
  refine va_get (ci := 6) (v := .ref (a_k 3)) (C := R_Wa) (T := F_Wa) (N := 7) hx hb hal in_Wa hown hK hP 1 rfl rfl 3 (by decide) (hal _ kw_137) (fun _ h9 => h9) rfl d_Wa_a_1 ?_
  refine lv_aload_n hx hb d_Wa_a_4 rfl (lv_at hl 0 rfl) ?_
  refine va_get (ci := 6) (v := .ref (a_n 0)) (C := R_Wa) (T := F_Wa) (N := 7) hx hb hal in_Wa hown hK hP 1 rfl rfl 0 (by decide) (hal _ kw_134) (fun _ h9 => h9) rfl d_Wa_a_5 ?_
  refine va_get (ci := 0) (v := .int n_nodes) (C := R_Ga) (T := F_Ga) (N := 9) hx hb hal in_Ga hown hK hP 0 rfl rfl 2 (by decide) (hal _ kw_73) (fun _ h9 => h9) rfl d_Wa_a_8 ?_
  obtain ⟨g_1, h⟩ := gd h
  refine va_lald hx hb hK hP 2 1 rfl rfl (inb_in g_1) d_Wa_a_11 ?_
  exact W.lret (v := (k_sumsA n_nodes.toNatClampNeg)) hx hb hr (fun t ht hW => ⟨⟨(k_sumsA n_nodes.toNatClampNeg), (), rfl, Option.some.inj h, by rw [ht]; exact hP, va_K.moved hW.alike hK, hD⟩, hS.F ht⟩) hS.2.2 d_Wa_a_12
def wd_Wa_b (cA : Nat → ClassId) (a_n a_k : Nat → Nat) (n_x : Int32) (n_y : Int32) (n_nodes : Int32) (n_aloneB : Int64) (k_sumsB : Nat → Int64) : va_W := [(a_n 0, .inr (0, [.int n_x, .int n_y, .int n_nodes, .long n_aloneB, .ref (a_n 1), .ref (a_n 11), .ref (a_n 21), .ref (a_n 31), .ref (a_n 32)])), (a_k 0, .inr (6, [.ref (a_n 0), .ref (a_k 1), .ref (a_k 2), .ref (a_k 3), .ref (a_k 4), .ref (a_k 5), .ref (a_k 15)])), (a_k 4, .inl (cA 1, 10, .inr (.inl k_sumsB)))]
noncomputable def m_Wa_b (n_nodes : Int32) (k_sumsB : Nat → Int64) : Option Int64 :=
  (if inb n_nodes 10 then some (k_sumsB n_nodes.toNatClampNeg) else none)
set_option maxHeartbeats 4000000 in
set_option maxRecDepth 100000 in
theorem c_Wa_b (l : Launch) (D : va_G) (cA : Nat → ClassId) (a_n a_k : Nat → Nat) (sz : Nat) (n_x : Int32) (n_y : Int32) (n_nodes : Int32) (n_aloneB : Int64) (k_sumsB : Nat → Int64)  (out : Int64) (h : m_Wa_b n_nodes k_sumsB = some out) : Met l y_Wa_b w_Wa_b ({ frames := 0, cells := 0, slots := 0, locals := 0 }) (va_Pc [.ref (a_k 0)] (fun U => U.heap.size = sz ∧ va_P D cls9 (wd_Wa_b cA a_n a_k n_x n_y n_nodes n_aloneB k_sumsB) U.heap ∧ va_K D cls9 (tys5 cA) U ∧ va_D (fun _ => True) (wd_Wa_b cA a_n a_k n_x n_y n_nodes n_aloneB k_sumsB))) (va_Ql (fun (rr : Int64) (uu : Unit) => rr = out) (fun (uu : Unit) (t : State) => va_P D cls9 (wd_Wa_b cA a_n a_k n_x n_y n_nodes n_aloneB k_sumsB) t.heap ∧ va_K D cls9 (tys5 cA) t ∧ va_D (va_A (wd_Wa_b cA a_n a_k n_x n_y n_nodes n_aloneB k_sumsB) sz) (wd_Wa_b cA a_n a_k n_x n_y n_nodes n_aloneB k_sumsB)) (va_A (wd_Wa_b cA a_n a_k n_x n_y n_nodes n_aloneB k_sumsB) sz)) 0 0 (va_A (wd_Wa_b cA a_n a_k n_x n_y n_nodes n_aloneB k_sumsB) sz) := by
  refine Met.ofW (cc := b_Wa_b) (maxL := 1) (ret := (Option.some Jvm.ClassFile.FieldType.long)) (by decide) rfl ?_
  intro p e s m args below meth c s₁ B hml hv
  obtain ⟨rfl, hsz, hP, hK, hD0⟩ := hv
  have hx := B.exec
  have hb := B.bytes
  have hr := B.returns
  have hts := atoms_spec (ws := w_Wa_b) B.pre
  have hal : ∀ w ∈ ALLW, w.before _ s = true := fun w hw => hts w (List.mem_cons_of_mem _ hw)
  have hown : s.vm.findClass R_Wa = some m.cls := findClass_of_methodNamed B.named
  have hlocks := B.notSynchronized
  subst hsz
  have hD := hD0.self (sz := s.heap.size)
  generalize hAe : va_A (wd_Wa_b cA a_n a_k n_x n_y n_nodes n_aloneB k_sumsB) s.heap.size = A at hD ⊢
  have hA : ∀ q : Nat, s.heap.size ≤ q → A q := fun q h => by rw [← hAe]; exact Or.inr h
  have hS : va_S A s.heap s.heap [] := va_S.rf
  have hl := lv_entry ([.ref (a_k 0)]) (n := 1) (Nat.le_of_ble_eq_true rfl)
  rw [lg_entry_eq]
  generalize (lg_sl ([.ref (a_k 0)]) ++ List.replicate (1 - (lg_sl ([.ref (a_k 0)])).length) Slot.unset).toArray = ls at hl ⊢
  have hl : lv_has ls 1 [(0, .ref (a_k 0))] := hl
  refine wg (fun G hG => ?_)
  refine cast (hG _ _ _ _ _ _ _).symm ?_
  obtain ⟨H, locs, hHl, hS⟩ : ∃ (H : Heap) (locs : List Loc), (H = s.heap ∧ locs = []) ∧ va_S A s.heap H locs := ⟨s.heap, [], ⟨rfl, rfl⟩, hS⟩
  have hP : va_P D cls9 (wd_Wa_b cA a_n a_k n_x n_y n_nodes n_aloneB k_sumsB) H := by rw [hHl.1]; exact hP
  rw [← hHl.1, ← hHl.2]
  clear hHl
  refine lv_aload_n hx hb d_Wa_b_0 rfl (lv_at hl 0 rfl) ?_
  refine va_get (ci := 6) (v := .ref (a_k 4)) (C := R_Wa) (T := F_Wa) (N := 7) hx hb hal in_Wa hown hK hP 1 rfl rfl 4 (by decide) (hal _ kw_138) (fun _ h9 => h9) rfl d_Wa_b_1 ?_
  refine lv_aload_n hx hb d_Wa_b_4 rfl (lv_at hl 0 rfl) ?_
  refine va_get (ci := 6) (v := .ref (a_n 0)) (C := R_Wa) (T := F_Wa) (N := 7) hx hb hal in_Wa hown hK hP 1 rfl rfl 0 (by decide) (hal _ kw_134) (fun _ h9 => h9) rfl d_Wa_b_5 ?_
  refine va_get (ci := 0) (v := .int n_nodes) (C := R_Ga) (T := F_Ga) (N := 9) hx hb hal in_Ga hown hK hP 0 rfl rfl 2 (by decide) (hal _ kw_73) (fun _ h9 => h9) rfl d_Wa_b_8 ?_
  obtain ⟨g_1, h⟩ := gd h
  refine va_lald hx hb hK hP 2 1 rfl rfl (inb_in g_1) d_Wa_b_11 ?_
  exact W.lret (v := (k_sumsB n_nodes.toNatClampNeg)) hx hb hr (fun t ht hW => ⟨⟨(k_sumsB n_nodes.toNatClampNeg), (), rfl, Option.some.inj h, by rw [ht]; exact hP, va_K.moved hW.alike hK, hD⟩, hS.F ht⟩) hS.2.2 d_Wa_b_12
def wd_Wa_code (cA : Nat → ClassId) (a_n a_k : Nat → Nat) (n_x : Int32) (n_y : Int32) (n_nodes : Int32) (n_aloneB : Int64) (k_groups : Nat → Int32) : va_W := [(a_n 0, .inr (0, [.int n_x, .int n_y, .int n_nodes, .long n_aloneB, .ref (a_n 1), .ref (a_n 11), .ref (a_n 21), .ref (a_n 31), .ref (a_n 32)])), (a_k 0, .inr (6, [.ref (a_n 0), .ref (a_k 1), .ref (a_k 2), .ref (a_k 3), .ref (a_k 4), .ref (a_k 5), .ref (a_k 15)])), (a_k 1, .inl (cA 0, 9, .inl k_groups))]
noncomputable def s_Wa_code_4 (k_groups : Nat → Int32) (n_nodes : Int32) (zz : Int64 × Int32) (back exit : (Int64 × Int32) → Option Int64) : Option Int64 :=
  (if n_nodes ≤ zz.2 then (exit (zz.1, zz.2)) else (if inb zz.2 9 then (back ((zz.1 ||| ((k_groups zz.2.toNatClampNeg).toInt64 <<< (((4 : Int32) * zz.2).toInt64 &&& 63))), (zz.2 + 1))) else none))
noncomputable def m_Wa_code (n_nodes : Int32) (k_groups : Nat → Int32) : Option Int64 :=
  (loopC (s_Wa_code_4 k_groups n_nodes) (fun z4 : Int64 × Int32 => some z4.1) FU ((0 : Int64), (0 : Int32)))
set_option maxHeartbeats 4000000 in
set_option maxRecDepth 100000 in
theorem c_Wa_code (l : Launch) (D : va_G) (cA : Nat → ClassId) (a_n a_k : Nat → Nat) (sz : Nat) (n_x : Int32) (n_y : Int32) (n_nodes : Int32) (n_aloneB : Int64) (k_groups : Nat → Int32)  (out : Int64) (h : m_Wa_code n_nodes k_groups = some out) : Met l y_Wa_code w_Wa_code ({ frames := 0, cells := 0, slots := 0, locals := 0 }) (va_Pc [.ref (a_k 0)] (fun U => U.heap.size = sz ∧ va_P D cls9 (wd_Wa_code cA a_n a_k n_x n_y n_nodes n_aloneB k_groups) U.heap ∧ va_K D cls9 (tys5 cA) U ∧ va_D (fun _ => True) (wd_Wa_code cA a_n a_k n_x n_y n_nodes n_aloneB k_groups))) (va_Ql (fun (rr : Int64) (uu : Unit) => rr = out) (fun (uu : Unit) (t : State) => va_P D cls9 (wd_Wa_code cA a_n a_k n_x n_y n_nodes n_aloneB k_groups) t.heap ∧ va_K D cls9 (tys5 cA) t ∧ va_D (va_A (wd_Wa_code cA a_n a_k n_x n_y n_nodes n_aloneB k_groups) sz) (wd_Wa_code cA a_n a_k n_x n_y n_nodes n_aloneB k_groups)) (va_A (wd_Wa_code cA a_n a_k n_x n_y n_nodes n_aloneB k_groups) sz)) 0 0 (va_A (wd_Wa_code cA a_n a_k n_x n_y n_nodes n_aloneB k_groups) sz) := by
  refine Met.ofW (cc := b_Wa_code) (maxL := 4) (ret := (Option.some Jvm.ClassFile.FieldType.long)) (by decide) rfl ?_
  intro p e s m args below meth c s₁ B hml hv
  obtain ⟨rfl, hsz, hP, hK, hD0⟩ := hv
  have hx := B.exec
  have hb := B.bytes
  have hr := B.returns
  have hts := atoms_spec (ws := w_Wa_code) B.pre
  have hal : ∀ w ∈ ALLW, w.before _ s = true := fun w hw => hts w (List.mem_cons_of_mem _ hw)
  have hown : s.vm.findClass R_Wa = some m.cls := findClass_of_methodNamed B.named
  have hlocks := B.notSynchronized
  subst hsz
  have hD := hD0.self (sz := s.heap.size)
  generalize hAe : va_A (wd_Wa_code cA a_n a_k n_x n_y n_nodes n_aloneB k_groups) s.heap.size = A at hD ⊢
  have hA : ∀ q : Nat, s.heap.size ≤ q → A q := fun q h => by rw [← hAe]; exact Or.inr h
  have hS : va_S A s.heap s.heap [] := va_S.rf
  have hl := lv_entry ([.ref (a_k 0)]) (n := 4) (Nat.le_of_ble_eq_true rfl)
  rw [lg_entry_eq]
  generalize (lg_sl ([.ref (a_k 0)]) ++ List.replicate (4 - (lg_sl ([.ref (a_k 0)])).length) Slot.unset).toArray = ls at hl ⊢
  have hl : lv_has ls 4 [(0, .ref (a_k 0))] := hl
  refine wg (fun G hG => ?_)
  refine cast (hG _ _ _ _ _ _ _).symm ?_
  obtain ⟨H, locs, hHl, hS⟩ : ∃ (H : Heap) (locs : List Loc), (H = s.heap ∧ locs = []) ∧ va_S A s.heap H locs := ⟨s.heap, [], ⟨rfl, rfl⟩, hS⟩
  have hP : va_P D cls9 (wd_Wa_code cA a_n a_k n_x n_y n_nodes n_aloneB k_groups) H := by rw [hHl.1]; exact hP
  rw [← hHl.1, ← hHl.2]
  clear hHl
  refine lv_lconst (v := 0) hx hb d_Wa_code_0 (by decide) ?_
  refine lv_lstore_n (lv' := [(1, .long (0 : Int64)), (0, .ref (a_k 0))]) hx hb d_Wa_code_1 rfl hl (by decide) rfl (fun ls hl => ?_)
  refine lv_iconst (v := 0) hx hb d_Wa_code_2 (by decide) ?_
  refine lv_istore_n (lv' := [(3, .int (0 : Int32)), (1, .long (0 : Int64)), (0, .ref (a_k 0))]) hx hb d_Wa_code_3 rfl hl (by decide) rfl (fun ls hl => ?_)
  refine cast (hG _ _ _ _ _ _ _) (lp_go2 h (fun zz : Int64 × Int32 => ∀ (H : Heap) (locs : List Loc) (ls : Array Slot), va_P D cls9 (wd_Wa_code cA a_n a_k n_x n_y n_nodes n_aloneB k_groups) H → va_D A (wd_Wa_code cA a_n a_k n_x n_y n_nodes n_aloneB k_groups) → va_S A s.heap H locs → lv_has ls 4 [(3, .int zz.2), (1, .long zz.1), (0, .ref (a_k 0))] → G H locs 0 0 ls 35 []) ?_ (fun zz : Int64 × Int32 => ∀ (H : Heap) (locs : List Loc) (ls : Array Slot), va_P D cls9 (wd_Wa_code cA a_n a_k n_x n_y n_nodes n_aloneB k_groups) H → va_D A (wd_Wa_code cA a_n a_k n_x n_y n_nodes n_aloneB k_groups) → va_S A s.heap H locs → lv_has ls 4 [(3, .int zz.2), (1, .long zz.1), (0, .ref (a_k 0))] → G H locs 0 0 ls 4 []) ?_ _ _ ls hP hD hS (lv_sub hl [0, 1, 2] rfl))
  · intro zz h H locs ls hP hD hS hl
    obtain ⟨x1_4e, x3_4e⟩ := zz
    have hP : va_P D cls9 (wd_Wa_code cA a_n a_k n_x n_y n_nodes n_aloneB k_groups) H := hP
    have hD : va_D A (wd_Wa_code cA a_n a_k n_x n_y n_nodes n_aloneB k_groups) := hD
    have hl : lv_has ls 4 [(3, .int x3_4e), (1, .long x1_4e), (0, .ref (a_k 0))] := hl
    refine cast (hG _ _ _ _ _ _ _).symm ?_
    refine lv_lload_n hx hb d_Wa_code_35 rfl (lv_at hl 1 rfl) ?_
    exact W.lret (v := x1_4e) hx hb hr (fun t ht hW => ⟨⟨x1_4e, (), rfl, Option.some.inj h, by rw [ht]; exact hP, va_K.moved hW.alike hK, hD⟩, hS.F ht⟩) hS.2.2 d_Wa_code_36
  · intro back exit zz hB_4 hE_4 h H locs ls hP hD hS hl
    obtain ⟨x1_4, x3_4⟩ := zz
    have hP : va_P D cls9 (wd_Wa_code cA a_n a_k n_x n_y n_nodes n_aloneB k_groups) H := hP
    have hD : va_D A (wd_Wa_code cA a_n a_k n_x n_y n_nodes n_aloneB k_groups) := hD
    have hl : lv_has ls 4 [(3, .int x3_4), (1, .long x1_4), (0, .ref (a_k 0))] := hl
    refine cast (hG _ _ _ _ _ _ _).symm ?_
    refine lv_iload_n hx hb d_Wa_code_4 rfl (lv_at hl 0 rfl) ?_
    refine lv_aload_n hx hb d_Wa_code_5 rfl (lv_at hl 2 rfl) ?_
    refine va_get (ci := 6) (v := .ref (a_n 0)) (C := R_Wa) (T := F_Wa) (N := 7) hx hb hal in_Wa hown hK hP 1 rfl rfl 0 (by decide) (hal _ kw_134) (fun _ h9 => h9) rfl d_Wa_code_6 ?_
    refine va_get (ci := 0) (v := .int n_nodes) (C := R_Ga) (T := F_Ga) (N := 9) hx hb hal in_Ga hown hK hP 0 rfl rfl 2 (by decide) (hal _ kw_73) (fun _ h9 => h9) rfl d_Wa_code_9 ?_
    refine lv_icmp_ge (tgt := 35) hx hb d_Wa_code_12 (by decide) (fun c_1 => ?_) (fun c_1 => ?_)
    · have h := ifp (c_1) h
      exact cast (hG _ _ _ _ _ _ _) (hE_4 (x1_4, x3_4) h _ _ _ hP hD hS (lv_sub hl [0, 1, 2] rfl))
    · have h := ifn (c_1) h
      refine lv_lload_n hx hb d_Wa_code_15 rfl (lv_at hl 1 rfl) ?_
      refine lv_aload_n hx hb d_Wa_code_16 rfl (lv_at hl 2 rfl) ?_
      refine va_get (ci := 6) (v := .ref (a_k 1)) (C := R_Wa) (T := F_Wa) (N := 7) hx hb hal in_Wa hown hK hP 1 rfl rfl 1 (by decide) (hal _ kw_135) (fun _ h9 => h9) rfl d_Wa_code_17 ?_
      refine lv_iload_n hx hb d_Wa_code_20 rfl (lv_at hl 0 rfl) ?_
      obtain ⟨g_2, h⟩ := gd h
      refine va_iald hx hb hK hP 2 0 rfl rfl (inb_in g_2) d_Wa_code_21 ?_
      refine lv_i2l hx hb d_Wa_code_22 rfl ?_
      refine lv_iconst (v := 4) hx hb d_Wa_code_23 (by decide) ?_
      refine lv_iload_n hx hb d_Wa_code_24 rfl (lv_at hl 0 rfl) ?_
      refine lv_imul hx hb d_Wa_code_25 ?_
      refine lv_lshl hx hb d_Wa_code_26 rfl ?_
      refine lv_lor hx hb d_Wa_code_27 ?_
      refine lv_lstore_n (lv' := [(1, .long (x1_4 ||| ((k_groups x3_4.toNatClampNeg).toInt64 <<< (((4 : Int32) * x3_4).toInt64 &&& 63)))), (3, .int x3_4), (0, .ref (a_k 0))]) hx hb d_Wa_code_28 rfl hl (by decide) rfl (fun ls hl => ?_)
      refine lv_iinc (v := (x3_4 + 1)) (lv' := [(3, .int (x3_4 + 1)), (1, .long (x1_4 ||| ((k_groups x3_4.toNatClampNeg).toInt64 <<< (((4 : Int32) * x3_4).toInt64 &&& 63)))), (0, .ref (a_k 0))]) hx hb d_Wa_code_29 hl (k := 1) rfl rfl (by decide) rfl (fun ls hl => ?_)
      refine lv_goto (tgt := 4) hx hb d_Wa_code_32 (by decide) ?_
      exact cast (hG _ _ _ _ _ _ _) (hB_4 ((x1_4 ||| ((k_groups x3_4.toNatClampNeg).toInt64 <<< (((4 : Int32) * x3_4).toInt64 &&& 63))), (x3_4 + 1)) h _ _ _ hP hD hS (lv_sub hl [0, 1, 2] rfl))
def wd_Pe_search (cA : Nat → ClassId) (a_n a_k a_e : Nat → Nat) (n_x : Int32) (n_y : Int32) (n_nodes : Int32) (n_aloneB : Int64) (n_pairA : Nat → Nat → Int64) (n_pairB : Nat → Nat → Int64) (k_groups : Nat → Int32) (k_opened : Nat → Int32) (k_sumsA : Nat → Int64) (k_sumsB : Nat → Int64) (k_bringA : Nat → Nat → Int64) (k_bringB : Nat → Nat → Int64) (e_code : Int64) (e_alike : Int32) : va_W := [(a_n 0, .inr (0, [.int n_x, .int n_y, .int n_nodes, .long n_aloneB, .ref (a_n 1), .ref (a_n 11), .ref (a_n 21), .ref (a_n 31), .ref (a_n 32)])), (a_n 1, .inl (cA 4, 9, .inr (.inr (.inr (.inr (fun i => if i < 9 then some (a_n (i + 2)) else none)))))), (a_n (0 + 2), .inl (cA 1, 9, .inr (.inl (n_pairA 0)))), (a_n (1 + 2), .inl (cA 1, 9, .inr (.inl (n_pairA 1)))), (a_n (2 + 2), .inl (cA 1, 9, .inr (.inl (n_pairA 2)))), (a_n (3 + 2), .inl (cA 1, 9, .inr (.inl (n_pairA 3)))), (a_n (4 + 2), .inl (cA 1, 9, .inr (.inl (n_pairA 4)))), (a_n (5 + 2), .inl (cA 1, 9, .inr (.inl (n_pairA 5)))), (a_n (6 + 2), .inl (cA 1, 9, .inr (.inl (n_pairA 6)))), (a_n (7 + 2), .inl (cA 1, 9, .inr (.inl (n_pairA 7)))), (a_n (8 + 2), .inl (cA 1, 9, .inr (.inl (n_pairA 8)))), (a_n 11, .inl (cA 4, 9, .inr (.inr (.inr (.inr (fun i => if i < 9 then some (a_n (i + 12)) else none)))))), (a_n (0 + 12), .inl (cA 1, 9, .inr (.inl (n_pairB 0)))), (a_n (1 + 12), .inl (cA 1, 9, .inr (.inl (n_pairB 1)))), (a_n (2 + 12), .inl (cA 1, 9, .inr (.inl (n_pairB 2)))), (a_n (3 + 12), .inl (cA 1, 9, .inr (.inl (n_pairB 3)))), (a_n (4 + 12), .inl (cA 1, 9, .inr (.inl (n_pairB 4)))), (a_n (5 + 12), .inl (cA 1, 9, .inr (.inl (n_pairB 5)))), (a_n (6 + 12), .inl (cA 1, 9, .inr (.inl (n_pairB 6)))), (a_n (7 + 12), .inl (cA 1, 9, .inr (.inl (n_pairB 7)))), (a_n (8 + 12), .inl (cA 1, 9, .inr (.inl (n_pairB 8)))), (a_k 0, .inr (6, [.ref (a_n 0), .ref (a_k 1), .ref (a_k 2), .ref (a_k 3), .ref (a_k 4), .ref (a_k 5), .ref (a_k 15)])), (a_k 1, .inl (cA 0, 9, .inl k_groups)), (a_k 2, .inl (cA 0, 10, .inl k_opened)), (a_k 3, .inl (cA 1, 10, .inr (.inl k_sumsA))), (a_k 4, .inl (cA 1, 10, .inr (.inl k_sumsB))), (a_k 5, .inl (cA 4, 9, .inr (.inr (.inr (.inr (fun i => if i < 9 then some (a_k (i + 6)) else none)))))), (a_k (0 + 6), .inl (cA 1, 9, .inr (.inl (k_bringA 0)))), (a_k (1 + 6), .inl (cA 1, 9, .inr (.inl (k_bringA 1)))), (a_k (2 + 6), .inl (cA 1, 9, .inr (.inl (k_bringA 2)))), (a_k (3 + 6), .inl (cA 1, 9, .inr (.inl (k_bringA 3)))), (a_k (4 + 6), .inl (cA 1, 9, .inr (.inl (k_bringA 4)))), (a_k (5 + 6), .inl (cA 1, 9, .inr (.inl (k_bringA 5)))), (a_k (6 + 6), .inl (cA 1, 9, .inr (.inl (k_bringA 6)))), (a_k (7 + 6), .inl (cA 1, 9, .inr (.inl (k_bringA 7)))), (a_k (8 + 6), .inl (cA 1, 9, .inr (.inl (k_bringA 8)))), (a_k 15, .inl (cA 4, 9, .inr (.inr (.inr (.inr (fun i => if i < 9 then some (a_k (i + 16)) else none)))))), (a_k (0 + 16), .inl (cA 1, 9, .inr (.inl (k_bringB 0)))), (a_k (1 + 16), .inl (cA 1, 9, .inr (.inl (k_bringB 1)))), (a_k (2 + 16), .inl (cA 1, 9, .inr (.inl (k_bringB 2)))), (a_k (3 + 16), .inl (cA 1, 9, .inr (.inl (k_bringB 3)))), (a_k (4 + 16), .inl (cA 1, 9, .inr (.inl (k_bringB 4)))), (a_k (5 + 16), .inl (cA 1, 9, .inr (.inl (k_bringB 5)))), (a_k (6 + 16), .inl (cA 1, 9, .inr (.inl (k_bringB 6)))), (a_k (7 + 16), .inl (cA 1, 9, .inr (.inl (k_bringB 7)))), (a_k (8 + 16), .inl (cA 1, 9, .inr (.inl (k_bringB 8)))), (a_e 0, .inr (3, [.ref (a_n 0), .ref (a_k 0), .long e_code, .int e_alike]))]
theorem row_Pe_search_n_pairA {cA : Nat → ClassId} {a_n a_k a_e : Nat → Nat} {n_x : Int32} {n_y : Int32} {n_nodes : Int32} {n_aloneB : Int64} {n_pairB : Nat → Nat → Int64} {k_groups : Nat → Int32} {k_opened : Nat → Int32} {k_sumsA : Nat → Int64} {k_sumsB : Nat → Int64} {k_bringA : Nat → Nat → Int64} {k_bringB : Nat → Nat → Int64} {e_code : Int64} {e_alike : Int32} (n_pairA : Nat → Nat → Int64) (k : Nat) (hk : k < 9) : (wd_Pe_search cA a_n a_k a_e n_x n_y n_nodes n_aloneB n_pairA n_pairB k_groups k_opened k_sumsA k_sumsB k_bringA k_bringB e_code e_alike)[2 + k]? = some (a_n (k + 2), .inl (cA 1, 9, .inr (.inl (n_pairA k)))) := by
  rcases lt9 hk with rfl | rfl | rfl | rfl | rfl | rfl | rfl | rfl | rfl <;> rfl
theorem set_Pe_search_n_pairA {cA : Nat → ClassId} {a_n a_k a_e : Nat → Nat} {n_x : Int32} {n_y : Int32} {n_nodes : Int32} {n_aloneB : Int64} {n_pairB : Nat → Nat → Int64} {k_groups : Nat → Int32} {k_opened : Nat → Int32} {k_sumsA : Nat → Int64} {k_sumsB : Nat → Int64} {k_bringA : Nat → Nat → Int64} {k_bringB : Nat → Nat → Int64} {e_code : Int64} {e_alike : Int32} {n_pairA : Nat → Nat → Int64} {f : Nat → Int64} (k : Nat) (hk : k < 9) : (wd_Pe_search cA a_n a_k a_e n_x n_y n_nodes n_aloneB n_pairA n_pairB k_groups k_opened k_sumsA k_sumsB k_bringA k_bringB e_code e_alike).set (2 + k) (a_n (k + 2), .inl (cA 1, 9, .inr (.inl f))) = wd_Pe_search cA a_n a_k a_e n_x n_y n_nodes n_aloneB (va_up n_pairA k f) n_pairB k_groups k_opened k_sumsA k_sumsB k_bringA k_bringB e_code e_alike := by
  rcases lt9 hk with rfl | rfl | rfl | rfl | rfl | rfl | rfl | rfl | rfl <;> rfl
theorem row_Pe_search_n_pairB {cA : Nat → ClassId} {a_n a_k a_e : Nat → Nat} {n_x : Int32} {n_y : Int32} {n_nodes : Int32} {n_aloneB : Int64} {n_pairA : Nat → Nat → Int64} {k_groups : Nat → Int32} {k_opened : Nat → Int32} {k_sumsA : Nat → Int64} {k_sumsB : Nat → Int64} {k_bringA : Nat → Nat → Int64} {k_bringB : Nat → Nat → Int64} {e_code : Int64} {e_alike : Int32} (n_pairB : Nat → Nat → Int64) (k : Nat) (hk : k < 9) : (wd_Pe_search cA a_n a_k a_e n_x n_y n_nodes n_aloneB n_pairA n_pairB k_groups k_opened k_sumsA k_sumsB k_bringA k_bringB e_code e_alike)[12 + k]? = some (a_n (k + 12), .inl (cA 1, 9, .inr (.inl (n_pairB k)))) := by
  rcases lt9 hk with rfl | rfl | rfl | rfl | rfl | rfl | rfl | rfl | rfl <;> rfl
theorem set_Pe_search_n_pairB {cA : Nat → ClassId} {a_n a_k a_e : Nat → Nat} {n_x : Int32} {n_y : Int32} {n_nodes : Int32} {n_aloneB : Int64} {n_pairA : Nat → Nat → Int64} {k_groups : Nat → Int32} {k_opened : Nat → Int32} {k_sumsA : Nat → Int64} {k_sumsB : Nat → Int64} {k_bringA : Nat → Nat → Int64} {k_bringB : Nat → Nat → Int64} {e_code : Int64} {e_alike : Int32} {n_pairB : Nat → Nat → Int64} {f : Nat → Int64} (k : Nat) (hk : k < 9) : (wd_Pe_search cA a_n a_k a_e n_x n_y n_nodes n_aloneB n_pairA n_pairB k_groups k_opened k_sumsA k_sumsB k_bringA k_bringB e_code e_alike).set (12 + k) (a_n (k + 12), .inl (cA 1, 9, .inr (.inl f))) = wd_Pe_search cA a_n a_k a_e n_x n_y n_nodes n_aloneB n_pairA (va_up n_pairB k f) k_groups k_opened k_sumsA k_sumsB k_bringA k_bringB e_code e_alike := by
  rcases lt9 hk with rfl | rfl | rfl | rfl | rfl | rfl | rfl | rfl | rfl <;> rfl
theorem row_Pe_search_k_bringA {cA : Nat → ClassId} {a_n a_k a_e : Nat → Nat} {n_x : Int32} {n_y : Int32} {n_nodes : Int32} {n_aloneB : Int64} {n_pairA : Nat → Nat → Int64} {n_pairB : Nat → Nat → Int64} {k_groups : Nat → Int32} {k_opened : Nat → Int32} {k_sumsA : Nat → Int64} {k_sumsB : Nat → Int64} {k_bringB : Nat → Nat → Int64} {e_code : Int64} {e_alike : Int32} (k_bringA : Nat → Nat → Int64) (k : Nat) (hk : k < 9) : (wd_Pe_search cA a_n a_k a_e n_x n_y n_nodes n_aloneB n_pairA n_pairB k_groups k_opened k_sumsA k_sumsB k_bringA k_bringB e_code e_alike)[27 + k]? = some (a_k (k + 6), .inl (cA 1, 9, .inr (.inl (k_bringA k)))) := by
  rcases lt9 hk with rfl | rfl | rfl | rfl | rfl | rfl | rfl | rfl | rfl <;> rfl
theorem set_Pe_search_k_bringA {cA : Nat → ClassId} {a_n a_k a_e : Nat → Nat} {n_x : Int32} {n_y : Int32} {n_nodes : Int32} {n_aloneB : Int64} {n_pairA : Nat → Nat → Int64} {n_pairB : Nat → Nat → Int64} {k_groups : Nat → Int32} {k_opened : Nat → Int32} {k_sumsA : Nat → Int64} {k_sumsB : Nat → Int64} {k_bringB : Nat → Nat → Int64} {e_code : Int64} {e_alike : Int32} {k_bringA : Nat → Nat → Int64} {f : Nat → Int64} (k : Nat) (hk : k < 9) : (wd_Pe_search cA a_n a_k a_e n_x n_y n_nodes n_aloneB n_pairA n_pairB k_groups k_opened k_sumsA k_sumsB k_bringA k_bringB e_code e_alike).set (27 + k) (a_k (k + 6), .inl (cA 1, 9, .inr (.inl f))) = wd_Pe_search cA a_n a_k a_e n_x n_y n_nodes n_aloneB n_pairA n_pairB k_groups k_opened k_sumsA k_sumsB (va_up k_bringA k f) k_bringB e_code e_alike := by
  rcases lt9 hk with rfl | rfl | rfl | rfl | rfl | rfl | rfl | rfl | rfl <;> rfl
theorem row_Pe_search_k_bringB {cA : Nat → ClassId} {a_n a_k a_e : Nat → Nat} {n_x : Int32} {n_y : Int32} {n_nodes : Int32} {n_aloneB : Int64} {n_pairA : Nat → Nat → Int64} {n_pairB : Nat → Nat → Int64} {k_groups : Nat → Int32} {k_opened : Nat → Int32} {k_sumsA : Nat → Int64} {k_sumsB : Nat → Int64} {k_bringA : Nat → Nat → Int64} {e_code : Int64} {e_alike : Int32} (k_bringB : Nat → Nat → Int64) (k : Nat) (hk : k < 9) : (wd_Pe_search cA a_n a_k a_e n_x n_y n_nodes n_aloneB n_pairA n_pairB k_groups k_opened k_sumsA k_sumsB k_bringA k_bringB e_code e_alike)[37 + k]? = some (a_k (k + 16), .inl (cA 1, 9, .inr (.inl (k_bringB k)))) := by
  rcases lt9 hk with rfl | rfl | rfl | rfl | rfl | rfl | rfl | rfl | rfl <;> rfl
theorem set_Pe_search_k_bringB {cA : Nat → ClassId} {a_n a_k a_e : Nat → Nat} {n_x : Int32} {n_y : Int32} {n_nodes : Int32} {n_aloneB : Int64} {n_pairA : Nat → Nat → Int64} {n_pairB : Nat → Nat → Int64} {k_groups : Nat → Int32} {k_opened : Nat → Int32} {k_sumsA : Nat → Int64} {k_sumsB : Nat → Int64} {k_bringA : Nat → Nat → Int64} {e_code : Int64} {e_alike : Int32} {k_bringB : Nat → Nat → Int64} {f : Nat → Int64} (k : Nat) (hk : k < 9) : (wd_Pe_search cA a_n a_k a_e n_x n_y n_nodes n_aloneB n_pairA n_pairB k_groups k_opened k_sumsA k_sumsB k_bringA k_bringB e_code e_alike).set (37 + k) (a_k (k + 16), .inl (cA 1, 9, .inr (.inl f))) = wd_Pe_search cA a_n a_k a_e n_x n_y n_nodes n_aloneB n_pairA n_pairB k_groups k_opened k_sumsA k_sumsB k_bringA (va_up k_bringB k f) e_code e_alike := by
  rcases lt9 hk with rfl | rfl | rfl | rfl | rfl | rfl | rfl | rfl | rfl <;> rfl
noncomputable def s_Pe_search_19 (n_nodes : Int32) (n_pairA : Nat → Nat → Int64) (n_pairB : Nat → Nat → Int64) (n_x : Int32) (n_y : Int32) (zz : Int64 × Int32 × Int32 × (Nat → Nat → Int64) × (Nat → Nat → Int64) × (Nat → Int32) × (Nat → Int32) × (Nat → Int64) × (Nat → Int64) × Int32 × Int64) (back exit : (Int64 × Int32 × Int32 × (Nat → Nat → Int64) × (Nat → Nat → Int64) × (Nat → Int32) × (Nat → Int32) × (Nat → Int64) × (Nat → Int64) × Int32 × Int64) → Option ((Nat → Int32) × (Nat → Int32) × (Nat → Int64) × (Nat → Int64) × (Nat → Nat → Int64) × (Nat → Nat → Int64) × Int64 × Int32)) : Option ((Nat → Int32) × (Nat → Int32) × (Nat → Int64) × (Nat → Int64) × (Nat → Nat → Int64) × (Nat → Nat → Int64) × Int64 × Int32) :=
  (if zz.2.1 = 0 then (exit (zz.1, zz.2.1, zz.2.2.1, zz.2.2.2.1, zz.2.2.2.2.1, zz.2.2.2.2.2.1, zz.2.2.2.2.2.2.1, zz.2.2.2.2.2.2.2.1, zz.2.2.2.2.2.2.2.2.1, zz.2.2.2.2.2.2.2.2.2.1, zz.2.2.2.2.2.2.2.2.2.2)) else (if (21147 : Int32) ≤ zz.2.2.1 then (exit (zz.1, zz.2.1, zz.2.2.1, zz.2.2.2.1, zz.2.2.2.2.1, zz.2.2.2.2.2.1, zz.2.2.2.2.2.2.1, zz.2.2.2.2.2.2.2.1, zz.2.2.2.2.2.2.2.2.1, zz.2.2.2.2.2.2.2.2.2.1, zz.2.2.2.2.2.2.2.2.2.2)) else ((m_Wa_a n_nodes zz.2.2.2.2.2.2.2.1).bind (fun r39 : Int64 => ((m_Wa_b n_nodes zz.2.2.2.2.2.2.2.2.1).bind (fun r46 : Int64 => ((m_Ga_worth n_x n_y r39 r46).bind (fun r49 : Int64 => (jn (fun z107 : Int64 × Int32 × Int64 => ((m_Wa_step n_nodes n_pairA n_pairB zz.2.2.2.2.2.1 zz.2.2.2.2.2.2.1 zz.2.2.2.2.2.2.2.1 zz.2.2.2.2.2.2.2.2.1 zz.2.2.2.1 zz.2.2.2.2.1).bind (fun r111 : Int32 × (Nat → Int32) × (Nat → Int32) × (Nat → Int64) × (Nat → Int64) × (Nat → Nat → Int64) × (Nat → Nat → Int64) => (back (z107.1, r111.1, (zz.2.2.1 + 1), r111.2.2.2.2.2.1, r111.2.2.2.2.2.2, r111.2.1, r111.2.2.1, r111.2.2.2.1, r111.2.2.2.2.1, z107.2.1, z107.2.2))))) (fun j107 => (jn (fun z68 : Unit => ((m_Wa_code n_nodes zz.2.2.2.2.2.1).bind (fun r81 : Int64 => (j107 (r49, (1 : Int32), r81))))) (fun j68 => (if zz.2.2.2.2.2.2.2.2.2.1 = 0 then (j68 ()) else (if r49 ≤ zz.1 then (if r49 = zz.1 then (j107 (zz.1, (zz.2.2.2.2.2.2.2.2.2.1 + (1 : Int32)), zz.2.2.2.2.2.2.2.2.2.2)) else (j107 (zz.1, zz.2.2.2.2.2.2.2.2.2.1, zz.2.2.2.2.2.2.2.2.2.2))) else (j68 ())))))))))))))))
noncomputable def m_Pe_search (n_x : Int32) (n_y : Int32) (n_nodes : Int32) (n_aloneB : Int64) (n_pairA : Nat → Nat → Int64) (n_pairB : Nat → Nat → Int64) (k_groups : Nat → Int32) (k_opened : Nat → Int32) (k_sumsA : Nat → Int64) (k_sumsB : Nat → Int64) (k_bringA : Nat → Nat → Int64) (k_bringB : Nat → Nat → Int64) (e_code : Int64) : Option ((Nat → Int32) × (Nat → Int32) × (Nat → Int64) × (Nat → Int64) × (Nat → Nat → Int64) × (Nat → Nat → Int64) × Int64 × Int32) :=
  ((m_Wa_start n_nodes n_aloneB n_pairA n_pairB k_groups k_opened k_sumsA k_sumsB k_bringA k_bringB).bind (fun r11 : (Nat → Int32) × (Nat → Int32) × (Nat → Int64) × (Nat → Int64) × (Nat → Nat → Int64) × (Nat → Nat → Int64) => (loopC (s_Pe_search_19 n_nodes n_pairA n_pairB n_x n_y) (fun z19 : Int64 × Int32 × Int32 × (Nat → Nat → Int64) × (Nat → Nat → Int64) × (Nat → Int32) × (Nat → Int32) × (Nat → Int64) × (Nat → Int64) × Int32 × Int64 => some (z19.2.2.2.2.2.1, z19.2.2.2.2.2.2.1, z19.2.2.2.2.2.2.2.1, z19.2.2.2.2.2.2.2.2.1, z19.2.2.2.1, z19.2.2.2.2.1, z19.2.2.2.2.2.2.2.2.2.2, z19.2.2.2.2.2.2.2.2.2.1)) FU ((0 : Int64), (1 : Int32), (0 : Int32), r11.2.2.2.2.1, r11.2.2.2.2.2, r11.1, r11.2.1, r11.2.2.1, r11.2.2.2.1, (0 : Int32), e_code))))
set_option maxHeartbeats 4000000 in
set_option maxRecDepth 100000 in
theorem c_Pe_search (l : Launch) (D : va_G) (cA : Nat → ClassId) (a_n a_k a_e : Nat → Nat) (sz : Nat) (n_x : Int32) (n_y : Int32) (n_nodes : Int32) (n_aloneB : Int64) (n_pairA : Nat → Nat → Int64) (n_pairB : Nat → Nat → Int64) (k_groups : Nat → Int32) (k_opened : Nat → Int32) (k_sumsA : Nat → Int64) (k_sumsB : Nat → Int64) (k_bringA : Nat → Nat → Int64) (k_bringB : Nat → Nat → Int64) (e_code : Int64) (e_alike : Int32)  (out : (Nat → Int32) × (Nat → Int32) × (Nat → Int64) × (Nat → Int64) × (Nat → Nat → Int64) × (Nat → Nat → Int64) × Int64 × Int32) (h : m_Pe_search n_x n_y n_nodes n_aloneB n_pairA n_pairB k_groups k_opened k_sumsA k_sumsB k_bringA k_bringB e_code = some out) : Met l y_Pe_search w_Pe_search ({ frames := 4, cells := 0, slots := 0, locals := 91 }) (va_Pc [.ref (a_e 0)] (fun U => U.heap.size = sz ∧ va_P D cls9 (wd_Pe_search cA a_n a_k a_e n_x n_y n_nodes n_aloneB n_pairA n_pairB k_groups k_opened k_sumsA k_sumsB k_bringA k_bringB e_code e_alike) U.heap ∧ va_K D cls9 (tys5 cA) U ∧ va_D (fun _ => True) (wd_Pe_search cA a_n a_k a_e n_x n_y n_nodes n_aloneB n_pairA n_pairB k_groups k_opened k_sumsA k_sumsB k_bringA k_bringB e_code e_alike))) (va_Qv (fun uu : (Nat → Int32) × (Nat → Int32) × (Nat → Int64) × (Nat → Int64) × (Nat → Nat → Int64) × (Nat → Nat → Int64) × Int64 × Int32 => uu = out) (fun (uu : (Nat → Int32) × (Nat → Int32) × (Nat → Int64) × (Nat → Int64) × (Nat → Nat → Int64) × (Nat → Nat → Int64) × Int64 × Int32) (t : State) => va_P D cls9 (wd_Pe_search cA a_n a_k a_e n_x n_y n_nodes n_aloneB n_pairA n_pairB uu.1 uu.2.1 uu.2.2.1 uu.2.2.2.1 uu.2.2.2.2.1 uu.2.2.2.2.2.1 uu.2.2.2.2.2.2.1 uu.2.2.2.2.2.2.2) t.heap ∧ va_K D cls9 (tys5 cA) t ∧ va_D (va_A (wd_Pe_search cA a_n a_k a_e n_x n_y n_nodes n_aloneB n_pairA n_pairB k_groups k_opened k_sumsA k_sumsB k_bringA k_bringB e_code e_alike) sz) (wd_Pe_search cA a_n a_k a_e n_x n_y n_nodes n_aloneB n_pairA n_pairB uu.1 uu.2.1 uu.2.2.1 uu.2.2.2.1 uu.2.2.2.2.1 uu.2.2.2.2.2.1 uu.2.2.2.2.2.2.1 uu.2.2.2.2.2.2.2)) (va_A (wd_Pe_search cA a_n a_k a_e n_x n_y n_nodes n_aloneB n_pairA n_pairB k_groups k_opened k_sumsA k_sumsB k_bringA k_bringB e_code e_alike) sz)) 0 0 (va_A (wd_Pe_search cA a_n a_k a_e n_x n_y n_nodes n_aloneB n_pairA n_pairB k_groups k_opened k_sumsA k_sumsB k_bringA k_bringB e_code e_alike) sz) := by
  refine Met.ofW (cc := b_Pe_search) (maxL := 7) (ret := (Option.none : Option Jvm.ClassFile.FieldType)) (by decide) rfl ?_
  intro p e s m args below meth c s₁ B hml hv
  obtain ⟨rfl, hsz, hP, hK, hD0⟩ := hv
  have hx := B.exec
  have hb := B.bytes
  have hr := B.returns
  have hts := atoms_spec (ws := w_Pe_search) B.pre
  have hal : ∀ w ∈ ALLW, w.before _ s = true := fun w hw => hts w (List.mem_cons_of_mem _ hw)
  have hown : s.vm.findClass R_Pe = some m.cls := findClass_of_methodNamed B.named
  have hlocks := B.notSynchronized
  subst hsz
  have hD := hD0.self (sz := s.heap.size)
  generalize hAe : va_A (wd_Pe_search cA a_n a_k a_e n_x n_y n_nodes n_aloneB n_pairA n_pairB k_groups k_opened k_sumsA k_sumsB k_bringA k_bringB e_code e_alike) s.heap.size = A at hD ⊢
  have hA : ∀ q : Nat, s.heap.size ≤ q → A q := fun q h => by rw [← hAe]; exact Or.inr h
  have hS : va_S A s.heap s.heap [] := va_S.rf
  have hl := lv_entry ([.ref (a_e 0)]) (n := 7) (Nat.le_of_ble_eq_true rfl)
  rw [lg_entry_eq]
  generalize (lg_sl ([.ref (a_e 0)]) ++ List.replicate (7 - (lg_sl ([.ref (a_e 0)])).length) Slot.unset).toArray = ls at hl ⊢
  have hl : lv_has ls 7 [(0, .ref (a_e 0))] := hl
  refine wg (fun G hG => ?_)
  refine cast (hG _ _ _ _ _ _ _).symm ?_
  obtain ⟨H, locs, hHl, hS⟩ : ∃ (H : Heap) (locs : List Loc), (H = s.heap ∧ locs = []) ∧ va_S A s.heap H locs := ⟨s.heap, [], ⟨rfl, rfl⟩, hS⟩
  have hP : va_P D cls9 (wd_Pe_search cA a_n a_k a_e n_x n_y n_nodes n_aloneB n_pairA n_pairB k_groups k_opened k_sumsA k_sumsB k_bringA k_bringB e_code e_alike) H := by rw [hHl.1]; exact hP
  rw [← hHl.1, ← hHl.2]
  clear hHl
  refine lv_lconst (v := 0) hx hb d_Pe_search_0 (by decide) ?_
  refine lv_lstore_n (lv' := [(1, .long (0 : Int64)), (0, .ref (a_e 0))]) hx hb d_Pe_search_1 rfl hl (by decide) rfl (fun ls hl => ?_)
  refine lv_aload_n hx hb d_Pe_search_2 rfl (lv_at hl 1 rfl) ?_
  refine lv_iconst (v := 0) hx hb d_Pe_search_3 (by decide) ?_
  refine va_put (ci := 3) (v := .int (0 : Int32)) (ty := .int) (C := R_Pe) (T := F_Pe) (N := 4) hx hb hal in_Pe t_Pe t_Pe_ok n_Pe hown hK hP hD hS 46 rfl rfl 3 (by decide) (hal _ kw_166) (fun _ h9 => h9) rfl (by decide +kernel) rfl rfl (Nat.le_of_ble_eq_true rfl) d_Pe_search_4 (fun H locs hP hD hS => ?_)
  have hP : va_P D cls9 (wd_Pe_search cA a_n a_k a_e n_x n_y n_nodes n_aloneB n_pairA n_pairB k_groups k_opened k_sumsA k_sumsB k_bringA k_bringB e_code (0 : Int32)) H := hP
  have hD : va_D A (wd_Pe_search cA a_n a_k a_e n_x n_y n_nodes n_aloneB n_pairA n_pairB k_groups k_opened k_sumsA k_sumsB k_bringA k_bringB e_code (0 : Int32)) := hD
  refine lv_aload_n hx hb d_Pe_search_7 rfl (lv_at hl 1 rfl) ?_
  refine va_get (ci := 3) (v := .ref (a_k 0)) (C := R_Pe) (T := F_Pe) (N := 4) hx hb hal in_Pe hown hK hP 46 rfl rfl 1 (by decide) (hal _ kw_163) (fun _ h9 => h9) rfl d_Pe_search_8 ?_
  obtain ⟨o_10, hc_9, h⟩ := bd h
  have hPc := hP.sub (ws' := (wd_Wa_start cA a_n a_k n_x n_y n_nodes n_aloneB n_pairA n_pairB k_groups k_opened k_sumsA k_sumsB k_bringA k_bringB)) [0, 1, 2, 3, 4, 5, 6, 7, 8, 9, 10, 11, 12, 13, 14, 15, 16, 17, 18, 19, 20, 21, 22, 23, 24, 25, 26, 27, 28, 29, 30, 31, 32, 33, 34, 35, 36, 37, 38, 39, 40, 41, 42, 43, 44, 45] rfl
  have hDc := hD.sub (ws' := (wd_Wa_start cA a_n a_k n_x n_y n_nodes n_aloneB n_pairA n_pairB k_groups k_opened k_sumsA k_sumsB k_bringA k_bringB)) [0, 1, 2, 3, 4, 5, 6, 7, 8, 9, 10, 11, 12, 13, 14, 15, 16, 17, 18, 19, 20, 21, 22, 23, 24, 25, 26, 27, 28, 29, 30, 31, 32, 33, 34, 35, 36, 37, 38, 39, 40, 41, 42, 43, 44, 45] (by decide) rfl
  have hFc := va_free (wc := (wd_Wa_start cA a_n a_k n_x n_y n_nodes n_aloneB n_pairA n_pairB k_groups k_opened k_sumsA k_sumsB k_bringA k_bringB)) hD hS hA [0, 1, 2, 3, 4, 5, 6, 7, 8, 9, 10, 11, 12, 13, 14, 15, 16, 17, 18, 19, 20, 21, 22, 23, 24, 25, 26, 27, 28, 29, 30, 31, 32, 33, 34, 35, 36, 37, 38, 39, 40, 41, 42, 43, 44, 45] rfl
  refine va_callv (va_runV (C := R_Wa) (As := []) (rest := []) ⟨hx, hb, hml, hown, hal⟩ (c_Wa_start l D cA a_n a_k H.size n_x n_y n_nodes n_aloneB n_pairA n_pairB k_groups k_opened k_sumsA k_sumsB k_bringA k_bringB o_10 hc_9) (cwV 0 hal (goodV kw_458 kw_459 kw_460 kw_5 kw_461) rfl rfl rfl (by decide +kernel) ⟨Nat.le_of_ble_eq_true rfl, Nat.le_of_ble_eq_true rfl⟩) ⟨fun a U g mk q => by obtain ⟨q0, q1, qP, qK, qD⟩ := q; exact ⟨q0, q1, qP, va_K.moved (u := U) (U := U.calling g mk a) (Vm.Alike.refl U.vm) qK, qD⟩, va_recv hK hP (ci := 6) (q0 := 21) rfl rfl, fun U hU hW => ⟨rfl, by rw [hU], by rw [hU]; exact hPc, va_K.moved hW.alike hK, hDc.weaken (fun _ _ _ _ => trivial)⟩⟩ rfl rfl hl.1 rfl (lv_room (Nat.le_of_ble_eq_true rfl)) d_Pe_search_11 ⟨Nat.le_of_ble_eq_true rfl, Nat.le_of_ble_eq_true rfl⟩) hS (fun q _ h => hFc q h) hFc (fun u t H1 locs ht hvm hw hB hz1 hk1 hS => ?_)
  obtain ⟨u_3, u_4, u_5, u_6, u_7, u_8⟩ := u
  subst hw
  obtain ⟨hP1, hK1, hD1⟩ := hB
  rw [ht] at hP1
  have hP1 : va_P D cls9 (wd_Wa_start cA a_n a_k n_x n_y n_nodes n_aloneB n_pairA n_pairB u_3 u_4 u_5 u_6 u_7 u_8) H1 := hP1
  obtain ⟨hP, hD⟩ := va_join (wr := ([46] : List Nat).filterMap (fun i => (wd_Pe_search cA a_n a_k a_e n_x n_y n_nodes n_aloneB n_pairA n_pairB k_groups k_opened k_sumsA k_sumsB k_bringA k_bringB e_code (0 : Int32))[i]?)) (w1 := (wd_Wa_start cA a_n a_k n_x n_y n_nodes n_aloneB n_pairA n_pairB u_3 u_4 u_5 u_6 u_7 u_8)) hP hD [0, 1, 2, 3, 4, 5, 6, 7, 8, 9, 10, 11, 12, 13, 14, 15, 16, 17, 18, 19, 20, 21, 22, 23, 24, 25, 26, 27, 28, 29, 30, 31, 32, 33, 34, 35, 36, 37, 38, 39, 40, 41, 42, 43, 44, 45] [46] rfl rfl (by decide) (by decide) hk1 hFc hP1 hD1
  generalize H1 = H at hP hS ⊢
  have hP : va_P D cls9 (wd_Pe_search cA a_n a_k a_e n_x n_y n_nodes n_aloneB n_pairA n_pairB u_3 u_4 u_5 u_6 u_7 u_8 e_code (0 : Int32)) H := hP.sub [1, 2, 3, 4, 5, 6, 7, 8, 9, 10, 11, 12, 13, 14, 15, 16, 17, 18, 19, 20, 21, 22, 23, 24, 25, 26, 27, 28, 29, 30, 31, 32, 33, 34, 35, 36, 37, 38, 39, 40, 41, 42, 43, 44, 45, 46, 0] rfl
  have hD : va_D A (wd_Pe_search cA a_n a_k a_e n_x n_y n_nodes n_aloneB n_pairA n_pairB u_3 u_4 u_5 u_6 u_7 u_8 e_code (0 : Int32)) := hD.sub [1, 2, 3, 4, 5, 6, 7, 8, 9, 10, 11, 12, 13, 14, 15, 16, 17, 18, 19, 20, 21, 22, 23, 24, 25, 26, 27, 28, 29, 30, 31, 32, 33, 34, 35, 36, 37, 38, 39, 40, 41, 42, 43, 44, 45, 46, 0] (by decide) rfl
  refine lv_iconst (v := 1) hx hb d_Pe_search_14 (by decide) ?_
  refine lv_istore_n (lv' := [(3, .int (1 : Int32)), (1, .long (0 : Int64)), (0, .ref (a_e 0))]) hx hb d_Pe_search_15 rfl hl (by decide) rfl (fun ls hl => ?_)
  refine lv_iconst (v := 0) hx hb d_Pe_search_16 (by decide) ?_
  refine lv_istore (lv' := [(4, .int (0 : Int32)), (3, .int (1 : Int32)), (1, .long (0 : Int64)), (0, .ref (a_e 0))]) hx hb d_Pe_search_17 hl (by decide) rfl (fun ls hl => ?_)
  refine cast (hG _ _ _ _ _ _ _) (lp_go2 h (fun zz : Int64 × Int32 × Int32 × (Nat → Nat → Int64) × (Nat → Nat → Int64) × (Nat → Int32) × (Nat → Int32) × (Nat → Int64) × (Nat → Int64) × Int32 × Int64 => ∀ (H : Heap) (locs : List Loc) (ls : Array Slot), va_P D cls9 (wd_Pe_search cA a_n a_k a_e n_x n_y n_nodes n_aloneB n_pairA n_pairB zz.2.2.2.2.2.1 zz.2.2.2.2.2.2.1 zz.2.2.2.2.2.2.2.1 zz.2.2.2.2.2.2.2.2.1 zz.2.2.2.1 zz.2.2.2.2.1 zz.2.2.2.2.2.2.2.2.2.2 zz.2.2.2.2.2.2.2.2.2.1) H → va_D A (wd_Pe_search cA a_n a_k a_e n_x n_y n_nodes n_aloneB n_pairA n_pairB zz.2.2.2.2.2.1 zz.2.2.2.2.2.2.1 zz.2.2.2.2.2.2.2.1 zz.2.2.2.2.2.2.2.2.1 zz.2.2.2.1 zz.2.2.2.2.1 zz.2.2.2.2.2.2.2.2.2.2 zz.2.2.2.2.2.2.2.2.2.1) → va_S A s.heap H locs → lv_has ls 7 [(4, .int zz.2.2.1), (3, .int zz.2.1), (1, .long zz.1), (0, .ref (a_e 0))] → G H locs 0 0 ls 121 []) ?_ (fun zz : Int64 × Int32 × Int32 × (Nat → Nat → Int64) × (Nat → Nat → Int64) × (Nat → Int32) × (Nat → Int32) × (Nat → Int64) × (Nat → Int64) × Int32 × Int64 => ∀ (H : Heap) (locs : List Loc) (ls : Array Slot), va_P D cls9 (wd_Pe_search cA a_n a_k a_e n_x n_y n_nodes n_aloneB n_pairA n_pairB zz.2.2.2.2.2.1 zz.2.2.2.2.2.2.1 zz.2.2.2.2.2.2.2.1 zz.2.2.2.2.2.2.2.2.1 zz.2.2.2.1 zz.2.2.2.2.1 zz.2.2.2.2.2.2.2.2.2.2 zz.2.2.2.2.2.2.2.2.2.1) H → va_D A (wd_Pe_search cA a_n a_k a_e n_x n_y n_nodes n_aloneB n_pairA n_pairB zz.2.2.2.2.2.1 zz.2.2.2.2.2.2.1 zz.2.2.2.2.2.2.2.1 zz.2.2.2.2.2.2.2.2.1 zz.2.2.2.1 zz.2.2.2.2.1 zz.2.2.2.2.2.2.2.2.2.2 zz.2.2.2.2.2.2.2.2.2.1) → va_S A s.heap H locs → lv_has ls 7 [(4, .int zz.2.2.1), (3, .int zz.2.1), (1, .long zz.1), (0, .ref (a_e 0))] → G H locs 0 0 ls 19 []) ?_ _ _ ls hP hD hS (lv_sub hl [0, 1, 2, 3] rfl))
  · intro zz h H locs ls hP hD hS hl
    obtain ⟨x1_19e, x3_19e, x4_19e, k_bringA_19e, k_bringB_19e, k_groups_19e, k_opened_19e, k_sumsA_19e, k_sumsB_19e, e_alike_19e, e_code_19e⟩ := zz
    have hP : va_P D cls9 (wd_Pe_search cA a_n a_k a_e n_x n_y n_nodes n_aloneB n_pairA n_pairB k_groups_19e k_opened_19e k_sumsA_19e k_sumsB_19e k_bringA_19e k_bringB_19e e_code_19e e_alike_19e) H := hP
    have hD : va_D A (wd_Pe_search cA a_n a_k a_e n_x n_y n_nodes n_aloneB n_pairA n_pairB k_groups_19e k_opened_19e k_sumsA_19e k_sumsB_19e k_bringA_19e k_bringB_19e e_code_19e e_alike_19e) := hD
    have hl : lv_has ls 7 [(4, .int x4_19e), (3, .int x3_19e), (1, .long x1_19e), (0, .ref (a_e 0))] := hl
    refine cast (hG _ _ _ _ _ _ _).symm ?_
    exact W.vret hx hb hr (fun t ht hW => ⟨⟨(k_groups_19e, k_opened_19e, k_sumsA_19e, k_sumsB_19e, k_bringA_19e, k_bringB_19e, e_code_19e, e_alike_19e), rfl, Option.some.inj h, by rw [ht]; exact hP, va_K.moved hW.alike hK, hD⟩, hS.F ht⟩) hS.2.2 d_Pe_search_121
  · intro back exit zz hB_19 hE_19 h H locs ls hP hD hS hl
    obtain ⟨x1_19, x3_19, x4_19, k_bringA_19, k_bringB_19, k_groups_19, k_opened_19, k_sumsA_19, k_sumsB_19, e_alike_19, e_code_19⟩ := zz
    have hP : va_P D cls9 (wd_Pe_search cA a_n a_k a_e n_x n_y n_nodes n_aloneB n_pairA n_pairB k_groups_19 k_opened_19 k_sumsA_19 k_sumsB_19 k_bringA_19 k_bringB_19 e_code_19 e_alike_19) H := hP
    have hD : va_D A (wd_Pe_search cA a_n a_k a_e n_x n_y n_nodes n_aloneB n_pairA n_pairB k_groups_19 k_opened_19 k_sumsA_19 k_sumsB_19 k_bringA_19 k_bringB_19 e_code_19 e_alike_19) := hD
    have hl : lv_has ls 7 [(4, .int x4_19), (3, .int x3_19), (1, .long x1_19), (0, .ref (a_e 0))] := hl
    refine cast (hG _ _ _ _ _ _ _).symm ?_
    refine lv_iload_n hx hb d_Pe_search_19 rfl (lv_at hl 1 rfl) ?_
    refine lv_if_eq (tgt := 121) hx hb d_Pe_search_20 (by decide) (fun c_11 => ?_) (fun c_11 => ?_)
    · have h := ifp (c_11) h
      exact cast (hG _ _ _ _ _ _ _) (hE_19 (x1_19, x3_19, x4_19, k_bringA_19, k_bringB_19, k_groups_19, k_opened_19, k_sumsA_19, k_sumsB_19, e_alike_19, e_code_19) h _ _ _ hP hD hS (lv_sub hl [0, 1, 2, 3] rfl))
    · have h := ifn (c_11) h
      refine lv_iload hx hb d_Pe_search_23 (lv_at hl 0 rfl) ?_
      refine lv_sipush (v := 21147) hx hb d_Pe_search_25 (by decide) ?_
      refine lv_icmp_ge (tgt := 121) hx hb d_Pe_search_28 (by decide) (fun c_12 => ?_) (fun c_12 => ?_)
      · have h := ifp (c_12) h
        exact cast (hG _ _ _ _ _ _ _) (hE_19 (x1_19, x3_19, x4_19, k_bringA_19, k_bringB_19, k_groups_19, k_opened_19, k_sumsA_19, k_sumsB_19, e_alike_19, e_code_19) h _ _ _ hP hD hS (lv_sub hl [0, 1, 2, 3] rfl))
      · have h := ifn (c_12) h
        refine lv_aload_n hx hb d_Pe_search_31 rfl (lv_at hl 3 rfl) ?_
        refine va_get (ci := 3) (v := .ref (a_n 0)) (C := R_Pe) (T := F_Pe) (N := 4) hx hb hal in_Pe hown hK hP 46 rfl rfl 0 (by decide) (hal _ kw_162) (fun _ h9 => h9) rfl d_Pe_search_32 ?_
        refine lv_aload_n hx hb d_Pe_search_35 rfl (lv_at hl 3 rfl) ?_
        refine va_get (ci := 3) (v := .ref (a_k 0)) (C := R_Pe) (T := F_Pe) (N := 4) hx hb hal in_Pe hown hK hP 46 rfl rfl 1 (by decide) (hal _ kw_163) (fun _ h9 => h9) rfl d_Pe_search_36 ?_
        obtain ⟨o_16, hc_15, h⟩ := bd h
        have hPc := hP.sub (ws' := (wd_Wa_a cA a_n a_k n_x n_y n_nodes n_aloneB k_sumsA_19)) [0, 21, 24] rfl
        have hDc := hD.sub (ws' := (wd_Wa_a cA a_n a_k n_x n_y n_nodes n_aloneB k_sumsA_19)) [0, 21, 24] (by decide) rfl
        have hFc := va_free (wc := (wd_Wa_a cA a_n a_k n_x n_y n_nodes n_aloneB k_sumsA_19)) hD hS hA [0, 21, 24] rfl
        refine va_calll (va_runV (C := R_Wa) (As := []) (rest := [.ref (a_n 0)]) ⟨hx, hb, hml, hown, hal⟩ (c_Wa_a l D cA a_n a_k H.size n_x n_y n_nodes n_aloneB k_sumsA_19 o_16 hc_15) (cwV 0 hal (goodV kw_478 kw_479 kw_480 kw_5 kw_481) rfl rfl rfl (by decide +kernel) ⟨Nat.le_of_ble_eq_true rfl, Nat.le_of_ble_eq_true rfl⟩) ⟨fun a U g mk q => by obtain ⟨q0, q1, qP, qK, qD⟩ := q; exact ⟨q0, q1, qP, va_K.moved (u := U) (U := U.calling g mk a) (Vm.Alike.refl U.vm) qK, qD⟩, va_recv hK hP (ci := 6) (q0 := 21) rfl rfl, fun U hU hW => ⟨rfl, by rw [hU], by rw [hU]; exact hPc, va_K.moved hW.alike hK, hDc.weaken (fun _ _ _ _ => trivial)⟩⟩ rfl rfl hl.1 rfl (lv_room (Nat.le_of_ble_eq_true rfl)) d_Pe_search_39 ⟨Nat.le_of_ble_eq_true rfl, Nat.le_of_ble_eq_true rfl⟩) hS (fun q _ h => hFc q h) hFc (fun r_14 u t H1 locs ht hvm hw hB hz1 hk1 hS => ?_)
        subst hw
        obtain ⟨hP1, hK1, hD1⟩ := hB
        rw [ht] at hP1
        have hP1 : va_P D cls9 (wd_Wa_a cA a_n a_k n_x n_y n_nodes n_aloneB k_sumsA_19) H1 := hP1
        obtain ⟨hP, hD⟩ := va_join (wr := ([1, 2, 3, 4, 5, 6, 7, 8, 9, 10, 11, 12, 13, 14, 15, 16, 17, 18, 19, 20, 22, 23, 25, 26, 27, 28, 29, 30, 31, 32, 33, 34, 35, 36, 37, 38, 39, 40, 41, 42, 43, 44, 45, 46] : List Nat).filterMap (fun i => (wd_Pe_search cA a_n a_k a_e n_x n_y n_nodes n_aloneB n_pairA n_pairB k_groups_19 k_opened_19 k_sumsA_19 k_sumsB_19 k_bringA_19 k_bringB_19 e_code_19 e_alike_19)[i]?)) (w1 := (wd_Wa_a cA a_n a_k n_x n_y n_nodes n_aloneB k_sumsA_19)) hP hD [0, 21, 24] [1, 2, 3, 4, 5, 6, 7, 8, 9, 10, 11, 12, 13, 14, 15, 16, 17, 18, 19, 20, 22, 23, 25, 26, 27, 28, 29, 30, 31, 32, 33, 34, 35, 36, 37, 38, 39, 40, 41, 42, 43, 44, 45, 46] rfl rfl (by decide) (by decide) hk1 hFc hP1 hD1
        generalize H1 = H at hP hS ⊢
        have hP : va_P D cls9 (wd_Pe_search cA a_n a_k a_e n_x n_y n_nodes n_aloneB n_pairA n_pairB k_groups_19 k_opened_19 k_sumsA_19 k_sumsB_19 k_bringA_19 k_bringB_19 e_code_19 e_alike_19) H := hP.sub [44, 0, 1, 2, 3, 4, 5, 6, 7, 8, 9, 10, 11, 12, 13, 14, 15, 16, 17, 18, 19, 45, 20, 21, 46, 22, 23, 24, 25, 26, 27, 28, 29, 30, 31, 32, 33, 34, 35, 36, 37, 38, 39, 40, 41, 42, 43] rfl
        have hD : va_D A (wd_Pe_search cA a_n a_k a_e n_x n_y n_nodes n_aloneB n_pairA n_pairB k_groups_19 k_opened_19 k_sumsA_19 k_sumsB_19 k_bringA_19 k_bringB_19 e_code_19 e_alike_19) := hD.sub [44, 0, 1, 2, 3, 4, 5, 6, 7, 8, 9, 10, 11, 12, 13, 14, 15, 16, 17, 18, 19, 45, 20, 21, 46, 22, 23, 24, 25, 26, 27, 28, 29, 30, 31, 32, 33, 34, 35, 36, 37, 38, 39, 40, 41, 42, 43] (by decide) rfl
        refine lv_aload_n hx hb d_Pe_search_42 rfl (lv_at hl 3 rfl) ?_
        refine va_get (ci := 3) (v := .ref (a_k 0)) (C := R_Pe) (T := F_Pe) (N := 4) hx hb hal in_Pe hown hK hP 46 rfl rfl 1 (by decide) (hal _ kw_163) (fun _ h9 => h9) rfl d_Pe_search_43 ?_
        obtain ⟨o_20, hc_19, h⟩ := bd h
        have hPc := hP.sub (ws' := (wd_Wa_b cA a_n a_k n_x n_y n_nodes n_aloneB k_sumsB_19)) [0, 21, 25] rfl
        have hDc := hD.sub (ws' := (wd_Wa_b cA a_n a_k n_x n_y n_nodes n_aloneB k_sumsB_19)) [0, 21, 25] (by decide) rfl
        have hFc := va_free (wc := (wd_Wa_b cA a_n a_k n_x n_y n_nodes n_aloneB k_sumsB_19)) hD hS hA [0, 21, 25] rfl
        refine va_calll (va_runV (C := R_Wa) (As := []) (rest := [.long r_14, .ref (a_n 0)]) ⟨hx, hb, hml, hown, hal⟩ (c_Wa_b l D cA a_n a_k H.size n_x n_y n_nodes n_aloneB k_sumsB_19 o_20 hc_19) (cwV 0 hal (goodV kw_482 kw_483 kw_484 kw_5 kw_485) rfl rfl rfl (by decide +kernel) ⟨Nat.le_of_ble_eq_true rfl, Nat.le_of_ble_eq_true rfl⟩) ⟨fun a U g mk q => by obtain ⟨q0, q1, qP, qK, qD⟩ := q; exact ⟨q0, q1, qP, va_K.moved (u := U) (U := U.calling g mk a) (Vm.Alike.refl U.vm) qK, qD⟩, va_recv hK hP (ci := 6) (q0 := 21) rfl rfl, fun U hU hW => ⟨rfl, by rw [hU], by rw [hU]; exact hPc, va_K.moved hW.alike hK, hDc.weaken (fun _ _ _ _ => trivial)⟩⟩ rfl rfl hl.1 rfl (lv_room (Nat.le_of_ble_eq_true rfl)) d_Pe_search_46 ⟨Nat.le_of_ble_eq_true rfl, Nat.le_of_ble_eq_true rfl⟩) hS (fun q _ h => hFc q h) hFc (fun r_18 u t H1 locs ht hvm hw hB hz1 hk1 hS => ?_)
        subst hw
        obtain ⟨hP1, hK1, hD1⟩ := hB
        rw [ht] at hP1
        have hP1 : va_P D cls9 (wd_Wa_b cA a_n a_k n_x n_y n_nodes n_aloneB k_sumsB_19) H1 := hP1
        obtain ⟨hP, hD⟩ := va_join (wr := ([1, 2, 3, 4, 5, 6, 7, 8, 9, 10, 11, 12, 13, 14, 15, 16, 17, 18, 19, 20, 22, 23, 24, 26, 27, 28, 29, 30, 31, 32, 33, 34, 35, 36, 37, 38, 39, 40, 41, 42, 43, 44, 45, 46] : List Nat).filterMap (fun i => (wd_Pe_search cA a_n a_k a_e n_x n_y n_nodes n_aloneB n_pairA n_pairB k_groups_19 k_opened_19 k_sumsA_19 k_sumsB_19 k_bringA_19 k_bringB_19 e_code_19 e_alike_19)[i]?)) (w1 := (wd_Wa_b cA a_n a_k n_x n_y n_nodes n_aloneB k_sumsB_19)) hP hD [0, 21, 25] [1, 2, 3, 4, 5, 6, 7, 8, 9, 10, 11, 12, 13, 14, 15, 16, 17, 18, 19, 20, 22, 23, 24, 26, 27, 28, 29, 30, 31, 32, 33, 34, 35, 36, 37, 38, 39, 40, 41, 42, 43, 44, 45, 46] rfl rfl (by decide) (by decide) hk1 hFc hP1 hD1
        generalize H1 = H at hP hS ⊢
        have hP : va_P D cls9 (wd_Pe_search cA a_n a_k a_e n_x n_y n_nodes n_aloneB n_pairA n_pairB k_groups_19 k_opened_19 k_sumsA_19 k_sumsB_19 k_bringA_19 k_bringB_19 e_code_19 e_alike_19) H := hP.sub [44, 0, 1, 2, 3, 4, 5, 6, 7, 8, 9, 10, 11, 12, 13, 14, 15, 16, 17, 18, 19, 45, 20, 21, 22, 46, 23, 24, 25, 26, 27, 28, 29, 30, 31, 32, 33, 34, 35, 36, 37, 38, 39, 40, 41, 42, 43] rfl
        have hD : va_D A (wd_Pe_search cA a_n a_k a_e n_x n_y n_nodes n_aloneB n_pairA n_pairB k_groups_19 k_opened_19 k_sumsA_19 k_sumsB_19 k_bringA_19 k_bringB_19 e_code_19 e_alike_19) := hD.sub [44, 0, 1, 2, 3, 4, 5, 6, 7, 8, 9, 10, 11, 12, 13, 14, 15, 16, 17, 18, 19, 45, 20, 21, 22, 46, 23, 24, 25, 26, 27, 28, 29, 30, 31, 32, 33, 34, 35, 36, 37, 38, 39, 40, 41, 42, 43] (by decide) rfl
        obtain ⟨o_24, hc_23, h⟩ := bd h
        have hPc := hP.sub (ws' := (wd_Ga_worth cA a_n n_x n_y n_nodes n_aloneB)) [0] rfl
        have hDc := hD.sub (ws' := (wd_Ga_worth cA a_n n_x n_y n_nodes n_aloneB)) [0] (by decide) rfl
        have hFc := va_free (wc := (wd_Ga_worth cA a_n n_x n_y n_nodes n_aloneB)) hD hS hA [0] rfl
        refine va_calll (va_runV (C := R_Ga) (As := [.long r_14, .long r_18]) (rest := []) ⟨hx, hb, hml, hown, hal⟩ (c_Ga_worth l D cA a_n H.size n_x n_y n_nodes n_aloneB r_14 r_18 o_24 hc_23) (cwV 2 hal (goodV kw_486 kw_397 kw_398 kw_3 kw_399) rfl rfl rfl (by decide +kernel) ⟨Nat.le_of_ble_eq_true rfl, Nat.le_of_ble_eq_true rfl⟩) ⟨fun a U g mk q => by obtain ⟨q0, q1, qP, qK, qD⟩ := q; exact ⟨q0, q1, qP, va_K.moved (u := U) (U := U.calling g mk a) (Vm.Alike.refl U.vm) qK, qD⟩, va_recv hK hP (ci := 0) (q0 := 0) rfl rfl, fun U hU hW => ⟨rfl, by rw [hU], by rw [hU]; exact hPc, va_K.moved hW.alike hK, hDc.weaken (fun _ _ _ _ => trivial)⟩⟩ rfl rfl hl.1 rfl (lv_room (Nat.le_of_ble_eq_true rfl)) d_Pe_search_49 ⟨Nat.le_of_ble_eq_true rfl, Nat.le_of_ble_eq_true rfl⟩) hS (fun q _ h => hFc q h) hFc (fun r_22 u t H1 locs ht hvm hw hB hz1 hk1 hS => ?_)
        subst hw
        obtain ⟨hP1, hK1, hD1⟩ := hB
        rw [ht] at hP1
        have hP1 : va_P D cls9 (wd_Ga_worth cA a_n n_x n_y n_nodes n_aloneB) H1 := hP1
        obtain ⟨hP, hD⟩ := va_join (wr := ([1, 2, 3, 4, 5, 6, 7, 8, 9, 10, 11, 12, 13, 14, 15, 16, 17, 18, 19, 20, 21, 22, 23, 24, 25, 26, 27, 28, 29, 30, 31, 32, 33, 34, 35, 36, 37, 38, 39, 40, 41, 42, 43, 44, 45, 46] : List Nat).filterMap (fun i => (wd_Pe_search cA a_n a_k a_e n_x n_y n_nodes n_aloneB n_pairA n_pairB k_groups_19 k_opened_19 k_sumsA_19 k_sumsB_19 k_bringA_19 k_bringB_19 e_code_19 e_alike_19)[i]?)) (w1 := (wd_Ga_worth cA a_n n_x n_y n_nodes n_aloneB)) hP hD [0] [1, 2, 3, 4, 5, 6, 7, 8, 9, 10, 11, 12, 13, 14, 15, 16, 17, 18, 19, 20, 21, 22, 23, 24, 25, 26, 27, 28, 29, 30, 31, 32, 33, 34, 35, 36, 37, 38, 39, 40, 41, 42, 43, 44, 45, 46] rfl rfl (by decide) (by decide) hk1 hFc hP1 hD1
        generalize H1 = H at hP hS ⊢
        have hP : va_P D cls9 (wd_Pe_search cA a_n a_k a_e n_x n_y n_nodes n_aloneB n_pairA n_pairB k_groups_19 k_opened_19 k_sumsA_19 k_sumsB_19 k_bringA_19 k_bringB_19 e_code_19 e_alike_19) H := hP.sub [46, 0, 1, 2, 3, 4, 5, 6, 7, 8, 9, 10, 11, 12, 13, 14, 15, 16, 17, 18, 19, 20, 21, 22, 23, 24, 25, 26, 27, 28, 29, 30, 31, 32, 33, 34, 35, 36, 37, 38, 39, 40, 41, 42, 43, 44, 45] rfl
        have hD : va_D A (wd_Pe_search cA a_n a_k a_e n_x n_y n_nodes n_aloneB n_pairA n_pairB k_groups_19 k_opened_19 k_sumsA_19 k_sumsB_19 k_bringA_19 k_bringB_19 e_code_19 e_alike_19) := hD.sub [46, 0, 1, 2, 3, 4, 5, 6, 7, 8, 9, 10, 11, 12, 13, 14, 15, 16, 17, 18, 19, 20, 21, 22, 23, 24, 25, 26, 27, 28, 29, 30, 31, 32, 33, 34, 35, 36, 37, 38, 39, 40, 41, 42, 43, 44, 45] (by decide) rfl
        refine lv_lstore (lv' := [(5, .long r_22), (4, .int x4_19), (3, .int x3_19), (1, .long x1_19), (0, .ref (a_e 0))]) hx hb d_Pe_search_52 hl (by decide) rfl (fun ls hl => ?_)
        refine lv_aload_n hx hb d_Pe_search_54 rfl (lv_at hl 4 rfl) ?_
        refine va_get (ci := 3) (v := .int e_alike_19) (C := R_Pe) (T := F_Pe) (N := 4) hx hb hal in_Pe hown hK hP 46 rfl rfl 3 (by decide) (hal _ kw_166) (fun _ h9 => h9) rfl d_Pe_search_55 ?_
        refine cast (hG _ _ _ _ _ _ _) (jn_go h (fun zz : Int64 × Int32 × Int64 => ∀ (H : Heap) (locs : List Loc) (ls : Array Slot), va_P D cls9 (wd_Pe_search cA a_n a_k a_e n_x n_y n_nodes n_aloneB n_pairA n_pairB k_groups_19 k_opened_19 k_sumsA_19 k_sumsB_19 k_bringA_19 k_bringB_19 zz.2.2 zz.2.1) H → va_D A (wd_Pe_search cA a_n a_k a_e n_x n_y n_nodes n_aloneB n_pairA n_pairB k_groups_19 k_opened_19 k_sumsA_19 k_sumsB_19 k_bringA_19 k_bringB_19 zz.2.2 zz.2.1) → va_S A s.heap H locs → lv_has ls 7 [(5, .long r_22), (4, .int x4_19), (3, .int x3_19), (1, .long zz.1), (0, .ref (a_e 0))] → G H locs 0 0 ls 107 []) ?_ ?_)
        · intro zz h H locs ls hP hD hS hl
          obtain ⟨x1_107j, e_alike_107j, e_code_107j⟩ := zz
          have hP : va_P D cls9 (wd_Pe_search cA a_n a_k a_e n_x n_y n_nodes n_aloneB n_pairA n_pairB k_groups_19 k_opened_19 k_sumsA_19 k_sumsB_19 k_bringA_19 k_bringB_19 e_code_107j e_alike_107j) H := hP
          have hD : va_D A (wd_Pe_search cA a_n a_k a_e n_x n_y n_nodes n_aloneB n_pairA n_pairB k_groups_19 k_opened_19 k_sumsA_19 k_sumsB_19 k_bringA_19 k_bringB_19 e_code_107j e_alike_107j) := hD
          have hl : lv_has ls 7 [(5, .long r_22), (4, .int x4_19), (3, .int x3_19), (1, .long x1_107j), (0, .ref (a_e 0))] := hl
          refine cast (hG _ _ _ _ _ _ _).symm ?_
          refine lv_aload_n hx hb d_Pe_search_107 rfl (lv_at hl 4 rfl) ?_
          refine va_get (ci := 3) (v := .ref (a_k 0)) (C := R_Pe) (T := F_Pe) (N := 4) hx hb hal in_Pe hown hK hP 46 rfl rfl 1 (by decide) (hal _ kw_163) (fun _ h9 => h9) rfl d_Pe_search_108 ?_
          obtain ⟨o_34, hc_33, h⟩ := bd h
          have hPc := hP.sub (ws' := (wd_Wa_step cA a_n a_k n_x n_y n_nodes n_aloneB n_pairA n_pairB k_groups_19 k_opened_19 k_sumsA_19 k_sumsB_19 k_bringA_19 k_bringB_19)) [0, 1, 2, 3, 4, 5, 6, 7, 8, 9, 10, 11, 12, 13, 14, 15, 16, 17, 18, 19, 20, 21, 22, 23, 24, 25, 26, 27, 28, 29, 30, 31, 32, 33, 34, 35, 36, 37, 38, 39, 40, 41, 42, 43, 44, 45] rfl
          have hDc := hD.sub (ws' := (wd_Wa_step cA a_n a_k n_x n_y n_nodes n_aloneB n_pairA n_pairB k_groups_19 k_opened_19 k_sumsA_19 k_sumsB_19 k_bringA_19 k_bringB_19)) [0, 1, 2, 3, 4, 5, 6, 7, 8, 9, 10, 11, 12, 13, 14, 15, 16, 17, 18, 19, 20, 21, 22, 23, 24, 25, 26, 27, 28, 29, 30, 31, 32, 33, 34, 35, 36, 37, 38, 39, 40, 41, 42, 43, 44, 45] (by decide) rfl
          have hFc := va_free (wc := (wd_Wa_step cA a_n a_k n_x n_y n_nodes n_aloneB n_pairA n_pairB k_groups_19 k_opened_19 k_sumsA_19 k_sumsB_19 k_bringA_19 k_bringB_19)) hD hS hA [0, 1, 2, 3, 4, 5, 6, 7, 8, 9, 10, 11, 12, 13, 14, 15, 16, 17, 18, 19, 20, 21, 22, 23, 24, 25, 26, 27, 28, 29, 30, 31, 32, 33, 34, 35, 36, 37, 38, 39, 40, 41, 42, 43, 44, 45] rfl
          refine va_calli (va_runV (C := R_Wa) (As := []) (rest := []) ⟨hx, hb, hml, hown, hal⟩ (c_Wa_step l D cA a_n a_k H.size n_x n_y n_nodes n_aloneB n_pairA n_pairB k_groups_19 k_opened_19 k_sumsA_19 k_sumsB_19 k_bringA_19 k_bringB_19 o_34 hc_33) (cwV 0 hal (goodV kw_491 kw_492 kw_493 kw_5 kw_494) rfl rfl rfl (by decide +kernel) ⟨Nat.le_of_ble_eq_true rfl, Nat.le_of_ble_eq_true rfl⟩) ⟨fun a U g mk q => by obtain ⟨q0, q1, qP, qK, qD⟩ := q; exact ⟨q0, q1, qP, va_K.moved (u := U) (U := U.calling g mk a) (Vm.Alike.refl U.vm) qK, qD⟩, va_recv hK hP (ci := 6) (q0 := 21) rfl rfl, fun U hU hW => ⟨rfl, by rw [hU], by rw [hU]; exact hPc, va_K.moved hW.alike hK, hDc.weaken (fun _ _ _ _ => trivial)⟩⟩ rfl rfl hl.1 rfl (lv_room (Nat.le_of_ble_eq_true rfl)) d_Pe_search_111 ⟨Nat.le_of_ble_eq_true rfl, Nat.le_of_ble_eq_true rfl⟩) hS (fun q _ h => hFc q h) hFc (fun r_26 u t H1 locs ht hvm hw hB hz1 hk1 hS => ?_)
          obtain ⟨u_27, u_28, u_29, u_30, u_31, u_32⟩ := u
          subst hw
          obtain ⟨hP1, hK1, hD1⟩ := hB
          rw [ht] at hP1
          have hP1 : va_P D cls9 (wd_Wa_step cA a_n a_k n_x n_y n_nodes n_aloneB n_pairA n_pairB u_27 u_28 u_29 u_30 u_31 u_32) H1 := hP1
          obtain ⟨hP, hD⟩ := va_join (wr := ([46] : List Nat).filterMap (fun i => (wd_Pe_search cA a_n a_k a_e n_x n_y n_nodes n_aloneB n_pairA n_pairB k_groups_19 k_opened_19 k_sumsA_19 k_sumsB_19 k_bringA_19 k_bringB_19 e_code_107j e_alike_107j)[i]?)) (w1 := (wd_Wa_step cA a_n a_k n_x n_y n_nodes n_aloneB n_pairA n_pairB u_27 u_28 u_29 u_30 u_31 u_32)) hP hD [0, 1, 2, 3, 4, 5, 6, 7, 8, 9, 10, 11, 12, 13, 14, 15, 16, 17, 18, 19, 20, 21, 22, 23, 24, 25, 26, 27, 28, 29, 30, 31, 32, 33, 34, 35, 36, 37, 38, 39, 40, 41, 42, 43, 44, 45] [46] rfl rfl (by decide) (by decide) hk1 hFc hP1 hD1
          generalize H1 = H at hP hS ⊢
          have hP : va_P D cls9 (wd_Pe_search cA a_n a_k a_e n_x n_y n_nodes n_aloneB n_pairA n_pairB u_27 u_28 u_29 u_30 u_31 u_32 e_code_107j e_alike_107j) H := hP.sub [1, 2, 3, 4, 5, 6, 7, 8, 9, 10, 11, 12, 13, 14, 15, 16, 17, 18, 19, 20, 21, 22, 23, 24, 25, 26, 27, 28, 29, 30, 31, 32, 33, 34, 35, 36, 37, 38, 39, 40, 41, 42, 43, 44, 45, 46, 0] rfl
          have hD : va_D A (wd_Pe_search cA a_n a_k a_e n_x n_y n_nodes n_aloneB n_pairA n_pairB u_27 u_28 u_29 u_30 u_31 u_32 e_code_107j e_alike_107j) := hD.sub [1, 2, 3, 4, 5, 6, 7, 8, 9, 10, 11, 12, 13, 14, 15, 16, 17, 18, 19, 20, 21, 22, 23, 24, 25, 26, 27, 28, 29, 30, 31, 32, 33, 34, 35, 36, 37, 38, 39, 40, 41, 42, 43, 44, 45, 46, 0] (by decide) rfl
          refine lv_istore_n (lv' := [(3, .int r_26), (5, .long r_22), (4, .int x4_19), (1, .long x1_107j), (0, .ref (a_e 0))]) hx hb d_Pe_search_114 rfl hl (by decide) rfl (fun ls hl => ?_)
          refine lv_iinc (v := (x4_19 + 1)) (lv' := [(4, .int (x4_19 + 1)), (3, .int r_26), (5, .long r_22), (1, .long x1_107j), (0, .ref (a_e 0))]) hx hb d_Pe_search_115 hl (k := 2) rfl rfl (by decide) rfl (fun ls hl => ?_)
          refine lv_goto (tgt := 19) hx hb d_Pe_search_118 (by decide) ?_
          exact cast (hG _ _ _ _ _ _ _) (hB_19 (x1_107j, r_26, (x4_19 + 1), u_31, u_32, u_27, u_28, u_29, u_30, e_alike_107j, e_code_107j) h _ _ _ hP hD hS (lv_sub hl [0, 1, 3, 4] rfl))
        · intro j107 hJ_107 h
          refine cast (hG _ _ _ _ _ _ _).symm ?_
          refine cast (hG _ _ _ _ _ _ _) (jn_go h (fun zz : Unit => ∀ (H : Heap) (locs : List Loc) (ls : Array Slot), va_P D cls9 (wd_Pe_search cA a_n a_k a_e n_x n_y n_nodes n_aloneB n_pairA n_pairB k_groups_19 k_opened_19 k_sumsA_19 k_sumsB_19 k_bringA_19 k_bringB_19 e_code_19 e_alike_19) H → va_D A (wd_Pe_search cA a_n a_k a_e n_x n_y n_nodes n_aloneB n_pairA n_pairB k_groups_19 k_opened_19 k_sumsA_19 k_sumsB_19 k_bringA_19 k_bringB_19 e_code_19 e_alike_19) → va_S A s.heap H locs → lv_has ls 7 [(5, .long r_22), (4, .int x4_19), (3, .int x3_19), (1, .long x1_19), (0, .ref (a_e 0))] → G H locs 0 0 ls 68 []) ?_ ?_)
          · intro zz h H locs ls hP hD hS hl
            have hP : va_P D cls9 (wd_Pe_search cA a_n a_k a_e n_x n_y n_nodes n_aloneB n_pairA n_pairB k_groups_19 k_opened_19 k_sumsA_19 k_sumsB_19 k_bringA_19 k_bringB_19 e_code_19 e_alike_19) H := hP
            have hD : va_D A (wd_Pe_search cA a_n a_k a_e n_x n_y n_nodes n_aloneB n_pairA n_pairB k_groups_19 k_opened_19 k_sumsA_19 k_sumsB_19 k_bringA_19 k_bringB_19 e_code_19 e_alike_19) := hD
            have hl : lv_has ls 7 [(5, .long r_22), (4, .int x4_19), (3, .int x3_19), (1, .long x1_19), (0, .ref (a_e 0))] := hl
            refine cast (hG _ _ _ _ _ _ _).symm ?_
            refine lv_lload hx hb d_Pe_search_68 (lv_at hl 0 rfl) ?_
            refine lv_lstore_n (lv' := [(1, .long r_22), (5, .long r_22), (4, .int x4_19), (3, .int x3_19), (0, .ref (a_e 0))]) hx hb d_Pe_search_70 rfl hl (by decide) rfl (fun ls hl => ?_)
            refine lv_aload_n hx hb d_Pe_search_71 rfl (lv_at hl 4 rfl) ?_
            refine lv_iconst (v := 1) hx hb d_Pe_search_72 (by decide) ?_
            refine va_put (ci := 3) (v := .int (1 : Int32)) (ty := .int) (C := R_Pe) (T := F_Pe) (N := 4) hx hb hal in_Pe t_Pe t_Pe_ok n_Pe hown hK hP hD hS 46 rfl rfl 3 (by decide) (hal _ kw_166) (fun _ h9 => h9) rfl (by decide +kernel) rfl rfl (Nat.le_of_ble_eq_true rfl) d_Pe_search_73 (fun H locs hP hD hS => ?_)
            have hP : va_P D cls9 (wd_Pe_search cA a_n a_k a_e n_x n_y n_nodes n_aloneB n_pairA n_pairB k_groups_19 k_opened_19 k_sumsA_19 k_sumsB_19 k_bringA_19 k_bringB_19 e_code_19 (1 : Int32)) H := hP
            have hD : va_D A (wd_Pe_search cA a_n a_k a_e n_x n_y n_nodes n_aloneB n_pairA n_pairB k_groups_19 k_opened_19 k_sumsA_19 k_sumsB_19 k_bringA_19 k_bringB_19 e_code_19 (1 : Int32)) := hD
            refine lv_aload_n hx hb d_Pe_search_76 rfl (lv_at hl 4 rfl) ?_
            refine lv_aload_n hx hb d_Pe_search_77 rfl (lv_at hl 4 rfl) ?_
            refine va_get (ci := 3) (v := .ref (a_k 0)) (C := R_Pe) (T := F_Pe) (N := 4) hx hb hal in_Pe hown hK hP 46 rfl rfl 1 (by decide) (hal _ kw_163) (fun _ h9 => h9) rfl d_Pe_search_78 ?_
            obtain ⟨o_38, hc_37, h⟩ := bd h
            have hPc := hP.sub (ws' := (wd_Wa_code cA a_n a_k n_x n_y n_nodes n_aloneB k_groups_19)) [0, 21, 22] rfl
            have hDc := hD.sub (ws' := (wd_Wa_code cA a_n a_k n_x n_y n_nodes n_aloneB k_groups_19)) [0, 21, 22] (by decide) rfl
            have hFc := va_free (wc := (wd_Wa_code cA a_n a_k n_x n_y n_nodes n_aloneB k_groups_19)) hD hS hA [0, 21, 22] rfl
            refine va_calll (va_runV (C := R_Wa) (As := []) (rest := [.ref (a_e 0)]) ⟨hx, hb, hml, hown, hal⟩ (c_Wa_code l D cA a_n a_k H.size n_x n_y n_nodes n_aloneB k_groups_19 o_38 hc_37) (cwV 0 hal (goodV kw_487 kw_488 kw_489 kw_5 kw_490) rfl rfl rfl (by decide +kernel) ⟨Nat.le_of_ble_eq_true rfl, Nat.le_of_ble_eq_true rfl⟩) ⟨fun a U g mk q => by obtain ⟨q0, q1, qP, qK, qD⟩ := q; exact ⟨q0, q1, qP, va_K.moved (u := U) (U := U.calling g mk a) (Vm.Alike.refl U.vm) qK, qD⟩, va_recv hK hP (ci := 6) (q0 := 21) rfl rfl, fun U hU hW => ⟨rfl, by rw [hU], by rw [hU]; exact hPc, va_K.moved hW.alike hK, hDc.weaken (fun _ _ _ _ => trivial)⟩⟩ rfl rfl hl.1 rfl (lv_room (Nat.le_of_ble_eq_true rfl)) d_Pe_search_81 ⟨Nat.le_of_ble_eq_true rfl, Nat.le_of_ble_eq_true rfl⟩) hS (fun q _ h => hFc q h) hFc (fun r_36 u t H1 locs ht hvm hw hB hz1 hk1 hS => ?_)
            subst hw
            obtain ⟨hP1, hK1, hD1⟩ := hB
            rw [ht] at hP1
            have hP1 : va_P D cls9 (wd_Wa_code cA a_n a_k n_x n_y n_nodes n_aloneB k_groups_19) H1 := hP1
            obtain ⟨hP, hD⟩ := va_join (wr := ([1, 2, 3, 4, 5, 6, 7, 8, 9, 10, 11, 12, 13, 14, 15, 16, 17, 18, 19, 20, 23, 24, 25, 26, 27, 28, 29, 30, 31, 32, 33, 34, 35, 36, 37, 38, 39, 40, 41, 42, 43, 44, 45, 46] : List Nat).filterMap (fun i => (wd_Pe_search cA a_n a_k a_e n_x n_y n_nodes n_aloneB n_pairA n_pairB k_groups_19 k_opened_19 k_sumsA_19 k_sumsB_19 k_bringA_19 k_bringB_19 e_code_19 (1 : Int32))[i]?)) (w1 := (wd_Wa_code cA a_n a_k n_x n_y n_nodes n_aloneB k_groups_19)) hP hD [0, 21, 22] [1, 2, 3, 4, 5, 6, 7, 8, 9, 10, 11, 12, 13, 14, 15, 16, 17, 18, 19, 20, 23, 24, 25, 26, 27, 28, 29, 30, 31, 32, 33, 34, 35, 36, 37, 38, 39, 40, 41, 42, 43, 44, 45, 46] rfl rfl (by decide) (by decide) hk1 hFc hP1 hD1
            generalize H1 = H at hP hS ⊢
            have hP : va_P D cls9 (wd_Pe_search cA a_n a_k a_e n_x n_y n_nodes n_aloneB n_pairA n_pairB k_groups_19 k_opened_19 k_sumsA_19 k_sumsB_19 k_bringA_19 k_bringB_19 e_code_19 (1 : Int32)) H := hP.sub [44, 0, 1, 2, 3, 4, 5, 6, 7, 8, 9, 10, 11, 12, 13, 14, 15, 16, 17, 18, 19, 45, 46, 20, 21, 22, 23, 24, 25, 26, 27, 28, 29, 30, 31, 32, 33, 34, 35, 36, 37, 38, 39, 40, 41, 42, 43] rfl
            have hD : va_D A (wd_Pe_search cA a_n a_k a_e n_x n_y n_nodes n_aloneB n_pairA n_pairB k_groups_19 k_opened_19 k_sumsA_19 k_sumsB_19 k_bringA_19 k_bringB_19 e_code_19 (1 : Int32)) := hD.sub [44, 0, 1, 2, 3, 4, 5, 6, 7, 8, 9, 10, 11, 12, 13, 14, 15, 16, 17, 18, 19, 45, 46, 20, 21, 22, 23, 24, 25, 26, 27, 28, 29, 30, 31, 32, 33, 34, 35, 36, 37, 38, 39, 40, 41, 42, 43] (by decide) rfl
            refine va_put (ci := 3) (v := .long r_36) (ty := .long) (C := R_Pe) (T := F_Pe) (N := 4) hx hb hal in_Pe t_Pe t_Pe_ok n_Pe hown hK hP hD hS 46 rfl rfl 2 (by decide) (hal _ kw_164) (fun _ h9 => h9) rfl (by decide +kernel) rfl rfl (Nat.le_of_ble_eq_true rfl) d_Pe_search_84 (fun H locs hP hD hS => ?_)
            have hP : va_P D cls9 (wd_Pe_search cA a_n a_k a_e n_x n_y n_nodes n_aloneB n_pairA n_pairB k_groups_19 k_opened_19 k_sumsA_19 k_sumsB_19 k_bringA_19 k_bringB_19 r_36 (1 : Int32)) H := hP
            have hD : va_D A (wd_Pe_search cA a_n a_k a_e n_x n_y n_nodes n_aloneB n_pairA n_pairB k_groups_19 k_opened_19 k_sumsA_19 k_sumsB_19 k_bringA_19 k_bringB_19 r_36 (1 : Int32)) := hD
            refine lv_goto (tgt := 107) hx hb d_Pe_search_87 (by decide) ?_
            exact cast (hG _ _ _ _ _ _ _) (hJ_107 (r_22, (1 : Int32), r_36) h _ _ _ hP hD hS (lv_sub hl [1, 2, 3, 0, 4] rfl))
          · intro j68 hJ_68 h
            refine cast (hG _ _ _ _ _ _ _).symm ?_
            refine lv_if_eq (tgt := 68) hx hb d_Pe_search_58 (by decide) (fun c_39 => ?_) (fun c_39 => ?_)
            · have h := ifp (c_39) h
              exact cast (hG _ _ _ _ _ _ _) (hJ_68 () h _ _ _ hP hD hS (lv_sub hl [0, 1, 2, 3, 4] rfl))
            · have h := ifn (c_39) h
              refine lv_lload hx hb d_Pe_search_61 (lv_at hl 0 rfl) ?_
              refine lv_lload_n hx hb d_Pe_search_63 rfl (lv_at hl 3 rfl) ?_
              refine W.lcmp hx hb d_Pe_search_64 ?_
              refine lv_if_le (tgt := 90) hx hb d_Pe_search_65 (by decide) (fun c_40 => ?_) (fun c_40 => ?_)
              · have h := ifp (lc_le.mp (c_40)) h
                refine lv_lload hx hb d_Pe_search_90 (lv_at hl 0 rfl) ?_
                refine lv_lload_n hx hb d_Pe_search_92 rfl (lv_at hl 3 rfl) ?_
                refine W.lcmp hx hb d_Pe_search_93 ?_
                refine lv_if_ne (tgt := 107) hx hb d_Pe_search_94 (by decide) (fun c_41 => ?_) (fun c_41 => ?_)
                · have h := ifn (fun q => (c_41) (lc_eq.mpr q)) h
                  exact cast (hG _ _ _ _ _ _ _) (hJ_107 (x1_19, e_alike_19, e_code_19) h _ _ _ hP hD hS (lv_sub hl [0, 1, 2, 3, 4] rfl))
                · have h := ifp (lc_eq.mp (c_41)) h
                  refine lv_aload_n hx hb d_Pe_search_97 rfl (lv_at hl 4 rfl) ?_
                  refine lv_dup hx hb d_Pe_search_98 rfl ?_
                  refine va_get (ci := 3) (v := .int e_alike_19) (C := R_Pe) (T := F_Pe) (N := 4) hx hb hal in_Pe hown hK hP 46 rfl rfl 3 (by decide) (hal _ kw_166) (fun _ h9 => h9) rfl d_Pe_search_99 ?_
                  refine lv_iconst (v := 1) hx hb d_Pe_search_102 (by decide) ?_
                  refine lv_iadd hx hb d_Pe_search_103 ?_
                  refine va_put (ci := 3) (v := .int (e_alike_19 + (1 : Int32))) (ty := .int) (C := R_Pe) (T := F_Pe) (N := 4) hx hb hal in_Pe t_Pe t_Pe_ok n_Pe hown hK hP hD hS 46 rfl rfl 3 (by decide) (hal _ kw_166) (fun _ h9 => h9) rfl (by decide +kernel) rfl rfl (Nat.le_of_ble_eq_true rfl) d_Pe_search_104 (fun H locs hP hD hS => ?_)
                  have hP : va_P D cls9 (wd_Pe_search cA a_n a_k a_e n_x n_y n_nodes n_aloneB n_pairA n_pairB k_groups_19 k_opened_19 k_sumsA_19 k_sumsB_19 k_bringA_19 k_bringB_19 e_code_19 (e_alike_19 + (1 : Int32))) H := hP
                  have hD : va_D A (wd_Pe_search cA a_n a_k a_e n_x n_y n_nodes n_aloneB n_pairA n_pairB k_groups_19 k_opened_19 k_sumsA_19 k_sumsB_19 k_bringA_19 k_bringB_19 e_code_19 (e_alike_19 + (1 : Int32))) := hD
                  exact cast (hG _ _ _ _ _ _ _) (hJ_107 (x1_19, (e_alike_19 + (1 : Int32)), e_code_19) h _ _ _ hP hD hS (lv_sub hl [0, 1, 2, 3, 4] rfl))
              · have h := ifn (fun q => (c_40) (lc_le.mpr q)) h
                exact cast (hG _ _ _ _ _ _ _) (hJ_68 () h _ _ _ hP hD hS (lv_sub hl [0, 1, 2, 3, 4] rfl))
