/-! pure words of the decompiled methods: guards, binds, loops with fuel, joins; rows that the walks share -/
def inb (i : Int32) (n : Nat) : Bool := decide (0 ≤ i) && decide (i.toNatClampNeg < n)
theorem inb_in {i : Int32} {n : Nat} (h : inb i n = true) : vp_in i n := by
  simp only [inb, Bool.and_eq_true, decide_eq_true_eq] at h
  intro hh
  rcases hh with hh | hh
  · have h1 := Int32.lt_iff_toInt_lt.mp hh
    have h2 := Int32.le_iff_toInt_le.mp h.1
    omega
  · exact absurd h.2 (Nat.not_lt.mpr hh)
theorem inb_lt {i : Int32} {n : Nat} (h : inb i n = true) : i.toNatClampNeg < n := by
  simp only [inb, Bool.and_eq_true, decide_eq_true_eq] at h
  exact h.2
theorem inb_nI {k n : Nat} (h : k < n) (hn : n < 2 ^ 31) : inb (nI k) n = true := by
  simp only [inb, Bool.and_eq_true, decide_eq_true_eq]
  exact ⟨nI_pos' (by omega), by rw [nI_clamp (by omega)]; exact h⟩
theorem gd {α : Type} {c : Prop} {i : Decidable c} {X : Option α} {y : α} (h : @ite (Option α) c i X none = some y) : c ∧ X = some y := by
  by_cases hc : c
  · rw [if_pos hc] at h; exact ⟨hc, h⟩
  · rw [if_neg hc] at h; cases h
theorem ifp {α : Type} {c : Prop} {i : Decidable c} {X Y : Option α} {y : α} (hc : c) (h : @ite (Option α) c i X Y = some y) : X = some y := by
  rw [if_pos hc] at h; exact h
theorem ifn {α : Type} {c : Prop} {i : Decidable c} {X Y : Option α} {y : α} (hc : ¬ c) (h : @ite (Option α) c i X Y = some y) : Y = some y := by
  rw [if_neg hc] at h; exact h
theorem bd {α β : Type} {o : Option α} {k : α → Option β} {y : β} (h : o.bind k = some y) : ∃ x, o = some x ∧ k x = some y := Option.bind_eq_some_iff.mp h
/-- a loop: its body is given the way back and the way out -/
def loopC {σ β : Type} (f : σ → (σ → Option β) → (σ → Option β) → Option β) (K : σ → Option β) : Nat → σ → Option β
  | 0, _ => none
  | n + 1, s => f s (loopC f K n) K
def FU : Nat := 30000
theorem lp_go2 {σ β : Type} {f : σ → (σ → Option β) → (σ → Option β) → Option β} {K : σ → Option β} {y : β} {n : Nat} {st : σ} (h : loopC f K n st = some y) (GE : σ → Prop) (hE : ∀ st', K st' = some y → GE st') (G : σ → Prop)
    (hs : ∀ (back exit : σ → Option β) (st : σ), (∀ st', back st' = some y → G st') → (∀ st', exit st' = some y → GE st') → f st back exit = some y → G st) : G st := by
  induction n generalizing st with
  | zero => cases h
  | succ n ih => exact hs (loopC f K n) K st (fun st' h' => ih h') hE h
/-- a place where several ways meet -/
def jn {σ β : Type} (K : σ → Option β) (F : (σ → Option β) → Option β) : Option β := F K
theorem jn_go {σ β : Type} {K : σ → Option β} {F : (σ → Option β) → Option β} {y : β} {X : Prop} (h : jn K F = some y) (G : σ → Prop) (hK : ∀ st, K st = some y → G st) (hF : ∀ k : σ → Option β, (∀ st, k st = some y → G st) → F k = some y → X) : X := hF K hK h
theorem lc_le {x y : Int64} : lg_cmp x y ≤ 0 ↔ x ≤ y := by
  unfold lg_cmp
  by_cases h1 : x > y
  · rw [if_pos h1]; exact ⟨fun h => absurd h (by decide), fun h => absurd h (Int64.not_le.mpr h1)⟩
  · rw [if_neg h1]
    refine ⟨fun _ => Int64.not_lt.mp h1, fun _ => ?_⟩
    split <;> decide
theorem lc_gt {x y : Int64} : 0 < lg_cmp x y ↔ y < x := by
  unfold lg_cmp
  by_cases h1 : x > y
  · rw [if_pos h1]; exact ⟨fun _ => h1, fun _ => by decide⟩
  · rw [if_neg h1]
    refine ⟨fun h => ?_, fun h => absurd h h1⟩
    split at h <;> exact absurd h (by decide)
theorem lc_eq {x y : Int64} : lg_cmp x y = 0 ↔ x = y := by
  unfold lg_cmp
  by_cases h1 : x > y
  · rw [if_pos h1]; exact ⟨fun h => absurd h (by decide), fun h => by subst h; exact absurd h1 (Int64.lt_irrefl)⟩
  · rw [if_neg h1]
    by_cases h2 : x = y
    · rw [if_pos h2]; exact ⟨fun _ => h2, fun _ => rfl⟩
    · rw [if_neg h2]; exact ⟨fun h => absurd h (by decide), fun h => absurd h h2⟩
theorem lc_lt {x y : Int64} : lg_cmp x y < 0 ↔ x < y := by
  constructor
  · intro h
    apply Int64.not_le.mp
    intro hle
    by_cases h2 : x = y
    · rw [lc_eq.mpr h2] at h; exact absurd h (by decide)
    · have h3 : y < x := by
        rcases Int64.lt_or_lt_of_ne (Ne.symm h2) with q | q
        · exact q
        · exact absurd hle (Int64.not_le.mpr q)
      have h4 := lc_gt.mpr h3
      have a1 := Int32.lt_iff_toInt_lt.mp h
      have a2 := Int32.lt_iff_toInt_lt.mp h4
      omega
  · intro h
    have h1 : ¬ 0 < lg_cmp x y := fun q => absurd (lc_gt.mp q) (Int64.not_lt.mpr (Int64.le_of_lt h))
    have h2 : ¬ lg_cmp x y = 0 := fun q => by have := lc_eq.mp q; subst this; exact absurd h Int64.lt_irrefl
    have h2' : (lg_cmp x y).toInt ≠ 0 := fun q => h2 (Int32.toInt_inj.mp q)
    have h1' : ¬ (0 : Int32).toInt < (lg_cmp x y).toInt := fun q => h1 (Int32.lt_iff_toInt_lt.mpr q)
    have h0 : (0 : Int32).toInt = 0 := rfl
    exact Int32.lt_iff_toInt_lt.mpr (by omega)
theorem lc_ge {x y : Int64} : 0 ≤ lg_cmp x y ↔ y ≤ x := by
  constructor
  · intro h
    apply Int64.not_lt.mp
    intro q
    have a1 := Int32.lt_iff_toInt_lt.mp (lc_lt.mpr q)
    have a2 := Int32.le_iff_toInt_le.mp h
    omega
  · intro h
    have h1 : ¬ lg_cmp x y < 0 := fun q => absurd (lc_lt.mp q) (Int64.not_lt.mpr h)
    exact Int32.not_lt.mp h1
theorem nar_z {v : Int32} (h : v = 0 ∨ v = 1) : narrow .boolean (.int v) = .int v := by
  rcases h with rfl | rfl <;> rfl
theorem lt9 {k : Nat} (h : k < 9) : k = 0 ∨ k = 1 ∨ k = 2 ∨ k = 3 ∨ k = 4 ∨ k = 5 ∨ k = 6 ∨ k = 7 ∨ k = 8 := by omega
def tys5 (cA : Nat → ClassId) : List (ClassId × FieldType) := [(cA 0, .int), (cA 1, .long), (cA 2, .boolean), (cA 3, .array .int), (cA 4, .array .long)]
section WG
variable {p : Program} {l : Launch} {e : Env} {R : Room} {s : State} {m : MethodId} {args : Array Value} {below : List Frame} {meth : Method} {c : Code} {H : Heap} {locs : List Loc} {cells slots : Nat} {Q : State → Prop}
variable {cc : ByteArray} {pc : Nat} {ls : Array Slot} {rest st : List Value} {D : va_G} {cl : List vw_C} {A : Nat → Prop} {a : Nat} {tys : List (ClassId × FieldType)} {ws : va_W} {H0 : Heap}
theorem wg (k : ∀ (G : Heap → List Loc → Nat → Nat → Array Slot → Nat → List Value → Prop), (∀ H locs cells slots ls pc st, G H locs cells slots ls pc st = W p l e R s m args below meth c H locs cells slots Q (F0 m pc ls st)) → G H locs cells slots ls pc st) : W p l e R s m args below meth c H locs cells slots Q (F0 m pc ls st) := k _ (fun _ _ _ _ _ _ _ => rfl)
/-- a row of a grid is read -/
theorem my_aald {ad : Nat → Nat} {t : FieldType} (hexec : p.tables.exec = Jvm.exec) (hb : c.code = cc) (hK : va_K D cl tys s) (hP : va_P D cl ws H) (q0 t0 : Nat) {cA : ClassId} {n : Nat} (ha : ws[q0]? = some (a, .inl (cA, n, .inr (.inr (.inr (.inr (fun i => if i < n then some (ad i) else none))))))) (ht : tys[t0]? = some (cA, .array t)) {i : Int32} (hin : vp_in i n) (hlt : i.toNatClampNeg < n) (hdg : decode cc pc = .ok (.aaload, 1))
    (kk : W p l e R s m args below meth c H locs cells slots Q (F0 m (pc + 1) ls (.ref (ad i.toNatClampNeg) :: rest))) : W p l e R s m args below meth c H locs cells slots Q (F0 m pc ls (.int i :: .ref a :: rest)) := by
  refine W.aald (v := .ref (ad i.toNatClampNeg)) (ty := .array t) hexec hb (hP q0 _ ha) ((hK.2 t0 _ ht).1 n (fun j => va_rf (if j < n then some (ad j) else none))) rfl (fun q => by cases q) (by show ¬ (i < 0 ∨ (arrV _ _ _).slots.size ≤ _); rw [arrV_size]; exact hin) (by show (arrV _ _ _).slots[_]? = _; rw [arrV_read _ _ hlt]; simp [hlt, va_rf]) rfl rfl hdg kk
theorem sub1P {k : Nat} {x : Nat × va_E} (hP : va_P D cl ws H) (h : ws[k]? = some x) : va_P D cl [x] H := by
  intro i q hq
  cases i with
  | zero => cases hq; exact hP k x h
  | succ i => cases hq
theorem sub1D {k : Nat} {x : Nat × va_E} (hD : va_D A ws) (h : ws[k]? = some x) : va_D A [x] := by
  refine ⟨fun i j p q hi hj _ => ?_, fun i q hq => ?_⟩
  · cases i with
    | zero => cases j with
      | zero => rfl
      | succ j => cases hj
    | succ i => cases hi
  · cases i with
    | zero => cases hq; exact hD.2 k x h
    | succ i => cases hq
theorem free1 {k : Nat} {x : Nat × va_E} (hD : va_D A ws) (hS : va_S A H0 H locs) (hA : ∀ q, H0.size ≤ q → A q) (h : ws[k]? = some x) : ∀ q, va_A [x] H.size q → A q := by
  intro q hq
  rcases hq with ⟨i, e, hi⟩ | hq
  · cases i with
    | zero => cases hi; exact hD.2 k _ h
    | succ i => cases hi
  · exact hA q (Nat.le_trans hS.1 hq)
theorem join1 {k : Nat} {b : Nat} {e0 e1 : va_E} {H1 : Heap} (hP : va_P D cl ws H) (hD : va_D A ws) (h : ws[k]? = some (b, e0)) (hk : ∀ q : Nat, q < H.size → ¬ va_A [(b, e0)] H.size q → H1[q]? = H[q]?) (_ : ∀ q, va_A [(b, e0)] H.size q → A q) (hP1 : va_P D cl [(b, e1)] H1) (_ : va_D (va_A [(b, e0)] H.size) [(b, e1)]) : va_P D cl (ws.set k (b, e1)) H1 ∧ va_D A (ws.set k (b, e1)) := by
  have hl := (List.getElem?_eq_some_iff.mp h).1
  refine ⟨fun j q hq => ?_, hD.set h⟩
  by_cases hj : j = k
  · subst hj
    rw [List.getElem?_set_self hl] at hq
    cases hq
    exact hP1 0 _ rfl
  · rw [List.getElem?_set_ne (fun q => hj q.symm)] at hq
    have hat := hP j q hq
    refine hat.kept (hk q.1 hat.lt (fun h9 => ?_))
    rcases h9 with ⟨i, e, hi⟩ | h9
    · cases i with
      | zero =>
        have e1 : q.1 = b := by cases hi; rfl
        exact hj (hD.1 j k q _ hq h e1)
      | succ i => cases hi
    · exact absurd hat.lt (Nat.not_lt.mpr h9)
end WG
theorem goodV {own C : String} {idx maxL : Nat} {y : MethodName} {b : ByteArray} {r : Option FieldType} (h1 : Cond.methodLink own idx y ∈ ALLW) (h2 : Cond.instanceMethod y ∈ ALLW) (h3 : Cond.selects C y y ∈ ALLW) (h4 : Cond.initialized C ∈ ALLW) (h5 : Cond.code y b maxL r ∈ ALLW) : GoodIn ALLW (wsV own idx C y (.code y b maxL r :: ALLW)) := by
  intro w h
  apply allw_good
  simp only [wsV, List.cons_append, List.nil_append, List.mem_cons] at h
  rcases h with rfl | rfl | rfl | rfl | rfl | h
  · exact h1
  · exact h2
  · exact h3
  · exact h4
  · exact h5
  · exact h
theorem goodS {own : String} {idx maxL : Nat} {y : MethodName} {b : ByteArray} {r : Option FieldType} (h1 : Cond.methodLink own idx y ∈ ALLW) (h2 : Cond.static y ∈ ALLW) (h4 : Cond.initialized y.cls ∈ ALLW) (h5 : Cond.code y b maxL r ∈ ALLW) : GoodIn ALLW (va_wsS own idx y (.code y b maxL r :: ALLW)) := by
  intro w h
  apply allw_good
  simp only [va_wsS, List.cons_append, List.nil_append, List.mem_cons] at h
  rcases h with rfl | rfl | rfl | rfl | h
  · exact h1
  · exact h2
  · exact h4
  · exact h5
  · exact h
