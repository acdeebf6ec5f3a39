/-! the small methods, both sides -/
theorem opn_cn (f : Nat → Int32) : ∀ k, opn (cn f) k = cF f k
  | 0 => rfl
  | k + 1 => by
    rw [opn_s, opn_cn f k]
    show max (cF f k) (cF f (fst f k) + 1) = cF f k + (if fst f k = k then 1 else 0)
    by_cases e : fst f k = k
    · rw [if_pos e, e]; omega
    · rw [if_neg e]
      have h := (fst_spec f k).1
      have := cF_lt (f := f) (a := fst f k) (b := k) (by omega) (fst_fst f k)
      omega
theorem rgs_cnf (f : Nat → Int32) (n : Nat) : rgs n (cn f) := fun i _ => by
  rw [opn_cn]; exact cF_mono f (fst_spec f i).1
theorem cn_ag {f g : Nat → Int32} {n : Nat} (h : ∀ i, i < n → f i = g i) : (∀ i, i < n → cn f i = cn g i) ∧ cF f n = cF g n :=
  ⟨fun i hi => cn_same (n := n) (fun i j hi hj => by rw [h i hi, h j hj]) hi, cF_same (n := n) (fun i j hi hj => by rw [h i hi, h j hj]) n (Nat.le_refl n)⟩
theorem cn_re {f q : Nat → Int32} {n : Nat} (hn : n ≤ 9) (h : ∀ i, i < n → q i = nI (cn f i)) : (∀ i, i < n → cn q i = cn f i) ∧ cF q n = cF f n := by
  have hh : ∀ i j, i < n → j < n → (q i = q j ↔ f i = f j) := fun i j hi hj => by
    rw [h i hi, h j hj, nI_eq (by have := cn_le f i; omega) (by have := cn_le f j; omega), cn_eq]
  exact ⟨fun i hi => cn_same hh hi, cF_same hh n (Nat.le_refl n)⟩
def hnd (n : Nat) (p : Nat → Nat) (h_nodes h_count : Int32) (h_groups r_hand : Nat → Int32) : Prop := rgs n p ∧ h_nodes = nI n ∧ h_count = nI (opn p n) ∧ ∀ i, i < n → h_groups i = nI (p i) ∧ r_hand i = nI (p i)
theorem hnd_mk {n : Nat} {f f' hg rh : Nat → Int32} {a c : Int32} (ea : a = nI n) (ec : c = nI (cF f n)) (e : ∀ i, i < n → f i = f' i) (h1 : ∀ i, i < n → hg i = nI (cn f i)) (h2 : ∀ i, i < n → rh i = nI (cn f' i)) : hnd n (cn f) a c hg rh :=
  ⟨rgs_cnf f n, ea, by rw [ec, opn_cn], fun i hi => ⟨h1 i hi, by rw [h2 i hi, (cn_ag e).1 i hi]⟩⟩
theorem hnd_lt {n : Nat} {p : Nat → Nat} (hn : n ≤ 9) (h : rgs n p) {i : Nat} (hi : i < n) : p i < 9 := by
  have := rgs_le h hi; omega
theorem hnd_id {n : Nat} {a c : Int32} {hg rh : Nat → Int32} (ea : a = nI n) (ec : c = nI n) (h : ∀ i, i < n → hg i = nI i ∧ rh i = nI i) : hnd n (fun i => i) a c hg rh := by
  have ho : ∀ k, opn (fun i => i) k = k := fun k => by
    induction k with
    | zero => rfl
    | succ k ih => rw [opn_s, ih]; omega
  exact ⟨fun i _ => by rw [ho]; exact Nat.le_refl i, ea, by rw [ec, ho], h⟩
/-! nodes -/
def nd (n : Nat) (v : Int32) : Prop := ∃ a, a < n ∧ v = nI a
theorem isNode_y {n a : Nat} (hn : n ≤ 9) (ha : a < n) : m_Mo_isNode (nI n) (nI a) = some 1 := by
  unfold m_Mo_isNode
  rw [if_neg (nI_pos (by omega)), if_neg (le_nI (by omega) (by omega) ha)]
theorem hasNode_y {n a : Nat} (hn : n ≤ 9) (ha : a < n) : m_Gr_hasNode (nI n) (nI a) = some 1 := by
  unfold m_Gr_hasNode
  rw [if_neg (nI_pos (by omega)), if_neg (le_nI (by omega) (by omega) ha)]
theorem nd_no {n : Nat} {v : Int32} (hn : n ≤ 9) (h : ¬ nd n v) : v < 0 ∨ nI n ≤ v := by
  rcases pk_ix v (n := n) (by omega) with q | q | q
  · exact Or.inl q
  · exact Or.inr q
  · exact absurd q h
theorem isNode_n {n : Nat} {v : Int32} (hn : n ≤ 9) (h : ¬ nd n v) : m_Mo_isNode (nI n) v = some 0 := by
  unfold m_Mo_isNode
  by_cases q : v < 0
  · rw [if_pos q]
  · rw [if_neg q, if_pos ((nd_no hn h).resolve_left q)]
theorem hasNode_n {n : Nat} {v : Int32} (hn : n ≤ 9) (h : ¬ nd n v) : m_Gr_hasNode (nI n) v = some 0 := by
  unfold m_Gr_hasNode
  by_cases q : v < 0
  · rw [if_pos q]
  · rw [if_neg q, if_pos ((nd_no hn h).resolve_left q)]
theorem hasNodes_y {n a b : Nat} (hn : n ≤ 9) (ha : a < n) (hb : b < n) : m_Gr_hasNodes (nI n) (nI a) (nI b) = some 1 := by
  unfold m_Gr_hasNodes
  rw [hasNode_y hn ha, hasNode_y hn hb]
  rfl
theorem hasNodes_n {n : Nat} {v w : Int32} (hn : n ≤ 9) (h : ¬ (nd n v ∧ nd n w)) : m_Gr_hasNodes (nI n) v w = some 0 := by
  unfold m_Gr_hasNodes
  by_cases hv : nd n v
  · obtain ⟨a, ha, rfl⟩ := hv
    rw [hasNode_y hn ha, hasNode_n hn (fun q => h ⟨⟨a, ha, rfl⟩, q⟩)]
    rfl
  · rw [hasNode_n hn hv]
    rfl
theorem ok_eq {α β : Type} {o : Option α} {x : α} {k : α → Option β} {P : β → Prop} (h : o = some x) (h2 : ok (k x) P) : ok (o.bind k) P := by
  rw [h]; exact h2
/-! values -/
theorem c_worthOf {n k : Nat} {man : Int32} {fr to : Nat → Nat} {wt : Nat → Int} {x y : Int} {nn : Int32} {alo : Int64} {gA gB : Nat → Nat → Int64} {lkA : Nat → Nat → Int32} {near : Nat → Int32} {has : Nat → Int64} {g : Nat → Int32} {p : Nat → Nat} (hn : n ≤ 9) (hx : inI x) (hy : inI y) (hb : built man n k fr to wt nn alo gA gB lkA near has) (hp : ∀ i, i < n → p i < 9 ∧ g i = nI (p i)) :
    ok (m_Ga_worthOf (iZ x) (iZ y) nn alo gA gB g) (fun r => r = jZ (Val man n k fr to wt x y p)) := by
  obtain ⟨rfl, rfl, h3, h4⟩ := hb
  refine ok_w (h_worthOf (FA := pAof man (al man wt k) (fun c d => lk man fr to wt c d k)) (FB := pBof man (fun c => hs man fr to wt c k)) hn (fun i hi => ⟨by have := (hp i hi).1; omega, (hp i hi).2⟩) (fun i j hi hj => (h3 i j hi (by omega)).1) (fun i j hi hj => (h3 i j hi (by omega)).2) hx hy) (fun r hr => ?_)
  rw [hr, Val_pairs]
theorem pA_sym (man : Int32) (W : Int) (fr to : Nat → Nat) (wt : Nat → Int) (k i j : Nat) : pAof man W (fun c d => lk man fr to wt c d k) i j = pAof man W (fun c d => lk man fr to wt c d k) j i := by
  unfold pAof
  show (if man = 0 then 4 * W * lk man fr to wt i j k else lk man fr to wt i j k) = (if man = 0 then 4 * W * lk man fr to wt j i k else lk man fr to wt j i k)
  rw [lk_sym man fr to wt i j k]
theorem pB_sym (man : Int32) (h : Nat → Int) (i j : Nat) : pBof man h i j = pBof man h j i := by
  unfold pBof
  rw [Int.mul_assoc, Int.mul_assoc, Int.mul_comm (h i)]
theorem c_between {n k a b : Nat} {man : Int32} {fr to : Nat → Nat} {wt : Nat → Int} {x y : Int} {nn : Int32} {alo : Int64} {gA gB : Nat → Nat → Int64} {lkA : Nat → Nat → Int32} {near : Nat → Int32} {has : Nat → Int64} {g : Nat → Int32} {p : Nat → Nat} (hn : n ≤ 9) (hx : inI x) (hy : inI y) (hb : built man n k fr to wt nn alo gA gB lkA near has) (hp : ∀ i, i < n → p i < 9 ∧ g i = nI (p i)) (ha1 : a < 9) (hb1 : b < 9) (hab : a ≠ b) :
    ok (m_Ga_between (iZ x) (iZ y) nn gA gB g (nI a) (nI b)) (fun r => r = jZ (Val man n k fr to wt x y (mrg p a b) - Val man n k fr to wt x y p)) := by
  obtain ⟨rfl, rfl, h3, h4⟩ := hb
  refine ok_w (h_between (FA := pAof man (al man wt k) (fun c d => lk man fr to wt c d k)) (FB := pBof man (fun c => hs man fr to wt c k)) hn (by omega) (by omega) (fun i hi => ⟨by have := (hp i hi).1; omega, (hp i hi).2⟩) (fun i j hi hj => (h3 i j hi hj).1) (fun i j hi hj => (h3 i j hi hj).2) hx hy) (fun r hr => ?_)
  rw [hr, ← gain_mrg (al := alB man (fun c => hs man fr to wt c k) n) hab (fun i j _ _ => pA_sym man _ fr to wt k i j) (fun i j _ _ => pB_sym man _ i j), Val_pairs, Val_pairs]
theorem h_pcopy {n : Nat} {pg pn q : Nat → Int32} (hn : n ≤ 9) (hf : ∀ i, i < n → ∃ v, v < 10 ∧ q i = nI v) : ok (m_Pa_copy pg pn (nI n) q) (fun r8 => r8.1 = nI n ∧ ∀ i, i < n → r8.2.2.1 i = nI (cn q i)) := by
  unfold m_Pa_copy
  exact ok_bind (h_take hn hf) (fun r9 h9 => ok_some ⟨h9.1, h9.2.2⟩)
theorem c_moveGain {n k a b : Nat} {man : Int32} {fr to : Nat → Nat} {wt : Nat → Int} {x y : Int} {nn : Int32} {alo : Int64} {gA gB : Nat → Nat → Int64} {lkA : Nat → Nat → Int32} {near : Nat → Int32} {has : Nat → Int64} {g ug un : Nat → Int32} {p : Nat → Nat} (hn : n ≤ 9) (hx : inI x) (hy : inI y) (hb : built man n k fr to wt nn alo gA gB lkA near has) (hp : ∀ i, i < n → p i < 9 ∧ g i = nI (p i)) (ha : a < n) (hb1 : b < n) :
    ok (m_MG_moveGain (iZ x) (iZ y) nn alo gA gB (nI n) g ug un (nI a) (nI b)) (fun r => r.1 = jZ (Val man n k fr to wt x y (cn (shf (lab p) a b))) - jZ (Val man n k fr to wt x y p)) := by
  unfold m_MG_moveGain
  refine ok_bind (h_pcopy hn (fun i hi => ⟨p i, by have := (hp i hi).1; omega, (hp i hi).2⟩)) (fun r8 h8 => ?_)
  rw [h8.1]
  refine ok_bind (h_shift hn ha hb1 (fun i hi => ⟨cn g i, by have := cn_le g i; omega, h8.2 i hi⟩)) (fun r17 h17 => ?_)
  refine ok_bind (c_worthOf hn hx hy hb (p := cn (shf r8.2.2.1 a b)) (fun i hi => ⟨by have := cn_le (shf r8.2.2.1 a b) i; omega, h17.2 i hi⟩)) (fun r28 h28 => ?_)
  refine ok_bind (c_worthOf hn hx hy hb hp) (fun r39 h39 => ok_some ?_)
  dsimp only
  rw [h28, h39]
  congr 2
  refine Val_congr (fun i j hi hj => ?_)
  rw [cn_eq, cn_eq]
  have hinj : ∀ i j, i < n → j < n → (r8.2.2.1 i = r8.2.2.1 j ↔ lab p i = lab p j) := fun i j hi hj => by
    rw [h8.2 i hi, h8.2 j hj, nI_eq (by have := cn_le g i; omega) (by have := cn_le g j; omega), cn_eq, (hp i hi).2, (hp j hj).2]
    rfl
  have h9 : ∀ i, i < n → r8.2.2.1 i ≠ 9 ∧ lab p i ≠ 9 := fun i hi => by
    constructor
    · rw [h8.2 i hi, nI9]; exact fun q => by have := nI_inj (by have := cn_le g i; omega) (by omega) q; have := cn_le g i; omega
    · unfold lab; rw [nI9]; exact fun q => by have := nI_inj (by have := (hp i hi).1; omega) (by omega) q; have := (hp i hi).1; omega
  unfold shf
  by_cases ei : i = a
  · by_cases ej : j = a
    · rw [if_pos ei, if_pos ej, if_pos ei, if_pos ej]; simp
    · rw [if_pos ei, if_neg ej, if_pos ei, if_neg ej]
      by_cases eab : a = b
      · rw [if_pos eab, if_pos eab]
        exact ⟨fun q => absurd q.symm (h9 j hj).1, fun q => absurd q.symm (h9 j hj).2⟩
      · rw [if_neg eab, if_neg eab]
        exact hinj b j hb1 hj
  · by_cases ej : j = a
    · rw [if_neg ei, if_pos ej, if_neg ei, if_pos ej]
      by_cases eab : a = b
      · rw [if_pos eab, if_pos eab]
        exact ⟨fun q => absurd q (h9 i hi).1, fun q => absurd q (h9 i hi).2⟩
      · rw [if_neg eab, if_neg eab]
        exact hinj i b hi hb1
    · rw [if_neg ei, if_neg ej, if_neg ei, if_neg ej]
      exact hinj i j hi hj
theorem shf_ag {f g : Nat → Int32} {n a b : Nat} (hb : b < n) (h : ∀ i, i < n → f i = g i) : ∀ i, i < n → shf f a b i = shf g a b i := fun i hi => by
  unfold shf
  by_cases e : i = a
  · rw [if_pos e, if_pos e, h b hb]
  · rw [if_neg e, if_neg e, h i hi]
theorem Val_ag {man : Int32} {n k : Nat} {fr to : Nat → Nat} {wt : Nat → Int} {x y : Int} {p q : Nat → Nat} (h : ∀ i, i < n → p i = q i) : Val man n k fr to wt x y p = Val man n k fr to wt x y q := Val_congr (fun i j hi hj => by rw [h i hi, h j hj])
theorem r_moveGain {n k a b : Nat} {man : Int32} {fr to : Nat → Nat} {wt : Nat → Int} {x y : Int} {all : Int64} {bt jo has nm tr h : Nat → Int32} {sums sizes : Nat → Int64} {p : Nat → Nat} (hn : n ≤ 9) (hk : k ≤ 36) (hwb : wbd wt k) (hw : weighed man k fr to wt all bt jo has) (hx : inI x) (hy : inI y) (hp : ∀ i, i < n → p i < 9 ∧ h i = nI (p i)) (ha : a < n) (hb1 : b < n) :
    ok (m_Mo_moveGain man (iZ x) (iZ y) (nI n) all h bt has sums sizes nm tr (nI a) (nI b)) (fun r => r.1 = jZ (Val man n k fr to wt x y (cn (shf (lab p) a b))) - jZ (Val man n k fr to wt x y p)) := by
  unfold m_Mo_moveGain
  refine ok_bind (h_copy hn) (fun r9 h9 => ?_)
  refine ok_bind (h_moveIn hn ha hb1 (fun i hi => ⟨p i, (hp i hi).1, (h9.1 i hi).trans (hp i hi).2⟩)) (fun r19 h19 => ?_)
  refine ok_bind (h_valueOf hn hk hwb hw hx hy (p := cn (shf r9 a b)) (fun i hi => ⟨by have := cn_le (shf r9 a b) i; omega, h19 i hi⟩)) (fun r27 h27 => ?_)
  refine ok_bind (h_valueOf hn hk hwb hw hx hy hp) (fun r35 h35 => ok_some ?_)
  dsimp only
  rw [h27, h35]
  congr 2
  exact Val_ag (fun i hi => (cn_ag (shf_ag (g := lab p) hb1 (fun i hi => (h9.1 i hi).trans (hp i hi).2))).1 i hi)
theorem mrg_same {p : Nat → Nat} {a i : Nat} : mrg p a a i = p i := by
  unfold mrg
  by_cases e : p i = a
  · rw [if_pos e, e]
  · rw [if_neg e]
theorem c_mergeGain {n k a b : Nat} {man : Int32} {fr to : Nat → Nat} {wt : Nat → Int} {x y : Int} {nn : Int32} {alo : Int64} {gA gB : Nat → Nat → Int64} {lkA : Nat → Nat → Int32} {near : Nat → Int32} {has : Nat → Int64} {g : Nat → Int32} {p : Nat → Nat} (hn : n ≤ 9) (hx : inI x) (hy : inI y) (hb : built man n k fr to wt nn alo gA gB lkA near has) (hp : ∀ i, i < n → p i < 9 ∧ g i = nI (p i)) (ha : a < n) (hb1 : b < n) :
    ok (m_MG_mergeGain (iZ x) (iZ y) nn gA gB g (nI a) (nI b)) (fun r => r = jZ (Val man n k fr to wt x y (mrg p (p a) (p b)) - Val man n k fr to wt x y p)) := by
  unfold m_MG_mergeGain
  refine ok_t (inb_nI (by omega) (by omega)) (ok_t (inb_nI (by omega) (by omega)) ?_)
  rw [nI_clamp (show a < 2 ^ 31 by omega), nI_clamp (show b < 2 ^ 31 by omega), (hp a ha).2, (hp b hb1).2]
  have h1 := (hp a ha).1
  have h2 := (hp b hb1).1
  by_cases e : p a = p b
  · refine ok_t (by rw [e]) (ok_some ?_)
    rw [e, Val_ag (p := mrg p (p b) (p b)) (fun i _ => mrg_same), Int.sub_self]
    rfl
  · refine ok_f (fun q => e (nI_inj (by omega) (by omega) q)) (ok_bind (c_between hn hx hy hb hp h1 h2 e) (fun r hr => ok_some hr))
theorem unt_lab {n : Nat} {p : Nat → Nat} {q : Nat → Int32} {a b : Nat} (hq : ∀ i, i < n → p i < 9 ∧ q i = nI (p i)) (ha : a < n) (hb : b < n) : ∀ i, i < n → unt q (q a) (q b) i = lab (mrg p (p a) (p b)) i := fun i hi => by
  unfold unt lab mrg
  rw [(hq i hi).2, (hq a ha).2, (hq b hb).2]
  have h1 := (hq i hi).1
  have h2 := (hq b hb).1
  by_cases e : p i = p b
  · rw [if_pos (by rw [e]), if_pos e]
  · rw [if_neg (fun z => e (nI_inj (by omega) (by omega) z)), if_neg e]
theorem mrg_lt {p : Nat → Nat} {a b i N : Nat} (h1 : p i < N) (h2 : a < N) : mrg p a b i < N := by
  unfold mrg
  by_cases e : p i = b
  · rw [if_pos e]; exact h2
  · rw [if_neg e]; exact h1
theorem Val_cn {man : Int32} {n k : Nat} {fr to : Nat → Nat} {wt : Nat → Int} {x y : Int} {p : Nat → Nat} {f : Nat → Int32} (hp : ∀ i, i < n → p i < 1000) (h : ∀ i, i < n → f i = lab p i) : Val man n k fr to wt x y (cn f) = Val man n k fr to wt x y p := Val_congr (fun i j hi hj => by
  have := hp i hi
  have := hp j hj
  rw [cn_eq, h i hi, h j hj, lab_eq (by omega) (by omega)])
theorem r_mergeGain {n k a b : Nat} {man : Int32} {fr to : Nat → Nat} {wt : Nat → Int} {x y : Int} {all : Int64} {bt jo has nm tr h : Nat → Int32} {sums sizes : Nat → Int64} {p : Nat → Nat} (hn : n ≤ 9) (hk : k ≤ 36) (hwb : wbd wt k) (hw : weighed man k fr to wt all bt jo has) (hx : inI x) (hy : inI y) (hp : ∀ i, i < n → p i < 9 ∧ h i = nI (p i)) (ha : a < n) (hb1 : b < n) :
    ok (m_Mo_mergeGain man (iZ x) (iZ y) (nI n) all h bt has sums sizes nm tr (nI a) (nI b)) (fun r => r.1 = jZ (Val man n k fr to wt x y (mrg p (p a) (p b)) - Val man n k fr to wt x y p)) := by
  unfold m_Mo_mergeGain
  refine ok_bind (h_copy hn) (fun r9 h9 => ?_)
  refine ok_bind (h_mergeIn hn (by omega) (by omega)) (fun r19 h19 => ?_)
  refine ok_bind (h_valueOf hn hk hwb hw hx hy (p := cn (unt r9 (r9 a) (r9 b))) (fun i hi => ⟨by have := cn_le (unt r9 (r9 a) (r9 b)) i; omega, h19 i hi⟩)) (fun r27 h27 => ?_)
  refine ok_bind (h_valueOf hn hk hwb hw hx hy hp) (fun r35 h35 => ok_some ?_)
  dsimp only
  rw [h27, h35, jZ_sub]
  congr 2
  refine Val_cn (fun i hi => ?_) (unt_lab (fun i hi => ⟨(hp i hi).1, (h9.1 i hi).trans (hp i hi).2⟩) ha hb1)
  have := mrg_lt (b := p b) (hp i hi).1 (hp a ha).1
  omega
/-! rests -/
def restP (n : Nat) (g1 g2 : Nat → Nat → Int64) (r : Int32) : Prop := (r = 0 ∧ ∃ a b, a < n ∧ b < n ∧ (0 < g1 a b ∨ 0 < g2 a b)) ∨ (r = 1 ∧ ∀ a b, a < n → b < n → ¬ (0 < g1 a b ∨ 0 < g2 a b))
theorem restP_uniq {n : Nat} {g1 g2 : Nat → Nat → Int64} {r s : Int32} (h : restP n g1 g2 r) (g : restP n g1 g2 s) : r = s := by
  rcases h with ⟨h1, a, b, ha, hb, h2⟩ | ⟨h1, h2⟩
  · rcases g with ⟨g3, _⟩ | ⟨_, g4⟩
    · rw [h1, g3]
    · exact absurd h2 (g4 a b ha hb)
  · rcases g with ⟨_, a, b, ha, hb, g4⟩ | ⟨g3, _⟩
    · exact absurd g4 (h2 a b ha hb)
    · rw [h1, g3]
theorem j_le {a : Int64} : ¬ a ≤ 0 ↔ 0 < a := Int64.not_le
theorem c_rests {n : Nat} {x y nn : Int32} {alo : Int64} {gA gB : Nat → Nat → Int64} {g ug um : Nat → Int32} {un uc : Int32} {g1 g2 : Nat → Nat → Int64} (hn : n ≤ 9)
    (h1 : ∀ a b ug um, a < n → b < n → ok (m_MG_moveGain x y nn alo gA gB (nI n) g ug um (nI a) (nI b)) (fun r => r.1 = g1 a b))
    (h2 : ∀ a b, a < n → b < n → ok (m_MG_mergeGain x y nn gA gB g (nI a) (nI b)) (fun r => r = g2 a b)) :
    ok (m_MG_rests (nI n) x y nn alo gA gB (nI n) g un uc ug um) (fun o => restP n g1 g2 o.1) := by
  unfold m_MG_rests
  refine ok_cnt n 0 (fun a st => st.1 = nI a ∧ ∀ a' b, a' < a → b < n → ¬ (0 < g1 a' b ∨ 0 < g2 a' b)) ?_ ?_ ?_ ⟨nI_lit0, fun _ _ h => absurd h (Nat.not_lt_zero _)⟩ (Nat.zero_le n) (FU_big (by omega))
  · rintro a ⟨i, st⟩ back exit ha ⟨e, h⟩ hback
    dsimp only at e h
    subst e
    unfold s_MG_rests_2
    dsimp only
    refine ok_f (le_nI (by omega) (by omega) ha) ?_
    refine ok_cnt n 0 (fun b st => st.1 = nI b ∧ ∀ b', b' < b → ¬ (0 < g1 a b' ∨ 0 < g2 a b')) ?_ ?_ ?_ ⟨nI_lit0, fun _ h => absurd h (Nat.not_lt_zero _)⟩ (Nat.zero_le n) (FU_big (by omega))
    · rintro b ⟨i, st⟩ back2 exit2 hb ⟨e, hh⟩ hb2
      dsimp only at e hh
      subst e
      unfold s_MG_rests_15
      dsimp only
      refine ok_f (le_nI (by omega) (by omega) hb) (ok_bind (h1 a b _ _ ha hb) (fun r29 h29 => ?_))
      by_cases q1 : (0 : Int64) < g1 a b
      · exact ok_t (by rw [h29]; exact q1) (ok_some (Or.inl ⟨rfl, a, b, ha, hb, Or.inl q1⟩))
      · refine ok_f (by rw [h29]; exact q1) (ok_bind (h2 a b ha hb) (fun r40 h40 => ?_))
        by_cases q2 : (0 : Int64) < g2 a b
        · exact ok_f (by rw [h40]; exact j_le.mpr q2) (ok_some (Or.inl ⟨rfl, a, b, ha, hb, Or.inr q2⟩))
        · refine ok_t (by rw [h40]; exact Classical.not_not.mp (fun z => q2 (j_le.mp z))) (hb2 _ ⟨nI_add1 b, fun b' hb' => ?_⟩)
          by_cases eb : b' = b
          · subst eb; rintro (z | z)
            · exact q1 z
            · exact q2 z
          · exact hh b' (by omega)
    · rintro ⟨i, st⟩ back2 exit2 ⟨e, hh⟩ he2
      dsimp only at e hh
      subst e
      unfold s_MG_rests_15
      dsimp only
      exact ok_t (nI_le (Nat.le_refl n) (by omega)) (he2 _ ⟨rfl, hh⟩)
    · rintro ⟨i, st⟩ ⟨e, hh⟩
      dsimp only at e hh ⊢
      refine hback _ ⟨nI_add1 a, fun a' b ha' hb => ?_⟩
      by_cases ea : a' = a
      · subst ea; exact hh b hb
      · exact h a' b (by omega) hb
  · rintro ⟨i, st⟩ back exit ⟨e, h⟩ hexit
    dsimp only at e h
    subst e
    unfold s_MG_rests_2
    dsimp only
    exact ok_t (nI_le (Nat.le_refl n) (by omega)) (hexit _ ⟨rfl, h⟩)
  · rintro ⟨i, st⟩ ⟨e, h⟩
    exact ok_some (Or.inr ⟨rfl, fun a b ha hb => h a b ha hb⟩)
theorem r_rests {n : Nat} {man x y k : Int32} {a0 b0 : Int64} {ones others weights there hd bt jo has nm tr : Nat → Int32} {sums sizes : Nat → Int64} {g1 g2 : Nat → Nat → Int64} {Q : Int64 × (Nat → Int32) × (Nat → Int32) × (Nat → Int32) → Prop} (hn : n ≤ 9)
    (h0 : ok (m_Mo_weigh man k ones others weights there bt jo has) Q)
    (h1 : ∀ r a b sums sizes nm tr, Q r → a < n → b < n → ok (m_Mo_moveGain man x y (nI n) r.1 hd r.2.1 r.2.2.2 sums sizes nm tr (nI a) (nI b)) (fun r => r.1 = g1 a b))
    (h2 : ∀ r a b sums sizes nm tr, Q r → a < n → b < n → ok (m_Mo_mergeGain man x y (nI n) r.1 hd r.2.1 r.2.2.2 sums sizes nm tr (nI a) (nI b)) (fun r => r.1 = g2 a b)) :
    ok (m_Mo_rests man x y (nI n) k a0 b0 ones others weights there hd bt jo has sums sizes nm tr) (fun o => restP n g1 g2 o.1) := by
  unfold m_Mo_rests
  refine ok_bind h0 (fun r hQ => ?_)
  refine ok_cnt n 0 (fun a st => st.1 = nI a ∧ ∀ a' b, a' < a → b < n → ¬ (0 < g1 a' b ∨ 0 < g2 a' b)) ?_ ?_ ?_ ⟨nI_lit0, fun _ _ h => absurd h (Nat.not_lt_zero _)⟩ (Nat.zero_le n) (FU_big (by omega))
  · rintro a ⟨i, st⟩ back exit ha ⟨e, h⟩ hback
    dsimp only at e h
    subst e
    unfold s_Mo_rests_6
    dsimp only
    refine ok_f (le_nI (by omega) (by omega) ha) ?_
    refine ok_cnt n 0 (fun b st => st.1 = nI b ∧ ∀ b', b' < b → ¬ (0 < g1 a b' ∨ 0 < g2 a b')) ?_ ?_ ?_ ⟨nI_lit0, fun _ h => absurd h (Nat.not_lt_zero _)⟩ (Nat.zero_le n) (FU_big (by omega))
    · rintro b ⟨i, st⟩ back2 exit2 hb ⟨e, hh⟩ hb2
      dsimp only at e hh
      subst e
      unfold s_Mo_rests_16
      dsimp only
      refine ok_f (le_nI (by omega) (by omega) hb) (ok_bind (h1 r a b _ _ _ _ hQ ha hb) (fun r29 h29 => ?_))
      by_cases q1 : (0 : Int64) < g1 a b
      · exact ok_t (by rw [h29]; exact q1) (ok_some (Or.inl ⟨rfl, a, b, ha, hb, Or.inl q1⟩))
      · refine ok_f (by rw [h29]; exact q1) (ok_bind (h2 r a b _ _ _ _ hQ ha hb) (fun r40 h40 => ?_))
        by_cases q2 : (0 : Int64) < g2 a b
        · exact ok_f (by rw [h40]; exact j_le.mpr q2) (ok_some (Or.inl ⟨rfl, a, b, ha, hb, Or.inr q2⟩))
        · refine ok_t (by rw [h40]; exact Classical.not_not.mp (fun z => q2 (j_le.mp z))) (hb2 _ ⟨nI_add1 b, fun b' hb' => ?_⟩)
          by_cases eb : b' = b
          · subst eb; rintro (z | z)
            · exact q1 z
            · exact q2 z
          · exact hh b' (by omega)
    · rintro ⟨i, st⟩ back2 exit2 ⟨e, hh⟩ he2
      dsimp only at e hh
      subst e
      unfold s_Mo_rests_16
      dsimp only
      exact ok_t (nI_le (Nat.le_refl n) (by omega)) (he2 _ ⟨rfl, hh⟩)
    · rintro ⟨i, st⟩ ⟨e, hh⟩
      dsimp only at e hh ⊢
      refine hback _ ⟨nI_add1 a, fun a' b ha' hb => ?_⟩
      by_cases ea : a' = a
      · subst ea; exact hh b hb
      · exact h a' b (by omega) hb
  · rintro ⟨i, st⟩ back exit ⟨e, h⟩ hexit
    dsimp only at e h
    subst e
    unfold s_Mo_rests_6
    dsimp only
    exact ok_t (nI_le (Nat.le_refl n) (by omega)) (hexit _ ⟨rfl, h⟩)
  · rintro ⟨i, st⟩ ⟨e, h⟩
    exact ok_some (Or.inr ⟨rfl, fun a b ha hb => h a b ha hb⟩)
/-! how many arcs there are -/
def lft (wt : Nat → Int) : Nat → Nat
  | 0 => 0
  | k + 1 => lft wt k + (if wt k = 0 then 0 else 1)
theorem lft_s (wt : Nat → Int) (k : Nat) : lft wt (k + 1) = lft wt k + (if wt k = 0 then 0 else 1) := rfl
theorem lft_le (wt : Nat → Int) : ∀ k, lft wt k ≤ k
  | 0 => Nat.le_refl _
  | k + 1 => by
    have := lft_le wt k
    rw [lft_s]
    split <;> omega
theorem lft_ag {u w : Nat → Int} : ∀ {k : Nat}, (∀ i, i < k → u i = w i) → lft u k = lft w k
  | 0, _ => rfl
  | k + 1, h => by rw [lft_s, lft_s, lft_ag (fun i hi => h i (by omega)), h k (by omega)]
def zr (wt : Nat → Int) (a : Nat) : Nat → Int := fun i => if i = a then 0 else wt i
theorem zr_eq {wt : Nat → Int} {a : Nat} : zr wt a a = 0 := if_pos rfl
theorem zr_ne {wt : Nat → Int} {a i : Nat} (h : i ≠ a) : zr wt a i = wt i := if_neg h
theorem lft_zr {wt : Nat → Int} {a : Nat} (hw : wt a ≠ 0) : ∀ {k : Nat}, a < k → lft (zr wt a) k + 1 = lft wt k
  | 0, h => absurd h (Nat.not_lt_zero _)
  | k + 1, h => by
    by_cases e : k = a
    · subst e
      rw [lft_s, lft_s, zr_eq, if_pos rfl, if_neg hw, lft_ag (w := wt) (fun i hi => zr_ne (by omega))]
    · have := lft_zr hw (k := k) (by omega)
      rw [lft_s, lft_s, zr_ne e]
      omega
theorem h_countArcs {k : Nat} {fr to : Nat → Nat} {wt : Nat → Int} {from_ to_ weight : Nat → Int32} (hk : k ≤ 36) (hr : carc k fr to wt from_ to_ weight) : ok (m_Gr_countArcs (nI k) weight) (fun r => r = nI (lft wt k)) := by
  unfold m_Gr_countArcs
  refine ok_cnt k 0 (fun j st => st.1 = nI (lft wt j) ∧ st.2 = nI j) ?_ ?_ ?_ ⟨nI_lit0, nI_lit0⟩ (Nat.zero_le k) (FU_big (by omega))
  · rintro j ⟨a, b⟩ back exit hj ⟨e1, e2⟩ hback
    dsimp only at e1 e2
    subst e1 e2
    unfold s_Gr_countArcs_4
    dsimp only
    obtain ⟨_, _, _, _, _, hwb, hw⟩ := hr j hj
    refine ok_f (le_nI (by omega) (by omega) hj) (ok_t (inb_nI (by omega) (by omega)) ?_)
    rw [nI_clamp (by omega), hw]
    by_cases e : wt j = 0
    · refine ok_t (by rw [e]; rfl) (hback _ ⟨?_, nI_add1 j⟩)
      dsimp only
      rw [lft_s, if_pos e]
      rfl
    · refine ok_f (fun q => e ((iZ_eq ⟨by omega, by omega⟩ ⟨by omega, by omega⟩).mp (q.trans iZ_0.symm))) (hback _ ⟨?_, nI_add1 j⟩)
      dsimp only
      rw [lft_s, if_neg e, nI_add1]
  · rintro ⟨a, b⟩ back exit ⟨e1, e2⟩ hexit
    dsimp only at e1 e2
    subst e1 e2
    unfold s_Gr_countArcs_4
    dsimp only
    exact ok_t (nI_le (Nat.le_refl k) (by omega)) (hexit _ ⟨rfl, rfl⟩)
  · rintro ⟨a, b⟩ ⟨e1, e2⟩
    exact ok_some e1
theorem h_alone {n : Nat} {h : Nat → Int32} (hn : n ≤ 9) : ok (m_Mo_alone (nI n) h) (fun o => o.1 = 0 ∧ o.2.1 = 0 ∧ ∀ i, i < n → o.2.2 i = nI i) := by
  unfold m_Mo_alone
  refine ok_fill n nI (by omega) (fun j g back exit hj _ _ => ?_) (fun g back exit => ?_) (fun g h1 h2 => ?_)
  · unfold s_Mo_alone_12
    dsimp only
    rw [if_neg (le_nI (by omega) (by omega) hj), if_pos (inb_nI (by omega) (by omega)), nI_clamp (by omega)]
  · unfold s_Mo_alone_12
    dsimp only
    rw [if_pos (nI_le (Nat.le_refl n) (by omega))]
  · exact ok_some ⟨rfl, rfl, h1⟩
theorem h_refresh {n k : Nat} {man : Int32} {fr to : Nat → Nat} {wt : Nat → Int} {from_ to_ weight : Nat → Int32} {gA gB : Nat → Nat → Int64} {lkA : Nat → Nat → Int32} {near : Nat → Int32} {has : Nat → Int64} (hn : n ≤ 9) (hk : k ≤ 36) (hr : carc k fr to wt from_ to_ weight) :
    ok (m_MG_refresh man (nI n) (nI k) from_ to_ weight gA gB lkA near has) (fun r1 => built man n k fr to wt r1.1 r1.2.1 r1.2.2.1 r1.2.2.2.1 r1.2.2.2.2.1 r1.2.2.2.2.2.1 r1.2.2.2.2.2.2.1 ∧ r1.2.2.2.2.2.2.2 = 0) := by
  unfold m_MG_refresh
  exact ok_bind (h_build hn hk hr) (fun r8 h8 => ok_eq (show m_St_forget = some 0 from rfl) (ok_some ⟨h8, rfl⟩))
theorem h_startAnew {n k : Nat} {man : Int32} {fr to : Nat → Nat} {wt : Nat → Int} {from_ to_ weight h : Nat → Int32} {gA gB : Nat → Nat → Int64} {lkA : Nat → Nat → Int32} {near : Nat → Int32} {has : Nat → Int64} (hn : n ≤ 9) (hk : k ≤ 36) (hr : carc k fr to wt from_ to_ weight) :
    ok (m_MG_startAnew man (nI n) (nI k) from_ to_ weight gA gB lkA near has h) (fun o => built man n k fr to wt o.1 o.2.1 o.2.2.1 o.2.2.2.1 o.2.2.2.2.1 o.2.2.2.2.2.1 o.2.2.2.2.2.2.1 ∧ o.2.2.2.2.2.2.2.1 = nI n ∧ o.2.2.2.2.2.2.2.2.1 = nI n ∧ (∀ i, i < n → o.2.2.2.2.2.2.2.2.2.1 i = nI i) ∧ o.2.2.2.2.2.2.2.2.2.2 = 0) := by
  unfold m_MG_startAnew
  exact ok_bind (h_refresh hn hk hr) (fun r1 h1 => ok_bind (h_separate hn) (fun r15 h15 => ok_some ⟨h1.1, h15.1, h15.2.1, h15.2.2, h1.2⟩))
