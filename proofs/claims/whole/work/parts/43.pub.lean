/-! labels, together, best, plateaus: the public ones, both sides -/
theorem cG_of {n k : Nat} {man : Int32} {fr to : Nat → Nat} {wt : Nat → Int} {lkA : Nat → Nat → Int32} {near : Nat → Int32} {has : Nat → Int64} (hn : n ≤ 9) (h : linked man k fr to wt lkA near has) : cG n (fun a b => nr man fr to wt a b k) (fun a b => lk man fr to wt a b k) lkA near :=
  fun v hv => ⟨fun u hu => h.1 v u (by omega) (by omega), h.2.1 v (by omega)⟩
theorem lbd_of {n k : Nat} {man : Int32} {fr to : Nat → Nat} {wt : Nat → Int} (hk : k ≤ 36) (hwb : wbd wt k) : lbd n (fun a b => lk man fr to wt a b k) := fun _ _ _ _ => bd_lk hk hwb
theorem c_labels {n : Nat} {link : Nat → Nat → Int32} {near hg hm sl so : Nat → Int32} {seed : Int32} {L : Nat → Nat → Int} {R : Nat → Nat → Prop} (hn : n ≤ 9) (hg1 : cG n R L link near) (hL : lbd n L) :
    ok (m_MG_labels (nI n) (nI n) link near hg hm sl so seed) (fun o => ∃ f, sprd R L n seed o.1 f ∧ o.2.1 = nI n ∧ o.2.2.1 = nI (cF f n) ∧ ∀ i, i < n → o.2.2.2.1 i = nI (cn f i)) := by
  unfold m_MG_labels
  refine ok_bind (h_run hn hg1 hL) (fun r5 h5 => ok_bind (h_take hn (fun i hi => ?_)) (fun r27 h27 => ok_some ⟨r5.2.2.1, h5, h27.1, h27.2.1, h27.2.2⟩))
  obtain ⟨v, hv, e⟩ := sprd_val hn hL h5 i hi
  exact ⟨v, by omega, e⟩
theorem r_labels {n k : Nat} {man seed : Int32} {fr to : Nat → Nat} {wt : Nat → Int} {ones others weights there hd bt jo has nm so sl : Nat → Int32} (hn : n ≤ 9) (hk : k ≤ 36) (hwb : wbd wt k) (hr : rarc k fr to wt ones others weights there) :
    ok (m_Mo_labels man (nI n) (nI k) ones others weights there hd bt jo has nm so sl seed) (fun o => ∃ f, sprd (fun a b => nr man fr to wt a b k) (fun a b => lk man fr to wt a b k) n seed o.1 f ∧ ∀ i, i < n → o.2.2.2.1 i = nI (cn f i)) := by
  unfold m_Mo_labels
  refine ok_bind (h_spread hn hk hwb hr) (fun r2 h2 => ok_bind (h_copy hn) (fun r15 h15 => ok_bind (h_number hn) (fun r23 h23 => ok_some ⟨_, h2, fun i hi => ?_⟩)))
  dsimp only
  rw [h23.2.1 i hi, (cn_ag h15.1).1 i hi]
theorem c_together {n a b : Nat} {link : Nat → Nat → Int32} {near sl so : Nat → Int32} {dr : Int32} {L : Nat → Nat → Int} {R : Nat → Nat → Prop} (hn : n ≤ 9) (hg1 : cG n R L link near) (hL : lbd n L) (ha : a < n) (hb : b < n) :
    ok (m_MG_together (nI n) (nI n) link near dr sl so (nI a) (nI b)) (fun o => o.1 = nI (tog R L n a b 20)) := by
  unfold m_MG_together
  refine ok_eq (hasNodes_y hn ha hb) (ok_f n1_0 ?_)
  refine ok_cnt 20 0 (fun s st => st.1 = nI (tog R L n a b s) ∧ st.2.1 = nI s) ?_ ?_ ?_ ⟨nI_lit0, nI_lit0⟩ (Nat.zero_le _) (FU_big (by omega))
  · rintro s ⟨x, y, d, l, o⟩ back exit hs ⟨e1, e2⟩ hback
    dsimp only at e1 e2
    subst e1 e2
    unfold s_MG_together_19
    dsimp only
    refine ok_f (by rw [nI20]; exact le_nI (by omega) (by omega) hs) (ok_bind (h_run hn hg1 hL) (fun r32 h32 => ok_t (inb_nI (by omega) (by omega)) (ok_t (inb_nI (by omega) (by omega)) ?_)))
    rw [nI_clamp (show a < 2 ^ 31 by omega), nI_clamp (show b < 2 ^ 31 by omega)]
    by_cases q : r32.2.2.1 a = r32.2.2.1 b
    · exact ok_t q (hback _ ⟨by rw [tog_y ha hb h32 q, nI_add1], nI_add1 s⟩)
    · exact ok_f q (hback _ ⟨by rw [tog_n ha hb h32 q], nI_add1 s⟩)
  · rintro ⟨x, y, d, l, o⟩ back exit ⟨e1, e2⟩ hexit
    dsimp only at e1 e2
    subst e1 e2
    unfold s_MG_together_19
    dsimp only
    exact ok_t (by rw [nI20]; exact nI_le (Nat.le_refl _) (by omega)) (hexit _ ⟨rfl, rfl⟩)
  · rintro ⟨x, y, d, l, o⟩ ⟨e1, e2⟩
    exact ok_some e1
theorem nI_p0 (c : Nat) : nI c + 0 = nI c := by
  rw [nI_lit0, nI_add]; rfl
theorem r_together {n k a b : Nat} {man z0 : Int32} {all : Int64} {fr to : Nat → Nat} {wt : Nat → Int} {ones others weights there bt jo has so sl : Nat → Int32} (hn : n ≤ 9) (hk : k ≤ 36) (hwb : wbd wt k) (hr : rarc k fr to wt ones others weights there) (ha : a < n) (hb : b < n) :
    ok (m_Mo_together man (nI n) (nI k) all z0 ones others weights there bt jo has so sl (nI a) (nI b)) (fun o => o.1 = nI (tog (fun a b => nr man fr to wt a b k) (fun a b => lk man fr to wt a b k) n a b 20)) := by
  unfold m_Mo_together
  refine ok_eq (isNode_y hn ha) (ok_f n1_0 (ok_eq (isNode_y hn hb) (ok_f n1_0 ?_)))
  refine ok_cnt 20 0 (fun s st => st.1 = nI (tog (fun a b => nr man fr to wt a b k) (fun a b => lk man fr to wt a b k) n a b s) ∧ st.2.1 = nI s) ?_ ?_ ?_ ⟨nI_lit0, nI_lit0⟩ (Nat.zero_le _) (FU_big (by omega))
  · rintro s ⟨x, y, st⟩ back exit hs ⟨e1, e2⟩ hback
    dsimp only at e1 e2
    subst e1 e2
    unfold s_Mo_together_23
    dsimp only
    refine ok_f (by rw [nI20]; exact le_nI (by omega) (by omega) hs) (ok_bind (h_spread hn hk hwb hr) (fun r32 h32 => ok_t (inb_nI (by omega) (by omega)) (ok_t (inb_nI (by omega) (by omega)) ?_)))
    rw [nI_clamp (show a < 2 ^ 31 by omega), nI_clamp (show b < 2 ^ 31 by omega)]
    by_cases q : r32.2.2.2.2.2.2.2 a = r32.2.2.2.2.2.2.2 b
    · exact ok_t q (hback _ ⟨by rw [tog_y ha hb h32 q, nI_add1], nI_add1 s⟩)
    · exact ok_f q (hback _ ⟨by rw [tog_n ha hb h32 q, nI_p0], nI_add1 s⟩)
  · rintro ⟨x, y, st⟩ back exit ⟨e1, e2⟩ hexit
    dsimp only at e1 e2
    subst e1 e2
    unfold s_Mo_together_23
    dsimp only
    exact ok_t (by rw [nI20]; exact nI_le (Nat.le_refl _) (by omega)) (hexit _ ⟨rfl, rfl⟩)
  · rintro ⟨x, y, st⟩ ⟨e1, e2⟩
    exact ok_some e1
theorem no_le {n K : Nat} (hn : n ≤ 9) (h : isNo n K) : ∀ j, j ≤ K → isNo n j
  | 0, _ => isNo_0 n
  | j + 1, hj => by
    have ih := no_le hn h j (by omega)
    obtain ⟨o, _, q⟩ := h_next (wk := fun i => nI (en n j i)) hn ih.1 (fun i _ => rfl)
    rcases q with q | ⟨i, q, _⟩
    · exact absurd q.2.1 (h.2.2 j (by omega))
    · exact isNo_s ih q
theorem c_search {n k : Nat} {man : Int32} {fr to : Nat → Nat} {wt : Nat → Int} {x y : Int} {nn : Int32} {alo : Int64} {gA gB : Nat → Nat → Int64} {lkA : Nat → Nat → Int32} {near : Nat → Int32} {has : Nat → Int64} {kg ko : Nat → Int32} {kA kB : Nat → Int64} {bA bB : Nat → Nat → Int64} {code : Int64} (hn : n ≤ 9) (hk : k ≤ 36) (hwb : wbd wt k) (hx : 0 ≤ x ∧ x ≤ 1000) (hy : 1 ≤ y ∧ y ≤ 100) (hb : built man n k fr to wt nn alo gA gB lkA near has) (ho : ko 0 = 0) (hs0 : kA 0 = 0) :
    ok (m_Pe_search (iZ x) (iZ y) nn alo gA gB kg ko kA kB bA bB code) (fun o => o.2.1 0 = 0 ∧ o.2.2.1 0 = 0 ∧ ∃ K, isLast n K ∧ o.2.2.2.2.2.2.1 = lN (cdN (en n (bst (fun j => Val man n k fr to wt x y (en n j)) K).2.1) n) ∧ o.2.2.2.2.2.2.2 = nI (bst (fun j => Val man n k fr to wt x y (en n j)) K).2.2) := by
  obtain ⟨rfl, rfl, h3, h4⟩ := hb
  have e : (fun j => Val man n k fr to wt x y (en n j)) = (fun j => y * sm2 n (pAof man (al man wt k) (fun c d => lk man fr to wt c d k)) (en n j) - x * (alB man (fun c => hs man fr to wt c k) n + sm2 n (pBof man (fun c => hs man fr to wt c k)) (en n j))) := by
    funext j
    rw [Val_pairs]
  rw [e]
  refine h_search hn ho hs0 h3 ⟨by omega, by omega⟩ ⟨by omega, by omega⟩ (fun j _ => ?_)
  rw [Val_pairs]
  exact inJ_Val hn hk hwb hx hy
theorem c_best {n k : Nat} {man : Int32} {fr to : Nat → Nat} {wt : Nat → Int} {x y : Int} {nn : Int32} {alo : Int64} {gA gB : Nat → Nat → Int64} {lkA : Nat → Nat → Int32} {near : Nat → Int32} {has : Nat → Int64} {hg hm kg ko : Nat → Int32} {kA kB : Nat → Int64} {bA bB : Nat → Nat → Int64} {code : Int64} (hn : n ≤ 9) (hk : k ≤ 36) (hwb : wbd wt k) (hx : 0 ≤ x ∧ x ≤ 1000) (hy : 1 ≤ y ∧ y ≤ 100) (hb : built man n k fr to wt nn alo gA gB lkA near has) (ho : ko 0 = 0) (hs0 : kA 0 = 0) :
    ok (m_MG_best (nI n) (iZ x) (iZ y) nn alo gA gB hg hm kg ko kA kB bA bB code) (fun o => (o.2.2.2.2.2.2.1 0 = 0 ∧ o.2.2.2.2.2.2.2.1 0 = 0) ∧ ∃ K, isLast n K ∧ o.1 = nI (opn (en n (bst (fun j => Val man n k fr to wt x y (en n j)) K).2.1) n) ∧ o.2.1 = nI n ∧ o.2.2.1 = nI (opn (en n (bst (fun j => Val man n k fr to wt x y (en n j)) K).2.1) n) ∧ ∀ i, i < n → o.2.2.2.1 i = nI (en n (bst (fun j => Val man n k fr to wt x y (en n j)) K).2.1 i)) := by
  unfold m_MG_best
  refine ok_bind (c_search hn hk hwb hx hy hb ho hs0) (fun r4 h4 => ?_)
  obtain ⟨o1, o2, K, hK, ec, ea⟩ := h4
  rw [ec]
  exact ok_bind (h_decode hn (no_le hn hK.1 _ (bst_bd _ K).2.2.1).1) (fun r25 h25 => ok_some ⟨⟨o1, o2⟩, K, hK, h25.2.1, h25.1, h25.2.1, h25.2.2⟩)
theorem r_best {n k : Nat} {man : Int32} {fr to : Nat → Nat} {wt : Nat → Int} {x y : Int} {isB ties : Int32} {all a b : Int64} {ones others weights there hd bt jo has nm wk bo : Nat → Int32} {sums sizes : Nat → Int64} (hn : n ≤ 9) (hk : k ≤ 36) (hr : rarc k fr to wt ones others weights there) (hx : 0 ≤ x ∧ x ≤ 1000) (hy : 1 ≤ y ∧ y ≤ 100) (hB : isB = 0 ∨ (isB = 1 ∧ rbest n (fun j => Val man n k fr to wt x y (en n j)) ties bo)) :
    ok (m_Mo_best man (iZ x) (iZ y) (nI n) (nI k) isB all a b ties ones others weights there hd bt jo has sums sizes nm wk bo) (fun o => o.2.1 = 1 ∧ rbest n (fun j => Val man n k fr to wt x y (en n j)) o.2.2.2.2.2.1 o.2.2.2.2.2.2.2.2.2.2.2.2.2.2 ∧ ∃ K, isLast n K ∧ o.1 = nI (opn (en n (bst (fun j => Val man n k fr to wt x y (en n j)) K).2.1) n) ∧ ∀ i, i < n → o.2.2.2.2.2.2.1 i = nI (en n (bst (fun j => Val man n k fr to wt x y (en n j)) K).2.1 i)) := by
  have hwb : wbd wt k := fun i hi => (hr i hi).2.2.2.2.2.1
  unfold m_Mo_best
  refine ok_bind (h_findBest hn hk hr ⟨by omega, by omega⟩ ⟨by omega, by omega⟩ (fun j _ => inJ_Val hn hk hwb hx hy) hB) (fun r1 h1 => ?_)
  obtain ⟨e1, hb⟩ := h1
  have hb2 := hb
  obtain ⟨K, hK, et, hno, hbo⟩ := hb2
  refine ok_bind (h_copy hn) (fun r13 h13 => ok_bind (h_number hn) (fun r21 h21 => ok_some ⟨e1, hb, K, hK, ?_, fun i hi => ?_⟩))
  · have hag : ∀ i, i < n → r13 i = lab (en n (bst (fun j => Val man n k fr to wt x y (en n j)) K).2.1) i := fun i hi => (h13.1 i hi).trans (hbo i hi)
    rw [h21.1, (cn_ag hag).2, rgs_cF (by omega) hno.1 n (Nat.le_refl n)]
  · have hag : ∀ i, i < n → r13 i = lab (en n (bst (fun j => Val man n k fr to wt x y (en n j)) K).2.1) i := fun i hi => (h13.1 i hi).trans (hbo i hi)
    dsimp only
    rw [h21.2.1 i hi, (cn_ag hag).1 i hi, rgs_cn (by omega) hno.1 hi]
/-! plateaus -/
def plC (n : Nat) (A B : Nat → Int) (K N : Nat) (cnt : Int32) (ab be co : Nat → Int64) : Prop := ∃ c, isC A B (K + 1) c ∧ c ≤ 1801 ∧ c ≤ N ∧ cnt = nI c ∧ tS n A B (K + 1) c ab be co
def qC (n : Nat) (A B : Nat → Int) (K N : Nat) (op : Nat → Int32) (sA : Nat → Int64) (known cnt : Int32) (ab : Nat → Int64) (abn : Nat) (be : Nat → Int64) (ben : Nat) (co : Nat → Int64) (con : Nat) : Prop := (op 0 = 0 ∧ sA 0 = 0) ∧ known = 1 ∧ plC n A B K N cnt ab be co ∧ abn = N ∧ ben = N ∧ con = N
theorem h_find {n k K N : Nat} {man : Int32} {fr to : Nat → Nat} {wt : Nat → Int} {nn : Int32} {alo : Int64} {gA gB : Nat → Nat → Int64} {lkA : Nat → Nat → Int32} {near : Nat → Int32} {has : Nat → Int64} {kg ko : Nat → Int32} {kA kB : Nat → Int64} {bA bB : Nat → Nat → Int64} {known cnt fd : Int32} {lA lB fa fb fc : Int64} {ab be co : Nat → Int64} {A B : Nat → Int} (hn : n ≤ 9) (hk : k ≤ 36) (hwb : wbd wt k) (hb : built man n k fr to wt nn alo gA gB lkA near has) (ho : ko 0 = 0) (hs0 : kA 0 = 0) (eA : AA man n k fr to wt = A) (eB : BB man n k fr to wt = B) (hfew : few A B) (hK : isLast n K) (h8 : 8 ≤ N) (hN : N ≤ 4096)
    (hP : known = 0 ∨ (known = 1 ∧ plC n A B K N cnt ab be co)) :
    ∃ Bc Bs N', (Bc + N ≤ N' ∧ Bs + 6 * N ≤ 6 * N' ∧ 8 ≤ N' ∧ N' ≤ 4096) ∧ ok (m_St_find nn alo gA gB kg ko kA kB bA bB known cnt lA lB fd fa fb fc ab N be N co N Bc Bs) (fun o => qC n A B K N' o.2.1 o.2.2.1 o.2.2.2.2.2.2.1 o.2.2.2.2.2.2.2.1 o.2.2.2.2.2.2.2.2.2.2.2.2.2.2.1 o.2.2.2.2.2.2.2.2.2.2.2.2.2.2.2.1 o.2.2.2.2.2.2.2.2.2.2.2.2.2.2.2.2.1 o.2.2.2.2.2.2.2.2.2.2.2.2.2.2.2.2.2.1 o.2.2.2.2.2.2.2.2.2.2.2.2.2.2.2.2.2.2.1 o.2.2.2.2.2.2.2.2.2.2.2.2.2.2.2.2.2.2.2) := by
  rcases hP with rfl | ⟨rfl, hP⟩
  · obtain ⟨rfl, rfl, h3, h4⟩ := hb
    obtain ⟨c, hC, hc1, hc2⟩ := isC_ex hfew (show 0 < K + 1 by omega)
    have hcap := capf_bd h8 hN c hc2
    refine ⟨capf N c - N, 6 * (capf N c - N), capf N c, ⟨by omega, by omega, by omega, by omega⟩, ?_⟩
    refine ok_w (h_find0 (FA := pAof man (al man wt k) (fun c d => lk man fr to wt c d k)) (FB := pBof man (fun c => hs man fr to wt c k)) hn ho hs0 h3 (fun j => ?_) (fun j => ?_) (by rw [← eA]; exact smalA hn hk hwb) (by rw [← eB]; exact smalB hn hk hwb) hK hC hc1 hc2 h8 hN) (fun o h => ⟨⟨h.1, h.2.1⟩, h.2.2.1, ⟨c, hC, hc2, hcap.2.2, h.2.2.2.1, h.2.2.2.2.1⟩, h.2.2.2.2.2.1, h.2.2.2.2.2.2.1, h.2.2.2.2.2.2.2⟩)
    · rw [A_pairs, ← eA]; rfl
    · rw [B_pairs, ← eB]; rfl
  · refine ⟨0, 0, N, ⟨by omega, by omega, h8, hN⟩, ?_⟩
    unfold m_St_find
    exact ok_f n1_0 (ok_t ⟨Nat.le_refl _, Nat.le_refl _⟩ (ok_some ⟨⟨ho, hs0⟩, rfl, hP, rfl, rfl, rfl⟩))
theorem nd_no2 {c : Nat} {v : Int32} (hc : c ≤ 1801) (h : ¬ nd c v) : v < 0 ∨ nI c ≤ v := by
  rcases pk_ix v (n := c) (by omega) with q | q | q
  · exact Or.inl q
  · exact Or.inr q
  · exact absurd q h
theorem has_y {c s : Nat} (hc : c ≤ 1801) (hs : s < c) : m_St_has (nI c) (nI s) = some 1 := by
  unfold m_St_has
  rw [if_neg (nI_pos (by omega)), if_neg (le_nI (by omega) (by omega) hs)]
theorem has_n {c : Nat} {v : Int32} (hc : c ≤ 1801) (h : ¬ nd c v) : m_St_has (nI c) v = some 0 := by
  unfold m_St_has
  by_cases q : v < 0
  · rw [if_pos q]
  · rw [if_neg q, if_pos ((nd_no2 hc h).resolve_left q)]
def bAns (A B : Nat → Int) (N c : Nat) (v1 v2 : Int32) (r : Int64) : Prop := (¬ nd c v1 ∧ r = -1) ∨ ∃ s, s < c ∧ v1 = nI s ∧ ((v2 = 0 ∧ r = lN ((tb A B N s).1 / Nat.gcd (tb A B N s).1 (tb A B N s).2)) ∨ (v2 = 1 ∧ r = lN ((tb A B N s).2 / Nat.gcd (tb A B N s).1 (tb A B N s).2)) ∨ (¬ v2 = 0 ∧ ¬ v2 = 1 ∧ r = -2))
theorem bAns_uniq {A B : Nat → Int} {N c : Nat} {v1 v2 : Int32} {r r' : Int64} (hc : c ≤ 1801) (h : bAns A B N c v1 v2 r) (g : bAns A B N c v1 v2 r') : r = r' := by
  rcases h with ⟨h1, h2⟩ | ⟨s, hs, rfl, h2⟩
  · rcases g with ⟨_, g2⟩ | ⟨t, ht, e, _⟩
    · rw [h2, g2]
    · exact absurd ⟨t, ht, e⟩ h1
  · rcases g with ⟨g1, _⟩ | ⟨t, ht, e, g2⟩
    · exact absurd ⟨s, hs, rfl⟩ g1
    · have e2 := nI_inj (by omega) (by omega) e
      subst e2
      rcases h2 with ⟨q1, q2⟩ | ⟨q1, q2⟩ | ⟨q1, q2, q3⟩ <;> rcases g2 with ⟨z1, z2⟩ | ⟨z1, z2⟩ | ⟨z1, z2, z3⟩
      · rw [q2, z2]
      · exact absurd (q1.symm.trans z1) n0_1
      · exact absurd q1 z1
      · exact absurd (q1.symm.trans z1) n1_0
      · rw [q2, z2]
      · exact absurd q1 z2
      · exact absurd z1 q1
      · exact absurd z1 q2
      · rw [q3, z3]
theorem c_begins {n K N' Bc Bs N : Nat} {nn : Int32} {alo : Int64} {gA gB : Nat → Nat → Int64} {kg ko : Nat → Int32} {kA kB : Nat → Int64} {bA bB : Nat → Nat → Int64} {known cnt fd v1 v2 : Int32} {lA lB fa fb fc : Int64} {ab be co : Nat → Int64} {A B : Nat → Int} (hN : N' ≤ 4096)
    (h : ok (m_St_find nn alo gA gB kg ko kA kB bA bB known cnt lA lB fd fa fb fc ab N be N co N Bc Bs) (fun o => qC n A B K N' o.2.1 o.2.2.1 o.2.2.2.2.2.2.1 o.2.2.2.2.2.2.2.1 o.2.2.2.2.2.2.2.2.2.2.2.2.2.2.1 o.2.2.2.2.2.2.2.2.2.2.2.2.2.2.2.1 o.2.2.2.2.2.2.2.2.2.2.2.2.2.2.2.2.1 o.2.2.2.2.2.2.2.2.2.2.2.2.2.2.2.2.2.1 o.2.2.2.2.2.2.2.2.2.2.2.2.2.2.2.2.2.2.1 o.2.2.2.2.2.2.2.2.2.2.2.2.2.2.2.2.2.2.2)) :
    ok (m_MG_begins nn alo gA gB kg ko kA kB bA bB known cnt lA lB fd fa fb fc ab N be N co N v1 v2 Bc Bs) (fun o => (∃ c, isC A B (K + 1) c ∧ c ≤ 1801 ∧ bAns A B (K + 1) c v1 v2 o.1) ∧ qC n A B K N' o.2.2.1 o.2.2.2.1 o.2.2.2.2.2.2.2.1 o.2.2.2.2.2.2.2.2.1 o.2.2.2.2.2.2.2.2.2.2.2.2.2.2.2.1 o.2.2.2.2.2.2.2.2.2.2.2.2.2.2.2.2.1 o.2.2.2.2.2.2.2.2.2.2.2.2.2.2.2.2.2.1 o.2.2.2.2.2.2.2.2.2.2.2.2.2.2.2.2.2.2.1 o.2.2.2.2.2.2.2.2.2.2.2.2.2.2.2.2.2.2.2.1 o.2.2.2.2.2.2.2.2.2.2.2.2.2.2.2.2.2.2.2.2) := by
  unfold m_MG_begins
  refine ok_t ⟨by omega, by omega⟩ (ok_bind h (fun r4 h4 => ok_t ⟨by omega, by omega⟩ ?_))
  have hq := h4
  obtain ⟨_, _, ⟨c, hC, hc, hcN, ec, hts⟩, en1, en2, en3⟩ := h4
  by_cases hv : nd c v1
  · obtain ⟨s, hs, rfl⟩ := hv
    refine ok_eq (by rw [ec]; exact has_y hc hs) (ok_f n1_0 ?_)
    obtain ⟨_, ha, hb⟩ := hts s hs
    by_cases q1 : v2 < 0
    · refine ok_t q1 (ok_t ⟨by omega, by omega⟩ (ok_some ⟨⟨c, hC, hc, Or.inr ⟨s, hs, rfl, Or.inr (Or.inr ⟨fun z => ?_, fun z => ?_, rfl⟩)⟩⟩, hq⟩))
      · rw [z] at q1; exact absurd q1 (by decide)
      · rw [z] at q1; exact absurd q1 (by decide)
    · refine ok_f q1 ?_
      by_cases q2 : v2 ≤ 1
      · refine ok_t q2 ?_
        by_cases q3 : v2 = 0
        · refine ok_t q3 (ok_t (inb_nI (by rw [en1]; omega) (by rw [en1]; omega)) (ok_t ⟨by omega, by omega⟩ (ok_some ⟨⟨c, hC, hc, Or.inr ⟨s, hs, rfl, Or.inl ⟨q3, ?_⟩⟩⟩, hq⟩)))
          dsimp only
          rw [nI_clamp (show s < 2 ^ 31 by omega)]
          exact ha
        · refine ok_f q3 (ok_t (inb_nI (by rw [en2]; omega) (by rw [en2]; omega)) (ok_t ⟨by omega, by omega⟩ (ok_some ⟨⟨c, hC, hc, Or.inr ⟨s, hs, rfl, Or.inr (Or.inl ⟨?_, ?_⟩)⟩⟩, hq⟩)))
          · rcases pk_ix v2 (n := 2) (by omega) with z | z | ⟨j, hj, z⟩
            · exact absurd z q1
            · exact absurd (Int32.le_trans z q2) (by decide)
            · rcases (show j = 0 ∨ j = 1 by omega) with e | e
              · rw [e] at z; exact absurd z q3
              · rw [z, e]; rfl
          · dsimp only
            rw [nI_clamp (show s < 2 ^ 31 by omega)]
            exact hb
      · refine ok_f q2 (ok_t ⟨by omega, by omega⟩ (ok_some ⟨⟨c, hC, hc, Or.inr ⟨s, hs, rfl, Or.inr (Or.inr ⟨fun z => ?_, fun z => ?_, rfl⟩)⟩⟩, hq⟩))
        · rw [z] at q2; exact q2 (by decide)
        · rw [z] at q2; exact q2 (by decide)
  · exact ok_eq (by rw [ec]; exact has_n hc hv) (ok_t rfl (ok_t ⟨by omega, by omega⟩ (ok_some ⟨⟨c, hC, hc, Or.inl ⟨hv, rfl⟩⟩, hq⟩)))
theorem tb_all {A B : Nat → Int} {N c s : Nat} (hA : smal A) (hB : smal B) (hC : isC A B N c) (hs : s < c) : (tb A B N s).1 < 2 ^ 32 ∧ 0 < (tb A B N s).2 ∧ (tb A B N s).2 < 2 ^ 32 := by
  cases s with
  | zero => exact ⟨by show 0 < 2 ^ 32; omega, by show 0 < 1; omega, by show 1 < 2 ^ 32; omega⟩
  | succ s =>
    obtain ⟨f, hf⟩ := hC.2 s (by omega)
    obtain ⟨g, hg⟩ := hC.2 (s + 1) hs
    exact (tb_num hA hB hf hg).2.2
theorem r_begins {n K : Nat} {man nn kk isP cnt0 v1 v2 : Int32} {all a0 b0 : Int64} {ones others weights there bt jo has wk fd sh : Nat → Int32} {sums sizes ab be so : Nat → Int64} {A B : Nat → Int} (sA1 : smal A) (sB1 : smal B)
    (h : ok (m_Mo_findPlateaus man nn kk isP all a0 b0 cnt0 ones others weights there bt jo has sums sizes wk fd sh ab be so) (fun o => o.1 = 1 ∧ plR n A B K o.2.2.2.2.1 o.2.2.2.2.2.2.2.2.2.2.2.2.2.1 o.2.2.2.2.2.2.2.2.2.2.2.2.2.2.1 o.2.2.2.2.2.2.2.2.2.2.2.2.2.2.2)) :
    ok (m_Mo_begins man nn kk isP all a0 b0 cnt0 ones others weights there bt jo has sums sizes wk fd sh ab be so v1 v2) (fun o => (∃ c, isC A B (K + 1) c ∧ c ≤ 1801 ∧ bAns A B (K + 1) c v1 v2 o.1) ∧ o.2.1 = 1 ∧ plR n A B K o.2.2.2.2.2.1 o.2.2.2.2.2.2.2.2.2.2.2.2.2.2.1 o.2.2.2.2.2.2.2.2.2.2.2.2.2.2.2.1 o.2.2.2.2.2.2.2.2.2.2.2.2.2.2.2.2) := by
  unfold m_Mo_begins
  refine ok_bind h (fun r1 h1 => ?_)
  have hq := h1
  obtain ⟨_, c, hC, hc, ec, hrs⟩ := h1
  by_cases hv : nd c v1
  · obtain ⟨s, hs, rfl⟩ := hv
    obtain ⟨_, ha, hb⟩ := hrs s hs
    obtain ⟨t1, t2, t3⟩ := tb_all sA1 sB1 hC hs
    obtain ⟨hg0, hgb⟩ := div_gcd (a := (tb A B (K + 1) s).1) t2
    refine ok_f (nI_pos (by omega)) (ok_t (by rw [ec]; exact nI_lt hs (by omega)) ?_)
    refine ok_jn (fun _ => v2 = 0 ∨ v2 = 1) (fun j33 h33 => ?_) (fun _ hv2 => ?_)
    · by_cases q0 : v2 = 0
      · exact ok_t q0 (h33 () (Or.inl q0))
      · refine ok_f q0 ?_
        by_cases q1 : v2 = 1
        · exact ok_t q1 (h33 () (Or.inr q1))
        · exact ok_f q1 (ok_some ⟨⟨c, hC, hc, Or.inr ⟨s, hs, rfl, Or.inr (Or.inr ⟨q0, q1, rfl⟩)⟩⟩, hq⟩)
    · refine ok_t (inb_nI (by omega) (by omega)) ?_
      rw [nI_clamp (show s < 2 ^ 31 by omega), ha, hb]
      refine ok_ghost 68 0 (fun i st => ∃ a' b', st.1 = lN a' ∧ st.2 = lN b' ∧ eI (Nat.gcd (tb A B (K + 1) s).1 (tb A B (K + 1) s).2) i a' b') (fun st => st.1 = lN (Nat.gcd (tb A B (K + 1) s).1 (tb A B (K + 1) s).2)) ?_ ?_ (fun j st ⟨_, _, _, _, h⟩ => by have := h.2.2.2.1; omega) ⟨_, _, rfl, rfl, eI_0 t1 t3⟩ (FU_big (by omega))
      · rintro i ⟨x, y⟩ back exit ⟨a', b', e1, e2, h⟩ hback hexit
        dsimp only at e1 e2
        subst e1 e2
        unfold s_Mo_begins_48
        dsimp only
        by_cases q : b' = 0
        · subst q
          refine ok_t rfl (hexit _ ?_)
          have := h.1
          rw [Nat.gcd_zero_right] at this
          rw [this]
        · refine ok_f (lN_ne h.2.2.1 q) (ok_t (lN_ne h.2.2.1 q) (hback _ ⟨b', a' % b', rfl, ?_, eI_s h q⟩))
          dsimp only
          exact pk_lRem (by have := h.2.1; omega) (by omega) (by have := h.2.2.1; omega)
      · rintro ⟨x, y⟩ e
        dsimp only at e ⊢
        subst e
        have hne := lN_ne (b := Nat.gcd (tb A B (K + 1) s).1 (tb A B (K + 1) s).2) (by omega) (by omega)
        rcases hv2 with q0 | q1
        · exact ok_t q0 (ok_t (inb_nI (by omega) (by omega)) (ok_t hne (ok_some ⟨⟨c, hC, hc, Or.inr ⟨s, hs, rfl, Or.inl ⟨q0, pk_lDiv (by omega) hg0 (by omega)⟩⟩⟩, hq⟩)))
        · exact ok_f (by rw [q1]; exact n1_0) (ok_t (inb_nI (by omega) (by omega)) (ok_t hne (ok_some ⟨⟨c, hC, hc, Or.inr ⟨s, hs, rfl, Or.inr (Or.inl ⟨q1, pk_lDiv (by omega) hg0 (by omega)⟩)⟩⟩, hq⟩)))
  · have hans : (∃ c, isC A B (K + 1) c ∧ c ≤ 1801 ∧ bAns A B (K + 1) c v1 v2 (-1)) := ⟨c, hC, hc, Or.inl ⟨hv, rfl⟩⟩
    by_cases q : v1 < 0
    · exact ok_t q (ok_some ⟨hans, hq⟩)
    · refine ok_f q (ok_f ?_ (ok_some ⟨hans, hq⟩))
      rw [ec]
      exact fun z => absurd ((nd_no2 hc hv).resolve_left q) (Int32.not_le.mpr z)
theorem wb_sar {n k : Nat} (hn : n < 2 ^ 63) (hk : k < 64) : lN n >>> ((nI k).toInt64 &&& 63) = lN (n / 2 ^ k) := by
  rw [wb_c k hk]
  apply wb_inj
  rw [Int64.toBitVec_shiftRight, wb_tb, wb_tb, wb_tb, wb_sm k hk]
  have hm : (BitVec.ofNat 64 n).msb = false := by
    rw [BitVec.msb_eq_decide, BitVec.toNat_ofNat, Nat.mod_eq_of_lt (by omega)]
    exact decide_eq_false (by omega)
  rw [BitVec.sshiftRight_eq', BitVec.sshiftRight_eq_of_msb_false hm]
  apply BitVec.eq_of_toNat_eq
  have h2 : n / 2 ^ k ≤ n := Nat.div_le_self _ _
  rw [BitVec.toNat_ushiftRight, BitVec.toNat_ofNat, BitVec.toNat_ofNat, BitVec.toNat_ofNat, Nat.mod_eq_of_lt (show n < 2 ^ 64 by omega), Nat.mod_eq_of_lt (show k < 2 ^ 64 by omega), Nat.mod_eq_of_lt (show n / 2 ^ k < 2 ^ 64 by omega), Nat.shiftRight_eq_div_pow]
def pAns (n : Nat) (A B : Nat → Int) (N c : Nat) (v1 : Int32) (r : Int32) (hd hd0 : Nat → Int32) : Prop := (¬ nd c v1 ∧ r = -1 ∧ hd = hd0) ∨ ∃ s f, s < c ∧ v1 = nI s ∧ pl A B N s = some f ∧ rgs n (en n f) ∧ r = nI (opn (en n f) n) ∧ ∀ i, i < n → hd i = nI (en n f i)
theorem c_plateau {n K N' Bc Bs N : Nat} {nn hN0 hC0 : Int32} {alo : Int64} {gA gB : Nat → Nat → Int64} {hg hm kg ko : Nat → Int32} {kA kB : Nat → Int64} {bA bB : Nat → Nat → Int64} {known cnt fd v1 : Int32} {lA lB fa fb fc : Int64} {ab be co : Nat → Int64} {A B : Nat → Int} (hn : n ≤ 9) (hN : N' ≤ 4096)
    (h : ok (m_St_find nn alo gA gB kg ko kA kB bA bB known cnt lA lB fd fa fb fc ab N be N co N Bc Bs) (fun o => qC n A B K N' o.2.1 o.2.2.1 o.2.2.2.2.2.2.1 o.2.2.2.2.2.2.2.1 o.2.2.2.2.2.2.2.2.2.2.2.2.2.2.1 o.2.2.2.2.2.2.2.2.2.2.2.2.2.2.2.1 o.2.2.2.2.2.2.2.2.2.2.2.2.2.2.2.2.1 o.2.2.2.2.2.2.2.2.2.2.2.2.2.2.2.2.2.1 o.2.2.2.2.2.2.2.2.2.2.2.2.2.2.2.2.2.2.1 o.2.2.2.2.2.2.2.2.2.2.2.2.2.2.2.2.2.2.2)) :
    ok (m_MG_plateau (nI n) nn alo gA gB hN0 hC0 hg hm kg ko kA kB bA bB known cnt lA lB fd fa fb fc ab N be N co N v1 Bc Bs) (fun o => (∃ c, isC A B (K + 1) c ∧ c ≤ 1801 ∧ pAns n A B (K + 1) c v1 o.1 o.2.2.2.1 hg ∧ ((¬ nd c v1 ∧ o.2.1 = hN0 ∧ o.2.2.1 = hC0) ∨ (nd c v1 ∧ o.2.1 = nI n ∧ o.2.2.1 = o.1))) ∧ qC n A B K N' o.2.2.2.2.2.2.1 o.2.2.2.2.2.2.2.1 o.2.2.2.2.2.2.2.2.2.2.2.1 o.2.2.2.2.2.2.2.2.2.2.2.2.1 o.2.2.2.2.2.2.2.2.2.2.2.2.2.2.2.2.2.2.2.1 o.2.2.2.2.2.2.2.2.2.2.2.2.2.2.2.2.2.2.2.2.1 o.2.2.2.2.2.2.2.2.2.2.2.2.2.2.2.2.2.2.2.2.2.1 o.2.2.2.2.2.2.2.2.2.2.2.2.2.2.2.2.2.2.2.2.2.2.1 o.2.2.2.2.2.2.2.2.2.2.2.2.2.2.2.2.2.2.2.2.2.2.2.1 o.2.2.2.2.2.2.2.2.2.2.2.2.2.2.2.2.2.2.2.2.2.2.2.2) := by
  unfold m_MG_plateau
  refine ok_t ⟨by omega, by omega⟩ (ok_bind h (fun r4 h4 => ok_t ⟨by omega, by omega⟩ ?_))
  have hq := h4
  obtain ⟨_, _, ⟨c, hC, hc, hcN, ec, hts⟩, en1, en2, en3⟩ := h4
  by_cases hv : nd c v1
  · have hv0 := hv
    obtain ⟨s, hs, rfl⟩ := hv
    refine ok_eq (by rw [ec]; exact has_y hc hs) (ok_f n1_0 ?_)
    obtain ⟨⟨f, hf, hno, hco⟩, ha, hb⟩ := hts s hs
    refine ok_t (inb_nI (by rw [en3]; omega) (by rw [en3]; omega)) (ok_t ⟨by omega, by omega⟩ ?_)
    rw [nI_clamp (show s < 2 ^ 31 by omega), hco]
    exact ok_bind (h_decode hn hno.1) (fun r40 h40 => ok_t ⟨by omega, by omega⟩ (ok_some ⟨⟨c, hC, hc, Or.inr ⟨s, f, hs, rfl, hf, hno.1, h40.2.1, h40.2.2⟩, Or.inr ⟨hv0, h40.1, rfl⟩⟩, hq⟩))
  · exact ok_eq (by rw [ec]; exact has_n hc hv) (ok_t rfl (ok_t ⟨by omega, by omega⟩ (ok_some ⟨⟨c, hC, hc, Or.inl ⟨hv, rfl, rfl⟩, Or.inl ⟨hv, rfl, rfl⟩⟩, hq⟩)))
theorem r_plateau {n K : Nat} {man kk isP cnt0 v1 : Int32} {all a0 b0 : Int64} {ones others weights there hd bt jo has nm wk fd sh : Nat → Int32} {sums sizes ab be so : Nat → Int64} {A B : Nat → Int} (hn : n ≤ 9)
    (h : ok (m_Mo_findPlateaus man (nI n) kk isP all a0 b0 cnt0 ones others weights there bt jo has sums sizes wk fd sh ab be so) (fun o => o.1 = 1 ∧ plR n A B K o.2.2.2.2.1 o.2.2.2.2.2.2.2.2.2.2.2.2.2.1 o.2.2.2.2.2.2.2.2.2.2.2.2.2.2.1 o.2.2.2.2.2.2.2.2.2.2.2.2.2.2.2)) :
    ok (m_Mo_plateau man (nI n) kk isP all a0 b0 cnt0 ones others weights there hd bt jo has sums sizes nm wk fd sh ab be so v1) (fun o => (∃ c, isC A B (K + 1) c ∧ c ≤ 1801 ∧ pAns n A B (K + 1) c v1 o.1 o.2.2.2.2.2.2.1 hd) ∧ o.2.1 = 1 ∧ plR n A B K o.2.2.2.2.2.1 o.2.2.2.2.2.2.2.2.2.2.2.2.2.2.2.2.1 o.2.2.2.2.2.2.2.2.2.2.2.2.2.2.2.2.2.1 o.2.2.2.2.2.2.2.2.2.2.2.2.2.2.2.2.2.2) := by
  unfold m_Mo_plateau
  refine ok_bind h (fun r1 h1 => ?_)
  have hq := h1
  obtain ⟨_, c, hC, hc, ec, hrs⟩ := h1
  by_cases hv : nd c v1
  · obtain ⟨s, hs, rfl⟩ := hv
    obtain ⟨⟨f, hf, hno, hco⟩, ha, hb⟩ := hrs s hs
    refine ok_f (nI_pos (by omega)) (ok_t (by rw [ec]; exact nI_lt hs (by omega)) ?_)
    refine ok_fill n (fun i => nI (en n f i)) (by omega) (fun j g back exit hj _ _ => ?_) (fun g back exit => ?_) (fun g h1 h2 => ?_)
    · unfold s_Mo_plateau_20
      dsimp only
      have hp16 : ∀ u, u < n → en n f u < 16 := fun u hu => by have := rgs_le hno.1 hu; omega
      have hl := cdN_lt hp16
      have h36 := p44 hn
      have h4 : (4 : Int32) = nI 4 := by decide +kernel
      have h15 : (15 : Int32) = nI 15 := by decide +kernel
      rw [if_neg (le_nI (by omega) (by omega) hj), if_pos (inb_nI (by omega) (by omega)), if_pos (inb_nI (by omega) (by omega)), nI_clamp (show s < 2 ^ 31 by omega), nI_clamp (show j < 2 ^ 31 by omega), hco, h4, pk_mul, wb_sar (by omega) (by omega), lN_i, h15, nI_and, show (15 : Nat) = 2 ^ 4 - 1 from rfl, Nat.and_two_pow_sub_one_eq_mod, show (2 : Nat) ^ 4 = 16 from rfl, cdN_get hj hp16]
    · unfold s_Mo_plateau_20
      dsimp only
      rw [if_pos (nI_le (Nat.le_refl n) (by omega))]
    · refine ok_bind (h_number hn) (fun r59 h59 => ok_some ⟨⟨c, hC, hc, Or.inr ⟨s, f, hs, rfl, hf, hno.1, ?_, fun i hi => ?_⟩⟩, hq⟩)
      · have hag : ∀ i, i < n → g i = lab (en n f) i := h1
        dsimp only
        rw [h59.1, (cn_ag hag).2, rgs_cF (by omega) hno.1 n (Nat.le_refl n)]
      · have hag : ∀ i, i < n → g i = lab (en n f) i := h1
        dsimp only
        rw [h59.2.1 i hi, (cn_ag hag).1 i hi, rgs_cn (by omega) hno.1 hi]
  · have hans : ∃ c, isC A B (K + 1) c ∧ c ≤ 1801 ∧ pAns n A B (K + 1) c v1 (-1) hd hd := ⟨c, hC, hc, Or.inl ⟨hv, rfl, rfl⟩⟩
    by_cases q : v1 < 0
    · exact ok_t q (ok_some ⟨hans, hq⟩)
    · refine ok_f q (ok_f ?_ (ok_some ⟨hans, hq⟩))
      rw [ec]
      exact fun z => absurd ((nd_no2 hc hv).resolve_left q) (Int32.not_le.mpr z)
