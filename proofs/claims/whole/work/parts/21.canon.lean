/-! partitions: nodes with labels f; the canonical numbers of the groups, as they first come -/
/-- the least j < k with the label of i, or k -/
def fo (f : Nat → Int32) (i : Nat) : Nat → Nat
  | 0 => 0
  | k + 1 => if fo f i k < k then fo f i k else if f k = f i then k else k + 1
theorem fo_spec (f : Nat → Int32) (i : Nat) : ∀ k, (fo f i k < k ∧ f (fo f i k) = f i ∧ ∀ j, j < fo f i k → f j ≠ f i) ∨ (fo f i k = k ∧ ∀ j, j < k → f j ≠ f i)
  | 0 => Or.inr ⟨rfl, fun _ h => absurd h (Nat.not_lt_zero _)⟩
  | k + 1 => by
    unfold fo
    rcases fo_spec f i k with ⟨h1, h2, h3⟩ | ⟨h1, h2⟩
    · rw [if_pos h1]; exact Or.inl ⟨by omega, h2, h3⟩
    · rw [if_neg (by omega)]
      by_cases h : f k = f i
      · rw [if_pos h]; exact Or.inl ⟨by omega, h, h2⟩
      · rw [if_neg h]
        refine Or.inr ⟨rfl, fun j hj => ?_⟩
        by_cases e : j = k
        · subst e; exact h
        · exact h2 j (by omega)
/-- the first node with the label of i -/
def fst (f : Nat → Int32) (i : Nat) : Nat := fo f i (i + 1)
theorem fst_spec (f : Nat → Int32) (i : Nat) : fst f i ≤ i ∧ f (fst f i) = f i ∧ ∀ j, j < fst f i → f j ≠ f i := by
  rcases fo_spec f i (i + 1) with ⟨h1, h2, h3⟩ | ⟨h1, h2⟩
  · exact ⟨by unfold fst; omega, h2, h3⟩
  · exact absurd rfl (h2 i (by omega))
theorem fst_uniq {f : Nat → Int32} {i j : Nat} (h1 : f j = f i) (h2 : ∀ k, k < j → f k ≠ f i) : fst f i = j := by
  obtain ⟨a1, a2, a3⟩ := fst_spec f i
  rcases Nat.lt_trichotomy (fst f i) j with h | h | h
  · exact absurd a2 (h2 _ h)
  · exact h
  · exact absurd h1 (a3 j h)
theorem fst_eq {f : Nat → Int32} {i j : Nat} (h : f i = f j) : fst f i = fst f j := by
  obtain ⟨a1, a2, a3⟩ := fst_spec f j
  exact fst_uniq (a2.trans h.symm) (fun k hk => by rw [h]; exact a3 k hk)
theorem fst_fst (f : Nat → Int32) (i : Nat) : fst f (fst f i) = fst f i := fst_eq (fst_spec f i).2.1
/-- how many labels the nodes before k have -/
def cF (f : Nat → Int32) : Nat → Nat
  | 0 => 0
  | k + 1 => cF f k + (if fst f k = k then 1 else 0)
theorem cF_le (f : Nat → Int32) : ∀ k, cF f k ≤ k
  | 0 => Nat.le_refl _
  | k + 1 => by
    have := cF_le f k
    unfold cF
    split <;> omega
theorem cF_mono (f : Nat → Int32) {a b : Nat} (h : a ≤ b) : cF f a ≤ cF f b := by
  induction b with
  | zero => rw [show a = 0 by omega]; exact Nat.le_refl _
  | succ b ih =>
    rcases Nat.lt_or_ge b a with h1 | h1
    · rw [show a = b + 1 by omega]; exact Nat.le_refl _
    · have := ih h1
      show _ ≤ cF f b + _
      omega
theorem cF_lt {f : Nat → Int32} {a b : Nat} (h : a < b) (ha : fst f a = a) : cF f a < cF f b := by
  have h1 : cF f (a + 1) ≤ cF f b := cF_mono f h
  have h2 : cF f (a + 1) = cF f a + 1 := by show cF f a + (if fst f a = a then 1 else 0) = _; rw [if_pos ha]
  omega
/-- the canonical number of i's group -/
def cn (f : Nat → Int32) (i : Nat) : Nat := cF f (fst f i)
theorem cn_le (f : Nat → Int32) (i : Nat) : cn f i ≤ i := Nat.le_trans (cF_le f _) (fst_spec f i).1
theorem cn_lt {f : Nat → Int32} {i n : Nat} (h : i < n) : cn f i < cF f n := cF_lt (Nat.lt_of_le_of_lt (fst_spec f i).1 h) (fst_fst f i)
theorem cn_eq {f : Nat → Int32} {i j : Nat} : cn f i = cn f j ↔ f i = f j := by
  constructor
  · intro h
    rcases Nat.lt_trichotomy (fst f i) (fst f j) with q | q | q
    · have := cF_lt q (fst_fst f i); unfold cn at h; omega
    · rw [← (fst_spec f i).2.1, ← (fst_spec f j).2.1, q]
    · have := cF_lt q (fst_fst f j); unfold cn at h; omega
  · intro h; unfold cn; rw [fst_eq h]
/-- canonical numbers depend on which labels are alike alone -/
theorem fst_same {f g : Nat → Int32} {n : Nat} (h : ∀ i j, i < n → j < n → (f i = f j ↔ g i = g j)) {i : Nat} (hi : i < n) : fst f i = fst g i := by
  obtain ⟨a1, a2, a3⟩ := fst_spec g i
  exact fst_uniq ((h _ _ (by omega) hi).mpr a2) (fun k hk e => a3 k hk ((h k i (by omega) hi).mp e))
theorem cF_same {f g : Nat → Int32} {n : Nat} (h : ∀ i j, i < n → j < n → (f i = f j ↔ g i = g j)) : ∀ k, k ≤ n → cF f k = cF g k
  | 0, _ => rfl
  | k + 1, hk => by
    show cF f k + _ = cF g k + _
    rw [cF_same h k (by omega), fst_same h (by omega : k < n)]
theorem cn_same {f g : Nat → Int32} {n : Nat} (h : ∀ i j, i < n → j < n → (f i = f j ↔ g i = g j)) {i : Nat} (hi : i < n) : cn f i = cn g i := by
  unfold cn
  rw [fst_same h hi]
  exact cF_same h _ (Nat.le_trans (fst_spec g i).1 (by omega))
/-- the labels that are canonical already -/
def lab (p : Nat → Nat) : Nat → Int32 := fun i => nI (p i)
theorem lab_eq {p : Nat → Nat} {i j : Nat} (hi : p i < 2 ^ 31) (hj : p j < 2 ^ 31) : lab p i = lab p j ↔ p i = p j := nI_eq hi hj
theorem cn_cn {f : Nat → Int32} {n : Nat} (hn : n ≤ 1000) {i : Nat} (hi : i < n) : cn (lab (cn f)) i = cn f i := by
  refine cn_same (n := n) (fun a b ha hb => ?_) hi
  have h1 := cn_le f a
  have h2 := cn_le f b
  rw [lab_eq (by omega) (by omega), cn_eq]
theorem cF_cn {f : Nat → Int32} {n : Nat} (hn : n ≤ 1000) : cF (lab (cn f)) n = cF f n := by
  refine cF_same (n := n) (fun a b ha hb => ?_) n (Nat.le_refl n)
  have h1 := cn_le f a
  have h2 := cn_le f b
  rw [lab_eq (by omega) (by omega), cn_eq]
/-- Partition.renumber -/
theorem h_renumber {n : Nat} {f nm : Nat → Int32} (hn : n ≤ 9) (hf : ∀ i, i < n → ∃ v, v < 10 ∧ f i = nI v) :
    ok (m_Pa_renumber (nI n) f nm) (fun o => o.1 = nI (cF f n) ∧ (∀ i, i < n → o.2.1 i = nI (cn f i)) ∧ ∀ i, n ≤ i → o.2.1 i = f i) := by
  unfold m_Pa_renumber
  refine ok_bind (h_fillI (by decide)) (fun nm0 h0 => ?_)
  refine ok_cnt n 0 (fun j st => st.1 = nI j ∧ st.2.1 = nI (cF f j) ∧ (∀ i, i < j → st.2.2.1 i = nI (cn f i)) ∧ (∀ i, j ≤ i → st.2.2.1 i = f i) ∧
    (∀ i, i < j → ∀ v, v < 10 → f i = nI v → st.2.2.2 v = nI (cn f i)) ∧ (∀ v, v < 10 → (∀ i, i < j → f i ≠ nI v) → st.2.2.2 v = -1)) ?_ ?_ ?_ ?_ (Nat.zero_le n) (FU_big (by omega))
  · rintro j ⟨x, c, g, q⟩ back exit hj ⟨e1, e2, h1, h2, h3, h4⟩ hback
    dsimp only at e1 e2 h1 h2 h3 h4
    subst e1 e2
    obtain ⟨v, hv, ev⟩ := hf j hj
    have eg : g j = nI v := (h2 j (Nat.le_refl j)).trans ev
    unfold s_Pa_renumber_15
    dsimp only
    refine ok_f (fun h => absurd ((nI_leI (by omega) (by omega)).mp h) (by omega)) ?_
    refine ok_t (inb_nI (by omega) (by omega)) ?_
    simp only [nI_clamp (show j < 2 ^ 31 by omega), eg]
    refine ok_t (inb_nI hv (by omega)) ?_
    simp only [nI_clamp (show v < 2 ^ 31 by omega)]
    refine ok_jn (fun st => st.1 = nI (cF f (j + 1)) ∧ st.2 v = nI (cn f j) ∧ ∀ u, u < 10 → u ≠ v → st.2 u = q u) (fun k hk => ?_) (fun st hst => ?_)
    · by_cases hs : ∃ i, i < j ∧ f i = nI v
      · obtain ⟨i, hi, ei⟩ := hs
        have eq1 := h3 i hi v hv ei
        have hc : cn f i = cn f j := cn_eq.mpr (ei.trans ev.symm)
        refine ok_t (by rw [eq1]; exact nI_pos' (by have := cn_le f i; omega)) ?_
        refine hk _ ⟨?_, ?_, fun _ _ _ => rfl⟩
        · show nI (cF f j) = nI (cF f j + _)
          have : fst f j ≠ j := fun e => by
            have := fst_spec f j
            rw [e] at this
            exact this.2.2 i hi (ei.trans ev.symm)
          rw [if_neg this]; rfl
        · show q v = _
          rw [eq1, hc]
      · have hno : ∀ i, i < j → f i ≠ nI v := fun i hi e => hs ⟨i, hi, e⟩
        have eq1 := h4 v hv hno
        have hfst : fst f j = j := fst_uniq rfl (fun k hk => by rw [ev]; exact hno k hk)
        refine ok_f (by rw [eq1]; decide) ?_
        refine hk _ ⟨?_, ?_, fun u hu hne => ?_⟩
        · show nI (cF f j) + 1 = nI (cF f j + _)
          rw [if_pos hfst]; exact nI_1 _
        · show upd q v (nI (cF f j)) v = _
          rw [pk_us]; unfold cn; rw [hfst]
        · show upd q v (nI (cF f j)) u = _
          rw [pk_un hne]
    · obtain ⟨c', q'⟩ := st
      obtain ⟨e1, e2, e3⟩ := hst
      dsimp only at e1 e2 e3 ⊢
      refine ok_t (inb_nI hv (by omega)) ?_
      refine ok_t (inb_nI (by omega) (by omega)) ?_
      refine hback _ ⟨nI_add1 j, e1, fun i hi => ?_, fun i hi => ?_, fun i hi u hu eu => ?_, fun u hu hno => ?_⟩
      · dsimp only
        by_cases e : i = j
        · subst e; rw [pk_us]; exact e2
        · rw [pk_un e]; exact h1 i (by omega)
      · dsimp only
        rw [pk_un (by omega)]; exact h2 i (by omega)
      · dsimp only
        by_cases e : u = v
        · subst e
          rw [e2]
          congr 1
          exact cn_eq.mpr (ev.trans eu.symm)
        · rw [e3 u hu e]
          have hij : i ≠ j := fun q => e (by
            subst q
            exact nI_inj (by omega) (by omega) (eu.symm.trans ev))
          exact h3 i (by omega) u hu eu
      · dsimp only
        have e : u ≠ v := fun q => by subst q; exact hno j (by omega) ev
        rw [e3 u hu e]
        exact h4 u hu (fun i hi => hno i (by omega))
  · rintro ⟨x, c, g, q⟩ back exit ⟨e1, h⟩ hexit
    dsimp only at e1
    subst e1
    unfold s_Pa_renumber_15
    dsimp only
    refine ok_t ((nI_leI (by omega) (by omega)).mpr (Nat.le_refl n)) ?_
    exact hexit _ ⟨rfl, h⟩
  · rintro ⟨x, c, g, q⟩ ⟨e1, e2, h1, h2, -, -⟩
    exact ok_some ⟨e2, h1, h2⟩
  · exact ⟨nI_lit0, nI_lit0, fun _ h => absurd h (Nat.not_lt_zero _), fun _ _ => rfl, fun _ h => absurd h (Nat.not_lt_zero _), fun v hv _ => h0.1 v hv⟩
