/-! the loops that lay an array anew, place by place; the numbering of groups, in the class and in the reference -/
theorem ok_fill {β : Type} {f : (Int32 × (Nat → Int32)) → ((Int32 × (Nat → Int32)) → Option β) → ((Int32 × (Nat → Int32)) → Option β) → Option β} {K : (Int32 × (Nat → Int32)) → Option β} {P : β → Prop} {g0 : Nat → Int32} (n : Nat) (v : Nat → Int32) (hn : n < 29999)
    (hf : ∀ (j : Nat) (g : Nat → Int32) (back exit : (Int32 × (Nat → Int32)) → Option β), j < n → (∀ i, i < j → g i = v i) → (∀ i, j ≤ i → g i = g0 i) → f (nI j, g) back exit = back (nI j + 1, upd g j (v j)))
    (he : ∀ (g : Nat → Int32) (back exit : (Int32 × (Nat → Int32)) → Option β), f (nI n, g) back exit = exit (nI n, g))
    (hK : ∀ g, (∀ i, i < n → g i = v i) → (∀ i, n ≤ i → g i = g0 i) → ok (K (nI n, g)) P) : ok (loopC f K FU ((0 : Int32), g0)) P := by
  refine ok_cnt n 0 (fun j st => st.1 = nI j ∧ (∀ i, i < j → st.2 i = v i) ∧ ∀ i, j ≤ i → st.2 i = g0 i) ?_ ?_ ?_ ⟨nI_lit0, fun _ h => absurd h (Nat.not_lt_zero _), fun _ _ => rfl⟩ (Nat.zero_le n) (FU_big (by omega))
  · rintro j ⟨x, g⟩ back exit hj ⟨e, h1, h2⟩ hback
    dsimp only at e h1 h2
    subst e
    rw [hf j g back exit hj h1 h2]
    refine hback _ ⟨nI_add1 j, fun i hi => ?_, fun i hi => ?_⟩
    · dsimp only
      by_cases e : i = j
      · subst e; exact pk_us
      · rw [pk_un e]; exact h1 i (by omega)
    · dsimp only
      rw [pk_un (by omega)]
      exact h2 i (by omega)
  · rintro ⟨x, g⟩ back exit ⟨e, h1, h2⟩ hexit
    dsimp only at e h1 h2
    subst e
    rw [he]
    exact hexit _ ⟨rfl, h1, h2⟩
  · rintro ⟨x, g⟩ ⟨e, h1, h2⟩
    dsimp only at e h1 h2
    subst e
    exact hK g h1 h2
theorem le_nI {a b : Nat} (ha : a < 2 ^ 31) (hb : b < 2 ^ 31) (h : a < b) : ¬ nI b ≤ nI a := fun q => absurd ((nI_leI hb ha).mp q) (by omega)
theorem h_separate {n : Nat} {g : Nat → Int32} (hn : n ≤ 9) : ok (m_Pa_separate g (nI n)) (fun o => o.1 = nI n ∧ o.2.1 = nI n ∧ ∀ i, i < n → o.2.2 i = nI i) := by
  unfold m_Pa_separate
  refine ok_fill n nI (by omega) (fun j g back exit hj _ _ => ?_) (fun g back exit => ?_) (fun g h1 h2 => ok_some ⟨rfl, rfl, h1⟩)
  · unfold s_Pa_separate_12
    dsimp only
    rw [if_neg (le_nI (by omega) (by omega) hj), if_pos (inb_nI (by omega) (by omega)), nI_clamp (by omega)]
  · unfold s_Pa_separate_12
    dsimp only
    rw [if_pos (nI_le (Nat.le_refl n) (by omega))]
theorem h_copy {n : Nat} {q w : Nat → Int32} (hn : n ≤ 9) : ok (m_Mo_copy (nI n) q w) (fun o => (∀ i, i < n → o i = q i) ∧ ∀ i, n ≤ i → o i = w i) := by
  unfold m_Mo_copy
  refine ok_fill n q (by omega) (fun j g back exit hj _ _ => ?_) (fun g back exit => ?_) (fun g h1 h2 => ok_some ⟨h1, h2⟩)
  · unfold s_Mo_copy_2
    dsimp only
    rw [if_neg (le_nI (by omega) (by omega) hj), if_pos (inb_nI (by omega) (by omega)), nI_clamp (by omega)]
  · unfold s_Mo_copy_2
    dsimp only
    rw [if_pos (nI_le (Nat.le_refl n) (by omega))]
theorem h_take {n : Nat} {g nm q : Nat → Int32} (hn : n ≤ 9) (hf : ∀ i, i < n → ∃ v, v < 10 ∧ q i = nI v) :
    ok (m_Pa_take g nm q (nI n)) (fun o => o.1 = nI n ∧ o.2.1 = nI (cF q n) ∧ ∀ i, i < n → o.2.2.1 i = nI (cn q i)) := by
  unfold m_Pa_take
  refine ok_fill n q (by omega) (fun j g back exit hj _ _ => ?_) (fun g back exit => ?_) (fun g1 h1 h2 => ?_)
  · unfold s_Pa_take_7
    dsimp only
    rw [if_neg (le_nI (by omega) (by omega) hj), if_pos (inb_nI (by omega) (by omega)), nI_clamp (by omega)]
  · unfold s_Pa_take_7
    dsimp only
    rw [if_pos (nI_le (Nat.le_refl n) (by omega))]
  · dsimp only
    have same : ∀ i j, i < n → j < n → (g1 i = g1 j ↔ q i = q j) := fun i j hi hj => by rw [h1 i hi, h1 j hj]
    refine ok_bind (h_renumber hn (fun i hi => by rw [h1 i hi]; exact hf i hi)) (fun o ho => ok_some ⟨rfl, ?_, fun i hi => ?_⟩)
    · rw [ho.1, cF_same same n (Nat.le_refl n)]
    · rw [ho.2.1 i hi, cn_same same hi]
/-- the reference's number: it numbers the groups as they first come -/
theorem h_number {n : Nat} {nm q : Nat → Int32} (hn : n ≤ 9) :
    ok (m_Mo_number (nI n) nm q) (fun o => o.1 = nI (cF q n) ∧ (∀ i, i < n → o.2.2 i = nI (cn q i)) ∧ ∀ i, n ≤ i → o.2.2 i = q i) := by
  unfold m_Mo_number
  refine ok_cnt n 0 (fun j st => st.1 = nI (cF q j) ∧ st.2.1 = nI j ∧ ∀ i, i < j → st.2.2 i = nI (cn q i)) ?_ ?_ ?_ ⟨nI_lit0, nI_lit0, fun _ h => absurd h (Nat.not_lt_zero _)⟩ (Nat.zero_le n) (FU_big (by omega))
  · rintro j ⟨c, x, a⟩ back exit hj ⟨e1, e2, h1⟩ hback
    dsimp only at e1 e2 h1
    subst e1 e2
    unfold s_Mo_number_4
    dsimp only
    refine ok_f (le_nI (by omega) (by omega) hj) ?_
    obtain ⟨f1, f2, f3⟩ := fst_spec q j
    refine ok_cnt (fst q j) 0 (fun u st => st = nI u) ?_ ?_ ?_ nI_lit0 (Nat.zero_le _) (FU_big (by omega))
    · rintro u st back2 exit2 hu e hb2
      subst e
      unfold s_Mo_number_15
      refine ok_t (inb_nI (by omega) (by omega)) (ok_t (inb_nI (by omega) (by omega)) ?_)
      rw [nI_clamp (by omega), nI_clamp (by omega)]
      exact ok_f (f3 u hu) (hb2 _ (nI_add1 u))
    · rintro st back2 exit2 e he2
      subst e
      unfold s_Mo_number_15
      refine ok_t (inb_nI (by omega) (by omega)) (ok_t (inb_nI (by omega) (by omega)) ?_)
      rw [nI_clamp (by omega), nI_clamp (by omega)]
      exact ok_t f2 (he2 _ rfl)
    · rintro st e
      subst e
      try dsimp only
      have hv : ∀ i, i < j + 1 → upd a j (nI (cn q j)) i = nI (cn q i) := fun i hi => by
        by_cases e : i = j
        · subst e; exact pk_us
        · rw [pk_un e]; exact h1 i (by omega)
      refine ok_jn (fun st => st = nI (cn q j)) (fun k hk => ?_) (fun st hst => ?_)
      · by_cases hfj : fst q j = j
        · rw [hfj]
          refine ok_t (nI_le (Nat.le_refl j) (by omega)) (hk _ ?_)
          unfold cn; rw [hfj]
        · refine ok_f (le_nI (by omega) (by omega) (by omega)) (ok_t (inb_nI (by omega) (by omega)) (hk _ ?_))
          rw [nI_clamp (by omega), h1 _ (by omega)]
          congr 1
          exact cn_eq.mpr f2
      · subst hst
        refine ok_t (inb_nI (by omega) (by omega)) ?_
        rw [nI_clamp (by omega)]
        by_cases hfj : fst q j = j
        · rw [hfj]
          refine ok_t (nI_le (Nat.le_refl j) (by omega)) (hback _ ⟨?_, nI_add1 j, hv⟩)
          show nI (cF q j) + 1 = nI (cF q j + _)
          rw [if_pos hfj]; exact nI_1 _
        · refine ok_f (le_nI (by omega) (by omega) (by omega)) (hback _ ⟨?_, nI_add1 j, hv⟩)
          show nI (cF q j) + 0 = nI (cF q j + _)
          rw [if_neg hfj]
          exact Int32.add_zero _
  · rintro ⟨c, x, a⟩ back exit ⟨e1, e2, h1⟩ hexit
    dsimp only at e1 e2 h1
    subst e1 e2
    unfold s_Mo_number_4
    dsimp only
    exact ok_t (nI_le (Nat.le_refl n) (by omega)) (hexit _ ⟨rfl, rfl, h1⟩)
  · rintro ⟨c, x, a⟩ ⟨e1, e2, h1⟩
    dsimp only at e1 e2 h1
    subst e1 e2
    dsimp only
    refine ok_fill n (fun i => nI (cn q i)) (by omega) (fun j g back exit hj _ _ => ?_) (fun g back exit => ?_) (fun g h3 h4 => ok_some ⟨rfl, h3, h4⟩)
    · unfold s_Mo_number_76
      dsimp only
      rw [if_neg (le_nI (by omega) (by omega) hj), if_pos (inb_nI (by omega) (by omega)), nI_clamp (by omega), h1 j hj]
    · unfold s_Mo_number_76
      dsimp only
      rw [if_pos (nI_le (Nat.le_refl n) (by omega))]
/-- Partition.shift, by what it does to the labels -/
def shf (p : Nat → Int32) (a b : Nat) : Nat → Int32 := fun i => if i = a then (if a = b then 9 else p b) else p i
theorem h_shift {n a b : Nat} {g nm : Nat → Int32} (hn : n ≤ 9) (ha : a < n) (hb : b < n) (hf : ∀ i, i < n → ∃ v, v < 10 ∧ g i = nI v) :
    ok (m_Pa_shift (nI n) g nm (nI a) (nI b)) (fun o => o.1 = nI (cF (shf g a b) n) ∧ ∀ i, i < n → o.2.1 i = nI (cn (shf g a b) i)) := by
  unfold m_Pa_shift
  refine ok_jn (fun st => st = if a = b then 9 else g b) (fun k hk => ?_) (fun st hst => ?_)
  · by_cases e : a = b
    · refine ok_t (by rw [e]) (hk _ ?_)
      rw [if_pos e]
    · refine ok_f (fun q => e (nI_inj (by omega) (by omega) q)) (ok_t (inb_nI (by omega) (by omega)) (hk _ ?_))
      rw [if_neg e, nI_clamp (by omega)]
  · subst hst
    refine ok_t (inb_nI (by omega) (by omega)) ?_
    rw [nI_clamp (show a < 2 ^ 31 by omega)]
    have e1 : upd g a (if a = b then 9 else g b) = shf g a b := by
      funext i
      by_cases e : i = a
      · subst e; rw [pk_us]; unfold shf; rw [if_pos rfl]
      · rw [pk_un e]; unfold shf; rw [if_neg e]
    rw [e1]
    refine ok_bind (h_renumber hn (fun i hi => ?_)) (fun o ho => ok_some ⟨ho.1, ho.2.1⟩)
    unfold shf
    by_cases e : i = a
    · rw [if_pos e]
      by_cases e2 : a = b
      · rw [if_pos e2]; exact ⟨9, by omega, by decide +kernel⟩
      · rw [if_neg e2]; exact hf b hb
    · rw [if_neg e]; exact hf i hi
/-- Partition.unite, by what it does to the labels -/
def unt (p : Nat → Int32) (lo hi : Int32) : Nat → Int32 := fun i => if p i = hi then lo else p i
theorem h_unite {n : Nat} {g nm : Nat → Int32} {lo hi : Int32} (hn : n ≤ 9) (hlo : ∃ v, v < 10 ∧ lo = nI v) (hf : ∀ i, i < n → ∃ v, v < 10 ∧ g i = nI v) :
    ok (m_Pa_unite (nI n) g nm lo hi) (fun o => o.1 = nI (cF (unt g lo hi) n) ∧ ∀ i, i < n → o.2.1 i = nI (cn (unt g lo hi) i)) := by
  unfold m_Pa_unite
  refine ok_fill n (unt g lo hi) (by omega) (fun j g1 back exit hj h1 h2 => ?_) (fun g back exit => ?_) (fun g1 h1 h2 => ?_)
  · unfold s_Pa_unite_2
    dsimp only
    rw [if_neg (le_nI (by omega) (by omega) hj), if_pos (inb_nI (by omega) (by omega)), nI_clamp (by omega)]
    have e0 := h2 j (Nat.le_refl j)
    unfold unt
    by_cases e : g j = hi
    · rw [if_pos (e0.trans e), if_pos e]
    · rw [if_neg (fun z => e (e0.symm.trans z)), if_neg e]
      congr 2
      funext i
      by_cases e2 : i = j
      · subst e2; rw [pk_us]; exact h2 i (Nat.le_refl i)
      · rw [pk_un e2]
  · unfold s_Pa_unite_2
    dsimp only
    rw [if_pos (nI_le (Nat.le_refl n) (by omega))]
  · dsimp only
    have same : ∀ i j, i < n → j < n → (g1 i = g1 j ↔ unt g lo hi i = unt g lo hi j) := fun i j hi hj => by rw [h1 i hi, h1 j hj]
    refine ok_bind (h_renumber hn (fun i hi2 => ?_)) (fun o ho => ok_some ⟨?_, fun i hi => ?_⟩)
    · rw [h1 i hi2]
      unfold unt
      by_cases e : g i = hi
      · rw [if_pos e]; exact hlo
      · rw [if_neg e]; exact hf i hi2
    · rw [ho.1, cF_same same n (Nat.le_refl n)]
    · rw [ho.2.1 i hi, cn_same same hi]
theorem n1_0 : ¬ (1 : Int32) = 0 := by decide
theorem n0_1 : ¬ (0 : Int32) = 1 := by decide
/-- the reference's free: a label that no node has -/
theorem h_free {n : Nat} {q : Nat → Int32} (hn : n ≤ 9) (hf : ∀ i, i < n → ∃ v, v < 10 ∧ q i = nI v) : ok (m_Mo_free (nI n) q) (fun r => (∃ v, v < 11 ∧ r = nI v) ∧ ∀ i, i < n → q i ≠ r) := by
  unfold m_Mo_free
  refine ok_loop (fun st => ∃ v, v < 11 ∧ st.1 = nI v ∧ (st.2 = 1 ∨ (st.2 = 0 ∧ ∀ i, i < n → q i ≠ nI v))) (fun st => ∃ v, v < 11 ∧ st.1 = nI v ∧ ∀ i, i < n → q i ≠ nI v) (fun st => if st.2 = 0 then 0 else 12 - st.1.toNatClampNeg) ?_ ?_ ⟨0, by omega, nI_lit0, Or.inl rfl⟩ (FU_big (by show (if (1 : Int32) = 0 then 0 else 12 - _) < _; rw [if_neg n1_0]; omega))
  · rintro ⟨g, us⟩ back exit ⟨v, hv, e1, h2⟩ hback hexit
    dsimp only at e1 h2
    subst e1
    unfold s_Mo_free_4
    dsimp only
    rcases h2 with rfl | ⟨rfl, h2⟩
    · refine ok_f n1_0 ?_
      refine ok_cnt n 0 (fun j st => st.2 = nI j ∧ ((st.1 = 0 ∧ ∀ i, i < j → q i ≠ nI v) ∨ (st.1 = 1 ∧ ∃ i, i < n ∧ q i = nI v))) ?_ ?_ ?_ ⟨nI_lit0, Or.inl ⟨rfl, fun _ h => absurd h (Nat.not_lt_zero _)⟩⟩ (Nat.zero_le n) (FU_big (by omega))
      · rintro j ⟨u, x⟩ back2 exit2 hj ⟨e, h⟩ hb2
        dsimp only at e h
        subst e
        unfold s_Mo_free_13
        dsimp only
        refine ok_f (le_nI (by omega) (by omega) hj) ?_
        refine ok_jn (fun _ => ∃ i, i < n ∧ q i = nI v) (fun k hk => ?_) (fun st hst => hb2 _ ⟨nI_add1 j, Or.inr ⟨rfl, hst⟩⟩)
        rcases h with ⟨rfl, h⟩ | ⟨rfl, h⟩
        · refine ok_t rfl (ok_t (inb_nI (by omega) (by omega)) ?_)
          rw [nI_clamp (by omega)]
          refine ok_if (fun e => hk () ⟨j, hj, e⟩) (fun e => hb2 _ ⟨nI_add1 j, Or.inl ⟨rfl, fun i hi => ?_⟩⟩)
          by_cases e2 : i = j
          · subst e2; exact e
          · exact h i (by omega)
        · exact ok_f n1_0 (hk () h)
      · rintro ⟨u, x⟩ back2 exit2 ⟨e, h⟩ he2
        dsimp only at e h
        subst e
        unfold s_Mo_free_13
        dsimp only
        exact ok_t (nI_le (Nat.le_refl n) (by omega)) (he2 _ ⟨rfl, h⟩)
      · rintro ⟨u, x⟩ ⟨e, h⟩
        dsimp only at e h ⊢
        rcases h with ⟨rfl, h⟩ | ⟨rfl, i, hi, h⟩
        · refine ok_t rfl (hback _ ⟨v, hv, Int32.add_zero _, Or.inr ⟨rfl, h⟩⟩ ?_)
          show (if (0 : Int32) = 0 then 0 else _) < (if (1 : Int32) = 0 then 0 else _)
          rw [if_pos rfl, if_neg n1_0, nI_clamp (by omega)]
          omega
        · obtain ⟨w, hw, ew⟩ := hf i hi
          have : v = w := nI_inj (by omega) (by omega) (h.symm.trans ew)
          refine ok_f n1_0 (hback _ ⟨v + 1, by omega, nI_1 v, Or.inl rfl⟩ ?_)
          show (if (1 : Int32) = 0 then 0 else 12 - (nI v + 1).toNatClampNeg) < (if (1 : Int32) = 0 then 0 else 12 - (nI v).toNatClampNeg)
          rw [if_neg n1_0, if_neg n1_0, nI_1, nI_clamp (by omega), nI_clamp (by omega)]
          omega
    · exact ok_t rfl (hexit _ ⟨v, hv, rfl, h2⟩)
  · rintro ⟨g, us⟩ ⟨v, hv, e1, h2⟩
    dsimp only at e1
    subst e1
    exact ok_some ⟨⟨v, hv, rfl⟩, h2⟩
/-- the reference's moveIn gives the groups that Partition.shift gives -/
theorem h_moveIn {n a b : Nat} {nm q : Nat → Int32} (hn : n ≤ 9) (ha : a < n) (hb : b < n) (hf : ∀ i, i < n → ∃ v, v < 9 ∧ q i = nI v) :
    ok (m_Mo_moveIn (nI n) nm q (nI a) (nI b)) (fun o => ∀ i, i < n → o.2 i = nI (cn (shf q a b) i)) := by
  have h9 : ∀ i, i < n → q i ≠ 9 := fun i hi e => by
    obtain ⟨v, hv, ev⟩ := hf i hi
    have e9 : (9 : Int32) = nI 9 := by decide +kernel
    exact absurd (nI_inj (by omega) (by omega) (ev.symm.trans (e.trans e9))) (by omega)
  unfold m_Mo_moveIn
  refine ok_jn (fun g => ∀ i j, i < n → j < n → (g i = g j ↔ shf q a b i = shf q a b j)) (fun k hk => ?_) (fun g hg => ?_)
  · by_cases e : a = b
    · subst e
      refine ok_t rfl ?_
      refine ok_cnt n 0 (fun j st => st.2 = nI j ∧ ((st.1 = 1 ∧ ∀ i, i < j → i ≠ a → q i ≠ q a) ∨ (st.1 = 0 ∧ ∃ i, i < n ∧ i ≠ a ∧ q i = q a))) ?_ ?_ ?_ ⟨nI_lit0, Or.inl ⟨rfl, fun _ h => absurd h (Nat.not_lt_zero _)⟩⟩ (Nat.zero_le n) (FU_big (by omega))
      · rintro j ⟨u, x⟩ back exit hj ⟨e, h⟩ hback
        dsimp only at e h
        subst e
        unfold s_Mo_moveIn_11
        dsimp only
        refine ok_f (le_nI (by omega) (by omega) hj) ?_
        rcases h with ⟨rfl, h⟩ | ⟨rfl, h⟩
        · refine ok_f n1_0 ?_
          refine ok_jn (fun _ => ∀ i, i < j + 1 → i ≠ a → q i ≠ q a) (fun k hk => ?_) (fun st hst => hback _ ⟨nI_add1 j, Or.inl ⟨rfl, hst⟩⟩)
          by_cases e : j = a
          · refine ok_t (by rw [e]) (hk () (fun i hi hne => h i (by omega) hne))
          · refine ok_f (fun z => e (nI_inj (by omega) (by omega) z)) (ok_t (inb_nI (by omega) (by omega)) (ok_t (inb_nI (by omega) (by omega)) ?_))
            rw [nI_clamp (by omega), nI_clamp (by omega)]
            refine ok_if (fun e2 => hback _ ⟨nI_add1 j, Or.inr ⟨rfl, j, hj, e, e2⟩⟩) (fun e2 => hk () (fun i hi hne => ?_))
            by_cases e3 : i = j
            · subst e3; exact e2
            · exact h i (by omega) hne
        · exact ok_t rfl (hback _ ⟨nI_add1 j, Or.inr ⟨rfl, h⟩⟩)
      · rintro ⟨u, x⟩ back exit ⟨e, h⟩ hexit
        dsimp only at e h
        subst e
        unfold s_Mo_moveIn_11
        dsimp only
        exact ok_t (nI_le (Nat.le_refl n) (by omega)) (hexit _ ⟨rfl, h⟩)
      · rintro ⟨u, x⟩ ⟨e, h⟩
        dsimp only at e h ⊢
        refine ok_jn (fun r => ∀ i, i < n → i ≠ a → q i ≠ r) (fun k2 hk2 => ?_) (fun r hr => ?_)
        · rcases h with ⟨rfl, h⟩ | ⟨rfl, h⟩
          · refine ok_f n1_0 (ok_t (inb_nI (by omega) (by omega)) (hk2 _ ?_))
            rw [nI_clamp (by omega)]
            exact h
          · refine ok_t rfl (ok_bind (h_free hn (fun i hi => by obtain ⟨v, hv, ev⟩ := hf i hi; exact ⟨v, by omega, ev⟩)) (fun r hr => hk2 _ (fun i hi _ => hr.2 i hi)))
        · refine ok_t (inb_nI (by omega) (by omega)) (hk _ ?_)
          rw [nI_clamp (by omega)]
          intro i j hi hj
          unfold shf
          rw [if_pos rfl]
          by_cases e1 : i = a <;> by_cases e2 : j = a
          · subst e1 e2; simp
          · subst e1
            rw [pk_us, pk_un e2, if_pos rfl, if_neg e2]
            exact ⟨fun z => absurd z.symm (hr j hj e2), fun z => absurd z.symm (h9 j hj)⟩
          · subst e2
            rw [pk_us, pk_un e1, if_pos rfl, if_neg e1]
            exact ⟨fun z => absurd z (hr i hi e1), fun z => absurd z (h9 i hi)⟩
          · rw [pk_un e1, pk_un e2, if_neg e1, if_neg e2]
    · refine ok_f (fun z => e (nI_inj (by omega) (by omega) z)) (ok_t (inb_nI (by omega) (by omega)) (ok_t (inb_nI (by omega) (by omega)) (hk _ ?_)))
      rw [nI_clamp (by omega), nI_clamp (by omega)]
      intro i j hi hj
      have e1 : upd q a (q b) = shf q a b := by
        funext i
        unfold shf
        by_cases e1 : i = a
        · subst e1; rw [pk_us, if_pos rfl, if_neg e]
        · rw [pk_un e1, if_neg e1]
      rw [e1]
  · refine ok_bind (h_number hn) (fun o ho => ok_some (fun i hi => ?_))
    show o.2.2 i = _
    rw [ho.2.1 i hi, cn_same hg hi]
/-- the reference's mergeIn gives the groups that Partition.unite gives -/
theorem h_mergeIn {n a b : Nat} {nm q : Nat → Int32} (hn : n ≤ 9) (ha : a < 9) (hb : b < 9) :
    ok (m_Mo_mergeIn (nI n) nm q (nI a) (nI b)) (fun o => ∀ i, i < n → o.2 i = nI (cn (unt q (q a) (q b)) i)) := by
  unfold m_Mo_mergeIn
  refine ok_t (inb_nI hb (by omega)) ?_
  rw [nI_clamp (show b < 2 ^ 31 by omega)]
  refine ok_fill n (unt q (q a) (q b)) (by omega) (fun j g back exit hj h1 h2 => ?_) (fun g back exit => ?_) (fun g1 h1 h2 => ?_)
  · unfold s_Mo_mergeIn_8
    dsimp only
    rw [if_neg (le_nI (by omega) (by omega) hj), if_pos (inb_nI (by omega) (by omega)), nI_clamp (show j < 2 ^ 31 by omega), nI_clamp (show a < 2 ^ 31 by omega)]
    have e0 := h2 j (Nat.le_refl j)
    have ga : g a = q a := by
      rcases Nat.lt_or_ge a j with h | h
      · rw [h1 a h]; unfold unt
        by_cases e : q a = q b
        · rw [if_pos e]
        · rw [if_neg e]
      · exact h2 a h
    unfold unt
    by_cases e : q j = q b
    · rw [if_pos (e0.trans e), if_pos e, if_pos (inb_nI ha (by omega)), ga]
    · rw [if_neg (fun z => e (e0.symm.trans z)), if_neg e, e0]
  · unfold s_Mo_mergeIn_8
    dsimp only
    rw [if_pos (nI_le (Nat.le_refl n) (by omega))]
  · dsimp only
    have same : ∀ i j, i < n → j < n → (g1 i = g1 j ↔ unt q (q a) (q b) i = unt q (q a) (q b) j) := fun i j hi hj => by rw [h1 i hi, h1 j hj]
    refine ok_bind (h_number hn) (fun o ho => ok_some (fun i hi => ?_))
    show o.2.2 i = _
    rw [ho.2.1 i hi, cn_same same hi]
