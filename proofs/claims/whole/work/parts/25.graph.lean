/-! the graph's numbers: what joins, what weighs; the reference's weigh -/
abbrev ct (man : Int32) (w : Int) : Prop := 0 < w ∨ (man = 1 ∧ w ≠ 0)
def lk (man : Int32) (fr to : Nat → Nat) (wt : Nat → Int) (a b : Nat) : Nat → Int
  | 0 => 0
  | i + 1 => lk man fr to wt a b i + (if ct man (wt i) ∧ ((fr i = a ∧ to i = b) ∨ (fr i = b ∧ to i = a)) then wt i else 0)
def nr (man : Int32) (fr to : Nat → Nat) (wt : Nat → Int) (a b k : Nat) : Prop := ∃ i, i < k ∧ ct man (wt i) ∧ ((fr i = a ∧ to i = b) ∨ (fr i = b ∧ to i = a))
def hs (man : Int32) (fr to : Nat → Nat) (wt : Nat → Int) (a : Nat) : Nat → Int
  | 0 => 0
  | i + 1 => hs man fr to wt a i + (if ct man (wt i) ∧ (fr i = a ∨ to i = a) then wt i else 0)
def al (man : Int32) (wt : Nat → Int) : Nat → Int
  | 0 => 0
  | i + 1 => al man wt i + (if ct man (wt i) then wt i else 0)
theorem lk_sym (man : Int32) (fr to : Nat → Nat) (wt : Nat → Int) (a b : Nat) : ∀ k, lk man fr to wt a b k = lk man fr to wt b a k
  | 0 => rfl
  | k + 1 => by
    show lk man fr to wt a b k + _ = lk man fr to wt b a k + _
    rw [lk_sym man fr to wt a b k]
    congr 1
    by_cases h : ct man (wt k) ∧ ((fr k = a ∧ to k = b) ∨ (fr k = b ∧ to k = a))
    · rw [if_pos h, if_pos ⟨h.1, h.2.symm⟩]
    · rw [if_neg h, if_neg (fun q => h ⟨q.1, q.2.symm⟩)]
theorem nr_s {man : Int32} {fr to : Nat → Nat} {wt : Nat → Int} {a b k : Nat} : nr man fr to wt a b (k + 1) ↔ nr man fr to wt a b k ∨ (ct man (wt k) ∧ ((fr k = a ∧ to k = b) ∨ (fr k = b ∧ to k = a))) := by
  constructor
  · rintro ⟨i, hi, h⟩
    by_cases e : i = k
    · subst e; exact Or.inr h
    · exact Or.inl ⟨i, by omega, h⟩
  · rintro (⟨i, hi, h⟩ | h)
    · exact ⟨i, by omega, h⟩
    · exact ⟨k, by omega, h⟩
theorem nr_sym {man : Int32} {fr to : Nat → Nat} {wt : Nat → Int} {a b k : Nat} (h : nr man fr to wt a b k) : nr man fr to wt b a k := by
  obtain ⟨i, hi, h1, h2⟩ := h
  exact ⟨i, hi, h1, h2.symm⟩
def wbd (wt : Nat → Int) (k : Nat) : Prop := ∀ i, i < k → -50 ≤ wt i ∧ wt i ≤ 50
theorem lk_bd {man : Int32} {fr to : Nat → Nat} {wt : Nat → Int} {a b : Nat} : ∀ {k : Nat}, wbd wt k → -(50 * k) ≤ lk man fr to wt a b k ∧ lk man fr to wt a b k ≤ 50 * k
  | 0, _ => by show -(50 * (0 : Nat)) ≤ (0 : Int) ∧ (0 : Int) ≤ 50 * (0 : Nat); omega
  | k + 1, h => by
    have h1 := lk_bd (man := man) (fr := fr) (to := to) (a := a) (b := b) (fun i hi => h i (by omega) : wbd wt k)
    have h2 := h k (by omega)
    show _ ≤ lk man fr to wt a b k + _ ∧ lk man fr to wt a b k + _ ≤ _
    split <;> omega
theorem hs_bd {man : Int32} {fr to : Nat → Nat} {wt : Nat → Int} {a : Nat} : ∀ {k : Nat}, wbd wt k → -(50 * k) ≤ hs man fr to wt a k ∧ hs man fr to wt a k ≤ 50 * k
  | 0, _ => by show -(50 * (0 : Nat)) ≤ (0 : Int) ∧ (0 : Int) ≤ 50 * (0 : Nat); omega
  | k + 1, h => by
    have h1 := hs_bd (man := man) (fr := fr) (to := to) (a := a) (fun i hi => h i (by omega) : wbd wt k)
    have h2 := h k (by omega)
    show _ ≤ hs man fr to wt a k + _ ∧ hs man fr to wt a k + _ ≤ _
    split <;> omega
theorem al_bd {man : Int32} {wt : Nat → Int} : ∀ {k : Nat}, wbd wt k → -(50 * k) ≤ al man wt k ∧ al man wt k ≤ 50 * k
  | 0, _ => by show -(50 * (0 : Nat)) ≤ (0 : Int) ∧ (0 : Int) ≤ 50 * (0 : Nat); omega
  | k + 1, h => by
    have h1 := al_bd (man := man) (fun i hi => h i (by omega) : wbd wt k)
    have h2 := h k (by omega)
    show _ ≤ al man wt k + _ ∧ al man wt k + _ ≤ _
    split <;> omega
/-- the reference's arcs -/
def rarc (k : Nat) (fr to : Nat → Nat) (wt : Nat → Int) (ones others weights there : Nat → Int32) : Prop :=
  ∀ i, i < k → ones i = nI (fr i) ∧ others i = nI (to i) ∧ fr i < 9 ∧ to i < 9 ∧ fr i ≠ to i ∧ (-50 ≤ wt i ∧ wt i ≤ 50) ∧ ((there i = 0 ∧ wt i = 0) ∨ (there i = 1 ∧ weights i = iZ (wt i) ∧ wt i ≠ 0))
theorem h_rcounts {k i : Nat} {man : Int32} {fr to : Nat → Nat} {wt : Nat → Int} {ones others weights there : Nat → Int32} (hk : k ≤ 36) (hr : rarc k fr to wt ones others weights there) (hi : i < k) :
    ok (m_Mo_counts man weights there (nI i)) (fun r => (ct man (wt i) ∧ weights i = iZ (wt i) ∧ r = 1) ∨ (¬ ct man (wt i) ∧ r = 0)) := by
  obtain ⟨-, -, -, -, -, hb, hw⟩ := hr i hi
  unfold m_Mo_counts
  refine ok_t (inb_nI (by omega) (by omega)) ?_
  rw [nI_clamp (by omega)]
  rcases hw with ⟨h1, h2⟩ | ⟨h1, h2, h3⟩
  · refine ok_t h1 (ok_some (Or.inr ⟨?_, rfl⟩))
    rw [h2]; rintro (h | ⟨_, h⟩)
    · omega
    · exact h rfl
  · refine ok_f (by rw [h1]; decide) ?_
    by_cases hm : man = 1
    · exact ok_t hm (ok_some (Or.inl ⟨Or.inr ⟨hm, h3⟩, h2, rfl⟩))
    · refine ok_f hm ?_
      rw [h2]
      refine ok_if (fun h => ok_some (Or.inr ⟨?_, rfl⟩)) (fun h => ok_some (Or.inl ⟨?_, rfl, rfl⟩))
      · have := (iZ_le (b := 0) ⟨by omega, by omega⟩ ⟨by omega, by omega⟩).mp h
        rintro (q | ⟨q, _⟩)
        · omega
        · exact hm q
      · have : ¬ wt i ≤ 0 := fun q => h ((iZ_le (b := 0) ⟨by omega, by omega⟩ ⟨by omega, by omega⟩).mpr q)
        exact Or.inl (by omega)
theorem nar1 : vp_nar .boolean 1 = 1 := rfl
theorem nar0 : vp_nar .boolean 0 = 0 := rfl
/-- what the reference's weigh lays down -/
def weighed (man : Int32) (k : Nat) (fr to : Nat → Nat) (wt : Nat → Int) (all : Int64) (bt jo has : Nat → Int32) : Prop :=
  all = jZ (al man wt k) ∧ (∀ c d, c < 9 → d < 9 → bt (9 * c + d) = iZ (lk man fr to wt c d k)) ∧ (∀ c d, c < 9 → d < 9 → (jo (9 * c + d) = 1 ∧ nr man fr to wt c d k) ∨ (jo (9 * c + d) = 0 ∧ ¬ nr man fr to wt c d k)) ∧ ∀ c, c < 9 → has c = iZ (hs man fr to wt c k)
theorem h_weigh {k : Nat} {man : Int32} {fr to : Nat → Nat} {wt : Nat → Int} {ones others weights there bt jo has : Nat → Int32} (hk : k ≤ 36) (hr : rarc k fr to wt ones others weights there) :
    ok (m_Mo_weigh man (nI k) ones others weights there bt jo has) (fun o => weighed man k fr to wt o.1 o.2.1 o.2.2.1 o.2.2.2) := by
  unfold m_Mo_weigh
  have nI81 : (81 : Int32) = nI 81 := by decide +kernel
  refine ok_cnt 81 0 (fun j st => st.1 = nI j ∧ (∀ i, i < j → st.2.1 i = 0) ∧ ∀ i, i < j → st.2.2 i = 0) ?_ ?_ ?_ ⟨nI_lit0, fun _ h => absurd h (Nat.not_lt_zero _), fun _ h => absurd h (Nat.not_lt_zero _)⟩ (Nat.zero_le _) (FU_big (by omega))
  · rintro j ⟨x, a, b⟩ back exit hj ⟨e, h1, h2⟩ hback
    dsimp only at e h1 h2
    subst e
    unfold s_Mo_weigh_2
    dsimp only
    rw [nI81, nI_clamp (show j < 2 ^ 31 by omega), nar0]
    refine ok_f (le_nI (by omega) (by omega) hj) (ok_t (inb_nI hj (by omega)) (hback _ ⟨nI_add1 j, fun i hi => ?_, fun i hi => ?_⟩))
    · dsimp only
      by_cases e : i = j
      · subst e; exact pk_us
      · rw [pk_un e]; exact h1 i (by omega)
    · dsimp only
      by_cases e : i = j
      · subst e; exact pk_us
      · rw [pk_un e]; exact h2 i (by omega)
  · rintro ⟨x, a, b⟩ back exit ⟨e, h1, h2⟩ hexit
    dsimp only at e h1 h2
    subst e
    unfold s_Mo_weigh_2
    dsimp only
    exact ok_t (by rw [nI81]; exact nI_le (Nat.le_refl 81) (by omega)) (hexit _ ⟨rfl, h1, h2⟩)
  · rintro ⟨x, b0, j0⟩ ⟨e, z1, z2⟩
    dsimp only at e z1 z2 ⊢
    refine ok_fill 9 (fun _ => 0) (by omega) (fun j g back exit hj _ _ => ?_) (fun g back exit => ?_) (fun h0 z3 _ => ?_)
    · unfold s_Mo_weigh_30
      dsimp only
      rw [nI9, if_neg (le_nI (by omega) (by omega) hj), if_pos (inb_nI (by omega) (by omega)), nI_clamp (by omega)]
    · unfold s_Mo_weigh_30
      dsimp only
      rw [nI9, if_pos (nI_le (Nat.le_refl 9) (by omega))]
    · dsimp only
      refine ok_cnt k 0 (fun j st => st.1 = nI j ∧ weighed man j fr to wt st.2.1 st.2.2.1 st.2.2.2.2 st.2.2.2.1) ?_ ?_ ?_ ⟨nI_lit0, rfl, fun c d hc hd => z1 _ (by omega), fun c d hc hd => Or.inr ⟨z2 _ (by omega), fun ⟨i, hi, _⟩ => absurd hi (Nat.not_lt_zero _)⟩, fun c hc => z3 c hc⟩ (Nat.zero_le _) (FU_big (by omega))
      · rintro j ⟨x, aa, bb, hh, jj⟩ back exit hj ⟨e, w1, w2, w3, w4⟩ hback
        dsimp only at e w1 w2 w3 w4
        subst e
        unfold s_Mo_weigh_56
        dsimp only
        refine ok_f (le_nI (by omega) (by omega) hj) ?_
        refine ok_bind (h_rcounts hk hr hj) (fun r hrr => ?_)
        obtain ⟨o1, o2, a9, b9, hne, hb, -⟩ := hr j hj
        rcases hrr with ⟨hc, hw, rfl⟩ | ⟨hc, rfl⟩
        · refine ok_f n1_0 (ok_t (inb_nI (by omega) (by omega)) ?_)
          rw [nI_clamp (show j < 2 ^ 31 by omega), o1, o2, hw, nI9, pk_mul, pk_mul, nI_add, nI_add, nI_clamp (show 9 * fr j + to j < 2 ^ 31 by omega), nI_clamp (show 9 * to j + fr j < 2 ^ 31 by omega), nI_clamp (show fr j < 2 ^ 31 by omega), nI_clamp (show to j < 2 ^ 31 by omega), nar1]
          refine ok_t (inb_nI (by omega) (by omega)) (ok_t (inb_nI (by omega) (by omega)) (ok_t (inb_nI a9 (by omega)) (ok_t (inb_nI b9 (by omega)) (hback _ ⟨nI_add1 j, ?_, fun c d hc9 hd9 => ?_, fun c d hc9 hd9 => ?_, fun c hc9 => ?_⟩))))
          · dsimp only
            show _ = jZ (al man wt j + _)
            rw [w1, iZ_j ⟨by omega, by omega⟩, if_pos hc, jZ_add]
          · dsimp only
            show _ = iZ (lk man fr to wt c d j + _)
            by_cases e1 : fr j = c ∧ to j = d
            · obtain ⟨rfl, rfl⟩ := e1
              rw [pk_un (by omega), pk_us, w2 _ _ a9 b9, if_pos ⟨hc, Or.inl ⟨rfl, rfl⟩⟩, iZ_add]
            · by_cases e2 : fr j = d ∧ to j = c
              · obtain ⟨rfl, rfl⟩ := e2
                rw [pk_us, pk_un (by omega), w2 _ _ b9 a9, if_pos ⟨hc, Or.inr ⟨rfl, rfl⟩⟩, iZ_add]
              · rw [pk_un (by omega), pk_un (by omega), w2 c d hc9 hd9, if_neg (fun q => q.2.elim e1 e2), Int.add_zero]
          · dsimp only
            by_cases e1 : fr j = c ∧ to j = d
            · obtain ⟨rfl, rfl⟩ := e1
              exact Or.inl ⟨by rw [pk_un (by omega), pk_us], nr_s.mpr (Or.inr ⟨hc, Or.inl ⟨rfl, rfl⟩⟩)⟩
            · by_cases e2 : fr j = d ∧ to j = c
              · obtain ⟨rfl, rfl⟩ := e2
                exact Or.inl ⟨by rw [pk_us], nr_s.mpr (Or.inr ⟨hc, Or.inr ⟨rfl, rfl⟩⟩)⟩
              · rw [pk_un (by omega), pk_un (by omega)]
                rcases w3 c d hc9 hd9 with ⟨q1, q2⟩ | ⟨q1, q2⟩
                · exact Or.inl ⟨q1, nr_s.mpr (Or.inl q2)⟩
                · exact Or.inr ⟨q1, fun q => (nr_s.mp q).elim q2 (fun z => z.2.elim e1 e2)⟩
          · dsimp only
            show _ = iZ (hs man fr to wt c j + _)
            by_cases e1 : fr j = c
            · subst e1
              rw [pk_un hne, pk_us, w4 _ a9, if_pos ⟨hc, Or.inl rfl⟩, iZ_add]
            · by_cases e2 : to j = c
              · subst e2
                rw [pk_us, pk_un (fun q => hne q.symm), w4 _ b9, if_pos ⟨hc, Or.inr rfl⟩, iZ_add]
              · rw [pk_un (fun q => e2 q.symm), pk_un (fun q => e1 q.symm), w4 c hc9, if_neg (fun q => q.2.elim e1 e2), Int.add_zero]
        · refine ok_t rfl (hback _ ⟨nI_add1 j, ?_, fun c d hc9 hd9 => ?_, fun c d hc9 hd9 => ?_, fun c hc9 => ?_⟩)
          · show _ = jZ (al man wt j + _)
            rw [if_neg hc, Int.add_zero]; exact w1
          · show _ = iZ (lk man fr to wt c d j + _)
            rw [if_neg (fun q => hc q.1), Int.add_zero]; exact w2 c d hc9 hd9
          · rcases w3 c d hc9 hd9 with ⟨q1, q2⟩ | ⟨q1, q2⟩
            · exact Or.inl ⟨q1, nr_s.mpr (Or.inl q2)⟩
            · exact Or.inr ⟨q1, fun q => (nr_s.mp q).elim q2 (fun z => hc z.1)⟩
          · show _ = iZ (hs man fr to wt c j + _)
            rw [if_neg (fun q => hc q.1), Int.add_zero]; exact w4 c hc9
      · rintro ⟨x, aa, bb, hh, jj⟩ back exit ⟨e, h⟩ hexit
        dsimp only at e
        subst e
        unfold s_Mo_weigh_56
        dsimp only
        exact ok_t (nI_le (Nat.le_refl k) (by omega)) (hexit _ ⟨rfl, h⟩)
      · rintro ⟨x, aa, bb, hh, jj⟩ ⟨e, h⟩
        exact ok_some h
