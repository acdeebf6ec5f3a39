/-! the class's sums over pairs, the reference's judge -/
theorem h_sumWithin {n : Nat} {g : Nat → Int32} {q : Nat → Nat → Int64} {F : Nat → Nat → Int} {p : Nat → Nat} (hn : n ≤ 9) (hg : ∀ i, i < n → p i < 100 ∧ g i = nI (p i)) (hq : ∀ i j, i < n → j < i → q i j = jZ (F i j)) :
    ok (m_Ga_sumWithin (nI n) g q) (fun r => r = jZ (sm2 n F p)) := by
  unfold m_Ga_sumWithin
  rcases Nat.eq_zero_or_pos n with h0 | h0
  · subst h0
    refine ok_loop (fun st => st.1 = 0 ∧ st.2 = 1) (fun st => st.1 = 0) (fun _ => 0) ?_ (fun st h => ok_some h) ⟨rfl, rfl⟩ (FU_big (by omega))
    rintro ⟨a, b⟩ back exit ⟨e1, e2⟩ _ hexit
    dsimp only at e1 e2
    subst e1 e2
    unfold s_Ga_sumWithin_5
    exact ok_t (by decide +kernel) (hexit _ rfl)
  · refine ok_cnt n 1 (fun j st => st.1 = jZ (sm2 j F p) ∧ st.2 = nI j) ?_ ?_ ?_ ⟨rfl, nI_lit1⟩ h0 (FU_big (by omega))
    · rintro i ⟨a, b⟩ back exit hi ⟨e1, e2⟩ hback
      dsimp only at e1 e2
      subst e1 e2
      unfold s_Ga_sumWithin_5
      dsimp only
      refine ok_f (le_nI (by omega) (by omega) hi) ?_
      refine ok_cnt i 0 (fun j st => st.1 = jZ (sm2 i F p + sm j (fun u => if p i = p u then F i u else 0)) ∧ st.2 = nI j) ?_ ?_ ?_ ⟨by show jZ _ = jZ (_ + 0); rw [Int.add_zero], nI_lit0⟩ (Nat.zero_le _) (FU_big (by omega))
      · rintro j ⟨a, b⟩ back2 exit2 hj ⟨e1, e2⟩ hb2
        dsimp only at e1 e2
        subst e1 e2
        unfold s_Ga_sumWithin_17
        dsimp only
        refine ok_f (le_nI (by omega) (by omega) hj) (ok_t (inb_nI (by omega) (by omega)) (ok_t (inb_nI (by omega) (by omega)) ?_))
        rw [nI_clamp (by omega), nI_clamp (by omega), (hg i hi).2, (hg j (by omega)).2]
        have hpi := (hg i hi).1
        have hpj := (hg j (by omega)).1
        by_cases e : p i = p j
        · refine ok_t (by rw [e]) (ok_t (inb_nI (by omega) (by omega)) (hb2 _ ⟨?_, nI_add1 j⟩))
          dsimp only
          rw [hq i j hi hj, ← jZ_add, sm_s, if_pos e]
          congr 1; omega
        · refine ok_f (fun z => e (nI_inj (by omega) (by omega) z)) (hb2 _ ⟨?_, nI_add1 j⟩)
          dsimp only
          rw [sm_s, if_neg e]
          congr 1; omega
      · rintro ⟨a, b⟩ back2 exit2 ⟨e1, e2⟩ he2
        dsimp only at e1 e2
        subst e1 e2
        unfold s_Ga_sumWithin_17
        dsimp only
        exact ok_t (nI_le (Nat.le_refl i) (by omega)) (he2 _ ⟨rfl, rfl⟩)
      · rintro ⟨a, b⟩ ⟨e1, e2⟩
        dsimp only at e1 e2
        subst e1 e2
        exact hback _ ⟨rfl, nI_add1 i⟩
    · rintro ⟨a, b⟩ back exit ⟨e1, e2⟩ hexit
      dsimp only at e1 e2
      subst e1 e2
      unfold s_Ga_sumWithin_5
      dsimp only
      exact ok_t (nI_le (Nat.le_refl n) (by omega)) (hexit _ ⟨rfl, rfl⟩)
    · rintro ⟨a, b⟩ ⟨e1, e2⟩
      exact ok_some e1
/-- the value of A and B at the resolution x / y -/
theorem h_worth {x y : Int} {a b : Int} (hx : inI x) (hy : inI y) : ok (m_Ga_worth (iZ x) (iZ y) (jZ a) (jZ b)) (fun r => r = jZ (y * a - x * b)) := by
  unfold m_Ga_worth
  refine ok_some ?_
  rw [iZ_j hx, iZ_j hy, jZ_sub, jZ_mul, jZ_mul]
theorem h_worthOf {n : Nat} {g : Nat → Int32} {qA qB : Nat → Nat → Int64} {FA FB : Nat → Nat → Int} {p : Nat → Nat} {x y al : Int} (hn : n ≤ 9) (hg : ∀ i, i < n → p i < 100 ∧ g i = nI (p i)) (hA : ∀ i j, i < n → j < i → qA i j = jZ (FA i j)) (hB : ∀ i j, i < n → j < i → qB i j = jZ (FB i j)) (hx : inI x) (hy : inI y) :
    ok (m_Ga_worthOf (iZ x) (iZ y) (nI n) (jZ al) qA qB g) (fun r => r = jZ (y * sm2 n FA p - x * (al + sm2 n FB p))) := by
  unfold m_Ga_worthOf
  refine ok_bind (Q := fun r => r = jZ (sm2 n FA p)) ?_ (fun a ha => ?_)
  · unfold m_Ga_sumA
    exact ok_bind (h_sumWithin hn hg hA) (fun r hr => ok_some hr)
  · subst ha
    refine ok_bind (Q := fun r => r = jZ (al + sm2 n FB p)) ?_ (fun b hb => ?_)
    · unfold m_Ga_sumB
      exact ok_bind (h_sumWithin hn hg hB) (fun r hr => ok_some (by rw [hr, jZ_add]))
    · subst hb
      exact ok_bind (h_worth hx hy) (fun r hr => ok_some hr)
def btw (n : Nat) (V : Nat → Nat → Int) (p : Nat → Nat) (a b : Nat) : Int := sm n (fun i => sm n (fun j => if p i = a ∧ p j = b then V i j else 0))
theorem h_between {n a b : Nat} {g : Nat → Int32} {qA qB : Nat → Nat → Int64} {FA FB : Nat → Nat → Int} {p : Nat → Nat} {x y : Int} (hn : n ≤ 9) (ha : a < 100) (hb : b < 100) (hg : ∀ i, i < n → p i < 100 ∧ g i = nI (p i)) (hA : ∀ i j, i < n → j < n → qA i j = jZ (FA i j)) (hB : ∀ i j, i < n → j < n → qB i j = jZ (FB i j)) (hx : inI x) (hy : inI y) :
    ok (m_Ga_between (iZ x) (iZ y) (nI n) qA qB g (nI a) (nI b)) (fun r => r = jZ (btw n (fun i j => y * FA i j - x * FB i j) p a b)) := by
  unfold m_Ga_between
  refine ok_cnt n 0 (fun i st => st.1 = jZ (sm i (fun i => sm n (fun j => if p i = a ∧ p j = b then y * FA i j - x * FB i j else 0))) ∧ st.2 = nI i) ?_ ?_ ?_ ⟨rfl, nI_lit0⟩ (Nat.zero_le _) (FU_big (by omega))
  · rintro i ⟨s0, b0⟩ back exit hi ⟨e1, e2⟩ hback
    dsimp only at e1 e2
    subst e1 e2
    unfold s_Ga_between_6
    dsimp only
    refine ok_f (le_nI (by omega) (by omega) hi) ?_
    refine ok_cnt n 0 (fun j st => st.1 = jZ (sm i (fun i => sm n (fun j => if p i = a ∧ p j = b then y * FA i j - x * FB i j else 0)) + sm j (fun j => if p i = a ∧ p j = b then y * FA i j - x * FB i j else 0)) ∧ st.2 = nI j) ?_ ?_ ?_ ⟨by show jZ _ = jZ (_ + 0); rw [Int.add_zero], nI_lit0⟩ (Nat.zero_le _) (FU_big (by omega))
    · rintro j ⟨s1, b1⟩ back2 exit2 hj ⟨e1, e2⟩ hb2
      dsimp only at e1 e2
      subst e1 e2
      unfold s_Ga_between_18
      dsimp only
      have hpi := (hg i hi).1
      have hpj := (hg j hj).1
      refine ok_f (le_nI (by omega) (by omega) hj) (ok_t (inb_nI (by omega) (by omega)) ?_)
      rw [nI_clamp (by omega), nI_clamp (by omega), (hg i hi).2, (hg j hj).2]
      by_cases e : p i = a
      · refine ok_t (by rw [e]) (ok_t (inb_nI (by omega) (by omega)) ?_)
        by_cases e' : p j = b
        · refine ok_t (by rw [e']) (ok_t (inb_nI (by omega) (by omega)) ?_)
          rw [hA i j hi hj, hB i j hi hj]
          refine ok_bind (h_worth hx hy) (fun r hr => hb2 _ ⟨?_, nI_add1 j⟩)
          subst hr
          dsimp only
          rw [← jZ_add, sm_s, if_pos ⟨e, e'⟩]
          congr 1; omega
        · refine ok_f (fun z => e' (nI_inj (by omega) (by omega) z)) (hb2 _ ⟨?_, nI_add1 j⟩)
          dsimp only
          rw [sm_s, if_neg (fun z => e' z.2)]
          congr 1; omega
      · refine ok_f (fun z => e (nI_inj (by omega) (by omega) z)) (hb2 _ ⟨?_, nI_add1 j⟩)
        dsimp only
        rw [sm_s, if_neg (fun z => e z.1)]
        congr 1; omega
    · rintro ⟨s1, b1⟩ back2 exit2 ⟨e1, e2⟩ he2
      dsimp only at e1 e2
      subst e1 e2
      unfold s_Ga_between_18
      dsimp only
      exact ok_t (nI_le (Nat.le_refl n) (by omega)) (he2 _ ⟨rfl, rfl⟩)
    · rintro ⟨s1, b1⟩ ⟨e1, e2⟩
      dsimp only at e1 e2
      subst e1 e2
      exact hback _ ⟨rfl, nI_add1 i⟩
  · rintro ⟨s0, b0⟩ back exit ⟨e1, e2⟩ hexit
    dsimp only at e1 e2
    subst e1 e2
    unfold s_Ga_between_6
    dsimp only
    exact ok_t (nI_le (Nat.le_refl n) (by omega)) (hexit _ ⟨rfl, rfl⟩)
  · rintro ⟨s0, b0⟩ ⟨e1, e2⟩
    exact ok_some e1
/-- the A and the B of the document -/
def Aof (man : Int32) (W : Int) (lk : Nat → Nat → Int) (n : Nat) (p : Nat → Nat) : Int := if man = 0 then 4 * W * sm2 n lk p else sm2 n lk p
def Bof (man : Int32) (hs : Nat → Int) (n : Nat) (p : Nat → Nat) : Int := if man = 0 then sm n (fun i => hs i * hs i) + sm2 n (fun i j => 2 * hs i * hs j) p else sm2 n (fun _ _ => 1) p
theorem nI9 : (9 : Int32) = nI 9 := by decide +kernel
theorem h_judge {n : Nat} {man : Int32} {q bt has : Nat → Int32} {sums sizes : Nat → Int64} {lk : Nat → Nat → Int} {hs : Nat → Int} {W : Int} {p : Nat → Nat} (hn : n ≤ 9) (hp : ∀ i, i < n → p i < 9 ∧ q i = nI (p i)) (hb : ∀ i j, i < n → j < i → bt (9 * j + i) = iZ (lk i j) ∧ inI (lk i j)) (hh : ∀ i, i < n → has i = iZ (hs i) ∧ inI (hs i)) :
    ok (m_Mo_judge man (nI n) (jZ W) bt has sums sizes q) (fun o => o.1 = jZ (Aof man W lk n p) ∧ o.2.1 = jZ (Bof man hs n p)) := by
  unfold m_Mo_judge
  refine ok_cnt 9 0 (fun j st => st.1 = nI j ∧ (∀ i, i < j → st.2.1 i = 0) ∧ ∀ i, i < j → st.2.2 i = 0) ?_ ?_ ?_ ⟨nI_lit0, fun _ h => absurd h (Nat.not_lt_zero _), fun _ h => absurd h (Nat.not_lt_zero _)⟩ (Nat.zero_le _) (FU_big (by omega))
  · rintro j ⟨x, a, b⟩ back exit hj ⟨e, h1, h2⟩ hback
    dsimp only at e h1 h2
    subst e
    unfold s_Mo_judge_5
    dsimp only
    rw [nI9]
    refine ok_f (le_nI (by omega) (by omega) hj) (ok_t (inb_nI hj (by omega)) (hback _ ⟨nI_add1 j, fun i hi => ?_, fun i hi => ?_⟩))
    · dsimp only
      rw [nI_clamp (by omega)]
      by_cases e : i = j
      · subst e; exact pk_uLs
      · rw [pk_uLn e]; exact h1 i (by omega)
    · dsimp only
      rw [nI_clamp (by omega)]
      by_cases e : i = j
      · subst e; exact pk_uLs
      · rw [pk_uLn e]; exact h2 i (by omega)
  · rintro ⟨x, a, b⟩ back exit ⟨e, h1, h2⟩ hexit
    dsimp only at e h1 h2
    subst e
    unfold s_Mo_judge_5
    dsimp only
    exact ok_t (by rw [nI9]; exact nI_le (Nat.le_refl 9) (by omega)) (hexit _ ⟨rfl, h1, h2⟩)
  · rintro ⟨x, sz0, sm0⟩ ⟨e, z1, z2⟩
    dsimp only at e z1 z2 ⊢
    refine ok_cnt n 0 (fun j st => st.1 = jZ (sm2 j lk p) ∧ st.2.1 = nI j ∧ (∀ g, g < 9 → st.2.2.1 g = jZ (gn p j g : Int)) ∧ ∀ g, g < 9 → st.2.2.2 g = jZ (gs hs p j g)) ?_ ?_ ?_ ⟨rfl, nI_lit0, fun g hg => z1 g hg, fun g hg => z2 g hg⟩ (Nat.zero_le _) (FU_big (by omega))
    · rintro i ⟨w, x, cz, sz⟩ back exit hi ⟨e1, e2, h1, h2⟩ hback
      dsimp only at e1 e2 h1 h2
      subst e1 e2
      have hpi := (hp i hi).1
      unfold s_Mo_judge_37
      dsimp only
      rw [nI_clamp (show i < 2 ^ 31 by omega), (hp i hi).2, nI_clamp (show p i < 2 ^ 31 by omega)]
      refine ok_f (le_nI (by omega) (by omega) hi) (ok_t (inb_nI (by omega) (by omega)) (ok_t (inb_nI hpi (by omega)) ?_))
      refine ok_cnt i 0 (fun j st => st.1 = jZ (sm2 i lk p + sm j (fun u => if p i = p u then lk i u else 0)) ∧ st.2 = nI j) ?_ ?_ ?_ ⟨by show jZ _ = jZ (_ + 0); rw [Int.add_zero], nI_lit0⟩ (Nat.zero_le _) (FU_big (by omega))
      · rintro j ⟨a, b⟩ back2 exit2 hj ⟨e1, e2⟩ hb2
        dsimp only at e1 e2
        subst e1 e2
        have hpj := (hp j (by omega)).1
        unfold s_Mo_judge_82
        dsimp only
        refine ok_f (le_nI (by omega) (by omega) hj) (ok_t (inb_nI (by omega) (by omega)) (ok_t (inb_nI (by omega) (by omega)) ?_))
        rw [nI9, pk_mul, nI_add, nI_clamp (show j < 2 ^ 31 by omega), nI_clamp (show i < 2 ^ 31 by omega), nI_clamp (show 9 * j + i < 2 ^ 31 by omega), (hp i hi).2, (hp j (by omega)).2]
        by_cases e : p i = p j
        · refine ok_t (by rw [e]) (ok_t (inb_nI (by omega) (by omega)) (hb2 _ ⟨?_, nI_add1 j⟩))
          dsimp only
          rw [(hb i j hi hj).1, iZ_j (hb i j hi hj).2, ← jZ_add, sm_s, if_pos e]
          congr 1; omega
        · refine ok_f (fun z => e (nI_inj (by omega) (by omega) z).symm) (hb2 _ ⟨?_, nI_add1 j⟩)
          dsimp only
          rw [sm_s, if_neg e, ← jZ_0, ← jZ_add]
          congr 1; omega
      · rintro ⟨a, b⟩ back2 exit2 ⟨e1, e2⟩ he2
        dsimp only at e1 e2
        subst e1 e2
        unfold s_Mo_judge_82
        dsimp only
        exact ok_t (nI_le (Nat.le_refl i) (by omega)) (he2 _ ⟨rfl, rfl⟩)
      · rintro ⟨a, b⟩ ⟨e1, e2⟩
        dsimp only at e1 e2
        subst e1 e2
        refine hback _ ⟨rfl, nI_add1 i, fun g hg => ?_, fun g hg => ?_⟩
        · dsimp only
          show _ = jZ ((gn p i g + (if p i = g then 1 else 0) : Nat) : Int)
          by_cases e : g = p i
          · subst e
            rw [pk_uLs, h1 _ hg, if_pos rfl, ← jZ_1, ← jZ_add]
            rfl
          · rw [pk_uLn e, h1 g hg, if_neg (fun z => e z.symm)]
            rfl
        · dsimp only
          rw [gs_s]
          by_cases e : g = p i
          · subst e
            rw [pk_uLs, h2 _ hg, if_pos rfl, (hh i hi).1, iZ_j (hh i hi).2, ← jZ_add]
          · rw [pk_uLn e, h2 g hg, if_neg (fun z => e z.symm), Int.add_zero]
    · rintro ⟨w, x, cz, sz⟩ back exit ⟨e1, e2, h1, h2⟩ hexit
      dsimp only at e1 e2 h1 h2
      subst e1 e2
      unfold s_Mo_judge_37
      dsimp only
      exact ok_t (nI_le (Nat.le_refl n) (by omega)) (hexit _ ⟨rfl, rfl, h1, h2⟩)
    · rintro ⟨w, x, cz, sz⟩ ⟨e1, e2, h1, h2⟩
      dsimp only at e1 e2 h1 h2 ⊢
      subst e1 e2
      refine ok_jn (fun st => st = jZ (Aof man W lk n p)) (fun k hk => ?_) (fun st hst => ?_)
      · unfold Aof at hk
        by_cases e : man = 0
        · refine ok_t e (hk _ ?_)
          rw [if_pos e, jZ_mul, jZ_mul]; rfl
        · exact ok_f e (hk _ (by rw [if_neg e]))
      · refine ok_cnt 9 0 (fun j st2 => st2.1 = nI j ∧ st2.2 = jZ (sm j (fun g => if man = 0 then gs hs p n g * gs hs p n g else tri (gn p n g)))) ?_ ?_ ?_ ⟨nI_lit0, rfl⟩ (Nat.zero_le _) (FU_big (by omega))
        · rintro j ⟨x, b⟩ back exit hj ⟨e1, e2⟩ hback
          dsimp only at e1 e2
          subst e1 e2
          unfold s_Mo_judge_166
          dsimp only
          rw [nI9, nI_clamp (show j < 2 ^ 31 by omega)]
          refine ok_f (le_nI (by omega) (by omega) hj) ?_
          by_cases e : man = 0
          · refine ok_t e (ok_t (inb_nI hj (by omega)) (hback _ ⟨nI_add1 j, ?_⟩))
            dsimp only
            rw [h2 j hj, sm_s, if_pos e, jZ_add, jZ_mul]
          · refine ok_f e (ok_t (inb_nI hj (by omega)) (hback _ ⟨nI_add1 j, ?_⟩))
            dsimp only
            rw [h1 j hj, tri_j _ (by have := gn_le p j n; omega), sm_s, if_neg e, jZ_add]
        · rintro ⟨x, b⟩ back exit ⟨e1, e2⟩ hexit
          dsimp only at e1 e2
          subst e1 e2
          unfold s_Mo_judge_166
          dsimp only
          exact ok_t (by rw [nI9]; exact nI_le (Nat.le_refl 9) (by omega)) (hexit _ ⟨rfl, rfl⟩)
        · rintro ⟨x, b⟩ ⟨e1, e2⟩
          dsimp only at e2
          refine ok_some ⟨hst, ?_⟩
          dsimp only
          rw [e2]
          congr 1
          unfold Bof
          by_cases e : man = 0
          · rw [if_pos e, ← squares hs p 9 n (fun i hi => (hp i hi).1)]
            exact sm_congr (fun g _ => if_pos e)
          · rw [if_neg e, ← pairsN p 9 n hn (fun i hi => (hp i hi).1)]
            exact sm_congr (fun g _ => if_neg e)
