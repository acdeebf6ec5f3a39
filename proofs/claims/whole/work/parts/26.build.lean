/-! bit masks as numbers; the class's Gains.build -/
theorem nI_and (a b : Nat) : nI a &&& nI b = nI (a &&& b) := by
  apply Int32.toBitVec_inj.1
  show BitVec.ofNat 32 a &&& BitVec.ofNat 32 b = BitVec.ofNat 32 (a &&& b)
  apply BitVec.eq_of_getLsbD_eq
  intro i hi
  simp [hi]
theorem nI_or (a b : Nat) : nI a ||| nI b = nI (a ||| b) := by
  apply Int32.toBitVec_inj.1
  show BitVec.ofNat 32 a ||| BitVec.ofNat 32 b = BitVec.ofNat 32 (a ||| b)
  apply BitVec.eq_of_getLsbD_eq
  intro i hi
  simp [hi]
theorem sh1 : ∀ k : Nat, k < 9 → (1 : Int32) <<< (nI k &&& 31) = nI (2 ^ k) := by decide +kernel
theorem shr9 : ∀ k : Nat, k < 9 → ((nI k &&& 31).toBitVec.smod 32).toNat = k := by decide +kernel
theorem bit9 {m k : Nat} (hm : m < 512) (hk : k < 9) : ((nI m >>> (nI k &&& 31)) &&& 1) = 1 ↔ m.testBit k = true := by
  rw [pk_shrN (by omega) (nI k &&& 31) k (shr9 k hk), nI_lit1, nI_and, Nat.and_one_is_mod, nI_eq (by omega) (by omega), Nat.testBit_eq_decide_div_mod_eq, decide_eq_true_eq]
theorem or512 {a b : Nat} (ha : a < 512) (hb : b < 512) : a ||| b < 512 := Nat.or_lt_two_pow (n := 9) ha hb
theorem and512 {a b : Nat} (ha : a < 512) : a &&& b < 512 := Nat.lt_of_le_of_lt Nat.and_le_left ha
theorem pow512 {k : Nat} (h : k < 9) : 2 ^ k < 512 := Nat.pow_lt_pow_right (by omega) h
theorem tb_pow {k d : Nat} : (2 ^ k).testBit d = true ↔ k = d := by
  rw [Nat.testBit_two_pow]; simp
theorem tb_or {a b d : Nat} : (a ||| b).testBit d = true ↔ a.testBit d = true ∨ b.testBit d = true := by
  rw [Nat.testBit_or, Bool.or_eq_true]
theorem tb_and {a b d : Nat} : (a &&& b).testBit d = true ↔ a.testBit d = true ∧ b.testBit d = true := by
  rw [Nat.testBit_and, Bool.and_eq_true]
/-- Arrays.fill over longs -/
theorem h_fillJ {f : Nat → Int64} {n : Nat} {v : Int64} (hn : n < 30000) : ok (m_Ar_fill_AJJ f n v) (fun g => (∀ j, j < n → g j = v) ∧ ∀ j, n ≤ j → g j = f j) := by
  unfold m_Ar_fill_AJJ
  refine ok_cnt n 0 (fun j st => st.1 = nI j ∧ (∀ i, i < j → st.2 i = v) ∧ ∀ i, j ≤ i → st.2 i = f i) ?_ ?_ ?_ ⟨nI_lit0, fun _ h => absurd h (Nat.not_lt_zero _), fun _ _ => rfl⟩ (Nat.zero_le n) (FU_big hn)
  · rintro j ⟨i, g⟩ back exit hj ⟨e, h1, h2⟩ hback
    dsimp only at e h1 h2
    subst e
    unfold s_Ar_fill_AJJ_6
    dsimp only
    refine ok_f (fun h => absurd ((nI_leI (by omega) (by omega)).mp h) (by omega)) ?_
    refine ok_t (inb_nI hj (by omega)) ?_
    refine hback _ ⟨nI_add1 j, fun i hi => ?_, fun i hi => ?_⟩
    · dsimp only
      rw [nI_clamp (by omega)]
      by_cases e : i = j
      · subst e; exact pk_uLs
      · rw [pk_uLn e]; exact h1 i (by omega)
    · dsimp only
      rw [nI_clamp (by omega), pk_uLn (by omega)]
      exact h2 i (by omega)
  · rintro ⟨i, g⟩ back exit ⟨e, h1, h2⟩ hexit
    dsimp only at e h1 h2
    subst e
    unfold s_Ar_fill_AJJ_6
    dsimp only
    refine ok_t ((nI_leI (by omega) (by omega)).mpr (Nat.le_refl n)) ?_
    exact hexit _ ⟨rfl, h1, h2⟩
  · rintro ⟨i, g⟩ ⟨e, h1, h2⟩
    exact ok_some ⟨h1, h2⟩
theorem up_s {α : Type} {f : Nat → α} {k : Nat} {v : α} : va_up f k v k = v := if_pos rfl
theorem up_n {α : Type} {f : Nat → α} {k j : Nat} {v : α} (h : j ≠ k) : va_up f k v j = f j := if_neg h
theorem h_forgetLinks {lkA : Nat → Nat → Int32} {near : Nat → Int32} {has : Nat → Int64} : ok (m_Ga_forgetLinks lkA near has) (fun o => (∀ c d, c < 9 → d < 9 → o.1 c d = 0) ∧ (∀ c, c < 9 → o.2.1 c = 0) ∧ ∀ c, c < 9 → o.2.2 c = 0) := by
  unfold m_Ga_forgetLinks
  refine ok_bind (h_fillI (by omega)) (fun r1 h1 => ok_bind (h_fillJ (by omega)) (fun r2 h2 => ?_))
  refine ok_cnt 9 0 (fun j st => st.1 = nI j ∧ ∀ c d, c < j → d < 9 → st.2 c d = 0) ?_ ?_ ?_ ⟨nI_lit0, fun _ _ h => absurd h (Nat.not_lt_zero _)⟩ (Nat.zero_le _) (FU_big (by omega))
  · rintro j ⟨x, g⟩ back exit hj ⟨e, h⟩ hback
    dsimp only at e h
    subst e
    unfold s_Ga_forgetLinks_18
    dsimp only
    rw [nI9, nI_clamp (show j < 2 ^ 31 by omega)]
    refine ok_f (le_nI (by omega) (by omega) hj) (ok_t (inb_nI hj (by omega)) (ok_bind (h_fillI (by omega)) (fun r hr => hback _ ⟨nI_add1 j, fun c d hc hd => ?_⟩)))
    dsimp only
    by_cases e : c = j
    · subst e; rw [up_s]; exact hr.1 d hd
    · rw [up_n e]; exact h c d (by omega) hd
  · rintro ⟨x, g⟩ back exit ⟨e, h⟩ hexit
    dsimp only at e h
    subst e
    unfold s_Ga_forgetLinks_18
    dsimp only
    exact ok_t (by rw [nI9]; exact nI_le (Nat.le_refl 9) (by omega)) (hexit _ ⟨rfl, h⟩)
  · rintro ⟨x, g⟩ ⟨e, h⟩
    exact ok_some ⟨h, h1.1, h2.1⟩
/-- what Gains holds of the links -/
def linked (man : Int32) (k : Nat) (fr to : Nat → Nat) (wt : Nat → Int) (lkA : Nat → Nat → Int32) (near : Nat → Int32) (has : Nat → Int64) : Prop :=
  (∀ c d, c < 9 → d < 9 → lkA c d = iZ (lk man fr to wt c d k)) ∧ (∀ c, c < 9 → ∃ m, m < 512 ∧ near c = nI m ∧ ∀ d, d < 9 → (m.testBit d = true ↔ nr man fr to wt c d k)) ∧ ∀ c, c < 9 → has c = jZ (hs man fr to wt c k)
/-- the class's arcs -/
def carc (k : Nat) (fr to : Nat → Nat) (wt : Nat → Int) (from_ to_ weight : Nat → Int32) : Prop :=
  ∀ i, i < k → from_ i = nI (fr i) ∧ to_ i = nI (to i) ∧ fr i < 9 ∧ to i < 9 ∧ fr i ≠ to i ∧ (-50 ≤ wt i ∧ wt i ≤ 50) ∧ weight i = iZ (wt i)
theorem h_ccounts {k i : Nat} {man : Int32} {fr to : Nat → Nat} {wt : Nat → Int} {from_ to_ weight : Nat → Int32} (hk : k ≤ 36) (hr : carc k fr to wt from_ to_ weight) (hi : i < k) :
    ok (m_Gr_counts man weight (nI i)) (fun r => (ct man (wt i) ∧ r = 1) ∨ (¬ ct man (wt i) ∧ r = 0)) := by
  obtain ⟨-, -, -, -, -, hb, hw⟩ := hr i hi
  unfold m_Gr_counts
  refine ok_t (inb_nI (by omega) (by omega)) ?_
  rw [nI_clamp (by omega), hw]
  have hI : inI (wt i) := ⟨by omega, by omega⟩
  have h0 : inI 0 := ⟨by omega, by omega⟩
  refine ok_if (fun h => ok_some (Or.inl ⟨Or.inl ((iZ_lt h0 hI).mp h), rfl⟩)) (fun h => ?_)
  have hn : ¬ 0 < wt i := fun q => h ((iZ_lt h0 hI).mpr q)
  by_cases hm : man = 1
  · refine ok_t hm (ok_if (fun h2 => ok_some (Or.inr ⟨?_, rfl⟩)) (fun h2 => ok_some (Or.inl ⟨Or.inr ⟨hm, fun q => h2 (by rw [q]; rfl)⟩, rfl⟩)))
    have hz : wt i = 0 := (iZ_eq hI h0).mp h2
    rintro (q | ⟨_, q⟩)
    · exact hn q
    · exact q hz
  · refine ok_f hm (ok_some (Or.inr ⟨?_, rfl⟩))
    rintro (q | ⟨q, _⟩)
    · exact hn q
    · exact hm q
theorem h_addLink {man : Int32} {k a b : Nat} {fr to : Nat → Nat} {wt : Nat → Int} {lkA : Nat → Nat → Int32} {near : Nat → Int32} {has : Nat → Int64} (ha : a < 9) (hb : b < 9) (hne : a ≠ b) (hw : inI (wt k)) (hc : ct man (wt k)) (ea : fr k = a) (eb : to k = b) (h : linked man k fr to wt lkA near has) :
    ok (m_Ga_addLink lkA near has (nI a) (nI b) (iZ (wt k))) (fun o => linked man (k + 1) fr to wt o.1 o.2.1 o.2.2) := by
  obtain ⟨h1, h2, h3⟩ := h
  unfold m_Ga_addLink
  simp only [nI_clamp (show a < 2 ^ 31 by omega), nI_clamp (show b < 2 ^ 31 by omega), sh1 a ha, sh1 b hb, iZ_j hw]
  refine ok_t (inb_nI ha (by omega)) (ok_t (inb_nI hb (by omega)) (ok_t (inb_nI hb (by omega)) (ok_t (inb_nI ha (by omega)) (ok_some ⟨fun c d hc9 hd9 => ?_, fun c hc9 => ?_, fun c hc9 => ?_⟩))))
  · dsimp only
    show _ = iZ (lk man fr to wt c d k + _)
    rw [ea, eb]
    by_cases e1 : c = b
    · subst e1
      rw [up_s]
      by_cases e2 : d = a
      · subst e2
        rw [pk_us, up_n (fun q => hne q.symm), h1 c d hb ha, if_pos ⟨hc, Or.inr ⟨rfl, rfl⟩⟩, iZ_add]
      · rw [pk_un e2, up_n (fun q => hne q.symm), h1 c d hb hd9, if_neg (fun q => q.2.elim (fun z => hne (z.1.trans rfl)) (fun z => e2 z.1.symm)), Int.add_zero]
    · rw [up_n e1]
      by_cases e2 : c = a
      · subst e2
        rw [up_s]
        by_cases e3 : d = b
        · subst e3
          rw [pk_us, h1 c d ha hb, if_pos ⟨hc, Or.inl ⟨rfl, rfl⟩⟩, iZ_add]
        · rw [pk_un e3, h1 c d ha hd9, if_neg (fun q => q.2.elim (fun z => e3 z.2.symm) (fun z => e1 z.2.symm)), Int.add_zero]
      · rw [up_n e2, h1 c d hc9 hd9, if_neg (fun q => q.2.elim (fun z => e2 z.1.symm) (fun z => e1 z.2.symm)), Int.add_zero]
  · dsimp only
    by_cases e1 : c = b
    · subst e1
      obtain ⟨m, hm, em, hb2⟩ := h2 c hb
      refine ⟨m ||| 2 ^ a, or512 hm (pow512 ha), ?_, fun d hd => ?_⟩
      · rw [pk_us, pk_un (fun q => hne q.symm), em, nI_or]
      · rw [tb_or, tb_pow, hb2 d hd, nr_s, ea, eb]
        exact ⟨fun q => q.elim Or.inl (fun z => Or.inr ⟨hc, Or.inr ⟨z, rfl⟩⟩), fun q => q.elim Or.inl (fun z => z.2.elim (fun w => absurd w.1 hne) (fun w => Or.inr w.1))⟩
    · rw [pk_un e1]
      by_cases e2 : c = a
      · subst e2
        obtain ⟨m, hm, em, hb2⟩ := h2 c ha
        refine ⟨m ||| 2 ^ b, or512 hm (pow512 hb), ?_, fun d hd => ?_⟩
        · rw [pk_us, em, nI_or]
        · rw [tb_or, tb_pow, hb2 d hd, nr_s, ea, eb]
          exact ⟨fun q => q.elim Or.inl (fun z => Or.inr ⟨hc, Or.inl ⟨rfl, z⟩⟩), fun q => q.elim Or.inl (fun z => z.2.elim (fun w => Or.inr w.2) (fun w => absurd w.2.symm hne))⟩
      · obtain ⟨m, hm, em, hb2⟩ := h2 c hc9
        refine ⟨m, hm, by rw [pk_un e2]; exact em, fun d hd => ?_⟩
        rw [hb2 d hd, nr_s, ea, eb]
        exact ⟨Or.inl, fun q => q.elim id (fun z => z.2.elim (fun w => absurd w.1.symm e2) (fun w => absurd w.2.symm e1))⟩
  · dsimp only
    show _ = jZ (hs man fr to wt c k + _)
    rw [ea, eb]
    by_cases e1 : c = b
    · subst e1
      rw [pk_uLs, pk_uLn (fun q => hne q.symm), h3 c hb, if_pos ⟨hc, Or.inr rfl⟩, jZ_add]
    · rw [pk_uLn e1]
      by_cases e2 : c = a
      · subst e2
        rw [pk_uLs, h3 c ha, if_pos ⟨hc, Or.inl rfl⟩, jZ_add]
      · rw [pk_uLn e2, h3 c hc9, if_neg (fun q => q.2.elim (fun z => e2 z.symm) (fun z => e1 z.symm)), Int.add_zero]
def pAof (man : Int32) (W : Int) (lk : Nat → Nat → Int) (i j : Nat) : Int := if man = 0 then 4 * W * lk i j else lk i j
def pBof (man : Int32) (hs : Nat → Int) (i j : Nat) : Int := if man = 0 then 2 * hs i * hs j else 1
def alB (man : Int32) (hs : Nat → Int) (n : Nat) : Int := if man = 0 then sm n (fun i => hs i * hs i) else 0
theorem A_pairs (man : Int32) (W : Int) (lk : Nat → Nat → Int) (n : Nat) (p : Nat → Nat) : sm2 n (pAof man W lk) p = Aof man W lk n p := by
  unfold Aof pAof
  by_cases h : man = 0
  · simp only [h, if_true]; exact sm2_mul (4 * W) lk p n
  · simp only [h, if_false]
theorem B_pairs (man : Int32) (hs : Nat → Int) (n : Nat) (p : Nat → Nat) : alB man hs n + sm2 n (pBof man hs) p = Bof man hs n p := by
  unfold Bof pBof alB
  by_cases h : man = 0
  · simp only [h, if_true]
  · simp only [h, if_false]; omega
theorem h_pairByWeights {n : Nat} {gA gB : Nat → Nat → Int64} {lkA : Nat → Nat → Int32} {has : Nat → Int64} {lk : Nat → Nat → Int} {hs : Nat → Int} {W : Int} (hn : n ≤ 9) (hl : ∀ c d, c < 9 → d < 9 → lkA c d = iZ (lk c d) ∧ inI (lk c d)) (hh : ∀ c, c < 9 → has c = jZ (hs c)) :
    ok (m_Ga_pairByWeights (nI n) gA gB lkA has (4 * jZ W)) (fun o => o.1 = jZ (alB 0 hs n) ∧ ∀ i j, i < n → j < n → o.2.1 i j = jZ (pAof 0 W lk i j) ∧ o.2.2 i j = jZ (pBof 0 hs i j)) := by
  unfold m_Ga_pairByWeights
  refine ok_cnt n 0 (fun i st => st.1 = nI i ∧ st.2.1 = jZ (sm i (fun i => hs i * hs i)) ∧ ∀ c d, c < i → d < n → st.2.2.1 c d = jZ (pAof 0 W lk c d) ∧ st.2.2.2 c d = jZ (pBof 0 hs c d)) ?_ ?_ ?_ ⟨nI_lit0, rfl, fun _ _ h => absurd h (Nat.not_lt_zero _)⟩ (Nat.zero_le _) (FU_big (by omega))
  · rintro i ⟨x, s0, a0, b0⟩ back exit hi ⟨e1, e2, h⟩ hback
    dsimp only at e1 e2 h
    subst e1 e2
    unfold s_Ga_pairByWeights_7
    dsimp only
    refine ok_f (le_nI (by omega) (by omega) hi) (ok_t (inb_nI (by omega) (by omega)) ?_)
    refine ok_cnt n 0 (fun j st => st.1 = nI j ∧ (∀ c d, c < i → d < n → st.2.1 c d = jZ (pAof 0 W lk c d) ∧ st.2.2 c d = jZ (pBof 0 hs c d)) ∧ ∀ d, d < j → st.2.1 i d = jZ (pAof 0 W lk i d) ∧ st.2.2 i d = jZ (pBof 0 hs i d)) ?_ ?_ ?_ ⟨nI_lit0, h, fun _ h => absurd h (Nat.not_lt_zero _)⟩ (Nat.zero_le _) (FU_big (by omega))
    · rintro j ⟨y, a1, b1⟩ back2 exit2 hj ⟨e, g1, g2⟩ hb2
      dsimp only at e g1 g2
      subst e
      unfold s_Ga_pairByWeights_40
      dsimp only
      rw [nI_clamp (show i < 2 ^ 31 by omega), nI_clamp (show j < 2 ^ 31 by omega)]
      refine ok_f (le_nI (by omega) (by omega) hj) (ok_t (inb_nI (by omega) (by omega)) (ok_t (inb_nI (by omega) (by omega)) (ok_t (inb_nI (by omega) (by omega)) (hb2 _ ⟨nI_add1 j, fun c d hc hd => ?_, fun d hd => ?_⟩))))
      · dsimp only
        rw [up_n (by omega), up_n (by omega)]; exact g1 c d hc hd
      · dsimp only
        rw [up_s, up_s]
        by_cases e : d = j
        · subst e
          rw [pk_uLs, pk_uLs, (hl i d (by omega) (by omega)).1, iZ_j (hl i d (by omega) (by omega)).2, hh i (by omega), hh d (by omega)]
          unfold pAof pBof
          rw [if_pos rfl, if_pos rfl, jZ_mul, jZ_mul, jZ_mul, jZ_mul]
          exact ⟨rfl, rfl⟩
        · rw [pk_uLn e, pk_uLn e]; exact g2 d (by omega)
    · rintro ⟨y, a1, b1⟩ back2 exit2 ⟨e, g⟩ he2
      dsimp only at e
      subst e
      unfold s_Ga_pairByWeights_40
      dsimp only
      exact ok_t (nI_le (Nat.le_refl n) (by omega)) (he2 _ ⟨rfl, g⟩)
    · rintro ⟨y, a1, b1⟩ ⟨e, g1, g2⟩
      dsimp only at e g1 g2 ⊢
      refine hback _ ⟨nI_add1 i, ?_, fun c d hc hd => ?_⟩
      · dsimp only
        rw [nI_clamp (show i < 2 ^ 31 by omega), hh i (by omega), sm_s, jZ_add, jZ_mul]
      · dsimp only
        by_cases e : c = i
        · subst e; exact g2 d hd
        · exact g1 c d (by omega) hd
  · rintro ⟨x, s0, a0, b0⟩ back exit ⟨e, h⟩ hexit
    dsimp only at e
    subst e
    unfold s_Ga_pairByWeights_7
    dsimp only
    exact ok_t (nI_le (Nat.le_refl n) (by omega)) (hexit _ ⟨rfl, h⟩)
  · rintro ⟨x, s0, a0, b0⟩ ⟨e, e2, h⟩
    exact ok_some ⟨by rw [e2]; unfold alB; rw [if_pos rfl], h⟩
theorem h_pairByNumbers {n : Nat} {man : Int32} {gA gB : Nat → Nat → Int64} {lkA : Nat → Nat → Int32} {lk : Nat → Nat → Int} {hs : Nat → Int} {W : Int} (hn : n ≤ 9) (hm : ¬ man = 0) (hl : ∀ c d, c < 9 → d < 9 → lkA c d = iZ (lk c d) ∧ inI (lk c d)) :
    ok (m_Ga_pairByNumbers (nI n) gA gB lkA) (fun o => o.1 = jZ (alB man hs n) ∧ ∀ i j, i < n → j < n → o.2.1 i j = jZ (pAof man W lk i j) ∧ o.2.2 i j = jZ (pBof man hs i j)) := by
  unfold m_Ga_pairByNumbers
  refine ok_cnt n 0 (fun i st => st.1 = nI i ∧ ∀ c d, c < i → d < n → st.2.1 c d = jZ (pAof man W lk c d) ∧ st.2.2 c d = jZ (pBof man hs c d)) ?_ ?_ ?_ ⟨nI_lit0, fun _ _ h => absurd h (Nat.not_lt_zero _)⟩ (Nat.zero_le _) (FU_big (by omega))
  · rintro i ⟨x, a0, b0⟩ back exit hi ⟨e1, h⟩ hback
    dsimp only at e1 h
    subst e1
    unfold s_Ga_pairByNumbers_7
    dsimp only
    refine ok_f (le_nI (by omega) (by omega) hi) ?_
    refine ok_cnt n 0 (fun j st => st.1 = nI j ∧ (∀ c d, c < i → d < n → st.2.1 c d = jZ (pAof man W lk c d) ∧ st.2.2 c d = jZ (pBof man hs c d)) ∧ ∀ d, d < j → st.2.1 i d = jZ (pAof man W lk i d) ∧ st.2.2 i d = jZ (pBof man hs i d)) ?_ ?_ ?_ ⟨nI_lit0, h, fun _ h => absurd h (Nat.not_lt_zero _)⟩ (Nat.zero_le _) (FU_big (by omega))
    · rintro j ⟨y, a1, b1⟩ back2 exit2 hj ⟨e, g1, g2⟩ hb2
      dsimp only at e g1 g2
      subst e
      unfold s_Ga_pairByNumbers_17
      dsimp only
      rw [nI_clamp (show i < 2 ^ 31 by omega), nI_clamp (show j < 2 ^ 31 by omega)]
      refine ok_f (le_nI (by omega) (by omega) hj) (ok_t (inb_nI (by omega) (by omega)) (ok_t (inb_nI (by omega) (by omega)) (hb2 _ ⟨nI_add1 j, fun c d hc hd => ?_, fun d hd => ?_⟩)))
      · dsimp only
        rw [up_n (by omega), up_n (by omega)]; exact g1 c d hc hd
      · dsimp only
        rw [up_s, up_s]
        by_cases e : d = j
        · subst e
          rw [pk_uLs, pk_uLs, (hl i d (by omega) (by omega)).1, iZ_j (hl i d (by omega) (by omega)).2]
          unfold pAof pBof
          rw [if_neg hm, if_neg hm]
          exact ⟨rfl, rfl⟩
        · rw [pk_uLn e, pk_uLn e]; exact g2 d (by omega)
    · rintro ⟨y, a1, b1⟩ back2 exit2 ⟨e, g⟩ he2
      dsimp only at e
      subst e
      unfold s_Ga_pairByNumbers_17
      dsimp only
      exact ok_t (nI_le (Nat.le_refl n) (by omega)) (he2 _ ⟨rfl, g⟩)
    · rintro ⟨y, a1, b1⟩ ⟨e, g1, g2⟩
      dsimp only at e g1 g2 ⊢
      refine hback _ ⟨nI_add1 i, fun c d hc hd => ?_⟩
      dsimp only
      by_cases e : c = i
      · subst e; exact g2 d hd
      · exact g1 c d (by omega) hd
  · rintro ⟨x, a0, b0⟩ back exit ⟨e, h⟩ hexit
    dsimp only at e
    subst e
    unfold s_Ga_pairByNumbers_7
    dsimp only
    exact ok_t (nI_le (Nat.le_refl n) (by omega)) (hexit _ ⟨rfl, h⟩)
  · rintro ⟨x, a0, b0⟩ ⟨e, h⟩
    exact ok_some ⟨by unfold alB; rw [if_neg hm]; rfl, h⟩
/-- what Gains holds -/
def built (man : Int32) (n k : Nat) (fr to : Nat → Nat) (wt : Nat → Int) (nodes : Int32) (alone : Int64) (gA gB : Nat → Nat → Int64) (lkA : Nat → Nat → Int32) (near : Nat → Int32) (has : Nat → Int64) : Prop :=
  nodes = nI n ∧ alone = jZ (alB man (fun c => hs man fr to wt c k) n) ∧ (∀ i j, i < n → j < n → gA i j = jZ (pAof man (al man wt k) (fun c d => lk man fr to wt c d k) i j) ∧ gB i j = jZ (pBof man (fun c => hs man fr to wt c k) i j)) ∧ linked man k fr to wt lkA near has
theorem h_build {n k : Nat} {man : Int32} {fr to : Nat → Nat} {wt : Nat → Int} {from_ to_ weight : Nat → Int32} {gA gB : Nat → Nat → Int64} {lkA : Nat → Nat → Int32} {near : Nat → Int32} {has : Nat → Int64} (hn : n ≤ 9) (hk : k ≤ 36) (hr : carc k fr to wt from_ to_ weight) :
    ok (m_Ga_build man (nI n) (nI k) from_ to_ weight gA gB lkA near has) (fun o => built man n k fr to wt o.1 o.2.1 o.2.2.1 o.2.2.2.1 o.2.2.2.2.1 o.2.2.2.2.2.1 o.2.2.2.2.2.2) := by
  unfold m_Ga_build
  refine ok_bind h_forgetLinks (fun r0 h0 => ?_)
  refine ok_cnt k 0 (fun j st => st.1 = jZ (al man wt j) ∧ st.2.1 = nI j ∧ linked man j fr to wt st.2.2.2.1 st.2.2.2.2 st.2.2.1) ?_ ?_ ?_ ⟨rfl, nI_lit0, h0.1, fun c hc => ⟨0, by omega, h0.2.1 c hc, fun d hd => ⟨fun q => by simp at q, fun ⟨i, hi, _⟩ => absurd hi (Nat.not_lt_zero _)⟩⟩, h0.2.2⟩ (Nat.zero_le _) (FU_big (by omega))
  · rintro j ⟨s0, x, hh, ll, nn⟩ back exit hj ⟨e1, e2, h⟩ hback
    dsimp only at e1 e2 h
    subst e1 e2
    unfold s_Ga_build_17
    dsimp only
    refine ok_f (le_nI (by omega) (by omega) hj) (ok_bind (h_ccounts hk hr hj) (fun r hrr => ?_))
    obtain ⟨o1, o2, a9, b9, hne, hb, hw⟩ := hr j hj
    rcases hrr with ⟨hc, rfl⟩ | ⟨hc, rfl⟩
    · refine ok_f n1_0 (ok_t (inb_nI (by omega) (by omega)) ?_)
      rw [nI_clamp (show j < 2 ^ 31 by omega), o1, o2, hw]
      refine ok_bind (h_addLink a9 b9 hne ⟨by omega, by omega⟩ hc rfl rfl h) (fun o ho => hback _ ⟨?_, nI_add1 j, ho⟩)
      dsimp only
      show _ = jZ (al man wt j + _)
      rw [iZ_j ⟨by omega, by omega⟩, if_pos hc, jZ_add]
    · refine ok_t rfl (hback _ ⟨?_, nI_add1 j, fun c d hc9 hd9 => ?_, fun c hc9 => ?_, fun c hc9 => ?_⟩)
      · show _ = jZ (al man wt j + _)
        rw [if_neg hc, Int.add_zero]
      · show _ = iZ (lk man fr to wt c d j + _)
        rw [if_neg (fun q => hc q.1), Int.add_zero]; exact h.1 c d hc9 hd9
      · obtain ⟨m, hm, em, hb2⟩ := h.2.1 c hc9
        exact ⟨m, hm, em, fun d hd => (hb2 d hd).trans ⟨fun q => nr_s.mpr (Or.inl q), fun q => (nr_s.mp q).elim id (fun z => absurd z.1 hc)⟩⟩
      · show _ = jZ (hs man fr to wt c j + _)
        rw [if_neg (fun q => hc q.1), Int.add_zero]; exact h.2.2 c hc9
  · rintro ⟨s0, x, hh, ll, nn⟩ back exit ⟨e1, e2, h⟩ hexit
    dsimp only at e1 e2
    subst e1 e2
    unfold s_Ga_build_17
    dsimp only
    exact ok_t (nI_le (Nat.le_refl k) (by omega)) (hexit _ ⟨rfl, rfl, h⟩)
  · rintro ⟨s0, x, hh, ll, nn⟩ ⟨e1, e2, h⟩
    dsimp only at e1 e2 h ⊢
    subst e1
    have hwb : wbd wt k := fun i hi => (hr i hi).2.2.2.2.2.1
    have hl : ∀ c d, c < 9 → d < 9 → ll c d = iZ (lk man fr to wt c d k) ∧ inI (lk man fr to wt c d k) := fun c d hc hd => ⟨h.1 c d hc hd, by have := lk_bd (man := man) (fr := fr) (to := to) (a := c) (b := d) hwb; exact ⟨by omega, by omega⟩⟩
    by_cases hm : man = 0
    · refine ok_t hm (ok_bind (h_pairByWeights hn hl h.2.2) (fun o ho => ok_some ⟨rfl, ?_, ?_, h⟩))
      · rw [hm] at ho ⊢; exact ho.1
      · rw [hm] at ho ⊢; exact ho.2
    · exact ok_f hm (ok_bind (h_pairByNumbers (hs := fun c => hs man fr to wt c k) (W := al man wt k) hn hm hl) (fun o ho => ok_some ⟨rfl, ho.1, ho.2, h⟩))
