/-! plateaus: they are few -/
theorem sm_mono {f g : Nat → Int} : ∀ {n : Nat}, (∀ i, i < n → f i ≤ g i) → sm n f ≤ sm n g
  | 0, _ => Int.le_refl _
  | n + 1, h => by
    have h1 := sm_mono (n := n) (fun i hi => h i (by omega))
    have h2 := h n (by omega)
    rw [sm_s, sm_s]
    omega
theorem sm_nn {f : Nat → Int} : ∀ {n : Nat}, (∀ i, i < n → 0 ≤ f i) → 0 ≤ sm n f
  | 0, _ => Int.le_refl _
  | n + 1, h => by
    have h1 := sm_nn (n := n) (fun i hi => h i (by omega))
    have h2 := h n (by omega)
    rw [sm_s]
    omega
theorem sm2_nn {F : Nat → Nat → Int} {p : Nat → Nat} {n : Nat} (h : ∀ i j, i < n → j < i → 0 ≤ F i j) : 0 ≤ sm2 n F p := sm_nn (fun i hi => sm_nn (fun j hj => by
  by_cases e : p i = p j
  · rw [if_pos e]; exact h i j hi hj
  · rw [if_neg e]; exact Int.le_refl _))
theorem sm2_add (F G : Nat → Nat → Int) (p : Nat → Nat) (n : Nat) : sm2 n (fun i j => F i j + G i j) p = sm2 n F p + sm2 n G p := by
  unfold sm2
  rw [← sm_add]
  refine sm_congr (fun i hi => ?_)
  rw [← sm_add]
  refine sm_congr (fun j hj => ?_)
  by_cases e : p i = p j
  · rw [if_pos e, if_pos e, if_pos e]
  · rw [if_neg e, if_neg e, if_neg e]; rfl
theorem one_arc {n a b : Nat} {w : Int} {p : Nat → Nat} (hw : 0 ≤ w) (hab : a ≠ b) : sm2 n (fun i j => if (a = i ∧ b = j) ∨ (a = j ∧ b = i) then w else 0) p ≤ w := by
  have h1 : ∀ i, i < n → sm i (fun j => if p i = p j then (if (a = i ∧ b = j) ∨ (a = j ∧ b = i) then w else 0) else 0) ≤ (if i = max a b then w else 0) := fun i hi => by
    have h2 : sm i (fun j => if p i = p j then (if (a = i ∧ b = j) ∨ (a = j ∧ b = i) then w else 0) else 0) ≤ sm i (fun j => if j = min a b then (if i = max a b then w else 0) else 0) := by
      refine sm_mono (fun j hj => ?_)
      by_cases c : (a = i ∧ b = j) ∨ (a = j ∧ b = i)
      · rw [if_pos c, if_pos (show j = min a b by omega), if_pos (show i = max a b by omega)]
        split <;> omega
      · rw [if_neg c]
        have : (if p i = p j then (0 : Int) else 0) = 0 := by split <;> rfl
        rw [this]
        split
        · split <;> omega
        · exact Int.le_refl _
    refine Int.le_trans h2 ?_
    rw [sm_at]
    split
    · exact Int.le_refl _
    · split <;> omega
  refine Int.le_trans (sm_mono h1) ?_
  rw [sm_at]
  split <;> omega
theorem within_al {n : Nat} {fr to : Nat → Nat} {wt : Nat → Int} {p : Nat → Nat} : ∀ {k : Nat}, (∀ i, i < k → fr i ≠ to i) → 0 ≤ sm2 n (fun c d => lk 0 fr to wt c d k) p ∧ sm2 n (fun c d => lk 0 fr to wt c d k) p ≤ al 0 wt k
  | 0, _ => ⟨sm2_nn (fun _ _ _ _ => Int.le_refl _), by
      have : sm2 n (fun c d => lk 0 fr to wt c d 0) p ≤ 0 := by
        have h : sm2 n (fun c d => lk 0 fr to wt c d 0) p = 0 := sm_zero (fun i _ => sm_zero (fun j _ => by
          show (if p i = p j then (0 : Int) else 0) = 0
          split <;> rfl))
        rw [h]; exact Int.le_refl _
      exact this⟩
  | k + 1, h => by
    have ih := within_al (n := n) (wt := wt) (p := p) (k := k) (fun i hi => h i (by omega))
    have hct : ct 0 (wt k) ↔ 0 < wt k := by
      unfold ct
      constructor
      · rintro (q | q)
        · exact q
        · exact absurd q.1 n0_1
      · exact Or.inl
    by_cases c : 0 < wt k
    · have e : sm2 n (fun c d => lk 0 fr to wt c d (k + 1)) p = sm2 n (fun c d => lk 0 fr to wt c d k) p + sm2 n (fun i j => if (fr k = i ∧ to k = j) ∨ (fr k = j ∧ to k = i) then wt k else 0) p := by
        rw [← sm2_add]
        refine sm2_congr (fun i j _ _ => ?_) (fun _ _ _ _ => Iff.rfl)
        show lk 0 fr to wt i j k + (if ct 0 (wt k) ∧ ((fr k = i ∧ to k = j) ∨ (fr k = j ∧ to k = i)) then wt k else 0) = _
        congr 1
        by_cases q : (fr k = i ∧ to k = j) ∨ (fr k = j ∧ to k = i)
        · rw [if_pos ⟨hct.mpr c, q⟩, if_pos q]
        · rw [if_neg (fun z => q z.2), if_neg q]
      have e2 : al 0 wt (k + 1) = al 0 wt k + wt k := by
        show al 0 wt k + (if ct 0 (wt k) then wt k else 0) = _
        rw [if_pos (hct.mpr c)]
      have h1 := one_arc (n := n) (p := p) (Int.le_of_lt c) (h k (by omega))
      have h2 : 0 ≤ sm2 n (fun i j => if (fr k = i ∧ to k = j) ∨ (fr k = j ∧ to k = i) then wt k else 0) p := sm2_nn (fun i j _ _ => by split <;> omega)
      rw [e, e2]
      omega
    · have e : sm2 n (fun c d => lk 0 fr to wt c d (k + 1)) p = sm2 n (fun c d => lk 0 fr to wt c d k) p := by
        refine sm2_congr (fun i j _ _ => ?_) (fun _ _ _ _ => Iff.rfl)
        show lk 0 fr to wt i j k + (if ct 0 (wt k) ∧ ((fr k = i ∧ to k = j) ∨ (fr k = j ∧ to k = i)) then wt k else 0) = _
        rw [if_neg (fun z => c (hct.mp z.1)), Int.add_zero]
      have e2 : al 0 wt (k + 1) = al 0 wt k := by
        show al 0 wt k + (if ct 0 (wt k) then wt k else 0) = _
        rw [if_neg (fun z => c (hct.mp z)), Int.add_zero]
      rw [e, e2]
      exact ih
def AA (man : Int32) (n k : Nat) (fr to : Nat → Nat) (wt : Nat → Int) (j : Nat) : Int := Aof man (al man wt k) (fun c d => lk man fr to wt c d k) n (en n j)
def BB (man : Int32) (n k : Nat) (fr to : Nat → Nat) (wt : Nat → Int) (j : Nat) : Int := Bof man (fun c => hs man fr to wt c k) n (en n j)
theorem sm36 : ∀ n : Nat, n < 10 → sm n (fun i => (i : Int)) ≤ 36 := by decide
theorem smalA {man : Int32} {n k : Nat} {fr to : Nat → Nat} {wt : Nat → Int} (hn : n ≤ 9) (hk : k ≤ 36) (h : wbd wt k) : smal (AA man n k fr to wt) := fun j => bd_A hn hk h
theorem smalB {man : Int32} {n k : Nat} {fr to : Nat → Nat} {wt : Nat → Int} (hn : n ≤ 9) (hk : k ≤ 36) (h : wbd wt k) : smal (BB man n k fr to wt) := fun j => bd_B hn hk h
theorem few_AB {man : Int32} {n k : Nat} {fr to : Nat → Nat} {wt : Nat → Int} (hn : n ≤ 9) (hk : k ≤ 36) (hm : man = 0 ∨ man = 1) (h : wbd wt k) (hne : ∀ i, i < k → fr i ≠ to i) : few (AA man n k fr to wt) (BB man n k fr to wt) := by
  rcases hm with rfl | rfl
  · left
    have h0 := within_al (n := n) (fr := fr) (to := to) (wt := wt) (p := fun _ => 0) hne
    have hb := al_bd (man := 0) h
    refine ⟨al 0 wt k, fun j => sm2 n (fun c d => lk 0 fr to wt c d k) (en n j), ⟨by omega, by omega⟩, fun j => ⟨?_, within_al hne⟩⟩
    unfold AA Aof
    rw [if_pos rfl]
  · right
    intro j
    have e : BB 1 n k fr to wt j = sm2 n (fun _ _ => 1) (en n j) := by
      unfold BB Bof
      rw [if_neg n1_0]
    rw [e]
    refine ⟨sm2_nn (fun _ _ _ _ => by omega), Int.le_trans (sm_mono (g := fun i => (i : Int)) (fun i hi => ?_)) (sm36 n (by omega))⟩
    have h1 : sm i (fun j' => if en n j i = en n j j' then (1 : Int) else 0) ≤ sm i (fun _ => 1) := sm_mono (fun j' _ => by split <;> omega)
    have h2 : sm i (fun _ => (1 : Int)) = i := by
      clear h1 hi
      induction i with
      | zero => rfl
      | succ i ih => rw [sm_s, ih]; omega
    rw [h2] at h1
    exact h1
/-! plateaus: the reference -/
theorem r_judge {n k : Nat} {man : Int32} {fr to : Nat → Nat} {wt : Nat → Int} {all : Int64} {bt jo has q : Nat → Int32} {sums sizes : Nat → Int64} {p : Nat → Nat} (hn : n ≤ 9) (hk : k ≤ 36) (hwb : wbd wt k) (hw : weighed man k fr to wt all bt jo has) (hp : ∀ i, i < n → p i < 9 ∧ q i = nI (p i)) :
    ok (m_Mo_judge man (nI n) all bt has sums sizes q) (fun o => o.1 = jZ (Aof man (al man wt k) (fun c d => lk man fr to wt c d k) n p) ∧ o.2.1 = jZ (Bof man (fun c => hs man fr to wt c k) n p)) := by
  rw [hw.1]
  refine h_judge (lk := fun c d => lk man fr to wt c d k) (hs := fun c => hs man fr to wt c k) (W := al man wt k) hn hp (fun i j hi hj => ⟨?_, inI_50 hk (lk_bd hwb)⟩) (fun i hi => ⟨hw.2.2.2 i (by omega), inI_50 hk (hs_bd hwb)⟩)
  rw [hw.2.1 j i (by omega) (by omega), lk_sym]
theorem h_show {n s : Nat} {p : Nat → Nat} {f : Nat → Int32} {so : Nat → Int64} {v : Int32} (hn : n ≤ 9) (hs : s < 1801) (ev : v = nI s) (hg : ∀ i, i < n → p i < 16 ∧ f i = nI (p i)) : ok (m_Mo_show (nI n) f so v) (fun o => o s = lN (cdN p n) ∧ ∀ t, t ≠ s → o t = so t) := by
  subst ev
  unfold m_Mo_show
  rw [nI_clamp (show s < 2 ^ 31 by omega)]
  refine ok_t (inb_nI hs (by omega)) ?_
  refine ok_cnt n 0 (fun j st => st.1 = nI j ∧ st.2 s = lN (cdN p j) ∧ ∀ t, t ≠ s → st.2 t = so t) ?_ ?_ ?_ ⟨nI_lit0, pk_uLs, fun t ht => pk_uLn ht⟩ (Nat.zero_le _) (FU_big (by omega))
  · rintro j ⟨x, c⟩ back exit hj ⟨e1, e2, e3⟩ hback
    dsimp only at e1 e2 e3
    subst e1
    obtain ⟨hp, eg⟩ := hg j hj
    unfold s_Mo_show_9
    dsimp only
    have h4 : (4 : Int32) = nI 4 := by decide +kernel
    rw [nI_clamp (show s < 2 ^ 31 by omega), nI_clamp (show j < 2 ^ 31 by omega), eg, nI_l (by omega), h4, pk_mul, wb_shl _ (by omega), e2]
    refine ok_f (le_nI (by omega) (by omega) hj) (ok_t (inb_nI hs (by omega)) (ok_t (inb_nI (by omega) (by omega)) (hback _ ⟨nI_add1 j, ?_, fun t ht => ?_⟩)))
    · dsimp only
      rw [pk_uLs]
      have hl := cdN_lt (fun u hu => (hg u (by omega)).1 : ∀ u, u < j → p u < 16)
      have h36 := p44 (by omega : j ≤ 9)
      have hm : p j * 2 ^ (4 * j) ≤ 15 * 2 ^ 36 := Nat.mul_le_mul (by omega) h36
      rw [wb_or (by omega) (by omega)]
      show _ = lN (cdN p j + p j * 2 ^ (4 * j))
      congr 1
      have := Nat.two_pow_add_eq_or_of_lt hl (p j)
      rw [Nat.mul_comm (2 ^ (4 * j)) (p j)] at this
      rw [Nat.or_comm, ← this]
      omega
    · dsimp only
      rw [pk_uLn ht]
      exact e3 t ht
  · rintro ⟨x, c⟩ back exit ⟨e1, e2, e3⟩ hexit
    dsimp only at e1 e2 e3
    subst e1
    unfold s_Mo_show_9
    dsimp only
    exact ok_t (nI_le (Nat.le_refl n) (by omega)) (hexit _ ⟨rfl, e2, e3⟩)
  · rintro ⟨x, c⟩ ⟨e1, e2, e3⟩
    exact ok_some ⟨e2, e3⟩
theorem rS_s {n : Nat} {A B : Nat → Int} {N c f : Nat} {ab be co ab' be' co' : Nat → Int64} (h : rS n A B N c ab be co) (hs : ∀ s, s < c → ab' s = ab s ∧ be' s = be s ∧ co' s = co s) (hf : pl A B N c = some f) (hno : isNo n f) (e1 : ab' c = lN (tb A B N c).1) (e2 : be' c = lN (tb A B N c).2) (e3 : co' c = lN (cdN (en n f) n)) : rS n A B N (c + 1) ab' be' co' := by
  intro s hs1
  by_cases e : s = c
  · subst e
    exact ⟨⟨f, hf, hno, e3⟩, e1, e2⟩
  · obtain ⟨⟨g, g1, g2, g3⟩, g4, g5⟩ := h s (by omega)
    obtain ⟨k1, k2, k3⟩ := hs s (by omega)
    exact ⟨⟨g, g1, g2, k3.trans g3⟩, k1.trans g4, k2.trans g5⟩
def rf (n : Nat) (A B : Nat → Int) (a b : Int) (r : Option Nat) (more : Int32) (x y nA nB : Int64) (found : Nat → Int32) : Prop := (r = none ∧ more = 0) ∨ ∃ g, r = some g ∧ isNo n g ∧ more = 1 ∧ x = jZ (a - A g) ∧ y = jZ (b - B g) ∧ nA = jZ (A g) ∧ nB = jZ (B g) ∧ ∀ i, i < n → found i = nI (en n g i)
theorem jZ0 : (0 : Int64) = jZ 0 := rfl
def plR (n : Nat) (A B : Nat → Int) (K : Nat) (cnt : Int32) (ab be so : Nat → Int64) : Prop := ∃ c, isC A B (K + 1) c ∧ c ≤ 1801 ∧ cnt = nI c ∧ rS n A B (K + 1) c ab be so
theorem rS_isC {n : Nat} {A B : Nat → Int} {N c : Nat} {ab be co : Nat → Int64} (h : rS n A B N c ab be co) (hn : pl A B N c = none) : isC A B N c := ⟨hn, fun s hs => by obtain ⟨⟨f, hf, _⟩, _⟩ := h s hs; exact ⟨f, hf⟩⟩
theorem h_findPlateaus {n k : Nat} {man : Int32} {fr to : Nat → Nat} {wt : Nat → Int} {isP cnt0 : Int32} {all a0 b0 : Int64} {ones others weights there bt jo has wk fd sh : Nat → Int32} {sums sizes ab be so : Nat → Int64} {A B : Nat → Int} {K : Nat} (hn : n ≤ 9) (hk : k ≤ 36) (hr : rarc k fr to wt ones others weights there) (eA : AA man n k fr to wt = A) (eB : BB man n k fr to wt = B) (hfew : few A B) (hK : isLast n K)
    (hP : isP = 0 ∨ (isP = 1 ∧ plR n A B K cnt0 ab be so)) :
    ok (m_Mo_findPlateaus man (nI n) (nI k) isP all a0 b0 cnt0 ones others weights there bt jo has sums sizes wk fd sh ab be so) (fun o => o.1 = 1 ∧ plR n A B K o.2.2.2.2.1 o.2.2.2.2.2.2.2.2.2.2.2.2.2.1 o.2.2.2.2.2.2.2.2.2.2.2.2.2.2.1 o.2.2.2.2.2.2.2.2.2.2.2.2.2.2.2) := by
  have hwb : wbd wt k := fun i hi => (hr i hi).2.2.2.2.2.1
  have sA1 : smal A := by rw [← eA]; exact smalA hn hk hwb
  have sB1 : smal B := by rw [← eB]; exact smalB hn hk hwb
  unfold m_Mo_findPlateaus
  rcases hP with rfl | ⟨rfl, hP⟩
  rotate_left
  · exact ok_f n1_0 (ok_some ⟨rfl, hP⟩)
  refine ok_t rfl (ok_bind (h_weigh hk hr) (fun r14 h14 => ok_bind (h_first hn) (fun w0 hw0 => ?_)))
  have hj : ∀ {j sums sizes q}, isNo n j → (∀ i, i < n → q i = nI (en n j i)) → ok (m_Mo_judge man (nI n) r14.1 r14.2.1 r14.2.2.2 sums sizes q) (fun o => o.1 = jZ (A j) ∧ o.2.1 = jZ (B j)) := fun {j sums sizes q} hno hq => by
    rw [← eA, ← eB]
    exact r_judge hn hk hwb h14 (p := en n j) (fun i hi => ⟨by have := rgs_le hno.1 hi; omega, hq i hi⟩)
  refine ok_bind (hj (isNo_0 n) hw0) (fun r26 h26 => ok_bind (h_copy hn) (fun r48 h48 => ?_))
  refine ok_ghost 21147 0 (fun j st => isNo n j ∧ (∀ i, i < n → st.2.2.2.2.2.2.2 i = nI (en n j i)) ∧ ∃ g, sg (fun _ => True) (G0 A B) (j + 1) = some g ∧ isNo n g ∧ st.1 = jZ (A g) ∧ st.2.1 = jZ (B g) ∧ ∀ i, i < n → st.2.2.2.2.1 i = nI (en n g i))
    (fun st => ∃ g, pl A B (K + 1) 0 = some g ∧ isNo n g ∧ st.1 = jZ (A g) ∧ st.2.1 = jZ (B g) ∧ ∀ i, i < n → st.2.2.2.2.1 i = nI (en n g i)) ?_ ?_ (fun j st h => isNo_lt hn h.1) ⟨isNo_0 n, hw0, 0, sgs_ny trivial, isNo_0 n, h26.1, h26.2, fun i hi => (h48.1 i hi).trans (hw0 i hi)⟩ (FU_big (by omega))
  · rintro j ⟨oA, oB, a1, b1, sh1, sz1, sm1, w1⟩ back exit ⟨hno, hw1, g, hg, hgn, e1, e2, e3⟩ hback hexit
    dsimp only at hw1 e1 e2 e3
    subst e1 e2
    unfold s_Mo_findPlateaus_51
    dsimp only
    refine ok_bind (h_next hn hno.1 hw1) (fun r hrr => ?_)
    rcases hrr with ⟨q1, q2, q3⟩ | ⟨i, q1, q2, q3⟩
    · have eK := isLast_uniq ⟨hno, q2⟩ hK
      subst eK
      exact ok_t q1 (hexit _ ⟨g, hg, hgn, rfl, rfl, e3⟩)
    · have hj1 := isNo_s hno q1
      rw [← en_s q1] at q3
      refine ok_f (by rw [q2]; exact n1_0) (ok_bind (hj hj1 q3) (fun r63 h63 => ?_))
      rw [h63.1, h63.2]
      have aj := smalJ sA1 (j + 1)
      have ag := smalJ sA1 g
      have bj := smalJ sB1 (j + 1)
      have bg := smalJ sB1 g
      refine ok_jn (fun _ => G0 A B (j + 1) g) (fun kk hkk => ?_) (fun _ hG => ?_)
      · have keep : ¬ G0 A B (j + 1) g → ok (back (jZ (A g), jZ (B g), jZ (A (j + 1)), jZ (B (j + 1)), sh1, r63.2.2.2, r63.2.2.1, r.2)) _ := fun z => hback _ ⟨hj1, q3, g, by rw [sg_s, hg, sgs_sn z], hgn, rfl, rfl, e3⟩
        by_cases z1 : A g < A (j + 1)
        · exact ok_t ((jZ_lt ag aj).mpr z1) (hkk () (Or.inl z1))
        · refine ok_f (fun z => z1 ((jZ_lt ag aj).mp z)) ?_
          by_cases z2 : A (j + 1) = A g
          · refine ok_t (by rw [z2]) ?_
            by_cases z3 : B (j + 1) < B g
            · exact ok_f (fun z => by have := (jZ_le bg bj).mp z; omega) (hkk () (Or.inr ⟨z2, z3⟩))
            · exact ok_t ((jZ_le bg bj).mpr (by omega)) (keep (fun z => by unfold G0 at z; omega))
          · exact ok_f (fun z => z2 ((jZ_eq aj ag).mp z)) (keep (fun z => by unfold G0 at z; omega))
      · exact ok_bind (h_copy hn) (fun r112 h112 => hback _ ⟨hj1, q3, j + 1, by rw [sg_s, hg, sgs_sy hG], hj1, rfl, rfl, fun u hu => (h112.1 u hu).trans (q3 u hu)⟩)
  · rintro ⟨oA, oB, a1, b1, sh1, sz1, sm1, w1⟩ ⟨f0, hf0, hno0, e1, e2, e3⟩
    dsimp only at e1 e2 e3 ⊢
    subst e1 e2
    refine ok_bind (h_show (p := en n f0) hn (by omega) nI_lit0 (fun i hi => ⟨by have := rgs_le hno0.1 hi; omega, e3 i hi⟩)) (fun r125 h125 => ok_t (by decide +kernel) ?_)
    have t0 : (0 : Int32).toNatClampNeg = 0 := by decide +kernel
    rw [t0]
    refine ok_loop
      (fun st => (st.2.2.1 = 1 ∧ ∃ s f, s + 1 ≤ 1801 ∧ st.2.2.2.2.2.2.2.2.1 = nI (s + 1) ∧ pl A B (K + 1) s = some f ∧ st.1 = jZ (A f) ∧ st.2.1 = jZ (B f) ∧ rS n A B (K + 1) (s + 1) st.2.2.2.2.2.1 st.2.2.2.2.2.2.1 st.2.2.2.2.2.2.2.2.2.2.1) ∨
        (st.2.2.1 = 0 ∧ plR n A B K st.2.2.2.2.2.2.2.2.1 st.2.2.2.2.2.1 st.2.2.2.2.2.2.1 st.2.2.2.2.2.2.2.2.2.2.1))
      (fun st => plR n A B K st.2.2.2.2.2.2.2.2.1 st.2.2.2.2.2.1 st.2.2.2.2.2.2.1 st.2.2.2.2.2.2.2.2.2.2.1)
      (fun st => if st.2.2.1 = 0 then 0 else 1803 - st.2.2.2.2.2.2.2.2.1.toNatClampNeg) ?_ ?_ ?_ ?_
    · rintro ⟨oA, oB, more, a1, b1, ab1, be1, fd1, cnt, sh1, so1, sz1, sm1, wk1⟩ back exit hI hback hexit
      unfold s_Mo_findPlateaus_145
      dsimp only at hI hback hexit ⊢
      rcases hI with ⟨rfl, s, f, hs, rfl, hf, rfl, rfl, hrS⟩ | ⟨rfl, h⟩
      · refine ok_f n1_0 ?_
        have n1801 : (1801 : Int32) = nI 1801 := by decide +kernel
        by_cases e1801 : s + 1 = 1801
        · refine ok_t (by rw [n1801, e1801]; exact nI_le (Nat.le_refl _) (by omega)) (hexit _ ⟨s + 1, rS_isC hrS ?_, hs, rfl, hrS⟩)
          cases e : pl A B (K + 1) (s + 1) with
          | none => rfl
          | some g => have := pl_few hfew e; omega
        · refine ok_f (by rw [n1801]; exact le_nI (by omega) (by omega) (by omega)) (ok_bind (h_first hn) (fun w2 hw2 => ?_))
          have ba := sA1 f
          have bb := sB1 f
          refine ok_ghost 21149 0
            (fun j st => (st.2.2.2.2.2.1 = 1 ∧ isNo n j ∧ (∀ i, i < n → st.2.2.2.2.2.2.2.2.2.2.2 i = nI (en n j i)) ∧ rf n A B (A f) (B f) (sg (F1 B (B f)) (G1 A B (A f) (B f)) j) st.1 st.2.1 st.2.2.1 st.2.2.2.1 st.2.2.2.2.1 st.2.2.2.2.2.2.2.2.1) ∨
              (st.2.2.2.2.2.1 = 0 ∧ j = K + 1 ∧ rf n A B (A f) (B f) (pl A B (K + 1) (s + 1)) st.1 st.2.1 st.2.2.1 st.2.2.2.1 st.2.2.2.2.1 st.2.2.2.2.2.2.2.2.1))
            (fun st => rf n A B (A f) (B f) (pl A B (K + 1) (s + 1)) st.1 st.2.1 st.2.2.1 st.2.2.2.1 st.2.2.2.2.1 st.2.2.2.2.2.2.2.2.1) ?_ ?_ (fun j st h => ?_) (Or.inl ⟨rfl, isNo_0 n, hw2, Or.inl ⟨rfl, rfl⟩⟩) (FU_big (by omega))
          · rintro j ⟨mo, x1, y1, nA, nB, wl, a2, b2, fd2, sz2, sm2, wk2⟩ back2 exit2 hI2 hb2 he2
            unfold s_Mo_findPlateaus_182
            dsimp only at hI2 hb2 he2 ⊢
            rcases hI2 with ⟨rfl, hno, hwk, hrf⟩ | ⟨rfl, _, hrf⟩
            · refine ok_f n1_0 (ok_bind (hj hno hwk) (fun r192 h192 => ?_))
              rw [h192.1, h192.2]
              have bj := smalJ sB1 j
              simp only [← jZ_sub]
              have hdn : jZ (B f - B j) ≤ 0 ↔ ¬ B j < B f := by
                rw [jZ0, jZ_le (inJ_bd (bd_sub bb (sB1 j)) (by decide)) ⟨by omega, by omega⟩]
                omega
              generalize hrr : sg (F1 B (B f)) (G1 A B (A f) (B f)) j = rr at hrf
              refine ok_jn (fun t => (t = 1 ∧ B j < B f ∧ ∀ g, rr = some g → (A f - A j) * (B f - B g) < (A f - A g) * (B f - B j)) ∨ (t = 0 ∧ ¬ (B j < B f ∧ ∀ g, rr = some g → (A f - A j) * (B f - B g) < (A f - A g) * (B f - B j)))) (fun j242 h242 => ?_) (fun t1 ht1 => ?_)
              · refine ok_jn (fun _ => ¬ (B j < B f ∧ ∀ g, rr = some g → (A f - A j) * (B f - B g) < (A f - A g) * (B f - B j))) (fun j241 h241 => ?_) (fun _ z => h242 _ (Or.inr ⟨rfl, z⟩))
                by_cases z0 : B j < B f
                · refine ok_f (fun z => hdn.mp z z0) ?_
                  refine ok_jn (fun _ => ∀ g, rr = some g → (A f - A j) * (B f - B g) < (A f - A g) * (B f - B j)) (fun j237 h237 => ?_) (fun _ z => h242 _ (Or.inl ⟨rfl, z0, z⟩))
                  rcases hrf with ⟨rfl, rfl⟩ | ⟨g, rfl, _, rfl, rfl, rfl, rfl, rfl, _⟩
                  · exact ok_t rfl (h237 () (fun g z => by cases z))
                  · refine ok_f n1_0 ?_
                    simp only [← jZ_mul]
                    have p1 := prodJ sA1 sB1 ba bb j g
                    have p2 := prodJ sA1 sB1 ba bb g j
                    by_cases z1 : (A f - A j) * (B f - B g) < (A f - A g) * (B f - B j)
                    · exact ok_f (fun z => by have := (jZ_le p2 p1).mp z; omega) (h237 () (fun g' z => by cases z; exact z1))
                    · exact ok_t ((jZ_le p2 p1).mpr (by omega)) (h241 () (fun z => z1 (z.2 g rfl)))
                · exact ok_t (hdn.mpr z0) (h241 () (fun z => z0 z.1))
              · refine ok_jn (fun t => (t = 1 ∧ B j < B f ∧ ∃ g, rr = some g ∧ (A f - A j) * (B f - B g) = (A f - A g) * (B f - B j) ∧ B j < B g) ∨ (t = 0 ∧ ¬ (B j < B f ∧ ∃ g, rr = some g ∧ (A f - A j) * (B f - B g) = (A f - A g) * (B f - B j) ∧ B j < B g))) (fun j285 h285 => ?_) (fun t2 ht2 => ?_)
                · refine ok_jn (fun _ => ¬ (B j < B f ∧ ∃ g, rr = some g ∧ (A f - A j) * (B f - B g) = (A f - A g) * (B f - B j) ∧ B j < B g)) (fun j284 h284 => ?_) (fun _ z => h285 _ (Or.inr ⟨rfl, z⟩))
                  by_cases z0 : B j < B f
                  · refine ok_f (fun z => hdn.mp z z0) ?_
                    rcases hrf with ⟨rfl, rfl⟩ | ⟨g, rfl, _, rfl, rfl, rfl, rfl, rfl, _⟩
                    · exact ok_t rfl (h284 () (fun ⟨_, g, z, _⟩ => by cases z))
                    · refine ok_f n1_0 ?_
                      simp only [← jZ_mul]
                      have p1 := prodJ sA1 sB1 ba bb j g
                      have p2 := prodJ sA1 sB1 ba bb g j
                      have bg := smalJ sB1 g
                      by_cases z1 : (A f - A j) * (B f - B g) = (A f - A g) * (B f - B j)
                      · refine ok_t (by rw [z1]) ?_
                        by_cases z2 : B j < B g
                        · exact ok_f (fun z => by have := (jZ_le bg bj).mp z; omega) (h285 _ (Or.inl ⟨rfl, z0, g, rfl, z1, z2⟩))
                        · exact ok_t ((jZ_le bg bj).mpr (by omega)) (h284 () (fun ⟨_, g', z, _, z3⟩ => by cases z; exact z2 z3))
                      · exact ok_f (fun z => z1 ((jZ_eq p1 p2).mp z)) (h284 () (fun ⟨_, g', z, z3, _⟩ => by cases z; exact z1 z3))
                  · exact ok_t (hdn.mpr z0) (h284 () (fun z => z0 z.1))
                · refine ok_jn (fun st => rf n A B (A f) (B f) (sg (F1 B (B f)) (G1 A B (A f) (B f)) (j + 1)) st.2.2.2.2.1 st.2.2.2.1 st.2.2.1 st.2.1 st.1 st.2.2.2.2.2) (fun j332 h332 => ?_) (fun st hst => ?_)
                  · refine ok_jn (fun _ => sgs (F1 B (B f)) (G1 A B (A f) (B f)) rr j = some j) (fun j297 h297 => ?_) (fun _ z => ok_bind (h_copy hn) (fun r329 h329 => h332 _ (Or.inr ⟨j, by rw [sg_s, hrr, z], hno, rfl, rfl, rfl, rfl, rfl, fun i hi => (h329.1 i hi).trans (hwk i hi)⟩)))
                    rcases ht1 with ⟨rfl, z1, z2⟩ | ⟨rfl, z1⟩
                    · refine ok_f n1_0 (h297 () ?_)
                      cases rr with
                      | none => exact sgs_ny z1
                      | some g => exact sgs_sy ⟨z1, Or.inl (z2 g rfl)⟩
                    · refine ok_t rfl ?_
                      rcases ht2 with ⟨rfl, z2, g, rfl, z3, z4⟩ | ⟨rfl, z2⟩
                      · exact ok_f n1_0 (h297 () (sgs_sy ⟨z2, Or.inr ⟨z3, z4⟩⟩))
                      · refine ok_t rfl (h332 _ ?_)
                        dsimp only
                        have : sgs (F1 B (B f)) (G1 A B (A f) (B f)) rr j = rr := by
                          cases rr with
                          | none => exact sgs_nn (fun z => z1 ⟨z, fun g q => by cases q⟩)
                          | some g =>
                            refine sgs_sn (fun z => ?_)
                            rcases z.2 with q | q
                            · exact z1 ⟨z.1, fun g' q' => by cases q'; exact q⟩
                            · exact z2 ⟨z.1, g, rfl, q.1, q.2⟩
                        rw [sg_s, hrr, this]
                        exact hrf
                  · refine ok_bind (h_next hn hno.1 hwk) (fun r333 h333 => hb2 _ ?_)
                    rcases h333 with ⟨q1, q2, q3⟩ | ⟨i, q1, q2, q3⟩
                    · have eK := isLast_uniq ⟨hno, q2⟩ hK
                      subst eK
                      refine Or.inr ⟨q1, rfl, ?_⟩
                      rw [pl_s hf]
                      exact hst
                    · rw [← en_s q1] at q3
                      exact Or.inl ⟨q2, isNo_s hno q1, q3, hst⟩
            · exact ok_t rfl (he2 _ hrf)
          · rintro ⟨mo, x1, y1, nA, nB, wl, a2, b2, fd2, sz2, sm2, wk2⟩ hrf
            dsimp only at hrf ⊢
            rcases hrf with ⟨hpn, rfl⟩ | ⟨g, hpg, hgn, rfl, rfl, rfl, rfl, rfl, hfd⟩
            · refine ok_t rfl (hback _ (Or.inr ⟨rfl, s + 1, rS_isC hrS hpn, hs, rfl, hrS⟩) ?_)
              dsimp only
              rw [if_pos rfl, if_neg n1_0, nI_clamp (by omega)]
              omega
            · refine ok_f n1_0 (ok_bind (h_copy hn) (fun r361 h361 => ok_bind (h_show (s := s + 1) (p := en n g) hn (by omega) rfl (fun i hi => ⟨by have := rgs_le hgn.1 hi; omega, (h361.1 i hi).trans (hfd i hi)⟩)) (fun r369 h369 => ok_t (inb_nI (by omega) (by omega)) (hback _ (Or.inl ⟨rfl, s + 1, g, by omega, nI_add1 (s + 1), hpg, rfl, rfl, ?_⟩) ?_))))
              · dsimp only
                rw [nI_clamp (show s + 1 < 2 ^ 31 by omega)]
                obtain ⟨t1, t2, _, _, _⟩ := tb_num sA1 sB1 hf hpg
                rw [← jZ_sub] at t1 t2
                exact rS_s hrS (fun u hu => ⟨pk_uLn (by omega), pk_uLn (by omega), h369.2 u (by omega)⟩) hpg hgn (pk_uLs.trans t1) (pk_uLs.trans t2) h369.1
              · dsimp only
                rw [if_neg n1_0, if_neg n1_0, nI_add1, nI_clamp (by omega), nI_clamp (by omega)]
                omega
          · rcases h with ⟨_, h, _⟩ | ⟨_, h, _⟩
            · have := isNo_lt hn h; omega
            · have := isNo_lt hn hK.1; omega
      · exact ok_t rfl (hexit _ h)
    · rintro ⟨oA, oB, more, a1, b1, ab1, be1, fd1, cnt, sh1, so1, sz1, sm1, wk1⟩ h
      exact ok_some ⟨rfl, h⟩
    · refine Or.inl ⟨rfl, 0, f0, by omega, nI_lit1, hf0, rfl, rfl, fun s hs => ?_⟩
      rw [show s = 0 by omega]
      have z1 : vp_updL ab 0 (0 : Int64) 0 = lN (tb A B (K + 1) 0).1 := by rw [pk_uLs]; rfl
      have z2 : vp_updL be 0 (1 : Int64) 0 = lN (tb A B (K + 1) 0).2 := by rw [pk_uLs]; rfl
      exact ⟨⟨f0, hf0, hno0, h125.1⟩, z1, z2⟩
    · refine FU_big ?_
      dsimp only
      rw [if_neg n1_0]
      omega
