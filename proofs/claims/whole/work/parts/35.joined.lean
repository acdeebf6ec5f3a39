/-! groups that hang together -/
def clo (R : Nat → Nat → Prop) (P : Nat → Prop) (n v w : Nat) : Prop := ∀ X : Nat → Prop, (∀ a b, a < n → b < n → X a → R a b → P b → X b) → X v → X w
theorem clo_refl {R : Nat → Nat → Prop} {P : Nat → Prop} {n v : Nat} : clo R P n v v := fun _ _ h => h
theorem clo_step {R : Nat → Nat → Prop} {P : Nat → Prop} {n v a b : Nat} (h : clo R P n v a) (ha : a < n) (hb : b < n) (hR : R a b) (hP : P b) : clo R P n v b := fun X hX hv => hX a b ha hb (h X hX hv) hR hP
theorem clo_trans {R : Nat → Nat → Prop} {P : Nat → Prop} {n v a b : Nat} (h1 : clo R P n v a) (h2 : clo R P n a b) : clo R P n v b := fun X hX hv => h2 X hX (h1 X hX hv)
theorem clo_sym {R : Nat → Nat → Prop} {P : Nat → Prop} {n v w : Nat} (hs : ∀ a b, R a b → R b a) (hP : P v) (h : clo R P n v w) : clo R P n w v :=
  (h (fun u => P u ∧ clo R P n u v) (fun _ _ ha hb hX hR hPb => ⟨hPb, clo_trans (clo_step clo_refl hb ha (hs _ _ hR) hX.1) hX.2⟩) ⟨hP, clo_refl⟩).2
/-- how many bits -/
def pc (m : Nat) : Nat → Nat
  | 0 => 0
  | n + 1 => pc m n + (if m.testBit n = true then 1 else 0)
theorem pc_s (m n : Nat) : pc m (n + 1) = pc m n + (if m.testBit n = true then 1 else 0) := rfl
theorem pc_le (m : Nat) : ∀ n, pc m n ≤ n
  | 0 => Nat.le_refl _
  | n + 1 => by
    have := pc_le m n
    rw [pc_s]
    split <;> omega
theorem pc_mono {a b : Nat} : ∀ {n : Nat}, (∀ i, i < n → a.testBit i = true → b.testBit i = true) → pc a n ≤ pc b n
  | 0, _ => Nat.le_refl _
  | n + 1, h => by
    have h1 := pc_mono (a := a) (b := b) (n := n) (fun i hi => h i (by omega))
    rw [pc_s, pc_s]
    by_cases e : a.testBit n = true
    · rw [if_pos e, if_pos (h n (by omega) e)]; omega
    · rw [if_neg e]; omega
theorem pc_lt {a b : Nat} : ∀ {n : Nat}, (∀ i, i < n → a.testBit i = true → b.testBit i = true) → (∃ i, i < n ∧ b.testBit i = true ∧ ¬ a.testBit i = true) → pc a n < pc b n
  | 0, _, ⟨_, h, _⟩ => absurd h (Nat.not_lt_zero _)
  | n + 1, h, ⟨i, hi, h1, h2⟩ => by
    rw [pc_s, pc_s]
    by_cases e : i = n
    · subst e
      have := pc_mono (a := a) (b := b) (n := i) (fun j hj => h j (by omega))
      rw [if_neg h2, if_pos h1]; omega
    · have := pc_lt (a := a) (b := b) (n := n) (fun j hj => h j (by omega)) ⟨i, by omega, h1, h2⟩
      by_cases e : a.testBit n = true
      · rw [if_pos e, if_pos (h n (by omega) e)]; omega
      · rw [if_neg e]; omega
theorem pc_full {m : Nat} : ∀ {n : Nat}, n ≤ pc m n → ∀ i, i < n → m.testBit i = true
  | 0, _, _, h => absurd h (Nat.not_lt_zero _)
  | n + 1, h, i, hi => by
    rw [pc_s] at h
    have h1 := pc_le m n
    by_cases e : m.testBit n = true
    · rw [if_pos e] at h
      by_cases e2 : i = n
      · subst e2; exact e
      · exact pc_full (n := n) (by omega) i (by omega)
    · rw [if_neg e] at h; omega
theorem eq512 {a b : Nat} (ha : a < 512) (hb : b < 512) (h : ∀ i, i < 9 → (a.testBit i = true ↔ b.testBit i = true)) : a = b := by
  apply Nat.eq_of_testBit_eq
  intro i
  rcases Nat.lt_or_ge i 9 with h1 | h1
  · exact Bool.eq_iff_iff.mpr (h i h1)
  · have e : 512 ≤ 2 ^ i := Nat.le_trans (show 512 ≤ 2 ^ 9 by decide) (Nat.pow_le_pow_right (by omega) h1)
    rw [Nat.testBit_lt_two_pow (by omega), Nat.testBit_lt_two_pow (by omega)]
theorem ne512 {a b : Nat} (ha : a < 512) (hb : b < 512) (h : a ≠ b) (hs : ∀ i, i < 9 → a.testBit i = true → b.testBit i = true) : ∃ i, i < 9 ∧ b.testBit i = true ∧ ¬ a.testBit i = true := by
  apply Classical.byContradiction
  intro q
  exact h (eq512 ha hb (fun i hi => ⟨hs i hi, fun hb2 => Classical.byContradiction (fun q2 => q ⟨i, hi, hb2, q2⟩)⟩))
theorem bit9z {m k : Nat} (hm : m < 512) (hk : k < 9) : ((nI m >>> (nI k &&& 31)) &&& 1) = 0 ↔ ¬ m.testBit k = true := by
  rw [pk_shrN (by omega) (nI k &&& 31) k (shr9 k hk), nI_lit1, nI_and, Nat.and_one_is_mod, nI_lit0, nI_eq (by omega) (by omega), Nat.testBit_eq_decide_div_mod_eq, decide_eq_true_eq]
  omega
theorem low9 : ∀ M : Nat, M < 512 → M = 0 ∨ ∃ f, f < 9 ∧ M.testBit f = true ∧ (nI M &&& (-(nI M))) = nI (2 ^ f) := by decide +kernel
/-- what is reached of a group from f -/
def rchd (R : Nat → Nat → Prop) (P : Nat → Prop) (n f m : Nat) : Prop := m < 512 ∧ m.testBit f = true ∧ ∀ w, w < 9 → m.testBit w = true → w < n ∧ P w ∧ clo R P n f w
def clsd (R : Nat → Nat → Prop) (P : Nat → Prop) (n m : Nat) : Prop := ∀ a b, a < n → b < n → m.testBit a = true → R a b → P b → m.testBit b = true
theorem clsd_all {R : Nat → Nat → Prop} {P : Nat → Prop} {n f m w : Nat} (h : rchd R P n f m) (hc : clsd R P n m) (hw : clo R P n f w) : m.testBit w = true := hw (fun u => m.testBit u = true) hc h.2.1
theorem h_hang {n M : Nat} {near : Nat → Int32} {R : Nat → Nat → Prop} {P : Nat → Prop} (hn : n ≤ 9) (hM : M < 512) (h0 : ¬ M = 0) (hP : ∀ i, i < 9 → (M.testBit i = true ↔ i < n ∧ P i)) (hnear : ∀ c, c < 9 → ∃ m, m < 512 ∧ near c = nI m ∧ ∀ d, d < 9 → (m.testBit d = true ↔ R c d)) :
    ok (m_Ga_hangTogether (nI n) near (nI M)) (fun r => ∃ f, f < n ∧ P f ∧ ((r = 1 ∧ ∀ w, w < n → P w → clo R P n f w) ∨ (r = 0 ∧ ∃ w, w < n ∧ P w ∧ ¬ clo R P n f w))) := by
  obtain ⟨f, hf, hfM, ef⟩ := (low9 M hM).resolve_left h0
  have hfn := (hP f hf).mp hfM
  unfold m_Ga_hangTogether
  rw [ef]
  refine ok_cnt n 1 (fun j st => ∃ m, rchd R P n f m ∧ st.1 = nI m ∧ st.2 = nI j ∧ (clsd R P n m ∨ j ≤ pc m n)) ?_ ?_ ?_ ?_ (by omega) (FU_big (by omega))
  · rintro j ⟨x, y⟩ back exit hj ⟨m, hm, e1, e2, hc⟩ hback
    dsimp only at e1 e2
    subst e1 e2
    unfold s_Ga_hangTogether_7
    dsimp only
    refine ok_f (le_nI (by omega) (by omega) hj) ?_
    refine ok_cnt n 0 (fun i st => ∃ m', rchd R P n f m' ∧ st.1 = nI m' ∧ st.2 = nI i ∧ (∀ w, w < 9 → m.testBit w = true → m'.testBit w = true) ∧ (m' = m → ∀ a b, a < i → b < n → m.testBit a = true → R a b → P b → m.testBit b = true)) ?_ ?_ ?_ ⟨m, hm, rfl, nI_lit0, fun _ _ h => h, fun _ a b ha => absurd ha (Nat.not_lt_zero _)⟩ (Nat.zero_le n) (FU_big (by omega))
    · rintro i ⟨x, y⟩ back2 exit2 hi ⟨m', hm', e1, e2, hs, hq⟩ hb2
      dsimp only at e1 e2
      subst e1 e2
      unfold s_Ga_hangTogether_18
      dsimp only
      refine ok_f (le_nI (by omega) (by omega) hi) ?_
      by_cases hb : m'.testBit i = true
      · refine ok_t ((bit9 hm'.1 (by omega)).mpr hb) (ok_t (inb_nI (by omega) (by omega)) (hb2 _ ?_))
        rw [nI_clamp (by omega)]
        obtain ⟨mi, hmi, emi, hR⟩ := hnear i (by omega)
        rw [emi, nI_and, nI_or]
        have hi2 := hm'.2.2 i (by omega) hb
        refine ⟨m' ||| (mi &&& M), ⟨or512 hm'.1 (and512 hmi), tb_or.mpr (Or.inl hm'.2.1), fun w hw q => ?_⟩, rfl, nI_add1 i, fun w hw q => tb_or.mpr (Or.inl (hs w hw q)), fun q a b ha hbn q1 q2 q3 => ?_⟩
        · rcases tb_or.mp q with q | q
          · exact hm'.2.2 w hw q
          · have q2 := tb_and.mp q
            have q3 := (hP w hw).mp q2.2
            exact ⟨q3.1, q3.2, clo_step hi2.2.2 hi q3.1 ((hR w hw).mp q2.1) q3.2⟩
        · have em : m' = m := eq512 hm'.1 hm.1 (fun w hw => ⟨fun z => by rw [← q]; exact tb_or.mpr (Or.inl z), hs w hw⟩)
          by_cases e : a = i
          · subst e
            rw [← q]
            exact tb_or.mpr (Or.inr (tb_and.mpr ⟨(hR b (by omega)).mpr q2, (hP b (by omega)).mpr ⟨hbn, q3⟩⟩))
          · exact hq em a b (by omega) hbn q1 q2 q3
      · refine ok_f (fun z => hb ((bit9 hm'.1 (by omega)).mp z)) (hb2 _ ⟨m', hm', rfl, nI_add1 i, hs, fun q a b ha hbn q1 q2 q3 => ?_⟩)
        by_cases e : a = i
        · subst e
          rw [q] at hb
          exact absurd q1 hb
        · exact hq q a b (by omega) hbn q1 q2 q3
    · rintro ⟨x, y⟩ back2 exit2 ⟨m', hm', e1, e2, h⟩ he2
      dsimp only at e1 e2
      subst e1 e2
      unfold s_Ga_hangTogether_18
      dsimp only
      exact ok_t (nI_le (Nat.le_refl n) (by omega)) (he2 _ ⟨m', hm', rfl, rfl, h⟩)
    · rintro ⟨x, y⟩ ⟨m', hm', e1, e2, hs, hq⟩
      dsimp only at e1 e2
      subst e1 e2
      refine hback _ ⟨m', hm', rfl, nI_add1 j, ?_⟩
      by_cases e : m' = m
      · subst e; exact Or.inl (hq rfl)
      · rcases hc with hc | hc
        · exact absurd (eq512 hm'.1 hm.1 (fun w hw => ⟨fun z => clsd_all hm hc (hm'.2.2 w hw z).2.2, hs w hw⟩)) e
        · refine Or.inr ?_
          obtain ⟨w, hw, w1, w2⟩ := ne512 hm.1 hm'.1 (fun z => e z.symm) hs
          have := pc_lt (n := n) (fun i hi => hs i (by omega)) ⟨w, (hm'.2.2 w hw w1).1, w1, w2⟩
          omega
  · rintro ⟨x, y⟩ back exit ⟨m, hm, e1, e2, h⟩ hexit
    dsimp only at e1 e2
    subst e1 e2
    unfold s_Ga_hangTogether_7
    dsimp only
    exact ok_t (nI_le (Nat.le_refl n) (by omega)) (hexit _ ⟨m, hm, rfl, rfl, h⟩)
  · rintro ⟨x, y⟩ ⟨m, hm, e1, e2, hc⟩
    dsimp only at e1 e2 ⊢
    subst e1 e2
    have hcl : clsd R P n m := by
      rcases hc with hc | hc
      · exact hc
      · exact fun a b _ hb _ _ _ => pc_full hc b hb
    have h512 := hm.1
    by_cases e : m = M
    · refine ok_t (by rw [e]) (ok_some ⟨f, hfn.1, hfn.2, Or.inl ⟨rfl, fun w hw hPw => ?_⟩⟩)
      exact (hm.2.2 w (by omega) (by rw [e]; exact (hP w (by omega)).mpr ⟨hw, hPw⟩)).2.2
    · refine ok_f (fun z => e (nI_inj (by omega) (by omega) z)) (ok_some ⟨f, hfn.1, hfn.2, Or.inr ⟨rfl, ?_⟩⟩)
      obtain ⟨w, hw, w1, w2⟩ := ne512 hm.1 hM e (fun i hi z => (hP i hi).mpr ⟨(hm.2.2 i hi z).1, (hm.2.2 i hi z).2.1⟩)
      have w3 := (hP w hw).mp w1
      exact ⟨w, w3.1, w3.2, fun z => w2 (clsd_all hm hcl z)⟩
  · refine ⟨2 ^ f, ⟨pow512 hf, tb_pow.mpr rfl, fun w hw q => ?_⟩, rfl, nI_lit1, Or.inr ?_⟩
    · have e := tb_pow.mp q
      subst e
      exact ⟨hfn.1, hfn.2, clo_refl⟩
    · have := pc_lt (a := 0) (b := 2 ^ f) (n := n) (fun i _ q => by simp at q) ⟨f, hfn.1, tb_pow.mpr rfl, by simp⟩
      omega
theorem h_members {n g : Nat} {gr : Nat → Int32} {p : Nat → Nat} (hn : n ≤ 9) (hgb : g < 100) (hg : ∀ i, i < n → p i < 100 ∧ gr i = nI (p i)) :
    ok (m_Pa_membersOf (nI n) gr (nI g)) (fun r => ∃ M, M < 512 ∧ r = nI M ∧ ∀ i, i < 9 → (M.testBit i = true ↔ i < n ∧ p i = g)) := by
  unfold m_Pa_membersOf
  refine ok_cnt n 0 (fun j st => st.2 = nI j ∧ ∃ M, M < 512 ∧ st.1 = nI M ∧ ∀ i, i < 9 → (M.testBit i = true ↔ i < j ∧ p i = g)) ?_ ?_ ?_ ⟨nI_lit0, 0, by omega, nI_lit0, fun i hi => ⟨fun q => by simp at q, fun q => absurd q.1 (Nat.not_lt_zero _)⟩⟩ (Nat.zero_le n) (FU_big (by omega))
  · rintro j ⟨x, y⟩ back exit hj ⟨e, M, hM, e2, h⟩ hback
    dsimp only at e e2
    subst e e2
    unfold s_Pa_membersOf_4
    dsimp only
    refine ok_f (le_nI (by omega) (by omega) hj) (ok_t (inb_nI (by omega) (by omega)) ?_)
    rw [nI_clamp (by omega), (hg j hj).2]
    have hpj := (hg j hj).1
    by_cases e : p j = g
    · refine ok_t (by rw [e]) (hback _ ⟨nI_add1 j, M ||| 2 ^ j, or512 hM (pow512 (by omega)), ?_, fun i hi => ?_⟩)
      · show nI M ||| _ = _
        rw [sh1 j (by omega), nI_or]
      · rw [tb_or, tb_pow, h i hi]
        constructor
        · rintro (q | q)
          · exact ⟨by omega, q.2⟩
          · subst q; exact ⟨by omega, e⟩
        · rintro ⟨q1, q2⟩
          by_cases e2 : j = i
          · exact Or.inr e2
          · exact Or.inl ⟨by omega, q2⟩
    · refine ok_f (fun z => e (nI_inj (by omega) (by omega) z)) (hback _ ⟨nI_add1 j, M, hM, rfl, fun i hi => ?_⟩)
      rw [h i hi]
      constructor
      · rintro ⟨q1, q2⟩; exact ⟨by omega, q2⟩
      · rintro ⟨q1, q2⟩
        by_cases e2 : j = i
        · subst e2; exact absurd q2 e
        · exact ⟨by omega, q2⟩
  · rintro ⟨x, y⟩ back exit ⟨e, h⟩ hexit
    dsimp only at e h
    subst e
    unfold s_Pa_membersOf_4
    dsimp only
    exact ok_t (nI_le (Nat.le_refl n) (by omega)) (hexit _ ⟨rfl, h⟩)
  · rintro ⟨x, y⟩ ⟨e, h⟩
    exact ok_some h
/-- the document's: every group hangs together -/
def allj (R : Nat → Nat → Prop) (n : Nat) (p : Nat → Nat) : Prop := ∀ v w, v < n → w < n → p w = p v → clo R (fun u => p u = p v) n v w
theorem h_cjoined {n c : Nat} {near gr : Nat → Int32} {R : Nat → Nat → Prop} {p : Nat → Nat} (hn : n ≤ 9) (hs : ∀ a b, R a b → R b a) (hg : ∀ i, i < n → p i < c ∧ gr i = nI (p i)) (hc : c ≤ n) (hsu : ∀ g, g < c → ∃ i, i < n ∧ p i = g) (hnear : ∀ c, c < 9 → ∃ m, m < 512 ∧ near c = nI m ∧ ∀ d, d < 9 → (m.testBit d = true ↔ R c d)) :
    ok (m_MG_joined (nI n) near (nI n) (nI c) gr) (fun r => (r = 1 ∧ allj R n p) ∨ (r = 0 ∧ ¬ allj R n p)) := by
  unfold m_MG_joined
  refine ok_cnt c 0 (fun g st => st = nI g ∧ ∀ v w, v < n → w < n → p v < g → p w = p v → clo R (fun u => p u = p v) n v w) ?_ ?_ ?_ ⟨nI_lit0, fun _ _ _ _ h => absurd h (Nat.not_lt_zero _)⟩ (Nat.zero_le c) (FU_big (by omega))
  · rintro g st back exit hg1 ⟨e, h⟩ hback
    subst e
    unfold s_MG_joined_2
    refine ok_f (le_nI (by omega) (by omega) hg1) (ok_bind (h_members hn (by omega) (fun i hi => ⟨by have := (hg i hi).1; omega, (hg i hi).2⟩)) (fun r hr => ?_))
    obtain ⟨M, hM, e, hb⟩ := hr
    subst e
    have h0 : ¬ M = 0 := fun z => by
      obtain ⟨i, hi, hp⟩ := hsu g hg1
      have := (hb i (by omega)).mpr ⟨hi, hp⟩
      rw [z] at this
      simp at this
    refine ok_bind (h_hang (P := fun u => p u = g) hn hM h0 hb hnear) (fun r2 hr2 => ?_)
    obtain ⟨f, hf, hPf, hr2⟩ := hr2
    rcases hr2 with ⟨rfl, h2⟩ | ⟨rfl, w, hw, hPw, h2⟩
    · refine ok_f n1_0 (hback _ ⟨nI_add1 g, fun v w hv hw hlt hpw => ?_⟩)
      by_cases e : p v = g
      · subst e
        exact clo_trans (clo_sym hs hPf (h2 v hv rfl)) (h2 w hw hpw)
      · exact h v w hv hw (by omega) hpw
    · refine ok_t rfl (ok_some (Or.inr ⟨rfl, fun z => h2 ?_⟩))
      have := z f w hf hw (by rw [hPw, hPf])
      rw [hPf] at this
      exact this
  · rintro st back exit ⟨e, h⟩ hexit
    subst e
    unfold s_MG_joined_2
    exact ok_t (nI_le (Nat.le_refl c) (by omega)) (hexit _ ⟨rfl, h⟩)
  · rintro st ⟨e, h⟩
    exact ok_some (Or.inl ⟨rfl, fun v w hv hw => h v w hv hw (hg v hv).1⟩)
theorem h_rjoined {n k : Nat} {man : Int32} {fr to : Nat → Nat} {wt : Nat → Int} {ones others weights there hand bt jo has : Nat → Int32} {p : Nat → Nat} (hn : n ≤ 9) (hk : k ≤ 36) (hr : rarc k fr to wt ones others weights there) (hg : ∀ i, i < n → p i < 100 ∧ hand i = nI (p i)) :
    ok (m_Mo_joined man (nI n) (nI k) ones others weights there hand bt jo has) (fun o => (o.1 = 1 ∧ allj (fun a b => nr man fr to wt a b k) n p) ∨ (o.1 = 0 ∧ ¬ allj (fun a b => nr man fr to wt a b k) n p)) := by
  unfold m_Mo_joined
  refine ok_bind (h_weigh hk hr) (fun r1 h1 => ?_)
  obtain ⟨-, -, hjo, -⟩ := h1
  generalize r1.2.2.1 = jo1 at hjo ⊢
  generalize hR : (fun a b => nr man fr to wt a b k) = R
  have hRR : ∀ a b, nr man fr to wt a b k = R a b := fun a b => by rw [← hR]
  simp only [hRR] at hjo
  refine ok_cnt n 0 (fun v st => st = nI v ∧ ∀ v' w, v' < v → w < n → p w = p v' → clo R (fun u => p u = p v') n v' w) ?_ ?_ ?_ ⟨nI_lit0, fun _ _ h => absurd h (Nat.not_lt_zero _)⟩ (Nat.zero_le n) (FU_big (by omega))
  · rintro v st back exit hv ⟨e, h⟩ hback
    subst e
    unfold s_Mo_joined_6
    refine ok_f (le_nI (by omega) (by omega) hv) ?_
    rw [sh1 v (by omega)]
    refine ok_loop (fun st => ∃ m b, rchd R (fun u => p u = p v) n v m ∧ b < 512 ∧ st.1 = nI m ∧ st.2 = nI b ∧ (m = b → clsd R (fun u => p u = p v) n m)) (fun st => ∃ m, rchd R (fun u => p u = p v) n v m ∧ st.1 = nI m ∧ clsd R (fun u => p u = p v) n m) (fun st => if st.1 = st.2 then 0 else 10 - pc st.1.toNatClampNeg 9) ?_ ?_ ?_ ?_
    · rintro ⟨x, y⟩ back2 exit2 ⟨m, b, hm, hb, e1, e2, hc⟩ hb2 he2
      dsimp only at e1 e2
      subst e1 e2
      have hm512 := hm.1
      unfold s_Mo_joined_20
      dsimp only at hb2 ⊢
      by_cases e : m = b
      · subst e
        exact ok_t rfl (he2 _ ⟨m, hm, rfl, hc rfl⟩)
      · have ene : ¬ nI m = nI b := fun z => e (nI_inj (by omega) (by omega) z)
        refine ok_f ene ?_
        rw [if_neg ene, nI_clamp (by omega)] at hb2
        refine ok_cnt n 0 (fun u st => st.2 = nI u ∧ ∃ m', rchd R (fun u => p u = p v) n v m' ∧ st.1 = nI m' ∧ (∀ w, w < 9 → m.testBit w = true → m'.testBit w = true) ∧ (m' = m → ∀ a b, a < u → b < n → m.testBit a = true → R a b → p b = p v → m.testBit b = true)) ?_ ?_ ?_ ⟨nI_lit0, m, hm, rfl, fun _ _ h => h, fun _ _ _ h => absurd h (Nat.not_lt_zero _)⟩ (Nat.zero_le n) (FU_big (by omega))
        · rintro u ⟨x, y⟩ back3 exit3 hu ⟨e1, m1, hm1, e2, hs1, hq1⟩ hb3
          dsimp only at e1 e2
          subst e1 e2
          unfold s_Mo_joined_30
          dsimp only
          refine ok_f (le_nI (by omega) (by omega) hu) ?_
          refine ok_cnt n 0 (fun w st => st.2 = nI w ∧ ∃ m', rchd R (fun u => p u = p v) n v m' ∧ st.1 = nI m' ∧ (∀ w, w < 9 → m1.testBit w = true → m'.testBit w = true) ∧ (m' = m1 → ∀ b, b < w → m1.testBit u = true → R u b → p b = p v → m1.testBit b = true)) ?_ ?_ ?_ ⟨nI_lit0, m1, hm1, rfl, fun _ _ h => h, fun _ _ h => absurd h (Nat.not_lt_zero _)⟩ (Nat.zero_le n) (FU_big (by omega))
          · rintro w ⟨x, y⟩ back4 exit4 hw ⟨e1, m2, hm2, e2, hs2, hq2⟩ hb4
            dsimp only at e1 e2
            subst e1 e2
            have hm2b := hm2.1
            unfold s_Mo_joined_42
            dsimp only
            refine ok_f (le_nI (by omega) (by omega) hw) ?_
            refine ok_jn (fun z => (z = 1 ∧ m2.testBit u = true ∧ R u w ∧ p w = p v) ∨ (z = 0 ∧ (m2.testBit u = true → R u w → p w = p v → False))) (fun k1 hk1 => ?_) (fun z hz => ?_)
            · refine ok_jn (fun _ => m2.testBit u = true → R u w → p w = p v → False) (fun k2 hk2 => ?_) (fun _ hz => hk1 _ (Or.inr ⟨rfl, hz⟩))
              by_cases hb : m2.testBit u = true
              · refine ok_t ((bit9 hm2b (by omega)).mpr hb) ?_
                rw [nI9, pk_mul, nI_add, nI_clamp (show 9 * u + w < 2 ^ 31 by omega), nI_clamp (show w < 2 ^ 31 by omega), nI_clamp (show v < 2 ^ 31 by omega), (hg w hw).2, (hg v hv).2]
                refine ok_t (inb_nI (by omega) (by omega)) ?_
                have hpw := (hg w hw).1
                have hpv := (hg v hv).1
                rcases hjo u w (by omega) (by omega) with ⟨ej, hj⟩ | ⟨ej, hj⟩
                · rw [ej]
                  refine ok_f n1_0 (ok_t (inb_nI (by omega) (by omega)) (ok_t (inb_nI (by omega) (by omega)) ?_))
                  by_cases ep : p w = p v
                  · exact ok_t (by rw [ep]) (hk1 _ (Or.inl ⟨rfl, hb, hj, ep⟩))
                  · exact ok_f (fun z => ep (nI_inj (by omega) (by omega) z)) (hk2 () (fun _ _ z => ep z))
                · rw [ej]
                  exact ok_t rfl (hk2 () (fun _ z _ => hj z))
              · exact ok_f (fun z => hb ((bit9 hm2b (by omega)).mp z)) (hk2 () (fun z _ _ => hb z))
            · rcases hz with ⟨rfl, z1, z2, z3⟩ | ⟨rfl, hz⟩
              · refine ok_f n1_0 (hb4 _ ⟨nI_add1 w, m2 ||| 2 ^ w, ⟨or512 hm2b (pow512 (by omega)), tb_or.mpr (Or.inl hm2.2.1), fun w' hw' q => ?_⟩, ?_, fun w' hw' q => tb_or.mpr (Or.inl (hs2 w' hw' q)), fun q b' hb' q1 q2 q3 => ?_⟩)
                · rcases tb_or.mp q with q | q
                  · exact hm2.2.2 w' hw' q
                  · have q := tb_pow.mp q
                    subst q
                    exact ⟨hw, z3, clo_step (hm2.2.2 u (by omega) z1).2.2 hu hw z2 z3⟩
                · show nI m2 ||| _ = _
                  rw [sh1 w (by omega), nI_or]
                · have em : m2 = m1 := eq512 hm2b hm1.1 (fun w' hw' => ⟨fun z => by rw [← q]; exact tb_or.mpr (Or.inl z), hs2 w' hw'⟩)
                  by_cases e : b' = w
                  · subst e
                    rw [← q]
                    exact tb_or.mpr (Or.inr (tb_pow.mpr rfl))
                  · exact hq2 em b' (by omega) q1 q2 q3
              · refine ok_t rfl (hb4 _ ⟨nI_add1 w, m2, hm2, ?_, hs2, fun q b' hb' q1 q2 q3 => ?_⟩)
                · show nI m2 ||| _ = _
                  rw [nI_lit0, nI_or, Nat.or_zero]
                · by_cases e : b' = w
                  · subst e
                    exact absurd q3 (fun z => hz (by rw [q]; exact q1) q2 z)
                  · exact hq2 q b' (by omega) q1 q2 q3
          · rintro ⟨x, y⟩ back4 exit4 ⟨e1, h4⟩ he4
            dsimp only at e1
            subst e1
            unfold s_Mo_joined_42
            dsimp only
            exact ok_t (nI_le (Nat.le_refl n) (by omega)) (he4 _ ⟨rfl, h4⟩)
          · rintro ⟨x, y⟩ ⟨e1, m2, hm2, e2, hs2, hq2⟩
            dsimp only at e1 e2
            subst e1 e2
            refine hb3 _ ⟨nI_add1 u, m2, hm2, rfl, fun w hw q => hs2 w hw (hs1 w hw q), fun q a b' ha hb' q1 q2 q3 => ?_⟩
            have em : m1 = m := eq512 hm1.1 hm512 (fun w' hw' => ⟨fun z => by rw [← q]; exact hs2 w' hw' z, hs1 w' hw'⟩)
            by_cases ea : a = u
            · rw [← em]
              exact hq2 (by rw [q, em]) b' hb' (by rw [← ea, em]; exact q1) (by rw [← ea]; exact q2) q3
            · exact hq1 em a b' (by omega) hb' q1 q2 q3
        · rintro ⟨x, y⟩ back3 exit3 ⟨e1, h4⟩ he3
          dsimp only at e1
          subst e1
          unfold s_Mo_joined_30
          dsimp only
          exact ok_t (nI_le (Nat.le_refl n) (by omega)) (he3 _ ⟨rfl, h4⟩)
        · rintro ⟨x, y⟩ ⟨e1, m1, hm1, e2, hs1, hq1⟩
          dsimp only at e1 e2
          subst e1 e2
          have hm1b := hm1.1
          refine hb2 _ ⟨m1, m, hm1, hm512, rfl, rfl, fun q => ?_⟩ ?_
          · have := hq1 q
            rw [q]
            exact this
          · dsimp only
            have hp9 := pc_le m 9
            by_cases e3 : m1 = m
            · rw [if_pos (by rw [e3])]; omega
            · rw [if_neg (fun z => e3 (nI_inj (by omega) (by omega) z)), nI_clamp (by omega)]
              obtain ⟨w, hw, w1, w2⟩ := ne512 hm512 hm1b (fun z => e3 z.symm) hs1
              have := pc_lt (n := 9) (fun i hi => hs1 i hi) ⟨w, hw, w1, w2⟩
              omega
    · rintro ⟨x, y⟩ ⟨m, hm, e1, hc⟩
      dsimp only at e1 ⊢
      subst e1
      have hm512 := hm.1
      refine ok_cnt n 0 (fun w st => st = nI w ∧ ∀ w', w' < w → p w' = p v → clo R (fun u => p u = p v) n v w') ?_ ?_ ?_ ⟨nI_lit0, fun _ h => absurd h (Nat.not_lt_zero _)⟩ (Nat.zero_le n) (FU_big (by omega))
      · rintro w st back2 exit2 hw ⟨e, h2⟩ hb2
        subst e
        unfold s_Mo_joined_134
        refine ok_f (le_nI (by omega) (by omega) hw) (ok_t (inb_nI (by omega) (by omega)) (ok_t (inb_nI (by omega) (by omega)) ?_))
        rw [nI_clamp (show w < 2 ^ 31 by omega), nI_clamp (show v < 2 ^ 31 by omega), (hg w hw).2, (hg v hv).2]
        have hpw := (hg w hw).1
        have hpv := (hg v hv).1
        by_cases ep : p w = p v
        · refine ok_t (by rw [ep]) ?_
          by_cases hb : m.testBit w = true
          · refine ok_f (fun z => (bit9z hm512 (by omega)).mp z hb) (hb2 _ ⟨nI_add1 w, fun w' hw' hp' => ?_⟩)
            by_cases e : w' = w
            · subst e; exact (hm.2.2 w' (by omega) hb).2.2
            · exact h2 w' (by omega) hp'
          · refine ok_t ((bit9z hm512 (by omega)).mpr hb) (ok_some (Or.inr ⟨rfl, fun z => hb ?_⟩))
            exact clsd_all hm hc (z v w hv hw ep)
        · refine ok_f (fun z => ep (nI_inj (by omega) (by omega) z)) (hb2 _ ⟨nI_add1 w, fun w' hw' hp' => ?_⟩)
          by_cases e : w' = w
          · subst e; exact absurd hp' ep
          · exact h2 w' (by omega) hp'
      · rintro st back2 exit2 ⟨e, h2⟩ he2
        subst e
        unfold s_Mo_joined_134
        exact ok_t (nI_le (Nat.le_refl n) (by omega)) (he2 _ ⟨rfl, h2⟩)
      · rintro st ⟨e, h2⟩
        refine hback _ ⟨nI_add1 v, fun v' w hv' hw hp => ?_⟩
        by_cases e : v' = v
        · subst e; exact h2 w hw hp
        · exact h v' w (by omega) hw hp
    · refine ⟨2 ^ v, 0, ⟨pow512 (by omega), tb_pow.mpr rfl, fun w hw q => ?_⟩, by omega, rfl, nI_lit0, fun z => ?_⟩
      · have e := tb_pow.mp q
        subst e
        exact ⟨hv, rfl, clo_refl⟩
      · exact absurd z (Nat.ne_of_gt (Nat.two_pow_pos v))
    · refine FU_big ?_
      split <;> omega
  · rintro st back exit ⟨e, h⟩ hexit
    subst e
    unfold s_Mo_joined_6
    exact ok_t (nI_le (Nat.le_refl n) (by omega)) (hexit _ ⟨rfl, h⟩)
  · rintro st ⟨e, h⟩
    exact ok_some (Or.inl ⟨rfl, h⟩)
