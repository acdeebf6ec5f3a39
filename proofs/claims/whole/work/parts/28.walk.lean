/-! the class's Walk: what it holds of the partition p, valid for the first m nodes (bring rows for the first mb) -/
def brg (F : Nat → Nat → Int) (p : Nat → Nat) (i g : Nat) : Int := sm i (fun j => if p j = g then F i j else 0)
def WI (m mb : Nat) (p : Nat → Nat) (FA FB : Nat → Nat → Int) (al : Int) (gr op : Nat → Int32) (sA sB : Nat → Int64) (bA bB : Nat → Nat → Int64) : Prop :=
  (∀ i, i < m → gr i = nI (p i)) ∧ (∀ i, i ≤ m → op i = nI (opn p i) ∧ sA i = jZ (sm2 i FA p) ∧ sB i = jZ (al + sm2 i FB p)) ∧ ∀ i g, i < mb → g < 9 → bA i g = jZ (brg FA p i g) ∧ bB i g = jZ (brg FB p i g)
theorem brg_congr {F : Nat → Nat → Int} {p q : Nat → Nat} {i g : Nat} (h : ∀ j, j < i → p j = q j) : brg F p i g = brg F q i g :=
  sm_congr (fun j hj => by rw [h j hj])
theorem sm2_pre {F : Nat → Nat → Int} {p q : Nat → Nat} {i : Nat} (h : ∀ j, j < i → p j = q j) : sm2 i F p = sm2 i F q :=
  sm2_congr (fun _ _ _ _ => rfl) (fun a b ha hb => by rw [h a ha, h b (by omega)])
theorem WI.to {m mb : Nat} {p q : Nat → Nat} {FA FB : Nat → Nat → Int} {al : Int} {gr op : Nat → Int32} {sA sB : Nat → Int64} {bA bB : Nat → Nat → Int64} (h : WI m mb p FA FB al gr op sA sB bA bB) {m2 mb2 : Nat} (hm : m2 ≤ m) (hmb : mb2 ≤ mb) (e : ∀ j, j < m2 → p j = q j) (e2 : ∀ j, j + 1 < mb2 → p j = q j) : WI m2 mb2 q FA FB al gr op sA sB bA bB := by
  refine ⟨fun i hi => by rw [h.1 i (by omega), e i hi], fun i hi => ?_, fun i g hi hg => ?_⟩
  · have h1 := h.2.1 i (by omega)
    have e3 : ∀ j, j < i → p j = q j := fun j hj => e j (by omega)
    rw [← opn_congr e3, ← sm2_pre e3, ← sm2_pre e3]; exact h1
  · have e3 : ∀ j, j < i → p j = q j := fun j hj => e2 j (by omega)
    rw [← brg_congr e3, ← brg_congr e3]; exact h.2.2 i g (by omega) hg
/-- Walk.weigh: the row of a node -/
theorem h_wweigh {n i : Nat} {p : Nat → Nat} {FA FB : Nat → Nat → Int} {gr : Nat → Int32} {pA pB bA bB : Nat → Nat → Int64} (hn : n ≤ 9) (hi : i < n) (hg : ∀ j, j < i → p j < 9 ∧ gr j = nI (p j)) (hA : ∀ a b, a < n → b < n → pA a b = jZ (FA a b) ∧ pB a b = jZ (FB a b)) :
    ok (m_Wa_weigh pA pB gr bA bB (nI i)) (fun o => (∀ g, g < 9 → o.1 i g = jZ (brg FA p i g) ∧ o.2 i g = jZ (brg FB p i g)) ∧ ∀ a, a ≠ i → o.1 a = bA a ∧ o.2 a = bB a) := by
  unfold m_Wa_weigh
  refine ok_t (inb_nI (by omega) (by omega)) ?_
  rw [nI_clamp (show i < 2 ^ 31 by omega)]
  refine ok_bind (h_fillJ (by omega)) (fun r1 h1 => ok_bind (h_fillJ (by omega)) (fun r2 h2 => ?_))
  refine ok_cnt i 0 (fun j st => st.1 = nI j ∧ (∀ g, g < 9 → st.2.1 i g = jZ (sm j (fun u => if p u = g then FA i u else 0)) ∧ st.2.2 i g = jZ (sm j (fun u => if p u = g then FB i u else 0))) ∧ ∀ a, a ≠ i → st.2.1 a = bA a ∧ st.2.2 a = bB a) ?_ ?_ ?_ ⟨nI_lit0, fun g hg => ?_, fun a ha => ?_⟩ (Nat.zero_le _) (FU_big (by omega))
  · rintro j ⟨x, a0, b0⟩ back exit hj ⟨e, h3, h4⟩ hback
    dsimp only at e h3 h4
    subst e
    have hpj := (hg j hj).1
    unfold s_Wa_weigh_27
    dsimp only
    rw [nI_clamp (show j < 2 ^ 31 by omega), (hg j hj).2, nI_clamp (show p j < 2 ^ 31 by omega), nI_clamp (show i < 2 ^ 31 by omega), (hA i j hi (by omega)).1, (hA i j hi (by omega)).2]
    refine ok_f (le_nI (by omega) (by omega) hj) (ok_t (inb_nI (by omega) (by omega)) (ok_t (inb_nI hpj (by omega)) (ok_t (inb_nI (by omega) (by omega)) (hback _ ⟨nI_add1 j, fun g hg9 => ?_, fun a ha => ?_⟩))))
    · dsimp only
      rw [up_s, up_s, sm_s, sm_s]
      by_cases e : g = p j
      · subst e
        rw [pk_uLs, pk_uLs, (h3 _ hpj).1, (h3 _ hpj).2, if_pos rfl, if_pos rfl, jZ_add, jZ_add]
        exact ⟨rfl, rfl⟩
      · rw [pk_uLn e, pk_uLn e, if_neg (fun z => e z.symm), if_neg (fun z => e z.symm), Int.add_zero, Int.add_zero]
        exact h3 g hg9
    · dsimp only
      rw [up_n ha, up_n ha]; exact h4 a ha
  · rintro ⟨x, a0, b0⟩ back exit ⟨e, h3⟩ hexit
    dsimp only at e
    subst e
    unfold s_Wa_weigh_27
    dsimp only
    exact ok_t (nI_le (Nat.le_refl i) (by omega)) (hexit _ ⟨rfl, h3⟩)
  · rintro ⟨x, a0, b0⟩ ⟨e, h3, h4⟩
    exact ok_some ⟨h3, h4⟩
  · dsimp only
    rw [up_s, up_s]
    exact ⟨h1.1 g hg, h2.1 g hg⟩
  · dsimp only
    rw [up_n ha, up_n ha]; exact ⟨rfl, rfl⟩
/-- what a node adds is what it brings to its group -/
theorem sm2_brg (F : Nat → Nat → Int) (p : Nat → Nat) (i : Nat) : sm2 (i + 1) F p = sm2 i F p + brg F p i (p i) := by
  rw [sm2_s]
  congr 1
  exact sm_congr (fun j _ => by
    by_cases h : p i = p j
    · rw [if_pos h, if_pos h.symm]
    · rw [if_neg h, if_neg (fun z => h z.symm)])
/-- Walk.settle -/
theorem h_settle {i mb : Nat} {p : Nat → Nat} {FA FB : Nat → Nat → Int} {al : Int} {gr op : Nat → Int32} {sA sB : Nat → Int64} {bA bB : Nat → Nat → Int64} (hi : i < 9) (hp : p i < 9) (hop : opn p i ≤ 9) (hgi : gr i = nI (p i)) (hmb : i < mb) (h : WI i mb p FA FB al gr op sA sB bA bB) :
    ok (m_Wa_settle gr op sA sB bA bB (nI i)) (fun o => WI (i + 1) mb p FA FB al gr o.1 o.2.1 o.2.2 bA bB) := by
  unfold m_Wa_settle
  simp only [nI_lit1, nI_add, nI_clamp (show i < 2 ^ 31 by omega), nI_clamp (show i + 1 < 2 ^ 31 by omega), hgi, nI_clamp (show p i < 2 ^ 31 by omega)]
  have hi2 := h.2.1 i (Nat.le_refl i)
  refine ok_t (inb_nI hi (by omega)) (ok_t (inb_nI (by omega) (by omega)) (ok_t (inb_nI hi (by omega)) (ok_t (inb_nI hp (by omega)) (ok_t (inb_nI (by omega) (by omega)) (ok_some ⟨fun j hj => ?_, fun j hj => ?_, h.2.2⟩)))))
  · by_cases e : j = i
    · subst e; exact hgi
    · exact h.1 j (by omega)
  · dsimp only
    by_cases e : j = i + 1
    · subst e
      rw [pk_us, pk_uLs, pk_uLs, hi2.1, hi2.2.1, hi2.2.2, (h.2.2 i (p i) hmb hp).1, (h.2.2 i (p i) hmb hp).2, sm2_brg, sm2_brg, opn_s]
      refine ⟨?_, by rw [jZ_add], by rw [← jZ_add]; congr 1; omega⟩
      by_cases q : opn p i < p i + 1
      · rw [if_pos (nI_lt q (by omega)), Nat.max_eq_right (by omega)]
      · rw [if_neg (fun z => q ((nI_ltI (by omega) (by omega)).mp z)), Nat.max_eq_left (by omega)]
    · rw [pk_un e, pk_uLn e, pk_uLn e]
      exact h.2.1 j (by omega)
/-- Walk.enterFrom: the nodes from f on go to the first group -/
def zfr (p : Nat → Nat) (f : Nat) : Nat → Nat := fun j => if j < f then p j else 0
theorem zfr_lt {p : Nat → Nat} {f j : Nat} (h : j < f) : zfr p f j = p j := if_pos h
theorem zfr_ge {p : Nat → Nat} {f j : Nat} (h : f ≤ j) : zfr p f j = 0 := if_neg (by omega)
theorem h_enterFrom {n f : Nat} {p : Nat → Nat} {FA FB : Nat → Nat → Int} {al : Int} {gr op : Nat → Int32} {sA sB : Nat → Int64} {pA pB bA bB : Nat → Nat → Int64} (hn : n ≤ 9) (hf : f ≤ n) (hr : rgs f p) (hA : ∀ a b, a < n → b < n → pA a b = jZ (FA a b) ∧ pB a b = jZ (FB a b)) (h : WI f f p FA FB al gr op sA sB bA bB) :
    ok (m_Wa_enterFrom (nI n) pA pB gr op sA sB bA bB (nI f)) (fun o => WI n n (zfr p f) FA FB al o.1 o.2.1 o.2.2.1 o.2.2.2.1 o.2.2.2.2.1 o.2.2.2.2.2) := by
  have hz : rgs n (zfr p f) := fun j hj => by
    rcases Nat.lt_or_ge j f with q | q
    · rw [zfr_lt q, opn_congr (v := p) (fun k hk => zfr_lt (by omega))]; exact hr j q
    · rw [zfr_ge q]; exact Nat.zero_le _
  unfold m_Wa_enterFrom
  refine ok_cnt n f (fun j st => f ≤ j ∧ st.1 = nI j ∧ WI j j (zfr p f) FA FB al st.2.2.2.1 st.2.2.2.2.1 st.2.2.2.2.2.1 st.2.2.2.2.2.2 st.2.1 st.2.2.1) ?_ ?_ ?_ ⟨Nat.le_refl f, rfl, h.to (Nat.le_refl f) (Nat.le_refl f) (fun j hj => (zfr_lt hj).symm) (fun j hj => (zfr_lt (by omega)).symm)⟩ hf (FU_big (by omega))
  · rintro j ⟨x, b1, b2, g, o, s1, s2⟩ back exit hj ⟨hfj, e, hw⟩ hback
    dsimp only at e hw
    subst e
    unfold s_Wa_enterFrom_2
    dsimp only
    rw [nI_clamp (show j < 2 ^ 31 by omega)]
    have hpl : ∀ u, u < n → zfr p f u < 9 := fun u hu => by have := rgs_le hz hu; omega
    have hgr : ∀ u, u < j → zfr p f u < 9 ∧ upd g j 0 u = nI (zfr p f u) := fun u hu => ⟨hpl u (by omega), by rw [pk_un (by omega)]; exact hw.1 u hu⟩
    refine ok_f (le_nI (by omega) (by omega) hj) (ok_t (inb_nI (by omega) (by omega)) (ok_bind (h_wweigh hn hj hgr hA) (fun r hr2 => ?_)))
    have hw2 : WI j (j + 1) (zfr p f) FA FB al (upd g j 0) o s1 s2 r.1 r.2 := by
      refine ⟨fun u hu => (hgr u hu).2, hw.2.1, fun a gg ha hg9 => ?_⟩
      by_cases e : a = j
      · subst e; exact hr2.1 gg hg9
      · rw [(hr2.2 a e).1, (hr2.2 a e).2]; exact hw.2.2 a gg (by omega) hg9
    refine ok_bind (h_settle (by omega) (hpl j hj) (by have := opn_le hz (by omega : j ≤ n); omega) (by rw [pk_us, zfr_ge hfj]; rfl) (by omega) hw2) (fun r3 hr3 => hback _ ⟨by omega, nI_add1 j, hr3⟩)
  · rintro ⟨x, b1, b2, g, o, s1, s2⟩ back exit ⟨hfj, e, hw⟩ hexit
    dsimp only at e
    subst e
    unfold s_Wa_enterFrom_2
    dsimp only
    exact ok_t (nI_le (Nat.le_refl n) (by omega)) (hexit _ ⟨hfj, rfl, hw⟩)
  · rintro ⟨x, b1, b2, g, o, s1, s2⟩ ⟨hfj, e, hw⟩
    exact ok_some hw
/-- Walk.start -/
theorem h_start {n : Nat} {FA FB : Nat → Nat → Int} {al : Int} {gr op : Nat → Int32} {sA sB : Nat → Int64} {pA pB bA bB : Nat → Nat → Int64} (hn : n ≤ 9) (ho : op 0 = 0) (hs : sA 0 = 0) (hA : ∀ a b, a < n → b < n → pA a b = jZ (FA a b) ∧ pB a b = jZ (FB a b)) :
    ok (m_Wa_start (nI n) (jZ al) pA pB gr op sA sB bA bB) (fun o => WI n n (fun _ => 0) FA FB al o.1 o.2.1 o.2.2.1 o.2.2.2.1 o.2.2.2.2.1 o.2.2.2.2.2) := by
  unfold m_Wa_start
  refine ok_t (by decide +kernel) ?_
  have h0 : WI 0 0 (fun _ => 0) FA FB al gr op sA (vp_updL sB (0 : Int32).toNatClampNeg (jZ al)) bA bB := by
    refine ⟨fun i hi => absurd hi (Nat.not_lt_zero _), fun i hi => ?_, fun i g hi => absurd hi (Nat.not_lt_zero _)⟩
    have e : i = 0 := by omega
    subst e
    refine ⟨ho, hs, ?_⟩
    rw [show (0 : Int32).toNatClampNeg = 0 from rfl, pk_uLs]
    show jZ al = jZ (al + 0)
    rw [Int.add_zero]
  rw [show (0 : Int32) = nI 0 from nI_lit0] at h0 ⊢
  refine ok_bind (h_enterFrom hn (Nat.zero_le n) (fun i hi => absurd hi (Nat.not_lt_zero _)) hA h0) (fun o ho2 => ok_some ?_)
  exact ho2.to (Nat.le_refl n) (Nat.le_refl n) (fun j _ => zfr_ge (Nat.zero_le j)) (fun j _ => zfr_ge (Nat.zero_le j))
/-- Walk.step -/
theorem h_step {n : Nat} {p : Nat → Nat} {FA FB : Nat → Nat → Int} {al : Int} {gr op : Nat → Int32} {sA sB : Nat → Int64} {pA pB bA bB : Nat → Nat → Int64} (hn : n ≤ 9) (hr : rgs n p) (hA : ∀ a b, a < n → b < n → pA a b = jZ (FA a b) ∧ pB a b = jZ (FB a b)) (h : WI n n p FA FB al gr op sA sB bA bB) :
    ok (m_Wa_step (nI n) pA pB gr op sA sB bA bB) (fun o => (o.1 = 0 ∧ lastp n p ∧ WI n n p FA FB al o.2.1 o.2.2.1 o.2.2.2.1 o.2.2.2.2.1 o.2.2.2.2.2.1 o.2.2.2.2.2.2) ∨ (∃ i, pivot n p i ∧ o.1 = 1 ∧ WI n n (nxt p i) FA FB al o.2.1 o.2.2.1 o.2.2.2.1 o.2.2.2.2.1 o.2.2.2.2.2.1 o.2.2.2.2.2.2)) := by
  unfold m_Wa_step
  rcases Nat.eq_zero_or_pos n with h0 | h0
  · subst h0
    refine ok_loop (fun st => st = nI 0 - 1) (fun _ => True) (fun _ => 0) ?_ (fun st _ => ok_some (Or.inl ⟨rfl, fun j _ h => absurd h (Nat.not_lt_zero _), h⟩)) rfl (FU_big (by omega))
    rintro st back exit e _ hexit
    subst e
    unfold s_Wa_step_10
    exact ok_t (by decide +kernel) (hexit _ trivial)
  · refine ok_loop (fun st => ∃ i, i < n ∧ st = nI i ∧ ∀ j, i < j → j < n → p j = opn p j) (fun _ => lastp n p) (fun st => st.toNatClampNeg + 1) ?_ (fun st hl => ok_some (Or.inl ⟨rfl, hl, h⟩)) ⟨n - 1, by omega, by rw [nI_lit1, pk_sub (by omega)], fun j h1 h2 => absurd h1 (by omega)⟩ (FU_big (by rw [nI_lit1, pk_sub (by omega), nI_clamp (by omega)]; omega))
    rintro st back exit ⟨i, hi, e, hs⟩ hback hexit
    subst e
    unfold s_Wa_step_10
    by_cases hi0 : i = 0
    · subst hi0
      exact ok_t (by decide +kernel) (hexit _ (fun j h1 h2 => hs j (by omega) h2))
    · refine ok_f (nI_nle (by omega) (by omega)) (ok_t (inb_nI (by omega) (by omega)) (ok_t (inb_nI (by omega) (by omega)) ?_))
      have h1 := hr i hi
      have h2 := opn_le hr (by omega : i ≤ n)
      rw [nI_clamp (show i < 2 ^ 31 by omega), h.1 i hi, (h.2.1 i (by omega)).1]
      refine ok_if (fun q => ?_) (fun q => ?_)
      · have q2 := (nI_leI (by omega) (by omega)).mp q
        rw [sb_m1 (by omega)]
        refine hback _ ⟨i - 1, by omega, rfl, fun j h4 h5 => ?_⟩ (by rw [nI_clamp (by omega), nI_clamp (by omega)]; omega)
        by_cases e : j = i
        · subst e; omega
        · exact hs j (by omega) h5
      · have q2 : ¬ opn p i ≤ p i := fun z => q (nI_le z (by omega))
        have hp : pivot n p i := ⟨by omega, hi, by omega, hs⟩
        have hr2 := rgs_nxt hr hp
        rw [nI_1]
        have hw : WI i (i + 1) (nxt p i) FA FB al (upd gr i (nI (p i + 1))) op sA sB bA bB := by
          have h3 := h.to (m2 := i) (mb2 := i + 1) (q := nxt p i) (by omega) (by omega) (fun j hj => (nxt_lt hj).symm) (fun j hj => (nxt_lt (by omega)).symm)
          exact ⟨fun j hj => by rw [pk_un (by omega)]; exact h3.1 j hj, h3.2.1, h3.2.2⟩
        have hle := rgs_le hr2 hi
        refine ok_bind (h_settle (by omega) (by omega) (by have := opn_le hr2 (by omega : i ≤ n); omega) (by rw [pk_us, nxt_eq]) (by omega) hw) (fun r hr3 => ?_)
        rw [nI_add1]
        have hr4 : rgs (i + 1) (nxt p i) := fun j hj => hr2 j (by omega)
        refine ok_bind (h_enterFrom hn (by omega) hr4 hA hr3) (fun o ho => ok_some (Or.inr ⟨i, hp, rfl, ?_⟩))
        have e1 : ∀ j, j < n → zfr (nxt p i) (i + 1) j = nxt p i j := fun j hj => by
          rcases Nat.lt_or_ge j (i + 1) with z | z
          · exact zfr_lt z
          · rw [zfr_ge z, nxt_gt (by omega)]
        exact ho.to (Nat.le_refl n) (Nat.le_refl n) (fun j hj => e1 j hj) (fun j hj => e1 j (by omega))
theorem h_wa {n : Nat} {p : Nat → Nat} {FA FB : Nat → Nat → Int} {al : Int} {gr op : Nat → Int32} {sA sB : Nat → Int64} {bA bB : Nat → Nat → Int64} (hn : n ≤ 9) (h : WI n n p FA FB al gr op sA sB bA bB) : ok (m_Wa_a (nI n) sA) (fun r => r = jZ (sm2 n FA p)) := by
  unfold m_Wa_a
  refine ok_t (inb_nI (by omega) (by omega)) (ok_some ?_)
  rw [nI_clamp (by omega)]; exact (h.2.1 n (Nat.le_refl n)).2.1
theorem h_wb {n : Nat} {p : Nat → Nat} {FA FB : Nat → Nat → Int} {al : Int} {gr op : Nat → Int32} {sA sB : Nat → Int64} {bA bB : Nat → Nat → Int64} (hn : n ≤ 9) (h : WI n n p FA FB al gr op sA sB bA bB) : ok (m_Wa_b (nI n) sB) (fun r => r = jZ (al + sm2 n FB p)) := by
  unfold m_Wa_b
  refine ok_t (inb_nI (by omega) (by omega)) (ok_some ?_)
  rw [nI_clamp (by omega)]; exact (h.2.1 n (Nat.le_refl n)).2.2
