/-! labels: the rounds -/
def cG (n : Nat) (R : Nat → Nat → Prop) (L : Nat → Nat → Int) (link : Nat → Nat → Int32) (near : Nat → Int32) : Prop := ∀ v, v < n → (∀ u, u < n → link v u = iZ (L v u)) ∧ ∃ m, m < 512 ∧ near v = nI m ∧ ∀ d, d < 9 → (m.testBit d = true ↔ R v d)
def rG (n : Nat) (R : Nat → Nat → Prop) (L : Nat → Nat → Int) (bt jo : Nat → Int32) : Prop := ∀ v, v < n → ∀ u, u < n → bt (9 * v + u) = iZ (L v u) ∧ ((jo (9 * v + u) = 1 ∧ R v u) ∨ (jo (9 * v + u) = 0 ∧ ¬ R v u))
def lbd (n : Nat) (L : Nat → Nat → Int) : Prop := ∀ v, v < n → ∀ u, u < n → bd_ (L v u) 1800
def vals (n : Nat) (f : Nat → Int32) : Prop := ∀ j, j < n → ∃ v, v < n ∧ f j = nI v
noncomputable def rst (R : Nat → Prop) (L : Nat → Int) (n v : Nat) (s : Int32 × (Nat → Int32)) : Int32 × (Nat → Int32) :=
  (if wres R L s.2 n (s.2 v) = s.2 v then s.1 else 1, upd s.2 v (wres R L s.2 n (s.2 v)))
noncomputable def rla (R : Nat → Nat → Prop) (L : Nat → Nat → Int) (n : Nat) (ord lb : Nat → Int32) : Nat → Int32 × (Nat → Int32)
  | 0 => (0, lb)
  | i + 1 => rst (R (ord i).toNatClampNeg) (L (ord i).toNatClampNeg) n (ord i).toNatClampNeg (rla R L n ord lb i)
theorem rla_s (R : Nat → Nat → Prop) (L : Nat → Nat → Int) (n : Nat) (ord lb : Nat → Int32) (i : Nat) : rla R L n ord lb (i + 1) = rst (R (ord i).toNatClampNeg) (L (ord i).toNatClampNeg) n (ord i).toNatClampNeg (rla R L n ord lb i) := rfl
theorem rst_bit {R : Nat → Prop} {L : Nat → Int} {n v : Nat} {s : Int32 × (Nat → Int32)} (h : s.1 = 0 ∨ s.1 = 1) : (rst R L n v s).1 = 0 ∨ (rst R L n v s).1 = 1 := by
  unfold rst
  dsimp only
  by_cases e : wres R L s.2 n (s.2 v) = s.2 v
  · rw [if_pos e]; exact h
  · rw [if_neg e]; exact Or.inr rfl
theorem rla_bit (R : Nat → Nat → Prop) (L : Nat → Nat → Int) (n : Nat) (ord lb : Nat → Int32) : ∀ i, (rla R L n ord lb i).1 = 0 ∨ (rla R L n ord lb i).1 = 1
  | 0 => Or.inl rfl
  | i + 1 => rst_bit (rla_bit R L n ord lb i)
theorem rla_val {R : Nat → Nat → Prop} {L : Nat → Nat → Int} {n : Nat} {ord lb : Nat → Int32} (hn : n ≤ 9) (hL : lbd n L) (ho : vals n ord) (hl : vals n lb) : ∀ i, i ≤ n → vals n (rla R L n ord lb i).2
  | 0, _ => hl
  | i + 1, hi => by
    have ih := rla_val hn hL ho hl i (by omega) (R := R)
    obtain ⟨v, hv, e⟩ := ho i (by omega)
    rw [rla_s, e, nI_clamp (show v < 2 ^ 31 by omega)]
    unfold rst
    intro j hj
    dsimp only
    by_cases e2 : j = v
    · subst e2
      rw [pk_us]
      exact wres_val hn (hL j hj) (ih j hj)
    · rw [pk_un e2]
      exact ih j hj
theorem or_00 : (0 : Int32) ||| 0 = 0 := by decide
theorem or_01 : (0 : Int32) ||| 1 = 1 := by decide
theorem or_10 : (1 : Int32) ||| 0 = 1 := by decide
theorem or_11 : (1 : Int32) ||| 1 = 1 := by decide
theorem or_b0 {b : Int32} (h : b = 0 ∨ b = 1) : b ||| 0 = b := by rcases h with rfl | rfl <;> decide
theorem or_b1 {b : Int32} (h : b = 0 ∨ b = 1) : b ||| 1 = 1 := by rcases h with rfl | rfl <;> decide
theorem h_relabel {n : Nat} {link : Nat → Nat → Int32} {near sl lb so ord : Nat → Int32} {L : Nat → Nat → Int} {R : Nat → Nat → Prop} (hn : n ≤ 9) (hg : cG n R L link near) (hL : lbd n L) (ho : vals n ord) (hso : ∀ i, i < n → so i = ord i) (hv : vals n lb) (ha : ∀ u, u < n → sl u = lb u) :
    ok (m_Sp_relabelAll (nI n) link near sl so) (fun r => r.1 = (rla R L n ord lb n).1 ∧ ∀ u, u < n → r.2 u = (rla R L n ord lb n).2 u) := by
  unfold m_Sp_relabelAll
  refine ok_cnt n 0 (fun i st => st.1 = (rla R L n ord lb i).1 ∧ st.2.1 = nI i ∧ ∀ u, u < n → st.2.2 u = (rla R L n ord lb i).2 u) ?_ ?_ ?_ ⟨rfl, nI_lit0, ha⟩ (Nat.zero_le n) (FU_big (by omega))
  · rintro i ⟨x, y, f⟩ back exit hi ⟨e1, e2, e3⟩ hback
    dsimp only at e1 e2 e3
    subst e1 e2
    unfold s_Sp_relabelAll_4
    dsimp only
    rw [nI_clamp (show i < 2 ^ 31 by omega), hso i hi]
    obtain ⟨v, hv1, ev⟩ := ho i hi
    rw [ev, nI_clamp (show v < 2 ^ 31 by omega)]
    refine ok_f (le_nI (by omega) (by omega) hi) (ok_t (inb_nI (by omega) (by omega)) (ok_bind (h_strongest hn hv1 e3 (hg v hv1).1 (hL v hv1) (hg v hv1).2) (fun r hr => ?_)))
    refine ok_t (inb_nI (by omega) (by omega)) ?_
    subst hr
    have hs : rla R L n ord lb (i + 1) = rst (R v) (L v) n v (rla R L n ord lb i) := by
      rw [rla_s, ev, nI_clamp (show v < 2 ^ 31 by omega)]
    have hup : ∀ u, u < n → upd f v (wres (R v) (L v) (rla R L n ord lb i).2 n ((rla R L n ord lb i).2 v)) u = (rla R L n ord lb (i + 1)).2 u := fun u hu => by
      rw [hs]
      unfold rst
      dsimp only
      by_cases e : u = v
      · subst e; rw [pk_us, pk_us]
      · rw [pk_un e, pk_un e, e3 u hu]
    refine ok_jn (fun z => (rla R L n ord lb i).1 ||| z = (rla R L n ord lb (i + 1)).1) (fun k hk => ?_) (fun z hz => ok_t (inb_nI (by omega) (by omega)) (hback _ ⟨hz, nI_add1 i, hup⟩))
    have hb := rla_bit R L n ord lb i
    by_cases e : wres (R v) (L v) (rla R L n ord lb i).2 n ((rla R L n ord lb i).2 v) = (rla R L n ord lb i).2 v
    · refine ok_t (e.trans (e3 v hv1).symm) (hk _ ?_)
      rw [hs]
      unfold rst
      dsimp only
      rw [if_pos e, or_b0 hb]
    · refine ok_f (fun z => e (z.trans (e3 v hv1))) (hk _ ?_)
      rw [hs]
      unfold rst
      dsimp only
      rw [if_neg e, or_b1 hb]
  · rintro ⟨x, y, f⟩ back exit ⟨e1, e2, e3⟩ hexit
    dsimp only at e1 e2 e3
    subst e1 e2
    unfold s_Sp_relabelAll_4
    dsimp only
    exact ok_t (nI_le (Nat.le_refl n) (by omega)) (hexit _ ⟨rfl, rfl, e3⟩)
  · rintro ⟨x, y, f⟩ ⟨e1, e2, e3⟩
    dsimp only at e1 e2 e3 ⊢
    subst e1
    exact ok_t (rla_bit R L n ord lb n) (ok_some ⟨rfl, e3⟩)
theorem le0_0 : nI 0 ≤ (0 : Int32) := by decide +kernel
theorem nle0 {i : Nat} (h : i < 9) : ¬ nI (i + 1) ≤ (0 : Int32) := by
  rw [nI_lit0, nI_leI (by omega) (by omega)]; omega
theorem m1le0 : nI 0 - 1 ≤ (0 : Int32) := by decide +kernel
theorem h_round {n : Nat} {z : Int32} {bt jo sl lb so : Nat → Int32} {L : Nat → Nat → Int} {R : Nat → Nat → Prop} (hn : n ≤ 9) (hg : rG n R L bt jo) (hL : lbd n L) (hv : vals n lb) (ha : ∀ u, u < n → sl u = lb u) :
    ok (m_Mo_round (nI n) z bt jo so sl) (fun r => r.1 = (rla R L n (drw (n - 1) z nI).2 lb n).1 ∧ r.2.1 = (drw (n - 1) z nI).1 ∧ ∀ u, u < n → r.2.2.2 u = (rla R L n (drw (n - 1) z nI).2 lb n).2 u) := by
  unfold m_Mo_round
  refine ok_fill n nI (by omega) (fun j g back exit hj _ _ => ?_) (fun g back exit => ?_) (fun g h1 h2 => ?_)
  · unfold s_Mo_round_2
    dsimp only
    rw [if_neg (le_nI (by omega) (by omega) hj), if_pos (inb_nI (by omega) (by omega)), nI_clamp (by omega)]
  · unfold s_Mo_round_2
    dsimp only
    rw [if_pos (nI_le (Nat.le_refl n) (by omega))]
  · dsimp only
    refine ok_loop (fun st => (n = 0 ∧ st.1 = nI 0 - 1 ∧ st.2.2 = z) ∨ ∃ i o', st.1 = nI i ∧ i < n ∧ drw i st.2.2 o' = drw (n - 1) z nI ∧ ∀ j, j < n → st.2.1 j = o' j) (fun st => st.2.2 = (drw (n - 1) z nI).1 ∧ ∀ j, j < n → st.2.1 j = (drw (n - 1) z nI).2 j) (fun st => st.1.toNatClampNeg) ?_ ?_ ?_ ?_
    · rintro ⟨x, o1, z1⟩ back exit h hback hexit
      unfold s_Mo_round_30
      dsimp only at h hback hexit ⊢
      rcases h with ⟨e0, e1, e2⟩ | ⟨i, o', e1, hi, hd, ha⟩
      · subst e0 e1 e2
        exact ok_t m1le0 (hexit _ ⟨rfl, fun j hj => absurd hj (Nat.not_lt_zero _)⟩)
      · subst e1
        cases i with
        | zero =>
          refine ok_t le0_0 (hexit _ ?_)
          rw [← hd]
          exact ⟨rfl, ha⟩
        | succ i =>
          have hp := h_plc (z1 * 1664525 + 1013904223) (j := i + 1) (by omega)
          have hl := plc_lt (z1 * 1664525 + 1013904223) (i + 1)
          simp only [hp, nI_clamp (show i + 1 < 2 ^ 31 by omega), nI_clamp (show plc (z1 * 1664525 + 1013904223) (i + 1) < 2 ^ 31 by omega)]
          refine ok_f (nle0 (by omega)) (ok_t (by rw [nI_1]; exact nI_ne0 (by omega) (by omega)) (ok_t (inb_nI (by omega) (by omega)) (ok_t (inb_nI (by omega) (by omega)) (hback _ (Or.inr ⟨i, _, pk_m1 i, by omega, hd, ?_⟩) ?_))))
          · exact swp_agree (n := n) hi (by show plc (lcg z1) (i + 1) < n; have : plc (lcg z1) (i + 1) < i + 1 + 1 := hl; omega) ha
          · dsimp only
            rw [pk_m1, nI_clamp (by omega), nI_clamp (by omega)]
            omega
    · rintro ⟨x, so, z1⟩ ⟨ez, hso⟩
      dsimp only at ez hso ⊢
      subst ez
      have ho : vals n (drw (n - 1) z nI).2 := fun j hj => drw_val (n := n) (n - 1) z nI (by omega) idn_val j hj
      generalize hord : (drw (n - 1) z nI).2 = ord at hso ho ⊢
      refine ok_cnt n 0 (fun i st => st.1 = (rla R L n ord lb i).1 ∧ st.2.1 = nI i ∧ ∀ u, u < n → st.2.2 u = (rla R L n ord lb i).2 u) ?_ ?_ ?_ ⟨rfl, nI_lit0, ha⟩ (Nat.zero_le n) (FU_big (by omega))
      · rintro i ⟨x, y, f⟩ back exit hi ⟨e1, e2, e3⟩ hback
        dsimp only at e1 e2 e3
        subst e1 e2
        unfold s_Mo_round_95
        dsimp only
        rw [nI_clamp (show i < 2 ^ 31 by omega), hso i hi]
        obtain ⟨v, hv1, ev⟩ := ho i hi
        rw [ev, nI_clamp (show v < 2 ^ 31 by omega)]
        refine ok_f (le_nI (by omega) (by omega) hi) (ok_t (inb_nI (by omega) (by omega)) (ok_bind (h_wanted hn hv1 e3 (fun u hu => (hg v hv1 u hu).1) (hL v hv1) (fun u hu => (hg v hv1 u hu).2)) (fun r hr => ?_)))
        subst hr
        have hs : rla R L n ord lb (i + 1) = rst (R v) (L v) n v (rla R L n ord lb i) := by
          rw [rla_s, ev, nI_clamp (show v < 2 ^ 31 by omega)]
        have hup : ∀ u, u < n → upd f v (wres (R v) (L v) (rla R L n ord lb i).2 n ((rla R L n ord lb i).2 v)) u = (rla R L n ord lb (i + 1)).2 u := fun u hu => by
          rw [hs]
          unfold rst
          dsimp only
          by_cases e : u = v
          · subst e; rw [pk_us, pk_us]
          · rw [pk_un e, pk_un e, e3 u hu]
        refine ok_jn (fun z => z = (rla R L n ord lb (i + 1)).1) (fun k hk => ?_) (fun z hz => ok_t (inb_nI (by omega) (by omega)) (hback _ ⟨hz, nI_add1 i, hup⟩))
        refine ok_jn (fun _ => (1 : Int32) = (rla R L n ord lb (i + 1)).1) (fun k2 hk2 => ?_) (fun _ hz => hk _ hz)
        have hst : (rla R L n ord lb (i + 1)).1 = if wres (R v) (L v) (rla R L n ord lb i).2 n ((rla R L n ord lb i).2 v) = (rla R L n ord lb i).2 v then (rla R L n ord lb i).1 else 1 := by rw [hs]; rfl
        rcases rla_bit R L n ord lb i with hb | hb
        · refine ok_t hb (ok_t (inb_nI (by omega) (by omega)) ?_)
          by_cases e : wres (R v) (L v) (rla R L n ord lb i).2 n ((rla R L n ord lb i).2 v) = (rla R L n ord lb i).2 v
          · refine ok_t (e.trans (e3 v hv1).symm) (hk _ ?_)
            rw [hst, if_pos e, hb]
          · refine ok_f (fun z => e (z.trans (e3 v hv1))) (hk2 _ ?_)
            rw [hst, if_neg e]
        · refine ok_f (by rw [hb]; exact n1_0) (hk2 _ ?_)
          rw [hst, hb]
          split <;> rfl
      · rintro ⟨x, y, f⟩ back exit ⟨e1, e2, e3⟩ hexit
        dsimp only at e1 e2 e3
        subst e1 e2
        unfold s_Mo_round_95
        dsimp only
        exact ok_t (nI_le (Nat.le_refl n) (by omega)) (hexit _ ⟨rfl, rfl, e3⟩)
      · rintro ⟨x, y, f⟩ ⟨e1, e2, e3⟩
        dsimp only at e1 e2 e3 ⊢
        subst e1
        exact ok_t (rla_bit R L n ord lb n) (ok_some ⟨rfl, rfl, e3⟩)
    · rcases Nat.eq_zero_or_pos n with e | e
      · exact Or.inl ⟨e, by rw [e], rfl⟩
      · refine Or.inr ⟨n - 1, nI, ?_, by omega, rfl, h1⟩
        show nI n - 1 = nI (n - 1)
        have : nI (n - 1 + 1) - 1 = nI (n - 1) := nI_pred (n - 1)
        rw [show n - 1 + 1 = n by omega] at this
        exact this
    · refine FU_big ?_
      dsimp only
      rcases Nat.eq_zero_or_pos n with e | e
      · rw [e]; decide +kernel
      · have : nI (n - 1 + 1) - 1 = nI (n - 1) := nI_pred (n - 1)
        rw [show n - 1 + 1 = n by omega] at this
        rw [this, nI_clamp (by omega)]
        omega
noncomputable def rnd (R : Nat → Nat → Prop) (L : Nat → Nat → Int) (n : Nat) (seed : Int32) : Nat → Int32 × Int32 × (Nat → Int32)
  | 0 => (1, seed, nI)
  | t + 1 => ((rla R L n (drw (n - 1) (rnd R L n seed t).2.1 nI).2 (rnd R L n seed t).2.2 n).1, (drw (n - 1) (rnd R L n seed t).2.1 nI).1, (rla R L n (drw (n - 1) (rnd R L n seed t).2.1 nI).2 (rnd R L n seed t).2.2 n).2)
theorem rnd_s (R : Nat → Nat → Prop) (L : Nat → Nat → Int) (n : Nat) (seed : Int32) (t : Nat) : rnd R L n seed (t + 1) = ((rla R L n (drw (n - 1) (rnd R L n seed t).2.1 nI).2 (rnd R L n seed t).2.2 n).1, (drw (n - 1) (rnd R L n seed t).2.1 nI).1, (rla R L n (drw (n - 1) (rnd R L n seed t).2.1 nI).2 (rnd R L n seed t).2.2 n).2) := rfl
theorem drw_vals {n : Nat} (z : Int32) : vals n (drw (n - 1) z nI).2 := fun j hj => drw_val (n := n) (n - 1) z nI (by omega) idn_val j hj
theorem rnd_val {R : Nat → Nat → Prop} {L : Nat → Nat → Int} {n : Nat} {seed : Int32} (hn : n ≤ 9) (hL : lbd n L) : ∀ t, vals n (rnd R L n seed t).2.2
  | 0 => idn_val
  | t + 1 => by
    rw [rnd_s]
    exact rla_val hn hL (drw_vals _) (rnd_val hn hL t) n (Nat.le_refl n)
def isT (R : Nat → Nat → Prop) (L : Nat → Nat → Int) (n : Nat) (seed : Int32) (T : Nat) : Prop := (1 ≤ T ∧ T ≤ 20) ∧ ((rnd R L n seed T).1 = 0 ∨ T = 20) ∧ ∀ s, s < T → (rnd R L n seed s).1 ≠ 0
theorem isT_uniq {R : Nat → Nat → Prop} {L : Nat → Nat → Int} {n : Nat} {seed : Int32} {T S : Nat} (h : isT R L n seed T) (g : isT R L n seed S) : T = S := by
  rcases Nat.lt_trichotomy T S with q | q | q
  · rcases h.2.1 with e | e
    · exact absurd e (g.2.2 T q)
    · have := g.1.2; omega
  · exact q
  · rcases g.2.1 with e | e
    · exact absurd e (h.2.2 S q)
    · have := h.1.2; omega
theorem nI20 : (20 : Int32) = nI 20 := by decide +kernel
/-- what a run of the labels answers: the rounds, and the labels -/
def sprd (R : Nat → Nat → Prop) (L : Nat → Nat → Int) (n : Nat) (seed : Int32) (r : Int32) (f : Nat → Int32) : Prop := ∃ T, isT R L n seed T ∧ r = nI T ∧ ∀ u, u < n → f u = (rnd R L n seed T).2.2 u
theorem h_run {n : Nat} {seed : Int32} {link : Nat → Nat → Int32} {near sl so : Nat → Int32} {L : Nat → Nat → Int} {R : Nat → Nat → Prop} (hn : n ≤ 9) (hg : cG n R L link near) (hL : lbd n L) :
    ok (m_Sp_run (nI n) link near sl so seed) (fun o => sprd R L n seed o.1 o.2.2.1) := by
  unfold m_Sp_run
  refine ok_fill n nI (by omega) (fun j g back exit hj _ _ => ?_) (fun g back exit => ?_) (fun g h1 h2 => ?_)
  · unfold s_Sp_run_7
    dsimp only
    rw [if_neg (le_nI (by omega) (by omega) hj), if_pos (inb_nI (by omega) (by omega)), nI_clamp (by omega)]
  · unfold s_Sp_run_7
    dsimp only
    rw [if_pos (nI_le (Nat.le_refl n) (by omega))]
  · dsimp only
    refine ok_ghost 21 0 (fun t st => t ≤ 20 ∧ (∀ s, s < t → (rnd R L n seed s).1 ≠ 0) ∧ st.1 = nI t ∧ st.2.1 = (rnd R L n seed t).1 ∧ st.2.2.1 = nI t ∧ st.2.2.2.1 = (rnd R L n seed t).2.1 ∧ ∀ u, u < n → st.2.2.2.2.1 u = (rnd R L n seed t).2.2 u) (fun st => sprd R L n seed st.1 st.2.2.2.2.1) ?_ ?_ (fun j st h => by have := h.1; omega) ⟨by omega, fun s hs => absurd hs (Nat.not_lt_zero _), nI_lit0, rfl, nI_lit0, rfl, h1⟩ (FU_big (by omega))
    · rintro t ⟨a, c, i, d, f, o⟩ back exit ⟨ht, hne, e1, e2, e3, e4, hf⟩ hback hexit
      dsimp only at e1 e2 e3 e4 hf
      subst e1 e2 e3 e4
      unfold s_Sp_run_38
      dsimp only
      by_cases e0 : (rnd R L n seed t).1 = 0
      · refine ok_t e0 (hexit _ ⟨t, ⟨⟨?_, ht⟩, Or.inl e0, hne⟩, rfl, hf⟩)
        rcases Nat.eq_zero_or_pos t with z | z
        · subst z; exact absurd e0 n1_0
        · exact z
      · refine ok_f e0 ?_
        by_cases e20 : t = 20
        · subst e20
          exact ok_t (by rw [nI20]; exact nI_le (Nat.le_refl _) (by omega)) (hexit _ ⟨20, ⟨⟨by omega, ht⟩, Or.inr rfl, hne⟩, rfl, hf⟩)
        · refine ok_f (by rw [nI20]; exact le_nI (by omega) (by omega) (by omega)) (ok_bind (h_draw hn) (fun r50 h50 => ok_bind (h_relabel hn hg hL (drw_vals _) h50.2 (rnd_val hn hL t) hf) (fun r54 h54 => hback _ ⟨by omega, fun s hs => ?_, nI_add1 t, h54.1, nI_add1 t, h50.1, h54.2⟩)))
          by_cases q : s = t
          · subst q; exact e0
          · exact hne s (by omega)
    · rintro ⟨a, c, i, d, f, o⟩ h
      exact ok_some h
theorem h_spread {n k : Nat} {man seed : Int32} {fr to : Nat → Nat} {wt : Nat → Int} {ones others weights there bt jo has so sl : Nat → Int32} (hn : n ≤ 9) (hk : k ≤ 36) (hwb : wbd wt k) (hr : rarc k fr to wt ones others weights there) :
    ok (m_Mo_spread man (nI n) (nI k) ones others weights there bt jo has so sl seed) (fun o => sprd (fun a b => nr man fr to wt a b k) (fun a b => lk man fr to wt a b k) n seed o.1 o.2.2.2.2.2.2.2) := by
  unfold m_Mo_spread
  refine ok_bind (h_weigh hk hr) (fun r1 hw => ?_)
  have hL : lbd n (fun a b => lk man fr to wt a b k) := fun v _ u _ => bd_lk hk hwb
  have hg : rG n (fun a b => nr man fr to wt a b k) (fun a b => lk man fr to wt a b k) r1.2.1 r1.2.2.1 := fun v hv u hu => ⟨hw.2.1 v u (by omega) (by omega), hw.2.2.1 v u (by omega) (by omega)⟩
  generalize (fun a b => nr man fr to wt a b k) = R at hg ⊢
  generalize (fun a b => lk man fr to wt a b k) = L at hg hL ⊢
  refine ok_fill n nI (by omega) (fun j g back exit hj _ _ => ?_) (fun g back exit => ?_) (fun g h1 h2 => ?_)
  · unfold s_Mo_spread_11
    dsimp only
    rw [if_neg (le_nI (by omega) (by omega) hj), if_pos (inb_nI (by omega) (by omega)), nI_clamp (by omega)]
  · unfold s_Mo_spread_11
    dsimp only
    rw [if_pos (nI_le (Nat.le_refl n) (by omega))]
  · dsimp only
    refine ok_ghost 20 0 (fun t st => t < 20 ∧ (∀ s, s < t + 1 → (rnd R L n seed s).1 ≠ 0) ∧ st.1 = nI (t + 1) ∧ st.2.2.2 = (rnd R L n seed t).2.1 ∧ ∀ u, u < n → st.2.1 u = (rnd R L n seed t).2.2 u) (fun st => sprd R L n seed st.1 st.2.1) ?_ ?_ (fun j st h => by have := h.1; omega) ⟨by omega, fun s hs => by rw [show s = 0 by omega]; exact n1_0, nI_lit1, rfl, h1⟩ (FU_big (by omega))
    · rintro t ⟨a, f, o, d⟩ back exit ⟨ht, hne, e1, e4, hf⟩ hback hexit
      dsimp only at e1 e4 hf
      subst e1 e4
      unfold s_Mo_spread_34
      dsimp only
      refine ok_bind (h_round hn hg hL (rnd_val hn hL t) hf) (fun r h => ?_)
      have e := rnd_s R L n seed t
      have h1 : r.1 = (rnd R L n seed (t + 1)).1 := h.1
      have h2 : r.2.1 = (rnd R L n seed (t + 1)).2.1 := h.2.1
      have h3 : ∀ u, u < n → r.2.2.2 u = (rnd R L n seed (t + 1)).2.2 u := h.2.2
      by_cases e0 : (rnd R L n seed (t + 1)).1 = 0
      · exact ok_t (h1.trans e0) (hexit _ ⟨t + 1, ⟨⟨by omega, by omega⟩, Or.inl e0, hne⟩, rfl, h3⟩)
      · refine ok_f (fun q => e0 (h1.symm.trans q)) ?_
        by_cases e20 : t = 19
        · subst e20
          exact ok_t (by rw [nI20]; exact nI_le (Nat.le_refl _) (by omega)) (hexit _ ⟨20, ⟨⟨by omega, by omega⟩, Or.inr rfl, hne⟩, rfl, h3⟩)
        · refine ok_f (by rw [nI20]; exact le_nI (by omega) (by omega) (by omega)) (hback _ ⟨by omega, fun s hs => ?_, nI_add1 (t + 1), h2, h3⟩)
          by_cases q : s = t + 1
          · subst q; exact e0
          · exact hne s (by omega)
    · rintro ⟨a, f, o, d⟩ h
      exact ok_some h
theorem sprd_uniq {R : Nat → Nat → Prop} {L : Nat → Nat → Int} {n : Nat} {seed r r' : Int32} {f f' : Nat → Int32} (h : sprd R L n seed r f) (g : sprd R L n seed r' f') : r = r' ∧ ∀ u, u < n → f u = f' u := by
  obtain ⟨T, h1, h2, h3⟩ := h
  obtain ⟨S, g1, g2, g3⟩ := g
  have e := isT_uniq h1 g1
  subst e
  exact ⟨h2.trans g2.symm, fun u hu => (h3 u hu).trans (g3 u hu).symm⟩
theorem sprd_val {R : Nat → Nat → Prop} {L : Nat → Nat → Int} {n : Nat} {seed r : Int32} {f : Nat → Int32} (hn : n ≤ 9) (hL : lbd n L) (h : sprd R L n seed r f) : vals n f := by
  obtain ⟨T, _, _, h3⟩ := h
  intro j hj
  rw [h3 j hj]
  exact rnd_val hn hL T j hj
/-- how often the seeds below s bring a and b together -/
noncomputable def tog (R : Nat → Nat → Prop) (L : Nat → Nat → Int) (n a b : Nat) : Nat → Nat
  | 0 => 0
  | s + 1 => @ite Nat (∃ T, isT R L n (nI s) T ∧ (rnd R L n (nI s) T).2.2 a = (rnd R L n (nI s) T).2.2 b) (Classical.propDecidable _) (tog R L n a b s + 1) (tog R L n a b s)
theorem tog_s (R : Nat → Nat → Prop) (L : Nat → Nat → Int) (n a b s : Nat) : tog R L n a b (s + 1) = @ite Nat (∃ T, isT R L n (nI s) T ∧ (rnd R L n (nI s) T).2.2 a = (rnd R L n (nI s) T).2.2 b) (Classical.propDecidable _) (tog R L n a b s + 1) (tog R L n a b s) := rfl
theorem tog_y {R : Nat → Nat → Prop} {L : Nat → Nat → Int} {n a b s : Nat} {r : Int32} {f : Nat → Int32} (ha : a < n) (hb : b < n) (h : sprd R L n (nI s) r f) (e : f a = f b) : tog R L n a b (s + 1) = tog R L n a b s + 1 := by
  obtain ⟨T, h1, h2, h3⟩ := h
  rw [tog_s, if_pos ⟨T, h1, by rw [← h3 a ha, ← h3 b hb]; exact e⟩]
theorem tog_n {R : Nat → Nat → Prop} {L : Nat → Nat → Int} {n a b s : Nat} {r : Int32} {f : Nat → Int32} (ha : a < n) (hb : b < n) (h : sprd R L n (nI s) r f) (e : ¬ f a = f b) : tog R L n a b (s + 1) = tog R L n a b s := by
  obtain ⟨T, h1, h2, h3⟩ := h
  rw [tog_s, if_neg]
  rintro ⟨S, g1, g2⟩
  have q := isT_uniq h1 g1
  subst q
  rw [← h3 a ha, ← h3 b hb] at g2
  exact e g2
