/-! merging from the single ones up -/
def lle (l h l' h' : Nat) : Prop := l < l' ∨ (l = l' ∧ h ≤ h')
def bsf (D : Nat → Nat → Prop) (w : Nat → Nat → Int) (l h : Nat) : Prop := D l h ∧ ∀ l' h', D l' h' → w l' h' < w l h ∨ (w l' h' = w l h ∧ lle l h l' h')
theorem bsf_new {D D' : Nat → Nat → Prop} {w : Nat → Nat → Int} {a b : Nat} (hD : ∀ l h, D' l h ↔ D l h ∨ (l = a ∧ h = b)) (h : ∀ l h, D l h → w l h < w a b) : bsf D' w a b := by
  refine ⟨(hD a b).mpr (Or.inr ⟨rfl, rfl⟩), fun l' h' q => ?_⟩
  rcases (hD l' h').mp q with q | ⟨rfl, rfl⟩
  · exact Or.inl (h l' h' q)
  · exact Or.inr ⟨rfl, Or.inr ⟨rfl, Nat.le_refl _⟩⟩
theorem bsf_gt {D D' : Nat → Nat → Prop} {w : Nat → Nat → Int} {a b l h : Nat} (hD : ∀ l h, D' l h ↔ D l h ∨ (l = a ∧ h = b)) (hb : bsf D w l h) (hw : w l h < w a b) : bsf D' w a b :=
  bsf_new hD (fun l' h' q => by rcases hb.2 l' h' q with z | z <;> omega)
theorem bsf_old {D D' : Nat → Nat → Prop} {w : Nat → Nat → Int} {a b l h : Nat} (hD : ∀ l h, D' l h ↔ D l h ∨ (l = a ∧ h = b)) (hl : lle l h a b) (hb : bsf D w l h) (hw : w a b ≤ w l h) : bsf D' w l h := by
  refine ⟨(hD l h).mpr (Or.inl hb.1), fun l' h' q => ?_⟩
  rcases (hD l' h').mp q with q | ⟨rfl, rfl⟩
  · exact hb.2 l' h' q
  · rcases Int.lt_or_eq_of_le hw with z | z
    · exact Or.inl z
    · exact Or.inr ⟨z, hl⟩
def bpr (n : Nat) (W : (Nat → Nat) → Int) (p : Nat → Nat) (lo hi : Nat) : Prop := bsf (fun l h => l < h ∧ h < opn p n) (fun l h => W (mrg p l h)) lo hi
theorem bpr_uniq {n : Nat} {W : (Nat → Nat) → Int} {p : Nat → Nat} {l h l' h' : Nat} (q : bpr n W p l h) (z : bpr n W p l' h') : l = l' ∧ h = h' := by
  have q2 := q.2 l' h' z.1
  have z2 := z.2 l h q.1
  dsimp only at q2 z2
  unfold lle at q2 z2
  omega
noncomputable def mnx (n : Nat) (W : (Nat → Nat) → Int) (p : Nat → Nat) : Nat → Nat := @dite _ (∃ q : Nat × Nat, bpr n W p q.1 q.2) (Classical.propDecidable _) (fun h => cn (lab (mrg p (Classical.choose h).1 (Classical.choose h).2))) (fun _ => p)
theorem mnx_y {n : Nat} {W : (Nat → Nat) → Int} {p : Nat → Nat} {l h : Nat} (q : bpr n W p l h) : mnx n W p = cn (lab (mrg p l h)) := by
  have hex : ∃ q : Nat × Nat, bpr n W p q.1 q.2 := ⟨(l, h), q⟩
  have e := bpr_uniq (Classical.choose_spec hex) q
  unfold mnx
  rw [dif_pos hex, e.1, e.2]
theorem mnx_n {n : Nat} {W : (Nat → Nat) → Int} {p : Nat → Nat} (h : ∀ l h, ¬ (l < h ∧ h < opn p n)) : mnx n W p = p := by
  unfold mnx
  rw [dif_neg]
  rintro ⟨q, hq⟩
  exact h _ _ hq.1
theorem mnx_rgs {n : Nat} {W : (Nat → Nat) → Int} {p : Nat → Nat} (hr : rgs n p) : rgs n (mnx n W p) := by
  by_cases h : ∃ q : Nat × Nat, bpr n W p q.1 q.2
  · obtain ⟨q, hq⟩ := h
    rw [mnx_y hq]
    exact rgs_cnf _ n
  · unfold mnx
    rw [dif_neg h]
    exact hr
def Dc (c lo hi : Nat) : Nat → Nat → Prop := fun l h => (l < h ∧ h < c) ∧ (l < lo ∨ (l = lo ∧ h < hi))
theorem Dc_a {c lo : Nat} : Dc c lo (lo + 1) = Dc c lo 0 := by
  funext l h
  exact propext (by unfold Dc; omega)
theorem Dc_z {c lo : Nat} : Dc c lo c = Dc c (lo + 1) 0 := by
  funext l h
  exact propext (by unfold Dc; omega)
theorem Dc_s {c lo hi : Nat} (h1 : lo < hi) (h2 : hi < c) : ∀ l h, Dc c lo (hi + 1) l h ↔ Dc c lo hi l h ∨ (l = lo ∧ h = hi) := by
  intro l h
  unfold Dc
  omega
theorem Dc_e {c : Nat} : Dc c c 0 = fun l h => l < h ∧ h < c := by
  funext l h
  exact propext (by unfold Dc; omega)
def mI (D : Nat → Nat → Prop) (w : Nat → Nat → Int) (v0 : Int) (bl bh : Int32) (top : Int64) : Prop := ((∀ l h, ¬ D l h) ∧ bl = -1) ∨ ∃ l h, bl = nI l ∧ bh = nI h ∧ top = jZ (w l h - v0) ∧ bsf D w l h
theorem c_mergeOnce {n k : Nat} {man : Int32} {fr to : Nat → Nat} {wt : Nat → Int} {x y : Int} {nn : Int32} {alo : Int64} {gA gB : Nat → Nat → Int64} {lkA : Nat → Nat → Int32} {near : Nat → Int32} {has : Nat → Int64} {g nm : Nat → Int32} {p : Nat → Nat} (hn : n ≤ 9) (hk : k ≤ 36) (hwb : wbd wt k) (hx : 0 ≤ x ∧ x ≤ 1000) (hy : 1 ≤ y ∧ y ≤ 100) (hb : built man n k fr to wt nn alo gA gB lkA near has) (hr : rgs n p) (hp : ∀ i, i < n → g i = nI (p i)) :
    ok (m_MG_mergeOnce (iZ x) (iZ y) nn gA gB (nI n) (nI (opn p n)) g nm) (fun o => o.1 = nI (opn (mnx n (Val man n k fr to wt x y) p) n) ∧ ∀ i, i < n → o.2.1 i = nI (mnx n (Val man n k fr to wt x y) p i)) := by
  have hc : opn p n ≤ 9 := Nat.le_trans (opn_le hr (Nat.le_refl n)) hn
  have hpp : ∀ i, i < n → p i < 9 ∧ g i = nI (p i) := fun i hi => ⟨hnd_lt hn hr hi, hp i hi⟩
  have hxI : inI x := ⟨by omega, by omega⟩
  have hyI : inI y := ⟨by omega, by omega⟩
  have hbd : ∀ q, inJ (Val man n k fr to wt x y q - Val man n k fr to wt x y p) := fun q => inJ_bd (bd_sub (bd_Val hn hk hwb hx hy) (bd_Val hn hk hwb hx hy)) (by decide)
  unfold m_MG_mergeOnce
  generalize hW : Val man n k fr to wt x y = W at hbd
  refine ok_cnt (opn p n) 0 (fun lo st => st.2.2.2 = nI lo ∧ mI (Dc (opn p n) lo 0) (fun l h => W (mrg p l h)) (W p) st.1 st.2.1 st.2.2.1) ?_ ?_ ?_ ⟨nI_lit0, Or.inl ⟨fun l h q => by unfold Dc at q; omega, rfl⟩⟩ (Nat.zero_le _) (FU_big (by omega))
  · rintro lo ⟨bl, bh, top, i⟩ back exit hlo ⟨e, h⟩ hback
    dsimp only at e h
    subst e
    unfold s_MG_mergeOnce_10
    dsimp only
    refine ok_f (le_nI (by omega) (by omega) hlo) ?_
    refine ok_cnt (opn p n) (lo + 1) (fun hi st => lo < hi ∧ st.2.2.2 = nI hi ∧ mI (Dc (opn p n) lo hi) (fun l h => W (mrg p l h)) (W p) st.1 st.2.1 st.2.2.1) ?_ ?_ ?_ ⟨by omega, nI_add1 lo, by rw [Dc_a]; exact h⟩ (by omega) (FU_big (by omega))
    · rintro hi ⟨bl, bh, top, i⟩ back2 exit2 hhi ⟨hlt, e, h⟩ hb2
      dsimp only at e h
      subst e
      unfold s_MG_mergeOnce_25
      dsimp only
      refine ok_f (le_nI (by omega) (by omega) hhi) (ok_bind (c_between hn hxI hyI hb hpp (a := lo) (b := hi) (by omega) (by omega) (by omega)) (fun r hr2 => ?_))
      rw [hW] at hr2
      subst hr2
      have hDs := Dc_s (c := opn p n) hlt hhi
      refine ok_jn (fun _ => bsf (Dc (opn p n) lo (hi + 1)) (fun l h => W (mrg p l h)) lo hi) (fun kk hkk => ?_) (fun _ hst => hb2 _ ⟨by omega, nI_add1 hi, Or.inr ⟨lo, hi, rfl, rfl, rfl, hst⟩⟩)
      rcases h with ⟨h1, rfl⟩ | ⟨l, h, rfl, rfl, rfl, hbs⟩
      · exact ok_t m1_lt0 (hkk () (bsf_new hDs (fun l h q => absurd q (h1 l h))))
      · have hd := hbs.1
        unfold Dc at hd
        refine ok_f (nI_pos (by omega)) ?_
        by_cases q : W (mrg p lo hi) ≤ W (mrg p l h)
        · exact ok_t ((jZ_le (hbd _) (hbd _)).mpr (by omega)) (hb2 _ ⟨by omega, nI_add1 hi, Or.inr ⟨l, h, rfl, rfl, rfl, bsf_old hDs (by unfold lle; omega) hbs q⟩⟩)
        · exact ok_f (fun z => q (by have := (jZ_le (hbd _) (hbd _)).mp z; omega)) (hkk () (bsf_gt hDs hbs (by omega)))
    · rintro ⟨bl, bh, top, i⟩ back2 exit2 ⟨hlt, e, h⟩ he2
      dsimp only at e h
      subst e
      unfold s_MG_mergeOnce_25
      dsimp only
      exact ok_t (nI_le (Nat.le_refl _) (by omega)) (he2 _ ⟨hlt, rfl, h⟩)
    · rintro ⟨bl, bh, top, i⟩ ⟨hlt, e, h⟩
      dsimp only at e h ⊢
      exact hback _ ⟨nI_add1 lo, by rw [← Dc_z]; exact h⟩
  · rintro ⟨bl, bh, top, i⟩ back exit ⟨e, h⟩ hexit
    dsimp only at e h
    subst e
    unfold s_MG_mergeOnce_10
    dsimp only
    exact ok_t (nI_le (Nat.le_refl _) (by omega)) (hexit _ ⟨rfl, h⟩)
  · rintro ⟨bl, bh, top, i⟩ ⟨e, h⟩
    dsimp only at e h ⊢
    rw [Dc_e] at h
    rcases h with ⟨h1, rfl⟩ | ⟨l, h, rfl, rfl, rfl, hbs⟩
    · rw [mnx_n h1]
      exact ok_t m1_lt0 (ok_some ⟨rfl, hp⟩)
    · have hbp : bpr n W p l h := hbs
      have hd := hbs.1
      rw [mnx_y hbp]
      refine ok_f (nI_pos (by omega)) (ok_bind (h_unite hn ⟨l, by omega, rfl⟩ (fun i hi => ⟨p i, by have := (hpp i hi).1; omega, hp i hi⟩)) (fun r hr2 => ok_some ?_))
      have hag : ∀ i, i < n → unt g (nI l) (nI h) i = lab (mrg p l h) i := fun i hi => by
        have := (hpp i hi).1
        unfold unt lab mrg
        rw [hp i hi]
        by_cases e : p i = h
        · rw [if_pos (by rw [e]), if_pos e]
        · rw [if_neg (fun z => e (nI_inj (by omega) (by omega) z)), if_neg e]
      dsimp only
      rw [opn_cn]
      exact ⟨by rw [hr2.1, (cn_ag hag).2], fun i hi => by rw [hr2.2 i hi, (cn_ag hag).1 i hi]⟩
/-! the reference: the least nodes stand for the groups -/
def lst (p : Nat → Nat) (u : Nat) : Prop := ∀ w, w < u → p w ≠ p u
theorem lst_opn {n : Nat} {p : Nat → Nat} (h : rgs n p) {v : Nat} (hv : v < n) (hl : lst p v) : p v = opn p v := by
  have h1 := h v hv
  rcases Nat.lt_or_ge (p v) (opn p v) with q | q
  · obtain ⟨j, hj, e⟩ := rgs_all h v (by omega) (p v) q
    exact absurd e (hl j hj)
  · omega
theorem lst_lt {n : Nat} {p : Nat → Nat} (h : rgs n p) {u v : Nat} (hv : v < n) (huv : u < v) (hlv : lst p v) : p u < p v := by
  rw [lst_opn h hv hlv]
  exact lt_opn p huv
theorem lst_ex {p : Nat → Nat} : ∀ j, ∃ u, u ≤ j ∧ p u = p j ∧ lst p u := by
  intro j
  induction j using Nat.strongRecOn with
  | _ j ih =>
    by_cases h : lst p j
    · exact ⟨j, Nat.le_refl j, rfl, h⟩
    · unfold lst at h
      have : ∃ w, w < j ∧ p w = p j := Classical.byContradiction (fun z => h (fun w hw e => z ⟨w, hw, e⟩))
      obtain ⟨w, hw, e⟩ := this
      obtain ⟨u, hu, e2, h2⟩ := ih w hw
      exact ⟨u, by omega, by omega, h2⟩
theorem h_isLeast {n v : Nat} {f : Nat → Int32} {p : Nat → Nat} (hn : n ≤ 9) (hv : v < n) (hp : ∀ i, i < n → p i < 9 ∧ f i = nI (p i)) : ok (m_Mo_isLeast f (nI v)) (fun r => (r = 1 ∧ lst p v) ∨ (r = 0 ∧ ¬ lst p v)) := by
  unfold m_Mo_isLeast
  refine ok_cnt v 0 (fun u st => st = nI u ∧ ∀ w, w < u → p w ≠ p v) ?_ ?_ ?_ ⟨nI_lit0, fun _ h => absurd h (Nat.not_lt_zero _)⟩ (Nat.zero_le v) (FU_big (by omega))
  · rintro u st back exit hu ⟨e, h⟩ hback
    subst e
    unfold s_Mo_isLeast_2
    refine ok_f (le_nI (by omega) (by omega) hu) (ok_t (inb_nI (by omega) (by omega)) (ok_t (inb_nI (by omega) (by omega)) ?_))
    rw [nI_clamp (show u < 2 ^ 31 by omega), nI_clamp (show v < 2 ^ 31 by omega), (hp u (by omega)).2, (hp v hv).2]
    have h1 := (hp u (by omega)).1
    have h2 := (hp v hv).1
    by_cases e : p u = p v
    · exact ok_t (by rw [e]) (ok_some (Or.inr ⟨rfl, fun z => z u hu e⟩))
    · refine ok_f (fun z => e (nI_inj (by omega) (by omega) z)) (hback _ ⟨nI_add1 u, fun w hw => ?_⟩)
      by_cases e2 : w = u
      · subst e2; exact e
      · exact h w (by omega)
  · rintro st back exit ⟨e, h⟩ hexit
    subst e
    unfold s_Mo_isLeast_2
    exact ok_t (nI_le (Nat.le_refl _) (by omega)) (hexit _ ⟨rfl, h⟩)
  · rintro st ⟨e, h⟩
    exact ok_some (Or.inl ⟨rfl, h⟩)
def Dr (p : Nat → Nat) (n u v : Nat) : Nat → Nat → Prop := fun l h => (l < h ∧ h < n ∧ lst p l ∧ lst p h) ∧ (l < u ∨ (l = u ∧ h < v))
theorem Dr_a {p : Nat → Nat} {n u : Nat} : Dr p n u (u + 1) = Dr p n u 0 := by
  funext l h
  refine propext ⟨fun q => ⟨q.1, ?_⟩, fun q => ⟨q.1, ?_⟩⟩
  · have := q.1.1; have := q.2; omega
  · have := q.1.1; have := q.2; omega
theorem Dr_z {p : Nat → Nat} {n u : Nat} : Dr p n u n = Dr p n (u + 1) 0 := by
  funext l h
  refine propext ⟨fun q => ⟨q.1, ?_⟩, fun q => ⟨q.1, ?_⟩⟩
  · have := q.2; omega
  · have := q.2; have := q.1.2.1; omega
theorem Dr_s {p : Nat → Nat} {n u v : Nat} (h1 : u < v) (h2 : v < n) (hu : lst p u) (hv : lst p v) : ∀ l h, Dr p n u (v + 1) l h ↔ Dr p n u v l h ∨ (l = u ∧ h = v) := by
  intro l h
  constructor
  · rintro ⟨q1, q2⟩
    by_cases e : l = u ∧ h = v
    · exact Or.inr e
    · exact Or.inl ⟨q1, by omega⟩
  · rintro (⟨q1, q2⟩ | ⟨rfl, rfl⟩)
    · exact ⟨q1, by omega⟩
    · exact ⟨⟨h1, h2, hu, hv⟩, by omega⟩
theorem Dr_k {p : Nat → Nat} {n u v : Nat} (h : ¬ (lst p u ∧ lst p v)) : Dr p n u (v + 1) = Dr p n u v := by
  funext l h'
  refine propext ⟨fun q => ⟨q.1, ?_⟩, fun q => ⟨q.1, ?_⟩⟩
  · have q2 := q.2
    by_cases e : l = u ∧ h' = v
    · obtain ⟨rfl, rfl⟩ := e
      exact absurd ⟨q.1.2.2.1, q.1.2.2.2⟩ h
    · omega
  · have := q.2; omega
def rI (D : Nat → Nat → Prop) (w : Nat → Nat → Int) (n : Nat) (any : Int32) (most : Int64) (bu bv : Int32) : Prop := ((∀ l h, ¬ D l h) ∧ any = 0 ∧ bu = 0 ∧ bv = 0) ∨ ∃ l h, any = 1 ∧ bu = nI l ∧ bv = nI h ∧ most = jZ (w l h) ∧ bsf D w l h
theorem bpr_of {n : Nat} {W : (Nat → Nat) → Int} {p : Nat → Nat} {u v : Nat} (hr : rgs n p) (h : bsf (Dr p n n 0) (fun l h => W (mrg p (p l) (p h))) u v) : bpr n W p (p u) (p v) := by
  obtain ⟨⟨⟨huv, hv, hlu, hlv⟩, _⟩, h2⟩ := h
  refine ⟨⟨lst_lt hr hv huv hlv, lt_opn p hv⟩, fun l h' ⟨q1, q2⟩ => ?_⟩
  obtain ⟨j1, hj1, e1⟩ := rgs_all hr n (Nat.le_refl n) l (by omega)
  obtain ⟨j2, hj2, e2⟩ := rgs_all hr n (Nat.le_refl n) h' q2
  obtain ⟨a, ha, ea, hla⟩ := lst_ex (p := p) j1
  obtain ⟨b, hb, eb, hlb⟩ := lst_ex (p := p) j2
  have hab : a < b := by
    rcases Nat.lt_trichotomy a b with z | z | z
    · exact z
    · subst z; omega
    · have := lst_lt hr (by omega) z hla; omega
  have h3 := h2 a b ⟨⟨hab, by omega, hla, hlb⟩, by omega⟩
  dsimp only at h3 ⊢
  rw [ea, eb, e1, e2] at h3
  rcases h3 with z | ⟨z, z2⟩
  · exact Or.inl z
  · refine Or.inr ⟨z, ?_⟩
    unfold lle at z2 ⊢
    rcases z2 with z2 | ⟨z2, z3⟩
    · have := lst_lt hr (by omega) z2 hla
      omega
    · subst z2
      rcases Nat.lt_or_ge v b with z4 | z4
      · have := lst_lt hr (by omega) z4 hlb
        omega
      · have : v = b := by omega
        subst this
        omega
theorem no_pair {n : Nat} {p : Nat → Nat} (hr : rgs n p) (h : ∀ l h, ¬ Dr p n n 0 l h) : ∀ l h, ¬ (l < h ∧ h < opn p n) := by
  rintro l h' ⟨q1, q2⟩
  obtain ⟨j1, hj1, e1⟩ := rgs_all hr n (Nat.le_refl n) l (by omega)
  obtain ⟨j2, hj2, e2⟩ := rgs_all hr n (Nat.le_refl n) h' q2
  obtain ⟨a, ha, ea, hla⟩ := lst_ex (p := p) j1
  obtain ⟨b, hb, eb, hlb⟩ := lst_ex (p := p) j2
  have hab : a < b := by
    rcases Nat.lt_trichotomy a b with z | z | z
    · exact z
    · subst z; omega
    · have := lst_lt hr (by omega) z hla; omega
  exact h a b ⟨⟨hab, by omega, hla, hlb⟩, by omega⟩
theorem r_mergeOnce {n k : Nat} {man : Int32} {fr to : Nat → Nat} {wt : Nat → Int} {x y : Int} {all a0 b0 : Int64} {bt jo has nm fd td : Nat → Int32} {sums sizes : Nat → Int64} {p : Nat → Nat} (hn : n ≤ 9) (hk : k ≤ 36) (hwb : wbd wt k) (hw : weighed man k fr to wt all bt jo has) (hx : 0 ≤ x ∧ x ≤ 1000) (hy : 1 ≤ y ∧ y ≤ 100) (hr : rgs n p) (hp : ∀ i, i < n → fd i = nI (p i)) :
    ok (m_Mo_mergeOnce man (iZ x) (iZ y) (nI n) all a0 b0 bt has sums sizes nm fd td) (fun o => ∀ i, i < n → o.2.2.2.2.2.1 i = nI (mnx n (Val man n k fr to wt x y) p i)) := by
  have hpp : ∀ i, i < n → p i < 9 ∧ fd i = nI (p i) := fun i hi => ⟨hnd_lt hn hr hi, hp i hi⟩
  have hxI : inI x := ⟨by omega, by omega⟩
  have hyI : inI y := ⟨by omega, by omega⟩
  have hbd : ∀ q, inJ (Val man n k fr to wt x y q) := fun q => inJ_Val hn hk hwb hx hy
  have hval : ∀ {q : Nat → Int32} {s1 s2 : Nat → Int64} {pp : Nat → Nat}, (∀ i, i < n → pp i < 9 ∧ q i = nI (pp i)) → ok (m_Mo_valueOf man (iZ x) (iZ y) (nI n) all bt has s1 s2 q) (fun o => o.1 = jZ (Val man n k fr to wt x y pp)) := fun h => h_valueOf hn hk hwb hw hxI hyI h
  have hcg : ∀ {f : Nat → Int32} {pp : Nat → Nat}, (∀ i, i < n → pp i < 1000) → (∀ i, i < n → f i = lab pp i) → Val man n k fr to wt x y (cn f) = Val man n k fr to wt x y pp := fun h1 h2 => Val_cn h1 h2
  unfold m_Mo_mergeOnce
  generalize hW : Val man n k fr to wt x y = W at hbd hval hcg
  refine ok_cnt n 0 (fun u st => st.2.2.2.2.1 = nI u ∧ rI (Dr p n u 0) (fun l h => W (mrg p (p l) (p h))) n st.1 st.2.1 st.2.2.1 st.2.2.2.1) ?_ ?_ ?_ ⟨nI_lit0, Or.inl ⟨fun l h q => by unfold Dr at q; omega, rfl, rfl, rfl⟩⟩ (Nat.zero_le _) (FU_big (by omega))
  · rintro u ⟨any, most, bu, bv, i, a1, b1, nm1, sz1, sm1, td1⟩ back exit hu ⟨e, h⟩ hback
    dsimp only at e h
    subst e
    unfold s_Mo_mergeOnce_13
    dsimp only
    refine ok_f (le_nI (by omega) (by omega) hu) ?_
    refine ok_cnt n (u + 1) (fun v st => u < v ∧ st.2.2.2.2.1 = nI v ∧ rI (Dr p n u v) (fun l h => W (mrg p (p l) (p h))) n st.1 st.2.1 st.2.2.1 st.2.2.2.1) ?_ ?_ ?_ ⟨by omega, nI_add1 u, by rw [Dr_a]; exact h⟩ (by omega) (FU_big (by omega))
    · rintro v ⟨any, most, bu, bv, i, a1, b1, nm1, sz1, sm1, td1⟩ back2 exit2 hv ⟨hlt, e, h⟩ hb2
      dsimp only at e h
      subst e
      unfold s_Mo_mergeOnce_28
      dsimp only
      refine ok_f (le_nI (by omega) (by omega) hv) (ok_bind (h_isLeast hn hu hpp) (fun r40 h40 => ?_))
      rcases h40 with ⟨rfl, hlu⟩ | ⟨rfl, hlu⟩
      · refine ok_f n1_0 (ok_bind (h_isLeast hn hv hpp) (fun r49 h49 => ?_))
        rcases h49 with ⟨rfl, hlv⟩ | ⟨rfl, hlv⟩
        · refine ok_f n1_0 (ok_bind (h_copy hn) (fun r67 h67 => ok_bind (h_mergeIn hn (by omega) (by omega)) (fun r79 h79 => ok_bind (hval (pp := cn (unt r67 (r67 u) (r67 v))) (fun i hi => ⟨by have := cn_le (unt r67 (r67 u) (r67 v)) i; omega, h79 i hi⟩)) (fun r87 h87 => ?_))))
          rw [hcg (pp := mrg p (p u) (p v)) (fun i hi => by have := mrg_lt (b := p v) (hpp i hi).1 (hpp u hu).1; omega) (unt_lab (fun i hi => ⟨(hpp i hi).1, (h67.1 i hi).trans (hp i hi)⟩) hu hv)] at h87
          have hDs := Dr_s hlt hv hlu hlv
          refine ok_jn (fun _ => bsf (Dr p n u (v + 1)) (fun l h => W (mrg p (p l) (p h))) u v) (fun kk hkk => ?_) (fun _ hst => hb2 _ ⟨by omega, nI_add1 v, Or.inr ⟨u, v, rfl, rfl, rfl, h87, hst⟩⟩)
          rcases h with ⟨h1, rfl, _, _⟩ | ⟨l, h, rfl, rfl, rfl, rfl, hbs⟩
          · exact ok_t rfl (hkk () (bsf_new hDs (fun l h q => absurd q (h1 l h))))
          · have hd := hbs.1.2
            refine ok_f n1_0 ?_
            rw [h87]
            by_cases q : W (mrg p (p u) (p v)) ≤ W (mrg p (p l) (p h))
            · exact ok_t ((jZ_le (hbd _) (hbd _)).mpr q) (hb2 _ ⟨by omega, nI_add1 v, Or.inr ⟨l, h, rfl, rfl, rfl, rfl, bsf_old hDs (by unfold lle; omega) hbs q⟩⟩)
            · exact ok_f (fun z => q ((jZ_le (hbd _) (hbd _)).mp z)) (hkk () (bsf_gt hDs hbs (Int.not_le.mp q)))
        · exact ok_t rfl (hb2 _ ⟨by omega, nI_add1 v, by rw [Dr_k (fun z => hlv z.2)]; exact h⟩)
      · exact ok_t rfl (hb2 _ ⟨by omega, nI_add1 v, by rw [Dr_k (fun z => hlu z.1)]; exact h⟩)
    · rintro ⟨any, most, bu, bv, i, a1, b1, nm1, sz1, sm1, td1⟩ back2 exit2 ⟨hlt, e, h⟩ he2
      dsimp only at e h
      subst e
      unfold s_Mo_mergeOnce_28
      dsimp only
      exact ok_t (nI_le (Nat.le_refl _) (by omega)) (he2 _ ⟨hlt, rfl, h⟩)
    · rintro ⟨any, most, bu, bv, i, a1, b1, nm1, sz1, sm1, td1⟩ ⟨hlt, e, h⟩
      dsimp only at e h ⊢
      exact hback _ ⟨nI_add1 u, by rw [← Dr_z]; exact h⟩
  · rintro ⟨any, most, bu, bv, i, a1, b1, nm1, sz1, sm1, td1⟩ back exit ⟨e, h⟩ hexit
    dsimp only at e h
    subst e
    unfold s_Mo_mergeOnce_13
    dsimp only
    exact ok_t (nI_le (Nat.le_refl _) (by omega)) (hexit _ ⟨rfl, h⟩)
  · rintro ⟨any, most, bu, bv, i, a1, b1, nm1, sz1, sm1, td1⟩ ⟨e, h⟩
    dsimp only at e h ⊢
    rcases h with ⟨h1, rfl, rfl, rfl⟩ | ⟨l, h, rfl, rfl, rfl, rfl, hbs⟩
    · rw [mnx_n (no_pair hr h1), nI_lit0]
      refine ok_bind (h_mergeIn hn (by omega) (by omega)) (fun r hr2 => ok_some (fun i hi => ?_))
      have hag : ∀ i, i < n → unt fd (fd 0) (fd 0) i = lab p i := fun i hi => by
        unfold unt
        by_cases e : fd i = fd 0
        · rw [if_pos e, ← e]; exact hp i hi
        · rw [if_neg e]; exact hp i hi
      dsimp only
      rw [hr2 i hi, (cn_ag hag).1 i hi, rgs_cn (by omega) hr hi]
    · have hbp := bpr_of (W := W) hr hbs
      have hd := hbs.1
      rw [mnx_y hbp]
      refine ok_bind (h_mergeIn hn (by have := hd.1.1; have := hd.1.2.1; omega) (by have := hd.1.2.1; omega)) (fun r hr2 => ok_some (fun i hi => ?_))
      dsimp only
      rw [hr2 i hi, (cn_ag (unt_lab hpp (by have := hd.1.1; have := hd.1.2.1; omega) hd.1.2.1)).1 i hi]
noncomputable def ms (n : Nat) (W : (Nat → Nat) → Int) : Nat → Nat → Nat
  | 0 => fun i => i
  | t + 1 => mnx n W (ms n W t)
theorem ms_s (n : Nat) (W : (Nat → Nat) → Int) (t : Nat) : ms n W (t + 1) = mnx n W (ms n W t) := rfl
theorem rgs_id (n : Nat) : rgs n (fun i => i) := (hnd_id (hg := nI) (rh := nI) rfl rfl (fun _ _ => ⟨rfl, rfl⟩)).1
theorem opn_id (n : Nat) : opn (fun i => i) n = n := by
  induction n with
  | zero => rfl
  | succ k ih => rw [opn_s, ih]; omega
theorem ms_rgs {n : Nat} {W : (Nat → Nat) → Int} : ∀ t, rgs n (ms n W t)
  | 0 => rgs_id n
  | t + 1 => mnx_rgs (ms_rgs t)
theorem mlim : ∀ n : Nat, n < 10 → (if (0 : Int32) < nI n - 1 then nI n - 1 else 0) = nI (n - 1) := by decide +kernel
theorem c_merged {n k t : Nat} {man : Int32} {fr to : Nat → Nat} {wt : Nat → Int} {x y : Int} {nn hN hC : Int32} {alo : Int64} {gA gB : Nat → Nat → Int64} {lkA : Nat → Nat → Int32} {near : Nat → Int32} {has : Nat → Int64} {g nm : Nat → Int32} (hn : n ≤ 9) (hk : k ≤ 36) (hwb : wbd wt k) (hx : 0 ≤ x ∧ x ≤ 1000) (hy : 1 ≤ y ∧ y ≤ 100) (hb : built man n k fr to wt nn alo gA gB lkA near has) (ht : t ≤ n - 1) :
    ok (m_MG_merged (nI n) (iZ x) (iZ y) nn gA gB hN hC g nm (nI t)) (fun o => o.1 = nI (opn (ms n (Val man n k fr to wt x y) t) n) ∧ o.2.1 = nI n ∧ o.2.2.1 = nI (opn (ms n (Val man n k fr to wt x y) t) n) ∧ ∀ i, i < n → o.2.2.2.1 i = nI (ms n (Val man n k fr to wt x y) t i)) := by
  unfold m_MG_merged
  rw [mlim n (by omega)]
  refine ok_f (nI_pos (by omega)) (ok_t (nI_le ht (by omega)) (ok_bind (h_separate hn) (fun r35 h35 => ?_)))
  rw [h35.1]
  refine ok_cnt t 0 (fun s st => st.1 = nI s ∧ st.2.1 = nI (opn (ms n (Val man n k fr to wt x y) s) n) ∧ ∀ i, i < n → st.2.2.1 i = nI (ms n (Val man n k fr to wt x y) s i)) ?_ ?_ ?_ ⟨nI_lit0, by rw [h35.2.1]; show nI n = nI (opn (fun i => i) n); rw [opn_id], h35.2.2⟩ (Nat.zero_le t) (FU_big (by omega))
  · rintro s ⟨a, b, c, d⟩ back exit hs ⟨e1, e2, h⟩ hback
    dsimp only at e1 e2 h
    subst e1 e2
    unfold s_MG_merged_40
    dsimp only
    exact ok_f (le_nI (by omega) (by omega) hs) (ok_bind (c_mergeOnce hn hk hwb hx hy hb (ms_rgs s) h) (fun r hr => hback _ ⟨nI_add1 s, hr.1, hr.2⟩))
  · rintro ⟨a, b, c, d⟩ back exit ⟨e1, e2, h⟩ hexit
    dsimp only at e1 e2 h
    subst e1 e2
    unfold s_MG_merged_40
    dsimp only
    exact ok_t (nI_le (Nat.le_refl _) (by omega)) (hexit _ ⟨rfl, rfl, h⟩)
  · rintro ⟨a, b, c, d⟩ ⟨e1, e2, h⟩
    exact ok_some ⟨e2, rfl, e2, h⟩
theorem h_beginMerging {n k : Nat} {man : Int32} {fr to : Nat → Nat} {wt : Nat → Int} {ones others weights there bt jo has fd : Nat → Int32} (hn : n ≤ 9) (hk : k ≤ 36) (hr : rarc k fr to wt ones others weights there) :
    ok (m_Mo_beginMerging man (nI n) (nI k) ones others weights there bt jo has fd) (fun o => weighed man k fr to wt o.1 o.2.1 o.2.2.1 o.2.2.2.1 ∧ ∀ i, i < n → o.2.2.2.2 i = nI i) := by
  unfold m_Mo_beginMerging
  refine ok_bind (h_weigh hk hr) (fun r1 hw => ?_)
  refine ok_fill n nI (by omega) (fun j g back exit hj _ _ => ?_) (fun g back exit => ?_) (fun g h1 h2 => ?_)
  · unfold s_Mo_beginMerging_6
    dsimp only
    rw [if_neg (le_nI (by omega) (by omega) hj), if_pos (inb_nI (by omega) (by omega)), nI_clamp (by omega)]
  · unfold s_Mo_beginMerging_6
    dsimp only
    rw [if_pos (nI_le (Nat.le_refl n) (by omega))]
  · exact ok_some ⟨hw, h1⟩
theorem r_merged {n k t : Nat} {man : Int32} {fr to : Nat → Nat} {wt : Nat → Int} {x y : Int} {all a0 b0 : Int64} {ones others weights there hd bt jo has nm fd td : Nat → Int32} {sums sizes : Nat → Int64} (hn : n ≤ 9) (hk : k ≤ 36) (hwb : wbd wt k) (hr : rarc k fr to wt ones others weights there) (hx : 0 ≤ x ∧ x ≤ 1000) (hy : 1 ≤ y ∧ y ≤ 100) (ht : t ≤ n - 1) :
    ok (m_Mo_merged man (iZ x) (iZ y) (nI n) (nI k) all a0 b0 ones others weights there hd bt jo has sums sizes nm fd td (nI t)) (fun o => o.1 = nI (opn (ms n (Val man n k fr to wt x y) t) n) ∧ ∀ i, i < n → o.2.2.2.2.1 i = nI (ms n (Val man n k fr to wt x y) t i)) := by
  unfold m_Mo_merged
  refine ok_f (nI_pos (by omega)) ?_
  refine ok_jn (fun _ => True) (fun kk hkk => ?_) (fun _ _ => ?_)
  · by_cases q : t < n
    · exact ok_t (nI_lt q (by omega)) (hkk () trivial)
    · refine ok_f (fun z => q ((nI_ltI (by omega) (by omega)).mp z)) (ok_t ?_ (hkk () trivial))
      rw [show t = 0 by omega]
      exact le0_0
  · refine ok_bind (h_beginMerging hn hk hr) (fun r20 h20 => ?_)
    refine ok_cnt t 0 (fun s st => st.1 = nI s ∧ ∀ i, i < n → st.2.2.2.1 i = nI (ms n (Val man n k fr to wt x y) s i)) ?_ ?_ ?_ ⟨nI_lit0, h20.2⟩ (Nat.zero_le t) (FU_big (by omega))
    · rintro s ⟨a, b, c, f, st⟩ back exit hs ⟨e1, h⟩ hback
      dsimp only at e1 h
      subst e1
      unfold s_Mo_merged_25
      dsimp only
      exact ok_f (le_nI (by omega) (by omega) hs) (ok_bind (r_mergeOnce hn hk hwb h20.1 hx hy (ms_rgs s) h) (fun r hr => hback _ ⟨nI_add1 s, hr⟩))
    · rintro ⟨a, b, c, f, st⟩ back exit ⟨e1, h⟩ hexit
      dsimp only at e1 h
      subst e1
      unfold s_Mo_merged_25
      dsimp only
      exact ok_t (nI_le (Nat.le_refl _) (by omega)) (hexit _ ⟨rfl, h⟩)
    · rintro ⟨a, b, c, f, st⟩ ⟨e1, h⟩
      dsimp only at e1 h ⊢
      refine ok_bind (h_copy hn) (fun r49 h49 => ok_bind (h_number hn) (fun r57 h57 => ok_some ?_))
      have hrg := ms_rgs (n := n) (W := Val man n k fr to wt x y) t
      have hag : ∀ i, i < n → r49 i = lab (ms n (Val man n k fr to wt x y) t) i := fun i hi => (h49.1 i hi).trans (h i hi)
      dsimp only
      exact ⟨by rw [h57.1, (cn_ag hag).2, rgs_cF (by omega) hrg n (Nat.le_refl n)], fun i hi => by rw [h57.2.1 i hi, (cn_ag hag).1 i hi, rgs_cn (by omega) hrg hi]⟩
noncomputable def mb (n : Nat) (W : (Nat → Nat) → Int) : Nat → Int × Nat
  | 0 => (W (ms n W 0), 0)
  | t + 1 => if (mb n W t).1 < W (ms n W (t + 1)) then (W (ms n W (t + 1)), t + 1) else mb n W t
theorem mb_y {n : Nat} {W : (Nat → Nat) → Int} {t : Nat} (h : (mb n W t).1 < W (ms n W (t + 1))) : mb n W (t + 1) = (W (ms n W (t + 1)), t + 1) := if_pos h
theorem mb_n {n : Nat} {W : (Nat → Nat) → Int} {t : Nat} (h : ¬ (mb n W t).1 < W (ms n W (t + 1))) : mb n W (t + 1) = mb n W t := if_neg h
theorem mb_in {n : Nat} {W : (Nat → Nat) → Int} (h : ∀ p, inJ (W p)) : ∀ t, inJ (mb n W t).1
  | 0 => h _
  | t + 1 => by
    by_cases q : (mb n W t).1 < W (ms n W (t + 1))
    · rw [mb_y q]; exact h _
    · rw [mb_n q]; exact mb_in h t
theorem c_mergedBest {n k : Nat} {man : Int32} {fr to : Nat → Nat} {wt : Nat → Int} {x y : Int} {nn : Int32} {alo : Int64} {gA gB : Nat → Nat → Int64} {lkA : Nat → Nat → Int32} {near : Nat → Int32} {has : Nat → Int64} {g nm : Nat → Int32} (hn : n ≤ 9) (hk : k ≤ 36) (hwb : wbd wt k) (hx : 0 ≤ x ∧ x ≤ 1000) (hy : 1 ≤ y ∧ y ≤ 100) (hb : built man n k fr to wt nn alo gA gB lkA near has) :
    ok (m_MG_mergedBest (nI n) (iZ x) (iZ y) nn alo gA gB g nm) (fun o => o.1 = nI (mb n (Val man n k fr to wt x y) (n - 1)).2) := by
  have hxI : inI x := ⟨by omega, by omega⟩
  have hyI : inI y := ⟨by omega, by omega⟩
  have hbd : ∀ q, inJ (Val man n k fr to wt x y q) := fun q => inJ_Val hn hk hwb hx hy
  have hlt : ∀ s i, i < n → ms n (Val man n k fr to wt x y) s i < 9 := fun s i hi => hnd_lt hn (ms_rgs s) hi
  unfold m_MG_mergedBest
  refine ok_bind (h_separate hn) (fun r11 h11 => ?_)
  rw [h11.1]
  refine ok_bind (c_worthOf hn hxI hyI hb (p := ms n (Val man n k fr to wt x y) 0) (fun i hi => ⟨hlt 0 i hi, h11.2.2 i hi⟩)) (fun r22 h22 => ?_)
  refine ok_cnt (n - 1) 0 (fun t st => st.1 = jZ (mb n (Val man n k fr to wt x y) t).1 ∧ st.2.1 = nI (mb n (Val man n k fr to wt x y) t).2 ∧ st.2.2.1 = nI (t + 1) ∧ st.2.2.2.1 = nI (opn (ms n (Val man n k fr to wt x y) t) n) ∧ ∀ i, i < n → st.2.2.2.2.1 i = nI (ms n (Val man n k fr to wt x y) t i)) ?_ ?_ ?_ ⟨h22, nI_lit0, nI_lit1, by rw [h11.2.1]; show nI n = nI (opn (fun i => i) n); rw [opn_id], h11.2.2⟩ (Nat.zero_le _) (FU_big (by omega))
  · rintro t ⟨a, b, c, d, f, m⟩ back exit ht ⟨e1, e2, e3, e4, h⟩ hback
    dsimp only at e1 e2 e3 e4 h
    subst e1 e2 e3 e4
    unfold s_MG_mergedBest_31
    dsimp only
    refine ok_f (le_nI (by omega) (by omega) (by omega)) (ok_bind (c_mergeOnce hn hk hwb hx hy hb (ms_rgs t) h) (fun r48 h48 => ok_bind (c_worthOf hn hxI hyI hb (p := ms n (Val man n k fr to wt x y) (t + 1)) (fun i hi => ⟨hlt (t + 1) i hi, h48.2 i hi⟩)) (fun r59 h59 => ?_)))
    rw [h59]
    by_cases q : (mb n (Val man n k fr to wt x y) t).1 < Val man n k fr to wt x y (ms n (Val man n k fr to wt x y) (t + 1))
    · refine ok_f (fun z => ?_) (hback _ ⟨by rw [mb_y q], by rw [mb_y q], nI_add1 (t + 1), h48.1, h48.2⟩)
      have := (jZ_le (hbd _) (mb_in hbd t)).mp z
      omega
    · exact ok_t ((jZ_le (hbd _) (mb_in hbd t)).mpr (by omega)) (hback _ ⟨by rw [mb_n q], by rw [mb_n q], nI_add1 (t + 1), h48.1, h48.2⟩)
  · rintro ⟨a, b, c, d, f, m⟩ back exit ⟨e1, e2, e3, e4, h⟩ hexit
    dsimp only at e1 e2 e3 e4 h
    subst e1 e2 e3 e4
    unfold s_MG_mergedBest_31
    dsimp only
    exact ok_t (nI_le (by omega) (by omega)) (hexit _ ⟨rfl, rfl, rfl, rfl, h⟩)
  · rintro ⟨a, b, c, d, f, m⟩ ⟨e1, e2, e3, e4, h⟩
    exact ok_some e2
theorem r_mergedBest {n k : Nat} {man : Int32} {fr to : Nat → Nat} {wt : Nat → Int} {x y : Int} {ones others weights there bt jo has nm fd td : Nat → Int32} {sums sizes : Nat → Int64} (hn : n ≤ 9) (hk : k ≤ 36) (hwb : wbd wt k) (hr : rarc k fr to wt ones others weights there) (hx : 0 ≤ x ∧ x ≤ 1000) (hy : 1 ≤ y ∧ y ≤ 100) :
    ok (m_Mo_mergedBest man (iZ x) (iZ y) (nI n) (nI k) ones others weights there bt jo has sums sizes nm fd td) (fun o => o.1 = nI (mb n (Val man n k fr to wt x y) (n - 1)).2) := by
  have hxI : inI x := ⟨by omega, by omega⟩
  have hyI : inI y := ⟨by omega, by omega⟩
  have hbd : ∀ q, inJ (Val man n k fr to wt x y q) := fun q => inJ_Val hn hk hwb hx hy
  have hlt : ∀ s i, i < n → ms n (Val man n k fr to wt x y) s i < 9 := fun s i hi => hnd_lt hn (ms_rgs s) hi
  unfold m_Mo_mergedBest
  refine ok_bind (h_beginMerging hn hk hr) (fun r1 h1 => ?_)
  refine ok_bind (h_valueOf hn hk hwb h1.1 hxI hyI (p := ms n (Val man n k fr to wt x y) 0) (fun i hi => ⟨hlt 0 i hi, h1.2 i hi⟩)) (fun r9 h9 => ?_)
  refine ok_cnt (n - 1) 0 (fun t st => st.1 = jZ (mb n (Val man n k fr to wt x y) t).1 ∧ st.2.1 = nI (mb n (Val man n k fr to wt x y) t).2 ∧ st.2.2.1 = nI (t + 1) ∧ ∀ i, i < n → st.2.2.2.2.2.1 i = nI (ms n (Val man n k fr to wt x y) t i)) ?_ ?_ ?_ ⟨h9, nI_lit0, nI_lit1, h1.2⟩ (Nat.zero_le _) (FU_big (by omega))
  · rintro t ⟨a, b, c, d, d2, f, m⟩ back exit ht ⟨e1, e2, e3, h⟩ hback
    dsimp only at e1 e2 e3 h
    subst e1 e2 e3
    unfold s_Mo_mergedBest_18
    dsimp only
    refine ok_f (le_nI (by omega) (by omega) (by omega)) (ok_bind (r_mergeOnce hn hk hwb h1.1 hx hy (ms_rgs t) h) (fun r48 h48 => ok_bind (h_valueOf hn hk hwb h1.1 hxI hyI (p := ms n (Val man n k fr to wt x y) (t + 1)) (fun i hi => ⟨hlt (t + 1) i hi, h48 i hi⟩)) (fun r59 h59 => ?_)))
    rw [h59]
    by_cases q : (mb n (Val man n k fr to wt x y) t).1 < Val man n k fr to wt x y (ms n (Val man n k fr to wt x y) (t + 1))
    · refine ok_f (fun z => ?_) (hback _ ⟨by rw [mb_y q], by rw [mb_y q], nI_add1 (t + 1), h48⟩)
      have := (jZ_le (hbd _) (mb_in hbd t)).mp z
      omega
    · exact ok_t ((jZ_le (hbd _) (mb_in hbd t)).mpr (by omega)) (hback _ ⟨by rw [mb_n q], by rw [mb_n q], nI_add1 (t + 1), h48⟩)
  · rintro ⟨a, b, c, d, d2, f, m⟩ back exit ⟨e1, e2, e3, h⟩ hexit
    dsimp only at e1 e2 e3 h
    subst e1 e2 e3
    unfold s_Mo_mergedBest_18
    dsimp only
    exact ok_t (nI_le (by omega) (by omega)) (hexit _ ⟨rfl, rfl, rfl, h⟩)
  · rintro ⟨a, b, c, d, d2, f, m⟩ ⟨e1, e2, e3, h⟩
    exact ok_some e2
