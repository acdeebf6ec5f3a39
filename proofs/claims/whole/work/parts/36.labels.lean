/-! labels that spread -/
def lcg (z : Int32) : Int32 := z * 1664525 + 1013904223
/-- the place drawn among the first j + 1 -/
def plc (z : Int32) (j : Nat) : Nat := z.toBitVec.toNat / 2 % (j + 1)
theorem plc_lt (z : Int32) (j : Nat) : plc z j < j + 1 := Nat.mod_lt _ (by omega)
theorem h_plc (z : Int32) {j : Nat} (hj : j < 9) : (z.toUInt32 >>> ((1 : Int32).toUInt32 &&& Int32.toUInt32 31)).toInt32 - (z.toUInt32 >>> ((1 : Int32).toUInt32 &&& Int32.toUInt32 31)).toInt32 / (nI j + 1) * (nI j + 1) = nI (plc z j) := by
  obtain ⟨m, hm, e⟩ := wb_of32 z
  subst e
  rw [pk_ushrN hm 1 1 (by decide), nI_1, pk_rem (by omega) (by omega) (by omega)]
  unfold plc
  rw [pk_tn hm]
def drw : Nat → Int32 → (Nat → Int32) → Int32 × (Nat → Int32)
  | 0, z, o => (z, o)
  | i + 1, z, o => drw i (lcg z) (upd (upd o (i + 1) (o (plc (lcg z) (i + 1)))) (plc (lcg z) (i + 1)) (o (i + 1)))
theorem swp_agree {o o' : Nat → Int32} {n a b : Nat} (ha : a < n) (hb : b < n) (h : ∀ j, j < n → o j = o' j) : ∀ j, j < n → upd (upd o a (o b)) b (o a) j = upd (upd o' a (o' b)) b (o' a) j := by
  intro j hj
  by_cases e : j = b
  · subst e; rw [pk_us, pk_us, h a ha]
  · rw [pk_un e, pk_un e]
    by_cases e2 : j = a
    · subst e2; rw [pk_us, pk_us, h b hb]
    · rw [pk_un e2, pk_un e2, h j hj]
theorem drw_val {n : Nat} : ∀ (i : Nat) (z : Int32) (o : Nat → Int32), i < n → (∀ j, j < n → ∃ v, v < n ∧ o j = nI v) → ∀ j, j < n → ∃ v, v < n ∧ (drw i z o).2 j = nI v
  | 0, _, _, _, h => h
  | i + 1, z, o, hi, h => by
    show ∀ j, j < n → ∃ v, v < n ∧ (drw i _ _).2 j = nI v
    refine drw_val i _ _ (by omega) (fun j hj => ?_)
    have hp := plc_lt (lcg z) (i + 1)
    by_cases e : j = plc (lcg z) (i + 1)
    · subst e; rw [pk_us]; exact h _ hi
    · rw [pk_un e]
      by_cases e2 : j = i + 1
      · subst e2; rw [pk_us]; exact h _ (by omega)
      · rw [pk_un e2]; exact h j hj
theorem idn_val {n : Nat} : ∀ j, j < n → ∃ v, v < n ∧ (nI : Nat → Int32) j = nI v := fun j hj => ⟨j, hj, rfl⟩
theorem lt1_0 : (nI 0) < (1 : Int32) := by decide +kernel
theorem nlt1 {i : Nat} (h : i < 9) : ¬ nI (i + 1) < (1 : Int32) := by
  rw [nI_lit1, nI_ltI (by omega) (by omega)]; omega
theorem m1lt1 : ¬ (1 : Int32) ≤ nI 0 - 1 := by decide +kernel
theorem m1lt : nI 0 - 1 < (1 : Int32) := by decide +kernel
theorem h_draw {n : Nat} {z : Int32} {o : Nat → Int32} (hn : n ≤ 9) : ok (m_Sp_drawOrder (nI n) z o) (fun r => r.1 = (drw (n - 1) z nI).1 ∧ ∀ i, i < n → r.2 i = (drw (n - 1) z nI).2 i) := by
  unfold m_Sp_drawOrder
  refine ok_fill n nI (by omega) (fun j g back exit hj _ _ => ?_) (fun g back exit => ?_) (fun g h1 h2 => ?_)
  · unfold s_Sp_drawOrder_2
    dsimp only
    rw [if_neg (le_nI (by omega) (by omega) hj), if_pos (inb_nI (by omega) (by omega)), nI_clamp (by omega)]
  · unfold s_Sp_drawOrder_2
    dsimp only
    rw [if_pos (nI_le (Nat.le_refl n) (by omega))]
  · dsimp only
    refine ok_loop (fun st => (n = 0 ∧ st.1 = nI 0 - 1 ∧ st.2.1 = z) ∨ ∃ i o', st.1 = nI i ∧ i < n ∧ drw i st.2.1 o' = drw (n - 1) z nI ∧ ∀ j, j < n → st.2.2 j = o' j) (fun st => st.2.1 = (drw (n - 1) z nI).1 ∧ ∀ j, j < n → st.2.2 j = (drw (n - 1) z nI).2 j) (fun st => st.1.toNatClampNeg) ?_ ?_ ?_ ?_
    · rintro ⟨x, z1, o1⟩ back exit h hback hexit
      unfold s_Sp_drawOrder_36
      dsimp only at h hback hexit ⊢
      rcases h with ⟨e0, e1, e2⟩ | ⟨i, o', e1, hi, hd, ha⟩
      · subst e0 e1 e2
        exact ok_t m1lt (hexit _ ⟨rfl, fun j hj => absurd hj (Nat.not_lt_zero _)⟩)
      · subst e1
        cases i with
        | zero =>
          refine ok_t lt1_0 (hexit _ ?_)
          rw [← hd]
          exact ⟨rfl, ha⟩
        | succ i =>
          have hp := h_plc (z1 * 1664525 + 1013904223) (j := i + 1) (by omega)
          have hl := plc_lt (z1 * 1664525 + 1013904223) (i + 1)
          simp only [hp, nI_clamp (show i + 1 < 2 ^ 31 by omega), nI_clamp (show plc (z1 * 1664525 + 1013904223) (i + 1) < 2 ^ 31 by omega)]
          refine ok_f (nlt1 (by omega)) (ok_t (by rw [nI_1]; exact nI_ne0 (by omega) (by omega)) (ok_t (inb_nI (by omega) (by omega)) (ok_t (inb_nI (by omega) (by omega)) (hback _ (Or.inr ⟨i, _, pk_m1 i, by omega, hd, ?_⟩) ?_))))
          · exact swp_agree (n := n) hi (by show plc (lcg z1) (i + 1) < n; have : plc (lcg z1) (i + 1) < i + 1 + 1 := hl; omega) ha
          · dsimp only
            rw [pk_m1, nI_clamp (by omega), nI_clamp (by omega)]
            omega
    · rintro ⟨x, z1, o1⟩ h
      exact ok_some h
    · rcases Nat.eq_zero_or_pos n with e | e
      · exact Or.inl ⟨e, by rw [e], rfl⟩
      · refine Or.inr ⟨n - 1, nI, ?_, by omega, rfl, h1⟩
        show nI n - 1 = nI (n - 1)
        have : nI (n - 1 + 1) - 1 = nI (n - 1) := nI_pred (n - 1)
        rw [show n - 1 + 1 = n by omega] at this
        exact this
    · refine FU_big ?_
      dsimp only
      rcases Nat.eq_zero_or_pos n with e | e
      · rw [e]; decide +kernel
      · have : nI (n - 1 + 1) - 1 = nI (n - 1) := nI_pred (n - 1)
        rw [show n - 1 + 1 = n by omega] at this
        rw [this, nI_clamp (by omega)]
        omega
/-- what a node wants: the label of the strongest sum among its neighbours' -/
def whas (R : Nat → Prop) (lb : Nat → Int32) (l n : Nat) : Prop := ∃ u, u < n ∧ R u ∧ lb u = nI l
noncomputable def wsum (R : Nat → Prop) (L : Nat → Int) (lb : Nat → Int32) (l n : Nat) : Int := sm n (fun u => @ite Int (R u ∧ lb u = nI l) (Classical.propDecidable _) (L u) 0)
theorem wsum_p {R : Nat → Prop} {L : Nat → Int} {lb : Nat → Int32} {l n : Nat} (h : R n ∧ lb n = nI l) : wsum R L lb l (n + 1) = wsum R L lb l n + L n := by
  unfold wsum
  rw [sm_s, if_pos h]
theorem wsum_n {R : Nat → Prop} {L : Nat → Int} {lb : Nat → Int32} {l n : Nat} (h : ¬ (R n ∧ lb n = nI l)) : wsum R L lb l (n + 1) = wsum R L lb l n := by
  unfold wsum
  rw [sm_s, if_neg h, Int.add_zero]
theorem wsum_in {R : Nat → Prop} {L : Nat → Int} {lb : Nat → Int32} {l n : Nat} (hn : n ≤ 9) (hL : ∀ u, u < n → bd_ (L u) 1800) : inI (wsum R L lb l n) := by
  have h : bd_ (wsum R L lb l n) (n * 1800) := bd_sm (fun i hi => by
    by_cases e : R i ∧ lb i = nI l
    · rw [if_pos e]; exact hL i hi
    · rw [if_neg e]; exact bd_0)
  unfold bd_ at h
  exact ⟨by omega, by omega⟩
noncomputable def wnt (R : Nat → Prop) (L : Nat → Int) (lb : Nat → Int32) (n : Nat) (own : Int32) : Nat → Option (Nat × Int)
  | 0 => none
  | l + 1 => @ite _ (whas R lb l n) (Classical.propDecidable _)
      (@ite _ (∀ b t, wnt R L lb n own l = some (b, t) → t < wsum R L lb l n ∨ (wsum R L lb l n = t ∧ nI l = own)) (Classical.propDecidable _) (some (l, wsum R L lb l n)) (wnt R L lb n own l))
      (wnt R L lb n own l)
theorem wnt_s {R : Nat → Prop} {L : Nat → Int} {lb : Nat → Int32} {n l : Nat} {own : Int32} : wnt R L lb n own (l + 1) = @ite _ (whas R lb l n) (Classical.propDecidable _)
      (@ite _ (∀ b t, wnt R L lb n own l = some (b, t) → t < wsum R L lb l n ∨ (wsum R L lb l n = t ∧ nI l = own)) (Classical.propDecidable _) (some (l, wsum R L lb l n)) (wnt R L lb n own l))
      (wnt R L lb n own l) := rfl
theorem wnt_no {R : Nat → Prop} {L : Nat → Int} {lb : Nat → Int32} {n l : Nat} {own : Int32} (h : ¬ whas R lb l n) : wnt R L lb n own (l + 1) = wnt R L lb n own l := by
  rw [wnt_s, if_neg h]
theorem wnt_new {R : Nat → Prop} {L : Nat → Int} {lb : Nat → Int32} {n l : Nat} {own : Int32} (h : whas R lb l n) (h2 : ∀ b t, wnt R L lb n own l = some (b, t) → t < wsum R L lb l n ∨ (wsum R L lb l n = t ∧ nI l = own)) : wnt R L lb n own (l + 1) = some (l, wsum R L lb l n) := by
  rw [wnt_s, if_pos h, if_pos h2]
theorem wnt_old {R : Nat → Prop} {L : Nat → Int} {lb : Nat → Int32} {n l : Nat} {own : Int32} (h : whas R lb l n) {b : Nat} {t : Int} (h1 : wnt R L lb n own l = some (b, t)) (h2 : ¬ (t < wsum R L lb l n ∨ (wsum R L lb l n = t ∧ nI l = own))) : wnt R L lb n own (l + 1) = some (b, t) := by
  rw [wnt_s, if_pos h, if_neg (fun q => h2 (q b t h1)), h1]
theorem wnt_bd {R : Nat → Prop} {L : Nat → Int} {lb : Nat → Int32} {n : Nat} {own : Int32} (hn : n ≤ 9) (hL : ∀ u, u < n → bd_ (L u) 1800) : ∀ l b t, wnt R L lb n own l = some (b, t) → b < l ∧ inI t
  | 0, _, _, h => by cases h
  | l + 1, b, t, h => by
    by_cases h1 : whas R lb l n
    · by_cases h2 : ∀ b t, wnt R L lb n own l = some (b, t) → t < wsum R L lb l n ∨ (wsum R L lb l n = t ∧ nI l = own)
      · rw [wnt_new h1 h2] at h
        cases h
        exact ⟨by omega, wsum_in hn hL⟩
      · have e : wnt R L lb n own (l + 1) = wnt R L lb n own l := by
          rw [wnt_s, if_pos h1, if_neg h2]
        rw [e] at h
        have := wnt_bd hn hL l b t h
        exact ⟨by omega, this.2⟩
    · rw [wnt_no h1] at h
      have := wnt_bd hn hL l b t h
      exact ⟨by omega, this.2⟩
noncomputable def wres (R : Nat → Prop) (L : Nat → Int) (lb : Nat → Int32) (n : Nat) (own : Int32) : Int32 := match wnt R L lb n own n with
  | none => own
  | some (b, _) => nI b
theorem wres_val {R : Nat → Prop} {L : Nat → Int} {lb : Nat → Int32} {n : Nat} {own : Int32} (hn : n ≤ 9) (hL : ∀ u, u < n → bd_ (L u) 1800) (ho : ∃ v, v < n ∧ own = nI v) : ∃ v, v < n ∧ wres R L lb n own = nI v := by
  unfold wres
  cases h : wnt R L lb n own n with
  | none => exact ho
  | some bt => exact ⟨bt.1, (wnt_bd hn hL n bt.1 bt.2 h).1, rfl⟩
theorem h_bearers {n l : Nat} {sl lb : Nat → Int32} (hn : n ≤ 9) (ha : ∀ u, u < n → sl u = lb u) :
    ok (m_Sp_bearersOf (nI n) sl (nI l)) (fun r => ∃ M, M < 512 ∧ r = nI M ∧ ∀ i, i < 9 → (M.testBit i = true ↔ i < n ∧ lb i = nI l)) := by
  unfold m_Sp_bearersOf
  refine ok_cnt n 0 (fun j st => st.2 = nI j ∧ ∃ M, M < 512 ∧ st.1 = nI M ∧ ∀ i, i < 9 → (M.testBit i = true ↔ i < j ∧ lb i = nI l)) ?_ ?_ ?_ ⟨nI_lit0, 0, by omega, nI_lit0, fun i hi => ⟨fun q => by simp at q, fun q => absurd q.1 (Nat.not_lt_zero _)⟩⟩ (Nat.zero_le n) (FU_big (by omega))
  · rintro j ⟨x, y⟩ back exit hj ⟨e, M, hM, e2, h⟩ hback
    dsimp only at e e2
    subst e e2
    unfold s_Sp_bearersOf_4
    dsimp only
    refine ok_f (le_nI (by omega) (by omega) hj) (ok_t (inb_nI (by omega) (by omega)) ?_)
    rw [nI_clamp (by omega), ha j hj]
    by_cases e : lb j = nI l
    · refine ok_t e (hback _ ⟨nI_add1 j, M ||| 2 ^ j, or512 hM (pow512 (by omega)), ?_, fun i hi => ?_⟩)
      · show nI M ||| _ = _
        rw [sh1 j (by omega), nI_or]
      · rw [tb_or, tb_pow, h i hi]
        constructor
        · rintro (q | q)
          · exact ⟨by omega, q.2⟩
          · subst q; exact ⟨by omega, e⟩
        · rintro ⟨q1, q2⟩
          by_cases e2 : j = i
          · exact Or.inr e2
          · exact Or.inl ⟨by omega, q2⟩
    · refine ok_f e (hback _ ⟨nI_add1 j, M, hM, rfl, fun i hi => ?_⟩)
      rw [h i hi]
      constructor
      · rintro ⟨q1, q2⟩; exact ⟨by omega, q2⟩
      · rintro ⟨q1, q2⟩
        by_cases e2 : j = i
        · subst e2; exact absurd q2 e
        · exact ⟨by omega, q2⟩
  · rintro ⟨x, y⟩ back exit ⟨e, h⟩ hexit
    dsimp only at e h
    subst e
    unfold s_Sp_bearersOf_4
    dsimp only
    exact ok_t (nI_le (Nat.le_refl n) (by omega)) (hexit _ ⟨rfl, h⟩)
  · rintro ⟨x, y⟩ ⟨e, h⟩
    exact ok_some h
theorem h_weightTo {n v F l : Nat} {link : Nat → Nat → Int32} {L : Nat → Int} {R : Nat → Prop} {lb : Nat → Int32} (hn : n ≤ 9) (hv : v < 9) (hF : F < 512) (hFb : ∀ u, u < n → (F.testBit u = true ↔ R u ∧ lb u = nI l)) (hl : ∀ u, u < n → link v u = iZ (L u)) :
    ok (m_Sp_weightTo (nI n) link (nI v) (nI F)) (fun r => r = iZ (wsum R L lb l n)) := by
  unfold m_Sp_weightTo
  refine ok_cnt n 0 (fun j st => st.1 = iZ (wsum R L lb l j) ∧ st.2 = nI j) ?_ ?_ ?_ ⟨rfl, nI_lit0⟩ (Nat.zero_le n) (FU_big (by omega))
  · rintro j ⟨x, y⟩ back exit hj ⟨e1, e2⟩ hback
    dsimp only at e1 e2
    subst e1 e2
    unfold s_Sp_weightTo_5
    dsimp only
    refine ok_f (le_nI (by omega) (by omega) hj) ?_
    by_cases e : F.testBit j = true
    · refine ok_t ((bit9 hF (by omega)).mpr e) (ok_t (inb_nI hv (by omega)) (ok_t (inb_nI (by omega) (by omega)) (hback _ ⟨?_, nI_add1 j⟩)))
      dsimp only
      rw [nI_clamp (by omega), nI_clamp (by omega), hl j hj, wsum_p ((hFb j hj).mp e), iZ_add]
    · refine ok_f (fun z => e ((bit9 hF (by omega)).mp z)) (hback _ ⟨?_, nI_add1 j⟩)
      dsimp only
      rw [wsum_n (fun q => e ((hFb j hj).mpr q))]
  · rintro ⟨x, y⟩ back exit ⟨e1, e2⟩ hexit
    dsimp only at e1 e2
    subst e1 e2
    unfold s_Sp_weightTo_5
    dsimp only
    exact ok_t (nI_le (Nat.le_refl n) (by omega)) (hexit _ ⟨rfl, rfl⟩)
  · rintro ⟨x, y⟩ ⟨e1, e2⟩
    exact ok_some e1
theorem m1_lt0 : (-1 : Int32) < 0 := by decide
theorem m1_nge0 : ¬ (0 : Int32) ≤ -1 := by decide
theorem h_strongest {n v : Nat} {link : Nat → Nat → Int32} {near sl lb : Nat → Int32} {L : Nat → Int} {R : Nat → Prop} (hn : n ≤ 9) (hv : v < n) (ha : ∀ u, u < n → sl u = lb u) (hl : ∀ u, u < n → link v u = iZ (L u)) (hL : ∀ u, u < n → bd_ (L u) 1800) (hnear : ∃ m, m < 512 ∧ near v = nI m ∧ ∀ d, d < 9 → (m.testBit d = true ↔ R d)) :
    ok (m_Sp_strongestLabel (nI n) link near sl (nI v)) (fun r => r = wres R L lb n (lb v)) := by
  obtain ⟨m, hm, em, hR⟩ := hnear
  unfold m_Sp_strongestLabel
  refine ok_t (inb_nI (by omega) (by omega)) ?_
  rw [nI_clamp (show v < 2 ^ 31 by omega), ha v hv]
  refine ok_cnt n 0 (fun l st => st.2.2 = nI l ∧ ((wnt R L lb n (lb v) l = none ∧ st.1 = -1) ∨ ∃ b t, wnt R L lb n (lb v) l = some (b, t) ∧ st.1 = nI b ∧ st.2.1 = iZ t)) ?_ ?_ ?_ ⟨nI_lit0, Or.inl ⟨rfl, rfl⟩⟩ (Nat.zero_le n) (FU_big (by omega))
  · rintro l ⟨x, y, z⟩ back exit hl1 ⟨e, h⟩ hback
    dsimp only at e h
    subst e
    unfold s_Sp_strongestLabel_15
    dsimp only
    refine ok_f (le_nI (by omega) (by omega) hl1) (ok_t (inb_nI (by omega) (by omega)) (ok_bind (h_bearers hn ha) (fun r hr => ?_)))
    obtain ⟨M, hM, eM, hMb⟩ := hr
    subst eM
    rw [nI_clamp (show v < 2 ^ 31 by omega), em, nI_and]
    have hF : m &&& M < 512 := and512 hm
    have hFb : ∀ u, u < n → ((m &&& M).testBit u = true ↔ R u ∧ lb u = nI l) := fun u hu => by
      rw [tb_and, hR u (by omega), hMb u (by omega)]
      exact ⟨fun q => ⟨q.1, q.2.2⟩, fun q => ⟨q.1, hu, q.2⟩⟩
    by_cases e0 : m &&& M = 0
    · have hno : ¬ whas R lb l n := fun ⟨u, hu, h1⟩ => by
        have := (hFb u hu).mpr h1
        rw [e0] at this
        simp at this
      refine ok_t (by rw [e0]; exact nI_0) (hback _ ⟨nI_add1 l, ?_⟩)
      rw [wnt_no hno]
      exact h
    · have hyes : whas R lb l n := by
        obtain ⟨u, hu, u1, u2⟩ := ne512 (a := 0) (by omega) hF (fun z => e0 z.symm) (fun i _ q => by simp at q)
        have u3 := (hMb u hu).mp (tb_and.mp u1).2
        exact ⟨u, u3.1, (hFb u u3.1).mp u1⟩
      refine ok_f (fun q => e0 (nI_inj (by omega) (by omega) (q.trans nI_lit0))) (ok_bind (h_weightTo hn (by omega) hF hFb hl) (fun r hr => ?_))
      subst hr
      refine ok_jn (fun _ => wnt R L lb n (lb v) (l + 1) = some (l, wsum R L lb l n)) (fun k hk => ?_) (fun _ hst => hback _ ⟨nI_add1 l, Or.inr ⟨_, _, hst, rfl, rfl⟩⟩)
      have hw := wsum_in (R := R) (lb := lb) (l := l) hn hL
      rcases h with ⟨h1, rfl⟩ | ⟨b, t, h1, rfl, rfl⟩
      · exact ok_t m1_lt0 (hk () (wnt_new hyes (fun b t q => by rw [h1] at q; cases q)))
      · have hbt := wnt_bd hn hL l b t h1
        refine ok_f (nI_pos (by omega)) ?_
        by_cases q1 : t < wsum R L lb l n
        · exact ok_t ((iZ_lt hbt.2 hw).mpr q1) (hk () (wnt_new hyes (fun b' t' q => by rw [h1] at q; cases q; exact Or.inl q1)))
        · refine ok_f (fun q => q1 ((iZ_lt hbt.2 hw).mp q)) ?_
          by_cases q2 : wsum R L lb l n = t
          · refine ok_t (by rw [q2]) ?_
            by_cases q3 : nI l = lb v
            · exact ok_t q3 (hk () (wnt_new hyes (fun b' t' q => by rw [h1] at q; cases q; exact Or.inr ⟨q2, q3⟩)))
            · refine ok_f q3 (hback _ ⟨nI_add1 l, Or.inr ⟨b, t, wnt_old hyes h1 (fun q => ?_), rfl, rfl⟩⟩)
              rcases q with q | q
              · exact q1 q
              · exact q3 q.2
          · refine ok_f (fun q => q2 ((iZ_eq hw hbt.2).mp q)) (hback _ ⟨nI_add1 l, Or.inr ⟨b, t, wnt_old hyes h1 (fun q => ?_), rfl, rfl⟩⟩)
            rcases q with q | q
            · exact q1 q
            · exact q2 q.1
  · rintro ⟨x, y, z⟩ back exit ⟨e, h⟩ hexit
    dsimp only at e h
    subst e
    unfold s_Sp_strongestLabel_15
    dsimp only
    exact ok_t (nI_le (Nat.le_refl n) (by omega)) (hexit _ ⟨rfl, h⟩)
  · rintro ⟨x, y, z⟩ ⟨e, h⟩
    dsimp only at e h ⊢
    unfold wres
    rcases h with ⟨h1, rfl⟩ | ⟨b, t, h1, rfl, rfl⟩
    · rw [h1]; exact ok_f m1_nge0 (ok_some rfl)
    · have hbt := wnt_bd hn hL n b t h1
      rw [h1]; exact ok_t (nI_pos' (by omega)) (ok_some rfl)
theorem h_wanted {n v : Nat} {bt jo sl lb : Nat → Int32} {L : Nat → Int} {R : Nat → Prop} (hn : n ≤ 9) (hv : v < n) (ha : ∀ u, u < n → sl u = lb u) (hl : ∀ u, u < n → bt (9 * v + u) = iZ (L u)) (hL : ∀ u, u < n → bd_ (L u) 1800) (hjo : ∀ u, u < n → (jo (9 * v + u) = 1 ∧ R u) ∨ (jo (9 * v + u) = 0 ∧ ¬ R u)) :
    ok (m_Mo_wanted (nI n) bt jo sl (nI v)) (fun r => r = wres R L lb n (lb v)) := by
  unfold m_Mo_wanted
  refine ok_t (inb_nI (by omega) (by omega)) ?_
  rw [nI_clamp (show v < 2 ^ 31 by omega), ha v hv]
  refine ok_cnt n 0 (fun l st => st.2.2.2 = nI l ∧ ((wnt R L lb n (lb v) l = none ∧ st.1 = 0 ∧ st.2.2.1 = lb v) ∨ ∃ b t, wnt R L lb n (lb v) l = some (b, t) ∧ st.1 = 1 ∧ st.2.2.1 = nI b ∧ st.2.1 = iZ t)) ?_ ?_ ?_ ⟨nI_lit0, Or.inl ⟨rfl, rfl, rfl⟩⟩ (Nat.zero_le n) (FU_big (by omega))
  · rintro l ⟨x, y, w, z⟩ back exit hl1 ⟨e, h⟩ hback
    dsimp only at e h
    subst e
    unfold s_Mo_wanted_15
    dsimp only
    refine ok_f (le_nI (by omega) (by omega) hl1) ?_
    refine ok_cnt n 0 (fun u st => st.2.2 = nI u ∧ st.2.1 = iZ (wsum R L lb l u) ∧ ((st.1 = 1 ∧ whas R lb l u) ∨ (st.1 = 0 ∧ ¬ whas R lb l u))) ?_ ?_ ?_ ⟨nI_lit0, rfl, Or.inr ⟨rfl, fun ⟨u, hu, _⟩ => absurd hu (Nat.not_lt_zero _)⟩⟩ (Nat.zero_le n) (FU_big (by omega))
    · rintro u ⟨a, b, c⟩ back2 exit2 hu ⟨e1, e2, e3⟩ hb2
      dsimp only at e1 e2 e3
      subst e1 e2
      unfold s_Mo_wanted_33
      dsimp only
      rw [nI9, pk_mul, nI_add, nI_clamp (show 9 * v + u < 2 ^ 31 by omega), nI_clamp (show u < 2 ^ 31 by omega), hl u hu, ha u hu]
      refine ok_f (le_nI (by omega) (by omega) hu) (ok_t (inb_nI (by omega) (by omega)) ?_)
      have keep : ¬ (R u ∧ lb u = nI l) → ok (back2 (a, iZ (wsum R L lb l u), nI u + 1)) _ := fun q => hb2 _ ⟨nI_add1 u, by rw [wsum_n q], by
        rcases e3 with ⟨e3, u', hu', q'⟩ | ⟨e3, q'⟩
        · exact Or.inl ⟨e3, u', by omega, q'⟩
        · refine Or.inr ⟨e3, fun ⟨u', hu', q2⟩ => ?_⟩
          by_cases e : u' = u
          · subst e; exact q q2
          · exact q' ⟨u', by omega, q2⟩⟩
      rcases hjo u hu with ⟨ej, hj⟩ | ⟨ej, hj⟩
      · rw [ej]
        refine ok_f n1_0 (ok_t (inb_nI (by omega) (by omega)) ?_)
        by_cases e : lb u = nI l
        · refine ok_t e (hb2 _ ⟨nI_add1 u, ?_, Or.inl ⟨rfl, u, by omega, hj, e⟩⟩)
          dsimp only
          rw [wsum_p ⟨hj, e⟩, iZ_add]
        · exact ok_f e (keep (fun q => e q.2))
      · rw [ej]
        exact ok_t rfl (keep (fun q => hj q.1))
    · rintro ⟨a, b, c⟩ back2 exit2 ⟨e1, h2⟩ he2
      dsimp only at e1 h2
      subst e1
      unfold s_Mo_wanted_33
      dsimp only
      exact ok_t (nI_le (Nat.le_refl n) (by omega)) (he2 _ ⟨rfl, h2⟩)
    · rintro ⟨a, b, c⟩ ⟨e1, e2, e3⟩
      dsimp only at e1 e2 e3 ⊢
      subst e1 e2
      rcases e3 with ⟨rfl, hyes⟩ | ⟨rfl, hno⟩
      · refine ok_f n1_0 ?_
        refine ok_jn (fun _ => wnt R L lb n (lb v) (l + 1) = some (l, wsum R L lb l n)) (fun k hk => ?_) (fun _ hst => hback _ ⟨nI_add1 l, Or.inr ⟨_, _, hst, rfl, rfl, rfl⟩⟩)
        have hw := wsum_in (R := R) (lb := lb) (l := l) hn hL
        rcases h with ⟨h1, rfl, -⟩ | ⟨b, t, h1, rfl, rfl, rfl⟩
        · exact ok_t rfl (hk () (wnt_new hyes (fun b t q => by rw [h1] at q; cases q)))
        · have hbt := wnt_bd hn hL l b t h1
          refine ok_f n1_0 ?_
          by_cases q1 : t < wsum R L lb l n
          · exact ok_t ((iZ_lt hbt.2 hw).mpr q1) (hk () (wnt_new hyes (fun b' t' q => by rw [h1] at q; cases q; exact Or.inl q1)))
          · refine ok_f (fun q => q1 ((iZ_lt hbt.2 hw).mp q)) ?_
            by_cases q2 : wsum R L lb l n = t
            · refine ok_t (by rw [q2]) (ok_t (inb_nI (by omega) (by omega)) ?_)
              rw [nI_clamp (show v < 2 ^ 31 by omega), ha v hv]
              by_cases q3 : nI l = lb v
              · exact ok_t q3 (hk () (wnt_new hyes (fun b' t' q => by rw [h1] at q; cases q; exact Or.inr ⟨q2, q3⟩)))
              · refine ok_f q3 (hback _ ⟨nI_add1 l, Or.inr ⟨b, t, wnt_old hyes h1 (fun q => ?_), rfl, rfl, rfl⟩⟩)
                rcases q with q | q
                · exact q1 q
                · exact q3 q.2
            · refine ok_f (fun q => q2 ((iZ_eq hw hbt.2).mp q)) (hback _ ⟨nI_add1 l, Or.inr ⟨b, t, wnt_old hyes h1 (fun q => ?_), rfl, rfl, rfl⟩⟩)
              rcases q with q | q
              · exact q1 q
              · exact q2 q.1
      · refine ok_t rfl (hback _ ⟨nI_add1 l, ?_⟩)
        rw [wnt_no hno]
        exact h
  · rintro ⟨x, y, w, z⟩ back exit ⟨e, h⟩ hexit
    dsimp only at e h
    subst e
    unfold s_Mo_wanted_15
    dsimp only
    exact ok_t (nI_le (Nat.le_refl n) (by omega)) (hexit _ ⟨rfl, h⟩)
  · rintro ⟨x, y, w, z⟩ ⟨e, h⟩
    dsimp only at e h ⊢
    unfold wres
    rcases h with ⟨h1, -, rfl⟩ | ⟨b, t, h1, -, rfl, -⟩
    · rw [h1]; exact ok_some rfl
    · rw [h1]; exact ok_some rfl
