/-! plateaus: the passes over all partitions -/
noncomputable def sgs (F : Nat → Prop) (G : Nat → Nat → Prop) (r : Option Nat) (j : Nat) : Option Nat := match r with
  | none => @ite _ (F j) (Classical.propDecidable _) (some j) none
  | some f => @ite _ (G j f) (Classical.propDecidable _) (some j) (some f)
theorem sgs_ny {F : Nat → Prop} {G : Nat → Nat → Prop} {j : Nat} (h : F j) : sgs F G none j = some j := if_pos h
theorem sgs_nn {F : Nat → Prop} {G : Nat → Nat → Prop} {j : Nat} (h : ¬ F j) : sgs F G none j = none := if_neg h
theorem sgs_sy {F : Nat → Prop} {G : Nat → Nat → Prop} {j f : Nat} (h : G j f) : sgs F G (some f) j = some j := if_pos h
theorem sgs_sn {F : Nat → Prop} {G : Nat → Nat → Prop} {j f : Nat} (h : ¬ G j f) : sgs F G (some f) j = some f := if_neg h
noncomputable def sg (F : Nat → Prop) (G : Nat → Nat → Prop) : Nat → Option Nat
  | 0 => none
  | j + 1 => sgs F G (sg F G j) j
theorem sg_s (F : Nat → Prop) (G : Nat → Nat → Prop) (j : Nat) : sg F G (j + 1) = sgs F G (sg F G j) j := rfl
def G0 (A B : Nat → Int) (j f : Nat) : Prop := A f < A j ∨ (A j = A f ∧ B j < B f)
def F1 (B : Nat → Int) (b : Int) (j : Nat) : Prop := B j < b
def G1 (A B : Nat → Int) (a b : Int) (j f : Nat) : Prop := B j < b ∧ ((a - A j) * (b - B f) < (a - A f) * (b - B j) ∨ ((a - A j) * (b - B f) = (a - A f) * (b - B j) ∧ B j < B f))
theorem sg0 (A B : Nat → Int) : ∀ J, (J = 0 ∧ sg (fun _ => True) (G0 A B) J = none) ∨ ∃ f, sg (fun _ => True) (G0 A B) J = some f ∧ f < J ∧ ∀ j, j < J → A j < A f ∨ (A j = A f ∧ B f ≤ B j)
  | 0 => Or.inl ⟨rfl, rfl⟩
  | J + 1 => by
    right
    rw [sg_s]
    rcases sg0 A B J with ⟨e, h⟩ | ⟨f, h, hf, ha⟩
    · rw [h, sgs_ny trivial]
      exact ⟨J, rfl, by omega, fun j hj => by rw [show j = J by omega]; exact Or.inr ⟨rfl, Int.le_refl _⟩⟩
    · rw [h]
      by_cases g : G0 A B J f
      · rw [sgs_sy g]
        refine ⟨J, rfl, by omega, fun j hj => ?_⟩
        by_cases e : j = J
        · rw [e]; exact Or.inr ⟨rfl, Int.le_refl _⟩
        · have := ha j (by omega)
          unfold G0 at g
          omega
      · rw [sgs_sn g]
        refine ⟨f, rfl, by omega, fun j hj => ?_⟩
        by_cases e : j = J
        · rw [e]; unfold G0 at g; omega
        · exact ha j (by omega)
theorem cross {u d u' d' u'' d'' : Int} (hd : 0 < d) (hd' : 0 < d') (hd'' : 0 < d'') (h1 : u' * d ≤ u * d') (h2 : u * d'' ≤ u'' * d) : u' * d'' ≤ u'' * d' := by
  have h3 := Int.mul_le_mul_of_nonneg_right h1 (Int.le_of_lt hd'')
  have h4 := Int.mul_le_mul_of_nonneg_right h2 (Int.le_of_lt hd')
  rw [Int.mul_right_comm u' d d'', Int.mul_right_comm u d' d''] at h3
  rw [Int.mul_right_comm u'' d d'] at h4
  exact Int.le_of_mul_le_mul_right (Int.le_trans h3 h4) hd
theorem sg1 (A B : Nat → Int) (a b : Int) : ∀ J, (sg (F1 B b) (G1 A B a b) J = none ∧ ∀ j, j < J → ¬ B j < b) ∨ ∃ f, sg (F1 B b) (G1 A B a b) J = some f ∧ f < J ∧ B f < b ∧ ∀ j, j < J → B j < b → (a - A f) * (b - B j) ≤ (a - A j) * (b - B f)
  | 0 => Or.inl ⟨rfl, fun _ h => absurd h (Nat.not_lt_zero _)⟩
  | J + 1 => by
    rw [sg_s]
    rcases sg1 A B a b J with ⟨h, hn⟩ | ⟨f, h, hf, hB, ha⟩
    · rw [h]
      by_cases g : B J < b
      · rw [sgs_ny (show F1 B b J from g)]
        refine Or.inr ⟨J, rfl, by omega, g, fun j hj hb => ?_⟩
        by_cases e : j = J
        · rw [e]; exact Int.le_refl _
        · exact absurd hb (hn j (by omega))
      · rw [sgs_nn (show ¬ F1 B b J from g)]
        refine Or.inl ⟨rfl, fun j hj => ?_⟩
        by_cases e : j = J
        · rw [e]; exact g
        · exact hn j (by omega)
    · rw [h]
      right
      by_cases g : G1 A B a b J f
      · rw [sgs_sy g]
        refine ⟨J, rfl, by omega, g.1, fun j hj hb => ?_⟩
        by_cases e : j = J
        · rw [e]; exact Int.le_refl _
        · refine cross (u := a - A f) (d := b - B f) (by omega) (by have := g.1; omega) (by omega) ?_ (ha j (by omega) hb)
          rcases g.2 with q | q
          · exact Int.le_of_lt q
          · exact Int.le_of_eq q.1
      · rw [sgs_sn g]
        refine ⟨f, rfl, by omega, hB, fun j hj hb => ?_⟩
        by_cases e : j = J
        · rw [e] at hb ⊢
          exact Int.not_lt.mp (fun q => g ⟨hb, Or.inl q⟩)
        · exact ha j (by omega) hb
noncomputable def pl (A B : Nat → Int) (N : Nat) : Nat → Option Nat
  | 0 => sg (fun _ => True) (G0 A B) N
  | i + 1 => match pl A B N i with
    | none => none
    | some f => sg (F1 B (B f)) (G1 A B (A f) (B f)) N
theorem pl_0 (A B : Nat → Int) (N : Nat) : pl A B N 0 = sg (fun _ => True) (G0 A B) N := rfl
theorem pl_s {A B : Nat → Int} {N i f : Nat} (h : pl A B N i = some f) : pl A B N (i + 1) = sg (F1 B (B f)) (G1 A B (A f) (B f)) N := by
  show (match pl A B N i with | none => none | some f => sg (F1 B (B f)) (G1 A B (A f) (B f)) N) = _
  rw [h]
theorem pl_n {A B : Nat → Int} {N i : Nat} (h : pl A B N i = none) : pl A B N (i + 1) = none := by
  show (match pl A B N i with | none => none | some f => sg (F1 B (B f)) (G1 A B (A f) (B f)) N) = _
  rw [h]
theorem pl_pre {A B : Nat → Int} {N i g : Nat} (h : pl A B N (i + 1) = some g) : ∃ f, pl A B N i = some f := by
  cases e : pl A B N i with
  | none => rw [pl_n e] at h; cases h
  | some f => exact ⟨f, rfl⟩
theorem pl_inv {A B : Nat → Int} {N : Nat} : ∀ i f, pl A B N i = some f → f < N ∧ ∀ j, j < N → B j < B f → A j < A f
  | 0, f, h => by
    rw [pl_0] at h
    rcases sg0 A B N with ⟨_, e⟩ | ⟨g, e, hg, ha⟩
    · rw [e] at h; cases h
    · rw [e] at h; cases h
      refine ⟨hg, fun j hj hb => ?_⟩
      have := ha j hj
      omega
  | i + 1, g, h => by
    obtain ⟨f, hf⟩ := pl_pre h
    have ih := pl_inv i f hf
    rw [pl_s hf] at h
    rcases sg1 A B (A f) (B f) N with ⟨e, _⟩ | ⟨g', e, hg, hB, ha⟩
    · rw [e] at h; cases h
    · rw [e] at h; cases h
      refine ⟨hg, fun j hj hb => ?_⟩
      have hAg := ih.2 g hg hB
      rcases Int.lt_or_le (A j) (A g) with q | q
      · exact q
      · exfalso
        have h1 := ha j hj (by omega)
        have h2 : (A f - A j) * (B f - B g) ≤ (A f - A g) * (B f - B g) := Int.mul_le_mul_of_nonneg_right (by omega) (by omega)
        have h3 : (A f - A g) * (B f - B g) < (A f - A g) * (B f - B j) := Int.mul_lt_mul_of_pos_left (by omega) (by omega)
        omega
theorem pl_fall {A B : Nat → Int} {N i f g : Nat} (h1 : pl A B N i = some f) (h2 : pl A B N (i + 1) = some g) : B g < B f ∧ A g < A f := by
  have hf := pl_inv i f h1
  rw [pl_s h1] at h2
  rcases sg1 A B (A f) (B f) N with ⟨e, _⟩ | ⟨g', e, hg, hB, ha⟩
  · rw [e] at h2; cases h2
  · rw [e] at h2; cases h2
    exact ⟨hB, hf.2 g hg hB⟩
def few (A B : Nat → Int) : Prop := (∃ (W : Int) (w : Nat → Int), (0 ≤ W ∧ W ≤ 1800) ∧ ∀ j, A j = 4 * W * w j ∧ 0 ≤ w j ∧ w j ≤ W) ∨ ∀ j, 0 ≤ B j ∧ B j ≤ 36
theorem pl_few {A B : Nat → Int} {N : Nat} (h : few A B) {i f : Nat} (hi : pl A B N i = some f) : i ≤ 1800 := by
  rcases h with ⟨W, w, hW, hw⟩ | hb
  · have key : ∀ i f, pl A B N i = some f → w f + i ≤ W := by
      intro i
      induction i with
      | zero => intro f _; have := (hw f).2.2; omega
      | succ i ih =>
        intro g hg
        obtain ⟨f, hf⟩ := pl_pre hg
        have h1 := ih f hf
        have h2 := (pl_fall hf hg).2
        rw [(hw g).1, (hw f).1] at h2
        have h3 : w g < w f := Int.lt_of_mul_lt_mul_left h2 (by omega)
        omega
    have := key i f hi
    have := (hw f).2.1
    omega
  · have key : ∀ i f, pl A B N i = some f → B f + i ≤ 36 := by
      intro i
      induction i with
      | zero => intro f _; have := (hb f).2; omega
      | succ i ih =>
        intro g hg
        obtain ⟨f, hf⟩ := pl_pre hg
        have h1 := ih f hf
        have h2 := (pl_fall hf hg).1
        omega
    have := key i f hi
    have := (hb f).1
    omega
def isC (A B : Nat → Int) (N c : Nat) : Prop := pl A B N c = none ∧ ∀ s, s < c → ∃ f, pl A B N s = some f
theorem isC_uniq {A B : Nat → Int} {N c d : Nat} (h : isC A B N c) (g : isC A B N d) : c = d := by
  rcases Nat.lt_trichotomy c d with q | q | q
  · obtain ⟨f, hf⟩ := g.2 c q
    rw [h.1] at hf; cases hf
  · exact q
  · obtain ⟨f, hf⟩ := h.2 d q
    rw [g.1] at hf; cases hf
theorem isC_ex {A B : Nat → Int} {N : Nat} (h : few A B) (hN : 0 < N) : ∃ c, isC A B N c ∧ 1 ≤ c ∧ c ≤ 1801 := by
  have h1 : ∀ m, pl A B N m = none → ∃ c, c ≤ m ∧ isC A B N c := by
    intro m
    induction m with
    | zero => intro e; exact ⟨0, Nat.le_refl _, e, fun _ q => absurd q (Nat.not_lt_zero _)⟩
    | succ m ih =>
      intro e
      cases e2 : pl A B N m with
      | none => obtain ⟨c, hc, h2⟩ := ih e2; exact ⟨c, by omega, h2⟩
      | some f =>
        refine ⟨m + 1, Nat.le_refl _, e, ?_⟩
        have all : ∀ d s, s + d = m → ∃ f, pl A B N s = some f := by
          intro d
          induction d with
          | zero => intro s hs; rw [show s = m by omega]; exact ⟨f, e2⟩
          | succ d ihd =>
            intro s hs
            obtain ⟨g, hg⟩ := ihd (s + 1) (by omega)
            exact pl_pre hg
        exact fun s hs => all (m - s) s (by omega)
  have h2 : pl A B N 1801 = none := by
    cases e : pl A B N 1801 with
    | none => rfl
    | some f => have := pl_few h e; omega
  obtain ⟨c, hc, h3⟩ := h1 1801 h2
  refine ⟨c, h3, ?_, hc⟩
  rcases Nat.eq_zero_or_pos c with q | q
  · exfalso
    subst q
    have e := h3.1
    rw [pl_0] at e
    rcases sg0 A B N with ⟨e2, _⟩ | ⟨f, e2, _⟩
    · omega
    · rw [e2] at e; cases e
  · exact q
/-- the numbers above and below the line at which the plateau s begins, not yet reduced -/
noncomputable def tb (A B : Nat → Int) (N : Nat) : Nat → Nat × Nat
  | 0 => (0, 1)
  | s + 1 => match pl A B N s, pl A B N (s + 1) with
    | some f, some g => ((A f - A g).toNat, (B f - B g).toNat)
    | _, _ => (0, 1)
theorem tb_s {A B : Nat → Int} {N s f g : Nat} (h1 : pl A B N s = some f) (h2 : pl A B N (s + 1) = some g) : tb A B N (s + 1) = ((A f - A g).toNat, (B f - B g).toNat) := by
  show (match pl A B N s, pl A B N (s + 1) with
    | some f, some g => ((A f - A g).toNat, (B f - B g).toNat)
    | _, _ => (0, 1)) = _
  rw [h1, h2]
theorem lN_jZ {z : Int} (h : 0 ≤ z) : jZ z = lN z.toNat := by
  obtain ⟨k, rfl⟩ := Int.eq_ofNat_of_zero_le h
  rfl
def smal (A : Nat → Int) : Prop := ∀ j, bd_ (A j) 1100000000
theorem tb_num {A B : Nat → Int} {N s f g : Nat} (hA : smal A) (hB : smal B) (h1 : pl A B N s = some f) (h2 : pl A B N (s + 1) = some g) : jZ (A f) - jZ (A g) = lN (tb A B N (s + 1)).1 ∧ jZ (B f) - jZ (B g) = lN (tb A B N (s + 1)).2 ∧ (tb A B N (s + 1)).1 < 2 ^ 32 ∧ 0 < (tb A B N (s + 1)).2 ∧ (tb A B N (s + 1)).2 < 2 ^ 32 := by
  have hf := pl_fall h1 h2
  have a1 := hA f
  have a2 := hA g
  have b1 := hB f
  have b2 := hB g
  unfold bd_ at a1 a2 b1 b2
  rw [tb_s h1 h2, ← jZ_sub, ← jZ_sub, lN_jZ (by omega), lN_jZ (by omega)]
  dsimp only
  exact ⟨rfl, rfl, by omega, by omega, by omega⟩
/-! the common divisor -/
def eI (G i a b : Nat) : Prop := Nat.gcd a b = G ∧ a < 2 ^ 62 ∧ b < 2 ^ 62 ∧ i ≤ 67 ∧ ((i = 0 ∧ a < 2 ^ 32 ∧ b < 2 ^ 32) ∨ (b < a ∧ a * b * 2 ^ i ≤ 2 ^ 66))
theorem eI_0 {a b : Nat} (ha : a < 2 ^ 32) (hb : b < 2 ^ 32) : eI (Nat.gcd a b) 0 a b := ⟨rfl, by omega, by omega, by omega, Or.inl ⟨rfl, ha, hb⟩⟩
theorem eI_b {G i a b : Nat} (h : eI G i a b) (hb : b ≠ 0) : i ≤ 66 := by
  rcases h.2.2.2.2 with q | ⟨q1, q2⟩
  · omega
  · have h1 : 1 ≤ a * b := Nat.mul_pos (by omega) (by omega)
    have h2 : 1 * 2 ^ i ≤ a * b * 2 ^ i := Nat.mul_le_mul_right _ h1
    have h3 : 2 ^ i ≤ 2 ^ 66 := by omega
    exact (Nat.pow_le_pow_iff_right (by omega)).mp h3
theorem eI_s {G i a b : Nat} (h : eI G i a b) (hb : b ≠ 0) : eI G (i + 1) b (a % b) := by
  have h66 := eI_b h hb
  have hm : a % b < b := Nat.mod_lt _ (by omega)
  refine ⟨?_, h.2.2.1, by have := h.2.2.1; omega, by omega, Or.inr ⟨hm, ?_⟩⟩
  · rw [Nat.gcd_comm, ← Nat.gcd_rec, Nat.gcd_comm]; exact h.1
  · rcases h.2.2.2.2 with ⟨rfl, q1, q2⟩ | ⟨q1, q2⟩
    · have h1 : b * (a % b) ≤ 2 ^ 32 * 2 ^ 32 := Nat.mul_le_mul (by omega) (by omega)
      have h2 : b * (a % b) * 2 ^ (0 + 1) ≤ 2 ^ 32 * 2 ^ 32 * 2 ^ (0 + 1) := Nat.mul_le_mul_right _ h1
      exact Nat.le_trans h2 (by decide)
    · have h1 : 2 * (a % b) ≤ a := by
        have := Nat.mod_add_div a b
        have h3 : 1 ≤ a / b := (Nat.one_le_div_iff (by omega)).mpr (by omega)
        have h4 : b * 1 ≤ b * (a / b) := Nat.mul_le_mul_left _ h3
        omega
      have h2 : b * (a % b) * 2 ^ (i + 1) = (2 * (a % b)) * b * 2 ^ i := by
        rw [Nat.pow_succ, Nat.mul_comm 2 (a % b), Nat.mul_comm b (a % b), Nat.mul_assoc, Nat.mul_assoc, Nat.mul_assoc, Nat.mul_left_comm 2 b, Nat.mul_comm 2 (2 ^ i)]
      rw [h2]
      refine Nat.le_trans ?_ q2
      exact Nat.mul_le_mul_right _ (Nat.mul_le_mul_right _ h1)
theorem lN_0 : lN 0 = 0 := rfl
theorem lN_inj {a b : Nat} (ha : a < 2 ^ 62) (hb : b < 2 ^ 62) (h : lN a = lN b) : a = b := by
  have h1 : (lN a).toBitVec.toNat = (lN b).toBitVec.toNat := by rw [h]
  rw [wb_tn (by omega), wb_tn (by omega)] at h1
  exact h1
theorem lN_ne {b : Nat} (hb : b < 2 ^ 62) (h0 : b ≠ 0) : ¬ lN b = 0 := fun q => h0 (lN_inj hb (by omega) (q.trans lN_0.symm))
theorem lN_pos {a : Nat} (ha : a < 2 ^ 62) (h0 : 0 < a) : (0 : Int64) < lN a := by
  have h : jZ 0 < jZ (a : Int) := (jZ_lt ⟨by omega, by omega⟩ ⟨by omega, by omega⟩).mpr (by omega)
  exact h
theorem lN_abs {a : Nat} (ha : a < 2 ^ 62) : (if (0 : Int64) < lN a then lN a else -(lN a)) = lN a := by
  rcases Nat.eq_zero_or_pos a with e | e
  · subst e; decide +kernel
  · rw [if_pos (lN_pos ha e)]
theorem h_commonDivisor {a b : Nat} (ha : a < 2 ^ 32) (hb : b < 2 ^ 32) : ok (m_St_commonDivisor (lN a) (lN b)) (fun r => r = lN (Nat.gcd a b)) := by
  unfold m_St_commonDivisor
  rw [lN_abs (by omega), lN_abs (by omega)]
  refine ok_ghost 68 0 (fun i st => ∃ a' b', st.1 = lN a' ∧ st.2.1 = lN b' ∧ st.2.2 = nI i ∧ eI (Nat.gcd a b) i a' b') (fun st => st.1 = lN (Nat.gcd a b)) ?_ ?_ (fun j st ⟨_, _, _, _, _, h⟩ => by have := h.2.2.2.1; omega) ⟨a, b, rfl, rfl, nI_lit0, eI_0 ha hb⟩ (FU_big (by omega))
  · rintro i ⟨x, y, z⟩ back exit ⟨a', b', e1, e2, e3, h⟩ hback hexit
    dsimp only at e1 e2 e3
    subst e1 e2 e3
    unfold s_St_commonDivisor_15
    dsimp only
    by_cases q : b' = 0
    · subst q
      refine ok_t rfl (hexit _ ?_)
      have := h.1
      rw [Nat.gcd_zero_right] at this
      rw [this]
    · have h66 := eI_b h q
      have n100 : (100 : Int32) = nI 100 := by decide +kernel
      refine ok_f (lN_ne h.2.2.1 q) (ok_f (by rw [n100]; exact le_nI (by omega) (by omega) (by omega)) (ok_t (lN_ne h.2.2.1 q) (hback _ ⟨b', a' % b', rfl, ?_, nI_add1 i, eI_s h q⟩)))
      dsimp only
      exact pk_lRem (by have := h.2.1; omega) (by omega) (by have := h.2.2.1; omega)
  · rintro ⟨x, y, z⟩ h
    exact ok_some h
theorem last_ex {n : Nat} (hn : n ≤ 9) : ∃ K, isLast n K := by
  have h : ∀ d m, isNo n m → m + d = 21147 → ∃ K, isLast n K := by
    intro d
    induction d with
    | zero => intro m h e; have := isNo_lt hn h; omega
    | succ d ih =>
      intro m h e
      obtain ⟨o, _, q⟩ := h_next (wk := fun i => nI (en n m i)) hn h.1 (fun i _ => rfl)
      rcases q with q | ⟨i, q, _⟩
      · exact ⟨m, h, q.2.1⟩
      · exact ih (m + 1) (isNo_s h q) (by omega)
  exact h 21147 0 (isNo_0 n) (by omega)
/-! room -/
def capf (N : Nat) : Nat → Nat
  | 0 => N
  | s + 1 => if s < capf N s then capf N s else 2 * s
theorem capf_lt {N s : Nat} (h : s < capf N s) : capf N (s + 1) = capf N s := if_pos h
theorem capf_ge {N s : Nat} (h : ¬ s < capf N s) : capf N (s + 1) = 2 * s := if_neg h
theorem capf_bd {N : Nat} (h8 : 8 ≤ N) (hN : N ≤ 4096) : ∀ s, s ≤ 1801 → N ≤ capf N s ∧ capf N s ≤ 4096 ∧ s ≤ capf N s
  | 0, _ => ⟨Nat.le_refl _, hN, Nat.zero_le _⟩
  | s + 1, hs => by
    have ih := capf_bd h8 hN s (by omega)
    by_cases q : s < capf N s
    · rw [capf_lt q]; omega
    · rw [capf_ge q]; omega
theorem capf_mono {N : Nat} (h8 : 8 ≤ N) (hN : N ≤ 4096) {s : Nat} (hs : s ≤ 1800) : capf N s ≤ capf N (s + 1) := by
  have ih := capf_bd h8 hN s (by omega)
  by_cases q : s < capf N s
  · rw [capf_lt q]; exact Nat.le_refl _
  · rw [capf_ge q]; omega
theorem capf_le {N : Nat} (h8 : 8 ≤ N) (hN : N ≤ 4096) {s : Nat} : ∀ d, s + d ≤ 1801 → capf N s ≤ capf N (s + d)
  | 0, _ => Nat.le_refl _
  | d + 1, h => Nat.le_trans (capf_le h8 hN d (by omega)) (capf_mono h8 hN (by omega))
/-! the plateaus, as the class keeps them and as the reference does -/
def tS (n : Nat) (A B : Nat → Int) (N c : Nat) (above below codes : Nat → Int64) : Prop := ∀ s, s < c → (∃ f, pl A B N s = some f ∧ isNo n f ∧ codes s = lN (cdN (en n f) n)) ∧ above s = lN ((tb A B N s).1 / Nat.gcd (tb A B N s).1 (tb A B N s).2) ∧ below s = lN ((tb A B N s).2 / Nat.gcd (tb A B N s).1 (tb A B N s).2)
def rS (n : Nat) (A B : Nat → Int) (N c : Nat) (above below codes : Nat → Int64) : Prop := ∀ s, s < c → (∃ f, pl A B N s = some f ∧ isNo n f ∧ codes s = lN (cdN (en n f) n)) ∧ above s = lN (tb A B N s).1 ∧ below s = lN (tb A B N s).2
def fnd (n : Nat) (A B : Nat → Int) (r : Option Nat) (f : Int32) (fa fb fc : Int64) : Prop := (r = none ∧ f = 0) ∨ ∃ g, r = some g ∧ isNo n g ∧ f = 1 ∧ fa = jZ (A g) ∧ fb = jZ (B g) ∧ fc = lN (cdN (en n g) n)
