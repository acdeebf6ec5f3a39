/-! a partition as one long (the family wb_ is the kit's starting text, pasted); decoding; canonical numbers of a growth string -/
theorem wb_tb (n : Nat) : (lN n).toBitVec = BitVec.ofNat 64 n := rfl
theorem wb_inj {a b : Int64} (h : a.toBitVec = b.toBitVec) : a = b := Int64.toBitVec_inj.mp h
theorem wb_tn {n : Nat} (h : n < 2 ^ 64) : (lN n).toBitVec.toNat = n := by rw [wb_tb, BitVec.toNat_ofNat, Nat.mod_eq_of_lt h]
theorem wb_of (x : Int64) : ∃ n, n < 2 ^ 64 ∧ x = lN n := ⟨x.toBitVec.toNat, x.toBitVec.isLt, wb_inj (by rw [wb_tb]; simp)⟩
theorem wb_of32 (x : Int32) : ∃ n, n < 2 ^ 32 ∧ x = nI n := ⟨x.toBitVec.toNat, x.toBitVec.isLt, Int32.toBitVec_inj.mp (by show _ = BitVec.ofNat 32 _; simp)⟩
theorem wb_c : ∀ k, k < 64 → ((nI k).toInt64 &&& 63) = lN k := by decide +kernel
theorem wb_cu : ∀ k, k < 64 → ((nI k).toInt64.toUInt64 &&& Int64.toUInt64 63) = UInt64.ofNat k := by decide +kernel
theorem wb_sm : ∀ k, k < 64 → (BitVec.ofNat 64 k).smod 64 = BitVec.ofNat 64 k := by decide +kernel
theorem wb_pw {a b : Nat} (h : a ≤ b) : 2 ^ b = 2 ^ a * 2 ^ (b - a) := by rw [← Nat.pow_add]; congr 1; omega
theorem wb_lt2 {a b : Nat} (h : a < b) : 2 ^ a < 2 ^ b := Nat.pow_lt_pow_right (by decide) h
theorem wb_mod (n : Nat) : lN n = lN (n % 2 ^ 64) := wb_inj (by rw [wb_tb, wb_tb]; apply BitVec.eq_of_toNat_eq; rw [BitVec.toNat_ofNat, BitVec.toNat_ofNat, Nat.mod_mod])
theorem wb_shr {n k : Nat} (hn : n < 2 ^ 64) (hk : k < 64) : ((lN n).toUInt64 >>> ((nI k).toInt64.toUInt64 &&& Int64.toUInt64 63)).toInt64 = lN (n / 2 ^ k) := by
  rw [wb_cu k hk]
  apply wb_inj
  apply BitVec.eq_of_toNat_eq
  show ((lN n).toUInt64 >>> UInt64.ofNat k).toNat = (BitVec.ofNat 64 _).toNat
  have h1 : (UInt64.ofNat k).toNat = k := by
    show (BitVec.ofNat 64 k).toNat = k
    rw [BitVec.toNat_ofNat, Nat.mod_eq_of_lt (by omega)]
  have h2 : (lN n).toUInt64.toNat = n := wb_tn hn
  rw [UInt64.toNat_shiftRight, h1, h2, Nat.mod_eq_of_lt hk, Nat.shiftRight_eq_div_pow, BitVec.toNat_ofNat, Nat.mod_eq_of_lt (Nat.lt_of_le_of_lt (Nat.div_le_self _ _) hn)]
theorem wb_shl (n : Nat) {k : Nat} (hk : k < 64) : lN n <<< ((nI k).toInt64 &&& 63) = lN (n * 2 ^ k) := by
  rw [wb_c k hk]
  apply wb_inj
  rw [Int64.toBitVec_shiftLeft, wb_tb, wb_tb, wb_tb, wb_sm k hk]
  apply BitVec.eq_of_toNat_eq
  rw [BitVec.shiftLeft_eq', BitVec.toNat_shiftLeft, BitVec.toNat_ofNat, BitVec.toNat_ofNat, BitVec.toNat_ofNat, Nat.mod_eq_of_lt (show k < 2 ^ 64 by omega), Nat.shiftLeft_eq, Nat.mul_mod, Nat.mod_mod, ← Nat.mul_mod]
theorem wb_and {a b : Nat} (ha : a < 2 ^ 64) (hb : b < 2 ^ 64) : lN a &&& lN b = lN (a &&& b) := by
  apply wb_inj
  rw [Int64.toBitVec_and, wb_tb, wb_tb, wb_tb]
  apply BitVec.eq_of_toNat_eq
  rw [BitVec.toNat_and, BitVec.toNat_ofNat, BitVec.toNat_ofNat, BitVec.toNat_ofNat, Nat.mod_eq_of_lt ha, Nat.mod_eq_of_lt hb, Nat.mod_eq_of_lt (Nat.and_lt_two_pow _ hb)]
theorem wb_or {a b : Nat} (ha : a < 2 ^ 64) (hb : b < 2 ^ 64) : lN a ||| lN b = lN (a ||| b) := by
  apply wb_inj
  rw [Int64.toBitVec_or, wb_tb, wb_tb, wb_tb]
  apply BitVec.eq_of_toNat_eq
  rw [BitVec.toNat_or, BitVec.toNat_ofNat, BitVec.toNat_ofNat, BitVec.toNat_ofNat, Nat.mod_eq_of_lt ha, Nat.mod_eq_of_lt hb, Nat.mod_eq_of_lt (Nat.or_lt_two_pow ha hb)]
theorem wb_mask {n k : Nat} (hn : n < 2 ^ 64) (hk : k < 64) : lN n &&& lN (2 ^ k - 1) = lN (n % 2 ^ k) := by
  rw [wb_and hn (by have := wb_lt2 hk; omega), Nat.and_two_pow_sub_one_eq_mod]
theorem wb_a1 {n : Nat} (hn : n < 2 ^ 64) : lN n &&& 1 = lN (n % 2) := wb_mask (k := 1) hn (by decide)
theorem wb_bit {n k : Nat} (hn : n < 2 ^ 64) (hk : k < 64) : ((lN n).toUInt64 >>> ((nI k).toInt64.toUInt64 &&& Int64.toUInt64 63)).toInt64 &&& 1 = lN (n / 2 ^ k % 2) := by
  rw [wb_shr hn hk, wb_a1 (Nat.lt_of_le_of_lt (Nat.div_le_self _ _) hn)]

theorem p44 {i : Nat} (h : i ≤ 9) : 2 ^ (4 * i) ≤ 2 ^ 36 := Nat.pow_le_pow_right (by omega) (by omega)
/-- Walk.code -/
theorem h_code {n : Nat} {p : Nat → Nat} {gr : Nat → Int32} (hn : n ≤ 9) (hg : ∀ i, i < n → p i < 16 ∧ gr i = nI (p i)) : ok (m_Wa_code (nI n) gr) (fun r => r = lN (cdN p n)) := by
  unfold m_Wa_code
  refine ok_cnt n 0 (fun j st => st.1 = lN (cdN p j) ∧ st.2 = nI j) ?_ ?_ ?_ ⟨rfl, nI_lit0⟩ (Nat.zero_le _) (FU_big (by omega))
  · rintro j ⟨c, x⟩ back exit hj ⟨e1, e2⟩ hback
    dsimp only at e1 e2
    subst e1 e2
    obtain ⟨hp, eg⟩ := hg j hj
    unfold s_Wa_code_4
    dsimp only
    have h4 : (4 : Int32) = nI 4 := by decide +kernel
    rw [nI_clamp (show j < 2 ^ 31 by omega), eg, nI_l (by omega), h4, pk_mul, wb_shl _ (by omega)]
    refine ok_f (le_nI (by omega) (by omega) hj) (ok_t (inb_nI (by omega) (by omega)) (hback _ ⟨?_, nI_add1 j⟩))
    dsimp only
    have hl := cdN_lt (fun u hu => (hg u (by omega)).1 : ∀ u, u < j → p u < 16)
    have h36 := p44 (by omega : j ≤ 9)
    have hm : p j * 2 ^ (4 * j) ≤ 15 * 2 ^ 36 := Nat.mul_le_mul (by omega) h36
    rw [wb_or (by omega) (by omega)]
    show _ = lN (cdN p j + p j * 2 ^ (4 * j))
    congr 1
    have := Nat.two_pow_add_eq_or_of_lt hl (p j)
    rw [Nat.mul_comm (2 ^ (4 * j)) (p j)] at this
    rw [Nat.or_comm, ← this]
    omega
  · rintro ⟨c, x⟩ back exit ⟨e1, e2⟩ hexit
    dsimp only at e1 e2
    subst e1 e2
    unfold s_Wa_code_4
    dsimp only
    exact ok_t (nI_le (Nat.le_refl n) (by omega)) (hexit _ ⟨rfl, rfl⟩)
  · rintro ⟨c, x⟩ ⟨e1, e2⟩
    exact ok_some e1
theorem h_groupIn {n i : Nat} {p : Nat → Nat} (hn : n ≤ 9) (hi : i < n) (hp : ∀ j, j < n → p j < 16) : ok (m_Wa_groupIn (lN (cdN p n)) (nI i)) (fun r => r = nI (p i)) := by
  unfold m_Wa_groupIn
  refine ok_some ?_
  have hl := cdN_lt hp
  have h36 := p44 hn
  have h4 : (4 : Int32) = nI 4 := by decide +kernel
  have h15 : (15 : Int32) = nI 15 := by decide +kernel
  rw [h4, pk_mul, wb_shr (by omega) (by omega), lN_i, h15, nI_and, show (15 : Nat) = 2 ^ 4 - 1 from rfl, Nat.and_two_pow_sub_one_eq_mod, show (2 : Nat) ^ 4 = 16 from rfl, cdN_get hi hp]
/-- a growth string is numbered already -/
theorem opn_mono (w : Nat → Nat) {a b : Nat} (h : a ≤ b) : opn w a ≤ opn w b := by
  induction b with
  | zero => rw [show a = 0 by omega]; exact Nat.le_refl _
  | succ b ih =>
    rcases Nat.lt_or_ge b a with h1 | h1
    · rw [show a = b + 1 by omega]; exact Nat.le_refl _
    · have := ih h1
      rw [opn_s]; omega
theorem lt_opn (w : Nat → Nat) {j k : Nat} (h : j < k) : w j < opn w k := by
  have h1 := opn_mono w (show j + 1 ≤ k by omega)
  rw [opn_s] at h1
  omega
theorem rgs_all {n : Nat} {w : Nat → Nat} (h : rgs n w) : ∀ k, k ≤ n → ∀ v, v < opn w k → ∃ j, j < k ∧ w j = v
  | 0, _, v, hv => absurd hv (Nat.not_lt_zero _)
  | k + 1, hk, v, hv => by
    rw [opn_s] at hv
    by_cases e : v < opn w k
    · obtain ⟨j, hj, ej⟩ := rgs_all h k (by omega) v e
      exact ⟨j, by omega, ej⟩
    · have := h k (by omega)
      exact ⟨k, by omega, by omega⟩
theorem rgs_fst {n i : Nat} {w : Nat → Nat} (hn : n ≤ 1000) (h : rgs n w) (hi : i < n) : fst (lab w) i = i ↔ w i = opn w i := by
  have hw : ∀ j, j < n → w j < 2 ^ 31 := fun j hj => by have := rgs_le h hj; omega
  constructor
  · intro e
    have h1 := h i hi
    rcases Nat.lt_or_ge (w i) (opn w i) with q | q
    · obtain ⟨j, hj, ej⟩ := rgs_all h i (by omega) (w i) q
      have h2 := (fst_spec (lab w) i).2.2 j (by omega)
      exact absurd ((lab_eq (hw j (by omega)) (hw i hi)).mpr ej) h2
    · omega
  · intro e
    refine fst_uniq rfl (fun k hk q => ?_)
    have h2 := (lab_eq (hw k (by omega)) (hw i hi)).mp q
    have h3 := lt_opn w hk
    omega
theorem rgs_cF {n : Nat} {w : Nat → Nat} (hn : n ≤ 1000) (h : rgs n w) : ∀ k, k ≤ n → cF (lab w) k = opn w k
  | 0, _ => rfl
  | k + 1, hk => by
    show cF (lab w) k + _ = _
    rw [rgs_cF hn h k (by omega), opn_s]
    have h1 := h k (by omega)
    by_cases e : w k = opn w k
    · rw [if_pos ((rgs_fst hn h (by omega)).mpr e), Nat.max_eq_right (by omega), e]
    · rw [if_neg (fun q => e ((rgs_fst hn h (by omega)).mp q)), Nat.max_eq_left (by omega)]; rfl
theorem rgs_cn {n i : Nat} {w : Nat → Nat} (hn : n ≤ 1000) (h : rgs n w) (hi : i < n) : cn (lab w) i = w i := by
  obtain ⟨a1, a2, a3⟩ := fst_spec (lab w) i
  have hw : ∀ j, j < n → w j < 2 ^ 31 := fun j hj => by have := rgs_le h hj; omega
  have e1 := (rgs_fst hn h (show fst (lab w) i < n by omega)).mp (fst_fst (lab w) i)
  unfold cn
  rw [rgs_cF hn h _ (by omega), ← e1]
  exact (lab_eq (hw _ (by omega)) (hw i hi)).mp a2
/-- Partition.decode of a growth string -/
theorem h_decode {n : Nat} {p : Nat → Nat} {g nm : Nat → Int32} (hn : n ≤ 9) (hr : rgs n p) : ok (m_Pa_decode g nm (lN (cdN p n)) (nI n)) (fun o => o.1 = nI n ∧ o.2.1 = nI (opn p n) ∧ ∀ i, i < n → o.2.2.1 i = nI (p i)) := by
  have hp : ∀ j, j < n → p j < 16 := fun j hj => by have := rgs_le hr hj; omega
  unfold m_Pa_decode
  refine ok_cnt n 0 (fun j st => st.1 = nI j ∧ ∀ i, i < j → st.2 i = nI (p i)) ?_ ?_ ?_ ⟨nI_lit0, fun _ h => absurd h (Nat.not_lt_zero _)⟩ (Nat.zero_le _) (FU_big (by omega))
  · rintro j ⟨x, a⟩ back exit hj ⟨e, h⟩ hback
    dsimp only at e h
    subst e
    unfold s_Pa_decode_8
    dsimp only
    rw [nI_clamp (show j < 2 ^ 31 by omega)]
    refine ok_f (le_nI (by omega) (by omega) hj) (ok_bind (h_groupIn hn hj hp) (fun r hr2 => ok_t (inb_nI (by omega) (by omega)) (hback _ ⟨nI_add1 j, fun i hi => ?_⟩)))
    dsimp only
    by_cases e : i = j
    · subst e; rw [pk_us]; exact hr2
    · rw [pk_un e]; exact h i (by omega)
  · rintro ⟨x, a⟩ back exit ⟨e, h⟩ hexit
    dsimp only at e
    subst e
    unfold s_Pa_decode_8
    dsimp only
    exact ok_t (nI_le (Nat.le_refl n) (by omega)) (hexit _ ⟨rfl, h⟩)
  · rintro ⟨x, a⟩ ⟨e, h⟩
    dsimp only at e h ⊢
    have same : ∀ i j, i < n → j < n → (a i = a j ↔ lab p i = lab p j) := fun i j hi hj => by rw [h i hi, h j hj]; exact Iff.rfl
    refine ok_bind (h_renumber hn (fun i hi => ⟨p i, by have := rgs_le hr hi; omega, h i hi⟩)) (fun o ho => ok_some ⟨rfl, ?_, fun i hi => ?_⟩)
    · rw [ho.1, cF_same same n (Nat.le_refl n), rgs_cF (by omega) hr n (Nat.le_refl n)]
    · rw [ho.2.1 i hi, cn_same same hi, rgs_cn (by omega) hr hi]
