/-! plateaus: the class -/
theorem smalJ {A : Nat → Int} (h : smal A) (j : Nat) : inJ (A j) := inJ_bd (h j) (by decide)
theorem h_higher {n j : Nat} {A B : Nat → Int} {r : Option Nat} {f : Int32} {fa fb fc : Int64} (hA : smal A) (hB : smal B) (h : fnd n A B r f fa fb fc) :
    ok (m_St_standsHigher f fa fb (jZ (A j)) (jZ (B j))) (fun t => (t = 1 ∧ sgs (fun _ => True) (G0 A B) r j = some j) ∨ (t = 0 ∧ sgs (fun _ => True) (G0 A B) r j = r)) := by
  unfold m_St_standsHigher
  rcases h with ⟨rfl, rfl⟩ | ⟨g, rfl, _, rfl, rfl, rfl, rfl⟩
  · exact ok_t rfl (ok_some (Or.inl ⟨rfl, sgs_ny trivial⟩))
  · have a1 := smalJ hA g
    have a2 := smalJ hA j
    have b1 := smalJ hB g
    have b2 := smalJ hB j
    refine ok_f n1_0 ?_
    by_cases q1 : A g < A j
    · exact ok_t ((jZ_lt a1 a2).mpr q1) (ok_some (Or.inl ⟨rfl, sgs_sy (Or.inl q1)⟩))
    · refine ok_f (fun z => q1 ((jZ_lt a1 a2).mp z)) ?_
      by_cases q2 : A j = A g
      · refine ok_t (by rw [q2]) ?_
        by_cases q3 : B j < B g
        · exact ok_f (fun z => by have := (jZ_le b1 b2).mp z; omega) (ok_some (Or.inl ⟨rfl, sgs_sy (Or.inr ⟨q2, q3⟩)⟩))
        · exact ok_t ((jZ_le b1 b2).mpr (by omega)) (ok_some (Or.inr ⟨rfl, sgs_sn (fun z => by unfold G0 at z; omega)⟩))
      · exact ok_f (fun z => q2 ((jZ_eq a2 a1).mp z)) (ok_some (Or.inr ⟨rfl, sgs_sn (fun z => by unfold G0 at z; omega)⟩))
theorem prodJ {A B : Nat → Int} {a b : Int} (hA : smal A) (hB : smal B) (ha : bd_ a 1100000000) (hb : bd_ b 1100000000) (j f : Nat) : inJ ((a - A j) * (b - B f)) := inJ_bd (bd_mul (bd_sub ha (hA j)) (bd_sub hb (hB f))) (by decide)
theorem h_sooner {n j : Nat} {A B : Nat → Int} {a b : Int} {r : Option Nat} {f : Int32} {fa fb fc : Int64} (hA : smal A) (hB : smal B) (ha : bd_ a 1100000000) (hb : bd_ b 1100000000) (h : fnd n A B r f fa fb fc) :
    ok (m_St_comesSooner (jZ a) (jZ b) f fa fb (jZ (A j)) (jZ (B j))) (fun t => (t = 1 ∧ sgs (F1 B b) (G1 A B a b) r j = some j) ∨ (t = 0 ∧ sgs (F1 B b) (G1 A B a b) r j = r)) := by
  unfold m_St_comesSooner
  have bj := smalJ hB j
  have bb : inJ b := inJ_bd hb (by decide)
  by_cases q0 : B j < b
  · refine ok_t ((jZ_lt bj bb).mpr q0) ?_
    rcases h with ⟨rfl, rfl⟩ | ⟨g, rfl, _, rfl, rfl, rfl, rfl⟩
    · exact ok_t rfl (ok_some (Or.inl ⟨rfl, sgs_ny q0⟩))
    · have bg := smalJ hB g
      simp only [← jZ_sub, ← jZ_mul]
      have p1 := prodJ hA hB ha hb j g
      have p2 := prodJ hA hB ha hb g j
      refine ok_f n1_0 ?_
      by_cases q1 : (a - A j) * (b - B g) < (a - A g) * (b - B j)
      · exact ok_t ((jZ_lt p1 p2).mpr q1) (ok_some (Or.inl ⟨rfl, sgs_sy ⟨q0, Or.inl q1⟩⟩))
      · refine ok_f (fun z => q1 ((jZ_lt p1 p2).mp z)) ?_
        by_cases q2 : (a - A j) * (b - B g) = (a - A g) * (b - B j)
        · refine ok_t (by rw [q2]) ?_
          by_cases q3 : B j < B g
          · exact ok_f (fun z => by have := (jZ_le bg bj).mp z; omega) (ok_some (Or.inl ⟨rfl, sgs_sy ⟨q0, Or.inr ⟨q2, q3⟩⟩⟩))
          · refine ok_t ((jZ_le bg bj).mpr (by omega)) (ok_some (Or.inr ⟨rfl, sgs_sn (fun z => ?_)⟩))
            rcases z.2 with z | z
            · exact q1 z
            · exact q3 z.2
        · refine ok_f (fun z => q2 ((jZ_eq p1 p2).mp z)) (ok_some (Or.inr ⟨rfl, sgs_sn (fun z => ?_)⟩))
          rcases z.2 with z | z
          · exact q1 z
          · exact q2 z.1
  · refine ok_f (fun z => q0 ((jZ_lt bj bb).mp z)) (ok_some (Or.inr ⟨rfl, ?_⟩))
    cases r with
    | none => exact sgs_nn q0
    | some g => exact sgs_sn (fun z => q0 z.1)
theorem h_note {n : Nat} {p : Nat → Nat} {gr : Nat → Int32} {a b : Int64} (hn : n ≤ 9) (hg : ∀ i, i < n → p i < 16 ∧ gr i = nI (p i)) : ok (m_St_note (nI n) gr a b) (fun x => x.1 = 1 ∧ x.2.1 = a ∧ x.2.2.1 = b ∧ x.2.2.2 = lN (cdN p n)) := by
  unfold m_St_note
  exact ok_bind (h_code hn hg) (fun r hr => ok_some ⟨rfl, rfl, rfl, hr⟩)
theorem h_scan {n : Nat} {FA FB : Nat → Nat → Int} {al : Int} {gr op : Nat → Int32} {sA sB : Nat → Int64} {pA pB bA bB : Nat → Nat → Int64} {cnt : Int32} {lA lB fa fb fc : Int64} {A B : Nat → Int} {F : Nat → Prop} {G : Nat → Nat → Prop} (hn : n ≤ 9) (ho : op 0 = 0) (hs : sA 0 = 0) (hA : ∀ a b, a < n → b < n → pA a b = jZ (FA a b) ∧ pB a b = jZ (FB a b)) (eA : ∀ j, sm2 n FA (en n j) = A j) (eB : ∀ j, al + sm2 n FB (en n j) = B j) (sA1 : smal A) (sB1 : smal B)
    (ht : (cnt = 0 ∧ F = (fun _ => True) ∧ G = G0 A B) ∨ (¬ cnt = 0 ∧ ∃ a b, lA = jZ a ∧ lB = jZ b ∧ bd_ a 1100000000 ∧ bd_ b 1100000000 ∧ F = F1 B b ∧ G = G1 A B a b)) :
    ok (m_St_scan (nI n) (jZ al) pA pB gr op sA sB bA bB cnt lA lB fa fb fc) (fun o => o.2.1 0 = 0 ∧ o.2.2.1 0 = 0 ∧ ∃ K, isLast n K ∧ fnd n A B (sg F G (K + 1)) o.2.2.2.2.2.2.1 o.2.2.2.2.2.2.2.1 o.2.2.2.2.2.2.2.2.1 o.2.2.2.2.2.2.2.2.2) := by
  unfold m_St_scan
  refine ok_bind (h_start hn ho hs hA) (fun r0 h0 => ?_)
  have n147 : (21147 : Int32) = nI 21147 := by decide +kernel
  refine ok_loop
    (fun st => (st.1 = 1 ∧ ∃ k, isNo n k ∧ st.2.1 = nI k ∧ WI n n (en n k) FA FB al st.2.2.2.2.1 st.2.2.2.2.2.1 st.2.2.2.2.2.2.1 st.2.2.2.2.2.2.2.1 st.2.2.1 st.2.2.2.1 ∧ fnd n A B (sg F G k) st.2.2.2.2.2.2.2.2.1 st.2.2.2.2.2.2.2.2.2.1 st.2.2.2.2.2.2.2.2.2.2.1 st.2.2.2.2.2.2.2.2.2.2.2) ∨
      (st.1 = 0 ∧ st.2.2.2.2.2.1 0 = 0 ∧ st.2.2.2.2.2.2.1 0 = 0 ∧ ∃ K, isLast n K ∧ fnd n A B (sg F G (K + 1)) st.2.2.2.2.2.2.2.2.1 st.2.2.2.2.2.2.2.2.2.1 st.2.2.2.2.2.2.2.2.2.2.1 st.2.2.2.2.2.2.2.2.2.2.2))
    (fun st => st.2.2.2.2.2.1 0 = 0 ∧ st.2.2.2.2.2.2.1 0 = 0 ∧ ∃ K, isLast n K ∧ fnd n A B (sg F G (K + 1)) st.2.2.2.2.2.2.2.2.1 st.2.2.2.2.2.2.2.2.2.1 st.2.2.2.2.2.2.2.2.2.2.1 st.2.2.2.2.2.2.2.2.2.2.2)
    (fun st => if st.1 = 0 then 0 else 21148 - st.2.1.toNatClampNeg) ?_ ?_ ?_ ?_
  · rintro ⟨more, seen, b1, b2, g, o, s1, s2, fd, f1, f2, f3⟩ back exit hI hback hexit
    unfold s_St_scan_16
    dsimp only at hI hback hexit ⊢
    rcases hI with ⟨rfl, k, hk, rfl, hw, hf⟩ | ⟨rfl, h1, h2, h3⟩
    · have hk9 := isNo_lt hn hk
      refine ok_f n1_0 (ok_f (by rw [n147]; exact le_nI (by omega) (by omega) hk9) ?_)
      refine ok_bind (h_wa hn hw) (fun a ha => ok_bind (h_wb hn hw) (fun b hb => ?_))
      rw [eA] at ha
      rw [eB] at hb
      subst ha hb
      have hpl : ∀ i, i < n → en n k i < 16 ∧ g i = nI (en n k i) := fun i hi => ⟨by have := rgs_le hk.1 hi; omega, hw.1 i hi⟩
      refine ok_jn (fun st => fnd n A B (sg F G (k + 1)) st.1 st.2.1 st.2.2.1 st.2.2.2) (fun kk hkk => ?_) (fun st hst => ?_)
      · refine ok_jn (fun _ => sg F G (k + 1) = some k) (fun k2 hk2 => ?_) (fun _ hb => ?_)
        · rcases ht with ⟨rfl, rfl, rfl⟩ | ⟨hc, a, b, rfl, rfl, ha, hb, rfl, rfl⟩
          · refine ok_t rfl (ok_bind (h_higher sA1 sB1 hf) (fun t ht => ?_))
            rw [← sg_s] at ht
            rcases ht with ⟨rfl, e⟩ | ⟨rfl, e⟩
            · exact ok_f n1_0 (hk2 () e)
            · refine ok_t rfl (hkk _ ?_)
              rw [e]; exact hf
          · refine ok_f hc (ok_bind (h_sooner sA1 sB1 ha hb hf) (fun t ht => ?_))
            rw [← sg_s] at ht
            rcases ht with ⟨rfl, e⟩ | ⟨rfl, e⟩
            · exact ok_f n1_0 (hk2 () e)
            · refine ok_t rfl (hkk _ ?_)
              rw [e]; exact hf
        · refine ok_bind (h_note hn hpl) (fun r hr => hkk _ ?_)
          rw [hb]
          exact Or.inr ⟨k, rfl, hk, hr.1, hr.2.1, hr.2.2.1, hr.2.2.2⟩
      · refine ok_bind (h_step hn hk.1 hA hw) (fun r hr => hback _ ?_ ?_)
        · rcases hr with ⟨e1, e2, e3⟩ | ⟨i, e1, e2, e3⟩
          · exact Or.inr ⟨e1, (e3.2.1 0 (Nat.zero_le n)).1, (e3.2.1 0 (Nat.zero_le n)).2.1, k, ⟨hk, e2⟩, hst⟩
          · refine Or.inl ⟨e2, k + 1, isNo_s hk e1, nI_add1 k, ?_, hst⟩
            rw [en_s e1]; exact e3
        · dsimp only
          rw [if_neg n1_0, nI_1, nI_clamp (by omega), nI_clamp (by omega)]
          split <;> omega
    · exact ok_t rfl (hexit _ ⟨h1, h2, h3⟩)
  · rintro ⟨more, seen, b1, b2, g, o, s1, s2, fd, f1, f2, f3⟩ h
    exact ok_some h
  · exact Or.inl ⟨rfl, 0, isNo_0 n, nI_lit0, h0, Or.inl ⟨rfl, rfl⟩⟩
  · refine FU_big ?_
    dsimp only
    rw [if_neg n1_0]
    omega
theorem two_nI (c : Nat) : (2 : Int32) * nI c = nI (2 * c) := by
  have h : (2 : Int32) = nI 2 := by decide +kernel
  rw [h, pk_mul]
theorem h_copyOf {N c : Nat} {q : Nat → Int64} (h8 : 8 ≤ N) (hN : N ≤ 4096) (hc : c = N) : ok (m_copyOf q N (nI (2 * c))) (fun f => ∀ s, s < c → f s = q s) := by
  subst hc
  have hm : mn_copyOf c (nI (2 * c)) = nI c := by
    show (if nI (2 * c) < nI c then nI (2 * c) else nI c) = nI c
    rw [if_neg (fun z => by have := (nI_ltI (by omega) (by omega)).mp z; omega)]
  unfold m_copyOf
  rw [hm, nI_clamp (show 2 * c < 2 ^ 31 by omega), nI_clamp (show c < 2 ^ 31 by omega)]
  refine ok_f (fun z => by have := nI_inj (by omega) (by omega) (show nI (2 * c) = nI c from z); omega) (ok_t ⟨nI_pos (by omega), ?_, nI_pos (by omega), Nat.le_refl _, by omega⟩ (ok_some (fun s hs => ?_)))
  · have : componentBytes .long = 8 := rfl
    rw [this]
    omega
  · rw [pk_cpy_in (Nat.zero_le _) (by omega)]
    congr 1
    omega
theorem h_makeRoom {N c : Nat} {ab be co : Nat → Int64} (h8 : 8 ≤ N) (hN : N ≤ 4096) (hc : c = N) : ok (m_St_makeRoom (nI c) ab N be N co N) (fun r => r.2.1 = 2 * c ∧ r.2.2.2.1 = 2 * c ∧ r.2.2.2.2.2 = 2 * c ∧ ∀ s, s < c → r.1 s = ab s ∧ r.2.2.1 s = be s ∧ r.2.2.2.2.1 s = co s) := by
  unfold m_St_makeRoom
  rw [two_nI]
  exact ok_bind (h_copyOf h8 hN hc) (fun f1 g1 => ok_bind (h_copyOf h8 hN hc) (fun f2 g2 => ok_bind (h_copyOf h8 hN hc) (fun f3 g3 => ok_some ⟨nI_clamp (by omega), nI_clamp (by omega), nI_clamp (by omega), fun s hs => ⟨g1 s hs, g2 s hs, g3 s hs⟩⟩)))
def keepB (N : Nat) (t : Int32) : Nat := if nI N ≤ t then 3 else 0
def keepS (N : Nat) (t : Int32) : Nat := if nI N ≤ t then 3 * ((2 : Int32) * t).toNatClampNeg else 0
theorem keepB_n {N c : Nat} (hN : N ≤ 4096) (h : c < N) : keepB N (nI c) = 0 ∧ keepS N (nI c) = 0 := by
  unfold keepB keepS
  rw [if_neg (le_nI (by omega) (by omega) h), if_neg (le_nI (by omega) (by omega) h)]
  exact ⟨rfl, rfl⟩
theorem keepB_y {N c : Nat} (hN : N ≤ 4096) (h : c = N) : keepB N (nI c) = 3 ∧ keepS N (nI c) = 6 * c := by
  unfold keepB keepS
  rw [if_pos (nI_le (by omega) (by omega)), if_pos (nI_le (by omega) (by omega)), two_nI, nI_clamp (by omega)]
  exact ⟨rfl, by omega⟩
theorem div_gcd {a b : Nat} (h0 : 0 < b) : 0 < Nat.gcd a b ∧ Nat.gcd a b ≤ b := ⟨Nat.gcd_pos_of_pos_right _ h0, Nat.gcd_le_right _ h0⟩
theorem h_keep {c N a b : Nat} {t : Int32} {fa fb fc v1 v3 : Int64} {above below codes : Nat → Int64} (et : t = nI c) (hcN : c ≤ N) (h8 : 8 ≤ N) (hN : N ≤ 4096) (ha : a < 2 ^ 32) (hb0 : 0 < b) (hb : b < 2 ^ 32) (e1 : v1 = lN a) (e3 : v3 = lN b) :
    ok (m_St_keep t fa fb fc above N below N codes N v1 v3 (keepB N t) (keepS N t)) (fun o => o.1 = nI (c + 1) ∧ o.2.1 = fa ∧ o.2.2.1 = fb ∧ o.2.2.2.2.1 = (if c < N then N else 2 * c) ∧ o.2.2.2.2.2.2.1 = (if c < N then N else 2 * c) ∧ o.2.2.2.2.2.2.2.2 = (if c < N then N else 2 * c) ∧ (∀ s, s < c → o.2.2.2.1 s = above s ∧ o.2.2.2.2.2.1 s = below s ∧ o.2.2.2.2.2.2.2.1 s = codes s) ∧ o.2.2.2.1 c = lN (a / Nat.gcd a b) ∧ o.2.2.2.2.2.1 c = lN (b / Nat.gcd a b) ∧ o.2.2.2.2.2.2.2.1 c = fc) := by
  subst et e1 e3
  obtain ⟨hg0, hgb⟩ := div_gcd (a := a) hb0
  unfold m_St_keep
  refine ok_jn (fun z => z.2.1 = (if c < N then N else 2 * c) ∧ z.2.2.2.1 = (if c < N then N else 2 * c) ∧ z.2.2.2.2.2.1 = (if c < N then N else 2 * c) ∧ (∀ s, s < c → z.1 s = above s ∧ z.2.2.1 s = below s ∧ z.2.2.2.2.1 s = codes s) ∧ z.2.2.2.2.2.2.1 ≤ keepB N (nI c) ∧ z.2.2.2.2.2.2.2 ≤ keepS N (nI c)) (fun kk hkk => ?_) ?_
  · by_cases q : c < N
    · exact ok_t (nI_lt q (by omega)) (hkk _ ⟨(if_pos q).symm, (if_pos q).symm, (if_pos q).symm, fun s _ => ⟨rfl, rfl, rfl⟩, Nat.zero_le _, Nat.zero_le _⟩)
    · obtain ⟨k1, k2⟩ := keepB_y (N := N) (c := c) hN (by omega)
      refine ok_f (fun z => q ((nI_ltI (by omega) (by omega)).mp z)) ?_
      rw [two_nI, nI_clamp (show 2 * c < 2 ^ 31 by omega), k1, k2]
      refine ok_t ⟨by omega, by omega⟩ ?_
      refine ok_bind (h_makeRoom h8 hN (by omega)) (fun r13 h13 => hkk _ ⟨?_, ?_, ?_, h13.2.2.2, by dsimp only; omega, by dsimp only; omega⟩)
      · rw [if_neg q]; exact h13.1
      · rw [if_neg q]; exact h13.2.1
      · rw [if_neg q]; exact h13.2.2.1
  · rintro ⟨z1, n1, z2, n2, z3, n3, u1, u2⟩ ⟨q1, q2, q3, q4, q5, q6⟩
    dsimp only at q1 q2 q3 q4 q5 q6 ⊢
    subst q1 q2 q3
    have hin : inb (nI c) (if c < N then N else 2 * c) = true := inb_nI (by split <;> omega) (by split <;> omega)
    refine ok_t ⟨q5, q6⟩ (ok_bind (h_commonDivisor ha hb) (fun r18 h18 => ?_))
    subst h18
    have hne := lN_ne (b := Nat.gcd a b) (by omega) (by omega)
    refine ok_jn (fun v => v = lN (a / Nat.gcd a b)) (fun j46 h46 => ok_f hne (ok_t hne (h46 _ (pk_lDiv (by omega) hg0 (by omega))))) (fun v hv => ?_)
    subst hv
    refine ok_t hin ?_
    refine ok_jn (fun v => v = lN (b / Nat.gcd a b)) (fun j46 h46 => ok_f hne (ok_t hne (h46 _ (pk_lDiv (by omega) hg0 (by omega))))) (fun v hv => ?_)
    subst hv
    refine ok_t hin (ok_t hin (ok_t ⟨q5, q6⟩ (ok_some ⟨nI_add1 c, rfl, rfl, rfl, rfl, rfl, ?_⟩)))
    dsimp only
    rw [nI_clamp (show c < 2 ^ 31 by omega)]
    exact ⟨fun s hs => ⟨by rw [pk_uLn (by omega)]; exact (q4 s hs).1, by rw [pk_uLn (by omega)]; exact (q4 s hs).2.1, by rw [pk_uLn (by omega)]; exact (q4 s hs).2.2⟩, pk_uLs, pk_uLs, pk_uLs⟩
theorem tS_s {n : Nat} {A B : Nat → Int} {N c f : Nat} {ab be co ab' be' co' : Nat → Int64} (h : tS n A B N c ab be co) (hs : ∀ s, s < c → ab' s = ab s ∧ be' s = be s ∧ co' s = co s) (hf : pl A B N c = some f) (hno : isNo n f) (e1 : ab' c = lN ((tb A B N c).1 / Nat.gcd (tb A B N c).1 (tb A B N c).2)) (e2 : be' c = lN ((tb A B N c).2 / Nat.gcd (tb A B N c).1 (tb A B N c).2)) (e3 : co' c = lN (cdN (en n f) n)) : tS n A B N (c + 1) ab' be' co' := by
  intro s hs1
  by_cases e : s = c
  · subst e
    exact ⟨⟨f, hf, hno, e3⟩, e1, e2⟩
  · obtain ⟨⟨g, g1, g2, g3⟩, g4, g5⟩ := h s (by omega)
    obtain ⟨k1, k2, k3⟩ := hs s (by omega)
    exact ⟨⟨g, g1, g2, k3.trans g3⟩, k1.trans g4, k2.trans g5⟩
theorem h_find0 {n K c N : Nat} {FA FB : Nat → Nat → Int} {al : Int} {gr op : Nat → Int32} {sA sB : Nat → Int64} {pA pB bA bB : Nat → Nat → Int64} {cnt fd : Int32} {lA lB fa fb fc : Int64} {ab be co : Nat → Int64} {A B : Nat → Int} (hn : n ≤ 9) (ho : op 0 = 0) (hs : sA 0 = 0) (hA : ∀ a b, a < n → b < n → pA a b = jZ (FA a b) ∧ pB a b = jZ (FB a b)) (eA : ∀ j, sm2 n FA (en n j) = A j) (eB : ∀ j, al + sm2 n FB (en n j) = B j) (sA1 : smal A) (sB1 : smal B)
    (hK : isLast n K) (hC : isC A B (K + 1) c) (hc1 : 1 ≤ c) (hc2 : c ≤ 1801) (h8 : 8 ≤ N) (hN : N ≤ 4096) :
    ok (m_St_find (nI n) (jZ al) pA pB gr op sA sB bA bB 0 cnt lA lB fd fa fb fc ab N be N co N (capf N c - N) (6 * (capf N c - N))) (fun o => o.2.1 0 = 0 ∧ o.2.2.1 0 = 0 ∧ o.2.2.2.2.2.2.1 = 1 ∧ o.2.2.2.2.2.2.2.1 = nI c ∧ tS n A B (K + 1) c o.2.2.2.2.2.2.2.2.2.2.2.2.2.2.1 o.2.2.2.2.2.2.2.2.2.2.2.2.2.2.2.2.1 o.2.2.2.2.2.2.2.2.2.2.2.2.2.2.2.2.2.2.1 ∧ o.2.2.2.2.2.2.2.2.2.2.2.2.2.2.2.1 = capf N c ∧ o.2.2.2.2.2.2.2.2.2.2.2.2.2.2.2.2.2.1 = capf N c ∧ o.2.2.2.2.2.2.2.2.2.2.2.2.2.2.2.2.2.2.2 = capf N c) := by
  have hcap := capf_bd h8 hN
  have hcle : ∀ s, s ≤ c → capf N s ≤ capf N c := fun s hs => by
    have := capf_le h8 hN (s := s) (c - s) (by omega)
    rw [show s + (c - s) = c by omega] at this
    exact this
  generalize hBc : capf N c - N = Bc
  have hcN := (hcap c hc2).1
  unfold m_St_find
  refine ok_t rfl (ok_t ⟨Nat.zero_le _, Nat.zero_le _⟩ (ok_bind (h_scan (F := fun _ => True) (G := G0 A B) hn ho hs hA eA eB sA1 sB1 (Or.inl ⟨rfl, rfl, rfl⟩)) (fun r14 h14 => ?_)))
  obtain ⟨o1, o2, K1, hK1, hf1⟩ := h14
  have eK := isLast_uniq hK1 hK
  subst eK
  rw [← pl_0] at hf1
  obtain ⟨f0, hf0⟩ := hC.2 0 (by omega)
  rcases hf1 with ⟨q, _⟩ | ⟨g, q, hno0, e1, e2, e3, e4⟩
  · rw [hf0] at q; cases q
  rw [hf0] at q
  cases q
  have kb : keepB N 0 = 0 ∧ keepS N 0 = 0 := by
    have := keepB_n (N := N) (c := 0) hN (by omega)
    rw [← nI_lit0] at this
    exact this
  change ok (if 0 + keepB N 0 ≤ Bc ∧ 0 + keepS N 0 ≤ 6 * Bc then ((m_St_keep (0 : Int32) r14.2.2.2.2.2.2.2.1 r14.2.2.2.2.2.2.2.2.1 r14.2.2.2.2.2.2.2.2.2 ab N be N co N (0 : Int64) (1 : Int64) (keepB N 0) (keepS N 0)).bind _) else none) _
  refine ok_t ⟨by omega, by omega⟩ (ok_bind (h_keep (c := 0) (a := 0) (b := 1) nI_lit0 (by omega) h8 hN (by omega) (by omega) (by omega) rfl rfl) (fun r20 h20 => ?_))
  obtain ⟨k1, k2, k3, k4, k5, k6, k7, k8, k9, k10⟩ := h20
  rw [if_pos (by omega)] at k4 k5 k6
  refine ok_t ⟨by show 0 + keepB N 0 ≤ Bc; omega, by show 0 + keepS N 0 ≤ 6 * Bc; omega⟩ ?_
  rw [k1, k2, k3, e2, e3]
  refine ok_bind (h_scan (F := F1 B (B f0)) (G := G1 A B (A f0) (B f0)) hn o1 o2 hA eA eB sA1 sB1 (Or.inr ⟨nI_ne0 (by omega) (by omega), A f0, B f0, rfl, rfl, sA1 f0, sB1 f0, rfl, rfl⟩)) (fun r24 h24 => ?_)
  obtain ⟨p1, p2, K2, hK2, hf2⟩ := h24
  have eK := isLast_uniq hK2 hK
  subst eK
  rw [← pl_s hf0] at hf2
  have c1 : capf N 1 = N := by
    have : capf N 0 = N := rfl
    rw [show (1 : Nat) = 0 + 1 from rfl, capf_lt (by rw [this]; omega), this]
  have hts : tS n A B (K2 + 1) 1 r20.2.2.2.1 r20.2.2.2.2.2.1 r20.2.2.2.2.2.2.2.1 := by
    intro s hs1
    rw [show s = 0 by omega]
    exact ⟨⟨f0, hf0, hno0, k10.trans e4⟩, k8, k9⟩
  refine ok_ghost 1802 0 (fun s st => s + 1 ≤ c ∧ st.1 = nI (s + 1) ∧ st.2.2.2.2.1 0 = 0 ∧ st.2.2.2.2.2.1 0 = 0 ∧ (st.2.2.2.2.2.2.2.2.1 = capf N (s + 1) ∧ st.2.2.2.2.2.2.2.2.2.2.1 = capf N (s + 1) ∧ st.2.2.2.2.2.2.2.2.2.2.2.2.1 = capf N (s + 1)) ∧ st.2.2.2.2.2.2.2.2.2.2.2.2.2.1 = nI (s + 1) ∧ (∃ f, pl A B (K2 + 1) s = some f ∧ st.2.2.2.2.2.2.2.2.2.2.2.2.2.2.2.2.2.2.1 = jZ (A f) ∧ st.2.2.2.2.2.2.2.2.2.2.2.2.2.2.2.2.2.2.2.1 = jZ (B f)) ∧ fnd n A B (pl A B (K2 + 1) (s + 1)) st.2.2.2.2.2.2.2.2.2.2.2.2.2.2.1 st.2.2.2.2.2.2.2.2.2.2.2.2.2.2.2.1 st.2.2.2.2.2.2.2.2.2.2.2.2.2.2.2.2.1 st.2.2.2.2.2.2.2.2.2.2.2.2.2.2.2.2.2.1 ∧ tS n A B (K2 + 1) (s + 1) st.2.2.2.2.2.2.2.1 st.2.2.2.2.2.2.2.2.2.1 st.2.2.2.2.2.2.2.2.2.2.2.1 ∧ st.2.2.2.2.2.2.2.2.2.2.2.2.2.2.2.2.2.2.2.2.1 + N ≤ capf N (s + 1) ∧ st.2.2.2.2.2.2.2.2.2.2.2.2.2.2.2.2.2.2.2.2.2 + 6 * N ≤ 6 * capf N (s + 1))
    (fun st => st.2.2.2.2.1 0 = 0 ∧ st.2.2.2.2.2.1 0 = 0 ∧ (st.2.2.2.2.2.2.2.2.1 = capf N c ∧ st.2.2.2.2.2.2.2.2.2.2.1 = capf N c ∧ st.2.2.2.2.2.2.2.2.2.2.2.2.1 = capf N c) ∧ st.2.2.2.2.2.2.2.2.2.2.2.2.2.1 = nI c ∧ tS n A B (K2 + 1) c st.2.2.2.2.2.2.2.1 st.2.2.2.2.2.2.2.2.2.1 st.2.2.2.2.2.2.2.2.2.2.2.1 ∧ st.2.2.2.2.2.2.2.2.2.2.2.2.2.2.2.2.2.2.2.2.1 ≤ Bc ∧ st.2.2.2.2.2.2.2.2.2.2.2.2.2.2.2.2.2.2.2.2.2 ≤ 6 * Bc) ?_ ?_ (fun j st h => by have := h.1; omega) ?_ (FU_big (by omega))
  · rintro s ⟨i, b1, b2, g, o, s1, s2, aa, an, bb, bn, cc, cn1, ct, fd1, fA, fB, fC, la, lb, uc, us⟩ back exit ⟨hsc, h1, h2, h3, ⟨h4, h5, h6⟩, h7, ⟨f, hf, h9, h10⟩, hfn, hts1, hu1, hu2⟩ hback hexit
    dsimp only at h1 h2 h3 h4 h5 h6 h7 h9 h10 hfn hts1 hu1 hu2
    subst h1 h4 h5 h6 h7 h9 h10
    have hcp := hcap (s + 1) (by omega)
    have hmono := hcle (s + 1) hsc
    unfold s_St_find_29
    dsimp only
    rcases hfn with ⟨hpn, rfl⟩ | ⟨g1, hpg, hno1, rfl, rfl, rfl, rfl⟩
    · have es : s + 1 = c := by
        rcases Nat.lt_or_ge (s + 1) c with z | z
        · obtain ⟨f', hf'⟩ := hC.2 (s + 1) z
          rw [hpn] at hf'; cases hf'
        · omega
      refine ok_t rfl (hexit _ ⟨h2, h3, ?_, ?_, ?_, ?_, ?_⟩)
      · dsimp only; rw [es]; exact ⟨rfl, rfl, rfl⟩
      · dsimp only; rw [es]
      · dsimp only; rw [← es]; exact hts1
      · dsimp only; omega
      · dsimp only; omega
    · have es : s + 1 < c := by
        rcases Nat.lt_or_ge (s + 1) c with z | z
        · exact z
        · have e : s + 1 = c := by omega
          rw [e, hC.1] at hpg; cases hpg
      have n147 : (21147 : Int32) = nI 21147 := by decide +kernel
      refine ok_f n1_0 (ok_f (by rw [n147]; exact le_nI (by omega) (by omega) (by omega)) ?_)
      obtain ⟨t1, t2, t3, t4, t5⟩ := tb_num sA1 sB1 hf hpg
      rw [t1, t2]
      have hmono2 := hcle (s + 2) (by omega)
      have hroom : uc + keepB (capf N (s + 1)) (nI (s + 1)) + N ≤ capf N (s + 2) ∧ us + keepS (capf N (s + 1)) (nI (s + 1)) + 6 * N ≤ 6 * capf N (s + 2) := by
        by_cases z : s + 1 < capf N (s + 1)
        · rw [(keepB_n (by omega) z).1, (keepB_n (by omega) z).2, capf_lt z]; omega
        · rw [(keepB_y (by omega) (show s + 1 = capf N (s + 1) by omega)).1, (keepB_y (by omega) (show s + 1 = capf N (s + 1) by omega)).2, capf_ge z]; omega
      change ok (if uc + keepB (capf N (s + 1)) (nI (s + 1)) ≤ Bc ∧ us + keepS (capf N (s + 1)) (nI (s + 1)) ≤ 6 * Bc then ((m_St_keep (nI (s + 1)) (jZ (A g1)) (jZ (B g1)) (lN (cdN (en n g1) n)) aa (capf N (s + 1)) bb (capf N (s + 1)) cc (capf N (s + 1)) (lN (tb A B (K2 + 1) (s + 1)).1) (lN (tb A B (K2 + 1) (s + 1)).2) (keepB (capf N (s + 1)) (nI (s + 1))) (keepS (capf N (s + 1)) (nI (s + 1)))).bind _) else none) _
      refine ok_t ⟨by omega, by omega⟩ (ok_bind (h_keep rfl (by omega) (by omega) (by omega) t3 t4 t5 rfl rfl) (fun r62 h62 => ?_))
      obtain ⟨l1, l2, l3, l4, l5, l6, l7, l8, l9, l10⟩ := h62
      have ecap : (if s + 1 < capf N (s + 1) then capf N (s + 1) else 2 * (s + 1)) = capf N (s + 2) := rfl
      rw [ecap] at l4 l5 l6
      refine ok_t ⟨by show uc + keepB (capf N (s + 1)) (nI (s + 1)) ≤ Bc; omega, by show us + keepS (capf N (s + 1)) (nI (s + 1)) ≤ 6 * Bc; omega⟩ ?_
      rw [l1, l2, l3]
      refine ok_bind (h_scan (F := F1 B (B g1)) (G := G1 A B (A g1) (B g1)) hn h2 h3 hA eA eB sA1 sB1 (Or.inr ⟨nI_ne0 (by omega) (by omega), A g1, B g1, rfl, rfl, sA1 g1, sB1 g1, rfl, rfl⟩)) (fun r66 h66 => hback _ ?_)
      obtain ⟨m1, m2, K3, hK3, hf3⟩ := h66
      have eK := isLast_uniq hK3 hK
      subst eK
      rw [← pl_s hpg] at hf3
      exact ⟨by omega, nI_add1 (s + 1), m1, m2, ⟨l4, l5, l6⟩, rfl, ⟨g1, hpg, rfl, rfl⟩, hf3, tS_s hts1 l7 hpg hno1 l8 l9 l10, hroom.1, hroom.2⟩
  · rintro ⟨i, b1, b2, g, o, s1, s2, aa, an, bb, bn, cc, cn1, ct, fd1, fA, fB, fC, la, lb, uc, us⟩ ⟨h2, h3, ⟨h4, h5, h6⟩, h7, h8, h9, h10⟩
    dsimp only at h2 h3 h4 h5 h6 h7 h8 h9 h10 ⊢
    exact ok_t ⟨h9, h10⟩ (ok_some ⟨h2, h3, rfl, h7, h8, h4, h5, h6⟩)
  · refine ⟨hc1, nI_lit1, p1, p2, ⟨?_, ?_, ?_⟩, ?_, ⟨f0, hf0, rfl, rfl⟩, hf2, hts, ?_, ?_⟩
    · show r20.2.2.2.2.1 = capf N 1; rw [c1]; exact k4
    · show r20.2.2.2.2.2.2.1 = capf N 1; rw [c1]; exact k5
    · show r20.2.2.2.2.2.2.2.2 = capf N 1; rw [c1]; exact k6
    · rfl
    · show 0 + keepB N 0 + N ≤ capf N 1; rw [c1]; omega
    · show 0 + keepS N 0 + 6 * N ≤ 6 * capf N 1; rw [c1]; omega
