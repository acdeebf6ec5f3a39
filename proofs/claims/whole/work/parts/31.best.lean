/-! the best of all: the class's Peak.search, the reference's findBest -/
theorem bst_gt {V : Nat → Int} {k : Nat} (h : (bst V k).1 < V (k + 1)) : bst V (k + 1) = (V (k + 1), k + 1, 1) := by
  show (if _ then _ else _) = _
  rw [if_pos h]
theorem bst_eq {V : Nat → Int} {k : Nat} (h : V (k + 1) = (bst V k).1) : bst V (k + 1) = ((bst V k).1, (bst V k).2.1, (bst V k).2.2 + 1) := by
  show (if _ then _ else _) = _
  rw [if_neg (by omega), if_pos h]
theorem bst_lt {V : Nat → Int} {k : Nat} (h : V (k + 1) < (bst V k).1) : bst V (k + 1) = bst V k := by
  show (if _ then _ else _) = _
  rw [if_neg (by omega), if_neg (by omega)]
theorem nI_n0 {c : Nat} (h : 1 ≤ c) (h2 : c < 2 ^ 31) : ¬ nI c = 0 := nI_ne0 h h2
theorem h_search {n : Nat} {FA FB : Nat → Nat → Int} {al x y : Int} {gr op : Nat → Int32} {sA sB : Nat → Int64} {pA pB bA bB : Nat → Nat → Int64} {code : Int64} (hn : n ≤ 9) (ho : op 0 = 0) (hs : sA 0 = 0) (hA : ∀ a b, a < n → b < n → pA a b = jZ (FA a b) ∧ pB a b = jZ (FB a b)) (hx : inI x) (hy : inI y)
    (hV : ∀ k, isNo n k → inJ (y * sm2 n FA (en n k) - x * (al + sm2 n FB (en n k)))) :
    ok (m_Pe_search (iZ x) (iZ y) (nI n) (jZ al) pA pB gr op sA sB bA bB code) (fun o => o.2.1 0 = 0 ∧ o.2.2.1 0 = 0 ∧ ∃ K, isLast n K ∧ o.2.2.2.2.2.2.1 = lN (cdN (en n (bst (fun k => y * sm2 n FA (en n k) - x * (al + sm2 n FB (en n k))) K).2.1) n) ∧ o.2.2.2.2.2.2.2 = nI (bst (fun k => y * sm2 n FA (en n k) - x * (al + sm2 n FB (en n k))) K).2.2) := by
  generalize hVe : (fun k => y * sm2 n FA (en n k) - x * (al + sm2 n FB (en n k))) = V at *
  have hVk : ∀ k, y * sm2 n FA (en n k) - x * (al + sm2 n FB (en n k)) = V k := fun k => by rw [← hVe]
  simp only [hVk] at hV
  unfold m_Pe_search
  refine ok_bind (h_start hn ho hs hA) (fun r0 h0 => ?_)
  have n147 : (21147 : Int32) = nI 21147 := by decide +kernel
  refine ok_loop
    (fun st => (st.2.1 = 1 ∧ ∃ k, isNo n k ∧ st.2.2.1 = nI k ∧ WI n n (en n k) FA FB al st.2.2.2.2.2.1 st.2.2.2.2.2.2.1 st.2.2.2.2.2.2.2.1 st.2.2.2.2.2.2.2.2.1 st.2.2.2.1 st.2.2.2.2.1 ∧ ((k = 0 ∧ st.2.2.2.2.2.2.2.2.2.1 = 0) ∨ ∃ j, k = j + 1 ∧ st.1 = jZ (bst V j).1 ∧ isNo n (bst V j).2.1 ∧ st.2.2.2.2.2.2.2.2.2.1 = nI (bst V j).2.2 ∧ st.2.2.2.2.2.2.2.2.2.2 = lN (cdN (en n (bst V j).2.1) n))) ∨
      (st.2.1 = 0 ∧ st.2.2.2.2.2.2.1 0 = 0 ∧ st.2.2.2.2.2.2.2.1 0 = 0 ∧ ∃ K, isLast n K ∧ st.2.2.2.2.2.2.2.2.2.2 = lN (cdN (en n (bst V K).2.1) n) ∧ st.2.2.2.2.2.2.2.2.2.1 = nI (bst V K).2.2))
    (fun st => st.2.2.2.2.2.2.1 0 = 0 ∧ st.2.2.2.2.2.2.2.1 0 = 0 ∧ ∃ K, isLast n K ∧ st.2.2.2.2.2.2.2.2.2.2 = lN (cdN (en n (bst V K).2.1) n) ∧ st.2.2.2.2.2.2.2.2.2.1 = nI (bst V K).2.2)
    (fun st => if st.2.1 = 0 then 0 else 21148 - st.2.2.1.toNatClampNeg) ?_ ?_ ?_ ?_
  · rintro ⟨top, more, seen, b1, b2, g, o, s1, s2, c, cd⟩ back exit hI hback hexit
    unfold s_Pe_search_19
    dsimp only at hI hback hexit ⊢
    rcases hI with ⟨rfl, k, hk, rfl, hw, hc⟩ | ⟨rfl, h1, h2, h3⟩
    · have hk9 := isNo_lt hn hk
      refine ok_f n1_0 (ok_f (by rw [n147]; exact le_nI (by omega) (by omega) hk9) ?_)
      refine ok_bind (h_wa hn hw) (fun a ha => ok_bind (h_wb hn hw) (fun b hb => ?_))
      subst ha hb
      refine ok_bind (h_worth hx hy) (fun v hv => ?_)
      rw [hVk] at hv
      subst hv
      have hpl : ∀ i, i < n → en n k i < 16 ∧ g i = nI (en n k i) := fun i hi => ⟨by have := rgs_le hk.1 hi; omega, hw.1 i hi⟩
      refine ok_jn (fun st => st.1 = jZ (bst V k).1 ∧ isNo n (bst V k).2.1 ∧ st.2.1 = nI (bst V k).2.2 ∧ st.2.2 = lN (cdN (en n (bst V k).2.1) n)) (fun kk hkk => ?_) (fun st hst => ?_)
      · refine ok_jn (fun _ => bst V k = (V k, k, 1)) (fun k2 hk2 => ?_) (fun _ hb => ?_)
        · rcases hc with ⟨rfl, rfl⟩ | ⟨j, rfl, rfl, hno, rfl, rfl⟩
          · exact ok_t rfl (hk2 () rfl)
          · have hbd := bst_bd V j
            have hVj := hV _ hno
            rw [hbd.2.2.2] at hVj
            refine ok_f (nI_n0 hbd.1 (by omega)) ?_
            refine ok_if (fun q => ?_) (fun q => ?_)
            · have q2 := (jZ_le (hV _ hk) hVj).mp q
              by_cases e : V (j + 1) = (bst V j).1
              · refine ok_t (by rw [e]) (hkk _ ?_)
                rw [bst_eq e]
                exact ⟨rfl, hno, by rw [nI_1], rfl⟩
              · refine ok_f (fun z => e ((jZ_eq (hV _ hk) hVj).mp z)) (hkk _ ?_)
                rw [bst_lt (by omega)]
                exact ⟨rfl, hno, rfl, rfl⟩
            · have q2 : ¬ V (j + 1) ≤ (bst V j).1 := fun z => q ((jZ_le (hV _ hk) hVj).mpr z)
              exact hk2 () (bst_gt (by omega))
        · refine ok_bind (h_code hn hpl) (fun r hr => hkk _ ?_)
          rw [hb]
          exact ⟨rfl, hk, nI_lit1, hr⟩
      · obtain ⟨t2, c2, d2⟩ := st
        obtain ⟨f1, f2, f3, f4⟩ := hst
        dsimp only at f1 f3 f4 ⊢
        subst f1 f3 f4
        refine ok_bind (h_step hn hk.1 hA hw) (fun r hr => hback _ ?_ ?_)
        · rcases hr with ⟨e1, e2, e3⟩ | ⟨i, e1, e2, e3⟩
          · exact Or.inr ⟨e1, (e3.2.1 0 (Nat.zero_le n)).1, (e3.2.1 0 (Nat.zero_le n)).2.1, k, ⟨hk, e2⟩, rfl, rfl⟩
          · refine Or.inl ⟨e2, k + 1, isNo_s hk e1, nI_add1 k, ?_, Or.inr ⟨k, rfl, rfl, f2, rfl, rfl⟩⟩
            rw [en_s e1]; exact e3
        · dsimp only
          rw [if_neg n1_0, nI_1, nI_clamp (by omega), nI_clamp (by omega)]
          split <;> omega
    · exact ok_t rfl (hexit _ ⟨h1, h2, h3⟩)
  · rintro ⟨top, more, seen, b1, b2, g, o, s1, s2, c, cd⟩ h
    exact ok_some h
  · exact Or.inl ⟨rfl, 0, isNo_0 n, nI_lit0, h0, Or.inl ⟨rfl, rfl⟩⟩
  · refine FU_big ?_
    dsimp only
    rw [if_neg n1_0]
    omega
