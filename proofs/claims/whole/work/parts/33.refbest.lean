/-! the reference: the value of a partition, the best of all -/
/-- the document's value of the partition p -/
def Val (man : Int32) (n k : Nat) (fr to : Nat → Nat) (wt : Nat → Int) (x y : Int) (p : Nat → Nat) : Int :=
  y * Aof man (al man wt k) (fun c d => lk man fr to wt c d k) n p - x * Bof man (fun c => hs man fr to wt c k) n p
theorem Val_pairs (man : Int32) (n k : Nat) (fr to : Nat → Nat) (wt : Nat → Int) (x y : Int) (p : Nat → Nat) : y * sm2 n (pAof man (al man wt k) (fun c d => lk man fr to wt c d k)) p - x * (alB man (fun c => hs man fr to wt c k) n + sm2 n (pBof man (fun c => hs man fr to wt c k)) p) = Val man n k fr to wt x y p := by
  rw [A_pairs, B_pairs]; rfl
theorem Aof_congr {man : Int32} {W : Int} {lk : Nat → Nat → Int} {n : Nat} {p q : Nat → Nat} (h : ∀ i j, i < n → j < n → (p i = p j ↔ q i = q j)) : Aof man W lk n p = Aof man W lk n q := by
  unfold Aof
  rw [sm2_congr (G := lk) (fun _ _ _ _ => rfl) (fun i j hi hj => h i j hi (by omega))]
theorem Bof_congr {man : Int32} {hs : Nat → Int} {n : Nat} {p q : Nat → Nat} (h : ∀ i j, i < n → j < n → (p i = p j ↔ q i = q j)) : Bof man hs n p = Bof man hs n q := by
  unfold Bof
  rw [sm2_congr (F := fun i j => 2 * hs i * hs j) (G := fun i j => 2 * hs i * hs j) (fun _ _ _ _ => rfl) (fun i j hi hj => h i j hi (by omega)), sm2_congr (F := fun _ _ => 1) (G := fun _ _ => 1) (fun _ _ _ _ => rfl) (fun i j hi hj => h i j hi (by omega))]
theorem Val_congr {man : Int32} {n k : Nat} {fr to : Nat → Nat} {wt : Nat → Int} {x y : Int} {p q : Nat → Nat} (h : ∀ i j, i < n → j < n → (p i = p j ↔ q i = q j)) : Val man n k fr to wt x y p = Val man n k fr to wt x y q := by
  unfold Val
  rw [Aof_congr h, Bof_congr h]
theorem inI_50 {z : Int} {k : Nat} (hk : k ≤ 36) (h : -(50 * (k : Int)) ≤ z ∧ z ≤ 50 * k) : inI z := ⟨by omega, by omega⟩
theorem h_valueOf {n k : Nat} {man : Int32} {fr to : Nat → Nat} {wt : Nat → Int} {x y : Int} {all : Int64} {bt jo has q : Nat → Int32} {sums sizes : Nat → Int64} {p : Nat → Nat} (hn : n ≤ 9) (hk : k ≤ 36) (hwb : wbd wt k) (hw : weighed man k fr to wt all bt jo has) (hx : inI x) (hy : inI y) (hp : ∀ i, i < n → p i < 9 ∧ q i = nI (p i)) :
    ok (m_Mo_valueOf man (iZ x) (iZ y) (nI n) all bt has sums sizes q) (fun o => o.1 = jZ (Val man n k fr to wt x y p)) := by
  unfold m_Mo_valueOf
  rw [hw.1]
  refine ok_bind (h_judge (lk := fun c d => lk man fr to wt c d k) (hs := fun c => hs man fr to wt c k) (W := al man wt k) hn hp (fun i j hi hj => ⟨?_, inI_50 hk (lk_bd hwb)⟩) (fun i hi => ⟨hw.2.2.2 i (by omega), inI_50 hk (hs_bd hwb)⟩)) (fun o ho => ok_some ?_)
  · rw [hw.2.1 j i (by omega) (by omega), lk_sym]
  · dsimp only
    rw [ho.1, ho.2, iZ_j hx, iZ_j hy, ← jZ_mul, ← jZ_mul, ← jZ_sub]
    rfl
/-- what the reference keeps of the best -/
def rbest (n : Nat) (V : Nat → Int) (ties : Int32) (best : Nat → Int32) : Prop := ∃ K, isLast n K ∧ ties = nI (bst V K).2.2 ∧ isNo n (bst V K).2.1 ∧ ∀ i, i < n → best i = nI (en n (bst V K).2.1 i)
theorem h_findBest {n k : Nat} {man : Int32} {fr to : Nat → Nat} {wt : Nat → Int} {x y : Int} {isB ties : Int32} {all a b : Int64} {ones others weights there bt jo has wk bo : Nat → Int32} {sums sizes : Nat → Int64} (hn : n ≤ 9) (hk : k ≤ 36) (hr : rarc k fr to wt ones others weights there) (hx : inI x) (hy : inI y)
    (hV : ∀ j, isNo n j → inJ (Val man n k fr to wt x y (en n j))) (hB : isB = 0 ∨ (isB = 1 ∧ rbest n (fun j => Val man n k fr to wt x y (en n j)) ties bo)) :
    ok (m_Mo_findBest man (iZ x) (iZ y) (nI n) (nI k) isB all a b ties ones others weights there bt jo has sums sizes wk bo) (fun o => o.1 = 1 ∧ rbest n (fun j => Val man n k fr to wt x y (en n j)) o.2.2.2.2.1 o.2.2.2.2.2.2.2.2.2.2.2) := by
  generalize hVe : (fun j => Val man n k fr to wt x y (en n j)) = V at *
  have hVk : ∀ j, Val man n k fr to wt x y (en n j) = V j := fun j => by rw [← hVe]
  simp only [hVk] at hV
  have hwb : wbd wt k := fun i hi => (hr i hi).2.2.2.2.2.1
  unfold m_Mo_findBest
  rcases hB with rfl | ⟨rfl, hB⟩
  · refine ok_t rfl (ok_bind (h_weigh hk hr) (fun r1 h1 => ok_bind (h_first hn) (fun w0 hw0 => ?_)))
    refine ok_bind (h_valueOf (p := en n 0) hn hk hwb h1 hx hy (fun i hi => ⟨by show 0 < 9; omega, hw0 i hi⟩)) (fun r2 h2 => ok_bind (h_copy hn) (fun b0 hb0 => ?_))
    rw [hVk] at h2
    refine ok_ghost 21147 0
      (fun j st => isNo n j ∧ (∀ i, i < n → st.2.2.2.2.2.2.2 i = nI (en n j i)) ∧ st.1 = jZ (bst V j).1 ∧ isNo n (bst V j).2.1 ∧ st.2.2.2.2.2.2.1 = nI (bst V j).2.2 ∧ ∀ i, i < n → st.2.2.2.1 i = nI (en n (bst V j).2.1 i))
      (fun st => rbest n V st.2.2.2.2.2.2.1 st.2.2.2.1) ?_ ?_ (fun j st h => isNo_lt hn h.1) ⟨isNo_0 n, hw0, h2, isNo_0 n, nI_lit1, fun i hi => (hb0.1 i hi).trans (hw0 i hi)⟩ (FU_big (by omega))
    · rintro j ⟨top, aa, bb, bo1, sz1, sm1, ti, w1⟩ back exit ⟨hj, hw1, e1, e2, e3, e4⟩ hback hexit
      dsimp only at hw1 e1 e2 e3 e4
      subst e1 e3
      have hj9 := isNo_lt hn hj
      have hbd := bst_bd V j
      have hVj := hV _ e2
      rw [hbd.2.2.2] at hVj
      unfold s_Mo_findBest_47
      dsimp only
      refine ok_bind (h_next hn hj.1 hw1) (fun r hrr => ?_)
      rcases hrr with ⟨q1, q2, q3⟩ | ⟨i, q1, q2, q3⟩
      · exact ok_t q1 (hexit _ ⟨j, ⟨hj, q2⟩, rfl, e2, e4⟩)
      · have hj1 := isNo_s hj q1
        rw [← en_s q1] at q3
        refine ok_f (by rw [q2]; exact n1_0) (ok_bind (h_valueOf (p := en n (j + 1)) hn hk hwb h1 hx hy (fun u hu => ⟨by have := rgs_le hj1.1 hu; omega, q3 u hu⟩)) (fun r2 hr2 => ?_))
        rw [hVk] at hr2
        rw [hr2]
        refine ok_if (fun z => ?_) (fun z => ?_)
        · have z2 := (jZ_le (hV _ hj1) hVj).mp z
          by_cases e : V (j + 1) = (bst V j).1
          · refine ok_t (by rw [e]) (hback _ ⟨hj1, q3, ?_, ?_, ?_, ?_⟩)
            all_goals rw [bst_eq e]
            · exact e2
            · exact nI_1 _
            · exact e4
          · refine ok_f (fun w => e ((jZ_eq (hV _ hj1) hVj).mp w)) (hback _ ⟨hj1, q3, ?_, ?_, ?_, ?_⟩)
            all_goals rw [bst_lt (by omega)]
            · exact e2
            · exact e4
        · have z2 : ¬ V (j + 1) ≤ (bst V j).1 := fun w => z ((jZ_le (hV _ hj1) hVj).mpr w)
          refine ok_bind (h_copy hn) (fun b3 hb3 => hback _ ⟨hj1, q3, ?_, ?_, ?_, ?_⟩)
          all_goals rw [bst_gt (by omega)]
          · exact hj1
          · exact nI_lit1
          · exact fun u hu => (hb3.1 u hu).trans (q3 u hu)
    · rintro ⟨top, aa, bb, bo1, sz1, sm1, ti, w1⟩ h
      exact ok_some ⟨rfl, h⟩
  · exact ok_f n1_0 (ok_some ⟨rfl, hB⟩)
