/-! bounds: no value leaves the longs -/
def bd_ (z : Int) (M : Nat) : Prop := z.natAbs ≤ M
theorem bd_w {z : Int} {M N : Nat} (h : bd_ z M) (hMN : M ≤ N) : bd_ z N := Nat.le_trans h hMN
theorem bd_add {a b : Int} {M N : Nat} (ha : bd_ a M) (hb : bd_ b N) : bd_ (a + b) (M + N) := by
  unfold bd_ at *; omega
theorem bd_sub {a b : Int} {M N : Nat} (ha : bd_ a M) (hb : bd_ b N) : bd_ (a - b) (M + N) := by
  unfold bd_ at *; omega
theorem bd_mul {a b : Int} {M N : Nat} (ha : bd_ a M) (hb : bd_ b N) : bd_ (a * b) (M * N) := by
  unfold bd_ at *
  rw [Int.natAbs_mul]
  exact Nat.mul_le_mul ha hb
theorem bd_of {z : Int} {M : Nat} (h1 : -(M : Int) ≤ z) (h2 : z ≤ M) : bd_ z M := by
  unfold bd_; omega
theorem bd_0 {M : Nat} : bd_ 0 M := by unfold bd_; omega
theorem bd_sm {f : Nat → Int} {M : Nat} : ∀ {n : Nat}, (∀ i, i < n → bd_ (f i) M) → bd_ (sm n f) (n * M)
  | 0, _ => by rw [Nat.zero_mul]; exact bd_0
  | n + 1, h => by
    rw [sm_s, Nat.succ_mul]
    exact bd_add (bd_sm (fun i hi => h i (by omega))) (h n (by omega))
theorem bd_sm2 {F : Nat → Nat → Int} {p : Nat → Nat} {n M : Nat} (hn : n ≤ 9) (h : ∀ i j, i < n → j < n → bd_ (F i j) M) : bd_ (sm2 n F p) (81 * M) := by
  have h1 : bd_ (sm2 n F p) (n * (9 * M)) := bd_sm (fun i hi => bd_w (bd_sm (M := M) (fun j hj => by
    by_cases e : p i = p j
    · rw [if_pos e]; exact h i j hi (by omega)
    · rw [if_neg e]; exact bd_0)) (Nat.mul_le_mul_right M (by omega)))
  refine bd_w h1 ?_
  have := Nat.mul_le_mul_right (9 * M) hn
  omega
theorem bd_lk {man : Int32} {fr to : Nat → Nat} {wt : Nat → Int} {a b k : Nat} (hk : k ≤ 36) (h : wbd wt k) : bd_ (lk man fr to wt a b k) 1800 := by
  have := lk_bd (man := man) (fr := fr) (to := to) (a := a) (b := b) h
  exact bd_of (by omega) (by omega)
theorem bd_hs {man : Int32} {fr to : Nat → Nat} {wt : Nat → Int} {a k : Nat} (hk : k ≤ 36) (h : wbd wt k) : bd_ (hs man fr to wt a k) 1800 := by
  have := hs_bd (man := man) (fr := fr) (to := to) (a := a) h
  exact bd_of (by omega) (by omega)
theorem bd_al {man : Int32} {wt : Nat → Int} {k : Nat} (hk : k ≤ 36) (h : wbd wt k) : bd_ (al man wt k) 1800 := by
  have := al_bd (man := man) h
  exact bd_of (by omega) (by omega)
theorem bd_A {man : Int32} {n k : Nat} {fr to : Nat → Nat} {wt : Nat → Int} {p : Nat → Nat} (hn : n ≤ 9) (hk : k ≤ 36) (h : wbd wt k) : bd_ (Aof man (al man wt k) (fun c d => lk man fr to wt c d k) n p) 1100000000 := by
  have h1 : bd_ (sm2 n (fun c d => lk man fr to wt c d k) p) (81 * 1800) := bd_sm2 hn (fun i j _ _ => bd_lk hk h)
  unfold Aof
  by_cases e : man = 0
  · rw [if_pos e]
    have h4 : bd_ (4 * al man wt k) (4 * 1800) := bd_mul (bd_of (by omega) (by omega)) (bd_al hk h)
    exact bd_w (bd_mul h4 h1) (by decide)
  · rw [if_neg e]; exact bd_w h1 (by decide)
theorem bd_B {man : Int32} {n k : Nat} {fr to : Nat → Nat} {wt : Nat → Int} {p : Nat → Nat} (hn : n ≤ 9) (hk : k ≤ 36) (h : wbd wt k) : bd_ (Bof man (fun c => hs man fr to wt c k) n p) 1100000000 := by
  unfold Bof
  by_cases e : man = 0
  · rw [if_pos e]
    have h1 : bd_ (sm n (fun i => hs man fr to wt i k * hs man fr to wt i k)) (n * (1800 * 1800)) := bd_sm (fun i _ => bd_mul (bd_hs hk h) (bd_hs hk h))
    have h2 : bd_ (sm2 n (fun i j => 2 * hs man fr to wt i k * hs man fr to wt j k) p) (81 * (2 * 1800 * 1800)) := bd_sm2 hn (fun i j _ _ => bd_mul (bd_mul (bd_of (by omega) (by omega)) (bd_hs hk h)) (bd_hs hk h))
    exact bd_w (bd_add h1 h2) (Nat.le_trans (Nat.add_le_add_right (Nat.mul_le_mul_right (1800 * 1800) hn) _) (by decide))
  · rw [if_neg e]
    exact bd_w (bd_sm2 (M := 1) hn (fun i j _ _ => bd_of (by omega) (by omega))) (by decide)
theorem bd_Val {man : Int32} {n k : Nat} {fr to : Nat → Nat} {wt : Nat → Int} {x y : Int} {p : Nat → Nat} (hn : n ≤ 9) (hk : k ≤ 36) (h : wbd wt k) (hx : 0 ≤ x ∧ x ≤ 1000) (hy : 1 ≤ y ∧ y ≤ 100) : bd_ (Val man n k fr to wt x y p) 2000000000000 := by
  unfold Val
  exact bd_w (bd_sub (bd_mul (M := 100) (bd_of (by omega) (by omega)) (bd_A hn hk h)) (bd_mul (M := 1000) (bd_of (by omega) (by omega)) (bd_B hn hk h))) (by decide)
theorem inJ_bd {z : Int} {M : Nat} (h : bd_ z M) (hM : M ≤ 9000000000000000000) : inJ z := by
  unfold bd_ at h
  exact ⟨by omega, by omega⟩
theorem inJ_Val {man : Int32} {n k : Nat} {fr to : Nat → Nat} {wt : Nat → Int} {x y : Int} {p : Nat → Nat} (hn : n ≤ 9) (hk : k ≤ 36) (h : wbd wt k) (hx : 0 ≤ x ∧ x ≤ 1000) (hy : 1 ≤ y ∧ y ≤ 100) : inJ (Val man n k fr to wt x y p) := inJ_bd (bd_Val hn hk h hx hy) (by decide)
