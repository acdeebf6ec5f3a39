/-! the partitions in their order, and the first best of them -/
/-- the greatest i < k that can still go on, or 0 -/
def pv (w : Nat → Nat) : Nat → Nat
  | 0 => 0
  | k + 1 => if w k < opn w k then k else pv w k
theorem pv_pivot {n i : Nat} {w : Nat → Nat} (h : pivot n w i) : ∀ k, i < k → k ≤ n → pv w k = i
  | 0, h1, _ => absurd h1 (Nat.not_lt_zero _)
  | k + 1, h1, h2 => by
    unfold pv
    by_cases e : k = i
    · subst e; rw [if_pos h.2.2.1]
    · have := h.2.2.2 k (by omega) (by omega)
      rw [if_neg (by omega)]
      exact pv_pivot h k (by omega) (by omega)
def en (n : Nat) : Nat → Nat → Nat
  | 0 => fun _ => 0
  | k + 1 => nxt (en n k) (pv (en n k) n)
theorem en_s {n k i : Nat} (h : pivot n (en n k) i) : en n (k + 1) = nxt (en n k) i := by
  show nxt (en n k) (pv (en n k) n) = _
  rw [pv_pivot h n h.2.1 (Nat.le_refl n)]
theorem piv_last {n i : Nat} {w : Nat → Nat} (h : pivot n w i) : ¬ lastp n w := fun q => by
  have := q i h.1 h.2.1
  have := h.2.2.1
  omega
/-- k is a number of a partition, and none before it is the last -/
def isNo (n k : Nat) : Prop := rgs n (en n k) ∧ rank n (en n k) = k ∧ ∀ j, j < k → ¬ lastp n (en n j)
theorem isNo_0 (n : Nat) : isNo n 0 := ⟨rgs_0 n, rank_0 n, fun _ h => absurd h (Nat.not_lt_zero _)⟩
theorem isNo_s {n k i : Nat} (h : isNo n k) (hp : pivot n (en n k) i) : isNo n (k + 1) := by
  refine ⟨by rw [en_s hp]; exact rgs_nxt h.1 hp, by rw [en_s hp, rank_nxt hp, h.2.1], fun j hj => ?_⟩
  by_cases e : j = k
  · subst e; exact piv_last hp
  · exact h.2.2 j (by omega)
theorem isNo_lt {n k : Nat} (hn : n ≤ 9) (h : isNo n k) : k < 21147 := by
  have := rank_lt hn h.1
  rw [h.2.1] at this
  exact this
/-- the number of the last one -/
def isLast (n k : Nat) : Prop := isNo n k ∧ lastp n (en n k)
theorem isLast_uniq {n k j : Nat} (h : isLast n k) (g : isLast n j) : k = j := by
  rcases Nat.lt_trichotomy k j with q | q | q
  · exact absurd h.2 (g.1.2.2 k q)
  · exact q
  · exact absurd g.2 (h.1.2.2 j q)
/-- the greatest value, where it first is, how often it is, among the numbers up to k -/
def bst (V : Nat → Int) : Nat → Int × Nat × Nat
  | 0 => (V 0, 0, 1)
  | k + 1 => if (bst V k).1 < V (k + 1) then (V (k + 1), k + 1, 1) else if V (k + 1) = (bst V k).1 then ((bst V k).1, (bst V k).2.1, (bst V k).2.2 + 1) else bst V k
theorem bst_bd (V : Nat → Int) : ∀ k, 1 ≤ (bst V k).2.2 ∧ (bst V k).2.2 ≤ k + 1 ∧ (bst V k).2.1 ≤ k ∧ V (bst V k).2.1 = (bst V k).1
  | 0 => ⟨Nat.le_refl _, Nat.le_refl _, Nat.le_refl _, rfl⟩
  | k + 1 => by
    have ih := bst_bd V k
    unfold bst
    by_cases h1 : (bst V k).1 < V (k + 1)
    · rw [if_pos h1]; exact ⟨Nat.le_refl _, by show 1 ≤ _; omega, Nat.le_refl _, rfl⟩
    · rw [if_neg h1]
      by_cases h2 : V (k + 1) = (bst V k).1
      · rw [if_pos h2]; exact ⟨by show 1 ≤ _ + 1; omega, by show _ + 1 ≤ _; omega, by show (bst V k).2.1 ≤ _; omega, ih.2.2.2⟩
      · rw [if_neg h2]; exact ⟨ih.1, by omega, by omega, ih.2.2.2⟩
/-- a partition in one number -/
def cdN (p : Nat → Nat) : Nat → Nat
  | 0 => 0
  | i + 1 => cdN p i + p i * 2 ^ (4 * i)
theorem cdN_lt {p : Nat → Nat} : ∀ {i : Nat}, (∀ j, j < i → p j < 16) → cdN p i < 2 ^ (4 * i)
  | 0, _ => by show 0 < 2 ^ 0; omega
  | i + 1, h => by
    have ih := cdN_lt (fun j hj => h j (by omega) : ∀ j, j < i → p j < 16)
    have hi := h i (by omega)
    have e : 2 ^ (4 * (i + 1)) = 16 * 2 ^ (4 * i) := by rw [show 4 * (i + 1) = 4 * i + 4 by omega, Nat.pow_add]; omega
    show cdN p i + p i * 2 ^ (4 * i) < _
    rw [e]
    have : (p i + 1) * 2 ^ (4 * i) ≤ 16 * 2 ^ (4 * i) := Nat.mul_le_mul_right _ (by omega)
    rw [Nat.succ_mul] at this
    omega
theorem cdN_get {p : Nat → Nat} : ∀ {m i : Nat}, i < m → (∀ j, j < m → p j < 16) → cdN p m / 2 ^ (4 * i) % 16 = p i
  | 0, _, h, _ => absurd h (Nat.not_lt_zero _)
  | m + 1, i, hi, h => by
    show (cdN p m + p m * 2 ^ (4 * m)) / 2 ^ (4 * i) % 16 = p i
    by_cases e : i = m
    · subst e
      have hl := cdN_lt (fun j hj => h j (by omega) : ∀ j, j < i → p j < 16)
      rw [Nat.add_mul_div_right _ _ (Nat.two_pow_pos _), Nat.div_eq_of_lt hl, Nat.zero_add, Nat.mod_eq_of_lt (h i (by omega))]
    · have e2 : p m * 2 ^ (4 * m) = (p m * 2 ^ (4 * (m - i) - 4)) * 16 * 2 ^ (4 * i) := by
        rw [show (16 : Nat) = 2 ^ 4 from rfl, Nat.mul_assoc, Nat.mul_assoc, ← Nat.pow_add, ← Nat.pow_add]
        congr 2
        omega
      rw [e2, Nat.add_mul_div_right _ _ (Nat.two_pow_pos _), Nat.add_mul_mod_self_right]
      exact cdN_get (by omega) (fun j hj => h j (by omega))
/-- a loop whose turns are counted by a number that the state does not hold -/
theorem ok_ghost {σ β : Type} {f : σ → (σ → Option β) → (σ → Option β) → Option β} {K : σ → Option β} {P : β → Prop} {n : Nat} {s0 : σ} (N j0 : Nat) (I : Nat → σ → Prop) (E : σ → Prop)
    (hs : ∀ (j : Nat) (st : σ) (back exit : σ → Option β), I j st → (∀ st', I (j + 1) st' → ok (back st') P) → (∀ st', E st' → ok (exit st') P) → ok (f st back exit) P)
    (hK : ∀ st, E st → ok (K st) P) (hN : ∀ j st, I j st → j < N) (h0 : I j0 s0) (hn : N - j0 < n) : ok (loopC f K n s0) P := by
  induction n generalizing s0 j0 with
  | zero => exact absurd hn (Nat.not_lt_zero _)
  | succ n ih =>
    refine hs j0 s0 (loopC f K n) K h0 (fun st' h1 => ih (j0 + 1) h1 ?_) hK
    have := hN _ _ h0
    omega
