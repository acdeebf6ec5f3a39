/-! pure words of the decompiled methods: guards, binds, loops with fuel; rows that the walks share -/
def inb (i : Int32) (n : Nat) : Bool := decide (0 ≤ i) && decide (i.toNatClampNeg < n)
theorem inb_in {i : Int32} {n : Nat} (h : inb i n = true) : vp_in i n := by
  simp only [inb, Bool.and_eq_true, decide_eq_true_eq] at h
  intro hh
  rcases hh with hh | hh
  · have h1 := Int32.lt_iff_toInt_lt.mp hh
    have h2 := Int32.le_iff_toInt_le.mp h.1
    omega
  · exact absurd h.2 (Nat.not_lt.mpr hh)
theorem inb_lt {i : Int32} {n : Nat} (h : inb i n = true) : i.toNatClampNeg < n := by
  simp only [inb, Bool.and_eq_true, decide_eq_true_eq] at h
  exact h.2
theorem inb_nI {k n : Nat} (h : k < n) (hn : n < 2 ^ 31) : inb (nI k) n = true := by
  simp only [inb, Bool.and_eq_true, decide_eq_true_eq]
  exact ⟨nI_pos' (by omega), by rw [nI_clamp (by omega)]; exact h⟩
theorem gd {α : Type} {c : Prop} [Decidable c] {X : Option α} {y : α} (h : (if c then X else none) = some y) : c ∧ X = some y := by
  by_cases hc : c
  · rw [if_pos hc] at h; exact ⟨hc, h⟩
  · rw [if_neg hc] at h; cases h
theorem ifp {α : Type} {c : Prop} [Decidable c] {X Y : Option α} {y : α} (hc : c) (h : (if c then X else Y) = some y) : X = some y := by
  rw [if_pos hc] at h; exact h
theorem ifn {α : Type} {c : Prop} [Decidable c] {X Y : Option α} {y : α} (hc : ¬ c) (h : (if c then X else Y) = some y) : Y = some y := by
  rw [if_neg hc] at h; exact h
theorem bd {α β : Type} {o : Option α} {k : α → Option β} {y : β} (h : o.bind k = some y) : ∃ x, o = some x ∧ k x = some y := Option.bind_eq_some_iff.mp h
/-- a loop: its body is given the way back and the way out -/
def loopC {σ β : Type} (f : σ → (σ → Option β) → (σ → Option β) → Option β) (K : σ → Option β) : Nat → σ → Option β
  | 0, _ => none
  | n + 1, s => f s (loopC f K n) K
def FU : Nat := 30000
theorem lp_go {σ β : Type} {f : σ → (σ → Option β) → (σ → Option β) → Option β} {K : σ → Option β} {y : β} {n : Nat} {st : σ} (h : loopC f K n st = some y) (G : σ → Prop) (hs : ∀ (back : σ → Option β) (st : σ), (∀ st', back st' = some y → G st') → f st back K = some y → G st) : G st := by
  induction n generalizing st with
  | zero => cases h
  | succ n ih => exact hs (loopC f K n) st (fun st' h' => ih h') h
theorem lc_le {x y : Int64} : lg_cmp x y ≤ 0 ↔ x ≤ y := by
  unfold lg_cmp
  by_cases h1 : y < x
  · rw [if_pos h1]; exact ⟨fun h => absurd h (by decide), fun h => absurd h (Int64.not_le.mpr h1)⟩
  · rw [if_neg h1]
    refine ⟨fun _ => Int64.not_lt.mp h1, fun _ => ?_⟩
    split <;> decide
