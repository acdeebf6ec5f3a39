/-! two groups made one: how the sums over pairs grow -/
def mrg (p : Nat → Nat) (a b : Nat) : Nat → Nat := fun i => if p i = b then a else p i
theorem mrg_eq {p : Nat → Nat} {a b : Nat} (i j : Nat) : mrg p a b i = mrg p a b j ↔ p i = p j ∨ (p i = a ∧ p j = b) ∨ (p i = b ∧ p j = a) := by
  unfold mrg
  by_cases h1 : p i = b <;> by_cases h2 : p j = b
  · rw [if_pos h1, if_pos h2]; exact ⟨fun _ => Or.inl (h1.trans h2.symm), fun _ => rfl⟩
  · rw [if_pos h1, if_neg h2]
    constructor
    · intro h; exact Or.inr (Or.inr ⟨h1, h.symm⟩)
    · rintro (h | ⟨h3, h4⟩ | ⟨h3, h4⟩)
      · exact absurd (h.symm.trans h1) h2
      · exact absurd h4 h2
      · exact h4.symm
  · rw [if_neg h1, if_pos h2]
    constructor
    · intro h; exact Or.inr (Or.inl ⟨h, h2⟩)
    · rintro (h | ⟨h3, h4⟩ | ⟨h3, h4⟩)
      · exact absurd (h.trans h2) h1
      · exact h3
      · exact absurd h3 h1
  · rw [if_neg h1, if_neg h2]
    constructor
    · exact Or.inl
    · rintro (h | ⟨h3, h4⟩ | ⟨h3, h4⟩)
      · exact h
      · exact absurd h4 h2
      · exact absurd h3 h1
theorem btw_s (n : Nat) (F : Nat → Nat → Int) (p : Nat → Nat) {a b : Nat} (hab : a ≠ b) : btw (n + 1) F p a b = btw n F p a b + sm n (fun i => if p i = a ∧ p n = b then F i n else 0) + sm n (fun j => if p n = a ∧ p j = b then F n j else 0) := by
  unfold btw
  rw [sm_s]
  have e1 : sm n (fun i => sm (n + 1) (fun j => if p i = a ∧ p j = b then F i j else 0)) = sm n (fun i => sm n (fun j => if p i = a ∧ p j = b then F i j else 0)) + sm n (fun i => if p i = a ∧ p n = b then F i n else 0) := by
    rw [← sm_add]
    exact sm_congr (fun i _ => rfl)
  rw [e1, sm_s, if_neg (fun q : p n = a ∧ p n = b => hab (q.1.symm.trans q.2))]
  omega
theorem sm2_mrg {F : Nat → Nat → Int} {p : Nat → Nat} {a b : Nat} (hab : a ≠ b) : ∀ n, (∀ i j, i < n → j < n → F i j = F j i) → sm2 n F (mrg p a b) = sm2 n F p + btw n F p a b
  | 0, _ => rfl
  | n + 1, hF => by
    rw [sm2_s, sm2_s, btw_s n F p hab, sm2_mrg hab n (fun i j hi hj => hF i j (by omega) (by omega))]
    have e : sm n (fun j => if mrg p a b n = mrg p a b j then F n j else 0) = sm n (fun j => if p n = p j then F n j else 0) + (sm n (fun i => if p i = a ∧ p n = b then F i n else 0) + sm n (fun j => if p n = a ∧ p j = b then F n j else 0)) := by
      rw [← sm_add, ← sm_add]
      refine sm_congr (fun j hj => ?_)
      rw [hF j n (by omega) (by omega)]
      by_cases h1 : p n = p j
      · rw [if_pos ((mrg_eq n j).mpr (Or.inl h1)), if_pos h1, if_neg (fun q : p j = a ∧ p n = b => hab (q.1.symm.trans (h1.symm.trans q.2))), if_neg (fun q : p n = a ∧ p j = b => hab (q.1.symm.trans (h1.trans q.2)))]
        omega
      · rw [if_neg h1]
        by_cases h2 : p j = a ∧ p n = b
        · rw [if_pos ((mrg_eq n j).mpr (Or.inr (Or.inr ⟨h2.2, h2.1⟩))), if_pos h2, if_neg (fun q : p n = a ∧ p j = b => hab (q.1.symm.trans h2.2))]
          omega
        · rw [if_neg h2]
          by_cases h3 : p n = a ∧ p j = b
          · rw [if_pos ((mrg_eq n j).mpr (Or.inr (Or.inl h3))), if_pos h3]; omega
          · rw [if_neg h3, if_neg (fun q => by
              rcases (mrg_eq n j).mp q with z | z | z
              · exact h1 z
              · exact h3 z
              · exact h2 ⟨z.2, z.1⟩)]
            rfl
    rw [e]
    omega
theorem btw_lin (n : Nat) (F G : Nat → Nat → Int) (c d : Int) (p : Nat → Nat) (a b : Nat) : btw n (fun i j => c * F i j - d * G i j) p a b = c * btw n F p a b - d * btw n G p a b := by
  unfold btw
  have e : ∀ i, sm n (fun j => if p i = a ∧ p j = b then c * F i j - d * G i j else 0) = c * sm n (fun j => if p i = a ∧ p j = b then F i j else 0) + (-d) * sm n (fun j => if p i = a ∧ p j = b then G i j else 0) := fun i => by
    rw [← sm_mul, ← sm_mul, ← sm_add]
    refine sm_congr (fun j _ => ?_)
    by_cases h : p i = a ∧ p j = b
    · rw [if_pos h, if_pos h, if_pos h, Int.neg_mul]; omega
    · rw [if_neg h, if_neg h, if_neg h, Int.mul_zero, Int.mul_zero]; rfl
  rw [sm_congr (fun i _ => e i), sm_add, sm_mul, sm_mul, Int.neg_mul]
  omega
/-- how much greater the value is with two groups merged -/
theorem gain_mrg {FA FB : Nat → Nat → Int} {p : Nat → Nat} {a b n : Nat} {x y al : Int} (hab : a ≠ b) (hA : ∀ i j, i < n → j < n → FA i j = FA j i) (hB : ∀ i j, i < n → j < n → FB i j = FB j i) :
    (y * sm2 n FA (mrg p a b) - x * (al + sm2 n FB (mrg p a b))) - (y * sm2 n FA p - x * (al + sm2 n FB p)) = btw n (fun i j => y * FA i j - x * FB i j) p a b := by
  rw [sm2_mrg hab n hA, sm2_mrg hab n hB, btw_lin, Int.mul_add, Int.mul_add, Int.mul_add, Int.mul_add]
  omega
