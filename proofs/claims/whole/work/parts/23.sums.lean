/-! integers behind ints and longs; sums; the graph's numbers -/
def jZ (z : Int) : Int64 := Int64.ofInt z
def iZ (z : Int) : Int32 := Int32.ofInt z
theorem jZ_add (a b : Int) : jZ (a + b) = jZ a + jZ b := Int64.ofInt_add a b
theorem jZ_sub (a b : Int) : jZ (a - b) = jZ a - jZ b := Int64.ofInt_sub a b
theorem jZ_mul (a b : Int) : jZ (a * b) = jZ a * jZ b := Int64.ofInt_mul a b
theorem iZ_add (a b : Int) : iZ (a + b) = iZ a + iZ b := Int32.ofInt_add a b
theorem jZ_0 : jZ 0 = 0 := rfl
theorem jZ_1 : jZ 1 = 1 := rfl
theorem iZ_0 : iZ 0 = 0 := rfl
theorem jZ_toInt {z : Int} (h1 : -9000000000000000000 ≤ z) (h2 : z ≤ 9000000000000000000) : (jZ z).toInt = z := Int64.toInt_ofInt_of_le (by omega) (by omega)
theorem iZ_toInt {z : Int} (h1 : -2000000000 ≤ z) (h2 : z ≤ 2000000000) : (iZ z).toInt = z := Int32.toInt_ofInt_of_le (by omega) (by omega)
def inJ (z : Int) : Prop := -9000000000000000000 ≤ z ∧ z ≤ 9000000000000000000
def inI (z : Int) : Prop := -2000000000 ≤ z ∧ z ≤ 2000000000
theorem jZ_lt {a b : Int} (ha : inJ a) (hb : inJ b) : jZ a < jZ b ↔ a < b := by
  rw [Int64.lt_iff_toInt_lt, jZ_toInt ha.1 ha.2, jZ_toInt hb.1 hb.2]
theorem jZ_le {a b : Int} (ha : inJ a) (hb : inJ b) : jZ a ≤ jZ b ↔ a ≤ b := by
  rw [Int64.le_iff_toInt_le, jZ_toInt ha.1 ha.2, jZ_toInt hb.1 hb.2]
theorem jZ_eq {a b : Int} (ha : inJ a) (hb : inJ b) : jZ a = jZ b ↔ a = b := by
  rw [← Int64.toInt_inj, jZ_toInt ha.1 ha.2, jZ_toInt hb.1 hb.2]
theorem iZ_lt {a b : Int} (ha : inI a) (hb : inI b) : iZ a < iZ b ↔ a < b := by
  rw [Int32.lt_iff_toInt_lt, iZ_toInt ha.1 ha.2, iZ_toInt hb.1 hb.2]
theorem iZ_le {a b : Int} (ha : inI a) (hb : inI b) : iZ a ≤ iZ b ↔ a ≤ b := by
  rw [Int32.le_iff_toInt_le, iZ_toInt ha.1 ha.2, iZ_toInt hb.1 hb.2]
theorem iZ_eq {a b : Int} (ha : inI a) (hb : inI b) : iZ a = iZ b ↔ a = b := by
  rw [← Int32.toInt_inj, iZ_toInt ha.1 ha.2, iZ_toInt hb.1 hb.2]
theorem iZ_j {z : Int} (h : inI z) : (iZ z).toInt64 = jZ z := by
  rw [← Int64.ofInt_int32ToInt, iZ_toInt h.1 h.2]; rfl
theorem nI_iZ (n : Nat) : nI n = iZ n := Int32.ofInt_eq_ofNat.symm
/-- sums -/
def sm (n : Nat) (f : Nat → Int) : Int := match n with
  | 0 => 0
  | n + 1 => sm n f + f n
theorem sm_s (n : Nat) (f : Nat → Int) : sm (n + 1) f = sm n f + f n := rfl
theorem sm_congr {f g : Nat → Int} : ∀ {n : Nat}, (∀ i, i < n → f i = g i) → sm n f = sm n g
  | 0, _ => rfl
  | n + 1, h => by rw [sm_s, sm_s, sm_congr (fun i hi => h i (by omega)), h n (by omega)]
theorem sm_add (f g : Nat → Int) : ∀ n, sm n (fun i => f i + g i) = sm n f + sm n g
  | 0 => rfl
  | n + 1 => by rw [sm_s, sm_s, sm_s, sm_add f g n]; omega
theorem sm_mul (c : Int) (f : Nat → Int) : ∀ n, sm n (fun i => c * f i) = c * sm n f
  | 0 => by show 0 = c * 0; rw [Int.mul_zero]
  | n + 1 => by rw [sm_s, sm_s, sm_mul c f n, Int.mul_add]
theorem sm_zero {f : Nat → Int} : ∀ {n : Nat}, (∀ i, i < n → f i = 0) → sm n f = 0
  | 0, _ => rfl
  | n + 1, h => by rw [sm_s, sm_zero (fun i hi => h i (by omega)), h n (by omega)]; rfl
theorem sm_bd {f : Nat → Int} {c : Int} (hc : 0 ≤ c) : ∀ {n : Nat}, (∀ i, i < n → -c ≤ f i ∧ f i ≤ c) → -(c * n) ≤ sm n f ∧ sm n f ≤ c * n
  | 0, _ => by show -(c * 0) ≤ 0 ∧ (0 : Int) ≤ c * 0; omega
  | n + 1, h => by
    have h1 := sm_bd hc (fun i hi => h i (by omega : i < n + 1) : ∀ i, i < n → _)
    have h2 := h n (by omega)
    have e : c * ((n + 1 : Nat) : Int) = c * n + c := by
      rw [Int.natCast_succ, Int.mul_add, Int.mul_one]
    rw [sm_s, e]
    omega
/-- a sum with one place more at k -/
theorem sm_at (x : Int) (k : Nat) : ∀ n, sm n (fun i => if i = k then x else 0) = if k < n then x else 0
  | 0 => rfl
  | n + 1 => by
    rw [sm_s, sm_at x k n]
    by_cases h1 : k < n
    · rw [if_pos h1, if_neg (by omega), if_pos (by omega)]; omega
    · rw [if_neg h1]
      by_cases h2 : n = k
      · rw [if_pos h2, if_pos (by omega)]; omega
      · rw [if_neg h2, if_neg (by omega)]; rfl
/-- the sum over the pairs of nodes in one group -/
def sm2 (n : Nat) (F : Nat → Nat → Int) (p : Nat → Nat) : Int := sm n (fun i => sm i (fun j => if p i = p j then F i j else 0))
theorem sm2_s (n : Nat) (F : Nat → Nat → Int) (p : Nat → Nat) : sm2 (n + 1) F p = sm2 n F p + sm n (fun j => if p n = p j then F n j else 0) := rfl
theorem sm2_congr {F G : Nat → Nat → Int} {p q : Nat → Nat} {n : Nat} (hF : ∀ i j, i < n → j < i → F i j = G i j) (hp : ∀ i j, i < n → j < i → (p i = p j ↔ q i = q j)) : sm2 n F p = sm2 n G q := by
  refine sm_congr (fun i hi => sm_congr (fun j hj => ?_))
  rw [hF i j hi hj]
  by_cases h : p i = p j
  · rw [if_pos h, if_pos ((hp i j hi hj).mp h)]
  · rw [if_neg h, if_neg (fun q => h ((hp i j hi hj).mpr q))]
theorem sm2_mul (c : Int) (F : Nat → Nat → Int) (p : Nat → Nat) (n : Nat) : sm2 n (fun i j => c * F i j) p = c * sm2 n F p := by
  unfold sm2
  rw [← sm_mul]
  refine sm_congr (fun i _ => ?_)
  rw [← sm_mul]
  refine sm_congr (fun j _ => ?_)
  by_cases h : p i = p j
  · rw [if_pos h, if_pos h]
  · rw [if_neg h, if_neg h, Int.mul_zero]
/-- squares of the groups' sums: one node more -/
theorem sq_step (F : Nat → Int) (x : Int) (k : Nat) : ∀ n, sm n (fun g => (F g + (if k = g then x else 0)) * (F g + (if k = g then x else 0))) = sm n (fun g => F g * F g) + (if k < n then 2 * x * F k + x * x else 0)
  | 0 => rfl
  | n + 1 => by
    rw [sm_s, sm_s, sq_step F x k n]
    by_cases h1 : k = n
    · subst h1
      rw [if_neg (Nat.lt_irrefl k), if_pos rfl, if_pos (Nat.lt_succ_self k)]
      have e : (F k + x) * (F k + x) = F k * F k + (2 * x * F k + x * x) := by
        rw [Int.add_mul, Int.mul_add, Int.mul_add, Int.mul_comm x (F k), show (2 : Int) * x * F k = F k * x + F k * x by rw [Int.mul_assoc, Int.mul_comm x (F k), Int.two_mul]]
        omega
      rw [e]; omega
    · rw [if_neg h1, Int.add_zero]
      by_cases h2 : k < n
      · rw [if_pos h2, if_pos (by omega)]; omega
      · rw [if_neg h2, if_neg (by omega)]; omega
def gs (hs : Nat → Int) (p : Nat → Nat) (n g : Nat) : Int := sm n (fun v => if p v = g then hs v else 0)
theorem gs_s (hs : Nat → Int) (p : Nat → Nat) (n g : Nat) : gs hs p (n + 1) g = gs hs p n g + (if p n = g then hs n else 0) := rfl
theorem squares (hs : Nat → Int) (p : Nat → Nat) (N : Nat) : ∀ n, (∀ i, i < n → p i < N) → sm N (fun g => gs hs p n g * gs hs p n g) = sm n (fun i => hs i * hs i) + sm2 n (fun i j => 2 * hs i * hs j) p
  | 0, _ => by
    show sm N (fun g => (0 : Int) * 0) = 0 + 0
    exact sm_zero (fun _ _ => by rw [Int.mul_zero])
  | n + 1, h => by
    have h1 := squares hs p N n (fun i hi => h i (by omega))
    have h2 := sq_step (gs hs p n) (hs n) (p n) N
    rw [if_pos (h n (by omega))] at h2
    have e1 : sm N (fun g => gs hs p (n + 1) g * gs hs p (n + 1) g) = sm N (fun g => (gs hs p n g + (if p n = g then hs n else 0)) * (gs hs p n g + (if p n = g then hs n else 0))) := sm_congr (fun g _ => by rw [gs_s])
    rw [e1, h2, h1, sm_s, sm2_s]
    have e2 : sm n (fun j => if p n = p j then 2 * hs n * hs j else 0) = 2 * hs n * gs hs p n (p n) := by
      unfold gs
      rw [← sm_mul]
      refine sm_congr (fun j _ => ?_)
      by_cases q : p n = p j
      · rw [if_pos q, if_pos q.symm]
      · rw [if_neg q, if_neg (fun z => q z.symm), Int.mul_zero]
    rw [e2]
    omega
/-- how many pairs a group of c nodes has -/
def tri (c : Nat) : Int := ((c * (c - 1) / 2 : Nat) : Int)
theorem tri_s : ∀ c : Nat, c < 9 → tri (c + 1) = tri c + c := by decide +kernel
theorem tri_j : ∀ c : Nat, c < 10 → (jZ (c : Int) * (jZ (c : Int) - 1)) / 2 = jZ (tri c) := by decide +kernel
def gn (p : Nat → Nat) : Nat → Nat → Nat
  | 0, _ => 0
  | n + 1, g => gn p n g + (if p n = g then 1 else 0)
theorem gn_le (p : Nat → Nat) (g : Nat) : ∀ n, gn p n g ≤ n
  | 0 => Nat.le_refl _
  | n + 1 => by
    have := gn_le p g n
    show gn p n g + _ ≤ _
    split <;> omega
theorem tri_step (F : Nat → Nat) (k : Nat) (hF : ∀ g, F g < 9) : ∀ n, sm n (fun g => tri (F g + (if k = g then 1 else 0))) = sm n (fun g => tri (F g)) + (if k < n then (F k : Int) else 0)
  | 0 => rfl
  | n + 1 => by
    rw [sm_s, sm_s, tri_step F k hF n]
    by_cases h1 : k = n
    · subst h1
      rw [if_neg (Nat.lt_irrefl k), if_pos rfl, if_pos (Nat.lt_succ_self k), tri_s _ (hF k)]
      omega
    · rw [if_neg h1, Nat.add_zero]
      by_cases h2 : k < n
      · rw [if_pos h2, if_pos (by omega)]; omega
      · rw [if_neg h2, if_neg (by omega)]; omega
theorem gn_sm (p : Nat → Nat) (k : Nat) : ∀ n, (gn p n (p k) : Int) = sm n (fun j => if p k = p j then 1 else 0)
  | 0 => rfl
  | n + 1 => by
    rw [sm_s, ← gn_sm p k n]
    show ((gn p n (p k) + (if p n = p k then 1 else 0) : Nat) : Int) = _
    by_cases h : p n = p k
    · rw [if_pos h, if_pos h.symm]; omega
    · rw [if_neg h, if_neg (fun q => h q.symm)]; omega
theorem pairsN (p : Nat → Nat) (N : Nat) : ∀ n, n ≤ 9 → (∀ i, i < n → p i < N) → sm N (fun g => tri (gn p n g)) = sm2 n (fun _ _ => 1) p
  | 0, _, _ => by
    show sm N (fun g => tri 0) = 0
    exact sm_zero (fun _ _ => rfl)
  | n + 1, hn, h => by
    have h1 := pairsN p N n (by omega) (fun i hi => h i (by omega))
    have h2 := tri_step (gn p n) (p n) (fun g => by have := gn_le p g n; omega) N
    rw [if_pos (h n (by omega))] at h2
    show sm N (fun g => tri (gn p n g + (if p n = g then 1 else 0))) = _
    rw [h2, h1, sm2_s, gn_sm]
