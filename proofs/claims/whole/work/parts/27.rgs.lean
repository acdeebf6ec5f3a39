/-! all partitions one by one: restricted growth, the next one, its rank -/
def opn (w : Nat → Nat) : Nat → Nat
  | 0 => 0
  | i + 1 => max (opn w i) (w i + 1)
theorem opn_s (w : Nat → Nat) (i : Nat) : opn w (i + 1) = max (opn w i) (w i + 1) := rfl
theorem opn_congr {w v : Nat → Nat} : ∀ {i : Nat}, (∀ j, j < i → w j = v j) → opn w i = opn v i
  | 0, _ => rfl
  | i + 1, h => by rw [opn_s, opn_s, opn_congr (fun j hj => h j (by omega)), h i (by omega)]
def rgs (n : Nat) (w : Nat → Nat) : Prop := ∀ i, i < n → w i ≤ opn w i
theorem opn_le {n : Nat} {w : Nat → Nat} (h : rgs n w) : ∀ {i : Nat}, i ≤ n → opn w i ≤ i
  | 0, _ => Nat.le_refl _
  | i + 1, hi => by
    have h1 := opn_le h (by omega : i ≤ n)
    have h2 := h i (by omega)
    rw [opn_s]; omega
theorem rgs_le {n i : Nat} {w : Nat → Nat} (h : rgs n w) (hi : i < n) : w i ≤ i := Nat.le_trans (h i hi) (opn_le h (by omega))
/-- the next partition, with the pivot i -/
def nxt (w : Nat → Nat) (i : Nat) : Nat → Nat := fun j => if j < i then w j else if j = i then w i + 1 else 0
def pivot (n : Nat) (w : Nat → Nat) (i : Nat) : Prop := 1 ≤ i ∧ i < n ∧ w i < opn w i ∧ ∀ j, i < j → j < n → w j = opn w j
def lastp (n : Nat) (w : Nat → Nat) : Prop := ∀ j, 1 ≤ j → j < n → w j = opn w j
theorem nxt_lt {w : Nat → Nat} {i j : Nat} (h : j < i) : nxt w i j = w j := if_pos h
theorem nxt_eq {w : Nat → Nat} {i : Nat} : nxt w i i = w i + 1 := by unfold nxt; rw [if_neg (Nat.lt_irrefl i), if_pos rfl]
theorem nxt_gt {w : Nat → Nat} {i j : Nat} (h : i < j) : nxt w i j = 0 := by unfold nxt; rw [if_neg (by omega), if_neg (by omega)]
theorem rgs_nxt {n i : Nat} {w : Nat → Nat} (h : rgs n w) (hp : pivot n w i) : rgs n (nxt w i) := by
  intro j hj
  rcases Nat.lt_trichotomy j i with q | q | q
  · rw [nxt_lt q, opn_congr (v := w) (fun k hk => nxt_lt (by omega))]; exact h j hj
  · subst q
    rw [nxt_eq, opn_congr (v := w) (fun k hk => nxt_lt hk)]
    have := hp.2.2.1; omega
  · rw [nxt_gt q]; exact Nat.zero_le _
theorem rgs_0 (n : Nat) : rgs n (fun _ => 0) := fun _ _ => Nat.zero_le _
/-- how many ways r more nodes can go on, m groups being open -/
def cnt : Nat → Nat → Nat
  | 0, _ => 1
  | r + 1, m => m * cnt r m + cnt r (m + 1)
theorem cnt_pos : ∀ r m, 0 < cnt r m
  | 0, _ => Nat.one_pos
  | r + 1, m => by
    have := cnt_pos r (m + 1)
    show 0 < m * cnt r m + cnt r (m + 1)
    omega
theorem cnt9 : ∀ n, n ≤ 9 → cnt n 0 ≤ 21147 := by
  have h : ∀ n, n < 10 → cnt n 0 ≤ 21147 := by decide +kernel
  exact fun n hn => h n (by omega)
/-- the rank of the last r places -/
def sf (n : Nat) (w : Nat → Nat) : Nat → Nat
  | 0 => 0
  | r + 1 => w (n - (r + 1)) * cnt r (opn w (n - (r + 1))) + sf n w r
theorem sf_bd {n : Nat} {w : Nat → Nat} (h : rgs n w) : ∀ r, r ≤ n → sf n w r < cnt r (opn w (n - r))
  | 0, _ => Nat.one_pos
  | r + 1, hr => by
    have ih := sf_bd h r (by omega)
    have hi := h (n - (r + 1)) (by omega)
    have e : n - r = n - (r + 1) + 1 := by omega
    rw [e, opn_s] at ih
    show w (n - (r + 1)) * cnt r (opn w (n - (r + 1))) + sf n w r < opn w (n - (r + 1)) * cnt r (opn w (n - (r + 1))) + cnt r (opn w (n - (r + 1)) + 1)
    generalize opn w (n - (r + 1)) = m at ih hi ⊢
    generalize w (n - (r + 1)) = x at ih hi ⊢
    rcases Nat.lt_or_ge x m with q | q
    · rw [Nat.max_eq_left (by omega)] at ih
      have h1 : (x + 1) * cnt r m ≤ m * cnt r m := Nat.mul_le_mul_right _ q
      rw [Nat.succ_mul] at h1
      omega
    · have e2 : x = m := by omega
      subst e2
      rw [Nat.max_eq_right (by omega)] at ih
      omega
theorem sf_max {n : Nat} {w : Nat → Nat} : ∀ r, r ≤ n → (∀ j, n - r ≤ j → j < n → w j = opn w j) → sf n w r + 1 = cnt r (opn w (n - r))
  | 0, _, _ => rfl
  | r + 1, hr, h => by
    have ih := sf_max r (by omega) (fun j hj hj2 => h j (by omega) hj2)
    have e : n - r = n - (r + 1) + 1 := by omega
    rw [e, opn_s] at ih
    have hi := h (n - (r + 1)) (Nat.le_refl _) (by omega)
    show w (n - (r + 1)) * cnt r (opn w (n - (r + 1))) + sf n w r + 1 = opn w (n - (r + 1)) * cnt r (opn w (n - (r + 1))) + cnt r (opn w (n - (r + 1)) + 1)
    rw [hi] at ih ⊢
    rw [Nat.max_eq_right (by omega)] at ih
    omega
theorem sf_0 {n : Nat} {w : Nat → Nat} : ∀ r, r ≤ n → (∀ j, n - r ≤ j → j < n → w j = 0) → sf n w r = 0
  | 0, _, _ => rfl
  | r + 1, hr, h => by
    show w (n - (r + 1)) * _ + sf n w r = 0
    rw [h _ (Nat.le_refl _) (by omega), Nat.zero_mul, sf_0 r (by omega) (fun j hj hj2 => h j (by omega) hj2)]
theorem sf_nxt {n i : Nat} {w : Nat → Nat} (hp : pivot n w i) : ∀ r, r ≤ n → n - i ≤ r → sf n (nxt w i) r = sf n w r + 1
  | 0, _, h => absurd h (by have := hp.2.1; omega)
  | r + 1, hr, h => by
    obtain ⟨p1, p2, p3, p4⟩ := hp
    by_cases e : n - i = r + 1
    · have ei : n - (r + 1) = i := by omega
      show nxt w i (n - (r + 1)) * cnt r (opn (nxt w i) (n - (r + 1))) + sf n (nxt w i) r = w (n - (r + 1)) * cnt r (opn w (n - (r + 1))) + sf n w r + 1
      have h1 : sf n (nxt w i) r = 0 := sf_0 r (by omega) (fun j hj hj2 => nxt_gt (by omega))
      have h2 := sf_max r (by omega) (fun j hj hj2 => p4 j (by omega) hj2 : ∀ j, n - r ≤ j → j < n → w j = opn w j)
      have e2 : n - r = i + 1 := by omega
      rw [e2, opn_s, Nat.max_eq_left (by omega)] at h2
      rw [h1, ei, nxt_eq, opn_congr (w := nxt w i) (v := w) (fun k hk => nxt_lt hk), Nat.succ_mul]
      omega
    · have ih := sf_nxt ⟨p1, p2, p3, p4⟩ r (by omega) (by omega)
      show nxt w i (n - (r + 1)) * cnt r (opn (nxt w i) (n - (r + 1))) + sf n (nxt w i) r = w (n - (r + 1)) * cnt r (opn w (n - (r + 1))) + sf n w r + 1
      rw [ih, nxt_lt (show n - (r + 1) < i by omega), opn_congr (w := nxt w i) (v := w) (fun k hk => nxt_lt (by omega))]
      omega
/-- the k-th partition: after k steps from all in one -/
def rank (n : Nat) (w : Nat → Nat) : Nat := sf n w n
theorem rank_lt {n : Nat} {w : Nat → Nat} (hn : n ≤ 9) (h : rgs n w) : rank n w < 21147 := by
  have h1 := sf_bd h n (Nat.le_refl n)
  rw [Nat.sub_self] at h1
  have h2 := cnt9 n hn
  have e : opn w 0 = 0 := rfl
  rw [e] at h1
  unfold rank
  omega
theorem rank_nxt {n i : Nat} {w : Nat → Nat} (hp : pivot n w i) : rank n (nxt w i) = rank n w + 1 := sf_nxt hp n (Nat.le_refl n) (by omega)
theorem rank_0 (n : Nat) : rank n (fun _ => 0) = 0 := sf_0 n (Nat.le_refl n) (fun _ _ _ => rfl)
theorem piv_or {n : Nat} {w : Nat → Nat} (h : rgs n w) {i : Nat} (hi : i < n) (hs : ∀ j, i < j → j < n → w j = opn w j) : (1 ≤ i ∧ pivot n w i) ∨ (∀ j, i ≤ j → 1 ≤ j → j < n → w j = opn w j) := by
  by_cases h1 : 1 ≤ i
  · by_cases h2 : w i < opn w i
    · exact Or.inl ⟨h1, h1, hi, h2, hs⟩
    · refine Or.inr (fun j hj _ hj2 => ?_)
      by_cases e : j = i
      · subst e; have := h j hi; omega
      · exact hs j (by omega) hj2
  · exact Or.inr (fun j hj hj1 hj2 => hs j (by omega) hj2)
/-- the reference's walk -/
theorem h_first {n : Nat} {wk : Nat → Int32} (hn : n ≤ 9) : ok (m_Mo_first (nI n) wk) (fun o => ∀ i, i < n → o i = nI ((fun _ => 0) i)) := by
  unfold m_Mo_first
  refine ok_fill n (fun _ => nI 0) (by omega) (fun j g back exit hj _ _ => ?_) (fun g back exit => ?_) (fun g h1 h2 => ok_some h1)
  · unfold s_Mo_first_2
    dsimp only
    rw [if_neg (le_nI (by omega) (by omega) hj), if_pos (inb_nI (by omega) (by omega)), nI_clamp (by omega)]
    rfl
  · unfold s_Mo_first_2
    dsimp only
    rw [if_pos (nI_le (Nat.le_refl n) (by omega))]
theorem m1_neg : (0 : Int32) - 1 ≤ 0 := by decide
theorem h_next {n : Nat} {wk : Nat → Int32} {w : Nat → Nat} (hn : n ≤ 9) (hr : rgs n w) (hw : ∀ i, i < n → wk i = nI (w i)) :
    ok (m_Mo_next (nI n) wk) (fun o => (o.1 = 0 ∧ lastp n w ∧ ∀ i, i < n → o.2 i = nI (w i)) ∨ (∃ i, pivot n w i ∧ o.1 = 1 ∧ ∀ j, j < n → o.2 j = nI (nxt w i j))) := by
  unfold m_Mo_next
  rcases Nat.eq_zero_or_pos n with h0 | h0
  · subst h0
    refine ok_loop (fun st => st = nI 0 - 1) (fun _ => True) (fun _ => 0) ?_ (fun st _ => ok_some (Or.inl ⟨rfl, fun j _ h => absurd h (Nat.not_lt_zero _), fun i h => absurd h (Nat.not_lt_zero _)⟩)) rfl (FU_big (by omega))
    rintro st back exit e _ hexit
    subst e
    unfold s_Mo_next_7
    exact ok_t (by decide +kernel) (hexit _ trivial)
  · refine ok_loop (fun st => ∃ i, i < n ∧ st = nI i ∧ ∀ j, i < j → j < n → w j = opn w j) (fun _ => lastp n w) (fun st => st.toNatClampNeg + 1) ?_ (fun st h => ok_some (Or.inl ⟨rfl, h, hw⟩)) ⟨n - 1, by omega, by rw [nI_lit1, pk_sub (by omega)], fun j h1 h2 => absurd h1 (by omega)⟩ (FU_big (by rw [nI_lit1, pk_sub (by omega), nI_clamp (by omega)]; omega))
    rintro st back exit ⟨i, hi, e, hs⟩ hback hexit
    subst e
    unfold s_Mo_next_7
    by_cases hi0 : i = 0
    · subst hi0
      refine ok_t (by decide +kernel) (hexit _ (fun j h1 h2 => hs j (by omega) h2))
    · refine ok_f (nI_nle (by omega) (by omega)) ?_
      refine ok_cnt i 0 (fun v st => st.1 = nI (opn w v - 1) ∧ st.2 = nI v) ?_ ?_ ?_ ⟨rfl, nI_lit0⟩ (Nat.zero_le _) (FU_big (by omega))
      · rintro v ⟨mo, x⟩ back2 exit2 hv ⟨e1, e2⟩ hb2
        dsimp only at e1 e2
        subst e1 e2
        have h1 := hr v (by omega)
        have h2 := opn_le hr (by omega : v ≤ n)
        unfold s_Mo_next_15
        dsimp only
        rw [nI_clamp (show v < 2 ^ 31 by omega), hw v (by omega)]
        refine ok_f (le_nI (by omega) (by omega) hv) (ok_t (inb_nI (by omega) (by omega)) ?_)
        refine ok_if (fun q => hb2 _ ⟨?_, nI_add1 v⟩) (fun q => hb2 _ ⟨?_, nI_add1 v⟩)
        · have q2 := (nI_leI (by omega) (by omega)).mp q
          dsimp only
          rw [opn_s]
          congr 1
          omega
        · have q2 : ¬ w v ≤ opn w v - 1 := fun z => q (nI_le z (by omega))
          dsimp only
          rw [opn_s]
          congr 1
          omega
      · rintro ⟨mo, x⟩ back2 exit2 ⟨e1, e2⟩ he2
        dsimp only at e1 e2
        subst e1 e2
        unfold s_Mo_next_15
        dsimp only
        exact ok_t (nI_le (Nat.le_refl i) (by omega)) (he2 _ ⟨rfl, rfl⟩)
      · rintro ⟨mo, x⟩ ⟨e1, e2⟩
        dsimp only at e1 e2 ⊢
        subst e1 e2
        have h1 := hr i hi
        have h2 := opn_le hr (by omega : i ≤ n)
        have h3 : 1 ≤ opn w i := by
          obtain ⟨k, rfl⟩ : ∃ k, i = k + 1 := ⟨i - 1, by omega⟩
          rw [opn_s]; omega
        rw [nI_clamp (show i < 2 ^ 31 by omega), hw i hi]
        refine ok_t (inb_nI (by omega) (by omega)) (ok_if (fun q => ?_) (fun q => ?_))
        · have q2 := (nI_ltI (by omega) (by omega)).mp q
          rw [sb_m1 (by omega)]
          refine hback _ ⟨i - 1, by omega, rfl, fun j h4 h5 => ?_⟩ (by rw [nI_clamp (by omega), nI_clamp (by omega)]; omega)
          by_cases e : j = i
          · subst e; omega
          · exact hs j (by omega) h5
        · have q2 : ¬ opn w i - 1 < w i := fun z => q (nI_lt z (by omega))
          have hp : pivot n w i := ⟨by omega, hi, by omega, hs⟩
          refine ok_cnt n (i + 1) (fun j st => i < j ∧ st.1 = nI j ∧ (∀ u, u < j → st.2 u = nI (nxt w i u))) ?_ ?_ ?_ ⟨by omega, nI_add1 i, fun u hu => ?_⟩ (by omega) (FU_big (by omega))
          · rintro j ⟨y, g⟩ back2 exit2 hj ⟨hij, e3, h6⟩ hb2
            dsimp only at e3 h6
            subst e3
            unfold s_Mo_next_71
            dsimp only
            rw [nI_clamp (show j < 2 ^ 31 by omega)]
            refine ok_f (le_nI (by omega) (by omega) hj) (ok_t (inb_nI (by omega) (by omega)) (hb2 _ ⟨by omega, nI_add1 j, fun u hu => ?_⟩))
            dsimp only
            by_cases e : u = j
            · subst e; rw [pk_us, nxt_gt hij]; rfl
            · rw [pk_un e]; exact h6 u (by omega)
          · rintro ⟨y, g⟩ back2 exit2 ⟨hij, e3, h6⟩ he2
            dsimp only at e3 h6
            subst e3
            unfold s_Mo_next_71
            dsimp only
            exact ok_t (nI_le (Nat.le_refl n) (by omega)) (he2 _ ⟨hij, rfl, h6⟩)
          · rintro ⟨y, g⟩ ⟨hij, e3, h6⟩
            exact ok_some (Or.inr ⟨i, hp, rfl, h6⟩)
          · dsimp only
            by_cases e : u = i
            · subst e; rw [pk_us, nxt_eq, nI_1]
            · rw [pk_un e, hw u (by omega), nxt_lt (by omega)]
