/-! what a decompiled function answers: it answers something of which P holds; one row a shape -/
def ok {β : Type} (o : Option β) (P : β → Prop) : Prop := ∃ x, o = some x ∧ P x
theorem ok_some {β : Type} {x : β} {P : β → Prop} (h : P x) : ok (some x) P := ⟨x, rfl, h⟩
theorem ok_if {β : Type} {c : Prop} {i : Decidable c} {X Y : Option β} {P : β → Prop} (h1 : c → ok X P) (h2 : ¬ c → ok Y P) : ok (@ite (Option β) c i X Y) P := by
  by_cases hc : c
  · rw [if_pos hc]; exact h1 hc
  · rw [if_neg hc]; exact h2 hc
theorem ok_t {β : Type} {c : Prop} {i : Decidable c} {X Y : Option β} {P : β → Prop} (hc : c) (h : ok X P) : ok (@ite (Option β) c i X Y) P := by
  rw [if_pos hc]; exact h
theorem ok_f {β : Type} {c : Prop} {i : Decidable c} {X Y : Option β} {P : β → Prop} (hc : ¬ c) (h : ok Y P) : ok (@ite (Option β) c i X Y) P := by
  rw [if_neg hc]; exact h
theorem ok_bind {α β : Type} {o : Option α} {k : α → Option β} {Q : α → Prop} {P : β → Prop} (h1 : ok o Q) (h2 : ∀ x, Q x → ok (k x) P) : ok (o.bind k) P := by
  obtain ⟨x, rfl, hq⟩ := h1
  exact h2 x hq
theorem ok_jn {σ β : Type} {K : σ → Option β} {F : (σ → Option β) → Option β} {P : β → Prop} (J : σ → Prop) (h1 : ∀ k : σ → Option β, (∀ st, J st → ok (k st) P) → ok (F k) P) (h2 : ∀ st, J st → ok (K st) P) : ok (jn K F) P := h1 K h2
theorem ok_w {β : Type} {o : Option β} {P Q : β → Prop} (h : ok o P) (hw : ∀ x, P x → Q x) : ok o Q := by
  obtain ⟨x, h1, h2⟩ := h
  exact ⟨x, h1, hw x h2⟩
/-- a loop, by a measure -/
theorem ok_loop {σ β : Type} {f : σ → (σ → Option β) → (σ → Option β) → Option β} {K : σ → Option β} {P : β → Prop} {n : Nat} {s0 : σ} (I E : σ → Prop) (μ : σ → Nat)
    (hs : ∀ (st : σ) (back exit : σ → Option β), I st → (∀ st', I st' → μ st' < μ st → ok (back st') P) → (∀ st', E st' → ok (exit st') P) → ok (f st back exit) P)
    (hK : ∀ st, E st → ok (K st) P) (h0 : I s0) (hn : μ s0 < n) : ok (loopC f K n s0) P := by
  induction n generalizing s0 with
  | zero => exact absurd hn (Nat.not_lt_zero _)
  | succ n ih => exact hs s0 (loopC f K n) K h0 (fun st' h1 h2 => ih h1 (by omega)) hK
/-- a loop that counts j up to n -/
theorem ok_cnt {σ β : Type} {f : σ → (σ → Option β) → (σ → Option β) → Option β} {K : σ → Option β} {P : β → Prop} {fuel : Nat} {s0 : σ} (n j0 : Nat) (I : Nat → σ → Prop)
    (hb : ∀ (j : Nat) (st : σ) (back exit : σ → Option β), j < n → I j st → (∀ st', I (j + 1) st' → ok (back st') P) → ok (f st back exit) P)
    (he : ∀ (st : σ) (back exit : σ → Option β), I n st → (∀ st', I n st' → ok (exit st') P) → ok (f st back exit) P)
    (hK : ∀ st, I n st → ok (K st) P) (h0 : I j0 s0) (hj : j0 ≤ n) (hn : n - j0 < fuel) : ok (loopC f K fuel s0) P := by
  induction fuel generalizing s0 j0 with
  | zero => exact absurd hn (Nat.not_lt_zero _)
  | succ fuel ih =>
    rcases Nat.lt_or_ge j0 n with h | h
    · exact hb j0 s0 (loopC f K fuel) K h h0 (fun st' h1 => ih (j0 + 1) h1 (by omega) (by omega))
    · have e : j0 = n := by omega
      subst e
      exact he s0 (loopC f K fuel) K h0 hK
theorem FU_big {n : Nat} (h : n < 30000) : n < FU := h
theorem nI_add1 (j : Nat) : nI j + 1 = nI (j + 1) := nI_1 j
theorem nI_lit0 : (0 : Int32) = nI 0 := by decide +kernel
theorem nI_lit1 : (1 : Int32) = nI 1 := by decide +kernel
theorem nI_inj {a b : Nat} (ha : a < 2 ^ 31) (hb : b < 2 ^ 31) (h : nI a = nI b) : a = b := (nI_eq ha hb).mp h
/-- Arrays.fill over ints -/
theorem h_fillI {f : Nat → Int32} {n : Nat} {v : Int32} (hn : n < 30000) : ok (m_Ar_fill_AII f n v) (fun g => (∀ j, j < n → g j = v) ∧ ∀ j, n ≤ j → g j = f j) := by
  unfold m_Ar_fill_AII
  refine ok_cnt n 0 (fun j st => st.1 = nI j ∧ (∀ i, i < j → st.2 i = v) ∧ ∀ i, j ≤ i → st.2 i = f i) ?_ ?_ ?_ ⟨nI_lit0, fun _ h => absurd h (Nat.not_lt_zero _), fun _ _ => rfl⟩ (Nat.zero_le n) (FU_big hn)
  · rintro j ⟨i, g⟩ back exit hj ⟨e, h1, h2⟩ hback
    dsimp only at e h1 h2
    subst e
    unfold s_Ar_fill_AII_5
    dsimp only
    refine ok_f (fun h => absurd ((nI_leI (by omega) (by omega)).mp h) (by omega)) ?_
    refine ok_t (inb_nI hj (by omega)) ?_
    refine hback _ ⟨nI_add1 j, fun i hi => ?_, fun i hi => ?_⟩
    · dsimp only
      rw [nI_clamp (by omega)]
      by_cases e : i = j
      · subst e; exact pk_us
      · rw [pk_un e]; exact h1 i (by omega)
    · dsimp only
      rw [nI_clamp (by omega), pk_un (by omega)]
      exact h2 i (by omega)
  · rintro ⟨i, g⟩ back exit ⟨e, h1, h2⟩ hexit
    dsimp only at e h1 h2
    subst e
    unfold s_Ar_fill_AII_5
    dsimp only
    refine ok_t ((nI_leI (by omega) (by omega)).mpr (Nat.le_refl n)) ?_
    exact hexit _ ⟨rfl, h1, h2⟩
  · rintro ⟨i, g⟩ ⟨e, h1, h2⟩
    exact ok_some ⟨h1, h2⟩
