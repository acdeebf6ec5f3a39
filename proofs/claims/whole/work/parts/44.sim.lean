/-! the two sides, held against each other -/
def gG (man : Int32) (n k : Nat) (fr to : Nat → Nat) (wt : Nat → Int) (x y : Int) (g_manner g_nodes g_arcs : Int32) (g_from g_to g_weight : Nat → Int32) (n_x n_y r_manner r_above r_below r_nodes r_arcs r_left : Int32) (r_ones r_others r_weights r_there : Nat → Int32) : Prop :=
  (man = 0 ∨ man = 1) ∧ n ≤ 9 ∧ k ≤ 36 ∧ (0 ≤ x ∧ x ≤ 1000) ∧ (1 ≤ y ∧ y ≤ 100) ∧ g_manner = man ∧ g_nodes = nI n ∧ g_arcs = nI k ∧ carc k fr to wt g_from g_to g_weight ∧ n_x = iZ x ∧ n_y = iZ y ∧ r_manner = man ∧ r_above = iZ x ∧ r_below = iZ y ∧ r_nodes = nI n ∧ r_arcs = nI k ∧ r_left = nI (lft wt k) ∧ rarc k fr to wt r_ones r_others r_weights r_there
def bsS (n : Nat) (V : Nat → Int) (isB ties : Int32) (bo : Nat → Int32) : Prop := isB = 0 ∨ (isB = 1 ∧ rbest n V ties bo)
def pCS (n : Nat) (A B : Nat → Int) (known cnt : Int32) (ab : Nat → Int64) (abn : Nat) (be : Nat → Int64) (ben : Nat) (co : Nat → Int64) (con : Nat) : Prop := abn = con ∧ ben = con ∧ 8 ≤ con ∧ con ≤ 4096 ∧ (known = 0 ∨ (known = 1 ∧ ∃ K, isLast n K ∧ plC n A B K con cnt ab be co))
def pRS (n : Nat) (A B : Nat → Int) (isP cnt : Int32) (ab be so : Nat → Int64) : Prop := isP = 0 ∨ (isP = 1 ∧ ∃ K, isLast n K ∧ plR n A B K cnt ab be so)
theorem pCS_0 {n m : Nat} {A B A' B' : Nat → Int} {known cnt : Int32} {ab be co : Nat → Int64} {abn ben con : Nat} (h : pCS n A B known cnt ab abn be ben co con) {k0 : Int32} (e : k0 = 0) : pCS m A' B' k0 cnt ab abn be ben co con := ⟨h.1, h.2.1, h.2.2.1, h.2.2.2.1, Or.inl e⟩
def Sim (g_manner : Int32) (g_nodes : Int32) (g_arcs : Int32) (g_from : Nat → Int32) (g_to : Nat → Int32) (g_weight : Nat → Int32) (n_x : Int32) (n_y : Int32) (n_nodes : Int32) (n_aloneB : Int64) (n_pairA : Nat → Nat → Int64) (n_pairB : Nat → Nat → Int64) (n_link : Nat → Nat → Int32) (n_near : Nat → Int32) (n_has : Nat → Int64) (h_nodes : Int32) (h_count : Int32) (h_groups : Nat → Int32) (h_names : Nat → Int32) (u_nodes : Int32) (u_count : Int32) (u_groups : Nat → Int32) (u_names : Nat → Int32) (k_groups : Nat → Int32) (k_opened : Nat → Int32) (k_sumsA : Nat → Int64) (k_sumsB : Nat → Int64) (k_bringA : Nat → Nat → Int64) (k_bringB : Nat → Nat → Int64) (e_code : Int64) (e_alike : Int32) (s_drawn : Int32) (s_labels : Nat → Int32) (s_order : Nat → Int32) (t_known : Int32) (t_count : Int32) (t_lastA : Int64) (t_lastB : Int64) (t_found : Int32) (t_foundA : Int64) (t_foundB : Int64) (t_foundCode : Int64) (t_above : Nat → Int64) (t_above_n : Nat) (t_below : Nat → Int64) (t_below_n : Nat) (t_codes : Nat → Int64) (t_codes_n : Nat) (r_manner : Int32) (r_above : Int32) (r_below : Int32) (r_nodes : Int32) (r_arcs : Int32) (r_left : Int32) (r_isBest : Int32) (r_arePlateaus : Int32) (r_all : Int64) (r_a : Int64) (r_b : Int64) (r_ties : Int32) (r_z : Int32) (r_plateaus : Int32) (r_ones : Nat → Int32) (r_others : Nat → Int32) (r_weights : Nat → Int32) (r_there : Nat → Int32) (r_hand : Nat → Int32) (r_between : Nat → Int32) (r_joins : Nat → Int32) (r_has : Nat → Int32) (r_sums : Nat → Int64) (r_sizes : Nat → Int64) (r_names : Nat → Int32) (r_trial : Nat → Int32) (r_walk : Nat → Int32) (r_found : Nat → Int32) (r_bestOf : Nat → Int32) (r_tried : Nat → Int32) (r_order : Nat → Int32) (r_label : Nat → Int32) (r_shown : Nat → Int32) (r_beginsAbove : Nat → Int64) (r_beginsBelow : Nat → Int64) (r_shownOf : Nat → Int64) : Prop := ∃ (man : Int32) (n k : Nat) (fr to : Nat → Nat) (wt : Nat → Int) (x y : Int) (p : Nat → Nat), gG man n k fr to wt x y g_manner g_nodes g_arcs g_from g_to g_weight n_x n_y r_manner r_above r_below r_nodes r_arcs r_left r_ones r_others r_weights r_there ∧ built man n k fr to wt n_nodes n_aloneB n_pairA n_pairB n_link n_near n_has ∧ hnd n p h_nodes h_count h_groups r_hand ∧ (k_opened 0 = 0 ∧ k_sumsA 0 = 0) ∧ bsS n (fun j => Val man n k fr to wt x y (en n j)) r_isBest r_ties r_bestOf ∧ pCS n (AA man n k fr to wt) (BB man n k fr to wt) t_known t_count t_above t_above_n t_below t_below_n t_codes t_codes_n ∧ pRS n (AA man n k fr to wt) (BB man n k fr to wt) r_arePlateaus r_plateaus r_beginsAbove r_beginsBelow r_shownOf
theorem sim_cap {g_manner : Int32} {g_nodes : Int32} {g_arcs : Int32} {g_from : Nat → Int32} {g_to : Nat → Int32} {g_weight : Nat → Int32} {n_x : Int32} {n_y : Int32} {n_nodes : Int32} {n_aloneB : Int64} {n_pairA : Nat → Nat → Int64} {n_pairB : Nat → Nat → Int64} {n_link : Nat → Nat → Int32} {n_near : Nat → Int32} {n_has : Nat → Int64} {h_nodes : Int32} {h_count : Int32} {h_groups : Nat → Int32} {h_names : Nat → Int32} {u_nodes : Int32} {u_count : Int32} {u_groups : Nat → Int32} {u_names : Nat → Int32} {k_groups : Nat → Int32} {k_opened : Nat → Int32} {k_sumsA : Nat → Int64} {k_sumsB : Nat → Int64} {k_bringA : Nat → Nat → Int64} {k_bringB : Nat → Nat → Int64} {e_code : Int64} {e_alike : Int32} {s_drawn : Int32} {s_labels : Nat → Int32} {s_order : Nat → Int32} {t_known : Int32} {t_count : Int32} {t_lastA : Int64} {t_lastB : Int64} {t_found : Int32} {t_foundA : Int64} {t_foundB : Int64} {t_foundCode : Int64} {t_above : Nat → Int64} {t_above_n : Nat} {t_below : Nat → Int64} {t_below_n : Nat} {t_codes : Nat → Int64} {t_codes_n : Nat} {r_manner : Int32} {r_above : Int32} {r_below : Int32} {r_nodes : Int32} {r_arcs : Int32} {r_left : Int32} {r_isBest : Int32} {r_arePlateaus : Int32} {r_all : Int64} {r_a : Int64} {r_b : Int64} {r_ties : Int32} {r_z : Int32} {r_plateaus : Int32} {r_ones : Nat → Int32} {r_others : Nat → Int32} {r_weights : Nat → Int32} {r_there : Nat → Int32} {r_hand : Nat → Int32} {r_between : Nat → Int32} {r_joins : Nat → Int32} {r_has : Nat → Int32} {r_sums : Nat → Int64} {r_sizes : Nat → Int64} {r_names : Nat → Int32} {r_trial : Nat → Int32} {r_walk : Nat → Int32} {r_found : Nat → Int32} {r_bestOf : Nat → Int32} {r_tried : Nat → Int32} {r_order : Nat → Int32} {r_label : Nat → Int32} {r_shown : Nat → Int32} {r_beginsAbove : Nat → Int64} {r_beginsBelow : Nat → Int64} {r_shownOf : Nat → Int64} (h : Sim g_manner g_nodes g_arcs g_from g_to g_weight n_x n_y n_nodes n_aloneB n_pairA n_pairB n_link n_near n_has h_nodes h_count h_groups h_names u_nodes u_count u_groups u_names k_groups k_opened k_sumsA k_sumsB k_bringA k_bringB e_code e_alike s_drawn s_labels s_order t_known t_count t_lastA t_lastB t_found t_foundA t_foundB t_foundCode t_above t_above_n t_below t_below_n t_codes t_codes_n r_manner r_above r_below r_nodes r_arcs r_left r_isBest r_arePlateaus r_all r_a r_b r_ties r_z r_plateaus r_ones r_others r_weights r_there r_hand r_between r_joins r_has r_sums r_sizes r_names r_trial r_walk r_found r_bestOf r_tried r_order r_label r_shown r_beginsAbove r_beginsBelow r_shownOf) : t_codes_n ≤ 65536 := by
  obtain ⟨man, n, k, fr, to, wt, x, y, p, hg, hb, hh, hw, hbs, hpc, hpr⟩ := h
  have := hpc.2.2.2.1
  omega
theorem sim_init : Sim 0 0 0 (fun _ => 0) (fun _ => 0) (fun _ => 0) 1 1 0 0 (fun _ _ => 0) (fun _ _ => 0) (fun _ _ => 0) (fun _ => 0) (fun _ => 0) 0 0 (fun _ => 0) (fun _ => 0) 0 0 (fun _ => 0) (fun _ => 0) (fun _ => 0) (fun _ => 0) (fun _ => 0) (fun _ => 0) (fun _ _ => 0) (fun _ _ => 0) 0 0 0 (fun _ => 0) (fun _ => 0) 0 0 0 0 0 0 0 0 (fun _ => 0) 8 (fun _ => 0) 8 (fun _ => 0) 8 0 1 1 0 0 0 0 0 0 0 0 0 0 0 (fun _ => 0) (fun _ => 0) (fun _ => 0) (fun _ => 0) (fun _ => 0) (fun _ => 0) (fun _ => 0) (fun _ => 0) (fun _ => 0) (fun _ => 0) (fun _ => 0) (fun _ => 0) (fun _ => 0) (fun _ => 0) (fun _ => 0) (fun _ => 0) (fun _ => 0) (fun _ => 0) (fun _ => 0) (fun _ => 0) (fun _ => 0) (fun _ => 0) := by
  refine ⟨0, 0, 0, fun _ => 0, fun _ => 0, fun _ => 0, 1, 1, fun i => i, ⟨Or.inl rfl, by omega, by omega, ⟨by omega, by omega⟩, ⟨by omega, by omega⟩, rfl, nI_lit0, nI_lit0, fun i hi => absurd hi (Nat.not_lt_zero _), rfl, rfl, rfl, rfl, rfl, nI_lit0, nI_lit0, nI_lit0, fun i hi => absurd hi (Nat.not_lt_zero _)⟩, ⟨nI_lit0, rfl, fun i j hi => absurd hi (Nat.not_lt_zero _), fun c d hc hd => rfl, fun c hc => ⟨0, by omega, nI_lit0, fun d hd => ⟨fun q => by simp at q, fun ⟨i, hi, _⟩ => absurd hi (Nat.not_lt_zero _)⟩⟩, fun c hc => rfl⟩, hnd_id nI_lit0 nI_lit0 (fun i hi => absurd hi (Nat.not_lt_zero _)), ⟨rfl, rfl⟩, Or.inl rfl, ⟨rfl, rfl, by omega, by omega, Or.inl rfl⟩, Or.inl rfl⟩
theorem two_n {β : Type} {n : Nat} {v w : Int32} {X Y : Option β} (hn : n ≤ 9) (h : ¬ (nd n v ∧ nd n w)) : ((m_Mo_isNode (nI n) v).bind (fun r2 : Int32 => (if r2 = 0 then X else ((m_Mo_isNode (nI n) w).bind (fun r10 : Int32 => (if r10 = 0 then X else Y)))))) = X := by
  by_cases hv : nd n v
  · obtain ⟨a, ha, rfl⟩ := hv
    rw [isNode_y hn ha, Option.bind_some, if_neg n1_0, isNode_n hn (fun q => h ⟨⟨a, ha, rfl⟩, q⟩), Option.bind_some, if_pos rfl]
  · rw [isNode_n hn hv, Option.bind_some, if_pos rfl]
theorem two_y {β : Type} {n a b : Nat} {X Y : Option β} (hn : n ≤ 9) (ha : a < n) (hb : b < n) : ((m_Mo_isNode (nI n) (nI a)).bind (fun r2 : Int32 => (if r2 = 0 then X else ((m_Mo_isNode (nI n) (nI b)).bind (fun r10 : Int32 => (if r10 = 0 then X else Y)))))) = Y := by
  rw [isNode_y hn ha, Option.bind_some, if_neg n1_0, isNode_y hn hb, Option.bind_some, if_neg n1_0]
theorem one_n {β : Type} {n : Nat} {v w : Int32} {X Y : Option β} (hn : n ≤ 9) (h : ¬ (nd n v ∧ nd n w)) : ((m_Gr_hasNodes (nI n) v w).bind (fun r6 : Int32 => (if r6 = 0 then X else Y))) = X := by
  rw [hasNodes_n hn h, Option.bind_some, if_pos rfl]
theorem one_y {β : Type} {n a b : Nat} {X Y : Option β} (hn : n ≤ 9) (ha : a < n) (hb : b < n) : ((m_Gr_hasNodes (nI n) (nI a) (nI b)).bind (fun r6 : Int32 => (if r6 = 0 then X else Y))) = Y := by
  rw [hasNodes_y hn ha hb, Option.bind_some, if_neg n1_0]
theorem ok_by {β : Type} {o o' : Option β} {P : β → Prop} (e : o = o') (h : ok o' P) : ok o P := by rw [e]; exact h
theorem bit01 {v : Int32} (h1 : ¬ v < 0) (h2 : v ≤ 1) : v = 0 ∨ v = 1 := by
  rcases pk_ix v (n := 2) (by omega) with z | z | ⟨j, hj, z⟩
  · exact absurd z h1
  · exact absurd (Int32.le_trans z h2) (by decide)
  · rcases (show j = 0 ∨ j = 1 by omega) with e | e
    · rw [e] at z; exact Or.inl z
    · rw [e] at z; exact Or.inr z
theorem iZ_self (v : Int32) : v = iZ v.toInt := (Int32.ofInt_toInt v).symm
def exN (f : Nat → Nat) (k a : Nat) : Nat → Nat := fun i => if i = k then a else f i
def exZ (f : Nat → Int) (k : Nat) (a : Int) : Nat → Int := fun i => if i = k then a else f i
theorem exN_e {f : Nat → Nat} {k a : Nat} : exN f k a k = a := if_pos rfl
theorem exN_n {f : Nat → Nat} {k a i : Nat} (h : i ≠ k) : exN f k a i = f i := if_neg h
theorem exZ_e {f : Nat → Int} {k : Nat} {a : Int} : exZ f k a k = a := if_pos rfl
theorem exZ_n {f : Nat → Int} {k : Nat} {a : Int} {i : Nat} (h : i ≠ k) : exZ f k a i = f i := if_neg h
theorem carc_ex {k a b : Nat} {w : Int} {fr to : Nat → Nat} {wt : Nat → Int} {f t g : Nat → Int32} (h : carc k fr to wt f t g) (ha : a < 9) (hb : b < 9) (hab : a ≠ b) (hw : -50 ≤ w ∧ w ≤ 50) : carc (k + 1) (exN fr k a) (exN to k b) (exZ wt k w) (upd f k (nI a)) (upd t k (nI b)) (upd g k (iZ w)) := by
  intro i hi
  by_cases e : i = k
  · subst e
    rw [pk_us, pk_us, pk_us, exN_e, exN_e, exZ_e]
    exact ⟨rfl, rfl, ha, hb, hab, hw, rfl⟩
  · rw [pk_un e, pk_un e, pk_un e, exN_n e, exN_n e, exZ_n e]
    exact h i (by omega)
theorem rarc_ex {k a b : Nat} {w : Int} {fr to : Nat → Nat} {wt : Nat → Int} {f t g th : Nat → Int32} (h : rarc k fr to wt f t g th) (ha : a < 9) (hb : b < 9) (hab : a ≠ b) (hw : -50 ≤ w ∧ w ≤ 50) (hw0 : w ≠ 0) : rarc (k + 1) (exN fr k a) (exN to k b) (exZ wt k w) (upd f k (nI a)) (upd t k (nI b)) (upd g k (iZ w)) (upd th k (vp_nar .boolean (1 : Int32))) := by
  intro i hi
  by_cases e : i = k
  · subst e
    rw [pk_us, pk_us, pk_us, pk_us, exN_e, exN_e, exZ_e, nar1]
    exact ⟨rfl, rfl, ha, hb, hab, hw, Or.inr ⟨rfl, rfl, hw0⟩⟩
  · rw [pk_un e, pk_un e, pk_un e, pk_un e, exN_n e, exN_n e, exZ_n e]
    exact h i (by omega)
theorem lft_ex {k : Nat} {w : Int} {wt : Nat → Int} (hw : w ≠ 0) : lft (exZ wt k w) (k + 1) = lft wt k + 1 := by
  rw [lft_s, exZ_e, if_neg hw, lft_ag (w := wt) (fun i hi => exZ_n (by omega))]
theorem carc_zr {k a : Nat} {fr to : Nat → Nat} {wt : Nat → Int} {f t g : Nat → Int32} (h : carc k fr to wt f t g) : carc k fr to (zr wt a) f t (upd g a 0) := by
  intro i hi
  obtain ⟨q1, q2, q3, q4, q5, q6, q7⟩ := h i hi
  by_cases e : i = a
  · subst e
    rw [pk_us, zr_eq]
    exact ⟨q1, q2, q3, q4, q5, ⟨by omega, by omega⟩, rfl⟩
  · rw [pk_un e, zr_ne e]
    exact ⟨q1, q2, q3, q4, q5, q6, q7⟩
theorem rarc_zr {k a : Nat} {fr to : Nat → Nat} {wt : Nat → Int} {f t g th : Nat → Int32} (h : rarc k fr to wt f t g th) : rarc k fr to (zr wt a) f t g (upd th a (vp_nar .boolean (0 : Int32))) := by
  intro i hi
  obtain ⟨q1, q2, q3, q4, q5, q6, q7⟩ := h i hi
  by_cases e : i = a
  · subst e
    rw [pk_us, zr_eq, nar0]
    exact ⟨q1, q2, q3, q4, q5, ⟨by omega, by omega⟩, Or.inl ⟨rfl, rfl⟩⟩
  · rw [pk_un e, zr_ne e]
    exact ⟨q1, q2, q3, q4, q5, q6, q7⟩
theorem pick {n K K' : Nat} {V : Nat → Int} (h : isLast n K) (g : isLast n K') : bst V K = bst V K' := by rw [isLast_uniq h g]
