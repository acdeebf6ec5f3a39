theorem st_move {g_manner : Int32} {g_nodes : Int32} {g_arcs : Int32} {g_from : Nat → Int32} {g_to : Nat → Int32} {g_weight : Nat → Int32} {n_x : Int32} {n_y : Int32} {n_nodes : Int32} {n_aloneB : Int64} {n_pairA : Nat → Nat → Int64} {n_pairB : Nat → Nat → Int64} {n_link : Nat → Nat → Int32} {n_near : Nat → Int32} {n_has : Nat → Int64} {h_nodes : Int32} {h_count : Int32} {h_groups : Nat → Int32} {h_names : Nat → Int32} {u_nodes : Int32} {u_count : Int32} {u_groups : Nat → Int32} {u_names : Nat → Int32} {k_groups : Nat → Int32} {k_opened : Nat → Int32} {k_sumsA : Nat → Int64} {k_sumsB : Nat → Int64} {k_bringA : Nat → Nat → Int64} {k_bringB : Nat → Nat → Int64} {e_code : Int64} {e_alike : Int32} {s_drawn : Int32} {s_labels : Nat → Int32} {s_order : Nat → Int32} {t_known : Int32} {t_count : Int32} {t_lastA : Int64} {t_lastB : Int64} {t_found : Int32} {t_foundA : Int64} {t_foundB : Int64} {t_foundCode : Int64} {t_above : Nat → Int64} {t_above_n : Nat} {t_below : Nat → Int64} {t_below_n : Nat} {t_codes : Nat → Int64} {t_codes_n : Nat} {r_manner : Int32} {r_above : Int32} {r_below : Int32} {r_nodes : Int32} {r_arcs : Int32} {r_left : Int32} {r_isBest : Int32} {r_arePlateaus : Int32} {r_all : Int64} {r_a : Int64} {r_b : Int64} {r_ties : Int32} {r_z : Int32} {r_plateaus : Int32} {r_ones : Nat → Int32} {r_others : Nat → Int32} {r_weights : Nat → Int32} {r_there : Nat → Int32} {r_hand : Nat → Int32} {r_between : Nat → Int32} {r_joins : Nat → Int32} {r_has : Nat → Int32} {r_sums : Nat → Int64} {r_sizes : Nat → Int64} {r_names : Nat → Int32} {r_trial : Nat → Int32} {r_walk : Nat → Int32} {r_found : Nat → Int32} {r_bestOf : Nat → Int32} {r_tried : Nat → Int32} {r_order : Nat → Int32} {r_label : Nat → Int32} {r_shown : Nat → Int32} {r_beginsAbove : Nat → Int64} {r_beginsBelow : Nat → Int64} {r_shownOf : Nat → Int64} (v1 : Int32) (v2 : Int32) (h : Sim g_manner g_nodes g_arcs g_from g_to g_weight n_x n_y n_nodes n_aloneB n_pairA n_pairB n_link n_near n_has h_nodes h_count h_groups h_names u_nodes u_count u_groups u_names k_groups k_opened k_sumsA k_sumsB k_bringA k_bringB e_code e_alike s_drawn s_labels s_order t_known t_count t_lastA t_lastB t_found t_foundA t_foundB t_foundCode t_above t_above_n t_below t_below_n t_codes t_codes_n r_manner r_above r_below r_nodes r_arcs r_left r_isBest r_arePlateaus r_all r_a r_b r_ties r_z r_plateaus r_ones r_others r_weights r_there r_hand r_between r_joins r_has r_sums r_sizes r_names r_trial r_walk r_found r_bestOf r_tried r_order r_label r_shown r_beginsAbove r_beginsBelow r_shownOf) : ∃ (rr : Int64) (u_nodes' : Int32) (u_count' : Int32) (u_groups' : Nat → Int32) (u_names' : Nat → Int32) (r_all' : Int64) (r_a' : Int64) (r_b' : Int64) (r_between' : Nat → Int32) (r_joins' : Nat → Int32) (r_has' : Nat → Int32) (r_sums' : Nat → Int64) (r_sizes' : Nat → Int64) (r_names' : Nat → Int32) (r_trial' : Nat → Int32), m_MG_move g_nodes n_x n_y n_nodes n_aloneB n_pairA n_pairB h_nodes h_groups u_nodes u_count u_groups u_names v1 v2 = some (rr, u_nodes', u_count', u_groups', u_names') ∧ m_Mo_move r_manner r_above r_below r_nodes r_arcs r_a r_b r_ones r_others r_weights r_there r_hand r_between r_joins r_has r_sums r_sizes r_names r_trial v1 v2 = some (rr, r_all', r_a', r_b', r_between', r_joins', r_has', r_sums', r_sizes', r_names', r_trial') ∧ Sim g_manner g_nodes g_arcs g_from g_to g_weight n_x n_y n_nodes n_aloneB n_pairA n_pairB n_link n_near n_has h_nodes h_count h_groups h_names u_nodes' u_count' u_groups' u_names' k_groups k_opened k_sumsA k_sumsB k_bringA k_bringB e_code e_alike s_drawn s_labels s_order t_known t_count t_lastA t_lastB t_found t_foundA t_foundB t_foundCode t_above t_above_n t_below t_below_n t_codes t_codes_n r_manner r_above r_below r_nodes r_arcs r_left r_isBest r_arePlateaus r_all' r_a' r_b' r_ties r_z r_plateaus r_ones r_others r_weights r_there r_hand r_between' r_joins' r_has' r_sums' r_sizes' r_names' r_trial' r_walk r_found r_bestOf r_tried r_order r_label r_shown r_beginsAbove r_beginsBelow r_shownOf := by
  have h0 := h
  obtain ⟨man, n, k, fr, to, wt, x, y, p, hg, hb, hh, hw, hbs, hpc, hpr⟩ := h
  have hgg := hg
  obtain ⟨hm, hn, hk, hx, hy, e1, e2, e3, hca, e4, e5, e6, e7, e8, e9, e10, e11, hra⟩ := hg
  have hwb : wbd wt k := fun i hi => (hra i hi).2.2.2.2.2.1
  have hxI : inI x := ⟨by omega, by omega⟩
  have hyI : inI y := ⟨by omega, by omega⟩
  subst e1
  subst e2 e3 e4 e5
  subst e6
  subst e7 e8 e9 e10 e11
  have hrg := hh.1
  have hf1 := hh.2.1
  have hf2 := hh.2.2.1
  have hgr := hh.2.2.2
  subst hf1 hf2
  have hpc9 : ∀ i, i < n → p i < 9 ∧ h_groups i = nI (p i) := fun i hi => ⟨hnd_lt hn hrg hi, (hgr i hi).1⟩
  have hpr9 : ∀ i, i < n → p i < 9 ∧ r_hand i = nI (p i) := fun i hi => ⟨hnd_lt hn hrg hi, (hgr i hi).2⟩
  by_cases q : nd n v1 ∧ nd n v2
  rotate_left
  · have hR : ok (m_Mo_move r_manner (iZ x) (iZ y) (nI n) (nI k) r_a r_b r_ones r_others r_weights r_there r_hand r_between r_joins r_has r_sums r_sizes r_names r_trial v1 v2) (fun o => o.1 = 0) := by
      unfold m_Mo_move
      exact ok_bind (h_weigh hk hra) (fun r1 h1 => ok_by (two_n hn q) (ok_some rfl))
    obtain ⟨⟨r0, r_all', r_a', r_b', r_between', r_joins', r_has', r_sums', r_sizes', r_names', r_trial'⟩, c2, g1⟩ := hR
    dsimp only at g1
    subst g1
    exact ⟨0, u_nodes, u_count, u_groups, u_names, r_all', r_a', r_b', r_between', r_joins', r_has', r_sums', r_sizes', r_names', r_trial', by unfold m_MG_move; exact one_n hn q, c2, r_manner, n, k, fr, to, wt, x, y, p, hgg, hb, hh, hw, hbs, hpc, hpr⟩
  obtain ⟨⟨a, ha, rfl⟩, b, hbb, rfl⟩ := q
  have hC : ok (m_MG_move (nI n) (iZ x) (iZ y) n_nodes n_aloneB n_pairA n_pairB (nI n) h_groups u_nodes u_count u_groups u_names (nI a) (nI b)) (fun o => o.1 = jZ (Val r_manner n k fr to wt x y (cn (shf (lab p) a b))) - jZ (Val r_manner n k fr to wt x y p)) := by
    unfold m_MG_move
    rw [one_y hn ha hbb]
    exact ok_bind (c_moveGain hn hxI hyI hb hpc9 ha hbb) (fun r h => ok_some h)
  have hR : ok (m_Mo_move r_manner (iZ x) (iZ y) (nI n) (nI k) r_a r_b r_ones r_others r_weights r_there r_hand r_between r_joins r_has r_sums r_sizes r_names r_trial (nI a) (nI b)) (fun o => o.1 = jZ (Val r_manner n k fr to wt x y (cn (shf (lab p) a b))) - jZ (Val r_manner n k fr to wt x y p)) := by
    unfold m_Mo_move
    exact ok_bind (h_weigh hk hra) (fun r1 h1 => ok_by (two_y hn ha hbb) (ok_bind (r_moveGain hn hk hwb h1 hxI hyI hpr9 ha hbb) (fun r h => ok_some h)))
  obtain ⟨⟨rr, u_nodes', u_count', u_groups', u_names'⟩, c1, d1⟩ := hC
  obtain ⟨⟨r0, r_all', r_a', r_b', r_between', r_joins', r_has', r_sums', r_sizes', r_names', r_trial'⟩, c2, g1⟩ := hR
  dsimp only at d1 g1
  have er : rr = r0 := d1.trans g1.symm
  subst er
  exact ⟨_, _, _, _, _, _, _, _, _, _, _, _, _, _, _, c1, c2, r_manner, n, k, fr, to, wt, x, y, p, hgg, hb, hh, hw, hbs, hpc, hpr⟩
theorem st_merge {g_manner : Int32} {g_nodes : Int32} {g_arcs : Int32} {g_from : Nat → Int32} {g_to : Nat → Int32} {g_weight : Nat → Int32} {n_x : Int32} {n_y : Int32} {n_nodes : Int32} {n_aloneB : Int64} {n_pairA : Nat → Nat → Int64} {n_pairB : Nat → Nat → Int64} {n_link : Nat → Nat → Int32} {n_near : Nat → Int32} {n_has : Nat → Int64} {h_nodes : Int32} {h_count : Int32} {h_groups : Nat → Int32} {h_names : Nat → Int32} {u_nodes : Int32} {u_count : Int32} {u_groups : Nat → Int32} {u_names : Nat → Int32} {k_groups : Nat → Int32} {k_opened : Nat → Int32} {k_sumsA : Nat → Int64} {k_sumsB : Nat → Int64} {k_bringA : Nat → Nat → Int64} {k_bringB : Nat → Nat → Int64} {e_code : Int64} {e_alike : Int32} {s_drawn : Int32} {s_labels : Nat → Int32} {s_order : Nat → Int32} {t_known : Int32} {t_count : Int32} {t_lastA : Int64} {t_lastB : Int64} {t_found : Int32} {t_foundA : Int64} {t_foundB : Int64} {t_foundCode : Int64} {t_above : Nat → Int64} {t_above_n : Nat} {t_below : Nat → Int64} {t_below_n : Nat} {t_codes : Nat → Int64} {t_codes_n : Nat} {r_manner : Int32} {r_above : Int32} {r_below : Int32} {r_nodes : Int32} {r_arcs : Int32} {r_left : Int32} {r_isBest : Int32} {r_arePlateaus : Int32} {r_all : Int64} {r_a : Int64} {r_b : Int64} {r_ties : Int32} {r_z : Int32} {r_plateaus : Int32} {r_ones : Nat → Int32} {r_others : Nat → Int32} {r_weights : Nat → Int32} {r_there : Nat → Int32} {r_hand : Nat → Int32} {r_between : Nat → Int32} {r_joins : Nat → Int32} {r_has : Nat → Int32} {r_sums : Nat → Int64} {r_sizes : Nat → Int64} {r_names : Nat → Int32} {r_trial : Nat → Int32} {r_walk : Nat → Int32} {r_found : Nat → Int32} {r_bestOf : Nat → Int32} {r_tried : Nat → Int32} {r_order : Nat → Int32} {r_label : Nat → Int32} {r_shown : Nat → Int32} {r_beginsAbove : Nat → Int64} {r_beginsBelow : Nat → Int64} {r_shownOf : Nat → Int64} (v1 : Int32) (v2 : Int32) (h : Sim g_manner g_nodes g_arcs g_from g_to g_weight n_x n_y n_nodes n_aloneB n_pairA n_pairB n_link n_near n_has h_nodes h_count h_groups h_names u_nodes u_count u_groups u_names k_groups k_opened k_sumsA k_sumsB k_bringA k_bringB e_code e_alike s_drawn s_labels s_order t_known t_count t_lastA t_lastB t_found t_foundA t_foundB t_foundCode t_above t_above_n t_below t_below_n t_codes t_codes_n r_manner r_above r_below r_nodes r_arcs r_left r_isBest r_arePlateaus r_all r_a r_b r_ties r_z r_plateaus r_ones r_others r_weights r_there r_hand r_between r_joins r_has r_sums r_sizes r_names r_trial r_walk r_found r_bestOf r_tried r_order r_label r_shown r_beginsAbove r_beginsBelow r_shownOf) : ∃ (rr : Int64) (r_all' : Int64) (r_a' : Int64) (r_b' : Int64) (r_between' : Nat → Int32) (r_joins' : Nat → Int32) (r_has' : Nat → Int32) (r_sums' : Nat → Int64) (r_sizes' : Nat → Int64) (r_names' : Nat → Int32) (r_trial' : Nat → Int32), m_MG_merge g_nodes n_x n_y n_nodes n_pairA n_pairB h_groups v1 v2 = some rr ∧ m_Mo_merge r_manner r_above r_below r_nodes r_arcs r_a r_b r_ones r_others r_weights r_there r_hand r_between r_joins r_has r_sums r_sizes r_names r_trial v1 v2 = some (rr, r_all', r_a', r_b', r_between', r_joins', r_has', r_sums', r_sizes', r_names', r_trial') ∧ Sim g_manner g_nodes g_arcs g_from g_to g_weight n_x n_y n_nodes n_aloneB n_pairA n_pairB n_link n_near n_has h_nodes h_count h_groups h_names u_nodes u_count u_groups u_names k_groups k_opened k_sumsA k_sumsB k_bringA k_bringB e_code e_alike s_drawn s_labels s_order t_known t_count t_lastA t_lastB t_found t_foundA t_foundB t_foundCode t_above t_above_n t_below t_below_n t_codes t_codes_n r_manner r_above r_below r_nodes r_arcs r_left r_isBest r_arePlateaus r_all' r_a' r_b' r_ties r_z r_plateaus r_ones r_others r_weights r_there r_hand r_between' r_joins' r_has' r_sums' r_sizes' r_names' r_trial' r_walk r_found r_bestOf r_tried r_order r_label r_shown r_beginsAbove r_beginsBelow r_shownOf := by
  have h0 := h
  obtain ⟨man, n, k, fr, to, wt, x, y, p, hg, hb, hh, hw, hbs, hpc, hpr⟩ := h
  have hgg := hg
  obtain ⟨hm, hn, hk, hx, hy, e1, e2, e3, hca, e4, e5, e6, e7, e8, e9, e10, e11, hra⟩ := hg
  have hwb : wbd wt k := fun i hi => (hra i hi).2.2.2.2.2.1
  have hxI : inI x := ⟨by omega, by omega⟩
  have hyI : inI y := ⟨by omega, by omega⟩
  subst e1
  subst e2 e3 e4 e5
  subst e6
  subst e7 e8 e9 e10 e11
  have hrg := hh.1
  have hf1 := hh.2.1
  have hf2 := hh.2.2.1
  have hgr := hh.2.2.2
  subst hf1 hf2
  have hpc9 : ∀ i, i < n → p i < 9 ∧ h_groups i = nI (p i) := fun i hi => ⟨hnd_lt hn hrg hi, (hgr i hi).1⟩
  have hpr9 : ∀ i, i < n → p i < 9 ∧ r_hand i = nI (p i) := fun i hi => ⟨hnd_lt hn hrg hi, (hgr i hi).2⟩
  by_cases q : nd n v1 ∧ nd n v2
  rotate_left
  · have hR : ok (m_Mo_merge r_manner (iZ x) (iZ y) (nI n) (nI k) r_a r_b r_ones r_others r_weights r_there r_hand r_between r_joins r_has r_sums r_sizes r_names r_trial v1 v2) (fun o => o.1 = 0) := by
      unfold m_Mo_merge
      exact ok_bind (h_weigh hk hra) (fun r1 h1 => ok_by (two_n hn q) (ok_some rfl))
    obtain ⟨⟨r0, r_all', r_a', r_b', r_between', r_joins', r_has', r_sums', r_sizes', r_names', r_trial'⟩, c2, g1⟩ := hR
    dsimp only at g1
    subst g1
    exact ⟨0, r_all', r_a', r_b', r_between', r_joins', r_has', r_sums', r_sizes', r_names', r_trial', by unfold m_MG_merge; exact one_n hn q, c2, r_manner, n, k, fr, to, wt, x, y, p, hgg, hb, hh, hw, hbs, hpc, hpr⟩
  obtain ⟨⟨a, ha, rfl⟩, b, hbb, rfl⟩ := q
  have hC : ok (m_MG_merge (nI n) (iZ x) (iZ y) n_nodes n_pairA n_pairB h_groups (nI a) (nI b)) (fun o => o = jZ (Val r_manner n k fr to wt x y (mrg p (p a) (p b)) - Val r_manner n k fr to wt x y p)) := by
    unfold m_MG_merge
    rw [one_y hn ha hbb]
    exact ok_bind (c_mergeGain hn hxI hyI hb hpc9 ha hbb) (fun r h => ok_some h)
  have hR : ok (m_Mo_merge r_manner (iZ x) (iZ y) (nI n) (nI k) r_a r_b r_ones r_others r_weights r_there r_hand r_between r_joins r_has r_sums r_sizes r_names r_trial (nI a) (nI b)) (fun o => o.1 = jZ (Val r_manner n k fr to wt x y (mrg p (p a) (p b)) - Val r_manner n k fr to wt x y p)) := by
    unfold m_Mo_merge
    exact ok_bind (h_weigh hk hra) (fun r1 h1 => ok_by (two_y hn ha hbb) (ok_bind (r_mergeGain hn hk hwb h1 hxI hyI hpr9 ha hbb) (fun r h => ok_some h)))
  obtain ⟨rr, c1, d1⟩ := hC
  obtain ⟨⟨r0, r_all', r_a', r_b', r_between', r_joins', r_has', r_sums', r_sizes', r_names', r_trial'⟩, c2, g1⟩ := hR
  dsimp only at d1 g1
  have er : rr = r0 := d1.trans g1.symm
  subst er
  exact ⟨_, _, _, _, _, _, _, _, _, _, _, c1, c2, r_manner, n, k, fr, to, wt, x, y, p, hgg, hb, hh, hw, hbs, hpc, hpr⟩
theorem st_rests {g_manner : Int32} {g_nodes : Int32} {g_arcs : Int32} {g_from : Nat → Int32} {g_to : Nat → Int32} {g_weight : Nat → Int32} {n_x : Int32} {n_y : Int32} {n_nodes : Int32} {n_aloneB : Int64} {n_pairA : Nat → Nat → Int64} {n_pairB : Nat → Nat → Int64} {n_link : Nat → Nat → Int32} {n_near : Nat → Int32} {n_has : Nat → Int64} {h_nodes : Int32} {h_count : Int32} {h_groups : Nat → Int32} {h_names : Nat → Int32} {u_nodes : Int32} {u_count : Int32} {u_groups : Nat → Int32} {u_names : Nat → Int32} {k_groups : Nat → Int32} {k_opened : Nat → Int32} {k_sumsA : Nat → Int64} {k_sumsB : Nat → Int64} {k_bringA : Nat → Nat → Int64} {k_bringB : Nat → Nat → Int64} {e_code : Int64} {e_alike : Int32} {s_drawn : Int32} {s_labels : Nat → Int32} {s_order : Nat → Int32} {t_known : Int32} {t_count : Int32} {t_lastA : Int64} {t_lastB : Int64} {t_found : Int32} {t_foundA : Int64} {t_foundB : Int64} {t_foundCode : Int64} {t_above : Nat → Int64} {t_above_n : Nat} {t_below : Nat → Int64} {t_below_n : Nat} {t_codes : Nat → Int64} {t_codes_n : Nat} {r_manner : Int32} {r_above : Int32} {r_below : Int32} {r_nodes : Int32} {r_arcs : Int32} {r_left : Int32} {r_isBest : Int32} {r_arePlateaus : Int32} {r_all : Int64} {r_a : Int64} {r_b : Int64} {r_ties : Int32} {r_z : Int32} {r_plateaus : Int32} {r_ones : Nat → Int32} {r_others : Nat → Int32} {r_weights : Nat → Int32} {r_there : Nat → Int32} {r_hand : Nat → Int32} {r_between : Nat → Int32} {r_joins : Nat → Int32} {r_has : Nat → Int32} {r_sums : Nat → Int64} {r_sizes : Nat → Int64} {r_names : Nat → Int32} {r_trial : Nat → Int32} {r_walk : Nat → Int32} {r_found : Nat → Int32} {r_bestOf : Nat → Int32} {r_tried : Nat → Int32} {r_order : Nat → Int32} {r_label : Nat → Int32} {r_shown : Nat → Int32} {r_beginsAbove : Nat → Int64} {r_beginsBelow : Nat → Int64} {r_shownOf : Nat → Int64}  (h : Sim g_manner g_nodes g_arcs g_from g_to g_weight n_x n_y n_nodes n_aloneB n_pairA n_pairB n_link n_near n_has h_nodes h_count h_groups h_names u_nodes u_count u_groups u_names k_groups k_opened k_sumsA k_sumsB k_bringA k_bringB e_code e_alike s_drawn s_labels s_order t_known t_count t_lastA t_lastB t_found t_foundA t_foundB t_foundCode t_above t_above_n t_below t_below_n t_codes t_codes_n r_manner r_above r_below r_nodes r_arcs r_left r_isBest r_arePlateaus r_all r_a r_b r_ties r_z r_plateaus r_ones r_others r_weights r_there r_hand r_between r_joins r_has r_sums r_sizes r_names r_trial r_walk r_found r_bestOf r_tried r_order r_label r_shown r_beginsAbove r_beginsBelow r_shownOf) : ∃ (rr : Int32) (u_nodes' : Int32) (u_count' : Int32) (u_groups' : Nat → Int32) (u_names' : Nat → Int32) (r_all' : Int64) (r_a' : Int64) (r_b' : Int64) (r_between' : Nat → Int32) (r_joins' : Nat → Int32) (r_has' : Nat → Int32) (r_sums' : Nat → Int64) (r_sizes' : Nat → Int64) (r_names' : Nat → Int32) (r_trial' : Nat → Int32), m_MG_rests g_nodes n_x n_y n_nodes n_aloneB n_pairA n_pairB h_nodes h_groups u_nodes u_count u_groups u_names = some (rr, u_nodes', u_count', u_groups', u_names') ∧ m_Mo_rests r_manner r_above r_below r_nodes r_arcs r_a r_b r_ones r_others r_weights r_there r_hand r_between r_joins r_has r_sums r_sizes r_names r_trial = some (rr, r_all', r_a', r_b', r_between', r_joins', r_has', r_sums', r_sizes', r_names', r_trial') ∧ Sim g_manner g_nodes g_arcs g_from g_to g_weight n_x n_y n_nodes n_aloneB n_pairA n_pairB n_link n_near n_has h_nodes h_count h_groups h_names u_nodes' u_count' u_groups' u_names' k_groups k_opened k_sumsA k_sumsB k_bringA k_bringB e_code e_alike s_drawn s_labels s_order t_known t_count t_lastA t_lastB t_found t_foundA t_foundB t_foundCode t_above t_above_n t_below t_below_n t_codes t_codes_n r_manner r_above r_below r_nodes r_arcs r_left r_isBest r_arePlateaus r_all' r_a' r_b' r_ties r_z r_plateaus r_ones r_others r_weights r_there r_hand r_between' r_joins' r_has' r_sums' r_sizes' r_names' r_trial' r_walk r_found r_bestOf r_tried r_order r_label r_shown r_beginsAbove r_beginsBelow r_shownOf := by
  have h0 := h
  obtain ⟨man, n, k, fr, to, wt, x, y, p, hg, hb, hh, hw, hbs, hpc, hpr⟩ := h
  have hgg := hg
  obtain ⟨hm, hn, hk, hx, hy, e1, e2, e3, hca, e4, e5, e6, e7, e8, e9, e10, e11, hra⟩ := hg
  have hwb : wbd wt k := fun i hi => (hra i hi).2.2.2.2.2.1
  have hxI : inI x := ⟨by omega, by omega⟩
  have hyI : inI y := ⟨by omega, by omega⟩
  subst e1
  subst e2 e3 e4 e5
  subst e6
  subst e7 e8 e9 e10 e11
  have hrg := hh.1
  have hf1 := hh.2.1
  have hf2 := hh.2.2.1
  have hgr := hh.2.2.2
  subst hf1 hf2
  have hpc9 : ∀ i, i < n → p i < 9 ∧ h_groups i = nI (p i) := fun i hi => ⟨hnd_lt hn hrg hi, (hgr i hi).1⟩
  have hpr9 : ∀ i, i < n → p i < 9 ∧ r_hand i = nI (p i) := fun i hi => ⟨hnd_lt hn hrg hi, (hgr i hi).2⟩
  have hC := c_rests (n := n) (x := iZ x) (y := iZ y) (nn := n_nodes) (alo := n_aloneB) (gA := n_pairA) (gB := n_pairB) (g := h_groups) (ug := u_groups) (um := u_names) (un := u_nodes) (uc := u_count) (g1 := fun a b => jZ (Val r_manner n k fr to wt x y (cn (shf (lab p) a b))) - jZ (Val r_manner n k fr to wt x y p)) (g2 := fun a b => jZ (Val r_manner n k fr to wt x y (mrg p (p a) (p b)) - Val r_manner n k fr to wt x y p)) hn (fun a b ug um ha hbb => c_moveGain hn hxI hyI hb hpc9 ha hbb) (fun a b ha hbb => c_mergeGain hn hxI hyI hb hpc9 ha hbb)
  have hR := r_rests (n := n) (man := r_manner) (x := iZ x) (y := iZ y) (k := nI k) (a0 := r_a) (b0 := r_b) (ones := r_ones) (others := r_others) (weights := r_weights) (there := r_there) (hd := r_hand) (bt := r_between) (jo := r_joins) (has := r_has) (nm := r_names) (tr := r_trial) (sums := r_sums) (sizes := r_sizes) (g1 := fun a b => jZ (Val r_manner n k fr to wt x y (cn (shf (lab p) a b))) - jZ (Val r_manner n k fr to wt x y p)) (g2 := fun a b => jZ (Val r_manner n k fr to wt x y (mrg p (p a) (p b)) - Val r_manner n k fr to wt x y p)) hn (h_weigh hk hra) (fun r a b sums sizes nm tr hQ ha hbb => r_moveGain hn hk hwb hQ hxI hyI hpr9 ha hbb) (fun r a b sums sizes nm tr hQ ha hbb => r_mergeGain hn hk hwb hQ hxI hyI hpr9 ha hbb)
  obtain ⟨⟨rr, u_nodes', u_count', u_groups', u_names'⟩, c1, d1⟩ := hC
  obtain ⟨⟨r0, r_all', r_a', r_b', r_between', r_joins', r_has', r_sums', r_sizes', r_names', r_trial'⟩, c2, g1⟩ := hR
  have er : rr = r0 := restP_uniq d1 g1
  subst er
  exact ⟨_, _, _, _, _, _, _, _, _, _, _, _, _, _, _, c1, c2, r_manner, n, k, fr, to, wt, x, y, p, hgg, hb, hh, hw, hbs, hpc, hpr⟩
theorem st_joined {g_manner : Int32} {g_nodes : Int32} {g_arcs : Int32} {g_from : Nat → Int32} {g_to : Nat → Int32} {g_weight : Nat → Int32} {n_x : Int32} {n_y : Int32} {n_nodes : Int32} {n_aloneB : Int64} {n_pairA : Nat → Nat → Int64} {n_pairB : Nat → Nat → Int64} {n_link : Nat → Nat → Int32} {n_near : Nat → Int32} {n_has : Nat → Int64} {h_nodes : Int32} {h_count : Int32} {h_groups : Nat → Int32} {h_names : Nat → Int32} {u_nodes : Int32} {u_count : Int32} {u_groups : Nat → Int32} {u_names : Nat → Int32} {k_groups : Nat → Int32} {k_opened : Nat → Int32} {k_sumsA : Nat → Int64} {k_sumsB : Nat → Int64} {k_bringA : Nat → Nat → Int64} {k_bringB : Nat → Nat → Int64} {e_code : Int64} {e_alike : Int32} {s_drawn : Int32} {s_labels : Nat → Int32} {s_order : Nat → Int32} {t_known : Int32} {t_count : Int32} {t_lastA : Int64} {t_lastB : Int64} {t_found : Int32} {t_foundA : Int64} {t_foundB : Int64} {t_foundCode : Int64} {t_above : Nat → Int64} {t_above_n : Nat} {t_below : Nat → Int64} {t_below_n : Nat} {t_codes : Nat → Int64} {t_codes_n : Nat} {r_manner : Int32} {r_above : Int32} {r_below : Int32} {r_nodes : Int32} {r_arcs : Int32} {r_left : Int32} {r_isBest : Int32} {r_arePlateaus : Int32} {r_all : Int64} {r_a : Int64} {r_b : Int64} {r_ties : Int32} {r_z : Int32} {r_plateaus : Int32} {r_ones : Nat → Int32} {r_others : Nat → Int32} {r_weights : Nat → Int32} {r_there : Nat → Int32} {r_hand : Nat → Int32} {r_between : Nat → Int32} {r_joins : Nat → Int32} {r_has : Nat → Int32} {r_sums : Nat → Int64} {r_sizes : Nat → Int64} {r_names : Nat → Int32} {r_trial : Nat → Int32} {r_walk : Nat → Int32} {r_found : Nat → Int32} {r_bestOf : Nat → Int32} {r_tried : Nat → Int32} {r_order : Nat → Int32} {r_label : Nat → Int32} {r_shown : Nat → Int32} {r_beginsAbove : Nat → Int64} {r_beginsBelow : Nat → Int64} {r_shownOf : Nat → Int64}  (h : Sim g_manner g_nodes g_arcs g_from g_to g_weight n_x n_y n_nodes n_aloneB n_pairA n_pairB n_link n_near n_has h_nodes h_count h_groups h_names u_nodes u_count u_groups u_names k_groups k_opened k_sumsA k_sumsB k_bringA k_bringB e_code e_alike s_drawn s_labels s_order t_known t_count t_lastA t_lastB t_found t_foundA t_foundB t_foundCode t_above t_above_n t_below t_below_n t_codes t_codes_n r_manner r_above r_below r_nodes r_arcs r_left r_isBest r_arePlateaus r_all r_a r_b r_ties r_z r_plateaus r_ones r_others r_weights r_there r_hand r_between r_joins r_has r_sums r_sizes r_names r_trial r_walk r_found r_bestOf r_tried r_order r_label r_shown r_beginsAbove r_beginsBelow r_shownOf) : ∃ (rr : Int32) (r_all' : Int64) (r_between' : Nat → Int32) (r_joins' : Nat → Int32) (r_has' : Nat → Int32), m_MG_joined n_nodes n_near h_nodes h_count h_groups = some rr ∧ m_Mo_joined r_manner r_nodes r_arcs r_ones r_others r_weights r_there r_hand r_between r_joins r_has = some (rr, r_all', r_between', r_joins', r_has') ∧ Sim g_manner g_nodes g_arcs g_from g_to g_weight n_x n_y n_nodes n_aloneB n_pairA n_pairB n_link n_near n_has h_nodes h_count h_groups h_names u_nodes u_count u_groups u_names k_groups k_opened k_sumsA k_sumsB k_bringA k_bringB e_code e_alike s_drawn s_labels s_order t_known t_count t_lastA t_lastB t_found t_foundA t_foundB t_foundCode t_above t_above_n t_below t_below_n t_codes t_codes_n r_manner r_above r_below r_nodes r_arcs r_left r_isBest r_arePlateaus r_all' r_a r_b r_ties r_z r_plateaus r_ones r_others r_weights r_there r_hand r_between' r_joins' r_has' r_sums r_sizes r_names r_trial r_walk r_found r_bestOf r_tried r_order r_label r_shown r_beginsAbove r_beginsBelow r_shownOf := by
  have h0 := h
  obtain ⟨man, n, k, fr, to, wt, x, y, p, hg, hb, hh, hw, hbs, hpc, hpr⟩ := h
  have hgg := hg
  obtain ⟨hm, hn, hk, hx, hy, e1, e2, e3, hca, e4, e5, e6, e7, e8, e9, e10, e11, hra⟩ := hg
  have hwb : wbd wt k := fun i hi => (hra i hi).2.2.2.2.2.1
  have hxI : inI x := ⟨by omega, by omega⟩
  have hyI : inI y := ⟨by omega, by omega⟩
  subst e1
  subst e2 e3 e4 e5
  subst e6
  subst e7 e8 e9 e10 e11
  have hbn := hb.1
  subst hbn
  have hrg := hh.1
  have hf1 := hh.2.1
  have hf2 := hh.2.2.1
  have hgr := hh.2.2.2
  subst hf1 hf2
  have hpc9 : ∀ i, i < n → p i < 9 ∧ h_groups i = nI (p i) := fun i hi => ⟨hnd_lt hn hrg hi, (hgr i hi).1⟩
  have hpr9 : ∀ i, i < n → p i < 9 ∧ r_hand i = nI (p i) := fun i hi => ⟨hnd_lt hn hrg hi, (hgr i hi).2⟩
  have hC := h_cjoined (n := n) (c := opn p n) (near := n_near) (gr := h_groups) (R := fun a b => nr r_manner fr to wt a b k) (p := p) hn (fun a b z => nr_sym z) (fun i hi => ⟨lt_opn p hi, (hpc9 i hi).2⟩) (opn_le hrg (Nat.le_refl n)) (fun g hg => rgs_all hrg n (Nat.le_refl n) g hg) hb.2.2.2.2.1
  have hR := h_rjoined (n := n) (k := k) (man := r_manner) (bt := r_between) (jo := r_joins) (has := r_has) (hand := r_hand) (p := p) hn hk hra (fun i hi => ⟨by have := (hpr9 i hi).1; omega, (hpr9 i hi).2⟩)
  obtain ⟨rr, c1, d1⟩ := hC
  obtain ⟨⟨r0, r_all', r_between', r_joins', r_has'⟩, c2, g1⟩ := hR
  dsimp only at d1 g1
  have er : rr = r0 := by
    rcases d1 with ⟨z1, z2⟩ | ⟨z1, z2⟩ <;> rcases g1 with ⟨w1, w2⟩ | ⟨w1, w2⟩
    · rw [z1, w1]
    · exact absurd z2 w2
    · exact absurd w2 z2
    · rw [z1, w1]
  subst er
  exact ⟨_, _, _, _, _, c1, c2, r_manner, n, k, fr, to, wt, x, y, p, hgg, hb, hh, hw, hbs, hpc, hpr⟩
