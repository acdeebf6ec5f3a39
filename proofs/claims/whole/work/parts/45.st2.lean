theorem st_put {g_manner : Int32} {g_nodes : Int32} {g_arcs : Int32} {g_from : Nat → Int32} {g_to : Nat → Int32} {g_weight : Nat → Int32} {n_x : Int32} {n_y : Int32} {n_nodes : Int32} {n_aloneB : Int64} {n_pairA : Nat → Nat → Int64} {n_pairB : Nat → Nat → Int64} {n_link : Nat → Nat → Int32} {n_near : Nat → Int32} {n_has : Nat → Int64} {h_nodes : Int32} {h_count : Int32} {h_groups : Nat → Int32} {h_names : Nat → Int32} {u_nodes : Int32} {u_count : Int32} {u_groups : Nat → Int32} {u_names : Nat → Int32} {k_groups : Nat → Int32} {k_opened : Nat → Int32} {k_sumsA : Nat → Int64} {k_sumsB : Nat → Int64} {k_bringA : Nat → Nat → Int64} {k_bringB : Nat → Nat → Int64} {e_code : Int64} {e_alike : Int32} {s_drawn : Int32} {s_labels : Nat → Int32} {s_order : Nat → Int32} {t_known : Int32} {t_count : Int32} {t_lastA : Int64} {t_lastB : Int64} {t_found : Int32} {t_foundA : Int64} {t_foundB : Int64} {t_foundCode : Int64} {t_above : Nat → Int64} {t_above_n : Nat} {t_below : Nat → Int64} {t_below_n : Nat} {t_codes : Nat → Int64} {t_codes_n : Nat} {r_manner : Int32} {r_above : Int32} {r_below : Int32} {r_nodes : Int32} {r_arcs : Int32} {r_left : Int32} {r_isBest : Int32} {r_arePlateaus : Int32} {r_all : Int64} {r_a : Int64} {r_b : Int64} {r_ties : Int32} {r_z : Int32} {r_plateaus : Int32} {r_ones : Nat → Int32} {r_others : Nat → Int32} {r_weights : Nat → Int32} {r_there : Nat → Int32} {r_hand : Nat → Int32} {r_between : Nat → Int32} {r_joins : Nat → Int32} {r_has : Nat → Int32} {r_sums : Nat → Int64} {r_sizes : Nat → Int64} {r_names : Nat → Int32} {r_trial : Nat → Int32} {r_walk : Nat → Int32} {r_found : Nat → Int32} {r_bestOf : Nat → Int32} {r_tried : Nat → Int32} {r_order : Nat → Int32} {r_label : Nat → Int32} {r_shown : Nat → Int32} {r_beginsAbove : Nat → Int64} {r_beginsBelow : Nat → Int64} {r_shownOf : Nat → Int64} (v1 : Int32) (v2 : Int32) (h : Sim g_manner g_nodes g_arcs g_from g_to g_weight n_x n_y n_nodes n_aloneB n_pairA n_pairB n_link n_near n_has h_nodes h_count h_groups h_names u_nodes u_count u_groups u_names k_groups k_opened k_sumsA k_sumsB k_bringA k_bringB e_code e_alike s_drawn s_labels s_order t_known t_count t_lastA t_lastB t_found t_foundA t_foundB t_foundCode t_above t_above_n t_below t_below_n t_codes t_codes_n r_manner r_above r_below r_nodes r_arcs r_left r_isBest r_arePlateaus r_all r_a r_b r_ties r_z r_plateaus r_ones r_others r_weights r_there r_hand r_between r_joins r_has r_sums r_sizes r_names r_trial r_walk r_found r_bestOf r_tried r_order r_label r_shown r_beginsAbove r_beginsBelow r_shownOf) : ∃ (rr : Int32) (h_count' : Int32) (h_groups' : Nat → Int32) (h_names' : Nat → Int32) (r_hand' : Nat → Int32) (r_names' : Nat → Int32), m_MG_put g_nodes h_nodes h_count h_groups h_names v1 v2 = some (rr, h_count', h_groups', h_names') ∧ m_Mo_put r_nodes r_hand r_names v1 v2 = some (rr, r_hand', r_names') ∧ Sim g_manner g_nodes g_arcs g_from g_to g_weight n_x n_y n_nodes n_aloneB n_pairA n_pairB n_link n_near n_has h_nodes h_count' h_groups' h_names' u_nodes u_count u_groups u_names k_groups k_opened k_sumsA k_sumsB k_bringA k_bringB e_code e_alike s_drawn s_labels s_order t_known t_count t_lastA t_lastB t_found t_foundA t_foundB t_foundCode t_above t_above_n t_below t_below_n t_codes t_codes_n r_manner r_above r_below r_nodes r_arcs r_left r_isBest r_arePlateaus r_all r_a r_b r_ties r_z r_plateaus r_ones r_others r_weights r_there r_hand' r_between r_joins r_has r_sums r_sizes r_names' r_trial r_walk r_found r_bestOf r_tried r_order r_label r_shown r_beginsAbove r_beginsBelow r_shownOf := by
  have h0 := h
  obtain ⟨man, n, k, fr, to, wt, x, y, p, hg, hb, hh, hw, hbs, hpc, hpr⟩ := h
  have hgg := hg
  obtain ⟨hm, hn, hk, hx, hy, e1, e2, e3, hca, e4, e5, e6, e7, e8, e9, e10, e11, hra⟩ := hg
  have hwb : wbd wt k := fun i hi => (hra i hi).2.2.2.2.2.1
  have hxI : inI x := ⟨by omega, by omega⟩
  have hyI : inI y := ⟨by omega, by omega⟩
  subst e1
  subst e2 e3 e4 e5
  subst e6
  subst e7 e8 e9 e10 e11
  have hrg := hh.1
  have hf1 := hh.2.1
  have hf2 := hh.2.2.1
  have hgr := hh.2.2.2
  subst hf1 hf2
  have hpc9 : ∀ i, i < n → p i < 9 ∧ h_groups i = nI (p i) := fun i hi => ⟨hnd_lt hn hrg hi, (hgr i hi).1⟩
  have hpr9 : ∀ i, i < n → p i < 9 ∧ r_hand i = nI (p i) := fun i hi => ⟨hnd_lt hn hrg hi, (hgr i hi).2⟩
  by_cases q : nd n v1 ∧ nd n v2
  rotate_left
  · exact ⟨-1, _, _, _, _, _, by unfold m_MG_put; exact one_n hn q, by unfold m_Mo_put; exact two_n hn q, h0⟩
  obtain ⟨⟨a, ha, rfl⟩, b, hbb, rfl⟩ := q
  have hC : ok (m_MG_put (nI n) (nI n) (nI (opn p n)) h_groups h_names (nI a) (nI b)) (fun o => o.1 = nI (cF (shf h_groups a b) n) ∧ o.2.1 = nI (cF (shf h_groups a b) n) ∧ ∀ i, i < n → o.2.2.1 i = nI (cn (shf h_groups a b) i)) := by
    unfold m_MG_put
    rw [one_y hn ha hbb]
    exact ok_bind (h_shift hn ha hbb (fun i hi => ⟨p i, by have := (hpc9 i hi).1; omega, (hpc9 i hi).2⟩)) (fun r h => ok_some ⟨h.1, h.1, h.2⟩)
  have hR : ok (m_Mo_put (nI n) r_hand r_names (nI a) (nI b)) (fun o => o.1 = nI (cF (shf r_hand a b) n) ∧ ∀ i, i < n → o.2.1 i = nI (cn (shf r_hand a b) i)) := by
    unfold m_Mo_put
    rw [two_y hn ha hbb]
    refine ok_bind (h_moveIn hn ha hbb (fun i hi => ⟨p i, (hpr9 i hi).1, (hpr9 i hi).2⟩)) (fun r25 h25 => ok_bind (h_number hn) (fun r33 h33 => ok_some ⟨?_, fun i hi => ?_⟩))
    · rw [h33.1, (cn_re hn h25).2]
    · dsimp only
      rw [h33.2.1 i hi, (cn_re hn h25).1 i hi]
  obtain ⟨⟨rr, h_count', h_groups', h_names'⟩, c1, d1, d2, d3⟩ := hC
  obtain ⟨⟨r0, r_hand', r_names'⟩, c2, g1, g2⟩ := hR
  dsimp only at d1 d2 d3 g1 g2
  have hag : ∀ i, i < n → shf h_groups a b i = shf r_hand a b i := shf_ag hbb (fun i hi => by rw [(hpc9 i hi).2, (hpr9 i hi).2])
  have er : rr = r0 := by rw [d1, g1, (cn_ag hag).2]
  subst er
  exact ⟨_, _, _, _, _, _, c1, c2, r_manner, n, k, fr, to, wt, x, y, cn (shf h_groups a b), hgg, hb, hnd_mk rfl d2 hag d3 g2, hw, hbs, hpc, hpr⟩
theorem st_group {g_manner : Int32} {g_nodes : Int32} {g_arcs : Int32} {g_from : Nat → Int32} {g_to : Nat → Int32} {g_weight : Nat → Int32} {n_x : Int32} {n_y : Int32} {n_nodes : Int32} {n_aloneB : Int64} {n_pairA : Nat → Nat → Int64} {n_pairB : Nat → Nat → Int64} {n_link : Nat → Nat → Int32} {n_near : Nat → Int32} {n_has : Nat → Int64} {h_nodes : Int32} {h_count : Int32} {h_groups : Nat → Int32} {h_names : Nat → Int32} {u_nodes : Int32} {u_count : Int32} {u_groups : Nat → Int32} {u_names : Nat → Int32} {k_groups : Nat → Int32} {k_opened : Nat → Int32} {k_sumsA : Nat → Int64} {k_sumsB : Nat → Int64} {k_bringA : Nat → Nat → Int64} {k_bringB : Nat → Nat → Int64} {e_code : Int64} {e_alike : Int32} {s_drawn : Int32} {s_labels : Nat → Int32} {s_order : Nat → Int32} {t_known : Int32} {t_count : Int32} {t_lastA : Int64} {t_lastB : Int64} {t_found : Int32} {t_foundA : Int64} {t_foundB : Int64} {t_foundCode : Int64} {t_above : Nat → Int64} {t_above_n : Nat} {t_below : Nat → Int64} {t_below_n : Nat} {t_codes : Nat → Int64} {t_codes_n : Nat} {r_manner : Int32} {r_above : Int32} {r_below : Int32} {r_nodes : Int32} {r_arcs : Int32} {r_left : Int32} {r_isBest : Int32} {r_arePlateaus : Int32} {r_all : Int64} {r_a : Int64} {r_b : Int64} {r_ties : Int32} {r_z : Int32} {r_plateaus : Int32} {r_ones : Nat → Int32} {r_others : Nat → Int32} {r_weights : Nat → Int32} {r_there : Nat → Int32} {r_hand : Nat → Int32} {r_between : Nat → Int32} {r_joins : Nat → Int32} {r_has : Nat → Int32} {r_sums : Nat → Int64} {r_sizes : Nat → Int64} {r_names : Nat → Int32} {r_trial : Nat → Int32} {r_walk : Nat → Int32} {r_found : Nat → Int32} {r_bestOf : Nat → Int32} {r_tried : Nat → Int32} {r_order : Nat → Int32} {r_label : Nat → Int32} {r_shown : Nat → Int32} {r_beginsAbove : Nat → Int64} {r_beginsBelow : Nat → Int64} {r_shownOf : Nat → Int64} (v1 : Int32) (h : Sim g_manner g_nodes g_arcs g_from g_to g_weight n_x n_y n_nodes n_aloneB n_pairA n_pairB n_link n_near n_has h_nodes h_count h_groups h_names u_nodes u_count u_groups u_names k_groups k_opened k_sumsA k_sumsB k_bringA k_bringB e_code e_alike s_drawn s_labels s_order t_known t_count t_lastA t_lastB t_found t_foundA t_foundB t_foundCode t_above t_above_n t_below t_below_n t_codes t_codes_n r_manner r_above r_below r_nodes r_arcs r_left r_isBest r_arePlateaus r_all r_a r_b r_ties r_z r_plateaus r_ones r_others r_weights r_there r_hand r_between r_joins r_has r_sums r_sizes r_names r_trial r_walk r_found r_bestOf r_tried r_order r_label r_shown r_beginsAbove r_beginsBelow r_shownOf) : ∃ (rr : Int32), m_MG_group g_nodes h_groups v1 = some rr ∧ m_Mo_group r_nodes r_hand v1 = some rr ∧ Sim g_manner g_nodes g_arcs g_from g_to g_weight n_x n_y n_nodes n_aloneB n_pairA n_pairB n_link n_near n_has h_nodes h_count h_groups h_names u_nodes u_count u_groups u_names k_groups k_opened k_sumsA k_sumsB k_bringA k_bringB e_code e_alike s_drawn s_labels s_order t_known t_count t_lastA t_lastB t_found t_foundA t_foundB t_foundCode t_above t_above_n t_below t_below_n t_codes t_codes_n r_manner r_above r_below r_nodes r_arcs r_left r_isBest r_arePlateaus r_all r_a r_b r_ties r_z r_plateaus r_ones r_others r_weights r_there r_hand r_between r_joins r_has r_sums r_sizes r_names r_trial r_walk r_found r_bestOf r_tried r_order r_label r_shown r_beginsAbove r_beginsBelow r_shownOf := by
  have h0 := h
  obtain ⟨man, n, k, fr, to, wt, x, y, p, hg, hb, hh, hw, hbs, hpc, hpr⟩ := h
  have hgg := hg
  obtain ⟨hm, hn, hk, hx, hy, e1, e2, e3, hca, e4, e5, e6, e7, e8, e9, e10, e11, hra⟩ := hg
  have hwb : wbd wt k := fun i hi => (hra i hi).2.2.2.2.2.1
  have hxI : inI x := ⟨by omega, by omega⟩
  have hyI : inI y := ⟨by omega, by omega⟩
  subst e1
  subst e2 e3 e4 e5
  subst e6
  subst e7 e8 e9 e10 e11
  have hrg := hh.1
  have hf1 := hh.2.1
  have hf2 := hh.2.2.1
  have hgr := hh.2.2.2
  subst hf1 hf2
  have hpc9 : ∀ i, i < n → p i < 9 ∧ h_groups i = nI (p i) := fun i hi => ⟨hnd_lt hn hrg hi, (hgr i hi).1⟩
  have hpr9 : ∀ i, i < n → p i < 9 ∧ r_hand i = nI (p i) := fun i hi => ⟨hnd_lt hn hrg hi, (hgr i hi).2⟩
  by_cases q : nd n v1
  · obtain ⟨a, ha, rfl⟩ := q
    refine ⟨nI (p a), ?_, ?_, h0⟩
    · unfold m_MG_group
      rw [hasNode_y hn ha, Option.bind_some, if_neg n1_0, if_pos (inb_nI (by omega) (by omega)), nI_clamp (show a < 2 ^ 31 by omega), (hpc9 a ha).2]
    · unfold m_Mo_group
      rw [isNode_y hn ha, Option.bind_some, if_neg n1_0, if_pos (inb_nI (by omega) (by omega)), nI_clamp (show a < 2 ^ 31 by omega), (hpr9 a ha).2]
  · exact ⟨-1, by unfold m_MG_group; rw [hasNode_n hn q, Option.bind_some, if_pos rfl], by unfold m_Mo_group; rw [isNode_n hn q, Option.bind_some, if_pos rfl], h0⟩
theorem st_value {g_manner : Int32} {g_nodes : Int32} {g_arcs : Int32} {g_from : Nat → Int32} {g_to : Nat → Int32} {g_weight : Nat → Int32} {n_x : Int32} {n_y : Int32} {n_nodes : Int32} {n_aloneB : Int64} {n_pairA : Nat → Nat → Int64} {n_pairB : Nat → Nat → Int64} {n_link : Nat → Nat → Int32} {n_near : Nat → Int32} {n_has : Nat → Int64} {h_nodes : Int32} {h_count : Int32} {h_groups : Nat → Int32} {h_names : Nat → Int32} {u_nodes : Int32} {u_count : Int32} {u_groups : Nat → Int32} {u_names : Nat → Int32} {k_groups : Nat → Int32} {k_opened : Nat → Int32} {k_sumsA : Nat → Int64} {k_sumsB : Nat → Int64} {k_bringA : Nat → Nat → Int64} {k_bringB : Nat → Nat → Int64} {e_code : Int64} {e_alike : Int32} {s_drawn : Int32} {s_labels : Nat → Int32} {s_order : Nat → Int32} {t_known : Int32} {t_count : Int32} {t_lastA : Int64} {t_lastB : Int64} {t_found : Int32} {t_foundA : Int64} {t_foundB : Int64} {t_foundCode : Int64} {t_above : Nat → Int64} {t_above_n : Nat} {t_below : Nat → Int64} {t_below_n : Nat} {t_codes : Nat → Int64} {t_codes_n : Nat} {r_manner : Int32} {r_above : Int32} {r_below : Int32} {r_nodes : Int32} {r_arcs : Int32} {r_left : Int32} {r_isBest : Int32} {r_arePlateaus : Int32} {r_all : Int64} {r_a : Int64} {r_b : Int64} {r_ties : Int32} {r_z : Int32} {r_plateaus : Int32} {r_ones : Nat → Int32} {r_others : Nat → Int32} {r_weights : Nat → Int32} {r_there : Nat → Int32} {r_hand : Nat → Int32} {r_between : Nat → Int32} {r_joins : Nat → Int32} {r_has : Nat → Int32} {r_sums : Nat → Int64} {r_sizes : Nat → Int64} {r_names : Nat → Int32} {r_trial : Nat → Int32} {r_walk : Nat → Int32} {r_found : Nat → Int32} {r_bestOf : Nat → Int32} {r_tried : Nat → Int32} {r_order : Nat → Int32} {r_label : Nat → Int32} {r_shown : Nat → Int32} {r_beginsAbove : Nat → Int64} {r_beginsBelow : Nat → Int64} {r_shownOf : Nat → Int64}  (h : Sim g_manner g_nodes g_arcs g_from g_to g_weight n_x n_y n_nodes n_aloneB n_pairA n_pairB n_link n_near n_has h_nodes h_count h_groups h_names u_nodes u_count u_groups u_names k_groups k_opened k_sumsA k_sumsB k_bringA k_bringB e_code e_alike s_drawn s_labels s_order t_known t_count t_lastA t_lastB t_found t_foundA t_foundB t_foundCode t_above t_above_n t_below t_below_n t_codes t_codes_n r_manner r_above r_below r_nodes r_arcs r_left r_isBest r_arePlateaus r_all r_a r_b r_ties r_z r_plateaus r_ones r_others r_weights r_there r_hand r_between r_joins r_has r_sums r_sizes r_names r_trial r_walk r_found r_bestOf r_tried r_order r_label r_shown r_beginsAbove r_beginsBelow r_shownOf) : ∃ (rr : Int64) (r_all' : Int64) (r_a' : Int64) (r_b' : Int64) (r_between' : Nat → Int32) (r_joins' : Nat → Int32) (r_has' : Nat → Int32) (r_sums' : Nat → Int64) (r_sizes' : Nat → Int64), m_MG_value n_x n_y n_nodes n_aloneB n_pairA n_pairB h_groups = some rr ∧ m_Mo_value r_manner r_above r_below r_nodes r_arcs r_ones r_others r_weights r_there r_hand r_between r_joins r_has r_sums r_sizes = some (rr, r_all', r_a', r_b', r_between', r_joins', r_has', r_sums', r_sizes') ∧ Sim g_manner g_nodes g_arcs g_from g_to g_weight n_x n_y n_nodes n_aloneB n_pairA n_pairB n_link n_near n_has h_nodes h_count h_groups h_names u_nodes u_count u_groups u_names k_groups k_opened k_sumsA k_sumsB k_bringA k_bringB e_code e_alike s_drawn s_labels s_order t_known t_count t_lastA t_lastB t_found t_foundA t_foundB t_foundCode t_above t_above_n t_below t_below_n t_codes t_codes_n r_manner r_above r_below r_nodes r_arcs r_left r_isBest r_arePlateaus r_all' r_a' r_b' r_ties r_z r_plateaus r_ones r_others r_weights r_there r_hand r_between' r_joins' r_has' r_sums' r_sizes' r_names r_trial r_walk r_found r_bestOf r_tried r_order r_label r_shown r_beginsAbove r_beginsBelow r_shownOf := by
  have h0 := h
  obtain ⟨man, n, k, fr, to, wt, x, y, p, hg, hb, hh, hw, hbs, hpc, hpr⟩ := h
  have hgg := hg
  obtain ⟨hm, hn, hk, hx, hy, e1, e2, e3, hca, e4, e5, e6, e7, e8, e9, e10, e11, hra⟩ := hg
  have hwb : wbd wt k := fun i hi => (hra i hi).2.2.2.2.2.1
  have hxI : inI x := ⟨by omega, by omega⟩
  have hyI : inI y := ⟨by omega, by omega⟩
  subst e1
  subst e2 e3 e4 e5
  subst e6
  subst e7 e8 e9 e10 e11
  have hrg := hh.1
  have hf1 := hh.2.1
  have hf2 := hh.2.2.1
  have hgr := hh.2.2.2
  subst hf1 hf2
  have hpc9 : ∀ i, i < n → p i < 9 ∧ h_groups i = nI (p i) := fun i hi => ⟨hnd_lt hn hrg hi, (hgr i hi).1⟩
  have hpr9 : ∀ i, i < n → p i < 9 ∧ r_hand i = nI (p i) := fun i hi => ⟨hnd_lt hn hrg hi, (hgr i hi).2⟩
  have hC : ok (m_MG_value (iZ x) (iZ y) n_nodes n_aloneB n_pairA n_pairB h_groups) (fun r => r = jZ (Val r_manner n k fr to wt x y p)) := by
    unfold m_MG_value
    exact ok_bind (c_worthOf hn hxI hyI hb hpc9) (fun r h => ok_some h)
  have hR : ok (m_Mo_value r_manner (iZ x) (iZ y) (nI n) (nI k) r_ones r_others r_weights r_there r_hand r_between r_joins r_has r_sums r_sizes) (fun o => o.1 = jZ (Val r_manner n k fr to wt x y p)) := by
    unfold m_Mo_value
    exact ok_bind (h_weigh hk hra) (fun r1 h1 => ok_bind (h_valueOf hn hk hwb h1 hxI hyI hpr9) (fun r9 h9 => ok_some h9))
  obtain ⟨rr, c1, d1⟩ := hC
  obtain ⟨⟨r0, r_all', r_a', r_b', r_between', r_joins', r_has', r_sums', r_sizes'⟩, c2, g1⟩ := hR
  dsimp only at d1 g1
  subst d1 g1
  exact ⟨_, _, _, _, _, _, _, _, _, c1, c2, r_manner, n, k, fr, to, wt, x, y, p, hgg, hb, hh, hw, hbs, hpc, hpr⟩
theorem st_part {g_manner : Int32} {g_nodes : Int32} {g_arcs : Int32} {g_from : Nat → Int32} {g_to : Nat → Int32} {g_weight : Nat → Int32} {n_x : Int32} {n_y : Int32} {n_nodes : Int32} {n_aloneB : Int64} {n_pairA : Nat → Nat → Int64} {n_pairB : Nat → Nat → Int64} {n_link : Nat → Nat → Int32} {n_near : Nat → Int32} {n_has : Nat → Int64} {h_nodes : Int32} {h_count : Int32} {h_groups : Nat → Int32} {h_names : Nat → Int32} {u_nodes : Int32} {u_count : Int32} {u_groups : Nat → Int32} {u_names : Nat → Int32} {k_groups : Nat → Int32} {k_opened : Nat → Int32} {k_sumsA : Nat → Int64} {k_sumsB : Nat → Int64} {k_bringA : Nat → Nat → Int64} {k_bringB : Nat → Nat → Int64} {e_code : Int64} {e_alike : Int32} {s_drawn : Int32} {s_labels : Nat → Int32} {s_order : Nat → Int32} {t_known : Int32} {t_count : Int32} {t_lastA : Int64} {t_lastB : Int64} {t_found : Int32} {t_foundA : Int64} {t_foundB : Int64} {t_foundCode : Int64} {t_above : Nat → Int64} {t_above_n : Nat} {t_below : Nat → Int64} {t_below_n : Nat} {t_codes : Nat → Int64} {t_codes_n : Nat} {r_manner : Int32} {r_above : Int32} {r_below : Int32} {r_nodes : Int32} {r_arcs : Int32} {r_left : Int32} {r_isBest : Int32} {r_arePlateaus : Int32} {r_all : Int64} {r_a : Int64} {r_b : Int64} {r_ties : Int32} {r_z : Int32} {r_plateaus : Int32} {r_ones : Nat → Int32} {r_others : Nat → Int32} {r_weights : Nat → Int32} {r_there : Nat → Int32} {r_hand : Nat → Int32} {r_between : Nat → Int32} {r_joins : Nat → Int32} {r_has : Nat → Int32} {r_sums : Nat → Int64} {r_sizes : Nat → Int64} {r_names : Nat → Int32} {r_trial : Nat → Int32} {r_walk : Nat → Int32} {r_found : Nat → Int32} {r_bestOf : Nat → Int32} {r_tried : Nat → Int32} {r_order : Nat → Int32} {r_label : Nat → Int32} {r_shown : Nat → Int32} {r_beginsAbove : Nat → Int64} {r_beginsBelow : Nat → Int64} {r_shownOf : Nat → Int64} (v1 : Int32) (h : Sim g_manner g_nodes g_arcs g_from g_to g_weight n_x n_y n_nodes n_aloneB n_pairA n_pairB n_link n_near n_has h_nodes h_count h_groups h_names u_nodes u_count u_groups u_names k_groups k_opened k_sumsA k_sumsB k_bringA k_bringB e_code e_alike s_drawn s_labels s_order t_known t_count t_lastA t_lastB t_found t_foundA t_foundB t_foundCode t_above t_above_n t_below t_below_n t_codes t_codes_n r_manner r_above r_below r_nodes r_arcs r_left r_isBest r_arePlateaus r_all r_a r_b r_ties r_z r_plateaus r_ones r_others r_weights r_there r_hand r_between r_joins r_has r_sums r_sizes r_names r_trial r_walk r_found r_bestOf r_tried r_order r_label r_shown r_beginsAbove r_beginsBelow r_shownOf) : ∃ (rr : Int64) (r_all' : Int64) (r_a' : Int64) (r_b' : Int64) (r_between' : Nat → Int32) (r_joins' : Nat → Int32) (r_has' : Nat → Int32) (r_sums' : Nat → Int64) (r_sizes' : Nat → Int64), m_MG_part n_nodes n_aloneB n_pairA n_pairB h_groups v1 = some rr ∧ m_Mo_part r_manner r_nodes r_arcs r_ones r_others r_weights r_there r_hand r_between r_joins r_has r_sums r_sizes v1 = some (rr, r_all', r_a', r_b', r_between', r_joins', r_has', r_sums', r_sizes') ∧ Sim g_manner g_nodes g_arcs g_from g_to g_weight n_x n_y n_nodes n_aloneB n_pairA n_pairB n_link n_near n_has h_nodes h_count h_groups h_names u_nodes u_count u_groups u_names k_groups k_opened k_sumsA k_sumsB k_bringA k_bringB e_code e_alike s_drawn s_labels s_order t_known t_count t_lastA t_lastB t_found t_foundA t_foundB t_foundCode t_above t_above_n t_below t_below_n t_codes t_codes_n r_manner r_above r_below r_nodes r_arcs r_left r_isBest r_arePlateaus r_all' r_a' r_b' r_ties r_z r_plateaus r_ones r_others r_weights r_there r_hand r_between' r_joins' r_has' r_sums' r_sizes' r_names r_trial r_walk r_found r_bestOf r_tried r_order r_label r_shown r_beginsAbove r_beginsBelow r_shownOf := by
  have h0 := h
  obtain ⟨man, n, k, fr, to, wt, x, y, p, hg, hb, hh, hw, hbs, hpc, hpr⟩ := h
  have hgg := hg
  obtain ⟨hm, hn, hk, hx, hy, e1, e2, e3, hca, e4, e5, e6, e7, e8, e9, e10, e11, hra⟩ := hg
  have hwb : wbd wt k := fun i hi => (hra i hi).2.2.2.2.2.1
  have hxI : inI x := ⟨by omega, by omega⟩
  have hyI : inI y := ⟨by omega, by omega⟩
  subst e1
  subst e2 e3 e4 e5
  subst e6
  subst e7 e8 e9 e10 e11
  have hrg := hh.1
  have hf1 := hh.2.1
  have hf2 := hh.2.2.1
  have hgr := hh.2.2.2
  subst hf1 hf2
  have hpc9 : ∀ i, i < n → p i < 9 ∧ h_groups i = nI (p i) := fun i hi => ⟨hnd_lt hn hrg hi, (hgr i hi).1⟩
  have hpr9 : ∀ i, i < n → p i < 9 ∧ r_hand i = nI (p i) := fun i hi => ⟨hnd_lt hn hrg hi, (hgr i hi).2⟩
  have hw9 := h_weigh (man := r_manner) (bt := r_between) (jo := r_joins) (has := r_has) hk hra
  have hPA : sm2 n (pAof r_manner (al r_manner wt k) (fun c d => lk r_manner fr to wt c d k)) p = Aof r_manner (al r_manner wt k) (fun c d => lk r_manner fr to wt c d k) n p := A_pairs _ _ _ _ _
  have hPB : alB r_manner (fun c => hs r_manner fr to wt c k) n + sm2 n (pBof r_manner (fun c => hs r_manner fr to wt c k)) p = Bof r_manner (fun c => hs r_manner fr to wt c k) n p := B_pairs _ _ _ _
  have hb' := hb
  obtain ⟨b1, b2, b3, b4⟩ := hb'
  have hpc100 : ∀ i, i < n → p i < 100 ∧ h_groups i = nI (p i) := fun i hi => ⟨by have := (hpc9 i hi).1; omega, (hpc9 i hi).2⟩
  obtain ⟨val, va, vb, vc⟩ : ∃ val : Int64, (v1 = 0 → val = jZ (Aof r_manner (al r_manner wt k) (fun c d => lk r_manner fr to wt c d k) n p)) ∧ (v1 = 1 → val = jZ (Bof r_manner (fun c => hs r_manner fr to wt c k) n p)) ∧ (¬ v1 = 0 → ¬ v1 = 1 → val = 0) := by
    by_cases q : v1 = 0
    · exact ⟨_, fun _ => rfl, fun z => absurd (q.symm.trans z) n0_1, fun z => absurd q z⟩
    · by_cases q2 : v1 = 1
      · exact ⟨_, fun z => absurd z q, fun _ => rfl, fun _ z => absurd q2 z⟩
      · exact ⟨0, fun z => absurd z q, fun z => absurd z q2, fun _ _ => rfl⟩
  have hSA : ok (m_Ga_sumA n_nodes n_pairA h_groups) (fun r => r = jZ (Aof r_manner (al r_manner wt k) (fun c d => lk r_manner fr to wt c d k) n p)) := by
    unfold m_Ga_sumA
    rw [b1]
    exact ok_bind (h_sumWithin hn hpc100 (fun i j hi hj => (b3 i j hi (by omega)).1)) (fun r h => ok_some (by rw [h, hPA]))
  have hSB : ok (m_Ga_sumB n_nodes n_aloneB n_pairB h_groups) (fun r => r = jZ (Bof r_manner (fun c => hs r_manner fr to wt c k) n p)) := by
    unfold m_Ga_sumB
    rw [b1, b2]
    exact ok_bind (h_sumWithin hn hpc100 (fun i j hi hj => (b3 i j hi (by omega)).2)) (fun r h => ok_some (by rw [h, ← jZ_add, hPB]))
  have hC : ok (m_MG_part n_nodes n_aloneB n_pairA n_pairB h_groups v1) (fun r => r = val) := by
    unfold m_MG_part
    by_cases q : v1 = 0
    · exact ok_t q (ok_bind hSA (fun r h => ok_some (h.trans (va q).symm)))
    · refine ok_f q ?_
      by_cases q2 : v1 = 1
      · exact ok_t q2 (ok_bind hSB (fun r h => ok_some (h.trans (vb q2).symm)))
      · exact ok_f q2 (ok_some (vc q q2).symm)
  have hR : ok (m_Mo_part r_manner (nI n) (nI k) r_ones r_others r_weights r_there r_hand r_between r_joins r_has r_sums r_sizes v1) (fun o => o.1 = val) := by
    unfold m_Mo_part
    refine ok_bind hw9 (fun r1 h1 => ok_bind (r_judge hn hk hwb h1 hpr9) (fun r9 h9 => ?_))
    by_cases q : v1 = 0
    · exact ok_t q (ok_some (h9.1.trans (va q).symm))
    · refine ok_f q ?_
      by_cases q2 : v1 = 1
      · exact ok_t q2 (ok_some (h9.2.trans (vb q2).symm))
      · exact ok_f q2 (ok_some (vc q q2).symm)
  obtain ⟨rr, c1, d1⟩ := hC
  obtain ⟨⟨r0, r_all', r_a', r_b', r_between', r_joins', r_has', r_sums', r_sizes'⟩, c2, g1⟩ := hR
  dsimp only at d1 g1
  have er : rr = r0 := d1.trans g1.symm
  subst er
  exact ⟨_, _, _, _, _, _, _, _, _, c1, c2, r_manner, n, k, fr, to, wt, x, y, p, hgg, hb, hh, hw, hbs, hpc, hpr⟩
