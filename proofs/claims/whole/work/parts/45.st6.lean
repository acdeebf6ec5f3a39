theorem st_plateaus {g_manner : Int32} {g_nodes : Int32} {g_arcs : Int32} {g_from : Nat → Int32} {g_to : Nat → Int32} {g_weight : Nat → Int32} {n_x : Int32} {n_y : Int32} {n_nodes : Int32} {n_aloneB : Int64} {n_pairA : Nat → Nat → Int64} {n_pairB : Nat → Nat → Int64} {n_link : Nat → Nat → Int32} {n_near : Nat → Int32} {n_has : Nat → Int64} {h_nodes : Int32} {h_count : Int32} {h_groups : Nat → Int32} {h_names : Nat → Int32} {u_nodes : Int32} {u_count : Int32} {u_groups : Nat → Int32} {u_names : Nat → Int32} {k_groups : Nat → Int32} {k_opened : Nat → Int32} {k_sumsA : Nat → Int64} {k_sumsB : Nat → Int64} {k_bringA : Nat → Nat → Int64} {k_bringB : Nat → Nat → Int64} {e_code : Int64} {e_alike : Int32} {s_drawn : Int32} {s_labels : Nat → Int32} {s_order : Nat → Int32} {t_known : Int32} {t_count : Int32} {t_lastA : Int64} {t_lastB : Int64} {t_found : Int32} {t_foundA : Int64} {t_foundB : Int64} {t_foundCode : Int64} {t_above : Nat → Int64} {t_above_n : Nat} {t_below : Nat → Int64} {t_below_n : Nat} {t_codes : Nat → Int64} {t_codes_n : Nat} {r_manner : Int32} {r_above : Int32} {r_below : Int32} {r_nodes : Int32} {r_arcs : Int32} {r_left : Int32} {r_isBest : Int32} {r_arePlateaus : Int32} {r_all : Int64} {r_a : Int64} {r_b : Int64} {r_ties : Int32} {r_z : Int32} {r_plateaus : Int32} {r_ones : Nat → Int32} {r_others : Nat → Int32} {r_weights : Nat → Int32} {r_there : Nat → Int32} {r_hand : Nat → Int32} {r_between : Nat → Int32} {r_joins : Nat → Int32} {r_has : Nat → Int32} {r_sums : Nat → Int64} {r_sizes : Nat → Int64} {r_names : Nat → Int32} {r_trial : Nat → Int32} {r_walk : Nat → Int32} {r_found : Nat → Int32} {r_bestOf : Nat → Int32} {r_tried : Nat → Int32} {r_order : Nat → Int32} {r_label : Nat → Int32} {r_shown : Nat → Int32} {r_beginsAbove : Nat → Int64} {r_beginsBelow : Nat → Int64} {r_shownOf : Nat → Int64}  (h : Sim g_manner g_nodes g_arcs g_from g_to g_weight n_x n_y n_nodes n_aloneB n_pairA n_pairB n_link n_near n_has h_nodes h_count h_groups h_names u_nodes u_count u_groups u_names k_groups k_opened k_sumsA k_sumsB k_bringA k_bringB e_code e_alike s_drawn s_labels s_order t_known t_count t_lastA t_lastB t_found t_foundA t_foundB t_foundCode t_above t_above_n t_below t_below_n t_codes t_codes_n r_manner r_above r_below r_nodes r_arcs r_left r_isBest r_arePlateaus r_all r_a r_b r_ties r_z r_plateaus r_ones r_others r_weights r_there r_hand r_between r_joins r_has r_sums r_sizes r_names r_trial r_walk r_found r_bestOf r_tried r_order r_label r_shown r_beginsAbove r_beginsBelow r_shownOf) : ∃ (Bc : Nat) (Bs : Nat) (rr : Int32) (k_groups' : Nat → Int32) (k_opened' : Nat → Int32) (k_sumsA' : Nat → Int64) (k_sumsB' : Nat → Int64) (k_bringA' : Nat → Nat → Int64) (k_bringB' : Nat → Nat → Int64) (t_known' : Int32) (t_count' : Int32) (t_lastA' : Int64) (t_lastB' : Int64) (t_found' : Int32) (t_foundA' : Int64) (t_foundB' : Int64) (t_foundCode' : Int64) (t_above' : Nat → Int64) (t_above_n' : Nat) (t_below' : Nat → Int64) (t_below_n' : Nat) (t_codes' : Nat → Int64) (t_codes_n' : Nat) (r_arePlateaus' : Int32) (r_all' : Int64) (r_a' : Int64) (r_b' : Int64) (r_plateaus' : Int32) (r_between' : Nat → Int32) (r_joins' : Nat → Int32) (r_has' : Nat → Int32) (r_sums' : Nat → Int64) (r_sizes' : Nat → Int64) (r_walk' : Nat → Int32) (r_found' : Nat → Int32) (r_shown' : Nat → Int32) (r_beginsAbove' : Nat → Int64) (r_beginsBelow' : Nat → Int64) (r_shownOf' : Nat → Int64), m_MG_plateaus n_nodes n_aloneB n_pairA n_pairB k_groups k_opened k_sumsA k_sumsB k_bringA k_bringB t_known t_count t_lastA t_lastB t_found t_foundA t_foundB t_foundCode t_above t_above_n t_below t_below_n t_codes t_codes_n Bc Bs = some (rr, k_groups', k_opened', k_sumsA', k_sumsB', k_bringA', k_bringB', t_known', t_count', t_lastA', t_lastB', t_found', t_foundA', t_foundB', t_foundCode', t_above', t_above_n', t_below', t_below_n', t_codes', t_codes_n') ∧ m_Mo_plateaus r_manner r_nodes r_arcs r_arePlateaus r_all r_a r_b r_plateaus r_ones r_others r_weights r_there r_between r_joins r_has r_sums r_sizes r_walk r_found r_shown r_beginsAbove r_beginsBelow r_shownOf = some (rr, r_arePlateaus', r_all', r_a', r_b', r_plateaus', r_between', r_joins', r_has', r_sums', r_sizes', r_walk', r_found', r_shown', r_beginsAbove', r_beginsBelow', r_shownOf') ∧ Sim g_manner g_nodes g_arcs g_from g_to g_weight n_x n_y n_nodes n_aloneB n_pairA n_pairB n_link n_near n_has h_nodes h_count h_groups h_names u_nodes u_count u_groups u_names k_groups' k_opened' k_sumsA' k_sumsB' k_bringA' k_bringB' e_code e_alike s_drawn s_labels s_order t_known' t_count' t_lastA' t_lastB' t_found' t_foundA' t_foundB' t_foundCode' t_above' t_above_n' t_below' t_below_n' t_codes' t_codes_n' r_manner r_above r_below r_nodes r_arcs r_left r_isBest r_arePlateaus' r_all' r_a' r_b' r_ties r_z r_plateaus' r_ones r_others r_weights r_there r_hand r_between' r_joins' r_has' r_sums' r_sizes' r_names r_trial r_walk' r_found' r_bestOf r_tried r_order r_label r_shown' r_beginsAbove' r_beginsBelow' r_shownOf' ∧ Bc + t_codes_n ≤ t_codes_n' ∧ Bs + 6 * t_codes_n ≤ 6 * t_codes_n' := by
  have h0 := h
  obtain ⟨man, n, k, fr, to, wt, x, y, p, hg, hb, hh, hw, hbs, hpc, hpr⟩ := h
  have hgg := hg
  obtain ⟨hm, hn, hk, hx, hy, e1, e2, e3, hca, e4, e5, e6, e7, e8, e9, e10, e11, hra⟩ := hg
  have hwb : wbd wt k := fun i hi => (hra i hi).2.2.2.2.2.1
  have hxI : inI x := ⟨by omega, by omega⟩
  have hyI : inI y := ⟨by omega, by omega⟩
  subst e1
  subst e2 e3 e4 e5
  subst e6
  subst e7 e8 e9 e10 e11
  obtain ⟨K, hK⟩ := last_ex hn
  have hfew := few_AB (man := r_manner) (fr := fr) (to := to) hn hk hm hwb (fun i hi => (hra i hi).2.2.2.2.1)
  have sA1 := smalA (man := r_manner) (fr := fr) (to := to) hn hk hwb
  have sB1 := smalB (man := r_manner) (fr := fr) (to := to) hn hk hwb
  obtain ⟨hn1, hn2, h8, h4096, hpk⟩ := hpc
  have hn3 := hn1.symm
  have hn4 := hn2.symm
  clear hn1 hn2
  subst hn3 hn4
  have hpk2 : t_known = 0 ∨ (t_known = 1 ∧ plC n (AA r_manner n k fr to wt) (BB r_manner n k fr to wt) K t_codes_n t_count t_above t_below t_codes) := by
    rcases hpk with z | ⟨z, K2, hK2, z2⟩
    · exact Or.inl z
    · rw [isLast_uniq hK2 hK] at z2
      exact Or.inr ⟨z, z2⟩
  have hpr2 : r_arePlateaus = 0 ∨ (r_arePlateaus = 1 ∧ plR n (AA r_manner n k fr to wt) (BB r_manner n k fr to wt) K r_plateaus r_beginsAbove r_beginsBelow r_shownOf) := by
    rcases hpr with z | ⟨z, K2, hK2, z2⟩
    · exact Or.inl z
    · rw [isLast_uniq hK2 hK] at z2
      exact Or.inr ⟨z, z2⟩
  obtain ⟨Bc, Bs, N', ⟨k1, k2, k3, k4⟩, hF⟩ := h_find (kg := k_groups) (kB := k_sumsB) (bA := k_bringA) (bB := k_bringB) (fd := t_found) (lA := t_lastA) (lB := t_lastB) (fa := t_foundA) (fb := t_foundB) (fc := t_foundCode) hn hk hwb hb hw.1 hw.2 rfl rfl hfew hK h8 h4096 hpk2
  have hP := h_findPlateaus (man := r_manner) (all := r_all) (a0 := r_a) (b0 := r_b) (bt := r_between) (jo := r_joins) (has := r_has) (wk := r_walk) (fd := r_found) (sh := r_shown) (sums := r_sums) (sizes := r_sizes) hn hk hra rfl rfl hfew hK hpr2
  have hC : ok (m_MG_plateaus n_nodes n_aloneB n_pairA n_pairB k_groups k_opened k_sumsA k_sumsB k_bringA k_bringB t_known t_count t_lastA t_lastB t_found t_foundA t_foundB t_foundCode t_above t_codes_n t_below t_codes_n t_codes t_codes_n Bc Bs) (fun o => o.1 = o.2.2.2.2.2.2.2.2.1 ∧ qC n (AA r_manner n k fr to wt) (BB r_manner n k fr to wt) K N' o.2.2.1 o.2.2.2.1 o.2.2.2.2.2.2.2.1 o.2.2.2.2.2.2.2.2.1 o.2.2.2.2.2.2.2.2.2.2.2.2.2.2.2.1 o.2.2.2.2.2.2.2.2.2.2.2.2.2.2.2.2.1 o.2.2.2.2.2.2.2.2.2.2.2.2.2.2.2.2.2.1 o.2.2.2.2.2.2.2.2.2.2.2.2.2.2.2.2.2.2.1 o.2.2.2.2.2.2.2.2.2.2.2.2.2.2.2.2.2.2.2.1 o.2.2.2.2.2.2.2.2.2.2.2.2.2.2.2.2.2.2.2.2) := by
    unfold m_MG_plateaus
    exact ok_t ⟨by omega, by omega⟩ (ok_bind hF (fun r4 h4 => ok_t ⟨by omega, by omega⟩ (ok_some ⟨rfl, h4⟩)))
  have hR : ok (m_Mo_plateaus r_manner (nI n) (nI k) r_arePlateaus r_all r_a r_b r_plateaus r_ones r_others r_weights r_there r_between r_joins r_has r_sums r_sizes r_walk r_found r_shown r_beginsAbove r_beginsBelow r_shownOf) (fun o => o.1 = o.2.2.2.2.2.1 ∧ o.2.1 = 1 ∧ plR n (AA r_manner n k fr to wt) (BB r_manner n k fr to wt) K o.2.2.2.2.2.1 o.2.2.2.2.2.2.2.2.2.2.2.2.2.2.1 o.2.2.2.2.2.2.2.2.2.2.2.2.2.2.2.1 o.2.2.2.2.2.2.2.2.2.2.2.2.2.2.2.2) := by
    unfold m_Mo_plateaus
    exact ok_bind hP (fun r1 h1 => ok_some ⟨rfl, h1⟩)
  obtain ⟨⟨rr, k_groups', k_opened', k_sumsA', k_sumsB', k_bringA', k_bringB', t_known', t_count', t_lastA', t_lastB', t_found', t_foundA', t_foundB', t_foundCode', t_above', t_above_n', t_below', t_below_n', t_codes', t_codes_n'⟩, c1, d1, d2, d3, d4, d5, d6, d7⟩ := hC
  obtain ⟨⟨r0, r_arePlateaus', r_all', r_a', r_b', r_plateaus', r_between', r_joins', r_has', r_sums', r_sizes', r_walk', r_found', r_shown', r_beginsAbove', r_beginsBelow', r_shownOf'⟩, c2, g1, g2, g3⟩ := hR
  dsimp only at d1 d2 d3 d4 d5 d6 d7 g1 g2 g3
  subst d5 d6 d7
  have er : rr = r0 := by
    obtain ⟨c, hC, _, _, ec, _⟩ := d4
    obtain ⟨c', hC', _, ec', _⟩ := g3
    rw [d1, g1, ec, ec', isC_uniq hC hC']
  subst er
  exact ⟨Bc, Bs, _, _, _, _, _, _, _, _, _, _, _, _, _, _, _, _, _, _, _, _, _, _, _, _, _, _, _, _, _, _, _, _, _, _, _, _, _, c1, c2, ⟨r_manner, n, k, fr, to, wt, x, y, p, hgg, hb, hh, d2, hbs, ⟨rfl, rfl, k3, k4, Or.inr ⟨d3, K, hK, d4⟩⟩, Or.inr ⟨g2, K, hK, g3⟩⟩, k1, k2⟩
theorem st_begins {g_manner : Int32} {g_nodes : Int32} {g_arcs : Int32} {g_from : Nat → Int32} {g_to : Nat → Int32} {g_weight : Nat → Int32} {n_x : Int32} {n_y : Int32} {n_nodes : Int32} {n_aloneB : Int64} {n_pairA : Nat → Nat → Int64} {n_pairB : Nat → Nat → Int64} {n_link : Nat → Nat → Int32} {n_near : Nat → Int32} {n_has : Nat → Int64} {h_nodes : Int32} {h_count : Int32} {h_groups : Nat → Int32} {h_names : Nat → Int32} {u_nodes : Int32} {u_count : Int32} {u_groups : Nat → Int32} {u_names : Nat → Int32} {k_groups : Nat → Int32} {k_opened : Nat → Int32} {k_sumsA : Nat → Int64} {k_sumsB : Nat → Int64} {k_bringA : Nat → Nat → Int64} {k_bringB : Nat → Nat → Int64} {e_code : Int64} {e_alike : Int32} {s_drawn : Int32} {s_labels : Nat → Int32} {s_order : Nat → Int32} {t_known : Int32} {t_count : Int32} {t_lastA : Int64} {t_lastB : Int64} {t_found : Int32} {t_foundA : Int64} {t_foundB : Int64} {t_foundCode : Int64} {t_above : Nat → Int64} {t_above_n : Nat} {t_below : Nat → Int64} {t_below_n : Nat} {t_codes : Nat → Int64} {t_codes_n : Nat} {r_manner : Int32} {r_above : Int32} {r_below : Int32} {r_nodes : Int32} {r_arcs : Int32} {r_left : Int32} {r_isBest : Int32} {r_arePlateaus : Int32} {r_all : Int64} {r_a : Int64} {r_b : Int64} {r_ties : Int32} {r_z : Int32} {r_plateaus : Int32} {r_ones : Nat → Int32} {r_others : Nat → Int32} {r_weights : Nat → Int32} {r_there : Nat → Int32} {r_hand : Nat → Int32} {r_between : Nat → Int32} {r_joins : Nat → Int32} {r_has : Nat → Int32} {r_sums : Nat → Int64} {r_sizes : Nat → Int64} {r_names : Nat → Int32} {r_trial : Nat → Int32} {r_walk : Nat → Int32} {r_found : Nat → Int32} {r_bestOf : Nat → Int32} {r_tried : Nat → Int32} {r_order : Nat → Int32} {r_label : Nat → Int32} {r_shown : Nat → Int32} {r_beginsAbove : Nat → Int64} {r_beginsBelow : Nat → Int64} {r_shownOf : Nat → Int64} (v1 : Int32) (v2 : Int32) (h : Sim g_manner g_nodes g_arcs g_from g_to g_weight n_x n_y n_nodes n_aloneB n_pairA n_pairB n_link n_near n_has h_nodes h_count h_groups h_names u_nodes u_count u_groups u_names k_groups k_opened k_sumsA k_sumsB k_bringA k_bringB e_code e_alike s_drawn s_labels s_order t_known t_count t_lastA t_lastB t_found t_foundA t_foundB t_foundCode t_above t_above_n t_below t_below_n t_codes t_codes_n r_manner r_above r_below r_nodes r_arcs r_left r_isBest r_arePlateaus r_all r_a r_b r_ties r_z r_plateaus r_ones r_others r_weights r_there r_hand r_between r_joins r_has r_sums r_sizes r_names r_trial r_walk r_found r_bestOf r_tried r_order r_label r_shown r_beginsAbove r_beginsBelow r_shownOf) : ∃ (Bc : Nat) (Bs : Nat) (rr : Int64) (k_groups' : Nat → Int32) (k_opened' : Nat → Int32) (k_sumsA' : Nat → Int64) (k_sumsB' : Nat → Int64) (k_bringA' : Nat → Nat → Int64) (k_bringB' : Nat → Nat → Int64) (t_known' : Int32) (t_count' : Int32) (t_lastA' : Int64) (t_lastB' : Int64) (t_found' : Int32) (t_foundA' : Int64) (t_foundB' : Int64) (t_foundCode' : Int64) (t_above' : Nat → Int64) (t_above_n' : Nat) (t_below' : Nat → Int64) (t_below_n' : Nat) (t_codes' : Nat → Int64) (t_codes_n' : Nat) (r_arePlateaus' : Int32) (r_all' : Int64) (r_a' : Int64) (r_b' : Int64) (r_plateaus' : Int32) (r_between' : Nat → Int32) (r_joins' : Nat → Int32) (r_has' : Nat → Int32) (r_sums' : Nat → Int64) (r_sizes' : Nat → Int64) (r_walk' : Nat → Int32) (r_found' : Nat → Int32) (r_shown' : Nat → Int32) (r_beginsAbove' : Nat → Int64) (r_beginsBelow' : Nat → Int64) (r_shownOf' : Nat → Int64), m_MG_begins n_nodes n_aloneB n_pairA n_pairB k_groups k_opened k_sumsA k_sumsB k_bringA k_bringB t_known t_count t_lastA t_lastB t_found t_foundA t_foundB t_foundCode t_above t_above_n t_below t_below_n t_codes t_codes_n v1 v2 Bc Bs = some (rr, k_groups', k_opened', k_sumsA', k_sumsB', k_bringA', k_bringB', t_known', t_count', t_lastA', t_lastB', t_found', t_foundA', t_foundB', t_foundCode', t_above', t_above_n', t_below', t_below_n', t_codes', t_codes_n') ∧ m_Mo_begins r_manner r_nodes r_arcs r_arePlateaus r_all r_a r_b r_plateaus r_ones r_others r_weights r_there r_between r_joins r_has r_sums r_sizes r_walk r_found r_shown r_beginsAbove r_beginsBelow r_shownOf v1 v2 = some (rr, r_arePlateaus', r_all', r_a', r_b', r_plateaus', r_between', r_joins', r_has', r_sums', r_sizes', r_walk', r_found', r_shown', r_beginsAbove', r_beginsBelow', r_shownOf') ∧ Sim g_manner g_nodes g_arcs g_from g_to g_weight n_x n_y n_nodes n_aloneB n_pairA n_pairB n_link n_near n_has h_nodes h_count h_groups h_names u_nodes u_count u_groups u_names k_groups' k_opened' k_sumsA' k_sumsB' k_bringA' k_bringB' e_code e_alike s_drawn s_labels s_order t_known' t_count' t_lastA' t_lastB' t_found' t_foundA' t_foundB' t_foundCode' t_above' t_above_n' t_below' t_below_n' t_codes' t_codes_n' r_manner r_above r_below r_nodes r_arcs r_left r_isBest r_arePlateaus' r_all' r_a' r_b' r_ties r_z r_plateaus' r_ones r_others r_weights r_there r_hand r_between' r_joins' r_has' r_sums' r_sizes' r_names r_trial r_walk' r_found' r_bestOf r_tried r_order r_label r_shown' r_beginsAbove' r_beginsBelow' r_shownOf' ∧ Bc + t_codes_n ≤ t_codes_n' ∧ Bs + 6 * t_codes_n ≤ 6 * t_codes_n' := by
  have h0 := h
  obtain ⟨man, n, k, fr, to, wt, x, y, p, hg, hb, hh, hw, hbs, hpc, hpr⟩ := h
  have hgg := hg
  obtain ⟨hm, hn, hk, hx, hy, e1, e2, e3, hca, e4, e5, e6, e7, e8, e9, e10, e11, hra⟩ := hg
  have hwb : wbd wt k := fun i hi => (hra i hi).2.2.2.2.2.1
  have hxI : inI x := ⟨by omega, by omega⟩
  have hyI : inI y := ⟨by omega, by omega⟩
  subst e1
  subst e2 e3 e4 e5
  subst e6
  subst e7 e8 e9 e10 e11
  obtain ⟨K, hK⟩ := last_ex hn
  have hfew := few_AB (man := r_manner) (fr := fr) (to := to) hn hk hm hwb (fun i hi => (hra i hi).2.2.2.2.1)
  have sA1 := smalA (man := r_manner) (fr := fr) (to := to) hn hk hwb
  have sB1 := smalB (man := r_manner) (fr := fr) (to := to) hn hk hwb
  obtain ⟨hn1, hn2, h8, h4096, hpk⟩ := hpc
  have hn3 := hn1.symm
  have hn4 := hn2.symm
  clear hn1 hn2
  subst hn3 hn4
  have hpk2 : t_known = 0 ∨ (t_known = 1 ∧ plC n (AA r_manner n k fr to wt) (BB r_manner n k fr to wt) K t_codes_n t_count t_above t_below t_codes) := by
    rcases hpk with z | ⟨z, K2, hK2, z2⟩
    · exact Or.inl z
    · rw [isLast_uniq hK2 hK] at z2
      exact Or.inr ⟨z, z2⟩
  have hpr2 : r_arePlateaus = 0 ∨ (r_arePlateaus = 1 ∧ plR n (AA r_manner n k fr to wt) (BB r_manner n k fr to wt) K r_plateaus r_beginsAbove r_beginsBelow r_shownOf) := by
    rcases hpr with z | ⟨z, K2, hK2, z2⟩
    · exact Or.inl z
    · rw [isLast_uniq hK2 hK] at z2
      exact Or.inr ⟨z, z2⟩
  obtain ⟨Bc, Bs, N', ⟨k1, k2, k3, k4⟩, hF⟩ := h_find (kg := k_groups) (kB := k_sumsB) (bA := k_bringA) (bB := k_bringB) (fd := t_found) (lA := t_lastA) (lB := t_lastB) (fa := t_foundA) (fb := t_foundB) (fc := t_foundCode) hn hk hwb hb hw.1 hw.2 rfl rfl hfew hK h8 h4096 hpk2
  have hP := h_findPlateaus (man := r_manner) (all := r_all) (a0 := r_a) (b0 := r_b) (bt := r_between) (jo := r_joins) (has := r_has) (wk := r_walk) (fd := r_found) (sh := r_shown) (sums := r_sums) (sizes := r_sizes) hn hk hra rfl rfl hfew hK hpr2
  have hC := c_begins (v1 := v1) (v2 := v2) k4 hF
  have hR := r_begins (v1 := v1) (v2 := v2) sA1 sB1 hP
  obtain ⟨⟨rr, k_groups', k_opened', k_sumsA', k_sumsB', k_bringA', k_bringB', t_known', t_count', t_lastA', t_lastB', t_found', t_foundA', t_foundB', t_foundCode', t_above', t_above_n', t_below', t_below_n', t_codes', t_codes_n'⟩, c1, ⟨c, hc1, hc2, hc3⟩, d2, d3, d4, d5, d6, d7⟩ := hC
  obtain ⟨⟨r0, r_arePlateaus', r_all', r_a', r_b', r_plateaus', r_between', r_joins', r_has', r_sums', r_sizes', r_walk', r_found', r_shown', r_beginsAbove', r_beginsBelow', r_shownOf'⟩, c2, ⟨c', hr1, hr2, hr3⟩, g2, g3⟩ := hR
  dsimp only at hc3 hr3 d2 d3 d4 d5 d6 d7 g2 g3
  subst d5 d6 d7
  have ec := isC_uniq hc1 hr1
  subst ec
  have er : rr = r0 := bAns_uniq hc2 hc3 hr3
  subst er
  exact ⟨Bc, Bs, _, _, _, _, _, _, _, _, _, _, _, _, _, _, _, _, _, _, _, _, _, _, _, _, _, _, _, _, _, _, _, _, _, _, _, _, _, c1, c2, ⟨r_manner, n, k, fr, to, wt, x, y, p, hgg, hb, hh, d2, hbs, ⟨rfl, rfl, k3, k4, Or.inr ⟨d3, K, hK, d4⟩⟩, Or.inr ⟨g2, K, hK, g3⟩⟩, k1, k2⟩
theorem st_plateau {g_manner : Int32} {g_nodes : Int32} {g_arcs : Int32} {g_from : Nat → Int32} {g_to : Nat → Int32} {g_weight : Nat → Int32} {n_x : Int32} {n_y : Int32} {n_nodes : Int32} {n_aloneB : Int64} {n_pairA : Nat → Nat → Int64} {n_pairB : Nat → Nat → Int64} {n_link : Nat → Nat → Int32} {n_near : Nat → Int32} {n_has : Nat → Int64} {h_nodes : Int32} {h_count : Int32} {h_groups : Nat → Int32} {h_names : Nat → Int32} {u_nodes : Int32} {u_count : Int32} {u_groups : Nat → Int32} {u_names : Nat → Int32} {k_groups : Nat → Int32} {k_opened : Nat → Int32} {k_sumsA : Nat → Int64} {k_sumsB : Nat → Int64} {k_bringA : Nat → Nat → Int64} {k_bringB : Nat → Nat → Int64} {e_code : Int64} {e_alike : Int32} {s_drawn : Int32} {s_labels : Nat → Int32} {s_order : Nat → Int32} {t_known : Int32} {t_count : Int32} {t_lastA : Int64} {t_lastB : Int64} {t_found : Int32} {t_foundA : Int64} {t_foundB : Int64} {t_foundCode : Int64} {t_above : Nat → Int64} {t_above_n : Nat} {t_below : Nat → Int64} {t_below_n : Nat} {t_codes : Nat → Int64} {t_codes_n : Nat} {r_manner : Int32} {r_above : Int32} {r_below : Int32} {r_nodes : Int32} {r_arcs : Int32} {r_left : Int32} {r_isBest : Int32} {r_arePlateaus : Int32} {r_all : Int64} {r_a : Int64} {r_b : Int64} {r_ties : Int32} {r_z : Int32} {r_plateaus : Int32} {r_ones : Nat → Int32} {r_others : Nat → Int32} {r_weights : Nat → Int32} {r_there : Nat → Int32} {r_hand : Nat → Int32} {r_between : Nat → Int32} {r_joins : Nat → Int32} {r_has : Nat → Int32} {r_sums : Nat → Int64} {r_sizes : Nat → Int64} {r_names : Nat → Int32} {r_trial : Nat → Int32} {r_walk : Nat → Int32} {r_found : Nat → Int32} {r_bestOf : Nat → Int32} {r_tried : Nat → Int32} {r_order : Nat → Int32} {r_label : Nat → Int32} {r_shown : Nat → Int32} {r_beginsAbove : Nat → Int64} {r_beginsBelow : Nat → Int64} {r_shownOf : Nat → Int64} (v1 : Int32) (h : Sim g_manner g_nodes g_arcs g_from g_to g_weight n_x n_y n_nodes n_aloneB n_pairA n_pairB n_link n_near n_has h_nodes h_count h_groups h_names u_nodes u_count u_groups u_names k_groups k_opened k_sumsA k_sumsB k_bringA k_bringB e_code e_alike s_drawn s_labels s_order t_known t_count t_lastA t_lastB t_found t_foundA t_foundB t_foundCode t_above t_above_n t_below t_below_n t_codes t_codes_n r_manner r_above r_below r_nodes r_arcs r_left r_isBest r_arePlateaus r_all r_a r_b r_ties r_z r_plateaus r_ones r_others r_weights r_there r_hand r_between r_joins r_has r_sums r_sizes r_names r_trial r_walk r_found r_bestOf r_tried r_order r_label r_shown r_beginsAbove r_beginsBelow r_shownOf) : ∃ (Bc : Nat) (Bs : Nat) (rr : Int32) (h_nodes' : Int32) (h_count' : Int32) (h_groups' : Nat → Int32) (h_names' : Nat → Int32) (k_groups' : Nat → Int32) (k_opened' : Nat → Int32) (k_sumsA' : Nat → Int64) (k_sumsB' : Nat → Int64) (k_bringA' : Nat → Nat → Int64) (k_bringB' : Nat → Nat → Int64) (t_known' : Int32) (t_count' : Int32) (t_lastA' : Int64) (t_lastB' : Int64) (t_found' : Int32) (t_foundA' : Int64) (t_foundB' : Int64) (t_foundCode' : Int64) (t_above' : Nat → Int64) (t_above_n' : Nat) (t_below' : Nat → Int64) (t_below_n' : Nat) (t_codes' : Nat → Int64) (t_codes_n' : Nat) (r_arePlateaus' : Int32) (r_all' : Int64) (r_a' : Int64) (r_b' : Int64) (r_plateaus' : Int32) (r_hand' : Nat → Int32) (r_between' : Nat → Int32) (r_joins' : Nat → Int32) (r_has' : Nat → Int32) (r_sums' : Nat → Int64) (r_sizes' : Nat → Int64) (r_names' : Nat → Int32) (r_walk' : Nat → Int32) (r_found' : Nat → Int32) (r_shown' : Nat → Int32) (r_beginsAbove' : Nat → Int64) (r_beginsBelow' : Nat → Int64) (r_shownOf' : Nat → Int64), m_MG_plateau g_nodes n_nodes n_aloneB n_pairA n_pairB h_nodes h_count h_groups h_names k_groups k_opened k_sumsA k_sumsB k_bringA k_bringB t_known t_count t_lastA t_lastB t_found t_foundA t_foundB t_foundCode t_above t_above_n t_below t_below_n t_codes t_codes_n v1 Bc Bs = some (rr, h_nodes', h_count', h_groups', h_names', k_groups', k_opened', k_sumsA', k_sumsB', k_bringA', k_bringB', t_known', t_count', t_lastA', t_lastB', t_found', t_foundA', t_foundB', t_foundCode', t_above', t_above_n', t_below', t_below_n', t_codes', t_codes_n') ∧ m_Mo_plateau r_manner r_nodes r_arcs r_arePlateaus r_all r_a r_b r_plateaus r_ones r_others r_weights r_there r_hand r_between r_joins r_has r_sums r_sizes r_names r_walk r_found r_shown r_beginsAbove r_beginsBelow r_shownOf v1 = some (rr, r_arePlateaus', r_all', r_a', r_b', r_plateaus', r_hand', r_between', r_joins', r_has', r_sums', r_sizes', r_names', r_walk', r_found', r_shown', r_beginsAbove', r_beginsBelow', r_shownOf') ∧ Sim g_manner g_nodes g_arcs g_from g_to g_weight n_x n_y n_nodes n_aloneB n_pairA n_pairB n_link n_near n_has h_nodes' h_count' h_groups' h_names' u_nodes u_count u_groups u_names k_groups' k_opened' k_sumsA' k_sumsB' k_bringA' k_bringB' e_code e_alike s_drawn s_labels s_order t_known' t_count' t_lastA' t_lastB' t_found' t_foundA' t_foundB' t_foundCode' t_above' t_above_n' t_below' t_below_n' t_codes' t_codes_n' r_manner r_above r_below r_nodes r_arcs r_left r_isBest r_arePlateaus' r_all' r_a' r_b' r_ties r_z r_plateaus' r_ones r_others r_weights r_there r_hand' r_between' r_joins' r_has' r_sums' r_sizes' r_names' r_trial r_walk' r_found' r_bestOf r_tried r_order r_label r_shown' r_beginsAbove' r_beginsBelow' r_shownOf' ∧ Bc + t_codes_n ≤ t_codes_n' ∧ Bs + 6 * t_codes_n ≤ 6 * t_codes_n' := by
  have h0 := h
  obtain ⟨man, n, k, fr, to, wt, x, y, p, hg, hb, hh, hw, hbs, hpc, hpr⟩ := h
  have hgg := hg
  obtain ⟨hm, hn, hk, hx, hy, e1, e2, e3, hca, e4, e5, e6, e7, e8, e9, e10, e11, hra⟩ := hg
  have hwb : wbd wt k := fun i hi => (hra i hi).2.2.2.2.2.1
  have hxI : inI x := ⟨by omega, by omega⟩
  have hyI : inI y := ⟨by omega, by omega⟩
  subst e1
  subst e2 e3 e4 e5
  subst e6
  subst e7 e8 e9 e10 e11
  obtain ⟨K, hK⟩ := last_ex hn
  have hfew := few_AB (man := r_manner) (fr := fr) (to := to) hn hk hm hwb (fun i hi => (hra i hi).2.2.2.2.1)
  have sA1 := smalA (man := r_manner) (fr := fr) (to := to) hn hk hwb
  have sB1 := smalB (man := r_manner) (fr := fr) (to := to) hn hk hwb
  obtain ⟨hn1, hn2, h8, h4096, hpk⟩ := hpc
  have hn3 := hn1.symm
  have hn4 := hn2.symm
  clear hn1 hn2
  subst hn3 hn4
  have hpk2 : t_known = 0 ∨ (t_known = 1 ∧ plC n (AA r_manner n k fr to wt) (BB r_manner n k fr to wt) K t_codes_n t_count t_above t_below t_codes) := by
    rcases hpk with z | ⟨z, K2, hK2, z2⟩
    · exact Or.inl z
    · rw [isLast_uniq hK2 hK] at z2
      exact Or.inr ⟨z, z2⟩
  have hpr2 : r_arePlateaus = 0 ∨ (r_arePlateaus = 1 ∧ plR n (AA r_manner n k fr to wt) (BB r_manner n k fr to wt) K r_plateaus r_beginsAbove r_beginsBelow r_shownOf) := by
    rcases hpr with z | ⟨z, K2, hK2, z2⟩
    · exact Or.inl z
    · rw [isLast_uniq hK2 hK] at z2
      exact Or.inr ⟨z, z2⟩
  obtain ⟨Bc, Bs, N', ⟨k1, k2, k3, k4⟩, hF⟩ := h_find (kg := k_groups) (kB := k_sumsB) (bA := k_bringA) (bB := k_bringB) (fd := t_found) (lA := t_lastA) (lB := t_lastB) (fa := t_foundA) (fb := t_foundB) (fc := t_foundCode) hn hk hwb hb hw.1 hw.2 rfl rfl hfew hK h8 h4096 hpk2
  have hP := h_findPlateaus (man := r_manner) (all := r_all) (a0 := r_a) (b0 := r_b) (bt := r_between) (jo := r_joins) (has := r_has) (wk := r_walk) (fd := r_found) (sh := r_shown) (sums := r_sums) (sizes := r_sizes) hn hk hra rfl rfl hfew hK hpr2
  have hC := c_plateau (v1 := v1) (hN0 := h_nodes) (hC0 := h_count) (hg := h_groups) (hm := h_names) hn k4 hF
  have hR := r_plateau (v1 := v1) (hd := r_hand) (nm := r_names) hn hP
  obtain ⟨⟨rr, h_nodes', h_count', h_groups', h_names', k_groups', k_opened', k_sumsA', k_sumsB', k_bringA', k_bringB', t_known', t_count', t_lastA', t_lastB', t_found', t_foundA', t_foundB', t_foundCode', t_above', t_above_n', t_below', t_below_n', t_codes', t_codes_n'⟩, c1, ⟨c, hc1, hc2, hc3, hc4⟩, d2, d3, d4, d5, d6, d7⟩ := hC
  obtain ⟨⟨r0, r_arePlateaus', r_all', r_a', r_b', r_plateaus', r_hand', r_between', r_joins', r_has', r_sums', r_sizes', r_names', r_walk', r_found', r_shown', r_beginsAbove', r_beginsBelow', r_shownOf'⟩, c2, ⟨c', hr1, hr2, hr3⟩, g2, g3⟩ := hR
  dsimp only at hc3 hc4 hr3 d2 d3 d4 d5 d6 d7 g2 g3
  subst d5 d6 d7
  have ec := isC_uniq hc1 hr1
  subst ec
  have fin : rr = r0 ∧ ∃ p', hnd n p' h_nodes' h_count' h_groups' r_hand' := by
    rcases hc3 with ⟨z1, z2, z3⟩ | ⟨s, f, hs, ez, z3, z4, z5, z6⟩
    · rcases hr3 with ⟨w1, w2, w3⟩ | ⟨s, f, hs, ez, _⟩
      · rcases hc4 with ⟨_, y1, y2⟩ | ⟨y0, _⟩
        · exact ⟨z2.trans w2.symm, p, by rw [z3, w3, y1, y2]; exact hh⟩
        · exact absurd y0 z1
      · exact absurd ⟨s, hs, ez⟩ z1
    · rcases hr3 with ⟨w1, w2, w3⟩ | ⟨s2, f2, hs2, ez2, w3, w4, w5, w6⟩
      · exact absurd ⟨s, hs, ez⟩ w1
      · have es : s = s2 := nI_inj (by omega) (by omega) (ez.symm.trans ez2)
        subst es
        rw [z3] at w3
        cases w3
        rcases hc4 with ⟨y0, _⟩ | ⟨_, y1, y2⟩
        · exact absurd ⟨s, hs, ez⟩ y0
        · exact ⟨z5.trans w5.symm, en n f, z4, y1, y2.trans z5, fun i hi => ⟨z6 i hi, w6 i hi⟩⟩
  obtain ⟨er, p', hh'⟩ := fin
  subst er
  exact ⟨Bc, Bs, _, _, _, _, _, _, _, _, _, _, _, _, _, _, _, _, _, _, _, _, _, _, _, _, _, _, _, _, _, _, _, _, _, _, _, _, _, _, _, _, _, _, _, c1, c2, ⟨r_manner, n, k, fr, to, wt, x, y, p', hgg, hb, hh', d2, hbs, ⟨rfl, rfl, k3, k4, Or.inr ⟨d3, K, hK, d4⟩⟩, Or.inr ⟨g2, K, hK, g3⟩⟩, k1, k2⟩
