theorem st_arc {g_manner : Int32} {g_nodes : Int32} {g_arcs : Int32} {g_from : Nat → Int32} {g_to : Nat → Int32} {g_weight : Nat → Int32} {n_x : Int32} {n_y : Int32} {n_nodes : Int32} {n_aloneB : Int64} {n_pairA : Nat → Nat → Int64} {n_pairB : Nat → Nat → Int64} {n_link : Nat → Nat → Int32} {n_near : Nat → Int32} {n_has : Nat → Int64} {h_nodes : Int32} {h_count : Int32} {h_groups : Nat → Int32} {h_names : Nat → Int32} {u_nodes : Int32} {u_count : Int32} {u_groups : Nat → Int32} {u_names : Nat → Int32} {k_groups : Nat → Int32} {k_opened : Nat → Int32} {k_sumsA : Nat → Int64} {k_sumsB : Nat → Int64} {k_bringA : Nat → Nat → Int64} {k_bringB : Nat → Nat → Int64} {e_code : Int64} {e_alike : Int32} {s_drawn : Int32} {s_labels : Nat → Int32} {s_order : Nat → Int32} {t_known : Int32} {t_count : Int32} {t_lastA : Int64} {t_lastB : Int64} {t_found : Int32} {t_foundA : Int64} {t_foundB : Int64} {t_foundCode : Int64} {t_above : Nat → Int64} {t_above_n : Nat} {t_below : Nat → Int64} {t_below_n : Nat} {t_codes : Nat → Int64} {t_codes_n : Nat} {r_manner : Int32} {r_above : Int32} {r_below : Int32} {r_nodes : Int32} {r_arcs : Int32} {r_left : Int32} {r_isBest : Int32} {r_arePlateaus : Int32} {r_all : Int64} {r_a : Int64} {r_b : Int64} {r_ties : Int32} {r_z : Int32} {r_plateaus : Int32} {r_ones : Nat → Int32} {r_others : Nat → Int32} {r_weights : Nat → Int32} {r_there : Nat → Int32} {r_hand : Nat → Int32} {r_between : Nat → Int32} {r_joins : Nat → Int32} {r_has : Nat → Int32} {r_sums : Nat → Int64} {r_sizes : Nat → Int64} {r_names : Nat → Int32} {r_trial : Nat → Int32} {r_walk : Nat → Int32} {r_found : Nat → Int32} {r_bestOf : Nat → Int32} {r_tried : Nat → Int32} {r_order : Nat → Int32} {r_label : Nat → Int32} {r_shown : Nat → Int32} {r_beginsAbove : Nat → Int64} {r_beginsBelow : Nat → Int64} {r_shownOf : Nat → Int64} (v1 : Int32) (v2 : Int32) (v3 : Int32) (h : Sim g_manner g_nodes g_arcs g_from g_to g_weight n_x n_y n_nodes n_aloneB n_pairA n_pairB n_link n_near n_has h_nodes h_count h_groups h_names u_nodes u_count u_groups u_names k_groups k_opened k_sumsA k_sumsB k_bringA k_bringB e_code e_alike s_drawn s_labels s_order t_known t_count t_lastA t_lastB t_found t_foundA t_foundB t_foundCode t_above t_above_n t_below t_below_n t_codes t_codes_n r_manner r_above r_below r_nodes r_arcs r_left r_isBest r_arePlateaus r_all r_a r_b r_ties r_z r_plateaus r_ones r_others r_weights r_there r_hand r_between r_joins r_has r_sums r_sizes r_names r_trial r_walk r_found r_bestOf r_tried r_order r_label r_shown r_beginsAbove r_beginsBelow r_shownOf) : ∃ (rr : Int32) (g_arcs' : Int32) (g_from' : Nat → Int32) (g_to' : Nat → Int32) (g_weight' : Nat → Int32) (n_nodes' : Int32) (n_aloneB' : Int64) (n_pairA' : Nat → Nat → Int64) (n_pairB' : Nat → Nat → Int64) (n_link' : Nat → Nat → Int32) (n_near' : Nat → Int32) (n_has' : Nat → Int64) (h_nodes' : Int32) (h_count' : Int32) (h_groups' : Nat → Int32) (t_known' : Int32) (r_arcs' : Int32) (r_left' : Int32) (r_isBest' : Int32) (r_arePlateaus' : Int32) (r_ones' : Nat → Int32) (r_others' : Nat → Int32) (r_weights' : Nat → Int32) (r_there' : Nat → Int32) (r_hand' : Nat → Int32), m_MG_arc g_manner g_nodes g_arcs g_from g_to g_weight n_nodes n_aloneB n_pairA n_pairB n_link n_near n_has h_nodes h_count h_groups t_known v1 v2 v3 = some (rr, g_arcs', g_from', g_to', g_weight', n_nodes', n_aloneB', n_pairA', n_pairB', n_link', n_near', n_has', h_nodes', h_count', h_groups', t_known') ∧ m_Mo_arc r_nodes r_arcs r_left r_isBest r_arePlateaus r_ones r_others r_weights r_there r_hand v1 v2 v3 = some (rr, r_arcs', r_left', r_isBest', r_arePlateaus', r_ones', r_others', r_weights', r_there', r_hand') ∧ Sim g_manner g_nodes g_arcs' g_from' g_to' g_weight' n_x n_y n_nodes' n_aloneB' n_pairA' n_pairB' n_link' n_near' n_has' h_nodes' h_count' h_groups' h_names u_nodes u_count u_groups u_names k_groups k_opened k_sumsA k_sumsB k_bringA k_bringB e_code e_alike s_drawn s_labels s_order t_known' t_count t_lastA t_lastB t_found t_foundA t_foundB t_foundCode t_above t_above_n t_below t_below_n t_codes t_codes_n r_manner r_above r_below r_nodes r_arcs' r_left' r_isBest' r_arePlateaus' r_all r_a r_b r_ties r_z r_plateaus r_ones' r_others' r_weights' r_there' r_hand' r_between r_joins r_has r_sums r_sizes r_names r_trial r_walk r_found r_bestOf r_tried r_order r_label r_shown r_beginsAbove r_beginsBelow r_shownOf := by
  have h0 := h
  obtain ⟨man, n, k, fr, to, wt, x, y, p, hg, hb, hh, hw, hbs, hpc, hpr⟩ := h
  have hgg := hg
  obtain ⟨hm, hn, hk, hx, hy, e1, e2, e3, hca, e4, e5, e6, e7, e8, e9, e10, e11, hra⟩ := hg
  have hwb : wbd wt k := fun i hi => (hra i hi).2.2.2.2.2.1
  have hxI : inI x := ⟨by omega, by omega⟩
  have hyI : inI y := ⟨by omega, by omega⟩
  subst e1
  subst e2 e3 e4 e5
  subst e6
  subst e7 e8 e9 e10 e11
  by_cases q : nd n v1 ∧ nd n v2
  rotate_left
  · exact ⟨-1, _, _, _, _, _, _, _, _, _, _, _, _, _, _, _, _, _, _, _, _, _, _, _, _, by unfold m_MG_arc; exact one_n hn q, by unfold m_Mo_arc; exact two_n hn q, h0⟩
  obtain ⟨⟨a, ha, rfl⟩, b, hbb, rfl⟩ := q
  by_cases q0 : nI a = nI b
  · exact ⟨-1, _, _, _, _, _, _, _, _, _, _, _, _, _, _, _, _, _, _, _, _, _, _, _, _, by unfold m_MG_arc; rw [one_y hn ha hbb, if_pos q0], by unfold m_Mo_arc; rw [two_y hn ha hbb, if_pos q0], h0⟩
  by_cases q1 : v3 < (-50 : Int32)
  · exact ⟨-2, _, _, _, _, _, _, _, _, _, _, _, _, _, _, _, _, _, _, _, _, _, _, _, _, by unfold m_MG_arc; rw [one_y hn ha hbb, if_neg q0, if_pos q1], by unfold m_Mo_arc; rw [two_y hn ha hbb, if_neg q0, if_pos q1], h0⟩
  by_cases q2 : (50 : Int32) < v3
  · exact ⟨-2, _, _, _, _, _, _, _, _, _, _, _, _, _, _, _, _, _, _, _, _, _, _, _, _, by unfold m_MG_arc; rw [one_y hn ha hbb, if_neg q0, if_neg q1, if_pos q2], by unfold m_Mo_arc; rw [two_y hn ha hbb, if_neg q0, if_neg q1, if_pos q2], h0⟩
  by_cases q3 : v3 = 0
  · exact ⟨-2, _, _, _, _, _, _, _, _, _, _, _, _, _, _, _, _, _, _, _, _, _, _, _, _, by unfold m_MG_arc; rw [one_y hn ha hbb, if_neg q0, if_neg q1, if_neg q2, if_pos q3], by unfold m_Mo_arc; rw [two_y hn ha hbb, if_neg q0, if_neg q1, if_neg q2, if_pos q3], h0⟩
  by_cases q4 : k = 36
  · subst q4
    exact ⟨-4, _, _, _, _, _, _, _, _, _, _, _, _, _, _, _, _, _, _, _, _, _, _, _, _, by unfold m_MG_arc; rw [one_y hn ha hbb, if_neg q0, if_neg q1, if_neg q2, if_neg q3, if_neg (by decide +kernel)], by unfold m_Mo_arc; rw [two_y hn ha hbb, if_neg q0, if_neg q1, if_neg q2, if_neg q3, if_pos (by decide +kernel)], h0⟩
  have n36 : (36 : Int32) = nI 36 := by decide +kernel
  have q5 : nI k < (36 : Int32) := by rw [n36]; exact nI_lt (by omega) (by omega)
  have q6 : ¬ nI k = (36 : Int32) := by rw [n36]; exact fun z => q4 (nI_inj (by omega) (by omega) z)
  have hab : a ≠ b := fun z => q0 (by rw [z])
  have hw3 : -50 ≤ v3.toInt ∧ v3.toInt ≤ 50 := by
    have q1' := q1
    have q2' := q2
    rw [Int32.lt_iff_toInt_lt] at q1' q2'
    have z1 : (-50 : Int32).toInt = -50 := rfl
    have z2 : (50 : Int32).toInt = 50 := rfl
    rw [z1] at q1'
    rw [z2] at q2'
    omega
  have hw0 : v3.toInt ≠ 0 := fun z => q3 (by rw [iZ_self v3, z]; rfl)
  have e3 : v3 = iZ v3.toInt := iZ_self v3
  generalize v3.toInt = w at hw3 hw0 e3
  subst e3
  have hca2 := carc_ex hca (show a < 9 by omega) (show b < 9 by omega) hab hw3
  have hra2 := rarc_ex hra (show a < 9 by omega) (show b < 9 by omega) hab hw3 hw0
  have hC : ok (m_MG_arc r_manner (nI n) (nI k) g_from g_to g_weight n_nodes n_aloneB n_pairA n_pairB n_link n_near n_has h_nodes h_count h_groups t_known (nI a) (nI b) (iZ w)) (fun o => o.1 = nI k ∧ o.2.1 = nI (k + 1) ∧ o.2.2.1 = upd g_from k (nI a) ∧ o.2.2.2.1 = upd g_to k (nI b) ∧ o.2.2.2.2.1 = upd g_weight k (iZ w) ∧ built r_manner n (k + 1) (exN fr k a) (exN to k b) (exZ wt k w) o.2.2.2.2.2.1 o.2.2.2.2.2.2.1 o.2.2.2.2.2.2.2.1 o.2.2.2.2.2.2.2.2.1 o.2.2.2.2.2.2.2.2.2.1 o.2.2.2.2.2.2.2.2.2.2.1 o.2.2.2.2.2.2.2.2.2.2.2.1 ∧ o.2.2.2.2.2.2.2.2.2.2.2.2.1 = nI n ∧ o.2.2.2.2.2.2.2.2.2.2.2.2.2.1 = nI n ∧ (∀ i, i < n → o.2.2.2.2.2.2.2.2.2.2.2.2.2.2.1 i = nI i) ∧ o.2.2.2.2.2.2.2.2.2.2.2.2.2.2.2 = 0) := by
    unfold m_MG_arc m_Gr_addArc
    rw [one_y hn ha hbb, nI_1, nI_clamp (show k < 2 ^ 31 by omega)]
    refine ok_f q0 (ok_f q1 (ok_f q2 (ok_f q3 (ok_t q5 ?_))))
    rw [if_pos (inb_nI (show k < 36 by omega) (by omega)), Option.bind_some]
    exact ok_bind (h_startAnew hn (show k + 1 ≤ 36 by omega) hca2) (fun r h => ok_some ⟨rfl, rfl, rfl, rfl, rfl, h.1, h.2.1, h.2.2.1, h.2.2.2.1, h.2.2.2.2⟩)
  have hR : ok (m_Mo_arc (nI n) (nI k) (nI (lft wt k)) r_isBest r_arePlateaus r_ones r_others r_weights r_there r_hand (nI a) (nI b) (iZ w)) (fun o => o.1 = nI k ∧ o.2.1 = nI (k + 1) ∧ o.2.2.1 = nI (lft wt k + 1) ∧ o.2.2.2.1 = 0 ∧ o.2.2.2.2.1 = 0 ∧ o.2.2.2.2.2.1 = upd r_ones k (nI a) ∧ o.2.2.2.2.2.2.1 = upd r_others k (nI b) ∧ o.2.2.2.2.2.2.2.1 = upd r_weights k (iZ w) ∧ o.2.2.2.2.2.2.2.2.1 = upd r_there k (vp_nar .boolean (1 : Int32)) ∧ ∀ i, i < n → o.2.2.2.2.2.2.2.2.2 i = nI i) := by
    unfold m_Mo_arc
    rw [two_y hn ha hbb, nI_1, nI_1, nI_pred, nI_clamp (show k < 2 ^ 31 by omega)]
    exact ok_f q0 (ok_f q1 (ok_f q2 (ok_f q3 (ok_f q6 (ok_t (inb_nI (show k < 36 by omega) (by omega)) (ok_bind (h_alone hn) (fun r h => ok_some ⟨rfl, rfl, rfl, h.1, h.2.1, rfl, rfl, rfl, rfl, h.2.2⟩)))))))
  obtain ⟨⟨rr, g_arcs', g_from', g_to', g_weight', n_nodes', n_aloneB', n_pairA', n_pairB', n_link', n_near', n_has', h_nodes', h_count', h_groups', t_known'⟩, c1, d1, d2, d3, d4, d5, d6, d7, d8, d9, d10⟩ := hC
  obtain ⟨⟨r0, r_arcs', r_left', r_isBest', r_arePlateaus', r_ones', r_others', r_weights', r_there', r_hand'⟩, c2, g1, g2, g3, g4, g5, g6, g7, g8, g9, g10⟩ := hR
  dsimp only at d1 d2 d3 d4 d5 d6 d7 d8 d9 d10 g1 g2 g3 g4 g5 g6 g7 g8 g9 g10
  subst d1 d2 d3 d4 d5 g1 g2 g3 g6 g7 g8 g9
  exact ⟨_, _, _, _, _, _, _, _, _, _, _, _, _, _, _, _, _, _, _, _, _, _, _, _, _, c1, c2, r_manner, n, k + 1, exN fr k a, exN to k b, exZ wt k w, x, y, fun i => i, ⟨hm, hn, by omega, hx, hy, rfl, rfl, rfl, hca2, rfl, rfl, rfl, rfl, rfl, rfl, rfl, by rw [lft_ex hw0], hra2⟩, d6, hnd_id d7 d8 (fun i hi => ⟨d9 i hi, g10 i hi⟩), hw, Or.inl g4, pCS_0 hpc d10, Or.inl g5⟩
theorem st_drop {g_manner : Int32} {g_nodes : Int32} {g_arcs : Int32} {g_from : Nat → Int32} {g_to : Nat → Int32} {g_weight : Nat → Int32} {n_x : Int32} {n_y : Int32} {n_nodes : Int32} {n_aloneB : Int64} {n_pairA : Nat → Nat → Int64} {n_pairB : Nat → Nat → Int64} {n_link : Nat → Nat → Int32} {n_near : Nat → Int32} {n_has : Nat → Int64} {h_nodes : Int32} {h_count : Int32} {h_groups : Nat → Int32} {h_names : Nat → Int32} {u_nodes : Int32} {u_count : Int32} {u_groups : Nat → Int32} {u_names : Nat → Int32} {k_groups : Nat → Int32} {k_opened : Nat → Int32} {k_sumsA : Nat → Int64} {k_sumsB : Nat → Int64} {k_bringA : Nat → Nat → Int64} {k_bringB : Nat → Nat → Int64} {e_code : Int64} {e_alike : Int32} {s_drawn : Int32} {s_labels : Nat → Int32} {s_order : Nat → Int32} {t_known : Int32} {t_count : Int32} {t_lastA : Int64} {t_lastB : Int64} {t_found : Int32} {t_foundA : Int64} {t_foundB : Int64} {t_foundCode : Int64} {t_above : Nat → Int64} {t_above_n : Nat} {t_below : Nat → Int64} {t_below_n : Nat} {t_codes : Nat → Int64} {t_codes_n : Nat} {r_manner : Int32} {r_above : Int32} {r_below : Int32} {r_nodes : Int32} {r_arcs : Int32} {r_left : Int32} {r_isBest : Int32} {r_arePlateaus : Int32} {r_all : Int64} {r_a : Int64} {r_b : Int64} {r_ties : Int32} {r_z : Int32} {r_plateaus : Int32} {r_ones : Nat → Int32} {r_others : Nat → Int32} {r_weights : Nat → Int32} {r_there : Nat → Int32} {r_hand : Nat → Int32} {r_between : Nat → Int32} {r_joins : Nat → Int32} {r_has : Nat → Int32} {r_sums : Nat → Int64} {r_sizes : Nat → Int64} {r_names : Nat → Int32} {r_trial : Nat → Int32} {r_walk : Nat → Int32} {r_found : Nat → Int32} {r_bestOf : Nat → Int32} {r_tried : Nat → Int32} {r_order : Nat → Int32} {r_label : Nat → Int32} {r_shown : Nat → Int32} {r_beginsAbove : Nat → Int64} {r_beginsBelow : Nat → Int64} {r_shownOf : Nat → Int64} (v1 : Int32) (h : Sim g_manner g_nodes g_arcs g_from g_to g_weight n_x n_y n_nodes n_aloneB n_pairA n_pairB n_link n_near n_has h_nodes h_count h_groups h_names u_nodes u_count u_groups u_names k_groups k_opened k_sumsA k_sumsB k_bringA k_bringB e_code e_alike s_drawn s_labels s_order t_known t_count t_lastA t_lastB t_found t_foundA t_foundB t_foundCode t_above t_above_n t_below t_below_n t_codes t_codes_n r_manner r_above r_below r_nodes r_arcs r_left r_isBest r_arePlateaus r_all r_a r_b r_ties r_z r_plateaus r_ones r_others r_weights r_there r_hand r_between r_joins r_has r_sums r_sizes r_names r_trial r_walk r_found r_bestOf r_tried r_order r_label r_shown r_beginsAbove r_beginsBelow r_shownOf) : ∃ (rr : Int32) (g_weight' : Nat → Int32) (n_nodes' : Int32) (n_aloneB' : Int64) (n_pairA' : Nat → Nat → Int64) (n_pairB' : Nat → Nat → Int64) (n_link' : Nat → Nat → Int32) (n_near' : Nat → Int32) (n_has' : Nat → Int64) (h_nodes' : Int32) (h_count' : Int32) (h_groups' : Nat → Int32) (t_known' : Int32) (r_left' : Int32) (r_isBest' : Int32) (r_arePlateaus' : Int32) (r_there' : Nat → Int32) (r_hand' : Nat → Int32), m_MG_drop g_manner g_nodes g_arcs g_from g_to g_weight n_nodes n_aloneB n_pairA n_pairB n_link n_near n_has h_nodes h_count h_groups t_known v1 = some (rr, g_weight', n_nodes', n_aloneB', n_pairA', n_pairB', n_link', n_near', n_has', h_nodes', h_count', h_groups', t_known') ∧ m_Mo_drop r_nodes r_arcs r_left r_isBest r_arePlateaus r_there r_hand v1 = some (rr, r_left', r_isBest', r_arePlateaus', r_there', r_hand') ∧ Sim g_manner g_nodes g_arcs g_from g_to g_weight' n_x n_y n_nodes' n_aloneB' n_pairA' n_pairB' n_link' n_near' n_has' h_nodes' h_count' h_groups' h_names u_nodes u_count u_groups u_names k_groups k_opened k_sumsA k_sumsB k_bringA k_bringB e_code e_alike s_drawn s_labels s_order t_known' t_count t_lastA t_lastB t_found t_foundA t_foundB t_foundCode t_above t_above_n t_below t_below_n t_codes t_codes_n r_manner r_above r_below r_nodes r_arcs r_left' r_isBest' r_arePlateaus' r_all r_a r_b r_ties r_z r_plateaus r_ones r_others r_weights r_there' r_hand' r_between r_joins r_has r_sums r_sizes r_names r_trial r_walk r_found r_bestOf r_tried r_order r_label r_shown r_beginsAbove r_beginsBelow r_shownOf := by
  have h0 := h
  obtain ⟨man, n, k, fr, to, wt, x, y, p, hg, hb, hh, hw, hbs, hpc, hpr⟩ := h
  have hgg := hg
  obtain ⟨hm, hn, hk, hx, hy, e1, e2, e3, hca, e4, e5, e6, e7, e8, e9, e10, e11, hra⟩ := hg
  have hwb : wbd wt k := fun i hi => (hra i hi).2.2.2.2.2.1
  have hxI : inI x := ⟨by omega, by omega⟩
  have hyI : inI y := ⟨by omega, by omega⟩
  subst e1
  subst e2 e3 e4 e5
  subst e6
  subst e7 e8 e9 e10 e11
  have key : (m_Gr_hasArc (nI k) g_weight v1 = some 0 ∧ (v1 < 0 ∨ nI k ≤ v1 ∨ (inb v1 36 = true ∧ r_there v1.toNatClampNeg = 0))) ∨ ∃ a, a < k ∧ v1 = nI a ∧ wt a ≠ 0 := by
    rcases pk_ix v1 (n := k) (by omega) with q | q | ⟨a, ha, rfl⟩
    · exact Or.inl ⟨by unfold m_Gr_hasArc; rw [if_pos q], Or.inl q⟩
    · refine Or.inl ⟨?_, Or.inr (Or.inl q)⟩
      unfold m_Gr_hasArc
      by_cases w1 : v1 < 0
      · rw [if_pos w1]
      · rw [if_neg w1, if_pos q]
    · obtain ⟨_, _, _, _, _, hwa, hwe⟩ := hca a ha
      obtain ⟨_, _, _, _, _, _, hth⟩ := hra a ha
      have hin : inb (nI a) 36 = true := inb_nI (by omega) (by omega)
      by_cases hz : wt a = 0
      · refine Or.inl ⟨?_, Or.inr (Or.inr ⟨hin, ?_⟩)⟩
        · unfold m_Gr_hasArc
          rw [if_neg (nI_pos (by omega)), if_neg (le_nI (by omega) (by omega) ha), if_pos hin, nI_clamp (show a < 2 ^ 31 by omega), hwe, if_pos (by rw [hz]; rfl)]
        · rw [nI_clamp (show a < 2 ^ 31 by omega)]
          rcases hth with z | z
          · exact z.1
          · exact absurd hz z.2.2
      · exact Or.inr ⟨a, ha, rfl, hz⟩
  rcases key with ⟨z1, z2⟩ | ⟨a, ha, rfl, hz⟩
  · refine ⟨-1, _, _, _, _, _, _, _, _, _, _, _, _, _, _, _, _, _, by unfold m_MG_drop; rw [z1, Option.bind_some, if_pos rfl], ?_, h0⟩
    unfold m_Mo_drop
    by_cases w1 : v1 < 0
    · rw [if_pos w1]
    · rw [if_neg w1]
      by_cases w2 : nI k ≤ v1
      · rw [if_pos w2]
      · rw [if_neg w2]
        rcases z2 with z | z | z
        · exact absurd z w1
        · exact absurd z w2
        · rw [if_pos z.1, if_pos z.2]
  · obtain ⟨_, _, _, _, _, hwa, hwe⟩ := hca a ha
    obtain ⟨_, _, _, _, _, _, hth⟩ := hra a ha
    have hin : inb (nI a) 36 = true := inb_nI (by omega) (by omega)
    have hth1 : r_there a = 1 := by
      rcases hth with z | z
      · exact absurd z.2 hz
      · exact z.1
    have hha : m_Gr_hasArc (nI k) g_weight (nI a) = some 1 := by
      unfold m_Gr_hasArc
      rw [if_neg (nI_pos (by omega)), if_neg (le_nI (by omega) (by omega) ha), if_pos hin, nI_clamp (show a < 2 ^ 31 by omega), hwe, if_neg (fun z => hz ((iZ_eq ⟨by omega, by omega⟩ ⟨by omega, by omega⟩).mp (z.trans iZ_0.symm)))]
    have hca2 := carc_zr (a := a) hca
    have hra2 := rarc_zr (a := a) hra
    have hC : ok (m_MG_drop r_manner (nI n) (nI k) g_from g_to g_weight n_nodes n_aloneB n_pairA n_pairB n_link n_near n_has h_nodes h_count h_groups t_known (nI a)) (fun o => o.1 = nI (lft (zr wt a) k) ∧ o.2.1 = upd g_weight a 0 ∧ built r_manner n k fr to (zr wt a) o.2.2.1 o.2.2.2.1 o.2.2.2.2.1 o.2.2.2.2.2.1 o.2.2.2.2.2.2.1 o.2.2.2.2.2.2.2.1 o.2.2.2.2.2.2.2.2.1 ∧ o.2.2.2.2.2.2.2.2.2.1 = nI n ∧ o.2.2.2.2.2.2.2.2.2.2.1 = nI n ∧ (∀ i, i < n → o.2.2.2.2.2.2.2.2.2.2.2.1 i = nI i) ∧ o.2.2.2.2.2.2.2.2.2.2.2.2 = 0) := by
      unfold m_MG_drop
      rw [hha, Option.bind_some, nI_clamp (show a < 2 ^ 31 by omega)]
      exact ok_f n1_0 (ok_t hin (ok_bind (h_startAnew hn hk hca2) (fun r h => ok_bind (h_countArcs hk hca2) (fun r31 h31 => ok_some ⟨h31, rfl, h.1, h.2.1, h.2.2.1, h.2.2.2.1, h.2.2.2.2⟩))))
    have hR : ok (m_Mo_drop (nI n) (nI k) (nI (lft wt k)) r_isBest r_arePlateaus r_there r_hand (nI a)) (fun o => o.1 = nI (lft (zr wt a) k) ∧ o.2.1 = nI (lft (zr wt a) k) ∧ o.2.2.1 = 0 ∧ o.2.2.2.1 = 0 ∧ o.2.2.2.2.1 = upd r_there a (vp_nar .boolean (0 : Int32)) ∧ ∀ i, i < n → o.2.2.2.2.2 i = nI i) := by
      unfold m_Mo_drop
      rw [← lft_zr hz ha, nI_pred, nI_clamp (show a < 2 ^ 31 by omega), hth1]
      exact ok_f (nI_pos (by omega)) (ok_f (le_nI (by omega) (by omega) ha) (ok_t hin (ok_f n1_0 (ok_bind (h_alone hn) (fun r h => ok_some ⟨rfl, rfl, h.1, h.2.1, rfl, h.2.2⟩)))))
    obtain ⟨⟨rr, g_weight', n_nodes', n_aloneB', n_pairA', n_pairB', n_link', n_near', n_has', h_nodes', h_count', h_groups', t_known'⟩, c1, d1, d2, d3, d4, d5, d6, d7⟩ := hC
    obtain ⟨⟨r0, r_left', r_isBest', r_arePlateaus', r_there', r_hand'⟩, c2, g1, g2, g3, g4, g5, g6⟩ := hR
    dsimp only at d1 d2 d3 d4 d5 d6 d7 g1 g2 g3 g4 g5 g6
    subst d1 d2 g1 g2 g5
    exact ⟨_, _, _, _, _, _, _, _, _, _, _, _, _, _, _, _, _, _, c1, c2, r_manner, n, k, fr, to, zr wt a, x, y, fun i => i, ⟨hm, hn, hk, hx, hy, rfl, rfl, rfl, hca2, rfl, rfl, rfl, rfl, rfl, rfl, rfl, rfl, hra2⟩, d3, hnd_id d4 d5 (fun i hi => ⟨d6 i hi, g6 i hi⟩), hw, Or.inl g3, pCS_0 hpc d7, Or.inl g4⟩
