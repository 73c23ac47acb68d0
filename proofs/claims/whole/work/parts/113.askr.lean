/-! the calls that ask for the run -/
theorem map_getD (L : List Nat) (g : Nat → Int32) (x : Nat) : (L.map g).getD x (-1) = if x < L.length then g (L.getD x 0) else -1 := by
  by_cases h : x < L.length
  · rw [if_pos h, List.getD_eq_getElem?_getD, List.getElem?_map, List.getD_eq_getElem?_getD, List.getElem?_eq_getElem h]
    rfl
  · rw [if_neg h, List.getD_eq_getElem?_getD, List.getElem?_map, List.getElem?_eq_none (by omega)]
    rfl
section QE
variable {c : Nat} {xs : Nat → Int32} {x3 : Int32}
variable {D_kinds : Nat → Int32} {D_washes : Nat → Int32} {D_fuels : Nat → Int32} {D_isBroken : Nat → Int32} {D_units : Int32} {D_lengths : Nat → Int32} {D_wanted : Nat → Int32} {D_leaving : Int32} {D_trackOf : Nat → Int32} {D_parked : Int32} {D_changes : Int32} {P_packed : Nat → Int32} {P_row : Nat → Int32} {P_found : Int32} {P_narrowest : Int32} {P_knownAt : Int32} {R_leavers : Nat → Int32} {nR_steps : Nat} {R_steps : Nat → Int32} {R_leastShunts : Int32} {R_knownAt : Int32} {W_numbers : Nat → Int32} {W_trial : Nat → Int32} {W_bestOrder : Nat → Int32} {W_readyByNumber : Nat → Int32} {W_readyByBest : Nat → Int32} {W_soonestEnd : Int32} {W_knownUnits : Int32} {M_units : Int32} {M_kind : Nat → Int32} {M_wash : Nat → Int32} {M_fuel : Nat → Int32} {M_isBroken : Nat → Int32} {M_length : Nat → Int32} {M_wanted : Int32} {M_leaving : Nat → Int32} {M_parked : Int32} {M_stand : Nat → Int32} {M_many : Nat → Int32} {M_track : Nat → Int32} {M_stack : Nat → Int32} {M_depth : Nat → Int32} {M_canBe : Nat → Int32} {M_states : Int32} {M_told : Nat → Int64} {M_gone : Nat → Int32} {M_cost : Nat → Int32} {M_ways : Nat → Int32} {M_places : Nat → Int32} {M_now : Nat → Int32} {M_high : Nat → Int32} {M_runSize : Int32} {M_run : Nat → Int32} {M_runUnit : Nat → Int32} {M_order : Nat → Int32} {M_end : Nat → Int32} {M_bestOrder : Nat → Int32} {M_bestEnd : Nat → Int32} {S_positions : Nat → Int64} {S_metFrom : Nat → Int32} {S_stepTo : Nat → Int32} {S_slots : Nat → Int32} {S_met : Int32} {S_goal : Int32}
theorem q_shunts (hc : c < 1000) (h : Inv c D_kinds D_washes D_fuels D_isBroken D_units D_lengths D_wanted D_leaving D_trackOf D_parked D_changes P_packed P_row P_found P_narrowest P_knownAt R_leavers nR_steps R_steps R_leastShunts R_knownAt W_numbers W_trial W_bestOrder W_readyByNumber W_readyByBest W_soonestEnd W_knownUnits M_units M_kind M_wash M_fuel M_isBroken M_length M_wanted M_leaving M_parked M_stand M_many M_track M_stack M_depth M_canBe M_states M_told M_gone M_cost M_ways M_places M_now M_high M_runSize M_run M_runUnit M_order M_end M_bestOrder M_bestEnd S_positions S_metFrom S_stepTo S_slots S_met S_goal) : lw_shunts xs x3 (Inv (c + 1)) D_kinds D_washes D_fuels D_isBroken D_units D_lengths D_wanted D_leaving D_trackOf D_parked D_changes P_packed P_row P_found P_narrowest P_knownAt R_leavers nR_steps R_steps R_leastShunts R_knownAt W_numbers W_trial W_bestOrder W_readyByNumber W_readyByBest W_soonestEnd W_knownUnits M_units M_kind M_wash M_fuel M_isBroken M_length M_wanted M_leaving M_parked M_stand M_many M_track M_stack M_depth M_canBe M_states M_told M_gone M_cost M_ways M_places M_now M_high M_runSize M_run M_runUnit M_order M_end M_bestOrder M_bestEnd S_positions S_metFrom S_stepTo S_slots S_met S_goal := by
  obtain ⟨U, n, P, k, tr, ln, w, f, hk, e1, e2, e3, e4, e5, e6, e7, e8, e9, e10, e11, e12, e13, hco, hP, hR, hW⟩ := h
  subst e1 e2 e3 e4 e5 e6 e7 e8 e9 e10 e11 e12 e13
  have hco' := hco
  obtain ⟨c1, c2, c3, c4, c5, c6, c7, c8, c9, c10, c11, c12⟩ := hco'
  have hP5 : P ≤ 5 := by omega
  have c7' : ∀ u, u < P → ∃ k, k < 4 ∧ D_kinds u = nI k := fun u hu => c7 u (by omega)
  unfold lw_shunts wp_X6_shunts wp_X7_shunts
  refine t_rrefresh c2 hP5 c4 c5 c7' c8 c9 hR.2 (fun lv nst st least ps mf sp sls met goal hok hnst => ?_)
  rcases (show _ ∨ _ from hok) with ⟨z1, z2⟩ | ⟨ws, y1, y2, y3, y4, y5, y6, y7⟩
  · exact t_findNo c2 hP5 c4 c9 c6 z2 (fun _ _ _ _ _ _ _ _ _ _ => ⟨fun q => absurd rfl q, fun _ => ⟨z1, ⟨U, n, P, k, tr, ln, w, f, by omega, rfl, rfl, rfl, rfl, rfl, rfl, rfl, rfl, rfl, rfl, rfl, rfl, rfl, hco, hP, ⟨kno_k k, fun _ => hok⟩, hW⟩⟩⟩)
  · exact t_findYes c2 hP5 c4 c9 c6 y1 (fun h90 _ _ _ _ _ _ _ _ run' ru' hr => ⟨fun _ => ⟨y6, ⟨U, n, P, k, tr, ln, w, f, by omega, rfl, rfl, rfl, rfl, rfl, rfl, rfl, rfl, rfl, rfl, rfl, rfl, rfl, hco, hP, ⟨kno_k k, fun _ => hok⟩, hW⟩⟩, fun q => absurd ((i_eq (b := 100000) (by omega) (by omega)).mp q) (by omega)⟩)
theorem q_step (hc : c < 1000) (h : Inv c D_kinds D_washes D_fuels D_isBroken D_units D_lengths D_wanted D_leaving D_trackOf D_parked D_changes P_packed P_row P_found P_narrowest P_knownAt R_leavers nR_steps R_steps R_leastShunts R_knownAt W_numbers W_trial W_bestOrder W_readyByNumber W_readyByBest W_soonestEnd W_knownUnits M_units M_kind M_wash M_fuel M_isBroken M_length M_wanted M_leaving M_parked M_stand M_many M_track M_stack M_depth M_canBe M_states M_told M_gone M_cost M_ways M_places M_now M_high M_runSize M_run M_runUnit M_order M_end M_bestOrder M_bestEnd S_positions S_metFrom S_stepTo S_slots S_met S_goal) : lw_step xs x3 (Inv (c + 1)) D_kinds D_washes D_fuels D_isBroken D_units D_lengths D_wanted D_leaving D_trackOf D_parked D_changes P_packed P_row P_found P_narrowest P_knownAt R_leavers nR_steps R_steps R_leastShunts R_knownAt W_numbers W_trial W_bestOrder W_readyByNumber W_readyByBest W_soonestEnd W_knownUnits M_units M_kind M_wash M_fuel M_isBroken M_length M_wanted M_leaving M_parked M_stand M_many M_track M_stack M_depth M_canBe M_states M_told M_gone M_cost M_ways M_places M_now M_high M_runSize M_run M_runUnit M_order M_end M_bestOrder M_bestEnd S_positions S_metFrom S_stepTo S_slots S_met S_goal := by
  obtain ⟨U, n, P, k, tr, ln, w, f, hk, e1, e2, e3, e4, e5, e6, e7, e8, e9, e10, e11, e12, e13, hco, hP, hR, hW⟩ := h
  subst e1 e2 e3 e4 e5 e6 e7 e8 e9 e10 e11 e12 e13
  have hco' := hco
  obtain ⟨c1, c2, c3, c4, c5, c6, c7, c8, c9, c10, c11, c12⟩ := hco'
  have hP5 : P ≤ 5 := by omega
  have c7' : ∀ u, u < P → ∃ k, k < 4 ∧ D_kinds u = nI k := fun u hu => c7 u (by omega)
  unfold lw_step wp_X6_step wp_X7_step
  generalize xs (x3 + 1).toNatClampNeg = a
  by_cases hq : 0 ≤ a
  · obtain ⟨i, hi, rfl⟩ := nI_of (Int32.not_lt.mpr hq)
    refine ⟨fun _ => ?_, fun q => absurd hq q⟩
    refine t_rrefresh c2 hP5 c4 c5 c7' c8 c9 hR.2 (fun lv nst st least ps mf sp sls met goal hok hnst => ?_)
    unfold wp_X3_stepNumber
    rcases (show _ ∨ _ from hok) with ⟨z1, z2⟩ | ⟨ws, y1, y2, y3, y4, y5, y6, y7⟩
    · refine ⟨fun _ => ?_, fun q => absurd z1 q⟩
      refine ⟨fun _ => ?_, fun q => absurd hq q⟩
      exact t_findNo c2 hP5 c4 c9 c6 z2 (fun _ _ _ _ _ _ _ _ _ _ => ⟨fun _ => ⟨rfl, ⟨U, n, P, k, tr, ln, w, f, by omega, rfl, rfl, rfl, rfl, rfl, rfl, rfl, rfl, rfl, rfl, rfl, rfl, rfl, hco, hP, ⟨kno_k k, fun _ => hok⟩, hW⟩⟩, fun q => absurd hq q⟩)
    · refine ⟨fun q => absurd (y6 ▸ q) (nI_m1 (by omega)), fun _ => ⟨fun q => absurd q (nI_pos (by omega)), fun _ => ?_⟩⟩
      subst y3
      refine ⟨fun q => ?_, fun q => ?_⟩
      · refine ⟨fun _ => ?_, fun q => absurd hq q⟩
        exact t_findYes c2 hP5 c4 c9 c6 y1 (fun h90 _ _ _ _ _ _ _ _ run' ru' hr => ⟨fun _ => ⟨rfl, ⟨U, n, P, k, tr, ln, w, f, by omega, rfl, rfl, rfl, rfl, rfl, rfl, rfl, rfl, rfl, rfl, rfl, rfl, rfl, hco, hP, ⟨kno_k k, fun _ => hok⟩, hW⟩⟩, fun q2 => absurd q q2⟩)
      · have hlt : i < ws.length := by
          rcases Nat.lt_or_ge i ws.length with z | z
          · exact z
          · exact absurd ((i_le (by omega) (by omega)).mpr z) q
        refine ⟨i_in hlt (by omega), ?_⟩
        refine ⟨fun _ => ?_, fun q => absurd hq q⟩
        refine t_findYes c2 hP5 c4 c9 c6 y1 (fun h90 _ _ _ _ _ _ _ _ run' ru' hr => ⟨fun q2 => absurd q2 q, fun _ => ⟨i_in (by omega) (by omega), ?_⟩⟩)
        rw [i_cl (by omega), y4 i hlt, (hr i hlt).1]
        exact ⟨rfl, ⟨U, n, P, k, tr, ln, w, f, by omega, rfl, rfl, rfl, rfl, rfl, rfl, rfl, rfl, rfl, rfl, rfl, rfl, rfl, hco, hP, ⟨kno_k k, fun _ => hok⟩, hW⟩⟩
  · refine ⟨fun q => absurd q hq, fun _ => ?_⟩
    exact ⟨fun q => absurd q hq, fun _ => ⟨rfl, ⟨U, n, P, k, tr, ln, w, f, by omega, rfl, rfl, rfl, rfl, rfl, rfl, rfl, rfl, rfl, rfl, rfl, rfl, rfl, hco, hP, hR, hW⟩⟩⟩
theorem q_leaves (hc : c < 1000) (h : Inv c D_kinds D_washes D_fuels D_isBroken D_units D_lengths D_wanted D_leaving D_trackOf D_parked D_changes P_packed P_row P_found P_narrowest P_knownAt R_leavers nR_steps R_steps R_leastShunts R_knownAt W_numbers W_trial W_bestOrder W_readyByNumber W_readyByBest W_soonestEnd W_knownUnits M_units M_kind M_wash M_fuel M_isBroken M_length M_wanted M_leaving M_parked M_stand M_many M_track M_stack M_depth M_canBe M_states M_told M_gone M_cost M_ways M_places M_now M_high M_runSize M_run M_runUnit M_order M_end M_bestOrder M_bestEnd S_positions S_metFrom S_stepTo S_slots S_met S_goal) : lw_leaves xs x3 (Inv (c + 1)) D_kinds D_washes D_fuels D_isBroken D_units D_lengths D_wanted D_leaving D_trackOf D_parked D_changes P_packed P_row P_found P_narrowest P_knownAt R_leavers nR_steps R_steps R_leastShunts R_knownAt W_numbers W_trial W_bestOrder W_readyByNumber W_readyByBest W_soonestEnd W_knownUnits M_units M_kind M_wash M_fuel M_isBroken M_length M_wanted M_leaving M_parked M_stand M_many M_track M_stack M_depth M_canBe M_states M_told M_gone M_cost M_ways M_places M_now M_high M_runSize M_run M_runUnit M_order M_end M_bestOrder M_bestEnd S_positions S_metFrom S_stepTo S_slots S_met S_goal := by
  obtain ⟨U, n, P, k, tr, ln, w, f, hk, e1, e2, e3, e4, e5, e6, e7, e8, e9, e10, e11, e12, e13, hco, hP, hR, hW⟩ := h
  subst e1 e2 e3 e4 e5 e6 e7 e8 e9 e10 e11 e12 e13
  have hco' := hco
  obtain ⟨c1, c2, c3, c4, c5, c6, c7, c8, c9, c10, c11, c12⟩ := hco'
  have hP5 : P ≤ 5 := by omega
  have c7' : ∀ u, u < P → ∃ k, k < 4 ∧ D_kinds u = nI k := fun u hu => c7 u (by omega)
  unfold lw_leaves wp_X6_leaves wp_X7_leaves
  generalize xs (x3 + 1).toNatClampNeg = a
  by_cases hq : 0 ≤ a
  · obtain ⟨i, hi, rfl⟩ := nI_of (Int32.not_lt.mpr hq)
    refine ⟨fun _ => ?_, fun q => absurd hq q⟩
    refine t_rrefresh c2 hP5 c4 c5 c7' c8 c9 hR.2 (fun lv nst st least ps mf sp sls met goal hok hnst => ?_)
    unfold wp_X3_leaver
    rcases (show _ ∨ _ from hok) with ⟨z1, z2⟩ | ⟨ws, y1, y2, y3, y4, y5, y6, y7⟩
    · refine ⟨fun _ => ?_, fun q => absurd z1 q⟩
      refine ⟨fun _ => ?_, fun q => absurd hq q⟩
      refine t_findNo c2 hP5 c4 c9 c6 z2 (fun _ _ _ _ _ _ _ _ _ _ => ⟨1, ?_⟩)
      show Y_X7_leaves_16 _ _ _ _ _ _ _ _ _ _ _ _ _ _ _ _ _ _ _ _ _ _ _
      unfold Y_X7_leaves_16
      exact ⟨fun _ => ⟨rfl, ⟨U, n, P, k, tr, ln, w, f, by omega, rfl, rfl, rfl, rfl, rfl, rfl, rfl, rfl, rfl, rfl, rfl, rfl, rfl, hco, hP, ⟨kno_k k, fun _ => hok⟩, hW⟩⟩, fun q => absurd (by decide) q⟩
    · obtain ⟨zf, hzf, hzn⟩ := y1.1
      have hL := lvs_len _ _ _ hzf
      have h0 : (yd (fun u => u + 1) P tr).1 = 0 := rfl
      obtain ⟨ff1, ff2⟩ := rus_filt ws _ zf (fun u hu => (yd_5 hP5 u hu).2) hzf
      refine ⟨fun q => absurd (y6 ▸ q) (nI_m1 (by omega)), fun _ => ⟨fun q => absurd q (nI_pos (by omega)), fun _ => ?_⟩⟩
      refine ⟨fun q => ?_, fun q => ?_⟩
      · have hge := (i_le (by omega) (by omega)).mp q
        refine ⟨fun _ => ?_, fun q => absurd hq q⟩
        refine t_findYes c2 hP5 c4 c9 c6 y1 (fun h90 _ _ _ _ _ _ _ _ run' ru' hr => ⟨_, t_leavesM h90 (rus (svu D_kinds D_isBroken D_wanted) ln n (yd (fun u => u + 1) P tr) ws) 0 i (by omega) (by rw [rus_len]; omega) (fun j hj => ?_) ?_⟩)
        · rw [Nat.zero_add]
          rw [rus_len] at hj
          exact (hr j hj).2
        · rw [ff1, map_getD, if_neg (by omega)]
          exact ⟨rfl, ⟨U, n, P, k, tr, ln, w, f, by omega, rfl, rfl, rfl, rfl, rfl, rfl, rfl, rfl, rfl, rfl, rfl, rfl, rfl, hco, hP, ⟨kno_k k, fun _ => hok⟩, hW⟩⟩
      · have hlt : i < n := by
          rcases Nat.lt_or_ge i n with z | z
          · exact z
          · exact absurd ((i_le (by omega) (by omega)).mpr z) q
        refine ⟨i_in (by omega) (by omega), ?_⟩
        refine ⟨fun _ => ?_, fun q => absurd hq q⟩
        refine t_findYes c2 hP5 c4 c9 c6 y1 (fun h90 _ _ _ _ _ _ _ _ run' ru' hr => ⟨_, t_leavesM h90 (rus (svu D_kinds D_isBroken D_wanted) ln n (yd (fun u => u + 1) P tr) ws) 0 i (by omega) (by rw [rus_len]; omega) (fun j hj => ?_) ?_⟩)
        · rw [Nat.zero_add]
          rw [rus_len] at hj
          exact (hr j hj).2
        · rw [ff1, map_getD, if_pos (by omega), i_cl (by omega), y7 i hlt]
          exact ⟨rfl, ⟨U, n, P, k, tr, ln, w, f, by omega, rfl, rfl, rfl, rfl, rfl, rfl, rfl, rfl, rfl, rfl, rfl, rfl, rfl, hco, hP, ⟨kno_k k, fun _ => hok⟩, hW⟩⟩
  · refine ⟨fun q => absurd q hq, fun _ => ?_⟩
    exact ⟨fun q => absurd q hq, fun _ => ⟨rfl, ⟨U, n, P, k, tr, ln, w, f, by omega, rfl, rfl, rfl, rfl, rfl, rfl, rfl, rfl, rfl, rfl, rfl, rfl, rfl, hco, hP, hR, hW⟩⟩⟩
theorem q_late (hc : c < 1000) (h : Inv c D_kinds D_washes D_fuels D_isBroken D_units D_lengths D_wanted D_leaving D_trackOf D_parked D_changes P_packed P_row P_found P_narrowest P_knownAt R_leavers nR_steps R_steps R_leastShunts R_knownAt W_numbers W_trial W_bestOrder W_readyByNumber W_readyByBest W_soonestEnd W_knownUnits M_units M_kind M_wash M_fuel M_isBroken M_length M_wanted M_leaving M_parked M_stand M_many M_track M_stack M_depth M_canBe M_states M_told M_gone M_cost M_ways M_places M_now M_high M_runSize M_run M_runUnit M_order M_end M_bestOrder M_bestEnd S_positions S_metFrom S_stepTo S_slots S_met S_goal) : lw_late xs x3 (Inv (c + 1)) D_kinds D_washes D_fuels D_isBroken D_units D_lengths D_wanted D_leaving D_trackOf D_parked D_changes P_packed P_row P_found P_narrowest P_knownAt R_leavers nR_steps R_steps R_leastShunts R_knownAt W_numbers W_trial W_bestOrder W_readyByNumber W_readyByBest W_soonestEnd W_knownUnits M_units M_kind M_wash M_fuel M_isBroken M_length M_wanted M_leaving M_parked M_stand M_many M_track M_stack M_depth M_canBe M_states M_told M_gone M_cost M_ways M_places M_now M_high M_runSize M_run M_runUnit M_order M_end M_bestOrder M_bestEnd S_positions S_metFrom S_stepTo S_slots S_met S_goal := by
  obtain ⟨U, n, P, k, tr, ln, w, f, hk, e1, e2, e3, e4, e5, e6, e7, e8, e9, e10, e11, e12, e13, hco, hP, hR, hW⟩ := h
  subst e1 e2 e3 e4 e5 e6 e7 e8 e9 e10 e11 e12 e13
  have hco' := hco
  obtain ⟨c1, c2, c3, c4, c5, c6, c7, c8, c9, c10, c11, c12⟩ := hco'
  have hP5 : P ≤ 5 := by omega
  have c7' : ∀ u, u < P → ∃ k, k < 4 ∧ D_kinds u = nI k := fun u hu => c7 u (by omega)
  obtain ⟨w1, j, w2, w3, w4⟩ := hW
  subst w3
  have hW : CW U w f W_numbers W_bestOrder W_readyByNumber W_readyByBest W_soonestEnd (nI j) := ⟨w1, j, w2, rfl, w4⟩
  obtain ⟨-, hs2, -, -⟩ := wB_spec c1 (fun i h => (c10 i h).2) (fun i h => (c11 i h).2)
  obtain ⟨p1, p2, p3⟩ := ppU_all hs2
  unfold lw_late wp_X6_late wp_X7_late
  generalize xs (x3 + 1).toNatClampNeg = a
  generalize xs (x3 + 2).toNatClampNeg = b
  have h10 : ¬ (1 : Int32) = 0 := by decide
  rcases cls 2 (by omega) a with ⟨v, hv, rfl⟩ | ha
  · refine ⟨fun q => absurd q (nI_pos (by omega)), fun _ => ⟨fun q => absurd ((i_lt (a := 1) (by omega) (by omega)).mp q) (by omega), fun _ => ?_⟩⟩
    rcases cls 1001 (by omega) b with ⟨d, hd, rfl⟩ | hb
    · refine ⟨fun q => absurd q (nI_pos (by omega)), fun _ => ⟨fun _ => ?_, fun q => absurd ((i_le (b := 1000) (by omega) (by omega)).mpr (by omega)) q⟩⟩
      refine t_rrefresh c2 hP5 c4 c5 c7' c8 c9 hR.2 (fun lv nst st least ps mf sp sls met goal hok hnst => ?_)
      rcases (show _ ∨ _ from hok) with ⟨z1, z2⟩ | ⟨ws, y1, y2, y3, y4, y5, y6, y7⟩
      · refine ⟨fun q => absurd z1 q, fun _ => ?_⟩
        refine t_inY (hi := 1) (by omega) (by omega) ⟨fun q => absurd q h10, fun _ => ?_⟩
        refine t_inY (hi := 1000) (by omega) (by omega) ⟨fun _ => ?_, fun q => absurd q h10⟩
        exact t_findNo c2 hP5 c4 c9 c6 z2 (fun _ _ _ _ _ _ _ _ _ _ => ⟨fun q => absurd rfl q, fun _ => ⟨rfl, ⟨U, n, P, k, tr, ln, w, f, by omega, rfl, rfl, rfl, rfl, rfl, rfl, rfl, rfl, rfl, rfl, rfl, rfl, rfl, hco, hP, ⟨kno_k k, fun _ => hok⟩, hW⟩⟩⟩)
      · have hle : ¬ least = -1 := by rw [y6]; exact nI_m1 (by omega)
        obtain ⟨zf, hzf, hzn⟩ := y1.1
        have hL := lvs_len _ _ _ hzf
        have h0 : (yd (fun u => u + 1) P tr).1 = 0 := rfl
        obtain ⟨ff1, ff2⟩ := rus_filt ws _ zf (fun u hu => (yd_5 hP5 u hu).2) hzf
        have hlU : ∀ l ∈ lvs (svu D_kinds D_isBroken D_wanted) ln n (yd (fun u => u + 1) P tr) ws, l - 1 < U := fun l hl => by
          obtain ⟨x, hx, e⟩ := yd_mem (ff2 l hl)
          have e' : l = x + 1 := e
          omega
        refine ⟨fun _ => ?_, fun q => absurd q hle⟩
        refine t_refresh c1 c10 c11 (by omega) w1 w4 (fun t' b' rn' rb' r1 r2 r3 => ?_)
        have hlv : ∀ x, x < (lvs (svu D_kinds D_isBroken D_wanted) ln n (yd (fun u => u + 1) P tr) ws).length → lv (0 + x) = nI ((lvs (svu D_kinds D_isBroken D_wanted) ln n (yd (fun u => u + 1) P tr) ws).getD x 0 - 1) := fun x hx => by
          rw [Nat.zero_add]
          exact y7 x (by omega)
        refine ⟨fun q => ?_, fun q => ?_⟩
        · -- by the best order
          have hrd : ∀ u, u < U → rb' u = nI (rb' u).toNatClampNeg ∧ (rb' u).toNatClampNeg < 100000 := fun u hu => by
            obtain ⟨p, hp, e⟩ := all_in p1 p3 p2 hu
            have hr := rdy_lt (fun i h => (c10 i h).2) (fun i h => (c11 i h).2) p1 (by omega) p
            rw [← e, r3 p hp, i_cl (by omega)]
            exact ⟨rfl, hr⟩
          refine ⟨_, t_lateBits (rd := fun u => (rb' u).toNatClampNeg) c2 c1 (by omega) hle hrd (lvs (svu D_kinds D_isBroken D_wanted) ln n (yd (fun u => u + 1) P tr) ws) 0 0 (by omega) hlv hlU ?_⟩
          refine t_inY (hi := 1) (by omega) (by omega) ⟨fun q => absurd q h10, fun _ => ?_⟩
          refine t_inY (hi := 1000) (by omega) (by omega) ⟨fun _ => ?_, fun q => absurd q h10⟩
          refine t_findYes c2 hP5 c4 c9 c6 y1 (fun h90 _ _ _ _ _ _ _ _ run' ru' hr => ⟨fun _ => ⟨fun _ => ?_, fun q2 => absurd q2 q⟩, fun q2 => absurd ((i_eq (b := 100000) (by omega) (by omega)).mp q2) (by omega)⟩)
          refine t_best c1 c10 c11 (fun o' e' b'' be' h1 h2 => ?_)
          unfold B_X7_late_56
          refine ⟨_, t_late64 (rd := fun u => (rb' u).toNatClampNeg) (oa := b'') (ea := be') c1 (by omega) p3 p1 p2 (Or.inr ⟨q, rfl, rfl⟩) h1 (fun p hp => ?_) h90 (rus (svu D_kinds D_isBroken D_wanted) ln n (yd (fun u => u + 1) P tr) ws) (lvs (svu D_kinds D_isBroken D_wanted) ln n (yd (fun u => u + 1) P tr) ws) 0 0 0 ff1 hlU (by rw [rus_len]; omega) (by omega) (fun x hx => ?_) ?_⟩
          · have hr := rdy_lt (fun i h => (c10 i h).2) (fun i h => (c11 i h).2) p1 (by omega) p
            show be' p = nI (rb' _).toNatClampNeg ∧ (rb' _).toNatClampNeg < 100000
            rw [r3 p hp, i_cl (by omega), h2 p (by omega)]
            exact ⟨rfl, hr⟩
          · rw [Nat.zero_add]
            rw [rus_len] at hx
            exact (hr x hx).2
          · exact ⟨rfl, ⟨U, n, P, k, tr, ln, w, f, by omega, rfl, rfl, rfl, rfl, rfl, rfl, rfl, rfl, rfl, rfl, rfl, rfl, rfl, hco, hP, ⟨kno_k k, fun _ => hok⟩, ⟨w1, U, Nat.le_refl _, rfl, fun _ => ⟨rfl, r1, r2, r3⟩⟩⟩⟩
        · -- by the numbers
          have hs : ∀ u ∈ List.range U, u < U := fun u hu => List.mem_range.mp hu
          have hlt := rdy_lt (fun i h => (c10 i h).2) (fun i h => (c11 i h).2) hs (by rw [List.length_range]; exact c1)
          have hrd : ∀ u, u < U → rn' u = nI (rdy w f (List.range U) u) ∧ rdy w f (List.range U) u < 100000 := fun u hu => ⟨r2 u hu, hlt u⟩
          refine ⟨_, t_lateBits (rd := rdy w f (List.range U)) c2 c1 (by omega) hle hrd (lvs (svu D_kinds D_isBroken D_wanted) ln n (yd (fun u => u + 1) P tr) ws) 0 0 (by omega) hlv hlU ?_⟩
          refine t_inY (hi := 1) (by omega) (by omega) ⟨fun q => absurd q h10, fun _ => ?_⟩
          refine t_inY (hi := 1000) (by omega) (by omega) ⟨fun _ => ?_, fun q => absurd q h10⟩
          refine t_findYes c2 hP5 c4 c9 c6 y1 (fun h90 _ _ _ _ _ _ _ _ run' ru' hr => ⟨fun _ => ⟨fun q2 => absurd q q2, fun _ => ?_⟩, fun q2 => absurd ((i_eq (b := 100000) (by omega) (by omega)).mp q2) (by omega)⟩)
          refine t_numbers c1 (fun o' ho => t_ends c1 c10 c11 (s := List.range U) hs List.length_range ho (fun en' he => ?_))
          unfold B_X7_late_56
          refine ⟨_, t_late64 (rd := rdy w f (List.range U)) (oa := o') (ea := en') c1 (by omega) List.length_range hs List.nodup_range (Or.inl ⟨q, rfl, rfl⟩) ho (fun p hp => ?_) h90 (rus (svu D_kinds D_isBroken D_wanted) ln n (yd (fun u => u + 1) P tr) ws) (lvs (svu D_kinds D_isBroken D_wanted) ln n (yd (fun u => u + 1) P tr) ws) 0 0 0 ff1 hlU (by rw [rus_len]; omega) (by omega) (fun x hx => ?_) ?_⟩
          · rw [List.getElem_range, he p (by rw [List.length_range] at hp; exact hp)]
            exact ⟨rfl, hlt p⟩
          · rw [Nat.zero_add]
            rw [rus_len] at hx
            exact (hr x hx).2
          · exact ⟨rfl, ⟨U, n, P, k, tr, ln, w, f, by omega, rfl, rfl, rfl, rfl, rfl, rfl, rfl, rfl, rfl, rfl, rfl, rfl, rfl, hco, hP, ⟨kno_k k, fun _ => hok⟩, ⟨w1, U, Nat.le_refl _, rfl, fun _ => ⟨rfl, r1, r2, r3⟩⟩⟩⟩
    · refine ⟨fun _ => ?_, fun q1 => ⟨fun q2 => ?_, fun _ => ?_⟩⟩
      · refine t_inY (hi := 1) (by omega) (by omega) ⟨fun q => absurd q h10, fun _ => ?_⟩
        exact t_inN (hi := 1000) (by omega) hb ⟨fun q => absurd rfl q, fun _ => ⟨rfl, ⟨U, n, P, k, tr, ln, w, f, by omega, rfl, rfl, rfl, rfl, rfl, rfl, rfl, rfl, rfl, rfl, rfl, rfl, rfl, hco, hP, hR, hW⟩⟩⟩
      · exfalso
        rcases hb with z | z
        · exact absurd z q1
        · exact absurd (Int32.le_trans z q2) (by decide)
      · refine t_inY (hi := 1) (by omega) (by omega) ⟨fun q => absurd q h10, fun _ => ?_⟩
        exact t_inN (hi := 1000) (by omega) hb ⟨fun q => absurd rfl q, fun _ => ⟨rfl, ⟨U, n, P, k, tr, ln, w, f, by omega, rfl, rfl, rfl, rfl, rfl, rfl, rfl, rfl, rfl, rfl, rfl, rfl, rfl, hco, hP, hR, hW⟩⟩⟩
  · refine ⟨fun _ => ?_, fun q1 => ⟨fun _ => ?_, fun q2 => ?_⟩⟩
    · exact t_inN (hi := 1) (by omega) ha ⟨fun _ => ⟨rfl, ⟨U, n, P, k, tr, ln, w, f, by omega, rfl, rfl, rfl, rfl, rfl, rfl, rfl, rfl, rfl, rfl, rfl, rfl, rfl, hco, hP, hR, hW⟩⟩, fun q => absurd rfl q⟩
    · exact t_inN (hi := 1) (by omega) ha ⟨fun _ => ⟨rfl, ⟨U, n, P, k, tr, ln, w, f, by omega, rfl, rfl, rfl, rfl, rfl, rfl, rfl, rfl, rfl, rfl, rfl, rfl, rfl, hco, hP, hR, hW⟩⟩, fun q => absurd rfl q⟩
    · exfalso
      obtain ⟨x, hx, e⟩ := i_of 1 (by omega) q1 q2
      exact absurd e (cls_no (by omega) ha (by omega))
end QE
