/-! the calls that ask for parkings -/
section QC
variable {c : Nat} {xs : Nat → Int32} {x3 : Int32}
variable {D_kinds : Nat → Int32} {D_washes : Nat → Int32} {D_fuels : Nat → Int32} {D_isBroken : Nat → Int32} {D_units : Int32} {D_lengths : Nat → Int32} {D_wanted : Nat → Int32} {D_leaving : Int32} {D_trackOf : Nat → Int32} {D_parked : Int32} {D_changes : Int32} {P_packed : Nat → Int32} {P_row : Nat → Int32} {P_found : Int32} {P_narrowest : Int32} {P_knownAt : Int32} {R_leavers : Nat → Int32} {nR_steps : Nat} {R_steps : Nat → Int32} {R_leastShunts : Int32} {R_knownAt : Int32} {W_numbers : Nat → Int32} {W_trial : Nat → Int32} {W_bestOrder : Nat → Int32} {W_readyByNumber : Nat → Int32} {W_readyByBest : Nat → Int32} {W_soonestEnd : Int32} {W_knownUnits : Int32} {M_units : Int32} {M_kind : Nat → Int32} {M_wash : Nat → Int32} {M_fuel : Nat → Int32} {M_isBroken : Nat → Int32} {M_length : Nat → Int32} {M_wanted : Int32} {M_leaving : Nat → Int32} {M_parked : Int32} {M_stand : Nat → Int32} {M_many : Nat → Int32} {M_track : Nat → Int32} {M_stack : Nat → Int32} {M_depth : Nat → Int32} {M_canBe : Nat → Int32} {M_states : Int32} {M_told : Nat → Int64} {M_gone : Nat → Int32} {M_cost : Nat → Int32} {M_ways : Nat → Int32} {M_places : Nat → Int32} {M_now : Nat → Int32} {M_high : Nat → Int32} {M_runSize : Int32} {M_run : Nat → Int32} {M_runUnit : Nat → Int32} {M_order : Nat → Int32} {M_end : Nat → Int32} {M_bestOrder : Nat → Int32} {M_bestEnd : Nat → Int32} {S_positions : Nat → Int64} {S_metFrom : Nat → Int32} {S_stepTo : Nat → Int32} {S_slots : Nat → Int32} {S_met : Int32} {S_goal : Int32}
theorem q_clean (hc : c < 1000) (h : Inv c D_kinds D_washes D_fuels D_isBroken D_units D_lengths D_wanted D_leaving D_trackOf D_parked D_changes P_packed P_row P_found P_narrowest P_knownAt R_leavers nR_steps R_steps R_leastShunts R_knownAt W_numbers W_trial W_bestOrder W_readyByNumber W_readyByBest W_soonestEnd W_knownUnits M_units M_kind M_wash M_fuel M_isBroken M_length M_wanted M_leaving M_parked M_stand M_many M_track M_stack M_depth M_canBe M_states M_told M_gone M_cost M_ways M_places M_now M_high M_runSize M_run M_runUnit M_order M_end M_bestOrder M_bestEnd S_positions S_metFrom S_stepTo S_slots S_met S_goal) : lw_clean xs x3 (Inv (c + 1)) D_kinds D_washes D_fuels D_isBroken D_units D_lengths D_wanted D_leaving D_trackOf D_parked D_changes P_packed P_row P_found P_narrowest P_knownAt R_leavers nR_steps R_steps R_leastShunts R_knownAt W_numbers W_trial W_bestOrder W_readyByNumber W_readyByBest W_soonestEnd W_knownUnits M_units M_kind M_wash M_fuel M_isBroken M_length M_wanted M_leaving M_parked M_stand M_many M_track M_stack M_depth M_canBe M_states M_told M_gone M_cost M_ways M_places M_now M_high M_runSize M_run M_runUnit M_order M_end M_bestOrder M_bestEnd S_positions S_metFrom S_stepTo S_slots S_met S_goal := by
  obtain ⟨U, n, P, k, tr, ln, w, f, hk, e1, e2, e3, e4, e5, e6, e7, e8, e9, e10, e11, e12, e13, hco, hP, hR, hW⟩ := h
  subst e1 e2 e3 e4 e5 e6 e7 e8 e9 e10 e11 e12 e13
  have hco' := hco
  obtain ⟨c1, c2, c3, c4, c5, c6, c7, c8, c9, c10, c11, c12⟩ := hco'
  unfold lw_clean wp_X6_clean
  refine t_prefresh c1 c2 c9 hP.2 (fun pk' row' f' n' hok => ?_)
  exact t_cleanM c1 c2 c9 (fun _ _ _ _ => ⟨hok.1, ⟨U, n, P, k, tr, ln, w, f, by omega, rfl, rfl, rfl, rfl, rfl, rfl, rfl, rfl, rfl, rfl, rfl, rfl, rfl, hco, ⟨kno_k k, fun _ => hok⟩, hR, hW⟩⟩)
theorem q_narrow (hc : c < 1000) (h : Inv c D_kinds D_washes D_fuels D_isBroken D_units D_lengths D_wanted D_leaving D_trackOf D_parked D_changes P_packed P_row P_found P_narrowest P_knownAt R_leavers nR_steps R_steps R_leastShunts R_knownAt W_numbers W_trial W_bestOrder W_readyByNumber W_readyByBest W_soonestEnd W_knownUnits M_units M_kind M_wash M_fuel M_isBroken M_length M_wanted M_leaving M_parked M_stand M_many M_track M_stack M_depth M_canBe M_states M_told M_gone M_cost M_ways M_places M_now M_high M_runSize M_run M_runUnit M_order M_end M_bestOrder M_bestEnd S_positions S_metFrom S_stepTo S_slots S_met S_goal) : lw_narrow xs x3 (Inv (c + 1)) D_kinds D_washes D_fuels D_isBroken D_units D_lengths D_wanted D_leaving D_trackOf D_parked D_changes P_packed P_row P_found P_narrowest P_knownAt R_leavers nR_steps R_steps R_leastShunts R_knownAt W_numbers W_trial W_bestOrder W_readyByNumber W_readyByBest W_soonestEnd W_knownUnits M_units M_kind M_wash M_fuel M_isBroken M_length M_wanted M_leaving M_parked M_stand M_many M_track M_stack M_depth M_canBe M_states M_told M_gone M_cost M_ways M_places M_now M_high M_runSize M_run M_runUnit M_order M_end M_bestOrder M_bestEnd S_positions S_metFrom S_stepTo S_slots S_met S_goal := by
  obtain ⟨U, n, P, k, tr, ln, w, f, hk, e1, e2, e3, e4, e5, e6, e7, e8, e9, e10, e11, e12, e13, hco, hP, hR, hW⟩ := h
  subst e1 e2 e3 e4 e5 e6 e7 e8 e9 e10 e11 e12 e13
  have hco' := hco
  obtain ⟨c1, c2, c3, c4, c5, c6, c7, c8, c9, c10, c11, c12⟩ := hco'
  unfold lw_narrow wp_X6_narrow
  refine t_prefresh c1 c2 c9 hP.2 (fun pk' row' f' n' hok => ?_)
  exact t_narrowM c1 c2 c9 (fun _ _ _ _ => ⟨hok.2.1, ⟨U, n, P, k, tr, ln, w, f, by omega, rfl, rfl, rfl, rfl, rfl, rfl, rfl, rfl, rfl, rfl, rfl, rfl, rfl, hco, ⟨kno_k k, fun _ => hok⟩, hR, hW⟩⟩)
theorem q_parking (hc : c < 1000) (h : Inv c D_kinds D_washes D_fuels D_isBroken D_units D_lengths D_wanted D_leaving D_trackOf D_parked D_changes P_packed P_row P_found P_narrowest P_knownAt R_leavers nR_steps R_steps R_leastShunts R_knownAt W_numbers W_trial W_bestOrder W_readyByNumber W_readyByBest W_soonestEnd W_knownUnits M_units M_kind M_wash M_fuel M_isBroken M_length M_wanted M_leaving M_parked M_stand M_many M_track M_stack M_depth M_canBe M_states M_told M_gone M_cost M_ways M_places M_now M_high M_runSize M_run M_runUnit M_order M_end M_bestOrder M_bestEnd S_positions S_metFrom S_stepTo S_slots S_met S_goal) : lw_parking xs x3 (Inv (c + 1)) D_kinds D_washes D_fuels D_isBroken D_units D_lengths D_wanted D_leaving D_trackOf D_parked D_changes P_packed P_row P_found P_narrowest P_knownAt R_leavers nR_steps R_steps R_leastShunts R_knownAt W_numbers W_trial W_bestOrder W_readyByNumber W_readyByBest W_soonestEnd W_knownUnits M_units M_kind M_wash M_fuel M_isBroken M_length M_wanted M_leaving M_parked M_stand M_many M_track M_stack M_depth M_canBe M_states M_told M_gone M_cost M_ways M_places M_now M_high M_runSize M_run M_runUnit M_order M_end M_bestOrder M_bestEnd S_positions S_metFrom S_stepTo S_slots S_met S_goal := by
  obtain ⟨U, n, P, k, tr, ln, w, f, hk, e1, e2, e3, e4, e5, e6, e7, e8, e9, e10, e11, e12, e13, hco, hP, hR, hW⟩ := h
  subst e1 e2 e3 e4 e5 e6 e7 e8 e9 e10 e11 e12 e13
  have hco' := hco
  obtain ⟨c1, c2, c3, c4, c5, c6, c7, c8, c9, c10, c11, c12⟩ := hco'
  unfold lw_parking wp_X6_parking
  generalize xs (x3 + 1).toNatClampNeg = a
  generalize xs (x3 + 2).toNatClampNeg = b
  have h10 : ¬ (1 : Int32) = 0 := by decide
  rcases cls U (by omega) b with ⟨u, hu, rfl⟩ | hb
  · refine t_hasY c1 hu ⟨fun _ => ?_, fun q => absurd q h10⟩
    refine t_prefresh c1 c2 c9 hP.2 (fun pk' row' f' n' hok => ?_)
    have h243 : 3 ^ U ≤ 243 := Nat.pow_le_pow_right (by decide) c1
    have hcl := cn_le (cln D_kinds D_isBroken D_wanted ln U n) (3 ^ U)
    obtain ⟨o1, o2, o3⟩ := hok
    have hok : okP D_kinds D_isBroken D_wanted ln U n pk' f' n' := ⟨o1, o2, o3⟩
    rcases cls (cn (cln D_kinds D_isBroken D_wanted ln U n) (3 ^ U)) (by omega) a with ⟨kk, hkk, rfl⟩ | hx
    · obtain ⟨p, hp1, hp2, hp3⟩ := cn_kth _ _ _ hkk
      refine ⟨fun q => absurd q (nI_pos (by omega)), fun _ => ⟨fun _ => ?_, fun q => absurd (by rw [o1]; exact (i_lt (by omega) (by omega)).mpr hkk) q⟩⟩
      refine t_trackIn c1 (dg_lt U p) (by omega) hu (by rw [← hp3]; exact o3 p hp1 hp2) ?_
      refine t_parkingM c1 c2 c9 hu (fun p' g1 g2 g3 _ _ _ _ => ?_) (fun z => ?_)
      · have hle := cn_lt _ g1 g2
        have e := (i_eq (by omega) (by omega)).mp g3
        have e2 : p' = p := cn_inj _ g2 hp2 (by omega)
        rw [e2]
        exact ⟨rfl, ⟨U, n, P, k, tr, ln, w, f, by omega, rfl, rfl, rfl, rfl, rfl, rfl, rfl, rfl, rfl, rfl, rfl, rfl, rfl, hco, ⟨kno_k k, fun _ => hok⟩, hR, hW⟩⟩
      · exact absurd rfl (cls_no (by omega) z hkk)
    · have ref : ∀ post : Int32 → (Nat → Int32) → (Nat → Int32) → (Nat → Int32) → (Nat → Int32) → Prop, (∀ x y z t, post (-3) x y z t) → wp_X7_parking (nI U) D_kinds D_isBroken D_lengths (nI n) D_wanted a (nI u) M_track M_stack M_depth M_canBe post := by
        intro post hpost
        refine t_parkingM c1 c2 c9 hu (fun p' g1 g2 g3 _ _ _ _ => ?_) (fun _ => hpost)
        exact absurd g3 (cls_no (by omega) hx (cn_lt _ g1 g2))
      refine ⟨fun _ => ref _ (fun _ _ _ _ => ⟨rfl, ⟨U, n, P, k, tr, ln, w, f, by omega, rfl, rfl, rfl, rfl, rfl, rfl, rfl, rfl, rfl, rfl, rfl, rfl, rfl, hco, ⟨kno_k k, fun _ => hok⟩, hR, hW⟩⟩), fun q1 => ⟨fun q2 => ?_, fun _ => ref _ (fun _ _ _ _ => ⟨rfl, ⟨U, n, P, k, tr, ln, w, f, by omega, rfl, rfl, rfl, rfl, rfl, rfl, rfl, rfl, rfl, rfl, rfl, rfl, rfl, hco, ⟨kno_k k, fun _ => hok⟩, hR, hW⟩⟩)⟩⟩
      rw [o1] at q2
      rcases hx with z | z
      · exact absurd z q1
      · exact absurd q2 (Int32.not_lt.mpr z)
  · refine t_hasN hb ⟨fun q => absurd rfl q, fun _ => ?_⟩
    unfold wp_X7_parking
    exact t_isUnitN c1 hb ⟨fun q => absurd rfl q, fun _ => ⟨rfl, ⟨U, n, P, k, tr, ln, w, f, by omega, rfl, rfl, rfl, rfl, rfl, rfl, rfl, rfl, rfl, rfl, rfl, rfl, rfl, hco, hP, hR, hW⟩⟩⟩
theorem q_why (hc : c < 1000) (h : Inv c D_kinds D_washes D_fuels D_isBroken D_units D_lengths D_wanted D_leaving D_trackOf D_parked D_changes P_packed P_row P_found P_narrowest P_knownAt R_leavers nR_steps R_steps R_leastShunts R_knownAt W_numbers W_trial W_bestOrder W_readyByNumber W_readyByBest W_soonestEnd W_knownUnits M_units M_kind M_wash M_fuel M_isBroken M_length M_wanted M_leaving M_parked M_stand M_many M_track M_stack M_depth M_canBe M_states M_told M_gone M_cost M_ways M_places M_now M_high M_runSize M_run M_runUnit M_order M_end M_bestOrder M_bestEnd S_positions S_metFrom S_stepTo S_slots S_met S_goal) : lw_why xs x3 (Inv (c + 1)) D_kinds D_washes D_fuels D_isBroken D_units D_lengths D_wanted D_leaving D_trackOf D_parked D_changes P_packed P_row P_found P_narrowest P_knownAt R_leavers nR_steps R_steps R_leastShunts R_knownAt W_numbers W_trial W_bestOrder W_readyByNumber W_readyByBest W_soonestEnd W_knownUnits M_units M_kind M_wash M_fuel M_isBroken M_length M_wanted M_leaving M_parked M_stand M_many M_track M_stack M_depth M_canBe M_states M_told M_gone M_cost M_ways M_places M_now M_high M_runSize M_run M_runUnit M_order M_end M_bestOrder M_bestEnd S_positions S_metFrom S_stepTo S_slots S_met S_goal := by
  obtain ⟨U, n, P, k, tr, ln, w, f, hk, e1, e2, e3, e4, e5, e6, e7, e8, e9, e10, e11, e12, e13, hco, hP, hR, hW⟩ := h
  subst e1 e2 e3 e4 e5 e6 e7 e8 e9 e10 e11 e12 e13
  have hco' := hco
  obtain ⟨c1, c2, c3, c4, c5, c6, c7, c8, c9, c10, c11, c12⟩ := hco'
  unfold lw_why wp_X6_why
  refine t_prefresh c1 c2 c9 hP.2 (fun pk' row' f' n' hok => ?_)
  have h243 : 3 ^ U ≤ 243 := Nat.pow_le_pow_right (by decide) c1
  have hcl := cn_le (cln D_kinds D_isBroken D_wanted ln U n) (3 ^ U)
  have o1 := hok.1
  rcases Nat.eq_zero_or_pos (cn (cln D_kinds D_isBroken D_wanted ln U n) (3 ^ U)) with hz | hz
  · refine ⟨fun _ => ?_, fun q => absurd (by rw [o1, hz]; decide) q⟩
    refine t_hasEnough c2 c1 ?_
    cases he : eno D_kinds D_isBroken D_wanted n U with
    | false =>
      refine ⟨fun q => absurd rfl q, fun _ => ?_⟩
      refine t_whyM c1 c2 c9 (fun _ _ _ _ => ⟨?_, ⟨U, n, P, k, tr, ln, w, f, by omega, rfl, rfl, rfl, rfl, rfl, rfl, rfl, rfl, rfl, rfl, rfl, rfl, rfl, hco, ⟨kno_k k, fun _ => hok⟩, hR, hW⟩⟩)
      unfold whyv
      rw [if_neg (by omega), if_pos he]
    | true =>
      refine ⟨fun _ => ?_, fun q => absurd q (by decide)⟩
      have l0 := (c9 0 (by omega)).2
      have l1 := (c9 1 (by omega)).2
      have l2 := (c9 2 (by omega)).2
      refine t_room c9 ⟨fun q => ?_, fun q => ?_⟩
      · have h1 := (i_le (by omega) (by omega)).mp q
        refine t_whyM c1 c2 c9 (fun _ _ _ _ => ⟨?_, ⟨U, n, P, k, tr, ln, w, f, by omega, rfl, rfl, rfl, rfl, rfl, rfl, rfl, rfl, rfl, rfl, rfl, rfl, rfl, hco, ⟨kno_k k, fun _ => hok⟩, hR, hW⟩⟩)
        unfold whyv
        rw [if_neg (by omega), if_neg (by rw [he]; decide), if_pos h1]
      · have h1 : ¬ U ≤ ln 0 + ln 1 + ln 2 := fun z => q ((i_le (by omega) (by omega)).mpr z)
        refine t_whyM c1 c2 c9 (fun _ _ _ _ => ⟨?_, ⟨U, n, P, k, tr, ln, w, f, by omega, rfl, rfl, rfl, rfl, rfl, rfl, rfl, rfl, rfl, rfl, rfl, rfl, rfl, hco, ⟨kno_k k, fun _ => hok⟩, hR, hW⟩⟩)
        unfold whyv
        rw [if_neg (by omega), if_neg (by rw [he]; decide), if_neg h1]
  · refine ⟨fun q => ?_, fun _ => ?_⟩
    · rw [o1] at q
      exact absurd ((i_le (b := 0) (by omega) (by omega)).mp q) (by omega)
    · refine t_whyM c1 c2 c9 (fun _ _ _ _ => ⟨?_, ⟨U, n, P, k, tr, ln, w, f, by omega, rfl, rfl, rfl, rfl, rfl, rfl, rfl, rfl, rfl, rfl, rfl, rfl, rfl, hco, ⟨kno_k k, fun _ => hok⟩, hR, hW⟩⟩)
      unfold whyv
      rw [if_pos hz]
end QC
