/-! the calls that ask for washing -/
theorem t_inUN {U : Nat} {x : Int32} (hU : U ≤ 5) (hx : x < 0 ∨ nI U ≤ x) {post : Int32 → Prop} (hp : post 0) : wp_X7_in x 0 (nI U - 1) post := by
  cases U with
  | zero =>
    unfold wp_X7_in
    refine ⟨fun _ => hp, fun q => ⟨fun _ => hp, fun q2 => absurd ?_ q2⟩⟩
    exact Int32.lt_of_lt_of_le (show nI 0 - 1 < 0 by decide) (Int32.not_lt.mp q)
  | succ U =>
    rw [nI_pred]
    exact t_inN (by omega) hx hp
theorem rdy_lt {U : Nat} {w f : Nat → Nat} (hw : ∀ i, i < U → w i ≤ 60) (hf : ∀ i, i < U → f i ≤ 60) {s : List Nat} (hs : ∀ u ∈ s, u < U) (hl : s.length ≤ 5) (p : Nat) : rdy w f s p < 100000 := by
  have h1 := sE_le hw hf (s.take (p + 1)) 0 0 (take_mem hs)
  have h2 : (s.take (p + 1)).length ≤ 5 := by rw [List.length_take]; omega
  unfold rdy
  have : max 0 0 = 0 := rfl
  omega
section QD
variable {c : Nat} {xs : Nat → Int32} {x3 : Int32}
variable {D_kinds : Nat → Int32} {D_washes : Nat → Int32} {D_fuels : Nat → Int32} {D_isBroken : Nat → Int32} {D_units : Int32} {D_lengths : Nat → Int32} {D_wanted : Nat → Int32} {D_leaving : Int32} {D_trackOf : Nat → Int32} {D_parked : Int32} {D_changes : Int32} {P_packed : Nat → Int32} {P_row : Nat → Int32} {P_found : Int32} {P_narrowest : Int32} {P_knownAt : Int32} {R_leavers : Nat → Int32} {nR_steps : Nat} {R_steps : Nat → Int32} {R_leastShunts : Int32} {R_knownAt : Int32} {W_numbers : Nat → Int32} {W_trial : Nat → Int32} {W_bestOrder : Nat → Int32} {W_readyByNumber : Nat → Int32} {W_readyByBest : Nat → Int32} {W_soonestEnd : Int32} {W_knownUnits : Int32} {M_units : Int32} {M_kind : Nat → Int32} {M_wash : Nat → Int32} {M_fuel : Nat → Int32} {M_isBroken : Nat → Int32} {M_length : Nat → Int32} {M_wanted : Int32} {M_leaving : Nat → Int32} {M_parked : Int32} {M_stand : Nat → Int32} {M_many : Nat → Int32} {M_track : Nat → Int32} {M_stack : Nat → Int32} {M_depth : Nat → Int32} {M_canBe : Nat → Int32} {M_states : Int32} {M_told : Nat → Int64} {M_gone : Nat → Int32} {M_cost : Nat → Int32} {M_ways : Nat → Int32} {M_places : Nat → Int32} {M_now : Nat → Int32} {M_high : Nat → Int32} {M_runSize : Int32} {M_run : Nat → Int32} {M_runUnit : Nat → Int32} {M_order : Nat → Int32} {M_end : Nat → Int32} {M_bestOrder : Nat → Int32} {M_bestEnd : Nat → Int32} {S_positions : Nat → Int64} {S_metFrom : Nat → Int32} {S_stepTo : Nat → Int32} {S_slots : Nat → Int32} {S_met : Int32} {S_goal : Int32}
theorem q_ready (hc : c < 1000) (h : Inv c D_kinds D_washes D_fuels D_isBroken D_units D_lengths D_wanted D_leaving D_trackOf D_parked D_changes P_packed P_row P_found P_narrowest P_knownAt R_leavers nR_steps R_steps R_leastShunts R_knownAt W_numbers W_trial W_bestOrder W_readyByNumber W_readyByBest W_soonestEnd W_knownUnits M_units M_kind M_wash M_fuel M_isBroken M_length M_wanted M_leaving M_parked M_stand M_many M_track M_stack M_depth M_canBe M_states M_told M_gone M_cost M_ways M_places M_now M_high M_runSize M_run M_runUnit M_order M_end M_bestOrder M_bestEnd S_positions S_metFrom S_stepTo S_slots S_met S_goal) : lw_ready xs x3 (Inv (c + 1)) D_kinds D_washes D_fuels D_isBroken D_units D_lengths D_wanted D_leaving D_trackOf D_parked D_changes P_packed P_row P_found P_narrowest P_knownAt R_leavers nR_steps R_steps R_leastShunts R_knownAt W_numbers W_trial W_bestOrder W_readyByNumber W_readyByBest W_soonestEnd W_knownUnits M_units M_kind M_wash M_fuel M_isBroken M_length M_wanted M_leaving M_parked M_stand M_many M_track M_stack M_depth M_canBe M_states M_told M_gone M_cost M_ways M_places M_now M_high M_runSize M_run M_runUnit M_order M_end M_bestOrder M_bestEnd S_positions S_metFrom S_stepTo S_slots S_met S_goal := by
  obtain ⟨U, n, P, k, tr, ln, w, f, hk, e1, e2, e3, e4, e5, e6, e7, e8, e9, e10, e11, e12, e13, hco, hP, hR, hW⟩ := h
  subst e1 e2 e3 e4 e5 e6 e7 e8 e9 e10 e11 e12 e13
  have hco' := hco
  obtain ⟨c1, c2, c3, c4, c5, c6, c7, c8, c9, c10, c11, c12⟩ := hco'
  obtain ⟨w1, j, w2, w3, w4⟩ := hW
  subst w3
  have hW : CW U w f W_numbers W_bestOrder W_readyByNumber W_readyByBest W_soonestEnd (nI j) := ⟨w1, j, w2, rfl, w4⟩
  unfold lw_ready wp_X6_ready wp_X7_ready
  generalize xs (x3 + 1).toNatClampNeg = a
  have h10 : ¬ (1 : Int32) = 0 := by decide
  rcases cls U (by omega) a with ⟨u, hu, rfl⟩ | ha
  · refine t_hasY c1 hu ⟨fun _ => ?_, fun q => absurd q h10⟩
    refine t_refresh c1 c10 c11 (by omega) w1 w4 (fun t' b' rn' rb' r1 r2 r3 => ⟨i_in (by omega) (by omega), ?_⟩)
    rw [i_cl (by omega), r2 u hu]
    refine t_isUnitY c1 hu ⟨fun _ => ?_, fun q => absurd q h10⟩
    refine t_numbers c1 (fun o' ho => t_ends c1 c10 c11 (s := List.range U) (fun x hx => List.mem_range.mp hx) List.length_range ho (fun en' he => ⟨i_in (by omega) (by omega), ?_⟩))
    rw [he u hu]
    exact ⟨rfl, ⟨U, n, P, k, tr, ln, w, f, by omega, rfl, rfl, rfl, rfl, rfl, rfl, rfl, rfl, rfl, rfl, rfl, rfl, rfl, hco, hP, hR, ⟨w1, U, Nat.le_refl _, rfl, fun _ => ⟨rfl, r1, r2, r3⟩⟩⟩⟩
  · refine t_hasN ha ⟨fun q => absurd rfl q, fun _ => ?_⟩
    exact t_isUnitN c1 ha ⟨fun q => absurd rfl q, fun _ => ⟨rfl, ⟨U, n, P, k, tr, ln, w, f, by omega, rfl, rfl, rfl, rfl, rfl, rfl, rfl, rfl, rfl, rfl, rfl, rfl, rfl, hco, hP, hR, hW⟩⟩⟩
theorem q_ends (hc : c < 1000) (h : Inv c D_kinds D_washes D_fuels D_isBroken D_units D_lengths D_wanted D_leaving D_trackOf D_parked D_changes P_packed P_row P_found P_narrowest P_knownAt R_leavers nR_steps R_steps R_leastShunts R_knownAt W_numbers W_trial W_bestOrder W_readyByNumber W_readyByBest W_soonestEnd W_knownUnits M_units M_kind M_wash M_fuel M_isBroken M_length M_wanted M_leaving M_parked M_stand M_many M_track M_stack M_depth M_canBe M_states M_told M_gone M_cost M_ways M_places M_now M_high M_runSize M_run M_runUnit M_order M_end M_bestOrder M_bestEnd S_positions S_metFrom S_stepTo S_slots S_met S_goal) : lw_ends xs x3 (Inv (c + 1)) D_kinds D_washes D_fuels D_isBroken D_units D_lengths D_wanted D_leaving D_trackOf D_parked D_changes P_packed P_row P_found P_narrowest P_knownAt R_leavers nR_steps R_steps R_leastShunts R_knownAt W_numbers W_trial W_bestOrder W_readyByNumber W_readyByBest W_soonestEnd W_knownUnits M_units M_kind M_wash M_fuel M_isBroken M_length M_wanted M_leaving M_parked M_stand M_many M_track M_stack M_depth M_canBe M_states M_told M_gone M_cost M_ways M_places M_now M_high M_runSize M_run M_runUnit M_order M_end M_bestOrder M_bestEnd S_positions S_metFrom S_stepTo S_slots S_met S_goal := by
  obtain ⟨U, n, P, k, tr, ln, w, f, hk, e1, e2, e3, e4, e5, e6, e7, e8, e9, e10, e11, e12, e13, hco, hP, hR, hW⟩ := h
  subst e1 e2 e3 e4 e5 e6 e7 e8 e9 e10 e11 e12 e13
  have hco' := hco
  obtain ⟨c1, c2, c3, c4, c5, c6, c7, c8, c9, c10, c11, c12⟩ := hco'
  obtain ⟨w1, j, w2, w3, w4⟩ := hW
  subst w3
  unfold lw_ends wp_X6_ends wp_X7_ends
  refine t_refresh c1 c10 c11 (by omega) w1 w4 (fun t' b' rn' rb' r1 r2 r3 => ?_)
  exact t_best c1 c10 c11 (fun o' e' b'' be' h1 h2 => ⟨rfl, ⟨U, n, P, k, tr, ln, w, f, by omega, rfl, rfl, rfl, rfl, rfl, rfl, rfl, rfl, rfl, rfl, rfl, rfl, rfl, hco, hP, hR, ⟨w1, U, Nat.le_refl _, rfl, fun _ => ⟨rfl, r1, r2, r3⟩⟩⟩⟩)
theorem q_best (hc : c < 1000) (h : Inv c D_kinds D_washes D_fuels D_isBroken D_units D_lengths D_wanted D_leaving D_trackOf D_parked D_changes P_packed P_row P_found P_narrowest P_knownAt R_leavers nR_steps R_steps R_leastShunts R_knownAt W_numbers W_trial W_bestOrder W_readyByNumber W_readyByBest W_soonestEnd W_knownUnits M_units M_kind M_wash M_fuel M_isBroken M_length M_wanted M_leaving M_parked M_stand M_many M_track M_stack M_depth M_canBe M_states M_told M_gone M_cost M_ways M_places M_now M_high M_runSize M_run M_runUnit M_order M_end M_bestOrder M_bestEnd S_positions S_metFrom S_stepTo S_slots S_met S_goal) : lw_best xs x3 (Inv (c + 1)) D_kinds D_washes D_fuels D_isBroken D_units D_lengths D_wanted D_leaving D_trackOf D_parked D_changes P_packed P_row P_found P_narrowest P_knownAt R_leavers nR_steps R_steps R_leastShunts R_knownAt W_numbers W_trial W_bestOrder W_readyByNumber W_readyByBest W_soonestEnd W_knownUnits M_units M_kind M_wash M_fuel M_isBroken M_length M_wanted M_leaving M_parked M_stand M_many M_track M_stack M_depth M_canBe M_states M_told M_gone M_cost M_ways M_places M_now M_high M_runSize M_run M_runUnit M_order M_end M_bestOrder M_bestEnd S_positions S_metFrom S_stepTo S_slots S_met S_goal := by
  obtain ⟨U, n, P, k, tr, ln, w, f, hk, e1, e2, e3, e4, e5, e6, e7, e8, e9, e10, e11, e12, e13, hco, hP, hR, hW⟩ := h
  subst e1 e2 e3 e4 e5 e6 e7 e8 e9 e10 e11 e12 e13
  have hco' := hco
  obtain ⟨c1, c2, c3, c4, c5, c6, c7, c8, c9, c10, c11, c12⟩ := hco'
  obtain ⟨w1, j, w2, w3, w4⟩ := hW
  subst w3
  have hW : CW U w f W_numbers W_bestOrder W_readyByNumber W_readyByBest W_soonestEnd (nI j) := ⟨w1, j, w2, rfl, w4⟩
  obtain ⟨-, hs2, -, -⟩ := wB_spec c1 (fun i h => (c10 i h).2) (fun i h => (c11 i h).2)
  obtain ⟨p1, p2, p3⟩ := ppU_all hs2
  unfold lw_best wp_X6_best wp_X7_best
  generalize xs (x3 + 1).toNatClampNeg = a
  generalize xs (x3 + 2).toNatClampNeg = b
  have h10 : ¬ (1 : Int32) = 0 := by decide
  rcases cls U (by omega) a with ⟨i, hi, rfl⟩ | ha
  · have hin : vp_in (nI i) 5 := i_in (by omega) (by omega)
    have eU : nI U - 1 = nI (U - 1) := i_sub (b := 1) (by omega)
    refine ⟨fun q => absurd q (nI_pos (by omega)), fun _ => ⟨fun q => absurd ((i_le (by omega) (by omega)).mp q) (by omega), fun _ => ?_⟩⟩
    rw [eU]
    rcases cls 2 (by omega) b with ⟨v, hv, rfl⟩ | hb
    · refine ⟨fun q => absurd q (nI_pos (by omega)), fun _ => ⟨fun _ => ?_, fun q => absurd ((i_le (b := 1) (by omega) (by omega)).mpr (by omega)) q⟩⟩
      refine t_refresh c1 c10 c11 (by omega) w1 w4 (fun t' b' rn' rb' r1 r2 r3 => ⟨hin, fun y12 e12 => ?_⟩)
      have hi' : i < (wB U w f).2.length := by omega
      have hu := p1 _ (List.getElem_mem hi')
      rw [i_cl (by omega), r1 i hi'] at e12
      subst e12
      refine ⟨fun q => ⟨i_in (by omega) (by omega), ?_⟩, fun q => ?_⟩
      · refine t_inY (by omega) (by omega) ⟨fun q => absurd q h10, fun _ => ?_⟩
        refine t_inY (hi := 1) (by omega) (by omega) ⟨fun _ => ?_, fun q => absurd q h10⟩
        refine t_best c1 c10 c11 (fun o' e' b'' be' h1 h2 => ⟨fun _ => ⟨hin, ?_⟩, fun q2 => absurd q2 q⟩)
        rw [i_cl (by omega), r3 i hi', i_cl (by omega), h2 i hi]
        exact ⟨rfl, ⟨U, n, P, k, tr, ln, w, f, by omega, rfl, rfl, rfl, rfl, rfl, rfl, rfl, rfl, rfl, rfl, rfl, rfl, rfl, hco, hP, hR, ⟨w1, U, Nat.le_refl _, rfl, fun _ => ⟨rfl, r1, r2, r3⟩⟩⟩⟩
      · refine t_inY (by omega) (by omega) ⟨fun q => absurd q h10, fun _ => ?_⟩
        refine t_inY (hi := 1) (by omega) (by omega) ⟨fun _ => ?_, fun q => absurd q h10⟩
        refine t_best c1 c10 c11 (fun o' e' b'' be' h1 h2 => ⟨fun q2 => absurd q q2, fun _ => ⟨hin, ?_⟩⟩)
        rw [i_cl (by omega), h1 i hi']
        exact ⟨rfl, ⟨U, n, P, k, tr, ln, w, f, by omega, rfl, rfl, rfl, rfl, rfl, rfl, rfl, rfl, rfl, rfl, rfl, rfl, rfl, hco, hP, hR, ⟨w1, U, Nat.le_refl _, rfl, fun _ => ⟨rfl, r1, r2, r3⟩⟩⟩⟩
    · refine ⟨fun _ => ?_, fun q1 => ⟨fun q2 => ?_, fun _ => ?_⟩⟩
      · refine t_inY (by omega) (by omega) ⟨fun q => absurd q h10, fun _ => ?_⟩
        exact t_inN (hi := 1) (by omega) hb ⟨fun q => absurd rfl q, fun _ => ⟨rfl, ⟨U, n, P, k, tr, ln, w, f, by omega, rfl, rfl, rfl, rfl, rfl, rfl, rfl, rfl, rfl, rfl, rfl, rfl, rfl, hco, hP, hR, hW⟩⟩⟩
      · exfalso
        rcases hb with z | z
        · exact absurd z q1
        · exact absurd (Int32.le_trans z q2) (by decide)
      · refine t_inY (by omega) (by omega) ⟨fun q => absurd q h10, fun _ => ?_⟩
        exact t_inN (hi := 1) (by omega) hb ⟨fun q => absurd rfl q, fun _ => ⟨rfl, ⟨U, n, P, k, tr, ln, w, f, by omega, rfl, rfl, rfl, rfl, rfl, rfl, rfl, rfl, rfl, rfl, rfl, rfl, rfl, hco, hP, hR, hW⟩⟩⟩
  · refine ⟨fun _ => ?_, fun q1 => ⟨fun _ => ?_, fun q2 => ?_⟩⟩
    · exact t_inUN c1 ha ⟨fun _ => ⟨rfl, ⟨U, n, P, k, tr, ln, w, f, by omega, rfl, rfl, rfl, rfl, rfl, rfl, rfl, rfl, rfl, rfl, rfl, rfl, rfl, hco, hP, hR, hW⟩⟩, fun q => absurd rfl q⟩
    · exact t_inUN c1 ha ⟨fun _ => ⟨rfl, ⟨U, n, P, k, tr, ln, w, f, by omega, rfl, rfl, rfl, rfl, rfl, rfl, rfl, rfl, rfl, rfl, rfl, rfl, rfl, hco, hP, hR, hW⟩⟩, fun q => absurd rfl q⟩
    · rcases ha with z | z
      · exact absurd z q1
      · exact absurd z q2
end QD
