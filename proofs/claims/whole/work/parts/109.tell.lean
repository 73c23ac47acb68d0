/-! the calls that tell -/
theorem cls (N : Nat) (hN : N < 1000000) (x : Int32) : (∃ a, a < N ∧ x = nI a) ∨ (x < 0 ∨ nI N ≤ x) := by
  by_cases h0 : x < 0
  · exact Or.inr (Or.inl h0)
  · by_cases h1 : nI N ≤ x
    · exact Or.inr (Or.inr h1)
    · obtain ⟨j, hj, rfl⟩ := nI_of h0
      refine Or.inl ⟨j, ?_, rfl⟩
      rcases Nat.lt_or_ge j N with z | z
      · exact z
      · exact absurd ((i_le (by omega) (by omega)).mpr z) h1
theorem cls_no {N : Nat} (hN : N < 1000000) {x : Int32} (h : x < 0 ∨ nI N ≤ x) {a : Nat} (ha : a < N) : ¬ x = nI a := by
  intro e
  subst e
  rcases h with h | h
  · exact nI_pos (by omega) h
  · have := (i_le (by omega) (by omega)).mp h
    omega
theorem t_inN {x : Int32} {hi : Nat} (hh : hi < 900000) (hx : x < 0 ∨ nI (hi + 1) ≤ x) {post : Int32 → Prop} (hp : post 0) : wp_X7_in x 0 (nI hi) post := by
  unfold wp_X7_in
  refine ⟨fun _ => hp, fun q => ⟨fun _ => hp, fun q2 => ?_⟩⟩
  obtain ⟨a, ha, rfl⟩ := i_of hi (by omega) q q2
  exact absurd rfl (cls_no (by omega) hx (Nat.lt_succ_of_le ha))
theorem t_inY {a hi : Nat} (h : a ≤ hi) (hh : hi < 1000000) {post : Int32 → Prop} (hp : post 1) : wp_X7_in (nI a) 0 (nI hi) post := by
  unfold wp_X7_in
  exact ⟨fun q => absurd q (nI_pos (by omega)), fun _ => ⟨fun q => absurd ((i_lt (by omega) (by omega)).mp q) (by omega), fun _ => hp⟩⟩
theorem t_isKindY {a : Nat} (h : a < 4) {post : Int32 → Prop} (hp : post 1) : wp_X6_isKind (nI a) post :=
  ⟨fun q => absurd q (nI_pos (by omega)), fun _ => ⟨fun q => absurd ((i_le (a := 4) (by omega) (by omega)).mp q) (by omega), fun _ => hp⟩⟩
theorem t_isKindN {x : Int32} (h : x < 0 ∨ nI 4 ≤ x) {post : Int32 → Prop} (hp : post 0) : wp_X6_isKind x post :=
  ⟨fun _ => hp, fun q => ⟨fun _ => hp, fun q2 => by rcases h with h | h; exact absurd h q; exact absurd h q2⟩⟩
theorem t_isWorkY {a : Nat} (h : a < 61) {post : Int32 → Prop} (hp : post 1) : wp_X6_isWork (nI a) post :=
  ⟨fun q => absurd q (nI_pos (by omega)), fun _ => ⟨fun q => absurd ((i_lt (a := 60) (by omega) (by omega)).mp q) (by omega), fun _ => hp⟩⟩
theorem t_isWorkN {x : Int32} (h : x < 0 ∨ nI 61 ≤ x) {post : Int32 → Prop} (hp : post 0) : wp_X6_isWork x post :=
  ⟨fun _ => hp, fun q => ⟨fun _ => hp, fun q2 => by
    obtain ⟨a, ha, rfl⟩ := i_of 60 (by omega) q q2
    exact absurd rfl (cls_no (by omega) h (Nat.lt_succ_of_le ha))⟩⟩
theorem t_isTrackY {a : Nat} (h : a < 3) {post : Int32 → Prop} (hp : post 1) : wp_X6_isTrack (nI a) post :=
  ⟨fun q => absurd q (nI_pos (by omega)), fun _ => ⟨fun q => absurd ((i_le (a := 3) (by omega) (by omega)).mp q) (by omega), fun _ => hp⟩⟩
theorem t_isTrackN {x : Int32} (h : x < 0 ∨ nI 3 ≤ x) {post : Int32 → Prop} (hp : post 0) : wp_X6_isTrack x post :=
  ⟨fun _ => hp, fun q => ⟨fun _ => hp, fun q2 => by rcases h with h | h; exact absurd h q; exact absurd h q2⟩⟩
theorem t_isTrackMY {a : Nat} (h : a < 3) {post : Int32 → Prop} (hp : post 1) : wp_X7_isTrack (nI a) post := by
  unfold wp_X7_isTrack
  exact t_inY (hi := 2) (by omega) (by omega) ⟨rfl, hp⟩
theorem t_isTrackMN {x : Int32} (h : x < 0 ∨ nI 3 ≤ x) {post : Int32 → Prop} (hp : post 0) : wp_X7_isTrack x post := by
  unfold wp_X7_isTrack
  exact t_inN (hi := 2) (by omega) h ⟨rfl, hp⟩
theorem t_hasY {U a : Nat} (hU : U ≤ 5) (h : a < U) {post : Int32 → Prop} (hp : post 1) : wp_X0_hasUnit (nI U) (nI a) post :=
  ⟨fun q => absurd q (nI_pos (by omega)), fun _ => ⟨fun q => absurd ((i_le (by omega) (by omega)).mp q) (by omega), fun _ => hp⟩⟩
theorem t_hasN {U : Nat} {x : Int32} (h : x < 0 ∨ nI U ≤ x) {post : Int32 → Prop} (hp : post 0) : wp_X0_hasUnit (nI U) x post :=
  ⟨fun _ => hp, fun q => ⟨fun _ => hp, fun q2 => by rcases h with h | h; exact absurd h q; exact absurd h q2⟩⟩
def upn (g : Nat → Nat) (k x : Nat) : Nat → Nat := fun i => if i = k then x else g i
theorem upn_s (g : Nat → Nat) (k x : Nat) : upn g k x k = x := if_pos rfl
theorem upn_o (g : Nat → Nat) {k i : Nat} (x : Nat) (h : i ≠ k) : upn g k x i = g i := if_neg h
section QA
variable {c : Nat} {xs : Nat → Int32} {x3 : Int32}
variable {D_kinds : Nat → Int32} {D_washes : Nat → Int32} {D_fuels : Nat → Int32} {D_isBroken : Nat → Int32} {D_units : Int32} {D_lengths : Nat → Int32} {D_wanted : Nat → Int32} {D_leaving : Int32} {D_trackOf : Nat → Int32} {D_parked : Int32} {D_changes : Int32} {P_packed : Nat → Int32} {P_row : Nat → Int32} {P_found : Int32} {P_narrowest : Int32} {P_knownAt : Int32} {R_leavers : Nat → Int32} {nR_steps : Nat} {R_steps : Nat → Int32} {R_leastShunts : Int32} {R_knownAt : Int32} {W_numbers : Nat → Int32} {W_trial : Nat → Int32} {W_bestOrder : Nat → Int32} {W_readyByNumber : Nat → Int32} {W_readyByBest : Nat → Int32} {W_soonestEnd : Int32} {W_knownUnits : Int32} {M_units : Int32} {M_kind : Nat → Int32} {M_wash : Nat → Int32} {M_fuel : Nat → Int32} {M_isBroken : Nat → Int32} {M_length : Nat → Int32} {M_wanted : Int32} {M_leaving : Nat → Int32} {M_parked : Int32} {M_stand : Nat → Int32} {M_many : Nat → Int32} {M_track : Nat → Int32} {M_stack : Nat → Int32} {M_depth : Nat → Int32} {M_canBe : Nat → Int32} {M_states : Int32} {M_told : Nat → Int64} {M_gone : Nat → Int32} {M_cost : Nat → Int32} {M_ways : Nat → Int32} {M_places : Nat → Int32} {M_now : Nat → Int32} {M_high : Nat → Int32} {M_runSize : Int32} {M_run : Nat → Int32} {M_runUnit : Nat → Int32} {M_order : Nat → Int32} {M_end : Nat → Int32} {M_bestOrder : Nat → Int32} {M_bestEnd : Nat → Int32} {S_positions : Nat → Int64} {S_metFrom : Nat → Int32} {S_stepTo : Nat → Int32} {S_slots : Nat → Int32} {S_met : Int32} {S_goal : Int32}
theorem q_unit (hc : c < 1000) (h : Inv c D_kinds D_washes D_fuels D_isBroken D_units D_lengths D_wanted D_leaving D_trackOf D_parked D_changes P_packed P_row P_found P_narrowest P_knownAt R_leavers nR_steps R_steps R_leastShunts R_knownAt W_numbers W_trial W_bestOrder W_readyByNumber W_readyByBest W_soonestEnd W_knownUnits M_units M_kind M_wash M_fuel M_isBroken M_length M_wanted M_leaving M_parked M_stand M_many M_track M_stack M_depth M_canBe M_states M_told M_gone M_cost M_ways M_places M_now M_high M_runSize M_run M_runUnit M_order M_end M_bestOrder M_bestEnd S_positions S_metFrom S_stepTo S_slots S_met S_goal) : lw_unit xs x3 (Inv (c + 1)) D_kinds D_washes D_fuels D_isBroken D_units D_lengths D_wanted D_leaving D_trackOf D_parked D_changes P_packed P_row P_found P_narrowest P_knownAt R_leavers nR_steps R_steps R_leastShunts R_knownAt W_numbers W_trial W_bestOrder W_readyByNumber W_readyByBest W_soonestEnd W_knownUnits M_units M_kind M_wash M_fuel M_isBroken M_length M_wanted M_leaving M_parked M_stand M_many M_track M_stack M_depth M_canBe M_states M_told M_gone M_cost M_ways M_places M_now M_high M_runSize M_run M_runUnit M_order M_end M_bestOrder M_bestEnd S_positions S_metFrom S_stepTo S_slots S_met S_goal := by
  obtain ⟨U, n, P, k, tr, ln, w, f, hk, e1, e2, e3, e4, e5, e6, e7, e8, e9, e10, e11, e12, e13, hco, hP, hR, hW⟩ := h
  subst e1 e2 e3 e4 e5 e6 e7 e8 e9 e10 e11 e12 e13
  have hU5 := hco.1
  unfold lw_unit
  generalize xs (x3 + 1).toNatClampNeg = a
  generalize xs (x3 + 2).toNatClampNeg = b
  generalize xs (x3 + 3).toNatClampNeg = d
  unfold wp_X6_unit wp_X7_unit
  have h10 : ¬ (1 : Int32) = 0 := by decide
  rcases cls 4 (by omega) a with ⟨ka, hka, rfl⟩ | ha
  · refine t_isKindY hka ⟨fun q => absurd q h10, fun _ => ?_⟩
    rcases cls 61 (by omega) b with ⟨kb, hkb, rfl⟩ | hb
    · refine t_isWorkY hkb ⟨fun q => absurd q h10, fun _ => ?_⟩
      rcases cls 61 (by omega) d with ⟨kd, hkd, rfl⟩ | hd
      · refine t_isWorkY hkd ⟨fun _ => ?_, fun q => absurd q h10⟩
        refine ⟨fun q => ?_, fun q => ?_⟩
        · have hU : U < 5 := (i_lt (b := 5) (by omega) (by omega)).mp q
          unfold wp_X0_addUnit
          have hin : vp_in (nI U) 5 := i_in hU (by omega)
          refine ⟨hin, hin, hin, fun y4 e4 y5 e5 => ?_⟩
          rw [i_1] at e4 e5
          subst e4 e5
          refine t_inY (hi := 3) (by omega) (by omega) ⟨fun q => absurd q h10, fun _ => ?_⟩
          refine t_inY (hi := 60) (by omega) (by omega) ⟨fun q => absurd q h10, fun _ => ?_⟩
          refine t_inY (hi := 60) (by omega) (by omega) ⟨fun _ => ?_, fun q => absurd q h10⟩
          refine ⟨fun _ => ⟨hin, hin, hin, fun y11 e11 => ?_⟩, fun q => absurd ((i_eq (b := 5) (by omega) (by omega)).mp q) (by omega)⟩
          rw [i_1] at e11
          subst e11
          rw [nI_pred, i_cl (by omega)]
          refine ⟨rfl, ⟨U + 1, n, P, k + 1, tr, ln, upn w U kb, upn f U kd, by omega, rfl, rfl, rfl, rfl, rfl, rfl, rfl, rfl, rfl, rfl, rfl, rfl, rfl, ?_, ⟨kno_s hP.1, fun q => absurd q (kno_n (by omega) hP.1)⟩, ⟨kno_s hR.1, fun q => absurd q (kno_n (by omega) hR.1)⟩, ?_⟩⟩
          · obtain ⟨c1, c2, c3, c4, c5, c6, c7, c8, c9, c10, c11, c12⟩ := hco
            refine ⟨by omega, c2, by omega, c4, c5, c6, fun u hu => ?_, c8, c9, fun i hi => ?_, fun i hi => ?_, c12⟩
            · by_cases z : u = U
              · subst z; exact ⟨ka, hka, up_s _ _ _⟩
              · rw [up_o _ _ z]; exact c7 u (by omega)
            · by_cases z : i = U
              · subst z; rw [up_s, upn_s]; exact ⟨rfl, by omega⟩
              · rw [up_o _ _ z, upn_o _ _ z]; exact c10 i (by omega)
            · by_cases z : i = U
              · subst z; rw [up_s, upn_s]; exact ⟨rfl, by omega⟩
              · rw [up_o _ _ z, upn_o _ _ z]; exact c11 i (by omega)
          · obtain ⟨w1, j, w2, w3, -⟩ := hW
            exact ⟨w1, j, by omega, w3, fun e => by omega⟩
        · have hU : U = 5 := by
            rcases Nat.lt_or_ge U 5 with z | z
            · exact absurd ((i_lt (b := 5) (by omega) (by omega)).mpr z) q
            · omega
          refine t_inY (hi := 3) (by omega) (by omega) ⟨fun q => absurd q h10, fun _ => ?_⟩
          refine t_inY (hi := 60) (by omega) (by omega) ⟨fun q => absurd q h10, fun _ => ?_⟩
          refine t_inY (hi := 60) (by omega) (by omega) ⟨fun _ => ?_, fun q => absurd q h10⟩
          exact ⟨fun q => absurd (by rw [hU]; rfl) q, fun _ => ⟨rfl, ⟨U, n, P, k, tr, ln, w, f, by omega, rfl, rfl, rfl, rfl, rfl, rfl, rfl, rfl, rfl, rfl, rfl, rfl, rfl, hco, hP, hR, hW⟩⟩⟩
      · refine t_isWorkN hd ⟨fun q => absurd rfl q, fun _ => ?_⟩
        refine t_inY (hi := 3) (by omega) (by omega) ⟨fun q => absurd q h10, fun _ => ?_⟩
        refine t_inY (hi := 60) (by omega) (by omega) ⟨fun q => absurd q h10, fun _ => ?_⟩
        exact t_inN (hi := 60) (by omega) hd ⟨fun q => absurd rfl q, fun _ => ⟨rfl, ⟨U, n, P, k, tr, ln, w, f, by omega, rfl, rfl, rfl, rfl, rfl, rfl, rfl, rfl, rfl, rfl, rfl, rfl, rfl, hco, hP, hR, hW⟩⟩⟩
    · refine t_isWorkN hb ⟨fun _ => ?_, fun q => absurd rfl q⟩
      refine t_inY (hi := 3) (by omega) (by omega) ⟨fun q => absurd q h10, fun _ => ?_⟩
      exact t_inN (hi := 60) (by omega) hb ⟨fun _ => ⟨rfl, ⟨U, n, P, k, tr, ln, w, f, by omega, rfl, rfl, rfl, rfl, rfl, rfl, rfl, rfl, rfl, rfl, rfl, rfl, rfl, hco, hP, hR, hW⟩⟩, fun q => absurd rfl q⟩
  · refine t_isKindN ha ⟨fun _ => ?_, fun q => absurd rfl q⟩
    exact t_inN (hi := 3) (by omega) ha ⟨fun _ => ⟨rfl, ⟨U, n, P, k, tr, ln, w, f, by omega, rfl, rfl, rfl, rfl, rfl, rfl, rfl, rfl, rfl, rfl, rfl, rfl, rfl, hco, hP, hR, hW⟩⟩, fun q => absurd rfl q⟩
theorem q_broken (hc : c < 1000) (h : Inv c D_kinds D_washes D_fuels D_isBroken D_units D_lengths D_wanted D_leaving D_trackOf D_parked D_changes P_packed P_row P_found P_narrowest P_knownAt R_leavers nR_steps R_steps R_leastShunts R_knownAt W_numbers W_trial W_bestOrder W_readyByNumber W_readyByBest W_soonestEnd W_knownUnits M_units M_kind M_wash M_fuel M_isBroken M_length M_wanted M_leaving M_parked M_stand M_many M_track M_stack M_depth M_canBe M_states M_told M_gone M_cost M_ways M_places M_now M_high M_runSize M_run M_runUnit M_order M_end M_bestOrder M_bestEnd S_positions S_metFrom S_stepTo S_slots S_met S_goal) : lw_broken xs x3 (Inv (c + 1)) D_kinds D_washes D_fuels D_isBroken D_units D_lengths D_wanted D_leaving D_trackOf D_parked D_changes P_packed P_row P_found P_narrowest P_knownAt R_leavers nR_steps R_steps R_leastShunts R_knownAt W_numbers W_trial W_bestOrder W_readyByNumber W_readyByBest W_soonestEnd W_knownUnits M_units M_kind M_wash M_fuel M_isBroken M_length M_wanted M_leaving M_parked M_stand M_many M_track M_stack M_depth M_canBe M_states M_told M_gone M_cost M_ways M_places M_now M_high M_runSize M_run M_runUnit M_order M_end M_bestOrder M_bestEnd S_positions S_metFrom S_stepTo S_slots S_met S_goal := by
  obtain ⟨U, n, P, k, tr, ln, w, f, hk, e1, e2, e3, e4, e5, e6, e7, e8, e9, e10, e11, e12, e13, hco, hP, hR, hW⟩ := h
  subst e1 e2 e3 e4 e5 e6 e7 e8 e9 e10 e11 e12 e13
  have hU5 := hco.1
  unfold lw_broken
  generalize xs (x3 + 1).toNatClampNeg = a
  generalize xs (x3 + 2).toNatClampNeg = b
  have h10 : ¬ (1 : Int32) = 0 := by decide
  have key : ∀ v : Int32, (vp_nar .boolean v = 0 ∨ vp_nar .boolean v = 1) → wp_X6_broken (nI U) a v D_isBroken (nI k) (fun (r1 : Int32) (D_isBroken_2 : Nat → Int32) (D_changes_3 : Int32) => wp_X7_broken (nI U) a v D_isBroken (fun (r4 : Int32) (M_isBroken_5 : Nat → Int32) => (r1 = r4 ∧ Inv (c + 1) D_kinds D_washes D_fuels D_isBroken_2 (nI U) D_lengths D_wanted (nI n) D_trackOf (nI P) D_changes_3 P_packed P_row P_found P_narrowest P_knownAt R_leavers nR_steps R_steps R_leastShunts R_knownAt W_numbers W_trial W_bestOrder W_readyByNumber W_readyByBest W_soonestEnd W_knownUnits (nI U) D_kinds D_washes D_fuels M_isBroken_5 D_lengths (nI n) D_wanted (nI P) M_stand M_many M_track M_stack M_depth M_canBe M_states M_told M_gone M_cost M_ways M_places M_now M_high M_runSize M_run M_runUnit M_order M_end M_bestOrder M_bestEnd S_positions S_metFrom S_stepTo S_slots S_met S_goal))) := by
    intro v hv
    unfold wp_X6_broken wp_X7_broken
    rcases cls U (by omega) a with ⟨u, hu, rfl⟩ | ha
    · refine t_hasY hU5 hu ⟨fun _ => ?_, fun q => absurd q h10⟩
      unfold wp_X0_setBroken
      have hin : vp_in (nI u) 5 := i_in (by omega) (by omega)
      refine ⟨hin, fun y2 e2 => ⟨hin, fun y4 e4 => ?_⟩⟩
      rw [i_1] at e4
      subst e4
      rw [i_cl (by omega)] at e2 ⊢
      have hb01 := hco.2.2.2.2.2.2.2.2.2.2.2
      have fin : ∀ r : Int32, r = r ∧ Inv (c + 1) D_kinds D_washes D_fuels (upd D_isBroken u (vp_nar .boolean v)) (nI U) D_lengths D_wanted (nI n) D_trackOf (nI P) (nI (k + 1)) P_packed P_row P_found P_narrowest P_knownAt R_leavers nR_steps R_steps R_leastShunts R_knownAt W_numbers W_trial W_bestOrder W_readyByNumber W_readyByBest W_soonestEnd W_knownUnits (nI U) D_kinds D_washes D_fuels (upd D_isBroken u (vp_nar .boolean v)) D_lengths (nI n) D_wanted (nI P) M_stand M_many M_track M_stack M_depth M_canBe M_states M_told M_gone M_cost M_ways M_places M_now M_high M_runSize M_run M_runUnit M_order M_end M_bestOrder M_bestEnd S_positions S_metFrom S_stepTo S_slots S_met S_goal := by
        intro r
        refine ⟨rfl, ⟨U, n, P, k + 1, tr, ln, w, f, by omega, rfl, rfl, rfl, rfl, rfl, rfl, rfl, rfl, rfl, rfl, rfl, rfl, rfl, ?_, ⟨kno_s hP.1, fun q => absurd q (kno_n (by omega) hP.1)⟩, ⟨kno_s hR.1, fun q => absurd q (kno_n (by omega) hR.1)⟩, hW⟩⟩
        obtain ⟨c1, c2, c3, c4, c5, c6, c7, c8, c9, c10, c11, c12⟩ := hco
        refine ⟨c1, c2, c3, c4, c5, c6, c7, c8, c9, c10, c11, fun x => ?_⟩
        by_cases z : x = u
        · subst z; rw [up_s]; exact hv
        · rw [up_o _ _ z]; exact c12 x
      refine ⟨?_, fun q => ?_, fun q => ?_⟩
      · rw [e2]
        rcases hb01 u with z | z <;> (rw [z]; rfl)
      · refine t_isUnitY hU5 hu ⟨fun _ => ⟨hin, fun y e => ⟨hin, fun _ => fin _, fun q3 => ?_⟩⟩, fun q => absurd q h10⟩
        have e' : y = y2 := by first | (rw [e, e2]) | (rw [e, i_cl (by omega), e2])
        rw [e'] at q3
        exact absurd q q3
      · refine t_isUnitY hU5 hu ⟨fun _ => ⟨hin, fun y e => ⟨hin, fun q3 => ?_, fun _ => fin _⟩⟩, fun q => absurd q h10⟩
        have e' : y = y2 := by first | (rw [e, e2]) | (rw [e, i_cl (by omega), e2])
        rw [e'] at q3
        exact absurd q3 q
    · refine t_hasN ha ⟨fun q => absurd rfl q, fun _ => ?_⟩
      exact t_isUnitN hU5 ha ⟨fun q => absurd rfl q, fun _ => ⟨rfl, ⟨U, n, P, k, tr, ln, w, f, by omega, rfl, rfl, rfl, rfl, rfl, rfl, rfl, rfl, rfl, rfl, rfl, rfl, rfl, hco, hP, hR, hW⟩⟩⟩
  exact ⟨fun _ => key 0 (Or.inl nar0), fun _ => key 1 (Or.inr nar1)⟩
theorem q_length (hc : c < 1000) (h : Inv c D_kinds D_washes D_fuels D_isBroken D_units D_lengths D_wanted D_leaving D_trackOf D_parked D_changes P_packed P_row P_found P_narrowest P_knownAt R_leavers nR_steps R_steps R_leastShunts R_knownAt W_numbers W_trial W_bestOrder W_readyByNumber W_readyByBest W_soonestEnd W_knownUnits M_units M_kind M_wash M_fuel M_isBroken M_length M_wanted M_leaving M_parked M_stand M_many M_track M_stack M_depth M_canBe M_states M_told M_gone M_cost M_ways M_places M_now M_high M_runSize M_run M_runUnit M_order M_end M_bestOrder M_bestEnd S_positions S_metFrom S_stepTo S_slots S_met S_goal) : lw_length xs x3 (Inv (c + 1)) D_kinds D_washes D_fuels D_isBroken D_units D_lengths D_wanted D_leaving D_trackOf D_parked D_changes P_packed P_row P_found P_narrowest P_knownAt R_leavers nR_steps R_steps R_leastShunts R_knownAt W_numbers W_trial W_bestOrder W_readyByNumber W_readyByBest W_soonestEnd W_knownUnits M_units M_kind M_wash M_fuel M_isBroken M_length M_wanted M_leaving M_parked M_stand M_many M_track M_stack M_depth M_canBe M_states M_told M_gone M_cost M_ways M_places M_now M_high M_runSize M_run M_runUnit M_order M_end M_bestOrder M_bestEnd S_positions S_metFrom S_stepTo S_slots S_met S_goal := by
  obtain ⟨U, n, P, k, tr, ln, w, f, hk, e1, e2, e3, e4, e5, e6, e7, e8, e9, e10, e11, e12, e13, hco, hP, hR, hW⟩ := h
  subst e1 e2 e3 e4 e5 e6 e7 e8 e9 e10 e11 e12 e13
  unfold lw_length
  generalize xs (x3 + 1).toNatClampNeg = a
  generalize xs (x3 + 2).toNatClampNeg = b
  have h10 : ¬ (1 : Int32) = 0 := by decide
  unfold wp_X6_length wp_X7_length
  rcases cls 3 (by omega) a with ⟨t, ht, rfl⟩ | ha
  · refine t_isTrackY ht ⟨fun _ => ?_, fun q => absurd q h10⟩
    by_cases z1 : b < 1
    · refine ⟨fun _ => ?_, fun q => absurd z1 q⟩
      refine t_isTrackMY ht ⟨fun _ => ?_, fun q => absurd q h10⟩
      exact ⟨fun _ => ⟨fun q => absurd rfl q, fun _ => ⟨rfl, ⟨U, n, P, k, tr, ln, w, f, by omega, rfl, rfl, rfl, rfl, rfl, rfl, rfl, rfl, rfl, rfl, rfl, rfl, rfl, hco, hP, hR, hW⟩⟩⟩, fun q => absurd z1 q⟩
    · refine ⟨fun q => absurd q z1, fun _ => ?_⟩
      by_cases z2 : b ≤ 5
      · refine ⟨fun _ => ?_, fun q => absurd z2 q⟩
        obtain ⟨v, hv1, hv2, rfl⟩ : ∃ v, 1 ≤ v ∧ v ≤ 5 ∧ b = nI v := by
          have hb0 : ¬ b < 0 := fun q => z1 (Int32.lt_trans q (by decide))
          obtain ⟨v, hv, rfl⟩ := nI_of hb0
          have h2 := (i_le (b := 5) (by omega) (by omega)).mp z2
          refine ⟨v, ?_, h2, rfl⟩
          rcases Nat.lt_or_ge v 1 with z | z
          · exact absurd ((i_lt (b := 1) (by omega) (by omega)).mpr z) z1
          · exact z
        unfold wp_X0_setLength
        have hin : vp_in (nI t) 3 := i_in ht (by omega)
        refine ⟨hin, fun y2 e2 => ⟨hin, fun y4 e4 => ?_⟩⟩
        rw [i_1] at e4
        subst e4
        refine t_isTrackMY ht ⟨fun _ => ?_, fun q => absurd q h10⟩
        refine ⟨fun q => absurd q z1, fun _ => ⟨fun q => absurd ((i_lt (a := 5) (by omega) (by omega)).mp q) (by omega), fun _ => ⟨fun _ => ⟨hin, fun y6 e6 => ⟨hin, ?_⟩⟩, fun q => absurd q h10⟩⟩⟩
        rw [i_cl (by omega)] at e2 e6 ⊢
        refine ⟨by rw [e2, e6], ⟨U, n, P, k + 1, tr, upn ln t v, w, f, by omega, rfl, rfl, rfl, rfl, rfl, rfl, rfl, rfl, rfl, rfl, rfl, rfl, rfl, ?_, ⟨kno_s hP.1, fun q => absurd q (kno_n (by omega) hP.1)⟩, ⟨kno_s hR.1, fun q => absurd q (kno_n (by omega) hR.1)⟩, hW⟩⟩
        obtain ⟨c1, c2, c3, c4, c5, c6, c7, c8, c9, c10, c11, c12⟩ := hco
        refine ⟨c1, c2, c3, c4, c5, c6, c7, c8, fun x hx => ?_, c10, c11, c12⟩
        by_cases z : x = t
        · subst z; rw [up_s, upn_s]; exact ⟨rfl, hv2⟩
        · rw [up_o _ _ z, upn_o _ _ z]; exact c9 x hx
      · refine ⟨fun q => absurd q z2, fun _ => ?_⟩
        refine t_isTrackMY ht ⟨fun _ => ?_, fun q => absurd q h10⟩
        exact ⟨fun q => absurd q z1, fun _ => ⟨fun _ => ⟨fun q => absurd rfl q, fun _ => ⟨rfl, ⟨U, n, P, k, tr, ln, w, f, by omega, rfl, rfl, rfl, rfl, rfl, rfl, rfl, rfl, rfl, rfl, rfl, rfl, rfl, hco, hP, hR, hW⟩⟩⟩, fun q => absurd (Int32.not_lt.mp q) z2⟩⟩
  · refine t_isTrackN ha ⟨fun q => absurd rfl q, fun _ => ?_⟩
    exact t_isTrackMN ha ⟨fun q => absurd rfl q, fun _ => ⟨rfl, ⟨U, n, P, k, tr, ln, w, f, by omega, rfl, rfl, rfl, rfl, rfl, rfl, rfl, rfl, rfl, rfl, rfl, rfl, rfl, hco, hP, hR, hW⟩⟩⟩
theorem q_leave (hc : c < 1000) (h : Inv c D_kinds D_washes D_fuels D_isBroken D_units D_lengths D_wanted D_leaving D_trackOf D_parked D_changes P_packed P_row P_found P_narrowest P_knownAt R_leavers nR_steps R_steps R_leastShunts R_knownAt W_numbers W_trial W_bestOrder W_readyByNumber W_readyByBest W_soonestEnd W_knownUnits M_units M_kind M_wash M_fuel M_isBroken M_length M_wanted M_leaving M_parked M_stand M_many M_track M_stack M_depth M_canBe M_states M_told M_gone M_cost M_ways M_places M_now M_high M_runSize M_run M_runUnit M_order M_end M_bestOrder M_bestEnd S_positions S_metFrom S_stepTo S_slots S_met S_goal) : lw_leave xs x3 (Inv (c + 1)) D_kinds D_washes D_fuels D_isBroken D_units D_lengths D_wanted D_leaving D_trackOf D_parked D_changes P_packed P_row P_found P_narrowest P_knownAt R_leavers nR_steps R_steps R_leastShunts R_knownAt W_numbers W_trial W_bestOrder W_readyByNumber W_readyByBest W_soonestEnd W_knownUnits M_units M_kind M_wash M_fuel M_isBroken M_length M_wanted M_leaving M_parked M_stand M_many M_track M_stack M_depth M_canBe M_states M_told M_gone M_cost M_ways M_places M_now M_high M_runSize M_run M_runUnit M_order M_end M_bestOrder M_bestEnd S_positions S_metFrom S_stepTo S_slots S_met S_goal := by
  obtain ⟨U, n, P, k, tr, ln, w, f, hk, e1, e2, e3, e4, e5, e6, e7, e8, e9, e10, e11, e12, e13, hco, hP, hR, hW⟩ := h
  subst e1 e2 e3 e4 e5 e6 e7 e8 e9 e10 e11 e12 e13
  have hn5 := hco.2.1
  unfold lw_leave
  generalize xs (x3 + 1).toNatClampNeg = a
  have h10 : ¬ (1 : Int32) = 0 := by decide
  unfold wp_X6_leave wp_X7_leave
  rcases cls 4 (by omega) a with ⟨ka, hka, rfl⟩ | ha
  · refine t_isKindY hka ⟨fun _ => ⟨fun q => ?_, fun q => ?_⟩, fun q => absurd q h10⟩
    · have hn : n < 5 := (i_lt (b := 5) (by omega) (by omega)).mp q
      unfold wp_X0_addWanted
      have hin : vp_in (nI n) 5 := i_in hn (by omega)
      refine ⟨hin, fun y2 e2 y3 e3 => ?_⟩
      rw [i_1] at e2 e3
      subst e2 e3
      refine t_inY (hi := 3) (by omega) (by omega) ⟨fun _ => ⟨fun _ => ⟨hin, fun y5 e5 => ?_⟩, fun q => absurd ((i_eq (b := 5) (by omega) (by omega)).mp q) (by omega)⟩, fun q => absurd q h10⟩
      rw [i_1] at e5
      subst e5
      rw [i_cl (by omega)]
      refine ⟨rfl, ⟨U, n + 1, P, k + 1, tr, ln, w, f, by omega, rfl, rfl, rfl, rfl, rfl, rfl, rfl, rfl, rfl, rfl, rfl, rfl, rfl, ?_, ⟨kno_s hP.1, fun q => absurd q (kno_n (by omega) hP.1)⟩, ⟨kno_s hR.1, fun q => absurd q (kno_n (by omega) hR.1)⟩, hW⟩⟩
      obtain ⟨c1, c2, c3, c4, c5, c6, c7, c8, c9, c10, c11, c12⟩ := hco
      refine ⟨c1, by omega, c3, c4, c5, c6, c7, fun i hi => ?_, c9, c10, c11, c12⟩
      by_cases z : i = n
      · subst z; exact ⟨ka, hka, up_s _ _ _⟩
      · rw [up_o _ _ z]; exact c8 i (by omega)
    · have hn : n = 5 := by
        rcases Nat.lt_or_ge n 5 with z | z
        · exact absurd ((i_lt (b := 5) (by omega) (by omega)).mpr z) q
        · omega
      refine t_inY (hi := 3) (by omega) (by omega) ⟨fun _ => ⟨fun q => absurd (by rw [hn]; rfl) q, fun _ => ⟨rfl, ⟨U, n, P, k, tr, ln, w, f, by omega, rfl, rfl, rfl, rfl, rfl, rfl, rfl, rfl, rfl, rfl, rfl, rfl, rfl, hco, hP, hR, hW⟩⟩⟩, fun q => absurd q h10⟩
  · refine t_isKindN ha ⟨fun q => absurd rfl q, fun _ => ?_⟩
    exact t_inN (hi := 3) (by omega) ha ⟨fun q => absurd rfl q, fun _ => ⟨rfl, ⟨U, n, P, k, tr, ln, w, f, by omega, rfl, rfl, rfl, rfl, rfl, rfl, rfl, rfl, rfl, rfl, rfl, rfl, rfl, hco, hP, hR, hW⟩⟩⟩
theorem q_stay (hc : c < 1000) (h : Inv c D_kinds D_washes D_fuels D_isBroken D_units D_lengths D_wanted D_leaving D_trackOf D_parked D_changes P_packed P_row P_found P_narrowest P_knownAt R_leavers nR_steps R_steps R_leastShunts R_knownAt W_numbers W_trial W_bestOrder W_readyByNumber W_readyByBest W_soonestEnd W_knownUnits M_units M_kind M_wash M_fuel M_isBroken M_length M_wanted M_leaving M_parked M_stand M_many M_track M_stack M_depth M_canBe M_states M_told M_gone M_cost M_ways M_places M_now M_high M_runSize M_run M_runUnit M_order M_end M_bestOrder M_bestEnd S_positions S_metFrom S_stepTo S_slots S_met S_goal) : lw_stay xs x3 (Inv (c + 1)) D_kinds D_washes D_fuels D_isBroken D_units D_lengths D_wanted D_leaving D_trackOf D_parked D_changes P_packed P_row P_found P_narrowest P_knownAt R_leavers nR_steps R_steps R_leastShunts R_knownAt W_numbers W_trial W_bestOrder W_readyByNumber W_readyByBest W_soonestEnd W_knownUnits M_units M_kind M_wash M_fuel M_isBroken M_length M_wanted M_leaving M_parked M_stand M_many M_track M_stack M_depth M_canBe M_states M_told M_gone M_cost M_ways M_places M_now M_high M_runSize M_run M_runUnit M_order M_end M_bestOrder M_bestEnd S_positions S_metFrom S_stepTo S_slots S_met S_goal := by
  obtain ⟨U, n, P, k, tr, ln, w, f, hk, e1, e2, e3, e4, e5, e6, e7, e8, e9, e10, e11, e12, e13, hco, hP, hR, hW⟩ := h
  subst e1 e2 e3 e4 e5 e6 e7 e8 e9 e10 e11 e12 e13
  unfold lw_stay wp_X6_stay wp_X7_stay wp_X0_dropWanted
  intro y1 e1
  rw [i_1] at e1
  subst e1
  refine ⟨rfl, ⟨U, 0, P, k + 1, tr, ln, w, f, by omega, rfl, rfl, rfl, rfl, rfl, rfl, rfl, rfl, rfl, rfl, rfl, rfl, rfl, ?_, ⟨kno_s hP.1, fun q => absurd q (kno_n (by omega) hP.1)⟩, ⟨kno_s hR.1, fun q => absurd q (kno_n (by omega) hR.1)⟩, hW⟩⟩
  obtain ⟨c1, c2, c3, c4, c5, c6, c7, c8, c9, c10, c11, c12⟩ := hco
  exact ⟨c1, by omega, c3, c4, c5, c6, c7, fun i hi => absurd hi (Nat.not_lt_zero i), c9, c10, c11, c12⟩
theorem q_count (hc : c < 1000) (h : Inv c D_kinds D_washes D_fuels D_isBroken D_units D_lengths D_wanted D_leaving D_trackOf D_parked D_changes P_packed P_row P_found P_narrowest P_knownAt R_leavers nR_steps R_steps R_leastShunts R_knownAt W_numbers W_trial W_bestOrder W_readyByNumber W_readyByBest W_soonestEnd W_knownUnits M_units M_kind M_wash M_fuel M_isBroken M_length M_wanted M_leaving M_parked M_stand M_many M_track M_stack M_depth M_canBe M_states M_told M_gone M_cost M_ways M_places M_now M_high M_runSize M_run M_runUnit M_order M_end M_bestOrder M_bestEnd S_positions S_metFrom S_stepTo S_slots S_met S_goal) : lw_count xs x3 (Inv (c + 1)) D_kinds D_washes D_fuels D_isBroken D_units D_lengths D_wanted D_leaving D_trackOf D_parked D_changes P_packed P_row P_found P_narrowest P_knownAt R_leavers nR_steps R_steps R_leastShunts R_knownAt W_numbers W_trial W_bestOrder W_readyByNumber W_readyByBest W_soonestEnd W_knownUnits M_units M_kind M_wash M_fuel M_isBroken M_length M_wanted M_leaving M_parked M_stand M_many M_track M_stack M_depth M_canBe M_states M_told M_gone M_cost M_ways M_places M_now M_high M_runSize M_run M_runUnit M_order M_end M_bestOrder M_bestEnd S_positions S_metFrom S_stepTo S_slots S_met S_goal := by
  obtain ⟨U, n, P, k, tr, ln, w, f, hk, e1, e2, e3, e4, e5, e6, e7, e8, e9, e10, e11, e12, e13, hco, hP, hR, hW⟩ := h
  subst e1 e2 e3 e4 e5 e6 e7 e8 e9 e10 e11 e12 e13
  have hU5 := hco.1
  unfold lw_count
  generalize xs (x3 + 1).toNatClampNeg = a
  have fin : ∀ r : Int32, r = r ∧ Inv (c + 1) D_kinds D_washes D_fuels D_isBroken (nI U) D_lengths D_wanted (nI n) D_trackOf (nI P) (nI k) P_packed P_row P_found P_narrowest P_knownAt R_leavers nR_steps R_steps R_leastShunts R_knownAt W_numbers W_trial W_bestOrder W_readyByNumber W_readyByBest W_soonestEnd W_knownUnits (nI U) D_kinds D_washes D_fuels D_isBroken D_lengths (nI n) D_wanted (nI P) M_stand M_many M_track M_stack M_depth M_canBe M_states M_told M_gone M_cost M_ways M_places M_now M_high M_runSize M_run M_runUnit M_order M_end M_bestOrder M_bestEnd S_positions S_metFrom S_stepTo S_slots S_met S_goal := fun r => ⟨rfl, ⟨U, n, P, k, tr, ln, w, f, by omega, rfl, rfl, rfl, rfl, rfl, rfl, rfl, rfl, rfl, rfl, rfl, rfl, rfl, hco, hP, hR, hW⟩⟩
  unfold wp_X6_count
  refine ⟨fun q => ?_, fun q => ?_, fun q => ?_, fun q => ?_, fun q0 q1 q2 q3 => ?_⟩
  · subst q
    exact ⟨fun _ => fin _, fun q => absurd q (by decide), fun q => absurd q (by decide), fun q => absurd q (by decide), fun q => absurd rfl q⟩
  · subst q
    exact ⟨fun q => absurd q (by decide), fun _ => fin _, fun q => absurd q (by decide), fun q => absurd q (by decide), fun _ q => absurd rfl q⟩
  · subst q
    exact ⟨fun q => absurd q (by decide), fun q => absurd q (by decide), fun _ => fin _, fun q => absurd q (by decide), fun _ _ q => absurd rfl q⟩
  · subst q
    have keyM : ∀ (post : Int32 → Prop) (d x : Nat), x + d = U → post (nI (cn (fun u => decide (¬ D_isBroken u = 0)) U)) → Z_X7_count_49 (nI U) D_isBroken (nI n) (nI P) 3 post (d + 1) (nI (cn (fun u => decide (¬ D_isBroken u = 0)) x)) (nI x) := by
      intro post d
      induction d with
      | zero =>
        intro x hx hp
        show Y_X7_count_49 _ _ _ _ _ _ _ _ _
        unfold Y_X7_count_49
        have e : x = U := by omega
        subst e
        exact ⟨fun _ => hp, fun q => absurd ((i_le (by omega) (by omega)).mpr (Nat.le_refl _)) q⟩
      | succ d ih =>
        intro x hx hp
        have ih := ih (x + 1) (by omega) hp
        simp only [cn] at ih
        show Y_X7_count_49 _ _ _ _ _ _ _ _ _
        unfold Y_X7_count_49
        refine ⟨fun q => absurd ((i_le (by omega) (by omega)).mp q) (by omega), fun _ => ⟨i_in (by omega) (by omega), fun q y e => ?_, fun q y e => ?_⟩⟩
        · rw [i_cl (by omega)] at q
          rw [Int32.add_zero] at e
          subst e
          rw [i_1]
          simpa [q] using ih
        · rw [i_cl (by omega)] at q
          rw [i_1] at e
          subst e
          rw [i_1]
          simpa [q] using ih
    have keyC : ∀ (post : Int32 → Prop) (d x : Nat), x + d = U → post (nI (cn (fun u => decide (¬ D_isBroken u = 0)) U)) → Z_X0_brokenUnits_4 D_isBroken (nI U) post (d + 1) (nI (cn (fun u => decide (¬ D_isBroken u = 0)) x)) (nI x) := by
      intro post d
      induction d with
      | zero =>
        intro x hx hp
        show Y_X0_brokenUnits_4 _ _ _ _ _ _
        unfold Y_X0_brokenUnits_4
        have e : x = U := by omega
        subst e
        exact ⟨fun _ => hp, fun q => absurd ((i_le (by omega) (by omega)).mpr (Nat.le_refl _)) q⟩
      | succ d ih =>
        intro x hx hp
        have ih := ih (x + 1) (by omega) hp
        simp only [cn] at ih
        show Y_X0_brokenUnits_4 _ _ _ _ _ _
        unfold Y_X0_brokenUnits_4
        refine ⟨fun q => absurd ((i_le (by omega) (by omega)).mp q) (by omega), fun _ => ⟨i_in (by omega) (by omega), fun q => ?_, fun q => ?_⟩⟩
        · rw [i_cl (by omega)] at q
          rw [i_1]
          simpa [q] using ih
        · rw [i_cl (by omega)] at q
          rw [i_1, i_1]
          simpa [q] using ih
    refine ⟨_, keyC _ U 0 (by omega) ?_⟩
    exact ⟨fun q => absurd q (by decide), fun q => absurd q (by decide), fun q => absurd q (by decide), fun _ => ⟨_, keyM _ U 0 (by omega) (fin _)⟩, fun _ _ _ q => absurd rfl q⟩
  · exact ⟨fun q => absurd q q0, fun q => absurd q q1, fun q => absurd q q2, fun q => absurd q q3, fun _ _ _ _ => fin _⟩
end QA
