/-! park, clear, at -/
theorem sq_congr {x : Nat} {tr tr' : Nat → Nat} (h : ∀ u, u < x → tr u = tr' u) (t : Nat) : sq x tr t = sq x tr' t := by
  unfold sq
  refine List.filter_congr (fun u hu => ?_)
  rw [h u (List.mem_range.mp hu)]
theorem SM_park {P t : Nat} {tr : Nat → Nat} {stand many : Nat → Int32} (hP : P < 5) (ht : t < 3) (h : SM P tr stand many) : SM (P + 1) (upn tr P t) (upd stand (5 * t + (sq P tr t).length) (nI P)) (upd many t (nI ((sq P tr t).length + 1))) := by
  have hc : ∀ t', sq P (upn tr P t) t' = sq P tr t' := fun t' => sq_congr (fun u hu => upn_o _ _ (by omega)) t'
  have hs := upn_s tr P t
  intro t' ht'
  obtain ⟨h1, h2⟩ := h t' ht'
  have hle := sq_le tr P t'
  have hle2 := sq_le tr P t
  by_cases z : t' = t
  · subst z
    have e : sq (P + 1) (upn tr P t') t' = sq P tr t' ++ [P] := by
      have := sq_in P (upn tr P t')
      rw [hs, hc] at this
      exact this
    rw [e, List.length_append, up_s]
    refine ⟨rfl, fun i hi => ?_⟩
    rw [List.length_singleton] at hi
    by_cases zi : i = (sq P tr t').length
    · subst zi
      rw [up_s]
      congr 1
      simp
    · rw [up_o _ _ (by omega), h2 i (by omega)]
      congr 1
      rw [List.getD_eq_getElem?_getD, List.getD_eq_getElem?_getD, List.getElem?_append_left (by omega)]
  · have e : sq (P + 1) (upn tr P t) t' = sq P tr t' := by
      rw [sq_out P (upn tr P t) (by rw [hs]; exact z), hc]
    rw [e, up_o _ _ z]
    refine ⟨h1, fun i hi => ?_⟩
    rw [up_o _ _ (by omega), h2 i hi]
theorem t_standingOn {P t : Nat} {tr : Nat → Nat} {trackOf : Nat → Int32} (hP : P ≤ 5) (ht : t < 3) (htr : ∀ u, tr u < 3) (hto : ∀ u, u < P → trackOf u = nI (tr u)) {post : Int32 → Prop} (hp : post (nI (sq P tr t).length)) : wp_X0_standingOn trackOf (nI P) (nI t) post := by
  have key : ∀ (d x : Nat), x + d = P → Z_X0_standingOn_4 trackOf (nI P) (nI t) post (d + 1) (nI (sq x tr t).length) (nI x) := by
    intro d
    induction d with
    | zero =>
      intro x hx
      show Y_X0_standingOn_4 _ _ _ _ _ _ _
      unfold Y_X0_standingOn_4
      have e : x = P := by omega
      subst e
      exact ⟨fun _ => hp, fun q => absurd ((i_le (by omega) (by omega)).mpr (Nat.le_refl _)) q⟩
    | succ d ih =>
      intro x hx
      have ih := ih (x + 1) (by omega)
      have htx := htr x
      show Y_X0_standingOn_4 _ _ _ _ _ _ _
      unfold Y_X0_standingOn_4
      refine ⟨fun q => absurd ((i_le (by omega) (by omega)).mp q) (by omega), fun _ => ⟨i_in (by omega) (by omega), ?_⟩⟩
      rw [i_cl (by omega), hto x (by omega), i_1, i_1]
      refine ⟨fun q => ?_, fun q => ?_⟩
      · have hne : t ≠ tr x := fun e => q (by rw [e])
        rw [sq_out x tr hne] at ih
        exact ih
      · have e := (i_eq (by omega) (by omega)).mp q
        rw [← e, sq_in, List.length_append] at ih
        rw [← e]
        exact ih
  exact ⟨_, key P 0 (by omega)⟩
theorem t_fromLast {P t i : Nat} {tr : Nat → Nat} {trackOf : Nat → Int32} (hP : P ≤ 5) (ht : t < 3) (hi : i < 2147483648) (htr : ∀ u, tr u < 3) (hto : ∀ u, u < P → trackOf u = nI (tr u)) {post : Int32 → Prop} (hno : (sq P tr t).length ≤ i → post (-1)) (hyes : i < (sq P tr t).length → post (nI ((sq P tr t).getD ((sq P tr t).length - 1 - i) 0))) : wp_X0_fromLast trackOf (nI P) (nI t) (nI i) post := by
  have key : ∀ (x j : Nat), j ≤ i → x + j ≤ P → ((sq x tr t).length ≤ i - j → post (-1)) → (i - j < (sq x tr t).length → post (nI ((sq x tr t).getD ((sq x tr t).length - 1 - (i - j)) 0))) → Z_X0_fromLast_10 trackOf (nI P) (nI t) (nI i) post (x + 1) (nI j) (nI x - 1) := by
    intro x
    induction x with
    | zero =>
      intro j hj hx h1 h2
      show Y_X0_fromLast_10 _ _ _ _ _ _ _ _
      unfold Y_X0_fromLast_10
      refine ⟨fun _ => h1 (by simp [sq]), fun q => absurd (by decide) q⟩
    | succ x ih =>
      intro j hj hx h1 h2
      have htx := htr x
      have hle := sq_le tr x t
      show Y_X0_fromLast_10 _ _ _ _ _ _ _ _
      unfold Y_X0_fromLast_10
      rw [nI_pred]
      refine ⟨fun q => absurd q (nI_pos (by omega)), fun _ => ⟨i_in (by omega) (by omega), ?_⟩⟩
      rw [i_cl (by omega), hto x (by omega), i_1, i_m1]
      refine ⟨fun q => ?_, fun q => ⟨fun q2 => ?_, fun q2 => ?_⟩⟩
      · have hne : t ≠ tr x := fun e => q (by rw [e])
        rw [sq_out x tr hne] at h1 h2
        exact ih j hj (by omega) h1 h2
      · have e := (i_eq (by omega) (by omega)).mp q
        have hsq : sq (x + 1) tr t = sq x tr t ++ [x] := by rw [← e]; exact sq_in x tr
        rw [hsq, List.length_append, List.length_singleton] at h1 h2
        have hji : j ≠ i := fun e => q2 (by rw [e])
        refine ih (j + 1) (by omega) (by omega) (fun z => h1 (by omega)) (fun z => ?_)
        have := h2 (by omega)
        rw [List.getD_eq_getElem?_getD, List.getElem?_append_left (by omega)] at this
        rw [List.getD_eq_getElem?_getD, show (sq x tr t).length - 1 - (i - (j + 1)) = (sq x tr t).length + 1 - 1 - (i - j) by omega]
        exact this
      · have e := (i_eq (by omega) (by omega)).mp q
        have e2 := (i_eq (by omega) (by omega)).mp q2
        subst e2
        have hsq : sq (x + 1) tr t = sq x tr t ++ [x] := by rw [← e]; exact sq_in x tr
        rw [hsq, List.length_append, List.length_singleton] at h2
        have := h2 (by omega)
        rw [show (sq x tr t).length + 1 - 1 - (j - j) = (sq x tr t).length by omega] at this
        simpa using this
  unfold wp_X0_fromLast
  intro y1 e1
  subst e1
  exact ⟨_, key P 0 (by omega) (by omega) hno hyes⟩
section QB
variable {c : Nat} {xs : Nat → Int32} {x3 : Int32}
variable {D_kinds : Nat → Int32} {D_washes : Nat → Int32} {D_fuels : Nat → Int32} {D_isBroken : Nat → Int32} {D_units : Int32} {D_lengths : Nat → Int32} {D_wanted : Nat → Int32} {D_leaving : Int32} {D_trackOf : Nat → Int32} {D_parked : Int32} {D_changes : Int32} {P_packed : Nat → Int32} {P_row : Nat → Int32} {P_found : Int32} {P_narrowest : Int32} {P_knownAt : Int32} {R_leavers : Nat → Int32} {nR_steps : Nat} {R_steps : Nat → Int32} {R_leastShunts : Int32} {R_knownAt : Int32} {W_numbers : Nat → Int32} {W_trial : Nat → Int32} {W_bestOrder : Nat → Int32} {W_readyByNumber : Nat → Int32} {W_readyByBest : Nat → Int32} {W_soonestEnd : Int32} {W_knownUnits : Int32} {M_units : Int32} {M_kind : Nat → Int32} {M_wash : Nat → Int32} {M_fuel : Nat → Int32} {M_isBroken : Nat → Int32} {M_length : Nat → Int32} {M_wanted : Int32} {M_leaving : Nat → Int32} {M_parked : Int32} {M_stand : Nat → Int32} {M_many : Nat → Int32} {M_track : Nat → Int32} {M_stack : Nat → Int32} {M_depth : Nat → Int32} {M_canBe : Nat → Int32} {M_states : Int32} {M_told : Nat → Int64} {M_gone : Nat → Int32} {M_cost : Nat → Int32} {M_ways : Nat → Int32} {M_places : Nat → Int32} {M_now : Nat → Int32} {M_high : Nat → Int32} {M_runSize : Int32} {M_run : Nat → Int32} {M_runUnit : Nat → Int32} {M_order : Nat → Int32} {M_end : Nat → Int32} {M_bestOrder : Nat → Int32} {M_bestEnd : Nat → Int32} {S_positions : Nat → Int64} {S_metFrom : Nat → Int32} {S_stepTo : Nat → Int32} {S_slots : Nat → Int32} {S_met : Int32} {S_goal : Int32}
theorem q_park (hc : c < 1000) (h : Inv c D_kinds D_washes D_fuels D_isBroken D_units D_lengths D_wanted D_leaving D_trackOf D_parked D_changes P_packed P_row P_found P_narrowest P_knownAt R_leavers nR_steps R_steps R_leastShunts R_knownAt W_numbers W_trial W_bestOrder W_readyByNumber W_readyByBest W_soonestEnd W_knownUnits M_units M_kind M_wash M_fuel M_isBroken M_length M_wanted M_leaving M_parked M_stand M_many M_track M_stack M_depth M_canBe M_states M_told M_gone M_cost M_ways M_places M_now M_high M_runSize M_run M_runUnit M_order M_end M_bestOrder M_bestEnd S_positions S_metFrom S_stepTo S_slots S_met S_goal) : lw_park xs x3 (Inv (c + 1)) D_kinds D_washes D_fuels D_isBroken D_units D_lengths D_wanted D_leaving D_trackOf D_parked D_changes P_packed P_row P_found P_narrowest P_knownAt R_leavers nR_steps R_steps R_leastShunts R_knownAt W_numbers W_trial W_bestOrder W_readyByNumber W_readyByBest W_soonestEnd W_knownUnits M_units M_kind M_wash M_fuel M_isBroken M_length M_wanted M_leaving M_parked M_stand M_many M_track M_stack M_depth M_canBe M_states M_told M_gone M_cost M_ways M_places M_now M_high M_runSize M_run M_runUnit M_order M_end M_bestOrder M_bestEnd S_positions S_metFrom S_stepTo S_slots S_met S_goal := by
  obtain ⟨U, n, P, k, tr, ln, w, f, hk, e1, e2, e3, e4, e5, e6, e7, e8, e9, e10, e11, e12, e13, hco, hP, hR, hW⟩ := h
  subst e1 e2 e3 e4 e5 e6 e7 e8 e9 e10 e11 e12 e13
  have fin : ∀ r : Int32, r = r ∧ Inv (c + 1) D_kinds D_washes D_fuels D_isBroken (nI U) D_lengths D_wanted (nI n) D_trackOf (nI P) (nI k) P_packed P_row P_found P_narrowest P_knownAt R_leavers nR_steps R_steps R_leastShunts R_knownAt W_numbers W_trial W_bestOrder W_readyByNumber W_readyByBest W_soonestEnd W_knownUnits (nI U) D_kinds D_washes D_fuels D_isBroken D_lengths (nI n) D_wanted (nI P) M_stand M_many M_track M_stack M_depth M_canBe M_states M_told M_gone M_cost M_ways M_places M_now M_high M_runSize M_run M_runUnit M_order M_end M_bestOrder M_bestEnd S_positions S_metFrom S_stepTo S_slots S_met S_goal := fun r => ⟨rfl, ⟨U, n, P, k, tr, ln, w, f, by omega, rfl, rfl, rfl, rfl, rfl, rfl, rfl, rfl, rfl, rfl, rfl, rfl, rfl, hco, hP, hR, hW⟩⟩
  obtain ⟨c1, c2, c3, c4, c5, c6, c7, c8, c9, c10, c11, c12⟩ := hco
  unfold lw_park
  generalize xs (x3 + 1).toNatClampNeg = a
  have h10 : ¬ (1 : Int32) = 0 := by decide
  unfold wp_X6_park wp_X7_park
  rcases cls 3 (by omega) a with ⟨t, ht, rfl⟩ | ha
  · have hin : vp_in (nI t) 3 := i_in ht (by omega)
    have hle := sq_le tr P t
    obtain ⟨s1, s2⟩ := c6 t ht
    obtain ⟨l1, l2⟩ := c9 t ht
    refine t_isTrackY ht ⟨fun _ => ⟨fun q => ?_, fun q => ?_⟩, fun q => absurd q h10⟩
    · have hPU := (i_lt (by omega) (by omega)).mp q
      refine t_standingOn (by omega) ht c4 c5 ⟨hin, ?_⟩
      rw [i_cl (a := t) (by omega), s1, l1]
      refine ⟨fun q2 => ?_, fun q2 => ?_⟩
      · have hlt := (i_lt (by omega) (by omega)).mp q2
        unfold wp_X0_parkNext
        refine ⟨i_in (by omega) (by omega), fun y2 e2 y3 e3 => ?_⟩
        rw [i_1] at e2 e3
        subst e2 e3
        refine t_isTrackMY ht ⟨fun _ => ⟨fun _ => ⟨hin, hin, fun _ => ⟨hin, ?_⟩, fun q => absurd q2 q⟩, fun q => absurd ((i_eq (by omega) (by omega)).mp q) (by omega)⟩, fun q => absurd q h10⟩
        have hidx : ((5 : Int32) * nI t) + nI (sq P tr t).length = nI (5 * t + (sq P tr t).length) := by
          show nI 5 * nI t + nI (sq P tr t).length = _
          rw [pk_mul, nI_add]
        rw [hidx]
        refine ⟨i_in (by omega) (by omega), hin, fun y11 e11 => ⟨hin, fun y12 e12 => ?_⟩⟩
        rw [i_1] at e11 e12
        subst e11 e12
        rw [nI_pred, i_cl (by omega), i_cl (by omega)]
        refine ⟨rfl, ⟨U, n, P + 1, k + 1, upn tr P t, ln, w, f, by omega, rfl, rfl, rfl, rfl, rfl, rfl, rfl, rfl, rfl, rfl, rfl, rfl, rfl, ?_, ⟨kno_s hP.1, fun q => absurd q (kno_n (by omega) hP.1)⟩, ⟨kno_s hR.1, fun q => absurd q (kno_n (by omega) hR.1)⟩, hW⟩⟩
        refine ⟨c1, c2, by omega, fun u => ?_, fun u hu => ?_, SM_park (by omega) ht c6, c7, c8, c9, c10, c11, c12⟩
        · by_cases z : u = P
          · subst z; rw [upn_s]; exact ht
          · rw [upn_o _ _ z]; exact c4 u
        · by_cases z : u = P
          · subst z; rw [up_s, upn_s]
          · rw [up_o _ _ z, upn_o _ _ z]; exact c5 u (by omega)
      · exact t_isTrackMY ht ⟨fun _ => ⟨fun _ => ⟨hin, hin, fun q => absurd q q2, fun _ => fin _⟩, fun q => absurd ((i_eq (by omega) (by omega)).mp q) (by omega)⟩, fun q => absurd q h10⟩
    · have hPU : P = U := by
        rcases Nat.lt_or_ge P U with z | z
        · exact absurd ((i_lt (by omega) (by omega)).mpr z) q
        · omega
      exact t_isTrackMY ht ⟨fun _ => ⟨fun q => absurd (by rw [hPU]) q, fun _ => fin _⟩, fun q => absurd q h10⟩
  · refine t_isTrackN ha ⟨fun q => absurd rfl q, fun _ => ?_⟩
    exact t_isTrackMN ha ⟨fun q => absurd rfl q, fun _ => fin _⟩
theorem q_clear (hc : c < 1000) (h : Inv c D_kinds D_washes D_fuels D_isBroken D_units D_lengths D_wanted D_leaving D_trackOf D_parked D_changes P_packed P_row P_found P_narrowest P_knownAt R_leavers nR_steps R_steps R_leastShunts R_knownAt W_numbers W_trial W_bestOrder W_readyByNumber W_readyByBest W_soonestEnd W_knownUnits M_units M_kind M_wash M_fuel M_isBroken M_length M_wanted M_leaving M_parked M_stand M_many M_track M_stack M_depth M_canBe M_states M_told M_gone M_cost M_ways M_places M_now M_high M_runSize M_run M_runUnit M_order M_end M_bestOrder M_bestEnd S_positions S_metFrom S_stepTo S_slots S_met S_goal) : lw_clear xs x3 (Inv (c + 1)) D_kinds D_washes D_fuels D_isBroken D_units D_lengths D_wanted D_leaving D_trackOf D_parked D_changes P_packed P_row P_found P_narrowest P_knownAt R_leavers nR_steps R_steps R_leastShunts R_knownAt W_numbers W_trial W_bestOrder W_readyByNumber W_readyByBest W_soonestEnd W_knownUnits M_units M_kind M_wash M_fuel M_isBroken M_length M_wanted M_leaving M_parked M_stand M_many M_track M_stack M_depth M_canBe M_states M_told M_gone M_cost M_ways M_places M_now M_high M_runSize M_run M_runUnit M_order M_end M_bestOrder M_bestEnd S_positions S_metFrom S_stepTo S_slots S_met S_goal := by
  obtain ⟨U, n, P, k, tr, ln, w, f, hk, e1, e2, e3, e4, e5, e6, e7, e8, e9, e10, e11, e12, e13, hco, hP, hR, hW⟩ := h
  subst e1 e2 e3 e4 e5 e6 e7 e8 e9 e10 e11 e12 e13
  obtain ⟨c1, c2, c3, c4, c5, c6, c7, c8, c9, c10, c11, c12⟩ := hco
  unfold lw_clear wp_X6_clear wp_X7_clear wp_X0_unparkAll
  intro y1 e1
  rw [i_1] at e1
  subst e1
  refine ⟨4, ?_⟩
  show Y_X7_clear_12 _ _ _ _ _ _
  unfold Y_X7_clear_12
  refine ⟨fun q => absurd q (by decide), fun _ => ⟨i_in (a := 0) (by omega) (by omega), ?_⟩⟩
  show Y_X7_clear_12 _ _ _ _ _ _
  unfold Y_X7_clear_12
  refine ⟨fun q => absurd q (by decide), fun _ => ⟨i_in (a := 1) (by omega) (by omega), ?_⟩⟩
  show Y_X7_clear_12 _ _ _ _ _ _
  unfold Y_X7_clear_12
  refine ⟨fun q => absurd q (by decide), fun _ => ⟨i_in (a := 2) (by omega) (by omega), ?_⟩⟩
  show Y_X7_clear_12 _ _ _ _ _ _
  unfold Y_X7_clear_12
  refine ⟨fun _ => ?_, fun q => absurd (by decide) q⟩
  refine ⟨rfl, ⟨U, n, 0, k + 1, tr, ln, w, f, by omega, rfl, rfl, rfl, rfl, rfl, rfl, rfl, rfl, rfl, rfl, rfl, rfl, rfl, ?_, ⟨kno_s hP.1, fun q => absurd q (kno_n (by omega) hP.1)⟩, ⟨kno_s hR.1, fun q => absurd q (kno_n (by omega) hR.1)⟩, hW⟩⟩
  refine ⟨c1, c2, by omega, c4, fun u hu => absurd hu (Nat.not_lt_zero u), fun t ht => ⟨?_, fun i hi => absurd hi (by simp [sq])⟩, c7, c8, c9, c10, c11, c12⟩
  have e0 : (0 : Int32).toNatClampNeg = 0 := by decide
  have e1 : ((0 : Int32) + 1).toNatClampNeg = 1 := by decide
  have e2 : ((0 : Int32) + 1 + 1).toNatClampNeg = 2 := by decide
  rw [e0, e1, e2]
  have hs : nI (sq 0 tr t).length = 0 := by simp [sq]; rfl
  rw [hs]
  rcases (show t = 0 ∨ t = 1 ∨ t = 2 by omega) with z | z | z
  · subst z; rw [up_o _ _ (by omega), up_o _ _ (by omega), up_s]
  · subst z; rw [up_o _ _ (by omega), up_s]
  · subst z; rw [up_s]
theorem q_at (hc : c < 1000) (h : Inv c D_kinds D_washes D_fuels D_isBroken D_units D_lengths D_wanted D_leaving D_trackOf D_parked D_changes P_packed P_row P_found P_narrowest P_knownAt R_leavers nR_steps R_steps R_leastShunts R_knownAt W_numbers W_trial W_bestOrder W_readyByNumber W_readyByBest W_soonestEnd W_knownUnits M_units M_kind M_wash M_fuel M_isBroken M_length M_wanted M_leaving M_parked M_stand M_many M_track M_stack M_depth M_canBe M_states M_told M_gone M_cost M_ways M_places M_now M_high M_runSize M_run M_runUnit M_order M_end M_bestOrder M_bestEnd S_positions S_metFrom S_stepTo S_slots S_met S_goal) : lw_at xs x3 (Inv (c + 1)) D_kinds D_washes D_fuels D_isBroken D_units D_lengths D_wanted D_leaving D_trackOf D_parked D_changes P_packed P_row P_found P_narrowest P_knownAt R_leavers nR_steps R_steps R_leastShunts R_knownAt W_numbers W_trial W_bestOrder W_readyByNumber W_readyByBest W_soonestEnd W_knownUnits M_units M_kind M_wash M_fuel M_isBroken M_length M_wanted M_leaving M_parked M_stand M_many M_track M_stack M_depth M_canBe M_states M_told M_gone M_cost M_ways M_places M_now M_high M_runSize M_run M_runUnit M_order M_end M_bestOrder M_bestEnd S_positions S_metFrom S_stepTo S_slots S_met S_goal := by
  obtain ⟨U, n, P, k, tr, ln, w, f, hk, e1, e2, e3, e4, e5, e6, e7, e8, e9, e10, e11, e12, e13, hco, hP, hR, hW⟩ := h
  subst e1 e2 e3 e4 e5 e6 e7 e8 e9 e10 e11 e12 e13
  have fin : ∀ r : Int32, r = r ∧ Inv (c + 1) D_kinds D_washes D_fuels D_isBroken (nI U) D_lengths D_wanted (nI n) D_trackOf (nI P) (nI k) P_packed P_row P_found P_narrowest P_knownAt R_leavers nR_steps R_steps R_leastShunts R_knownAt W_numbers W_trial W_bestOrder W_readyByNumber W_readyByBest W_soonestEnd W_knownUnits (nI U) D_kinds D_washes D_fuels D_isBroken D_lengths (nI n) D_wanted (nI P) M_stand M_many M_track M_stack M_depth M_canBe M_states M_told M_gone M_cost M_ways M_places M_now M_high M_runSize M_run M_runUnit M_order M_end M_bestOrder M_bestEnd S_positions S_metFrom S_stepTo S_slots S_met S_goal := fun r => ⟨rfl, ⟨U, n, P, k, tr, ln, w, f, by omega, rfl, rfl, rfl, rfl, rfl, rfl, rfl, rfl, rfl, rfl, rfl, rfl, rfl, hco, hP, hR, hW⟩⟩
  obtain ⟨c1, c2, c3, c4, c5, c6, c7, c8, c9, c10, c11, c12⟩ := hco
  unfold lw_at
  generalize xs (x3 + 1).toNatClampNeg = a
  generalize xs (x3 + 2).toNatClampNeg = b
  have h10 : ¬ (1 : Int32) = 0 := by decide
  unfold wp_X6_at wp_X7_at
  rcases cls 3 (by omega) a with ⟨t, ht, rfl⟩ | ha
  · have hin : vp_in (nI t) 3 := i_in ht (by omega)
    have hle := sq_le tr P t
    obtain ⟨s1, s2⟩ := c6 t ht
    refine t_isTrackY ht ⟨fun _ => ⟨fun q => ?_, fun q => ?_⟩, fun q => absurd q h10⟩
    · obtain ⟨i, hi, rfl⟩ := nI_of (Int32.not_lt.mpr q)
      refine t_fromLast (by omega) ht (by omega) c4 c5 (fun z => ?_) (fun z => ?_)
      · refine t_isTrackMY ht ⟨fun _ => ⟨fun _ => ⟨hin, ?_⟩, fun q2 => absurd q q2⟩, fun q => absurd q h10⟩
        rw [i_cl (a := t) (by omega), s1]
        exact ⟨fun _ => fin _, fun q2 => absurd ((i_le (by omega) (by omega)).mpr z) q2⟩
      · refine t_isTrackMY ht ⟨fun _ => ⟨fun _ => ⟨hin, ?_⟩, fun q2 => absurd q q2⟩, fun q => absurd q h10⟩
        rw [i_cl (a := t) (by omega), s1]
        have hidx : (((5 : Int32) * nI t) + nI (sq P tr t).length) - 1 - nI i = nI (5 * t + ((sq P tr t).length - 1 - i)) := by
          have h1 : ((5 : Int32) * nI t) + nI (sq P tr t).length = nI (5 * t + (sq P tr t).length) := by
            show nI 5 * nI t + nI (sq P tr t).length = _
            rw [pk_mul, nI_add]
          rw [h1]
          show nI _ - nI 1 - nI i = _
          rw [i_sub (by omega), i_sub (by omega)]
          congr 1
          omega
        rw [hidx]
        refine ⟨fun q2 => absurd ((i_le (by omega) (by omega)).mp q2) (by omega), fun _ => ⟨hin, i_in (by omega) (by omega), ?_⟩⟩
        rw [i_cl (by omega), s2 _ (by omega)]
        exact fin _
    · exact t_isTrackMY ht ⟨fun _ => ⟨fun q2 => absurd q2 q, fun _ => fin _⟩, fun q => absurd q h10⟩
  · refine t_isTrackN ha ⟨fun q => absurd rfl q, fun _ => ?_⟩
    exact t_isTrackMN ha ⟨fun q => absurd rfl q, fun _ => fin _⟩
end QB
