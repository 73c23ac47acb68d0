/-! the law's loop -/
theorem law_exit {p : Program} {e : Env} {s : State} {m : MethodId} {below : List Frame} {meth : Method} {c : Code} {l : Launch} {b : Nat} {L : Nat} {xs : Nat → Int32} (C0 : lw_At p s m meth c b L xs) {ce sl : Nat} (h1 : ce ≤ 60000) (h2 : sl ≤ 8922250) {H : Heap} {locs : List Loc} {ls : Array Slot} (hS : va_S (fun q => s.heap.size ≤ q) s.heap H locs) : W p l e room_1 s m #[Value.ref b] below meth c H locs ce sl (lw_Z below #[Value.ref b] s) (F0 m 620 ls []) := by
  obtain ⟨hx, hb, hr, hml, hown, hts, hX, hbl, hlocks, hgv⟩ := C0
  refine lv_iconst (v := 1) hx hb dL_law_620 (by decide) ?_
  refine va_forget (fun q hq => hS.2.2 q hq) ?_
  refine W.widen (k := 60000) (n := 8922250) h1 h2 ?_
  exact lw_ret hx hb hr hlocks dL_law_621
set_option maxHeartbeats 4000000 in
set_option maxRecDepth 100000 in
theorem law_end {p : Program} {e : Env} {s : State} {m : MethodId} {below : List Frame} {meth : Method} {c : Code} {l : Launch} {b : Nat} {D : va_G} {cI cJ cZ : ClassId} {aN aD aD_kinds aD_washes aD_fuels aD_isBroken aD_lengths aD_wanted aD_trackOf aP aP_packed aP_row aR aR_leavers aW aW_numbers aW_trial aW_bestOrder aW_readyByNumber aW_readyByBest aM aM_kind aM_wash aM_fuel aM_isBroken aM_length aM_leaving aM_stand aM_many aM_track aM_stack aM_depth aM_canBe aM_told aM_gone aM_cost aM_ways aM_places aM_now aM_high aM_run aM_runUnit aM_order aM_end aM_bestOrder aM_bestEnd : Nat} {L : Nat} {xs : Nat → Int32} (hL : L ≤ 2048) (C0 : lw_At p s m meth c b L xs) {k ce sl : Nat} (hk : k ≤ 600) (h1 : L < 4 * k + 4) (h2 : ce ≤ 60000) (h3 : sl ≤ 8922250) : HEADP p e s m below meth c (lw_Z below #[Value.ref b] s) l b D cI cJ cZ aN aD aD_kinds aD_washes aD_fuels aD_isBroken aD_lengths aD_wanted aD_trackOf aP aP_packed aP_row aR aR_leavers aW aW_numbers aW_trial aW_bestOrder aW_readyByNumber aW_readyByBest aM aM_kind aM_wash aM_fuel aM_isBroken aM_length aM_leaving aM_stand aM_many aM_track aM_stack aM_depth aM_canBe aM_told aM_gone aM_cost aM_ways aM_places aM_now aM_high aM_run aM_runUnit aM_order aM_end aM_bestOrder aM_bestEnd (Inv k) (nI (4 * k)) (ce) (sl) (18) := by
  obtain ⟨hx, hb, hr, hml, hown, hts, hX, hbl, hlocks, hgv⟩ := id C0
  have hbA : ¬ (fun q => s.heap.size ≤ q) b := Nat.not_le.mpr hbl
  intro aR_steps so D_kinds D_washes D_fuels D_isBroken D_units D_lengths D_wanted D_leaving D_trackOf D_parked D_changes P_packed P_row P_found P_narrowest P_knownAt R_leavers nR_steps R_steps R_leastShunts R_knownAt W_numbers W_trial W_bestOrder W_readyByNumber W_readyByBest W_soonestEnd W_knownUnits M_units M_kind M_wash M_fuel M_isBroken M_length M_wanted M_leaving M_parked M_stand M_many M_track M_stack M_depth M_canBe M_states M_told M_gone M_cost M_ways M_places M_now M_high M_runSize M_run M_runUnit M_order M_end M_bestOrder M_bestEnd S_positions S_metFrom S_stepTo S_slots S_met S_goal hI hz H locs ls hP hD hS hl
  refine lv_iload_n hx hb dL_law_18 rfl (lv_at hl 3 rfl) ?_
  refine lv_aload_n hx hb dL_law_19 rfl (lv_at hl 0 rfl) ?_
  refine va_slen hx hb hX hbl hbA hS dL_law_20 ?_
  refine lv_iconst (v := 4) hx hb dL_law_21 (by decide) ?_
  refine lv_isub hx hb dL_law_22 ?_
  exact lv_icmp_gt (tgt := 620) hx hb dL_law_23 (by decide) (fun _ => law_exit C0 h2 h3 hS) (fun q => absurd ((law_gt hL (by omega)).mpr (by omega)) q)
set_option maxHeartbeats 4000000 in
set_option maxRecDepth 100000 in
theorem law_turn {p : Program} {e : Env} {s : State} {m : MethodId} {below : List Frame} {meth : Method} {c : Code} {l : Launch} {b : Nat} {D : va_G} {cI cJ cZ : ClassId} {aN aD aD_kinds aD_washes aD_fuels aD_isBroken aD_lengths aD_wanted aD_trackOf aP aP_packed aP_row aR aR_leavers aW aW_numbers aW_trial aW_bestOrder aW_readyByNumber aW_readyByBest aM aM_kind aM_wash aM_fuel aM_isBroken aM_length aM_leaving aM_stand aM_many aM_track aM_stack aM_depth aM_canBe aM_told aM_gone aM_cost aM_ways aM_places aM_now aM_high aM_run aM_runUnit aM_order aM_end aM_bestOrder aM_bestEnd : Nat} {L : Nat} {xs : Nat → Int32} (hL : L ≤ 2048) (C0 : lw_At p s m meth c b L xs) {k ce sl : Nat} (hk : k ≤ 600) (h2 : ce + 6 ≤ 60000) (h3 : sl + 15927 ≤ 8922250) (hcase : ∀ j, j < 20 → 4 * k + 4 ≤ L → HEADP p e s m below meth c (lw_Z below #[Value.ref b] s) l b D cI cJ cZ aN aD aD_kinds aD_washes aD_fuels aD_isBroken aD_lengths aD_wanted aD_trackOf aP aP_packed aP_row aR aR_leavers aW aW_numbers aW_trial aW_bestOrder aW_readyByNumber aW_readyByBest aM aM_kind aM_wash aM_fuel aM_isBroken aM_length aM_leaving aM_stand aM_many aM_track aM_stack aM_depth aM_canBe aM_told aM_gone aM_cost aM_ways aM_places aM_now aM_high aM_run aM_runUnit aM_order aM_end aM_bestOrder aM_bestEnd (Inv k) (nI (4 * k)) (ce) (sl) (lpc j)) (hcont : HEADP p e s m below meth c (lw_Z below #[Value.ref b] s) l b D cI cJ cZ aN aD aD_kinds aD_washes aD_fuels aD_isBroken aD_lengths aD_wanted aD_trackOf aP aP_packed aP_row aR aR_leavers aW aW_numbers aW_trial aW_bestOrder aW_readyByNumber aW_readyByBest aM aM_kind aM_wash aM_fuel aM_isBroken aM_length aM_leaving aM_stand aM_many aM_track aM_stack aM_depth aM_canBe aM_told aM_gone aM_cost aM_ways aM_places aM_now aM_high aM_run aM_runUnit aM_order aM_end aM_bestOrder aM_bestEnd (Inv (k + 1)) (nI (4 * k) + 4) (ce + 6) (sl + 15927) (18)) : HEADP p e s m below meth c (lw_Z below #[Value.ref b] s) l b D cI cJ cZ aN aD aD_kinds aD_washes aD_fuels aD_isBroken aD_lengths aD_wanted aD_trackOf aP aP_packed aP_row aR aR_leavers aW aW_numbers aW_trial aW_bestOrder aW_readyByNumber aW_readyByBest aM aM_kind aM_wash aM_fuel aM_isBroken aM_length aM_leaving aM_stand aM_many aM_track aM_stack aM_depth aM_canBe aM_told aM_gone aM_cost aM_ways aM_places aM_now aM_high aM_run aM_runUnit aM_order aM_end aM_bestOrder aM_bestEnd (Inv k) (nI (4 * k)) (ce) (sl) (18) := by
  obtain ⟨hx, hb, hr, hml, hown, hts, hX, hbl, hlocks, hgv⟩ := id C0
  have hbA : ¬ (fun q => s.heap.size ≤ q) b := Nat.not_le.mpr hbl
  intro aR_steps so D_kinds D_washes D_fuels D_isBroken D_units D_lengths D_wanted D_leaving D_trackOf D_parked D_changes P_packed P_row P_found P_narrowest P_knownAt R_leavers nR_steps R_steps R_leastShunts R_knownAt W_numbers W_trial W_bestOrder W_readyByNumber W_readyByBest W_soonestEnd W_knownUnits M_units M_kind M_wash M_fuel M_isBroken M_length M_wanted M_leaving M_parked M_stand M_many M_track M_stack M_depth M_canBe M_states M_told M_gone M_cost M_ways M_places M_now M_high M_runSize M_run M_runUnit M_order M_end M_bestOrder M_bestEnd S_positions S_metFrom S_stepTo S_slots S_met S_goal hI hz H locs ls hP hD hS hl
  refine lv_iload_n hx hb dL_law_18 rfl (lv_at hl 3 rfl) ?_
  refine lv_aload_n hx hb dL_law_19 rfl (lv_at hl 0 rfl) ?_
  refine va_slen hx hb hX hbl hbA hS dL_law_20 ?_
  refine lv_iconst (v := 4) hx hb dL_law_21 (by decide) ?_
  refine lv_isub hx hb dL_law_22 ?_
  refine lv_icmp_gt (tgt := 620) hx hb dL_law_23 (by decide) (fun _ => law_exit C0 (by omega) (by omega) hS) (fun q => ?_)
  have hlt : 4 * k + 4 ≤ L := by
    rcases Nat.lt_or_ge L (4 * k + 4) with z | z
    · exact absurd ((law_gt hL (by omega)).mpr z) q
    · exact z
  have hi0 : vp_in (nI (4 * k)) L := i_in (by omega) (by omega)
  refine lv_aload_n hx hb dL_law_26 rfl (lv_at hl 0 rfl) ?_
  refine lv_iload_n hx hb dL_law_27 rfl (lv_at hl 3 rfl) ?_
  refine va_sld hx hb hX hbl hbA hS hi0 dL_law_28 ?_
  refine lv_bipush (v := 31) hx hb dL_law_29 (by decide) ?_
  refine lv_iand hx hb dL_law_31 ?_
  obtain ⟨j, hj, ej⟩ := and31 (xs (nI (4 * k)).toNatClampNeg)
  rw [ej]
  rcases Nat.lt_or_ge j 20 with h20 | h20
  · refine lv_tableIn (x := nI j) (off := (lpc j : Int) - 32) (tgt := lpc j) hx hb dL_law_32 (by rw [i_toInt (by omega)]; omega) (by rw [i_toInt (by omega)]; omega) (lpc_ok ⟨j, h20⟩) (by omega) ?_
    exact hcase j h20 hlt aR_steps so D_kinds D_washes D_fuels D_isBroken D_units D_lengths D_wanted D_leaving D_trackOf D_parked D_changes P_packed P_row P_found P_narrowest P_knownAt R_leavers nR_steps R_steps R_leastShunts R_knownAt W_numbers W_trial W_bestOrder W_readyByNumber W_readyByBest W_soonestEnd W_knownUnits M_units M_kind M_wash M_fuel M_isBroken M_length M_wanted M_leaving M_parked M_stand M_many M_track M_stack M_depth M_canBe M_states M_told M_gone M_cost M_ways M_places M_now M_high M_runSize M_run M_runUnit M_order M_end M_bestOrder M_bestEnd S_positions S_metFrom S_stepTo S_slots S_met S_goal hI hz H locs ls hP hD hS hl
  · refine lv_tableOut (tgt := 614) hx hb dL_law_32 (Or.inr (by rw [i_toInt (by omega)]; omega)) (by decide) ?_
    refine lv_iinc (v := nI (4 * k) + 4) (lv' := [(3, .int (nI (4 * k) + 4)), (0, .ref b), (1, .ref aN), (2, .ref aM)]) hx hb dL_law_614 hl (k := 3) rfl rfl (by decide) rfl (fun ls hl => ?_)
    refine lv_goto (tgt := 18) hx hb dL_law_617 (by decide) ?_
    refine W.widen (k := ce + 6) (n := sl + 15927) (by omega) (by omega) ?_
    exact hcont aR_steps so D_kinds D_washes D_fuels D_isBroken D_units D_lengths D_wanted D_leaving D_trackOf D_parked D_changes P_packed P_row P_found P_narrowest P_knownAt R_leavers nR_steps R_steps R_leastShunts R_knownAt W_numbers W_trial W_bestOrder W_readyByNumber W_readyByBest W_soonestEnd W_knownUnits M_units M_kind M_wash M_fuel M_isBroken M_length M_wanted M_leaving M_parked M_stand M_many M_track M_stack M_depth M_canBe M_states M_told M_gone M_cost M_ways M_places M_now M_high M_runSize M_run M_runUnit M_order M_end M_bestOrder M_bestEnd S_positions S_metFrom S_stepTo S_slots S_met S_goal (Inv_up hI) hz H locs ls hP hD hS (lv_sub hl [1, 2, 3, 0] rfl)
set_option maxHeartbeats 4000000 in
set_option maxRecDepth 100000 in
theorem law_loop {p : Program} {e : Env} {s : State} {m : MethodId} {below : List Frame} {meth : Method} {c : Code} {l : Launch} {b : Nat} {D : va_G} {cI cJ cZ : ClassId} {aN aD aD_kinds aD_washes aD_fuels aD_isBroken aD_lengths aD_wanted aD_trackOf aP aP_packed aP_row aR aR_leavers aW aW_numbers aW_trial aW_bestOrder aW_readyByNumber aW_readyByBest aM aM_kind aM_wash aM_fuel aM_isBroken aM_length aM_leaving aM_stand aM_many aM_track aM_stack aM_depth aM_canBe aM_told aM_gone aM_cost aM_ways aM_places aM_now aM_high aM_run aM_runUnit aM_order aM_end aM_bestOrder aM_bestEnd : Nat} {L : Nat} {xs : Nat → Int32} (hL : L ≤ 2048) (C0 : lw_At p s m meth c b L xs) (hK : va_K D vwCl (zT cI cJ cZ) s) : ∀ (d k ce sl : Nat), L < 4 * (k + d) + 4 → ce + 6 * d ≤ 60000 → sl + 15927 * d ≤ 8922250 → k + d ≤ 600 → HEADP p e s m below meth c (lw_Z below #[Value.ref b] s) l b D cI cJ cZ aN aD aD_kinds aD_washes aD_fuels aD_isBroken aD_lengths aD_wanted aD_trackOf aP aP_packed aP_row aR aR_leavers aW aW_numbers aW_trial aW_bestOrder aW_readyByNumber aW_readyByBest aM aM_kind aM_wash aM_fuel aM_isBroken aM_length aM_leaving aM_stand aM_many aM_track aM_stack aM_depth aM_canBe aM_told aM_gone aM_cost aM_ways aM_places aM_now aM_high aM_run aM_runUnit aM_order aM_end aM_bestOrder aM_bestEnd (Inv k) (nI (4 * k)) (ce) (sl) (18) := by
  intro d
  induction d with
  | zero =>
    intro k ce sl h1 h2 h3 h4
    exact law_end hL C0 (by omega) (by omega) (by omega) (by omega)
  | succ d ih =>
    intro k ce sl h1 h2 h3 h4
    have ih := ih (k + 1) (ce + 6) (sl + 15927) (by omega) (by omega) (by omega) (by omega)
    have e4 : nI (4 * k) + 4 = nI (4 * (k + 1)) := by show nI (4 * k) + nI 4 = _; rw [nI_add]; rfl
    rw [← e4] at ih
    refine law_turn hL C0 (by omega) (by omega) (by omega) (fun j hj hlt => ?_) ih
    have e2 : nI (4 * k) + 2 = nI (4 * k + 2) := by show nI (4 * k) + nI 2 = _; rw [nI_add]
    have e3 : nI (4 * k) + 3 = nI (4 * k + 3) := by show nI (4 * k) + nI 3 = _; rw [nI_add]
    have hi1 : vp_in (nI (4 * k) + 1) L := by rw [i_1]; exact i_in (by omega) (by omega)
    have hi2 : vp_in (nI (4 * k) + 2) L := by rw [e2]; exact i_in (by omega) (by omega)
    have hi3 : vp_in (nI (4 * k) + 3) L := by rw [e3]; exact i_in (by omega) (by omega)
    have hc : k < 1000 := by omega
    match j, hj with
    | 0, _ => exact law_case_unit C0 hK k hc _ hi1 hi2 hi3 ce sl (by omega) (by omega) ih
    | 1, _ => exact law_case_broken C0 hK k hc _ hi1 hi2 hi3 ce sl (by omega) (by omega) ih
    | 2, _ => exact law_case_length C0 hK k hc _ hi1 hi2 hi3 ce sl (by omega) (by omega) ih
    | 3, _ => exact law_case_leave C0 hK k hc _ hi1 hi2 hi3 ce sl (by omega) (by omega) ih
    | 4, _ => exact law_case_stay C0 hK k hc _ hi1 hi2 hi3 ce sl (by omega) (by omega) ih
    | 5, _ => exact law_case_clean C0 hK k hc _ hi1 hi2 hi3 ce sl (by omega) (by omega) ih
    | 6, _ => exact law_case_parking C0 hK k hc _ hi1 hi2 hi3 ce sl (by omega) (by omega) ih
    | 7, _ => exact law_case_narrow C0 hK k hc _ hi1 hi2 hi3 ce sl (by omega) (by omega) ih
    | 8, _ => exact law_case_why C0 hK k hc _ hi1 hi2 hi3 ce sl (by omega) (by omega) ih
    | 9, _ => exact law_case_park C0 hK k hc _ hi1 hi2 hi3 ce sl (by omega) (by omega) ih
    | 10, _ => exact law_case_clear C0 hK k hc _ hi1 hi2 hi3 ce sl (by omega) (by omega) ih
    | 11, _ => exact law_case_at C0 hK k hc _ hi1 hi2 hi3 ce sl (by omega) (by omega) ih
    | 12, _ => exact law_case_shunts C0 hK k hc _ hi1 hi2 hi3 ce sl (by omega) (by omega) ih
    | 13, _ => exact law_case_step C0 hK k hc _ hi1 hi2 hi3 ce sl (by omega) (by omega) ih
    | 14, _ => exact law_case_leaves C0 hK k hc _ hi1 hi2 hi3 ce sl (by omega) (by omega) ih
    | 15, _ => exact law_case_ready C0 hK k hc _ hi1 hi2 hi3 ce sl (by omega) (by omega) ih
    | 16, _ => exact law_case_ends C0 hK k hc _ hi1 hi2 hi3 ce sl (by omega) (by omega) ih
    | 17, _ => exact law_case_best C0 hK k hc _ hi1 hi2 hi3 ce sl (by omega) (by omega) ih
    | 18, _ => exact law_case_late C0 hK k hc _ hi1 hi2 hi3 ce sl (by omega) (by omega) ih
    | 19, _ => exact law_case_count C0 hK k hc _ hi1 hi2 hi3 ce sl (by omega) (by omega) ih
    | j + 20, h => exact absurd h (by omega)
