/-! the law's start: two new objects -/
def I6 (D_kinds : Nat → Int32) (D_washes : Nat → Int32) (D_fuels : Nat → Int32) (D_isBroken : Nat → Int32) (D_units : Int32) (D_lengths : Nat → Int32) (D_wanted : Nat → Int32) (D_leaving : Int32) (D_trackOf : Nat → Int32) (D_parked : Int32) (D_changes : Int32) (P_packed : Nat → Int32) (P_row : Nat → Int32) (P_found : Int32) (P_narrowest : Int32) (P_knownAt : Int32) (R_leavers : Nat → Int32) (R_steps : Nat → Int32) (R_leastShunts : Int32) (R_knownAt : Int32) (W_numbers : Nat → Int32) (W_trial : Nat → Int32) (W_bestOrder : Nat → Int32) (W_readyByNumber : Nat → Int32) (W_readyByBest : Nat → Int32) (W_soonestEnd : Int32) (W_knownUnits : Int32) : Prop := D_kinds = (fun _ => (0 : Int32)) ∧ D_washes = (fun _ => (0 : Int32)) ∧ D_fuels = (fun _ => (0 : Int32)) ∧ D_isBroken = (fun _ => (0 : Int32)) ∧ D_units = 0 ∧ D_lengths = (upd (upd (upd (fun _ => (0 : Int32)) (0 : Int32).toNatClampNeg (5 : Int32)) (1 : Int32).toNatClampNeg (5 : Int32)) (2 : Int32).toNatClampNeg (5 : Int32)) ∧ D_wanted = (fun _ => (0 : Int32)) ∧ D_leaving = 0 ∧ D_parked = 0 ∧ D_changes = 0 ∧ P_knownAt = -1 ∧ R_knownAt = -1 ∧ (∀ i, i < 5 → W_numbers i = nI i) ∧ W_soonestEnd = 0 ∧ W_knownUnits = 0
def I7 (M_units : Int32) (M_kind : Nat → Int32) (M_wash : Nat → Int32) (M_fuel : Nat → Int32) (M_isBroken : Nat → Int32) (M_length : Nat → Int32) (M_wanted : Int32) (M_leaving : Nat → Int32) (M_parked : Int32) (M_stand : Nat → Int32) (M_many : Nat → Int32) (M_track : Nat → Int32) (M_stack : Nat → Int32) (M_depth : Nat → Int32) (M_canBe : Nat → Int32) (M_states : Int32) (M_told : Nat → Int64) (M_gone : Nat → Int32) (M_cost : Nat → Int32) (M_ways : Nat → Int32) (M_places : Nat → Int32) (M_now : Nat → Int32) (M_high : Nat → Int32) (M_runSize : Int32) (M_run : Nat → Int32) (M_runUnit : Nat → Int32) (M_order : Nat → Int32) (M_end : Nat → Int32) (M_bestOrder : Nat → Int32) (M_bestEnd : Nat → Int32) : Prop := M_units = 0 ∧ M_kind = (fun _ => (0 : Int32)) ∧ M_wash = (fun _ => (0 : Int32)) ∧ M_fuel = (fun _ => (0 : Int32)) ∧ M_isBroken = (fun _ => (0 : Int32)) ∧ M_length = (upd (upd (upd (fun _ => (0 : Int32)) (0 : Int32).toNatClampNeg (5 : Int32)) (1 : Int32).toNatClampNeg (5 : Int32)) (2 : Int32).toNatClampNeg (5 : Int32)) ∧ M_wanted = 0 ∧ M_leaving = (fun _ => (0 : Int32)) ∧ M_parked = 0 ∧ M_many = (fun _ => (0 : Int32))
theorem q_init6 : wp_X6_init I6 := by
  unfold wp_X6_init wp_X0_init
  refine t_fillA (len0 := 3) (by omega) (fun a h1 h2 => ?_)
  unfold wp_X1_init wp_X3_init wp_X5_init
  have ea : a = (upd (upd (upd (fun _ => (0 : Int32)) (0 : Int32).toNatClampNeg (5 : Int32)) (1 : Int32).toNatClampNeg (5 : Int32)) (2 : Int32).toNatClampNeg (5 : Int32)) := by
    funext i
    have e0 : (0 : Int32).toNatClampNeg = 0 := by decide
    have e1 : (1 : Int32).toNatClampNeg = 1 := by decide
    have e2 : (2 : Int32).toNatClampNeg = 2 := by decide
    rw [e0, e1, e2]
    rcases Nat.lt_or_ge i 3 with z | z
    · rw [h1 i z]
      rcases (show i = 0 ∨ i = 1 ∨ i = 2 by omega) with q | q | q
      · subst q; rw [up_o _ _ (by omega), up_o _ _ (by omega), up_s]
      · subst q; rw [up_o _ _ (by omega), up_s]
      · subst q; rw [up_s]
    · rw [h2 i z, up_o _ _ (by omega), up_o _ _ (by omega), up_o _ _ (by omega)]
  have key : ∀ (post : (Nat → Int32) → (Nat → Int32) → (Nat → Int32) → (Nat → Int32) → (Nat → Int32) → Int32 → Int32 → Prop) (t b rn rb : Nat → Int32) (se kn : Int32), (∀ g : Nat → Int32, (∀ i, i < 5 → g i = nI i) → post g t b rn rb se kn) → ∀ (d x : Nat) (g : Nat → Int32), x + d = 5 → (∀ i, i < x → g i = nI i) → Z_X5_init_56 post t b rn rb se kn (d + 1) (nI x) g := by
    intro post t b rn rb se kn hp d
    induction d with
    | zero =>
      intro x g hx hg
      show Y_X5_init_56 _ _ _ _ _ _ _ _ _ _
      unfold Y_X5_init_56
      have e : x = 5 := by omega
      subst e
      exact ⟨fun _ => hp g hg, fun q => absurd (by decide) q⟩
    | succ d ih =>
      intro x g hx hg
      show Y_X5_init_56 _ _ _ _ _ _ _ _ _ _
      unfold Y_X5_init_56
      refine ⟨fun q => absurd ((i_le (a := 5) (by omega) (by omega)).mp q) (by omega), fun _ => ⟨i_in (by omega) (by omega), ?_⟩⟩
      rw [i_cl (by omega), i_1]
      refine ih (x + 1) _ (by omega) (fun i hi => ?_)
      by_cases z : i = x
      · subst z; rw [up_s]
      · rw [up_o _ _ z]; exact hg i (by omega)
  refine ⟨_, key _ _ _ _ _ _ _ (fun g hg => ?_) 5 0 _ (by omega) (fun i hi => absurd hi (Nat.not_lt_zero i))⟩
  exact ⟨rfl, rfl, rfl, rfl, rfl, ea, rfl, rfl, rfl, rfl, rfl, rfl, hg, rfl, rfl⟩
theorem q_init7 : wp_X7_init 0 0 0 0 0 I7 := by
  unfold wp_X7_init
  exact ⟨i_in (a := 0) (by omega) (by omega), i_in (a := 1) (by omega) (by omega), i_in (a := 2) (by omega) (by omega), rfl, rfl, rfl, rfl, rfl, rfl, rfl, rfl, rfl, rfl⟩
theorem Inv_0 {D_kinds : Nat → Int32} {D_washes : Nat → Int32} {D_fuels : Nat → Int32} {D_isBroken : Nat → Int32} {D_units : Int32} {D_lengths : Nat → Int32} {D_wanted : Nat → Int32} {D_leaving : Int32} {D_trackOf : Nat → Int32} {D_parked : Int32} {D_changes : Int32} {P_packed : Nat → Int32} {P_row : Nat → Int32} {P_found : Int32} {P_narrowest : Int32} {P_knownAt : Int32} {R_leavers : Nat → Int32} {R_steps : Nat → Int32} {R_leastShunts : Int32} {R_knownAt : Int32} {W_numbers : Nat → Int32} {W_trial : Nat → Int32} {W_bestOrder : Nat → Int32} {W_readyByNumber : Nat → Int32} {W_readyByBest : Nat → Int32} {W_soonestEnd : Int32} {W_knownUnits : Int32} {M_units : Int32} {M_kind : Nat → Int32} {M_wash : Nat → Int32} {M_fuel : Nat → Int32} {M_isBroken : Nat → Int32} {M_length : Nat → Int32} {M_wanted : Int32} {M_leaving : Nat → Int32} {M_parked : Int32} {M_stand : Nat → Int32} {M_many : Nat → Int32} {M_track : Nat → Int32} {M_stack : Nat → Int32} {M_depth : Nat → Int32} {M_canBe : Nat → Int32} {M_states : Int32} {M_told : Nat → Int64} {M_gone : Nat → Int32} {M_cost : Nat → Int32} {M_ways : Nat → Int32} {M_places : Nat → Int32} {M_now : Nat → Int32} {M_high : Nat → Int32} {M_runSize : Int32} {M_run : Nat → Int32} {M_runUnit : Nat → Int32} {M_order : Nat → Int32} {M_end : Nat → Int32} {M_bestOrder : Nat → Int32} {M_bestEnd : Nat → Int32} (h6 : I6 D_kinds D_washes D_fuels D_isBroken D_units D_lengths D_wanted D_leaving D_trackOf D_parked D_changes P_packed P_row P_found P_narrowest P_knownAt R_leavers R_steps R_leastShunts R_knownAt W_numbers W_trial W_bestOrder W_readyByNumber W_readyByBest W_soonestEnd W_knownUnits) (h7 : I7 M_units M_kind M_wash M_fuel M_isBroken M_length M_wanted M_leaving M_parked M_stand M_many M_track M_stack M_depth M_canBe M_states M_told M_gone M_cost M_ways M_places M_now M_high M_runSize M_run M_runUnit M_order M_end M_bestOrder M_bestEnd) : Inv 0 D_kinds D_washes D_fuels D_isBroken D_units D_lengths D_wanted D_leaving D_trackOf D_parked D_changes P_packed P_row P_found P_narrowest P_knownAt R_leavers 0 R_steps R_leastShunts R_knownAt W_numbers W_trial W_bestOrder W_readyByNumber W_readyByBest W_soonestEnd W_knownUnits M_units M_kind M_wash M_fuel M_isBroken M_length M_wanted M_leaving M_parked M_stand M_many M_track M_stack M_depth M_canBe M_states M_told M_gone M_cost M_ways M_places M_now M_high M_runSize M_run M_runUnit M_order M_end M_bestOrder M_bestEnd (fun _ => 0) (fun _ => 0) (fun _ => 0) (fun _ => 0) 0 (-1) := by
  obtain ⟨a1, a2, a3, a4, a5, a6, a7, a8, a9, a10, a11, a12, a13, a14, a15⟩ := h6
  obtain ⟨b1, b2, b3, b4, b5, b6, b7, b8, b9, b10⟩ := h7
  have h5 : ∀ t, t < 3 → D_lengths t = nI ((fun _ => 5 : Nat → Nat) t) ∧ (fun _ => 5 : Nat → Nat) t ≤ 5 := by
    intro t ht
    rw [a6]
    have e0 : (0 : Int32).toNatClampNeg = 0 := by decide
    have e1 : (1 : Int32).toNatClampNeg = 1 := by decide
    have e2 : (2 : Int32).toNatClampNeg = 2 := by decide
    rw [e0, e1, e2]
    refine ⟨?_, Nat.le_refl 5⟩
    rcases (show t = 0 ∨ t = 1 ∨ t = 2 by omega) with q | q | q
    · subst q; rw [up_o _ _ (by omega), up_o _ _ (by omega), up_s]; rfl
    · subst q; rw [up_o _ _ (by omega), up_s]; rfl
    · subst q; rw [up_s]; rfl
  refine ⟨0, 0, 0, 0, fun _ => 0, fun _ => 5, fun _ => 0, fun _ => 0, Nat.le_refl _, a5, a8, a9, a10, b1, b7, b9, by rw [a1, b2], by rw [a2, b3], by rw [a3, b4], by rw [a4, b5], by rw [a6, b6], by rw [a7, b8], ?_, ⟨Or.inl a11, fun q => absurd (a11.symm.trans q).symm (nI_m1 (by omega))⟩, ⟨Or.inl a12, fun q => absurd (a12.symm.trans q).symm (nI_m1 (by omega))⟩, ?_⟩
  · refine ⟨by omega, by omega, by omega, fun _ => Nat.zero_lt_succ 2, fun u hu => absurd hu (Nat.not_lt_zero u), fun t ht => ⟨?_, fun i hi => absurd hi (by simp [sq])⟩, fun u hu => absurd hu (Nat.not_lt_zero u), fun u hu => absurd hu (Nat.not_lt_zero u), h5, fun u hu => absurd hu (Nat.not_lt_zero u), fun u hu => absurd hu (Nat.not_lt_zero u), fun u => ?_⟩
    · rw [b10]
      simp [sq]
      rfl
    · rw [a4]
      exact Or.inl rfl
  · refine ⟨a13, 0, Nat.le_refl _, a15, fun _ => ⟨?_, fun i hi => absurd hi (by rw [show (wB 0 (fun _ => 0) (fun _ => 0)).2 = [] from rfl]; exact Nat.not_lt_zero i), fun u hu => absurd hu (Nat.not_lt_zero u), fun i hi => absurd hi (by rw [show (wB 0 (fun _ => 0) (fun _ => 0)).2 = [] from rfl]; exact Nat.not_lt_zero i)⟩⟩
    rw [a14]
    rfl
set_option maxHeartbeats 4000000 in
set_option maxRecDepth 100000 in
/-- the law, from its entry -/
theorem whole_start {p : Program} {e : Env} {s : State} {m : MethodId} {below : List Frame} {meth : Method} {c : Code} (l : Launch) {b L : Nat} {xs : Nat → Int32} (hL : L ≤ 2048) (C0 : lw_At p s m meth c b L xs) : W p l e room_1 s m #[Value.ref b] below meth c s.heap [] 0 0 (lw_Z below #[Value.ref b] s) (entryFrame m ([Value.ref b] : List Value).toArray 4) := by
  obtain ⟨hx, hb, hr, hml, hown, hts0, hX, hbl, hlocks, hgv⟩ := id C0
  have hts : ∀ w ∈ wsL_law, w.before #[Value.ref b] s = true := fun w h => hts0 w (wsL_law_in w h)
  have hown : s.vm.findClass RL = some m.cls := hown
  have in6 : ∀ w ∈ wsX6_init, w ∈ wsL_law := fun w h => (ggL_law_X6_init w h).1
  have in7 : ∀ w ∈ wsX7_init, w ∈ wsL_law := fun w h => (ggL_law_X7_init w h).1
  have inS : ∀ w ∈ wsX6_shunts, w ∈ wsL_law := fun w h => (ggL_law_X6_shunts w h).1
  have hinX0 : ∀ w ∈ u_ws RX0 TX0 11, w ∈ wsL_law := fun w h => in6 w (bL_X0 w h)
  have hinsX0 := hts (.instantiable RX0 11) mL_0
  obtain ⟨c0, i0, k0⟩ := u_known (C := RX0) (T := TX0) (N := 11) (n := 11) hts hinX0 hinsX0
  have hinX1 : ∀ w ∈ u_ws RX1 TX1 6, w ∈ wsL_law := fun w h => in6 w (bL_X1 w h)
  have hinsX1 := hts (.instantiable RX1 6) mL_1
  obtain ⟨c1, i1, k1⟩ := u_known (C := RX1) (T := TX1) (N := 6) (n := 6) hts hinX1 hinsX1
  have hinX3 : ∀ w ∈ u_ws RX3 TX3 6, w ∈ wsL_law := fun w h => in6 w (bL_X3 w h)
  have hinsX3 := hts (.instantiable RX3 6) mL_2
  obtain ⟨c2, i2, k2⟩ := u_known (C := RX3) (T := TX3) (N := 6) (n := 6) hts hinX3 hinsX3
  have hinX4 : ∀ w ∈ u_ws RX4 TX4 7, w ∈ wsL_law := fun w h => inS w (bL_X4 w h)
  have hinsX4 := hts (.instantiable RX4 7) mL_3
  obtain ⟨c3, i3, k3⟩ := u_known (C := RX4) (T := TX4) (N := 7) (n := 7) hts hinX4 hinsX4
  have hinX5 : ∀ w ∈ u_ws RX5 TX5 8, w ∈ wsL_law := fun w h => in6 w (bL_X5 w h)
  have hinsX5 := hts (.instantiable RX5 8) mL_4
  obtain ⟨c4, i4, k4⟩ := u_known (C := RX5) (T := TX5) (N := 8) (n := 8) hts hinX5 hinsX5
  have hinX6 : ∀ w ∈ u_ws RX6 TX6 4, w ∈ wsL_law := fun w h => in6 w (bL_X6 w h)
  have hinsX6 := hts (.instantiable RX6 4) mL_5
  obtain ⟨c5, i5, k5⟩ := u_known (C := RX6) (T := TX6) (N := 4) (n := 4) hts hinX6 hinsX6
  have hinX7 : ∀ w ∈ u_ws RX7 TX7 30, w ∈ wsL_law := fun w h => in7 w (bL_X7 w h)
  have hinsX7 := hts (.instantiable RX7 30) mL_6
  obtain ⟨c6, i6, k6⟩ := u_known (C := RX7) (T := TX7) (N := 30) (n := 30) hts hinX7 hinsX7
  obtain ⟨D, hKc⟩ : ∃ D : va_G, ∀ (k : Nat) (q : vw_C), vwCl[k]? = some q → u_Kn s q.1 q.2.1 q.2.2 (D.1 k) (D.2 k) := by
    refine ⟨(fun k => match k with | 0 => c0 | 1 => c1 | 2 => c2 | 3 => c3 | 4 => c4 | 5 => c5 | _ => c6, fun k => match k with | 0 => i0 | 1 => i1 | 2 => i2 | 3 => i3 | 4 => i4 | 5 => i5 | _ => i6), ?_⟩
    intro k q hq
    match k, hq with
    | 0, hq => cases hq; exact k0
    | 1, hq => cases hq; exact k1
    | 2, hq => cases hq; exact k2
    | 3, hq => cases hq; exact k3
    | 4, hq => cases hq; exact k4
    | 5, hq => cases hq; exact k5
    | 6, hq => cases hq; exact k6
    | k + 7, hq => simp [vwCl] at hq
  obtain ⟨cI, kI, pI, I1, I2, I3⟩ := Cond.arrayClass_spec (hts (.arrayClass .int) mL_15)
  obtain ⟨cJ, kJ, pJ, J1, J2, J3⟩ := Cond.arrayClass_spec (hts (.arrayClass .long) mL_16)
  obtain ⟨cZ, kZ, pZ, Z1, Z2, Z3⟩ := Cond.arrayClass_spec (hts (.arrayClass .boolean) mL_17)
  have hK : va_K D vwCl (zT cI cJ cZ) s := by
    refine ⟨hKc, fun k q hq => ?_⟩
    match k, hq with
    | 0, hq => cases hq; exact ⟨fun n z => ⟨fun k h => (by cases h), kI, I2, pI, I3⟩, I1⟩
    | 1, hq => cases hq; exact ⟨fun n z => ⟨fun k h => (by cases h), kJ, J2, pJ, J3⟩, J1⟩
    | 2, hq => cases hq; exact ⟨fun n z => ⟨fun k h => (by cases h), kZ, Z2, pZ, Z3⟩, Z1⟩
    | k + 3, hq => simp at hq
  clear k0 k1 k2 k3 k4 k5 k6 hKc
  obtain ⟨A, hAe⟩ : ∃ A : Nat → Prop, A = fun q => s.heap.size ≤ q := ⟨_, rfl⟩
  have hA : ∀ q : Nat, s.heap.size ≤ q → A q := fun q h => by rw [hAe]; exact h
  have hS : va_S A s.heap s.heap [] := va_S.rf
  have hP : va_P D vwCl [] s.heap := fun k q h => by simp at h
  have hD : va_D A [] := ⟨fun i j p q h => by simp at h, fun k q h => by simp at h⟩
  have hl := lv_entry ([.ref b]) (n := 4) (Nat.le_of_ble_eq_true rfl)
  rw [lg_entry_eq]
  generalize (lg_sl ([.ref b]) ++ List.replicate (4 - (lg_sl ([.ref b])).length) Slot.unset).toArray = ls at hl ⊢
  have hl : lv_has ls 4 [(0, .ref b)] := hl
  refine va_new (ci := 5) (fs := [.null, .null, .null, .null]) (C := RX6) (T := TX6) (N := 4) hx hb hts hinX6 tyX6 tyX6_ok hown (hts (.classLink RL 7 RX6) mL_7) hinsX6 (hts (.initialized RX6) mL_9) hK hP hD hS hA rfl (fun j hj => by rcases (show j = 0 ∨ j = 1 ∨ j = 2 ∨ j = 3 by omega) with rfl | rfl | rfl | rfl <;> rfl) (Nat.le_of_ble_eq_true rfl) (Nat.le_of_ble_eq_true rfl) dL_law_0 (fun aN H hP hD hS => ?_)
  have hP : va_P D vwCl [(aN, .inr (5, [.null, .null, .null, .null]))] H := hP
  have hD : va_D A [(aN, .inr (5, [.null, .null, .null, .null]))] := hD
  refine lv_dup hx hb dL_law_3 rfl ?_
  refine zIv (As := []) (rest := [.ref aN]) (wc := [(aN, .inr (5, [.null, .null, .null, .null]))]) (wr := []) ⟨hx, hb, hml, hown, hts⟩ hK hP hD hS hA [0] [] rfl rfl (by decide) (by decide) (by decide) (c_X6_init l D cI cJ cZ aN H.size _ q_init6) (cwI 0 hts gL_law_X6_init rfl rfl rfl (hts (.initialized RX6) mL_9) (hts (.methodLink RL 9 yX6_init) mL_11) (hts (.instanceMethod yX6_init) mL_13) rfl (by decide +kernel) ⟨Nat.le_of_ble_eq_true rfl, Nat.le_of_ble_eq_true rfl⟩) rfl hl.1 (Nat.le_of_ble_eq_true rfl) dL_law_4 ⟨Nat.le_of_ble_eq_true rfl, Nat.le_of_ble_eq_true rfl⟩ rfl (fun u H locs hw6 hP hD hS => ?_)
  obtain ⟨D_kinds, D_washes, D_fuels, D_isBroken, D_units, D_lengths, D_wanted, D_leaving, D_trackOf, D_parked, D_changes, P_packed, P_row, P_found, P_narrowest, P_knownAt, R_leavers, R_steps, R_leastShunts, R_knownAt, W_numbers, W_trial, W_bestOrder, W_readyByNumber, W_readyByBest, W_soonestEnd, W_knownUnits, aD, aD_kinds, aD_washes, aD_fuels, aD_isBroken, aD_lengths, aD_wanted, aD_trackOf, aP, aP_packed, aP_row, aR, aR_leavers, aR_steps, aW, aW_numbers, aW_trial, aW_bestOrder, aW_readyByNumber, aW_readyByBest⟩ := u
  try dsimp only at hw6
  have hP : va_P D vwCl [(aN, .inr (5, [.ref aD, .ref aP, .ref aR, .ref aW])), (aD, .inr (0, [.ref aD_kinds, .ref aD_washes, .ref aD_fuels, .ref aD_isBroken, .int D_units, .ref aD_lengths, .ref aD_wanted, .int D_leaving, .ref aD_trackOf, .int D_parked, .int D_changes])), (aD_kinds, .inl (cI, 5, .inl D_kinds)), (aD_washes, .inl (cI, 5, .inl D_washes)), (aD_fuels, .inl (cI, 5, .inl D_fuels)), (aD_isBroken, .inl (cZ, 5, .inl D_isBroken)), (aD_lengths, .inl (cI, 3, .inl D_lengths)), (aD_wanted, .inl (cI, 5, .inl D_wanted)), (aD_trackOf, .inl (cI, 5, .inl D_trackOf)), (aP, .inr (1, [.ref aD, .ref aP_packed, .ref aP_row, .int P_found, .int P_narrowest, .int P_knownAt])), (aP_packed, .inl (cI, 243, .inl P_packed)), (aP_row, .inl (cI, 5, .inl P_row)), (aR, .inr (2, [.ref aD, .ref aR_leavers, .ref aR_steps, .int R_leastShunts, .int R_knownAt, .null])), (aR_leavers, .inl (cI, 5, .inl R_leavers)), (aR_steps, .inl (cI, 0, .inl R_steps)), (aW, .inr (4, [.ref aD, .ref aW_numbers, .ref aW_trial, .ref aW_bestOrder, .ref aW_readyByNumber, .ref aW_readyByBest, .int W_soonestEnd, .int W_knownUnits])), (aW_numbers, .inl (cI, 5, .inl W_numbers)), (aW_trial, .inl (cI, 5, .inl W_trial)), (aW_bestOrder, .inl (cI, 5, .inl W_bestOrder)), (aW_readyByNumber, .inl (cI, 5, .inl W_readyByNumber)), (aW_readyByBest, .inl (cI, 5, .inl W_readyByBest))] H := hP
  have hD : va_D A [(aN, .inr (5, [.ref aD, .ref aP, .ref aR, .ref aW])), (aD, .inr (0, [.ref aD_kinds, .ref aD_washes, .ref aD_fuels, .ref aD_isBroken, .int D_units, .ref aD_lengths, .ref aD_wanted, .int D_leaving, .ref aD_trackOf, .int D_parked, .int D_changes])), (aD_kinds, .inl (cI, 5, .inl D_kinds)), (aD_washes, .inl (cI, 5, .inl D_washes)), (aD_fuels, .inl (cI, 5, .inl D_fuels)), (aD_isBroken, .inl (cZ, 5, .inl D_isBroken)), (aD_lengths, .inl (cI, 3, .inl D_lengths)), (aD_wanted, .inl (cI, 5, .inl D_wanted)), (aD_trackOf, .inl (cI, 5, .inl D_trackOf)), (aP, .inr (1, [.ref aD, .ref aP_packed, .ref aP_row, .int P_found, .int P_narrowest, .int P_knownAt])), (aP_packed, .inl (cI, 243, .inl P_packed)), (aP_row, .inl (cI, 5, .inl P_row)), (aR, .inr (2, [.ref aD, .ref aR_leavers, .ref aR_steps, .int R_leastShunts, .int R_knownAt, .null])), (aR_leavers, .inl (cI, 5, .inl R_leavers)), (aR_steps, .inl (cI, 0, .inl R_steps)), (aW, .inr (4, [.ref aD, .ref aW_numbers, .ref aW_trial, .ref aW_bestOrder, .ref aW_readyByNumber, .ref aW_readyByBest, .int W_soonestEnd, .int W_knownUnits])), (aW_numbers, .inl (cI, 5, .inl W_numbers)), (aW_trial, .inl (cI, 5, .inl W_trial)), (aW_bestOrder, .inl (cI, 5, .inl W_bestOrder)), (aW_readyByNumber, .inl (cI, 5, .inl W_readyByNumber)), (aW_readyByBest, .inl (cI, 5, .inl W_readyByBest))] := hD
  refine lv_astore_n (lv' := [(1, .ref aN), (0, .ref b)]) hx hb dL_law_7 rfl hl (by decide) rfl (fun ls hl => ?_)
  refine va_new (ci := 6) (fs := [.int 0, .null, .null, .null, .null, .null, .int 0, .null, .int 0, .null, .null, .null, .null, .null, .null, .int 0, .null, .null, .null, .null, .null, .null, .null, .int 0, .null, .null, .null, .null, .null, .null]) (C := RX7) (T := TX7) (N := 30) hx hb hts hinX7 tyX7 tyX7_ok hown (hts (.classLink RL 10 RX7) mL_8) hinsX7 (hts (.initialized RX7) mL_10) hK hP hD hS hA rfl (fun j hj => by rcases (show j = 0 ∨ j = 1 ∨ j = 2 ∨ j = 3 ∨ j = 4 ∨ j = 5 ∨ j = 6 ∨ j = 7 ∨ j = 8 ∨ j = 9 ∨ j = 10 ∨ j = 11 ∨ j = 12 ∨ j = 13 ∨ j = 14 ∨ j = 15 ∨ j = 16 ∨ j = 17 ∨ j = 18 ∨ j = 19 ∨ j = 20 ∨ j = 21 ∨ j = 22 ∨ j = 23 ∨ j = 24 ∨ j = 25 ∨ j = 26 ∨ j = 27 ∨ j = 28 ∨ j = 29 by omega) with rfl | rfl | rfl | rfl | rfl | rfl | rfl | rfl | rfl | rfl | rfl | rfl | rfl | rfl | rfl | rfl | rfl | rfl | rfl | rfl | rfl | rfl | rfl | rfl | rfl | rfl | rfl | rfl | rfl | rfl <;> rfl) (Nat.le_of_ble_eq_true rfl) (Nat.le_of_ble_eq_true rfl) dL_law_8 (fun aM H hP hD hS => ?_)
  have hP : va_P D vwCl [(aN, .inr (5, [.ref aD, .ref aP, .ref aR, .ref aW])), (aD, .inr (0, [.ref aD_kinds, .ref aD_washes, .ref aD_fuels, .ref aD_isBroken, .int D_units, .ref aD_lengths, .ref aD_wanted, .int D_leaving, .ref aD_trackOf, .int D_parked, .int D_changes])), (aD_kinds, .inl (cI, 5, .inl D_kinds)), (aD_washes, .inl (cI, 5, .inl D_washes)), (aD_fuels, .inl (cI, 5, .inl D_fuels)), (aD_isBroken, .inl (cZ, 5, .inl D_isBroken)), (aD_lengths, .inl (cI, 3, .inl D_lengths)), (aD_wanted, .inl (cI, 5, .inl D_wanted)), (aD_trackOf, .inl (cI, 5, .inl D_trackOf)), (aP, .inr (1, [.ref aD, .ref aP_packed, .ref aP_row, .int P_found, .int P_narrowest, .int P_knownAt])), (aP_packed, .inl (cI, 243, .inl P_packed)), (aP_row, .inl (cI, 5, .inl P_row)), (aR, .inr (2, [.ref aD, .ref aR_leavers, .ref aR_steps, .int R_leastShunts, .int R_knownAt, .null])), (aR_leavers, .inl (cI, 5, .inl R_leavers)), (aR_steps, .inl (cI, 0, .inl R_steps)), (aW, .inr (4, [.ref aD, .ref aW_numbers, .ref aW_trial, .ref aW_bestOrder, .ref aW_readyByNumber, .ref aW_readyByBest, .int W_soonestEnd, .int W_knownUnits])), (aW_numbers, .inl (cI, 5, .inl W_numbers)), (aW_trial, .inl (cI, 5, .inl W_trial)), (aW_bestOrder, .inl (cI, 5, .inl W_bestOrder)), (aW_readyByNumber, .inl (cI, 5, .inl W_readyByNumber)), (aW_readyByBest, .inl (cI, 5, .inl W_readyByBest)), (aM, .inr (6, [.int 0, .null, .null, .null, .null, .null, .int 0, .null, .int 0, .null, .null, .null, .null, .null, .null, .int 0, .null, .null, .null, .null, .null, .null, .null, .int 0, .null, .null, .null, .null, .null, .null]))] H := hP
  have hD : va_D A [(aN, .inr (5, [.ref aD, .ref aP, .ref aR, .ref aW])), (aD, .inr (0, [.ref aD_kinds, .ref aD_washes, .ref aD_fuels, .ref aD_isBroken, .int D_units, .ref aD_lengths, .ref aD_wanted, .int D_leaving, .ref aD_trackOf, .int D_parked, .int D_changes])), (aD_kinds, .inl (cI, 5, .inl D_kinds)), (aD_washes, .inl (cI, 5, .inl D_washes)), (aD_fuels, .inl (cI, 5, .inl D_fuels)), (aD_isBroken, .inl (cZ, 5, .inl D_isBroken)), (aD_lengths, .inl (cI, 3, .inl D_lengths)), (aD_wanted, .inl (cI, 5, .inl D_wanted)), (aD_trackOf, .inl (cI, 5, .inl D_trackOf)), (aP, .inr (1, [.ref aD, .ref aP_packed, .ref aP_row, .int P_found, .int P_narrowest, .int P_knownAt])), (aP_packed, .inl (cI, 243, .inl P_packed)), (aP_row, .inl (cI, 5, .inl P_row)), (aR, .inr (2, [.ref aD, .ref aR_leavers, .ref aR_steps, .int R_leastShunts, .int R_knownAt, .null])), (aR_leavers, .inl (cI, 5, .inl R_leavers)), (aR_steps, .inl (cI, 0, .inl R_steps)), (aW, .inr (4, [.ref aD, .ref aW_numbers, .ref aW_trial, .ref aW_bestOrder, .ref aW_readyByNumber, .ref aW_readyByBest, .int W_soonestEnd, .int W_knownUnits])), (aW_numbers, .inl (cI, 5, .inl W_numbers)), (aW_trial, .inl (cI, 5, .inl W_trial)), (aW_bestOrder, .inl (cI, 5, .inl W_bestOrder)), (aW_readyByNumber, .inl (cI, 5, .inl W_readyByNumber)), (aW_readyByBest, .inl (cI, 5, .inl W_readyByBest)), (aM, .inr (6, [.int 0, .null, .null, .null, .null, .null, .int 0, .null, .int 0, .null, .null, .null, .null, .null, .null, .int 0, .null, .null, .null, .null, .null, .null, .null, .int 0, .null, .null, .null, .null, .null, .null]))] := hD
  refine lv_dup hx hb dL_law_11 rfl ?_
  refine zIv (As := []) (rest := [.ref aM]) (wc := [(aM, .inr (6, [.int 0, .null, .null, .null, .null, .null, .int 0, .null, .int 0, .null, .null, .null, .null, .null, .null, .int 0, .null, .null, .null, .null, .null, .null, .null, .int 0, .null, .null, .null, .null, .null, .null]))]) (wr := [(aN, .inr (5, [.ref aD, .ref aP, .ref aR, .ref aW])), (aD, .inr (0, [.ref aD_kinds, .ref aD_washes, .ref aD_fuels, .ref aD_isBroken, .int D_units, .ref aD_lengths, .ref aD_wanted, .int D_leaving, .ref aD_trackOf, .int D_parked, .int D_changes])), (aD_kinds, .inl (cI, 5, .inl D_kinds)), (aD_washes, .inl (cI, 5, .inl D_washes)), (aD_fuels, .inl (cI, 5, .inl D_fuels)), (aD_isBroken, .inl (cZ, 5, .inl D_isBroken)), (aD_lengths, .inl (cI, 3, .inl D_lengths)), (aD_wanted, .inl (cI, 5, .inl D_wanted)), (aD_trackOf, .inl (cI, 5, .inl D_trackOf)), (aP, .inr (1, [.ref aD, .ref aP_packed, .ref aP_row, .int P_found, .int P_narrowest, .int P_knownAt])), (aP_packed, .inl (cI, 243, .inl P_packed)), (aP_row, .inl (cI, 5, .inl P_row)), (aR, .inr (2, [.ref aD, .ref aR_leavers, .ref aR_steps, .int R_leastShunts, .int R_knownAt, .null])), (aR_leavers, .inl (cI, 5, .inl R_leavers)), (aR_steps, .inl (cI, 0, .inl R_steps)), (aW, .inr (4, [.ref aD, .ref aW_numbers, .ref aW_trial, .ref aW_bestOrder, .ref aW_readyByNumber, .ref aW_readyByBest, .int W_soonestEnd, .int W_knownUnits])), (aW_numbers, .inl (cI, 5, .inl W_numbers)), (aW_trial, .inl (cI, 5, .inl W_trial)), (aW_bestOrder, .inl (cI, 5, .inl W_bestOrder)), (aW_readyByNumber, .inl (cI, 5, .inl W_readyByNumber)), (aW_readyByBest, .inl (cI, 5, .inl W_readyByBest))]) ⟨hx, hb, hml, hown, hts⟩ hK hP hD hS hA [21] [0, 1, 2, 3, 4, 5, 6, 7, 8, 9, 10, 11, 12, 13, 14, 15, 16, 17, 18, 19, 20] rfl rfl (by decide) (by decide) (by decide) (c_X7_init l D cI cJ cZ aM H.size 0 0 0 0 0 _ q_init7) (cwI 0 hts gL_law_X7_init rfl rfl rfl (hts (.initialized RX7) mL_10) (hts (.methodLink RL 12 yX7_init) mL_12) (hts (.instanceMethod yX7_init) mL_14) rfl (by decide +kernel) ⟨Nat.le_of_ble_eq_true rfl, Nat.le_of_ble_eq_true rfl⟩) rfl hl.1 (Nat.le_of_ble_eq_true rfl) dL_law_12 ⟨Nat.le_of_ble_eq_true rfl, Nat.le_of_ble_eq_true rfl⟩ rfl (fun u H locs hw7 hP hD hS => ?_)
  obtain ⟨M_units, M_kind, M_wash, M_fuel, M_isBroken, M_length, M_wanted, M_leaving, M_parked, M_stand, M_many, M_track, M_stack, M_depth, M_canBe, M_states, M_told, M_gone, M_cost, M_ways, M_places, M_now, M_high, M_runSize, M_run, M_runUnit, M_order, M_end, M_bestOrder, M_bestEnd, aM_kind, aM_wash, aM_fuel, aM_isBroken, aM_length, aM_leaving, aM_stand, aM_many, aM_track, aM_stack, aM_depth, aM_canBe, aM_told, aM_gone, aM_cost, aM_ways, aM_places, aM_now, aM_high, aM_run, aM_runUnit, aM_order, aM_end, aM_bestOrder, aM_bestEnd⟩ := u
  try dsimp only at hw7
  refine lv_astore_n (lv' := [(2, .ref aM), (1, .ref aN), (0, .ref b)]) hx hb dL_law_15 rfl hl (by decide) rfl (fun ls hl => ?_)
  refine lv_iconst (v := 0) hx hb dL_law_16 (by decide) ?_
  refine lv_istore_n (lv' := [(3, .int 0), (2, .ref aM), (1, .ref aN), (0, .ref b)]) hx hb dL_law_17 rfl hl (by decide) rfl (fun ls hl => ?_)
  refine W.widen (k := 47) (n := 80283) (Nat.le_of_ble_eq_true rfl) (Nat.le_of_ble_eq_true rfl) ?_
  subst hAe
  exact law_loop hL C0 hK 512 0 47 80283 (by omega) (by omega) (by omega) (by omega) aR_steps none D_kinds D_washes D_fuels D_isBroken D_units D_lengths D_wanted D_leaving D_trackOf D_parked D_changes P_packed P_row P_found P_narrowest P_knownAt R_leavers 0 R_steps R_leastShunts R_knownAt W_numbers W_trial W_bestOrder W_readyByNumber W_readyByBest W_soonestEnd W_knownUnits M_units M_kind M_wash M_fuel M_isBroken M_length M_wanted M_leaving M_parked M_stand M_many M_track M_stack M_depth M_canBe M_states M_told M_gone M_cost M_ways M_places M_now M_high M_runSize M_run M_runUnit M_order M_end M_bestOrder M_bestEnd (fun _ => 0) (fun _ => 0) (fun _ => 0) (fun _ => 0) 0 (-1) (Inv_0 hw6 hw7) (fun _ => ⟨rfl, rfl, rfl, rfl, rfl, rfl⟩) H locs ls hP hD hS (lv_sub hl [3, 2, 1, 0] rfl)
