/-! X7_in -/
def wp_X7_in (x0 : Int32) (x1 : Int32) (x2 : Int32) (post : Int32 → Prop) : Prop :=
  ((x0 < x1 → post 0 ) ∧ (¬ x0 < x1 → ((x2 < x0 → post 0 ) ∧ (¬ x2 < x0 → post 1 ))))
set_option maxHeartbeats 4000000 in
set_option maxRecDepth 100000 in
theorem c_X7_in (l : Launch) (D : va_G) (cI cJ cZ : ClassId) (sz : Nat) (x0 : Int32) (x1 : Int32) (x2 : Int32) (post : Int32 → Prop) (hw : wp_X7_in x0 x1 x2 post) : Met l yX7_in wsX7_in ({ frames := 0, cells := 0, slots := 0, locals := 0 } : Room) (va_Pc [.int x0, .int x1, .int x2] (zPre D cI cJ cZ [] sz)) (va_Qi (fun (r : Int32) (u : Unit) => post r) (zPost D cI cJ cZ (va_A [] sz) (fun u : Unit => [])) (va_A [] sz)) 0 0 (va_A [] sz) := by
  unfold wp_X7_in at hw
  refine Met.ofW (cc := cX7_in) (maxL := 3) (ret := some .boolean) (by decide) rfl ?_
  intro p e s m args below meth c s₁ B hml hv
  obtain ⟨rfl, hsz, hP, hK, hD0⟩ := hv
  have hx := B.exec
  have hb := B.bytes
  have hr := B.returns
  have hts := atoms_spec (ws := wsX7_in) B.pre
  have hown : s.vm.findClass RX7 = some m.cls := findClass_of_methodNamed B.named
  have hlocks := B.notSynchronized
  subst hsz
  have hD := hD0.self (sz := s.heap.size)
  generalize hAe : va_A [] s.heap.size = A at hD ⊢
  have hA : ∀ q : Nat, s.heap.size ≤ q → A q := fun q h => by rw [← hAe]; exact Or.inr h
  have hS : va_S A s.heap s.heap [] := va_S.rf
  refine (fun (hall : ∀ Q0 : State → Prop, (∀ (r : Int32)  (H : Heap) (locs : List Loc) (pc : Nat) (ls : Array Slot), post r → decode cX7_in pc = .ok (.ireturn, 1) → va_P D vwCl [] H → va_D A [] → va_S A s.heap H locs → narrow .boolean (.int r) = .int r → W p l e ({ frames := 0, cells := 0, slots := 0, locals := 0 } : Room) s m ([.int x0, .int x1, .int x2] : List Value).toArray below meth c H locs 0 0 Q0 (F0 m pc ls [.int r])) → W p l e ({ frames := 0, cells := 0, slots := 0, locals := 0 } : Room) s m ([.int x0, .int x1, .int x2] : List Value).toArray below meth c s.heap [] 0 0 Q0 (entryFrame m ([.int x0, .int x1, .int x2] : List Value).toArray 3)) => hall _ (fun r  H locs pc ls hw hd hP hD hS hnr => W.zret (v := r) hx hb hr hnr (fun t ht hW => ⟨⟨r, (), rfl, hw, by rw [ht]; exact hP, va_K.moved hW.alike hK, hD⟩, hS.F ht⟩) hS.2.2 hd)) ?_
  intro Q0 hret
  have hl := lv_entry ([.int x0, .int x1, .int x2]) (n := 3) (Nat.le_of_ble_eq_true rfl)
  rw [lg_entry_eq]
  generalize (lg_sl ([.int x0, .int x1, .int x2]) ++ List.replicate (3 - (lg_sl ([.int x0, .int x1, .int x2])).length) Slot.unset).toArray = ls at hl ⊢
  have hl : lv_has ls 3 [(0, .int x0), (1, .int x1), (2, .int x2)] := hl
  obtain ⟨H, hHe⟩ : ∃ H, H = s.heap := ⟨_, rfl⟩
  obtain ⟨locs, hLo⟩ : ∃ locs : List Loc, locs = [] := ⟨_, rfl⟩
  have hS : va_S A s.heap H locs := by rw [hHe, hLo]; exact hS
  have hP : va_P D vwCl [] H := by rw [hHe]; exact hP
  refine (fun (hgo : W p l e ({ frames := 0, cells := 0, slots := 0, locals := 0 } : Room) s m ([.int x0, .int x1, .int x2] : List Value).toArray below meth c H locs 0 0 Q0 (F0 m 0 ls [])) => by rw [hHe, hLo] at hgo; exact hgo) ?_
  refine lv_iload_n hx hb dX7_in_0 rfl (lv_at hl 0 rfl) ?_
  refine lv_iload_n hx hb dX7_in_1 rfl (lv_at hl 1 rfl) ?_
  refine lv_icmp_lt (tgt := 14) hx hb dX7_in_2 (by decide) (fun hc1 => ?_) (fun hc1 => ?_)
  · have hw := hw.1 hc1
    refine lv_iconst (v := 0) hx hb dX7_in_14 (by decide) ?_
    exact hret 0  H locs 15 ls hw dX7_in_15 hP hD hS rfl
  · have hw := hw.2 hc1
    refine lv_iload_n hx hb dX7_in_5 rfl (lv_at hl 0 rfl) ?_
    refine lv_iload_n hx hb dX7_in_6 rfl (lv_at hl 2 rfl) ?_
    refine lv_icmp_gt (tgt := 14) hx hb dX7_in_7 (by decide) (fun hc2 => ?_) (fun hc2 => ?_)
    · have hw := hw.1 hc2
      refine lv_iconst (v := 0) hx hb dX7_in_14 (by decide) ?_
      exact hret 0  H locs 15 ls hw dX7_in_15 hP hD hS rfl
    · have hw := hw.2 hc2
      refine lv_iconst (v := 1) hx hb dX7_in_10 (by decide) ?_
      refine lv_goto (tgt := 15) hx hb dX7_in_11 (by decide) ?_
      exact hret 1  H locs 15 ls hw dX7_in_15 hP hD hS rfl
/-! X7_isUnit -/
def wp_X7_isUnit (M_units : Int32) (x1 : Int32) (post : Int32 → Prop) : Prop :=
  wp_X7_in x1 0 (M_units - 1) (fun (r1 : Int32) => narrow .boolean (.int r1) = .int r1 ∧ (post r1 ))
set_option maxHeartbeats 4000000 in
set_option maxRecDepth 100000 in
theorem c_X7_isUnit (l : Launch) (D : va_G) (cI cJ cZ : ClassId) (aM aM_kind aM_wash aM_fuel aM_isBroken aM_length aM_leaving aM_stand aM_many aM_track aM_stack aM_depth aM_canBe aM_told aM_gone aM_cost aM_ways aM_places aM_now aM_high aM_run aM_runUnit aM_order aM_end aM_bestOrder aM_bestEnd : Nat) (sz : Nat) (M_units : Int32) (M_wanted : Int32) (M_parked : Int32) (M_states : Int32) (M_runSize : Int32) (x1 : Int32) (post : Int32 → Prop) (hw : wp_X7_isUnit M_units x1 post) : Met l yX7_isUnit wsX7_isUnit ({ frames := 1, cells := 0, slots := 0, locals := 22 } : Room) (va_Pc [.ref aM, .int x1] (zPre D cI cJ cZ [(aM, .inr (6, [.int M_units, .ref aM_kind, .ref aM_wash, .ref aM_fuel, .ref aM_isBroken, .ref aM_length, .int M_wanted, .ref aM_leaving, .int M_parked, .ref aM_stand, .ref aM_many, .ref aM_track, .ref aM_stack, .ref aM_depth, .ref aM_canBe, .int M_states, .ref aM_told, .ref aM_gone, .ref aM_cost, .ref aM_ways, .ref aM_places, .ref aM_now, .ref aM_high, .int M_runSize, .ref aM_run, .ref aM_runUnit, .ref aM_order, .ref aM_end, .ref aM_bestOrder, .ref aM_bestEnd]))] sz)) (va_Qi (fun (r : Int32) (u : Unit) => post r) (zPost D cI cJ cZ (va_A [(aM, .inr (6, [.int M_units, .ref aM_kind, .ref aM_wash, .ref aM_fuel, .ref aM_isBroken, .ref aM_length, .int M_wanted, .ref aM_leaving, .int M_parked, .ref aM_stand, .ref aM_many, .ref aM_track, .ref aM_stack, .ref aM_depth, .ref aM_canBe, .int M_states, .ref aM_told, .ref aM_gone, .ref aM_cost, .ref aM_ways, .ref aM_places, .ref aM_now, .ref aM_high, .int M_runSize, .ref aM_run, .ref aM_runUnit, .ref aM_order, .ref aM_end, .ref aM_bestOrder, .ref aM_bestEnd]))] sz) (fun u : Unit => [(aM, .inr (6, [.int M_units, .ref aM_kind, .ref aM_wash, .ref aM_fuel, .ref aM_isBroken, .ref aM_length, .int M_wanted, .ref aM_leaving, .int M_parked, .ref aM_stand, .ref aM_many, .ref aM_track, .ref aM_stack, .ref aM_depth, .ref aM_canBe, .int M_states, .ref aM_told, .ref aM_gone, .ref aM_cost, .ref aM_ways, .ref aM_places, .ref aM_now, .ref aM_high, .int M_runSize, .ref aM_run, .ref aM_runUnit, .ref aM_order, .ref aM_end, .ref aM_bestOrder, .ref aM_bestEnd]))])) (va_A [(aM, .inr (6, [.int M_units, .ref aM_kind, .ref aM_wash, .ref aM_fuel, .ref aM_isBroken, .ref aM_length, .int M_wanted, .ref aM_leaving, .int M_parked, .ref aM_stand, .ref aM_many, .ref aM_track, .ref aM_stack, .ref aM_depth, .ref aM_canBe, .int M_states, .ref aM_told, .ref aM_gone, .ref aM_cost, .ref aM_ways, .ref aM_places, .ref aM_now, .ref aM_high, .int M_runSize, .ref aM_run, .ref aM_runUnit, .ref aM_order, .ref aM_end, .ref aM_bestOrder, .ref aM_bestEnd]))] sz)) 0 0 (va_A [(aM, .inr (6, [.int M_units, .ref aM_kind, .ref aM_wash, .ref aM_fuel, .ref aM_isBroken, .ref aM_length, .int M_wanted, .ref aM_leaving, .int M_parked, .ref aM_stand, .ref aM_many, .ref aM_track, .ref aM_stack, .ref aM_depth, .ref aM_canBe, .int M_states, .ref aM_told, .ref aM_gone, .ref aM_cost, .ref aM_ways, .ref aM_places, .ref aM_now, .ref aM_high, .int M_runSize, .ref aM_run, .ref aM_runUnit, .ref aM_order, .ref aM_end, .ref aM_bestOrder, .ref aM_bestEnd]))] sz) := by
  unfold wp_X7_isUnit at hw
  refine Met.ofW (cc := cX7_isUnit) (maxL := 2) (ret := some .boolean) (by decide) rfl ?_
  intro p e s m args below meth c s₁ B hml hv
  obtain ⟨rfl, hsz, hP, hK, hD0⟩ := hv
  have hx := B.exec
  have hb := B.bytes
  have hr := B.returns
  have hts := atoms_spec (ws := wsX7_isUnit) B.pre
  have hown : s.vm.findClass RX7 = some m.cls := findClass_of_methodNamed B.named
  have hlocks := B.notSynchronized
  subst hsz
  have hD := hD0.self (sz := s.heap.size)
  generalize hAe : va_A [(aM, .inr (6, [.int M_units, .ref aM_kind, .ref aM_wash, .ref aM_fuel, .ref aM_isBroken, .ref aM_length, .int M_wanted, .ref aM_leaving, .int M_parked, .ref aM_stand, .ref aM_many, .ref aM_track, .ref aM_stack, .ref aM_depth, .ref aM_canBe, .int M_states, .ref aM_told, .ref aM_gone, .ref aM_cost, .ref aM_ways, .ref aM_places, .ref aM_now, .ref aM_high, .int M_runSize, .ref aM_run, .ref aM_runUnit, .ref aM_order, .ref aM_end, .ref aM_bestOrder, .ref aM_bestEnd]))] s.heap.size = A at hD ⊢
  have hA : ∀ q : Nat, s.heap.size ≤ q → A q := fun q h => by rw [← hAe]; exact Or.inr h
  have hS : va_S A s.heap s.heap [] := va_S.rf
  refine (fun (hall : ∀ Q0 : State → Prop, (∀ (r : Int32)  (H : Heap) (locs : List Loc) (pc : Nat) (ls : Array Slot), post r → decode cX7_isUnit pc = .ok (.ireturn, 1) → va_P D vwCl [(aM, .inr (6, [.int M_units, .ref aM_kind, .ref aM_wash, .ref aM_fuel, .ref aM_isBroken, .ref aM_length, .int M_wanted, .ref aM_leaving, .int M_parked, .ref aM_stand, .ref aM_many, .ref aM_track, .ref aM_stack, .ref aM_depth, .ref aM_canBe, .int M_states, .ref aM_told, .ref aM_gone, .ref aM_cost, .ref aM_ways, .ref aM_places, .ref aM_now, .ref aM_high, .int M_runSize, .ref aM_run, .ref aM_runUnit, .ref aM_order, .ref aM_end, .ref aM_bestOrder, .ref aM_bestEnd]))] H → va_D A [(aM, .inr (6, [.int M_units, .ref aM_kind, .ref aM_wash, .ref aM_fuel, .ref aM_isBroken, .ref aM_length, .int M_wanted, .ref aM_leaving, .int M_parked, .ref aM_stand, .ref aM_many, .ref aM_track, .ref aM_stack, .ref aM_depth, .ref aM_canBe, .int M_states, .ref aM_told, .ref aM_gone, .ref aM_cost, .ref aM_ways, .ref aM_places, .ref aM_now, .ref aM_high, .int M_runSize, .ref aM_run, .ref aM_runUnit, .ref aM_order, .ref aM_end, .ref aM_bestOrder, .ref aM_bestEnd]))] → va_S A s.heap H locs → narrow .boolean (.int r) = .int r → W p l e ({ frames := 1, cells := 0, slots := 0, locals := 22 } : Room) s m ([.ref aM, .int x1] : List Value).toArray below meth c H locs 0 0 Q0 (F0 m pc ls [.int r])) → W p l e ({ frames := 1, cells := 0, slots := 0, locals := 22 } : Room) s m ([.ref aM, .int x1] : List Value).toArray below meth c s.heap [] 0 0 Q0 (entryFrame m ([.ref aM, .int x1] : List Value).toArray 2)) => hall _ (fun r  H locs pc ls hw hd hP hD hS hnr => W.zret (v := r) hx hb hr hnr (fun t ht hW => ⟨⟨r, (), rfl, hw, by rw [ht]; exact hP, va_K.moved hW.alike hK, hD⟩, hS.F ht⟩) hS.2.2 hd)) ?_
  intro Q0 hret
  have hl := lv_entry ([.ref aM, .int x1]) (n := 2) (Nat.le_of_ble_eq_true rfl)
  rw [lg_entry_eq]
  generalize (lg_sl ([.ref aM, .int x1]) ++ List.replicate (2 - (lg_sl ([.ref aM, .int x1])).length) Slot.unset).toArray = ls at hl ⊢
  have hl : lv_has ls 2 [(0, .ref aM), (1, .int x1)] := hl
  have hinX7 : ∀ w ∈ u_ws RX7 TX7 30, w ∈ wsX7_isUnit := by decide +kernel
  have hf88 := hts (.fieldLink RX7 88 "DepotNightModel" "units" "I") (by decide +kernel)
  obtain ⟨H, hHe⟩ : ∃ H, H = s.heap := ⟨_, rfl⟩
  obtain ⟨locs, hLo⟩ : ∃ locs : List Loc, locs = [] := ⟨_, rfl⟩
  have hS : va_S A s.heap H locs := by rw [hHe, hLo]; exact hS
  have hP : va_P D vwCl [(aM, .inr (6, [.int M_units, .ref aM_kind, .ref aM_wash, .ref aM_fuel, .ref aM_isBroken, .ref aM_length, .int M_wanted, .ref aM_leaving, .int M_parked, .ref aM_stand, .ref aM_many, .ref aM_track, .ref aM_stack, .ref aM_depth, .ref aM_canBe, .int M_states, .ref aM_told, .ref aM_gone, .ref aM_cost, .ref aM_ways, .ref aM_places, .ref aM_now, .ref aM_high, .int M_runSize, .ref aM_run, .ref aM_runUnit, .ref aM_order, .ref aM_end, .ref aM_bestOrder, .ref aM_bestEnd]))] H := by rw [hHe]; exact hP
  refine (fun (hgo : W p l e ({ frames := 1, cells := 0, slots := 0, locals := 22 } : Room) s m ([.ref aM, .int x1] : List Value).toArray below meth c H locs 0 0 Q0 (F0 m 0 ls [])) => by rw [hHe, hLo] at hgo; exact hgo) ?_
  refine lv_iload_n hx hb dX7_isUnit_0 rfl (lv_at hl 1 rfl) ?_
  refine lv_iconst (v := 0) hx hb dX7_isUnit_1 (by decide) ?_
  refine lv_aload_n hx hb dX7_isUnit_2 rfl (lv_at hl 0 rfl) ?_
  refine va_get (D := D) (ci := 6) (v := .int M_units) (C := RX7) (T := TX7) (N := 30) hx hb hts hinX7 hown hK hP 0 rfl rfl 0 (by decide) hf88 (fun _ h9 => h9) rfl dX7_isUnit_3 ?_
  refine lv_iconst (v := 1) hx hb dX7_isUnit_6 (by decide) ?_
  refine lv_isub hx hb dX7_isUnit_7 ?_
  refine zSi (As := [.int x1, .int 0, .int (M_units - 1)]) (rest := []) (wc := []) (wr := [(aM, .inr (6, [.int M_units, .ref aM_kind, .ref aM_wash, .ref aM_fuel, .ref aM_isBroken, .ref aM_length, .int M_wanted, .ref aM_leaving, .int M_parked, .ref aM_stand, .ref aM_many, .ref aM_track, .ref aM_stack, .ref aM_depth, .ref aM_canBe, .int M_states, .ref aM_told, .ref aM_gone, .ref aM_cost, .ref aM_ways, .ref aM_places, .ref aM_now, .ref aM_high, .int M_runSize, .ref aM_run, .ref aM_runUnit, .ref aM_order, .ref aM_end, .ref aM_bestOrder, .ref aM_bestEnd]))]) ⟨hx, hb, hml, hown, hts⟩ hK hP hD hS hA [] [0] rfl rfl (by decide) (by decide) (by decide) (c_X7_in l D cI cJ cZ H.size x1 0 (M_units - 1) _ hw) (va_cwS 3 hts gX7_isUnit_X7_in rfl rfl rfl (by decide +kernel) ⟨Nat.le_of_ble_eq_true rfl, Nat.le_of_ble_eq_true rfl⟩) rfl hl.1 (Nat.le_of_ble_eq_true rfl) dX7_isUnit_8 ⟨(Nat.le_of_ble_eq_true rfl), (Nat.le_of_ble_eq_true rfl)⟩ rfl (fun r1 u H locs hw hP hD hS => ?_)
  try dsimp only at hw
  have hP : va_P D vwCl [(aM, .inr (6, [.int M_units, .ref aM_kind, .ref aM_wash, .ref aM_fuel, .ref aM_isBroken, .ref aM_length, .int M_wanted, .ref aM_leaving, .int M_parked, .ref aM_stand, .ref aM_many, .ref aM_track, .ref aM_stack, .ref aM_depth, .ref aM_canBe, .int M_states, .ref aM_told, .ref aM_gone, .ref aM_cost, .ref aM_ways, .ref aM_places, .ref aM_now, .ref aM_high, .int M_runSize, .ref aM_run, .ref aM_runUnit, .ref aM_order, .ref aM_end, .ref aM_bestOrder, .ref aM_bestEnd]))] H := hP.sub [0] rfl
  have hD : va_D A [(aM, .inr (6, [.int M_units, .ref aM_kind, .ref aM_wash, .ref aM_fuel, .ref aM_isBroken, .ref aM_length, .int M_wanted, .ref aM_leaving, .int M_parked, .ref aM_stand, .ref aM_many, .ref aM_track, .ref aM_stack, .ref aM_depth, .ref aM_canBe, .int M_states, .ref aM_told, .ref aM_gone, .ref aM_cost, .ref aM_ways, .ref aM_places, .ref aM_now, .ref aM_high, .int M_runSize, .ref aM_run, .ref aM_runUnit, .ref aM_order, .ref aM_end, .ref aM_bestOrder, .ref aM_bestEnd]))] := hD.sub [0] (by decide) rfl
  obtain ⟨hnr, hw⟩ := hw
  exact hret r1  H locs 11 ls hw dX7_isUnit_11 hP hD hS hnr
/-! X7_findEnds -/
def B_X7_findEnds_38 (M_units : Int32) (M_wash : Nat → Int32) (M_fuel : Nat → Int32) (M_order : Nat → Int32) (post : Int32 → (Nat → Int32) → Prop) (K6 : Int32 → Int32 → Int32 → (Nat → Int32) → Prop) (x1 : Int32) (x3 : Int32) (s0 : Int32) (M_end : Nat → Int32) : Prop :=
  vp_in x3 5 ∧ (vp_in (M_order x3.toNatClampNeg) 5 ∧ (∀ y8 : Int32, y8 = (s0 + (M_fuel (M_order x3.toNatClampNeg).toNatClampNeg)) → (vp_in x3 5 ∧ (K6 x1 y8 (x3 + 1) (upd M_end x3.toNatClampNeg y8)))))
def Y_X7_findEnds_6 (M_units : Int32) (M_wash : Nat → Int32) (M_fuel : Nat → Int32) (M_order : Nat → Int32) (post : Int32 → (Nat → Int32) → Prop) (K6 : Int32 → Int32 → Int32 → (Nat → Int32) → Prop) (x1 : Int32) (x2 : Int32) (x3 : Int32) (M_end : Nat → Int32) : Prop :=
  ((M_units ≤ x3 → post x2 M_end) ∧ (¬ M_units ≤ x3 → vp_in x3 5 ∧ (vp_in (M_order x3.toNatClampNeg) 5 ∧ (∀ y4 : Int32, y4 = (x1 + (M_wash (M_order x3.toNatClampNeg).toNatClampNeg)) → (((y4 ≤ x2 → B_X7_findEnds_38 M_units M_wash M_fuel M_order post K6 y4 x3 x2 M_end) ∧ (¬ y4 ≤ x2 → B_X7_findEnds_38 M_units M_wash M_fuel M_order post K6 y4 x3 y4 M_end)))))))
def Z_X7_findEnds_6 (M_units : Int32) (M_wash : Nat → Int32) (M_fuel : Nat → Int32) (M_order : Nat → Int32) (post : Int32 → (Nat → Int32) → Prop) : Nat → Int32 → Int32 → Int32 → (Nat → Int32) → Prop
  | 0 => fun _ _ _ _ => False
  | n + 1 => Y_X7_findEnds_6 M_units M_wash M_fuel M_order post (Z_X7_findEnds_6 M_units M_wash M_fuel M_order post n)
def wp_X7_findEnds (M_units : Int32) (M_wash : Nat → Int32) (M_fuel : Nat → Int32) (M_order : Nat → Int32) (M_end : Nat → Int32) (post : Int32 → (Nat → Int32) → Prop) : Prop :=
  ∃ n, Z_X7_findEnds_6 M_units M_wash M_fuel M_order post n 0 0 0 M_end
set_option maxHeartbeats 4000000 in
set_option maxRecDepth 100000 in
theorem c_X7_findEnds (l : Launch) (D : va_G) (cI cJ cZ : ClassId) (aM aM_kind aM_wash aM_fuel aM_isBroken aM_length aM_leaving aM_stand aM_many aM_track aM_stack aM_depth aM_canBe aM_told aM_gone aM_cost aM_ways aM_places aM_now aM_high aM_run aM_runUnit aM_order aM_end aM_bestOrder aM_bestEnd : Nat) (sz : Nat) (M_units : Int32) (M_wanted : Int32) (M_parked : Int32) (M_states : Int32) (M_runSize : Int32) (M_wash : Nat → Int32) (M_fuel : Nat → Int32) (M_order : Nat → Int32) (M_end : Nat → Int32) (post : Int32 → (Nat → Int32) → Prop) (hw : wp_X7_findEnds M_units M_wash M_fuel M_order M_end post) : Met l yX7_findEnds wsX7_findEnds ({ frames := 0, cells := 0, slots := 0, locals := 0 } : Room) (va_Pc [.ref aM] (zPre D cI cJ cZ [(aM, .inr (6, [.int M_units, .ref aM_kind, .ref aM_wash, .ref aM_fuel, .ref aM_isBroken, .ref aM_length, .int M_wanted, .ref aM_leaving, .int M_parked, .ref aM_stand, .ref aM_many, .ref aM_track, .ref aM_stack, .ref aM_depth, .ref aM_canBe, .int M_states, .ref aM_told, .ref aM_gone, .ref aM_cost, .ref aM_ways, .ref aM_places, .ref aM_now, .ref aM_high, .int M_runSize, .ref aM_run, .ref aM_runUnit, .ref aM_order, .ref aM_end, .ref aM_bestOrder, .ref aM_bestEnd])), (aM_wash, .inl (cI, 5, .inl M_wash)), (aM_fuel, .inl (cI, 5, .inl M_fuel)), (aM_order, .inl (cI, 5, .inl M_order)), (aM_end, .inl (cI, 5, .inl M_end))] sz)) (va_Qi (fun (r : Int32) (u : (Nat → Int32)) => post r u) (zPost D cI cJ cZ (va_A [(aM, .inr (6, [.int M_units, .ref aM_kind, .ref aM_wash, .ref aM_fuel, .ref aM_isBroken, .ref aM_length, .int M_wanted, .ref aM_leaving, .int M_parked, .ref aM_stand, .ref aM_many, .ref aM_track, .ref aM_stack, .ref aM_depth, .ref aM_canBe, .int M_states, .ref aM_told, .ref aM_gone, .ref aM_cost, .ref aM_ways, .ref aM_places, .ref aM_now, .ref aM_high, .int M_runSize, .ref aM_run, .ref aM_runUnit, .ref aM_order, .ref aM_end, .ref aM_bestOrder, .ref aM_bestEnd])), (aM_wash, .inl (cI, 5, .inl M_wash)), (aM_fuel, .inl (cI, 5, .inl M_fuel)), (aM_order, .inl (cI, 5, .inl M_order)), (aM_end, .inl (cI, 5, .inl M_end))] sz) (fun u : (Nat → Int32) => [(aM, .inr (6, [.int M_units, .ref aM_kind, .ref aM_wash, .ref aM_fuel, .ref aM_isBroken, .ref aM_length, .int M_wanted, .ref aM_leaving, .int M_parked, .ref aM_stand, .ref aM_many, .ref aM_track, .ref aM_stack, .ref aM_depth, .ref aM_canBe, .int M_states, .ref aM_told, .ref aM_gone, .ref aM_cost, .ref aM_ways, .ref aM_places, .ref aM_now, .ref aM_high, .int M_runSize, .ref aM_run, .ref aM_runUnit, .ref aM_order, .ref aM_end, .ref aM_bestOrder, .ref aM_bestEnd])), (aM_wash, .inl (cI, 5, .inl M_wash)), (aM_fuel, .inl (cI, 5, .inl M_fuel)), (aM_order, .inl (cI, 5, .inl M_order)), (aM_end, .inl (cI, 5, .inl u))])) (va_A [(aM, .inr (6, [.int M_units, .ref aM_kind, .ref aM_wash, .ref aM_fuel, .ref aM_isBroken, .ref aM_length, .int M_wanted, .ref aM_leaving, .int M_parked, .ref aM_stand, .ref aM_many, .ref aM_track, .ref aM_stack, .ref aM_depth, .ref aM_canBe, .int M_states, .ref aM_told, .ref aM_gone, .ref aM_cost, .ref aM_ways, .ref aM_places, .ref aM_now, .ref aM_high, .int M_runSize, .ref aM_run, .ref aM_runUnit, .ref aM_order, .ref aM_end, .ref aM_bestOrder, .ref aM_bestEnd])), (aM_wash, .inl (cI, 5, .inl M_wash)), (aM_fuel, .inl (cI, 5, .inl M_fuel)), (aM_order, .inl (cI, 5, .inl M_order)), (aM_end, .inl (cI, 5, .inl M_end))] sz)) 0 0 (va_A [(aM, .inr (6, [.int M_units, .ref aM_kind, .ref aM_wash, .ref aM_fuel, .ref aM_isBroken, .ref aM_length, .int M_wanted, .ref aM_leaving, .int M_parked, .ref aM_stand, .ref aM_many, .ref aM_track, .ref aM_stack, .ref aM_depth, .ref aM_canBe, .int M_states, .ref aM_told, .ref aM_gone, .ref aM_cost, .ref aM_ways, .ref aM_places, .ref aM_now, .ref aM_high, .int M_runSize, .ref aM_run, .ref aM_runUnit, .ref aM_order, .ref aM_end, .ref aM_bestOrder, .ref aM_bestEnd])), (aM_wash, .inl (cI, 5, .inl M_wash)), (aM_fuel, .inl (cI, 5, .inl M_fuel)), (aM_order, .inl (cI, 5, .inl M_order)), (aM_end, .inl (cI, 5, .inl M_end))] sz) := by
  unfold wp_X7_findEnds at hw
  refine Met.ofW (cc := cX7_findEnds) (maxL := 4) (ret := some .int) (by decide) rfl ?_
  intro p e s m args below meth c s₁ B hml hv
  obtain ⟨rfl, hsz, hP, hK, hD0⟩ := hv
  have hx := B.exec
  have hb := B.bytes
  have hr := B.returns
  have hts := atoms_spec (ws := wsX7_findEnds) B.pre
  have hown : s.vm.findClass RX7 = some m.cls := findClass_of_methodNamed B.named
  have hlocks := B.notSynchronized
  subst hsz
  have hD := hD0.self (sz := s.heap.size)
  generalize hAe : va_A [(aM, .inr (6, [.int M_units, .ref aM_kind, .ref aM_wash, .ref aM_fuel, .ref aM_isBroken, .ref aM_length, .int M_wanted, .ref aM_leaving, .int M_parked, .ref aM_stand, .ref aM_many, .ref aM_track, .ref aM_stack, .ref aM_depth, .ref aM_canBe, .int M_states, .ref aM_told, .ref aM_gone, .ref aM_cost, .ref aM_ways, .ref aM_places, .ref aM_now, .ref aM_high, .int M_runSize, .ref aM_run, .ref aM_runUnit, .ref aM_order, .ref aM_end, .ref aM_bestOrder, .ref aM_bestEnd])), (aM_wash, .inl (cI, 5, .inl M_wash)), (aM_fuel, .inl (cI, 5, .inl M_fuel)), (aM_order, .inl (cI, 5, .inl M_order)), (aM_end, .inl (cI, 5, .inl M_end))] s.heap.size = A at hD ⊢
  have hA : ∀ q : Nat, s.heap.size ≤ q → A q := fun q h => by rw [← hAe]; exact Or.inr h
  have hS : va_S A s.heap s.heap [] := va_S.rf
  refine (fun (hall : ∀ Q0 : State → Prop, (∀ (r : Int32) (v0 : Nat → Int32) (H : Heap) (locs : List Loc) (pc : Nat) (ls : Array Slot), post r v0 → decode cX7_findEnds pc = .ok (.ireturn, 1) → va_P D vwCl [(aM, .inr (6, [.int M_units, .ref aM_kind, .ref aM_wash, .ref aM_fuel, .ref aM_isBroken, .ref aM_length, .int M_wanted, .ref aM_leaving, .int M_parked, .ref aM_stand, .ref aM_many, .ref aM_track, .ref aM_stack, .ref aM_depth, .ref aM_canBe, .int M_states, .ref aM_told, .ref aM_gone, .ref aM_cost, .ref aM_ways, .ref aM_places, .ref aM_now, .ref aM_high, .int M_runSize, .ref aM_run, .ref aM_runUnit, .ref aM_order, .ref aM_end, .ref aM_bestOrder, .ref aM_bestEnd])), (aM_wash, .inl (cI, 5, .inl M_wash)), (aM_fuel, .inl (cI, 5, .inl M_fuel)), (aM_order, .inl (cI, 5, .inl M_order)), (aM_end, .inl (cI, 5, .inl v0))] H → va_D A [(aM, .inr (6, [.int M_units, .ref aM_kind, .ref aM_wash, .ref aM_fuel, .ref aM_isBroken, .ref aM_length, .int M_wanted, .ref aM_leaving, .int M_parked, .ref aM_stand, .ref aM_many, .ref aM_track, .ref aM_stack, .ref aM_depth, .ref aM_canBe, .int M_states, .ref aM_told, .ref aM_gone, .ref aM_cost, .ref aM_ways, .ref aM_places, .ref aM_now, .ref aM_high, .int M_runSize, .ref aM_run, .ref aM_runUnit, .ref aM_order, .ref aM_end, .ref aM_bestOrder, .ref aM_bestEnd])), (aM_wash, .inl (cI, 5, .inl M_wash)), (aM_fuel, .inl (cI, 5, .inl M_fuel)), (aM_order, .inl (cI, 5, .inl M_order)), (aM_end, .inl (cI, 5, .inl v0))] → va_S A s.heap H locs → W p l e ({ frames := 0, cells := 0, slots := 0, locals := 0 } : Room) s m ([.ref aM] : List Value).toArray below meth c H locs 0 0 Q0 (F0 m pc ls [.int r])) → W p l e ({ frames := 0, cells := 0, slots := 0, locals := 0 } : Room) s m ([.ref aM] : List Value).toArray below meth c s.heap [] 0 0 Q0 (entryFrame m ([.ref aM] : List Value).toArray 4)) => hall _ (fun r v0 H locs pc ls hw hd hP hD hS => W.iret (v := r) hx hb hr (fun t ht hW => ⟨⟨r, v0, rfl, hw, by rw [ht]; exact hP, va_K.moved hW.alike hK, hD⟩, hS.F ht⟩) hS.2.2 hd)) ?_
  intro Q0 hret
  have hl := lv_entry ([.ref aM]) (n := 4) (Nat.le_of_ble_eq_true rfl)
  rw [lg_entry_eq]
  generalize (lg_sl ([.ref aM]) ++ List.replicate (4 - (lg_sl ([.ref aM])).length) Slot.unset).toArray = ls at hl ⊢
  have hl : lv_has ls 4 [(0, .ref aM)] := hl
  have hinX7 : ∀ w ∈ u_ws RX7 TX7 30, w ∈ wsX7_findEnds := by decide +kernel
  have hf13 := hts (.fieldLink RX7 13 "DepotNightModel" "wash" "[I") (by decide +kernel)
  have hf16 := hts (.fieldLink RX7 16 "DepotNightModel" "fuel" "[I") (by decide +kernel)
  have hf76 := hts (.fieldLink RX7 76 "DepotNightModel" "order" "[I") (by decide +kernel)
  have hf79 := hts (.fieldLink RX7 79 "DepotNightModel" "end" "[I") (by decide +kernel)
  have hf88 := hts (.fieldLink RX7 88 "DepotNightModel" "units" "I") (by decide +kernel)
  have wB_X7_findEnds_38 : ∀ (K6 : Int32 → Int32 → Int32 → (Nat → Int32) → Prop), (∀ (x1 : Int32) (x2 : Int32) (x3 : Int32) (M_end : Nat → Int32), K6 x1 x2 x3 M_end → ∀ (H : Heap) (locs : List Loc) (ls : Array Slot), va_P D vwCl [(aM, .inr (6, [.int M_units, .ref aM_kind, .ref aM_wash, .ref aM_fuel, .ref aM_isBroken, .ref aM_length, .int M_wanted, .ref aM_leaving, .int M_parked, .ref aM_stand, .ref aM_many, .ref aM_track, .ref aM_stack, .ref aM_depth, .ref aM_canBe, .int M_states, .ref aM_told, .ref aM_gone, .ref aM_cost, .ref aM_ways, .ref aM_places, .ref aM_now, .ref aM_high, .int M_runSize, .ref aM_run, .ref aM_runUnit, .ref aM_order, .ref aM_end, .ref aM_bestOrder, .ref aM_bestEnd])), (aM_wash, .inl (cI, 5, .inl M_wash)), (aM_fuel, .inl (cI, 5, .inl M_fuel)), (aM_order, .inl (cI, 5, .inl M_order)), (aM_end, .inl (cI, 5, .inl M_end))] H → va_D A [(aM, .inr (6, [.int M_units, .ref aM_kind, .ref aM_wash, .ref aM_fuel, .ref aM_isBroken, .ref aM_length, .int M_wanted, .ref aM_leaving, .int M_parked, .ref aM_stand, .ref aM_many, .ref aM_track, .ref aM_stack, .ref aM_depth, .ref aM_canBe, .int M_states, .ref aM_told, .ref aM_gone, .ref aM_cost, .ref aM_ways, .ref aM_places, .ref aM_now, .ref aM_high, .int M_runSize, .ref aM_run, .ref aM_runUnit, .ref aM_order, .ref aM_end, .ref aM_bestOrder, .ref aM_bestEnd])), (aM_wash, .inl (cI, 5, .inl M_wash)), (aM_fuel, .inl (cI, 5, .inl M_fuel)), (aM_order, .inl (cI, 5, .inl M_order)), (aM_end, .inl (cI, 5, .inl M_end))] → va_S A s.heap H locs → lv_has ls 4 [(0, .ref aM), (1, .int x1), (2, .int x2), (3, .int x3)] → W p l e ({ frames := 0, cells := 0, slots := 0, locals := 0 } : Room) s m ([.ref aM] : List Value).toArray below meth c H locs 0 0 Q0 (F0 m 6 ls [])) → ∀ (x1 : Int32) (x3 : Int32) (s0 : Int32) (M_end : Nat → Int32), B_X7_findEnds_38 M_units M_wash M_fuel M_order post K6 x1 x3 s0 M_end → ∀ (H : Heap) (locs : List Loc) (ls : Array Slot), va_P D vwCl [(aM, .inr (6, [.int M_units, .ref aM_kind, .ref aM_wash, .ref aM_fuel, .ref aM_isBroken, .ref aM_length, .int M_wanted, .ref aM_leaving, .int M_parked, .ref aM_stand, .ref aM_many, .ref aM_track, .ref aM_stack, .ref aM_depth, .ref aM_canBe, .int M_states, .ref aM_told, .ref aM_gone, .ref aM_cost, .ref aM_ways, .ref aM_places, .ref aM_now, .ref aM_high, .int M_runSize, .ref aM_run, .ref aM_runUnit, .ref aM_order, .ref aM_end, .ref aM_bestOrder, .ref aM_bestEnd])), (aM_wash, .inl (cI, 5, .inl M_wash)), (aM_fuel, .inl (cI, 5, .inl M_fuel)), (aM_order, .inl (cI, 5, .inl M_order)), (aM_end, .inl (cI, 5, .inl M_end))] H → va_D A [(aM, .inr (6, [.int M_units, .ref aM_kind, .ref aM_wash, .ref aM_fuel, .ref aM_isBroken, .ref aM_length, .int M_wanted, .ref aM_leaving, .int M_parked, .ref aM_stand, .ref aM_many, .ref aM_track, .ref aM_stack, .ref aM_depth, .ref aM_canBe, .int M_states, .ref aM_told, .ref aM_gone, .ref aM_cost, .ref aM_ways, .ref aM_places, .ref aM_now, .ref aM_high, .int M_runSize, .ref aM_run, .ref aM_runUnit, .ref aM_order, .ref aM_end, .ref aM_bestOrder, .ref aM_bestEnd])), (aM_wash, .inl (cI, 5, .inl M_wash)), (aM_fuel, .inl (cI, 5, .inl M_fuel)), (aM_order, .inl (cI, 5, .inl M_order)), (aM_end, .inl (cI, 5, .inl M_end))] → va_S A s.heap H locs → lv_has ls 4 [(0, .ref aM), (1, .int x1), (3, .int x3)] → W p l e ({ frames := 0, cells := 0, slots := 0, locals := 0 } : Room) s m ([.ref aM] : List Value).toArray below meth c H locs 0 0 Q0 (F0 m 38 ls [.int s0]) := by
    intro K6 hK6 x1 x3 s0 M_end hw H locs ls hP hD hS hl
    unfold B_X7_findEnds_38 at hw
    refine lv_aload_n hx hb dX7_findEnds_38 rfl (lv_at hl 0 rfl) ?_
    refine va_get (D := D) (ci := 6) (v := .ref aM_fuel) (C := RX7) (T := TX7) (N := 30) hx hb hts hinX7 hown hK hP 0 rfl rfl 3 (by decide) hf16 (fun _ h9 => h9) rfl dX7_findEnds_39 ?_
    refine lv_aload_n hx hb dX7_findEnds_42 rfl (lv_at hl 0 rfl) ?_
    refine va_get (D := D) (ci := 6) (v := .ref aM_order) (C := RX7) (T := TX7) (N := 30) hx hb hts hinX7 hown hK hP 0 rfl rfl 26 (by decide) hf76 (fun _ h9 => h9) rfl dX7_findEnds_43 ?_
    refine lv_iload_n hx hb dX7_findEnds_46 rfl (lv_at hl 2 rfl) ?_
    obtain ⟨hb6, hw⟩ := hw
    refine va_iald hx hb hK hP 3 0 rfl rfl hb6 dX7_findEnds_47 ?_
    obtain ⟨hb7, hw⟩ := hw
    refine va_iald hx hb hK hP 2 0 rfl rfl hb7 dX7_findEnds_48 ?_
    refine lv_iadd hx hb dX7_findEnds_49 ?_
    refine lv_topi (fun y8 ey8 => ?_)
    have hw := hw y8 ey8
    refine lv_istore_n (lv' := [(2, .int y8), (0, .ref aM), (1, .int x1), (3, .int x3)]) hx hb dX7_findEnds_50 rfl hl (by decide) rfl (fun ls hl => ?_)
    refine lv_aload_n hx hb dX7_findEnds_51 rfl (lv_at hl 1 rfl) ?_
    refine va_get (D := D) (ci := 6) (v := .ref aM_end) (C := RX7) (T := TX7) (N := 30) hx hb hts hinX7 hown hK hP 0 rfl rfl 27 (by decide) hf79 (fun _ h9 => h9) rfl dX7_findEnds_52 ?_
    refine lv_iload_n hx hb dX7_findEnds_55 rfl (lv_at hl 3 rfl) ?_
    refine lv_iload_n hx hb dX7_findEnds_56 rfl (lv_at hl 0 rfl) ?_
    obtain ⟨hb9, hw⟩ := hw
    refine va_iast hx hb hK hP hD hS 4 0 rfl rfl hb9 dX7_findEnds_57 (fun H locs hP hD hS => ?_)
    have hP : va_P D vwCl [(aM, .inr (6, [.int M_units, .ref aM_kind, .ref aM_wash, .ref aM_fuel, .ref aM_isBroken, .ref aM_length, .int M_wanted, .ref aM_leaving, .int M_parked, .ref aM_stand, .ref aM_many, .ref aM_track, .ref aM_stack, .ref aM_depth, .ref aM_canBe, .int M_states, .ref aM_told, .ref aM_gone, .ref aM_cost, .ref aM_ways, .ref aM_places, .ref aM_now, .ref aM_high, .int M_runSize, .ref aM_run, .ref aM_runUnit, .ref aM_order, .ref aM_end, .ref aM_bestOrder, .ref aM_bestEnd])), (aM_wash, .inl (cI, 5, .inl M_wash)), (aM_fuel, .inl (cI, 5, .inl M_fuel)), (aM_order, .inl (cI, 5, .inl M_order)), (aM_end, .inl (cI, 5, .inl (upd M_end x3.toNatClampNeg y8)))] H := hP
    have hD : va_D A [(aM, .inr (6, [.int M_units, .ref aM_kind, .ref aM_wash, .ref aM_fuel, .ref aM_isBroken, .ref aM_length, .int M_wanted, .ref aM_leaving, .int M_parked, .ref aM_stand, .ref aM_many, .ref aM_track, .ref aM_stack, .ref aM_depth, .ref aM_canBe, .int M_states, .ref aM_told, .ref aM_gone, .ref aM_cost, .ref aM_ways, .ref aM_places, .ref aM_now, .ref aM_high, .int M_runSize, .ref aM_run, .ref aM_runUnit, .ref aM_order, .ref aM_end, .ref aM_bestOrder, .ref aM_bestEnd])), (aM_wash, .inl (cI, 5, .inl M_wash)), (aM_fuel, .inl (cI, 5, .inl M_fuel)), (aM_order, .inl (cI, 5, .inl M_order)), (aM_end, .inl (cI, 5, .inl (upd M_end x3.toNatClampNeg y8)))] := hD
    refine lv_iinc (v := (x3 + 1)) (lv' := [(3, .int (x3 + 1)), (2, .int y8), (0, .ref aM), (1, .int x1)]) hx hb dX7_findEnds_58 hl (k := 3) rfl rfl (by decide) rfl (fun ls hl => ?_)
    refine lv_goto (tgt := 6) hx hb dX7_findEnds_61 (by decide) ?_
    exact hK6 x1 y8 (x3 + 1) (upd M_end x3.toNatClampNeg y8) hw H locs ls hP hD hS (lv_sub hl [2, 3, 1, 0] rfl)
  have wZ_X7_findEnds_6 : ∀ (n : Nat) (x1 : Int32) (x2 : Int32) (x3 : Int32) (M_end : Nat → Int32), Z_X7_findEnds_6 M_units M_wash M_fuel M_order post n x1 x2 x3 M_end → ∀ (H : Heap) (locs : List Loc) (ls : Array Slot), va_P D vwCl [(aM, .inr (6, [.int M_units, .ref aM_kind, .ref aM_wash, .ref aM_fuel, .ref aM_isBroken, .ref aM_length, .int M_wanted, .ref aM_leaving, .int M_parked, .ref aM_stand, .ref aM_many, .ref aM_track, .ref aM_stack, .ref aM_depth, .ref aM_canBe, .int M_states, .ref aM_told, .ref aM_gone, .ref aM_cost, .ref aM_ways, .ref aM_places, .ref aM_now, .ref aM_high, .int M_runSize, .ref aM_run, .ref aM_runUnit, .ref aM_order, .ref aM_end, .ref aM_bestOrder, .ref aM_bestEnd])), (aM_wash, .inl (cI, 5, .inl M_wash)), (aM_fuel, .inl (cI, 5, .inl M_fuel)), (aM_order, .inl (cI, 5, .inl M_order)), (aM_end, .inl (cI, 5, .inl M_end))] H → va_D A [(aM, .inr (6, [.int M_units, .ref aM_kind, .ref aM_wash, .ref aM_fuel, .ref aM_isBroken, .ref aM_length, .int M_wanted, .ref aM_leaving, .int M_parked, .ref aM_stand, .ref aM_many, .ref aM_track, .ref aM_stack, .ref aM_depth, .ref aM_canBe, .int M_states, .ref aM_told, .ref aM_gone, .ref aM_cost, .ref aM_ways, .ref aM_places, .ref aM_now, .ref aM_high, .int M_runSize, .ref aM_run, .ref aM_runUnit, .ref aM_order, .ref aM_end, .ref aM_bestOrder, .ref aM_bestEnd])), (aM_wash, .inl (cI, 5, .inl M_wash)), (aM_fuel, .inl (cI, 5, .inl M_fuel)), (aM_order, .inl (cI, 5, .inl M_order)), (aM_end, .inl (cI, 5, .inl M_end))] → va_S A s.heap H locs → lv_has ls 4 [(0, .ref aM), (1, .int x1), (2, .int x2), (3, .int x3)] → W p l e ({ frames := 0, cells := 0, slots := 0, locals := 0 } : Room) s m ([.ref aM] : List Value).toArray below meth c H locs 0 0 Q0 (F0 m 6 ls []) := by
    intro n
    induction n with
    | zero =>
      intro x1 x2 x3 M_end hw
      exact (show False from hw).elim
    | succ n hK6 =>
      intro x1 x2 x3 M_end hw H locs ls hP hD hS hl
      have hw : Y_X7_findEnds_6 M_units M_wash M_fuel M_order post (Z_X7_findEnds_6 M_units M_wash M_fuel M_order post n) x1 x2 x3 M_end := hw
      unfold Y_X7_findEnds_6 at hw
      refine lv_iload_n hx hb dX7_findEnds_6 rfl (lv_at hl 3 rfl) ?_
      refine lv_aload_n hx hb dX7_findEnds_7 rfl (lv_at hl 0 rfl) ?_
      refine va_get (D := D) (ci := 6) (v := .int M_units) (C := RX7) (T := TX7) (N := 30) hx hb hts hinX7 hown hK hP 0 rfl rfl 0 (by decide) hf88 (fun _ h9 => h9) rfl dX7_findEnds_8 ?_
      refine lv_icmp_ge (tgt := 64) hx hb dX7_findEnds_11 (by decide) (fun hc1 => ?_) (fun hc1 => ?_)
      · have hw := hw.1 hc1
        refine lv_iload_n hx hb dX7_findEnds_64 rfl (lv_at hl 2 rfl) ?_
        exact hret x2 M_end H locs 65 ls hw dX7_findEnds_65 hP hD hS 
      · have hw := hw.2 hc1
        refine lv_iload_n hx hb dX7_findEnds_14 rfl (lv_at hl 1 rfl) ?_
        refine lv_aload_n hx hb dX7_findEnds_15 rfl (lv_at hl 0 rfl) ?_
        refine va_get (D := D) (ci := 6) (v := .ref aM_wash) (C := RX7) (T := TX7) (N := 30) hx hb hts hinX7 hown hK hP 0 rfl rfl 2 (by decide) hf13 (fun _ h9 => h9) rfl dX7_findEnds_16 ?_
        refine lv_aload_n hx hb dX7_findEnds_19 rfl (lv_at hl 0 rfl) ?_
        refine va_get (D := D) (ci := 6) (v := .ref aM_order) (C := RX7) (T := TX7) (N := 30) hx hb hts hinX7 hown hK hP 0 rfl rfl 26 (by decide) hf76 (fun _ h9 => h9) rfl dX7_findEnds_20 ?_
        refine lv_iload_n hx hb dX7_findEnds_23 rfl (lv_at hl 3 rfl) ?_
        obtain ⟨hb2, hw⟩ := hw
        refine va_iald hx hb hK hP 3 0 rfl rfl hb2 dX7_findEnds_24 ?_
        obtain ⟨hb3, hw⟩ := hw
        refine va_iald hx hb hK hP 1 0 rfl rfl hb3 dX7_findEnds_25 ?_
        refine lv_iadd hx hb dX7_findEnds_26 ?_
        refine lv_topi (fun y4 ey4 => ?_)
        have hw := hw y4 ey4
        refine lv_istore_n (lv' := [(1, .int y4), (0, .ref aM), (2, .int x2), (3, .int x3)]) hx hb dX7_findEnds_27 rfl hl (by decide) rfl (fun ls hl => ?_)
        refine lv_iload_n hx hb dX7_findEnds_28 rfl (lv_at hl 0 rfl) ?_
        refine lv_iload_n hx hb dX7_findEnds_29 rfl (lv_at hl 2 rfl) ?_
        refine lv_icmp_le (tgt := 37) hx hb dX7_findEnds_30 (by decide) (fun hc5 => ?_) (fun hc5 => ?_)
        · have hw := hw.1 hc5
          refine lv_iload_n hx hb dX7_findEnds_37 rfl (lv_at hl 2 rfl) ?_
          exact wB_X7_findEnds_38 _ hK6 y4 x3 x2 M_end hw H locs ls hP hD hS (lv_sub hl [1, 0, 3] rfl)
        · have hw := hw.2 hc5
          refine lv_iload_n hx hb dX7_findEnds_33 rfl (lv_at hl 0 rfl) ?_
          refine lv_goto (tgt := 38) hx hb dX7_findEnds_34 (by decide) ?_
          exact wB_X7_findEnds_38 _ hK6 y4 x3 y4 M_end hw H locs ls hP hD hS (lv_sub hl [1, 0, 3] rfl)
  obtain ⟨H, hHe⟩ : ∃ H, H = s.heap := ⟨_, rfl⟩
  obtain ⟨locs, hLo⟩ : ∃ locs : List Loc, locs = [] := ⟨_, rfl⟩
  have hS : va_S A s.heap H locs := by rw [hHe, hLo]; exact hS
  have hP : va_P D vwCl [(aM, .inr (6, [.int M_units, .ref aM_kind, .ref aM_wash, .ref aM_fuel, .ref aM_isBroken, .ref aM_length, .int M_wanted, .ref aM_leaving, .int M_parked, .ref aM_stand, .ref aM_many, .ref aM_track, .ref aM_stack, .ref aM_depth, .ref aM_canBe, .int M_states, .ref aM_told, .ref aM_gone, .ref aM_cost, .ref aM_ways, .ref aM_places, .ref aM_now, .ref aM_high, .int M_runSize, .ref aM_run, .ref aM_runUnit, .ref aM_order, .ref aM_end, .ref aM_bestOrder, .ref aM_bestEnd])), (aM_wash, .inl (cI, 5, .inl M_wash)), (aM_fuel, .inl (cI, 5, .inl M_fuel)), (aM_order, .inl (cI, 5, .inl M_order)), (aM_end, .inl (cI, 5, .inl M_end))] H := by rw [hHe]; exact hP
  refine (fun (hgo : W p l e ({ frames := 0, cells := 0, slots := 0, locals := 0 } : Room) s m ([.ref aM] : List Value).toArray below meth c H locs 0 0 Q0 (F0 m 0 ls [])) => by rw [hHe, hLo] at hgo; exact hgo) ?_
  refine lv_iconst (v := 0) hx hb dX7_findEnds_0 (by decide) ?_
  refine lv_istore_n (lv' := [(1, .int 0), (0, .ref aM)]) hx hb dX7_findEnds_1 rfl hl (by decide) rfl (fun ls hl => ?_)
  refine lv_iconst (v := 0) hx hb dX7_findEnds_2 (by decide) ?_
  refine lv_istore_n (lv' := [(2, .int 0), (1, .int 0), (0, .ref aM)]) hx hb dX7_findEnds_3 rfl hl (by decide) rfl (fun ls hl => ?_)
  refine lv_iconst (v := 0) hx hb dX7_findEnds_4 (by decide) ?_
  refine lv_istore_n (lv' := [(3, .int 0), (2, .int 0), (1, .int 0), (0, .ref aM)]) hx hb dX7_findEnds_5 rfl hl (by decide) rfl (fun ls hl => ?_)
  obtain ⟨n10, hw⟩ := hw
  exact wZ_X7_findEnds_6  n10 0 0 0 M_end hw H locs ls hP hD hS (lv_sub hl [3, 2, 1, 0] rfl)
/-! X0_hasUnit -/
def wp_X0_hasUnit (D_units : Int32) (x1 : Int32) (post : Int32 → Prop) : Prop :=
  ((x1 < 0 → post 0 ) ∧ (¬ x1 < 0 → ((D_units ≤ x1 → post 0 ) ∧ (¬ D_units ≤ x1 → post 1 ))))
set_option maxHeartbeats 4000000 in
set_option maxRecDepth 100000 in
theorem c_X0_hasUnit (l : Launch) (D : va_G) (cI cJ cZ : ClassId) (aD aD_kinds aD_washes aD_fuels aD_isBroken aD_lengths aD_wanted aD_trackOf : Nat) (sz : Nat) (D_units : Int32) (D_leaving : Int32) (D_parked : Int32) (D_changes : Int32) (x1 : Int32) (post : Int32 → Prop) (hw : wp_X0_hasUnit D_units x1 post) : Met l yX0_hasUnit wsX0_hasUnit ({ frames := 0, cells := 0, slots := 0, locals := 0 } : Room) (va_Pc [.ref aD, .int x1] (zPre D cI cJ cZ [(aD, .inr (0, [.ref aD_kinds, .ref aD_washes, .ref aD_fuels, .ref aD_isBroken, .int D_units, .ref aD_lengths, .ref aD_wanted, .int D_leaving, .ref aD_trackOf, .int D_parked, .int D_changes]))] sz)) (va_Qi (fun (r : Int32) (u : Unit) => post r) (zPost D cI cJ cZ (va_A [(aD, .inr (0, [.ref aD_kinds, .ref aD_washes, .ref aD_fuels, .ref aD_isBroken, .int D_units, .ref aD_lengths, .ref aD_wanted, .int D_leaving, .ref aD_trackOf, .int D_parked, .int D_changes]))] sz) (fun u : Unit => [(aD, .inr (0, [.ref aD_kinds, .ref aD_washes, .ref aD_fuels, .ref aD_isBroken, .int D_units, .ref aD_lengths, .ref aD_wanted, .int D_leaving, .ref aD_trackOf, .int D_parked, .int D_changes]))])) (va_A [(aD, .inr (0, [.ref aD_kinds, .ref aD_washes, .ref aD_fuels, .ref aD_isBroken, .int D_units, .ref aD_lengths, .ref aD_wanted, .int D_leaving, .ref aD_trackOf, .int D_parked, .int D_changes]))] sz)) 0 0 (va_A [(aD, .inr (0, [.ref aD_kinds, .ref aD_washes, .ref aD_fuels, .ref aD_isBroken, .int D_units, .ref aD_lengths, .ref aD_wanted, .int D_leaving, .ref aD_trackOf, .int D_parked, .int D_changes]))] sz) := by
  unfold wp_X0_hasUnit at hw
  refine Met.ofW (cc := cX0_hasUnit) (maxL := 2) (ret := some .boolean) (by decide) rfl ?_
  intro p e s m args below meth c s₁ B hml hv
  obtain ⟨rfl, hsz, hP, hK, hD0⟩ := hv
  have hx := B.exec
  have hb := B.bytes
  have hr := B.returns
  have hts := atoms_spec (ws := wsX0_hasUnit) B.pre
  have hown : s.vm.findClass RX0 = some m.cls := findClass_of_methodNamed B.named
  have hlocks := B.notSynchronized
  subst hsz
  have hD := hD0.self (sz := s.heap.size)
  generalize hAe : va_A [(aD, .inr (0, [.ref aD_kinds, .ref aD_washes, .ref aD_fuels, .ref aD_isBroken, .int D_units, .ref aD_lengths, .ref aD_wanted, .int D_leaving, .ref aD_trackOf, .int D_parked, .int D_changes]))] s.heap.size = A at hD ⊢
  have hA : ∀ q : Nat, s.heap.size ≤ q → A q := fun q h => by rw [← hAe]; exact Or.inr h
  have hS : va_S A s.heap s.heap [] := va_S.rf
  refine (fun (hall : ∀ Q0 : State → Prop, (∀ (r : Int32)  (H : Heap) (locs : List Loc) (pc : Nat) (ls : Array Slot), post r → decode cX0_hasUnit pc = .ok (.ireturn, 1) → va_P D vwCl [(aD, .inr (0, [.ref aD_kinds, .ref aD_washes, .ref aD_fuels, .ref aD_isBroken, .int D_units, .ref aD_lengths, .ref aD_wanted, .int D_leaving, .ref aD_trackOf, .int D_parked, .int D_changes]))] H → va_D A [(aD, .inr (0, [.ref aD_kinds, .ref aD_washes, .ref aD_fuels, .ref aD_isBroken, .int D_units, .ref aD_lengths, .ref aD_wanted, .int D_leaving, .ref aD_trackOf, .int D_parked, .int D_changes]))] → va_S A s.heap H locs → narrow .boolean (.int r) = .int r → W p l e ({ frames := 0, cells := 0, slots := 0, locals := 0 } : Room) s m ([.ref aD, .int x1] : List Value).toArray below meth c H locs 0 0 Q0 (F0 m pc ls [.int r])) → W p l e ({ frames := 0, cells := 0, slots := 0, locals := 0 } : Room) s m ([.ref aD, .int x1] : List Value).toArray below meth c s.heap [] 0 0 Q0 (entryFrame m ([.ref aD, .int x1] : List Value).toArray 2)) => hall _ (fun r  H locs pc ls hw hd hP hD hS hnr => W.zret (v := r) hx hb hr hnr (fun t ht hW => ⟨⟨r, (), rfl, hw, by rw [ht]; exact hP, va_K.moved hW.alike hK, hD⟩, hS.F ht⟩) hS.2.2 hd)) ?_
  intro Q0 hret
  have hl := lv_entry ([.ref aD, .int x1]) (n := 2) (Nat.le_of_ble_eq_true rfl)
  rw [lg_entry_eq]
  generalize (lg_sl ([.ref aD, .int x1]) ++ List.replicate (2 - (lg_sl ([.ref aD, .int x1])).length) Slot.unset).toArray = ls at hl ⊢
  have hl : lv_has ls 2 [(0, .ref aD), (1, .int x1)] := hl
  have hinX0 : ∀ w ∈ u_ws RX0 TX0 11, w ∈ wsX0_hasUnit := by decide +kernel
  have hf25 := hts (.fieldLink RX0 25 "DepotNight$Depot" "units" "I") (by decide +kernel)
  obtain ⟨H, hHe⟩ : ∃ H, H = s.heap := ⟨_, rfl⟩
  obtain ⟨locs, hLo⟩ : ∃ locs : List Loc, locs = [] := ⟨_, rfl⟩
  have hS : va_S A s.heap H locs := by rw [hHe, hLo]; exact hS
  have hP : va_P D vwCl [(aD, .inr (0, [.ref aD_kinds, .ref aD_washes, .ref aD_fuels, .ref aD_isBroken, .int D_units, .ref aD_lengths, .ref aD_wanted, .int D_leaving, .ref aD_trackOf, .int D_parked, .int D_changes]))] H := by rw [hHe]; exact hP
  refine (fun (hgo : W p l e ({ frames := 0, cells := 0, slots := 0, locals := 0 } : Room) s m ([.ref aD, .int x1] : List Value).toArray below meth c H locs 0 0 Q0 (F0 m 0 ls [])) => by rw [hHe, hLo] at hgo; exact hgo) ?_
  refine lv_iload_n hx hb dX0_hasUnit_0 rfl (lv_at hl 1 rfl) ?_
  refine lv_if_lt (tgt := 16) hx hb dX0_hasUnit_1 (by decide) (fun hc1 => ?_) (fun hc1 => ?_)
  · have hw := hw.1 hc1
    refine lv_iconst (v := 0) hx hb dX0_hasUnit_16 (by decide) ?_
    exact hret 0  H locs 17 ls hw dX0_hasUnit_17 hP hD hS rfl
  · have hw := hw.2 hc1
    refine lv_iload_n hx hb dX0_hasUnit_4 rfl (lv_at hl 1 rfl) ?_
    refine lv_aload_n hx hb dX0_hasUnit_5 rfl (lv_at hl 0 rfl) ?_
    refine va_get (D := D) (ci := 0) (v := .int D_units) (C := RX0) (T := TX0) (N := 11) hx hb hts hinX0 hown hK hP 0 rfl rfl 4 (by decide) hf25 (fun _ h9 => h9) rfl dX0_hasUnit_6 ?_
    refine lv_icmp_ge (tgt := 16) hx hb dX0_hasUnit_9 (by decide) (fun hc2 => ?_) (fun hc2 => ?_)
    · have hw := hw.1 hc2
      refine lv_iconst (v := 0) hx hb dX0_hasUnit_16 (by decide) ?_
      exact hret 0  H locs 17 ls hw dX0_hasUnit_17 hP hD hS rfl
    · have hw := hw.2 hc2
      refine lv_iconst (v := 1) hx hb dX0_hasUnit_12 (by decide) ?_
      refine lv_goto (tgt := 17) hx hb dX0_hasUnit_13 (by decide) ?_
      exact hret 1  H locs 17 ls hw dX0_hasUnit_17 hP hD hS rfl
