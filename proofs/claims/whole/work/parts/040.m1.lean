/-! X7_in -/
def wp_X7_in (x0 : Int32) (x1 : Int32) (x2 : Int32) (post : Int32 → Prop) : Prop :=
  ((x0 < x1 → post 0 ) ∧ (¬ x0 < x1 → ((x2 < x0 → post 0 ) ∧ (¬ x2 < x0 → post 1 ))))
set_option maxHeartbeats 4000000 in
set_option maxRecDepth 100000 in
theorem c_X7_in (l : Launch) (D : va_G) (cI cJ cZ : ClassId) (sz : Nat) (x0 : Int32) (x1 : Int32) (x2 : Int32) (post : Int32 → Prop) (hw : wp_X7_in x0 x1 x2 post) : Met l yX7_in wsX7_in ({ frames := 0, cells := 0, slots := 0, locals := 0 } : Room) (va_Pc [.int x0, .int x1, .int x2] (zPre D cI cJ cZ [] sz)) (va_Qi (fun (r : Int32) (u : Unit) => post r) (zPost D cI cJ cZ (va_A [] sz) (fun u : Unit => [])) (va_A [] sz)) 0 0 (va_A [] sz) := by
  unfold wp_X7_in at hw
  refine Met.ofW (cc := cX7_in) (maxL := 3) (ret := some .boolean) (by decide) rfl ?_
  intro p e s m args below meth c s₁ B hml hv
  obtain ⟨rfl, hsz, hP, hK, hD0⟩ := hv
  have hx := B.exec
  have hb := B.bytes
  have hr := B.returns
  have hts := atoms_spec (ws := wsX7_in) B.pre
  have hown : s.vm.findClass RX7 = some m.cls := findClass_of_methodNamed B.named
  have hlocks := B.notSynchronized
  subst hsz
  have hD := hD0.self (sz := s.heap.size)
  generalize hAe : va_A [] s.heap.size = A at hD ⊢
  have hA : ∀ q : Nat, s.heap.size ≤ q → A q := fun q h => by rw [← hAe]; exact Or.inr h
  have hS : va_S A s.heap s.heap [] := va_S.rf
  refine (fun (hall : ∀ Q0 : State → Prop, (∀ (r : Int32)  (H : Heap) (locs : List Loc) (pc : Nat) (ls : Array Slot), post r → decode cX7_in pc = .ok (.ireturn, 1) → va_P D vwCl [] H → va_D A [] → va_S A s.heap H locs → narrow .boolean (.int r) = .int r → W p l e ({ frames := 0, cells := 0, slots := 0, locals := 0 } : Room) s m ([.int x0, .int x1, .int x2] : List Value).toArray below meth c H locs 0 0 Q0 (F0 m pc ls [.int r])) → W p l e ({ frames := 0, cells := 0, slots := 0, locals := 0 } : Room) s m ([.int x0, .int x1, .int x2] : List Value).toArray below meth c s.heap [] 0 0 Q0 (entryFrame m ([.int x0, .int x1, .int x2] : List Value).toArray 3)) => hall _ (fun r  H locs pc ls hw hd hP hD hS hnr => W.zret (v := r) hx hb hr hnr (fun t ht hW => ⟨⟨r, (), rfl, hw, by rw [ht]; exact hP, va_K.moved hW.alike hK, hD⟩, hS.F ht⟩) hS.2.2 hd)) ?_
  intro Q0 hret
  have hl := lv_entry ([.int x0, .int x1, .int x2]) (n := 3) (Nat.le_of_ble_eq_true rfl)
  rw [lg_entry_eq]
  generalize (lg_sl ([.int x0, .int x1, .int x2]) ++ List.replicate (3 - (lg_sl ([.int x0, .int x1, .int x2])).length) Slot.unset).toArray = ls at hl ⊢
  have hl : lv_has ls 3 [(0, .int x0), (1, .int x1), (2, .int x2)] := hl
  obtain ⟨H, hHe⟩ : ∃ H, H = s.heap := ⟨_, rfl⟩
  obtain ⟨locs, hLo⟩ : ∃ locs : List Loc, locs = [] := ⟨_, rfl⟩
  have hS : va_S A s.heap H locs := by rw [hHe, hLo]; exact hS
  have hP : va_P D vwCl [] H := by rw [hHe]; exact hP
  refine (fun (hgo : W p l e ({ frames := 0, cells := 0, slots := 0, locals := 0 } : Room) s m ([.int x0, .int x1, .int x2] : List Value).toArray below meth c H locs 0 0 Q0 (F0 m 0 ls [])) => by rw [hHe, hLo] at hgo; exact hgo) ?_
  refine lv_iload_n hx hb dX7_in_0 rfl (lv_at hl 0 rfl) ?_
  refine lv_iload_n hx hb dX7_in_1 rfl (lv_at hl 1 rfl) ?_
  refine lv_icmp_lt (tgt := 14) hx hb dX7_in_2 (by decide) (fun hc1 => ?_) (fun hc1 => ?_)
  · have hw := hw.1 hc1
    refine lv_iconst (v := 0) hx hb dX7_in_14 (by decide) ?_
    exact hret 0  H locs 15 ls hw dX7_in_15 hP hD hS rfl
  · have hw := hw.2 hc1
    refine lv_iload_n hx hb dX7_in_5 rfl (lv_at hl 0 rfl) ?_
    refine lv_iload_n hx hb dX7_in_6 rfl (lv_at hl 2 rfl) ?_
    refine lv_icmp_gt (tgt := 14) hx hb dX7_in_7 (by decide) (fun hc2 => ?_) (fun hc2 => ?_)
    · have hw := hw.1 hc2
      refine lv_iconst (v := 0) hx hb dX7_in_14 (by decide) ?_
      exact hret 0  H locs 15 ls hw dX7_in_15 hP hD hS rfl
    · have hw := hw.2 hc2
      refine lv_iconst (v := 1) hx hb dX7_in_10 (by decide) ?_
      refine lv_goto (tgt := 15) hx hb dX7_in_11 (by decide) ?_
      exact hret 1  H locs 15 ls hw dX7_in_15 hP hD hS rfl
/-! X7_isUnit -/
def wp_X7_isUnit (M_units : Int32) (x1 : Int32) (post : Int32 → Prop) : Prop :=
  wp_X7_in x1 0 (M_units - 1) (fun (r1 : Int32) => narrow .boolean (.int r1) = .int r1 ∧ (post r1 ))
set_option maxHeartbeats 4000000 in
set_option maxRecDepth 100000 in
theorem c_X7_isUnit (l : Launch) (D : va_G) (cI cJ cZ : ClassId) (aM aM_kind aM_wash aM_fuel aM_isBroken aM_length aM_leaving aM_stand aM_many aM_track aM_stack aM_depth aM_canBe aM_told aM_gone aM_cost aM_ways aM_places aM_now aM_high aM_run aM_runUnit aM_order aM_end aM_bestOrder aM_bestEnd : Nat) (sz : Nat) (M_units : Int32) (M_wanted : Int32) (M_parked : Int32) (M_states : Int32) (M_runSize : Int32) (x1 : Int32) (post : Int32 → Prop) (hw : wp_X7_isUnit M_units x1 post) : Met l yX7_isUnit wsX7_isUnit ({ frames := 1, cells := 0, slots := 0, locals := 22 } : Room) (va_Pc [.ref aM, .int x1] (zPre D cI cJ cZ [(aM, .inr (6, [.int M_units, .ref aM_kind, .ref aM_wash, .ref aM_fuel, .ref aM_isBroken, .ref aM_length, .int M_wanted, .ref aM_leaving, .int M_parked, .ref aM_stand, .ref aM_many, .ref aM_track, .ref aM_stack, .ref aM_depth, .ref aM_canBe, .int M_states, .ref aM_told, .ref aM_gone, .ref aM_cost, .ref aM_ways, .ref aM_places, .ref aM_now, .ref aM_high, .int M_runSize, .ref aM_run, .ref aM_runUnit, .ref aM_order, .ref aM_end, .ref aM_bestOrder, .ref aM_bestEnd]))] sz)) (va_Qi (fun (r : Int32) (u : Unit) => post r) (zPost D cI cJ cZ (va_A [(aM, .inr (6, [.int M_units, .ref aM_kind, .ref aM_wash, .ref aM_fuel, .ref aM_isBroken, .ref aM_length, .int M_wanted, .ref aM_leaving, .int M_parked, .ref aM_stand, .ref aM_many, .ref aM_track, .ref aM_stack, .ref aM_depth, .ref aM_canBe, .int M_states, .ref aM_told, .ref aM_gone, .ref aM_cost, .ref aM_ways, .ref aM_places, .ref aM_now, .ref aM_high, .int M_runSize, .ref aM_run, .ref aM_runUnit, .ref aM_order, .ref aM_end, .ref aM_bestOrder, .ref aM_bestEnd]))] sz) (fun u : Unit => [(aM, .inr (6, [.int M_units, .ref aM_kind, .ref aM_wash, .ref aM_fuel, .ref aM_isBroken, .ref aM_length, .int M_wanted, .ref aM_leaving, .int M_parked, .ref aM_stand, .ref aM_many, .ref aM_track, .ref aM_stack, .ref aM_depth, .ref aM_canBe, .int M_states, .ref aM_told, .ref aM_gone, .ref aM_cost, .ref aM_ways, .ref aM_places, .ref aM_now, .ref aM_high, .int M_runSize, .ref aM_run, .ref aM_runUnit, .ref aM_order, .ref aM_end, .ref aM_bestOrder, .ref aM_bestEnd]))])) (va_A [(aM, .inr (6, [.int M_units, .ref aM_kind, .ref aM_wash, .ref aM_fuel, .ref aM_isBroken, .ref aM_length, .int M_wanted, .ref aM_leaving, .int M_parked, .ref aM_stand, .ref aM_many, .ref aM_track, .ref aM_stack, .ref aM_depth, .ref aM_canBe, .int M_states, .ref aM_told, .ref aM_gone, .ref aM_cost, .ref aM_ways, .ref aM_places, .ref aM_now, .ref aM_high, .int M_runSize, .ref aM_run, .ref aM_runUnit, .ref aM_order, .ref aM_end, .ref aM_bestOrder, .ref aM_bestEnd]))] sz)) 0 0 (va_A [(aM, .inr (6, [.int M_units, .ref aM_kind, .ref aM_wash, .ref aM_fuel, .ref aM_isBroken, .ref aM_length, .int M_wanted, .ref aM_leaving, .int M_parked, .ref aM_stand, .ref aM_many, .ref aM_track, .ref aM_stack, .ref aM_depth, .ref aM_canBe, .int M_states, .ref aM_told, .ref aM_gone, .ref aM_cost, .ref aM_ways, .ref aM_places, .ref aM_now, .ref aM_high, .int M_runSize, .ref aM_run, .ref aM_runUnit, .ref aM_order, .ref aM_end, .ref aM_bestOrder, .ref aM_bestEnd]))] sz) := by
  unfold wp_X7_isUnit at hw
  refine Met.ofW (cc := cX7_isUnit) (maxL := 2) (ret := some .boolean) (by decide) rfl ?_
  intro p e s m args below meth c s₁ B hml hv
  obtain ⟨rfl, hsz, hP, hK, hD0⟩ := hv
  have hx := B.exec
  have hb := B.bytes
  have hr := B.returns
  have hts := atoms_spec (ws := wsX7_isUnit) B.pre
  have hown : s.vm.findClass RX7 = some m.cls := findClass_of_methodNamed B.named
  have hlocks := B.notSynchronized
  subst hsz
  have hD := hD0.self (sz := s.heap.size)
  generalize hAe : va_A [(aM, .inr (6, [.int M_units, .ref aM_kind, .ref aM_wash, .ref aM_fuel, .ref aM_isBroken, .ref aM_length, .int M_wanted, .ref aM_leaving, .int M_parked, .ref aM_stand, .ref aM_many, .ref aM_track, .ref aM_stack, .ref aM_depth, .ref aM_canBe, .int M_states, .ref aM_told, .ref aM_gone, .ref aM_cost, .ref aM_ways, .ref aM_places, .ref aM_now, .ref aM_high, .int M_runSize, .ref aM_run, .ref aM_runUnit, .ref aM_order, .ref aM_end, .ref aM_bestOrder, .ref aM_bestEnd]))] s.heap.size = A at hD ⊢
  have hA : ∀ q : Nat, s.heap.size ≤ q → A q := fun q h => by rw [← hAe]; exact Or.inr h
  have hS : va_S A s.heap s.heap [] := va_S.rf
  refine (fun (hall : ∀ Q0 : State → Prop, (∀ (r : Int32)  (H : Heap) (locs : List Loc) (pc : Nat) (ls : Array Slot), post r → decode cX7_isUnit pc = .ok (.ireturn, 1) → va_P D vwCl [(aM, .inr (6, [.int M_units, .ref aM_kind, .ref aM_wash, .ref aM_fuel, .ref aM_isBroken, .ref aM_length, .int M_wanted, .ref aM_leaving, .int M_parked, .ref aM_stand, .ref aM_many, .ref aM_track, .ref aM_stack, .ref aM_depth, .ref aM_canBe, .int M_states, .ref aM_told, .ref aM_gone, .ref aM_cost, .ref aM_ways, .ref aM_places, .ref aM_now, .ref aM_high, .int M_runSize, .ref aM_run, .ref aM_runUnit, .ref aM_order, .ref aM_end, .ref aM_bestOrder, .ref aM_bestEnd]))] H → va_D A [(aM, .inr (6, [.int M_units, .ref aM_kind, .ref aM_wash, .ref aM_fuel, .ref aM_isBroken, .ref aM_length, .int M_wanted, .ref aM_leaving, .int M_parked, .ref aM_stand, .ref aM_many, .ref aM_track, .ref aM_stack, .ref aM_depth, .ref aM_canBe, .int M_states, .ref aM_told, .ref aM_gone, .ref aM_cost, .ref aM_ways, .ref aM_places, .ref aM_now, .ref aM_high, .int M_runSize, .ref aM_run, .ref aM_runUnit, .ref aM_order, .ref aM_end, .ref aM_bestOrder, .ref aM_bestEnd]))] → va_S A s.heap H locs → narrow .boolean (.int r) = .int r → W p l e ({ frames := 1, cells := 0, slots := 0, locals := 22 } : Room) s m ([.ref aM, .int x1] : List Value).toArray below meth c H locs 0 0 Q0 (F0 m pc ls [.int r])) → W p l e ({ frames := 1, cells := 0, slots := 0, locals := 22 } : Room) s m ([.ref aM, .int x1] : List Value).toArray below meth c s.heap [] 0 0 Q0 (entryFrame m ([.ref aM, .int x1] : List Value).toArray 2)) => hall _ (fun r  H locs pc ls hw hd hP hD hS hnr => W.zret (v := r) hx hb hr hnr (fun t ht hW => ⟨⟨r, (), rfl, hw, by rw [ht]; exact hP, va_K.moved hW.alike hK, hD⟩, hS.F ht⟩) hS.2.2 hd)) ?_
  intro Q0 hret
  have hl := lv_entry ([.ref aM, .int x1]) (n := 2) (Nat.le_of_ble_eq_true rfl)
  rw [lg_entry_eq]
  generalize (lg_sl ([.ref aM, .int x1]) ++ List.replicate (2 - (lg_sl ([.ref aM, .int x1])).length) Slot.unset).toArray = ls at hl ⊢
  have hl : lv_has ls 2 [(0, .ref aM), (1, .int x1)] := hl
  have hinX7 : ∀ w ∈ u_ws RX7 TX7 30, w ∈ wsX7_isUnit := by decide +kernel
  have hf88 := hts (.fieldLink RX7 88 "DepotNightModel" "units" "I") (by decide +kernel)
  obtain ⟨H, hHe⟩ : ∃ H, H = s.heap := ⟨_, rfl⟩
  obtain ⟨locs, hLo⟩ : ∃ locs : List Loc, locs = [] := ⟨_, rfl⟩
  have hS : va_S A s.heap H locs := by rw [hHe, hLo]; exact hS
  have hP : va_P D vwCl [(aM, .inr (6, [.int M_units, .ref aM_kind, .ref aM_wash, .ref aM_fuel, .ref aM_isBroken, .ref aM_length, .int M_wanted, .ref aM_leaving, .int M_parked, .ref aM_stand, .ref aM_many, .ref aM_track, .ref aM_stack, .ref aM_depth, .ref aM_canBe, .int M_states, .ref aM_told, .ref aM_gone, .ref aM_cost, .ref aM_ways, .ref aM_places, .ref aM_now, .ref aM_high, .int M_runSize, .ref aM_run, .ref aM_runUnit, .ref aM_order, .ref aM_end, .ref aM_bestOrder, .ref aM_bestEnd]))] H := by rw [hHe]; exact hP
  refine (fun (hgo : W p l e ({ frames := 1, cells := 0, slots := 0, locals := 22 } : Room) s m ([.ref aM, .int x1] : List Value).toArray below meth c H locs 0 0 Q0 (F0 m 0 ls [])) => by rw [hHe, hLo] at hgo; exact hgo) ?_
  refine lv_iload_n hx hb dX7_isUnit_0 rfl (lv_at hl 1 rfl) ?_
  refine lv_iconst (v := 0) hx hb dX7_isUnit_1 (by decide) ?_
  refine lv_aload_n hx hb dX7_isUnit_2 rfl (lv_at hl 0 rfl) ?_
  refine va_get (D := D) (ci := 6) (v := .int M_units) (C := RX7) (T := TX7) (N := 30) hx hb hts hinX7 hown hK hP 0 rfl rfl 0 (by decide) hf88 (fun _ h9 => h9) rfl dX7_isUnit_3 ?_
  refine lv_iconst (v := 1) hx hb dX7_isUnit_6 (by decide) ?_
  refine lv_isub hx hb dX7_isUnit_7 ?_
  refine zSi (As := [.int x1, .int 0, .int (M_units - 1)]) (rest := []) (wc := []) (wr := [(aM, .inr (6, [.int M_units, .ref aM_kind, .ref aM_wash, .ref aM_fuel, .ref aM_isBroken, .ref aM_length, .int M_wanted, .ref aM_leaving, .int M_parked, .ref aM_stand, .ref aM_many, .ref aM_track, .ref aM_stack, .ref aM_depth, .ref aM_canBe, .int M_states, .ref aM_told, .ref aM_gone, .ref aM_cost, .ref aM_ways, .ref aM_places, .ref aM_now, .ref aM_high, .int M_runSize, .ref aM_run, .ref aM_runUnit, .ref aM_order, .ref aM_end, .ref aM_bestOrder, .ref aM_bestEnd]))]) ⟨hx, hb, hml, hown, hts⟩ hK hP hD hS hA [] [0] rfl rfl (by decide) (by decide) (by decide) (c_X7_in l D cI cJ cZ H.size x1 0 (M_units - 1) _ hw) (va_cwS 3 hts gX7_isUnit_X7_in rfl rfl rfl (by decide +kernel) ⟨Nat.le_of_ble_eq_true rfl, Nat.le_of_ble_eq_true rfl⟩) rfl hl.1 (Nat.le_of_ble_eq_true rfl) dX7_isUnit_8 ⟨(Nat.le_of_ble_eq_true rfl), (Nat.le_of_ble_eq_true rfl)⟩ rfl (fun r1 u H locs hw hP hD hS => ?_)
  try dsimp only at hw
  have hP : va_P D vwCl [(aM, .inr (6, [.int M_units, .ref aM_kind, .ref aM_wash, .ref aM_fuel, .ref aM_isBroken, .ref aM_length, .int M_wanted, .ref aM_leaving, .int M_parked, .ref aM_stand, .ref aM_many, .ref aM_track, .ref aM_stack, .ref aM_depth, .ref aM_canBe, .int M_states, .ref aM_told, .ref aM_gone, .ref aM_cost, .ref aM_ways, .ref aM_places, .ref aM_now, .ref aM_high, .int M_runSize, .ref aM_run, .ref aM_runUnit, .ref aM_order, .ref aM_end, .ref aM_bestOrder, .ref aM_bestEnd]))] H := hP.sub [0] rfl
  have hD : va_D A [(aM, .inr (6, [.int M_units, .ref aM_kind, .ref aM_wash, .ref aM_fuel, .ref aM_isBroken, .ref aM_length, .int M_wanted, .ref aM_leaving, .int M_parked, .ref aM_stand, .ref aM_many, .ref aM_track, .ref aM_stack, .ref aM_depth, .ref aM_canBe, .int M_states, .ref aM_told, .ref aM_gone, .ref aM_cost, .ref aM_ways, .ref aM_places, .ref aM_now, .ref aM_high, .int M_runSize, .ref aM_run, .ref aM_runUnit, .ref aM_order, .ref aM_end, .ref aM_bestOrder, .ref aM_bestEnd]))] := hD.sub [0] (by decide) rfl
  obtain ⟨hnr, hw⟩ := hw
  exact hret r1  H locs 11 ls hw dX7_isUnit_11 hP hD hS hnr
/-! X7_isTrack -/
def wp_X7_isTrack (x0 : Int32) (post : Int32 → Prop) : Prop :=
  wp_X7_in x0 0 2 (fun (r1 : Int32) => narrow .boolean (.int r1) = .int r1 ∧ (post r1 ))
set_option maxHeartbeats 4000000 in
set_option maxRecDepth 100000 in
theorem c_X7_isTrack (l : Launch) (D : va_G) (cI cJ cZ : ClassId) (sz : Nat) (x0 : Int32) (post : Int32 → Prop) (hw : wp_X7_isTrack x0 post) : Met l yX7_isTrack wsX7_isTrack ({ frames := 1, cells := 0, slots := 0, locals := 22 } : Room) (va_Pc [.int x0] (zPre D cI cJ cZ [] sz)) (va_Qi (fun (r : Int32) (u : Unit) => post r) (zPost D cI cJ cZ (va_A [] sz) (fun u : Unit => [])) (va_A [] sz)) 0 0 (va_A [] sz) := by
  unfold wp_X7_isTrack at hw
  refine Met.ofW (cc := cX7_isTrack) (maxL := 1) (ret := some .boolean) (by decide) rfl ?_
  intro p e s m args below meth c s₁ B hml hv
  obtain ⟨rfl, hsz, hP, hK, hD0⟩ := hv
  have hx := B.exec
  have hb := B.bytes
  have hr := B.returns
  have hts := atoms_spec (ws := wsX7_isTrack) B.pre
  have hown : s.vm.findClass RX7 = some m.cls := findClass_of_methodNamed B.named
  have hlocks := B.notSynchronized
  subst hsz
  have hD := hD0.self (sz := s.heap.size)
  generalize hAe : va_A [] s.heap.size = A at hD ⊢
  have hA : ∀ q : Nat, s.heap.size ≤ q → A q := fun q h => by rw [← hAe]; exact Or.inr h
  have hS : va_S A s.heap s.heap [] := va_S.rf
  refine (fun (hall : ∀ Q0 : State → Prop, (∀ (r : Int32)  (H : Heap) (locs : List Loc) (pc : Nat) (ls : Array Slot), post r → decode cX7_isTrack pc = .ok (.ireturn, 1) → va_P D vwCl [] H → va_D A [] → va_S A s.heap H locs → narrow .boolean (.int r) = .int r → W p l e ({ frames := 1, cells := 0, slots := 0, locals := 22 } : Room) s m ([.int x0] : List Value).toArray below meth c H locs 0 0 Q0 (F0 m pc ls [.int r])) → W p l e ({ frames := 1, cells := 0, slots := 0, locals := 22 } : Room) s m ([.int x0] : List Value).toArray below meth c s.heap [] 0 0 Q0 (entryFrame m ([.int x0] : List Value).toArray 1)) => hall _ (fun r  H locs pc ls hw hd hP hD hS hnr => W.zret (v := r) hx hb hr hnr (fun t ht hW => ⟨⟨r, (), rfl, hw, by rw [ht]; exact hP, va_K.moved hW.alike hK, hD⟩, hS.F ht⟩) hS.2.2 hd)) ?_
  intro Q0 hret
  have hl := lv_entry ([.int x0]) (n := 1) (Nat.le_of_ble_eq_true rfl)
  rw [lg_entry_eq]
  generalize (lg_sl ([.int x0]) ++ List.replicate (1 - (lg_sl ([.int x0])).length) Slot.unset).toArray = ls at hl ⊢
  have hl : lv_has ls 1 [(0, .int x0)] := hl
  obtain ⟨H, hHe⟩ : ∃ H, H = s.heap := ⟨_, rfl⟩
  obtain ⟨locs, hLo⟩ : ∃ locs : List Loc, locs = [] := ⟨_, rfl⟩
  have hS : va_S A s.heap H locs := by rw [hHe, hLo]; exact hS
  have hP : va_P D vwCl [] H := by rw [hHe]; exact hP
  refine (fun (hgo : W p l e ({ frames := 1, cells := 0, slots := 0, locals := 22 } : Room) s m ([.int x0] : List Value).toArray below meth c H locs 0 0 Q0 (F0 m 0 ls [])) => by rw [hHe, hLo] at hgo; exact hgo) ?_
  refine lv_iload_n hx hb dX7_isTrack_0 rfl (lv_at hl 0 rfl) ?_
  refine lv_iconst (v := 0) hx hb dX7_isTrack_1 (by decide) ?_
  refine lv_iconst (v := 2) hx hb dX7_isTrack_2 (by decide) ?_
  refine zSi (As := [.int x0, .int 0, .int 2]) (rest := []) (wc := []) (wr := []) ⟨hx, hb, hml, hown, hts⟩ hK hP hD hS hA [] [] rfl rfl (by decide) (by decide) (by decide) (c_X7_in l D cI cJ cZ H.size x0 0 2 _ hw) (va_cwS 3 hts gX7_isTrack_X7_in rfl rfl rfl (by decide +kernel) ⟨Nat.le_of_ble_eq_true rfl, Nat.le_of_ble_eq_true rfl⟩) rfl hl.1 (Nat.le_of_ble_eq_true rfl) dX7_isTrack_3 ⟨(Nat.le_of_ble_eq_true rfl), (Nat.le_of_ble_eq_true rfl)⟩ rfl (fun r1 u H locs hw hP hD hS => ?_)
  try dsimp only at hw
  have hP : va_P D vwCl [] H := hP.sub [] rfl
  have hD : va_D A [] := hD.sub [] (by decide) rfl
  obtain ⟨hnr, hw⟩ := hw
  exact hret r1  H locs 6 ls hw dX7_isTrack_6 hP hD hS hnr
/-! X7_unit -/
def wp_X7_unit (x1 : Int32) (x2 : Int32) (x3 : Int32) (M_units : Int32) (M_kind : Nat → Int32) (M_wash : Nat → Int32) (M_fuel : Nat → Int32) (post : Int32 → Int32 → (Nat → Int32) → (Nat → Int32) → (Nat → Int32) → Prop) : Prop :=
  wp_X7_in x1 0 3 (fun (r1 : Int32) => ((r1 = 0 → post (-3) M_units M_kind M_wash M_fuel) ∧ (¬ r1 = 0 → wp_X7_in x2 0 60 (fun (r3 : Int32) => ((r3 = 0 → post (-3) M_units M_kind M_wash M_fuel) ∧ (¬ r3 = 0 → wp_X7_in x3 0 60 (fun (r5 : Int32) => ((¬ r5 = 0 → ((¬ M_units = 5 → vp_in M_units 5 ∧ (vp_in M_units 5 ∧ (vp_in M_units 5 ∧ (∀ y11 : Int32, y11 = (M_units + 1) → (post (y11 - 1) y11 (upd M_kind M_units.toNatClampNeg x1) (upd M_wash M_units.toNatClampNeg x2) (upd M_fuel M_units.toNatClampNeg x3)))))) ∧ (M_units = 5 → post (-5) M_units M_kind M_wash M_fuel))) ∧ (r5 = 0 → post (-3) M_units M_kind M_wash M_fuel)))))))))
set_option maxHeartbeats 4000000 in
set_option maxRecDepth 100000 in
theorem c_X7_unit (l : Launch) (D : va_G) (cI cJ cZ : ClassId) (aM aM_kind aM_wash aM_fuel aM_isBroken aM_length aM_leaving aM_stand aM_many aM_track aM_stack aM_depth aM_canBe aM_told aM_gone aM_cost aM_ways aM_places aM_now aM_high aM_run aM_runUnit aM_order aM_end aM_bestOrder aM_bestEnd : Nat) (sz : Nat) (M_units : Int32) (M_wanted : Int32) (M_parked : Int32) (M_states : Int32) (M_runSize : Int32) (M_kind : Nat → Int32) (M_wash : Nat → Int32) (M_fuel : Nat → Int32) (x1 : Int32) (x2 : Int32) (x3 : Int32) (post : Int32 → Int32 → (Nat → Int32) → (Nat → Int32) → (Nat → Int32) → Prop) (hw : wp_X7_unit x1 x2 x3 M_units M_kind M_wash M_fuel post) : Met l yX7_unit wsX7_unit ({ frames := 1, cells := 0, slots := 0, locals := 22 } : Room) (va_Pc [.ref aM, .int x1, .int x2, .int x3] (zPre D cI cJ cZ [(aM, .inr (6, [.int M_units, .ref aM_kind, .ref aM_wash, .ref aM_fuel, .ref aM_isBroken, .ref aM_length, .int M_wanted, .ref aM_leaving, .int M_parked, .ref aM_stand, .ref aM_many, .ref aM_track, .ref aM_stack, .ref aM_depth, .ref aM_canBe, .int M_states, .ref aM_told, .ref aM_gone, .ref aM_cost, .ref aM_ways, .ref aM_places, .ref aM_now, .ref aM_high, .int M_runSize, .ref aM_run, .ref aM_runUnit, .ref aM_order, .ref aM_end, .ref aM_bestOrder, .ref aM_bestEnd])), (aM_kind, .inl (cI, 5, .inl M_kind)), (aM_wash, .inl (cI, 5, .inl M_wash)), (aM_fuel, .inl (cI, 5, .inl M_fuel))] sz)) (va_Qi (fun (r : Int32) (u : (Int32) × (Nat → Int32) × (Nat → Int32) × (Nat → Int32)) => post r u.1 u.2.1 u.2.2.1 u.2.2.2) (zPost D cI cJ cZ (va_A [(aM, .inr (6, [.int M_units, .ref aM_kind, .ref aM_wash, .ref aM_fuel, .ref aM_isBroken, .ref aM_length, .int M_wanted, .ref aM_leaving, .int M_parked, .ref aM_stand, .ref aM_many, .ref aM_track, .ref aM_stack, .ref aM_depth, .ref aM_canBe, .int M_states, .ref aM_told, .ref aM_gone, .ref aM_cost, .ref aM_ways, .ref aM_places, .ref aM_now, .ref aM_high, .int M_runSize, .ref aM_run, .ref aM_runUnit, .ref aM_order, .ref aM_end, .ref aM_bestOrder, .ref aM_bestEnd])), (aM_kind, .inl (cI, 5, .inl M_kind)), (aM_wash, .inl (cI, 5, .inl M_wash)), (aM_fuel, .inl (cI, 5, .inl M_fuel))] sz) (fun u : (Int32) × (Nat → Int32) × (Nat → Int32) × (Nat → Int32) => [(aM, .inr (6, [.int u.1, .ref aM_kind, .ref aM_wash, .ref aM_fuel, .ref aM_isBroken, .ref aM_length, .int M_wanted, .ref aM_leaving, .int M_parked, .ref aM_stand, .ref aM_many, .ref aM_track, .ref aM_stack, .ref aM_depth, .ref aM_canBe, .int M_states, .ref aM_told, .ref aM_gone, .ref aM_cost, .ref aM_ways, .ref aM_places, .ref aM_now, .ref aM_high, .int M_runSize, .ref aM_run, .ref aM_runUnit, .ref aM_order, .ref aM_end, .ref aM_bestOrder, .ref aM_bestEnd])), (aM_kind, .inl (cI, 5, .inl u.2.1)), (aM_wash, .inl (cI, 5, .inl u.2.2.1)), (aM_fuel, .inl (cI, 5, .inl u.2.2.2))])) (va_A [(aM, .inr (6, [.int M_units, .ref aM_kind, .ref aM_wash, .ref aM_fuel, .ref aM_isBroken, .ref aM_length, .int M_wanted, .ref aM_leaving, .int M_parked, .ref aM_stand, .ref aM_many, .ref aM_track, .ref aM_stack, .ref aM_depth, .ref aM_canBe, .int M_states, .ref aM_told, .ref aM_gone, .ref aM_cost, .ref aM_ways, .ref aM_places, .ref aM_now, .ref aM_high, .int M_runSize, .ref aM_run, .ref aM_runUnit, .ref aM_order, .ref aM_end, .ref aM_bestOrder, .ref aM_bestEnd])), (aM_kind, .inl (cI, 5, .inl M_kind)), (aM_wash, .inl (cI, 5, .inl M_wash)), (aM_fuel, .inl (cI, 5, .inl M_fuel))] sz)) 0 0 (va_A [(aM, .inr (6, [.int M_units, .ref aM_kind, .ref aM_wash, .ref aM_fuel, .ref aM_isBroken, .ref aM_length, .int M_wanted, .ref aM_leaving, .int M_parked, .ref aM_stand, .ref aM_many, .ref aM_track, .ref aM_stack, .ref aM_depth, .ref aM_canBe, .int M_states, .ref aM_told, .ref aM_gone, .ref aM_cost, .ref aM_ways, .ref aM_places, .ref aM_now, .ref aM_high, .int M_runSize, .ref aM_run, .ref aM_runUnit, .ref aM_order, .ref aM_end, .ref aM_bestOrder, .ref aM_bestEnd])), (aM_kind, .inl (cI, 5, .inl M_kind)), (aM_wash, .inl (cI, 5, .inl M_wash)), (aM_fuel, .inl (cI, 5, .inl M_fuel))] sz) := by
  unfold wp_X7_unit at hw
  refine Met.ofW (cc := cX7_unit) (maxL := 4) (ret := some .int) (by decide) rfl ?_
  intro p e s m args below meth c s₁ B hml hv
  obtain ⟨rfl, hsz, hP, hK, hD0⟩ := hv
  have hx := B.exec
  have hb := B.bytes
  have hr := B.returns
  have hts := atoms_spec (ws := wsX7_unit) B.pre
  have hown : s.vm.findClass RX7 = some m.cls := findClass_of_methodNamed B.named
  have hlocks := B.notSynchronized
  subst hsz
  have hD := hD0.self (sz := s.heap.size)
  generalize hAe : va_A [(aM, .inr (6, [.int M_units, .ref aM_kind, .ref aM_wash, .ref aM_fuel, .ref aM_isBroken, .ref aM_length, .int M_wanted, .ref aM_leaving, .int M_parked, .ref aM_stand, .ref aM_many, .ref aM_track, .ref aM_stack, .ref aM_depth, .ref aM_canBe, .int M_states, .ref aM_told, .ref aM_gone, .ref aM_cost, .ref aM_ways, .ref aM_places, .ref aM_now, .ref aM_high, .int M_runSize, .ref aM_run, .ref aM_runUnit, .ref aM_order, .ref aM_end, .ref aM_bestOrder, .ref aM_bestEnd])), (aM_kind, .inl (cI, 5, .inl M_kind)), (aM_wash, .inl (cI, 5, .inl M_wash)), (aM_fuel, .inl (cI, 5, .inl M_fuel))] s.heap.size = A at hD ⊢
  have hA : ∀ q : Nat, s.heap.size ≤ q → A q := fun q h => by rw [← hAe]; exact Or.inr h
  have hS : va_S A s.heap s.heap [] := va_S.rf
  refine (fun (hall : ∀ Q0 : State → Prop, (∀ (r : Int32) (v0 : Int32) (v1 : Nat → Int32) (v2 : Nat → Int32) (v3 : Nat → Int32) (H : Heap) (locs : List Loc) (pc : Nat) (ls : Array Slot), post r v0 v1 v2 v3 → decode cX7_unit pc = .ok (.ireturn, 1) → va_P D vwCl [(aM, .inr (6, [.int v0, .ref aM_kind, .ref aM_wash, .ref aM_fuel, .ref aM_isBroken, .ref aM_length, .int M_wanted, .ref aM_leaving, .int M_parked, .ref aM_stand, .ref aM_many, .ref aM_track, .ref aM_stack, .ref aM_depth, .ref aM_canBe, .int M_states, .ref aM_told, .ref aM_gone, .ref aM_cost, .ref aM_ways, .ref aM_places, .ref aM_now, .ref aM_high, .int M_runSize, .ref aM_run, .ref aM_runUnit, .ref aM_order, .ref aM_end, .ref aM_bestOrder, .ref aM_bestEnd])), (aM_kind, .inl (cI, 5, .inl v1)), (aM_wash, .inl (cI, 5, .inl v2)), (aM_fuel, .inl (cI, 5, .inl v3))] H → va_D A [(aM, .inr (6, [.int v0, .ref aM_kind, .ref aM_wash, .ref aM_fuel, .ref aM_isBroken, .ref aM_length, .int M_wanted, .ref aM_leaving, .int M_parked, .ref aM_stand, .ref aM_many, .ref aM_track, .ref aM_stack, .ref aM_depth, .ref aM_canBe, .int M_states, .ref aM_told, .ref aM_gone, .ref aM_cost, .ref aM_ways, .ref aM_places, .ref aM_now, .ref aM_high, .int M_runSize, .ref aM_run, .ref aM_runUnit, .ref aM_order, .ref aM_end, .ref aM_bestOrder, .ref aM_bestEnd])), (aM_kind, .inl (cI, 5, .inl v1)), (aM_wash, .inl (cI, 5, .inl v2)), (aM_fuel, .inl (cI, 5, .inl v3))] → va_S A s.heap H locs → W p l e ({ frames := 1, cells := 0, slots := 0, locals := 22 } : Room) s m ([.ref aM, .int x1, .int x2, .int x3] : List Value).toArray below meth c H locs 0 0 Q0 (F0 m pc ls [.int r])) → W p l e ({ frames := 1, cells := 0, slots := 0, locals := 22 } : Room) s m ([.ref aM, .int x1, .int x2, .int x3] : List Value).toArray below meth c s.heap [] 0 0 Q0 (entryFrame m ([.ref aM, .int x1, .int x2, .int x3] : List Value).toArray 4)) => hall _ (fun r v0 v1 v2 v3 H locs pc ls hw hd hP hD hS => W.iret (v := r) hx hb hr (fun t ht hW => ⟨⟨r, (v0, v1, v2, v3), rfl, hw, by rw [ht]; exact hP, va_K.moved hW.alike hK, hD⟩, hS.F ht⟩) hS.2.2 hd)) ?_
  intro Q0 hret
  have hl := lv_entry ([.ref aM, .int x1, .int x2, .int x3]) (n := 4) (Nat.le_of_ble_eq_true rfl)
  rw [lg_entry_eq]
  generalize (lg_sl ([.ref aM, .int x1, .int x2, .int x3]) ++ List.replicate (4 - (lg_sl ([.ref aM, .int x1, .int x2, .int x3])).length) Slot.unset).toArray = ls at hl ⊢
  have hl : lv_has ls 4 [(0, .ref aM), (1, .int x1), (2, .int x2), (3, .int x3)] := hl
  have hinX7 : ∀ w ∈ u_ws RX7 TX7 30, w ∈ wsX7_unit := by decide +kernel
  have hf7 := hts (.fieldLink RX7 7 "DepotNightModel" "kind" "[I") (by decide +kernel)
  have hf13 := hts (.fieldLink RX7 13 "DepotNightModel" "wash" "[I") (by decide +kernel)
  have hf16 := hts (.fieldLink RX7 16 "DepotNightModel" "fuel" "[I") (by decide +kernel)
  have hf88 := hts (.fieldLink RX7 88 "DepotNightModel" "units" "I") (by decide +kernel)
  obtain ⟨H, hHe⟩ : ∃ H, H = s.heap := ⟨_, rfl⟩
  obtain ⟨locs, hLo⟩ : ∃ locs : List Loc, locs = [] := ⟨_, rfl⟩
  have hS : va_S A s.heap H locs := by rw [hHe, hLo]; exact hS
  have hP : va_P D vwCl [(aM, .inr (6, [.int M_units, .ref aM_kind, .ref aM_wash, .ref aM_fuel, .ref aM_isBroken, .ref aM_length, .int M_wanted, .ref aM_leaving, .int M_parked, .ref aM_stand, .ref aM_many, .ref aM_track, .ref aM_stack, .ref aM_depth, .ref aM_canBe, .int M_states, .ref aM_told, .ref aM_gone, .ref aM_cost, .ref aM_ways, .ref aM_places, .ref aM_now, .ref aM_high, .int M_runSize, .ref aM_run, .ref aM_runUnit, .ref aM_order, .ref aM_end, .ref aM_bestOrder, .ref aM_bestEnd])), (aM_kind, .inl (cI, 5, .inl M_kind)), (aM_wash, .inl (cI, 5, .inl M_wash)), (aM_fuel, .inl (cI, 5, .inl M_fuel))] H := by rw [hHe]; exact hP
  refine (fun (hgo : W p l e ({ frames := 1, cells := 0, slots := 0, locals := 22 } : Room) s m ([.ref aM, .int x1, .int x2, .int x3] : List Value).toArray below meth c H locs 0 0 Q0 (F0 m 0 ls [])) => by rw [hHe, hLo] at hgo; exact hgo) ?_
  refine lv_iload_n hx hb dX7_unit_0 rfl (lv_at hl 1 rfl) ?_
  refine lv_iconst (v := 0) hx hb dX7_unit_1 (by decide) ?_
  refine lv_iconst (v := 3) hx hb dX7_unit_2 (by decide) ?_
  refine zSi (As := [.int x1, .int 0, .int 3]) (rest := []) (wc := []) (wr := [(aM, .inr (6, [.int M_units, .ref aM_kind, .ref aM_wash, .ref aM_fuel, .ref aM_isBroken, .ref aM_length, .int M_wanted, .ref aM_leaving, .int M_parked, .ref aM_stand, .ref aM_many, .ref aM_track, .ref aM_stack, .ref aM_depth, .ref aM_canBe, .int M_states, .ref aM_told, .ref aM_gone, .ref aM_cost, .ref aM_ways, .ref aM_places, .ref aM_now, .ref aM_high, .int M_runSize, .ref aM_run, .ref aM_runUnit, .ref aM_order, .ref aM_end, .ref aM_bestOrder, .ref aM_bestEnd])), (aM_kind, .inl (cI, 5, .inl M_kind)), (aM_wash, .inl (cI, 5, .inl M_wash)), (aM_fuel, .inl (cI, 5, .inl M_fuel))]) ⟨hx, hb, hml, hown, hts⟩ hK hP hD hS hA [] [0, 1, 2, 3] rfl rfl (by decide) (by decide) (by decide) (c_X7_in l D cI cJ cZ H.size x1 0 3 _ hw) (va_cwS 3 hts gX7_unit_X7_in rfl rfl rfl (by decide +kernel) ⟨Nat.le_of_ble_eq_true rfl, Nat.le_of_ble_eq_true rfl⟩) rfl hl.1 (Nat.le_of_ble_eq_true rfl) dX7_unit_3 ⟨(Nat.le_of_ble_eq_true rfl), (Nat.le_of_ble_eq_true rfl)⟩ rfl (fun r1 u H locs hw hP hD hS => ?_)
  try dsimp only at hw
  have hP : va_P D vwCl [(aM, .inr (6, [.int M_units, .ref aM_kind, .ref aM_wash, .ref aM_fuel, .ref aM_isBroken, .ref aM_length, .int M_wanted, .ref aM_leaving, .int M_parked, .ref aM_stand, .ref aM_many, .ref aM_track, .ref aM_stack, .ref aM_depth, .ref aM_canBe, .int M_states, .ref aM_told, .ref aM_gone, .ref aM_cost, .ref aM_ways, .ref aM_places, .ref aM_now, .ref aM_high, .int M_runSize, .ref aM_run, .ref aM_runUnit, .ref aM_order, .ref aM_end, .ref aM_bestOrder, .ref aM_bestEnd])), (aM_kind, .inl (cI, 5, .inl M_kind)), (aM_wash, .inl (cI, 5, .inl M_wash)), (aM_fuel, .inl (cI, 5, .inl M_fuel))] H := hP.sub [0, 1, 2, 3] rfl
  have hD : va_D A [(aM, .inr (6, [.int M_units, .ref aM_kind, .ref aM_wash, .ref aM_fuel, .ref aM_isBroken, .ref aM_length, .int M_wanted, .ref aM_leaving, .int M_parked, .ref aM_stand, .ref aM_many, .ref aM_track, .ref aM_stack, .ref aM_depth, .ref aM_canBe, .int M_states, .ref aM_told, .ref aM_gone, .ref aM_cost, .ref aM_ways, .ref aM_places, .ref aM_now, .ref aM_high, .int M_runSize, .ref aM_run, .ref aM_runUnit, .ref aM_order, .ref aM_end, .ref aM_bestOrder, .ref aM_bestEnd])), (aM_kind, .inl (cI, 5, .inl M_kind)), (aM_wash, .inl (cI, 5, .inl M_wash)), (aM_fuel, .inl (cI, 5, .inl M_fuel))] := hD.sub [0, 1, 2, 3] (by decide) rfl
  refine lv_if_eq (tgt := 29) hx hb dX7_unit_6 (by decide) (fun hc2 => ?_) (fun hc2 => ?_)
  · have hw := hw.1 hc2
    refine lv_bipush (v := (-3)) hx hb dX7_unit_29 (by decide) ?_
    exact hret (-3) M_units M_kind M_wash M_fuel H locs 31 ls hw dX7_unit_31 hP hD hS 
  · have hw := hw.2 hc2
    refine lv_iload_n hx hb dX7_unit_9 rfl (lv_at hl 2 rfl) ?_
    refine lv_iconst (v := 0) hx hb dX7_unit_10 (by decide) ?_
    refine lv_bipush (v := 60) hx hb dX7_unit_11 (by decide) ?_
    refine zSi (As := [.int x2, .int 0, .int 60]) (rest := []) (wc := []) (wr := [(aM, .inr (6, [.int M_units, .ref aM_kind, .ref aM_wash, .ref aM_fuel, .ref aM_isBroken, .ref aM_length, .int M_wanted, .ref aM_leaving, .int M_parked, .ref aM_stand, .ref aM_many, .ref aM_track, .ref aM_stack, .ref aM_depth, .ref aM_canBe, .int M_states, .ref aM_told, .ref aM_gone, .ref aM_cost, .ref aM_ways, .ref aM_places, .ref aM_now, .ref aM_high, .int M_runSize, .ref aM_run, .ref aM_runUnit, .ref aM_order, .ref aM_end, .ref aM_bestOrder, .ref aM_bestEnd])), (aM_kind, .inl (cI, 5, .inl M_kind)), (aM_wash, .inl (cI, 5, .inl M_wash)), (aM_fuel, .inl (cI, 5, .inl M_fuel))]) ⟨hx, hb, hml, hown, hts⟩ hK hP hD hS hA [] [0, 1, 2, 3] rfl rfl (by decide) (by decide) (by decide) (c_X7_in l D cI cJ cZ H.size x2 0 60 _ hw) (va_cwS 3 hts gX7_unit_X7_in rfl rfl rfl (by decide +kernel) ⟨Nat.le_of_ble_eq_true rfl, Nat.le_of_ble_eq_true rfl⟩) rfl hl.1 (Nat.le_of_ble_eq_true rfl) dX7_unit_13 ⟨(Nat.le_of_ble_eq_true rfl), (Nat.le_of_ble_eq_true rfl)⟩ rfl (fun r3 u H locs hw hP hD hS => ?_)
    try dsimp only at hw
    have hP : va_P D vwCl [(aM, .inr (6, [.int M_units, .ref aM_kind, .ref aM_wash, .ref aM_fuel, .ref aM_isBroken, .ref aM_length, .int M_wanted, .ref aM_leaving, .int M_parked, .ref aM_stand, .ref aM_many, .ref aM_track, .ref aM_stack, .ref aM_depth, .ref aM_canBe, .int M_states, .ref aM_told, .ref aM_gone, .ref aM_cost, .ref aM_ways, .ref aM_places, .ref aM_now, .ref aM_high, .int M_runSize, .ref aM_run, .ref aM_runUnit, .ref aM_order, .ref aM_end, .ref aM_bestOrder, .ref aM_bestEnd])), (aM_kind, .inl (cI, 5, .inl M_kind)), (aM_wash, .inl (cI, 5, .inl M_wash)), (aM_fuel, .inl (cI, 5, .inl M_fuel))] H := hP.sub [0, 1, 2, 3] rfl
    have hD : va_D A [(aM, .inr (6, [.int M_units, .ref aM_kind, .ref aM_wash, .ref aM_fuel, .ref aM_isBroken, .ref aM_length, .int M_wanted, .ref aM_leaving, .int M_parked, .ref aM_stand, .ref aM_many, .ref aM_track, .ref aM_stack, .ref aM_depth, .ref aM_canBe, .int M_states, .ref aM_told, .ref aM_gone, .ref aM_cost, .ref aM_ways, .ref aM_places, .ref aM_now, .ref aM_high, .int M_runSize, .ref aM_run, .ref aM_runUnit, .ref aM_order, .ref aM_end, .ref aM_bestOrder, .ref aM_bestEnd])), (aM_kind, .inl (cI, 5, .inl M_kind)), (aM_wash, .inl (cI, 5, .inl M_wash)), (aM_fuel, .inl (cI, 5, .inl M_fuel))] := hD.sub [0, 1, 2, 3] (by decide) rfl
    refine lv_if_eq (tgt := 29) hx hb dX7_unit_16 (by decide) (fun hc4 => ?_) (fun hc4 => ?_)
    · have hw := hw.1 hc4
      refine lv_bipush (v := (-3)) hx hb dX7_unit_29 (by decide) ?_
      exact hret (-3) M_units M_kind M_wash M_fuel H locs 31 ls hw dX7_unit_31 hP hD hS 
    · have hw := hw.2 hc4
      refine lv_iload_n hx hb dX7_unit_19 rfl (lv_at hl 3 rfl) ?_
      refine lv_iconst (v := 0) hx hb dX7_unit_20 (by decide) ?_
      refine lv_bipush (v := 60) hx hb dX7_unit_21 (by decide) ?_
      refine zSi (As := [.int x3, .int 0, .int 60]) (rest := []) (wc := []) (wr := [(aM, .inr (6, [.int M_units, .ref aM_kind, .ref aM_wash, .ref aM_fuel, .ref aM_isBroken, .ref aM_length, .int M_wanted, .ref aM_leaving, .int M_parked, .ref aM_stand, .ref aM_many, .ref aM_track, .ref aM_stack, .ref aM_depth, .ref aM_canBe, .int M_states, .ref aM_told, .ref aM_gone, .ref aM_cost, .ref aM_ways, .ref aM_places, .ref aM_now, .ref aM_high, .int M_runSize, .ref aM_run, .ref aM_runUnit, .ref aM_order, .ref aM_end, .ref aM_bestOrder, .ref aM_bestEnd])), (aM_kind, .inl (cI, 5, .inl M_kind)), (aM_wash, .inl (cI, 5, .inl M_wash)), (aM_fuel, .inl (cI, 5, .inl M_fuel))]) ⟨hx, hb, hml, hown, hts⟩ hK hP hD hS hA [] [0, 1, 2, 3] rfl rfl (by decide) (by decide) (by decide) (c_X7_in l D cI cJ cZ H.size x3 0 60 _ hw) (va_cwS 3 hts gX7_unit_X7_in rfl rfl rfl (by decide +kernel) ⟨Nat.le_of_ble_eq_true rfl, Nat.le_of_ble_eq_true rfl⟩) rfl hl.1 (Nat.le_of_ble_eq_true rfl) dX7_unit_23 ⟨(Nat.le_of_ble_eq_true rfl), (Nat.le_of_ble_eq_true rfl)⟩ rfl (fun r5 u H locs hw hP hD hS => ?_)
      try dsimp only at hw
      have hP : va_P D vwCl [(aM, .inr (6, [.int M_units, .ref aM_kind, .ref aM_wash, .ref aM_fuel, .ref aM_isBroken, .ref aM_length, .int M_wanted, .ref aM_leaving, .int M_parked, .ref aM_stand, .ref aM_many, .ref aM_track, .ref aM_stack, .ref aM_depth, .ref aM_canBe, .int M_states, .ref aM_told, .ref aM_gone, .ref aM_cost, .ref aM_ways, .ref aM_places, .ref aM_now, .ref aM_high, .int M_runSize, .ref aM_run, .ref aM_runUnit, .ref aM_order, .ref aM_end, .ref aM_bestOrder, .ref aM_bestEnd])), (aM_kind, .inl (cI, 5, .inl M_kind)), (aM_wash, .inl (cI, 5, .inl M_wash)), (aM_fuel, .inl (cI, 5, .inl M_fuel))] H := hP.sub [0, 1, 2, 3] rfl
      have hD : va_D A [(aM, .inr (6, [.int M_units, .ref aM_kind, .ref aM_wash, .ref aM_fuel, .ref aM_isBroken, .ref aM_length, .int M_wanted, .ref aM_leaving, .int M_parked, .ref aM_stand, .ref aM_many, .ref aM_track, .ref aM_stack, .ref aM_depth, .ref aM_canBe, .int M_states, .ref aM_told, .ref aM_gone, .ref aM_cost, .ref aM_ways, .ref aM_places, .ref aM_now, .ref aM_high, .int M_runSize, .ref aM_run, .ref aM_runUnit, .ref aM_order, .ref aM_end, .ref aM_bestOrder, .ref aM_bestEnd])), (aM_kind, .inl (cI, 5, .inl M_kind)), (aM_wash, .inl (cI, 5, .inl M_wash)), (aM_fuel, .inl (cI, 5, .inl M_fuel))] := hD.sub [0, 1, 2, 3] (by decide) rfl
      refine lv_if_ne (tgt := 32) hx hb dX7_unit_26 (by decide) (fun hc6 => ?_) (fun hc6 => ?_)
      · have hw := hw.1 hc6
        refine lv_aload_n hx hb dX7_unit_32 rfl (lv_at hl 0 rfl) ?_
        refine va_get (D := D) (ci := 6) (v := .int M_units) (C := RX7) (T := TX7) (N := 30) hx hb hts hinX7 hown hK hP 0 rfl rfl 0 (by decide) hf88 (fun _ h9 => h9) rfl dX7_unit_33 ?_
        refine lv_iconst (v := 5) hx hb dX7_unit_36 (by decide) ?_
        refine lv_icmp_ne (tgt := 43) hx hb dX7_unit_37 (by decide) (fun hc7 => ?_) (fun hc7 => ?_)
        · have hw := hw.1 hc7
          refine lv_aload_n hx hb dX7_unit_43 rfl (lv_at hl 0 rfl) ?_
          refine va_get (D := D) (ci := 6) (v := .ref aM_kind) (C := RX7) (T := TX7) (N := 30) hx hb hts hinX7 hown hK hP 0 rfl rfl 1 (by decide) hf7 (fun _ h9 => h9) rfl dX7_unit_44 ?_
          refine lv_aload_n hx hb dX7_unit_47 rfl (lv_at hl 0 rfl) ?_
          refine va_get (D := D) (ci := 6) (v := .int M_units) (C := RX7) (T := TX7) (N := 30) hx hb hts hinX7 hown hK hP 0 rfl rfl 0 (by decide) hf88 (fun _ h9 => h9) rfl dX7_unit_48 ?_
          refine lv_iload_n hx hb dX7_unit_51 rfl (lv_at hl 1 rfl) ?_
          obtain ⟨hb8, hw⟩ := hw
          refine va_iast hx hb hK hP hD hS 1 0 rfl rfl hb8 dX7_unit_52 (fun H locs hP hD hS => ?_)
          have hP : va_P D vwCl [(aM, .inr (6, [.int M_units, .ref aM_kind, .ref aM_wash, .ref aM_fuel, .ref aM_isBroken, .ref aM_length, .int M_wanted, .ref aM_leaving, .int M_parked, .ref aM_stand, .ref aM_many, .ref aM_track, .ref aM_stack, .ref aM_depth, .ref aM_canBe, .int M_states, .ref aM_told, .ref aM_gone, .ref aM_cost, .ref aM_ways, .ref aM_places, .ref aM_now, .ref aM_high, .int M_runSize, .ref aM_run, .ref aM_runUnit, .ref aM_order, .ref aM_end, .ref aM_bestOrder, .ref aM_bestEnd])), (aM_kind, .inl (cI, 5, .inl (upd M_kind M_units.toNatClampNeg x1))), (aM_wash, .inl (cI, 5, .inl M_wash)), (aM_fuel, .inl (cI, 5, .inl M_fuel))] H := hP
          have hD : va_D A [(aM, .inr (6, [.int M_units, .ref aM_kind, .ref aM_wash, .ref aM_fuel, .ref aM_isBroken, .ref aM_length, .int M_wanted, .ref aM_leaving, .int M_parked, .ref aM_stand, .ref aM_many, .ref aM_track, .ref aM_stack, .ref aM_depth, .ref aM_canBe, .int M_states, .ref aM_told, .ref aM_gone, .ref aM_cost, .ref aM_ways, .ref aM_places, .ref aM_now, .ref aM_high, .int M_runSize, .ref aM_run, .ref aM_runUnit, .ref aM_order, .ref aM_end, .ref aM_bestOrder, .ref aM_bestEnd])), (aM_kind, .inl (cI, 5, .inl (upd M_kind M_units.toNatClampNeg x1))), (aM_wash, .inl (cI, 5, .inl M_wash)), (aM_fuel, .inl (cI, 5, .inl M_fuel))] := hD
          refine lv_aload_n hx hb dX7_unit_53 rfl (lv_at hl 0 rfl) ?_
          refine va_get (D := D) (ci := 6) (v := .ref aM_wash) (C := RX7) (T := TX7) (N := 30) hx hb hts hinX7 hown hK hP 0 rfl rfl 2 (by decide) hf13 (fun _ h9 => h9) rfl dX7_unit_54 ?_
          refine lv_aload_n hx hb dX7_unit_57 rfl (lv_at hl 0 rfl) ?_
          refine va_get (D := D) (ci := 6) (v := .int M_units) (C := RX7) (T := TX7) (N := 30) hx hb hts hinX7 hown hK hP 0 rfl rfl 0 (by decide) hf88 (fun _ h9 => h9) rfl dX7_unit_58 ?_
          refine lv_iload_n hx hb dX7_unit_61 rfl (lv_at hl 2 rfl) ?_
          obtain ⟨hb9, hw⟩ := hw
          refine va_iast hx hb hK hP hD hS 2 0 rfl rfl hb9 dX7_unit_62 (fun H locs hP hD hS => ?_)
          have hP : va_P D vwCl [(aM, .inr (6, [.int M_units, .ref aM_kind, .ref aM_wash, .ref aM_fuel, .ref aM_isBroken, .ref aM_length, .int M_wanted, .ref aM_leaving, .int M_parked, .ref aM_stand, .ref aM_many, .ref aM_track, .ref aM_stack, .ref aM_depth, .ref aM_canBe, .int M_states, .ref aM_told, .ref aM_gone, .ref aM_cost, .ref aM_ways, .ref aM_places, .ref aM_now, .ref aM_high, .int M_runSize, .ref aM_run, .ref aM_runUnit, .ref aM_order, .ref aM_end, .ref aM_bestOrder, .ref aM_bestEnd])), (aM_kind, .inl (cI, 5, .inl (upd M_kind M_units.toNatClampNeg x1))), (aM_wash, .inl (cI, 5, .inl (upd M_wash M_units.toNatClampNeg x2))), (aM_fuel, .inl (cI, 5, .inl M_fuel))] H := hP
          have hD : va_D A [(aM, .inr (6, [.int M_units, .ref aM_kind, .ref aM_wash, .ref aM_fuel, .ref aM_isBroken, .ref aM_length, .int M_wanted, .ref aM_leaving, .int M_parked, .ref aM_stand, .ref aM_many, .ref aM_track, .ref aM_stack, .ref aM_depth, .ref aM_canBe, .int M_states, .ref aM_told, .ref aM_gone, .ref aM_cost, .ref aM_ways, .ref aM_places, .ref aM_now, .ref aM_high, .int M_runSize, .ref aM_run, .ref aM_runUnit, .ref aM_order, .ref aM_end, .ref aM_bestOrder, .ref aM_bestEnd])), (aM_kind, .inl (cI, 5, .inl (upd M_kind M_units.toNatClampNeg x1))), (aM_wash, .inl (cI, 5, .inl (upd M_wash M_units.toNatClampNeg x2))), (aM_fuel, .inl (cI, 5, .inl M_fuel))] := hD
          refine lv_aload_n hx hb dX7_unit_63 rfl (lv_at hl 0 rfl) ?_
          refine va_get (D := D) (ci := 6) (v := .ref aM_fuel) (C := RX7) (T := TX7) (N := 30) hx hb hts hinX7 hown hK hP 0 rfl rfl 3 (by decide) hf16 (fun _ h9 => h9) rfl dX7_unit_64 ?_
          refine lv_aload_n hx hb dX7_unit_67 rfl (lv_at hl 0 rfl) ?_
          refine va_get (D := D) (ci := 6) (v := .int M_units) (C := RX7) (T := TX7) (N := 30) hx hb hts hinX7 hown hK hP 0 rfl rfl 0 (by decide) hf88 (fun _ h9 => h9) rfl dX7_unit_68 ?_
          refine lv_iload_n hx hb dX7_unit_71 rfl (lv_at hl 3 rfl) ?_
          obtain ⟨hb10, hw⟩ := hw
          refine va_iast hx hb hK hP hD hS 3 0 rfl rfl hb10 dX7_unit_72 (fun H locs hP hD hS => ?_)
          have hP : va_P D vwCl [(aM, .inr (6, [.int M_units, .ref aM_kind, .ref aM_wash, .ref aM_fuel, .ref aM_isBroken, .ref aM_length, .int M_wanted, .ref aM_leaving, .int M_parked, .ref aM_stand, .ref aM_many, .ref aM_track, .ref aM_stack, .ref aM_depth, .ref aM_canBe, .int M_states, .ref aM_told, .ref aM_gone, .ref aM_cost, .ref aM_ways, .ref aM_places, .ref aM_now, .ref aM_high, .int M_runSize, .ref aM_run, .ref aM_runUnit, .ref aM_order, .ref aM_end, .ref aM_bestOrder, .ref aM_bestEnd])), (aM_kind, .inl (cI, 5, .inl (upd M_kind M_units.toNatClampNeg x1))), (aM_wash, .inl (cI, 5, .inl (upd M_wash M_units.toNatClampNeg x2))), (aM_fuel, .inl (cI, 5, .inl (upd M_fuel M_units.toNatClampNeg x3)))] H := hP
          have hD : va_D A [(aM, .inr (6, [.int M_units, .ref aM_kind, .ref aM_wash, .ref aM_fuel, .ref aM_isBroken, .ref aM_length, .int M_wanted, .ref aM_leaving, .int M_parked, .ref aM_stand, .ref aM_many, .ref aM_track, .ref aM_stack, .ref aM_depth, .ref aM_canBe, .int M_states, .ref aM_told, .ref aM_gone, .ref aM_cost, .ref aM_ways, .ref aM_places, .ref aM_now, .ref aM_high, .int M_runSize, .ref aM_run, .ref aM_runUnit, .ref aM_order, .ref aM_end, .ref aM_bestOrder, .ref aM_bestEnd])), (aM_kind, .inl (cI, 5, .inl (upd M_kind M_units.toNatClampNeg x1))), (aM_wash, .inl (cI, 5, .inl (upd M_wash M_units.toNatClampNeg x2))), (aM_fuel, .inl (cI, 5, .inl (upd M_fuel M_units.toNatClampNeg x3)))] := hD
          refine lv_aload_n hx hb dX7_unit_73 rfl (lv_at hl 0 rfl) ?_
          refine lv_dup hx hb dX7_unit_74 rfl ?_
          refine va_get (D := D) (ci := 6) (v := .int M_units) (C := RX7) (T := TX7) (N := 30) hx hb hts hinX7 hown hK hP 0 rfl rfl 0 (by decide) hf88 (fun _ h9 => h9) rfl dX7_unit_75 ?_
          refine lv_iconst (v := 1) hx hb dX7_unit_78 (by decide) ?_
          refine lv_iadd hx hb dX7_unit_79 ?_
          refine lv_topi (fun y11 ey11 => ?_)
          have hw := hw y11 ey11
          refine va_put (D := D) (ci := 6) (v := .int y11) (ty := .int) (C := RX7) (T := TX7) (N := 30) hx hb hts hinX7 tyX7 tyX7_ok nmX7 hown hK hP hD hS 0 rfl rfl 0 (by decide) hf88 (fun _ h9 => h9) rfl (by decide +kernel) rfl rfl (Nat.le_of_ble_eq_true rfl) dX7_unit_80 (fun H locs hP hD hS => ?_)
          have hP : va_P D vwCl [(aM, .inr (6, [.int y11, .ref aM_kind, .ref aM_wash, .ref aM_fuel, .ref aM_isBroken, .ref aM_length, .int M_wanted, .ref aM_leaving, .int M_parked, .ref aM_stand, .ref aM_many, .ref aM_track, .ref aM_stack, .ref aM_depth, .ref aM_canBe, .int M_states, .ref aM_told, .ref aM_gone, .ref aM_cost, .ref aM_ways, .ref aM_places, .ref aM_now, .ref aM_high, .int M_runSize, .ref aM_run, .ref aM_runUnit, .ref aM_order, .ref aM_end, .ref aM_bestOrder, .ref aM_bestEnd])), (aM_kind, .inl (cI, 5, .inl (upd M_kind M_units.toNatClampNeg x1))), (aM_wash, .inl (cI, 5, .inl (upd M_wash M_units.toNatClampNeg x2))), (aM_fuel, .inl (cI, 5, .inl (upd M_fuel M_units.toNatClampNeg x3)))] H := hP
          have hD : va_D A [(aM, .inr (6, [.int y11, .ref aM_kind, .ref aM_wash, .ref aM_fuel, .ref aM_isBroken, .ref aM_length, .int M_wanted, .ref aM_leaving, .int M_parked, .ref aM_stand, .ref aM_many, .ref aM_track, .ref aM_stack, .ref aM_depth, .ref aM_canBe, .int M_states, .ref aM_told, .ref aM_gone, .ref aM_cost, .ref aM_ways, .ref aM_places, .ref aM_now, .ref aM_high, .int M_runSize, .ref aM_run, .ref aM_runUnit, .ref aM_order, .ref aM_end, .ref aM_bestOrder, .ref aM_bestEnd])), (aM_kind, .inl (cI, 5, .inl (upd M_kind M_units.toNatClampNeg x1))), (aM_wash, .inl (cI, 5, .inl (upd M_wash M_units.toNatClampNeg x2))), (aM_fuel, .inl (cI, 5, .inl (upd M_fuel M_units.toNatClampNeg x3)))] := hD
          refine lv_aload_n hx hb dX7_unit_83 rfl (lv_at hl 0 rfl) ?_
          refine va_get (D := D) (ci := 6) (v := .int y11) (C := RX7) (T := TX7) (N := 30) hx hb hts hinX7 hown hK hP 0 rfl rfl 0 (by decide) hf88 (fun _ h9 => h9) rfl dX7_unit_84 ?_
          refine lv_iconst (v := 1) hx hb dX7_unit_87 (by decide) ?_
          refine lv_isub hx hb dX7_unit_88 ?_
          exact hret (y11 - 1) y11 (upd M_kind M_units.toNatClampNeg x1) (upd M_wash M_units.toNatClampNeg x2) (upd M_fuel M_units.toNatClampNeg x3) H locs 89 ls hw dX7_unit_89 hP hD hS 
        · have hw := hw.2 hc7
          refine lv_bipush (v := (-5)) hx hb dX7_unit_40 (by decide) ?_
          exact hret (-5) M_units M_kind M_wash M_fuel H locs 42 ls hw dX7_unit_42 hP hD hS 
      · have hw := hw.2 hc6
        refine lv_bipush (v := (-3)) hx hb dX7_unit_29 (by decide) ?_
        exact hret (-3) M_units M_kind M_wash M_fuel H locs 31 ls hw dX7_unit_31 hP hD hS 
/-! X7_broken -/
def wp_X7_broken (M_units : Int32) (x1 : Int32) (x2 : Int32) (M_isBroken : Nat → Int32) (post : Int32 → (Nat → Int32) → Prop) : Prop :=
  wp_X7_isUnit M_units x1 (fun (r1 : Int32) => ((¬ r1 = 0 → vp_in x1 5 ∧ (∀ y4 : Int32, y4 = (M_isBroken x1.toNatClampNeg) → (vp_in x1 5 ∧ (((y4 = 0 → post 0 (upd M_isBroken x1.toNatClampNeg (vp_nar .boolean x2))) ∧ (¬ y4 = 0 → post 1 (upd M_isBroken x1.toNatClampNeg (vp_nar .boolean x2)))))))) ∧ (r1 = 0 → post (-2) M_isBroken)))
set_option maxHeartbeats 4000000 in
set_option maxRecDepth 100000 in
theorem c_X7_broken (l : Launch) (D : va_G) (cI cJ cZ : ClassId) (aM aM_kind aM_wash aM_fuel aM_isBroken aM_length aM_leaving aM_stand aM_many aM_track aM_stack aM_depth aM_canBe aM_told aM_gone aM_cost aM_ways aM_places aM_now aM_high aM_run aM_runUnit aM_order aM_end aM_bestOrder aM_bestEnd : Nat) (sz : Nat) (M_units : Int32) (M_wanted : Int32) (M_parked : Int32) (M_states : Int32) (M_runSize : Int32) (M_isBroken : Nat → Int32) (x1 : Int32) (x2 : Int32) (post : Int32 → (Nat → Int32) → Prop) (hw : wp_X7_broken M_units x1 x2 M_isBroken post) : Met l yX7_broken wsX7_broken ({ frames := 2, cells := 0, slots := 0, locals := 43 } : Room) (va_Pc [.ref aM, .int x1, .int x2] (zPre D cI cJ cZ [(aM, .inr (6, [.int M_units, .ref aM_kind, .ref aM_wash, .ref aM_fuel, .ref aM_isBroken, .ref aM_length, .int M_wanted, .ref aM_leaving, .int M_parked, .ref aM_stand, .ref aM_many, .ref aM_track, .ref aM_stack, .ref aM_depth, .ref aM_canBe, .int M_states, .ref aM_told, .ref aM_gone, .ref aM_cost, .ref aM_ways, .ref aM_places, .ref aM_now, .ref aM_high, .int M_runSize, .ref aM_run, .ref aM_runUnit, .ref aM_order, .ref aM_end, .ref aM_bestOrder, .ref aM_bestEnd])), (aM_isBroken, .inl (cZ, 5, .inl M_isBroken))] sz)) (va_Qi (fun (r : Int32) (u : (Nat → Int32)) => post r u) (zPost D cI cJ cZ (va_A [(aM, .inr (6, [.int M_units, .ref aM_kind, .ref aM_wash, .ref aM_fuel, .ref aM_isBroken, .ref aM_length, .int M_wanted, .ref aM_leaving, .int M_parked, .ref aM_stand, .ref aM_many, .ref aM_track, .ref aM_stack, .ref aM_depth, .ref aM_canBe, .int M_states, .ref aM_told, .ref aM_gone, .ref aM_cost, .ref aM_ways, .ref aM_places, .ref aM_now, .ref aM_high, .int M_runSize, .ref aM_run, .ref aM_runUnit, .ref aM_order, .ref aM_end, .ref aM_bestOrder, .ref aM_bestEnd])), (aM_isBroken, .inl (cZ, 5, .inl M_isBroken))] sz) (fun u : (Nat → Int32) => [(aM, .inr (6, [.int M_units, .ref aM_kind, .ref aM_wash, .ref aM_fuel, .ref aM_isBroken, .ref aM_length, .int M_wanted, .ref aM_leaving, .int M_parked, .ref aM_stand, .ref aM_many, .ref aM_track, .ref aM_stack, .ref aM_depth, .ref aM_canBe, .int M_states, .ref aM_told, .ref aM_gone, .ref aM_cost, .ref aM_ways, .ref aM_places, .ref aM_now, .ref aM_high, .int M_runSize, .ref aM_run, .ref aM_runUnit, .ref aM_order, .ref aM_end, .ref aM_bestOrder, .ref aM_bestEnd])), (aM_isBroken, .inl (cZ, 5, .inl u))])) (va_A [(aM, .inr (6, [.int M_units, .ref aM_kind, .ref aM_wash, .ref aM_fuel, .ref aM_isBroken, .ref aM_length, .int M_wanted, .ref aM_leaving, .int M_parked, .ref aM_stand, .ref aM_many, .ref aM_track, .ref aM_stack, .ref aM_depth, .ref aM_canBe, .int M_states, .ref aM_told, .ref aM_gone, .ref aM_cost, .ref aM_ways, .ref aM_places, .ref aM_now, .ref aM_high, .int M_runSize, .ref aM_run, .ref aM_runUnit, .ref aM_order, .ref aM_end, .ref aM_bestOrder, .ref aM_bestEnd])), (aM_isBroken, .inl (cZ, 5, .inl M_isBroken))] sz)) 0 0 (va_A [(aM, .inr (6, [.int M_units, .ref aM_kind, .ref aM_wash, .ref aM_fuel, .ref aM_isBroken, .ref aM_length, .int M_wanted, .ref aM_leaving, .int M_parked, .ref aM_stand, .ref aM_many, .ref aM_track, .ref aM_stack, .ref aM_depth, .ref aM_canBe, .int M_states, .ref aM_told, .ref aM_gone, .ref aM_cost, .ref aM_ways, .ref aM_places, .ref aM_now, .ref aM_high, .int M_runSize, .ref aM_run, .ref aM_runUnit, .ref aM_order, .ref aM_end, .ref aM_bestOrder, .ref aM_bestEnd])), (aM_isBroken, .inl (cZ, 5, .inl M_isBroken))] sz) := by
  unfold wp_X7_broken at hw
  refine Met.ofW (cc := cX7_broken) (maxL := 4) (ret := some .int) (by decide) rfl ?_
  intro p e s m args below meth c s₁ B hml hv
  obtain ⟨rfl, hsz, hP, hK, hD0⟩ := hv
  have hx := B.exec
  have hb := B.bytes
  have hr := B.returns
  have hts := atoms_spec (ws := wsX7_broken) B.pre
  have hown : s.vm.findClass RX7 = some m.cls := findClass_of_methodNamed B.named
  have hlocks := B.notSynchronized
  subst hsz
  have hD := hD0.self (sz := s.heap.size)
  generalize hAe : va_A [(aM, .inr (6, [.int M_units, .ref aM_kind, .ref aM_wash, .ref aM_fuel, .ref aM_isBroken, .ref aM_length, .int M_wanted, .ref aM_leaving, .int M_parked, .ref aM_stand, .ref aM_many, .ref aM_track, .ref aM_stack, .ref aM_depth, .ref aM_canBe, .int M_states, .ref aM_told, .ref aM_gone, .ref aM_cost, .ref aM_ways, .ref aM_places, .ref aM_now, .ref aM_high, .int M_runSize, .ref aM_run, .ref aM_runUnit, .ref aM_order, .ref aM_end, .ref aM_bestOrder, .ref aM_bestEnd])), (aM_isBroken, .inl (cZ, 5, .inl M_isBroken))] s.heap.size = A at hD ⊢
  have hA : ∀ q : Nat, s.heap.size ≤ q → A q := fun q h => by rw [← hAe]; exact Or.inr h
  have hS : va_S A s.heap s.heap [] := va_S.rf
  refine (fun (hall : ∀ Q0 : State → Prop, (∀ (r : Int32) (v0 : Nat → Int32) (H : Heap) (locs : List Loc) (pc : Nat) (ls : Array Slot), post r v0 → decode cX7_broken pc = .ok (.ireturn, 1) → va_P D vwCl [(aM, .inr (6, [.int M_units, .ref aM_kind, .ref aM_wash, .ref aM_fuel, .ref aM_isBroken, .ref aM_length, .int M_wanted, .ref aM_leaving, .int M_parked, .ref aM_stand, .ref aM_many, .ref aM_track, .ref aM_stack, .ref aM_depth, .ref aM_canBe, .int M_states, .ref aM_told, .ref aM_gone, .ref aM_cost, .ref aM_ways, .ref aM_places, .ref aM_now, .ref aM_high, .int M_runSize, .ref aM_run, .ref aM_runUnit, .ref aM_order, .ref aM_end, .ref aM_bestOrder, .ref aM_bestEnd])), (aM_isBroken, .inl (cZ, 5, .inl v0))] H → va_D A [(aM, .inr (6, [.int M_units, .ref aM_kind, .ref aM_wash, .ref aM_fuel, .ref aM_isBroken, .ref aM_length, .int M_wanted, .ref aM_leaving, .int M_parked, .ref aM_stand, .ref aM_many, .ref aM_track, .ref aM_stack, .ref aM_depth, .ref aM_canBe, .int M_states, .ref aM_told, .ref aM_gone, .ref aM_cost, .ref aM_ways, .ref aM_places, .ref aM_now, .ref aM_high, .int M_runSize, .ref aM_run, .ref aM_runUnit, .ref aM_order, .ref aM_end, .ref aM_bestOrder, .ref aM_bestEnd])), (aM_isBroken, .inl (cZ, 5, .inl v0))] → va_S A s.heap H locs → W p l e ({ frames := 2, cells := 0, slots := 0, locals := 43 } : Room) s m ([.ref aM, .int x1, .int x2] : List Value).toArray below meth c H locs 0 0 Q0 (F0 m pc ls [.int r])) → W p l e ({ frames := 2, cells := 0, slots := 0, locals := 43 } : Room) s m ([.ref aM, .int x1, .int x2] : List Value).toArray below meth c s.heap [] 0 0 Q0 (entryFrame m ([.ref aM, .int x1, .int x2] : List Value).toArray 4)) => hall _ (fun r v0 H locs pc ls hw hd hP hD hS => W.iret (v := r) hx hb hr (fun t ht hW => ⟨⟨r, v0, rfl, hw, by rw [ht]; exact hP, va_K.moved hW.alike hK, hD⟩, hS.F ht⟩) hS.2.2 hd)) ?_
  intro Q0 hret
  have hl := lv_entry ([.ref aM, .int x1, .int x2]) (n := 4) (Nat.le_of_ble_eq_true rfl)
  rw [lg_entry_eq]
  generalize (lg_sl ([.ref aM, .int x1, .int x2]) ++ List.replicate (4 - (lg_sl ([.ref aM, .int x1, .int x2])).length) Slot.unset).toArray = ls at hl ⊢
  have hl : lv_has ls 4 [(0, .ref aM), (1, .int x1), (2, .int x2)] := hl
  have hinX7 : ∀ w ∈ u_ws RX7 TX7 30, w ∈ wsX7_broken := by decide +kernel
  have hf19 := hts (.fieldLink RX7 19 "DepotNightModel" "isBroken" "[Z") (by decide +kernel)
  obtain ⟨H, hHe⟩ : ∃ H, H = s.heap := ⟨_, rfl⟩
  obtain ⟨locs, hLo⟩ : ∃ locs : List Loc, locs = [] := ⟨_, rfl⟩
  have hS : va_S A s.heap H locs := by rw [hHe, hLo]; exact hS
  have hP : va_P D vwCl [(aM, .inr (6, [.int M_units, .ref aM_kind, .ref aM_wash, .ref aM_fuel, .ref aM_isBroken, .ref aM_length, .int M_wanted, .ref aM_leaving, .int M_parked, .ref aM_stand, .ref aM_many, .ref aM_track, .ref aM_stack, .ref aM_depth, .ref aM_canBe, .int M_states, .ref aM_told, .ref aM_gone, .ref aM_cost, .ref aM_ways, .ref aM_places, .ref aM_now, .ref aM_high, .int M_runSize, .ref aM_run, .ref aM_runUnit, .ref aM_order, .ref aM_end, .ref aM_bestOrder, .ref aM_bestEnd])), (aM_isBroken, .inl (cZ, 5, .inl M_isBroken))] H := by rw [hHe]; exact hP
  refine (fun (hgo : W p l e ({ frames := 2, cells := 0, slots := 0, locals := 43 } : Room) s m ([.ref aM, .int x1, .int x2] : List Value).toArray below meth c H locs 0 0 Q0 (F0 m 0 ls [])) => by rw [hHe, hLo] at hgo; exact hgo) ?_
  refine lv_aload_n hx hb dX7_broken_0 rfl (lv_at hl 0 rfl) ?_
  refine lv_iload_n hx hb dX7_broken_1 rfl (lv_at hl 1 rfl) ?_
  refine zVi (As := [.int x1]) (rest := []) (wc := [(aM, .inr (6, [.int M_units, .ref aM_kind, .ref aM_wash, .ref aM_fuel, .ref aM_isBroken, .ref aM_length, .int M_wanted, .ref aM_leaving, .int M_parked, .ref aM_stand, .ref aM_many, .ref aM_track, .ref aM_stack, .ref aM_depth, .ref aM_canBe, .int M_states, .ref aM_told, .ref aM_gone, .ref aM_cost, .ref aM_ways, .ref aM_places, .ref aM_now, .ref aM_high, .int M_runSize, .ref aM_run, .ref aM_runUnit, .ref aM_order, .ref aM_end, .ref aM_bestOrder, .ref aM_bestEnd]))]) (wr := [(aM_isBroken, .inl (cZ, 5, .inl M_isBroken))]) ⟨hx, hb, hml, hown, hts⟩ hK hP hD hS hA [0] [1] rfl rfl (by decide) (by decide) (by decide) (c_X7_isUnit l D cI cJ cZ aM aM_kind aM_wash aM_fuel aM_isBroken aM_length aM_leaving aM_stand aM_many aM_track aM_stack aM_depth aM_canBe aM_told aM_gone aM_cost aM_ways aM_places aM_now aM_high aM_run aM_runUnit aM_order aM_end aM_bestOrder aM_bestEnd H.size M_units M_wanted M_parked M_states M_runSize x1 _ hw) (cwV 1 hts gX7_broken_X7_isUnit rfl rfl rfl (by decide +kernel) ⟨Nat.le_of_ble_eq_true rfl, Nat.le_of_ble_eq_true rfl⟩) 0 6 rfl rfl rfl rfl hl.1 (Nat.le_of_ble_eq_true rfl) dX7_broken_2 ⟨(Nat.le_of_ble_eq_true rfl), (Nat.le_of_ble_eq_true rfl)⟩ rfl (fun r1 u H locs hw hP hD hS => ?_)
  try dsimp only at hw
  have hP : va_P D vwCl [(aM, .inr (6, [.int M_units, .ref aM_kind, .ref aM_wash, .ref aM_fuel, .ref aM_isBroken, .ref aM_length, .int M_wanted, .ref aM_leaving, .int M_parked, .ref aM_stand, .ref aM_many, .ref aM_track, .ref aM_stack, .ref aM_depth, .ref aM_canBe, .int M_states, .ref aM_told, .ref aM_gone, .ref aM_cost, .ref aM_ways, .ref aM_places, .ref aM_now, .ref aM_high, .int M_runSize, .ref aM_run, .ref aM_runUnit, .ref aM_order, .ref aM_end, .ref aM_bestOrder, .ref aM_bestEnd])), (aM_isBroken, .inl (cZ, 5, .inl M_isBroken))] H := hP.sub [1, 0] rfl
  have hD : va_D A [(aM, .inr (6, [.int M_units, .ref aM_kind, .ref aM_wash, .ref aM_fuel, .ref aM_isBroken, .ref aM_length, .int M_wanted, .ref aM_leaving, .int M_parked, .ref aM_stand, .ref aM_many, .ref aM_track, .ref aM_stack, .ref aM_depth, .ref aM_canBe, .int M_states, .ref aM_told, .ref aM_gone, .ref aM_cost, .ref aM_ways, .ref aM_places, .ref aM_now, .ref aM_high, .int M_runSize, .ref aM_run, .ref aM_runUnit, .ref aM_order, .ref aM_end, .ref aM_bestOrder, .ref aM_bestEnd])), (aM_isBroken, .inl (cZ, 5, .inl M_isBroken))] := hD.sub [1, 0] (by decide) rfl
  refine lv_if_ne (tgt := 11) hx hb dX7_broken_5 (by decide) (fun hc2 => ?_) (fun hc2 => ?_)
  · have hw := hw.1 hc2
    refine lv_aload_n hx hb dX7_broken_11 rfl (lv_at hl 0 rfl) ?_
    refine va_get (D := D) (ci := 6) (v := .ref aM_isBroken) (C := RX7) (T := TX7) (N := 30) hx hb hts hinX7 hown hK hP 0 rfl rfl 4 (by decide) hf19 (fun _ h9 => h9) rfl dX7_broken_12 ?_
    refine lv_iload_n hx hb dX7_broken_15 rfl (lv_at hl 1 rfl) ?_
    obtain ⟨hb3, hw⟩ := hw
    refine va_zald hx hb hK hP 1 2 rfl rfl hb3 dX7_broken_16 ?_
    refine lv_topi (fun y4 ey4 => ?_)
    have hw := hw y4 ey4
    refine lv_istore_n (lv' := [(3, .int y4), (0, .ref aM), (1, .int x1), (2, .int x2)]) hx hb dX7_broken_17 rfl hl (by decide) rfl (fun ls hl => ?_)
    refine lv_aload_n hx hb dX7_broken_18 rfl (lv_at hl 1 rfl) ?_
    refine va_get (D := D) (ci := 6) (v := .ref aM_isBroken) (C := RX7) (T := TX7) (N := 30) hx hb hts hinX7 hown hK hP 0 rfl rfl 4 (by decide) hf19 (fun _ h9 => h9) rfl dX7_broken_19 ?_
    refine lv_iload_n hx hb dX7_broken_22 rfl (lv_at hl 2 rfl) ?_
    refine lv_iload_n hx hb dX7_broken_23 rfl (lv_at hl 3 rfl) ?_
    obtain ⟨hb5, hw⟩ := hw
    refine va_zast hx hb hK hP hD hS 1 2 rfl rfl hb5 dX7_broken_24 (fun H locs hP hD hS => ?_)
    have hP : va_P D vwCl [(aM, .inr (6, [.int M_units, .ref aM_kind, .ref aM_wash, .ref aM_fuel, .ref aM_isBroken, .ref aM_length, .int M_wanted, .ref aM_leaving, .int M_parked, .ref aM_stand, .ref aM_many, .ref aM_track, .ref aM_stack, .ref aM_depth, .ref aM_canBe, .int M_states, .ref aM_told, .ref aM_gone, .ref aM_cost, .ref aM_ways, .ref aM_places, .ref aM_now, .ref aM_high, .int M_runSize, .ref aM_run, .ref aM_runUnit, .ref aM_order, .ref aM_end, .ref aM_bestOrder, .ref aM_bestEnd])), (aM_isBroken, .inl (cZ, 5, .inl (upd M_isBroken x1.toNatClampNeg (vp_nar .boolean x2))))] H := hP
    have hD : va_D A [(aM, .inr (6, [.int M_units, .ref aM_kind, .ref aM_wash, .ref aM_fuel, .ref aM_isBroken, .ref aM_length, .int M_wanted, .ref aM_leaving, .int M_parked, .ref aM_stand, .ref aM_many, .ref aM_track, .ref aM_stack, .ref aM_depth, .ref aM_canBe, .int M_states, .ref aM_told, .ref aM_gone, .ref aM_cost, .ref aM_ways, .ref aM_places, .ref aM_now, .ref aM_high, .int M_runSize, .ref aM_run, .ref aM_runUnit, .ref aM_order, .ref aM_end, .ref aM_bestOrder, .ref aM_bestEnd])), (aM_isBroken, .inl (cZ, 5, .inl (upd M_isBroken x1.toNatClampNeg (vp_nar .boolean x2))))] := hD
    refine lv_iload_n hx hb dX7_broken_25 rfl (lv_at hl 0 rfl) ?_
    refine lv_if_eq (tgt := 33) hx hb dX7_broken_26 (by decide) (fun hc6 => ?_) (fun hc6 => ?_)
    · have hw := hw.1 hc6
      refine lv_iconst (v := 0) hx hb dX7_broken_33 (by decide) ?_
      exact hret 0 (upd M_isBroken x1.toNatClampNeg (vp_nar .boolean x2)) H locs 34 ls hw dX7_broken_34 hP hD hS 
    · have hw := hw.2 hc6
      refine lv_iconst (v := 1) hx hb dX7_broken_29 (by decide) ?_
      refine lv_goto (tgt := 34) hx hb dX7_broken_30 (by decide) ?_
      exact hret 1 (upd M_isBroken x1.toNatClampNeg (vp_nar .boolean x2)) H locs 34 ls hw dX7_broken_34 hP hD hS 
  · have hw := hw.2 hc2
    refine lv_bipush (v := (-2)) hx hb dX7_broken_8 (by decide) ?_
    exact hret (-2) M_isBroken H locs 10 ls hw dX7_broken_10 hP hD hS 
/-! X7_length -/
def wp_X7_length (x1 : Int32) (x2 : Int32) (M_length : Nat → Int32) (post : Int32 → (Nat → Int32) → Prop) : Prop :=
  wp_X7_isTrack x1 (fun (r1 : Int32) => ((¬ r1 = 0 → wp_X7_in x2 1 5 (fun (r3 : Int32) => ((¬ r3 = 0 → vp_in x1 3 ∧ (∀ y6 : Int32, y6 = (M_length x1.toNatClampNeg) → (vp_in x1 3 ∧ (post y6 (upd M_length x1.toNatClampNeg x2))))) ∧ (r3 = 0 → post (-3) M_length)))) ∧ (r1 = 0 → post (-2) M_length)))
set_option maxHeartbeats 4000000 in
set_option maxRecDepth 100000 in
theorem c_X7_length (l : Launch) (D : va_G) (cI cJ cZ : ClassId) (aM aM_kind aM_wash aM_fuel aM_isBroken aM_length aM_leaving aM_stand aM_many aM_track aM_stack aM_depth aM_canBe aM_told aM_gone aM_cost aM_ways aM_places aM_now aM_high aM_run aM_runUnit aM_order aM_end aM_bestOrder aM_bestEnd : Nat) (sz : Nat) (M_units : Int32) (M_wanted : Int32) (M_parked : Int32) (M_states : Int32) (M_runSize : Int32) (M_length : Nat → Int32) (x1 : Int32) (x2 : Int32) (post : Int32 → (Nat → Int32) → Prop) (hw : wp_X7_length x1 x2 M_length post) : Met l yX7_length wsX7_length ({ frames := 2, cells := 0, slots := 0, locals := 42 } : Room) (va_Pc [.ref aM, .int x1, .int x2] (zPre D cI cJ cZ [(aM, .inr (6, [.int M_units, .ref aM_kind, .ref aM_wash, .ref aM_fuel, .ref aM_isBroken, .ref aM_length, .int M_wanted, .ref aM_leaving, .int M_parked, .ref aM_stand, .ref aM_many, .ref aM_track, .ref aM_stack, .ref aM_depth, .ref aM_canBe, .int M_states, .ref aM_told, .ref aM_gone, .ref aM_cost, .ref aM_ways, .ref aM_places, .ref aM_now, .ref aM_high, .int M_runSize, .ref aM_run, .ref aM_runUnit, .ref aM_order, .ref aM_end, .ref aM_bestOrder, .ref aM_bestEnd])), (aM_length, .inl (cI, 3, .inl M_length))] sz)) (va_Qi (fun (r : Int32) (u : (Nat → Int32)) => post r u) (zPost D cI cJ cZ (va_A [(aM, .inr (6, [.int M_units, .ref aM_kind, .ref aM_wash, .ref aM_fuel, .ref aM_isBroken, .ref aM_length, .int M_wanted, .ref aM_leaving, .int M_parked, .ref aM_stand, .ref aM_many, .ref aM_track, .ref aM_stack, .ref aM_depth, .ref aM_canBe, .int M_states, .ref aM_told, .ref aM_gone, .ref aM_cost, .ref aM_ways, .ref aM_places, .ref aM_now, .ref aM_high, .int M_runSize, .ref aM_run, .ref aM_runUnit, .ref aM_order, .ref aM_end, .ref aM_bestOrder, .ref aM_bestEnd])), (aM_length, .inl (cI, 3, .inl M_length))] sz) (fun u : (Nat → Int32) => [(aM, .inr (6, [.int M_units, .ref aM_kind, .ref aM_wash, .ref aM_fuel, .ref aM_isBroken, .ref aM_length, .int M_wanted, .ref aM_leaving, .int M_parked, .ref aM_stand, .ref aM_many, .ref aM_track, .ref aM_stack, .ref aM_depth, .ref aM_canBe, .int M_states, .ref aM_told, .ref aM_gone, .ref aM_cost, .ref aM_ways, .ref aM_places, .ref aM_now, .ref aM_high, .int M_runSize, .ref aM_run, .ref aM_runUnit, .ref aM_order, .ref aM_end, .ref aM_bestOrder, .ref aM_bestEnd])), (aM_length, .inl (cI, 3, .inl u))])) (va_A [(aM, .inr (6, [.int M_units, .ref aM_kind, .ref aM_wash, .ref aM_fuel, .ref aM_isBroken, .ref aM_length, .int M_wanted, .ref aM_leaving, .int M_parked, .ref aM_stand, .ref aM_many, .ref aM_track, .ref aM_stack, .ref aM_depth, .ref aM_canBe, .int M_states, .ref aM_told, .ref aM_gone, .ref aM_cost, .ref aM_ways, .ref aM_places, .ref aM_now, .ref aM_high, .int M_runSize, .ref aM_run, .ref aM_runUnit, .ref aM_order, .ref aM_end, .ref aM_bestOrder, .ref aM_bestEnd])), (aM_length, .inl (cI, 3, .inl M_length))] sz)) 0 0 (va_A [(aM, .inr (6, [.int M_units, .ref aM_kind, .ref aM_wash, .ref aM_fuel, .ref aM_isBroken, .ref aM_length, .int M_wanted, .ref aM_leaving, .int M_parked, .ref aM_stand, .ref aM_many, .ref aM_track, .ref aM_stack, .ref aM_depth, .ref aM_canBe, .int M_states, .ref aM_told, .ref aM_gone, .ref aM_cost, .ref aM_ways, .ref aM_places, .ref aM_now, .ref aM_high, .int M_runSize, .ref aM_run, .ref aM_runUnit, .ref aM_order, .ref aM_end, .ref aM_bestOrder, .ref aM_bestEnd])), (aM_length, .inl (cI, 3, .inl M_length))] sz) := by
  unfold wp_X7_length at hw
  refine Met.ofW (cc := cX7_length) (maxL := 4) (ret := some .int) (by decide) rfl ?_
  intro p e s m args below meth c s₁ B hml hv
  obtain ⟨rfl, hsz, hP, hK, hD0⟩ := hv
  have hx := B.exec
  have hb := B.bytes
  have hr := B.returns
  have hts := atoms_spec (ws := wsX7_length) B.pre
  have hown : s.vm.findClass RX7 = some m.cls := findClass_of_methodNamed B.named
  have hlocks := B.notSynchronized
  subst hsz
  have hD := hD0.self (sz := s.heap.size)
  generalize hAe : va_A [(aM, .inr (6, [.int M_units, .ref aM_kind, .ref aM_wash, .ref aM_fuel, .ref aM_isBroken, .ref aM_length, .int M_wanted, .ref aM_leaving, .int M_parked, .ref aM_stand, .ref aM_many, .ref aM_track, .ref aM_stack, .ref aM_depth, .ref aM_canBe, .int M_states, .ref aM_told, .ref aM_gone, .ref aM_cost, .ref aM_ways, .ref aM_places, .ref aM_now, .ref aM_high, .int M_runSize, .ref aM_run, .ref aM_runUnit, .ref aM_order, .ref aM_end, .ref aM_bestOrder, .ref aM_bestEnd])), (aM_length, .inl (cI, 3, .inl M_length))] s.heap.size = A at hD ⊢
  have hA : ∀ q : Nat, s.heap.size ≤ q → A q := fun q h => by rw [← hAe]; exact Or.inr h
  have hS : va_S A s.heap s.heap [] := va_S.rf
  refine (fun (hall : ∀ Q0 : State → Prop, (∀ (r : Int32) (v0 : Nat → Int32) (H : Heap) (locs : List Loc) (pc : Nat) (ls : Array Slot), post r v0 → decode cX7_length pc = .ok (.ireturn, 1) → va_P D vwCl [(aM, .inr (6, [.int M_units, .ref aM_kind, .ref aM_wash, .ref aM_fuel, .ref aM_isBroken, .ref aM_length, .int M_wanted, .ref aM_leaving, .int M_parked, .ref aM_stand, .ref aM_many, .ref aM_track, .ref aM_stack, .ref aM_depth, .ref aM_canBe, .int M_states, .ref aM_told, .ref aM_gone, .ref aM_cost, .ref aM_ways, .ref aM_places, .ref aM_now, .ref aM_high, .int M_runSize, .ref aM_run, .ref aM_runUnit, .ref aM_order, .ref aM_end, .ref aM_bestOrder, .ref aM_bestEnd])), (aM_length, .inl (cI, 3, .inl v0))] H → va_D A [(aM, .inr (6, [.int M_units, .ref aM_kind, .ref aM_wash, .ref aM_fuel, .ref aM_isBroken, .ref aM_length, .int M_wanted, .ref aM_leaving, .int M_parked, .ref aM_stand, .ref aM_many, .ref aM_track, .ref aM_stack, .ref aM_depth, .ref aM_canBe, .int M_states, .ref aM_told, .ref aM_gone, .ref aM_cost, .ref aM_ways, .ref aM_places, .ref aM_now, .ref aM_high, .int M_runSize, .ref aM_run, .ref aM_runUnit, .ref aM_order, .ref aM_end, .ref aM_bestOrder, .ref aM_bestEnd])), (aM_length, .inl (cI, 3, .inl v0))] → va_S A s.heap H locs → W p l e ({ frames := 2, cells := 0, slots := 0, locals := 42 } : Room) s m ([.ref aM, .int x1, .int x2] : List Value).toArray below meth c H locs 0 0 Q0 (F0 m pc ls [.int r])) → W p l e ({ frames := 2, cells := 0, slots := 0, locals := 42 } : Room) s m ([.ref aM, .int x1, .int x2] : List Value).toArray below meth c s.heap [] 0 0 Q0 (entryFrame m ([.ref aM, .int x1, .int x2] : List Value).toArray 4)) => hall _ (fun r v0 H locs pc ls hw hd hP hD hS => W.iret (v := r) hx hb hr (fun t ht hW => ⟨⟨r, v0, rfl, hw, by rw [ht]; exact hP, va_K.moved hW.alike hK, hD⟩, hS.F ht⟩) hS.2.2 hd)) ?_
  intro Q0 hret
  have hl := lv_entry ([.ref aM, .int x1, .int x2]) (n := 4) (Nat.le_of_ble_eq_true rfl)
  rw [lg_entry_eq]
  generalize (lg_sl ([.ref aM, .int x1, .int x2]) ++ List.replicate (4 - (lg_sl ([.ref aM, .int x1, .int x2])).length) Slot.unset).toArray = ls at hl ⊢
  have hl : lv_has ls 4 [(0, .ref aM), (1, .int x1), (2, .int x2)] := hl
  have hinX7 : ∀ w ∈ u_ws RX7 TX7 30, w ∈ wsX7_length := by decide +kernel
  have hf23 := hts (.fieldLink RX7 23 "DepotNightModel" "length" "[I") (by decide +kernel)
  obtain ⟨H, hHe⟩ : ∃ H, H = s.heap := ⟨_, rfl⟩
  obtain ⟨locs, hLo⟩ : ∃ locs : List Loc, locs = [] := ⟨_, rfl⟩
  have hS : va_S A s.heap H locs := by rw [hHe, hLo]; exact hS
  have hP : va_P D vwCl [(aM, .inr (6, [.int M_units, .ref aM_kind, .ref aM_wash, .ref aM_fuel, .ref aM_isBroken, .ref aM_length, .int M_wanted, .ref aM_leaving, .int M_parked, .ref aM_stand, .ref aM_many, .ref aM_track, .ref aM_stack, .ref aM_depth, .ref aM_canBe, .int M_states, .ref aM_told, .ref aM_gone, .ref aM_cost, .ref aM_ways, .ref aM_places, .ref aM_now, .ref aM_high, .int M_runSize, .ref aM_run, .ref aM_runUnit, .ref aM_order, .ref aM_end, .ref aM_bestOrder, .ref aM_bestEnd])), (aM_length, .inl (cI, 3, .inl M_length))] H := by rw [hHe]; exact hP
  refine (fun (hgo : W p l e ({ frames := 2, cells := 0, slots := 0, locals := 42 } : Room) s m ([.ref aM, .int x1, .int x2] : List Value).toArray below meth c H locs 0 0 Q0 (F0 m 0 ls [])) => by rw [hHe, hLo] at hgo; exact hgo) ?_
  refine lv_iload_n hx hb dX7_length_0 rfl (lv_at hl 1 rfl) ?_
  refine zSi (As := [.int x1]) (rest := []) (wc := []) (wr := [(aM, .inr (6, [.int M_units, .ref aM_kind, .ref aM_wash, .ref aM_fuel, .ref aM_isBroken, .ref aM_length, .int M_wanted, .ref aM_leaving, .int M_parked, .ref aM_stand, .ref aM_many, .ref aM_track, .ref aM_stack, .ref aM_depth, .ref aM_canBe, .int M_states, .ref aM_told, .ref aM_gone, .ref aM_cost, .ref aM_ways, .ref aM_places, .ref aM_now, .ref aM_high, .int M_runSize, .ref aM_run, .ref aM_runUnit, .ref aM_order, .ref aM_end, .ref aM_bestOrder, .ref aM_bestEnd])), (aM_length, .inl (cI, 3, .inl M_length))]) ⟨hx, hb, hml, hown, hts⟩ hK hP hD hS hA [] [0, 1] rfl rfl (by decide) (by decide) (by decide) (c_X7_isTrack l D cI cJ cZ H.size x1 _ hw) (va_cwS 1 hts gX7_length_X7_isTrack rfl rfl rfl (by decide +kernel) ⟨Nat.le_of_ble_eq_true rfl, Nat.le_of_ble_eq_true rfl⟩) rfl hl.1 (Nat.le_of_ble_eq_true rfl) dX7_length_1 ⟨(Nat.le_of_ble_eq_true rfl), (Nat.le_of_ble_eq_true rfl)⟩ rfl (fun r1 u H locs hw hP hD hS => ?_)
  try dsimp only at hw
  have hP : va_P D vwCl [(aM, .inr (6, [.int M_units, .ref aM_kind, .ref aM_wash, .ref aM_fuel, .ref aM_isBroken, .ref aM_length, .int M_wanted, .ref aM_leaving, .int M_parked, .ref aM_stand, .ref aM_many, .ref aM_track, .ref aM_stack, .ref aM_depth, .ref aM_canBe, .int M_states, .ref aM_told, .ref aM_gone, .ref aM_cost, .ref aM_ways, .ref aM_places, .ref aM_now, .ref aM_high, .int M_runSize, .ref aM_run, .ref aM_runUnit, .ref aM_order, .ref aM_end, .ref aM_bestOrder, .ref aM_bestEnd])), (aM_length, .inl (cI, 3, .inl M_length))] H := hP.sub [0, 1] rfl
  have hD : va_D A [(aM, .inr (6, [.int M_units, .ref aM_kind, .ref aM_wash, .ref aM_fuel, .ref aM_isBroken, .ref aM_length, .int M_wanted, .ref aM_leaving, .int M_parked, .ref aM_stand, .ref aM_many, .ref aM_track, .ref aM_stack, .ref aM_depth, .ref aM_canBe, .int M_states, .ref aM_told, .ref aM_gone, .ref aM_cost, .ref aM_ways, .ref aM_places, .ref aM_now, .ref aM_high, .int M_runSize, .ref aM_run, .ref aM_runUnit, .ref aM_order, .ref aM_end, .ref aM_bestOrder, .ref aM_bestEnd])), (aM_length, .inl (cI, 3, .inl M_length))] := hD.sub [0, 1] (by decide) rfl
  refine lv_if_ne (tgt := 10) hx hb dX7_length_4 (by decide) (fun hc2 => ?_) (fun hc2 => ?_)
  · have hw := hw.1 hc2
    refine lv_iload_n hx hb dX7_length_10 rfl (lv_at hl 2 rfl) ?_
    refine lv_iconst (v := 1) hx hb dX7_length_11 (by decide) ?_
    refine lv_iconst (v := 5) hx hb dX7_length_12 (by decide) ?_
    refine zSi (As := [.int x2, .int 1, .int 5]) (rest := []) (wc := []) (wr := [(aM, .inr (6, [.int M_units, .ref aM_kind, .ref aM_wash, .ref aM_fuel, .ref aM_isBroken, .ref aM_length, .int M_wanted, .ref aM_leaving, .int M_parked, .ref aM_stand, .ref aM_many, .ref aM_track, .ref aM_stack, .ref aM_depth, .ref aM_canBe, .int M_states, .ref aM_told, .ref aM_gone, .ref aM_cost, .ref aM_ways, .ref aM_places, .ref aM_now, .ref aM_high, .int M_runSize, .ref aM_run, .ref aM_runUnit, .ref aM_order, .ref aM_end, .ref aM_bestOrder, .ref aM_bestEnd])), (aM_length, .inl (cI, 3, .inl M_length))]) ⟨hx, hb, hml, hown, hts⟩ hK hP hD hS hA [] [0, 1] rfl rfl (by decide) (by decide) (by decide) (c_X7_in l D cI cJ cZ H.size x2 1 5 _ hw) (va_cwS 3 hts gX7_length_X7_in rfl rfl rfl (by decide +kernel) ⟨Nat.le_of_ble_eq_true rfl, Nat.le_of_ble_eq_true rfl⟩) rfl hl.1 (Nat.le_of_ble_eq_true rfl) dX7_length_13 ⟨(Nat.le_of_ble_eq_true rfl), (Nat.le_of_ble_eq_true rfl)⟩ rfl (fun r3 u H locs hw hP hD hS => ?_)
    try dsimp only at hw
    have hP : va_P D vwCl [(aM, .inr (6, [.int M_units, .ref aM_kind, .ref aM_wash, .ref aM_fuel, .ref aM_isBroken, .ref aM_length, .int M_wanted, .ref aM_leaving, .int M_parked, .ref aM_stand, .ref aM_many, .ref aM_track, .ref aM_stack, .ref aM_depth, .ref aM_canBe, .int M_states, .ref aM_told, .ref aM_gone, .ref aM_cost, .ref aM_ways, .ref aM_places, .ref aM_now, .ref aM_high, .int M_runSize, .ref aM_run, .ref aM_runUnit, .ref aM_order, .ref aM_end, .ref aM_bestOrder, .ref aM_bestEnd])), (aM_length, .inl (cI, 3, .inl M_length))] H := hP.sub [0, 1] rfl
    have hD : va_D A [(aM, .inr (6, [.int M_units, .ref aM_kind, .ref aM_wash, .ref aM_fuel, .ref aM_isBroken, .ref aM_length, .int M_wanted, .ref aM_leaving, .int M_parked, .ref aM_stand, .ref aM_many, .ref aM_track, .ref aM_stack, .ref aM_depth, .ref aM_canBe, .int M_states, .ref aM_told, .ref aM_gone, .ref aM_cost, .ref aM_ways, .ref aM_places, .ref aM_now, .ref aM_high, .int M_runSize, .ref aM_run, .ref aM_runUnit, .ref aM_order, .ref aM_end, .ref aM_bestOrder, .ref aM_bestEnd])), (aM_length, .inl (cI, 3, .inl M_length))] := hD.sub [0, 1] (by decide) rfl
    refine lv_if_ne (tgt := 22) hx hb dX7_length_16 (by decide) (fun hc4 => ?_) (fun hc4 => ?_)
    · have hw := hw.1 hc4
      refine lv_aload_n hx hb dX7_length_22 rfl (lv_at hl 0 rfl) ?_
      refine va_get (D := D) (ci := 6) (v := .ref aM_length) (C := RX7) (T := TX7) (N := 30) hx hb hts hinX7 hown hK hP 0 rfl rfl 5 (by decide) hf23 (fun _ h9 => h9) rfl dX7_length_23 ?_
      refine lv_iload_n hx hb dX7_length_26 rfl (lv_at hl 1 rfl) ?_
      obtain ⟨hb5, hw⟩ := hw
      refine va_iald hx hb hK hP 1 0 rfl rfl hb5 dX7_length_27 ?_
      refine lv_topi (fun y6 ey6 => ?_)
      have hw := hw y6 ey6
      refine lv_istore_n (lv' := [(3, .int y6), (0, .ref aM), (1, .int x1), (2, .int x2)]) hx hb dX7_length_28 rfl hl (by decide) rfl (fun ls hl => ?_)
      refine lv_aload_n hx hb dX7_length_29 rfl (lv_at hl 1 rfl) ?_
      refine va_get (D := D) (ci := 6) (v := .ref aM_length) (C := RX7) (T := TX7) (N := 30) hx hb hts hinX7 hown hK hP 0 rfl rfl 5 (by decide) hf23 (fun _ h9 => h9) rfl dX7_length_30 ?_
      refine lv_iload_n hx hb dX7_length_33 rfl (lv_at hl 2 rfl) ?_
      refine lv_iload_n hx hb dX7_length_34 rfl (lv_at hl 3 rfl) ?_
      obtain ⟨hb7, hw⟩ := hw
      refine va_iast hx hb hK hP hD hS 1 0 rfl rfl hb7 dX7_length_35 (fun H locs hP hD hS => ?_)
      have hP : va_P D vwCl [(aM, .inr (6, [.int M_units, .ref aM_kind, .ref aM_wash, .ref aM_fuel, .ref aM_isBroken, .ref aM_length, .int M_wanted, .ref aM_leaving, .int M_parked, .ref aM_stand, .ref aM_many, .ref aM_track, .ref aM_stack, .ref aM_depth, .ref aM_canBe, .int M_states, .ref aM_told, .ref aM_gone, .ref aM_cost, .ref aM_ways, .ref aM_places, .ref aM_now, .ref aM_high, .int M_runSize, .ref aM_run, .ref aM_runUnit, .ref aM_order, .ref aM_end, .ref aM_bestOrder, .ref aM_bestEnd])), (aM_length, .inl (cI, 3, .inl (upd M_length x1.toNatClampNeg x2)))] H := hP
      have hD : va_D A [(aM, .inr (6, [.int M_units, .ref aM_kind, .ref aM_wash, .ref aM_fuel, .ref aM_isBroken, .ref aM_length, .int M_wanted, .ref aM_leaving, .int M_parked, .ref aM_stand, .ref aM_many, .ref aM_track, .ref aM_stack, .ref aM_depth, .ref aM_canBe, .int M_states, .ref aM_told, .ref aM_gone, .ref aM_cost, .ref aM_ways, .ref aM_places, .ref aM_now, .ref aM_high, .int M_runSize, .ref aM_run, .ref aM_runUnit, .ref aM_order, .ref aM_end, .ref aM_bestOrder, .ref aM_bestEnd])), (aM_length, .inl (cI, 3, .inl (upd M_length x1.toNatClampNeg x2)))] := hD
      refine lv_iload_n hx hb dX7_length_36 rfl (lv_at hl 0 rfl) ?_
      exact hret y6 (upd M_length x1.toNatClampNeg x2) H locs 37 ls hw dX7_length_37 hP hD hS 
    · have hw := hw.2 hc4
      refine lv_bipush (v := (-3)) hx hb dX7_length_19 (by decide) ?_
      exact hret (-3) M_length H locs 21 ls hw dX7_length_21 hP hD hS 
  · have hw := hw.2 hc2
    refine lv_bipush (v := (-2)) hx hb dX7_length_7 (by decide) ?_
    exact hret (-2) M_length H locs 9 ls hw dX7_length_9 hP hD hS 
/-! X7_leave -/
def wp_X7_leave (x1 : Int32) (M_wanted : Int32) (M_leaving : Nat → Int32) (post : Int32 → Int32 → (Nat → Int32) → Prop) : Prop :=
  wp_X7_in x1 0 3 (fun (r1 : Int32) => ((¬ r1 = 0 → ((¬ M_wanted = 5 → vp_in M_wanted 5 ∧ (∀ y5 : Int32, y5 = (M_wanted + 1) → (post y5 y5 (upd M_leaving M_wanted.toNatClampNeg x1)))) ∧ (M_wanted = 5 → post (-5) M_wanted M_leaving))) ∧ (r1 = 0 → post (-3) M_wanted M_leaving)))
set_option maxHeartbeats 4000000 in
set_option maxRecDepth 100000 in
theorem c_X7_leave (l : Launch) (D : va_G) (cI cJ cZ : ClassId) (aM aM_kind aM_wash aM_fuel aM_isBroken aM_length aM_leaving aM_stand aM_many aM_track aM_stack aM_depth aM_canBe aM_told aM_gone aM_cost aM_ways aM_places aM_now aM_high aM_run aM_runUnit aM_order aM_end aM_bestOrder aM_bestEnd : Nat) (sz : Nat) (M_units : Int32) (M_wanted : Int32) (M_parked : Int32) (M_states : Int32) (M_runSize : Int32) (M_leaving : Nat → Int32) (x1 : Int32) (post : Int32 → Int32 → (Nat → Int32) → Prop) (hw : wp_X7_leave x1 M_wanted M_leaving post) : Met l yX7_leave wsX7_leave ({ frames := 1, cells := 0, slots := 0, locals := 22 } : Room) (va_Pc [.ref aM, .int x1] (zPre D cI cJ cZ [(aM, .inr (6, [.int M_units, .ref aM_kind, .ref aM_wash, .ref aM_fuel, .ref aM_isBroken, .ref aM_length, .int M_wanted, .ref aM_leaving, .int M_parked, .ref aM_stand, .ref aM_many, .ref aM_track, .ref aM_stack, .ref aM_depth, .ref aM_canBe, .int M_states, .ref aM_told, .ref aM_gone, .ref aM_cost, .ref aM_ways, .ref aM_places, .ref aM_now, .ref aM_high, .int M_runSize, .ref aM_run, .ref aM_runUnit, .ref aM_order, .ref aM_end, .ref aM_bestOrder, .ref aM_bestEnd])), (aM_leaving, .inl (cI, 5, .inl M_leaving))] sz)) (va_Qi (fun (r : Int32) (u : (Int32) × (Nat → Int32)) => post r u.1 u.2) (zPost D cI cJ cZ (va_A [(aM, .inr (6, [.int M_units, .ref aM_kind, .ref aM_wash, .ref aM_fuel, .ref aM_isBroken, .ref aM_length, .int M_wanted, .ref aM_leaving, .int M_parked, .ref aM_stand, .ref aM_many, .ref aM_track, .ref aM_stack, .ref aM_depth, .ref aM_canBe, .int M_states, .ref aM_told, .ref aM_gone, .ref aM_cost, .ref aM_ways, .ref aM_places, .ref aM_now, .ref aM_high, .int M_runSize, .ref aM_run, .ref aM_runUnit, .ref aM_order, .ref aM_end, .ref aM_bestOrder, .ref aM_bestEnd])), (aM_leaving, .inl (cI, 5, .inl M_leaving))] sz) (fun u : (Int32) × (Nat → Int32) => [(aM, .inr (6, [.int M_units, .ref aM_kind, .ref aM_wash, .ref aM_fuel, .ref aM_isBroken, .ref aM_length, .int u.1, .ref aM_leaving, .int M_parked, .ref aM_stand, .ref aM_many, .ref aM_track, .ref aM_stack, .ref aM_depth, .ref aM_canBe, .int M_states, .ref aM_told, .ref aM_gone, .ref aM_cost, .ref aM_ways, .ref aM_places, .ref aM_now, .ref aM_high, .int M_runSize, .ref aM_run, .ref aM_runUnit, .ref aM_order, .ref aM_end, .ref aM_bestOrder, .ref aM_bestEnd])), (aM_leaving, .inl (cI, 5, .inl u.2))])) (va_A [(aM, .inr (6, [.int M_units, .ref aM_kind, .ref aM_wash, .ref aM_fuel, .ref aM_isBroken, .ref aM_length, .int M_wanted, .ref aM_leaving, .int M_parked, .ref aM_stand, .ref aM_many, .ref aM_track, .ref aM_stack, .ref aM_depth, .ref aM_canBe, .int M_states, .ref aM_told, .ref aM_gone, .ref aM_cost, .ref aM_ways, .ref aM_places, .ref aM_now, .ref aM_high, .int M_runSize, .ref aM_run, .ref aM_runUnit, .ref aM_order, .ref aM_end, .ref aM_bestOrder, .ref aM_bestEnd])), (aM_leaving, .inl (cI, 5, .inl M_leaving))] sz)) 0 0 (va_A [(aM, .inr (6, [.int M_units, .ref aM_kind, .ref aM_wash, .ref aM_fuel, .ref aM_isBroken, .ref aM_length, .int M_wanted, .ref aM_leaving, .int M_parked, .ref aM_stand, .ref aM_many, .ref aM_track, .ref aM_stack, .ref aM_depth, .ref aM_canBe, .int M_states, .ref aM_told, .ref aM_gone, .ref aM_cost, .ref aM_ways, .ref aM_places, .ref aM_now, .ref aM_high, .int M_runSize, .ref aM_run, .ref aM_runUnit, .ref aM_order, .ref aM_end, .ref aM_bestOrder, .ref aM_bestEnd])), (aM_leaving, .inl (cI, 5, .inl M_leaving))] sz) := by
  unfold wp_X7_leave at hw
  refine Met.ofW (cc := cX7_leave) (maxL := 2) (ret := some .int) (by decide) rfl ?_
  intro p e s m args below meth c s₁ B hml hv
  obtain ⟨rfl, hsz, hP, hK, hD0⟩ := hv
  have hx := B.exec
  have hb := B.bytes
  have hr := B.returns
  have hts := atoms_spec (ws := wsX7_leave) B.pre
  have hown : s.vm.findClass RX7 = some m.cls := findClass_of_methodNamed B.named
  have hlocks := B.notSynchronized
  subst hsz
  have hD := hD0.self (sz := s.heap.size)
  generalize hAe : va_A [(aM, .inr (6, [.int M_units, .ref aM_kind, .ref aM_wash, .ref aM_fuel, .ref aM_isBroken, .ref aM_length, .int M_wanted, .ref aM_leaving, .int M_parked, .ref aM_stand, .ref aM_many, .ref aM_track, .ref aM_stack, .ref aM_depth, .ref aM_canBe, .int M_states, .ref aM_told, .ref aM_gone, .ref aM_cost, .ref aM_ways, .ref aM_places, .ref aM_now, .ref aM_high, .int M_runSize, .ref aM_run, .ref aM_runUnit, .ref aM_order, .ref aM_end, .ref aM_bestOrder, .ref aM_bestEnd])), (aM_leaving, .inl (cI, 5, .inl M_leaving))] s.heap.size = A at hD ⊢
  have hA : ∀ q : Nat, s.heap.size ≤ q → A q := fun q h => by rw [← hAe]; exact Or.inr h
  have hS : va_S A s.heap s.heap [] := va_S.rf
  refine (fun (hall : ∀ Q0 : State → Prop, (∀ (r : Int32) (v0 : Int32) (v1 : Nat → Int32) (H : Heap) (locs : List Loc) (pc : Nat) (ls : Array Slot), post r v0 v1 → decode cX7_leave pc = .ok (.ireturn, 1) → va_P D vwCl [(aM, .inr (6, [.int M_units, .ref aM_kind, .ref aM_wash, .ref aM_fuel, .ref aM_isBroken, .ref aM_length, .int v0, .ref aM_leaving, .int M_parked, .ref aM_stand, .ref aM_many, .ref aM_track, .ref aM_stack, .ref aM_depth, .ref aM_canBe, .int M_states, .ref aM_told, .ref aM_gone, .ref aM_cost, .ref aM_ways, .ref aM_places, .ref aM_now, .ref aM_high, .int M_runSize, .ref aM_run, .ref aM_runUnit, .ref aM_order, .ref aM_end, .ref aM_bestOrder, .ref aM_bestEnd])), (aM_leaving, .inl (cI, 5, .inl v1))] H → va_D A [(aM, .inr (6, [.int M_units, .ref aM_kind, .ref aM_wash, .ref aM_fuel, .ref aM_isBroken, .ref aM_length, .int v0, .ref aM_leaving, .int M_parked, .ref aM_stand, .ref aM_many, .ref aM_track, .ref aM_stack, .ref aM_depth, .ref aM_canBe, .int M_states, .ref aM_told, .ref aM_gone, .ref aM_cost, .ref aM_ways, .ref aM_places, .ref aM_now, .ref aM_high, .int M_runSize, .ref aM_run, .ref aM_runUnit, .ref aM_order, .ref aM_end, .ref aM_bestOrder, .ref aM_bestEnd])), (aM_leaving, .inl (cI, 5, .inl v1))] → va_S A s.heap H locs → W p l e ({ frames := 1, cells := 0, slots := 0, locals := 22 } : Room) s m ([.ref aM, .int x1] : List Value).toArray below meth c H locs 0 0 Q0 (F0 m pc ls [.int r])) → W p l e ({ frames := 1, cells := 0, slots := 0, locals := 22 } : Room) s m ([.ref aM, .int x1] : List Value).toArray below meth c s.heap [] 0 0 Q0 (entryFrame m ([.ref aM, .int x1] : List Value).toArray 2)) => hall _ (fun r v0 v1 H locs pc ls hw hd hP hD hS => W.iret (v := r) hx hb hr (fun t ht hW => ⟨⟨r, (v0, v1), rfl, hw, by rw [ht]; exact hP, va_K.moved hW.alike hK, hD⟩, hS.F ht⟩) hS.2.2 hd)) ?_
  intro Q0 hret
  have hl := lv_entry ([.ref aM, .int x1]) (n := 2) (Nat.le_of_ble_eq_true rfl)
  rw [lg_entry_eq]
  generalize (lg_sl ([.ref aM, .int x1]) ++ List.replicate (2 - (lg_sl ([.ref aM, .int x1])).length) Slot.unset).toArray = ls at hl ⊢
  have hl : lv_has ls 2 [(0, .ref aM), (1, .int x1)] := hl
  have hinX7 : ∀ w ∈ u_ws RX7 TX7 30, w ∈ wsX7_leave := by decide +kernel
  have hf26 := hts (.fieldLink RX7 26 "DepotNightModel" "leaving" "[I") (by decide +kernel)
  have hf103 := hts (.fieldLink RX7 103 "DepotNightModel" "wanted" "I") (by decide +kernel)
  obtain ⟨H, hHe⟩ : ∃ H, H = s.heap := ⟨_, rfl⟩
  obtain ⟨locs, hLo⟩ : ∃ locs : List Loc, locs = [] := ⟨_, rfl⟩
  have hS : va_S A s.heap H locs := by rw [hHe, hLo]; exact hS
  have hP : va_P D vwCl [(aM, .inr (6, [.int M_units, .ref aM_kind, .ref aM_wash, .ref aM_fuel, .ref aM_isBroken, .ref aM_length, .int M_wanted, .ref aM_leaving, .int M_parked, .ref aM_stand, .ref aM_many, .ref aM_track, .ref aM_stack, .ref aM_depth, .ref aM_canBe, .int M_states, .ref aM_told, .ref aM_gone, .ref aM_cost, .ref aM_ways, .ref aM_places, .ref aM_now, .ref aM_high, .int M_runSize, .ref aM_run, .ref aM_runUnit, .ref aM_order, .ref aM_end, .ref aM_bestOrder, .ref aM_bestEnd])), (aM_leaving, .inl (cI, 5, .inl M_leaving))] H := by rw [hHe]; exact hP
  refine (fun (hgo : W p l e ({ frames := 1, cells := 0, slots := 0, locals := 22 } : Room) s m ([.ref aM, .int x1] : List Value).toArray below meth c H locs 0 0 Q0 (F0 m 0 ls [])) => by rw [hHe, hLo] at hgo; exact hgo) ?_
  refine lv_iload_n hx hb dX7_leave_0 rfl (lv_at hl 1 rfl) ?_
  refine lv_iconst (v := 0) hx hb dX7_leave_1 (by decide) ?_
  refine lv_iconst (v := 3) hx hb dX7_leave_2 (by decide) ?_
  refine zSi (As := [.int x1, .int 0, .int 3]) (rest := []) (wc := []) (wr := [(aM, .inr (6, [.int M_units, .ref aM_kind, .ref aM_wash, .ref aM_fuel, .ref aM_isBroken, .ref aM_length, .int M_wanted, .ref aM_leaving, .int M_parked, .ref aM_stand, .ref aM_many, .ref aM_track, .ref aM_stack, .ref aM_depth, .ref aM_canBe, .int M_states, .ref aM_told, .ref aM_gone, .ref aM_cost, .ref aM_ways, .ref aM_places, .ref aM_now, .ref aM_high, .int M_runSize, .ref aM_run, .ref aM_runUnit, .ref aM_order, .ref aM_end, .ref aM_bestOrder, .ref aM_bestEnd])), (aM_leaving, .inl (cI, 5, .inl M_leaving))]) ⟨hx, hb, hml, hown, hts⟩ hK hP hD hS hA [] [0, 1] rfl rfl (by decide) (by decide) (by decide) (c_X7_in l D cI cJ cZ H.size x1 0 3 _ hw) (va_cwS 3 hts gX7_leave_X7_in rfl rfl rfl (by decide +kernel) ⟨Nat.le_of_ble_eq_true rfl, Nat.le_of_ble_eq_true rfl⟩) rfl hl.1 (Nat.le_of_ble_eq_true rfl) dX7_leave_3 ⟨(Nat.le_of_ble_eq_true rfl), (Nat.le_of_ble_eq_true rfl)⟩ rfl (fun r1 u H locs hw hP hD hS => ?_)
  try dsimp only at hw
  have hP : va_P D vwCl [(aM, .inr (6, [.int M_units, .ref aM_kind, .ref aM_wash, .ref aM_fuel, .ref aM_isBroken, .ref aM_length, .int M_wanted, .ref aM_leaving, .int M_parked, .ref aM_stand, .ref aM_many, .ref aM_track, .ref aM_stack, .ref aM_depth, .ref aM_canBe, .int M_states, .ref aM_told, .ref aM_gone, .ref aM_cost, .ref aM_ways, .ref aM_places, .ref aM_now, .ref aM_high, .int M_runSize, .ref aM_run, .ref aM_runUnit, .ref aM_order, .ref aM_end, .ref aM_bestOrder, .ref aM_bestEnd])), (aM_leaving, .inl (cI, 5, .inl M_leaving))] H := hP.sub [0, 1] rfl
  have hD : va_D A [(aM, .inr (6, [.int M_units, .ref aM_kind, .ref aM_wash, .ref aM_fuel, .ref aM_isBroken, .ref aM_length, .int M_wanted, .ref aM_leaving, .int M_parked, .ref aM_stand, .ref aM_many, .ref aM_track, .ref aM_stack, .ref aM_depth, .ref aM_canBe, .int M_states, .ref aM_told, .ref aM_gone, .ref aM_cost, .ref aM_ways, .ref aM_places, .ref aM_now, .ref aM_high, .int M_runSize, .ref aM_run, .ref aM_runUnit, .ref aM_order, .ref aM_end, .ref aM_bestOrder, .ref aM_bestEnd])), (aM_leaving, .inl (cI, 5, .inl M_leaving))] := hD.sub [0, 1] (by decide) rfl
  refine lv_if_ne (tgt := 12) hx hb dX7_leave_6 (by decide) (fun hc2 => ?_) (fun hc2 => ?_)
  · have hw := hw.1 hc2
    refine lv_aload_n hx hb dX7_leave_12 rfl (lv_at hl 0 rfl) ?_
    refine va_get (D := D) (ci := 6) (v := .int M_wanted) (C := RX7) (T := TX7) (N := 30) hx hb hts hinX7 hown hK hP 0 rfl rfl 6 (by decide) hf103 (fun _ h9 => h9) rfl dX7_leave_13 ?_
    refine lv_iconst (v := 5) hx hb dX7_leave_16 (by decide) ?_
    refine lv_icmp_ne (tgt := 23) hx hb dX7_leave_17 (by decide) (fun hc3 => ?_) (fun hc3 => ?_)
    · have hw := hw.1 hc3
      refine lv_aload_n hx hb dX7_leave_23 rfl (lv_at hl 0 rfl) ?_
      refine va_get (D := D) (ci := 6) (v := .ref aM_leaving) (C := RX7) (T := TX7) (N := 30) hx hb hts hinX7 hown hK hP 0 rfl rfl 7 (by decide) hf26 (fun _ h9 => h9) rfl dX7_leave_24 ?_
      refine lv_aload_n hx hb dX7_leave_27 rfl (lv_at hl 0 rfl) ?_
      refine va_get (D := D) (ci := 6) (v := .int M_wanted) (C := RX7) (T := TX7) (N := 30) hx hb hts hinX7 hown hK hP 0 rfl rfl 6 (by decide) hf103 (fun _ h9 => h9) rfl dX7_leave_28 ?_
      refine lv_iload_n hx hb dX7_leave_31 rfl (lv_at hl 1 rfl) ?_
      obtain ⟨hb4, hw⟩ := hw
      refine va_iast hx hb hK hP hD hS 1 0 rfl rfl hb4 dX7_leave_32 (fun H locs hP hD hS => ?_)
      have hP : va_P D vwCl [(aM, .inr (6, [.int M_units, .ref aM_kind, .ref aM_wash, .ref aM_fuel, .ref aM_isBroken, .ref aM_length, .int M_wanted, .ref aM_leaving, .int M_parked, .ref aM_stand, .ref aM_many, .ref aM_track, .ref aM_stack, .ref aM_depth, .ref aM_canBe, .int M_states, .ref aM_told, .ref aM_gone, .ref aM_cost, .ref aM_ways, .ref aM_places, .ref aM_now, .ref aM_high, .int M_runSize, .ref aM_run, .ref aM_runUnit, .ref aM_order, .ref aM_end, .ref aM_bestOrder, .ref aM_bestEnd])), (aM_leaving, .inl (cI, 5, .inl (upd M_leaving M_wanted.toNatClampNeg x1)))] H := hP
      have hD : va_D A [(aM, .inr (6, [.int M_units, .ref aM_kind, .ref aM_wash, .ref aM_fuel, .ref aM_isBroken, .ref aM_length, .int M_wanted, .ref aM_leaving, .int M_parked, .ref aM_stand, .ref aM_many, .ref aM_track, .ref aM_stack, .ref aM_depth, .ref aM_canBe, .int M_states, .ref aM_told, .ref aM_gone, .ref aM_cost, .ref aM_ways, .ref aM_places, .ref aM_now, .ref aM_high, .int M_runSize, .ref aM_run, .ref aM_runUnit, .ref aM_order, .ref aM_end, .ref aM_bestOrder, .ref aM_bestEnd])), (aM_leaving, .inl (cI, 5, .inl (upd M_leaving M_wanted.toNatClampNeg x1)))] := hD
      refine lv_aload_n hx hb dX7_leave_33 rfl (lv_at hl 0 rfl) ?_
      refine lv_dup hx hb dX7_leave_34 rfl ?_
      refine va_get (D := D) (ci := 6) (v := .int M_wanted) (C := RX7) (T := TX7) (N := 30) hx hb hts hinX7 hown hK hP 0 rfl rfl 6 (by decide) hf103 (fun _ h9 => h9) rfl dX7_leave_35 ?_
      refine lv_iconst (v := 1) hx hb dX7_leave_38 (by decide) ?_
      refine lv_iadd hx hb dX7_leave_39 ?_
      refine lv_topi (fun y5 ey5 => ?_)
      have hw := hw y5 ey5
      refine va_put (D := D) (ci := 6) (v := .int y5) (ty := .int) (C := RX7) (T := TX7) (N := 30) hx hb hts hinX7 tyX7 tyX7_ok nmX7 hown hK hP hD hS 0 rfl rfl 6 (by decide) hf103 (fun _ h9 => h9) rfl (by decide +kernel) rfl rfl (Nat.le_of_ble_eq_true rfl) dX7_leave_40 (fun H locs hP hD hS => ?_)
      have hP : va_P D vwCl [(aM, .inr (6, [.int M_units, .ref aM_kind, .ref aM_wash, .ref aM_fuel, .ref aM_isBroken, .ref aM_length, .int y5, .ref aM_leaving, .int M_parked, .ref aM_stand, .ref aM_many, .ref aM_track, .ref aM_stack, .ref aM_depth, .ref aM_canBe, .int M_states, .ref aM_told, .ref aM_gone, .ref aM_cost, .ref aM_ways, .ref aM_places, .ref aM_now, .ref aM_high, .int M_runSize, .ref aM_run, .ref aM_runUnit, .ref aM_order, .ref aM_end, .ref aM_bestOrder, .ref aM_bestEnd])), (aM_leaving, .inl (cI, 5, .inl (upd M_leaving M_wanted.toNatClampNeg x1)))] H := hP
      have hD : va_D A [(aM, .inr (6, [.int M_units, .ref aM_kind, .ref aM_wash, .ref aM_fuel, .ref aM_isBroken, .ref aM_length, .int y5, .ref aM_leaving, .int M_parked, .ref aM_stand, .ref aM_many, .ref aM_track, .ref aM_stack, .ref aM_depth, .ref aM_canBe, .int M_states, .ref aM_told, .ref aM_gone, .ref aM_cost, .ref aM_ways, .ref aM_places, .ref aM_now, .ref aM_high, .int M_runSize, .ref aM_run, .ref aM_runUnit, .ref aM_order, .ref aM_end, .ref aM_bestOrder, .ref aM_bestEnd])), (aM_leaving, .inl (cI, 5, .inl (upd M_leaving M_wanted.toNatClampNeg x1)))] := hD
      refine lv_aload_n hx hb dX7_leave_43 rfl (lv_at hl 0 rfl) ?_
      refine va_get (D := D) (ci := 6) (v := .int y5) (C := RX7) (T := TX7) (N := 30) hx hb hts hinX7 hown hK hP 0 rfl rfl 6 (by decide) hf103 (fun _ h9 => h9) rfl dX7_leave_44 ?_
      exact hret y5 y5 (upd M_leaving M_wanted.toNatClampNeg x1) H locs 47 ls hw dX7_leave_47 hP hD hS 
    · have hw := hw.2 hc3
      refine lv_bipush (v := (-5)) hx hb dX7_leave_20 (by decide) ?_
      exact hret (-5) M_wanted M_leaving H locs 22 ls hw dX7_leave_22 hP hD hS 
  · have hw := hw.2 hc2
    refine lv_bipush (v := (-3)) hx hb dX7_leave_9 (by decide) ?_
    exact hret (-3) M_wanted M_leaving H locs 11 ls hw dX7_leave_11 hP hD hS 
/-! X7_stay -/
def wp_X7_stay (M_wanted : Int32) (post : Int32 → Int32 → Prop) : Prop :=
  post M_wanted 0
set_option maxHeartbeats 4000000 in
set_option maxRecDepth 100000 in
theorem c_X7_stay (l : Launch) (D : va_G) (cI cJ cZ : ClassId) (aM aM_kind aM_wash aM_fuel aM_isBroken aM_length aM_leaving aM_stand aM_many aM_track aM_stack aM_depth aM_canBe aM_told aM_gone aM_cost aM_ways aM_places aM_now aM_high aM_run aM_runUnit aM_order aM_end aM_bestOrder aM_bestEnd : Nat) (sz : Nat) (M_units : Int32) (M_wanted : Int32) (M_parked : Int32) (M_states : Int32) (M_runSize : Int32) (post : Int32 → Int32 → Prop) (hw : wp_X7_stay M_wanted post) : Met l yX7_stay wsX7_stay ({ frames := 0, cells := 0, slots := 0, locals := 0 } : Room) (va_Pc [.ref aM] (zPre D cI cJ cZ [(aM, .inr (6, [.int M_units, .ref aM_kind, .ref aM_wash, .ref aM_fuel, .ref aM_isBroken, .ref aM_length, .int M_wanted, .ref aM_leaving, .int M_parked, .ref aM_stand, .ref aM_many, .ref aM_track, .ref aM_stack, .ref aM_depth, .ref aM_canBe, .int M_states, .ref aM_told, .ref aM_gone, .ref aM_cost, .ref aM_ways, .ref aM_places, .ref aM_now, .ref aM_high, .int M_runSize, .ref aM_run, .ref aM_runUnit, .ref aM_order, .ref aM_end, .ref aM_bestOrder, .ref aM_bestEnd]))] sz)) (va_Qi (fun (r : Int32) (u : (Int32)) => post r u) (zPost D cI cJ cZ (va_A [(aM, .inr (6, [.int M_units, .ref aM_kind, .ref aM_wash, .ref aM_fuel, .ref aM_isBroken, .ref aM_length, .int M_wanted, .ref aM_leaving, .int M_parked, .ref aM_stand, .ref aM_many, .ref aM_track, .ref aM_stack, .ref aM_depth, .ref aM_canBe, .int M_states, .ref aM_told, .ref aM_gone, .ref aM_cost, .ref aM_ways, .ref aM_places, .ref aM_now, .ref aM_high, .int M_runSize, .ref aM_run, .ref aM_runUnit, .ref aM_order, .ref aM_end, .ref aM_bestOrder, .ref aM_bestEnd]))] sz) (fun u : (Int32) => [(aM, .inr (6, [.int M_units, .ref aM_kind, .ref aM_wash, .ref aM_fuel, .ref aM_isBroken, .ref aM_length, .int u, .ref aM_leaving, .int M_parked, .ref aM_stand, .ref aM_many, .ref aM_track, .ref aM_stack, .ref aM_depth, .ref aM_canBe, .int M_states, .ref aM_told, .ref aM_gone, .ref aM_cost, .ref aM_ways, .ref aM_places, .ref aM_now, .ref aM_high, .int M_runSize, .ref aM_run, .ref aM_runUnit, .ref aM_order, .ref aM_end, .ref aM_bestOrder, .ref aM_bestEnd]))])) (va_A [(aM, .inr (6, [.int M_units, .ref aM_kind, .ref aM_wash, .ref aM_fuel, .ref aM_isBroken, .ref aM_length, .int M_wanted, .ref aM_leaving, .int M_parked, .ref aM_stand, .ref aM_many, .ref aM_track, .ref aM_stack, .ref aM_depth, .ref aM_canBe, .int M_states, .ref aM_told, .ref aM_gone, .ref aM_cost, .ref aM_ways, .ref aM_places, .ref aM_now, .ref aM_high, .int M_runSize, .ref aM_run, .ref aM_runUnit, .ref aM_order, .ref aM_end, .ref aM_bestOrder, .ref aM_bestEnd]))] sz)) 0 0 (va_A [(aM, .inr (6, [.int M_units, .ref aM_kind, .ref aM_wash, .ref aM_fuel, .ref aM_isBroken, .ref aM_length, .int M_wanted, .ref aM_leaving, .int M_parked, .ref aM_stand, .ref aM_many, .ref aM_track, .ref aM_stack, .ref aM_depth, .ref aM_canBe, .int M_states, .ref aM_told, .ref aM_gone, .ref aM_cost, .ref aM_ways, .ref aM_places, .ref aM_now, .ref aM_high, .int M_runSize, .ref aM_run, .ref aM_runUnit, .ref aM_order, .ref aM_end, .ref aM_bestOrder, .ref aM_bestEnd]))] sz) := by
  unfold wp_X7_stay at hw
  refine Met.ofW (cc := cX7_stay) (maxL := 2) (ret := some .int) (by decide) rfl ?_
  intro p e s m args below meth c s₁ B hml hv
  obtain ⟨rfl, hsz, hP, hK, hD0⟩ := hv
  have hx := B.exec
  have hb := B.bytes
  have hr := B.returns
  have hts := atoms_spec (ws := wsX7_stay) B.pre
  have hown : s.vm.findClass RX7 = some m.cls := findClass_of_methodNamed B.named
  have hlocks := B.notSynchronized
  subst hsz
  have hD := hD0.self (sz := s.heap.size)
  generalize hAe : va_A [(aM, .inr (6, [.int M_units, .ref aM_kind, .ref aM_wash, .ref aM_fuel, .ref aM_isBroken, .ref aM_length, .int M_wanted, .ref aM_leaving, .int M_parked, .ref aM_stand, .ref aM_many, .ref aM_track, .ref aM_stack, .ref aM_depth, .ref aM_canBe, .int M_states, .ref aM_told, .ref aM_gone, .ref aM_cost, .ref aM_ways, .ref aM_places, .ref aM_now, .ref aM_high, .int M_runSize, .ref aM_run, .ref aM_runUnit, .ref aM_order, .ref aM_end, .ref aM_bestOrder, .ref aM_bestEnd]))] s.heap.size = A at hD ⊢
  have hA : ∀ q : Nat, s.heap.size ≤ q → A q := fun q h => by rw [← hAe]; exact Or.inr h
  have hS : va_S A s.heap s.heap [] := va_S.rf
  refine (fun (hall : ∀ Q0 : State → Prop, (∀ (r : Int32) (v0 : Int32) (H : Heap) (locs : List Loc) (pc : Nat) (ls : Array Slot), post r v0 → decode cX7_stay pc = .ok (.ireturn, 1) → va_P D vwCl [(aM, .inr (6, [.int M_units, .ref aM_kind, .ref aM_wash, .ref aM_fuel, .ref aM_isBroken, .ref aM_length, .int v0, .ref aM_leaving, .int M_parked, .ref aM_stand, .ref aM_many, .ref aM_track, .ref aM_stack, .ref aM_depth, .ref aM_canBe, .int M_states, .ref aM_told, .ref aM_gone, .ref aM_cost, .ref aM_ways, .ref aM_places, .ref aM_now, .ref aM_high, .int M_runSize, .ref aM_run, .ref aM_runUnit, .ref aM_order, .ref aM_end, .ref aM_bestOrder, .ref aM_bestEnd]))] H → va_D A [(aM, .inr (6, [.int M_units, .ref aM_kind, .ref aM_wash, .ref aM_fuel, .ref aM_isBroken, .ref aM_length, .int v0, .ref aM_leaving, .int M_parked, .ref aM_stand, .ref aM_many, .ref aM_track, .ref aM_stack, .ref aM_depth, .ref aM_canBe, .int M_states, .ref aM_told, .ref aM_gone, .ref aM_cost, .ref aM_ways, .ref aM_places, .ref aM_now, .ref aM_high, .int M_runSize, .ref aM_run, .ref aM_runUnit, .ref aM_order, .ref aM_end, .ref aM_bestOrder, .ref aM_bestEnd]))] → va_S A s.heap H locs → W p l e ({ frames := 0, cells := 0, slots := 0, locals := 0 } : Room) s m ([.ref aM] : List Value).toArray below meth c H locs 0 0 Q0 (F0 m pc ls [.int r])) → W p l e ({ frames := 0, cells := 0, slots := 0, locals := 0 } : Room) s m ([.ref aM] : List Value).toArray below meth c s.heap [] 0 0 Q0 (entryFrame m ([.ref aM] : List Value).toArray 2)) => hall _ (fun r v0 H locs pc ls hw hd hP hD hS => W.iret (v := r) hx hb hr (fun t ht hW => ⟨⟨r, v0, rfl, hw, by rw [ht]; exact hP, va_K.moved hW.alike hK, hD⟩, hS.F ht⟩) hS.2.2 hd)) ?_
  intro Q0 hret
  have hl := lv_entry ([.ref aM]) (n := 2) (Nat.le_of_ble_eq_true rfl)
  rw [lg_entry_eq]
  generalize (lg_sl ([.ref aM]) ++ List.replicate (2 - (lg_sl ([.ref aM])).length) Slot.unset).toArray = ls at hl ⊢
  have hl : lv_has ls 2 [(0, .ref aM)] := hl
  have hinX7 : ∀ w ∈ u_ws RX7 TX7 30, w ∈ wsX7_stay := by decide +kernel
  have hf103 := hts (.fieldLink RX7 103 "DepotNightModel" "wanted" "I") (by decide +kernel)
  obtain ⟨H, hHe⟩ : ∃ H, H = s.heap := ⟨_, rfl⟩
  obtain ⟨locs, hLo⟩ : ∃ locs : List Loc, locs = [] := ⟨_, rfl⟩
  have hS : va_S A s.heap H locs := by rw [hHe, hLo]; exact hS
  have hP : va_P D vwCl [(aM, .inr (6, [.int M_units, .ref aM_kind, .ref aM_wash, .ref aM_fuel, .ref aM_isBroken, .ref aM_length, .int M_wanted, .ref aM_leaving, .int M_parked, .ref aM_stand, .ref aM_many, .ref aM_track, .ref aM_stack, .ref aM_depth, .ref aM_canBe, .int M_states, .ref aM_told, .ref aM_gone, .ref aM_cost, .ref aM_ways, .ref aM_places, .ref aM_now, .ref aM_high, .int M_runSize, .ref aM_run, .ref aM_runUnit, .ref aM_order, .ref aM_end, .ref aM_bestOrder, .ref aM_bestEnd]))] H := by rw [hHe]; exact hP
  refine (fun (hgo : W p l e ({ frames := 0, cells := 0, slots := 0, locals := 0 } : Room) s m ([.ref aM] : List Value).toArray below meth c H locs 0 0 Q0 (F0 m 0 ls [])) => by rw [hHe, hLo] at hgo; exact hgo) ?_
  refine lv_aload_n hx hb dX7_stay_0 rfl (lv_at hl 0 rfl) ?_
  refine va_get (D := D) (ci := 6) (v := .int M_wanted) (C := RX7) (T := TX7) (N := 30) hx hb hts hinX7 hown hK hP 0 rfl rfl 6 (by decide) hf103 (fun _ h9 => h9) rfl dX7_stay_1 ?_
  refine lv_istore_n (lv' := [(1, .int M_wanted), (0, .ref aM)]) hx hb dX7_stay_4 rfl hl (by decide) rfl (fun ls hl => ?_)
  refine lv_aload_n hx hb dX7_stay_5 rfl (lv_at hl 1 rfl) ?_
  refine lv_iconst (v := 0) hx hb dX7_stay_6 (by decide) ?_
  refine va_put (D := D) (ci := 6) (v := .int 0) (ty := .int) (C := RX7) (T := TX7) (N := 30) hx hb hts hinX7 tyX7 tyX7_ok nmX7 hown hK hP hD hS 0 rfl rfl 6 (by decide) hf103 (fun _ h9 => h9) rfl (by decide +kernel) rfl rfl (Nat.le_of_ble_eq_true rfl) dX7_stay_7 (fun H locs hP hD hS => ?_)
  have hP : va_P D vwCl [(aM, .inr (6, [.int M_units, .ref aM_kind, .ref aM_wash, .ref aM_fuel, .ref aM_isBroken, .ref aM_length, .int 0, .ref aM_leaving, .int M_parked, .ref aM_stand, .ref aM_many, .ref aM_track, .ref aM_stack, .ref aM_depth, .ref aM_canBe, .int M_states, .ref aM_told, .ref aM_gone, .ref aM_cost, .ref aM_ways, .ref aM_places, .ref aM_now, .ref aM_high, .int M_runSize, .ref aM_run, .ref aM_runUnit, .ref aM_order, .ref aM_end, .ref aM_bestOrder, .ref aM_bestEnd]))] H := hP
  have hD : va_D A [(aM, .inr (6, [.int M_units, .ref aM_kind, .ref aM_wash, .ref aM_fuel, .ref aM_isBroken, .ref aM_length, .int 0, .ref aM_leaving, .int M_parked, .ref aM_stand, .ref aM_many, .ref aM_track, .ref aM_stack, .ref aM_depth, .ref aM_canBe, .int M_states, .ref aM_told, .ref aM_gone, .ref aM_cost, .ref aM_ways, .ref aM_places, .ref aM_now, .ref aM_high, .int M_runSize, .ref aM_run, .ref aM_runUnit, .ref aM_order, .ref aM_end, .ref aM_bestOrder, .ref aM_bestEnd]))] := hD
  refine lv_iload_n hx hb dX7_stay_10 rfl (lv_at hl 0 rfl) ?_
  exact hret M_wanted 0 H locs 11 ls hw dX7_stay_11 hP hD hS 
/-! X7_parkings -/
def Y_X7_parkings_4 (M_units : Int32) (post : Int32 → Prop) (K4 : Int32 → Int32 → Prop) (x1 : Int32) (x2 : Int32) : Prop :=
  ((M_units ≤ x2 → post x1 ) ∧ (¬ M_units ≤ x2 → ∀ y2 : Int32, y2 = (x1 * 3) → (K4 y2 (x2 + 1))))
def Z_X7_parkings_4 (M_units : Int32) (post : Int32 → Prop) : Nat → Int32 → Int32 → Prop
  | 0 => fun _ _ => False
  | n + 1 => Y_X7_parkings_4 M_units post (Z_X7_parkings_4 M_units post n)
def wp_X7_parkings (M_units : Int32) (post : Int32 → Prop) : Prop :=
  ∃ n, Z_X7_parkings_4 M_units post n 1 0
set_option maxHeartbeats 4000000 in
set_option maxRecDepth 100000 in
theorem c_X7_parkings (l : Launch) (D : va_G) (cI cJ cZ : ClassId) (aM aM_kind aM_wash aM_fuel aM_isBroken aM_length aM_leaving aM_stand aM_many aM_track aM_stack aM_depth aM_canBe aM_told aM_gone aM_cost aM_ways aM_places aM_now aM_high aM_run aM_runUnit aM_order aM_end aM_bestOrder aM_bestEnd : Nat) (sz : Nat) (M_units : Int32) (M_wanted : Int32) (M_parked : Int32) (M_states : Int32) (M_runSize : Int32) (post : Int32 → Prop) (hw : wp_X7_parkings M_units post) : Met l yX7_parkings wsX7_parkings ({ frames := 0, cells := 0, slots := 0, locals := 0 } : Room) (va_Pc [.ref aM] (zPre D cI cJ cZ [(aM, .inr (6, [.int M_units, .ref aM_kind, .ref aM_wash, .ref aM_fuel, .ref aM_isBroken, .ref aM_length, .int M_wanted, .ref aM_leaving, .int M_parked, .ref aM_stand, .ref aM_many, .ref aM_track, .ref aM_stack, .ref aM_depth, .ref aM_canBe, .int M_states, .ref aM_told, .ref aM_gone, .ref aM_cost, .ref aM_ways, .ref aM_places, .ref aM_now, .ref aM_high, .int M_runSize, .ref aM_run, .ref aM_runUnit, .ref aM_order, .ref aM_end, .ref aM_bestOrder, .ref aM_bestEnd]))] sz)) (va_Qi (fun (r : Int32) (u : Unit) => post r) (zPost D cI cJ cZ (va_A [(aM, .inr (6, [.int M_units, .ref aM_kind, .ref aM_wash, .ref aM_fuel, .ref aM_isBroken, .ref aM_length, .int M_wanted, .ref aM_leaving, .int M_parked, .ref aM_stand, .ref aM_many, .ref aM_track, .ref aM_stack, .ref aM_depth, .ref aM_canBe, .int M_states, .ref aM_told, .ref aM_gone, .ref aM_cost, .ref aM_ways, .ref aM_places, .ref aM_now, .ref aM_high, .int M_runSize, .ref aM_run, .ref aM_runUnit, .ref aM_order, .ref aM_end, .ref aM_bestOrder, .ref aM_bestEnd]))] sz) (fun u : Unit => [(aM, .inr (6, [.int M_units, .ref aM_kind, .ref aM_wash, .ref aM_fuel, .ref aM_isBroken, .ref aM_length, .int M_wanted, .ref aM_leaving, .int M_parked, .ref aM_stand, .ref aM_many, .ref aM_track, .ref aM_stack, .ref aM_depth, .ref aM_canBe, .int M_states, .ref aM_told, .ref aM_gone, .ref aM_cost, .ref aM_ways, .ref aM_places, .ref aM_now, .ref aM_high, .int M_runSize, .ref aM_run, .ref aM_runUnit, .ref aM_order, .ref aM_end, .ref aM_bestOrder, .ref aM_bestEnd]))])) (va_A [(aM, .inr (6, [.int M_units, .ref aM_kind, .ref aM_wash, .ref aM_fuel, .ref aM_isBroken, .ref aM_length, .int M_wanted, .ref aM_leaving, .int M_parked, .ref aM_stand, .ref aM_many, .ref aM_track, .ref aM_stack, .ref aM_depth, .ref aM_canBe, .int M_states, .ref aM_told, .ref aM_gone, .ref aM_cost, .ref aM_ways, .ref aM_places, .ref aM_now, .ref aM_high, .int M_runSize, .ref aM_run, .ref aM_runUnit, .ref aM_order, .ref aM_end, .ref aM_bestOrder, .ref aM_bestEnd]))] sz)) 0 0 (va_A [(aM, .inr (6, [.int M_units, .ref aM_kind, .ref aM_wash, .ref aM_fuel, .ref aM_isBroken, .ref aM_length, .int M_wanted, .ref aM_leaving, .int M_parked, .ref aM_stand, .ref aM_many, .ref aM_track, .ref aM_stack, .ref aM_depth, .ref aM_canBe, .int M_states, .ref aM_told, .ref aM_gone, .ref aM_cost, .ref aM_ways, .ref aM_places, .ref aM_now, .ref aM_high, .int M_runSize, .ref aM_run, .ref aM_runUnit, .ref aM_order, .ref aM_end, .ref aM_bestOrder, .ref aM_bestEnd]))] sz) := by
  unfold wp_X7_parkings at hw
  refine Met.ofW (cc := cX7_parkings) (maxL := 3) (ret := some .int) (by decide) rfl ?_
  intro p e s m args below meth c s₁ B hml hv
  obtain ⟨rfl, hsz, hP, hK, hD0⟩ := hv
  have hx := B.exec
  have hb := B.bytes
  have hr := B.returns
  have hts := atoms_spec (ws := wsX7_parkings) B.pre
  have hown : s.vm.findClass RX7 = some m.cls := findClass_of_methodNamed B.named
  have hlocks := B.notSynchronized
  subst hsz
  have hD := hD0.self (sz := s.heap.size)
  generalize hAe : va_A [(aM, .inr (6, [.int M_units, .ref aM_kind, .ref aM_wash, .ref aM_fuel, .ref aM_isBroken, .ref aM_length, .int M_wanted, .ref aM_leaving, .int M_parked, .ref aM_stand, .ref aM_many, .ref aM_track, .ref aM_stack, .ref aM_depth, .ref aM_canBe, .int M_states, .ref aM_told, .ref aM_gone, .ref aM_cost, .ref aM_ways, .ref aM_places, .ref aM_now, .ref aM_high, .int M_runSize, .ref aM_run, .ref aM_runUnit, .ref aM_order, .ref aM_end, .ref aM_bestOrder, .ref aM_bestEnd]))] s.heap.size = A at hD ⊢
  have hA : ∀ q : Nat, s.heap.size ≤ q → A q := fun q h => by rw [← hAe]; exact Or.inr h
  have hS : va_S A s.heap s.heap [] := va_S.rf
  refine (fun (hall : ∀ Q0 : State → Prop, (∀ (r : Int32)  (H : Heap) (locs : List Loc) (pc : Nat) (ls : Array Slot), post r → decode cX7_parkings pc = .ok (.ireturn, 1) → va_P D vwCl [(aM, .inr (6, [.int M_units, .ref aM_kind, .ref aM_wash, .ref aM_fuel, .ref aM_isBroken, .ref aM_length, .int M_wanted, .ref aM_leaving, .int M_parked, .ref aM_stand, .ref aM_many, .ref aM_track, .ref aM_stack, .ref aM_depth, .ref aM_canBe, .int M_states, .ref aM_told, .ref aM_gone, .ref aM_cost, .ref aM_ways, .ref aM_places, .ref aM_now, .ref aM_high, .int M_runSize, .ref aM_run, .ref aM_runUnit, .ref aM_order, .ref aM_end, .ref aM_bestOrder, .ref aM_bestEnd]))] H → va_D A [(aM, .inr (6, [.int M_units, .ref aM_kind, .ref aM_wash, .ref aM_fuel, .ref aM_isBroken, .ref aM_length, .int M_wanted, .ref aM_leaving, .int M_parked, .ref aM_stand, .ref aM_many, .ref aM_track, .ref aM_stack, .ref aM_depth, .ref aM_canBe, .int M_states, .ref aM_told, .ref aM_gone, .ref aM_cost, .ref aM_ways, .ref aM_places, .ref aM_now, .ref aM_high, .int M_runSize, .ref aM_run, .ref aM_runUnit, .ref aM_order, .ref aM_end, .ref aM_bestOrder, .ref aM_bestEnd]))] → va_S A s.heap H locs → W p l e ({ frames := 0, cells := 0, slots := 0, locals := 0 } : Room) s m ([.ref aM] : List Value).toArray below meth c H locs 0 0 Q0 (F0 m pc ls [.int r])) → W p l e ({ frames := 0, cells := 0, slots := 0, locals := 0 } : Room) s m ([.ref aM] : List Value).toArray below meth c s.heap [] 0 0 Q0 (entryFrame m ([.ref aM] : List Value).toArray 3)) => hall _ (fun r  H locs pc ls hw hd hP hD hS => W.iret (v := r) hx hb hr (fun t ht hW => ⟨⟨r, (), rfl, hw, by rw [ht]; exact hP, va_K.moved hW.alike hK, hD⟩, hS.F ht⟩) hS.2.2 hd)) ?_
  intro Q0 hret
  have hl := lv_entry ([.ref aM]) (n := 3) (Nat.le_of_ble_eq_true rfl)
  rw [lg_entry_eq]
  generalize (lg_sl ([.ref aM]) ++ List.replicate (3 - (lg_sl ([.ref aM])).length) Slot.unset).toArray = ls at hl ⊢
  have hl : lv_has ls 3 [(0, .ref aM)] := hl
  have hinX7 : ∀ w ∈ u_ws RX7 TX7 30, w ∈ wsX7_parkings := by decide +kernel
  have hf88 := hts (.fieldLink RX7 88 "DepotNightModel" "units" "I") (by decide +kernel)
  have wZ_X7_parkings_4 : ∀ (n : Nat) (x1 : Int32) (x2 : Int32), Z_X7_parkings_4 M_units post n x1 x2 → ∀ (H : Heap) (locs : List Loc) (ls : Array Slot), va_P D vwCl [(aM, .inr (6, [.int M_units, .ref aM_kind, .ref aM_wash, .ref aM_fuel, .ref aM_isBroken, .ref aM_length, .int M_wanted, .ref aM_leaving, .int M_parked, .ref aM_stand, .ref aM_many, .ref aM_track, .ref aM_stack, .ref aM_depth, .ref aM_canBe, .int M_states, .ref aM_told, .ref aM_gone, .ref aM_cost, .ref aM_ways, .ref aM_places, .ref aM_now, .ref aM_high, .int M_runSize, .ref aM_run, .ref aM_runUnit, .ref aM_order, .ref aM_end, .ref aM_bestOrder, .ref aM_bestEnd]))] H → va_D A [(aM, .inr (6, [.int M_units, .ref aM_kind, .ref aM_wash, .ref aM_fuel, .ref aM_isBroken, .ref aM_length, .int M_wanted, .ref aM_leaving, .int M_parked, .ref aM_stand, .ref aM_many, .ref aM_track, .ref aM_stack, .ref aM_depth, .ref aM_canBe, .int M_states, .ref aM_told, .ref aM_gone, .ref aM_cost, .ref aM_ways, .ref aM_places, .ref aM_now, .ref aM_high, .int M_runSize, .ref aM_run, .ref aM_runUnit, .ref aM_order, .ref aM_end, .ref aM_bestOrder, .ref aM_bestEnd]))] → va_S A s.heap H locs → lv_has ls 3 [(0, .ref aM), (1, .int x1), (2, .int x2)] → W p l e ({ frames := 0, cells := 0, slots := 0, locals := 0 } : Room) s m ([.ref aM] : List Value).toArray below meth c H locs 0 0 Q0 (F0 m 4 ls []) := by
    intro n
    induction n with
    | zero =>
      intro x1 x2 hw
      exact (show False from hw).elim
    | succ n hK4 =>
      intro x1 x2 hw H locs ls hP hD hS hl
      have hw : Y_X7_parkings_4 M_units post (Z_X7_parkings_4 M_units post n) x1 x2 := hw
      unfold Y_X7_parkings_4 at hw
      refine lv_iload_n hx hb dX7_parkings_4 rfl (lv_at hl 2 rfl) ?_
      refine lv_aload_n hx hb dX7_parkings_5 rfl (lv_at hl 0 rfl) ?_
      refine va_get (D := D) (ci := 6) (v := .int M_units) (C := RX7) (T := TX7) (N := 30) hx hb hts hinX7 hown hK hP 0 rfl rfl 0 (by decide) hf88 (fun _ h9 => h9) rfl dX7_parkings_6 ?_
      refine lv_icmp_ge (tgt := 22) hx hb dX7_parkings_9 (by decide) (fun hc1 => ?_) (fun hc1 => ?_)
      · have hw := hw.1 hc1
        refine lv_iload_n hx hb dX7_parkings_22 rfl (lv_at hl 1 rfl) ?_
        exact hret x1  H locs 23 ls hw dX7_parkings_23 hP hD hS 
      · have hw := hw.2 hc1
        refine lv_iload_n hx hb dX7_parkings_12 rfl (lv_at hl 1 rfl) ?_
        refine lv_iconst (v := 3) hx hb dX7_parkings_13 (by decide) ?_
        refine lv_imul hx hb dX7_parkings_14 ?_
        refine lv_topi (fun y2 ey2 => ?_)
        have hw := hw y2 ey2
        refine lv_istore_n (lv' := [(1, .int y2), (0, .ref aM), (2, .int x2)]) hx hb dX7_parkings_15 rfl hl (by decide) rfl (fun ls hl => ?_)
        refine lv_iinc (v := (x2 + 1)) (lv' := [(2, .int (x2 + 1)), (1, .int y2), (0, .ref aM)]) hx hb dX7_parkings_16 hl (k := 2) rfl rfl (by decide) rfl (fun ls hl => ?_)
        refine lv_goto (tgt := 4) hx hb dX7_parkings_19 (by decide) ?_
        exact hK4 y2 (x2 + 1) hw H locs ls hP hD hS (lv_sub hl [2, 1, 0] rfl)
  obtain ⟨H, hHe⟩ : ∃ H, H = s.heap := ⟨_, rfl⟩
  obtain ⟨locs, hLo⟩ : ∃ locs : List Loc, locs = [] := ⟨_, rfl⟩
  have hS : va_S A s.heap H locs := by rw [hHe, hLo]; exact hS
  have hP : va_P D vwCl [(aM, .inr (6, [.int M_units, .ref aM_kind, .ref aM_wash, .ref aM_fuel, .ref aM_isBroken, .ref aM_length, .int M_wanted, .ref aM_leaving, .int M_parked, .ref aM_stand, .ref aM_many, .ref aM_track, .ref aM_stack, .ref aM_depth, .ref aM_canBe, .int M_states, .ref aM_told, .ref aM_gone, .ref aM_cost, .ref aM_ways, .ref aM_places, .ref aM_now, .ref aM_high, .int M_runSize, .ref aM_run, .ref aM_runUnit, .ref aM_order, .ref aM_end, .ref aM_bestOrder, .ref aM_bestEnd]))] H := by rw [hHe]; exact hP
  refine (fun (hgo : W p l e ({ frames := 0, cells := 0, slots := 0, locals := 0 } : Room) s m ([.ref aM] : List Value).toArray below meth c H locs 0 0 Q0 (F0 m 0 ls [])) => by rw [hHe, hLo] at hgo; exact hgo) ?_
  refine lv_iconst (v := 1) hx hb dX7_parkings_0 (by decide) ?_
  refine lv_istore_n (lv' := [(1, .int 1), (0, .ref aM)]) hx hb dX7_parkings_1 rfl hl (by decide) rfl (fun ls hl => ?_)
  refine lv_iconst (v := 0) hx hb dX7_parkings_2 (by decide) ?_
  refine lv_istore_n (lv' := [(2, .int 0), (1, .int 1), (0, .ref aM)]) hx hb dX7_parkings_3 rfl hl (by decide) rfl (fun ls hl => ?_)
  obtain ⟨n3, hw⟩ := hw
  exact wZ_X7_parkings_4  n3 1 0 hw H locs ls hP hD hS (lv_sub hl [2, 1, 0] rfl)
/-! X7_isWanted -/
def wp_X7_isWanted (M_kind : Nat → Int32) (M_isBroken : Nat → Int32) (x1 : Int32) (x2 : Int32) (post : Int32 → Prop) : Prop :=
  vp_in x1 5 ∧ (((¬ (M_isBroken x1.toNatClampNeg) = 0 → post 0 ) ∧ ((M_isBroken x1.toNatClampNeg) = 0 → vp_in x1 5 ∧ (((¬ (M_kind x1.toNatClampNeg) = x2 → post 0 ) ∧ ((M_kind x1.toNatClampNeg) = x2 → post 1 ))))))
set_option maxHeartbeats 4000000 in
set_option maxRecDepth 100000 in
theorem c_X7_isWanted (l : Launch) (D : va_G) (cI cJ cZ : ClassId) (aM aM_kind aM_wash aM_fuel aM_isBroken aM_length aM_leaving aM_stand aM_many aM_track aM_stack aM_depth aM_canBe aM_told aM_gone aM_cost aM_ways aM_places aM_now aM_high aM_run aM_runUnit aM_order aM_end aM_bestOrder aM_bestEnd : Nat) (sz : Nat) (M_units : Int32) (M_wanted : Int32) (M_parked : Int32) (M_states : Int32) (M_runSize : Int32) (M_kind : Nat → Int32) (M_isBroken : Nat → Int32) (x1 : Int32) (x2 : Int32) (post : Int32 → Prop) (hw : wp_X7_isWanted M_kind M_isBroken x1 x2 post) : Met l yX7_isWanted wsX7_isWanted ({ frames := 0, cells := 0, slots := 0, locals := 0 } : Room) (va_Pc [.ref aM, .int x1, .int x2] (zPre D cI cJ cZ [(aM, .inr (6, [.int M_units, .ref aM_kind, .ref aM_wash, .ref aM_fuel, .ref aM_isBroken, .ref aM_length, .int M_wanted, .ref aM_leaving, .int M_parked, .ref aM_stand, .ref aM_many, .ref aM_track, .ref aM_stack, .ref aM_depth, .ref aM_canBe, .int M_states, .ref aM_told, .ref aM_gone, .ref aM_cost, .ref aM_ways, .ref aM_places, .ref aM_now, .ref aM_high, .int M_runSize, .ref aM_run, .ref aM_runUnit, .ref aM_order, .ref aM_end, .ref aM_bestOrder, .ref aM_bestEnd])), (aM_kind, .inl (cI, 5, .inl M_kind)), (aM_isBroken, .inl (cZ, 5, .inl M_isBroken))] sz)) (va_Qi (fun (r : Int32) (u : Unit) => post r) (zPost D cI cJ cZ (va_A [(aM, .inr (6, [.int M_units, .ref aM_kind, .ref aM_wash, .ref aM_fuel, .ref aM_isBroken, .ref aM_length, .int M_wanted, .ref aM_leaving, .int M_parked, .ref aM_stand, .ref aM_many, .ref aM_track, .ref aM_stack, .ref aM_depth, .ref aM_canBe, .int M_states, .ref aM_told, .ref aM_gone, .ref aM_cost, .ref aM_ways, .ref aM_places, .ref aM_now, .ref aM_high, .int M_runSize, .ref aM_run, .ref aM_runUnit, .ref aM_order, .ref aM_end, .ref aM_bestOrder, .ref aM_bestEnd])), (aM_kind, .inl (cI, 5, .inl M_kind)), (aM_isBroken, .inl (cZ, 5, .inl M_isBroken))] sz) (fun u : Unit => [(aM, .inr (6, [.int M_units, .ref aM_kind, .ref aM_wash, .ref aM_fuel, .ref aM_isBroken, .ref aM_length, .int M_wanted, .ref aM_leaving, .int M_parked, .ref aM_stand, .ref aM_many, .ref aM_track, .ref aM_stack, .ref aM_depth, .ref aM_canBe, .int M_states, .ref aM_told, .ref aM_gone, .ref aM_cost, .ref aM_ways, .ref aM_places, .ref aM_now, .ref aM_high, .int M_runSize, .ref aM_run, .ref aM_runUnit, .ref aM_order, .ref aM_end, .ref aM_bestOrder, .ref aM_bestEnd])), (aM_kind, .inl (cI, 5, .inl M_kind)), (aM_isBroken, .inl (cZ, 5, .inl M_isBroken))])) (va_A [(aM, .inr (6, [.int M_units, .ref aM_kind, .ref aM_wash, .ref aM_fuel, .ref aM_isBroken, .ref aM_length, .int M_wanted, .ref aM_leaving, .int M_parked, .ref aM_stand, .ref aM_many, .ref aM_track, .ref aM_stack, .ref aM_depth, .ref aM_canBe, .int M_states, .ref aM_told, .ref aM_gone, .ref aM_cost, .ref aM_ways, .ref aM_places, .ref aM_now, .ref aM_high, .int M_runSize, .ref aM_run, .ref aM_runUnit, .ref aM_order, .ref aM_end, .ref aM_bestOrder, .ref aM_bestEnd])), (aM_kind, .inl (cI, 5, .inl M_kind)), (aM_isBroken, .inl (cZ, 5, .inl M_isBroken))] sz)) 0 0 (va_A [(aM, .inr (6, [.int M_units, .ref aM_kind, .ref aM_wash, .ref aM_fuel, .ref aM_isBroken, .ref aM_length, .int M_wanted, .ref aM_leaving, .int M_parked, .ref aM_stand, .ref aM_many, .ref aM_track, .ref aM_stack, .ref aM_depth, .ref aM_canBe, .int M_states, .ref aM_told, .ref aM_gone, .ref aM_cost, .ref aM_ways, .ref aM_places, .ref aM_now, .ref aM_high, .int M_runSize, .ref aM_run, .ref aM_runUnit, .ref aM_order, .ref aM_end, .ref aM_bestOrder, .ref aM_bestEnd])), (aM_kind, .inl (cI, 5, .inl M_kind)), (aM_isBroken, .inl (cZ, 5, .inl M_isBroken))] sz) := by
  unfold wp_X7_isWanted at hw
  refine Met.ofW (cc := cX7_isWanted) (maxL := 3) (ret := some .boolean) (by decide) rfl ?_
  intro p e s m args below meth c s₁ B hml hv
  obtain ⟨rfl, hsz, hP, hK, hD0⟩ := hv
  have hx := B.exec
  have hb := B.bytes
  have hr := B.returns
  have hts := atoms_spec (ws := wsX7_isWanted) B.pre
  have hown : s.vm.findClass RX7 = some m.cls := findClass_of_methodNamed B.named
  have hlocks := B.notSynchronized
  subst hsz
  have hD := hD0.self (sz := s.heap.size)
  generalize hAe : va_A [(aM, .inr (6, [.int M_units, .ref aM_kind, .ref aM_wash, .ref aM_fuel, .ref aM_isBroken, .ref aM_length, .int M_wanted, .ref aM_leaving, .int M_parked, .ref aM_stand, .ref aM_many, .ref aM_track, .ref aM_stack, .ref aM_depth, .ref aM_canBe, .int M_states, .ref aM_told, .ref aM_gone, .ref aM_cost, .ref aM_ways, .ref aM_places, .ref aM_now, .ref aM_high, .int M_runSize, .ref aM_run, .ref aM_runUnit, .ref aM_order, .ref aM_end, .ref aM_bestOrder, .ref aM_bestEnd])), (aM_kind, .inl (cI, 5, .inl M_kind)), (aM_isBroken, .inl (cZ, 5, .inl M_isBroken))] s.heap.size = A at hD ⊢
  have hA : ∀ q : Nat, s.heap.size ≤ q → A q := fun q h => by rw [← hAe]; exact Or.inr h
  have hS : va_S A s.heap s.heap [] := va_S.rf
  refine (fun (hall : ∀ Q0 : State → Prop, (∀ (r : Int32)  (H : Heap) (locs : List Loc) (pc : Nat) (ls : Array Slot), post r → decode cX7_isWanted pc = .ok (.ireturn, 1) → va_P D vwCl [(aM, .inr (6, [.int M_units, .ref aM_kind, .ref aM_wash, .ref aM_fuel, .ref aM_isBroken, .ref aM_length, .int M_wanted, .ref aM_leaving, .int M_parked, .ref aM_stand, .ref aM_many, .ref aM_track, .ref aM_stack, .ref aM_depth, .ref aM_canBe, .int M_states, .ref aM_told, .ref aM_gone, .ref aM_cost, .ref aM_ways, .ref aM_places, .ref aM_now, .ref aM_high, .int M_runSize, .ref aM_run, .ref aM_runUnit, .ref aM_order, .ref aM_end, .ref aM_bestOrder, .ref aM_bestEnd])), (aM_kind, .inl (cI, 5, .inl M_kind)), (aM_isBroken, .inl (cZ, 5, .inl M_isBroken))] H → va_D A [(aM, .inr (6, [.int M_units, .ref aM_kind, .ref aM_wash, .ref aM_fuel, .ref aM_isBroken, .ref aM_length, .int M_wanted, .ref aM_leaving, .int M_parked, .ref aM_stand, .ref aM_many, .ref aM_track, .ref aM_stack, .ref aM_depth, .ref aM_canBe, .int M_states, .ref aM_told, .ref aM_gone, .ref aM_cost, .ref aM_ways, .ref aM_places, .ref aM_now, .ref aM_high, .int M_runSize, .ref aM_run, .ref aM_runUnit, .ref aM_order, .ref aM_end, .ref aM_bestOrder, .ref aM_bestEnd])), (aM_kind, .inl (cI, 5, .inl M_kind)), (aM_isBroken, .inl (cZ, 5, .inl M_isBroken))] → va_S A s.heap H locs → narrow .boolean (.int r) = .int r → W p l e ({ frames := 0, cells := 0, slots := 0, locals := 0 } : Room) s m ([.ref aM, .int x1, .int x2] : List Value).toArray below meth c H locs 0 0 Q0 (F0 m pc ls [.int r])) → W p l e ({ frames := 0, cells := 0, slots := 0, locals := 0 } : Room) s m ([.ref aM, .int x1, .int x2] : List Value).toArray below meth c s.heap [] 0 0 Q0 (entryFrame m ([.ref aM, .int x1, .int x2] : List Value).toArray 3)) => hall _ (fun r  H locs pc ls hw hd hP hD hS hnr => W.zret (v := r) hx hb hr hnr (fun t ht hW => ⟨⟨r, (), rfl, hw, by rw [ht]; exact hP, va_K.moved hW.alike hK, hD⟩, hS.F ht⟩) hS.2.2 hd)) ?_
  intro Q0 hret
  have hl := lv_entry ([.ref aM, .int x1, .int x2]) (n := 3) (Nat.le_of_ble_eq_true rfl)
  rw [lg_entry_eq]
  generalize (lg_sl ([.ref aM, .int x1, .int x2]) ++ List.replicate (3 - (lg_sl ([.ref aM, .int x1, .int x2])).length) Slot.unset).toArray = ls at hl ⊢
  have hl : lv_has ls 3 [(0, .ref aM), (1, .int x1), (2, .int x2)] := hl
  have hinX7 : ∀ w ∈ u_ws RX7 TX7 30, w ∈ wsX7_isWanted := by decide +kernel
  have hf7 := hts (.fieldLink RX7 7 "DepotNightModel" "kind" "[I") (by decide +kernel)
  have hf19 := hts (.fieldLink RX7 19 "DepotNightModel" "isBroken" "[Z") (by decide +kernel)
  obtain ⟨H, hHe⟩ : ∃ H, H = s.heap := ⟨_, rfl⟩
  obtain ⟨locs, hLo⟩ : ∃ locs : List Loc, locs = [] := ⟨_, rfl⟩
  have hS : va_S A s.heap H locs := by rw [hHe, hLo]; exact hS
  have hP : va_P D vwCl [(aM, .inr (6, [.int M_units, .ref aM_kind, .ref aM_wash, .ref aM_fuel, .ref aM_isBroken, .ref aM_length, .int M_wanted, .ref aM_leaving, .int M_parked, .ref aM_stand, .ref aM_many, .ref aM_track, .ref aM_stack, .ref aM_depth, .ref aM_canBe, .int M_states, .ref aM_told, .ref aM_gone, .ref aM_cost, .ref aM_ways, .ref aM_places, .ref aM_now, .ref aM_high, .int M_runSize, .ref aM_run, .ref aM_runUnit, .ref aM_order, .ref aM_end, .ref aM_bestOrder, .ref aM_bestEnd])), (aM_kind, .inl (cI, 5, .inl M_kind)), (aM_isBroken, .inl (cZ, 5, .inl M_isBroken))] H := by rw [hHe]; exact hP
  refine (fun (hgo : W p l e ({ frames := 0, cells := 0, slots := 0, locals := 0 } : Room) s m ([.ref aM, .int x1, .int x2] : List Value).toArray below meth c H locs 0 0 Q0 (F0 m 0 ls [])) => by rw [hHe, hLo] at hgo; exact hgo) ?_
  refine lv_aload_n hx hb dX7_isWanted_0 rfl (lv_at hl 0 rfl) ?_
  refine va_get (D := D) (ci := 6) (v := .ref aM_isBroken) (C := RX7) (T := TX7) (N := 30) hx hb hts hinX7 hown hK hP 0 rfl rfl 4 (by decide) hf19 (fun _ h9 => h9) rfl dX7_isWanted_1 ?_
  refine lv_iload_n hx hb dX7_isWanted_4 rfl (lv_at hl 1 rfl) ?_
  obtain ⟨hb1, hw⟩ := hw
  refine va_zald hx hb hK hP 2 2 rfl rfl hb1 dX7_isWanted_5 ?_
  refine lv_if_ne (tgt := 23) hx hb dX7_isWanted_6 (by decide) (fun hc2 => ?_) (fun hc2 => ?_)
  · have hw := hw.1 hc2
    refine lv_iconst (v := 0) hx hb dX7_isWanted_23 (by decide) ?_
    exact hret 0  H locs 24 ls hw dX7_isWanted_24 hP hD hS rfl
  · have hw := hw.2 hc2
    refine lv_aload_n hx hb dX7_isWanted_9 rfl (lv_at hl 0 rfl) ?_
    refine va_get (D := D) (ci := 6) (v := .ref aM_kind) (C := RX7) (T := TX7) (N := 30) hx hb hts hinX7 hown hK hP 0 rfl rfl 1 (by decide) hf7 (fun _ h9 => h9) rfl dX7_isWanted_10 ?_
    refine lv_iload_n hx hb dX7_isWanted_13 rfl (lv_at hl 1 rfl) ?_
    obtain ⟨hb3, hw⟩ := hw
    refine va_iald hx hb hK hP 1 0 rfl rfl hb3 dX7_isWanted_14 ?_
    refine lv_iload_n hx hb dX7_isWanted_15 rfl (lv_at hl 2 rfl) ?_
    refine lv_icmp_ne (tgt := 23) hx hb dX7_isWanted_16 (by decide) (fun hc4 => ?_) (fun hc4 => ?_)
    · have hw := hw.1 hc4
      refine lv_iconst (v := 0) hx hb dX7_isWanted_23 (by decide) ?_
      exact hret 0  H locs 24 ls hw dX7_isWanted_24 hP hD hS rfl
    · have hw := hw.2 hc4
      refine lv_iconst (v := 1) hx hb dX7_isWanted_19 (by decide) ?_
      refine lv_goto (tgt := 24) hx hb dX7_isWanted_20 (by decide) ?_
      exact hret 1  H locs 24 ls hw dX7_isWanted_24 hP hD hS rfl
/-! X7_off -/
def wp_X7_off (M_kind : Nat → Int32) (M_isBroken : Nat → Int32) (M_stack : Nat → Int32) (x1 : Int32) (x2 : Int32) (x3 : Int32) (x4 : Int32) (M_canBe : Nat → Int32) (post : (Nat → Int32) → Prop) : Prop :=
  ((x1 ≤ 0 → post M_canBe) ∧ (¬ x1 ≤ 0 → vp_in ((((5 : Int32) * x2) + x1) - 1) 15 ∧ (wp_X7_isWanted M_kind M_isBroken (M_stack ((((5 : Int32) * x2) + x1) - 1).toNatClampNeg) x4 (fun (r3 : Int32) => ((r3 = 0 → post M_canBe) ∧ (¬ r3 = 0 → vp_in x3 216 ∧ (post (upd M_canBe x3.toNatClampNeg (vp_nar .boolean (1 : Int32))))))))))
set_option maxHeartbeats 4000000 in
set_option maxRecDepth 100000 in
theorem c_X7_off (l : Launch) (D : va_G) (cI cJ cZ : ClassId) (aM aM_kind aM_wash aM_fuel aM_isBroken aM_length aM_leaving aM_stand aM_many aM_track aM_stack aM_depth aM_canBe aM_told aM_gone aM_cost aM_ways aM_places aM_now aM_high aM_run aM_runUnit aM_order aM_end aM_bestOrder aM_bestEnd : Nat) (sz : Nat) (M_units : Int32) (M_wanted : Int32) (M_parked : Int32) (M_states : Int32) (M_runSize : Int32) (M_kind : Nat → Int32) (M_isBroken : Nat → Int32) (M_stack : Nat → Int32) (M_canBe : Nat → Int32) (x1 : Int32) (x2 : Int32) (x3 : Int32) (x4 : Int32) (post : (Nat → Int32) → Prop) (hw : wp_X7_off M_kind M_isBroken M_stack x1 x2 x3 x4 M_canBe post) : Met l yX7_off wsX7_off ({ frames := 1, cells := 0, slots := 0, locals := 22 } : Room) (va_Pc [.ref aM, .int x1, .int x2, .int x3, .int x4] (zPre D cI cJ cZ [(aM, .inr (6, [.int M_units, .ref aM_kind, .ref aM_wash, .ref aM_fuel, .ref aM_isBroken, .ref aM_length, .int M_wanted, .ref aM_leaving, .int M_parked, .ref aM_stand, .ref aM_many, .ref aM_track, .ref aM_stack, .ref aM_depth, .ref aM_canBe, .int M_states, .ref aM_told, .ref aM_gone, .ref aM_cost, .ref aM_ways, .ref aM_places, .ref aM_now, .ref aM_high, .int M_runSize, .ref aM_run, .ref aM_runUnit, .ref aM_order, .ref aM_end, .ref aM_bestOrder, .ref aM_bestEnd])), (aM_kind, .inl (cI, 5, .inl M_kind)), (aM_isBroken, .inl (cZ, 5, .inl M_isBroken)), (aM_stack, .inl (cI, 15, .inl M_stack)), (aM_canBe, .inl (cZ, 216, .inl M_canBe))] sz)) (va_Qv (fun (u : (Nat → Int32)) => post u) (zPost D cI cJ cZ (va_A [(aM, .inr (6, [.int M_units, .ref aM_kind, .ref aM_wash, .ref aM_fuel, .ref aM_isBroken, .ref aM_length, .int M_wanted, .ref aM_leaving, .int M_parked, .ref aM_stand, .ref aM_many, .ref aM_track, .ref aM_stack, .ref aM_depth, .ref aM_canBe, .int M_states, .ref aM_told, .ref aM_gone, .ref aM_cost, .ref aM_ways, .ref aM_places, .ref aM_now, .ref aM_high, .int M_runSize, .ref aM_run, .ref aM_runUnit, .ref aM_order, .ref aM_end, .ref aM_bestOrder, .ref aM_bestEnd])), (aM_kind, .inl (cI, 5, .inl M_kind)), (aM_isBroken, .inl (cZ, 5, .inl M_isBroken)), (aM_stack, .inl (cI, 15, .inl M_stack)), (aM_canBe, .inl (cZ, 216, .inl M_canBe))] sz) (fun u : (Nat → Int32) => [(aM, .inr (6, [.int M_units, .ref aM_kind, .ref aM_wash, .ref aM_fuel, .ref aM_isBroken, .ref aM_length, .int M_wanted, .ref aM_leaving, .int M_parked, .ref aM_stand, .ref aM_many, .ref aM_track, .ref aM_stack, .ref aM_depth, .ref aM_canBe, .int M_states, .ref aM_told, .ref aM_gone, .ref aM_cost, .ref aM_ways, .ref aM_places, .ref aM_now, .ref aM_high, .int M_runSize, .ref aM_run, .ref aM_runUnit, .ref aM_order, .ref aM_end, .ref aM_bestOrder, .ref aM_bestEnd])), (aM_kind, .inl (cI, 5, .inl M_kind)), (aM_isBroken, .inl (cZ, 5, .inl M_isBroken)), (aM_stack, .inl (cI, 15, .inl M_stack)), (aM_canBe, .inl (cZ, 216, .inl u))])) (va_A [(aM, .inr (6, [.int M_units, .ref aM_kind, .ref aM_wash, .ref aM_fuel, .ref aM_isBroken, .ref aM_length, .int M_wanted, .ref aM_leaving, .int M_parked, .ref aM_stand, .ref aM_many, .ref aM_track, .ref aM_stack, .ref aM_depth, .ref aM_canBe, .int M_states, .ref aM_told, .ref aM_gone, .ref aM_cost, .ref aM_ways, .ref aM_places, .ref aM_now, .ref aM_high, .int M_runSize, .ref aM_run, .ref aM_runUnit, .ref aM_order, .ref aM_end, .ref aM_bestOrder, .ref aM_bestEnd])), (aM_kind, .inl (cI, 5, .inl M_kind)), (aM_isBroken, .inl (cZ, 5, .inl M_isBroken)), (aM_stack, .inl (cI, 15, .inl M_stack)), (aM_canBe, .inl (cZ, 216, .inl M_canBe))] sz)) 0 0 (va_A [(aM, .inr (6, [.int M_units, .ref aM_kind, .ref aM_wash, .ref aM_fuel, .ref aM_isBroken, .ref aM_length, .int M_wanted, .ref aM_leaving, .int M_parked, .ref aM_stand, .ref aM_many, .ref aM_track, .ref aM_stack, .ref aM_depth, .ref aM_canBe, .int M_states, .ref aM_told, .ref aM_gone, .ref aM_cost, .ref aM_ways, .ref aM_places, .ref aM_now, .ref aM_high, .int M_runSize, .ref aM_run, .ref aM_runUnit, .ref aM_order, .ref aM_end, .ref aM_bestOrder, .ref aM_bestEnd])), (aM_kind, .inl (cI, 5, .inl M_kind)), (aM_isBroken, .inl (cZ, 5, .inl M_isBroken)), (aM_stack, .inl (cI, 15, .inl M_stack)), (aM_canBe, .inl (cZ, 216, .inl M_canBe))] sz) := by
  unfold wp_X7_off at hw
  refine Met.ofW (cc := cX7_off) (maxL := 5) (ret := none) (by decide) rfl ?_
  intro p e s m args below meth c s₁ B hml hv
  obtain ⟨rfl, hsz, hP, hK, hD0⟩ := hv
  have hx := B.exec
  have hb := B.bytes
  have hr := B.returns
  have hts := atoms_spec (ws := wsX7_off) B.pre
  have hown : s.vm.findClass RX7 = some m.cls := findClass_of_methodNamed B.named
  have hlocks := B.notSynchronized
  subst hsz
  have hD := hD0.self (sz := s.heap.size)
  generalize hAe : va_A [(aM, .inr (6, [.int M_units, .ref aM_kind, .ref aM_wash, .ref aM_fuel, .ref aM_isBroken, .ref aM_length, .int M_wanted, .ref aM_leaving, .int M_parked, .ref aM_stand, .ref aM_many, .ref aM_track, .ref aM_stack, .ref aM_depth, .ref aM_canBe, .int M_states, .ref aM_told, .ref aM_gone, .ref aM_cost, .ref aM_ways, .ref aM_places, .ref aM_now, .ref aM_high, .int M_runSize, .ref aM_run, .ref aM_runUnit, .ref aM_order, .ref aM_end, .ref aM_bestOrder, .ref aM_bestEnd])), (aM_kind, .inl (cI, 5, .inl M_kind)), (aM_isBroken, .inl (cZ, 5, .inl M_isBroken)), (aM_stack, .inl (cI, 15, .inl M_stack)), (aM_canBe, .inl (cZ, 216, .inl M_canBe))] s.heap.size = A at hD ⊢
  have hA : ∀ q : Nat, s.heap.size ≤ q → A q := fun q h => by rw [← hAe]; exact Or.inr h
  have hS : va_S A s.heap s.heap [] := va_S.rf
  refine (fun (hall : ∀ Q0 : State → Prop, (∀ (v0 : Nat → Int32) (H : Heap) (locs : List Loc) (pc : Nat) (ls : Array Slot), post v0 → decode cX7_off pc = .ok (.return_, 1) → va_P D vwCl [(aM, .inr (6, [.int M_units, .ref aM_kind, .ref aM_wash, .ref aM_fuel, .ref aM_isBroken, .ref aM_length, .int M_wanted, .ref aM_leaving, .int M_parked, .ref aM_stand, .ref aM_many, .ref aM_track, .ref aM_stack, .ref aM_depth, .ref aM_canBe, .int M_states, .ref aM_told, .ref aM_gone, .ref aM_cost, .ref aM_ways, .ref aM_places, .ref aM_now, .ref aM_high, .int M_runSize, .ref aM_run, .ref aM_runUnit, .ref aM_order, .ref aM_end, .ref aM_bestOrder, .ref aM_bestEnd])), (aM_kind, .inl (cI, 5, .inl M_kind)), (aM_isBroken, .inl (cZ, 5, .inl M_isBroken)), (aM_stack, .inl (cI, 15, .inl M_stack)), (aM_canBe, .inl (cZ, 216, .inl v0))] H → va_D A [(aM, .inr (6, [.int M_units, .ref aM_kind, .ref aM_wash, .ref aM_fuel, .ref aM_isBroken, .ref aM_length, .int M_wanted, .ref aM_leaving, .int M_parked, .ref aM_stand, .ref aM_many, .ref aM_track, .ref aM_stack, .ref aM_depth, .ref aM_canBe, .int M_states, .ref aM_told, .ref aM_gone, .ref aM_cost, .ref aM_ways, .ref aM_places, .ref aM_now, .ref aM_high, .int M_runSize, .ref aM_run, .ref aM_runUnit, .ref aM_order, .ref aM_end, .ref aM_bestOrder, .ref aM_bestEnd])), (aM_kind, .inl (cI, 5, .inl M_kind)), (aM_isBroken, .inl (cZ, 5, .inl M_isBroken)), (aM_stack, .inl (cI, 15, .inl M_stack)), (aM_canBe, .inl (cZ, 216, .inl v0))] → va_S A s.heap H locs → W p l e ({ frames := 1, cells := 0, slots := 0, locals := 22 } : Room) s m ([.ref aM, .int x1, .int x2, .int x3, .int x4] : List Value).toArray below meth c H locs 0 0 Q0 (F0 m pc ls [])) → W p l e ({ frames := 1, cells := 0, slots := 0, locals := 22 } : Room) s m ([.ref aM, .int x1, .int x2, .int x3, .int x4] : List Value).toArray below meth c s.heap [] 0 0 Q0 (entryFrame m ([.ref aM, .int x1, .int x2, .int x3, .int x4] : List Value).toArray 5)) => hall _ (fun v0 H locs pc ls hw hd hP hD hS => W.vret hx hb hr (fun t ht hW => ⟨⟨v0, rfl, hw, by rw [ht]; exact hP, va_K.moved hW.alike hK, hD⟩, hS.F ht⟩) hS.2.2 hd)) ?_
  intro Q0 hret
  have hl := lv_entry ([.ref aM, .int x1, .int x2, .int x3, .int x4]) (n := 5) (Nat.le_of_ble_eq_true rfl)
  rw [lg_entry_eq]
  generalize (lg_sl ([.ref aM, .int x1, .int x2, .int x3, .int x4]) ++ List.replicate (5 - (lg_sl ([.ref aM, .int x1, .int x2, .int x3, .int x4])).length) Slot.unset).toArray = ls at hl ⊢
  have hl : lv_has ls 5 [(0, .ref aM), (1, .int x1), (2, .int x2), (3, .int x3), (4, .int x4)] := hl
  have hinX7 : ∀ w ∈ u_ws RX7 TX7 30, w ∈ wsX7_off := by decide +kernel
  have hf38 := hts (.fieldLink RX7 38 "DepotNightModel" "stack" "[I") (by decide +kernel)
  have hf44 := hts (.fieldLink RX7 44 "DepotNightModel" "canBe" "[Z") (by decide +kernel)
  obtain ⟨H, hHe⟩ : ∃ H, H = s.heap := ⟨_, rfl⟩
  obtain ⟨locs, hLo⟩ : ∃ locs : List Loc, locs = [] := ⟨_, rfl⟩
  have hS : va_S A s.heap H locs := by rw [hHe, hLo]; exact hS
  have hP : va_P D vwCl [(aM, .inr (6, [.int M_units, .ref aM_kind, .ref aM_wash, .ref aM_fuel, .ref aM_isBroken, .ref aM_length, .int M_wanted, .ref aM_leaving, .int M_parked, .ref aM_stand, .ref aM_many, .ref aM_track, .ref aM_stack, .ref aM_depth, .ref aM_canBe, .int M_states, .ref aM_told, .ref aM_gone, .ref aM_cost, .ref aM_ways, .ref aM_places, .ref aM_now, .ref aM_high, .int M_runSize, .ref aM_run, .ref aM_runUnit, .ref aM_order, .ref aM_end, .ref aM_bestOrder, .ref aM_bestEnd])), (aM_kind, .inl (cI, 5, .inl M_kind)), (aM_isBroken, .inl (cZ, 5, .inl M_isBroken)), (aM_stack, .inl (cI, 15, .inl M_stack)), (aM_canBe, .inl (cZ, 216, .inl M_canBe))] H := by rw [hHe]; exact hP
  refine (fun (hgo : W p l e ({ frames := 1, cells := 0, slots := 0, locals := 22 } : Room) s m ([.ref aM, .int x1, .int x2, .int x3, .int x4] : List Value).toArray below meth c H locs 0 0 Q0 (F0 m 0 ls [])) => by rw [hHe, hLo] at hgo; exact hgo) ?_
  refine lv_iload_n hx hb dX7_off_0 rfl (lv_at hl 1 rfl) ?_
  refine lv_if_le (tgt := 32) hx hb dX7_off_1 (by decide) (fun hc1 => ?_) (fun hc1 => ?_)
  · have hw := hw.1 hc1
    exact hret M_canBe H locs 32 ls hw dX7_off_32 hP hD hS
  · have hw := hw.2 hc1
    refine lv_aload_n hx hb dX7_off_4 rfl (lv_at hl 0 rfl) ?_
    refine lv_aload_n hx hb dX7_off_5 rfl (lv_at hl 0 rfl) ?_
    refine va_get (D := D) (ci := 6) (v := .ref aM_stack) (C := RX7) (T := TX7) (N := 30) hx hb hts hinX7 hown hK hP 0 rfl rfl 12 (by decide) hf38 (fun _ h9 => h9) rfl dX7_off_6 ?_
    refine lv_iconst (v := 5) hx hb dX7_off_9 (by decide) ?_
    refine lv_iload_n hx hb dX7_off_10 rfl (lv_at hl 2 rfl) ?_
    refine lv_imul hx hb dX7_off_11 ?_
    refine lv_iload_n hx hb dX7_off_12 rfl (lv_at hl 1 rfl) ?_
    refine lv_iadd hx hb dX7_off_13 ?_
    refine lv_iconst (v := 1) hx hb dX7_off_14 (by decide) ?_
    refine lv_isub hx hb dX7_off_15 ?_
    obtain ⟨hb2, hw⟩ := hw
    refine va_iald hx hb hK hP 3 0 rfl rfl hb2 dX7_off_16 ?_
    refine lv_iload hx hb dX7_off_17 (lv_at hl 4 rfl) ?_
    refine zVi (As := [.int (M_stack ((((5 : Int32) * x2) + x1) - 1).toNatClampNeg), .int x4]) (rest := []) (wc := [(aM, .inr (6, [.int M_units, .ref aM_kind, .ref aM_wash, .ref aM_fuel, .ref aM_isBroken, .ref aM_length, .int M_wanted, .ref aM_leaving, .int M_parked, .ref aM_stand, .ref aM_many, .ref aM_track, .ref aM_stack, .ref aM_depth, .ref aM_canBe, .int M_states, .ref aM_told, .ref aM_gone, .ref aM_cost, .ref aM_ways, .ref aM_places, .ref aM_now, .ref aM_high, .int M_runSize, .ref aM_run, .ref aM_runUnit, .ref aM_order, .ref aM_end, .ref aM_bestOrder, .ref aM_bestEnd])), (aM_kind, .inl (cI, 5, .inl M_kind)), (aM_isBroken, .inl (cZ, 5, .inl M_isBroken))]) (wr := [(aM_stack, .inl (cI, 15, .inl M_stack)), (aM_canBe, .inl (cZ, 216, .inl M_canBe))]) ⟨hx, hb, hml, hown, hts⟩ hK hP hD hS hA [0, 1, 2] [3, 4] rfl rfl (by decide) (by decide) (by decide) (c_X7_isWanted l D cI cJ cZ aM aM_kind aM_wash aM_fuel aM_isBroken aM_length aM_leaving aM_stand aM_many aM_track aM_stack aM_depth aM_canBe aM_told aM_gone aM_cost aM_ways aM_places aM_now aM_high aM_run aM_runUnit aM_order aM_end aM_bestOrder aM_bestEnd H.size M_units M_wanted M_parked M_states M_runSize M_kind M_isBroken (M_stack ((((5 : Int32) * x2) + x1) - 1).toNatClampNeg) x4 _ hw) (cwV 2 hts gX7_off_X7_isWanted rfl rfl rfl (by decide +kernel) ⟨Nat.le_of_ble_eq_true rfl, Nat.le_of_ble_eq_true rfl⟩) 0 6 rfl rfl rfl rfl hl.1 (Nat.le_of_ble_eq_true rfl) dX7_off_19 ⟨(Nat.le_of_ble_eq_true rfl), (Nat.le_of_ble_eq_true rfl)⟩ rfl (fun r3 u H locs hw hP hD hS => ?_)
    try dsimp only at hw
    have hP : va_P D vwCl [(aM, .inr (6, [.int M_units, .ref aM_kind, .ref aM_wash, .ref aM_fuel, .ref aM_isBroken, .ref aM_length, .int M_wanted, .ref aM_leaving, .int M_parked, .ref aM_stand, .ref aM_many, .ref aM_track, .ref aM_stack, .ref aM_depth, .ref aM_canBe, .int M_states, .ref aM_told, .ref aM_gone, .ref aM_cost, .ref aM_ways, .ref aM_places, .ref aM_now, .ref aM_high, .int M_runSize, .ref aM_run, .ref aM_runUnit, .ref aM_order, .ref aM_end, .ref aM_bestOrder, .ref aM_bestEnd])), (aM_kind, .inl (cI, 5, .inl M_kind)), (aM_isBroken, .inl (cZ, 5, .inl M_isBroken)), (aM_stack, .inl (cI, 15, .inl M_stack)), (aM_canBe, .inl (cZ, 216, .inl M_canBe))] H := hP.sub [2, 3, 4, 0, 1] rfl
    have hD : va_D A [(aM, .inr (6, [.int M_units, .ref aM_kind, .ref aM_wash, .ref aM_fuel, .ref aM_isBroken, .ref aM_length, .int M_wanted, .ref aM_leaving, .int M_parked, .ref aM_stand, .ref aM_many, .ref aM_track, .ref aM_stack, .ref aM_depth, .ref aM_canBe, .int M_states, .ref aM_told, .ref aM_gone, .ref aM_cost, .ref aM_ways, .ref aM_places, .ref aM_now, .ref aM_high, .int M_runSize, .ref aM_run, .ref aM_runUnit, .ref aM_order, .ref aM_end, .ref aM_bestOrder, .ref aM_bestEnd])), (aM_kind, .inl (cI, 5, .inl M_kind)), (aM_isBroken, .inl (cZ, 5, .inl M_isBroken)), (aM_stack, .inl (cI, 15, .inl M_stack)), (aM_canBe, .inl (cZ, 216, .inl M_canBe))] := hD.sub [2, 3, 4, 0, 1] (by decide) rfl
    refine lv_if_eq (tgt := 32) hx hb dX7_off_22 (by decide) (fun hc4 => ?_) (fun hc4 => ?_)
    · have hw := hw.1 hc4
      exact hret M_canBe H locs 32 ls hw dX7_off_32 hP hD hS
    · have hw := hw.2 hc4
      refine lv_aload_n hx hb dX7_off_25 rfl (lv_at hl 0 rfl) ?_
      refine va_get (D := D) (ci := 6) (v := .ref aM_canBe) (C := RX7) (T := TX7) (N := 30) hx hb hts hinX7 hown hK hP 0 rfl rfl 14 (by decide) hf44 (fun _ h9 => h9) rfl dX7_off_26 ?_
      refine lv_iload_n hx hb dX7_off_29 rfl (lv_at hl 3 rfl) ?_
      refine lv_iconst (v := 1) hx hb dX7_off_30 (by decide) ?_
      obtain ⟨hb5, hw⟩ := hw
      refine va_zast hx hb hK hP hD hS 4 2 rfl rfl hb5 dX7_off_31 (fun H locs hP hD hS => ?_)
      have hP : va_P D vwCl [(aM, .inr (6, [.int M_units, .ref aM_kind, .ref aM_wash, .ref aM_fuel, .ref aM_isBroken, .ref aM_length, .int M_wanted, .ref aM_leaving, .int M_parked, .ref aM_stand, .ref aM_many, .ref aM_track, .ref aM_stack, .ref aM_depth, .ref aM_canBe, .int M_states, .ref aM_told, .ref aM_gone, .ref aM_cost, .ref aM_ways, .ref aM_places, .ref aM_now, .ref aM_high, .int M_runSize, .ref aM_run, .ref aM_runUnit, .ref aM_order, .ref aM_end, .ref aM_bestOrder, .ref aM_bestEnd])), (aM_kind, .inl (cI, 5, .inl M_kind)), (aM_isBroken, .inl (cZ, 5, .inl M_isBroken)), (aM_stack, .inl (cI, 15, .inl M_stack)), (aM_canBe, .inl (cZ, 216, .inl (upd M_canBe x3.toNatClampNeg (vp_nar .boolean (1 : Int32)))))] H := hP
      have hD : va_D A [(aM, .inr (6, [.int M_units, .ref aM_kind, .ref aM_wash, .ref aM_fuel, .ref aM_isBroken, .ref aM_length, .int M_wanted, .ref aM_leaving, .int M_parked, .ref aM_stand, .ref aM_many, .ref aM_track, .ref aM_stack, .ref aM_depth, .ref aM_canBe, .int M_states, .ref aM_told, .ref aM_gone, .ref aM_cost, .ref aM_ways, .ref aM_places, .ref aM_now, .ref aM_high, .int M_runSize, .ref aM_run, .ref aM_runUnit, .ref aM_order, .ref aM_end, .ref aM_bestOrder, .ref aM_bestEnd])), (aM_kind, .inl (cI, 5, .inl M_kind)), (aM_isBroken, .inl (cZ, 5, .inl M_isBroken)), (aM_stack, .inl (cI, 15, .inl M_stack)), (aM_canBe, .inl (cZ, 216, .inl (upd M_canBe x3.toNatClampNeg (vp_nar .boolean (1 : Int32)))))] := hD
      exact hret (upd M_canBe x3.toNatClampNeg (vp_nar .boolean (1 : Int32))) H locs 32 ls hw dX7_off_32 hP hD hS
/-! X7_at -/
def wp_X7_at (M_stand : Nat → Int32) (M_many : Nat → Int32) (x1 : Int32) (x2 : Int32) (post : Int32 → Prop) : Prop :=
  wp_X7_isTrack x1 (fun (r1 : Int32) => ((¬ r1 = 0 → ((0 ≤ x2 → vp_in x1 3 ∧ ((((M_many x1.toNatClampNeg) ≤ x2 → post (-1) ) ∧ (¬ (M_many x1.toNatClampNeg) ≤ x2 → vp_in x1 3 ∧ (vp_in (((((5 : Int32) * x1) + (M_many x1.toNatClampNeg)) - 1) - x2) 15 ∧ (post (M_stand (((((5 : Int32) * x1) + (M_many x1.toNatClampNeg)) - 1) - x2).toNatClampNeg) )))))) ∧ (¬ 0 ≤ x2 → post (-3) ))) ∧ (r1 = 0 → post (-2) )))
set_option maxHeartbeats 4000000 in
set_option maxRecDepth 100000 in
theorem c_X7_at (l : Launch) (D : va_G) (cI cJ cZ : ClassId) (aM aM_kind aM_wash aM_fuel aM_isBroken aM_length aM_leaving aM_stand aM_many aM_track aM_stack aM_depth aM_canBe aM_told aM_gone aM_cost aM_ways aM_places aM_now aM_high aM_run aM_runUnit aM_order aM_end aM_bestOrder aM_bestEnd : Nat) (sz : Nat) (M_units : Int32) (M_wanted : Int32) (M_parked : Int32) (M_states : Int32) (M_runSize : Int32) (M_stand : Nat → Int32) (M_many : Nat → Int32) (x1 : Int32) (x2 : Int32) (post : Int32 → Prop) (hw : wp_X7_at M_stand M_many x1 x2 post) : Met l yX7_at wsX7_at ({ frames := 2, cells := 0, slots := 0, locals := 42 } : Room) (va_Pc [.ref aM, .int x1, .int x2] (zPre D cI cJ cZ [(aM, .inr (6, [.int M_units, .ref aM_kind, .ref aM_wash, .ref aM_fuel, .ref aM_isBroken, .ref aM_length, .int M_wanted, .ref aM_leaving, .int M_parked, .ref aM_stand, .ref aM_many, .ref aM_track, .ref aM_stack, .ref aM_depth, .ref aM_canBe, .int M_states, .ref aM_told, .ref aM_gone, .ref aM_cost, .ref aM_ways, .ref aM_places, .ref aM_now, .ref aM_high, .int M_runSize, .ref aM_run, .ref aM_runUnit, .ref aM_order, .ref aM_end, .ref aM_bestOrder, .ref aM_bestEnd])), (aM_stand, .inl (cI, 15, .inl M_stand)), (aM_many, .inl (cI, 3, .inl M_many))] sz)) (va_Qi (fun (r : Int32) (u : Unit) => post r) (zPost D cI cJ cZ (va_A [(aM, .inr (6, [.int M_units, .ref aM_kind, .ref aM_wash, .ref aM_fuel, .ref aM_isBroken, .ref aM_length, .int M_wanted, .ref aM_leaving, .int M_parked, .ref aM_stand, .ref aM_many, .ref aM_track, .ref aM_stack, .ref aM_depth, .ref aM_canBe, .int M_states, .ref aM_told, .ref aM_gone, .ref aM_cost, .ref aM_ways, .ref aM_places, .ref aM_now, .ref aM_high, .int M_runSize, .ref aM_run, .ref aM_runUnit, .ref aM_order, .ref aM_end, .ref aM_bestOrder, .ref aM_bestEnd])), (aM_stand, .inl (cI, 15, .inl M_stand)), (aM_many, .inl (cI, 3, .inl M_many))] sz) (fun u : Unit => [(aM, .inr (6, [.int M_units, .ref aM_kind, .ref aM_wash, .ref aM_fuel, .ref aM_isBroken, .ref aM_length, .int M_wanted, .ref aM_leaving, .int M_parked, .ref aM_stand, .ref aM_many, .ref aM_track, .ref aM_stack, .ref aM_depth, .ref aM_canBe, .int M_states, .ref aM_told, .ref aM_gone, .ref aM_cost, .ref aM_ways, .ref aM_places, .ref aM_now, .ref aM_high, .int M_runSize, .ref aM_run, .ref aM_runUnit, .ref aM_order, .ref aM_end, .ref aM_bestOrder, .ref aM_bestEnd])), (aM_stand, .inl (cI, 15, .inl M_stand)), (aM_many, .inl (cI, 3, .inl M_many))])) (va_A [(aM, .inr (6, [.int M_units, .ref aM_kind, .ref aM_wash, .ref aM_fuel, .ref aM_isBroken, .ref aM_length, .int M_wanted, .ref aM_leaving, .int M_parked, .ref aM_stand, .ref aM_many, .ref aM_track, .ref aM_stack, .ref aM_depth, .ref aM_canBe, .int M_states, .ref aM_told, .ref aM_gone, .ref aM_cost, .ref aM_ways, .ref aM_places, .ref aM_now, .ref aM_high, .int M_runSize, .ref aM_run, .ref aM_runUnit, .ref aM_order, .ref aM_end, .ref aM_bestOrder, .ref aM_bestEnd])), (aM_stand, .inl (cI, 15, .inl M_stand)), (aM_many, .inl (cI, 3, .inl M_many))] sz)) 0 0 (va_A [(aM, .inr (6, [.int M_units, .ref aM_kind, .ref aM_wash, .ref aM_fuel, .ref aM_isBroken, .ref aM_length, .int M_wanted, .ref aM_leaving, .int M_parked, .ref aM_stand, .ref aM_many, .ref aM_track, .ref aM_stack, .ref aM_depth, .ref aM_canBe, .int M_states, .ref aM_told, .ref aM_gone, .ref aM_cost, .ref aM_ways, .ref aM_places, .ref aM_now, .ref aM_high, .int M_runSize, .ref aM_run, .ref aM_runUnit, .ref aM_order, .ref aM_end, .ref aM_bestOrder, .ref aM_bestEnd])), (aM_stand, .inl (cI, 15, .inl M_stand)), (aM_many, .inl (cI, 3, .inl M_many))] sz) := by
  unfold wp_X7_at at hw
  refine Met.ofW (cc := cX7_at) (maxL := 3) (ret := some .int) (by decide) rfl ?_
  intro p e s m args below meth c s₁ B hml hv
  obtain ⟨rfl, hsz, hP, hK, hD0⟩ := hv
  have hx := B.exec
  have hb := B.bytes
  have hr := B.returns
  have hts := atoms_spec (ws := wsX7_at) B.pre
  have hown : s.vm.findClass RX7 = some m.cls := findClass_of_methodNamed B.named
  have hlocks := B.notSynchronized
  subst hsz
  have hD := hD0.self (sz := s.heap.size)
  generalize hAe : va_A [(aM, .inr (6, [.int M_units, .ref aM_kind, .ref aM_wash, .ref aM_fuel, .ref aM_isBroken, .ref aM_length, .int M_wanted, .ref aM_leaving, .int M_parked, .ref aM_stand, .ref aM_many, .ref aM_track, .ref aM_stack, .ref aM_depth, .ref aM_canBe, .int M_states, .ref aM_told, .ref aM_gone, .ref aM_cost, .ref aM_ways, .ref aM_places, .ref aM_now, .ref aM_high, .int M_runSize, .ref aM_run, .ref aM_runUnit, .ref aM_order, .ref aM_end, .ref aM_bestOrder, .ref aM_bestEnd])), (aM_stand, .inl (cI, 15, .inl M_stand)), (aM_many, .inl (cI, 3, .inl M_many))] s.heap.size = A at hD ⊢
  have hA : ∀ q : Nat, s.heap.size ≤ q → A q := fun q h => by rw [← hAe]; exact Or.inr h
  have hS : va_S A s.heap s.heap [] := va_S.rf
  refine (fun (hall : ∀ Q0 : State → Prop, (∀ (r : Int32)  (H : Heap) (locs : List Loc) (pc : Nat) (ls : Array Slot), post r → decode cX7_at pc = .ok (.ireturn, 1) → va_P D vwCl [(aM, .inr (6, [.int M_units, .ref aM_kind, .ref aM_wash, .ref aM_fuel, .ref aM_isBroken, .ref aM_length, .int M_wanted, .ref aM_leaving, .int M_parked, .ref aM_stand, .ref aM_many, .ref aM_track, .ref aM_stack, .ref aM_depth, .ref aM_canBe, .int M_states, .ref aM_told, .ref aM_gone, .ref aM_cost, .ref aM_ways, .ref aM_places, .ref aM_now, .ref aM_high, .int M_runSize, .ref aM_run, .ref aM_runUnit, .ref aM_order, .ref aM_end, .ref aM_bestOrder, .ref aM_bestEnd])), (aM_stand, .inl (cI, 15, .inl M_stand)), (aM_many, .inl (cI, 3, .inl M_many))] H → va_D A [(aM, .inr (6, [.int M_units, .ref aM_kind, .ref aM_wash, .ref aM_fuel, .ref aM_isBroken, .ref aM_length, .int M_wanted, .ref aM_leaving, .int M_parked, .ref aM_stand, .ref aM_many, .ref aM_track, .ref aM_stack, .ref aM_depth, .ref aM_canBe, .int M_states, .ref aM_told, .ref aM_gone, .ref aM_cost, .ref aM_ways, .ref aM_places, .ref aM_now, .ref aM_high, .int M_runSize, .ref aM_run, .ref aM_runUnit, .ref aM_order, .ref aM_end, .ref aM_bestOrder, .ref aM_bestEnd])), (aM_stand, .inl (cI, 15, .inl M_stand)), (aM_many, .inl (cI, 3, .inl M_many))] → va_S A s.heap H locs → W p l e ({ frames := 2, cells := 0, slots := 0, locals := 42 } : Room) s m ([.ref aM, .int x1, .int x2] : List Value).toArray below meth c H locs 0 0 Q0 (F0 m pc ls [.int r])) → W p l e ({ frames := 2, cells := 0, slots := 0, locals := 42 } : Room) s m ([.ref aM, .int x1, .int x2] : List Value).toArray below meth c s.heap [] 0 0 Q0 (entryFrame m ([.ref aM, .int x1, .int x2] : List Value).toArray 3)) => hall _ (fun r  H locs pc ls hw hd hP hD hS => W.iret (v := r) hx hb hr (fun t ht hW => ⟨⟨r, (), rfl, hw, by rw [ht]; exact hP, va_K.moved hW.alike hK, hD⟩, hS.F ht⟩) hS.2.2 hd)) ?_
  intro Q0 hret
  have hl := lv_entry ([.ref aM, .int x1, .int x2]) (n := 3) (Nat.le_of_ble_eq_true rfl)
  rw [lg_entry_eq]
  generalize (lg_sl ([.ref aM, .int x1, .int x2]) ++ List.replicate (3 - (lg_sl ([.ref aM, .int x1, .int x2])).length) Slot.unset).toArray = ls at hl ⊢
  have hl : lv_has ls 3 [(0, .ref aM), (1, .int x1), (2, .int x2)] := hl
  have hinX7 : ∀ w ∈ u_ws RX7 TX7 30, w ∈ wsX7_at := by decide +kernel
  have hf29 := hts (.fieldLink RX7 29 "DepotNightModel" "stand" "[I") (by decide +kernel)
  have hf32 := hts (.fieldLink RX7 32 "DepotNightModel" "many" "[I") (by decide +kernel)
  obtain ⟨H, hHe⟩ : ∃ H, H = s.heap := ⟨_, rfl⟩
  obtain ⟨locs, hLo⟩ : ∃ locs : List Loc, locs = [] := ⟨_, rfl⟩
  have hS : va_S A s.heap H locs := by rw [hHe, hLo]; exact hS
  have hP : va_P D vwCl [(aM, .inr (6, [.int M_units, .ref aM_kind, .ref aM_wash, .ref aM_fuel, .ref aM_isBroken, .ref aM_length, .int M_wanted, .ref aM_leaving, .int M_parked, .ref aM_stand, .ref aM_many, .ref aM_track, .ref aM_stack, .ref aM_depth, .ref aM_canBe, .int M_states, .ref aM_told, .ref aM_gone, .ref aM_cost, .ref aM_ways, .ref aM_places, .ref aM_now, .ref aM_high, .int M_runSize, .ref aM_run, .ref aM_runUnit, .ref aM_order, .ref aM_end, .ref aM_bestOrder, .ref aM_bestEnd])), (aM_stand, .inl (cI, 15, .inl M_stand)), (aM_many, .inl (cI, 3, .inl M_many))] H := by rw [hHe]; exact hP
  refine (fun (hgo : W p l e ({ frames := 2, cells := 0, slots := 0, locals := 42 } : Room) s m ([.ref aM, .int x1, .int x2] : List Value).toArray below meth c H locs 0 0 Q0 (F0 m 0 ls [])) => by rw [hHe, hLo] at hgo; exact hgo) ?_
  refine lv_iload_n hx hb dX7_at_0 rfl (lv_at hl 1 rfl) ?_
  refine zSi (As := [.int x1]) (rest := []) (wc := []) (wr := [(aM, .inr (6, [.int M_units, .ref aM_kind, .ref aM_wash, .ref aM_fuel, .ref aM_isBroken, .ref aM_length, .int M_wanted, .ref aM_leaving, .int M_parked, .ref aM_stand, .ref aM_many, .ref aM_track, .ref aM_stack, .ref aM_depth, .ref aM_canBe, .int M_states, .ref aM_told, .ref aM_gone, .ref aM_cost, .ref aM_ways, .ref aM_places, .ref aM_now, .ref aM_high, .int M_runSize, .ref aM_run, .ref aM_runUnit, .ref aM_order, .ref aM_end, .ref aM_bestOrder, .ref aM_bestEnd])), (aM_stand, .inl (cI, 15, .inl M_stand)), (aM_many, .inl (cI, 3, .inl M_many))]) ⟨hx, hb, hml, hown, hts⟩ hK hP hD hS hA [] [0, 1, 2] rfl rfl (by decide) (by decide) (by decide) (c_X7_isTrack l D cI cJ cZ H.size x1 _ hw) (va_cwS 1 hts gX7_at_X7_isTrack rfl rfl rfl (by decide +kernel) ⟨Nat.le_of_ble_eq_true rfl, Nat.le_of_ble_eq_true rfl⟩) rfl hl.1 (Nat.le_of_ble_eq_true rfl) dX7_at_1 ⟨(Nat.le_of_ble_eq_true rfl), (Nat.le_of_ble_eq_true rfl)⟩ rfl (fun r1 u H locs hw hP hD hS => ?_)
  try dsimp only at hw
  have hP : va_P D vwCl [(aM, .inr (6, [.int M_units, .ref aM_kind, .ref aM_wash, .ref aM_fuel, .ref aM_isBroken, .ref aM_length, .int M_wanted, .ref aM_leaving, .int M_parked, .ref aM_stand, .ref aM_many, .ref aM_track, .ref aM_stack, .ref aM_depth, .ref aM_canBe, .int M_states, .ref aM_told, .ref aM_gone, .ref aM_cost, .ref aM_ways, .ref aM_places, .ref aM_now, .ref aM_high, .int M_runSize, .ref aM_run, .ref aM_runUnit, .ref aM_order, .ref aM_end, .ref aM_bestOrder, .ref aM_bestEnd])), (aM_stand, .inl (cI, 15, .inl M_stand)), (aM_many, .inl (cI, 3, .inl M_many))] H := hP.sub [0, 1, 2] rfl
  have hD : va_D A [(aM, .inr (6, [.int M_units, .ref aM_kind, .ref aM_wash, .ref aM_fuel, .ref aM_isBroken, .ref aM_length, .int M_wanted, .ref aM_leaving, .int M_parked, .ref aM_stand, .ref aM_many, .ref aM_track, .ref aM_stack, .ref aM_depth, .ref aM_canBe, .int M_states, .ref aM_told, .ref aM_gone, .ref aM_cost, .ref aM_ways, .ref aM_places, .ref aM_now, .ref aM_high, .int M_runSize, .ref aM_run, .ref aM_runUnit, .ref aM_order, .ref aM_end, .ref aM_bestOrder, .ref aM_bestEnd])), (aM_stand, .inl (cI, 15, .inl M_stand)), (aM_many, .inl (cI, 3, .inl M_many))] := hD.sub [0, 1, 2] (by decide) rfl
  refine lv_if_ne (tgt := 10) hx hb dX7_at_4 (by decide) (fun hc2 => ?_) (fun hc2 => ?_)
  · have hw := hw.1 hc2
    refine lv_iload_n hx hb dX7_at_10 rfl (lv_at hl 2 rfl) ?_
    refine lv_if_ge (tgt := 17) hx hb dX7_at_11 (by decide) (fun hc3 => ?_) (fun hc3 => ?_)
    · have hw := hw.1 hc3
      refine lv_iload_n hx hb dX7_at_17 rfl (lv_at hl 2 rfl) ?_
      refine lv_aload_n hx hb dX7_at_18 rfl (lv_at hl 0 rfl) ?_
      refine va_get (D := D) (ci := 6) (v := .ref aM_many) (C := RX7) (T := TX7) (N := 30) hx hb hts hinX7 hown hK hP 0 rfl rfl 10 (by decide) hf32 (fun _ h9 => h9) rfl dX7_at_19 ?_
      refine lv_iload_n hx hb dX7_at_22 rfl (lv_at hl 1 rfl) ?_
      obtain ⟨hb4, hw⟩ := hw
      refine va_iald hx hb hK hP 2 0 rfl rfl hb4 dX7_at_23 ?_
      refine lv_icmp_ge (tgt := 49) hx hb dX7_at_24 (by decide) (fun hc5 => ?_) (fun hc5 => ?_)
      · have hw := hw.1 hc5
        refine lv_iconst (v := (-1)) hx hb dX7_at_49 (by decide) ?_
        exact hret (-1)  H locs 50 ls hw dX7_at_50 hP hD hS 
      · have hw := hw.2 hc5
        refine lv_aload_n hx hb dX7_at_27 rfl (lv_at hl 0 rfl) ?_
        refine va_get (D := D) (ci := 6) (v := .ref aM_stand) (C := RX7) (T := TX7) (N := 30) hx hb hts hinX7 hown hK hP 0 rfl rfl 9 (by decide) hf29 (fun _ h9 => h9) rfl dX7_at_28 ?_
        refine lv_iconst (v := 5) hx hb dX7_at_31 (by decide) ?_
        refine lv_iload_n hx hb dX7_at_32 rfl (lv_at hl 1 rfl) ?_
        refine lv_imul hx hb dX7_at_33 ?_
        refine lv_aload_n hx hb dX7_at_34 rfl (lv_at hl 0 rfl) ?_
        refine va_get (D := D) (ci := 6) (v := .ref aM_many) (C := RX7) (T := TX7) (N := 30) hx hb hts hinX7 hown hK hP 0 rfl rfl 10 (by decide) hf32 (fun _ h9 => h9) rfl dX7_at_35 ?_
        refine lv_iload_n hx hb dX7_at_38 rfl (lv_at hl 1 rfl) ?_
        obtain ⟨hb6, hw⟩ := hw
        refine va_iald hx hb hK hP 2 0 rfl rfl hb6 dX7_at_39 ?_
        refine lv_iadd hx hb dX7_at_40 ?_
        refine lv_iconst (v := 1) hx hb dX7_at_41 (by decide) ?_
        refine lv_isub hx hb dX7_at_42 ?_
        refine lv_iload_n hx hb dX7_at_43 rfl (lv_at hl 2 rfl) ?_
        refine lv_isub hx hb dX7_at_44 ?_
        obtain ⟨hb7, hw⟩ := hw
        refine va_iald hx hb hK hP 1 0 rfl rfl hb7 dX7_at_45 ?_
        refine lv_goto (tgt := 50) hx hb dX7_at_46 (by decide) ?_
        exact hret (M_stand (((((5 : Int32) * x1) + (M_many x1.toNatClampNeg)) - 1) - x2).toNatClampNeg)  H locs 50 ls hw dX7_at_50 hP hD hS 
    · have hw := hw.2 hc3
      refine lv_bipush (v := (-3)) hx hb dX7_at_14 (by decide) ?_
      exact hret (-3)  H locs 16 ls hw dX7_at_16 hP hD hS 
  · have hw := hw.2 hc2
    refine lv_bipush (v := (-2)) hx hb dX7_at_7 (by decide) ?_
    exact hret (-2)  H locs 9 ls hw dX7_at_9 hP hD hS 
/-! X7_park -/
def wp_X7_park (M_units : Int32) (M_length : Nat → Int32) (x1 : Int32) (M_parked : Int32) (M_stand : Nat → Int32) (M_many : Nat → Int32) (post : Int32 → Int32 → (Nat → Int32) → (Nat → Int32) → Prop) : Prop :=
  wp_X7_isTrack x1 (fun (r1 : Int32) => ((¬ r1 = 0 → ((¬ M_parked = M_units → vp_in x1 3 ∧ (vp_in x1 3 ∧ ((((M_many x1.toNatClampNeg) < (M_length x1.toNatClampNeg) → vp_in x1 3 ∧ (vp_in (((5 : Int32) * x1) + (M_many x1.toNatClampNeg)) 15 ∧ (vp_in x1 3 ∧ (∀ y11 : Int32, y11 = ((M_many x1.toNatClampNeg) + 1) → (vp_in x1 3 ∧ (∀ y12 : Int32, y12 = (M_parked + 1) → (post (y12 - 1) y12 (upd M_stand (((5 : Int32) * x1) + (M_many x1.toNatClampNeg)).toNatClampNeg M_parked) (upd M_many x1.toNatClampNeg y11)))))))) ∧ (¬ (M_many x1.toNatClampNeg) < (M_length x1.toNatClampNeg) → post (-5) M_parked M_stand M_many))))) ∧ (M_parked = M_units → post (-4) M_parked M_stand M_many))) ∧ (r1 = 0 → post (-2) M_parked M_stand M_many)))
set_option maxHeartbeats 4000000 in
set_option maxRecDepth 100000 in
theorem c_X7_park (l : Launch) (D : va_G) (cI cJ cZ : ClassId) (aM aM_kind aM_wash aM_fuel aM_isBroken aM_length aM_leaving aM_stand aM_many aM_track aM_stack aM_depth aM_canBe aM_told aM_gone aM_cost aM_ways aM_places aM_now aM_high aM_run aM_runUnit aM_order aM_end aM_bestOrder aM_bestEnd : Nat) (sz : Nat) (M_units : Int32) (M_wanted : Int32) (M_parked : Int32) (M_states : Int32) (M_runSize : Int32) (M_length : Nat → Int32) (M_stand : Nat → Int32) (M_many : Nat → Int32) (x1 : Int32) (post : Int32 → Int32 → (Nat → Int32) → (Nat → Int32) → Prop) (hw : wp_X7_park M_units M_length x1 M_parked M_stand M_many post) : Met l yX7_park wsX7_park ({ frames := 2, cells := 0, slots := 0, locals := 42 } : Room) (va_Pc [.ref aM, .int x1] (zPre D cI cJ cZ [(aM, .inr (6, [.int M_units, .ref aM_kind, .ref aM_wash, .ref aM_fuel, .ref aM_isBroken, .ref aM_length, .int M_wanted, .ref aM_leaving, .int M_parked, .ref aM_stand, .ref aM_many, .ref aM_track, .ref aM_stack, .ref aM_depth, .ref aM_canBe, .int M_states, .ref aM_told, .ref aM_gone, .ref aM_cost, .ref aM_ways, .ref aM_places, .ref aM_now, .ref aM_high, .int M_runSize, .ref aM_run, .ref aM_runUnit, .ref aM_order, .ref aM_end, .ref aM_bestOrder, .ref aM_bestEnd])), (aM_length, .inl (cI, 3, .inl M_length)), (aM_stand, .inl (cI, 15, .inl M_stand)), (aM_many, .inl (cI, 3, .inl M_many))] sz)) (va_Qi (fun (r : Int32) (u : (Int32) × (Nat → Int32) × (Nat → Int32)) => post r u.1 u.2.1 u.2.2) (zPost D cI cJ cZ (va_A [(aM, .inr (6, [.int M_units, .ref aM_kind, .ref aM_wash, .ref aM_fuel, .ref aM_isBroken, .ref aM_length, .int M_wanted, .ref aM_leaving, .int M_parked, .ref aM_stand, .ref aM_many, .ref aM_track, .ref aM_stack, .ref aM_depth, .ref aM_canBe, .int M_states, .ref aM_told, .ref aM_gone, .ref aM_cost, .ref aM_ways, .ref aM_places, .ref aM_now, .ref aM_high, .int M_runSize, .ref aM_run, .ref aM_runUnit, .ref aM_order, .ref aM_end, .ref aM_bestOrder, .ref aM_bestEnd])), (aM_length, .inl (cI, 3, .inl M_length)), (aM_stand, .inl (cI, 15, .inl M_stand)), (aM_many, .inl (cI, 3, .inl M_many))] sz) (fun u : (Int32) × (Nat → Int32) × (Nat → Int32) => [(aM, .inr (6, [.int M_units, .ref aM_kind, .ref aM_wash, .ref aM_fuel, .ref aM_isBroken, .ref aM_length, .int M_wanted, .ref aM_leaving, .int u.1, .ref aM_stand, .ref aM_many, .ref aM_track, .ref aM_stack, .ref aM_depth, .ref aM_canBe, .int M_states, .ref aM_told, .ref aM_gone, .ref aM_cost, .ref aM_ways, .ref aM_places, .ref aM_now, .ref aM_high, .int M_runSize, .ref aM_run, .ref aM_runUnit, .ref aM_order, .ref aM_end, .ref aM_bestOrder, .ref aM_bestEnd])), (aM_length, .inl (cI, 3, .inl M_length)), (aM_stand, .inl (cI, 15, .inl u.2.1)), (aM_many, .inl (cI, 3, .inl u.2.2))])) (va_A [(aM, .inr (6, [.int M_units, .ref aM_kind, .ref aM_wash, .ref aM_fuel, .ref aM_isBroken, .ref aM_length, .int M_wanted, .ref aM_leaving, .int M_parked, .ref aM_stand, .ref aM_many, .ref aM_track, .ref aM_stack, .ref aM_depth, .ref aM_canBe, .int M_states, .ref aM_told, .ref aM_gone, .ref aM_cost, .ref aM_ways, .ref aM_places, .ref aM_now, .ref aM_high, .int M_runSize, .ref aM_run, .ref aM_runUnit, .ref aM_order, .ref aM_end, .ref aM_bestOrder, .ref aM_bestEnd])), (aM_length, .inl (cI, 3, .inl M_length)), (aM_stand, .inl (cI, 15, .inl M_stand)), (aM_many, .inl (cI, 3, .inl M_many))] sz)) 0 0 (va_A [(aM, .inr (6, [.int M_units, .ref aM_kind, .ref aM_wash, .ref aM_fuel, .ref aM_isBroken, .ref aM_length, .int M_wanted, .ref aM_leaving, .int M_parked, .ref aM_stand, .ref aM_many, .ref aM_track, .ref aM_stack, .ref aM_depth, .ref aM_canBe, .int M_states, .ref aM_told, .ref aM_gone, .ref aM_cost, .ref aM_ways, .ref aM_places, .ref aM_now, .ref aM_high, .int M_runSize, .ref aM_run, .ref aM_runUnit, .ref aM_order, .ref aM_end, .ref aM_bestOrder, .ref aM_bestEnd])), (aM_length, .inl (cI, 3, .inl M_length)), (aM_stand, .inl (cI, 15, .inl M_stand)), (aM_many, .inl (cI, 3, .inl M_many))] sz) := by
  unfold wp_X7_park at hw
  refine Met.ofW (cc := cX7_park) (maxL := 2) (ret := some .int) (by decide) rfl ?_
  intro p e s m args below meth c s₁ B hml hv
  obtain ⟨rfl, hsz, hP, hK, hD0⟩ := hv
  have hx := B.exec
  have hb := B.bytes
  have hr := B.returns
  have hts := atoms_spec (ws := wsX7_park) B.pre
  have hown : s.vm.findClass RX7 = some m.cls := findClass_of_methodNamed B.named
  have hlocks := B.notSynchronized
  subst hsz
  have hD := hD0.self (sz := s.heap.size)
  generalize hAe : va_A [(aM, .inr (6, [.int M_units, .ref aM_kind, .ref aM_wash, .ref aM_fuel, .ref aM_isBroken, .ref aM_length, .int M_wanted, .ref aM_leaving, .int M_parked, .ref aM_stand, .ref aM_many, .ref aM_track, .ref aM_stack, .ref aM_depth, .ref aM_canBe, .int M_states, .ref aM_told, .ref aM_gone, .ref aM_cost, .ref aM_ways, .ref aM_places, .ref aM_now, .ref aM_high, .int M_runSize, .ref aM_run, .ref aM_runUnit, .ref aM_order, .ref aM_end, .ref aM_bestOrder, .ref aM_bestEnd])), (aM_length, .inl (cI, 3, .inl M_length)), (aM_stand, .inl (cI, 15, .inl M_stand)), (aM_many, .inl (cI, 3, .inl M_many))] s.heap.size = A at hD ⊢
  have hA : ∀ q : Nat, s.heap.size ≤ q → A q := fun q h => by rw [← hAe]; exact Or.inr h
  have hS : va_S A s.heap s.heap [] := va_S.rf
  refine (fun (hall : ∀ Q0 : State → Prop, (∀ (r : Int32) (v0 : Int32) (v1 : Nat → Int32) (v2 : Nat → Int32) (H : Heap) (locs : List Loc) (pc : Nat) (ls : Array Slot), post r v0 v1 v2 → decode cX7_park pc = .ok (.ireturn, 1) → va_P D vwCl [(aM, .inr (6, [.int M_units, .ref aM_kind, .ref aM_wash, .ref aM_fuel, .ref aM_isBroken, .ref aM_length, .int M_wanted, .ref aM_leaving, .int v0, .ref aM_stand, .ref aM_many, .ref aM_track, .ref aM_stack, .ref aM_depth, .ref aM_canBe, .int M_states, .ref aM_told, .ref aM_gone, .ref aM_cost, .ref aM_ways, .ref aM_places, .ref aM_now, .ref aM_high, .int M_runSize, .ref aM_run, .ref aM_runUnit, .ref aM_order, .ref aM_end, .ref aM_bestOrder, .ref aM_bestEnd])), (aM_length, .inl (cI, 3, .inl M_length)), (aM_stand, .inl (cI, 15, .inl v1)), (aM_many, .inl (cI, 3, .inl v2))] H → va_D A [(aM, .inr (6, [.int M_units, .ref aM_kind, .ref aM_wash, .ref aM_fuel, .ref aM_isBroken, .ref aM_length, .int M_wanted, .ref aM_leaving, .int v0, .ref aM_stand, .ref aM_many, .ref aM_track, .ref aM_stack, .ref aM_depth, .ref aM_canBe, .int M_states, .ref aM_told, .ref aM_gone, .ref aM_cost, .ref aM_ways, .ref aM_places, .ref aM_now, .ref aM_high, .int M_runSize, .ref aM_run, .ref aM_runUnit, .ref aM_order, .ref aM_end, .ref aM_bestOrder, .ref aM_bestEnd])), (aM_length, .inl (cI, 3, .inl M_length)), (aM_stand, .inl (cI, 15, .inl v1)), (aM_many, .inl (cI, 3, .inl v2))] → va_S A s.heap H locs → W p l e ({ frames := 2, cells := 0, slots := 0, locals := 42 } : Room) s m ([.ref aM, .int x1] : List Value).toArray below meth c H locs 0 0 Q0 (F0 m pc ls [.int r])) → W p l e ({ frames := 2, cells := 0, slots := 0, locals := 42 } : Room) s m ([.ref aM, .int x1] : List Value).toArray below meth c s.heap [] 0 0 Q0 (entryFrame m ([.ref aM, .int x1] : List Value).toArray 2)) => hall _ (fun r v0 v1 v2 H locs pc ls hw hd hP hD hS => W.iret (v := r) hx hb hr (fun t ht hW => ⟨⟨r, (v0, v1, v2), rfl, hw, by rw [ht]; exact hP, va_K.moved hW.alike hK, hD⟩, hS.F ht⟩) hS.2.2 hd)) ?_
  intro Q0 hret
  have hl := lv_entry ([.ref aM, .int x1]) (n := 2) (Nat.le_of_ble_eq_true rfl)
  rw [lg_entry_eq]
  generalize (lg_sl ([.ref aM, .int x1]) ++ List.replicate (2 - (lg_sl ([.ref aM, .int x1])).length) Slot.unset).toArray = ls at hl ⊢
  have hl : lv_has ls 2 [(0, .ref aM), (1, .int x1)] := hl
  have hinX7 : ∀ w ∈ u_ws RX7 TX7 30, w ∈ wsX7_park := by decide +kernel
  have hf23 := hts (.fieldLink RX7 23 "DepotNightModel" "length" "[I") (by decide +kernel)
  have hf29 := hts (.fieldLink RX7 29 "DepotNightModel" "stand" "[I") (by decide +kernel)
  have hf32 := hts (.fieldLink RX7 32 "DepotNightModel" "many" "[I") (by decide +kernel)
  have hf88 := hts (.fieldLink RX7 88 "DepotNightModel" "units" "I") (by decide +kernel)
  have hf128 := hts (.fieldLink RX7 128 "DepotNightModel" "parked" "I") (by decide +kernel)
  obtain ⟨H, hHe⟩ : ∃ H, H = s.heap := ⟨_, rfl⟩
  obtain ⟨locs, hLo⟩ : ∃ locs : List Loc, locs = [] := ⟨_, rfl⟩
  have hS : va_S A s.heap H locs := by rw [hHe, hLo]; exact hS
  have hP : va_P D vwCl [(aM, .inr (6, [.int M_units, .ref aM_kind, .ref aM_wash, .ref aM_fuel, .ref aM_isBroken, .ref aM_length, .int M_wanted, .ref aM_leaving, .int M_parked, .ref aM_stand, .ref aM_many, .ref aM_track, .ref aM_stack, .ref aM_depth, .ref aM_canBe, .int M_states, .ref aM_told, .ref aM_gone, .ref aM_cost, .ref aM_ways, .ref aM_places, .ref aM_now, .ref aM_high, .int M_runSize, .ref aM_run, .ref aM_runUnit, .ref aM_order, .ref aM_end, .ref aM_bestOrder, .ref aM_bestEnd])), (aM_length, .inl (cI, 3, .inl M_length)), (aM_stand, .inl (cI, 15, .inl M_stand)), (aM_many, .inl (cI, 3, .inl M_many))] H := by rw [hHe]; exact hP
  refine (fun (hgo : W p l e ({ frames := 2, cells := 0, slots := 0, locals := 42 } : Room) s m ([.ref aM, .int x1] : List Value).toArray below meth c H locs 0 0 Q0 (F0 m 0 ls [])) => by rw [hHe, hLo] at hgo; exact hgo) ?_
  refine lv_iload_n hx hb dX7_park_0 rfl (lv_at hl 1 rfl) ?_
  refine zSi (As := [.int x1]) (rest := []) (wc := []) (wr := [(aM, .inr (6, [.int M_units, .ref aM_kind, .ref aM_wash, .ref aM_fuel, .ref aM_isBroken, .ref aM_length, .int M_wanted, .ref aM_leaving, .int M_parked, .ref aM_stand, .ref aM_many, .ref aM_track, .ref aM_stack, .ref aM_depth, .ref aM_canBe, .int M_states, .ref aM_told, .ref aM_gone, .ref aM_cost, .ref aM_ways, .ref aM_places, .ref aM_now, .ref aM_high, .int M_runSize, .ref aM_run, .ref aM_runUnit, .ref aM_order, .ref aM_end, .ref aM_bestOrder, .ref aM_bestEnd])), (aM_length, .inl (cI, 3, .inl M_length)), (aM_stand, .inl (cI, 15, .inl M_stand)), (aM_many, .inl (cI, 3, .inl M_many))]) ⟨hx, hb, hml, hown, hts⟩ hK hP hD hS hA [] [0, 1, 2, 3] rfl rfl (by decide) (by decide) (by decide) (c_X7_isTrack l D cI cJ cZ H.size x1 _ hw) (va_cwS 1 hts gX7_park_X7_isTrack rfl rfl rfl (by decide +kernel) ⟨Nat.le_of_ble_eq_true rfl, Nat.le_of_ble_eq_true rfl⟩) rfl hl.1 (Nat.le_of_ble_eq_true rfl) dX7_park_1 ⟨(Nat.le_of_ble_eq_true rfl), (Nat.le_of_ble_eq_true rfl)⟩ rfl (fun r1 u H locs hw hP hD hS => ?_)
  try dsimp only at hw
  have hP : va_P D vwCl [(aM, .inr (6, [.int M_units, .ref aM_kind, .ref aM_wash, .ref aM_fuel, .ref aM_isBroken, .ref aM_length, .int M_wanted, .ref aM_leaving, .int M_parked, .ref aM_stand, .ref aM_many, .ref aM_track, .ref aM_stack, .ref aM_depth, .ref aM_canBe, .int M_states, .ref aM_told, .ref aM_gone, .ref aM_cost, .ref aM_ways, .ref aM_places, .ref aM_now, .ref aM_high, .int M_runSize, .ref aM_run, .ref aM_runUnit, .ref aM_order, .ref aM_end, .ref aM_bestOrder, .ref aM_bestEnd])), (aM_length, .inl (cI, 3, .inl M_length)), (aM_stand, .inl (cI, 15, .inl M_stand)), (aM_many, .inl (cI, 3, .inl M_many))] H := hP.sub [0, 1, 2, 3] rfl
  have hD : va_D A [(aM, .inr (6, [.int M_units, .ref aM_kind, .ref aM_wash, .ref aM_fuel, .ref aM_isBroken, .ref aM_length, .int M_wanted, .ref aM_leaving, .int M_parked, .ref aM_stand, .ref aM_many, .ref aM_track, .ref aM_stack, .ref aM_depth, .ref aM_canBe, .int M_states, .ref aM_told, .ref aM_gone, .ref aM_cost, .ref aM_ways, .ref aM_places, .ref aM_now, .ref aM_high, .int M_runSize, .ref aM_run, .ref aM_runUnit, .ref aM_order, .ref aM_end, .ref aM_bestOrder, .ref aM_bestEnd])), (aM_length, .inl (cI, 3, .inl M_length)), (aM_stand, .inl (cI, 15, .inl M_stand)), (aM_many, .inl (cI, 3, .inl M_many))] := hD.sub [0, 1, 2, 3] (by decide) rfl
  refine lv_if_ne (tgt := 10) hx hb dX7_park_4 (by decide) (fun hc2 => ?_) (fun hc2 => ?_)
  · have hw := hw.1 hc2
    refine lv_aload_n hx hb dX7_park_10 rfl (lv_at hl 0 rfl) ?_
    refine va_get (D := D) (ci := 6) (v := .int M_parked) (C := RX7) (T := TX7) (N := 30) hx hb hts hinX7 hown hK hP 0 rfl rfl 8 (by decide) hf128 (fun _ h9 => h9) rfl dX7_park_11 ?_
    refine lv_aload_n hx hb dX7_park_14 rfl (lv_at hl 0 rfl) ?_
    refine va_get (D := D) (ci := 6) (v := .int M_units) (C := RX7) (T := TX7) (N := 30) hx hb hts hinX7 hown hK hP 0 rfl rfl 0 (by decide) hf88 (fun _ h9 => h9) rfl dX7_park_15 ?_
    refine lv_icmp_ne (tgt := 24) hx hb dX7_park_18 (by decide) (fun hc3 => ?_) (fun hc3 => ?_)
    · have hw := hw.1 hc3
      refine lv_aload_n hx hb dX7_park_24 rfl (lv_at hl 0 rfl) ?_
      refine va_get (D := D) (ci := 6) (v := .ref aM_many) (C := RX7) (T := TX7) (N := 30) hx hb hts hinX7 hown hK hP 0 rfl rfl 10 (by decide) hf32 (fun _ h9 => h9) rfl dX7_park_25 ?_
      refine lv_iload_n hx hb dX7_park_28 rfl (lv_at hl 1 rfl) ?_
      obtain ⟨hb4, hw⟩ := hw
      refine va_iald hx hb hK hP 3 0 rfl rfl hb4 dX7_park_29 ?_
      refine lv_aload_n hx hb dX7_park_30 rfl (lv_at hl 0 rfl) ?_
      refine va_get (D := D) (ci := 6) (v := .ref aM_length) (C := RX7) (T := TX7) (N := 30) hx hb hts hinX7 hown hK hP 0 rfl rfl 5 (by decide) hf23 (fun _ h9 => h9) rfl dX7_park_31 ?_
      refine lv_iload_n hx hb dX7_park_34 rfl (lv_at hl 1 rfl) ?_
      obtain ⟨hb5, hw⟩ := hw
      refine va_iald hx hb hK hP 1 0 rfl rfl hb5 dX7_park_35 ?_
      refine lv_icmp_lt (tgt := 42) hx hb dX7_park_36 (by decide) (fun hc6 => ?_) (fun hc6 => ?_)
      · have hw := hw.1 hc6
        refine lv_aload_n hx hb dX7_park_42 rfl (lv_at hl 0 rfl) ?_
        refine va_get (D := D) (ci := 6) (v := .ref aM_stand) (C := RX7) (T := TX7) (N := 30) hx hb hts hinX7 hown hK hP 0 rfl rfl 9 (by decide) hf29 (fun _ h9 => h9) rfl dX7_park_43 ?_
        refine lv_iconst (v := 5) hx hb dX7_park_46 (by decide) ?_
        refine lv_iload_n hx hb dX7_park_47 rfl (lv_at hl 1 rfl) ?_
        refine lv_imul hx hb dX7_park_48 ?_
        refine lv_aload_n hx hb dX7_park_49 rfl (lv_at hl 0 rfl) ?_
        refine va_get (D := D) (ci := 6) (v := .ref aM_many) (C := RX7) (T := TX7) (N := 30) hx hb hts hinX7 hown hK hP 0 rfl rfl 10 (by decide) hf32 (fun _ h9 => h9) rfl dX7_park_50 ?_
        refine lv_iload_n hx hb dX7_park_53 rfl (lv_at hl 1 rfl) ?_
        obtain ⟨hb7, hw⟩ := hw
        refine va_iald hx hb hK hP 3 0 rfl rfl hb7 dX7_park_54 ?_
        refine lv_iadd hx hb dX7_park_55 ?_
        refine lv_aload_n hx hb dX7_park_56 rfl (lv_at hl 0 rfl) ?_
        refine va_get (D := D) (ci := 6) (v := .int M_parked) (C := RX7) (T := TX7) (N := 30) hx hb hts hinX7 hown hK hP 0 rfl rfl 8 (by decide) hf128 (fun _ h9 => h9) rfl dX7_park_57 ?_
        obtain ⟨hb8, hw⟩ := hw
        refine va_iast hx hb hK hP hD hS 2 0 rfl rfl hb8 dX7_park_60 (fun H locs hP hD hS => ?_)
        have hP : va_P D vwCl [(aM, .inr (6, [.int M_units, .ref aM_kind, .ref aM_wash, .ref aM_fuel, .ref aM_isBroken, .ref aM_length, .int M_wanted, .ref aM_leaving, .int M_parked, .ref aM_stand, .ref aM_many, .ref aM_track, .ref aM_stack, .ref aM_depth, .ref aM_canBe, .int M_states, .ref aM_told, .ref aM_gone, .ref aM_cost, .ref aM_ways, .ref aM_places, .ref aM_now, .ref aM_high, .int M_runSize, .ref aM_run, .ref aM_runUnit, .ref aM_order, .ref aM_end, .ref aM_bestOrder, .ref aM_bestEnd])), (aM_length, .inl (cI, 3, .inl M_length)), (aM_stand, .inl (cI, 15, .inl (upd M_stand (((5 : Int32) * x1) + (M_many x1.toNatClampNeg)).toNatClampNeg M_parked))), (aM_many, .inl (cI, 3, .inl M_many))] H := hP
        have hD : va_D A [(aM, .inr (6, [.int M_units, .ref aM_kind, .ref aM_wash, .ref aM_fuel, .ref aM_isBroken, .ref aM_length, .int M_wanted, .ref aM_leaving, .int M_parked, .ref aM_stand, .ref aM_many, .ref aM_track, .ref aM_stack, .ref aM_depth, .ref aM_canBe, .int M_states, .ref aM_told, .ref aM_gone, .ref aM_cost, .ref aM_ways, .ref aM_places, .ref aM_now, .ref aM_high, .int M_runSize, .ref aM_run, .ref aM_runUnit, .ref aM_order, .ref aM_end, .ref aM_bestOrder, .ref aM_bestEnd])), (aM_length, .inl (cI, 3, .inl M_length)), (aM_stand, .inl (cI, 15, .inl (upd M_stand (((5 : Int32) * x1) + (M_many x1.toNatClampNeg)).toNatClampNeg M_parked))), (aM_many, .inl (cI, 3, .inl M_many))] := hD
        refine lv_aload_n hx hb dX7_park_61 rfl (lv_at hl 0 rfl) ?_
        refine va_get (D := D) (ci := 6) (v := .ref aM_many) (C := RX7) (T := TX7) (N := 30) hx hb hts hinX7 hown hK hP 0 rfl rfl 10 (by decide) hf32 (fun _ h9 => h9) rfl dX7_park_62 ?_
        refine lv_iload_n hx hb dX7_park_65 rfl (lv_at hl 1 rfl) ?_
        refine lv_dup2_11 hx hb dX7_park_66 rfl rfl ?_
        obtain ⟨hb9, hw⟩ := hw
        refine va_iald hx hb hK hP 3 0 rfl rfl hb9 dX7_park_67 ?_
        refine lv_iconst (v := 1) hx hb dX7_park_68 (by decide) ?_
        refine lv_iadd hx hb dX7_park_69 ?_
        refine lv_topi (fun y11 ey11 => ?_)
        have hw := hw y11 ey11
        obtain ⟨hb10, hw⟩ := hw
        refine va_iast hx hb hK hP hD hS 3 0 rfl rfl hb10 dX7_park_70 (fun H locs hP hD hS => ?_)
        have hP : va_P D vwCl [(aM, .inr (6, [.int M_units, .ref aM_kind, .ref aM_wash, .ref aM_fuel, .ref aM_isBroken, .ref aM_length, .int M_wanted, .ref aM_leaving, .int M_parked, .ref aM_stand, .ref aM_many, .ref aM_track, .ref aM_stack, .ref aM_depth, .ref aM_canBe, .int M_states, .ref aM_told, .ref aM_gone, .ref aM_cost, .ref aM_ways, .ref aM_places, .ref aM_now, .ref aM_high, .int M_runSize, .ref aM_run, .ref aM_runUnit, .ref aM_order, .ref aM_end, .ref aM_bestOrder, .ref aM_bestEnd])), (aM_length, .inl (cI, 3, .inl M_length)), (aM_stand, .inl (cI, 15, .inl (upd M_stand (((5 : Int32) * x1) + (M_many x1.toNatClampNeg)).toNatClampNeg M_parked))), (aM_many, .inl (cI, 3, .inl (upd M_many x1.toNatClampNeg y11)))] H := hP
        have hD : va_D A [(aM, .inr (6, [.int M_units, .ref aM_kind, .ref aM_wash, .ref aM_fuel, .ref aM_isBroken, .ref aM_length, .int M_wanted, .ref aM_leaving, .int M_parked, .ref aM_stand, .ref aM_many, .ref aM_track, .ref aM_stack, .ref aM_depth, .ref aM_canBe, .int M_states, .ref aM_told, .ref aM_gone, .ref aM_cost, .ref aM_ways, .ref aM_places, .ref aM_now, .ref aM_high, .int M_runSize, .ref aM_run, .ref aM_runUnit, .ref aM_order, .ref aM_end, .ref aM_bestOrder, .ref aM_bestEnd])), (aM_length, .inl (cI, 3, .inl M_length)), (aM_stand, .inl (cI, 15, .inl (upd M_stand (((5 : Int32) * x1) + (M_many x1.toNatClampNeg)).toNatClampNeg M_parked))), (aM_many, .inl (cI, 3, .inl (upd M_many x1.toNatClampNeg y11)))] := hD
        refine lv_aload_n hx hb dX7_park_71 rfl (lv_at hl 0 rfl) ?_
        refine lv_dup hx hb dX7_park_72 rfl ?_
        refine va_get (D := D) (ci := 6) (v := .int M_parked) (C := RX7) (T := TX7) (N := 30) hx hb hts hinX7 hown hK hP 0 rfl rfl 8 (by decide) hf128 (fun _ h9 => h9) rfl dX7_park_73 ?_
        refine lv_iconst (v := 1) hx hb dX7_park_76 (by decide) ?_
        refine lv_iadd hx hb dX7_park_77 ?_
        refine lv_topi (fun y12 ey12 => ?_)
        have hw := hw y12 ey12
        refine va_put (D := D) (ci := 6) (v := .int y12) (ty := .int) (C := RX7) (T := TX7) (N := 30) hx hb hts hinX7 tyX7 tyX7_ok nmX7 hown hK hP hD hS 0 rfl rfl 8 (by decide) hf128 (fun _ h9 => h9) rfl (by decide +kernel) rfl rfl (Nat.le_of_ble_eq_true rfl) dX7_park_78 (fun H locs hP hD hS => ?_)
        have hP : va_P D vwCl [(aM, .inr (6, [.int M_units, .ref aM_kind, .ref aM_wash, .ref aM_fuel, .ref aM_isBroken, .ref aM_length, .int M_wanted, .ref aM_leaving, .int y12, .ref aM_stand, .ref aM_many, .ref aM_track, .ref aM_stack, .ref aM_depth, .ref aM_canBe, .int M_states, .ref aM_told, .ref aM_gone, .ref aM_cost, .ref aM_ways, .ref aM_places, .ref aM_now, .ref aM_high, .int M_runSize, .ref aM_run, .ref aM_runUnit, .ref aM_order, .ref aM_end, .ref aM_bestOrder, .ref aM_bestEnd])), (aM_length, .inl (cI, 3, .inl M_length)), (aM_stand, .inl (cI, 15, .inl (upd M_stand (((5 : Int32) * x1) + (M_many x1.toNatClampNeg)).toNatClampNeg M_parked))), (aM_many, .inl (cI, 3, .inl (upd M_many x1.toNatClampNeg y11)))] H := hP
        have hD : va_D A [(aM, .inr (6, [.int M_units, .ref aM_kind, .ref aM_wash, .ref aM_fuel, .ref aM_isBroken, .ref aM_length, .int M_wanted, .ref aM_leaving, .int y12, .ref aM_stand, .ref aM_many, .ref aM_track, .ref aM_stack, .ref aM_depth, .ref aM_canBe, .int M_states, .ref aM_told, .ref aM_gone, .ref aM_cost, .ref aM_ways, .ref aM_places, .ref aM_now, .ref aM_high, .int M_runSize, .ref aM_run, .ref aM_runUnit, .ref aM_order, .ref aM_end, .ref aM_bestOrder, .ref aM_bestEnd])), (aM_length, .inl (cI, 3, .inl M_length)), (aM_stand, .inl (cI, 15, .inl (upd M_stand (((5 : Int32) * x1) + (M_many x1.toNatClampNeg)).toNatClampNeg M_parked))), (aM_many, .inl (cI, 3, .inl (upd M_many x1.toNatClampNeg y11)))] := hD
        refine lv_aload_n hx hb dX7_park_81 rfl (lv_at hl 0 rfl) ?_
        refine va_get (D := D) (ci := 6) (v := .int y12) (C := RX7) (T := TX7) (N := 30) hx hb hts hinX7 hown hK hP 0 rfl rfl 8 (by decide) hf128 (fun _ h9 => h9) rfl dX7_park_82 ?_
        refine lv_iconst (v := 1) hx hb dX7_park_85 (by decide) ?_
        refine lv_isub hx hb dX7_park_86 ?_
        exact hret (y12 - 1) y12 (upd M_stand (((5 : Int32) * x1) + (M_many x1.toNatClampNeg)).toNatClampNeg M_parked) (upd M_many x1.toNatClampNeg y11) H locs 87 ls hw dX7_park_87 hP hD hS 
      · have hw := hw.2 hc6
        refine lv_bipush (v := (-5)) hx hb dX7_park_39 (by decide) ?_
        exact hret (-5) M_parked M_stand M_many H locs 41 ls hw dX7_park_41 hP hD hS 
    · have hw := hw.2 hc3
      refine lv_bipush (v := (-4)) hx hb dX7_park_21 (by decide) ?_
      exact hret (-4) M_parked M_stand M_many H locs 23 ls hw dX7_park_23 hP hD hS 
  · have hw := hw.2 hc2
    refine lv_bipush (v := (-2)) hx hb dX7_park_7 (by decide) ?_
    exact hret (-2) M_parked M_stand M_many H locs 9 ls hw dX7_park_9 hP hD hS 
/-! X7_clear -/
def Y_X7_clear_12 (post : Int32 → Int32 → (Nat → Int32) → Prop) (x1 : Int32) (M_parked : Int32) (K12 : Int32 → (Nat → Int32) → Prop) (x2 : Int32) (M_many : Nat → Int32) : Prop :=
  ((3 ≤ x2 → post x1 M_parked M_many) ∧ (¬ 3 ≤ x2 → vp_in x2 3 ∧ (K12 (x2 + 1) (upd M_many x2.toNatClampNeg (0 : Int32)))))
def Z_X7_clear_12 (post : Int32 → Int32 → (Nat → Int32) → Prop) (x1 : Int32) (M_parked : Int32) : Nat → Int32 → (Nat → Int32) → Prop
  | 0 => fun _ _ => False
  | n + 1 => Y_X7_clear_12 post x1 M_parked (Z_X7_clear_12 post x1 M_parked n)
def wp_X7_clear (M_parked : Int32) (M_many : Nat → Int32) (post : Int32 → Int32 → (Nat → Int32) → Prop) : Prop :=
  ∃ n, Z_X7_clear_12 post M_parked 0 n 0 M_many
set_option maxHeartbeats 4000000 in
set_option maxRecDepth 100000 in
theorem c_X7_clear (l : Launch) (D : va_G) (cI cJ cZ : ClassId) (aM aM_kind aM_wash aM_fuel aM_isBroken aM_length aM_leaving aM_stand aM_many aM_track aM_stack aM_depth aM_canBe aM_told aM_gone aM_cost aM_ways aM_places aM_now aM_high aM_run aM_runUnit aM_order aM_end aM_bestOrder aM_bestEnd : Nat) (sz : Nat) (M_units : Int32) (M_wanted : Int32) (M_parked : Int32) (M_states : Int32) (M_runSize : Int32) (M_many : Nat → Int32) (post : Int32 → Int32 → (Nat → Int32) → Prop) (hw : wp_X7_clear M_parked M_many post) : Met l yX7_clear wsX7_clear ({ frames := 0, cells := 0, slots := 0, locals := 0 } : Room) (va_Pc [.ref aM] (zPre D cI cJ cZ [(aM, .inr (6, [.int M_units, .ref aM_kind, .ref aM_wash, .ref aM_fuel, .ref aM_isBroken, .ref aM_length, .int M_wanted, .ref aM_leaving, .int M_parked, .ref aM_stand, .ref aM_many, .ref aM_track, .ref aM_stack, .ref aM_depth, .ref aM_canBe, .int M_states, .ref aM_told, .ref aM_gone, .ref aM_cost, .ref aM_ways, .ref aM_places, .ref aM_now, .ref aM_high, .int M_runSize, .ref aM_run, .ref aM_runUnit, .ref aM_order, .ref aM_end, .ref aM_bestOrder, .ref aM_bestEnd])), (aM_many, .inl (cI, 3, .inl M_many))] sz)) (va_Qi (fun (r : Int32) (u : (Int32) × (Nat → Int32)) => post r u.1 u.2) (zPost D cI cJ cZ (va_A [(aM, .inr (6, [.int M_units, .ref aM_kind, .ref aM_wash, .ref aM_fuel, .ref aM_isBroken, .ref aM_length, .int M_wanted, .ref aM_leaving, .int M_parked, .ref aM_stand, .ref aM_many, .ref aM_track, .ref aM_stack, .ref aM_depth, .ref aM_canBe, .int M_states, .ref aM_told, .ref aM_gone, .ref aM_cost, .ref aM_ways, .ref aM_places, .ref aM_now, .ref aM_high, .int M_runSize, .ref aM_run, .ref aM_runUnit, .ref aM_order, .ref aM_end, .ref aM_bestOrder, .ref aM_bestEnd])), (aM_many, .inl (cI, 3, .inl M_many))] sz) (fun u : (Int32) × (Nat → Int32) => [(aM, .inr (6, [.int M_units, .ref aM_kind, .ref aM_wash, .ref aM_fuel, .ref aM_isBroken, .ref aM_length, .int M_wanted, .ref aM_leaving, .int u.1, .ref aM_stand, .ref aM_many, .ref aM_track, .ref aM_stack, .ref aM_depth, .ref aM_canBe, .int M_states, .ref aM_told, .ref aM_gone, .ref aM_cost, .ref aM_ways, .ref aM_places, .ref aM_now, .ref aM_high, .int M_runSize, .ref aM_run, .ref aM_runUnit, .ref aM_order, .ref aM_end, .ref aM_bestOrder, .ref aM_bestEnd])), (aM_many, .inl (cI, 3, .inl u.2))])) (va_A [(aM, .inr (6, [.int M_units, .ref aM_kind, .ref aM_wash, .ref aM_fuel, .ref aM_isBroken, .ref aM_length, .int M_wanted, .ref aM_leaving, .int M_parked, .ref aM_stand, .ref aM_many, .ref aM_track, .ref aM_stack, .ref aM_depth, .ref aM_canBe, .int M_states, .ref aM_told, .ref aM_gone, .ref aM_cost, .ref aM_ways, .ref aM_places, .ref aM_now, .ref aM_high, .int M_runSize, .ref aM_run, .ref aM_runUnit, .ref aM_order, .ref aM_end, .ref aM_bestOrder, .ref aM_bestEnd])), (aM_many, .inl (cI, 3, .inl M_many))] sz)) 0 0 (va_A [(aM, .inr (6, [.int M_units, .ref aM_kind, .ref aM_wash, .ref aM_fuel, .ref aM_isBroken, .ref aM_length, .int M_wanted, .ref aM_leaving, .int M_parked, .ref aM_stand, .ref aM_many, .ref aM_track, .ref aM_stack, .ref aM_depth, .ref aM_canBe, .int M_states, .ref aM_told, .ref aM_gone, .ref aM_cost, .ref aM_ways, .ref aM_places, .ref aM_now, .ref aM_high, .int M_runSize, .ref aM_run, .ref aM_runUnit, .ref aM_order, .ref aM_end, .ref aM_bestOrder, .ref aM_bestEnd])), (aM_many, .inl (cI, 3, .inl M_many))] sz) := by
  unfold wp_X7_clear at hw
  refine Met.ofW (cc := cX7_clear) (maxL := 3) (ret := some .int) (by decide) rfl ?_
  intro p e s m args below meth c s₁ B hml hv
  obtain ⟨rfl, hsz, hP, hK, hD0⟩ := hv
  have hx := B.exec
  have hb := B.bytes
  have hr := B.returns
  have hts := atoms_spec (ws := wsX7_clear) B.pre
  have hown : s.vm.findClass RX7 = some m.cls := findClass_of_methodNamed B.named
  have hlocks := B.notSynchronized
  subst hsz
  have hD := hD0.self (sz := s.heap.size)
  generalize hAe : va_A [(aM, .inr (6, [.int M_units, .ref aM_kind, .ref aM_wash, .ref aM_fuel, .ref aM_isBroken, .ref aM_length, .int M_wanted, .ref aM_leaving, .int M_parked, .ref aM_stand, .ref aM_many, .ref aM_track, .ref aM_stack, .ref aM_depth, .ref aM_canBe, .int M_states, .ref aM_told, .ref aM_gone, .ref aM_cost, .ref aM_ways, .ref aM_places, .ref aM_now, .ref aM_high, .int M_runSize, .ref aM_run, .ref aM_runUnit, .ref aM_order, .ref aM_end, .ref aM_bestOrder, .ref aM_bestEnd])), (aM_many, .inl (cI, 3, .inl M_many))] s.heap.size = A at hD ⊢
  have hA : ∀ q : Nat, s.heap.size ≤ q → A q := fun q h => by rw [← hAe]; exact Or.inr h
  have hS : va_S A s.heap s.heap [] := va_S.rf
  refine (fun (hall : ∀ Q0 : State → Prop, (∀ (r : Int32) (v0 : Int32) (v1 : Nat → Int32) (H : Heap) (locs : List Loc) (pc : Nat) (ls : Array Slot), post r v0 v1 → decode cX7_clear pc = .ok (.ireturn, 1) → va_P D vwCl [(aM, .inr (6, [.int M_units, .ref aM_kind, .ref aM_wash, .ref aM_fuel, .ref aM_isBroken, .ref aM_length, .int M_wanted, .ref aM_leaving, .int v0, .ref aM_stand, .ref aM_many, .ref aM_track, .ref aM_stack, .ref aM_depth, .ref aM_canBe, .int M_states, .ref aM_told, .ref aM_gone, .ref aM_cost, .ref aM_ways, .ref aM_places, .ref aM_now, .ref aM_high, .int M_runSize, .ref aM_run, .ref aM_runUnit, .ref aM_order, .ref aM_end, .ref aM_bestOrder, .ref aM_bestEnd])), (aM_many, .inl (cI, 3, .inl v1))] H → va_D A [(aM, .inr (6, [.int M_units, .ref aM_kind, .ref aM_wash, .ref aM_fuel, .ref aM_isBroken, .ref aM_length, .int M_wanted, .ref aM_leaving, .int v0, .ref aM_stand, .ref aM_many, .ref aM_track, .ref aM_stack, .ref aM_depth, .ref aM_canBe, .int M_states, .ref aM_told, .ref aM_gone, .ref aM_cost, .ref aM_ways, .ref aM_places, .ref aM_now, .ref aM_high, .int M_runSize, .ref aM_run, .ref aM_runUnit, .ref aM_order, .ref aM_end, .ref aM_bestOrder, .ref aM_bestEnd])), (aM_many, .inl (cI, 3, .inl v1))] → va_S A s.heap H locs → W p l e ({ frames := 0, cells := 0, slots := 0, locals := 0 } : Room) s m ([.ref aM] : List Value).toArray below meth c H locs 0 0 Q0 (F0 m pc ls [.int r])) → W p l e ({ frames := 0, cells := 0, slots := 0, locals := 0 } : Room) s m ([.ref aM] : List Value).toArray below meth c s.heap [] 0 0 Q0 (entryFrame m ([.ref aM] : List Value).toArray 3)) => hall _ (fun r v0 v1 H locs pc ls hw hd hP hD hS => W.iret (v := r) hx hb hr (fun t ht hW => ⟨⟨r, (v0, v1), rfl, hw, by rw [ht]; exact hP, va_K.moved hW.alike hK, hD⟩, hS.F ht⟩) hS.2.2 hd)) ?_
  intro Q0 hret
  have hl := lv_entry ([.ref aM]) (n := 3) (Nat.le_of_ble_eq_true rfl)
  rw [lg_entry_eq]
  generalize (lg_sl ([.ref aM]) ++ List.replicate (3 - (lg_sl ([.ref aM])).length) Slot.unset).toArray = ls at hl ⊢
  have hl : lv_has ls 3 [(0, .ref aM)] := hl
  have hinX7 : ∀ w ∈ u_ws RX7 TX7 30, w ∈ wsX7_clear := by decide +kernel
  have hf32 := hts (.fieldLink RX7 32 "DepotNightModel" "many" "[I") (by decide +kernel)
  have hf128 := hts (.fieldLink RX7 128 "DepotNightModel" "parked" "I") (by decide +kernel)
  have wZ_X7_clear_12 : ∀ (x1 : Int32) (M_parked : Int32), ∀ (n : Nat) (x2 : Int32) (M_many : Nat → Int32), Z_X7_clear_12 post x1 M_parked n x2 M_many → ∀ (H : Heap) (locs : List Loc) (ls : Array Slot), va_P D vwCl [(aM, .inr (6, [.int M_units, .ref aM_kind, .ref aM_wash, .ref aM_fuel, .ref aM_isBroken, .ref aM_length, .int M_wanted, .ref aM_leaving, .int M_parked, .ref aM_stand, .ref aM_many, .ref aM_track, .ref aM_stack, .ref aM_depth, .ref aM_canBe, .int M_states, .ref aM_told, .ref aM_gone, .ref aM_cost, .ref aM_ways, .ref aM_places, .ref aM_now, .ref aM_high, .int M_runSize, .ref aM_run, .ref aM_runUnit, .ref aM_order, .ref aM_end, .ref aM_bestOrder, .ref aM_bestEnd])), (aM_many, .inl (cI, 3, .inl M_many))] H → va_D A [(aM, .inr (6, [.int M_units, .ref aM_kind, .ref aM_wash, .ref aM_fuel, .ref aM_isBroken, .ref aM_length, .int M_wanted, .ref aM_leaving, .int M_parked, .ref aM_stand, .ref aM_many, .ref aM_track, .ref aM_stack, .ref aM_depth, .ref aM_canBe, .int M_states, .ref aM_told, .ref aM_gone, .ref aM_cost, .ref aM_ways, .ref aM_places, .ref aM_now, .ref aM_high, .int M_runSize, .ref aM_run, .ref aM_runUnit, .ref aM_order, .ref aM_end, .ref aM_bestOrder, .ref aM_bestEnd])), (aM_many, .inl (cI, 3, .inl M_many))] → va_S A s.heap H locs → lv_has ls 3 [(0, .ref aM), (1, .int x1), (2, .int x2)] → W p l e ({ frames := 0, cells := 0, slots := 0, locals := 0 } : Room) s m ([.ref aM] : List Value).toArray below meth c H locs 0 0 Q0 (F0 m 12 ls []) := by
    intro x1 M_parked n
    induction n with
    | zero =>
      intro x2 M_many hw
      exact (show False from hw).elim
    | succ n hK12 =>
      intro x2 M_many hw H locs ls hP hD hS hl
      have hw : Y_X7_clear_12 post x1 M_parked (Z_X7_clear_12 post x1 M_parked n) x2 M_many := hw
      unfold Y_X7_clear_12 at hw
      refine lv_iload_n hx hb dX7_clear_12 rfl (lv_at hl 2 rfl) ?_
      refine lv_iconst (v := 3) hx hb dX7_clear_13 (by decide) ?_
      refine lv_icmp_ge (tgt := 30) hx hb dX7_clear_14 (by decide) (fun hc1 => ?_) (fun hc1 => ?_)
      · have hw := hw.1 hc1
        refine lv_iload_n hx hb dX7_clear_30 rfl (lv_at hl 1 rfl) ?_
        exact hret x1 M_parked M_many H locs 31 ls hw dX7_clear_31 hP hD hS 
      · have hw := hw.2 hc1
        refine lv_aload_n hx hb dX7_clear_17 rfl (lv_at hl 0 rfl) ?_
        refine va_get (D := D) (ci := 6) (v := .ref aM_many) (C := RX7) (T := TX7) (N := 30) hx hb hts hinX7 hown hK hP 0 rfl rfl 10 (by decide) hf32 (fun _ h9 => h9) rfl dX7_clear_18 ?_
        refine lv_iload_n hx hb dX7_clear_21 rfl (lv_at hl 2 rfl) ?_
        refine lv_iconst (v := 0) hx hb dX7_clear_22 (by decide) ?_
        obtain ⟨hb2, hw⟩ := hw
        refine va_iast hx hb hK hP hD hS 1 0 rfl rfl hb2 dX7_clear_23 (fun H locs hP hD hS => ?_)
        have hP : va_P D vwCl [(aM, .inr (6, [.int M_units, .ref aM_kind, .ref aM_wash, .ref aM_fuel, .ref aM_isBroken, .ref aM_length, .int M_wanted, .ref aM_leaving, .int M_parked, .ref aM_stand, .ref aM_many, .ref aM_track, .ref aM_stack, .ref aM_depth, .ref aM_canBe, .int M_states, .ref aM_told, .ref aM_gone, .ref aM_cost, .ref aM_ways, .ref aM_places, .ref aM_now, .ref aM_high, .int M_runSize, .ref aM_run, .ref aM_runUnit, .ref aM_order, .ref aM_end, .ref aM_bestOrder, .ref aM_bestEnd])), (aM_many, .inl (cI, 3, .inl (upd M_many x2.toNatClampNeg (0 : Int32))))] H := hP
        have hD : va_D A [(aM, .inr (6, [.int M_units, .ref aM_kind, .ref aM_wash, .ref aM_fuel, .ref aM_isBroken, .ref aM_length, .int M_wanted, .ref aM_leaving, .int M_parked, .ref aM_stand, .ref aM_many, .ref aM_track, .ref aM_stack, .ref aM_depth, .ref aM_canBe, .int M_states, .ref aM_told, .ref aM_gone, .ref aM_cost, .ref aM_ways, .ref aM_places, .ref aM_now, .ref aM_high, .int M_runSize, .ref aM_run, .ref aM_runUnit, .ref aM_order, .ref aM_end, .ref aM_bestOrder, .ref aM_bestEnd])), (aM_many, .inl (cI, 3, .inl (upd M_many x2.toNatClampNeg (0 : Int32))))] := hD
        refine lv_iinc (v := (x2 + 1)) (lv' := [(2, .int (x2 + 1)), (0, .ref aM), (1, .int x1)]) hx hb dX7_clear_24 hl (k := 2) rfl rfl (by decide) rfl (fun ls hl => ?_)
        refine lv_goto (tgt := 12) hx hb dX7_clear_27 (by decide) ?_
        exact hK12 (x2 + 1) (upd M_many x2.toNatClampNeg (0 : Int32)) hw H locs ls hP hD hS (lv_sub hl [1, 2, 0] rfl)
  obtain ⟨H, hHe⟩ : ∃ H, H = s.heap := ⟨_, rfl⟩
  obtain ⟨locs, hLo⟩ : ∃ locs : List Loc, locs = [] := ⟨_, rfl⟩
  have hS : va_S A s.heap H locs := by rw [hHe, hLo]; exact hS
  have hP : va_P D vwCl [(aM, .inr (6, [.int M_units, .ref aM_kind, .ref aM_wash, .ref aM_fuel, .ref aM_isBroken, .ref aM_length, .int M_wanted, .ref aM_leaving, .int M_parked, .ref aM_stand, .ref aM_many, .ref aM_track, .ref aM_stack, .ref aM_depth, .ref aM_canBe, .int M_states, .ref aM_told, .ref aM_gone, .ref aM_cost, .ref aM_ways, .ref aM_places, .ref aM_now, .ref aM_high, .int M_runSize, .ref aM_run, .ref aM_runUnit, .ref aM_order, .ref aM_end, .ref aM_bestOrder, .ref aM_bestEnd])), (aM_many, .inl (cI, 3, .inl M_many))] H := by rw [hHe]; exact hP
  refine (fun (hgo : W p l e ({ frames := 0, cells := 0, slots := 0, locals := 0 } : Room) s m ([.ref aM] : List Value).toArray below meth c H locs 0 0 Q0 (F0 m 0 ls [])) => by rw [hHe, hLo] at hgo; exact hgo) ?_
  refine lv_aload_n hx hb dX7_clear_0 rfl (lv_at hl 0 rfl) ?_
  refine va_get (D := D) (ci := 6) (v := .int M_parked) (C := RX7) (T := TX7) (N := 30) hx hb hts hinX7 hown hK hP 0 rfl rfl 8 (by decide) hf128 (fun _ h9 => h9) rfl dX7_clear_1 ?_
  refine lv_istore_n (lv' := [(1, .int M_parked), (0, .ref aM)]) hx hb dX7_clear_4 rfl hl (by decide) rfl (fun ls hl => ?_)
  refine lv_aload_n hx hb dX7_clear_5 rfl (lv_at hl 1 rfl) ?_
  refine lv_iconst (v := 0) hx hb dX7_clear_6 (by decide) ?_
  refine va_put (D := D) (ci := 6) (v := .int 0) (ty := .int) (C := RX7) (T := TX7) (N := 30) hx hb hts hinX7 tyX7 tyX7_ok nmX7 hown hK hP hD hS 0 rfl rfl 8 (by decide) hf128 (fun _ h9 => h9) rfl (by decide +kernel) rfl rfl (Nat.le_of_ble_eq_true rfl) dX7_clear_7 (fun H locs hP hD hS => ?_)
  have hP : va_P D vwCl [(aM, .inr (6, [.int M_units, .ref aM_kind, .ref aM_wash, .ref aM_fuel, .ref aM_isBroken, .ref aM_length, .int M_wanted, .ref aM_leaving, .int 0, .ref aM_stand, .ref aM_many, .ref aM_track, .ref aM_stack, .ref aM_depth, .ref aM_canBe, .int M_states, .ref aM_told, .ref aM_gone, .ref aM_cost, .ref aM_ways, .ref aM_places, .ref aM_now, .ref aM_high, .int M_runSize, .ref aM_run, .ref aM_runUnit, .ref aM_order, .ref aM_end, .ref aM_bestOrder, .ref aM_bestEnd])), (aM_many, .inl (cI, 3, .inl M_many))] H := hP
  have hD : va_D A [(aM, .inr (6, [.int M_units, .ref aM_kind, .ref aM_wash, .ref aM_fuel, .ref aM_isBroken, .ref aM_length, .int M_wanted, .ref aM_leaving, .int 0, .ref aM_stand, .ref aM_many, .ref aM_track, .ref aM_stack, .ref aM_depth, .ref aM_canBe, .int M_states, .ref aM_told, .ref aM_gone, .ref aM_cost, .ref aM_ways, .ref aM_places, .ref aM_now, .ref aM_high, .int M_runSize, .ref aM_run, .ref aM_runUnit, .ref aM_order, .ref aM_end, .ref aM_bestOrder, .ref aM_bestEnd])), (aM_many, .inl (cI, 3, .inl M_many))] := hD
  refine lv_iconst (v := 0) hx hb dX7_clear_10 (by decide) ?_
  refine lv_istore_n (lv' := [(2, .int 0), (1, .int M_parked), (0, .ref aM)]) hx hb dX7_clear_11 rfl hl (by decide) rfl (fun ls hl => ?_)
  obtain ⟨n3, hw⟩ := hw
  exact wZ_X7_clear_12 M_parked 0 n3 0 M_many hw H locs ls hP hD hS (lv_sub hl [2, 1, 0] rfl)
/-! X7_count -/
def Y_X7_count_49 (M_units : Int32) (M_isBroken : Nat → Int32) (M_wanted : Int32) (M_parked : Int32) (x1 : Int32) (post : Int32 → Prop) (K49 : Int32 → Int32 → Prop) (x2 : Int32) (x3 : Int32) : Prop :=
  ((M_units ≤ x3 → post x2 ) ∧ (¬ M_units ≤ x3 → vp_in x3 5 ∧ ((((M_isBroken x3.toNatClampNeg) = 0 → ∀ y4 : Int32, y4 = (x2 + 0) → (K49 y4 (x3 + 1))) ∧ (¬ (M_isBroken x3.toNatClampNeg) = 0 → ∀ y5 : Int32, y5 = (x2 + 1) → (K49 y5 (x3 + 1)))))))
def Z_X7_count_49 (M_units : Int32) (M_isBroken : Nat → Int32) (M_wanted : Int32) (M_parked : Int32) (x1 : Int32) (post : Int32 → Prop) : Nat → Int32 → Int32 → Prop
  | 0 => fun _ _ => False
  | n + 1 => Y_X7_count_49 M_units M_isBroken M_wanted M_parked x1 post (Z_X7_count_49 M_units M_isBroken M_wanted M_parked x1 post n)
def wp_X7_count (M_units : Int32) (M_isBroken : Nat → Int32) (M_wanted : Int32) (M_parked : Int32) (x1 : Int32) (post : Int32 → Prop) : Prop :=
  ((x1 = 0 → post M_units ) ∧ (x1 = 1 → post M_wanted ) ∧ (x1 = 2 → post M_parked ) ∧ (x1 = 3 → ∃ n, Z_X7_count_49 M_units M_isBroken M_wanted M_parked x1 post n 0 0) ∧ (¬ x1 = 0 → ¬ x1 = 1 → ¬ x1 = 2 → ¬ x1 = 3 → post (-3) ))
set_option maxHeartbeats 4000000 in
set_option maxRecDepth 100000 in
theorem c_X7_count (l : Launch) (D : va_G) (cI cJ cZ : ClassId) (aM aM_kind aM_wash aM_fuel aM_isBroken aM_length aM_leaving aM_stand aM_many aM_track aM_stack aM_depth aM_canBe aM_told aM_gone aM_cost aM_ways aM_places aM_now aM_high aM_run aM_runUnit aM_order aM_end aM_bestOrder aM_bestEnd : Nat) (sz : Nat) (M_units : Int32) (M_wanted : Int32) (M_parked : Int32) (M_states : Int32) (M_runSize : Int32) (M_isBroken : Nat → Int32) (x1 : Int32) (post : Int32 → Prop) (hw : wp_X7_count M_units M_isBroken M_wanted M_parked x1 post) : Met l yX7_count wsX7_count ({ frames := 0, cells := 0, slots := 0, locals := 0 } : Room) (va_Pc [.ref aM, .int x1] (zPre D cI cJ cZ [(aM, .inr (6, [.int M_units, .ref aM_kind, .ref aM_wash, .ref aM_fuel, .ref aM_isBroken, .ref aM_length, .int M_wanted, .ref aM_leaving, .int M_parked, .ref aM_stand, .ref aM_many, .ref aM_track, .ref aM_stack, .ref aM_depth, .ref aM_canBe, .int M_states, .ref aM_told, .ref aM_gone, .ref aM_cost, .ref aM_ways, .ref aM_places, .ref aM_now, .ref aM_high, .int M_runSize, .ref aM_run, .ref aM_runUnit, .ref aM_order, .ref aM_end, .ref aM_bestOrder, .ref aM_bestEnd])), (aM_isBroken, .inl (cZ, 5, .inl M_isBroken))] sz)) (va_Qi (fun (r : Int32) (u : Unit) => post r) (zPost D cI cJ cZ (va_A [(aM, .inr (6, [.int M_units, .ref aM_kind, .ref aM_wash, .ref aM_fuel, .ref aM_isBroken, .ref aM_length, .int M_wanted, .ref aM_leaving, .int M_parked, .ref aM_stand, .ref aM_many, .ref aM_track, .ref aM_stack, .ref aM_depth, .ref aM_canBe, .int M_states, .ref aM_told, .ref aM_gone, .ref aM_cost, .ref aM_ways, .ref aM_places, .ref aM_now, .ref aM_high, .int M_runSize, .ref aM_run, .ref aM_runUnit, .ref aM_order, .ref aM_end, .ref aM_bestOrder, .ref aM_bestEnd])), (aM_isBroken, .inl (cZ, 5, .inl M_isBroken))] sz) (fun u : Unit => [(aM, .inr (6, [.int M_units, .ref aM_kind, .ref aM_wash, .ref aM_fuel, .ref aM_isBroken, .ref aM_length, .int M_wanted, .ref aM_leaving, .int M_parked, .ref aM_stand, .ref aM_many, .ref aM_track, .ref aM_stack, .ref aM_depth, .ref aM_canBe, .int M_states, .ref aM_told, .ref aM_gone, .ref aM_cost, .ref aM_ways, .ref aM_places, .ref aM_now, .ref aM_high, .int M_runSize, .ref aM_run, .ref aM_runUnit, .ref aM_order, .ref aM_end, .ref aM_bestOrder, .ref aM_bestEnd])), (aM_isBroken, .inl (cZ, 5, .inl M_isBroken))])) (va_A [(aM, .inr (6, [.int M_units, .ref aM_kind, .ref aM_wash, .ref aM_fuel, .ref aM_isBroken, .ref aM_length, .int M_wanted, .ref aM_leaving, .int M_parked, .ref aM_stand, .ref aM_many, .ref aM_track, .ref aM_stack, .ref aM_depth, .ref aM_canBe, .int M_states, .ref aM_told, .ref aM_gone, .ref aM_cost, .ref aM_ways, .ref aM_places, .ref aM_now, .ref aM_high, .int M_runSize, .ref aM_run, .ref aM_runUnit, .ref aM_order, .ref aM_end, .ref aM_bestOrder, .ref aM_bestEnd])), (aM_isBroken, .inl (cZ, 5, .inl M_isBroken))] sz)) 0 0 (va_A [(aM, .inr (6, [.int M_units, .ref aM_kind, .ref aM_wash, .ref aM_fuel, .ref aM_isBroken, .ref aM_length, .int M_wanted, .ref aM_leaving, .int M_parked, .ref aM_stand, .ref aM_many, .ref aM_track, .ref aM_stack, .ref aM_depth, .ref aM_canBe, .int M_states, .ref aM_told, .ref aM_gone, .ref aM_cost, .ref aM_ways, .ref aM_places, .ref aM_now, .ref aM_high, .int M_runSize, .ref aM_run, .ref aM_runUnit, .ref aM_order, .ref aM_end, .ref aM_bestOrder, .ref aM_bestEnd])), (aM_isBroken, .inl (cZ, 5, .inl M_isBroken))] sz) := by
  unfold wp_X7_count at hw
  refine Met.ofW (cc := cX7_count) (maxL := 4) (ret := some .int) (by decide) rfl ?_
  intro p e s m args below meth c s₁ B hml hv
  obtain ⟨rfl, hsz, hP, hK, hD0⟩ := hv
  have hx := B.exec
  have hb := B.bytes
  have hr := B.returns
  have hts := atoms_spec (ws := wsX7_count) B.pre
  have hown : s.vm.findClass RX7 = some m.cls := findClass_of_methodNamed B.named
  have hlocks := B.notSynchronized
  subst hsz
  have hD := hD0.self (sz := s.heap.size)
  generalize hAe : va_A [(aM, .inr (6, [.int M_units, .ref aM_kind, .ref aM_wash, .ref aM_fuel, .ref aM_isBroken, .ref aM_length, .int M_wanted, .ref aM_leaving, .int M_parked, .ref aM_stand, .ref aM_many, .ref aM_track, .ref aM_stack, .ref aM_depth, .ref aM_canBe, .int M_states, .ref aM_told, .ref aM_gone, .ref aM_cost, .ref aM_ways, .ref aM_places, .ref aM_now, .ref aM_high, .int M_runSize, .ref aM_run, .ref aM_runUnit, .ref aM_order, .ref aM_end, .ref aM_bestOrder, .ref aM_bestEnd])), (aM_isBroken, .inl (cZ, 5, .inl M_isBroken))] s.heap.size = A at hD ⊢
  have hA : ∀ q : Nat, s.heap.size ≤ q → A q := fun q h => by rw [← hAe]; exact Or.inr h
  have hS : va_S A s.heap s.heap [] := va_S.rf
  refine (fun (hall : ∀ Q0 : State → Prop, (∀ (r : Int32)  (H : Heap) (locs : List Loc) (pc : Nat) (ls : Array Slot), post r → decode cX7_count pc = .ok (.ireturn, 1) → va_P D vwCl [(aM, .inr (6, [.int M_units, .ref aM_kind, .ref aM_wash, .ref aM_fuel, .ref aM_isBroken, .ref aM_length, .int M_wanted, .ref aM_leaving, .int M_parked, .ref aM_stand, .ref aM_many, .ref aM_track, .ref aM_stack, .ref aM_depth, .ref aM_canBe, .int M_states, .ref aM_told, .ref aM_gone, .ref aM_cost, .ref aM_ways, .ref aM_places, .ref aM_now, .ref aM_high, .int M_runSize, .ref aM_run, .ref aM_runUnit, .ref aM_order, .ref aM_end, .ref aM_bestOrder, .ref aM_bestEnd])), (aM_isBroken, .inl (cZ, 5, .inl M_isBroken))] H → va_D A [(aM, .inr (6, [.int M_units, .ref aM_kind, .ref aM_wash, .ref aM_fuel, .ref aM_isBroken, .ref aM_length, .int M_wanted, .ref aM_leaving, .int M_parked, .ref aM_stand, .ref aM_many, .ref aM_track, .ref aM_stack, .ref aM_depth, .ref aM_canBe, .int M_states, .ref aM_told, .ref aM_gone, .ref aM_cost, .ref aM_ways, .ref aM_places, .ref aM_now, .ref aM_high, .int M_runSize, .ref aM_run, .ref aM_runUnit, .ref aM_order, .ref aM_end, .ref aM_bestOrder, .ref aM_bestEnd])), (aM_isBroken, .inl (cZ, 5, .inl M_isBroken))] → va_S A s.heap H locs → W p l e ({ frames := 0, cells := 0, slots := 0, locals := 0 } : Room) s m ([.ref aM, .int x1] : List Value).toArray below meth c H locs 0 0 Q0 (F0 m pc ls [.int r])) → W p l e ({ frames := 0, cells := 0, slots := 0, locals := 0 } : Room) s m ([.ref aM, .int x1] : List Value).toArray below meth c s.heap [] 0 0 Q0 (entryFrame m ([.ref aM, .int x1] : List Value).toArray 4)) => hall _ (fun r  H locs pc ls hw hd hP hD hS => W.iret (v := r) hx hb hr (fun t ht hW => ⟨⟨r, (), rfl, hw, by rw [ht]; exact hP, va_K.moved hW.alike hK, hD⟩, hS.F ht⟩) hS.2.2 hd)) ?_
  intro Q0 hret
  have hl := lv_entry ([.ref aM, .int x1]) (n := 4) (Nat.le_of_ble_eq_true rfl)
  rw [lg_entry_eq]
  generalize (lg_sl ([.ref aM, .int x1]) ++ List.replicate (4 - (lg_sl ([.ref aM, .int x1])).length) Slot.unset).toArray = ls at hl ⊢
  have hl : lv_has ls 4 [(0, .ref aM), (1, .int x1)] := hl
  have hinX7 : ∀ w ∈ u_ws RX7 TX7 30, w ∈ wsX7_count := by decide +kernel
  have hf19 := hts (.fieldLink RX7 19 "DepotNightModel" "isBroken" "[Z") (by decide +kernel)
  have hf88 := hts (.fieldLink RX7 88 "DepotNightModel" "units" "I") (by decide +kernel)
  have hf103 := hts (.fieldLink RX7 103 "DepotNightModel" "wanted" "I") (by decide +kernel)
  have hf128 := hts (.fieldLink RX7 128 "DepotNightModel" "parked" "I") (by decide +kernel)
  have wZ_X7_count_49 : ∀ (n : Nat) (x2 : Int32) (x3 : Int32), Z_X7_count_49 M_units M_isBroken M_wanted M_parked x1 post n x2 x3 → ∀ (H : Heap) (locs : List Loc) (ls : Array Slot), va_P D vwCl [(aM, .inr (6, [.int M_units, .ref aM_kind, .ref aM_wash, .ref aM_fuel, .ref aM_isBroken, .ref aM_length, .int M_wanted, .ref aM_leaving, .int M_parked, .ref aM_stand, .ref aM_many, .ref aM_track, .ref aM_stack, .ref aM_depth, .ref aM_canBe, .int M_states, .ref aM_told, .ref aM_gone, .ref aM_cost, .ref aM_ways, .ref aM_places, .ref aM_now, .ref aM_high, .int M_runSize, .ref aM_run, .ref aM_runUnit, .ref aM_order, .ref aM_end, .ref aM_bestOrder, .ref aM_bestEnd])), (aM_isBroken, .inl (cZ, 5, .inl M_isBroken))] H → va_D A [(aM, .inr (6, [.int M_units, .ref aM_kind, .ref aM_wash, .ref aM_fuel, .ref aM_isBroken, .ref aM_length, .int M_wanted, .ref aM_leaving, .int M_parked, .ref aM_stand, .ref aM_many, .ref aM_track, .ref aM_stack, .ref aM_depth, .ref aM_canBe, .int M_states, .ref aM_told, .ref aM_gone, .ref aM_cost, .ref aM_ways, .ref aM_places, .ref aM_now, .ref aM_high, .int M_runSize, .ref aM_run, .ref aM_runUnit, .ref aM_order, .ref aM_end, .ref aM_bestOrder, .ref aM_bestEnd])), (aM_isBroken, .inl (cZ, 5, .inl M_isBroken))] → va_S A s.heap H locs → lv_has ls 4 [(0, .ref aM), (2, .int x2), (3, .int x3)] → W p l e ({ frames := 0, cells := 0, slots := 0, locals := 0 } : Room) s m ([.ref aM, .int x1] : List Value).toArray below meth c H locs 0 0 Q0 (F0 m 49 ls []) := by
    intro n
    induction n with
    | zero =>
      intro x2 x3 hw
      exact (show False from hw).elim
    | succ n hK49 =>
      intro x2 x3 hw H locs ls hP hD hS hl
      have hw : Y_X7_count_49 M_units M_isBroken M_wanted M_parked x1 post (Z_X7_count_49 M_units M_isBroken M_wanted M_parked x1 post n) x2 x3 := hw
      unfold Y_X7_count_49 at hw
      refine lv_iload_n hx hb dX7_count_49 rfl (lv_at hl 2 rfl) ?_
      refine lv_aload_n hx hb dX7_count_50 rfl (lv_at hl 0 rfl) ?_
      refine va_get (D := D) (ci := 6) (v := .int M_units) (C := RX7) (T := TX7) (N := 30) hx hb hts hinX7 hown hK hP 0 rfl rfl 0 (by decide) hf88 (fun _ h9 => h9) rfl dX7_count_51 ?_
      refine lv_icmp_ge (tgt := 80) hx hb dX7_count_54 (by decide) (fun hc1 => ?_) (fun hc1 => ?_)
      · have hw := hw.1 hc1
        refine lv_iload_n hx hb dX7_count_80 rfl (lv_at hl 1 rfl) ?_
        exact hret x2  H locs 81 ls hw dX7_count_81 hP hD hS 
      · have hw := hw.2 hc1
        refine lv_iload_n hx hb dX7_count_57 rfl (lv_at hl 1 rfl) ?_
        refine lv_aload_n hx hb dX7_count_58 rfl (lv_at hl 0 rfl) ?_
        refine va_get (D := D) (ci := 6) (v := .ref aM_isBroken) (C := RX7) (T := TX7) (N := 30) hx hb hts hinX7 hown hK hP 0 rfl rfl 4 (by decide) hf19 (fun _ h9 => h9) rfl dX7_count_59 ?_
        refine lv_iload_n hx hb dX7_count_62 rfl (lv_at hl 2 rfl) ?_
        obtain ⟨hb2, hw⟩ := hw
        refine va_zald hx hb hK hP 1 2 rfl rfl hb2 dX7_count_63 ?_
        refine lv_if_eq (tgt := 71) hx hb dX7_count_64 (by decide) (fun hc3 => ?_) (fun hc3 => ?_)
        · have hw := hw.1 hc3
          refine lv_iconst (v := 0) hx hb dX7_count_71 (by decide) ?_
          refine lv_iadd hx hb dX7_count_72 ?_
          refine lv_topi (fun y4 ey4 => ?_)
          have hw := hw y4 ey4
          refine lv_istore_n (lv' := [(2, .int y4), (0, .ref aM), (3, .int x3)]) hx hb dX7_count_73 rfl hl (by decide) rfl (fun ls hl => ?_)
          refine lv_iinc (v := (x3 + 1)) (lv' := [(3, .int (x3 + 1)), (2, .int y4), (0, .ref aM)]) hx hb dX7_count_74 hl (k := 2) rfl rfl (by decide) rfl (fun ls hl => ?_)
          refine lv_goto (tgt := 49) hx hb dX7_count_77 (by decide) ?_
          exact hK49 y4 (x3 + 1) hw H locs ls hP hD hS (lv_sub hl [2, 1, 0] rfl)
        · have hw := hw.2 hc3
          refine lv_iconst (v := 1) hx hb dX7_count_67 (by decide) ?_
          refine lv_goto (tgt := 72) hx hb dX7_count_68 (by decide) ?_
          refine lv_iadd hx hb dX7_count_72 ?_
          refine lv_topi (fun y5 ey5 => ?_)
          have hw := hw y5 ey5
          refine lv_istore_n (lv' := [(2, .int y5), (0, .ref aM), (3, .int x3)]) hx hb dX7_count_73 rfl hl (by decide) rfl (fun ls hl => ?_)
          refine lv_iinc (v := (x3 + 1)) (lv' := [(3, .int (x3 + 1)), (2, .int y5), (0, .ref aM)]) hx hb dX7_count_74 hl (k := 2) rfl rfl (by decide) rfl (fun ls hl => ?_)
          refine lv_goto (tgt := 49) hx hb dX7_count_77 (by decide) ?_
          exact hK49 y5 (x3 + 1) hw H locs ls hP hD hS (lv_sub hl [2, 1, 0] rfl)
  obtain ⟨H, hHe⟩ : ∃ H, H = s.heap := ⟨_, rfl⟩
  obtain ⟨locs, hLo⟩ : ∃ locs : List Loc, locs = [] := ⟨_, rfl⟩
  have hS : va_S A s.heap H locs := by rw [hHe, hLo]; exact hS
  have hP : va_P D vwCl [(aM, .inr (6, [.int M_units, .ref aM_kind, .ref aM_wash, .ref aM_fuel, .ref aM_isBroken, .ref aM_length, .int M_wanted, .ref aM_leaving, .int M_parked, .ref aM_stand, .ref aM_many, .ref aM_track, .ref aM_stack, .ref aM_depth, .ref aM_canBe, .int M_states, .ref aM_told, .ref aM_gone, .ref aM_cost, .ref aM_ways, .ref aM_places, .ref aM_now, .ref aM_high, .int M_runSize, .ref aM_run, .ref aM_runUnit, .ref aM_order, .ref aM_end, .ref aM_bestOrder, .ref aM_bestEnd])), (aM_isBroken, .inl (cZ, 5, .inl M_isBroken))] H := by rw [hHe]; exact hP
  refine (fun (hgo : W p l e ({ frames := 0, cells := 0, slots := 0, locals := 0 } : Room) s m ([.ref aM, .int x1] : List Value).toArray below meth c H locs 0 0 Q0 (F0 m 0 ls [])) => by rw [hHe, hLo] at hgo; exact hgo) ?_
  refine lv_iconst (v := 0) hx hb dX7_count_0 (by decide) ?_
  refine lv_istore_n (lv' := [(2, .int 0), (0, .ref aM), (1, .int x1)]) hx hb dX7_count_1 rfl hl (by decide) rfl (fun ls hl => ?_)
  refine lv_iload_n hx hb dX7_count_2 rfl (lv_at hl 2 rfl) ?_
  by_cases hq0 : x1 = 0
  · have hw := hw.1 hq0
    refine lv_tableIn (off := 29) (tgt := 32) hx hb dX7_count_3 (by rw [hq0]; decide) (by rw [hq0]; decide) (by rw [hq0]; rfl) (by decide) ?_
    refine lv_aload_n hx hb dX7_count_32 rfl (lv_at hl 1 rfl) ?_
    refine va_get (D := D) (ci := 6) (v := .int M_units) (C := RX7) (T := TX7) (N := 30) hx hb hts hinX7 hown hK hP 0 rfl rfl 0 (by decide) hf88 (fun _ h9 => h9) rfl dX7_count_33 ?_
    exact hret M_units  H locs 36 ls hw dX7_count_36 hP hD hS 
  by_cases hq1 : x1 = 1
  · have hw := hw.2.1 hq1
    refine lv_tableIn (off := 34) (tgt := 37) hx hb dX7_count_3 (by rw [hq1]; decide) (by rw [hq1]; decide) (by rw [hq1]; rfl) (by decide) ?_
    refine lv_aload_n hx hb dX7_count_37 rfl (lv_at hl 1 rfl) ?_
    refine va_get (D := D) (ci := 6) (v := .int M_wanted) (C := RX7) (T := TX7) (N := 30) hx hb hts hinX7 hown hK hP 0 rfl rfl 6 (by decide) hf103 (fun _ h9 => h9) rfl dX7_count_38 ?_
    exact hret M_wanted  H locs 41 ls hw dX7_count_41 hP hD hS 
  by_cases hq2 : x1 = 2
  · have hw := hw.2.2.1 hq2
    refine lv_tableIn (off := 39) (tgt := 42) hx hb dX7_count_3 (by rw [hq2]; decide) (by rw [hq2]; decide) (by rw [hq2]; rfl) (by decide) ?_
    refine lv_aload_n hx hb dX7_count_42 rfl (lv_at hl 1 rfl) ?_
    refine va_get (D := D) (ci := 6) (v := .int M_parked) (C := RX7) (T := TX7) (N := 30) hx hb hts hinX7 hown hK hP 0 rfl rfl 8 (by decide) hf128 (fun _ h9 => h9) rfl dX7_count_43 ?_
    exact hret M_parked  H locs 46 ls hw dX7_count_46 hP hD hS 
  by_cases hq3 : x1 = 3
  · have hw := hw.2.2.2.1 hq3
    refine lv_tableIn (off := 44) (tgt := 47) hx hb dX7_count_3 (by rw [hq3]; decide) (by rw [hq3]; decide) (by rw [hq3]; rfl) (by decide) ?_
    refine lv_iconst (v := 0) hx hb dX7_count_47 (by decide) ?_
    refine lv_istore_n (lv' := [(3, .int 0), (2, .int 0), (0, .ref aM), (1, .int x1)]) hx hb dX7_count_48 rfl hl (by decide) rfl (fun ls hl => ?_)
    obtain ⟨n6, hw⟩ := hw
    exact wZ_X7_count_49  n6 0 0 hw H locs ls hP hD hS (lv_sub hl [2, 1, 0] rfl)
  have hw := hw.2.2.2.2 hq0 hq1 hq2 hq3
  refine lv_tableOut (tgt := 82) hx hb dX7_count_3 (z_tab4 hq0 hq1 hq2 hq3) (by decide) ?_
  refine lv_bipush (v := (-3)) hx hb dX7_count_82 (by decide) ?_
  exact hret (-3)  H locs 84 ls hw dX7_count_84 hP hD hS 
/-! X7_number -/
def Y_X7_number_12 (M_now : Nat → Int32) (M_high : Nat → Int32) (post : Int64 → Prop) (x3 : Int32) (K59 : Int64 → Prop) (K12 : Int64 → Int32 → Prop) (x1 : Int64) (x4 : Int32) : Prop :=
  ((x4 < 0 → K59 x1) ∧ (¬ x4 < 0 → vp_in x3 3 ∧ ((((M_high x3.toNatClampNeg) ≤ x4 → ∀ y5 : Int64, y5 = (((6 : Int64) * x1) + ((0 : Int32).toInt64)) → (K12 y5 (x4 + (-1)))) ∧ (¬ (M_high x3.toNatClampNeg) ≤ x4 → vp_in (((5 : Int32) * x3) + x4) 15 ∧ (∀ y7 : Int64, y7 = (((6 : Int64) * x1) + (((M_now (((5 : Int32) * x3) + x4).toNatClampNeg) + 1).toInt64)) → (K12 y7 (x4 + (-1)))))))))
def Z_X7_number_12 (M_now : Nat → Int32) (M_high : Nat → Int32) (post : Int64 → Prop) (x3 : Int32) (K59 : Int64 → Prop) : Nat → Int64 → Int32 → Prop
  | 0 => fun _ _ => False
  | n + 1 => Y_X7_number_12 M_now M_high post x3 K59 (Z_X7_number_12 M_now M_high post x3 K59 n)
def Y_X7_number_4 (M_now : Nat → Int32) (M_high : Nat → Int32) (post : Int64 → Prop) (K4 : Int64 → Int32 → Prop) (x1 : Int64) (x3 : Int32) : Prop :=
  ((3 ≤ x3 → post x1 ) ∧ (¬ 3 ≤ x3 → ∃ n, Z_X7_number_12 M_now M_high post x3 (fun (x1_8 : Int64) => K4 x1_8 (x3 + 1)) n x1 4))
def Z_X7_number_4 (M_now : Nat → Int32) (M_high : Nat → Int32) (post : Int64 → Prop) : Nat → Int64 → Int32 → Prop
  | 0 => fun _ _ => False
  | n + 1 => Y_X7_number_4 M_now M_high post (Z_X7_number_4 M_now M_high post n)
def wp_X7_number (M_now : Nat → Int32) (M_high : Nat → Int32) (post : Int64 → Prop) : Prop :=
  ∃ n, Z_X7_number_4 M_now M_high post n 0 0
set_option maxHeartbeats 4000000 in
set_option maxRecDepth 100000 in
theorem c_X7_number (l : Launch) (D : va_G) (cI cJ cZ : ClassId) (aM aM_kind aM_wash aM_fuel aM_isBroken aM_length aM_leaving aM_stand aM_many aM_track aM_stack aM_depth aM_canBe aM_told aM_gone aM_cost aM_ways aM_places aM_now aM_high aM_run aM_runUnit aM_order aM_end aM_bestOrder aM_bestEnd : Nat) (sz : Nat) (M_units : Int32) (M_wanted : Int32) (M_parked : Int32) (M_states : Int32) (M_runSize : Int32) (M_now : Nat → Int32) (M_high : Nat → Int32) (post : Int64 → Prop) (hw : wp_X7_number M_now M_high post) : Met l yX7_number wsX7_number ({ frames := 0, cells := 0, slots := 0, locals := 0 } : Room) (va_Pc [.ref aM] (zPre D cI cJ cZ [(aM, .inr (6, [.int M_units, .ref aM_kind, .ref aM_wash, .ref aM_fuel, .ref aM_isBroken, .ref aM_length, .int M_wanted, .ref aM_leaving, .int M_parked, .ref aM_stand, .ref aM_many, .ref aM_track, .ref aM_stack, .ref aM_depth, .ref aM_canBe, .int M_states, .ref aM_told, .ref aM_gone, .ref aM_cost, .ref aM_ways, .ref aM_places, .ref aM_now, .ref aM_high, .int M_runSize, .ref aM_run, .ref aM_runUnit, .ref aM_order, .ref aM_end, .ref aM_bestOrder, .ref aM_bestEnd])), (aM_now, .inl (cI, 15, .inl M_now)), (aM_high, .inl (cI, 3, .inl M_high))] sz)) (va_Ql (fun (r : Int64) (u : Unit) => post r) (zPost D cI cJ cZ (va_A [(aM, .inr (6, [.int M_units, .ref aM_kind, .ref aM_wash, .ref aM_fuel, .ref aM_isBroken, .ref aM_length, .int M_wanted, .ref aM_leaving, .int M_parked, .ref aM_stand, .ref aM_many, .ref aM_track, .ref aM_stack, .ref aM_depth, .ref aM_canBe, .int M_states, .ref aM_told, .ref aM_gone, .ref aM_cost, .ref aM_ways, .ref aM_places, .ref aM_now, .ref aM_high, .int M_runSize, .ref aM_run, .ref aM_runUnit, .ref aM_order, .ref aM_end, .ref aM_bestOrder, .ref aM_bestEnd])), (aM_now, .inl (cI, 15, .inl M_now)), (aM_high, .inl (cI, 3, .inl M_high))] sz) (fun u : Unit => [(aM, .inr (6, [.int M_units, .ref aM_kind, .ref aM_wash, .ref aM_fuel, .ref aM_isBroken, .ref aM_length, .int M_wanted, .ref aM_leaving, .int M_parked, .ref aM_stand, .ref aM_many, .ref aM_track, .ref aM_stack, .ref aM_depth, .ref aM_canBe, .int M_states, .ref aM_told, .ref aM_gone, .ref aM_cost, .ref aM_ways, .ref aM_places, .ref aM_now, .ref aM_high, .int M_runSize, .ref aM_run, .ref aM_runUnit, .ref aM_order, .ref aM_end, .ref aM_bestOrder, .ref aM_bestEnd])), (aM_now, .inl (cI, 15, .inl M_now)), (aM_high, .inl (cI, 3, .inl M_high))])) (va_A [(aM, .inr (6, [.int M_units, .ref aM_kind, .ref aM_wash, .ref aM_fuel, .ref aM_isBroken, .ref aM_length, .int M_wanted, .ref aM_leaving, .int M_parked, .ref aM_stand, .ref aM_many, .ref aM_track, .ref aM_stack, .ref aM_depth, .ref aM_canBe, .int M_states, .ref aM_told, .ref aM_gone, .ref aM_cost, .ref aM_ways, .ref aM_places, .ref aM_now, .ref aM_high, .int M_runSize, .ref aM_run, .ref aM_runUnit, .ref aM_order, .ref aM_end, .ref aM_bestOrder, .ref aM_bestEnd])), (aM_now, .inl (cI, 15, .inl M_now)), (aM_high, .inl (cI, 3, .inl M_high))] sz)) 0 0 (va_A [(aM, .inr (6, [.int M_units, .ref aM_kind, .ref aM_wash, .ref aM_fuel, .ref aM_isBroken, .ref aM_length, .int M_wanted, .ref aM_leaving, .int M_parked, .ref aM_stand, .ref aM_many, .ref aM_track, .ref aM_stack, .ref aM_depth, .ref aM_canBe, .int M_states, .ref aM_told, .ref aM_gone, .ref aM_cost, .ref aM_ways, .ref aM_places, .ref aM_now, .ref aM_high, .int M_runSize, .ref aM_run, .ref aM_runUnit, .ref aM_order, .ref aM_end, .ref aM_bestOrder, .ref aM_bestEnd])), (aM_now, .inl (cI, 15, .inl M_now)), (aM_high, .inl (cI, 3, .inl M_high))] sz) := by
  unfold wp_X7_number at hw
  refine Met.ofW (cc := cX7_number) (maxL := 5) (ret := some .long) (by decide) rfl ?_
  intro p e s m args below meth c s₁ B hml hv
  obtain ⟨rfl, hsz, hP, hK, hD0⟩ := hv
  have hx := B.exec
  have hb := B.bytes
  have hr := B.returns
  have hts := atoms_spec (ws := wsX7_number) B.pre
  have hown : s.vm.findClass RX7 = some m.cls := findClass_of_methodNamed B.named
  have hlocks := B.notSynchronized
  subst hsz
  have hD := hD0.self (sz := s.heap.size)
  generalize hAe : va_A [(aM, .inr (6, [.int M_units, .ref aM_kind, .ref aM_wash, .ref aM_fuel, .ref aM_isBroken, .ref aM_length, .int M_wanted, .ref aM_leaving, .int M_parked, .ref aM_stand, .ref aM_many, .ref aM_track, .ref aM_stack, .ref aM_depth, .ref aM_canBe, .int M_states, .ref aM_told, .ref aM_gone, .ref aM_cost, .ref aM_ways, .ref aM_places, .ref aM_now, .ref aM_high, .int M_runSize, .ref aM_run, .ref aM_runUnit, .ref aM_order, .ref aM_end, .ref aM_bestOrder, .ref aM_bestEnd])), (aM_now, .inl (cI, 15, .inl M_now)), (aM_high, .inl (cI, 3, .inl M_high))] s.heap.size = A at hD ⊢
  have hA : ∀ q : Nat, s.heap.size ≤ q → A q := fun q h => by rw [← hAe]; exact Or.inr h
  have hS : va_S A s.heap s.heap [] := va_S.rf
  refine (fun (hall : ∀ Q0 : State → Prop, (∀ (r : Int64)  (H : Heap) (locs : List Loc) (pc : Nat) (ls : Array Slot), post r → decode cX7_number pc = .ok (.lreturn, 1) → va_P D vwCl [(aM, .inr (6, [.int M_units, .ref aM_kind, .ref aM_wash, .ref aM_fuel, .ref aM_isBroken, .ref aM_length, .int M_wanted, .ref aM_leaving, .int M_parked, .ref aM_stand, .ref aM_many, .ref aM_track, .ref aM_stack, .ref aM_depth, .ref aM_canBe, .int M_states, .ref aM_told, .ref aM_gone, .ref aM_cost, .ref aM_ways, .ref aM_places, .ref aM_now, .ref aM_high, .int M_runSize, .ref aM_run, .ref aM_runUnit, .ref aM_order, .ref aM_end, .ref aM_bestOrder, .ref aM_bestEnd])), (aM_now, .inl (cI, 15, .inl M_now)), (aM_high, .inl (cI, 3, .inl M_high))] H → va_D A [(aM, .inr (6, [.int M_units, .ref aM_kind, .ref aM_wash, .ref aM_fuel, .ref aM_isBroken, .ref aM_length, .int M_wanted, .ref aM_leaving, .int M_parked, .ref aM_stand, .ref aM_many, .ref aM_track, .ref aM_stack, .ref aM_depth, .ref aM_canBe, .int M_states, .ref aM_told, .ref aM_gone, .ref aM_cost, .ref aM_ways, .ref aM_places, .ref aM_now, .ref aM_high, .int M_runSize, .ref aM_run, .ref aM_runUnit, .ref aM_order, .ref aM_end, .ref aM_bestOrder, .ref aM_bestEnd])), (aM_now, .inl (cI, 15, .inl M_now)), (aM_high, .inl (cI, 3, .inl M_high))] → va_S A s.heap H locs → W p l e ({ frames := 0, cells := 0, slots := 0, locals := 0 } : Room) s m ([.ref aM] : List Value).toArray below meth c H locs 0 0 Q0 (F0 m pc ls [.long r])) → W p l e ({ frames := 0, cells := 0, slots := 0, locals := 0 } : Room) s m ([.ref aM] : List Value).toArray below meth c s.heap [] 0 0 Q0 (entryFrame m ([.ref aM] : List Value).toArray 5)) => hall _ (fun r  H locs pc ls hw hd hP hD hS => W.lret (v := r) hx hb hr (fun t ht hW => ⟨⟨r, (), rfl, hw, by rw [ht]; exact hP, va_K.moved hW.alike hK, hD⟩, hS.F ht⟩) hS.2.2 hd)) ?_
  intro Q0 hret
  have hl := lv_entry ([.ref aM]) (n := 5) (Nat.le_of_ble_eq_true rfl)
  rw [lg_entry_eq]
  generalize (lg_sl ([.ref aM]) ++ List.replicate (5 - (lg_sl ([.ref aM])).length) Slot.unset).toArray = ls at hl ⊢
  have hl : lv_has ls 5 [(0, .ref aM)] := hl
  have hinX7 : ∀ w ∈ u_ws RX7 TX7 30, w ∈ wsX7_number := by decide +kernel
  have hf64 := hts (.fieldLink RX7 64 "DepotNightModel" "now" "[I") (by decide +kernel)
  have hf67 := hts (.fieldLink RX7 67 "DepotNightModel" "high" "[I") (by decide +kernel)
  have wZ_X7_number_12 : ∀ (x3 : Int32) (K59 : Int64 → Prop), (∀ (x1 : Int64), K59 x1 → ∀ (H : Heap) (locs : List Loc) (ls : Array Slot), va_P D vwCl [(aM, .inr (6, [.int M_units, .ref aM_kind, .ref aM_wash, .ref aM_fuel, .ref aM_isBroken, .ref aM_length, .int M_wanted, .ref aM_leaving, .int M_parked, .ref aM_stand, .ref aM_many, .ref aM_track, .ref aM_stack, .ref aM_depth, .ref aM_canBe, .int M_states, .ref aM_told, .ref aM_gone, .ref aM_cost, .ref aM_ways, .ref aM_places, .ref aM_now, .ref aM_high, .int M_runSize, .ref aM_run, .ref aM_runUnit, .ref aM_order, .ref aM_end, .ref aM_bestOrder, .ref aM_bestEnd])), (aM_now, .inl (cI, 15, .inl M_now)), (aM_high, .inl (cI, 3, .inl M_high))] H → va_D A [(aM, .inr (6, [.int M_units, .ref aM_kind, .ref aM_wash, .ref aM_fuel, .ref aM_isBroken, .ref aM_length, .int M_wanted, .ref aM_leaving, .int M_parked, .ref aM_stand, .ref aM_many, .ref aM_track, .ref aM_stack, .ref aM_depth, .ref aM_canBe, .int M_states, .ref aM_told, .ref aM_gone, .ref aM_cost, .ref aM_ways, .ref aM_places, .ref aM_now, .ref aM_high, .int M_runSize, .ref aM_run, .ref aM_runUnit, .ref aM_order, .ref aM_end, .ref aM_bestOrder, .ref aM_bestEnd])), (aM_now, .inl (cI, 15, .inl M_now)), (aM_high, .inl (cI, 3, .inl M_high))] → va_S A s.heap H locs → lv_has ls 5 [(0, .ref aM), (1, .long x1), (3, .int x3)] → W p l e ({ frames := 0, cells := 0, slots := 0, locals := 0 } : Room) s m ([.ref aM] : List Value).toArray below meth c H locs 0 0 Q0 (F0 m 59 ls [])) → ∀ (n : Nat) (x1 : Int64) (x4 : Int32), Z_X7_number_12 M_now M_high post x3 K59 n x1 x4 → ∀ (H : Heap) (locs : List Loc) (ls : Array Slot), va_P D vwCl [(aM, .inr (6, [.int M_units, .ref aM_kind, .ref aM_wash, .ref aM_fuel, .ref aM_isBroken, .ref aM_length, .int M_wanted, .ref aM_leaving, .int M_parked, .ref aM_stand, .ref aM_many, .ref aM_track, .ref aM_stack, .ref aM_depth, .ref aM_canBe, .int M_states, .ref aM_told, .ref aM_gone, .ref aM_cost, .ref aM_ways, .ref aM_places, .ref aM_now, .ref aM_high, .int M_runSize, .ref aM_run, .ref aM_runUnit, .ref aM_order, .ref aM_end, .ref aM_bestOrder, .ref aM_bestEnd])), (aM_now, .inl (cI, 15, .inl M_now)), (aM_high, .inl (cI, 3, .inl M_high))] H → va_D A [(aM, .inr (6, [.int M_units, .ref aM_kind, .ref aM_wash, .ref aM_fuel, .ref aM_isBroken, .ref aM_length, .int M_wanted, .ref aM_leaving, .int M_parked, .ref aM_stand, .ref aM_many, .ref aM_track, .ref aM_stack, .ref aM_depth, .ref aM_canBe, .int M_states, .ref aM_told, .ref aM_gone, .ref aM_cost, .ref aM_ways, .ref aM_places, .ref aM_now, .ref aM_high, .int M_runSize, .ref aM_run, .ref aM_runUnit, .ref aM_order, .ref aM_end, .ref aM_bestOrder, .ref aM_bestEnd])), (aM_now, .inl (cI, 15, .inl M_now)), (aM_high, .inl (cI, 3, .inl M_high))] → va_S A s.heap H locs → lv_has ls 5 [(0, .ref aM), (1, .long x1), (3, .int x3), (4, .int x4)] → W p l e ({ frames := 0, cells := 0, slots := 0, locals := 0 } : Room) s m ([.ref aM] : List Value).toArray below meth c H locs 0 0 Q0 (F0 m 12 ls []) := by
    intro x3 K59 hK59 n
    induction n with
    | zero =>
      intro x1 x4 hw
      exact (show False from hw).elim
    | succ n hK12 =>
      intro x1 x4 hw H locs ls hP hD hS hl
      have hw : Y_X7_number_12 M_now M_high post x3 K59 (Z_X7_number_12 M_now M_high post x3 K59 n) x1 x4 := hw
      unfold Y_X7_number_12 at hw
      refine lv_iload hx hb dX7_number_12 (lv_at hl 3 rfl) ?_
      refine lv_if_lt (tgt := 59) hx hb dX7_number_14 (by decide) (fun hc2 => ?_) (fun hc2 => ?_)
      · have hw := hw.1 hc2
        exact hK59 x1 hw H locs ls hP hD hS (lv_sub hl [0, 1, 2] rfl)
      · have hw := hw.2 hc2
        refine lv_ldc2 (v := 6) hx hb hown (hts (.constantLong RX7 131 (6)) (by decide +kernel)) dX7_number_17 ?_
        refine lv_lload_n hx hb dX7_number_20 rfl (lv_at hl 1 rfl) ?_
        refine lv_lmul hx hb dX7_number_21 ?_
        refine lv_iload hx hb dX7_number_22 (lv_at hl 3 rfl) ?_
        refine lv_aload_n hx hb dX7_number_24 rfl (lv_at hl 0 rfl) ?_
        refine va_get (D := D) (ci := 6) (v := .ref aM_high) (C := RX7) (T := TX7) (N := 30) hx hb hts hinX7 hown hK hP 0 rfl rfl 22 (by decide) hf67 (fun _ h9 => h9) rfl dX7_number_25 ?_
        refine lv_iload_n hx hb dX7_number_28 rfl (lv_at hl 2 rfl) ?_
        obtain ⟨hb3, hw⟩ := hw
        refine va_iald hx hb hK hP 2 0 rfl rfl hb3 dX7_number_29 ?_
        refine lv_icmp_ge (tgt := 49) hx hb dX7_number_30 (by decide) (fun hc4 => ?_) (fun hc4 => ?_)
        · have hw := hw.1 hc4
          refine lv_iconst (v := 0) hx hb dX7_number_49 (by decide) ?_
          refine lv_i2l hx hb dX7_number_50 rfl ?_
          refine lv_ladd hx hb dX7_number_51 ?_
          refine lv_topl (fun y5 ey5 => ?_)
          have hw := hw y5 ey5
          refine lv_lstore_n (lv' := [(1, .long y5), (0, .ref aM), (3, .int x3), (4, .int x4)]) hx hb dX7_number_52 rfl hl (by decide) rfl (fun ls hl => ?_)
          refine lv_iinc (v := (x4 + (-1))) (lv' := [(4, .int (x4 + (-1))), (1, .long y5), (0, .ref aM), (3, .int x3)]) hx hb dX7_number_53 hl (k := 3) rfl rfl (by decide) rfl (fun ls hl => ?_)
          refine lv_goto (tgt := 12) hx hb dX7_number_56 (by decide) ?_
          exact hK12 y5 (x4 + (-1)) hw H locs ls hP hD hS (lv_sub hl [2, 1, 3, 0] rfl)
        · have hw := hw.2 hc4
          refine lv_aload_n hx hb dX7_number_33 rfl (lv_at hl 0 rfl) ?_
          refine va_get (D := D) (ci := 6) (v := .ref aM_now) (C := RX7) (T := TX7) (N := 30) hx hb hts hinX7 hown hK hP 0 rfl rfl 21 (by decide) hf64 (fun _ h9 => h9) rfl dX7_number_34 ?_
          refine lv_iconst (v := 5) hx hb dX7_number_37 (by decide) ?_
          refine lv_iload_n hx hb dX7_number_38 rfl (lv_at hl 2 rfl) ?_
          refine lv_imul hx hb dX7_number_39 ?_
          refine lv_iload hx hb dX7_number_40 (lv_at hl 3 rfl) ?_
          refine lv_iadd hx hb dX7_number_42 ?_
          obtain ⟨hb6, hw⟩ := hw
          refine va_iald hx hb hK hP 1 0 rfl rfl hb6 dX7_number_43 ?_
          refine lv_iconst (v := 1) hx hb dX7_number_44 (by decide) ?_
          refine lv_iadd hx hb dX7_number_45 ?_
          refine lv_goto (tgt := 50) hx hb dX7_number_46 (by decide) ?_
          refine lv_i2l hx hb dX7_number_50 rfl ?_
          refine lv_ladd hx hb dX7_number_51 ?_
          refine lv_topl (fun y7 ey7 => ?_)
          have hw := hw y7 ey7
          refine lv_lstore_n (lv' := [(1, .long y7), (0, .ref aM), (3, .int x3), (4, .int x4)]) hx hb dX7_number_52 rfl hl (by decide) rfl (fun ls hl => ?_)
          refine lv_iinc (v := (x4 + (-1))) (lv' := [(4, .int (x4 + (-1))), (1, .long y7), (0, .ref aM), (3, .int x3)]) hx hb dX7_number_53 hl (k := 3) rfl rfl (by decide) rfl (fun ls hl => ?_)
          refine lv_goto (tgt := 12) hx hb dX7_number_56 (by decide) ?_
          exact hK12 y7 (x4 + (-1)) hw H locs ls hP hD hS (lv_sub hl [2, 1, 3, 0] rfl)
  have wZ_X7_number_4 : ∀ (n : Nat) (x1 : Int64) (x3 : Int32), Z_X7_number_4 M_now M_high post n x1 x3 → ∀ (H : Heap) (locs : List Loc) (ls : Array Slot), va_P D vwCl [(aM, .inr (6, [.int M_units, .ref aM_kind, .ref aM_wash, .ref aM_fuel, .ref aM_isBroken, .ref aM_length, .int M_wanted, .ref aM_leaving, .int M_parked, .ref aM_stand, .ref aM_many, .ref aM_track, .ref aM_stack, .ref aM_depth, .ref aM_canBe, .int M_states, .ref aM_told, .ref aM_gone, .ref aM_cost, .ref aM_ways, .ref aM_places, .ref aM_now, .ref aM_high, .int M_runSize, .ref aM_run, .ref aM_runUnit, .ref aM_order, .ref aM_end, .ref aM_bestOrder, .ref aM_bestEnd])), (aM_now, .inl (cI, 15, .inl M_now)), (aM_high, .inl (cI, 3, .inl M_high))] H → va_D A [(aM, .inr (6, [.int M_units, .ref aM_kind, .ref aM_wash, .ref aM_fuel, .ref aM_isBroken, .ref aM_length, .int M_wanted, .ref aM_leaving, .int M_parked, .ref aM_stand, .ref aM_many, .ref aM_track, .ref aM_stack, .ref aM_depth, .ref aM_canBe, .int M_states, .ref aM_told, .ref aM_gone, .ref aM_cost, .ref aM_ways, .ref aM_places, .ref aM_now, .ref aM_high, .int M_runSize, .ref aM_run, .ref aM_runUnit, .ref aM_order, .ref aM_end, .ref aM_bestOrder, .ref aM_bestEnd])), (aM_now, .inl (cI, 15, .inl M_now)), (aM_high, .inl (cI, 3, .inl M_high))] → va_S A s.heap H locs → lv_has ls 5 [(0, .ref aM), (1, .long x1), (3, .int x3)] → W p l e ({ frames := 0, cells := 0, slots := 0, locals := 0 } : Room) s m ([.ref aM] : List Value).toArray below meth c H locs 0 0 Q0 (F0 m 4 ls []) := by
    intro n
    induction n with
    | zero =>
      intro x1 x3 hw
      exact (show False from hw).elim
    | succ n hK4 =>
      intro x1 x3 hw H locs ls hP hD hS hl
      have hw : Y_X7_number_4 M_now M_high post (Z_X7_number_4 M_now M_high post n) x1 x3 := hw
      unfold Y_X7_number_4 at hw
      refine lv_iload_n hx hb dX7_number_4 rfl (lv_at hl 2 rfl) ?_
      refine lv_iconst (v := 3) hx hb dX7_number_5 (by decide) ?_
      refine lv_icmp_ge (tgt := 65) hx hb dX7_number_6 (by decide) (fun hc1 => ?_) (fun hc1 => ?_)
      · have hw := hw.1 hc1
        refine lv_lload_n hx hb dX7_number_65 rfl (lv_at hl 1 rfl) ?_
        exact hret x1  H locs 66 ls hw dX7_number_66 hP hD hS 
      · have hw := hw.2 hc1
        refine lv_iconst (v := 4) hx hb dX7_number_9 (by decide) ?_
        refine lv_istore (lv' := [(4, .int 4), (0, .ref aM), (1, .long x1), (3, .int x3)]) hx hb dX7_number_10 hl (by decide) rfl (fun ls hl => ?_)
        obtain ⟨n9, hw⟩ := hw
        refine wZ_X7_number_12 x3 _ (fun x1_8 hw H locs ls hP hD hS hl => ?_) n9 x1 4 hw H locs ls hP hD hS (lv_sub hl [1, 2, 3, 0] rfl)
        refine lv_iinc (v := (x3 + 1)) (lv' := [(3, .int (x3 + 1)), (0, .ref aM), (1, .long x1_8)]) hx hb dX7_number_59 hl (k := 2) rfl rfl (by decide) rfl (fun ls hl => ?_)
        refine lv_goto (tgt := 4) hx hb dX7_number_62 (by decide) ?_
        exact hK4 x1_8 (x3 + 1) hw H locs ls hP hD hS (lv_sub hl [1, 2, 0] rfl)
  obtain ⟨H, hHe⟩ : ∃ H, H = s.heap := ⟨_, rfl⟩
  obtain ⟨locs, hLo⟩ : ∃ locs : List Loc, locs = [] := ⟨_, rfl⟩
  have hS : va_S A s.heap H locs := by rw [hHe, hLo]; exact hS
  have hP : va_P D vwCl [(aM, .inr (6, [.int M_units, .ref aM_kind, .ref aM_wash, .ref aM_fuel, .ref aM_isBroken, .ref aM_length, .int M_wanted, .ref aM_leaving, .int M_parked, .ref aM_stand, .ref aM_many, .ref aM_track, .ref aM_stack, .ref aM_depth, .ref aM_canBe, .int M_states, .ref aM_told, .ref aM_gone, .ref aM_cost, .ref aM_ways, .ref aM_places, .ref aM_now, .ref aM_high, .int M_runSize, .ref aM_run, .ref aM_runUnit, .ref aM_order, .ref aM_end, .ref aM_bestOrder, .ref aM_bestEnd])), (aM_now, .inl (cI, 15, .inl M_now)), (aM_high, .inl (cI, 3, .inl M_high))] H := by rw [hHe]; exact hP
  refine (fun (hgo : W p l e ({ frames := 0, cells := 0, slots := 0, locals := 0 } : Room) s m ([.ref aM] : List Value).toArray below meth c H locs 0 0 Q0 (F0 m 0 ls [])) => by rw [hHe, hLo] at hgo; exact hgo) ?_
  refine lv_lconst (v := 0) hx hb dX7_number_0 (by decide) ?_
  refine lv_lstore_n (lv' := [(1, .long 0), (0, .ref aM)]) hx hb dX7_number_1 rfl hl (by decide) rfl (fun ls hl => ?_)
  refine lv_iconst (v := 0) hx hb dX7_number_2 (by decide) ?_
  refine lv_istore_n (lv' := [(3, .int 0), (1, .long 0), (0, .ref aM)]) hx hb dX7_number_3 rfl hl (by decide) rfl (fun ls hl => ?_)
  obtain ⟨n10, hw⟩ := hw
  exact wZ_X7_number_4  n10 0 0 hw H locs ls hP hD hS (lv_sub hl [2, 1, 0] rfl)
/-! X7_read -/
def Y_X7_read_21 (x1 : Int64) (post : (Nat → Int32) → (Nat → Int32) → Prop) (x5 : Int32) (K79 : Int64 → (Nat → Int32) → (Nat → Int32) → Prop) (K21 : Int64 → Int32 → (Nat → Int32) → (Nat → Int32) → Prop) (x3 : Int64) (x6 : Int32) (M_now : Nat → Int32) (M_high : Nat → Int32) : Prop :=
  ((5 ≤ x6 → K79 x3 M_now M_high) ∧ (¬ 5 ≤ x6 → ∀ y4 : Int32, y4 = (x3 - x3 / 6 * 6).toInt32 → (∀ y5 : Int64, y5 = (x3 / 6) → (((y4 ≤ 0 → K21 y5 (x6 + 1) M_now M_high) ∧ (¬ y4 ≤ 0 → ∀ y8 : Int32, y8 = (y4 - 1) → (vp_in (((5 : Int32) * x5) + x6) 15 ∧ (vp_in x5 3 ∧ (∀ y11 : Int32, y11 = ((M_high x5.toNatClampNeg) + 1) → (vp_in x5 3 ∧ (K21 y5 (x6 + 1) (upd M_now (((5 : Int32) * x5) + x6).toNatClampNeg y8) (upd M_high x5.toNatClampNeg y11))))))))))))
def Z_X7_read_21 (x1 : Int64) (post : (Nat → Int32) → (Nat → Int32) → Prop) (x5 : Int32) (K79 : Int64 → (Nat → Int32) → (Nat → Int32) → Prop) : Nat → Int64 → Int32 → (Nat → Int32) → (Nat → Int32) → Prop
  | 0 => fun _ _ _ _ => False
  | n + 1 => Y_X7_read_21 x1 post x5 K79 (Z_X7_read_21 x1 post x5 K79 n)
def Y_X7_read_5 (x1 : Int64) (post : (Nat → Int32) → (Nat → Int32) → Prop) (K5 : Int64 → Int32 → (Nat → Int32) → (Nat → Int32) → Prop) (x3 : Int64) (x5 : Int32) (M_now : Nat → Int32) (M_high : Nat → Int32) : Prop :=
  ((x5 < 0 → post M_now M_high) ∧ (¬ x5 < 0 → vp_in x5 3 ∧ (∃ n, Z_X7_read_21 x1 post x5 (fun (x3_12 : Int64) (M_now_13 : Nat → Int32) (M_high_14 : Nat → Int32) => K5 x3_12 (x5 + (-1)) M_now_13 M_high_14) n x3 0 M_now (upd M_high x5.toNatClampNeg (0 : Int32)))))
def Z_X7_read_5 (x1 : Int64) (post : (Nat → Int32) → (Nat → Int32) → Prop) : Nat → Int64 → Int32 → (Nat → Int32) → (Nat → Int32) → Prop
  | 0 => fun _ _ _ _ => False
  | n + 1 => Y_X7_read_5 x1 post (Z_X7_read_5 x1 post n)
def wp_X7_read (x1 : Int64) (M_now : Nat → Int32) (M_high : Nat → Int32) (post : (Nat → Int32) → (Nat → Int32) → Prop) : Prop :=
  ∃ n, Z_X7_read_5 x1 post n x1 2 M_now M_high
set_option maxHeartbeats 4000000 in
set_option maxRecDepth 100000 in
theorem c_X7_read (l : Launch) (D : va_G) (cI cJ cZ : ClassId) (aM aM_kind aM_wash aM_fuel aM_isBroken aM_length aM_leaving aM_stand aM_many aM_track aM_stack aM_depth aM_canBe aM_told aM_gone aM_cost aM_ways aM_places aM_now aM_high aM_run aM_runUnit aM_order aM_end aM_bestOrder aM_bestEnd : Nat) (sz : Nat) (M_units : Int32) (M_wanted : Int32) (M_parked : Int32) (M_states : Int32) (M_runSize : Int32) (M_now : Nat → Int32) (M_high : Nat → Int32) (x1 : Int64) (post : (Nat → Int32) → (Nat → Int32) → Prop) (hw : wp_X7_read x1 M_now M_high post) : Met l yX7_read wsX7_read ({ frames := 0, cells := 0, slots := 0, locals := 0 } : Room) (va_Pc [.ref aM, .long x1] (zPre D cI cJ cZ [(aM, .inr (6, [.int M_units, .ref aM_kind, .ref aM_wash, .ref aM_fuel, .ref aM_isBroken, .ref aM_length, .int M_wanted, .ref aM_leaving, .int M_parked, .ref aM_stand, .ref aM_many, .ref aM_track, .ref aM_stack, .ref aM_depth, .ref aM_canBe, .int M_states, .ref aM_told, .ref aM_gone, .ref aM_cost, .ref aM_ways, .ref aM_places, .ref aM_now, .ref aM_high, .int M_runSize, .ref aM_run, .ref aM_runUnit, .ref aM_order, .ref aM_end, .ref aM_bestOrder, .ref aM_bestEnd])), (aM_now, .inl (cI, 15, .inl M_now)), (aM_high, .inl (cI, 3, .inl M_high))] sz)) (va_Qv (fun (u : (Nat → Int32) × (Nat → Int32)) => post u.1 u.2) (zPost D cI cJ cZ (va_A [(aM, .inr (6, [.int M_units, .ref aM_kind, .ref aM_wash, .ref aM_fuel, .ref aM_isBroken, .ref aM_length, .int M_wanted, .ref aM_leaving, .int M_parked, .ref aM_stand, .ref aM_many, .ref aM_track, .ref aM_stack, .ref aM_depth, .ref aM_canBe, .int M_states, .ref aM_told, .ref aM_gone, .ref aM_cost, .ref aM_ways, .ref aM_places, .ref aM_now, .ref aM_high, .int M_runSize, .ref aM_run, .ref aM_runUnit, .ref aM_order, .ref aM_end, .ref aM_bestOrder, .ref aM_bestEnd])), (aM_now, .inl (cI, 15, .inl M_now)), (aM_high, .inl (cI, 3, .inl M_high))] sz) (fun u : (Nat → Int32) × (Nat → Int32) => [(aM, .inr (6, [.int M_units, .ref aM_kind, .ref aM_wash, .ref aM_fuel, .ref aM_isBroken, .ref aM_length, .int M_wanted, .ref aM_leaving, .int M_parked, .ref aM_stand, .ref aM_many, .ref aM_track, .ref aM_stack, .ref aM_depth, .ref aM_canBe, .int M_states, .ref aM_told, .ref aM_gone, .ref aM_cost, .ref aM_ways, .ref aM_places, .ref aM_now, .ref aM_high, .int M_runSize, .ref aM_run, .ref aM_runUnit, .ref aM_order, .ref aM_end, .ref aM_bestOrder, .ref aM_bestEnd])), (aM_now, .inl (cI, 15, .inl u.1)), (aM_high, .inl (cI, 3, .inl u.2))])) (va_A [(aM, .inr (6, [.int M_units, .ref aM_kind, .ref aM_wash, .ref aM_fuel, .ref aM_isBroken, .ref aM_length, .int M_wanted, .ref aM_leaving, .int M_parked, .ref aM_stand, .ref aM_many, .ref aM_track, .ref aM_stack, .ref aM_depth, .ref aM_canBe, .int M_states, .ref aM_told, .ref aM_gone, .ref aM_cost, .ref aM_ways, .ref aM_places, .ref aM_now, .ref aM_high, .int M_runSize, .ref aM_run, .ref aM_runUnit, .ref aM_order, .ref aM_end, .ref aM_bestOrder, .ref aM_bestEnd])), (aM_now, .inl (cI, 15, .inl M_now)), (aM_high, .inl (cI, 3, .inl M_high))] sz)) 0 0 (va_A [(aM, .inr (6, [.int M_units, .ref aM_kind, .ref aM_wash, .ref aM_fuel, .ref aM_isBroken, .ref aM_length, .int M_wanted, .ref aM_leaving, .int M_parked, .ref aM_stand, .ref aM_many, .ref aM_track, .ref aM_stack, .ref aM_depth, .ref aM_canBe, .int M_states, .ref aM_told, .ref aM_gone, .ref aM_cost, .ref aM_ways, .ref aM_places, .ref aM_now, .ref aM_high, .int M_runSize, .ref aM_run, .ref aM_runUnit, .ref aM_order, .ref aM_end, .ref aM_bestOrder, .ref aM_bestEnd])), (aM_now, .inl (cI, 15, .inl M_now)), (aM_high, .inl (cI, 3, .inl M_high))] sz) := by
  unfold wp_X7_read at hw
  refine Met.ofW (cc := cX7_read) (maxL := 8) (ret := none) (by decide) rfl ?_
  intro p e s m args below meth c s₁ B hml hv
  obtain ⟨rfl, hsz, hP, hK, hD0⟩ := hv
  have hx := B.exec
  have hb := B.bytes
  have hr := B.returns
  have hts := atoms_spec (ws := wsX7_read) B.pre
  have hown : s.vm.findClass RX7 = some m.cls := findClass_of_methodNamed B.named
  have hlocks := B.notSynchronized
  subst hsz
  have hD := hD0.self (sz := s.heap.size)
  generalize hAe : va_A [(aM, .inr (6, [.int M_units, .ref aM_kind, .ref aM_wash, .ref aM_fuel, .ref aM_isBroken, .ref aM_length, .int M_wanted, .ref aM_leaving, .int M_parked, .ref aM_stand, .ref aM_many, .ref aM_track, .ref aM_stack, .ref aM_depth, .ref aM_canBe, .int M_states, .ref aM_told, .ref aM_gone, .ref aM_cost, .ref aM_ways, .ref aM_places, .ref aM_now, .ref aM_high, .int M_runSize, .ref aM_run, .ref aM_runUnit, .ref aM_order, .ref aM_end, .ref aM_bestOrder, .ref aM_bestEnd])), (aM_now, .inl (cI, 15, .inl M_now)), (aM_high, .inl (cI, 3, .inl M_high))] s.heap.size = A at hD ⊢
  have hA : ∀ q : Nat, s.heap.size ≤ q → A q := fun q h => by rw [← hAe]; exact Or.inr h
  have hS : va_S A s.heap s.heap [] := va_S.rf
  refine (fun (hall : ∀ Q0 : State → Prop, (∀ (v0 : Nat → Int32) (v1 : Nat → Int32) (H : Heap) (locs : List Loc) (pc : Nat) (ls : Array Slot), post v0 v1 → decode cX7_read pc = .ok (.return_, 1) → va_P D vwCl [(aM, .inr (6, [.int M_units, .ref aM_kind, .ref aM_wash, .ref aM_fuel, .ref aM_isBroken, .ref aM_length, .int M_wanted, .ref aM_leaving, .int M_parked, .ref aM_stand, .ref aM_many, .ref aM_track, .ref aM_stack, .ref aM_depth, .ref aM_canBe, .int M_states, .ref aM_told, .ref aM_gone, .ref aM_cost, .ref aM_ways, .ref aM_places, .ref aM_now, .ref aM_high, .int M_runSize, .ref aM_run, .ref aM_runUnit, .ref aM_order, .ref aM_end, .ref aM_bestOrder, .ref aM_bestEnd])), (aM_now, .inl (cI, 15, .inl v0)), (aM_high, .inl (cI, 3, .inl v1))] H → va_D A [(aM, .inr (6, [.int M_units, .ref aM_kind, .ref aM_wash, .ref aM_fuel, .ref aM_isBroken, .ref aM_length, .int M_wanted, .ref aM_leaving, .int M_parked, .ref aM_stand, .ref aM_many, .ref aM_track, .ref aM_stack, .ref aM_depth, .ref aM_canBe, .int M_states, .ref aM_told, .ref aM_gone, .ref aM_cost, .ref aM_ways, .ref aM_places, .ref aM_now, .ref aM_high, .int M_runSize, .ref aM_run, .ref aM_runUnit, .ref aM_order, .ref aM_end, .ref aM_bestOrder, .ref aM_bestEnd])), (aM_now, .inl (cI, 15, .inl v0)), (aM_high, .inl (cI, 3, .inl v1))] → va_S A s.heap H locs → W p l e ({ frames := 0, cells := 0, slots := 0, locals := 0 } : Room) s m ([.ref aM, .long x1] : List Value).toArray below meth c H locs 0 0 Q0 (F0 m pc ls [])) → W p l e ({ frames := 0, cells := 0, slots := 0, locals := 0 } : Room) s m ([.ref aM, .long x1] : List Value).toArray below meth c s.heap [] 0 0 Q0 (entryFrame m ([.ref aM, .long x1] : List Value).toArray 8)) => hall _ (fun v0 v1 H locs pc ls hw hd hP hD hS => W.vret hx hb hr (fun t ht hW => ⟨⟨(v0, v1), rfl, hw, by rw [ht]; exact hP, va_K.moved hW.alike hK, hD⟩, hS.F ht⟩) hS.2.2 hd)) ?_
  intro Q0 hret
  have hl := lv_entry ([.ref aM, .long x1]) (n := 8) (Nat.le_of_ble_eq_true rfl)
  rw [lg_entry_eq]
  generalize (lg_sl ([.ref aM, .long x1]) ++ List.replicate (8 - (lg_sl ([.ref aM, .long x1])).length) Slot.unset).toArray = ls at hl ⊢
  have hl : lv_has ls 8 [(0, .ref aM), (1, .long x1)] := hl
  have hinX7 : ∀ w ∈ u_ws RX7 TX7 30, w ∈ wsX7_read := by decide +kernel
  have hf64 := hts (.fieldLink RX7 64 "DepotNightModel" "now" "[I") (by decide +kernel)
  have hf67 := hts (.fieldLink RX7 67 "DepotNightModel" "high" "[I") (by decide +kernel)
  have wZ_X7_read_21 : ∀ (x5 : Int32) (K79 : Int64 → (Nat → Int32) → (Nat → Int32) → Prop), (∀ (x3 : Int64) (M_now : Nat → Int32) (M_high : Nat → Int32), K79 x3 M_now M_high → ∀ (H : Heap) (locs : List Loc) (ls : Array Slot), va_P D vwCl [(aM, .inr (6, [.int M_units, .ref aM_kind, .ref aM_wash, .ref aM_fuel, .ref aM_isBroken, .ref aM_length, .int M_wanted, .ref aM_leaving, .int M_parked, .ref aM_stand, .ref aM_many, .ref aM_track, .ref aM_stack, .ref aM_depth, .ref aM_canBe, .int M_states, .ref aM_told, .ref aM_gone, .ref aM_cost, .ref aM_ways, .ref aM_places, .ref aM_now, .ref aM_high, .int M_runSize, .ref aM_run, .ref aM_runUnit, .ref aM_order, .ref aM_end, .ref aM_bestOrder, .ref aM_bestEnd])), (aM_now, .inl (cI, 15, .inl M_now)), (aM_high, .inl (cI, 3, .inl M_high))] H → va_D A [(aM, .inr (6, [.int M_units, .ref aM_kind, .ref aM_wash, .ref aM_fuel, .ref aM_isBroken, .ref aM_length, .int M_wanted, .ref aM_leaving, .int M_parked, .ref aM_stand, .ref aM_many, .ref aM_track, .ref aM_stack, .ref aM_depth, .ref aM_canBe, .int M_states, .ref aM_told, .ref aM_gone, .ref aM_cost, .ref aM_ways, .ref aM_places, .ref aM_now, .ref aM_high, .int M_runSize, .ref aM_run, .ref aM_runUnit, .ref aM_order, .ref aM_end, .ref aM_bestOrder, .ref aM_bestEnd])), (aM_now, .inl (cI, 15, .inl M_now)), (aM_high, .inl (cI, 3, .inl M_high))] → va_S A s.heap H locs → lv_has ls 8 [(0, .ref aM), (3, .long x3), (5, .int x5)] → W p l e ({ frames := 0, cells := 0, slots := 0, locals := 0 } : Room) s m ([.ref aM, .long x1] : List Value).toArray below meth c H locs 0 0 Q0 (F0 m 79 ls [])) → ∀ (n : Nat) (x3 : Int64) (x6 : Int32) (M_now : Nat → Int32) (M_high : Nat → Int32), Z_X7_read_21 x1 post x5 K79 n x3 x6 M_now M_high → ∀ (H : Heap) (locs : List Loc) (ls : Array Slot), va_P D vwCl [(aM, .inr (6, [.int M_units, .ref aM_kind, .ref aM_wash, .ref aM_fuel, .ref aM_isBroken, .ref aM_length, .int M_wanted, .ref aM_leaving, .int M_parked, .ref aM_stand, .ref aM_many, .ref aM_track, .ref aM_stack, .ref aM_depth, .ref aM_canBe, .int M_states, .ref aM_told, .ref aM_gone, .ref aM_cost, .ref aM_ways, .ref aM_places, .ref aM_now, .ref aM_high, .int M_runSize, .ref aM_run, .ref aM_runUnit, .ref aM_order, .ref aM_end, .ref aM_bestOrder, .ref aM_bestEnd])), (aM_now, .inl (cI, 15, .inl M_now)), (aM_high, .inl (cI, 3, .inl M_high))] H → va_D A [(aM, .inr (6, [.int M_units, .ref aM_kind, .ref aM_wash, .ref aM_fuel, .ref aM_isBroken, .ref aM_length, .int M_wanted, .ref aM_leaving, .int M_parked, .ref aM_stand, .ref aM_many, .ref aM_track, .ref aM_stack, .ref aM_depth, .ref aM_canBe, .int M_states, .ref aM_told, .ref aM_gone, .ref aM_cost, .ref aM_ways, .ref aM_places, .ref aM_now, .ref aM_high, .int M_runSize, .ref aM_run, .ref aM_runUnit, .ref aM_order, .ref aM_end, .ref aM_bestOrder, .ref aM_bestEnd])), (aM_now, .inl (cI, 15, .inl M_now)), (aM_high, .inl (cI, 3, .inl M_high))] → va_S A s.heap H locs → lv_has ls 8 [(0, .ref aM), (3, .long x3), (5, .int x5), (6, .int x6)] → W p l e ({ frames := 0, cells := 0, slots := 0, locals := 0 } : Room) s m ([.ref aM, .long x1] : List Value).toArray below meth c H locs 0 0 Q0 (F0 m 21 ls []) := by
    intro x5 K79 hK79 n
    induction n with
    | zero =>
      intro x3 x6 M_now M_high hw
      exact (show False from hw).elim
    | succ n hK21 =>
      intro x3 x6 M_now M_high hw H locs ls hP hD hS hl
      have hw : Y_X7_read_21 x1 post x5 K79 (Z_X7_read_21 x1 post x5 K79 n) x3 x6 M_now M_high := hw
      unfold Y_X7_read_21 at hw
      refine lv_iload hx hb dX7_read_21 (lv_at hl 3 rfl) ?_
      refine lv_iconst (v := 5) hx hb dX7_read_23 (by decide) ?_
      refine lv_icmp_ge (tgt := 79) hx hb dX7_read_24 (by decide) (fun hc3 => ?_) (fun hc3 => ?_)
      · have hw := hw.1 hc3
        exact hK79 x3 M_now M_high hw H locs ls hP hD hS (lv_sub hl [0, 1, 2] rfl)
      · have hw := hw.2 hc3
        refine lv_lload_n hx hb dX7_read_27 rfl (lv_at hl 1 rfl) ?_
        refine lv_ldc2 (v := 6) hx hb hown (hts (.constantLong RX7 131 (6)) (by decide +kernel)) dX7_read_28 ?_
        refine lv_lrem hx hb dX7_read_31 (by decide) ?_
        refine lv_l2i hx hb dX7_read_32 rfl ?_
        refine lv_topi (fun y4 ey4 => ?_)
        have hw := hw y4 ey4
        refine lv_istore (lv' := [(7, .int y4), (0, .ref aM), (3, .long x3), (5, .int x5), (6, .int x6)]) hx hb dX7_read_33 hl (by decide) rfl (fun ls hl => ?_)
        refine lv_lload_n hx hb dX7_read_35 rfl (lv_at hl 2 rfl) ?_
        refine lv_ldc2 (v := 6) hx hb hown (hts (.constantLong RX7 131 (6)) (by decide +kernel)) dX7_read_36 ?_
        refine lv_ldiv hx hb dX7_read_39 (by decide) ?_
        refine lv_topl (fun y5 ey5 => ?_)
        have hw := hw y5 ey5
        refine lv_lstore_n (lv' := [(3, .long y5), (7, .int y4), (0, .ref aM), (5, .int x5), (6, .int x6)]) hx hb dX7_read_40 rfl hl (by decide) rfl (fun ls hl => ?_)
        refine lv_iload hx hb dX7_read_41 (lv_at hl 1 rfl) ?_
        refine lv_if_le (tgt := 73) hx hb dX7_read_43 (by decide) (fun hc6 => ?_) (fun hc6 => ?_)
        · have hw := hw.1 hc6
          refine lv_iinc (v := (x6 + 1)) (lv' := [(6, .int (x6 + 1)), (3, .long y5), (7, .int y4), (0, .ref aM), (5, .int x5)]) hx hb dX7_read_73 hl (k := 4) rfl rfl (by decide) rfl (fun ls hl => ?_)
          refine lv_goto (tgt := 21) hx hb dX7_read_76 (by decide) ?_
          exact hK21 y5 (x6 + 1) M_now M_high hw H locs ls hP hD hS (lv_sub hl [3, 1, 4, 0] rfl)
        · have hw := hw.2 hc6
          refine lv_aload_n hx hb dX7_read_46 rfl (lv_at hl 2 rfl) ?_
          refine va_get (D := D) (ci := 6) (v := .ref aM_now) (C := RX7) (T := TX7) (N := 30) hx hb hts hinX7 hown hK hP 0 rfl rfl 21 (by decide) hf64 (fun _ h9 => h9) rfl dX7_read_47 ?_
          refine lv_iconst (v := 5) hx hb dX7_read_50 (by decide) ?_
          refine lv_iload hx hb dX7_read_51 (lv_at hl 3 rfl) ?_
          refine lv_imul hx hb dX7_read_53 ?_
          refine lv_iload hx hb dX7_read_54 (lv_at hl 4 rfl) ?_
          refine lv_iadd hx hb dX7_read_56 ?_
          refine lv_iload hx hb dX7_read_57 (lv_at hl 1 rfl) ?_
          refine lv_iconst (v := 1) hx hb dX7_read_59 (by decide) ?_
          refine lv_isub hx hb dX7_read_60 ?_
          refine lv_topi (fun y8 ey8 => ?_)
          have hw := hw y8 ey8
          obtain ⟨hb7, hw⟩ := hw
          refine va_iast hx hb hK hP hD hS 1 0 rfl rfl hb7 dX7_read_61 (fun H locs hP hD hS => ?_)
          have hP : va_P D vwCl [(aM, .inr (6, [.int M_units, .ref aM_kind, .ref aM_wash, .ref aM_fuel, .ref aM_isBroken, .ref aM_length, .int M_wanted, .ref aM_leaving, .int M_parked, .ref aM_stand, .ref aM_many, .ref aM_track, .ref aM_stack, .ref aM_depth, .ref aM_canBe, .int M_states, .ref aM_told, .ref aM_gone, .ref aM_cost, .ref aM_ways, .ref aM_places, .ref aM_now, .ref aM_high, .int M_runSize, .ref aM_run, .ref aM_runUnit, .ref aM_order, .ref aM_end, .ref aM_bestOrder, .ref aM_bestEnd])), (aM_now, .inl (cI, 15, .inl (upd M_now (((5 : Int32) * x5) + x6).toNatClampNeg y8))), (aM_high, .inl (cI, 3, .inl M_high))] H := hP
          have hD : va_D A [(aM, .inr (6, [.int M_units, .ref aM_kind, .ref aM_wash, .ref aM_fuel, .ref aM_isBroken, .ref aM_length, .int M_wanted, .ref aM_leaving, .int M_parked, .ref aM_stand, .ref aM_many, .ref aM_track, .ref aM_stack, .ref aM_depth, .ref aM_canBe, .int M_states, .ref aM_told, .ref aM_gone, .ref aM_cost, .ref aM_ways, .ref aM_places, .ref aM_now, .ref aM_high, .int M_runSize, .ref aM_run, .ref aM_runUnit, .ref aM_order, .ref aM_end, .ref aM_bestOrder, .ref aM_bestEnd])), (aM_now, .inl (cI, 15, .inl (upd M_now (((5 : Int32) * x5) + x6).toNatClampNeg y8))), (aM_high, .inl (cI, 3, .inl M_high))] := hD
          refine lv_aload_n hx hb dX7_read_62 rfl (lv_at hl 2 rfl) ?_
          refine va_get (D := D) (ci := 6) (v := .ref aM_high) (C := RX7) (T := TX7) (N := 30) hx hb hts hinX7 hown hK hP 0 rfl rfl 22 (by decide) hf67 (fun _ h9 => h9) rfl dX7_read_63 ?_
          refine lv_iload hx hb dX7_read_66 (lv_at hl 3 rfl) ?_
          refine lv_dup2_11 hx hb dX7_read_68 rfl rfl ?_
          obtain ⟨hb9, hw⟩ := hw
          refine va_iald hx hb hK hP 2 0 rfl rfl hb9 dX7_read_69 ?_
          refine lv_iconst (v := 1) hx hb dX7_read_70 (by decide) ?_
          refine lv_iadd hx hb dX7_read_71 ?_
          refine lv_topi (fun y11 ey11 => ?_)
          have hw := hw y11 ey11
          obtain ⟨hb10, hw⟩ := hw
          refine va_iast hx hb hK hP hD hS 2 0 rfl rfl hb10 dX7_read_72 (fun H locs hP hD hS => ?_)
          have hP : va_P D vwCl [(aM, .inr (6, [.int M_units, .ref aM_kind, .ref aM_wash, .ref aM_fuel, .ref aM_isBroken, .ref aM_length, .int M_wanted, .ref aM_leaving, .int M_parked, .ref aM_stand, .ref aM_many, .ref aM_track, .ref aM_stack, .ref aM_depth, .ref aM_canBe, .int M_states, .ref aM_told, .ref aM_gone, .ref aM_cost, .ref aM_ways, .ref aM_places, .ref aM_now, .ref aM_high, .int M_runSize, .ref aM_run, .ref aM_runUnit, .ref aM_order, .ref aM_end, .ref aM_bestOrder, .ref aM_bestEnd])), (aM_now, .inl (cI, 15, .inl (upd M_now (((5 : Int32) * x5) + x6).toNatClampNeg y8))), (aM_high, .inl (cI, 3, .inl (upd M_high x5.toNatClampNeg y11)))] H := hP
          have hD : va_D A [(aM, .inr (6, [.int M_units, .ref aM_kind, .ref aM_wash, .ref aM_fuel, .ref aM_isBroken, .ref aM_length, .int M_wanted, .ref aM_leaving, .int M_parked, .ref aM_stand, .ref aM_many, .ref aM_track, .ref aM_stack, .ref aM_depth, .ref aM_canBe, .int M_states, .ref aM_told, .ref aM_gone, .ref aM_cost, .ref aM_ways, .ref aM_places, .ref aM_now, .ref aM_high, .int M_runSize, .ref aM_run, .ref aM_runUnit, .ref aM_order, .ref aM_end, .ref aM_bestOrder, .ref aM_bestEnd])), (aM_now, .inl (cI, 15, .inl (upd M_now (((5 : Int32) * x5) + x6).toNatClampNeg y8))), (aM_high, .inl (cI, 3, .inl (upd M_high x5.toNatClampNeg y11)))] := hD
          refine lv_iinc (v := (x6 + 1)) (lv' := [(6, .int (x6 + 1)), (3, .long y5), (7, .int y4), (0, .ref aM), (5, .int x5)]) hx hb dX7_read_73 hl (k := 4) rfl rfl (by decide) rfl (fun ls hl => ?_)
          refine lv_goto (tgt := 21) hx hb dX7_read_76 (by decide) ?_
          exact hK21 y5 (x6 + 1) (upd M_now (((5 : Int32) * x5) + x6).toNatClampNeg y8) (upd M_high x5.toNatClampNeg y11) hw H locs ls hP hD hS (lv_sub hl [3, 1, 4, 0] rfl)
  have wZ_X7_read_5 : ∀ (n : Nat) (x3 : Int64) (x5 : Int32) (M_now : Nat → Int32) (M_high : Nat → Int32), Z_X7_read_5 x1 post n x3 x5 M_now M_high → ∀ (H : Heap) (locs : List Loc) (ls : Array Slot), va_P D vwCl [(aM, .inr (6, [.int M_units, .ref aM_kind, .ref aM_wash, .ref aM_fuel, .ref aM_isBroken, .ref aM_length, .int M_wanted, .ref aM_leaving, .int M_parked, .ref aM_stand, .ref aM_many, .ref aM_track, .ref aM_stack, .ref aM_depth, .ref aM_canBe, .int M_states, .ref aM_told, .ref aM_gone, .ref aM_cost, .ref aM_ways, .ref aM_places, .ref aM_now, .ref aM_high, .int M_runSize, .ref aM_run, .ref aM_runUnit, .ref aM_order, .ref aM_end, .ref aM_bestOrder, .ref aM_bestEnd])), (aM_now, .inl (cI, 15, .inl M_now)), (aM_high, .inl (cI, 3, .inl M_high))] H → va_D A [(aM, .inr (6, [.int M_units, .ref aM_kind, .ref aM_wash, .ref aM_fuel, .ref aM_isBroken, .ref aM_length, .int M_wanted, .ref aM_leaving, .int M_parked, .ref aM_stand, .ref aM_many, .ref aM_track, .ref aM_stack, .ref aM_depth, .ref aM_canBe, .int M_states, .ref aM_told, .ref aM_gone, .ref aM_cost, .ref aM_ways, .ref aM_places, .ref aM_now, .ref aM_high, .int M_runSize, .ref aM_run, .ref aM_runUnit, .ref aM_order, .ref aM_end, .ref aM_bestOrder, .ref aM_bestEnd])), (aM_now, .inl (cI, 15, .inl M_now)), (aM_high, .inl (cI, 3, .inl M_high))] → va_S A s.heap H locs → lv_has ls 8 [(0, .ref aM), (3, .long x3), (5, .int x5)] → W p l e ({ frames := 0, cells := 0, slots := 0, locals := 0 } : Room) s m ([.ref aM, .long x1] : List Value).toArray below meth c H locs 0 0 Q0 (F0 m 5 ls []) := by
    intro n
    induction n with
    | zero =>
      intro x3 x5 M_now M_high hw
      exact (show False from hw).elim
    | succ n hK5 =>
      intro x3 x5 M_now M_high hw H locs ls hP hD hS hl
      have hw : Y_X7_read_5 x1 post (Z_X7_read_5 x1 post n) x3 x5 M_now M_high := hw
      unfold Y_X7_read_5 at hw
      refine lv_iload hx hb dX7_read_5 (lv_at hl 2 rfl) ?_
      refine lv_if_lt (tgt := 85) hx hb dX7_read_7 (by decide) (fun hc1 => ?_) (fun hc1 => ?_)
      · have hw := hw.1 hc1
        exact hret M_now M_high H locs 85 ls hw dX7_read_85 hP hD hS
      · have hw := hw.2 hc1
        refine lv_aload_n hx hb dX7_read_10 rfl (lv_at hl 0 rfl) ?_
        refine va_get (D := D) (ci := 6) (v := .ref aM_high) (C := RX7) (T := TX7) (N := 30) hx hb hts hinX7 hown hK hP 0 rfl rfl 22 (by decide) hf67 (fun _ h9 => h9) rfl dX7_read_11 ?_
        refine lv_iload hx hb dX7_read_14 (lv_at hl 2 rfl) ?_
        refine lv_iconst (v := 0) hx hb dX7_read_16 (by decide) ?_
        obtain ⟨hb2, hw⟩ := hw
        refine va_iast hx hb hK hP hD hS 2 0 rfl rfl hb2 dX7_read_17 (fun H locs hP hD hS => ?_)
        have hP : va_P D vwCl [(aM, .inr (6, [.int M_units, .ref aM_kind, .ref aM_wash, .ref aM_fuel, .ref aM_isBroken, .ref aM_length, .int M_wanted, .ref aM_leaving, .int M_parked, .ref aM_stand, .ref aM_many, .ref aM_track, .ref aM_stack, .ref aM_depth, .ref aM_canBe, .int M_states, .ref aM_told, .ref aM_gone, .ref aM_cost, .ref aM_ways, .ref aM_places, .ref aM_now, .ref aM_high, .int M_runSize, .ref aM_run, .ref aM_runUnit, .ref aM_order, .ref aM_end, .ref aM_bestOrder, .ref aM_bestEnd])), (aM_now, .inl (cI, 15, .inl M_now)), (aM_high, .inl (cI, 3, .inl (upd M_high x5.toNatClampNeg (0 : Int32))))] H := hP
        have hD : va_D A [(aM, .inr (6, [.int M_units, .ref aM_kind, .ref aM_wash, .ref aM_fuel, .ref aM_isBroken, .ref aM_length, .int M_wanted, .ref aM_leaving, .int M_parked, .ref aM_stand, .ref aM_many, .ref aM_track, .ref aM_stack, .ref aM_depth, .ref aM_canBe, .int M_states, .ref aM_told, .ref aM_gone, .ref aM_cost, .ref aM_ways, .ref aM_places, .ref aM_now, .ref aM_high, .int M_runSize, .ref aM_run, .ref aM_runUnit, .ref aM_order, .ref aM_end, .ref aM_bestOrder, .ref aM_bestEnd])), (aM_now, .inl (cI, 15, .inl M_now)), (aM_high, .inl (cI, 3, .inl (upd M_high x5.toNatClampNeg (0 : Int32))))] := hD
        refine lv_iconst (v := 0) hx hb dX7_read_18 (by decide) ?_
        refine lv_istore (lv' := [(6, .int 0), (0, .ref aM), (3, .long x3), (5, .int x5)]) hx hb dX7_read_19 hl (by decide) rfl (fun ls hl => ?_)
        obtain ⟨n15, hw⟩ := hw
        refine wZ_X7_read_21 x5 _ (fun x3_12 M_now_13 M_high_14 hw H locs ls hP hD hS hl => ?_) n15 x3 0 M_now (upd M_high x5.toNatClampNeg (0 : Int32)) hw H locs ls hP hD hS (lv_sub hl [1, 2, 3, 0] rfl)
        refine lv_iinc (v := (x5 + (-1))) (lv' := [(5, .int (x5 + (-1))), (0, .ref aM), (3, .long x3_12)]) hx hb dX7_read_79 hl (k := 2) rfl rfl (by decide) rfl (fun ls hl => ?_)
        refine lv_goto (tgt := 5) hx hb dX7_read_82 (by decide) ?_
        exact hK5 x3_12 (x5 + (-1)) M_now_13 M_high_14 hw H locs ls hP hD hS (lv_sub hl [1, 2, 0] rfl)
  obtain ⟨H, hHe⟩ : ∃ H, H = s.heap := ⟨_, rfl⟩
  obtain ⟨locs, hLo⟩ : ∃ locs : List Loc, locs = [] := ⟨_, rfl⟩
  have hS : va_S A s.heap H locs := by rw [hHe, hLo]; exact hS
  have hP : va_P D vwCl [(aM, .inr (6, [.int M_units, .ref aM_kind, .ref aM_wash, .ref aM_fuel, .ref aM_isBroken, .ref aM_length, .int M_wanted, .ref aM_leaving, .int M_parked, .ref aM_stand, .ref aM_many, .ref aM_track, .ref aM_stack, .ref aM_depth, .ref aM_canBe, .int M_states, .ref aM_told, .ref aM_gone, .ref aM_cost, .ref aM_ways, .ref aM_places, .ref aM_now, .ref aM_high, .int M_runSize, .ref aM_run, .ref aM_runUnit, .ref aM_order, .ref aM_end, .ref aM_bestOrder, .ref aM_bestEnd])), (aM_now, .inl (cI, 15, .inl M_now)), (aM_high, .inl (cI, 3, .inl M_high))] H := by rw [hHe]; exact hP
  refine (fun (hgo : W p l e ({ frames := 0, cells := 0, slots := 0, locals := 0 } : Room) s m ([.ref aM, .long x1] : List Value).toArray below meth c H locs 0 0 Q0 (F0 m 0 ls [])) => by rw [hHe, hLo] at hgo; exact hgo) ?_
  refine lv_lload_n hx hb dX7_read_0 rfl (lv_at hl 1 rfl) ?_
  refine lv_lstore_n (lv' := [(3, .long x1), (0, .ref aM), (1, .long x1)]) hx hb dX7_read_1 rfl hl (by decide) rfl (fun ls hl => ?_)
  refine lv_iconst (v := 2) hx hb dX7_read_2 (by decide) ?_
  refine lv_istore (lv' := [(5, .int 2), (3, .long x1), (0, .ref aM), (1, .long x1)]) hx hb dX7_read_3 hl (by decide) rfl (fun ls hl => ?_)
  obtain ⟨n16, hw⟩ := hw
  exact wZ_X7_read_5  n16 x1 2 M_now M_high hw H locs ls hP hD hS (lv_sub hl [2, 1, 0] rfl)
/-! X7_findEnds -/
def B_X7_findEnds_38 (M_units : Int32) (M_wash : Nat → Int32) (M_fuel : Nat → Int32) (M_order : Nat → Int32) (post : Int32 → (Nat → Int32) → Prop) (K6 : Int32 → Int32 → Int32 → (Nat → Int32) → Prop) (x1 : Int32) (x3 : Int32) (s0 : Int32) (M_end : Nat → Int32) : Prop :=
  vp_in x3 5 ∧ (vp_in (M_order x3.toNatClampNeg) 5 ∧ (∀ y8 : Int32, y8 = (s0 + (M_fuel (M_order x3.toNatClampNeg).toNatClampNeg)) → (vp_in x3 5 ∧ (K6 x1 y8 (x3 + 1) (upd M_end x3.toNatClampNeg y8)))))
def Y_X7_findEnds_6 (M_units : Int32) (M_wash : Nat → Int32) (M_fuel : Nat → Int32) (M_order : Nat → Int32) (post : Int32 → (Nat → Int32) → Prop) (K6 : Int32 → Int32 → Int32 → (Nat → Int32) → Prop) (x1 : Int32) (x2 : Int32) (x3 : Int32) (M_end : Nat → Int32) : Prop :=
  ((M_units ≤ x3 → post x2 M_end) ∧ (¬ M_units ≤ x3 → vp_in x3 5 ∧ (vp_in (M_order x3.toNatClampNeg) 5 ∧ (∀ y4 : Int32, y4 = (x1 + (M_wash (M_order x3.toNatClampNeg).toNatClampNeg)) → (((y4 ≤ x2 → B_X7_findEnds_38 M_units M_wash M_fuel M_order post K6 y4 x3 x2 M_end) ∧ (¬ y4 ≤ x2 → B_X7_findEnds_38 M_units M_wash M_fuel M_order post K6 y4 x3 y4 M_end)))))))
def Z_X7_findEnds_6 (M_units : Int32) (M_wash : Nat → Int32) (M_fuel : Nat → Int32) (M_order : Nat → Int32) (post : Int32 → (Nat → Int32) → Prop) : Nat → Int32 → Int32 → Int32 → (Nat → Int32) → Prop
  | 0 => fun _ _ _ _ => False
  | n + 1 => Y_X7_findEnds_6 M_units M_wash M_fuel M_order post (Z_X7_findEnds_6 M_units M_wash M_fuel M_order post n)
def wp_X7_findEnds (M_units : Int32) (M_wash : Nat → Int32) (M_fuel : Nat → Int32) (M_order : Nat → Int32) (M_end : Nat → Int32) (post : Int32 → (Nat → Int32) → Prop) : Prop :=
  ∃ n, Z_X7_findEnds_6 M_units M_wash M_fuel M_order post n 0 0 0 M_end
set_option maxHeartbeats 4000000 in
set_option maxRecDepth 100000 in
theorem c_X7_findEnds (l : Launch) (D : va_G) (cI cJ cZ : ClassId) (aM aM_kind aM_wash aM_fuel aM_isBroken aM_length aM_leaving aM_stand aM_many aM_track aM_stack aM_depth aM_canBe aM_told aM_gone aM_cost aM_ways aM_places aM_now aM_high aM_run aM_runUnit aM_order aM_end aM_bestOrder aM_bestEnd : Nat) (sz : Nat) (M_units : Int32) (M_wanted : Int32) (M_parked : Int32) (M_states : Int32) (M_runSize : Int32) (M_wash : Nat → Int32) (M_fuel : Nat → Int32) (M_order : Nat → Int32) (M_end : Nat → Int32) (post : Int32 → (Nat → Int32) → Prop) (hw : wp_X7_findEnds M_units M_wash M_fuel M_order M_end post) : Met l yX7_findEnds wsX7_findEnds ({ frames := 0, cells := 0, slots := 0, locals := 0 } : Room) (va_Pc [.ref aM] (zPre D cI cJ cZ [(aM, .inr (6, [.int M_units, .ref aM_kind, .ref aM_wash, .ref aM_fuel, .ref aM_isBroken, .ref aM_length, .int M_wanted, .ref aM_leaving, .int M_parked, .ref aM_stand, .ref aM_many, .ref aM_track, .ref aM_stack, .ref aM_depth, .ref aM_canBe, .int M_states, .ref aM_told, .ref aM_gone, .ref aM_cost, .ref aM_ways, .ref aM_places, .ref aM_now, .ref aM_high, .int M_runSize, .ref aM_run, .ref aM_runUnit, .ref aM_order, .ref aM_end, .ref aM_bestOrder, .ref aM_bestEnd])), (aM_wash, .inl (cI, 5, .inl M_wash)), (aM_fuel, .inl (cI, 5, .inl M_fuel)), (aM_order, .inl (cI, 5, .inl M_order)), (aM_end, .inl (cI, 5, .inl M_end))] sz)) (va_Qi (fun (r : Int32) (u : (Nat → Int32)) => post r u) (zPost D cI cJ cZ (va_A [(aM, .inr (6, [.int M_units, .ref aM_kind, .ref aM_wash, .ref aM_fuel, .ref aM_isBroken, .ref aM_length, .int M_wanted, .ref aM_leaving, .int M_parked, .ref aM_stand, .ref aM_many, .ref aM_track, .ref aM_stack, .ref aM_depth, .ref aM_canBe, .int M_states, .ref aM_told, .ref aM_gone, .ref aM_cost, .ref aM_ways, .ref aM_places, .ref aM_now, .ref aM_high, .int M_runSize, .ref aM_run, .ref aM_runUnit, .ref aM_order, .ref aM_end, .ref aM_bestOrder, .ref aM_bestEnd])), (aM_wash, .inl (cI, 5, .inl M_wash)), (aM_fuel, .inl (cI, 5, .inl M_fuel)), (aM_order, .inl (cI, 5, .inl M_order)), (aM_end, .inl (cI, 5, .inl M_end))] sz) (fun u : (Nat → Int32) => [(aM, .inr (6, [.int M_units, .ref aM_kind, .ref aM_wash, .ref aM_fuel, .ref aM_isBroken, .ref aM_length, .int M_wanted, .ref aM_leaving, .int M_parked, .ref aM_stand, .ref aM_many, .ref aM_track, .ref aM_stack, .ref aM_depth, .ref aM_canBe, .int M_states, .ref aM_told, .ref aM_gone, .ref aM_cost, .ref aM_ways, .ref aM_places, .ref aM_now, .ref aM_high, .int M_runSize, .ref aM_run, .ref aM_runUnit, .ref aM_order, .ref aM_end, .ref aM_bestOrder, .ref aM_bestEnd])), (aM_wash, .inl (cI, 5, .inl M_wash)), (aM_fuel, .inl (cI, 5, .inl M_fuel)), (aM_order, .inl (cI, 5, .inl M_order)), (aM_end, .inl (cI, 5, .inl u))])) (va_A [(aM, .inr (6, [.int M_units, .ref aM_kind, .ref aM_wash, .ref aM_fuel, .ref aM_isBroken, .ref aM_length, .int M_wanted, .ref aM_leaving, .int M_parked, .ref aM_stand, .ref aM_many, .ref aM_track, .ref aM_stack, .ref aM_depth, .ref aM_canBe, .int M_states, .ref aM_told, .ref aM_gone, .ref aM_cost, .ref aM_ways, .ref aM_places, .ref aM_now, .ref aM_high, .int M_runSize, .ref aM_run, .ref aM_runUnit, .ref aM_order, .ref aM_end, .ref aM_bestOrder, .ref aM_bestEnd])), (aM_wash, .inl (cI, 5, .inl M_wash)), (aM_fuel, .inl (cI, 5, .inl M_fuel)), (aM_order, .inl (cI, 5, .inl M_order)), (aM_end, .inl (cI, 5, .inl M_end))] sz)) 0 0 (va_A [(aM, .inr (6, [.int M_units, .ref aM_kind, .ref aM_wash, .ref aM_fuel, .ref aM_isBroken, .ref aM_length, .int M_wanted, .ref aM_leaving, .int M_parked, .ref aM_stand, .ref aM_many, .ref aM_track, .ref aM_stack, .ref aM_depth, .ref aM_canBe, .int M_states, .ref aM_told, .ref aM_gone, .ref aM_cost, .ref aM_ways, .ref aM_places, .ref aM_now, .ref aM_high, .int M_runSize, .ref aM_run, .ref aM_runUnit, .ref aM_order, .ref aM_end, .ref aM_bestOrder, .ref aM_bestEnd])), (aM_wash, .inl (cI, 5, .inl M_wash)), (aM_fuel, .inl (cI, 5, .inl M_fuel)), (aM_order, .inl (cI, 5, .inl M_order)), (aM_end, .inl (cI, 5, .inl M_end))] sz) := by
  unfold wp_X7_findEnds at hw
  refine Met.ofW (cc := cX7_findEnds) (maxL := 4) (ret := some .int) (by decide) rfl ?_
  intro p e s m args below meth c s₁ B hml hv
  obtain ⟨rfl, hsz, hP, hK, hD0⟩ := hv
  have hx := B.exec
  have hb := B.bytes
  have hr := B.returns
  have hts := atoms_spec (ws := wsX7_findEnds) B.pre
  have hown : s.vm.findClass RX7 = some m.cls := findClass_of_methodNamed B.named
  have hlocks := B.notSynchronized
  subst hsz
  have hD := hD0.self (sz := s.heap.size)
  generalize hAe : va_A [(aM, .inr (6, [.int M_units, .ref aM_kind, .ref aM_wash, .ref aM_fuel, .ref aM_isBroken, .ref aM_length, .int M_wanted, .ref aM_leaving, .int M_parked, .ref aM_stand, .ref aM_many, .ref aM_track, .ref aM_stack, .ref aM_depth, .ref aM_canBe, .int M_states, .ref aM_told, .ref aM_gone, .ref aM_cost, .ref aM_ways, .ref aM_places, .ref aM_now, .ref aM_high, .int M_runSize, .ref aM_run, .ref aM_runUnit, .ref aM_order, .ref aM_end, .ref aM_bestOrder, .ref aM_bestEnd])), (aM_wash, .inl (cI, 5, .inl M_wash)), (aM_fuel, .inl (cI, 5, .inl M_fuel)), (aM_order, .inl (cI, 5, .inl M_order)), (aM_end, .inl (cI, 5, .inl M_end))] s.heap.size = A at hD ⊢
  have hA : ∀ q : Nat, s.heap.size ≤ q → A q := fun q h => by rw [← hAe]; exact Or.inr h
  have hS : va_S A s.heap s.heap [] := va_S.rf
  refine (fun (hall : ∀ Q0 : State → Prop, (∀ (r : Int32) (v0 : Nat → Int32) (H : Heap) (locs : List Loc) (pc : Nat) (ls : Array Slot), post r v0 → decode cX7_findEnds pc = .ok (.ireturn, 1) → va_P D vwCl [(aM, .inr (6, [.int M_units, .ref aM_kind, .ref aM_wash, .ref aM_fuel, .ref aM_isBroken, .ref aM_length, .int M_wanted, .ref aM_leaving, .int M_parked, .ref aM_stand, .ref aM_many, .ref aM_track, .ref aM_stack, .ref aM_depth, .ref aM_canBe, .int M_states, .ref aM_told, .ref aM_gone, .ref aM_cost, .ref aM_ways, .ref aM_places, .ref aM_now, .ref aM_high, .int M_runSize, .ref aM_run, .ref aM_runUnit, .ref aM_order, .ref aM_end, .ref aM_bestOrder, .ref aM_bestEnd])), (aM_wash, .inl (cI, 5, .inl M_wash)), (aM_fuel, .inl (cI, 5, .inl M_fuel)), (aM_order, .inl (cI, 5, .inl M_order)), (aM_end, .inl (cI, 5, .inl v0))] H → va_D A [(aM, .inr (6, [.int M_units, .ref aM_kind, .ref aM_wash, .ref aM_fuel, .ref aM_isBroken, .ref aM_length, .int M_wanted, .ref aM_leaving, .int M_parked, .ref aM_stand, .ref aM_many, .ref aM_track, .ref aM_stack, .ref aM_depth, .ref aM_canBe, .int M_states, .ref aM_told, .ref aM_gone, .ref aM_cost, .ref aM_ways, .ref aM_places, .ref aM_now, .ref aM_high, .int M_runSize, .ref aM_run, .ref aM_runUnit, .ref aM_order, .ref aM_end, .ref aM_bestOrder, .ref aM_bestEnd])), (aM_wash, .inl (cI, 5, .inl M_wash)), (aM_fuel, .inl (cI, 5, .inl M_fuel)), (aM_order, .inl (cI, 5, .inl M_order)), (aM_end, .inl (cI, 5, .inl v0))] → va_S A s.heap H locs → W p l e ({ frames := 0, cells := 0, slots := 0, locals := 0 } : Room) s m ([.ref aM] : List Value).toArray below meth c H locs 0 0 Q0 (F0 m pc ls [.int r])) → W p l e ({ frames := 0, cells := 0, slots := 0, locals := 0 } : Room) s m ([.ref aM] : List Value).toArray below meth c s.heap [] 0 0 Q0 (entryFrame m ([.ref aM] : List Value).toArray 4)) => hall _ (fun r v0 H locs pc ls hw hd hP hD hS => W.iret (v := r) hx hb hr (fun t ht hW => ⟨⟨r, v0, rfl, hw, by rw [ht]; exact hP, va_K.moved hW.alike hK, hD⟩, hS.F ht⟩) hS.2.2 hd)) ?_
  intro Q0 hret
  have hl := lv_entry ([.ref aM]) (n := 4) (Nat.le_of_ble_eq_true rfl)
  rw [lg_entry_eq]
  generalize (lg_sl ([.ref aM]) ++ List.replicate (4 - (lg_sl ([.ref aM])).length) Slot.unset).toArray = ls at hl ⊢
  have hl : lv_has ls 4 [(0, .ref aM)] := hl
  have hinX7 : ∀ w ∈ u_ws RX7 TX7 30, w ∈ wsX7_findEnds := by decide +kernel
  have hf13 := hts (.fieldLink RX7 13 "DepotNightModel" "wash" "[I") (by decide +kernel)
  have hf16 := hts (.fieldLink RX7 16 "DepotNightModel" "fuel" "[I") (by decide +kernel)
  have hf76 := hts (.fieldLink RX7 76 "DepotNightModel" "order" "[I") (by decide +kernel)
  have hf79 := hts (.fieldLink RX7 79 "DepotNightModel" "end" "[I") (by decide +kernel)
  have hf88 := hts (.fieldLink RX7 88 "DepotNightModel" "units" "I") (by decide +kernel)
  have wB_X7_findEnds_38 : ∀ (K6 : Int32 → Int32 → Int32 → (Nat → Int32) → Prop), (∀ (x1 : Int32) (x2 : Int32) (x3 : Int32) (M_end : Nat → Int32), K6 x1 x2 x3 M_end → ∀ (H : Heap) (locs : List Loc) (ls : Array Slot), va_P D vwCl [(aM, .inr (6, [.int M_units, .ref aM_kind, .ref aM_wash, .ref aM_fuel, .ref aM_isBroken, .ref aM_length, .int M_wanted, .ref aM_leaving, .int M_parked, .ref aM_stand, .ref aM_many, .ref aM_track, .ref aM_stack, .ref aM_depth, .ref aM_canBe, .int M_states, .ref aM_told, .ref aM_gone, .ref aM_cost, .ref aM_ways, .ref aM_places, .ref aM_now, .ref aM_high, .int M_runSize, .ref aM_run, .ref aM_runUnit, .ref aM_order, .ref aM_end, .ref aM_bestOrder, .ref aM_bestEnd])), (aM_wash, .inl (cI, 5, .inl M_wash)), (aM_fuel, .inl (cI, 5, .inl M_fuel)), (aM_order, .inl (cI, 5, .inl M_order)), (aM_end, .inl (cI, 5, .inl M_end))] H → va_D A [(aM, .inr (6, [.int M_units, .ref aM_kind, .ref aM_wash, .ref aM_fuel, .ref aM_isBroken, .ref aM_length, .int M_wanted, .ref aM_leaving, .int M_parked, .ref aM_stand, .ref aM_many, .ref aM_track, .ref aM_stack, .ref aM_depth, .ref aM_canBe, .int M_states, .ref aM_told, .ref aM_gone, .ref aM_cost, .ref aM_ways, .ref aM_places, .ref aM_now, .ref aM_high, .int M_runSize, .ref aM_run, .ref aM_runUnit, .ref aM_order, .ref aM_end, .ref aM_bestOrder, .ref aM_bestEnd])), (aM_wash, .inl (cI, 5, .inl M_wash)), (aM_fuel, .inl (cI, 5, .inl M_fuel)), (aM_order, .inl (cI, 5, .inl M_order)), (aM_end, .inl (cI, 5, .inl M_end))] → va_S A s.heap H locs → lv_has ls 4 [(0, .ref aM), (1, .int x1), (2, .int x2), (3, .int x3)] → W p l e ({ frames := 0, cells := 0, slots := 0, locals := 0 } : Room) s m ([.ref aM] : List Value).toArray below meth c H locs 0 0 Q0 (F0 m 6 ls [])) → ∀ (x1 : Int32) (x3 : Int32) (s0 : Int32) (M_end : Nat → Int32), B_X7_findEnds_38 M_units M_wash M_fuel M_order post K6 x1 x3 s0 M_end → ∀ (H : Heap) (locs : List Loc) (ls : Array Slot), va_P D vwCl [(aM, .inr (6, [.int M_units, .ref aM_kind, .ref aM_wash, .ref aM_fuel, .ref aM_isBroken, .ref aM_length, .int M_wanted, .ref aM_leaving, .int M_parked, .ref aM_stand, .ref aM_many, .ref aM_track, .ref aM_stack, .ref aM_depth, .ref aM_canBe, .int M_states, .ref aM_told, .ref aM_gone, .ref aM_cost, .ref aM_ways, .ref aM_places, .ref aM_now, .ref aM_high, .int M_runSize, .ref aM_run, .ref aM_runUnit, .ref aM_order, .ref aM_end, .ref aM_bestOrder, .ref aM_bestEnd])), (aM_wash, .inl (cI, 5, .inl M_wash)), (aM_fuel, .inl (cI, 5, .inl M_fuel)), (aM_order, .inl (cI, 5, .inl M_order)), (aM_end, .inl (cI, 5, .inl M_end))] H → va_D A [(aM, .inr (6, [.int M_units, .ref aM_kind, .ref aM_wash, .ref aM_fuel, .ref aM_isBroken, .ref aM_length, .int M_wanted, .ref aM_leaving, .int M_parked, .ref aM_stand, .ref aM_many, .ref aM_track, .ref aM_stack, .ref aM_depth, .ref aM_canBe, .int M_states, .ref aM_told, .ref aM_gone, .ref aM_cost, .ref aM_ways, .ref aM_places, .ref aM_now, .ref aM_high, .int M_runSize, .ref aM_run, .ref aM_runUnit, .ref aM_order, .ref aM_end, .ref aM_bestOrder, .ref aM_bestEnd])), (aM_wash, .inl (cI, 5, .inl M_wash)), (aM_fuel, .inl (cI, 5, .inl M_fuel)), (aM_order, .inl (cI, 5, .inl M_order)), (aM_end, .inl (cI, 5, .inl M_end))] → va_S A s.heap H locs → lv_has ls 4 [(0, .ref aM), (1, .int x1), (3, .int x3)] → W p l e ({ frames := 0, cells := 0, slots := 0, locals := 0 } : Room) s m ([.ref aM] : List Value).toArray below meth c H locs 0 0 Q0 (F0 m 38 ls [.int s0]) := by
    intro K6 hK6 x1 x3 s0 M_end hw H locs ls hP hD hS hl
    unfold B_X7_findEnds_38 at hw
    refine lv_aload_n hx hb dX7_findEnds_38 rfl (lv_at hl 0 rfl) ?_
    refine va_get (D := D) (ci := 6) (v := .ref aM_fuel) (C := RX7) (T := TX7) (N := 30) hx hb hts hinX7 hown hK hP 0 rfl rfl 3 (by decide) hf16 (fun _ h9 => h9) rfl dX7_findEnds_39 ?_
    refine lv_aload_n hx hb dX7_findEnds_42 rfl (lv_at hl 0 rfl) ?_
    refine va_get (D := D) (ci := 6) (v := .ref aM_order) (C := RX7) (T := TX7) (N := 30) hx hb hts hinX7 hown hK hP 0 rfl rfl 26 (by decide) hf76 (fun _ h9 => h9) rfl dX7_findEnds_43 ?_
    refine lv_iload_n hx hb dX7_findEnds_46 rfl (lv_at hl 2 rfl) ?_
    obtain ⟨hb6, hw⟩ := hw
    refine va_iald hx hb hK hP 3 0 rfl rfl hb6 dX7_findEnds_47 ?_
    obtain ⟨hb7, hw⟩ := hw
    refine va_iald hx hb hK hP 2 0 rfl rfl hb7 dX7_findEnds_48 ?_
    refine lv_iadd hx hb dX7_findEnds_49 ?_
    refine lv_topi (fun y8 ey8 => ?_)
    have hw := hw y8 ey8
    refine lv_istore_n (lv' := [(2, .int y8), (0, .ref aM), (1, .int x1), (3, .int x3)]) hx hb dX7_findEnds_50 rfl hl (by decide) rfl (fun ls hl => ?_)
    refine lv_aload_n hx hb dX7_findEnds_51 rfl (lv_at hl 1 rfl) ?_
    refine va_get (D := D) (ci := 6) (v := .ref aM_end) (C := RX7) (T := TX7) (N := 30) hx hb hts hinX7 hown hK hP 0 rfl rfl 27 (by decide) hf79 (fun _ h9 => h9) rfl dX7_findEnds_52 ?_
    refine lv_iload_n hx hb dX7_findEnds_55 rfl (lv_at hl 3 rfl) ?_
    refine lv_iload_n hx hb dX7_findEnds_56 rfl (lv_at hl 0 rfl) ?_
    obtain ⟨hb9, hw⟩ := hw
    refine va_iast hx hb hK hP hD hS 4 0 rfl rfl hb9 dX7_findEnds_57 (fun H locs hP hD hS => ?_)
    have hP : va_P D vwCl [(aM, .inr (6, [.int M_units, .ref aM_kind, .ref aM_wash, .ref aM_fuel, .ref aM_isBroken, .ref aM_length, .int M_wanted, .ref aM_leaving, .int M_parked, .ref aM_stand, .ref aM_many, .ref aM_track, .ref aM_stack, .ref aM_depth, .ref aM_canBe, .int M_states, .ref aM_told, .ref aM_gone, .ref aM_cost, .ref aM_ways, .ref aM_places, .ref aM_now, .ref aM_high, .int M_runSize, .ref aM_run, .ref aM_runUnit, .ref aM_order, .ref aM_end, .ref aM_bestOrder, .ref aM_bestEnd])), (aM_wash, .inl (cI, 5, .inl M_wash)), (aM_fuel, .inl (cI, 5, .inl M_fuel)), (aM_order, .inl (cI, 5, .inl M_order)), (aM_end, .inl (cI, 5, .inl (upd M_end x3.toNatClampNeg y8)))] H := hP
    have hD : va_D A [(aM, .inr (6, [.int M_units, .ref aM_kind, .ref aM_wash, .ref aM_fuel, .ref aM_isBroken, .ref aM_length, .int M_wanted, .ref aM_leaving, .int M_parked, .ref aM_stand, .ref aM_many, .ref aM_track, .ref aM_stack, .ref aM_depth, .ref aM_canBe, .int M_states, .ref aM_told, .ref aM_gone, .ref aM_cost, .ref aM_ways, .ref aM_places, .ref aM_now, .ref aM_high, .int M_runSize, .ref aM_run, .ref aM_runUnit, .ref aM_order, .ref aM_end, .ref aM_bestOrder, .ref aM_bestEnd])), (aM_wash, .inl (cI, 5, .inl M_wash)), (aM_fuel, .inl (cI, 5, .inl M_fuel)), (aM_order, .inl (cI, 5, .inl M_order)), (aM_end, .inl (cI, 5, .inl (upd M_end x3.toNatClampNeg y8)))] := hD
    refine lv_iinc (v := (x3 + 1)) (lv' := [(3, .int (x3 + 1)), (2, .int y8), (0, .ref aM), (1, .int x1)]) hx hb dX7_findEnds_58 hl (k := 3) rfl rfl (by decide) rfl (fun ls hl => ?_)
    refine lv_goto (tgt := 6) hx hb dX7_findEnds_61 (by decide) ?_
    exact hK6 x1 y8 (x3 + 1) (upd M_end x3.toNatClampNeg y8) hw H locs ls hP hD hS (lv_sub hl [2, 3, 1, 0] rfl)
  have wZ_X7_findEnds_6 : ∀ (n : Nat) (x1 : Int32) (x2 : Int32) (x3 : Int32) (M_end : Nat → Int32), Z_X7_findEnds_6 M_units M_wash M_fuel M_order post n x1 x2 x3 M_end → ∀ (H : Heap) (locs : List Loc) (ls : Array Slot), va_P D vwCl [(aM, .inr (6, [.int M_units, .ref aM_kind, .ref aM_wash, .ref aM_fuel, .ref aM_isBroken, .ref aM_length, .int M_wanted, .ref aM_leaving, .int M_parked, .ref aM_stand, .ref aM_many, .ref aM_track, .ref aM_stack, .ref aM_depth, .ref aM_canBe, .int M_states, .ref aM_told, .ref aM_gone, .ref aM_cost, .ref aM_ways, .ref aM_places, .ref aM_now, .ref aM_high, .int M_runSize, .ref aM_run, .ref aM_runUnit, .ref aM_order, .ref aM_end, .ref aM_bestOrder, .ref aM_bestEnd])), (aM_wash, .inl (cI, 5, .inl M_wash)), (aM_fuel, .inl (cI, 5, .inl M_fuel)), (aM_order, .inl (cI, 5, .inl M_order)), (aM_end, .inl (cI, 5, .inl M_end))] H → va_D A [(aM, .inr (6, [.int M_units, .ref aM_kind, .ref aM_wash, .ref aM_fuel, .ref aM_isBroken, .ref aM_length, .int M_wanted, .ref aM_leaving, .int M_parked, .ref aM_stand, .ref aM_many, .ref aM_track, .ref aM_stack, .ref aM_depth, .ref aM_canBe, .int M_states, .ref aM_told, .ref aM_gone, .ref aM_cost, .ref aM_ways, .ref aM_places, .ref aM_now, .ref aM_high, .int M_runSize, .ref aM_run, .ref aM_runUnit, .ref aM_order, .ref aM_end, .ref aM_bestOrder, .ref aM_bestEnd])), (aM_wash, .inl (cI, 5, .inl M_wash)), (aM_fuel, .inl (cI, 5, .inl M_fuel)), (aM_order, .inl (cI, 5, .inl M_order)), (aM_end, .inl (cI, 5, .inl M_end))] → va_S A s.heap H locs → lv_has ls 4 [(0, .ref aM), (1, .int x1), (2, .int x2), (3, .int x3)] → W p l e ({ frames := 0, cells := 0, slots := 0, locals := 0 } : Room) s m ([.ref aM] : List Value).toArray below meth c H locs 0 0 Q0 (F0 m 6 ls []) := by
    intro n
    induction n with
    | zero =>
      intro x1 x2 x3 M_end hw
      exact (show False from hw).elim
    | succ n hK6 =>
      intro x1 x2 x3 M_end hw H locs ls hP hD hS hl
      have hw : Y_X7_findEnds_6 M_units M_wash M_fuel M_order post (Z_X7_findEnds_6 M_units M_wash M_fuel M_order post n) x1 x2 x3 M_end := hw
      unfold Y_X7_findEnds_6 at hw
      refine lv_iload_n hx hb dX7_findEnds_6 rfl (lv_at hl 3 rfl) ?_
      refine lv_aload_n hx hb dX7_findEnds_7 rfl (lv_at hl 0 rfl) ?_
      refine va_get (D := D) (ci := 6) (v := .int M_units) (C := RX7) (T := TX7) (N := 30) hx hb hts hinX7 hown hK hP 0 rfl rfl 0 (by decide) hf88 (fun _ h9 => h9) rfl dX7_findEnds_8 ?_
      refine lv_icmp_ge (tgt := 64) hx hb dX7_findEnds_11 (by decide) (fun hc1 => ?_) (fun hc1 => ?_)
      · have hw := hw.1 hc1
        refine lv_iload_n hx hb dX7_findEnds_64 rfl (lv_at hl 2 rfl) ?_
        exact hret x2 M_end H locs 65 ls hw dX7_findEnds_65 hP hD hS 
      · have hw := hw.2 hc1
        refine lv_iload_n hx hb dX7_findEnds_14 rfl (lv_at hl 1 rfl) ?_
        refine lv_aload_n hx hb dX7_findEnds_15 rfl (lv_at hl 0 rfl) ?_
        refine va_get (D := D) (ci := 6) (v := .ref aM_wash) (C := RX7) (T := TX7) (N := 30) hx hb hts hinX7 hown hK hP 0 rfl rfl 2 (by decide) hf13 (fun _ h9 => h9) rfl dX7_findEnds_16 ?_
        refine lv_aload_n hx hb dX7_findEnds_19 rfl (lv_at hl 0 rfl) ?_
        refine va_get (D := D) (ci := 6) (v := .ref aM_order) (C := RX7) (T := TX7) (N := 30) hx hb hts hinX7 hown hK hP 0 rfl rfl 26 (by decide) hf76 (fun _ h9 => h9) rfl dX7_findEnds_20 ?_
        refine lv_iload_n hx hb dX7_findEnds_23 rfl (lv_at hl 3 rfl) ?_
        obtain ⟨hb2, hw⟩ := hw
        refine va_iald hx hb hK hP 3 0 rfl rfl hb2 dX7_findEnds_24 ?_
        obtain ⟨hb3, hw⟩ := hw
        refine va_iald hx hb hK hP 1 0 rfl rfl hb3 dX7_findEnds_25 ?_
        refine lv_iadd hx hb dX7_findEnds_26 ?_
        refine lv_topi (fun y4 ey4 => ?_)
        have hw := hw y4 ey4
        refine lv_istore_n (lv' := [(1, .int y4), (0, .ref aM), (2, .int x2), (3, .int x3)]) hx hb dX7_findEnds_27 rfl hl (by decide) rfl (fun ls hl => ?_)
        refine lv_iload_n hx hb dX7_findEnds_28 rfl (lv_at hl 0 rfl) ?_
        refine lv_iload_n hx hb dX7_findEnds_29 rfl (lv_at hl 2 rfl) ?_
        refine lv_icmp_le (tgt := 37) hx hb dX7_findEnds_30 (by decide) (fun hc5 => ?_) (fun hc5 => ?_)
        · have hw := hw.1 hc5
          refine lv_iload_n hx hb dX7_findEnds_37 rfl (lv_at hl 2 rfl) ?_
          exact wB_X7_findEnds_38 _ hK6 y4 x3 x2 M_end hw H locs ls hP hD hS (lv_sub hl [1, 0, 3] rfl)
        · have hw := hw.2 hc5
          refine lv_iload_n hx hb dX7_findEnds_33 rfl (lv_at hl 0 rfl) ?_
          refine lv_goto (tgt := 38) hx hb dX7_findEnds_34 (by decide) ?_
          exact wB_X7_findEnds_38 _ hK6 y4 x3 y4 M_end hw H locs ls hP hD hS (lv_sub hl [1, 0, 3] rfl)
  obtain ⟨H, hHe⟩ : ∃ H, H = s.heap := ⟨_, rfl⟩
  obtain ⟨locs, hLo⟩ : ∃ locs : List Loc, locs = [] := ⟨_, rfl⟩
  have hS : va_S A s.heap H locs := by rw [hHe, hLo]; exact hS
  have hP : va_P D vwCl [(aM, .inr (6, [.int M_units, .ref aM_kind, .ref aM_wash, .ref aM_fuel, .ref aM_isBroken, .ref aM_length, .int M_wanted, .ref aM_leaving, .int M_parked, .ref aM_stand, .ref aM_many, .ref aM_track, .ref aM_stack, .ref aM_depth, .ref aM_canBe, .int M_states, .ref aM_told, .ref aM_gone, .ref aM_cost, .ref aM_ways, .ref aM_places, .ref aM_now, .ref aM_high, .int M_runSize, .ref aM_run, .ref aM_runUnit, .ref aM_order, .ref aM_end, .ref aM_bestOrder, .ref aM_bestEnd])), (aM_wash, .inl (cI, 5, .inl M_wash)), (aM_fuel, .inl (cI, 5, .inl M_fuel)), (aM_order, .inl (cI, 5, .inl M_order)), (aM_end, .inl (cI, 5, .inl M_end))] H := by rw [hHe]; exact hP
  refine (fun (hgo : W p l e ({ frames := 0, cells := 0, slots := 0, locals := 0 } : Room) s m ([.ref aM] : List Value).toArray below meth c H locs 0 0 Q0 (F0 m 0 ls [])) => by rw [hHe, hLo] at hgo; exact hgo) ?_
  refine lv_iconst (v := 0) hx hb dX7_findEnds_0 (by decide) ?_
  refine lv_istore_n (lv' := [(1, .int 0), (0, .ref aM)]) hx hb dX7_findEnds_1 rfl hl (by decide) rfl (fun ls hl => ?_)
  refine lv_iconst (v := 0) hx hb dX7_findEnds_2 (by decide) ?_
  refine lv_istore_n (lv' := [(2, .int 0), (1, .int 0), (0, .ref aM)]) hx hb dX7_findEnds_3 rfl hl (by decide) rfl (fun ls hl => ?_)
  refine lv_iconst (v := 0) hx hb dX7_findEnds_4 (by decide) ?_
  refine lv_istore_n (lv' := [(3, .int 0), (2, .int 0), (1, .int 0), (0, .ref aM)]) hx hb dX7_findEnds_5 rfl hl (by decide) rfl (fun ls hl => ?_)
  obtain ⟨n10, hw⟩ := hw
  exact wZ_X7_findEnds_6  n10 0 0 0 M_end hw H locs ls hP hD hS (lv_sub hl [3, 2, 1, 0] rfl)
/-! X7_takeNumbers -/
def Y_X7_takeNumbers_2 (M_units : Int32) (post : (Nat → Int32) → Prop) (K2 : Int32 → (Nat → Int32) → Prop) (x1 : Int32) (M_order : Nat → Int32) : Prop :=
  ((M_units ≤ x1 → post M_order) ∧ (¬ M_units ≤ x1 → vp_in x1 5 ∧ (K2 (x1 + 1) (upd M_order x1.toNatClampNeg x1))))
def Z_X7_takeNumbers_2 (M_units : Int32) (post : (Nat → Int32) → Prop) : Nat → Int32 → (Nat → Int32) → Prop
  | 0 => fun _ _ => False
  | n + 1 => Y_X7_takeNumbers_2 M_units post (Z_X7_takeNumbers_2 M_units post n)
def wp_X7_takeNumbers (M_units : Int32) (M_order : Nat → Int32) (post : (Nat → Int32) → Prop) : Prop :=
  ∃ n, Z_X7_takeNumbers_2 M_units post n 0 M_order
set_option maxHeartbeats 4000000 in
set_option maxRecDepth 100000 in
theorem c_X7_takeNumbers (l : Launch) (D : va_G) (cI cJ cZ : ClassId) (aM aM_kind aM_wash aM_fuel aM_isBroken aM_length aM_leaving aM_stand aM_many aM_track aM_stack aM_depth aM_canBe aM_told aM_gone aM_cost aM_ways aM_places aM_now aM_high aM_run aM_runUnit aM_order aM_end aM_bestOrder aM_bestEnd : Nat) (sz : Nat) (M_units : Int32) (M_wanted : Int32) (M_parked : Int32) (M_states : Int32) (M_runSize : Int32) (M_order : Nat → Int32) (post : (Nat → Int32) → Prop) (hw : wp_X7_takeNumbers M_units M_order post) : Met l yX7_takeNumbers wsX7_takeNumbers ({ frames := 0, cells := 0, slots := 0, locals := 0 } : Room) (va_Pc [.ref aM] (zPre D cI cJ cZ [(aM, .inr (6, [.int M_units, .ref aM_kind, .ref aM_wash, .ref aM_fuel, .ref aM_isBroken, .ref aM_length, .int M_wanted, .ref aM_leaving, .int M_parked, .ref aM_stand, .ref aM_many, .ref aM_track, .ref aM_stack, .ref aM_depth, .ref aM_canBe, .int M_states, .ref aM_told, .ref aM_gone, .ref aM_cost, .ref aM_ways, .ref aM_places, .ref aM_now, .ref aM_high, .int M_runSize, .ref aM_run, .ref aM_runUnit, .ref aM_order, .ref aM_end, .ref aM_bestOrder, .ref aM_bestEnd])), (aM_order, .inl (cI, 5, .inl M_order))] sz)) (va_Qv (fun (u : (Nat → Int32)) => post u) (zPost D cI cJ cZ (va_A [(aM, .inr (6, [.int M_units, .ref aM_kind, .ref aM_wash, .ref aM_fuel, .ref aM_isBroken, .ref aM_length, .int M_wanted, .ref aM_leaving, .int M_parked, .ref aM_stand, .ref aM_many, .ref aM_track, .ref aM_stack, .ref aM_depth, .ref aM_canBe, .int M_states, .ref aM_told, .ref aM_gone, .ref aM_cost, .ref aM_ways, .ref aM_places, .ref aM_now, .ref aM_high, .int M_runSize, .ref aM_run, .ref aM_runUnit, .ref aM_order, .ref aM_end, .ref aM_bestOrder, .ref aM_bestEnd])), (aM_order, .inl (cI, 5, .inl M_order))] sz) (fun u : (Nat → Int32) => [(aM, .inr (6, [.int M_units, .ref aM_kind, .ref aM_wash, .ref aM_fuel, .ref aM_isBroken, .ref aM_length, .int M_wanted, .ref aM_leaving, .int M_parked, .ref aM_stand, .ref aM_many, .ref aM_track, .ref aM_stack, .ref aM_depth, .ref aM_canBe, .int M_states, .ref aM_told, .ref aM_gone, .ref aM_cost, .ref aM_ways, .ref aM_places, .ref aM_now, .ref aM_high, .int M_runSize, .ref aM_run, .ref aM_runUnit, .ref aM_order, .ref aM_end, .ref aM_bestOrder, .ref aM_bestEnd])), (aM_order, .inl (cI, 5, .inl u))])) (va_A [(aM, .inr (6, [.int M_units, .ref aM_kind, .ref aM_wash, .ref aM_fuel, .ref aM_isBroken, .ref aM_length, .int M_wanted, .ref aM_leaving, .int M_parked, .ref aM_stand, .ref aM_many, .ref aM_track, .ref aM_stack, .ref aM_depth, .ref aM_canBe, .int M_states, .ref aM_told, .ref aM_gone, .ref aM_cost, .ref aM_ways, .ref aM_places, .ref aM_now, .ref aM_high, .int M_runSize, .ref aM_run, .ref aM_runUnit, .ref aM_order, .ref aM_end, .ref aM_bestOrder, .ref aM_bestEnd])), (aM_order, .inl (cI, 5, .inl M_order))] sz)) 0 0 (va_A [(aM, .inr (6, [.int M_units, .ref aM_kind, .ref aM_wash, .ref aM_fuel, .ref aM_isBroken, .ref aM_length, .int M_wanted, .ref aM_leaving, .int M_parked, .ref aM_stand, .ref aM_many, .ref aM_track, .ref aM_stack, .ref aM_depth, .ref aM_canBe, .int M_states, .ref aM_told, .ref aM_gone, .ref aM_cost, .ref aM_ways, .ref aM_places, .ref aM_now, .ref aM_high, .int M_runSize, .ref aM_run, .ref aM_runUnit, .ref aM_order, .ref aM_end, .ref aM_bestOrder, .ref aM_bestEnd])), (aM_order, .inl (cI, 5, .inl M_order))] sz) := by
  unfold wp_X7_takeNumbers at hw
  refine Met.ofW (cc := cX7_takeNumbers) (maxL := 2) (ret := none) (by decide) rfl ?_
  intro p e s m args below meth c s₁ B hml hv
  obtain ⟨rfl, hsz, hP, hK, hD0⟩ := hv
  have hx := B.exec
  have hb := B.bytes
  have hr := B.returns
  have hts := atoms_spec (ws := wsX7_takeNumbers) B.pre
  have hown : s.vm.findClass RX7 = some m.cls := findClass_of_methodNamed B.named
  have hlocks := B.notSynchronized
  subst hsz
  have hD := hD0.self (sz := s.heap.size)
  generalize hAe : va_A [(aM, .inr (6, [.int M_units, .ref aM_kind, .ref aM_wash, .ref aM_fuel, .ref aM_isBroken, .ref aM_length, .int M_wanted, .ref aM_leaving, .int M_parked, .ref aM_stand, .ref aM_many, .ref aM_track, .ref aM_stack, .ref aM_depth, .ref aM_canBe, .int M_states, .ref aM_told, .ref aM_gone, .ref aM_cost, .ref aM_ways, .ref aM_places, .ref aM_now, .ref aM_high, .int M_runSize, .ref aM_run, .ref aM_runUnit, .ref aM_order, .ref aM_end, .ref aM_bestOrder, .ref aM_bestEnd])), (aM_order, .inl (cI, 5, .inl M_order))] s.heap.size = A at hD ⊢
  have hA : ∀ q : Nat, s.heap.size ≤ q → A q := fun q h => by rw [← hAe]; exact Or.inr h
  have hS : va_S A s.heap s.heap [] := va_S.rf
  refine (fun (hall : ∀ Q0 : State → Prop, (∀ (v0 : Nat → Int32) (H : Heap) (locs : List Loc) (pc : Nat) (ls : Array Slot), post v0 → decode cX7_takeNumbers pc = .ok (.return_, 1) → va_P D vwCl [(aM, .inr (6, [.int M_units, .ref aM_kind, .ref aM_wash, .ref aM_fuel, .ref aM_isBroken, .ref aM_length, .int M_wanted, .ref aM_leaving, .int M_parked, .ref aM_stand, .ref aM_many, .ref aM_track, .ref aM_stack, .ref aM_depth, .ref aM_canBe, .int M_states, .ref aM_told, .ref aM_gone, .ref aM_cost, .ref aM_ways, .ref aM_places, .ref aM_now, .ref aM_high, .int M_runSize, .ref aM_run, .ref aM_runUnit, .ref aM_order, .ref aM_end, .ref aM_bestOrder, .ref aM_bestEnd])), (aM_order, .inl (cI, 5, .inl v0))] H → va_D A [(aM, .inr (6, [.int M_units, .ref aM_kind, .ref aM_wash, .ref aM_fuel, .ref aM_isBroken, .ref aM_length, .int M_wanted, .ref aM_leaving, .int M_parked, .ref aM_stand, .ref aM_many, .ref aM_track, .ref aM_stack, .ref aM_depth, .ref aM_canBe, .int M_states, .ref aM_told, .ref aM_gone, .ref aM_cost, .ref aM_ways, .ref aM_places, .ref aM_now, .ref aM_high, .int M_runSize, .ref aM_run, .ref aM_runUnit, .ref aM_order, .ref aM_end, .ref aM_bestOrder, .ref aM_bestEnd])), (aM_order, .inl (cI, 5, .inl v0))] → va_S A s.heap H locs → W p l e ({ frames := 0, cells := 0, slots := 0, locals := 0 } : Room) s m ([.ref aM] : List Value).toArray below meth c H locs 0 0 Q0 (F0 m pc ls [])) → W p l e ({ frames := 0, cells := 0, slots := 0, locals := 0 } : Room) s m ([.ref aM] : List Value).toArray below meth c s.heap [] 0 0 Q0 (entryFrame m ([.ref aM] : List Value).toArray 2)) => hall _ (fun v0 H locs pc ls hw hd hP hD hS => W.vret hx hb hr (fun t ht hW => ⟨⟨v0, rfl, hw, by rw [ht]; exact hP, va_K.moved hW.alike hK, hD⟩, hS.F ht⟩) hS.2.2 hd)) ?_
  intro Q0 hret
  have hl := lv_entry ([.ref aM]) (n := 2) (Nat.le_of_ble_eq_true rfl)
  rw [lg_entry_eq]
  generalize (lg_sl ([.ref aM]) ++ List.replicate (2 - (lg_sl ([.ref aM])).length) Slot.unset).toArray = ls at hl ⊢
  have hl : lv_has ls 2 [(0, .ref aM)] := hl
  have hinX7 : ∀ w ∈ u_ws RX7 TX7 30, w ∈ wsX7_takeNumbers := by decide +kernel
  have hf76 := hts (.fieldLink RX7 76 "DepotNightModel" "order" "[I") (by decide +kernel)
  have hf88 := hts (.fieldLink RX7 88 "DepotNightModel" "units" "I") (by decide +kernel)
  have wZ_X7_takeNumbers_2 : ∀ (n : Nat) (x1 : Int32) (M_order : Nat → Int32), Z_X7_takeNumbers_2 M_units post n x1 M_order → ∀ (H : Heap) (locs : List Loc) (ls : Array Slot), va_P D vwCl [(aM, .inr (6, [.int M_units, .ref aM_kind, .ref aM_wash, .ref aM_fuel, .ref aM_isBroken, .ref aM_length, .int M_wanted, .ref aM_leaving, .int M_parked, .ref aM_stand, .ref aM_many, .ref aM_track, .ref aM_stack, .ref aM_depth, .ref aM_canBe, .int M_states, .ref aM_told, .ref aM_gone, .ref aM_cost, .ref aM_ways, .ref aM_places, .ref aM_now, .ref aM_high, .int M_runSize, .ref aM_run, .ref aM_runUnit, .ref aM_order, .ref aM_end, .ref aM_bestOrder, .ref aM_bestEnd])), (aM_order, .inl (cI, 5, .inl M_order))] H → va_D A [(aM, .inr (6, [.int M_units, .ref aM_kind, .ref aM_wash, .ref aM_fuel, .ref aM_isBroken, .ref aM_length, .int M_wanted, .ref aM_leaving, .int M_parked, .ref aM_stand, .ref aM_many, .ref aM_track, .ref aM_stack, .ref aM_depth, .ref aM_canBe, .int M_states, .ref aM_told, .ref aM_gone, .ref aM_cost, .ref aM_ways, .ref aM_places, .ref aM_now, .ref aM_high, .int M_runSize, .ref aM_run, .ref aM_runUnit, .ref aM_order, .ref aM_end, .ref aM_bestOrder, .ref aM_bestEnd])), (aM_order, .inl (cI, 5, .inl M_order))] → va_S A s.heap H locs → lv_has ls 2 [(0, .ref aM), (1, .int x1)] → W p l e ({ frames := 0, cells := 0, slots := 0, locals := 0 } : Room) s m ([.ref aM] : List Value).toArray below meth c H locs 0 0 Q0 (F0 m 2 ls []) := by
    intro n
    induction n with
    | zero =>
      intro x1 M_order hw
      exact (show False from hw).elim
    | succ n hK2 =>
      intro x1 M_order hw H locs ls hP hD hS hl
      have hw : Y_X7_takeNumbers_2 M_units post (Z_X7_takeNumbers_2 M_units post n) x1 M_order := hw
      unfold Y_X7_takeNumbers_2 at hw
      refine lv_iload_n hx hb dX7_takeNumbers_2 rfl (lv_at hl 1 rfl) ?_
      refine lv_aload_n hx hb dX7_takeNumbers_3 rfl (lv_at hl 0 rfl) ?_
      refine va_get (D := D) (ci := 6) (v := .int M_units) (C := RX7) (T := TX7) (N := 30) hx hb hts hinX7 hown hK hP 0 rfl rfl 0 (by decide) hf88 (fun _ h9 => h9) rfl dX7_takeNumbers_4 ?_
      refine lv_icmp_ge (tgt := 23) hx hb dX7_takeNumbers_7 (by decide) (fun hc1 => ?_) (fun hc1 => ?_)
      · have hw := hw.1 hc1
        exact hret M_order H locs 23 ls hw dX7_takeNumbers_23 hP hD hS
      · have hw := hw.2 hc1
        refine lv_aload_n hx hb dX7_takeNumbers_10 rfl (lv_at hl 0 rfl) ?_
        refine va_get (D := D) (ci := 6) (v := .ref aM_order) (C := RX7) (T := TX7) (N := 30) hx hb hts hinX7 hown hK hP 0 rfl rfl 26 (by decide) hf76 (fun _ h9 => h9) rfl dX7_takeNumbers_11 ?_
        refine lv_iload_n hx hb dX7_takeNumbers_14 rfl (lv_at hl 1 rfl) ?_
        refine lv_iload_n hx hb dX7_takeNumbers_15 rfl (lv_at hl 1 rfl) ?_
        obtain ⟨hb2, hw⟩ := hw
        refine va_iast hx hb hK hP hD hS 1 0 rfl rfl hb2 dX7_takeNumbers_16 (fun H locs hP hD hS => ?_)
        have hP : va_P D vwCl [(aM, .inr (6, [.int M_units, .ref aM_kind, .ref aM_wash, .ref aM_fuel, .ref aM_isBroken, .ref aM_length, .int M_wanted, .ref aM_leaving, .int M_parked, .ref aM_stand, .ref aM_many, .ref aM_track, .ref aM_stack, .ref aM_depth, .ref aM_canBe, .int M_states, .ref aM_told, .ref aM_gone, .ref aM_cost, .ref aM_ways, .ref aM_places, .ref aM_now, .ref aM_high, .int M_runSize, .ref aM_run, .ref aM_runUnit, .ref aM_order, .ref aM_end, .ref aM_bestOrder, .ref aM_bestEnd])), (aM_order, .inl (cI, 5, .inl (upd M_order x1.toNatClampNeg x1)))] H := hP
        have hD : va_D A [(aM, .inr (6, [.int M_units, .ref aM_kind, .ref aM_wash, .ref aM_fuel, .ref aM_isBroken, .ref aM_length, .int M_wanted, .ref aM_leaving, .int M_parked, .ref aM_stand, .ref aM_many, .ref aM_track, .ref aM_stack, .ref aM_depth, .ref aM_canBe, .int M_states, .ref aM_told, .ref aM_gone, .ref aM_cost, .ref aM_ways, .ref aM_places, .ref aM_now, .ref aM_high, .int M_runSize, .ref aM_run, .ref aM_runUnit, .ref aM_order, .ref aM_end, .ref aM_bestOrder, .ref aM_bestEnd])), (aM_order, .inl (cI, 5, .inl (upd M_order x1.toNatClampNeg x1)))] := hD
        refine lv_iinc (v := (x1 + 1)) (lv' := [(1, .int (x1 + 1)), (0, .ref aM)]) hx hb dX7_takeNumbers_17 hl (k := 1) rfl rfl (by decide) rfl (fun ls hl => ?_)
        refine lv_goto (tgt := 2) hx hb dX7_takeNumbers_20 (by decide) ?_
        exact hK2 (x1 + 1) (upd M_order x1.toNatClampNeg x1) hw H locs ls hP hD hS (lv_sub hl [1, 0] rfl)
  obtain ⟨H, hHe⟩ : ∃ H, H = s.heap := ⟨_, rfl⟩
  obtain ⟨locs, hLo⟩ : ∃ locs : List Loc, locs = [] := ⟨_, rfl⟩
  have hS : va_S A s.heap H locs := by rw [hHe, hLo]; exact hS
  have hP : va_P D vwCl [(aM, .inr (6, [.int M_units, .ref aM_kind, .ref aM_wash, .ref aM_fuel, .ref aM_isBroken, .ref aM_length, .int M_wanted, .ref aM_leaving, .int M_parked, .ref aM_stand, .ref aM_many, .ref aM_track, .ref aM_stack, .ref aM_depth, .ref aM_canBe, .int M_states, .ref aM_told, .ref aM_gone, .ref aM_cost, .ref aM_ways, .ref aM_places, .ref aM_now, .ref aM_high, .int M_runSize, .ref aM_run, .ref aM_runUnit, .ref aM_order, .ref aM_end, .ref aM_bestOrder, .ref aM_bestEnd])), (aM_order, .inl (cI, 5, .inl M_order))] H := by rw [hHe]; exact hP
  refine (fun (hgo : W p l e ({ frames := 0, cells := 0, slots := 0, locals := 0 } : Room) s m ([.ref aM] : List Value).toArray below meth c H locs 0 0 Q0 (F0 m 0 ls [])) => by rw [hHe, hLo] at hgo; exact hgo) ?_
  refine lv_iconst (v := 0) hx hb dX7_takeNumbers_0 (by decide) ?_
  refine lv_istore_n (lv' := [(1, .int 0), (0, .ref aM)]) hx hb dX7_takeNumbers_1 rfl hl (by decide) rfl (fun ls hl => ?_)
  obtain ⟨n3, hw⟩ := hw
  exact wZ_X7_takeNumbers_2  n3 0 M_order hw H locs ls hP hD hS (lv_sub hl [1, 0] rfl)
/-! X7_ready -/
def wp_X7_ready (M_units : Int32) (M_wash : Nat → Int32) (M_fuel : Nat → Int32) (x1 : Int32) (M_order : Nat → Int32) (M_end : Nat → Int32) (post : Int32 → (Nat → Int32) → (Nat → Int32) → Prop) : Prop :=
  wp_X7_isUnit M_units x1 (fun (r1 : Int32) => ((¬ r1 = 0 → wp_X7_takeNumbers M_units M_order (fun (M_order_3 : Nat → Int32) => wp_X7_findEnds M_units M_wash M_fuel M_order_3 M_end (fun (r4 : Int32) (M_end_5 : Nat → Int32) => vp_in x1 5 ∧ (post (M_end_5 x1.toNatClampNeg) M_order_3 M_end_5)))) ∧ (r1 = 0 → post (-2) M_order M_end)))
set_option maxHeartbeats 4000000 in
set_option maxRecDepth 100000 in
theorem c_X7_ready (l : Launch) (D : va_G) (cI cJ cZ : ClassId) (aM aM_kind aM_wash aM_fuel aM_isBroken aM_length aM_leaving aM_stand aM_many aM_track aM_stack aM_depth aM_canBe aM_told aM_gone aM_cost aM_ways aM_places aM_now aM_high aM_run aM_runUnit aM_order aM_end aM_bestOrder aM_bestEnd : Nat) (sz : Nat) (M_units : Int32) (M_wanted : Int32) (M_parked : Int32) (M_states : Int32) (M_runSize : Int32) (M_wash : Nat → Int32) (M_fuel : Nat → Int32) (M_order : Nat → Int32) (M_end : Nat → Int32) (x1 : Int32) (post : Int32 → (Nat → Int32) → (Nat → Int32) → Prop) (hw : wp_X7_ready M_units M_wash M_fuel x1 M_order M_end post) : Met l yX7_ready wsX7_ready ({ frames := 2, cells := 0, slots := 0, locals := 43 } : Room) (va_Pc [.ref aM, .int x1] (zPre D cI cJ cZ [(aM, .inr (6, [.int M_units, .ref aM_kind, .ref aM_wash, .ref aM_fuel, .ref aM_isBroken, .ref aM_length, .int M_wanted, .ref aM_leaving, .int M_parked, .ref aM_stand, .ref aM_many, .ref aM_track, .ref aM_stack, .ref aM_depth, .ref aM_canBe, .int M_states, .ref aM_told, .ref aM_gone, .ref aM_cost, .ref aM_ways, .ref aM_places, .ref aM_now, .ref aM_high, .int M_runSize, .ref aM_run, .ref aM_runUnit, .ref aM_order, .ref aM_end, .ref aM_bestOrder, .ref aM_bestEnd])), (aM_wash, .inl (cI, 5, .inl M_wash)), (aM_fuel, .inl (cI, 5, .inl M_fuel)), (aM_order, .inl (cI, 5, .inl M_order)), (aM_end, .inl (cI, 5, .inl M_end))] sz)) (va_Qi (fun (r : Int32) (u : (Nat → Int32) × (Nat → Int32)) => post r u.1 u.2) (zPost D cI cJ cZ (va_A [(aM, .inr (6, [.int M_units, .ref aM_kind, .ref aM_wash, .ref aM_fuel, .ref aM_isBroken, .ref aM_length, .int M_wanted, .ref aM_leaving, .int M_parked, .ref aM_stand, .ref aM_many, .ref aM_track, .ref aM_stack, .ref aM_depth, .ref aM_canBe, .int M_states, .ref aM_told, .ref aM_gone, .ref aM_cost, .ref aM_ways, .ref aM_places, .ref aM_now, .ref aM_high, .int M_runSize, .ref aM_run, .ref aM_runUnit, .ref aM_order, .ref aM_end, .ref aM_bestOrder, .ref aM_bestEnd])), (aM_wash, .inl (cI, 5, .inl M_wash)), (aM_fuel, .inl (cI, 5, .inl M_fuel)), (aM_order, .inl (cI, 5, .inl M_order)), (aM_end, .inl (cI, 5, .inl M_end))] sz) (fun u : (Nat → Int32) × (Nat → Int32) => [(aM, .inr (6, [.int M_units, .ref aM_kind, .ref aM_wash, .ref aM_fuel, .ref aM_isBroken, .ref aM_length, .int M_wanted, .ref aM_leaving, .int M_parked, .ref aM_stand, .ref aM_many, .ref aM_track, .ref aM_stack, .ref aM_depth, .ref aM_canBe, .int M_states, .ref aM_told, .ref aM_gone, .ref aM_cost, .ref aM_ways, .ref aM_places, .ref aM_now, .ref aM_high, .int M_runSize, .ref aM_run, .ref aM_runUnit, .ref aM_order, .ref aM_end, .ref aM_bestOrder, .ref aM_bestEnd])), (aM_wash, .inl (cI, 5, .inl M_wash)), (aM_fuel, .inl (cI, 5, .inl M_fuel)), (aM_order, .inl (cI, 5, .inl u.1)), (aM_end, .inl (cI, 5, .inl u.2))])) (va_A [(aM, .inr (6, [.int M_units, .ref aM_kind, .ref aM_wash, .ref aM_fuel, .ref aM_isBroken, .ref aM_length, .int M_wanted, .ref aM_leaving, .int M_parked, .ref aM_stand, .ref aM_many, .ref aM_track, .ref aM_stack, .ref aM_depth, .ref aM_canBe, .int M_states, .ref aM_told, .ref aM_gone, .ref aM_cost, .ref aM_ways, .ref aM_places, .ref aM_now, .ref aM_high, .int M_runSize, .ref aM_run, .ref aM_runUnit, .ref aM_order, .ref aM_end, .ref aM_bestOrder, .ref aM_bestEnd])), (aM_wash, .inl (cI, 5, .inl M_wash)), (aM_fuel, .inl (cI, 5, .inl M_fuel)), (aM_order, .inl (cI, 5, .inl M_order)), (aM_end, .inl (cI, 5, .inl M_end))] sz)) 0 0 (va_A [(aM, .inr (6, [.int M_units, .ref aM_kind, .ref aM_wash, .ref aM_fuel, .ref aM_isBroken, .ref aM_length, .int M_wanted, .ref aM_leaving, .int M_parked, .ref aM_stand, .ref aM_many, .ref aM_track, .ref aM_stack, .ref aM_depth, .ref aM_canBe, .int M_states, .ref aM_told, .ref aM_gone, .ref aM_cost, .ref aM_ways, .ref aM_places, .ref aM_now, .ref aM_high, .int M_runSize, .ref aM_run, .ref aM_runUnit, .ref aM_order, .ref aM_end, .ref aM_bestOrder, .ref aM_bestEnd])), (aM_wash, .inl (cI, 5, .inl M_wash)), (aM_fuel, .inl (cI, 5, .inl M_fuel)), (aM_order, .inl (cI, 5, .inl M_order)), (aM_end, .inl (cI, 5, .inl M_end))] sz) := by
  unfold wp_X7_ready at hw
  refine Met.ofW (cc := cX7_ready) (maxL := 2) (ret := some .int) (by decide) rfl ?_
  intro p e s m args below meth c s₁ B hml hv
  obtain ⟨rfl, hsz, hP, hK, hD0⟩ := hv
  have hx := B.exec
  have hb := B.bytes
  have hr := B.returns
  have hts := atoms_spec (ws := wsX7_ready) B.pre
  have hown : s.vm.findClass RX7 = some m.cls := findClass_of_methodNamed B.named
  have hlocks := B.notSynchronized
  subst hsz
  have hD := hD0.self (sz := s.heap.size)
  generalize hAe : va_A [(aM, .inr (6, [.int M_units, .ref aM_kind, .ref aM_wash, .ref aM_fuel, .ref aM_isBroken, .ref aM_length, .int M_wanted, .ref aM_leaving, .int M_parked, .ref aM_stand, .ref aM_many, .ref aM_track, .ref aM_stack, .ref aM_depth, .ref aM_canBe, .int M_states, .ref aM_told, .ref aM_gone, .ref aM_cost, .ref aM_ways, .ref aM_places, .ref aM_now, .ref aM_high, .int M_runSize, .ref aM_run, .ref aM_runUnit, .ref aM_order, .ref aM_end, .ref aM_bestOrder, .ref aM_bestEnd])), (aM_wash, .inl (cI, 5, .inl M_wash)), (aM_fuel, .inl (cI, 5, .inl M_fuel)), (aM_order, .inl (cI, 5, .inl M_order)), (aM_end, .inl (cI, 5, .inl M_end))] s.heap.size = A at hD ⊢
  have hA : ∀ q : Nat, s.heap.size ≤ q → A q := fun q h => by rw [← hAe]; exact Or.inr h
  have hS : va_S A s.heap s.heap [] := va_S.rf
  refine (fun (hall : ∀ Q0 : State → Prop, (∀ (r : Int32) (v0 : Nat → Int32) (v1 : Nat → Int32) (H : Heap) (locs : List Loc) (pc : Nat) (ls : Array Slot), post r v0 v1 → decode cX7_ready pc = .ok (.ireturn, 1) → va_P D vwCl [(aM, .inr (6, [.int M_units, .ref aM_kind, .ref aM_wash, .ref aM_fuel, .ref aM_isBroken, .ref aM_length, .int M_wanted, .ref aM_leaving, .int M_parked, .ref aM_stand, .ref aM_many, .ref aM_track, .ref aM_stack, .ref aM_depth, .ref aM_canBe, .int M_states, .ref aM_told, .ref aM_gone, .ref aM_cost, .ref aM_ways, .ref aM_places, .ref aM_now, .ref aM_high, .int M_runSize, .ref aM_run, .ref aM_runUnit, .ref aM_order, .ref aM_end, .ref aM_bestOrder, .ref aM_bestEnd])), (aM_wash, .inl (cI, 5, .inl M_wash)), (aM_fuel, .inl (cI, 5, .inl M_fuel)), (aM_order, .inl (cI, 5, .inl v0)), (aM_end, .inl (cI, 5, .inl v1))] H → va_D A [(aM, .inr (6, [.int M_units, .ref aM_kind, .ref aM_wash, .ref aM_fuel, .ref aM_isBroken, .ref aM_length, .int M_wanted, .ref aM_leaving, .int M_parked, .ref aM_stand, .ref aM_many, .ref aM_track, .ref aM_stack, .ref aM_depth, .ref aM_canBe, .int M_states, .ref aM_told, .ref aM_gone, .ref aM_cost, .ref aM_ways, .ref aM_places, .ref aM_now, .ref aM_high, .int M_runSize, .ref aM_run, .ref aM_runUnit, .ref aM_order, .ref aM_end, .ref aM_bestOrder, .ref aM_bestEnd])), (aM_wash, .inl (cI, 5, .inl M_wash)), (aM_fuel, .inl (cI, 5, .inl M_fuel)), (aM_order, .inl (cI, 5, .inl v0)), (aM_end, .inl (cI, 5, .inl v1))] → va_S A s.heap H locs → W p l e ({ frames := 2, cells := 0, slots := 0, locals := 43 } : Room) s m ([.ref aM, .int x1] : List Value).toArray below meth c H locs 0 0 Q0 (F0 m pc ls [.int r])) → W p l e ({ frames := 2, cells := 0, slots := 0, locals := 43 } : Room) s m ([.ref aM, .int x1] : List Value).toArray below meth c s.heap [] 0 0 Q0 (entryFrame m ([.ref aM, .int x1] : List Value).toArray 2)) => hall _ (fun r v0 v1 H locs pc ls hw hd hP hD hS => W.iret (v := r) hx hb hr (fun t ht hW => ⟨⟨r, (v0, v1), rfl, hw, by rw [ht]; exact hP, va_K.moved hW.alike hK, hD⟩, hS.F ht⟩) hS.2.2 hd)) ?_
  intro Q0 hret
  have hl := lv_entry ([.ref aM, .int x1]) (n := 2) (Nat.le_of_ble_eq_true rfl)
  rw [lg_entry_eq]
  generalize (lg_sl ([.ref aM, .int x1]) ++ List.replicate (2 - (lg_sl ([.ref aM, .int x1])).length) Slot.unset).toArray = ls at hl ⊢
  have hl : lv_has ls 2 [(0, .ref aM), (1, .int x1)] := hl
  have hinX7 : ∀ w ∈ u_ws RX7 TX7 30, w ∈ wsX7_ready := by decide +kernel
  have hf79 := hts (.fieldLink RX7 79 "DepotNightModel" "end" "[I") (by decide +kernel)
  obtain ⟨H, hHe⟩ : ∃ H, H = s.heap := ⟨_, rfl⟩
  obtain ⟨locs, hLo⟩ : ∃ locs : List Loc, locs = [] := ⟨_, rfl⟩
  have hS : va_S A s.heap H locs := by rw [hHe, hLo]; exact hS
  have hP : va_P D vwCl [(aM, .inr (6, [.int M_units, .ref aM_kind, .ref aM_wash, .ref aM_fuel, .ref aM_isBroken, .ref aM_length, .int M_wanted, .ref aM_leaving, .int M_parked, .ref aM_stand, .ref aM_many, .ref aM_track, .ref aM_stack, .ref aM_depth, .ref aM_canBe, .int M_states, .ref aM_told, .ref aM_gone, .ref aM_cost, .ref aM_ways, .ref aM_places, .ref aM_now, .ref aM_high, .int M_runSize, .ref aM_run, .ref aM_runUnit, .ref aM_order, .ref aM_end, .ref aM_bestOrder, .ref aM_bestEnd])), (aM_wash, .inl (cI, 5, .inl M_wash)), (aM_fuel, .inl (cI, 5, .inl M_fuel)), (aM_order, .inl (cI, 5, .inl M_order)), (aM_end, .inl (cI, 5, .inl M_end))] H := by rw [hHe]; exact hP
  refine (fun (hgo : W p l e ({ frames := 2, cells := 0, slots := 0, locals := 43 } : Room) s m ([.ref aM, .int x1] : List Value).toArray below meth c H locs 0 0 Q0 (F0 m 0 ls [])) => by rw [hHe, hLo] at hgo; exact hgo) ?_
  refine lv_aload_n hx hb dX7_ready_0 rfl (lv_at hl 0 rfl) ?_
  refine lv_iload_n hx hb dX7_ready_1 rfl (lv_at hl 1 rfl) ?_
  refine zVi (As := [.int x1]) (rest := []) (wc := [(aM, .inr (6, [.int M_units, .ref aM_kind, .ref aM_wash, .ref aM_fuel, .ref aM_isBroken, .ref aM_length, .int M_wanted, .ref aM_leaving, .int M_parked, .ref aM_stand, .ref aM_many, .ref aM_track, .ref aM_stack, .ref aM_depth, .ref aM_canBe, .int M_states, .ref aM_told, .ref aM_gone, .ref aM_cost, .ref aM_ways, .ref aM_places, .ref aM_now, .ref aM_high, .int M_runSize, .ref aM_run, .ref aM_runUnit, .ref aM_order, .ref aM_end, .ref aM_bestOrder, .ref aM_bestEnd]))]) (wr := [(aM_wash, .inl (cI, 5, .inl M_wash)), (aM_fuel, .inl (cI, 5, .inl M_fuel)), (aM_order, .inl (cI, 5, .inl M_order)), (aM_end, .inl (cI, 5, .inl M_end))]) ⟨hx, hb, hml, hown, hts⟩ hK hP hD hS hA [0] [1, 2, 3, 4] rfl rfl (by decide) (by decide) (by decide) (c_X7_isUnit l D cI cJ cZ aM aM_kind aM_wash aM_fuel aM_isBroken aM_length aM_leaving aM_stand aM_many aM_track aM_stack aM_depth aM_canBe aM_told aM_gone aM_cost aM_ways aM_places aM_now aM_high aM_run aM_runUnit aM_order aM_end aM_bestOrder aM_bestEnd H.size M_units M_wanted M_parked M_states M_runSize x1 _ hw) (cwV 1 hts gX7_ready_X7_isUnit rfl rfl rfl (by decide +kernel) ⟨Nat.le_of_ble_eq_true rfl, Nat.le_of_ble_eq_true rfl⟩) 0 6 rfl rfl rfl rfl hl.1 (Nat.le_of_ble_eq_true rfl) dX7_ready_2 ⟨(Nat.le_of_ble_eq_true rfl), (Nat.le_of_ble_eq_true rfl)⟩ rfl (fun r1 u H locs hw hP hD hS => ?_)
  try dsimp only at hw
  have hP : va_P D vwCl [(aM, .inr (6, [.int M_units, .ref aM_kind, .ref aM_wash, .ref aM_fuel, .ref aM_isBroken, .ref aM_length, .int M_wanted, .ref aM_leaving, .int M_parked, .ref aM_stand, .ref aM_many, .ref aM_track, .ref aM_stack, .ref aM_depth, .ref aM_canBe, .int M_states, .ref aM_told, .ref aM_gone, .ref aM_cost, .ref aM_ways, .ref aM_places, .ref aM_now, .ref aM_high, .int M_runSize, .ref aM_run, .ref aM_runUnit, .ref aM_order, .ref aM_end, .ref aM_bestOrder, .ref aM_bestEnd])), (aM_wash, .inl (cI, 5, .inl M_wash)), (aM_fuel, .inl (cI, 5, .inl M_fuel)), (aM_order, .inl (cI, 5, .inl M_order)), (aM_end, .inl (cI, 5, .inl M_end))] H := hP.sub [4, 0, 1, 2, 3] rfl
  have hD : va_D A [(aM, .inr (6, [.int M_units, .ref aM_kind, .ref aM_wash, .ref aM_fuel, .ref aM_isBroken, .ref aM_length, .int M_wanted, .ref aM_leaving, .int M_parked, .ref aM_stand, .ref aM_many, .ref aM_track, .ref aM_stack, .ref aM_depth, .ref aM_canBe, .int M_states, .ref aM_told, .ref aM_gone, .ref aM_cost, .ref aM_ways, .ref aM_places, .ref aM_now, .ref aM_high, .int M_runSize, .ref aM_run, .ref aM_runUnit, .ref aM_order, .ref aM_end, .ref aM_bestOrder, .ref aM_bestEnd])), (aM_wash, .inl (cI, 5, .inl M_wash)), (aM_fuel, .inl (cI, 5, .inl M_fuel)), (aM_order, .inl (cI, 5, .inl M_order)), (aM_end, .inl (cI, 5, .inl M_end))] := hD.sub [4, 0, 1, 2, 3] (by decide) rfl
  refine lv_if_ne (tgt := 11) hx hb dX7_ready_5 (by decide) (fun hc2 => ?_) (fun hc2 => ?_)
  · have hw := hw.1 hc2
    refine lv_aload_n hx hb dX7_ready_11 rfl (lv_at hl 0 rfl) ?_
    refine zVv (As := []) (rest := []) (wc := [(aM, .inr (6, [.int M_units, .ref aM_kind, .ref aM_wash, .ref aM_fuel, .ref aM_isBroken, .ref aM_length, .int M_wanted, .ref aM_leaving, .int M_parked, .ref aM_stand, .ref aM_many, .ref aM_track, .ref aM_stack, .ref aM_depth, .ref aM_canBe, .int M_states, .ref aM_told, .ref aM_gone, .ref aM_cost, .ref aM_ways, .ref aM_places, .ref aM_now, .ref aM_high, .int M_runSize, .ref aM_run, .ref aM_runUnit, .ref aM_order, .ref aM_end, .ref aM_bestOrder, .ref aM_bestEnd])), (aM_order, .inl (cI, 5, .inl M_order))]) (wr := [(aM_wash, .inl (cI, 5, .inl M_wash)), (aM_fuel, .inl (cI, 5, .inl M_fuel)), (aM_end, .inl (cI, 5, .inl M_end))]) ⟨hx, hb, hml, hown, hts⟩ hK hP hD hS hA [0, 3] [1, 2, 4] rfl rfl (by decide) (by decide) (by decide) (c_X7_takeNumbers l D cI cJ cZ aM aM_kind aM_wash aM_fuel aM_isBroken aM_length aM_leaving aM_stand aM_many aM_track aM_stack aM_depth aM_canBe aM_told aM_gone aM_cost aM_ways aM_places aM_now aM_high aM_run aM_runUnit aM_order aM_end aM_bestOrder aM_bestEnd H.size M_units M_wanted M_parked M_states M_runSize M_order _ hw) (cwV 0 hts gX7_ready_X7_takeNumbers rfl rfl rfl (by decide +kernel) ⟨Nat.le_of_ble_eq_true rfl, Nat.le_of_ble_eq_true rfl⟩) 0 6 rfl rfl rfl rfl hl.1 (Nat.le_of_ble_eq_true rfl) dX7_ready_12 ⟨(Nat.le_of_ble_eq_true rfl), (Nat.le_of_ble_eq_true rfl)⟩ rfl (fun M_order_3 H locs hw hP hD hS => ?_)
    try dsimp only at hw
    have hP : va_P D vwCl [(aM, .inr (6, [.int M_units, .ref aM_kind, .ref aM_wash, .ref aM_fuel, .ref aM_isBroken, .ref aM_length, .int M_wanted, .ref aM_leaving, .int M_parked, .ref aM_stand, .ref aM_many, .ref aM_track, .ref aM_stack, .ref aM_depth, .ref aM_canBe, .int M_states, .ref aM_told, .ref aM_gone, .ref aM_cost, .ref aM_ways, .ref aM_places, .ref aM_now, .ref aM_high, .int M_runSize, .ref aM_run, .ref aM_runUnit, .ref aM_order, .ref aM_end, .ref aM_bestOrder, .ref aM_bestEnd])), (aM_wash, .inl (cI, 5, .inl M_wash)), (aM_fuel, .inl (cI, 5, .inl M_fuel)), (aM_order, .inl (cI, 5, .inl M_order_3)), (aM_end, .inl (cI, 5, .inl M_end))] H := hP.sub [3, 0, 1, 4, 2] rfl
    have hD : va_D A [(aM, .inr (6, [.int M_units, .ref aM_kind, .ref aM_wash, .ref aM_fuel, .ref aM_isBroken, .ref aM_length, .int M_wanted, .ref aM_leaving, .int M_parked, .ref aM_stand, .ref aM_many, .ref aM_track, .ref aM_stack, .ref aM_depth, .ref aM_canBe, .int M_states, .ref aM_told, .ref aM_gone, .ref aM_cost, .ref aM_ways, .ref aM_places, .ref aM_now, .ref aM_high, .int M_runSize, .ref aM_run, .ref aM_runUnit, .ref aM_order, .ref aM_end, .ref aM_bestOrder, .ref aM_bestEnd])), (aM_wash, .inl (cI, 5, .inl M_wash)), (aM_fuel, .inl (cI, 5, .inl M_fuel)), (aM_order, .inl (cI, 5, .inl M_order_3)), (aM_end, .inl (cI, 5, .inl M_end))] := hD.sub [3, 0, 1, 4, 2] (by decide) rfl
    refine lv_aload_n hx hb dX7_ready_15 rfl (lv_at hl 0 rfl) ?_
    refine zVi (As := []) (rest := []) (wc := [(aM, .inr (6, [.int M_units, .ref aM_kind, .ref aM_wash, .ref aM_fuel, .ref aM_isBroken, .ref aM_length, .int M_wanted, .ref aM_leaving, .int M_parked, .ref aM_stand, .ref aM_many, .ref aM_track, .ref aM_stack, .ref aM_depth, .ref aM_canBe, .int M_states, .ref aM_told, .ref aM_gone, .ref aM_cost, .ref aM_ways, .ref aM_places, .ref aM_now, .ref aM_high, .int M_runSize, .ref aM_run, .ref aM_runUnit, .ref aM_order, .ref aM_end, .ref aM_bestOrder, .ref aM_bestEnd])), (aM_wash, .inl (cI, 5, .inl M_wash)), (aM_fuel, .inl (cI, 5, .inl M_fuel)), (aM_order, .inl (cI, 5, .inl M_order_3)), (aM_end, .inl (cI, 5, .inl M_end))]) (wr := []) ⟨hx, hb, hml, hown, hts⟩ hK hP hD hS hA [0, 1, 2, 3, 4] [] rfl rfl (by decide) (by decide) (by decide) (c_X7_findEnds l D cI cJ cZ aM aM_kind aM_wash aM_fuel aM_isBroken aM_length aM_leaving aM_stand aM_many aM_track aM_stack aM_depth aM_canBe aM_told aM_gone aM_cost aM_ways aM_places aM_now aM_high aM_run aM_runUnit aM_order aM_end aM_bestOrder aM_bestEnd H.size M_units M_wanted M_parked M_states M_runSize M_wash M_fuel M_order_3 M_end _ hw) (cwV 0 hts gX7_ready_X7_findEnds rfl rfl rfl (by decide +kernel) ⟨Nat.le_of_ble_eq_true rfl, Nat.le_of_ble_eq_true rfl⟩) 0 6 rfl rfl rfl rfl hl.1 (Nat.le_of_ble_eq_true rfl) dX7_ready_16 ⟨(Nat.le_of_ble_eq_true rfl), (Nat.le_of_ble_eq_true rfl)⟩ rfl (fun r4 M_end_5 H locs hw hP hD hS => ?_)
    try dsimp only at hw
    have hP : va_P D vwCl [(aM, .inr (6, [.int M_units, .ref aM_kind, .ref aM_wash, .ref aM_fuel, .ref aM_isBroken, .ref aM_length, .int M_wanted, .ref aM_leaving, .int M_parked, .ref aM_stand, .ref aM_many, .ref aM_track, .ref aM_stack, .ref aM_depth, .ref aM_canBe, .int M_states, .ref aM_told, .ref aM_gone, .ref aM_cost, .ref aM_ways, .ref aM_places, .ref aM_now, .ref aM_high, .int M_runSize, .ref aM_run, .ref aM_runUnit, .ref aM_order, .ref aM_end, .ref aM_bestOrder, .ref aM_bestEnd])), (aM_wash, .inl (cI, 5, .inl M_wash)), (aM_fuel, .inl (cI, 5, .inl M_fuel)), (aM_order, .inl (cI, 5, .inl M_order_3)), (aM_end, .inl (cI, 5, .inl M_end_5))] H := hP.sub [0, 1, 2, 3, 4] rfl
    have hD : va_D A [(aM, .inr (6, [.int M_units, .ref aM_kind, .ref aM_wash, .ref aM_fuel, .ref aM_isBroken, .ref aM_length, .int M_wanted, .ref aM_leaving, .int M_parked, .ref aM_stand, .ref aM_many, .ref aM_track, .ref aM_stack, .ref aM_depth, .ref aM_canBe, .int M_states, .ref aM_told, .ref aM_gone, .ref aM_cost, .ref aM_ways, .ref aM_places, .ref aM_now, .ref aM_high, .int M_runSize, .ref aM_run, .ref aM_runUnit, .ref aM_order, .ref aM_end, .ref aM_bestOrder, .ref aM_bestEnd])), (aM_wash, .inl (cI, 5, .inl M_wash)), (aM_fuel, .inl (cI, 5, .inl M_fuel)), (aM_order, .inl (cI, 5, .inl M_order_3)), (aM_end, .inl (cI, 5, .inl M_end_5))] := hD.sub [0, 1, 2, 3, 4] (by decide) rfl
    refine lv_pop hx hb dX7_ready_19 rfl ?_
    refine lv_aload_n hx hb dX7_ready_20 rfl (lv_at hl 0 rfl) ?_
    refine va_get (D := D) (ci := 6) (v := .ref aM_end) (C := RX7) (T := TX7) (N := 30) hx hb hts hinX7 hown hK hP 0 rfl rfl 27 (by decide) hf79 (fun _ h9 => h9) rfl dX7_ready_21 ?_
    refine lv_iload_n hx hb dX7_ready_24 rfl (lv_at hl 1 rfl) ?_
    obtain ⟨hb6, hw⟩ := hw
    refine va_iald hx hb hK hP 4 0 rfl rfl hb6 dX7_ready_25 ?_
    exact hret (M_end_5 x1.toNatClampNeg) M_order_3 M_end_5 H locs 26 ls hw dX7_ready_26 hP hD hS 
  · have hw := hw.2 hc2
    refine lv_bipush (v := (-2)) hx hb dX7_ready_8 (by decide) ?_
    exact hret (-2) M_order M_end H locs 10 ls hw dX7_ready_10 hP hD hS 
