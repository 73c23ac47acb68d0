/-! X3_stepNumber -/
def wp_X3_stepNumber (nR_steps : Nat) (R_steps : Nat → Int32) (R_leastShunts : Int32) (x1 : Int32) (post : Int32 → Prop) : Prop :=
  ((R_leastShunts = (-1) → post (-1) ) ∧ (¬ R_leastShunts = (-1) → ((x1 < 0 → post (-1) ) ∧ (¬ x1 < 0 → (((nI nR_steps) ≤ x1 → post (-1) ) ∧ (¬ (nI nR_steps) ≤ x1 → vp_in x1 nR_steps ∧ (post (R_steps x1.toNatClampNeg) )))))))
set_option maxHeartbeats 4000000 in
set_option maxRecDepth 100000 in
theorem c_X3_stepNumber (l : Launch) (D : va_G) (cI cJ cZ : ClassId) (aR aD aR_leavers aR_steps : Nat) (vRs : Value) (sz : Nat) (nR_steps : Nat) (R_leastShunts : Int32) (R_knownAt : Int32) (R_steps : Nat → Int32) (x1 : Int32) (post : Int32 → Prop) (hw : wp_X3_stepNumber nR_steps R_steps R_leastShunts x1 post) : Met l yX3_stepNumber wsX3_stepNumber ({ frames := 0, cells := 0, slots := 0, locals := 0 } : Room) (va_Pc [.ref aR, .int x1] (zPre D cI cJ cZ [(aR, .inr (2, [.ref aD, .ref aR_leavers, .ref aR_steps, .int R_leastShunts, .int R_knownAt, vRs])), (aR_steps, .inl (cI, nR_steps, .inl R_steps))] sz)) (va_Qi (fun (r : Int32) (u : Unit) => post r) (zPost D cI cJ cZ (va_A [(aR, .inr (2, [.ref aD, .ref aR_leavers, .ref aR_steps, .int R_leastShunts, .int R_knownAt, vRs])), (aR_steps, .inl (cI, nR_steps, .inl R_steps))] sz) (fun u : Unit => [(aR, .inr (2, [.ref aD, .ref aR_leavers, .ref aR_steps, .int R_leastShunts, .int R_knownAt, vRs])), (aR_steps, .inl (cI, nR_steps, .inl R_steps))])) (va_A [(aR, .inr (2, [.ref aD, .ref aR_leavers, .ref aR_steps, .int R_leastShunts, .int R_knownAt, vRs])), (aR_steps, .inl (cI, nR_steps, .inl R_steps))] sz)) 0 0 (va_A [(aR, .inr (2, [.ref aD, .ref aR_leavers, .ref aR_steps, .int R_leastShunts, .int R_knownAt, vRs])), (aR_steps, .inl (cI, nR_steps, .inl R_steps))] sz) := by
  unfold wp_X3_stepNumber at hw
  refine Met.ofW (cc := cX3_stepNumber) (maxL := 2) (ret := some .int) (by decide) rfl ?_
  intro p e s m args below meth c s₁ B hml hv
  obtain ⟨rfl, hsz, hP, hK, hD0⟩ := hv
  have hx := B.exec
  have hb := B.bytes
  have hr := B.returns
  have hts := atoms_spec (ws := wsX3_stepNumber) B.pre
  have hown : s.vm.findClass RX3 = some m.cls := findClass_of_methodNamed B.named
  have hlocks := B.notSynchronized
  subst hsz
  have hD := hD0.self (sz := s.heap.size)
  generalize hAe : va_A [(aR, .inr (2, [.ref aD, .ref aR_leavers, .ref aR_steps, .int R_leastShunts, .int R_knownAt, vRs])), (aR_steps, .inl (cI, nR_steps, .inl R_steps))] s.heap.size = A at hD ⊢
  have hA : ∀ q : Nat, s.heap.size ≤ q → A q := fun q h => by rw [← hAe]; exact Or.inr h
  have hS : va_S A s.heap s.heap [] := va_S.rf
  refine (fun (hall : ∀ Q0 : State → Prop, (∀ (r : Int32)  (H : Heap) (locs : List Loc) (pc : Nat) (ls : Array Slot), post r → decode cX3_stepNumber pc = .ok (.ireturn, 1) → va_P D vwCl [(aR, .inr (2, [.ref aD, .ref aR_leavers, .ref aR_steps, .int R_leastShunts, .int R_knownAt, vRs])), (aR_steps, .inl (cI, nR_steps, .inl R_steps))] H → va_D A [(aR, .inr (2, [.ref aD, .ref aR_leavers, .ref aR_steps, .int R_leastShunts, .int R_knownAt, vRs])), (aR_steps, .inl (cI, nR_steps, .inl R_steps))] → va_S A s.heap H locs → W p l e ({ frames := 0, cells := 0, slots := 0, locals := 0 } : Room) s m ([.ref aR, .int x1] : List Value).toArray below meth c H locs 0 0 Q0 (F0 m pc ls [.int r])) → W p l e ({ frames := 0, cells := 0, slots := 0, locals := 0 } : Room) s m ([.ref aR, .int x1] : List Value).toArray below meth c s.heap [] 0 0 Q0 (entryFrame m ([.ref aR, .int x1] : List Value).toArray 2)) => hall _ (fun r  H locs pc ls hw hd hP hD hS => W.iret (v := r) hx hb hr (fun t ht hW => ⟨⟨r, (), rfl, hw, by rw [ht]; exact hP, va_K.moved hW.alike hK, hD⟩, hS.F ht⟩) hS.2.2 hd)) ?_
  intro Q0 hret
  have hl := lv_entry ([.ref aR, .int x1]) (n := 2) (Nat.le_of_ble_eq_true rfl)
  rw [lg_entry_eq]
  generalize (lg_sl ([.ref aR, .int x1]) ++ List.replicate (2 - (lg_sl ([.ref aR, .int x1])).length) Slot.unset).toArray = ls at hl ⊢
  have hl : lv_has ls 2 [(0, .ref aR), (1, .int x1)] := hl
  have hinX3 : ∀ w ∈ u_ws RX3 TX3 6, w ∈ wsX3_stepNumber := by decide +kernel
  have hf15 := hts (.fieldLink RX3 15 "DepotNight$Runs" "steps" "[I") (by decide +kernel)
  have hf18 := hts (.fieldLink RX3 18 "DepotNight$Runs" "leastShunts" "I") (by decide +kernel)
  obtain ⟨H, hHe⟩ : ∃ H, H = s.heap := ⟨_, rfl⟩
  obtain ⟨locs, hLo⟩ : ∃ locs : List Loc, locs = [] := ⟨_, rfl⟩
  have hS : va_S A s.heap H locs := by rw [hHe, hLo]; exact hS
  have hP : va_P D vwCl [(aR, .inr (2, [.ref aD, .ref aR_leavers, .ref aR_steps, .int R_leastShunts, .int R_knownAt, vRs])), (aR_steps, .inl (cI, nR_steps, .inl R_steps))] H := by rw [hHe]; exact hP
  refine (fun (hgo : W p l e ({ frames := 0, cells := 0, slots := 0, locals := 0 } : Room) s m ([.ref aR, .int x1] : List Value).toArray below meth c H locs 0 0 Q0 (F0 m 0 ls [])) => by rw [hHe, hLo] at hgo; exact hgo) ?_
  refine lv_aload_n hx hb dX3_stepNumber_0 rfl (lv_at hl 0 rfl) ?_
  refine va_get (D := D) (ci := 2) (v := .int R_leastShunts) (C := RX3) (T := TX3) (N := 6) hx hb hts hinX3 hown hK hP 0 rfl rfl 3 (by decide) hf18 (fun _ h9 => h9) rfl dX3_stepNumber_1 ?_
  refine lv_iconst (v := (-1)) hx hb dX3_stepNumber_4 (by decide) ?_
  refine lv_icmp_eq (tgt := 30) hx hb dX3_stepNumber_5 (by decide) (fun hc1 => ?_) (fun hc1 => ?_)
  · have hw := hw.1 hc1
    refine lv_iconst (v := (-1)) hx hb dX3_stepNumber_30 (by decide) ?_
    exact hret (-1)  H locs 31 ls hw dX3_stepNumber_31 hP hD hS 
  · have hw := hw.2 hc1
    refine lv_iload_n hx hb dX3_stepNumber_8 rfl (lv_at hl 1 rfl) ?_
    refine lv_if_lt (tgt := 30) hx hb dX3_stepNumber_9 (by decide) (fun hc2 => ?_) (fun hc2 => ?_)
    · have hw := hw.1 hc2
      refine lv_iconst (v := (-1)) hx hb dX3_stepNumber_30 (by decide) ?_
      exact hret (-1)  H locs 31 ls hw dX3_stepNumber_31 hP hD hS 
    · have hw := hw.2 hc2
      refine lv_iload_n hx hb dX3_stepNumber_12 rfl (lv_at hl 1 rfl) ?_
      refine lv_aload_n hx hb dX3_stepNumber_13 rfl (lv_at hl 0 rfl) ?_
      refine va_get (D := D) (ci := 2) (v := .ref aR_steps) (C := RX3) (T := TX3) (N := 6) hx hb hts hinX3 hown hK hP 0 rfl rfl 2 (by decide) hf15 (fun _ h9 => h9) rfl dX3_stepNumber_14 ?_
      refine va_alen (v := (nI nR_steps)) hx hb hK hP 1 0 rfl rfl rfl dX3_stepNumber_17 ?_
      refine lv_icmp_ge (tgt := 30) hx hb dX3_stepNumber_18 (by decide) (fun hc3 => ?_) (fun hc3 => ?_)
      · have hw := hw.1 hc3
        refine lv_iconst (v := (-1)) hx hb dX3_stepNumber_30 (by decide) ?_
        exact hret (-1)  H locs 31 ls hw dX3_stepNumber_31 hP hD hS 
      · have hw := hw.2 hc3
        refine lv_aload_n hx hb dX3_stepNumber_21 rfl (lv_at hl 0 rfl) ?_
        refine va_get (D := D) (ci := 2) (v := .ref aR_steps) (C := RX3) (T := TX3) (N := 6) hx hb hts hinX3 hown hK hP 0 rfl rfl 2 (by decide) hf15 (fun _ h9 => h9) rfl dX3_stepNumber_22 ?_
        refine lv_iload_n hx hb dX3_stepNumber_25 rfl (lv_at hl 1 rfl) ?_
        obtain ⟨hb4, hw⟩ := hw
        refine va_iald hx hb hK hP 1 0 rfl rfl hb4 dX3_stepNumber_26 ?_
        refine lv_goto (tgt := 31) hx hb dX3_stepNumber_27 (by decide) ?_
        exact hret (R_steps x1.toNatClampNeg)  H locs 31 ls hw dX3_stepNumber_31 hP hD hS 
/-! X3_leaver -/
def wp_X3_leaver (D_leaving : Int32) (R_leavers : Nat → Int32) (R_leastShunts : Int32) (x1 : Int32) (post : Int32 → Prop) : Prop :=
  ((R_leastShunts = (-1) → post (-1) ) ∧ (¬ R_leastShunts = (-1) → ((x1 < 0 → post (-1) ) ∧ (¬ x1 < 0 → ((D_leaving ≤ x1 → post (-1) ) ∧ (¬ D_leaving ≤ x1 → vp_in x1 5 ∧ (post (R_leavers x1.toNatClampNeg) )))))))
set_option maxHeartbeats 4000000 in
set_option maxRecDepth 100000 in
theorem c_X3_leaver (l : Launch) (D : va_G) (cI cJ cZ : ClassId) (aD aD_kinds aD_washes aD_fuels aD_isBroken aD_lengths aD_wanted aD_trackOf aR aR_leavers aR_steps : Nat) (vRs : Value) (sz : Nat) (D_units : Int32) (D_leaving : Int32) (D_parked : Int32) (D_changes : Int32) (R_leastShunts : Int32) (R_knownAt : Int32) (R_leavers : Nat → Int32) (x1 : Int32) (post : Int32 → Prop) (hw : wp_X3_leaver D_leaving R_leavers R_leastShunts x1 post) : Met l yX3_leaver wsX3_leaver ({ frames := 0, cells := 0, slots := 0, locals := 0 } : Room) (va_Pc [.ref aR, .int x1] (zPre D cI cJ cZ [(aD, .inr (0, [.ref aD_kinds, .ref aD_washes, .ref aD_fuels, .ref aD_isBroken, .int D_units, .ref aD_lengths, .ref aD_wanted, .int D_leaving, .ref aD_trackOf, .int D_parked, .int D_changes])), (aR, .inr (2, [.ref aD, .ref aR_leavers, .ref aR_steps, .int R_leastShunts, .int R_knownAt, vRs])), (aR_leavers, .inl (cI, 5, .inl R_leavers))] sz)) (va_Qi (fun (r : Int32) (u : Unit) => post r) (zPost D cI cJ cZ (va_A [(aD, .inr (0, [.ref aD_kinds, .ref aD_washes, .ref aD_fuels, .ref aD_isBroken, .int D_units, .ref aD_lengths, .ref aD_wanted, .int D_leaving, .ref aD_trackOf, .int D_parked, .int D_changes])), (aR, .inr (2, [.ref aD, .ref aR_leavers, .ref aR_steps, .int R_leastShunts, .int R_knownAt, vRs])), (aR_leavers, .inl (cI, 5, .inl R_leavers))] sz) (fun u : Unit => [(aD, .inr (0, [.ref aD_kinds, .ref aD_washes, .ref aD_fuels, .ref aD_isBroken, .int D_units, .ref aD_lengths, .ref aD_wanted, .int D_leaving, .ref aD_trackOf, .int D_parked, .int D_changes])), (aR, .inr (2, [.ref aD, .ref aR_leavers, .ref aR_steps, .int R_leastShunts, .int R_knownAt, vRs])), (aR_leavers, .inl (cI, 5, .inl R_leavers))])) (va_A [(aD, .inr (0, [.ref aD_kinds, .ref aD_washes, .ref aD_fuels, .ref aD_isBroken, .int D_units, .ref aD_lengths, .ref aD_wanted, .int D_leaving, .ref aD_trackOf, .int D_parked, .int D_changes])), (aR, .inr (2, [.ref aD, .ref aR_leavers, .ref aR_steps, .int R_leastShunts, .int R_knownAt, vRs])), (aR_leavers, .inl (cI, 5, .inl R_leavers))] sz)) 0 0 (va_A [(aD, .inr (0, [.ref aD_kinds, .ref aD_washes, .ref aD_fuels, .ref aD_isBroken, .int D_units, .ref aD_lengths, .ref aD_wanted, .int D_leaving, .ref aD_trackOf, .int D_parked, .int D_changes])), (aR, .inr (2, [.ref aD, .ref aR_leavers, .ref aR_steps, .int R_leastShunts, .int R_knownAt, vRs])), (aR_leavers, .inl (cI, 5, .inl R_leavers))] sz) := by
  unfold wp_X3_leaver at hw
  refine Met.ofW (cc := cX3_leaver) (maxL := 2) (ret := some .int) (by decide) rfl ?_
  intro p e s m args below meth c s₁ B hml hv
  obtain ⟨rfl, hsz, hP, hK, hD0⟩ := hv
  have hx := B.exec
  have hb := B.bytes
  have hr := B.returns
  have hts := atoms_spec (ws := wsX3_leaver) B.pre
  have hown : s.vm.findClass RX3 = some m.cls := findClass_of_methodNamed B.named
  have hlocks := B.notSynchronized
  subst hsz
  have hD := hD0.self (sz := s.heap.size)
  generalize hAe : va_A [(aD, .inr (0, [.ref aD_kinds, .ref aD_washes, .ref aD_fuels, .ref aD_isBroken, .int D_units, .ref aD_lengths, .ref aD_wanted, .int D_leaving, .ref aD_trackOf, .int D_parked, .int D_changes])), (aR, .inr (2, [.ref aD, .ref aR_leavers, .ref aR_steps, .int R_leastShunts, .int R_knownAt, vRs])), (aR_leavers, .inl (cI, 5, .inl R_leavers))] s.heap.size = A at hD ⊢
  have hA : ∀ q : Nat, s.heap.size ≤ q → A q := fun q h => by rw [← hAe]; exact Or.inr h
  have hS : va_S A s.heap s.heap [] := va_S.rf
  refine (fun (hall : ∀ Q0 : State → Prop, (∀ (r : Int32)  (H : Heap) (locs : List Loc) (pc : Nat) (ls : Array Slot), post r → decode cX3_leaver pc = .ok (.ireturn, 1) → va_P D vwCl [(aD, .inr (0, [.ref aD_kinds, .ref aD_washes, .ref aD_fuels, .ref aD_isBroken, .int D_units, .ref aD_lengths, .ref aD_wanted, .int D_leaving, .ref aD_trackOf, .int D_parked, .int D_changes])), (aR, .inr (2, [.ref aD, .ref aR_leavers, .ref aR_steps, .int R_leastShunts, .int R_knownAt, vRs])), (aR_leavers, .inl (cI, 5, .inl R_leavers))] H → va_D A [(aD, .inr (0, [.ref aD_kinds, .ref aD_washes, .ref aD_fuels, .ref aD_isBroken, .int D_units, .ref aD_lengths, .ref aD_wanted, .int D_leaving, .ref aD_trackOf, .int D_parked, .int D_changes])), (aR, .inr (2, [.ref aD, .ref aR_leavers, .ref aR_steps, .int R_leastShunts, .int R_knownAt, vRs])), (aR_leavers, .inl (cI, 5, .inl R_leavers))] → va_S A s.heap H locs → W p l e ({ frames := 0, cells := 0, slots := 0, locals := 0 } : Room) s m ([.ref aR, .int x1] : List Value).toArray below meth c H locs 0 0 Q0 (F0 m pc ls [.int r])) → W p l e ({ frames := 0, cells := 0, slots := 0, locals := 0 } : Room) s m ([.ref aR, .int x1] : List Value).toArray below meth c s.heap [] 0 0 Q0 (entryFrame m ([.ref aR, .int x1] : List Value).toArray 2)) => hall _ (fun r  H locs pc ls hw hd hP hD hS => W.iret (v := r) hx hb hr (fun t ht hW => ⟨⟨r, (), rfl, hw, by rw [ht]; exact hP, va_K.moved hW.alike hK, hD⟩, hS.F ht⟩) hS.2.2 hd)) ?_
  intro Q0 hret
  have hl := lv_entry ([.ref aR, .int x1]) (n := 2) (Nat.le_of_ble_eq_true rfl)
  rw [lg_entry_eq]
  generalize (lg_sl ([.ref aR, .int x1]) ++ List.replicate (2 - (lg_sl ([.ref aR, .int x1])).length) Slot.unset).toArray = ls at hl ⊢
  have hl : lv_has ls 2 [(0, .ref aR), (1, .int x1)] := hl
  have hinX0 : ∀ w ∈ u_ws RX0 TX0 11, w ∈ wsX3_leaver := by decide +kernel
  have hinX3 : ∀ w ∈ u_ws RX3 TX3 6, w ∈ wsX3_leaver := by decide +kernel
  have hf9 := hts (.fieldLink RX3 9 "DepotNight$Runs" "leavers" "[I") (by decide +kernel)
  have hf18 := hts (.fieldLink RX3 18 "DepotNight$Runs" "leastShunts" "I") (by decide +kernel)
  have hf29 := hts (.fieldLink RX3 29 "DepotNight$Runs" "depot" "LDepotNight$Depot;") (by decide +kernel)
  have hf33 := hts (.fieldLink RX3 33 "DepotNight$Depot" "leaving" "I") (by decide +kernel)
  obtain ⟨H, hHe⟩ : ∃ H, H = s.heap := ⟨_, rfl⟩
  obtain ⟨locs, hLo⟩ : ∃ locs : List Loc, locs = [] := ⟨_, rfl⟩
  have hS : va_S A s.heap H locs := by rw [hHe, hLo]; exact hS
  have hP : va_P D vwCl [(aD, .inr (0, [.ref aD_kinds, .ref aD_washes, .ref aD_fuels, .ref aD_isBroken, .int D_units, .ref aD_lengths, .ref aD_wanted, .int D_leaving, .ref aD_trackOf, .int D_parked, .int D_changes])), (aR, .inr (2, [.ref aD, .ref aR_leavers, .ref aR_steps, .int R_leastShunts, .int R_knownAt, vRs])), (aR_leavers, .inl (cI, 5, .inl R_leavers))] H := by rw [hHe]; exact hP
  refine (fun (hgo : W p l e ({ frames := 0, cells := 0, slots := 0, locals := 0 } : Room) s m ([.ref aR, .int x1] : List Value).toArray below meth c H locs 0 0 Q0 (F0 m 0 ls [])) => by rw [hHe, hLo] at hgo; exact hgo) ?_
  refine lv_aload_n hx hb dX3_leaver_0 rfl (lv_at hl 0 rfl) ?_
  refine va_get (D := D) (ci := 2) (v := .int R_leastShunts) (C := RX3) (T := TX3) (N := 6) hx hb hts hinX3 hown hK hP 1 rfl rfl 3 (by decide) hf18 (fun _ h9 => h9) rfl dX3_leaver_1 ?_
  refine lv_iconst (v := (-1)) hx hb dX3_leaver_4 (by decide) ?_
  refine lv_icmp_eq (tgt := 32) hx hb dX3_leaver_5 (by decide) (fun hc1 => ?_) (fun hc1 => ?_)
  · have hw := hw.1 hc1
    refine lv_iconst (v := (-1)) hx hb dX3_leaver_32 (by decide) ?_
    exact hret (-1)  H locs 33 ls hw dX3_leaver_33 hP hD hS 
  · have hw := hw.2 hc1
    refine lv_iload_n hx hb dX3_leaver_8 rfl (lv_at hl 1 rfl) ?_
    refine lv_if_lt (tgt := 32) hx hb dX3_leaver_9 (by decide) (fun hc2 => ?_) (fun hc2 => ?_)
    · have hw := hw.1 hc2
      refine lv_iconst (v := (-1)) hx hb dX3_leaver_32 (by decide) ?_
      exact hret (-1)  H locs 33 ls hw dX3_leaver_33 hP hD hS 
    · have hw := hw.2 hc2
      refine lv_iload_n hx hb dX3_leaver_12 rfl (lv_at hl 1 rfl) ?_
      refine lv_aload_n hx hb dX3_leaver_13 rfl (lv_at hl 0 rfl) ?_
      refine va_get (D := D) (ci := 2) (v := .ref aD) (C := RX3) (T := TX3) (N := 6) hx hb hts hinX3 hown hK hP 1 rfl rfl 0 (by decide) hf29 (fun _ h9 => h9) rfl dX3_leaver_14 ?_
      refine va_get (D := D) (ci := 0) (v := .int D_leaving) (C := RX0) (T := TX0) (N := 11) hx hb hts hinX0 hown hK hP 0 rfl rfl 7 (by decide) hf33 (fun _ h9 => h9) rfl dX3_leaver_17 ?_
      refine lv_icmp_ge (tgt := 32) hx hb dX3_leaver_20 (by decide) (fun hc3 => ?_) (fun hc3 => ?_)
      · have hw := hw.1 hc3
        refine lv_iconst (v := (-1)) hx hb dX3_leaver_32 (by decide) ?_
        exact hret (-1)  H locs 33 ls hw dX3_leaver_33 hP hD hS 
      · have hw := hw.2 hc3
        refine lv_aload_n hx hb dX3_leaver_23 rfl (lv_at hl 0 rfl) ?_
        refine va_get (D := D) (ci := 2) (v := .ref aR_leavers) (C := RX3) (T := TX3) (N := 6) hx hb hts hinX3 hown hK hP 1 rfl rfl 1 (by decide) hf9 (fun _ h9 => h9) rfl dX3_leaver_24 ?_
        refine lv_iload_n hx hb dX3_leaver_27 rfl (lv_at hl 1 rfl) ?_
        obtain ⟨hb4, hw⟩ := hw
        refine va_iald hx hb hK hP 2 0 rfl rfl hb4 dX3_leaver_28 ?_
        refine lv_goto (tgt := 33) hx hb dX3_leaver_29 (by decide) ?_
        exact hret (R_leavers x1.toNatClampNeg)  H locs 33 ls hw dX3_leaver_33 hP hD hS 
/-! X3_servingMark -/
def wp_X3_servingMark (D_kinds : Nat → Int32) (D_isBroken : Nat → Int32) (x1 : Int32) (post : Int32 → Prop) : Prop :=
  vp_in x1 5 ∧ ((((D_isBroken x1.toNatClampNeg) = 0 → vp_in x1 5 ∧ (wp_X2_markOfKind (D_kinds x1.toNatClampNeg) (fun (r4 : Int32) => post r4 ))) ∧ (¬ (D_isBroken x1.toNatClampNeg) = 0 → post 5 )))
set_option maxHeartbeats 4000000 in
set_option maxRecDepth 100000 in
theorem c_X3_servingMark (l : Launch) (D : va_G) (cI cJ cZ : ClassId) (aD aD_kinds aD_washes aD_fuels aD_isBroken aD_lengths aD_wanted aD_trackOf aR aR_leavers aR_steps : Nat) (vRs : Value) (sz : Nat) (D_units : Int32) (D_leaving : Int32) (D_parked : Int32) (D_changes : Int32) (R_leastShunts : Int32) (R_knownAt : Int32) (D_kinds : Nat → Int32) (D_isBroken : Nat → Int32) (x1 : Int32) (post : Int32 → Prop) (hw : wp_X3_servingMark D_kinds D_isBroken x1 post) : Met l yX3_servingMark wsX3_servingMark ({ frames := 1, cells := 0, slots := 0, locals := 20 } : Room) (va_Pc [.ref aR, .int x1] (zPre D cI cJ cZ [(aD, .inr (0, [.ref aD_kinds, .ref aD_washes, .ref aD_fuels, .ref aD_isBroken, .int D_units, .ref aD_lengths, .ref aD_wanted, .int D_leaving, .ref aD_trackOf, .int D_parked, .int D_changes])), (aR, .inr (2, [.ref aD, .ref aR_leavers, .ref aR_steps, .int R_leastShunts, .int R_knownAt, vRs])), (aD_kinds, .inl (cI, 5, .inl D_kinds)), (aD_isBroken, .inl (cZ, 5, .inl D_isBroken))] sz)) (va_Qi (fun (r : Int32) (u : Unit) => post r) (zPost D cI cJ cZ (va_A [(aD, .inr (0, [.ref aD_kinds, .ref aD_washes, .ref aD_fuels, .ref aD_isBroken, .int D_units, .ref aD_lengths, .ref aD_wanted, .int D_leaving, .ref aD_trackOf, .int D_parked, .int D_changes])), (aR, .inr (2, [.ref aD, .ref aR_leavers, .ref aR_steps, .int R_leastShunts, .int R_knownAt, vRs])), (aD_kinds, .inl (cI, 5, .inl D_kinds)), (aD_isBroken, .inl (cZ, 5, .inl D_isBroken))] sz) (fun u : Unit => [(aD, .inr (0, [.ref aD_kinds, .ref aD_washes, .ref aD_fuels, .ref aD_isBroken, .int D_units, .ref aD_lengths, .ref aD_wanted, .int D_leaving, .ref aD_trackOf, .int D_parked, .int D_changes])), (aR, .inr (2, [.ref aD, .ref aR_leavers, .ref aR_steps, .int R_leastShunts, .int R_knownAt, vRs])), (aD_kinds, .inl (cI, 5, .inl D_kinds)), (aD_isBroken, .inl (cZ, 5, .inl D_isBroken))])) (va_A [(aD, .inr (0, [.ref aD_kinds, .ref aD_washes, .ref aD_fuels, .ref aD_isBroken, .int D_units, .ref aD_lengths, .ref aD_wanted, .int D_leaving, .ref aD_trackOf, .int D_parked, .int D_changes])), (aR, .inr (2, [.ref aD, .ref aR_leavers, .ref aR_steps, .int R_leastShunts, .int R_knownAt, vRs])), (aD_kinds, .inl (cI, 5, .inl D_kinds)), (aD_isBroken, .inl (cZ, 5, .inl D_isBroken))] sz)) 0 0 (va_A [(aD, .inr (0, [.ref aD_kinds, .ref aD_washes, .ref aD_fuels, .ref aD_isBroken, .int D_units, .ref aD_lengths, .ref aD_wanted, .int D_leaving, .ref aD_trackOf, .int D_parked, .int D_changes])), (aR, .inr (2, [.ref aD, .ref aR_leavers, .ref aR_steps, .int R_leastShunts, .int R_knownAt, vRs])), (aD_kinds, .inl (cI, 5, .inl D_kinds)), (aD_isBroken, .inl (cZ, 5, .inl D_isBroken))] sz) := by
  unfold wp_X3_servingMark at hw
  refine Met.ofW (cc := cX3_servingMark) (maxL := 2) (ret := some .int) (by decide) rfl ?_
  intro p e s m args below meth c s₁ B hml hv
  obtain ⟨rfl, hsz, hP, hK, hD0⟩ := hv
  have hx := B.exec
  have hb := B.bytes
  have hr := B.returns
  have hts := atoms_spec (ws := wsX3_servingMark) B.pre
  have hown : s.vm.findClass RX3 = some m.cls := findClass_of_methodNamed B.named
  have hlocks := B.notSynchronized
  subst hsz
  have hD := hD0.self (sz := s.heap.size)
  generalize hAe : va_A [(aD, .inr (0, [.ref aD_kinds, .ref aD_washes, .ref aD_fuels, .ref aD_isBroken, .int D_units, .ref aD_lengths, .ref aD_wanted, .int D_leaving, .ref aD_trackOf, .int D_parked, .int D_changes])), (aR, .inr (2, [.ref aD, .ref aR_leavers, .ref aR_steps, .int R_leastShunts, .int R_knownAt, vRs])), (aD_kinds, .inl (cI, 5, .inl D_kinds)), (aD_isBroken, .inl (cZ, 5, .inl D_isBroken))] s.heap.size = A at hD ⊢
  have hA : ∀ q : Nat, s.heap.size ≤ q → A q := fun q h => by rw [← hAe]; exact Or.inr h
  have hS : va_S A s.heap s.heap [] := va_S.rf
  refine (fun (hall : ∀ Q0 : State → Prop, (∀ (r : Int32)  (H : Heap) (locs : List Loc) (pc : Nat) (ls : Array Slot), post r → decode cX3_servingMark pc = .ok (.ireturn, 1) → va_P D vwCl [(aD, .inr (0, [.ref aD_kinds, .ref aD_washes, .ref aD_fuels, .ref aD_isBroken, .int D_units, .ref aD_lengths, .ref aD_wanted, .int D_leaving, .ref aD_trackOf, .int D_parked, .int D_changes])), (aR, .inr (2, [.ref aD, .ref aR_leavers, .ref aR_steps, .int R_leastShunts, .int R_knownAt, vRs])), (aD_kinds, .inl (cI, 5, .inl D_kinds)), (aD_isBroken, .inl (cZ, 5, .inl D_isBroken))] H → va_D A [(aD, .inr (0, [.ref aD_kinds, .ref aD_washes, .ref aD_fuels, .ref aD_isBroken, .int D_units, .ref aD_lengths, .ref aD_wanted, .int D_leaving, .ref aD_trackOf, .int D_parked, .int D_changes])), (aR, .inr (2, [.ref aD, .ref aR_leavers, .ref aR_steps, .int R_leastShunts, .int R_knownAt, vRs])), (aD_kinds, .inl (cI, 5, .inl D_kinds)), (aD_isBroken, .inl (cZ, 5, .inl D_isBroken))] → va_S A s.heap H locs → W p l e ({ frames := 1, cells := 0, slots := 0, locals := 20 } : Room) s m ([.ref aR, .int x1] : List Value).toArray below meth c H locs 0 0 Q0 (F0 m pc ls [.int r])) → W p l e ({ frames := 1, cells := 0, slots := 0, locals := 20 } : Room) s m ([.ref aR, .int x1] : List Value).toArray below meth c s.heap [] 0 0 Q0 (entryFrame m ([.ref aR, .int x1] : List Value).toArray 2)) => hall _ (fun r  H locs pc ls hw hd hP hD hS => W.iret (v := r) hx hb hr (fun t ht hW => ⟨⟨r, (), rfl, hw, by rw [ht]; exact hP, va_K.moved hW.alike hK, hD⟩, hS.F ht⟩) hS.2.2 hd)) ?_
  intro Q0 hret
  have hl := lv_entry ([.ref aR, .int x1]) (n := 2) (Nat.le_of_ble_eq_true rfl)
  rw [lg_entry_eq]
  generalize (lg_sl ([.ref aR, .int x1]) ++ List.replicate (2 - (lg_sl ([.ref aR, .int x1])).length) Slot.unset).toArray = ls at hl ⊢
  have hl : lv_has ls 2 [(0, .ref aR), (1, .int x1)] := hl
  have hinX0 : ∀ w ∈ u_ws RX0 TX0 11, w ∈ wsX3_servingMark := by decide +kernel
  have hinX3 : ∀ w ∈ u_ws RX3 TX3 6, w ∈ wsX3_servingMark := by decide +kernel
  have hf29 := hts (.fieldLink RX3 29 "DepotNight$Runs" "depot" "LDepotNight$Depot;") (by decide +kernel)
  have hf81 := hts (.fieldLink RX3 81 "DepotNight$Depot" "isBroken" "[Z") (by decide +kernel)
  have hf85 := hts (.fieldLink RX3 85 "DepotNight$Depot" "kinds" "[I") (by decide +kernel)
  obtain ⟨H, hHe⟩ : ∃ H, H = s.heap := ⟨_, rfl⟩
  obtain ⟨locs, hLo⟩ : ∃ locs : List Loc, locs = [] := ⟨_, rfl⟩
  have hS : va_S A s.heap H locs := by rw [hHe, hLo]; exact hS
  have hP : va_P D vwCl [(aD, .inr (0, [.ref aD_kinds, .ref aD_washes, .ref aD_fuels, .ref aD_isBroken, .int D_units, .ref aD_lengths, .ref aD_wanted, .int D_leaving, .ref aD_trackOf, .int D_parked, .int D_changes])), (aR, .inr (2, [.ref aD, .ref aR_leavers, .ref aR_steps, .int R_leastShunts, .int R_knownAt, vRs])), (aD_kinds, .inl (cI, 5, .inl D_kinds)), (aD_isBroken, .inl (cZ, 5, .inl D_isBroken))] H := by rw [hHe]; exact hP
  refine (fun (hgo : W p l e ({ frames := 1, cells := 0, slots := 0, locals := 20 } : Room) s m ([.ref aR, .int x1] : List Value).toArray below meth c H locs 0 0 Q0 (F0 m 0 ls [])) => by rw [hHe, hLo] at hgo; exact hgo) ?_
  refine lv_aload_n hx hb dX3_servingMark_0 rfl (lv_at hl 0 rfl) ?_
  refine va_get (D := D) (ci := 2) (v := .ref aD) (C := RX3) (T := TX3) (N := 6) hx hb hts hinX3 hown hK hP 1 rfl rfl 0 (by decide) hf29 (fun _ h9 => h9) rfl dX3_servingMark_1 ?_
  refine va_get (D := D) (ci := 0) (v := .ref aD_isBroken) (C := RX0) (T := TX0) (N := 11) hx hb hts hinX0 hown hK hP 0 rfl rfl 3 (by decide) hf81 (fun _ h9 => h9) rfl dX3_servingMark_4 ?_
  refine lv_iload_n hx hb dX3_servingMark_7 rfl (lv_at hl 1 rfl) ?_
  obtain ⟨hb1, hw⟩ := hw
  refine va_zald hx hb hK hP 3 2 rfl rfl hb1 dX3_servingMark_8 ?_
  refine lv_if_eq (tgt := 16) hx hb dX3_servingMark_9 (by decide) (fun hc2 => ?_) (fun hc2 => ?_)
  · have hw := hw.1 hc2
    refine lv_aload_n hx hb dX3_servingMark_16 rfl (lv_at hl 0 rfl) ?_
    refine va_get (D := D) (ci := 2) (v := .ref aD) (C := RX3) (T := TX3) (N := 6) hx hb hts hinX3 hown hK hP 1 rfl rfl 0 (by decide) hf29 (fun _ h9 => h9) rfl dX3_servingMark_17 ?_
    refine va_get (D := D) (ci := 0) (v := .ref aD_kinds) (C := RX0) (T := TX0) (N := 11) hx hb hts hinX0 hown hK hP 0 rfl rfl 0 (by decide) hf85 (fun _ h9 => h9) rfl dX3_servingMark_20 ?_
    refine lv_iload_n hx hb dX3_servingMark_23 rfl (lv_at hl 1 rfl) ?_
    obtain ⟨hb3, hw⟩ := hw
    refine va_iald hx hb hK hP 2 0 rfl rfl hb3 dX3_servingMark_24 ?_
    refine zSi (As := [.int (D_kinds x1.toNatClampNeg)]) (rest := []) (wc := []) (wr := [(aD, .inr (0, [.ref aD_kinds, .ref aD_washes, .ref aD_fuels, .ref aD_isBroken, .int D_units, .ref aD_lengths, .ref aD_wanted, .int D_leaving, .ref aD_trackOf, .int D_parked, .int D_changes])), (aR, .inr (2, [.ref aD, .ref aR_leavers, .ref aR_steps, .int R_leastShunts, .int R_knownAt, vRs])), (aD_kinds, .inl (cI, 5, .inl D_kinds)), (aD_isBroken, .inl (cZ, 5, .inl D_isBroken))]) ⟨hx, hb, hml, hown, hts⟩ hK hP hD hS hA [] [0, 1, 2, 3] rfl rfl (by decide) (by decide) (by decide) (c_X2_markOfKind l D cI cJ cZ H.size (D_kinds x1.toNatClampNeg) _ hw) (va_cwS 1 hts gX3_servingMark_X2_markOfKind rfl rfl rfl (by decide +kernel) ⟨Nat.le_of_ble_eq_true rfl, Nat.le_of_ble_eq_true rfl⟩) rfl hl.1 (Nat.le_of_ble_eq_true rfl) dX3_servingMark_25 ⟨(Nat.le_of_ble_eq_true rfl), (Nat.le_of_ble_eq_true rfl)⟩ rfl (fun r4 u H locs hw hP hD hS => ?_)
    try dsimp only at hw
    have hP : va_P D vwCl [(aD, .inr (0, [.ref aD_kinds, .ref aD_washes, .ref aD_fuels, .ref aD_isBroken, .int D_units, .ref aD_lengths, .ref aD_wanted, .int D_leaving, .ref aD_trackOf, .int D_parked, .int D_changes])), (aR, .inr (2, [.ref aD, .ref aR_leavers, .ref aR_steps, .int R_leastShunts, .int R_knownAt, vRs])), (aD_kinds, .inl (cI, 5, .inl D_kinds)), (aD_isBroken, .inl (cZ, 5, .inl D_isBroken))] H := hP.sub [0, 1, 2, 3] rfl
    have hD : va_D A [(aD, .inr (0, [.ref aD_kinds, .ref aD_washes, .ref aD_fuels, .ref aD_isBroken, .int D_units, .ref aD_lengths, .ref aD_wanted, .int D_leaving, .ref aD_trackOf, .int D_parked, .int D_changes])), (aR, .inr (2, [.ref aD, .ref aR_leavers, .ref aR_steps, .int R_leastShunts, .int R_knownAt, vRs])), (aD_kinds, .inl (cI, 5, .inl D_kinds)), (aD_isBroken, .inl (cZ, 5, .inl D_isBroken))] := hD.sub [0, 1, 2, 3] (by decide) rfl
    exact hret r4  H locs 28 ls hw dX3_servingMark_28 hP hD hS 
  · have hw := hw.2 hc2
    refine lv_iconst (v := 5) hx hb dX3_servingMark_12 (by decide) ?_
    refine lv_goto (tgt := 28) hx hb dX3_servingMark_13 (by decide) ?_
    exact hret 5  H locs 28 ls hw dX3_servingMark_28 hP hD hS 
/-! X3_yard -/
def B_X3_yard_34 (D_kinds : Nat → Int32) (D_isBroken : Nat → Int32) (D_trackOf : Nat → Int32) (D_parked : Int32) (x1 : Int32) (post : Int64 → Prop) (K5 : Int64 → Int32 → Prop) (x2 : Int64) (x4 : Int32) (s0 : Int32) : Prop :=
  vp_in x4 5 ∧ (wp_X2_put x2 (D_trackOf x4.toNatClampNeg) s0 (fun (r5 : Int64) => K5 r5 (x4 + 1)))
def Y_X3_yard_5 (D_kinds : Nat → Int32) (D_isBroken : Nat → Int32) (D_trackOf : Nat → Int32) (D_parked : Int32) (x1 : Int32) (post : Int64 → Prop) (K5 : Int64 → Int32 → Prop) (x2 : Int64) (x4 : Int32) : Prop :=
  ((D_parked ≤ x4 → post x2 ) ∧ (¬ D_parked ≤ x4 → ((x1 = 0 → wp_X3_servingMark D_kinds D_isBroken x4 (fun (r3 : Int32) => B_X3_yard_34 D_kinds D_isBroken D_trackOf D_parked x1 post K5 x2 x4 r3)) ∧ (¬ x1 = 0 → B_X3_yard_34 D_kinds D_isBroken D_trackOf D_parked x1 post K5 x2 x4 (x4 + 1)))))
def Z_X3_yard_5 (D_kinds : Nat → Int32) (D_isBroken : Nat → Int32) (D_trackOf : Nat → Int32) (D_parked : Int32) (x1 : Int32) (post : Int64 → Prop) : Nat → Int64 → Int32 → Prop
  | 0 => fun _ _ => False
  | n + 1 => Y_X3_yard_5 D_kinds D_isBroken D_trackOf D_parked x1 post (Z_X3_yard_5 D_kinds D_isBroken D_trackOf D_parked x1 post n)
def wp_X3_yard (D_kinds : Nat → Int32) (D_isBroken : Nat → Int32) (D_trackOf : Nat → Int32) (D_parked : Int32) (x1 : Int32) (post : Int64 → Prop) : Prop :=
  ∃ n, Z_X3_yard_5 D_kinds D_isBroken D_trackOf D_parked x1 post n 0 0
set_option maxHeartbeats 4000000 in
set_option maxRecDepth 100000 in
theorem c_X3_yard (l : Launch) (D : va_G) (cI cJ cZ : ClassId) (aD aD_kinds aD_washes aD_fuels aD_isBroken aD_lengths aD_wanted aD_trackOf aR aR_leavers aR_steps : Nat) (vRs : Value) (sz : Nat) (D_units : Int32) (D_leaving : Int32) (D_parked : Int32) (D_changes : Int32) (R_leastShunts : Int32) (R_knownAt : Int32) (D_kinds : Nat → Int32) (D_isBroken : Nat → Int32) (D_trackOf : Nat → Int32) (x1 : Int32) (post : Int64 → Prop) (hw : wp_X3_yard D_kinds D_isBroken D_trackOf D_parked x1 post) : Met l yX3_yard wsX3_yard ({ frames := 2, cells := 0, slots := 0, locals := 48 } : Room) (va_Pc [.ref aR, .int x1] (zPre D cI cJ cZ [(aD, .inr (0, [.ref aD_kinds, .ref aD_washes, .ref aD_fuels, .ref aD_isBroken, .int D_units, .ref aD_lengths, .ref aD_wanted, .int D_leaving, .ref aD_trackOf, .int D_parked, .int D_changes])), (aR, .inr (2, [.ref aD, .ref aR_leavers, .ref aR_steps, .int R_leastShunts, .int R_knownAt, vRs])), (aD_kinds, .inl (cI, 5, .inl D_kinds)), (aD_isBroken, .inl (cZ, 5, .inl D_isBroken)), (aD_trackOf, .inl (cI, 5, .inl D_trackOf))] sz)) (va_Ql (fun (r : Int64) (u : Unit) => post r) (zPost D cI cJ cZ (va_A [(aD, .inr (0, [.ref aD_kinds, .ref aD_washes, .ref aD_fuels, .ref aD_isBroken, .int D_units, .ref aD_lengths, .ref aD_wanted, .int D_leaving, .ref aD_trackOf, .int D_parked, .int D_changes])), (aR, .inr (2, [.ref aD, .ref aR_leavers, .ref aR_steps, .int R_leastShunts, .int R_knownAt, vRs])), (aD_kinds, .inl (cI, 5, .inl D_kinds)), (aD_isBroken, .inl (cZ, 5, .inl D_isBroken)), (aD_trackOf, .inl (cI, 5, .inl D_trackOf))] sz) (fun u : Unit => [(aD, .inr (0, [.ref aD_kinds, .ref aD_washes, .ref aD_fuels, .ref aD_isBroken, .int D_units, .ref aD_lengths, .ref aD_wanted, .int D_leaving, .ref aD_trackOf, .int D_parked, .int D_changes])), (aR, .inr (2, [.ref aD, .ref aR_leavers, .ref aR_steps, .int R_leastShunts, .int R_knownAt, vRs])), (aD_kinds, .inl (cI, 5, .inl D_kinds)), (aD_isBroken, .inl (cZ, 5, .inl D_isBroken)), (aD_trackOf, .inl (cI, 5, .inl D_trackOf))])) (va_A [(aD, .inr (0, [.ref aD_kinds, .ref aD_washes, .ref aD_fuels, .ref aD_isBroken, .int D_units, .ref aD_lengths, .ref aD_wanted, .int D_leaving, .ref aD_trackOf, .int D_parked, .int D_changes])), (aR, .inr (2, [.ref aD, .ref aR_leavers, .ref aR_steps, .int R_leastShunts, .int R_knownAt, vRs])), (aD_kinds, .inl (cI, 5, .inl D_kinds)), (aD_isBroken, .inl (cZ, 5, .inl D_isBroken)), (aD_trackOf, .inl (cI, 5, .inl D_trackOf))] sz)) 0 0 (va_A [(aD, .inr (0, [.ref aD_kinds, .ref aD_washes, .ref aD_fuels, .ref aD_isBroken, .int D_units, .ref aD_lengths, .ref aD_wanted, .int D_leaving, .ref aD_trackOf, .int D_parked, .int D_changes])), (aR, .inr (2, [.ref aD, .ref aR_leavers, .ref aR_steps, .int R_leastShunts, .int R_knownAt, vRs])), (aD_kinds, .inl (cI, 5, .inl D_kinds)), (aD_isBroken, .inl (cZ, 5, .inl D_isBroken)), (aD_trackOf, .inl (cI, 5, .inl D_trackOf))] sz) := by
  unfold wp_X3_yard at hw
  refine Met.ofW (cc := cX3_yard) (maxL := 6) (ret := some .long) (by decide) rfl ?_
  intro p e s m args below meth c s₁ B hml hv
  obtain ⟨rfl, hsz, hP, hK, hD0⟩ := hv
  have hx := B.exec
  have hb := B.bytes
  have hr := B.returns
  have hts := atoms_spec (ws := wsX3_yard) B.pre
  have hown : s.vm.findClass RX3 = some m.cls := findClass_of_methodNamed B.named
  have hlocks := B.notSynchronized
  subst hsz
  have hD := hD0.self (sz := s.heap.size)
  generalize hAe : va_A [(aD, .inr (0, [.ref aD_kinds, .ref aD_washes, .ref aD_fuels, .ref aD_isBroken, .int D_units, .ref aD_lengths, .ref aD_wanted, .int D_leaving, .ref aD_trackOf, .int D_parked, .int D_changes])), (aR, .inr (2, [.ref aD, .ref aR_leavers, .ref aR_steps, .int R_leastShunts, .int R_knownAt, vRs])), (aD_kinds, .inl (cI, 5, .inl D_kinds)), (aD_isBroken, .inl (cZ, 5, .inl D_isBroken)), (aD_trackOf, .inl (cI, 5, .inl D_trackOf))] s.heap.size = A at hD ⊢
  have hA : ∀ q : Nat, s.heap.size ≤ q → A q := fun q h => by rw [← hAe]; exact Or.inr h
  have hS : va_S A s.heap s.heap [] := va_S.rf
  refine (fun (hall : ∀ Q0 : State → Prop, (∀ (r : Int64)  (H : Heap) (locs : List Loc) (pc : Nat) (ls : Array Slot), post r → decode cX3_yard pc = .ok (.lreturn, 1) → va_P D vwCl [(aD, .inr (0, [.ref aD_kinds, .ref aD_washes, .ref aD_fuels, .ref aD_isBroken, .int D_units, .ref aD_lengths, .ref aD_wanted, .int D_leaving, .ref aD_trackOf, .int D_parked, .int D_changes])), (aR, .inr (2, [.ref aD, .ref aR_leavers, .ref aR_steps, .int R_leastShunts, .int R_knownAt, vRs])), (aD_kinds, .inl (cI, 5, .inl D_kinds)), (aD_isBroken, .inl (cZ, 5, .inl D_isBroken)), (aD_trackOf, .inl (cI, 5, .inl D_trackOf))] H → va_D A [(aD, .inr (0, [.ref aD_kinds, .ref aD_washes, .ref aD_fuels, .ref aD_isBroken, .int D_units, .ref aD_lengths, .ref aD_wanted, .int D_leaving, .ref aD_trackOf, .int D_parked, .int D_changes])), (aR, .inr (2, [.ref aD, .ref aR_leavers, .ref aR_steps, .int R_leastShunts, .int R_knownAt, vRs])), (aD_kinds, .inl (cI, 5, .inl D_kinds)), (aD_isBroken, .inl (cZ, 5, .inl D_isBroken)), (aD_trackOf, .inl (cI, 5, .inl D_trackOf))] → va_S A s.heap H locs → W p l e ({ frames := 2, cells := 0, slots := 0, locals := 48 } : Room) s m ([.ref aR, .int x1] : List Value).toArray below meth c H locs 0 0 Q0 (F0 m pc ls [.long r])) → W p l e ({ frames := 2, cells := 0, slots := 0, locals := 48 } : Room) s m ([.ref aR, .int x1] : List Value).toArray below meth c s.heap [] 0 0 Q0 (entryFrame m ([.ref aR, .int x1] : List Value).toArray 6)) => hall _ (fun r  H locs pc ls hw hd hP hD hS => W.lret (v := r) hx hb hr (fun t ht hW => ⟨⟨r, (), rfl, hw, by rw [ht]; exact hP, va_K.moved hW.alike hK, hD⟩, hS.F ht⟩) hS.2.2 hd)) ?_
  intro Q0 hret
  have hl := lv_entry ([.ref aR, .int x1]) (n := 6) (Nat.le_of_ble_eq_true rfl)
  rw [lg_entry_eq]
  generalize (lg_sl ([.ref aR, .int x1]) ++ List.replicate (6 - (lg_sl ([.ref aR, .int x1])).length) Slot.unset).toArray = ls at hl ⊢
  have hl : lv_has ls 6 [(0, .ref aR), (1, .int x1)] := hl
  have hinX0 : ∀ w ∈ u_ws RX0 TX0 11, w ∈ wsX3_yard := by decide +kernel
  have hinX3 : ∀ w ∈ u_ws RX3 TX3 6, w ∈ wsX3_yard := by decide +kernel
  have hf29 := hts (.fieldLink RX3 29 "DepotNight$Runs" "depot" "LDepotNight$Depot;") (by decide +kernel)
  have hf41 := hts (.fieldLink RX3 41 "DepotNight$Depot" "parked" "I") (by decide +kernel)
  have hf72 := hts (.fieldLink RX3 72 "DepotNight$Depot" "trackOf" "[I") (by decide +kernel)
  have wB_X3_yard_34 : ∀ (K5 : Int64 → Int32 → Prop), (∀ (x2 : Int64) (x4 : Int32), K5 x2 x4 → ∀ (H : Heap) (locs : List Loc) (ls : Array Slot), va_P D vwCl [(aD, .inr (0, [.ref aD_kinds, .ref aD_washes, .ref aD_fuels, .ref aD_isBroken, .int D_units, .ref aD_lengths, .ref aD_wanted, .int D_leaving, .ref aD_trackOf, .int D_parked, .int D_changes])), (aR, .inr (2, [.ref aD, .ref aR_leavers, .ref aR_steps, .int R_leastShunts, .int R_knownAt, vRs])), (aD_kinds, .inl (cI, 5, .inl D_kinds)), (aD_isBroken, .inl (cZ, 5, .inl D_isBroken)), (aD_trackOf, .inl (cI, 5, .inl D_trackOf))] H → va_D A [(aD, .inr (0, [.ref aD_kinds, .ref aD_washes, .ref aD_fuels, .ref aD_isBroken, .int D_units, .ref aD_lengths, .ref aD_wanted, .int D_leaving, .ref aD_trackOf, .int D_parked, .int D_changes])), (aR, .inr (2, [.ref aD, .ref aR_leavers, .ref aR_steps, .int R_leastShunts, .int R_knownAt, vRs])), (aD_kinds, .inl (cI, 5, .inl D_kinds)), (aD_isBroken, .inl (cZ, 5, .inl D_isBroken)), (aD_trackOf, .inl (cI, 5, .inl D_trackOf))] → va_S A s.heap H locs → lv_has ls 6 [(0, .ref aR), (1, .int x1), (2, .long x2), (4, .int x4)] → W p l e ({ frames := 2, cells := 0, slots := 0, locals := 48 } : Room) s m ([.ref aR, .int x1] : List Value).toArray below meth c H locs 0 0 Q0 (F0 m 5 ls [])) → ∀ (x2 : Int64) (x4 : Int32) (s0 : Int32), B_X3_yard_34 D_kinds D_isBroken D_trackOf D_parked x1 post K5 x2 x4 s0 → ∀ (H : Heap) (locs : List Loc) (ls : Array Slot), va_P D vwCl [(aD, .inr (0, [.ref aD_kinds, .ref aD_washes, .ref aD_fuels, .ref aD_isBroken, .int D_units, .ref aD_lengths, .ref aD_wanted, .int D_leaving, .ref aD_trackOf, .int D_parked, .int D_changes])), (aR, .inr (2, [.ref aD, .ref aR_leavers, .ref aR_steps, .int R_leastShunts, .int R_knownAt, vRs])), (aD_kinds, .inl (cI, 5, .inl D_kinds)), (aD_isBroken, .inl (cZ, 5, .inl D_isBroken)), (aD_trackOf, .inl (cI, 5, .inl D_trackOf))] H → va_D A [(aD, .inr (0, [.ref aD_kinds, .ref aD_washes, .ref aD_fuels, .ref aD_isBroken, .int D_units, .ref aD_lengths, .ref aD_wanted, .int D_leaving, .ref aD_trackOf, .int D_parked, .int D_changes])), (aR, .inr (2, [.ref aD, .ref aR_leavers, .ref aR_steps, .int R_leastShunts, .int R_knownAt, vRs])), (aD_kinds, .inl (cI, 5, .inl D_kinds)), (aD_isBroken, .inl (cZ, 5, .inl D_isBroken)), (aD_trackOf, .inl (cI, 5, .inl D_trackOf))] → va_S A s.heap H locs → lv_has ls 6 [(0, .ref aR), (1, .int x1), (2, .long x2), (4, .int x4)] → W p l e ({ frames := 2, cells := 0, slots := 0, locals := 48 } : Room) s m ([.ref aR, .int x1] : List Value).toArray below meth c H locs 0 0 Q0 (F0 m 34 ls [.int s0]) := by
    intro K5 hK5 x2 x4 s0 hw H locs ls hP hD hS hl
    unfold B_X3_yard_34 at hw
    refine lv_istore (lv' := [(5, .int s0), (0, .ref aR), (1, .int x1), (2, .long x2), (4, .int x4)]) hx hb dX3_yard_34 hl (by decide) rfl (fun ls hl => ?_)
    refine lv_lload_n hx hb dX3_yard_36 rfl (lv_at hl 3 rfl) ?_
    refine lv_aload_n hx hb dX3_yard_37 rfl (lv_at hl 1 rfl) ?_
    refine va_get (D := D) (ci := 2) (v := .ref aD) (C := RX3) (T := TX3) (N := 6) hx hb hts hinX3 hown hK hP 1 rfl rfl 0 (by decide) hf29 (fun _ h9 => h9) rfl dX3_yard_38 ?_
    refine va_get (D := D) (ci := 0) (v := .ref aD_trackOf) (C := RX0) (T := TX0) (N := 11) hx hb hts hinX0 hown hK hP 0 rfl rfl 8 (by decide) hf72 (fun _ h9 => h9) rfl dX3_yard_41 ?_
    refine lv_iload hx hb dX3_yard_44 (lv_at hl 4 rfl) ?_
    obtain ⟨hb4, hw⟩ := hw
    refine va_iald hx hb hK hP 4 0 rfl rfl hb4 dX3_yard_46 ?_
    refine lv_iload hx hb dX3_yard_47 (lv_at hl 0 rfl) ?_
    refine zSl (As := [.long x2, .int (D_trackOf x4.toNatClampNeg), .int s0]) (rest := []) (wc := []) (wr := [(aD, .inr (0, [.ref aD_kinds, .ref aD_washes, .ref aD_fuels, .ref aD_isBroken, .int D_units, .ref aD_lengths, .ref aD_wanted, .int D_leaving, .ref aD_trackOf, .int D_parked, .int D_changes])), (aR, .inr (2, [.ref aD, .ref aR_leavers, .ref aR_steps, .int R_leastShunts, .int R_knownAt, vRs])), (aD_kinds, .inl (cI, 5, .inl D_kinds)), (aD_isBroken, .inl (cZ, 5, .inl D_isBroken)), (aD_trackOf, .inl (cI, 5, .inl D_trackOf))]) ⟨hx, hb, hml, hown, hts⟩ hK hP hD hS hA [] [0, 1, 2, 3, 4] rfl rfl (by decide) (by decide) (by decide) (c_X2_put l D cI cJ cZ H.size x2 (D_trackOf x4.toNatClampNeg) s0 _ hw) (va_cwS 3 hts gX3_yard_X2_put rfl rfl rfl (by decide +kernel) ⟨Nat.le_of_ble_eq_true rfl, Nat.le_of_ble_eq_true rfl⟩) rfl hl.1 (Nat.le_of_ble_eq_true rfl) dX3_yard_49 ⟨(Nat.le_of_ble_eq_true rfl), (Nat.le_of_ble_eq_true rfl)⟩ rfl (fun r5 u H locs hw hP hD hS => ?_)
    try dsimp only at hw
    have hP : va_P D vwCl [(aD, .inr (0, [.ref aD_kinds, .ref aD_washes, .ref aD_fuels, .ref aD_isBroken, .int D_units, .ref aD_lengths, .ref aD_wanted, .int D_leaving, .ref aD_trackOf, .int D_parked, .int D_changes])), (aR, .inr (2, [.ref aD, .ref aR_leavers, .ref aR_steps, .int R_leastShunts, .int R_knownAt, vRs])), (aD_kinds, .inl (cI, 5, .inl D_kinds)), (aD_isBroken, .inl (cZ, 5, .inl D_isBroken)), (aD_trackOf, .inl (cI, 5, .inl D_trackOf))] H := hP.sub [0, 1, 2, 3, 4] rfl
    have hD : va_D A [(aD, .inr (0, [.ref aD_kinds, .ref aD_washes, .ref aD_fuels, .ref aD_isBroken, .int D_units, .ref aD_lengths, .ref aD_wanted, .int D_leaving, .ref aD_trackOf, .int D_parked, .int D_changes])), (aR, .inr (2, [.ref aD, .ref aR_leavers, .ref aR_steps, .int R_leastShunts, .int R_knownAt, vRs])), (aD_kinds, .inl (cI, 5, .inl D_kinds)), (aD_isBroken, .inl (cZ, 5, .inl D_isBroken)), (aD_trackOf, .inl (cI, 5, .inl D_trackOf))] := hD.sub [0, 1, 2, 3, 4] (by decide) rfl
    refine lv_lstore_n (lv' := [(2, .long r5), (5, .int s0), (0, .ref aR), (1, .int x1), (4, .int x4)]) hx hb dX3_yard_52 rfl hl (by decide) rfl (fun ls hl => ?_)
    refine lv_iinc (v := (x4 + 1)) (lv' := [(4, .int (x4 + 1)), (2, .long r5), (5, .int s0), (0, .ref aR), (1, .int x1)]) hx hb dX3_yard_53 hl (k := 4) rfl rfl (by decide) rfl (fun ls hl => ?_)
    refine lv_goto (tgt := 5) hx hb dX3_yard_56 (by decide) ?_
    exact hK5 r5 (x4 + 1) hw H locs ls hP hD hS (lv_sub hl [3, 4, 1, 0] rfl)
  have wZ_X3_yard_5 : ∀ (n : Nat) (x2 : Int64) (x4 : Int32), Z_X3_yard_5 D_kinds D_isBroken D_trackOf D_parked x1 post n x2 x4 → ∀ (H : Heap) (locs : List Loc) (ls : Array Slot), va_P D vwCl [(aD, .inr (0, [.ref aD_kinds, .ref aD_washes, .ref aD_fuels, .ref aD_isBroken, .int D_units, .ref aD_lengths, .ref aD_wanted, .int D_leaving, .ref aD_trackOf, .int D_parked, .int D_changes])), (aR, .inr (2, [.ref aD, .ref aR_leavers, .ref aR_steps, .int R_leastShunts, .int R_knownAt, vRs])), (aD_kinds, .inl (cI, 5, .inl D_kinds)), (aD_isBroken, .inl (cZ, 5, .inl D_isBroken)), (aD_trackOf, .inl (cI, 5, .inl D_trackOf))] H → va_D A [(aD, .inr (0, [.ref aD_kinds, .ref aD_washes, .ref aD_fuels, .ref aD_isBroken, .int D_units, .ref aD_lengths, .ref aD_wanted, .int D_leaving, .ref aD_trackOf, .int D_parked, .int D_changes])), (aR, .inr (2, [.ref aD, .ref aR_leavers, .ref aR_steps, .int R_leastShunts, .int R_knownAt, vRs])), (aD_kinds, .inl (cI, 5, .inl D_kinds)), (aD_isBroken, .inl (cZ, 5, .inl D_isBroken)), (aD_trackOf, .inl (cI, 5, .inl D_trackOf))] → va_S A s.heap H locs → lv_has ls 6 [(0, .ref aR), (1, .int x1), (2, .long x2), (4, .int x4)] → W p l e ({ frames := 2, cells := 0, slots := 0, locals := 48 } : Room) s m ([.ref aR, .int x1] : List Value).toArray below meth c H locs 0 0 Q0 (F0 m 5 ls []) := by
    intro n
    induction n with
    | zero =>
      intro x2 x4 hw
      exact (show False from hw).elim
    | succ n hK5 =>
      intro x2 x4 hw H locs ls hP hD hS hl
      have hw : Y_X3_yard_5 D_kinds D_isBroken D_trackOf D_parked x1 post (Z_X3_yard_5 D_kinds D_isBroken D_trackOf D_parked x1 post n) x2 x4 := hw
      unfold Y_X3_yard_5 at hw
      refine lv_iload hx hb dX3_yard_5 (lv_at hl 3 rfl) ?_
      refine lv_aload_n hx hb dX3_yard_7 rfl (lv_at hl 0 rfl) ?_
      refine va_get (D := D) (ci := 2) (v := .ref aD) (C := RX3) (T := TX3) (N := 6) hx hb hts hinX3 hown hK hP 1 rfl rfl 0 (by decide) hf29 (fun _ h9 => h9) rfl dX3_yard_8 ?_
      refine va_get (D := D) (ci := 0) (v := .int D_parked) (C := RX0) (T := TX0) (N := 11) hx hb hts hinX0 hown hK hP 0 rfl rfl 9 (by decide) hf41 (fun _ h9 => h9) rfl dX3_yard_11 ?_
      refine lv_icmp_ge (tgt := 59) hx hb dX3_yard_14 (by decide) (fun hc1 => ?_) (fun hc1 => ?_)
      · have hw := hw.1 hc1
        refine lv_lload_n hx hb dX3_yard_59 rfl (lv_at hl 2 rfl) ?_
        exact hret x2  H locs 60 ls hw dX3_yard_60 hP hD hS 
      · have hw := hw.2 hc1
        refine lv_iload_n hx hb dX3_yard_17 rfl (lv_at hl 1 rfl) ?_
        refine lv_if_eq (tgt := 28) hx hb dX3_yard_18 (by decide) (fun hc2 => ?_) (fun hc2 => ?_)
        · have hw := hw.1 hc2
          refine lv_aload_n hx hb dX3_yard_28 rfl (lv_at hl 0 rfl) ?_
          refine lv_iload hx hb dX3_yard_29 (lv_at hl 3 rfl) ?_
          refine zVi (As := [.int x4]) (rest := []) (wc := [(aD, .inr (0, [.ref aD_kinds, .ref aD_washes, .ref aD_fuels, .ref aD_isBroken, .int D_units, .ref aD_lengths, .ref aD_wanted, .int D_leaving, .ref aD_trackOf, .int D_parked, .int D_changes])), (aR, .inr (2, [.ref aD, .ref aR_leavers, .ref aR_steps, .int R_leastShunts, .int R_knownAt, vRs])), (aD_kinds, .inl (cI, 5, .inl D_kinds)), (aD_isBroken, .inl (cZ, 5, .inl D_isBroken))]) (wr := [(aD_trackOf, .inl (cI, 5, .inl D_trackOf))]) ⟨hx, hb, hml, hown, hts⟩ hK hP hD hS hA [0, 1, 2, 3] [4] rfl rfl (by decide) (by decide) (by decide) (c_X3_servingMark l D cI cJ cZ aD aD_kinds aD_washes aD_fuels aD_isBroken aD_lengths aD_wanted aD_trackOf aR aR_leavers aR_steps vRs H.size D_units D_leaving D_parked D_changes R_leastShunts R_knownAt D_kinds D_isBroken x4 _ hw) (cwV 1 hts gX3_yard_X3_servingMark rfl rfl rfl (by decide +kernel) ⟨Nat.le_of_ble_eq_true rfl, Nat.le_of_ble_eq_true rfl⟩) 1 2 rfl rfl rfl rfl hl.1 (Nat.le_of_ble_eq_true rfl) dX3_yard_31 ⟨(Nat.le_of_ble_eq_true rfl), (Nat.le_of_ble_eq_true rfl)⟩ rfl (fun r3 u H locs hw hP hD hS => ?_)
          try dsimp only at hw
          have hP : va_P D vwCl [(aD, .inr (0, [.ref aD_kinds, .ref aD_washes, .ref aD_fuels, .ref aD_isBroken, .int D_units, .ref aD_lengths, .ref aD_wanted, .int D_leaving, .ref aD_trackOf, .int D_parked, .int D_changes])), (aR, .inr (2, [.ref aD, .ref aR_leavers, .ref aR_steps, .int R_leastShunts, .int R_knownAt, vRs])), (aD_kinds, .inl (cI, 5, .inl D_kinds)), (aD_isBroken, .inl (cZ, 5, .inl D_isBroken)), (aD_trackOf, .inl (cI, 5, .inl D_trackOf))] H := hP.sub [1, 2, 3, 4, 0] rfl
          have hD : va_D A [(aD, .inr (0, [.ref aD_kinds, .ref aD_washes, .ref aD_fuels, .ref aD_isBroken, .int D_units, .ref aD_lengths, .ref aD_wanted, .int D_leaving, .ref aD_trackOf, .int D_parked, .int D_changes])), (aR, .inr (2, [.ref aD, .ref aR_leavers, .ref aR_steps, .int R_leastShunts, .int R_knownAt, vRs])), (aD_kinds, .inl (cI, 5, .inl D_kinds)), (aD_isBroken, .inl (cZ, 5, .inl D_isBroken)), (aD_trackOf, .inl (cI, 5, .inl D_trackOf))] := hD.sub [1, 2, 3, 4, 0] (by decide) rfl
          exact wB_X3_yard_34 _ hK5 x2 x4 r3 hw H locs ls hP hD hS (lv_sub hl [0, 1, 2, 3] rfl)
        · have hw := hw.2 hc2
          refine lv_iload hx hb dX3_yard_21 (lv_at hl 3 rfl) ?_
          refine lv_iconst (v := 1) hx hb dX3_yard_23 (by decide) ?_
          refine lv_iadd hx hb dX3_yard_24 ?_
          refine lv_goto (tgt := 34) hx hb dX3_yard_25 (by decide) ?_
          exact wB_X3_yard_34 _ hK5 x2 x4 (x4 + 1) hw H locs ls hP hD hS (lv_sub hl [0, 1, 2, 3] rfl)
  obtain ⟨H, hHe⟩ : ∃ H, H = s.heap := ⟨_, rfl⟩
  obtain ⟨locs, hLo⟩ : ∃ locs : List Loc, locs = [] := ⟨_, rfl⟩
  have hS : va_S A s.heap H locs := by rw [hHe, hLo]; exact hS
  have hP : va_P D vwCl [(aD, .inr (0, [.ref aD_kinds, .ref aD_washes, .ref aD_fuels, .ref aD_isBroken, .int D_units, .ref aD_lengths, .ref aD_wanted, .int D_leaving, .ref aD_trackOf, .int D_parked, .int D_changes])), (aR, .inr (2, [.ref aD, .ref aR_leavers, .ref aR_steps, .int R_leastShunts, .int R_knownAt, vRs])), (aD_kinds, .inl (cI, 5, .inl D_kinds)), (aD_isBroken, .inl (cZ, 5, .inl D_isBroken)), (aD_trackOf, .inl (cI, 5, .inl D_trackOf))] H := by rw [hHe]; exact hP
  refine (fun (hgo : W p l e ({ frames := 2, cells := 0, slots := 0, locals := 48 } : Room) s m ([.ref aR, .int x1] : List Value).toArray below meth c H locs 0 0 Q0 (F0 m 0 ls [])) => by rw [hHe, hLo] at hgo; exact hgo) ?_
  refine lv_lconst (v := 0) hx hb dX3_yard_0 (by decide) ?_
  refine lv_lstore_n (lv' := [(2, .long 0), (0, .ref aR), (1, .int x1)]) hx hb dX3_yard_1 rfl hl (by decide) rfl (fun ls hl => ?_)
  refine lv_iconst (v := 0) hx hb dX3_yard_2 (by decide) ?_
  refine lv_istore (lv' := [(4, .int 0), (2, .long 0), (0, .ref aR), (1, .int x1)]) hx hb dX3_yard_3 hl (by decide) rfl (fun ls hl => ?_)
  obtain ⟨n6, hw⟩ := hw
  exact wZ_X3_yard_5  n6 0 0 hw H locs ls hP hD hS (lv_sub hl [2, 3, 1, 0] rfl)
/-! X3_nameLeavers -/
def Y_X3_nameLeavers_11 (nR_steps : Nat) (D_kinds : Nat → Int32) (D_isBroken : Nat → Int32) (D_trackOf : Nat → Int32) (D_parked : Int32) (R_steps : Nat → Int32) (post : (Nat → Int32) → Prop) (K11 : Int64 → Int32 → Int32 → (Nat → Int32) → Prop) (x1 : Int64) (x3 : Int32) (x4 : Int32) (R_leavers : Nat → Int32) : Prop :=
  (((nI nR_steps) ≤ x4 → post R_leavers) ∧ (¬ (nI nR_steps) ≤ x4 → vp_in x4 nR_steps ∧ (∀ y4 : Int32, y4 = (R_steps x4.toNatClampNeg) → (((y4 < 10 → ((5 ≤ x3 → K11 x1 x3 (x4 + 1) R_leavers) ∧ (¬ 5 ≤ x3 → wp_X2_lastMark x1 y4 (fun (r7 : Int32) => ∀ y9 : Int32, y9 = (r7 - 1) → (vp_in x3 5 ∧ (wp_X2_sendOff x1 y4 (fun (r10 : Int64) => K11 r10 (x3 + 1) (x4 + 1) (upd R_leavers x3.toNatClampNeg y9)))))))) ∧ (¬ y4 < 10 → ∀ y11 : Int32, y11 = (y4 - 10) → (wp_X2_shunt x1 (y11 / 3) (y11 - y11 / 3 * 3) (fun (r12 : Int64) => K11 r12 x3 (x4 + 1) R_leavers))))))))
def Z_X3_nameLeavers_11 (nR_steps : Nat) (D_kinds : Nat → Int32) (D_isBroken : Nat → Int32) (D_trackOf : Nat → Int32) (D_parked : Int32) (R_steps : Nat → Int32) (post : (Nat → Int32) → Prop) : Nat → Int64 → Int32 → Int32 → (Nat → Int32) → Prop
  | 0 => fun _ _ _ _ => False
  | n + 1 => Y_X3_nameLeavers_11 nR_steps D_kinds D_isBroken D_trackOf D_parked R_steps post (Z_X3_nameLeavers_11 nR_steps D_kinds D_isBroken D_trackOf D_parked R_steps post n)
def wp_X3_nameLeavers (nR_steps : Nat) (D_kinds : Nat → Int32) (D_isBroken : Nat → Int32) (D_trackOf : Nat → Int32) (D_parked : Int32) (R_steps : Nat → Int32) (R_leavers : Nat → Int32) (post : (Nat → Int32) → Prop) : Prop :=
  wp_X3_yard D_kinds D_isBroken D_trackOf D_parked 1 (fun (r1 : Int64) => ∃ n, Z_X3_nameLeavers_11 nR_steps D_kinds D_isBroken D_trackOf D_parked R_steps post n r1 0 0 R_leavers)
set_option maxHeartbeats 4000000 in
set_option maxRecDepth 100000 in
theorem c_X3_nameLeavers (l : Launch) (D : va_G) (cI cJ cZ : ClassId) (aD aD_kinds aD_washes aD_fuels aD_isBroken aD_lengths aD_wanted aD_trackOf aR aR_leavers aR_steps : Nat) (vRs : Value) (sz : Nat) (nR_steps : Nat) (D_units : Int32) (D_leaving : Int32) (D_parked : Int32) (D_changes : Int32) (R_leastShunts : Int32) (R_knownAt : Int32) (D_kinds : Nat → Int32) (D_isBroken : Nat → Int32) (D_trackOf : Nat → Int32) (R_leavers : Nat → Int32) (R_steps : Nat → Int32) (post : (Nat → Int32) → Prop) (hw : wp_X3_nameLeavers nR_steps D_kinds D_isBroken D_trackOf D_parked R_steps R_leavers post) : Met l yX3_nameLeavers wsX3_nameLeavers ({ frames := 3, cells := 0, slots := 0, locals := 73 } : Room) (va_Pc [.ref aR] (zPre D cI cJ cZ [(aD, .inr (0, [.ref aD_kinds, .ref aD_washes, .ref aD_fuels, .ref aD_isBroken, .int D_units, .ref aD_lengths, .ref aD_wanted, .int D_leaving, .ref aD_trackOf, .int D_parked, .int D_changes])), (aR, .inr (2, [.ref aD, .ref aR_leavers, .ref aR_steps, .int R_leastShunts, .int R_knownAt, vRs])), (aD_kinds, .inl (cI, 5, .inl D_kinds)), (aD_isBroken, .inl (cZ, 5, .inl D_isBroken)), (aD_trackOf, .inl (cI, 5, .inl D_trackOf)), (aR_leavers, .inl (cI, 5, .inl R_leavers)), (aR_steps, .inl (cI, nR_steps, .inl R_steps))] sz)) (va_Qv (fun (u : (Nat → Int32)) => post u) (zPost D cI cJ cZ (va_A [(aD, .inr (0, [.ref aD_kinds, .ref aD_washes, .ref aD_fuels, .ref aD_isBroken, .int D_units, .ref aD_lengths, .ref aD_wanted, .int D_leaving, .ref aD_trackOf, .int D_parked, .int D_changes])), (aR, .inr (2, [.ref aD, .ref aR_leavers, .ref aR_steps, .int R_leastShunts, .int R_knownAt, vRs])), (aD_kinds, .inl (cI, 5, .inl D_kinds)), (aD_isBroken, .inl (cZ, 5, .inl D_isBroken)), (aD_trackOf, .inl (cI, 5, .inl D_trackOf)), (aR_leavers, .inl (cI, 5, .inl R_leavers)), (aR_steps, .inl (cI, nR_steps, .inl R_steps))] sz) (fun u : (Nat → Int32) => [(aD, .inr (0, [.ref aD_kinds, .ref aD_washes, .ref aD_fuels, .ref aD_isBroken, .int D_units, .ref aD_lengths, .ref aD_wanted, .int D_leaving, .ref aD_trackOf, .int D_parked, .int D_changes])), (aR, .inr (2, [.ref aD, .ref aR_leavers, .ref aR_steps, .int R_leastShunts, .int R_knownAt, vRs])), (aD_kinds, .inl (cI, 5, .inl D_kinds)), (aD_isBroken, .inl (cZ, 5, .inl D_isBroken)), (aD_trackOf, .inl (cI, 5, .inl D_trackOf)), (aR_leavers, .inl (cI, 5, .inl u)), (aR_steps, .inl (cI, nR_steps, .inl R_steps))])) (va_A [(aD, .inr (0, [.ref aD_kinds, .ref aD_washes, .ref aD_fuels, .ref aD_isBroken, .int D_units, .ref aD_lengths, .ref aD_wanted, .int D_leaving, .ref aD_trackOf, .int D_parked, .int D_changes])), (aR, .inr (2, [.ref aD, .ref aR_leavers, .ref aR_steps, .int R_leastShunts, .int R_knownAt, vRs])), (aD_kinds, .inl (cI, 5, .inl D_kinds)), (aD_isBroken, .inl (cZ, 5, .inl D_isBroken)), (aD_trackOf, .inl (cI, 5, .inl D_trackOf)), (aR_leavers, .inl (cI, 5, .inl R_leavers)), (aR_steps, .inl (cI, nR_steps, .inl R_steps))] sz)) 0 0 (va_A [(aD, .inr (0, [.ref aD_kinds, .ref aD_washes, .ref aD_fuels, .ref aD_isBroken, .int D_units, .ref aD_lengths, .ref aD_wanted, .int D_leaving, .ref aD_trackOf, .int D_parked, .int D_changes])), (aR, .inr (2, [.ref aD, .ref aR_leavers, .ref aR_steps, .int R_leastShunts, .int R_knownAt, vRs])), (aD_kinds, .inl (cI, 5, .inl D_kinds)), (aD_isBroken, .inl (cZ, 5, .inl D_isBroken)), (aD_trackOf, .inl (cI, 5, .inl D_trackOf)), (aR_leavers, .inl (cI, 5, .inl R_leavers)), (aR_steps, .inl (cI, nR_steps, .inl R_steps))] sz) := by
  unfold wp_X3_nameLeavers at hw
  refine Met.ofW (cc := cX3_nameLeavers) (maxL := 7) (ret := none) (by decide) rfl ?_
  intro p e s m args below meth c s₁ B hml hv
  obtain ⟨rfl, hsz, hP, hK, hD0⟩ := hv
  have hx := B.exec
  have hb := B.bytes
  have hr := B.returns
  have hts := atoms_spec (ws := wsX3_nameLeavers) B.pre
  have hown : s.vm.findClass RX3 = some m.cls := findClass_of_methodNamed B.named
  have hlocks := B.notSynchronized
  subst hsz
  have hD := hD0.self (sz := s.heap.size)
  generalize hAe : va_A [(aD, .inr (0, [.ref aD_kinds, .ref aD_washes, .ref aD_fuels, .ref aD_isBroken, .int D_units, .ref aD_lengths, .ref aD_wanted, .int D_leaving, .ref aD_trackOf, .int D_parked, .int D_changes])), (aR, .inr (2, [.ref aD, .ref aR_leavers, .ref aR_steps, .int R_leastShunts, .int R_knownAt, vRs])), (aD_kinds, .inl (cI, 5, .inl D_kinds)), (aD_isBroken, .inl (cZ, 5, .inl D_isBroken)), (aD_trackOf, .inl (cI, 5, .inl D_trackOf)), (aR_leavers, .inl (cI, 5, .inl R_leavers)), (aR_steps, .inl (cI, nR_steps, .inl R_steps))] s.heap.size = A at hD ⊢
  have hA : ∀ q : Nat, s.heap.size ≤ q → A q := fun q h => by rw [← hAe]; exact Or.inr h
  have hS : va_S A s.heap s.heap [] := va_S.rf
  refine (fun (hall : ∀ Q0 : State → Prop, (∀ (v0 : Nat → Int32) (H : Heap) (locs : List Loc) (pc : Nat) (ls : Array Slot), post v0 → decode cX3_nameLeavers pc = .ok (.return_, 1) → va_P D vwCl [(aD, .inr (0, [.ref aD_kinds, .ref aD_washes, .ref aD_fuels, .ref aD_isBroken, .int D_units, .ref aD_lengths, .ref aD_wanted, .int D_leaving, .ref aD_trackOf, .int D_parked, .int D_changes])), (aR, .inr (2, [.ref aD, .ref aR_leavers, .ref aR_steps, .int R_leastShunts, .int R_knownAt, vRs])), (aD_kinds, .inl (cI, 5, .inl D_kinds)), (aD_isBroken, .inl (cZ, 5, .inl D_isBroken)), (aD_trackOf, .inl (cI, 5, .inl D_trackOf)), (aR_leavers, .inl (cI, 5, .inl v0)), (aR_steps, .inl (cI, nR_steps, .inl R_steps))] H → va_D A [(aD, .inr (0, [.ref aD_kinds, .ref aD_washes, .ref aD_fuels, .ref aD_isBroken, .int D_units, .ref aD_lengths, .ref aD_wanted, .int D_leaving, .ref aD_trackOf, .int D_parked, .int D_changes])), (aR, .inr (2, [.ref aD, .ref aR_leavers, .ref aR_steps, .int R_leastShunts, .int R_knownAt, vRs])), (aD_kinds, .inl (cI, 5, .inl D_kinds)), (aD_isBroken, .inl (cZ, 5, .inl D_isBroken)), (aD_trackOf, .inl (cI, 5, .inl D_trackOf)), (aR_leavers, .inl (cI, 5, .inl v0)), (aR_steps, .inl (cI, nR_steps, .inl R_steps))] → va_S A s.heap H locs → W p l e ({ frames := 3, cells := 0, slots := 0, locals := 73 } : Room) s m ([.ref aR] : List Value).toArray below meth c H locs 0 0 Q0 (F0 m pc ls [])) → W p l e ({ frames := 3, cells := 0, slots := 0, locals := 73 } : Room) s m ([.ref aR] : List Value).toArray below meth c s.heap [] 0 0 Q0 (entryFrame m ([.ref aR] : List Value).toArray 7)) => hall _ (fun v0 H locs pc ls hw hd hP hD hS => W.vret hx hb hr (fun t ht hW => ⟨⟨v0, rfl, hw, by rw [ht]; exact hP, va_K.moved hW.alike hK, hD⟩, hS.F ht⟩) hS.2.2 hd)) ?_
  intro Q0 hret
  have hl := lv_entry ([.ref aR]) (n := 7) (Nat.le_of_ble_eq_true rfl)
  rw [lg_entry_eq]
  generalize (lg_sl ([.ref aR]) ++ List.replicate (7 - (lg_sl ([.ref aR])).length) Slot.unset).toArray = ls at hl ⊢
  have hl : lv_has ls 7 [(0, .ref aR)] := hl
  have hinX3 : ∀ w ∈ u_ws RX3 TX3 6, w ∈ wsX3_nameLeavers := by decide +kernel
  have hf9 := hts (.fieldLink RX3 9 "DepotNight$Runs" "leavers" "[I") (by decide +kernel)
  have hf15 := hts (.fieldLink RX3 15 "DepotNight$Runs" "steps" "[I") (by decide +kernel)
  have wZ_X3_nameLeavers_11 : ∀ (n : Nat) (x1 : Int64) (x3 : Int32) (x4 : Int32) (R_leavers : Nat → Int32), Z_X3_nameLeavers_11 nR_steps D_kinds D_isBroken D_trackOf D_parked R_steps post n x1 x3 x4 R_leavers → ∀ (H : Heap) (locs : List Loc) (ls : Array Slot), va_P D vwCl [(aD, .inr (0, [.ref aD_kinds, .ref aD_washes, .ref aD_fuels, .ref aD_isBroken, .int D_units, .ref aD_lengths, .ref aD_wanted, .int D_leaving, .ref aD_trackOf, .int D_parked, .int D_changes])), (aR, .inr (2, [.ref aD, .ref aR_leavers, .ref aR_steps, .int R_leastShunts, .int R_knownAt, vRs])), (aD_kinds, .inl (cI, 5, .inl D_kinds)), (aD_isBroken, .inl (cZ, 5, .inl D_isBroken)), (aD_trackOf, .inl (cI, 5, .inl D_trackOf)), (aR_leavers, .inl (cI, 5, .inl R_leavers)), (aR_steps, .inl (cI, nR_steps, .inl R_steps))] H → va_D A [(aD, .inr (0, [.ref aD_kinds, .ref aD_washes, .ref aD_fuels, .ref aD_isBroken, .int D_units, .ref aD_lengths, .ref aD_wanted, .int D_leaving, .ref aD_trackOf, .int D_parked, .int D_changes])), (aR, .inr (2, [.ref aD, .ref aR_leavers, .ref aR_steps, .int R_leastShunts, .int R_knownAt, vRs])), (aD_kinds, .inl (cI, 5, .inl D_kinds)), (aD_isBroken, .inl (cZ, 5, .inl D_isBroken)), (aD_trackOf, .inl (cI, 5, .inl D_trackOf)), (aR_leavers, .inl (cI, 5, .inl R_leavers)), (aR_steps, .inl (cI, nR_steps, .inl R_steps))] → va_S A s.heap H locs → lv_has ls 7 [(0, .ref aR), (1, .long x1), (3, .int x3), (4, .int x4)] → W p l e ({ frames := 3, cells := 0, slots := 0, locals := 73 } : Room) s m ([.ref aR] : List Value).toArray below meth c H locs 0 0 Q0 (F0 m 11 ls []) := by
    intro n
    induction n with
    | zero =>
      intro x1 x3 x4 R_leavers hw
      exact (show False from hw).elim
    | succ n hK11 =>
      intro x1 x3 x4 R_leavers hw H locs ls hP hD hS hl
      have hw : Y_X3_nameLeavers_11 nR_steps D_kinds D_isBroken D_trackOf D_parked R_steps post (Z_X3_nameLeavers_11 nR_steps D_kinds D_isBroken D_trackOf D_parked R_steps post n) x1 x3 x4 R_leavers := hw
      unfold Y_X3_nameLeavers_11 at hw
      refine lv_iload hx hb dX3_nameLeavers_11 (lv_at hl 3 rfl) ?_
      refine lv_aload_n hx hb dX3_nameLeavers_13 rfl (lv_at hl 0 rfl) ?_
      refine va_get (D := D) (ci := 2) (v := .ref aR_steps) (C := RX3) (T := TX3) (N := 6) hx hb hts hinX3 hown hK hP 1 rfl rfl 2 (by decide) hf15 (fun _ h9 => h9) rfl dX3_nameLeavers_14 ?_
      refine va_alen (v := (nI nR_steps)) hx hb hK hP 6 0 rfl rfl rfl dX3_nameLeavers_17 ?_
      refine lv_icmp_ge (tgt := 95) hx hb dX3_nameLeavers_18 (by decide) (fun hc2 => ?_) (fun hc2 => ?_)
      · have hw := hw.1 hc2
        exact hret R_leavers H locs 95 ls hw dX3_nameLeavers_95 hP hD hS
      · have hw := hw.2 hc2
        refine lv_aload_n hx hb dX3_nameLeavers_21 rfl (lv_at hl 0 rfl) ?_
        refine va_get (D := D) (ci := 2) (v := .ref aR_steps) (C := RX3) (T := TX3) (N := 6) hx hb hts hinX3 hown hK hP 1 rfl rfl 2 (by decide) hf15 (fun _ h9 => h9) rfl dX3_nameLeavers_22 ?_
        refine lv_iload hx hb dX3_nameLeavers_25 (lv_at hl 3 rfl) ?_
        obtain ⟨hb3, hw⟩ := hw
        refine va_iald hx hb hK hP 6 0 rfl rfl hb3 dX3_nameLeavers_27 ?_
        refine lv_topi (fun y4 ey4 => ?_)
        have hw := hw y4 ey4
        refine lv_istore (lv' := [(5, .int y4), (0, .ref aR), (1, .long x1), (3, .int x3), (4, .int x4)]) hx hb dX3_nameLeavers_28 hl (by decide) rfl (fun ls hl => ?_)
        refine lv_iload hx hb dX3_nameLeavers_30 (lv_at hl 0 rfl) ?_
        refine lv_bipush (v := 10) hx hb dX3_nameLeavers_32 (by decide) ?_
        refine lv_icmp_lt (tgt := 60) hx hb dX3_nameLeavers_34 (by decide) (fun hc5 => ?_) (fun hc5 => ?_)
        · have hw := hw.1 hc5
          refine lv_iload_n hx hb dX3_nameLeavers_60 rfl (lv_at hl 3 rfl) ?_
          refine lv_iconst (v := 5) hx hb dX3_nameLeavers_61 (by decide) ?_
          refine lv_icmp_ge (tgt := 89) hx hb dX3_nameLeavers_62 (by decide) (fun hc6 => ?_) (fun hc6 => ?_)
          · have hw := hw.1 hc6
            refine lv_iinc (v := (x4 + 1)) (lv' := [(4, .int (x4 + 1)), (5, .int y4), (0, .ref aR), (1, .long x1), (3, .int x3)]) hx hb dX3_nameLeavers_89 hl (k := 4) rfl rfl (by decide) rfl (fun ls hl => ?_)
            refine lv_goto (tgt := 11) hx hb dX3_nameLeavers_92 (by decide) ?_
            exact hK11 x1 x3 (x4 + 1) R_leavers hw H locs ls hP hD hS (lv_sub hl [2, 3, 4, 0] rfl)
          · have hw := hw.2 hc6
            refine lv_aload_n hx hb dX3_nameLeavers_65 rfl (lv_at hl 1 rfl) ?_
            refine va_get (D := D) (ci := 2) (v := .ref aR_leavers) (C := RX3) (T := TX3) (N := 6) hx hb hts hinX3 hown hK hP 1 rfl rfl 1 (by decide) hf9 (fun _ h9 => h9) rfl dX3_nameLeavers_66 ?_
            refine lv_iload_n hx hb dX3_nameLeavers_69 rfl (lv_at hl 3 rfl) ?_
            refine lv_lload_n hx hb dX3_nameLeavers_70 rfl (lv_at hl 2 rfl) ?_
            refine lv_iload hx hb dX3_nameLeavers_71 (lv_at hl 0 rfl) ?_
            refine zSi (As := [.long x1, .int y4]) (rest := [.int x3, .ref aR_leavers]) (wc := []) (wr := [(aD, .inr (0, [.ref aD_kinds, .ref aD_washes, .ref aD_fuels, .ref aD_isBroken, .int D_units, .ref aD_lengths, .ref aD_wanted, .int D_leaving, .ref aD_trackOf, .int D_parked, .int D_changes])), (aR, .inr (2, [.ref aD, .ref aR_leavers, .ref aR_steps, .int R_leastShunts, .int R_knownAt, vRs])), (aD_kinds, .inl (cI, 5, .inl D_kinds)), (aD_isBroken, .inl (cZ, 5, .inl D_isBroken)), (aD_trackOf, .inl (cI, 5, .inl D_trackOf)), (aR_leavers, .inl (cI, 5, .inl R_leavers)), (aR_steps, .inl (cI, nR_steps, .inl R_steps))]) ⟨hx, hb, hml, hown, hts⟩ hK hP hD hS hA [] [0, 1, 2, 3, 4, 5, 6] rfl rfl (by decide) (by decide) (by decide) (c_X2_lastMark l D cI cJ cZ H.size x1 y4 _ hw) (va_cwS 2 hts gX3_nameLeavers_X2_lastMark rfl rfl rfl (by decide +kernel) ⟨Nat.le_of_ble_eq_true rfl, Nat.le_of_ble_eq_true rfl⟩) rfl hl.1 (Nat.le_of_ble_eq_true rfl) dX3_nameLeavers_73 ⟨(Nat.le_of_ble_eq_true rfl), (Nat.le_of_ble_eq_true rfl)⟩ rfl (fun r7 u H locs hw hP hD hS => ?_)
            try dsimp only at hw
            have hP : va_P D vwCl [(aD, .inr (0, [.ref aD_kinds, .ref aD_washes, .ref aD_fuels, .ref aD_isBroken, .int D_units, .ref aD_lengths, .ref aD_wanted, .int D_leaving, .ref aD_trackOf, .int D_parked, .int D_changes])), (aR, .inr (2, [.ref aD, .ref aR_leavers, .ref aR_steps, .int R_leastShunts, .int R_knownAt, vRs])), (aD_kinds, .inl (cI, 5, .inl D_kinds)), (aD_isBroken, .inl (cZ, 5, .inl D_isBroken)), (aD_trackOf, .inl (cI, 5, .inl D_trackOf)), (aR_leavers, .inl (cI, 5, .inl R_leavers)), (aR_steps, .inl (cI, nR_steps, .inl R_steps))] H := hP.sub [0, 1, 2, 3, 4, 5, 6] rfl
            have hD : va_D A [(aD, .inr (0, [.ref aD_kinds, .ref aD_washes, .ref aD_fuels, .ref aD_isBroken, .int D_units, .ref aD_lengths, .ref aD_wanted, .int D_leaving, .ref aD_trackOf, .int D_parked, .int D_changes])), (aR, .inr (2, [.ref aD, .ref aR_leavers, .ref aR_steps, .int R_leastShunts, .int R_knownAt, vRs])), (aD_kinds, .inl (cI, 5, .inl D_kinds)), (aD_isBroken, .inl (cZ, 5, .inl D_isBroken)), (aD_trackOf, .inl (cI, 5, .inl D_trackOf)), (aR_leavers, .inl (cI, 5, .inl R_leavers)), (aR_steps, .inl (cI, nR_steps, .inl R_steps))] := hD.sub [0, 1, 2, 3, 4, 5, 6] (by decide) rfl
            refine lv_iconst (v := 1) hx hb dX3_nameLeavers_76 (by decide) ?_
            refine lv_isub hx hb dX3_nameLeavers_77 ?_
            refine lv_topi (fun y9 ey9 => ?_)
            have hw := hw y9 ey9
            obtain ⟨hb8, hw⟩ := hw
            refine va_iast hx hb hK hP hD hS 5 0 rfl rfl hb8 dX3_nameLeavers_78 (fun H locs hP hD hS => ?_)
            have hP : va_P D vwCl [(aD, .inr (0, [.ref aD_kinds, .ref aD_washes, .ref aD_fuels, .ref aD_isBroken, .int D_units, .ref aD_lengths, .ref aD_wanted, .int D_leaving, .ref aD_trackOf, .int D_parked, .int D_changes])), (aR, .inr (2, [.ref aD, .ref aR_leavers, .ref aR_steps, .int R_leastShunts, .int R_knownAt, vRs])), (aD_kinds, .inl (cI, 5, .inl D_kinds)), (aD_isBroken, .inl (cZ, 5, .inl D_isBroken)), (aD_trackOf, .inl (cI, 5, .inl D_trackOf)), (aR_leavers, .inl (cI, 5, .inl (upd R_leavers x3.toNatClampNeg y9))), (aR_steps, .inl (cI, nR_steps, .inl R_steps))] H := hP
            have hD : va_D A [(aD, .inr (0, [.ref aD_kinds, .ref aD_washes, .ref aD_fuels, .ref aD_isBroken, .int D_units, .ref aD_lengths, .ref aD_wanted, .int D_leaving, .ref aD_trackOf, .int D_parked, .int D_changes])), (aR, .inr (2, [.ref aD, .ref aR_leavers, .ref aR_steps, .int R_leastShunts, .int R_knownAt, vRs])), (aD_kinds, .inl (cI, 5, .inl D_kinds)), (aD_isBroken, .inl (cZ, 5, .inl D_isBroken)), (aD_trackOf, .inl (cI, 5, .inl D_trackOf)), (aR_leavers, .inl (cI, 5, .inl (upd R_leavers x3.toNatClampNeg y9))), (aR_steps, .inl (cI, nR_steps, .inl R_steps))] := hD
            refine lv_lload_n hx hb dX3_nameLeavers_79 rfl (lv_at hl 2 rfl) ?_
            refine lv_iload hx hb dX3_nameLeavers_80 (lv_at hl 0 rfl) ?_
            refine zSl (As := [.long x1, .int y4]) (rest := []) (wc := []) (wr := [(aD, .inr (0, [.ref aD_kinds, .ref aD_washes, .ref aD_fuels, .ref aD_isBroken, .int D_units, .ref aD_lengths, .ref aD_wanted, .int D_leaving, .ref aD_trackOf, .int D_parked, .int D_changes])), (aR, .inr (2, [.ref aD, .ref aR_leavers, .ref aR_steps, .int R_leastShunts, .int R_knownAt, vRs])), (aD_kinds, .inl (cI, 5, .inl D_kinds)), (aD_isBroken, .inl (cZ, 5, .inl D_isBroken)), (aD_trackOf, .inl (cI, 5, .inl D_trackOf)), (aR_leavers, .inl (cI, 5, .inl (upd R_leavers x3.toNatClampNeg y9))), (aR_steps, .inl (cI, nR_steps, .inl R_steps))]) ⟨hx, hb, hml, hown, hts⟩ hK hP hD hS hA [] [0, 1, 2, 3, 4, 5, 6] rfl rfl (by decide) (by decide) (by decide) (c_X2_sendOff l D cI cJ cZ H.size x1 y4 _ hw) (va_cwS 2 hts gX3_nameLeavers_X2_sendOff rfl rfl rfl (by decide +kernel) ⟨Nat.le_of_ble_eq_true rfl, Nat.le_of_ble_eq_true rfl⟩) rfl hl.1 (Nat.le_of_ble_eq_true rfl) dX3_nameLeavers_82 ⟨(Nat.le_of_ble_eq_true rfl), (Nat.le_of_ble_eq_true rfl)⟩ rfl (fun r10 u H locs hw hP hD hS => ?_)
            try dsimp only at hw
            have hP : va_P D vwCl [(aD, .inr (0, [.ref aD_kinds, .ref aD_washes, .ref aD_fuels, .ref aD_isBroken, .int D_units, .ref aD_lengths, .ref aD_wanted, .int D_leaving, .ref aD_trackOf, .int D_parked, .int D_changes])), (aR, .inr (2, [.ref aD, .ref aR_leavers, .ref aR_steps, .int R_leastShunts, .int R_knownAt, vRs])), (aD_kinds, .inl (cI, 5, .inl D_kinds)), (aD_isBroken, .inl (cZ, 5, .inl D_isBroken)), (aD_trackOf, .inl (cI, 5, .inl D_trackOf)), (aR_leavers, .inl (cI, 5, .inl (upd R_leavers x3.toNatClampNeg y9))), (aR_steps, .inl (cI, nR_steps, .inl R_steps))] H := hP.sub [0, 1, 2, 3, 4, 5, 6] rfl
            have hD : va_D A [(aD, .inr (0, [.ref aD_kinds, .ref aD_washes, .ref aD_fuels, .ref aD_isBroken, .int D_units, .ref aD_lengths, .ref aD_wanted, .int D_leaving, .ref aD_trackOf, .int D_parked, .int D_changes])), (aR, .inr (2, [.ref aD, .ref aR_leavers, .ref aR_steps, .int R_leastShunts, .int R_knownAt, vRs])), (aD_kinds, .inl (cI, 5, .inl D_kinds)), (aD_isBroken, .inl (cZ, 5, .inl D_isBroken)), (aD_trackOf, .inl (cI, 5, .inl D_trackOf)), (aR_leavers, .inl (cI, 5, .inl (upd R_leavers x3.toNatClampNeg y9))), (aR_steps, .inl (cI, nR_steps, .inl R_steps))] := hD.sub [0, 1, 2, 3, 4, 5, 6] (by decide) rfl
            refine lv_lstore_n (lv' := [(1, .long r10), (5, .int y4), (0, .ref aR), (3, .int x3), (4, .int x4)]) hx hb dX3_nameLeavers_85 rfl hl (by decide) rfl (fun ls hl => ?_)
            refine lv_iinc (v := (x3 + 1)) (lv' := [(3, .int (x3 + 1)), (1, .long r10), (5, .int y4), (0, .ref aR), (4, .int x4)]) hx hb dX3_nameLeavers_86 hl (k := 3) rfl rfl (by decide) rfl (fun ls hl => ?_)
            refine lv_iinc (v := (x4 + 1)) (lv' := [(4, .int (x4 + 1)), (3, .int (x3 + 1)), (1, .long r10), (5, .int y4), (0, .ref aR)]) hx hb dX3_nameLeavers_89 hl (k := 4) rfl rfl (by decide) rfl (fun ls hl => ?_)
            refine lv_goto (tgt := 11) hx hb dX3_nameLeavers_92 (by decide) ?_
            exact hK11 r10 (x3 + 1) (x4 + 1) (upd R_leavers x3.toNatClampNeg y9) hw H locs ls hP hD hS (lv_sub hl [4, 2, 1, 0] rfl)
        · have hw := hw.2 hc5
          refine lv_iload hx hb dX3_nameLeavers_37 (lv_at hl 0 rfl) ?_
          refine lv_bipush (v := 10) hx hb dX3_nameLeavers_39 (by decide) ?_
          refine lv_isub hx hb dX3_nameLeavers_41 ?_
          refine lv_topi (fun y11 ey11 => ?_)
          have hw := hw y11 ey11
          refine lv_istore (lv' := [(6, .int y11), (5, .int y4), (0, .ref aR), (1, .long x1), (3, .int x3), (4, .int x4)]) hx hb dX3_nameLeavers_42 hl (by decide) rfl (fun ls hl => ?_)
          refine lv_lload_n hx hb dX3_nameLeavers_44 rfl (lv_at hl 3 rfl) ?_
          refine lv_iload hx hb dX3_nameLeavers_45 (lv_at hl 0 rfl) ?_
          refine lv_iconst (v := 3) hx hb dX3_nameLeavers_47 (by decide) ?_
          refine lv_idiv hx hb dX3_nameLeavers_48 (by decide) ?_
          refine lv_iload hx hb dX3_nameLeavers_49 (lv_at hl 0 rfl) ?_
          refine lv_iconst (v := 3) hx hb dX3_nameLeavers_51 (by decide) ?_
          refine lv_irem hx hb dX3_nameLeavers_52 (by decide) ?_
          refine zSl (As := [.long x1, .int (y11 / 3), .int (y11 - y11 / 3 * 3)]) (rest := []) (wc := []) (wr := [(aD, .inr (0, [.ref aD_kinds, .ref aD_washes, .ref aD_fuels, .ref aD_isBroken, .int D_units, .ref aD_lengths, .ref aD_wanted, .int D_leaving, .ref aD_trackOf, .int D_parked, .int D_changes])), (aR, .inr (2, [.ref aD, .ref aR_leavers, .ref aR_steps, .int R_leastShunts, .int R_knownAt, vRs])), (aD_kinds, .inl (cI, 5, .inl D_kinds)), (aD_isBroken, .inl (cZ, 5, .inl D_isBroken)), (aD_trackOf, .inl (cI, 5, .inl D_trackOf)), (aR_leavers, .inl (cI, 5, .inl R_leavers)), (aR_steps, .inl (cI, nR_steps, .inl R_steps))]) ⟨hx, hb, hml, hown, hts⟩ hK hP hD hS hA [] [0, 1, 2, 3, 4, 5, 6] rfl rfl (by decide) (by decide) (by decide) (c_X2_shunt l D cI cJ cZ H.size x1 (y11 / 3) (y11 - y11 / 3 * 3) _ hw) (va_cwS 3 hts gX3_nameLeavers_X2_shunt rfl rfl rfl (by decide +kernel) ⟨Nat.le_of_ble_eq_true rfl, Nat.le_of_ble_eq_true rfl⟩) rfl hl.1 (Nat.le_of_ble_eq_true rfl) dX3_nameLeavers_53 ⟨(Nat.le_of_ble_eq_true rfl), (Nat.le_of_ble_eq_true rfl)⟩ rfl (fun r12 u H locs hw hP hD hS => ?_)
          try dsimp only at hw
          have hP : va_P D vwCl [(aD, .inr (0, [.ref aD_kinds, .ref aD_washes, .ref aD_fuels, .ref aD_isBroken, .int D_units, .ref aD_lengths, .ref aD_wanted, .int D_leaving, .ref aD_trackOf, .int D_parked, .int D_changes])), (aR, .inr (2, [.ref aD, .ref aR_leavers, .ref aR_steps, .int R_leastShunts, .int R_knownAt, vRs])), (aD_kinds, .inl (cI, 5, .inl D_kinds)), (aD_isBroken, .inl (cZ, 5, .inl D_isBroken)), (aD_trackOf, .inl (cI, 5, .inl D_trackOf)), (aR_leavers, .inl (cI, 5, .inl R_leavers)), (aR_steps, .inl (cI, nR_steps, .inl R_steps))] H := hP.sub [0, 1, 2, 3, 4, 5, 6] rfl
          have hD : va_D A [(aD, .inr (0, [.ref aD_kinds, .ref aD_washes, .ref aD_fuels, .ref aD_isBroken, .int D_units, .ref aD_lengths, .ref aD_wanted, .int D_leaving, .ref aD_trackOf, .int D_parked, .int D_changes])), (aR, .inr (2, [.ref aD, .ref aR_leavers, .ref aR_steps, .int R_leastShunts, .int R_knownAt, vRs])), (aD_kinds, .inl (cI, 5, .inl D_kinds)), (aD_isBroken, .inl (cZ, 5, .inl D_isBroken)), (aD_trackOf, .inl (cI, 5, .inl D_trackOf)), (aR_leavers, .inl (cI, 5, .inl R_leavers)), (aR_steps, .inl (cI, nR_steps, .inl R_steps))] := hD.sub [0, 1, 2, 3, 4, 5, 6] (by decide) rfl
          refine lv_lstore_n (lv' := [(1, .long r12), (6, .int y11), (5, .int y4), (0, .ref aR), (3, .int x3), (4, .int x4)]) hx hb dX3_nameLeavers_56 rfl hl (by decide) rfl (fun ls hl => ?_)
          refine lv_goto (tgt := 89) hx hb dX3_nameLeavers_57 (by decide) ?_
          refine lv_iinc (v := (x4 + 1)) (lv' := [(4, .int (x4 + 1)), (1, .long r12), (6, .int y11), (5, .int y4), (0, .ref aR), (3, .int x3)]) hx hb dX3_nameLeavers_89 hl (k := 5) rfl rfl (by decide) rfl (fun ls hl => ?_)
          refine lv_goto (tgt := 11) hx hb dX3_nameLeavers_92 (by decide) ?_
          exact hK11 r12 x3 (x4 + 1) R_leavers hw H locs ls hP hD hS (lv_sub hl [4, 1, 5, 0] rfl)
  obtain ⟨H, hHe⟩ : ∃ H, H = s.heap := ⟨_, rfl⟩
  obtain ⟨locs, hLo⟩ : ∃ locs : List Loc, locs = [] := ⟨_, rfl⟩
  have hS : va_S A s.heap H locs := by rw [hHe, hLo]; exact hS
  have hP : va_P D vwCl [(aD, .inr (0, [.ref aD_kinds, .ref aD_washes, .ref aD_fuels, .ref aD_isBroken, .int D_units, .ref aD_lengths, .ref aD_wanted, .int D_leaving, .ref aD_trackOf, .int D_parked, .int D_changes])), (aR, .inr (2, [.ref aD, .ref aR_leavers, .ref aR_steps, .int R_leastShunts, .int R_knownAt, vRs])), (aD_kinds, .inl (cI, 5, .inl D_kinds)), (aD_isBroken, .inl (cZ, 5, .inl D_isBroken)), (aD_trackOf, .inl (cI, 5, .inl D_trackOf)), (aR_leavers, .inl (cI, 5, .inl R_leavers)), (aR_steps, .inl (cI, nR_steps, .inl R_steps))] H := by rw [hHe]; exact hP
  refine (fun (hgo : W p l e ({ frames := 3, cells := 0, slots := 0, locals := 73 } : Room) s m ([.ref aR] : List Value).toArray below meth c H locs 0 0 Q0 (F0 m 0 ls [])) => by rw [hHe, hLo] at hgo; exact hgo) ?_
  refine lv_aload_n hx hb dX3_nameLeavers_0 rfl (lv_at hl 0 rfl) ?_
  refine lv_iconst (v := 1) hx hb dX3_nameLeavers_1 (by decide) ?_
  refine zVl (As := [.int 1]) (rest := []) (wc := [(aD, .inr (0, [.ref aD_kinds, .ref aD_washes, .ref aD_fuels, .ref aD_isBroken, .int D_units, .ref aD_lengths, .ref aD_wanted, .int D_leaving, .ref aD_trackOf, .int D_parked, .int D_changes])), (aR, .inr (2, [.ref aD, .ref aR_leavers, .ref aR_steps, .int R_leastShunts, .int R_knownAt, vRs])), (aD_kinds, .inl (cI, 5, .inl D_kinds)), (aD_isBroken, .inl (cZ, 5, .inl D_isBroken)), (aD_trackOf, .inl (cI, 5, .inl D_trackOf))]) (wr := [(aR_leavers, .inl (cI, 5, .inl R_leavers)), (aR_steps, .inl (cI, nR_steps, .inl R_steps))]) ⟨hx, hb, hml, hown, hts⟩ hK hP hD hS hA [0, 1, 2, 3, 4] [5, 6] rfl rfl (by decide) (by decide) (by decide) (c_X3_yard l D cI cJ cZ aD aD_kinds aD_washes aD_fuels aD_isBroken aD_lengths aD_wanted aD_trackOf aR aR_leavers aR_steps vRs H.size D_units D_leaving D_parked D_changes R_leastShunts R_knownAt D_kinds D_isBroken D_trackOf 1 _ hw) (cwV 1 hts gX3_nameLeavers_X3_yard rfl rfl rfl (by decide +kernel) ⟨Nat.le_of_ble_eq_true rfl, Nat.le_of_ble_eq_true rfl⟩) 1 2 rfl rfl rfl rfl hl.1 (Nat.le_of_ble_eq_true rfl) dX3_nameLeavers_2 ⟨(Nat.le_of_ble_eq_true rfl), (Nat.le_of_ble_eq_true rfl)⟩ rfl (fun r1 u H locs hw hP hD hS => ?_)
  try dsimp only at hw
  have hP : va_P D vwCl [(aD, .inr (0, [.ref aD_kinds, .ref aD_washes, .ref aD_fuels, .ref aD_isBroken, .int D_units, .ref aD_lengths, .ref aD_wanted, .int D_leaving, .ref aD_trackOf, .int D_parked, .int D_changes])), (aR, .inr (2, [.ref aD, .ref aR_leavers, .ref aR_steps, .int R_leastShunts, .int R_knownAt, vRs])), (aD_kinds, .inl (cI, 5, .inl D_kinds)), (aD_isBroken, .inl (cZ, 5, .inl D_isBroken)), (aD_trackOf, .inl (cI, 5, .inl D_trackOf)), (aR_leavers, .inl (cI, 5, .inl R_leavers)), (aR_steps, .inl (cI, nR_steps, .inl R_steps))] H := hP.sub [2, 3, 4, 5, 6, 0, 1] rfl
  have hD : va_D A [(aD, .inr (0, [.ref aD_kinds, .ref aD_washes, .ref aD_fuels, .ref aD_isBroken, .int D_units, .ref aD_lengths, .ref aD_wanted, .int D_leaving, .ref aD_trackOf, .int D_parked, .int D_changes])), (aR, .inr (2, [.ref aD, .ref aR_leavers, .ref aR_steps, .int R_leastShunts, .int R_knownAt, vRs])), (aD_kinds, .inl (cI, 5, .inl D_kinds)), (aD_isBroken, .inl (cZ, 5, .inl D_isBroken)), (aD_trackOf, .inl (cI, 5, .inl D_trackOf)), (aR_leavers, .inl (cI, 5, .inl R_leavers)), (aR_steps, .inl (cI, nR_steps, .inl R_steps))] := hD.sub [2, 3, 4, 5, 6, 0, 1] (by decide) rfl
  refine lv_lstore_n (lv' := [(1, .long r1), (0, .ref aR)]) hx hb dX3_nameLeavers_5 rfl hl (by decide) rfl (fun ls hl => ?_)
  refine lv_iconst (v := 0) hx hb dX3_nameLeavers_6 (by decide) ?_
  refine lv_istore_n (lv' := [(3, .int 0), (1, .long r1), (0, .ref aR)]) hx hb dX3_nameLeavers_7 rfl hl (by decide) rfl (fun ls hl => ?_)
  refine lv_iconst (v := 0) hx hb dX3_nameLeavers_8 (by decide) ?_
  refine lv_istore (lv' := [(4, .int 0), (3, .int 0), (1, .long r1), (0, .ref aR)]) hx hb dX3_nameLeavers_9 hl (by decide) rfl (fun ls hl => ?_)
  obtain ⟨n13, hw⟩ := hw
  exact wZ_X3_nameLeavers_11  n13 r1 0 0 R_leavers hw H locs ls hP hD hS (lv_sub hl [3, 2, 1, 0] rfl)
