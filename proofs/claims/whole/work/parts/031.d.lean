/-! X0_hasUnit -/
def wp_X0_hasUnit (D_units : Int32) (x1 : Int32) (post : Int32 → Prop) : Prop :=
  ((x1 < 0 → post 0 ) ∧ (¬ x1 < 0 → ((D_units ≤ x1 → post 0 ) ∧ (¬ D_units ≤ x1 → post 1 ))))
set_option maxHeartbeats 4000000 in
set_option maxRecDepth 100000 in
theorem c_X0_hasUnit (l : Launch) (D : va_G) (cI cJ cZ : ClassId) (aD aD_kinds aD_washes aD_fuels aD_isBroken aD_lengths aD_wanted aD_trackOf : Nat) (sz : Nat) (D_units : Int32) (D_leaving : Int32) (D_parked : Int32) (D_changes : Int32) (x1 : Int32) (post : Int32 → Prop) (hw : wp_X0_hasUnit D_units x1 post) : Met l yX0_hasUnit wsX0_hasUnit ({ frames := 0, cells := 0, slots := 0, locals := 0 } : Room) (va_Pc [.ref aD, .int x1] (zPre D cI cJ cZ [(aD, .inr (0, [.ref aD_kinds, .ref aD_washes, .ref aD_fuels, .ref aD_isBroken, .int D_units, .ref aD_lengths, .ref aD_wanted, .int D_leaving, .ref aD_trackOf, .int D_parked, .int D_changes]))] sz)) (va_Qi (fun (r : Int32) (u : Unit) => post r) (zPost D cI cJ cZ (va_A [(aD, .inr (0, [.ref aD_kinds, .ref aD_washes, .ref aD_fuels, .ref aD_isBroken, .int D_units, .ref aD_lengths, .ref aD_wanted, .int D_leaving, .ref aD_trackOf, .int D_parked, .int D_changes]))] sz) (fun u : Unit => [(aD, .inr (0, [.ref aD_kinds, .ref aD_washes, .ref aD_fuels, .ref aD_isBroken, .int D_units, .ref aD_lengths, .ref aD_wanted, .int D_leaving, .ref aD_trackOf, .int D_parked, .int D_changes]))])) (va_A [(aD, .inr (0, [.ref aD_kinds, .ref aD_washes, .ref aD_fuels, .ref aD_isBroken, .int D_units, .ref aD_lengths, .ref aD_wanted, .int D_leaving, .ref aD_trackOf, .int D_parked, .int D_changes]))] sz)) 0 0 (va_A [(aD, .inr (0, [.ref aD_kinds, .ref aD_washes, .ref aD_fuels, .ref aD_isBroken, .int D_units, .ref aD_lengths, .ref aD_wanted, .int D_leaving, .ref aD_trackOf, .int D_parked, .int D_changes]))] sz) := by
  unfold wp_X0_hasUnit at hw
  refine Met.ofW (cc := cX0_hasUnit) (maxL := 2) (ret := some .boolean) (by decide) rfl ?_
  intro p e s m args below meth c s₁ B hml hv
  obtain ⟨rfl, hsz, hP, hK, hD0⟩ := hv
  have hx := B.exec
  have hb := B.bytes
  have hr := B.returns
  have hts := atoms_spec (ws := wsX0_hasUnit) B.pre
  have hown : s.vm.findClass RX0 = some m.cls := findClass_of_methodNamed B.named
  have hlocks := B.notSynchronized
  subst hsz
  have hD := hD0.self (sz := s.heap.size)
  generalize hAe : va_A [(aD, .inr (0, [.ref aD_kinds, .ref aD_washes, .ref aD_fuels, .ref aD_isBroken, .int D_units, .ref aD_lengths, .ref aD_wanted, .int D_leaving, .ref aD_trackOf, .int D_parked, .int D_changes]))] s.heap.size = A at hD ⊢
  have hA : ∀ q : Nat, s.heap.size ≤ q → A q := fun q h => by rw [← hAe]; exact Or.inr h
  have hS : va_S A s.heap s.heap [] := va_S.rf
  refine (fun (hall : ∀ Q0 : State → Prop, (∀ (r : Int32)  (H : Heap) (locs : List Loc) (pc : Nat) (ls : Array Slot), post r → decode cX0_hasUnit pc = .ok (.ireturn, 1) → va_P D vwCl [(aD, .inr (0, [.ref aD_kinds, .ref aD_washes, .ref aD_fuels, .ref aD_isBroken, .int D_units, .ref aD_lengths, .ref aD_wanted, .int D_leaving, .ref aD_trackOf, .int D_parked, .int D_changes]))] H → va_D A [(aD, .inr (0, [.ref aD_kinds, .ref aD_washes, .ref aD_fuels, .ref aD_isBroken, .int D_units, .ref aD_lengths, .ref aD_wanted, .int D_leaving, .ref aD_trackOf, .int D_parked, .int D_changes]))] → va_S A s.heap H locs → narrow .boolean (.int r) = .int r → W p l e ({ frames := 0, cells := 0, slots := 0, locals := 0 } : Room) s m ([.ref aD, .int x1] : List Value).toArray below meth c H locs 0 0 Q0 (F0 m pc ls [.int r])) → W p l e ({ frames := 0, cells := 0, slots := 0, locals := 0 } : Room) s m ([.ref aD, .int x1] : List Value).toArray below meth c s.heap [] 0 0 Q0 (entryFrame m ([.ref aD, .int x1] : List Value).toArray 2)) => hall _ (fun r  H locs pc ls hw hd hP hD hS hnr => W.zret (v := r) hx hb hr hnr (fun t ht hW => ⟨⟨r, (), rfl, hw, by rw [ht]; exact hP, va_K.moved hW.alike hK, hD⟩, hS.F ht⟩) hS.2.2 hd)) ?_
  intro Q0 hret
  have hl := lv_entry ([.ref aD, .int x1]) (n := 2) (Nat.le_of_ble_eq_true rfl)
  rw [lg_entry_eq]
  generalize (lg_sl ([.ref aD, .int x1]) ++ List.replicate (2 - (lg_sl ([.ref aD, .int x1])).length) Slot.unset).toArray = ls at hl ⊢
  have hl : lv_has ls 2 [(0, .ref aD), (1, .int x1)] := hl
  have hinX0 : ∀ w ∈ u_ws RX0 TX0 11, w ∈ wsX0_hasUnit := by decide +kernel
  have hf25 := hts (.fieldLink RX0 25 "DepotNight$Depot" "units" "I") (by decide +kernel)
  obtain ⟨H, hHe⟩ : ∃ H, H = s.heap := ⟨_, rfl⟩
  obtain ⟨locs, hLo⟩ : ∃ locs : List Loc, locs = [] := ⟨_, rfl⟩
  have hS : va_S A s.heap H locs := by rw [hHe, hLo]; exact hS
  have hP : va_P D vwCl [(aD, .inr (0, [.ref aD_kinds, .ref aD_washes, .ref aD_fuels, .ref aD_isBroken, .int D_units, .ref aD_lengths, .ref aD_wanted, .int D_leaving, .ref aD_trackOf, .int D_parked, .int D_changes]))] H := by rw [hHe]; exact hP
  refine (fun (hgo : W p l e ({ frames := 0, cells := 0, slots := 0, locals := 0 } : Room) s m ([.ref aD, .int x1] : List Value).toArray below meth c H locs 0 0 Q0 (F0 m 0 ls [])) => by rw [hHe, hLo] at hgo; exact hgo) ?_
  refine lv_iload_n hx hb dX0_hasUnit_0 rfl (lv_at hl 1 rfl) ?_
  refine lv_if_lt (tgt := 16) hx hb dX0_hasUnit_1 (by decide) (fun hc1 => ?_) (fun hc1 => ?_)
  · have hw := hw.1 hc1
    refine lv_iconst (v := 0) hx hb dX0_hasUnit_16 (by decide) ?_
    exact hret 0  H locs 17 ls hw dX0_hasUnit_17 hP hD hS rfl
  · have hw := hw.2 hc1
    refine lv_iload_n hx hb dX0_hasUnit_4 rfl (lv_at hl 1 rfl) ?_
    refine lv_aload_n hx hb dX0_hasUnit_5 rfl (lv_at hl 0 rfl) ?_
    refine va_get (D := D) (ci := 0) (v := .int D_units) (C := RX0) (T := TX0) (N := 11) hx hb hts hinX0 hown hK hP 0 rfl rfl 4 (by decide) hf25 (fun _ h9 => h9) rfl dX0_hasUnit_6 ?_
    refine lv_icmp_ge (tgt := 16) hx hb dX0_hasUnit_9 (by decide) (fun hc2 => ?_) (fun hc2 => ?_)
    · have hw := hw.1 hc2
      refine lv_iconst (v := 0) hx hb dX0_hasUnit_16 (by decide) ?_
      exact hret 0  H locs 17 ls hw dX0_hasUnit_17 hP hD hS rfl
    · have hw := hw.2 hc2
      refine lv_iconst (v := 1) hx hb dX0_hasUnit_12 (by decide) ?_
      refine lv_goto (tgt := 17) hx hb dX0_hasUnit_13 (by decide) ?_
      exact hret 1  H locs 17 ls hw dX0_hasUnit_17 hP hD hS rfl
/-! X0_addUnit -/
def wp_X0_addUnit (x1 : Int32) (x2 : Int32) (x3 : Int32) (D_kinds : Nat → Int32) (D_washes : Nat → Int32) (D_fuels : Nat → Int32) (D_units : Int32) (D_changes : Int32) (post : Int32 → (Nat → Int32) → (Nat → Int32) → (Nat → Int32) → Int32 → Int32 → Prop) : Prop :=
  vp_in D_units 5 ∧ (vp_in D_units 5 ∧ (vp_in D_units 5 ∧ (∀ y4 : Int32, y4 = (D_units + 1) → (∀ y5 : Int32, y5 = (D_changes + 1) → (post D_units (upd D_kinds D_units.toNatClampNeg x1) (upd D_washes D_units.toNatClampNeg x2) (upd D_fuels D_units.toNatClampNeg x3) y4 y5)))))
set_option maxHeartbeats 4000000 in
set_option maxRecDepth 100000 in
theorem c_X0_addUnit (l : Launch) (D : va_G) (cI cJ cZ : ClassId) (aD aD_kinds aD_washes aD_fuels aD_isBroken aD_lengths aD_wanted aD_trackOf : Nat) (sz : Nat) (D_units : Int32) (D_leaving : Int32) (D_parked : Int32) (D_changes : Int32) (D_kinds : Nat → Int32) (D_washes : Nat → Int32) (D_fuels : Nat → Int32) (x1 : Int32) (x2 : Int32) (x3 : Int32) (post : Int32 → (Nat → Int32) → (Nat → Int32) → (Nat → Int32) → Int32 → Int32 → Prop) (hw : wp_X0_addUnit x1 x2 x3 D_kinds D_washes D_fuels D_units D_changes post) : Met l yX0_addUnit wsX0_addUnit ({ frames := 0, cells := 0, slots := 0, locals := 0 } : Room) (va_Pc [.ref aD, .int x1, .int x2, .int x3] (zPre D cI cJ cZ [(aD, .inr (0, [.ref aD_kinds, .ref aD_washes, .ref aD_fuels, .ref aD_isBroken, .int D_units, .ref aD_lengths, .ref aD_wanted, .int D_leaving, .ref aD_trackOf, .int D_parked, .int D_changes])), (aD_kinds, .inl (cI, 5, .inl D_kinds)), (aD_washes, .inl (cI, 5, .inl D_washes)), (aD_fuels, .inl (cI, 5, .inl D_fuels))] sz)) (va_Qi (fun (r : Int32) (u : (Nat → Int32) × (Nat → Int32) × (Nat → Int32) × (Int32) × (Int32)) => post r u.1 u.2.1 u.2.2.1 u.2.2.2.1 u.2.2.2.2) (zPost D cI cJ cZ (va_A [(aD, .inr (0, [.ref aD_kinds, .ref aD_washes, .ref aD_fuels, .ref aD_isBroken, .int D_units, .ref aD_lengths, .ref aD_wanted, .int D_leaving, .ref aD_trackOf, .int D_parked, .int D_changes])), (aD_kinds, .inl (cI, 5, .inl D_kinds)), (aD_washes, .inl (cI, 5, .inl D_washes)), (aD_fuels, .inl (cI, 5, .inl D_fuels))] sz) (fun u : (Nat → Int32) × (Nat → Int32) × (Nat → Int32) × (Int32) × (Int32) => [(aD, .inr (0, [.ref aD_kinds, .ref aD_washes, .ref aD_fuels, .ref aD_isBroken, .int u.2.2.2.1, .ref aD_lengths, .ref aD_wanted, .int D_leaving, .ref aD_trackOf, .int D_parked, .int u.2.2.2.2])), (aD_kinds, .inl (cI, 5, .inl u.1)), (aD_washes, .inl (cI, 5, .inl u.2.1)), (aD_fuels, .inl (cI, 5, .inl u.2.2.1))])) (va_A [(aD, .inr (0, [.ref aD_kinds, .ref aD_washes, .ref aD_fuels, .ref aD_isBroken, .int D_units, .ref aD_lengths, .ref aD_wanted, .int D_leaving, .ref aD_trackOf, .int D_parked, .int D_changes])), (aD_kinds, .inl (cI, 5, .inl D_kinds)), (aD_washes, .inl (cI, 5, .inl D_washes)), (aD_fuels, .inl (cI, 5, .inl D_fuels))] sz)) 0 0 (va_A [(aD, .inr (0, [.ref aD_kinds, .ref aD_washes, .ref aD_fuels, .ref aD_isBroken, .int D_units, .ref aD_lengths, .ref aD_wanted, .int D_leaving, .ref aD_trackOf, .int D_parked, .int D_changes])), (aD_kinds, .inl (cI, 5, .inl D_kinds)), (aD_washes, .inl (cI, 5, .inl D_washes)), (aD_fuels, .inl (cI, 5, .inl D_fuels))] sz) := by
  unfold wp_X0_addUnit at hw
  refine Met.ofW (cc := cX0_addUnit) (maxL := 5) (ret := some .int) (by decide) rfl ?_
  intro p e s m args below meth c s₁ B hml hv
  obtain ⟨rfl, hsz, hP, hK, hD0⟩ := hv
  have hx := B.exec
  have hb := B.bytes
  have hr := B.returns
  have hts := atoms_spec (ws := wsX0_addUnit) B.pre
  have hown : s.vm.findClass RX0 = some m.cls := findClass_of_methodNamed B.named
  have hlocks := B.notSynchronized
  subst hsz
  have hD := hD0.self (sz := s.heap.size)
  generalize hAe : va_A [(aD, .inr (0, [.ref aD_kinds, .ref aD_washes, .ref aD_fuels, .ref aD_isBroken, .int D_units, .ref aD_lengths, .ref aD_wanted, .int D_leaving, .ref aD_trackOf, .int D_parked, .int D_changes])), (aD_kinds, .inl (cI, 5, .inl D_kinds)), (aD_washes, .inl (cI, 5, .inl D_washes)), (aD_fuels, .inl (cI, 5, .inl D_fuels))] s.heap.size = A at hD ⊢
  have hA : ∀ q : Nat, s.heap.size ≤ q → A q := fun q h => by rw [← hAe]; exact Or.inr h
  have hS : va_S A s.heap s.heap [] := va_S.rf
  refine (fun (hall : ∀ Q0 : State → Prop, (∀ (r : Int32) (v0 : Nat → Int32) (v1 : Nat → Int32) (v2 : Nat → Int32) (v3 : Int32) (v4 : Int32) (H : Heap) (locs : List Loc) (pc : Nat) (ls : Array Slot), post r v0 v1 v2 v3 v4 → decode cX0_addUnit pc = .ok (.ireturn, 1) → va_P D vwCl [(aD, .inr (0, [.ref aD_kinds, .ref aD_washes, .ref aD_fuels, .ref aD_isBroken, .int v3, .ref aD_lengths, .ref aD_wanted, .int D_leaving, .ref aD_trackOf, .int D_parked, .int v4])), (aD_kinds, .inl (cI, 5, .inl v0)), (aD_washes, .inl (cI, 5, .inl v1)), (aD_fuels, .inl (cI, 5, .inl v2))] H → va_D A [(aD, .inr (0, [.ref aD_kinds, .ref aD_washes, .ref aD_fuels, .ref aD_isBroken, .int v3, .ref aD_lengths, .ref aD_wanted, .int D_leaving, .ref aD_trackOf, .int D_parked, .int v4])), (aD_kinds, .inl (cI, 5, .inl v0)), (aD_washes, .inl (cI, 5, .inl v1)), (aD_fuels, .inl (cI, 5, .inl v2))] → va_S A s.heap H locs → W p l e ({ frames := 0, cells := 0, slots := 0, locals := 0 } : Room) s m ([.ref aD, .int x1, .int x2, .int x3] : List Value).toArray below meth c H locs 0 0 Q0 (F0 m pc ls [.int r])) → W p l e ({ frames := 0, cells := 0, slots := 0, locals := 0 } : Room) s m ([.ref aD, .int x1, .int x2, .int x3] : List Value).toArray below meth c s.heap [] 0 0 Q0 (entryFrame m ([.ref aD, .int x1, .int x2, .int x3] : List Value).toArray 5)) => hall _ (fun r v0 v1 v2 v3 v4 H locs pc ls hw hd hP hD hS => W.iret (v := r) hx hb hr (fun t ht hW => ⟨⟨r, (v0, v1, v2, v3, v4), rfl, hw, by rw [ht]; exact hP, va_K.moved hW.alike hK, hD⟩, hS.F ht⟩) hS.2.2 hd)) ?_
  intro Q0 hret
  have hl := lv_entry ([.ref aD, .int x1, .int x2, .int x3]) (n := 5) (Nat.le_of_ble_eq_true rfl)
  rw [lg_entry_eq]
  generalize (lg_sl ([.ref aD, .int x1, .int x2, .int x3]) ++ List.replicate (5 - (lg_sl ([.ref aD, .int x1, .int x2, .int x3])).length) Slot.unset).toArray = ls at hl ⊢
  have hl : lv_has ls 5 [(0, .ref aD), (1, .int x1), (2, .int x2), (3, .int x3)] := hl
  have hinX0 : ∀ w ∈ u_ws RX0 TX0 11, w ∈ wsX0_addUnit := by decide +kernel
  have hf9 := hts (.fieldLink RX0 9 "DepotNight$Depot" "kinds" "[I") (by decide +kernel)
  have hf15 := hts (.fieldLink RX0 15 "DepotNight$Depot" "washes" "[I") (by decide +kernel)
  have hf18 := hts (.fieldLink RX0 18 "DepotNight$Depot" "fuels" "[I") (by decide +kernel)
  have hf25 := hts (.fieldLink RX0 25 "DepotNight$Depot" "units" "I") (by decide +kernel)
  have hf44 := hts (.fieldLink RX0 44 "DepotNight$Depot" "changes" "I") (by decide +kernel)
  obtain ⟨H, hHe⟩ : ∃ H, H = s.heap := ⟨_, rfl⟩
  obtain ⟨locs, hLo⟩ : ∃ locs : List Loc, locs = [] := ⟨_, rfl⟩
  have hS : va_S A s.heap H locs := by rw [hHe, hLo]; exact hS
  have hP : va_P D vwCl [(aD, .inr (0, [.ref aD_kinds, .ref aD_washes, .ref aD_fuels, .ref aD_isBroken, .int D_units, .ref aD_lengths, .ref aD_wanted, .int D_leaving, .ref aD_trackOf, .int D_parked, .int D_changes])), (aD_kinds, .inl (cI, 5, .inl D_kinds)), (aD_washes, .inl (cI, 5, .inl D_washes)), (aD_fuels, .inl (cI, 5, .inl D_fuels))] H := by rw [hHe]; exact hP
  refine (fun (hgo : W p l e ({ frames := 0, cells := 0, slots := 0, locals := 0 } : Room) s m ([.ref aD, .int x1, .int x2, .int x3] : List Value).toArray below meth c H locs 0 0 Q0 (F0 m 0 ls [])) => by rw [hHe, hLo] at hgo; exact hgo) ?_
  refine lv_aload_n hx hb dX0_addUnit_0 rfl (lv_at hl 0 rfl) ?_
  refine va_get (D := D) (ci := 0) (v := .int D_units) (C := RX0) (T := TX0) (N := 11) hx hb hts hinX0 hown hK hP 0 rfl rfl 4 (by decide) hf25 (fun _ h9 => h9) rfl dX0_addUnit_1 ?_
  refine lv_istore (lv' := [(4, .int D_units), (0, .ref aD), (1, .int x1), (2, .int x2), (3, .int x3)]) hx hb dX0_addUnit_4 hl (by decide) rfl (fun ls hl => ?_)
  refine lv_aload_n hx hb dX0_addUnit_6 rfl (lv_at hl 1 rfl) ?_
  refine va_get (D := D) (ci := 0) (v := .ref aD_kinds) (C := RX0) (T := TX0) (N := 11) hx hb hts hinX0 hown hK hP 0 rfl rfl 0 (by decide) hf9 (fun _ h9 => h9) rfl dX0_addUnit_7 ?_
  refine lv_iload hx hb dX0_addUnit_10 (lv_at hl 0 rfl) ?_
  refine lv_iload_n hx hb dX0_addUnit_12 rfl (lv_at hl 2 rfl) ?_
  obtain ⟨hb1, hw⟩ := hw
  refine va_iast hx hb hK hP hD hS 1 0 rfl rfl hb1 dX0_addUnit_13 (fun H locs hP hD hS => ?_)
  have hP : va_P D vwCl [(aD, .inr (0, [.ref aD_kinds, .ref aD_washes, .ref aD_fuels, .ref aD_isBroken, .int D_units, .ref aD_lengths, .ref aD_wanted, .int D_leaving, .ref aD_trackOf, .int D_parked, .int D_changes])), (aD_kinds, .inl (cI, 5, .inl (upd D_kinds D_units.toNatClampNeg x1))), (aD_washes, .inl (cI, 5, .inl D_washes)), (aD_fuels, .inl (cI, 5, .inl D_fuels))] H := hP
  have hD : va_D A [(aD, .inr (0, [.ref aD_kinds, .ref aD_washes, .ref aD_fuels, .ref aD_isBroken, .int D_units, .ref aD_lengths, .ref aD_wanted, .int D_leaving, .ref aD_trackOf, .int D_parked, .int D_changes])), (aD_kinds, .inl (cI, 5, .inl (upd D_kinds D_units.toNatClampNeg x1))), (aD_washes, .inl (cI, 5, .inl D_washes)), (aD_fuels, .inl (cI, 5, .inl D_fuels))] := hD
  refine lv_aload_n hx hb dX0_addUnit_14 rfl (lv_at hl 1 rfl) ?_
  refine va_get (D := D) (ci := 0) (v := .ref aD_washes) (C := RX0) (T := TX0) (N := 11) hx hb hts hinX0 hown hK hP 0 rfl rfl 1 (by decide) hf15 (fun _ h9 => h9) rfl dX0_addUnit_15 ?_
  refine lv_iload hx hb dX0_addUnit_18 (lv_at hl 0 rfl) ?_
  refine lv_iload_n hx hb dX0_addUnit_20 rfl (lv_at hl 3 rfl) ?_
  obtain ⟨hb2, hw⟩ := hw
  refine va_iast hx hb hK hP hD hS 2 0 rfl rfl hb2 dX0_addUnit_21 (fun H locs hP hD hS => ?_)
  have hP : va_P D vwCl [(aD, .inr (0, [.ref aD_kinds, .ref aD_washes, .ref aD_fuels, .ref aD_isBroken, .int D_units, .ref aD_lengths, .ref aD_wanted, .int D_leaving, .ref aD_trackOf, .int D_parked, .int D_changes])), (aD_kinds, .inl (cI, 5, .inl (upd D_kinds D_units.toNatClampNeg x1))), (aD_washes, .inl (cI, 5, .inl (upd D_washes D_units.toNatClampNeg x2))), (aD_fuels, .inl (cI, 5, .inl D_fuels))] H := hP
  have hD : va_D A [(aD, .inr (0, [.ref aD_kinds, .ref aD_washes, .ref aD_fuels, .ref aD_isBroken, .int D_units, .ref aD_lengths, .ref aD_wanted, .int D_leaving, .ref aD_trackOf, .int D_parked, .int D_changes])), (aD_kinds, .inl (cI, 5, .inl (upd D_kinds D_units.toNatClampNeg x1))), (aD_washes, .inl (cI, 5, .inl (upd D_washes D_units.toNatClampNeg x2))), (aD_fuels, .inl (cI, 5, .inl D_fuels))] := hD
  refine lv_aload_n hx hb dX0_addUnit_22 rfl (lv_at hl 1 rfl) ?_
  refine va_get (D := D) (ci := 0) (v := .ref aD_fuels) (C := RX0) (T := TX0) (N := 11) hx hb hts hinX0 hown hK hP 0 rfl rfl 2 (by decide) hf18 (fun _ h9 => h9) rfl dX0_addUnit_23 ?_
  refine lv_iload hx hb dX0_addUnit_26 (lv_at hl 0 rfl) ?_
  refine lv_iload_n hx hb dX0_addUnit_28 rfl (lv_at hl 4 rfl) ?_
  obtain ⟨hb3, hw⟩ := hw
  refine va_iast hx hb hK hP hD hS 3 0 rfl rfl hb3 dX0_addUnit_29 (fun H locs hP hD hS => ?_)
  have hP : va_P D vwCl [(aD, .inr (0, [.ref aD_kinds, .ref aD_washes, .ref aD_fuels, .ref aD_isBroken, .int D_units, .ref aD_lengths, .ref aD_wanted, .int D_leaving, .ref aD_trackOf, .int D_parked, .int D_changes])), (aD_kinds, .inl (cI, 5, .inl (upd D_kinds D_units.toNatClampNeg x1))), (aD_washes, .inl (cI, 5, .inl (upd D_washes D_units.toNatClampNeg x2))), (aD_fuels, .inl (cI, 5, .inl (upd D_fuels D_units.toNatClampNeg x3)))] H := hP
  have hD : va_D A [(aD, .inr (0, [.ref aD_kinds, .ref aD_washes, .ref aD_fuels, .ref aD_isBroken, .int D_units, .ref aD_lengths, .ref aD_wanted, .int D_leaving, .ref aD_trackOf, .int D_parked, .int D_changes])), (aD_kinds, .inl (cI, 5, .inl (upd D_kinds D_units.toNatClampNeg x1))), (aD_washes, .inl (cI, 5, .inl (upd D_washes D_units.toNatClampNeg x2))), (aD_fuels, .inl (cI, 5, .inl (upd D_fuels D_units.toNatClampNeg x3)))] := hD
  refine lv_aload_n hx hb dX0_addUnit_30 rfl (lv_at hl 1 rfl) ?_
  refine lv_dup hx hb dX0_addUnit_31 rfl ?_
  refine va_get (D := D) (ci := 0) (v := .int D_units) (C := RX0) (T := TX0) (N := 11) hx hb hts hinX0 hown hK hP 0 rfl rfl 4 (by decide) hf25 (fun _ h9 => h9) rfl dX0_addUnit_32 ?_
  refine lv_iconst (v := 1) hx hb dX0_addUnit_35 (by decide) ?_
  refine lv_iadd hx hb dX0_addUnit_36 ?_
  refine lv_topi (fun y4 ey4 => ?_)
  have hw := hw y4 ey4
  refine va_put (D := D) (ci := 0) (v := .int y4) (ty := .int) (C := RX0) (T := TX0) (N := 11) hx hb hts hinX0 tyX0 tyX0_ok nmX0 hown hK hP hD hS 0 rfl rfl 4 (by decide) hf25 (fun _ h9 => h9) rfl (by decide +kernel) rfl rfl (Nat.le_of_ble_eq_true rfl) dX0_addUnit_37 (fun H locs hP hD hS => ?_)
  have hP : va_P D vwCl [(aD, .inr (0, [.ref aD_kinds, .ref aD_washes, .ref aD_fuels, .ref aD_isBroken, .int y4, .ref aD_lengths, .ref aD_wanted, .int D_leaving, .ref aD_trackOf, .int D_parked, .int D_changes])), (aD_kinds, .inl (cI, 5, .inl (upd D_kinds D_units.toNatClampNeg x1))), (aD_washes, .inl (cI, 5, .inl (upd D_washes D_units.toNatClampNeg x2))), (aD_fuels, .inl (cI, 5, .inl (upd D_fuels D_units.toNatClampNeg x3)))] H := hP
  have hD : va_D A [(aD, .inr (0, [.ref aD_kinds, .ref aD_washes, .ref aD_fuels, .ref aD_isBroken, .int y4, .ref aD_lengths, .ref aD_wanted, .int D_leaving, .ref aD_trackOf, .int D_parked, .int D_changes])), (aD_kinds, .inl (cI, 5, .inl (upd D_kinds D_units.toNatClampNeg x1))), (aD_washes, .inl (cI, 5, .inl (upd D_washes D_units.toNatClampNeg x2))), (aD_fuels, .inl (cI, 5, .inl (upd D_fuels D_units.toNatClampNeg x3)))] := hD
  refine lv_aload_n hx hb dX0_addUnit_40 rfl (lv_at hl 1 rfl) ?_
  refine lv_dup hx hb dX0_addUnit_41 rfl ?_
  refine va_get (D := D) (ci := 0) (v := .int D_changes) (C := RX0) (T := TX0) (N := 11) hx hb hts hinX0 hown hK hP 0 rfl rfl 10 (by decide) hf44 (fun _ h9 => h9) rfl dX0_addUnit_42 ?_
  refine lv_iconst (v := 1) hx hb dX0_addUnit_45 (by decide) ?_
  refine lv_iadd hx hb dX0_addUnit_46 ?_
  refine lv_topi (fun y5 ey5 => ?_)
  have hw := hw y5 ey5
  refine va_put (D := D) (ci := 0) (v := .int y5) (ty := .int) (C := RX0) (T := TX0) (N := 11) hx hb hts hinX0 tyX0 tyX0_ok nmX0 hown hK hP hD hS 0 rfl rfl 10 (by decide) hf44 (fun _ h9 => h9) rfl (by decide +kernel) rfl rfl (Nat.le_of_ble_eq_true rfl) dX0_addUnit_47 (fun H locs hP hD hS => ?_)
  have hP : va_P D vwCl [(aD, .inr (0, [.ref aD_kinds, .ref aD_washes, .ref aD_fuels, .ref aD_isBroken, .int y4, .ref aD_lengths, .ref aD_wanted, .int D_leaving, .ref aD_trackOf, .int D_parked, .int y5])), (aD_kinds, .inl (cI, 5, .inl (upd D_kinds D_units.toNatClampNeg x1))), (aD_washes, .inl (cI, 5, .inl (upd D_washes D_units.toNatClampNeg x2))), (aD_fuels, .inl (cI, 5, .inl (upd D_fuels D_units.toNatClampNeg x3)))] H := hP
  have hD : va_D A [(aD, .inr (0, [.ref aD_kinds, .ref aD_washes, .ref aD_fuels, .ref aD_isBroken, .int y4, .ref aD_lengths, .ref aD_wanted, .int D_leaving, .ref aD_trackOf, .int D_parked, .int y5])), (aD_kinds, .inl (cI, 5, .inl (upd D_kinds D_units.toNatClampNeg x1))), (aD_washes, .inl (cI, 5, .inl (upd D_washes D_units.toNatClampNeg x2))), (aD_fuels, .inl (cI, 5, .inl (upd D_fuels D_units.toNatClampNeg x3)))] := hD
  refine lv_iload hx hb dX0_addUnit_50 (lv_at hl 0 rfl) ?_
  exact hret D_units (upd D_kinds D_units.toNatClampNeg x1) (upd D_washes D_units.toNatClampNeg x2) (upd D_fuels D_units.toNatClampNeg x3) y4 y5 H locs 52 ls hw dX0_addUnit_52 hP hD hS 
/-! X0_setBroken -/
def wp_X0_setBroken (x1 : Int32) (x2 : Int32) (D_isBroken : Nat → Int32) (D_changes : Int32) (post : Int32 → (Nat → Int32) → Int32 → Prop) : Prop :=
  vp_in x1 5 ∧ (∀ y2 : Int32, y2 = (D_isBroken x1.toNatClampNeg) → (vp_in x1 5 ∧ (∀ y4 : Int32, y4 = (D_changes + 1) → (narrow .boolean (.int y2) = .int y2 ∧ (post y2 (upd D_isBroken x1.toNatClampNeg (vp_nar .boolean x2)) y4)))))
set_option maxHeartbeats 4000000 in
set_option maxRecDepth 100000 in
theorem c_X0_setBroken (l : Launch) (D : va_G) (cI cJ cZ : ClassId) (aD aD_kinds aD_washes aD_fuels aD_isBroken aD_lengths aD_wanted aD_trackOf : Nat) (sz : Nat) (D_units : Int32) (D_leaving : Int32) (D_parked : Int32) (D_changes : Int32) (D_isBroken : Nat → Int32) (x1 : Int32) (x2 : Int32) (post : Int32 → (Nat → Int32) → Int32 → Prop) (hw : wp_X0_setBroken x1 x2 D_isBroken D_changes post) : Met l yX0_setBroken wsX0_setBroken ({ frames := 0, cells := 0, slots := 0, locals := 0 } : Room) (va_Pc [.ref aD, .int x1, .int x2] (zPre D cI cJ cZ [(aD, .inr (0, [.ref aD_kinds, .ref aD_washes, .ref aD_fuels, .ref aD_isBroken, .int D_units, .ref aD_lengths, .ref aD_wanted, .int D_leaving, .ref aD_trackOf, .int D_parked, .int D_changes])), (aD_isBroken, .inl (cZ, 5, .inl D_isBroken))] sz)) (va_Qi (fun (r : Int32) (u : (Nat → Int32) × (Int32)) => post r u.1 u.2) (zPost D cI cJ cZ (va_A [(aD, .inr (0, [.ref aD_kinds, .ref aD_washes, .ref aD_fuels, .ref aD_isBroken, .int D_units, .ref aD_lengths, .ref aD_wanted, .int D_leaving, .ref aD_trackOf, .int D_parked, .int D_changes])), (aD_isBroken, .inl (cZ, 5, .inl D_isBroken))] sz) (fun u : (Nat → Int32) × (Int32) => [(aD, .inr (0, [.ref aD_kinds, .ref aD_washes, .ref aD_fuels, .ref aD_isBroken, .int D_units, .ref aD_lengths, .ref aD_wanted, .int D_leaving, .ref aD_trackOf, .int D_parked, .int u.2])), (aD_isBroken, .inl (cZ, 5, .inl u.1))])) (va_A [(aD, .inr (0, [.ref aD_kinds, .ref aD_washes, .ref aD_fuels, .ref aD_isBroken, .int D_units, .ref aD_lengths, .ref aD_wanted, .int D_leaving, .ref aD_trackOf, .int D_parked, .int D_changes])), (aD_isBroken, .inl (cZ, 5, .inl D_isBroken))] sz)) 0 0 (va_A [(aD, .inr (0, [.ref aD_kinds, .ref aD_washes, .ref aD_fuels, .ref aD_isBroken, .int D_units, .ref aD_lengths, .ref aD_wanted, .int D_leaving, .ref aD_trackOf, .int D_parked, .int D_changes])), (aD_isBroken, .inl (cZ, 5, .inl D_isBroken))] sz) := by
  unfold wp_X0_setBroken at hw
  refine Met.ofW (cc := cX0_setBroken) (maxL := 4) (ret := some .boolean) (by decide) rfl ?_
  intro p e s m args below meth c s₁ B hml hv
  obtain ⟨rfl, hsz, hP, hK, hD0⟩ := hv
  have hx := B.exec
  have hb := B.bytes
  have hr := B.returns
  have hts := atoms_spec (ws := wsX0_setBroken) B.pre
  have hown : s.vm.findClass RX0 = some m.cls := findClass_of_methodNamed B.named
  have hlocks := B.notSynchronized
  subst hsz
  have hD := hD0.self (sz := s.heap.size)
  generalize hAe : va_A [(aD, .inr (0, [.ref aD_kinds, .ref aD_washes, .ref aD_fuels, .ref aD_isBroken, .int D_units, .ref aD_lengths, .ref aD_wanted, .int D_leaving, .ref aD_trackOf, .int D_parked, .int D_changes])), (aD_isBroken, .inl (cZ, 5, .inl D_isBroken))] s.heap.size = A at hD ⊢
  have hA : ∀ q : Nat, s.heap.size ≤ q → A q := fun q h => by rw [← hAe]; exact Or.inr h
  have hS : va_S A s.heap s.heap [] := va_S.rf
  refine (fun (hall : ∀ Q0 : State → Prop, (∀ (r : Int32) (v0 : Nat → Int32) (v1 : Int32) (H : Heap) (locs : List Loc) (pc : Nat) (ls : Array Slot), post r v0 v1 → decode cX0_setBroken pc = .ok (.ireturn, 1) → va_P D vwCl [(aD, .inr (0, [.ref aD_kinds, .ref aD_washes, .ref aD_fuels, .ref aD_isBroken, .int D_units, .ref aD_lengths, .ref aD_wanted, .int D_leaving, .ref aD_trackOf, .int D_parked, .int v1])), (aD_isBroken, .inl (cZ, 5, .inl v0))] H → va_D A [(aD, .inr (0, [.ref aD_kinds, .ref aD_washes, .ref aD_fuels, .ref aD_isBroken, .int D_units, .ref aD_lengths, .ref aD_wanted, .int D_leaving, .ref aD_trackOf, .int D_parked, .int v1])), (aD_isBroken, .inl (cZ, 5, .inl v0))] → va_S A s.heap H locs → narrow .boolean (.int r) = .int r → W p l e ({ frames := 0, cells := 0, slots := 0, locals := 0 } : Room) s m ([.ref aD, .int x1, .int x2] : List Value).toArray below meth c H locs 0 0 Q0 (F0 m pc ls [.int r])) → W p l e ({ frames := 0, cells := 0, slots := 0, locals := 0 } : Room) s m ([.ref aD, .int x1, .int x2] : List Value).toArray below meth c s.heap [] 0 0 Q0 (entryFrame m ([.ref aD, .int x1, .int x2] : List Value).toArray 4)) => hall _ (fun r v0 v1 H locs pc ls hw hd hP hD hS hnr => W.zret (v := r) hx hb hr hnr (fun t ht hW => ⟨⟨r, (v0, v1), rfl, hw, by rw [ht]; exact hP, va_K.moved hW.alike hK, hD⟩, hS.F ht⟩) hS.2.2 hd)) ?_
  intro Q0 hret
  have hl := lv_entry ([.ref aD, .int x1, .int x2]) (n := 4) (Nat.le_of_ble_eq_true rfl)
  rw [lg_entry_eq]
  generalize (lg_sl ([.ref aD, .int x1, .int x2]) ++ List.replicate (4 - (lg_sl ([.ref aD, .int x1, .int x2])).length) Slot.unset).toArray = ls at hl ⊢
  have hl : lv_has ls 4 [(0, .ref aD), (1, .int x1), (2, .int x2)] := hl
  have hinX0 : ∀ w ∈ u_ws RX0 TX0 11, w ∈ wsX0_setBroken := by decide +kernel
  have hf21 := hts (.fieldLink RX0 21 "DepotNight$Depot" "isBroken" "[Z") (by decide +kernel)
  have hf44 := hts (.fieldLink RX0 44 "DepotNight$Depot" "changes" "I") (by decide +kernel)
  obtain ⟨H, hHe⟩ : ∃ H, H = s.heap := ⟨_, rfl⟩
  obtain ⟨locs, hLo⟩ : ∃ locs : List Loc, locs = [] := ⟨_, rfl⟩
  have hS : va_S A s.heap H locs := by rw [hHe, hLo]; exact hS
  have hP : va_P D vwCl [(aD, .inr (0, [.ref aD_kinds, .ref aD_washes, .ref aD_fuels, .ref aD_isBroken, .int D_units, .ref aD_lengths, .ref aD_wanted, .int D_leaving, .ref aD_trackOf, .int D_parked, .int D_changes])), (aD_isBroken, .inl (cZ, 5, .inl D_isBroken))] H := by rw [hHe]; exact hP
  refine (fun (hgo : W p l e ({ frames := 0, cells := 0, slots := 0, locals := 0 } : Room) s m ([.ref aD, .int x1, .int x2] : List Value).toArray below meth c H locs 0 0 Q0 (F0 m 0 ls [])) => by rw [hHe, hLo] at hgo; exact hgo) ?_
  refine lv_aload_n hx hb dX0_setBroken_0 rfl (lv_at hl 0 rfl) ?_
  refine va_get (D := D) (ci := 0) (v := .ref aD_isBroken) (C := RX0) (T := TX0) (N := 11) hx hb hts hinX0 hown hK hP 0 rfl rfl 3 (by decide) hf21 (fun _ h9 => h9) rfl dX0_setBroken_1 ?_
  refine lv_iload_n hx hb dX0_setBroken_4 rfl (lv_at hl 1 rfl) ?_
  obtain ⟨hb1, hw⟩ := hw
  refine va_zald hx hb hK hP 1 2 rfl rfl hb1 dX0_setBroken_5 ?_
  refine lv_topi (fun y2 ey2 => ?_)
  have hw := hw y2 ey2
  refine lv_istore_n (lv' := [(3, .int y2), (0, .ref aD), (1, .int x1), (2, .int x2)]) hx hb dX0_setBroken_6 rfl hl (by decide) rfl (fun ls hl => ?_)
  refine lv_aload_n hx hb dX0_setBroken_7 rfl (lv_at hl 1 rfl) ?_
  refine va_get (D := D) (ci := 0) (v := .ref aD_isBroken) (C := RX0) (T := TX0) (N := 11) hx hb hts hinX0 hown hK hP 0 rfl rfl 3 (by decide) hf21 (fun _ h9 => h9) rfl dX0_setBroken_8 ?_
  refine lv_iload_n hx hb dX0_setBroken_11 rfl (lv_at hl 2 rfl) ?_
  refine lv_iload_n hx hb dX0_setBroken_12 rfl (lv_at hl 3 rfl) ?_
  obtain ⟨hb3, hw⟩ := hw
  refine va_zast hx hb hK hP hD hS 1 2 rfl rfl hb3 dX0_setBroken_13 (fun H locs hP hD hS => ?_)
  have hP : va_P D vwCl [(aD, .inr (0, [.ref aD_kinds, .ref aD_washes, .ref aD_fuels, .ref aD_isBroken, .int D_units, .ref aD_lengths, .ref aD_wanted, .int D_leaving, .ref aD_trackOf, .int D_parked, .int D_changes])), (aD_isBroken, .inl (cZ, 5, .inl (upd D_isBroken x1.toNatClampNeg (vp_nar .boolean x2))))] H := hP
  have hD : va_D A [(aD, .inr (0, [.ref aD_kinds, .ref aD_washes, .ref aD_fuels, .ref aD_isBroken, .int D_units, .ref aD_lengths, .ref aD_wanted, .int D_leaving, .ref aD_trackOf, .int D_parked, .int D_changes])), (aD_isBroken, .inl (cZ, 5, .inl (upd D_isBroken x1.toNatClampNeg (vp_nar .boolean x2))))] := hD
  refine lv_aload_n hx hb dX0_setBroken_14 rfl (lv_at hl 1 rfl) ?_
  refine lv_dup hx hb dX0_setBroken_15 rfl ?_
  refine va_get (D := D) (ci := 0) (v := .int D_changes) (C := RX0) (T := TX0) (N := 11) hx hb hts hinX0 hown hK hP 0 rfl rfl 10 (by decide) hf44 (fun _ h9 => h9) rfl dX0_setBroken_16 ?_
  refine lv_iconst (v := 1) hx hb dX0_setBroken_19 (by decide) ?_
  refine lv_iadd hx hb dX0_setBroken_20 ?_
  refine lv_topi (fun y4 ey4 => ?_)
  have hw := hw y4 ey4
  refine va_put (D := D) (ci := 0) (v := .int y4) (ty := .int) (C := RX0) (T := TX0) (N := 11) hx hb hts hinX0 tyX0 tyX0_ok nmX0 hown hK hP hD hS 0 rfl rfl 10 (by decide) hf44 (fun _ h9 => h9) rfl (by decide +kernel) rfl rfl (Nat.le_of_ble_eq_true rfl) dX0_setBroken_21 (fun H locs hP hD hS => ?_)
  have hP : va_P D vwCl [(aD, .inr (0, [.ref aD_kinds, .ref aD_washes, .ref aD_fuels, .ref aD_isBroken, .int D_units, .ref aD_lengths, .ref aD_wanted, .int D_leaving, .ref aD_trackOf, .int D_parked, .int y4])), (aD_isBroken, .inl (cZ, 5, .inl (upd D_isBroken x1.toNatClampNeg (vp_nar .boolean x2))))] H := hP
  have hD : va_D A [(aD, .inr (0, [.ref aD_kinds, .ref aD_washes, .ref aD_fuels, .ref aD_isBroken, .int D_units, .ref aD_lengths, .ref aD_wanted, .int D_leaving, .ref aD_trackOf, .int D_parked, .int y4])), (aD_isBroken, .inl (cZ, 5, .inl (upd D_isBroken x1.toNatClampNeg (vp_nar .boolean x2))))] := hD
  refine lv_iload_n hx hb dX0_setBroken_24 rfl (lv_at hl 0 rfl) ?_
  obtain ⟨hnr, hw⟩ := hw
  exact hret y2 (upd D_isBroken x1.toNatClampNeg (vp_nar .boolean x2)) y4 H locs 25 ls hw dX0_setBroken_25 hP hD hS hnr
/-! X0_setLength -/
def wp_X0_setLength (x1 : Int32) (x2 : Int32) (D_lengths : Nat → Int32) (D_changes : Int32) (post : Int32 → (Nat → Int32) → Int32 → Prop) : Prop :=
  vp_in x1 3 ∧ (∀ y2 : Int32, y2 = (D_lengths x1.toNatClampNeg) → (vp_in x1 3 ∧ (∀ y4 : Int32, y4 = (D_changes + 1) → (post y2 (upd D_lengths x1.toNatClampNeg x2) y4))))
set_option maxHeartbeats 4000000 in
set_option maxRecDepth 100000 in
theorem c_X0_setLength (l : Launch) (D : va_G) (cI cJ cZ : ClassId) (aD aD_kinds aD_washes aD_fuels aD_isBroken aD_lengths aD_wanted aD_trackOf : Nat) (sz : Nat) (D_units : Int32) (D_leaving : Int32) (D_parked : Int32) (D_changes : Int32) (D_lengths : Nat → Int32) (x1 : Int32) (x2 : Int32) (post : Int32 → (Nat → Int32) → Int32 → Prop) (hw : wp_X0_setLength x1 x2 D_lengths D_changes post) : Met l yX0_setLength wsX0_setLength ({ frames := 0, cells := 0, slots := 0, locals := 0 } : Room) (va_Pc [.ref aD, .int x1, .int x2] (zPre D cI cJ cZ [(aD, .inr (0, [.ref aD_kinds, .ref aD_washes, .ref aD_fuels, .ref aD_isBroken, .int D_units, .ref aD_lengths, .ref aD_wanted, .int D_leaving, .ref aD_trackOf, .int D_parked, .int D_changes])), (aD_lengths, .inl (cI, 3, .inl D_lengths))] sz)) (va_Qi (fun (r : Int32) (u : (Nat → Int32) × (Int32)) => post r u.1 u.2) (zPost D cI cJ cZ (va_A [(aD, .inr (0, [.ref aD_kinds, .ref aD_washes, .ref aD_fuels, .ref aD_isBroken, .int D_units, .ref aD_lengths, .ref aD_wanted, .int D_leaving, .ref aD_trackOf, .int D_parked, .int D_changes])), (aD_lengths, .inl (cI, 3, .inl D_lengths))] sz) (fun u : (Nat → Int32) × (Int32) => [(aD, .inr (0, [.ref aD_kinds, .ref aD_washes, .ref aD_fuels, .ref aD_isBroken, .int D_units, .ref aD_lengths, .ref aD_wanted, .int D_leaving, .ref aD_trackOf, .int D_parked, .int u.2])), (aD_lengths, .inl (cI, 3, .inl u.1))])) (va_A [(aD, .inr (0, [.ref aD_kinds, .ref aD_washes, .ref aD_fuels, .ref aD_isBroken, .int D_units, .ref aD_lengths, .ref aD_wanted, .int D_leaving, .ref aD_trackOf, .int D_parked, .int D_changes])), (aD_lengths, .inl (cI, 3, .inl D_lengths))] sz)) 0 0 (va_A [(aD, .inr (0, [.ref aD_kinds, .ref aD_washes, .ref aD_fuels, .ref aD_isBroken, .int D_units, .ref aD_lengths, .ref aD_wanted, .int D_leaving, .ref aD_trackOf, .int D_parked, .int D_changes])), (aD_lengths, .inl (cI, 3, .inl D_lengths))] sz) := by
  unfold wp_X0_setLength at hw
  refine Met.ofW (cc := cX0_setLength) (maxL := 4) (ret := some .int) (by decide) rfl ?_
  intro p e s m args below meth c s₁ B hml hv
  obtain ⟨rfl, hsz, hP, hK, hD0⟩ := hv
  have hx := B.exec
  have hb := B.bytes
  have hr := B.returns
  have hts := atoms_spec (ws := wsX0_setLength) B.pre
  have hown : s.vm.findClass RX0 = some m.cls := findClass_of_methodNamed B.named
  have hlocks := B.notSynchronized
  subst hsz
  have hD := hD0.self (sz := s.heap.size)
  generalize hAe : va_A [(aD, .inr (0, [.ref aD_kinds, .ref aD_washes, .ref aD_fuels, .ref aD_isBroken, .int D_units, .ref aD_lengths, .ref aD_wanted, .int D_leaving, .ref aD_trackOf, .int D_parked, .int D_changes])), (aD_lengths, .inl (cI, 3, .inl D_lengths))] s.heap.size = A at hD ⊢
  have hA : ∀ q : Nat, s.heap.size ≤ q → A q := fun q h => by rw [← hAe]; exact Or.inr h
  have hS : va_S A s.heap s.heap [] := va_S.rf
  refine (fun (hall : ∀ Q0 : State → Prop, (∀ (r : Int32) (v0 : Nat → Int32) (v1 : Int32) (H : Heap) (locs : List Loc) (pc : Nat) (ls : Array Slot), post r v0 v1 → decode cX0_setLength pc = .ok (.ireturn, 1) → va_P D vwCl [(aD, .inr (0, [.ref aD_kinds, .ref aD_washes, .ref aD_fuels, .ref aD_isBroken, .int D_units, .ref aD_lengths, .ref aD_wanted, .int D_leaving, .ref aD_trackOf, .int D_parked, .int v1])), (aD_lengths, .inl (cI, 3, .inl v0))] H → va_D A [(aD, .inr (0, [.ref aD_kinds, .ref aD_washes, .ref aD_fuels, .ref aD_isBroken, .int D_units, .ref aD_lengths, .ref aD_wanted, .int D_leaving, .ref aD_trackOf, .int D_parked, .int v1])), (aD_lengths, .inl (cI, 3, .inl v0))] → va_S A s.heap H locs → W p l e ({ frames := 0, cells := 0, slots := 0, locals := 0 } : Room) s m ([.ref aD, .int x1, .int x2] : List Value).toArray below meth c H locs 0 0 Q0 (F0 m pc ls [.int r])) → W p l e ({ frames := 0, cells := 0, slots := 0, locals := 0 } : Room) s m ([.ref aD, .int x1, .int x2] : List Value).toArray below meth c s.heap [] 0 0 Q0 (entryFrame m ([.ref aD, .int x1, .int x2] : List Value).toArray 4)) => hall _ (fun r v0 v1 H locs pc ls hw hd hP hD hS => W.iret (v := r) hx hb hr (fun t ht hW => ⟨⟨r, (v0, v1), rfl, hw, by rw [ht]; exact hP, va_K.moved hW.alike hK, hD⟩, hS.F ht⟩) hS.2.2 hd)) ?_
  intro Q0 hret
  have hl := lv_entry ([.ref aD, .int x1, .int x2]) (n := 4) (Nat.le_of_ble_eq_true rfl)
  rw [lg_entry_eq]
  generalize (lg_sl ([.ref aD, .int x1, .int x2]) ++ List.replicate (4 - (lg_sl ([.ref aD, .int x1, .int x2])).length) Slot.unset).toArray = ls at hl ⊢
  have hl : lv_has ls 4 [(0, .ref aD), (1, .int x1), (2, .int x2)] := hl
  have hinX0 : ∀ w ∈ u_ws RX0 TX0 11, w ∈ wsX0_setLength := by decide +kernel
  have hf29 := hts (.fieldLink RX0 29 "DepotNight$Depot" "lengths" "[I") (by decide +kernel)
  have hf44 := hts (.fieldLink RX0 44 "DepotNight$Depot" "changes" "I") (by decide +kernel)
  obtain ⟨H, hHe⟩ : ∃ H, H = s.heap := ⟨_, rfl⟩
  obtain ⟨locs, hLo⟩ : ∃ locs : List Loc, locs = [] := ⟨_, rfl⟩
  have hS : va_S A s.heap H locs := by rw [hHe, hLo]; exact hS
  have hP : va_P D vwCl [(aD, .inr (0, [.ref aD_kinds, .ref aD_washes, .ref aD_fuels, .ref aD_isBroken, .int D_units, .ref aD_lengths, .ref aD_wanted, .int D_leaving, .ref aD_trackOf, .int D_parked, .int D_changes])), (aD_lengths, .inl (cI, 3, .inl D_lengths))] H := by rw [hHe]; exact hP
  refine (fun (hgo : W p l e ({ frames := 0, cells := 0, slots := 0, locals := 0 } : Room) s m ([.ref aD, .int x1, .int x2] : List Value).toArray below meth c H locs 0 0 Q0 (F0 m 0 ls [])) => by rw [hHe, hLo] at hgo; exact hgo) ?_
  refine lv_aload_n hx hb dX0_setLength_0 rfl (lv_at hl 0 rfl) ?_
  refine va_get (D := D) (ci := 0) (v := .ref aD_lengths) (C := RX0) (T := TX0) (N := 11) hx hb hts hinX0 hown hK hP 0 rfl rfl 5 (by decide) hf29 (fun _ h9 => h9) rfl dX0_setLength_1 ?_
  refine lv_iload_n hx hb dX0_setLength_4 rfl (lv_at hl 1 rfl) ?_
  obtain ⟨hb1, hw⟩ := hw
  refine va_iald hx hb hK hP 1 0 rfl rfl hb1 dX0_setLength_5 ?_
  refine lv_topi (fun y2 ey2 => ?_)
  have hw := hw y2 ey2
  refine lv_istore_n (lv' := [(3, .int y2), (0, .ref aD), (1, .int x1), (2, .int x2)]) hx hb dX0_setLength_6 rfl hl (by decide) rfl (fun ls hl => ?_)
  refine lv_aload_n hx hb dX0_setLength_7 rfl (lv_at hl 1 rfl) ?_
  refine va_get (D := D) (ci := 0) (v := .ref aD_lengths) (C := RX0) (T := TX0) (N := 11) hx hb hts hinX0 hown hK hP 0 rfl rfl 5 (by decide) hf29 (fun _ h9 => h9) rfl dX0_setLength_8 ?_
  refine lv_iload_n hx hb dX0_setLength_11 rfl (lv_at hl 2 rfl) ?_
  refine lv_iload_n hx hb dX0_setLength_12 rfl (lv_at hl 3 rfl) ?_
  obtain ⟨hb3, hw⟩ := hw
  refine va_iast hx hb hK hP hD hS 1 0 rfl rfl hb3 dX0_setLength_13 (fun H locs hP hD hS => ?_)
  have hP : va_P D vwCl [(aD, .inr (0, [.ref aD_kinds, .ref aD_washes, .ref aD_fuels, .ref aD_isBroken, .int D_units, .ref aD_lengths, .ref aD_wanted, .int D_leaving, .ref aD_trackOf, .int D_parked, .int D_changes])), (aD_lengths, .inl (cI, 3, .inl (upd D_lengths x1.toNatClampNeg x2)))] H := hP
  have hD : va_D A [(aD, .inr (0, [.ref aD_kinds, .ref aD_washes, .ref aD_fuels, .ref aD_isBroken, .int D_units, .ref aD_lengths, .ref aD_wanted, .int D_leaving, .ref aD_trackOf, .int D_parked, .int D_changes])), (aD_lengths, .inl (cI, 3, .inl (upd D_lengths x1.toNatClampNeg x2)))] := hD
  refine lv_aload_n hx hb dX0_setLength_14 rfl (lv_at hl 1 rfl) ?_
  refine lv_dup hx hb dX0_setLength_15 rfl ?_
  refine va_get (D := D) (ci := 0) (v := .int D_changes) (C := RX0) (T := TX0) (N := 11) hx hb hts hinX0 hown hK hP 0 rfl rfl 10 (by decide) hf44 (fun _ h9 => h9) rfl dX0_setLength_16 ?_
  refine lv_iconst (v := 1) hx hb dX0_setLength_19 (by decide) ?_
  refine lv_iadd hx hb dX0_setLength_20 ?_
  refine lv_topi (fun y4 ey4 => ?_)
  have hw := hw y4 ey4
  refine va_put (D := D) (ci := 0) (v := .int y4) (ty := .int) (C := RX0) (T := TX0) (N := 11) hx hb hts hinX0 tyX0 tyX0_ok nmX0 hown hK hP hD hS 0 rfl rfl 10 (by decide) hf44 (fun _ h9 => h9) rfl (by decide +kernel) rfl rfl (Nat.le_of_ble_eq_true rfl) dX0_setLength_21 (fun H locs hP hD hS => ?_)
  have hP : va_P D vwCl [(aD, .inr (0, [.ref aD_kinds, .ref aD_washes, .ref aD_fuels, .ref aD_isBroken, .int D_units, .ref aD_lengths, .ref aD_wanted, .int D_leaving, .ref aD_trackOf, .int D_parked, .int y4])), (aD_lengths, .inl (cI, 3, .inl (upd D_lengths x1.toNatClampNeg x2)))] H := hP
  have hD : va_D A [(aD, .inr (0, [.ref aD_kinds, .ref aD_washes, .ref aD_fuels, .ref aD_isBroken, .int D_units, .ref aD_lengths, .ref aD_wanted, .int D_leaving, .ref aD_trackOf, .int D_parked, .int y4])), (aD_lengths, .inl (cI, 3, .inl (upd D_lengths x1.toNatClampNeg x2)))] := hD
  refine lv_iload_n hx hb dX0_setLength_24 rfl (lv_at hl 0 rfl) ?_
  exact hret y2 (upd D_lengths x1.toNatClampNeg x2) y4 H locs 25 ls hw dX0_setLength_25 hP hD hS 
/-! X0_addWanted -/
def wp_X0_addWanted (x1 : Int32) (D_wanted : Nat → Int32) (D_leaving : Int32) (D_changes : Int32) (post : Int32 → (Nat → Int32) → Int32 → Int32 → Prop) : Prop :=
  vp_in D_leaving 5 ∧ (∀ y2 : Int32, y2 = (D_leaving + 1) → (∀ y3 : Int32, y3 = (D_changes + 1) → (post y2 (upd D_wanted D_leaving.toNatClampNeg x1) y2 y3)))
set_option maxHeartbeats 4000000 in
set_option maxRecDepth 100000 in
theorem c_X0_addWanted (l : Launch) (D : va_G) (cI cJ cZ : ClassId) (aD aD_kinds aD_washes aD_fuels aD_isBroken aD_lengths aD_wanted aD_trackOf : Nat) (sz : Nat) (D_units : Int32) (D_leaving : Int32) (D_parked : Int32) (D_changes : Int32) (D_wanted : Nat → Int32) (x1 : Int32) (post : Int32 → (Nat → Int32) → Int32 → Int32 → Prop) (hw : wp_X0_addWanted x1 D_wanted D_leaving D_changes post) : Met l yX0_addWanted wsX0_addWanted ({ frames := 0, cells := 0, slots := 0, locals := 0 } : Room) (va_Pc [.ref aD, .int x1] (zPre D cI cJ cZ [(aD, .inr (0, [.ref aD_kinds, .ref aD_washes, .ref aD_fuels, .ref aD_isBroken, .int D_units, .ref aD_lengths, .ref aD_wanted, .int D_leaving, .ref aD_trackOf, .int D_parked, .int D_changes])), (aD_wanted, .inl (cI, 5, .inl D_wanted))] sz)) (va_Qi (fun (r : Int32) (u : (Nat → Int32) × (Int32) × (Int32)) => post r u.1 u.2.1 u.2.2) (zPost D cI cJ cZ (va_A [(aD, .inr (0, [.ref aD_kinds, .ref aD_washes, .ref aD_fuels, .ref aD_isBroken, .int D_units, .ref aD_lengths, .ref aD_wanted, .int D_leaving, .ref aD_trackOf, .int D_parked, .int D_changes])), (aD_wanted, .inl (cI, 5, .inl D_wanted))] sz) (fun u : (Nat → Int32) × (Int32) × (Int32) => [(aD, .inr (0, [.ref aD_kinds, .ref aD_washes, .ref aD_fuels, .ref aD_isBroken, .int D_units, .ref aD_lengths, .ref aD_wanted, .int u.2.1, .ref aD_trackOf, .int D_parked, .int u.2.2])), (aD_wanted, .inl (cI, 5, .inl u.1))])) (va_A [(aD, .inr (0, [.ref aD_kinds, .ref aD_washes, .ref aD_fuels, .ref aD_isBroken, .int D_units, .ref aD_lengths, .ref aD_wanted, .int D_leaving, .ref aD_trackOf, .int D_parked, .int D_changes])), (aD_wanted, .inl (cI, 5, .inl D_wanted))] sz)) 0 0 (va_A [(aD, .inr (0, [.ref aD_kinds, .ref aD_washes, .ref aD_fuels, .ref aD_isBroken, .int D_units, .ref aD_lengths, .ref aD_wanted, .int D_leaving, .ref aD_trackOf, .int D_parked, .int D_changes])), (aD_wanted, .inl (cI, 5, .inl D_wanted))] sz) := by
  unfold wp_X0_addWanted at hw
  refine Met.ofW (cc := cX0_addWanted) (maxL := 2) (ret := some .int) (by decide) rfl ?_
  intro p e s m args below meth c s₁ B hml hv
  obtain ⟨rfl, hsz, hP, hK, hD0⟩ := hv
  have hx := B.exec
  have hb := B.bytes
  have hr := B.returns
  have hts := atoms_spec (ws := wsX0_addWanted) B.pre
  have hown : s.vm.findClass RX0 = some m.cls := findClass_of_methodNamed B.named
  have hlocks := B.notSynchronized
  subst hsz
  have hD := hD0.self (sz := s.heap.size)
  generalize hAe : va_A [(aD, .inr (0, [.ref aD_kinds, .ref aD_washes, .ref aD_fuels, .ref aD_isBroken, .int D_units, .ref aD_lengths, .ref aD_wanted, .int D_leaving, .ref aD_trackOf, .int D_parked, .int D_changes])), (aD_wanted, .inl (cI, 5, .inl D_wanted))] s.heap.size = A at hD ⊢
  have hA : ∀ q : Nat, s.heap.size ≤ q → A q := fun q h => by rw [← hAe]; exact Or.inr h
  have hS : va_S A s.heap s.heap [] := va_S.rf
  refine (fun (hall : ∀ Q0 : State → Prop, (∀ (r : Int32) (v0 : Nat → Int32) (v1 : Int32) (v2 : Int32) (H : Heap) (locs : List Loc) (pc : Nat) (ls : Array Slot), post r v0 v1 v2 → decode cX0_addWanted pc = .ok (.ireturn, 1) → va_P D vwCl [(aD, .inr (0, [.ref aD_kinds, .ref aD_washes, .ref aD_fuels, .ref aD_isBroken, .int D_units, .ref aD_lengths, .ref aD_wanted, .int v1, .ref aD_trackOf, .int D_parked, .int v2])), (aD_wanted, .inl (cI, 5, .inl v0))] H → va_D A [(aD, .inr (0, [.ref aD_kinds, .ref aD_washes, .ref aD_fuels, .ref aD_isBroken, .int D_units, .ref aD_lengths, .ref aD_wanted, .int v1, .ref aD_trackOf, .int D_parked, .int v2])), (aD_wanted, .inl (cI, 5, .inl v0))] → va_S A s.heap H locs → W p l e ({ frames := 0, cells := 0, slots := 0, locals := 0 } : Room) s m ([.ref aD, .int x1] : List Value).toArray below meth c H locs 0 0 Q0 (F0 m pc ls [.int r])) → W p l e ({ frames := 0, cells := 0, slots := 0, locals := 0 } : Room) s m ([.ref aD, .int x1] : List Value).toArray below meth c s.heap [] 0 0 Q0 (entryFrame m ([.ref aD, .int x1] : List Value).toArray 2)) => hall _ (fun r v0 v1 v2 H locs pc ls hw hd hP hD hS => W.iret (v := r) hx hb hr (fun t ht hW => ⟨⟨r, (v0, v1, v2), rfl, hw, by rw [ht]; exact hP, va_K.moved hW.alike hK, hD⟩, hS.F ht⟩) hS.2.2 hd)) ?_
  intro Q0 hret
  have hl := lv_entry ([.ref aD, .int x1]) (n := 2) (Nat.le_of_ble_eq_true rfl)
  rw [lg_entry_eq]
  generalize (lg_sl ([.ref aD, .int x1]) ++ List.replicate (2 - (lg_sl ([.ref aD, .int x1])).length) Slot.unset).toArray = ls at hl ⊢
  have hl : lv_has ls 2 [(0, .ref aD), (1, .int x1)] := hl
  have hinX0 : ∀ w ∈ u_ws RX0 TX0 11, w ∈ wsX0_addWanted := by decide +kernel
  have hf32 := hts (.fieldLink RX0 32 "DepotNight$Depot" "wanted" "[I") (by decide +kernel)
  have hf35 := hts (.fieldLink RX0 35 "DepotNight$Depot" "leaving" "I") (by decide +kernel)
  have hf44 := hts (.fieldLink RX0 44 "DepotNight$Depot" "changes" "I") (by decide +kernel)
  obtain ⟨H, hHe⟩ : ∃ H, H = s.heap := ⟨_, rfl⟩
  obtain ⟨locs, hLo⟩ : ∃ locs : List Loc, locs = [] := ⟨_, rfl⟩
  have hS : va_S A s.heap H locs := by rw [hHe, hLo]; exact hS
  have hP : va_P D vwCl [(aD, .inr (0, [.ref aD_kinds, .ref aD_washes, .ref aD_fuels, .ref aD_isBroken, .int D_units, .ref aD_lengths, .ref aD_wanted, .int D_leaving, .ref aD_trackOf, .int D_parked, .int D_changes])), (aD_wanted, .inl (cI, 5, .inl D_wanted))] H := by rw [hHe]; exact hP
  refine (fun (hgo : W p l e ({ frames := 0, cells := 0, slots := 0, locals := 0 } : Room) s m ([.ref aD, .int x1] : List Value).toArray below meth c H locs 0 0 Q0 (F0 m 0 ls [])) => by rw [hHe, hLo] at hgo; exact hgo) ?_
  refine lv_aload_n hx hb dX0_addWanted_0 rfl (lv_at hl 0 rfl) ?_
  refine va_get (D := D) (ci := 0) (v := .ref aD_wanted) (C := RX0) (T := TX0) (N := 11) hx hb hts hinX0 hown hK hP 0 rfl rfl 6 (by decide) hf32 (fun _ h9 => h9) rfl dX0_addWanted_1 ?_
  refine lv_aload_n hx hb dX0_addWanted_4 rfl (lv_at hl 0 rfl) ?_
  refine va_get (D := D) (ci := 0) (v := .int D_leaving) (C := RX0) (T := TX0) (N := 11) hx hb hts hinX0 hown hK hP 0 rfl rfl 7 (by decide) hf35 (fun _ h9 => h9) rfl dX0_addWanted_5 ?_
  refine lv_iload_n hx hb dX0_addWanted_8 rfl (lv_at hl 1 rfl) ?_
  obtain ⟨hb1, hw⟩ := hw
  refine va_iast hx hb hK hP hD hS 1 0 rfl rfl hb1 dX0_addWanted_9 (fun H locs hP hD hS => ?_)
  have hP : va_P D vwCl [(aD, .inr (0, [.ref aD_kinds, .ref aD_washes, .ref aD_fuels, .ref aD_isBroken, .int D_units, .ref aD_lengths, .ref aD_wanted, .int D_leaving, .ref aD_trackOf, .int D_parked, .int D_changes])), (aD_wanted, .inl (cI, 5, .inl (upd D_wanted D_leaving.toNatClampNeg x1)))] H := hP
  have hD : va_D A [(aD, .inr (0, [.ref aD_kinds, .ref aD_washes, .ref aD_fuels, .ref aD_isBroken, .int D_units, .ref aD_lengths, .ref aD_wanted, .int D_leaving, .ref aD_trackOf, .int D_parked, .int D_changes])), (aD_wanted, .inl (cI, 5, .inl (upd D_wanted D_leaving.toNatClampNeg x1)))] := hD
  refine lv_aload_n hx hb dX0_addWanted_10 rfl (lv_at hl 0 rfl) ?_
  refine lv_dup hx hb dX0_addWanted_11 rfl ?_
  refine va_get (D := D) (ci := 0) (v := .int D_leaving) (C := RX0) (T := TX0) (N := 11) hx hb hts hinX0 hown hK hP 0 rfl rfl 7 (by decide) hf35 (fun _ h9 => h9) rfl dX0_addWanted_12 ?_
  refine lv_iconst (v := 1) hx hb dX0_addWanted_15 (by decide) ?_
  refine lv_iadd hx hb dX0_addWanted_16 ?_
  refine lv_topi (fun y2 ey2 => ?_)
  have hw := hw y2 ey2
  refine va_put (D := D) (ci := 0) (v := .int y2) (ty := .int) (C := RX0) (T := TX0) (N := 11) hx hb hts hinX0 tyX0 tyX0_ok nmX0 hown hK hP hD hS 0 rfl rfl 7 (by decide) hf35 (fun _ h9 => h9) rfl (by decide +kernel) rfl rfl (Nat.le_of_ble_eq_true rfl) dX0_addWanted_17 (fun H locs hP hD hS => ?_)
  have hP : va_P D vwCl [(aD, .inr (0, [.ref aD_kinds, .ref aD_washes, .ref aD_fuels, .ref aD_isBroken, .int D_units, .ref aD_lengths, .ref aD_wanted, .int y2, .ref aD_trackOf, .int D_parked, .int D_changes])), (aD_wanted, .inl (cI, 5, .inl (upd D_wanted D_leaving.toNatClampNeg x1)))] H := hP
  have hD : va_D A [(aD, .inr (0, [.ref aD_kinds, .ref aD_washes, .ref aD_fuels, .ref aD_isBroken, .int D_units, .ref aD_lengths, .ref aD_wanted, .int y2, .ref aD_trackOf, .int D_parked, .int D_changes])), (aD_wanted, .inl (cI, 5, .inl (upd D_wanted D_leaving.toNatClampNeg x1)))] := hD
  refine lv_aload_n hx hb dX0_addWanted_20 rfl (lv_at hl 0 rfl) ?_
  refine lv_dup hx hb dX0_addWanted_21 rfl ?_
  refine va_get (D := D) (ci := 0) (v := .int D_changes) (C := RX0) (T := TX0) (N := 11) hx hb hts hinX0 hown hK hP 0 rfl rfl 10 (by decide) hf44 (fun _ h9 => h9) rfl dX0_addWanted_22 ?_
  refine lv_iconst (v := 1) hx hb dX0_addWanted_25 (by decide) ?_
  refine lv_iadd hx hb dX0_addWanted_26 ?_
  refine lv_topi (fun y3 ey3 => ?_)
  have hw := hw y3 ey3
  refine va_put (D := D) (ci := 0) (v := .int y3) (ty := .int) (C := RX0) (T := TX0) (N := 11) hx hb hts hinX0 tyX0 tyX0_ok nmX0 hown hK hP hD hS 0 rfl rfl 10 (by decide) hf44 (fun _ h9 => h9) rfl (by decide +kernel) rfl rfl (Nat.le_of_ble_eq_true rfl) dX0_addWanted_27 (fun H locs hP hD hS => ?_)
  have hP : va_P D vwCl [(aD, .inr (0, [.ref aD_kinds, .ref aD_washes, .ref aD_fuels, .ref aD_isBroken, .int D_units, .ref aD_lengths, .ref aD_wanted, .int y2, .ref aD_trackOf, .int D_parked, .int y3])), (aD_wanted, .inl (cI, 5, .inl (upd D_wanted D_leaving.toNatClampNeg x1)))] H := hP
  have hD : va_D A [(aD, .inr (0, [.ref aD_kinds, .ref aD_washes, .ref aD_fuels, .ref aD_isBroken, .int D_units, .ref aD_lengths, .ref aD_wanted, .int y2, .ref aD_trackOf, .int D_parked, .int y3])), (aD_wanted, .inl (cI, 5, .inl (upd D_wanted D_leaving.toNatClampNeg x1)))] := hD
  refine lv_aload_n hx hb dX0_addWanted_30 rfl (lv_at hl 0 rfl) ?_
  refine va_get (D := D) (ci := 0) (v := .int y2) (C := RX0) (T := TX0) (N := 11) hx hb hts hinX0 hown hK hP 0 rfl rfl 7 (by decide) hf35 (fun _ h9 => h9) rfl dX0_addWanted_31 ?_
  exact hret y2 (upd D_wanted D_leaving.toNatClampNeg x1) y2 y3 H locs 34 ls hw dX0_addWanted_34 hP hD hS 
/-! X0_dropWanted -/
def wp_X0_dropWanted (D_leaving : Int32) (D_changes : Int32) (post : Int32 → Int32 → Int32 → Prop) : Prop :=
  ∀ y1 : Int32, y1 = (D_changes + 1) → (post D_leaving 0 y1)
set_option maxHeartbeats 4000000 in
set_option maxRecDepth 100000 in
theorem c_X0_dropWanted (l : Launch) (D : va_G) (cI cJ cZ : ClassId) (aD aD_kinds aD_washes aD_fuels aD_isBroken aD_lengths aD_wanted aD_trackOf : Nat) (sz : Nat) (D_units : Int32) (D_leaving : Int32) (D_parked : Int32) (D_changes : Int32) (post : Int32 → Int32 → Int32 → Prop) (hw : wp_X0_dropWanted D_leaving D_changes post) : Met l yX0_dropWanted wsX0_dropWanted ({ frames := 0, cells := 0, slots := 0, locals := 0 } : Room) (va_Pc [.ref aD] (zPre D cI cJ cZ [(aD, .inr (0, [.ref aD_kinds, .ref aD_washes, .ref aD_fuels, .ref aD_isBroken, .int D_units, .ref aD_lengths, .ref aD_wanted, .int D_leaving, .ref aD_trackOf, .int D_parked, .int D_changes]))] sz)) (va_Qi (fun (r : Int32) (u : (Int32) × (Int32)) => post r u.1 u.2) (zPost D cI cJ cZ (va_A [(aD, .inr (0, [.ref aD_kinds, .ref aD_washes, .ref aD_fuels, .ref aD_isBroken, .int D_units, .ref aD_lengths, .ref aD_wanted, .int D_leaving, .ref aD_trackOf, .int D_parked, .int D_changes]))] sz) (fun u : (Int32) × (Int32) => [(aD, .inr (0, [.ref aD_kinds, .ref aD_washes, .ref aD_fuels, .ref aD_isBroken, .int D_units, .ref aD_lengths, .ref aD_wanted, .int u.1, .ref aD_trackOf, .int D_parked, .int u.2]))])) (va_A [(aD, .inr (0, [.ref aD_kinds, .ref aD_washes, .ref aD_fuels, .ref aD_isBroken, .int D_units, .ref aD_lengths, .ref aD_wanted, .int D_leaving, .ref aD_trackOf, .int D_parked, .int D_changes]))] sz)) 0 0 (va_A [(aD, .inr (0, [.ref aD_kinds, .ref aD_washes, .ref aD_fuels, .ref aD_isBroken, .int D_units, .ref aD_lengths, .ref aD_wanted, .int D_leaving, .ref aD_trackOf, .int D_parked, .int D_changes]))] sz) := by
  unfold wp_X0_dropWanted at hw
  refine Met.ofW (cc := cX0_dropWanted) (maxL := 2) (ret := some .int) (by decide) rfl ?_
  intro p e s m args below meth c s₁ B hml hv
  obtain ⟨rfl, hsz, hP, hK, hD0⟩ := hv
  have hx := B.exec
  have hb := B.bytes
  have hr := B.returns
  have hts := atoms_spec (ws := wsX0_dropWanted) B.pre
  have hown : s.vm.findClass RX0 = some m.cls := findClass_of_methodNamed B.named
  have hlocks := B.notSynchronized
  subst hsz
  have hD := hD0.self (sz := s.heap.size)
  generalize hAe : va_A [(aD, .inr (0, [.ref aD_kinds, .ref aD_washes, .ref aD_fuels, .ref aD_isBroken, .int D_units, .ref aD_lengths, .ref aD_wanted, .int D_leaving, .ref aD_trackOf, .int D_parked, .int D_changes]))] s.heap.size = A at hD ⊢
  have hA : ∀ q : Nat, s.heap.size ≤ q → A q := fun q h => by rw [← hAe]; exact Or.inr h
  have hS : va_S A s.heap s.heap [] := va_S.rf
  refine (fun (hall : ∀ Q0 : State → Prop, (∀ (r : Int32) (v0 : Int32) (v1 : Int32) (H : Heap) (locs : List Loc) (pc : Nat) (ls : Array Slot), post r v0 v1 → decode cX0_dropWanted pc = .ok (.ireturn, 1) → va_P D vwCl [(aD, .inr (0, [.ref aD_kinds, .ref aD_washes, .ref aD_fuels, .ref aD_isBroken, .int D_units, .ref aD_lengths, .ref aD_wanted, .int v0, .ref aD_trackOf, .int D_parked, .int v1]))] H → va_D A [(aD, .inr (0, [.ref aD_kinds, .ref aD_washes, .ref aD_fuels, .ref aD_isBroken, .int D_units, .ref aD_lengths, .ref aD_wanted, .int v0, .ref aD_trackOf, .int D_parked, .int v1]))] → va_S A s.heap H locs → W p l e ({ frames := 0, cells := 0, slots := 0, locals := 0 } : Room) s m ([.ref aD] : List Value).toArray below meth c H locs 0 0 Q0 (F0 m pc ls [.int r])) → W p l e ({ frames := 0, cells := 0, slots := 0, locals := 0 } : Room) s m ([.ref aD] : List Value).toArray below meth c s.heap [] 0 0 Q0 (entryFrame m ([.ref aD] : List Value).toArray 2)) => hall _ (fun r v0 v1 H locs pc ls hw hd hP hD hS => W.iret (v := r) hx hb hr (fun t ht hW => ⟨⟨r, (v0, v1), rfl, hw, by rw [ht]; exact hP, va_K.moved hW.alike hK, hD⟩, hS.F ht⟩) hS.2.2 hd)) ?_
  intro Q0 hret
  have hl := lv_entry ([.ref aD]) (n := 2) (Nat.le_of_ble_eq_true rfl)
  rw [lg_entry_eq]
  generalize (lg_sl ([.ref aD]) ++ List.replicate (2 - (lg_sl ([.ref aD])).length) Slot.unset).toArray = ls at hl ⊢
  have hl : lv_has ls 2 [(0, .ref aD)] := hl
  have hinX0 : ∀ w ∈ u_ws RX0 TX0 11, w ∈ wsX0_dropWanted := by decide +kernel
  have hf35 := hts (.fieldLink RX0 35 "DepotNight$Depot" "leaving" "I") (by decide +kernel)
  have hf44 := hts (.fieldLink RX0 44 "DepotNight$Depot" "changes" "I") (by decide +kernel)
  obtain ⟨H, hHe⟩ : ∃ H, H = s.heap := ⟨_, rfl⟩
  obtain ⟨locs, hLo⟩ : ∃ locs : List Loc, locs = [] := ⟨_, rfl⟩
  have hS : va_S A s.heap H locs := by rw [hHe, hLo]; exact hS
  have hP : va_P D vwCl [(aD, .inr (0, [.ref aD_kinds, .ref aD_washes, .ref aD_fuels, .ref aD_isBroken, .int D_units, .ref aD_lengths, .ref aD_wanted, .int D_leaving, .ref aD_trackOf, .int D_parked, .int D_changes]))] H := by rw [hHe]; exact hP
  refine (fun (hgo : W p l e ({ frames := 0, cells := 0, slots := 0, locals := 0 } : Room) s m ([.ref aD] : List Value).toArray below meth c H locs 0 0 Q0 (F0 m 0 ls [])) => by rw [hHe, hLo] at hgo; exact hgo) ?_
  refine lv_aload_n hx hb dX0_dropWanted_0 rfl (lv_at hl 0 rfl) ?_
  refine va_get (D := D) (ci := 0) (v := .int D_leaving) (C := RX0) (T := TX0) (N := 11) hx hb hts hinX0 hown hK hP 0 rfl rfl 7 (by decide) hf35 (fun _ h9 => h9) rfl dX0_dropWanted_1 ?_
  refine lv_istore_n (lv' := [(1, .int D_leaving), (0, .ref aD)]) hx hb dX0_dropWanted_4 rfl hl (by decide) rfl (fun ls hl => ?_)
  refine lv_aload_n hx hb dX0_dropWanted_5 rfl (lv_at hl 1 rfl) ?_
  refine lv_iconst (v := 0) hx hb dX0_dropWanted_6 (by decide) ?_
  refine va_put (D := D) (ci := 0) (v := .int 0) (ty := .int) (C := RX0) (T := TX0) (N := 11) hx hb hts hinX0 tyX0 tyX0_ok nmX0 hown hK hP hD hS 0 rfl rfl 7 (by decide) hf35 (fun _ h9 => h9) rfl (by decide +kernel) rfl rfl (Nat.le_of_ble_eq_true rfl) dX0_dropWanted_7 (fun H locs hP hD hS => ?_)
  have hP : va_P D vwCl [(aD, .inr (0, [.ref aD_kinds, .ref aD_washes, .ref aD_fuels, .ref aD_isBroken, .int D_units, .ref aD_lengths, .ref aD_wanted, .int 0, .ref aD_trackOf, .int D_parked, .int D_changes]))] H := hP
  have hD : va_D A [(aD, .inr (0, [.ref aD_kinds, .ref aD_washes, .ref aD_fuels, .ref aD_isBroken, .int D_units, .ref aD_lengths, .ref aD_wanted, .int 0, .ref aD_trackOf, .int D_parked, .int D_changes]))] := hD
  refine lv_aload_n hx hb dX0_dropWanted_10 rfl (lv_at hl 1 rfl) ?_
  refine lv_dup hx hb dX0_dropWanted_11 rfl ?_
  refine va_get (D := D) (ci := 0) (v := .int D_changes) (C := RX0) (T := TX0) (N := 11) hx hb hts hinX0 hown hK hP 0 rfl rfl 10 (by decide) hf44 (fun _ h9 => h9) rfl dX0_dropWanted_12 ?_
  refine lv_iconst (v := 1) hx hb dX0_dropWanted_15 (by decide) ?_
  refine lv_iadd hx hb dX0_dropWanted_16 ?_
  refine lv_topi (fun y1 ey1 => ?_)
  have hw := hw y1 ey1
  refine va_put (D := D) (ci := 0) (v := .int y1) (ty := .int) (C := RX0) (T := TX0) (N := 11) hx hb hts hinX0 tyX0 tyX0_ok nmX0 hown hK hP hD hS 0 rfl rfl 10 (by decide) hf44 (fun _ h9 => h9) rfl (by decide +kernel) rfl rfl (Nat.le_of_ble_eq_true rfl) dX0_dropWanted_17 (fun H locs hP hD hS => ?_)
  have hP : va_P D vwCl [(aD, .inr (0, [.ref aD_kinds, .ref aD_washes, .ref aD_fuels, .ref aD_isBroken, .int D_units, .ref aD_lengths, .ref aD_wanted, .int 0, .ref aD_trackOf, .int D_parked, .int y1]))] H := hP
  have hD : va_D A [(aD, .inr (0, [.ref aD_kinds, .ref aD_washes, .ref aD_fuels, .ref aD_isBroken, .int D_units, .ref aD_lengths, .ref aD_wanted, .int 0, .ref aD_trackOf, .int D_parked, .int y1]))] := hD
  refine lv_iload_n hx hb dX0_dropWanted_20 rfl (lv_at hl 0 rfl) ?_
  exact hret D_leaving 0 y1 H locs 21 ls hw dX0_dropWanted_21 hP hD hS 
/-! X0_parkNext -/
def wp_X0_parkNext (x1 : Int32) (D_trackOf : Nat → Int32) (D_parked : Int32) (D_changes : Int32) (post : Int32 → (Nat → Int32) → Int32 → Int32 → Prop) : Prop :=
  vp_in D_parked 5 ∧ (∀ y2 : Int32, y2 = (D_parked + 1) → (∀ y3 : Int32, y3 = (D_changes + 1) → (post D_parked (upd D_trackOf D_parked.toNatClampNeg x1) y2 y3)))
set_option maxHeartbeats 4000000 in
set_option maxRecDepth 100000 in
theorem c_X0_parkNext (l : Launch) (D : va_G) (cI cJ cZ : ClassId) (aD aD_kinds aD_washes aD_fuels aD_isBroken aD_lengths aD_wanted aD_trackOf : Nat) (sz : Nat) (D_units : Int32) (D_leaving : Int32) (D_parked : Int32) (D_changes : Int32) (D_trackOf : Nat → Int32) (x1 : Int32) (post : Int32 → (Nat → Int32) → Int32 → Int32 → Prop) (hw : wp_X0_parkNext x1 D_trackOf D_parked D_changes post) : Met l yX0_parkNext wsX0_parkNext ({ frames := 0, cells := 0, slots := 0, locals := 0 } : Room) (va_Pc [.ref aD, .int x1] (zPre D cI cJ cZ [(aD, .inr (0, [.ref aD_kinds, .ref aD_washes, .ref aD_fuels, .ref aD_isBroken, .int D_units, .ref aD_lengths, .ref aD_wanted, .int D_leaving, .ref aD_trackOf, .int D_parked, .int D_changes])), (aD_trackOf, .inl (cI, 5, .inl D_trackOf))] sz)) (va_Qi (fun (r : Int32) (u : (Nat → Int32) × (Int32) × (Int32)) => post r u.1 u.2.1 u.2.2) (zPost D cI cJ cZ (va_A [(aD, .inr (0, [.ref aD_kinds, .ref aD_washes, .ref aD_fuels, .ref aD_isBroken, .int D_units, .ref aD_lengths, .ref aD_wanted, .int D_leaving, .ref aD_trackOf, .int D_parked, .int D_changes])), (aD_trackOf, .inl (cI, 5, .inl D_trackOf))] sz) (fun u : (Nat → Int32) × (Int32) × (Int32) => [(aD, .inr (0, [.ref aD_kinds, .ref aD_washes, .ref aD_fuels, .ref aD_isBroken, .int D_units, .ref aD_lengths, .ref aD_wanted, .int D_leaving, .ref aD_trackOf, .int u.2.1, .int u.2.2])), (aD_trackOf, .inl (cI, 5, .inl u.1))])) (va_A [(aD, .inr (0, [.ref aD_kinds, .ref aD_washes, .ref aD_fuels, .ref aD_isBroken, .int D_units, .ref aD_lengths, .ref aD_wanted, .int D_leaving, .ref aD_trackOf, .int D_parked, .int D_changes])), (aD_trackOf, .inl (cI, 5, .inl D_trackOf))] sz)) 0 0 (va_A [(aD, .inr (0, [.ref aD_kinds, .ref aD_washes, .ref aD_fuels, .ref aD_isBroken, .int D_units, .ref aD_lengths, .ref aD_wanted, .int D_leaving, .ref aD_trackOf, .int D_parked, .int D_changes])), (aD_trackOf, .inl (cI, 5, .inl D_trackOf))] sz) := by
  unfold wp_X0_parkNext at hw
  refine Met.ofW (cc := cX0_parkNext) (maxL := 3) (ret := some .int) (by decide) rfl ?_
  intro p e s m args below meth c s₁ B hml hv
  obtain ⟨rfl, hsz, hP, hK, hD0⟩ := hv
  have hx := B.exec
  have hb := B.bytes
  have hr := B.returns
  have hts := atoms_spec (ws := wsX0_parkNext) B.pre
  have hown : s.vm.findClass RX0 = some m.cls := findClass_of_methodNamed B.named
  have hlocks := B.notSynchronized
  subst hsz
  have hD := hD0.self (sz := s.heap.size)
  generalize hAe : va_A [(aD, .inr (0, [.ref aD_kinds, .ref aD_washes, .ref aD_fuels, .ref aD_isBroken, .int D_units, .ref aD_lengths, .ref aD_wanted, .int D_leaving, .ref aD_trackOf, .int D_parked, .int D_changes])), (aD_trackOf, .inl (cI, 5, .inl D_trackOf))] s.heap.size = A at hD ⊢
  have hA : ∀ q : Nat, s.heap.size ≤ q → A q := fun q h => by rw [← hAe]; exact Or.inr h
  have hS : va_S A s.heap s.heap [] := va_S.rf
  refine (fun (hall : ∀ Q0 : State → Prop, (∀ (r : Int32) (v0 : Nat → Int32) (v1 : Int32) (v2 : Int32) (H : Heap) (locs : List Loc) (pc : Nat) (ls : Array Slot), post r v0 v1 v2 → decode cX0_parkNext pc = .ok (.ireturn, 1) → va_P D vwCl [(aD, .inr (0, [.ref aD_kinds, .ref aD_washes, .ref aD_fuels, .ref aD_isBroken, .int D_units, .ref aD_lengths, .ref aD_wanted, .int D_leaving, .ref aD_trackOf, .int v1, .int v2])), (aD_trackOf, .inl (cI, 5, .inl v0))] H → va_D A [(aD, .inr (0, [.ref aD_kinds, .ref aD_washes, .ref aD_fuels, .ref aD_isBroken, .int D_units, .ref aD_lengths, .ref aD_wanted, .int D_leaving, .ref aD_trackOf, .int v1, .int v2])), (aD_trackOf, .inl (cI, 5, .inl v0))] → va_S A s.heap H locs → W p l e ({ frames := 0, cells := 0, slots := 0, locals := 0 } : Room) s m ([.ref aD, .int x1] : List Value).toArray below meth c H locs 0 0 Q0 (F0 m pc ls [.int r])) → W p l e ({ frames := 0, cells := 0, slots := 0, locals := 0 } : Room) s m ([.ref aD, .int x1] : List Value).toArray below meth c s.heap [] 0 0 Q0 (entryFrame m ([.ref aD, .int x1] : List Value).toArray 3)) => hall _ (fun r v0 v1 v2 H locs pc ls hw hd hP hD hS => W.iret (v := r) hx hb hr (fun t ht hW => ⟨⟨r, (v0, v1, v2), rfl, hw, by rw [ht]; exact hP, va_K.moved hW.alike hK, hD⟩, hS.F ht⟩) hS.2.2 hd)) ?_
  intro Q0 hret
  have hl := lv_entry ([.ref aD, .int x1]) (n := 3) (Nat.le_of_ble_eq_true rfl)
  rw [lg_entry_eq]
  generalize (lg_sl ([.ref aD, .int x1]) ++ List.replicate (3 - (lg_sl ([.ref aD, .int x1])).length) Slot.unset).toArray = ls at hl ⊢
  have hl : lv_has ls 3 [(0, .ref aD), (1, .int x1)] := hl
  have hinX0 : ∀ w ∈ u_ws RX0 TX0 11, w ∈ wsX0_parkNext := by decide +kernel
  have hf38 := hts (.fieldLink RX0 38 "DepotNight$Depot" "trackOf" "[I") (by decide +kernel)
  have hf41 := hts (.fieldLink RX0 41 "DepotNight$Depot" "parked" "I") (by decide +kernel)
  have hf44 := hts (.fieldLink RX0 44 "DepotNight$Depot" "changes" "I") (by decide +kernel)
  obtain ⟨H, hHe⟩ : ∃ H, H = s.heap := ⟨_, rfl⟩
  obtain ⟨locs, hLo⟩ : ∃ locs : List Loc, locs = [] := ⟨_, rfl⟩
  have hS : va_S A s.heap H locs := by rw [hHe, hLo]; exact hS
  have hP : va_P D vwCl [(aD, .inr (0, [.ref aD_kinds, .ref aD_washes, .ref aD_fuels, .ref aD_isBroken, .int D_units, .ref aD_lengths, .ref aD_wanted, .int D_leaving, .ref aD_trackOf, .int D_parked, .int D_changes])), (aD_trackOf, .inl (cI, 5, .inl D_trackOf))] H := by rw [hHe]; exact hP
  refine (fun (hgo : W p l e ({ frames := 0, cells := 0, slots := 0, locals := 0 } : Room) s m ([.ref aD, .int x1] : List Value).toArray below meth c H locs 0 0 Q0 (F0 m 0 ls [])) => by rw [hHe, hLo] at hgo; exact hgo) ?_
  refine lv_aload_n hx hb dX0_parkNext_0 rfl (lv_at hl 0 rfl) ?_
  refine va_get (D := D) (ci := 0) (v := .int D_parked) (C := RX0) (T := TX0) (N := 11) hx hb hts hinX0 hown hK hP 0 rfl rfl 9 (by decide) hf41 (fun _ h9 => h9) rfl dX0_parkNext_1 ?_
  refine lv_istore_n (lv' := [(2, .int D_parked), (0, .ref aD), (1, .int x1)]) hx hb dX0_parkNext_4 rfl hl (by decide) rfl (fun ls hl => ?_)
  refine lv_aload_n hx hb dX0_parkNext_5 rfl (lv_at hl 1 rfl) ?_
  refine va_get (D := D) (ci := 0) (v := .ref aD_trackOf) (C := RX0) (T := TX0) (N := 11) hx hb hts hinX0 hown hK hP 0 rfl rfl 8 (by decide) hf38 (fun _ h9 => h9) rfl dX0_parkNext_6 ?_
  refine lv_iload_n hx hb dX0_parkNext_9 rfl (lv_at hl 0 rfl) ?_
  refine lv_iload_n hx hb dX0_parkNext_10 rfl (lv_at hl 2 rfl) ?_
  obtain ⟨hb1, hw⟩ := hw
  refine va_iast hx hb hK hP hD hS 1 0 rfl rfl hb1 dX0_parkNext_11 (fun H locs hP hD hS => ?_)
  have hP : va_P D vwCl [(aD, .inr (0, [.ref aD_kinds, .ref aD_washes, .ref aD_fuels, .ref aD_isBroken, .int D_units, .ref aD_lengths, .ref aD_wanted, .int D_leaving, .ref aD_trackOf, .int D_parked, .int D_changes])), (aD_trackOf, .inl (cI, 5, .inl (upd D_trackOf D_parked.toNatClampNeg x1)))] H := hP
  have hD : va_D A [(aD, .inr (0, [.ref aD_kinds, .ref aD_washes, .ref aD_fuels, .ref aD_isBroken, .int D_units, .ref aD_lengths, .ref aD_wanted, .int D_leaving, .ref aD_trackOf, .int D_parked, .int D_changes])), (aD_trackOf, .inl (cI, 5, .inl (upd D_trackOf D_parked.toNatClampNeg x1)))] := hD
  refine lv_aload_n hx hb dX0_parkNext_12 rfl (lv_at hl 1 rfl) ?_
  refine lv_dup hx hb dX0_parkNext_13 rfl ?_
  refine va_get (D := D) (ci := 0) (v := .int D_parked) (C := RX0) (T := TX0) (N := 11) hx hb hts hinX0 hown hK hP 0 rfl rfl 9 (by decide) hf41 (fun _ h9 => h9) rfl dX0_parkNext_14 ?_
  refine lv_iconst (v := 1) hx hb dX0_parkNext_17 (by decide) ?_
  refine lv_iadd hx hb dX0_parkNext_18 ?_
  refine lv_topi (fun y2 ey2 => ?_)
  have hw := hw y2 ey2
  refine va_put (D := D) (ci := 0) (v := .int y2) (ty := .int) (C := RX0) (T := TX0) (N := 11) hx hb hts hinX0 tyX0 tyX0_ok nmX0 hown hK hP hD hS 0 rfl rfl 9 (by decide) hf41 (fun _ h9 => h9) rfl (by decide +kernel) rfl rfl (Nat.le_of_ble_eq_true rfl) dX0_parkNext_19 (fun H locs hP hD hS => ?_)
  have hP : va_P D vwCl [(aD, .inr (0, [.ref aD_kinds, .ref aD_washes, .ref aD_fuels, .ref aD_isBroken, .int D_units, .ref aD_lengths, .ref aD_wanted, .int D_leaving, .ref aD_trackOf, .int y2, .int D_changes])), (aD_trackOf, .inl (cI, 5, .inl (upd D_trackOf D_parked.toNatClampNeg x1)))] H := hP
  have hD : va_D A [(aD, .inr (0, [.ref aD_kinds, .ref aD_washes, .ref aD_fuels, .ref aD_isBroken, .int D_units, .ref aD_lengths, .ref aD_wanted, .int D_leaving, .ref aD_trackOf, .int y2, .int D_changes])), (aD_trackOf, .inl (cI, 5, .inl (upd D_trackOf D_parked.toNatClampNeg x1)))] := hD
  refine lv_aload_n hx hb dX0_parkNext_22 rfl (lv_at hl 1 rfl) ?_
  refine lv_dup hx hb dX0_parkNext_23 rfl ?_
  refine va_get (D := D) (ci := 0) (v := .int D_changes) (C := RX0) (T := TX0) (N := 11) hx hb hts hinX0 hown hK hP 0 rfl rfl 10 (by decide) hf44 (fun _ h9 => h9) rfl dX0_parkNext_24 ?_
  refine lv_iconst (v := 1) hx hb dX0_parkNext_27 (by decide) ?_
  refine lv_iadd hx hb dX0_parkNext_28 ?_
  refine lv_topi (fun y3 ey3 => ?_)
  have hw := hw y3 ey3
  refine va_put (D := D) (ci := 0) (v := .int y3) (ty := .int) (C := RX0) (T := TX0) (N := 11) hx hb hts hinX0 tyX0 tyX0_ok nmX0 hown hK hP hD hS 0 rfl rfl 10 (by decide) hf44 (fun _ h9 => h9) rfl (by decide +kernel) rfl rfl (Nat.le_of_ble_eq_true rfl) dX0_parkNext_29 (fun H locs hP hD hS => ?_)
  have hP : va_P D vwCl [(aD, .inr (0, [.ref aD_kinds, .ref aD_washes, .ref aD_fuels, .ref aD_isBroken, .int D_units, .ref aD_lengths, .ref aD_wanted, .int D_leaving, .ref aD_trackOf, .int y2, .int y3])), (aD_trackOf, .inl (cI, 5, .inl (upd D_trackOf D_parked.toNatClampNeg x1)))] H := hP
  have hD : va_D A [(aD, .inr (0, [.ref aD_kinds, .ref aD_washes, .ref aD_fuels, .ref aD_isBroken, .int D_units, .ref aD_lengths, .ref aD_wanted, .int D_leaving, .ref aD_trackOf, .int y2, .int y3])), (aD_trackOf, .inl (cI, 5, .inl (upd D_trackOf D_parked.toNatClampNeg x1)))] := hD
  refine lv_iload_n hx hb dX0_parkNext_32 rfl (lv_at hl 0 rfl) ?_
  exact hret D_parked (upd D_trackOf D_parked.toNatClampNeg x1) y2 y3 H locs 33 ls hw dX0_parkNext_33 hP hD hS 
/-! X0_unparkAll -/
def wp_X0_unparkAll (D_parked : Int32) (D_changes : Int32) (post : Int32 → Int32 → Int32 → Prop) : Prop :=
  ∀ y1 : Int32, y1 = (D_changes + 1) → (post D_parked 0 y1)
set_option maxHeartbeats 4000000 in
set_option maxRecDepth 100000 in
theorem c_X0_unparkAll (l : Launch) (D : va_G) (cI cJ cZ : ClassId) (aD aD_kinds aD_washes aD_fuels aD_isBroken aD_lengths aD_wanted aD_trackOf : Nat) (sz : Nat) (D_units : Int32) (D_leaving : Int32) (D_parked : Int32) (D_changes : Int32) (post : Int32 → Int32 → Int32 → Prop) (hw : wp_X0_unparkAll D_parked D_changes post) : Met l yX0_unparkAll wsX0_unparkAll ({ frames := 0, cells := 0, slots := 0, locals := 0 } : Room) (va_Pc [.ref aD] (zPre D cI cJ cZ [(aD, .inr (0, [.ref aD_kinds, .ref aD_washes, .ref aD_fuels, .ref aD_isBroken, .int D_units, .ref aD_lengths, .ref aD_wanted, .int D_leaving, .ref aD_trackOf, .int D_parked, .int D_changes]))] sz)) (va_Qi (fun (r : Int32) (u : (Int32) × (Int32)) => post r u.1 u.2) (zPost D cI cJ cZ (va_A [(aD, .inr (0, [.ref aD_kinds, .ref aD_washes, .ref aD_fuels, .ref aD_isBroken, .int D_units, .ref aD_lengths, .ref aD_wanted, .int D_leaving, .ref aD_trackOf, .int D_parked, .int D_changes]))] sz) (fun u : (Int32) × (Int32) => [(aD, .inr (0, [.ref aD_kinds, .ref aD_washes, .ref aD_fuels, .ref aD_isBroken, .int D_units, .ref aD_lengths, .ref aD_wanted, .int D_leaving, .ref aD_trackOf, .int u.1, .int u.2]))])) (va_A [(aD, .inr (0, [.ref aD_kinds, .ref aD_washes, .ref aD_fuels, .ref aD_isBroken, .int D_units, .ref aD_lengths, .ref aD_wanted, .int D_leaving, .ref aD_trackOf, .int D_parked, .int D_changes]))] sz)) 0 0 (va_A [(aD, .inr (0, [.ref aD_kinds, .ref aD_washes, .ref aD_fuels, .ref aD_isBroken, .int D_units, .ref aD_lengths, .ref aD_wanted, .int D_leaving, .ref aD_trackOf, .int D_parked, .int D_changes]))] sz) := by
  unfold wp_X0_unparkAll at hw
  refine Met.ofW (cc := cX0_unparkAll) (maxL := 2) (ret := some .int) (by decide) rfl ?_
  intro p e s m args below meth c s₁ B hml hv
  obtain ⟨rfl, hsz, hP, hK, hD0⟩ := hv
  have hx := B.exec
  have hb := B.bytes
  have hr := B.returns
  have hts := atoms_spec (ws := wsX0_unparkAll) B.pre
  have hown : s.vm.findClass RX0 = some m.cls := findClass_of_methodNamed B.named
  have hlocks := B.notSynchronized
  subst hsz
  have hD := hD0.self (sz := s.heap.size)
  generalize hAe : va_A [(aD, .inr (0, [.ref aD_kinds, .ref aD_washes, .ref aD_fuels, .ref aD_isBroken, .int D_units, .ref aD_lengths, .ref aD_wanted, .int D_leaving, .ref aD_trackOf, .int D_parked, .int D_changes]))] s.heap.size = A at hD ⊢
  have hA : ∀ q : Nat, s.heap.size ≤ q → A q := fun q h => by rw [← hAe]; exact Or.inr h
  have hS : va_S A s.heap s.heap [] := va_S.rf
  refine (fun (hall : ∀ Q0 : State → Prop, (∀ (r : Int32) (v0 : Int32) (v1 : Int32) (H : Heap) (locs : List Loc) (pc : Nat) (ls : Array Slot), post r v0 v1 → decode cX0_unparkAll pc = .ok (.ireturn, 1) → va_P D vwCl [(aD, .inr (0, [.ref aD_kinds, .ref aD_washes, .ref aD_fuels, .ref aD_isBroken, .int D_units, .ref aD_lengths, .ref aD_wanted, .int D_leaving, .ref aD_trackOf, .int v0, .int v1]))] H → va_D A [(aD, .inr (0, [.ref aD_kinds, .ref aD_washes, .ref aD_fuels, .ref aD_isBroken, .int D_units, .ref aD_lengths, .ref aD_wanted, .int D_leaving, .ref aD_trackOf, .int v0, .int v1]))] → va_S A s.heap H locs → W p l e ({ frames := 0, cells := 0, slots := 0, locals := 0 } : Room) s m ([.ref aD] : List Value).toArray below meth c H locs 0 0 Q0 (F0 m pc ls [.int r])) → W p l e ({ frames := 0, cells := 0, slots := 0, locals := 0 } : Room) s m ([.ref aD] : List Value).toArray below meth c s.heap [] 0 0 Q0 (entryFrame m ([.ref aD] : List Value).toArray 2)) => hall _ (fun r v0 v1 H locs pc ls hw hd hP hD hS => W.iret (v := r) hx hb hr (fun t ht hW => ⟨⟨r, (v0, v1), rfl, hw, by rw [ht]; exact hP, va_K.moved hW.alike hK, hD⟩, hS.F ht⟩) hS.2.2 hd)) ?_
  intro Q0 hret
  have hl := lv_entry ([.ref aD]) (n := 2) (Nat.le_of_ble_eq_true rfl)
  rw [lg_entry_eq]
  generalize (lg_sl ([.ref aD]) ++ List.replicate (2 - (lg_sl ([.ref aD])).length) Slot.unset).toArray = ls at hl ⊢
  have hl : lv_has ls 2 [(0, .ref aD)] := hl
  have hinX0 : ∀ w ∈ u_ws RX0 TX0 11, w ∈ wsX0_unparkAll := by decide +kernel
  have hf41 := hts (.fieldLink RX0 41 "DepotNight$Depot" "parked" "I") (by decide +kernel)
  have hf44 := hts (.fieldLink RX0 44 "DepotNight$Depot" "changes" "I") (by decide +kernel)
  obtain ⟨H, hHe⟩ : ∃ H, H = s.heap := ⟨_, rfl⟩
  obtain ⟨locs, hLo⟩ : ∃ locs : List Loc, locs = [] := ⟨_, rfl⟩
  have hS : va_S A s.heap H locs := by rw [hHe, hLo]; exact hS
  have hP : va_P D vwCl [(aD, .inr (0, [.ref aD_kinds, .ref aD_washes, .ref aD_fuels, .ref aD_isBroken, .int D_units, .ref aD_lengths, .ref aD_wanted, .int D_leaving, .ref aD_trackOf, .int D_parked, .int D_changes]))] H := by rw [hHe]; exact hP
  refine (fun (hgo : W p l e ({ frames := 0, cells := 0, slots := 0, locals := 0 } : Room) s m ([.ref aD] : List Value).toArray below meth c H locs 0 0 Q0 (F0 m 0 ls [])) => by rw [hHe, hLo] at hgo; exact hgo) ?_
  refine lv_aload_n hx hb dX0_unparkAll_0 rfl (lv_at hl 0 rfl) ?_
  refine va_get (D := D) (ci := 0) (v := .int D_parked) (C := RX0) (T := TX0) (N := 11) hx hb hts hinX0 hown hK hP 0 rfl rfl 9 (by decide) hf41 (fun _ h9 => h9) rfl dX0_unparkAll_1 ?_
  refine lv_istore_n (lv' := [(1, .int D_parked), (0, .ref aD)]) hx hb dX0_unparkAll_4 rfl hl (by decide) rfl (fun ls hl => ?_)
  refine lv_aload_n hx hb dX0_unparkAll_5 rfl (lv_at hl 1 rfl) ?_
  refine lv_iconst (v := 0) hx hb dX0_unparkAll_6 (by decide) ?_
  refine va_put (D := D) (ci := 0) (v := .int 0) (ty := .int) (C := RX0) (T := TX0) (N := 11) hx hb hts hinX0 tyX0 tyX0_ok nmX0 hown hK hP hD hS 0 rfl rfl 9 (by decide) hf41 (fun _ h9 => h9) rfl (by decide +kernel) rfl rfl (Nat.le_of_ble_eq_true rfl) dX0_unparkAll_7 (fun H locs hP hD hS => ?_)
  have hP : va_P D vwCl [(aD, .inr (0, [.ref aD_kinds, .ref aD_washes, .ref aD_fuels, .ref aD_isBroken, .int D_units, .ref aD_lengths, .ref aD_wanted, .int D_leaving, .ref aD_trackOf, .int 0, .int D_changes]))] H := hP
  have hD : va_D A [(aD, .inr (0, [.ref aD_kinds, .ref aD_washes, .ref aD_fuels, .ref aD_isBroken, .int D_units, .ref aD_lengths, .ref aD_wanted, .int D_leaving, .ref aD_trackOf, .int 0, .int D_changes]))] := hD
  refine lv_aload_n hx hb dX0_unparkAll_10 rfl (lv_at hl 1 rfl) ?_
  refine lv_dup hx hb dX0_unparkAll_11 rfl ?_
  refine va_get (D := D) (ci := 0) (v := .int D_changes) (C := RX0) (T := TX0) (N := 11) hx hb hts hinX0 hown hK hP 0 rfl rfl 10 (by decide) hf44 (fun _ h9 => h9) rfl dX0_unparkAll_12 ?_
  refine lv_iconst (v := 1) hx hb dX0_unparkAll_15 (by decide) ?_
  refine lv_iadd hx hb dX0_unparkAll_16 ?_
  refine lv_topi (fun y1 ey1 => ?_)
  have hw := hw y1 ey1
  refine va_put (D := D) (ci := 0) (v := .int y1) (ty := .int) (C := RX0) (T := TX0) (N := 11) hx hb hts hinX0 tyX0 tyX0_ok nmX0 hown hK hP hD hS 0 rfl rfl 10 (by decide) hf44 (fun _ h9 => h9) rfl (by decide +kernel) rfl rfl (Nat.le_of_ble_eq_true rfl) dX0_unparkAll_17 (fun H locs hP hD hS => ?_)
  have hP : va_P D vwCl [(aD, .inr (0, [.ref aD_kinds, .ref aD_washes, .ref aD_fuels, .ref aD_isBroken, .int D_units, .ref aD_lengths, .ref aD_wanted, .int D_leaving, .ref aD_trackOf, .int 0, .int y1]))] H := hP
  have hD : va_D A [(aD, .inr (0, [.ref aD_kinds, .ref aD_washes, .ref aD_fuels, .ref aD_isBroken, .int D_units, .ref aD_lengths, .ref aD_wanted, .int D_leaving, .ref aD_trackOf, .int 0, .int y1]))] := hD
  refine lv_iload_n hx hb dX0_unparkAll_20 rfl (lv_at hl 0 rfl) ?_
  exact hret D_parked 0 y1 H locs 21 ls hw dX0_unparkAll_21 hP hD hS 
/-! X0_standingOn -/
def Y_X0_standingOn_4 (D_trackOf : Nat → Int32) (D_parked : Int32) (x1 : Int32) (post : Int32 → Prop) (K4 : Int32 → Int32 → Prop) (x2 : Int32) (x3 : Int32) : Prop :=
  ((D_parked ≤ x3 → post x2 ) ∧ (¬ D_parked ≤ x3 → vp_in x3 5 ∧ (((¬ (D_trackOf x3.toNatClampNeg) = x1 → K4 x2 (x3 + 1)) ∧ ((D_trackOf x3.toNatClampNeg) = x1 → K4 (x2 + 1) (x3 + 1))))))
def Z_X0_standingOn_4 (D_trackOf : Nat → Int32) (D_parked : Int32) (x1 : Int32) (post : Int32 → Prop) : Nat → Int32 → Int32 → Prop
  | 0 => fun _ _ => False
  | n + 1 => Y_X0_standingOn_4 D_trackOf D_parked x1 post (Z_X0_standingOn_4 D_trackOf D_parked x1 post n)
def wp_X0_standingOn (D_trackOf : Nat → Int32) (D_parked : Int32) (x1 : Int32) (post : Int32 → Prop) : Prop :=
  ∃ n, Z_X0_standingOn_4 D_trackOf D_parked x1 post n 0 0
set_option maxHeartbeats 4000000 in
set_option maxRecDepth 100000 in
theorem c_X0_standingOn (l : Launch) (D : va_G) (cI cJ cZ : ClassId) (aD aD_kinds aD_washes aD_fuels aD_isBroken aD_lengths aD_wanted aD_trackOf : Nat) (sz : Nat) (D_units : Int32) (D_leaving : Int32) (D_parked : Int32) (D_changes : Int32) (D_trackOf : Nat → Int32) (x1 : Int32) (post : Int32 → Prop) (hw : wp_X0_standingOn D_trackOf D_parked x1 post) : Met l yX0_standingOn wsX0_standingOn ({ frames := 0, cells := 0, slots := 0, locals := 0 } : Room) (va_Pc [.ref aD, .int x1] (zPre D cI cJ cZ [(aD, .inr (0, [.ref aD_kinds, .ref aD_washes, .ref aD_fuels, .ref aD_isBroken, .int D_units, .ref aD_lengths, .ref aD_wanted, .int D_leaving, .ref aD_trackOf, .int D_parked, .int D_changes])), (aD_trackOf, .inl (cI, 5, .inl D_trackOf))] sz)) (va_Qi (fun (r : Int32) (u : Unit) => post r) (zPost D cI cJ cZ (va_A [(aD, .inr (0, [.ref aD_kinds, .ref aD_washes, .ref aD_fuels, .ref aD_isBroken, .int D_units, .ref aD_lengths, .ref aD_wanted, .int D_leaving, .ref aD_trackOf, .int D_parked, .int D_changes])), (aD_trackOf, .inl (cI, 5, .inl D_trackOf))] sz) (fun u : Unit => [(aD, .inr (0, [.ref aD_kinds, .ref aD_washes, .ref aD_fuels, .ref aD_isBroken, .int D_units, .ref aD_lengths, .ref aD_wanted, .int D_leaving, .ref aD_trackOf, .int D_parked, .int D_changes])), (aD_trackOf, .inl (cI, 5, .inl D_trackOf))])) (va_A [(aD, .inr (0, [.ref aD_kinds, .ref aD_washes, .ref aD_fuels, .ref aD_isBroken, .int D_units, .ref aD_lengths, .ref aD_wanted, .int D_leaving, .ref aD_trackOf, .int D_parked, .int D_changes])), (aD_trackOf, .inl (cI, 5, .inl D_trackOf))] sz)) 0 0 (va_A [(aD, .inr (0, [.ref aD_kinds, .ref aD_washes, .ref aD_fuels, .ref aD_isBroken, .int D_units, .ref aD_lengths, .ref aD_wanted, .int D_leaving, .ref aD_trackOf, .int D_parked, .int D_changes])), (aD_trackOf, .inl (cI, 5, .inl D_trackOf))] sz) := by
  unfold wp_X0_standingOn at hw
  refine Met.ofW (cc := cX0_standingOn) (maxL := 4) (ret := some .int) (by decide) rfl ?_
  intro p e s m args below meth c s₁ B hml hv
  obtain ⟨rfl, hsz, hP, hK, hD0⟩ := hv
  have hx := B.exec
  have hb := B.bytes
  have hr := B.returns
  have hts := atoms_spec (ws := wsX0_standingOn) B.pre
  have hown : s.vm.findClass RX0 = some m.cls := findClass_of_methodNamed B.named
  have hlocks := B.notSynchronized
  subst hsz
  have hD := hD0.self (sz := s.heap.size)
  generalize hAe : va_A [(aD, .inr (0, [.ref aD_kinds, .ref aD_washes, .ref aD_fuels, .ref aD_isBroken, .int D_units, .ref aD_lengths, .ref aD_wanted, .int D_leaving, .ref aD_trackOf, .int D_parked, .int D_changes])), (aD_trackOf, .inl (cI, 5, .inl D_trackOf))] s.heap.size = A at hD ⊢
  have hA : ∀ q : Nat, s.heap.size ≤ q → A q := fun q h => by rw [← hAe]; exact Or.inr h
  have hS : va_S A s.heap s.heap [] := va_S.rf
  refine (fun (hall : ∀ Q0 : State → Prop, (∀ (r : Int32)  (H : Heap) (locs : List Loc) (pc : Nat) (ls : Array Slot), post r → decode cX0_standingOn pc = .ok (.ireturn, 1) → va_P D vwCl [(aD, .inr (0, [.ref aD_kinds, .ref aD_washes, .ref aD_fuels, .ref aD_isBroken, .int D_units, .ref aD_lengths, .ref aD_wanted, .int D_leaving, .ref aD_trackOf, .int D_parked, .int D_changes])), (aD_trackOf, .inl (cI, 5, .inl D_trackOf))] H → va_D A [(aD, .inr (0, [.ref aD_kinds, .ref aD_washes, .ref aD_fuels, .ref aD_isBroken, .int D_units, .ref aD_lengths, .ref aD_wanted, .int D_leaving, .ref aD_trackOf, .int D_parked, .int D_changes])), (aD_trackOf, .inl (cI, 5, .inl D_trackOf))] → va_S A s.heap H locs → W p l e ({ frames := 0, cells := 0, slots := 0, locals := 0 } : Room) s m ([.ref aD, .int x1] : List Value).toArray below meth c H locs 0 0 Q0 (F0 m pc ls [.int r])) → W p l e ({ frames := 0, cells := 0, slots := 0, locals := 0 } : Room) s m ([.ref aD, .int x1] : List Value).toArray below meth c s.heap [] 0 0 Q0 (entryFrame m ([.ref aD, .int x1] : List Value).toArray 4)) => hall _ (fun r  H locs pc ls hw hd hP hD hS => W.iret (v := r) hx hb hr (fun t ht hW => ⟨⟨r, (), rfl, hw, by rw [ht]; exact hP, va_K.moved hW.alike hK, hD⟩, hS.F ht⟩) hS.2.2 hd)) ?_
  intro Q0 hret
  have hl := lv_entry ([.ref aD, .int x1]) (n := 4) (Nat.le_of_ble_eq_true rfl)
  rw [lg_entry_eq]
  generalize (lg_sl ([.ref aD, .int x1]) ++ List.replicate (4 - (lg_sl ([.ref aD, .int x1])).length) Slot.unset).toArray = ls at hl ⊢
  have hl : lv_has ls 4 [(0, .ref aD), (1, .int x1)] := hl
  have hinX0 : ∀ w ∈ u_ws RX0 TX0 11, w ∈ wsX0_standingOn := by decide +kernel
  have hf38 := hts (.fieldLink RX0 38 "DepotNight$Depot" "trackOf" "[I") (by decide +kernel)
  have hf41 := hts (.fieldLink RX0 41 "DepotNight$Depot" "parked" "I") (by decide +kernel)
  have wZ_X0_standingOn_4 : ∀ (n : Nat) (x2 : Int32) (x3 : Int32), Z_X0_standingOn_4 D_trackOf D_parked x1 post n x2 x3 → ∀ (H : Heap) (locs : List Loc) (ls : Array Slot), va_P D vwCl [(aD, .inr (0, [.ref aD_kinds, .ref aD_washes, .ref aD_fuels, .ref aD_isBroken, .int D_units, .ref aD_lengths, .ref aD_wanted, .int D_leaving, .ref aD_trackOf, .int D_parked, .int D_changes])), (aD_trackOf, .inl (cI, 5, .inl D_trackOf))] H → va_D A [(aD, .inr (0, [.ref aD_kinds, .ref aD_washes, .ref aD_fuels, .ref aD_isBroken, .int D_units, .ref aD_lengths, .ref aD_wanted, .int D_leaving, .ref aD_trackOf, .int D_parked, .int D_changes])), (aD_trackOf, .inl (cI, 5, .inl D_trackOf))] → va_S A s.heap H locs → lv_has ls 4 [(0, .ref aD), (1, .int x1), (2, .int x2), (3, .int x3)] → W p l e ({ frames := 0, cells := 0, slots := 0, locals := 0 } : Room) s m ([.ref aD, .int x1] : List Value).toArray below meth c H locs 0 0 Q0 (F0 m 4 ls []) := by
    intro n
    induction n with
    | zero =>
      intro x2 x3 hw
      exact (show False from hw).elim
    | succ n hK4 =>
      intro x2 x3 hw H locs ls hP hD hS hl
      have hw : Y_X0_standingOn_4 D_trackOf D_parked x1 post (Z_X0_standingOn_4 D_trackOf D_parked x1 post n) x2 x3 := hw
      unfold Y_X0_standingOn_4 at hw
      refine lv_iload_n hx hb dX0_standingOn_4 rfl (lv_at hl 3 rfl) ?_
      refine lv_aload_n hx hb dX0_standingOn_5 rfl (lv_at hl 0 rfl) ?_
      refine va_get (D := D) (ci := 0) (v := .int D_parked) (C := RX0) (T := TX0) (N := 11) hx hb hts hinX0 hown hK hP 0 rfl rfl 9 (by decide) hf41 (fun _ h9 => h9) rfl dX0_standingOn_6 ?_
      refine lv_icmp_ge (tgt := 31) hx hb dX0_standingOn_9 (by decide) (fun hc1 => ?_) (fun hc1 => ?_)
      · have hw := hw.1 hc1
        refine lv_iload_n hx hb dX0_standingOn_31 rfl (lv_at hl 2 rfl) ?_
        exact hret x2  H locs 32 ls hw dX0_standingOn_32 hP hD hS 
      · have hw := hw.2 hc1
        refine lv_aload_n hx hb dX0_standingOn_12 rfl (lv_at hl 0 rfl) ?_
        refine va_get (D := D) (ci := 0) (v := .ref aD_trackOf) (C := RX0) (T := TX0) (N := 11) hx hb hts hinX0 hown hK hP 0 rfl rfl 8 (by decide) hf38 (fun _ h9 => h9) rfl dX0_standingOn_13 ?_
        refine lv_iload_n hx hb dX0_standingOn_16 rfl (lv_at hl 3 rfl) ?_
        obtain ⟨hb2, hw⟩ := hw
        refine va_iald hx hb hK hP 1 0 rfl rfl hb2 dX0_standingOn_17 ?_
        refine lv_iload_n hx hb dX0_standingOn_18 rfl (lv_at hl 1 rfl) ?_
        refine lv_icmp_ne (tgt := 25) hx hb dX0_standingOn_19 (by decide) (fun hc3 => ?_) (fun hc3 => ?_)
        · have hw := hw.1 hc3
          refine lv_iinc (v := (x3 + 1)) (lv' := [(3, .int (x3 + 1)), (0, .ref aD), (1, .int x1), (2, .int x2)]) hx hb dX0_standingOn_25 hl (k := 3) rfl rfl (by decide) rfl (fun ls hl => ?_)
          refine lv_goto (tgt := 4) hx hb dX0_standingOn_28 (by decide) ?_
          exact hK4 x2 (x3 + 1) hw H locs ls hP hD hS (lv_sub hl [1, 2, 3, 0] rfl)
        · have hw := hw.2 hc3
          refine lv_iinc (v := (x2 + 1)) (lv' := [(2, .int (x2 + 1)), (0, .ref aD), (1, .int x1), (3, .int x3)]) hx hb dX0_standingOn_22 hl (k := 2) rfl rfl (by decide) rfl (fun ls hl => ?_)
          refine lv_iinc (v := (x3 + 1)) (lv' := [(3, .int (x3 + 1)), (2, .int (x2 + 1)), (0, .ref aD), (1, .int x1)]) hx hb dX0_standingOn_25 hl (k := 3) rfl rfl (by decide) rfl (fun ls hl => ?_)
          refine lv_goto (tgt := 4) hx hb dX0_standingOn_28 (by decide) ?_
          exact hK4 (x2 + 1) (x3 + 1) hw H locs ls hP hD hS (lv_sub hl [2, 3, 1, 0] rfl)
  obtain ⟨H, hHe⟩ : ∃ H, H = s.heap := ⟨_, rfl⟩
  obtain ⟨locs, hLo⟩ : ∃ locs : List Loc, locs = [] := ⟨_, rfl⟩
  have hS : va_S A s.heap H locs := by rw [hHe, hLo]; exact hS
  have hP : va_P D vwCl [(aD, .inr (0, [.ref aD_kinds, .ref aD_washes, .ref aD_fuels, .ref aD_isBroken, .int D_units, .ref aD_lengths, .ref aD_wanted, .int D_leaving, .ref aD_trackOf, .int D_parked, .int D_changes])), (aD_trackOf, .inl (cI, 5, .inl D_trackOf))] H := by rw [hHe]; exact hP
  refine (fun (hgo : W p l e ({ frames := 0, cells := 0, slots := 0, locals := 0 } : Room) s m ([.ref aD, .int x1] : List Value).toArray below meth c H locs 0 0 Q0 (F0 m 0 ls [])) => by rw [hHe, hLo] at hgo; exact hgo) ?_
  refine lv_iconst (v := 0) hx hb dX0_standingOn_0 (by decide) ?_
  refine lv_istore_n (lv' := [(2, .int 0), (0, .ref aD), (1, .int x1)]) hx hb dX0_standingOn_1 rfl hl (by decide) rfl (fun ls hl => ?_)
  refine lv_iconst (v := 0) hx hb dX0_standingOn_2 (by decide) ?_
  refine lv_istore_n (lv' := [(3, .int 0), (2, .int 0), (0, .ref aD), (1, .int x1)]) hx hb dX0_standingOn_3 rfl hl (by decide) rfl (fun ls hl => ?_)
  obtain ⟨n4, hw⟩ := hw
  exact wZ_X0_standingOn_4  n4 0 0 hw H locs ls hP hD hS (lv_sub hl [2, 3, 1, 0] rfl)
/-! X0_fromLast -/
def Y_X0_fromLast_10 (D_trackOf : Nat → Int32) (D_parked : Int32) (x1 : Int32) (x2 : Int32) (post : Int32 → Prop) (K10 : Int32 → Int32 → Prop) (x3 : Int32) (x4 : Int32) : Prop :=
  ((x4 < 0 → post (-1) ) ∧ (¬ x4 < 0 → vp_in x4 5 ∧ (((¬ (D_trackOf x4.toNatClampNeg) = x1 → K10 x3 (x4 + (-1))) ∧ ((D_trackOf x4.toNatClampNeg) = x1 → ((¬ x3 = x2 → K10 (x3 + 1) (x4 + (-1))) ∧ (x3 = x2 → post x4 )))))))
def Z_X0_fromLast_10 (D_trackOf : Nat → Int32) (D_parked : Int32) (x1 : Int32) (x2 : Int32) (post : Int32 → Prop) : Nat → Int32 → Int32 → Prop
  | 0 => fun _ _ => False
  | n + 1 => Y_X0_fromLast_10 D_trackOf D_parked x1 x2 post (Z_X0_fromLast_10 D_trackOf D_parked x1 x2 post n)
def wp_X0_fromLast (D_trackOf : Nat → Int32) (D_parked : Int32) (x1 : Int32) (x2 : Int32) (post : Int32 → Prop) : Prop :=
  ∀ y1 : Int32, y1 = (D_parked - 1) → (∃ n, Z_X0_fromLast_10 D_trackOf D_parked x1 x2 post n 0 y1)
set_option maxHeartbeats 4000000 in
set_option maxRecDepth 100000 in
theorem c_X0_fromLast (l : Launch) (D : va_G) (cI cJ cZ : ClassId) (aD aD_kinds aD_washes aD_fuels aD_isBroken aD_lengths aD_wanted aD_trackOf : Nat) (sz : Nat) (D_units : Int32) (D_leaving : Int32) (D_parked : Int32) (D_changes : Int32) (D_trackOf : Nat → Int32) (x1 : Int32) (x2 : Int32) (post : Int32 → Prop) (hw : wp_X0_fromLast D_trackOf D_parked x1 x2 post) : Met l yX0_fromLast wsX0_fromLast ({ frames := 0, cells := 0, slots := 0, locals := 0 } : Room) (va_Pc [.ref aD, .int x1, .int x2] (zPre D cI cJ cZ [(aD, .inr (0, [.ref aD_kinds, .ref aD_washes, .ref aD_fuels, .ref aD_isBroken, .int D_units, .ref aD_lengths, .ref aD_wanted, .int D_leaving, .ref aD_trackOf, .int D_parked, .int D_changes])), (aD_trackOf, .inl (cI, 5, .inl D_trackOf))] sz)) (va_Qi (fun (r : Int32) (u : Unit) => post r) (zPost D cI cJ cZ (va_A [(aD, .inr (0, [.ref aD_kinds, .ref aD_washes, .ref aD_fuels, .ref aD_isBroken, .int D_units, .ref aD_lengths, .ref aD_wanted, .int D_leaving, .ref aD_trackOf, .int D_parked, .int D_changes])), (aD_trackOf, .inl (cI, 5, .inl D_trackOf))] sz) (fun u : Unit => [(aD, .inr (0, [.ref aD_kinds, .ref aD_washes, .ref aD_fuels, .ref aD_isBroken, .int D_units, .ref aD_lengths, .ref aD_wanted, .int D_leaving, .ref aD_trackOf, .int D_parked, .int D_changes])), (aD_trackOf, .inl (cI, 5, .inl D_trackOf))])) (va_A [(aD, .inr (0, [.ref aD_kinds, .ref aD_washes, .ref aD_fuels, .ref aD_isBroken, .int D_units, .ref aD_lengths, .ref aD_wanted, .int D_leaving, .ref aD_trackOf, .int D_parked, .int D_changes])), (aD_trackOf, .inl (cI, 5, .inl D_trackOf))] sz)) 0 0 (va_A [(aD, .inr (0, [.ref aD_kinds, .ref aD_washes, .ref aD_fuels, .ref aD_isBroken, .int D_units, .ref aD_lengths, .ref aD_wanted, .int D_leaving, .ref aD_trackOf, .int D_parked, .int D_changes])), (aD_trackOf, .inl (cI, 5, .inl D_trackOf))] sz) := by
  unfold wp_X0_fromLast at hw
  refine Met.ofW (cc := cX0_fromLast) (maxL := 5) (ret := some .int) (by decide) rfl ?_
  intro p e s m args below meth c s₁ B hml hv
  obtain ⟨rfl, hsz, hP, hK, hD0⟩ := hv
  have hx := B.exec
  have hb := B.bytes
  have hr := B.returns
  have hts := atoms_spec (ws := wsX0_fromLast) B.pre
  have hown : s.vm.findClass RX0 = some m.cls := findClass_of_methodNamed B.named
  have hlocks := B.notSynchronized
  subst hsz
  have hD := hD0.self (sz := s.heap.size)
  generalize hAe : va_A [(aD, .inr (0, [.ref aD_kinds, .ref aD_washes, .ref aD_fuels, .ref aD_isBroken, .int D_units, .ref aD_lengths, .ref aD_wanted, .int D_leaving, .ref aD_trackOf, .int D_parked, .int D_changes])), (aD_trackOf, .inl (cI, 5, .inl D_trackOf))] s.heap.size = A at hD ⊢
  have hA : ∀ q : Nat, s.heap.size ≤ q → A q := fun q h => by rw [← hAe]; exact Or.inr h
  have hS : va_S A s.heap s.heap [] := va_S.rf
  refine (fun (hall : ∀ Q0 : State → Prop, (∀ (r : Int32)  (H : Heap) (locs : List Loc) (pc : Nat) (ls : Array Slot), post r → decode cX0_fromLast pc = .ok (.ireturn, 1) → va_P D vwCl [(aD, .inr (0, [.ref aD_kinds, .ref aD_washes, .ref aD_fuels, .ref aD_isBroken, .int D_units, .ref aD_lengths, .ref aD_wanted, .int D_leaving, .ref aD_trackOf, .int D_parked, .int D_changes])), (aD_trackOf, .inl (cI, 5, .inl D_trackOf))] H → va_D A [(aD, .inr (0, [.ref aD_kinds, .ref aD_washes, .ref aD_fuels, .ref aD_isBroken, .int D_units, .ref aD_lengths, .ref aD_wanted, .int D_leaving, .ref aD_trackOf, .int D_parked, .int D_changes])), (aD_trackOf, .inl (cI, 5, .inl D_trackOf))] → va_S A s.heap H locs → W p l e ({ frames := 0, cells := 0, slots := 0, locals := 0 } : Room) s m ([.ref aD, .int x1, .int x2] : List Value).toArray below meth c H locs 0 0 Q0 (F0 m pc ls [.int r])) → W p l e ({ frames := 0, cells := 0, slots := 0, locals := 0 } : Room) s m ([.ref aD, .int x1, .int x2] : List Value).toArray below meth c s.heap [] 0 0 Q0 (entryFrame m ([.ref aD, .int x1, .int x2] : List Value).toArray 5)) => hall _ (fun r  H locs pc ls hw hd hP hD hS => W.iret (v := r) hx hb hr (fun t ht hW => ⟨⟨r, (), rfl, hw, by rw [ht]; exact hP, va_K.moved hW.alike hK, hD⟩, hS.F ht⟩) hS.2.2 hd)) ?_
  intro Q0 hret
  have hl := lv_entry ([.ref aD, .int x1, .int x2]) (n := 5) (Nat.le_of_ble_eq_true rfl)
  rw [lg_entry_eq]
  generalize (lg_sl ([.ref aD, .int x1, .int x2]) ++ List.replicate (5 - (lg_sl ([.ref aD, .int x1, .int x2])).length) Slot.unset).toArray = ls at hl ⊢
  have hl : lv_has ls 5 [(0, .ref aD), (1, .int x1), (2, .int x2)] := hl
  have hinX0 : ∀ w ∈ u_ws RX0 TX0 11, w ∈ wsX0_fromLast := by decide +kernel
  have hf38 := hts (.fieldLink RX0 38 "DepotNight$Depot" "trackOf" "[I") (by decide +kernel)
  have hf41 := hts (.fieldLink RX0 41 "DepotNight$Depot" "parked" "I") (by decide +kernel)
  have wZ_X0_fromLast_10 : ∀ (n : Nat) (x3 : Int32) (x4 : Int32), Z_X0_fromLast_10 D_trackOf D_parked x1 x2 post n x3 x4 → ∀ (H : Heap) (locs : List Loc) (ls : Array Slot), va_P D vwCl [(aD, .inr (0, [.ref aD_kinds, .ref aD_washes, .ref aD_fuels, .ref aD_isBroken, .int D_units, .ref aD_lengths, .ref aD_wanted, .int D_leaving, .ref aD_trackOf, .int D_parked, .int D_changes])), (aD_trackOf, .inl (cI, 5, .inl D_trackOf))] H → va_D A [(aD, .inr (0, [.ref aD_kinds, .ref aD_washes, .ref aD_fuels, .ref aD_isBroken, .int D_units, .ref aD_lengths, .ref aD_wanted, .int D_leaving, .ref aD_trackOf, .int D_parked, .int D_changes])), (aD_trackOf, .inl (cI, 5, .inl D_trackOf))] → va_S A s.heap H locs → lv_has ls 5 [(0, .ref aD), (1, .int x1), (2, .int x2), (3, .int x3), (4, .int x4)] → W p l e ({ frames := 0, cells := 0, slots := 0, locals := 0 } : Room) s m ([.ref aD, .int x1, .int x2] : List Value).toArray below meth c H locs 0 0 Q0 (F0 m 10 ls []) := by
    intro n
    induction n with
    | zero =>
      intro x3 x4 hw
      exact (show False from hw).elim
    | succ n hK10 =>
      intro x3 x4 hw H locs ls hP hD hS hl
      have hw : Y_X0_fromLast_10 D_trackOf D_parked x1 x2 post (Z_X0_fromLast_10 D_trackOf D_parked x1 x2 post n) x3 x4 := hw
      unfold Y_X0_fromLast_10 at hw
      refine lv_iload hx hb dX0_fromLast_10 (lv_at hl 4 rfl) ?_
      refine lv_if_lt (tgt := 43) hx hb dX0_fromLast_12 (by decide) (fun hc2 => ?_) (fun hc2 => ?_)
      · have hw := hw.1 hc2
        refine lv_iconst (v := (-1)) hx hb dX0_fromLast_43 (by decide) ?_
        exact hret (-1)  H locs 44 ls hw dX0_fromLast_44 hP hD hS 
      · have hw := hw.2 hc2
        refine lv_aload_n hx hb dX0_fromLast_15 rfl (lv_at hl 0 rfl) ?_
        refine va_get (D := D) (ci := 0) (v := .ref aD_trackOf) (C := RX0) (T := TX0) (N := 11) hx hb hts hinX0 hown hK hP 0 rfl rfl 8 (by decide) hf38 (fun _ h9 => h9) rfl dX0_fromLast_16 ?_
        refine lv_iload hx hb dX0_fromLast_19 (lv_at hl 4 rfl) ?_
        obtain ⟨hb3, hw⟩ := hw
        refine va_iald hx hb hK hP 1 0 rfl rfl hb3 dX0_fromLast_21 ?_
        refine lv_iload_n hx hb dX0_fromLast_22 rfl (lv_at hl 1 rfl) ?_
        refine lv_icmp_ne (tgt := 37) hx hb dX0_fromLast_23 (by decide) (fun hc4 => ?_) (fun hc4 => ?_)
        · have hw := hw.1 hc4
          refine lv_iinc (v := (x4 + (-1))) (lv' := [(4, .int (x4 + (-1))), (0, .ref aD), (1, .int x1), (2, .int x2), (3, .int x3)]) hx hb dX0_fromLast_37 hl (k := 4) rfl rfl (by decide) rfl (fun ls hl => ?_)
          refine lv_goto (tgt := 10) hx hb dX0_fromLast_40 (by decide) ?_
          exact hK10 x3 (x4 + (-1)) hw H locs ls hP hD hS (lv_sub hl [1, 2, 3, 4, 0] rfl)
        · have hw := hw.2 hc4
          refine lv_iload_n hx hb dX0_fromLast_26 rfl (lv_at hl 3 rfl) ?_
          refine lv_iload_n hx hb dX0_fromLast_27 rfl (lv_at hl 2 rfl) ?_
          refine lv_icmp_ne (tgt := 34) hx hb dX0_fromLast_28 (by decide) (fun hc5 => ?_) (fun hc5 => ?_)
          · have hw := hw.1 hc5
            refine lv_iinc (v := (x3 + 1)) (lv' := [(3, .int (x3 + 1)), (0, .ref aD), (1, .int x1), (2, .int x2), (4, .int x4)]) hx hb dX0_fromLast_34 hl (k := 3) rfl rfl (by decide) rfl (fun ls hl => ?_)
            refine lv_iinc (v := (x4 + (-1))) (lv' := [(4, .int (x4 + (-1))), (3, .int (x3 + 1)), (0, .ref aD), (1, .int x1), (2, .int x2)]) hx hb dX0_fromLast_37 hl (k := 4) rfl rfl (by decide) rfl (fun ls hl => ?_)
            refine lv_goto (tgt := 10) hx hb dX0_fromLast_40 (by decide) ?_
            exact hK10 (x3 + 1) (x4 + (-1)) hw H locs ls hP hD hS (lv_sub hl [2, 3, 4, 1, 0] rfl)
          · have hw := hw.2 hc5
            refine lv_iload hx hb dX0_fromLast_31 (lv_at hl 4 rfl) ?_
            exact hret x4  H locs 33 ls hw dX0_fromLast_33 hP hD hS 
  obtain ⟨H, hHe⟩ : ∃ H, H = s.heap := ⟨_, rfl⟩
  obtain ⟨locs, hLo⟩ : ∃ locs : List Loc, locs = [] := ⟨_, rfl⟩
  have hS : va_S A s.heap H locs := by rw [hHe, hLo]; exact hS
  have hP : va_P D vwCl [(aD, .inr (0, [.ref aD_kinds, .ref aD_washes, .ref aD_fuels, .ref aD_isBroken, .int D_units, .ref aD_lengths, .ref aD_wanted, .int D_leaving, .ref aD_trackOf, .int D_parked, .int D_changes])), (aD_trackOf, .inl (cI, 5, .inl D_trackOf))] H := by rw [hHe]; exact hP
  refine (fun (hgo : W p l e ({ frames := 0, cells := 0, slots := 0, locals := 0 } : Room) s m ([.ref aD, .int x1, .int x2] : List Value).toArray below meth c H locs 0 0 Q0 (F0 m 0 ls [])) => by rw [hHe, hLo] at hgo; exact hgo) ?_
  refine lv_iconst (v := 0) hx hb dX0_fromLast_0 (by decide) ?_
  refine lv_istore_n (lv' := [(3, .int 0), (0, .ref aD), (1, .int x1), (2, .int x2)]) hx hb dX0_fromLast_1 rfl hl (by decide) rfl (fun ls hl => ?_)
  refine lv_aload_n hx hb dX0_fromLast_2 rfl (lv_at hl 1 rfl) ?_
  refine va_get (D := D) (ci := 0) (v := .int D_parked) (C := RX0) (T := TX0) (N := 11) hx hb hts hinX0 hown hK hP 0 rfl rfl 9 (by decide) hf41 (fun _ h9 => h9) rfl dX0_fromLast_3 ?_
  refine lv_iconst (v := 1) hx hb dX0_fromLast_6 (by decide) ?_
  refine lv_isub hx hb dX0_fromLast_7 ?_
  refine lv_topi (fun y1 ey1 => ?_)
  have hw := hw y1 ey1
  refine lv_istore (lv' := [(4, .int y1), (3, .int 0), (0, .ref aD), (1, .int x1), (2, .int x2)]) hx hb dX0_fromLast_8 hl (by decide) rfl (fun ls hl => ?_)
  obtain ⟨n6, hw⟩ := hw
  exact wZ_X0_fromLast_10  n6 0 y1 hw H locs ls hP hD hS (lv_sub hl [2, 3, 4, 1, 0] rfl)
/-! X0_brokenUnits -/
def Y_X0_brokenUnits_4 (D_isBroken : Nat → Int32) (D_units : Int32) (post : Int32 → Prop) (K4 : Int32 → Int32 → Prop) (x1 : Int32) (x2 : Int32) : Prop :=
  ((D_units ≤ x2 → post x1 ) ∧ (¬ D_units ≤ x2 → vp_in x2 5 ∧ ((((D_isBroken x2.toNatClampNeg) = 0 → K4 x1 (x2 + 1)) ∧ (¬ (D_isBroken x2.toNatClampNeg) = 0 → K4 (x1 + 1) (x2 + 1))))))
def Z_X0_brokenUnits_4 (D_isBroken : Nat → Int32) (D_units : Int32) (post : Int32 → Prop) : Nat → Int32 → Int32 → Prop
  | 0 => fun _ _ => False
  | n + 1 => Y_X0_brokenUnits_4 D_isBroken D_units post (Z_X0_brokenUnits_4 D_isBroken D_units post n)
def wp_X0_brokenUnits (D_isBroken : Nat → Int32) (D_units : Int32) (post : Int32 → Prop) : Prop :=
  ∃ n, Z_X0_brokenUnits_4 D_isBroken D_units post n 0 0
set_option maxHeartbeats 4000000 in
set_option maxRecDepth 100000 in
theorem c_X0_brokenUnits (l : Launch) (D : va_G) (cI cJ cZ : ClassId) (aD aD_kinds aD_washes aD_fuels aD_isBroken aD_lengths aD_wanted aD_trackOf : Nat) (sz : Nat) (D_units : Int32) (D_leaving : Int32) (D_parked : Int32) (D_changes : Int32) (D_isBroken : Nat → Int32) (post : Int32 → Prop) (hw : wp_X0_brokenUnits D_isBroken D_units post) : Met l yX0_brokenUnits wsX0_brokenUnits ({ frames := 0, cells := 0, slots := 0, locals := 0 } : Room) (va_Pc [.ref aD] (zPre D cI cJ cZ [(aD, .inr (0, [.ref aD_kinds, .ref aD_washes, .ref aD_fuels, .ref aD_isBroken, .int D_units, .ref aD_lengths, .ref aD_wanted, .int D_leaving, .ref aD_trackOf, .int D_parked, .int D_changes])), (aD_isBroken, .inl (cZ, 5, .inl D_isBroken))] sz)) (va_Qi (fun (r : Int32) (u : Unit) => post r) (zPost D cI cJ cZ (va_A [(aD, .inr (0, [.ref aD_kinds, .ref aD_washes, .ref aD_fuels, .ref aD_isBroken, .int D_units, .ref aD_lengths, .ref aD_wanted, .int D_leaving, .ref aD_trackOf, .int D_parked, .int D_changes])), (aD_isBroken, .inl (cZ, 5, .inl D_isBroken))] sz) (fun u : Unit => [(aD, .inr (0, [.ref aD_kinds, .ref aD_washes, .ref aD_fuels, .ref aD_isBroken, .int D_units, .ref aD_lengths, .ref aD_wanted, .int D_leaving, .ref aD_trackOf, .int D_parked, .int D_changes])), (aD_isBroken, .inl (cZ, 5, .inl D_isBroken))])) (va_A [(aD, .inr (0, [.ref aD_kinds, .ref aD_washes, .ref aD_fuels, .ref aD_isBroken, .int D_units, .ref aD_lengths, .ref aD_wanted, .int D_leaving, .ref aD_trackOf, .int D_parked, .int D_changes])), (aD_isBroken, .inl (cZ, 5, .inl D_isBroken))] sz)) 0 0 (va_A [(aD, .inr (0, [.ref aD_kinds, .ref aD_washes, .ref aD_fuels, .ref aD_isBroken, .int D_units, .ref aD_lengths, .ref aD_wanted, .int D_leaving, .ref aD_trackOf, .int D_parked, .int D_changes])), (aD_isBroken, .inl (cZ, 5, .inl D_isBroken))] sz) := by
  unfold wp_X0_brokenUnits at hw
  refine Met.ofW (cc := cX0_brokenUnits) (maxL := 3) (ret := some .int) (by decide) rfl ?_
  intro p e s m args below meth c s₁ B hml hv
  obtain ⟨rfl, hsz, hP, hK, hD0⟩ := hv
  have hx := B.exec
  have hb := B.bytes
  have hr := B.returns
  have hts := atoms_spec (ws := wsX0_brokenUnits) B.pre
  have hown : s.vm.findClass RX0 = some m.cls := findClass_of_methodNamed B.named
  have hlocks := B.notSynchronized
  subst hsz
  have hD := hD0.self (sz := s.heap.size)
  generalize hAe : va_A [(aD, .inr (0, [.ref aD_kinds, .ref aD_washes, .ref aD_fuels, .ref aD_isBroken, .int D_units, .ref aD_lengths, .ref aD_wanted, .int D_leaving, .ref aD_trackOf, .int D_parked, .int D_changes])), (aD_isBroken, .inl (cZ, 5, .inl D_isBroken))] s.heap.size = A at hD ⊢
  have hA : ∀ q : Nat, s.heap.size ≤ q → A q := fun q h => by rw [← hAe]; exact Or.inr h
  have hS : va_S A s.heap s.heap [] := va_S.rf
  refine (fun (hall : ∀ Q0 : State → Prop, (∀ (r : Int32)  (H : Heap) (locs : List Loc) (pc : Nat) (ls : Array Slot), post r → decode cX0_brokenUnits pc = .ok (.ireturn, 1) → va_P D vwCl [(aD, .inr (0, [.ref aD_kinds, .ref aD_washes, .ref aD_fuels, .ref aD_isBroken, .int D_units, .ref aD_lengths, .ref aD_wanted, .int D_leaving, .ref aD_trackOf, .int D_parked, .int D_changes])), (aD_isBroken, .inl (cZ, 5, .inl D_isBroken))] H → va_D A [(aD, .inr (0, [.ref aD_kinds, .ref aD_washes, .ref aD_fuels, .ref aD_isBroken, .int D_units, .ref aD_lengths, .ref aD_wanted, .int D_leaving, .ref aD_trackOf, .int D_parked, .int D_changes])), (aD_isBroken, .inl (cZ, 5, .inl D_isBroken))] → va_S A s.heap H locs → W p l e ({ frames := 0, cells := 0, slots := 0, locals := 0 } : Room) s m ([.ref aD] : List Value).toArray below meth c H locs 0 0 Q0 (F0 m pc ls [.int r])) → W p l e ({ frames := 0, cells := 0, slots := 0, locals := 0 } : Room) s m ([.ref aD] : List Value).toArray below meth c s.heap [] 0 0 Q0 (entryFrame m ([.ref aD] : List Value).toArray 3)) => hall _ (fun r  H locs pc ls hw hd hP hD hS => W.iret (v := r) hx hb hr (fun t ht hW => ⟨⟨r, (), rfl, hw, by rw [ht]; exact hP, va_K.moved hW.alike hK, hD⟩, hS.F ht⟩) hS.2.2 hd)) ?_
  intro Q0 hret
  have hl := lv_entry ([.ref aD]) (n := 3) (Nat.le_of_ble_eq_true rfl)
  rw [lg_entry_eq]
  generalize (lg_sl ([.ref aD]) ++ List.replicate (3 - (lg_sl ([.ref aD])).length) Slot.unset).toArray = ls at hl ⊢
  have hl : lv_has ls 3 [(0, .ref aD)] := hl
  have hinX0 : ∀ w ∈ u_ws RX0 TX0 11, w ∈ wsX0_brokenUnits := by decide +kernel
  have hf21 := hts (.fieldLink RX0 21 "DepotNight$Depot" "isBroken" "[Z") (by decide +kernel)
  have hf25 := hts (.fieldLink RX0 25 "DepotNight$Depot" "units" "I") (by decide +kernel)
  have wZ_X0_brokenUnits_4 : ∀ (n : Nat) (x1 : Int32) (x2 : Int32), Z_X0_brokenUnits_4 D_isBroken D_units post n x1 x2 → ∀ (H : Heap) (locs : List Loc) (ls : Array Slot), va_P D vwCl [(aD, .inr (0, [.ref aD_kinds, .ref aD_washes, .ref aD_fuels, .ref aD_isBroken, .int D_units, .ref aD_lengths, .ref aD_wanted, .int D_leaving, .ref aD_trackOf, .int D_parked, .int D_changes])), (aD_isBroken, .inl (cZ, 5, .inl D_isBroken))] H → va_D A [(aD, .inr (0, [.ref aD_kinds, .ref aD_washes, .ref aD_fuels, .ref aD_isBroken, .int D_units, .ref aD_lengths, .ref aD_wanted, .int D_leaving, .ref aD_trackOf, .int D_parked, .int D_changes])), (aD_isBroken, .inl (cZ, 5, .inl D_isBroken))] → va_S A s.heap H locs → lv_has ls 3 [(0, .ref aD), (1, .int x1), (2, .int x2)] → W p l e ({ frames := 0, cells := 0, slots := 0, locals := 0 } : Room) s m ([.ref aD] : List Value).toArray below meth c H locs 0 0 Q0 (F0 m 4 ls []) := by
    intro n
    induction n with
    | zero =>
      intro x1 x2 hw
      exact (show False from hw).elim
    | succ n hK4 =>
      intro x1 x2 hw H locs ls hP hD hS hl
      have hw : Y_X0_brokenUnits_4 D_isBroken D_units post (Z_X0_brokenUnits_4 D_isBroken D_units post n) x1 x2 := hw
      unfold Y_X0_brokenUnits_4 at hw
      refine lv_iload_n hx hb dX0_brokenUnits_4 rfl (lv_at hl 2 rfl) ?_
      refine lv_aload_n hx hb dX0_brokenUnits_5 rfl (lv_at hl 0 rfl) ?_
      refine va_get (D := D) (ci := 0) (v := .int D_units) (C := RX0) (T := TX0) (N := 11) hx hb hts hinX0 hown hK hP 0 rfl rfl 4 (by decide) hf25 (fun _ h9 => h9) rfl dX0_brokenUnits_6 ?_
      refine lv_icmp_ge (tgt := 30) hx hb dX0_brokenUnits_9 (by decide) (fun hc1 => ?_) (fun hc1 => ?_)
      · have hw := hw.1 hc1
        refine lv_iload_n hx hb dX0_brokenUnits_30 rfl (lv_at hl 1 rfl) ?_
        exact hret x1  H locs 31 ls hw dX0_brokenUnits_31 hP hD hS 
      · have hw := hw.2 hc1
        refine lv_aload_n hx hb dX0_brokenUnits_12 rfl (lv_at hl 0 rfl) ?_
        refine va_get (D := D) (ci := 0) (v := .ref aD_isBroken) (C := RX0) (T := TX0) (N := 11) hx hb hts hinX0 hown hK hP 0 rfl rfl 3 (by decide) hf21 (fun _ h9 => h9) rfl dX0_brokenUnits_13 ?_
        refine lv_iload_n hx hb dX0_brokenUnits_16 rfl (lv_at hl 2 rfl) ?_
        obtain ⟨hb2, hw⟩ := hw
        refine va_zald hx hb hK hP 1 2 rfl rfl hb2 dX0_brokenUnits_17 ?_
        refine lv_if_eq (tgt := 24) hx hb dX0_brokenUnits_18 (by decide) (fun hc3 => ?_) (fun hc3 => ?_)
        · have hw := hw.1 hc3
          refine lv_iinc (v := (x2 + 1)) (lv' := [(2, .int (x2 + 1)), (0, .ref aD), (1, .int x1)]) hx hb dX0_brokenUnits_24 hl (k := 2) rfl rfl (by decide) rfl (fun ls hl => ?_)
          refine lv_goto (tgt := 4) hx hb dX0_brokenUnits_27 (by decide) ?_
          exact hK4 x1 (x2 + 1) hw H locs ls hP hD hS (lv_sub hl [1, 2, 0] rfl)
        · have hw := hw.2 hc3
          refine lv_iinc (v := (x1 + 1)) (lv' := [(1, .int (x1 + 1)), (0, .ref aD), (2, .int x2)]) hx hb dX0_brokenUnits_21 hl (k := 1) rfl rfl (by decide) rfl (fun ls hl => ?_)
          refine lv_iinc (v := (x2 + 1)) (lv' := [(2, .int (x2 + 1)), (1, .int (x1 + 1)), (0, .ref aD)]) hx hb dX0_brokenUnits_24 hl (k := 2) rfl rfl (by decide) rfl (fun ls hl => ?_)
          refine lv_goto (tgt := 4) hx hb dX0_brokenUnits_27 (by decide) ?_
          exact hK4 (x1 + 1) (x2 + 1) hw H locs ls hP hD hS (lv_sub hl [2, 1, 0] rfl)
  obtain ⟨H, hHe⟩ : ∃ H, H = s.heap := ⟨_, rfl⟩
  obtain ⟨locs, hLo⟩ : ∃ locs : List Loc, locs = [] := ⟨_, rfl⟩
  have hS : va_S A s.heap H locs := by rw [hHe, hLo]; exact hS
  have hP : va_P D vwCl [(aD, .inr (0, [.ref aD_kinds, .ref aD_washes, .ref aD_fuels, .ref aD_isBroken, .int D_units, .ref aD_lengths, .ref aD_wanted, .int D_leaving, .ref aD_trackOf, .int D_parked, .int D_changes])), (aD_isBroken, .inl (cZ, 5, .inl D_isBroken))] H := by rw [hHe]; exact hP
  refine (fun (hgo : W p l e ({ frames := 0, cells := 0, slots := 0, locals := 0 } : Room) s m ([.ref aD] : List Value).toArray below meth c H locs 0 0 Q0 (F0 m 0 ls [])) => by rw [hHe, hLo] at hgo; exact hgo) ?_
  refine lv_iconst (v := 0) hx hb dX0_brokenUnits_0 (by decide) ?_
  refine lv_istore_n (lv' := [(1, .int 0), (0, .ref aD)]) hx hb dX0_brokenUnits_1 rfl hl (by decide) rfl (fun ls hl => ?_)
  refine lv_iconst (v := 0) hx hb dX0_brokenUnits_2 (by decide) ?_
  refine lv_istore_n (lv' := [(2, .int 0), (1, .int 0), (0, .ref aD)]) hx hb dX0_brokenUnits_3 rfl hl (by decide) rfl (fun ls hl => ?_)
  obtain ⟨n4, hw⟩ := hw
  exact wZ_X0_brokenUnits_4  n4 0 0 hw H locs ls hP hD hS (lv_sub hl [2, 1, 0] rfl)
/-! X0_room -/
def Y_X0_room_4 (D_lengths : Nat → Int32) (post : Int32 → Prop) (K4 : Int32 → Int32 → Prop) (x1 : Int32) (x2 : Int32) : Prop :=
  ((3 ≤ x2 → post x1 ) ∧ (¬ 3 ≤ x2 → vp_in x2 3 ∧ (∀ y3 : Int32, y3 = (x1 + (D_lengths x2.toNatClampNeg)) → (K4 y3 (x2 + 1)))))
def Z_X0_room_4 (D_lengths : Nat → Int32) (post : Int32 → Prop) : Nat → Int32 → Int32 → Prop
  | 0 => fun _ _ => False
  | n + 1 => Y_X0_room_4 D_lengths post (Z_X0_room_4 D_lengths post n)
def wp_X0_room (D_lengths : Nat → Int32) (post : Int32 → Prop) : Prop :=
  ∃ n, Z_X0_room_4 D_lengths post n 0 0
set_option maxHeartbeats 4000000 in
set_option maxRecDepth 100000 in
theorem c_X0_room (l : Launch) (D : va_G) (cI cJ cZ : ClassId) (aD aD_kinds aD_washes aD_fuels aD_isBroken aD_lengths aD_wanted aD_trackOf : Nat) (sz : Nat) (D_units : Int32) (D_leaving : Int32) (D_parked : Int32) (D_changes : Int32) (D_lengths : Nat → Int32) (post : Int32 → Prop) (hw : wp_X0_room D_lengths post) : Met l yX0_room wsX0_room ({ frames := 0, cells := 0, slots := 0, locals := 0 } : Room) (va_Pc [.ref aD] (zPre D cI cJ cZ [(aD, .inr (0, [.ref aD_kinds, .ref aD_washes, .ref aD_fuels, .ref aD_isBroken, .int D_units, .ref aD_lengths, .ref aD_wanted, .int D_leaving, .ref aD_trackOf, .int D_parked, .int D_changes])), (aD_lengths, .inl (cI, 3, .inl D_lengths))] sz)) (va_Qi (fun (r : Int32) (u : Unit) => post r) (zPost D cI cJ cZ (va_A [(aD, .inr (0, [.ref aD_kinds, .ref aD_washes, .ref aD_fuels, .ref aD_isBroken, .int D_units, .ref aD_lengths, .ref aD_wanted, .int D_leaving, .ref aD_trackOf, .int D_parked, .int D_changes])), (aD_lengths, .inl (cI, 3, .inl D_lengths))] sz) (fun u : Unit => [(aD, .inr (0, [.ref aD_kinds, .ref aD_washes, .ref aD_fuels, .ref aD_isBroken, .int D_units, .ref aD_lengths, .ref aD_wanted, .int D_leaving, .ref aD_trackOf, .int D_parked, .int D_changes])), (aD_lengths, .inl (cI, 3, .inl D_lengths))])) (va_A [(aD, .inr (0, [.ref aD_kinds, .ref aD_washes, .ref aD_fuels, .ref aD_isBroken, .int D_units, .ref aD_lengths, .ref aD_wanted, .int D_leaving, .ref aD_trackOf, .int D_parked, .int D_changes])), (aD_lengths, .inl (cI, 3, .inl D_lengths))] sz)) 0 0 (va_A [(aD, .inr (0, [.ref aD_kinds, .ref aD_washes, .ref aD_fuels, .ref aD_isBroken, .int D_units, .ref aD_lengths, .ref aD_wanted, .int D_leaving, .ref aD_trackOf, .int D_parked, .int D_changes])), (aD_lengths, .inl (cI, 3, .inl D_lengths))] sz) := by
  unfold wp_X0_room at hw
  refine Met.ofW (cc := cX0_room) (maxL := 3) (ret := some .int) (by decide) rfl ?_
  intro p e s m args below meth c s₁ B hml hv
  obtain ⟨rfl, hsz, hP, hK, hD0⟩ := hv
  have hx := B.exec
  have hb := B.bytes
  have hr := B.returns
  have hts := atoms_spec (ws := wsX0_room) B.pre
  have hown : s.vm.findClass RX0 = some m.cls := findClass_of_methodNamed B.named
  have hlocks := B.notSynchronized
  subst hsz
  have hD := hD0.self (sz := s.heap.size)
  generalize hAe : va_A [(aD, .inr (0, [.ref aD_kinds, .ref aD_washes, .ref aD_fuels, .ref aD_isBroken, .int D_units, .ref aD_lengths, .ref aD_wanted, .int D_leaving, .ref aD_trackOf, .int D_parked, .int D_changes])), (aD_lengths, .inl (cI, 3, .inl D_lengths))] s.heap.size = A at hD ⊢
  have hA : ∀ q : Nat, s.heap.size ≤ q → A q := fun q h => by rw [← hAe]; exact Or.inr h
  have hS : va_S A s.heap s.heap [] := va_S.rf
  refine (fun (hall : ∀ Q0 : State → Prop, (∀ (r : Int32)  (H : Heap) (locs : List Loc) (pc : Nat) (ls : Array Slot), post r → decode cX0_room pc = .ok (.ireturn, 1) → va_P D vwCl [(aD, .inr (0, [.ref aD_kinds, .ref aD_washes, .ref aD_fuels, .ref aD_isBroken, .int D_units, .ref aD_lengths, .ref aD_wanted, .int D_leaving, .ref aD_trackOf, .int D_parked, .int D_changes])), (aD_lengths, .inl (cI, 3, .inl D_lengths))] H → va_D A [(aD, .inr (0, [.ref aD_kinds, .ref aD_washes, .ref aD_fuels, .ref aD_isBroken, .int D_units, .ref aD_lengths, .ref aD_wanted, .int D_leaving, .ref aD_trackOf, .int D_parked, .int D_changes])), (aD_lengths, .inl (cI, 3, .inl D_lengths))] → va_S A s.heap H locs → W p l e ({ frames := 0, cells := 0, slots := 0, locals := 0 } : Room) s m ([.ref aD] : List Value).toArray below meth c H locs 0 0 Q0 (F0 m pc ls [.int r])) → W p l e ({ frames := 0, cells := 0, slots := 0, locals := 0 } : Room) s m ([.ref aD] : List Value).toArray below meth c s.heap [] 0 0 Q0 (entryFrame m ([.ref aD] : List Value).toArray 3)) => hall _ (fun r  H locs pc ls hw hd hP hD hS => W.iret (v := r) hx hb hr (fun t ht hW => ⟨⟨r, (), rfl, hw, by rw [ht]; exact hP, va_K.moved hW.alike hK, hD⟩, hS.F ht⟩) hS.2.2 hd)) ?_
  intro Q0 hret
  have hl := lv_entry ([.ref aD]) (n := 3) (Nat.le_of_ble_eq_true rfl)
  rw [lg_entry_eq]
  generalize (lg_sl ([.ref aD]) ++ List.replicate (3 - (lg_sl ([.ref aD])).length) Slot.unset).toArray = ls at hl ⊢
  have hl : lv_has ls 3 [(0, .ref aD)] := hl
  have hinX0 : ∀ w ∈ u_ws RX0 TX0 11, w ∈ wsX0_room := by decide +kernel
  have hf29 := hts (.fieldLink RX0 29 "DepotNight$Depot" "lengths" "[I") (by decide +kernel)
  have wZ_X0_room_4 : ∀ (n : Nat) (x1 : Int32) (x2 : Int32), Z_X0_room_4 D_lengths post n x1 x2 → ∀ (H : Heap) (locs : List Loc) (ls : Array Slot), va_P D vwCl [(aD, .inr (0, [.ref aD_kinds, .ref aD_washes, .ref aD_fuels, .ref aD_isBroken, .int D_units, .ref aD_lengths, .ref aD_wanted, .int D_leaving, .ref aD_trackOf, .int D_parked, .int D_changes])), (aD_lengths, .inl (cI, 3, .inl D_lengths))] H → va_D A [(aD, .inr (0, [.ref aD_kinds, .ref aD_washes, .ref aD_fuels, .ref aD_isBroken, .int D_units, .ref aD_lengths, .ref aD_wanted, .int D_leaving, .ref aD_trackOf, .int D_parked, .int D_changes])), (aD_lengths, .inl (cI, 3, .inl D_lengths))] → va_S A s.heap H locs → lv_has ls 3 [(0, .ref aD), (1, .int x1), (2, .int x2)] → W p l e ({ frames := 0, cells := 0, slots := 0, locals := 0 } : Room) s m ([.ref aD] : List Value).toArray below meth c H locs 0 0 Q0 (F0 m 4 ls []) := by
    intro n
    induction n with
    | zero =>
      intro x1 x2 hw
      exact (show False from hw).elim
    | succ n hK4 =>
      intro x1 x2 hw H locs ls hP hD hS hl
      have hw : Y_X0_room_4 D_lengths post (Z_X0_room_4 D_lengths post n) x1 x2 := hw
      unfold Y_X0_room_4 at hw
      refine lv_iload_n hx hb dX0_room_4 rfl (lv_at hl 2 rfl) ?_
      refine lv_iconst (v := 3) hx hb dX0_room_5 (by decide) ?_
      refine lv_icmp_ge (tgt := 24) hx hb dX0_room_6 (by decide) (fun hc1 => ?_) (fun hc1 => ?_)
      · have hw := hw.1 hc1
        refine lv_iload_n hx hb dX0_room_24 rfl (lv_at hl 1 rfl) ?_
        exact hret x1  H locs 25 ls hw dX0_room_25 hP hD hS 
      · have hw := hw.2 hc1
        refine lv_iload_n hx hb dX0_room_9 rfl (lv_at hl 1 rfl) ?_
        refine lv_aload_n hx hb dX0_room_10 rfl (lv_at hl 0 rfl) ?_
        refine va_get (D := D) (ci := 0) (v := .ref aD_lengths) (C := RX0) (T := TX0) (N := 11) hx hb hts hinX0 hown hK hP 0 rfl rfl 5 (by decide) hf29 (fun _ h9 => h9) rfl dX0_room_11 ?_
        refine lv_iload_n hx hb dX0_room_14 rfl (lv_at hl 2 rfl) ?_
        obtain ⟨hb2, hw⟩ := hw
        refine va_iald hx hb hK hP 1 0 rfl rfl hb2 dX0_room_15 ?_
        refine lv_iadd hx hb dX0_room_16 ?_
        refine lv_topi (fun y3 ey3 => ?_)
        have hw := hw y3 ey3
        refine lv_istore_n (lv' := [(1, .int y3), (0, .ref aD), (2, .int x2)]) hx hb dX0_room_17 rfl hl (by decide) rfl (fun ls hl => ?_)
        refine lv_iinc (v := (x2 + 1)) (lv' := [(2, .int (x2 + 1)), (1, .int y3), (0, .ref aD)]) hx hb dX0_room_18 hl (k := 2) rfl rfl (by decide) rfl (fun ls hl => ?_)
        refine lv_goto (tgt := 4) hx hb dX0_room_21 (by decide) ?_
        exact hK4 y3 (x2 + 1) hw H locs ls hP hD hS (lv_sub hl [2, 1, 0] rfl)
  obtain ⟨H, hHe⟩ : ∃ H, H = s.heap := ⟨_, rfl⟩
  obtain ⟨locs, hLo⟩ : ∃ locs : List Loc, locs = [] := ⟨_, rfl⟩
  have hS : va_S A s.heap H locs := by rw [hHe, hLo]; exact hS
  have hP : va_P D vwCl [(aD, .inr (0, [.ref aD_kinds, .ref aD_washes, .ref aD_fuels, .ref aD_isBroken, .int D_units, .ref aD_lengths, .ref aD_wanted, .int D_leaving, .ref aD_trackOf, .int D_parked, .int D_changes])), (aD_lengths, .inl (cI, 3, .inl D_lengths))] H := by rw [hHe]; exact hP
  refine (fun (hgo : W p l e ({ frames := 0, cells := 0, slots := 0, locals := 0 } : Room) s m ([.ref aD] : List Value).toArray below meth c H locs 0 0 Q0 (F0 m 0 ls [])) => by rw [hHe, hLo] at hgo; exact hgo) ?_
  refine lv_iconst (v := 0) hx hb dX0_room_0 (by decide) ?_
  refine lv_istore_n (lv' := [(1, .int 0), (0, .ref aD)]) hx hb dX0_room_1 rfl hl (by decide) rfl (fun ls hl => ?_)
  refine lv_iconst (v := 0) hx hb dX0_room_2 (by decide) ?_
  refine lv_istore_n (lv' := [(2, .int 0), (1, .int 0), (0, .ref aD)]) hx hb dX0_room_3 rfl hl (by decide) rfl (fun ls hl => ?_)
  obtain ⟨n4, hw⟩ := hw
  exact wZ_X0_room_4  n4 0 0 hw H locs ls hP hD hS (lv_sub hl [2, 1, 0] rfl)
/-! X0_canServe -/
def wp_X0_canServe (D_kinds : Nat → Int32) (D_isBroken : Nat → Int32) (x1 : Int32) (x2 : Int32) (post : Int32 → Prop) : Prop :=
  vp_in x1 5 ∧ (((¬ (D_kinds x1.toNatClampNeg) = x2 → post 0 ) ∧ ((D_kinds x1.toNatClampNeg) = x2 → vp_in x1 5 ∧ (((¬ (D_isBroken x1.toNatClampNeg) = 0 → post 0 ) ∧ ((D_isBroken x1.toNatClampNeg) = 0 → post 1 ))))))
set_option maxHeartbeats 4000000 in
set_option maxRecDepth 100000 in
theorem c_X0_canServe (l : Launch) (D : va_G) (cI cJ cZ : ClassId) (aD aD_kinds aD_washes aD_fuels aD_isBroken aD_lengths aD_wanted aD_trackOf : Nat) (sz : Nat) (D_units : Int32) (D_leaving : Int32) (D_parked : Int32) (D_changes : Int32) (D_kinds : Nat → Int32) (D_isBroken : Nat → Int32) (x1 : Int32) (x2 : Int32) (post : Int32 → Prop) (hw : wp_X0_canServe D_kinds D_isBroken x1 x2 post) : Met l yX0_canServe wsX0_canServe ({ frames := 0, cells := 0, slots := 0, locals := 0 } : Room) (va_Pc [.ref aD, .int x1, .int x2] (zPre D cI cJ cZ [(aD, .inr (0, [.ref aD_kinds, .ref aD_washes, .ref aD_fuels, .ref aD_isBroken, .int D_units, .ref aD_lengths, .ref aD_wanted, .int D_leaving, .ref aD_trackOf, .int D_parked, .int D_changes])), (aD_kinds, .inl (cI, 5, .inl D_kinds)), (aD_isBroken, .inl (cZ, 5, .inl D_isBroken))] sz)) (va_Qi (fun (r : Int32) (u : Unit) => post r) (zPost D cI cJ cZ (va_A [(aD, .inr (0, [.ref aD_kinds, .ref aD_washes, .ref aD_fuels, .ref aD_isBroken, .int D_units, .ref aD_lengths, .ref aD_wanted, .int D_leaving, .ref aD_trackOf, .int D_parked, .int D_changes])), (aD_kinds, .inl (cI, 5, .inl D_kinds)), (aD_isBroken, .inl (cZ, 5, .inl D_isBroken))] sz) (fun u : Unit => [(aD, .inr (0, [.ref aD_kinds, .ref aD_washes, .ref aD_fuels, .ref aD_isBroken, .int D_units, .ref aD_lengths, .ref aD_wanted, .int D_leaving, .ref aD_trackOf, .int D_parked, .int D_changes])), (aD_kinds, .inl (cI, 5, .inl D_kinds)), (aD_isBroken, .inl (cZ, 5, .inl D_isBroken))])) (va_A [(aD, .inr (0, [.ref aD_kinds, .ref aD_washes, .ref aD_fuels, .ref aD_isBroken, .int D_units, .ref aD_lengths, .ref aD_wanted, .int D_leaving, .ref aD_trackOf, .int D_parked, .int D_changes])), (aD_kinds, .inl (cI, 5, .inl D_kinds)), (aD_isBroken, .inl (cZ, 5, .inl D_isBroken))] sz)) 0 0 (va_A [(aD, .inr (0, [.ref aD_kinds, .ref aD_washes, .ref aD_fuels, .ref aD_isBroken, .int D_units, .ref aD_lengths, .ref aD_wanted, .int D_leaving, .ref aD_trackOf, .int D_parked, .int D_changes])), (aD_kinds, .inl (cI, 5, .inl D_kinds)), (aD_isBroken, .inl (cZ, 5, .inl D_isBroken))] sz) := by
  unfold wp_X0_canServe at hw
  refine Met.ofW (cc := cX0_canServe) (maxL := 3) (ret := some .boolean) (by decide) rfl ?_
  intro p e s m args below meth c s₁ B hml hv
  obtain ⟨rfl, hsz, hP, hK, hD0⟩ := hv
  have hx := B.exec
  have hb := B.bytes
  have hr := B.returns
  have hts := atoms_spec (ws := wsX0_canServe) B.pre
  have hown : s.vm.findClass RX0 = some m.cls := findClass_of_methodNamed B.named
  have hlocks := B.notSynchronized
  subst hsz
  have hD := hD0.self (sz := s.heap.size)
  generalize hAe : va_A [(aD, .inr (0, [.ref aD_kinds, .ref aD_washes, .ref aD_fuels, .ref aD_isBroken, .int D_units, .ref aD_lengths, .ref aD_wanted, .int D_leaving, .ref aD_trackOf, .int D_parked, .int D_changes])), (aD_kinds, .inl (cI, 5, .inl D_kinds)), (aD_isBroken, .inl (cZ, 5, .inl D_isBroken))] s.heap.size = A at hD ⊢
  have hA : ∀ q : Nat, s.heap.size ≤ q → A q := fun q h => by rw [← hAe]; exact Or.inr h
  have hS : va_S A s.heap s.heap [] := va_S.rf
  refine (fun (hall : ∀ Q0 : State → Prop, (∀ (r : Int32)  (H : Heap) (locs : List Loc) (pc : Nat) (ls : Array Slot), post r → decode cX0_canServe pc = .ok (.ireturn, 1) → va_P D vwCl [(aD, .inr (0, [.ref aD_kinds, .ref aD_washes, .ref aD_fuels, .ref aD_isBroken, .int D_units, .ref aD_lengths, .ref aD_wanted, .int D_leaving, .ref aD_trackOf, .int D_parked, .int D_changes])), (aD_kinds, .inl (cI, 5, .inl D_kinds)), (aD_isBroken, .inl (cZ, 5, .inl D_isBroken))] H → va_D A [(aD, .inr (0, [.ref aD_kinds, .ref aD_washes, .ref aD_fuels, .ref aD_isBroken, .int D_units, .ref aD_lengths, .ref aD_wanted, .int D_leaving, .ref aD_trackOf, .int D_parked, .int D_changes])), (aD_kinds, .inl (cI, 5, .inl D_kinds)), (aD_isBroken, .inl (cZ, 5, .inl D_isBroken))] → va_S A s.heap H locs → narrow .boolean (.int r) = .int r → W p l e ({ frames := 0, cells := 0, slots := 0, locals := 0 } : Room) s m ([.ref aD, .int x1, .int x2] : List Value).toArray below meth c H locs 0 0 Q0 (F0 m pc ls [.int r])) → W p l e ({ frames := 0, cells := 0, slots := 0, locals := 0 } : Room) s m ([.ref aD, .int x1, .int x2] : List Value).toArray below meth c s.heap [] 0 0 Q0 (entryFrame m ([.ref aD, .int x1, .int x2] : List Value).toArray 3)) => hall _ (fun r  H locs pc ls hw hd hP hD hS hnr => W.zret (v := r) hx hb hr hnr (fun t ht hW => ⟨⟨r, (), rfl, hw, by rw [ht]; exact hP, va_K.moved hW.alike hK, hD⟩, hS.F ht⟩) hS.2.2 hd)) ?_
  intro Q0 hret
  have hl := lv_entry ([.ref aD, .int x1, .int x2]) (n := 3) (Nat.le_of_ble_eq_true rfl)
  rw [lg_entry_eq]
  generalize (lg_sl ([.ref aD, .int x1, .int x2]) ++ List.replicate (3 - (lg_sl ([.ref aD, .int x1, .int x2])).length) Slot.unset).toArray = ls at hl ⊢
  have hl : lv_has ls 3 [(0, .ref aD), (1, .int x1), (2, .int x2)] := hl
  have hinX0 : ∀ w ∈ u_ws RX0 TX0 11, w ∈ wsX0_canServe := by decide +kernel
  have hf9 := hts (.fieldLink RX0 9 "DepotNight$Depot" "kinds" "[I") (by decide +kernel)
  have hf21 := hts (.fieldLink RX0 21 "DepotNight$Depot" "isBroken" "[Z") (by decide +kernel)
  obtain ⟨H, hHe⟩ : ∃ H, H = s.heap := ⟨_, rfl⟩
  obtain ⟨locs, hLo⟩ : ∃ locs : List Loc, locs = [] := ⟨_, rfl⟩
  have hS : va_S A s.heap H locs := by rw [hHe, hLo]; exact hS
  have hP : va_P D vwCl [(aD, .inr (0, [.ref aD_kinds, .ref aD_washes, .ref aD_fuels, .ref aD_isBroken, .int D_units, .ref aD_lengths, .ref aD_wanted, .int D_leaving, .ref aD_trackOf, .int D_parked, .int D_changes])), (aD_kinds, .inl (cI, 5, .inl D_kinds)), (aD_isBroken, .inl (cZ, 5, .inl D_isBroken))] H := by rw [hHe]; exact hP
  refine (fun (hgo : W p l e ({ frames := 0, cells := 0, slots := 0, locals := 0 } : Room) s m ([.ref aD, .int x1, .int x2] : List Value).toArray below meth c H locs 0 0 Q0 (F0 m 0 ls [])) => by rw [hHe, hLo] at hgo; exact hgo) ?_
  refine lv_aload_n hx hb dX0_canServe_0 rfl (lv_at hl 0 rfl) ?_
  refine va_get (D := D) (ci := 0) (v := .ref aD_kinds) (C := RX0) (T := TX0) (N := 11) hx hb hts hinX0 hown hK hP 0 rfl rfl 0 (by decide) hf9 (fun _ h9 => h9) rfl dX0_canServe_1 ?_
  refine lv_iload_n hx hb dX0_canServe_4 rfl (lv_at hl 1 rfl) ?_
  obtain ⟨hb1, hw⟩ := hw
  refine va_iald hx hb hK hP 1 0 rfl rfl hb1 dX0_canServe_5 ?_
  refine lv_iload_n hx hb dX0_canServe_6 rfl (lv_at hl 2 rfl) ?_
  refine lv_icmp_ne (tgt := 23) hx hb dX0_canServe_7 (by decide) (fun hc2 => ?_) (fun hc2 => ?_)
  · have hw := hw.1 hc2
    refine lv_iconst (v := 0) hx hb dX0_canServe_23 (by decide) ?_
    exact hret 0  H locs 24 ls hw dX0_canServe_24 hP hD hS rfl
  · have hw := hw.2 hc2
    refine lv_aload_n hx hb dX0_canServe_10 rfl (lv_at hl 0 rfl) ?_
    refine va_get (D := D) (ci := 0) (v := .ref aD_isBroken) (C := RX0) (T := TX0) (N := 11) hx hb hts hinX0 hown hK hP 0 rfl rfl 3 (by decide) hf21 (fun _ h9 => h9) rfl dX0_canServe_11 ?_
    refine lv_iload_n hx hb dX0_canServe_14 rfl (lv_at hl 1 rfl) ?_
    obtain ⟨hb3, hw⟩ := hw
    refine va_zald hx hb hK hP 2 2 rfl rfl hb3 dX0_canServe_15 ?_
    refine lv_if_ne (tgt := 23) hx hb dX0_canServe_16 (by decide) (fun hc4 => ?_) (fun hc4 => ?_)
    · have hw := hw.1 hc4
      refine lv_iconst (v := 0) hx hb dX0_canServe_23 (by decide) ?_
      exact hret 0  H locs 24 ls hw dX0_canServe_24 hP hD hS rfl
    · have hw := hw.2 hc4
      refine lv_iconst (v := 1) hx hb dX0_canServe_19 (by decide) ?_
      refine lv_goto (tgt := 24) hx hb dX0_canServe_20 (by decide) ?_
      exact hret 1  H locs 24 ls hw dX0_canServe_24 hP hD hS rfl
/-! X0_timesWanted -/
def Y_X0_timesWanted_4 (D_wanted : Nat → Int32) (D_leaving : Int32) (x1 : Int32) (post : Int32 → Prop) (K4 : Int32 → Int32 → Prop) (x2 : Int32) (x3 : Int32) : Prop :=
  ((D_leaving ≤ x3 → post x2 ) ∧ (¬ D_leaving ≤ x3 → vp_in x3 5 ∧ (((¬ (D_wanted x3.toNatClampNeg) = x1 → K4 x2 (x3 + 1)) ∧ ((D_wanted x3.toNatClampNeg) = x1 → K4 (x2 + 1) (x3 + 1))))))
def Z_X0_timesWanted_4 (D_wanted : Nat → Int32) (D_leaving : Int32) (x1 : Int32) (post : Int32 → Prop) : Nat → Int32 → Int32 → Prop
  | 0 => fun _ _ => False
  | n + 1 => Y_X0_timesWanted_4 D_wanted D_leaving x1 post (Z_X0_timesWanted_4 D_wanted D_leaving x1 post n)
def wp_X0_timesWanted (D_wanted : Nat → Int32) (D_leaving : Int32) (x1 : Int32) (post : Int32 → Prop) : Prop :=
  ∃ n, Z_X0_timesWanted_4 D_wanted D_leaving x1 post n 0 0
set_option maxHeartbeats 4000000 in
set_option maxRecDepth 100000 in
theorem c_X0_timesWanted (l : Launch) (D : va_G) (cI cJ cZ : ClassId) (aD aD_kinds aD_washes aD_fuels aD_isBroken aD_lengths aD_wanted aD_trackOf : Nat) (sz : Nat) (D_units : Int32) (D_leaving : Int32) (D_parked : Int32) (D_changes : Int32) (D_wanted : Nat → Int32) (x1 : Int32) (post : Int32 → Prop) (hw : wp_X0_timesWanted D_wanted D_leaving x1 post) : Met l yX0_timesWanted wsX0_timesWanted ({ frames := 0, cells := 0, slots := 0, locals := 0 } : Room) (va_Pc [.ref aD, .int x1] (zPre D cI cJ cZ [(aD, .inr (0, [.ref aD_kinds, .ref aD_washes, .ref aD_fuels, .ref aD_isBroken, .int D_units, .ref aD_lengths, .ref aD_wanted, .int D_leaving, .ref aD_trackOf, .int D_parked, .int D_changes])), (aD_wanted, .inl (cI, 5, .inl D_wanted))] sz)) (va_Qi (fun (r : Int32) (u : Unit) => post r) (zPost D cI cJ cZ (va_A [(aD, .inr (0, [.ref aD_kinds, .ref aD_washes, .ref aD_fuels, .ref aD_isBroken, .int D_units, .ref aD_lengths, .ref aD_wanted, .int D_leaving, .ref aD_trackOf, .int D_parked, .int D_changes])), (aD_wanted, .inl (cI, 5, .inl D_wanted))] sz) (fun u : Unit => [(aD, .inr (0, [.ref aD_kinds, .ref aD_washes, .ref aD_fuels, .ref aD_isBroken, .int D_units, .ref aD_lengths, .ref aD_wanted, .int D_leaving, .ref aD_trackOf, .int D_parked, .int D_changes])), (aD_wanted, .inl (cI, 5, .inl D_wanted))])) (va_A [(aD, .inr (0, [.ref aD_kinds, .ref aD_washes, .ref aD_fuels, .ref aD_isBroken, .int D_units, .ref aD_lengths, .ref aD_wanted, .int D_leaving, .ref aD_trackOf, .int D_parked, .int D_changes])), (aD_wanted, .inl (cI, 5, .inl D_wanted))] sz)) 0 0 (va_A [(aD, .inr (0, [.ref aD_kinds, .ref aD_washes, .ref aD_fuels, .ref aD_isBroken, .int D_units, .ref aD_lengths, .ref aD_wanted, .int D_leaving, .ref aD_trackOf, .int D_parked, .int D_changes])), (aD_wanted, .inl (cI, 5, .inl D_wanted))] sz) := by
  unfold wp_X0_timesWanted at hw
  refine Met.ofW (cc := cX0_timesWanted) (maxL := 4) (ret := some .int) (by decide) rfl ?_
  intro p e s m args below meth c s₁ B hml hv
  obtain ⟨rfl, hsz, hP, hK, hD0⟩ := hv
  have hx := B.exec
  have hb := B.bytes
  have hr := B.returns
  have hts := atoms_spec (ws := wsX0_timesWanted) B.pre
  have hown : s.vm.findClass RX0 = some m.cls := findClass_of_methodNamed B.named
  have hlocks := B.notSynchronized
  subst hsz
  have hD := hD0.self (sz := s.heap.size)
  generalize hAe : va_A [(aD, .inr (0, [.ref aD_kinds, .ref aD_washes, .ref aD_fuels, .ref aD_isBroken, .int D_units, .ref aD_lengths, .ref aD_wanted, .int D_leaving, .ref aD_trackOf, .int D_parked, .int D_changes])), (aD_wanted, .inl (cI, 5, .inl D_wanted))] s.heap.size = A at hD ⊢
  have hA : ∀ q : Nat, s.heap.size ≤ q → A q := fun q h => by rw [← hAe]; exact Or.inr h
  have hS : va_S A s.heap s.heap [] := va_S.rf
  refine (fun (hall : ∀ Q0 : State → Prop, (∀ (r : Int32)  (H : Heap) (locs : List Loc) (pc : Nat) (ls : Array Slot), post r → decode cX0_timesWanted pc = .ok (.ireturn, 1) → va_P D vwCl [(aD, .inr (0, [.ref aD_kinds, .ref aD_washes, .ref aD_fuels, .ref aD_isBroken, .int D_units, .ref aD_lengths, .ref aD_wanted, .int D_leaving, .ref aD_trackOf, .int D_parked, .int D_changes])), (aD_wanted, .inl (cI, 5, .inl D_wanted))] H → va_D A [(aD, .inr (0, [.ref aD_kinds, .ref aD_washes, .ref aD_fuels, .ref aD_isBroken, .int D_units, .ref aD_lengths, .ref aD_wanted, .int D_leaving, .ref aD_trackOf, .int D_parked, .int D_changes])), (aD_wanted, .inl (cI, 5, .inl D_wanted))] → va_S A s.heap H locs → W p l e ({ frames := 0, cells := 0, slots := 0, locals := 0 } : Room) s m ([.ref aD, .int x1] : List Value).toArray below meth c H locs 0 0 Q0 (F0 m pc ls [.int r])) → W p l e ({ frames := 0, cells := 0, slots := 0, locals := 0 } : Room) s m ([.ref aD, .int x1] : List Value).toArray below meth c s.heap [] 0 0 Q0 (entryFrame m ([.ref aD, .int x1] : List Value).toArray 4)) => hall _ (fun r  H locs pc ls hw hd hP hD hS => W.iret (v := r) hx hb hr (fun t ht hW => ⟨⟨r, (), rfl, hw, by rw [ht]; exact hP, va_K.moved hW.alike hK, hD⟩, hS.F ht⟩) hS.2.2 hd)) ?_
  intro Q0 hret
  have hl := lv_entry ([.ref aD, .int x1]) (n := 4) (Nat.le_of_ble_eq_true rfl)
  rw [lg_entry_eq]
  generalize (lg_sl ([.ref aD, .int x1]) ++ List.replicate (4 - (lg_sl ([.ref aD, .int x1])).length) Slot.unset).toArray = ls at hl ⊢
  have hl : lv_has ls 4 [(0, .ref aD), (1, .int x1)] := hl
  have hinX0 : ∀ w ∈ u_ws RX0 TX0 11, w ∈ wsX0_timesWanted := by decide +kernel
  have hf32 := hts (.fieldLink RX0 32 "DepotNight$Depot" "wanted" "[I") (by decide +kernel)
  have hf35 := hts (.fieldLink RX0 35 "DepotNight$Depot" "leaving" "I") (by decide +kernel)
  have wZ_X0_timesWanted_4 : ∀ (n : Nat) (x2 : Int32) (x3 : Int32), Z_X0_timesWanted_4 D_wanted D_leaving x1 post n x2 x3 → ∀ (H : Heap) (locs : List Loc) (ls : Array Slot), va_P D vwCl [(aD, .inr (0, [.ref aD_kinds, .ref aD_washes, .ref aD_fuels, .ref aD_isBroken, .int D_units, .ref aD_lengths, .ref aD_wanted, .int D_leaving, .ref aD_trackOf, .int D_parked, .int D_changes])), (aD_wanted, .inl (cI, 5, .inl D_wanted))] H → va_D A [(aD, .inr (0, [.ref aD_kinds, .ref aD_washes, .ref aD_fuels, .ref aD_isBroken, .int D_units, .ref aD_lengths, .ref aD_wanted, .int D_leaving, .ref aD_trackOf, .int D_parked, .int D_changes])), (aD_wanted, .inl (cI, 5, .inl D_wanted))] → va_S A s.heap H locs → lv_has ls 4 [(0, .ref aD), (1, .int x1), (2, .int x2), (3, .int x3)] → W p l e ({ frames := 0, cells := 0, slots := 0, locals := 0 } : Room) s m ([.ref aD, .int x1] : List Value).toArray below meth c H locs 0 0 Q0 (F0 m 4 ls []) := by
    intro n
    induction n with
    | zero =>
      intro x2 x3 hw
      exact (show False from hw).elim
    | succ n hK4 =>
      intro x2 x3 hw H locs ls hP hD hS hl
      have hw : Y_X0_timesWanted_4 D_wanted D_leaving x1 post (Z_X0_timesWanted_4 D_wanted D_leaving x1 post n) x2 x3 := hw
      unfold Y_X0_timesWanted_4 at hw
      refine lv_iload_n hx hb dX0_timesWanted_4 rfl (lv_at hl 3 rfl) ?_
      refine lv_aload_n hx hb dX0_timesWanted_5 rfl (lv_at hl 0 rfl) ?_
      refine va_get (D := D) (ci := 0) (v := .int D_leaving) (C := RX0) (T := TX0) (N := 11) hx hb hts hinX0 hown hK hP 0 rfl rfl 7 (by decide) hf35 (fun _ h9 => h9) rfl dX0_timesWanted_6 ?_
      refine lv_icmp_ge (tgt := 31) hx hb dX0_timesWanted_9 (by decide) (fun hc1 => ?_) (fun hc1 => ?_)
      · have hw := hw.1 hc1
        refine lv_iload_n hx hb dX0_timesWanted_31 rfl (lv_at hl 2 rfl) ?_
        exact hret x2  H locs 32 ls hw dX0_timesWanted_32 hP hD hS 
      · have hw := hw.2 hc1
        refine lv_aload_n hx hb dX0_timesWanted_12 rfl (lv_at hl 0 rfl) ?_
        refine va_get (D := D) (ci := 0) (v := .ref aD_wanted) (C := RX0) (T := TX0) (N := 11) hx hb hts hinX0 hown hK hP 0 rfl rfl 6 (by decide) hf32 (fun _ h9 => h9) rfl dX0_timesWanted_13 ?_
        refine lv_iload_n hx hb dX0_timesWanted_16 rfl (lv_at hl 3 rfl) ?_
        obtain ⟨hb2, hw⟩ := hw
        refine va_iald hx hb hK hP 1 0 rfl rfl hb2 dX0_timesWanted_17 ?_
        refine lv_iload_n hx hb dX0_timesWanted_18 rfl (lv_at hl 1 rfl) ?_
        refine lv_icmp_ne (tgt := 25) hx hb dX0_timesWanted_19 (by decide) (fun hc3 => ?_) (fun hc3 => ?_)
        · have hw := hw.1 hc3
          refine lv_iinc (v := (x3 + 1)) (lv' := [(3, .int (x3 + 1)), (0, .ref aD), (1, .int x1), (2, .int x2)]) hx hb dX0_timesWanted_25 hl (k := 3) rfl rfl (by decide) rfl (fun ls hl => ?_)
          refine lv_goto (tgt := 4) hx hb dX0_timesWanted_28 (by decide) ?_
          exact hK4 x2 (x3 + 1) hw H locs ls hP hD hS (lv_sub hl [1, 2, 3, 0] rfl)
        · have hw := hw.2 hc3
          refine lv_iinc (v := (x2 + 1)) (lv' := [(2, .int (x2 + 1)), (0, .ref aD), (1, .int x1), (3, .int x3)]) hx hb dX0_timesWanted_22 hl (k := 2) rfl rfl (by decide) rfl (fun ls hl => ?_)
          refine lv_iinc (v := (x3 + 1)) (lv' := [(3, .int (x3 + 1)), (2, .int (x2 + 1)), (0, .ref aD), (1, .int x1)]) hx hb dX0_timesWanted_25 hl (k := 3) rfl rfl (by decide) rfl (fun ls hl => ?_)
          refine lv_goto (tgt := 4) hx hb dX0_timesWanted_28 (by decide) ?_
          exact hK4 (x2 + 1) (x3 + 1) hw H locs ls hP hD hS (lv_sub hl [2, 3, 1, 0] rfl)
  obtain ⟨H, hHe⟩ : ∃ H, H = s.heap := ⟨_, rfl⟩
  obtain ⟨locs, hLo⟩ : ∃ locs : List Loc, locs = [] := ⟨_, rfl⟩
  have hS : va_S A s.heap H locs := by rw [hHe, hLo]; exact hS
  have hP : va_P D vwCl [(aD, .inr (0, [.ref aD_kinds, .ref aD_washes, .ref aD_fuels, .ref aD_isBroken, .int D_units, .ref aD_lengths, .ref aD_wanted, .int D_leaving, .ref aD_trackOf, .int D_parked, .int D_changes])), (aD_wanted, .inl (cI, 5, .inl D_wanted))] H := by rw [hHe]; exact hP
  refine (fun (hgo : W p l e ({ frames := 0, cells := 0, slots := 0, locals := 0 } : Room) s m ([.ref aD, .int x1] : List Value).toArray below meth c H locs 0 0 Q0 (F0 m 0 ls [])) => by rw [hHe, hLo] at hgo; exact hgo) ?_
  refine lv_iconst (v := 0) hx hb dX0_timesWanted_0 (by decide) ?_
  refine lv_istore_n (lv' := [(2, .int 0), (0, .ref aD), (1, .int x1)]) hx hb dX0_timesWanted_1 rfl hl (by decide) rfl (fun ls hl => ?_)
  refine lv_iconst (v := 0) hx hb dX0_timesWanted_2 (by decide) ?_
  refine lv_istore_n (lv' := [(3, .int 0), (2, .int 0), (0, .ref aD), (1, .int x1)]) hx hb dX0_timesWanted_3 rfl hl (by decide) rfl (fun ls hl => ?_)
  obtain ⟨n4, hw⟩ := hw
  exact wZ_X0_timesWanted_4  n4 0 0 hw H locs ls hP hD hS (lv_sub hl [2, 3, 1, 0] rfl)
/-! X0_serving -/
def Y_X0_serving_5 (D_kinds : Nat → Int32) (D_isBroken : Nat → Int32) (x1 : Int32) (x2 : Int32) (post : Int32 → Prop) (K5 : Int32 → Int32 → Prop) (x3 : Int32) (x4 : Int32) : Prop :=
  ((x2 ≤ x4 → post x3 ) ∧ (¬ x2 ≤ x4 → wp_X0_canServe D_kinds D_isBroken x4 x1 (fun (r2 : Int32) => ((r2 = 0 → K5 x3 (x4 + 1)) ∧ (¬ r2 = 0 → K5 (x3 + 1) (x4 + 1))))))
def Z_X0_serving_5 (D_kinds : Nat → Int32) (D_isBroken : Nat → Int32) (x1 : Int32) (x2 : Int32) (post : Int32 → Prop) : Nat → Int32 → Int32 → Prop
  | 0 => fun _ _ => False
  | n + 1 => Y_X0_serving_5 D_kinds D_isBroken x1 x2 post (Z_X0_serving_5 D_kinds D_isBroken x1 x2 post n)
def wp_X0_serving (D_kinds : Nat → Int32) (D_isBroken : Nat → Int32) (x1 : Int32) (x2 : Int32) (post : Int32 → Prop) : Prop :=
  ∃ n, Z_X0_serving_5 D_kinds D_isBroken x1 x2 post n 0 0
set_option maxHeartbeats 4000000 in
set_option maxRecDepth 100000 in
theorem c_X0_serving (l : Launch) (D : va_G) (cI cJ cZ : ClassId) (aD aD_kinds aD_washes aD_fuels aD_isBroken aD_lengths aD_wanted aD_trackOf : Nat) (sz : Nat) (D_units : Int32) (D_leaving : Int32) (D_parked : Int32) (D_changes : Int32) (D_kinds : Nat → Int32) (D_isBroken : Nat → Int32) (x1 : Int32) (x2 : Int32) (post : Int32 → Prop) (hw : wp_X0_serving D_kinds D_isBroken x1 x2 post) : Met l yX0_serving wsX0_serving ({ frames := 1, cells := 0, slots := 0, locals := 22 } : Room) (va_Pc [.ref aD, .int x1, .int x2] (zPre D cI cJ cZ [(aD, .inr (0, [.ref aD_kinds, .ref aD_washes, .ref aD_fuels, .ref aD_isBroken, .int D_units, .ref aD_lengths, .ref aD_wanted, .int D_leaving, .ref aD_trackOf, .int D_parked, .int D_changes])), (aD_kinds, .inl (cI, 5, .inl D_kinds)), (aD_isBroken, .inl (cZ, 5, .inl D_isBroken))] sz)) (va_Qi (fun (r : Int32) (u : Unit) => post r) (zPost D cI cJ cZ (va_A [(aD, .inr (0, [.ref aD_kinds, .ref aD_washes, .ref aD_fuels, .ref aD_isBroken, .int D_units, .ref aD_lengths, .ref aD_wanted, .int D_leaving, .ref aD_trackOf, .int D_parked, .int D_changes])), (aD_kinds, .inl (cI, 5, .inl D_kinds)), (aD_isBroken, .inl (cZ, 5, .inl D_isBroken))] sz) (fun u : Unit => [(aD, .inr (0, [.ref aD_kinds, .ref aD_washes, .ref aD_fuels, .ref aD_isBroken, .int D_units, .ref aD_lengths, .ref aD_wanted, .int D_leaving, .ref aD_trackOf, .int D_parked, .int D_changes])), (aD_kinds, .inl (cI, 5, .inl D_kinds)), (aD_isBroken, .inl (cZ, 5, .inl D_isBroken))])) (va_A [(aD, .inr (0, [.ref aD_kinds, .ref aD_washes, .ref aD_fuels, .ref aD_isBroken, .int D_units, .ref aD_lengths, .ref aD_wanted, .int D_leaving, .ref aD_trackOf, .int D_parked, .int D_changes])), (aD_kinds, .inl (cI, 5, .inl D_kinds)), (aD_isBroken, .inl (cZ, 5, .inl D_isBroken))] sz)) 0 0 (va_A [(aD, .inr (0, [.ref aD_kinds, .ref aD_washes, .ref aD_fuels, .ref aD_isBroken, .int D_units, .ref aD_lengths, .ref aD_wanted, .int D_leaving, .ref aD_trackOf, .int D_parked, .int D_changes])), (aD_kinds, .inl (cI, 5, .inl D_kinds)), (aD_isBroken, .inl (cZ, 5, .inl D_isBroken))] sz) := by
  unfold wp_X0_serving at hw
  refine Met.ofW (cc := cX0_serving) (maxL := 5) (ret := some .int) (by decide) rfl ?_
  intro p e s m args below meth c s₁ B hml hv
  obtain ⟨rfl, hsz, hP, hK, hD0⟩ := hv
  have hx := B.exec
  have hb := B.bytes
  have hr := B.returns
  have hts := atoms_spec (ws := wsX0_serving) B.pre
  have hown : s.vm.findClass RX0 = some m.cls := findClass_of_methodNamed B.named
  have hlocks := B.notSynchronized
  subst hsz
  have hD := hD0.self (sz := s.heap.size)
  generalize hAe : va_A [(aD, .inr (0, [.ref aD_kinds, .ref aD_washes, .ref aD_fuels, .ref aD_isBroken, .int D_units, .ref aD_lengths, .ref aD_wanted, .int D_leaving, .ref aD_trackOf, .int D_parked, .int D_changes])), (aD_kinds, .inl (cI, 5, .inl D_kinds)), (aD_isBroken, .inl (cZ, 5, .inl D_isBroken))] s.heap.size = A at hD ⊢
  have hA : ∀ q : Nat, s.heap.size ≤ q → A q := fun q h => by rw [← hAe]; exact Or.inr h
  have hS : va_S A s.heap s.heap [] := va_S.rf
  refine (fun (hall : ∀ Q0 : State → Prop, (∀ (r : Int32)  (H : Heap) (locs : List Loc) (pc : Nat) (ls : Array Slot), post r → decode cX0_serving pc = .ok (.ireturn, 1) → va_P D vwCl [(aD, .inr (0, [.ref aD_kinds, .ref aD_washes, .ref aD_fuels, .ref aD_isBroken, .int D_units, .ref aD_lengths, .ref aD_wanted, .int D_leaving, .ref aD_trackOf, .int D_parked, .int D_changes])), (aD_kinds, .inl (cI, 5, .inl D_kinds)), (aD_isBroken, .inl (cZ, 5, .inl D_isBroken))] H → va_D A [(aD, .inr (0, [.ref aD_kinds, .ref aD_washes, .ref aD_fuels, .ref aD_isBroken, .int D_units, .ref aD_lengths, .ref aD_wanted, .int D_leaving, .ref aD_trackOf, .int D_parked, .int D_changes])), (aD_kinds, .inl (cI, 5, .inl D_kinds)), (aD_isBroken, .inl (cZ, 5, .inl D_isBroken))] → va_S A s.heap H locs → W p l e ({ frames := 1, cells := 0, slots := 0, locals := 22 } : Room) s m ([.ref aD, .int x1, .int x2] : List Value).toArray below meth c H locs 0 0 Q0 (F0 m pc ls [.int r])) → W p l e ({ frames := 1, cells := 0, slots := 0, locals := 22 } : Room) s m ([.ref aD, .int x1, .int x2] : List Value).toArray below meth c s.heap [] 0 0 Q0 (entryFrame m ([.ref aD, .int x1, .int x2] : List Value).toArray 5)) => hall _ (fun r  H locs pc ls hw hd hP hD hS => W.iret (v := r) hx hb hr (fun t ht hW => ⟨⟨r, (), rfl, hw, by rw [ht]; exact hP, va_K.moved hW.alike hK, hD⟩, hS.F ht⟩) hS.2.2 hd)) ?_
  intro Q0 hret
  have hl := lv_entry ([.ref aD, .int x1, .int x2]) (n := 5) (Nat.le_of_ble_eq_true rfl)
  rw [lg_entry_eq]
  generalize (lg_sl ([.ref aD, .int x1, .int x2]) ++ List.replicate (5 - (lg_sl ([.ref aD, .int x1, .int x2])).length) Slot.unset).toArray = ls at hl ⊢
  have hl : lv_has ls 5 [(0, .ref aD), (1, .int x1), (2, .int x2)] := hl
  have wZ_X0_serving_5 : ∀ (n : Nat) (x3 : Int32) (x4 : Int32), Z_X0_serving_5 D_kinds D_isBroken x1 x2 post n x3 x4 → ∀ (H : Heap) (locs : List Loc) (ls : Array Slot), va_P D vwCl [(aD, .inr (0, [.ref aD_kinds, .ref aD_washes, .ref aD_fuels, .ref aD_isBroken, .int D_units, .ref aD_lengths, .ref aD_wanted, .int D_leaving, .ref aD_trackOf, .int D_parked, .int D_changes])), (aD_kinds, .inl (cI, 5, .inl D_kinds)), (aD_isBroken, .inl (cZ, 5, .inl D_isBroken))] H → va_D A [(aD, .inr (0, [.ref aD_kinds, .ref aD_washes, .ref aD_fuels, .ref aD_isBroken, .int D_units, .ref aD_lengths, .ref aD_wanted, .int D_leaving, .ref aD_trackOf, .int D_parked, .int D_changes])), (aD_kinds, .inl (cI, 5, .inl D_kinds)), (aD_isBroken, .inl (cZ, 5, .inl D_isBroken))] → va_S A s.heap H locs → lv_has ls 5 [(0, .ref aD), (1, .int x1), (2, .int x2), (3, .int x3), (4, .int x4)] → W p l e ({ frames := 1, cells := 0, slots := 0, locals := 22 } : Room) s m ([.ref aD, .int x1, .int x2] : List Value).toArray below meth c H locs 0 0 Q0 (F0 m 5 ls []) := by
    intro n
    induction n with
    | zero =>
      intro x3 x4 hw
      exact (show False from hw).elim
    | succ n hK5 =>
      intro x3 x4 hw H locs ls hP hD hS hl
      have hw : Y_X0_serving_5 D_kinds D_isBroken x1 x2 post (Z_X0_serving_5 D_kinds D_isBroken x1 x2 post n) x3 x4 := hw
      unfold Y_X0_serving_5 at hw
      refine lv_iload hx hb dX0_serving_5 (lv_at hl 4 rfl) ?_
      refine lv_iload_n hx hb dX0_serving_7 rfl (lv_at hl 2 rfl) ?_
      refine lv_icmp_ge (tgt := 30) hx hb dX0_serving_8 (by decide) (fun hc1 => ?_) (fun hc1 => ?_)
      · have hw := hw.1 hc1
        refine lv_iload_n hx hb dX0_serving_30 rfl (lv_at hl 3 rfl) ?_
        exact hret x3  H locs 31 ls hw dX0_serving_31 hP hD hS 
      · have hw := hw.2 hc1
        refine lv_aload_n hx hb dX0_serving_11 rfl (lv_at hl 0 rfl) ?_
        refine lv_iload hx hb dX0_serving_12 (lv_at hl 4 rfl) ?_
        refine lv_iload_n hx hb dX0_serving_14 rfl (lv_at hl 1 rfl) ?_
        refine zVi (As := [.int x4, .int x1]) (rest := []) (wc := [(aD, .inr (0, [.ref aD_kinds, .ref aD_washes, .ref aD_fuels, .ref aD_isBroken, .int D_units, .ref aD_lengths, .ref aD_wanted, .int D_leaving, .ref aD_trackOf, .int D_parked, .int D_changes])), (aD_kinds, .inl (cI, 5, .inl D_kinds)), (aD_isBroken, .inl (cZ, 5, .inl D_isBroken))]) (wr := []) ⟨hx, hb, hml, hown, hts⟩ hK hP hD hS hA [0, 1, 2] [] rfl rfl (by decide) (by decide) (by decide) (c_X0_canServe l D cI cJ cZ aD aD_kinds aD_washes aD_fuels aD_isBroken aD_lengths aD_wanted aD_trackOf H.size D_units D_leaving D_parked D_changes D_kinds D_isBroken x4 x1 _ hw) (cwV 2 hts gX0_serving_X0_canServe rfl rfl rfl (by decide +kernel) ⟨Nat.le_of_ble_eq_true rfl, Nat.le_of_ble_eq_true rfl⟩) 0 0 rfl rfl rfl rfl hl.1 (Nat.le_of_ble_eq_true rfl) dX0_serving_15 ⟨(Nat.le_of_ble_eq_true rfl), (Nat.le_of_ble_eq_true rfl)⟩ rfl (fun r2 u H locs hw hP hD hS => ?_)
        try dsimp only at hw
        have hP : va_P D vwCl [(aD, .inr (0, [.ref aD_kinds, .ref aD_washes, .ref aD_fuels, .ref aD_isBroken, .int D_units, .ref aD_lengths, .ref aD_wanted, .int D_leaving, .ref aD_trackOf, .int D_parked, .int D_changes])), (aD_kinds, .inl (cI, 5, .inl D_kinds)), (aD_isBroken, .inl (cZ, 5, .inl D_isBroken))] H := hP.sub [0, 1, 2] rfl
        have hD : va_D A [(aD, .inr (0, [.ref aD_kinds, .ref aD_washes, .ref aD_fuels, .ref aD_isBroken, .int D_units, .ref aD_lengths, .ref aD_wanted, .int D_leaving, .ref aD_trackOf, .int D_parked, .int D_changes])), (aD_kinds, .inl (cI, 5, .inl D_kinds)), (aD_isBroken, .inl (cZ, 5, .inl D_isBroken))] := hD.sub [0, 1, 2] (by decide) rfl
        refine lv_if_eq (tgt := 24) hx hb dX0_serving_18 (by decide) (fun hc3 => ?_) (fun hc3 => ?_)
        · have hw := hw.1 hc3
          refine lv_iinc (v := (x4 + 1)) (lv' := [(4, .int (x4 + 1)), (0, .ref aD), (1, .int x1), (2, .int x2), (3, .int x3)]) hx hb dX0_serving_24 hl (k := 4) rfl rfl (by decide) rfl (fun ls hl => ?_)
          refine lv_goto (tgt := 5) hx hb dX0_serving_27 (by decide) ?_
          exact hK5 x3 (x4 + 1) hw H locs ls hP hD hS (lv_sub hl [1, 2, 3, 4, 0] rfl)
        · have hw := hw.2 hc3
          refine lv_iinc (v := (x3 + 1)) (lv' := [(3, .int (x3 + 1)), (0, .ref aD), (1, .int x1), (2, .int x2), (4, .int x4)]) hx hb dX0_serving_21 hl (k := 3) rfl rfl (by decide) rfl (fun ls hl => ?_)
          refine lv_iinc (v := (x4 + 1)) (lv' := [(4, .int (x4 + 1)), (3, .int (x3 + 1)), (0, .ref aD), (1, .int x1), (2, .int x2)]) hx hb dX0_serving_24 hl (k := 4) rfl rfl (by decide) rfl (fun ls hl => ?_)
          refine lv_goto (tgt := 5) hx hb dX0_serving_27 (by decide) ?_
          exact hK5 (x3 + 1) (x4 + 1) hw H locs ls hP hD hS (lv_sub hl [2, 3, 4, 1, 0] rfl)
  obtain ⟨H, hHe⟩ : ∃ H, H = s.heap := ⟨_, rfl⟩
  obtain ⟨locs, hLo⟩ : ∃ locs : List Loc, locs = [] := ⟨_, rfl⟩
  have hS : va_S A s.heap H locs := by rw [hHe, hLo]; exact hS
  have hP : va_P D vwCl [(aD, .inr (0, [.ref aD_kinds, .ref aD_washes, .ref aD_fuels, .ref aD_isBroken, .int D_units, .ref aD_lengths, .ref aD_wanted, .int D_leaving, .ref aD_trackOf, .int D_parked, .int D_changes])), (aD_kinds, .inl (cI, 5, .inl D_kinds)), (aD_isBroken, .inl (cZ, 5, .inl D_isBroken))] H := by rw [hHe]; exact hP
  refine (fun (hgo : W p l e ({ frames := 1, cells := 0, slots := 0, locals := 22 } : Room) s m ([.ref aD, .int x1, .int x2] : List Value).toArray below meth c H locs 0 0 Q0 (F0 m 0 ls [])) => by rw [hHe, hLo] at hgo; exact hgo) ?_
  refine lv_iconst (v := 0) hx hb dX0_serving_0 (by decide) ?_
  refine lv_istore_n (lv' := [(3, .int 0), (0, .ref aD), (1, .int x1), (2, .int x2)]) hx hb dX0_serving_1 rfl hl (by decide) rfl (fun ls hl => ?_)
  refine lv_iconst (v := 0) hx hb dX0_serving_2 (by decide) ?_
  refine lv_istore (lv' := [(4, .int 0), (3, .int 0), (0, .ref aD), (1, .int x1), (2, .int x2)]) hx hb dX0_serving_3 hl (by decide) rfl (fun ls hl => ?_)
  obtain ⟨n4, hw⟩ := hw
  exact wZ_X0_serving_5  n4 0 0 hw H locs ls hP hD hS (lv_sub hl [2, 3, 4, 1, 0] rfl)
/-! X0_hasEnough -/
def Y_X0_hasEnough_2 (D_kinds : Nat → Int32) (D_isBroken : Nat → Int32) (D_wanted : Nat → Int32) (D_leaving : Int32) (x1 : Int32) (post : Int32 → Prop) (K2 : Int32 → Prop) (x2 : Int32) : Prop :=
  ((4 ≤ x2 → post 1 ) ∧ (¬ 4 ≤ x2 → wp_X0_timesWanted D_wanted D_leaving x2 (fun (r2 : Int32) => wp_X0_serving D_kinds D_isBroken x2 x1 (fun (r3 : Int32) => ((r2 ≤ r3 → K2 (x2 + 1)) ∧ (¬ r2 ≤ r3 → post 0 ))))))
def Z_X0_hasEnough_2 (D_kinds : Nat → Int32) (D_isBroken : Nat → Int32) (D_wanted : Nat → Int32) (D_leaving : Int32) (x1 : Int32) (post : Int32 → Prop) : Nat → Int32 → Prop
  | 0 => fun _ => False
  | n + 1 => Y_X0_hasEnough_2 D_kinds D_isBroken D_wanted D_leaving x1 post (Z_X0_hasEnough_2 D_kinds D_isBroken D_wanted D_leaving x1 post n)
def wp_X0_hasEnough (D_kinds : Nat → Int32) (D_isBroken : Nat → Int32) (D_wanted : Nat → Int32) (D_leaving : Int32) (x1 : Int32) (post : Int32 → Prop) : Prop :=
  ∃ n, Z_X0_hasEnough_2 D_kinds D_isBroken D_wanted D_leaving x1 post n 0
set_option maxHeartbeats 4000000 in
set_option maxRecDepth 100000 in
theorem c_X0_hasEnough (l : Launch) (D : va_G) (cI cJ cZ : ClassId) (aD aD_kinds aD_washes aD_fuels aD_isBroken aD_lengths aD_wanted aD_trackOf : Nat) (sz : Nat) (D_units : Int32) (D_leaving : Int32) (D_parked : Int32) (D_changes : Int32) (D_kinds : Nat → Int32) (D_isBroken : Nat → Int32) (D_wanted : Nat → Int32) (x1 : Int32) (post : Int32 → Prop) (hw : wp_X0_hasEnough D_kinds D_isBroken D_wanted D_leaving x1 post) : Met l yX0_hasEnough wsX0_hasEnough ({ frames := 2, cells := 0, slots := 0, locals := 46 } : Room) (va_Pc [.ref aD, .int x1] (zPre D cI cJ cZ [(aD, .inr (0, [.ref aD_kinds, .ref aD_washes, .ref aD_fuels, .ref aD_isBroken, .int D_units, .ref aD_lengths, .ref aD_wanted, .int D_leaving, .ref aD_trackOf, .int D_parked, .int D_changes])), (aD_kinds, .inl (cI, 5, .inl D_kinds)), (aD_isBroken, .inl (cZ, 5, .inl D_isBroken)), (aD_wanted, .inl (cI, 5, .inl D_wanted))] sz)) (va_Qi (fun (r : Int32) (u : Unit) => post r) (zPost D cI cJ cZ (va_A [(aD, .inr (0, [.ref aD_kinds, .ref aD_washes, .ref aD_fuels, .ref aD_isBroken, .int D_units, .ref aD_lengths, .ref aD_wanted, .int D_leaving, .ref aD_trackOf, .int D_parked, .int D_changes])), (aD_kinds, .inl (cI, 5, .inl D_kinds)), (aD_isBroken, .inl (cZ, 5, .inl D_isBroken)), (aD_wanted, .inl (cI, 5, .inl D_wanted))] sz) (fun u : Unit => [(aD, .inr (0, [.ref aD_kinds, .ref aD_washes, .ref aD_fuels, .ref aD_isBroken, .int D_units, .ref aD_lengths, .ref aD_wanted, .int D_leaving, .ref aD_trackOf, .int D_parked, .int D_changes])), (aD_kinds, .inl (cI, 5, .inl D_kinds)), (aD_isBroken, .inl (cZ, 5, .inl D_isBroken)), (aD_wanted, .inl (cI, 5, .inl D_wanted))])) (va_A [(aD, .inr (0, [.ref aD_kinds, .ref aD_washes, .ref aD_fuels, .ref aD_isBroken, .int D_units, .ref aD_lengths, .ref aD_wanted, .int D_leaving, .ref aD_trackOf, .int D_parked, .int D_changes])), (aD_kinds, .inl (cI, 5, .inl D_kinds)), (aD_isBroken, .inl (cZ, 5, .inl D_isBroken)), (aD_wanted, .inl (cI, 5, .inl D_wanted))] sz)) 0 0 (va_A [(aD, .inr (0, [.ref aD_kinds, .ref aD_washes, .ref aD_fuels, .ref aD_isBroken, .int D_units, .ref aD_lengths, .ref aD_wanted, .int D_leaving, .ref aD_trackOf, .int D_parked, .int D_changes])), (aD_kinds, .inl (cI, 5, .inl D_kinds)), (aD_isBroken, .inl (cZ, 5, .inl D_isBroken)), (aD_wanted, .inl (cI, 5, .inl D_wanted))] sz) := by
  unfold wp_X0_hasEnough at hw
  refine Met.ofW (cc := cX0_hasEnough) (maxL := 3) (ret := some .boolean) (by decide) rfl ?_
  intro p e s m args below meth c s₁ B hml hv
  obtain ⟨rfl, hsz, hP, hK, hD0⟩ := hv
  have hx := B.exec
  have hb := B.bytes
  have hr := B.returns
  have hts := atoms_spec (ws := wsX0_hasEnough) B.pre
  have hown : s.vm.findClass RX0 = some m.cls := findClass_of_methodNamed B.named
  have hlocks := B.notSynchronized
  subst hsz
  have hD := hD0.self (sz := s.heap.size)
  generalize hAe : va_A [(aD, .inr (0, [.ref aD_kinds, .ref aD_washes, .ref aD_fuels, .ref aD_isBroken, .int D_units, .ref aD_lengths, .ref aD_wanted, .int D_leaving, .ref aD_trackOf, .int D_parked, .int D_changes])), (aD_kinds, .inl (cI, 5, .inl D_kinds)), (aD_isBroken, .inl (cZ, 5, .inl D_isBroken)), (aD_wanted, .inl (cI, 5, .inl D_wanted))] s.heap.size = A at hD ⊢
  have hA : ∀ q : Nat, s.heap.size ≤ q → A q := fun q h => by rw [← hAe]; exact Or.inr h
  have hS : va_S A s.heap s.heap [] := va_S.rf
  refine (fun (hall : ∀ Q0 : State → Prop, (∀ (r : Int32)  (H : Heap) (locs : List Loc) (pc : Nat) (ls : Array Slot), post r → decode cX0_hasEnough pc = .ok (.ireturn, 1) → va_P D vwCl [(aD, .inr (0, [.ref aD_kinds, .ref aD_washes, .ref aD_fuels, .ref aD_isBroken, .int D_units, .ref aD_lengths, .ref aD_wanted, .int D_leaving, .ref aD_trackOf, .int D_parked, .int D_changes])), (aD_kinds, .inl (cI, 5, .inl D_kinds)), (aD_isBroken, .inl (cZ, 5, .inl D_isBroken)), (aD_wanted, .inl (cI, 5, .inl D_wanted))] H → va_D A [(aD, .inr (0, [.ref aD_kinds, .ref aD_washes, .ref aD_fuels, .ref aD_isBroken, .int D_units, .ref aD_lengths, .ref aD_wanted, .int D_leaving, .ref aD_trackOf, .int D_parked, .int D_changes])), (aD_kinds, .inl (cI, 5, .inl D_kinds)), (aD_isBroken, .inl (cZ, 5, .inl D_isBroken)), (aD_wanted, .inl (cI, 5, .inl D_wanted))] → va_S A s.heap H locs → narrow .boolean (.int r) = .int r → W p l e ({ frames := 2, cells := 0, slots := 0, locals := 46 } : Room) s m ([.ref aD, .int x1] : List Value).toArray below meth c H locs 0 0 Q0 (F0 m pc ls [.int r])) → W p l e ({ frames := 2, cells := 0, slots := 0, locals := 46 } : Room) s m ([.ref aD, .int x1] : List Value).toArray below meth c s.heap [] 0 0 Q0 (entryFrame m ([.ref aD, .int x1] : List Value).toArray 3)) => hall _ (fun r  H locs pc ls hw hd hP hD hS hnr => W.zret (v := r) hx hb hr hnr (fun t ht hW => ⟨⟨r, (), rfl, hw, by rw [ht]; exact hP, va_K.moved hW.alike hK, hD⟩, hS.F ht⟩) hS.2.2 hd)) ?_
  intro Q0 hret
  have hl := lv_entry ([.ref aD, .int x1]) (n := 3) (Nat.le_of_ble_eq_true rfl)
  rw [lg_entry_eq]
  generalize (lg_sl ([.ref aD, .int x1]) ++ List.replicate (3 - (lg_sl ([.ref aD, .int x1])).length) Slot.unset).toArray = ls at hl ⊢
  have hl : lv_has ls 3 [(0, .ref aD), (1, .int x1)] := hl
  have wZ_X0_hasEnough_2 : ∀ (n : Nat) (x2 : Int32), Z_X0_hasEnough_2 D_kinds D_isBroken D_wanted D_leaving x1 post n x2 → ∀ (H : Heap) (locs : List Loc) (ls : Array Slot), va_P D vwCl [(aD, .inr (0, [.ref aD_kinds, .ref aD_washes, .ref aD_fuels, .ref aD_isBroken, .int D_units, .ref aD_lengths, .ref aD_wanted, .int D_leaving, .ref aD_trackOf, .int D_parked, .int D_changes])), (aD_kinds, .inl (cI, 5, .inl D_kinds)), (aD_isBroken, .inl (cZ, 5, .inl D_isBroken)), (aD_wanted, .inl (cI, 5, .inl D_wanted))] H → va_D A [(aD, .inr (0, [.ref aD_kinds, .ref aD_washes, .ref aD_fuels, .ref aD_isBroken, .int D_units, .ref aD_lengths, .ref aD_wanted, .int D_leaving, .ref aD_trackOf, .int D_parked, .int D_changes])), (aD_kinds, .inl (cI, 5, .inl D_kinds)), (aD_isBroken, .inl (cZ, 5, .inl D_isBroken)), (aD_wanted, .inl (cI, 5, .inl D_wanted))] → va_S A s.heap H locs → lv_has ls 3 [(0, .ref aD), (1, .int x1), (2, .int x2)] → W p l e ({ frames := 2, cells := 0, slots := 0, locals := 46 } : Room) s m ([.ref aD, .int x1] : List Value).toArray below meth c H locs 0 0 Q0 (F0 m 2 ls []) := by
    intro n
    induction n with
    | zero =>
      intro x2 hw
      exact (show False from hw).elim
    | succ n hK2 =>
      intro x2 hw H locs ls hP hD hS hl
      have hw : Y_X0_hasEnough_2 D_kinds D_isBroken D_wanted D_leaving x1 post (Z_X0_hasEnough_2 D_kinds D_isBroken D_wanted D_leaving x1 post n) x2 := hw
      unfold Y_X0_hasEnough_2 at hw
      refine lv_iload_n hx hb dX0_hasEnough_2 rfl (lv_at hl 2 rfl) ?_
      refine lv_iconst (v := 4) hx hb dX0_hasEnough_3 (by decide) ?_
      refine lv_icmp_ge (tgt := 29) hx hb dX0_hasEnough_4 (by decide) (fun hc1 => ?_) (fun hc1 => ?_)
      · have hw := hw.1 hc1
        refine lv_iconst (v := 1) hx hb dX0_hasEnough_29 (by decide) ?_
        exact hret 1  H locs 30 ls hw dX0_hasEnough_30 hP hD hS rfl
      · have hw := hw.2 hc1
        refine lv_aload_n hx hb dX0_hasEnough_7 rfl (lv_at hl 0 rfl) ?_
        refine lv_iload_n hx hb dX0_hasEnough_8 rfl (lv_at hl 2 rfl) ?_
        refine zVi (As := [.int x2]) (rest := []) (wc := [(aD, .inr (0, [.ref aD_kinds, .ref aD_washes, .ref aD_fuels, .ref aD_isBroken, .int D_units, .ref aD_lengths, .ref aD_wanted, .int D_leaving, .ref aD_trackOf, .int D_parked, .int D_changes])), (aD_wanted, .inl (cI, 5, .inl D_wanted))]) (wr := [(aD_kinds, .inl (cI, 5, .inl D_kinds)), (aD_isBroken, .inl (cZ, 5, .inl D_isBroken))]) ⟨hx, hb, hml, hown, hts⟩ hK hP hD hS hA [0, 3] [1, 2] rfl rfl (by decide) (by decide) (by decide) (c_X0_timesWanted l D cI cJ cZ aD aD_kinds aD_washes aD_fuels aD_isBroken aD_lengths aD_wanted aD_trackOf H.size D_units D_leaving D_parked D_changes D_wanted x2 _ hw) (cwV 1 hts gX0_hasEnough_X0_timesWanted rfl rfl rfl (by decide +kernel) ⟨Nat.le_of_ble_eq_true rfl, Nat.le_of_ble_eq_true rfl⟩) 0 0 rfl rfl rfl rfl hl.1 (Nat.le_of_ble_eq_true rfl) dX0_hasEnough_9 ⟨(Nat.le_of_ble_eq_true rfl), (Nat.le_of_ble_eq_true rfl)⟩ rfl (fun r2 u H locs hw hP hD hS => ?_)
        try dsimp only at hw
        have hP : va_P D vwCl [(aD, .inr (0, [.ref aD_kinds, .ref aD_washes, .ref aD_fuels, .ref aD_isBroken, .int D_units, .ref aD_lengths, .ref aD_wanted, .int D_leaving, .ref aD_trackOf, .int D_parked, .int D_changes])), (aD_kinds, .inl (cI, 5, .inl D_kinds)), (aD_isBroken, .inl (cZ, 5, .inl D_isBroken)), (aD_wanted, .inl (cI, 5, .inl D_wanted))] H := hP.sub [2, 0, 1, 3] rfl
        have hD : va_D A [(aD, .inr (0, [.ref aD_kinds, .ref aD_washes, .ref aD_fuels, .ref aD_isBroken, .int D_units, .ref aD_lengths, .ref aD_wanted, .int D_leaving, .ref aD_trackOf, .int D_parked, .int D_changes])), (aD_kinds, .inl (cI, 5, .inl D_kinds)), (aD_isBroken, .inl (cZ, 5, .inl D_isBroken)), (aD_wanted, .inl (cI, 5, .inl D_wanted))] := hD.sub [2, 0, 1, 3] (by decide) rfl
        refine lv_aload_n hx hb dX0_hasEnough_12 rfl (lv_at hl 0 rfl) ?_
        refine lv_iload_n hx hb dX0_hasEnough_13 rfl (lv_at hl 2 rfl) ?_
        refine lv_iload_n hx hb dX0_hasEnough_14 rfl (lv_at hl 1 rfl) ?_
        refine zVi (As := [.int x2, .int x1]) (rest := [.int r2]) (wc := [(aD, .inr (0, [.ref aD_kinds, .ref aD_washes, .ref aD_fuels, .ref aD_isBroken, .int D_units, .ref aD_lengths, .ref aD_wanted, .int D_leaving, .ref aD_trackOf, .int D_parked, .int D_changes])), (aD_kinds, .inl (cI, 5, .inl D_kinds)), (aD_isBroken, .inl (cZ, 5, .inl D_isBroken))]) (wr := [(aD_wanted, .inl (cI, 5, .inl D_wanted))]) ⟨hx, hb, hml, hown, hts⟩ hK hP hD hS hA [0, 1, 2] [3] rfl rfl (by decide) (by decide) (by decide) (c_X0_serving l D cI cJ cZ aD aD_kinds aD_washes aD_fuels aD_isBroken aD_lengths aD_wanted aD_trackOf H.size D_units D_leaving D_parked D_changes D_kinds D_isBroken x2 x1 _ hw) (cwV 2 hts gX0_hasEnough_X0_serving rfl rfl rfl (by decide +kernel) ⟨Nat.le_of_ble_eq_true rfl, Nat.le_of_ble_eq_true rfl⟩) 0 0 rfl rfl rfl rfl hl.1 (Nat.le_of_ble_eq_true rfl) dX0_hasEnough_15 ⟨(Nat.le_of_ble_eq_true rfl), (Nat.le_of_ble_eq_true rfl)⟩ rfl (fun r3 u H locs hw hP hD hS => ?_)
        try dsimp only at hw
        have hP : va_P D vwCl [(aD, .inr (0, [.ref aD_kinds, .ref aD_washes, .ref aD_fuels, .ref aD_isBroken, .int D_units, .ref aD_lengths, .ref aD_wanted, .int D_leaving, .ref aD_trackOf, .int D_parked, .int D_changes])), (aD_kinds, .inl (cI, 5, .inl D_kinds)), (aD_isBroken, .inl (cZ, 5, .inl D_isBroken)), (aD_wanted, .inl (cI, 5, .inl D_wanted))] H := hP.sub [1, 2, 3, 0] rfl
        have hD : va_D A [(aD, .inr (0, [.ref aD_kinds, .ref aD_washes, .ref aD_fuels, .ref aD_isBroken, .int D_units, .ref aD_lengths, .ref aD_wanted, .int D_leaving, .ref aD_trackOf, .int D_parked, .int D_changes])), (aD_kinds, .inl (cI, 5, .inl D_kinds)), (aD_isBroken, .inl (cZ, 5, .inl D_isBroken)), (aD_wanted, .inl (cI, 5, .inl D_wanted))] := hD.sub [1, 2, 3, 0] (by decide) rfl
        refine lv_icmp_le (tgt := 23) hx hb dX0_hasEnough_18 (by decide) (fun hc4 => ?_) (fun hc4 => ?_)
        · have hw := hw.1 hc4
          refine lv_iinc (v := (x2 + 1)) (lv' := [(2, .int (x2 + 1)), (0, .ref aD), (1, .int x1)]) hx hb dX0_hasEnough_23 hl (k := 2) rfl rfl (by decide) rfl (fun ls hl => ?_)
          refine lv_goto (tgt := 2) hx hb dX0_hasEnough_26 (by decide) ?_
          exact hK2 (x2 + 1) hw H locs ls hP hD hS (lv_sub hl [1, 2, 0] rfl)
        · have hw := hw.2 hc4
          refine lv_iconst (v := 0) hx hb dX0_hasEnough_21 (by decide) ?_
          exact hret 0  H locs 22 ls hw dX0_hasEnough_22 hP hD hS rfl
  obtain ⟨H, hHe⟩ : ∃ H, H = s.heap := ⟨_, rfl⟩
  obtain ⟨locs, hLo⟩ : ∃ locs : List Loc, locs = [] := ⟨_, rfl⟩
  have hS : va_S A s.heap H locs := by rw [hHe, hLo]; exact hS
  have hP : va_P D vwCl [(aD, .inr (0, [.ref aD_kinds, .ref aD_washes, .ref aD_fuels, .ref aD_isBroken, .int D_units, .ref aD_lengths, .ref aD_wanted, .int D_leaving, .ref aD_trackOf, .int D_parked, .int D_changes])), (aD_kinds, .inl (cI, 5, .inl D_kinds)), (aD_isBroken, .inl (cZ, 5, .inl D_isBroken)), (aD_wanted, .inl (cI, 5, .inl D_wanted))] H := by rw [hHe]; exact hP
  refine (fun (hgo : W p l e ({ frames := 2, cells := 0, slots := 0, locals := 46 } : Room) s m ([.ref aD, .int x1] : List Value).toArray below meth c H locs 0 0 Q0 (F0 m 0 ls [])) => by rw [hHe, hLo] at hgo; exact hgo) ?_
  refine lv_iconst (v := 0) hx hb dX0_hasEnough_0 (by decide) ?_
  refine lv_istore_n (lv' := [(2, .int 0), (0, .ref aD), (1, .int x1)]) hx hb dX0_hasEnough_1 rfl hl (by decide) rfl (fun ls hl => ?_)
  obtain ⟨n5, hw⟩ := hw
  exact wZ_X0_hasEnough_2  n5 0 hw H locs ls hP hD hS (lv_sub hl [1, 2, 0] rfl)
