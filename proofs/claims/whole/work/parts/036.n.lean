/-! X6_isKind -/
def wp_X6_isKind (x0 : Int32) (post : Int32 → Prop) : Prop :=
  ((x0 < 0 → post 0 ) ∧ (¬ x0 < 0 → ((4 ≤ x0 → post 0 ) ∧ (¬ 4 ≤ x0 → post 1 ))))
set_option maxHeartbeats 4000000 in
set_option maxRecDepth 100000 in
theorem c_X6_isKind (l : Launch) (D : va_G) (cI cJ cZ : ClassId) (sz : Nat) (x0 : Int32) (post : Int32 → Prop) (hw : wp_X6_isKind x0 post) : Met l yX6_isKind wsX6_isKind ({ frames := 0, cells := 0, slots := 0, locals := 0 } : Room) (va_Pc [.int x0] (zPre D cI cJ cZ [] sz)) (va_Qi (fun (r : Int32) (u : Unit) => post r) (zPost D cI cJ cZ (va_A [] sz) (fun u : Unit => [])) (va_A [] sz)) 0 0 (va_A [] sz) := by
  unfold wp_X6_isKind at hw
  refine Met.ofW (cc := cX6_isKind) (maxL := 1) (ret := some .boolean) (by decide) rfl ?_
  intro p e s m args below meth c s₁ B hml hv
  obtain ⟨rfl, hsz, hP, hK, hD0⟩ := hv
  have hx := B.exec
  have hb := B.bytes
  have hr := B.returns
  have hts := atoms_spec (ws := wsX6_isKind) B.pre
  have hown : s.vm.findClass RX6 = some m.cls := findClass_of_methodNamed B.named
  have hlocks := B.notSynchronized
  subst hsz
  have hD := hD0.self (sz := s.heap.size)
  generalize hAe : va_A [] s.heap.size = A at hD ⊢
  have hA : ∀ q : Nat, s.heap.size ≤ q → A q := fun q h => by rw [← hAe]; exact Or.inr h
  have hS : va_S A s.heap s.heap [] := va_S.rf
  refine (fun (hall : ∀ Q0 : State → Prop, (∀ (r : Int32)  (H : Heap) (locs : List Loc) (pc : Nat) (ls : Array Slot), post r → decode cX6_isKind pc = .ok (.ireturn, 1) → va_P D vwCl [] H → va_D A [] → va_S A s.heap H locs → narrow .boolean (.int r) = .int r → W p l e ({ frames := 0, cells := 0, slots := 0, locals := 0 } : Room) s m ([.int x0] : List Value).toArray below meth c H locs 0 0 Q0 (F0 m pc ls [.int r])) → W p l e ({ frames := 0, cells := 0, slots := 0, locals := 0 } : Room) s m ([.int x0] : List Value).toArray below meth c s.heap [] 0 0 Q0 (entryFrame m ([.int x0] : List Value).toArray 1)) => hall _ (fun r  H locs pc ls hw hd hP hD hS hnr => W.zret (v := r) hx hb hr hnr (fun t ht hW => ⟨⟨r, (), rfl, hw, by rw [ht]; exact hP, va_K.moved hW.alike hK, hD⟩, hS.F ht⟩) hS.2.2 hd)) ?_
  intro Q0 hret
  have hl := lv_entry ([.int x0]) (n := 1) (Nat.le_of_ble_eq_true rfl)
  rw [lg_entry_eq]
  generalize (lg_sl ([.int x0]) ++ List.replicate (1 - (lg_sl ([.int x0])).length) Slot.unset).toArray = ls at hl ⊢
  have hl : lv_has ls 1 [(0, .int x0)] := hl
  obtain ⟨H, hHe⟩ : ∃ H, H = s.heap := ⟨_, rfl⟩
  obtain ⟨locs, hLo⟩ : ∃ locs : List Loc, locs = [] := ⟨_, rfl⟩
  have hS : va_S A s.heap H locs := by rw [hHe, hLo]; exact hS
  have hP : va_P D vwCl [] H := by rw [hHe]; exact hP
  refine (fun (hgo : W p l e ({ frames := 0, cells := 0, slots := 0, locals := 0 } : Room) s m ([.int x0] : List Value).toArray below meth c H locs 0 0 Q0 (F0 m 0 ls [])) => by rw [hHe, hLo] at hgo; exact hgo) ?_
  refine lv_iload_n hx hb dX6_isKind_0 rfl (lv_at hl 0 rfl) ?_
  refine lv_if_lt (tgt := 13) hx hb dX6_isKind_1 (by decide) (fun hc1 => ?_) (fun hc1 => ?_)
  · have hw := hw.1 hc1
    refine lv_iconst (v := 0) hx hb dX6_isKind_13 (by decide) ?_
    exact hret 0  H locs 14 ls hw dX6_isKind_14 hP hD hS rfl
  · have hw := hw.2 hc1
    refine lv_iload_n hx hb dX6_isKind_4 rfl (lv_at hl 0 rfl) ?_
    refine lv_iconst (v := 4) hx hb dX6_isKind_5 (by decide) ?_
    refine lv_icmp_ge (tgt := 13) hx hb dX6_isKind_6 (by decide) (fun hc2 => ?_) (fun hc2 => ?_)
    · have hw := hw.1 hc2
      refine lv_iconst (v := 0) hx hb dX6_isKind_13 (by decide) ?_
      exact hret 0  H locs 14 ls hw dX6_isKind_14 hP hD hS rfl
    · have hw := hw.2 hc2
      refine lv_iconst (v := 1) hx hb dX6_isKind_9 (by decide) ?_
      refine lv_goto (tgt := 14) hx hb dX6_isKind_10 (by decide) ?_
      exact hret 1  H locs 14 ls hw dX6_isKind_14 hP hD hS rfl
/-! X6_isWork -/
def wp_X6_isWork (x0 : Int32) (post : Int32 → Prop) : Prop :=
  ((x0 < 0 → post 0 ) ∧ (¬ x0 < 0 → ((60 < x0 → post 0 ) ∧ (¬ 60 < x0 → post 1 ))))
set_option maxHeartbeats 4000000 in
set_option maxRecDepth 100000 in
theorem c_X6_isWork (l : Launch) (D : va_G) (cI cJ cZ : ClassId) (sz : Nat) (x0 : Int32) (post : Int32 → Prop) (hw : wp_X6_isWork x0 post) : Met l yX6_isWork wsX6_isWork ({ frames := 0, cells := 0, slots := 0, locals := 0 } : Room) (va_Pc [.int x0] (zPre D cI cJ cZ [] sz)) (va_Qi (fun (r : Int32) (u : Unit) => post r) (zPost D cI cJ cZ (va_A [] sz) (fun u : Unit => [])) (va_A [] sz)) 0 0 (va_A [] sz) := by
  unfold wp_X6_isWork at hw
  refine Met.ofW (cc := cX6_isWork) (maxL := 1) (ret := some .boolean) (by decide) rfl ?_
  intro p e s m args below meth c s₁ B hml hv
  obtain ⟨rfl, hsz, hP, hK, hD0⟩ := hv
  have hx := B.exec
  have hb := B.bytes
  have hr := B.returns
  have hts := atoms_spec (ws := wsX6_isWork) B.pre
  have hown : s.vm.findClass RX6 = some m.cls := findClass_of_methodNamed B.named
  have hlocks := B.notSynchronized
  subst hsz
  have hD := hD0.self (sz := s.heap.size)
  generalize hAe : va_A [] s.heap.size = A at hD ⊢
  have hA : ∀ q : Nat, s.heap.size ≤ q → A q := fun q h => by rw [← hAe]; exact Or.inr h
  have hS : va_S A s.heap s.heap [] := va_S.rf
  refine (fun (hall : ∀ Q0 : State → Prop, (∀ (r : Int32)  (H : Heap) (locs : List Loc) (pc : Nat) (ls : Array Slot), post r → decode cX6_isWork pc = .ok (.ireturn, 1) → va_P D vwCl [] H → va_D A [] → va_S A s.heap H locs → narrow .boolean (.int r) = .int r → W p l e ({ frames := 0, cells := 0, slots := 0, locals := 0 } : Room) s m ([.int x0] : List Value).toArray below meth c H locs 0 0 Q0 (F0 m pc ls [.int r])) → W p l e ({ frames := 0, cells := 0, slots := 0, locals := 0 } : Room) s m ([.int x0] : List Value).toArray below meth c s.heap [] 0 0 Q0 (entryFrame m ([.int x0] : List Value).toArray 1)) => hall _ (fun r  H locs pc ls hw hd hP hD hS hnr => W.zret (v := r) hx hb hr hnr (fun t ht hW => ⟨⟨r, (), rfl, hw, by rw [ht]; exact hP, va_K.moved hW.alike hK, hD⟩, hS.F ht⟩) hS.2.2 hd)) ?_
  intro Q0 hret
  have hl := lv_entry ([.int x0]) (n := 1) (Nat.le_of_ble_eq_true rfl)
  rw [lg_entry_eq]
  generalize (lg_sl ([.int x0]) ++ List.replicate (1 - (lg_sl ([.int x0])).length) Slot.unset).toArray = ls at hl ⊢
  have hl : lv_has ls 1 [(0, .int x0)] := hl
  obtain ⟨H, hHe⟩ : ∃ H, H = s.heap := ⟨_, rfl⟩
  obtain ⟨locs, hLo⟩ : ∃ locs : List Loc, locs = [] := ⟨_, rfl⟩
  have hS : va_S A s.heap H locs := by rw [hHe, hLo]; exact hS
  have hP : va_P D vwCl [] H := by rw [hHe]; exact hP
  refine (fun (hgo : W p l e ({ frames := 0, cells := 0, slots := 0, locals := 0 } : Room) s m ([.int x0] : List Value).toArray below meth c H locs 0 0 Q0 (F0 m 0 ls [])) => by rw [hHe, hLo] at hgo; exact hgo) ?_
  refine lv_iload_n hx hb dX6_isWork_0 rfl (lv_at hl 0 rfl) ?_
  refine lv_if_lt (tgt := 14) hx hb dX6_isWork_1 (by decide) (fun hc1 => ?_) (fun hc1 => ?_)
  · have hw := hw.1 hc1
    refine lv_iconst (v := 0) hx hb dX6_isWork_14 (by decide) ?_
    exact hret 0  H locs 15 ls hw dX6_isWork_15 hP hD hS rfl
  · have hw := hw.2 hc1
    refine lv_iload_n hx hb dX6_isWork_4 rfl (lv_at hl 0 rfl) ?_
    refine lv_bipush (v := 60) hx hb dX6_isWork_5 (by decide) ?_
    refine lv_icmp_gt (tgt := 14) hx hb dX6_isWork_7 (by decide) (fun hc2 => ?_) (fun hc2 => ?_)
    · have hw := hw.1 hc2
      refine lv_iconst (v := 0) hx hb dX6_isWork_14 (by decide) ?_
      exact hret 0  H locs 15 ls hw dX6_isWork_15 hP hD hS rfl
    · have hw := hw.2 hc2
      refine lv_iconst (v := 1) hx hb dX6_isWork_10 (by decide) ?_
      refine lv_goto (tgt := 15) hx hb dX6_isWork_11 (by decide) ?_
      exact hret 1  H locs 15 ls hw dX6_isWork_15 hP hD hS rfl
/-! X6_unit -/
def wp_X6_unit (x1 : Int32) (x2 : Int32) (x3 : Int32) (D_kinds : Nat → Int32) (D_washes : Nat → Int32) (D_fuels : Nat → Int32) (D_units : Int32) (D_changes : Int32) (post : Int32 → (Nat → Int32) → (Nat → Int32) → (Nat → Int32) → Int32 → Int32 → Prop) : Prop :=
  wp_X6_isKind x1 (fun (r1 : Int32) => ((r1 = 0 → post (-3) D_kinds D_washes D_fuels D_units D_changes) ∧ (¬ r1 = 0 → wp_X6_isWork x2 (fun (r3 : Int32) => ((r3 = 0 → post (-3) D_kinds D_washes D_fuels D_units D_changes) ∧ (¬ r3 = 0 → wp_X6_isWork x3 (fun (r5 : Int32) => ((¬ r5 = 0 → ((D_units < 5 → wp_X0_addUnit x1 x2 x3 D_kinds D_washes D_fuels D_units D_changes (fun (r8 : Int32) (D_kinds_9 : Nat → Int32) (D_washes_10 : Nat → Int32) (D_fuels_11 : Nat → Int32) (D_units_12 : Int32) (D_changes_13 : Int32) => post r8 D_kinds_9 D_washes_10 D_fuels_11 D_units_12 D_changes_13)) ∧ (¬ D_units < 5 → post (-5) D_kinds D_washes D_fuels D_units D_changes))) ∧ (r5 = 0 → post (-3) D_kinds D_washes D_fuels D_units D_changes)))))))))
set_option maxHeartbeats 4000000 in
set_option maxRecDepth 100000 in
theorem c_X6_unit (l : Launch) (D : va_G) (cI cJ cZ : ClassId) (aN aD aP aR aW aD_kinds aD_washes aD_fuels aD_isBroken aD_lengths aD_wanted aD_trackOf : Nat) (sz : Nat) (D_units : Int32) (D_leaving : Int32) (D_parked : Int32) (D_changes : Int32) (D_kinds : Nat → Int32) (D_washes : Nat → Int32) (D_fuels : Nat → Int32) (x1 : Int32) (x2 : Int32) (x3 : Int32) (post : Int32 → (Nat → Int32) → (Nat → Int32) → (Nat → Int32) → Int32 → Int32 → Prop) (hw : wp_X6_unit x1 x2 x3 D_kinds D_washes D_fuels D_units D_changes post) : Met l yX6_unit wsX6_unit ({ frames := 1, cells := 0, slots := 0, locals := 24 } : Room) (va_Pc [.ref aN, .int x1, .int x2, .int x3] (zPre D cI cJ cZ [(aN, .inr (5, [.ref aD, .ref aP, .ref aR, .ref aW])), (aD, .inr (0, [.ref aD_kinds, .ref aD_washes, .ref aD_fuels, .ref aD_isBroken, .int D_units, .ref aD_lengths, .ref aD_wanted, .int D_leaving, .ref aD_trackOf, .int D_parked, .int D_changes])), (aD_kinds, .inl (cI, 5, .inl D_kinds)), (aD_washes, .inl (cI, 5, .inl D_washes)), (aD_fuels, .inl (cI, 5, .inl D_fuels))] sz)) (va_Qi (fun (r : Int32) (u : (Nat → Int32) × (Nat → Int32) × (Nat → Int32) × (Int32) × (Int32)) => post r u.1 u.2.1 u.2.2.1 u.2.2.2.1 u.2.2.2.2) (zPost D cI cJ cZ (va_A [(aN, .inr (5, [.ref aD, .ref aP, .ref aR, .ref aW])), (aD, .inr (0, [.ref aD_kinds, .ref aD_washes, .ref aD_fuels, .ref aD_isBroken, .int D_units, .ref aD_lengths, .ref aD_wanted, .int D_leaving, .ref aD_trackOf, .int D_parked, .int D_changes])), (aD_kinds, .inl (cI, 5, .inl D_kinds)), (aD_washes, .inl (cI, 5, .inl D_washes)), (aD_fuels, .inl (cI, 5, .inl D_fuels))] sz) (fun u : (Nat → Int32) × (Nat → Int32) × (Nat → Int32) × (Int32) × (Int32) => [(aN, .inr (5, [.ref aD, .ref aP, .ref aR, .ref aW])), (aD, .inr (0, [.ref aD_kinds, .ref aD_washes, .ref aD_fuels, .ref aD_isBroken, .int u.2.2.2.1, .ref aD_lengths, .ref aD_wanted, .int D_leaving, .ref aD_trackOf, .int D_parked, .int u.2.2.2.2])), (aD_kinds, .inl (cI, 5, .inl u.1)), (aD_washes, .inl (cI, 5, .inl u.2.1)), (aD_fuels, .inl (cI, 5, .inl u.2.2.1))])) (va_A [(aN, .inr (5, [.ref aD, .ref aP, .ref aR, .ref aW])), (aD, .inr (0, [.ref aD_kinds, .ref aD_washes, .ref aD_fuels, .ref aD_isBroken, .int D_units, .ref aD_lengths, .ref aD_wanted, .int D_leaving, .ref aD_trackOf, .int D_parked, .int D_changes])), (aD_kinds, .inl (cI, 5, .inl D_kinds)), (aD_washes, .inl (cI, 5, .inl D_washes)), (aD_fuels, .inl (cI, 5, .inl D_fuels))] sz)) 0 0 (va_A [(aN, .inr (5, [.ref aD, .ref aP, .ref aR, .ref aW])), (aD, .inr (0, [.ref aD_kinds, .ref aD_washes, .ref aD_fuels, .ref aD_isBroken, .int D_units, .ref aD_lengths, .ref aD_wanted, .int D_leaving, .ref aD_trackOf, .int D_parked, .int D_changes])), (aD_kinds, .inl (cI, 5, .inl D_kinds)), (aD_washes, .inl (cI, 5, .inl D_washes)), (aD_fuels, .inl (cI, 5, .inl D_fuels))] sz) := by
  unfold wp_X6_unit at hw
  refine Met.ofW (cc := cX6_unit) (maxL := 4) (ret := some .int) (by decide) rfl ?_
  intro p e s m args below meth c s₁ B hml hv
  obtain ⟨rfl, hsz, hP, hK, hD0⟩ := hv
  have hx := B.exec
  have hb := B.bytes
  have hr := B.returns
  have hts := atoms_spec (ws := wsX6_unit) B.pre
  have hown : s.vm.findClass RX6 = some m.cls := findClass_of_methodNamed B.named
  have hlocks := B.notSynchronized
  subst hsz
  have hD := hD0.self (sz := s.heap.size)
  generalize hAe : va_A [(aN, .inr (5, [.ref aD, .ref aP, .ref aR, .ref aW])), (aD, .inr (0, [.ref aD_kinds, .ref aD_washes, .ref aD_fuels, .ref aD_isBroken, .int D_units, .ref aD_lengths, .ref aD_wanted, .int D_leaving, .ref aD_trackOf, .int D_parked, .int D_changes])), (aD_kinds, .inl (cI, 5, .inl D_kinds)), (aD_washes, .inl (cI, 5, .inl D_washes)), (aD_fuels, .inl (cI, 5, .inl D_fuels))] s.heap.size = A at hD ⊢
  have hA : ∀ q : Nat, s.heap.size ≤ q → A q := fun q h => by rw [← hAe]; exact Or.inr h
  have hS : va_S A s.heap s.heap [] := va_S.rf
  refine (fun (hall : ∀ Q0 : State → Prop, (∀ (r : Int32) (v0 : Nat → Int32) (v1 : Nat → Int32) (v2 : Nat → Int32) (v3 : Int32) (v4 : Int32) (H : Heap) (locs : List Loc) (pc : Nat) (ls : Array Slot), post r v0 v1 v2 v3 v4 → decode cX6_unit pc = .ok (.ireturn, 1) → va_P D vwCl [(aN, .inr (5, [.ref aD, .ref aP, .ref aR, .ref aW])), (aD, .inr (0, [.ref aD_kinds, .ref aD_washes, .ref aD_fuels, .ref aD_isBroken, .int v3, .ref aD_lengths, .ref aD_wanted, .int D_leaving, .ref aD_trackOf, .int D_parked, .int v4])), (aD_kinds, .inl (cI, 5, .inl v0)), (aD_washes, .inl (cI, 5, .inl v1)), (aD_fuels, .inl (cI, 5, .inl v2))] H → va_D A [(aN, .inr (5, [.ref aD, .ref aP, .ref aR, .ref aW])), (aD, .inr (0, [.ref aD_kinds, .ref aD_washes, .ref aD_fuels, .ref aD_isBroken, .int v3, .ref aD_lengths, .ref aD_wanted, .int D_leaving, .ref aD_trackOf, .int D_parked, .int v4])), (aD_kinds, .inl (cI, 5, .inl v0)), (aD_washes, .inl (cI, 5, .inl v1)), (aD_fuels, .inl (cI, 5, .inl v2))] → va_S A s.heap H locs → W p l e ({ frames := 1, cells := 0, slots := 0, locals := 24 } : Room) s m ([.ref aN, .int x1, .int x2, .int x3] : List Value).toArray below meth c H locs 0 0 Q0 (F0 m pc ls [.int r])) → W p l e ({ frames := 1, cells := 0, slots := 0, locals := 24 } : Room) s m ([.ref aN, .int x1, .int x2, .int x3] : List Value).toArray below meth c s.heap [] 0 0 Q0 (entryFrame m ([.ref aN, .int x1, .int x2, .int x3] : List Value).toArray 4)) => hall _ (fun r v0 v1 v2 v3 v4 H locs pc ls hw hd hP hD hS => W.iret (v := r) hx hb hr (fun t ht hW => ⟨⟨r, (v0, v1, v2, v3, v4), rfl, hw, by rw [ht]; exact hP, va_K.moved hW.alike hK, hD⟩, hS.F ht⟩) hS.2.2 hd)) ?_
  intro Q0 hret
  have hl := lv_entry ([.ref aN, .int x1, .int x2, .int x3]) (n := 4) (Nat.le_of_ble_eq_true rfl)
  rw [lg_entry_eq]
  generalize (lg_sl ([.ref aN, .int x1, .int x2, .int x3]) ++ List.replicate (4 - (lg_sl ([.ref aN, .int x1, .int x2, .int x3])).length) Slot.unset).toArray = ls at hl ⊢
  have hl : lv_has ls 4 [(0, .ref aN), (1, .int x1), (2, .int x2), (3, .int x3)] := hl
  have hinX0 : ∀ w ∈ u_ws RX0 TX0 11, w ∈ wsX6_unit := by decide +kernel
  have hinX6 : ∀ w ∈ u_ws RX6 TX6 4, w ∈ wsX6_unit := by decide +kernel
  have hf10 := hts (.fieldLink RX6 10 "DepotNight" "depot" "LDepotNight$Depot;") (by decide +kernel)
  have hf46 := hts (.fieldLink RX6 46 "DepotNight$Depot" "units" "I") (by decide +kernel)
  obtain ⟨H, hHe⟩ : ∃ H, H = s.heap := ⟨_, rfl⟩
  obtain ⟨locs, hLo⟩ : ∃ locs : List Loc, locs = [] := ⟨_, rfl⟩
  have hS : va_S A s.heap H locs := by rw [hHe, hLo]; exact hS
  have hP : va_P D vwCl [(aN, .inr (5, [.ref aD, .ref aP, .ref aR, .ref aW])), (aD, .inr (0, [.ref aD_kinds, .ref aD_washes, .ref aD_fuels, .ref aD_isBroken, .int D_units, .ref aD_lengths, .ref aD_wanted, .int D_leaving, .ref aD_trackOf, .int D_parked, .int D_changes])), (aD_kinds, .inl (cI, 5, .inl D_kinds)), (aD_washes, .inl (cI, 5, .inl D_washes)), (aD_fuels, .inl (cI, 5, .inl D_fuels))] H := by rw [hHe]; exact hP
  refine (fun (hgo : W p l e ({ frames := 1, cells := 0, slots := 0, locals := 24 } : Room) s m ([.ref aN, .int x1, .int x2, .int x3] : List Value).toArray below meth c H locs 0 0 Q0 (F0 m 0 ls [])) => by rw [hHe, hLo] at hgo; exact hgo) ?_
  refine lv_iload_n hx hb dX6_unit_0 rfl (lv_at hl 1 rfl) ?_
  refine zSi (As := [.int x1]) (rest := []) (wc := []) (wr := [(aN, .inr (5, [.ref aD, .ref aP, .ref aR, .ref aW])), (aD, .inr (0, [.ref aD_kinds, .ref aD_washes, .ref aD_fuels, .ref aD_isBroken, .int D_units, .ref aD_lengths, .ref aD_wanted, .int D_leaving, .ref aD_trackOf, .int D_parked, .int D_changes])), (aD_kinds, .inl (cI, 5, .inl D_kinds)), (aD_washes, .inl (cI, 5, .inl D_washes)), (aD_fuels, .inl (cI, 5, .inl D_fuels))]) ⟨hx, hb, hml, hown, hts⟩ hK hP hD hS hA [] [0, 1, 2, 3, 4] rfl rfl (by decide) (by decide) (by decide) (c_X6_isKind l D cI cJ cZ H.size x1 _ hw) (va_cwS 1 hts gX6_unit_X6_isKind rfl rfl rfl (by decide +kernel) ⟨Nat.le_of_ble_eq_true rfl, Nat.le_of_ble_eq_true rfl⟩) rfl hl.1 (Nat.le_of_ble_eq_true rfl) dX6_unit_1 ⟨(Nat.le_of_ble_eq_true rfl), (Nat.le_of_ble_eq_true rfl)⟩ rfl (fun r1 u H locs hw hP hD hS => ?_)
  try dsimp only at hw
  have hP : va_P D vwCl [(aN, .inr (5, [.ref aD, .ref aP, .ref aR, .ref aW])), (aD, .inr (0, [.ref aD_kinds, .ref aD_washes, .ref aD_fuels, .ref aD_isBroken, .int D_units, .ref aD_lengths, .ref aD_wanted, .int D_leaving, .ref aD_trackOf, .int D_parked, .int D_changes])), (aD_kinds, .inl (cI, 5, .inl D_kinds)), (aD_washes, .inl (cI, 5, .inl D_washes)), (aD_fuels, .inl (cI, 5, .inl D_fuels))] H := hP.sub [0, 1, 2, 3, 4] rfl
  have hD : va_D A [(aN, .inr (5, [.ref aD, .ref aP, .ref aR, .ref aW])), (aD, .inr (0, [.ref aD_kinds, .ref aD_washes, .ref aD_fuels, .ref aD_isBroken, .int D_units, .ref aD_lengths, .ref aD_wanted, .int D_leaving, .ref aD_trackOf, .int D_parked, .int D_changes])), (aD_kinds, .inl (cI, 5, .inl D_kinds)), (aD_washes, .inl (cI, 5, .inl D_washes)), (aD_fuels, .inl (cI, 5, .inl D_fuels))] := hD.sub [0, 1, 2, 3, 4] (by decide) rfl
  refine lv_if_eq (tgt := 21) hx hb dX6_unit_4 (by decide) (fun hc2 => ?_) (fun hc2 => ?_)
  · have hw := hw.1 hc2
    refine lv_bipush (v := (-3)) hx hb dX6_unit_21 (by decide) ?_
    exact hret (-3) D_kinds D_washes D_fuels D_units D_changes H locs 23 ls hw dX6_unit_23 hP hD hS 
  · have hw := hw.2 hc2
    refine lv_iload_n hx hb dX6_unit_7 rfl (lv_at hl 2 rfl) ?_
    refine zSi (As := [.int x2]) (rest := []) (wc := []) (wr := [(aN, .inr (5, [.ref aD, .ref aP, .ref aR, .ref aW])), (aD, .inr (0, [.ref aD_kinds, .ref aD_washes, .ref aD_fuels, .ref aD_isBroken, .int D_units, .ref aD_lengths, .ref aD_wanted, .int D_leaving, .ref aD_trackOf, .int D_parked, .int D_changes])), (aD_kinds, .inl (cI, 5, .inl D_kinds)), (aD_washes, .inl (cI, 5, .inl D_washes)), (aD_fuels, .inl (cI, 5, .inl D_fuels))]) ⟨hx, hb, hml, hown, hts⟩ hK hP hD hS hA [] [0, 1, 2, 3, 4] rfl rfl (by decide) (by decide) (by decide) (c_X6_isWork l D cI cJ cZ H.size x2 _ hw) (va_cwS 1 hts gX6_unit_X6_isWork rfl rfl rfl (by decide +kernel) ⟨Nat.le_of_ble_eq_true rfl, Nat.le_of_ble_eq_true rfl⟩) rfl hl.1 (Nat.le_of_ble_eq_true rfl) dX6_unit_8 ⟨(Nat.le_of_ble_eq_true rfl), (Nat.le_of_ble_eq_true rfl)⟩ rfl (fun r3 u H locs hw hP hD hS => ?_)
    try dsimp only at hw
    have hP : va_P D vwCl [(aN, .inr (5, [.ref aD, .ref aP, .ref aR, .ref aW])), (aD, .inr (0, [.ref aD_kinds, .ref aD_washes, .ref aD_fuels, .ref aD_isBroken, .int D_units, .ref aD_lengths, .ref aD_wanted, .int D_leaving, .ref aD_trackOf, .int D_parked, .int D_changes])), (aD_kinds, .inl (cI, 5, .inl D_kinds)), (aD_washes, .inl (cI, 5, .inl D_washes)), (aD_fuels, .inl (cI, 5, .inl D_fuels))] H := hP.sub [0, 1, 2, 3, 4] rfl
    have hD : va_D A [(aN, .inr (5, [.ref aD, .ref aP, .ref aR, .ref aW])), (aD, .inr (0, [.ref aD_kinds, .ref aD_washes, .ref aD_fuels, .ref aD_isBroken, .int D_units, .ref aD_lengths, .ref aD_wanted, .int D_leaving, .ref aD_trackOf, .int D_parked, .int D_changes])), (aD_kinds, .inl (cI, 5, .inl D_kinds)), (aD_washes, .inl (cI, 5, .inl D_washes)), (aD_fuels, .inl (cI, 5, .inl D_fuels))] := hD.sub [0, 1, 2, 3, 4] (by decide) rfl
    refine lv_if_eq (tgt := 21) hx hb dX6_unit_11 (by decide) (fun hc4 => ?_) (fun hc4 => ?_)
    · have hw := hw.1 hc4
      refine lv_bipush (v := (-3)) hx hb dX6_unit_21 (by decide) ?_
      exact hret (-3) D_kinds D_washes D_fuels D_units D_changes H locs 23 ls hw dX6_unit_23 hP hD hS 
    · have hw := hw.2 hc4
      refine lv_iload_n hx hb dX6_unit_14 rfl (lv_at hl 3 rfl) ?_
      refine zSi (As := [.int x3]) (rest := []) (wc := []) (wr := [(aN, .inr (5, [.ref aD, .ref aP, .ref aR, .ref aW])), (aD, .inr (0, [.ref aD_kinds, .ref aD_washes, .ref aD_fuels, .ref aD_isBroken, .int D_units, .ref aD_lengths, .ref aD_wanted, .int D_leaving, .ref aD_trackOf, .int D_parked, .int D_changes])), (aD_kinds, .inl (cI, 5, .inl D_kinds)), (aD_washes, .inl (cI, 5, .inl D_washes)), (aD_fuels, .inl (cI, 5, .inl D_fuels))]) ⟨hx, hb, hml, hown, hts⟩ hK hP hD hS hA [] [0, 1, 2, 3, 4] rfl rfl (by decide) (by decide) (by decide) (c_X6_isWork l D cI cJ cZ H.size x3 _ hw) (va_cwS 1 hts gX6_unit_X6_isWork rfl rfl rfl (by decide +kernel) ⟨Nat.le_of_ble_eq_true rfl, Nat.le_of_ble_eq_true rfl⟩) rfl hl.1 (Nat.le_of_ble_eq_true rfl) dX6_unit_15 ⟨(Nat.le_of_ble_eq_true rfl), (Nat.le_of_ble_eq_true rfl)⟩ rfl (fun r5 u H locs hw hP hD hS => ?_)
      try dsimp only at hw
      have hP : va_P D vwCl [(aN, .inr (5, [.ref aD, .ref aP, .ref aR, .ref aW])), (aD, .inr (0, [.ref aD_kinds, .ref aD_washes, .ref aD_fuels, .ref aD_isBroken, .int D_units, .ref aD_lengths, .ref aD_wanted, .int D_leaving, .ref aD_trackOf, .int D_parked, .int D_changes])), (aD_kinds, .inl (cI, 5, .inl D_kinds)), (aD_washes, .inl (cI, 5, .inl D_washes)), (aD_fuels, .inl (cI, 5, .inl D_fuels))] H := hP.sub [0, 1, 2, 3, 4] rfl
      have hD : va_D A [(aN, .inr (5, [.ref aD, .ref aP, .ref aR, .ref aW])), (aD, .inr (0, [.ref aD_kinds, .ref aD_washes, .ref aD_fuels, .ref aD_isBroken, .int D_units, .ref aD_lengths, .ref aD_wanted, .int D_leaving, .ref aD_trackOf, .int D_parked, .int D_changes])), (aD_kinds, .inl (cI, 5, .inl D_kinds)), (aD_washes, .inl (cI, 5, .inl D_washes)), (aD_fuels, .inl (cI, 5, .inl D_fuels))] := hD.sub [0, 1, 2, 3, 4] (by decide) rfl
      refine lv_if_ne (tgt := 24) hx hb dX6_unit_18 (by decide) (fun hc6 => ?_) (fun hc6 => ?_)
      · have hw := hw.1 hc6
        refine lv_aload_n hx hb dX6_unit_24 rfl (lv_at hl 0 rfl) ?_
        refine va_get (D := D) (ci := 5) (v := .ref aD) (C := RX6) (T := TX6) (N := 4) hx hb hts hinX6 hown hK hP 0 rfl rfl 0 (by decide) hf10 (fun _ h9 => h9) rfl dX6_unit_25 ?_
        refine va_get (D := D) (ci := 0) (v := .int D_units) (C := RX0) (T := TX0) (N := 11) hx hb hts hinX0 hown hK hP 1 rfl rfl 4 (by decide) hf46 (fun _ h9 => h9) rfl dX6_unit_28 ?_
        refine lv_iconst (v := 5) hx hb dX6_unit_31 (by decide) ?_
        refine lv_icmp_lt (tgt := 38) hx hb dX6_unit_32 (by decide) (fun hc7 => ?_) (fun hc7 => ?_)
        · have hw := hw.1 hc7
          refine lv_aload_n hx hb dX6_unit_38 rfl (lv_at hl 0 rfl) ?_
          refine va_get (D := D) (ci := 5) (v := .ref aD) (C := RX6) (T := TX6) (N := 4) hx hb hts hinX6 hown hK hP 0 rfl rfl 0 (by decide) hf10 (fun _ h9 => h9) rfl dX6_unit_39 ?_
          refine lv_iload_n hx hb dX6_unit_42 rfl (lv_at hl 1 rfl) ?_
          refine lv_iload_n hx hb dX6_unit_43 rfl (lv_at hl 2 rfl) ?_
          refine lv_iload_n hx hb dX6_unit_44 rfl (lv_at hl 3 rfl) ?_
          refine zVi (As := [.int x1, .int x2, .int x3]) (rest := []) (wc := [(aD, .inr (0, [.ref aD_kinds, .ref aD_washes, .ref aD_fuels, .ref aD_isBroken, .int D_units, .ref aD_lengths, .ref aD_wanted, .int D_leaving, .ref aD_trackOf, .int D_parked, .int D_changes])), (aD_kinds, .inl (cI, 5, .inl D_kinds)), (aD_washes, .inl (cI, 5, .inl D_washes)), (aD_fuels, .inl (cI, 5, .inl D_fuels))]) (wr := [(aN, .inr (5, [.ref aD, .ref aP, .ref aR, .ref aW]))]) ⟨hx, hb, hml, hown, hts⟩ hK hP hD hS hA [1, 2, 3, 4] [0] rfl rfl (by decide) (by decide) (by decide) (c_X0_addUnit l D cI cJ cZ aD aD_kinds aD_washes aD_fuels aD_isBroken aD_lengths aD_wanted aD_trackOf H.size D_units D_leaving D_parked D_changes D_kinds D_washes D_fuels x1 x2 x3 _ hw) (cwV 3 hts gX6_unit_X0_addUnit rfl rfl rfl (by decide +kernel) ⟨Nat.le_of_ble_eq_true rfl, Nat.le_of_ble_eq_true rfl⟩) 1 0 rfl rfl rfl rfl hl.1 (Nat.le_of_ble_eq_true rfl) dX6_unit_45 ⟨(Nat.le_of_ble_eq_true rfl), (Nat.le_of_ble_eq_true rfl)⟩ rfl (fun r8 u H locs hw hP hD hS => ?_)
          obtain ⟨D_kinds_9, D_washes_10, D_fuels_11, D_units_12, D_changes_13⟩ := u
          try dsimp only at hw
          have hP : va_P D vwCl [(aN, .inr (5, [.ref aD, .ref aP, .ref aR, .ref aW])), (aD, .inr (0, [.ref aD_kinds, .ref aD_washes, .ref aD_fuels, .ref aD_isBroken, .int D_units_12, .ref aD_lengths, .ref aD_wanted, .int D_leaving, .ref aD_trackOf, .int D_parked, .int D_changes_13])), (aD_kinds, .inl (cI, 5, .inl D_kinds_9)), (aD_washes, .inl (cI, 5, .inl D_washes_10)), (aD_fuels, .inl (cI, 5, .inl D_fuels_11))] H := hP.sub [0, 1, 2, 3, 4] rfl
          have hD : va_D A [(aN, .inr (5, [.ref aD, .ref aP, .ref aR, .ref aW])), (aD, .inr (0, [.ref aD_kinds, .ref aD_washes, .ref aD_fuels, .ref aD_isBroken, .int D_units_12, .ref aD_lengths, .ref aD_wanted, .int D_leaving, .ref aD_trackOf, .int D_parked, .int D_changes_13])), (aD_kinds, .inl (cI, 5, .inl D_kinds_9)), (aD_washes, .inl (cI, 5, .inl D_washes_10)), (aD_fuels, .inl (cI, 5, .inl D_fuels_11))] := hD.sub [0, 1, 2, 3, 4] (by decide) rfl
          exact hret r8 D_kinds_9 D_washes_10 D_fuels_11 D_units_12 D_changes_13 H locs 48 ls hw dX6_unit_48 hP hD hS 
        · have hw := hw.2 hc7
          refine lv_bipush (v := (-5)) hx hb dX6_unit_35 (by decide) ?_
          exact hret (-5) D_kinds D_washes D_fuels D_units D_changes H locs 37 ls hw dX6_unit_37 hP hD hS 
      · have hw := hw.2 hc6
        refine lv_bipush (v := (-3)) hx hb dX6_unit_21 (by decide) ?_
        exact hret (-3) D_kinds D_washes D_fuels D_units D_changes H locs 23 ls hw dX6_unit_23 hP hD hS 
/-! X6_broken -/
def wp_X6_broken (D_units : Int32) (x1 : Int32) (x2 : Int32) (D_isBroken : Nat → Int32) (D_changes : Int32) (post : Int32 → (Nat → Int32) → Int32 → Prop) : Prop :=
  wp_X0_hasUnit D_units x1 (fun (r1 : Int32) => ((¬ r1 = 0 → wp_X0_setBroken x1 x2 D_isBroken D_changes (fun (r3 : Int32) (D_isBroken_4 : Nat → Int32) (D_changes_5 : Int32) => ((r3 = 0 → post 0 D_isBroken_4 D_changes_5) ∧ (¬ r3 = 0 → post 1 D_isBroken_4 D_changes_5)))) ∧ (r1 = 0 → post (-2) D_isBroken D_changes)))
set_option maxHeartbeats 4000000 in
set_option maxRecDepth 100000 in
theorem c_X6_broken (l : Launch) (D : va_G) (cI cJ cZ : ClassId) (aN aD aP aR aW aD_kinds aD_washes aD_fuels aD_isBroken aD_lengths aD_wanted aD_trackOf : Nat) (sz : Nat) (D_units : Int32) (D_leaving : Int32) (D_parked : Int32) (D_changes : Int32) (D_isBroken : Nat → Int32) (x1 : Int32) (x2 : Int32) (post : Int32 → (Nat → Int32) → Int32 → Prop) (hw : wp_X6_broken D_units x1 x2 D_isBroken D_changes post) : Met l yX6_broken wsX6_broken ({ frames := 1, cells := 0, slots := 0, locals := 23 } : Room) (va_Pc [.ref aN, .int x1, .int x2] (zPre D cI cJ cZ [(aN, .inr (5, [.ref aD, .ref aP, .ref aR, .ref aW])), (aD, .inr (0, [.ref aD_kinds, .ref aD_washes, .ref aD_fuels, .ref aD_isBroken, .int D_units, .ref aD_lengths, .ref aD_wanted, .int D_leaving, .ref aD_trackOf, .int D_parked, .int D_changes])), (aD_isBroken, .inl (cZ, 5, .inl D_isBroken))] sz)) (va_Qi (fun (r : Int32) (u : (Nat → Int32) × (Int32)) => post r u.1 u.2) (zPost D cI cJ cZ (va_A [(aN, .inr (5, [.ref aD, .ref aP, .ref aR, .ref aW])), (aD, .inr (0, [.ref aD_kinds, .ref aD_washes, .ref aD_fuels, .ref aD_isBroken, .int D_units, .ref aD_lengths, .ref aD_wanted, .int D_leaving, .ref aD_trackOf, .int D_parked, .int D_changes])), (aD_isBroken, .inl (cZ, 5, .inl D_isBroken))] sz) (fun u : (Nat → Int32) × (Int32) => [(aN, .inr (5, [.ref aD, .ref aP, .ref aR, .ref aW])), (aD, .inr (0, [.ref aD_kinds, .ref aD_washes, .ref aD_fuels, .ref aD_isBroken, .int D_units, .ref aD_lengths, .ref aD_wanted, .int D_leaving, .ref aD_trackOf, .int D_parked, .int u.2])), (aD_isBroken, .inl (cZ, 5, .inl u.1))])) (va_A [(aN, .inr (5, [.ref aD, .ref aP, .ref aR, .ref aW])), (aD, .inr (0, [.ref aD_kinds, .ref aD_washes, .ref aD_fuels, .ref aD_isBroken, .int D_units, .ref aD_lengths, .ref aD_wanted, .int D_leaving, .ref aD_trackOf, .int D_parked, .int D_changes])), (aD_isBroken, .inl (cZ, 5, .inl D_isBroken))] sz)) 0 0 (va_A [(aN, .inr (5, [.ref aD, .ref aP, .ref aR, .ref aW])), (aD, .inr (0, [.ref aD_kinds, .ref aD_washes, .ref aD_fuels, .ref aD_isBroken, .int D_units, .ref aD_lengths, .ref aD_wanted, .int D_leaving, .ref aD_trackOf, .int D_parked, .int D_changes])), (aD_isBroken, .inl (cZ, 5, .inl D_isBroken))] sz) := by
  unfold wp_X6_broken at hw
  refine Met.ofW (cc := cX6_broken) (maxL := 3) (ret := some .int) (by decide) rfl ?_
  intro p e s m args below meth c s₁ B hml hv
  obtain ⟨rfl, hsz, hP, hK, hD0⟩ := hv
  have hx := B.exec
  have hb := B.bytes
  have hr := B.returns
  have hts := atoms_spec (ws := wsX6_broken) B.pre
  have hown : s.vm.findClass RX6 = some m.cls := findClass_of_methodNamed B.named
  have hlocks := B.notSynchronized
  subst hsz
  have hD := hD0.self (sz := s.heap.size)
  generalize hAe : va_A [(aN, .inr (5, [.ref aD, .ref aP, .ref aR, .ref aW])), (aD, .inr (0, [.ref aD_kinds, .ref aD_washes, .ref aD_fuels, .ref aD_isBroken, .int D_units, .ref aD_lengths, .ref aD_wanted, .int D_leaving, .ref aD_trackOf, .int D_parked, .int D_changes])), (aD_isBroken, .inl (cZ, 5, .inl D_isBroken))] s.heap.size = A at hD ⊢
  have hA : ∀ q : Nat, s.heap.size ≤ q → A q := fun q h => by rw [← hAe]; exact Or.inr h
  have hS : va_S A s.heap s.heap [] := va_S.rf
  refine (fun (hall : ∀ Q0 : State → Prop, (∀ (r : Int32) (v0 : Nat → Int32) (v1 : Int32) (H : Heap) (locs : List Loc) (pc : Nat) (ls : Array Slot), post r v0 v1 → decode cX6_broken pc = .ok (.ireturn, 1) → va_P D vwCl [(aN, .inr (5, [.ref aD, .ref aP, .ref aR, .ref aW])), (aD, .inr (0, [.ref aD_kinds, .ref aD_washes, .ref aD_fuels, .ref aD_isBroken, .int D_units, .ref aD_lengths, .ref aD_wanted, .int D_leaving, .ref aD_trackOf, .int D_parked, .int v1])), (aD_isBroken, .inl (cZ, 5, .inl v0))] H → va_D A [(aN, .inr (5, [.ref aD, .ref aP, .ref aR, .ref aW])), (aD, .inr (0, [.ref aD_kinds, .ref aD_washes, .ref aD_fuels, .ref aD_isBroken, .int D_units, .ref aD_lengths, .ref aD_wanted, .int D_leaving, .ref aD_trackOf, .int D_parked, .int v1])), (aD_isBroken, .inl (cZ, 5, .inl v0))] → va_S A s.heap H locs → W p l e ({ frames := 1, cells := 0, slots := 0, locals := 23 } : Room) s m ([.ref aN, .int x1, .int x2] : List Value).toArray below meth c H locs 0 0 Q0 (F0 m pc ls [.int r])) → W p l e ({ frames := 1, cells := 0, slots := 0, locals := 23 } : Room) s m ([.ref aN, .int x1, .int x2] : List Value).toArray below meth c s.heap [] 0 0 Q0 (entryFrame m ([.ref aN, .int x1, .int x2] : List Value).toArray 3)) => hall _ (fun r v0 v1 H locs pc ls hw hd hP hD hS => W.iret (v := r) hx hb hr (fun t ht hW => ⟨⟨r, (v0, v1), rfl, hw, by rw [ht]; exact hP, va_K.moved hW.alike hK, hD⟩, hS.F ht⟩) hS.2.2 hd)) ?_
  intro Q0 hret
  have hl := lv_entry ([.ref aN, .int x1, .int x2]) (n := 3) (Nat.le_of_ble_eq_true rfl)
  rw [lg_entry_eq]
  generalize (lg_sl ([.ref aN, .int x1, .int x2]) ++ List.replicate (3 - (lg_sl ([.ref aN, .int x1, .int x2])).length) Slot.unset).toArray = ls at hl ⊢
  have hl : lv_has ls 3 [(0, .ref aN), (1, .int x1), (2, .int x2)] := hl
  have hinX6 : ∀ w ∈ u_ws RX6 TX6 4, w ∈ wsX6_broken := by decide +kernel
  have hf10 := hts (.fieldLink RX6 10 "DepotNight" "depot" "LDepotNight$Depot;") (by decide +kernel)
  obtain ⟨H, hHe⟩ : ∃ H, H = s.heap := ⟨_, rfl⟩
  obtain ⟨locs, hLo⟩ : ∃ locs : List Loc, locs = [] := ⟨_, rfl⟩
  have hS : va_S A s.heap H locs := by rw [hHe, hLo]; exact hS
  have hP : va_P D vwCl [(aN, .inr (5, [.ref aD, .ref aP, .ref aR, .ref aW])), (aD, .inr (0, [.ref aD_kinds, .ref aD_washes, .ref aD_fuels, .ref aD_isBroken, .int D_units, .ref aD_lengths, .ref aD_wanted, .int D_leaving, .ref aD_trackOf, .int D_parked, .int D_changes])), (aD_isBroken, .inl (cZ, 5, .inl D_isBroken))] H := by rw [hHe]; exact hP
  refine (fun (hgo : W p l e ({ frames := 1, cells := 0, slots := 0, locals := 23 } : Room) s m ([.ref aN, .int x1, .int x2] : List Value).toArray below meth c H locs 0 0 Q0 (F0 m 0 ls [])) => by rw [hHe, hLo] at hgo; exact hgo) ?_
  refine lv_aload_n hx hb dX6_broken_0 rfl (lv_at hl 0 rfl) ?_
  refine va_get (D := D) (ci := 5) (v := .ref aD) (C := RX6) (T := TX6) (N := 4) hx hb hts hinX6 hown hK hP 0 rfl rfl 0 (by decide) hf10 (fun _ h9 => h9) rfl dX6_broken_1 ?_
  refine lv_iload_n hx hb dX6_broken_4 rfl (lv_at hl 1 rfl) ?_
  refine zVi (As := [.int x1]) (rest := []) (wc := [(aD, .inr (0, [.ref aD_kinds, .ref aD_washes, .ref aD_fuels, .ref aD_isBroken, .int D_units, .ref aD_lengths, .ref aD_wanted, .int D_leaving, .ref aD_trackOf, .int D_parked, .int D_changes]))]) (wr := [(aN, .inr (5, [.ref aD, .ref aP, .ref aR, .ref aW])), (aD_isBroken, .inl (cZ, 5, .inl D_isBroken))]) ⟨hx, hb, hml, hown, hts⟩ hK hP hD hS hA [1] [0, 2] rfl rfl (by decide) (by decide) (by decide) (c_X0_hasUnit l D cI cJ cZ aD aD_kinds aD_washes aD_fuels aD_isBroken aD_lengths aD_wanted aD_trackOf H.size D_units D_leaving D_parked D_changes x1 _ hw) (cwV 1 hts gX6_broken_X0_hasUnit rfl rfl rfl (by decide +kernel) ⟨Nat.le_of_ble_eq_true rfl, Nat.le_of_ble_eq_true rfl⟩) 1 0 rfl rfl rfl rfl hl.1 (Nat.le_of_ble_eq_true rfl) dX6_broken_5 ⟨(Nat.le_of_ble_eq_true rfl), (Nat.le_of_ble_eq_true rfl)⟩ rfl (fun r1 u H locs hw hP hD hS => ?_)
  try dsimp only at hw
  have hP : va_P D vwCl [(aN, .inr (5, [.ref aD, .ref aP, .ref aR, .ref aW])), (aD, .inr (0, [.ref aD_kinds, .ref aD_washes, .ref aD_fuels, .ref aD_isBroken, .int D_units, .ref aD_lengths, .ref aD_wanted, .int D_leaving, .ref aD_trackOf, .int D_parked, .int D_changes])), (aD_isBroken, .inl (cZ, 5, .inl D_isBroken))] H := hP.sub [0, 2, 1] rfl
  have hD : va_D A [(aN, .inr (5, [.ref aD, .ref aP, .ref aR, .ref aW])), (aD, .inr (0, [.ref aD_kinds, .ref aD_washes, .ref aD_fuels, .ref aD_isBroken, .int D_units, .ref aD_lengths, .ref aD_wanted, .int D_leaving, .ref aD_trackOf, .int D_parked, .int D_changes])), (aD_isBroken, .inl (cZ, 5, .inl D_isBroken))] := hD.sub [0, 2, 1] (by decide) rfl
  refine lv_if_ne (tgt := 14) hx hb dX6_broken_8 (by decide) (fun hc2 => ?_) (fun hc2 => ?_)
  · have hw := hw.1 hc2
    refine lv_aload_n hx hb dX6_broken_14 rfl (lv_at hl 0 rfl) ?_
    refine va_get (D := D) (ci := 5) (v := .ref aD) (C := RX6) (T := TX6) (N := 4) hx hb hts hinX6 hown hK hP 0 rfl rfl 0 (by decide) hf10 (fun _ h9 => h9) rfl dX6_broken_15 ?_
    refine lv_iload_n hx hb dX6_broken_18 rfl (lv_at hl 1 rfl) ?_
    refine lv_iload_n hx hb dX6_broken_19 rfl (lv_at hl 2 rfl) ?_
    refine zVi (As := [.int x1, .int x2]) (rest := []) (wc := [(aD, .inr (0, [.ref aD_kinds, .ref aD_washes, .ref aD_fuels, .ref aD_isBroken, .int D_units, .ref aD_lengths, .ref aD_wanted, .int D_leaving, .ref aD_trackOf, .int D_parked, .int D_changes])), (aD_isBroken, .inl (cZ, 5, .inl D_isBroken))]) (wr := [(aN, .inr (5, [.ref aD, .ref aP, .ref aR, .ref aW]))]) ⟨hx, hb, hml, hown, hts⟩ hK hP hD hS hA [1, 2] [0] rfl rfl (by decide) (by decide) (by decide) (c_X0_setBroken l D cI cJ cZ aD aD_kinds aD_washes aD_fuels aD_isBroken aD_lengths aD_wanted aD_trackOf H.size D_units D_leaving D_parked D_changes D_isBroken x1 x2 _ hw) (cwV 2 hts gX6_broken_X0_setBroken rfl rfl rfl (by decide +kernel) ⟨Nat.le_of_ble_eq_true rfl, Nat.le_of_ble_eq_true rfl⟩) 1 0 rfl rfl rfl rfl hl.1 (Nat.le_of_ble_eq_true rfl) dX6_broken_20 ⟨(Nat.le_of_ble_eq_true rfl), (Nat.le_of_ble_eq_true rfl)⟩ rfl (fun r3 u H locs hw hP hD hS => ?_)
    obtain ⟨D_isBroken_4, D_changes_5⟩ := u
    try dsimp only at hw
    have hP : va_P D vwCl [(aN, .inr (5, [.ref aD, .ref aP, .ref aR, .ref aW])), (aD, .inr (0, [.ref aD_kinds, .ref aD_washes, .ref aD_fuels, .ref aD_isBroken, .int D_units, .ref aD_lengths, .ref aD_wanted, .int D_leaving, .ref aD_trackOf, .int D_parked, .int D_changes_5])), (aD_isBroken, .inl (cZ, 5, .inl D_isBroken_4))] H := hP.sub [0, 1, 2] rfl
    have hD : va_D A [(aN, .inr (5, [.ref aD, .ref aP, .ref aR, .ref aW])), (aD, .inr (0, [.ref aD_kinds, .ref aD_washes, .ref aD_fuels, .ref aD_isBroken, .int D_units, .ref aD_lengths, .ref aD_wanted, .int D_leaving, .ref aD_trackOf, .int D_parked, .int D_changes_5])), (aD_isBroken, .inl (cZ, 5, .inl D_isBroken_4))] := hD.sub [0, 1, 2] (by decide) rfl
    refine lv_if_eq (tgt := 30) hx hb dX6_broken_23 (by decide) (fun hc6 => ?_) (fun hc6 => ?_)
    · have hw := hw.1 hc6
      refine lv_iconst (v := 0) hx hb dX6_broken_30 (by decide) ?_
      exact hret 0 D_isBroken_4 D_changes_5 H locs 31 ls hw dX6_broken_31 hP hD hS 
    · have hw := hw.2 hc6
      refine lv_iconst (v := 1) hx hb dX6_broken_26 (by decide) ?_
      refine lv_goto (tgt := 31) hx hb dX6_broken_27 (by decide) ?_
      exact hret 1 D_isBroken_4 D_changes_5 H locs 31 ls hw dX6_broken_31 hP hD hS 
  · have hw := hw.2 hc2
    refine lv_bipush (v := (-2)) hx hb dX6_broken_11 (by decide) ?_
    exact hret (-2) D_isBroken D_changes H locs 13 ls hw dX6_broken_13 hP hD hS 
/-! X6_isTrack -/
def wp_X6_isTrack (x0 : Int32) (post : Int32 → Prop) : Prop :=
  ((x0 < 0 → post 0 ) ∧ (¬ x0 < 0 → ((3 ≤ x0 → post 0 ) ∧ (¬ 3 ≤ x0 → post 1 ))))
set_option maxHeartbeats 4000000 in
set_option maxRecDepth 100000 in
theorem c_X6_isTrack (l : Launch) (D : va_G) (cI cJ cZ : ClassId) (sz : Nat) (x0 : Int32) (post : Int32 → Prop) (hw : wp_X6_isTrack x0 post) : Met l yX6_isTrack wsX6_isTrack ({ frames := 0, cells := 0, slots := 0, locals := 0 } : Room) (va_Pc [.int x0] (zPre D cI cJ cZ [] sz)) (va_Qi (fun (r : Int32) (u : Unit) => post r) (zPost D cI cJ cZ (va_A [] sz) (fun u : Unit => [])) (va_A [] sz)) 0 0 (va_A [] sz) := by
  unfold wp_X6_isTrack at hw
  refine Met.ofW (cc := cX6_isTrack) (maxL := 1) (ret := some .boolean) (by decide) rfl ?_
  intro p e s m args below meth c s₁ B hml hv
  obtain ⟨rfl, hsz, hP, hK, hD0⟩ := hv
  have hx := B.exec
  have hb := B.bytes
  have hr := B.returns
  have hts := atoms_spec (ws := wsX6_isTrack) B.pre
  have hown : s.vm.findClass RX6 = some m.cls := findClass_of_methodNamed B.named
  have hlocks := B.notSynchronized
  subst hsz
  have hD := hD0.self (sz := s.heap.size)
  generalize hAe : va_A [] s.heap.size = A at hD ⊢
  have hA : ∀ q : Nat, s.heap.size ≤ q → A q := fun q h => by rw [← hAe]; exact Or.inr h
  have hS : va_S A s.heap s.heap [] := va_S.rf
  refine (fun (hall : ∀ Q0 : State → Prop, (∀ (r : Int32)  (H : Heap) (locs : List Loc) (pc : Nat) (ls : Array Slot), post r → decode cX6_isTrack pc = .ok (.ireturn, 1) → va_P D vwCl [] H → va_D A [] → va_S A s.heap H locs → narrow .boolean (.int r) = .int r → W p l e ({ frames := 0, cells := 0, slots := 0, locals := 0 } : Room) s m ([.int x0] : List Value).toArray below meth c H locs 0 0 Q0 (F0 m pc ls [.int r])) → W p l e ({ frames := 0, cells := 0, slots := 0, locals := 0 } : Room) s m ([.int x0] : List Value).toArray below meth c s.heap [] 0 0 Q0 (entryFrame m ([.int x0] : List Value).toArray 1)) => hall _ (fun r  H locs pc ls hw hd hP hD hS hnr => W.zret (v := r) hx hb hr hnr (fun t ht hW => ⟨⟨r, (), rfl, hw, by rw [ht]; exact hP, va_K.moved hW.alike hK, hD⟩, hS.F ht⟩) hS.2.2 hd)) ?_
  intro Q0 hret
  have hl := lv_entry ([.int x0]) (n := 1) (Nat.le_of_ble_eq_true rfl)
  rw [lg_entry_eq]
  generalize (lg_sl ([.int x0]) ++ List.replicate (1 - (lg_sl ([.int x0])).length) Slot.unset).toArray = ls at hl ⊢
  have hl : lv_has ls 1 [(0, .int x0)] := hl
  obtain ⟨H, hHe⟩ : ∃ H, H = s.heap := ⟨_, rfl⟩
  obtain ⟨locs, hLo⟩ : ∃ locs : List Loc, locs = [] := ⟨_, rfl⟩
  have hS : va_S A s.heap H locs := by rw [hHe, hLo]; exact hS
  have hP : va_P D vwCl [] H := by rw [hHe]; exact hP
  refine (fun (hgo : W p l e ({ frames := 0, cells := 0, slots := 0, locals := 0 } : Room) s m ([.int x0] : List Value).toArray below meth c H locs 0 0 Q0 (F0 m 0 ls [])) => by rw [hHe, hLo] at hgo; exact hgo) ?_
  refine lv_iload_n hx hb dX6_isTrack_0 rfl (lv_at hl 0 rfl) ?_
  refine lv_if_lt (tgt := 13) hx hb dX6_isTrack_1 (by decide) (fun hc1 => ?_) (fun hc1 => ?_)
  · have hw := hw.1 hc1
    refine lv_iconst (v := 0) hx hb dX6_isTrack_13 (by decide) ?_
    exact hret 0  H locs 14 ls hw dX6_isTrack_14 hP hD hS rfl
  · have hw := hw.2 hc1
    refine lv_iload_n hx hb dX6_isTrack_4 rfl (lv_at hl 0 rfl) ?_
    refine lv_iconst (v := 3) hx hb dX6_isTrack_5 (by decide) ?_
    refine lv_icmp_ge (tgt := 13) hx hb dX6_isTrack_6 (by decide) (fun hc2 => ?_) (fun hc2 => ?_)
    · have hw := hw.1 hc2
      refine lv_iconst (v := 0) hx hb dX6_isTrack_13 (by decide) ?_
      exact hret 0  H locs 14 ls hw dX6_isTrack_14 hP hD hS rfl
    · have hw := hw.2 hc2
      refine lv_iconst (v := 1) hx hb dX6_isTrack_9 (by decide) ?_
      refine lv_goto (tgt := 14) hx hb dX6_isTrack_10 (by decide) ?_
      exact hret 1  H locs 14 ls hw dX6_isTrack_14 hP hD hS rfl
/-! X6_length -/
def wp_X6_length (x1 : Int32) (x2 : Int32) (D_lengths : Nat → Int32) (D_changes : Int32) (post : Int32 → (Nat → Int32) → Int32 → Prop) : Prop :=
  wp_X6_isTrack x1 (fun (r1 : Int32) => ((¬ r1 = 0 → ((x2 < 1 → post (-3) D_lengths D_changes) ∧ (¬ x2 < 1 → ((x2 ≤ 5 → wp_X0_setLength x1 x2 D_lengths D_changes (fun (r5 : Int32) (D_lengths_6 : Nat → Int32) (D_changes_7 : Int32) => post r5 D_lengths_6 D_changes_7)) ∧ (¬ x2 ≤ 5 → post (-3) D_lengths D_changes))))) ∧ (r1 = 0 → post (-2) D_lengths D_changes)))
set_option maxHeartbeats 4000000 in
set_option maxRecDepth 100000 in
theorem c_X6_length (l : Launch) (D : va_G) (cI cJ cZ : ClassId) (aN aD aP aR aW aD_kinds aD_washes aD_fuels aD_isBroken aD_lengths aD_wanted aD_trackOf : Nat) (sz : Nat) (D_units : Int32) (D_leaving : Int32) (D_parked : Int32) (D_changes : Int32) (D_lengths : Nat → Int32) (x1 : Int32) (x2 : Int32) (post : Int32 → (Nat → Int32) → Int32 → Prop) (hw : wp_X6_length x1 x2 D_lengths D_changes post) : Met l yX6_length wsX6_length ({ frames := 1, cells := 0, slots := 0, locals := 23 } : Room) (va_Pc [.ref aN, .int x1, .int x2] (zPre D cI cJ cZ [(aN, .inr (5, [.ref aD, .ref aP, .ref aR, .ref aW])), (aD, .inr (0, [.ref aD_kinds, .ref aD_washes, .ref aD_fuels, .ref aD_isBroken, .int D_units, .ref aD_lengths, .ref aD_wanted, .int D_leaving, .ref aD_trackOf, .int D_parked, .int D_changes])), (aD_lengths, .inl (cI, 3, .inl D_lengths))] sz)) (va_Qi (fun (r : Int32) (u : (Nat → Int32) × (Int32)) => post r u.1 u.2) (zPost D cI cJ cZ (va_A [(aN, .inr (5, [.ref aD, .ref aP, .ref aR, .ref aW])), (aD, .inr (0, [.ref aD_kinds, .ref aD_washes, .ref aD_fuels, .ref aD_isBroken, .int D_units, .ref aD_lengths, .ref aD_wanted, .int D_leaving, .ref aD_trackOf, .int D_parked, .int D_changes])), (aD_lengths, .inl (cI, 3, .inl D_lengths))] sz) (fun u : (Nat → Int32) × (Int32) => [(aN, .inr (5, [.ref aD, .ref aP, .ref aR, .ref aW])), (aD, .inr (0, [.ref aD_kinds, .ref aD_washes, .ref aD_fuels, .ref aD_isBroken, .int D_units, .ref aD_lengths, .ref aD_wanted, .int D_leaving, .ref aD_trackOf, .int D_parked, .int u.2])), (aD_lengths, .inl (cI, 3, .inl u.1))])) (va_A [(aN, .inr (5, [.ref aD, .ref aP, .ref aR, .ref aW])), (aD, .inr (0, [.ref aD_kinds, .ref aD_washes, .ref aD_fuels, .ref aD_isBroken, .int D_units, .ref aD_lengths, .ref aD_wanted, .int D_leaving, .ref aD_trackOf, .int D_parked, .int D_changes])), (aD_lengths, .inl (cI, 3, .inl D_lengths))] sz)) 0 0 (va_A [(aN, .inr (5, [.ref aD, .ref aP, .ref aR, .ref aW])), (aD, .inr (0, [.ref aD_kinds, .ref aD_washes, .ref aD_fuels, .ref aD_isBroken, .int D_units, .ref aD_lengths, .ref aD_wanted, .int D_leaving, .ref aD_trackOf, .int D_parked, .int D_changes])), (aD_lengths, .inl (cI, 3, .inl D_lengths))] sz) := by
  unfold wp_X6_length at hw
  refine Met.ofW (cc := cX6_length) (maxL := 3) (ret := some .int) (by decide) rfl ?_
  intro p e s m args below meth c s₁ B hml hv
  obtain ⟨rfl, hsz, hP, hK, hD0⟩ := hv
  have hx := B.exec
  have hb := B.bytes
  have hr := B.returns
  have hts := atoms_spec (ws := wsX6_length) B.pre
  have hown : s.vm.findClass RX6 = some m.cls := findClass_of_methodNamed B.named
  have hlocks := B.notSynchronized
  subst hsz
  have hD := hD0.self (sz := s.heap.size)
  generalize hAe : va_A [(aN, .inr (5, [.ref aD, .ref aP, .ref aR, .ref aW])), (aD, .inr (0, [.ref aD_kinds, .ref aD_washes, .ref aD_fuels, .ref aD_isBroken, .int D_units, .ref aD_lengths, .ref aD_wanted, .int D_leaving, .ref aD_trackOf, .int D_parked, .int D_changes])), (aD_lengths, .inl (cI, 3, .inl D_lengths))] s.heap.size = A at hD ⊢
  have hA : ∀ q : Nat, s.heap.size ≤ q → A q := fun q h => by rw [← hAe]; exact Or.inr h
  have hS : va_S A s.heap s.heap [] := va_S.rf
  refine (fun (hall : ∀ Q0 : State → Prop, (∀ (r : Int32) (v0 : Nat → Int32) (v1 : Int32) (H : Heap) (locs : List Loc) (pc : Nat) (ls : Array Slot), post r v0 v1 → decode cX6_length pc = .ok (.ireturn, 1) → va_P D vwCl [(aN, .inr (5, [.ref aD, .ref aP, .ref aR, .ref aW])), (aD, .inr (0, [.ref aD_kinds, .ref aD_washes, .ref aD_fuels, .ref aD_isBroken, .int D_units, .ref aD_lengths, .ref aD_wanted, .int D_leaving, .ref aD_trackOf, .int D_parked, .int v1])), (aD_lengths, .inl (cI, 3, .inl v0))] H → va_D A [(aN, .inr (5, [.ref aD, .ref aP, .ref aR, .ref aW])), (aD, .inr (0, [.ref aD_kinds, .ref aD_washes, .ref aD_fuels, .ref aD_isBroken, .int D_units, .ref aD_lengths, .ref aD_wanted, .int D_leaving, .ref aD_trackOf, .int D_parked, .int v1])), (aD_lengths, .inl (cI, 3, .inl v0))] → va_S A s.heap H locs → W p l e ({ frames := 1, cells := 0, slots := 0, locals := 23 } : Room) s m ([.ref aN, .int x1, .int x2] : List Value).toArray below meth c H locs 0 0 Q0 (F0 m pc ls [.int r])) → W p l e ({ frames := 1, cells := 0, slots := 0, locals := 23 } : Room) s m ([.ref aN, .int x1, .int x2] : List Value).toArray below meth c s.heap [] 0 0 Q0 (entryFrame m ([.ref aN, .int x1, .int x2] : List Value).toArray 3)) => hall _ (fun r v0 v1 H locs pc ls hw hd hP hD hS => W.iret (v := r) hx hb hr (fun t ht hW => ⟨⟨r, (v0, v1), rfl, hw, by rw [ht]; exact hP, va_K.moved hW.alike hK, hD⟩, hS.F ht⟩) hS.2.2 hd)) ?_
  intro Q0 hret
  have hl := lv_entry ([.ref aN, .int x1, .int x2]) (n := 3) (Nat.le_of_ble_eq_true rfl)
  rw [lg_entry_eq]
  generalize (lg_sl ([.ref aN, .int x1, .int x2]) ++ List.replicate (3 - (lg_sl ([.ref aN, .int x1, .int x2])).length) Slot.unset).toArray = ls at hl ⊢
  have hl : lv_has ls 3 [(0, .ref aN), (1, .int x1), (2, .int x2)] := hl
  have hinX6 : ∀ w ∈ u_ws RX6 TX6 4, w ∈ wsX6_length := by decide +kernel
  have hf10 := hts (.fieldLink RX6 10 "DepotNight" "depot" "LDepotNight$Depot;") (by decide +kernel)
  obtain ⟨H, hHe⟩ : ∃ H, H = s.heap := ⟨_, rfl⟩
  obtain ⟨locs, hLo⟩ : ∃ locs : List Loc, locs = [] := ⟨_, rfl⟩
  have hS : va_S A s.heap H locs := by rw [hHe, hLo]; exact hS
  have hP : va_P D vwCl [(aN, .inr (5, [.ref aD, .ref aP, .ref aR, .ref aW])), (aD, .inr (0, [.ref aD_kinds, .ref aD_washes, .ref aD_fuels, .ref aD_isBroken, .int D_units, .ref aD_lengths, .ref aD_wanted, .int D_leaving, .ref aD_trackOf, .int D_parked, .int D_changes])), (aD_lengths, .inl (cI, 3, .inl D_lengths))] H := by rw [hHe]; exact hP
  refine (fun (hgo : W p l e ({ frames := 1, cells := 0, slots := 0, locals := 23 } : Room) s m ([.ref aN, .int x1, .int x2] : List Value).toArray below meth c H locs 0 0 Q0 (F0 m 0 ls [])) => by rw [hHe, hLo] at hgo; exact hgo) ?_
  refine lv_iload_n hx hb dX6_length_0 rfl (lv_at hl 1 rfl) ?_
  refine zSi (As := [.int x1]) (rest := []) (wc := []) (wr := [(aN, .inr (5, [.ref aD, .ref aP, .ref aR, .ref aW])), (aD, .inr (0, [.ref aD_kinds, .ref aD_washes, .ref aD_fuels, .ref aD_isBroken, .int D_units, .ref aD_lengths, .ref aD_wanted, .int D_leaving, .ref aD_trackOf, .int D_parked, .int D_changes])), (aD_lengths, .inl (cI, 3, .inl D_lengths))]) ⟨hx, hb, hml, hown, hts⟩ hK hP hD hS hA [] [0, 1, 2] rfl rfl (by decide) (by decide) (by decide) (c_X6_isTrack l D cI cJ cZ H.size x1 _ hw) (va_cwS 1 hts gX6_length_X6_isTrack rfl rfl rfl (by decide +kernel) ⟨Nat.le_of_ble_eq_true rfl, Nat.le_of_ble_eq_true rfl⟩) rfl hl.1 (Nat.le_of_ble_eq_true rfl) dX6_length_1 ⟨(Nat.le_of_ble_eq_true rfl), (Nat.le_of_ble_eq_true rfl)⟩ rfl (fun r1 u H locs hw hP hD hS => ?_)
  try dsimp only at hw
  have hP : va_P D vwCl [(aN, .inr (5, [.ref aD, .ref aP, .ref aR, .ref aW])), (aD, .inr (0, [.ref aD_kinds, .ref aD_washes, .ref aD_fuels, .ref aD_isBroken, .int D_units, .ref aD_lengths, .ref aD_wanted, .int D_leaving, .ref aD_trackOf, .int D_parked, .int D_changes])), (aD_lengths, .inl (cI, 3, .inl D_lengths))] H := hP.sub [0, 1, 2] rfl
  have hD : va_D A [(aN, .inr (5, [.ref aD, .ref aP, .ref aR, .ref aW])), (aD, .inr (0, [.ref aD_kinds, .ref aD_washes, .ref aD_fuels, .ref aD_isBroken, .int D_units, .ref aD_lengths, .ref aD_wanted, .int D_leaving, .ref aD_trackOf, .int D_parked, .int D_changes])), (aD_lengths, .inl (cI, 3, .inl D_lengths))] := hD.sub [0, 1, 2] (by decide) rfl
  refine lv_if_ne (tgt := 10) hx hb dX6_length_4 (by decide) (fun hc2 => ?_) (fun hc2 => ?_)
  · have hw := hw.1 hc2
    refine lv_iload_n hx hb dX6_length_10 rfl (lv_at hl 2 rfl) ?_
    refine lv_iconst (v := 1) hx hb dX6_length_11 (by decide) ?_
    refine lv_icmp_lt (tgt := 20) hx hb dX6_length_12 (by decide) (fun hc3 => ?_) (fun hc3 => ?_)
    · have hw := hw.1 hc3
      refine lv_bipush (v := (-3)) hx hb dX6_length_20 (by decide) ?_
      exact hret (-3) D_lengths D_changes H locs 22 ls hw dX6_length_22 hP hD hS 
    · have hw := hw.2 hc3
      refine lv_iload_n hx hb dX6_length_15 rfl (lv_at hl 2 rfl) ?_
      refine lv_iconst (v := 5) hx hb dX6_length_16 (by decide) ?_
      refine lv_icmp_le (tgt := 23) hx hb dX6_length_17 (by decide) (fun hc4 => ?_) (fun hc4 => ?_)
      · have hw := hw.1 hc4
        refine lv_aload_n hx hb dX6_length_23 rfl (lv_at hl 0 rfl) ?_
        refine va_get (D := D) (ci := 5) (v := .ref aD) (C := RX6) (T := TX6) (N := 4) hx hb hts hinX6 hown hK hP 0 rfl rfl 0 (by decide) hf10 (fun _ h9 => h9) rfl dX6_length_24 ?_
        refine lv_iload_n hx hb dX6_length_27 rfl (lv_at hl 1 rfl) ?_
        refine lv_iload_n hx hb dX6_length_28 rfl (lv_at hl 2 rfl) ?_
        refine zVi (As := [.int x1, .int x2]) (rest := []) (wc := [(aD, .inr (0, [.ref aD_kinds, .ref aD_washes, .ref aD_fuels, .ref aD_isBroken, .int D_units, .ref aD_lengths, .ref aD_wanted, .int D_leaving, .ref aD_trackOf, .int D_parked, .int D_changes])), (aD_lengths, .inl (cI, 3, .inl D_lengths))]) (wr := [(aN, .inr (5, [.ref aD, .ref aP, .ref aR, .ref aW]))]) ⟨hx, hb, hml, hown, hts⟩ hK hP hD hS hA [1, 2] [0] rfl rfl (by decide) (by decide) (by decide) (c_X0_setLength l D cI cJ cZ aD aD_kinds aD_washes aD_fuels aD_isBroken aD_lengths aD_wanted aD_trackOf H.size D_units D_leaving D_parked D_changes D_lengths x1 x2 _ hw) (cwV 2 hts gX6_length_X0_setLength rfl rfl rfl (by decide +kernel) ⟨Nat.le_of_ble_eq_true rfl, Nat.le_of_ble_eq_true rfl⟩) 1 0 rfl rfl rfl rfl hl.1 (Nat.le_of_ble_eq_true rfl) dX6_length_29 ⟨(Nat.le_of_ble_eq_true rfl), (Nat.le_of_ble_eq_true rfl)⟩ rfl (fun r5 u H locs hw hP hD hS => ?_)
        obtain ⟨D_lengths_6, D_changes_7⟩ := u
        try dsimp only at hw
        have hP : va_P D vwCl [(aN, .inr (5, [.ref aD, .ref aP, .ref aR, .ref aW])), (aD, .inr (0, [.ref aD_kinds, .ref aD_washes, .ref aD_fuels, .ref aD_isBroken, .int D_units, .ref aD_lengths, .ref aD_wanted, .int D_leaving, .ref aD_trackOf, .int D_parked, .int D_changes_7])), (aD_lengths, .inl (cI, 3, .inl D_lengths_6))] H := hP.sub [0, 1, 2] rfl
        have hD : va_D A [(aN, .inr (5, [.ref aD, .ref aP, .ref aR, .ref aW])), (aD, .inr (0, [.ref aD_kinds, .ref aD_washes, .ref aD_fuels, .ref aD_isBroken, .int D_units, .ref aD_lengths, .ref aD_wanted, .int D_leaving, .ref aD_trackOf, .int D_parked, .int D_changes_7])), (aD_lengths, .inl (cI, 3, .inl D_lengths_6))] := hD.sub [0, 1, 2] (by decide) rfl
        exact hret r5 D_lengths_6 D_changes_7 H locs 32 ls hw dX6_length_32 hP hD hS 
      · have hw := hw.2 hc4
        refine lv_bipush (v := (-3)) hx hb dX6_length_20 (by decide) ?_
        exact hret (-3) D_lengths D_changes H locs 22 ls hw dX6_length_22 hP hD hS 
  · have hw := hw.2 hc2
    refine lv_bipush (v := (-2)) hx hb dX6_length_7 (by decide) ?_
    exact hret (-2) D_lengths D_changes H locs 9 ls hw dX6_length_9 hP hD hS 
/-! X6_leave -/
def wp_X6_leave (x1 : Int32) (D_wanted : Nat → Int32) (D_leaving : Int32) (D_changes : Int32) (post : Int32 → (Nat → Int32) → Int32 → Int32 → Prop) : Prop :=
  wp_X6_isKind x1 (fun (r1 : Int32) => ((¬ r1 = 0 → ((D_leaving < 5 → wp_X0_addWanted x1 D_wanted D_leaving D_changes (fun (r4 : Int32) (D_wanted_5 : Nat → Int32) (D_leaving_6 : Int32) (D_changes_7 : Int32) => post r4 D_wanted_5 D_leaving_6 D_changes_7)) ∧ (¬ D_leaving < 5 → post (-5) D_wanted D_leaving D_changes))) ∧ (r1 = 0 → post (-3) D_wanted D_leaving D_changes)))
set_option maxHeartbeats 4000000 in
set_option maxRecDepth 100000 in
theorem c_X6_leave (l : Launch) (D : va_G) (cI cJ cZ : ClassId) (aN aD aP aR aW aD_kinds aD_washes aD_fuels aD_isBroken aD_lengths aD_wanted aD_trackOf : Nat) (sz : Nat) (D_units : Int32) (D_leaving : Int32) (D_parked : Int32) (D_changes : Int32) (D_wanted : Nat → Int32) (x1 : Int32) (post : Int32 → (Nat → Int32) → Int32 → Int32 → Prop) (hw : wp_X6_leave x1 D_wanted D_leaving D_changes post) : Met l yX6_leave wsX6_leave ({ frames := 1, cells := 0, slots := 0, locals := 21 } : Room) (va_Pc [.ref aN, .int x1] (zPre D cI cJ cZ [(aN, .inr (5, [.ref aD, .ref aP, .ref aR, .ref aW])), (aD, .inr (0, [.ref aD_kinds, .ref aD_washes, .ref aD_fuels, .ref aD_isBroken, .int D_units, .ref aD_lengths, .ref aD_wanted, .int D_leaving, .ref aD_trackOf, .int D_parked, .int D_changes])), (aD_wanted, .inl (cI, 5, .inl D_wanted))] sz)) (va_Qi (fun (r : Int32) (u : (Nat → Int32) × (Int32) × (Int32)) => post r u.1 u.2.1 u.2.2) (zPost D cI cJ cZ (va_A [(aN, .inr (5, [.ref aD, .ref aP, .ref aR, .ref aW])), (aD, .inr (0, [.ref aD_kinds, .ref aD_washes, .ref aD_fuels, .ref aD_isBroken, .int D_units, .ref aD_lengths, .ref aD_wanted, .int D_leaving, .ref aD_trackOf, .int D_parked, .int D_changes])), (aD_wanted, .inl (cI, 5, .inl D_wanted))] sz) (fun u : (Nat → Int32) × (Int32) × (Int32) => [(aN, .inr (5, [.ref aD, .ref aP, .ref aR, .ref aW])), (aD, .inr (0, [.ref aD_kinds, .ref aD_washes, .ref aD_fuels, .ref aD_isBroken, .int D_units, .ref aD_lengths, .ref aD_wanted, .int u.2.1, .ref aD_trackOf, .int D_parked, .int u.2.2])), (aD_wanted, .inl (cI, 5, .inl u.1))])) (va_A [(aN, .inr (5, [.ref aD, .ref aP, .ref aR, .ref aW])), (aD, .inr (0, [.ref aD_kinds, .ref aD_washes, .ref aD_fuels, .ref aD_isBroken, .int D_units, .ref aD_lengths, .ref aD_wanted, .int D_leaving, .ref aD_trackOf, .int D_parked, .int D_changes])), (aD_wanted, .inl (cI, 5, .inl D_wanted))] sz)) 0 0 (va_A [(aN, .inr (5, [.ref aD, .ref aP, .ref aR, .ref aW])), (aD, .inr (0, [.ref aD_kinds, .ref aD_washes, .ref aD_fuels, .ref aD_isBroken, .int D_units, .ref aD_lengths, .ref aD_wanted, .int D_leaving, .ref aD_trackOf, .int D_parked, .int D_changes])), (aD_wanted, .inl (cI, 5, .inl D_wanted))] sz) := by
  unfold wp_X6_leave at hw
  refine Met.ofW (cc := cX6_leave) (maxL := 2) (ret := some .int) (by decide) rfl ?_
  intro p e s m args below meth c s₁ B hml hv
  obtain ⟨rfl, hsz, hP, hK, hD0⟩ := hv
  have hx := B.exec
  have hb := B.bytes
  have hr := B.returns
  have hts := atoms_spec (ws := wsX6_leave) B.pre
  have hown : s.vm.findClass RX6 = some m.cls := findClass_of_methodNamed B.named
  have hlocks := B.notSynchronized
  subst hsz
  have hD := hD0.self (sz := s.heap.size)
  generalize hAe : va_A [(aN, .inr (5, [.ref aD, .ref aP, .ref aR, .ref aW])), (aD, .inr (0, [.ref aD_kinds, .ref aD_washes, .ref aD_fuels, .ref aD_isBroken, .int D_units, .ref aD_lengths, .ref aD_wanted, .int D_leaving, .ref aD_trackOf, .int D_parked, .int D_changes])), (aD_wanted, .inl (cI, 5, .inl D_wanted))] s.heap.size = A at hD ⊢
  have hA : ∀ q : Nat, s.heap.size ≤ q → A q := fun q h => by rw [← hAe]; exact Or.inr h
  have hS : va_S A s.heap s.heap [] := va_S.rf
  refine (fun (hall : ∀ Q0 : State → Prop, (∀ (r : Int32) (v0 : Nat → Int32) (v1 : Int32) (v2 : Int32) (H : Heap) (locs : List Loc) (pc : Nat) (ls : Array Slot), post r v0 v1 v2 → decode cX6_leave pc = .ok (.ireturn, 1) → va_P D vwCl [(aN, .inr (5, [.ref aD, .ref aP, .ref aR, .ref aW])), (aD, .inr (0, [.ref aD_kinds, .ref aD_washes, .ref aD_fuels, .ref aD_isBroken, .int D_units, .ref aD_lengths, .ref aD_wanted, .int v1, .ref aD_trackOf, .int D_parked, .int v2])), (aD_wanted, .inl (cI, 5, .inl v0))] H → va_D A [(aN, .inr (5, [.ref aD, .ref aP, .ref aR, .ref aW])), (aD, .inr (0, [.ref aD_kinds, .ref aD_washes, .ref aD_fuels, .ref aD_isBroken, .int D_units, .ref aD_lengths, .ref aD_wanted, .int v1, .ref aD_trackOf, .int D_parked, .int v2])), (aD_wanted, .inl (cI, 5, .inl v0))] → va_S A s.heap H locs → W p l e ({ frames := 1, cells := 0, slots := 0, locals := 21 } : Room) s m ([.ref aN, .int x1] : List Value).toArray below meth c H locs 0 0 Q0 (F0 m pc ls [.int r])) → W p l e ({ frames := 1, cells := 0, slots := 0, locals := 21 } : Room) s m ([.ref aN, .int x1] : List Value).toArray below meth c s.heap [] 0 0 Q0 (entryFrame m ([.ref aN, .int x1] : List Value).toArray 2)) => hall _ (fun r v0 v1 v2 H locs pc ls hw hd hP hD hS => W.iret (v := r) hx hb hr (fun t ht hW => ⟨⟨r, (v0, v1, v2), rfl, hw, by rw [ht]; exact hP, va_K.moved hW.alike hK, hD⟩, hS.F ht⟩) hS.2.2 hd)) ?_
  intro Q0 hret
  have hl := lv_entry ([.ref aN, .int x1]) (n := 2) (Nat.le_of_ble_eq_true rfl)
  rw [lg_entry_eq]
  generalize (lg_sl ([.ref aN, .int x1]) ++ List.replicate (2 - (lg_sl ([.ref aN, .int x1])).length) Slot.unset).toArray = ls at hl ⊢
  have hl : lv_has ls 2 [(0, .ref aN), (1, .int x1)] := hl
  have hinX0 : ∀ w ∈ u_ws RX0 TX0 11, w ∈ wsX6_leave := by decide +kernel
  have hinX6 : ∀ w ∈ u_ws RX6 TX6 4, w ∈ wsX6_leave := by decide +kernel
  have hf10 := hts (.fieldLink RX6 10 "DepotNight" "depot" "LDepotNight$Depot;") (by decide +kernel)
  have hf68 := hts (.fieldLink RX6 68 "DepotNight$Depot" "leaving" "I") (by decide +kernel)
  obtain ⟨H, hHe⟩ : ∃ H, H = s.heap := ⟨_, rfl⟩
  obtain ⟨locs, hLo⟩ : ∃ locs : List Loc, locs = [] := ⟨_, rfl⟩
  have hS : va_S A s.heap H locs := by rw [hHe, hLo]; exact hS
  have hP : va_P D vwCl [(aN, .inr (5, [.ref aD, .ref aP, .ref aR, .ref aW])), (aD, .inr (0, [.ref aD_kinds, .ref aD_washes, .ref aD_fuels, .ref aD_isBroken, .int D_units, .ref aD_lengths, .ref aD_wanted, .int D_leaving, .ref aD_trackOf, .int D_parked, .int D_changes])), (aD_wanted, .inl (cI, 5, .inl D_wanted))] H := by rw [hHe]; exact hP
  refine (fun (hgo : W p l e ({ frames := 1, cells := 0, slots := 0, locals := 21 } : Room) s m ([.ref aN, .int x1] : List Value).toArray below meth c H locs 0 0 Q0 (F0 m 0 ls [])) => by rw [hHe, hLo] at hgo; exact hgo) ?_
  refine lv_iload_n hx hb dX6_leave_0 rfl (lv_at hl 1 rfl) ?_
  refine zSi (As := [.int x1]) (rest := []) (wc := []) (wr := [(aN, .inr (5, [.ref aD, .ref aP, .ref aR, .ref aW])), (aD, .inr (0, [.ref aD_kinds, .ref aD_washes, .ref aD_fuels, .ref aD_isBroken, .int D_units, .ref aD_lengths, .ref aD_wanted, .int D_leaving, .ref aD_trackOf, .int D_parked, .int D_changes])), (aD_wanted, .inl (cI, 5, .inl D_wanted))]) ⟨hx, hb, hml, hown, hts⟩ hK hP hD hS hA [] [0, 1, 2] rfl rfl (by decide) (by decide) (by decide) (c_X6_isKind l D cI cJ cZ H.size x1 _ hw) (va_cwS 1 hts gX6_leave_X6_isKind rfl rfl rfl (by decide +kernel) ⟨Nat.le_of_ble_eq_true rfl, Nat.le_of_ble_eq_true rfl⟩) rfl hl.1 (Nat.le_of_ble_eq_true rfl) dX6_leave_1 ⟨(Nat.le_of_ble_eq_true rfl), (Nat.le_of_ble_eq_true rfl)⟩ rfl (fun r1 u H locs hw hP hD hS => ?_)
  try dsimp only at hw
  have hP : va_P D vwCl [(aN, .inr (5, [.ref aD, .ref aP, .ref aR, .ref aW])), (aD, .inr (0, [.ref aD_kinds, .ref aD_washes, .ref aD_fuels, .ref aD_isBroken, .int D_units, .ref aD_lengths, .ref aD_wanted, .int D_leaving, .ref aD_trackOf, .int D_parked, .int D_changes])), (aD_wanted, .inl (cI, 5, .inl D_wanted))] H := hP.sub [0, 1, 2] rfl
  have hD : va_D A [(aN, .inr (5, [.ref aD, .ref aP, .ref aR, .ref aW])), (aD, .inr (0, [.ref aD_kinds, .ref aD_washes, .ref aD_fuels, .ref aD_isBroken, .int D_units, .ref aD_lengths, .ref aD_wanted, .int D_leaving, .ref aD_trackOf, .int D_parked, .int D_changes])), (aD_wanted, .inl (cI, 5, .inl D_wanted))] := hD.sub [0, 1, 2] (by decide) rfl
  refine lv_if_ne (tgt := 10) hx hb dX6_leave_4 (by decide) (fun hc2 => ?_) (fun hc2 => ?_)
  · have hw := hw.1 hc2
    refine lv_aload_n hx hb dX6_leave_10 rfl (lv_at hl 0 rfl) ?_
    refine va_get (D := D) (ci := 5) (v := .ref aD) (C := RX6) (T := TX6) (N := 4) hx hb hts hinX6 hown hK hP 0 rfl rfl 0 (by decide) hf10 (fun _ h9 => h9) rfl dX6_leave_11 ?_
    refine va_get (D := D) (ci := 0) (v := .int D_leaving) (C := RX0) (T := TX0) (N := 11) hx hb hts hinX0 hown hK hP 1 rfl rfl 7 (by decide) hf68 (fun _ h9 => h9) rfl dX6_leave_14 ?_
    refine lv_iconst (v := 5) hx hb dX6_leave_17 (by decide) ?_
    refine lv_icmp_lt (tgt := 24) hx hb dX6_leave_18 (by decide) (fun hc3 => ?_) (fun hc3 => ?_)
    · have hw := hw.1 hc3
      refine lv_aload_n hx hb dX6_leave_24 rfl (lv_at hl 0 rfl) ?_
      refine va_get (D := D) (ci := 5) (v := .ref aD) (C := RX6) (T := TX6) (N := 4) hx hb hts hinX6 hown hK hP 0 rfl rfl 0 (by decide) hf10 (fun _ h9 => h9) rfl dX6_leave_25 ?_
      refine lv_iload_n hx hb dX6_leave_28 rfl (lv_at hl 1 rfl) ?_
      refine zVi (As := [.int x1]) (rest := []) (wc := [(aD, .inr (0, [.ref aD_kinds, .ref aD_washes, .ref aD_fuels, .ref aD_isBroken, .int D_units, .ref aD_lengths, .ref aD_wanted, .int D_leaving, .ref aD_trackOf, .int D_parked, .int D_changes])), (aD_wanted, .inl (cI, 5, .inl D_wanted))]) (wr := [(aN, .inr (5, [.ref aD, .ref aP, .ref aR, .ref aW]))]) ⟨hx, hb, hml, hown, hts⟩ hK hP hD hS hA [1, 2] [0] rfl rfl (by decide) (by decide) (by decide) (c_X0_addWanted l D cI cJ cZ aD aD_kinds aD_washes aD_fuels aD_isBroken aD_lengths aD_wanted aD_trackOf H.size D_units D_leaving D_parked D_changes D_wanted x1 _ hw) (cwV 1 hts gX6_leave_X0_addWanted rfl rfl rfl (by decide +kernel) ⟨Nat.le_of_ble_eq_true rfl, Nat.le_of_ble_eq_true rfl⟩) 1 0 rfl rfl rfl rfl hl.1 (Nat.le_of_ble_eq_true rfl) dX6_leave_29 ⟨(Nat.le_of_ble_eq_true rfl), (Nat.le_of_ble_eq_true rfl)⟩ rfl (fun r4 u H locs hw hP hD hS => ?_)
      obtain ⟨D_wanted_5, D_leaving_6, D_changes_7⟩ := u
      try dsimp only at hw
      have hP : va_P D vwCl [(aN, .inr (5, [.ref aD, .ref aP, .ref aR, .ref aW])), (aD, .inr (0, [.ref aD_kinds, .ref aD_washes, .ref aD_fuels, .ref aD_isBroken, .int D_units, .ref aD_lengths, .ref aD_wanted, .int D_leaving_6, .ref aD_trackOf, .int D_parked, .int D_changes_7])), (aD_wanted, .inl (cI, 5, .inl D_wanted_5))] H := hP.sub [0, 1, 2] rfl
      have hD : va_D A [(aN, .inr (5, [.ref aD, .ref aP, .ref aR, .ref aW])), (aD, .inr (0, [.ref aD_kinds, .ref aD_washes, .ref aD_fuels, .ref aD_isBroken, .int D_units, .ref aD_lengths, .ref aD_wanted, .int D_leaving_6, .ref aD_trackOf, .int D_parked, .int D_changes_7])), (aD_wanted, .inl (cI, 5, .inl D_wanted_5))] := hD.sub [0, 1, 2] (by decide) rfl
      exact hret r4 D_wanted_5 D_leaving_6 D_changes_7 H locs 32 ls hw dX6_leave_32 hP hD hS 
    · have hw := hw.2 hc3
      refine lv_bipush (v := (-5)) hx hb dX6_leave_21 (by decide) ?_
      exact hret (-5) D_wanted D_leaving D_changes H locs 23 ls hw dX6_leave_23 hP hD hS 
  · have hw := hw.2 hc2
    refine lv_bipush (v := (-3)) hx hb dX6_leave_7 (by decide) ?_
    exact hret (-3) D_wanted D_leaving D_changes H locs 9 ls hw dX6_leave_9 hP hD hS 
/-! X6_stay -/
def wp_X6_stay (D_leaving : Int32) (D_changes : Int32) (post : Int32 → Int32 → Int32 → Prop) : Prop :=
  wp_X0_dropWanted D_leaving D_changes (fun (r1 : Int32) (D_leaving_2 : Int32) (D_changes_3 : Int32) => post r1 D_leaving_2 D_changes_3)
set_option maxHeartbeats 4000000 in
set_option maxRecDepth 100000 in
theorem c_X6_stay (l : Launch) (D : va_G) (cI cJ cZ : ClassId) (aN aD aP aR aW aD_kinds aD_washes aD_fuels aD_isBroken aD_lengths aD_wanted aD_trackOf : Nat) (sz : Nat) (D_units : Int32) (D_leaving : Int32) (D_parked : Int32) (D_changes : Int32) (post : Int32 → Int32 → Int32 → Prop) (hw : wp_X6_stay D_leaving D_changes post) : Met l yX6_stay wsX6_stay ({ frames := 1, cells := 0, slots := 0, locals := 21 } : Room) (va_Pc [.ref aN] (zPre D cI cJ cZ [(aN, .inr (5, [.ref aD, .ref aP, .ref aR, .ref aW])), (aD, .inr (0, [.ref aD_kinds, .ref aD_washes, .ref aD_fuels, .ref aD_isBroken, .int D_units, .ref aD_lengths, .ref aD_wanted, .int D_leaving, .ref aD_trackOf, .int D_parked, .int D_changes]))] sz)) (va_Qi (fun (r : Int32) (u : (Int32) × (Int32)) => post r u.1 u.2) (zPost D cI cJ cZ (va_A [(aN, .inr (5, [.ref aD, .ref aP, .ref aR, .ref aW])), (aD, .inr (0, [.ref aD_kinds, .ref aD_washes, .ref aD_fuels, .ref aD_isBroken, .int D_units, .ref aD_lengths, .ref aD_wanted, .int D_leaving, .ref aD_trackOf, .int D_parked, .int D_changes]))] sz) (fun u : (Int32) × (Int32) => [(aN, .inr (5, [.ref aD, .ref aP, .ref aR, .ref aW])), (aD, .inr (0, [.ref aD_kinds, .ref aD_washes, .ref aD_fuels, .ref aD_isBroken, .int D_units, .ref aD_lengths, .ref aD_wanted, .int u.1, .ref aD_trackOf, .int D_parked, .int u.2]))])) (va_A [(aN, .inr (5, [.ref aD, .ref aP, .ref aR, .ref aW])), (aD, .inr (0, [.ref aD_kinds, .ref aD_washes, .ref aD_fuels, .ref aD_isBroken, .int D_units, .ref aD_lengths, .ref aD_wanted, .int D_leaving, .ref aD_trackOf, .int D_parked, .int D_changes]))] sz)) 0 0 (va_A [(aN, .inr (5, [.ref aD, .ref aP, .ref aR, .ref aW])), (aD, .inr (0, [.ref aD_kinds, .ref aD_washes, .ref aD_fuels, .ref aD_isBroken, .int D_units, .ref aD_lengths, .ref aD_wanted, .int D_leaving, .ref aD_trackOf, .int D_parked, .int D_changes]))] sz) := by
  unfold wp_X6_stay at hw
  refine Met.ofW (cc := cX6_stay) (maxL := 1) (ret := some .int) (by decide) rfl ?_
  intro p e s m args below meth c s₁ B hml hv
  obtain ⟨rfl, hsz, hP, hK, hD0⟩ := hv
  have hx := B.exec
  have hb := B.bytes
  have hr := B.returns
  have hts := atoms_spec (ws := wsX6_stay) B.pre
  have hown : s.vm.findClass RX6 = some m.cls := findClass_of_methodNamed B.named
  have hlocks := B.notSynchronized
  subst hsz
  have hD := hD0.self (sz := s.heap.size)
  generalize hAe : va_A [(aN, .inr (5, [.ref aD, .ref aP, .ref aR, .ref aW])), (aD, .inr (0, [.ref aD_kinds, .ref aD_washes, .ref aD_fuels, .ref aD_isBroken, .int D_units, .ref aD_lengths, .ref aD_wanted, .int D_leaving, .ref aD_trackOf, .int D_parked, .int D_changes]))] s.heap.size = A at hD ⊢
  have hA : ∀ q : Nat, s.heap.size ≤ q → A q := fun q h => by rw [← hAe]; exact Or.inr h
  have hS : va_S A s.heap s.heap [] := va_S.rf
  refine (fun (hall : ∀ Q0 : State → Prop, (∀ (r : Int32) (v0 : Int32) (v1 : Int32) (H : Heap) (locs : List Loc) (pc : Nat) (ls : Array Slot), post r v0 v1 → decode cX6_stay pc = .ok (.ireturn, 1) → va_P D vwCl [(aN, .inr (5, [.ref aD, .ref aP, .ref aR, .ref aW])), (aD, .inr (0, [.ref aD_kinds, .ref aD_washes, .ref aD_fuels, .ref aD_isBroken, .int D_units, .ref aD_lengths, .ref aD_wanted, .int v0, .ref aD_trackOf, .int D_parked, .int v1]))] H → va_D A [(aN, .inr (5, [.ref aD, .ref aP, .ref aR, .ref aW])), (aD, .inr (0, [.ref aD_kinds, .ref aD_washes, .ref aD_fuels, .ref aD_isBroken, .int D_units, .ref aD_lengths, .ref aD_wanted, .int v0, .ref aD_trackOf, .int D_parked, .int v1]))] → va_S A s.heap H locs → W p l e ({ frames := 1, cells := 0, slots := 0, locals := 21 } : Room) s m ([.ref aN] : List Value).toArray below meth c H locs 0 0 Q0 (F0 m pc ls [.int r])) → W p l e ({ frames := 1, cells := 0, slots := 0, locals := 21 } : Room) s m ([.ref aN] : List Value).toArray below meth c s.heap [] 0 0 Q0 (entryFrame m ([.ref aN] : List Value).toArray 1)) => hall _ (fun r v0 v1 H locs pc ls hw hd hP hD hS => W.iret (v := r) hx hb hr (fun t ht hW => ⟨⟨r, (v0, v1), rfl, hw, by rw [ht]; exact hP, va_K.moved hW.alike hK, hD⟩, hS.F ht⟩) hS.2.2 hd)) ?_
  intro Q0 hret
  have hl := lv_entry ([.ref aN]) (n := 1) (Nat.le_of_ble_eq_true rfl)
  rw [lg_entry_eq]
  generalize (lg_sl ([.ref aN]) ++ List.replicate (1 - (lg_sl ([.ref aN])).length) Slot.unset).toArray = ls at hl ⊢
  have hl : lv_has ls 1 [(0, .ref aN)] := hl
  have hinX6 : ∀ w ∈ u_ws RX6 TX6 4, w ∈ wsX6_stay := by decide +kernel
  have hf10 := hts (.fieldLink RX6 10 "DepotNight" "depot" "LDepotNight$Depot;") (by decide +kernel)
  obtain ⟨H, hHe⟩ : ∃ H, H = s.heap := ⟨_, rfl⟩
  obtain ⟨locs, hLo⟩ : ∃ locs : List Loc, locs = [] := ⟨_, rfl⟩
  have hS : va_S A s.heap H locs := by rw [hHe, hLo]; exact hS
  have hP : va_P D vwCl [(aN, .inr (5, [.ref aD, .ref aP, .ref aR, .ref aW])), (aD, .inr (0, [.ref aD_kinds, .ref aD_washes, .ref aD_fuels, .ref aD_isBroken, .int D_units, .ref aD_lengths, .ref aD_wanted, .int D_leaving, .ref aD_trackOf, .int D_parked, .int D_changes]))] H := by rw [hHe]; exact hP
  refine (fun (hgo : W p l e ({ frames := 1, cells := 0, slots := 0, locals := 21 } : Room) s m ([.ref aN] : List Value).toArray below meth c H locs 0 0 Q0 (F0 m 0 ls [])) => by rw [hHe, hLo] at hgo; exact hgo) ?_
  refine lv_aload_n hx hb dX6_stay_0 rfl (lv_at hl 0 rfl) ?_
  refine va_get (D := D) (ci := 5) (v := .ref aD) (C := RX6) (T := TX6) (N := 4) hx hb hts hinX6 hown hK hP 0 rfl rfl 0 (by decide) hf10 (fun _ h9 => h9) rfl dX6_stay_1 ?_
  refine zVi (As := []) (rest := []) (wc := [(aD, .inr (0, [.ref aD_kinds, .ref aD_washes, .ref aD_fuels, .ref aD_isBroken, .int D_units, .ref aD_lengths, .ref aD_wanted, .int D_leaving, .ref aD_trackOf, .int D_parked, .int D_changes]))]) (wr := [(aN, .inr (5, [.ref aD, .ref aP, .ref aR, .ref aW]))]) ⟨hx, hb, hml, hown, hts⟩ hK hP hD hS hA [1] [0] rfl rfl (by decide) (by decide) (by decide) (c_X0_dropWanted l D cI cJ cZ aD aD_kinds aD_washes aD_fuels aD_isBroken aD_lengths aD_wanted aD_trackOf H.size D_units D_leaving D_parked D_changes _ hw) (cwV 0 hts gX6_stay_X0_dropWanted rfl rfl rfl (by decide +kernel) ⟨Nat.le_of_ble_eq_true rfl, Nat.le_of_ble_eq_true rfl⟩) 1 0 rfl rfl rfl rfl hl.1 (Nat.le_of_ble_eq_true rfl) dX6_stay_4 ⟨(Nat.le_of_ble_eq_true rfl), (Nat.le_of_ble_eq_true rfl)⟩ rfl (fun r1 u H locs hw hP hD hS => ?_)
  obtain ⟨D_leaving_2, D_changes_3⟩ := u
  try dsimp only at hw
  have hP : va_P D vwCl [(aN, .inr (5, [.ref aD, .ref aP, .ref aR, .ref aW])), (aD, .inr (0, [.ref aD_kinds, .ref aD_washes, .ref aD_fuels, .ref aD_isBroken, .int D_units, .ref aD_lengths, .ref aD_wanted, .int D_leaving_2, .ref aD_trackOf, .int D_parked, .int D_changes_3]))] H := hP.sub [0, 1] rfl
  have hD : va_D A [(aN, .inr (5, [.ref aD, .ref aP, .ref aR, .ref aW])), (aD, .inr (0, [.ref aD_kinds, .ref aD_washes, .ref aD_fuels, .ref aD_isBroken, .int D_units, .ref aD_lengths, .ref aD_wanted, .int D_leaving_2, .ref aD_trackOf, .int D_parked, .int D_changes_3]))] := hD.sub [0, 1] (by decide) rfl
  exact hret r1 D_leaving_2 D_changes_3 H locs 7 ls hw dX6_stay_7 hP hD hS 
/-! X6_clean -/
def wp_X6_clean (D_kinds : Nat → Int32) (D_isBroken : Nat → Int32) (D_units : Int32) (D_lengths : Nat → Int32) (D_wanted : Nat → Int32) (D_leaving : Int32) (D_changes : Int32) (P_packed : Nat → Int32) (P_row : Nat → Int32) (P_found : Int32) (P_narrowest : Int32) (P_knownAt : Int32) (post : Int32 → (Nat → Int32) → (Nat → Int32) → Int32 → Int32 → Int32 → Prop) : Prop :=
  wp_X1_refresh D_kinds D_isBroken D_units D_lengths D_wanted D_leaving D_changes P_packed P_row P_found P_narrowest P_knownAt (fun (P_packed_1 : Nat → Int32) (P_row_2 : Nat → Int32) (P_found_3 : Int32) (P_narrowest_4 : Int32) (P_knownAt_5 : Int32) => post P_found_3 P_packed_1 P_row_2 P_found_3 P_narrowest_4 P_knownAt_5)
set_option maxHeartbeats 4000000 in
set_option maxRecDepth 100000 in
theorem c_X6_clean (l : Launch) (D : va_G) (cI cJ cZ : ClassId) (aN aD aP aR aW aD_kinds aD_washes aD_fuels aD_isBroken aD_lengths aD_wanted aD_trackOf aP_packed aP_row : Nat) (sz : Nat) (D_units : Int32) (D_leaving : Int32) (D_parked : Int32) (D_changes : Int32) (P_found : Int32) (P_narrowest : Int32) (P_knownAt : Int32) (D_kinds : Nat → Int32) (D_isBroken : Nat → Int32) (D_lengths : Nat → Int32) (D_wanted : Nat → Int32) (P_packed : Nat → Int32) (P_row : Nat → Int32) (post : Int32 → (Nat → Int32) → (Nat → Int32) → Int32 → Int32 → Int32 → Prop) (hw : wp_X6_clean D_kinds D_isBroken D_units D_lengths D_wanted D_leaving D_changes P_packed P_row P_found P_narrowest P_knownAt post) : Met l yX6_clean wsX6_clean ({ frames := 11, cells := 0, slots := 0, locals := 257 } : Room) (va_Pc [.ref aN] (zPre D cI cJ cZ [(aN, .inr (5, [.ref aD, .ref aP, .ref aR, .ref aW])), (aD, .inr (0, [.ref aD_kinds, .ref aD_washes, .ref aD_fuels, .ref aD_isBroken, .int D_units, .ref aD_lengths, .ref aD_wanted, .int D_leaving, .ref aD_trackOf, .int D_parked, .int D_changes])), (aP, .inr (1, [.ref aD, .ref aP_packed, .ref aP_row, .int P_found, .int P_narrowest, .int P_knownAt])), (aD_kinds, .inl (cI, 5, .inl D_kinds)), (aD_isBroken, .inl (cZ, 5, .inl D_isBroken)), (aD_lengths, .inl (cI, 3, .inl D_lengths)), (aD_wanted, .inl (cI, 5, .inl D_wanted)), (aP_packed, .inl (cI, 243, .inl P_packed)), (aP_row, .inl (cI, 5, .inl P_row))] sz)) (va_Qi (fun (r : Int32) (u : (Nat → Int32) × (Nat → Int32) × (Int32) × (Int32) × (Int32)) => post r u.1 u.2.1 u.2.2.1 u.2.2.2.1 u.2.2.2.2) (zPost D cI cJ cZ (va_A [(aN, .inr (5, [.ref aD, .ref aP, .ref aR, .ref aW])), (aD, .inr (0, [.ref aD_kinds, .ref aD_washes, .ref aD_fuels, .ref aD_isBroken, .int D_units, .ref aD_lengths, .ref aD_wanted, .int D_leaving, .ref aD_trackOf, .int D_parked, .int D_changes])), (aP, .inr (1, [.ref aD, .ref aP_packed, .ref aP_row, .int P_found, .int P_narrowest, .int P_knownAt])), (aD_kinds, .inl (cI, 5, .inl D_kinds)), (aD_isBroken, .inl (cZ, 5, .inl D_isBroken)), (aD_lengths, .inl (cI, 3, .inl D_lengths)), (aD_wanted, .inl (cI, 5, .inl D_wanted)), (aP_packed, .inl (cI, 243, .inl P_packed)), (aP_row, .inl (cI, 5, .inl P_row))] sz) (fun u : (Nat → Int32) × (Nat → Int32) × (Int32) × (Int32) × (Int32) => [(aN, .inr (5, [.ref aD, .ref aP, .ref aR, .ref aW])), (aD, .inr (0, [.ref aD_kinds, .ref aD_washes, .ref aD_fuels, .ref aD_isBroken, .int D_units, .ref aD_lengths, .ref aD_wanted, .int D_leaving, .ref aD_trackOf, .int D_parked, .int D_changes])), (aP, .inr (1, [.ref aD, .ref aP_packed, .ref aP_row, .int u.2.2.1, .int u.2.2.2.1, .int u.2.2.2.2])), (aD_kinds, .inl (cI, 5, .inl D_kinds)), (aD_isBroken, .inl (cZ, 5, .inl D_isBroken)), (aD_lengths, .inl (cI, 3, .inl D_lengths)), (aD_wanted, .inl (cI, 5, .inl D_wanted)), (aP_packed, .inl (cI, 243, .inl u.1)), (aP_row, .inl (cI, 5, .inl u.2.1))])) (va_A [(aN, .inr (5, [.ref aD, .ref aP, .ref aR, .ref aW])), (aD, .inr (0, [.ref aD_kinds, .ref aD_washes, .ref aD_fuels, .ref aD_isBroken, .int D_units, .ref aD_lengths, .ref aD_wanted, .int D_leaving, .ref aD_trackOf, .int D_parked, .int D_changes])), (aP, .inr (1, [.ref aD, .ref aP_packed, .ref aP_row, .int P_found, .int P_narrowest, .int P_knownAt])), (aD_kinds, .inl (cI, 5, .inl D_kinds)), (aD_isBroken, .inl (cZ, 5, .inl D_isBroken)), (aD_lengths, .inl (cI, 3, .inl D_lengths)), (aD_wanted, .inl (cI, 5, .inl D_wanted)), (aP_packed, .inl (cI, 243, .inl P_packed)), (aP_row, .inl (cI, 5, .inl P_row))] sz)) 0 0 (va_A [(aN, .inr (5, [.ref aD, .ref aP, .ref aR, .ref aW])), (aD, .inr (0, [.ref aD_kinds, .ref aD_washes, .ref aD_fuels, .ref aD_isBroken, .int D_units, .ref aD_lengths, .ref aD_wanted, .int D_leaving, .ref aD_trackOf, .int D_parked, .int D_changes])), (aP, .inr (1, [.ref aD, .ref aP_packed, .ref aP_row, .int P_found, .int P_narrowest, .int P_knownAt])), (aD_kinds, .inl (cI, 5, .inl D_kinds)), (aD_isBroken, .inl (cZ, 5, .inl D_isBroken)), (aD_lengths, .inl (cI, 3, .inl D_lengths)), (aD_wanted, .inl (cI, 5, .inl D_wanted)), (aP_packed, .inl (cI, 243, .inl P_packed)), (aP_row, .inl (cI, 5, .inl P_row))] sz) := by
  unfold wp_X6_clean at hw
  refine Met.ofW (cc := cX6_clean) (maxL := 1) (ret := some .int) (by decide) rfl ?_
  intro p e s m args below meth c s₁ B hml hv
  obtain ⟨rfl, hsz, hP, hK, hD0⟩ := hv
  have hx := B.exec
  have hb := B.bytes
  have hr := B.returns
  have hts := atoms_spec (ws := wsX6_clean) B.pre
  have hown : s.vm.findClass RX6 = some m.cls := findClass_of_methodNamed B.named
  have hlocks := B.notSynchronized
  subst hsz
  have hD := hD0.self (sz := s.heap.size)
  generalize hAe : va_A [(aN, .inr (5, [.ref aD, .ref aP, .ref aR, .ref aW])), (aD, .inr (0, [.ref aD_kinds, .ref aD_washes, .ref aD_fuels, .ref aD_isBroken, .int D_units, .ref aD_lengths, .ref aD_wanted, .int D_leaving, .ref aD_trackOf, .int D_parked, .int D_changes])), (aP, .inr (1, [.ref aD, .ref aP_packed, .ref aP_row, .int P_found, .int P_narrowest, .int P_knownAt])), (aD_kinds, .inl (cI, 5, .inl D_kinds)), (aD_isBroken, .inl (cZ, 5, .inl D_isBroken)), (aD_lengths, .inl (cI, 3, .inl D_lengths)), (aD_wanted, .inl (cI, 5, .inl D_wanted)), (aP_packed, .inl (cI, 243, .inl P_packed)), (aP_row, .inl (cI, 5, .inl P_row))] s.heap.size = A at hD ⊢
  have hA : ∀ q : Nat, s.heap.size ≤ q → A q := fun q h => by rw [← hAe]; exact Or.inr h
  have hS : va_S A s.heap s.heap [] := va_S.rf
  refine (fun (hall : ∀ Q0 : State → Prop, (∀ (r : Int32) (v0 : Nat → Int32) (v1 : Nat → Int32) (v2 : Int32) (v3 : Int32) (v4 : Int32) (H : Heap) (locs : List Loc) (pc : Nat) (ls : Array Slot), post r v0 v1 v2 v3 v4 → decode cX6_clean pc = .ok (.ireturn, 1) → va_P D vwCl [(aN, .inr (5, [.ref aD, .ref aP, .ref aR, .ref aW])), (aD, .inr (0, [.ref aD_kinds, .ref aD_washes, .ref aD_fuels, .ref aD_isBroken, .int D_units, .ref aD_lengths, .ref aD_wanted, .int D_leaving, .ref aD_trackOf, .int D_parked, .int D_changes])), (aP, .inr (1, [.ref aD, .ref aP_packed, .ref aP_row, .int v2, .int v3, .int v4])), (aD_kinds, .inl (cI, 5, .inl D_kinds)), (aD_isBroken, .inl (cZ, 5, .inl D_isBroken)), (aD_lengths, .inl (cI, 3, .inl D_lengths)), (aD_wanted, .inl (cI, 5, .inl D_wanted)), (aP_packed, .inl (cI, 243, .inl v0)), (aP_row, .inl (cI, 5, .inl v1))] H → va_D A [(aN, .inr (5, [.ref aD, .ref aP, .ref aR, .ref aW])), (aD, .inr (0, [.ref aD_kinds, .ref aD_washes, .ref aD_fuels, .ref aD_isBroken, .int D_units, .ref aD_lengths, .ref aD_wanted, .int D_leaving, .ref aD_trackOf, .int D_parked, .int D_changes])), (aP, .inr (1, [.ref aD, .ref aP_packed, .ref aP_row, .int v2, .int v3, .int v4])), (aD_kinds, .inl (cI, 5, .inl D_kinds)), (aD_isBroken, .inl (cZ, 5, .inl D_isBroken)), (aD_lengths, .inl (cI, 3, .inl D_lengths)), (aD_wanted, .inl (cI, 5, .inl D_wanted)), (aP_packed, .inl (cI, 243, .inl v0)), (aP_row, .inl (cI, 5, .inl v1))] → va_S A s.heap H locs → W p l e ({ frames := 11, cells := 0, slots := 0, locals := 257 } : Room) s m ([.ref aN] : List Value).toArray below meth c H locs 0 0 Q0 (F0 m pc ls [.int r])) → W p l e ({ frames := 11, cells := 0, slots := 0, locals := 257 } : Room) s m ([.ref aN] : List Value).toArray below meth c s.heap [] 0 0 Q0 (entryFrame m ([.ref aN] : List Value).toArray 1)) => hall _ (fun r v0 v1 v2 v3 v4 H locs pc ls hw hd hP hD hS => W.iret (v := r) hx hb hr (fun t ht hW => ⟨⟨r, (v0, v1, v2, v3, v4), rfl, hw, by rw [ht]; exact hP, va_K.moved hW.alike hK, hD⟩, hS.F ht⟩) hS.2.2 hd)) ?_
  intro Q0 hret
  have hl := lv_entry ([.ref aN]) (n := 1) (Nat.le_of_ble_eq_true rfl)
  rw [lg_entry_eq]
  generalize (lg_sl ([.ref aN]) ++ List.replicate (1 - (lg_sl ([.ref aN])).length) Slot.unset).toArray = ls at hl ⊢
  have hl : lv_has ls 1 [(0, .ref aN)] := hl
  have hinX1 : ∀ w ∈ u_ws RX1 TX1 6, w ∈ wsX6_clean := by decide +kernel
  have hinX6 : ∀ w ∈ u_ws RX6 TX6 4, w ∈ wsX6_clean := by decide +kernel
  have hf21 := hts (.fieldLink RX6 21 "DepotNight" "parkings" "LDepotNight$Parkings;") (by decide +kernel)
  have hf82 := hts (.fieldLink RX6 82 "DepotNight$Parkings" "found" "I") (by decide +kernel)
  obtain ⟨H, hHe⟩ : ∃ H, H = s.heap := ⟨_, rfl⟩
  obtain ⟨locs, hLo⟩ : ∃ locs : List Loc, locs = [] := ⟨_, rfl⟩
  have hS : va_S A s.heap H locs := by rw [hHe, hLo]; exact hS
  have hP : va_P D vwCl [(aN, .inr (5, [.ref aD, .ref aP, .ref aR, .ref aW])), (aD, .inr (0, [.ref aD_kinds, .ref aD_washes, .ref aD_fuels, .ref aD_isBroken, .int D_units, .ref aD_lengths, .ref aD_wanted, .int D_leaving, .ref aD_trackOf, .int D_parked, .int D_changes])), (aP, .inr (1, [.ref aD, .ref aP_packed, .ref aP_row, .int P_found, .int P_narrowest, .int P_knownAt])), (aD_kinds, .inl (cI, 5, .inl D_kinds)), (aD_isBroken, .inl (cZ, 5, .inl D_isBroken)), (aD_lengths, .inl (cI, 3, .inl D_lengths)), (aD_wanted, .inl (cI, 5, .inl D_wanted)), (aP_packed, .inl (cI, 243, .inl P_packed)), (aP_row, .inl (cI, 5, .inl P_row))] H := by rw [hHe]; exact hP
  refine (fun (hgo : W p l e ({ frames := 11, cells := 0, slots := 0, locals := 257 } : Room) s m ([.ref aN] : List Value).toArray below meth c H locs 0 0 Q0 (F0 m 0 ls [])) => by rw [hHe, hLo] at hgo; exact hgo) ?_
  refine lv_aload_n hx hb dX6_clean_0 rfl (lv_at hl 0 rfl) ?_
  refine va_get (D := D) (ci := 5) (v := .ref aP) (C := RX6) (T := TX6) (N := 4) hx hb hts hinX6 hown hK hP 0 rfl rfl 1 (by decide) hf21 (fun _ h9 => h9) rfl dX6_clean_1 ?_
  refine zVv (As := []) (rest := []) (wc := [(aD, .inr (0, [.ref aD_kinds, .ref aD_washes, .ref aD_fuels, .ref aD_isBroken, .int D_units, .ref aD_lengths, .ref aD_wanted, .int D_leaving, .ref aD_trackOf, .int D_parked, .int D_changes])), (aP, .inr (1, [.ref aD, .ref aP_packed, .ref aP_row, .int P_found, .int P_narrowest, .int P_knownAt])), (aD_kinds, .inl (cI, 5, .inl D_kinds)), (aD_isBroken, .inl (cZ, 5, .inl D_isBroken)), (aD_lengths, .inl (cI, 3, .inl D_lengths)), (aD_wanted, .inl (cI, 5, .inl D_wanted)), (aP_packed, .inl (cI, 243, .inl P_packed)), (aP_row, .inl (cI, 5, .inl P_row))]) (wr := [(aN, .inr (5, [.ref aD, .ref aP, .ref aR, .ref aW]))]) ⟨hx, hb, hml, hown, hts⟩ hK hP hD hS hA [1, 2, 3, 4, 5, 6, 7, 8] [0] rfl rfl (by decide) (by decide) (by decide) (c_X1_refresh l D cI cJ cZ aD aD_kinds aD_washes aD_fuels aD_isBroken aD_lengths aD_wanted aD_trackOf aP aP_packed aP_row H.size D_units D_leaving D_parked D_changes P_found P_narrowest P_knownAt D_kinds D_isBroken D_lengths D_wanted P_packed P_row _ hw) (cwV 0 hts gX6_clean_X1_refresh rfl rfl rfl (by decide +kernel) ⟨Nat.le_of_ble_eq_true rfl, Nat.le_of_ble_eq_true rfl⟩) 2 1 rfl rfl rfl rfl hl.1 (Nat.le_of_ble_eq_true rfl) dX6_clean_4 ⟨(Nat.le_of_ble_eq_true rfl), (Nat.le_of_ble_eq_true rfl)⟩ rfl (fun u H locs hw hP hD hS => ?_)
  obtain ⟨P_packed_1, P_row_2, P_found_3, P_narrowest_4, P_knownAt_5⟩ := u
  try dsimp only at hw
  have hP : va_P D vwCl [(aN, .inr (5, [.ref aD, .ref aP, .ref aR, .ref aW])), (aD, .inr (0, [.ref aD_kinds, .ref aD_washes, .ref aD_fuels, .ref aD_isBroken, .int D_units, .ref aD_lengths, .ref aD_wanted, .int D_leaving, .ref aD_trackOf, .int D_parked, .int D_changes])), (aP, .inr (1, [.ref aD, .ref aP_packed, .ref aP_row, .int P_found_3, .int P_narrowest_4, .int P_knownAt_5])), (aD_kinds, .inl (cI, 5, .inl D_kinds)), (aD_isBroken, .inl (cZ, 5, .inl D_isBroken)), (aD_lengths, .inl (cI, 3, .inl D_lengths)), (aD_wanted, .inl (cI, 5, .inl D_wanted)), (aP_packed, .inl (cI, 243, .inl P_packed_1)), (aP_row, .inl (cI, 5, .inl P_row_2))] H := hP.sub [0, 1, 2, 3, 4, 5, 6, 7, 8] rfl
  have hD : va_D A [(aN, .inr (5, [.ref aD, .ref aP, .ref aR, .ref aW])), (aD, .inr (0, [.ref aD_kinds, .ref aD_washes, .ref aD_fuels, .ref aD_isBroken, .int D_units, .ref aD_lengths, .ref aD_wanted, .int D_leaving, .ref aD_trackOf, .int D_parked, .int D_changes])), (aP, .inr (1, [.ref aD, .ref aP_packed, .ref aP_row, .int P_found_3, .int P_narrowest_4, .int P_knownAt_5])), (aD_kinds, .inl (cI, 5, .inl D_kinds)), (aD_isBroken, .inl (cZ, 5, .inl D_isBroken)), (aD_lengths, .inl (cI, 3, .inl D_lengths)), (aD_wanted, .inl (cI, 5, .inl D_wanted)), (aP_packed, .inl (cI, 243, .inl P_packed_1)), (aP_row, .inl (cI, 5, .inl P_row_2))] := hD.sub [0, 1, 2, 3, 4, 5, 6, 7, 8] (by decide) rfl
  refine lv_aload_n hx hb dX6_clean_7 rfl (lv_at hl 0 rfl) ?_
  refine va_get (D := D) (ci := 5) (v := .ref aP) (C := RX6) (T := TX6) (N := 4) hx hb hts hinX6 hown hK hP 0 rfl rfl 1 (by decide) hf21 (fun _ h9 => h9) rfl dX6_clean_8 ?_
  refine va_get (D := D) (ci := 1) (v := .int P_found_3) (C := RX1) (T := TX1) (N := 6) hx hb hts hinX1 hown hK hP 2 rfl rfl 3 (by decide) hf82 (fun _ h9 => h9) rfl dX6_clean_11 ?_
  exact hret P_found_3 P_packed_1 P_row_2 P_found_3 P_narrowest_4 P_knownAt_5 H locs 14 ls hw dX6_clean_14 hP hD hS 
/-! X6_parking -/
def wp_X6_parking (D_kinds : Nat → Int32) (D_isBroken : Nat → Int32) (D_units : Int32) (D_lengths : Nat → Int32) (D_wanted : Nat → Int32) (D_leaving : Int32) (D_changes : Int32) (x1 : Int32) (x2 : Int32) (P_packed : Nat → Int32) (P_row : Nat → Int32) (P_found : Int32) (P_narrowest : Int32) (P_knownAt : Int32) (post : Int32 → (Nat → Int32) → (Nat → Int32) → Int32 → Int32 → Int32 → Prop) : Prop :=
  wp_X0_hasUnit D_units x2 (fun (r1 : Int32) => ((¬ r1 = 0 → wp_X1_refresh D_kinds D_isBroken D_units D_lengths D_wanted D_leaving D_changes P_packed P_row P_found P_narrowest P_knownAt (fun (P_packed_3 : Nat → Int32) (P_row_4 : Nat → Int32) (P_found_5 : Int32) (P_narrowest_6 : Int32) (P_knownAt_7 : Int32) => ((x1 < 0 → post (-3) P_packed_3 P_row_4 P_found_5 P_narrowest_6 P_knownAt_7) ∧ (¬ x1 < 0 → ((x1 < P_found_5 → wp_X1_trackIn P_packed_3 x1 x2 (fun (r10 : Int32) => post r10 P_packed_3 P_row_4 P_found_5 P_narrowest_6 P_knownAt_7)) ∧ (¬ x1 < P_found_5 → post (-3) P_packed_3 P_row_4 P_found_5 P_narrowest_6 P_knownAt_7)))))) ∧ (r1 = 0 → post (-2) P_packed P_row P_found P_narrowest P_knownAt)))
set_option maxHeartbeats 4000000 in
set_option maxRecDepth 100000 in
theorem c_X6_parking (l : Launch) (D : va_G) (cI cJ cZ : ClassId) (aN aD aP aR aW aD_kinds aD_washes aD_fuels aD_isBroken aD_lengths aD_wanted aD_trackOf aP_packed aP_row : Nat) (sz : Nat) (D_units : Int32) (D_leaving : Int32) (D_parked : Int32) (D_changes : Int32) (P_found : Int32) (P_narrowest : Int32) (P_knownAt : Int32) (D_kinds : Nat → Int32) (D_isBroken : Nat → Int32) (D_lengths : Nat → Int32) (D_wanted : Nat → Int32) (P_packed : Nat → Int32) (P_row : Nat → Int32) (x1 : Int32) (x2 : Int32) (post : Int32 → (Nat → Int32) → (Nat → Int32) → Int32 → Int32 → Int32 → Prop) (hw : wp_X6_parking D_kinds D_isBroken D_units D_lengths D_wanted D_leaving D_changes x1 x2 P_packed P_row P_found P_narrowest P_knownAt post) : Met l yX6_parking wsX6_parking ({ frames := 11, cells := 0, slots := 0, locals := 257 } : Room) (va_Pc [.ref aN, .int x1, .int x2] (zPre D cI cJ cZ [(aN, .inr (5, [.ref aD, .ref aP, .ref aR, .ref aW])), (aD, .inr (0, [.ref aD_kinds, .ref aD_washes, .ref aD_fuels, .ref aD_isBroken, .int D_units, .ref aD_lengths, .ref aD_wanted, .int D_leaving, .ref aD_trackOf, .int D_parked, .int D_changes])), (aP, .inr (1, [.ref aD, .ref aP_packed, .ref aP_row, .int P_found, .int P_narrowest, .int P_knownAt])), (aD_kinds, .inl (cI, 5, .inl D_kinds)), (aD_isBroken, .inl (cZ, 5, .inl D_isBroken)), (aD_lengths, .inl (cI, 3, .inl D_lengths)), (aD_wanted, .inl (cI, 5, .inl D_wanted)), (aP_packed, .inl (cI, 243, .inl P_packed)), (aP_row, .inl (cI, 5, .inl P_row))] sz)) (va_Qi (fun (r : Int32) (u : (Nat → Int32) × (Nat → Int32) × (Int32) × (Int32) × (Int32)) => post r u.1 u.2.1 u.2.2.1 u.2.2.2.1 u.2.2.2.2) (zPost D cI cJ cZ (va_A [(aN, .inr (5, [.ref aD, .ref aP, .ref aR, .ref aW])), (aD, .inr (0, [.ref aD_kinds, .ref aD_washes, .ref aD_fuels, .ref aD_isBroken, .int D_units, .ref aD_lengths, .ref aD_wanted, .int D_leaving, .ref aD_trackOf, .int D_parked, .int D_changes])), (aP, .inr (1, [.ref aD, .ref aP_packed, .ref aP_row, .int P_found, .int P_narrowest, .int P_knownAt])), (aD_kinds, .inl (cI, 5, .inl D_kinds)), (aD_isBroken, .inl (cZ, 5, .inl D_isBroken)), (aD_lengths, .inl (cI, 3, .inl D_lengths)), (aD_wanted, .inl (cI, 5, .inl D_wanted)), (aP_packed, .inl (cI, 243, .inl P_packed)), (aP_row, .inl (cI, 5, .inl P_row))] sz) (fun u : (Nat → Int32) × (Nat → Int32) × (Int32) × (Int32) × (Int32) => [(aN, .inr (5, [.ref aD, .ref aP, .ref aR, .ref aW])), (aD, .inr (0, [.ref aD_kinds, .ref aD_washes, .ref aD_fuels, .ref aD_isBroken, .int D_units, .ref aD_lengths, .ref aD_wanted, .int D_leaving, .ref aD_trackOf, .int D_parked, .int D_changes])), (aP, .inr (1, [.ref aD, .ref aP_packed, .ref aP_row, .int u.2.2.1, .int u.2.2.2.1, .int u.2.2.2.2])), (aD_kinds, .inl (cI, 5, .inl D_kinds)), (aD_isBroken, .inl (cZ, 5, .inl D_isBroken)), (aD_lengths, .inl (cI, 3, .inl D_lengths)), (aD_wanted, .inl (cI, 5, .inl D_wanted)), (aP_packed, .inl (cI, 243, .inl u.1)), (aP_row, .inl (cI, 5, .inl u.2.1))])) (va_A [(aN, .inr (5, [.ref aD, .ref aP, .ref aR, .ref aW])), (aD, .inr (0, [.ref aD_kinds, .ref aD_washes, .ref aD_fuels, .ref aD_isBroken, .int D_units, .ref aD_lengths, .ref aD_wanted, .int D_leaving, .ref aD_trackOf, .int D_parked, .int D_changes])), (aP, .inr (1, [.ref aD, .ref aP_packed, .ref aP_row, .int P_found, .int P_narrowest, .int P_knownAt])), (aD_kinds, .inl (cI, 5, .inl D_kinds)), (aD_isBroken, .inl (cZ, 5, .inl D_isBroken)), (aD_lengths, .inl (cI, 3, .inl D_lengths)), (aD_wanted, .inl (cI, 5, .inl D_wanted)), (aP_packed, .inl (cI, 243, .inl P_packed)), (aP_row, .inl (cI, 5, .inl P_row))] sz)) 0 0 (va_A [(aN, .inr (5, [.ref aD, .ref aP, .ref aR, .ref aW])), (aD, .inr (0, [.ref aD_kinds, .ref aD_washes, .ref aD_fuels, .ref aD_isBroken, .int D_units, .ref aD_lengths, .ref aD_wanted, .int D_leaving, .ref aD_trackOf, .int D_parked, .int D_changes])), (aP, .inr (1, [.ref aD, .ref aP_packed, .ref aP_row, .int P_found, .int P_narrowest, .int P_knownAt])), (aD_kinds, .inl (cI, 5, .inl D_kinds)), (aD_isBroken, .inl (cZ, 5, .inl D_isBroken)), (aD_lengths, .inl (cI, 3, .inl D_lengths)), (aD_wanted, .inl (cI, 5, .inl D_wanted)), (aP_packed, .inl (cI, 243, .inl P_packed)), (aP_row, .inl (cI, 5, .inl P_row))] sz) := by
  unfold wp_X6_parking at hw
  refine Met.ofW (cc := cX6_parking) (maxL := 3) (ret := some .int) (by decide) rfl ?_
  intro p e s m args below meth c s₁ B hml hv
  obtain ⟨rfl, hsz, hP, hK, hD0⟩ := hv
  have hx := B.exec
  have hb := B.bytes
  have hr := B.returns
  have hts := atoms_spec (ws := wsX6_parking) B.pre
  have hown : s.vm.findClass RX6 = some m.cls := findClass_of_methodNamed B.named
  have hlocks := B.notSynchronized
  subst hsz
  have hD := hD0.self (sz := s.heap.size)
  generalize hAe : va_A [(aN, .inr (5, [.ref aD, .ref aP, .ref aR, .ref aW])), (aD, .inr (0, [.ref aD_kinds, .ref aD_washes, .ref aD_fuels, .ref aD_isBroken, .int D_units, .ref aD_lengths, .ref aD_wanted, .int D_leaving, .ref aD_trackOf, .int D_parked, .int D_changes])), (aP, .inr (1, [.ref aD, .ref aP_packed, .ref aP_row, .int P_found, .int P_narrowest, .int P_knownAt])), (aD_kinds, .inl (cI, 5, .inl D_kinds)), (aD_isBroken, .inl (cZ, 5, .inl D_isBroken)), (aD_lengths, .inl (cI, 3, .inl D_lengths)), (aD_wanted, .inl (cI, 5, .inl D_wanted)), (aP_packed, .inl (cI, 243, .inl P_packed)), (aP_row, .inl (cI, 5, .inl P_row))] s.heap.size = A at hD ⊢
  have hA : ∀ q : Nat, s.heap.size ≤ q → A q := fun q h => by rw [← hAe]; exact Or.inr h
  have hS : va_S A s.heap s.heap [] := va_S.rf
  refine (fun (hall : ∀ Q0 : State → Prop, (∀ (r : Int32) (v0 : Nat → Int32) (v1 : Nat → Int32) (v2 : Int32) (v3 : Int32) (v4 : Int32) (H : Heap) (locs : List Loc) (pc : Nat) (ls : Array Slot), post r v0 v1 v2 v3 v4 → decode cX6_parking pc = .ok (.ireturn, 1) → va_P D vwCl [(aN, .inr (5, [.ref aD, .ref aP, .ref aR, .ref aW])), (aD, .inr (0, [.ref aD_kinds, .ref aD_washes, .ref aD_fuels, .ref aD_isBroken, .int D_units, .ref aD_lengths, .ref aD_wanted, .int D_leaving, .ref aD_trackOf, .int D_parked, .int D_changes])), (aP, .inr (1, [.ref aD, .ref aP_packed, .ref aP_row, .int v2, .int v3, .int v4])), (aD_kinds, .inl (cI, 5, .inl D_kinds)), (aD_isBroken, .inl (cZ, 5, .inl D_isBroken)), (aD_lengths, .inl (cI, 3, .inl D_lengths)), (aD_wanted, .inl (cI, 5, .inl D_wanted)), (aP_packed, .inl (cI, 243, .inl v0)), (aP_row, .inl (cI, 5, .inl v1))] H → va_D A [(aN, .inr (5, [.ref aD, .ref aP, .ref aR, .ref aW])), (aD, .inr (0, [.ref aD_kinds, .ref aD_washes, .ref aD_fuels, .ref aD_isBroken, .int D_units, .ref aD_lengths, .ref aD_wanted, .int D_leaving, .ref aD_trackOf, .int D_parked, .int D_changes])), (aP, .inr (1, [.ref aD, .ref aP_packed, .ref aP_row, .int v2, .int v3, .int v4])), (aD_kinds, .inl (cI, 5, .inl D_kinds)), (aD_isBroken, .inl (cZ, 5, .inl D_isBroken)), (aD_lengths, .inl (cI, 3, .inl D_lengths)), (aD_wanted, .inl (cI, 5, .inl D_wanted)), (aP_packed, .inl (cI, 243, .inl v0)), (aP_row, .inl (cI, 5, .inl v1))] → va_S A s.heap H locs → W p l e ({ frames := 11, cells := 0, slots := 0, locals := 257 } : Room) s m ([.ref aN, .int x1, .int x2] : List Value).toArray below meth c H locs 0 0 Q0 (F0 m pc ls [.int r])) → W p l e ({ frames := 11, cells := 0, slots := 0, locals := 257 } : Room) s m ([.ref aN, .int x1, .int x2] : List Value).toArray below meth c s.heap [] 0 0 Q0 (entryFrame m ([.ref aN, .int x1, .int x2] : List Value).toArray 3)) => hall _ (fun r v0 v1 v2 v3 v4 H locs pc ls hw hd hP hD hS => W.iret (v := r) hx hb hr (fun t ht hW => ⟨⟨r, (v0, v1, v2, v3, v4), rfl, hw, by rw [ht]; exact hP, va_K.moved hW.alike hK, hD⟩, hS.F ht⟩) hS.2.2 hd)) ?_
  intro Q0 hret
  have hl := lv_entry ([.ref aN, .int x1, .int x2]) (n := 3) (Nat.le_of_ble_eq_true rfl)
  rw [lg_entry_eq]
  generalize (lg_sl ([.ref aN, .int x1, .int x2]) ++ List.replicate (3 - (lg_sl ([.ref aN, .int x1, .int x2])).length) Slot.unset).toArray = ls at hl ⊢
  have hl : lv_has ls 3 [(0, .ref aN), (1, .int x1), (2, .int x2)] := hl
  have hinX1 : ∀ w ∈ u_ws RX1 TX1 6, w ∈ wsX6_parking := by decide +kernel
  have hinX6 : ∀ w ∈ u_ws RX6 TX6 4, w ∈ wsX6_parking := by decide +kernel
  have hf10 := hts (.fieldLink RX6 10 "DepotNight" "depot" "LDepotNight$Depot;") (by decide +kernel)
  have hf21 := hts (.fieldLink RX6 21 "DepotNight" "parkings" "LDepotNight$Parkings;") (by decide +kernel)
  have hf82 := hts (.fieldLink RX6 82 "DepotNight$Parkings" "found" "I") (by decide +kernel)
  obtain ⟨H, hHe⟩ : ∃ H, H = s.heap := ⟨_, rfl⟩
  obtain ⟨locs, hLo⟩ : ∃ locs : List Loc, locs = [] := ⟨_, rfl⟩
  have hS : va_S A s.heap H locs := by rw [hHe, hLo]; exact hS
  have hP : va_P D vwCl [(aN, .inr (5, [.ref aD, .ref aP, .ref aR, .ref aW])), (aD, .inr (0, [.ref aD_kinds, .ref aD_washes, .ref aD_fuels, .ref aD_isBroken, .int D_units, .ref aD_lengths, .ref aD_wanted, .int D_leaving, .ref aD_trackOf, .int D_parked, .int D_changes])), (aP, .inr (1, [.ref aD, .ref aP_packed, .ref aP_row, .int P_found, .int P_narrowest, .int P_knownAt])), (aD_kinds, .inl (cI, 5, .inl D_kinds)), (aD_isBroken, .inl (cZ, 5, .inl D_isBroken)), (aD_lengths, .inl (cI, 3, .inl D_lengths)), (aD_wanted, .inl (cI, 5, .inl D_wanted)), (aP_packed, .inl (cI, 243, .inl P_packed)), (aP_row, .inl (cI, 5, .inl P_row))] H := by rw [hHe]; exact hP
  refine (fun (hgo : W p l e ({ frames := 11, cells := 0, slots := 0, locals := 257 } : Room) s m ([.ref aN, .int x1, .int x2] : List Value).toArray below meth c H locs 0 0 Q0 (F0 m 0 ls [])) => by rw [hHe, hLo] at hgo; exact hgo) ?_
  refine lv_aload_n hx hb dX6_parking_0 rfl (lv_at hl 0 rfl) ?_
  refine va_get (D := D) (ci := 5) (v := .ref aD) (C := RX6) (T := TX6) (N := 4) hx hb hts hinX6 hown hK hP 0 rfl rfl 0 (by decide) hf10 (fun _ h9 => h9) rfl dX6_parking_1 ?_
  refine lv_iload_n hx hb dX6_parking_4 rfl (lv_at hl 2 rfl) ?_
  refine zVi (As := [.int x2]) (rest := []) (wc := [(aD, .inr (0, [.ref aD_kinds, .ref aD_washes, .ref aD_fuels, .ref aD_isBroken, .int D_units, .ref aD_lengths, .ref aD_wanted, .int D_leaving, .ref aD_trackOf, .int D_parked, .int D_changes]))]) (wr := [(aN, .inr (5, [.ref aD, .ref aP, .ref aR, .ref aW])), (aP, .inr (1, [.ref aD, .ref aP_packed, .ref aP_row, .int P_found, .int P_narrowest, .int P_knownAt])), (aD_kinds, .inl (cI, 5, .inl D_kinds)), (aD_isBroken, .inl (cZ, 5, .inl D_isBroken)), (aD_lengths, .inl (cI, 3, .inl D_lengths)), (aD_wanted, .inl (cI, 5, .inl D_wanted)), (aP_packed, .inl (cI, 243, .inl P_packed)), (aP_row, .inl (cI, 5, .inl P_row))]) ⟨hx, hb, hml, hown, hts⟩ hK hP hD hS hA [1] [0, 2, 3, 4, 5, 6, 7, 8] rfl rfl (by decide) (by decide) (by decide) (c_X0_hasUnit l D cI cJ cZ aD aD_kinds aD_washes aD_fuels aD_isBroken aD_lengths aD_wanted aD_trackOf H.size D_units D_leaving D_parked D_changes x2 _ hw) (cwV 1 hts gX6_parking_X0_hasUnit rfl rfl rfl (by decide +kernel) ⟨Nat.le_of_ble_eq_true rfl, Nat.le_of_ble_eq_true rfl⟩) 1 0 rfl rfl rfl rfl hl.1 (Nat.le_of_ble_eq_true rfl) dX6_parking_5 ⟨(Nat.le_of_ble_eq_true rfl), (Nat.le_of_ble_eq_true rfl)⟩ rfl (fun r1 u H locs hw hP hD hS => ?_)
  try dsimp only at hw
  have hP : va_P D vwCl [(aN, .inr (5, [.ref aD, .ref aP, .ref aR, .ref aW])), (aD, .inr (0, [.ref aD_kinds, .ref aD_washes, .ref aD_fuels, .ref aD_isBroken, .int D_units, .ref aD_lengths, .ref aD_wanted, .int D_leaving, .ref aD_trackOf, .int D_parked, .int D_changes])), (aP, .inr (1, [.ref aD, .ref aP_packed, .ref aP_row, .int P_found, .int P_narrowest, .int P_knownAt])), (aD_kinds, .inl (cI, 5, .inl D_kinds)), (aD_isBroken, .inl (cZ, 5, .inl D_isBroken)), (aD_lengths, .inl (cI, 3, .inl D_lengths)), (aD_wanted, .inl (cI, 5, .inl D_wanted)), (aP_packed, .inl (cI, 243, .inl P_packed)), (aP_row, .inl (cI, 5, .inl P_row))] H := hP.sub [0, 8, 1, 2, 3, 4, 5, 6, 7] rfl
  have hD : va_D A [(aN, .inr (5, [.ref aD, .ref aP, .ref aR, .ref aW])), (aD, .inr (0, [.ref aD_kinds, .ref aD_washes, .ref aD_fuels, .ref aD_isBroken, .int D_units, .ref aD_lengths, .ref aD_wanted, .int D_leaving, .ref aD_trackOf, .int D_parked, .int D_changes])), (aP, .inr (1, [.ref aD, .ref aP_packed, .ref aP_row, .int P_found, .int P_narrowest, .int P_knownAt])), (aD_kinds, .inl (cI, 5, .inl D_kinds)), (aD_isBroken, .inl (cZ, 5, .inl D_isBroken)), (aD_lengths, .inl (cI, 3, .inl D_lengths)), (aD_wanted, .inl (cI, 5, .inl D_wanted)), (aP_packed, .inl (cI, 243, .inl P_packed)), (aP_row, .inl (cI, 5, .inl P_row))] := hD.sub [0, 8, 1, 2, 3, 4, 5, 6, 7] (by decide) rfl
  refine lv_if_ne (tgt := 14) hx hb dX6_parking_8 (by decide) (fun hc2 => ?_) (fun hc2 => ?_)
  · have hw := hw.1 hc2
    refine lv_aload_n hx hb dX6_parking_14 rfl (lv_at hl 0 rfl) ?_
    refine va_get (D := D) (ci := 5) (v := .ref aP) (C := RX6) (T := TX6) (N := 4) hx hb hts hinX6 hown hK hP 0 rfl rfl 1 (by decide) hf21 (fun _ h9 => h9) rfl dX6_parking_15 ?_
    refine zVv (As := []) (rest := []) (wc := [(aD, .inr (0, [.ref aD_kinds, .ref aD_washes, .ref aD_fuels, .ref aD_isBroken, .int D_units, .ref aD_lengths, .ref aD_wanted, .int D_leaving, .ref aD_trackOf, .int D_parked, .int D_changes])), (aP, .inr (1, [.ref aD, .ref aP_packed, .ref aP_row, .int P_found, .int P_narrowest, .int P_knownAt])), (aD_kinds, .inl (cI, 5, .inl D_kinds)), (aD_isBroken, .inl (cZ, 5, .inl D_isBroken)), (aD_lengths, .inl (cI, 3, .inl D_lengths)), (aD_wanted, .inl (cI, 5, .inl D_wanted)), (aP_packed, .inl (cI, 243, .inl P_packed)), (aP_row, .inl (cI, 5, .inl P_row))]) (wr := [(aN, .inr (5, [.ref aD, .ref aP, .ref aR, .ref aW]))]) ⟨hx, hb, hml, hown, hts⟩ hK hP hD hS hA [1, 2, 3, 4, 5, 6, 7, 8] [0] rfl rfl (by decide) (by decide) (by decide) (c_X1_refresh l D cI cJ cZ aD aD_kinds aD_washes aD_fuels aD_isBroken aD_lengths aD_wanted aD_trackOf aP aP_packed aP_row H.size D_units D_leaving D_parked D_changes P_found P_narrowest P_knownAt D_kinds D_isBroken D_lengths D_wanted P_packed P_row _ hw) (cwV 0 hts gX6_parking_X1_refresh rfl rfl rfl (by decide +kernel) ⟨Nat.le_of_ble_eq_true rfl, Nat.le_of_ble_eq_true rfl⟩) 2 1 rfl rfl rfl rfl hl.1 (Nat.le_of_ble_eq_true rfl) dX6_parking_18 ⟨(Nat.le_of_ble_eq_true rfl), (Nat.le_of_ble_eq_true rfl)⟩ rfl (fun u H locs hw hP hD hS => ?_)
    obtain ⟨P_packed_3, P_row_4, P_found_5, P_narrowest_6, P_knownAt_7⟩ := u
    try dsimp only at hw
    have hP : va_P D vwCl [(aN, .inr (5, [.ref aD, .ref aP, .ref aR, .ref aW])), (aD, .inr (0, [.ref aD_kinds, .ref aD_washes, .ref aD_fuels, .ref aD_isBroken, .int D_units, .ref aD_lengths, .ref aD_wanted, .int D_leaving, .ref aD_trackOf, .int D_parked, .int D_changes])), (aP, .inr (1, [.ref aD, .ref aP_packed, .ref aP_row, .int P_found_5, .int P_narrowest_6, .int P_knownAt_7])), (aD_kinds, .inl (cI, 5, .inl D_kinds)), (aD_isBroken, .inl (cZ, 5, .inl D_isBroken)), (aD_lengths, .inl (cI, 3, .inl D_lengths)), (aD_wanted, .inl (cI, 5, .inl D_wanted)), (aP_packed, .inl (cI, 243, .inl P_packed_3)), (aP_row, .inl (cI, 5, .inl P_row_4))] H := hP.sub [0, 1, 2, 3, 4, 5, 6, 7, 8] rfl
    have hD : va_D A [(aN, .inr (5, [.ref aD, .ref aP, .ref aR, .ref aW])), (aD, .inr (0, [.ref aD_kinds, .ref aD_washes, .ref aD_fuels, .ref aD_isBroken, .int D_units, .ref aD_lengths, .ref aD_wanted, .int D_leaving, .ref aD_trackOf, .int D_parked, .int D_changes])), (aP, .inr (1, [.ref aD, .ref aP_packed, .ref aP_row, .int P_found_5, .int P_narrowest_6, .int P_knownAt_7])), (aD_kinds, .inl (cI, 5, .inl D_kinds)), (aD_isBroken, .inl (cZ, 5, .inl D_isBroken)), (aD_lengths, .inl (cI, 3, .inl D_lengths)), (aD_wanted, .inl (cI, 5, .inl D_wanted)), (aP_packed, .inl (cI, 243, .inl P_packed_3)), (aP_row, .inl (cI, 5, .inl P_row_4))] := hD.sub [0, 1, 2, 3, 4, 5, 6, 7, 8] (by decide) rfl
    refine lv_iload_n hx hb dX6_parking_21 rfl (lv_at hl 1 rfl) ?_
    refine lv_if_lt (tgt := 36) hx hb dX6_parking_22 (by decide) (fun hc8 => ?_) (fun hc8 => ?_)
    · have hw := hw.1 hc8
      refine lv_bipush (v := (-3)) hx hb dX6_parking_36 (by decide) ?_
      exact hret (-3) P_packed_3 P_row_4 P_found_5 P_narrowest_6 P_knownAt_7 H locs 38 ls hw dX6_parking_38 hP hD hS 
    · have hw := hw.2 hc8
      refine lv_iload_n hx hb dX6_parking_25 rfl (lv_at hl 1 rfl) ?_
      refine lv_aload_n hx hb dX6_parking_26 rfl (lv_at hl 0 rfl) ?_
      refine va_get (D := D) (ci := 5) (v := .ref aP) (C := RX6) (T := TX6) (N := 4) hx hb hts hinX6 hown hK hP 0 rfl rfl 1 (by decide) hf21 (fun _ h9 => h9) rfl dX6_parking_27 ?_
      refine va_get (D := D) (ci := 1) (v := .int P_found_5) (C := RX1) (T := TX1) (N := 6) hx hb hts hinX1 hown hK hP 2 rfl rfl 3 (by decide) hf82 (fun _ h9 => h9) rfl dX6_parking_30 ?_
      refine lv_icmp_lt (tgt := 39) hx hb dX6_parking_33 (by decide) (fun hc9 => ?_) (fun hc9 => ?_)
      · have hw := hw.1 hc9
        refine lv_aload_n hx hb dX6_parking_39 rfl (lv_at hl 0 rfl) ?_
        refine va_get (D := D) (ci := 5) (v := .ref aP) (C := RX6) (T := TX6) (N := 4) hx hb hts hinX6 hown hK hP 0 rfl rfl 1 (by decide) hf21 (fun _ h9 => h9) rfl dX6_parking_40 ?_
        refine lv_iload_n hx hb dX6_parking_43 rfl (lv_at hl 1 rfl) ?_
        refine lv_iload_n hx hb dX6_parking_44 rfl (lv_at hl 2 rfl) ?_
        refine zVi (As := [.int x1, .int x2]) (rest := []) (wc := [(aP, .inr (1, [.ref aD, .ref aP_packed, .ref aP_row, .int P_found_5, .int P_narrowest_6, .int P_knownAt_7])), (aP_packed, .inl (cI, 243, .inl P_packed_3))]) (wr := [(aN, .inr (5, [.ref aD, .ref aP, .ref aR, .ref aW])), (aD, .inr (0, [.ref aD_kinds, .ref aD_washes, .ref aD_fuels, .ref aD_isBroken, .int D_units, .ref aD_lengths, .ref aD_wanted, .int D_leaving, .ref aD_trackOf, .int D_parked, .int D_changes])), (aD_kinds, .inl (cI, 5, .inl D_kinds)), (aD_isBroken, .inl (cZ, 5, .inl D_isBroken)), (aD_lengths, .inl (cI, 3, .inl D_lengths)), (aD_wanted, .inl (cI, 5, .inl D_wanted)), (aP_row, .inl (cI, 5, .inl P_row_4))]) ⟨hx, hb, hml, hown, hts⟩ hK hP hD hS hA [2, 7] [0, 1, 3, 4, 5, 6, 8] rfl rfl (by decide) (by decide) (by decide) (c_X1_trackIn l D cI cJ cZ aP aD aP_packed aP_row H.size P_found_5 P_narrowest_6 P_knownAt_7 P_packed_3 x1 x2 _ hw) (cwV 2 hts gX6_parking_X1_trackIn rfl rfl rfl (by decide +kernel) ⟨Nat.le_of_ble_eq_true rfl, Nat.le_of_ble_eq_true rfl⟩) 2 1 rfl rfl rfl rfl hl.1 (Nat.le_of_ble_eq_true rfl) dX6_parking_45 ⟨(Nat.le_of_ble_eq_true rfl), (Nat.le_of_ble_eq_true rfl)⟩ rfl (fun r10 u H locs hw hP hD hS => ?_)
        try dsimp only at hw
        have hP : va_P D vwCl [(aN, .inr (5, [.ref aD, .ref aP, .ref aR, .ref aW])), (aD, .inr (0, [.ref aD_kinds, .ref aD_washes, .ref aD_fuels, .ref aD_isBroken, .int D_units, .ref aD_lengths, .ref aD_wanted, .int D_leaving, .ref aD_trackOf, .int D_parked, .int D_changes])), (aP, .inr (1, [.ref aD, .ref aP_packed, .ref aP_row, .int P_found_5, .int P_narrowest_6, .int P_knownAt_7])), (aD_kinds, .inl (cI, 5, .inl D_kinds)), (aD_isBroken, .inl (cZ, 5, .inl D_isBroken)), (aD_lengths, .inl (cI, 3, .inl D_lengths)), (aD_wanted, .inl (cI, 5, .inl D_wanted)), (aP_packed, .inl (cI, 243, .inl P_packed_3)), (aP_row, .inl (cI, 5, .inl P_row_4))] H := hP.sub [0, 1, 7, 2, 3, 4, 5, 8, 6] rfl
        have hD : va_D A [(aN, .inr (5, [.ref aD, .ref aP, .ref aR, .ref aW])), (aD, .inr (0, [.ref aD_kinds, .ref aD_washes, .ref aD_fuels, .ref aD_isBroken, .int D_units, .ref aD_lengths, .ref aD_wanted, .int D_leaving, .ref aD_trackOf, .int D_parked, .int D_changes])), (aP, .inr (1, [.ref aD, .ref aP_packed, .ref aP_row, .int P_found_5, .int P_narrowest_6, .int P_knownAt_7])), (aD_kinds, .inl (cI, 5, .inl D_kinds)), (aD_isBroken, .inl (cZ, 5, .inl D_isBroken)), (aD_lengths, .inl (cI, 3, .inl D_lengths)), (aD_wanted, .inl (cI, 5, .inl D_wanted)), (aP_packed, .inl (cI, 243, .inl P_packed_3)), (aP_row, .inl (cI, 5, .inl P_row_4))] := hD.sub [0, 1, 7, 2, 3, 4, 5, 8, 6] (by decide) rfl
        exact hret r10 P_packed_3 P_row_4 P_found_5 P_narrowest_6 P_knownAt_7 H locs 48 ls hw dX6_parking_48 hP hD hS 
      · have hw := hw.2 hc9
        refine lv_bipush (v := (-3)) hx hb dX6_parking_36 (by decide) ?_
        exact hret (-3) P_packed_3 P_row_4 P_found_5 P_narrowest_6 P_knownAt_7 H locs 38 ls hw dX6_parking_38 hP hD hS 
  · have hw := hw.2 hc2
    refine lv_bipush (v := (-2)) hx hb dX6_parking_11 (by decide) ?_
    exact hret (-2) P_packed P_row P_found P_narrowest P_knownAt H locs 13 ls hw dX6_parking_13 hP hD hS 
/-! X6_narrow -/
def wp_X6_narrow (D_kinds : Nat → Int32) (D_isBroken : Nat → Int32) (D_units : Int32) (D_lengths : Nat → Int32) (D_wanted : Nat → Int32) (D_leaving : Int32) (D_changes : Int32) (P_packed : Nat → Int32) (P_row : Nat → Int32) (P_found : Int32) (P_narrowest : Int32) (P_knownAt : Int32) (post : Int32 → (Nat → Int32) → (Nat → Int32) → Int32 → Int32 → Int32 → Prop) : Prop :=
  wp_X1_refresh D_kinds D_isBroken D_units D_lengths D_wanted D_leaving D_changes P_packed P_row P_found P_narrowest P_knownAt (fun (P_packed_1 : Nat → Int32) (P_row_2 : Nat → Int32) (P_found_3 : Int32) (P_narrowest_4 : Int32) (P_knownAt_5 : Int32) => post P_narrowest_4 P_packed_1 P_row_2 P_found_3 P_narrowest_4 P_knownAt_5)
set_option maxHeartbeats 4000000 in
set_option maxRecDepth 100000 in
theorem c_X6_narrow (l : Launch) (D : va_G) (cI cJ cZ : ClassId) (aN aD aP aR aW aD_kinds aD_washes aD_fuels aD_isBroken aD_lengths aD_wanted aD_trackOf aP_packed aP_row : Nat) (sz : Nat) (D_units : Int32) (D_leaving : Int32) (D_parked : Int32) (D_changes : Int32) (P_found : Int32) (P_narrowest : Int32) (P_knownAt : Int32) (D_kinds : Nat → Int32) (D_isBroken : Nat → Int32) (D_lengths : Nat → Int32) (D_wanted : Nat → Int32) (P_packed : Nat → Int32) (P_row : Nat → Int32) (post : Int32 → (Nat → Int32) → (Nat → Int32) → Int32 → Int32 → Int32 → Prop) (hw : wp_X6_narrow D_kinds D_isBroken D_units D_lengths D_wanted D_leaving D_changes P_packed P_row P_found P_narrowest P_knownAt post) : Met l yX6_narrow wsX6_narrow ({ frames := 11, cells := 0, slots := 0, locals := 257 } : Room) (va_Pc [.ref aN] (zPre D cI cJ cZ [(aN, .inr (5, [.ref aD, .ref aP, .ref aR, .ref aW])), (aD, .inr (0, [.ref aD_kinds, .ref aD_washes, .ref aD_fuels, .ref aD_isBroken, .int D_units, .ref aD_lengths, .ref aD_wanted, .int D_leaving, .ref aD_trackOf, .int D_parked, .int D_changes])), (aP, .inr (1, [.ref aD, .ref aP_packed, .ref aP_row, .int P_found, .int P_narrowest, .int P_knownAt])), (aD_kinds, .inl (cI, 5, .inl D_kinds)), (aD_isBroken, .inl (cZ, 5, .inl D_isBroken)), (aD_lengths, .inl (cI, 3, .inl D_lengths)), (aD_wanted, .inl (cI, 5, .inl D_wanted)), (aP_packed, .inl (cI, 243, .inl P_packed)), (aP_row, .inl (cI, 5, .inl P_row))] sz)) (va_Qi (fun (r : Int32) (u : (Nat → Int32) × (Nat → Int32) × (Int32) × (Int32) × (Int32)) => post r u.1 u.2.1 u.2.2.1 u.2.2.2.1 u.2.2.2.2) (zPost D cI cJ cZ (va_A [(aN, .inr (5, [.ref aD, .ref aP, .ref aR, .ref aW])), (aD, .inr (0, [.ref aD_kinds, .ref aD_washes, .ref aD_fuels, .ref aD_isBroken, .int D_units, .ref aD_lengths, .ref aD_wanted, .int D_leaving, .ref aD_trackOf, .int D_parked, .int D_changes])), (aP, .inr (1, [.ref aD, .ref aP_packed, .ref aP_row, .int P_found, .int P_narrowest, .int P_knownAt])), (aD_kinds, .inl (cI, 5, .inl D_kinds)), (aD_isBroken, .inl (cZ, 5, .inl D_isBroken)), (aD_lengths, .inl (cI, 3, .inl D_lengths)), (aD_wanted, .inl (cI, 5, .inl D_wanted)), (aP_packed, .inl (cI, 243, .inl P_packed)), (aP_row, .inl (cI, 5, .inl P_row))] sz) (fun u : (Nat → Int32) × (Nat → Int32) × (Int32) × (Int32) × (Int32) => [(aN, .inr (5, [.ref aD, .ref aP, .ref aR, .ref aW])), (aD, .inr (0, [.ref aD_kinds, .ref aD_washes, .ref aD_fuels, .ref aD_isBroken, .int D_units, .ref aD_lengths, .ref aD_wanted, .int D_leaving, .ref aD_trackOf, .int D_parked, .int D_changes])), (aP, .inr (1, [.ref aD, .ref aP_packed, .ref aP_row, .int u.2.2.1, .int u.2.2.2.1, .int u.2.2.2.2])), (aD_kinds, .inl (cI, 5, .inl D_kinds)), (aD_isBroken, .inl (cZ, 5, .inl D_isBroken)), (aD_lengths, .inl (cI, 3, .inl D_lengths)), (aD_wanted, .inl (cI, 5, .inl D_wanted)), (aP_packed, .inl (cI, 243, .inl u.1)), (aP_row, .inl (cI, 5, .inl u.2.1))])) (va_A [(aN, .inr (5, [.ref aD, .ref aP, .ref aR, .ref aW])), (aD, .inr (0, [.ref aD_kinds, .ref aD_washes, .ref aD_fuels, .ref aD_isBroken, .int D_units, .ref aD_lengths, .ref aD_wanted, .int D_leaving, .ref aD_trackOf, .int D_parked, .int D_changes])), (aP, .inr (1, [.ref aD, .ref aP_packed, .ref aP_row, .int P_found, .int P_narrowest, .int P_knownAt])), (aD_kinds, .inl (cI, 5, .inl D_kinds)), (aD_isBroken, .inl (cZ, 5, .inl D_isBroken)), (aD_lengths, .inl (cI, 3, .inl D_lengths)), (aD_wanted, .inl (cI, 5, .inl D_wanted)), (aP_packed, .inl (cI, 243, .inl P_packed)), (aP_row, .inl (cI, 5, .inl P_row))] sz)) 0 0 (va_A [(aN, .inr (5, [.ref aD, .ref aP, .ref aR, .ref aW])), (aD, .inr (0, [.ref aD_kinds, .ref aD_washes, .ref aD_fuels, .ref aD_isBroken, .int D_units, .ref aD_lengths, .ref aD_wanted, .int D_leaving, .ref aD_trackOf, .int D_parked, .int D_changes])), (aP, .inr (1, [.ref aD, .ref aP_packed, .ref aP_row, .int P_found, .int P_narrowest, .int P_knownAt])), (aD_kinds, .inl (cI, 5, .inl D_kinds)), (aD_isBroken, .inl (cZ, 5, .inl D_isBroken)), (aD_lengths, .inl (cI, 3, .inl D_lengths)), (aD_wanted, .inl (cI, 5, .inl D_wanted)), (aP_packed, .inl (cI, 243, .inl P_packed)), (aP_row, .inl (cI, 5, .inl P_row))] sz) := by
  unfold wp_X6_narrow at hw
  refine Met.ofW (cc := cX6_narrow) (maxL := 1) (ret := some .int) (by decide) rfl ?_
  intro p e s m args below meth c s₁ B hml hv
  obtain ⟨rfl, hsz, hP, hK, hD0⟩ := hv
  have hx := B.exec
  have hb := B.bytes
  have hr := B.returns
  have hts := atoms_spec (ws := wsX6_narrow) B.pre
  have hown : s.vm.findClass RX6 = some m.cls := findClass_of_methodNamed B.named
  have hlocks := B.notSynchronized
  subst hsz
  have hD := hD0.self (sz := s.heap.size)
  generalize hAe : va_A [(aN, .inr (5, [.ref aD, .ref aP, .ref aR, .ref aW])), (aD, .inr (0, [.ref aD_kinds, .ref aD_washes, .ref aD_fuels, .ref aD_isBroken, .int D_units, .ref aD_lengths, .ref aD_wanted, .int D_leaving, .ref aD_trackOf, .int D_parked, .int D_changes])), (aP, .inr (1, [.ref aD, .ref aP_packed, .ref aP_row, .int P_found, .int P_narrowest, .int P_knownAt])), (aD_kinds, .inl (cI, 5, .inl D_kinds)), (aD_isBroken, .inl (cZ, 5, .inl D_isBroken)), (aD_lengths, .inl (cI, 3, .inl D_lengths)), (aD_wanted, .inl (cI, 5, .inl D_wanted)), (aP_packed, .inl (cI, 243, .inl P_packed)), (aP_row, .inl (cI, 5, .inl P_row))] s.heap.size = A at hD ⊢
  have hA : ∀ q : Nat, s.heap.size ≤ q → A q := fun q h => by rw [← hAe]; exact Or.inr h
  have hS : va_S A s.heap s.heap [] := va_S.rf
  refine (fun (hall : ∀ Q0 : State → Prop, (∀ (r : Int32) (v0 : Nat → Int32) (v1 : Nat → Int32) (v2 : Int32) (v3 : Int32) (v4 : Int32) (H : Heap) (locs : List Loc) (pc : Nat) (ls : Array Slot), post r v0 v1 v2 v3 v4 → decode cX6_narrow pc = .ok (.ireturn, 1) → va_P D vwCl [(aN, .inr (5, [.ref aD, .ref aP, .ref aR, .ref aW])), (aD, .inr (0, [.ref aD_kinds, .ref aD_washes, .ref aD_fuels, .ref aD_isBroken, .int D_units, .ref aD_lengths, .ref aD_wanted, .int D_leaving, .ref aD_trackOf, .int D_parked, .int D_changes])), (aP, .inr (1, [.ref aD, .ref aP_packed, .ref aP_row, .int v2, .int v3, .int v4])), (aD_kinds, .inl (cI, 5, .inl D_kinds)), (aD_isBroken, .inl (cZ, 5, .inl D_isBroken)), (aD_lengths, .inl (cI, 3, .inl D_lengths)), (aD_wanted, .inl (cI, 5, .inl D_wanted)), (aP_packed, .inl (cI, 243, .inl v0)), (aP_row, .inl (cI, 5, .inl v1))] H → va_D A [(aN, .inr (5, [.ref aD, .ref aP, .ref aR, .ref aW])), (aD, .inr (0, [.ref aD_kinds, .ref aD_washes, .ref aD_fuels, .ref aD_isBroken, .int D_units, .ref aD_lengths, .ref aD_wanted, .int D_leaving, .ref aD_trackOf, .int D_parked, .int D_changes])), (aP, .inr (1, [.ref aD, .ref aP_packed, .ref aP_row, .int v2, .int v3, .int v4])), (aD_kinds, .inl (cI, 5, .inl D_kinds)), (aD_isBroken, .inl (cZ, 5, .inl D_isBroken)), (aD_lengths, .inl (cI, 3, .inl D_lengths)), (aD_wanted, .inl (cI, 5, .inl D_wanted)), (aP_packed, .inl (cI, 243, .inl v0)), (aP_row, .inl (cI, 5, .inl v1))] → va_S A s.heap H locs → W p l e ({ frames := 11, cells := 0, slots := 0, locals := 257 } : Room) s m ([.ref aN] : List Value).toArray below meth c H locs 0 0 Q0 (F0 m pc ls [.int r])) → W p l e ({ frames := 11, cells := 0, slots := 0, locals := 257 } : Room) s m ([.ref aN] : List Value).toArray below meth c s.heap [] 0 0 Q0 (entryFrame m ([.ref aN] : List Value).toArray 1)) => hall _ (fun r v0 v1 v2 v3 v4 H locs pc ls hw hd hP hD hS => W.iret (v := r) hx hb hr (fun t ht hW => ⟨⟨r, (v0, v1, v2, v3, v4), rfl, hw, by rw [ht]; exact hP, va_K.moved hW.alike hK, hD⟩, hS.F ht⟩) hS.2.2 hd)) ?_
  intro Q0 hret
  have hl := lv_entry ([.ref aN]) (n := 1) (Nat.le_of_ble_eq_true rfl)
  rw [lg_entry_eq]
  generalize (lg_sl ([.ref aN]) ++ List.replicate (1 - (lg_sl ([.ref aN])).length) Slot.unset).toArray = ls at hl ⊢
  have hl : lv_has ls 1 [(0, .ref aN)] := hl
  have hinX1 : ∀ w ∈ u_ws RX1 TX1 6, w ∈ wsX6_narrow := by decide +kernel
  have hinX6 : ∀ w ∈ u_ws RX6 TX6 4, w ∈ wsX6_narrow := by decide +kernel
  have hf21 := hts (.fieldLink RX6 21 "DepotNight" "parkings" "LDepotNight$Parkings;") (by decide +kernel)
  have hf88 := hts (.fieldLink RX6 88 "DepotNight$Parkings" "narrowest" "I") (by decide +kernel)
  obtain ⟨H, hHe⟩ : ∃ H, H = s.heap := ⟨_, rfl⟩
  obtain ⟨locs, hLo⟩ : ∃ locs : List Loc, locs = [] := ⟨_, rfl⟩
  have hS : va_S A s.heap H locs := by rw [hHe, hLo]; exact hS
  have hP : va_P D vwCl [(aN, .inr (5, [.ref aD, .ref aP, .ref aR, .ref aW])), (aD, .inr (0, [.ref aD_kinds, .ref aD_washes, .ref aD_fuels, .ref aD_isBroken, .int D_units, .ref aD_lengths, .ref aD_wanted, .int D_leaving, .ref aD_trackOf, .int D_parked, .int D_changes])), (aP, .inr (1, [.ref aD, .ref aP_packed, .ref aP_row, .int P_found, .int P_narrowest, .int P_knownAt])), (aD_kinds, .inl (cI, 5, .inl D_kinds)), (aD_isBroken, .inl (cZ, 5, .inl D_isBroken)), (aD_lengths, .inl (cI, 3, .inl D_lengths)), (aD_wanted, .inl (cI, 5, .inl D_wanted)), (aP_packed, .inl (cI, 243, .inl P_packed)), (aP_row, .inl (cI, 5, .inl P_row))] H := by rw [hHe]; exact hP
  refine (fun (hgo : W p l e ({ frames := 11, cells := 0, slots := 0, locals := 257 } : Room) s m ([.ref aN] : List Value).toArray below meth c H locs 0 0 Q0 (F0 m 0 ls [])) => by rw [hHe, hLo] at hgo; exact hgo) ?_
  refine lv_aload_n hx hb dX6_narrow_0 rfl (lv_at hl 0 rfl) ?_
  refine va_get (D := D) (ci := 5) (v := .ref aP) (C := RX6) (T := TX6) (N := 4) hx hb hts hinX6 hown hK hP 0 rfl rfl 1 (by decide) hf21 (fun _ h9 => h9) rfl dX6_narrow_1 ?_
  refine zVv (As := []) (rest := []) (wc := [(aD, .inr (0, [.ref aD_kinds, .ref aD_washes, .ref aD_fuels, .ref aD_isBroken, .int D_units, .ref aD_lengths, .ref aD_wanted, .int D_leaving, .ref aD_trackOf, .int D_parked, .int D_changes])), (aP, .inr (1, [.ref aD, .ref aP_packed, .ref aP_row, .int P_found, .int P_narrowest, .int P_knownAt])), (aD_kinds, .inl (cI, 5, .inl D_kinds)), (aD_isBroken, .inl (cZ, 5, .inl D_isBroken)), (aD_lengths, .inl (cI, 3, .inl D_lengths)), (aD_wanted, .inl (cI, 5, .inl D_wanted)), (aP_packed, .inl (cI, 243, .inl P_packed)), (aP_row, .inl (cI, 5, .inl P_row))]) (wr := [(aN, .inr (5, [.ref aD, .ref aP, .ref aR, .ref aW]))]) ⟨hx, hb, hml, hown, hts⟩ hK hP hD hS hA [1, 2, 3, 4, 5, 6, 7, 8] [0] rfl rfl (by decide) (by decide) (by decide) (c_X1_refresh l D cI cJ cZ aD aD_kinds aD_washes aD_fuels aD_isBroken aD_lengths aD_wanted aD_trackOf aP aP_packed aP_row H.size D_units D_leaving D_parked D_changes P_found P_narrowest P_knownAt D_kinds D_isBroken D_lengths D_wanted P_packed P_row _ hw) (cwV 0 hts gX6_narrow_X1_refresh rfl rfl rfl (by decide +kernel) ⟨Nat.le_of_ble_eq_true rfl, Nat.le_of_ble_eq_true rfl⟩) 2 1 rfl rfl rfl rfl hl.1 (Nat.le_of_ble_eq_true rfl) dX6_narrow_4 ⟨(Nat.le_of_ble_eq_true rfl), (Nat.le_of_ble_eq_true rfl)⟩ rfl (fun u H locs hw hP hD hS => ?_)
  obtain ⟨P_packed_1, P_row_2, P_found_3, P_narrowest_4, P_knownAt_5⟩ := u
  try dsimp only at hw
  have hP : va_P D vwCl [(aN, .inr (5, [.ref aD, .ref aP, .ref aR, .ref aW])), (aD, .inr (0, [.ref aD_kinds, .ref aD_washes, .ref aD_fuels, .ref aD_isBroken, .int D_units, .ref aD_lengths, .ref aD_wanted, .int D_leaving, .ref aD_trackOf, .int D_parked, .int D_changes])), (aP, .inr (1, [.ref aD, .ref aP_packed, .ref aP_row, .int P_found_3, .int P_narrowest_4, .int P_knownAt_5])), (aD_kinds, .inl (cI, 5, .inl D_kinds)), (aD_isBroken, .inl (cZ, 5, .inl D_isBroken)), (aD_lengths, .inl (cI, 3, .inl D_lengths)), (aD_wanted, .inl (cI, 5, .inl D_wanted)), (aP_packed, .inl (cI, 243, .inl P_packed_1)), (aP_row, .inl (cI, 5, .inl P_row_2))] H := hP.sub [0, 1, 2, 3, 4, 5, 6, 7, 8] rfl
  have hD : va_D A [(aN, .inr (5, [.ref aD, .ref aP, .ref aR, .ref aW])), (aD, .inr (0, [.ref aD_kinds, .ref aD_washes, .ref aD_fuels, .ref aD_isBroken, .int D_units, .ref aD_lengths, .ref aD_wanted, .int D_leaving, .ref aD_trackOf, .int D_parked, .int D_changes])), (aP, .inr (1, [.ref aD, .ref aP_packed, .ref aP_row, .int P_found_3, .int P_narrowest_4, .int P_knownAt_5])), (aD_kinds, .inl (cI, 5, .inl D_kinds)), (aD_isBroken, .inl (cZ, 5, .inl D_isBroken)), (aD_lengths, .inl (cI, 3, .inl D_lengths)), (aD_wanted, .inl (cI, 5, .inl D_wanted)), (aP_packed, .inl (cI, 243, .inl P_packed_1)), (aP_row, .inl (cI, 5, .inl P_row_2))] := hD.sub [0, 1, 2, 3, 4, 5, 6, 7, 8] (by decide) rfl
  refine lv_aload_n hx hb dX6_narrow_7 rfl (lv_at hl 0 rfl) ?_
  refine va_get (D := D) (ci := 5) (v := .ref aP) (C := RX6) (T := TX6) (N := 4) hx hb hts hinX6 hown hK hP 0 rfl rfl 1 (by decide) hf21 (fun _ h9 => h9) rfl dX6_narrow_8 ?_
  refine va_get (D := D) (ci := 1) (v := .int P_narrowest_4) (C := RX1) (T := TX1) (N := 6) hx hb hts hinX1 hown hK hP 2 rfl rfl 4 (by decide) hf88 (fun _ h9 => h9) rfl dX6_narrow_11 ?_
  exact hret P_narrowest_4 P_packed_1 P_row_2 P_found_3 P_narrowest_4 P_knownAt_5 H locs 14 ls hw dX6_narrow_14 hP hD hS 
/-! X6_why -/
def wp_X6_why (D_kinds : Nat → Int32) (D_isBroken : Nat → Int32) (D_units : Int32) (D_lengths : Nat → Int32) (D_wanted : Nat → Int32) (D_leaving : Int32) (D_changes : Int32) (P_packed : Nat → Int32) (P_row : Nat → Int32) (P_found : Int32) (P_narrowest : Int32) (P_knownAt : Int32) (post : Int32 → (Nat → Int32) → (Nat → Int32) → Int32 → Int32 → Int32 → Prop) : Prop :=
  wp_X1_refresh D_kinds D_isBroken D_units D_lengths D_wanted D_leaving D_changes P_packed P_row P_found P_narrowest P_knownAt (fun (P_packed_1 : Nat → Int32) (P_row_2 : Nat → Int32) (P_found_3 : Int32) (P_narrowest_4 : Int32) (P_knownAt_5 : Int32) => ((P_found_3 ≤ 0 → wp_X0_hasEnough D_kinds D_isBroken D_wanted D_leaving D_units (fun (r7 : Int32) => ((¬ r7 = 0 → wp_X0_room D_lengths (fun (r9 : Int32) => ((D_units ≤ r9 → post 3 P_packed_1 P_row_2 P_found_3 P_narrowest_4 P_knownAt_5) ∧ (¬ D_units ≤ r9 → post 2 P_packed_1 P_row_2 P_found_3 P_narrowest_4 P_knownAt_5)))) ∧ (r7 = 0 → post 1 P_packed_1 P_row_2 P_found_3 P_narrowest_4 P_knownAt_5)))) ∧ (¬ P_found_3 ≤ 0 → post 0 P_packed_1 P_row_2 P_found_3 P_narrowest_4 P_knownAt_5)))
set_option maxHeartbeats 4000000 in
set_option maxRecDepth 100000 in
theorem c_X6_why (l : Launch) (D : va_G) (cI cJ cZ : ClassId) (aN aD aP aR aW aD_kinds aD_washes aD_fuels aD_isBroken aD_lengths aD_wanted aD_trackOf aP_packed aP_row : Nat) (sz : Nat) (D_units : Int32) (D_leaving : Int32) (D_parked : Int32) (D_changes : Int32) (P_found : Int32) (P_narrowest : Int32) (P_knownAt : Int32) (D_kinds : Nat → Int32) (D_isBroken : Nat → Int32) (D_lengths : Nat → Int32) (D_wanted : Nat → Int32) (P_packed : Nat → Int32) (P_row : Nat → Int32) (post : Int32 → (Nat → Int32) → (Nat → Int32) → Int32 → Int32 → Int32 → Prop) (hw : wp_X6_why D_kinds D_isBroken D_units D_lengths D_wanted D_leaving D_changes P_packed P_row P_found P_narrowest P_knownAt post) : Met l yX6_why wsX6_why ({ frames := 11, cells := 0, slots := 0, locals := 257 } : Room) (va_Pc [.ref aN] (zPre D cI cJ cZ [(aN, .inr (5, [.ref aD, .ref aP, .ref aR, .ref aW])), (aD, .inr (0, [.ref aD_kinds, .ref aD_washes, .ref aD_fuels, .ref aD_isBroken, .int D_units, .ref aD_lengths, .ref aD_wanted, .int D_leaving, .ref aD_trackOf, .int D_parked, .int D_changes])), (aP, .inr (1, [.ref aD, .ref aP_packed, .ref aP_row, .int P_found, .int P_narrowest, .int P_knownAt])), (aD_kinds, .inl (cI, 5, .inl D_kinds)), (aD_isBroken, .inl (cZ, 5, .inl D_isBroken)), (aD_lengths, .inl (cI, 3, .inl D_lengths)), (aD_wanted, .inl (cI, 5, .inl D_wanted)), (aP_packed, .inl (cI, 243, .inl P_packed)), (aP_row, .inl (cI, 5, .inl P_row))] sz)) (va_Qi (fun (r : Int32) (u : (Nat → Int32) × (Nat → Int32) × (Int32) × (Int32) × (Int32)) => post r u.1 u.2.1 u.2.2.1 u.2.2.2.1 u.2.2.2.2) (zPost D cI cJ cZ (va_A [(aN, .inr (5, [.ref aD, .ref aP, .ref aR, .ref aW])), (aD, .inr (0, [.ref aD_kinds, .ref aD_washes, .ref aD_fuels, .ref aD_isBroken, .int D_units, .ref aD_lengths, .ref aD_wanted, .int D_leaving, .ref aD_trackOf, .int D_parked, .int D_changes])), (aP, .inr (1, [.ref aD, .ref aP_packed, .ref aP_row, .int P_found, .int P_narrowest, .int P_knownAt])), (aD_kinds, .inl (cI, 5, .inl D_kinds)), (aD_isBroken, .inl (cZ, 5, .inl D_isBroken)), (aD_lengths, .inl (cI, 3, .inl D_lengths)), (aD_wanted, .inl (cI, 5, .inl D_wanted)), (aP_packed, .inl (cI, 243, .inl P_packed)), (aP_row, .inl (cI, 5, .inl P_row))] sz) (fun u : (Nat → Int32) × (Nat → Int32) × (Int32) × (Int32) × (Int32) => [(aN, .inr (5, [.ref aD, .ref aP, .ref aR, .ref aW])), (aD, .inr (0, [.ref aD_kinds, .ref aD_washes, .ref aD_fuels, .ref aD_isBroken, .int D_units, .ref aD_lengths, .ref aD_wanted, .int D_leaving, .ref aD_trackOf, .int D_parked, .int D_changes])), (aP, .inr (1, [.ref aD, .ref aP_packed, .ref aP_row, .int u.2.2.1, .int u.2.2.2.1, .int u.2.2.2.2])), (aD_kinds, .inl (cI, 5, .inl D_kinds)), (aD_isBroken, .inl (cZ, 5, .inl D_isBroken)), (aD_lengths, .inl (cI, 3, .inl D_lengths)), (aD_wanted, .inl (cI, 5, .inl D_wanted)), (aP_packed, .inl (cI, 243, .inl u.1)), (aP_row, .inl (cI, 5, .inl u.2.1))])) (va_A [(aN, .inr (5, [.ref aD, .ref aP, .ref aR, .ref aW])), (aD, .inr (0, [.ref aD_kinds, .ref aD_washes, .ref aD_fuels, .ref aD_isBroken, .int D_units, .ref aD_lengths, .ref aD_wanted, .int D_leaving, .ref aD_trackOf, .int D_parked, .int D_changes])), (aP, .inr (1, [.ref aD, .ref aP_packed, .ref aP_row, .int P_found, .int P_narrowest, .int P_knownAt])), (aD_kinds, .inl (cI, 5, .inl D_kinds)), (aD_isBroken, .inl (cZ, 5, .inl D_isBroken)), (aD_lengths, .inl (cI, 3, .inl D_lengths)), (aD_wanted, .inl (cI, 5, .inl D_wanted)), (aP_packed, .inl (cI, 243, .inl P_packed)), (aP_row, .inl (cI, 5, .inl P_row))] sz)) 0 0 (va_A [(aN, .inr (5, [.ref aD, .ref aP, .ref aR, .ref aW])), (aD, .inr (0, [.ref aD_kinds, .ref aD_washes, .ref aD_fuels, .ref aD_isBroken, .int D_units, .ref aD_lengths, .ref aD_wanted, .int D_leaving, .ref aD_trackOf, .int D_parked, .int D_changes])), (aP, .inr (1, [.ref aD, .ref aP_packed, .ref aP_row, .int P_found, .int P_narrowest, .int P_knownAt])), (aD_kinds, .inl (cI, 5, .inl D_kinds)), (aD_isBroken, .inl (cZ, 5, .inl D_isBroken)), (aD_lengths, .inl (cI, 3, .inl D_lengths)), (aD_wanted, .inl (cI, 5, .inl D_wanted)), (aP_packed, .inl (cI, 243, .inl P_packed)), (aP_row, .inl (cI, 5, .inl P_row))] sz) := by
  unfold wp_X6_why at hw
  refine Met.ofW (cc := cX6_why) (maxL := 1) (ret := some .int) (by decide) rfl ?_
  intro p e s m args below meth c s₁ B hml hv
  obtain ⟨rfl, hsz, hP, hK, hD0⟩ := hv
  have hx := B.exec
  have hb := B.bytes
  have hr := B.returns
  have hts := atoms_spec (ws := wsX6_why) B.pre
  have hown : s.vm.findClass RX6 = some m.cls := findClass_of_methodNamed B.named
  have hlocks := B.notSynchronized
  subst hsz
  have hD := hD0.self (sz := s.heap.size)
  generalize hAe : va_A [(aN, .inr (5, [.ref aD, .ref aP, .ref aR, .ref aW])), (aD, .inr (0, [.ref aD_kinds, .ref aD_washes, .ref aD_fuels, .ref aD_isBroken, .int D_units, .ref aD_lengths, .ref aD_wanted, .int D_leaving, .ref aD_trackOf, .int D_parked, .int D_changes])), (aP, .inr (1, [.ref aD, .ref aP_packed, .ref aP_row, .int P_found, .int P_narrowest, .int P_knownAt])), (aD_kinds, .inl (cI, 5, .inl D_kinds)), (aD_isBroken, .inl (cZ, 5, .inl D_isBroken)), (aD_lengths, .inl (cI, 3, .inl D_lengths)), (aD_wanted, .inl (cI, 5, .inl D_wanted)), (aP_packed, .inl (cI, 243, .inl P_packed)), (aP_row, .inl (cI, 5, .inl P_row))] s.heap.size = A at hD ⊢
  have hA : ∀ q : Nat, s.heap.size ≤ q → A q := fun q h => by rw [← hAe]; exact Or.inr h
  have hS : va_S A s.heap s.heap [] := va_S.rf
  refine (fun (hall : ∀ Q0 : State → Prop, (∀ (r : Int32) (v0 : Nat → Int32) (v1 : Nat → Int32) (v2 : Int32) (v3 : Int32) (v4 : Int32) (H : Heap) (locs : List Loc) (pc : Nat) (ls : Array Slot), post r v0 v1 v2 v3 v4 → decode cX6_why pc = .ok (.ireturn, 1) → va_P D vwCl [(aN, .inr (5, [.ref aD, .ref aP, .ref aR, .ref aW])), (aD, .inr (0, [.ref aD_kinds, .ref aD_washes, .ref aD_fuels, .ref aD_isBroken, .int D_units, .ref aD_lengths, .ref aD_wanted, .int D_leaving, .ref aD_trackOf, .int D_parked, .int D_changes])), (aP, .inr (1, [.ref aD, .ref aP_packed, .ref aP_row, .int v2, .int v3, .int v4])), (aD_kinds, .inl (cI, 5, .inl D_kinds)), (aD_isBroken, .inl (cZ, 5, .inl D_isBroken)), (aD_lengths, .inl (cI, 3, .inl D_lengths)), (aD_wanted, .inl (cI, 5, .inl D_wanted)), (aP_packed, .inl (cI, 243, .inl v0)), (aP_row, .inl (cI, 5, .inl v1))] H → va_D A [(aN, .inr (5, [.ref aD, .ref aP, .ref aR, .ref aW])), (aD, .inr (0, [.ref aD_kinds, .ref aD_washes, .ref aD_fuels, .ref aD_isBroken, .int D_units, .ref aD_lengths, .ref aD_wanted, .int D_leaving, .ref aD_trackOf, .int D_parked, .int D_changes])), (aP, .inr (1, [.ref aD, .ref aP_packed, .ref aP_row, .int v2, .int v3, .int v4])), (aD_kinds, .inl (cI, 5, .inl D_kinds)), (aD_isBroken, .inl (cZ, 5, .inl D_isBroken)), (aD_lengths, .inl (cI, 3, .inl D_lengths)), (aD_wanted, .inl (cI, 5, .inl D_wanted)), (aP_packed, .inl (cI, 243, .inl v0)), (aP_row, .inl (cI, 5, .inl v1))] → va_S A s.heap H locs → W p l e ({ frames := 11, cells := 0, slots := 0, locals := 257 } : Room) s m ([.ref aN] : List Value).toArray below meth c H locs 0 0 Q0 (F0 m pc ls [.int r])) → W p l e ({ frames := 11, cells := 0, slots := 0, locals := 257 } : Room) s m ([.ref aN] : List Value).toArray below meth c s.heap [] 0 0 Q0 (entryFrame m ([.ref aN] : List Value).toArray 1)) => hall _ (fun r v0 v1 v2 v3 v4 H locs pc ls hw hd hP hD hS => W.iret (v := r) hx hb hr (fun t ht hW => ⟨⟨r, (v0, v1, v2, v3, v4), rfl, hw, by rw [ht]; exact hP, va_K.moved hW.alike hK, hD⟩, hS.F ht⟩) hS.2.2 hd)) ?_
  intro Q0 hret
  have hl := lv_entry ([.ref aN]) (n := 1) (Nat.le_of_ble_eq_true rfl)
  rw [lg_entry_eq]
  generalize (lg_sl ([.ref aN]) ++ List.replicate (1 - (lg_sl ([.ref aN])).length) Slot.unset).toArray = ls at hl ⊢
  have hl : lv_has ls 1 [(0, .ref aN)] := hl
  have hinX0 : ∀ w ∈ u_ws RX0 TX0 11, w ∈ wsX6_why := by decide +kernel
  have hinX1 : ∀ w ∈ u_ws RX1 TX1 6, w ∈ wsX6_why := by decide +kernel
  have hinX6 : ∀ w ∈ u_ws RX6 TX6 4, w ∈ wsX6_why := by decide +kernel
  have hf10 := hts (.fieldLink RX6 10 "DepotNight" "depot" "LDepotNight$Depot;") (by decide +kernel)
  have hf21 := hts (.fieldLink RX6 21 "DepotNight" "parkings" "LDepotNight$Parkings;") (by decide +kernel)
  have hf46 := hts (.fieldLink RX6 46 "DepotNight$Depot" "units" "I") (by decide +kernel)
  have hf82 := hts (.fieldLink RX6 82 "DepotNight$Parkings" "found" "I") (by decide +kernel)
  obtain ⟨H, hHe⟩ : ∃ H, H = s.heap := ⟨_, rfl⟩
  obtain ⟨locs, hLo⟩ : ∃ locs : List Loc, locs = [] := ⟨_, rfl⟩
  have hS : va_S A s.heap H locs := by rw [hHe, hLo]; exact hS
  have hP : va_P D vwCl [(aN, .inr (5, [.ref aD, .ref aP, .ref aR, .ref aW])), (aD, .inr (0, [.ref aD_kinds, .ref aD_washes, .ref aD_fuels, .ref aD_isBroken, .int D_units, .ref aD_lengths, .ref aD_wanted, .int D_leaving, .ref aD_trackOf, .int D_parked, .int D_changes])), (aP, .inr (1, [.ref aD, .ref aP_packed, .ref aP_row, .int P_found, .int P_narrowest, .int P_knownAt])), (aD_kinds, .inl (cI, 5, .inl D_kinds)), (aD_isBroken, .inl (cZ, 5, .inl D_isBroken)), (aD_lengths, .inl (cI, 3, .inl D_lengths)), (aD_wanted, .inl (cI, 5, .inl D_wanted)), (aP_packed, .inl (cI, 243, .inl P_packed)), (aP_row, .inl (cI, 5, .inl P_row))] H := by rw [hHe]; exact hP
  refine (fun (hgo : W p l e ({ frames := 11, cells := 0, slots := 0, locals := 257 } : Room) s m ([.ref aN] : List Value).toArray below meth c H locs 0 0 Q0 (F0 m 0 ls [])) => by rw [hHe, hLo] at hgo; exact hgo) ?_
  refine lv_aload_n hx hb dX6_why_0 rfl (lv_at hl 0 rfl) ?_
  refine va_get (D := D) (ci := 5) (v := .ref aP) (C := RX6) (T := TX6) (N := 4) hx hb hts hinX6 hown hK hP 0 rfl rfl 1 (by decide) hf21 (fun _ h9 => h9) rfl dX6_why_1 ?_
  refine zVv (As := []) (rest := []) (wc := [(aD, .inr (0, [.ref aD_kinds, .ref aD_washes, .ref aD_fuels, .ref aD_isBroken, .int D_units, .ref aD_lengths, .ref aD_wanted, .int D_leaving, .ref aD_trackOf, .int D_parked, .int D_changes])), (aP, .inr (1, [.ref aD, .ref aP_packed, .ref aP_row, .int P_found, .int P_narrowest, .int P_knownAt])), (aD_kinds, .inl (cI, 5, .inl D_kinds)), (aD_isBroken, .inl (cZ, 5, .inl D_isBroken)), (aD_lengths, .inl (cI, 3, .inl D_lengths)), (aD_wanted, .inl (cI, 5, .inl D_wanted)), (aP_packed, .inl (cI, 243, .inl P_packed)), (aP_row, .inl (cI, 5, .inl P_row))]) (wr := [(aN, .inr (5, [.ref aD, .ref aP, .ref aR, .ref aW]))]) ⟨hx, hb, hml, hown, hts⟩ hK hP hD hS hA [1, 2, 3, 4, 5, 6, 7, 8] [0] rfl rfl (by decide) (by decide) (by decide) (c_X1_refresh l D cI cJ cZ aD aD_kinds aD_washes aD_fuels aD_isBroken aD_lengths aD_wanted aD_trackOf aP aP_packed aP_row H.size D_units D_leaving D_parked D_changes P_found P_narrowest P_knownAt D_kinds D_isBroken D_lengths D_wanted P_packed P_row _ hw) (cwV 0 hts gX6_why_X1_refresh rfl rfl rfl (by decide +kernel) ⟨Nat.le_of_ble_eq_true rfl, Nat.le_of_ble_eq_true rfl⟩) 2 1 rfl rfl rfl rfl hl.1 (Nat.le_of_ble_eq_true rfl) dX6_why_4 ⟨(Nat.le_of_ble_eq_true rfl), (Nat.le_of_ble_eq_true rfl)⟩ rfl (fun u H locs hw hP hD hS => ?_)
  obtain ⟨P_packed_1, P_row_2, P_found_3, P_narrowest_4, P_knownAt_5⟩ := u
  try dsimp only at hw
  have hP : va_P D vwCl [(aN, .inr (5, [.ref aD, .ref aP, .ref aR, .ref aW])), (aD, .inr (0, [.ref aD_kinds, .ref aD_washes, .ref aD_fuels, .ref aD_isBroken, .int D_units, .ref aD_lengths, .ref aD_wanted, .int D_leaving, .ref aD_trackOf, .int D_parked, .int D_changes])), (aP, .inr (1, [.ref aD, .ref aP_packed, .ref aP_row, .int P_found_3, .int P_narrowest_4, .int P_knownAt_5])), (aD_kinds, .inl (cI, 5, .inl D_kinds)), (aD_isBroken, .inl (cZ, 5, .inl D_isBroken)), (aD_lengths, .inl (cI, 3, .inl D_lengths)), (aD_wanted, .inl (cI, 5, .inl D_wanted)), (aP_packed, .inl (cI, 243, .inl P_packed_1)), (aP_row, .inl (cI, 5, .inl P_row_2))] H := hP.sub [0, 1, 2, 3, 4, 5, 6, 7, 8] rfl
  have hD : va_D A [(aN, .inr (5, [.ref aD, .ref aP, .ref aR, .ref aW])), (aD, .inr (0, [.ref aD_kinds, .ref aD_washes, .ref aD_fuels, .ref aD_isBroken, .int D_units, .ref aD_lengths, .ref aD_wanted, .int D_leaving, .ref aD_trackOf, .int D_parked, .int D_changes])), (aP, .inr (1, [.ref aD, .ref aP_packed, .ref aP_row, .int P_found_3, .int P_narrowest_4, .int P_knownAt_5])), (aD_kinds, .inl (cI, 5, .inl D_kinds)), (aD_isBroken, .inl (cZ, 5, .inl D_isBroken)), (aD_lengths, .inl (cI, 3, .inl D_lengths)), (aD_wanted, .inl (cI, 5, .inl D_wanted)), (aP_packed, .inl (cI, 243, .inl P_packed_1)), (aP_row, .inl (cI, 5, .inl P_row_2))] := hD.sub [0, 1, 2, 3, 4, 5, 6, 7, 8] (by decide) rfl
  refine lv_aload_n hx hb dX6_why_7 rfl (lv_at hl 0 rfl) ?_
  refine va_get (D := D) (ci := 5) (v := .ref aP) (C := RX6) (T := TX6) (N := 4) hx hb hts hinX6 hown hK hP 0 rfl rfl 1 (by decide) hf21 (fun _ h9 => h9) rfl dX6_why_8 ?_
  refine va_get (D := D) (ci := 1) (v := .int P_found_3) (C := RX1) (T := TX1) (N := 6) hx hb hts hinX1 hown hK hP 2 rfl rfl 3 (by decide) hf82 (fun _ h9 => h9) rfl dX6_why_11 ?_
  refine lv_if_le (tgt := 19) hx hb dX6_why_14 (by decide) (fun hc6 => ?_) (fun hc6 => ?_)
  · have hw := hw.1 hc6
    refine lv_aload_n hx hb dX6_why_19 rfl (lv_at hl 0 rfl) ?_
    refine va_get (D := D) (ci := 5) (v := .ref aD) (C := RX6) (T := TX6) (N := 4) hx hb hts hinX6 hown hK hP 0 rfl rfl 0 (by decide) hf10 (fun _ h9 => h9) rfl dX6_why_20 ?_
    refine lv_aload_n hx hb dX6_why_23 rfl (lv_at hl 0 rfl) ?_
    refine va_get (D := D) (ci := 5) (v := .ref aD) (C := RX6) (T := TX6) (N := 4) hx hb hts hinX6 hown hK hP 0 rfl rfl 0 (by decide) hf10 (fun _ h9 => h9) rfl dX6_why_24 ?_
    refine va_get (D := D) (ci := 0) (v := .int D_units) (C := RX0) (T := TX0) (N := 11) hx hb hts hinX0 hown hK hP 1 rfl rfl 4 (by decide) hf46 (fun _ h9 => h9) rfl dX6_why_27 ?_
    refine zVi (As := [.int D_units]) (rest := []) (wc := [(aD, .inr (0, [.ref aD_kinds, .ref aD_washes, .ref aD_fuels, .ref aD_isBroken, .int D_units, .ref aD_lengths, .ref aD_wanted, .int D_leaving, .ref aD_trackOf, .int D_parked, .int D_changes])), (aD_kinds, .inl (cI, 5, .inl D_kinds)), (aD_isBroken, .inl (cZ, 5, .inl D_isBroken)), (aD_wanted, .inl (cI, 5, .inl D_wanted))]) (wr := [(aN, .inr (5, [.ref aD, .ref aP, .ref aR, .ref aW])), (aP, .inr (1, [.ref aD, .ref aP_packed, .ref aP_row, .int P_found_3, .int P_narrowest_4, .int P_knownAt_5])), (aD_lengths, .inl (cI, 3, .inl D_lengths)), (aP_packed, .inl (cI, 243, .inl P_packed_1)), (aP_row, .inl (cI, 5, .inl P_row_2))]) ⟨hx, hb, hml, hown, hts⟩ hK hP hD hS hA [1, 3, 4, 6] [0, 2, 5, 7, 8] rfl rfl (by decide) (by decide) (by decide) (c_X0_hasEnough l D cI cJ cZ aD aD_kinds aD_washes aD_fuels aD_isBroken aD_lengths aD_wanted aD_trackOf H.size D_units D_leaving D_parked D_changes D_kinds D_isBroken D_wanted D_units _ hw) (cwV 1 hts gX6_why_X0_hasEnough rfl rfl rfl (by decide +kernel) ⟨Nat.le_of_ble_eq_true rfl, Nat.le_of_ble_eq_true rfl⟩) 1 0 rfl rfl rfl rfl hl.1 (Nat.le_of_ble_eq_true rfl) dX6_why_30 ⟨(Nat.le_of_ble_eq_true rfl), (Nat.le_of_ble_eq_true rfl)⟩ rfl (fun r7 u H locs hw hP hD hS => ?_)
    try dsimp only at hw
    have hP : va_P D vwCl [(aN, .inr (5, [.ref aD, .ref aP, .ref aR, .ref aW])), (aD, .inr (0, [.ref aD_kinds, .ref aD_washes, .ref aD_fuels, .ref aD_isBroken, .int D_units, .ref aD_lengths, .ref aD_wanted, .int D_leaving, .ref aD_trackOf, .int D_parked, .int D_changes])), (aP, .inr (1, [.ref aD, .ref aP_packed, .ref aP_row, .int P_found_3, .int P_narrowest_4, .int P_knownAt_5])), (aD_kinds, .inl (cI, 5, .inl D_kinds)), (aD_isBroken, .inl (cZ, 5, .inl D_isBroken)), (aD_lengths, .inl (cI, 3, .inl D_lengths)), (aD_wanted, .inl (cI, 5, .inl D_wanted)), (aP_packed, .inl (cI, 243, .inl P_packed_1)), (aP_row, .inl (cI, 5, .inl P_row_2))] H := hP.sub [0, 5, 1, 6, 7, 2, 8, 3, 4] rfl
    have hD : va_D A [(aN, .inr (5, [.ref aD, .ref aP, .ref aR, .ref aW])), (aD, .inr (0, [.ref aD_kinds, .ref aD_washes, .ref aD_fuels, .ref aD_isBroken, .int D_units, .ref aD_lengths, .ref aD_wanted, .int D_leaving, .ref aD_trackOf, .int D_parked, .int D_changes])), (aP, .inr (1, [.ref aD, .ref aP_packed, .ref aP_row, .int P_found_3, .int P_narrowest_4, .int P_knownAt_5])), (aD_kinds, .inl (cI, 5, .inl D_kinds)), (aD_isBroken, .inl (cZ, 5, .inl D_isBroken)), (aD_lengths, .inl (cI, 3, .inl D_lengths)), (aD_wanted, .inl (cI, 5, .inl D_wanted)), (aP_packed, .inl (cI, 243, .inl P_packed_1)), (aP_row, .inl (cI, 5, .inl P_row_2))] := hD.sub [0, 5, 1, 6, 7, 2, 8, 3, 4] (by decide) rfl
    refine lv_if_ne (tgt := 38) hx hb dX6_why_33 (by decide) (fun hc8 => ?_) (fun hc8 => ?_)
    · have hw := hw.1 hc8
      refine lv_aload_n hx hb dX6_why_38 rfl (lv_at hl 0 rfl) ?_
      refine va_get (D := D) (ci := 5) (v := .ref aD) (C := RX6) (T := TX6) (N := 4) hx hb hts hinX6 hown hK hP 0 rfl rfl 0 (by decide) hf10 (fun _ h9 => h9) rfl dX6_why_39 ?_
      refine va_get (D := D) (ci := 0) (v := .int D_units) (C := RX0) (T := TX0) (N := 11) hx hb hts hinX0 hown hK hP 1 rfl rfl 4 (by decide) hf46 (fun _ h9 => h9) rfl dX6_why_42 ?_
      refine lv_aload_n hx hb dX6_why_45 rfl (lv_at hl 0 rfl) ?_
      refine va_get (D := D) (ci := 5) (v := .ref aD) (C := RX6) (T := TX6) (N := 4) hx hb hts hinX6 hown hK hP 0 rfl rfl 0 (by decide) hf10 (fun _ h9 => h9) rfl dX6_why_46 ?_
      refine zVi (As := []) (rest := [.int D_units]) (wc := [(aD, .inr (0, [.ref aD_kinds, .ref aD_washes, .ref aD_fuels, .ref aD_isBroken, .int D_units, .ref aD_lengths, .ref aD_wanted, .int D_leaving, .ref aD_trackOf, .int D_parked, .int D_changes])), (aD_lengths, .inl (cI, 3, .inl D_lengths))]) (wr := [(aN, .inr (5, [.ref aD, .ref aP, .ref aR, .ref aW])), (aP, .inr (1, [.ref aD, .ref aP_packed, .ref aP_row, .int P_found_3, .int P_narrowest_4, .int P_knownAt_5])), (aD_kinds, .inl (cI, 5, .inl D_kinds)), (aD_isBroken, .inl (cZ, 5, .inl D_isBroken)), (aD_wanted, .inl (cI, 5, .inl D_wanted)), (aP_packed, .inl (cI, 243, .inl P_packed_1)), (aP_row, .inl (cI, 5, .inl P_row_2))]) ⟨hx, hb, hml, hown, hts⟩ hK hP hD hS hA [1, 5] [0, 2, 3, 4, 6, 7, 8] rfl rfl (by decide) (by decide) (by decide) (c_X0_room l D cI cJ cZ aD aD_kinds aD_washes aD_fuels aD_isBroken aD_lengths aD_wanted aD_trackOf H.size D_units D_leaving D_parked D_changes D_lengths _ hw) (cwV 0 hts gX6_why_X0_room rfl rfl rfl (by decide +kernel) ⟨Nat.le_of_ble_eq_true rfl, Nat.le_of_ble_eq_true rfl⟩) 1 0 rfl rfl rfl rfl hl.1 (Nat.le_of_ble_eq_true rfl) dX6_why_49 ⟨(Nat.le_of_ble_eq_true rfl), (Nat.le_of_ble_eq_true rfl)⟩ rfl (fun r9 u H locs hw hP hD hS => ?_)
      try dsimp only at hw
      have hP : va_P D vwCl [(aN, .inr (5, [.ref aD, .ref aP, .ref aR, .ref aW])), (aD, .inr (0, [.ref aD_kinds, .ref aD_washes, .ref aD_fuels, .ref aD_isBroken, .int D_units, .ref aD_lengths, .ref aD_wanted, .int D_leaving, .ref aD_trackOf, .int D_parked, .int D_changes])), (aP, .inr (1, [.ref aD, .ref aP_packed, .ref aP_row, .int P_found_3, .int P_narrowest_4, .int P_knownAt_5])), (aD_kinds, .inl (cI, 5, .inl D_kinds)), (aD_isBroken, .inl (cZ, 5, .inl D_isBroken)), (aD_lengths, .inl (cI, 3, .inl D_lengths)), (aD_wanted, .inl (cI, 5, .inl D_wanted)), (aP_packed, .inl (cI, 243, .inl P_packed_1)), (aP_row, .inl (cI, 5, .inl P_row_2))] H := hP.sub [0, 7, 1, 2, 3, 8, 4, 5, 6] rfl
      have hD : va_D A [(aN, .inr (5, [.ref aD, .ref aP, .ref aR, .ref aW])), (aD, .inr (0, [.ref aD_kinds, .ref aD_washes, .ref aD_fuels, .ref aD_isBroken, .int D_units, .ref aD_lengths, .ref aD_wanted, .int D_leaving, .ref aD_trackOf, .int D_parked, .int D_changes])), (aP, .inr (1, [.ref aD, .ref aP_packed, .ref aP_row, .int P_found_3, .int P_narrowest_4, .int P_knownAt_5])), (aD_kinds, .inl (cI, 5, .inl D_kinds)), (aD_isBroken, .inl (cZ, 5, .inl D_isBroken)), (aD_lengths, .inl (cI, 3, .inl D_lengths)), (aD_wanted, .inl (cI, 5, .inl D_wanted)), (aP_packed, .inl (cI, 243, .inl P_packed_1)), (aP_row, .inl (cI, 5, .inl P_row_2))] := hD.sub [0, 7, 1, 2, 3, 8, 4, 5, 6] (by decide) rfl
      refine lv_icmp_le (tgt := 59) hx hb dX6_why_52 (by decide) (fun hc10 => ?_) (fun hc10 => ?_)
      · have hw := hw.1 hc10
        refine lv_iconst (v := 3) hx hb dX6_why_59 (by decide) ?_
        exact hret 3 P_packed_1 P_row_2 P_found_3 P_narrowest_4 P_knownAt_5 H locs 60 ls hw dX6_why_60 hP hD hS 
      · have hw := hw.2 hc10
        refine lv_iconst (v := 2) hx hb dX6_why_55 (by decide) ?_
        refine lv_goto (tgt := 60) hx hb dX6_why_56 (by decide) ?_
        exact hret 2 P_packed_1 P_row_2 P_found_3 P_narrowest_4 P_knownAt_5 H locs 60 ls hw dX6_why_60 hP hD hS 
    · have hw := hw.2 hc8
      refine lv_iconst (v := 1) hx hb dX6_why_36 (by decide) ?_
      exact hret 1 P_packed_1 P_row_2 P_found_3 P_narrowest_4 P_knownAt_5 H locs 37 ls hw dX6_why_37 hP hD hS 
  · have hw := hw.2 hc6
    refine lv_iconst (v := 0) hx hb dX6_why_17 (by decide) ?_
    exact hret 0 P_packed_1 P_row_2 P_found_3 P_narrowest_4 P_knownAt_5 H locs 18 ls hw dX6_why_18 hP hD hS 
/-! X6_park -/
def wp_X6_park (D_units : Int32) (D_lengths : Nat → Int32) (x1 : Int32) (D_trackOf : Nat → Int32) (D_parked : Int32) (D_changes : Int32) (post : Int32 → (Nat → Int32) → Int32 → Int32 → Prop) : Prop :=
  wp_X6_isTrack x1 (fun (r1 : Int32) => ((¬ r1 = 0 → ((D_parked < D_units → wp_X0_standingOn D_trackOf D_parked x1 (fun (r4 : Int32) => vp_in x1 3 ∧ (((r4 < (D_lengths x1.toNatClampNeg) → wp_X0_parkNext x1 D_trackOf D_parked D_changes (fun (r7 : Int32) (D_trackOf_8 : Nat → Int32) (D_parked_9 : Int32) (D_changes_10 : Int32) => post r7 D_trackOf_8 D_parked_9 D_changes_10)) ∧ (¬ r4 < (D_lengths x1.toNatClampNeg) → post (-5) D_trackOf D_parked D_changes))))) ∧ (¬ D_parked < D_units → post (-4) D_trackOf D_parked D_changes))) ∧ (r1 = 0 → post (-2) D_trackOf D_parked D_changes)))
set_option maxHeartbeats 4000000 in
set_option maxRecDepth 100000 in
theorem c_X6_park (l : Launch) (D : va_G) (cI cJ cZ : ClassId) (aN aD aP aR aW aD_kinds aD_washes aD_fuels aD_isBroken aD_lengths aD_wanted aD_trackOf : Nat) (sz : Nat) (D_units : Int32) (D_leaving : Int32) (D_parked : Int32) (D_changes : Int32) (D_lengths : Nat → Int32) (D_trackOf : Nat → Int32) (x1 : Int32) (post : Int32 → (Nat → Int32) → Int32 → Int32 → Prop) (hw : wp_X6_park D_units D_lengths x1 D_trackOf D_parked D_changes post) : Met l yX6_park wsX6_park ({ frames := 1, cells := 0, slots := 0, locals := 23 } : Room) (va_Pc [.ref aN, .int x1] (zPre D cI cJ cZ [(aN, .inr (5, [.ref aD, .ref aP, .ref aR, .ref aW])), (aD, .inr (0, [.ref aD_kinds, .ref aD_washes, .ref aD_fuels, .ref aD_isBroken, .int D_units, .ref aD_lengths, .ref aD_wanted, .int D_leaving, .ref aD_trackOf, .int D_parked, .int D_changes])), (aD_lengths, .inl (cI, 3, .inl D_lengths)), (aD_trackOf, .inl (cI, 5, .inl D_trackOf))] sz)) (va_Qi (fun (r : Int32) (u : (Nat → Int32) × (Int32) × (Int32)) => post r u.1 u.2.1 u.2.2) (zPost D cI cJ cZ (va_A [(aN, .inr (5, [.ref aD, .ref aP, .ref aR, .ref aW])), (aD, .inr (0, [.ref aD_kinds, .ref aD_washes, .ref aD_fuels, .ref aD_isBroken, .int D_units, .ref aD_lengths, .ref aD_wanted, .int D_leaving, .ref aD_trackOf, .int D_parked, .int D_changes])), (aD_lengths, .inl (cI, 3, .inl D_lengths)), (aD_trackOf, .inl (cI, 5, .inl D_trackOf))] sz) (fun u : (Nat → Int32) × (Int32) × (Int32) => [(aN, .inr (5, [.ref aD, .ref aP, .ref aR, .ref aW])), (aD, .inr (0, [.ref aD_kinds, .ref aD_washes, .ref aD_fuels, .ref aD_isBroken, .int D_units, .ref aD_lengths, .ref aD_wanted, .int D_leaving, .ref aD_trackOf, .int u.2.1, .int u.2.2])), (aD_lengths, .inl (cI, 3, .inl D_lengths)), (aD_trackOf, .inl (cI, 5, .inl u.1))])) (va_A [(aN, .inr (5, [.ref aD, .ref aP, .ref aR, .ref aW])), (aD, .inr (0, [.ref aD_kinds, .ref aD_washes, .ref aD_fuels, .ref aD_isBroken, .int D_units, .ref aD_lengths, .ref aD_wanted, .int D_leaving, .ref aD_trackOf, .int D_parked, .int D_changes])), (aD_lengths, .inl (cI, 3, .inl D_lengths)), (aD_trackOf, .inl (cI, 5, .inl D_trackOf))] sz)) 0 0 (va_A [(aN, .inr (5, [.ref aD, .ref aP, .ref aR, .ref aW])), (aD, .inr (0, [.ref aD_kinds, .ref aD_washes, .ref aD_fuels, .ref aD_isBroken, .int D_units, .ref aD_lengths, .ref aD_wanted, .int D_leaving, .ref aD_trackOf, .int D_parked, .int D_changes])), (aD_lengths, .inl (cI, 3, .inl D_lengths)), (aD_trackOf, .inl (cI, 5, .inl D_trackOf))] sz) := by
  unfold wp_X6_park at hw
  refine Met.ofW (cc := cX6_park) (maxL := 2) (ret := some .int) (by decide) rfl ?_
  intro p e s m args below meth c s₁ B hml hv
  obtain ⟨rfl, hsz, hP, hK, hD0⟩ := hv
  have hx := B.exec
  have hb := B.bytes
  have hr := B.returns
  have hts := atoms_spec (ws := wsX6_park) B.pre
  have hown : s.vm.findClass RX6 = some m.cls := findClass_of_methodNamed B.named
  have hlocks := B.notSynchronized
  subst hsz
  have hD := hD0.self (sz := s.heap.size)
  generalize hAe : va_A [(aN, .inr (5, [.ref aD, .ref aP, .ref aR, .ref aW])), (aD, .inr (0, [.ref aD_kinds, .ref aD_washes, .ref aD_fuels, .ref aD_isBroken, .int D_units, .ref aD_lengths, .ref aD_wanted, .int D_leaving, .ref aD_trackOf, .int D_parked, .int D_changes])), (aD_lengths, .inl (cI, 3, .inl D_lengths)), (aD_trackOf, .inl (cI, 5, .inl D_trackOf))] s.heap.size = A at hD ⊢
  have hA : ∀ q : Nat, s.heap.size ≤ q → A q := fun q h => by rw [← hAe]; exact Or.inr h
  have hS : va_S A s.heap s.heap [] := va_S.rf
  refine (fun (hall : ∀ Q0 : State → Prop, (∀ (r : Int32) (v0 : Nat → Int32) (v1 : Int32) (v2 : Int32) (H : Heap) (locs : List Loc) (pc : Nat) (ls : Array Slot), post r v0 v1 v2 → decode cX6_park pc = .ok (.ireturn, 1) → va_P D vwCl [(aN, .inr (5, [.ref aD, .ref aP, .ref aR, .ref aW])), (aD, .inr (0, [.ref aD_kinds, .ref aD_washes, .ref aD_fuels, .ref aD_isBroken, .int D_units, .ref aD_lengths, .ref aD_wanted, .int D_leaving, .ref aD_trackOf, .int v1, .int v2])), (aD_lengths, .inl (cI, 3, .inl D_lengths)), (aD_trackOf, .inl (cI, 5, .inl v0))] H → va_D A [(aN, .inr (5, [.ref aD, .ref aP, .ref aR, .ref aW])), (aD, .inr (0, [.ref aD_kinds, .ref aD_washes, .ref aD_fuels, .ref aD_isBroken, .int D_units, .ref aD_lengths, .ref aD_wanted, .int D_leaving, .ref aD_trackOf, .int v1, .int v2])), (aD_lengths, .inl (cI, 3, .inl D_lengths)), (aD_trackOf, .inl (cI, 5, .inl v0))] → va_S A s.heap H locs → W p l e ({ frames := 1, cells := 0, slots := 0, locals := 23 } : Room) s m ([.ref aN, .int x1] : List Value).toArray below meth c H locs 0 0 Q0 (F0 m pc ls [.int r])) → W p l e ({ frames := 1, cells := 0, slots := 0, locals := 23 } : Room) s m ([.ref aN, .int x1] : List Value).toArray below meth c s.heap [] 0 0 Q0 (entryFrame m ([.ref aN, .int x1] : List Value).toArray 2)) => hall _ (fun r v0 v1 v2 H locs pc ls hw hd hP hD hS => W.iret (v := r) hx hb hr (fun t ht hW => ⟨⟨r, (v0, v1, v2), rfl, hw, by rw [ht]; exact hP, va_K.moved hW.alike hK, hD⟩, hS.F ht⟩) hS.2.2 hd)) ?_
  intro Q0 hret
  have hl := lv_entry ([.ref aN, .int x1]) (n := 2) (Nat.le_of_ble_eq_true rfl)
  rw [lg_entry_eq]
  generalize (lg_sl ([.ref aN, .int x1]) ++ List.replicate (2 - (lg_sl ([.ref aN, .int x1])).length) Slot.unset).toArray = ls at hl ⊢
  have hl : lv_has ls 2 [(0, .ref aN), (1, .int x1)] := hl
  have hinX0 : ∀ w ∈ u_ws RX0 TX0 11, w ∈ wsX6_park := by decide +kernel
  have hinX6 : ∀ w ∈ u_ws RX6 TX6 4, w ∈ wsX6_park := by decide +kernel
  have hf10 := hts (.fieldLink RX6 10 "DepotNight" "depot" "LDepotNight$Depot;") (by decide +kernel)
  have hf46 := hts (.fieldLink RX6 46 "DepotNight$Depot" "units" "I") (by decide +kernel)
  have hf97 := hts (.fieldLink RX6 97 "DepotNight$Depot" "parked" "I") (by decide +kernel)
  have hf103 := hts (.fieldLink RX6 103 "DepotNight$Depot" "lengths" "[I") (by decide +kernel)
  obtain ⟨H, hHe⟩ : ∃ H, H = s.heap := ⟨_, rfl⟩
  obtain ⟨locs, hLo⟩ : ∃ locs : List Loc, locs = [] := ⟨_, rfl⟩
  have hS : va_S A s.heap H locs := by rw [hHe, hLo]; exact hS
  have hP : va_P D vwCl [(aN, .inr (5, [.ref aD, .ref aP, .ref aR, .ref aW])), (aD, .inr (0, [.ref aD_kinds, .ref aD_washes, .ref aD_fuels, .ref aD_isBroken, .int D_units, .ref aD_lengths, .ref aD_wanted, .int D_leaving, .ref aD_trackOf, .int D_parked, .int D_changes])), (aD_lengths, .inl (cI, 3, .inl D_lengths)), (aD_trackOf, .inl (cI, 5, .inl D_trackOf))] H := by rw [hHe]; exact hP
  refine (fun (hgo : W p l e ({ frames := 1, cells := 0, slots := 0, locals := 23 } : Room) s m ([.ref aN, .int x1] : List Value).toArray below meth c H locs 0 0 Q0 (F0 m 0 ls [])) => by rw [hHe, hLo] at hgo; exact hgo) ?_
  refine lv_iload_n hx hb dX6_park_0 rfl (lv_at hl 1 rfl) ?_
  refine zSi (As := [.int x1]) (rest := []) (wc := []) (wr := [(aN, .inr (5, [.ref aD, .ref aP, .ref aR, .ref aW])), (aD, .inr (0, [.ref aD_kinds, .ref aD_washes, .ref aD_fuels, .ref aD_isBroken, .int D_units, .ref aD_lengths, .ref aD_wanted, .int D_leaving, .ref aD_trackOf, .int D_parked, .int D_changes])), (aD_lengths, .inl (cI, 3, .inl D_lengths)), (aD_trackOf, .inl (cI, 5, .inl D_trackOf))]) ⟨hx, hb, hml, hown, hts⟩ hK hP hD hS hA [] [0, 1, 2, 3] rfl rfl (by decide) (by decide) (by decide) (c_X6_isTrack l D cI cJ cZ H.size x1 _ hw) (va_cwS 1 hts gX6_park_X6_isTrack rfl rfl rfl (by decide +kernel) ⟨Nat.le_of_ble_eq_true rfl, Nat.le_of_ble_eq_true rfl⟩) rfl hl.1 (Nat.le_of_ble_eq_true rfl) dX6_park_1 ⟨(Nat.le_of_ble_eq_true rfl), (Nat.le_of_ble_eq_true rfl)⟩ rfl (fun r1 u H locs hw hP hD hS => ?_)
  try dsimp only at hw
  have hP : va_P D vwCl [(aN, .inr (5, [.ref aD, .ref aP, .ref aR, .ref aW])), (aD, .inr (0, [.ref aD_kinds, .ref aD_washes, .ref aD_fuels, .ref aD_isBroken, .int D_units, .ref aD_lengths, .ref aD_wanted, .int D_leaving, .ref aD_trackOf, .int D_parked, .int D_changes])), (aD_lengths, .inl (cI, 3, .inl D_lengths)), (aD_trackOf, .inl (cI, 5, .inl D_trackOf))] H := hP.sub [0, 1, 2, 3] rfl
  have hD : va_D A [(aN, .inr (5, [.ref aD, .ref aP, .ref aR, .ref aW])), (aD, .inr (0, [.ref aD_kinds, .ref aD_washes, .ref aD_fuels, .ref aD_isBroken, .int D_units, .ref aD_lengths, .ref aD_wanted, .int D_leaving, .ref aD_trackOf, .int D_parked, .int D_changes])), (aD_lengths, .inl (cI, 3, .inl D_lengths)), (aD_trackOf, .inl (cI, 5, .inl D_trackOf))] := hD.sub [0, 1, 2, 3] (by decide) rfl
  refine lv_if_ne (tgt := 10) hx hb dX6_park_4 (by decide) (fun hc2 => ?_) (fun hc2 => ?_)
  · have hw := hw.1 hc2
    refine lv_aload_n hx hb dX6_park_10 rfl (lv_at hl 0 rfl) ?_
    refine va_get (D := D) (ci := 5) (v := .ref aD) (C := RX6) (T := TX6) (N := 4) hx hb hts hinX6 hown hK hP 0 rfl rfl 0 (by decide) hf10 (fun _ h9 => h9) rfl dX6_park_11 ?_
    refine va_get (D := D) (ci := 0) (v := .int D_parked) (C := RX0) (T := TX0) (N := 11) hx hb hts hinX0 hown hK hP 1 rfl rfl 9 (by decide) hf97 (fun _ h9 => h9) rfl dX6_park_14 ?_
    refine lv_aload_n hx hb dX6_park_17 rfl (lv_at hl 0 rfl) ?_
    refine va_get (D := D) (ci := 5) (v := .ref aD) (C := RX6) (T := TX6) (N := 4) hx hb hts hinX6 hown hK hP 0 rfl rfl 0 (by decide) hf10 (fun _ h9 => h9) rfl dX6_park_18 ?_
    refine va_get (D := D) (ci := 0) (v := .int D_units) (C := RX0) (T := TX0) (N := 11) hx hb hts hinX0 hown hK hP 1 rfl rfl 4 (by decide) hf46 (fun _ h9 => h9) rfl dX6_park_21 ?_
    refine lv_icmp_lt (tgt := 30) hx hb dX6_park_24 (by decide) (fun hc3 => ?_) (fun hc3 => ?_)
    · have hw := hw.1 hc3
      refine lv_aload_n hx hb dX6_park_30 rfl (lv_at hl 0 rfl) ?_
      refine va_get (D := D) (ci := 5) (v := .ref aD) (C := RX6) (T := TX6) (N := 4) hx hb hts hinX6 hown hK hP 0 rfl rfl 0 (by decide) hf10 (fun _ h9 => h9) rfl dX6_park_31 ?_
      refine lv_iload_n hx hb dX6_park_34 rfl (lv_at hl 1 rfl) ?_
      refine zVi (As := [.int x1]) (rest := []) (wc := [(aD, .inr (0, [.ref aD_kinds, .ref aD_washes, .ref aD_fuels, .ref aD_isBroken, .int D_units, .ref aD_lengths, .ref aD_wanted, .int D_leaving, .ref aD_trackOf, .int D_parked, .int D_changes])), (aD_trackOf, .inl (cI, 5, .inl D_trackOf))]) (wr := [(aN, .inr (5, [.ref aD, .ref aP, .ref aR, .ref aW])), (aD_lengths, .inl (cI, 3, .inl D_lengths))]) ⟨hx, hb, hml, hown, hts⟩ hK hP hD hS hA [1, 3] [0, 2] rfl rfl (by decide) (by decide) (by decide) (c_X0_standingOn l D cI cJ cZ aD aD_kinds aD_washes aD_fuels aD_isBroken aD_lengths aD_wanted aD_trackOf H.size D_units D_leaving D_parked D_changes D_trackOf x1 _ hw) (cwV 1 hts gX6_park_X0_standingOn rfl rfl rfl (by decide +kernel) ⟨Nat.le_of_ble_eq_true rfl, Nat.le_of_ble_eq_true rfl⟩) 1 0 rfl rfl rfl rfl hl.1 (Nat.le_of_ble_eq_true rfl) dX6_park_35 ⟨(Nat.le_of_ble_eq_true rfl), (Nat.le_of_ble_eq_true rfl)⟩ rfl (fun r4 u H locs hw hP hD hS => ?_)
      try dsimp only at hw
      have hP : va_P D vwCl [(aN, .inr (5, [.ref aD, .ref aP, .ref aR, .ref aW])), (aD, .inr (0, [.ref aD_kinds, .ref aD_washes, .ref aD_fuels, .ref aD_isBroken, .int D_units, .ref aD_lengths, .ref aD_wanted, .int D_leaving, .ref aD_trackOf, .int D_parked, .int D_changes])), (aD_lengths, .inl (cI, 3, .inl D_lengths)), (aD_trackOf, .inl (cI, 5, .inl D_trackOf))] H := hP.sub [0, 2, 1, 3] rfl
      have hD : va_D A [(aN, .inr (5, [.ref aD, .ref aP, .ref aR, .ref aW])), (aD, .inr (0, [.ref aD_kinds, .ref aD_washes, .ref aD_fuels, .ref aD_isBroken, .int D_units, .ref aD_lengths, .ref aD_wanted, .int D_leaving, .ref aD_trackOf, .int D_parked, .int D_changes])), (aD_lengths, .inl (cI, 3, .inl D_lengths)), (aD_trackOf, .inl (cI, 5, .inl D_trackOf))] := hD.sub [0, 2, 1, 3] (by decide) rfl
      refine lv_aload_n hx hb dX6_park_38 rfl (lv_at hl 0 rfl) ?_
      refine va_get (D := D) (ci := 5) (v := .ref aD) (C := RX6) (T := TX6) (N := 4) hx hb hts hinX6 hown hK hP 0 rfl rfl 0 (by decide) hf10 (fun _ h9 => h9) rfl dX6_park_39 ?_
      refine va_get (D := D) (ci := 0) (v := .ref aD_lengths) (C := RX0) (T := TX0) (N := 11) hx hb hts hinX0 hown hK hP 1 rfl rfl 5 (by decide) hf103 (fun _ h9 => h9) rfl dX6_park_42 ?_
      refine lv_iload_n hx hb dX6_park_45 rfl (lv_at hl 1 rfl) ?_
      obtain ⟨hb5, hw⟩ := hw
      refine va_iald hx hb hK hP 2 0 rfl rfl hb5 dX6_park_46 ?_
      refine lv_icmp_lt (tgt := 53) hx hb dX6_park_47 (by decide) (fun hc6 => ?_) (fun hc6 => ?_)
      · have hw := hw.1 hc6
        refine lv_aload_n hx hb dX6_park_53 rfl (lv_at hl 0 rfl) ?_
        refine va_get (D := D) (ci := 5) (v := .ref aD) (C := RX6) (T := TX6) (N := 4) hx hb hts hinX6 hown hK hP 0 rfl rfl 0 (by decide) hf10 (fun _ h9 => h9) rfl dX6_park_54 ?_
        refine lv_iload_n hx hb dX6_park_57 rfl (lv_at hl 1 rfl) ?_
        refine zVi (As := [.int x1]) (rest := []) (wc := [(aD, .inr (0, [.ref aD_kinds, .ref aD_washes, .ref aD_fuels, .ref aD_isBroken, .int D_units, .ref aD_lengths, .ref aD_wanted, .int D_leaving, .ref aD_trackOf, .int D_parked, .int D_changes])), (aD_trackOf, .inl (cI, 5, .inl D_trackOf))]) (wr := [(aN, .inr (5, [.ref aD, .ref aP, .ref aR, .ref aW])), (aD_lengths, .inl (cI, 3, .inl D_lengths))]) ⟨hx, hb, hml, hown, hts⟩ hK hP hD hS hA [1, 3] [0, 2] rfl rfl (by decide) (by decide) (by decide) (c_X0_parkNext l D cI cJ cZ aD aD_kinds aD_washes aD_fuels aD_isBroken aD_lengths aD_wanted aD_trackOf H.size D_units D_leaving D_parked D_changes D_trackOf x1 _ hw) (cwV 1 hts gX6_park_X0_parkNext rfl rfl rfl (by decide +kernel) ⟨Nat.le_of_ble_eq_true rfl, Nat.le_of_ble_eq_true rfl⟩) 1 0 rfl rfl rfl rfl hl.1 (Nat.le_of_ble_eq_true rfl) dX6_park_58 ⟨(Nat.le_of_ble_eq_true rfl), (Nat.le_of_ble_eq_true rfl)⟩ rfl (fun r7 u H locs hw hP hD hS => ?_)
        obtain ⟨D_trackOf_8, D_parked_9, D_changes_10⟩ := u
        try dsimp only at hw
        have hP : va_P D vwCl [(aN, .inr (5, [.ref aD, .ref aP, .ref aR, .ref aW])), (aD, .inr (0, [.ref aD_kinds, .ref aD_washes, .ref aD_fuels, .ref aD_isBroken, .int D_units, .ref aD_lengths, .ref aD_wanted, .int D_leaving, .ref aD_trackOf, .int D_parked_9, .int D_changes_10])), (aD_lengths, .inl (cI, 3, .inl D_lengths)), (aD_trackOf, .inl (cI, 5, .inl D_trackOf_8))] H := hP.sub [0, 2, 1, 3] rfl
        have hD : va_D A [(aN, .inr (5, [.ref aD, .ref aP, .ref aR, .ref aW])), (aD, .inr (0, [.ref aD_kinds, .ref aD_washes, .ref aD_fuels, .ref aD_isBroken, .int D_units, .ref aD_lengths, .ref aD_wanted, .int D_leaving, .ref aD_trackOf, .int D_parked_9, .int D_changes_10])), (aD_lengths, .inl (cI, 3, .inl D_lengths)), (aD_trackOf, .inl (cI, 5, .inl D_trackOf_8))] := hD.sub [0, 2, 1, 3] (by decide) rfl
        exact hret r7 D_trackOf_8 D_parked_9 D_changes_10 H locs 61 ls hw dX6_park_61 hP hD hS 
      · have hw := hw.2 hc6
        refine lv_bipush (v := (-5)) hx hb dX6_park_50 (by decide) ?_
        exact hret (-5) D_trackOf D_parked D_changes H locs 52 ls hw dX6_park_52 hP hD hS 
    · have hw := hw.2 hc3
      refine lv_bipush (v := (-4)) hx hb dX6_park_27 (by decide) ?_
      exact hret (-4) D_trackOf D_parked D_changes H locs 29 ls hw dX6_park_29 hP hD hS 
  · have hw := hw.2 hc2
    refine lv_bipush (v := (-2)) hx hb dX6_park_7 (by decide) ?_
    exact hret (-2) D_trackOf D_parked D_changes H locs 9 ls hw dX6_park_9 hP hD hS 
/-! X6_clear -/
def wp_X6_clear (D_parked : Int32) (D_changes : Int32) (post : Int32 → Int32 → Int32 → Prop) : Prop :=
  wp_X0_unparkAll D_parked D_changes (fun (r1 : Int32) (D_parked_2 : Int32) (D_changes_3 : Int32) => post r1 D_parked_2 D_changes_3)
set_option maxHeartbeats 4000000 in
set_option maxRecDepth 100000 in
theorem c_X6_clear (l : Launch) (D : va_G) (cI cJ cZ : ClassId) (aN aD aP aR aW aD_kinds aD_washes aD_fuels aD_isBroken aD_lengths aD_wanted aD_trackOf : Nat) (sz : Nat) (D_units : Int32) (D_leaving : Int32) (D_parked : Int32) (D_changes : Int32) (post : Int32 → Int32 → Int32 → Prop) (hw : wp_X6_clear D_parked D_changes post) : Met l yX6_clear wsX6_clear ({ frames := 1, cells := 0, slots := 0, locals := 21 } : Room) (va_Pc [.ref aN] (zPre D cI cJ cZ [(aN, .inr (5, [.ref aD, .ref aP, .ref aR, .ref aW])), (aD, .inr (0, [.ref aD_kinds, .ref aD_washes, .ref aD_fuels, .ref aD_isBroken, .int D_units, .ref aD_lengths, .ref aD_wanted, .int D_leaving, .ref aD_trackOf, .int D_parked, .int D_changes]))] sz)) (va_Qi (fun (r : Int32) (u : (Int32) × (Int32)) => post r u.1 u.2) (zPost D cI cJ cZ (va_A [(aN, .inr (5, [.ref aD, .ref aP, .ref aR, .ref aW])), (aD, .inr (0, [.ref aD_kinds, .ref aD_washes, .ref aD_fuels, .ref aD_isBroken, .int D_units, .ref aD_lengths, .ref aD_wanted, .int D_leaving, .ref aD_trackOf, .int D_parked, .int D_changes]))] sz) (fun u : (Int32) × (Int32) => [(aN, .inr (5, [.ref aD, .ref aP, .ref aR, .ref aW])), (aD, .inr (0, [.ref aD_kinds, .ref aD_washes, .ref aD_fuels, .ref aD_isBroken, .int D_units, .ref aD_lengths, .ref aD_wanted, .int D_leaving, .ref aD_trackOf, .int u.1, .int u.2]))])) (va_A [(aN, .inr (5, [.ref aD, .ref aP, .ref aR, .ref aW])), (aD, .inr (0, [.ref aD_kinds, .ref aD_washes, .ref aD_fuels, .ref aD_isBroken, .int D_units, .ref aD_lengths, .ref aD_wanted, .int D_leaving, .ref aD_trackOf, .int D_parked, .int D_changes]))] sz)) 0 0 (va_A [(aN, .inr (5, [.ref aD, .ref aP, .ref aR, .ref aW])), (aD, .inr (0, [.ref aD_kinds, .ref aD_washes, .ref aD_fuels, .ref aD_isBroken, .int D_units, .ref aD_lengths, .ref aD_wanted, .int D_leaving, .ref aD_trackOf, .int D_parked, .int D_changes]))] sz) := by
  unfold wp_X6_clear at hw
  refine Met.ofW (cc := cX6_clear) (maxL := 1) (ret := some .int) (by decide) rfl ?_
  intro p e s m args below meth c s₁ B hml hv
  obtain ⟨rfl, hsz, hP, hK, hD0⟩ := hv
  have hx := B.exec
  have hb := B.bytes
  have hr := B.returns
  have hts := atoms_spec (ws := wsX6_clear) B.pre
  have hown : s.vm.findClass RX6 = some m.cls := findClass_of_methodNamed B.named
  have hlocks := B.notSynchronized
  subst hsz
  have hD := hD0.self (sz := s.heap.size)
  generalize hAe : va_A [(aN, .inr (5, [.ref aD, .ref aP, .ref aR, .ref aW])), (aD, .inr (0, [.ref aD_kinds, .ref aD_washes, .ref aD_fuels, .ref aD_isBroken, .int D_units, .ref aD_lengths, .ref aD_wanted, .int D_leaving, .ref aD_trackOf, .int D_parked, .int D_changes]))] s.heap.size = A at hD ⊢
  have hA : ∀ q : Nat, s.heap.size ≤ q → A q := fun q h => by rw [← hAe]; exact Or.inr h
  have hS : va_S A s.heap s.heap [] := va_S.rf
  refine (fun (hall : ∀ Q0 : State → Prop, (∀ (r : Int32) (v0 : Int32) (v1 : Int32) (H : Heap) (locs : List Loc) (pc : Nat) (ls : Array Slot), post r v0 v1 → decode cX6_clear pc = .ok (.ireturn, 1) → va_P D vwCl [(aN, .inr (5, [.ref aD, .ref aP, .ref aR, .ref aW])), (aD, .inr (0, [.ref aD_kinds, .ref aD_washes, .ref aD_fuels, .ref aD_isBroken, .int D_units, .ref aD_lengths, .ref aD_wanted, .int D_leaving, .ref aD_trackOf, .int v0, .int v1]))] H → va_D A [(aN, .inr (5, [.ref aD, .ref aP, .ref aR, .ref aW])), (aD, .inr (0, [.ref aD_kinds, .ref aD_washes, .ref aD_fuels, .ref aD_isBroken, .int D_units, .ref aD_lengths, .ref aD_wanted, .int D_leaving, .ref aD_trackOf, .int v0, .int v1]))] → va_S A s.heap H locs → W p l e ({ frames := 1, cells := 0, slots := 0, locals := 21 } : Room) s m ([.ref aN] : List Value).toArray below meth c H locs 0 0 Q0 (F0 m pc ls [.int r])) → W p l e ({ frames := 1, cells := 0, slots := 0, locals := 21 } : Room) s m ([.ref aN] : List Value).toArray below meth c s.heap [] 0 0 Q0 (entryFrame m ([.ref aN] : List Value).toArray 1)) => hall _ (fun r v0 v1 H locs pc ls hw hd hP hD hS => W.iret (v := r) hx hb hr (fun t ht hW => ⟨⟨r, (v0, v1), rfl, hw, by rw [ht]; exact hP, va_K.moved hW.alike hK, hD⟩, hS.F ht⟩) hS.2.2 hd)) ?_
  intro Q0 hret
  have hl := lv_entry ([.ref aN]) (n := 1) (Nat.le_of_ble_eq_true rfl)
  rw [lg_entry_eq]
  generalize (lg_sl ([.ref aN]) ++ List.replicate (1 - (lg_sl ([.ref aN])).length) Slot.unset).toArray = ls at hl ⊢
  have hl : lv_has ls 1 [(0, .ref aN)] := hl
  have hinX6 : ∀ w ∈ u_ws RX6 TX6 4, w ∈ wsX6_clear := by decide +kernel
  have hf10 := hts (.fieldLink RX6 10 "DepotNight" "depot" "LDepotNight$Depot;") (by decide +kernel)
  obtain ⟨H, hHe⟩ : ∃ H, H = s.heap := ⟨_, rfl⟩
  obtain ⟨locs, hLo⟩ : ∃ locs : List Loc, locs = [] := ⟨_, rfl⟩
  have hS : va_S A s.heap H locs := by rw [hHe, hLo]; exact hS
  have hP : va_P D vwCl [(aN, .inr (5, [.ref aD, .ref aP, .ref aR, .ref aW])), (aD, .inr (0, [.ref aD_kinds, .ref aD_washes, .ref aD_fuels, .ref aD_isBroken, .int D_units, .ref aD_lengths, .ref aD_wanted, .int D_leaving, .ref aD_trackOf, .int D_parked, .int D_changes]))] H := by rw [hHe]; exact hP
  refine (fun (hgo : W p l e ({ frames := 1, cells := 0, slots := 0, locals := 21 } : Room) s m ([.ref aN] : List Value).toArray below meth c H locs 0 0 Q0 (F0 m 0 ls [])) => by rw [hHe, hLo] at hgo; exact hgo) ?_
  refine lv_aload_n hx hb dX6_clear_0 rfl (lv_at hl 0 rfl) ?_
  refine va_get (D := D) (ci := 5) (v := .ref aD) (C := RX6) (T := TX6) (N := 4) hx hb hts hinX6 hown hK hP 0 rfl rfl 0 (by decide) hf10 (fun _ h9 => h9) rfl dX6_clear_1 ?_
  refine zVi (As := []) (rest := []) (wc := [(aD, .inr (0, [.ref aD_kinds, .ref aD_washes, .ref aD_fuels, .ref aD_isBroken, .int D_units, .ref aD_lengths, .ref aD_wanted, .int D_leaving, .ref aD_trackOf, .int D_parked, .int D_changes]))]) (wr := [(aN, .inr (5, [.ref aD, .ref aP, .ref aR, .ref aW]))]) ⟨hx, hb, hml, hown, hts⟩ hK hP hD hS hA [1] [0] rfl rfl (by decide) (by decide) (by decide) (c_X0_unparkAll l D cI cJ cZ aD aD_kinds aD_washes aD_fuels aD_isBroken aD_lengths aD_wanted aD_trackOf H.size D_units D_leaving D_parked D_changes _ hw) (cwV 0 hts gX6_clear_X0_unparkAll rfl rfl rfl (by decide +kernel) ⟨Nat.le_of_ble_eq_true rfl, Nat.le_of_ble_eq_true rfl⟩) 1 0 rfl rfl rfl rfl hl.1 (Nat.le_of_ble_eq_true rfl) dX6_clear_4 ⟨(Nat.le_of_ble_eq_true rfl), (Nat.le_of_ble_eq_true rfl)⟩ rfl (fun r1 u H locs hw hP hD hS => ?_)
  obtain ⟨D_parked_2, D_changes_3⟩ := u
  try dsimp only at hw
  have hP : va_P D vwCl [(aN, .inr (5, [.ref aD, .ref aP, .ref aR, .ref aW])), (aD, .inr (0, [.ref aD_kinds, .ref aD_washes, .ref aD_fuels, .ref aD_isBroken, .int D_units, .ref aD_lengths, .ref aD_wanted, .int D_leaving, .ref aD_trackOf, .int D_parked_2, .int D_changes_3]))] H := hP.sub [0, 1] rfl
  have hD : va_D A [(aN, .inr (5, [.ref aD, .ref aP, .ref aR, .ref aW])), (aD, .inr (0, [.ref aD_kinds, .ref aD_washes, .ref aD_fuels, .ref aD_isBroken, .int D_units, .ref aD_lengths, .ref aD_wanted, .int D_leaving, .ref aD_trackOf, .int D_parked_2, .int D_changes_3]))] := hD.sub [0, 1] (by decide) rfl
  exact hret r1 D_parked_2 D_changes_3 H locs 7 ls hw dX6_clear_7 hP hD hS 
/-! X6_at -/
def wp_X6_at (D_trackOf : Nat → Int32) (D_parked : Int32) (x1 : Int32) (x2 : Int32) (post : Int32 → Prop) : Prop :=
  wp_X6_isTrack x1 (fun (r1 : Int32) => ((¬ r1 = 0 → ((0 ≤ x2 → wp_X0_fromLast D_trackOf D_parked x1 x2 (fun (r4 : Int32) => post r4 )) ∧ (¬ 0 ≤ x2 → post (-3) ))) ∧ (r1 = 0 → post (-2) )))
set_option maxHeartbeats 4000000 in
set_option maxRecDepth 100000 in
theorem c_X6_at (l : Launch) (D : va_G) (cI cJ cZ : ClassId) (aN aD aP aR aW aD_kinds aD_washes aD_fuels aD_isBroken aD_lengths aD_wanted aD_trackOf : Nat) (sz : Nat) (D_units : Int32) (D_leaving : Int32) (D_parked : Int32) (D_changes : Int32) (D_trackOf : Nat → Int32) (x1 : Int32) (x2 : Int32) (post : Int32 → Prop) (hw : wp_X6_at D_trackOf D_parked x1 x2 post) : Met l yX6_at wsX6_at ({ frames := 1, cells := 0, slots := 0, locals := 24 } : Room) (va_Pc [.ref aN, .int x1, .int x2] (zPre D cI cJ cZ [(aN, .inr (5, [.ref aD, .ref aP, .ref aR, .ref aW])), (aD, .inr (0, [.ref aD_kinds, .ref aD_washes, .ref aD_fuels, .ref aD_isBroken, .int D_units, .ref aD_lengths, .ref aD_wanted, .int D_leaving, .ref aD_trackOf, .int D_parked, .int D_changes])), (aD_trackOf, .inl (cI, 5, .inl D_trackOf))] sz)) (va_Qi (fun (r : Int32) (u : Unit) => post r) (zPost D cI cJ cZ (va_A [(aN, .inr (5, [.ref aD, .ref aP, .ref aR, .ref aW])), (aD, .inr (0, [.ref aD_kinds, .ref aD_washes, .ref aD_fuels, .ref aD_isBroken, .int D_units, .ref aD_lengths, .ref aD_wanted, .int D_leaving, .ref aD_trackOf, .int D_parked, .int D_changes])), (aD_trackOf, .inl (cI, 5, .inl D_trackOf))] sz) (fun u : Unit => [(aN, .inr (5, [.ref aD, .ref aP, .ref aR, .ref aW])), (aD, .inr (0, [.ref aD_kinds, .ref aD_washes, .ref aD_fuels, .ref aD_isBroken, .int D_units, .ref aD_lengths, .ref aD_wanted, .int D_leaving, .ref aD_trackOf, .int D_parked, .int D_changes])), (aD_trackOf, .inl (cI, 5, .inl D_trackOf))])) (va_A [(aN, .inr (5, [.ref aD, .ref aP, .ref aR, .ref aW])), (aD, .inr (0, [.ref aD_kinds, .ref aD_washes, .ref aD_fuels, .ref aD_isBroken, .int D_units, .ref aD_lengths, .ref aD_wanted, .int D_leaving, .ref aD_trackOf, .int D_parked, .int D_changes])), (aD_trackOf, .inl (cI, 5, .inl D_trackOf))] sz)) 0 0 (va_A [(aN, .inr (5, [.ref aD, .ref aP, .ref aR, .ref aW])), (aD, .inr (0, [.ref aD_kinds, .ref aD_washes, .ref aD_fuels, .ref aD_isBroken, .int D_units, .ref aD_lengths, .ref aD_wanted, .int D_leaving, .ref aD_trackOf, .int D_parked, .int D_changes])), (aD_trackOf, .inl (cI, 5, .inl D_trackOf))] sz) := by
  unfold wp_X6_at at hw
  refine Met.ofW (cc := cX6_at) (maxL := 3) (ret := some .int) (by decide) rfl ?_
  intro p e s m args below meth c s₁ B hml hv
  obtain ⟨rfl, hsz, hP, hK, hD0⟩ := hv
  have hx := B.exec
  have hb := B.bytes
  have hr := B.returns
  have hts := atoms_spec (ws := wsX6_at) B.pre
  have hown : s.vm.findClass RX6 = some m.cls := findClass_of_methodNamed B.named
  have hlocks := B.notSynchronized
  subst hsz
  have hD := hD0.self (sz := s.heap.size)
  generalize hAe : va_A [(aN, .inr (5, [.ref aD, .ref aP, .ref aR, .ref aW])), (aD, .inr (0, [.ref aD_kinds, .ref aD_washes, .ref aD_fuels, .ref aD_isBroken, .int D_units, .ref aD_lengths, .ref aD_wanted, .int D_leaving, .ref aD_trackOf, .int D_parked, .int D_changes])), (aD_trackOf, .inl (cI, 5, .inl D_trackOf))] s.heap.size = A at hD ⊢
  have hA : ∀ q : Nat, s.heap.size ≤ q → A q := fun q h => by rw [← hAe]; exact Or.inr h
  have hS : va_S A s.heap s.heap [] := va_S.rf
  refine (fun (hall : ∀ Q0 : State → Prop, (∀ (r : Int32)  (H : Heap) (locs : List Loc) (pc : Nat) (ls : Array Slot), post r → decode cX6_at pc = .ok (.ireturn, 1) → va_P D vwCl [(aN, .inr (5, [.ref aD, .ref aP, .ref aR, .ref aW])), (aD, .inr (0, [.ref aD_kinds, .ref aD_washes, .ref aD_fuels, .ref aD_isBroken, .int D_units, .ref aD_lengths, .ref aD_wanted, .int D_leaving, .ref aD_trackOf, .int D_parked, .int D_changes])), (aD_trackOf, .inl (cI, 5, .inl D_trackOf))] H → va_D A [(aN, .inr (5, [.ref aD, .ref aP, .ref aR, .ref aW])), (aD, .inr (0, [.ref aD_kinds, .ref aD_washes, .ref aD_fuels, .ref aD_isBroken, .int D_units, .ref aD_lengths, .ref aD_wanted, .int D_leaving, .ref aD_trackOf, .int D_parked, .int D_changes])), (aD_trackOf, .inl (cI, 5, .inl D_trackOf))] → va_S A s.heap H locs → W p l e ({ frames := 1, cells := 0, slots := 0, locals := 24 } : Room) s m ([.ref aN, .int x1, .int x2] : List Value).toArray below meth c H locs 0 0 Q0 (F0 m pc ls [.int r])) → W p l e ({ frames := 1, cells := 0, slots := 0, locals := 24 } : Room) s m ([.ref aN, .int x1, .int x2] : List Value).toArray below meth c s.heap [] 0 0 Q0 (entryFrame m ([.ref aN, .int x1, .int x2] : List Value).toArray 3)) => hall _ (fun r  H locs pc ls hw hd hP hD hS => W.iret (v := r) hx hb hr (fun t ht hW => ⟨⟨r, (), rfl, hw, by rw [ht]; exact hP, va_K.moved hW.alike hK, hD⟩, hS.F ht⟩) hS.2.2 hd)) ?_
  intro Q0 hret
  have hl := lv_entry ([.ref aN, .int x1, .int x2]) (n := 3) (Nat.le_of_ble_eq_true rfl)
  rw [lg_entry_eq]
  generalize (lg_sl ([.ref aN, .int x1, .int x2]) ++ List.replicate (3 - (lg_sl ([.ref aN, .int x1, .int x2])).length) Slot.unset).toArray = ls at hl ⊢
  have hl : lv_has ls 3 [(0, .ref aN), (1, .int x1), (2, .int x2)] := hl
  have hinX6 : ∀ w ∈ u_ws RX6 TX6 4, w ∈ wsX6_at := by decide +kernel
  have hf10 := hts (.fieldLink RX6 10 "DepotNight" "depot" "LDepotNight$Depot;") (by decide +kernel)
  obtain ⟨H, hHe⟩ : ∃ H, H = s.heap := ⟨_, rfl⟩
  obtain ⟨locs, hLo⟩ : ∃ locs : List Loc, locs = [] := ⟨_, rfl⟩
  have hS : va_S A s.heap H locs := by rw [hHe, hLo]; exact hS
  have hP : va_P D vwCl [(aN, .inr (5, [.ref aD, .ref aP, .ref aR, .ref aW])), (aD, .inr (0, [.ref aD_kinds, .ref aD_washes, .ref aD_fuels, .ref aD_isBroken, .int D_units, .ref aD_lengths, .ref aD_wanted, .int D_leaving, .ref aD_trackOf, .int D_parked, .int D_changes])), (aD_trackOf, .inl (cI, 5, .inl D_trackOf))] H := by rw [hHe]; exact hP
  refine (fun (hgo : W p l e ({ frames := 1, cells := 0, slots := 0, locals := 24 } : Room) s m ([.ref aN, .int x1, .int x2] : List Value).toArray below meth c H locs 0 0 Q0 (F0 m 0 ls [])) => by rw [hHe, hLo] at hgo; exact hgo) ?_
  refine lv_iload_n hx hb dX6_at_0 rfl (lv_at hl 1 rfl) ?_
  refine zSi (As := [.int x1]) (rest := []) (wc := []) (wr := [(aN, .inr (5, [.ref aD, .ref aP, .ref aR, .ref aW])), (aD, .inr (0, [.ref aD_kinds, .ref aD_washes, .ref aD_fuels, .ref aD_isBroken, .int D_units, .ref aD_lengths, .ref aD_wanted, .int D_leaving, .ref aD_trackOf, .int D_parked, .int D_changes])), (aD_trackOf, .inl (cI, 5, .inl D_trackOf))]) ⟨hx, hb, hml, hown, hts⟩ hK hP hD hS hA [] [0, 1, 2] rfl rfl (by decide) (by decide) (by decide) (c_X6_isTrack l D cI cJ cZ H.size x1 _ hw) (va_cwS 1 hts gX6_at_X6_isTrack rfl rfl rfl (by decide +kernel) ⟨Nat.le_of_ble_eq_true rfl, Nat.le_of_ble_eq_true rfl⟩) rfl hl.1 (Nat.le_of_ble_eq_true rfl) dX6_at_1 ⟨(Nat.le_of_ble_eq_true rfl), (Nat.le_of_ble_eq_true rfl)⟩ rfl (fun r1 u H locs hw hP hD hS => ?_)
  try dsimp only at hw
  have hP : va_P D vwCl [(aN, .inr (5, [.ref aD, .ref aP, .ref aR, .ref aW])), (aD, .inr (0, [.ref aD_kinds, .ref aD_washes, .ref aD_fuels, .ref aD_isBroken, .int D_units, .ref aD_lengths, .ref aD_wanted, .int D_leaving, .ref aD_trackOf, .int D_parked, .int D_changes])), (aD_trackOf, .inl (cI, 5, .inl D_trackOf))] H := hP.sub [0, 1, 2] rfl
  have hD : va_D A [(aN, .inr (5, [.ref aD, .ref aP, .ref aR, .ref aW])), (aD, .inr (0, [.ref aD_kinds, .ref aD_washes, .ref aD_fuels, .ref aD_isBroken, .int D_units, .ref aD_lengths, .ref aD_wanted, .int D_leaving, .ref aD_trackOf, .int D_parked, .int D_changes])), (aD_trackOf, .inl (cI, 5, .inl D_trackOf))] := hD.sub [0, 1, 2] (by decide) rfl
  refine lv_if_ne (tgt := 10) hx hb dX6_at_4 (by decide) (fun hc2 => ?_) (fun hc2 => ?_)
  · have hw := hw.1 hc2
    refine lv_iload_n hx hb dX6_at_10 rfl (lv_at hl 2 rfl) ?_
    refine lv_if_ge (tgt := 17) hx hb dX6_at_11 (by decide) (fun hc3 => ?_) (fun hc3 => ?_)
    · have hw := hw.1 hc3
      refine lv_aload_n hx hb dX6_at_17 rfl (lv_at hl 0 rfl) ?_
      refine va_get (D := D) (ci := 5) (v := .ref aD) (C := RX6) (T := TX6) (N := 4) hx hb hts hinX6 hown hK hP 0 rfl rfl 0 (by decide) hf10 (fun _ h9 => h9) rfl dX6_at_18 ?_
      refine lv_iload_n hx hb dX6_at_21 rfl (lv_at hl 1 rfl) ?_
      refine lv_iload_n hx hb dX6_at_22 rfl (lv_at hl 2 rfl) ?_
      refine zVi (As := [.int x1, .int x2]) (rest := []) (wc := [(aD, .inr (0, [.ref aD_kinds, .ref aD_washes, .ref aD_fuels, .ref aD_isBroken, .int D_units, .ref aD_lengths, .ref aD_wanted, .int D_leaving, .ref aD_trackOf, .int D_parked, .int D_changes])), (aD_trackOf, .inl (cI, 5, .inl D_trackOf))]) (wr := [(aN, .inr (5, [.ref aD, .ref aP, .ref aR, .ref aW]))]) ⟨hx, hb, hml, hown, hts⟩ hK hP hD hS hA [1, 2] [0] rfl rfl (by decide) (by decide) (by decide) (c_X0_fromLast l D cI cJ cZ aD aD_kinds aD_washes aD_fuels aD_isBroken aD_lengths aD_wanted aD_trackOf H.size D_units D_leaving D_parked D_changes D_trackOf x1 x2 _ hw) (cwV 2 hts gX6_at_X0_fromLast rfl rfl rfl (by decide +kernel) ⟨Nat.le_of_ble_eq_true rfl, Nat.le_of_ble_eq_true rfl⟩) 1 0 rfl rfl rfl rfl hl.1 (Nat.le_of_ble_eq_true rfl) dX6_at_23 ⟨(Nat.le_of_ble_eq_true rfl), (Nat.le_of_ble_eq_true rfl)⟩ rfl (fun r4 u H locs hw hP hD hS => ?_)
      try dsimp only at hw
      have hP : va_P D vwCl [(aN, .inr (5, [.ref aD, .ref aP, .ref aR, .ref aW])), (aD, .inr (0, [.ref aD_kinds, .ref aD_washes, .ref aD_fuels, .ref aD_isBroken, .int D_units, .ref aD_lengths, .ref aD_wanted, .int D_leaving, .ref aD_trackOf, .int D_parked, .int D_changes])), (aD_trackOf, .inl (cI, 5, .inl D_trackOf))] H := hP.sub [0, 1, 2] rfl
      have hD : va_D A [(aN, .inr (5, [.ref aD, .ref aP, .ref aR, .ref aW])), (aD, .inr (0, [.ref aD_kinds, .ref aD_washes, .ref aD_fuels, .ref aD_isBroken, .int D_units, .ref aD_lengths, .ref aD_wanted, .int D_leaving, .ref aD_trackOf, .int D_parked, .int D_changes])), (aD_trackOf, .inl (cI, 5, .inl D_trackOf))] := hD.sub [0, 1, 2] (by decide) rfl
      exact hret r4  H locs 26 ls hw dX6_at_26 hP hD hS 
    · have hw := hw.2 hc3
      refine lv_bipush (v := (-3)) hx hb dX6_at_14 (by decide) ?_
      exact hret (-3)  H locs 16 ls hw dX6_at_16 hP hD hS 
  · have hw := hw.2 hc2
    refine lv_bipush (v := (-2)) hx hb dX6_at_7 (by decide) ?_
    exact hret (-2)  H locs 9 ls hw dX6_at_9 hP hD hS 
/-! X6_ready -/
def wp_X6_ready (D_washes : Nat → Int32) (D_fuels : Nat → Int32) (D_units : Int32) (W_numbers : Nat → Int32) (x1 : Int32) (W_trial : Nat → Int32) (W_bestOrder : Nat → Int32) (W_readyByNumber : Nat → Int32) (W_readyByBest : Nat → Int32) (W_soonestEnd : Int32) (W_knownUnits : Int32) (post : Int32 → (Nat → Int32) → (Nat → Int32) → (Nat → Int32) → (Nat → Int32) → Int32 → Int32 → Prop) : Prop :=
  wp_X0_hasUnit D_units x1 (fun (r1 : Int32) => ((¬ r1 = 0 → wp_X5_refresh D_washes D_fuels D_units W_numbers W_trial W_bestOrder W_readyByNumber W_readyByBest W_soonestEnd W_knownUnits (fun (W_trial_3 : Nat → Int32) (W_bestOrder_4 : Nat → Int32) (W_readyByNumber_5 : Nat → Int32) (W_readyByBest_6 : Nat → Int32) (W_soonestEnd_7 : Int32) (W_knownUnits_8 : Int32) => vp_in x1 5 ∧ (post (W_readyByNumber_5 x1.toNatClampNeg) W_trial_3 W_bestOrder_4 W_readyByNumber_5 W_readyByBest_6 W_soonestEnd_7 W_knownUnits_8))) ∧ (r1 = 0 → post (-2) W_trial W_bestOrder W_readyByNumber W_readyByBest W_soonestEnd W_knownUnits)))
set_option maxHeartbeats 4000000 in
set_option maxRecDepth 100000 in
theorem c_X6_ready (l : Launch) (D : va_G) (cI cJ cZ : ClassId) (aN aD aP aR aW aD_kinds aD_washes aD_fuels aD_isBroken aD_lengths aD_wanted aD_trackOf aW_numbers aW_trial aW_bestOrder aW_readyByNumber aW_readyByBest : Nat) (sz : Nat) (D_units : Int32) (D_leaving : Int32) (D_parked : Int32) (D_changes : Int32) (W_soonestEnd : Int32) (W_knownUnits : Int32) (D_washes : Nat → Int32) (D_fuels : Nat → Int32) (W_numbers : Nat → Int32) (W_trial : Nat → Int32) (W_bestOrder : Nat → Int32) (W_readyByNumber : Nat → Int32) (W_readyByBest : Nat → Int32) (x1 : Int32) (post : Int32 → (Nat → Int32) → (Nat → Int32) → (Nat → Int32) → (Nat → Int32) → Int32 → Int32 → Prop) (hw : wp_X6_ready D_washes D_fuels D_units W_numbers x1 W_trial W_bestOrder W_readyByNumber W_readyByBest W_soonestEnd W_knownUnits post) : Met l yX6_ready wsX6_ready ({ frames := 10, cells := 0, slots := 0, locals := 296 } : Room) (va_Pc [.ref aN, .int x1] (zPre D cI cJ cZ [(aN, .inr (5, [.ref aD, .ref aP, .ref aR, .ref aW])), (aD, .inr (0, [.ref aD_kinds, .ref aD_washes, .ref aD_fuels, .ref aD_isBroken, .int D_units, .ref aD_lengths, .ref aD_wanted, .int D_leaving, .ref aD_trackOf, .int D_parked, .int D_changes])), (aW, .inr (4, [.ref aD, .ref aW_numbers, .ref aW_trial, .ref aW_bestOrder, .ref aW_readyByNumber, .ref aW_readyByBest, .int W_soonestEnd, .int W_knownUnits])), (aD_washes, .inl (cI, 5, .inl D_washes)), (aD_fuels, .inl (cI, 5, .inl D_fuels)), (aW_numbers, .inl (cI, 5, .inl W_numbers)), (aW_trial, .inl (cI, 5, .inl W_trial)), (aW_bestOrder, .inl (cI, 5, .inl W_bestOrder)), (aW_readyByNumber, .inl (cI, 5, .inl W_readyByNumber)), (aW_readyByBest, .inl (cI, 5, .inl W_readyByBest))] sz)) (va_Qi (fun (r : Int32) (u : (Nat → Int32) × (Nat → Int32) × (Nat → Int32) × (Nat → Int32) × (Int32) × (Int32)) => post r u.1 u.2.1 u.2.2.1 u.2.2.2.1 u.2.2.2.2.1 u.2.2.2.2.2) (zPost D cI cJ cZ (va_A [(aN, .inr (5, [.ref aD, .ref aP, .ref aR, .ref aW])), (aD, .inr (0, [.ref aD_kinds, .ref aD_washes, .ref aD_fuels, .ref aD_isBroken, .int D_units, .ref aD_lengths, .ref aD_wanted, .int D_leaving, .ref aD_trackOf, .int D_parked, .int D_changes])), (aW, .inr (4, [.ref aD, .ref aW_numbers, .ref aW_trial, .ref aW_bestOrder, .ref aW_readyByNumber, .ref aW_readyByBest, .int W_soonestEnd, .int W_knownUnits])), (aD_washes, .inl (cI, 5, .inl D_washes)), (aD_fuels, .inl (cI, 5, .inl D_fuels)), (aW_numbers, .inl (cI, 5, .inl W_numbers)), (aW_trial, .inl (cI, 5, .inl W_trial)), (aW_bestOrder, .inl (cI, 5, .inl W_bestOrder)), (aW_readyByNumber, .inl (cI, 5, .inl W_readyByNumber)), (aW_readyByBest, .inl (cI, 5, .inl W_readyByBest))] sz) (fun u : (Nat → Int32) × (Nat → Int32) × (Nat → Int32) × (Nat → Int32) × (Int32) × (Int32) => [(aN, .inr (5, [.ref aD, .ref aP, .ref aR, .ref aW])), (aD, .inr (0, [.ref aD_kinds, .ref aD_washes, .ref aD_fuels, .ref aD_isBroken, .int D_units, .ref aD_lengths, .ref aD_wanted, .int D_leaving, .ref aD_trackOf, .int D_parked, .int D_changes])), (aW, .inr (4, [.ref aD, .ref aW_numbers, .ref aW_trial, .ref aW_bestOrder, .ref aW_readyByNumber, .ref aW_readyByBest, .int u.2.2.2.2.1, .int u.2.2.2.2.2])), (aD_washes, .inl (cI, 5, .inl D_washes)), (aD_fuels, .inl (cI, 5, .inl D_fuels)), (aW_numbers, .inl (cI, 5, .inl W_numbers)), (aW_trial, .inl (cI, 5, .inl u.1)), (aW_bestOrder, .inl (cI, 5, .inl u.2.1)), (aW_readyByNumber, .inl (cI, 5, .inl u.2.2.1)), (aW_readyByBest, .inl (cI, 5, .inl u.2.2.2.1))])) (va_A [(aN, .inr (5, [.ref aD, .ref aP, .ref aR, .ref aW])), (aD, .inr (0, [.ref aD_kinds, .ref aD_washes, .ref aD_fuels, .ref aD_isBroken, .int D_units, .ref aD_lengths, .ref aD_wanted, .int D_leaving, .ref aD_trackOf, .int D_parked, .int D_changes])), (aW, .inr (4, [.ref aD, .ref aW_numbers, .ref aW_trial, .ref aW_bestOrder, .ref aW_readyByNumber, .ref aW_readyByBest, .int W_soonestEnd, .int W_knownUnits])), (aD_washes, .inl (cI, 5, .inl D_washes)), (aD_fuels, .inl (cI, 5, .inl D_fuels)), (aW_numbers, .inl (cI, 5, .inl W_numbers)), (aW_trial, .inl (cI, 5, .inl W_trial)), (aW_bestOrder, .inl (cI, 5, .inl W_bestOrder)), (aW_readyByNumber, .inl (cI, 5, .inl W_readyByNumber)), (aW_readyByBest, .inl (cI, 5, .inl W_readyByBest))] sz)) 0 0 (va_A [(aN, .inr (5, [.ref aD, .ref aP, .ref aR, .ref aW])), (aD, .inr (0, [.ref aD_kinds, .ref aD_washes, .ref aD_fuels, .ref aD_isBroken, .int D_units, .ref aD_lengths, .ref aD_wanted, .int D_leaving, .ref aD_trackOf, .int D_parked, .int D_changes])), (aW, .inr (4, [.ref aD, .ref aW_numbers, .ref aW_trial, .ref aW_bestOrder, .ref aW_readyByNumber, .ref aW_readyByBest, .int W_soonestEnd, .int W_knownUnits])), (aD_washes, .inl (cI, 5, .inl D_washes)), (aD_fuels, .inl (cI, 5, .inl D_fuels)), (aW_numbers, .inl (cI, 5, .inl W_numbers)), (aW_trial, .inl (cI, 5, .inl W_trial)), (aW_bestOrder, .inl (cI, 5, .inl W_bestOrder)), (aW_readyByNumber, .inl (cI, 5, .inl W_readyByNumber)), (aW_readyByBest, .inl (cI, 5, .inl W_readyByBest))] sz) := by
  unfold wp_X6_ready at hw
  refine Met.ofW (cc := cX6_ready) (maxL := 2) (ret := some .int) (by decide) rfl ?_
  intro p e s m args below meth c s₁ B hml hv
  obtain ⟨rfl, hsz, hP, hK, hD0⟩ := hv
  have hx := B.exec
  have hb := B.bytes
  have hr := B.returns
  have hts := atoms_spec (ws := wsX6_ready) B.pre
  have hown : s.vm.findClass RX6 = some m.cls := findClass_of_methodNamed B.named
  have hlocks := B.notSynchronized
  subst hsz
  have hD := hD0.self (sz := s.heap.size)
  generalize hAe : va_A [(aN, .inr (5, [.ref aD, .ref aP, .ref aR, .ref aW])), (aD, .inr (0, [.ref aD_kinds, .ref aD_washes, .ref aD_fuels, .ref aD_isBroken, .int D_units, .ref aD_lengths, .ref aD_wanted, .int D_leaving, .ref aD_trackOf, .int D_parked, .int D_changes])), (aW, .inr (4, [.ref aD, .ref aW_numbers, .ref aW_trial, .ref aW_bestOrder, .ref aW_readyByNumber, .ref aW_readyByBest, .int W_soonestEnd, .int W_knownUnits])), (aD_washes, .inl (cI, 5, .inl D_washes)), (aD_fuels, .inl (cI, 5, .inl D_fuels)), (aW_numbers, .inl (cI, 5, .inl W_numbers)), (aW_trial, .inl (cI, 5, .inl W_trial)), (aW_bestOrder, .inl (cI, 5, .inl W_bestOrder)), (aW_readyByNumber, .inl (cI, 5, .inl W_readyByNumber)), (aW_readyByBest, .inl (cI, 5, .inl W_readyByBest))] s.heap.size = A at hD ⊢
  have hA : ∀ q : Nat, s.heap.size ≤ q → A q := fun q h => by rw [← hAe]; exact Or.inr h
  have hS : va_S A s.heap s.heap [] := va_S.rf
  refine (fun (hall : ∀ Q0 : State → Prop, (∀ (r : Int32) (v0 : Nat → Int32) (v1 : Nat → Int32) (v2 : Nat → Int32) (v3 : Nat → Int32) (v4 : Int32) (v5 : Int32) (H : Heap) (locs : List Loc) (pc : Nat) (ls : Array Slot), post r v0 v1 v2 v3 v4 v5 → decode cX6_ready pc = .ok (.ireturn, 1) → va_P D vwCl [(aN, .inr (5, [.ref aD, .ref aP, .ref aR, .ref aW])), (aD, .inr (0, [.ref aD_kinds, .ref aD_washes, .ref aD_fuels, .ref aD_isBroken, .int D_units, .ref aD_lengths, .ref aD_wanted, .int D_leaving, .ref aD_trackOf, .int D_parked, .int D_changes])), (aW, .inr (4, [.ref aD, .ref aW_numbers, .ref aW_trial, .ref aW_bestOrder, .ref aW_readyByNumber, .ref aW_readyByBest, .int v4, .int v5])), (aD_washes, .inl (cI, 5, .inl D_washes)), (aD_fuels, .inl (cI, 5, .inl D_fuels)), (aW_numbers, .inl (cI, 5, .inl W_numbers)), (aW_trial, .inl (cI, 5, .inl v0)), (aW_bestOrder, .inl (cI, 5, .inl v1)), (aW_readyByNumber, .inl (cI, 5, .inl v2)), (aW_readyByBest, .inl (cI, 5, .inl v3))] H → va_D A [(aN, .inr (5, [.ref aD, .ref aP, .ref aR, .ref aW])), (aD, .inr (0, [.ref aD_kinds, .ref aD_washes, .ref aD_fuels, .ref aD_isBroken, .int D_units, .ref aD_lengths, .ref aD_wanted, .int D_leaving, .ref aD_trackOf, .int D_parked, .int D_changes])), (aW, .inr (4, [.ref aD, .ref aW_numbers, .ref aW_trial, .ref aW_bestOrder, .ref aW_readyByNumber, .ref aW_readyByBest, .int v4, .int v5])), (aD_washes, .inl (cI, 5, .inl D_washes)), (aD_fuels, .inl (cI, 5, .inl D_fuels)), (aW_numbers, .inl (cI, 5, .inl W_numbers)), (aW_trial, .inl (cI, 5, .inl v0)), (aW_bestOrder, .inl (cI, 5, .inl v1)), (aW_readyByNumber, .inl (cI, 5, .inl v2)), (aW_readyByBest, .inl (cI, 5, .inl v3))] → va_S A s.heap H locs → W p l e ({ frames := 10, cells := 0, slots := 0, locals := 296 } : Room) s m ([.ref aN, .int x1] : List Value).toArray below meth c H locs 0 0 Q0 (F0 m pc ls [.int r])) → W p l e ({ frames := 10, cells := 0, slots := 0, locals := 296 } : Room) s m ([.ref aN, .int x1] : List Value).toArray below meth c s.heap [] 0 0 Q0 (entryFrame m ([.ref aN, .int x1] : List Value).toArray 2)) => hall _ (fun r v0 v1 v2 v3 v4 v5 H locs pc ls hw hd hP hD hS => W.iret (v := r) hx hb hr (fun t ht hW => ⟨⟨r, (v0, v1, v2, v3, v4, v5), rfl, hw, by rw [ht]; exact hP, va_K.moved hW.alike hK, hD⟩, hS.F ht⟩) hS.2.2 hd)) ?_
  intro Q0 hret
  have hl := lv_entry ([.ref aN, .int x1]) (n := 2) (Nat.le_of_ble_eq_true rfl)
  rw [lg_entry_eq]
  generalize (lg_sl ([.ref aN, .int x1]) ++ List.replicate (2 - (lg_sl ([.ref aN, .int x1])).length) Slot.unset).toArray = ls at hl ⊢
  have hl : lv_has ls 2 [(0, .ref aN), (1, .int x1)] := hl
  have hinX5 : ∀ w ∈ u_ws RX5 TX5 8, w ∈ wsX6_ready := by decide +kernel
  have hinX6 : ∀ w ∈ u_ws RX6 TX6 4, w ∈ wsX6_ready := by decide +kernel
  have hf10 := hts (.fieldLink RX6 10 "DepotNight" "depot" "LDepotNight$Depot;") (by decide +kernel)
  have hf35 := hts (.fieldLink RX6 35 "DepotNight" "washing" "LDepotNight$Washing;") (by decide +kernel)
  have hf127 := hts (.fieldLink RX6 127 "DepotNight$Washing" "readyByNumber" "[I") (by decide +kernel)
  obtain ⟨H, hHe⟩ : ∃ H, H = s.heap := ⟨_, rfl⟩
  obtain ⟨locs, hLo⟩ : ∃ locs : List Loc, locs = [] := ⟨_, rfl⟩
  have hS : va_S A s.heap H locs := by rw [hHe, hLo]; exact hS
  have hP : va_P D vwCl [(aN, .inr (5, [.ref aD, .ref aP, .ref aR, .ref aW])), (aD, .inr (0, [.ref aD_kinds, .ref aD_washes, .ref aD_fuels, .ref aD_isBroken, .int D_units, .ref aD_lengths, .ref aD_wanted, .int D_leaving, .ref aD_trackOf, .int D_parked, .int D_changes])), (aW, .inr (4, [.ref aD, .ref aW_numbers, .ref aW_trial, .ref aW_bestOrder, .ref aW_readyByNumber, .ref aW_readyByBest, .int W_soonestEnd, .int W_knownUnits])), (aD_washes, .inl (cI, 5, .inl D_washes)), (aD_fuels, .inl (cI, 5, .inl D_fuels)), (aW_numbers, .inl (cI, 5, .inl W_numbers)), (aW_trial, .inl (cI, 5, .inl W_trial)), (aW_bestOrder, .inl (cI, 5, .inl W_bestOrder)), (aW_readyByNumber, .inl (cI, 5, .inl W_readyByNumber)), (aW_readyByBest, .inl (cI, 5, .inl W_readyByBest))] H := by rw [hHe]; exact hP
  refine (fun (hgo : W p l e ({ frames := 10, cells := 0, slots := 0, locals := 296 } : Room) s m ([.ref aN, .int x1] : List Value).toArray below meth c H locs 0 0 Q0 (F0 m 0 ls [])) => by rw [hHe, hLo] at hgo; exact hgo) ?_
  refine lv_aload_n hx hb dX6_ready_0 rfl (lv_at hl 0 rfl) ?_
  refine va_get (D := D) (ci := 5) (v := .ref aD) (C := RX6) (T := TX6) (N := 4) hx hb hts hinX6 hown hK hP 0 rfl rfl 0 (by decide) hf10 (fun _ h9 => h9) rfl dX6_ready_1 ?_
  refine lv_iload_n hx hb dX6_ready_4 rfl (lv_at hl 1 rfl) ?_
  refine zVi (As := [.int x1]) (rest := []) (wc := [(aD, .inr (0, [.ref aD_kinds, .ref aD_washes, .ref aD_fuels, .ref aD_isBroken, .int D_units, .ref aD_lengths, .ref aD_wanted, .int D_leaving, .ref aD_trackOf, .int D_parked, .int D_changes]))]) (wr := [(aN, .inr (5, [.ref aD, .ref aP, .ref aR, .ref aW])), (aW, .inr (4, [.ref aD, .ref aW_numbers, .ref aW_trial, .ref aW_bestOrder, .ref aW_readyByNumber, .ref aW_readyByBest, .int W_soonestEnd, .int W_knownUnits])), (aD_washes, .inl (cI, 5, .inl D_washes)), (aD_fuels, .inl (cI, 5, .inl D_fuels)), (aW_numbers, .inl (cI, 5, .inl W_numbers)), (aW_trial, .inl (cI, 5, .inl W_trial)), (aW_bestOrder, .inl (cI, 5, .inl W_bestOrder)), (aW_readyByNumber, .inl (cI, 5, .inl W_readyByNumber)), (aW_readyByBest, .inl (cI, 5, .inl W_readyByBest))]) ⟨hx, hb, hml, hown, hts⟩ hK hP hD hS hA [1] [0, 2, 3, 4, 5, 6, 7, 8, 9] rfl rfl (by decide) (by decide) (by decide) (c_X0_hasUnit l D cI cJ cZ aD aD_kinds aD_washes aD_fuels aD_isBroken aD_lengths aD_wanted aD_trackOf H.size D_units D_leaving D_parked D_changes x1 _ hw) (cwV 1 hts gX6_ready_X0_hasUnit rfl rfl rfl (by decide +kernel) ⟨Nat.le_of_ble_eq_true rfl, Nat.le_of_ble_eq_true rfl⟩) 1 0 rfl rfl rfl rfl hl.1 (Nat.le_of_ble_eq_true rfl) dX6_ready_5 ⟨(Nat.le_of_ble_eq_true rfl), (Nat.le_of_ble_eq_true rfl)⟩ rfl (fun r1 u H locs hw hP hD hS => ?_)
  try dsimp only at hw
  have hP : va_P D vwCl [(aN, .inr (5, [.ref aD, .ref aP, .ref aR, .ref aW])), (aD, .inr (0, [.ref aD_kinds, .ref aD_washes, .ref aD_fuels, .ref aD_isBroken, .int D_units, .ref aD_lengths, .ref aD_wanted, .int D_leaving, .ref aD_trackOf, .int D_parked, .int D_changes])), (aW, .inr (4, [.ref aD, .ref aW_numbers, .ref aW_trial, .ref aW_bestOrder, .ref aW_readyByNumber, .ref aW_readyByBest, .int W_soonestEnd, .int W_knownUnits])), (aD_washes, .inl (cI, 5, .inl D_washes)), (aD_fuels, .inl (cI, 5, .inl D_fuels)), (aW_numbers, .inl (cI, 5, .inl W_numbers)), (aW_trial, .inl (cI, 5, .inl W_trial)), (aW_bestOrder, .inl (cI, 5, .inl W_bestOrder)), (aW_readyByNumber, .inl (cI, 5, .inl W_readyByNumber)), (aW_readyByBest, .inl (cI, 5, .inl W_readyByBest))] H := hP.sub [0, 9, 1, 2, 3, 4, 5, 6, 7, 8] rfl
  have hD : va_D A [(aN, .inr (5, [.ref aD, .ref aP, .ref aR, .ref aW])), (aD, .inr (0, [.ref aD_kinds, .ref aD_washes, .ref aD_fuels, .ref aD_isBroken, .int D_units, .ref aD_lengths, .ref aD_wanted, .int D_leaving, .ref aD_trackOf, .int D_parked, .int D_changes])), (aW, .inr (4, [.ref aD, .ref aW_numbers, .ref aW_trial, .ref aW_bestOrder, .ref aW_readyByNumber, .ref aW_readyByBest, .int W_soonestEnd, .int W_knownUnits])), (aD_washes, .inl (cI, 5, .inl D_washes)), (aD_fuels, .inl (cI, 5, .inl D_fuels)), (aW_numbers, .inl (cI, 5, .inl W_numbers)), (aW_trial, .inl (cI, 5, .inl W_trial)), (aW_bestOrder, .inl (cI, 5, .inl W_bestOrder)), (aW_readyByNumber, .inl (cI, 5, .inl W_readyByNumber)), (aW_readyByBest, .inl (cI, 5, .inl W_readyByBest))] := hD.sub [0, 9, 1, 2, 3, 4, 5, 6, 7, 8] (by decide) rfl
  refine lv_if_ne (tgt := 14) hx hb dX6_ready_8 (by decide) (fun hc2 => ?_) (fun hc2 => ?_)
  · have hw := hw.1 hc2
    refine lv_aload_n hx hb dX6_ready_14 rfl (lv_at hl 0 rfl) ?_
    refine va_get (D := D) (ci := 5) (v := .ref aW) (C := RX6) (T := TX6) (N := 4) hx hb hts hinX6 hown hK hP 0 rfl rfl 3 (by decide) hf35 (fun _ h9 => h9) rfl dX6_ready_15 ?_
    refine zVv (As := []) (rest := []) (wc := [(aD, .inr (0, [.ref aD_kinds, .ref aD_washes, .ref aD_fuels, .ref aD_isBroken, .int D_units, .ref aD_lengths, .ref aD_wanted, .int D_leaving, .ref aD_trackOf, .int D_parked, .int D_changes])), (aW, .inr (4, [.ref aD, .ref aW_numbers, .ref aW_trial, .ref aW_bestOrder, .ref aW_readyByNumber, .ref aW_readyByBest, .int W_soonestEnd, .int W_knownUnits])), (aD_washes, .inl (cI, 5, .inl D_washes)), (aD_fuels, .inl (cI, 5, .inl D_fuels)), (aW_numbers, .inl (cI, 5, .inl W_numbers)), (aW_trial, .inl (cI, 5, .inl W_trial)), (aW_bestOrder, .inl (cI, 5, .inl W_bestOrder)), (aW_readyByNumber, .inl (cI, 5, .inl W_readyByNumber)), (aW_readyByBest, .inl (cI, 5, .inl W_readyByBest))]) (wr := [(aN, .inr (5, [.ref aD, .ref aP, .ref aR, .ref aW]))]) ⟨hx, hb, hml, hown, hts⟩ hK hP hD hS hA [1, 2, 3, 4, 5, 6, 7, 8, 9] [0] rfl rfl (by decide) (by decide) (by decide) (c_X5_refresh l D cI cJ cZ aD aD_kinds aD_washes aD_fuels aD_isBroken aD_lengths aD_wanted aD_trackOf aW aW_numbers aW_trial aW_bestOrder aW_readyByNumber aW_readyByBest H.size D_units D_leaving D_parked D_changes W_soonestEnd W_knownUnits D_washes D_fuels W_numbers W_trial W_bestOrder W_readyByNumber W_readyByBest _ hw) (cwV 0 hts gX6_ready_X5_refresh rfl rfl rfl (by decide +kernel) ⟨Nat.le_of_ble_eq_true rfl, Nat.le_of_ble_eq_true rfl⟩) 2 4 rfl rfl rfl rfl hl.1 (Nat.le_of_ble_eq_true rfl) dX6_ready_18 ⟨(Nat.le_of_ble_eq_true rfl), (Nat.le_of_ble_eq_true rfl)⟩ rfl (fun u H locs hw hP hD hS => ?_)
    obtain ⟨W_trial_3, W_bestOrder_4, W_readyByNumber_5, W_readyByBest_6, W_soonestEnd_7, W_knownUnits_8⟩ := u
    try dsimp only at hw
    have hP : va_P D vwCl [(aN, .inr (5, [.ref aD, .ref aP, .ref aR, .ref aW])), (aD, .inr (0, [.ref aD_kinds, .ref aD_washes, .ref aD_fuels, .ref aD_isBroken, .int D_units, .ref aD_lengths, .ref aD_wanted, .int D_leaving, .ref aD_trackOf, .int D_parked, .int D_changes])), (aW, .inr (4, [.ref aD, .ref aW_numbers, .ref aW_trial, .ref aW_bestOrder, .ref aW_readyByNumber, .ref aW_readyByBest, .int W_soonestEnd_7, .int W_knownUnits_8])), (aD_washes, .inl (cI, 5, .inl D_washes)), (aD_fuels, .inl (cI, 5, .inl D_fuels)), (aW_numbers, .inl (cI, 5, .inl W_numbers)), (aW_trial, .inl (cI, 5, .inl W_trial_3)), (aW_bestOrder, .inl (cI, 5, .inl W_bestOrder_4)), (aW_readyByNumber, .inl (cI, 5, .inl W_readyByNumber_5)), (aW_readyByBest, .inl (cI, 5, .inl W_readyByBest_6))] H := hP.sub [0, 1, 2, 3, 4, 5, 6, 7, 8, 9] rfl
    have hD : va_D A [(aN, .inr (5, [.ref aD, .ref aP, .ref aR, .ref aW])), (aD, .inr (0, [.ref aD_kinds, .ref aD_washes, .ref aD_fuels, .ref aD_isBroken, .int D_units, .ref aD_lengths, .ref aD_wanted, .int D_leaving, .ref aD_trackOf, .int D_parked, .int D_changes])), (aW, .inr (4, [.ref aD, .ref aW_numbers, .ref aW_trial, .ref aW_bestOrder, .ref aW_readyByNumber, .ref aW_readyByBest, .int W_soonestEnd_7, .int W_knownUnits_8])), (aD_washes, .inl (cI, 5, .inl D_washes)), (aD_fuels, .inl (cI, 5, .inl D_fuels)), (aW_numbers, .inl (cI, 5, .inl W_numbers)), (aW_trial, .inl (cI, 5, .inl W_trial_3)), (aW_bestOrder, .inl (cI, 5, .inl W_bestOrder_4)), (aW_readyByNumber, .inl (cI, 5, .inl W_readyByNumber_5)), (aW_readyByBest, .inl (cI, 5, .inl W_readyByBest_6))] := hD.sub [0, 1, 2, 3, 4, 5, 6, 7, 8, 9] (by decide) rfl
    refine lv_aload_n hx hb dX6_ready_21 rfl (lv_at hl 0 rfl) ?_
    refine va_get (D := D) (ci := 5) (v := .ref aW) (C := RX6) (T := TX6) (N := 4) hx hb hts hinX6 hown hK hP 0 rfl rfl 3 (by decide) hf35 (fun _ h9 => h9) rfl dX6_ready_22 ?_
    refine va_get (D := D) (ci := 4) (v := .ref aW_readyByNumber) (C := RX5) (T := TX5) (N := 8) hx hb hts hinX5 hown hK hP 2 rfl rfl 4 (by decide) hf127 (fun _ h9 => h9) rfl dX6_ready_25 ?_
    refine lv_iload_n hx hb dX6_ready_28 rfl (lv_at hl 1 rfl) ?_
    obtain ⟨hb9, hw⟩ := hw
    refine va_iald hx hb hK hP 8 0 rfl rfl hb9 dX6_ready_29 ?_
    exact hret (W_readyByNumber_5 x1.toNatClampNeg) W_trial_3 W_bestOrder_4 W_readyByNumber_5 W_readyByBest_6 W_soonestEnd_7 W_knownUnits_8 H locs 30 ls hw dX6_ready_30 hP hD hS 
  · have hw := hw.2 hc2
    refine lv_bipush (v := (-2)) hx hb dX6_ready_11 (by decide) ?_
    exact hret (-2) W_trial W_bestOrder W_readyByNumber W_readyByBest W_soonestEnd W_knownUnits H locs 13 ls hw dX6_ready_13 hP hD hS 
/-! X6_ends -/
def wp_X6_ends (D_washes : Nat → Int32) (D_fuels : Nat → Int32) (D_units : Int32) (W_numbers : Nat → Int32) (W_trial : Nat → Int32) (W_bestOrder : Nat → Int32) (W_readyByNumber : Nat → Int32) (W_readyByBest : Nat → Int32) (W_soonestEnd : Int32) (W_knownUnits : Int32) (post : Int32 → (Nat → Int32) → (Nat → Int32) → (Nat → Int32) → (Nat → Int32) → Int32 → Int32 → Prop) : Prop :=
  wp_X5_refresh D_washes D_fuels D_units W_numbers W_trial W_bestOrder W_readyByNumber W_readyByBest W_soonestEnd W_knownUnits (fun (W_trial_1 : Nat → Int32) (W_bestOrder_2 : Nat → Int32) (W_readyByNumber_3 : Nat → Int32) (W_readyByBest_4 : Nat → Int32) (W_soonestEnd_5 : Int32) (W_knownUnits_6 : Int32) => post W_soonestEnd_5 W_trial_1 W_bestOrder_2 W_readyByNumber_3 W_readyByBest_4 W_soonestEnd_5 W_knownUnits_6)
set_option maxHeartbeats 4000000 in
set_option maxRecDepth 100000 in
theorem c_X6_ends (l : Launch) (D : va_G) (cI cJ cZ : ClassId) (aN aD aP aR aW aD_kinds aD_washes aD_fuels aD_isBroken aD_lengths aD_wanted aD_trackOf aW_numbers aW_trial aW_bestOrder aW_readyByNumber aW_readyByBest : Nat) (sz : Nat) (D_units : Int32) (D_leaving : Int32) (D_parked : Int32) (D_changes : Int32) (W_soonestEnd : Int32) (W_knownUnits : Int32) (D_washes : Nat → Int32) (D_fuels : Nat → Int32) (W_numbers : Nat → Int32) (W_trial : Nat → Int32) (W_bestOrder : Nat → Int32) (W_readyByNumber : Nat → Int32) (W_readyByBest : Nat → Int32) (post : Int32 → (Nat → Int32) → (Nat → Int32) → (Nat → Int32) → (Nat → Int32) → Int32 → Int32 → Prop) (hw : wp_X6_ends D_washes D_fuels D_units W_numbers W_trial W_bestOrder W_readyByNumber W_readyByBest W_soonestEnd W_knownUnits post) : Met l yX6_ends wsX6_ends ({ frames := 10, cells := 0, slots := 0, locals := 296 } : Room) (va_Pc [.ref aN] (zPre D cI cJ cZ [(aN, .inr (5, [.ref aD, .ref aP, .ref aR, .ref aW])), (aD, .inr (0, [.ref aD_kinds, .ref aD_washes, .ref aD_fuels, .ref aD_isBroken, .int D_units, .ref aD_lengths, .ref aD_wanted, .int D_leaving, .ref aD_trackOf, .int D_parked, .int D_changes])), (aW, .inr (4, [.ref aD, .ref aW_numbers, .ref aW_trial, .ref aW_bestOrder, .ref aW_readyByNumber, .ref aW_readyByBest, .int W_soonestEnd, .int W_knownUnits])), (aD_washes, .inl (cI, 5, .inl D_washes)), (aD_fuels, .inl (cI, 5, .inl D_fuels)), (aW_numbers, .inl (cI, 5, .inl W_numbers)), (aW_trial, .inl (cI, 5, .inl W_trial)), (aW_bestOrder, .inl (cI, 5, .inl W_bestOrder)), (aW_readyByNumber, .inl (cI, 5, .inl W_readyByNumber)), (aW_readyByBest, .inl (cI, 5, .inl W_readyByBest))] sz)) (va_Qi (fun (r : Int32) (u : (Nat → Int32) × (Nat → Int32) × (Nat → Int32) × (Nat → Int32) × (Int32) × (Int32)) => post r u.1 u.2.1 u.2.2.1 u.2.2.2.1 u.2.2.2.2.1 u.2.2.2.2.2) (zPost D cI cJ cZ (va_A [(aN, .inr (5, [.ref aD, .ref aP, .ref aR, .ref aW])), (aD, .inr (0, [.ref aD_kinds, .ref aD_washes, .ref aD_fuels, .ref aD_isBroken, .int D_units, .ref aD_lengths, .ref aD_wanted, .int D_leaving, .ref aD_trackOf, .int D_parked, .int D_changes])), (aW, .inr (4, [.ref aD, .ref aW_numbers, .ref aW_trial, .ref aW_bestOrder, .ref aW_readyByNumber, .ref aW_readyByBest, .int W_soonestEnd, .int W_knownUnits])), (aD_washes, .inl (cI, 5, .inl D_washes)), (aD_fuels, .inl (cI, 5, .inl D_fuels)), (aW_numbers, .inl (cI, 5, .inl W_numbers)), (aW_trial, .inl (cI, 5, .inl W_trial)), (aW_bestOrder, .inl (cI, 5, .inl W_bestOrder)), (aW_readyByNumber, .inl (cI, 5, .inl W_readyByNumber)), (aW_readyByBest, .inl (cI, 5, .inl W_readyByBest))] sz) (fun u : (Nat → Int32) × (Nat → Int32) × (Nat → Int32) × (Nat → Int32) × (Int32) × (Int32) => [(aN, .inr (5, [.ref aD, .ref aP, .ref aR, .ref aW])), (aD, .inr (0, [.ref aD_kinds, .ref aD_washes, .ref aD_fuels, .ref aD_isBroken, .int D_units, .ref aD_lengths, .ref aD_wanted, .int D_leaving, .ref aD_trackOf, .int D_parked, .int D_changes])), (aW, .inr (4, [.ref aD, .ref aW_numbers, .ref aW_trial, .ref aW_bestOrder, .ref aW_readyByNumber, .ref aW_readyByBest, .int u.2.2.2.2.1, .int u.2.2.2.2.2])), (aD_washes, .inl (cI, 5, .inl D_washes)), (aD_fuels, .inl (cI, 5, .inl D_fuels)), (aW_numbers, .inl (cI, 5, .inl W_numbers)), (aW_trial, .inl (cI, 5, .inl u.1)), (aW_bestOrder, .inl (cI, 5, .inl u.2.1)), (aW_readyByNumber, .inl (cI, 5, .inl u.2.2.1)), (aW_readyByBest, .inl (cI, 5, .inl u.2.2.2.1))])) (va_A [(aN, .inr (5, [.ref aD, .ref aP, .ref aR, .ref aW])), (aD, .inr (0, [.ref aD_kinds, .ref aD_washes, .ref aD_fuels, .ref aD_isBroken, .int D_units, .ref aD_lengths, .ref aD_wanted, .int D_leaving, .ref aD_trackOf, .int D_parked, .int D_changes])), (aW, .inr (4, [.ref aD, .ref aW_numbers, .ref aW_trial, .ref aW_bestOrder, .ref aW_readyByNumber, .ref aW_readyByBest, .int W_soonestEnd, .int W_knownUnits])), (aD_washes, .inl (cI, 5, .inl D_washes)), (aD_fuels, .inl (cI, 5, .inl D_fuels)), (aW_numbers, .inl (cI, 5, .inl W_numbers)), (aW_trial, .inl (cI, 5, .inl W_trial)), (aW_bestOrder, .inl (cI, 5, .inl W_bestOrder)), (aW_readyByNumber, .inl (cI, 5, .inl W_readyByNumber)), (aW_readyByBest, .inl (cI, 5, .inl W_readyByBest))] sz)) 0 0 (va_A [(aN, .inr (5, [.ref aD, .ref aP, .ref aR, .ref aW])), (aD, .inr (0, [.ref aD_kinds, .ref aD_washes, .ref aD_fuels, .ref aD_isBroken, .int D_units, .ref aD_lengths, .ref aD_wanted, .int D_leaving, .ref aD_trackOf, .int D_parked, .int D_changes])), (aW, .inr (4, [.ref aD, .ref aW_numbers, .ref aW_trial, .ref aW_bestOrder, .ref aW_readyByNumber, .ref aW_readyByBest, .int W_soonestEnd, .int W_knownUnits])), (aD_washes, .inl (cI, 5, .inl D_washes)), (aD_fuels, .inl (cI, 5, .inl D_fuels)), (aW_numbers, .inl (cI, 5, .inl W_numbers)), (aW_trial, .inl (cI, 5, .inl W_trial)), (aW_bestOrder, .inl (cI, 5, .inl W_bestOrder)), (aW_readyByNumber, .inl (cI, 5, .inl W_readyByNumber)), (aW_readyByBest, .inl (cI, 5, .inl W_readyByBest))] sz) := by
  unfold wp_X6_ends at hw
  refine Met.ofW (cc := cX6_ends) (maxL := 1) (ret := some .int) (by decide) rfl ?_
  intro p e s m args below meth c s₁ B hml hv
  obtain ⟨rfl, hsz, hP, hK, hD0⟩ := hv
  have hx := B.exec
  have hb := B.bytes
  have hr := B.returns
  have hts := atoms_spec (ws := wsX6_ends) B.pre
  have hown : s.vm.findClass RX6 = some m.cls := findClass_of_methodNamed B.named
  have hlocks := B.notSynchronized
  subst hsz
  have hD := hD0.self (sz := s.heap.size)
  generalize hAe : va_A [(aN, .inr (5, [.ref aD, .ref aP, .ref aR, .ref aW])), (aD, .inr (0, [.ref aD_kinds, .ref aD_washes, .ref aD_fuels, .ref aD_isBroken, .int D_units, .ref aD_lengths, .ref aD_wanted, .int D_leaving, .ref aD_trackOf, .int D_parked, .int D_changes])), (aW, .inr (4, [.ref aD, .ref aW_numbers, .ref aW_trial, .ref aW_bestOrder, .ref aW_readyByNumber, .ref aW_readyByBest, .int W_soonestEnd, .int W_knownUnits])), (aD_washes, .inl (cI, 5, .inl D_washes)), (aD_fuels, .inl (cI, 5, .inl D_fuels)), (aW_numbers, .inl (cI, 5, .inl W_numbers)), (aW_trial, .inl (cI, 5, .inl W_trial)), (aW_bestOrder, .inl (cI, 5, .inl W_bestOrder)), (aW_readyByNumber, .inl (cI, 5, .inl W_readyByNumber)), (aW_readyByBest, .inl (cI, 5, .inl W_readyByBest))] s.heap.size = A at hD ⊢
  have hA : ∀ q : Nat, s.heap.size ≤ q → A q := fun q h => by rw [← hAe]; exact Or.inr h
  have hS : va_S A s.heap s.heap [] := va_S.rf
  refine (fun (hall : ∀ Q0 : State → Prop, (∀ (r : Int32) (v0 : Nat → Int32) (v1 : Nat → Int32) (v2 : Nat → Int32) (v3 : Nat → Int32) (v4 : Int32) (v5 : Int32) (H : Heap) (locs : List Loc) (pc : Nat) (ls : Array Slot), post r v0 v1 v2 v3 v4 v5 → decode cX6_ends pc = .ok (.ireturn, 1) → va_P D vwCl [(aN, .inr (5, [.ref aD, .ref aP, .ref aR, .ref aW])), (aD, .inr (0, [.ref aD_kinds, .ref aD_washes, .ref aD_fuels, .ref aD_isBroken, .int D_units, .ref aD_lengths, .ref aD_wanted, .int D_leaving, .ref aD_trackOf, .int D_parked, .int D_changes])), (aW, .inr (4, [.ref aD, .ref aW_numbers, .ref aW_trial, .ref aW_bestOrder, .ref aW_readyByNumber, .ref aW_readyByBest, .int v4, .int v5])), (aD_washes, .inl (cI, 5, .inl D_washes)), (aD_fuels, .inl (cI, 5, .inl D_fuels)), (aW_numbers, .inl (cI, 5, .inl W_numbers)), (aW_trial, .inl (cI, 5, .inl v0)), (aW_bestOrder, .inl (cI, 5, .inl v1)), (aW_readyByNumber, .inl (cI, 5, .inl v2)), (aW_readyByBest, .inl (cI, 5, .inl v3))] H → va_D A [(aN, .inr (5, [.ref aD, .ref aP, .ref aR, .ref aW])), (aD, .inr (0, [.ref aD_kinds, .ref aD_washes, .ref aD_fuels, .ref aD_isBroken, .int D_units, .ref aD_lengths, .ref aD_wanted, .int D_leaving, .ref aD_trackOf, .int D_parked, .int D_changes])), (aW, .inr (4, [.ref aD, .ref aW_numbers, .ref aW_trial, .ref aW_bestOrder, .ref aW_readyByNumber, .ref aW_readyByBest, .int v4, .int v5])), (aD_washes, .inl (cI, 5, .inl D_washes)), (aD_fuels, .inl (cI, 5, .inl D_fuels)), (aW_numbers, .inl (cI, 5, .inl W_numbers)), (aW_trial, .inl (cI, 5, .inl v0)), (aW_bestOrder, .inl (cI, 5, .inl v1)), (aW_readyByNumber, .inl (cI, 5, .inl v2)), (aW_readyByBest, .inl (cI, 5, .inl v3))] → va_S A s.heap H locs → W p l e ({ frames := 10, cells := 0, slots := 0, locals := 296 } : Room) s m ([.ref aN] : List Value).toArray below meth c H locs 0 0 Q0 (F0 m pc ls [.int r])) → W p l e ({ frames := 10, cells := 0, slots := 0, locals := 296 } : Room) s m ([.ref aN] : List Value).toArray below meth c s.heap [] 0 0 Q0 (entryFrame m ([.ref aN] : List Value).toArray 1)) => hall _ (fun r v0 v1 v2 v3 v4 v5 H locs pc ls hw hd hP hD hS => W.iret (v := r) hx hb hr (fun t ht hW => ⟨⟨r, (v0, v1, v2, v3, v4, v5), rfl, hw, by rw [ht]; exact hP, va_K.moved hW.alike hK, hD⟩, hS.F ht⟩) hS.2.2 hd)) ?_
  intro Q0 hret
  have hl := lv_entry ([.ref aN]) (n := 1) (Nat.le_of_ble_eq_true rfl)
  rw [lg_entry_eq]
  generalize (lg_sl ([.ref aN]) ++ List.replicate (1 - (lg_sl ([.ref aN])).length) Slot.unset).toArray = ls at hl ⊢
  have hl : lv_has ls 1 [(0, .ref aN)] := hl
  have hinX5 : ∀ w ∈ u_ws RX5 TX5 8, w ∈ wsX6_ends := by decide +kernel
  have hinX6 : ∀ w ∈ u_ws RX6 TX6 4, w ∈ wsX6_ends := by decide +kernel
  have hf35 := hts (.fieldLink RX6 35 "DepotNight" "washing" "LDepotNight$Washing;") (by decide +kernel)
  have hf130 := hts (.fieldLink RX6 130 "DepotNight$Washing" "soonestEnd" "I") (by decide +kernel)
  obtain ⟨H, hHe⟩ : ∃ H, H = s.heap := ⟨_, rfl⟩
  obtain ⟨locs, hLo⟩ : ∃ locs : List Loc, locs = [] := ⟨_, rfl⟩
  have hS : va_S A s.heap H locs := by rw [hHe, hLo]; exact hS
  have hP : va_P D vwCl [(aN, .inr (5, [.ref aD, .ref aP, .ref aR, .ref aW])), (aD, .inr (0, [.ref aD_kinds, .ref aD_washes, .ref aD_fuels, .ref aD_isBroken, .int D_units, .ref aD_lengths, .ref aD_wanted, .int D_leaving, .ref aD_trackOf, .int D_parked, .int D_changes])), (aW, .inr (4, [.ref aD, .ref aW_numbers, .ref aW_trial, .ref aW_bestOrder, .ref aW_readyByNumber, .ref aW_readyByBest, .int W_soonestEnd, .int W_knownUnits])), (aD_washes, .inl (cI, 5, .inl D_washes)), (aD_fuels, .inl (cI, 5, .inl D_fuels)), (aW_numbers, .inl (cI, 5, .inl W_numbers)), (aW_trial, .inl (cI, 5, .inl W_trial)), (aW_bestOrder, .inl (cI, 5, .inl W_bestOrder)), (aW_readyByNumber, .inl (cI, 5, .inl W_readyByNumber)), (aW_readyByBest, .inl (cI, 5, .inl W_readyByBest))] H := by rw [hHe]; exact hP
  refine (fun (hgo : W p l e ({ frames := 10, cells := 0, slots := 0, locals := 296 } : Room) s m ([.ref aN] : List Value).toArray below meth c H locs 0 0 Q0 (F0 m 0 ls [])) => by rw [hHe, hLo] at hgo; exact hgo) ?_
  refine lv_aload_n hx hb dX6_ends_0 rfl (lv_at hl 0 rfl) ?_
  refine va_get (D := D) (ci := 5) (v := .ref aW) (C := RX6) (T := TX6) (N := 4) hx hb hts hinX6 hown hK hP 0 rfl rfl 3 (by decide) hf35 (fun _ h9 => h9) rfl dX6_ends_1 ?_
  refine zVv (As := []) (rest := []) (wc := [(aD, .inr (0, [.ref aD_kinds, .ref aD_washes, .ref aD_fuels, .ref aD_isBroken, .int D_units, .ref aD_lengths, .ref aD_wanted, .int D_leaving, .ref aD_trackOf, .int D_parked, .int D_changes])), (aW, .inr (4, [.ref aD, .ref aW_numbers, .ref aW_trial, .ref aW_bestOrder, .ref aW_readyByNumber, .ref aW_readyByBest, .int W_soonestEnd, .int W_knownUnits])), (aD_washes, .inl (cI, 5, .inl D_washes)), (aD_fuels, .inl (cI, 5, .inl D_fuels)), (aW_numbers, .inl (cI, 5, .inl W_numbers)), (aW_trial, .inl (cI, 5, .inl W_trial)), (aW_bestOrder, .inl (cI, 5, .inl W_bestOrder)), (aW_readyByNumber, .inl (cI, 5, .inl W_readyByNumber)), (aW_readyByBest, .inl (cI, 5, .inl W_readyByBest))]) (wr := [(aN, .inr (5, [.ref aD, .ref aP, .ref aR, .ref aW]))]) ⟨hx, hb, hml, hown, hts⟩ hK hP hD hS hA [1, 2, 3, 4, 5, 6, 7, 8, 9] [0] rfl rfl (by decide) (by decide) (by decide) (c_X5_refresh l D cI cJ cZ aD aD_kinds aD_washes aD_fuels aD_isBroken aD_lengths aD_wanted aD_trackOf aW aW_numbers aW_trial aW_bestOrder aW_readyByNumber aW_readyByBest H.size D_units D_leaving D_parked D_changes W_soonestEnd W_knownUnits D_washes D_fuels W_numbers W_trial W_bestOrder W_readyByNumber W_readyByBest _ hw) (cwV 0 hts gX6_ends_X5_refresh rfl rfl rfl (by decide +kernel) ⟨Nat.le_of_ble_eq_true rfl, Nat.le_of_ble_eq_true rfl⟩) 2 4 rfl rfl rfl rfl hl.1 (Nat.le_of_ble_eq_true rfl) dX6_ends_4 ⟨(Nat.le_of_ble_eq_true rfl), (Nat.le_of_ble_eq_true rfl)⟩ rfl (fun u H locs hw hP hD hS => ?_)
  obtain ⟨W_trial_1, W_bestOrder_2, W_readyByNumber_3, W_readyByBest_4, W_soonestEnd_5, W_knownUnits_6⟩ := u
  try dsimp only at hw
  have hP : va_P D vwCl [(aN, .inr (5, [.ref aD, .ref aP, .ref aR, .ref aW])), (aD, .inr (0, [.ref aD_kinds, .ref aD_washes, .ref aD_fuels, .ref aD_isBroken, .int D_units, .ref aD_lengths, .ref aD_wanted, .int D_leaving, .ref aD_trackOf, .int D_parked, .int D_changes])), (aW, .inr (4, [.ref aD, .ref aW_numbers, .ref aW_trial, .ref aW_bestOrder, .ref aW_readyByNumber, .ref aW_readyByBest, .int W_soonestEnd_5, .int W_knownUnits_6])), (aD_washes, .inl (cI, 5, .inl D_washes)), (aD_fuels, .inl (cI, 5, .inl D_fuels)), (aW_numbers, .inl (cI, 5, .inl W_numbers)), (aW_trial, .inl (cI, 5, .inl W_trial_1)), (aW_bestOrder, .inl (cI, 5, .inl W_bestOrder_2)), (aW_readyByNumber, .inl (cI, 5, .inl W_readyByNumber_3)), (aW_readyByBest, .inl (cI, 5, .inl W_readyByBest_4))] H := hP.sub [0, 1, 2, 3, 4, 5, 6, 7, 8, 9] rfl
  have hD : va_D A [(aN, .inr (5, [.ref aD, .ref aP, .ref aR, .ref aW])), (aD, .inr (0, [.ref aD_kinds, .ref aD_washes, .ref aD_fuels, .ref aD_isBroken, .int D_units, .ref aD_lengths, .ref aD_wanted, .int D_leaving, .ref aD_trackOf, .int D_parked, .int D_changes])), (aW, .inr (4, [.ref aD, .ref aW_numbers, .ref aW_trial, .ref aW_bestOrder, .ref aW_readyByNumber, .ref aW_readyByBest, .int W_soonestEnd_5, .int W_knownUnits_6])), (aD_washes, .inl (cI, 5, .inl D_washes)), (aD_fuels, .inl (cI, 5, .inl D_fuels)), (aW_numbers, .inl (cI, 5, .inl W_numbers)), (aW_trial, .inl (cI, 5, .inl W_trial_1)), (aW_bestOrder, .inl (cI, 5, .inl W_bestOrder_2)), (aW_readyByNumber, .inl (cI, 5, .inl W_readyByNumber_3)), (aW_readyByBest, .inl (cI, 5, .inl W_readyByBest_4))] := hD.sub [0, 1, 2, 3, 4, 5, 6, 7, 8, 9] (by decide) rfl
  refine lv_aload_n hx hb dX6_ends_7 rfl (lv_at hl 0 rfl) ?_
  refine va_get (D := D) (ci := 5) (v := .ref aW) (C := RX6) (T := TX6) (N := 4) hx hb hts hinX6 hown hK hP 0 rfl rfl 3 (by decide) hf35 (fun _ h9 => h9) rfl dX6_ends_8 ?_
  refine va_get (D := D) (ci := 4) (v := .int W_soonestEnd_5) (C := RX5) (T := TX5) (N := 8) hx hb hts hinX5 hown hK hP 2 rfl rfl 6 (by decide) hf130 (fun _ h9 => h9) rfl dX6_ends_11 ?_
  exact hret W_soonestEnd_5 W_trial_1 W_bestOrder_2 W_readyByNumber_3 W_readyByBest_4 W_soonestEnd_5 W_knownUnits_6 H locs 14 ls hw dX6_ends_14 hP hD hS 
/-! X6_best -/
def wp_X6_best (D_washes : Nat → Int32) (D_fuels : Nat → Int32) (D_units : Int32) (W_numbers : Nat → Int32) (x1 : Int32) (x2 : Int32) (W_trial : Nat → Int32) (W_bestOrder : Nat → Int32) (W_readyByNumber : Nat → Int32) (W_readyByBest : Nat → Int32) (W_soonestEnd : Int32) (W_knownUnits : Int32) (post : Int32 → (Nat → Int32) → (Nat → Int32) → (Nat → Int32) → (Nat → Int32) → Int32 → Int32 → Prop) : Prop :=
  ((x1 < 0 → post (-3) W_trial W_bestOrder W_readyByNumber W_readyByBest W_soonestEnd W_knownUnits) ∧ (¬ x1 < 0 → ((D_units ≤ x1 → post (-3) W_trial W_bestOrder W_readyByNumber W_readyByBest W_soonestEnd W_knownUnits) ∧ (¬ D_units ≤ x1 → ((x2 < 0 → post (-3) W_trial W_bestOrder W_readyByNumber W_readyByBest W_soonestEnd W_knownUnits) ∧ (¬ x2 < 0 → ((x2 ≤ 1 → wp_X5_refresh D_washes D_fuels D_units W_numbers W_trial W_bestOrder W_readyByNumber W_readyByBest W_soonestEnd W_knownUnits (fun (W_trial_5 : Nat → Int32) (W_bestOrder_6 : Nat → Int32) (W_readyByNumber_7 : Nat → Int32) (W_readyByBest_8 : Nat → Int32) (W_soonestEnd_9 : Int32) (W_knownUnits_10 : Int32) => vp_in x1 5 ∧ (∀ y12 : Int32, y12 = (W_bestOrder_6 x1.toNatClampNeg) → (((¬ x2 = 0 → vp_in y12 5 ∧ (post (W_readyByBest_8 y12.toNatClampNeg) W_trial_5 W_bestOrder_6 W_readyByNumber_7 W_readyByBest_8 W_soonestEnd_9 W_knownUnits_10)) ∧ (x2 = 0 → post y12 W_trial_5 W_bestOrder_6 W_readyByNumber_7 W_readyByBest_8 W_soonestEnd_9 W_knownUnits_10)))))) ∧ (¬ x2 ≤ 1 → post (-3) W_trial W_bestOrder W_readyByNumber W_readyByBest W_soonestEnd W_knownUnits))))))))
set_option maxHeartbeats 4000000 in
set_option maxRecDepth 100000 in
theorem c_X6_best (l : Launch) (D : va_G) (cI cJ cZ : ClassId) (aN aD aP aR aW aD_kinds aD_washes aD_fuels aD_isBroken aD_lengths aD_wanted aD_trackOf aW_numbers aW_trial aW_bestOrder aW_readyByNumber aW_readyByBest : Nat) (sz : Nat) (D_units : Int32) (D_leaving : Int32) (D_parked : Int32) (D_changes : Int32) (W_soonestEnd : Int32) (W_knownUnits : Int32) (D_washes : Nat → Int32) (D_fuels : Nat → Int32) (W_numbers : Nat → Int32) (W_trial : Nat → Int32) (W_bestOrder : Nat → Int32) (W_readyByNumber : Nat → Int32) (W_readyByBest : Nat → Int32) (x1 : Int32) (x2 : Int32) (post : Int32 → (Nat → Int32) → (Nat → Int32) → (Nat → Int32) → (Nat → Int32) → Int32 → Int32 → Prop) (hw : wp_X6_best D_washes D_fuels D_units W_numbers x1 x2 W_trial W_bestOrder W_readyByNumber W_readyByBest W_soonestEnd W_knownUnits post) : Met l yX6_best wsX6_best ({ frames := 10, cells := 0, slots := 0, locals := 296 } : Room) (va_Pc [.ref aN, .int x1, .int x2] (zPre D cI cJ cZ [(aN, .inr (5, [.ref aD, .ref aP, .ref aR, .ref aW])), (aD, .inr (0, [.ref aD_kinds, .ref aD_washes, .ref aD_fuels, .ref aD_isBroken, .int D_units, .ref aD_lengths, .ref aD_wanted, .int D_leaving, .ref aD_trackOf, .int D_parked, .int D_changes])), (aW, .inr (4, [.ref aD, .ref aW_numbers, .ref aW_trial, .ref aW_bestOrder, .ref aW_readyByNumber, .ref aW_readyByBest, .int W_soonestEnd, .int W_knownUnits])), (aD_washes, .inl (cI, 5, .inl D_washes)), (aD_fuels, .inl (cI, 5, .inl D_fuels)), (aW_numbers, .inl (cI, 5, .inl W_numbers)), (aW_trial, .inl (cI, 5, .inl W_trial)), (aW_bestOrder, .inl (cI, 5, .inl W_bestOrder)), (aW_readyByNumber, .inl (cI, 5, .inl W_readyByNumber)), (aW_readyByBest, .inl (cI, 5, .inl W_readyByBest))] sz)) (va_Qi (fun (r : Int32) (u : (Nat → Int32) × (Nat → Int32) × (Nat → Int32) × (Nat → Int32) × (Int32) × (Int32)) => post r u.1 u.2.1 u.2.2.1 u.2.2.2.1 u.2.2.2.2.1 u.2.2.2.2.2) (zPost D cI cJ cZ (va_A [(aN, .inr (5, [.ref aD, .ref aP, .ref aR, .ref aW])), (aD, .inr (0, [.ref aD_kinds, .ref aD_washes, .ref aD_fuels, .ref aD_isBroken, .int D_units, .ref aD_lengths, .ref aD_wanted, .int D_leaving, .ref aD_trackOf, .int D_parked, .int D_changes])), (aW, .inr (4, [.ref aD, .ref aW_numbers, .ref aW_trial, .ref aW_bestOrder, .ref aW_readyByNumber, .ref aW_readyByBest, .int W_soonestEnd, .int W_knownUnits])), (aD_washes, .inl (cI, 5, .inl D_washes)), (aD_fuels, .inl (cI, 5, .inl D_fuels)), (aW_numbers, .inl (cI, 5, .inl W_numbers)), (aW_trial, .inl (cI, 5, .inl W_trial)), (aW_bestOrder, .inl (cI, 5, .inl W_bestOrder)), (aW_readyByNumber, .inl (cI, 5, .inl W_readyByNumber)), (aW_readyByBest, .inl (cI, 5, .inl W_readyByBest))] sz) (fun u : (Nat → Int32) × (Nat → Int32) × (Nat → Int32) × (Nat → Int32) × (Int32) × (Int32) => [(aN, .inr (5, [.ref aD, .ref aP, .ref aR, .ref aW])), (aD, .inr (0, [.ref aD_kinds, .ref aD_washes, .ref aD_fuels, .ref aD_isBroken, .int D_units, .ref aD_lengths, .ref aD_wanted, .int D_leaving, .ref aD_trackOf, .int D_parked, .int D_changes])), (aW, .inr (4, [.ref aD, .ref aW_numbers, .ref aW_trial, .ref aW_bestOrder, .ref aW_readyByNumber, .ref aW_readyByBest, .int u.2.2.2.2.1, .int u.2.2.2.2.2])), (aD_washes, .inl (cI, 5, .inl D_washes)), (aD_fuels, .inl (cI, 5, .inl D_fuels)), (aW_numbers, .inl (cI, 5, .inl W_numbers)), (aW_trial, .inl (cI, 5, .inl u.1)), (aW_bestOrder, .inl (cI, 5, .inl u.2.1)), (aW_readyByNumber, .inl (cI, 5, .inl u.2.2.1)), (aW_readyByBest, .inl (cI, 5, .inl u.2.2.2.1))])) (va_A [(aN, .inr (5, [.ref aD, .ref aP, .ref aR, .ref aW])), (aD, .inr (0, [.ref aD_kinds, .ref aD_washes, .ref aD_fuels, .ref aD_isBroken, .int D_units, .ref aD_lengths, .ref aD_wanted, .int D_leaving, .ref aD_trackOf, .int D_parked, .int D_changes])), (aW, .inr (4, [.ref aD, .ref aW_numbers, .ref aW_trial, .ref aW_bestOrder, .ref aW_readyByNumber, .ref aW_readyByBest, .int W_soonestEnd, .int W_knownUnits])), (aD_washes, .inl (cI, 5, .inl D_washes)), (aD_fuels, .inl (cI, 5, .inl D_fuels)), (aW_numbers, .inl (cI, 5, .inl W_numbers)), (aW_trial, .inl (cI, 5, .inl W_trial)), (aW_bestOrder, .inl (cI, 5, .inl W_bestOrder)), (aW_readyByNumber, .inl (cI, 5, .inl W_readyByNumber)), (aW_readyByBest, .inl (cI, 5, .inl W_readyByBest))] sz)) 0 0 (va_A [(aN, .inr (5, [.ref aD, .ref aP, .ref aR, .ref aW])), (aD, .inr (0, [.ref aD_kinds, .ref aD_washes, .ref aD_fuels, .ref aD_isBroken, .int D_units, .ref aD_lengths, .ref aD_wanted, .int D_leaving, .ref aD_trackOf, .int D_parked, .int D_changes])), (aW, .inr (4, [.ref aD, .ref aW_numbers, .ref aW_trial, .ref aW_bestOrder, .ref aW_readyByNumber, .ref aW_readyByBest, .int W_soonestEnd, .int W_knownUnits])), (aD_washes, .inl (cI, 5, .inl D_washes)), (aD_fuels, .inl (cI, 5, .inl D_fuels)), (aW_numbers, .inl (cI, 5, .inl W_numbers)), (aW_trial, .inl (cI, 5, .inl W_trial)), (aW_bestOrder, .inl (cI, 5, .inl W_bestOrder)), (aW_readyByNumber, .inl (cI, 5, .inl W_readyByNumber)), (aW_readyByBest, .inl (cI, 5, .inl W_readyByBest))] sz) := by
  unfold wp_X6_best at hw
  refine Met.ofW (cc := cX6_best) (maxL := 4) (ret := some .int) (by decide) rfl ?_
  intro p e s m args below meth c s₁ B hml hv
  obtain ⟨rfl, hsz, hP, hK, hD0⟩ := hv
  have hx := B.exec
  have hb := B.bytes
  have hr := B.returns
  have hts := atoms_spec (ws := wsX6_best) B.pre
  have hown : s.vm.findClass RX6 = some m.cls := findClass_of_methodNamed B.named
  have hlocks := B.notSynchronized
  subst hsz
  have hD := hD0.self (sz := s.heap.size)
  generalize hAe : va_A [(aN, .inr (5, [.ref aD, .ref aP, .ref aR, .ref aW])), (aD, .inr (0, [.ref aD_kinds, .ref aD_washes, .ref aD_fuels, .ref aD_isBroken, .int D_units, .ref aD_lengths, .ref aD_wanted, .int D_leaving, .ref aD_trackOf, .int D_parked, .int D_changes])), (aW, .inr (4, [.ref aD, .ref aW_numbers, .ref aW_trial, .ref aW_bestOrder, .ref aW_readyByNumber, .ref aW_readyByBest, .int W_soonestEnd, .int W_knownUnits])), (aD_washes, .inl (cI, 5, .inl D_washes)), (aD_fuels, .inl (cI, 5, .inl D_fuels)), (aW_numbers, .inl (cI, 5, .inl W_numbers)), (aW_trial, .inl (cI, 5, .inl W_trial)), (aW_bestOrder, .inl (cI, 5, .inl W_bestOrder)), (aW_readyByNumber, .inl (cI, 5, .inl W_readyByNumber)), (aW_readyByBest, .inl (cI, 5, .inl W_readyByBest))] s.heap.size = A at hD ⊢
  have hA : ∀ q : Nat, s.heap.size ≤ q → A q := fun q h => by rw [← hAe]; exact Or.inr h
  have hS : va_S A s.heap s.heap [] := va_S.rf
  refine (fun (hall : ∀ Q0 : State → Prop, (∀ (r : Int32) (v0 : Nat → Int32) (v1 : Nat → Int32) (v2 : Nat → Int32) (v3 : Nat → Int32) (v4 : Int32) (v5 : Int32) (H : Heap) (locs : List Loc) (pc : Nat) (ls : Array Slot), post r v0 v1 v2 v3 v4 v5 → decode cX6_best pc = .ok (.ireturn, 1) → va_P D vwCl [(aN, .inr (5, [.ref aD, .ref aP, .ref aR, .ref aW])), (aD, .inr (0, [.ref aD_kinds, .ref aD_washes, .ref aD_fuels, .ref aD_isBroken, .int D_units, .ref aD_lengths, .ref aD_wanted, .int D_leaving, .ref aD_trackOf, .int D_parked, .int D_changes])), (aW, .inr (4, [.ref aD, .ref aW_numbers, .ref aW_trial, .ref aW_bestOrder, .ref aW_readyByNumber, .ref aW_readyByBest, .int v4, .int v5])), (aD_washes, .inl (cI, 5, .inl D_washes)), (aD_fuels, .inl (cI, 5, .inl D_fuels)), (aW_numbers, .inl (cI, 5, .inl W_numbers)), (aW_trial, .inl (cI, 5, .inl v0)), (aW_bestOrder, .inl (cI, 5, .inl v1)), (aW_readyByNumber, .inl (cI, 5, .inl v2)), (aW_readyByBest, .inl (cI, 5, .inl v3))] H → va_D A [(aN, .inr (5, [.ref aD, .ref aP, .ref aR, .ref aW])), (aD, .inr (0, [.ref aD_kinds, .ref aD_washes, .ref aD_fuels, .ref aD_isBroken, .int D_units, .ref aD_lengths, .ref aD_wanted, .int D_leaving, .ref aD_trackOf, .int D_parked, .int D_changes])), (aW, .inr (4, [.ref aD, .ref aW_numbers, .ref aW_trial, .ref aW_bestOrder, .ref aW_readyByNumber, .ref aW_readyByBest, .int v4, .int v5])), (aD_washes, .inl (cI, 5, .inl D_washes)), (aD_fuels, .inl (cI, 5, .inl D_fuels)), (aW_numbers, .inl (cI, 5, .inl W_numbers)), (aW_trial, .inl (cI, 5, .inl v0)), (aW_bestOrder, .inl (cI, 5, .inl v1)), (aW_readyByNumber, .inl (cI, 5, .inl v2)), (aW_readyByBest, .inl (cI, 5, .inl v3))] → va_S A s.heap H locs → W p l e ({ frames := 10, cells := 0, slots := 0, locals := 296 } : Room) s m ([.ref aN, .int x1, .int x2] : List Value).toArray below meth c H locs 0 0 Q0 (F0 m pc ls [.int r])) → W p l e ({ frames := 10, cells := 0, slots := 0, locals := 296 } : Room) s m ([.ref aN, .int x1, .int x2] : List Value).toArray below meth c s.heap [] 0 0 Q0 (entryFrame m ([.ref aN, .int x1, .int x2] : List Value).toArray 4)) => hall _ (fun r v0 v1 v2 v3 v4 v5 H locs pc ls hw hd hP hD hS => W.iret (v := r) hx hb hr (fun t ht hW => ⟨⟨r, (v0, v1, v2, v3, v4, v5), rfl, hw, by rw [ht]; exact hP, va_K.moved hW.alike hK, hD⟩, hS.F ht⟩) hS.2.2 hd)) ?_
  intro Q0 hret
  have hl := lv_entry ([.ref aN, .int x1, .int x2]) (n := 4) (Nat.le_of_ble_eq_true rfl)
  rw [lg_entry_eq]
  generalize (lg_sl ([.ref aN, .int x1, .int x2]) ++ List.replicate (4 - (lg_sl ([.ref aN, .int x1, .int x2])).length) Slot.unset).toArray = ls at hl ⊢
  have hl : lv_has ls 4 [(0, .ref aN), (1, .int x1), (2, .int x2)] := hl
  have hinX0 : ∀ w ∈ u_ws RX0 TX0 11, w ∈ wsX6_best := by decide +kernel
  have hinX5 : ∀ w ∈ u_ws RX5 TX5 8, w ∈ wsX6_best := by decide +kernel
  have hinX6 : ∀ w ∈ u_ws RX6 TX6 4, w ∈ wsX6_best := by decide +kernel
  have hf10 := hts (.fieldLink RX6 10 "DepotNight" "depot" "LDepotNight$Depot;") (by decide +kernel)
  have hf35 := hts (.fieldLink RX6 35 "DepotNight" "washing" "LDepotNight$Washing;") (by decide +kernel)
  have hf46 := hts (.fieldLink RX6 46 "DepotNight$Depot" "units" "I") (by decide +kernel)
  have hf133 := hts (.fieldLink RX6 133 "DepotNight$Washing" "bestOrder" "[I") (by decide +kernel)
  have hf136 := hts (.fieldLink RX6 136 "DepotNight$Washing" "readyByBest" "[I") (by decide +kernel)
  obtain ⟨H, hHe⟩ : ∃ H, H = s.heap := ⟨_, rfl⟩
  obtain ⟨locs, hLo⟩ : ∃ locs : List Loc, locs = [] := ⟨_, rfl⟩
  have hS : va_S A s.heap H locs := by rw [hHe, hLo]; exact hS
  have hP : va_P D vwCl [(aN, .inr (5, [.ref aD, .ref aP, .ref aR, .ref aW])), (aD, .inr (0, [.ref aD_kinds, .ref aD_washes, .ref aD_fuels, .ref aD_isBroken, .int D_units, .ref aD_lengths, .ref aD_wanted, .int D_leaving, .ref aD_trackOf, .int D_parked, .int D_changes])), (aW, .inr (4, [.ref aD, .ref aW_numbers, .ref aW_trial, .ref aW_bestOrder, .ref aW_readyByNumber, .ref aW_readyByBest, .int W_soonestEnd, .int W_knownUnits])), (aD_washes, .inl (cI, 5, .inl D_washes)), (aD_fuels, .inl (cI, 5, .inl D_fuels)), (aW_numbers, .inl (cI, 5, .inl W_numbers)), (aW_trial, .inl (cI, 5, .inl W_trial)), (aW_bestOrder, .inl (cI, 5, .inl W_bestOrder)), (aW_readyByNumber, .inl (cI, 5, .inl W_readyByNumber)), (aW_readyByBest, .inl (cI, 5, .inl W_readyByBest))] H := by rw [hHe]; exact hP
  refine (fun (hgo : W p l e ({ frames := 10, cells := 0, slots := 0, locals := 296 } : Room) s m ([.ref aN, .int x1, .int x2] : List Value).toArray below meth c H locs 0 0 Q0 (F0 m 0 ls [])) => by rw [hHe, hLo] at hgo; exact hgo) ?_
  refine lv_iload_n hx hb dX6_best_0 rfl (lv_at hl 1 rfl) ?_
  refine lv_if_lt (tgt := 24) hx hb dX6_best_1 (by decide) (fun hc1 => ?_) (fun hc1 => ?_)
  · have hw := hw.1 hc1
    refine lv_bipush (v := (-3)) hx hb dX6_best_24 (by decide) ?_
    exact hret (-3) W_trial W_bestOrder W_readyByNumber W_readyByBest W_soonestEnd W_knownUnits H locs 26 ls hw dX6_best_26 hP hD hS 
  · have hw := hw.2 hc1
    refine lv_iload_n hx hb dX6_best_4 rfl (lv_at hl 1 rfl) ?_
    refine lv_aload_n hx hb dX6_best_5 rfl (lv_at hl 0 rfl) ?_
    refine va_get (D := D) (ci := 5) (v := .ref aD) (C := RX6) (T := TX6) (N := 4) hx hb hts hinX6 hown hK hP 0 rfl rfl 0 (by decide) hf10 (fun _ h9 => h9) rfl dX6_best_6 ?_
    refine va_get (D := D) (ci := 0) (v := .int D_units) (C := RX0) (T := TX0) (N := 11) hx hb hts hinX0 hown hK hP 1 rfl rfl 4 (by decide) hf46 (fun _ h9 => h9) rfl dX6_best_9 ?_
    refine lv_icmp_ge (tgt := 24) hx hb dX6_best_12 (by decide) (fun hc2 => ?_) (fun hc2 => ?_)
    · have hw := hw.1 hc2
      refine lv_bipush (v := (-3)) hx hb dX6_best_24 (by decide) ?_
      exact hret (-3) W_trial W_bestOrder W_readyByNumber W_readyByBest W_soonestEnd W_knownUnits H locs 26 ls hw dX6_best_26 hP hD hS 
    · have hw := hw.2 hc2
      refine lv_iload_n hx hb dX6_best_15 rfl (lv_at hl 2 rfl) ?_
      refine lv_if_lt (tgt := 24) hx hb dX6_best_16 (by decide) (fun hc3 => ?_) (fun hc3 => ?_)
      · have hw := hw.1 hc3
        refine lv_bipush (v := (-3)) hx hb dX6_best_24 (by decide) ?_
        exact hret (-3) W_trial W_bestOrder W_readyByNumber W_readyByBest W_soonestEnd W_knownUnits H locs 26 ls hw dX6_best_26 hP hD hS 
      · have hw := hw.2 hc3
        refine lv_iload_n hx hb dX6_best_19 rfl (lv_at hl 2 rfl) ?_
        refine lv_iconst (v := 1) hx hb dX6_best_20 (by decide) ?_
        refine lv_icmp_le (tgt := 27) hx hb dX6_best_21 (by decide) (fun hc4 => ?_) (fun hc4 => ?_)
        · have hw := hw.1 hc4
          refine lv_aload_n hx hb dX6_best_27 rfl (lv_at hl 0 rfl) ?_
          refine va_get (D := D) (ci := 5) (v := .ref aW) (C := RX6) (T := TX6) (N := 4) hx hb hts hinX6 hown hK hP 0 rfl rfl 3 (by decide) hf35 (fun _ h9 => h9) rfl dX6_best_28 ?_
          refine zVv (As := []) (rest := []) (wc := [(aD, .inr (0, [.ref aD_kinds, .ref aD_washes, .ref aD_fuels, .ref aD_isBroken, .int D_units, .ref aD_lengths, .ref aD_wanted, .int D_leaving, .ref aD_trackOf, .int D_parked, .int D_changes])), (aW, .inr (4, [.ref aD, .ref aW_numbers, .ref aW_trial, .ref aW_bestOrder, .ref aW_readyByNumber, .ref aW_readyByBest, .int W_soonestEnd, .int W_knownUnits])), (aD_washes, .inl (cI, 5, .inl D_washes)), (aD_fuels, .inl (cI, 5, .inl D_fuels)), (aW_numbers, .inl (cI, 5, .inl W_numbers)), (aW_trial, .inl (cI, 5, .inl W_trial)), (aW_bestOrder, .inl (cI, 5, .inl W_bestOrder)), (aW_readyByNumber, .inl (cI, 5, .inl W_readyByNumber)), (aW_readyByBest, .inl (cI, 5, .inl W_readyByBest))]) (wr := [(aN, .inr (5, [.ref aD, .ref aP, .ref aR, .ref aW]))]) ⟨hx, hb, hml, hown, hts⟩ hK hP hD hS hA [1, 2, 3, 4, 5, 6, 7, 8, 9] [0] rfl rfl (by decide) (by decide) (by decide) (c_X5_refresh l D cI cJ cZ aD aD_kinds aD_washes aD_fuels aD_isBroken aD_lengths aD_wanted aD_trackOf aW aW_numbers aW_trial aW_bestOrder aW_readyByNumber aW_readyByBest H.size D_units D_leaving D_parked D_changes W_soonestEnd W_knownUnits D_washes D_fuels W_numbers W_trial W_bestOrder W_readyByNumber W_readyByBest _ hw) (cwV 0 hts gX6_best_X5_refresh rfl rfl rfl (by decide +kernel) ⟨Nat.le_of_ble_eq_true rfl, Nat.le_of_ble_eq_true rfl⟩) 2 4 rfl rfl rfl rfl hl.1 (Nat.le_of_ble_eq_true rfl) dX6_best_31 ⟨(Nat.le_of_ble_eq_true rfl), (Nat.le_of_ble_eq_true rfl)⟩ rfl (fun u H locs hw hP hD hS => ?_)
          obtain ⟨W_trial_5, W_bestOrder_6, W_readyByNumber_7, W_readyByBest_8, W_soonestEnd_9, W_knownUnits_10⟩ := u
          try dsimp only at hw
          have hP : va_P D vwCl [(aN, .inr (5, [.ref aD, .ref aP, .ref aR, .ref aW])), (aD, .inr (0, [.ref aD_kinds, .ref aD_washes, .ref aD_fuels, .ref aD_isBroken, .int D_units, .ref aD_lengths, .ref aD_wanted, .int D_leaving, .ref aD_trackOf, .int D_parked, .int D_changes])), (aW, .inr (4, [.ref aD, .ref aW_numbers, .ref aW_trial, .ref aW_bestOrder, .ref aW_readyByNumber, .ref aW_readyByBest, .int W_soonestEnd_9, .int W_knownUnits_10])), (aD_washes, .inl (cI, 5, .inl D_washes)), (aD_fuels, .inl (cI, 5, .inl D_fuels)), (aW_numbers, .inl (cI, 5, .inl W_numbers)), (aW_trial, .inl (cI, 5, .inl W_trial_5)), (aW_bestOrder, .inl (cI, 5, .inl W_bestOrder_6)), (aW_readyByNumber, .inl (cI, 5, .inl W_readyByNumber_7)), (aW_readyByBest, .inl (cI, 5, .inl W_readyByBest_8))] H := hP.sub [0, 1, 2, 3, 4, 5, 6, 7, 8, 9] rfl
          have hD : va_D A [(aN, .inr (5, [.ref aD, .ref aP, .ref aR, .ref aW])), (aD, .inr (0, [.ref aD_kinds, .ref aD_washes, .ref aD_fuels, .ref aD_isBroken, .int D_units, .ref aD_lengths, .ref aD_wanted, .int D_leaving, .ref aD_trackOf, .int D_parked, .int D_changes])), (aW, .inr (4, [.ref aD, .ref aW_numbers, .ref aW_trial, .ref aW_bestOrder, .ref aW_readyByNumber, .ref aW_readyByBest, .int W_soonestEnd_9, .int W_knownUnits_10])), (aD_washes, .inl (cI, 5, .inl D_washes)), (aD_fuels, .inl (cI, 5, .inl D_fuels)), (aW_numbers, .inl (cI, 5, .inl W_numbers)), (aW_trial, .inl (cI, 5, .inl W_trial_5)), (aW_bestOrder, .inl (cI, 5, .inl W_bestOrder_6)), (aW_readyByNumber, .inl (cI, 5, .inl W_readyByNumber_7)), (aW_readyByBest, .inl (cI, 5, .inl W_readyByBest_8))] := hD.sub [0, 1, 2, 3, 4, 5, 6, 7, 8, 9] (by decide) rfl
          refine lv_aload_n hx hb dX6_best_34 rfl (lv_at hl 0 rfl) ?_
          refine va_get (D := D) (ci := 5) (v := .ref aW) (C := RX6) (T := TX6) (N := 4) hx hb hts hinX6 hown hK hP 0 rfl rfl 3 (by decide) hf35 (fun _ h9 => h9) rfl dX6_best_35 ?_
          refine va_get (D := D) (ci := 4) (v := .ref aW_bestOrder) (C := RX5) (T := TX5) (N := 8) hx hb hts hinX5 hown hK hP 2 rfl rfl 3 (by decide) hf133 (fun _ h9 => h9) rfl dX6_best_38 ?_
          refine lv_iload_n hx hb dX6_best_41 rfl (lv_at hl 1 rfl) ?_
          obtain ⟨hb11, hw⟩ := hw
          refine va_iald hx hb hK hP 7 0 rfl rfl hb11 dX6_best_42 ?_
          refine lv_topi (fun y12 ey12 => ?_)
          have hw := hw y12 ey12
          refine lv_istore_n (lv' := [(3, .int y12), (0, .ref aN), (1, .int x1), (2, .int x2)]) hx hb dX6_best_43 rfl hl (by decide) rfl (fun ls hl => ?_)
          refine lv_iload_n hx hb dX6_best_44 rfl (lv_at hl 3 rfl) ?_
          refine lv_if_ne (tgt := 52) hx hb dX6_best_45 (by decide) (fun hc13 => ?_) (fun hc13 => ?_)
          · have hw := hw.1 hc13
            refine lv_aload_n hx hb dX6_best_52 rfl (lv_at hl 1 rfl) ?_
            refine va_get (D := D) (ci := 5) (v := .ref aW) (C := RX6) (T := TX6) (N := 4) hx hb hts hinX6 hown hK hP 0 rfl rfl 3 (by decide) hf35 (fun _ h9 => h9) rfl dX6_best_53 ?_
            refine va_get (D := D) (ci := 4) (v := .ref aW_readyByBest) (C := RX5) (T := TX5) (N := 8) hx hb hts hinX5 hown hK hP 2 rfl rfl 5 (by decide) hf136 (fun _ h9 => h9) rfl dX6_best_56 ?_
            refine lv_iload_n hx hb dX6_best_59 rfl (lv_at hl 0 rfl) ?_
            obtain ⟨hb14, hw⟩ := hw
            refine va_iald hx hb hK hP 9 0 rfl rfl hb14 dX6_best_60 ?_
            exact hret (W_readyByBest_8 y12.toNatClampNeg) W_trial_5 W_bestOrder_6 W_readyByNumber_7 W_readyByBest_8 W_soonestEnd_9 W_knownUnits_10 H locs 61 ls hw dX6_best_61 hP hD hS 
          · have hw := hw.2 hc13
            refine lv_iload_n hx hb dX6_best_48 rfl (lv_at hl 0 rfl) ?_
            refine lv_goto (tgt := 61) hx hb dX6_best_49 (by decide) ?_
            exact hret y12 W_trial_5 W_bestOrder_6 W_readyByNumber_7 W_readyByBest_8 W_soonestEnd_9 W_knownUnits_10 H locs 61 ls hw dX6_best_61 hP hD hS 
        · have hw := hw.2 hc4
          refine lv_bipush (v := (-3)) hx hb dX6_best_24 (by decide) ?_
          exact hret (-3) W_trial W_bestOrder W_readyByNumber W_readyByBest W_soonestEnd W_knownUnits H locs 26 ls hw dX6_best_26 hP hD hS 
/-! X6_count -/
def wp_X6_count (D_isBroken : Nat → Int32) (D_units : Int32) (D_leaving : Int32) (D_parked : Int32) (x1 : Int32) (post : Int32 → Prop) : Prop :=
  ((x1 = 0 → post D_units ) ∧ (x1 = 1 → post D_leaving ) ∧ (x1 = 2 → post D_parked ) ∧ (x1 = 3 → wp_X0_brokenUnits D_isBroken D_units (fun (r1 : Int32) => post r1 )) ∧ (¬ x1 = 0 → ¬ x1 = 1 → ¬ x1 = 2 → ¬ x1 = 3 → post (-3) ))
set_option maxHeartbeats 4000000 in
set_option maxRecDepth 100000 in
theorem c_X6_count (l : Launch) (D : va_G) (cI cJ cZ : ClassId) (aN aD aP aR aW aD_kinds aD_washes aD_fuels aD_isBroken aD_lengths aD_wanted aD_trackOf : Nat) (sz : Nat) (D_units : Int32) (D_leaving : Int32) (D_parked : Int32) (D_changes : Int32) (D_isBroken : Nat → Int32) (x1 : Int32) (post : Int32 → Prop) (hw : wp_X6_count D_isBroken D_units D_leaving D_parked x1 post) : Met l yX6_count wsX6_count ({ frames := 1, cells := 0, slots := 0, locals := 22 } : Room) (va_Pc [.ref aN, .int x1] (zPre D cI cJ cZ [(aN, .inr (5, [.ref aD, .ref aP, .ref aR, .ref aW])), (aD, .inr (0, [.ref aD_kinds, .ref aD_washes, .ref aD_fuels, .ref aD_isBroken, .int D_units, .ref aD_lengths, .ref aD_wanted, .int D_leaving, .ref aD_trackOf, .int D_parked, .int D_changes])), (aD_isBroken, .inl (cZ, 5, .inl D_isBroken))] sz)) (va_Qi (fun (r : Int32) (u : Unit) => post r) (zPost D cI cJ cZ (va_A [(aN, .inr (5, [.ref aD, .ref aP, .ref aR, .ref aW])), (aD, .inr (0, [.ref aD_kinds, .ref aD_washes, .ref aD_fuels, .ref aD_isBroken, .int D_units, .ref aD_lengths, .ref aD_wanted, .int D_leaving, .ref aD_trackOf, .int D_parked, .int D_changes])), (aD_isBroken, .inl (cZ, 5, .inl D_isBroken))] sz) (fun u : Unit => [(aN, .inr (5, [.ref aD, .ref aP, .ref aR, .ref aW])), (aD, .inr (0, [.ref aD_kinds, .ref aD_washes, .ref aD_fuels, .ref aD_isBroken, .int D_units, .ref aD_lengths, .ref aD_wanted, .int D_leaving, .ref aD_trackOf, .int D_parked, .int D_changes])), (aD_isBroken, .inl (cZ, 5, .inl D_isBroken))])) (va_A [(aN, .inr (5, [.ref aD, .ref aP, .ref aR, .ref aW])), (aD, .inr (0, [.ref aD_kinds, .ref aD_washes, .ref aD_fuels, .ref aD_isBroken, .int D_units, .ref aD_lengths, .ref aD_wanted, .int D_leaving, .ref aD_trackOf, .int D_parked, .int D_changes])), (aD_isBroken, .inl (cZ, 5, .inl D_isBroken))] sz)) 0 0 (va_A [(aN, .inr (5, [.ref aD, .ref aP, .ref aR, .ref aW])), (aD, .inr (0, [.ref aD_kinds, .ref aD_washes, .ref aD_fuels, .ref aD_isBroken, .int D_units, .ref aD_lengths, .ref aD_wanted, .int D_leaving, .ref aD_trackOf, .int D_parked, .int D_changes])), (aD_isBroken, .inl (cZ, 5, .inl D_isBroken))] sz) := by
  unfold wp_X6_count at hw
  refine Met.ofW (cc := cX6_count) (maxL := 2) (ret := some .int) (by decide) rfl ?_
  intro p e s m args below meth c s₁ B hml hv
  obtain ⟨rfl, hsz, hP, hK, hD0⟩ := hv
  have hx := B.exec
  have hb := B.bytes
  have hr := B.returns
  have hts := atoms_spec (ws := wsX6_count) B.pre
  have hown : s.vm.findClass RX6 = some m.cls := findClass_of_methodNamed B.named
  have hlocks := B.notSynchronized
  subst hsz
  have hD := hD0.self (sz := s.heap.size)
  generalize hAe : va_A [(aN, .inr (5, [.ref aD, .ref aP, .ref aR, .ref aW])), (aD, .inr (0, [.ref aD_kinds, .ref aD_washes, .ref aD_fuels, .ref aD_isBroken, .int D_units, .ref aD_lengths, .ref aD_wanted, .int D_leaving, .ref aD_trackOf, .int D_parked, .int D_changes])), (aD_isBroken, .inl (cZ, 5, .inl D_isBroken))] s.heap.size = A at hD ⊢
  have hA : ∀ q : Nat, s.heap.size ≤ q → A q := fun q h => by rw [← hAe]; exact Or.inr h
  have hS : va_S A s.heap s.heap [] := va_S.rf
  refine (fun (hall : ∀ Q0 : State → Prop, (∀ (r : Int32)  (H : Heap) (locs : List Loc) (pc : Nat) (ls : Array Slot), post r → decode cX6_count pc = .ok (.ireturn, 1) → va_P D vwCl [(aN, .inr (5, [.ref aD, .ref aP, .ref aR, .ref aW])), (aD, .inr (0, [.ref aD_kinds, .ref aD_washes, .ref aD_fuels, .ref aD_isBroken, .int D_units, .ref aD_lengths, .ref aD_wanted, .int D_leaving, .ref aD_trackOf, .int D_parked, .int D_changes])), (aD_isBroken, .inl (cZ, 5, .inl D_isBroken))] H → va_D A [(aN, .inr (5, [.ref aD, .ref aP, .ref aR, .ref aW])), (aD, .inr (0, [.ref aD_kinds, .ref aD_washes, .ref aD_fuels, .ref aD_isBroken, .int D_units, .ref aD_lengths, .ref aD_wanted, .int D_leaving, .ref aD_trackOf, .int D_parked, .int D_changes])), (aD_isBroken, .inl (cZ, 5, .inl D_isBroken))] → va_S A s.heap H locs → W p l e ({ frames := 1, cells := 0, slots := 0, locals := 22 } : Room) s m ([.ref aN, .int x1] : List Value).toArray below meth c H locs 0 0 Q0 (F0 m pc ls [.int r])) → W p l e ({ frames := 1, cells := 0, slots := 0, locals := 22 } : Room) s m ([.ref aN, .int x1] : List Value).toArray below meth c s.heap [] 0 0 Q0 (entryFrame m ([.ref aN, .int x1] : List Value).toArray 2)) => hall _ (fun r  H locs pc ls hw hd hP hD hS => W.iret (v := r) hx hb hr (fun t ht hW => ⟨⟨r, (), rfl, hw, by rw [ht]; exact hP, va_K.moved hW.alike hK, hD⟩, hS.F ht⟩) hS.2.2 hd)) ?_
  intro Q0 hret
  have hl := lv_entry ([.ref aN, .int x1]) (n := 2) (Nat.le_of_ble_eq_true rfl)
  rw [lg_entry_eq]
  generalize (lg_sl ([.ref aN, .int x1]) ++ List.replicate (2 - (lg_sl ([.ref aN, .int x1])).length) Slot.unset).toArray = ls at hl ⊢
  have hl : lv_has ls 2 [(0, .ref aN), (1, .int x1)] := hl
  have hinX0 : ∀ w ∈ u_ws RX0 TX0 11, w ∈ wsX6_count := by decide +kernel
  have hinX6 : ∀ w ∈ u_ws RX6 TX6 4, w ∈ wsX6_count := by decide +kernel
  have hf10 := hts (.fieldLink RX6 10 "DepotNight" "depot" "LDepotNight$Depot;") (by decide +kernel)
  have hf46 := hts (.fieldLink RX6 46 "DepotNight$Depot" "units" "I") (by decide +kernel)
  have hf68 := hts (.fieldLink RX6 68 "DepotNight$Depot" "leaving" "I") (by decide +kernel)
  have hf97 := hts (.fieldLink RX6 97 "DepotNight$Depot" "parked" "I") (by decide +kernel)
  obtain ⟨H, hHe⟩ : ∃ H, H = s.heap := ⟨_, rfl⟩
  obtain ⟨locs, hLo⟩ : ∃ locs : List Loc, locs = [] := ⟨_, rfl⟩
  have hS : va_S A s.heap H locs := by rw [hHe, hLo]; exact hS
  have hP : va_P D vwCl [(aN, .inr (5, [.ref aD, .ref aP, .ref aR, .ref aW])), (aD, .inr (0, [.ref aD_kinds, .ref aD_washes, .ref aD_fuels, .ref aD_isBroken, .int D_units, .ref aD_lengths, .ref aD_wanted, .int D_leaving, .ref aD_trackOf, .int D_parked, .int D_changes])), (aD_isBroken, .inl (cZ, 5, .inl D_isBroken))] H := by rw [hHe]; exact hP
  refine (fun (hgo : W p l e ({ frames := 1, cells := 0, slots := 0, locals := 22 } : Room) s m ([.ref aN, .int x1] : List Value).toArray below meth c H locs 0 0 Q0 (F0 m 0 ls [])) => by rw [hHe, hLo] at hgo; exact hgo) ?_
  refine lv_iload_n hx hb dX6_count_0 rfl (lv_at hl 1 rfl) ?_
  by_cases hq0 : x1 = 0
  · have hw := hw.1 hq0
    refine lv_tableIn (off := 31) (tgt := 32) hx hb dX6_count_1 (by rw [hq0]; decide) (by rw [hq0]; decide) (by rw [hq0]; rfl) (by decide) ?_
    refine lv_aload_n hx hb dX6_count_32 rfl (lv_at hl 0 rfl) ?_
    refine va_get (D := D) (ci := 5) (v := .ref aD) (C := RX6) (T := TX6) (N := 4) hx hb hts hinX6 hown hK hP 0 rfl rfl 0 (by decide) hf10 (fun _ h9 => h9) rfl dX6_count_33 ?_
    refine va_get (D := D) (ci := 0) (v := .int D_units) (C := RX0) (T := TX0) (N := 11) hx hb hts hinX0 hown hK hP 1 rfl rfl 4 (by decide) hf46 (fun _ h9 => h9) rfl dX6_count_36 ?_
    exact hret D_units  H locs 39 ls hw dX6_count_39 hP hD hS 
  by_cases hq1 : x1 = 1
  · have hw := hw.2.1 hq1
    refine lv_tableIn (off := 39) (tgt := 40) hx hb dX6_count_1 (by rw [hq1]; decide) (by rw [hq1]; decide) (by rw [hq1]; rfl) (by decide) ?_
    refine lv_aload_n hx hb dX6_count_40 rfl (lv_at hl 0 rfl) ?_
    refine va_get (D := D) (ci := 5) (v := .ref aD) (C := RX6) (T := TX6) (N := 4) hx hb hts hinX6 hown hK hP 0 rfl rfl 0 (by decide) hf10 (fun _ h9 => h9) rfl dX6_count_41 ?_
    refine va_get (D := D) (ci := 0) (v := .int D_leaving) (C := RX0) (T := TX0) (N := 11) hx hb hts hinX0 hown hK hP 1 rfl rfl 7 (by decide) hf68 (fun _ h9 => h9) rfl dX6_count_44 ?_
    exact hret D_leaving  H locs 47 ls hw dX6_count_47 hP hD hS 
  by_cases hq2 : x1 = 2
  · have hw := hw.2.2.1 hq2
    refine lv_tableIn (off := 47) (tgt := 48) hx hb dX6_count_1 (by rw [hq2]; decide) (by rw [hq2]; decide) (by rw [hq2]; rfl) (by decide) ?_
    refine lv_aload_n hx hb dX6_count_48 rfl (lv_at hl 0 rfl) ?_
    refine va_get (D := D) (ci := 5) (v := .ref aD) (C := RX6) (T := TX6) (N := 4) hx hb hts hinX6 hown hK hP 0 rfl rfl 0 (by decide) hf10 (fun _ h9 => h9) rfl dX6_count_49 ?_
    refine va_get (D := D) (ci := 0) (v := .int D_parked) (C := RX0) (T := TX0) (N := 11) hx hb hts hinX0 hown hK hP 1 rfl rfl 9 (by decide) hf97 (fun _ h9 => h9) rfl dX6_count_52 ?_
    exact hret D_parked  H locs 55 ls hw dX6_count_55 hP hD hS 
  by_cases hq3 : x1 = 3
  · have hw := hw.2.2.2.1 hq3
    refine lv_tableIn (off := 55) (tgt := 56) hx hb dX6_count_1 (by rw [hq3]; decide) (by rw [hq3]; decide) (by rw [hq3]; rfl) (by decide) ?_
    refine lv_aload_n hx hb dX6_count_56 rfl (lv_at hl 0 rfl) ?_
    refine va_get (D := D) (ci := 5) (v := .ref aD) (C := RX6) (T := TX6) (N := 4) hx hb hts hinX6 hown hK hP 0 rfl rfl 0 (by decide) hf10 (fun _ h9 => h9) rfl dX6_count_57 ?_
    refine zVi (As := []) (rest := []) (wc := [(aD, .inr (0, [.ref aD_kinds, .ref aD_washes, .ref aD_fuels, .ref aD_isBroken, .int D_units, .ref aD_lengths, .ref aD_wanted, .int D_leaving, .ref aD_trackOf, .int D_parked, .int D_changes])), (aD_isBroken, .inl (cZ, 5, .inl D_isBroken))]) (wr := [(aN, .inr (5, [.ref aD, .ref aP, .ref aR, .ref aW]))]) ⟨hx, hb, hml, hown, hts⟩ hK hP hD hS hA [1, 2] [0] rfl rfl (by decide) (by decide) (by decide) (c_X0_brokenUnits l D cI cJ cZ aD aD_kinds aD_washes aD_fuels aD_isBroken aD_lengths aD_wanted aD_trackOf H.size D_units D_leaving D_parked D_changes D_isBroken _ hw) (cwV 0 hts gX6_count_X0_brokenUnits rfl rfl rfl (by decide +kernel) ⟨Nat.le_of_ble_eq_true rfl, Nat.le_of_ble_eq_true rfl⟩) 1 0 rfl rfl rfl rfl hl.1 (Nat.le_of_ble_eq_true rfl) dX6_count_60 ⟨(Nat.le_of_ble_eq_true rfl), (Nat.le_of_ble_eq_true rfl)⟩ rfl (fun r1 u H locs hw hP hD hS => ?_)
    try dsimp only at hw
    have hP : va_P D vwCl [(aN, .inr (5, [.ref aD, .ref aP, .ref aR, .ref aW])), (aD, .inr (0, [.ref aD_kinds, .ref aD_washes, .ref aD_fuels, .ref aD_isBroken, .int D_units, .ref aD_lengths, .ref aD_wanted, .int D_leaving, .ref aD_trackOf, .int D_parked, .int D_changes])), (aD_isBroken, .inl (cZ, 5, .inl D_isBroken))] H := hP.sub [0, 1, 2] rfl
    have hD : va_D A [(aN, .inr (5, [.ref aD, .ref aP, .ref aR, .ref aW])), (aD, .inr (0, [.ref aD_kinds, .ref aD_washes, .ref aD_fuels, .ref aD_isBroken, .int D_units, .ref aD_lengths, .ref aD_wanted, .int D_leaving, .ref aD_trackOf, .int D_parked, .int D_changes])), (aD_isBroken, .inl (cZ, 5, .inl D_isBroken))] := hD.sub [0, 1, 2] (by decide) rfl
    exact hret r1  H locs 63 ls hw dX6_count_63 hP hD hS 
  have hw := hw.2.2.2.2 hq0 hq1 hq2 hq3
  refine lv_tableOut (tgt := 64) hx hb dX6_count_1 (z_tab4 hq0 hq1 hq2 hq3) (by decide) ?_
  refine lv_bipush (v := (-3)) hx hb dX6_count_64 (by decide) ?_
  exact hret (-3)  H locs 66 ls hw dX6_count_66 hP hD hS 
/-! X6_lateBits -/
def Y_X6_lateBits_5 (D_units : Int32) (D_leaving : Int32) (R_leavers : Nat → Int32) (R_leastShunts : Int32) (p0_arr : Nat → Int32) (x2 : Int32) (post : Int32 → Prop) (K5 : Int32 → Int32 → Prop) (x3 : Int32) (x4 : Int32) : Prop :=
  ((D_leaving ≤ x4 → post x3 ) ∧ (¬ D_leaving ≤ x4 → wp_X3_leaver D_leaving R_leavers R_leastShunts x4 (fun (r2 : Int32) => wp_X0_hasUnit D_units r2 (fun (r3 : Int32) => ((r3 = 0 → K5 x3 (x4 + 1)) ∧ (¬ r3 = 0 → vp_in r2 5 ∧ ((((p0_arr r2.toNatClampNeg) ≤ (x2 + ((10 : Int32) * x4)) → K5 x3 (x4 + 1)) ∧ (¬ (p0_arr r2.toNatClampNeg) ≤ (x2 + ((10 : Int32) * x4)) → ∀ y7 : Int32, y7 = (x3 ||| ((1 : Int32) <<< (r2 &&& 31))) → (K5 y7 (x4 + 1)))))))))))
def Z_X6_lateBits_5 (D_units : Int32) (D_leaving : Int32) (R_leavers : Nat → Int32) (R_leastShunts : Int32) (p0_arr : Nat → Int32) (x2 : Int32) (post : Int32 → Prop) : Nat → Int32 → Int32 → Prop
  | 0 => fun _ _ => False
  | n + 1 => Y_X6_lateBits_5 D_units D_leaving R_leavers R_leastShunts p0_arr x2 post (Z_X6_lateBits_5 D_units D_leaving R_leavers R_leastShunts p0_arr x2 post n)
def wp_X6_lateBits (D_units : Int32) (D_leaving : Int32) (R_leavers : Nat → Int32) (R_leastShunts : Int32) (p0_arr : Nat → Int32) (x2 : Int32) (post : Int32 → Prop) : Prop :=
  ∃ n, Z_X6_lateBits_5 D_units D_leaving R_leavers R_leastShunts p0_arr x2 post n 0 0
set_option maxHeartbeats 4000000 in
set_option maxRecDepth 100000 in
theorem c_X6_lateBits (l : Launch) (D : va_G) (cI cJ cZ : ClassId) (aN aD aP aR aW aD_kinds aD_washes aD_fuels aD_isBroken aD_lengths aD_wanted aD_trackOf aR_leavers aR_steps ap0 : Nat) (vRs : Value) (sz : Nat) (D_units : Int32) (D_leaving : Int32) (D_parked : Int32) (D_changes : Int32) (R_leastShunts : Int32) (R_knownAt : Int32) (R_leavers : Nat → Int32) (p0_arr : Nat → Int32) (x2 : Int32) (post : Int32 → Prop) (hw : wp_X6_lateBits D_units D_leaving R_leavers R_leastShunts p0_arr x2 post) : Met l yX6_lateBits wsX6_lateBits ({ frames := 1, cells := 0, slots := 0, locals := 21 } : Room) (va_Pc [.ref aN, .ref ap0, .int x2] (zPre D cI cJ cZ [(aN, .inr (5, [.ref aD, .ref aP, .ref aR, .ref aW])), (aD, .inr (0, [.ref aD_kinds, .ref aD_washes, .ref aD_fuels, .ref aD_isBroken, .int D_units, .ref aD_lengths, .ref aD_wanted, .int D_leaving, .ref aD_trackOf, .int D_parked, .int D_changes])), (aR, .inr (2, [.ref aD, .ref aR_leavers, .ref aR_steps, .int R_leastShunts, .int R_knownAt, vRs])), (aR_leavers, .inl (cI, 5, .inl R_leavers)), (ap0, .inl (cI, 5, .inl p0_arr))] sz)) (va_Qi (fun (r : Int32) (u : Unit) => post r) (zPost D cI cJ cZ (va_A [(aN, .inr (5, [.ref aD, .ref aP, .ref aR, .ref aW])), (aD, .inr (0, [.ref aD_kinds, .ref aD_washes, .ref aD_fuels, .ref aD_isBroken, .int D_units, .ref aD_lengths, .ref aD_wanted, .int D_leaving, .ref aD_trackOf, .int D_parked, .int D_changes])), (aR, .inr (2, [.ref aD, .ref aR_leavers, .ref aR_steps, .int R_leastShunts, .int R_knownAt, vRs])), (aR_leavers, .inl (cI, 5, .inl R_leavers)), (ap0, .inl (cI, 5, .inl p0_arr))] sz) (fun u : Unit => [(aN, .inr (5, [.ref aD, .ref aP, .ref aR, .ref aW])), (aD, .inr (0, [.ref aD_kinds, .ref aD_washes, .ref aD_fuels, .ref aD_isBroken, .int D_units, .ref aD_lengths, .ref aD_wanted, .int D_leaving, .ref aD_trackOf, .int D_parked, .int D_changes])), (aR, .inr (2, [.ref aD, .ref aR_leavers, .ref aR_steps, .int R_leastShunts, .int R_knownAt, vRs])), (aR_leavers, .inl (cI, 5, .inl R_leavers)), (ap0, .inl (cI, 5, .inl p0_arr))])) (va_A [(aN, .inr (5, [.ref aD, .ref aP, .ref aR, .ref aW])), (aD, .inr (0, [.ref aD_kinds, .ref aD_washes, .ref aD_fuels, .ref aD_isBroken, .int D_units, .ref aD_lengths, .ref aD_wanted, .int D_leaving, .ref aD_trackOf, .int D_parked, .int D_changes])), (aR, .inr (2, [.ref aD, .ref aR_leavers, .ref aR_steps, .int R_leastShunts, .int R_knownAt, vRs])), (aR_leavers, .inl (cI, 5, .inl R_leavers)), (ap0, .inl (cI, 5, .inl p0_arr))] sz)) 0 0 (va_A [(aN, .inr (5, [.ref aD, .ref aP, .ref aR, .ref aW])), (aD, .inr (0, [.ref aD_kinds, .ref aD_washes, .ref aD_fuels, .ref aD_isBroken, .int D_units, .ref aD_lengths, .ref aD_wanted, .int D_leaving, .ref aD_trackOf, .int D_parked, .int D_changes])), (aR, .inr (2, [.ref aD, .ref aR_leavers, .ref aR_steps, .int R_leastShunts, .int R_knownAt, vRs])), (aR_leavers, .inl (cI, 5, .inl R_leavers)), (ap0, .inl (cI, 5, .inl p0_arr))] sz) := by
  unfold wp_X6_lateBits at hw
  refine Met.ofW (cc := cX6_lateBits) (maxL := 6) (ret := some .int) (by decide) rfl ?_
  intro p e s m args below meth c s₁ B hml hv
  obtain ⟨rfl, hsz, hP, hK, hD0⟩ := hv
  have hx := B.exec
  have hb := B.bytes
  have hr := B.returns
  have hts := atoms_spec (ws := wsX6_lateBits) B.pre
  have hown : s.vm.findClass RX6 = some m.cls := findClass_of_methodNamed B.named
  have hlocks := B.notSynchronized
  subst hsz
  have hD := hD0.self (sz := s.heap.size)
  generalize hAe : va_A [(aN, .inr (5, [.ref aD, .ref aP, .ref aR, .ref aW])), (aD, .inr (0, [.ref aD_kinds, .ref aD_washes, .ref aD_fuels, .ref aD_isBroken, .int D_units, .ref aD_lengths, .ref aD_wanted, .int D_leaving, .ref aD_trackOf, .int D_parked, .int D_changes])), (aR, .inr (2, [.ref aD, .ref aR_leavers, .ref aR_steps, .int R_leastShunts, .int R_knownAt, vRs])), (aR_leavers, .inl (cI, 5, .inl R_leavers)), (ap0, .inl (cI, 5, .inl p0_arr))] s.heap.size = A at hD ⊢
  have hA : ∀ q : Nat, s.heap.size ≤ q → A q := fun q h => by rw [← hAe]; exact Or.inr h
  have hS : va_S A s.heap s.heap [] := va_S.rf
  refine (fun (hall : ∀ Q0 : State → Prop, (∀ (r : Int32)  (H : Heap) (locs : List Loc) (pc : Nat) (ls : Array Slot), post r → decode cX6_lateBits pc = .ok (.ireturn, 1) → va_P D vwCl [(aN, .inr (5, [.ref aD, .ref aP, .ref aR, .ref aW])), (aD, .inr (0, [.ref aD_kinds, .ref aD_washes, .ref aD_fuels, .ref aD_isBroken, .int D_units, .ref aD_lengths, .ref aD_wanted, .int D_leaving, .ref aD_trackOf, .int D_parked, .int D_changes])), (aR, .inr (2, [.ref aD, .ref aR_leavers, .ref aR_steps, .int R_leastShunts, .int R_knownAt, vRs])), (aR_leavers, .inl (cI, 5, .inl R_leavers)), (ap0, .inl (cI, 5, .inl p0_arr))] H → va_D A [(aN, .inr (5, [.ref aD, .ref aP, .ref aR, .ref aW])), (aD, .inr (0, [.ref aD_kinds, .ref aD_washes, .ref aD_fuels, .ref aD_isBroken, .int D_units, .ref aD_lengths, .ref aD_wanted, .int D_leaving, .ref aD_trackOf, .int D_parked, .int D_changes])), (aR, .inr (2, [.ref aD, .ref aR_leavers, .ref aR_steps, .int R_leastShunts, .int R_knownAt, vRs])), (aR_leavers, .inl (cI, 5, .inl R_leavers)), (ap0, .inl (cI, 5, .inl p0_arr))] → va_S A s.heap H locs → W p l e ({ frames := 1, cells := 0, slots := 0, locals := 21 } : Room) s m ([.ref aN, .ref ap0, .int x2] : List Value).toArray below meth c H locs 0 0 Q0 (F0 m pc ls [.int r])) → W p l e ({ frames := 1, cells := 0, slots := 0, locals := 21 } : Room) s m ([.ref aN, .ref ap0, .int x2] : List Value).toArray below meth c s.heap [] 0 0 Q0 (entryFrame m ([.ref aN, .ref ap0, .int x2] : List Value).toArray 6)) => hall _ (fun r  H locs pc ls hw hd hP hD hS => W.iret (v := r) hx hb hr (fun t ht hW => ⟨⟨r, (), rfl, hw, by rw [ht]; exact hP, va_K.moved hW.alike hK, hD⟩, hS.F ht⟩) hS.2.2 hd)) ?_
  intro Q0 hret
  have hl := lv_entry ([.ref aN, .ref ap0, .int x2]) (n := 6) (Nat.le_of_ble_eq_true rfl)
  rw [lg_entry_eq]
  generalize (lg_sl ([.ref aN, .ref ap0, .int x2]) ++ List.replicate (6 - (lg_sl ([.ref aN, .ref ap0, .int x2])).length) Slot.unset).toArray = ls at hl ⊢
  have hl : lv_has ls 6 [(0, .ref aN), (1, .ref ap0), (2, .int x2)] := hl
  have hinX0 : ∀ w ∈ u_ws RX0 TX0 11, w ∈ wsX6_lateBits := by decide +kernel
  have hinX6 : ∀ w ∈ u_ws RX6 TX6 4, w ∈ wsX6_lateBits := by decide +kernel
  have hf10 := hts (.fieldLink RX6 10 "DepotNight" "depot" "LDepotNight$Depot;") (by decide +kernel)
  have hf28 := hts (.fieldLink RX6 28 "DepotNight" "runs" "LDepotNight$Runs;") (by decide +kernel)
  have hf68 := hts (.fieldLink RX6 68 "DepotNight$Depot" "leaving" "I") (by decide +kernel)
  have wZ_X6_lateBits_5 : ∀ (n : Nat) (x3 : Int32) (x4 : Int32), Z_X6_lateBits_5 D_units D_leaving R_leavers R_leastShunts p0_arr x2 post n x3 x4 → ∀ (H : Heap) (locs : List Loc) (ls : Array Slot), va_P D vwCl [(aN, .inr (5, [.ref aD, .ref aP, .ref aR, .ref aW])), (aD, .inr (0, [.ref aD_kinds, .ref aD_washes, .ref aD_fuels, .ref aD_isBroken, .int D_units, .ref aD_lengths, .ref aD_wanted, .int D_leaving, .ref aD_trackOf, .int D_parked, .int D_changes])), (aR, .inr (2, [.ref aD, .ref aR_leavers, .ref aR_steps, .int R_leastShunts, .int R_knownAt, vRs])), (aR_leavers, .inl (cI, 5, .inl R_leavers)), (ap0, .inl (cI, 5, .inl p0_arr))] H → va_D A [(aN, .inr (5, [.ref aD, .ref aP, .ref aR, .ref aW])), (aD, .inr (0, [.ref aD_kinds, .ref aD_washes, .ref aD_fuels, .ref aD_isBroken, .int D_units, .ref aD_lengths, .ref aD_wanted, .int D_leaving, .ref aD_trackOf, .int D_parked, .int D_changes])), (aR, .inr (2, [.ref aD, .ref aR_leavers, .ref aR_steps, .int R_leastShunts, .int R_knownAt, vRs])), (aR_leavers, .inl (cI, 5, .inl R_leavers)), (ap0, .inl (cI, 5, .inl p0_arr))] → va_S A s.heap H locs → lv_has ls 6 [(0, .ref aN), (1, .ref ap0), (2, .int x2), (3, .int x3), (4, .int x4)] → W p l e ({ frames := 1, cells := 0, slots := 0, locals := 21 } : Room) s m ([.ref aN, .ref ap0, .int x2] : List Value).toArray below meth c H locs 0 0 Q0 (F0 m 5 ls []) := by
    intro n
    induction n with
    | zero =>
      intro x3 x4 hw
      exact (show False from hw).elim
    | succ n hK5 =>
      intro x3 x4 hw H locs ls hP hD hS hl
      have hw : Y_X6_lateBits_5 D_units D_leaving R_leavers R_leastShunts p0_arr x2 post (Z_X6_lateBits_5 D_units D_leaving R_leavers R_leastShunts p0_arr x2 post n) x3 x4 := hw
      unfold Y_X6_lateBits_5 at hw
      refine lv_iload hx hb dX6_lateBits_5 (lv_at hl 4 rfl) ?_
      refine lv_aload_n hx hb dX6_lateBits_7 rfl (lv_at hl 0 rfl) ?_
      refine va_get (D := D) (ci := 5) (v := .ref aD) (C := RX6) (T := TX6) (N := 4) hx hb hts hinX6 hown hK hP 0 rfl rfl 0 (by decide) hf10 (fun _ h9 => h9) rfl dX6_lateBits_8 ?_
      refine va_get (D := D) (ci := 0) (v := .int D_leaving) (C := RX0) (T := TX0) (N := 11) hx hb hts hinX0 hown hK hP 1 rfl rfl 7 (by decide) hf68 (fun _ h9 => h9) rfl dX6_lateBits_11 ?_
      refine lv_icmp_ge (tgt := 67) hx hb dX6_lateBits_14 (by decide) (fun hc1 => ?_) (fun hc1 => ?_)
      · have hw := hw.1 hc1
        refine lv_iload_n hx hb dX6_lateBits_67 rfl (lv_at hl 3 rfl) ?_
        exact hret x3  H locs 68 ls hw dX6_lateBits_68 hP hD hS 
      · have hw := hw.2 hc1
        refine lv_aload_n hx hb dX6_lateBits_17 rfl (lv_at hl 0 rfl) ?_
        refine va_get (D := D) (ci := 5) (v := .ref aR) (C := RX6) (T := TX6) (N := 4) hx hb hts hinX6 hown hK hP 0 rfl rfl 2 (by decide) hf28 (fun _ h9 => h9) rfl dX6_lateBits_18 ?_
        refine lv_iload hx hb dX6_lateBits_21 (lv_at hl 4 rfl) ?_
        refine zVi (As := [.int x4]) (rest := []) (wc := [(aD, .inr (0, [.ref aD_kinds, .ref aD_washes, .ref aD_fuels, .ref aD_isBroken, .int D_units, .ref aD_lengths, .ref aD_wanted, .int D_leaving, .ref aD_trackOf, .int D_parked, .int D_changes])), (aR, .inr (2, [.ref aD, .ref aR_leavers, .ref aR_steps, .int R_leastShunts, .int R_knownAt, vRs])), (aR_leavers, .inl (cI, 5, .inl R_leavers))]) (wr := [(aN, .inr (5, [.ref aD, .ref aP, .ref aR, .ref aW])), (ap0, .inl (cI, 5, .inl p0_arr))]) ⟨hx, hb, hml, hown, hts⟩ hK hP hD hS hA [1, 2, 3] [0, 4] rfl rfl (by decide) (by decide) (by decide) (c_X3_leaver l D cI cJ cZ aD aD_kinds aD_washes aD_fuels aD_isBroken aD_lengths aD_wanted aD_trackOf aR aR_leavers aR_steps vRs H.size D_units D_leaving D_parked D_changes R_leastShunts R_knownAt R_leavers x4 _ hw) (cwV 1 hts gX6_lateBits_X3_leaver rfl rfl rfl (by decide +kernel) ⟨Nat.le_of_ble_eq_true rfl, Nat.le_of_ble_eq_true rfl⟩) 2 2 rfl rfl rfl rfl hl.1 (Nat.le_of_ble_eq_true rfl) dX6_lateBits_23 ⟨(Nat.le_of_ble_eq_true rfl), (Nat.le_of_ble_eq_true rfl)⟩ rfl (fun r2 u H locs hw hP hD hS => ?_)
        try dsimp only at hw
        have hP : va_P D vwCl [(aN, .inr (5, [.ref aD, .ref aP, .ref aR, .ref aW])), (aD, .inr (0, [.ref aD_kinds, .ref aD_washes, .ref aD_fuels, .ref aD_isBroken, .int D_units, .ref aD_lengths, .ref aD_wanted, .int D_leaving, .ref aD_trackOf, .int D_parked, .int D_changes])), (aR, .inr (2, [.ref aD, .ref aR_leavers, .ref aR_steps, .int R_leastShunts, .int R_knownAt, vRs])), (aR_leavers, .inl (cI, 5, .inl R_leavers)), (ap0, .inl (cI, 5, .inl p0_arr))] H := hP.sub [0, 2, 3, 4, 1] rfl
        have hD : va_D A [(aN, .inr (5, [.ref aD, .ref aP, .ref aR, .ref aW])), (aD, .inr (0, [.ref aD_kinds, .ref aD_washes, .ref aD_fuels, .ref aD_isBroken, .int D_units, .ref aD_lengths, .ref aD_wanted, .int D_leaving, .ref aD_trackOf, .int D_parked, .int D_changes])), (aR, .inr (2, [.ref aD, .ref aR_leavers, .ref aR_steps, .int R_leastShunts, .int R_knownAt, vRs])), (aR_leavers, .inl (cI, 5, .inl R_leavers)), (ap0, .inl (cI, 5, .inl p0_arr))] := hD.sub [0, 2, 3, 4, 1] (by decide) rfl
        refine lv_istore (lv' := [(5, .int r2), (0, .ref aN), (1, .ref ap0), (2, .int x2), (3, .int x3), (4, .int x4)]) hx hb dX6_lateBits_26 hl (by decide) rfl (fun ls hl => ?_)
        refine lv_aload_n hx hb dX6_lateBits_28 rfl (lv_at hl 1 rfl) ?_
        refine va_get (D := D) (ci := 5) (v := .ref aD) (C := RX6) (T := TX6) (N := 4) hx hb hts hinX6 hown hK hP 0 rfl rfl 0 (by decide) hf10 (fun _ h9 => h9) rfl dX6_lateBits_29 ?_
        refine lv_iload hx hb dX6_lateBits_32 (lv_at hl 0 rfl) ?_
        refine zVi (As := [.int r2]) (rest := []) (wc := [(aD, .inr (0, [.ref aD_kinds, .ref aD_washes, .ref aD_fuels, .ref aD_isBroken, .int D_units, .ref aD_lengths, .ref aD_wanted, .int D_leaving, .ref aD_trackOf, .int D_parked, .int D_changes]))]) (wr := [(aN, .inr (5, [.ref aD, .ref aP, .ref aR, .ref aW])), (aR, .inr (2, [.ref aD, .ref aR_leavers, .ref aR_steps, .int R_leastShunts, .int R_knownAt, vRs])), (aR_leavers, .inl (cI, 5, .inl R_leavers)), (ap0, .inl (cI, 5, .inl p0_arr))]) ⟨hx, hb, hml, hown, hts⟩ hK hP hD hS hA [1] [0, 2, 3, 4] rfl rfl (by decide) (by decide) (by decide) (c_X0_hasUnit l D cI cJ cZ aD aD_kinds aD_washes aD_fuels aD_isBroken aD_lengths aD_wanted aD_trackOf H.size D_units D_leaving D_parked D_changes r2 _ hw) (cwV 1 hts gX6_lateBits_X0_hasUnit rfl rfl rfl (by decide +kernel) ⟨Nat.le_of_ble_eq_true rfl, Nat.le_of_ble_eq_true rfl⟩) 1 0 rfl rfl rfl rfl hl.1 (Nat.le_of_ble_eq_true rfl) dX6_lateBits_34 ⟨(Nat.le_of_ble_eq_true rfl), (Nat.le_of_ble_eq_true rfl)⟩ rfl (fun r3 u H locs hw hP hD hS => ?_)
        try dsimp only at hw
        have hP : va_P D vwCl [(aN, .inr (5, [.ref aD, .ref aP, .ref aR, .ref aW])), (aD, .inr (0, [.ref aD_kinds, .ref aD_washes, .ref aD_fuels, .ref aD_isBroken, .int D_units, .ref aD_lengths, .ref aD_wanted, .int D_leaving, .ref aD_trackOf, .int D_parked, .int D_changes])), (aR, .inr (2, [.ref aD, .ref aR_leavers, .ref aR_steps, .int R_leastShunts, .int R_knownAt, vRs])), (aR_leavers, .inl (cI, 5, .inl R_leavers)), (ap0, .inl (cI, 5, .inl p0_arr))] H := hP.sub [0, 4, 1, 2, 3] rfl
        have hD : va_D A [(aN, .inr (5, [.ref aD, .ref aP, .ref aR, .ref aW])), (aD, .inr (0, [.ref aD_kinds, .ref aD_washes, .ref aD_fuels, .ref aD_isBroken, .int D_units, .ref aD_lengths, .ref aD_wanted, .int D_leaving, .ref aD_trackOf, .int D_parked, .int D_changes])), (aR, .inr (2, [.ref aD, .ref aR_leavers, .ref aR_steps, .int R_leastShunts, .int R_knownAt, vRs])), (aR_leavers, .inl (cI, 5, .inl R_leavers)), (ap0, .inl (cI, 5, .inl p0_arr))] := hD.sub [0, 4, 1, 2, 3] (by decide) rfl
        refine lv_if_eq (tgt := 61) hx hb dX6_lateBits_37 (by decide) (fun hc4 => ?_) (fun hc4 => ?_)
        · have hw := hw.1 hc4
          refine lv_iinc (v := (x4 + 1)) (lv' := [(4, .int (x4 + 1)), (5, .int r2), (0, .ref aN), (1, .ref ap0), (2, .int x2), (3, .int x3)]) hx hb dX6_lateBits_61 hl (k := 5) rfl rfl (by decide) rfl (fun ls hl => ?_)
          refine lv_goto (tgt := 5) hx hb dX6_lateBits_64 (by decide) ?_
          exact hK5 x3 (x4 + 1) hw H locs ls hP hD hS (lv_sub hl [2, 3, 4, 5, 0] rfl)
        · have hw := hw.2 hc4
          refine lv_aload_n hx hb dX6_lateBits_40 rfl (lv_at hl 2 rfl) ?_
          refine lv_iload hx hb dX6_lateBits_41 (lv_at hl 0 rfl) ?_
          obtain ⟨hb5, hw⟩ := hw
          refine va_iald hx hb hK hP 4 0 rfl rfl hb5 dX6_lateBits_43 ?_
          refine lv_iload_n hx hb dX6_lateBits_44 rfl (lv_at hl 3 rfl) ?_
          refine lv_bipush (v := 10) hx hb dX6_lateBits_45 (by decide) ?_
          refine lv_iload hx hb dX6_lateBits_47 (lv_at hl 5 rfl) ?_
          refine lv_imul hx hb dX6_lateBits_49 ?_
          refine lv_iadd hx hb dX6_lateBits_50 ?_
          refine lv_icmp_le (tgt := 61) hx hb dX6_lateBits_51 (by decide) (fun hc6 => ?_) (fun hc6 => ?_)
          · have hw := hw.1 hc6
            refine lv_iinc (v := (x4 + 1)) (lv' := [(4, .int (x4 + 1)), (5, .int r2), (0, .ref aN), (1, .ref ap0), (2, .int x2), (3, .int x3)]) hx hb dX6_lateBits_61 hl (k := 5) rfl rfl (by decide) rfl (fun ls hl => ?_)
            refine lv_goto (tgt := 5) hx hb dX6_lateBits_64 (by decide) ?_
            exact hK5 x3 (x4 + 1) hw H locs ls hP hD hS (lv_sub hl [2, 3, 4, 5, 0] rfl)
          · have hw := hw.2 hc6
            refine lv_iload_n hx hb dX6_lateBits_54 rfl (lv_at hl 4 rfl) ?_
            refine lv_iconst (v := 1) hx hb dX6_lateBits_55 (by decide) ?_
            refine lv_iload hx hb dX6_lateBits_56 (lv_at hl 0 rfl) ?_
            refine lv_ishl hx hb dX6_lateBits_58 ?_
            refine lv_ior hx hb dX6_lateBits_59 ?_
            refine lv_topi (fun y7 ey7 => ?_)
            have hw := hw y7 ey7
            refine lv_istore_n (lv' := [(3, .int y7), (5, .int r2), (0, .ref aN), (1, .ref ap0), (2, .int x2), (4, .int x4)]) hx hb dX6_lateBits_60 rfl hl (by decide) rfl (fun ls hl => ?_)
            refine lv_iinc (v := (x4 + 1)) (lv' := [(4, .int (x4 + 1)), (3, .int y7), (5, .int r2), (0, .ref aN), (1, .ref ap0), (2, .int x2)]) hx hb dX6_lateBits_61 hl (k := 5) rfl rfl (by decide) rfl (fun ls hl => ?_)
            refine lv_goto (tgt := 5) hx hb dX6_lateBits_64 (by decide) ?_
            exact hK5 y7 (x4 + 1) hw H locs ls hP hD hS (lv_sub hl [3, 4, 5, 1, 0] rfl)
  obtain ⟨H, hHe⟩ : ∃ H, H = s.heap := ⟨_, rfl⟩
  obtain ⟨locs, hLo⟩ : ∃ locs : List Loc, locs = [] := ⟨_, rfl⟩
  have hS : va_S A s.heap H locs := by rw [hHe, hLo]; exact hS
  have hP : va_P D vwCl [(aN, .inr (5, [.ref aD, .ref aP, .ref aR, .ref aW])), (aD, .inr (0, [.ref aD_kinds, .ref aD_washes, .ref aD_fuels, .ref aD_isBroken, .int D_units, .ref aD_lengths, .ref aD_wanted, .int D_leaving, .ref aD_trackOf, .int D_parked, .int D_changes])), (aR, .inr (2, [.ref aD, .ref aR_leavers, .ref aR_steps, .int R_leastShunts, .int R_knownAt, vRs])), (aR_leavers, .inl (cI, 5, .inl R_leavers)), (ap0, .inl (cI, 5, .inl p0_arr))] H := by rw [hHe]; exact hP
  refine (fun (hgo : W p l e ({ frames := 1, cells := 0, slots := 0, locals := 21 } : Room) s m ([.ref aN, .ref ap0, .int x2] : List Value).toArray below meth c H locs 0 0 Q0 (F0 m 0 ls [])) => by rw [hHe, hLo] at hgo; exact hgo) ?_
  refine lv_iconst (v := 0) hx hb dX6_lateBits_0 (by decide) ?_
  refine lv_istore_n (lv' := [(3, .int 0), (0, .ref aN), (1, .ref ap0), (2, .int x2)]) hx hb dX6_lateBits_1 rfl hl (by decide) rfl (fun ls hl => ?_)
  refine lv_iconst (v := 0) hx hb dX6_lateBits_2 (by decide) ?_
  refine lv_istore (lv' := [(4, .int 0), (3, .int 0), (0, .ref aN), (1, .ref ap0), (2, .int x2)]) hx hb dX6_lateBits_3 hl (by decide) rfl (fun ls hl => ?_)
  obtain ⟨n8, hw⟩ := hw
  exact wZ_X6_lateBits_5  n8 0 0 hw H locs ls hP hD hS (lv_sub hl [2, 3, 4, 1, 0] rfl)
