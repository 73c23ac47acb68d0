/-! X4_init -/
def wp_X4_init (S_met : Int32) (S_goal : Int32) (post : (Nat → Int64) → (Nat → Int32) → (Nat → Int32) → (Nat → Int32) → (Int32) → (Int32) → Prop) : Prop :=
  post (fun _ => 0) (fun _ => 0) (fun _ => 0) (fun _ => 0) 0 (-1)
set_option maxHeartbeats 4000000 in
set_option maxRecDepth 100000 in
theorem c_X4_init (l : Launch) (D : va_G) (cI cJ cZ : ClassId) (aS aD : Nat) (sz : Nat) (S_met : Int32) (S_goal : Int32) (post : (Nat → Int64) → (Nat → Int32) → (Nat → Int32) → (Nat → Int32) → (Int32) → (Int32) → Prop) (hw : wp_X4_init S_met S_goal post) : Met l yX4_init wsX4_init ({ frames := 1, cells := 4, slots := 12964, locals := 12 } : Room) (va_Pc [.ref aS, .ref aD] (zPre D cI cJ cZ ([(aS, .inr (3, [.null, .null, .null, .null, .null, .int S_met, .int S_goal]))]) sz)) (va_Qv (fun (u : (Nat → Int64) × (Nat → Int32) × (Nat → Int32) × (Nat → Int32) × (Int32) × (Int32) × (Nat) × (Nat) × (Nat) × (Nat)) => post (u.1) (u.2.1) (u.2.2.1) (u.2.2.2.1) (u.2.2.2.2.1) (u.2.2.2.2.2.1)) (zPost D cI cJ cZ (va_A ([(aS, .inr (3, [.null, .null, .null, .null, .null, .int S_met, .int S_goal]))]) sz) (fun u : (Nat → Int64) × (Nat → Int32) × (Nat → Int32) × (Nat → Int32) × (Int32) × (Int32) × (Nat) × (Nat) × (Nat) × (Nat) => [(aS, .inr (3, [.ref aD, (.ref (u.2.2.2.2.2.2.1)), (.ref (u.2.2.2.2.2.2.2.1)), (.ref (u.2.2.2.2.2.2.2.2.1)), (.ref (u.2.2.2.2.2.2.2.2.2)), .int (u.2.2.2.2.1), .int (u.2.2.2.2.2.1)])), ((u.2.2.2.2.2.2.1), .inl (cJ, 2956, .inr (.inl (u.1)))), ((u.2.2.2.2.2.2.2.1), .inl (cI, 2956, .inl (u.2.1))), ((u.2.2.2.2.2.2.2.2.1), .inl (cI, 2956, .inl (u.2.2.1))), ((u.2.2.2.2.2.2.2.2.2), .inl (cI, 4096, .inl (u.2.2.2.1)))])) (va_A ([(aS, .inr (3, [.null, .null, .null, .null, .null, .int S_met, .int S_goal]))]) sz)) 4 12964 (va_A ([(aS, .inr (3, [.null, .null, .null, .null, .null, .int S_met, .int S_goal]))]) sz) := by
  unfold wp_X4_init at hw
  refine Met.ofW (cc := cX4_init) (maxL := 2) (ret := none) (by decide) rfl ?_
  intro p e s m args below meth c s₁ B hml hv
  obtain ⟨rfl, hsz, hP, hK, hD0⟩ := hv
  have hx := B.exec
  have hb := B.bytes
  have hr := B.returns
  have hts := atoms_spec (ws := wsX4_init) B.pre
  have hown : s.vm.findClass RX4 = some m.cls := findClass_of_methodNamed B.named
  have hlocks := B.notSynchronized
  have hin : meth.name = "<init>" := (name_of_methodNamed B.named B.method).1
  subst hsz
  have hD := hD0.self (sz := s.heap.size)
  generalize hAe : va_A ([(aS, .inr (3, [.null, .null, .null, .null, .null, .int S_met, .int S_goal]))]) s.heap.size = A at hD ⊢
  have hA : ∀ q : Nat, s.heap.size ≤ q → A q := fun q h => by rw [← hAe]; exact Or.inr h
  have hS : va_S A s.heap s.heap [] := va_S.rf
  refine (fun (hall : ∀ Q0 : State → Prop, (∀ (v0 : Nat → Int64) (v1 : Nat → Int32) (v2 : Nat → Int32) (v3 : Nat → Int32) (v4 : Int32) (v5 : Int32) (v6 : Nat) (v7 : Nat) (v8 : Nat) (v9 : Nat) (H : Heap) (locs : List Loc) (pc : Nat) (ls : Array Slot), post v0 v1 v2 v3 v4 v5 → decode cX4_init pc = .ok (.return_, 1) → va_P D vwCl ([(aS, .inr (3, [.ref aD, .ref v6, .ref v7, .ref v8, .ref v9, .int v4, .int v5])), (v6, .inl (cJ, 2956, .inr (.inl v0))), (v7, .inl (cI, 2956, .inl v1)), (v8, .inl (cI, 2956, .inl v2)), (v9, .inl (cI, 4096, .inl v3))]) H → va_D A ([(aS, .inr (3, [.ref aD, .ref v6, .ref v7, .ref v8, .ref v9, .int v4, .int v5])), (v6, .inl (cJ, 2956, .inr (.inl v0))), (v7, .inl (cI, 2956, .inl v1)), (v8, .inl (cI, 2956, .inl v2)), (v9, .inl (cI, 4096, .inl v3))]) → va_S A s.heap H locs → W p l e ({ frames := 1, cells := 4, slots := 12964, locals := 12 } : Room) s m ([.ref aS, .ref aD] : List Value).toArray below meth c H locs 4 12964 Q0 (F0 m pc ls [])) → W p l e ({ frames := 1, cells := 4, slots := 12964, locals := 12 } : Room) s m ([.ref aS, .ref aD] : List Value).toArray below meth c s.heap [] 0 0 Q0 (entryFrame m ([.ref aS, .ref aD] : List Value).toArray 2)) => hall _ (fun v0 v1 v2 v3 v4 v5 v6 v7 v8 v9 H locs pc ls hw hd hP hD hS => W.vret hx hb hr (fun t ht hW => ⟨⟨(v0, v1, v2, v3, v4, v5, v6, v7, v8, v9), rfl, hw, by rw [ht]; exact hP, va_K.moved hW.alike hK, hD⟩, hS.F ht⟩) hS.2.2 hd)) ?_
  intro Q0 hret
  have hl := lv_entry ([.ref aS, .ref aD]) (n := 2) (Nat.le_of_ble_eq_true rfl)
  rw [lg_entry_eq]
  generalize (lg_sl ([.ref aS, .ref aD]) ++ List.replicate (2 - (lg_sl ([.ref aS, .ref aD])).length) Slot.unset).toArray = ls at hl ⊢
  have hl : lv_has ls 2 [(0, .ref aS), (1, .ref aD)] := hl
  have hinX4 : ∀ w ∈ u_ws RX4 TX4 7, w ∈ wsX4_init := by decide +kernel
  have hf11 := hts (.fieldLink RX4 11 "DepotNight$Search" "positions" "[J") (by decide +kernel)
  have hf15 := hts (.fieldLink RX4 15 "DepotNight$Search" "metFrom" "[I") (by decide +kernel)
  have hf19 := hts (.fieldLink RX4 19 "DepotNight$Search" "stepTo" "[I") (by decide +kernel)
  have hf22 := hts (.fieldLink RX4 22 "DepotNight$Search" "slots" "[I") (by decide +kernel)
  have hf25 := hts (.fieldLink RX4 25 "DepotNight$Search" "met" "I") (by decide +kernel)
  have hf29 := hts (.fieldLink RX4 29 "DepotNight$Search" "goal" "I") (by decide +kernel)
  have hf32 := hts (.fieldLink RX4 32 "DepotNight$Search" "depot" "LDepotNight$Depot;") (by decide +kernel)
  obtain ⟨H, hHe⟩ : ∃ H, H = s.heap := ⟨_, rfl⟩
  obtain ⟨locs, hLo⟩ : ∃ locs : List Loc, locs = [] := ⟨_, rfl⟩
  have hS : va_S A s.heap H locs := by rw [hHe, hLo]; exact hS
  have hP : va_P D vwCl ([(aS, .inr (3, [.null, .null, .null, .null, .null, .int S_met, .int S_goal]))]) H := by rw [hHe]; exact hP
  refine (fun (hgo : W p l e ({ frames := 1, cells := 4, slots := 12964, locals := 12 } : Room) s m ([.ref aS, .ref aD] : List Value).toArray below meth c H locs 0 0 Q0 (F0 m 0 ls [])) => by rw [hHe, hLo] at hgo; exact hgo) ?_
  refine lv_aload_n hx hb dX4_init_0 rfl (lv_at hl 0 rfl) ?_
  refine W.objInit hx hb hown (hts (.methodLink RX4 5 objectInit) (by decide +kernel)) (hts (.instanceMethod objectInit) (by decide +kernel)) (hts (.code objectInit ⟨#[0xb1]⟩ 1 none) (by decide +kernel)) rfl (by rw [hml]; exact hl.1) rfl dX4_init_1 (Nat.le_of_ble_eq_true rfl) (Nat.le_of_ble_eq_true rfl) ?_
  refine W.eq (g2 := F0 m 4 ls []) rfl ?_
  refine lv_aload_n hx hb dX4_init_4 rfl (lv_at hl 0 rfl) ?_
  refine lv_sipush (v := 2956) hx hb dX4_init_5 (by decide) ?_
  refine va_newa (atype := .long) (ty := .long) (N' := 2956) (a0 := (2956, .inr (.inl (fun _ => 0)))) hx hb (hts (.arrayClass .long) (by decide +kernel)) rfl hK hP hD hS hA (fun _ => rfl) (by decide) (by decide) (by decide) (Nat.le_of_ble_eq_true rfl) (Nat.le_of_ble_eq_true rfl) dX4_init_8 (fun aS_positions cA H hKn hP hD hS => ?_)
  have hcA := zAj hKn
  subst hcA
  refine W.widen (k := 1) (n := 2956) (Nat.le_of_ble_eq_true rfl) (Nat.le_of_ble_eq_true rfl) ?_
  have hP : va_P D vwCl [(aS, .inr (3, [.null, .null, .null, .null, .null, .int S_met, .int S_goal])), (aS_positions, .inl (cJ, 2956, .inr (.inl (fun _ => 0))))] H := hP
  have hD : va_D A [(aS, .inr (3, [.null, .null, .null, .null, .null, .int S_met, .int S_goal])), (aS_positions, .inl (cJ, 2956, .inr (.inl (fun _ => 0))))] := hD
  refine va_putF (D := D) (ci := 3) (v := .ref aS_positions) (ty := .array .long) (C := RX4) (T := TX4) (N := 7) hx hb hts hinX4 tyX4 tyX4_ok nmX4 hown hK hP hD hS 0 rfl rfl 1 (by decide) hf11 (fun _ h9 => h9) rfl hin rfl (by decide +kernel) rfl rfl (Nat.le_of_ble_eq_true rfl) dX4_init_10 (fun H locs hP hD hS => ?_)
  have hP : va_P D vwCl [(aS, .inr (3, [.null, .ref aS_positions, .null, .null, .null, .int S_met, .int S_goal])), (aS_positions, .inl (cJ, 2956, .inr (.inl (fun _ => 0))))] H := hP
  have hD : va_D A [(aS, .inr (3, [.null, .ref aS_positions, .null, .null, .null, .int S_met, .int S_goal])), (aS_positions, .inl (cJ, 2956, .inr (.inl (fun _ => 0))))] := hD
  refine lv_aload_n hx hb dX4_init_13 rfl (lv_at hl 0 rfl) ?_
  refine lv_sipush (v := 2956) hx hb dX4_init_14 (by decide) ?_
  refine va_newa (atype := .int) (ty := .int) (N' := 2956) (a0 := (2956, .inl (fun _ => 0))) hx hb (hts (.arrayClass .int) (by decide +kernel)) rfl hK hP hD hS hA (fun _ => rfl) (by decide) (by decide) (by decide) (Nat.le_of_ble_eq_true rfl) (Nat.le_of_ble_eq_true rfl) dX4_init_17 (fun aS_metFrom cA H hKn hP hD hS => ?_)
  have hcA := zAi hKn
  subst hcA
  refine W.widen (k := 2) (n := 5912) (Nat.le_of_ble_eq_true rfl) (Nat.le_of_ble_eq_true rfl) ?_
  have hP : va_P D vwCl [(aS, .inr (3, [.null, .ref aS_positions, .null, .null, .null, .int S_met, .int S_goal])), (aS_positions, .inl (cJ, 2956, .inr (.inl (fun _ => 0)))), (aS_metFrom, .inl (cI, 2956, .inl (fun _ => 0)))] H := hP
  have hD : va_D A [(aS, .inr (3, [.null, .ref aS_positions, .null, .null, .null, .int S_met, .int S_goal])), (aS_positions, .inl (cJ, 2956, .inr (.inl (fun _ => 0)))), (aS_metFrom, .inl (cI, 2956, .inl (fun _ => 0)))] := hD
  refine va_putF (D := D) (ci := 3) (v := .ref aS_metFrom) (ty := .array .int) (C := RX4) (T := TX4) (N := 7) hx hb hts hinX4 tyX4 tyX4_ok nmX4 hown hK hP hD hS 0 rfl rfl 2 (by decide) hf15 (fun _ h9 => h9) rfl hin rfl (by decide +kernel) rfl rfl (Nat.le_of_ble_eq_true rfl) dX4_init_19 (fun H locs hP hD hS => ?_)
  have hP : va_P D vwCl [(aS, .inr (3, [.null, .ref aS_positions, .ref aS_metFrom, .null, .null, .int S_met, .int S_goal])), (aS_positions, .inl (cJ, 2956, .inr (.inl (fun _ => 0)))), (aS_metFrom, .inl (cI, 2956, .inl (fun _ => 0)))] H := hP
  have hD : va_D A [(aS, .inr (3, [.null, .ref aS_positions, .ref aS_metFrom, .null, .null, .int S_met, .int S_goal])), (aS_positions, .inl (cJ, 2956, .inr (.inl (fun _ => 0)))), (aS_metFrom, .inl (cI, 2956, .inl (fun _ => 0)))] := hD
  refine lv_aload_n hx hb dX4_init_22 rfl (lv_at hl 0 rfl) ?_
  refine lv_sipush (v := 2956) hx hb dX4_init_23 (by decide) ?_
  refine va_newa (atype := .int) (ty := .int) (N' := 2956) (a0 := (2956, .inl (fun _ => 0))) hx hb (hts (.arrayClass .int) (by decide +kernel)) rfl hK hP hD hS hA (fun _ => rfl) (by decide) (by decide) (by decide) (Nat.le_of_ble_eq_true rfl) (Nat.le_of_ble_eq_true rfl) dX4_init_26 (fun aS_stepTo cA H hKn hP hD hS => ?_)
  have hcA := zAi hKn
  subst hcA
  refine W.widen (k := 3) (n := 8868) (Nat.le_of_ble_eq_true rfl) (Nat.le_of_ble_eq_true rfl) ?_
  have hP : va_P D vwCl [(aS, .inr (3, [.null, .ref aS_positions, .ref aS_metFrom, .null, .null, .int S_met, .int S_goal])), (aS_positions, .inl (cJ, 2956, .inr (.inl (fun _ => 0)))), (aS_metFrom, .inl (cI, 2956, .inl (fun _ => 0))), (aS_stepTo, .inl (cI, 2956, .inl (fun _ => 0)))] H := hP
  have hD : va_D A [(aS, .inr (3, [.null, .ref aS_positions, .ref aS_metFrom, .null, .null, .int S_met, .int S_goal])), (aS_positions, .inl (cJ, 2956, .inr (.inl (fun _ => 0)))), (aS_metFrom, .inl (cI, 2956, .inl (fun _ => 0))), (aS_stepTo, .inl (cI, 2956, .inl (fun _ => 0)))] := hD
  refine va_putF (D := D) (ci := 3) (v := .ref aS_stepTo) (ty := .array .int) (C := RX4) (T := TX4) (N := 7) hx hb hts hinX4 tyX4 tyX4_ok nmX4 hown hK hP hD hS 0 rfl rfl 3 (by decide) hf19 (fun _ h9 => h9) rfl hin rfl (by decide +kernel) rfl rfl (Nat.le_of_ble_eq_true rfl) dX4_init_28 (fun H locs hP hD hS => ?_)
  have hP : va_P D vwCl [(aS, .inr (3, [.null, .ref aS_positions, .ref aS_metFrom, .ref aS_stepTo, .null, .int S_met, .int S_goal])), (aS_positions, .inl (cJ, 2956, .inr (.inl (fun _ => 0)))), (aS_metFrom, .inl (cI, 2956, .inl (fun _ => 0))), (aS_stepTo, .inl (cI, 2956, .inl (fun _ => 0)))] H := hP
  have hD : va_D A [(aS, .inr (3, [.null, .ref aS_positions, .ref aS_metFrom, .ref aS_stepTo, .null, .int S_met, .int S_goal])), (aS_positions, .inl (cJ, 2956, .inr (.inl (fun _ => 0)))), (aS_metFrom, .inl (cI, 2956, .inl (fun _ => 0))), (aS_stepTo, .inl (cI, 2956, .inl (fun _ => 0)))] := hD
  refine lv_aload_n hx hb dX4_init_31 rfl (lv_at hl 0 rfl) ?_
  refine lv_sipush (v := 4096) hx hb dX4_init_32 (by decide) ?_
  refine va_newa (atype := .int) (ty := .int) (N' := 4096) (a0 := (4096, .inl (fun _ => 0))) hx hb (hts (.arrayClass .int) (by decide +kernel)) rfl hK hP hD hS hA (fun _ => rfl) (by decide) (by decide) (by decide) (Nat.le_of_ble_eq_true rfl) (Nat.le_of_ble_eq_true rfl) dX4_init_35 (fun aS_slots cA H hKn hP hD hS => ?_)
  have hcA := zAi hKn
  subst hcA
  refine W.widen (k := 4) (n := 12964) (Nat.le_of_ble_eq_true rfl) (Nat.le_of_ble_eq_true rfl) ?_
  have hP : va_P D vwCl [(aS, .inr (3, [.null, .ref aS_positions, .ref aS_metFrom, .ref aS_stepTo, .null, .int S_met, .int S_goal])), (aS_positions, .inl (cJ, 2956, .inr (.inl (fun _ => 0)))), (aS_metFrom, .inl (cI, 2956, .inl (fun _ => 0))), (aS_stepTo, .inl (cI, 2956, .inl (fun _ => 0))), (aS_slots, .inl (cI, 4096, .inl (fun _ => 0)))] H := hP
  have hD : va_D A [(aS, .inr (3, [.null, .ref aS_positions, .ref aS_metFrom, .ref aS_stepTo, .null, .int S_met, .int S_goal])), (aS_positions, .inl (cJ, 2956, .inr (.inl (fun _ => 0)))), (aS_metFrom, .inl (cI, 2956, .inl (fun _ => 0))), (aS_stepTo, .inl (cI, 2956, .inl (fun _ => 0))), (aS_slots, .inl (cI, 4096, .inl (fun _ => 0)))] := hD
  refine va_putF (D := D) (ci := 3) (v := .ref aS_slots) (ty := .array .int) (C := RX4) (T := TX4) (N := 7) hx hb hts hinX4 tyX4 tyX4_ok nmX4 hown hK hP hD hS 0 rfl rfl 4 (by decide) hf22 (fun _ h9 => h9) rfl hin rfl (by decide +kernel) rfl rfl (Nat.le_of_ble_eq_true rfl) dX4_init_37 (fun H locs hP hD hS => ?_)
  have hP : va_P D vwCl [(aS, .inr (3, [.null, .ref aS_positions, .ref aS_metFrom, .ref aS_stepTo, .ref aS_slots, .int S_met, .int S_goal])), (aS_positions, .inl (cJ, 2956, .inr (.inl (fun _ => 0)))), (aS_metFrom, .inl (cI, 2956, .inl (fun _ => 0))), (aS_stepTo, .inl (cI, 2956, .inl (fun _ => 0))), (aS_slots, .inl (cI, 4096, .inl (fun _ => 0)))] H := hP
  have hD : va_D A [(aS, .inr (3, [.null, .ref aS_positions, .ref aS_metFrom, .ref aS_stepTo, .ref aS_slots, .int S_met, .int S_goal])), (aS_positions, .inl (cJ, 2956, .inr (.inl (fun _ => 0)))), (aS_metFrom, .inl (cI, 2956, .inl (fun _ => 0))), (aS_stepTo, .inl (cI, 2956, .inl (fun _ => 0))), (aS_slots, .inl (cI, 4096, .inl (fun _ => 0)))] := hD
  refine lv_aload_n hx hb dX4_init_40 rfl (lv_at hl 0 rfl) ?_
  refine lv_iconst (v := 0) hx hb dX4_init_41 (by decide) ?_
  refine va_put (D := D) (ci := 3) (v := .int 0) (ty := .int) (C := RX4) (T := TX4) (N := 7) hx hb hts hinX4 tyX4 tyX4_ok nmX4 hown hK hP hD hS 0 rfl rfl 5 (by decide) hf25 (fun _ h9 => h9) rfl (by decide +kernel) rfl rfl (Nat.le_of_ble_eq_true rfl) dX4_init_42 (fun H locs hP hD hS => ?_)
  have hP : va_P D vwCl [(aS, .inr (3, [.null, .ref aS_positions, .ref aS_metFrom, .ref aS_stepTo, .ref aS_slots, .int 0, .int S_goal])), (aS_positions, .inl (cJ, 2956, .inr (.inl (fun _ => 0)))), (aS_metFrom, .inl (cI, 2956, .inl (fun _ => 0))), (aS_stepTo, .inl (cI, 2956, .inl (fun _ => 0))), (aS_slots, .inl (cI, 4096, .inl (fun _ => 0)))] H := hP
  have hD : va_D A [(aS, .inr (3, [.null, .ref aS_positions, .ref aS_metFrom, .ref aS_stepTo, .ref aS_slots, .int 0, .int S_goal])), (aS_positions, .inl (cJ, 2956, .inr (.inl (fun _ => 0)))), (aS_metFrom, .inl (cI, 2956, .inl (fun _ => 0))), (aS_stepTo, .inl (cI, 2956, .inl (fun _ => 0))), (aS_slots, .inl (cI, 4096, .inl (fun _ => 0)))] := hD
  refine lv_aload_n hx hb dX4_init_45 rfl (lv_at hl 0 rfl) ?_
  refine lv_iconst (v := (-1)) hx hb dX4_init_46 (by decide) ?_
  refine va_put (D := D) (ci := 3) (v := .int (-1)) (ty := .int) (C := RX4) (T := TX4) (N := 7) hx hb hts hinX4 tyX4 tyX4_ok nmX4 hown hK hP hD hS 0 rfl rfl 6 (by decide) hf29 (fun _ h9 => h9) rfl (by decide +kernel) rfl rfl (Nat.le_of_ble_eq_true rfl) dX4_init_47 (fun H locs hP hD hS => ?_)
  have hP : va_P D vwCl [(aS, .inr (3, [.null, .ref aS_positions, .ref aS_metFrom, .ref aS_stepTo, .ref aS_slots, .int 0, .int (-1)])), (aS_positions, .inl (cJ, 2956, .inr (.inl (fun _ => 0)))), (aS_metFrom, .inl (cI, 2956, .inl (fun _ => 0))), (aS_stepTo, .inl (cI, 2956, .inl (fun _ => 0))), (aS_slots, .inl (cI, 4096, .inl (fun _ => 0)))] H := hP
  have hD : va_D A [(aS, .inr (3, [.null, .ref aS_positions, .ref aS_metFrom, .ref aS_stepTo, .ref aS_slots, .int 0, .int (-1)])), (aS_positions, .inl (cJ, 2956, .inr (.inl (fun _ => 0)))), (aS_metFrom, .inl (cI, 2956, .inl (fun _ => 0))), (aS_stepTo, .inl (cI, 2956, .inl (fun _ => 0))), (aS_slots, .inl (cI, 4096, .inl (fun _ => 0)))] := hD
  refine lv_aload_n hx hb dX4_init_50 rfl (lv_at hl 0 rfl) ?_
  refine lv_aload_n hx hb dX4_init_51 rfl (lv_at hl 1 rfl) ?_
  refine va_putF (D := D) (ci := 3) (v := .ref aD) (ty := .object "DepotNight$Depot") (C := RX4) (T := TX4) (N := 7) hx hb hts hinX4 tyX4 tyX4_ok nmX4 hown hK hP hD hS 0 rfl rfl 0 (by decide) hf32 (fun _ h9 => h9) rfl hin rfl (by decide +kernel) rfl rfl (Nat.le_of_ble_eq_true rfl) dX4_init_52 (fun H locs hP hD hS => ?_)
  have hP : va_P D vwCl [(aS, .inr (3, [.ref aD, .ref aS_positions, .ref aS_metFrom, .ref aS_stepTo, .ref aS_slots, .int 0, .int (-1)])), (aS_positions, .inl (cJ, 2956, .inr (.inl (fun _ => 0)))), (aS_metFrom, .inl (cI, 2956, .inl (fun _ => 0))), (aS_stepTo, .inl (cI, 2956, .inl (fun _ => 0))), (aS_slots, .inl (cI, 4096, .inl (fun _ => 0)))] H := hP
  have hD : va_D A [(aS, .inr (3, [.ref aD, .ref aS_positions, .ref aS_metFrom, .ref aS_stepTo, .ref aS_slots, .int 0, .int (-1)])), (aS_positions, .inl (cJ, 2956, .inr (.inl (fun _ => 0)))), (aS_metFrom, .inl (cI, 2956, .inl (fun _ => 0))), (aS_stepTo, .inl (cI, 2956, .inl (fun _ => 0))), (aS_slots, .inl (cI, 4096, .inl (fun _ => 0)))] := hD
  exact hret (fun _ => 0) (fun _ => 0) (fun _ => 0) (fun _ => 0) 0 (-1) aS_positions aS_metFrom aS_stepTo aS_slots H locs 55 ls hw dX4_init_55 hP hD hS
