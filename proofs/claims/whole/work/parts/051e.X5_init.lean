/-! X5_init -/
def Y_X5_init_56 (post : (Nat → Int32) → (Nat → Int32) → (Nat → Int32) → (Nat → Int32) → (Nat → Int32) → Int32 → Int32 → Prop) (W_trial : Nat → Int32) (W_bestOrder : Nat → Int32) (W_readyByNumber : Nat → Int32) (W_readyByBest : Nat → Int32) (W_soonestEnd : Int32) (W_knownUnits : Int32) (K56 : Int32 → (Nat → Int32) → Prop) (x2 : Int32) (W_numbers : Nat → Int32) : Prop :=
  ((5 ≤ x2 → post W_numbers W_trial W_bestOrder W_readyByNumber W_readyByBest W_soonestEnd W_knownUnits) ∧ (¬ 5 ≤ x2 → vp_in x2 5 ∧ (K56 (x2 + 1) (upd W_numbers x2.toNatClampNeg x2))))
def Z_X5_init_56 (post : (Nat → Int32) → (Nat → Int32) → (Nat → Int32) → (Nat → Int32) → (Nat → Int32) → Int32 → Int32 → Prop) (W_trial : Nat → Int32) (W_bestOrder : Nat → Int32) (W_readyByNumber : Nat → Int32) (W_readyByBest : Nat → Int32) (W_soonestEnd : Int32) (W_knownUnits : Int32) : Nat → Int32 → (Nat → Int32) → Prop
  | 0 => fun _ _ => False
  | n + 1 => Y_X5_init_56 post W_trial W_bestOrder W_readyByNumber W_readyByBest W_soonestEnd W_knownUnits (Z_X5_init_56 post W_trial W_bestOrder W_readyByNumber W_readyByBest W_soonestEnd W_knownUnits n)
def wp_X5_init (W_soonestEnd : Int32) (W_knownUnits : Int32) (post : (Nat → Int32) → (Nat → Int32) → (Nat → Int32) → (Nat → Int32) → (Nat → Int32) → (Int32) → (Int32) → Prop) : Prop :=
  ∃ n, Z_X5_init_56 post (fun _ => 0) (fun _ => 0) (fun _ => 0) (fun _ => 0) 0 0 n 0 (fun _ => 0)
set_option maxHeartbeats 4000000 in
set_option maxRecDepth 100000 in
theorem c_X5_init (l : Launch) (D : va_G) (cI cJ cZ : ClassId) (aW aD : Nat) (sz : Nat) (W_soonestEnd : Int32) (W_knownUnits : Int32) (post : (Nat → Int32) → (Nat → Int32) → (Nat → Int32) → (Nat → Int32) → (Nat → Int32) → (Int32) → (Int32) → Prop) (hw : wp_X5_init W_soonestEnd W_knownUnits post) : Met l yX5_init wsX5_init ({ frames := 1, cells := 5, slots := 25, locals := 12 } : Room) (va_Pc [.ref aW, .ref aD] (zPre D cI cJ cZ ([(aW, .inr (4, [.null, .null, .null, .null, .null, .null, .int W_soonestEnd, .int W_knownUnits]))]) sz)) (va_Qv (fun (u : (Nat → Int32) × (Nat → Int32) × (Nat → Int32) × (Nat → Int32) × (Nat → Int32) × (Int32) × (Int32) × (Nat) × (Nat) × (Nat) × (Nat) × (Nat)) => post (u.1) (u.2.1) (u.2.2.1) (u.2.2.2.1) (u.2.2.2.2.1) (u.2.2.2.2.2.1) (u.2.2.2.2.2.2.1)) (zPost D cI cJ cZ (va_A ([(aW, .inr (4, [.null, .null, .null, .null, .null, .null, .int W_soonestEnd, .int W_knownUnits]))]) sz) (fun u : (Nat → Int32) × (Nat → Int32) × (Nat → Int32) × (Nat → Int32) × (Nat → Int32) × (Int32) × (Int32) × (Nat) × (Nat) × (Nat) × (Nat) × (Nat) => [(aW, .inr (4, [.ref aD, (.ref (u.2.2.2.2.2.2.2.1)), (.ref (u.2.2.2.2.2.2.2.2.1)), (.ref (u.2.2.2.2.2.2.2.2.2.1)), (.ref (u.2.2.2.2.2.2.2.2.2.2.1)), (.ref (u.2.2.2.2.2.2.2.2.2.2.2)), .int (u.2.2.2.2.2.1), .int (u.2.2.2.2.2.2.1)])), ((u.2.2.2.2.2.2.2.1), .inl (cI, 5, .inl (u.1))), ((u.2.2.2.2.2.2.2.2.1), .inl (cI, 5, .inl (u.2.1))), ((u.2.2.2.2.2.2.2.2.2.1), .inl (cI, 5, .inl (u.2.2.1))), ((u.2.2.2.2.2.2.2.2.2.2.1), .inl (cI, 5, .inl (u.2.2.2.1))), ((u.2.2.2.2.2.2.2.2.2.2.2), .inl (cI, 5, .inl (u.2.2.2.2.1)))])) (va_A ([(aW, .inr (4, [.null, .null, .null, .null, .null, .null, .int W_soonestEnd, .int W_knownUnits]))]) sz)) 5 25 (va_A ([(aW, .inr (4, [.null, .null, .null, .null, .null, .null, .int W_soonestEnd, .int W_knownUnits]))]) sz) := by
  unfold wp_X5_init at hw
  refine Met.ofW (cc := cX5_init) (maxL := 3) (ret := none) (by decide) rfl ?_
  intro p e s m args below meth c s₁ B hml hv
  obtain ⟨rfl, hsz, hP, hK, hD0⟩ := hv
  have hx := B.exec
  have hb := B.bytes
  have hr := B.returns
  have hts := atoms_spec (ws := wsX5_init) B.pre
  have hown : s.vm.findClass RX5 = some m.cls := findClass_of_methodNamed B.named
  have hlocks := B.notSynchronized
  have hin : meth.name = "<init>" := (name_of_methodNamed B.named B.method).1
  subst hsz
  have hD := hD0.self (sz := s.heap.size)
  generalize hAe : va_A ([(aW, .inr (4, [.null, .null, .null, .null, .null, .null, .int W_soonestEnd, .int W_knownUnits]))]) s.heap.size = A at hD ⊢
  have hA : ∀ q : Nat, s.heap.size ≤ q → A q := fun q h => by rw [← hAe]; exact Or.inr h
  have hS : va_S A s.heap s.heap [] := va_S.rf
  refine (fun (hall : ∀ Q0 : State → Prop, (∀ (v0 : Nat → Int32) (v1 : Nat → Int32) (v2 : Nat → Int32) (v3 : Nat → Int32) (v4 : Nat → Int32) (v5 : Int32) (v6 : Int32) (v7 : Nat) (v8 : Nat) (v9 : Nat) (v10 : Nat) (v11 : Nat) (H : Heap) (locs : List Loc) (pc : Nat) (ls : Array Slot), post v0 v1 v2 v3 v4 v5 v6 → decode cX5_init pc = .ok (.return_, 1) → va_P D vwCl ([(aW, .inr (4, [.ref aD, .ref v7, .ref v8, .ref v9, .ref v10, .ref v11, .int v5, .int v6])), (v7, .inl (cI, 5, .inl v0)), (v8, .inl (cI, 5, .inl v1)), (v9, .inl (cI, 5, .inl v2)), (v10, .inl (cI, 5, .inl v3)), (v11, .inl (cI, 5, .inl v4))]) H → va_D A ([(aW, .inr (4, [.ref aD, .ref v7, .ref v8, .ref v9, .ref v10, .ref v11, .int v5, .int v6])), (v7, .inl (cI, 5, .inl v0)), (v8, .inl (cI, 5, .inl v1)), (v9, .inl (cI, 5, .inl v2)), (v10, .inl (cI, 5, .inl v3)), (v11, .inl (cI, 5, .inl v4))]) → va_S A s.heap H locs → W p l e ({ frames := 1, cells := 5, slots := 25, locals := 12 } : Room) s m ([.ref aW, .ref aD] : List Value).toArray below meth c H locs 5 25 Q0 (F0 m pc ls [])) → W p l e ({ frames := 1, cells := 5, slots := 25, locals := 12 } : Room) s m ([.ref aW, .ref aD] : List Value).toArray below meth c s.heap [] 0 0 Q0 (entryFrame m ([.ref aW, .ref aD] : List Value).toArray 3)) => hall _ (fun v0 v1 v2 v3 v4 v5 v6 v7 v8 v9 v10 v11 H locs pc ls hw hd hP hD hS => W.vret hx hb hr (fun t ht hW => ⟨⟨(v0, v1, v2, v3, v4, v5, v6, v7, v8, v9, v10, v11), rfl, hw, by rw [ht]; exact hP, va_K.moved hW.alike hK, hD⟩, hS.F ht⟩) hS.2.2 hd)) ?_
  intro Q0 hret
  have hl := lv_entry ([.ref aW, .ref aD]) (n := 3) (Nat.le_of_ble_eq_true rfl)
  rw [lg_entry_eq]
  generalize (lg_sl ([.ref aW, .ref aD]) ++ List.replicate (3 - (lg_sl ([.ref aW, .ref aD])).length) Slot.unset).toArray = ls at hl ⊢
  have hl : lv_has ls 3 [(0, .ref aW), (1, .ref aD)] := hl
  have hinX5 : ∀ w ∈ u_ws RX5 TX5 8, w ∈ wsX5_init := by decide +kernel
  have hf9 := hts (.fieldLink RX5 9 "DepotNight$Washing" "numbers" "[I") (by decide +kernel)
  have hf15 := hts (.fieldLink RX5 15 "DepotNight$Washing" "trial" "[I") (by decide +kernel)
  have hf18 := hts (.fieldLink RX5 18 "DepotNight$Washing" "bestOrder" "[I") (by decide +kernel)
  have hf21 := hts (.fieldLink RX5 21 "DepotNight$Washing" "readyByNumber" "[I") (by decide +kernel)
  have hf24 := hts (.fieldLink RX5 24 "DepotNight$Washing" "readyByBest" "[I") (by decide +kernel)
  have hf27 := hts (.fieldLink RX5 27 "DepotNight$Washing" "soonestEnd" "I") (by decide +kernel)
  have hf31 := hts (.fieldLink RX5 31 "DepotNight$Washing" "knownUnits" "I") (by decide +kernel)
  have hf34 := hts (.fieldLink RX5 34 "DepotNight$Washing" "depot" "LDepotNight$Depot;") (by decide +kernel)
  obtain ⟨H, hHe⟩ : ∃ H, H = s.heap := ⟨_, rfl⟩
  obtain ⟨locs, hLo⟩ : ∃ locs : List Loc, locs = [] := ⟨_, rfl⟩
  have hS : va_S A s.heap H locs := by rw [hHe, hLo]; exact hS
  have hP : va_P D vwCl ([(aW, .inr (4, [.null, .null, .null, .null, .null, .null, .int W_soonestEnd, .int W_knownUnits]))]) H := by rw [hHe]; exact hP
  refine (fun (hgo : W p l e ({ frames := 1, cells := 5, slots := 25, locals := 12 } : Room) s m ([.ref aW, .ref aD] : List Value).toArray below meth c H locs 0 0 Q0 (F0 m 0 ls [])) => by rw [hHe, hLo] at hgo; exact hgo) ?_
  refine lv_aload_n hx hb dX5_init_0 rfl (lv_at hl 0 rfl) ?_
  refine W.objInit hx hb hown (hts (.methodLink RX5 3 objectInit) (by decide +kernel)) (hts (.instanceMethod objectInit) (by decide +kernel)) (hts (.code objectInit ⟨#[0xb1]⟩ 1 none) (by decide +kernel)) rfl (by rw [hml]; exact hl.1) rfl dX5_init_1 (Nat.le_of_ble_eq_true rfl) (Nat.le_of_ble_eq_true rfl) ?_
  refine W.eq (g2 := F0 m 4 ls []) rfl ?_
  refine lv_aload_n hx hb dX5_init_4 rfl (lv_at hl 0 rfl) ?_
  refine lv_iconst (v := 5) hx hb dX5_init_5 (by decide) ?_
  refine va_newa (atype := .int) (ty := .int) (N' := 5) (a0 := (5, .inl (fun _ => 0))) hx hb (hts (.arrayClass .int) (by decide +kernel)) rfl hK hP hD hS hA (fun _ => rfl) (by decide) (by decide) (by decide) (Nat.le_of_ble_eq_true rfl) (Nat.le_of_ble_eq_true rfl) dX5_init_6 (fun aW_numbers cA H hKn hP hD hS => ?_)
  have hcA := zAi hKn
  subst hcA
  refine W.widen (k := 1) (n := 5) (Nat.le_of_ble_eq_true rfl) (Nat.le_of_ble_eq_true rfl) ?_
  have hP : va_P D vwCl [(aW, .inr (4, [.null, .null, .null, .null, .null, .null, .int W_soonestEnd, .int W_knownUnits])), (aW_numbers, .inl (cI, 5, .inl (fun _ => 0)))] H := hP
  have hD : va_D A [(aW, .inr (4, [.null, .null, .null, .null, .null, .null, .int W_soonestEnd, .int W_knownUnits])), (aW_numbers, .inl (cI, 5, .inl (fun _ => 0)))] := hD
  refine va_putF (D := D) (ci := 4) (v := .ref aW_numbers) (ty := .array .int) (C := RX5) (T := TX5) (N := 8) hx hb hts hinX5 tyX5 tyX5_ok nmX5 hown hK hP hD hS 0 rfl rfl 1 (by decide) hf9 (fun _ h9 => h9) rfl hin rfl (by decide +kernel) rfl rfl (Nat.le_of_ble_eq_true rfl) dX5_init_8 (fun H locs hP hD hS => ?_)
  have hP : va_P D vwCl [(aW, .inr (4, [.null, .ref aW_numbers, .null, .null, .null, .null, .int W_soonestEnd, .int W_knownUnits])), (aW_numbers, .inl (cI, 5, .inl (fun _ => 0)))] H := hP
  have hD : va_D A [(aW, .inr (4, [.null, .ref aW_numbers, .null, .null, .null, .null, .int W_soonestEnd, .int W_knownUnits])), (aW_numbers, .inl (cI, 5, .inl (fun _ => 0)))] := hD
  refine lv_aload_n hx hb dX5_init_11 rfl (lv_at hl 0 rfl) ?_
  refine lv_iconst (v := 5) hx hb dX5_init_12 (by decide) ?_
  refine va_newa (atype := .int) (ty := .int) (N' := 5) (a0 := (5, .inl (fun _ => 0))) hx hb (hts (.arrayClass .int) (by decide +kernel)) rfl hK hP hD hS hA (fun _ => rfl) (by decide) (by decide) (by decide) (Nat.le_of_ble_eq_true rfl) (Nat.le_of_ble_eq_true rfl) dX5_init_13 (fun aW_trial cA H hKn hP hD hS => ?_)
  have hcA := zAi hKn
  subst hcA
  refine W.widen (k := 2) (n := 10) (Nat.le_of_ble_eq_true rfl) (Nat.le_of_ble_eq_true rfl) ?_
  have hP : va_P D vwCl [(aW, .inr (4, [.null, .ref aW_numbers, .null, .null, .null, .null, .int W_soonestEnd, .int W_knownUnits])), (aW_numbers, .inl (cI, 5, .inl (fun _ => 0))), (aW_trial, .inl (cI, 5, .inl (fun _ => 0)))] H := hP
  have hD : va_D A [(aW, .inr (4, [.null, .ref aW_numbers, .null, .null, .null, .null, .int W_soonestEnd, .int W_knownUnits])), (aW_numbers, .inl (cI, 5, .inl (fun _ => 0))), (aW_trial, .inl (cI, 5, .inl (fun _ => 0)))] := hD
  refine va_putF (D := D) (ci := 4) (v := .ref aW_trial) (ty := .array .int) (C := RX5) (T := TX5) (N := 8) hx hb hts hinX5 tyX5 tyX5_ok nmX5 hown hK hP hD hS 0 rfl rfl 2 (by decide) hf15 (fun _ h9 => h9) rfl hin rfl (by decide +kernel) rfl rfl (Nat.le_of_ble_eq_true rfl) dX5_init_15 (fun H locs hP hD hS => ?_)
  have hP : va_P D vwCl [(aW, .inr (4, [.null, .ref aW_numbers, .ref aW_trial, .null, .null, .null, .int W_soonestEnd, .int W_knownUnits])), (aW_numbers, .inl (cI, 5, .inl (fun _ => 0))), (aW_trial, .inl (cI, 5, .inl (fun _ => 0)))] H := hP
  have hD : va_D A [(aW, .inr (4, [.null, .ref aW_numbers, .ref aW_trial, .null, .null, .null, .int W_soonestEnd, .int W_knownUnits])), (aW_numbers, .inl (cI, 5, .inl (fun _ => 0))), (aW_trial, .inl (cI, 5, .inl (fun _ => 0)))] := hD
  refine lv_aload_n hx hb dX5_init_18 rfl (lv_at hl 0 rfl) ?_
  refine lv_iconst (v := 5) hx hb dX5_init_19 (by decide) ?_
  refine va_newa (atype := .int) (ty := .int) (N' := 5) (a0 := (5, .inl (fun _ => 0))) hx hb (hts (.arrayClass .int) (by decide +kernel)) rfl hK hP hD hS hA (fun _ => rfl) (by decide) (by decide) (by decide) (Nat.le_of_ble_eq_true rfl) (Nat.le_of_ble_eq_true rfl) dX5_init_20 (fun aW_bestOrder cA H hKn hP hD hS => ?_)
  have hcA := zAi hKn
  subst hcA
  refine W.widen (k := 3) (n := 15) (Nat.le_of_ble_eq_true rfl) (Nat.le_of_ble_eq_true rfl) ?_
  have hP : va_P D vwCl [(aW, .inr (4, [.null, .ref aW_numbers, .ref aW_trial, .null, .null, .null, .int W_soonestEnd, .int W_knownUnits])), (aW_numbers, .inl (cI, 5, .inl (fun _ => 0))), (aW_trial, .inl (cI, 5, .inl (fun _ => 0))), (aW_bestOrder, .inl (cI, 5, .inl (fun _ => 0)))] H := hP
  have hD : va_D A [(aW, .inr (4, [.null, .ref aW_numbers, .ref aW_trial, .null, .null, .null, .int W_soonestEnd, .int W_knownUnits])), (aW_numbers, .inl (cI, 5, .inl (fun _ => 0))), (aW_trial, .inl (cI, 5, .inl (fun _ => 0))), (aW_bestOrder, .inl (cI, 5, .inl (fun _ => 0)))] := hD
  refine va_putF (D := D) (ci := 4) (v := .ref aW_bestOrder) (ty := .array .int) (C := RX5) (T := TX5) (N := 8) hx hb hts hinX5 tyX5 tyX5_ok nmX5 hown hK hP hD hS 0 rfl rfl 3 (by decide) hf18 (fun _ h9 => h9) rfl hin rfl (by decide +kernel) rfl rfl (Nat.le_of_ble_eq_true rfl) dX5_init_22 (fun H locs hP hD hS => ?_)
  have hP : va_P D vwCl [(aW, .inr (4, [.null, .ref aW_numbers, .ref aW_trial, .ref aW_bestOrder, .null, .null, .int W_soonestEnd, .int W_knownUnits])), (aW_numbers, .inl (cI, 5, .inl (fun _ => 0))), (aW_trial, .inl (cI, 5, .inl (fun _ => 0))), (aW_bestOrder, .inl (cI, 5, .inl (fun _ => 0)))] H := hP
  have hD : va_D A [(aW, .inr (4, [.null, .ref aW_numbers, .ref aW_trial, .ref aW_bestOrder, .null, .null, .int W_soonestEnd, .int W_knownUnits])), (aW_numbers, .inl (cI, 5, .inl (fun _ => 0))), (aW_trial, .inl (cI, 5, .inl (fun _ => 0))), (aW_bestOrder, .inl (cI, 5, .inl (fun _ => 0)))] := hD
  refine lv_aload_n hx hb dX5_init_25 rfl (lv_at hl 0 rfl) ?_
  refine lv_iconst (v := 5) hx hb dX5_init_26 (by decide) ?_
  refine va_newa (atype := .int) (ty := .int) (N' := 5) (a0 := (5, .inl (fun _ => 0))) hx hb (hts (.arrayClass .int) (by decide +kernel)) rfl hK hP hD hS hA (fun _ => rfl) (by decide) (by decide) (by decide) (Nat.le_of_ble_eq_true rfl) (Nat.le_of_ble_eq_true rfl) dX5_init_27 (fun aW_readyByNumber cA H hKn hP hD hS => ?_)
  have hcA := zAi hKn
  subst hcA
  refine W.widen (k := 4) (n := 20) (Nat.le_of_ble_eq_true rfl) (Nat.le_of_ble_eq_true rfl) ?_
  have hP : va_P D vwCl [(aW, .inr (4, [.null, .ref aW_numbers, .ref aW_trial, .ref aW_bestOrder, .null, .null, .int W_soonestEnd, .int W_knownUnits])), (aW_numbers, .inl (cI, 5, .inl (fun _ => 0))), (aW_trial, .inl (cI, 5, .inl (fun _ => 0))), (aW_bestOrder, .inl (cI, 5, .inl (fun _ => 0))), (aW_readyByNumber, .inl (cI, 5, .inl (fun _ => 0)))] H := hP
  have hD : va_D A [(aW, .inr (4, [.null, .ref aW_numbers, .ref aW_trial, .ref aW_bestOrder, .null, .null, .int W_soonestEnd, .int W_knownUnits])), (aW_numbers, .inl (cI, 5, .inl (fun _ => 0))), (aW_trial, .inl (cI, 5, .inl (fun _ => 0))), (aW_bestOrder, .inl (cI, 5, .inl (fun _ => 0))), (aW_readyByNumber, .inl (cI, 5, .inl (fun _ => 0)))] := hD
  refine va_putF (D := D) (ci := 4) (v := .ref aW_readyByNumber) (ty := .array .int) (C := RX5) (T := TX5) (N := 8) hx hb hts hinX5 tyX5 tyX5_ok nmX5 hown hK hP hD hS 0 rfl rfl 4 (by decide) hf21 (fun _ h9 => h9) rfl hin rfl (by decide +kernel) rfl rfl (Nat.le_of_ble_eq_true rfl) dX5_init_29 (fun H locs hP hD hS => ?_)
  have hP : va_P D vwCl [(aW, .inr (4, [.null, .ref aW_numbers, .ref aW_trial, .ref aW_bestOrder, .ref aW_readyByNumber, .null, .int W_soonestEnd, .int W_knownUnits])), (aW_numbers, .inl (cI, 5, .inl (fun _ => 0))), (aW_trial, .inl (cI, 5, .inl (fun _ => 0))), (aW_bestOrder, .inl (cI, 5, .inl (fun _ => 0))), (aW_readyByNumber, .inl (cI, 5, .inl (fun _ => 0)))] H := hP
  have hD : va_D A [(aW, .inr (4, [.null, .ref aW_numbers, .ref aW_trial, .ref aW_bestOrder, .ref aW_readyByNumber, .null, .int W_soonestEnd, .int W_knownUnits])), (aW_numbers, .inl (cI, 5, .inl (fun _ => 0))), (aW_trial, .inl (cI, 5, .inl (fun _ => 0))), (aW_bestOrder, .inl (cI, 5, .inl (fun _ => 0))), (aW_readyByNumber, .inl (cI, 5, .inl (fun _ => 0)))] := hD
  refine lv_aload_n hx hb dX5_init_32 rfl (lv_at hl 0 rfl) ?_
  refine lv_iconst (v := 5) hx hb dX5_init_33 (by decide) ?_
  refine va_newa (atype := .int) (ty := .int) (N' := 5) (a0 := (5, .inl (fun _ => 0))) hx hb (hts (.arrayClass .int) (by decide +kernel)) rfl hK hP hD hS hA (fun _ => rfl) (by decide) (by decide) (by decide) (Nat.le_of_ble_eq_true rfl) (Nat.le_of_ble_eq_true rfl) dX5_init_34 (fun aW_readyByBest cA H hKn hP hD hS => ?_)
  have hcA := zAi hKn
  subst hcA
  refine W.widen (k := 5) (n := 25) (Nat.le_of_ble_eq_true rfl) (Nat.le_of_ble_eq_true rfl) ?_
  have hP : va_P D vwCl [(aW, .inr (4, [.null, .ref aW_numbers, .ref aW_trial, .ref aW_bestOrder, .ref aW_readyByNumber, .null, .int W_soonestEnd, .int W_knownUnits])), (aW_numbers, .inl (cI, 5, .inl (fun _ => 0))), (aW_trial, .inl (cI, 5, .inl (fun _ => 0))), (aW_bestOrder, .inl (cI, 5, .inl (fun _ => 0))), (aW_readyByNumber, .inl (cI, 5, .inl (fun _ => 0))), (aW_readyByBest, .inl (cI, 5, .inl (fun _ => 0)))] H := hP
  have hD : va_D A [(aW, .inr (4, [.null, .ref aW_numbers, .ref aW_trial, .ref aW_bestOrder, .ref aW_readyByNumber, .null, .int W_soonestEnd, .int W_knownUnits])), (aW_numbers, .inl (cI, 5, .inl (fun _ => 0))), (aW_trial, .inl (cI, 5, .inl (fun _ => 0))), (aW_bestOrder, .inl (cI, 5, .inl (fun _ => 0))), (aW_readyByNumber, .inl (cI, 5, .inl (fun _ => 0))), (aW_readyByBest, .inl (cI, 5, .inl (fun _ => 0)))] := hD
  refine va_putF (D := D) (ci := 4) (v := .ref aW_readyByBest) (ty := .array .int) (C := RX5) (T := TX5) (N := 8) hx hb hts hinX5 tyX5 tyX5_ok nmX5 hown hK hP hD hS 0 rfl rfl 5 (by decide) hf24 (fun _ h9 => h9) rfl hin rfl (by decide +kernel) rfl rfl (Nat.le_of_ble_eq_true rfl) dX5_init_36 (fun H locs hP hD hS => ?_)
  have hP : va_P D vwCl [(aW, .inr (4, [.null, .ref aW_numbers, .ref aW_trial, .ref aW_bestOrder, .ref aW_readyByNumber, .ref aW_readyByBest, .int W_soonestEnd, .int W_knownUnits])), (aW_numbers, .inl (cI, 5, .inl (fun _ => 0))), (aW_trial, .inl (cI, 5, .inl (fun _ => 0))), (aW_bestOrder, .inl (cI, 5, .inl (fun _ => 0))), (aW_readyByNumber, .inl (cI, 5, .inl (fun _ => 0))), (aW_readyByBest, .inl (cI, 5, .inl (fun _ => 0)))] H := hP
  have hD : va_D A [(aW, .inr (4, [.null, .ref aW_numbers, .ref aW_trial, .ref aW_bestOrder, .ref aW_readyByNumber, .ref aW_readyByBest, .int W_soonestEnd, .int W_knownUnits])), (aW_numbers, .inl (cI, 5, .inl (fun _ => 0))), (aW_trial, .inl (cI, 5, .inl (fun _ => 0))), (aW_bestOrder, .inl (cI, 5, .inl (fun _ => 0))), (aW_readyByNumber, .inl (cI, 5, .inl (fun _ => 0))), (aW_readyByBest, .inl (cI, 5, .inl (fun _ => 0)))] := hD
  refine lv_aload_n hx hb dX5_init_39 rfl (lv_at hl 0 rfl) ?_
  refine lv_iconst (v := 0) hx hb dX5_init_40 (by decide) ?_
  refine va_put (D := D) (ci := 4) (v := .int 0) (ty := .int) (C := RX5) (T := TX5) (N := 8) hx hb hts hinX5 tyX5 tyX5_ok nmX5 hown hK hP hD hS 0 rfl rfl 6 (by decide) hf27 (fun _ h9 => h9) rfl (by decide +kernel) rfl rfl (Nat.le_of_ble_eq_true rfl) dX5_init_41 (fun H locs hP hD hS => ?_)
  have hP : va_P D vwCl [(aW, .inr (4, [.null, .ref aW_numbers, .ref aW_trial, .ref aW_bestOrder, .ref aW_readyByNumber, .ref aW_readyByBest, .int 0, .int W_knownUnits])), (aW_numbers, .inl (cI, 5, .inl (fun _ => 0))), (aW_trial, .inl (cI, 5, .inl (fun _ => 0))), (aW_bestOrder, .inl (cI, 5, .inl (fun _ => 0))), (aW_readyByNumber, .inl (cI, 5, .inl (fun _ => 0))), (aW_readyByBest, .inl (cI, 5, .inl (fun _ => 0)))] H := hP
  have hD : va_D A [(aW, .inr (4, [.null, .ref aW_numbers, .ref aW_trial, .ref aW_bestOrder, .ref aW_readyByNumber, .ref aW_readyByBest, .int 0, .int W_knownUnits])), (aW_numbers, .inl (cI, 5, .inl (fun _ => 0))), (aW_trial, .inl (cI, 5, .inl (fun _ => 0))), (aW_bestOrder, .inl (cI, 5, .inl (fun _ => 0))), (aW_readyByNumber, .inl (cI, 5, .inl (fun _ => 0))), (aW_readyByBest, .inl (cI, 5, .inl (fun _ => 0)))] := hD
  refine lv_aload_n hx hb dX5_init_44 rfl (lv_at hl 0 rfl) ?_
  refine lv_iconst (v := 0) hx hb dX5_init_45 (by decide) ?_
  refine va_put (D := D) (ci := 4) (v := .int 0) (ty := .int) (C := RX5) (T := TX5) (N := 8) hx hb hts hinX5 tyX5 tyX5_ok nmX5 hown hK hP hD hS 0 rfl rfl 7 (by decide) hf31 (fun _ h9 => h9) rfl (by decide +kernel) rfl rfl (Nat.le_of_ble_eq_true rfl) dX5_init_46 (fun H locs hP hD hS => ?_)
  have hP : va_P D vwCl [(aW, .inr (4, [.null, .ref aW_numbers, .ref aW_trial, .ref aW_bestOrder, .ref aW_readyByNumber, .ref aW_readyByBest, .int 0, .int 0])), (aW_numbers, .inl (cI, 5, .inl (fun _ => 0))), (aW_trial, .inl (cI, 5, .inl (fun _ => 0))), (aW_bestOrder, .inl (cI, 5, .inl (fun _ => 0))), (aW_readyByNumber, .inl (cI, 5, .inl (fun _ => 0))), (aW_readyByBest, .inl (cI, 5, .inl (fun _ => 0)))] H := hP
  have hD : va_D A [(aW, .inr (4, [.null, .ref aW_numbers, .ref aW_trial, .ref aW_bestOrder, .ref aW_readyByNumber, .ref aW_readyByBest, .int 0, .int 0])), (aW_numbers, .inl (cI, 5, .inl (fun _ => 0))), (aW_trial, .inl (cI, 5, .inl (fun _ => 0))), (aW_bestOrder, .inl (cI, 5, .inl (fun _ => 0))), (aW_readyByNumber, .inl (cI, 5, .inl (fun _ => 0))), (aW_readyByBest, .inl (cI, 5, .inl (fun _ => 0)))] := hD
  refine lv_aload_n hx hb dX5_init_49 rfl (lv_at hl 0 rfl) ?_
  refine lv_aload_n hx hb dX5_init_50 rfl (lv_at hl 1 rfl) ?_
  refine va_putF (D := D) (ci := 4) (v := .ref aD) (ty := .object "DepotNight$Depot") (C := RX5) (T := TX5) (N := 8) hx hb hts hinX5 tyX5 tyX5_ok nmX5 hown hK hP hD hS 0 rfl rfl 0 (by decide) hf34 (fun _ h9 => h9) rfl hin rfl (by decide +kernel) rfl rfl (Nat.le_of_ble_eq_true rfl) dX5_init_51 (fun H locs hP hD hS => ?_)
  have hP : va_P D vwCl [(aW, .inr (4, [.ref aD, .ref aW_numbers, .ref aW_trial, .ref aW_bestOrder, .ref aW_readyByNumber, .ref aW_readyByBest, .int 0, .int 0])), (aW_numbers, .inl (cI, 5, .inl (fun _ => 0))), (aW_trial, .inl (cI, 5, .inl (fun _ => 0))), (aW_bestOrder, .inl (cI, 5, .inl (fun _ => 0))), (aW_readyByNumber, .inl (cI, 5, .inl (fun _ => 0))), (aW_readyByBest, .inl (cI, 5, .inl (fun _ => 0)))] H := hP
  have hD : va_D A [(aW, .inr (4, [.ref aD, .ref aW_numbers, .ref aW_trial, .ref aW_bestOrder, .ref aW_readyByNumber, .ref aW_readyByBest, .int 0, .int 0])), (aW_numbers, .inl (cI, 5, .inl (fun _ => 0))), (aW_trial, .inl (cI, 5, .inl (fun _ => 0))), (aW_bestOrder, .inl (cI, 5, .inl (fun _ => 0))), (aW_readyByNumber, .inl (cI, 5, .inl (fun _ => 0))), (aW_readyByBest, .inl (cI, 5, .inl (fun _ => 0)))] := hD
  refine lv_iconst (v := 0) hx hb dX5_init_54 (by decide) ?_
  refine lv_istore_n (lv' := [(2, .int 0), (0, .ref aW), (1, .ref aD)]) hx hb dX5_init_55 rfl hl (by decide) rfl (fun ls hl => ?_)
  have wZ_X5_init_56 : ∀ (W_trial : Nat → Int32) (W_bestOrder : Nat → Int32) (W_readyByNumber : Nat → Int32) (W_readyByBest : Nat → Int32) (W_soonestEnd : Int32) (W_knownUnits : Int32), ∀ (n : Nat) (x2 : Int32) (W_numbers : Nat → Int32), Z_X5_init_56 post W_trial W_bestOrder W_readyByNumber W_readyByBest W_soonestEnd W_knownUnits n x2 W_numbers → ∀ (H : Heap) (locs : List Loc) (ls : Array Slot), va_P D vwCl [(aW, .inr (4, [.ref aD, .ref aW_numbers, .ref aW_trial, .ref aW_bestOrder, .ref aW_readyByNumber, .ref aW_readyByBest, .int W_soonestEnd, .int W_knownUnits])), (aW_numbers, .inl (cI, 5, .inl W_numbers)), (aW_trial, .inl (cI, 5, .inl W_trial)), (aW_bestOrder, .inl (cI, 5, .inl W_bestOrder)), (aW_readyByNumber, .inl (cI, 5, .inl W_readyByNumber)), (aW_readyByBest, .inl (cI, 5, .inl W_readyByBest))] H → va_D A [(aW, .inr (4, [.ref aD, .ref aW_numbers, .ref aW_trial, .ref aW_bestOrder, .ref aW_readyByNumber, .ref aW_readyByBest, .int W_soonestEnd, .int W_knownUnits])), (aW_numbers, .inl (cI, 5, .inl W_numbers)), (aW_trial, .inl (cI, 5, .inl W_trial)), (aW_bestOrder, .inl (cI, 5, .inl W_bestOrder)), (aW_readyByNumber, .inl (cI, 5, .inl W_readyByNumber)), (aW_readyByBest, .inl (cI, 5, .inl W_readyByBest))] → va_S A s.heap H locs → lv_has ls 3 [(0, .ref aW), (2, .int x2)] → W p l e ({ frames := 1, cells := 5, slots := 25, locals := 12 } : Room) s m ([.ref aW, .ref aD] : List Value).toArray below meth c H locs 5 25 Q0 (F0 m 56 ls []) := by
    intro W_trial W_bestOrder W_readyByNumber W_readyByBest W_soonestEnd W_knownUnits n
    induction n with
    | zero =>
      intro x2 W_numbers hw
      exact (show False from hw).elim
    | succ n hK56 =>
      intro x2 W_numbers hw H locs ls hP hD hS hl
      have hw : Y_X5_init_56 post W_trial W_bestOrder W_readyByNumber W_readyByBest W_soonestEnd W_knownUnits (Z_X5_init_56 post W_trial W_bestOrder W_readyByNumber W_readyByBest W_soonestEnd W_knownUnits n) x2 W_numbers := hw
      unfold Y_X5_init_56 at hw
      refine lv_iload_n hx hb dX5_init_56 rfl (lv_at hl 1 rfl) ?_
      refine lv_iconst (v := 5) hx hb dX5_init_57 (by decide) ?_
      refine lv_icmp_ge (tgt := 74) hx hb dX5_init_58 (by decide) (fun hc1 => ?_) (fun hc1 => ?_)
      · have hw := hw.1 hc1
        exact hret W_numbers W_trial W_bestOrder W_readyByNumber W_readyByBest W_soonestEnd W_knownUnits aW_numbers aW_trial aW_bestOrder aW_readyByNumber aW_readyByBest H locs 74 ls hw dX5_init_74 hP hD hS
      · have hw := hw.2 hc1
        refine lv_aload_n hx hb dX5_init_61 rfl (lv_at hl 0 rfl) ?_
        refine va_get (D := D) (ci := 4) (v := .ref aW_numbers) (C := RX5) (T := TX5) (N := 8) hx hb hts hinX5 hown hK hP 0 rfl rfl 1 (by decide) hf9 (fun _ h9 => h9) rfl dX5_init_62 ?_
        refine lv_iload_n hx hb dX5_init_65 rfl (lv_at hl 1 rfl) ?_
        refine lv_iload_n hx hb dX5_init_66 rfl (lv_at hl 1 rfl) ?_
        obtain ⟨hb2, hw⟩ := hw
        refine va_iast hx hb hK hP hD hS 1 0 rfl rfl hb2 dX5_init_67 (fun H locs hP hD hS => ?_)
        have hP : va_P D vwCl [(aW, .inr (4, [.ref aD, .ref aW_numbers, .ref aW_trial, .ref aW_bestOrder, .ref aW_readyByNumber, .ref aW_readyByBest, .int W_soonestEnd, .int W_knownUnits])), (aW_numbers, .inl (cI, 5, .inl (upd W_numbers x2.toNatClampNeg x2))), (aW_trial, .inl (cI, 5, .inl W_trial)), (aW_bestOrder, .inl (cI, 5, .inl W_bestOrder)), (aW_readyByNumber, .inl (cI, 5, .inl W_readyByNumber)), (aW_readyByBest, .inl (cI, 5, .inl W_readyByBest))] H := hP
        have hD : va_D A [(aW, .inr (4, [.ref aD, .ref aW_numbers, .ref aW_trial, .ref aW_bestOrder, .ref aW_readyByNumber, .ref aW_readyByBest, .int W_soonestEnd, .int W_knownUnits])), (aW_numbers, .inl (cI, 5, .inl (upd W_numbers x2.toNatClampNeg x2))), (aW_trial, .inl (cI, 5, .inl W_trial)), (aW_bestOrder, .inl (cI, 5, .inl W_bestOrder)), (aW_readyByNumber, .inl (cI, 5, .inl W_readyByNumber)), (aW_readyByBest, .inl (cI, 5, .inl W_readyByBest))] := hD
        refine lv_iinc (v := (x2 + 1)) (lv' := [(2, .int (x2 + 1)), (0, .ref aW)]) hx hb dX5_init_68 hl (k := 1) rfl rfl (by decide) rfl (fun ls hl => ?_)
        refine lv_goto (tgt := 56) hx hb dX5_init_71 (by decide) ?_
        exact hK56 (x2 + 1) (upd W_numbers x2.toNatClampNeg x2) hw H locs ls hP hD hS (lv_sub hl [1, 0] rfl)
  obtain ⟨n3, hw⟩ := hw
  exact wZ_X5_init_56 (fun _ => 0) (fun _ => 0) (fun _ => 0) (fun _ => 0) 0 0 n3 0 (fun _ => 0) hw H locs ls hP hD hS (lv_sub hl [1, 0] rfl)
