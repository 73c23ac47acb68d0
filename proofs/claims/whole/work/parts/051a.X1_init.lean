/-! X1_init -/
def wp_X1_init (P_found : Int32) (P_narrowest : Int32) (P_knownAt : Int32) (post : (Nat → Int32) → (Nat → Int32) → (Int32) → (Int32) → (Int32) → Prop) : Prop :=
  post (fun _ => 0) (fun _ => 0) 0 (-1) (-1)
set_option maxHeartbeats 4000000 in
set_option maxRecDepth 100000 in
theorem c_X1_init (l : Launch) (D : va_G) (cI cJ cZ : ClassId) (aP aD : Nat) (sz : Nat) (P_found : Int32) (P_narrowest : Int32) (P_knownAt : Int32) (post : (Nat → Int32) → (Nat → Int32) → (Int32) → (Int32) → (Int32) → Prop) (hw : wp_X1_init P_found P_narrowest P_knownAt post) : Met l yX1_init wsX1_init ({ frames := 1, cells := 2, slots := 248, locals := 12 } : Room) (va_Pc [.ref aP, .ref aD] (zPre D cI cJ cZ ([(aP, .inr (1, [.null, .null, .null, .int P_found, .int P_narrowest, .int P_knownAt]))]) sz)) (va_Qv (fun (u : (Nat → Int32) × (Nat → Int32) × (Int32) × (Int32) × (Int32) × (Nat) × (Nat)) => post (u.1) (u.2.1) (u.2.2.1) (u.2.2.2.1) (u.2.2.2.2.1)) (zPost D cI cJ cZ (va_A ([(aP, .inr (1, [.null, .null, .null, .int P_found, .int P_narrowest, .int P_knownAt]))]) sz) (fun u : (Nat → Int32) × (Nat → Int32) × (Int32) × (Int32) × (Int32) × (Nat) × (Nat) => [(aP, .inr (1, [.ref aD, (.ref (u.2.2.2.2.2.1)), (.ref (u.2.2.2.2.2.2)), .int (u.2.2.1), .int (u.2.2.2.1), .int (u.2.2.2.2.1)])), ((u.2.2.2.2.2.1), .inl (cI, 243, .inl (u.1))), ((u.2.2.2.2.2.2), .inl (cI, 5, .inl (u.2.1)))])) (va_A ([(aP, .inr (1, [.null, .null, .null, .int P_found, .int P_narrowest, .int P_knownAt]))]) sz)) 2 248 (va_A ([(aP, .inr (1, [.null, .null, .null, .int P_found, .int P_narrowest, .int P_knownAt]))]) sz) := by
  unfold wp_X1_init at hw
  refine Met.ofW (cc := cX1_init) (maxL := 2) (ret := none) (by decide) rfl ?_
  intro p e s m args below meth c s₁ B hml hv
  obtain ⟨rfl, hsz, hP, hK, hD0⟩ := hv
  have hx := B.exec
  have hb := B.bytes
  have hr := B.returns
  have hts := atoms_spec (ws := wsX1_init) B.pre
  have hown : s.vm.findClass RX1 = some m.cls := findClass_of_methodNamed B.named
  have hlocks := B.notSynchronized
  have hin : meth.name = "<init>" := (name_of_methodNamed B.named B.method).1
  subst hsz
  have hD := hD0.self (sz := s.heap.size)
  generalize hAe : va_A ([(aP, .inr (1, [.null, .null, .null, .int P_found, .int P_narrowest, .int P_knownAt]))]) s.heap.size = A at hD ⊢
  have hA : ∀ q : Nat, s.heap.size ≤ q → A q := fun q h => by rw [← hAe]; exact Or.inr h
  have hS : va_S A s.heap s.heap [] := va_S.rf
  refine (fun (hall : ∀ Q0 : State → Prop, (∀ (v0 : Nat → Int32) (v1 : Nat → Int32) (v2 : Int32) (v3 : Int32) (v4 : Int32) (v5 : Nat) (v6 : Nat) (H : Heap) (locs : List Loc) (pc : Nat) (ls : Array Slot), post v0 v1 v2 v3 v4 → decode cX1_init pc = .ok (.return_, 1) → va_P D vwCl ([(aP, .inr (1, [.ref aD, .ref v5, .ref v6, .int v2, .int v3, .int v4])), (v5, .inl (cI, 243, .inl v0)), (v6, .inl (cI, 5, .inl v1))]) H → va_D A ([(aP, .inr (1, [.ref aD, .ref v5, .ref v6, .int v2, .int v3, .int v4])), (v5, .inl (cI, 243, .inl v0)), (v6, .inl (cI, 5, .inl v1))]) → va_S A s.heap H locs → W p l e ({ frames := 1, cells := 2, slots := 248, locals := 12 } : Room) s m ([.ref aP, .ref aD] : List Value).toArray below meth c H locs 2 248 Q0 (F0 m pc ls [])) → W p l e ({ frames := 1, cells := 2, slots := 248, locals := 12 } : Room) s m ([.ref aP, .ref aD] : List Value).toArray below meth c s.heap [] 0 0 Q0 (entryFrame m ([.ref aP, .ref aD] : List Value).toArray 2)) => hall _ (fun v0 v1 v2 v3 v4 v5 v6 H locs pc ls hw hd hP hD hS => W.vret hx hb hr (fun t ht hW => ⟨⟨(v0, v1, v2, v3, v4, v5, v6), rfl, hw, by rw [ht]; exact hP, va_K.moved hW.alike hK, hD⟩, hS.F ht⟩) hS.2.2 hd)) ?_
  intro Q0 hret
  have hl := lv_entry ([.ref aP, .ref aD]) (n := 2) (Nat.le_of_ble_eq_true rfl)
  rw [lg_entry_eq]
  generalize (lg_sl ([.ref aP, .ref aD]) ++ List.replicate (2 - (lg_sl ([.ref aP, .ref aD])).length) Slot.unset).toArray = ls at hl ⊢
  have hl : lv_has ls 2 [(0, .ref aP), (1, .ref aD)] := hl
  have hinX1 : ∀ w ∈ u_ws RX1 TX1 6, w ∈ wsX1_init := by decide +kernel
  have hf11 := hts (.fieldLink RX1 11 "DepotNight$Parkings" "packed" "[I") (by decide +kernel)
  have hf15 := hts (.fieldLink RX1 15 "DepotNight$Parkings" "row" "[I") (by decide +kernel)
  have hf18 := hts (.fieldLink RX1 18 "DepotNight$Parkings" "found" "I") (by decide +kernel)
  have hf22 := hts (.fieldLink RX1 22 "DepotNight$Parkings" "narrowest" "I") (by decide +kernel)
  have hf25 := hts (.fieldLink RX1 25 "DepotNight$Parkings" "knownAt" "I") (by decide +kernel)
  have hf28 := hts (.fieldLink RX1 28 "DepotNight$Parkings" "depot" "LDepotNight$Depot;") (by decide +kernel)
  obtain ⟨H, hHe⟩ : ∃ H, H = s.heap := ⟨_, rfl⟩
  obtain ⟨locs, hLo⟩ : ∃ locs : List Loc, locs = [] := ⟨_, rfl⟩
  have hS : va_S A s.heap H locs := by rw [hHe, hLo]; exact hS
  have hP : va_P D vwCl ([(aP, .inr (1, [.null, .null, .null, .int P_found, .int P_narrowest, .int P_knownAt]))]) H := by rw [hHe]; exact hP
  refine (fun (hgo : W p l e ({ frames := 1, cells := 2, slots := 248, locals := 12 } : Room) s m ([.ref aP, .ref aD] : List Value).toArray below meth c H locs 0 0 Q0 (F0 m 0 ls [])) => by rw [hHe, hLo] at hgo; exact hgo) ?_
  refine lv_aload_n hx hb dX1_init_0 rfl (lv_at hl 0 rfl) ?_
  refine W.objInit hx hb hown (hts (.methodLink RX1 3 objectInit) (by decide +kernel)) (hts (.instanceMethod objectInit) (by decide +kernel)) (hts (.code objectInit ⟨#[0xb1]⟩ 1 none) (by decide +kernel)) rfl (by rw [hml]; exact hl.1) rfl dX1_init_1 (Nat.le_of_ble_eq_true rfl) (Nat.le_of_ble_eq_true rfl) ?_
  refine W.eq (g2 := F0 m 4 ls []) rfl ?_
  refine lv_aload_n hx hb dX1_init_4 rfl (lv_at hl 0 rfl) ?_
  refine lv_sipush (v := 243) hx hb dX1_init_5 (by decide) ?_
  refine va_newa (atype := .int) (ty := .int) (N' := 243) (a0 := (243, .inl (fun _ => 0))) hx hb (hts (.arrayClass .int) (by decide +kernel)) rfl hK hP hD hS hA (fun _ => rfl) (by decide) (by decide) (by decide) (Nat.le_of_ble_eq_true rfl) (Nat.le_of_ble_eq_true rfl) dX1_init_8 (fun aP_packed cA H hKn hP hD hS => ?_)
  have hcA := zAi hKn
  subst hcA
  refine W.widen (k := 1) (n := 243) (Nat.le_of_ble_eq_true rfl) (Nat.le_of_ble_eq_true rfl) ?_
  have hP : va_P D vwCl [(aP, .inr (1, [.null, .null, .null, .int P_found, .int P_narrowest, .int P_knownAt])), (aP_packed, .inl (cI, 243, .inl (fun _ => 0)))] H := hP
  have hD : va_D A [(aP, .inr (1, [.null, .null, .null, .int P_found, .int P_narrowest, .int P_knownAt])), (aP_packed, .inl (cI, 243, .inl (fun _ => 0)))] := hD
  refine va_putF (D := D) (ci := 1) (v := .ref aP_packed) (ty := .array .int) (C := RX1) (T := TX1) (N := 6) hx hb hts hinX1 tyX1 tyX1_ok nmX1 hown hK hP hD hS 0 rfl rfl 1 (by decide) hf11 (fun _ h9 => h9) rfl hin rfl (by decide +kernel) rfl rfl (Nat.le_of_ble_eq_true rfl) dX1_init_10 (fun H locs hP hD hS => ?_)
  have hP : va_P D vwCl [(aP, .inr (1, [.null, .ref aP_packed, .null, .int P_found, .int P_narrowest, .int P_knownAt])), (aP_packed, .inl (cI, 243, .inl (fun _ => 0)))] H := hP
  have hD : va_D A [(aP, .inr (1, [.null, .ref aP_packed, .null, .int P_found, .int P_narrowest, .int P_knownAt])), (aP_packed, .inl (cI, 243, .inl (fun _ => 0)))] := hD
  refine lv_aload_n hx hb dX1_init_13 rfl (lv_at hl 0 rfl) ?_
  refine lv_iconst (v := 5) hx hb dX1_init_14 (by decide) ?_
  refine va_newa (atype := .int) (ty := .int) (N' := 5) (a0 := (5, .inl (fun _ => 0))) hx hb (hts (.arrayClass .int) (by decide +kernel)) rfl hK hP hD hS hA (fun _ => rfl) (by decide) (by decide) (by decide) (Nat.le_of_ble_eq_true rfl) (Nat.le_of_ble_eq_true rfl) dX1_init_15 (fun aP_row cA H hKn hP hD hS => ?_)
  have hcA := zAi hKn
  subst hcA
  refine W.widen (k := 2) (n := 248) (Nat.le_of_ble_eq_true rfl) (Nat.le_of_ble_eq_true rfl) ?_
  have hP : va_P D vwCl [(aP, .inr (1, [.null, .ref aP_packed, .null, .int P_found, .int P_narrowest, .int P_knownAt])), (aP_packed, .inl (cI, 243, .inl (fun _ => 0))), (aP_row, .inl (cI, 5, .inl (fun _ => 0)))] H := hP
  have hD : va_D A [(aP, .inr (1, [.null, .ref aP_packed, .null, .int P_found, .int P_narrowest, .int P_knownAt])), (aP_packed, .inl (cI, 243, .inl (fun _ => 0))), (aP_row, .inl (cI, 5, .inl (fun _ => 0)))] := hD
  refine va_putF (D := D) (ci := 1) (v := .ref aP_row) (ty := .array .int) (C := RX1) (T := TX1) (N := 6) hx hb hts hinX1 tyX1 tyX1_ok nmX1 hown hK hP hD hS 0 rfl rfl 2 (by decide) hf15 (fun _ h9 => h9) rfl hin rfl (by decide +kernel) rfl rfl (Nat.le_of_ble_eq_true rfl) dX1_init_17 (fun H locs hP hD hS => ?_)
  have hP : va_P D vwCl [(aP, .inr (1, [.null, .ref aP_packed, .ref aP_row, .int P_found, .int P_narrowest, .int P_knownAt])), (aP_packed, .inl (cI, 243, .inl (fun _ => 0))), (aP_row, .inl (cI, 5, .inl (fun _ => 0)))] H := hP
  have hD : va_D A [(aP, .inr (1, [.null, .ref aP_packed, .ref aP_row, .int P_found, .int P_narrowest, .int P_knownAt])), (aP_packed, .inl (cI, 243, .inl (fun _ => 0))), (aP_row, .inl (cI, 5, .inl (fun _ => 0)))] := hD
  refine lv_aload_n hx hb dX1_init_20 rfl (lv_at hl 0 rfl) ?_
  refine lv_iconst (v := 0) hx hb dX1_init_21 (by decide) ?_
  refine va_put (D := D) (ci := 1) (v := .int 0) (ty := .int) (C := RX1) (T := TX1) (N := 6) hx hb hts hinX1 tyX1 tyX1_ok nmX1 hown hK hP hD hS 0 rfl rfl 3 (by decide) hf18 (fun _ h9 => h9) rfl (by decide +kernel) rfl rfl (Nat.le_of_ble_eq_true rfl) dX1_init_22 (fun H locs hP hD hS => ?_)
  have hP : va_P D vwCl [(aP, .inr (1, [.null, .ref aP_packed, .ref aP_row, .int 0, .int P_narrowest, .int P_knownAt])), (aP_packed, .inl (cI, 243, .inl (fun _ => 0))), (aP_row, .inl (cI, 5, .inl (fun _ => 0)))] H := hP
  have hD : va_D A [(aP, .inr (1, [.null, .ref aP_packed, .ref aP_row, .int 0, .int P_narrowest, .int P_knownAt])), (aP_packed, .inl (cI, 243, .inl (fun _ => 0))), (aP_row, .inl (cI, 5, .inl (fun _ => 0)))] := hD
  refine lv_aload_n hx hb dX1_init_25 rfl (lv_at hl 0 rfl) ?_
  refine lv_iconst (v := (-1)) hx hb dX1_init_26 (by decide) ?_
  refine va_put (D := D) (ci := 1) (v := .int (-1)) (ty := .int) (C := RX1) (T := TX1) (N := 6) hx hb hts hinX1 tyX1 tyX1_ok nmX1 hown hK hP hD hS 0 rfl rfl 4 (by decide) hf22 (fun _ h9 => h9) rfl (by decide +kernel) rfl rfl (Nat.le_of_ble_eq_true rfl) dX1_init_27 (fun H locs hP hD hS => ?_)
  have hP : va_P D vwCl [(aP, .inr (1, [.null, .ref aP_packed, .ref aP_row, .int 0, .int (-1), .int P_knownAt])), (aP_packed, .inl (cI, 243, .inl (fun _ => 0))), (aP_row, .inl (cI, 5, .inl (fun _ => 0)))] H := hP
  have hD : va_D A [(aP, .inr (1, [.null, .ref aP_packed, .ref aP_row, .int 0, .int (-1), .int P_knownAt])), (aP_packed, .inl (cI, 243, .inl (fun _ => 0))), (aP_row, .inl (cI, 5, .inl (fun _ => 0)))] := hD
  refine lv_aload_n hx hb dX1_init_30 rfl (lv_at hl 0 rfl) ?_
  refine lv_iconst (v := (-1)) hx hb dX1_init_31 (by decide) ?_
  refine va_put (D := D) (ci := 1) (v := .int (-1)) (ty := .int) (C := RX1) (T := TX1) (N := 6) hx hb hts hinX1 tyX1 tyX1_ok nmX1 hown hK hP hD hS 0 rfl rfl 5 (by decide) hf25 (fun _ h9 => h9) rfl (by decide +kernel) rfl rfl (Nat.le_of_ble_eq_true rfl) dX1_init_32 (fun H locs hP hD hS => ?_)
  have hP : va_P D vwCl [(aP, .inr (1, [.null, .ref aP_packed, .ref aP_row, .int 0, .int (-1), .int (-1)])), (aP_packed, .inl (cI, 243, .inl (fun _ => 0))), (aP_row, .inl (cI, 5, .inl (fun _ => 0)))] H := hP
  have hD : va_D A [(aP, .inr (1, [.null, .ref aP_packed, .ref aP_row, .int 0, .int (-1), .int (-1)])), (aP_packed, .inl (cI, 243, .inl (fun _ => 0))), (aP_row, .inl (cI, 5, .inl (fun _ => 0)))] := hD
  refine lv_aload_n hx hb dX1_init_35 rfl (lv_at hl 0 rfl) ?_
  refine lv_aload_n hx hb dX1_init_36 rfl (lv_at hl 1 rfl) ?_
  refine va_putF (D := D) (ci := 1) (v := .ref aD) (ty := .object "DepotNight$Depot") (C := RX1) (T := TX1) (N := 6) hx hb hts hinX1 tyX1 tyX1_ok nmX1 hown hK hP hD hS 0 rfl rfl 0 (by decide) hf28 (fun _ h9 => h9) rfl hin rfl (by decide +kernel) rfl rfl (Nat.le_of_ble_eq_true rfl) dX1_init_37 (fun H locs hP hD hS => ?_)
  have hP : va_P D vwCl [(aP, .inr (1, [.ref aD, .ref aP_packed, .ref aP_row, .int 0, .int (-1), .int (-1)])), (aP_packed, .inl (cI, 243, .inl (fun _ => 0))), (aP_row, .inl (cI, 5, .inl (fun _ => 0)))] H := hP
  have hD : va_D A [(aP, .inr (1, [.ref aD, .ref aP_packed, .ref aP_row, .int 0, .int (-1), .int (-1)])), (aP_packed, .inl (cI, 243, .inl (fun _ => 0))), (aP_row, .inl (cI, 5, .inl (fun _ => 0)))] := hD
  exact hret (fun _ => 0) (fun _ => 0) 0 (-1) (-1) aP_packed aP_row H locs 40 ls hw dX1_init_40 hP hD hS
