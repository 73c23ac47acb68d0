/-! X3_init -/
def wp_X3_init (R_leastShunts : Int32) (R_knownAt : Int32) (post : (Nat → Int32) → (Nat → Int32) → (Int32) → (Int32) → Prop) : Prop :=
  post (fun _ => 0) (fun _ => 0) (-1) (-1)
set_option maxHeartbeats 4000000 in
set_option maxRecDepth 100000 in
theorem c_X3_init (l : Launch) (D : va_G) (cI cJ cZ : ClassId) (aR aD : Nat) (sz : Nat) (R_leastShunts : Int32) (R_knownAt : Int32) (post : (Nat → Int32) → (Nat → Int32) → (Int32) → (Int32) → Prop) (hw : wp_X3_init R_leastShunts R_knownAt post) : Met l yX3_init wsX3_init ({ frames := 1, cells := 2, slots := 5, locals := 12 } : Room) (va_Pc [.ref aR, .ref aD] (zPre D cI cJ cZ ([(aR, .inr (2, [.null, .null, .null, .int R_leastShunts, .int R_knownAt, .null]))]) sz)) (va_Qv (fun (u : (Nat → Int32) × (Nat → Int32) × (Int32) × (Int32) × (Nat) × (Nat)) => post (u.1) (u.2.1) (u.2.2.1) (u.2.2.2.1)) (zPost D cI cJ cZ (va_A ([(aR, .inr (2, [.null, .null, .null, .int R_leastShunts, .int R_knownAt, .null]))]) sz) (fun u : (Nat → Int32) × (Nat → Int32) × (Int32) × (Int32) × (Nat) × (Nat) => [(aR, .inr (2, [.ref aD, (.ref (u.2.2.2.2.1)), (.ref (u.2.2.2.2.2)), .int (u.2.2.1), .int (u.2.2.2.1), .null])), ((u.2.2.2.2.1), .inl (cI, 5, .inl (u.1))), ((u.2.2.2.2.2), .inl (cI, 0, .inl (u.2.1)))])) (va_A ([(aR, .inr (2, [.null, .null, .null, .int R_leastShunts, .int R_knownAt, .null]))]) sz)) 2 5 (va_A ([(aR, .inr (2, [.null, .null, .null, .int R_leastShunts, .int R_knownAt, .null]))]) sz) := by
  unfold wp_X3_init at hw
  refine Met.ofW (cc := cX3_init) (maxL := 2) (ret := none) (by decide) rfl ?_
  intro p e s m args below meth c s₁ B hml hv
  obtain ⟨rfl, hsz, hP, hK, hD0⟩ := hv
  have hx := B.exec
  have hb := B.bytes
  have hr := B.returns
  have hts := atoms_spec (ws := wsX3_init) B.pre
  have hown : s.vm.findClass RX3 = some m.cls := findClass_of_methodNamed B.named
  have hlocks := B.notSynchronized
  have hin : meth.name = "<init>" := (name_of_methodNamed B.named B.method).1
  subst hsz
  have hD := hD0.self (sz := s.heap.size)
  generalize hAe : va_A ([(aR, .inr (2, [.null, .null, .null, .int R_leastShunts, .int R_knownAt, .null]))]) s.heap.size = A at hD ⊢
  have hA : ∀ q : Nat, s.heap.size ≤ q → A q := fun q h => by rw [← hAe]; exact Or.inr h
  have hS : va_S A s.heap s.heap [] := va_S.rf
  refine (fun (hall : ∀ Q0 : State → Prop, (∀ (v0 : Nat → Int32) (v1 : Nat → Int32) (v2 : Int32) (v3 : Int32) (v4 : Nat) (v5 : Nat) (H : Heap) (locs : List Loc) (pc : Nat) (ls : Array Slot), post v0 v1 v2 v3 → decode cX3_init pc = .ok (.return_, 1) → va_P D vwCl ([(aR, .inr (2, [.ref aD, .ref v4, .ref v5, .int v2, .int v3, .null])), (v4, .inl (cI, 5, .inl v0)), (v5, .inl (cI, 0, .inl v1))]) H → va_D A ([(aR, .inr (2, [.ref aD, .ref v4, .ref v5, .int v2, .int v3, .null])), (v4, .inl (cI, 5, .inl v0)), (v5, .inl (cI, 0, .inl v1))]) → va_S A s.heap H locs → W p l e ({ frames := 1, cells := 2, slots := 5, locals := 12 } : Room) s m ([.ref aR, .ref aD] : List Value).toArray below meth c H locs 2 5 Q0 (F0 m pc ls [])) → W p l e ({ frames := 1, cells := 2, slots := 5, locals := 12 } : Room) s m ([.ref aR, .ref aD] : List Value).toArray below meth c s.heap [] 0 0 Q0 (entryFrame m ([.ref aR, .ref aD] : List Value).toArray 2)) => hall _ (fun v0 v1 v2 v3 v4 v5 H locs pc ls hw hd hP hD hS => W.vret hx hb hr (fun t ht hW => ⟨⟨(v0, v1, v2, v3, v4, v5), rfl, hw, by rw [ht]; exact hP, va_K.moved hW.alike hK, hD⟩, hS.F ht⟩) hS.2.2 hd)) ?_
  intro Q0 hret
  have hl := lv_entry ([.ref aR, .ref aD]) (n := 2) (Nat.le_of_ble_eq_true rfl)
  rw [lg_entry_eq]
  generalize (lg_sl ([.ref aR, .ref aD]) ++ List.replicate (2 - (lg_sl ([.ref aR, .ref aD])).length) Slot.unset).toArray = ls at hl ⊢
  have hl : lv_has ls 2 [(0, .ref aR), (1, .ref aD)] := hl
  have hinX3 : ∀ w ∈ u_ws RX3 TX3 6, w ∈ wsX3_init := by decide +kernel
  have hf9 := hts (.fieldLink RX3 9 "DepotNight$Runs" "leavers" "[I") (by decide +kernel)
  have hf15 := hts (.fieldLink RX3 15 "DepotNight$Runs" "steps" "[I") (by decide +kernel)
  have hf18 := hts (.fieldLink RX3 18 "DepotNight$Runs" "leastShunts" "I") (by decide +kernel)
  have hf22 := hts (.fieldLink RX3 22 "DepotNight$Runs" "knownAt" "I") (by decide +kernel)
  have hf25 := hts (.fieldLink RX3 25 "DepotNight$Runs" "search" "LDepotNight$Search;") (by decide +kernel)
  have hf29 := hts (.fieldLink RX3 29 "DepotNight$Runs" "depot" "LDepotNight$Depot;") (by decide +kernel)
  obtain ⟨H, hHe⟩ : ∃ H, H = s.heap := ⟨_, rfl⟩
  obtain ⟨locs, hLo⟩ : ∃ locs : List Loc, locs = [] := ⟨_, rfl⟩
  have hS : va_S A s.heap H locs := by rw [hHe, hLo]; exact hS
  have hP : va_P D vwCl ([(aR, .inr (2, [.null, .null, .null, .int R_leastShunts, .int R_knownAt, .null]))]) H := by rw [hHe]; exact hP
  refine (fun (hgo : W p l e ({ frames := 1, cells := 2, slots := 5, locals := 12 } : Room) s m ([.ref aR, .ref aD] : List Value).toArray below meth c H locs 0 0 Q0 (F0 m 0 ls [])) => by rw [hHe, hLo] at hgo; exact hgo) ?_
  refine lv_aload_n hx hb dX3_init_0 rfl (lv_at hl 0 rfl) ?_
  refine W.objInit hx hb hown (hts (.methodLink RX3 3 objectInit) (by decide +kernel)) (hts (.instanceMethod objectInit) (by decide +kernel)) (hts (.code objectInit ⟨#[0xb1]⟩ 1 none) (by decide +kernel)) rfl (by rw [hml]; exact hl.1) rfl dX3_init_1 (Nat.le_of_ble_eq_true rfl) (Nat.le_of_ble_eq_true rfl) ?_
  refine W.eq (g2 := F0 m 4 ls []) rfl ?_
  refine lv_aload_n hx hb dX3_init_4 rfl (lv_at hl 0 rfl) ?_
  refine lv_iconst (v := 5) hx hb dX3_init_5 (by decide) ?_
  refine va_newa (atype := .int) (ty := .int) (N' := 5) (a0 := (5, .inl (fun _ => 0))) hx hb (hts (.arrayClass .int) (by decide +kernel)) rfl hK hP hD hS hA (fun _ => rfl) (by decide) (by decide) (by decide) (Nat.le_of_ble_eq_true rfl) (Nat.le_of_ble_eq_true rfl) dX3_init_6 (fun aR_leavers cA H hKn hP hD hS => ?_)
  have hcA := zAi hKn
  subst hcA
  refine W.widen (k := 1) (n := 5) (Nat.le_of_ble_eq_true rfl) (Nat.le_of_ble_eq_true rfl) ?_
  have hP : va_P D vwCl [(aR, .inr (2, [.null, .null, .null, .int R_leastShunts, .int R_knownAt, .null])), (aR_leavers, .inl (cI, 5, .inl (fun _ => 0)))] H := hP
  have hD : va_D A [(aR, .inr (2, [.null, .null, .null, .int R_leastShunts, .int R_knownAt, .null])), (aR_leavers, .inl (cI, 5, .inl (fun _ => 0)))] := hD
  refine va_putF (D := D) (ci := 2) (v := .ref aR_leavers) (ty := .array .int) (C := RX3) (T := TX3) (N := 6) hx hb hts hinX3 tyX3 tyX3_ok nmX3 hown hK hP hD hS 0 rfl rfl 1 (by decide) hf9 (fun _ h9 => h9) rfl hin rfl (by decide +kernel) rfl rfl (Nat.le_of_ble_eq_true rfl) dX3_init_8 (fun H locs hP hD hS => ?_)
  have hP : va_P D vwCl [(aR, .inr (2, [.null, .ref aR_leavers, .null, .int R_leastShunts, .int R_knownAt, .null])), (aR_leavers, .inl (cI, 5, .inl (fun _ => 0)))] H := hP
  have hD : va_D A [(aR, .inr (2, [.null, .ref aR_leavers, .null, .int R_leastShunts, .int R_knownAt, .null])), (aR_leavers, .inl (cI, 5, .inl (fun _ => 0)))] := hD
  refine lv_aload_n hx hb dX3_init_11 rfl (lv_at hl 0 rfl) ?_
  refine lv_iconst (v := 0) hx hb dX3_init_12 (by decide) ?_
  refine va_newa (atype := .int) (ty := .int) (N' := 0) (a0 := (0, .inl (fun _ => 0))) hx hb (hts (.arrayClass .int) (by decide +kernel)) rfl hK hP hD hS hA (fun _ => rfl) (by decide) (by decide) (by decide) (Nat.le_of_ble_eq_true rfl) (Nat.le_of_ble_eq_true rfl) dX3_init_13 (fun aR_steps cA H hKn hP hD hS => ?_)
  have hcA := zAi hKn
  subst hcA
  refine W.widen (k := 2) (n := 5) (Nat.le_of_ble_eq_true rfl) (Nat.le_of_ble_eq_true rfl) ?_
  have hP : va_P D vwCl [(aR, .inr (2, [.null, .ref aR_leavers, .null, .int R_leastShunts, .int R_knownAt, .null])), (aR_leavers, .inl (cI, 5, .inl (fun _ => 0))), (aR_steps, .inl (cI, 0, .inl (fun _ => 0)))] H := hP
  have hD : va_D A [(aR, .inr (2, [.null, .ref aR_leavers, .null, .int R_leastShunts, .int R_knownAt, .null])), (aR_leavers, .inl (cI, 5, .inl (fun _ => 0))), (aR_steps, .inl (cI, 0, .inl (fun _ => 0)))] := hD
  refine va_put (D := D) (ci := 2) (v := .ref aR_steps) (ty := .array .int) (C := RX3) (T := TX3) (N := 6) hx hb hts hinX3 tyX3 tyX3_ok nmX3 hown hK hP hD hS 0 rfl rfl 2 (by decide) hf15 (fun _ h9 => h9) rfl (by decide +kernel) rfl rfl (Nat.le_of_ble_eq_true rfl) dX3_init_15 (fun H locs hP hD hS => ?_)
  have hP : va_P D vwCl [(aR, .inr (2, [.null, .ref aR_leavers, .ref aR_steps, .int R_leastShunts, .int R_knownAt, .null])), (aR_leavers, .inl (cI, 5, .inl (fun _ => 0))), (aR_steps, .inl (cI, 0, .inl (fun _ => 0)))] H := hP
  have hD : va_D A [(aR, .inr (2, [.null, .ref aR_leavers, .ref aR_steps, .int R_leastShunts, .int R_knownAt, .null])), (aR_leavers, .inl (cI, 5, .inl (fun _ => 0))), (aR_steps, .inl (cI, 0, .inl (fun _ => 0)))] := hD
  refine lv_aload_n hx hb dX3_init_18 rfl (lv_at hl 0 rfl) ?_
  refine lv_iconst (v := (-1)) hx hb dX3_init_19 (by decide) ?_
  refine va_put (D := D) (ci := 2) (v := .int (-1)) (ty := .int) (C := RX3) (T := TX3) (N := 6) hx hb hts hinX3 tyX3 tyX3_ok nmX3 hown hK hP hD hS 0 rfl rfl 3 (by decide) hf18 (fun _ h9 => h9) rfl (by decide +kernel) rfl rfl (Nat.le_of_ble_eq_true rfl) dX3_init_20 (fun H locs hP hD hS => ?_)
  have hP : va_P D vwCl [(aR, .inr (2, [.null, .ref aR_leavers, .ref aR_steps, .int (-1), .int R_knownAt, .null])), (aR_leavers, .inl (cI, 5, .inl (fun _ => 0))), (aR_steps, .inl (cI, 0, .inl (fun _ => 0)))] H := hP
  have hD : va_D A [(aR, .inr (2, [.null, .ref aR_leavers, .ref aR_steps, .int (-1), .int R_knownAt, .null])), (aR_leavers, .inl (cI, 5, .inl (fun _ => 0))), (aR_steps, .inl (cI, 0, .inl (fun _ => 0)))] := hD
  refine lv_aload_n hx hb dX3_init_23 rfl (lv_at hl 0 rfl) ?_
  refine lv_iconst (v := (-1)) hx hb dX3_init_24 (by decide) ?_
  refine va_put (D := D) (ci := 2) (v := .int (-1)) (ty := .int) (C := RX3) (T := TX3) (N := 6) hx hb hts hinX3 tyX3 tyX3_ok nmX3 hown hK hP hD hS 0 rfl rfl 4 (by decide) hf22 (fun _ h9 => h9) rfl (by decide +kernel) rfl rfl (Nat.le_of_ble_eq_true rfl) dX3_init_25 (fun H locs hP hD hS => ?_)
  have hP : va_P D vwCl [(aR, .inr (2, [.null, .ref aR_leavers, .ref aR_steps, .int (-1), .int (-1), .null])), (aR_leavers, .inl (cI, 5, .inl (fun _ => 0))), (aR_steps, .inl (cI, 0, .inl (fun _ => 0)))] H := hP
  have hD : va_D A [(aR, .inr (2, [.null, .ref aR_leavers, .ref aR_steps, .int (-1), .int (-1), .null])), (aR_leavers, .inl (cI, 5, .inl (fun _ => 0))), (aR_steps, .inl (cI, 0, .inl (fun _ => 0)))] := hD
  refine lv_aload_n hx hb dX3_init_28 rfl (lv_at hl 0 rfl) ?_
  refine lv_null hx hb dX3_init_29 ?_
  refine va_put (D := D) (ci := 2) (v := .null) (ty := .object "DepotNight$Search") (C := RX3) (T := TX3) (N := 6) hx hb hts hinX3 tyX3 tyX3_ok nmX3 hown hK hP hD hS 0 rfl rfl 5 (by decide) hf25 (fun _ h9 => h9) rfl (by decide +kernel) rfl rfl (Nat.le_of_ble_eq_true rfl) dX3_init_30 (fun H locs hP hD hS => ?_)
  have hP : va_P D vwCl [(aR, .inr (2, [.null, .ref aR_leavers, .ref aR_steps, .int (-1), .int (-1), .null])), (aR_leavers, .inl (cI, 5, .inl (fun _ => 0))), (aR_steps, .inl (cI, 0, .inl (fun _ => 0)))] H := hP
  have hD : va_D A [(aR, .inr (2, [.null, .ref aR_leavers, .ref aR_steps, .int (-1), .int (-1), .null])), (aR_leavers, .inl (cI, 5, .inl (fun _ => 0))), (aR_steps, .inl (cI, 0, .inl (fun _ => 0)))] := hD
  refine lv_aload_n hx hb dX3_init_33 rfl (lv_at hl 0 rfl) ?_
  refine lv_aload_n hx hb dX3_init_34 rfl (lv_at hl 1 rfl) ?_
  refine va_putF (D := D) (ci := 2) (v := .ref aD) (ty := .object "DepotNight$Depot") (C := RX3) (T := TX3) (N := 6) hx hb hts hinX3 tyX3 tyX3_ok nmX3 hown hK hP hD hS 0 rfl rfl 0 (by decide) hf29 (fun _ h9 => h9) rfl hin rfl (by decide +kernel) rfl rfl (Nat.le_of_ble_eq_true rfl) dX3_init_35 (fun H locs hP hD hS => ?_)
  have hP : va_P D vwCl [(aR, .inr (2, [.ref aD, .ref aR_leavers, .ref aR_steps, .int (-1), .int (-1), .null])), (aR_leavers, .inl (cI, 5, .inl (fun _ => 0))), (aR_steps, .inl (cI, 0, .inl (fun _ => 0)))] H := hP
  have hD : va_D A [(aR, .inr (2, [.ref aD, .ref aR_leavers, .ref aR_steps, .int (-1), .int (-1), .null])), (aR_leavers, .inl (cI, 5, .inl (fun _ => 0))), (aR_steps, .inl (cI, 0, .inl (fun _ => 0)))] := hD
  exact hret (fun _ => 0) (fun _ => 0) (-1) (-1) aR_leavers aR_steps H locs 38 ls hw dX3_init_38 hP hD hS
