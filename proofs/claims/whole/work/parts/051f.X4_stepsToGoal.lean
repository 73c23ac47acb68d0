/-! X4_stepsToGoal -/
def Y_X4_stepsToGoal_21 (nn0 : Nat) (S_metFrom : Nat → Int32) (S_stepTo : Nat → Int32) (S_met : Int32) (S_goal : Int32) (post : Nat → (Nat → Int32) → Prop) (K51 : (Nat → Int32) → Prop) (K21 : Int32 → Int32 → (Nat → Int32) → Prop) (x2 : Int32) (x3 : Int32) (n0_arr : Nat → Int32) : Prop :=
  ((x3 < 0 → K51 n0_arr) ∧ (¬ x3 < 0 → ((x2 ≤ 0 → K51 n0_arr) ∧ (¬ x2 ≤ 0 → vp_in x2 2956 ∧ (∀ y7 : Int32, y7 = (S_stepTo x2.toNatClampNeg) → (vp_in x3 nn0 ∧ (vp_in x2 2956 ∧ (∀ y9 : Int32, y9 = (S_metFrom x2.toNatClampNeg) → (K21 y9 (x3 + (-1)) (upd n0_arr x3.toNatClampNeg y7))))))))))
def Z_X4_stepsToGoal_21 (nn0 : Nat) (S_metFrom : Nat → Int32) (S_stepTo : Nat → Int32) (S_met : Int32) (S_goal : Int32) (post : Nat → (Nat → Int32) → Prop) (K51 : (Nat → Int32) → Prop) : Nat → Int32 → Int32 → (Nat → Int32) → Prop
  | 0 => fun _ _ _ => False
  | n + 1 => Y_X4_stepsToGoal_21 nn0 S_metFrom S_stepTo S_met S_goal post K51 (Z_X4_stepsToGoal_21 nn0 S_metFrom S_stepTo S_met S_goal post K51 n)
def wp_X4_stepsToGoal (S_metFrom : Nat → Int32) (S_stepTo : Nat → Int32) (S_met : Int32) (S_goal : Int32) (post : (Nat) → (Nat → Int32) → Prop) : Prop :=
  wp_X4_depthOf S_metFrom S_met S_goal (fun (r1 : Int32) => ¬ r1 < 0 ∧ (r1.toNatClampNeg ≤ 2956 ∧ (∀ nn0 : Nat, nn0 = r1.toNatClampNeg → (∀ y2 : Int32, y2 = ((nI nn0) - 1) → (∃ n, Z_X4_stepsToGoal_21 nn0 S_metFrom S_stepTo S_met S_goal post (fun (n0_arr_10 : Nat → Int32) => post nn0 n0_arr_10) n S_goal y2 (fun _ => 0))))))
set_option maxHeartbeats 4000000 in
set_option maxRecDepth 100000 in
theorem c_X4_stepsToGoal (l : Launch) (D : va_G) (cI cJ cZ : ClassId) (aS aD aS_positions aS_metFrom aS_stepTo aS_slots : Nat) (sz : Nat) (S_met : Int32) (S_goal : Int32) (S_metFrom : Nat → Int32) (S_stepTo : Nat → Int32) (post : (Nat) → (Nat → Int32) → Prop) (hw : wp_X4_stepsToGoal S_metFrom S_stepTo S_met S_goal post) : Met l yX4_stepsToGoal wsX4_stepsToGoal ({ frames := 1, cells := 1, slots := 2956, locals := 23 } : Room) (va_Pc [.ref aS] (zPre D cI cJ cZ ([(aS, .inr (3, [.ref aD, .ref aS_positions, .ref aS_metFrom, .ref aS_stepTo, .ref aS_slots, .int S_met, .int S_goal])), (aS_metFrom, .inl (cI, 2956, .inl S_metFrom)), (aS_stepTo, .inl (cI, 2956, .inl S_stepTo))]) sz)) (va_Qr (fun (u : (Nat) × (Nat → Int32)) => post (u.1) (u.2)) (fun u a t => zPost D cI cJ cZ (va_A ([(aS, .inr (3, [.ref aD, .ref aS_positions, .ref aS_metFrom, .ref aS_stepTo, .ref aS_slots, .int S_met, .int S_goal])), (aS_metFrom, .inl (cI, 2956, .inl S_metFrom)), (aS_stepTo, .inl (cI, 2956, .inl S_stepTo))]) sz) (fun u : (Nat) × (Nat → Int32) => (fun (u : (Nat) × (Nat → Int32)) (q : Nat) => [(aS, .inr (3, [.ref aD, .ref aS_positions, .ref aS_metFrom, .ref aS_stepTo, .ref aS_slots, .int S_met, .int S_goal])), (aS_metFrom, .inl (cI, 2956, .inl S_metFrom)), (aS_stepTo, .inl (cI, 2956, .inl S_stepTo)), (q, .inl (cI, (u.1), .inl (u.2)))]) u a) u t) (va_A ([(aS, .inr (3, [.ref aD, .ref aS_positions, .ref aS_metFrom, .ref aS_stepTo, .ref aS_slots, .int S_met, .int S_goal])), (aS_metFrom, .inl (cI, 2956, .inl S_metFrom)), (aS_stepTo, .inl (cI, 2956, .inl S_stepTo))]) sz)) 1 2956 (va_A ([(aS, .inr (3, [.ref aD, .ref aS_positions, .ref aS_metFrom, .ref aS_stepTo, .ref aS_slots, .int S_met, .int S_goal])), (aS_metFrom, .inl (cI, 2956, .inl S_metFrom)), (aS_stepTo, .inl (cI, 2956, .inl S_stepTo))]) sz) := by
  unfold wp_X4_stepsToGoal at hw
  refine Met.ofW (cc := cX4_stepsToGoal) (maxL := 4) (ret := some (.array .int)) (by decide) rfl ?_
  intro p e s m args below meth c s₁ B hml hv
  obtain ⟨rfl, hsz, hP, hK, hD0⟩ := hv
  have hx := B.exec
  have hb := B.bytes
  have hr := B.returns
  have hts := atoms_spec (ws := wsX4_stepsToGoal) B.pre
  have hown : s.vm.findClass RX4 = some m.cls := findClass_of_methodNamed B.named
  have hlocks := B.notSynchronized
  subst hsz
  have hD := hD0.self (sz := s.heap.size)
  generalize hAe : va_A ([(aS, .inr (3, [.ref aD, .ref aS_positions, .ref aS_metFrom, .ref aS_stepTo, .ref aS_slots, .int S_met, .int S_goal])), (aS_metFrom, .inl (cI, 2956, .inl S_metFrom)), (aS_stepTo, .inl (cI, 2956, .inl S_stepTo))]) s.heap.size = A at hD ⊢
  have hA : ∀ q : Nat, s.heap.size ≤ q → A q := fun q h => by rw [← hAe]; exact Or.inr h
  have hS : va_S A s.heap s.heap [] := va_S.rf
  refine (fun (hall : ∀ Q0 : State → Prop, (∀ (q : Nat) (v0 : Nat) (v1 : Nat → Int32) (H : Heap) (locs : List Loc) (pc : Nat) (ls : Array Slot), post v0 v1 → decode cX4_stepsToGoal pc = .ok (.areturn, 1) → va_P D vwCl ([(aS, .inr (3, [.ref aD, .ref aS_positions, .ref aS_metFrom, .ref aS_stepTo, .ref aS_slots, .int S_met, .int S_goal])), (aS_metFrom, .inl (cI, 2956, .inl S_metFrom)), (aS_stepTo, .inl (cI, 2956, .inl S_stepTo)), (q, .inl (cI, v0, .inl v1))]) H → va_D A ([(aS, .inr (3, [.ref aD, .ref aS_positions, .ref aS_metFrom, .ref aS_stepTo, .ref aS_slots, .int S_met, .int S_goal])), (aS_metFrom, .inl (cI, 2956, .inl S_metFrom)), (aS_stepTo, .inl (cI, 2956, .inl S_stepTo)), (q, .inl (cI, v0, .inl v1))]) → va_S A s.heap H locs → W p l e ({ frames := 1, cells := 1, slots := 2956, locals := 23 } : Room) s m ([.ref aS] : List Value).toArray below meth c H locs 1 2956 Q0 (F0 m pc ls [.ref q])) → W p l e ({ frames := 1, cells := 1, slots := 2956, locals := 23 } : Room) s m ([.ref aS] : List Value).toArray below meth c s.heap [] 0 0 Q0 (entryFrame m ([.ref aS] : List Value).toArray 4)) => hall _ (fun q v0 v1 H locs pc ls hw hd hP hD hS => W.aret (v := .ref q) hx hb hr (Or.inr ⟨_, rfl⟩) (Or.inr ⟨_, rfl⟩) (fun t ht hW => ⟨⟨(v0, v1), q, rfl, hw, by rw [ht]; exact hP, va_K.moved hW.alike hK, hD⟩, hS.F ht⟩) hS.2.2 hd)) ?_
  intro Q0 hret
  have hl := lv_entry ([.ref aS]) (n := 4) (Nat.le_of_ble_eq_true rfl)
  rw [lg_entry_eq]
  generalize (lg_sl ([.ref aS]) ++ List.replicate (4 - (lg_sl ([.ref aS])).length) Slot.unset).toArray = ls at hl ⊢
  have hl : lv_has ls 4 [(0, .ref aS)] := hl
  have hinX4 : ∀ w ∈ u_ws RX4 TX4 7, w ∈ wsX4_stepsToGoal := by decide +kernel
  have hf15 := hts (.fieldLink RX4 15 "DepotNight$Search" "metFrom" "[I") (by decide +kernel)
  have hf19 := hts (.fieldLink RX4 19 "DepotNight$Search" "stepTo" "[I") (by decide +kernel)
  have hf29 := hts (.fieldLink RX4 29 "DepotNight$Search" "goal" "I") (by decide +kernel)
  obtain ⟨H, hHe⟩ : ∃ H, H = s.heap := ⟨_, rfl⟩
  obtain ⟨locs, hLo⟩ : ∃ locs : List Loc, locs = [] := ⟨_, rfl⟩
  have hS : va_S A s.heap H locs := by rw [hHe, hLo]; exact hS
  have hP : va_P D vwCl ([(aS, .inr (3, [.ref aD, .ref aS_positions, .ref aS_metFrom, .ref aS_stepTo, .ref aS_slots, .int S_met, .int S_goal])), (aS_metFrom, .inl (cI, 2956, .inl S_metFrom)), (aS_stepTo, .inl (cI, 2956, .inl S_stepTo))]) H := by rw [hHe]; exact hP
  refine (fun (hgo : W p l e ({ frames := 1, cells := 1, slots := 2956, locals := 23 } : Room) s m ([.ref aS] : List Value).toArray below meth c H locs 0 0 Q0 (F0 m 0 ls [])) => by rw [hHe, hLo] at hgo; exact hgo) ?_
  refine lv_aload_n hx hb dX4_stepsToGoal_0 rfl (lv_at hl 0 rfl) ?_
  refine lv_aload_n hx hb dX4_stepsToGoal_1 rfl (lv_at hl 0 rfl) ?_
  refine va_get (D := D) (ci := 3) (v := .int S_goal) (C := RX4) (T := TX4) (N := 7) hx hb hts hinX4 hown hK hP 0 rfl rfl 6 (by decide) hf29 (fun _ h9 => h9) rfl dX4_stepsToGoal_2 ?_
  refine zVi (As := [.int S_goal]) (rest := []) (wc := [(aS, .inr (3, [.ref aD, .ref aS_positions, .ref aS_metFrom, .ref aS_stepTo, .ref aS_slots, .int S_met, .int S_goal])), (aS_metFrom, .inl (cI, 2956, .inl S_metFrom))]) (wr := [(aS_stepTo, .inl (cI, 2956, .inl S_stepTo))]) ⟨hx, hb, hml, hown, hts⟩ hK hP hD hS hA [0, 1] [2] rfl rfl (by decide) (by decide) (by decide) (c_X4_depthOf l D cI cJ cZ aS aD aS_positions aS_metFrom aS_stepTo aS_slots H.size S_met S_goal S_metFrom S_goal _ hw) (cwV 1 hts gX4_stepsToGoal_X4_depthOf rfl rfl rfl (by decide +kernel) ⟨Nat.le_of_ble_eq_true rfl, Nat.le_of_ble_eq_true rfl⟩) 0 3 rfl rfl rfl rfl hl.1 (Nat.le_of_ble_eq_true rfl) dX4_stepsToGoal_5 ⟨(Nat.le_of_ble_eq_true rfl), (Nat.le_of_ble_eq_true rfl)⟩ rfl (fun r1 u H locs hw hP hD hS => ?_)
  try dsimp only at hw
  have hP : va_P D vwCl [(aS, .inr (3, [.ref aD, .ref aS_positions, .ref aS_metFrom, .ref aS_stepTo, .ref aS_slots, .int S_met, .int S_goal])), (aS_metFrom, .inl (cI, 2956, .inl S_metFrom)), (aS_stepTo, .inl (cI, 2956, .inl S_stepTo))] H := hP.sub [1, 2, 0] rfl
  have hD : va_D A [(aS, .inr (3, [.ref aD, .ref aS_positions, .ref aS_metFrom, .ref aS_stepTo, .ref aS_slots, .int S_met, .int S_goal])), (aS_metFrom, .inl (cI, 2956, .inl S_metFrom)), (aS_stepTo, .inl (cI, 2956, .inl S_stepTo))] := hD.sub [1, 2, 0] (by decide) rfl
  obtain ⟨hnn, hnb, hw⟩ := hw
  obtain ⟨nn0, hnn0⟩ : ∃ k : Nat, k = r1.toNatClampNeg := ⟨_, rfl⟩
  have hw := hw nn0 hnn0
  rw [← hnn0] at hnb
  refine va_newa (atype := .int) (ty := .int) (N' := nn0) (a0 := (nn0, .inl (fun _ => 0))) hx hb (hts (.arrayClass .int) (by decide +kernel)) rfl hK hP hD hS hA (fun _ => rfl) hnn hnn0.symm (by show _ * 4 ≤ _; omega) (Nat.le_of_ble_eq_true rfl) (by show 0 + nn0 ≤ 2956; omega) dX4_stepsToGoal_8 (fun an0 cA H hKn hP hD hS => ?_)
  have hcA := zAi hKn
  subst hcA
  refine W.widen (k := 1) (n := 2956) (Nat.le_of_ble_eq_true rfl) (by omega) ?_
  have hP : va_P D vwCl [(aS, .inr (3, [.ref aD, .ref aS_positions, .ref aS_metFrom, .ref aS_stepTo, .ref aS_slots, .int S_met, .int S_goal])), (aS_metFrom, .inl (cI, 2956, .inl S_metFrom)), (aS_stepTo, .inl (cI, 2956, .inl S_stepTo)), (an0, .inl (cI, nn0, .inl (fun _ => 0)))] H := hP
  have hD : va_D A [(aS, .inr (3, [.ref aD, .ref aS_positions, .ref aS_metFrom, .ref aS_stepTo, .ref aS_slots, .int S_met, .int S_goal])), (aS_metFrom, .inl (cI, 2956, .inl S_metFrom)), (aS_stepTo, .inl (cI, 2956, .inl S_stepTo)), (an0, .inl (cI, nn0, .inl (fun _ => 0)))] := hD
  refine lv_astore_n (lv' := [(1, .ref an0), (0, .ref aS)]) hx hb dX4_stepsToGoal_10 rfl hl (by decide) rfl (fun ls hl => ?_)
  refine lv_aload_n hx hb dX4_stepsToGoal_11 rfl (lv_at hl 1 rfl) ?_
  refine va_get (D := D) (ci := 3) (v := .int S_goal) (C := RX4) (T := TX4) (N := 7) hx hb hts hinX4 hown hK hP 0 rfl rfl 6 (by decide) hf29 (fun _ h9 => h9) rfl dX4_stepsToGoal_12 ?_
  refine lv_istore_n (lv' := [(2, .int S_goal), (1, .ref an0), (0, .ref aS)]) hx hb dX4_stepsToGoal_15 rfl hl (by decide) rfl (fun ls hl => ?_)
  refine lv_aload_n hx hb dX4_stepsToGoal_16 rfl (lv_at hl 1 rfl) ?_
  refine va_alen (v := (nI nn0)) hx hb hK hP 3 0 rfl rfl rfl dX4_stepsToGoal_17 ?_
  refine lv_iconst (v := 1) hx hb dX4_stepsToGoal_18 (by decide) ?_
  refine lv_isub hx hb dX4_stepsToGoal_19 ?_
  refine lv_topi (fun y2 ey2 => ?_)
  have hw := hw y2 ey2
  refine lv_istore_n (lv' := [(3, .int y2), (2, .int S_goal), (1, .ref an0), (0, .ref aS)]) hx hb dX4_stepsToGoal_20 rfl hl (by decide) rfl (fun ls hl => ?_)
  have wZ_X4_stepsToGoal_21 : ∀ (K51 : (Nat → Int32) → Prop), (∀ (n0_arr : Nat → Int32), K51 n0_arr → ∀ (H : Heap) (locs : List Loc) (ls : Array Slot), va_P D vwCl [(aS, .inr (3, [.ref aD, .ref aS_positions, .ref aS_metFrom, .ref aS_stepTo, .ref aS_slots, .int S_met, .int S_goal])), (aS_metFrom, .inl (cI, 2956, .inl S_metFrom)), (aS_stepTo, .inl (cI, 2956, .inl S_stepTo)), (an0, .inl (cI, nn0, .inl n0_arr))] H → va_D A [(aS, .inr (3, [.ref aD, .ref aS_positions, .ref aS_metFrom, .ref aS_stepTo, .ref aS_slots, .int S_met, .int S_goal])), (aS_metFrom, .inl (cI, 2956, .inl S_metFrom)), (aS_stepTo, .inl (cI, 2956, .inl S_stepTo)), (an0, .inl (cI, nn0, .inl n0_arr))] → va_S A s.heap H locs → lv_has ls 4 [(1, .ref an0)] → W p l e ({ frames := 1, cells := 1, slots := 2956, locals := 23 } : Room) s m ([.ref aS] : List Value).toArray below meth c H locs 1 2956 Q0 (F0 m 51 ls [])) → ∀ (n : Nat) (x2 : Int32) (x3 : Int32) (n0_arr : Nat → Int32), Z_X4_stepsToGoal_21 nn0 S_metFrom S_stepTo S_met S_goal post K51 n x2 x3 n0_arr → ∀ (H : Heap) (locs : List Loc) (ls : Array Slot), va_P D vwCl [(aS, .inr (3, [.ref aD, .ref aS_positions, .ref aS_metFrom, .ref aS_stepTo, .ref aS_slots, .int S_met, .int S_goal])), (aS_metFrom, .inl (cI, 2956, .inl S_metFrom)), (aS_stepTo, .inl (cI, 2956, .inl S_stepTo)), (an0, .inl (cI, nn0, .inl n0_arr))] H → va_D A [(aS, .inr (3, [.ref aD, .ref aS_positions, .ref aS_metFrom, .ref aS_stepTo, .ref aS_slots, .int S_met, .int S_goal])), (aS_metFrom, .inl (cI, 2956, .inl S_metFrom)), (aS_stepTo, .inl (cI, 2956, .inl S_stepTo)), (an0, .inl (cI, nn0, .inl n0_arr))] → va_S A s.heap H locs → lv_has ls 4 [(0, .ref aS), (1, .ref an0), (2, .int x2), (3, .int x3)] → W p l e ({ frames := 1, cells := 1, slots := 2956, locals := 23 } : Room) s m ([.ref aS] : List Value).toArray below meth c H locs 1 2956 Q0 (F0 m 21 ls []) := by
    intro K51 hK51 n
    induction n with
    | zero =>
      intro x2 x3 n0_arr hw
      exact (show False from hw).elim
    | succ n hK21 =>
      intro x2 x3 n0_arr hw H locs ls hP hD hS hl
      have hw : Y_X4_stepsToGoal_21 nn0 S_metFrom S_stepTo S_met S_goal post K51 (Z_X4_stepsToGoal_21 nn0 S_metFrom S_stepTo S_met S_goal post K51 n) x2 x3 n0_arr := hw
      unfold Y_X4_stepsToGoal_21 at hw
      refine lv_iload_n hx hb dX4_stepsToGoal_21 rfl (lv_at hl 3 rfl) ?_
      refine lv_if_lt (tgt := 51) hx hb dX4_stepsToGoal_22 (by decide) (fun hc3 => ?_) (fun hc3 => ?_)
      · have hw := hw.1 hc3
        exact hK51 n0_arr hw H locs ls hP hD hS (lv_sub hl [1] rfl)
      · have hw := hw.2 hc3
        refine lv_iload_n hx hb dX4_stepsToGoal_25 rfl (lv_at hl 2 rfl) ?_
        refine lv_if_le (tgt := 51) hx hb dX4_stepsToGoal_26 (by decide) (fun hc4 => ?_) (fun hc4 => ?_)
        · have hw := hw.1 hc4
          exact hK51 n0_arr hw H locs ls hP hD hS (lv_sub hl [1] rfl)
        · have hw := hw.2 hc4
          refine lv_aload_n hx hb dX4_stepsToGoal_29 rfl (lv_at hl 1 rfl) ?_
          refine lv_iload_n hx hb dX4_stepsToGoal_30 rfl (lv_at hl 3 rfl) ?_
          refine lv_aload_n hx hb dX4_stepsToGoal_31 rfl (lv_at hl 0 rfl) ?_
          refine va_get (D := D) (ci := 3) (v := .ref aS_stepTo) (C := RX4) (T := TX4) (N := 7) hx hb hts hinX4 hown hK hP 0 rfl rfl 3 (by decide) hf19 (fun _ h9 => h9) rfl dX4_stepsToGoal_32 ?_
          refine lv_iload_n hx hb dX4_stepsToGoal_35 rfl (lv_at hl 2 rfl) ?_
          obtain ⟨hb5, hw⟩ := hw
          refine va_iald hx hb hK hP 2 0 rfl rfl hb5 dX4_stepsToGoal_36 ?_
          refine lv_topi (fun y7 ey7 => ?_)
          have hw := hw y7 ey7
          obtain ⟨hb6, hw⟩ := hw
          refine va_iast hx hb hK hP hD hS 3 0 rfl rfl hb6 dX4_stepsToGoal_37 (fun H locs hP hD hS => ?_)
          have hP : va_P D vwCl [(aS, .inr (3, [.ref aD, .ref aS_positions, .ref aS_metFrom, .ref aS_stepTo, .ref aS_slots, .int S_met, .int S_goal])), (aS_metFrom, .inl (cI, 2956, .inl S_metFrom)), (aS_stepTo, .inl (cI, 2956, .inl S_stepTo)), (an0, .inl (cI, nn0, .inl (upd n0_arr x3.toNatClampNeg y7)))] H := hP
          have hD : va_D A [(aS, .inr (3, [.ref aD, .ref aS_positions, .ref aS_metFrom, .ref aS_stepTo, .ref aS_slots, .int S_met, .int S_goal])), (aS_metFrom, .inl (cI, 2956, .inl S_metFrom)), (aS_stepTo, .inl (cI, 2956, .inl S_stepTo)), (an0, .inl (cI, nn0, .inl (upd n0_arr x3.toNatClampNeg y7)))] := hD
          refine lv_aload_n hx hb dX4_stepsToGoal_38 rfl (lv_at hl 0 rfl) ?_
          refine va_get (D := D) (ci := 3) (v := .ref aS_metFrom) (C := RX4) (T := TX4) (N := 7) hx hb hts hinX4 hown hK hP 0 rfl rfl 2 (by decide) hf15 (fun _ h9 => h9) rfl dX4_stepsToGoal_39 ?_
          refine lv_iload_n hx hb dX4_stepsToGoal_42 rfl (lv_at hl 2 rfl) ?_
          obtain ⟨hb8, hw⟩ := hw
          refine va_iald hx hb hK hP 1 0 rfl rfl hb8 dX4_stepsToGoal_43 ?_
          refine lv_topi (fun y9 ey9 => ?_)
          have hw := hw y9 ey9
          refine lv_istore_n (lv' := [(2, .int y9), (0, .ref aS), (1, .ref an0), (3, .int x3)]) hx hb dX4_stepsToGoal_44 rfl hl (by decide) rfl (fun ls hl => ?_)
          refine lv_iinc (v := (x3 + (-1))) (lv' := [(3, .int (x3 + (-1))), (2, .int y9), (0, .ref aS), (1, .ref an0)]) hx hb dX4_stepsToGoal_45 hl (k := 3) rfl rfl (by decide) rfl (fun ls hl => ?_)
          refine lv_goto (tgt := 21) hx hb dX4_stepsToGoal_48 (by decide) ?_
          exact hK21 y9 (x3 + (-1)) (upd n0_arr x3.toNatClampNeg y7) hw H locs ls hP hD hS (lv_sub hl [2, 3, 1, 0] rfl)
  obtain ⟨n11, hw⟩ := hw
  refine wZ_X4_stepsToGoal_21 _ (fun n0_arr_10 hw H locs ls hP hD hS hl => ?_) n11 S_goal y2 (fun _ => 0) hw H locs ls hP hD hS (lv_sub hl [3, 2, 1, 0] rfl)
  refine lv_aload_n hx hb dX4_stepsToGoal_51 rfl (lv_at hl 0 rfl) ?_
  exact hret an0 nn0 n0_arr_10 H locs 52 ls hw dX4_stepsToGoal_52 hP hD hS
