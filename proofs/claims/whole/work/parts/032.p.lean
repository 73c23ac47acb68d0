/-! X1_trackIn -/
def wp_X1_trackIn (P_packed : Nat → Int32) (x1 : Int32) (x2 : Int32) (post : Int32 → Prop) : Prop :=
  vp_in x1 243 ∧ (post ((((P_packed x1.toNatClampNeg).toUInt32 >>> (((2 : Int32) * x2).toUInt32 &&& Int32.toUInt32 31)).toInt32) &&& 3) )
set_option maxHeartbeats 4000000 in
set_option maxRecDepth 100000 in
theorem c_X1_trackIn (l : Launch) (D : va_G) (cI cJ cZ : ClassId) (aP aD aP_packed aP_row : Nat) (sz : Nat) (P_found : Int32) (P_narrowest : Int32) (P_knownAt : Int32) (P_packed : Nat → Int32) (x1 : Int32) (x2 : Int32) (post : Int32 → Prop) (hw : wp_X1_trackIn P_packed x1 x2 post) : Met l yX1_trackIn wsX1_trackIn ({ frames := 0, cells := 0, slots := 0, locals := 0 } : Room) (va_Pc [.ref aP, .int x1, .int x2] (zPre D cI cJ cZ [(aP, .inr (1, [.ref aD, .ref aP_packed, .ref aP_row, .int P_found, .int P_narrowest, .int P_knownAt])), (aP_packed, .inl (cI, 243, .inl P_packed))] sz)) (va_Qi (fun (r : Int32) (u : Unit) => post r) (zPost D cI cJ cZ (va_A [(aP, .inr (1, [.ref aD, .ref aP_packed, .ref aP_row, .int P_found, .int P_narrowest, .int P_knownAt])), (aP_packed, .inl (cI, 243, .inl P_packed))] sz) (fun u : Unit => [(aP, .inr (1, [.ref aD, .ref aP_packed, .ref aP_row, .int P_found, .int P_narrowest, .int P_knownAt])), (aP_packed, .inl (cI, 243, .inl P_packed))])) (va_A [(aP, .inr (1, [.ref aD, .ref aP_packed, .ref aP_row, .int P_found, .int P_narrowest, .int P_knownAt])), (aP_packed, .inl (cI, 243, .inl P_packed))] sz)) 0 0 (va_A [(aP, .inr (1, [.ref aD, .ref aP_packed, .ref aP_row, .int P_found, .int P_narrowest, .int P_knownAt])), (aP_packed, .inl (cI, 243, .inl P_packed))] sz) := by
  unfold wp_X1_trackIn at hw
  refine Met.ofW (cc := cX1_trackIn) (maxL := 3) (ret := some .int) (by decide) rfl ?_
  intro p e s m args below meth c s₁ B hml hv
  obtain ⟨rfl, hsz, hP, hK, hD0⟩ := hv
  have hx := B.exec
  have hb := B.bytes
  have hr := B.returns
  have hts := atoms_spec (ws := wsX1_trackIn) B.pre
  have hown : s.vm.findClass RX1 = some m.cls := findClass_of_methodNamed B.named
  have hlocks := B.notSynchronized
  subst hsz
  have hD := hD0.self (sz := s.heap.size)
  generalize hAe : va_A [(aP, .inr (1, [.ref aD, .ref aP_packed, .ref aP_row, .int P_found, .int P_narrowest, .int P_knownAt])), (aP_packed, .inl (cI, 243, .inl P_packed))] s.heap.size = A at hD ⊢
  have hA : ∀ q : Nat, s.heap.size ≤ q → A q := fun q h => by rw [← hAe]; exact Or.inr h
  have hS : va_S A s.heap s.heap [] := va_S.rf
  refine (fun (hall : ∀ Q0 : State → Prop, (∀ (r : Int32)  (H : Heap) (locs : List Loc) (pc : Nat) (ls : Array Slot), post r → decode cX1_trackIn pc = .ok (.ireturn, 1) → va_P D vwCl [(aP, .inr (1, [.ref aD, .ref aP_packed, .ref aP_row, .int P_found, .int P_narrowest, .int P_knownAt])), (aP_packed, .inl (cI, 243, .inl P_packed))] H → va_D A [(aP, .inr (1, [.ref aD, .ref aP_packed, .ref aP_row, .int P_found, .int P_narrowest, .int P_knownAt])), (aP_packed, .inl (cI, 243, .inl P_packed))] → va_S A s.heap H locs → W p l e ({ frames := 0, cells := 0, slots := 0, locals := 0 } : Room) s m ([.ref aP, .int x1, .int x2] : List Value).toArray below meth c H locs 0 0 Q0 (F0 m pc ls [.int r])) → W p l e ({ frames := 0, cells := 0, slots := 0, locals := 0 } : Room) s m ([.ref aP, .int x1, .int x2] : List Value).toArray below meth c s.heap [] 0 0 Q0 (entryFrame m ([.ref aP, .int x1, .int x2] : List Value).toArray 3)) => hall _ (fun r  H locs pc ls hw hd hP hD hS => W.iret (v := r) hx hb hr (fun t ht hW => ⟨⟨r, (), rfl, hw, by rw [ht]; exact hP, va_K.moved hW.alike hK, hD⟩, hS.F ht⟩) hS.2.2 hd)) ?_
  intro Q0 hret
  have hl := lv_entry ([.ref aP, .int x1, .int x2]) (n := 3) (Nat.le_of_ble_eq_true rfl)
  rw [lg_entry_eq]
  generalize (lg_sl ([.ref aP, .int x1, .int x2]) ++ List.replicate (3 - (lg_sl ([.ref aP, .int x1, .int x2])).length) Slot.unset).toArray = ls at hl ⊢
  have hl : lv_has ls 3 [(0, .ref aP), (1, .int x1), (2, .int x2)] := hl
  have hinX1 : ∀ w ∈ u_ws RX1 TX1 6, w ∈ wsX1_trackIn := by decide +kernel
  have hf11 := hts (.fieldLink RX1 11 "DepotNight$Parkings" "packed" "[I") (by decide +kernel)
  obtain ⟨H, hHe⟩ : ∃ H, H = s.heap := ⟨_, rfl⟩
  obtain ⟨locs, hLo⟩ : ∃ locs : List Loc, locs = [] := ⟨_, rfl⟩
  have hS : va_S A s.heap H locs := by rw [hHe, hLo]; exact hS
  have hP : va_P D vwCl [(aP, .inr (1, [.ref aD, .ref aP_packed, .ref aP_row, .int P_found, .int P_narrowest, .int P_knownAt])), (aP_packed, .inl (cI, 243, .inl P_packed))] H := by rw [hHe]; exact hP
  refine (fun (hgo : W p l e ({ frames := 0, cells := 0, slots := 0, locals := 0 } : Room) s m ([.ref aP, .int x1, .int x2] : List Value).toArray below meth c H locs 0 0 Q0 (F0 m 0 ls [])) => by rw [hHe, hLo] at hgo; exact hgo) ?_
  refine lv_aload_n hx hb dX1_trackIn_0 rfl (lv_at hl 0 rfl) ?_
  refine va_get (D := D) (ci := 1) (v := .ref aP_packed) (C := RX1) (T := TX1) (N := 6) hx hb hts hinX1 hown hK hP 0 rfl rfl 1 (by decide) hf11 (fun _ h9 => h9) rfl dX1_trackIn_1 ?_
  refine lv_iload_n hx hb dX1_trackIn_4 rfl (lv_at hl 1 rfl) ?_
  obtain ⟨hb1, hw⟩ := hw
  refine va_iald hx hb hK hP 1 0 rfl rfl hb1 dX1_trackIn_5 ?_
  refine lv_iconst (v := 2) hx hb dX1_trackIn_6 (by decide) ?_
  refine lv_iload_n hx hb dX1_trackIn_7 rfl (lv_at hl 2 rfl) ?_
  refine lv_imul hx hb dX1_trackIn_8 ?_
  refine lv_iushr hx hb dX1_trackIn_9 rfl ?_
  refine lv_iconst (v := 3) hx hb dX1_trackIn_10 (by decide) ?_
  refine lv_iand hx hb dX1_trackIn_11 ?_
  exact hret ((((P_packed x1.toNatClampNeg).toUInt32 >>> (((2 : Int32) * x2).toUInt32 &&& Int32.toUInt32 31)).toInt32) &&& 3)  H locs 12 ls hw dX1_trackIn_12 hP hD hS 
/-! J7_fill_53178 -/
def Y_J7_fill_53178_5 (nar0 : Nat) (x1 : Int32) (post : (Nat → Int32) → Prop) (x3 : Int32) (K5 : Int32 → (Nat → Int32) → Prop) (x2 : Int32) (p0_arr : Nat → Int32) : Prop :=
  ((x3 ≤ x2 → post p0_arr) ∧ (¬ x3 ≤ x2 → vp_in x2 nar0 ∧ (K5 (x2 + 1) (upd p0_arr x2.toNatClampNeg x1))))
def Z_J7_fill_53178_5 (nar0 : Nat) (x1 : Int32) (post : (Nat → Int32) → Prop) (x3 : Int32) : Nat → Int32 → (Nat → Int32) → Prop
  | 0 => fun _ _ => False
  | n + 1 => Y_J7_fill_53178_5 nar0 x1 post x3 (Z_J7_fill_53178_5 nar0 x1 post x3 n)
def wp_J7_fill_53178 (nar0 : Nat) (x1 : Int32) (p0_arr : Nat → Int32) (post : (Nat → Int32) → Prop) : Prop :=
  ∀ y1 : Int32, y1 = (nI nar0) → (∃ n, Z_J7_fill_53178_5 nar0 x1 post y1 n 0 p0_arr)
set_option maxHeartbeats 4000000 in
set_option maxRecDepth 100000 in
theorem c_J7_fill_53178 (l : Launch) (D : va_G) (cI cJ cZ : ClassId) (ap0 : Nat) (sz : Nat) (nar0 : Nat) (p0_arr : Nat → Int32) (x1 : Int32) (post : (Nat → Int32) → Prop) (hw : wp_J7_fill_53178 nar0 x1 p0_arr post) : Met l yJ7_fill_53178 wsJ7_fill_53178 ({ frames := 0, cells := 0, slots := 0, locals := 0 } : Room) (va_Pc [.ref ap0, .int x1] (zPre D cI cJ cZ [(ap0, .inl (cI, nar0, .inl p0_arr))] sz)) (va_Qv (fun (u : (Nat → Int32)) => post u) (zPost D cI cJ cZ (va_A [(ap0, .inl (cI, nar0, .inl p0_arr))] sz) (fun u : (Nat → Int32) => [(ap0, .inl (cI, nar0, .inl u))])) (va_A [(ap0, .inl (cI, nar0, .inl p0_arr))] sz)) 0 0 (va_A [(ap0, .inl (cI, nar0, .inl p0_arr))] sz) := by
  unfold wp_J7_fill_53178 at hw
  refine Met.ofW (cc := cJ7_fill_53178) (maxL := 4) (ret := none) (by decide) rfl ?_
  intro p e s m args below meth c s₁ B hml hv
  obtain ⟨rfl, hsz, hP, hK, hD0⟩ := hv
  have hx := B.exec
  have hb := B.bytes
  have hr := B.returns
  have hts := atoms_spec (ws := wsJ7_fill_53178) B.pre
  have hown : s.vm.findClass RJ7 = some m.cls := findClass_of_methodNamed B.named
  have hlocks := B.notSynchronized
  subst hsz
  have hD := hD0.self (sz := s.heap.size)
  generalize hAe : va_A [(ap0, .inl (cI, nar0, .inl p0_arr))] s.heap.size = A at hD ⊢
  have hA : ∀ q : Nat, s.heap.size ≤ q → A q := fun q h => by rw [← hAe]; exact Or.inr h
  have hS : va_S A s.heap s.heap [] := va_S.rf
  refine (fun (hall : ∀ Q0 : State → Prop, (∀ (v0 : Nat → Int32) (H : Heap) (locs : List Loc) (pc : Nat) (ls : Array Slot), post v0 → decode cJ7_fill_53178 pc = .ok (.return_, 1) → va_P D vwCl [(ap0, .inl (cI, nar0, .inl v0))] H → va_D A [(ap0, .inl (cI, nar0, .inl v0))] → va_S A s.heap H locs → W p l e ({ frames := 0, cells := 0, slots := 0, locals := 0 } : Room) s m ([.ref ap0, .int x1] : List Value).toArray below meth c H locs 0 0 Q0 (F0 m pc ls [])) → W p l e ({ frames := 0, cells := 0, slots := 0, locals := 0 } : Room) s m ([.ref ap0, .int x1] : List Value).toArray below meth c s.heap [] 0 0 Q0 (entryFrame m ([.ref ap0, .int x1] : List Value).toArray 4)) => hall _ (fun v0 H locs pc ls hw hd hP hD hS => W.vret hx hb hr (fun t ht hW => ⟨⟨v0, rfl, hw, by rw [ht]; exact hP, va_K.moved hW.alike hK, hD⟩, hS.F ht⟩) hS.2.2 hd)) ?_
  intro Q0 hret
  have hl := lv_entry ([.ref ap0, .int x1]) (n := 4) (Nat.le_of_ble_eq_true rfl)
  rw [lg_entry_eq]
  generalize (lg_sl ([.ref ap0, .int x1]) ++ List.replicate (4 - (lg_sl ([.ref ap0, .int x1])).length) Slot.unset).toArray = ls at hl ⊢
  have hl : lv_has ls 4 [(0, .ref ap0), (1, .int x1)] := hl
  have wZ_J7_fill_53178_5 : ∀ (x3 : Int32), ∀ (n : Nat) (x2 : Int32) (p0_arr : Nat → Int32), Z_J7_fill_53178_5 nar0 x1 post x3 n x2 p0_arr → ∀ (H : Heap) (locs : List Loc) (ls : Array Slot), va_P D vwCl [(ap0, .inl (cI, nar0, .inl p0_arr))] H → va_D A [(ap0, .inl (cI, nar0, .inl p0_arr))] → va_S A s.heap H locs → lv_has ls 4 [(0, .ref ap0), (1, .int x1), (2, .int x2), (3, .int x3)] → W p l e ({ frames := 0, cells := 0, slots := 0, locals := 0 } : Room) s m ([.ref ap0, .int x1] : List Value).toArray below meth c H locs 0 0 Q0 (F0 m 5 ls []) := by
    intro x3 n
    induction n with
    | zero =>
      intro x2 p0_arr hw
      exact (show False from hw).elim
    | succ n hK5 =>
      intro x2 p0_arr hw H locs ls hP hD hS hl
      have hw : Y_J7_fill_53178_5 nar0 x1 post x3 (Z_J7_fill_53178_5 nar0 x1 post x3 n) x2 p0_arr := hw
      unfold Y_J7_fill_53178_5 at hw
      refine lv_iload_n hx hb dJ7_fill_53178_5 rfl (lv_at hl 2 rfl) ?_
      refine lv_iload_n hx hb dJ7_fill_53178_6 rfl (lv_at hl 3 rfl) ?_
      refine lv_icmp_ge (tgt := 20) hx hb dJ7_fill_53178_7 (by decide) (fun hc2 => ?_) (fun hc2 => ?_)
      · have hw := hw.1 hc2
        exact hret p0_arr H locs 20 ls hw dJ7_fill_53178_20 hP hD hS
      · have hw := hw.2 hc2
        refine lv_aload_n hx hb dJ7_fill_53178_10 rfl (lv_at hl 0 rfl) ?_
        refine lv_iload_n hx hb dJ7_fill_53178_11 rfl (lv_at hl 2 rfl) ?_
        refine lv_iload_n hx hb dJ7_fill_53178_12 rfl (lv_at hl 1 rfl) ?_
        obtain ⟨hb3, hw⟩ := hw
        refine va_iast hx hb hK hP hD hS 0 0 rfl rfl hb3 dJ7_fill_53178_13 (fun H locs hP hD hS => ?_)
        have hP : va_P D vwCl [(ap0, .inl (cI, nar0, .inl (upd p0_arr x2.toNatClampNeg x1)))] H := hP
        have hD : va_D A [(ap0, .inl (cI, nar0, .inl (upd p0_arr x2.toNatClampNeg x1)))] := hD
        refine lv_iinc (v := (x2 + 1)) (lv' := [(2, .int (x2 + 1)), (0, .ref ap0), (1, .int x1), (3, .int x3)]) hx hb dJ7_fill_53178_14 hl (k := 2) rfl rfl (by decide) rfl (fun ls hl => ?_)
        refine lv_goto (tgt := 5) hx hb dJ7_fill_53178_17 (by decide) ?_
        exact hK5 (x2 + 1) (upd p0_arr x2.toNatClampNeg x1) hw H locs ls hP hD hS (lv_sub hl [1, 2, 0, 3] rfl)
  obtain ⟨H, hHe⟩ : ∃ H, H = s.heap := ⟨_, rfl⟩
  obtain ⟨locs, hLo⟩ : ∃ locs : List Loc, locs = [] := ⟨_, rfl⟩
  have hS : va_S A s.heap H locs := by rw [hHe, hLo]; exact hS
  have hP : va_P D vwCl [(ap0, .inl (cI, nar0, .inl p0_arr))] H := by rw [hHe]; exact hP
  refine (fun (hgo : W p l e ({ frames := 0, cells := 0, slots := 0, locals := 0 } : Room) s m ([.ref ap0, .int x1] : List Value).toArray below meth c H locs 0 0 Q0 (F0 m 0 ls [])) => by rw [hHe, hLo] at hgo; exact hgo) ?_
  refine lv_iconst (v := 0) hx hb dJ7_fill_53178_0 (by decide) ?_
  refine lv_istore_n (lv' := [(2, .int 0), (0, .ref ap0), (1, .int x1)]) hx hb dJ7_fill_53178_1 rfl hl (by decide) rfl (fun ls hl => ?_)
  refine lv_aload_n hx hb dJ7_fill_53178_2 rfl (lv_at hl 1 rfl) ?_
  refine va_alen (v := (nI nar0)) hx hb hK hP 0 0 rfl rfl rfl dJ7_fill_53178_3 ?_
  refine lv_topi (fun y1 ey1 => ?_)
  have hw := hw y1 ey1
  refine lv_istore_n (lv' := [(3, .int y1), (2, .int 0), (0, .ref ap0), (1, .int x1)]) hx hb dJ7_fill_53178_4 rfl hl (by decide) rfl (fun ls hl => ?_)
  obtain ⟨n4, hw⟩ := hw
  exact wZ_J7_fill_53178_5 y1 n4 0 p0_arr hw H locs ls hP hD hS (lv_sub hl [2, 3, 1, 0] rfl)
/-! X1_rowFits -/
def Y_X1_rowFits_11 (D_units : Int32) (D_lengths : Nat → Int32) (P_row : Nat → Int32) (post : Int32 → Prop) (x1 : Int32) (K41 : Int32 → Prop) (K11 : Int32 → Int32 → Prop) (x2 : Int32) (x3 : Int32) : Prop :=
  ((D_units ≤ x3 → K41 x2) ∧ (¬ D_units ≤ x3 → vp_in x3 5 ∧ (((¬ (P_row x3.toNatClampNeg) = x1 → K11 x2 (x3 + 1)) ∧ ((P_row x3.toNatClampNeg) = x1 → K11 (x2 + 1) (x3 + 1))))))
def Z_X1_rowFits_11 (D_units : Int32) (D_lengths : Nat → Int32) (P_row : Nat → Int32) (post : Int32 → Prop) (x1 : Int32) (K41 : Int32 → Prop) : Nat → Int32 → Int32 → Prop
  | 0 => fun _ _ => False
  | n + 1 => Y_X1_rowFits_11 D_units D_lengths P_row post x1 K41 (Z_X1_rowFits_11 D_units D_lengths P_row post x1 K41 n)
def Y_X1_rowFits_2 (D_units : Int32) (D_lengths : Nat → Int32) (P_row : Nat → Int32) (post : Int32 → Prop) (K2 : Int32 → Prop) (x1 : Int32) : Prop :=
  ((3 ≤ x1 → post 1 ) ∧ (¬ 3 ≤ x1 → ∃ n, Z_X1_rowFits_11 D_units D_lengths P_row post x1 (fun (x2_5 : Int32) => vp_in x1 3 ∧ (((x2_5 ≤ (D_lengths x1.toNatClampNeg) → K2 (x1 + 1)) ∧ (¬ x2_5 ≤ (D_lengths x1.toNatClampNeg) → post 0 )))) n 0 0))
def Z_X1_rowFits_2 (D_units : Int32) (D_lengths : Nat → Int32) (P_row : Nat → Int32) (post : Int32 → Prop) : Nat → Int32 → Prop
  | 0 => fun _ => False
  | n + 1 => Y_X1_rowFits_2 D_units D_lengths P_row post (Z_X1_rowFits_2 D_units D_lengths P_row post n)
def wp_X1_rowFits (D_units : Int32) (D_lengths : Nat → Int32) (P_row : Nat → Int32) (post : Int32 → Prop) : Prop :=
  ∃ n, Z_X1_rowFits_2 D_units D_lengths P_row post n 0
set_option maxHeartbeats 4000000 in
set_option maxRecDepth 100000 in
theorem c_X1_rowFits (l : Launch) (D : va_G) (cI cJ cZ : ClassId) (aD aD_kinds aD_washes aD_fuels aD_isBroken aD_lengths aD_wanted aD_trackOf aP aP_packed aP_row : Nat) (sz : Nat) (D_units : Int32) (D_leaving : Int32) (D_parked : Int32) (D_changes : Int32) (P_found : Int32) (P_narrowest : Int32) (P_knownAt : Int32) (D_lengths : Nat → Int32) (P_row : Nat → Int32) (post : Int32 → Prop) (hw : wp_X1_rowFits D_units D_lengths P_row post) : Met l yX1_rowFits wsX1_rowFits ({ frames := 0, cells := 0, slots := 0, locals := 0 } : Room) (va_Pc [.ref aP] (zPre D cI cJ cZ [(aD, .inr (0, [.ref aD_kinds, .ref aD_washes, .ref aD_fuels, .ref aD_isBroken, .int D_units, .ref aD_lengths, .ref aD_wanted, .int D_leaving, .ref aD_trackOf, .int D_parked, .int D_changes])), (aP, .inr (1, [.ref aD, .ref aP_packed, .ref aP_row, .int P_found, .int P_narrowest, .int P_knownAt])), (aD_lengths, .inl (cI, 3, .inl D_lengths)), (aP_row, .inl (cI, 5, .inl P_row))] sz)) (va_Qi (fun (r : Int32) (u : Unit) => post r) (zPost D cI cJ cZ (va_A [(aD, .inr (0, [.ref aD_kinds, .ref aD_washes, .ref aD_fuels, .ref aD_isBroken, .int D_units, .ref aD_lengths, .ref aD_wanted, .int D_leaving, .ref aD_trackOf, .int D_parked, .int D_changes])), (aP, .inr (1, [.ref aD, .ref aP_packed, .ref aP_row, .int P_found, .int P_narrowest, .int P_knownAt])), (aD_lengths, .inl (cI, 3, .inl D_lengths)), (aP_row, .inl (cI, 5, .inl P_row))] sz) (fun u : Unit => [(aD, .inr (0, [.ref aD_kinds, .ref aD_washes, .ref aD_fuels, .ref aD_isBroken, .int D_units, .ref aD_lengths, .ref aD_wanted, .int D_leaving, .ref aD_trackOf, .int D_parked, .int D_changes])), (aP, .inr (1, [.ref aD, .ref aP_packed, .ref aP_row, .int P_found, .int P_narrowest, .int P_knownAt])), (aD_lengths, .inl (cI, 3, .inl D_lengths)), (aP_row, .inl (cI, 5, .inl P_row))])) (va_A [(aD, .inr (0, [.ref aD_kinds, .ref aD_washes, .ref aD_fuels, .ref aD_isBroken, .int D_units, .ref aD_lengths, .ref aD_wanted, .int D_leaving, .ref aD_trackOf, .int D_parked, .int D_changes])), (aP, .inr (1, [.ref aD, .ref aP_packed, .ref aP_row, .int P_found, .int P_narrowest, .int P_knownAt])), (aD_lengths, .inl (cI, 3, .inl D_lengths)), (aP_row, .inl (cI, 5, .inl P_row))] sz)) 0 0 (va_A [(aD, .inr (0, [.ref aD_kinds, .ref aD_washes, .ref aD_fuels, .ref aD_isBroken, .int D_units, .ref aD_lengths, .ref aD_wanted, .int D_leaving, .ref aD_trackOf, .int D_parked, .int D_changes])), (aP, .inr (1, [.ref aD, .ref aP_packed, .ref aP_row, .int P_found, .int P_narrowest, .int P_knownAt])), (aD_lengths, .inl (cI, 3, .inl D_lengths)), (aP_row, .inl (cI, 5, .inl P_row))] sz) := by
  unfold wp_X1_rowFits at hw
  refine Met.ofW (cc := cX1_rowFits) (maxL := 4) (ret := some .boolean) (by decide) rfl ?_
  intro p e s m args below meth c s₁ B hml hv
  obtain ⟨rfl, hsz, hP, hK, hD0⟩ := hv
  have hx := B.exec
  have hb := B.bytes
  have hr := B.returns
  have hts := atoms_spec (ws := wsX1_rowFits) B.pre
  have hown : s.vm.findClass RX1 = some m.cls := findClass_of_methodNamed B.named
  have hlocks := B.notSynchronized
  subst hsz
  have hD := hD0.self (sz := s.heap.size)
  generalize hAe : va_A [(aD, .inr (0, [.ref aD_kinds, .ref aD_washes, .ref aD_fuels, .ref aD_isBroken, .int D_units, .ref aD_lengths, .ref aD_wanted, .int D_leaving, .ref aD_trackOf, .int D_parked, .int D_changes])), (aP, .inr (1, [.ref aD, .ref aP_packed, .ref aP_row, .int P_found, .int P_narrowest, .int P_knownAt])), (aD_lengths, .inl (cI, 3, .inl D_lengths)), (aP_row, .inl (cI, 5, .inl P_row))] s.heap.size = A at hD ⊢
  have hA : ∀ q : Nat, s.heap.size ≤ q → A q := fun q h => by rw [← hAe]; exact Or.inr h
  have hS : va_S A s.heap s.heap [] := va_S.rf
  refine (fun (hall : ∀ Q0 : State → Prop, (∀ (r : Int32)  (H : Heap) (locs : List Loc) (pc : Nat) (ls : Array Slot), post r → decode cX1_rowFits pc = .ok (.ireturn, 1) → va_P D vwCl [(aD, .inr (0, [.ref aD_kinds, .ref aD_washes, .ref aD_fuels, .ref aD_isBroken, .int D_units, .ref aD_lengths, .ref aD_wanted, .int D_leaving, .ref aD_trackOf, .int D_parked, .int D_changes])), (aP, .inr (1, [.ref aD, .ref aP_packed, .ref aP_row, .int P_found, .int P_narrowest, .int P_knownAt])), (aD_lengths, .inl (cI, 3, .inl D_lengths)), (aP_row, .inl (cI, 5, .inl P_row))] H → va_D A [(aD, .inr (0, [.ref aD_kinds, .ref aD_washes, .ref aD_fuels, .ref aD_isBroken, .int D_units, .ref aD_lengths, .ref aD_wanted, .int D_leaving, .ref aD_trackOf, .int D_parked, .int D_changes])), (aP, .inr (1, [.ref aD, .ref aP_packed, .ref aP_row, .int P_found, .int P_narrowest, .int P_knownAt])), (aD_lengths, .inl (cI, 3, .inl D_lengths)), (aP_row, .inl (cI, 5, .inl P_row))] → va_S A s.heap H locs → narrow .boolean (.int r) = .int r → W p l e ({ frames := 0, cells := 0, slots := 0, locals := 0 } : Room) s m ([.ref aP] : List Value).toArray below meth c H locs 0 0 Q0 (F0 m pc ls [.int r])) → W p l e ({ frames := 0, cells := 0, slots := 0, locals := 0 } : Room) s m ([.ref aP] : List Value).toArray below meth c s.heap [] 0 0 Q0 (entryFrame m ([.ref aP] : List Value).toArray 4)) => hall _ (fun r  H locs pc ls hw hd hP hD hS hnr => W.zret (v := r) hx hb hr hnr (fun t ht hW => ⟨⟨r, (), rfl, hw, by rw [ht]; exact hP, va_K.moved hW.alike hK, hD⟩, hS.F ht⟩) hS.2.2 hd)) ?_
  intro Q0 hret
  have hl := lv_entry ([.ref aP]) (n := 4) (Nat.le_of_ble_eq_true rfl)
  rw [lg_entry_eq]
  generalize (lg_sl ([.ref aP]) ++ List.replicate (4 - (lg_sl ([.ref aP])).length) Slot.unset).toArray = ls at hl ⊢
  have hl : lv_has ls 4 [(0, .ref aP)] := hl
  have hinX0 : ∀ w ∈ u_ws RX0 TX0 11, w ∈ wsX1_rowFits := by decide +kernel
  have hinX1 : ∀ w ∈ u_ws RX1 TX1 6, w ∈ wsX1_rowFits := by decide +kernel
  have hf15 := hts (.fieldLink RX1 15 "DepotNight$Parkings" "row" "[I") (by decide +kernel)
  have hf28 := hts (.fieldLink RX1 28 "DepotNight$Parkings" "depot" "LDepotNight$Depot;") (by decide +kernel)
  have hf37 := hts (.fieldLink RX1 37 "DepotNight$Depot" "units" "I") (by decide +kernel)
  have hf71 := hts (.fieldLink RX1 71 "DepotNight$Depot" "lengths" "[I") (by decide +kernel)
  have wZ_X1_rowFits_11 : ∀ (x1 : Int32) (K41 : Int32 → Prop), (∀ (x2 : Int32), K41 x2 → ∀ (H : Heap) (locs : List Loc) (ls : Array Slot), va_P D vwCl [(aD, .inr (0, [.ref aD_kinds, .ref aD_washes, .ref aD_fuels, .ref aD_isBroken, .int D_units, .ref aD_lengths, .ref aD_wanted, .int D_leaving, .ref aD_trackOf, .int D_parked, .int D_changes])), (aP, .inr (1, [.ref aD, .ref aP_packed, .ref aP_row, .int P_found, .int P_narrowest, .int P_knownAt])), (aD_lengths, .inl (cI, 3, .inl D_lengths)), (aP_row, .inl (cI, 5, .inl P_row))] H → va_D A [(aD, .inr (0, [.ref aD_kinds, .ref aD_washes, .ref aD_fuels, .ref aD_isBroken, .int D_units, .ref aD_lengths, .ref aD_wanted, .int D_leaving, .ref aD_trackOf, .int D_parked, .int D_changes])), (aP, .inr (1, [.ref aD, .ref aP_packed, .ref aP_row, .int P_found, .int P_narrowest, .int P_knownAt])), (aD_lengths, .inl (cI, 3, .inl D_lengths)), (aP_row, .inl (cI, 5, .inl P_row))] → va_S A s.heap H locs → lv_has ls 4 [(0, .ref aP), (1, .int x1), (2, .int x2)] → W p l e ({ frames := 0, cells := 0, slots := 0, locals := 0 } : Room) s m ([.ref aP] : List Value).toArray below meth c H locs 0 0 Q0 (F0 m 41 ls [])) → ∀ (n : Nat) (x2 : Int32) (x3 : Int32), Z_X1_rowFits_11 D_units D_lengths P_row post x1 K41 n x2 x3 → ∀ (H : Heap) (locs : List Loc) (ls : Array Slot), va_P D vwCl [(aD, .inr (0, [.ref aD_kinds, .ref aD_washes, .ref aD_fuels, .ref aD_isBroken, .int D_units, .ref aD_lengths, .ref aD_wanted, .int D_leaving, .ref aD_trackOf, .int D_parked, .int D_changes])), (aP, .inr (1, [.ref aD, .ref aP_packed, .ref aP_row, .int P_found, .int P_narrowest, .int P_knownAt])), (aD_lengths, .inl (cI, 3, .inl D_lengths)), (aP_row, .inl (cI, 5, .inl P_row))] H → va_D A [(aD, .inr (0, [.ref aD_kinds, .ref aD_washes, .ref aD_fuels, .ref aD_isBroken, .int D_units, .ref aD_lengths, .ref aD_wanted, .int D_leaving, .ref aD_trackOf, .int D_parked, .int D_changes])), (aP, .inr (1, [.ref aD, .ref aP_packed, .ref aP_row, .int P_found, .int P_narrowest, .int P_knownAt])), (aD_lengths, .inl (cI, 3, .inl D_lengths)), (aP_row, .inl (cI, 5, .inl P_row))] → va_S A s.heap H locs → lv_has ls 4 [(0, .ref aP), (1, .int x1), (2, .int x2), (3, .int x3)] → W p l e ({ frames := 0, cells := 0, slots := 0, locals := 0 } : Room) s m ([.ref aP] : List Value).toArray below meth c H locs 0 0 Q0 (F0 m 11 ls []) := by
    intro x1 K41 hK41 n
    induction n with
    | zero =>
      intro x2 x3 hw
      exact (show False from hw).elim
    | succ n hK11 =>
      intro x2 x3 hw H locs ls hP hD hS hl
      have hw : Y_X1_rowFits_11 D_units D_lengths P_row post x1 K41 (Z_X1_rowFits_11 D_units D_lengths P_row post x1 K41 n) x2 x3 := hw
      unfold Y_X1_rowFits_11 at hw
      refine lv_iload_n hx hb dX1_rowFits_11 rfl (lv_at hl 3 rfl) ?_
      refine lv_aload_n hx hb dX1_rowFits_12 rfl (lv_at hl 0 rfl) ?_
      refine va_get (D := D) (ci := 1) (v := .ref aD) (C := RX1) (T := TX1) (N := 6) hx hb hts hinX1 hown hK hP 1 rfl rfl 0 (by decide) hf28 (fun _ h9 => h9) rfl dX1_rowFits_13 ?_
      refine va_get (D := D) (ci := 0) (v := .int D_units) (C := RX0) (T := TX0) (N := 11) hx hb hts hinX0 hown hK hP 0 rfl rfl 4 (by decide) hf37 (fun _ h9 => h9) rfl dX1_rowFits_16 ?_
      refine lv_icmp_ge (tgt := 41) hx hb dX1_rowFits_19 (by decide) (fun hc2 => ?_) (fun hc2 => ?_)
      · have hw := hw.1 hc2
        exact hK41 x2 hw H locs ls hP hD hS (lv_sub hl [0, 1, 2] rfl)
      · have hw := hw.2 hc2
        refine lv_aload_n hx hb dX1_rowFits_22 rfl (lv_at hl 0 rfl) ?_
        refine va_get (D := D) (ci := 1) (v := .ref aP_row) (C := RX1) (T := TX1) (N := 6) hx hb hts hinX1 hown hK hP 1 rfl rfl 2 (by decide) hf15 (fun _ h9 => h9) rfl dX1_rowFits_23 ?_
        refine lv_iload_n hx hb dX1_rowFits_26 rfl (lv_at hl 3 rfl) ?_
        obtain ⟨hb3, hw⟩ := hw
        refine va_iald hx hb hK hP 3 0 rfl rfl hb3 dX1_rowFits_27 ?_
        refine lv_iload_n hx hb dX1_rowFits_28 rfl (lv_at hl 1 rfl) ?_
        refine lv_icmp_ne (tgt := 35) hx hb dX1_rowFits_29 (by decide) (fun hc4 => ?_) (fun hc4 => ?_)
        · have hw := hw.1 hc4
          refine lv_iinc (v := (x3 + 1)) (lv' := [(3, .int (x3 + 1)), (0, .ref aP), (1, .int x1), (2, .int x2)]) hx hb dX1_rowFits_35 hl (k := 3) rfl rfl (by decide) rfl (fun ls hl => ?_)
          refine lv_goto (tgt := 11) hx hb dX1_rowFits_38 (by decide) ?_
          exact hK11 x2 (x3 + 1) hw H locs ls hP hD hS (lv_sub hl [1, 2, 3, 0] rfl)
        · have hw := hw.2 hc4
          refine lv_iinc (v := (x2 + 1)) (lv' := [(2, .int (x2 + 1)), (0, .ref aP), (1, .int x1), (3, .int x3)]) hx hb dX1_rowFits_32 hl (k := 2) rfl rfl (by decide) rfl (fun ls hl => ?_)
          refine lv_iinc (v := (x3 + 1)) (lv' := [(3, .int (x3 + 1)), (2, .int (x2 + 1)), (0, .ref aP), (1, .int x1)]) hx hb dX1_rowFits_35 hl (k := 3) rfl rfl (by decide) rfl (fun ls hl => ?_)
          refine lv_goto (tgt := 11) hx hb dX1_rowFits_38 (by decide) ?_
          exact hK11 (x2 + 1) (x3 + 1) hw H locs ls hP hD hS (lv_sub hl [2, 3, 1, 0] rfl)
  have wZ_X1_rowFits_2 : ∀ (n : Nat) (x1 : Int32), Z_X1_rowFits_2 D_units D_lengths P_row post n x1 → ∀ (H : Heap) (locs : List Loc) (ls : Array Slot), va_P D vwCl [(aD, .inr (0, [.ref aD_kinds, .ref aD_washes, .ref aD_fuels, .ref aD_isBroken, .int D_units, .ref aD_lengths, .ref aD_wanted, .int D_leaving, .ref aD_trackOf, .int D_parked, .int D_changes])), (aP, .inr (1, [.ref aD, .ref aP_packed, .ref aP_row, .int P_found, .int P_narrowest, .int P_knownAt])), (aD_lengths, .inl (cI, 3, .inl D_lengths)), (aP_row, .inl (cI, 5, .inl P_row))] H → va_D A [(aD, .inr (0, [.ref aD_kinds, .ref aD_washes, .ref aD_fuels, .ref aD_isBroken, .int D_units, .ref aD_lengths, .ref aD_wanted, .int D_leaving, .ref aD_trackOf, .int D_parked, .int D_changes])), (aP, .inr (1, [.ref aD, .ref aP_packed, .ref aP_row, .int P_found, .int P_narrowest, .int P_knownAt])), (aD_lengths, .inl (cI, 3, .inl D_lengths)), (aP_row, .inl (cI, 5, .inl P_row))] → va_S A s.heap H locs → lv_has ls 4 [(0, .ref aP), (1, .int x1)] → W p l e ({ frames := 0, cells := 0, slots := 0, locals := 0 } : Room) s m ([.ref aP] : List Value).toArray below meth c H locs 0 0 Q0 (F0 m 2 ls []) := by
    intro n
    induction n with
    | zero =>
      intro x1 hw
      exact (show False from hw).elim
    | succ n hK2 =>
      intro x1 hw H locs ls hP hD hS hl
      have hw : Y_X1_rowFits_2 D_units D_lengths P_row post (Z_X1_rowFits_2 D_units D_lengths P_row post n) x1 := hw
      unfold Y_X1_rowFits_2 at hw
      refine lv_iload_n hx hb dX1_rowFits_2 rfl (lv_at hl 1 rfl) ?_
      refine lv_iconst (v := 3) hx hb dX1_rowFits_3 (by decide) ?_
      refine lv_icmp_ge (tgt := 62) hx hb dX1_rowFits_4 (by decide) (fun hc1 => ?_) (fun hc1 => ?_)
      · have hw := hw.1 hc1
        refine lv_iconst (v := 1) hx hb dX1_rowFits_62 (by decide) ?_
        exact hret 1  H locs 63 ls hw dX1_rowFits_63 hP hD hS rfl
      · have hw := hw.2 hc1
        refine lv_iconst (v := 0) hx hb dX1_rowFits_7 (by decide) ?_
        refine lv_istore_n (lv' := [(2, .int 0), (0, .ref aP), (1, .int x1)]) hx hb dX1_rowFits_8 rfl hl (by decide) rfl (fun ls hl => ?_)
        refine lv_iconst (v := 0) hx hb dX1_rowFits_9 (by decide) ?_
        refine lv_istore_n (lv' := [(3, .int 0), (2, .int 0), (0, .ref aP), (1, .int x1)]) hx hb dX1_rowFits_10 rfl hl (by decide) rfl (fun ls hl => ?_)
        obtain ⟨n8, hw⟩ := hw
        refine wZ_X1_rowFits_11 x1 _ (fun x2_5 hw H locs ls hP hD hS hl => ?_) n8 0 0 hw H locs ls hP hD hS (lv_sub hl [2, 3, 1, 0] rfl)
        refine lv_iload_n hx hb dX1_rowFits_41 rfl (lv_at hl 2 rfl) ?_
        refine lv_aload_n hx hb dX1_rowFits_42 rfl (lv_at hl 0 rfl) ?_
        refine va_get (D := D) (ci := 1) (v := .ref aD) (C := RX1) (T := TX1) (N := 6) hx hb hts hinX1 hown hK hP 1 rfl rfl 0 (by decide) hf28 (fun _ h9 => h9) rfl dX1_rowFits_43 ?_
        refine va_get (D := D) (ci := 0) (v := .ref aD_lengths) (C := RX0) (T := TX0) (N := 11) hx hb hts hinX0 hown hK hP 0 rfl rfl 5 (by decide) hf71 (fun _ h9 => h9) rfl dX1_rowFits_46 ?_
        refine lv_iload_n hx hb dX1_rowFits_49 rfl (lv_at hl 1 rfl) ?_
        obtain ⟨hb6, hw⟩ := hw
        refine va_iald hx hb hK hP 2 0 rfl rfl hb6 dX1_rowFits_50 ?_
        refine lv_icmp_le (tgt := 56) hx hb dX1_rowFits_51 (by decide) (fun hc7 => ?_) (fun hc7 => ?_)
        · have hw := hw.1 hc7
          refine lv_iinc (v := (x1 + 1)) (lv' := [(1, .int (x1 + 1)), (0, .ref aP), (2, .int x2_5)]) hx hb dX1_rowFits_56 hl (k := 1) rfl rfl (by decide) rfl (fun ls hl => ?_)
          refine lv_goto (tgt := 2) hx hb dX1_rowFits_59 (by decide) ?_
          exact hK2 (x1 + 1) hw H locs ls hP hD hS (lv_sub hl [1, 0] rfl)
        · have hw := hw.2 hc7
          refine lv_iconst (v := 0) hx hb dX1_rowFits_54 (by decide) ?_
          exact hret 0  H locs 55 ls hw dX1_rowFits_55 hP hD hS rfl
  obtain ⟨H, hHe⟩ : ∃ H, H = s.heap := ⟨_, rfl⟩
  obtain ⟨locs, hLo⟩ : ∃ locs : List Loc, locs = [] := ⟨_, rfl⟩
  have hS : va_S A s.heap H locs := by rw [hHe, hLo]; exact hS
  have hP : va_P D vwCl [(aD, .inr (0, [.ref aD_kinds, .ref aD_washes, .ref aD_fuels, .ref aD_isBroken, .int D_units, .ref aD_lengths, .ref aD_wanted, .int D_leaving, .ref aD_trackOf, .int D_parked, .int D_changes])), (aP, .inr (1, [.ref aD, .ref aP_packed, .ref aP_row, .int P_found, .int P_narrowest, .int P_knownAt])), (aD_lengths, .inl (cI, 3, .inl D_lengths)), (aP_row, .inl (cI, 5, .inl P_row))] H := by rw [hHe]; exact hP
  refine (fun (hgo : W p l e ({ frames := 0, cells := 0, slots := 0, locals := 0 } : Room) s m ([.ref aP] : List Value).toArray below meth c H locs 0 0 Q0 (F0 m 0 ls [])) => by rw [hHe, hLo] at hgo; exact hgo) ?_
  refine lv_iconst (v := 0) hx hb dX1_rowFits_0 (by decide) ?_
  refine lv_istore_n (lv' := [(1, .int 0), (0, .ref aP)]) hx hb dX1_rowFits_1 rfl hl (by decide) rfl (fun ls hl => ?_)
  obtain ⟨n9, hw⟩ := hw
  exact wZ_X1_rowFits_2  n9 0 hw H locs ls hP hD hS (lv_sub hl [1, 0] rfl)
/-! X1_lastOn -/
def Y_X1_lastOn_10 (D_units : Int32) (P_row : Nat → Int32) (x1 : Int32) (x2 : Int32) (post : Int32 → Prop) (K10 : Int32 → Prop) (x3 : Int32) : Prop :=
  ((x3 < 0 → post (-1) ) ∧ (¬ x3 < 0 → vp_in x3 5 ∧ (((¬ (P_row x3.toNatClampNeg) = x1 → K10 (x3 + (-1))) ∧ ((P_row x3.toNatClampNeg) = x1 → ((¬ ((x2 >>> (x3 &&& 31)) &&& 1) = 0 → K10 (x3 + (-1))) ∧ (((x2 >>> (x3 &&& 31)) &&& 1) = 0 → post x3 )))))))
def Z_X1_lastOn_10 (D_units : Int32) (P_row : Nat → Int32) (x1 : Int32) (x2 : Int32) (post : Int32 → Prop) : Nat → Int32 → Prop
  | 0 => fun _ => False
  | n + 1 => Y_X1_lastOn_10 D_units P_row x1 x2 post (Z_X1_lastOn_10 D_units P_row x1 x2 post n)
def wp_X1_lastOn (D_units : Int32) (P_row : Nat → Int32) (x1 : Int32) (x2 : Int32) (post : Int32 → Prop) : Prop :=
  ∀ y1 : Int32, y1 = (D_units - 1) → (∃ n, Z_X1_lastOn_10 D_units P_row x1 x2 post n y1)
set_option maxHeartbeats 4000000 in
set_option maxRecDepth 100000 in
theorem c_X1_lastOn (l : Launch) (D : va_G) (cI cJ cZ : ClassId) (aD aD_kinds aD_washes aD_fuels aD_isBroken aD_lengths aD_wanted aD_trackOf aP aP_packed aP_row : Nat) (sz : Nat) (D_units : Int32) (D_leaving : Int32) (D_parked : Int32) (D_changes : Int32) (P_found : Int32) (P_narrowest : Int32) (P_knownAt : Int32) (P_row : Nat → Int32) (x1 : Int32) (x2 : Int32) (post : Int32 → Prop) (hw : wp_X1_lastOn D_units P_row x1 x2 post) : Met l yX1_lastOn wsX1_lastOn ({ frames := 0, cells := 0, slots := 0, locals := 0 } : Room) (va_Pc [.ref aP, .int x1, .int x2] (zPre D cI cJ cZ [(aD, .inr (0, [.ref aD_kinds, .ref aD_washes, .ref aD_fuels, .ref aD_isBroken, .int D_units, .ref aD_lengths, .ref aD_wanted, .int D_leaving, .ref aD_trackOf, .int D_parked, .int D_changes])), (aP, .inr (1, [.ref aD, .ref aP_packed, .ref aP_row, .int P_found, .int P_narrowest, .int P_knownAt])), (aP_row, .inl (cI, 5, .inl P_row))] sz)) (va_Qi (fun (r : Int32) (u : Unit) => post r) (zPost D cI cJ cZ (va_A [(aD, .inr (0, [.ref aD_kinds, .ref aD_washes, .ref aD_fuels, .ref aD_isBroken, .int D_units, .ref aD_lengths, .ref aD_wanted, .int D_leaving, .ref aD_trackOf, .int D_parked, .int D_changes])), (aP, .inr (1, [.ref aD, .ref aP_packed, .ref aP_row, .int P_found, .int P_narrowest, .int P_knownAt])), (aP_row, .inl (cI, 5, .inl P_row))] sz) (fun u : Unit => [(aD, .inr (0, [.ref aD_kinds, .ref aD_washes, .ref aD_fuels, .ref aD_isBroken, .int D_units, .ref aD_lengths, .ref aD_wanted, .int D_leaving, .ref aD_trackOf, .int D_parked, .int D_changes])), (aP, .inr (1, [.ref aD, .ref aP_packed, .ref aP_row, .int P_found, .int P_narrowest, .int P_knownAt])), (aP_row, .inl (cI, 5, .inl P_row))])) (va_A [(aD, .inr (0, [.ref aD_kinds, .ref aD_washes, .ref aD_fuels, .ref aD_isBroken, .int D_units, .ref aD_lengths, .ref aD_wanted, .int D_leaving, .ref aD_trackOf, .int D_parked, .int D_changes])), (aP, .inr (1, [.ref aD, .ref aP_packed, .ref aP_row, .int P_found, .int P_narrowest, .int P_knownAt])), (aP_row, .inl (cI, 5, .inl P_row))] sz)) 0 0 (va_A [(aD, .inr (0, [.ref aD_kinds, .ref aD_washes, .ref aD_fuels, .ref aD_isBroken, .int D_units, .ref aD_lengths, .ref aD_wanted, .int D_leaving, .ref aD_trackOf, .int D_parked, .int D_changes])), (aP, .inr (1, [.ref aD, .ref aP_packed, .ref aP_row, .int P_found, .int P_narrowest, .int P_knownAt])), (aP_row, .inl (cI, 5, .inl P_row))] sz) := by
  unfold wp_X1_lastOn at hw
  refine Met.ofW (cc := cX1_lastOn) (maxL := 4) (ret := some .int) (by decide) rfl ?_
  intro p e s m args below meth c s₁ B hml hv
  obtain ⟨rfl, hsz, hP, hK, hD0⟩ := hv
  have hx := B.exec
  have hb := B.bytes
  have hr := B.returns
  have hts := atoms_spec (ws := wsX1_lastOn) B.pre
  have hown : s.vm.findClass RX1 = some m.cls := findClass_of_methodNamed B.named
  have hlocks := B.notSynchronized
  subst hsz
  have hD := hD0.self (sz := s.heap.size)
  generalize hAe : va_A [(aD, .inr (0, [.ref aD_kinds, .ref aD_washes, .ref aD_fuels, .ref aD_isBroken, .int D_units, .ref aD_lengths, .ref aD_wanted, .int D_leaving, .ref aD_trackOf, .int D_parked, .int D_changes])), (aP, .inr (1, [.ref aD, .ref aP_packed, .ref aP_row, .int P_found, .int P_narrowest, .int P_knownAt])), (aP_row, .inl (cI, 5, .inl P_row))] s.heap.size = A at hD ⊢
  have hA : ∀ q : Nat, s.heap.size ≤ q → A q := fun q h => by rw [← hAe]; exact Or.inr h
  have hS : va_S A s.heap s.heap [] := va_S.rf
  refine (fun (hall : ∀ Q0 : State → Prop, (∀ (r : Int32)  (H : Heap) (locs : List Loc) (pc : Nat) (ls : Array Slot), post r → decode cX1_lastOn pc = .ok (.ireturn, 1) → va_P D vwCl [(aD, .inr (0, [.ref aD_kinds, .ref aD_washes, .ref aD_fuels, .ref aD_isBroken, .int D_units, .ref aD_lengths, .ref aD_wanted, .int D_leaving, .ref aD_trackOf, .int D_parked, .int D_changes])), (aP, .inr (1, [.ref aD, .ref aP_packed, .ref aP_row, .int P_found, .int P_narrowest, .int P_knownAt])), (aP_row, .inl (cI, 5, .inl P_row))] H → va_D A [(aD, .inr (0, [.ref aD_kinds, .ref aD_washes, .ref aD_fuels, .ref aD_isBroken, .int D_units, .ref aD_lengths, .ref aD_wanted, .int D_leaving, .ref aD_trackOf, .int D_parked, .int D_changes])), (aP, .inr (1, [.ref aD, .ref aP_packed, .ref aP_row, .int P_found, .int P_narrowest, .int P_knownAt])), (aP_row, .inl (cI, 5, .inl P_row))] → va_S A s.heap H locs → W p l e ({ frames := 0, cells := 0, slots := 0, locals := 0 } : Room) s m ([.ref aP, .int x1, .int x2] : List Value).toArray below meth c H locs 0 0 Q0 (F0 m pc ls [.int r])) → W p l e ({ frames := 0, cells := 0, slots := 0, locals := 0 } : Room) s m ([.ref aP, .int x1, .int x2] : List Value).toArray below meth c s.heap [] 0 0 Q0 (entryFrame m ([.ref aP, .int x1, .int x2] : List Value).toArray 4)) => hall _ (fun r  H locs pc ls hw hd hP hD hS => W.iret (v := r) hx hb hr (fun t ht hW => ⟨⟨r, (), rfl, hw, by rw [ht]; exact hP, va_K.moved hW.alike hK, hD⟩, hS.F ht⟩) hS.2.2 hd)) ?_
  intro Q0 hret
  have hl := lv_entry ([.ref aP, .int x1, .int x2]) (n := 4) (Nat.le_of_ble_eq_true rfl)
  rw [lg_entry_eq]
  generalize (lg_sl ([.ref aP, .int x1, .int x2]) ++ List.replicate (4 - (lg_sl ([.ref aP, .int x1, .int x2])).length) Slot.unset).toArray = ls at hl ⊢
  have hl : lv_has ls 4 [(0, .ref aP), (1, .int x1), (2, .int x2)] := hl
  have hinX0 : ∀ w ∈ u_ws RX0 TX0 11, w ∈ wsX1_lastOn := by decide +kernel
  have hinX1 : ∀ w ∈ u_ws RX1 TX1 6, w ∈ wsX1_lastOn := by decide +kernel
  have hf15 := hts (.fieldLink RX1 15 "DepotNight$Parkings" "row" "[I") (by decide +kernel)
  have hf28 := hts (.fieldLink RX1 28 "DepotNight$Parkings" "depot" "LDepotNight$Depot;") (by decide +kernel)
  have hf37 := hts (.fieldLink RX1 37 "DepotNight$Depot" "units" "I") (by decide +kernel)
  have wZ_X1_lastOn_10 : ∀ (n : Nat) (x3 : Int32), Z_X1_lastOn_10 D_units P_row x1 x2 post n x3 → ∀ (H : Heap) (locs : List Loc) (ls : Array Slot), va_P D vwCl [(aD, .inr (0, [.ref aD_kinds, .ref aD_washes, .ref aD_fuels, .ref aD_isBroken, .int D_units, .ref aD_lengths, .ref aD_wanted, .int D_leaving, .ref aD_trackOf, .int D_parked, .int D_changes])), (aP, .inr (1, [.ref aD, .ref aP_packed, .ref aP_row, .int P_found, .int P_narrowest, .int P_knownAt])), (aP_row, .inl (cI, 5, .inl P_row))] H → va_D A [(aD, .inr (0, [.ref aD_kinds, .ref aD_washes, .ref aD_fuels, .ref aD_isBroken, .int D_units, .ref aD_lengths, .ref aD_wanted, .int D_leaving, .ref aD_trackOf, .int D_parked, .int D_changes])), (aP, .inr (1, [.ref aD, .ref aP_packed, .ref aP_row, .int P_found, .int P_narrowest, .int P_knownAt])), (aP_row, .inl (cI, 5, .inl P_row))] → va_S A s.heap H locs → lv_has ls 4 [(0, .ref aP), (1, .int x1), (2, .int x2), (3, .int x3)] → W p l e ({ frames := 0, cells := 0, slots := 0, locals := 0 } : Room) s m ([.ref aP, .int x1, .int x2] : List Value).toArray below meth c H locs 0 0 Q0 (F0 m 10 ls []) := by
    intro n
    induction n with
    | zero =>
      intro x3 hw
      exact (show False from hw).elim
    | succ n hK10 =>
      intro x3 hw H locs ls hP hD hS hl
      have hw : Y_X1_lastOn_10 D_units P_row x1 x2 post (Z_X1_lastOn_10 D_units P_row x1 x2 post n) x3 := hw
      unfold Y_X1_lastOn_10 at hw
      refine lv_iload_n hx hb dX1_lastOn_10 rfl (lv_at hl 3 rfl) ?_
      refine lv_if_lt (tgt := 40) hx hb dX1_lastOn_11 (by decide) (fun hc2 => ?_) (fun hc2 => ?_)
      · have hw := hw.1 hc2
        refine lv_iconst (v := (-1)) hx hb dX1_lastOn_40 (by decide) ?_
        exact hret (-1)  H locs 41 ls hw dX1_lastOn_41 hP hD hS 
      · have hw := hw.2 hc2
        refine lv_aload_n hx hb dX1_lastOn_14 rfl (lv_at hl 0 rfl) ?_
        refine va_get (D := D) (ci := 1) (v := .ref aP_row) (C := RX1) (T := TX1) (N := 6) hx hb hts hinX1 hown hK hP 1 rfl rfl 2 (by decide) hf15 (fun _ h9 => h9) rfl dX1_lastOn_15 ?_
        refine lv_iload_n hx hb dX1_lastOn_18 rfl (lv_at hl 3 rfl) ?_
        obtain ⟨hb3, hw⟩ := hw
        refine va_iald hx hb hK hP 2 0 rfl rfl hb3 dX1_lastOn_19 ?_
        refine lv_iload_n hx hb dX1_lastOn_20 rfl (lv_at hl 1 rfl) ?_
        refine lv_icmp_ne (tgt := 34) hx hb dX1_lastOn_21 (by decide) (fun hc4 => ?_) (fun hc4 => ?_)
        · have hw := hw.1 hc4
          refine lv_iinc (v := (x3 + (-1))) (lv' := [(3, .int (x3 + (-1))), (0, .ref aP), (1, .int x1), (2, .int x2)]) hx hb dX1_lastOn_34 hl (k := 3) rfl rfl (by decide) rfl (fun ls hl => ?_)
          refine lv_goto (tgt := 10) hx hb dX1_lastOn_37 (by decide) ?_
          exact hK10 (x3 + (-1)) hw H locs ls hP hD hS (lv_sub hl [1, 2, 3, 0] rfl)
        · have hw := hw.2 hc4
          refine lv_iload_n hx hb dX1_lastOn_24 rfl (lv_at hl 2 rfl) ?_
          refine lv_iload_n hx hb dX1_lastOn_25 rfl (lv_at hl 3 rfl) ?_
          refine lv_ishr hx hb dX1_lastOn_26 ?_
          refine lv_iconst (v := 1) hx hb dX1_lastOn_27 (by decide) ?_
          refine lv_iand hx hb dX1_lastOn_28 ?_
          refine lv_if_ne (tgt := 34) hx hb dX1_lastOn_29 (by decide) (fun hc5 => ?_) (fun hc5 => ?_)
          · have hw := hw.1 hc5
            refine lv_iinc (v := (x3 + (-1))) (lv' := [(3, .int (x3 + (-1))), (0, .ref aP), (1, .int x1), (2, .int x2)]) hx hb dX1_lastOn_34 hl (k := 3) rfl rfl (by decide) rfl (fun ls hl => ?_)
            refine lv_goto (tgt := 10) hx hb dX1_lastOn_37 (by decide) ?_
            exact hK10 (x3 + (-1)) hw H locs ls hP hD hS (lv_sub hl [1, 2, 3, 0] rfl)
          · have hw := hw.2 hc5
            refine lv_iload_n hx hb dX1_lastOn_32 rfl (lv_at hl 3 rfl) ?_
            exact hret x3  H locs 33 ls hw dX1_lastOn_33 hP hD hS 
  obtain ⟨H, hHe⟩ : ∃ H, H = s.heap := ⟨_, rfl⟩
  obtain ⟨locs, hLo⟩ : ∃ locs : List Loc, locs = [] := ⟨_, rfl⟩
  have hS : va_S A s.heap H locs := by rw [hHe, hLo]; exact hS
  have hP : va_P D vwCl [(aD, .inr (0, [.ref aD_kinds, .ref aD_washes, .ref aD_fuels, .ref aD_isBroken, .int D_units, .ref aD_lengths, .ref aD_wanted, .int D_leaving, .ref aD_trackOf, .int D_parked, .int D_changes])), (aP, .inr (1, [.ref aD, .ref aP_packed, .ref aP_row, .int P_found, .int P_narrowest, .int P_knownAt])), (aP_row, .inl (cI, 5, .inl P_row))] H := by rw [hHe]; exact hP
  refine (fun (hgo : W p l e ({ frames := 0, cells := 0, slots := 0, locals := 0 } : Room) s m ([.ref aP, .int x1, .int x2] : List Value).toArray below meth c H locs 0 0 Q0 (F0 m 0 ls [])) => by rw [hHe, hLo] at hgo; exact hgo) ?_
  refine lv_aload_n hx hb dX1_lastOn_0 rfl (lv_at hl 0 rfl) ?_
  refine va_get (D := D) (ci := 1) (v := .ref aD) (C := RX1) (T := TX1) (N := 6) hx hb hts hinX1 hown hK hP 1 rfl rfl 0 (by decide) hf28 (fun _ h9 => h9) rfl dX1_lastOn_1 ?_
  refine va_get (D := D) (ci := 0) (v := .int D_units) (C := RX0) (T := TX0) (N := 11) hx hb hts hinX0 hown hK hP 0 rfl rfl 4 (by decide) hf37 (fun _ h9 => h9) rfl dX1_lastOn_4 ?_
  refine lv_iconst (v := 1) hx hb dX1_lastOn_7 (by decide) ?_
  refine lv_isub hx hb dX1_lastOn_8 ?_
  refine lv_topi (fun y1 ey1 => ?_)
  have hw := hw y1 ey1
  refine lv_istore_n (lv' := [(3, .int y1), (0, .ref aP), (1, .int x1), (2, .int x2)]) hx hb dX1_lastOn_9 rfl hl (by decide) rfl (fun ls hl => ?_)
  obtain ⟨n6, hw⟩ := hw
  exact wZ_X1_lastOn_10  n6 y1 hw H locs ls hP hD hS (lv_sub hl [1, 2, 3, 0] rfl)
/-! X1_canAllGo -/
def Y_X1_canAllGo_15 (D_kinds : Nat → Int32) (D_isBroken : Nat → Int32) (D_units : Int32) (D_wanted : Nat → Int32) (D_leaving : Int32) (P_row : Nat → Int32) (x1 : Int32) (x2 : Int32) (post : Int32 → Prop) (rc : Int32 → Int32 → (Int32 → Prop) → Prop) (K15 : Int32 → Prop) (x3 : Int32) : Prop :=
  ((3 ≤ x3 → post 0 ) ∧ (¬ 3 ≤ x3 → wp_X1_lastOn D_units P_row x3 x2 (fun (r3 : Int32) => ((r3 = (-1) → K15 (x3 + 1)) ∧ (¬ r3 = (-1) → vp_in x1 5 ∧ (wp_X0_canServe D_kinds D_isBroken r3 (D_wanted x1.toNatClampNeg) (fun (r6 : Int32) => ((r6 = 0 → K15 (x3 + 1)) ∧ (¬ r6 = 0 → rc (x1 + 1) (x2 ||| ((1 : Int32) <<< (r3 &&& 31))) (fun (r8 : Int32) => ((r8 = 0 → K15 (x3 + 1)) ∧ (¬ r8 = 0 → post 1 ))))))))))))
def Z_X1_canAllGo_15 (D_kinds : Nat → Int32) (D_isBroken : Nat → Int32) (D_units : Int32) (D_wanted : Nat → Int32) (D_leaving : Int32) (P_row : Nat → Int32) (x1 : Int32) (x2 : Int32) (post : Int32 → Prop) (rc : Int32 → Int32 → (Int32 → Prop) → Prop) : Nat → Int32 → Prop
  | 0 => fun _ => False
  | n + 1 => Y_X1_canAllGo_15 D_kinds D_isBroken D_units D_wanted D_leaving P_row x1 x2 post rc (Z_X1_canAllGo_15 D_kinds D_isBroken D_units D_wanted D_leaving P_row x1 x2 post rc n)
def bw_X1_canAllGo (D_kinds : Nat → Int32) (D_isBroken : Nat → Int32) (D_units : Int32) (D_wanted : Nat → Int32) (D_leaving : Int32) (P_row : Nat → Int32) (rc : Int32 → Int32 → (Int32 → Prop) → Prop) (x1 : Int32) (x2 : Int32) (post : Int32 → Prop) : Prop :=
  ((x1 < D_leaving → ∃ n, Z_X1_canAllGo_15 D_kinds D_isBroken D_units D_wanted D_leaving P_row x1 x2 post rc n 0) ∧ (¬ x1 < D_leaving → post 1 ))
def wp_X1_canAllGo : Nat → (Nat → Int32) → (Nat → Int32) → (Int32) → (Nat → Int32) → (Int32) → (Nat → Int32) → Int32 → Int32 → (Int32 → Prop) → Prop
  | 0, _, _, _, _, _, _, _, _, _ => False
  | n + 1, D_kinds, D_isBroken, D_units, D_wanted, D_leaving, P_row, x1, x2, post => bw_X1_canAllGo D_kinds D_isBroken D_units D_wanted D_leaving P_row (wp_X1_canAllGo n D_kinds D_isBroken D_units D_wanted D_leaving P_row) x1 x2 post
set_option maxHeartbeats 4000000 in
set_option maxRecDepth 100000 in
theorem c_X1_canAllGo : ∀ (nr : Nat) (l : Launch) (D : va_G) (cI cJ cZ : ClassId) (aD aD_kinds aD_washes aD_fuels aD_isBroken aD_lengths aD_wanted aD_trackOf aP aP_packed aP_row : Nat) (sz : Nat) (D_units : Int32) (D_leaving : Int32) (D_parked : Int32) (D_changes : Int32) (P_found : Int32) (P_narrowest : Int32) (P_knownAt : Int32) (D_kinds : Nat → Int32) (D_isBroken : Nat → Int32) (D_wanted : Nat → Int32) (P_row : Nat → Int32) (x1 : Int32) (x2 : Int32) (post : Int32 → Prop) (hw : wp_X1_canAllGo nr D_kinds D_isBroken D_units D_wanted D_leaving P_row x1 x2 post), Met l yX1_canAllGo wsX1_canAllGo ({ frames := 1 + nr, cells := 0, slots := 0, locals := 23 + 24 * nr } : Room) (va_Pc [.ref aP, .int x1, .int x2] (zPre D cI cJ cZ [(aD, .inr (0, [.ref aD_kinds, .ref aD_washes, .ref aD_fuels, .ref aD_isBroken, .int D_units, .ref aD_lengths, .ref aD_wanted, .int D_leaving, .ref aD_trackOf, .int D_parked, .int D_changes])), (aP, .inr (1, [.ref aD, .ref aP_packed, .ref aP_row, .int P_found, .int P_narrowest, .int P_knownAt])), (aD_kinds, .inl (cI, 5, .inl D_kinds)), (aD_isBroken, .inl (cZ, 5, .inl D_isBroken)), (aD_wanted, .inl (cI, 5, .inl D_wanted)), (aP_row, .inl (cI, 5, .inl P_row))] sz)) (va_Qi (fun (r : Int32) (u : Unit) => post r) (zPost D cI cJ cZ (va_A [(aD, .inr (0, [.ref aD_kinds, .ref aD_washes, .ref aD_fuels, .ref aD_isBroken, .int D_units, .ref aD_lengths, .ref aD_wanted, .int D_leaving, .ref aD_trackOf, .int D_parked, .int D_changes])), (aP, .inr (1, [.ref aD, .ref aP_packed, .ref aP_row, .int P_found, .int P_narrowest, .int P_knownAt])), (aD_kinds, .inl (cI, 5, .inl D_kinds)), (aD_isBroken, .inl (cZ, 5, .inl D_isBroken)), (aD_wanted, .inl (cI, 5, .inl D_wanted)), (aP_row, .inl (cI, 5, .inl P_row))] sz) (fun u : Unit => [(aD, .inr (0, [.ref aD_kinds, .ref aD_washes, .ref aD_fuels, .ref aD_isBroken, .int D_units, .ref aD_lengths, .ref aD_wanted, .int D_leaving, .ref aD_trackOf, .int D_parked, .int D_changes])), (aP, .inr (1, [.ref aD, .ref aP_packed, .ref aP_row, .int P_found, .int P_narrowest, .int P_knownAt])), (aD_kinds, .inl (cI, 5, .inl D_kinds)), (aD_isBroken, .inl (cZ, 5, .inl D_isBroken)), (aD_wanted, .inl (cI, 5, .inl D_wanted)), (aP_row, .inl (cI, 5, .inl P_row))])) (va_A [(aD, .inr (0, [.ref aD_kinds, .ref aD_washes, .ref aD_fuels, .ref aD_isBroken, .int D_units, .ref aD_lengths, .ref aD_wanted, .int D_leaving, .ref aD_trackOf, .int D_parked, .int D_changes])), (aP, .inr (1, [.ref aD, .ref aP_packed, .ref aP_row, .int P_found, .int P_narrowest, .int P_knownAt])), (aD_kinds, .inl (cI, 5, .inl D_kinds)), (aD_isBroken, .inl (cZ, 5, .inl D_isBroken)), (aD_wanted, .inl (cI, 5, .inl D_wanted)), (aP_row, .inl (cI, 5, .inl P_row))] sz)) 0 0 (va_A [(aD, .inr (0, [.ref aD_kinds, .ref aD_washes, .ref aD_fuels, .ref aD_isBroken, .int D_units, .ref aD_lengths, .ref aD_wanted, .int D_leaving, .ref aD_trackOf, .int D_parked, .int D_changes])), (aP, .inr (1, [.ref aD, .ref aP_packed, .ref aP_row, .int P_found, .int P_narrowest, .int P_knownAt])), (aD_kinds, .inl (cI, 5, .inl D_kinds)), (aD_isBroken, .inl (cZ, 5, .inl D_isBroken)), (aD_wanted, .inl (cI, 5, .inl D_wanted)), (aP_row, .inl (cI, 5, .inl P_row))] sz) := by
  intro nr l D cI cJ cZ
  induction nr with
  | zero => intro aD aD_kinds aD_washes aD_fuels aD_isBroken aD_lengths aD_wanted aD_trackOf aP aP_packed aP_row sz D_units D_leaving D_parked D_changes P_found P_narrowest P_knownAt D_kinds D_isBroken D_wanted P_row x1 x2 post hw; exact (show False from hw).elim
  | succ nr ih =>
    intro aD aD_kinds aD_washes aD_fuels aD_isBroken aD_lengths aD_wanted aD_trackOf aP aP_packed aP_row sz D_units D_leaving D_parked D_changes P_found P_narrowest P_knownAt D_kinds D_isBroken D_wanted P_row x1 x2 post hw
    have hw : bw_X1_canAllGo D_kinds D_isBroken D_units D_wanted D_leaving P_row (wp_X1_canAllGo nr D_kinds D_isBroken D_units D_wanted D_leaving P_row) x1 x2 post := hw
    unfold bw_X1_canAllGo at hw
    refine Met.ofW (cc := cX1_canAllGo) (maxL := 5) (ret := some .boolean) (by decide) rfl ?_
    intro p e s m args below meth c s₁ B hml hv
    obtain ⟨rfl, hsz, hP, hK, hD0⟩ := hv
    have hx := B.exec
    have hb := B.bytes
    have hr := B.returns
    have hts := atoms_spec (ws := wsX1_canAllGo) B.pre
    have hown : s.vm.findClass RX1 = some m.cls := findClass_of_methodNamed B.named
    have hlocks := B.notSynchronized
    subst hsz
    have hD := hD0.self (sz := s.heap.size)
    generalize hAe : va_A [(aD, .inr (0, [.ref aD_kinds, .ref aD_washes, .ref aD_fuels, .ref aD_isBroken, .int D_units, .ref aD_lengths, .ref aD_wanted, .int D_leaving, .ref aD_trackOf, .int D_parked, .int D_changes])), (aP, .inr (1, [.ref aD, .ref aP_packed, .ref aP_row, .int P_found, .int P_narrowest, .int P_knownAt])), (aD_kinds, .inl (cI, 5, .inl D_kinds)), (aD_isBroken, .inl (cZ, 5, .inl D_isBroken)), (aD_wanted, .inl (cI, 5, .inl D_wanted)), (aP_row, .inl (cI, 5, .inl P_row))] s.heap.size = A at hD ⊢
    have hA : ∀ q : Nat, s.heap.size ≤ q → A q := fun q h => by rw [← hAe]; exact Or.inr h
    have hS : va_S A s.heap s.heap [] := va_S.rf
    refine (fun (hall : ∀ Q0 : State → Prop, (∀ (r : Int32)  (H : Heap) (locs : List Loc) (pc : Nat) (ls : Array Slot), post r → decode cX1_canAllGo pc = .ok (.ireturn, 1) → va_P D vwCl [(aD, .inr (0, [.ref aD_kinds, .ref aD_washes, .ref aD_fuels, .ref aD_isBroken, .int D_units, .ref aD_lengths, .ref aD_wanted, .int D_leaving, .ref aD_trackOf, .int D_parked, .int D_changes])), (aP, .inr (1, [.ref aD, .ref aP_packed, .ref aP_row, .int P_found, .int P_narrowest, .int P_knownAt])), (aD_kinds, .inl (cI, 5, .inl D_kinds)), (aD_isBroken, .inl (cZ, 5, .inl D_isBroken)), (aD_wanted, .inl (cI, 5, .inl D_wanted)), (aP_row, .inl (cI, 5, .inl P_row))] H → va_D A [(aD, .inr (0, [.ref aD_kinds, .ref aD_washes, .ref aD_fuels, .ref aD_isBroken, .int D_units, .ref aD_lengths, .ref aD_wanted, .int D_leaving, .ref aD_trackOf, .int D_parked, .int D_changes])), (aP, .inr (1, [.ref aD, .ref aP_packed, .ref aP_row, .int P_found, .int P_narrowest, .int P_knownAt])), (aD_kinds, .inl (cI, 5, .inl D_kinds)), (aD_isBroken, .inl (cZ, 5, .inl D_isBroken)), (aD_wanted, .inl (cI, 5, .inl D_wanted)), (aP_row, .inl (cI, 5, .inl P_row))] → va_S A s.heap H locs → narrow .boolean (.int r) = .int r → W p l e ({ frames := 1 + (nr + 1), cells := 0, slots := 0, locals := 23 + 24 * (nr + 1) } : Room) s m ([.ref aP, .int x1, .int x2] : List Value).toArray below meth c H locs 0 0 Q0 (F0 m pc ls [.int r])) → W p l e ({ frames := 1 + (nr + 1), cells := 0, slots := 0, locals := 23 + 24 * (nr + 1) } : Room) s m ([.ref aP, .int x1, .int x2] : List Value).toArray below meth c s.heap [] 0 0 Q0 (entryFrame m ([.ref aP, .int x1, .int x2] : List Value).toArray 5)) => hall _ (fun r  H locs pc ls hw hd hP hD hS hnr => W.zret (v := r) hx hb hr hnr (fun t ht hW => ⟨⟨r, (), rfl, hw, by rw [ht]; exact hP, va_K.moved hW.alike hK, hD⟩, hS.F ht⟩) hS.2.2 hd)) ?_
    intro Q0 hret
    have hl := lv_entry ([.ref aP, .int x1, .int x2]) (n := 5) (Nat.le_of_ble_eq_true rfl)
    rw [lg_entry_eq]
    generalize (lg_sl ([.ref aP, .int x1, .int x2]) ++ List.replicate (5 - (lg_sl ([.ref aP, .int x1, .int x2])).length) Slot.unset).toArray = ls at hl ⊢
    have hl : lv_has ls 5 [(0, .ref aP), (1, .int x1), (2, .int x2)] := hl
    have hinX0 : ∀ w ∈ u_ws RX0 TX0 11, w ∈ wsX1_canAllGo := by decide +kernel
    have hinX1 : ∀ w ∈ u_ws RX1 TX1 6, w ∈ wsX1_canAllGo := by decide +kernel
    have hf28 := hts (.fieldLink RX1 28 "DepotNight$Parkings" "depot" "LDepotNight$Depot;") (by decide +kernel)
    have hf74 := hts (.fieldLink RX1 74 "DepotNight$Depot" "leaving" "I") (by decide +kernel)
    have hf81 := hts (.fieldLink RX1 81 "DepotNight$Depot" "wanted" "[I") (by decide +kernel)
    have wZ_X1_canAllGo_15 : ∀ (n : Nat) (x3 : Int32), Z_X1_canAllGo_15 D_kinds D_isBroken D_units D_wanted D_leaving P_row x1 x2 post (wp_X1_canAllGo nr D_kinds D_isBroken D_units D_wanted D_leaving P_row) n x3 → ∀ (H : Heap) (locs : List Loc) (ls : Array Slot), va_P D vwCl [(aD, .inr (0, [.ref aD_kinds, .ref aD_washes, .ref aD_fuels, .ref aD_isBroken, .int D_units, .ref aD_lengths, .ref aD_wanted, .int D_leaving, .ref aD_trackOf, .int D_parked, .int D_changes])), (aP, .inr (1, [.ref aD, .ref aP_packed, .ref aP_row, .int P_found, .int P_narrowest, .int P_knownAt])), (aD_kinds, .inl (cI, 5, .inl D_kinds)), (aD_isBroken, .inl (cZ, 5, .inl D_isBroken)), (aD_wanted, .inl (cI, 5, .inl D_wanted)), (aP_row, .inl (cI, 5, .inl P_row))] H → va_D A [(aD, .inr (0, [.ref aD_kinds, .ref aD_washes, .ref aD_fuels, .ref aD_isBroken, .int D_units, .ref aD_lengths, .ref aD_wanted, .int D_leaving, .ref aD_trackOf, .int D_parked, .int D_changes])), (aP, .inr (1, [.ref aD, .ref aP_packed, .ref aP_row, .int P_found, .int P_narrowest, .int P_knownAt])), (aD_kinds, .inl (cI, 5, .inl D_kinds)), (aD_isBroken, .inl (cZ, 5, .inl D_isBroken)), (aD_wanted, .inl (cI, 5, .inl D_wanted)), (aP_row, .inl (cI, 5, .inl P_row))] → va_S A s.heap H locs → lv_has ls 5 [(0, .ref aP), (1, .int x1), (2, .int x2), (3, .int x3)] → W p l e ({ frames := 1 + (nr + 1), cells := 0, slots := 0, locals := 23 + 24 * (nr + 1) } : Room) s m ([.ref aP, .int x1, .int x2] : List Value).toArray below meth c H locs 0 0 Q0 (F0 m 15 ls []) := by
      intro n
      induction n with
      | zero =>
        intro x3 hw
        exact (show False from hw).elim
      | succ n hK15 =>
        intro x3 hw H locs ls hP hD hS hl
        have hw : Y_X1_canAllGo_15 D_kinds D_isBroken D_units D_wanted D_leaving P_row x1 x2 post (wp_X1_canAllGo nr D_kinds D_isBroken D_units D_wanted D_leaving P_row) (Z_X1_canAllGo_15 D_kinds D_isBroken D_units D_wanted D_leaving P_row x1 x2 post (wp_X1_canAllGo nr D_kinds D_isBroken D_units D_wanted D_leaving P_row) n) x3 := hw
        unfold Y_X1_canAllGo_15 at hw
        refine lv_iload_n hx hb dX1_canAllGo_15 rfl (lv_at hl 3 rfl) ?_
        refine lv_iconst (v := 3) hx hb dX1_canAllGo_16 (by decide) ?_
        refine lv_icmp_ge (tgt := 79) hx hb dX1_canAllGo_17 (by decide) (fun hc2 => ?_) (fun hc2 => ?_)
        · have hw := hw.1 hc2
          refine lv_iconst (v := 0) hx hb dX1_canAllGo_79 (by decide) ?_
          exact hret 0  H locs 80 ls hw dX1_canAllGo_80 hP hD hS rfl
        · have hw := hw.2 hc2
          refine lv_aload_n hx hb dX1_canAllGo_20 rfl (lv_at hl 0 rfl) ?_
          refine lv_iload_n hx hb dX1_canAllGo_21 rfl (lv_at hl 3 rfl) ?_
          refine lv_iload_n hx hb dX1_canAllGo_22 rfl (lv_at hl 2 rfl) ?_
          refine zVi (As := [.int x3, .int x2]) (rest := []) (wc := [(aD, .inr (0, [.ref aD_kinds, .ref aD_washes, .ref aD_fuels, .ref aD_isBroken, .int D_units, .ref aD_lengths, .ref aD_wanted, .int D_leaving, .ref aD_trackOf, .int D_parked, .int D_changes])), (aP, .inr (1, [.ref aD, .ref aP_packed, .ref aP_row, .int P_found, .int P_narrowest, .int P_knownAt])), (aP_row, .inl (cI, 5, .inl P_row))]) (wr := [(aD_kinds, .inl (cI, 5, .inl D_kinds)), (aD_isBroken, .inl (cZ, 5, .inl D_isBroken)), (aD_wanted, .inl (cI, 5, .inl D_wanted))]) ⟨hx, hb, hml, hown, hts⟩ hK hP hD hS hA [0, 1, 5] [2, 3, 4] rfl rfl (by decide) (by decide) (by decide) (c_X1_lastOn l D cI cJ cZ aD aD_kinds aD_washes aD_fuels aD_isBroken aD_lengths aD_wanted aD_trackOf aP aP_packed aP_row H.size D_units D_leaving D_parked D_changes P_found P_narrowest P_knownAt P_row x3 x2 _ hw) (cwV 2 hts gX1_canAllGo_X1_lastOn rfl rfl rfl (by decide +kernel) ⟨by show 0 + 1 ≤ 1 + (nr + 1); omega, by show 8 + (4 + 11) + 0 ≤ 23 + 24 * (nr + 1); omega⟩) 1 1 rfl rfl rfl rfl hl.1 (Nat.le_of_ble_eq_true rfl) dX1_canAllGo_23 ⟨(Nat.le_of_ble_eq_true rfl), (Nat.le_of_ble_eq_true rfl)⟩ rfl (fun r3 u H locs hw hP hD hS => ?_)
          try dsimp only at hw
          have hP : va_P D vwCl [(aD, .inr (0, [.ref aD_kinds, .ref aD_washes, .ref aD_fuels, .ref aD_isBroken, .int D_units, .ref aD_lengths, .ref aD_wanted, .int D_leaving, .ref aD_trackOf, .int D_parked, .int D_changes])), (aP, .inr (1, [.ref aD, .ref aP_packed, .ref aP_row, .int P_found, .int P_narrowest, .int P_knownAt])), (aD_kinds, .inl (cI, 5, .inl D_kinds)), (aD_isBroken, .inl (cZ, 5, .inl D_isBroken)), (aD_wanted, .inl (cI, 5, .inl D_wanted)), (aP_row, .inl (cI, 5, .inl P_row))] H := hP.sub [3, 4, 0, 1, 2, 5] rfl
          have hD : va_D A [(aD, .inr (0, [.ref aD_kinds, .ref aD_washes, .ref aD_fuels, .ref aD_isBroken, .int D_units, .ref aD_lengths, .ref aD_wanted, .int D_leaving, .ref aD_trackOf, .int D_parked, .int D_changes])), (aP, .inr (1, [.ref aD, .ref aP_packed, .ref aP_row, .int P_found, .int P_narrowest, .int P_knownAt])), (aD_kinds, .inl (cI, 5, .inl D_kinds)), (aD_isBroken, .inl (cZ, 5, .inl D_isBroken)), (aD_wanted, .inl (cI, 5, .inl D_wanted)), (aP_row, .inl (cI, 5, .inl P_row))] := hD.sub [3, 4, 0, 1, 2, 5] (by decide) rfl
          refine lv_istore (lv' := [(4, .int r3), (0, .ref aP), (1, .int x1), (2, .int x2), (3, .int x3)]) hx hb dX1_canAllGo_26 hl (by decide) rfl (fun ls hl => ?_)
          refine lv_iload hx hb dX1_canAllGo_28 (lv_at hl 0 rfl) ?_
          refine lv_iconst (v := (-1)) hx hb dX1_canAllGo_30 (by decide) ?_
          refine lv_icmp_eq (tgt := 73) hx hb dX1_canAllGo_31 (by decide) (fun hc4 => ?_) (fun hc4 => ?_)
          · have hw := hw.1 hc4
            refine lv_iinc (v := (x3 + 1)) (lv' := [(3, .int (x3 + 1)), (4, .int r3), (0, .ref aP), (1, .int x1), (2, .int x2)]) hx hb dX1_canAllGo_73 hl (k := 4) rfl rfl (by decide) rfl (fun ls hl => ?_)
            refine lv_goto (tgt := 15) hx hb dX1_canAllGo_76 (by decide) ?_
            exact hK15 (x3 + 1) hw H locs ls hP hD hS (lv_sub hl [2, 3, 4, 0] rfl)
          · have hw := hw.2 hc4
            refine lv_aload_n hx hb dX1_canAllGo_34 rfl (lv_at hl 1 rfl) ?_
            refine va_get (D := D) (ci := 1) (v := .ref aD) (C := RX1) (T := TX1) (N := 6) hx hb hts hinX1 hown hK hP 1 rfl rfl 0 (by decide) hf28 (fun _ h9 => h9) rfl dX1_canAllGo_35 ?_
            refine lv_iload hx hb dX1_canAllGo_38 (lv_at hl 0 rfl) ?_
            refine lv_aload_n hx hb dX1_canAllGo_40 rfl (lv_at hl 1 rfl) ?_
            refine va_get (D := D) (ci := 1) (v := .ref aD) (C := RX1) (T := TX1) (N := 6) hx hb hts hinX1 hown hK hP 1 rfl rfl 0 (by decide) hf28 (fun _ h9 => h9) rfl dX1_canAllGo_41 ?_
            refine va_get (D := D) (ci := 0) (v := .ref aD_wanted) (C := RX0) (T := TX0) (N := 11) hx hb hts hinX0 hown hK hP 0 rfl rfl 6 (by decide) hf81 (fun _ h9 => h9) rfl dX1_canAllGo_44 ?_
            refine lv_iload_n hx hb dX1_canAllGo_47 rfl (lv_at hl 2 rfl) ?_
            obtain ⟨hb5, hw⟩ := hw
            refine va_iald hx hb hK hP 4 0 rfl rfl hb5 dX1_canAllGo_48 ?_
            refine zVi (As := [.int r3, .int (D_wanted x1.toNatClampNeg)]) (rest := []) (wc := [(aD, .inr (0, [.ref aD_kinds, .ref aD_washes, .ref aD_fuels, .ref aD_isBroken, .int D_units, .ref aD_lengths, .ref aD_wanted, .int D_leaving, .ref aD_trackOf, .int D_parked, .int D_changes])), (aD_kinds, .inl (cI, 5, .inl D_kinds)), (aD_isBroken, .inl (cZ, 5, .inl D_isBroken))]) (wr := [(aP, .inr (1, [.ref aD, .ref aP_packed, .ref aP_row, .int P_found, .int P_narrowest, .int P_knownAt])), (aD_wanted, .inl (cI, 5, .inl D_wanted)), (aP_row, .inl (cI, 5, .inl P_row))]) ⟨hx, hb, hml, hown, hts⟩ hK hP hD hS hA [0, 2, 3] [1, 4, 5] rfl rfl (by decide) (by decide) (by decide) (c_X0_canServe l D cI cJ cZ aD aD_kinds aD_washes aD_fuels aD_isBroken aD_lengths aD_wanted aD_trackOf H.size D_units D_leaving D_parked D_changes D_kinds D_isBroken r3 (D_wanted x1.toNatClampNeg) _ hw) (cwV 2 hts gX1_canAllGo_X0_canServe rfl rfl rfl (by decide +kernel) ⟨by show 0 + 1 ≤ 1 + (nr + 1); omega, by show 8 + (3 + 11) + 0 ≤ 23 + 24 * (nr + 1); omega⟩) 0 0 rfl rfl rfl rfl hl.1 (Nat.le_of_ble_eq_true rfl) dX1_canAllGo_49 ⟨(Nat.le_of_ble_eq_true rfl), (Nat.le_of_ble_eq_true rfl)⟩ rfl (fun r6 u H locs hw hP hD hS => ?_)
            try dsimp only at hw
            have hP : va_P D vwCl [(aD, .inr (0, [.ref aD_kinds, .ref aD_washes, .ref aD_fuels, .ref aD_isBroken, .int D_units, .ref aD_lengths, .ref aD_wanted, .int D_leaving, .ref aD_trackOf, .int D_parked, .int D_changes])), (aP, .inr (1, [.ref aD, .ref aP_packed, .ref aP_row, .int P_found, .int P_narrowest, .int P_knownAt])), (aD_kinds, .inl (cI, 5, .inl D_kinds)), (aD_isBroken, .inl (cZ, 5, .inl D_isBroken)), (aD_wanted, .inl (cI, 5, .inl D_wanted)), (aP_row, .inl (cI, 5, .inl P_row))] H := hP.sub [3, 0, 4, 5, 1, 2] rfl
            have hD : va_D A [(aD, .inr (0, [.ref aD_kinds, .ref aD_washes, .ref aD_fuels, .ref aD_isBroken, .int D_units, .ref aD_lengths, .ref aD_wanted, .int D_leaving, .ref aD_trackOf, .int D_parked, .int D_changes])), (aP, .inr (1, [.ref aD, .ref aP_packed, .ref aP_row, .int P_found, .int P_narrowest, .int P_knownAt])), (aD_kinds, .inl (cI, 5, .inl D_kinds)), (aD_isBroken, .inl (cZ, 5, .inl D_isBroken)), (aD_wanted, .inl (cI, 5, .inl D_wanted)), (aP_row, .inl (cI, 5, .inl P_row))] := hD.sub [3, 0, 4, 5, 1, 2] (by decide) rfl
            refine lv_if_eq (tgt := 73) hx hb dX1_canAllGo_52 (by decide) (fun hc7 => ?_) (fun hc7 => ?_)
            · have hw := hw.1 hc7
              refine lv_iinc (v := (x3 + 1)) (lv' := [(3, .int (x3 + 1)), (4, .int r3), (0, .ref aP), (1, .int x1), (2, .int x2)]) hx hb dX1_canAllGo_73 hl (k := 4) rfl rfl (by decide) rfl (fun ls hl => ?_)
              refine lv_goto (tgt := 15) hx hb dX1_canAllGo_76 (by decide) ?_
              exact hK15 (x3 + 1) hw H locs ls hP hD hS (lv_sub hl [2, 3, 4, 0] rfl)
            · have hw := hw.2 hc7
              refine lv_aload_n hx hb dX1_canAllGo_55 rfl (lv_at hl 1 rfl) ?_
              refine lv_iload_n hx hb dX1_canAllGo_56 rfl (lv_at hl 2 rfl) ?_
              refine lv_iconst (v := 1) hx hb dX1_canAllGo_57 (by decide) ?_
              refine lv_iadd hx hb dX1_canAllGo_58 ?_
              refine lv_iload_n hx hb dX1_canAllGo_59 rfl (lv_at hl 3 rfl) ?_
              refine lv_iconst (v := 1) hx hb dX1_canAllGo_60 (by decide) ?_
              refine lv_iload hx hb dX1_canAllGo_61 (lv_at hl 0 rfl) ?_
              refine lv_ishl hx hb dX1_canAllGo_63 ?_
              refine lv_ior hx hb dX1_canAllGo_64 ?_
              refine zVi (As := [.int (x1 + 1), .int (x2 ||| ((1 : Int32) <<< (r3 &&& 31)))]) (rest := []) (wc := [(aD, .inr (0, [.ref aD_kinds, .ref aD_washes, .ref aD_fuels, .ref aD_isBroken, .int D_units, .ref aD_lengths, .ref aD_wanted, .int D_leaving, .ref aD_trackOf, .int D_parked, .int D_changes])), (aP, .inr (1, [.ref aD, .ref aP_packed, .ref aP_row, .int P_found, .int P_narrowest, .int P_knownAt])), (aD_kinds, .inl (cI, 5, .inl D_kinds)), (aD_isBroken, .inl (cZ, 5, .inl D_isBroken)), (aD_wanted, .inl (cI, 5, .inl D_wanted)), (aP_row, .inl (cI, 5, .inl P_row))]) (wr := []) ⟨hx, hb, hml, hown, hts⟩ hK hP hD hS hA [0, 1, 2, 3, 4, 5] [] rfl rfl (by decide) (by decide) (by decide) (ih aD aD_kinds aD_washes aD_fuels aD_isBroken aD_lengths aD_wanted aD_trackOf aP aP_packed aP_row H.size D_units D_leaving D_parked D_changes P_found P_narrowest P_knownAt D_kinds D_isBroken D_wanted P_row (x1 + 1) (x2 ||| ((1 : Int32) <<< (r3 &&& 31))) _ hw) (cwV 2 hts gX1_canAllGo_X1_canAllGo rfl rfl rfl (by decide +kernel) ⟨by show 1 + nr + 1 ≤ 1 + (nr + 1); omega, by show 8 + (5 + 11) + (23 + 24 * nr) ≤ 23 + 24 * (nr + 1); omega⟩) 1 1 rfl rfl rfl rfl hl.1 (Nat.le_of_ble_eq_true rfl) dX1_canAllGo_65 ⟨(Nat.le_of_ble_eq_true rfl), (Nat.le_of_ble_eq_true rfl)⟩ rfl (fun r8 u H locs hw hP hD hS => ?_)
              try dsimp only at hw
              have hP : va_P D vwCl [(aD, .inr (0, [.ref aD_kinds, .ref aD_washes, .ref aD_fuels, .ref aD_isBroken, .int D_units, .ref aD_lengths, .ref aD_wanted, .int D_leaving, .ref aD_trackOf, .int D_parked, .int D_changes])), (aP, .inr (1, [.ref aD, .ref aP_packed, .ref aP_row, .int P_found, .int P_narrowest, .int P_knownAt])), (aD_kinds, .inl (cI, 5, .inl D_kinds)), (aD_isBroken, .inl (cZ, 5, .inl D_isBroken)), (aD_wanted, .inl (cI, 5, .inl D_wanted)), (aP_row, .inl (cI, 5, .inl P_row))] H := hP.sub [0, 1, 2, 3, 4, 5] rfl
              have hD : va_D A [(aD, .inr (0, [.ref aD_kinds, .ref aD_washes, .ref aD_fuels, .ref aD_isBroken, .int D_units, .ref aD_lengths, .ref aD_wanted, .int D_leaving, .ref aD_trackOf, .int D_parked, .int D_changes])), (aP, .inr (1, [.ref aD, .ref aP_packed, .ref aP_row, .int P_found, .int P_narrowest, .int P_knownAt])), (aD_kinds, .inl (cI, 5, .inl D_kinds)), (aD_isBroken, .inl (cZ, 5, .inl D_isBroken)), (aD_wanted, .inl (cI, 5, .inl D_wanted)), (aP_row, .inl (cI, 5, .inl P_row))] := hD.sub [0, 1, 2, 3, 4, 5] (by decide) rfl
              refine lv_if_eq (tgt := 73) hx hb dX1_canAllGo_68 (by decide) (fun hc9 => ?_) (fun hc9 => ?_)
              · have hw := hw.1 hc9
                refine lv_iinc (v := (x3 + 1)) (lv' := [(3, .int (x3 + 1)), (4, .int r3), (0, .ref aP), (1, .int x1), (2, .int x2)]) hx hb dX1_canAllGo_73 hl (k := 4) rfl rfl (by decide) rfl (fun ls hl => ?_)
                refine lv_goto (tgt := 15) hx hb dX1_canAllGo_76 (by decide) ?_
                exact hK15 (x3 + 1) hw H locs ls hP hD hS (lv_sub hl [2, 3, 4, 0] rfl)
              · have hw := hw.2 hc9
                refine lv_iconst (v := 1) hx hb dX1_canAllGo_71 (by decide) ?_
                exact hret 1  H locs 72 ls hw dX1_canAllGo_72 hP hD hS rfl
    obtain ⟨H, hHe⟩ : ∃ H, H = s.heap := ⟨_, rfl⟩
    obtain ⟨locs, hLo⟩ : ∃ locs : List Loc, locs = [] := ⟨_, rfl⟩
    have hS : va_S A s.heap H locs := by rw [hHe, hLo]; exact hS
    have hP : va_P D vwCl [(aD, .inr (0, [.ref aD_kinds, .ref aD_washes, .ref aD_fuels, .ref aD_isBroken, .int D_units, .ref aD_lengths, .ref aD_wanted, .int D_leaving, .ref aD_trackOf, .int D_parked, .int D_changes])), (aP, .inr (1, [.ref aD, .ref aP_packed, .ref aP_row, .int P_found, .int P_narrowest, .int P_knownAt])), (aD_kinds, .inl (cI, 5, .inl D_kinds)), (aD_isBroken, .inl (cZ, 5, .inl D_isBroken)), (aD_wanted, .inl (cI, 5, .inl D_wanted)), (aP_row, .inl (cI, 5, .inl P_row))] H := by rw [hHe]; exact hP
    refine (fun (hgo : W p l e ({ frames := 1 + (nr + 1), cells := 0, slots := 0, locals := 23 + 24 * (nr + 1) } : Room) s m ([.ref aP, .int x1, .int x2] : List Value).toArray below meth c H locs 0 0 Q0 (F0 m 0 ls [])) => by rw [hHe, hLo] at hgo; exact hgo) ?_
    refine lv_iload_n hx hb dX1_canAllGo_0 rfl (lv_at hl 1 rfl) ?_
    refine lv_aload_n hx hb dX1_canAllGo_1 rfl (lv_at hl 0 rfl) ?_
    refine va_get (D := D) (ci := 1) (v := .ref aD) (C := RX1) (T := TX1) (N := 6) hx hb hts hinX1 hown hK hP 1 rfl rfl 0 (by decide) hf28 (fun _ h9 => h9) rfl dX1_canAllGo_2 ?_
    refine va_get (D := D) (ci := 0) (v := .int D_leaving) (C := RX0) (T := TX0) (N := 11) hx hb hts hinX0 hown hK hP 0 rfl rfl 7 (by decide) hf74 (fun _ h9 => h9) rfl dX1_canAllGo_5 ?_
    refine lv_icmp_lt (tgt := 13) hx hb dX1_canAllGo_8 (by decide) (fun hc1 => ?_) (fun hc1 => ?_)
    · have hw := hw.1 hc1
      refine lv_iconst (v := 0) hx hb dX1_canAllGo_13 (by decide) ?_
      refine lv_istore_n (lv' := [(3, .int 0), (0, .ref aP), (1, .int x1), (2, .int x2)]) hx hb dX1_canAllGo_14 rfl hl (by decide) rfl (fun ls hl => ?_)
      obtain ⟨n10, hw⟩ := hw
      exact wZ_X1_canAllGo_15  n10 0 hw H locs ls hP hD hS (lv_sub hl [1, 2, 3, 0] rfl)
    · have hw := hw.2 hc1
      refine lv_iconst (v := 1) hx hb dX1_canAllGo_11 (by decide) ?_
      exact hret 1  H locs 12 ls hw dX1_canAllGo_12 hP hD hS rfl
/-! X1_packRow -/
def Y_X1_packRow_4 (D_units : Int32) (P_row : Nat → Int32) (post : Int32 → Prop) (K4 : Int32 → Int32 → Prop) (x1 : Int32) (x2 : Int32) : Prop :=
  ((D_units ≤ x2 → post x1 ) ∧ (¬ D_units ≤ x2 → vp_in x2 5 ∧ (∀ y3 : Int32, y3 = (x1 ||| ((P_row x2.toNatClampNeg) <<< (((2 : Int32) * x2) &&& 31))) → (K4 y3 (x2 + 1)))))
def Z_X1_packRow_4 (D_units : Int32) (P_row : Nat → Int32) (post : Int32 → Prop) : Nat → Int32 → Int32 → Prop
  | 0 => fun _ _ => False
  | n + 1 => Y_X1_packRow_4 D_units P_row post (Z_X1_packRow_4 D_units P_row post n)
def wp_X1_packRow (D_units : Int32) (P_row : Nat → Int32) (post : Int32 → Prop) : Prop :=
  ∃ n, Z_X1_packRow_4 D_units P_row post n 0 0
set_option maxHeartbeats 4000000 in
set_option maxRecDepth 100000 in
theorem c_X1_packRow (l : Launch) (D : va_G) (cI cJ cZ : ClassId) (aD aD_kinds aD_washes aD_fuels aD_isBroken aD_lengths aD_wanted aD_trackOf aP aP_packed aP_row : Nat) (sz : Nat) (D_units : Int32) (D_leaving : Int32) (D_parked : Int32) (D_changes : Int32) (P_found : Int32) (P_narrowest : Int32) (P_knownAt : Int32) (P_row : Nat → Int32) (post : Int32 → Prop) (hw : wp_X1_packRow D_units P_row post) : Met l yX1_packRow wsX1_packRow ({ frames := 0, cells := 0, slots := 0, locals := 0 } : Room) (va_Pc [.ref aP] (zPre D cI cJ cZ [(aD, .inr (0, [.ref aD_kinds, .ref aD_washes, .ref aD_fuels, .ref aD_isBroken, .int D_units, .ref aD_lengths, .ref aD_wanted, .int D_leaving, .ref aD_trackOf, .int D_parked, .int D_changes])), (aP, .inr (1, [.ref aD, .ref aP_packed, .ref aP_row, .int P_found, .int P_narrowest, .int P_knownAt])), (aP_row, .inl (cI, 5, .inl P_row))] sz)) (va_Qi (fun (r : Int32) (u : Unit) => post r) (zPost D cI cJ cZ (va_A [(aD, .inr (0, [.ref aD_kinds, .ref aD_washes, .ref aD_fuels, .ref aD_isBroken, .int D_units, .ref aD_lengths, .ref aD_wanted, .int D_leaving, .ref aD_trackOf, .int D_parked, .int D_changes])), (aP, .inr (1, [.ref aD, .ref aP_packed, .ref aP_row, .int P_found, .int P_narrowest, .int P_knownAt])), (aP_row, .inl (cI, 5, .inl P_row))] sz) (fun u : Unit => [(aD, .inr (0, [.ref aD_kinds, .ref aD_washes, .ref aD_fuels, .ref aD_isBroken, .int D_units, .ref aD_lengths, .ref aD_wanted, .int D_leaving, .ref aD_trackOf, .int D_parked, .int D_changes])), (aP, .inr (1, [.ref aD, .ref aP_packed, .ref aP_row, .int P_found, .int P_narrowest, .int P_knownAt])), (aP_row, .inl (cI, 5, .inl P_row))])) (va_A [(aD, .inr (0, [.ref aD_kinds, .ref aD_washes, .ref aD_fuels, .ref aD_isBroken, .int D_units, .ref aD_lengths, .ref aD_wanted, .int D_leaving, .ref aD_trackOf, .int D_parked, .int D_changes])), (aP, .inr (1, [.ref aD, .ref aP_packed, .ref aP_row, .int P_found, .int P_narrowest, .int P_knownAt])), (aP_row, .inl (cI, 5, .inl P_row))] sz)) 0 0 (va_A [(aD, .inr (0, [.ref aD_kinds, .ref aD_washes, .ref aD_fuels, .ref aD_isBroken, .int D_units, .ref aD_lengths, .ref aD_wanted, .int D_leaving, .ref aD_trackOf, .int D_parked, .int D_changes])), (aP, .inr (1, [.ref aD, .ref aP_packed, .ref aP_row, .int P_found, .int P_narrowest, .int P_knownAt])), (aP_row, .inl (cI, 5, .inl P_row))] sz) := by
  unfold wp_X1_packRow at hw
  refine Met.ofW (cc := cX1_packRow) (maxL := 3) (ret := some .int) (by decide) rfl ?_
  intro p e s m args below meth c s₁ B hml hv
  obtain ⟨rfl, hsz, hP, hK, hD0⟩ := hv
  have hx := B.exec
  have hb := B.bytes
  have hr := B.returns
  have hts := atoms_spec (ws := wsX1_packRow) B.pre
  have hown : s.vm.findClass RX1 = some m.cls := findClass_of_methodNamed B.named
  have hlocks := B.notSynchronized
  subst hsz
  have hD := hD0.self (sz := s.heap.size)
  generalize hAe : va_A [(aD, .inr (0, [.ref aD_kinds, .ref aD_washes, .ref aD_fuels, .ref aD_isBroken, .int D_units, .ref aD_lengths, .ref aD_wanted, .int D_leaving, .ref aD_trackOf, .int D_parked, .int D_changes])), (aP, .inr (1, [.ref aD, .ref aP_packed, .ref aP_row, .int P_found, .int P_narrowest, .int P_knownAt])), (aP_row, .inl (cI, 5, .inl P_row))] s.heap.size = A at hD ⊢
  have hA : ∀ q : Nat, s.heap.size ≤ q → A q := fun q h => by rw [← hAe]; exact Or.inr h
  have hS : va_S A s.heap s.heap [] := va_S.rf
  refine (fun (hall : ∀ Q0 : State → Prop, (∀ (r : Int32)  (H : Heap) (locs : List Loc) (pc : Nat) (ls : Array Slot), post r → decode cX1_packRow pc = .ok (.ireturn, 1) → va_P D vwCl [(aD, .inr (0, [.ref aD_kinds, .ref aD_washes, .ref aD_fuels, .ref aD_isBroken, .int D_units, .ref aD_lengths, .ref aD_wanted, .int D_leaving, .ref aD_trackOf, .int D_parked, .int D_changes])), (aP, .inr (1, [.ref aD, .ref aP_packed, .ref aP_row, .int P_found, .int P_narrowest, .int P_knownAt])), (aP_row, .inl (cI, 5, .inl P_row))] H → va_D A [(aD, .inr (0, [.ref aD_kinds, .ref aD_washes, .ref aD_fuels, .ref aD_isBroken, .int D_units, .ref aD_lengths, .ref aD_wanted, .int D_leaving, .ref aD_trackOf, .int D_parked, .int D_changes])), (aP, .inr (1, [.ref aD, .ref aP_packed, .ref aP_row, .int P_found, .int P_narrowest, .int P_knownAt])), (aP_row, .inl (cI, 5, .inl P_row))] → va_S A s.heap H locs → W p l e ({ frames := 0, cells := 0, slots := 0, locals := 0 } : Room) s m ([.ref aP] : List Value).toArray below meth c H locs 0 0 Q0 (F0 m pc ls [.int r])) → W p l e ({ frames := 0, cells := 0, slots := 0, locals := 0 } : Room) s m ([.ref aP] : List Value).toArray below meth c s.heap [] 0 0 Q0 (entryFrame m ([.ref aP] : List Value).toArray 3)) => hall _ (fun r  H locs pc ls hw hd hP hD hS => W.iret (v := r) hx hb hr (fun t ht hW => ⟨⟨r, (), rfl, hw, by rw [ht]; exact hP, va_K.moved hW.alike hK, hD⟩, hS.F ht⟩) hS.2.2 hd)) ?_
  intro Q0 hret
  have hl := lv_entry ([.ref aP]) (n := 3) (Nat.le_of_ble_eq_true rfl)
  rw [lg_entry_eq]
  generalize (lg_sl ([.ref aP]) ++ List.replicate (3 - (lg_sl ([.ref aP])).length) Slot.unset).toArray = ls at hl ⊢
  have hl : lv_has ls 3 [(0, .ref aP)] := hl
  have hinX0 : ∀ w ∈ u_ws RX0 TX0 11, w ∈ wsX1_packRow := by decide +kernel
  have hinX1 : ∀ w ∈ u_ws RX1 TX1 6, w ∈ wsX1_packRow := by decide +kernel
  have hf15 := hts (.fieldLink RX1 15 "DepotNight$Parkings" "row" "[I") (by decide +kernel)
  have hf28 := hts (.fieldLink RX1 28 "DepotNight$Parkings" "depot" "LDepotNight$Depot;") (by decide +kernel)
  have hf37 := hts (.fieldLink RX1 37 "DepotNight$Depot" "units" "I") (by decide +kernel)
  have wZ_X1_packRow_4 : ∀ (n : Nat) (x1 : Int32) (x2 : Int32), Z_X1_packRow_4 D_units P_row post n x1 x2 → ∀ (H : Heap) (locs : List Loc) (ls : Array Slot), va_P D vwCl [(aD, .inr (0, [.ref aD_kinds, .ref aD_washes, .ref aD_fuels, .ref aD_isBroken, .int D_units, .ref aD_lengths, .ref aD_wanted, .int D_leaving, .ref aD_trackOf, .int D_parked, .int D_changes])), (aP, .inr (1, [.ref aD, .ref aP_packed, .ref aP_row, .int P_found, .int P_narrowest, .int P_knownAt])), (aP_row, .inl (cI, 5, .inl P_row))] H → va_D A [(aD, .inr (0, [.ref aD_kinds, .ref aD_washes, .ref aD_fuels, .ref aD_isBroken, .int D_units, .ref aD_lengths, .ref aD_wanted, .int D_leaving, .ref aD_trackOf, .int D_parked, .int D_changes])), (aP, .inr (1, [.ref aD, .ref aP_packed, .ref aP_row, .int P_found, .int P_narrowest, .int P_knownAt])), (aP_row, .inl (cI, 5, .inl P_row))] → va_S A s.heap H locs → lv_has ls 3 [(0, .ref aP), (1, .int x1), (2, .int x2)] → W p l e ({ frames := 0, cells := 0, slots := 0, locals := 0 } : Room) s m ([.ref aP] : List Value).toArray below meth c H locs 0 0 Q0 (F0 m 4 ls []) := by
    intro n
    induction n with
    | zero =>
      intro x1 x2 hw
      exact (show False from hw).elim
    | succ n hK4 =>
      intro x1 x2 hw H locs ls hP hD hS hl
      have hw : Y_X1_packRow_4 D_units P_row post (Z_X1_packRow_4 D_units P_row post n) x1 x2 := hw
      unfold Y_X1_packRow_4 at hw
      refine lv_iload_n hx hb dX1_packRow_4 rfl (lv_at hl 2 rfl) ?_
      refine lv_aload_n hx hb dX1_packRow_5 rfl (lv_at hl 0 rfl) ?_
      refine va_get (D := D) (ci := 1) (v := .ref aD) (C := RX1) (T := TX1) (N := 6) hx hb hts hinX1 hown hK hP 1 rfl rfl 0 (by decide) hf28 (fun _ h9 => h9) rfl dX1_packRow_6 ?_
      refine va_get (D := D) (ci := 0) (v := .int D_units) (C := RX0) (T := TX0) (N := 11) hx hb hts hinX0 hown hK hP 0 rfl rfl 4 (by decide) hf37 (fun _ h9 => h9) rfl dX1_packRow_9 ?_
      refine lv_icmp_ge (tgt := 34) hx hb dX1_packRow_12 (by decide) (fun hc1 => ?_) (fun hc1 => ?_)
      · have hw := hw.1 hc1
        refine lv_iload_n hx hb dX1_packRow_34 rfl (lv_at hl 1 rfl) ?_
        exact hret x1  H locs 35 ls hw dX1_packRow_35 hP hD hS 
      · have hw := hw.2 hc1
        refine lv_iload_n hx hb dX1_packRow_15 rfl (lv_at hl 1 rfl) ?_
        refine lv_aload_n hx hb dX1_packRow_16 rfl (lv_at hl 0 rfl) ?_
        refine va_get (D := D) (ci := 1) (v := .ref aP_row) (C := RX1) (T := TX1) (N := 6) hx hb hts hinX1 hown hK hP 1 rfl rfl 2 (by decide) hf15 (fun _ h9 => h9) rfl dX1_packRow_17 ?_
        refine lv_iload_n hx hb dX1_packRow_20 rfl (lv_at hl 2 rfl) ?_
        obtain ⟨hb2, hw⟩ := hw
        refine va_iald hx hb hK hP 2 0 rfl rfl hb2 dX1_packRow_21 ?_
        refine lv_iconst (v := 2) hx hb dX1_packRow_22 (by decide) ?_
        refine lv_iload_n hx hb dX1_packRow_23 rfl (lv_at hl 2 rfl) ?_
        refine lv_imul hx hb dX1_packRow_24 ?_
        refine lv_ishl hx hb dX1_packRow_25 ?_
        refine lv_ior hx hb dX1_packRow_26 ?_
        refine lv_topi (fun y3 ey3 => ?_)
        have hw := hw y3 ey3
        refine lv_istore_n (lv' := [(1, .int y3), (0, .ref aP), (2, .int x2)]) hx hb dX1_packRow_27 rfl hl (by decide) rfl (fun ls hl => ?_)
        refine lv_iinc (v := (x2 + 1)) (lv' := [(2, .int (x2 + 1)), (1, .int y3), (0, .ref aP)]) hx hb dX1_packRow_28 hl (k := 2) rfl rfl (by decide) rfl (fun ls hl => ?_)
        refine lv_goto (tgt := 4) hx hb dX1_packRow_31 (by decide) ?_
        exact hK4 y3 (x2 + 1) hw H locs ls hP hD hS (lv_sub hl [2, 1, 0] rfl)
  obtain ⟨H, hHe⟩ : ∃ H, H = s.heap := ⟨_, rfl⟩
  obtain ⟨locs, hLo⟩ : ∃ locs : List Loc, locs = [] := ⟨_, rfl⟩
  have hS : va_S A s.heap H locs := by rw [hHe, hLo]; exact hS
  have hP : va_P D vwCl [(aD, .inr (0, [.ref aD_kinds, .ref aD_washes, .ref aD_fuels, .ref aD_isBroken, .int D_units, .ref aD_lengths, .ref aD_wanted, .int D_leaving, .ref aD_trackOf, .int D_parked, .int D_changes])), (aP, .inr (1, [.ref aD, .ref aP_packed, .ref aP_row, .int P_found, .int P_narrowest, .int P_knownAt])), (aP_row, .inl (cI, 5, .inl P_row))] H := by rw [hHe]; exact hP
  refine (fun (hgo : W p l e ({ frames := 0, cells := 0, slots := 0, locals := 0 } : Room) s m ([.ref aP] : List Value).toArray below meth c H locs 0 0 Q0 (F0 m 0 ls [])) => by rw [hHe, hLo] at hgo; exact hgo) ?_
  refine lv_iconst (v := 0) hx hb dX1_packRow_0 (by decide) ?_
  refine lv_istore_n (lv' := [(1, .int 0), (0, .ref aP)]) hx hb dX1_packRow_1 rfl hl (by decide) rfl (fun ls hl => ?_)
  refine lv_iconst (v := 0) hx hb dX1_packRow_2 (by decide) ?_
  refine lv_istore_n (lv' := [(2, .int 0), (1, .int 0), (0, .ref aP)]) hx hb dX1_packRow_3 rfl hl (by decide) rfl (fun ls hl => ?_)
  obtain ⟨n4, hw⟩ := hw
  exact wZ_X1_packRow_4  n4 0 0 hw H locs ls hP hD hS (lv_sub hl [2, 1, 0] rfl)
/-! X1_moveOn -/
def Y_X1_moveOn_10 (D_units : Int32) (post : Int32 → (Nat → Int32) → Prop) (K24 : Int32 → (Nat → Int32) → Prop) (K10 : Int32 → (Nat → Int32) → Prop) (x1 : Int32) (P_row : Nat → Int32) : Prop :=
  ((x1 < 0 → post 0 P_row) ∧ (¬ x1 < 0 → vp_in x1 5 ∧ (((2 ≤ (P_row x1.toNatClampNeg) → vp_in x1 5 ∧ (K10 (x1 + (-1)) (upd P_row x1.toNatClampNeg (0 : Int32)))) ∧ (¬ 2 ≤ (P_row x1.toNatClampNeg) → K24 x1 P_row)))))
def Z_X1_moveOn_10 (D_units : Int32) (post : Int32 → (Nat → Int32) → Prop) (K24 : Int32 → (Nat → Int32) → Prop) : Nat → Int32 → (Nat → Int32) → Prop
  | 0 => fun _ _ => False
  | n + 1 => Y_X1_moveOn_10 D_units post K24 (Z_X1_moveOn_10 D_units post K24 n)
def wp_X1_moveOn (D_units : Int32) (P_row : Nat → Int32) (post : Int32 → (Nat → Int32) → Prop) : Prop :=
  ∀ y1 : Int32, y1 = (D_units - 1) → (∃ n, Z_X1_moveOn_10 D_units post (fun (x1_6 : Int32) (P_row_7 : Nat → Int32) => vp_in x1_6 5 ∧ (∀ y10 : Int32, y10 = ((P_row_7 x1_6.toNatClampNeg) + 1) → (vp_in x1_6 5 ∧ (post 1 (upd P_row_7 x1_6.toNatClampNeg y10))))) n y1 P_row)
set_option maxHeartbeats 4000000 in
set_option maxRecDepth 100000 in
theorem c_X1_moveOn (l : Launch) (D : va_G) (cI cJ cZ : ClassId) (aD aD_kinds aD_washes aD_fuels aD_isBroken aD_lengths aD_wanted aD_trackOf aP aP_packed aP_row : Nat) (sz : Nat) (D_units : Int32) (D_leaving : Int32) (D_parked : Int32) (D_changes : Int32) (P_found : Int32) (P_narrowest : Int32) (P_knownAt : Int32) (P_row : Nat → Int32) (post : Int32 → (Nat → Int32) → Prop) (hw : wp_X1_moveOn D_units P_row post) : Met l yX1_moveOn wsX1_moveOn ({ frames := 0, cells := 0, slots := 0, locals := 0 } : Room) (va_Pc [.ref aP] (zPre D cI cJ cZ [(aD, .inr (0, [.ref aD_kinds, .ref aD_washes, .ref aD_fuels, .ref aD_isBroken, .int D_units, .ref aD_lengths, .ref aD_wanted, .int D_leaving, .ref aD_trackOf, .int D_parked, .int D_changes])), (aP, .inr (1, [.ref aD, .ref aP_packed, .ref aP_row, .int P_found, .int P_narrowest, .int P_knownAt])), (aP_row, .inl (cI, 5, .inl P_row))] sz)) (va_Qi (fun (r : Int32) (u : (Nat → Int32)) => post r u) (zPost D cI cJ cZ (va_A [(aD, .inr (0, [.ref aD_kinds, .ref aD_washes, .ref aD_fuels, .ref aD_isBroken, .int D_units, .ref aD_lengths, .ref aD_wanted, .int D_leaving, .ref aD_trackOf, .int D_parked, .int D_changes])), (aP, .inr (1, [.ref aD, .ref aP_packed, .ref aP_row, .int P_found, .int P_narrowest, .int P_knownAt])), (aP_row, .inl (cI, 5, .inl P_row))] sz) (fun u : (Nat → Int32) => [(aD, .inr (0, [.ref aD_kinds, .ref aD_washes, .ref aD_fuels, .ref aD_isBroken, .int D_units, .ref aD_lengths, .ref aD_wanted, .int D_leaving, .ref aD_trackOf, .int D_parked, .int D_changes])), (aP, .inr (1, [.ref aD, .ref aP_packed, .ref aP_row, .int P_found, .int P_narrowest, .int P_knownAt])), (aP_row, .inl (cI, 5, .inl u))])) (va_A [(aD, .inr (0, [.ref aD_kinds, .ref aD_washes, .ref aD_fuels, .ref aD_isBroken, .int D_units, .ref aD_lengths, .ref aD_wanted, .int D_leaving, .ref aD_trackOf, .int D_parked, .int D_changes])), (aP, .inr (1, [.ref aD, .ref aP_packed, .ref aP_row, .int P_found, .int P_narrowest, .int P_knownAt])), (aP_row, .inl (cI, 5, .inl P_row))] sz)) 0 0 (va_A [(aD, .inr (0, [.ref aD_kinds, .ref aD_washes, .ref aD_fuels, .ref aD_isBroken, .int D_units, .ref aD_lengths, .ref aD_wanted, .int D_leaving, .ref aD_trackOf, .int D_parked, .int D_changes])), (aP, .inr (1, [.ref aD, .ref aP_packed, .ref aP_row, .int P_found, .int P_narrowest, .int P_knownAt])), (aP_row, .inl (cI, 5, .inl P_row))] sz) := by
  unfold wp_X1_moveOn at hw
  refine Met.ofW (cc := cX1_moveOn) (maxL := 2) (ret := some .boolean) (by decide) rfl ?_
  intro p e s m args below meth c s₁ B hml hv
  obtain ⟨rfl, hsz, hP, hK, hD0⟩ := hv
  have hx := B.exec
  have hb := B.bytes
  have hr := B.returns
  have hts := atoms_spec (ws := wsX1_moveOn) B.pre
  have hown : s.vm.findClass RX1 = some m.cls := findClass_of_methodNamed B.named
  have hlocks := B.notSynchronized
  subst hsz
  have hD := hD0.self (sz := s.heap.size)
  generalize hAe : va_A [(aD, .inr (0, [.ref aD_kinds, .ref aD_washes, .ref aD_fuels, .ref aD_isBroken, .int D_units, .ref aD_lengths, .ref aD_wanted, .int D_leaving, .ref aD_trackOf, .int D_parked, .int D_changes])), (aP, .inr (1, [.ref aD, .ref aP_packed, .ref aP_row, .int P_found, .int P_narrowest, .int P_knownAt])), (aP_row, .inl (cI, 5, .inl P_row))] s.heap.size = A at hD ⊢
  have hA : ∀ q : Nat, s.heap.size ≤ q → A q := fun q h => by rw [← hAe]; exact Or.inr h
  have hS : va_S A s.heap s.heap [] := va_S.rf
  refine (fun (hall : ∀ Q0 : State → Prop, (∀ (r : Int32) (v0 : Nat → Int32) (H : Heap) (locs : List Loc) (pc : Nat) (ls : Array Slot), post r v0 → decode cX1_moveOn pc = .ok (.ireturn, 1) → va_P D vwCl [(aD, .inr (0, [.ref aD_kinds, .ref aD_washes, .ref aD_fuels, .ref aD_isBroken, .int D_units, .ref aD_lengths, .ref aD_wanted, .int D_leaving, .ref aD_trackOf, .int D_parked, .int D_changes])), (aP, .inr (1, [.ref aD, .ref aP_packed, .ref aP_row, .int P_found, .int P_narrowest, .int P_knownAt])), (aP_row, .inl (cI, 5, .inl v0))] H → va_D A [(aD, .inr (0, [.ref aD_kinds, .ref aD_washes, .ref aD_fuels, .ref aD_isBroken, .int D_units, .ref aD_lengths, .ref aD_wanted, .int D_leaving, .ref aD_trackOf, .int D_parked, .int D_changes])), (aP, .inr (1, [.ref aD, .ref aP_packed, .ref aP_row, .int P_found, .int P_narrowest, .int P_knownAt])), (aP_row, .inl (cI, 5, .inl v0))] → va_S A s.heap H locs → narrow .boolean (.int r) = .int r → W p l e ({ frames := 0, cells := 0, slots := 0, locals := 0 } : Room) s m ([.ref aP] : List Value).toArray below meth c H locs 0 0 Q0 (F0 m pc ls [.int r])) → W p l e ({ frames := 0, cells := 0, slots := 0, locals := 0 } : Room) s m ([.ref aP] : List Value).toArray below meth c s.heap [] 0 0 Q0 (entryFrame m ([.ref aP] : List Value).toArray 2)) => hall _ (fun r v0 H locs pc ls hw hd hP hD hS hnr => W.zret (v := r) hx hb hr hnr (fun t ht hW => ⟨⟨r, v0, rfl, hw, by rw [ht]; exact hP, va_K.moved hW.alike hK, hD⟩, hS.F ht⟩) hS.2.2 hd)) ?_
  intro Q0 hret
  have hl := lv_entry ([.ref aP]) (n := 2) (Nat.le_of_ble_eq_true rfl)
  rw [lg_entry_eq]
  generalize (lg_sl ([.ref aP]) ++ List.replicate (2 - (lg_sl ([.ref aP])).length) Slot.unset).toArray = ls at hl ⊢
  have hl : lv_has ls 2 [(0, .ref aP)] := hl
  have hinX0 : ∀ w ∈ u_ws RX0 TX0 11, w ∈ wsX1_moveOn := by decide +kernel
  have hinX1 : ∀ w ∈ u_ws RX1 TX1 6, w ∈ wsX1_moveOn := by decide +kernel
  have hf15 := hts (.fieldLink RX1 15 "DepotNight$Parkings" "row" "[I") (by decide +kernel)
  have hf28 := hts (.fieldLink RX1 28 "DepotNight$Parkings" "depot" "LDepotNight$Depot;") (by decide +kernel)
  have hf37 := hts (.fieldLink RX1 37 "DepotNight$Depot" "units" "I") (by decide +kernel)
  have wZ_X1_moveOn_10 : ∀ (K24 : Int32 → (Nat → Int32) → Prop), (∀ (x1 : Int32) (P_row : Nat → Int32), K24 x1 P_row → ∀ (H : Heap) (locs : List Loc) (ls : Array Slot), va_P D vwCl [(aD, .inr (0, [.ref aD_kinds, .ref aD_washes, .ref aD_fuels, .ref aD_isBroken, .int D_units, .ref aD_lengths, .ref aD_wanted, .int D_leaving, .ref aD_trackOf, .int D_parked, .int D_changes])), (aP, .inr (1, [.ref aD, .ref aP_packed, .ref aP_row, .int P_found, .int P_narrowest, .int P_knownAt])), (aP_row, .inl (cI, 5, .inl P_row))] H → va_D A [(aD, .inr (0, [.ref aD_kinds, .ref aD_washes, .ref aD_fuels, .ref aD_isBroken, .int D_units, .ref aD_lengths, .ref aD_wanted, .int D_leaving, .ref aD_trackOf, .int D_parked, .int D_changes])), (aP, .inr (1, [.ref aD, .ref aP_packed, .ref aP_row, .int P_found, .int P_narrowest, .int P_knownAt])), (aP_row, .inl (cI, 5, .inl P_row))] → va_S A s.heap H locs → lv_has ls 2 [(0, .ref aP), (1, .int x1)] → W p l e ({ frames := 0, cells := 0, slots := 0, locals := 0 } : Room) s m ([.ref aP] : List Value).toArray below meth c H locs 0 0 Q0 (F0 m 24 ls [])) → ∀ (n : Nat) (x1 : Int32) (P_row : Nat → Int32), Z_X1_moveOn_10 D_units post K24 n x1 P_row → ∀ (H : Heap) (locs : List Loc) (ls : Array Slot), va_P D vwCl [(aD, .inr (0, [.ref aD_kinds, .ref aD_washes, .ref aD_fuels, .ref aD_isBroken, .int D_units, .ref aD_lengths, .ref aD_wanted, .int D_leaving, .ref aD_trackOf, .int D_parked, .int D_changes])), (aP, .inr (1, [.ref aD, .ref aP_packed, .ref aP_row, .int P_found, .int P_narrowest, .int P_knownAt])), (aP_row, .inl (cI, 5, .inl P_row))] H → va_D A [(aD, .inr (0, [.ref aD_kinds, .ref aD_washes, .ref aD_fuels, .ref aD_isBroken, .int D_units, .ref aD_lengths, .ref aD_wanted, .int D_leaving, .ref aD_trackOf, .int D_parked, .int D_changes])), (aP, .inr (1, [.ref aD, .ref aP_packed, .ref aP_row, .int P_found, .int P_narrowest, .int P_knownAt])), (aP_row, .inl (cI, 5, .inl P_row))] → va_S A s.heap H locs → lv_has ls 2 [(0, .ref aP), (1, .int x1)] → W p l e ({ frames := 0, cells := 0, slots := 0, locals := 0 } : Room) s m ([.ref aP] : List Value).toArray below meth c H locs 0 0 Q0 (F0 m 10 ls []) := by
    intro K24 hK24 n
    induction n with
    | zero =>
      intro x1 P_row hw
      exact (show False from hw).elim
    | succ n hK10 =>
      intro x1 P_row hw H locs ls hP hD hS hl
      have hw : Y_X1_moveOn_10 D_units post K24 (Z_X1_moveOn_10 D_units post K24 n) x1 P_row := hw
      unfold Y_X1_moveOn_10 at hw
      refine lv_iload_n hx hb dX1_moveOn_10 rfl (lv_at hl 1 rfl) ?_
      refine lv_if_lt (tgt := 49) hx hb dX1_moveOn_11 (by decide) (fun hc2 => ?_) (fun hc2 => ?_)
      · have hw := hw.1 hc2
        refine lv_iconst (v := 0) hx hb dX1_moveOn_49 (by decide) ?_
        exact hret 0 P_row H locs 50 ls hw dX1_moveOn_50 hP hD hS rfl
      · have hw := hw.2 hc2
        refine lv_aload_n hx hb dX1_moveOn_14 rfl (lv_at hl 0 rfl) ?_
        refine va_get (D := D) (ci := 1) (v := .ref aP_row) (C := RX1) (T := TX1) (N := 6) hx hb hts hinX1 hown hK hP 1 rfl rfl 2 (by decide) hf15 (fun _ h9 => h9) rfl dX1_moveOn_15 ?_
        refine lv_iload_n hx hb dX1_moveOn_18 rfl (lv_at hl 1 rfl) ?_
        obtain ⟨hb3, hw⟩ := hw
        refine va_iald hx hb hK hP 2 0 rfl rfl hb3 dX1_moveOn_19 ?_
        refine lv_iconst (v := 2) hx hb dX1_moveOn_20 (by decide) ?_
        refine lv_icmp_ge (tgt := 36) hx hb dX1_moveOn_21 (by decide) (fun hc4 => ?_) (fun hc4 => ?_)
        · have hw := hw.1 hc4
          refine lv_aload_n hx hb dX1_moveOn_36 rfl (lv_at hl 0 rfl) ?_
          refine va_get (D := D) (ci := 1) (v := .ref aP_row) (C := RX1) (T := TX1) (N := 6) hx hb hts hinX1 hown hK hP 1 rfl rfl 2 (by decide) hf15 (fun _ h9 => h9) rfl dX1_moveOn_37 ?_
          refine lv_iload_n hx hb dX1_moveOn_40 rfl (lv_at hl 1 rfl) ?_
          refine lv_iconst (v := 0) hx hb dX1_moveOn_41 (by decide) ?_
          obtain ⟨hb5, hw⟩ := hw
          refine va_iast hx hb hK hP hD hS 2 0 rfl rfl hb5 dX1_moveOn_42 (fun H locs hP hD hS => ?_)
          have hP : va_P D vwCl [(aD, .inr (0, [.ref aD_kinds, .ref aD_washes, .ref aD_fuels, .ref aD_isBroken, .int D_units, .ref aD_lengths, .ref aD_wanted, .int D_leaving, .ref aD_trackOf, .int D_parked, .int D_changes])), (aP, .inr (1, [.ref aD, .ref aP_packed, .ref aP_row, .int P_found, .int P_narrowest, .int P_knownAt])), (aP_row, .inl (cI, 5, .inl (upd P_row x1.toNatClampNeg (0 : Int32))))] H := hP
          have hD : va_D A [(aD, .inr (0, [.ref aD_kinds, .ref aD_washes, .ref aD_fuels, .ref aD_isBroken, .int D_units, .ref aD_lengths, .ref aD_wanted, .int D_leaving, .ref aD_trackOf, .int D_parked, .int D_changes])), (aP, .inr (1, [.ref aD, .ref aP_packed, .ref aP_row, .int P_found, .int P_narrowest, .int P_knownAt])), (aP_row, .inl (cI, 5, .inl (upd P_row x1.toNatClampNeg (0 : Int32))))] := hD
          refine lv_iinc (v := (x1 + (-1))) (lv' := [(1, .int (x1 + (-1))), (0, .ref aP)]) hx hb dX1_moveOn_43 hl (k := 1) rfl rfl (by decide) rfl (fun ls hl => ?_)
          refine lv_goto (tgt := 10) hx hb dX1_moveOn_46 (by decide) ?_
          exact hK10 (x1 + (-1)) (upd P_row x1.toNatClampNeg (0 : Int32)) hw H locs ls hP hD hS (lv_sub hl [1, 0] rfl)
        · have hw := hw.2 hc4
          exact hK24 x1 P_row hw H locs ls hP hD hS (lv_sub hl [0, 1] rfl)
  obtain ⟨H, hHe⟩ : ∃ H, H = s.heap := ⟨_, rfl⟩
  obtain ⟨locs, hLo⟩ : ∃ locs : List Loc, locs = [] := ⟨_, rfl⟩
  have hS : va_S A s.heap H locs := by rw [hHe, hLo]; exact hS
  have hP : va_P D vwCl [(aD, .inr (0, [.ref aD_kinds, .ref aD_washes, .ref aD_fuels, .ref aD_isBroken, .int D_units, .ref aD_lengths, .ref aD_wanted, .int D_leaving, .ref aD_trackOf, .int D_parked, .int D_changes])), (aP, .inr (1, [.ref aD, .ref aP_packed, .ref aP_row, .int P_found, .int P_narrowest, .int P_knownAt])), (aP_row, .inl (cI, 5, .inl P_row))] H := by rw [hHe]; exact hP
  refine (fun (hgo : W p l e ({ frames := 0, cells := 0, slots := 0, locals := 0 } : Room) s m ([.ref aP] : List Value).toArray below meth c H locs 0 0 Q0 (F0 m 0 ls [])) => by rw [hHe, hLo] at hgo; exact hgo) ?_
  refine lv_aload_n hx hb dX1_moveOn_0 rfl (lv_at hl 0 rfl) ?_
  refine va_get (D := D) (ci := 1) (v := .ref aD) (C := RX1) (T := TX1) (N := 6) hx hb hts hinX1 hown hK hP 1 rfl rfl 0 (by decide) hf28 (fun _ h9 => h9) rfl dX1_moveOn_1 ?_
  refine va_get (D := D) (ci := 0) (v := .int D_units) (C := RX0) (T := TX0) (N := 11) hx hb hts hinX0 hown hK hP 0 rfl rfl 4 (by decide) hf37 (fun _ h9 => h9) rfl dX1_moveOn_4 ?_
  refine lv_iconst (v := 1) hx hb dX1_moveOn_7 (by decide) ?_
  refine lv_isub hx hb dX1_moveOn_8 ?_
  refine lv_topi (fun y1 ey1 => ?_)
  have hw := hw y1 ey1
  refine lv_istore_n (lv' := [(1, .int y1), (0, .ref aP)]) hx hb dX1_moveOn_9 rfl hl (by decide) rfl (fun ls hl => ?_)
  obtain ⟨n11, hw⟩ := hw
  refine wZ_X1_moveOn_10 _ (fun x1_6 P_row_7 hw H locs ls hP hD hS hl => ?_) n11 y1 P_row hw H locs ls hP hD hS (lv_sub hl [1, 0] rfl)
  refine lv_aload_n hx hb dX1_moveOn_24 rfl (lv_at hl 0 rfl) ?_
  refine va_get (D := D) (ci := 1) (v := .ref aP_row) (C := RX1) (T := TX1) (N := 6) hx hb hts hinX1 hown hK hP 1 rfl rfl 2 (by decide) hf15 (fun _ h9 => h9) rfl dX1_moveOn_25 ?_
  refine lv_iload_n hx hb dX1_moveOn_28 rfl (lv_at hl 1 rfl) ?_
  refine lv_dup2_11 hx hb dX1_moveOn_29 rfl rfl ?_
  obtain ⟨hb8, hw⟩ := hw
  refine va_iald hx hb hK hP 2 0 rfl rfl hb8 dX1_moveOn_30 ?_
  refine lv_iconst (v := 1) hx hb dX1_moveOn_31 (by decide) ?_
  refine lv_iadd hx hb dX1_moveOn_32 ?_
  refine lv_topi (fun y10 ey10 => ?_)
  have hw := hw y10 ey10
  obtain ⟨hb9, hw⟩ := hw
  refine va_iast hx hb hK hP hD hS 2 0 rfl rfl hb9 dX1_moveOn_33 (fun H locs hP hD hS => ?_)
  have hP : va_P D vwCl [(aD, .inr (0, [.ref aD_kinds, .ref aD_washes, .ref aD_fuels, .ref aD_isBroken, .int D_units, .ref aD_lengths, .ref aD_wanted, .int D_leaving, .ref aD_trackOf, .int D_parked, .int D_changes])), (aP, .inr (1, [.ref aD, .ref aP_packed, .ref aP_row, .int P_found, .int P_narrowest, .int P_knownAt])), (aP_row, .inl (cI, 5, .inl (upd P_row_7 x1_6.toNatClampNeg y10)))] H := hP
  have hD : va_D A [(aD, .inr (0, [.ref aD_kinds, .ref aD_washes, .ref aD_fuels, .ref aD_isBroken, .int D_units, .ref aD_lengths, .ref aD_wanted, .int D_leaving, .ref aD_trackOf, .int D_parked, .int D_changes])), (aP, .inr (1, [.ref aD, .ref aP_packed, .ref aP_row, .int P_found, .int P_narrowest, .int P_knownAt])), (aP_row, .inl (cI, 5, .inl (upd P_row_7 x1_6.toNatClampNeg y10)))] := hD
  refine lv_iconst (v := 1) hx hb dX1_moveOn_34 (by decide) ?_
  exact hret 1 (upd P_row_7 x1_6.toNatClampNeg y10) H locs 35 ls hw dX1_moveOn_35 hP hD hS rfl
/-! X1_collect -/
def B_X1_collect_62 (D_kinds : Nat → Int32) (D_isBroken : Nat → Int32) (D_units : Int32) (D_lengths : Nat → Int32) (D_wanted : Nat → Int32) (D_leaving : Int32) (post : (Nat → Int32) → (Nat → Int32) → Int32 → Prop) (K12 : Int32 → Int32 → (Nat → Int32) → (Nat → Int32) → (Int32) → Prop) (x2 : Int32) (P_packed : Nat → Int32) (P_row : Nat → Int32) (P_found : Int32) : Prop :=
  wp_X1_moveOn D_units P_row (fun (r6 : Int32) (P_row_7 : Nat → Int32) => K12 r6 (x2 + 1) P_packed P_row_7 P_found)
def Y_X1_collect_12 (D_kinds : Nat → Int32) (D_isBroken : Nat → Int32) (D_units : Int32) (D_lengths : Nat → Int32) (D_wanted : Nat → Int32) (D_leaving : Int32) (post : (Nat → Int32) → (Nat → Int32) → Int32 → Prop) (K12 : Int32 → Int32 → (Nat → Int32) → (Nat → Int32) → (Int32) → Prop) (x1 : Int32) (x2 : Int32) (P_packed : Nat → Int32) (P_row : Nat → Int32) (P_found : Int32) : Prop :=
  ((x1 = 0 → post P_packed P_row P_found) ∧ (¬ x1 = 0 → ((243 ≤ x2 → post P_packed P_row P_found) ∧ (¬ 243 ≤ x2 → wp_X1_rowFits D_units D_lengths P_row (fun (r4 : Int32) => ((r4 = 0 → B_X1_collect_62 D_kinds D_isBroken D_units D_lengths D_wanted D_leaving post K12 x2 P_packed P_row P_found) ∧ (¬ r4 = 0 → wp_X1_canAllGo 7 D_kinds D_isBroken D_units D_wanted D_leaving P_row 0 0 (fun (r8 : Int32) => ((r8 = 0 → B_X1_collect_62 D_kinds D_isBroken D_units D_lengths D_wanted D_leaving post K12 x2 P_packed P_row P_found) ∧ (¬ r8 = 0 → wp_X1_packRow D_units P_row (fun (r10 : Int32) => vp_in P_found 243 ∧ (∀ y12 : Int32, y12 = (P_found + 1) → (B_X1_collect_62 D_kinds D_isBroken D_units D_lengths D_wanted D_leaving post K12 x2 (upd P_packed P_found.toNatClampNeg r10) P_row y12)))))))))))))
def Z_X1_collect_12 (D_kinds : Nat → Int32) (D_isBroken : Nat → Int32) (D_units : Int32) (D_lengths : Nat → Int32) (D_wanted : Nat → Int32) (D_leaving : Int32) (post : (Nat → Int32) → (Nat → Int32) → Int32 → Prop) : Nat → Int32 → Int32 → (Nat → Int32) → (Nat → Int32) → (Int32) → Prop
  | 0 => fun _ _ _ _ _ => False
  | n + 1 => Y_X1_collect_12 D_kinds D_isBroken D_units D_lengths D_wanted D_leaving post (Z_X1_collect_12 D_kinds D_isBroken D_units D_lengths D_wanted D_leaving post n)
def wp_X1_collect (D_kinds : Nat → Int32) (D_isBroken : Nat → Int32) (D_units : Int32) (D_lengths : Nat → Int32) (D_wanted : Nat → Int32) (D_leaving : Int32) (P_packed : Nat → Int32) (P_row : Nat → Int32) (P_found : Int32) (post : (Nat → Int32) → (Nat → Int32) → Int32 → Prop) : Prop :=
  wp_J7_fill_53178 5 0 P_row (fun (P_row_1 : Nat → Int32) => ∃ n, Z_X1_collect_12 D_kinds D_isBroken D_units D_lengths D_wanted D_leaving post n 1 0 P_packed P_row_1 P_found)
set_option maxHeartbeats 4000000 in
set_option maxRecDepth 100000 in
theorem c_X1_collect (l : Launch) (D : va_G) (cI cJ cZ : ClassId) (aD aD_kinds aD_washes aD_fuels aD_isBroken aD_lengths aD_wanted aD_trackOf aP aP_packed aP_row : Nat) (sz : Nat) (D_units : Int32) (D_leaving : Int32) (D_parked : Int32) (D_changes : Int32) (P_found : Int32) (P_narrowest : Int32) (P_knownAt : Int32) (D_kinds : Nat → Int32) (D_isBroken : Nat → Int32) (D_lengths : Nat → Int32) (D_wanted : Nat → Int32) (P_packed : Nat → Int32) (P_row : Nat → Int32) (post : (Nat → Int32) → (Nat → Int32) → Int32 → Prop) (hw : wp_X1_collect D_kinds D_isBroken D_units D_lengths D_wanted D_leaving P_packed P_row P_found post) : Met l yX1_collect wsX1_collect ({ frames := 9, cells := 0, slots := 0, locals := 215 } : Room) (va_Pc [.ref aP] (zPre D cI cJ cZ [(aD, .inr (0, [.ref aD_kinds, .ref aD_washes, .ref aD_fuels, .ref aD_isBroken, .int D_units, .ref aD_lengths, .ref aD_wanted, .int D_leaving, .ref aD_trackOf, .int D_parked, .int D_changes])), (aP, .inr (1, [.ref aD, .ref aP_packed, .ref aP_row, .int P_found, .int P_narrowest, .int P_knownAt])), (aD_kinds, .inl (cI, 5, .inl D_kinds)), (aD_isBroken, .inl (cZ, 5, .inl D_isBroken)), (aD_lengths, .inl (cI, 3, .inl D_lengths)), (aD_wanted, .inl (cI, 5, .inl D_wanted)), (aP_packed, .inl (cI, 243, .inl P_packed)), (aP_row, .inl (cI, 5, .inl P_row))] sz)) (va_Qv (fun (u : (Nat → Int32) × (Nat → Int32) × (Int32)) => post u.1 u.2.1 u.2.2) (zPost D cI cJ cZ (va_A [(aD, .inr (0, [.ref aD_kinds, .ref aD_washes, .ref aD_fuels, .ref aD_isBroken, .int D_units, .ref aD_lengths, .ref aD_wanted, .int D_leaving, .ref aD_trackOf, .int D_parked, .int D_changes])), (aP, .inr (1, [.ref aD, .ref aP_packed, .ref aP_row, .int P_found, .int P_narrowest, .int P_knownAt])), (aD_kinds, .inl (cI, 5, .inl D_kinds)), (aD_isBroken, .inl (cZ, 5, .inl D_isBroken)), (aD_lengths, .inl (cI, 3, .inl D_lengths)), (aD_wanted, .inl (cI, 5, .inl D_wanted)), (aP_packed, .inl (cI, 243, .inl P_packed)), (aP_row, .inl (cI, 5, .inl P_row))] sz) (fun u : (Nat → Int32) × (Nat → Int32) × (Int32) => [(aD, .inr (0, [.ref aD_kinds, .ref aD_washes, .ref aD_fuels, .ref aD_isBroken, .int D_units, .ref aD_lengths, .ref aD_wanted, .int D_leaving, .ref aD_trackOf, .int D_parked, .int D_changes])), (aP, .inr (1, [.ref aD, .ref aP_packed, .ref aP_row, .int u.2.2, .int P_narrowest, .int P_knownAt])), (aD_kinds, .inl (cI, 5, .inl D_kinds)), (aD_isBroken, .inl (cZ, 5, .inl D_isBroken)), (aD_lengths, .inl (cI, 3, .inl D_lengths)), (aD_wanted, .inl (cI, 5, .inl D_wanted)), (aP_packed, .inl (cI, 243, .inl u.1)), (aP_row, .inl (cI, 5, .inl u.2.1))])) (va_A [(aD, .inr (0, [.ref aD_kinds, .ref aD_washes, .ref aD_fuels, .ref aD_isBroken, .int D_units, .ref aD_lengths, .ref aD_wanted, .int D_leaving, .ref aD_trackOf, .int D_parked, .int D_changes])), (aP, .inr (1, [.ref aD, .ref aP_packed, .ref aP_row, .int P_found, .int P_narrowest, .int P_knownAt])), (aD_kinds, .inl (cI, 5, .inl D_kinds)), (aD_isBroken, .inl (cZ, 5, .inl D_isBroken)), (aD_lengths, .inl (cI, 3, .inl D_lengths)), (aD_wanted, .inl (cI, 5, .inl D_wanted)), (aP_packed, .inl (cI, 243, .inl P_packed)), (aP_row, .inl (cI, 5, .inl P_row))] sz)) 0 0 (va_A [(aD, .inr (0, [.ref aD_kinds, .ref aD_washes, .ref aD_fuels, .ref aD_isBroken, .int D_units, .ref aD_lengths, .ref aD_wanted, .int D_leaving, .ref aD_trackOf, .int D_parked, .int D_changes])), (aP, .inr (1, [.ref aD, .ref aP_packed, .ref aP_row, .int P_found, .int P_narrowest, .int P_knownAt])), (aD_kinds, .inl (cI, 5, .inl D_kinds)), (aD_isBroken, .inl (cZ, 5, .inl D_isBroken)), (aD_lengths, .inl (cI, 3, .inl D_lengths)), (aD_wanted, .inl (cI, 5, .inl D_wanted)), (aP_packed, .inl (cI, 243, .inl P_packed)), (aP_row, .inl (cI, 5, .inl P_row))] sz) := by
  unfold wp_X1_collect at hw
  refine Met.ofW (cc := cX1_collect) (maxL := 3) (ret := none) (by decide) rfl ?_
  intro p e s m args below meth c s₁ B hml hv
  obtain ⟨rfl, hsz, hP, hK, hD0⟩ := hv
  have hx := B.exec
  have hb := B.bytes
  have hr := B.returns
  have hts := atoms_spec (ws := wsX1_collect) B.pre
  have hown : s.vm.findClass RX1 = some m.cls := findClass_of_methodNamed B.named
  have hlocks := B.notSynchronized
  subst hsz
  have hD := hD0.self (sz := s.heap.size)
  generalize hAe : va_A [(aD, .inr (0, [.ref aD_kinds, .ref aD_washes, .ref aD_fuels, .ref aD_isBroken, .int D_units, .ref aD_lengths, .ref aD_wanted, .int D_leaving, .ref aD_trackOf, .int D_parked, .int D_changes])), (aP, .inr (1, [.ref aD, .ref aP_packed, .ref aP_row, .int P_found, .int P_narrowest, .int P_knownAt])), (aD_kinds, .inl (cI, 5, .inl D_kinds)), (aD_isBroken, .inl (cZ, 5, .inl D_isBroken)), (aD_lengths, .inl (cI, 3, .inl D_lengths)), (aD_wanted, .inl (cI, 5, .inl D_wanted)), (aP_packed, .inl (cI, 243, .inl P_packed)), (aP_row, .inl (cI, 5, .inl P_row))] s.heap.size = A at hD ⊢
  have hA : ∀ q : Nat, s.heap.size ≤ q → A q := fun q h => by rw [← hAe]; exact Or.inr h
  have hS : va_S A s.heap s.heap [] := va_S.rf
  refine (fun (hall : ∀ Q0 : State → Prop, (∀ (v0 : Nat → Int32) (v1 : Nat → Int32) (v2 : Int32) (H : Heap) (locs : List Loc) (pc : Nat) (ls : Array Slot), post v0 v1 v2 → decode cX1_collect pc = .ok (.return_, 1) → va_P D vwCl [(aD, .inr (0, [.ref aD_kinds, .ref aD_washes, .ref aD_fuels, .ref aD_isBroken, .int D_units, .ref aD_lengths, .ref aD_wanted, .int D_leaving, .ref aD_trackOf, .int D_parked, .int D_changes])), (aP, .inr (1, [.ref aD, .ref aP_packed, .ref aP_row, .int v2, .int P_narrowest, .int P_knownAt])), (aD_kinds, .inl (cI, 5, .inl D_kinds)), (aD_isBroken, .inl (cZ, 5, .inl D_isBroken)), (aD_lengths, .inl (cI, 3, .inl D_lengths)), (aD_wanted, .inl (cI, 5, .inl D_wanted)), (aP_packed, .inl (cI, 243, .inl v0)), (aP_row, .inl (cI, 5, .inl v1))] H → va_D A [(aD, .inr (0, [.ref aD_kinds, .ref aD_washes, .ref aD_fuels, .ref aD_isBroken, .int D_units, .ref aD_lengths, .ref aD_wanted, .int D_leaving, .ref aD_trackOf, .int D_parked, .int D_changes])), (aP, .inr (1, [.ref aD, .ref aP_packed, .ref aP_row, .int v2, .int P_narrowest, .int P_knownAt])), (aD_kinds, .inl (cI, 5, .inl D_kinds)), (aD_isBroken, .inl (cZ, 5, .inl D_isBroken)), (aD_lengths, .inl (cI, 3, .inl D_lengths)), (aD_wanted, .inl (cI, 5, .inl D_wanted)), (aP_packed, .inl (cI, 243, .inl v0)), (aP_row, .inl (cI, 5, .inl v1))] → va_S A s.heap H locs → W p l e ({ frames := 9, cells := 0, slots := 0, locals := 215 } : Room) s m ([.ref aP] : List Value).toArray below meth c H locs 0 0 Q0 (F0 m pc ls [])) → W p l e ({ frames := 9, cells := 0, slots := 0, locals := 215 } : Room) s m ([.ref aP] : List Value).toArray below meth c s.heap [] 0 0 Q0 (entryFrame m ([.ref aP] : List Value).toArray 3)) => hall _ (fun v0 v1 v2 H locs pc ls hw hd hP hD hS => W.vret hx hb hr (fun t ht hW => ⟨⟨(v0, v1, v2), rfl, hw, by rw [ht]; exact hP, va_K.moved hW.alike hK, hD⟩, hS.F ht⟩) hS.2.2 hd)) ?_
  intro Q0 hret
  have hl := lv_entry ([.ref aP]) (n := 3) (Nat.le_of_ble_eq_true rfl)
  rw [lg_entry_eq]
  generalize (lg_sl ([.ref aP]) ++ List.replicate (3 - (lg_sl ([.ref aP])).length) Slot.unset).toArray = ls at hl ⊢
  have hl : lv_has ls 3 [(0, .ref aP)] := hl
  have hinX1 : ∀ w ∈ u_ws RX1 TX1 6, w ∈ wsX1_collect := by decide +kernel
  have hf11 := hts (.fieldLink RX1 11 "DepotNight$Parkings" "packed" "[I") (by decide +kernel)
  have hf15 := hts (.fieldLink RX1 15 "DepotNight$Parkings" "row" "[I") (by decide +kernel)
  have hf18 := hts (.fieldLink RX1 18 "DepotNight$Parkings" "found" "I") (by decide +kernel)
  have wB_X1_collect_62 : ∀ (K12 : Int32 → Int32 → (Nat → Int32) → (Nat → Int32) → (Int32) → Prop), (∀ (x1 : Int32) (x2 : Int32) (P_packed : Nat → Int32) (P_row : Nat → Int32) (P_found : Int32), K12 x1 x2 P_packed P_row P_found → ∀ (H : Heap) (locs : List Loc) (ls : Array Slot), va_P D vwCl [(aD, .inr (0, [.ref aD_kinds, .ref aD_washes, .ref aD_fuels, .ref aD_isBroken, .int D_units, .ref aD_lengths, .ref aD_wanted, .int D_leaving, .ref aD_trackOf, .int D_parked, .int D_changes])), (aP, .inr (1, [.ref aD, .ref aP_packed, .ref aP_row, .int P_found, .int P_narrowest, .int P_knownAt])), (aD_kinds, .inl (cI, 5, .inl D_kinds)), (aD_isBroken, .inl (cZ, 5, .inl D_isBroken)), (aD_lengths, .inl (cI, 3, .inl D_lengths)), (aD_wanted, .inl (cI, 5, .inl D_wanted)), (aP_packed, .inl (cI, 243, .inl P_packed)), (aP_row, .inl (cI, 5, .inl P_row))] H → va_D A [(aD, .inr (0, [.ref aD_kinds, .ref aD_washes, .ref aD_fuels, .ref aD_isBroken, .int D_units, .ref aD_lengths, .ref aD_wanted, .int D_leaving, .ref aD_trackOf, .int D_parked, .int D_changes])), (aP, .inr (1, [.ref aD, .ref aP_packed, .ref aP_row, .int P_found, .int P_narrowest, .int P_knownAt])), (aD_kinds, .inl (cI, 5, .inl D_kinds)), (aD_isBroken, .inl (cZ, 5, .inl D_isBroken)), (aD_lengths, .inl (cI, 3, .inl D_lengths)), (aD_wanted, .inl (cI, 5, .inl D_wanted)), (aP_packed, .inl (cI, 243, .inl P_packed)), (aP_row, .inl (cI, 5, .inl P_row))] → va_S A s.heap H locs → lv_has ls 3 [(0, .ref aP), (1, .int x1), (2, .int x2)] → W p l e ({ frames := 9, cells := 0, slots := 0, locals := 215 } : Room) s m ([.ref aP] : List Value).toArray below meth c H locs 0 0 Q0 (F0 m 12 ls [])) → ∀ (x2 : Int32) (P_packed : Nat → Int32) (P_row : Nat → Int32) (P_found : Int32), B_X1_collect_62 D_kinds D_isBroken D_units D_lengths D_wanted D_leaving post K12 x2 P_packed P_row P_found → ∀ (H : Heap) (locs : List Loc) (ls : Array Slot), va_P D vwCl [(aD, .inr (0, [.ref aD_kinds, .ref aD_washes, .ref aD_fuels, .ref aD_isBroken, .int D_units, .ref aD_lengths, .ref aD_wanted, .int D_leaving, .ref aD_trackOf, .int D_parked, .int D_changes])), (aP, .inr (1, [.ref aD, .ref aP_packed, .ref aP_row, .int P_found, .int P_narrowest, .int P_knownAt])), (aD_kinds, .inl (cI, 5, .inl D_kinds)), (aD_isBroken, .inl (cZ, 5, .inl D_isBroken)), (aD_lengths, .inl (cI, 3, .inl D_lengths)), (aD_wanted, .inl (cI, 5, .inl D_wanted)), (aP_packed, .inl (cI, 243, .inl P_packed)), (aP_row, .inl (cI, 5, .inl P_row))] H → va_D A [(aD, .inr (0, [.ref aD_kinds, .ref aD_washes, .ref aD_fuels, .ref aD_isBroken, .int D_units, .ref aD_lengths, .ref aD_wanted, .int D_leaving, .ref aD_trackOf, .int D_parked, .int D_changes])), (aP, .inr (1, [.ref aD, .ref aP_packed, .ref aP_row, .int P_found, .int P_narrowest, .int P_knownAt])), (aD_kinds, .inl (cI, 5, .inl D_kinds)), (aD_isBroken, .inl (cZ, 5, .inl D_isBroken)), (aD_lengths, .inl (cI, 3, .inl D_lengths)), (aD_wanted, .inl (cI, 5, .inl D_wanted)), (aP_packed, .inl (cI, 243, .inl P_packed)), (aP_row, .inl (cI, 5, .inl P_row))] → va_S A s.heap H locs → lv_has ls 3 [(0, .ref aP), (2, .int x2)] → W p l e ({ frames := 9, cells := 0, slots := 0, locals := 215 } : Room) s m ([.ref aP] : List Value).toArray below meth c H locs 0 0 Q0 (F0 m 62 ls []) := by
    intro K12 hK12 x2 P_packed P_row P_found hw H locs ls hP hD hS hl
    unfold B_X1_collect_62 at hw
    refine lv_aload_n hx hb dX1_collect_62 rfl (lv_at hl 0 rfl) ?_
    refine zVi (As := []) (rest := []) (wc := [(aD, .inr (0, [.ref aD_kinds, .ref aD_washes, .ref aD_fuels, .ref aD_isBroken, .int D_units, .ref aD_lengths, .ref aD_wanted, .int D_leaving, .ref aD_trackOf, .int D_parked, .int D_changes])), (aP, .inr (1, [.ref aD, .ref aP_packed, .ref aP_row, .int P_found, .int P_narrowest, .int P_knownAt])), (aP_row, .inl (cI, 5, .inl P_row))]) (wr := [(aD_kinds, .inl (cI, 5, .inl D_kinds)), (aD_isBroken, .inl (cZ, 5, .inl D_isBroken)), (aD_lengths, .inl (cI, 3, .inl D_lengths)), (aD_wanted, .inl (cI, 5, .inl D_wanted)), (aP_packed, .inl (cI, 243, .inl P_packed))]) ⟨hx, hb, hml, hown, hts⟩ hK hP hD hS hA [0, 1, 7] [2, 3, 4, 5, 6] rfl rfl (by decide) (by decide) (by decide) (c_X1_moveOn l D cI cJ cZ aD aD_kinds aD_washes aD_fuels aD_isBroken aD_lengths aD_wanted aD_trackOf aP aP_packed aP_row H.size D_units D_leaving D_parked D_changes P_found P_narrowest P_knownAt P_row _ hw) (cwV 0 hts gX1_collect_X1_moveOn rfl rfl rfl (by decide +kernel) ⟨Nat.le_of_ble_eq_true rfl, Nat.le_of_ble_eq_true rfl⟩) 1 1 rfl rfl rfl rfl hl.1 (Nat.le_of_ble_eq_true rfl) dX1_collect_63 ⟨(Nat.le_of_ble_eq_true rfl), (Nat.le_of_ble_eq_true rfl)⟩ rfl (fun r6 P_row_7 H locs hw hP hD hS => ?_)
    try dsimp only at hw
    have hP : va_P D vwCl [(aD, .inr (0, [.ref aD_kinds, .ref aD_washes, .ref aD_fuels, .ref aD_isBroken, .int D_units, .ref aD_lengths, .ref aD_wanted, .int D_leaving, .ref aD_trackOf, .int D_parked, .int D_changes])), (aP, .inr (1, [.ref aD, .ref aP_packed, .ref aP_row, .int P_found, .int P_narrowest, .int P_knownAt])), (aD_kinds, .inl (cI, 5, .inl D_kinds)), (aD_isBroken, .inl (cZ, 5, .inl D_isBroken)), (aD_lengths, .inl (cI, 3, .inl D_lengths)), (aD_wanted, .inl (cI, 5, .inl D_wanted)), (aP_packed, .inl (cI, 243, .inl P_packed)), (aP_row, .inl (cI, 5, .inl P_row_7))] H := hP.sub [5, 6, 0, 1, 2, 3, 4, 7] rfl
    have hD : va_D A [(aD, .inr (0, [.ref aD_kinds, .ref aD_washes, .ref aD_fuels, .ref aD_isBroken, .int D_units, .ref aD_lengths, .ref aD_wanted, .int D_leaving, .ref aD_trackOf, .int D_parked, .int D_changes])), (aP, .inr (1, [.ref aD, .ref aP_packed, .ref aP_row, .int P_found, .int P_narrowest, .int P_knownAt])), (aD_kinds, .inl (cI, 5, .inl D_kinds)), (aD_isBroken, .inl (cZ, 5, .inl D_isBroken)), (aD_lengths, .inl (cI, 3, .inl D_lengths)), (aD_wanted, .inl (cI, 5, .inl D_wanted)), (aP_packed, .inl (cI, 243, .inl P_packed)), (aP_row, .inl (cI, 5, .inl P_row_7))] := hD.sub [5, 6, 0, 1, 2, 3, 4, 7] (by decide) rfl
    refine lv_istore_n (lv' := [(1, .int r6), (0, .ref aP), (2, .int x2)]) hx hb dX1_collect_66 rfl hl (by decide) rfl (fun ls hl => ?_)
    refine lv_iinc (v := (x2 + 1)) (lv' := [(2, .int (x2 + 1)), (1, .int r6), (0, .ref aP)]) hx hb dX1_collect_67 hl (k := 2) rfl rfl (by decide) rfl (fun ls hl => ?_)
    refine lv_goto (tgt := 12) hx hb dX1_collect_70 (by decide) ?_
    exact hK12 r6 (x2 + 1) P_packed P_row_7 P_found hw H locs ls hP hD hS (lv_sub hl [2, 1, 0] rfl)
  have wZ_X1_collect_12 : ∀ (n : Nat) (x1 : Int32) (x2 : Int32) (P_packed : Nat → Int32) (P_row : Nat → Int32) (P_found : Int32), Z_X1_collect_12 D_kinds D_isBroken D_units D_lengths D_wanted D_leaving post n x1 x2 P_packed P_row P_found → ∀ (H : Heap) (locs : List Loc) (ls : Array Slot), va_P D vwCl [(aD, .inr (0, [.ref aD_kinds, .ref aD_washes, .ref aD_fuels, .ref aD_isBroken, .int D_units, .ref aD_lengths, .ref aD_wanted, .int D_leaving, .ref aD_trackOf, .int D_parked, .int D_changes])), (aP, .inr (1, [.ref aD, .ref aP_packed, .ref aP_row, .int P_found, .int P_narrowest, .int P_knownAt])), (aD_kinds, .inl (cI, 5, .inl D_kinds)), (aD_isBroken, .inl (cZ, 5, .inl D_isBroken)), (aD_lengths, .inl (cI, 3, .inl D_lengths)), (aD_wanted, .inl (cI, 5, .inl D_wanted)), (aP_packed, .inl (cI, 243, .inl P_packed)), (aP_row, .inl (cI, 5, .inl P_row))] H → va_D A [(aD, .inr (0, [.ref aD_kinds, .ref aD_washes, .ref aD_fuels, .ref aD_isBroken, .int D_units, .ref aD_lengths, .ref aD_wanted, .int D_leaving, .ref aD_trackOf, .int D_parked, .int D_changes])), (aP, .inr (1, [.ref aD, .ref aP_packed, .ref aP_row, .int P_found, .int P_narrowest, .int P_knownAt])), (aD_kinds, .inl (cI, 5, .inl D_kinds)), (aD_isBroken, .inl (cZ, 5, .inl D_isBroken)), (aD_lengths, .inl (cI, 3, .inl D_lengths)), (aD_wanted, .inl (cI, 5, .inl D_wanted)), (aP_packed, .inl (cI, 243, .inl P_packed)), (aP_row, .inl (cI, 5, .inl P_row))] → va_S A s.heap H locs → lv_has ls 3 [(0, .ref aP), (1, .int x1), (2, .int x2)] → W p l e ({ frames := 9, cells := 0, slots := 0, locals := 215 } : Room) s m ([.ref aP] : List Value).toArray below meth c H locs 0 0 Q0 (F0 m 12 ls []) := by
    intro n
    induction n with
    | zero =>
      intro x1 x2 P_packed P_row P_found hw
      exact (show False from hw).elim
    | succ n hK12 =>
      intro x1 x2 P_packed P_row P_found hw H locs ls hP hD hS hl
      have hw : Y_X1_collect_12 D_kinds D_isBroken D_units D_lengths D_wanted D_leaving post (Z_X1_collect_12 D_kinds D_isBroken D_units D_lengths D_wanted D_leaving post n) x1 x2 P_packed P_row P_found := hw
      unfold Y_X1_collect_12 at hw
      refine lv_iload_n hx hb dX1_collect_12 rfl (lv_at hl 1 rfl) ?_
      refine lv_if_eq (tgt := 73) hx hb dX1_collect_13 (by decide) (fun hc2 => ?_) (fun hc2 => ?_)
      · have hw := hw.1 hc2
        exact hret P_packed P_row P_found H locs 73 ls hw dX1_collect_73 hP hD hS
      · have hw := hw.2 hc2
        refine lv_iload_n hx hb dX1_collect_16 rfl (lv_at hl 2 rfl) ?_
        refine lv_sipush (v := 243) hx hb dX1_collect_17 (by decide) ?_
        refine lv_icmp_ge (tgt := 73) hx hb dX1_collect_20 (by decide) (fun hc3 => ?_) (fun hc3 => ?_)
        · have hw := hw.1 hc3
          exact hret P_packed P_row P_found H locs 73 ls hw dX1_collect_73 hP hD hS
        · have hw := hw.2 hc3
          refine lv_aload_n hx hb dX1_collect_23 rfl (lv_at hl 0 rfl) ?_
          refine zVi (As := []) (rest := []) (wc := [(aD, .inr (0, [.ref aD_kinds, .ref aD_washes, .ref aD_fuels, .ref aD_isBroken, .int D_units, .ref aD_lengths, .ref aD_wanted, .int D_leaving, .ref aD_trackOf, .int D_parked, .int D_changes])), (aP, .inr (1, [.ref aD, .ref aP_packed, .ref aP_row, .int P_found, .int P_narrowest, .int P_knownAt])), (aD_lengths, .inl (cI, 3, .inl D_lengths)), (aP_row, .inl (cI, 5, .inl P_row))]) (wr := [(aD_kinds, .inl (cI, 5, .inl D_kinds)), (aD_isBroken, .inl (cZ, 5, .inl D_isBroken)), (aD_wanted, .inl (cI, 5, .inl D_wanted)), (aP_packed, .inl (cI, 243, .inl P_packed))]) ⟨hx, hb, hml, hown, hts⟩ hK hP hD hS hA [0, 1, 4, 7] [2, 3, 5, 6] rfl rfl (by decide) (by decide) (by decide) (c_X1_rowFits l D cI cJ cZ aD aD_kinds aD_washes aD_fuels aD_isBroken aD_lengths aD_wanted aD_trackOf aP aP_packed aP_row H.size D_units D_leaving D_parked D_changes P_found P_narrowest P_knownAt D_lengths P_row _ hw) (cwV 0 hts gX1_collect_X1_rowFits rfl rfl rfl (by decide +kernel) ⟨Nat.le_of_ble_eq_true rfl, Nat.le_of_ble_eq_true rfl⟩) 1 1 rfl rfl rfl rfl hl.1 (Nat.le_of_ble_eq_true rfl) dX1_collect_24 ⟨(Nat.le_of_ble_eq_true rfl), (Nat.le_of_ble_eq_true rfl)⟩ rfl (fun r4 u H locs hw hP hD hS => ?_)
          try dsimp only at hw
          have hP : va_P D vwCl [(aD, .inr (0, [.ref aD_kinds, .ref aD_washes, .ref aD_fuels, .ref aD_isBroken, .int D_units, .ref aD_lengths, .ref aD_wanted, .int D_leaving, .ref aD_trackOf, .int D_parked, .int D_changes])), (aP, .inr (1, [.ref aD, .ref aP_packed, .ref aP_row, .int P_found, .int P_narrowest, .int P_knownAt])), (aD_kinds, .inl (cI, 5, .inl D_kinds)), (aD_isBroken, .inl (cZ, 5, .inl D_isBroken)), (aD_lengths, .inl (cI, 3, .inl D_lengths)), (aD_wanted, .inl (cI, 5, .inl D_wanted)), (aP_packed, .inl (cI, 243, .inl P_packed)), (aP_row, .inl (cI, 5, .inl P_row))] H := hP.sub [4, 5, 0, 1, 6, 2, 3, 7] rfl
          have hD : va_D A [(aD, .inr (0, [.ref aD_kinds, .ref aD_washes, .ref aD_fuels, .ref aD_isBroken, .int D_units, .ref aD_lengths, .ref aD_wanted, .int D_leaving, .ref aD_trackOf, .int D_parked, .int D_changes])), (aP, .inr (1, [.ref aD, .ref aP_packed, .ref aP_row, .int P_found, .int P_narrowest, .int P_knownAt])), (aD_kinds, .inl (cI, 5, .inl D_kinds)), (aD_isBroken, .inl (cZ, 5, .inl D_isBroken)), (aD_lengths, .inl (cI, 3, .inl D_lengths)), (aD_wanted, .inl (cI, 5, .inl D_wanted)), (aP_packed, .inl (cI, 243, .inl P_packed)), (aP_row, .inl (cI, 5, .inl P_row))] := hD.sub [4, 5, 0, 1, 6, 2, 3, 7] (by decide) rfl
          refine lv_if_eq (tgt := 62) hx hb dX1_collect_27 (by decide) (fun hc5 => ?_) (fun hc5 => ?_)
          · have hw := hw.1 hc5
            exact wB_X1_collect_62 _ hK12 x2 P_packed P_row P_found hw H locs ls hP hD hS (lv_sub hl [0, 2] rfl)
          · have hw := hw.2 hc5
            refine lv_aload_n hx hb dX1_collect_30 rfl (lv_at hl 0 rfl) ?_
            refine lv_iconst (v := 0) hx hb dX1_collect_31 (by decide) ?_
            refine lv_iconst (v := 0) hx hb dX1_collect_32 (by decide) ?_
            refine zVi (As := [.int 0, .int 0]) (rest := []) (wc := [(aD, .inr (0, [.ref aD_kinds, .ref aD_washes, .ref aD_fuels, .ref aD_isBroken, .int D_units, .ref aD_lengths, .ref aD_wanted, .int D_leaving, .ref aD_trackOf, .int D_parked, .int D_changes])), (aP, .inr (1, [.ref aD, .ref aP_packed, .ref aP_row, .int P_found, .int P_narrowest, .int P_knownAt])), (aD_kinds, .inl (cI, 5, .inl D_kinds)), (aD_isBroken, .inl (cZ, 5, .inl D_isBroken)), (aD_wanted, .inl (cI, 5, .inl D_wanted)), (aP_row, .inl (cI, 5, .inl P_row))]) (wr := [(aD_lengths, .inl (cI, 3, .inl D_lengths)), (aP_packed, .inl (cI, 243, .inl P_packed))]) ⟨hx, hb, hml, hown, hts⟩ hK hP hD hS hA [0, 1, 2, 3, 5, 7] [4, 6] rfl rfl (by decide) (by decide) (by decide) (c_X1_canAllGo 7 l D cI cJ cZ aD aD_kinds aD_washes aD_fuels aD_isBroken aD_lengths aD_wanted aD_trackOf aP aP_packed aP_row H.size D_units D_leaving D_parked D_changes P_found P_narrowest P_knownAt D_kinds D_isBroken D_wanted P_row 0 0 _ hw) (cwV 2 hts gX1_collect_X1_canAllGo rfl rfl rfl (by decide +kernel) ⟨Nat.le_of_ble_eq_true rfl, Nat.le_of_ble_eq_true rfl⟩) 1 1 rfl rfl rfl rfl hl.1 (Nat.le_of_ble_eq_true rfl) dX1_collect_33 ⟨(Nat.le_of_ble_eq_true rfl), (Nat.le_of_ble_eq_true rfl)⟩ rfl (fun r8 u H locs hw hP hD hS => ?_)
            try dsimp only at hw
            have hP : va_P D vwCl [(aD, .inr (0, [.ref aD_kinds, .ref aD_washes, .ref aD_fuels, .ref aD_isBroken, .int D_units, .ref aD_lengths, .ref aD_wanted, .int D_leaving, .ref aD_trackOf, .int D_parked, .int D_changes])), (aP, .inr (1, [.ref aD, .ref aP_packed, .ref aP_row, .int P_found, .int P_narrowest, .int P_knownAt])), (aD_kinds, .inl (cI, 5, .inl D_kinds)), (aD_isBroken, .inl (cZ, 5, .inl D_isBroken)), (aD_lengths, .inl (cI, 3, .inl D_lengths)), (aD_wanted, .inl (cI, 5, .inl D_wanted)), (aP_packed, .inl (cI, 243, .inl P_packed)), (aP_row, .inl (cI, 5, .inl P_row))] H := hP.sub [2, 3, 4, 5, 0, 6, 1, 7] rfl
            have hD : va_D A [(aD, .inr (0, [.ref aD_kinds, .ref aD_washes, .ref aD_fuels, .ref aD_isBroken, .int D_units, .ref aD_lengths, .ref aD_wanted, .int D_leaving, .ref aD_trackOf, .int D_parked, .int D_changes])), (aP, .inr (1, [.ref aD, .ref aP_packed, .ref aP_row, .int P_found, .int P_narrowest, .int P_knownAt])), (aD_kinds, .inl (cI, 5, .inl D_kinds)), (aD_isBroken, .inl (cZ, 5, .inl D_isBroken)), (aD_lengths, .inl (cI, 3, .inl D_lengths)), (aD_wanted, .inl (cI, 5, .inl D_wanted)), (aP_packed, .inl (cI, 243, .inl P_packed)), (aP_row, .inl (cI, 5, .inl P_row))] := hD.sub [2, 3, 4, 5, 0, 6, 1, 7] (by decide) rfl
            refine lv_if_eq (tgt := 62) hx hb dX1_collect_36 (by decide) (fun hc9 => ?_) (fun hc9 => ?_)
            · have hw := hw.1 hc9
              exact wB_X1_collect_62 _ hK12 x2 P_packed P_row P_found hw H locs ls hP hD hS (lv_sub hl [0, 2] rfl)
            · have hw := hw.2 hc9
              refine lv_aload_n hx hb dX1_collect_39 rfl (lv_at hl 0 rfl) ?_
              refine va_get (D := D) (ci := 1) (v := .ref aP_packed) (C := RX1) (T := TX1) (N := 6) hx hb hts hinX1 hown hK hP 1 rfl rfl 1 (by decide) hf11 (fun _ h9 => h9) rfl dX1_collect_40 ?_
              refine lv_aload_n hx hb dX1_collect_43 rfl (lv_at hl 0 rfl) ?_
              refine va_get (D := D) (ci := 1) (v := .int P_found) (C := RX1) (T := TX1) (N := 6) hx hb hts hinX1 hown hK hP 1 rfl rfl 3 (by decide) hf18 (fun _ h9 => h9) rfl dX1_collect_44 ?_
              refine lv_aload_n hx hb dX1_collect_47 rfl (lv_at hl 0 rfl) ?_
              refine zVi (As := []) (rest := [.int P_found, .ref aP_packed]) (wc := [(aD, .inr (0, [.ref aD_kinds, .ref aD_washes, .ref aD_fuels, .ref aD_isBroken, .int D_units, .ref aD_lengths, .ref aD_wanted, .int D_leaving, .ref aD_trackOf, .int D_parked, .int D_changes])), (aP, .inr (1, [.ref aD, .ref aP_packed, .ref aP_row, .int P_found, .int P_narrowest, .int P_knownAt])), (aP_row, .inl (cI, 5, .inl P_row))]) (wr := [(aD_kinds, .inl (cI, 5, .inl D_kinds)), (aD_isBroken, .inl (cZ, 5, .inl D_isBroken)), (aD_lengths, .inl (cI, 3, .inl D_lengths)), (aD_wanted, .inl (cI, 5, .inl D_wanted)), (aP_packed, .inl (cI, 243, .inl P_packed))]) ⟨hx, hb, hml, hown, hts⟩ hK hP hD hS hA [0, 1, 7] [2, 3, 4, 5, 6] rfl rfl (by decide) (by decide) (by decide) (c_X1_packRow l D cI cJ cZ aD aD_kinds aD_washes aD_fuels aD_isBroken aD_lengths aD_wanted aD_trackOf aP aP_packed aP_row H.size D_units D_leaving D_parked D_changes P_found P_narrowest P_knownAt P_row _ hw) (cwV 0 hts gX1_collect_X1_packRow rfl rfl rfl (by decide +kernel) ⟨Nat.le_of_ble_eq_true rfl, Nat.le_of_ble_eq_true rfl⟩) 1 1 rfl rfl rfl rfl hl.1 (Nat.le_of_ble_eq_true rfl) dX1_collect_48 ⟨(Nat.le_of_ble_eq_true rfl), (Nat.le_of_ble_eq_true rfl)⟩ rfl (fun r10 u H locs hw hP hD hS => ?_)
              try dsimp only at hw
              have hP : va_P D vwCl [(aD, .inr (0, [.ref aD_kinds, .ref aD_washes, .ref aD_fuels, .ref aD_isBroken, .int D_units, .ref aD_lengths, .ref aD_wanted, .int D_leaving, .ref aD_trackOf, .int D_parked, .int D_changes])), (aP, .inr (1, [.ref aD, .ref aP_packed, .ref aP_row, .int P_found, .int P_narrowest, .int P_knownAt])), (aD_kinds, .inl (cI, 5, .inl D_kinds)), (aD_isBroken, .inl (cZ, 5, .inl D_isBroken)), (aD_lengths, .inl (cI, 3, .inl D_lengths)), (aD_wanted, .inl (cI, 5, .inl D_wanted)), (aP_packed, .inl (cI, 243, .inl P_packed)), (aP_row, .inl (cI, 5, .inl P_row))] H := hP.sub [5, 6, 0, 1, 2, 3, 4, 7] rfl
              have hD : va_D A [(aD, .inr (0, [.ref aD_kinds, .ref aD_washes, .ref aD_fuels, .ref aD_isBroken, .int D_units, .ref aD_lengths, .ref aD_wanted, .int D_leaving, .ref aD_trackOf, .int D_parked, .int D_changes])), (aP, .inr (1, [.ref aD, .ref aP_packed, .ref aP_row, .int P_found, .int P_narrowest, .int P_knownAt])), (aD_kinds, .inl (cI, 5, .inl D_kinds)), (aD_isBroken, .inl (cZ, 5, .inl D_isBroken)), (aD_lengths, .inl (cI, 3, .inl D_lengths)), (aD_wanted, .inl (cI, 5, .inl D_wanted)), (aP_packed, .inl (cI, 243, .inl P_packed)), (aP_row, .inl (cI, 5, .inl P_row))] := hD.sub [5, 6, 0, 1, 2, 3, 4, 7] (by decide) rfl
              obtain ⟨hb11, hw⟩ := hw
              refine va_iast hx hb hK hP hD hS 6 0 rfl rfl hb11 dX1_collect_51 (fun H locs hP hD hS => ?_)
              have hP : va_P D vwCl [(aD, .inr (0, [.ref aD_kinds, .ref aD_washes, .ref aD_fuels, .ref aD_isBroken, .int D_units, .ref aD_lengths, .ref aD_wanted, .int D_leaving, .ref aD_trackOf, .int D_parked, .int D_changes])), (aP, .inr (1, [.ref aD, .ref aP_packed, .ref aP_row, .int P_found, .int P_narrowest, .int P_knownAt])), (aD_kinds, .inl (cI, 5, .inl D_kinds)), (aD_isBroken, .inl (cZ, 5, .inl D_isBroken)), (aD_lengths, .inl (cI, 3, .inl D_lengths)), (aD_wanted, .inl (cI, 5, .inl D_wanted)), (aP_packed, .inl (cI, 243, .inl (upd P_packed P_found.toNatClampNeg r10))), (aP_row, .inl (cI, 5, .inl P_row))] H := hP
              have hD : va_D A [(aD, .inr (0, [.ref aD_kinds, .ref aD_washes, .ref aD_fuels, .ref aD_isBroken, .int D_units, .ref aD_lengths, .ref aD_wanted, .int D_leaving, .ref aD_trackOf, .int D_parked, .int D_changes])), (aP, .inr (1, [.ref aD, .ref aP_packed, .ref aP_row, .int P_found, .int P_narrowest, .int P_knownAt])), (aD_kinds, .inl (cI, 5, .inl D_kinds)), (aD_isBroken, .inl (cZ, 5, .inl D_isBroken)), (aD_lengths, .inl (cI, 3, .inl D_lengths)), (aD_wanted, .inl (cI, 5, .inl D_wanted)), (aP_packed, .inl (cI, 243, .inl (upd P_packed P_found.toNatClampNeg r10))), (aP_row, .inl (cI, 5, .inl P_row))] := hD
              refine lv_aload_n hx hb dX1_collect_52 rfl (lv_at hl 0 rfl) ?_
              refine lv_dup hx hb dX1_collect_53 rfl ?_
              refine va_get (D := D) (ci := 1) (v := .int P_found) (C := RX1) (T := TX1) (N := 6) hx hb hts hinX1 hown hK hP 1 rfl rfl 3 (by decide) hf18 (fun _ h9 => h9) rfl dX1_collect_54 ?_
              refine lv_iconst (v := 1) hx hb dX1_collect_57 (by decide) ?_
              refine lv_iadd hx hb dX1_collect_58 ?_
              refine lv_topi (fun y12 ey12 => ?_)
              have hw := hw y12 ey12
              refine va_put (D := D) (ci := 1) (v := .int y12) (ty := .int) (C := RX1) (T := TX1) (N := 6) hx hb hts hinX1 tyX1 tyX1_ok nmX1 hown hK hP hD hS 1 rfl rfl 3 (by decide) hf18 (fun _ h9 => h9) rfl (by decide +kernel) rfl rfl (Nat.le_of_ble_eq_true rfl) dX1_collect_59 (fun H locs hP hD hS => ?_)
              have hP : va_P D vwCl [(aD, .inr (0, [.ref aD_kinds, .ref aD_washes, .ref aD_fuels, .ref aD_isBroken, .int D_units, .ref aD_lengths, .ref aD_wanted, .int D_leaving, .ref aD_trackOf, .int D_parked, .int D_changes])), (aP, .inr (1, [.ref aD, .ref aP_packed, .ref aP_row, .int y12, .int P_narrowest, .int P_knownAt])), (aD_kinds, .inl (cI, 5, .inl D_kinds)), (aD_isBroken, .inl (cZ, 5, .inl D_isBroken)), (aD_lengths, .inl (cI, 3, .inl D_lengths)), (aD_wanted, .inl (cI, 5, .inl D_wanted)), (aP_packed, .inl (cI, 243, .inl (upd P_packed P_found.toNatClampNeg r10))), (aP_row, .inl (cI, 5, .inl P_row))] H := hP
              have hD : va_D A [(aD, .inr (0, [.ref aD_kinds, .ref aD_washes, .ref aD_fuels, .ref aD_isBroken, .int D_units, .ref aD_lengths, .ref aD_wanted, .int D_leaving, .ref aD_trackOf, .int D_parked, .int D_changes])), (aP, .inr (1, [.ref aD, .ref aP_packed, .ref aP_row, .int y12, .int P_narrowest, .int P_knownAt])), (aD_kinds, .inl (cI, 5, .inl D_kinds)), (aD_isBroken, .inl (cZ, 5, .inl D_isBroken)), (aD_lengths, .inl (cI, 3, .inl D_lengths)), (aD_wanted, .inl (cI, 5, .inl D_wanted)), (aP_packed, .inl (cI, 243, .inl (upd P_packed P_found.toNatClampNeg r10))), (aP_row, .inl (cI, 5, .inl P_row))] := hD
              exact wB_X1_collect_62 _ hK12 x2 (upd P_packed P_found.toNatClampNeg r10) P_row y12 hw H locs ls hP hD hS (lv_sub hl [0, 2] rfl)
  obtain ⟨H, hHe⟩ : ∃ H, H = s.heap := ⟨_, rfl⟩
  obtain ⟨locs, hLo⟩ : ∃ locs : List Loc, locs = [] := ⟨_, rfl⟩
  have hS : va_S A s.heap H locs := by rw [hHe, hLo]; exact hS
  have hP : va_P D vwCl [(aD, .inr (0, [.ref aD_kinds, .ref aD_washes, .ref aD_fuels, .ref aD_isBroken, .int D_units, .ref aD_lengths, .ref aD_wanted, .int D_leaving, .ref aD_trackOf, .int D_parked, .int D_changes])), (aP, .inr (1, [.ref aD, .ref aP_packed, .ref aP_row, .int P_found, .int P_narrowest, .int P_knownAt])), (aD_kinds, .inl (cI, 5, .inl D_kinds)), (aD_isBroken, .inl (cZ, 5, .inl D_isBroken)), (aD_lengths, .inl (cI, 3, .inl D_lengths)), (aD_wanted, .inl (cI, 5, .inl D_wanted)), (aP_packed, .inl (cI, 243, .inl P_packed)), (aP_row, .inl (cI, 5, .inl P_row))] H := by rw [hHe]; exact hP
  refine (fun (hgo : W p l e ({ frames := 9, cells := 0, slots := 0, locals := 215 } : Room) s m ([.ref aP] : List Value).toArray below meth c H locs 0 0 Q0 (F0 m 0 ls [])) => by rw [hHe, hLo] at hgo; exact hgo) ?_
  refine lv_aload_n hx hb dX1_collect_0 rfl (lv_at hl 0 rfl) ?_
  refine va_get (D := D) (ci := 1) (v := .ref aP_row) (C := RX1) (T := TX1) (N := 6) hx hb hts hinX1 hown hK hP 1 rfl rfl 2 (by decide) hf15 (fun _ h9 => h9) rfl dX1_collect_1 ?_
  refine lv_iconst (v := 0) hx hb dX1_collect_4 (by decide) ?_
  refine zSv (As := [.ref aP_row, .int 0]) (rest := []) (wc := [(aP_row, .inl (cI, 5, .inl P_row))]) (wr := [(aD, .inr (0, [.ref aD_kinds, .ref aD_washes, .ref aD_fuels, .ref aD_isBroken, .int D_units, .ref aD_lengths, .ref aD_wanted, .int D_leaving, .ref aD_trackOf, .int D_parked, .int D_changes])), (aP, .inr (1, [.ref aD, .ref aP_packed, .ref aP_row, .int P_found, .int P_narrowest, .int P_knownAt])), (aD_kinds, .inl (cI, 5, .inl D_kinds)), (aD_isBroken, .inl (cZ, 5, .inl D_isBroken)), (aD_lengths, .inl (cI, 3, .inl D_lengths)), (aD_wanted, .inl (cI, 5, .inl D_wanted)), (aP_packed, .inl (cI, 243, .inl P_packed))]) ⟨hx, hb, hml, hown, hts⟩ hK hP hD hS hA [7] [0, 1, 2, 3, 4, 5, 6] rfl rfl (by decide) (by decide) (by decide) (c_J7_fill_53178 l D cI cJ cZ aP_row H.size 5 P_row 0 _ hw) (va_cwS 2 hts gX1_collect_J7_fill_53178 rfl rfl rfl (by decide +kernel) ⟨Nat.le_of_ble_eq_true rfl, Nat.le_of_ble_eq_true rfl⟩) rfl hl.1 (Nat.le_of_ble_eq_true rfl) dX1_collect_5 ⟨(Nat.le_of_ble_eq_true rfl), (Nat.le_of_ble_eq_true rfl)⟩ rfl (fun P_row_1 H locs hw hP hD hS => ?_)
  try dsimp only at hw
  have hP : va_P D vwCl [(aD, .inr (0, [.ref aD_kinds, .ref aD_washes, .ref aD_fuels, .ref aD_isBroken, .int D_units, .ref aD_lengths, .ref aD_wanted, .int D_leaving, .ref aD_trackOf, .int D_parked, .int D_changes])), (aP, .inr (1, [.ref aD, .ref aP_packed, .ref aP_row, .int P_found, .int P_narrowest, .int P_knownAt])), (aD_kinds, .inl (cI, 5, .inl D_kinds)), (aD_isBroken, .inl (cZ, 5, .inl D_isBroken)), (aD_lengths, .inl (cI, 3, .inl D_lengths)), (aD_wanted, .inl (cI, 5, .inl D_wanted)), (aP_packed, .inl (cI, 243, .inl P_packed)), (aP_row, .inl (cI, 5, .inl P_row_1))] H := hP.sub [0, 1, 2, 3, 4, 5, 6, 7] rfl
  have hD : va_D A [(aD, .inr (0, [.ref aD_kinds, .ref aD_washes, .ref aD_fuels, .ref aD_isBroken, .int D_units, .ref aD_lengths, .ref aD_wanted, .int D_leaving, .ref aD_trackOf, .int D_parked, .int D_changes])), (aP, .inr (1, [.ref aD, .ref aP_packed, .ref aP_row, .int P_found, .int P_narrowest, .int P_knownAt])), (aD_kinds, .inl (cI, 5, .inl D_kinds)), (aD_isBroken, .inl (cZ, 5, .inl D_isBroken)), (aD_lengths, .inl (cI, 3, .inl D_lengths)), (aD_wanted, .inl (cI, 5, .inl D_wanted)), (aP_packed, .inl (cI, 243, .inl P_packed)), (aP_row, .inl (cI, 5, .inl P_row_1))] := hD.sub [0, 1, 2, 3, 4, 5, 6, 7] (by decide) rfl
  refine lv_iconst (v := 1) hx hb dX1_collect_8 (by decide) ?_
  refine lv_istore_n (lv' := [(1, .int 1), (0, .ref aP)]) hx hb dX1_collect_9 rfl hl (by decide) rfl (fun ls hl => ?_)
  refine lv_iconst (v := 0) hx hb dX1_collect_10 (by decide) ?_
  refine lv_istore_n (lv' := [(2, .int 0), (1, .int 1), (0, .ref aP)]) hx hb dX1_collect_11 rfl hl (by decide) rfl (fun ls hl => ?_)
  obtain ⟨n13, hw⟩ := hw
  exact wZ_X1_collect_12  n13 1 0 P_packed P_row_1 P_found hw H locs ls hP hD hS (lv_sub hl [2, 1, 0] rfl)
/-! J6_bitCount_0f7a4 -/
def wp_J6_bitCount_0f7a4 (x0 : Int32) (post : Int32 → Prop) : Prop :=
  ∀ y1 : Int32, y1 = (x0 - (((x0.toUInt32 >>> ((1 : Int32).toUInt32 &&& Int32.toUInt32 31)).toInt32) &&& 1431655765)) → (∀ y2 : Int32, y2 = ((y1 &&& 858993459) + (((y1.toUInt32 >>> ((2 : Int32).toUInt32 &&& Int32.toUInt32 31)).toInt32) &&& 858993459)) → (∀ y3 : Int32, y3 = ((y2 + ((y2.toUInt32 >>> ((4 : Int32).toUInt32 &&& Int32.toUInt32 31)).toInt32)) &&& 252645135) → (∀ y4 : Int32, y4 = (y3 + ((y3.toUInt32 >>> ((8 : Int32).toUInt32 &&& Int32.toUInt32 31)).toInt32)) → (∀ y5 : Int32, y5 = (y4 + ((y4.toUInt32 >>> ((16 : Int32).toUInt32 &&& Int32.toUInt32 31)).toInt32)) → (post (y5 &&& 63) )))))
set_option maxHeartbeats 4000000 in
set_option maxRecDepth 100000 in
theorem c_J6_bitCount_0f7a4 (l : Launch) (D : va_G) (cI cJ cZ : ClassId) (sz : Nat) (x0 : Int32) (post : Int32 → Prop) (hw : wp_J6_bitCount_0f7a4 x0 post) : Met l yJ6_bitCount_0f7a4 wsJ6_bitCount_0f7a4 ({ frames := 0, cells := 0, slots := 0, locals := 0 } : Room) (va_Pc [.int x0] (zPre D cI cJ cZ [] sz)) (va_Qi (fun (r : Int32) (u : Unit) => post r) (zPost D cI cJ cZ (va_A [] sz) (fun u : Unit => [])) (va_A [] sz)) 0 0 (va_A [] sz) := by
  unfold wp_J6_bitCount_0f7a4 at hw
  refine Met.ofW (cc := cJ6_bitCount_0f7a4) (maxL := 1) (ret := some .int) (by decide) rfl ?_
  intro p e s m args below meth c s₁ B hml hv
  obtain ⟨rfl, hsz, hP, hK, hD0⟩ := hv
  have hx := B.exec
  have hb := B.bytes
  have hr := B.returns
  have hts := atoms_spec (ws := wsJ6_bitCount_0f7a4) B.pre
  have hown : s.vm.findClass RJ6 = some m.cls := findClass_of_methodNamed B.named
  have hlocks := B.notSynchronized
  subst hsz
  have hD := hD0.self (sz := s.heap.size)
  generalize hAe : va_A [] s.heap.size = A at hD ⊢
  have hA : ∀ q : Nat, s.heap.size ≤ q → A q := fun q h => by rw [← hAe]; exact Or.inr h
  have hS : va_S A s.heap s.heap [] := va_S.rf
  refine (fun (hall : ∀ Q0 : State → Prop, (∀ (r : Int32)  (H : Heap) (locs : List Loc) (pc : Nat) (ls : Array Slot), post r → decode cJ6_bitCount_0f7a4 pc = .ok (.ireturn, 1) → va_P D vwCl [] H → va_D A [] → va_S A s.heap H locs → W p l e ({ frames := 0, cells := 0, slots := 0, locals := 0 } : Room) s m ([.int x0] : List Value).toArray below meth c H locs 0 0 Q0 (F0 m pc ls [.int r])) → W p l e ({ frames := 0, cells := 0, slots := 0, locals := 0 } : Room) s m ([.int x0] : List Value).toArray below meth c s.heap [] 0 0 Q0 (entryFrame m ([.int x0] : List Value).toArray 1)) => hall _ (fun r  H locs pc ls hw hd hP hD hS => W.iret (v := r) hx hb hr (fun t ht hW => ⟨⟨r, (), rfl, hw, by rw [ht]; exact hP, va_K.moved hW.alike hK, hD⟩, hS.F ht⟩) hS.2.2 hd)) ?_
  intro Q0 hret
  have hl := lv_entry ([.int x0]) (n := 1) (Nat.le_of_ble_eq_true rfl)
  rw [lg_entry_eq]
  generalize (lg_sl ([.int x0]) ++ List.replicate (1 - (lg_sl ([.int x0])).length) Slot.unset).toArray = ls at hl ⊢
  have hl : lv_has ls 1 [(0, .int x0)] := hl
  obtain ⟨H, hHe⟩ : ∃ H, H = s.heap := ⟨_, rfl⟩
  obtain ⟨locs, hLo⟩ : ∃ locs : List Loc, locs = [] := ⟨_, rfl⟩
  have hS : va_S A s.heap H locs := by rw [hHe, hLo]; exact hS
  have hP : va_P D vwCl [] H := by rw [hHe]; exact hP
  refine (fun (hgo : W p l e ({ frames := 0, cells := 0, slots := 0, locals := 0 } : Room) s m ([.int x0] : List Value).toArray below meth c H locs 0 0 Q0 (F0 m 0 ls [])) => by rw [hHe, hLo] at hgo; exact hgo) ?_
  refine lv_iload_n hx hb dJ6_bitCount_0f7a4_0 rfl (lv_at hl 0 rfl) ?_
  refine lv_iload_n hx hb dJ6_bitCount_0f7a4_1 rfl (lv_at hl 0 rfl) ?_
  refine lv_iconst (v := 1) hx hb dJ6_bitCount_0f7a4_2 (by decide) ?_
  refine lv_iushr hx hb dJ6_bitCount_0f7a4_3 rfl ?_
  refine lv_ldcw (v := 1431655765) hx hb hown (hts (.constant RJ6 265 (1431655765)) (by decide +kernel)) dJ6_bitCount_0f7a4_4 ?_
  refine lv_iand hx hb dJ6_bitCount_0f7a4_7 ?_
  refine lv_isub hx hb dJ6_bitCount_0f7a4_8 ?_
  refine lv_topi (fun y1 ey1 => ?_)
  have hw := hw y1 ey1
  refine lv_istore_n (lv' := [(0, .int y1)]) hx hb dJ6_bitCount_0f7a4_9 rfl hl (by decide) rfl (fun ls hl => ?_)
  refine lv_iload_n hx hb dJ6_bitCount_0f7a4_10 rfl (lv_at hl 0 rfl) ?_
  refine lv_ldcw (v := 858993459) hx hb hown (hts (.constant RJ6 266 (858993459)) (by decide +kernel)) dJ6_bitCount_0f7a4_11 ?_
  refine lv_iand hx hb dJ6_bitCount_0f7a4_14 ?_
  refine lv_iload_n hx hb dJ6_bitCount_0f7a4_15 rfl (lv_at hl 0 rfl) ?_
  refine lv_iconst (v := 2) hx hb dJ6_bitCount_0f7a4_16 (by decide) ?_
  refine lv_iushr hx hb dJ6_bitCount_0f7a4_17 rfl ?_
  refine lv_ldcw (v := 858993459) hx hb hown (hts (.constant RJ6 266 (858993459)) (by decide +kernel)) dJ6_bitCount_0f7a4_18 ?_
  refine lv_iand hx hb dJ6_bitCount_0f7a4_21 ?_
  refine lv_iadd hx hb dJ6_bitCount_0f7a4_22 ?_
  refine lv_topi (fun y2 ey2 => ?_)
  have hw := hw y2 ey2
  refine lv_istore_n (lv' := [(0, .int y2)]) hx hb dJ6_bitCount_0f7a4_23 rfl hl (by decide) rfl (fun ls hl => ?_)
  refine lv_iload_n hx hb dJ6_bitCount_0f7a4_24 rfl (lv_at hl 0 rfl) ?_
  refine lv_iload_n hx hb dJ6_bitCount_0f7a4_25 rfl (lv_at hl 0 rfl) ?_
  refine lv_iconst (v := 4) hx hb dJ6_bitCount_0f7a4_26 (by decide) ?_
  refine lv_iushr hx hb dJ6_bitCount_0f7a4_27 rfl ?_
  refine lv_iadd hx hb dJ6_bitCount_0f7a4_28 ?_
  refine lv_ldcw (v := 252645135) hx hb hown (hts (.constant RJ6 267 (252645135)) (by decide +kernel)) dJ6_bitCount_0f7a4_29 ?_
  refine lv_iand hx hb dJ6_bitCount_0f7a4_32 ?_
  refine lv_topi (fun y3 ey3 => ?_)
  have hw := hw y3 ey3
  refine lv_istore_n (lv' := [(0, .int y3)]) hx hb dJ6_bitCount_0f7a4_33 rfl hl (by decide) rfl (fun ls hl => ?_)
  refine lv_iload_n hx hb dJ6_bitCount_0f7a4_34 rfl (lv_at hl 0 rfl) ?_
  refine lv_iload_n hx hb dJ6_bitCount_0f7a4_35 rfl (lv_at hl 0 rfl) ?_
  refine lv_bipush (v := 8) hx hb dJ6_bitCount_0f7a4_36 (by decide) ?_
  refine lv_iushr hx hb dJ6_bitCount_0f7a4_38 rfl ?_
  refine lv_iadd hx hb dJ6_bitCount_0f7a4_39 ?_
  refine lv_topi (fun y4 ey4 => ?_)
  have hw := hw y4 ey4
  refine lv_istore_n (lv' := [(0, .int y4)]) hx hb dJ6_bitCount_0f7a4_40 rfl hl (by decide) rfl (fun ls hl => ?_)
  refine lv_iload_n hx hb dJ6_bitCount_0f7a4_41 rfl (lv_at hl 0 rfl) ?_
  refine lv_iload_n hx hb dJ6_bitCount_0f7a4_42 rfl (lv_at hl 0 rfl) ?_
  refine lv_bipush (v := 16) hx hb dJ6_bitCount_0f7a4_43 (by decide) ?_
  refine lv_iushr hx hb dJ6_bitCount_0f7a4_45 rfl ?_
  refine lv_iadd hx hb dJ6_bitCount_0f7a4_46 ?_
  refine lv_topi (fun y5 ey5 => ?_)
  have hw := hw y5 ey5
  refine lv_istore_n (lv' := [(0, .int y5)]) hx hb dJ6_bitCount_0f7a4_47 rfl hl (by decide) rfl (fun ls hl => ?_)
  refine lv_iload_n hx hb dJ6_bitCount_0f7a4_48 rfl (lv_at hl 0 rfl) ?_
  refine lv_bipush (v := 63) hx hb dJ6_bitCount_0f7a4_49 (by decide) ?_
  refine lv_iand hx hb dJ6_bitCount_0f7a4_51 ?_
  exact hret (y5 &&& 63)  H locs 52 ls hw dJ6_bitCount_0f7a4_52 hP hD hS 
/-! X1_tracksUsed -/
def Y_X1_tracksUsed_4 (D_units : Int32) (P_packed : Nat → Int32) (x1 : Int32) (post : Int32 → Prop) (K32 : Int32 → Prop) (K4 : Int32 → Int32 → Prop) (x2 : Int32) (x3 : Int32) : Prop :=
  ((D_units ≤ x3 → K32 x2) ∧ (¬ D_units ≤ x3 → wp_X1_trackIn P_packed x1 x3 (fun (r2 : Int32) => ∀ y3 : Int32, y3 = (x2 ||| ((1 : Int32) <<< (r2 &&& 31))) → (K4 y3 (x3 + 1)))))
def Z_X1_tracksUsed_4 (D_units : Int32) (P_packed : Nat → Int32) (x1 : Int32) (post : Int32 → Prop) (K32 : Int32 → Prop) : Nat → Int32 → Int32 → Prop
  | 0 => fun _ _ => False
  | n + 1 => Y_X1_tracksUsed_4 D_units P_packed x1 post K32 (Z_X1_tracksUsed_4 D_units P_packed x1 post K32 n)
def wp_X1_tracksUsed (D_units : Int32) (P_packed : Nat → Int32) (x1 : Int32) (post : Int32 → Prop) : Prop :=
  ∃ n, Z_X1_tracksUsed_4 D_units P_packed x1 post (fun (x2_4 : Int32) => wp_J6_bitCount_0f7a4 x2_4 (fun (r5 : Int32) => post r5 )) n 0 0
set_option maxHeartbeats 4000000 in
set_option maxRecDepth 100000 in
theorem c_X1_tracksUsed (l : Launch) (D : va_G) (cI cJ cZ : ClassId) (aD aD_kinds aD_washes aD_fuels aD_isBroken aD_lengths aD_wanted aD_trackOf aP aP_packed aP_row : Nat) (sz : Nat) (D_units : Int32) (D_leaving : Int32) (D_parked : Int32) (D_changes : Int32) (P_found : Int32) (P_narrowest : Int32) (P_knownAt : Int32) (P_packed : Nat → Int32) (x1 : Int32) (post : Int32 → Prop) (hw : wp_X1_tracksUsed D_units P_packed x1 post) : Met l yX1_tracksUsed wsX1_tracksUsed ({ frames := 1, cells := 0, slots := 0, locals := 22 } : Room) (va_Pc [.ref aP, .int x1] (zPre D cI cJ cZ [(aD, .inr (0, [.ref aD_kinds, .ref aD_washes, .ref aD_fuels, .ref aD_isBroken, .int D_units, .ref aD_lengths, .ref aD_wanted, .int D_leaving, .ref aD_trackOf, .int D_parked, .int D_changes])), (aP, .inr (1, [.ref aD, .ref aP_packed, .ref aP_row, .int P_found, .int P_narrowest, .int P_knownAt])), (aP_packed, .inl (cI, 243, .inl P_packed))] sz)) (va_Qi (fun (r : Int32) (u : Unit) => post r) (zPost D cI cJ cZ (va_A [(aD, .inr (0, [.ref aD_kinds, .ref aD_washes, .ref aD_fuels, .ref aD_isBroken, .int D_units, .ref aD_lengths, .ref aD_wanted, .int D_leaving, .ref aD_trackOf, .int D_parked, .int D_changes])), (aP, .inr (1, [.ref aD, .ref aP_packed, .ref aP_row, .int P_found, .int P_narrowest, .int P_knownAt])), (aP_packed, .inl (cI, 243, .inl P_packed))] sz) (fun u : Unit => [(aD, .inr (0, [.ref aD_kinds, .ref aD_washes, .ref aD_fuels, .ref aD_isBroken, .int D_units, .ref aD_lengths, .ref aD_wanted, .int D_leaving, .ref aD_trackOf, .int D_parked, .int D_changes])), (aP, .inr (1, [.ref aD, .ref aP_packed, .ref aP_row, .int P_found, .int P_narrowest, .int P_knownAt])), (aP_packed, .inl (cI, 243, .inl P_packed))])) (va_A [(aD, .inr (0, [.ref aD_kinds, .ref aD_washes, .ref aD_fuels, .ref aD_isBroken, .int D_units, .ref aD_lengths, .ref aD_wanted, .int D_leaving, .ref aD_trackOf, .int D_parked, .int D_changes])), (aP, .inr (1, [.ref aD, .ref aP_packed, .ref aP_row, .int P_found, .int P_narrowest, .int P_knownAt])), (aP_packed, .inl (cI, 243, .inl P_packed))] sz)) 0 0 (va_A [(aD, .inr (0, [.ref aD_kinds, .ref aD_washes, .ref aD_fuels, .ref aD_isBroken, .int D_units, .ref aD_lengths, .ref aD_wanted, .int D_leaving, .ref aD_trackOf, .int D_parked, .int D_changes])), (aP, .inr (1, [.ref aD, .ref aP_packed, .ref aP_row, .int P_found, .int P_narrowest, .int P_knownAt])), (aP_packed, .inl (cI, 243, .inl P_packed))] sz) := by
  unfold wp_X1_tracksUsed at hw
  refine Met.ofW (cc := cX1_tracksUsed) (maxL := 4) (ret := some .int) (by decide) rfl ?_
  intro p e s m args below meth c s₁ B hml hv
  obtain ⟨rfl, hsz, hP, hK, hD0⟩ := hv
  have hx := B.exec
  have hb := B.bytes
  have hr := B.returns
  have hts := atoms_spec (ws := wsX1_tracksUsed) B.pre
  have hown : s.vm.findClass RX1 = some m.cls := findClass_of_methodNamed B.named
  have hlocks := B.notSynchronized
  subst hsz
  have hD := hD0.self (sz := s.heap.size)
  generalize hAe : va_A [(aD, .inr (0, [.ref aD_kinds, .ref aD_washes, .ref aD_fuels, .ref aD_isBroken, .int D_units, .ref aD_lengths, .ref aD_wanted, .int D_leaving, .ref aD_trackOf, .int D_parked, .int D_changes])), (aP, .inr (1, [.ref aD, .ref aP_packed, .ref aP_row, .int P_found, .int P_narrowest, .int P_knownAt])), (aP_packed, .inl (cI, 243, .inl P_packed))] s.heap.size = A at hD ⊢
  have hA : ∀ q : Nat, s.heap.size ≤ q → A q := fun q h => by rw [← hAe]; exact Or.inr h
  have hS : va_S A s.heap s.heap [] := va_S.rf
  refine (fun (hall : ∀ Q0 : State → Prop, (∀ (r : Int32)  (H : Heap) (locs : List Loc) (pc : Nat) (ls : Array Slot), post r → decode cX1_tracksUsed pc = .ok (.ireturn, 1) → va_P D vwCl [(aD, .inr (0, [.ref aD_kinds, .ref aD_washes, .ref aD_fuels, .ref aD_isBroken, .int D_units, .ref aD_lengths, .ref aD_wanted, .int D_leaving, .ref aD_trackOf, .int D_parked, .int D_changes])), (aP, .inr (1, [.ref aD, .ref aP_packed, .ref aP_row, .int P_found, .int P_narrowest, .int P_knownAt])), (aP_packed, .inl (cI, 243, .inl P_packed))] H → va_D A [(aD, .inr (0, [.ref aD_kinds, .ref aD_washes, .ref aD_fuels, .ref aD_isBroken, .int D_units, .ref aD_lengths, .ref aD_wanted, .int D_leaving, .ref aD_trackOf, .int D_parked, .int D_changes])), (aP, .inr (1, [.ref aD, .ref aP_packed, .ref aP_row, .int P_found, .int P_narrowest, .int P_knownAt])), (aP_packed, .inl (cI, 243, .inl P_packed))] → va_S A s.heap H locs → W p l e ({ frames := 1, cells := 0, slots := 0, locals := 22 } : Room) s m ([.ref aP, .int x1] : List Value).toArray below meth c H locs 0 0 Q0 (F0 m pc ls [.int r])) → W p l e ({ frames := 1, cells := 0, slots := 0, locals := 22 } : Room) s m ([.ref aP, .int x1] : List Value).toArray below meth c s.heap [] 0 0 Q0 (entryFrame m ([.ref aP, .int x1] : List Value).toArray 4)) => hall _ (fun r  H locs pc ls hw hd hP hD hS => W.iret (v := r) hx hb hr (fun t ht hW => ⟨⟨r, (), rfl, hw, by rw [ht]; exact hP, va_K.moved hW.alike hK, hD⟩, hS.F ht⟩) hS.2.2 hd)) ?_
  intro Q0 hret
  have hl := lv_entry ([.ref aP, .int x1]) (n := 4) (Nat.le_of_ble_eq_true rfl)
  rw [lg_entry_eq]
  generalize (lg_sl ([.ref aP, .int x1]) ++ List.replicate (4 - (lg_sl ([.ref aP, .int x1])).length) Slot.unset).toArray = ls at hl ⊢
  have hl : lv_has ls 4 [(0, .ref aP), (1, .int x1)] := hl
  have hinX0 : ∀ w ∈ u_ws RX0 TX0 11, w ∈ wsX1_tracksUsed := by decide +kernel
  have hinX1 : ∀ w ∈ u_ws RX1 TX1 6, w ∈ wsX1_tracksUsed := by decide +kernel
  have hf28 := hts (.fieldLink RX1 28 "DepotNight$Parkings" "depot" "LDepotNight$Depot;") (by decide +kernel)
  have hf37 := hts (.fieldLink RX1 37 "DepotNight$Depot" "units" "I") (by decide +kernel)
  have wZ_X1_tracksUsed_4 : ∀ (K32 : Int32 → Prop), (∀ (x2 : Int32), K32 x2 → ∀ (H : Heap) (locs : List Loc) (ls : Array Slot), va_P D vwCl [(aD, .inr (0, [.ref aD_kinds, .ref aD_washes, .ref aD_fuels, .ref aD_isBroken, .int D_units, .ref aD_lengths, .ref aD_wanted, .int D_leaving, .ref aD_trackOf, .int D_parked, .int D_changes])), (aP, .inr (1, [.ref aD, .ref aP_packed, .ref aP_row, .int P_found, .int P_narrowest, .int P_knownAt])), (aP_packed, .inl (cI, 243, .inl P_packed))] H → va_D A [(aD, .inr (0, [.ref aD_kinds, .ref aD_washes, .ref aD_fuels, .ref aD_isBroken, .int D_units, .ref aD_lengths, .ref aD_wanted, .int D_leaving, .ref aD_trackOf, .int D_parked, .int D_changes])), (aP, .inr (1, [.ref aD, .ref aP_packed, .ref aP_row, .int P_found, .int P_narrowest, .int P_knownAt])), (aP_packed, .inl (cI, 243, .inl P_packed))] → va_S A s.heap H locs → lv_has ls 4 [(2, .int x2)] → W p l e ({ frames := 1, cells := 0, slots := 0, locals := 22 } : Room) s m ([.ref aP, .int x1] : List Value).toArray below meth c H locs 0 0 Q0 (F0 m 32 ls [])) → ∀ (n : Nat) (x2 : Int32) (x3 : Int32), Z_X1_tracksUsed_4 D_units P_packed x1 post K32 n x2 x3 → ∀ (H : Heap) (locs : List Loc) (ls : Array Slot), va_P D vwCl [(aD, .inr (0, [.ref aD_kinds, .ref aD_washes, .ref aD_fuels, .ref aD_isBroken, .int D_units, .ref aD_lengths, .ref aD_wanted, .int D_leaving, .ref aD_trackOf, .int D_parked, .int D_changes])), (aP, .inr (1, [.ref aD, .ref aP_packed, .ref aP_row, .int P_found, .int P_narrowest, .int P_knownAt])), (aP_packed, .inl (cI, 243, .inl P_packed))] H → va_D A [(aD, .inr (0, [.ref aD_kinds, .ref aD_washes, .ref aD_fuels, .ref aD_isBroken, .int D_units, .ref aD_lengths, .ref aD_wanted, .int D_leaving, .ref aD_trackOf, .int D_parked, .int D_changes])), (aP, .inr (1, [.ref aD, .ref aP_packed, .ref aP_row, .int P_found, .int P_narrowest, .int P_knownAt])), (aP_packed, .inl (cI, 243, .inl P_packed))] → va_S A s.heap H locs → lv_has ls 4 [(0, .ref aP), (1, .int x1), (2, .int x2), (3, .int x3)] → W p l e ({ frames := 1, cells := 0, slots := 0, locals := 22 } : Room) s m ([.ref aP, .int x1] : List Value).toArray below meth c H locs 0 0 Q0 (F0 m 4 ls []) := by
    intro K32 hK32 n
    induction n with
    | zero =>
      intro x2 x3 hw
      exact (show False from hw).elim
    | succ n hK4 =>
      intro x2 x3 hw H locs ls hP hD hS hl
      have hw : Y_X1_tracksUsed_4 D_units P_packed x1 post K32 (Z_X1_tracksUsed_4 D_units P_packed x1 post K32 n) x2 x3 := hw
      unfold Y_X1_tracksUsed_4 at hw
      refine lv_iload_n hx hb dX1_tracksUsed_4 rfl (lv_at hl 3 rfl) ?_
      refine lv_aload_n hx hb dX1_tracksUsed_5 rfl (lv_at hl 0 rfl) ?_
      refine va_get (D := D) (ci := 1) (v := .ref aD) (C := RX1) (T := TX1) (N := 6) hx hb hts hinX1 hown hK hP 1 rfl rfl 0 (by decide) hf28 (fun _ h9 => h9) rfl dX1_tracksUsed_6 ?_
      refine va_get (D := D) (ci := 0) (v := .int D_units) (C := RX0) (T := TX0) (N := 11) hx hb hts hinX0 hown hK hP 0 rfl rfl 4 (by decide) hf37 (fun _ h9 => h9) rfl dX1_tracksUsed_9 ?_
      refine lv_icmp_ge (tgt := 32) hx hb dX1_tracksUsed_12 (by decide) (fun hc1 => ?_) (fun hc1 => ?_)
      · have hw := hw.1 hc1
        exact hK32 x2 hw H locs ls hP hD hS (lv_sub hl [2] rfl)
      · have hw := hw.2 hc1
        refine lv_iload_n hx hb dX1_tracksUsed_15 rfl (lv_at hl 2 rfl) ?_
        refine lv_iconst (v := 1) hx hb dX1_tracksUsed_16 (by decide) ?_
        refine lv_aload_n hx hb dX1_tracksUsed_17 rfl (lv_at hl 0 rfl) ?_
        refine lv_iload_n hx hb dX1_tracksUsed_18 rfl (lv_at hl 1 rfl) ?_
        refine lv_iload_n hx hb dX1_tracksUsed_19 rfl (lv_at hl 3 rfl) ?_
        refine zVi (As := [.int x1, .int x3]) (rest := [.int 1, .int x2]) (wc := [(aP, .inr (1, [.ref aD, .ref aP_packed, .ref aP_row, .int P_found, .int P_narrowest, .int P_knownAt])), (aP_packed, .inl (cI, 243, .inl P_packed))]) (wr := [(aD, .inr (0, [.ref aD_kinds, .ref aD_washes, .ref aD_fuels, .ref aD_isBroken, .int D_units, .ref aD_lengths, .ref aD_wanted, .int D_leaving, .ref aD_trackOf, .int D_parked, .int D_changes]))]) ⟨hx, hb, hml, hown, hts⟩ hK hP hD hS hA [1, 2] [0] rfl rfl (by decide) (by decide) (by decide) (c_X1_trackIn l D cI cJ cZ aP aD aP_packed aP_row H.size P_found P_narrowest P_knownAt P_packed x1 x3 _ hw) (cwV 2 hts gX1_tracksUsed_X1_trackIn rfl rfl rfl (by decide +kernel) ⟨Nat.le_of_ble_eq_true rfl, Nat.le_of_ble_eq_true rfl⟩) 1 1 rfl rfl rfl rfl hl.1 (Nat.le_of_ble_eq_true rfl) dX1_tracksUsed_20 ⟨(Nat.le_of_ble_eq_true rfl), (Nat.le_of_ble_eq_true rfl)⟩ rfl (fun r2 u H locs hw hP hD hS => ?_)
        try dsimp only at hw
        have hP : va_P D vwCl [(aD, .inr (0, [.ref aD_kinds, .ref aD_washes, .ref aD_fuels, .ref aD_isBroken, .int D_units, .ref aD_lengths, .ref aD_wanted, .int D_leaving, .ref aD_trackOf, .int D_parked, .int D_changes])), (aP, .inr (1, [.ref aD, .ref aP_packed, .ref aP_row, .int P_found, .int P_narrowest, .int P_knownAt])), (aP_packed, .inl (cI, 243, .inl P_packed))] H := hP.sub [0, 1, 2] rfl
        have hD : va_D A [(aD, .inr (0, [.ref aD_kinds, .ref aD_washes, .ref aD_fuels, .ref aD_isBroken, .int D_units, .ref aD_lengths, .ref aD_wanted, .int D_leaving, .ref aD_trackOf, .int D_parked, .int D_changes])), (aP, .inr (1, [.ref aD, .ref aP_packed, .ref aP_row, .int P_found, .int P_narrowest, .int P_knownAt])), (aP_packed, .inl (cI, 243, .inl P_packed))] := hD.sub [0, 1, 2] (by decide) rfl
        refine lv_ishl hx hb dX1_tracksUsed_23 ?_
        refine lv_ior hx hb dX1_tracksUsed_24 ?_
        refine lv_topi (fun y3 ey3 => ?_)
        have hw := hw y3 ey3
        refine lv_istore_n (lv' := [(2, .int y3), (0, .ref aP), (1, .int x1), (3, .int x3)]) hx hb dX1_tracksUsed_25 rfl hl (by decide) rfl (fun ls hl => ?_)
        refine lv_iinc (v := (x3 + 1)) (lv' := [(3, .int (x3 + 1)), (2, .int y3), (0, .ref aP), (1, .int x1)]) hx hb dX1_tracksUsed_26 hl (k := 3) rfl rfl (by decide) rfl (fun ls hl => ?_)
        refine lv_goto (tgt := 4) hx hb dX1_tracksUsed_29 (by decide) ?_
        exact hK4 y3 (x3 + 1) hw H locs ls hP hD hS (lv_sub hl [2, 3, 1, 0] rfl)
  obtain ⟨H, hHe⟩ : ∃ H, H = s.heap := ⟨_, rfl⟩
  obtain ⟨locs, hLo⟩ : ∃ locs : List Loc, locs = [] := ⟨_, rfl⟩
  have hS : va_S A s.heap H locs := by rw [hHe, hLo]; exact hS
  have hP : va_P D vwCl [(aD, .inr (0, [.ref aD_kinds, .ref aD_washes, .ref aD_fuels, .ref aD_isBroken, .int D_units, .ref aD_lengths, .ref aD_wanted, .int D_leaving, .ref aD_trackOf, .int D_parked, .int D_changes])), (aP, .inr (1, [.ref aD, .ref aP_packed, .ref aP_row, .int P_found, .int P_narrowest, .int P_knownAt])), (aP_packed, .inl (cI, 243, .inl P_packed))] H := by rw [hHe]; exact hP
  refine (fun (hgo : W p l e ({ frames := 1, cells := 0, slots := 0, locals := 22 } : Room) s m ([.ref aP, .int x1] : List Value).toArray below meth c H locs 0 0 Q0 (F0 m 0 ls [])) => by rw [hHe, hLo] at hgo; exact hgo) ?_
  refine lv_iconst (v := 0) hx hb dX1_tracksUsed_0 (by decide) ?_
  refine lv_istore_n (lv' := [(2, .int 0), (0, .ref aP), (1, .int x1)]) hx hb dX1_tracksUsed_1 rfl hl (by decide) rfl (fun ls hl => ?_)
  refine lv_iconst (v := 0) hx hb dX1_tracksUsed_2 (by decide) ?_
  refine lv_istore_n (lv' := [(3, .int 0), (2, .int 0), (0, .ref aP), (1, .int x1)]) hx hb dX1_tracksUsed_3 rfl hl (by decide) rfl (fun ls hl => ?_)
  obtain ⟨n6, hw⟩ := hw
  refine wZ_X1_tracksUsed_4 _ (fun x2_4 hw H locs ls hP hD hS hl => ?_) n6 0 0 hw H locs ls hP hD hS (lv_sub hl [2, 3, 1, 0] rfl)
  refine lv_iload_n hx hb dX1_tracksUsed_32 rfl (lv_at hl 0 rfl) ?_
  refine zSi (As := [.int x2_4]) (rest := []) (wc := []) (wr := [(aD, .inr (0, [.ref aD_kinds, .ref aD_washes, .ref aD_fuels, .ref aD_isBroken, .int D_units, .ref aD_lengths, .ref aD_wanted, .int D_leaving, .ref aD_trackOf, .int D_parked, .int D_changes])), (aP, .inr (1, [.ref aD, .ref aP_packed, .ref aP_row, .int P_found, .int P_narrowest, .int P_knownAt])), (aP_packed, .inl (cI, 243, .inl P_packed))]) ⟨hx, hb, hml, hown, hts⟩ hK hP hD hS hA [] [0, 1, 2] rfl rfl (by decide) (by decide) (by decide) (c_J6_bitCount_0f7a4 l D cI cJ cZ H.size x2_4 _ hw) (va_cwS 1 hts gX1_tracksUsed_J6_bitCount_0f7a4 rfl rfl rfl (by decide +kernel) ⟨Nat.le_of_ble_eq_true rfl, Nat.le_of_ble_eq_true rfl⟩) rfl hl.1 (Nat.le_of_ble_eq_true rfl) dX1_tracksUsed_33 ⟨(Nat.le_of_ble_eq_true rfl), (Nat.le_of_ble_eq_true rfl)⟩ rfl (fun r5 u H locs hw hP hD hS => ?_)
  try dsimp only at hw
  have hP : va_P D vwCl [(aD, .inr (0, [.ref aD_kinds, .ref aD_washes, .ref aD_fuels, .ref aD_isBroken, .int D_units, .ref aD_lengths, .ref aD_wanted, .int D_leaving, .ref aD_trackOf, .int D_parked, .int D_changes])), (aP, .inr (1, [.ref aD, .ref aP_packed, .ref aP_row, .int P_found, .int P_narrowest, .int P_knownAt])), (aP_packed, .inl (cI, 243, .inl P_packed))] H := hP.sub [0, 1, 2] rfl
  have hD : va_D A [(aD, .inr (0, [.ref aD_kinds, .ref aD_washes, .ref aD_fuels, .ref aD_isBroken, .int D_units, .ref aD_lengths, .ref aD_wanted, .int D_leaving, .ref aD_trackOf, .int D_parked, .int D_changes])), (aP, .inr (1, [.ref aD, .ref aP_packed, .ref aP_row, .int P_found, .int P_narrowest, .int P_knownAt])), (aP_packed, .inl (cI, 243, .inl P_packed))] := hD.sub [0, 1, 2] (by decide) rfl
  exact hret r5  H locs 36 ls hw dX1_tracksUsed_36 hP hD hS 
/-! X1_findNarrowest -/
def Y_X1_findNarrowest_6 (D_units : Int32) (P_packed : Nat → Int32) (P_found : Int32) (post : Int32 → Prop) (K6 : Int32 → Int32 → Int32 → Prop) (x1 : Int32) (x2 : Int32) (x3 : Int32) : Prop :=
  ((P_found ≤ x3 → post x1 ) ∧ (¬ P_found ≤ x3 → wp_X1_tracksUsed D_units P_packed x3 (fun (r2 : Int32) => ((x2 ≤ r2 → K6 x1 x2 (x3 + 1)) ∧ (¬ x2 ≤ r2 → K6 x3 r2 (x3 + 1))))))
def Z_X1_findNarrowest_6 (D_units : Int32) (P_packed : Nat → Int32) (P_found : Int32) (post : Int32 → Prop) : Nat → Int32 → Int32 → Int32 → Prop
  | 0 => fun _ _ _ => False
  | n + 1 => Y_X1_findNarrowest_6 D_units P_packed P_found post (Z_X1_findNarrowest_6 D_units P_packed P_found post n)
def wp_X1_findNarrowest (D_units : Int32) (P_packed : Nat → Int32) (P_found : Int32) (post : Int32 → Prop) : Prop :=
  ∃ n, Z_X1_findNarrowest_6 D_units P_packed P_found post n (-1) 4 0
set_option maxHeartbeats 4000000 in
set_option maxRecDepth 100000 in
theorem c_X1_findNarrowest (l : Launch) (D : va_G) (cI cJ cZ : ClassId) (aD aD_kinds aD_washes aD_fuels aD_isBroken aD_lengths aD_wanted aD_trackOf aP aP_packed aP_row : Nat) (sz : Nat) (D_units : Int32) (D_leaving : Int32) (D_parked : Int32) (D_changes : Int32) (P_found : Int32) (P_narrowest : Int32) (P_knownAt : Int32) (P_packed : Nat → Int32) (post : Int32 → Prop) (hw : wp_X1_findNarrowest D_units P_packed P_found post) : Met l yX1_findNarrowest wsX1_findNarrowest ({ frames := 2, cells := 0, slots := 0, locals := 45 } : Room) (va_Pc [.ref aP] (zPre D cI cJ cZ [(aD, .inr (0, [.ref aD_kinds, .ref aD_washes, .ref aD_fuels, .ref aD_isBroken, .int D_units, .ref aD_lengths, .ref aD_wanted, .int D_leaving, .ref aD_trackOf, .int D_parked, .int D_changes])), (aP, .inr (1, [.ref aD, .ref aP_packed, .ref aP_row, .int P_found, .int P_narrowest, .int P_knownAt])), (aP_packed, .inl (cI, 243, .inl P_packed))] sz)) (va_Qi (fun (r : Int32) (u : Unit) => post r) (zPost D cI cJ cZ (va_A [(aD, .inr (0, [.ref aD_kinds, .ref aD_washes, .ref aD_fuels, .ref aD_isBroken, .int D_units, .ref aD_lengths, .ref aD_wanted, .int D_leaving, .ref aD_trackOf, .int D_parked, .int D_changes])), (aP, .inr (1, [.ref aD, .ref aP_packed, .ref aP_row, .int P_found, .int P_narrowest, .int P_knownAt])), (aP_packed, .inl (cI, 243, .inl P_packed))] sz) (fun u : Unit => [(aD, .inr (0, [.ref aD_kinds, .ref aD_washes, .ref aD_fuels, .ref aD_isBroken, .int D_units, .ref aD_lengths, .ref aD_wanted, .int D_leaving, .ref aD_trackOf, .int D_parked, .int D_changes])), (aP, .inr (1, [.ref aD, .ref aP_packed, .ref aP_row, .int P_found, .int P_narrowest, .int P_knownAt])), (aP_packed, .inl (cI, 243, .inl P_packed))])) (va_A [(aD, .inr (0, [.ref aD_kinds, .ref aD_washes, .ref aD_fuels, .ref aD_isBroken, .int D_units, .ref aD_lengths, .ref aD_wanted, .int D_leaving, .ref aD_trackOf, .int D_parked, .int D_changes])), (aP, .inr (1, [.ref aD, .ref aP_packed, .ref aP_row, .int P_found, .int P_narrowest, .int P_knownAt])), (aP_packed, .inl (cI, 243, .inl P_packed))] sz)) 0 0 (va_A [(aD, .inr (0, [.ref aD_kinds, .ref aD_washes, .ref aD_fuels, .ref aD_isBroken, .int D_units, .ref aD_lengths, .ref aD_wanted, .int D_leaving, .ref aD_trackOf, .int D_parked, .int D_changes])), (aP, .inr (1, [.ref aD, .ref aP_packed, .ref aP_row, .int P_found, .int P_narrowest, .int P_knownAt])), (aP_packed, .inl (cI, 243, .inl P_packed))] sz) := by
  unfold wp_X1_findNarrowest at hw
  refine Met.ofW (cc := cX1_findNarrowest) (maxL := 5) (ret := some .int) (by decide) rfl ?_
  intro p e s m args below meth c s₁ B hml hv
  obtain ⟨rfl, hsz, hP, hK, hD0⟩ := hv
  have hx := B.exec
  have hb := B.bytes
  have hr := B.returns
  have hts := atoms_spec (ws := wsX1_findNarrowest) B.pre
  have hown : s.vm.findClass RX1 = some m.cls := findClass_of_methodNamed B.named
  have hlocks := B.notSynchronized
  subst hsz
  have hD := hD0.self (sz := s.heap.size)
  generalize hAe : va_A [(aD, .inr (0, [.ref aD_kinds, .ref aD_washes, .ref aD_fuels, .ref aD_isBroken, .int D_units, .ref aD_lengths, .ref aD_wanted, .int D_leaving, .ref aD_trackOf, .int D_parked, .int D_changes])), (aP, .inr (1, [.ref aD, .ref aP_packed, .ref aP_row, .int P_found, .int P_narrowest, .int P_knownAt])), (aP_packed, .inl (cI, 243, .inl P_packed))] s.heap.size = A at hD ⊢
  have hA : ∀ q : Nat, s.heap.size ≤ q → A q := fun q h => by rw [← hAe]; exact Or.inr h
  have hS : va_S A s.heap s.heap [] := va_S.rf
  refine (fun (hall : ∀ Q0 : State → Prop, (∀ (r : Int32)  (H : Heap) (locs : List Loc) (pc : Nat) (ls : Array Slot), post r → decode cX1_findNarrowest pc = .ok (.ireturn, 1) → va_P D vwCl [(aD, .inr (0, [.ref aD_kinds, .ref aD_washes, .ref aD_fuels, .ref aD_isBroken, .int D_units, .ref aD_lengths, .ref aD_wanted, .int D_leaving, .ref aD_trackOf, .int D_parked, .int D_changes])), (aP, .inr (1, [.ref aD, .ref aP_packed, .ref aP_row, .int P_found, .int P_narrowest, .int P_knownAt])), (aP_packed, .inl (cI, 243, .inl P_packed))] H → va_D A [(aD, .inr (0, [.ref aD_kinds, .ref aD_washes, .ref aD_fuels, .ref aD_isBroken, .int D_units, .ref aD_lengths, .ref aD_wanted, .int D_leaving, .ref aD_trackOf, .int D_parked, .int D_changes])), (aP, .inr (1, [.ref aD, .ref aP_packed, .ref aP_row, .int P_found, .int P_narrowest, .int P_knownAt])), (aP_packed, .inl (cI, 243, .inl P_packed))] → va_S A s.heap H locs → W p l e ({ frames := 2, cells := 0, slots := 0, locals := 45 } : Room) s m ([.ref aP] : List Value).toArray below meth c H locs 0 0 Q0 (F0 m pc ls [.int r])) → W p l e ({ frames := 2, cells := 0, slots := 0, locals := 45 } : Room) s m ([.ref aP] : List Value).toArray below meth c s.heap [] 0 0 Q0 (entryFrame m ([.ref aP] : List Value).toArray 5)) => hall _ (fun r  H locs pc ls hw hd hP hD hS => W.iret (v := r) hx hb hr (fun t ht hW => ⟨⟨r, (), rfl, hw, by rw [ht]; exact hP, va_K.moved hW.alike hK, hD⟩, hS.F ht⟩) hS.2.2 hd)) ?_
  intro Q0 hret
  have hl := lv_entry ([.ref aP]) (n := 5) (Nat.le_of_ble_eq_true rfl)
  rw [lg_entry_eq]
  generalize (lg_sl ([.ref aP]) ++ List.replicate (5 - (lg_sl ([.ref aP])).length) Slot.unset).toArray = ls at hl ⊢
  have hl : lv_has ls 5 [(0, .ref aP)] := hl
  have hinX1 : ∀ w ∈ u_ws RX1 TX1 6, w ∈ wsX1_findNarrowest := by decide +kernel
  have hf18 := hts (.fieldLink RX1 18 "DepotNight$Parkings" "found" "I") (by decide +kernel)
  have wZ_X1_findNarrowest_6 : ∀ (n : Nat) (x1 : Int32) (x2 : Int32) (x3 : Int32), Z_X1_findNarrowest_6 D_units P_packed P_found post n x1 x2 x3 → ∀ (H : Heap) (locs : List Loc) (ls : Array Slot), va_P D vwCl [(aD, .inr (0, [.ref aD_kinds, .ref aD_washes, .ref aD_fuels, .ref aD_isBroken, .int D_units, .ref aD_lengths, .ref aD_wanted, .int D_leaving, .ref aD_trackOf, .int D_parked, .int D_changes])), (aP, .inr (1, [.ref aD, .ref aP_packed, .ref aP_row, .int P_found, .int P_narrowest, .int P_knownAt])), (aP_packed, .inl (cI, 243, .inl P_packed))] H → va_D A [(aD, .inr (0, [.ref aD_kinds, .ref aD_washes, .ref aD_fuels, .ref aD_isBroken, .int D_units, .ref aD_lengths, .ref aD_wanted, .int D_leaving, .ref aD_trackOf, .int D_parked, .int D_changes])), (aP, .inr (1, [.ref aD, .ref aP_packed, .ref aP_row, .int P_found, .int P_narrowest, .int P_knownAt])), (aP_packed, .inl (cI, 243, .inl P_packed))] → va_S A s.heap H locs → lv_has ls 5 [(0, .ref aP), (1, .int x1), (2, .int x2), (3, .int x3)] → W p l e ({ frames := 2, cells := 0, slots := 0, locals := 45 } : Room) s m ([.ref aP] : List Value).toArray below meth c H locs 0 0 Q0 (F0 m 6 ls []) := by
    intro n
    induction n with
    | zero =>
      intro x1 x2 x3 hw
      exact (show False from hw).elim
    | succ n hK6 =>
      intro x1 x2 x3 hw H locs ls hP hD hS hl
      have hw : Y_X1_findNarrowest_6 D_units P_packed P_found post (Z_X1_findNarrowest_6 D_units P_packed P_found post n) x1 x2 x3 := hw
      unfold Y_X1_findNarrowest_6 at hw
      refine lv_iload_n hx hb dX1_findNarrowest_6 rfl (lv_at hl 3 rfl) ?_
      refine lv_aload_n hx hb dX1_findNarrowest_7 rfl (lv_at hl 0 rfl) ?_
      refine va_get (D := D) (ci := 1) (v := .int P_found) (C := RX1) (T := TX1) (N := 6) hx hb hts hinX1 hown hK hP 1 rfl rfl 3 (by decide) hf18 (fun _ h9 => h9) rfl dX1_findNarrowest_8 ?_
      refine lv_icmp_ge (tgt := 38) hx hb dX1_findNarrowest_11 (by decide) (fun hc1 => ?_) (fun hc1 => ?_)
      · have hw := hw.1 hc1
        refine lv_iload_n hx hb dX1_findNarrowest_38 rfl (lv_at hl 1 rfl) ?_
        exact hret x1  H locs 39 ls hw dX1_findNarrowest_39 hP hD hS 
      · have hw := hw.2 hc1
        refine lv_aload_n hx hb dX1_findNarrowest_14 rfl (lv_at hl 0 rfl) ?_
        refine lv_iload_n hx hb dX1_findNarrowest_15 rfl (lv_at hl 3 rfl) ?_
        refine zVi (As := [.int x3]) (rest := []) (wc := [(aD, .inr (0, [.ref aD_kinds, .ref aD_washes, .ref aD_fuels, .ref aD_isBroken, .int D_units, .ref aD_lengths, .ref aD_wanted, .int D_leaving, .ref aD_trackOf, .int D_parked, .int D_changes])), (aP, .inr (1, [.ref aD, .ref aP_packed, .ref aP_row, .int P_found, .int P_narrowest, .int P_knownAt])), (aP_packed, .inl (cI, 243, .inl P_packed))]) (wr := []) ⟨hx, hb, hml, hown, hts⟩ hK hP hD hS hA [0, 1, 2] [] rfl rfl (by decide) (by decide) (by decide) (c_X1_tracksUsed l D cI cJ cZ aD aD_kinds aD_washes aD_fuels aD_isBroken aD_lengths aD_wanted aD_trackOf aP aP_packed aP_row H.size D_units D_leaving D_parked D_changes P_found P_narrowest P_knownAt P_packed x3 _ hw) (cwV 1 hts gX1_findNarrowest_X1_tracksUsed rfl rfl rfl (by decide +kernel) ⟨Nat.le_of_ble_eq_true rfl, Nat.le_of_ble_eq_true rfl⟩) 1 1 rfl rfl rfl rfl hl.1 (Nat.le_of_ble_eq_true rfl) dX1_findNarrowest_16 ⟨(Nat.le_of_ble_eq_true rfl), (Nat.le_of_ble_eq_true rfl)⟩ rfl (fun r2 u H locs hw hP hD hS => ?_)
        try dsimp only at hw
        have hP : va_P D vwCl [(aD, .inr (0, [.ref aD_kinds, .ref aD_washes, .ref aD_fuels, .ref aD_isBroken, .int D_units, .ref aD_lengths, .ref aD_wanted, .int D_leaving, .ref aD_trackOf, .int D_parked, .int D_changes])), (aP, .inr (1, [.ref aD, .ref aP_packed, .ref aP_row, .int P_found, .int P_narrowest, .int P_knownAt])), (aP_packed, .inl (cI, 243, .inl P_packed))] H := hP.sub [0, 1, 2] rfl
        have hD : va_D A [(aD, .inr (0, [.ref aD_kinds, .ref aD_washes, .ref aD_fuels, .ref aD_isBroken, .int D_units, .ref aD_lengths, .ref aD_wanted, .int D_leaving, .ref aD_trackOf, .int D_parked, .int D_changes])), (aP, .inr (1, [.ref aD, .ref aP_packed, .ref aP_row, .int P_found, .int P_narrowest, .int P_knownAt])), (aP_packed, .inl (cI, 243, .inl P_packed))] := hD.sub [0, 1, 2] (by decide) rfl
        refine lv_istore (lv' := [(4, .int r2), (0, .ref aP), (1, .int x1), (2, .int x2), (3, .int x3)]) hx hb dX1_findNarrowest_19 hl (by decide) rfl (fun ls hl => ?_)
        refine lv_iload hx hb dX1_findNarrowest_21 (lv_at hl 0 rfl) ?_
        refine lv_iload_n hx hb dX1_findNarrowest_23 rfl (lv_at hl 3 rfl) ?_
        refine lv_icmp_ge (tgt := 32) hx hb dX1_findNarrowest_24 (by decide) (fun hc3 => ?_) (fun hc3 => ?_)
        · have hw := hw.1 hc3
          refine lv_iinc (v := (x3 + 1)) (lv' := [(3, .int (x3 + 1)), (4, .int r2), (0, .ref aP), (1, .int x1), (2, .int x2)]) hx hb dX1_findNarrowest_32 hl (k := 4) rfl rfl (by decide) rfl (fun ls hl => ?_)
          refine lv_goto (tgt := 6) hx hb dX1_findNarrowest_35 (by decide) ?_
          exact hK6 x1 x2 (x3 + 1) hw H locs ls hP hD hS (lv_sub hl [2, 3, 4, 0] rfl)
        · have hw := hw.2 hc3
          refine lv_iload hx hb dX1_findNarrowest_27 (lv_at hl 0 rfl) ?_
          refine lv_istore_n (lv' := [(2, .int r2), (4, .int r2), (0, .ref aP), (1, .int x1), (3, .int x3)]) hx hb dX1_findNarrowest_29 rfl hl (by decide) rfl (fun ls hl => ?_)
          refine lv_iload_n hx hb dX1_findNarrowest_30 rfl (lv_at hl 4 rfl) ?_
          refine lv_istore_n (lv' := [(1, .int x3), (2, .int r2), (4, .int r2), (0, .ref aP), (3, .int x3)]) hx hb dX1_findNarrowest_31 rfl hl (by decide) rfl (fun ls hl => ?_)
          refine lv_iinc (v := (x3 + 1)) (lv' := [(3, .int (x3 + 1)), (1, .int x3), (2, .int r2), (4, .int r2), (0, .ref aP)]) hx hb dX1_findNarrowest_32 hl (k := 4) rfl rfl (by decide) rfl (fun ls hl => ?_)
          refine lv_goto (tgt := 6) hx hb dX1_findNarrowest_35 (by decide) ?_
          exact hK6 x3 r2 (x3 + 1) hw H locs ls hP hD hS (lv_sub hl [4, 1, 2, 0] rfl)
  obtain ⟨H, hHe⟩ : ∃ H, H = s.heap := ⟨_, rfl⟩
  obtain ⟨locs, hLo⟩ : ∃ locs : List Loc, locs = [] := ⟨_, rfl⟩
  have hS : va_S A s.heap H locs := by rw [hHe, hLo]; exact hS
  have hP : va_P D vwCl [(aD, .inr (0, [.ref aD_kinds, .ref aD_washes, .ref aD_fuels, .ref aD_isBroken, .int D_units, .ref aD_lengths, .ref aD_wanted, .int D_leaving, .ref aD_trackOf, .int D_parked, .int D_changes])), (aP, .inr (1, [.ref aD, .ref aP_packed, .ref aP_row, .int P_found, .int P_narrowest, .int P_knownAt])), (aP_packed, .inl (cI, 243, .inl P_packed))] H := by rw [hHe]; exact hP
  refine (fun (hgo : W p l e ({ frames := 2, cells := 0, slots := 0, locals := 45 } : Room) s m ([.ref aP] : List Value).toArray below meth c H locs 0 0 Q0 (F0 m 0 ls [])) => by rw [hHe, hLo] at hgo; exact hgo) ?_
  refine lv_iconst (v := (-1)) hx hb dX1_findNarrowest_0 (by decide) ?_
  refine lv_istore_n (lv' := [(1, .int (-1)), (0, .ref aP)]) hx hb dX1_findNarrowest_1 rfl hl (by decide) rfl (fun ls hl => ?_)
  refine lv_iconst (v := 4) hx hb dX1_findNarrowest_2 (by decide) ?_
  refine lv_istore_n (lv' := [(2, .int 4), (1, .int (-1)), (0, .ref aP)]) hx hb dX1_findNarrowest_3 rfl hl (by decide) rfl (fun ls hl => ?_)
  refine lv_iconst (v := 0) hx hb dX1_findNarrowest_4 (by decide) ?_
  refine lv_istore_n (lv' := [(3, .int 0), (2, .int 4), (1, .int (-1)), (0, .ref aP)]) hx hb dX1_findNarrowest_5 rfl hl (by decide) rfl (fun ls hl => ?_)
  obtain ⟨n4, hw⟩ := hw
  exact wZ_X1_findNarrowest_6  n4 (-1) 4 0 hw H locs ls hP hD hS (lv_sub hl [3, 2, 1, 0] rfl)
/-! X1_refresh -/
def B_X1_refresh_52 (D_kinds : Nat → Int32) (D_isBroken : Nat → Int32) (D_units : Int32) (D_lengths : Nat → Int32) (D_wanted : Nat → Int32) (D_leaving : Int32) (D_changes : Int32) (post : (Nat → Int32) → (Nat → Int32) → Int32 → Int32 → Int32 → Prop) (P_packed : Nat → Int32) (P_row : Nat → Int32) (P_found : Int32) (P_narrowest : Int32) (P_knownAt : Int32) : Prop :=
  wp_X1_findNarrowest D_units P_packed P_found (fun (r4 : Int32) => post P_packed P_row P_found r4 P_knownAt)
def wp_X1_refresh (D_kinds : Nat → Int32) (D_isBroken : Nat → Int32) (D_units : Int32) (D_lengths : Nat → Int32) (D_wanted : Nat → Int32) (D_leaving : Int32) (D_changes : Int32) (P_packed : Nat → Int32) (P_row : Nat → Int32) (P_found : Int32) (P_narrowest : Int32) (P_knownAt : Int32) (post : (Nat → Int32) → (Nat → Int32) → Int32 → Int32 → Int32 → Prop) : Prop :=
  ((¬ P_knownAt = D_changes → wp_X0_hasEnough D_kinds D_isBroken D_wanted D_leaving D_units (fun (r2 : Int32) => ((r2 = 0 → B_X1_refresh_52 D_kinds D_isBroken D_units D_lengths D_wanted D_leaving D_changes post P_packed P_row 0 P_narrowest D_changes) ∧ (¬ r2 = 0 → wp_X1_collect D_kinds D_isBroken D_units D_lengths D_wanted D_leaving P_packed P_row 0 (fun (P_packed_5 : Nat → Int32) (P_row_6 : Nat → Int32) (P_found_7 : Int32) => B_X1_refresh_52 D_kinds D_isBroken D_units D_lengths D_wanted D_leaving D_changes post P_packed_5 P_row_6 P_found_7 P_narrowest D_changes))))) ∧ (P_knownAt = D_changes → post P_packed P_row P_found P_narrowest P_knownAt))
set_option maxHeartbeats 4000000 in
set_option maxRecDepth 100000 in
theorem c_X1_refresh (l : Launch) (D : va_G) (cI cJ cZ : ClassId) (aD aD_kinds aD_washes aD_fuels aD_isBroken aD_lengths aD_wanted aD_trackOf aP aP_packed aP_row : Nat) (sz : Nat) (D_units : Int32) (D_leaving : Int32) (D_parked : Int32) (D_changes : Int32) (P_found : Int32) (P_narrowest : Int32) (P_knownAt : Int32) (D_kinds : Nat → Int32) (D_isBroken : Nat → Int32) (D_lengths : Nat → Int32) (D_wanted : Nat → Int32) (P_packed : Nat → Int32) (P_row : Nat → Int32) (post : (Nat → Int32) → (Nat → Int32) → Int32 → Int32 → Int32 → Prop) (hw : wp_X1_refresh D_kinds D_isBroken D_units D_lengths D_wanted D_leaving D_changes P_packed P_row P_found P_narrowest P_knownAt post) : Met l yX1_refresh wsX1_refresh ({ frames := 10, cells := 0, slots := 0, locals := 237 } : Room) (va_Pc [.ref aP] (zPre D cI cJ cZ [(aD, .inr (0, [.ref aD_kinds, .ref aD_washes, .ref aD_fuels, .ref aD_isBroken, .int D_units, .ref aD_lengths, .ref aD_wanted, .int D_leaving, .ref aD_trackOf, .int D_parked, .int D_changes])), (aP, .inr (1, [.ref aD, .ref aP_packed, .ref aP_row, .int P_found, .int P_narrowest, .int P_knownAt])), (aD_kinds, .inl (cI, 5, .inl D_kinds)), (aD_isBroken, .inl (cZ, 5, .inl D_isBroken)), (aD_lengths, .inl (cI, 3, .inl D_lengths)), (aD_wanted, .inl (cI, 5, .inl D_wanted)), (aP_packed, .inl (cI, 243, .inl P_packed)), (aP_row, .inl (cI, 5, .inl P_row))] sz)) (va_Qv (fun (u : (Nat → Int32) × (Nat → Int32) × (Int32) × (Int32) × (Int32)) => post u.1 u.2.1 u.2.2.1 u.2.2.2.1 u.2.2.2.2) (zPost D cI cJ cZ (va_A [(aD, .inr (0, [.ref aD_kinds, .ref aD_washes, .ref aD_fuels, .ref aD_isBroken, .int D_units, .ref aD_lengths, .ref aD_wanted, .int D_leaving, .ref aD_trackOf, .int D_parked, .int D_changes])), (aP, .inr (1, [.ref aD, .ref aP_packed, .ref aP_row, .int P_found, .int P_narrowest, .int P_knownAt])), (aD_kinds, .inl (cI, 5, .inl D_kinds)), (aD_isBroken, .inl (cZ, 5, .inl D_isBroken)), (aD_lengths, .inl (cI, 3, .inl D_lengths)), (aD_wanted, .inl (cI, 5, .inl D_wanted)), (aP_packed, .inl (cI, 243, .inl P_packed)), (aP_row, .inl (cI, 5, .inl P_row))] sz) (fun u : (Nat → Int32) × (Nat → Int32) × (Int32) × (Int32) × (Int32) => [(aD, .inr (0, [.ref aD_kinds, .ref aD_washes, .ref aD_fuels, .ref aD_isBroken, .int D_units, .ref aD_lengths, .ref aD_wanted, .int D_leaving, .ref aD_trackOf, .int D_parked, .int D_changes])), (aP, .inr (1, [.ref aD, .ref aP_packed, .ref aP_row, .int u.2.2.1, .int u.2.2.2.1, .int u.2.2.2.2])), (aD_kinds, .inl (cI, 5, .inl D_kinds)), (aD_isBroken, .inl (cZ, 5, .inl D_isBroken)), (aD_lengths, .inl (cI, 3, .inl D_lengths)), (aD_wanted, .inl (cI, 5, .inl D_wanted)), (aP_packed, .inl (cI, 243, .inl u.1)), (aP_row, .inl (cI, 5, .inl u.2.1))])) (va_A [(aD, .inr (0, [.ref aD_kinds, .ref aD_washes, .ref aD_fuels, .ref aD_isBroken, .int D_units, .ref aD_lengths, .ref aD_wanted, .int D_leaving, .ref aD_trackOf, .int D_parked, .int D_changes])), (aP, .inr (1, [.ref aD, .ref aP_packed, .ref aP_row, .int P_found, .int P_narrowest, .int P_knownAt])), (aD_kinds, .inl (cI, 5, .inl D_kinds)), (aD_isBroken, .inl (cZ, 5, .inl D_isBroken)), (aD_lengths, .inl (cI, 3, .inl D_lengths)), (aD_wanted, .inl (cI, 5, .inl D_wanted)), (aP_packed, .inl (cI, 243, .inl P_packed)), (aP_row, .inl (cI, 5, .inl P_row))] sz)) 0 0 (va_A [(aD, .inr (0, [.ref aD_kinds, .ref aD_washes, .ref aD_fuels, .ref aD_isBroken, .int D_units, .ref aD_lengths, .ref aD_wanted, .int D_leaving, .ref aD_trackOf, .int D_parked, .int D_changes])), (aP, .inr (1, [.ref aD, .ref aP_packed, .ref aP_row, .int P_found, .int P_narrowest, .int P_knownAt])), (aD_kinds, .inl (cI, 5, .inl D_kinds)), (aD_isBroken, .inl (cZ, 5, .inl D_isBroken)), (aD_lengths, .inl (cI, 3, .inl D_lengths)), (aD_wanted, .inl (cI, 5, .inl D_wanted)), (aP_packed, .inl (cI, 243, .inl P_packed)), (aP_row, .inl (cI, 5, .inl P_row))] sz) := by
  unfold wp_X1_refresh at hw
  refine Met.ofW (cc := cX1_refresh) (maxL := 1) (ret := none) (by decide) rfl ?_
  intro p e s m args below meth c s₁ B hml hv
  obtain ⟨rfl, hsz, hP, hK, hD0⟩ := hv
  have hx := B.exec
  have hb := B.bytes
  have hr := B.returns
  have hts := atoms_spec (ws := wsX1_refresh) B.pre
  have hown : s.vm.findClass RX1 = some m.cls := findClass_of_methodNamed B.named
  have hlocks := B.notSynchronized
  subst hsz
  have hD := hD0.self (sz := s.heap.size)
  generalize hAe : va_A [(aD, .inr (0, [.ref aD_kinds, .ref aD_washes, .ref aD_fuels, .ref aD_isBroken, .int D_units, .ref aD_lengths, .ref aD_wanted, .int D_leaving, .ref aD_trackOf, .int D_parked, .int D_changes])), (aP, .inr (1, [.ref aD, .ref aP_packed, .ref aP_row, .int P_found, .int P_narrowest, .int P_knownAt])), (aD_kinds, .inl (cI, 5, .inl D_kinds)), (aD_isBroken, .inl (cZ, 5, .inl D_isBroken)), (aD_lengths, .inl (cI, 3, .inl D_lengths)), (aD_wanted, .inl (cI, 5, .inl D_wanted)), (aP_packed, .inl (cI, 243, .inl P_packed)), (aP_row, .inl (cI, 5, .inl P_row))] s.heap.size = A at hD ⊢
  have hA : ∀ q : Nat, s.heap.size ≤ q → A q := fun q h => by rw [← hAe]; exact Or.inr h
  have hS : va_S A s.heap s.heap [] := va_S.rf
  refine (fun (hall : ∀ Q0 : State → Prop, (∀ (v0 : Nat → Int32) (v1 : Nat → Int32) (v2 : Int32) (v3 : Int32) (v4 : Int32) (H : Heap) (locs : List Loc) (pc : Nat) (ls : Array Slot), post v0 v1 v2 v3 v4 → decode cX1_refresh pc = .ok (.return_, 1) → va_P D vwCl [(aD, .inr (0, [.ref aD_kinds, .ref aD_washes, .ref aD_fuels, .ref aD_isBroken, .int D_units, .ref aD_lengths, .ref aD_wanted, .int D_leaving, .ref aD_trackOf, .int D_parked, .int D_changes])), (aP, .inr (1, [.ref aD, .ref aP_packed, .ref aP_row, .int v2, .int v3, .int v4])), (aD_kinds, .inl (cI, 5, .inl D_kinds)), (aD_isBroken, .inl (cZ, 5, .inl D_isBroken)), (aD_lengths, .inl (cI, 3, .inl D_lengths)), (aD_wanted, .inl (cI, 5, .inl D_wanted)), (aP_packed, .inl (cI, 243, .inl v0)), (aP_row, .inl (cI, 5, .inl v1))] H → va_D A [(aD, .inr (0, [.ref aD_kinds, .ref aD_washes, .ref aD_fuels, .ref aD_isBroken, .int D_units, .ref aD_lengths, .ref aD_wanted, .int D_leaving, .ref aD_trackOf, .int D_parked, .int D_changes])), (aP, .inr (1, [.ref aD, .ref aP_packed, .ref aP_row, .int v2, .int v3, .int v4])), (aD_kinds, .inl (cI, 5, .inl D_kinds)), (aD_isBroken, .inl (cZ, 5, .inl D_isBroken)), (aD_lengths, .inl (cI, 3, .inl D_lengths)), (aD_wanted, .inl (cI, 5, .inl D_wanted)), (aP_packed, .inl (cI, 243, .inl v0)), (aP_row, .inl (cI, 5, .inl v1))] → va_S A s.heap H locs → W p l e ({ frames := 10, cells := 0, slots := 0, locals := 237 } : Room) s m ([.ref aP] : List Value).toArray below meth c H locs 0 0 Q0 (F0 m pc ls [])) → W p l e ({ frames := 10, cells := 0, slots := 0, locals := 237 } : Room) s m ([.ref aP] : List Value).toArray below meth c s.heap [] 0 0 Q0 (entryFrame m ([.ref aP] : List Value).toArray 1)) => hall _ (fun v0 v1 v2 v3 v4 H locs pc ls hw hd hP hD hS => W.vret hx hb hr (fun t ht hW => ⟨⟨(v0, v1, v2, v3, v4), rfl, hw, by rw [ht]; exact hP, va_K.moved hW.alike hK, hD⟩, hS.F ht⟩) hS.2.2 hd)) ?_
  intro Q0 hret
  have hl := lv_entry ([.ref aP]) (n := 1) (Nat.le_of_ble_eq_true rfl)
  rw [lg_entry_eq]
  generalize (lg_sl ([.ref aP]) ++ List.replicate (1 - (lg_sl ([.ref aP])).length) Slot.unset).toArray = ls at hl ⊢
  have hl : lv_has ls 1 [(0, .ref aP)] := hl
  have hinX0 : ∀ w ∈ u_ws RX0 TX0 11, w ∈ wsX1_refresh := by decide +kernel
  have hinX1 : ∀ w ∈ u_ws RX1 TX1 6, w ∈ wsX1_refresh := by decide +kernel
  have hf18 := hts (.fieldLink RX1 18 "DepotNight$Parkings" "found" "I") (by decide +kernel)
  have hf22 := hts (.fieldLink RX1 22 "DepotNight$Parkings" "narrowest" "I") (by decide +kernel)
  have hf25 := hts (.fieldLink RX1 25 "DepotNight$Parkings" "knownAt" "I") (by decide +kernel)
  have hf28 := hts (.fieldLink RX1 28 "DepotNight$Parkings" "depot" "LDepotNight$Depot;") (by decide +kernel)
  have hf32 := hts (.fieldLink RX1 32 "DepotNight$Depot" "changes" "I") (by decide +kernel)
  have hf37 := hts (.fieldLink RX1 37 "DepotNight$Depot" "units" "I") (by decide +kernel)
  have wB_X1_refresh_52 : ∀ (P_packed : Nat → Int32) (P_row : Nat → Int32) (P_found : Int32) (P_narrowest : Int32) (P_knownAt : Int32), B_X1_refresh_52 D_kinds D_isBroken D_units D_lengths D_wanted D_leaving D_changes post P_packed P_row P_found P_narrowest P_knownAt → ∀ (H : Heap) (locs : List Loc) (ls : Array Slot), va_P D vwCl [(aD, .inr (0, [.ref aD_kinds, .ref aD_washes, .ref aD_fuels, .ref aD_isBroken, .int D_units, .ref aD_lengths, .ref aD_wanted, .int D_leaving, .ref aD_trackOf, .int D_parked, .int D_changes])), (aP, .inr (1, [.ref aD, .ref aP_packed, .ref aP_row, .int P_found, .int P_narrowest, .int P_knownAt])), (aD_kinds, .inl (cI, 5, .inl D_kinds)), (aD_isBroken, .inl (cZ, 5, .inl D_isBroken)), (aD_lengths, .inl (cI, 3, .inl D_lengths)), (aD_wanted, .inl (cI, 5, .inl D_wanted)), (aP_packed, .inl (cI, 243, .inl P_packed)), (aP_row, .inl (cI, 5, .inl P_row))] H → va_D A [(aD, .inr (0, [.ref aD_kinds, .ref aD_washes, .ref aD_fuels, .ref aD_isBroken, .int D_units, .ref aD_lengths, .ref aD_wanted, .int D_leaving, .ref aD_trackOf, .int D_parked, .int D_changes])), (aP, .inr (1, [.ref aD, .ref aP_packed, .ref aP_row, .int P_found, .int P_narrowest, .int P_knownAt])), (aD_kinds, .inl (cI, 5, .inl D_kinds)), (aD_isBroken, .inl (cZ, 5, .inl D_isBroken)), (aD_lengths, .inl (cI, 3, .inl D_lengths)), (aD_wanted, .inl (cI, 5, .inl D_wanted)), (aP_packed, .inl (cI, 243, .inl P_packed)), (aP_row, .inl (cI, 5, .inl P_row))] → va_S A s.heap H locs → lv_has ls 1 [(0, .ref aP)] → W p l e ({ frames := 10, cells := 0, slots := 0, locals := 237 } : Room) s m ([.ref aP] : List Value).toArray below meth c H locs 0 0 Q0 (F0 m 52 ls []) := by
    intro P_packed P_row P_found P_narrowest P_knownAt hw H locs ls hP hD hS hl
    unfold B_X1_refresh_52 at hw
    refine lv_aload_n hx hb dX1_refresh_52 rfl (lv_at hl 0 rfl) ?_
    refine lv_aload_n hx hb dX1_refresh_53 rfl (lv_at hl 0 rfl) ?_
    refine zVi (As := []) (rest := [.ref aP]) (wc := [(aD, .inr (0, [.ref aD_kinds, .ref aD_washes, .ref aD_fuels, .ref aD_isBroken, .int D_units, .ref aD_lengths, .ref aD_wanted, .int D_leaving, .ref aD_trackOf, .int D_parked, .int D_changes])), (aP, .inr (1, [.ref aD, .ref aP_packed, .ref aP_row, .int P_found, .int P_narrowest, .int P_knownAt])), (aP_packed, .inl (cI, 243, .inl P_packed))]) (wr := [(aD_kinds, .inl (cI, 5, .inl D_kinds)), (aD_isBroken, .inl (cZ, 5, .inl D_isBroken)), (aD_lengths, .inl (cI, 3, .inl D_lengths)), (aD_wanted, .inl (cI, 5, .inl D_wanted)), (aP_row, .inl (cI, 5, .inl P_row))]) ⟨hx, hb, hml, hown, hts⟩ hK hP hD hS hA [0, 1, 6] [2, 3, 4, 5, 7] rfl rfl (by decide) (by decide) (by decide) (c_X1_findNarrowest l D cI cJ cZ aD aD_kinds aD_washes aD_fuels aD_isBroken aD_lengths aD_wanted aD_trackOf aP aP_packed aP_row H.size D_units D_leaving D_parked D_changes P_found P_narrowest P_knownAt P_packed _ hw) (cwV 0 hts gX1_refresh_X1_findNarrowest rfl rfl rfl (by decide +kernel) ⟨Nat.le_of_ble_eq_true rfl, Nat.le_of_ble_eq_true rfl⟩) 1 1 rfl rfl rfl rfl hl.1 (Nat.le_of_ble_eq_true rfl) dX1_refresh_54 ⟨(Nat.le_of_ble_eq_true rfl), (Nat.le_of_ble_eq_true rfl)⟩ rfl (fun r4 u H locs hw hP hD hS => ?_)
    try dsimp only at hw
    have hP : va_P D vwCl [(aD, .inr (0, [.ref aD_kinds, .ref aD_washes, .ref aD_fuels, .ref aD_isBroken, .int D_units, .ref aD_lengths, .ref aD_wanted, .int D_leaving, .ref aD_trackOf, .int D_parked, .int D_changes])), (aP, .inr (1, [.ref aD, .ref aP_packed, .ref aP_row, .int P_found, .int P_narrowest, .int P_knownAt])), (aD_kinds, .inl (cI, 5, .inl D_kinds)), (aD_isBroken, .inl (cZ, 5, .inl D_isBroken)), (aD_lengths, .inl (cI, 3, .inl D_lengths)), (aD_wanted, .inl (cI, 5, .inl D_wanted)), (aP_packed, .inl (cI, 243, .inl P_packed)), (aP_row, .inl (cI, 5, .inl P_row))] H := hP.sub [5, 6, 0, 1, 2, 3, 7, 4] rfl
    have hD : va_D A [(aD, .inr (0, [.ref aD_kinds, .ref aD_washes, .ref aD_fuels, .ref aD_isBroken, .int D_units, .ref aD_lengths, .ref aD_wanted, .int D_leaving, .ref aD_trackOf, .int D_parked, .int D_changes])), (aP, .inr (1, [.ref aD, .ref aP_packed, .ref aP_row, .int P_found, .int P_narrowest, .int P_knownAt])), (aD_kinds, .inl (cI, 5, .inl D_kinds)), (aD_isBroken, .inl (cZ, 5, .inl D_isBroken)), (aD_lengths, .inl (cI, 3, .inl D_lengths)), (aD_wanted, .inl (cI, 5, .inl D_wanted)), (aP_packed, .inl (cI, 243, .inl P_packed)), (aP_row, .inl (cI, 5, .inl P_row))] := hD.sub [5, 6, 0, 1, 2, 3, 7, 4] (by decide) rfl
    refine va_put (D := D) (ci := 1) (v := .int r4) (ty := .int) (C := RX1) (T := TX1) (N := 6) hx hb hts hinX1 tyX1 tyX1_ok nmX1 hown hK hP hD hS 1 rfl rfl 4 (by decide) hf22 (fun _ h9 => h9) rfl (by decide +kernel) rfl rfl (Nat.le_of_ble_eq_true rfl) dX1_refresh_57 (fun H locs hP hD hS => ?_)
    have hP : va_P D vwCl [(aD, .inr (0, [.ref aD_kinds, .ref aD_washes, .ref aD_fuels, .ref aD_isBroken, .int D_units, .ref aD_lengths, .ref aD_wanted, .int D_leaving, .ref aD_trackOf, .int D_parked, .int D_changes])), (aP, .inr (1, [.ref aD, .ref aP_packed, .ref aP_row, .int P_found, .int r4, .int P_knownAt])), (aD_kinds, .inl (cI, 5, .inl D_kinds)), (aD_isBroken, .inl (cZ, 5, .inl D_isBroken)), (aD_lengths, .inl (cI, 3, .inl D_lengths)), (aD_wanted, .inl (cI, 5, .inl D_wanted)), (aP_packed, .inl (cI, 243, .inl P_packed)), (aP_row, .inl (cI, 5, .inl P_row))] H := hP
    have hD : va_D A [(aD, .inr (0, [.ref aD_kinds, .ref aD_washes, .ref aD_fuels, .ref aD_isBroken, .int D_units, .ref aD_lengths, .ref aD_wanted, .int D_leaving, .ref aD_trackOf, .int D_parked, .int D_changes])), (aP, .inr (1, [.ref aD, .ref aP_packed, .ref aP_row, .int P_found, .int r4, .int P_knownAt])), (aD_kinds, .inl (cI, 5, .inl D_kinds)), (aD_isBroken, .inl (cZ, 5, .inl D_isBroken)), (aD_lengths, .inl (cI, 3, .inl D_lengths)), (aD_wanted, .inl (cI, 5, .inl D_wanted)), (aP_packed, .inl (cI, 243, .inl P_packed)), (aP_row, .inl (cI, 5, .inl P_row))] := hD
    exact hret P_packed P_row P_found r4 P_knownAt H locs 60 ls hw dX1_refresh_60 hP hD hS
  obtain ⟨H, hHe⟩ : ∃ H, H = s.heap := ⟨_, rfl⟩
  obtain ⟨locs, hLo⟩ : ∃ locs : List Loc, locs = [] := ⟨_, rfl⟩
  have hS : va_S A s.heap H locs := by rw [hHe, hLo]; exact hS
  have hP : va_P D vwCl [(aD, .inr (0, [.ref aD_kinds, .ref aD_washes, .ref aD_fuels, .ref aD_isBroken, .int D_units, .ref aD_lengths, .ref aD_wanted, .int D_leaving, .ref aD_trackOf, .int D_parked, .int D_changes])), (aP, .inr (1, [.ref aD, .ref aP_packed, .ref aP_row, .int P_found, .int P_narrowest, .int P_knownAt])), (aD_kinds, .inl (cI, 5, .inl D_kinds)), (aD_isBroken, .inl (cZ, 5, .inl D_isBroken)), (aD_lengths, .inl (cI, 3, .inl D_lengths)), (aD_wanted, .inl (cI, 5, .inl D_wanted)), (aP_packed, .inl (cI, 243, .inl P_packed)), (aP_row, .inl (cI, 5, .inl P_row))] H := by rw [hHe]; exact hP
  refine (fun (hgo : W p l e ({ frames := 10, cells := 0, slots := 0, locals := 237 } : Room) s m ([.ref aP] : List Value).toArray below meth c H locs 0 0 Q0 (F0 m 0 ls [])) => by rw [hHe, hLo] at hgo; exact hgo) ?_
  refine lv_aload_n hx hb dX1_refresh_0 rfl (lv_at hl 0 rfl) ?_
  refine va_get (D := D) (ci := 1) (v := .int P_knownAt) (C := RX1) (T := TX1) (N := 6) hx hb hts hinX1 hown hK hP 1 rfl rfl 5 (by decide) hf25 (fun _ h9 => h9) rfl dX1_refresh_1 ?_
  refine lv_aload_n hx hb dX1_refresh_4 rfl (lv_at hl 0 rfl) ?_
  refine va_get (D := D) (ci := 1) (v := .ref aD) (C := RX1) (T := TX1) (N := 6) hx hb hts hinX1 hown hK hP 1 rfl rfl 0 (by decide) hf28 (fun _ h9 => h9) rfl dX1_refresh_5 ?_
  refine va_get (D := D) (ci := 0) (v := .int D_changes) (C := RX0) (T := TX0) (N := 11) hx hb hts hinX0 hown hK hP 0 rfl rfl 10 (by decide) hf32 (fun _ h9 => h9) rfl dX1_refresh_8 ?_
  refine lv_icmp_ne (tgt := 15) hx hb dX1_refresh_11 (by decide) (fun hc1 => ?_) (fun hc1 => ?_)
  · have hw := hw.1 hc1
    refine lv_aload_n hx hb dX1_refresh_15 rfl (lv_at hl 0 rfl) ?_
    refine lv_aload_n hx hb dX1_refresh_16 rfl (lv_at hl 0 rfl) ?_
    refine va_get (D := D) (ci := 1) (v := .ref aD) (C := RX1) (T := TX1) (N := 6) hx hb hts hinX1 hown hK hP 1 rfl rfl 0 (by decide) hf28 (fun _ h9 => h9) rfl dX1_refresh_17 ?_
    refine va_get (D := D) (ci := 0) (v := .int D_changes) (C := RX0) (T := TX0) (N := 11) hx hb hts hinX0 hown hK hP 0 rfl rfl 10 (by decide) hf32 (fun _ h9 => h9) rfl dX1_refresh_20 ?_
    refine va_put (D := D) (ci := 1) (v := .int D_changes) (ty := .int) (C := RX1) (T := TX1) (N := 6) hx hb hts hinX1 tyX1 tyX1_ok nmX1 hown hK hP hD hS 1 rfl rfl 5 (by decide) hf25 (fun _ h9 => h9) rfl (by decide +kernel) rfl rfl (Nat.le_of_ble_eq_true rfl) dX1_refresh_23 (fun H locs hP hD hS => ?_)
    have hP : va_P D vwCl [(aD, .inr (0, [.ref aD_kinds, .ref aD_washes, .ref aD_fuels, .ref aD_isBroken, .int D_units, .ref aD_lengths, .ref aD_wanted, .int D_leaving, .ref aD_trackOf, .int D_parked, .int D_changes])), (aP, .inr (1, [.ref aD, .ref aP_packed, .ref aP_row, .int P_found, .int P_narrowest, .int D_changes])), (aD_kinds, .inl (cI, 5, .inl D_kinds)), (aD_isBroken, .inl (cZ, 5, .inl D_isBroken)), (aD_lengths, .inl (cI, 3, .inl D_lengths)), (aD_wanted, .inl (cI, 5, .inl D_wanted)), (aP_packed, .inl (cI, 243, .inl P_packed)), (aP_row, .inl (cI, 5, .inl P_row))] H := hP
    have hD : va_D A [(aD, .inr (0, [.ref aD_kinds, .ref aD_washes, .ref aD_fuels, .ref aD_isBroken, .int D_units, .ref aD_lengths, .ref aD_wanted, .int D_leaving, .ref aD_trackOf, .int D_parked, .int D_changes])), (aP, .inr (1, [.ref aD, .ref aP_packed, .ref aP_row, .int P_found, .int P_narrowest, .int D_changes])), (aD_kinds, .inl (cI, 5, .inl D_kinds)), (aD_isBroken, .inl (cZ, 5, .inl D_isBroken)), (aD_lengths, .inl (cI, 3, .inl D_lengths)), (aD_wanted, .inl (cI, 5, .inl D_wanted)), (aP_packed, .inl (cI, 243, .inl P_packed)), (aP_row, .inl (cI, 5, .inl P_row))] := hD
    refine lv_aload_n hx hb dX1_refresh_26 rfl (lv_at hl 0 rfl) ?_
    refine lv_iconst (v := 0) hx hb dX1_refresh_27 (by decide) ?_
    refine va_put (D := D) (ci := 1) (v := .int 0) (ty := .int) (C := RX1) (T := TX1) (N := 6) hx hb hts hinX1 tyX1 tyX1_ok nmX1 hown hK hP hD hS 1 rfl rfl 3 (by decide) hf18 (fun _ h9 => h9) rfl (by decide +kernel) rfl rfl (Nat.le_of_ble_eq_true rfl) dX1_refresh_28 (fun H locs hP hD hS => ?_)
    have hP : va_P D vwCl [(aD, .inr (0, [.ref aD_kinds, .ref aD_washes, .ref aD_fuels, .ref aD_isBroken, .int D_units, .ref aD_lengths, .ref aD_wanted, .int D_leaving, .ref aD_trackOf, .int D_parked, .int D_changes])), (aP, .inr (1, [.ref aD, .ref aP_packed, .ref aP_row, .int 0, .int P_narrowest, .int D_changes])), (aD_kinds, .inl (cI, 5, .inl D_kinds)), (aD_isBroken, .inl (cZ, 5, .inl D_isBroken)), (aD_lengths, .inl (cI, 3, .inl D_lengths)), (aD_wanted, .inl (cI, 5, .inl D_wanted)), (aP_packed, .inl (cI, 243, .inl P_packed)), (aP_row, .inl (cI, 5, .inl P_row))] H := hP
    have hD : va_D A [(aD, .inr (0, [.ref aD_kinds, .ref aD_washes, .ref aD_fuels, .ref aD_isBroken, .int D_units, .ref aD_lengths, .ref aD_wanted, .int D_leaving, .ref aD_trackOf, .int D_parked, .int D_changes])), (aP, .inr (1, [.ref aD, .ref aP_packed, .ref aP_row, .int 0, .int P_narrowest, .int D_changes])), (aD_kinds, .inl (cI, 5, .inl D_kinds)), (aD_isBroken, .inl (cZ, 5, .inl D_isBroken)), (aD_lengths, .inl (cI, 3, .inl D_lengths)), (aD_wanted, .inl (cI, 5, .inl D_wanted)), (aP_packed, .inl (cI, 243, .inl P_packed)), (aP_row, .inl (cI, 5, .inl P_row))] := hD
    refine lv_aload_n hx hb dX1_refresh_31 rfl (lv_at hl 0 rfl) ?_
    refine va_get (D := D) (ci := 1) (v := .ref aD) (C := RX1) (T := TX1) (N := 6) hx hb hts hinX1 hown hK hP 1 rfl rfl 0 (by decide) hf28 (fun _ h9 => h9) rfl dX1_refresh_32 ?_
    refine lv_aload_n hx hb dX1_refresh_35 rfl (lv_at hl 0 rfl) ?_
    refine va_get (D := D) (ci := 1) (v := .ref aD) (C := RX1) (T := TX1) (N := 6) hx hb hts hinX1 hown hK hP 1 rfl rfl 0 (by decide) hf28 (fun _ h9 => h9) rfl dX1_refresh_36 ?_
    refine va_get (D := D) (ci := 0) (v := .int D_units) (C := RX0) (T := TX0) (N := 11) hx hb hts hinX0 hown hK hP 0 rfl rfl 4 (by decide) hf37 (fun _ h9 => h9) rfl dX1_refresh_39 ?_
    refine zVi (As := [.int D_units]) (rest := []) (wc := [(aD, .inr (0, [.ref aD_kinds, .ref aD_washes, .ref aD_fuels, .ref aD_isBroken, .int D_units, .ref aD_lengths, .ref aD_wanted, .int D_leaving, .ref aD_trackOf, .int D_parked, .int D_changes])), (aD_kinds, .inl (cI, 5, .inl D_kinds)), (aD_isBroken, .inl (cZ, 5, .inl D_isBroken)), (aD_wanted, .inl (cI, 5, .inl D_wanted))]) (wr := [(aP, .inr (1, [.ref aD, .ref aP_packed, .ref aP_row, .int 0, .int P_narrowest, .int D_changes])), (aD_lengths, .inl (cI, 3, .inl D_lengths)), (aP_packed, .inl (cI, 243, .inl P_packed)), (aP_row, .inl (cI, 5, .inl P_row))]) ⟨hx, hb, hml, hown, hts⟩ hK hP hD hS hA [0, 2, 3, 5] [1, 4, 6, 7] rfl rfl (by decide) (by decide) (by decide) (c_X0_hasEnough l D cI cJ cZ aD aD_kinds aD_washes aD_fuels aD_isBroken aD_lengths aD_wanted aD_trackOf H.size D_units D_leaving D_parked D_changes D_kinds D_isBroken D_wanted D_units _ hw) (cwV 1 hts gX1_refresh_X0_hasEnough rfl rfl rfl (by decide +kernel) ⟨Nat.le_of_ble_eq_true rfl, Nat.le_of_ble_eq_true rfl⟩) 0 0 rfl rfl rfl rfl hl.1 (Nat.le_of_ble_eq_true rfl) dX1_refresh_42 ⟨(Nat.le_of_ble_eq_true rfl), (Nat.le_of_ble_eq_true rfl)⟩ rfl (fun r2 u H locs hw hP hD hS => ?_)
    try dsimp only at hw
    have hP : va_P D vwCl [(aD, .inr (0, [.ref aD_kinds, .ref aD_washes, .ref aD_fuels, .ref aD_isBroken, .int D_units, .ref aD_lengths, .ref aD_wanted, .int D_leaving, .ref aD_trackOf, .int D_parked, .int D_changes])), (aP, .inr (1, [.ref aD, .ref aP_packed, .ref aP_row, .int 0, .int P_narrowest, .int D_changes])), (aD_kinds, .inl (cI, 5, .inl D_kinds)), (aD_isBroken, .inl (cZ, 5, .inl D_isBroken)), (aD_lengths, .inl (cI, 3, .inl D_lengths)), (aD_wanted, .inl (cI, 5, .inl D_wanted)), (aP_packed, .inl (cI, 243, .inl P_packed)), (aP_row, .inl (cI, 5, .inl P_row))] H := hP.sub [4, 0, 5, 6, 1, 7, 2, 3] rfl
    have hD : va_D A [(aD, .inr (0, [.ref aD_kinds, .ref aD_washes, .ref aD_fuels, .ref aD_isBroken, .int D_units, .ref aD_lengths, .ref aD_wanted, .int D_leaving, .ref aD_trackOf, .int D_parked, .int D_changes])), (aP, .inr (1, [.ref aD, .ref aP_packed, .ref aP_row, .int 0, .int P_narrowest, .int D_changes])), (aD_kinds, .inl (cI, 5, .inl D_kinds)), (aD_isBroken, .inl (cZ, 5, .inl D_isBroken)), (aD_lengths, .inl (cI, 3, .inl D_lengths)), (aD_wanted, .inl (cI, 5, .inl D_wanted)), (aP_packed, .inl (cI, 243, .inl P_packed)), (aP_row, .inl (cI, 5, .inl P_row))] := hD.sub [4, 0, 5, 6, 1, 7, 2, 3] (by decide) rfl
    refine lv_if_eq (tgt := 52) hx hb dX1_refresh_45 (by decide) (fun hc3 => ?_) (fun hc3 => ?_)
    · have hw := hw.1 hc3
      exact wB_X1_refresh_52 P_packed P_row 0 P_narrowest D_changes hw H locs ls hP hD hS (lv_sub hl [0] rfl)
    · have hw := hw.2 hc3
      refine lv_aload_n hx hb dX1_refresh_48 rfl (lv_at hl 0 rfl) ?_
      refine zVv (As := []) (rest := []) (wc := [(aD, .inr (0, [.ref aD_kinds, .ref aD_washes, .ref aD_fuels, .ref aD_isBroken, .int D_units, .ref aD_lengths, .ref aD_wanted, .int D_leaving, .ref aD_trackOf, .int D_parked, .int D_changes])), (aP, .inr (1, [.ref aD, .ref aP_packed, .ref aP_row, .int 0, .int P_narrowest, .int D_changes])), (aD_kinds, .inl (cI, 5, .inl D_kinds)), (aD_isBroken, .inl (cZ, 5, .inl D_isBroken)), (aD_lengths, .inl (cI, 3, .inl D_lengths)), (aD_wanted, .inl (cI, 5, .inl D_wanted)), (aP_packed, .inl (cI, 243, .inl P_packed)), (aP_row, .inl (cI, 5, .inl P_row))]) (wr := []) ⟨hx, hb, hml, hown, hts⟩ hK hP hD hS hA [0, 1, 2, 3, 4, 5, 6, 7] [] rfl rfl (by decide) (by decide) (by decide) (c_X1_collect l D cI cJ cZ aD aD_kinds aD_washes aD_fuels aD_isBroken aD_lengths aD_wanted aD_trackOf aP aP_packed aP_row H.size D_units D_leaving D_parked D_changes 0 P_narrowest D_changes D_kinds D_isBroken D_lengths D_wanted P_packed P_row _ hw) (cwV 0 hts gX1_refresh_X1_collect rfl rfl rfl (by decide +kernel) ⟨Nat.le_of_ble_eq_true rfl, Nat.le_of_ble_eq_true rfl⟩) 1 1 rfl rfl rfl rfl hl.1 (Nat.le_of_ble_eq_true rfl) dX1_refresh_49 ⟨(Nat.le_of_ble_eq_true rfl), (Nat.le_of_ble_eq_true rfl)⟩ rfl (fun u H locs hw hP hD hS => ?_)
      obtain ⟨P_packed_5, P_row_6, P_found_7⟩ := u
      try dsimp only at hw
      have hP : va_P D vwCl [(aD, .inr (0, [.ref aD_kinds, .ref aD_washes, .ref aD_fuels, .ref aD_isBroken, .int D_units, .ref aD_lengths, .ref aD_wanted, .int D_leaving, .ref aD_trackOf, .int D_parked, .int D_changes])), (aP, .inr (1, [.ref aD, .ref aP_packed, .ref aP_row, .int P_found_7, .int P_narrowest, .int D_changes])), (aD_kinds, .inl (cI, 5, .inl D_kinds)), (aD_isBroken, .inl (cZ, 5, .inl D_isBroken)), (aD_lengths, .inl (cI, 3, .inl D_lengths)), (aD_wanted, .inl (cI, 5, .inl D_wanted)), (aP_packed, .inl (cI, 243, .inl P_packed_5)), (aP_row, .inl (cI, 5, .inl P_row_6))] H := hP.sub [0, 1, 2, 3, 4, 5, 6, 7] rfl
      have hD : va_D A [(aD, .inr (0, [.ref aD_kinds, .ref aD_washes, .ref aD_fuels, .ref aD_isBroken, .int D_units, .ref aD_lengths, .ref aD_wanted, .int D_leaving, .ref aD_trackOf, .int D_parked, .int D_changes])), (aP, .inr (1, [.ref aD, .ref aP_packed, .ref aP_row, .int P_found_7, .int P_narrowest, .int D_changes])), (aD_kinds, .inl (cI, 5, .inl D_kinds)), (aD_isBroken, .inl (cZ, 5, .inl D_isBroken)), (aD_lengths, .inl (cI, 3, .inl D_lengths)), (aD_wanted, .inl (cI, 5, .inl D_wanted)), (aP_packed, .inl (cI, 243, .inl P_packed_5)), (aP_row, .inl (cI, 5, .inl P_row_6))] := hD.sub [0, 1, 2, 3, 4, 5, 6, 7] (by decide) rfl
      exact wB_X1_refresh_52 P_packed_5 P_row_6 P_found_7 P_narrowest D_changes hw H locs ls hP hD hS (lv_sub hl [0] rfl)
  · have hw := hw.2 hc1
    exact hret P_packed P_row P_found P_narrowest P_knownAt H locs 14 ls hw dX1_refresh_14 hP hD hS
