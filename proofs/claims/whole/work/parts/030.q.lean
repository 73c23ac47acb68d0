/-! X2_markOfKind -/
def wp_X2_markOfKind (x0 : Int32) (post : Int32 → Prop) : Prop :=
  post (x0 + 1) 
set_option maxHeartbeats 4000000 in
set_option maxRecDepth 100000 in
theorem c_X2_markOfKind (l : Launch) (D : va_G) (cI cJ cZ : ClassId) (sz : Nat) (x0 : Int32) (post : Int32 → Prop) (hw : wp_X2_markOfKind x0 post) : Met l yX2_markOfKind wsX2_markOfKind ({ frames := 0, cells := 0, slots := 0, locals := 0 } : Room) (va_Pc [.int x0] (zPre D cI cJ cZ [] sz)) (va_Qi (fun (r : Int32) (u : Unit) => post r) (zPost D cI cJ cZ (va_A [] sz) (fun u : Unit => [])) (va_A [] sz)) 0 0 (va_A [] sz) := by
  unfold wp_X2_markOfKind at hw
  refine Met.ofW (cc := cX2_markOfKind) (maxL := 1) (ret := some .int) (by decide) rfl ?_
  intro p e s m args below meth c s₁ B hml hv
  obtain ⟨rfl, hsz, hP, hK, hD0⟩ := hv
  have hx := B.exec
  have hb := B.bytes
  have hr := B.returns
  have hts := atoms_spec (ws := wsX2_markOfKind) B.pre
  have hown : s.vm.findClass RX2 = some m.cls := findClass_of_methodNamed B.named
  have hlocks := B.notSynchronized
  subst hsz
  have hD := hD0.self (sz := s.heap.size)
  generalize hAe : va_A [] s.heap.size = A at hD ⊢
  have hA : ∀ q : Nat, s.heap.size ≤ q → A q := fun q h => by rw [← hAe]; exact Or.inr h
  have hS : va_S A s.heap s.heap [] := va_S.rf
  refine (fun (hall : ∀ Q0 : State → Prop, (∀ (r : Int32)  (H : Heap) (locs : List Loc) (pc : Nat) (ls : Array Slot), post r → decode cX2_markOfKind pc = .ok (.ireturn, 1) → va_P D vwCl [] H → va_D A [] → va_S A s.heap H locs → W p l e ({ frames := 0, cells := 0, slots := 0, locals := 0 } : Room) s m ([.int x0] : List Value).toArray below meth c H locs 0 0 Q0 (F0 m pc ls [.int r])) → W p l e ({ frames := 0, cells := 0, slots := 0, locals := 0 } : Room) s m ([.int x0] : List Value).toArray below meth c s.heap [] 0 0 Q0 (entryFrame m ([.int x0] : List Value).toArray 1)) => hall _ (fun r  H locs pc ls hw hd hP hD hS => W.iret (v := r) hx hb hr (fun t ht hW => ⟨⟨r, (), rfl, hw, by rw [ht]; exact hP, va_K.moved hW.alike hK, hD⟩, hS.F ht⟩) hS.2.2 hd)) ?_
  intro Q0 hret
  have hl := lv_entry ([.int x0]) (n := 1) (Nat.le_of_ble_eq_true rfl)
  rw [lg_entry_eq]
  generalize (lg_sl ([.int x0]) ++ List.replicate (1 - (lg_sl ([.int x0])).length) Slot.unset).toArray = ls at hl ⊢
  have hl : lv_has ls 1 [(0, .int x0)] := hl
  obtain ⟨H, hHe⟩ : ∃ H, H = s.heap := ⟨_, rfl⟩
  obtain ⟨locs, hLo⟩ : ∃ locs : List Loc, locs = [] := ⟨_, rfl⟩
  have hS : va_S A s.heap H locs := by rw [hHe, hLo]; exact hS
  have hP : va_P D vwCl [] H := by rw [hHe]; exact hP
  refine (fun (hgo : W p l e ({ frames := 0, cells := 0, slots := 0, locals := 0 } : Room) s m ([.int x0] : List Value).toArray below meth c H locs 0 0 Q0 (F0 m 0 ls [])) => by rw [hHe, hLo] at hgo; exact hgo) ?_
  refine lv_iload_n hx hb dX2_markOfKind_0 rfl (lv_at hl 0 rfl) ?_
  refine lv_iconst (v := 1) hx hb dX2_markOfKind_1 (by decide) ?_
  refine lv_iadd hx hb dX2_markOfKind_2 ?_
  exact hret (x0 + 1)  H locs 3 ls hw dX2_markOfKind_3 hP hD hS 
/-! X2_stackOn -/
def wp_X2_stackOn (x0 : Int64) (x2 : Int32) (post : Int64 → Prop) : Prop :=
  post (((x0.toUInt64 >>> (((15 : Int32) * x2).toInt64.toUInt64 &&& Int64.toUInt64 63)).toInt64) &&& 32767) 
set_option maxHeartbeats 4000000 in
set_option maxRecDepth 100000 in
theorem c_X2_stackOn (l : Launch) (D : va_G) (cI cJ cZ : ClassId) (sz : Nat) (x0 : Int64) (x2 : Int32) (post : Int64 → Prop) (hw : wp_X2_stackOn x0 x2 post) : Met l yX2_stackOn wsX2_stackOn ({ frames := 0, cells := 0, slots := 0, locals := 0 } : Room) (va_Pc [.long x0, .int x2] (zPre D cI cJ cZ [] sz)) (va_Ql (fun (r : Int64) (u : Unit) => post r) (zPost D cI cJ cZ (va_A [] sz) (fun u : Unit => [])) (va_A [] sz)) 0 0 (va_A [] sz) := by
  unfold wp_X2_stackOn at hw
  refine Met.ofW (cc := cX2_stackOn) (maxL := 3) (ret := some .long) (by decide) rfl ?_
  intro p e s m args below meth c s₁ B hml hv
  obtain ⟨rfl, hsz, hP, hK, hD0⟩ := hv
  have hx := B.exec
  have hb := B.bytes
  have hr := B.returns
  have hts := atoms_spec (ws := wsX2_stackOn) B.pre
  have hown : s.vm.findClass RX2 = some m.cls := findClass_of_methodNamed B.named
  have hlocks := B.notSynchronized
  subst hsz
  have hD := hD0.self (sz := s.heap.size)
  generalize hAe : va_A [] s.heap.size = A at hD ⊢
  have hA : ∀ q : Nat, s.heap.size ≤ q → A q := fun q h => by rw [← hAe]; exact Or.inr h
  have hS : va_S A s.heap s.heap [] := va_S.rf
  refine (fun (hall : ∀ Q0 : State → Prop, (∀ (r : Int64)  (H : Heap) (locs : List Loc) (pc : Nat) (ls : Array Slot), post r → decode cX2_stackOn pc = .ok (.lreturn, 1) → va_P D vwCl [] H → va_D A [] → va_S A s.heap H locs → W p l e ({ frames := 0, cells := 0, slots := 0, locals := 0 } : Room) s m ([.long x0, .int x2] : List Value).toArray below meth c H locs 0 0 Q0 (F0 m pc ls [.long r])) → W p l e ({ frames := 0, cells := 0, slots := 0, locals := 0 } : Room) s m ([.long x0, .int x2] : List Value).toArray below meth c s.heap [] 0 0 Q0 (entryFrame m ([.long x0, .int x2] : List Value).toArray 3)) => hall _ (fun r  H locs pc ls hw hd hP hD hS => W.lret (v := r) hx hb hr (fun t ht hW => ⟨⟨r, (), rfl, hw, by rw [ht]; exact hP, va_K.moved hW.alike hK, hD⟩, hS.F ht⟩) hS.2.2 hd)) ?_
  intro Q0 hret
  have hl := lv_entry ([.long x0, .int x2]) (n := 3) (Nat.le_of_ble_eq_true rfl)
  rw [lg_entry_eq]
  generalize (lg_sl ([.long x0, .int x2]) ++ List.replicate (3 - (lg_sl ([.long x0, .int x2])).length) Slot.unset).toArray = ls at hl ⊢
  have hl : lv_has ls 3 [(0, .long x0), (2, .int x2)] := hl
  obtain ⟨H, hHe⟩ : ∃ H, H = s.heap := ⟨_, rfl⟩
  obtain ⟨locs, hLo⟩ : ∃ locs : List Loc, locs = [] := ⟨_, rfl⟩
  have hS : va_S A s.heap H locs := by rw [hHe, hLo]; exact hS
  have hP : va_P D vwCl [] H := by rw [hHe]; exact hP
  refine (fun (hgo : W p l e ({ frames := 0, cells := 0, slots := 0, locals := 0 } : Room) s m ([.long x0, .int x2] : List Value).toArray below meth c H locs 0 0 Q0 (F0 m 0 ls [])) => by rw [hHe, hLo] at hgo; exact hgo) ?_
  refine lv_lload_n hx hb dX2_stackOn_0 rfl (lv_at hl 0 rfl) ?_
  refine lv_bipush (v := 15) hx hb dX2_stackOn_1 (by decide) ?_
  refine lv_iload_n hx hb dX2_stackOn_3 rfl (lv_at hl 1 rfl) ?_
  refine lv_imul hx hb dX2_stackOn_4 ?_
  refine lv_lushr hx hb dX2_stackOn_5 rfl ?_
  refine lv_ldc2 (v := 32767) hx hb hown (hts (.constantLong RX2 32 (32767)) (by decide +kernel)) dX2_stackOn_6 ?_
  refine lv_land hx hb dX2_stackOn_9 ?_
  exact hret (((x0.toUInt64 >>> (((15 : Int32) * x2).toInt64.toUInt64 &&& Int64.toUInt64 63)).toInt64) &&& 32767)  H locs 10 ls hw dX2_stackOn_10 hP hD hS 
/-! X2_withStack -/
def wp_X2_withStack (x0 : Int64) (x2 : Int32) (x3 : Int64) (post : Int64 → Prop) : Prop :=
  ∀ y1 : Int32, y1 = ((15 : Int32) * x2) → (post ((x0 &&& (((32767 : Int64) <<< (y1.toInt64 &&& 63)) ^^^ (-1))) ||| ((x3 &&& 32767) <<< (y1.toInt64 &&& 63))) )
set_option maxHeartbeats 4000000 in
set_option maxRecDepth 100000 in
theorem c_X2_withStack (l : Launch) (D : va_G) (cI cJ cZ : ClassId) (sz : Nat) (x0 : Int64) (x2 : Int32) (x3 : Int64) (post : Int64 → Prop) (hw : wp_X2_withStack x0 x2 x3 post) : Met l yX2_withStack wsX2_withStack ({ frames := 0, cells := 0, slots := 0, locals := 0 } : Room) (va_Pc [.long x0, .int x2, .long x3] (zPre D cI cJ cZ [] sz)) (va_Ql (fun (r : Int64) (u : Unit) => post r) (zPost D cI cJ cZ (va_A [] sz) (fun u : Unit => [])) (va_A [] sz)) 0 0 (va_A [] sz) := by
  unfold wp_X2_withStack at hw
  refine Met.ofW (cc := cX2_withStack) (maxL := 6) (ret := some .long) (by decide) rfl ?_
  intro p e s m args below meth c s₁ B hml hv
  obtain ⟨rfl, hsz, hP, hK, hD0⟩ := hv
  have hx := B.exec
  have hb := B.bytes
  have hr := B.returns
  have hts := atoms_spec (ws := wsX2_withStack) B.pre
  have hown : s.vm.findClass RX2 = some m.cls := findClass_of_methodNamed B.named
  have hlocks := B.notSynchronized
  subst hsz
  have hD := hD0.self (sz := s.heap.size)
  generalize hAe : va_A [] s.heap.size = A at hD ⊢
  have hA : ∀ q : Nat, s.heap.size ≤ q → A q := fun q h => by rw [← hAe]; exact Or.inr h
  have hS : va_S A s.heap s.heap [] := va_S.rf
  refine (fun (hall : ∀ Q0 : State → Prop, (∀ (r : Int64)  (H : Heap) (locs : List Loc) (pc : Nat) (ls : Array Slot), post r → decode cX2_withStack pc = .ok (.lreturn, 1) → va_P D vwCl [] H → va_D A [] → va_S A s.heap H locs → W p l e ({ frames := 0, cells := 0, slots := 0, locals := 0 } : Room) s m ([.long x0, .int x2, .long x3] : List Value).toArray below meth c H locs 0 0 Q0 (F0 m pc ls [.long r])) → W p l e ({ frames := 0, cells := 0, slots := 0, locals := 0 } : Room) s m ([.long x0, .int x2, .long x3] : List Value).toArray below meth c s.heap [] 0 0 Q0 (entryFrame m ([.long x0, .int x2, .long x3] : List Value).toArray 6)) => hall _ (fun r  H locs pc ls hw hd hP hD hS => W.lret (v := r) hx hb hr (fun t ht hW => ⟨⟨r, (), rfl, hw, by rw [ht]; exact hP, va_K.moved hW.alike hK, hD⟩, hS.F ht⟩) hS.2.2 hd)) ?_
  intro Q0 hret
  have hl := lv_entry ([.long x0, .int x2, .long x3]) (n := 6) (Nat.le_of_ble_eq_true rfl)
  rw [lg_entry_eq]
  generalize (lg_sl ([.long x0, .int x2, .long x3]) ++ List.replicate (6 - (lg_sl ([.long x0, .int x2, .long x3])).length) Slot.unset).toArray = ls at hl ⊢
  have hl : lv_has ls 6 [(0, .long x0), (2, .int x2), (3, .long x3)] := hl
  obtain ⟨H, hHe⟩ : ∃ H, H = s.heap := ⟨_, rfl⟩
  obtain ⟨locs, hLo⟩ : ∃ locs : List Loc, locs = [] := ⟨_, rfl⟩
  have hS : va_S A s.heap H locs := by rw [hHe, hLo]; exact hS
  have hP : va_P D vwCl [] H := by rw [hHe]; exact hP
  refine (fun (hgo : W p l e ({ frames := 0, cells := 0, slots := 0, locals := 0 } : Room) s m ([.long x0, .int x2, .long x3] : List Value).toArray below meth c H locs 0 0 Q0 (F0 m 0 ls [])) => by rw [hHe, hLo] at hgo; exact hgo) ?_
  refine lv_bipush (v := 15) hx hb dX2_withStack_0 (by decide) ?_
  refine lv_iload_n hx hb dX2_withStack_2 rfl (lv_at hl 1 rfl) ?_
  refine lv_imul hx hb dX2_withStack_3 ?_
  refine lv_topi (fun y1 ey1 => ?_)
  have hw := hw y1 ey1
  refine lv_istore (lv' := [(5, .int y1), (0, .long x0), (2, .int x2), (3, .long x3)]) hx hb dX2_withStack_4 hl (by decide) rfl (fun ls hl => ?_)
  refine lv_lload_n hx hb dX2_withStack_6 rfl (lv_at hl 1 rfl) ?_
  refine lv_ldc2 (v := 32767) hx hb hown (hts (.constantLong RX2 32 (32767)) (by decide +kernel)) dX2_withStack_7 ?_
  refine lv_iload hx hb dX2_withStack_10 (lv_at hl 0 rfl) ?_
  refine lv_lshl hx hb dX2_withStack_12 rfl ?_
  refine lv_ldc2 (v := (-1)) hx hb hown (hts (.constantLong RX2 34 (-1)) (by decide +kernel)) dX2_withStack_13 ?_
  refine lv_lxor hx hb dX2_withStack_16 ?_
  refine lv_land hx hb dX2_withStack_17 ?_
  refine lv_lload_n hx hb dX2_withStack_18 rfl (lv_at hl 3 rfl) ?_
  refine lv_ldc2 (v := 32767) hx hb hown (hts (.constantLong RX2 32 (32767)) (by decide +kernel)) dX2_withStack_19 ?_
  refine lv_land hx hb dX2_withStack_22 ?_
  refine lv_iload hx hb dX2_withStack_23 (lv_at hl 0 rfl) ?_
  refine lv_lshl hx hb dX2_withStack_25 rfl ?_
  refine lv_lor hx hb dX2_withStack_26 ?_
  exact hret ((x0 &&& (((32767 : Int64) <<< (y1.toInt64 &&& 63)) ^^^ (-1))) ||| ((x3 &&& 32767) <<< (y1.toInt64 &&& 63)))  H locs 27 ls hw dX2_withStack_27 hP hD hS 
/-! X2_put -/
def wp_X2_put (x0 : Int64) (x2 : Int32) (x3 : Int32) (post : Int64 → Prop) : Prop :=
  wp_X2_stackOn x0 x2 (fun (r1 : Int64) => wp_X2_withStack x0 x2 ((r1 <<< ((3 : Int32).toInt64 &&& 63)) ||| x3.toInt64) (fun (r2 : Int64) => post r2 ))
set_option maxHeartbeats 4000000 in
set_option maxRecDepth 100000 in
theorem c_X2_put (l : Launch) (D : va_G) (cI cJ cZ : ClassId) (sz : Nat) (x0 : Int64) (x2 : Int32) (x3 : Int32) (post : Int64 → Prop) (hw : wp_X2_put x0 x2 x3 post) : Met l yX2_put wsX2_put ({ frames := 1, cells := 0, slots := 0, locals := 25 } : Room) (va_Pc [.long x0, .int x2, .int x3] (zPre D cI cJ cZ [] sz)) (va_Ql (fun (r : Int64) (u : Unit) => post r) (zPost D cI cJ cZ (va_A [] sz) (fun u : Unit => [])) (va_A [] sz)) 0 0 (va_A [] sz) := by
  unfold wp_X2_put at hw
  refine Met.ofW (cc := cX2_put) (maxL := 4) (ret := some .long) (by decide) rfl ?_
  intro p e s m args below meth c s₁ B hml hv
  obtain ⟨rfl, hsz, hP, hK, hD0⟩ := hv
  have hx := B.exec
  have hb := B.bytes
  have hr := B.returns
  have hts := atoms_spec (ws := wsX2_put) B.pre
  have hown : s.vm.findClass RX2 = some m.cls := findClass_of_methodNamed B.named
  have hlocks := B.notSynchronized
  subst hsz
  have hD := hD0.self (sz := s.heap.size)
  generalize hAe : va_A [] s.heap.size = A at hD ⊢
  have hA : ∀ q : Nat, s.heap.size ≤ q → A q := fun q h => by rw [← hAe]; exact Or.inr h
  have hS : va_S A s.heap s.heap [] := va_S.rf
  refine (fun (hall : ∀ Q0 : State → Prop, (∀ (r : Int64)  (H : Heap) (locs : List Loc) (pc : Nat) (ls : Array Slot), post r → decode cX2_put pc = .ok (.lreturn, 1) → va_P D vwCl [] H → va_D A [] → va_S A s.heap H locs → W p l e ({ frames := 1, cells := 0, slots := 0, locals := 25 } : Room) s m ([.long x0, .int x2, .int x3] : List Value).toArray below meth c H locs 0 0 Q0 (F0 m pc ls [.long r])) → W p l e ({ frames := 1, cells := 0, slots := 0, locals := 25 } : Room) s m ([.long x0, .int x2, .int x3] : List Value).toArray below meth c s.heap [] 0 0 Q0 (entryFrame m ([.long x0, .int x2, .int x3] : List Value).toArray 4)) => hall _ (fun r  H locs pc ls hw hd hP hD hS => W.lret (v := r) hx hb hr (fun t ht hW => ⟨⟨r, (), rfl, hw, by rw [ht]; exact hP, va_K.moved hW.alike hK, hD⟩, hS.F ht⟩) hS.2.2 hd)) ?_
  intro Q0 hret
  have hl := lv_entry ([.long x0, .int x2, .int x3]) (n := 4) (Nat.le_of_ble_eq_true rfl)
  rw [lg_entry_eq]
  generalize (lg_sl ([.long x0, .int x2, .int x3]) ++ List.replicate (4 - (lg_sl ([.long x0, .int x2, .int x3])).length) Slot.unset).toArray = ls at hl ⊢
  have hl : lv_has ls 4 [(0, .long x0), (2, .int x2), (3, .int x3)] := hl
  obtain ⟨H, hHe⟩ : ∃ H, H = s.heap := ⟨_, rfl⟩
  obtain ⟨locs, hLo⟩ : ∃ locs : List Loc, locs = [] := ⟨_, rfl⟩
  have hS : va_S A s.heap H locs := by rw [hHe, hLo]; exact hS
  have hP : va_P D vwCl [] H := by rw [hHe]; exact hP
  refine (fun (hgo : W p l e ({ frames := 1, cells := 0, slots := 0, locals := 25 } : Room) s m ([.long x0, .int x2, .int x3] : List Value).toArray below meth c H locs 0 0 Q0 (F0 m 0 ls [])) => by rw [hHe, hLo] at hgo; exact hgo) ?_
  refine lv_lload_n hx hb dX2_put_0 rfl (lv_at hl 0 rfl) ?_
  refine lv_iload_n hx hb dX2_put_1 rfl (lv_at hl 1 rfl) ?_
  refine lv_lload_n hx hb dX2_put_2 rfl (lv_at hl 0 rfl) ?_
  refine lv_iload_n hx hb dX2_put_3 rfl (lv_at hl 1 rfl) ?_
  refine zSl (As := [.long x0, .int x2]) (rest := [.int x2, .long x0]) (wc := []) (wr := []) ⟨hx, hb, hml, hown, hts⟩ hK hP hD hS hA [] [] rfl rfl (by decide) (by decide) (by decide) (c_X2_stackOn l D cI cJ cZ H.size x0 x2 _ hw) (va_cwS 2 hts gX2_put_X2_stackOn rfl rfl rfl (by decide +kernel) ⟨Nat.le_of_ble_eq_true rfl, Nat.le_of_ble_eq_true rfl⟩) rfl hl.1 (Nat.le_of_ble_eq_true rfl) dX2_put_4 ⟨(Nat.le_of_ble_eq_true rfl), (Nat.le_of_ble_eq_true rfl)⟩ rfl (fun r1 u H locs hw hP hD hS => ?_)
  try dsimp only at hw
  have hP : va_P D vwCl [] H := hP.sub [] rfl
  have hD : va_D A [] := hD.sub [] (by decide) rfl
  refine lv_iconst (v := 3) hx hb dX2_put_7 (by decide) ?_
  refine lv_lshl hx hb dX2_put_8 rfl ?_
  refine lv_iload_n hx hb dX2_put_9 rfl (lv_at hl 2 rfl) ?_
  refine lv_i2l hx hb dX2_put_10 rfl ?_
  refine lv_lor hx hb dX2_put_11 ?_
  refine zSl (As := [.long x0, .int x2, .long ((r1 <<< ((3 : Int32).toInt64 &&& 63)) ||| x3.toInt64)]) (rest := []) (wc := []) (wr := []) ⟨hx, hb, hml, hown, hts⟩ hK hP hD hS hA [] [] rfl rfl (by decide) (by decide) (by decide) (c_X2_withStack l D cI cJ cZ H.size x0 x2 ((r1 <<< ((3 : Int32).toInt64 &&& 63)) ||| x3.toInt64) _ hw) (va_cwS 3 hts gX2_put_X2_withStack rfl rfl rfl (by decide +kernel) ⟨Nat.le_of_ble_eq_true rfl, Nat.le_of_ble_eq_true rfl⟩) rfl hl.1 (Nat.le_of_ble_eq_true rfl) dX2_put_12 ⟨(Nat.le_of_ble_eq_true rfl), (Nat.le_of_ble_eq_true rfl)⟩ rfl (fun r2 u H locs hw hP hD hS => ?_)
  try dsimp only at hw
  have hP : va_P D vwCl [] H := hP.sub [] rfl
  have hD : va_D A [] := hD.sub [] (by decide) rfl
  exact hret r2  H locs 15 ls hw dX2_put_15 hP hD hS 
/-! X2_take -/
def wp_X2_take (x0 : Int64) (x2 : Int32) (post : Int64 → Prop) : Prop :=
  wp_X2_stackOn x0 x2 (fun (r1 : Int64) => wp_X2_withStack x0 x2 ((r1.toUInt64 >>> ((3 : Int32).toInt64.toUInt64 &&& Int64.toUInt64 63)).toInt64) (fun (r2 : Int64) => post r2 ))
set_option maxHeartbeats 4000000 in
set_option maxRecDepth 100000 in
theorem c_X2_take (l : Launch) (D : va_G) (cI cJ cZ : ClassId) (sz : Nat) (x0 : Int64) (x2 : Int32) (post : Int64 → Prop) (hw : wp_X2_take x0 x2 post) : Met l yX2_take wsX2_take ({ frames := 1, cells := 0, slots := 0, locals := 25 } : Room) (va_Pc [.long x0, .int x2] (zPre D cI cJ cZ [] sz)) (va_Ql (fun (r : Int64) (u : Unit) => post r) (zPost D cI cJ cZ (va_A [] sz) (fun u : Unit => [])) (va_A [] sz)) 0 0 (va_A [] sz) := by
  unfold wp_X2_take at hw
  refine Met.ofW (cc := cX2_take) (maxL := 3) (ret := some .long) (by decide) rfl ?_
  intro p e s m args below meth c s₁ B hml hv
  obtain ⟨rfl, hsz, hP, hK, hD0⟩ := hv
  have hx := B.exec
  have hb := B.bytes
  have hr := B.returns
  have hts := atoms_spec (ws := wsX2_take) B.pre
  have hown : s.vm.findClass RX2 = some m.cls := findClass_of_methodNamed B.named
  have hlocks := B.notSynchronized
  subst hsz
  have hD := hD0.self (sz := s.heap.size)
  generalize hAe : va_A [] s.heap.size = A at hD ⊢
  have hA : ∀ q : Nat, s.heap.size ≤ q → A q := fun q h => by rw [← hAe]; exact Or.inr h
  have hS : va_S A s.heap s.heap [] := va_S.rf
  refine (fun (hall : ∀ Q0 : State → Prop, (∀ (r : Int64)  (H : Heap) (locs : List Loc) (pc : Nat) (ls : Array Slot), post r → decode cX2_take pc = .ok (.lreturn, 1) → va_P D vwCl [] H → va_D A [] → va_S A s.heap H locs → W p l e ({ frames := 1, cells := 0, slots := 0, locals := 25 } : Room) s m ([.long x0, .int x2] : List Value).toArray below meth c H locs 0 0 Q0 (F0 m pc ls [.long r])) → W p l e ({ frames := 1, cells := 0, slots := 0, locals := 25 } : Room) s m ([.long x0, .int x2] : List Value).toArray below meth c s.heap [] 0 0 Q0 (entryFrame m ([.long x0, .int x2] : List Value).toArray 3)) => hall _ (fun r  H locs pc ls hw hd hP hD hS => W.lret (v := r) hx hb hr (fun t ht hW => ⟨⟨r, (), rfl, hw, by rw [ht]; exact hP, va_K.moved hW.alike hK, hD⟩, hS.F ht⟩) hS.2.2 hd)) ?_
  intro Q0 hret
  have hl := lv_entry ([.long x0, .int x2]) (n := 3) (Nat.le_of_ble_eq_true rfl)
  rw [lg_entry_eq]
  generalize (lg_sl ([.long x0, .int x2]) ++ List.replicate (3 - (lg_sl ([.long x0, .int x2])).length) Slot.unset).toArray = ls at hl ⊢
  have hl : lv_has ls 3 [(0, .long x0), (2, .int x2)] := hl
  obtain ⟨H, hHe⟩ : ∃ H, H = s.heap := ⟨_, rfl⟩
  obtain ⟨locs, hLo⟩ : ∃ locs : List Loc, locs = [] := ⟨_, rfl⟩
  have hS : va_S A s.heap H locs := by rw [hHe, hLo]; exact hS
  have hP : va_P D vwCl [] H := by rw [hHe]; exact hP
  refine (fun (hgo : W p l e ({ frames := 1, cells := 0, slots := 0, locals := 25 } : Room) s m ([.long x0, .int x2] : List Value).toArray below meth c H locs 0 0 Q0 (F0 m 0 ls [])) => by rw [hHe, hLo] at hgo; exact hgo) ?_
  refine lv_lload_n hx hb dX2_take_0 rfl (lv_at hl 0 rfl) ?_
  refine lv_iload_n hx hb dX2_take_1 rfl (lv_at hl 1 rfl) ?_
  refine lv_lload_n hx hb dX2_take_2 rfl (lv_at hl 0 rfl) ?_
  refine lv_iload_n hx hb dX2_take_3 rfl (lv_at hl 1 rfl) ?_
  refine zSl (As := [.long x0, .int x2]) (rest := [.int x2, .long x0]) (wc := []) (wr := []) ⟨hx, hb, hml, hown, hts⟩ hK hP hD hS hA [] [] rfl rfl (by decide) (by decide) (by decide) (c_X2_stackOn l D cI cJ cZ H.size x0 x2 _ hw) (va_cwS 2 hts gX2_take_X2_stackOn rfl rfl rfl (by decide +kernel) ⟨Nat.le_of_ble_eq_true rfl, Nat.le_of_ble_eq_true rfl⟩) rfl hl.1 (Nat.le_of_ble_eq_true rfl) dX2_take_4 ⟨(Nat.le_of_ble_eq_true rfl), (Nat.le_of_ble_eq_true rfl)⟩ rfl (fun r1 u H locs hw hP hD hS => ?_)
  try dsimp only at hw
  have hP : va_P D vwCl [] H := hP.sub [] rfl
  have hD : va_D A [] := hD.sub [] (by decide) rfl
  refine lv_iconst (v := 3) hx hb dX2_take_7 (by decide) ?_
  refine lv_lushr hx hb dX2_take_8 rfl ?_
  refine zSl (As := [.long x0, .int x2, .long ((r1.toUInt64 >>> ((3 : Int32).toInt64.toUInt64 &&& Int64.toUInt64 63)).toInt64)]) (rest := []) (wc := []) (wr := []) ⟨hx, hb, hml, hown, hts⟩ hK hP hD hS hA [] [] rfl rfl (by decide) (by decide) (by decide) (c_X2_withStack l D cI cJ cZ H.size x0 x2 ((r1.toUInt64 >>> ((3 : Int32).toInt64.toUInt64 &&& Int64.toUInt64 63)).toInt64) _ hw) (va_cwS 3 hts gX2_take_X2_withStack rfl rfl rfl (by decide +kernel) ⟨Nat.le_of_ble_eq_true rfl, Nat.le_of_ble_eq_true rfl⟩) rfl hl.1 (Nat.le_of_ble_eq_true rfl) dX2_take_9 ⟨(Nat.le_of_ble_eq_true rfl), (Nat.le_of_ble_eq_true rfl)⟩ rfl (fun r2 u H locs hw hP hD hS => ?_)
  try dsimp only at hw
  have hP : va_P D vwCl [] H := hP.sub [] rfl
  have hD : va_D A [] := hD.sub [] (by decide) rfl
  exact hret r2  H locs 12 ls hw dX2_take_12 hP hD hS 
/-! X2_sendOff -/
def wp_X2_sendOff (x0 : Int64) (x2 : Int32) (post : Int64 → Prop) : Prop :=
  wp_X2_take x0 x2 (fun (r1 : Int64) => post (r1 + 35184372088832) )
set_option maxHeartbeats 4000000 in
set_option maxRecDepth 100000 in
theorem c_X2_sendOff (l : Launch) (D : va_G) (cI cJ cZ : ClassId) (sz : Nat) (x0 : Int64) (x2 : Int32) (post : Int64 → Prop) (hw : wp_X2_sendOff x0 x2 post) : Met l yX2_sendOff wsX2_sendOff ({ frames := 2, cells := 0, slots := 0, locals := 47 } : Room) (va_Pc [.long x0, .int x2] (zPre D cI cJ cZ [] sz)) (va_Ql (fun (r : Int64) (u : Unit) => post r) (zPost D cI cJ cZ (va_A [] sz) (fun u : Unit => [])) (va_A [] sz)) 0 0 (va_A [] sz) := by
  unfold wp_X2_sendOff at hw
  refine Met.ofW (cc := cX2_sendOff) (maxL := 3) (ret := some .long) (by decide) rfl ?_
  intro p e s m args below meth c s₁ B hml hv
  obtain ⟨rfl, hsz, hP, hK, hD0⟩ := hv
  have hx := B.exec
  have hb := B.bytes
  have hr := B.returns
  have hts := atoms_spec (ws := wsX2_sendOff) B.pre
  have hown : s.vm.findClass RX2 = some m.cls := findClass_of_methodNamed B.named
  have hlocks := B.notSynchronized
  subst hsz
  have hD := hD0.self (sz := s.heap.size)
  generalize hAe : va_A [] s.heap.size = A at hD ⊢
  have hA : ∀ q : Nat, s.heap.size ≤ q → A q := fun q h => by rw [← hAe]; exact Or.inr h
  have hS : va_S A s.heap s.heap [] := va_S.rf
  refine (fun (hall : ∀ Q0 : State → Prop, (∀ (r : Int64)  (H : Heap) (locs : List Loc) (pc : Nat) (ls : Array Slot), post r → decode cX2_sendOff pc = .ok (.lreturn, 1) → va_P D vwCl [] H → va_D A [] → va_S A s.heap H locs → W p l e ({ frames := 2, cells := 0, slots := 0, locals := 47 } : Room) s m ([.long x0, .int x2] : List Value).toArray below meth c H locs 0 0 Q0 (F0 m pc ls [.long r])) → W p l e ({ frames := 2, cells := 0, slots := 0, locals := 47 } : Room) s m ([.long x0, .int x2] : List Value).toArray below meth c s.heap [] 0 0 Q0 (entryFrame m ([.long x0, .int x2] : List Value).toArray 3)) => hall _ (fun r  H locs pc ls hw hd hP hD hS => W.lret (v := r) hx hb hr (fun t ht hW => ⟨⟨r, (), rfl, hw, by rw [ht]; exact hP, va_K.moved hW.alike hK, hD⟩, hS.F ht⟩) hS.2.2 hd)) ?_
  intro Q0 hret
  have hl := lv_entry ([.long x0, .int x2]) (n := 3) (Nat.le_of_ble_eq_true rfl)
  rw [lg_entry_eq]
  generalize (lg_sl ([.long x0, .int x2]) ++ List.replicate (3 - (lg_sl ([.long x0, .int x2])).length) Slot.unset).toArray = ls at hl ⊢
  have hl : lv_has ls 3 [(0, .long x0), (2, .int x2)] := hl
  obtain ⟨H, hHe⟩ : ∃ H, H = s.heap := ⟨_, rfl⟩
  obtain ⟨locs, hLo⟩ : ∃ locs : List Loc, locs = [] := ⟨_, rfl⟩
  have hS : va_S A s.heap H locs := by rw [hHe, hLo]; exact hS
  have hP : va_P D vwCl [] H := by rw [hHe]; exact hP
  refine (fun (hgo : W p l e ({ frames := 2, cells := 0, slots := 0, locals := 47 } : Room) s m ([.long x0, .int x2] : List Value).toArray below meth c H locs 0 0 Q0 (F0 m 0 ls [])) => by rw [hHe, hLo] at hgo; exact hgo) ?_
  refine lv_lload_n hx hb dX2_sendOff_0 rfl (lv_at hl 0 rfl) ?_
  refine lv_iload_n hx hb dX2_sendOff_1 rfl (lv_at hl 1 rfl) ?_
  refine zSl (As := [.long x0, .int x2]) (rest := []) (wc := []) (wr := []) ⟨hx, hb, hml, hown, hts⟩ hK hP hD hS hA [] [] rfl rfl (by decide) (by decide) (by decide) (c_X2_take l D cI cJ cZ H.size x0 x2 _ hw) (va_cwS 2 hts gX2_sendOff_X2_take rfl rfl rfl (by decide +kernel) ⟨Nat.le_of_ble_eq_true rfl, Nat.le_of_ble_eq_true rfl⟩) rfl hl.1 (Nat.le_of_ble_eq_true rfl) dX2_sendOff_2 ⟨(Nat.le_of_ble_eq_true rfl), (Nat.le_of_ble_eq_true rfl)⟩ rfl (fun r1 u H locs hw hP hD hS => ?_)
  try dsimp only at hw
  have hP : va_P D vwCl [] H := hP.sub [] rfl
  have hD : va_D A [] := hD.sub [] (by decide) rfl
  refine lv_ldc2 (v := 35184372088832) hx hb hown (hts (.constantLong RX2 22 (35184372088832)) (by decide +kernel)) dX2_sendOff_5 ?_
  refine lv_ladd hx hb dX2_sendOff_8 ?_
  exact hret (r1 + 35184372088832)  H locs 9 ls hw dX2_sendOff_9 hP hD hS 
/-! X2_lastMark -/
def wp_X2_lastMark (x0 : Int64) (x2 : Int32) (post : Int32 → Prop) : Prop :=
  wp_X2_stackOn x0 x2 (fun (r1 : Int64) => post (r1.toInt32 &&& 7) )
set_option maxHeartbeats 4000000 in
set_option maxRecDepth 100000 in
theorem c_X2_lastMark (l : Launch) (D : va_G) (cI cJ cZ : ClassId) (sz : Nat) (x0 : Int64) (x2 : Int32) (post : Int32 → Prop) (hw : wp_X2_lastMark x0 x2 post) : Met l yX2_lastMark wsX2_lastMark ({ frames := 1, cells := 0, slots := 0, locals := 22 } : Room) (va_Pc [.long x0, .int x2] (zPre D cI cJ cZ [] sz)) (va_Qi (fun (r : Int32) (u : Unit) => post r) (zPost D cI cJ cZ (va_A [] sz) (fun u : Unit => [])) (va_A [] sz)) 0 0 (va_A [] sz) := by
  unfold wp_X2_lastMark at hw
  refine Met.ofW (cc := cX2_lastMark) (maxL := 3) (ret := some .int) (by decide) rfl ?_
  intro p e s m args below meth c s₁ B hml hv
  obtain ⟨rfl, hsz, hP, hK, hD0⟩ := hv
  have hx := B.exec
  have hb := B.bytes
  have hr := B.returns
  have hts := atoms_spec (ws := wsX2_lastMark) B.pre
  have hown : s.vm.findClass RX2 = some m.cls := findClass_of_methodNamed B.named
  have hlocks := B.notSynchronized
  subst hsz
  have hD := hD0.self (sz := s.heap.size)
  generalize hAe : va_A [] s.heap.size = A at hD ⊢
  have hA : ∀ q : Nat, s.heap.size ≤ q → A q := fun q h => by rw [← hAe]; exact Or.inr h
  have hS : va_S A s.heap s.heap [] := va_S.rf
  refine (fun (hall : ∀ Q0 : State → Prop, (∀ (r : Int32)  (H : Heap) (locs : List Loc) (pc : Nat) (ls : Array Slot), post r → decode cX2_lastMark pc = .ok (.ireturn, 1) → va_P D vwCl [] H → va_D A [] → va_S A s.heap H locs → W p l e ({ frames := 1, cells := 0, slots := 0, locals := 22 } : Room) s m ([.long x0, .int x2] : List Value).toArray below meth c H locs 0 0 Q0 (F0 m pc ls [.int r])) → W p l e ({ frames := 1, cells := 0, slots := 0, locals := 22 } : Room) s m ([.long x0, .int x2] : List Value).toArray below meth c s.heap [] 0 0 Q0 (entryFrame m ([.long x0, .int x2] : List Value).toArray 3)) => hall _ (fun r  H locs pc ls hw hd hP hD hS => W.iret (v := r) hx hb hr (fun t ht hW => ⟨⟨r, (), rfl, hw, by rw [ht]; exact hP, va_K.moved hW.alike hK, hD⟩, hS.F ht⟩) hS.2.2 hd)) ?_
  intro Q0 hret
  have hl := lv_entry ([.long x0, .int x2]) (n := 3) (Nat.le_of_ble_eq_true rfl)
  rw [lg_entry_eq]
  generalize (lg_sl ([.long x0, .int x2]) ++ List.replicate (3 - (lg_sl ([.long x0, .int x2])).length) Slot.unset).toArray = ls at hl ⊢
  have hl : lv_has ls 3 [(0, .long x0), (2, .int x2)] := hl
  obtain ⟨H, hHe⟩ : ∃ H, H = s.heap := ⟨_, rfl⟩
  obtain ⟨locs, hLo⟩ : ∃ locs : List Loc, locs = [] := ⟨_, rfl⟩
  have hS : va_S A s.heap H locs := by rw [hHe, hLo]; exact hS
  have hP : va_P D vwCl [] H := by rw [hHe]; exact hP
  refine (fun (hgo : W p l e ({ frames := 1, cells := 0, slots := 0, locals := 22 } : Room) s m ([.long x0, .int x2] : List Value).toArray below meth c H locs 0 0 Q0 (F0 m 0 ls [])) => by rw [hHe, hLo] at hgo; exact hgo) ?_
  refine lv_lload_n hx hb dX2_lastMark_0 rfl (lv_at hl 0 rfl) ?_
  refine lv_iload_n hx hb dX2_lastMark_1 rfl (lv_at hl 1 rfl) ?_
  refine zSl (As := [.long x0, .int x2]) (rest := []) (wc := []) (wr := []) ⟨hx, hb, hml, hown, hts⟩ hK hP hD hS hA [] [] rfl rfl (by decide) (by decide) (by decide) (c_X2_stackOn l D cI cJ cZ H.size x0 x2 _ hw) (va_cwS 2 hts gX2_lastMark_X2_stackOn rfl rfl rfl (by decide +kernel) ⟨Nat.le_of_ble_eq_true rfl, Nat.le_of_ble_eq_true rfl⟩) rfl hl.1 (Nat.le_of_ble_eq_true rfl) dX2_lastMark_2 ⟨(Nat.le_of_ble_eq_true rfl), (Nat.le_of_ble_eq_true rfl)⟩ rfl (fun r1 u H locs hw hP hD hS => ?_)
  try dsimp only at hw
  have hP : va_P D vwCl [] H := hP.sub [] rfl
  have hD : va_D A [] := hD.sub [] (by decide) rfl
  refine lv_l2i hx hb dX2_lastMark_5 rfl ?_
  refine lv_bipush (v := 7) hx hb dX2_lastMark_6 (by decide) ?_
  refine lv_iand hx hb dX2_lastMark_8 ?_
  exact hret (r1.toInt32 &&& 7)  H locs 9 ls hw dX2_lastMark_9 hP hD hS 
/-! X2_shunt -/
def wp_X2_shunt (x0 : Int64) (x2 : Int32) (x3 : Int32) (post : Int64 → Prop) : Prop :=
  wp_X2_take x0 x2 (fun (r1 : Int64) => wp_X2_lastMark x0 x2 (fun (r2 : Int32) => wp_X2_put r1 x3 r2 (fun (r3 : Int64) => post r3 )))
set_option maxHeartbeats 4000000 in
set_option maxRecDepth 100000 in
theorem c_X2_shunt (l : Launch) (D : va_G) (cI cJ cZ : ClassId) (sz : Nat) (x0 : Int64) (x2 : Int32) (x3 : Int32) (post : Int64 → Prop) (hw : wp_X2_shunt x0 x2 x3 post) : Met l yX2_shunt wsX2_shunt ({ frames := 2, cells := 0, slots := 0, locals := 48 } : Room) (va_Pc [.long x0, .int x2, .int x3] (zPre D cI cJ cZ [] sz)) (va_Ql (fun (r : Int64) (u : Unit) => post r) (zPost D cI cJ cZ (va_A [] sz) (fun u : Unit => [])) (va_A [] sz)) 0 0 (va_A [] sz) := by
  unfold wp_X2_shunt at hw
  refine Met.ofW (cc := cX2_shunt) (maxL := 4) (ret := some .long) (by decide) rfl ?_
  intro p e s m args below meth c s₁ B hml hv
  obtain ⟨rfl, hsz, hP, hK, hD0⟩ := hv
  have hx := B.exec
  have hb := B.bytes
  have hr := B.returns
  have hts := atoms_spec (ws := wsX2_shunt) B.pre
  have hown : s.vm.findClass RX2 = some m.cls := findClass_of_methodNamed B.named
  have hlocks := B.notSynchronized
  subst hsz
  have hD := hD0.self (sz := s.heap.size)
  generalize hAe : va_A [] s.heap.size = A at hD ⊢
  have hA : ∀ q : Nat, s.heap.size ≤ q → A q := fun q h => by rw [← hAe]; exact Or.inr h
  have hS : va_S A s.heap s.heap [] := va_S.rf
  refine (fun (hall : ∀ Q0 : State → Prop, (∀ (r : Int64)  (H : Heap) (locs : List Loc) (pc : Nat) (ls : Array Slot), post r → decode cX2_shunt pc = .ok (.lreturn, 1) → va_P D vwCl [] H → va_D A [] → va_S A s.heap H locs → W p l e ({ frames := 2, cells := 0, slots := 0, locals := 48 } : Room) s m ([.long x0, .int x2, .int x3] : List Value).toArray below meth c H locs 0 0 Q0 (F0 m pc ls [.long r])) → W p l e ({ frames := 2, cells := 0, slots := 0, locals := 48 } : Room) s m ([.long x0, .int x2, .int x3] : List Value).toArray below meth c s.heap [] 0 0 Q0 (entryFrame m ([.long x0, .int x2, .int x3] : List Value).toArray 4)) => hall _ (fun r  H locs pc ls hw hd hP hD hS => W.lret (v := r) hx hb hr (fun t ht hW => ⟨⟨r, (), rfl, hw, by rw [ht]; exact hP, va_K.moved hW.alike hK, hD⟩, hS.F ht⟩) hS.2.2 hd)) ?_
  intro Q0 hret
  have hl := lv_entry ([.long x0, .int x2, .int x3]) (n := 4) (Nat.le_of_ble_eq_true rfl)
  rw [lg_entry_eq]
  generalize (lg_sl ([.long x0, .int x2, .int x3]) ++ List.replicate (4 - (lg_sl ([.long x0, .int x2, .int x3])).length) Slot.unset).toArray = ls at hl ⊢
  have hl : lv_has ls 4 [(0, .long x0), (2, .int x2), (3, .int x3)] := hl
  obtain ⟨H, hHe⟩ : ∃ H, H = s.heap := ⟨_, rfl⟩
  obtain ⟨locs, hLo⟩ : ∃ locs : List Loc, locs = [] := ⟨_, rfl⟩
  have hS : va_S A s.heap H locs := by rw [hHe, hLo]; exact hS
  have hP : va_P D vwCl [] H := by rw [hHe]; exact hP
  refine (fun (hgo : W p l e ({ frames := 2, cells := 0, slots := 0, locals := 48 } : Room) s m ([.long x0, .int x2, .int x3] : List Value).toArray below meth c H locs 0 0 Q0 (F0 m 0 ls [])) => by rw [hHe, hLo] at hgo; exact hgo) ?_
  refine lv_lload_n hx hb dX2_shunt_0 rfl (lv_at hl 0 rfl) ?_
  refine lv_iload_n hx hb dX2_shunt_1 rfl (lv_at hl 1 rfl) ?_
  refine zSl (As := [.long x0, .int x2]) (rest := []) (wc := []) (wr := []) ⟨hx, hb, hml, hown, hts⟩ hK hP hD hS hA [] [] rfl rfl (by decide) (by decide) (by decide) (c_X2_take l D cI cJ cZ H.size x0 x2 _ hw) (va_cwS 2 hts gX2_shunt_X2_take rfl rfl rfl (by decide +kernel) ⟨Nat.le_of_ble_eq_true rfl, Nat.le_of_ble_eq_true rfl⟩) rfl hl.1 (Nat.le_of_ble_eq_true rfl) dX2_shunt_2 ⟨(Nat.le_of_ble_eq_true rfl), (Nat.le_of_ble_eq_true rfl)⟩ rfl (fun r1 u H locs hw hP hD hS => ?_)
  try dsimp only at hw
  have hP : va_P D vwCl [] H := hP.sub [] rfl
  have hD : va_D A [] := hD.sub [] (by decide) rfl
  refine lv_iload_n hx hb dX2_shunt_5 rfl (lv_at hl 2 rfl) ?_
  refine lv_lload_n hx hb dX2_shunt_6 rfl (lv_at hl 0 rfl) ?_
  refine lv_iload_n hx hb dX2_shunt_7 rfl (lv_at hl 1 rfl) ?_
  refine zSi (As := [.long x0, .int x2]) (rest := [.int x3, .long r1]) (wc := []) (wr := []) ⟨hx, hb, hml, hown, hts⟩ hK hP hD hS hA [] [] rfl rfl (by decide) (by decide) (by decide) (c_X2_lastMark l D cI cJ cZ H.size x0 x2 _ hw) (va_cwS 2 hts gX2_shunt_X2_lastMark rfl rfl rfl (by decide +kernel) ⟨Nat.le_of_ble_eq_true rfl, Nat.le_of_ble_eq_true rfl⟩) rfl hl.1 (Nat.le_of_ble_eq_true rfl) dX2_shunt_8 ⟨(Nat.le_of_ble_eq_true rfl), (Nat.le_of_ble_eq_true rfl)⟩ rfl (fun r2 u H locs hw hP hD hS => ?_)
  try dsimp only at hw
  have hP : va_P D vwCl [] H := hP.sub [] rfl
  have hD : va_D A [] := hD.sub [] (by decide) rfl
  refine zSl (As := [.long r1, .int x3, .int r2]) (rest := []) (wc := []) (wr := []) ⟨hx, hb, hml, hown, hts⟩ hK hP hD hS hA [] [] rfl rfl (by decide) (by decide) (by decide) (c_X2_put l D cI cJ cZ H.size r1 x3 r2 _ hw) (va_cwS 3 hts gX2_shunt_X2_put rfl rfl rfl (by decide +kernel) ⟨Nat.le_of_ble_eq_true rfl, Nat.le_of_ble_eq_true rfl⟩) rfl hl.1 (Nat.le_of_ble_eq_true rfl) dX2_shunt_11 ⟨(Nat.le_of_ble_eq_true rfl), (Nat.le_of_ble_eq_true rfl)⟩ rfl (fun r3 u H locs hw hP hD hS => ?_)
  try dsimp only at hw
  have hP : va_P D vwCl [] H := hP.sub [] rfl
  have hD : va_D A [] := hD.sub [] (by decide) rfl
  exact hret r3  H locs 14 ls hw dX2_shunt_14 hP hD hS 
/-! X2_standing -/
def Y_X2_standing_9 (x0 : Int64) (x2 : Int32) (post : Int32 → Prop) (K9 : Int64 → Int32 → Prop) (x3 : Int64) (x5 : Int32) : Prop :=
  ((5 ≤ x5 → post x5 ) ∧ (¬ 5 ≤ x5 → (((lg_cmp x3 0) = 0 → post x5 ) ∧ (¬ (lg_cmp x3 0) = 0 → ∀ y4 : Int64, y4 = (x3.toUInt64 >>> ((3 : Int32).toInt64.toUInt64 &&& Int64.toUInt64 63)).toInt64 → (K9 y4 (x5 + 1))))))
def Z_X2_standing_9 (x0 : Int64) (x2 : Int32) (post : Int32 → Prop) : Nat → Int64 → Int32 → Prop
  | 0 => fun _ _ => False
  | n + 1 => Y_X2_standing_9 x0 x2 post (Z_X2_standing_9 x0 x2 post n)
def wp_X2_standing (x0 : Int64) (x2 : Int32) (post : Int32 → Prop) : Prop :=
  wp_X2_stackOn x0 x2 (fun (r1 : Int64) => ∃ n, Z_X2_standing_9 x0 x2 post n r1 0)
set_option maxHeartbeats 4000000 in
set_option maxRecDepth 100000 in
theorem c_X2_standing (l : Launch) (D : va_G) (cI cJ cZ : ClassId) (sz : Nat) (x0 : Int64) (x2 : Int32) (post : Int32 → Prop) (hw : wp_X2_standing x0 x2 post) : Met l yX2_standing wsX2_standing ({ frames := 1, cells := 0, slots := 0, locals := 22 } : Room) (va_Pc [.long x0, .int x2] (zPre D cI cJ cZ [] sz)) (va_Qi (fun (r : Int32) (u : Unit) => post r) (zPost D cI cJ cZ (va_A [] sz) (fun u : Unit => [])) (va_A [] sz)) 0 0 (va_A [] sz) := by
  unfold wp_X2_standing at hw
  refine Met.ofW (cc := cX2_standing) (maxL := 6) (ret := some .int) (by decide) rfl ?_
  intro p e s m args below meth c s₁ B hml hv
  obtain ⟨rfl, hsz, hP, hK, hD0⟩ := hv
  have hx := B.exec
  have hb := B.bytes
  have hr := B.returns
  have hts := atoms_spec (ws := wsX2_standing) B.pre
  have hown : s.vm.findClass RX2 = some m.cls := findClass_of_methodNamed B.named
  have hlocks := B.notSynchronized
  subst hsz
  have hD := hD0.self (sz := s.heap.size)
  generalize hAe : va_A [] s.heap.size = A at hD ⊢
  have hA : ∀ q : Nat, s.heap.size ≤ q → A q := fun q h => by rw [← hAe]; exact Or.inr h
  have hS : va_S A s.heap s.heap [] := va_S.rf
  refine (fun (hall : ∀ Q0 : State → Prop, (∀ (r : Int32)  (H : Heap) (locs : List Loc) (pc : Nat) (ls : Array Slot), post r → decode cX2_standing pc = .ok (.ireturn, 1) → va_P D vwCl [] H → va_D A [] → va_S A s.heap H locs → W p l e ({ frames := 1, cells := 0, slots := 0, locals := 22 } : Room) s m ([.long x0, .int x2] : List Value).toArray below meth c H locs 0 0 Q0 (F0 m pc ls [.int r])) → W p l e ({ frames := 1, cells := 0, slots := 0, locals := 22 } : Room) s m ([.long x0, .int x2] : List Value).toArray below meth c s.heap [] 0 0 Q0 (entryFrame m ([.long x0, .int x2] : List Value).toArray 6)) => hall _ (fun r  H locs pc ls hw hd hP hD hS => W.iret (v := r) hx hb hr (fun t ht hW => ⟨⟨r, (), rfl, hw, by rw [ht]; exact hP, va_K.moved hW.alike hK, hD⟩, hS.F ht⟩) hS.2.2 hd)) ?_
  intro Q0 hret
  have hl := lv_entry ([.long x0, .int x2]) (n := 6) (Nat.le_of_ble_eq_true rfl)
  rw [lg_entry_eq]
  generalize (lg_sl ([.long x0, .int x2]) ++ List.replicate (6 - (lg_sl ([.long x0, .int x2])).length) Slot.unset).toArray = ls at hl ⊢
  have hl : lv_has ls 6 [(0, .long x0), (2, .int x2)] := hl
  have wZ_X2_standing_9 : ∀ (n : Nat) (x3 : Int64) (x5 : Int32), Z_X2_standing_9 x0 x2 post n x3 x5 → ∀ (H : Heap) (locs : List Loc) (ls : Array Slot), va_P D vwCl [] H → va_D A [] → va_S A s.heap H locs → lv_has ls 6 [(3, .long x3), (5, .int x5)] → W p l e ({ frames := 1, cells := 0, slots := 0, locals := 22 } : Room) s m ([.long x0, .int x2] : List Value).toArray below meth c H locs 0 0 Q0 (F0 m 9 ls []) := by
    intro n
    induction n with
    | zero =>
      intro x3 x5 hw
      exact (show False from hw).elim
    | succ n hK9 =>
      intro x3 x5 hw H locs ls hP hD hS hl
      have hw : Y_X2_standing_9 x0 x2 post (Z_X2_standing_9 x0 x2 post n) x3 x5 := hw
      unfold Y_X2_standing_9 at hw
      refine lv_iload hx hb dX2_standing_9 (lv_at hl 1 rfl) ?_
      refine lv_iconst (v := 5) hx hb dX2_standing_11 (by decide) ?_
      refine lv_icmp_ge (tgt := 31) hx hb dX2_standing_12 (by decide) (fun hc2 => ?_) (fun hc2 => ?_)
      · have hw := hw.1 hc2
        refine lv_iload hx hb dX2_standing_31 (lv_at hl 1 rfl) ?_
        exact hret x5  H locs 33 ls hw dX2_standing_33 hP hD hS 
      · have hw := hw.2 hc2
        refine lv_lload_n hx hb dX2_standing_15 rfl (lv_at hl 0 rfl) ?_
        refine lv_lconst (v := 0) hx hb dX2_standing_16 (by decide) ?_
        refine W.lcmp hx hb dX2_standing_17 ?_
        refine lv_if_eq (tgt := 31) hx hb dX2_standing_18 (by decide) (fun hc3 => ?_) (fun hc3 => ?_)
        · have hw := hw.1 hc3
          refine lv_iload hx hb dX2_standing_31 (lv_at hl 1 rfl) ?_
          exact hret x5  H locs 33 ls hw dX2_standing_33 hP hD hS 
        · have hw := hw.2 hc3
          refine lv_lload_n hx hb dX2_standing_21 rfl (lv_at hl 0 rfl) ?_
          refine lv_iconst (v := 3) hx hb dX2_standing_22 (by decide) ?_
          refine lv_lushr hx hb dX2_standing_23 rfl ?_
          refine lv_topl (fun y4 ey4 => ?_)
          have hw := hw y4 ey4
          refine lv_lstore_n (lv' := [(3, .long y4), (5, .int x5)]) hx hb dX2_standing_24 rfl hl (by decide) rfl (fun ls hl => ?_)
          refine lv_iinc (v := (x5 + 1)) (lv' := [(5, .int (x5 + 1)), (3, .long y4)]) hx hb dX2_standing_25 hl (k := 1) rfl rfl (by decide) rfl (fun ls hl => ?_)
          refine lv_goto (tgt := 9) hx hb dX2_standing_28 (by decide) ?_
          exact hK9 y4 (x5 + 1) hw H locs ls hP hD hS (lv_sub hl [1, 0] rfl)
  obtain ⟨H, hHe⟩ : ∃ H, H = s.heap := ⟨_, rfl⟩
  obtain ⟨locs, hLo⟩ : ∃ locs : List Loc, locs = [] := ⟨_, rfl⟩
  have hS : va_S A s.heap H locs := by rw [hHe, hLo]; exact hS
  have hP : va_P D vwCl [] H := by rw [hHe]; exact hP
  refine (fun (hgo : W p l e ({ frames := 1, cells := 0, slots := 0, locals := 22 } : Room) s m ([.long x0, .int x2] : List Value).toArray below meth c H locs 0 0 Q0 (F0 m 0 ls [])) => by rw [hHe, hLo] at hgo; exact hgo) ?_
  refine lv_lload_n hx hb dX2_standing_0 rfl (lv_at hl 0 rfl) ?_
  refine lv_iload_n hx hb dX2_standing_1 rfl (lv_at hl 1 rfl) ?_
  refine zSl (As := [.long x0, .int x2]) (rest := []) (wc := []) (wr := []) ⟨hx, hb, hml, hown, hts⟩ hK hP hD hS hA [] [] rfl rfl (by decide) (by decide) (by decide) (c_X2_stackOn l D cI cJ cZ H.size x0 x2 _ hw) (va_cwS 2 hts gX2_standing_X2_stackOn rfl rfl rfl (by decide +kernel) ⟨Nat.le_of_ble_eq_true rfl, Nat.le_of_ble_eq_true rfl⟩) rfl hl.1 (Nat.le_of_ble_eq_true rfl) dX2_standing_2 ⟨(Nat.le_of_ble_eq_true rfl), (Nat.le_of_ble_eq_true rfl)⟩ rfl (fun r1 u H locs hw hP hD hS => ?_)
  try dsimp only at hw
  have hP : va_P D vwCl [] H := hP.sub [] rfl
  have hD : va_D A [] := hD.sub [] (by decide) rfl
  refine lv_lstore_n (lv' := [(3, .long r1), (0, .long x0), (2, .int x2)]) hx hb dX2_standing_5 rfl hl (by decide) rfl (fun ls hl => ?_)
  refine lv_iconst (v := 0) hx hb dX2_standing_6 (by decide) ?_
  refine lv_istore (lv' := [(5, .int 0), (3, .long r1), (0, .long x0), (2, .int x2)]) hx hb dX2_standing_7 hl (by decide) rfl (fun ls hl => ?_)
  obtain ⟨n5, hw⟩ := hw
  exact wZ_X2_standing_9  n5 r1 0 hw H locs ls hP hD hS (lv_sub hl [1, 0] rfl)
/-! X2_gone -/
def wp_X2_gone (x0 : Int64) (post : Int32 → Prop) : Prop :=
  post (((x0.toUInt64 >>> ((45 : Int32).toInt64.toUInt64 &&& Int64.toUInt64 63)).toInt64).toInt32) 
set_option maxHeartbeats 4000000 in
set_option maxRecDepth 100000 in
theorem c_X2_gone (l : Launch) (D : va_G) (cI cJ cZ : ClassId) (sz : Nat) (x0 : Int64) (post : Int32 → Prop) (hw : wp_X2_gone x0 post) : Met l yX2_gone wsX2_gone ({ frames := 0, cells := 0, slots := 0, locals := 0 } : Room) (va_Pc [.long x0] (zPre D cI cJ cZ [] sz)) (va_Qi (fun (r : Int32) (u : Unit) => post r) (zPost D cI cJ cZ (va_A [] sz) (fun u : Unit => [])) (va_A [] sz)) 0 0 (va_A [] sz) := by
  unfold wp_X2_gone at hw
  refine Met.ofW (cc := cX2_gone) (maxL := 2) (ret := some .int) (by decide) rfl ?_
  intro p e s m args below meth c s₁ B hml hv
  obtain ⟨rfl, hsz, hP, hK, hD0⟩ := hv
  have hx := B.exec
  have hb := B.bytes
  have hr := B.returns
  have hts := atoms_spec (ws := wsX2_gone) B.pre
  have hown : s.vm.findClass RX2 = some m.cls := findClass_of_methodNamed B.named
  have hlocks := B.notSynchronized
  subst hsz
  have hD := hD0.self (sz := s.heap.size)
  generalize hAe : va_A [] s.heap.size = A at hD ⊢
  have hA : ∀ q : Nat, s.heap.size ≤ q → A q := fun q h => by rw [← hAe]; exact Or.inr h
  have hS : va_S A s.heap s.heap [] := va_S.rf
  refine (fun (hall : ∀ Q0 : State → Prop, (∀ (r : Int32)  (H : Heap) (locs : List Loc) (pc : Nat) (ls : Array Slot), post r → decode cX2_gone pc = .ok (.ireturn, 1) → va_P D vwCl [] H → va_D A [] → va_S A s.heap H locs → W p l e ({ frames := 0, cells := 0, slots := 0, locals := 0 } : Room) s m ([.long x0] : List Value).toArray below meth c H locs 0 0 Q0 (F0 m pc ls [.int r])) → W p l e ({ frames := 0, cells := 0, slots := 0, locals := 0 } : Room) s m ([.long x0] : List Value).toArray below meth c s.heap [] 0 0 Q0 (entryFrame m ([.long x0] : List Value).toArray 2)) => hall _ (fun r  H locs pc ls hw hd hP hD hS => W.iret (v := r) hx hb hr (fun t ht hW => ⟨⟨r, (), rfl, hw, by rw [ht]; exact hP, va_K.moved hW.alike hK, hD⟩, hS.F ht⟩) hS.2.2 hd)) ?_
  intro Q0 hret
  have hl := lv_entry ([.long x0]) (n := 2) (Nat.le_of_ble_eq_true rfl)
  rw [lg_entry_eq]
  generalize (lg_sl ([.long x0]) ++ List.replicate (2 - (lg_sl ([.long x0])).length) Slot.unset).toArray = ls at hl ⊢
  have hl : lv_has ls 2 [(0, .long x0)] := hl
  obtain ⟨H, hHe⟩ : ∃ H, H = s.heap := ⟨_, rfl⟩
  obtain ⟨locs, hLo⟩ : ∃ locs : List Loc, locs = [] := ⟨_, rfl⟩
  have hS : va_S A s.heap H locs := by rw [hHe, hLo]; exact hS
  have hP : va_P D vwCl [] H := by rw [hHe]; exact hP
  refine (fun (hgo : W p l e ({ frames := 0, cells := 0, slots := 0, locals := 0 } : Room) s m ([.long x0] : List Value).toArray below meth c H locs 0 0 Q0 (F0 m 0 ls [])) => by rw [hHe, hLo] at hgo; exact hgo) ?_
  refine lv_lload_n hx hb dX2_gone_0 rfl (lv_at hl 0 rfl) ?_
  refine lv_bipush (v := 45) hx hb dX2_gone_1 (by decide) ?_
  refine lv_lushr hx hb dX2_gone_3 rfl ?_
  refine lv_l2i hx hb dX2_gone_4 rfl ?_
  exact hret (((x0.toUInt64 >>> ((45 : Int32).toInt64.toUInt64 &&& Int64.toUInt64 63)).toInt64).toInt32)  H locs 5 ls hw dX2_gone_5 hP hD hS 
