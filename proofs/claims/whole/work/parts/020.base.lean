/-! the shape of every contract here: a world of cells, the array classes cI cJ cZ -/
abbrev zT (cI cJ cZ : ClassId) : List (ClassId × FieldType) := [(cI, .int), (cJ, .long), (cZ, .boolean)]
def zPre (D : va_G) (cI cJ cZ : ClassId) (ws : va_W) (sz : Nat) (U : State) : Prop := U.heap.size = sz ∧ va_P D vwCl ws U.heap ∧ va_K D vwCl (zT cI cJ cZ) U ∧ va_D (fun _ => True) ws
def zPost (D : va_G) (cI cJ cZ : ClassId) (A : Nat → Prop) {S : Type} (w : S → va_W) (u : S) (t : State) : Prop := va_P D vwCl (w u) t.heap ∧ va_K D vwCl (zT cI cJ cZ) t ∧ va_D A (w u)
theorem zBlind {D : va_G} {cI cJ cZ : ClassId} {ws : va_W} {sz : Nat} {av : List Value} : FrameBlind (va_Pc av (zPre D cI cJ cZ ws sz)) := by
  intro a U g mk q
  obtain ⟨q0, q1, qP, qK, qD⟩ := q
  exact ⟨q0, q1, qP, va_K.moved (u := U) (U := U.calling g mk a) (Vm.Alike.refl U.vm) qK, qD⟩
section ZC
variable {p : Program} {l : Launch} {e : Env} {R : Room} {s : State} {m : MethodId} {args : Array Value} {below : List Frame} {meth : Method} {c : Code} {H : Heap} {locs : List Loc} {cells slots : Nat} {Q : State → Prop}
variable {cc : ByteArray} {nL pc : Nat} {ls : Array Slot} {D : va_G} {cI cJ cZ : ClassId} {A : Nat → Prop} {H0 : Heap} {ws wc wr : va_W} {own C : String} {index : Nat} {y : MethodName} {bytes : ByteArray} {maxL : Nat} {ret : Option FieldType} {wsy : List Cond} {rm : Room} {mc ms n : Nat} {Ts : List Cond} {b : Nat} {As rest stk : List Value} {S : Type} {w : S → va_W}
theorem zpS (hK : va_K D vwCl (zT cI cJ cZ) s) (hP : va_P D vwCl ws H) (hD : va_D A ws) (isC : List Nat) (hC : isC.map (fun i => ws[i]?) = wc.map some) (hnC : va_nd isC = true) (av : List Value) : ∀ U : State, U.heap = H → s.WarmedH U.vm → (va_Pc av (zPre D cI cJ cZ wc H.size)) av.toArray U := by
  intro U hU hW
  have hPc : va_P D vwCl wc H := hP.sub isC (by
    have h2 : isC.filterMap (fun i => ws[i]?) = (isC.map (fun i => ws[i]?)).filterMap id := by rw [List.filterMap_map]; rfl
    rw [h2, hC, List.filterMap_map]
    exact List.filterMap_some)
  exact ⟨rfl, by rw [hU], by rw [hU]; exact hPc, va_K.moved hW.alike hK, (hD.sub isC hnC hC).weaken (fun _ _ _ _ => trivial)⟩
theorem zVi {post : Int32 → S → Prop} (CF : CallFix p m c cc nL s args Ts own) (hK : va_K D vwCl (zT cI cJ cZ) s) (hP : va_P D vwCl ws H) (hD : va_D A ws) (hS : va_S A H0 H locs) (hA : ∀ q, H0.size ≤ q → A q) (isC isR : List Nat) (hC : isC.map (fun i => ws[i]?) = wc.map some) (hR : isR.map (fun i => ws[i]?) = wr.map some) (hnC : va_nd isC = true) (hnR : va_nd isR = true) (hdis : ∀ i ∈ isR, i ∉ isC)
    (hM : Met l y wsy rm (va_Pc (.ref b :: As) (zPre D cI cJ cZ wc H.size)) (va_Qi post (zPost D cI cJ cZ (va_A wc H.size) w) (va_A wc H.size)) mc ms (va_A wc H.size))
    (cw : CallW R s args own C index y bytes maxL ret wsy rm mc ms n) (q0 ci : Nat) {cq : vw_C} {fs : List Value} (hci : vwCl[ci]? = some cq) (hcq : cq.1 = C) (he : ws[q0]? = some (b, .inr (ci, fs)))
    (hnn : As.length = n) (hls : ls.size = nL) (hroom : (rest.map fun v => v.category).sum ≤ 8) (hdg : decode cc pc = .ok (.invokevirtual index, 3)) (hf : cells + mc ≤ R.cells ∧ slots + ms ≤ R.slots) (hstk : stk = As.reverse ++ .ref b :: rest)
    (k : ∀ (r : Int32) (u : S) (H1 : Heap) (locs1 : List Loc), post r u → va_P D vwCl (wr ++ w u) H1 → va_D A (wr ++ w u) → va_S A H0 H1 locs1 → W p l e R s m args below meth c H1 locs1 (cells + mc) (slots + ms) Q (F0 m (pc + 3) ls (.int r :: rest))) : W p l e R s m args below meth c H locs cells slots Q (F0 m pc ls stk) := by
  subst hstk
  subst hcq
  have hFc := va_free (wc := wc) hD hS hA isC hC
  refine va_calli (va_runV (As := As) (rest := rest) CF hM cw ⟨zBlind, va_recv hK hP hci he, fun U hU hW => zpS hK hP hD isC hC hnC _ U hU hW⟩ rfl hnn hls rfl (lv_room hroom) hdg hf) hS (fun q _ h => hFc q h) hFc (fun r u t H1 locs1 ht hvm hw hB hz1 hk1 hS1 => ?_)
  obtain ⟨hP1, hK1, hD1⟩ := hB
  rw [ht] at hP1
  obtain ⟨hP2, hD2⟩ := va_join (wr := wr) (w1 := w u) hP hD isC isR hC hR hnR hdis hk1 hFc hP1 hD1
  exact k r u H1 locs1 hw hP2 hD2 hS1
theorem zVv {post : S → Prop} (CF : CallFix p m c cc nL s args Ts own) (hK : va_K D vwCl (zT cI cJ cZ) s) (hP : va_P D vwCl ws H) (hD : va_D A ws) (hS : va_S A H0 H locs) (hA : ∀ q, H0.size ≤ q → A q) (isC isR : List Nat) (hC : isC.map (fun i => ws[i]?) = wc.map some) (hR : isR.map (fun i => ws[i]?) = wr.map some) (hnC : va_nd isC = true) (hnR : va_nd isR = true) (hdis : ∀ i ∈ isR, i ∉ isC)
    (hM : Met l y wsy rm (va_Pc (.ref b :: As) (zPre D cI cJ cZ wc H.size)) (va_Qv post (zPost D cI cJ cZ (va_A wc H.size) w) (va_A wc H.size)) mc ms (va_A wc H.size))
    (cw : CallW R s args own C index y bytes maxL ret wsy rm mc ms n) (q0 ci : Nat) {cq : vw_C} {fs : List Value} (hci : vwCl[ci]? = some cq) (hcq : cq.1 = C) (he : ws[q0]? = some (b, .inr (ci, fs)))
    (hnn : As.length = n) (hls : ls.size = nL) (hroom : (rest.map fun v => v.category).sum ≤ 8) (hdg : decode cc pc = .ok (.invokevirtual index, 3)) (hf : cells + mc ≤ R.cells ∧ slots + ms ≤ R.slots) (hstk : stk = As.reverse ++ .ref b :: rest)
    (k : ∀ (u : S) (H1 : Heap) (locs1 : List Loc), post u → va_P D vwCl (wr ++ w u) H1 → va_D A (wr ++ w u) → va_S A H0 H1 locs1 → W p l e R s m args below meth c H1 locs1 (cells + mc) (slots + ms) Q (F0 m (pc + 3) ls rest)) : W p l e R s m args below meth c H locs cells slots Q (F0 m pc ls stk) := by
  subst hstk
  subst hcq
  have hFc := va_free (wc := wc) hD hS hA isC hC
  refine va_callv (va_runV (As := As) (rest := rest) CF hM cw ⟨zBlind, va_recv hK hP hci he, fun U hU hW => zpS hK hP hD isC hC hnC _ U hU hW⟩ rfl hnn hls rfl (lv_room hroom) hdg hf) hS (fun q _ h => hFc q h) hFc (fun u t H1 locs1 ht hvm hw hB hz1 hk1 hS1 => ?_)
  obtain ⟨hP1, hK1, hD1⟩ := hB
  rw [ht] at hP1
  obtain ⟨hP2, hD2⟩ := va_join (wr := wr) (w1 := w u) hP hD isC isR hC hR hnR hdis hk1 hFc hP1 hD1
  exact k u H1 locs1 hw hP2 hD2 hS1
theorem zVl {post : Int64 → S → Prop} (CF : CallFix p m c cc nL s args Ts own) (hK : va_K D vwCl (zT cI cJ cZ) s) (hP : va_P D vwCl ws H) (hD : va_D A ws) (hS : va_S A H0 H locs) (hA : ∀ q, H0.size ≤ q → A q) (isC isR : List Nat) (hC : isC.map (fun i => ws[i]?) = wc.map some) (hR : isR.map (fun i => ws[i]?) = wr.map some) (hnC : va_nd isC = true) (hnR : va_nd isR = true) (hdis : ∀ i ∈ isR, i ∉ isC)
    (hM : Met l y wsy rm (va_Pc (.ref b :: As) (zPre D cI cJ cZ wc H.size)) (va_Ql post (zPost D cI cJ cZ (va_A wc H.size) w) (va_A wc H.size)) mc ms (va_A wc H.size))
    (cw : CallW R s args own C index y bytes maxL ret wsy rm mc ms n) (q0 ci : Nat) {cq : vw_C} {fs : List Value} (hci : vwCl[ci]? = some cq) (hcq : cq.1 = C) (he : ws[q0]? = some (b, .inr (ci, fs)))
    (hnn : As.length = n) (hls : ls.size = nL) (hroom : (rest.map fun v => v.category).sum ≤ 8) (hdg : decode cc pc = .ok (.invokevirtual index, 3)) (hf : cells + mc ≤ R.cells ∧ slots + ms ≤ R.slots) (hstk : stk = As.reverse ++ .ref b :: rest)
    (k : ∀ (r : Int64) (u : S) (H1 : Heap) (locs1 : List Loc), post r u → va_P D vwCl (wr ++ w u) H1 → va_D A (wr ++ w u) → va_S A H0 H1 locs1 → W p l e R s m args below meth c H1 locs1 (cells + mc) (slots + ms) Q (F0 m (pc + 3) ls (.long r :: rest))) : W p l e R s m args below meth c H locs cells slots Q (F0 m pc ls stk) := by
  subst hstk
  subst hcq
  have hFc := va_free (wc := wc) hD hS hA isC hC
  refine va_calll (va_runV (As := As) (rest := rest) CF hM cw ⟨zBlind, va_recv hK hP hci he, fun U hU hW => zpS hK hP hD isC hC hnC _ U hU hW⟩ rfl hnn hls rfl (lv_room hroom) hdg hf) hS (fun q _ h => hFc q h) hFc (fun r u t H1 locs1 ht hvm hw hB hz1 hk1 hS1 => ?_)
  obtain ⟨hP1, hK1, hD1⟩ := hB
  rw [ht] at hP1
  obtain ⟨hP2, hD2⟩ := va_join (wr := wr) (w1 := w u) hP hD isC isR hC hR hnR hdis hk1 hFc hP1 hD1
  exact k r u H1 locs1 hw hP2 hD2 hS1
theorem zSi {post : Int32 → S → Prop} (CF : CallFix p m c cc nL s args Ts own) (hK : va_K D vwCl (zT cI cJ cZ) s) (hP : va_P D vwCl ws H) (hD : va_D A ws) (hS : va_S A H0 H locs) (hA : ∀ q, H0.size ≤ q → A q) (isC isR : List Nat) (hC : isC.map (fun i => ws[i]?) = wc.map some) (hR : isR.map (fun i => ws[i]?) = wr.map some) (hnC : va_nd isC = true) (hnR : va_nd isR = true) (hdis : ∀ i ∈ isR, i ∉ isC)
    (hM : Met l y wsy rm (va_Pc As (zPre D cI cJ cZ wc H.size)) (va_Qi post (zPost D cI cJ cZ (va_A wc H.size) w) (va_A wc H.size)) mc ms (va_A wc H.size))
    (cw : CallB R s args own index y bytes maxL ret wsy rm mc ms n ∧ (Cond.static y).before args s = true)
    (hnn : As.length = n) (hls : ls.size = nL) (hroom : (rest.map fun v => v.category).sum ≤ 8) (hdg : decode cc pc = .ok (.invokestatic index, 3)) (hf : cells + mc ≤ R.cells ∧ slots + ms ≤ R.slots) (hstk : stk = As.reverse ++ rest)
    (k : ∀ (r : Int32) (u : S) (H1 : Heap) (locs1 : List Loc), post r u → va_P D vwCl (wr ++ w u) H1 → va_D A (wr ++ w u) → va_S A H0 H1 locs1 → W p l e R s m args below meth c H1 locs1 (cells + mc) (slots + ms) Q (F0 m (pc + 3) ls (.int r :: rest))) : W p l e R s m args below meth c H locs cells slots Q (F0 m pc ls stk) := by
  subst hstk
  have hFc := va_free (wc := wc) hD hS hA isC hC
  refine va_calli (va_runS (As := As) (rest := rest) CF hM cw ⟨zBlind, fun U hU hW => zpS hK hP hD isC hC hnC _ U hU hW⟩ rfl hnn hls rfl (lv_room hroom) hdg hf) hS (fun q _ h => hFc q h) hFc (fun r u t H1 locs1 ht hvm hw hB hz1 hk1 hS1 => ?_)
  obtain ⟨hP1, hK1, hD1⟩ := hB
  rw [ht] at hP1
  obtain ⟨hP2, hD2⟩ := va_join (wr := wr) (w1 := w u) hP hD isC isR hC hR hnR hdis hk1 hFc hP1 hD1
  exact k r u H1 locs1 hw hP2 hD2 hS1
theorem zSl {post : Int64 → S → Prop} (CF : CallFix p m c cc nL s args Ts own) (hK : va_K D vwCl (zT cI cJ cZ) s) (hP : va_P D vwCl ws H) (hD : va_D A ws) (hS : va_S A H0 H locs) (hA : ∀ q, H0.size ≤ q → A q) (isC isR : List Nat) (hC : isC.map (fun i => ws[i]?) = wc.map some) (hR : isR.map (fun i => ws[i]?) = wr.map some) (hnC : va_nd isC = true) (hnR : va_nd isR = true) (hdis : ∀ i ∈ isR, i ∉ isC)
    (hM : Met l y wsy rm (va_Pc As (zPre D cI cJ cZ wc H.size)) (va_Ql post (zPost D cI cJ cZ (va_A wc H.size) w) (va_A wc H.size)) mc ms (va_A wc H.size))
    (cw : CallB R s args own index y bytes maxL ret wsy rm mc ms n ∧ (Cond.static y).before args s = true)
    (hnn : As.length = n) (hls : ls.size = nL) (hroom : (rest.map fun v => v.category).sum ≤ 8) (hdg : decode cc pc = .ok (.invokestatic index, 3)) (hf : cells + mc ≤ R.cells ∧ slots + ms ≤ R.slots) (hstk : stk = As.reverse ++ rest)
    (k : ∀ (r : Int64) (u : S) (H1 : Heap) (locs1 : List Loc), post r u → va_P D vwCl (wr ++ w u) H1 → va_D A (wr ++ w u) → va_S A H0 H1 locs1 → W p l e R s m args below meth c H1 locs1 (cells + mc) (slots + ms) Q (F0 m (pc + 3) ls (.long r :: rest))) : W p l e R s m args below meth c H locs cells slots Q (F0 m pc ls stk) := by
  subst hstk
  have hFc := va_free (wc := wc) hD hS hA isC hC
  refine va_calll (va_runS (As := As) (rest := rest) CF hM cw ⟨zBlind, fun U hU hW => zpS hK hP hD isC hC hnC _ U hU hW⟩ rfl hnn hls rfl (lv_room hroom) hdg hf) hS (fun q _ h => hFc q h) hFc (fun r u t H1 locs1 ht hvm hw hB hz1 hk1 hS1 => ?_)
  obtain ⟨hP1, hK1, hD1⟩ := hB
  rw [ht] at hP1
  obtain ⟨hP2, hD2⟩ := va_join (wr := wr) (w1 := w u) hP hD isC isR hC hR hnR hdis hk1 hFc hP1 hD1
  exact k r u H1 locs1 hw hP2 hD2 hS1
theorem zSv {post : S → Prop} (CF : CallFix p m c cc nL s args Ts own) (hK : va_K D vwCl (zT cI cJ cZ) s) (hP : va_P D vwCl ws H) (hD : va_D A ws) (hS : va_S A H0 H locs) (hA : ∀ q, H0.size ≤ q → A q) (isC isR : List Nat) (hC : isC.map (fun i => ws[i]?) = wc.map some) (hR : isR.map (fun i => ws[i]?) = wr.map some) (hnC : va_nd isC = true) (hnR : va_nd isR = true) (hdis : ∀ i ∈ isR, i ∉ isC)
    (hM : Met l y wsy rm (va_Pc As (zPre D cI cJ cZ wc H.size)) (va_Qv post (zPost D cI cJ cZ (va_A wc H.size) w) (va_A wc H.size)) mc ms (va_A wc H.size))
    (cw : CallB R s args own index y bytes maxL ret wsy rm mc ms n ∧ (Cond.static y).before args s = true)
    (hnn : As.length = n) (hls : ls.size = nL) (hroom : (rest.map fun v => v.category).sum ≤ 8) (hdg : decode cc pc = .ok (.invokestatic index, 3)) (hf : cells + mc ≤ R.cells ∧ slots + ms ≤ R.slots) (hstk : stk = As.reverse ++ rest)
    (k : ∀ (u : S) (H1 : Heap) (locs1 : List Loc), post u → va_P D vwCl (wr ++ w u) H1 → va_D A (wr ++ w u) → va_S A H0 H1 locs1 → W p l e R s m args below meth c H1 locs1 (cells + mc) (slots + ms) Q (F0 m (pc + 3) ls rest)) : W p l e R s m args below meth c H locs cells slots Q (F0 m pc ls stk) := by
  subst hstk
  have hFc := va_free (wc := wc) hD hS hA isC hC
  refine va_callv (va_runS (As := As) (rest := rest) CF hM cw ⟨zBlind, fun U hU hW => zpS hK hP hD isC hC hnC _ U hU hW⟩ rfl hnn hls rfl (lv_room hroom) hdg hf) hS (fun q _ h => hFc q h) hFc (fun u t H1 locs1 ht hvm hw hB hz1 hk1 hS1 => ?_)
  obtain ⟨hP1, hK1, hD1⟩ := hB
  rw [ht] at hP1
  obtain ⟨hP2, hD2⟩ := va_join (wr := wr) (w1 := w u) hP hD isC isR hC hR hnR hdis hk1 hFc hP1 hD1
  exact k u H1 locs1 hw hP2 hD2 hS1
end ZC
theorem z_tab4 {x : Int32} (h0 : ¬ x = 0) (h1 : ¬ x = 1) (h2 : ¬ x = 2) (h3 : ¬ x = 3) : x.toInt < 0 ∨ 3 < x.toInt := by
  rcases Int.lt_or_le x.toInt 0 with h | h
  · exact Or.inl h
  · refine Or.inr ?_
    rcases Int.lt_or_le 3 x.toInt with q | q
    · exact q
    · exfalso
      have hx : ∀ k : Int32, x.toInt = k.toInt → x = k := fun k hk => Int32.toInt_inj.mp hk
      rcases (show x.toInt = 0 ∨ x.toInt = 1 ∨ x.toInt = 2 ∨ x.toInt = 3 by omega) with e | e | e | e
      · exact h0 (hx 0 e)
      · exact h1 (hx 1 e)
      · exact h2 (hx 2 e)
      · exact h3 (hx 3 e)
