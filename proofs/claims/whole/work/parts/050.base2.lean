/-! calls of constructors, calls that answer a new array, the search that may not be made yet -/
theorem zAi {D : va_G} {cl : List vw_C} {cI cJ cZ cA : ClassId} {s : State} (h : va_K D cl (zT cI cJ cZ ++ [(cA, .int)]) s) : cI = cA := by
  have h1 : s.vm.findClass ("[" ++ FieldType.int.toString) = some cI := (h.2 0 (cI, .int) rfl).2
  have h2 : s.vm.findClass ("[" ++ FieldType.int.toString) = some cA := (h.2 3 (cA, .int) rfl).2
  rw [h1] at h2
  exact Option.some.inj h2
theorem zAj {D : va_G} {cl : List vw_C} {cI cJ cZ cA : ClassId} {s : State} (h : va_K D cl (zT cI cJ cZ ++ [(cA, .long)]) s) : cJ = cA := by
  have h1 : s.vm.findClass ("[" ++ FieldType.long.toString) = some cJ := (h.2 1 (cJ, .long) rfl).2
  have h2 : s.vm.findClass ("[" ++ FieldType.long.toString) = some cA := (h.2 3 (cA, .long) rfl).2
  rw [h1] at h2
  exact Option.some.inj h2
theorem zAz {D : va_G} {cl : List vw_C} {cI cJ cZ cA : ClassId} {s : State} (h : va_K D cl (zT cI cJ cZ ++ [(cA, .boolean)]) s) : cZ = cA := by
  have h1 : s.vm.findClass ("[" ++ FieldType.boolean.toString) = some cZ := (h.2 2 (cZ, .boolean) rfl).2
  have h2 : s.vm.findClass ("[" ++ FieldType.boolean.toString) = some cA := (h.2 3 (cA, .boolean) rfl).2
  rw [h1] at h2
  exact Option.some.inj h2
/-- the search: its address and its four rows', once it is made -/
abbrev zSO : Type := Option (Nat × Nat × Nat × Nat × Nat)
def zSr (so : zSO) : Value := match so with
  | none => .null
  | some t => .ref t.1
def zSc (cI cJ : ClassId) (aD : Nat) (so : zSO) (ps : Nat → Int64) (mf st sl : Nat → Int32) (met goal : Int32) : va_W := match so with
  | none => []
  | some t => [(t.1, .inr (3, [.ref aD, .ref t.2.1, .ref t.2.2.1, .ref t.2.2.2.1, .ref t.2.2.2.2, .int met, .int goal])), (t.2.1, .inl (cJ, 2956, .inr (.inl ps))), (t.2.2.1, .inl (cI, 2956, .inl mf)), (t.2.2.2.1, .inl (cI, 2956, .inl st)), (t.2.2.2.2, .inl (cI, 4096, .inl sl))]
def zNo (so : zSO) (ps : Nat → Int64) (mf st sl : Nat → Int32) (met goal : Int32) : Prop := so = none → ps = (fun _ => 0) ∧ mf = (fun _ => 0) ∧ st = (fun _ => 0) ∧ sl = (fun _ => 0) ∧ met = 0 ∧ goal = (-1)
section ZD
variable {p : Program} {l : Launch} {e : Env} {R : Room} {s : State} {m : MethodId} {args : Array Value} {below : List Frame} {meth : Method} {c : Code} {H : Heap} {locs : List Loc} {cells slots : Nat} {Q : State → Prop}
variable {cc : ByteArray} {nL pc : Nat} {ls : Array Slot} {D : va_G} {cI cJ cZ : ClassId} {A : Nat → Prop} {H0 : Heap} {ws wc wr : va_W} {own C : String} {index : Nat} {y : MethodName} {bytes : ByteArray} {maxL : Nat} {ret : Option FieldType} {wsy : List Cond} {rm : Room} {mc ms n : Nat} {Ts : List Cond} {b : Nat} {As rest stk : List Value} {S : Type}
theorem zIv {w : S → va_W} {post : S → Prop} (CF : CallFix p m c cc nL s args Ts own) (hK : va_K D vwCl (zT cI cJ cZ) s) (hP : va_P D vwCl ws H) (hD : va_D A ws) (hS : va_S A H0 H locs) (hA : ∀ q, H0.size ≤ q → A q) (isC isR : List Nat) (hC : isC.map (fun i => ws[i]?) = wc.map some) (hR : isR.map (fun i => ws[i]?) = wr.map some) (hnC : va_nd isC = true) (hnR : va_nd isR = true) (hdis : ∀ i ∈ isR, i ∉ isC)
    (hM : Met l y wsy rm (va_Pc (.ref b :: As) (zPre D cI cJ cZ wc H.size)) (va_Qv post (zPost D cI cJ cZ (va_A wc H.size) w) (va_A wc H.size)) mc ms (va_A wc H.size))
    (cw : CallB R s args own index y bytes maxL none wsy rm mc ms n ∧ y.name = "<init>" ∧ (Cond.instanceMethod y).before args s = true)
    (hnn : As.length = n) (hls : ls.size = nL) (hroom : (rest.map fun v => v.category).sum ≤ 8) (hdg : decode cc pc = .ok (.invokespecial index, 3)) (hf : cells + mc ≤ R.cells ∧ slots + ms ≤ R.slots) (hstk : stk = As.reverse ++ .ref b :: rest)
    (k : ∀ (u : S) (H1 : Heap) (locs1 : List Loc), post u → va_P D vwCl (wr ++ w u) H1 → va_D A (wr ++ w u) → va_S A H0 H1 locs1 → W p l e R s m args below meth c H1 locs1 (cells + mc) (slots + ms) Q (F0 m (pc + 3) ls rest)) : W p l e R s m args below meth c H locs cells slots Q (F0 m pc ls stk) := by
  subst hstk
  have hFc := va_free (wc := wc) hD hS hA isC hC
  refine va_callv (va_runI (As := As) (rest := rest) CF hM cw ⟨zBlind, fun U hU hW => zpS hK hP hD isC hC hnC _ U hU hW⟩ rfl hnn hls rfl (lv_room hroom) hdg hf) hS (fun q _ h => hFc q h) hFc (fun u t H1 locs1 ht hvm hw hB hz1 hk1 hS1 => ?_)
  obtain ⟨hP1, hK1, hD1⟩ := hB
  rw [ht] at hP1
  obtain ⟨hP2, hD2⟩ := va_join (wr := wr) (w1 := w u) hP hD isC isR hC hR hnR hdis hk1 hFc hP1 hD1
  exact k u H1 locs1 hw hP2 hD2 hS1
theorem zVr {w : S → Nat → va_W} {post : S → Prop} (CF : CallFix p m c cc nL s args Ts own) (hK : va_K D vwCl (zT cI cJ cZ) s) (hP : va_P D vwCl ws H) (hD : va_D A ws) (hS : va_S A H0 H locs) (hA : ∀ q, H0.size ≤ q → A q) (isC isR : List Nat) (hC : isC.map (fun i => ws[i]?) = wc.map some) (hR : isR.map (fun i => ws[i]?) = wr.map some) (hnC : va_nd isC = true) (hnR : va_nd isR = true) (hdis : ∀ i ∈ isR, i ∉ isC)
    (hM : Met l y wsy rm (va_Pc (.ref b :: As) (zPre D cI cJ cZ wc H.size)) (va_Qr post (fun u a t => zPost D cI cJ cZ (va_A wc H.size) (fun u => w u a) u t) (va_A wc H.size)) mc ms (va_A wc H.size))
    (cw : CallW R s args own C index y bytes maxL ret wsy rm mc ms n) (q0 ci : Nat) {cq : vw_C} {fs : List Value} (hci : vwCl[ci]? = some cq) (hcq : cq.1 = C) (he : ws[q0]? = some (b, .inr (ci, fs)))
    (hnn : As.length = n) (hls : ls.size = nL) (hroom : (rest.map fun v => v.category).sum ≤ 8) (hdg : decode cc pc = .ok (.invokevirtual index, 3)) (hf : cells + mc ≤ R.cells ∧ slots + ms ≤ R.slots) (hstk : stk = As.reverse ++ .ref b :: rest)
    (k : ∀ (q : Nat) (u : S) (H1 : Heap) (locs1 : List Loc), post u → va_P D vwCl (wr ++ w u q) H1 → va_D A (wr ++ w u q) → va_S A H0 H1 locs1 → W p l e R s m args below meth c H1 locs1 (cells + mc) (slots + ms) Q (F0 m (pc + 3) ls (.ref q :: rest))) : W p l e R s m args below meth c H locs cells slots Q (F0 m pc ls stk) := by
  subst hstk
  subst hcq
  have hFc := va_free (wc := wc) hD hS hA isC hC
  refine va_callr (va_runV (As := As) (rest := rest) CF hM cw ⟨zBlind, va_recv hK hP hci he, fun U hU hW => zpS hK hP hD isC hC hnC _ U hU hW⟩ rfl hnn hls rfl (lv_room hroom) hdg hf) hS (fun q _ h => hFc q h) hFc (fun u a t H1 locs1 ht hvm hw hB hz1 hk1 hS1 => ?_)
  obtain ⟨hP1, hK1, hD1⟩ := hB
  rw [ht] at hP1
  obtain ⟨hP2, hD2⟩ := va_join (wr := wr) (w1 := w u a) hP hD isC isR hC hR hnR hdis hk1 hFc hP1 hD1
  exact k a u H1 locs1 hw hP2 hD2 hS1
end ZD
