/-! the reference's way out without shunts -/
def b2 (b : Bool) : Int32 := if b then 1 else 0
theorem nar1 : vp_nar .boolean (1 : Int32) = 1 := by decide
theorem nar0 : vp_nar .boolean (0 : Int32) = 0 := by decide
theorem can_congr (sv : Nat → Nat → Bool) : ∀ (r i : Nat) (L L' : Nat → List Nat), (∀ t, t < 3 → L t = L' t) → can sv r i L = can sv r i L'
  | 0, _, _, _, _ => rfl
  | r + 1, i, L, L', h => by
    rw [can_succ, can_succ]
    have e : ∀ t, t < 3 → tryT sv r i L t = tryT sv r i L' t := by
      intro t ht
      unfold tryT
      rw [← h t ht]
      cases L t with
      | nil => rfl
      | cons u R =>
        simp only
        rw [can_congr sv r (i + 1) (fun t' => if t' = t then R else L t') (fun t' => if t' = t then R else L' t') (fun t' ht' => by
          by_cases q : t' = t
          · simp [q]
          · simp only [if_neg q]; exact h t' ht')]
    rw [e 0 (by omega), e 1 (by omega), e 2 (by omega)]
/-- what is left of a track when a stand there -/
def rem (L : List Nat) (a : Nat) : List Nat := L.drop (L.length - a)
theorem rem_all (L : List Nat) : rem L L.length = L := by unfold rem; rw [Nat.sub_self]; rfl
theorem rem_0 (L : List Nat) : rem L 0 = [] := by unfold rem; simp
theorem rem_succ (L : List Nat) {a : Nat} (h : a + 1 ≤ L.length) : rem L (a + 1) = L[L.length - (a + 1)]'(by omega) :: rem L a := by
  unfold rem
  rw [List.drop_eq_getElem_cons (by omega)]
  congr 2
  omega
def rl (L : Nat → List Nat) (a b c : Nat) : Nat → List Nat := fun t => if t = 0 then rem (L 0) a else if t = 1 then rem (L 1) b else rem (L 2) c
section P2
variable {U n : Nat} {L : Nat → List Nat} {kinds broken wanted stack depth : Nat → Int32}
theorem t_off {canBe : Nat → Int32} {post : (Nat → Int32) → Prop} {t a idx : Nat} {x3 k : Int32} (ht : t < 3) (h5 : (L t).length ≤ 5) (he : ∀ u ∈ L t, u < 5) (ha : a ≤ (L t).length)
    (hst : ∀ a, (h : a + 1 ≤ (L t).length) → stack (5 * t + a) = nI ((L t)[(L t).length - (a + 1)]'(by omega))) (hx : 0 < a → x3 = nI idx ∧ idx < 216)
    (hp : ∀ cb : Nat → Int32, ((rem (L t) a = [] → cb = canBe) ∧ ∀ u R, rem (L t) a = u :: R → cb = if srv kinds broken u k then upd canBe idx 1 else canBe) → post cb) : wp_X7_off kinds broken stack (nI a) (nI t) x3 k canBe post := by
  unfold wp_X7_off
  cases a with
  | zero =>
    refine ⟨fun _ => hp canBe ⟨fun _ => rfl, fun u R q => by rw [rem_0] at q; exact absurd q (by simp)⟩, fun q => absurd (by decide) q⟩
  | succ a =>
    obtain ⟨rfl, hi⟩ := hx (by omega)
    have e : (((5 : Int32) * nI t) + nI (a + 1)) - 1 = nI (5 * t + a) := by
      show ((nI 5 * nI t) + nI (a + 1)) - nI 1 = nI (5 * t + a)
      rw [pk_mul, nI_add, i_sub (by omega)]
      rfl
    rw [e]
    refine ⟨fun q => absurd ((i_le (b := 0) (by omega) (by omega)).mp q) (by omega), fun _ => ⟨i_in (by omega) (by omega), ?_⟩⟩
    rw [i_cl (by omega), hst a (by omega)]
    have hu : (L t)[(L t).length - (a + 1)]'(by omega) < 5 := he _ (List.getElem_mem _)
    have hr := rem_succ (L t) (a := a) (by omega)
    refine t_isWanted hu ?_
    have hp2 := hp (if srv kinds broken ((L t)[(L t).length - (a + 1)]'(by omega)) k then upd canBe idx 1 else canBe) ⟨fun q => by rw [hr] at q; exact absurd q (by simp), fun u R q => by rw [hr] at q; rw [(List.cons.inj q).1]⟩
    rw [i_cl (by omega), nar1]
    cases hs : srv kinds broken ((L t)[(L t).length - (a + 1)]'(by omega)) k with
    | false => rw [hs] at hp2; exact ⟨fun _ => hp2, fun q => absurd rfl q⟩
    | true => rw [hs] at hp2; exact ⟨fun q => absurd q (by decide), fun _ => ⟨i_in hi (by omega), hp2⟩⟩
/-- the state of the reference's search: what is marked, whether the end was met, what is still to be looked at -/
def JL (sv : Nat → Nat → Bool) (U n : Nat) (L : Nat → List Nat) (cb : Nat → Int32) (is : Bool) (P : Nat → Nat → Nat → Prop) : Prop :=
  (∀ a b c, a ≤ (L 0).length → b ≤ (L 1).length → c ≤ (L 2).length → cb (36 * a + 6 * b + c) ≠ 0 → U - a - b - c ≤ n ∧ (can sv (n - (U - a - b - c)) (U - a - b - c) (rl L a b c) = true → can sv n 0 L = true)) ∧ (is = true → can sv n 0 L = true) ∧ (can sv n 0 L = true → is = true ∨ ∃ a b c, a ≤ (L 0).length ∧ b ≤ (L 1).length ∧ c ≤ (L 2).length ∧ P a b c ∧ cb (36 * a + 6 * b + c) ≠ 0 ∧ can sv (n - (U - a - b - c)) (U - a - b - c) (rl L a b c) = true)
/-- before c at (a, b) -/
def Pc (a b k : Nat) : Nat → Nat → Nat → Prop := fun a' b' c' => a' < a ∨ (a' = a ∧ (b' < b ∨ (b' = b ∧ c' < k)))
variable {post : Int32 → (Nat → Int32) → Prop}
theorem t_clBody (hU : (L 0).length + (L 1).length + (L 2).length = U) (hU5 : U ≤ 5) (hn : n ≤ 5) (he : ∀ t, t < 3 → ∀ u ∈ L t, u < 5) (hst : ∀ t, t < 3 → ∀ a, (h : a + 1 ≤ (L t).length) → stack (5 * t + a) = nI ((L t)[(L t).length - (a + 1)]'(by omega)))
    {a b c : Nat} (ha : a ≤ (L 0).length) (hb : b ≤ (L 1).length) (hc : c ≤ (L 2).length) {cb : Nat → Int32} {is : Bool} (hJ : JL (fun u i => srv kinds broken u (wanted i)) U n L cb is (Pc a b (c + 1))) {K86 : Int32 → Int32 → (Nat → Int32) → Prop} {K240 : Int32 → (Nat → Int32) → Prop}
    (hK : ∀ cb' is', JL (fun u i => srv kinds broken u (wanted i)) U n L cb' is' (Pc a b c) → K86 (b2 is') (nI c + (-1)) cb') : Y_X7_canLeave_86 (nI U) kinds broken (nI n) wanted stack depth post (nI a) (nI b) K240 K86 (b2 is) (nI c) cb := by
  unfold Y_X7_canLeave_86
  refine ⟨fun q => absurd q (nI_pos (by omega)), fun _ => ?_⟩
  have ei : ((nI U - nI a) - nI b) - nI c = nI (U - a - b - c) := by
    rw [i_sub (by omega), i_sub (by omega), i_sub (by omega)]
  have ex : (((36 : Int32) * nI a) + ((6 : Int32) * nI b)) + nI c = nI (36 * a + 6 * b + c) := by
    show ((nI 36 * nI a) + (nI 6 * nI b)) + nI c = _
    rw [pk_mul, pk_mul, nI_add, nI_add]
  rw [ei]
  intro y ey
  subst ey
  rw [ex]
  refine ⟨i_in (by omega) (by omega), ?_⟩
  rw [i_cl (by omega)]
  obtain ⟨J1, J2, J3⟩ := hJ
  refine ⟨fun hz => hK cb is ⟨J1, J2, fun hT => ?_⟩, fun hz => ?_⟩
  · rcases J3 hT with q | ⟨a', b', c', h1, h2, h3, h4, h5, h6⟩
    · exact Or.inl q
    · refine Or.inr ⟨a', b', c', h1, h2, h3, ?_, h5, h6⟩
      rcases h4 with z | ⟨z1, z | ⟨z2, z3⟩⟩
      · exact Or.inl z
      · exact Or.inr ⟨z1, Or.inl z⟩
      · refine Or.inr ⟨z1, Or.inr ⟨z2, ?_⟩⟩
        rcases Nat.lt_or_ge c' c with w | w
        · exact w
        · exfalso
          have : c' = c := by omega
          subst z1 z2 this
          exact h5 hz
  · obtain ⟨hin, hback⟩ := J1 a b c ha hb hc hz
    -- after the look at the end
    have main : ∀ is' : Bool, is' = (is || decide (U - a - b - c = n)) → B_X7_canLeave_142 (nI U) kinds broken (nI n) wanted stack depth post K86 K240 (nI a) (nI b) (nI c) (nI (U - a - b - c)) (b2 is') cb := by
      intro is' eis
      unfold B_X7_canLeave_142
      have J2' : is' = true → can (fun u i => srv kinds broken u (wanted i)) n 0 L = true := by
        intro q
        rw [eis] at q
        rcases Bool.or_eq_true_iff.mp q with z | z
        · exact J2 z
        · refine hback ?_
          have : n - (U - a - b - c) = 0 := by have := of_decide_eq_true z; omega
          rw [this]
          rfl
      refine ⟨fun q => ?_, fun q => ⟨?_, ?_⟩⟩
      · have hi : U - a - b - c = n := by have := (i_le (by omega) (by omega)).mp q; omega
        refine hK cb is' ⟨J1, J2', fun _ => Or.inl ?_⟩
        rw [eis, hi]
        simp
      · have hi : ¬ n ≤ U - a - b - c := fun z => q ((i_le (by omega) (by omega)).mpr z)
        exact i_in (by omega) (by omega)
      · have hi : U - a - b - c < n := by
          rcases Nat.lt_or_ge (U - a - b - c) n with z | z
          · exact z
          · exact absurd ((i_le (by omega) (by omega)).mpr z) q
        have eis2 : is' = is := by rw [eis]; simp [show ¬ U - a - b - c = n by omega]
        rw [i_cl (by omega)]
        obtain ⟨r, hr⟩ : ∃ r, n - (U - a - b - c) = r + 1 := ⟨n - (U - a - b - c) - 1, by omega⟩
        rw [hr, can_succ] at hback
        have e0 : rl L a b c 0 = rem (L 0) a := rfl
        have e1 : rl L a b c 1 = rem (L 1) b := rfl
        have e2 : rl L a b c 2 = rem (L 2) c := rfl
        have ix1 : 0 < a → ((36 * (nI a - 1)) + ((6 : Int32) * nI b)) + nI c = nI (36 * (a - 1) + 6 * b + c) ∧ 36 * (a - 1) + 6 * b + c < 216 := by
          intro h
          refine ⟨?_, by omega⟩
          show ((nI 36 * (nI a - nI 1)) + (nI 6 * nI b)) + nI c = _
          rw [i_sub h, pk_mul, pk_mul, nI_add, nI_add]
        have ix2 : 0 < b → (((36 : Int32) * nI a) + (6 * (nI b - 1))) + nI c = nI (36 * a + 6 * (b - 1) + c) ∧ 36 * a + 6 * (b - 1) + c < 216 := by
          intro h
          refine ⟨?_, by omega⟩
          show ((nI 36 * nI a) + (nI 6 * (nI b - nI 1))) + nI c = _
          rw [i_sub h, pk_mul, pk_mul, nI_add, nI_add]
        have ix3 : 0 < c → nI (36 * a + 6 * b + c) - 1 = nI (36 * a + 6 * b + (c - 1)) ∧ 36 * a + 6 * b + (c - 1) < 216 := by
          intro h
          refine ⟨?_, by omega⟩
          show nI (36 * a + 6 * b + c) - nI 1 = _
          rw [i_sub (by omega)]
          congr 1
          omega
        refine t_off (L := L) (t := 0) (by omega) (by omega) (he 0 (by omega)) ha (hst 0 (by omega)) ix1 (fun cb1 h1 => ?_)
        refine ⟨i_in (by omega) (by omega), ?_⟩
        refine t_off (L := L) (t := 1) (by omega) (by omega) (he 1 (by omega)) hb (hst 1 (by omega)) ix2 (fun cb2 h2 => ?_)
        refine ⟨i_in (by omega) (by omega), ?_⟩
        rw [ex]
        refine t_off (L := L) (t := 2) (by omega) (by omega) (he 2 (by omega)) hc (hst 2 (by omega)) ix3 (fun cb3 h3 => ?_)
        -- what the three may mark
        have grow : ∀ (t x y : Nat) (cbA cbB : Nat → Int32) (R0 : List Nat) (ix : Nat), ((R0 = [] → cbB = cbA) ∧ ∀ u R, R0 = u :: R → cbB = if srv kinds broken u (wanted (U - a - b - c)) then upd cbA ix 1 else cbA) → (∀ j, cbA j ≠ 0 → cbB j ≠ 0) ∧ (∀ j, cbB j ≠ 0 → cbA j ≠ 0 ∨ (j = ix ∧ ∃ u R, R0 = u :: R ∧ srv kinds broken u (wanted (U - a - b - c)) = true)) ∧ (∀ u R, R0 = u :: R → srv kinds broken u (wanted (U - a - b - c)) = true → cbB ix ≠ 0) := by
          intro t x y cbA cbB R0 ix h
          cases R0 with
          | nil =>
            have := h.1 rfl
            subst this
            exact ⟨fun j q => q, fun j q => Or.inl q, fun u R q => absurd q (by simp)⟩
          | cons u R =>
            have hh := h.2 u R rfl
            cases hs : srv kinds broken u (wanted (U - a - b - c)) with
            | false =>
              rw [hs] at hh
              have hh : cbB = cbA := hh
              subst hh
              exact ⟨fun j q => q, fun j q => Or.inl q, fun u' R' q hs' => by rw [← (List.cons.inj q).1, hs] at hs'; exact absurd hs' (by simp)⟩
            | true =>
              rw [hs] at hh
              have hh : cbB = upd cbA ix 1 := hh
              subst hh
              refine ⟨fun j q => ?_, fun j q => ?_, fun _ _ _ _ => by rw [up_s]; decide⟩
              · by_cases z : j = ix
                · subst z; rw [up_s]; decide
                · rw [up_o _ _ z]; exact q
              · by_cases z : j = ix
                · exact Or.inr ⟨z, u, R, rfl, hs⟩
                · rw [up_o _ _ z] at q; exact Or.inl q
        obtain ⟨g1a, g1b, g1c⟩ := grow 0 0 0 cb cb1 _ _ h1
        obtain ⟨g2a, g2b, g2c⟩ := grow 0 0 0 cb1 cb2 _ _ h2
        obtain ⟨g3a, g3b, g3c⟩ := grow 0 0 0 cb2 cb3 _ _ h3
        -- what a step to the side is worth
        have s0 : ∀ u R, rem (L 0) a = u :: R → 0 < a ∧ (fun t => if t = 0 then R else rl L a b c t) = rl L (a - 1) b c := by
          intro u R q
          cases a with
          | zero => rw [rem_0] at q; exact absurd q (by simp)
          | succ a =>
            refine ⟨by omega, ?_⟩
            rw [rem_succ _ (by omega)] at q
            funext t
            unfold rl
            by_cases z : t = 0
            · rw [if_pos z, if_pos z, ← (List.cons.inj q).2]; rfl
            · rw [if_neg z, if_neg z, if_neg z]
        have s1 : ∀ u R, rem (L 1) b = u :: R → 0 < b ∧ (fun t => if t = 1 then R else rl L a b c t) = rl L a (b - 1) c := by
          intro u R q
          cases b with
          | zero => rw [rem_0] at q; exact absurd q (by simp)
          | succ b =>
            refine ⟨by omega, ?_⟩
            rw [rem_succ _ (by omega)] at q
            funext t
            unfold rl
            by_cases z : t = 1
            · subst z; simp only [if_pos rfl, ← (List.cons.inj q).2]; rfl
            · rw [if_neg z]
              by_cases z0 : t = 0
              · rw [if_pos z0, if_pos z0]
              · rw [if_neg z0, if_neg z0, if_neg z, if_neg z]
        have s2 : ∀ u R, rem (L 2) c = u :: R → 0 < c ∧ ∀ t, t < 3 → (fun t => if t = 2 then R else rl L a b c t) t = rl L a b (c - 1) t := by
          intro u R q
          cases c with
          | zero => rw [rem_0] at q; exact absurd q (by simp)
          | succ c =>
            refine ⟨by omega, fun t ht => ?_⟩
            rw [rem_succ _ (by omega)] at q
            unfold rl
            rcases (show t = 0 ∨ t = 1 ∨ t = 2 by omega) with z | z | z
            · subst z; rfl
            · subst z; rfl
            · subst z; simp only [if_pos rfl, ← (List.cons.inj q).2]; rfl
        have hi1 : ∀ a' b' c' : Nat, a' + b' + c' + 1 = a + b + c → U - a' - b' - c' = U - a - b - c + 1 := by intro a' b' c' h; omega
        have hr1 : ∀ a' b' c' : Nat, a' + b' + c' + 1 = a + b + c → n - (U - a' - b' - c') = r := by intro a' b' c' h; omega
        have fwd : ∀ t u R, t < 3 → rl L a b c t = u :: R → srv kinds broken u (wanted (U - a - b - c)) = true → can (fun u i => srv kinds broken u (wanted i)) r (U - a - b - c + 1) (fun t' => if t' = t then R else rl L a b c t') = true → can (fun u i => srv kinds broken u (wanted i)) n 0 L = true := by
          intro t u R ht hq hs hcn
          refine hback ?_
          have : tryT (fun u i => srv kinds broken u (wanted i)) r (U - a - b - c) (rl L a b c) t = true := by
            unfold tryT
            rw [hq]
            simp only [hs, hcn, Bool.and_self]
          rcases (show t = 0 ∨ t = 1 ∨ t = 2 by omega) with z | z | z <;> subst z <;> simp [this]
        refine hK cb3 is' ⟨?_, J2', fun hT => ?_⟩
        · intro a' b' c' ha' hb' hc' hne
          rcases g3b _ hne with q | ⟨q, u, R, hq, hs⟩
          · rcases g2b _ q with q | ⟨q, u, R, hq, hs⟩
            · rcases g1b _ q with q | ⟨q, u, R, hq, hs⟩
              · exact J1 a' b' c' ha' hb' hc' q
              · obtain ⟨hpos, hfun⟩ := s0 u R hq
                have e : a' = a - 1 ∧ b' = b ∧ c' = c := by omega
                obtain ⟨rfl, rfl, rfl⟩ := e
                refine ⟨by omega, fun hcn => fwd 0 u R (by omega) hq hs ?_⟩
                rw [hfun]
                rw [hi1 (a - 1) b' c' (by omega), show n - (U - a - b' - c' + 1) = r by omega] at hcn
                exact hcn
            · obtain ⟨hpos, hfun⟩ := s1 u R hq
              have e : a' = a ∧ b' = b - 1 ∧ c' = c := by omega
              obtain ⟨rfl, rfl, rfl⟩ := e
              refine ⟨by omega, fun hcn => fwd 1 u R (by omega) hq hs ?_⟩
              rw [hfun]
              rw [hi1 a' (b - 1) c' (by omega), show n - (U - a' - b - c' + 1) = r by omega] at hcn
              exact hcn
          · obtain ⟨hpos, hfun⟩ := s2 u R hq
            have e : a' = a ∧ b' = b ∧ c' = c - 1 := by omega
            obtain ⟨rfl, rfl, rfl⟩ := e
            refine ⟨by omega, fun hcn => fwd 2 u R (by omega) hq hs ?_⟩
            rw [can_congr _ _ _ _ _ hfun]
            rw [hi1 a' b' (c - 1) (by omega), show n - (U - a' - b' - c + 1) = r by omega] at hcn
            exact hcn
        · rcases J3 hT with q | ⟨a', b', c', k1, k2, k3, k4, k5, k6⟩
          · exact Or.inl (by rw [eis2]; exact q)
          · by_cases same : a' = a ∧ b' = b ∧ c' = c
            · obtain ⟨rfl, rfl, rfl⟩ := same
              rw [hr, can_succ] at k6
              refine Or.inr ?_
              have pick : tryT (fun u i => srv kinds broken u (wanted i)) r (U - a' - b' - c') (rl L a' b' c') 0 = true ∨ tryT (fun u i => srv kinds broken u (wanted i)) r (U - a' - b' - c') (rl L a' b' c') 1 = true ∨ tryT (fun u i => srv kinds broken u (wanted i)) r (U - a' - b' - c') (rl L a' b' c') 2 = true := by
                rcases Bool.or_eq_true_iff.mp k6 with z | z
                · rcases Bool.or_eq_true_iff.mp z with z | z
                  · exact Or.inl z
                  · exact Or.inr (Or.inl z)
                · exact Or.inr (Or.inr z)
              have opn : ∀ t, tryT (fun u i => srv kinds broken u (wanted i)) r (U - a' - b' - c') (rl L a' b' c') t = true → ∃ u R, rl L a' b' c' t = u :: R ∧ srv kinds broken u (wanted (U - a' - b' - c')) = true ∧ can (fun u i => srv kinds broken u (wanted i)) r (U - a' - b' - c' + 1) (fun t' => if t' = t then R else rl L a' b' c' t') = true := by
                intro t z
                unfold tryT at z
                cases hq : rl L a' b' c' t with
                | nil => rw [hq] at z; exact absurd z (by simp)
                | cons u R =>
                  rw [hq] at z
                  exact ⟨u, R, rfl, (Bool.and_eq_true_iff.mp z).1, (Bool.and_eq_true_iff.mp z).2⟩
              rcases pick with z | z | z
              · obtain ⟨u, R, hq, hs, hcn⟩ := opn 0 z
                obtain ⟨hpos, hfun⟩ := s0 u R hq
                refine ⟨a' - 1, b', c', by omega, k2, k3, Or.inl (by omega), g3a _ (g2a _ (g1c u R hq hs)), ?_⟩
                rw [hi1 (a' - 1) b' c' (by omega), show n - (U - a' - b' - c' + 1) = r by omega, ← hfun]
                exact hcn
              · obtain ⟨u, R, hq, hs, hcn⟩ := opn 1 z
                obtain ⟨hpos, hfun⟩ := s1 u R hq
                refine ⟨a', b' - 1, c', k1, by omega, k3, Or.inr ⟨rfl, Or.inl (by omega)⟩, g3a _ (g2c u R hq hs), ?_⟩
                rw [hi1 a' (b' - 1) c' (by omega), show n - (U - a' - b' - c' + 1) = r by omega, ← hfun]
                exact hcn
              · obtain ⟨u, R, hq, hs, hcn⟩ := opn 2 z
                obtain ⟨hpos, hfun⟩ := s2 u R hq
                refine ⟨a', b', c' - 1, k1, k2, by omega, Or.inr ⟨rfl, Or.inr ⟨rfl, by omega⟩⟩, g3c u R hq hs, ?_⟩
                rw [hi1 a' b' (c' - 1) (by omega), show n - (U - a' - b' - c' + 1) = r by omega, ← can_congr _ _ _ _ _ hfun]
                exact hcn
            · refine Or.inr ⟨a', b', c', k1, k2, k3, ?_, g3a _ (g2a _ (g1a _ k5)), k6⟩
              rcases k4 with w | ⟨w1, w | ⟨w2, w3⟩⟩
              · exact Or.inl w
              · exact Or.inr ⟨w1, Or.inl w⟩
              · refine Or.inr ⟨w1, Or.inr ⟨w2, ?_⟩⟩
                rcases Nat.lt_or_ge c' c with w | w
                · exact w
                · exact absurd ⟨w1, w2, by omega⟩ same
    cases is with
    | true =>
      refine ⟨fun _ => ?_, fun q => absurd q (by decide)⟩
      unfold B_X7_canLeave_137
      exact main true (by simp)
    | false =>
      refine ⟨fun q => absurd rfl q, fun _ => ⟨fun q => ?_, fun q => ?_⟩⟩
      · refine main false ?_
        have : ¬ U - a - b - c = n := fun z => q (by rw [z])
        simp [this]
      · unfold B_X7_canLeave_137
        refine main true ?_
        have : U - a - b - c = n := (i_eq (by omega) (by omega)).mp q
        simp [this]
end P2
