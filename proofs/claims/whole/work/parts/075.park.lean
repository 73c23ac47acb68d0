/-! who can leave; the class's search for a way out without shunts -/
def srv (kinds broken : Nat → Int32) (u : Nat) (k : Int32) : Bool := decide (kinds u = k) && decide (broken u = 0)
theorem t_canServe {kinds broken : Nat → Int32} {u : Nat} {k : Int32} {post : Int32 → Prop} (hu : u < 5) (hp : post (if srv kinds broken u k then 1 else 0)) : wp_X0_canServe kinds broken (nI u) k post := by
  unfold wp_X0_canServe
  have hin := i_in (a := u) (n := 5) hu (by omega)
  rw [i_cl (by omega)]
  unfold srv at hp
  refine ⟨hin, fun h => ?_, fun h => ⟨hin, fun h2 => ?_, fun h2 => ?_⟩⟩
  · simpa [h] using hp
  · simpa [h2] using hp
  · simpa [h, h2] using hp
theorem t_isWanted {kinds broken : Nat → Int32} {u : Nat} {k : Int32} {post : Int32 → Prop} (hu : u < 5) (hp : post (if srv kinds broken u k then 1 else 0)) : wp_X7_isWanted kinds broken (nI u) k post := by
  unfold wp_X7_isWanted
  have hin := i_in (a := u) (n := 5) hu (by omega)
  rw [i_cl (by omega)]
  unfold srv at hp
  refine ⟨hin, fun h => ?_, fun h => ⟨hin, fun h2 => ?_, fun h2 => ?_⟩⟩
  · simpa [h] using hp
  · simpa [h2] using hp
  · simpa [h, h2] using hp
/-- the last ones can go off one by one: r more, the next is the i-th; the tracks' lists begin with their last -/
def can (sv : Nat → Nat → Bool) : Nat → Nat → (Nat → List Nat) → Bool
  | 0, _, _ => true
  | r + 1, i, L => (match L 0 with
      | [] => false
      | u :: R => sv u i && can sv r (i + 1) (fun t => if t = 0 then R else L t)) || (match L 1 with
      | [] => false
      | u :: R => sv u i && can sv r (i + 1) (fun t => if t = 1 then R else L t)) || (match L 2 with
      | [] => false
      | u :: R => sv u i && can sv r (i + 1) (fun t => if t = 2 then R else L t))
/-- by one track -/
def tryT (sv : Nat → Nat → Bool) (r i : Nat) (L : Nat → List Nat) (t : Nat) : Bool := match L t with
  | [] => false
  | u :: R => sv u i && can sv r (i + 1) (fun t' => if t' = t then R else L t')
theorem can_succ (sv : Nat → Nat → Bool) (r i : Nat) (L : Nat → List Nat) : can sv (r + 1) i L = (tryT sv r i L 0 || tryT sv r i L 1 || tryT sv r i L 2) := rfl
/-- the units on a track, the last first -/
def tk (U : Nat) (tr : Nat → Nat) (t : Nat) : List Nat := ((List.range U).filter (fun u => tr u == t)).reverse
/-- what the lists of tracks are like: descending, of units of that track -/
def okL (U : Nat) (tr : Nat → Nat) (L : Nat → List Nat) : Prop := ∀ t, t < 3 → (L t).Pairwise (fun a b => b < a) ∧ ∀ u ∈ L t, u < U ∧ tr u = t
theorem tk_ok (U : Nat) (tr : Nat → Nat) : okL U tr (tk U tr) := by
  intro t _
  refine ⟨?_, fun u hu => ?_⟩
  · unfold tk
    rw [List.pairwise_reverse]
    exact List.Pairwise.filter _ List.pairwise_lt_range
  · unfold tk at hu
    rw [List.mem_reverse, List.mem_filter] at hu
    exact ⟨List.mem_range.mp hu.1, by simpa using hu.2⟩
theorem desc_head {L : List Nat} (hp : L.Pairwise (fun a b => b < a)) {x : Nat} (hx : x ∈ L) (hm : ∀ u ∈ L, u ≤ x) : ∃ R, L = x :: R := by
  cases L with
  | nil => exact absurd hx List.not_mem_nil
  | cons h R =>
    have h1 := hm h List.mem_cons_self
    rcases List.mem_cons.mp hx with q | q
    · exact ⟨R, by rw [q]⟩
    · have := (List.pairwise_cons.mp hp).1 x q
      omega
section P1
variable {U : Nat} {tr : Nat → Nat} {row : Nat → Int32}
theorem t_lastOn (hU : U ≤ 5) (hrow : ∀ u, u < U → row u = nI (tr u) ∧ tr u < 3) {L : Nat → List Nat} (hL : okL U tr L) {G : List Nat} {g : Int32} (hg : msk g G) (hG : ∀ u, u < U → (G.contains u = false ↔ u ∈ L (tr u))) {t : Nat} (ht : t < 3) {post : Int32 → Prop}
    (hp : ∀ u R, L t = u :: R → post (nI u)) (hn : L t = [] → post (-1)) : wp_X1_lastOn (nI U) row (nI t) g post := by
  unfold wp_X1_lastOn
  have key : ∀ (x : Nat), x ≤ U → (∀ u ∈ L t, u < x) → Z_X1_lastOn_10 (nI U) row (nI t) g post (x + 1) (nI x - 1) := by
    intro x
    induction x with
    | zero =>
      intro _ h
      show Y_X1_lastOn_10 _ _ _ _ _ _ _
      unfold Y_X1_lastOn_10
      refine ⟨fun _ => hn ?_, fun q => absurd (by decide) q⟩
      cases hl : L t with
      | nil => rfl
      | cons u R => exact absurd (h u (by rw [hl]; exact List.mem_cons_self)) (Nat.not_lt_zero u)
    | succ x ih =>
      intro hx h
      have e1 : nI (x + 1) - 1 = nI x := nI_pred x
      rw [e1]
      show Y_X1_lastOn_10 _ _ _ _ _ _ _
      unfold Y_X1_lastOn_10
      have e2 : nI x + (-1) = nI x - 1 := by rw [Int32.sub_eq_add_neg]
      rw [e2]
      refine ⟨fun q => absurd q (nI_pos (by omega)), fun _ => ⟨i_in (by omega) (by omega), ?_⟩⟩
      rw [i_cl (by omega), (hrow x (by omega)).1]
      have htx := (hrow x (by omega)).2
      have hbit := msk_bit hg (u := x) (by omega)
      have hno : x ∉ L t → Z_X1_lastOn_10 (nI U) row (nI t) g post (x + 1) (nI x - 1) := fun hx2 => ih (by omega) (fun u hu => by
        have := h u hu
        rcases Nat.lt_or_ge u x with q | q
        · exact q
        · exact absurd ((show u = x by omega) ▸ hu) hx2)
      refine ⟨fun q => hno (fun hm => q ?_), fun q => ?_⟩
      · rw [((hL t ht).2 x hm).2]
      · have hxt : tr x = t := (i_eq (by omega) (by omega)).mp q
        refine ⟨fun q2 => hno (fun hm => q2 ?_), fun q2 => ?_⟩
        · have := (hG x (by omega)).mpr (by rw [hxt]; exact hm)
          rw [hbit, this]
          rfl
        · have hc : G.contains x = false := by
            cases hcc : G.contains x with
            | false => rfl
            | true => rw [hbit, hcc] at q2; exact absurd q2 (by decide)
          have hm : x ∈ L t := by have := (hG x (by omega)).mp hc; rw [hxt] at this; exact this
          obtain ⟨R, hR⟩ := desc_head (hL t ht).1 hm (fun u hu => by have := h u hu; omega)
          exact hp x R hR
  intro y ey
  subst ey
  exact ⟨_, key U (Nat.le_refl U) (fun u hu => ((hL t ht).2 u hu).1)⟩
theorem okL_tail {L : Nat → List Nat} (hL : okL U tr L) {t u : Nat} {R : List Nat} (h : L t = u :: R) (ht : t < 3) : okL U tr (fun t' => if t' = t then R else L t') := by
  intro t' ht'
  have := hL t' ht'
  by_cases e : t' = t
  · subst e
    rw [h] at this
    simp only [if_pos rfl]
    exact ⟨(List.pairwise_cons.mp this.1).2, fun v hv => this.2 v (List.mem_cons_of_mem _ hv)⟩
  · simp only [if_neg e]
    exact this
variable {kinds broken wanted : Nat → Int32} {n : Nat}
theorem t_canAllGo (hU : U ≤ 5) (hn : n ≤ 5) (hrow : ∀ u, u < U → row u = nI (tr u) ∧ tr u < 3) : ∀ (r fuel i : Nat) (L : Nat → List Nat) (G : List Nat) (g : Int32) (post : Int32 → Prop), r < fuel → i + r = n → okL U tr L → msk g G → (∀ u, u < U → (G.contains u = false ↔ u ∈ L (tr u))) → post (if can (fun u i => srv kinds broken u (wanted i)) r i L then 1 else 0) → wp_X1_canAllGo fuel kinds broken (nI U) wanted (nI n) row (nI i) g post := by
  intro r
  induction r with
  | zero =>
    intro fuel i L G g post hf hi hL hg hG hp
    obtain ⟨m, rfl⟩ : ∃ m, fuel = m + 1 := ⟨fuel - 1, by omega⟩
    show bw_X1_canAllGo _ _ _ _ _ _ _ _ _ _
    unfold bw_X1_canAllGo
    exact ⟨fun q => absurd ((i_lt (by omega) (by omega)).mp q) (by omega), fun _ => by simpa [can] using hp⟩
  | succ r ih =>
    intro fuel i L G g post hf hi hL hg hG hp
    obtain ⟨m, rfl⟩ : ∃ m, fuel = m + 1 := ⟨fuel - 1, by omega⟩
    show bw_X1_canAllGo _ _ _ _ _ _ _ _ _ _
    unfold bw_X1_canAllGo
    refine ⟨fun _ => ?_, fun q => absurd ((i_lt (by omega) (by omega)).mpr (by omega)) q⟩
    rw [can_succ] at hp
    have step : ∀ (t k : Nat), t < 3 → (tryT (fun u i => srv kinds broken u (wanted i)) r i L t = true → post 1) → (tryT (fun u i => srv kinds broken u (wanted i)) r i L t = false → Z_X1_canAllGo_15 kinds broken (nI U) wanted (nI n) row (nI i) g post (wp_X1_canAllGo m kinds broken (nI U) wanted (nI n) row) k (nI (t + 1))) → Z_X1_canAllGo_15 kinds broken (nI U) wanted (nI n) row (nI i) g post (wp_X1_canAllGo m kinds broken (nI U) wanted (nI n) row) (k + 1) (nI t) := by
      intro t k ht h1 h0
      show Y_X1_canAllGo_15 _ _ _ _ _ _ _ _ _ _ _ _
      unfold Y_X1_canAllGo_15
      refine ⟨fun q => absurd ((i_le (a := 3) (by omega) (by omega)).mp q) (by omega), fun _ => ?_⟩
      rw [i_1]
      refine t_lastOn hU hrow hL hg hG ht (fun u R hR => ?_) (fun hR => ?_)
      · have hu := ((hL t ht).2 u (by rw [hR]; exact List.mem_cons_self))
        refine ⟨fun q => absurd q ?_, fun _ => ⟨i_in (by omega) (by omega), ?_⟩⟩
        · intro q
          have : (nI u).toInt = -1 := by rw [q]; decide
          rw [i_toInt (by omega)] at this
          omega
        rw [i_cl (by omega)]
        refine t_canServe (by omega) ?_
        have htr : tryT (fun u i => srv kinds broken u (wanted i)) r i L t = (srv kinds broken u (wanted i) && can (fun u i => srv kinds broken u (wanted i)) r (i + 1) (fun t' => if t' = t then R else L t')) := by
          unfold tryT; rw [hR]
        cases hsv : srv kinds broken u (wanted i) with
        | false =>
          rw [hsv, Bool.false_and] at htr
          exact ⟨fun _ => h0 htr, fun q => absurd rfl q⟩
        | true =>
          rw [hsv, Bool.true_and] at htr
          refine ⟨fun q => absurd q (by decide), fun _ => ?_⟩
          rw [i_1]
          refine ih m (i + 1) (fun t' => if t' = t then R else L t') (G ++ [u]) _ _ (by omega) (by omega) (okL_tail hL hR ht) (msk_or hg (by omega)) (fun v hv => ?_) ?_
          · have hv2 := hG v hv
            have htv := (hrow v hv).2
            have hnd := (hL t ht).1
            rw [hR] at hnd
            have hnd2 := (List.pairwise_cons.mp hnd).1
            simp only [List.contains_eq_mem, List.mem_append, List.mem_singleton, decide_eq_false_iff_not] at hv2 ⊢
            by_cases e : tr v = t
            · rw [if_pos e]
              rw [e, hR] at hv2
              constructor
              · intro q
                have h3 := hv2.mp (fun z => q (Or.inl z))
                rcases List.mem_cons.mp h3 with z | z
                · exact absurd (Or.inr z) q
                · exact z
              · intro q z
                rcases z with z | z
                · exact (hv2.mpr (List.mem_cons_of_mem _ q)) z
                · subst z
                  exact absurd (hnd2 v q) (Nat.lt_irrefl v)
            · rw [if_neg e]
              constructor
              · intro q
                exact hv2.mp (fun z => q (Or.inl z))
              · intro q z
                rcases z with z | z
                · exact (hv2.mpr q) z
                · subst z
                  exact e hu.2
          · cases hcn : can (fun u i => srv kinds broken u (wanted i)) r (i + 1) (fun t' => if t' = t then R else L t') with
            | false => rw [hcn] at htr; exact ⟨fun _ => h0 htr, fun q => absurd rfl q⟩
            | true => rw [hcn] at htr; exact ⟨fun q => absurd q (by decide), fun _ => h1 htr⟩
      · have htr : tryT (fun u i => srv kinds broken u (wanted i)) r i L t = false := by
          unfold tryT; rw [hR]
        exact ⟨fun _ => h0 htr, fun q => absurd rfl q⟩
    refine ⟨4, ?_⟩
    refine step 0 3 (by omega) (fun h => by simpa [h] using hp) (fun h0 => ?_)
    refine step 1 2 (by omega) (fun h => by simpa [h] using hp) (fun h1 => ?_)
    refine step 2 1 (by omega) (fun h => by simpa [h] using hp) (fun h2 => ?_)
    show Y_X1_canAllGo_15 _ _ _ _ _ _ _ _ _ _ _ _
    unfold Y_X1_canAllGo_15
    refine ⟨fun _ => by simpa [h0, h1, h2] using hp, fun q => absurd ((i_le (a := 3) (by omega) (by omega)).mpr (by omega)) q⟩
end P1
