/-! the narrowest parking in the class; refresh; why -/
def mk7 (tr : Nat → Nat) (x : Nat) : Nat := ne1 (sq x tr 0).length + 2 * ne1 (sq x tr 1).length + 4 * ne1 (sq x tr 2).length
theorem ne1_le (k : Nat) : ne1 k ≤ 1 := by unfold ne1; split <;> omega
theorem ne1_s (k : Nat) : ne1 (k + 1) = 1 := by unfold ne1; rw [if_pos (by omega)]
theorem mk7_lt (tr : Nat → Nat) (x : Nat) : mk7 tr x < 8 := by
  unfold mk7
  have h0 := ne1_le (sq x tr 0).length
  have h1 := ne1_le (sq x tr 1).length
  have h2 := ne1_le (sq x tr 2).length
  omega
theorem or7 : ∀ a b c : Fin 2, ((a.val + 2 * b.val + 4 * c.val) ||| 2 ^ 0 = 1 + 2 * b.val + 4 * c.val) ∧ ((a.val + 2 * b.val + 4 * c.val) ||| 2 ^ 1 = a.val + 2 * 1 + 4 * c.val) ∧ ((a.val + 2 * b.val + 4 * c.val) ||| 2 ^ 2 = a.val + 2 * b.val + 4 * 1) := by decide
theorem mk7_s (tr : Nat → Nat) (x : Nat) (h : tr x < 3) : mk7 tr (x + 1) = mk7 tr x ||| 2 ^ tr x := by
  have h0 := ne1_le (sq x tr 0).length
  have h1 := ne1_le (sq x tr 1).length
  have h2 := ne1_le (sq x tr 2).length
  have o := or7 ⟨ne1 (sq x tr 0).length, by omega⟩ ⟨ne1 (sq x tr 1).length, by omega⟩ ⟨ne1 (sq x tr 2).length, by omega⟩
  simp only at o
  have hin := sq_in x tr
  unfold mk7
  rcases (show tr x = 0 ∨ tr x = 1 ∨ tr x = 2 by omega) with e | e | e
  · rw [e] at hin ⊢; rw [o.1, hin, sq_out x tr (t := 1) (by omega), sq_out x tr (t := 2) (by omega), List.length_append, List.length_singleton, ne1_s]
  · rw [e] at hin ⊢; rw [o.2.1, hin, sq_out x tr (t := 0) (by omega), sq_out x tr (t := 2) (by omega), List.length_append, List.length_singleton, ne1_s]
  · rw [e] at hin ⊢; rw [o.2.2, hin, sq_out x tr (t := 0) (by omega), sq_out x tr (t := 1) (by omega), List.length_append, List.length_singleton, ne1_s]
theorem i_or7 : ∀ T : Fin 8, ∀ u : Fin 3, (nI T.val ||| ((1 : Int32) <<< (nI u.val &&& 31))) = nI (T.val ||| 2 ^ u.val) := by decide
theorem t_bitCount {a b c : Nat} (ha : a ≤ 1) (hb : b ≤ 1) (hc : c ≤ 1) {post : Int32 → Prop} (hp : post (nI (a + b + c))) : wp_J6_bitCount_0f7a4 (nI (a + 2 * b + 4 * c)) post := by
  unfold wp_J6_bitCount_0f7a4
  intro y1 e1 y2 e2 y3 e3 y4 e4 y5 e5
  have : (y5 &&& 63) = nI (a + b + c) := by
    subst e5 e4 e3 e2 e1
    rcases (show a = 0 ∨ a = 1 by omega) with z | z <;> rcases (show b = 0 ∨ b = 1 by omega) with w | w <;> rcases (show c = 0 ∨ c = 1 by omega) with v | v <;> subst z w v <;> decide
  rw [this]
  exact hp
theorem nar_const (q : Nat → Bool) (us : Nat → Nat) {a : Nat} : ∀ {b : Nat}, a ≤ b → cn q a = cn q b → nar q us a = nar q us b
  | 0, h, _ => by have : a = 0 := by omega
                  subst this; rfl
  | b + 1, h, e => by
    rcases Nat.lt_or_ge b a with z | z
    · have : a = b + 1 := by omega
      subst this; rfl
    · have h1 := cn_mono q z
      simp only [cn] at e
      cases hq : q b with
      | true => rw [hq] at e; simp at e; omega
      | false =>
        rw [hq] at e
        simp only [nar]
        rw [if_neg (by rw [hq]; exact fun w => absurd w.1 (by decide))]
        exact nar_const q us z (by simpa using e)
theorem nar_const2 (q : Nat → Bool) (us : Nat → Nat) {a b : Nat} (e : cn q a = cn q b) : nar q us a = nar q us b := by
  rcases Nat.le_total a b with h | h
  · exact nar_const q us h e
  · exact (nar_const q us h e.symm).symm
section P9
variable {kinds broken wanted len : Nat → Int32} {n U : Nat} {ln : Nat → Nat}
theorem t_tracksUsed (hU : U ≤ 5) {tr : Nat → Nat} (htr : ∀ u, tr u < 3) {packed : Nat → Int32} {k : Nat} (hk : k < 243) (hpk : packed k = nI (pkd tr U)) {post : Int32 → Prop} (hp : post (nI (ne1 (sq U tr 0).length + ne1 (sq U tr 1).length + ne1 (sq U tr 2).length))) : wp_X1_tracksUsed (nI U) packed (nI k) post := by
  unfold wp_X1_tracksUsed
  have key : ∀ (d x : Nat), x + d = U → Z_X1_tracksUsed_4 (nI U) packed (nI k) post (fun (x2_4 : Int32) => wp_J6_bitCount_0f7a4 x2_4 (fun (r5 : Int32) => post r5)) (d + 1) (nI (mk7 tr x)) (nI x) := by
    intro d
    induction d with
    | zero =>
      intro x hx
      show Y_X1_tracksUsed_4 _ _ _ _ _ _ _ _
      unfold Y_X1_tracksUsed_4
      have : x = U := by omega
      subst this
      refine ⟨fun _ => ?_, fun q => absurd ((i_le (by omega) (by omega)).mpr (by omega)) q⟩
      unfold mk7
      exact t_bitCount (ne1_le _) (ne1_le _) (ne1_le _) hp
    | succ d ih =>
      intro x hx
      show Y_X1_tracksUsed_4 _ _ _ _ _ _ _ _
      unfold Y_X1_tracksUsed_4
      refine ⟨fun q => absurd ((i_le (by omega) (by omega)).mp q) (by omega), fun _ => ?_⟩
      refine t_trackIn hU htr hk (by omega) hpk ?_
      have o := i_or7 ⟨mk7 tr x, mk7_lt tr x⟩ ⟨tr x, htr x⟩
      simp only at o
      rw [o, ← mk7_s tr x (htr x), i_1]
      intro y ey
      subst ey
      exact ih (x + 1) (by omega)
  exact ⟨_, key U 0 (by omega)⟩
theorem t_findNarrowest (hU : U ≤ 5) {packed : Nat → Int32} (hpk : ∀ p, p < 3 ^ U → cln kinds broken wanted ln U n p = true → packed (cn (cln kinds broken wanted ln U n) p) = nI (pkd (dg U p) U)) {post : Int32 → Prop} (hp : post (nar (cln kinds broken wanted ln U n) (usd U) (3 ^ U)).1) : wp_X1_findNarrowest (nI U) packed (nI (cn (cln kinds broken wanted ln U n) (3 ^ U))) post := by
  have h243 : 3 ^ U ≤ 243 := Nat.pow_le_pow_right (by decide) hU
  have hcl := cn_le (cln kinds broken wanted ln U n) (3 ^ U)
  unfold wp_X1_findNarrowest
  have key : ∀ (d k p : Nat), k + d = cn (cln kinds broken wanted ln U n) (3 ^ U) → p ≤ 3 ^ U → cn (cln kinds broken wanted ln U n) p = k → Z_X1_findNarrowest_6 (nI U) packed (nI (cn (cln kinds broken wanted ln U n) (3 ^ U))) post (d + 1) (nar (cln kinds broken wanted ln U n) (usd U) p).1 (nI (nar (cln kinds broken wanted ln U n) (usd U) p).2) (nI k) := by
    intro d
    induction d with
    | zero =>
      intro k p hk hpl hc
      show Y_X1_findNarrowest_6 _ _ _ _ _ _ _ _
      unfold Y_X1_findNarrowest_6
      refine ⟨fun _ => ?_, fun q => absurd ((i_le (by omega) (by omega)).mpr (by omega)) q⟩
      rw [nar_const2 (cln kinds broken wanted ln U n) (usd U) (a := p) (b := 3 ^ U) (by omega)]
      exact hp
    | succ d ih =>
      intro k p hk hpl hc
      show Y_X1_findNarrowest_6 _ _ _ _ _ _ _ _
      unfold Y_X1_findNarrowest_6
      refine ⟨fun q => absurd ((i_le (by omega) (by omega)).mp q) (by omega), fun _ => ?_⟩
      obtain ⟨p2, h1, h2, h3⟩ := cn_kth (cln kinds broken wanted ln U n) (3 ^ U) k (by omega)
      have hpk2 := hpk p2 h1 h2
      rw [h3] at hpk2
      refine t_tracksUsed hU (fun u => dg_lt U p2 u) (by omega) hpk2 ?_
      have hu : nI (ne1 (sq U (dg U p2) 0).length + ne1 (sq U (dg U p2) 1).length + ne1 (sq U (dg U p2) 2).length) = nI (usd U p2) := rfl
      rw [hu, nar_const2 (cln kinds broken wanted ln U n) (usd U) (a := p) (b := p2) (by omega), i_1]
      have hna := nar_le (cln kinds broken wanted ln U n) (usd U) p2
      have hu3 : usd U p2 ≤ 3 := by
        unfold usd
        have h0 := ne1_le (sq U (dg U p2) 0).length
        have h1 := ne1_le (sq U (dg U p2) 1).length
        have h2 := ne1_le (sq U (dg U p2) 2).length
        omega
      have ih2 := ih (k + 1) (p2 + 1) (by omega) (by omega) (by simp only [cn, h2]; simp; omega)
      simp only [nar] at ih2
      rw [h3] at ih2
      refine ⟨fun q => ?_, fun q => ?_⟩
      · have := (i_le (by omega) (by omega)).mp q
        rw [if_neg (by omega)] at ih2
        exact ih2
      · have : ¬ (nar (cln kinds broken wanted ln U n) (usd U) p2).2 ≤ usd U p2 := fun w => q ((i_le (by omega) (by omega)).mpr w)
        rw [if_pos ⟨h2, by omega⟩] at ih2
        exact ih2
  exact ⟨_, key (cn (cln kinds broken wanted ln U n) (3 ^ U)) 0 0 (by omega) (Nat.zero_le _) rfl⟩
/-- what Parkings knows -/
def okP (kinds broken wanted : Nat → Int32) (ln : Nat → Nat) (U n : Nat) (packed : Nat → Int32) (found narrowest : Int32) : Prop :=
  found = nI (cn (cln kinds broken wanted ln U n) (3 ^ U)) ∧ narrowest = (nar (cln kinds broken wanted ln U n) (usd U) (3 ^ U)).1 ∧ ∀ p, p < 3 ^ U → cln kinds broken wanted ln U n p = true → packed (cn (cln kinds broken wanted ln U n) p) = nI (pkd (dg U p) U)
theorem t_prefresh (hU : U ≤ 5) (hn : n ≤ 5) (hlen : ∀ t, t < 3 → len t = nI (ln t) ∧ ln t ≤ 5) {ch kn found narrowest : Int32} {packed row : Nat → Int32} (hold : kn = ch → okP kinds broken wanted ln U n packed found narrowest) {post : (Nat → Int32) → (Nat → Int32) → Int32 → Int32 → Int32 → Prop}
    (hpost : ∀ (packed' row' : Nat → Int32) (f' n' : Int32), okP kinds broken wanted ln U n packed' f' n' → post packed' row' f' n' ch) : wp_X1_refresh kinds broken (nI U) len wanted (nI n) ch packed row found narrowest kn post := by
  unfold wp_X1_refresh
  refine ⟨fun _ => ?_, fun q => ?_⟩
  · refine t_hasEnough hn hU ?_
    cases he : eno kinds broken wanted n U with
    | false =>
      refine ⟨fun _ => ?_, fun q => absurd rfl q⟩
      have h0 := cn_no (ln := ln) he (3 ^ U)
      unfold B_X1_refresh_52
      have hpk : ∀ p, p < 3 ^ U → cln kinds broken wanted ln U n p = true → packed (cn (cln kinds broken wanted ln U n) p) = nI (pkd (dg U p) U) := fun p _ hc => by
        rw [cln_eno hc] at he; exact absurd he (by decide)
      have := t_findNarrowest (kinds := kinds) (broken := broken) (wanted := wanted) (ln := ln) (n := n) hU hpk (post := fun r4 => post packed row 0 r4 ch) (hpost packed row _ _ ⟨by rw [h0]; rfl, rfl, hpk⟩)
      rw [h0] at this
      exact this
    | true =>
      refine ⟨fun q => absurd q (by decide), fun _ => ?_⟩
      refine t_collect hU hn hlen (fun packed' row' hpk => ?_)
      unfold B_X1_refresh_52
      exact t_findNarrowest hU hpk (hpost packed' row' _ _ ⟨rfl, rfl, hpk⟩)
  · rw [q]
    exact hpost packed row found narrowest (hold q)
/-- why there is no clean parking -/
def whyv (kinds broken wanted : Nat → Int32) (ln : Nat → Nat) (U n : Nat) : Int32 := if 0 < cn (cln kinds broken wanted ln U n) (3 ^ U) then 0 else if eno kinds broken wanted n U = false then 1 else if U ≤ ln 0 + ln 1 + ln 2 then 3 else 2
theorem t_room (hlen : ∀ t, t < 3 → len t = nI (ln t) ∧ ln t ≤ 5) {post : Int32 → Prop} (hp : post (nI (ln 0 + ln 1 + ln 2))) : wp_X0_room len post := by
  unfold wp_X0_room
  refine ⟨4, ?_⟩
  have step : ∀ (k t a : Nat), t < 3 → Z_X0_room_4 len post k (nI (a + ln t)) (nI (t + 1)) → Z_X0_room_4 len post (k + 1) (nI a) (nI t) := by
    intro k t a ht h
    show Y_X0_room_4 _ _ _ _ _
    unfold Y_X0_room_4
    refine ⟨fun q => absurd ((i_le (a := 3) (by omega) (by omega)).mp q) (by omega), fun _ => ⟨i_in (by omega) (by omega), ?_⟩⟩
    rw [i_cl (by omega), (hlen t ht).1, nI_add, i_1]
    intro y ey
    subst ey
    exact h
  refine step 3 0 0 (by omega) (step 2 1 _ (by omega) (step 1 2 _ (by omega) ?_))
  show Y_X0_room_4 _ _ _ _ _
  unfold Y_X0_room_4
  refine ⟨fun _ => ?_, fun q => absurd ((i_le (a := 3) (by omega) (by omega)).mpr (by omega)) q⟩
  rw [Nat.zero_add]
  exact hp
theorem t_whyM (hU : U ≤ 5) (hn : n ≤ 5) (hlen : ∀ t, t < 3 → len t = nI (ln t) ∧ ln t ≤ 5) {track stack depth cb : Nat → Int32} {post : Int32 → (Nat → Int32) → (Nat → Int32) → (Nat → Int32) → (Nat → Int32) → Prop}
    (hpost : ∀ a b c d, post (whyv kinds broken wanted ln U n) a b c d) : wp_X7_why (nI U) kinds broken len (nI n) wanted track stack depth cb post := by
  have h243 : 3 ^ U ≤ 243 := Nat.pow_le_pow_right (by decide) hU
  have hcl := cn_le (cln kinds broken wanted ln U n) (3 ^ U)
  unfold wp_X7_why
  refine t_cleanM hU hn hlen (fun a b c d => ?_)
  refine ⟨fun q => ?_, fun q => ?_⟩
  · have h0 : ¬ 0 < cn (cln kinds broken wanted ln U n) (3 ^ U) := by
      have := (i_le (b := 0) (by omega) (by omega)).mp q
      omega
    unfold whyv at hpost
    rw [if_neg h0] at hpost
    have asked : ∀ (x1 x3 : Int32) (K57 : Int32 → Prop) (P : Int32 → (Nat → Int32) → (Nat → Int32) → (Nat → Int32) → (Nat → Int32) → Prop), K57 (nI (cn (fun i => decide (wanted i = x1)) n)) → ∀ (e i : Nat), i + e = n → Z_X7_why_23 (nI U) kinds broken len (nI n) wanted P x1 x3 a b c d K57 (e + 1) (nI (cn (fun i => decide (wanted i = x1)) i)) (nI i) := by
      intro x1 x3 K57 P hK e
      induction e with
      | zero =>
        intro i hi
        show Y_X7_why_23 _ _ _ _ _ _ _ _ _ _ _ _ _ _ _ _ _
        unfold Y_X7_why_23
        have : i = n := by omega
        subst this
        exact ⟨fun _ => hK, fun q => absurd ((i_le (by omega) (by omega)).mpr (by omega)) q⟩
      | succ e ih =>
        intro i hi
        show Y_X7_why_23 _ _ _ _ _ _ _ _ _ _ _ _ _ _ _ _ _
        unfold Y_X7_why_23
        have ih2 := ih (i + 1) (by omega)
        simp only [cn] at ih2
        refine ⟨fun q => absurd ((i_le (by omega) (by omega)).mp q) (by omega), fun _ => ⟨i_in (by omega) (by omega), ?_⟩⟩
        rw [i_cl (by omega), i_1]
        refine ⟨fun q y ey => ?_, fun q y ey => ?_⟩
        · rw [if_neg (by simpa using q)] at ih2; rw [Int32.add_zero] at ey; subst ey; exact ih2
        · rw [if_pos (by simpa using q)] at ih2; rw [i_1] at ey; subst ey; exact ih2
    have there : ∀ (x1 x2 : Int32) (K93 : Int32 → Prop) (P : Int32 → (Nat → Int32) → (Nat → Int32) → (Nat → Int32) → (Nat → Int32) → Prop), K93 (nI (cn (fun u => srv kinds broken u x1) U)) → ∀ (e i : Nat), i + e = U → Z_X7_why_60 (nI U) kinds broken len (nI n) wanted P x1 x2 a b c d K93 (e + 1) (nI (cn (fun u => srv kinds broken u x1) i)) (nI i) := by
      intro x1 x2 K93 P hK e
      induction e with
      | zero =>
        intro i hi
        show Y_X7_why_60 _ _ _ _ _ _ _ _ _ _ _ _ _ _ _ _ _
        unfold Y_X7_why_60
        have : i = U := by omega
        subst this
        exact ⟨fun _ => hK, fun q => absurd ((i_le (by omega) (by omega)).mpr (by omega)) q⟩
      | succ e ih =>
        intro i hi
        show Y_X7_why_60 _ _ _ _ _ _ _ _ _ _ _ _ _ _ _ _ _
        unfold Y_X7_why_60
        have ih2 := ih (i + 1) (by omega)
        simp only [cn] at ih2
        refine ⟨fun q => absurd ((i_le (by omega) (by omega)).mp q) (by omega), fun _ => ?_⟩
        refine t_isWanted (by omega) ?_
        rw [i_1]
        cases hs : srv kinds broken i x1 with
        | false =>
          rw [if_neg (by rw [hs]; decide)] at ih2
          exact ⟨fun _ y ey => by rw [Int32.add_zero] at ey; subst ey; exact ih2, fun q => absurd rfl q⟩
        | true =>
          rw [if_pos hs] at ih2
          exact ⟨fun q => absurd q (by decide), fun _ y ey => by rw [i_1] at ey; subst ey; exact ih2⟩
    have key : ∀ (e k : Nat) (K106 : Prop), k + e = 4 → (∀ j, j < k → cn (fun i => decide (wanted i = nI j)) n ≤ cn (fun u => srv kinds broken u (nI j)) U) → (eno kinds broken wanted n U = true → K106) → Z_X7_why_11 (nI U) kinds broken len (nI n) wanted post a b c d K106 (e + 1) (nI k) := by
      intro e
      induction e with
      | zero =>
        intro k K106 hk h hK
        show Y_X7_why_11 _ _ _ _ _ _ _ _ _ _ _ _ _ _
        unfold Y_X7_why_11
        exact ⟨fun _ => hK (eno_iff.mpr (fun j hj => h j (by omega))), fun q => absurd ((i_le (a := 4) (by omega) (by omega)).mpr (by omega)) q⟩
      | succ e ih =>
        intro k K106 hk h hK
        show Y_X7_why_11 _ _ _ _ _ _ _ _ _ _ _ _ _ _
        unfold Y_X7_why_11
        refine ⟨fun q => absurd ((i_le (a := 4) (by omega) (by omega)).mp q) (by omega), fun _ => ⟨n + 1, asked (nI k) 0 _ post ⟨U + 1, there (nI k) _ _ post ?_ U 0 (by omega)⟩ n 0 (by omega)⟩⟩
        have h1 := cn_le (fun i => decide (wanted i = nI k)) n
        have h2 := cn_le (fun u => srv kinds broken u (nI k)) U
        rw [i_1]
        refine ⟨fun q => ih (k + 1) K106 (by omega) (fun j hj => ?_) hK, fun q => ?_⟩
        · by_cases z : j = k
          · subst z; exact (i_le (by omega) (by omega)).mp q
          · exact h j (by omega)
        · have z : eno kinds broken wanted n U = false := by
            cases he : eno kinds broken wanted n U with
            | false => rfl
            | true => exact absurd ((i_le (by omega) (by omega)).mpr (eno_iff.mp he k (by omega))) q
          rw [if_pos z] at hpost
          exact hpost _ _ _ _
    refine ⟨5, key 4 0 _ (by omega) (fun j h => absurd h (Nat.not_lt_zero j)) (fun he => ?_)⟩
    rw [if_neg (by rw [he]; decide)] at hpost
    have l0 : len (0 : Int32).toNatClampNeg = nI (ln 0) := (hlen 0 (by omega)).1
    have l1 : len (1 : Int32).toNatClampNeg = nI (ln 1) := (hlen 1 (by omega)).1
    have l2 : len (2 : Int32).toNatClampNeg = nI (ln 2) := (hlen 2 (by omega)).1
    have b0 := (hlen 0 (by omega)).2
    have b1 := (hlen 1 (by omega)).2
    have b2' := (hlen 2 (by omega)).2
    rw [l0, l1, l2, nI_add, nI_add]
    refine ⟨i_in (a := 0) (by omega) (by omega), i_in (a := 1) (by omega) (by omega), i_in (a := 2) (by omega) (by omega), fun q => ?_, fun q => ?_⟩
    · have := (i_le (by omega) (by omega)).mp q
      rw [if_pos this] at hpost
      exact hpost _ _ _ _
    · have : ¬ U ≤ ln 0 + ln 1 + ln 2 := fun z => q ((i_le (by omega) (by omega)).mpr z)
      rw [if_neg this] at hpost
      exact hpost _ _ _ _
  · have h0 : 0 < cn (cln kinds broken wanted ln U n) (3 ^ U) := by
      rcases Nat.eq_zero_or_pos (cn (cln kinds broken wanted ln U n) (3 ^ U)) with z | z
      · exfalso; apply q; rw [z]; decide
      · exact z
    unfold whyv at hpost
    rw [if_pos h0] at hpost
    exact hpost _ _ _ _
end P9
