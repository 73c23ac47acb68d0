/-! counting clean parkings; the reference's answers -/
def cn (q : Nat → Bool) : Nat → Nat
  | 0 => 0
  | k + 1 => cn q k + if q k then 1 else 0
theorem cn_le (q : Nat → Bool) : ∀ k, cn q k ≤ k
  | 0 => Nat.le_refl _
  | k + 1 => by have := cn_le q k; simp only [cn]; split <;> omega
theorem cn_mono (q : Nat → Bool) {a : Nat} : ∀ {b : Nat}, a ≤ b → cn q a ≤ cn q b
  | 0, h => by have : a = 0 := by omega
               subst this; exact Nat.le_refl _
  | b + 1, h => by
    rcases Nat.lt_or_ge b a with q1 | q1
    · have : a = b + 1 := by omega
      subst this; exact Nat.le_refl _
    · have := cn_mono q q1
      simp only [cn]
      omega
theorem cn_lt (q : Nat → Bool) {p b : Nat} (h : p < b) (hq : q p = true) : cn q p < cn q b := by
  have := cn_mono q (a := p + 1) (b := b) h
  simp only [cn, hq] at this
  simp at this
  omega
theorem cn_inj (q : Nat → Bool) {a b : Nat} (ha : q a = true) (hb : q b = true) (e : cn q a = cn q b) : a = b := by
  rcases Nat.lt_trichotomy a b with h | h | h
  · have := cn_lt q h ha; omega
  · exact h
  · have := cn_lt q h hb; omega
theorem cn_kth (q : Nat → Bool) : ∀ (b k : Nat), k < cn q b → ∃ p, p < b ∧ q p = true ∧ cn q p = k
  | 0, k, h => absurd h (Nat.not_lt_zero k)
  | b + 1, k, h => by
    by_cases h2 : k < cn q b
    · obtain ⟨p, h3, h4⟩ := cn_kth q b k h2
      exact ⟨p, by omega, h4⟩
    · simp only [cn] at h
      cases hq : q b with
      | true => exact ⟨b, by omega, hq, by rw [hq] at h; simp at h; omega⟩
      | false => rw [hq] at h; simp at h; omega
theorem cn_zero {q : Nat → Bool} : ∀ {b : Nat}, (∀ p, p < b → q p = false) → cn q b = 0
  | 0, _ => rfl
  | b + 1, h => by simp only [cn]; rw [cn_zero (fun p hp => h p (by omega)), h b (by omega)]; rfl
/-- the least by us of those with q, by their numbers -/
def nar (q : Nat → Bool) (us : Nat → Nat) : Nat → Int32 × Nat
  | 0 => (-1, 4)
  | k + 1 => if q k = true ∧ us k < (nar q us k).2 then (nI (cn q k), us k) else nar q us k
theorem nar_le (q : Nat → Bool) (us : Nat → Nat) : ∀ k, (nar q us k).2 ≤ 4
  | 0 => Nat.le_refl _
  | k + 1 => by
    have := nar_le q us k
    simp only [nar]
    split
    · rename_i h; simp only; omega
    · exact this
def ne1 (k : Nat) : Nat := if 0 < k then 1 else 0
/-- how many tracks parking p uses -/
def usd (U p : Nat) : Nat := ne1 (sq U (dg U p) 0).length + ne1 (sq U (dg U p) 1).length + ne1 (sq U (dg U p) 2).length
theorem t_isUnitY {U u : Nat} (hU : U ≤ 5) (hu : u < U) {post : Int32 → Prop} (hp : post 1) : wp_X7_isUnit (nI U) (nI u) post := by
  unfold wp_X7_isUnit
  have e : nI U - 1 = nI (U - 1) := i_sub (b := 1) (by omega)
  rw [e]
  unfold wp_X7_in
  refine ⟨fun q => absurd q (nI_pos (by omega)), fun _ => ⟨fun q => absurd ((i_lt (by omega) (by omega)).mp q) (by omega), fun _ => ⟨rfl, hp⟩⟩⟩
theorem t_isUnitN {U : Nat} {x : Int32} (hU : U ≤ 5) (hx : x < 0 ∨ nI U ≤ x) {post : Int32 → Prop} (hp : post 0) : wp_X7_isUnit (nI U) x post := by
  unfold wp_X7_isUnit wp_X7_in
  refine ⟨fun _ => ⟨rfl, hp⟩, fun q => ⟨fun _ => ⟨rfl, hp⟩, fun q2 => ?_⟩⟩
  rcases hx with h | h
  · exact absurd h q
  · exfalso
    obtain ⟨j, hj, rfl⟩ := nI_of q
    have h1 := (i_le (by omega) (by omega)).mp h
    apply q2
    rcases Nat.eq_zero_or_pos U with z | z
    · subst z
      have e : nI 0 - 1 = -1 := by decide
      rw [e]
      refine Int32.lt_iff_toInt_lt.mpr ?_
      rw [i_toInt (by omega)]
      have : (-1 : Int32).toInt = -1 := by decide
      omega
    · have e : nI U - 1 = nI (U - 1) := i_sub (b := 1) z
      rw [e]
      exact (i_lt (by omega) (by omega)).mpr (by omega)
section P5
variable {U n : Nat} {kinds broken wanted len : Nat → Int32} {ln : Nat → Nat}
theorem t_cleanM (hU : U ≤ 5) (hn : n ≤ 5) (hlen : ∀ t, t < 3 → len t = nI (ln t) ∧ ln t ≤ 5) {track stack depth cb : Nat → Int32} {post : Int32 → (Nat → Int32) → (Nat → Int32) → (Nat → Int32) → (Nat → Int32) → Prop}
    (hpost : ∀ a b c d, post (nI (cn (cln kinds broken wanted ln U n) (3 ^ U))) a b c d) : wp_X7_clean (nI U) kinds broken len (nI n) wanted track stack depth cb post := by
  have h243 : 3 ^ U ≤ 243 := Nat.pow_le_pow_right (by decide) hU
  unfold wp_X7_clean
  refine t_parkings hU ?_
  have key : ∀ (d p : Nat) (a b c e : Nat → Int32), p + d = 3 ^ U → Z_X7_clean_9 (nI U) kinds broken len (nI n) wanted post (nI (3 ^ U)) (d + 1) (nI (cn (cln kinds broken wanted ln U n) p)) (nI p) a b c e := by
    intro d
    induction d with
    | zero =>
      intro p a b c e hp
      show Y_X7_clean_9 _ _ _ _ _ _ _ _ _ _ _ _ _ _ _
      unfold Y_X7_clean_9
      have : p = 3 ^ U := by omega
      subst this
      exact ⟨fun _ => hpost a b c e, fun q => absurd ((i_le (by omega) (by omega)).mpr (by omega)) q⟩
    | succ d ih =>
      intro p a b c e hp
      show Y_X7_clean_9 _ _ _ _ _ _ _ _ _ _ _ _ _ _ _
      unfold Y_X7_clean_9
      refine ⟨fun q => absurd ((i_le (by omega) (by omega)).mp q) (by omega), fun _ => ?_⟩
      refine t_isClean hU hn (by omega) hlen (fun a' b' c' e' _ _ => ?_)
      rw [i_1]
      have := ih (p + 1) a' b' c' e' (by omega)
      simp only [cn] at this
      cases hq : cln kinds broken wanted ln U n p with
      | false =>
        rw [hq] at this
        refine ⟨fun _ y ey => ?_, fun q => absurd rfl q⟩
        rw [Int32.add_zero] at ey
        subst ey
        exact this
      | true =>
        rw [hq] at this
        refine ⟨fun q => absurd q (by decide), fun _ y ey => ?_⟩
        rw [i_1] at ey
        subst ey
        exact this
  exact ⟨_, key (3 ^ U) 0 track stack depth cb (by omega)⟩
theorem t_parkingM (hU : U ≤ 5) (hn : n ≤ 5) (hlen : ∀ t, t < 3 → len t = nI (ln t) ∧ ln t ≤ 5) {x1 : Int32} {u : Nat} (hu : u < U) {track stack depth cb : Nat → Int32} {post : Int32 → (Nat → Int32) → (Nat → Int32) → (Nat → Int32) → (Nat → Int32) → Prop}
    (h1 : ∀ p, p < 3 ^ U → cln kinds broken wanted ln U n p = true → x1 = nI (cn (cln kinds broken wanted ln U n) p) → ∀ a b c d, post (nI (dg U p u)) a b c d)
    (h2 : (x1 < 0 ∨ nI (cn (cln kinds broken wanted ln U n) (3 ^ U)) ≤ x1) → ∀ a b c d, post (-3) a b c d) : wp_X7_parking (nI U) kinds broken len (nI n) wanted x1 (nI u) track stack depth cb post := by
  have h243 : 3 ^ U ≤ 243 := Nat.pow_le_pow_right (by decide) hU
  have hpos : 0 < 3 ^ U := Nat.pow_pos (by decide)
  have hcl := cn_le (cln kinds broken wanted ln U n) (3 ^ U)
  unfold wp_X7_parking
  refine t_isUnitY hU hu ⟨fun _ => ?_, fun q => absurd q (by decide)⟩
  refine t_parkings hU ?_
  by_cases hneg : x1 < 0
  · refine ⟨1, ?_⟩
    show Y_X7_parking_22 _ _ _ _ _ _ _ _ _ _ _ _ _ _ _ _ _
    unfold Y_X7_parking_22
    exact ⟨fun q => absurd ((i_le (b := 0) (by omega) (by omega)).mp q) (by omega), fun _ => ⟨fun _ => h2 (Or.inl hneg) _ _ _ _, fun q => absurd hneg q⟩⟩
  · obtain ⟨k, hk, rfl⟩ := nI_of hneg
    have key : ∀ (d p : Nat) (a b c e : Nat → Int32), p + d = 3 ^ U → cn (cln kinds broken wanted ln U n) p ≤ k → Z_X7_parking_22 (nI U) kinds broken len (nI n) wanted (nI k) (nI u) post (nI (3 ^ U)) (d + 1) (nI (k - cn (cln kinds broken wanted ln U n) p)) (nI p) a b c e := by
      intro d
      induction d with
      | zero =>
        intro p a b c e hp hle
        show Y_X7_parking_22 _ _ _ _ _ _ _ _ _ _ _ _ _ _ _ _ _
        unfold Y_X7_parking_22
        have : p = 3 ^ U := by omega
        subst this
        exact ⟨fun _ => h2 (Or.inr ((i_le (by omega) (by omega)).mpr hle)) _ _ _ _, fun q => absurd ((i_le (by omega) (by omega)).mpr (by omega)) q⟩
      | succ d ih =>
        intro p a b c e hp hle
        show Y_X7_parking_22 _ _ _ _ _ _ _ _ _ _ _ _ _ _ _ _ _
        unfold Y_X7_parking_22
        refine ⟨fun q => absurd ((i_le (by omega) (by omega)).mp q) (by omega), fun _ => ⟨fun q => absurd q (nI_pos (by omega)), fun _ => ?_⟩⟩
        refine t_isClean hU hn (by omega) hlen (fun a' b' c' e' htr _ => ?_)
        rw [i_1]
        have ih2 := ih (p + 1) a' b' c' e' (by omega)
        simp only [cn] at ih2
        cases hq : cln kinds broken wanted ln U n p with
        | false =>
          rw [hq] at ih2
          exact ⟨fun _ => ih2 hle, fun q => absurd rfl q⟩
        | true =>
          rw [hq] at ih2
          refine ⟨fun q => absurd q (by decide), fun _ => ⟨fun q => ?_, fun q => ?_⟩⟩
          · have hlt : cn (cln kinds broken wanted ln U n) p < k := by
              rcases Nat.lt_or_ge (cn (cln kinds broken wanted ln U n) p) k with z | z
              · exact z
              · exfalso; apply q; rw [show k - cn (cln kinds broken wanted ln U n) p = 0 by omega]; rfl
            have e2 : nI (k - cn (cln kinds broken wanted ln U n) p) + (-1) = nI (k - (cn (cln kinds broken wanted ln U n) p + 1)) := by
              rw [i_m1]
              show _ - nI 1 = _
              rw [i_sub (by omega)]
              rfl
            rw [e2]
            exact ih2 hlt
          · have hz : k - cn (cln kinds broken wanted ln U n) p = 0 := (i_eq (b := 0) (by omega) (by omega)).mp q
            refine ⟨i_in (by omega) (by omega), ?_⟩
            rw [i_cl (by omega), htr u hu]
            exact h1 p (by omega) hq (by rw [show k = cn (cln kinds broken wanted ln U n) p by omega]) _ _ _ _
    have := key (3 ^ U) 0 track stack depth cb (by omega) (Nat.zero_le k)
    exact ⟨_, this⟩
theorem t_narrowM (hU : U ≤ 5) (hn : n ≤ 5) (hlen : ∀ t, t < 3 → len t = nI (ln t) ∧ ln t ≤ 5) {track stack depth cb : Nat → Int32} {post : Int32 → (Nat → Int32) → (Nat → Int32) → (Nat → Int32) → (Nat → Int32) → Prop}
    (hpost : ∀ a b c d, post (nar (cln kinds broken wanted ln U n) (usd U) (3 ^ U)).1 a b c d) : wp_X7_narrow (nI U) kinds broken len (nI n) wanted track stack depth cb post := by
  have h243 : 3 ^ U ≤ 243 := Nat.pow_le_pow_right (by decide) hU
  unfold wp_X7_narrow
  refine t_parkings hU ?_
  have key : ∀ (d p : Nat) (a b c e : Nat → Int32), p + d = 3 ^ U → Z_X7_narrow_15 (nI U) kinds broken len (nI n) wanted post (nI (3 ^ U)) (d + 1) (nar (cln kinds broken wanted ln U n) (usd U) p).1 (nI (nar (cln kinds broken wanted ln U n) (usd U) p).2) (nI (cn (cln kinds broken wanted ln U n) p)) (nI p) a b c e := by
    intro d
    induction d with
    | zero =>
      intro p a b c e hp
      show Y_X7_narrow_15 _ _ _ _ _ _ _ _ _ _ _ _ _ _ _ _ _
      unfold Y_X7_narrow_15
      have : p = 3 ^ U := by omega
      subst this
      exact ⟨fun _ => hpost a b c e, fun q => absurd ((i_le (by omega) (by omega)).mpr (by omega)) q⟩
    | succ d ih =>
      intro p a b c e hp
      show Y_X7_narrow_15 _ _ _ _ _ _ _ _ _ _ _ _ _ _ _ _ _
      unfold Y_X7_narrow_15
      refine ⟨fun q => absurd ((i_le (by omega) (by omega)).mp q) (by omega), fun _ => ?_⟩
      refine t_isClean hU hn (by omega) hlen (fun a' b' c' e' _ hdp => ?_)
      have ih2 := ih (p + 1) a' b' c' e' (by omega)
      have hna := nar_le (cln kinds broken wanted ln U n) (usd U) p
      simp only [cn, nar] at ih2
      rw [i_1]
      cases hq : cln kinds broken wanted ln U n p with
      | false =>
        rw [hq] at ih2
        exact ⟨fun _ => by simpa using ih2, fun q => absurd rfl q⟩
      | true =>
        rw [hq] at ih2
        refine ⟨fun q => absurd q (by decide), fun _ => ⟨i_in (a := 0) (by omega) (by omega), ?_⟩⟩
        have d0 : c' (0 : Int32).toNatClampNeg = nI (sq U (dg U p) 0).length := hdp 0 (by omega)
        have d1 : c' (1 : Int32).toNatClampNeg = nI (sq U (dg U p) 1).length := hdp 1 (by omega)
        have d2 : c' (2 : Int32).toNatClampNeg = nI (sq U (dg U p) 2).length := hdp 2 (by omega)
        have l0 := sq_le (dg U p) U 0
        have l1 := sq_le (dg U p) U 1
        have l2 := sq_le (dg U p) U 2
        have fin : ∀ (s0 s1 : Int32), s0 + s1 = nI (usd U p) → B_X7_narrow_74 (nI U) kinds broken len (nI n) wanted post (Z_X7_narrow_15 (nI U) kinds broken len (nI n) wanted post (nI (3 ^ U)) (d + 1)) (nar (cln kinds broken wanted ln U n) (usd U) p).1 (nI (nar (cln kinds broken wanted ln U n) (usd U) p).2) (nI (cn (cln kinds broken wanted ln U n) p)) (nI (3 ^ U)) (nI p) s0 s1 a' b' c' e' := by
          intro s0 s1 hs
          unfold B_X7_narrow_74
          intro y ey
          rw [hs] at ey
          subst ey
          rw [i_1, i_1]
          have hu3 : usd U p ≤ 3 := by
            unfold usd ne1
            split <;> split <;> split <;> omega
          refine ⟨fun z => ?_, fun z => ?_⟩
          · have hz := (i_le (by omega) (by omega)).mp z
            rw [if_neg (by omega)] at ih2
            simpa using ih2
          · have hz : ¬ (nar (cln kinds broken wanted ln U n) (usd U) p).2 ≤ usd U p := fun w => z ((i_le (by omega) (by omega)).mpr w)
            rw [if_pos ⟨rfl, by omega⟩] at ih2
            simpa using ih2
        have c2 : ∀ (s0 s1 : Int32), s0 + s1 = nI (ne1 (sq U (dg U p) 0).length + ne1 (sq U (dg U p) 1).length) → B_X7_narrow_59 (nI U) kinds broken len (nI n) wanted post (Z_X7_narrow_15 (nI U) kinds broken len (nI n) wanted post (nI (3 ^ U)) (d + 1)) (nar (cln kinds broken wanted ln U n) (usd U) p).1 (nI (nar (cln kinds broken wanted ln U n) (usd U) p).2) (nI (cn (cln kinds broken wanted ln U n) p)) (nI (3 ^ U)) (nI p) s0 s1 a' b' c' e' := by
          intro s0 s1 hs
          unfold B_X7_narrow_59
          rw [d2]
          refine ⟨i_in (a := 2) (by omega) (by omega), fun z => fin _ _ ?_, fun z => fin _ _ ?_⟩
          · have hz : (sq U (dg U p) 2).length ≤ 0 := (i_le (b := 0) (by omega) (by omega)).mp z
            rw [hs]
            show _ + nI 0 = _
            rw [nI_add]
            unfold usd
            congr 1
            unfold ne1
            rw [if_neg (show ¬ 0 < (sq U (dg U p) 2).length by omega)]
          · have hz : ¬ (sq U (dg U p) 2).length ≤ 0 := fun w => z ((i_le (b := 0) (by omega) (by omega)).mpr w)
            rw [hs]
            show _ + nI 1 = _
            rw [nI_add]
            unfold usd
            congr 1
            congr 1
            unfold ne1
            rw [if_pos (by omega)]
        have c1 : ∀ (s0 : Int32), s0 = nI (ne1 (sq U (dg U p) 0).length) → B_X7_narrow_45 (nI U) kinds broken len (nI n) wanted post (Z_X7_narrow_15 (nI U) kinds broken len (nI n) wanted post (nI (3 ^ U)) (d + 1)) (nar (cln kinds broken wanted ln U n) (usd U) p).1 (nI (nar (cln kinds broken wanted ln U n) (usd U) p).2) (nI (cn (cln kinds broken wanted ln U n) p)) (nI (3 ^ U)) (nI p) s0 a' b' c' e' := by
          intro s0 hs
          unfold B_X7_narrow_45
          rw [d1]
          refine ⟨i_in (a := 1) (by omega) (by omega), fun z => c2 _ _ ?_, fun z => c2 _ _ ?_⟩
          · have hz : (sq U (dg U p) 1).length ≤ 0 := (i_le (b := 0) (by omega) (by omega)).mp z
            rw [hs]
            show _ + nI 0 = _
            rw [nI_add]
            congr 1
            congr 1
            unfold ne1
            rw [if_neg (by omega)]
          · have hz : ¬ (sq U (dg U p) 1).length ≤ 0 := fun w => z ((i_le (b := 0) (by omega) (by omega)).mpr w)
            rw [hs]
            show _ + nI 1 = _
            rw [nI_add]
            congr 1
            congr 1
            unfold ne1
            rw [if_pos (by omega)]
        rw [d0]
        refine ⟨fun z => c1 _ ?_, fun z => c1 _ ?_⟩
        · have hz : (sq U (dg U p) 0).length ≤ 0 := (i_le (b := 0) (by omega) (by omega)).mp z
          unfold ne1
          rw [if_neg (by omega)]
          rfl
        · have hz : ¬ (sq U (dg U p) 0).length ≤ 0 := fun w => z ((i_le (b := 0) (by omega) (by omega)).mpr w)
          unfold ne1
          rw [if_pos (by omega)]
          rfl
  exact ⟨_, key (3 ^ U) 0 track stack depth cb (by omega)⟩
end P5
