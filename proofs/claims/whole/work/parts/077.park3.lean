theorem JL_mono {sv : Nat → Nat → Bool} {U n : Nat} {L : Nat → List Nat} {cb : Nat → Int32} {is : Bool} {P P' : Nat → Nat → Nat → Prop} (h : JL sv U n L cb is P) (hp : ∀ a b c, a ≤ (L 0).length → b ≤ (L 1).length → c ≤ (L 2).length → P a b c → P' a b c) : JL sv U n L cb is P' :=
  ⟨h.1, h.2.1, fun hT => (h.2.2 hT).elim Or.inl (fun ⟨a, b, c, h1, h2, h3, h4, h5, h6⟩ => Or.inr ⟨a, b, c, h1, h2, h3, hp a b c h1 h2 h3 h4, h5, h6⟩)⟩
theorem i_m1 (k : Nat) : nI k + (-1) = nI k - 1 := by rw [Int32.sub_eq_add_neg]
section P3
variable {U n : Nat} {L : Nat → List Nat} {kinds broken wanted stack depth : Nat → Int32} {post : Int32 → (Nat → Int32) → Prop}
theorem t_cl86 (hU : (L 0).length + (L 1).length + (L 2).length = U) (hU5 : U ≤ 5) (hn : n ≤ 5) (he : ∀ t, t < 3 → ∀ u ∈ L t, u < 5) (hst : ∀ t, t < 3 → ∀ a, (h : a + 1 ≤ (L t).length) → stack (5 * t + a) = nI ((L t)[(L t).length - (a + 1)]'(by omega)))
    {a b : Nat} (ha : a ≤ (L 0).length) (hb : b ≤ (L 1).length) {K240 : Int32 → (Nat → Int32) → Prop} (hK : ∀ cb' is', JL (fun u i => srv kinds broken u (wanted i)) U n L cb' is' (Pc a b 0) → K240 (b2 is') cb') :
    ∀ (k : Nat) (cb : Nat → Int32) (is : Bool), k ≤ (L 2).length + 1 → JL (fun u i => srv kinds broken u (wanted i)) U n L cb is (Pc a b k) → Z_X7_canLeave_86 (nI U) kinds broken (nI n) wanted stack depth post (nI a) (nI b) K240 (k + 1) (b2 is) (nI k - 1) cb := by
  intro k
  induction k with
  | zero =>
    intro cb is _ hJ
    show Y_X7_canLeave_86 _ _ _ _ _ _ _ _ _ _ _ _ _ _ _
    unfold Y_X7_canLeave_86
    exact ⟨fun _ => hK cb is hJ, fun q => absurd (by decide) q⟩
  | succ k ih =>
    intro cb is hk hJ
    show Y_X7_canLeave_86 _ _ _ _ _ _ _ _ _ _ _ _ _ _ _
    rw [nI_pred]
    exact t_clBody hU hU5 hn he hst ha hb (by omega) hJ (fun cb' is' hJ' => by rw [i_m1]; exact ih cb' is' (by omega) hJ')
theorem t_cl74 (hU : (L 0).length + (L 1).length + (L 2).length = U) (hU5 : U ≤ 5) (hn : n ≤ 5) (he : ∀ t, t < 3 → ∀ u ∈ L t, u < 5) (hst : ∀ t, t < 3 → ∀ a, (h : a + 1 ≤ (L t).length) → stack (5 * t + a) = nI ((L t)[(L t).length - (a + 1)]'(by omega))) (hdp : ∀ t, t < 3 → depth t = nI (L t).length)
    {a : Nat} (ha : a ≤ (L 0).length) {K246 : Int32 → (Nat → Int32) → Prop} (hK : ∀ cb' is', JL (fun u i => srv kinds broken u (wanted i)) U n L cb' is' (Pc a 0 0) → K246 (b2 is') cb') :
    ∀ (k : Nat) (cb : Nat → Int32) (is : Bool), k ≤ (L 1).length + 1 → JL (fun u i => srv kinds broken u (wanted i)) U n L cb is (Pc a k 0) → Z_X7_canLeave_74 (nI U) kinds broken (nI n) wanted stack depth post (nI a) K246 (k + 1) (b2 is) (nI k - 1) cb := by
  intro k
  induction k with
  | zero =>
    intro cb is _ hJ
    show Y_X7_canLeave_74 _ _ _ _ _ _ _ _ _ _ _ _ _ _
    unfold Y_X7_canLeave_74
    exact ⟨fun _ => hK cb is hJ, fun q => absurd (by decide) q⟩
  | succ k ih =>
    intro cb is hk hJ
    show Y_X7_canLeave_74 _ _ _ _ _ _ _ _ _ _ _ _ _ _
    rw [nI_pred]
    unfold Y_X7_canLeave_74
    refine ⟨fun q => absurd q (nI_pos (by omega)), fun _ => ⟨i_in (a := 2) (by omega) (by omega), ?_⟩⟩
    intro y ey
    have e2 : y = nI ((L 2).length + 1) - 1 := by
      rw [ey, nI_pred]; exact hdp 2 (by omega)
    subst e2
    refine ⟨_, t_cl86 hU hU5 hn he hst ha (by omega) (fun cb' is' hJ' => ?_) ((L 2).length + 1) cb is (Nat.le_refl _) (JL_mono hJ (fun a' b' c' h1 h2 h3 h4 => ?_))⟩
    · rw [i_m1]
      refine ih cb' is' (by omega) (JL_mono hJ' (fun a' b' c' h1 h2 h3 h4 => ?_))
      unfold Pc at h4 ⊢
      omega
    · unfold Pc at h4 ⊢
      omega
theorem t_cl63 (hU : (L 0).length + (L 1).length + (L 2).length = U) (hU5 : U ≤ 5) (hn : n ≤ 5) (he : ∀ t, t < 3 → ∀ u ∈ L t, u < 5) (hst : ∀ t, t < 3 → ∀ a, (h : a + 1 ≤ (L t).length) → stack (5 * t + a) = nI ((L t)[(L t).length - (a + 1)]'(by omega))) (hdp : ∀ t, t < 3 → depth t = nI (L t).length)
    (hpost : ∀ cb, post (b2 (can (fun u i => srv kinds broken u (wanted i)) n 0 L)) cb) :
    ∀ (k : Nat) (cb : Nat → Int32) (is : Bool), k ≤ (L 0).length + 1 → JL (fun u i => srv kinds broken u (wanted i)) U n L cb is (Pc k 0 0) → Z_X7_canLeave_63 (nI U) kinds broken (nI n) wanted stack depth post (k + 1) (b2 is) (nI k - 1) cb := by
  intro k
  induction k with
  | zero =>
    intro cb is _ hJ
    show Y_X7_canLeave_63 _ _ _ _ _ _ _ _ _ _ _ _
    unfold Y_X7_canLeave_63
    refine ⟨fun _ => ⟨by cases is <;> rfl, ?_⟩, fun q => absurd (by decide) q⟩
    have : is = can (fun u i => srv kinds broken u (wanted i)) n 0 L := by
      obtain ⟨-, h2, h3⟩ := hJ
      cases hT : can (fun u i => srv kinds broken u (wanted i)) n 0 L with
      | true =>
        rcases h3 hT with q | ⟨a, b, c, -, -, -, q, -⟩
        · exact q
        · unfold Pc at q; omega
      | false =>
        cases is with
        | false => rfl
        | true => rw [h2 rfl] at hT; exact hT
    rw [this]
    exact hpost cb
  | succ k ih =>
    intro cb is hk hJ
    show Y_X7_canLeave_63 _ _ _ _ _ _ _ _ _ _ _ _
    rw [nI_pred]
    unfold Y_X7_canLeave_63
    refine ⟨fun q => absurd q (nI_pos (by omega)), fun _ => ⟨i_in (a := 1) (by omega) (by omega), ?_⟩⟩
    intro y ey
    have e2 : y = nI ((L 1).length + 1) - 1 := by
      rw [ey, nI_pred]; exact hdp 1 (by omega)
    subst e2
    refine ⟨_, t_cl74 hU hU5 hn he hst hdp (by omega) (fun cb' is' hJ' => ?_) ((L 1).length + 1) cb is (Nat.le_refl _) (JL_mono hJ (fun a' b' c' h1 h2 h3 h4 => ?_))⟩
    · rw [i_m1]
      refine ih cb' is' (by omega) (JL_mono hJ' (fun a' b' c' h1 h2 h3 h4 => ?_))
      unfold Pc at h4 ⊢
      omega
    · unfold Pc at h4 ⊢
      omega
theorem t_canLeave (hU : (L 0).length + (L 1).length + (L 2).length = U) (hU5 : U ≤ 5) (hn : n ≤ 5) (he : ∀ t, t < 3 → ∀ u ∈ L t, u < 5) (hst : ∀ t, t < 3 → ∀ a, (h : a + 1 ≤ (L t).length) → stack (5 * t + a) = nI ((L t)[(L t).length - (a + 1)]'(by omega))) (hdp : ∀ t, t < 3 → depth t = nI (L t).length) {cb0 : Nat → Int32}
    (hpost : ∀ cb, post (b2 (can (fun u i => srv kinds broken u (wanted i)) n 0 L)) cb) : wp_X7_canLeave (nI U) kinds broken (nI n) wanted stack depth cb0 post := by
  unfold wp_X7_canLeave
  have key : ∀ (d k : Nat) (cb : Nat → Int32) (K22 : (Nat → Int32) → Prop), (∀ cb' : Nat → Int32, (∀ j, j < 216 → cb' j = 0) → K22 cb') → k + d = 216 → (∀ j, j < k → cb j = 0) → Z_X7_canLeave_2 (nI U) kinds broken (nI n) wanted stack depth post K22 (d + 1) (nI k) cb := by
    intro d
    induction d with
    | zero =>
      intro k cb K22 hK hk h
      show Y_X7_canLeave_2 _ _ _ _ _ _ _ _ _ _ _ _
      unfold Y_X7_canLeave_2
      exact ⟨fun _ => hK cb (fun j hj => h j (by omega)), fun q => absurd ((i_le (a := 216) (by omega) (by omega)).mpr (by omega)) q⟩
    | succ d ih =>
      intro k cb K22 hK hk h
      show Y_X7_canLeave_2 _ _ _ _ _ _ _ _ _ _ _ _
      unfold Y_X7_canLeave_2
      refine ⟨fun q => absurd ((i_le (a := 216) (by omega) (by omega)).mp q) (by omega), fun _ => ⟨i_in (by omega) (by omega), ?_⟩⟩
      rw [i_cl (by omega), i_1, nar0]
      refine ih (k + 1) _ K22 hK (by omega) (fun j hj => ?_)
      by_cases e : j = k
      · subst e; rw [up_s]
      · rw [up_o _ _ e]; exact h j (by omega)
  refine ⟨217, key 216 0 cb0 _ (fun cb hcb => ?_) (by omega) (fun j h => absurd h (Nat.not_lt_zero j))⟩
  have d0 : depth (0 : Int32).toNatClampNeg = nI (L 0).length := hdp 0 (by omega)
  have d1 : depth (1 : Int32).toNatClampNeg = nI (L 1).length := hdp 1 (by omega)
  have d2 : depth (2 : Int32).toNatClampNeg = nI (L 2).length := hdp 2 (by omega)
  rw [d0, d1, d2]
  have ex : ((36 * nI (L 0).length) + (6 * nI (L 1).length)) + nI (L 2).length = nI (36 * (L 0).length + 6 * (L 1).length + (L 2).length) := by
    show ((nI 36 * nI (L 0).length) + (nI 6 * nI (L 1).length)) + nI (L 2).length = _
    rw [pk_mul, pk_mul, nI_add, nI_add]
  rw [ex]
  refine ⟨i_in (a := 0) (by omega) (by omega), i_in (a := 1) (by omega) (by omega), i_in (a := 2) (by omega) (by omega), i_in (by omega) (by omega), i_in (a := 0) (by omega) (by omega), ?_⟩
  intro y ey
  have e2 : y = nI ((L 0).length + 1) - 1 := by rw [ey, nI_pred]
  subst e2
  rw [i_cl (by omega), nar1]
  refine ⟨_, t_cl63 hU hU5 hn he hst hdp hpost ((L 0).length + 1) _ false (Nat.le_refl _) ⟨?_, fun q => absurd q (by decide), fun hT => Or.inr ⟨(L 0).length, (L 1).length, (L 2).length, Nat.le_refl _, Nat.le_refl _, Nat.le_refl _, Or.inl (Nat.lt_succ_self _), by rw [up_s]; decide, ?_⟩⟩⟩
  · intro a b c ha hb hc hne
    by_cases e : 36 * a + 6 * b + c = 36 * (L 0).length + 6 * (L 1).length + (L 2).length
    · have e3 : a = (L 0).length ∧ b = (L 1).length ∧ c = (L 2).length := by omega
      obtain ⟨rfl, rfl, rfl⟩ := e3
      have hz : U - (L 0).length - (L 1).length - (L 2).length = 0 := by omega
      rw [hz]
      refine ⟨Nat.zero_le _, fun h => ?_⟩
      rw [Nat.sub_zero] at h
      rw [← h]
      refine can_congr _ _ _ _ _ (fun t ht => ?_)
      unfold rl
      rcases (show t = 0 ∨ t = 1 ∨ t = 2 by omega) with z | z | z <;> subst z <;> simp [rem_all]
    · rw [up_o _ _ e, hcb _ (by omega)] at hne
      exact absurd rfl hne
  · have hz : U - (L 0).length - (L 1).length - (L 2).length = 0 := by omega
    rw [hz, Nat.sub_zero, ← hT]
    refine can_congr _ _ _ _ _ (fun t ht => ?_)
    unfold rl
    rcases (show t = 0 ∨ t = 1 ∨ t = 2 by omega) with z | z | z <;> subst z <;> simp [rem_all]
end P3
