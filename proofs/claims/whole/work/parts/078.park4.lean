/-! parkings by their numbers; the reference's isClean -/
def dg (U p u : Nat) : Nat := p / 3 ^ (U - 1 - u) % 3
theorem dg_lt (U p u : Nat) : dg U p u < 3 := Nat.mod_lt _ (by decide)
def sq (x : Nat) (tr : Nat → Nat) (t : Nat) : List Nat := (List.range x).filter (fun u => tr u == t)
theorem tk_sq (U : Nat) (tr : Nat → Nat) (t : Nat) : tk U tr t = (sq U tr t).reverse := rfl
theorem sq_in (x : Nat) (tr : Nat → Nat) : sq (x + 1) tr (tr x) = sq x tr (tr x) ++ [x] := by
  unfold sq; rw [List.range_succ, List.filter_append]; simp
theorem sq_out (x : Nat) (tr : Nat → Nat) {t : Nat} (h : t ≠ tr x) : sq (x + 1) tr t = sq x tr t := by
  unfold sq; rw [List.range_succ, List.filter_append]
  have : ¬ tr x = t := fun q => h q.symm
  simp [this]
theorem sq_sum (tr : Nat → Nat) : ∀ x, (∀ u, u < x → tr u < 3) → (sq x tr 0).length + (sq x tr 1).length + (sq x tr 2).length = x
  | 0, _ => rfl
  | x + 1, h => by
    have ih := sq_sum tr x (fun u hu => h u (by omega))
    have ht := h x (by omega)
    rcases (show tr x = 0 ∨ tr x = 1 ∨ tr x = 2 by omega) with e | e | e
    · have h0 := sq_in x tr; rw [e] at h0
      rw [h0, sq_out x tr (t := 1) (by omega), sq_out x tr (t := 2) (by omega), List.length_append, List.length_singleton]; omega
    · have h0 := sq_in x tr; rw [e] at h0
      rw [h0, sq_out x tr (t := 0) (by omega), sq_out x tr (t := 2) (by omega), List.length_append, List.length_singleton]; omega
    · have h0 := sq_in x tr; rw [e] at h0
      rw [h0, sq_out x tr (t := 0) (by omega), sq_out x tr (t := 1) (by omega), List.length_append, List.length_singleton]; omega
theorem sq_le (tr : Nat → Nat) (x t : Nat) : (sq x tr t).length ≤ x := by
  unfold sq; refine Nat.le_trans (List.length_filter_le _ _) ?_; simp
def fit (x : Nat) (ln tr : Nat → Nat) : Bool := decide ((sq x tr 0).length ≤ ln 0 ∧ (sq x tr 1).length ≤ ln 1 ∧ (sq x tr 2).length ≤ ln 2)
theorem fit_iff {x : Nat} {ln tr : Nat → Nat} : fit x ln tr = true ↔ ∀ t, t < 3 → (sq x tr t).length ≤ ln t := by
  unfold fit
  rw [decide_eq_true_iff]
  constructor
  · rintro ⟨h0, h1, h2⟩ t ht
    rcases (show t = 0 ∨ t = 1 ∨ t = 2 by omega) with z | z | z <;> subst z
    · exact h0
    · exact h1
    · exact h2
  · intro h
    exact ⟨h 0 (by omega), h 1 (by omega), h 2 (by omega)⟩
theorem fit_succ {x : Nat} {ln tr : Nat → Nat} (ht : tr x < 3) : fit (x + 1) ln tr = (fit x ln tr && decide ((sq x tr (tr x)).length + 1 ≤ ln (tr x))) := by
  have hin := sq_in x tr
  rw [Bool.eq_iff_iff, Bool.and_eq_true, fit_iff, fit_iff, decide_eq_true_iff]
  constructor
  · intro h
    have h1 := h (tr x) ht
    rw [hin, List.length_append, List.length_singleton] at h1
    refine ⟨fun t ht2 => ?_, h1⟩
    by_cases e : t = tr x
    · subst e; omega
    · have := h t ht2
      rw [sq_out x tr e] at this
      exact this
  · rintro ⟨h1, h2⟩ t ht2
    by_cases e : t = tr x
    · subst e; rw [hin, List.length_append, List.length_singleton]; exact h2
    · rw [sq_out x tr e]; exact h1 t ht2
/-- whether parking p is clean -/
def cln (kinds broken wanted : Nat → Int32) (ln : Nat → Nat) (U n p : Nat) : Bool := fit U ln (dg U p) && can (fun u i => srv kinds broken u (wanted i)) n 0 (tk U (dg U p))
section P4
variable {U n p : Nat} {kinds broken wanted len : Nat → Int32} {ln : Nat → Nat} {post : Int32 → (Nat → Int32) → (Nat → Int32) → (Nat → Int32) → (Nat → Int32) → Prop}
theorem t_isClean (hU : U ≤ 5) (hn : n ≤ 5) (hp : p < 3 ^ U) (hlen : ∀ t, t < 3 → len t = nI (ln t) ∧ ln t ≤ 5) {track stack depth cb : Nat → Int32}
    (hpost : ∀ track' stack' depth' cb' : Nat → Int32, (∀ u, u < U → track' u = nI (dg U p u)) → (∀ t, t < 3 → depth' t = nI (sq U (dg U p) t).length) → post (b2 (cln kinds broken wanted ln U n p)) track' stack' depth' cb') : wp_X7_isClean (nI U) kinds broken len (nI n) wanted (nI p) track stack depth cb post := by
  have hp243 : p < 243 := Nat.lt_of_lt_of_le hp (Nat.pow_le_pow_right (by decide) hU)
  unfold wp_X7_isClean
  intro y ey
  subst ey
  -- the digits
  have dig : ∀ (k : Nat) (tk0 : Nat → Int32) (K32 : (Nat → Int32) → Prop), k ≤ U → (∀ u, k ≤ u → u < U → tk0 u = nI (dg U p u)) → (∀ tk' : Nat → Int32, (∀ u, u < U → tk' u = nI (dg U p u)) → K32 tk') → Z_X7_isClean_9 (nI U) kinds broken len (nI n) wanted (nI p) post stack depth cb K32 (k + 1) (nI (p / 3 ^ (U - k))) (nI k - 1) tk0 := by
    intro k
    induction k with
    | zero =>
      intro tk0 K32 _ h hK
      show Y_X7_isClean_9 _ _ _ _ _ _ _ _ _ _ _ _ _ _ _ _
      unfold Y_X7_isClean_9
      exact ⟨fun _ => hK tk0 (fun u hu => h u (Nat.zero_le u) hu), fun q => absurd (by decide) q⟩
    | succ k ih =>
      intro tk0 K32 hk h hK
      show Y_X7_isClean_9 _ _ _ _ _ _ _ _ _ _ _ _ _ _ _ _
      rw [nI_pred]
      unfold Y_X7_isClean_9
      have hb : p / 3 ^ (U - (k + 1)) < 2147483648 := Nat.lt_of_le_of_lt (Nat.div_le_self _ _) (by omega)
      refine ⟨fun q => absurd q (nI_pos (by omega)), fun _ => ?_⟩
      intro y4 e4
      have e4' : y4 = nI (dg U p k) := by
        rw [e4]
        show nI (p / 3 ^ (U - (k + 1))) - nI (p / 3 ^ (U - (k + 1))) / nI 3 * nI 3 = _
        rw [i_rem hb (by decide) (by decide)]
        unfold dg
        rw [show U - (k + 1) = U - 1 - k by omega]
      subst e4'
      refine ⟨i_in (by omega) (by omega), ?_⟩
      intro y5 e5
      have e5' : y5 = nI (p / 3 ^ (U - k)) := by
        rw [e5]
        show nI (p / 3 ^ (U - (k + 1))) / nI 3 = _
        rw [i_div hb (by decide) (by decide), Nat.div_div_eq_div_mul]
        rw [show U - k = (U - (k + 1)) + 1 by omega, Nat.pow_succ]
      subst e5'
      rw [i_cl (by omega), i_m1]
      refine ih _ K32 (by omega) (fun u hu1 hu2 => ?_) hK
      by_cases e : u = k
      · subst e; rw [up_s]
      · rw [up_o _ _ e]; exact h u (by omega) hu2
  refine ⟨U + 1, ?_⟩
  have hd := dig U track
  rw [Nat.sub_self, Nat.pow_zero, Nat.div_one] at hd
  refine hd _ (Nat.le_refl U) (fun u h1 h2 => absurd h2 (by omega)) (fun track' htr => ?_)
  -- the depths are 0
  have dep : ∀ (d k : Nat) (dp : Nat → Int32) (K52 : (Nat → Int32) → Prop), k + d = 3 → (∀ t, t < k → dp t = 0) → (∀ dp' : Nat → Int32, (∀ t, t < 3 → dp' t = 0) → K52 dp') → Z_X7_isClean_34 (nI U) kinds broken len (nI n) wanted (nI p) post track' stack cb K52 (d + 1) (nI k) dp := by
    intro d
    induction d with
    | zero =>
      intro k dp K52 hk h hK
      show Y_X7_isClean_34 _ _ _ _ _ _ _ _ _ _ _ _ _ _ _
      unfold Y_X7_isClean_34
      exact ⟨fun _ => hK dp (fun t ht => h t (by omega)), fun q => absurd ((i_le (a := 3) (by omega) (by omega)).mpr (by omega)) q⟩
    | succ d ih =>
      intro k dp K52 hk h hK
      show Y_X7_isClean_34 _ _ _ _ _ _ _ _ _ _ _ _ _ _ _
      unfold Y_X7_isClean_34
      refine ⟨fun q => absurd ((i_le (a := 3) (by omega) (by omega)).mp q) (by omega), fun _ => ⟨i_in (by omega) (by omega), ?_⟩⟩
      rw [i_cl (by omega), i_1]
      refine ih (k + 1) _ K52 (by omega) (fun t ht => ?_) hK
      by_cases e : t = k
      · subst e; rw [up_s]
      · rw [up_o _ _ e]; exact h t (by omega)
  refine ⟨4, dep 3 0 depth _ (by omega) (fun t h => absurd h (Nat.not_lt_zero t)) (fun depth' hdp0 => ?_)⟩
  -- the stacks
  have hlt := fun u => dg_lt U p u
  generalize htre : dg U p = tr at *
  have stk : ∀ (d x : Nat) (st dp : Nat → Int32) (K138 : Int32 → (Nat → Int32) → (Nat → Int32) → Prop), x + d = U → (∀ t, t < 3 → dp t = nI (sq x tr t).length) → (∀ t, t < 3 → ∀ j, (h : j < (sq x tr t).length) → st (5 * t + j) = nI (sq x tr t)[j]) → (∀ st' dp' : Nat → Int32, (∀ t, t < 3 → dp' t = nI (sq U tr t).length) → (∀ t, t < 3 → ∀ j, (h : j < (sq U tr t).length) → st' (5 * t + j) = nI (sq U tr t)[j]) → K138 (b2 (fit U ln tr)) st' dp') → Z_X7_isClean_57 (nI U) kinds broken len (nI n) wanted (nI p) post track' cb K138 (d + 1) (b2 (fit x ln tr)) (nI x) st dp := by
    intro d
    induction d with
    | zero =>
      intro x st dp K138 hx h1 h2 hK
      show Y_X7_isClean_57 _ _ _ _ _ _ _ _ _ _ _ _ _ _ _ _
      unfold Y_X7_isClean_57
      have : x = U := by omega
      subst this
      exact ⟨fun _ => hK st dp h1 h2, fun q => absurd ((i_le (by omega) (by omega)).mpr (by omega)) q⟩
    | succ d ih =>
      intro x st dp K138 hx h1 h2 hK
      show Y_X7_isClean_57 _ _ _ _ _ _ _ _ _ _ _ _ _ _ _ _
      unfold Y_X7_isClean_57
      have htx := hlt x
      have hle := sq_le tr x (tr x)
      refine ⟨fun q => absurd ((i_le (by omega) (by omega)).mp q) (by omega), fun _ => ⟨i_in (by omega) (by omega), ?_⟩⟩
      rw [i_cl (by omega), htr x (by omega), i_1]
      intro y ey
      subst ey
      have hin : vp_in (nI (tr x)) 3 := i_in htx (by omega)
      rw [i_cl (by omega), h1 (tr x) htx]
      have eix : ((5 : Int32) * nI (tr x)) + nI (sq x tr (tr x)).length = nI (5 * tr x + (sq x tr (tr x)).length) := by
        show (nI 5 * nI (tr x)) + _ = _
        rw [pk_mul, nI_add]
      rw [eix, i_1]
      refine ⟨hin, i_in (by omega) (by omega), hin, ?_⟩
      intro y17 e17
      subst e17
      rw [i_cl (by omega), (hlen (tr x) htx).1, up_s]
      have nx : ∀ b : Bool, b = fit (x + 1) ln tr → Z_X7_isClean_57 (nI U) kinds broken len (nI n) wanted (nI p) post track' cb K138 (d + 1) (b2 b) (nI (x + 1)) (upd st (5 * tr x + (sq x tr (tr x)).length) (nI x)) (upd dp (tr x) (nI ((sq x tr (tr x)).length + 1))) := by
        intro b eb
        subst eb
        refine ih (x + 1) _ _ K138 (by omega) (fun t ht => ?_) (fun t ht j hj => ?_) hK
        · by_cases e : t = tr x
          · subst e; rw [up_s, sq_in, List.length_append, List.length_singleton]
          · rw [up_o _ _ e, sq_out x tr e]; exact h1 t ht
        · have hle2 := sq_le tr x t
          by_cases e : t = tr x
          · subst e
            by_cases e2 : j = (sq x tr (tr x)).length
            · subst e2
              rw [up_s]
              congr 1
              have : (sq x tr (tr x) ++ [x])[(sq x tr (tr x)).length]'(by simp) = x := by simp
              refine this.symm.trans ?_
              congr 1
              exact (sq_in x tr).symm
            · have hj2 : j < (sq x tr (tr x)).length := by
                rw [sq_in, List.length_append, List.length_singleton] at hj; omega
              rw [up_o _ _ (by omega), h2 _ ht j hj2]
              congr 1
              have : (sq x tr (tr x) ++ [x])[j]'(by simp; omega) = (sq x tr (tr x))[j] := List.getElem_append_left hj2
              refine this.symm.trans ?_
              congr 1
              exact (sq_in x tr).symm
          · have hj2 : j < (sq x tr t).length := by rw [sq_out x tr e] at hj; exact hj
            have hne : 5 * t + j ≠ 5 * tr x + (sq x tr (tr x)).length := by omega
            rw [up_o _ _ hne, h2 t ht j hj2]
            congr 1
            congr 1
            exact (sq_out x tr e).symm
      have hfs := fit_succ (x := x) (ln := ln) htx
      refine ⟨hin, fun q => ?_, fun q => ⟨hin, hin, fun q2 => ?_, fun q2 => ?_⟩⟩
      · refine nx false ?_
        have : fit x ln tr = false := by
          cases hf : fit x ln tr with
          | false => rfl
          | true => rw [hf] at q; exact absurd q (by decide)
        rw [hfs, this]
        rfl
      · have := (i_lt (by have := (hlen (tr x) htx).2; omega) (by omega)).mp q2
        refine nx false ?_
        rw [hfs, decide_eq_false (by omega), Bool.and_false]
      · have h3 : ¬ ln (tr x) < (sq x tr (tr x)).length + 1 := fun z => q2 ((i_lt (by have := (hlen (tr x) htx).2; omega) (by omega)).mpr z)
        refine nx true ?_
        have : fit x ln tr = true := by
          cases hf : fit x ln tr with
          | true => rfl
          | false => rw [hf] at q; exact absurd rfl q
        rw [hfs, this, decide_eq_true (by omega)]
        rfl
  have hf0 : fit 0 ln tr = true := fit_iff.mpr (fun t _ => Nat.zero_le _)
  have st0 := stk U 0 stack depth'
  rw [hf0] at st0
  refine ⟨U + 1, st0 _ (by omega) (fun t ht => hdp0 t ht) (fun t _ j h => absurd h (Nat.not_lt_zero j)) (fun stack' depth2 g1 g2 => ?_)⟩
  unfold cln at hpost
  rw [htre] at hpost
  cases hfit : fit U ln tr with
  | false =>
    rw [hfit] at hpost
    exact ⟨fun _ => hpost track' stack' depth2 cb htr g1, fun q => absurd rfl q⟩
  | true =>
    rw [hfit, Bool.true_and] at hpost
    refine ⟨fun q => absurd q (by decide), fun _ => ?_⟩
    have hsum := sq_sum tr U (fun u _ => hlt u)
    refine t_canLeave (L := tk U tr) (by simp only [tk_sq, List.length_reverse]; exact hsum) hU hn (fun t ht u hu => Nat.lt_of_lt_of_le ((tk_ok U tr t ht).2 u hu).1 hU) (fun t ht a h => ?_) (fun t ht => by rw [tk_sq, List.length_reverse]; exact g1 t ht) (fun cb' => ?_)
    · have hla : a < (sq U tr t).length := by rw [tk_sq, List.length_reverse] at h; omega
      rw [g2 t ht a hla]
      congr 1
      simp only [tk_sq, List.getElem_reverse, List.length_reverse]
      congr 1
      omega
    · cases hcn : can (fun u i => srv kinds broken u (wanted i)) n 0 (tk U tr) with
      | false => rw [hcn] at hpost; exact ⟨fun _ => hpost track' stack' depth2 cb' htr g1, fun q => absurd rfl q⟩
      | true => rw [hcn] at hpost; exact ⟨fun q => absurd q (by decide), fun _ => hpost track' stack' depth2 cb' htr g1⟩
end P4
theorem t_parkings {U : Nat} (hU : U ≤ 5) {post : Int32 → Prop} (hp : post (nI (3 ^ U))) : wp_X7_parkings (nI U) post := by
  unfold wp_X7_parkings
  have key : ∀ (d k : Nat), k + d = U → Z_X7_parkings_4 (nI U) post (d + 1) (nI (3 ^ k)) (nI k) := by
    intro d
    induction d with
    | zero =>
      intro k hk
      show Y_X7_parkings_4 _ _ _ _ _
      unfold Y_X7_parkings_4
      have : k = U := by omega
      subst this
      exact ⟨fun _ => hp, fun q => absurd ((i_le (by omega) (by omega)).mpr (by omega)) q⟩
    | succ d ih =>
      intro k hk
      show Y_X7_parkings_4 _ _ _ _ _
      unfold Y_X7_parkings_4
      refine ⟨fun q => absurd ((i_le (by omega) (by omega)).mp q) (by omega), fun _ y ey => ?_⟩
      have e : y = nI (3 ^ (k + 1)) := by
        rw [ey]
        show nI (3 ^ k) * nI 3 = _
        rw [pk_mul, Nat.pow_succ]
      subst e
      rw [i_1]
      exact ih (k + 1) (by omega)
  exact ⟨_, key U 0 (by omega)⟩
