/-! enough units where there is a way out; collecting; the narrowest -/
/-- how often kind k is wanted in places i, .. i + r - 1 -/
def cw (wanted : Nat → Int32) (k : Int32) : Nat → Nat → Nat
  | _, 0 => 0
  | i, r + 1 => (if wanted i = k then 1 else 0) + cw wanted k (i + 1) r
theorem cw_cn (wanted : Nat → Int32) (k : Int32) : ∀ (r i : Nat), cn (fun j => decide (wanted j = k)) (i + r) = cn (fun j => decide (wanted j = k)) i + cw wanted k i r
  | 0, i => rfl
  | r + 1, i => by
    have := cw_cn wanted k r (i + 1)
    rw [show i + (r + 1) = i + 1 + r by omega, this]
    simp only [cn, cw, decide_eq_true_eq]
    omega
def cs (kinds broken : Nat → Int32) (k : Int32) (l : List Nat) : Nat := (l.filter (fun u => srv kinds broken u k)).length
theorem cs_cons (kinds broken : Nat → Int32) (k : Int32) (u : Nat) (l : List Nat) : cs kinds broken k (u :: l) = (if srv kinds broken u k then 1 else 0) + cs kinds broken k l := by
  unfold cs
  rw [List.filter_cons]
  split
  · simp; omega
  · simp
theorem cs_app (kinds broken : Nat → Int32) (k : Int32) (l r : List Nat) : cs kinds broken k (l ++ r) = cs kinds broken k l + cs kinds broken k r := by
  unfold cs; rw [List.filter_append, List.length_append]
theorem srv_kind {kinds broken : Nat → Int32} {u : Nat} {k : Int32} (h : srv kinds broken u k = true) : kinds u = k ∧ broken u = 0 := by
  unfold srv at h
  simpa using h
theorem can_cs {kinds broken wanted : Nat → Int32} (k : Int32) : ∀ (r i : Nat) (L : Nat → List Nat), can (fun u i => srv kinds broken u (wanted i)) r i L = true → cw wanted k i r ≤ cs kinds broken k (L 0) + cs kinds broken k (L 1) + cs kinds broken k (L 2)
  | 0, _, _, _ => Nat.zero_le _
  | r + 1, i, L, h => by
    rw [can_succ] at h
    have step : ∀ t, t < 3 → tryT (fun u i => srv kinds broken u (wanted i)) r i L t = true → cw wanted k i (r + 1) ≤ cs kinds broken k (L 0) + cs kinds broken k (L 1) + cs kinds broken k (L 2) := by
      intro t ht z
      unfold tryT at z
      cases hq : L t with
      | nil => rw [hq] at z; exact absurd z (by simp)
      | cons u R =>
        rw [hq] at z
        obtain ⟨z1, z2⟩ := Bool.and_eq_true_iff.mp z
        have ih := can_cs k r (i + 1) _ z2
        have hc := cs_cons kinds broken k u R
        have hw : (if wanted i = k then 1 else 0) ≤ (if srv kinds broken u k then 1 else 0) := by
          by_cases e : wanted i = k
          · have z1' : srv kinds broken u (wanted i) = true := z1
            rw [e] at z1'
            simp [e, z1']
          · rw [if_neg e]; exact Nat.zero_le _
        simp only [cw]
        rcases (show t = 0 ∨ t = 1 ∨ t = 2 by omega) with e | e | e
        · subst e; rw [hq, hc]; simp at ih; omega
        · subst e; rw [hq, hc]; simp at ih; omega
        · subst e; rw [hq, hc]; simp at ih; omega
    rcases Bool.or_eq_true_iff.mp h with z | z
    · rcases Bool.or_eq_true_iff.mp z with z | z
      · exact step 0 (by omega) z
      · exact step 1 (by omega) z
    · exact step 2 (by omega) z
theorem cs_rev (kinds broken : Nat → Int32) (k : Int32) (l : List Nat) : cs kinds broken k l.reverse = cs kinds broken k l := by
  unfold cs; rw [List.filter_reverse, List.length_reverse]
theorem cs_sq (kinds broken : Nat → Int32) (k : Int32) (tr : Nat → Nat) (h : ∀ u, tr u < 3) : ∀ x, cs kinds broken k (sq x tr 0) + cs kinds broken k (sq x tr 1) + cs kinds broken k (sq x tr 2) = cn (fun u => srv kinds broken u k) x
  | 0 => rfl
  | x + 1 => by
    have ih := cs_sq kinds broken k tr h x
    have ht := h x
    have one : cs kinds broken k [x] = if srv kinds broken x k then 1 else 0 := by rw [cs_cons]; rfl
    simp only [cn]
    have hin := sq_in x tr
    rcases (show tr x = 0 ∨ tr x = 1 ∨ tr x = 2 by omega) with e | e | e
    · rw [e] at hin; rw [hin, sq_out x tr (t := 1) (by omega), sq_out x tr (t := 2) (by omega), cs_app, one]; omega
    · rw [e] at hin; rw [hin, sq_out x tr (t := 0) (by omega), sq_out x tr (t := 2) (by omega), cs_app, one]; omega
    · rw [e] at hin; rw [hin, sq_out x tr (t := 0) (by omega), sq_out x tr (t := 1) (by omega), cs_app, one]; omega
theorem cln_eno {kinds broken wanted : Nat → Int32} {ln : Nat → Nat} {U n p : Nat} (h : cln kinds broken wanted ln U n p = true) : eno kinds broken wanted n U = true := by
  refine eno_iff.mpr (fun k _ => ?_)
  unfold cln at h
  have h1 := can_cs (nI k) n 0 _ (Bool.and_eq_true_iff.mp h).2
  rw [tk_sq, tk_sq, tk_sq, cs_rev, cs_rev, cs_rev, cs_sq kinds broken (nI k) _ (fun u => dg_lt U p u)] at h1
  have h2 := cw_cn wanted (nI k) n 0
  rw [Nat.zero_add] at h2
  rw [h2]
  simp only [cn]
  omega
theorem cn_no {kinds broken wanted : Nat → Int32} {ln : Nat → Nat} {U n : Nat} (h : eno kinds broken wanted n U = false) (b : Nat) : cn (cln kinds broken wanted ln U n) b = 0 :=
  cn_zero (fun p _ => by
    cases hc : cln kinds broken wanted ln U n p with
    | false => rfl
    | true => rw [cln_eno hc] at h; exact absurd h (by decide))
section P8
variable {kinds broken wanted len : Nat → Int32} {n U : Nat} {ln : Nat → Nat}
theorem t_fillA {len0 : Nat} (hl : len0 < 2147483648) {x : Int32} {arr : Nat → Int32} {post : (Nat → Int32) → Prop} (hp : ∀ a : Nat → Int32, (∀ i, i < len0 → a i = x) → (∀ i, len0 ≤ i → a i = arr i) → post a) : wp_J7_fill_53178 len0 x arr post := by
  unfold wp_J7_fill_53178
  intro y ey
  subst ey
  have key : ∀ (d k : Nat) (a : Nat → Int32), k + d = len0 → (∀ i, i < k → a i = x) → (∀ i, k ≤ i → a i = arr i) → Z_J7_fill_53178_5 len0 x post (nI len0) (d + 1) (nI k) a := by
    intro d
    induction d with
    | zero =>
      intro k a hk h1 h2
      show Y_J7_fill_53178_5 _ _ _ _ _ _ _
      unfold Y_J7_fill_53178_5
      exact ⟨fun _ => hp a (fun i hi => h1 i (by omega)) (fun i hi => h2 i (by omega)), fun q => absurd ((i_le (by omega) (by omega)).mpr (by omega)) q⟩
    | succ d ih =>
      intro k a hk h1 h2
      show Y_J7_fill_53178_5 _ _ _ _ _ _ _
      unfold Y_J7_fill_53178_5
      refine ⟨fun q => absurd ((i_le (by omega) (by omega)).mp q) (by omega), fun _ => ⟨i_in (by omega) (by omega), ?_⟩⟩
      rw [i_cl (by omega), i_1]
      refine ih (k + 1) _ (by omega) (fun i hi => ?_) (fun i hi => ?_)
      · by_cases e : i = k
        · subst e; rw [up_s]
        · rw [up_o _ _ e]; exact h1 i (by omega)
      · rw [up_o _ _ (by omega)]; exact h2 i (by omega)
  exact ⟨_, key len0 0 arr (by omega) (fun i h => absurd h (Nat.not_lt_zero i)) (fun i _ => rfl)⟩
theorem t_collect (hU : U ≤ 5) (hn : n ≤ 5) (hlen : ∀ t, t < 3 → len t = nI (ln t) ∧ ln t ≤ 5) {packed row : Nat → Int32} {post : (Nat → Int32) → (Nat → Int32) → Int32 → Prop}
    (hpost : ∀ packed' row' : Nat → Int32, (∀ p, p < 3 ^ U → cln kinds broken wanted ln U n p = true → packed' (cn (cln kinds broken wanted ln U n) p) = nI (pkd (dg U p) U)) → post packed' row' (nI (cn (cln kinds broken wanted ln U n) (3 ^ U)))) : wp_X1_collect kinds broken (nI U) len wanted (nI n) packed row 0 post := by
  have h243 : 3 ^ U ≤ 243 := Nat.pow_le_pow_right (by decide) hU
  have hpos : 0 < 3 ^ U := Nat.pow_pos (by decide)
  unfold wp_X1_collect
  refine t_fillA (len0 := 5) (by omega) (fun row0 hr0 _ => ?_)
  have key : ∀ (d p : Nat) (pk rw' : Nat → Int32), p + d + 1 = 3 ^ U → (∀ u, u < U → rw' u = nI (dg U p u)) → (∀ q, q < p → cln kinds broken wanted ln U n q = true → pk (cn (cln kinds broken wanted ln U n) q) = nI (pkd (dg U q) U)) → Z_X1_collect_12 kinds broken (nI U) len wanted (nI n) post (d + 2) 1 (nI p) pk rw' (nI (cn (cln kinds broken wanted ln U n) p)) := by
    intro d
    induction d with
    | zero =>
      intro p pk rw' hp hrow hpk
      show Y_X1_collect_12 _ _ _ _ _ _ _ _ _ _ _ _ _
      unfold Y_X1_collect_12
      refine ⟨fun q => absurd q (by decide), fun _ => ⟨fun q => absurd ((i_le (a := 243) (by omega) (by omega)).mp q) (by omega), fun _ => ?_⟩⟩
      have hcp := cn_le (cln kinds broken wanted ln U n) p
      have hplast : p + 1 = 3 ^ U := by omega
      have fin : ∀ (pk2 : Nat → Int32) (f2 : Int32), f2 = nI (cn (cln kinds broken wanted ln U n) (p + 1)) → (∀ q, q < p + 1 → cln kinds broken wanted ln U n q = true → pk2 (cn (cln kinds broken wanted ln U n) q) = nI (pkd (dg U q) U)) → B_X1_collect_62 kinds broken (nI U) len wanted (nI n) post (Z_X1_collect_12 kinds broken (nI U) len wanted (nI n) post 1) (nI p) pk2 rw' f2 := by
        intro pk2 f2 ef hpk2
        subst ef
        unfold B_X1_collect_62
        refine t_moveOn hU (by omega) hrow (fun h => absurd h (by omega)) (fun _ row2 => ?_)
        show Y_X1_collect_12 _ _ _ _ _ _ _ _ _ _ _ _ _
        unfold Y_X1_collect_12
        refine ⟨fun _ => ?_, fun q => absurd rfl q⟩
        rw [hplast] at hpk2 ⊢
        exact hpost pk2 row2 hpk2
      refine t_rowFits hU hlen (tr := dg U p) (fun u hu => ⟨hrow u hu, dg_lt U p u⟩) ?_
      have hco : cln kinds broken wanted ln U n p = (fit U ln (dg U p) && can (fun u i => srv kinds broken u (wanted i)) n 0 (tk U (dg U p))) := rfl
      have same : cln kinds broken wanted ln U n p = false → B_X1_collect_62 kinds broken (nI U) len wanted (nI n) post (Z_X1_collect_12 kinds broken (nI U) len wanted (nI n) post 1) (nI p) pk rw' (nI (cn (cln kinds broken wanted ln U n) p)) := by
        intro hf
        refine fin pk _ (by simp only [cn, hf]; rfl) (fun q hq hqc => ?_)
        by_cases e : q = p
        · subst e; rw [hf] at hqc; exact absurd hqc (by decide)
        · exact hpk q (by omega) hqc
      cases hfit : fit U ln (dg U p) with
      | false => exact ⟨fun _ => same (by rw [hco, hfit]; rfl), fun q => absurd rfl q⟩
      | true =>
        refine ⟨fun q => absurd q (by decide), fun _ => ?_⟩
        refine t_canAllGo hU hn (tr := dg U p) (fun u hu => ⟨hrow u hu, dg_lt U p u⟩) n 7 0 (tk U (dg U p)) [] 0 _ (by omega) (by omega) (tk_ok U (dg U p)) msk_0 (fun u hu => ⟨fun _ => ?_, fun _ => rfl⟩) ?_
        · rw [tk_sq, List.mem_reverse]
          unfold sq
          rw [List.mem_filter]
          exact ⟨List.mem_range.mpr hu, by simp⟩
        · cases hcn : can (fun u i => srv kinds broken u (wanted i)) n 0 (tk U (dg U p)) with
          | false => exact ⟨fun _ => same (by rw [hco, hfit, hcn]; rfl), fun q => absurd rfl q⟩
          | true =>
            refine ⟨fun q => absurd q (by decide), fun _ => ?_⟩
            have hc : cln kinds broken wanted ln U n p = true := by rw [hco, hfit, hcn]; rfl
            refine t_packRow hU (fun u => dg_lt U p u) hrow ⟨i_in (by omega) (by omega), ?_⟩
            rw [i_cl (by omega), i_1]
            intro y ey
            subst ey
            refine fin _ _ (by simp only [cn, hc]; rfl) (fun q hq hqc => ?_)
            by_cases e : q = p
            · subst e; rw [up_s]
            · have : cn (cln kinds broken wanted ln U n) q ≠ cn (cln kinds broken wanted ln U n) p := fun z => e (cn_inj _ hqc hc z)
              rw [up_o _ _ this]
              exact hpk q (by omega) hqc
    | succ d ih =>
      intro p pk rw' hp hrow hpk
      show Y_X1_collect_12 _ _ _ _ _ _ _ _ _ _ _ _ _
      unfold Y_X1_collect_12
      refine ⟨fun q => absurd q (by decide), fun _ => ⟨fun q => absurd ((i_le (a := 243) (by omega) (by omega)).mp q) (by omega), fun _ => ?_⟩⟩
      have hcp := cn_le (cln kinds broken wanted ln U n) p
      have fin : ∀ (pk2 : Nat → Int32) (f2 : Int32), f2 = nI (cn (cln kinds broken wanted ln U n) (p + 1)) → (∀ q, q < p + 1 → cln kinds broken wanted ln U n q = true → pk2 (cn (cln kinds broken wanted ln U n) q) = nI (pkd (dg U q) U)) → B_X1_collect_62 kinds broken (nI U) len wanted (nI n) post (Z_X1_collect_12 kinds broken (nI U) len wanted (nI n) post (d + 2)) (nI p) pk2 rw' f2 := by
        intro pk2 f2 ef hpk2
        subst ef
        unfold B_X1_collect_62
        refine t_moveOn hU (by omega) hrow (fun h row2 hrow2 => ?_) (fun h => absurd h (by omega))
        rw [i_1]
        exact ih (p + 1) pk2 row2 (by omega) hrow2 hpk2
      refine t_rowFits hU hlen (tr := dg U p) (fun u hu => ⟨hrow u hu, dg_lt U p u⟩) ?_
      have hco : cln kinds broken wanted ln U n p = (fit U ln (dg U p) && can (fun u i => srv kinds broken u (wanted i)) n 0 (tk U (dg U p))) := rfl
      have same : cln kinds broken wanted ln U n p = false → B_X1_collect_62 kinds broken (nI U) len wanted (nI n) post (Z_X1_collect_12 kinds broken (nI U) len wanted (nI n) post (d + 2)) (nI p) pk rw' (nI (cn (cln kinds broken wanted ln U n) p)) := by
        intro hf
        refine fin pk _ (by simp only [cn, hf]; rfl) (fun q hq hqc => ?_)
        by_cases e : q = p
        · subst e; rw [hf] at hqc; exact absurd hqc (by decide)
        · exact hpk q (by omega) hqc
      cases hfit : fit U ln (dg U p) with
      | false => exact ⟨fun _ => same (by rw [hco, hfit]; rfl), fun q => absurd rfl q⟩
      | true =>
        refine ⟨fun q => absurd q (by decide), fun _ => ?_⟩
        refine t_canAllGo hU hn (tr := dg U p) (fun u hu => ⟨hrow u hu, dg_lt U p u⟩) n 7 0 (tk U (dg U p)) [] 0 _ (by omega) (by omega) (tk_ok U (dg U p)) msk_0 (fun u hu => ⟨fun _ => ?_, fun _ => rfl⟩) ?_
        · rw [tk_sq, List.mem_reverse]
          unfold sq
          rw [List.mem_filter]
          exact ⟨List.mem_range.mpr hu, by simp⟩
        · cases hcn : can (fun u i => srv kinds broken u (wanted i)) n 0 (tk U (dg U p)) with
          | false => exact ⟨fun _ => same (by rw [hco, hfit, hcn]; rfl), fun q => absurd rfl q⟩
          | true =>
            refine ⟨fun q => absurd q (by decide), fun _ => ?_⟩
            have hc : cln kinds broken wanted ln U n p = true := by rw [hco, hfit, hcn]; rfl
            refine t_packRow hU (fun u => dg_lt U p u) hrow ⟨i_in (by omega) (by omega), ?_⟩
            rw [i_cl (by omega), i_1]
            intro y ey
            subst ey
            refine fin _ _ (by simp only [cn, hc]; rfl) (fun q hq hqc => ?_)
            by_cases e : q = p
            · subst e; rw [up_s]
            · have : cn (cln kinds broken wanted ln U n) q ≠ cn (cln kinds broken wanted ln U n) p := fun z => e (cn_inj _ hqc hc z)
              rw [up_o _ _ this]
              exact hpk q (by omega) hqc
  have := key (3 ^ U - 1) 0 packed row0 (by omega) (fun u hu => by rw [hr0 u (by omega), dg_0]; rfl) (fun q h => absurd h (Nat.not_lt_zero q))
  exact ⟨_, this⟩
end P8
