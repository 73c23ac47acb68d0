/-! the class's parkings -/
/-- the kinds are there often enough among the units below the bound -/
def eno (kinds broken wanted : Nat → Int32) (n bound : Nat) : Bool := decide (∀ k : Fin 4, cn (fun i => decide (wanted i = nI k.val)) n ≤ cn (fun u => srv kinds broken u (nI k.val)) bound)
theorem eno_iff {kinds broken wanted : Nat → Int32} {n bound : Nat} : eno kinds broken wanted n bound = true ↔ ∀ k, k < 4 → cn (fun i => decide (wanted i = nI k)) n ≤ cn (fun u => srv kinds broken u (nI k)) bound := by
  unfold eno
  rw [decide_eq_true_iff]
  exact ⟨fun h k hk => h ⟨k, hk⟩, fun h k => h k.val k.isLt⟩
section P6
variable {kinds broken wanted len : Nat → Int32} {n U : Nat} {ln : Nat → Nat}
theorem t_times (hn : n ≤ 5) {k : Int32} {post : Int32 → Prop} (hp : post (nI (cn (fun i => decide (wanted i = k)) n))) : wp_X0_timesWanted wanted (nI n) k post := by
  have key : ∀ (d i : Nat), i + d = n → Z_X0_timesWanted_4 wanted (nI n) k post (d + 1) (nI (cn (fun i => decide (wanted i = k)) i)) (nI i) := by
    intro d
    induction d with
    | zero =>
      intro i hi
      show Y_X0_timesWanted_4 _ _ _ _ _ _ _
      unfold Y_X0_timesWanted_4
      have : i = n := by omega
      subst this
      exact ⟨fun _ => hp, fun q => absurd ((i_le (by omega) (by omega)).mpr (by omega)) q⟩
    | succ d ih =>
      intro i hi
      show Y_X0_timesWanted_4 _ _ _ _ _ _ _
      unfold Y_X0_timesWanted_4
      have ih2 := ih (i + 1) (by omega)
      simp only [cn] at ih2
      refine ⟨fun q => absurd ((i_le (by omega) (by omega)).mp q) (by omega), fun _ => ⟨i_in (by omega) (by omega), ?_⟩⟩
      rw [i_cl (by omega), i_1, i_1]
      refine ⟨fun q => ?_, fun q => ?_⟩
      · rw [if_neg (by simpa using q)] at ih2; exact ih2
      · rw [if_pos (by simpa using q)] at ih2; exact ih2
  exact ⟨_, key n 0 (by omega)⟩
theorem t_serving {b : Nat} (hb : b ≤ 5) {k : Int32} {post : Int32 → Prop} (hp : post (nI (cn (fun u => srv kinds broken u k) b))) : wp_X0_serving kinds broken k (nI b) post := by
  have key : ∀ (d i : Nat), i + d = b → Z_X0_serving_5 kinds broken k (nI b) post (d + 1) (nI (cn (fun u => srv kinds broken u k) i)) (nI i) := by
    intro d
    induction d with
    | zero =>
      intro i hi
      show Y_X0_serving_5 _ _ _ _ _ _ _ _
      unfold Y_X0_serving_5
      have : i = b := by omega
      subst this
      exact ⟨fun _ => hp, fun q => absurd ((i_le (by omega) (by omega)).mpr (by omega)) q⟩
    | succ d ih =>
      intro i hi
      show Y_X0_serving_5 _ _ _ _ _ _ _ _
      unfold Y_X0_serving_5
      have ih2 := ih (i + 1) (by omega)
      simp only [cn] at ih2
      refine ⟨fun q => absurd ((i_le (by omega) (by omega)).mp q) (by omega), fun _ => ?_⟩
      refine t_canServe (by omega) ?_
      rw [i_1, i_1]
      cases hs : srv kinds broken i k with
      | false => rw [if_neg (by rw [hs]; decide)] at ih2; exact ⟨fun _ => ih2, fun q => absurd rfl q⟩
      | true => rw [if_pos hs] at ih2; exact ⟨fun q => absurd q (by decide), fun _ => ih2⟩
  exact ⟨_, key b 0 (by omega)⟩
theorem t_hasEnough (hn : n ≤ 5) {b : Nat} (hb : b ≤ 5) {post : Int32 → Prop} (hp : post (b2 (eno kinds broken wanted n b))) : wp_X0_hasEnough kinds broken wanted (nI n) (nI b) post := by
  have key : ∀ (d k : Nat), k + d = 4 → (∀ j, j < k → cn (fun i => decide (wanted i = nI j)) n ≤ cn (fun u => srv kinds broken u (nI j)) b) → Z_X0_hasEnough_2 kinds broken wanted (nI n) (nI b) post (d + 1) (nI k) := by
    intro d
    induction d with
    | zero =>
      intro k hk h
      show Y_X0_hasEnough_2 _ _ _ _ _ _ _ _
      unfold Y_X0_hasEnough_2
      have e : eno kinds broken wanted n b = true := eno_iff.mpr (fun j hj => h j (by omega))
      rw [e] at hp
      exact ⟨fun _ => hp, fun q => absurd ((i_le (a := 4) (by omega) (by omega)).mpr (by omega)) q⟩
    | succ d ih =>
      intro k hk h
      show Y_X0_hasEnough_2 _ _ _ _ _ _ _ _
      unfold Y_X0_hasEnough_2
      refine ⟨fun q => absurd ((i_le (a := 4) (by omega) (by omega)).mp q) (by omega), fun _ => ?_⟩
      refine t_times hn (t_serving hb ?_)
      have h1 := cn_le (fun i => decide (wanted i = nI k)) n
      have h2 := cn_le (fun u => srv kinds broken u (nI k)) b
      rw [i_1]
      refine ⟨fun q => ih (k + 1) (by omega) (fun j hj => ?_), fun q => ?_⟩
      · by_cases e : j = k
        · subst e; exact (i_le (by omega) (by omega)).mp q
        · exact h j (by omega)
      · have e : eno kinds broken wanted n b = false := by
          cases he : eno kinds broken wanted n b with
          | false => rfl
          | true => exact absurd ((i_le (by omega) (by omega)).mpr (eno_iff.mp he k (by omega))) q
        rw [e] at hp
        exact hp
  exact ⟨_, key 4 0 (by omega) (fun j h => absurd h (Nat.not_lt_zero j))⟩
theorem t_rowFits (hU : U ≤ 5) (hlen : ∀ t, t < 3 → len t = nI (ln t) ∧ ln t ≤ 5) {tr : Nat → Nat} {row : Nat → Int32} (hrow : ∀ u, u < U → row u = nI (tr u) ∧ tr u < 3) {post : Int32 → Prop} (hp : post (b2 (fit U ln tr))) : wp_X1_rowFits (nI U) len row post := by
  have inner : ∀ (t : Nat) (K41 : Int32 → Prop), t < 3 → K41 (nI (sq U tr t).length) → ∀ (d x : Nat), x + d = U → Z_X1_rowFits_11 (nI U) len row post (nI t) K41 (d + 1) (nI (sq x tr t).length) (nI x) := by
    intro t K41 ht hK d
    induction d with
    | zero =>
      intro x hx
      show Y_X1_rowFits_11 _ _ _ _ _ _ _ _ _
      unfold Y_X1_rowFits_11
      have : x = U := by omega
      subst this
      exact ⟨fun _ => hK, fun q => absurd ((i_le (by omega) (by omega)).mpr (by omega)) q⟩
    | succ d ih =>
      intro x hx
      show Y_X1_rowFits_11 _ _ _ _ _ _ _ _ _
      unfold Y_X1_rowFits_11
      refine ⟨fun q => absurd ((i_le (by omega) (by omega)).mp q) (by omega), fun _ => ⟨i_in (by omega) (by omega), ?_⟩⟩
      have hx2 := hrow x (by omega)
      have ih2 := ih (x + 1) (by omega)
      rw [i_cl (by omega), hx2.1, i_1, i_1]
      refine ⟨fun q => ?_, fun q => ?_⟩
      · rw [sq_out x tr (fun e => q (by rw [e]))] at ih2; exact ih2
      · have e : tr x = t := (i_eq (by omega) (by omega)).mp q
        have h := sq_in x tr
        rw [e] at h
        rw [h, List.length_append, List.length_singleton] at ih2
        exact ih2
  have key : ∀ (d t : Nat), t + d = 3 → (∀ j, j < t → (sq U tr j).length ≤ ln j) → Z_X1_rowFits_2 (nI U) len row post (d + 1) (nI t) := by
    intro d
    induction d with
    | zero =>
      intro t ht h
      show Y_X1_rowFits_2 _ _ _ _ _ _
      unfold Y_X1_rowFits_2
      have e : fit U ln tr = true := fit_iff.mpr (fun j hj => h j (by omega))
      rw [e] at hp
      exact ⟨fun _ => hp, fun q => absurd ((i_le (a := 3) (by omega) (by omega)).mpr (by omega)) q⟩
    | succ d ih =>
      intro t ht h
      show Y_X1_rowFits_2 _ _ _ _ _ _
      unfold Y_X1_rowFits_2
      have hl := sq_le tr U t
      have hln := hlen t (by omega)
      refine ⟨fun q => absurd ((i_le (a := 3) (by omega) (by omega)).mp q) (by omega), fun _ => ⟨_, inner t _ (by omega) ⟨i_in (by omega) (by omega), ?_⟩ U 0 (by omega)⟩⟩
      rw [i_cl (by omega), hln.1, i_1]
      refine ⟨fun q => ih (t + 1) (by omega) (fun j hj => ?_), fun q => ?_⟩
      · by_cases e : j = t
        · subst e; exact (i_le (by omega) (by omega)).mp q
        · exact h j (by omega)
      · have e : fit U ln tr = false := by
          cases he : fit U ln tr with
          | false => rfl
          | true => exact absurd ((i_le (by omega) (by omega)).mpr (fit_iff.mp he t (by omega))) q
        rw [e] at hp
        exact hp
  exact ⟨_, key 3 0 (by omega) (fun j h => absurd h (Nat.not_lt_zero j))⟩
end P6
/-- a row as one number -/
def pkd (tr : Nat → Nat) : Nat → Nat
  | 0 => 0
  | x + 1 => pkd tr x + tr x * 4 ^ x
theorem pkd_lt {tr : Nat → Nat} (h : ∀ u, tr u < 3) : ∀ x, pkd tr x < 4 ^ x
  | 0 => Nat.one_pos
  | x + 1 => by
    have := pkd_lt h x
    have h3 := h x
    simp only [pkd]
    rw [Nat.pow_succ]
    have : tr x * 4 ^ x ≤ 2 * 4 ^ x := Nat.mul_le_mul_right _ (by omega)
    omega
theorem pkd_get {tr : Nat → Nat} (h : ∀ u, tr u < 3) {u : Nat} : ∀ x, u < x → pkd tr x / 4 ^ u % 4 = tr u
  | 0, hu => absurd hu (Nat.not_lt_zero u)
  | x + 1, hu => by
    simp only [pkd]
    have hl := pkd_lt h x
    have h3 := h x
    have hp : 0 < 4 ^ u := Nat.pow_pos (by decide)
    by_cases e : u = x
    · subst e
      rw [Nat.add_mul_div_right _ _ hp, Nat.div_eq_of_lt hl, Nat.zero_add]
      exact Nat.mod_eq_of_lt (by omega)
    · have hux : u < x := by omega
      have ih := pkd_get h x hux
      have e2 : tr x * 4 ^ x = (tr x * 4 ^ (x - u - 1) * 4) * 4 ^ u := by
        rw [Nat.mul_assoc, Nat.mul_assoc]
        congr 1
        rw [← Nat.mul_assoc, ← Nat.pow_succ, ← Nat.pow_add]
        congr 1
        omega
      rw [e2, Nat.add_mul_div_right _ _ hp, Nat.add_mul_mod_self_right]
      exact ih
set_option maxRecDepth 100000 in
theorem pk_orN : ∀ x : Fin 5, ∀ t : Fin 3, ∀ a : Fin (4 ^ x.val), (nI a.val ||| (nI t.val <<< (((2 : Int32) * nI x.val) &&& 31))) = nI (a.val + t.val * 4 ^ x.val) := by decide +kernel
set_option maxRecDepth 100000 in
theorem pk_getN : ∀ u : Fin 5, ∀ P : Fin 1024, ((((nI P.val).toUInt32 >>> (((2 : Int32) * nI u.val).toUInt32 &&& Int32.toUInt32 31)).toInt32) &&& 3) = nI (P.val / 4 ^ u.val % 4) := by decide +kernel
set_option maxRecDepth 100000 in
/-- how the next row is made -/
theorem dg_next : ∀ U : Fin 6, ∀ p : Fin 243, p.val + 1 < 3 ^ U.val → ∃ k : Fin 5, k.val < U.val ∧ ∀ u : Fin 5, u.val < U.val → (u.val < k.val → dg U.val (p.val + 1) u.val = dg U.val p.val u.val) ∧ (u.val = k.val → dg U.val (p.val + 1) u.val = dg U.val p.val u.val + 1 ∧ dg U.val p.val u.val < 2) ∧ (k.val < u.val → dg U.val p.val u.val = 2 ∧ dg U.val (p.val + 1) u.val = 0) := by decide +kernel
set_option maxRecDepth 100000 in
theorem dg_last : ∀ U : Fin 6, ∀ u : Fin 5, u.val < U.val → dg U.val (3 ^ U.val - 1) u.val = 2 := by decide +kernel
theorem dg_0 (U u : Nat) : dg U 0 u = 0 := by unfold dg; simp
section P7
variable {kinds broken wanted len : Nat → Int32} {n U : Nat} {ln : Nat → Nat}
theorem t_moveOn (hU : U ≤ 5) {p : Nat} (hp : p < 3 ^ U) {row : Nat → Int32} (hrow : ∀ u, u < U → row u = nI (dg U p u)) {post : Int32 → (Nat → Int32) → Prop}
    (h1 : p + 1 < 3 ^ U → ∀ row' : Nat → Int32, (∀ u, u < U → row' u = nI (dg U (p + 1) u)) → post 1 row') (h0 : p + 1 = 3 ^ U → ∀ row', post 0 row') : wp_X1_moveOn (nI U) row post := by
  have h243 : 3 ^ U ≤ 243 := Nat.pow_le_pow_right (by decide) hU
  unfold wp_X1_moveOn
  intro y ey
  subst ey
  by_cases hlast : p + 1 = 3 ^ U
  · have key : ∀ (k : Nat) (r : Nat → Int32) (K24 : Int32 → (Nat → Int32) → Prop), k ≤ U → (∀ u, u < k → r u = nI 2) → Z_X1_moveOn_10 (nI U) post K24 (k + 1) (nI k - 1) r := by
      intro k
      induction k with
      | zero =>
        intro r K24 _ _
        show Y_X1_moveOn_10 _ _ _ _ _ _
        unfold Y_X1_moveOn_10
        exact ⟨fun _ => h0 hlast r, fun q => absurd (by decide) q⟩
      | succ k ih =>
        intro r K24 hk h
        show Y_X1_moveOn_10 _ _ _ _ _ _
        rw [nI_pred]
        unfold Y_X1_moveOn_10
        have hin := i_in (a := k) (n := 5) (by omega) (by omega)
        refine ⟨fun q => absurd q (nI_pos (by omega)), fun _ => ⟨hin, ?_⟩⟩
        rw [i_cl (by omega), h k (by omega), i_m1]
        refine ⟨fun _ => ⟨hin, ih _ K24 (by omega) (fun u hu => ?_)⟩, fun q => absurd (by decide) q⟩
        rw [up_o _ _ (by omega)]
        exact h u (by omega)
    refine ⟨_, key U row _ (Nat.le_refl U) (fun u hu => ?_)⟩
    rw [hrow u hu]
    have := dg_last ⟨U, by omega⟩ ⟨u, by omega⟩ hu
    simp only at this
    rw [show p = 3 ^ U - 1 by omega, this]
  · have hlt : p + 1 < 3 ^ U := by omega
    obtain ⟨k, hk, hd⟩ := dg_next ⟨U, by omega⟩ ⟨p, by omega⟩ hlt
    simp only at hk hd
    have hdu : ∀ u, u < U → (u < k.val → dg U (p + 1) u = dg U p u) ∧ (u = k.val → dg U (p + 1) u = dg U p u + 1 ∧ dg U p u < 2) ∧ (k.val < u → dg U p u = 2 ∧ dg U (p + 1) u = 0) := fun u hu => hd ⟨u, by omega⟩ hu
    have key : ∀ (d : Nat) (r : Nat → Int32), k.val + 1 + d ≤ U → (∀ u, u < k.val + 1 + d → r u = nI (dg U p u)) → (∀ u, k.val + 1 + d ≤ u → u < U → r u = nI 0) → Z_X1_moveOn_10 (nI U) post (fun (x1_6 : Int32) (P_row_7 : Nat → Int32) => vp_in x1_6 5 ∧ (∀ y10 : Int32, y10 = ((P_row_7 x1_6.toNatClampNeg) + 1) → (vp_in x1_6 5 ∧ (post 1 (upd P_row_7 x1_6.toNatClampNeg y10))))) (d + 1) (nI (k.val + 1 + d) - 1) r := by
      intro d
      induction d with
      | zero =>
        intro r hku ha hb
        show Y_X1_moveOn_10 _ _ _ _ _ _
        rw [Nat.add_zero, nI_pred]
        unfold Y_X1_moveOn_10
        have hin := i_in (a := k.val) (n := 5) (by omega) (by omega)
        have hdk := (hdu k.val hk).2.1 rfl
        have hr := ha k.val (by omega)
        refine ⟨fun q => absurd q (nI_pos (by omega)), fun _ => ⟨hin, ?_⟩⟩
        rw [i_cl (by omega), hr]
        refine ⟨fun q => absurd ((i_le (a := 2) (by omega) (by omega)).mp q) (by omega), fun _ => ⟨hin, ?_⟩⟩
        rw [i_cl (by omega), hr, i_1]
        intro y ey
        subst ey
        refine ⟨hin, h1 hlt _ (fun u hu => ?_)⟩
        by_cases e : u = k.val
        · subst e; rw [up_s, hdk.1]
        · rw [up_o _ _ e]
          rcases Nat.lt_or_ge u k.val with z | z
          · rw [ha u (by omega), (hdu u hu).1 z]
          · rw [hb u (by omega) hu, ((hdu u hu).2.2 (by omega)).2]
      | succ d ih =>
        intro r hku ha hb
        show Y_X1_moveOn_10 _ _ _ _ _ _
        rw [← Nat.add_assoc, nI_pred]
        unfold Y_X1_moveOn_10
        have hin := i_in (a := k.val + 1 + d) (n := 5) (by omega) (by omega)
        have hr := ha (k.val + 1 + d) (by omega)
        have h2 := ((hdu (k.val + 1 + d) (by omega)).2.2 (by omega)).1
        refine ⟨fun q => absurd q (nI_pos (by omega)), fun _ => ⟨hin, ?_⟩⟩
        rw [i_cl (by omega), hr, h2, i_m1]
        refine ⟨fun _ => ⟨hin, ih _ (by omega) (fun u hu => ?_) (fun u hu1 hu2 => ?_)⟩, fun q => absurd (by decide) q⟩
        · rw [up_o _ _ (by omega)]; exact ha u (by omega)
        · by_cases e : u = k.val + 1 + d
          · subst e; rw [up_s]; rfl
          · rw [up_o _ _ e]; exact hb u (by omega) hu2
    have := key (U - k.val - 1) row (by omega) (fun u hu => hrow u (by omega)) (fun u h1 h2 => absurd h2 (by omega))
    rw [show k.val + 1 + (U - k.val - 1) = U by omega] at this
    exact ⟨_, this⟩
theorem t_packRow (hU : U ≤ 5) {tr : Nat → Nat} (htr : ∀ u, tr u < 3) {row : Nat → Int32} (hrow : ∀ u, u < U → row u = nI (tr u)) {post : Int32 → Prop} (hp : post (nI (pkd tr U))) : wp_X1_packRow (nI U) row post := by
  have key : ∀ (d x : Nat), x + d = U → Z_X1_packRow_4 (nI U) row post (d + 1) (nI (pkd tr x)) (nI x) := by
    intro d
    induction d with
    | zero =>
      intro x hx
      show Y_X1_packRow_4 _ _ _ _ _ _
      unfold Y_X1_packRow_4
      have : x = U := by omega
      subst this
      exact ⟨fun _ => hp, fun q => absurd ((i_le (by omega) (by omega)).mpr (by omega)) q⟩
    | succ d ih =>
      intro x hx
      show Y_X1_packRow_4 _ _ _ _ _ _
      unfold Y_X1_packRow_4
      refine ⟨fun q => absurd ((i_le (by omega) (by omega)).mp q) (by omega), fun _ => ⟨i_in (by omega) (by omega), ?_⟩⟩
      rw [i_cl (by omega), hrow x (by omega), i_1]
      have := pk_orN ⟨x, by omega⟩ ⟨tr x, htr x⟩ ⟨pkd tr x, pkd_lt htr x⟩
      simp only at this
      rw [this]
      intro y ey
      subst ey
      exact ih (x + 1) (by omega)
  exact ⟨_, key U 0 (by omega)⟩
theorem t_trackIn (hU : U ≤ 5) {tr : Nat → Nat} (htr : ∀ u, tr u < 3) {packed : Nat → Int32} {k u : Nat} (hk : k < 243) (hu : u < U) (hpk : packed k = nI (pkd tr U)) {post : Int32 → Prop} (hp : post (nI (tr u))) : wp_X1_trackIn packed (nI k) (nI u) post := by
  unfold wp_X1_trackIn
  refine ⟨i_in hk (by omega), ?_⟩
  have hlt : pkd tr U < 1024 := Nat.lt_of_lt_of_le (pkd_lt htr U) (Nat.pow_le_pow_right (by decide) hU : 4 ^ U ≤ 4 ^ 5)
  have := pk_getN ⟨u, by omega⟩ ⟨pkd tr U, hlt⟩
  simp only at this
  rw [i_cl (by omega), hpk, this, pkd_get htr U hu]
  exact hp
end P7
