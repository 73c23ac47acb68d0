/-! tables with open addressing -/
theorem mod2 {x N : Nat} (h : x < 2 * N) : x % N = if x < N then x else x - N := by
  by_cases q : x < N
  · rw [if_pos q, Nat.mod_eq_of_lt q]
  · rw [if_neg q, Nat.mod_eq_sub_mod (by omega), Nat.mod_eq_of_lt (by omega)]
def HT (N m : Nat) (sl : Nat → Nat) (key h : Nat → Nat) : Prop :=
  (∀ a, a < N → sl a ≤ m) ∧ (∀ a b, a < N → b < N → sl a = sl b → sl a ≠ 0 → a = b) ∧ (∀ j, j < m → ∃ d, d < N ∧ sl ((h (key j) + d) % N) = j + 1 ∧ ∀ e, e < d → sl ((h (key j) + e) % N) ≠ 0) ∧ (∀ i j, i < m → j < m → key i = key j → i = j)
theorem holes : ∀ (m n : Nat) (f : Nat → Nat), (∀ i, i < n → f i < m) → (∀ i j, i < j → j < n → f i ≠ f j) → n ≤ m
  | 0, n, f, h, _ => by
    rcases Nat.eq_zero_or_pos n with q | q
    · omega
    · exact absurd (h 0 q) (Nat.not_lt_zero _)
  | m + 1, 0, _, _, _ => Nat.zero_le _
  | m + 1, n + 1, f, h, hd => by
    -- the place of the last value m, if any, is given to the last index
    have ih := holes m n (fun i => if f i = m then f n else f i) (fun i hi => by
      show (if f i = m then f n else f i) < m
      have h1 := h i (by omega)
      have h2 := h n (by omega)
      have h3 := hd i n hi (by omega)
      split <;> omega) (fun i j hij hj => by
      show (if f i = m then f n else f i) ≠ (if f j = m then f n else f j)
      have h1 := hd i j hij (by omega)
      have h2 := hd i n (by omega) (by omega)
      have h3 := hd j n hj (by omega)
      split <;> split <;> omega)
    omega
theorem ht_free {N m : Nat} {sl key h : Nat → Nat} (H : HT N m sl key h) (hm : m < N) : ∃ a, a < N ∧ sl a = 0 := by
  refine Classical.byContradiction (fun hno => ?_)
  have hne : ∀ a, a < N → sl a ≠ 0 := fun a ha q => hno ⟨a, ha, q⟩
  have := holes m N (fun a => sl a - 1) (fun a ha => by have := H.1 a ha; have := hne a ha; show sl a - 1 < m; omega) (fun a b hab hb q => by
    have h1 := hne a (by omega)
    have h2 := hne b hb
    have q : sl a - 1 = sl b - 1 := q
    have := H.2.1 a b (by omega) hb (by omega) h1
    omega)
  omega
theorem ht_find {N m : Nat} {sl key h : Nat → Nat} (H : HT N m sl key h) (hm : m < N) (v : Nat) (hv : h v < N) : ∃ d, d < N ∧ (∀ e, e < d → sl ((h v + e) % N) ≠ 0 ∧ key (sl ((h v + e) % N) - 1) ≠ v) ∧ ((sl ((h v + d) % N) = 0 ∧ ∀ j, j < m → key j ≠ v) ∨ ∃ j, j < m ∧ sl ((h v + d) % N) = j + 1 ∧ key j = v) := by
  by_cases hk : ∃ j, j < m ∧ key j = v
  · obtain ⟨j, hj, rfl⟩ := hk
    obtain ⟨d, hd, h1, h2⟩ := H.2.2.1 j hj
    refine ⟨d, hd, fun e he => ⟨h2 e he, fun q => ?_⟩, Or.inr ⟨j, hj, h1, rfl⟩⟩
    have hlt : (h (key j) + e) % N < N := Nat.mod_lt _ (by omega)
    have hs := H.1 _ hlt
    have hne := h2 e he
    have hij := H.2.2.2 (sl ((h (key j) + e) % N) - 1) j (by omega) hj q
    have hsame := H.2.1 _ ((h (key j) + d) % N) hlt (Nat.mod_lt _ (by omega)) (by omega) hne
    rw [mod2 (by omega), mod2 (by omega)] at hsame
    split at hsame <;> split at hsame <;> omega
  · have hno : ∀ j, j < m → key j ≠ v := fun j hj q => hk ⟨j, hj, q⟩
    obtain ⟨a, ha, h0⟩ := ht_free H hm
    have hex : sl ((h v + (if h v ≤ a then a - h v else a + N - h v)) % N) = 0 := by
      have : (h v + (if h v ≤ a then a - h v else a + N - h v)) % N = a := by
        split
        · rw [mod2 (by omega), if_pos (by omega)]; omega
        · rw [mod2 (by omega), if_neg (by omega)]; omega
      rw [this]; exact h0
    obtain ⟨d, hd, h1, h2⟩ := least_of (fun d => sl ((h v + d) % N) = 0) _ hex
    refine ⟨d, ?_, fun e he => ⟨h2 e he, fun q => ?_⟩, Or.inl ⟨h1, hno⟩⟩
    · split at hd <;> omega
    · have hs := H.1 ((h v + e) % N) (Nat.mod_lt _ (by omega))
      have hne := h2 e he
      exact hno _ (by omega) q
def nup (f : Nat → Nat) (k x : Nat) : Nat → Nat := fun j => if j = k then x else f j
theorem nup_s (f : Nat → Nat) (k x : Nat) : nup f k x k = x := by unfold nup; rw [if_pos rfl]
theorem nup_o (f : Nat → Nat) {k j : Nat} (x : Nat) (h : ¬ j = k) : nup f k x j = f j := by unfold nup; rw [if_neg h]
theorem ht_add {N m : Nat} {sl key h : Nat → Nat} (H : HT N m sl key h) {v d : Nat} (hv : h v < N) (hd : d < N) (hocc : ∀ e, e < d → sl ((h v + e) % N) ≠ 0) (h0 : sl ((h v + d) % N) = 0) (hno : ∀ j, j < m → key j ≠ v) : HT N (m + 1) (nup sl ((h v + d) % N) (m + 1)) (nup key m v) h := by
  have hlt : (h v + d) % N < N := Nat.mod_lt _ (by omega)
  refine ⟨fun a ha => ?_, fun a b ha hb e hne => ?_, fun j hj => ?_, fun i j hi hj e => ?_⟩
  · have := H.1 a ha
    simp only [nup]
    split <;> omega
  · simp only [nup] at e hne
    have h1 := H.1 a ha
    have h2 := H.1 b hb
    by_cases qa : a = (h v + d) % N
    · by_cases qb : b = (h v + d) % N
      · omega
      · rw [if_pos qa, if_neg qb] at e; omega
    · by_cases qb : b = (h v + d) % N
      · rw [if_neg qa, if_pos qb] at e; omega
      · rw [if_neg qa, if_neg qb] at e
        rw [if_neg qa] at hne
        exact H.2.1 a b ha hb e hne
  · by_cases q : j = m
    · subst q
      rw [nup_s]
      refine ⟨d, hd, nup_s _ _ _, fun e he => ?_⟩
      have := hocc e he
      by_cases z : (h v + e) % N = (h v + d) % N
      · rw [z, nup_s]; omega
      · rw [nup_o _ _ z]; exact this
    · rw [nup_o key v q]
      obtain ⟨d2, hd2, h1, h2⟩ := H.2.2.1 j (by omega)
      refine ⟨d2, hd2, ?_, fun e he => ?_⟩
      · rw [nup_o _ _ (fun z => by rw [z, h0] at h1; omega)]; exact h1
      · have := h2 e he
        by_cases z : (h (key j) + e) % N = (h v + d) % N
        · rw [z, nup_s]; omega
        · rw [nup_o _ _ z]; exact this
  · simp only [nup] at e
    by_cases qi : i = m
    · by_cases qj : j = m
      · omega
      · rw [if_pos qi, if_neg qj] at e
        exact absurd e.symm (hno j (by omega))
    · by_cases qj : j = m
      · rw [if_neg qi, if_pos qj] at e
        exact absurd e (hno i (by omega))
      · rw [if_neg qi, if_neg qj] at e
        exact H.2.2.2 i j (by omega) (by omega) e
theorem ht_0 (N : Nat) (key h : Nat → Nat) : HT N 0 (fun _ => 0) key h := ⟨fun _ _ => Nat.le_refl _, fun _ _ _ _ _ q => absurd rfl q, fun j hj => absurd hj (Nat.not_lt_zero j), fun i _ hi => absurd hi (Nat.not_lt_zero i)⟩
/-- the class's first slot -/
def hC (v : Nat) : Nat := ((lN v * (-7046029254386353131)).toBitVec.toNat) / 2 ^ 52
theorem hC_lt (v : Nat) : hC v < 4096 := by
  unfold hC
  have := (lN v * (-7046029254386353131)).toBitVec.isLt
  omega
theorem hC_int (v : Nat) : (((lN v * (-7046029254386353131)).toUInt64 >>> ((52 : Int32).toInt64.toUInt64 &&& Int64.toUInt64 63)).toInt64).toInt32 = nI (hC v) := by
  unfold hC
  obtain ⟨q, hq, e⟩ := wb_of (lN v * (-7046029254386353131))
  rw [e]
  have h1 : ((lN q).toUInt64 >>> ((52 : Int32).toInt64.toUInt64 &&& Int64.toUInt64 63)).toInt64 = lN (q / 2 ^ 52) := wb_shr (k := 52) hq (by omega)
  rw [h1, lN_i, wb_tn hq]
theorem t_slotFor {m : Nat} {sl key : Nat → Nat} {positions : Nat → Int64} {slots : Nat → Int32} (H : HT 4096 m sl key hC) (hm : m ≤ 2956) (hpos : ∀ j, j < m → positions j = lN (key j)) (hkey : ∀ j, j < m → key j < 2 ^ 48) (hsl : ∀ a, a < 4096 → slots a = nI (sl a)) {v : Nat} (hv : v < 2 ^ 48) {post : Int32 → Prop}
    (h1 : ∀ d, d < 4096 → (∀ e, e < d → sl ((hC v + e) % 4096) ≠ 0) → sl ((hC v + d) % 4096) = 0 → (∀ j, j < m → key j ≠ v) → post (nI ((hC v + d) % 4096)))
    (h2 : ∀ a j, a < 4096 → j < m → sl a = j + 1 → key j = v → post (nI a)) : wp_X4_slotFor positions slots (lN v) post := by
  unfold wp_X4_slotFor
  rw [hC_int]
  intro y ey
  subst ey
  have hC4 := hC_lt v
  obtain ⟨d, hd, hocc, hend⟩ := ht_find H (by omega) v hC4
  have key' : ∀ (k i : Nat), i + k = d → Z_X4_slotFor_13 positions slots (lN v) post (nI (hC v)) (k + 1) (nI i) := by
    intro k
    induction k with
    | zero =>
      intro i hi
      have : i = d := by omega
      subst this
      show Y_X4_slotFor_13 _ _ _ _ _ _ _
      unfold Y_X4_slotFor_13
      have hlt : (hC v + i) % 4096 < 4096 := Nat.mod_lt _ (by decide)
      refine ⟨fun q => absurd ((i_le (a := 4096) (by omega) (by omega)).mp q) (by omega), fun _ => ?_⟩
      have e1 : (nI (hC v) + nI i) &&& 4095 = nI ((hC v + i) % 4096) := by rw [nI_add]; exact pk_andN (k := 12) (by omega) (by decide)
      rw [e1]
      intro y3 e3
      subst e3
      refine ⟨i_in hlt (by omega), ?_⟩
      rw [i_cl (by omega), hsl _ hlt]
      intro y5 e5
      subst e5
      rcases hend with ⟨h0, hno⟩ | ⟨j, hj, hjs, hjk⟩
      · rw [h0]
        exact ⟨fun _ => h1 i hd (fun e he => (hocc e he).1) h0 hno, fun q => absurd rfl q⟩
      · rw [hjs]
        refine ⟨fun q => absurd ((i_eq (b := 0) (by omega) (by omega)).mp q) (by omega), fun _ => ?_⟩
        have e6 : nI (j + 1) - 1 = nI j := nI_pred j
        rw [e6]
        refine ⟨i_in (by omega) (by omega), ?_⟩
        rw [i_cl (by omega), hpos j hj]
        exact ⟨fun q => absurd (cmp0.mpr (by rw [hjk])) q, fun _ => h2 _ j hlt hj hjs hjk⟩
    | succ k ih =>
      intro i hi
      show Y_X4_slotFor_13 _ _ _ _ _ _ _
      unfold Y_X4_slotFor_13
      have hlt : (hC v + i) % 4096 < 4096 := Nat.mod_lt _ (by decide)
      refine ⟨fun q => absurd ((i_le (a := 4096) (by omega) (by omega)).mp q) (by omega), fun _ => ?_⟩
      have e1 : (nI (hC v) + nI i) &&& 4095 = nI ((hC v + i) % 4096) := by rw [nI_add]; exact pk_andN (k := 12) (by omega) (by decide)
      rw [e1, i_1]
      intro y3 e3
      subst e3
      refine ⟨i_in hlt (by omega), ?_⟩
      rw [i_cl (by omega), hsl _ hlt]
      intro y5 e5
      subst e5
      obtain ⟨hne, hke⟩ := hocc i (by omega)
      have hle := H.1 _ hlt
      obtain ⟨j, hj⟩ : ∃ j, sl ((hC v + i) % 4096) = j + 1 := ⟨sl ((hC v + i) % 4096) - 1, by omega⟩
      rw [hj] at hke hle ⊢
      refine ⟨fun q => absurd ((i_eq (b := 0) (by omega) (by omega)).mp q) (by omega), fun _ => ?_⟩
      have e6 : nI (j + 1) - 1 = nI j := nI_pred j
      rw [e6]
      refine ⟨i_in (by omega) (by omega), ?_⟩
      rw [i_cl (by omega), hpos j (by omega)]
      refine ⟨fun _ => ih (i + 1) (by omega), fun q => ?_⟩
      exfalso
      have hkj := hkey j (by omega)
      have := (pk_lEQ (a := key j) (b := v) (by omega) (by omega)).mp (cmp0.mp q)
      exact hke (by rw [Nat.add_sub_cancel]; exact this)
  have := key' d 0 (by omega)
  exact ⟨_, this⟩
