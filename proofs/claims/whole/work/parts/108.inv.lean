/-! what holds between calls -/
def CO (U n P : Nat) (tr ln w f : Nat → Nat) (kinds washes fuels broken lengths wanted trackOf stand many : Nat → Int32) : Prop :=
  U ≤ 5 ∧ n ≤ 5 ∧ P ≤ U ∧ (∀ u, tr u < 3) ∧ (∀ u, u < P → trackOf u = nI (tr u)) ∧ SM P tr stand many ∧ (∀ u, u < U → ∃ k, k < 4 ∧ kinds u = nI k) ∧ (∀ i, i < n → ∃ k, k < 4 ∧ wanted i = nI k) ∧ (∀ t, t < 3 → lengths t = nI (ln t) ∧ ln t ≤ 5) ∧ (∀ i, i < U → washes i = nI (w i) ∧ w i ≤ 60) ∧ (∀ i, i < U → fuels i = nI (f i) ∧ f i ≤ 60) ∧ ∀ u, broken u = 0 ∨ broken u = 1
def kno (k : Nat) (kn : Int32) : Prop := kn = -1 ∨ ∃ j, j ≤ k ∧ kn = nI j
theorem kno_s {k : Nat} {kn : Int32} (h : kno k kn) : kno (k + 1) kn := by
  rcases h with h | ⟨j, h1, h2⟩
  · exact Or.inl h
  · exact Or.inr ⟨j, by omega, h2⟩
theorem kno_n {k : Nat} {kn : Int32} (hk : k < 1000000) (h : kno k kn) : ¬ kn = nI (k + 1) := by
  intro e
  rcases h with h | ⟨j, h1, h2⟩
  · rw [h] at e; exact nI_m1 (by omega) e.symm
  · rw [h2] at e
    have := (i_eq (by omega) (by omega)).mp e
    omega
theorem kno_k (k : Nat) : kno k (nI k) := Or.inr ⟨k, Nat.le_refl _, rfl⟩
def CW (U : Nat) (w f : Nat → Nat) (numbers b rn rb : Nat → Int32) (se kn : Int32) : Prop :=
  (∀ i, i < 5 → numbers i = nI i) ∧ ∃ j, j ≤ U ∧ kn = nI j ∧ (j = U → se = nI (wB U w f).1 ∧ rep b (wB U w f).2 ∧ (∀ p, p < U → rn p = nI (rdy w f (List.range U) p)) ∧ (∀ p, (h : p < (wB U w f).2.length) → rb (wB U w f).2[p] = nI (rdy w f (wB U w f).2 p)))
def Inv (c : Nat) (D_kinds : Nat → Int32) (D_washes : Nat → Int32) (D_fuels : Nat → Int32) (D_isBroken : Nat → Int32) (D_units : Int32) (D_lengths : Nat → Int32) (D_wanted : Nat → Int32) (D_leaving : Int32) (D_trackOf : Nat → Int32) (D_parked : Int32) (D_changes : Int32) (P_packed : Nat → Int32) (P_row : Nat → Int32) (P_found : Int32) (P_narrowest : Int32) (P_knownAt : Int32) (R_leavers : Nat → Int32) (nR_steps : Nat) (R_steps : Nat → Int32) (R_leastShunts : Int32) (R_knownAt : Int32) (W_numbers : Nat → Int32) (W_trial : Nat → Int32) (W_bestOrder : Nat → Int32) (W_readyByNumber : Nat → Int32) (W_readyByBest : Nat → Int32) (W_soonestEnd : Int32) (W_knownUnits : Int32) (M_units : Int32) (M_kind : Nat → Int32) (M_wash : Nat → Int32) (M_fuel : Nat → Int32) (M_isBroken : Nat → Int32) (M_length : Nat → Int32) (M_wanted : Int32) (M_leaving : Nat → Int32) (M_parked : Int32) (M_stand : Nat → Int32) (M_many : Nat → Int32) (M_track : Nat → Int32) (M_stack : Nat → Int32) (M_depth : Nat → Int32) (M_canBe : Nat → Int32) (M_states : Int32) (M_told : Nat → Int64) (M_gone : Nat → Int32) (M_cost : Nat → Int32) (M_ways : Nat → Int32) (M_places : Nat → Int32) (M_now : Nat → Int32) (M_high : Nat → Int32) (M_runSize : Int32) (M_run : Nat → Int32) (M_runUnit : Nat → Int32) (M_order : Nat → Int32) (M_end : Nat → Int32) (M_bestOrder : Nat → Int32) (M_bestEnd : Nat → Int32) (S_positions : Nat → Int64) (S_metFrom : Nat → Int32) (S_stepTo : Nat → Int32) (S_slots : Nat → Int32) (S_met : Int32) (S_goal : Int32) : Prop :=
  ∃ U n P k tr ln w f, k ≤ c ∧ D_units = nI U ∧ D_leaving = nI n ∧ D_parked = nI P ∧ D_changes = nI k ∧ M_units = nI U ∧ M_wanted = nI n ∧ M_parked = nI P ∧ D_kinds = M_kind ∧ D_washes = M_wash ∧ D_fuels = M_fuel ∧ D_isBroken = M_isBroken ∧ D_lengths = M_length ∧ D_wanted = M_leaving ∧ CO U n P tr ln w f D_kinds D_washes D_fuels D_isBroken D_lengths D_wanted D_trackOf M_stand M_many ∧ (kno k P_knownAt ∧ (P_knownAt = nI k → okP D_kinds D_isBroken D_wanted ln U n P_packed P_found P_narrowest)) ∧ (kno k R_knownAt ∧ (R_knownAt = nI k → okR D_kinds D_isBroken D_wanted ln n P tr R_leavers nR_steps R_steps R_leastShunts)) ∧ CW U w f W_numbers W_bestOrder W_readyByNumber W_readyByBest W_soonestEnd W_knownUnits
