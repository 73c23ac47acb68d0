/-! numbers: Int32 against Nat -/
theorem i_le {a b : Nat} (ha : a < 2147483648) (hb : b < 2147483648) : (nI a ≤ nI b) ↔ a ≤ b := nI_leI (by omega) (by omega)
theorem i_lt {a b : Nat} (ha : a < 2147483648) (hb : b < 2147483648) : (nI a < nI b) ↔ a < b := nI_ltI (by omega) (by omega)
theorem i_eq {a b : Nat} (ha : a < 2147483648) (hb : b < 2147483648) : (nI a = nI b) ↔ a = b := nI_eq (by omega) (by omega)
theorem i_cl {a : Nat} (ha : a < 2147483648) : (nI a).toNatClampNeg = a := nI_clamp (by omega)
theorem i_in {a n : Nat} (h : a < n) (hn : n < 2147483648) : vp_in (nI a) n := vp_in_nI h (by omega)
theorem i_1 (a : Nat) : nI a + 1 = nI (a + 1) := nI_1 a
theorem i_sub {a b : Nat} (h : b ≤ a) : nI a - nI b = nI (a - b) := pk_sub h
theorem i_div {a b : Nat} (ha : a < 2147483648) (h0 : 0 < b) (hb : b < 2147483648) : nI a / nI b = nI (a / b) := pk_div (by omega) h0 (by omega)
theorem i_rem {a b : Nat} (ha : a < 2147483648) (h0 : 0 < b) (hb : b < 2147483648) : nI a - nI a / nI b * nI b = nI (a % b) := pk_rem (by omega) h0 (by omega)
theorem i_max {a b : Nat} (ha : a < 2147483648) (hb : b < 2147483648) : (if nI a < nI b then nI b else nI a) = nI (max a b) := by
  by_cases h : a < b
  · rw [if_pos ((i_lt ha hb).mpr h)]; congr 1; omega
  · rw [if_neg (fun q => h ((i_lt ha hb).mp q))]; congr 1; omega
theorem i_toInt {a : Nat} (ha : a < 2147483648) : (nI a).toInt = (a : Int) := nI_toInt (by omega)
/-- an Int32 that is neither below 0 nor above n -/
theorem i_of {x : Int32} (n : Nat) (hn : n < 2147483648) (h0 : ¬ x < 0) (h1 : ¬ nI n < x) : ∃ a, a ≤ n ∧ x = nI a := by
  obtain ⟨j, hj, rfl⟩ := nI_of h0
  exact ⟨j, by rcases Nat.lt_or_ge n j with q | q; exact absurd ((i_lt hn (by omega)).mpr q) h1; exact q, rfl⟩
theorem i_neg {x : Int32} (h : x < 0) : x.toInt < 0 := by
  have := Int32.lt_iff_toInt_lt.mp h
  simpa using this
theorem up_s (f : Nat → Int32) (k : Nat) (x : Int32) : upd f k x k = x := pk_us
theorem up_o (f : Nat → Int32) {k j : Nat} (x : Int32) (h : j ≠ k) : upd f k x j = f j := pk_un h
theorem i_bit : ∀ T : Fin 32, ∀ u : Fin 5, ((nI T.val >>> (nI u.val &&& 31)) &&& 1) = if T.val.testBit u.val then 1 else 0 := by decide
theorem i_or : ∀ T : Fin 32, ∀ u : Fin 5, (nI T.val ||| ((1 : Int32) <<< (nI u.val &&& 31))) = nI (T.val ||| 2 ^ u.val) := by decide
/-- t is the mask of the units of a list -/
def msk (t : Int32) (pre : List Nat) : Prop := ∃ T : Nat, T < 32 ∧ t = nI T ∧ ∀ u, u < 5 → T.testBit u = pre.contains u
theorem msk_0 : msk 0 [] := ⟨0, by decide, rfl, fun u _ => by simp⟩
theorem msk_bit {t : Int32} {pre : List Nat} (h : msk t pre) {u : Nat} (hu : u < 5) : ((t >>> (nI u &&& 31)) &&& 1) = if pre.contains u then 1 else 0 := by
  obtain ⟨T, hT, rfl, hb⟩ := h
  have := i_bit ⟨T, hT⟩ ⟨u, hu⟩
  rw [hb u hu] at this
  exact this
theorem msk_or {t : Int32} {pre : List Nat} (h : msk t pre) {u : Nat} (hu : u < 5) : msk (t ||| ((1 : Int32) <<< (nI u &&& 31))) (pre ++ [u]) := by
  obtain ⟨T, hT, rfl, hb⟩ := h
  refine ⟨T ||| 2 ^ u, ?_, i_or ⟨T, hT⟩ ⟨u, hu⟩, fun v hv => ?_⟩
  · have h2 : 2 ^ u < 2 ^ 5 := Nat.pow_lt_pow_right (by decide) hu
    exact Nat.or_lt_two_pow (n := 5) hT h2
  · rw [Nat.testBit_or, hb v hv, Nat.testBit_two_pow]
    simp only [List.contains_eq_mem, List.mem_append, List.mem_singleton]
    by_cases e : u = v
    · subst e; simp
    · have e2 : ¬ v = u := fun q => e q.symm
      simp [e, e2]
