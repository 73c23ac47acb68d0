/-! the reference's numbers of yards: base 6 -/
def e6 : List Nat → Nat
  | [] => 0
  | x :: B => x + 6 * e6 B
theorem e6_lt : ∀ (B : List Nat), (∀ m ∈ B, m ≤ 5) → e6 B < 6 ^ B.length
  | [], _ => by decide
  | x :: B, h => by
    have h1 := e6_lt B (fun m hm => h m (List.mem_cons_of_mem _ hm))
    have h2 := h x List.mem_cons_self
    simp only [e6, List.length_cons, Nat.pow_succ]
    omega
theorem e6_lt5 {B : List Nat} (h : ∀ m ∈ B, m ≤ 5) (h5 : B.length ≤ 5) : e6 B < 7776 := Nat.lt_of_lt_of_le (e6_lt B h) (Nat.pow_le_pow_right (by decide) h5 : 6 ^ B.length ≤ 6 ^ 5)
theorem e6_inj : ∀ (a b : List Nat), (∀ m ∈ a, 1 ≤ m ∧ m ≤ 5) → (∀ m ∈ b, 1 ≤ m ∧ m ≤ 5) → e6 a = e6 b → a = b
  | [], [], _, _, _ => rfl
  | [], y :: b, _, hb, h => by have := hb y List.mem_cons_self; simp only [e6] at h; omega
  | x :: a, [], ha, _, h => by have := ha x List.mem_cons_self; simp only [e6] at h; omega
  | x :: a, y :: b, ha, hb, h => by
    have h1 := ha x List.mem_cons_self
    have h2 := hb y List.mem_cons_self
    simp only [e6] at h
    have e1 : x = y := by omega
    have e2 : e6 a = e6 b := by omega
    rw [e1, e6_inj a b (fun m hm => ha m (List.mem_cons_of_mem _ hm)) (fun m hm => hb m (List.mem_cons_of_mem _ hm)) e2]
theorem e6_drop (B : List Nat) (k : Nat) : e6 (B.drop k) = B.getD k 0 + 6 * e6 (B.drop (k + 1)) := by
  rcases Nat.lt_or_ge k B.length with h | h
  · rw [List.drop_eq_getElem_cons h]
    simp only [e6]
    rw [List.getD_eq_getElem?_getD, List.getElem?_eq_getElem h]
    rfl
  · rw [List.drop_eq_nil_of_le h, List.drop_eq_nil_of_le (by omega), List.getD_eq_getElem?_getD, List.getElem?_eq_none h]
    rfl
def num (y : YS) : Nat := (e6 (yt y 0).reverse * 7776 + e6 (yt y 1).reverse) * 7776 + e6 (yt y 2).reverse
/-- at most five stand, with labels 1 .. 5 -/
def yu (y : YS) : Prop := (∀ t, t < 3 → (yt y t).length ≤ 5) ∧ ∀ t, t < 3 → ∀ m ∈ yt y t, 1 ≤ m ∧ m ≤ 5
theorem yu_e {y : YS} (h : yu y) {t : Nat} (ht : t < 3) : e6 (yt y t).reverse < 7776 := e6_lt5 (fun m hm => (h.2 t ht m (List.mem_reverse.mp hm)).2) (by rw [List.length_reverse]; exact h.1 t ht)
theorem num_lt {y : YS} (h : yu y) : num y < 470184984576 := by
  have h0 := yu_e h (t := 0) (by omega)
  have h1 := yu_e h (t := 1) (by omega)
  have h2 := yu_e h (t := 2) (by omega)
  unfold num
  omega
theorem num_inj {a b : YS} (ha : yu a) (hb : yu b) (e : num a = num b) (h1 : a.1 = b.1) : a = b := by
  have a0 := yu_e ha (t := 0) (by omega)
  have a1 := yu_e ha (t := 1) (by omega)
  have a2 := yu_e ha (t := 2) (by omega)
  have b0 := yu_e hb (t := 0) (by omega)
  have b1 := yu_e hb (t := 1) (by omega)
  have b2 := yu_e hb (t := 2) (by omega)
  unfold num at e
  have q : ∀ t, t < 3 → e6 (yt a t).reverse = e6 (yt b t).reverse := by
    intro t ht
    rcases (show t = 0 ∨ t = 1 ∨ t = 2 by omega) with z | z | z <;> subst z <;> omega
  refine yext h1 (fun t ht => ?_)
  have := e6_inj _ _ (fun m hm => ha.2 t ht m (List.mem_reverse.mp hm)) (fun m hm => hb.2 t ht m (List.mem_reverse.mp hm)) (q t ht)
  exact List.reverse_inj.mp this
/-- the rows now and high hold the yard -/
def NH (y : YS) (now high : Nat → Int32) : Prop := ∀ t, t < 3 → high t = nI (yt y t).length ∧ ∀ i, i < (yt y t).length → now (5 * t + i) = nI ((yt y t).reverse.getD i 0 - 1)
theorem i_long : ∀ d : Fin 16, (nI d.val).toInt64 = lN d.val := by decide
theorem getD_mem {l : List Nat} {i : Nat} (h : i < l.length) : l.getD i 0 ∈ l := by
  rw [List.getD_eq_getElem?_getD, List.getElem?_eq_getElem h]
  exact List.getElem_mem h
section NM
variable {y : YS} {now high : Nat → Int32}
theorem t_number (hy : yu y) (h : NH y now high) {post : Int64 → Prop} (hp : post (lN (num y))) : wp_X7_number now high post := by
  unfold wp_X7_number
  have inner : ∀ (t : Nat), t < 3 → ∀ (v0 : Nat) (K59 : Int64 → Prop), v0 < 60466176 → K59 (lN (v0 * 7776 + e6 (yt y t).reverse)) → ∀ (k : Nat) (x4 : Int32), k ≤ 5 → x4 = nI k - 1 → Z_X7_number_12 now high post (nI t) K59 (k + 1) (lN (v0 * 6 ^ (5 - k) + e6 ((yt y t).reverse.drop k))) x4 := by
    intro t ht v0 K59 hv hK k
    have hlen := hy.1 t ht
    obtain ⟨hh, hnow⟩ := h t ht
    induction k with
    | zero =>
      intro x4 _ hx
      show Y_X7_number_12 _ _ _ _ _ _ _ _
      unfold Y_X7_number_12
      subst hx
      exact ⟨fun _ => hK, fun q => absurd (by decide) q⟩
    | succ k ih =>
      intro x4 hk hx
      rw [nI_pred k] at hx
      subst hx
      show Y_X7_number_12 _ _ _ _ _ _ _ _
      unfold Y_X7_number_12
      have hB : ∀ m ∈ (yt y t).reverse, m ≤ 5 := fun m hm => (hy.2 t ht m (List.mem_reverse.mp hm)).2
      have hstep : ∀ d : Nat, d = (yt y t).reverse.getD k 0 → 6 * (v0 * 6 ^ (5 - (k + 1)) + e6 ((yt y t).reverse.drop (k + 1))) + d = v0 * 6 ^ (5 - k) + e6 ((yt y t).reverse.drop k) := by
        intro d hd
        rw [e6_drop _ k, ← hd, show 5 - k = (5 - (k + 1)) + 1 by omega, Nat.pow_succ, ← Nat.mul_assoc]
        generalize v0 * 6 ^ (5 - (k + 1)) = A
        omega
      refine ⟨fun q => ?_, fun _ => ⟨i_in ht (by omega), ?_⟩⟩
      · have := i_neg q
        rw [i_toInt (by omega)] at this
        omega
      · rw [i_cl (by omega), hh]
        refine ⟨fun q => ?_, fun q => ?_⟩
        · have hle := (i_le (by omega) (by omega)).mp q
          intro y5 e5
          have hd : 0 = (yt y t).reverse.getD k 0 := by
            rw [List.getD_eq_getElem?_getD, List.getElem?_eq_none (by rw [List.length_reverse]; exact hle)]
            rfl
          have e5 : y5 = lN (v0 * 6 ^ (5 - k) + e6 ((yt y t).reverse.drop k)) := by
            rw [e5, ← hstep 0 hd]
            have := lN_mul 6 (v0 * 6 ^ (5 - (k + 1)) + e6 ((yt y t).reverse.drop (k + 1)))
            have h0 : ((0 : Int32).toInt64) = lN 0 := by decide
            rw [h0]
            show lN 6 * _ + lN 0 = _
            rw [this, lN_add]
          subst e5
          exact ih _ (by omega) (i_m1 k)
        · have hle : k < (yt y t).length := by
            rcases Nat.lt_or_ge k (yt y t).length with z | z
            · exact z
            · exact absurd ((i_le (by omega) (by omega)).mpr z) q
          have hidx : ((5 : Int32) * nI t) + nI k = nI (5 * t + k) := by
            show nI 5 * nI t + nI k = _
            rw [pk_mul, nI_add]
          rw [hidx]
          refine ⟨i_in (by omega) (by omega), ?_⟩
          intro y7 e7
          have hm := getD_mem (l := (yt y t).reverse) (i := k) (by rw [List.length_reverse]; exact hle)
          have hd5 := hy.2 t ht _ (List.mem_reverse.mp hm)
          rw [i_cl (by omega), hnow k hle, i_1] at e7
          have e7 : y7 = lN (v0 * 6 ^ (5 - k) + e6 ((yt y t).reverse.drop k)) := by
            rw [e7, ← hstep _ rfl]
            have hl : (nI ((yt y t).reverse.getD k 0 - 1 + 1)).toInt64 = lN ((yt y t).reverse.getD k 0) := by
              rw [Nat.sub_add_cancel hd5.1]
              exact i_long ⟨(yt y t).reverse.getD k 0, by omega⟩
            rw [hl]
            show lN 6 * _ + _ = _
            rw [lN_mul, lN_add]
          subst e7
          exact ih _ (by omega) (i_m1 k)
  have drop5 : ∀ t, t < 3 → e6 ((yt y t).reverse.drop 5) = 0 := fun t ht => by
    rw [List.drop_eq_nil_of_le (by rw [List.length_reverse]; exact hy.1 t ht)]; rfl
  have h0 := yu_e hy (t := 0) (by omega)
  have h1 := yu_e hy (t := 1) (by omega)
  have row : ∀ (t : Nat), t < 3 → ∀ (v0 : Nat) (K59 : Int64 → Prop), v0 < 60466176 → K59 (lN (v0 * 7776 + e6 (yt y t).reverse)) → ∃ n, Z_X7_number_12 now high post (nI t) K59 n (lN v0) 4 := by
    intro t ht v0 K59 hv hK
    have := inner t ht v0 K59 hv hK 5 4 (by omega) (by decide)
    rw [drop5 t ht, Nat.sub_self, Nat.pow_zero, Nat.mul_one, Nat.add_zero] at this
    exact ⟨_, this⟩
  refine ⟨4, ?_⟩
  show Y_X7_number_4 _ _ _ _ _ _
  unfold Y_X7_number_4
  refine ⟨fun q => absurd q (by decide), fun _ => row 0 (by omega) 0 _ (by omega) ?_⟩
  show Y_X7_number_4 _ _ _ _ _ _
  unfold Y_X7_number_4
  refine ⟨fun q => absurd q (by decide), fun _ => row 1 (by omega) _ _ (by omega) ?_⟩
  show Y_X7_number_4 _ _ _ _ _ _
  unfold Y_X7_number_4
  refine ⟨fun q => absurd q (by decide), fun _ => row 2 (by omega) _ _ (by omega) ?_⟩
  show Y_X7_number_4 _ _ _ _ _ _
  unfold Y_X7_number_4
  refine ⟨fun _ => ?_, fun q => absurd (by decide) q⟩
  rw [Nat.zero_mul, Nat.zero_add]
  exact hp
end NM
