/-! the reference reads a yard back -/
theorem e6_mod {B : List Nat} (h : ∀ m ∈ B, m ≤ 5) (rest k : Nat) (hk : k < 5) : (rest * 6 ^ (5 - k) + e6 (B.drop k)) % 6 = B.getD k 0 ∧ (rest * 6 ^ (5 - k) + e6 (B.drop k)) / 6 = rest * 6 ^ (5 - (k + 1)) + e6 (B.drop (k + 1)) := by
  have hd : B.getD k 0 ≤ 5 := by
    rcases Nat.lt_or_ge k B.length with z | z
    · exact h _ (getD_mem z)
    · rw [List.getD_eq_getElem?_getD, List.getElem?_eq_none z]; exact Nat.zero_le _
  rw [e6_drop B k, show 5 - k = (5 - (k + 1)) + 1 by omega, Nat.pow_succ, ← Nat.mul_assoc]
  generalize rest * 6 ^ (5 - (k + 1)) = A
  generalize e6 (B.drop (k + 1)) = E
  generalize B.getD k 0 = d at *
  omega
section RD
variable {y : YS} {x1 : Int64} {post : (Nat → Int32) → (Nat → Int32) → Prop}
theorem t_readRow {t : Nat} (ht : t < 3) {B : List Nat} (hB : ∀ m ∈ B, 1 ≤ m ∧ m ≤ 5) (h5 : B.length ≤ 5) {rest : Nat} (hrest : rest < 60466176) {K79 : Int64 → (Nat → Int32) → (Nat → Int32) → Prop} {now0 high0 : Nat → Int32}
    (hK : ∀ now' high' : Nat → Int32, (∀ a, (a < 5 * t ∨ 5 * t + 5 ≤ a) → now' a = now0 a) → (∀ c, c ≠ t → high' c = high0 c) → high' t = nI B.length → (∀ i, i < B.length → now' (5 * t + i) = nI (B.getD i 0 - 1)) → K79 (lN rest) now' high') (h0 : high0 t = nI 0) : ∃ n, Z_X7_read_21 x1 post (nI t) K79 n (lN (rest * 7776 + e6 B)) 0 now0 high0 := by
  have key : ∀ (d i : Nat) (now high : Nat → Int32), i + d = 5 → (∀ a, (a < 5 * t ∨ 5 * t + 5 ≤ a) → now a = now0 a) → (∀ c, c ≠ t → high c = high0 c) → high t = nI (min i B.length) → (∀ j, j < i → j < B.length → now (5 * t + j) = nI (B.getD j 0 - 1)) → Z_X7_read_21 x1 post (nI t) K79 (d + 1) (lN (rest * 6 ^ (5 - i) + e6 (B.drop i))) (nI i) now high := by
    intro d
    induction d with
    | zero =>
      intro i now high hi c1 c2 c3 c4
      have : i = 5 := by omega
      subst this
      show Y_X7_read_21 _ _ _ _ _ _ _ _ _
      unfold Y_X7_read_21
      refine ⟨fun _ => ?_, fun q => absurd (by decide) q⟩
      rw [List.drop_eq_nil_of_le h5, Nat.sub_self, Nat.pow_zero, Nat.mul_one]
      exact hK now high c1 c2 (by rw [c3]; congr 1; omega) (fun j hj => c4 j (by omega) hj)
    | succ d ih =>
      intro i now high hi c1 c2 c3 c4
      have hi5 : i < 5 := by omega
      obtain ⟨m1, m2⟩ := e6_mod (B := B) (fun m hm => (hB m hm).2) rest i hi5
      have hbig : rest * 6 ^ (5 - i) + e6 (B.drop i) < 2 ^ 63 := by
        have b1 : 6 ^ (5 - i) ≤ 6 ^ 5 := Nat.pow_le_pow_right (by decide) (by omega)
        have b2 : rest * 6 ^ (5 - i) ≤ 60466176 * 7776 := Nat.mul_le_mul (by omega) b1
        have b3 : e6 (B.drop i) < 7776 := e6_lt5 (fun m hm => (hB m (List.mem_of_mem_drop hm)).2) (by rw [List.length_drop]; omega)
        omega
      show Y_X7_read_21 _ _ _ _ _ _ _ _ _
      unfold Y_X7_read_21
      refine ⟨fun q => absurd ((i_le (a := 5) (by omega) (by omega)).mp q) (by omega), fun _ => ?_⟩
      intro y4 e4
      have e4 : y4 = nI (B.getD i 0) := by
        rw [e4, ← m1, ← lN_i]
        congr 1
        exact pk_lRem (b := 6) hbig (by omega) (by omega)
      subst e4
      intro y5 e5
      have e5 : y5 = lN (rest * 6 ^ (5 - (i + 1)) + e6 (B.drop (i + 1))) := by
        rw [e5, ← m2]
        exact pk_lDiv (b := 6) hbig (by omega) (by omega)
      subst e5
      rw [i_1]
      rcases Nat.lt_or_ge i B.length with z | z
      · have hd := hB _ (getD_mem z)
        refine ⟨fun q => absurd ((i_le (b := 0) (by omega) (by omega)).mp q) (by omega), fun _ => ?_⟩
        intro y8 e8
        have e8 : y8 = nI (B.getD i 0 - 1) := by rw [e8]; exact i_sub (b := 1) hd.1
        subst e8
        have hidx : ((5 : Int32) * nI t) + nI i = nI (5 * t + i) := by
          show nI 5 * nI t + nI i = _
          rw [pk_mul, nI_add]
        rw [hidx]
        refine ⟨i_in (by omega) (by omega), i_in ht (by omega), ?_⟩
        intro y11 e11
        rw [i_cl (by omega), c3, i_1] at e11
        subst e11
        refine ⟨i_in ht (by omega), ?_⟩
        rw [i_cl (by omega), i_cl (by omega)]
        refine ih (i + 1) _ _ (by omega) (fun a ha => ?_) (fun c hc => ?_) ?_ (fun j hj1 hj2 => ?_)
        · rw [up_o _ _ (by omega)]; exact c1 a ha
        · rw [up_o _ _ hc]; exact c2 c hc
        · rw [up_s]; congr 1; omega
        · by_cases e : j = i
          · subst e; rw [up_s]
          · rw [up_o _ _ (by omega)]; exact c4 j (by omega) hj2
      · have hd : B.getD i 0 = 0 := by rw [List.getD_eq_getElem?_getD, List.getElem?_eq_none z]; rfl
        rw [hd]
        refine ⟨fun _ => ih (i + 1) now high (by omega) c1 c2 (by rw [c3]; congr 1; omega) (fun j hj1 hj2 => c4 j (by omega) hj2), fun q => absurd (by decide) q⟩
  have := key 5 0 now0 high0 (by omega) (fun _ _ => rfl) (fun _ _ => rfl) (by rw [h0, Nat.zero_min]) (fun j hj => by omega)
  exact ⟨_, this⟩
theorem t_read (hy : yu y) {now high : Nat → Int32} {post : (Nat → Int32) → (Nat → Int32) → Prop} (hp : ∀ now' high', NH y now' high' → post now' high') : wp_X7_read (lN (num y)) now high post := by
  unfold wp_X7_read
  have hB : ∀ t, t < 3 → ∀ m ∈ (yt y t).reverse, 1 ≤ m ∧ m ≤ 5 := fun t ht m hm => hy.2 t ht m (List.mem_reverse.mp hm)
  have hl : ∀ t, t < 3 → (yt y t).reverse.length ≤ 5 := fun t ht => by rw [List.length_reverse]; exact hy.1 t ht
  have h0 := yu_e hy (t := 0) (by omega)
  have h1 := yu_e hy (t := 1) (by omega)
  refine ⟨4, ?_⟩
  show Y_X7_read_5 _ _ _ _ _ _ _
  unfold Y_X7_read_5
  refine ⟨fun q => absurd q (by decide), fun _ => ⟨i_in (a := 2) (by omega) (by omega), ?_⟩⟩
  unfold num
  refine t_readRow (t := 2) (by omega) (hB 2 (by omega)) (hl 2 (by omega)) (by omega) (fun n2 g2 a2 b2 c2 d2 => ?_) (up_s _ _ _)
  show Y_X7_read_5 _ _ _ _ _ _ _
  unfold Y_X7_read_5
  refine ⟨fun q => absurd q (by decide), fun _ => ⟨i_in (a := 1) (by omega) (by omega), ?_⟩⟩
  refine t_readRow (t := 1) (by omega) (hB 1 (by omega)) (hl 1 (by omega)) (by omega) (fun n1 g1 a1 b1 c1 d1 => ?_) (up_s _ _ _)
  show Y_X7_read_5 _ _ _ _ _ _ _
  unfold Y_X7_read_5
  refine ⟨fun q => absurd q (by decide), fun _ => ⟨i_in (a := 0) (by omega) (by omega), ?_⟩⟩
  have := t_readRow (x1 := lN (num y)) (post := post) (t := 0) (by omega) (hB 0 (by omega)) (hl 0 (by omega)) (rest := 0) (by omega) (K79 := fun (x3_12 : Int64) (M_now_13 : Nat → Int32) (M_high_14 : Nat → Int32) => Z_X7_read_5 (lN (num y)) post 1 x3_12 (((2 : Int32) + (-1) + (-1)) + (-1)) M_now_13 M_high_14) (now0 := n1) (high0 := upd g1 0 0) (fun n0 g0 a0 b0 c0 d0 => ?_) (up_s _ _ _)
  · rw [Nat.zero_mul, Nat.zero_add] at this
    exact this
  · show Y_X7_read_5 _ _ _ _ _ _ _
    unfold Y_X7_read_5
    refine ⟨fun _ => hp n0 g0 (fun t ht => ?_), fun q => absurd (by decide) q⟩
    rcases (show t = 0 ∨ t = 1 ∨ t = 2 by omega) with e | e | e <;> subst e
    · rw [List.length_reverse] at c0 d0
      exact ⟨c0, fun i hi => d0 i hi⟩
    · rw [List.length_reverse] at c1 d1
      have l1 := hy.1 1 (by omega)
      refine ⟨by rw [b0 1 (by omega), up_o _ _ (by omega)]; exact c1, fun i hi => ?_⟩
      rw [a0 _ (by omega)]
      exact d1 i hi
    · rw [List.length_reverse] at c2 d2
      have l2 := hy.1 2 (by omega)
      refine ⟨?_, fun i hi => ?_⟩
      · rw [b0 2 (by omega), up_o _ _ (by omega), b1 2 (by omega), show ((2 : Int32) + -1).toNatClampNeg = 1 by decide, up_o _ _ (by omega)]
        exact c2
      rw [a0 _ (by omega), a1 _ (by omega)]
      exact d2 i hi
end RD
