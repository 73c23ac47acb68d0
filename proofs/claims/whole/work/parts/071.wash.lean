/-! orders of washing and fuelling -/
def av (U : Nat) (pre : List Nat) : List Nat := (List.range U).filter (fun u => !pre.contains u)
/-- the orders that begin with pre and have k more, in their order -/
def pp (U : Nat) : Nat → List Nat → List (List Nat)
  | 0, pre => [pre]
  | k + 1, pre => (av U pre).flatMap (fun u => pp U k (pre ++ [u]))
/-- when the last is fuelled, from washed a and fuelled b on -/
def sE (w f : Nat → Nat) : List Nat → Nat → Nat → Nat
  | [], _, b => b
  | u :: r, a, b => sE w f r (a + w u) (max (a + w u) b + f u)
def bst (e : List Nat → Nat) : List (List Nat) → Nat × List Nat → Nat × List Nat
  | [], b => b
  | s :: r, b => bst e r (if e s < b.1 then (e s, s) else b)
def rep (g : Nat → Int32) (l : List Nat) : Prop := ∀ i, (h : i < l.length) → g i = nI l[i]
theorem rep_nil (g : Nat → Int32) : rep g [] := fun i h => absurd h (Nat.not_lt_zero i)
theorem rep_add {g : Nat → Int32} {l : List Nat} (h : rep g l) (u : Nat) : rep (upd g l.length (nI u)) (l ++ [u]) := by
  intro i hi
  by_cases e : i = l.length
  · subst e; rw [up_s]; simp
  · have hi2 : i < l.length := by simp at hi; omega
    rw [up_o _ _ e, List.getElem_append_left hi2]
    exact h i hi2
theorem rep_left {g : Nat → Int32} {l r : List Nat} (h : rep g (l ++ r)) : rep g l := by
  intro i hi
  have := h i (by simp; omega)
  rw [List.getElem_append_left hi] at this
  exact this
theorem rep_cpy {g q : Nat → Int32} {l : List Nat} (h : rep g l) (hl : l.length ≤ 5) : rep (va_cpy g q 0 0 5) l := by
  intro i hi
  have : va_cpy g q 0 0 5 i = g i := by
    unfold va_cpy
    rw [if_pos ⟨Nat.zero_le i, by omega⟩]
    simp
  rw [this]
  exact h i hi
theorem bst_app (e : List Nat → Nat) : ∀ (l1 l2 : List (List Nat)) (b : Nat × List Nat), bst e (l1 ++ l2) b = bst e l2 (bst e l1 b)
  | [], _, _ => rfl
  | s :: r, l2, b => by simp only [List.cons_append, bst]; exact bst_app e r l2 _
theorem bst_no {e : List Nat → Nat} : ∀ {l : List (List Nat)} {b : Nat × List Nat}, (∀ s ∈ l, b.1 ≤ e s) → bst e l b = b
  | [], _, _ => rfl
  | s :: r, b, h => by
    have h1 := h s List.mem_cons_self
    simp only [bst]
    rw [if_neg (by omega)]
    exact bst_no (fun s hs => h s (List.mem_cons_of_mem _ hs))
theorem bst_le {e : List Nat → Nat} : ∀ (l : List (List Nat)) (b : Nat × List Nat), (bst e l b).1 ≤ b.1
  | [], _ => Nat.le_refl _
  | s :: r, b => by
    simp only [bst]
    refine Nat.le_trans (bst_le r _) ?_
    by_cases h : e s < b.1
    · rw [if_pos h]; exact Nat.le_of_lt h
    · rw [if_neg h]; exact Nat.le_refl _
theorem sE_ge (w f : Nat → Nat) : ∀ (l : List Nat) (a b : Nat), b ≤ sE w f l a b
  | [], _, _ => Nat.le_refl _
  | u :: r, a, b => by
    simp only [sE]
    refine Nat.le_trans ?_ (sE_ge w f r _ _)
    omega
theorem sE_app (w f : Nat → Nat) : ∀ (l r : List Nat) (a b : Nat), ∃ a2, sE w f (l ++ r) a b = sE w f r a2 (sE w f l a b)
  | [], _, a, _ => ⟨a, rfl⟩
  | u :: l, r, a, b => by
    simp only [List.cons_append, sE]
    exact sE_app w f l r _ _
theorem pp_pre (U : Nat) : ∀ (k : Nat) (pre s : List Nat), s ∈ pp U k pre → ∃ r, s = pre ++ r
  | 0, pre, s, h => ⟨[], by simp only [pp, List.mem_singleton] at h; rw [h, List.append_nil]⟩
  | k + 1, pre, s, h => by
    simp only [pp, List.mem_flatMap] at h
    obtain ⟨u, -, hu⟩ := h
    obtain ⟨r, rfl⟩ := pp_pre U k _ s hu
    exact ⟨u :: r, by simp⟩
/-- the available ones from x on -/
def avx (U : Nat) (pre : List Nat) (x : Nat) : List Nat := ((List.range U).drop x).filter (fun u => !pre.contains u)
theorem avx_0 (U : Nat) (pre : List Nat) : avx U pre 0 = av U pre := rfl
theorem avx_end (U : Nat) (pre : List Nat) {x : Nat} (h : U ≤ x) : avx U pre x = [] := by
  unfold avx; rw [List.drop_eq_nil_of_le (by simpa using h)]; rfl
theorem avx_in (U : Nat) (pre : List Nat) {x : Nat} (h : x < U) (hp : pre.contains x = true) : avx U pre x = avx U pre (x + 1) := by
  unfold avx
  rw [List.drop_eq_getElem_cons (by simpa using h), List.getElem_range, List.filter_cons]
  have hp2 : x ∈ pre := by simpa using hp
  simp [hp2]
theorem avx_out (U : Nat) (pre : List Nat) {x : Nat} (h : x < U) (hp : pre.contains x = false) : avx U pre x = x :: avx U pre (x + 1) := by
  unfold avx
  rw [List.drop_eq_getElem_cons (by simpa using h), List.getElem_range, List.filter_cons]
  have hp2 : x ∉ pre := by simpa using hp
  simp [hp2]
section W1
variable {w f : Nat → Nat} {U : Nat} {washes fuels : Nat → Int32}
theorem t_try (hU : U ≤ 5) (hW : ∀ i, i < U → washes i = nI (w i) ∧ w i ≤ 60) (hF : ∀ i, i < U → fuels i = nI (f i) ∧ f i ≤ 60) : ∀ (k n : Nat) (pre : List Nat) (t : Int32) (a b : Nat) (trial best : Nat → Int32) (B : Nat × List Nat) (post : (Nat → Int32) → (Nat → Int32) → Int32 → Prop), k < n → pre.length + k = U → msk t pre → (∀ r, sE w f (pre ++ r) 0 0 = sE w f r a b) → a ≤ 60 * pre.length → b ≤ 120 * pre.length → rep trial pre → rep best B.2 → B.1 ≤ 601 →
    (∀ trial' best' : Nat → Int32, rep trial' pre → rep best' (bst (fun s => sE w f s 0 0) (pp U k pre) B).2 → post trial' best' (nI (bst (fun s => sE w f s 0 0) (pp U k pre) B).1)) → wp_X5_tryOrders n washes fuels (nI U) (nI pre.length) t (nI a) (nI b) trial best (nI B.1) post := by
  intro k
  induction k with
  | zero =>
    intro n pre t a b trial best B post hn hl ht hE ha hb hr1 hr2 hB hpost
    obtain ⟨m, rfl⟩ : ∃ m, n = m + 1 := ⟨n - 1, by omega⟩
    have he : sE w f pre 0 0 = b := by have := hE []; simpa [sE] using this
    show bw_X5_tryOrders _ _ _ _ _ _ _ _ _ _ _ _
    unfold bw_X5_tryOrders
    refine ⟨fun h => ⟨fun h2 => ?_, fun h2 => ?_⟩, fun h => ?_⟩
    · exact absurd ((i_lt (by omega) (by omega)).mp h2) (by omega)
    · have h3 : b < B.1 := (i_lt (by omega) (by omega)).mp h
      have h4 : bst (fun s => sE w f s 0 0) (pp U 0 pre) B = (b, pre) := by
        simp only [pp, bst, he]; rw [if_pos h3]
      rw [h4] at hpost
      exact hpost _ _ hr1 (rep_cpy hr1 (show pre.length ≤ 5 by omega))
    · have h3 : ¬ b < B.1 := fun q => h ((i_lt (by omega) (by omega)).mpr q)
      have h4 : bst (fun s => sE w f s 0 0) (pp U 0 pre) B = B := by
        simp only [pp, bst, he]; rw [if_neg h3]
      rw [h4] at hpost
      exact hpost _ _ hr1 hr2
  | succ k ih =>
    intro n pre t a b trial best B post hn hl ht hE ha hb hr1 hr2 hB hpost
    obtain ⟨m, rfl⟩ : ∃ m, n = m + 1 := ⟨n - 1, by omega⟩
    show bw_X5_tryOrders _ _ _ _ _ _ _ _ _ _ _ _
    unfold bw_X5_tryOrders
    refine ⟨fun h => ⟨fun h2 => ?_, fun h2 => ?_⟩, fun h => ?_⟩
    · have key : ∀ (d x : Nat) (trial best : Nat → Int32) (B' : Nat × List Nat), x + d = U → rep trial pre → rep best B'.2 → B'.1 ≤ 601 → bst (fun s => sE w f s 0 0) ((avx U pre x).flatMap (fun u => pp U k (pre ++ [u]))) B' = bst (fun s => sE w f s 0 0) (pp U (k + 1) pre) B → Z_X5_tryOrders_45 washes fuels (nI U) (nI pre.length) t (nI a) (nI b) post (wp_X5_tryOrders m washes fuels (nI U)) (d + 1) (nI x) trial best (nI B'.1) := by
        intro d
        induction d with
        | zero =>
          intro x trial best B' hx h1 h2 h3 h4
          show Y_X5_tryOrders_45 _ _ _ _ _ _ _ _ _ _ _ _ _ _
          unfold Y_X5_tryOrders_45
          refine ⟨fun _ => ?_, fun q => absurd ((i_le (by omega) (by omega)).mpr (by omega)) q⟩
          rw [avx_end U pre (by omega)] at h4
          simp only [List.flatMap_nil, bst] at h4
          have hp := hpost trial best h1
          rw [← h4] at hp
          exact hp h2
        | succ d ihd =>
          intro x trial best B' hx h1 h2 h3 h4
          show Y_X5_tryOrders_45 _ _ _ _ _ _ _ _ _ _ _ _ _ _
          unfold Y_X5_tryOrders_45
          refine ⟨fun q => absurd ((i_le (by omega) (by omega)).mp q) (by omega), fun _ => ?_⟩
          have hxU : x < U := by omega
          have hbit := msk_bit ht (u := x) (by omega)
          rw [i_1]
          refine ⟨fun q => ?_, fun q => ?_⟩
          · have hc : pre.contains x = true := by
              cases hcc : pre.contains x with
              | true => rfl
              | false => rw [hbit, hcc] at q; exact absurd rfl q
            rw [avx_in U pre hxU hc] at h4
            exact ihd (x + 1) trial best B' (by omega) h1 h2 h3 h4
          · have hc : pre.contains x = false := by
              cases hcc : pre.contains x with
              | false => rfl
              | true => rw [hbit, hcc] at q; exact absurd q (by decide)
            rw [avx_out U pre hxU hc, List.flatMap_cons, bst_app] at h4
            refine ⟨i_in (by omega) (by omega), i_in (by omega) (by omega), ?_⟩
            rw [i_cl (by omega), i_cl (by omega), (hW x hxU).1, (hF x hxU).1]
            have hwx := (hW x hxU).2
            have hfx := (hF x hxU).2
            intro y7 ey7
            rw [nI_add] at ey7
            subst ey7
            refine ⟨i_in (by omega) (by omega), ?_⟩
            intro y9 ey9
            rw [i_max (by omega) (by omega), nI_add] at ey9
            subst ey9
            have := ih m (pre ++ [x]) (t ||| ((1 : Int32) <<< (nI x &&& 31))) (a + w x) (max (a + w x) b + f x) (upd trial pre.length (nI x)) best B' (fun W_trial_10 W_bestOrder_11 W_soonestEnd_12 => Z_X5_tryOrders_45 washes fuels (nI U) (nI pre.length) t (nI a) (nI b) post (wp_X5_tryOrders m washes fuels (nI U)) (d + 1) (nI (x + 1)) W_trial_10 W_bestOrder_11 W_soonestEnd_12) (by omega) (by simp; omega) (msk_or ht (by omega)) (fun r => by have := hE (x :: r); simp only [sE] at this; simpa using this) (by simp; omega) (by simp; omega) (rep_add h1 x) h2 h3 (fun trial' best' q1 q2 => ihd (x + 1) trial' best' _ (by omega) (rep_left q1) q2 (Nat.le_trans (bst_le _ _) h3) h4)
            rw [i_1]
            rw [List.length_append, List.length_singleton] at this
            exact this
      exact ⟨_, key U 0 trial best B (by omega) hr1 hr2 hB (by rw [avx_0]; rfl)⟩
    · exact absurd ((i_lt (by omega) (by omega)).mpr (by omega)) h2
    · have h3 : ¬ b < B.1 := fun q => h ((i_lt (by omega) (by omega)).mpr q)
      have h4 : bst (fun s => sE w f s 0 0) (pp U (k + 1) pre) B = B := by
        refine bst_no (fun s hs => ?_)
        obtain ⟨r, rfl⟩ := pp_pre U _ _ s hs
        show B.1 ≤ sE w f (pre ++ r) 0 0
        rw [hE r]
        exact Nat.le_trans (by omega) (sE_ge w f r a b)
      rw [h4] at hpost
      exact hpost _ _ hr1 hr2
end W1
