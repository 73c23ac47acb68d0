/-! readiness by an order; the reference's orders -/
def sA (w : Nat → Nat) : List Nat → Nat
  | [] => 0
  | u :: r => w u + sA w r
theorem sA_app (w : Nat → Nat) : ∀ (l r : List Nat), sA w (l ++ r) = sA w l + sA w r
  | [], r => by simp [sA]
  | u :: l, r => by simp only [List.cons_append, sA, sA_app w l r]; omega
theorem sE_snoc (w f : Nat → Nat) : ∀ (l : List Nat) (u a b : Nat), sE w f (l ++ [u]) a b = max (a + sA w l + w u) (sE w f l a b) + f u
  | [], u, a, b => by simp [sE, sA]
  | v :: l, u, a, b => by
    simp only [List.cons_append, sE, sA]
    rw [sE_snoc w f l u]
    congr 2
    omega
def rdy (w f : Nat → Nat) (s : List Nat) (p : Nat) : Nat := sE w f (s.take (p + 1)) 0 0
theorem sA_le {w : Nat → Nat} {U : Nat} (hw : ∀ i, i < U → w i ≤ 60) : ∀ (l : List Nat), (∀ u ∈ l, u < U) → sA w l ≤ 60 * l.length
  | [], _ => Nat.le_refl _
  | u :: l, h => by
    have h1 := hw u (h u List.mem_cons_self)
    have h2 := sA_le hw l (fun v hv => h v (List.mem_cons_of_mem _ hv))
    simp only [sA, List.length_cons]
    omega
theorem sE_le {w f : Nat → Nat} {U : Nat} (hw : ∀ i, i < U → w i ≤ 60) (hf : ∀ i, i < U → f i ≤ 60) : ∀ (l : List Nat) (a b : Nat), (∀ u ∈ l, u < U) → sE w f l a b ≤ max a b + 120 * l.length
  | [], a, b, _ => by simp only [sE, List.length_nil]; omega
  | u :: l, a, b, h => by
    have h1 := hw u (h u List.mem_cons_self)
    have h2 := hf u (h u List.mem_cons_self)
    have h3 := sE_le hw hf l (a + w u) (max (a + w u) b + f u) (fun v hv => h v (List.mem_cons_of_mem _ hv))
    simp only [sE, List.length_cons]
    omega
theorem take_mem {l : List Nat} {U p : Nat} (h : ∀ u ∈ l, u < U) : ∀ u ∈ l.take p, u < U := fun u hu => h u (List.mem_of_mem_take hu)
theorem nd_inj {l : List Nat} (h : l.Nodup) {i j : Nat} (hi : i < l.length) (hj : j < l.length) (e : l[i] = l[j]) : i = j := by
  have hp := List.pairwise_iff_getElem.mp h
  rcases Nat.lt_trichotomy i j with q | q | q
  · exact absurd e (hp i j hi hj q)
  · exact q
  · exact absurd e.symm (hp j i hj hi q)
section W2
variable {w f : Nat → Nat} {U : Nat} {washes fuels : Nat → Int32}
theorem step_ready (hW : ∀ i, i < U → washes i = nI (w i) ∧ w i ≤ 60) (hF : ∀ i, i < U → fuels i = nI (f i) ∧ f i ≤ 60) {s : List Nat} (hs : ∀ u ∈ s, u < U) (hl : s.length ≤ 5) {p : Nat} (hp : p < s.length) : s[p] < U ∧ sA w (s.take (p + 1)) = sA w (s.take p) + w s[p] ∧ sE w f (s.take (p + 1)) 0 0 = max (sA w (s.take (p + 1))) (sE w f (s.take p) 0 0) + f s[p] ∧ sA w (s.take p) ≤ 300 ∧ sE w f (s.take p) 0 0 ≤ 600 ∧ w s[p] ≤ 60 ∧ f s[p] ≤ 60 := by
  have h1 : s[p] < U := hs _ (List.getElem_mem hp)
  have ht : s.take (p + 1) = s.take p ++ [s[p]] := by rw [List.take_succ_eq_append_getElem hp]
  have h2 : sA w (s.take (p + 1)) = sA w (s.take p) + w s[p] := by rw [ht, sA_app]; simp [sA]
  have h3 := sA_le (fun i h => (hW i h).2) (s.take p) (take_mem hs)
  have h4 := sE_le (fun i h => (hW i h).2) (fun i h => (hF i h).2) (s.take p) 0 0 (take_mem hs)
  have h5 : (s.take p).length ≤ 5 := by rw [List.length_take]; omega
  refine ⟨h1, h2, ?_, by omega, by omega, (hW _ h1).2, (hF _ h1).2⟩
  rw [h2, ht, sE_snoc]
  simp
theorem t_fill (hU : U ≤ 5) (hW : ∀ i, i < U → washes i = nI (w i) ∧ w i ≤ 60) (hF : ∀ i, i < U → fuels i = nI (f i) ∧ f i ≤ 60) {s : List Nat} (hs : ∀ u ∈ s, u < U) (hl : s.length = U) (hn : s.Nodup) {order ready : Nat → Int32} (ho : rep order s) {post : (Nat → Int32) → Prop}
    (hpost : ∀ ready' : Nat → Int32, (∀ p, (h : p < s.length) → ready' s[p] = nI (rdy w f s p)) → post ready') : wp_X5_fillReady washes fuels (nI U) order ready post := by
  have key : ∀ (d p : Nat) (rd : Nat → Int32), p + d = U → (∀ q, (h : q < s.length) → q < p → rd s[q] = nI (rdy w f s q)) → Z_X5_fillReady_8 washes fuels (nI U) order post (d + 1) (nI (sA w (s.take p))) (nI (sE w f (s.take p) 0 0)) (nI p) rd := by
    intro d
    induction d with
    | zero =>
      intro p rd hp h
      show Y_X5_fillReady_8 _ _ _ _ _ _ _ _ _ _
      unfold Y_X5_fillReady_8
      exact ⟨fun _ => hpost rd (fun q hq => h q hq (by omega)), fun q => absurd ((i_le (by omega) (by omega)).mpr (by omega)) q⟩
    | succ d ih =>
      intro p rd hp h
      show Y_X5_fillReady_8 _ _ _ _ _ _ _ _ _ _
      unfold Y_X5_fillReady_8
      have hpl : p < s.length := by omega
      obtain ⟨g1, g2, g3, g4, g5, g6, g7⟩ := step_ready hW hF hs (by omega) hpl
      refine ⟨fun q => absurd ((i_le (by omega) (by omega)).mp q) (by omega), fun _ => ⟨i_in (by omega) (by omega), ?_⟩⟩
      rw [i_cl (by omega), ho p hpl]
      intro y3 e3
      subst e3
      rw [i_cl (by omega), (hW _ g1).1, (hF _ g1).1, i_1]
      refine ⟨i_in (by omega) (by omega), ?_⟩
      intro y5 e5
      rw [nI_add, ← g2] at e5
      subst e5
      refine ⟨i_in (by omega) (by omega), ?_⟩
      intro y7 e7
      rw [i_max (by omega) (by omega), nI_add, ← g3] at e7
      subst e7
      refine ⟨i_in (by omega) (by omega), ?_⟩
      refine ih (p + 1) _ (by omega) (fun q hq hqp => ?_)
      by_cases e : q = p
      · subst e; rw [up_s]; rfl
      · have hne : s[q] ≠ s[p] := fun h2 => e (nd_inj hn hq hpl h2)
        rw [up_o _ _ hne]
        exact h q hq (by omega)
  exact ⟨_, key U 0 ready (by omega) (fun q _ h => absurd h (Nat.not_lt_zero q))⟩
theorem t_ends (hU : U ≤ 5) (hW : ∀ i, i < U → washes i = nI (w i) ∧ w i ≤ 60) (hF : ∀ i, i < U → fuels i = nI (f i) ∧ f i ≤ 60) {s : List Nat} (hs : ∀ u ∈ s, u < U) (hl : s.length = U) {order ends : Nat → Int32} (ho : rep order s) {post : Int32 → (Nat → Int32) → Prop}
    (hpost : ∀ ends' : Nat → Int32, (∀ p, p < U → ends' p = nI (rdy w f s p)) → post (nI (sE w f s 0 0)) ends') : wp_X7_findEnds (nI U) washes fuels order ends post := by
  have key : ∀ (d p : Nat) (rd : Nat → Int32), p + d = U → (∀ q, q < p → rd q = nI (rdy w f s q)) → Z_X7_findEnds_6 (nI U) washes fuels order post (d + 1) (nI (sA w (s.take p))) (nI (sE w f (s.take p) 0 0)) (nI p) rd := by
    intro d
    induction d with
    | zero =>
      intro p rd hp h
      show Y_X7_findEnds_6 _ _ _ _ _ _ _ _ _ _
      unfold Y_X7_findEnds_6
      refine ⟨fun _ => ?_, fun q => absurd ((i_le (by omega) (by omega)).mpr (by omega)) q⟩
      rw [List.take_of_length_le (by omega)]
      exact hpost rd (fun q hq => h q (by omega))
    | succ d ih =>
      intro p rd hp h
      show Y_X7_findEnds_6 _ _ _ _ _ _ _ _ _ _
      unfold Y_X7_findEnds_6
      have hpl : p < s.length := by omega
      obtain ⟨g1, g2, g3, g4, g5, g6, g7⟩ := step_ready hW hF hs (by omega) hpl
      refine ⟨fun q => absurd ((i_le (by omega) (by omega)).mp q) (by omega), fun _ => ⟨i_in (by omega) (by omega), ?_⟩⟩
      rw [i_cl (by omega), ho p hpl]
      refine ⟨i_in (by omega) (by omega), ?_⟩
      intro y4 e4
      rw [i_cl (by omega), (hW _ g1).1, nI_add, ← g2] at e4
      subst e4
      have fin : ∀ z : Int32, z = nI (max (sA w (s.take (p + 1))) (sE w f (s.take p) 0 0)) → B_X7_findEnds_38 (nI U) washes fuels order post (Z_X7_findEnds_6 (nI U) washes fuels order post (d + 1)) (nI (sA w (s.take (p + 1)))) (nI p) z rd := by
        intro z ez
        subst ez
        unfold B_X7_findEnds_38
        refine ⟨i_in (by omega) (by omega), ?_⟩
        rw [i_cl (by omega), ho p hpl]
        refine ⟨i_in (by omega) (by omega), ?_⟩
        rw [i_cl (by omega), (hF _ g1).1, i_1]
        intro y8 e8
        rw [nI_add, ← g3] at e8
        subst e8
        refine ⟨i_in (by omega) (by omega), ?_⟩
        refine ih (p + 1) _ (by omega) (fun q hqp => ?_)
        by_cases e : q = p
        · subst e; rw [up_s]; rfl
        · rw [up_o _ _ e]; exact h q (by omega)
      refine ⟨fun q => fin _ ?_, fun q => fin _ ?_⟩
      · have := (i_le (by omega) (by omega)).mp q
        congr 1; omega
      · have : ¬ _ := fun z => q ((i_le (by omega) (by omega)).mpr z)
        congr 1; omega
  have := key U 0 ends (by omega) (fun q h => absurd h (Nat.not_lt_zero q))
  exact ⟨_, this⟩
theorem t_numbers (hU : U ≤ 5) {order : Nat → Int32} {post : (Nat → Int32) → Prop} (hpost : ∀ order' : Nat → Int32, rep order' (List.range U) → post order') : wp_X7_takeNumbers (nI U) order post := by
  have key : ∀ (d p : Nat) (o : Nat → Int32), p + d = U → (∀ q, q < p → o q = nI q) → Z_X7_takeNumbers_2 (nI U) post (d + 1) (nI p) o := by
    intro d
    induction d with
    | zero =>
      intro p o hp h
      show Y_X7_takeNumbers_2 _ _ _ _ _
      unfold Y_X7_takeNumbers_2
      exact ⟨fun _ => hpost o (fun i hi => by rw [List.getElem_range]; exact h i (by simp at hi; omega)), fun q => absurd ((i_le (by omega) (by omega)).mpr (by omega)) q⟩
    | succ d ih =>
      intro p o hp h
      show Y_X7_takeNumbers_2 _ _ _ _ _
      unfold Y_X7_takeNumbers_2
      refine ⟨fun q => absurd ((i_le (by omega) (by omega)).mp q) (by omega), fun _ => ⟨i_in (by omega) (by omega), ?_⟩⟩
      rw [i_cl (by omega), i_1]
      refine ih (p + 1) _ (by omega) (fun q hq => ?_)
      by_cases e : q = p
      · subst e; rw [up_s]
      · rw [up_o _ _ e]; exact h q (by omega)
  exact ⟨_, key U 0 order (by omega) (fun q h => absurd h (Nat.not_lt_zero q))⟩
end W2
