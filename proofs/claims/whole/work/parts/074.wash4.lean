theorem bst_in {e : List Nat → Nat} : ∀ {l : List (List Nat)} {b : Nat × List Nat}, (∃ s ∈ l, e s < b.1) → (bst e l b).2 ∈ l ∧ (bst e l b).1 = e (bst e l b).2
  | [], b, h => by obtain ⟨s, hs, -⟩ := h; exact absurd hs List.not_mem_nil
  | s :: r, b, h => by
    simp only [bst]
    by_cases h1 : ∃ z ∈ r, e z < (if e s < b.1 then (e s, s) else b).1
    · have := bst_in h1
      exact ⟨List.mem_cons_of_mem _ this.1, this.2⟩
    · have h2 : bst e r (if e s < b.1 then (e s, s) else b) = (if e s < b.1 then (e s, s) else b) := bst_no (fun z hz => Nat.le_of_not_lt (fun q => h1 ⟨z, hz, q⟩))
      rw [h2]
      obtain ⟨z, hz, hzb⟩ := h
      by_cases h3 : e s < b.1
      · rw [if_pos h3]; exact ⟨List.mem_cons_self, rfl⟩
      · rw [if_neg h3] at h1
        rcases List.mem_cons.mp hz with q | q
        · subst q; exact absurd hzb h3
        · exact absurd ⟨z, q, hzb⟩ h1
def wB (U : Nat) (w f : Nat → Nat) : Nat × List Nat := bst (fun s => sE w f s 0 0) (pp U U []) (601, [])
theorem av_range (U : Nat) : (av U []).length = U := by rw [av_nil]; simp
theorem ppU_len (U : Nat) : (pp U U []).length = fc U := pp_len U U [] (av_range U)
theorem ppU_all {U : Nat} {s : List Nat} (h : s ∈ pp U U []) : (∀ u ∈ s, u < U) ∧ s.Nodup ∧ s.length = U := by
  have := pp_all U U [] s (fun u h => absurd h List.not_mem_nil) List.nodup_nil h
  simpa using this
theorem ppU_end {U : Nat} {w f : Nat → Nat} (hU : U ≤ 5) (hw : ∀ i, i < U → w i ≤ 60) (hf : ∀ i, i < U → f i ≤ 60) {s : List Nat} (h : s ∈ pp U U []) : sE w f s 0 0 ≤ 600 := by
  obtain ⟨h1, -, h3⟩ := ppU_all h
  have := sE_le hw hf s 0 0 h1
  omega
theorem wB_spec {U : Nat} {w f : Nat → Nat} (hU : U ≤ 5) (hw : ∀ i, i < U → w i ≤ 60) (hf : ∀ i, i < U → f i ≤ 60) : bst (fun s => sE w f s 0 0) (pp U U []) (100000, []) = wB U w f ∧ (wB U w f).2 ∈ pp U U [] ∧ (wB U w f).1 = sE w f (wB U w f).2 0 0 ∧ (wB U w f).1 ≤ 600 := by
  have hl := ppU_len U
  have hp := fc_pos U
  unfold wB
  cases hL : pp U U [] with
  | nil => rw [hL] at hl; simp at hl; omega
  | cons s r =>
    have hs : s ∈ pp U U [] := by rw [hL]; exact List.mem_cons_self
    have he := ppU_end hU hw hf hs
    have h1 := bst_in (e := fun s => sE w f s 0 0) (l := s :: r) (b := (601, [])) ⟨s, List.mem_cons_self, by show sE w f s 0 0 < 601; omega⟩
    refine ⟨?_, h1.1, h1.2, ?_⟩
    · simp only [bst]
      rw [if_pos (by omega), if_pos (by omega)]
    · rw [h1.2]
      exact ppU_end hU hw hf (by rw [hL]; exact h1.1)
section W4
variable {w f : Nat → Nat} {U : Nat} {washes fuels : Nat → Int32}
theorem t_all (hU : U ≤ 5) {post : Int32 → (Nat → Int32) → (Nat → Int32) → (Nat → Int32) → (Nat → Int32) → Prop} {o e b be : Nat → Int32} {K22 : Int32 → Prop} (hK : K22 (nI (fc U))) : ∃ n, Z_X7_findBest_4 (nI U) washes fuels post o e b be K22 n 1 2 := by
  have key : ∀ (d i : Nat), 2 ≤ i → i ≤ 6 → i + d = max (U + 1) 2 → Z_X7_findBest_4 (nI U) washes fuels post o e b be K22 (d + 1) (nI (fc (i - 1))) (nI i) := by
    intro d
    induction d with
    | zero =>
      intro i h2 h6 hi
      show Y_X7_findBest_4 _ _ _ _ _ _ _ _ _ _ _ _
      unfold Y_X7_findBest_4
      refine ⟨fun _ => ?_, fun q => absurd ((i_lt (by omega) (by omega)).mpr (by omega)) q⟩
      have : fc (i - 1) = fc U := by
        rcases (show i - 1 = U ∨ (U = 0 ∧ i = 2) by omega) with h | h
        · rw [h]
        · rw [h.1, h.2]; rfl
      rw [this]
      exact hK
    | succ d ih =>
      intro i h2 h6 hi
      have h5 := fc_le5 (i - 1) (by omega)
      show Y_X7_findBest_4 _ _ _ _ _ _ _ _ _ _ _ _
      unfold Y_X7_findBest_4
      refine ⟨fun q => absurd ((i_lt (by omega) (by omega)).mp q) (by omega), fun _ y ey => ?_⟩
      rw [pk_mul] at ey
      subst ey
      rw [i_1]
      have := ih (i + 1) (by omega) (by omega) (by omega)
      have e : fc (i + 1 - 1) = fc (i - 1) * i := by
        obtain ⟨j, rfl⟩ : ∃ j, i = j + 1 := ⟨i - 1, by omega⟩
        show fc (j + 1) = fc j * (j + 1)
        rw [fc, Nat.mul_comm]
      rw [e] at this
      exact this
  exact ⟨_, key (max (U + 1) 2 - 2) 2 (by omega) (by omega) (by omega)⟩
theorem t_copy (hU : U ≤ 5) {post : Int32 → (Nat → Int32) → (Nat → Int32) → (Nat → Int32) → (Nat → Int32) → Prop} {x1 x2 x3 : Int32} {o e b be : Nat → Int32} {K99 : (Nat → Int32) → (Nat → Int32) → Prop} (hK : ∀ b' be' : Nat → Int32, (∀ p, p < U → b' p = o p ∧ be' p = e p) → K99 b' be') : ∃ n, Z_X7_findBest_56 (nI U) washes fuels post x1 x2 x3 o e K99 n 0 b be := by
  have key : ∀ (d i : Nat) (b be : Nat → Int32), i + d = U → (∀ p, p < i → b p = o p ∧ be p = e p) → Z_X7_findBest_56 (nI U) washes fuels post x1 x2 x3 o e K99 (d + 1) (nI i) b be := by
    intro d
    induction d with
    | zero =>
      intro i b be hi h
      show Y_X7_findBest_56 _ _ _ _ _ _ _ _ _ _ _ _ _ _
      unfold Y_X7_findBest_56
      exact ⟨fun _ => hK b be (fun p hp => h p (by omega)), fun q => absurd ((i_le (by omega) (by omega)).mpr (by omega)) q⟩
    | succ d ih =>
      intro i b be hi h
      show Y_X7_findBest_56 _ _ _ _ _ _ _ _ _ _ _ _ _ _
      unfold Y_X7_findBest_56
      have hin := i_in (a := i) (n := 5) (by omega) (by omega)
      refine ⟨fun q => absurd ((i_le (by omega) (by omega)).mp q) (by omega), fun _ => ⟨hin, fun y1 e1 => ⟨hin, hin, fun y2 e2 => ⟨hin, ?_⟩⟩⟩⟩
      subst e1
      subst e2
      rw [i_cl (by omega), i_1]
      refine ih (i + 1) _ _ (by omega) (fun p hp => ?_)
      by_cases q : p = i
      · subst q; rw [up_s, up_s]; exact ⟨rfl, rfl⟩
      · rw [up_o _ _ q, up_o _ _ q]; exact h p (by omega)
  exact ⟨_, key U 0 b be (by omega) (fun p h => absurd h (Nat.not_lt_zero p))⟩
theorem t_best (hU : U ≤ 5) (hW : ∀ i, i < U → washes i = nI (w i) ∧ w i ≤ 60) (hF : ∀ i, i < U → fuels i = nI (f i) ∧ f i ≤ 60) {o e b be : Nat → Int32} {post : Int32 → (Nat → Int32) → (Nat → Int32) → (Nat → Int32) → (Nat → Int32) → Prop}
    (hpost : ∀ o' e' b' be' : Nat → Int32, rep b' (wB U w f).2 → (∀ p, p < U → be' p = nI (rdy w f (wB U w f).2 p)) → post (nI (wB U w f).1) o' e' b' be') : wp_X7_findBest (nI U) washes fuels o e b be post := by
  unfold wp_X7_findBest
  have h120 := fc_le5 U hU
  obtain ⟨hs1, hs2, hs3, hs4⟩ := wB_spec hU (fun i h => (hW i h).2) (fun i h => (hF i h).2)
  have hwl := (ppU_all hs2).2.2
  refine t_all hU ?_
  have key : ∀ (d k : Nat) (o e b be : Nat → Int32), k + d = fc U → rep b (bst (fun s => sE w f s 0 0) ((pp U U []).take k) (100000, [])).2 → (∀ p, p < (bst (fun s => sE w f s 0 0) ((pp U U []).take k) (100000, [])).2.length → be p = nI (rdy w f (bst (fun s => sE w f s 0 0) ((pp U U []).take k) (100000, [])).2 p)) → Z_X7_findBest_27 (nI U) washes fuels post (nI (fc U)) (d + 1) (nI (bst (fun s => sE w f s 0 0) ((pp U U []).take k) (100000, [])).1) (nI k) o e b be := by
    intro d
    induction d with
    | zero =>
      intro k o e b be hk h1 h2
      show Y_X7_findBest_27 _ _ _ _ _ _ _ _ _ _ _ _
      unfold Y_X7_findBest_27
      refine ⟨fun _ => ?_, fun q => absurd ((i_le (by omega) (by omega)).mpr (by omega)) q⟩
      have ht : (pp U U []).take k = pp U U [] := List.take_of_length_le (by rw [ppU_len]; omega)
      rw [ht, hs1] at h1 h2 ⊢
      exact hpost o e b be h1 (fun p hp => h2 p (by omega))
    | succ d ih =>
      intro k o e b be hk h1 h2
      have hkl : k < (pp U U []).length := by rw [ppU_len]; omega
      have hmem : (pp U U [])[k] ∈ pp U U [] := List.getElem_mem hkl
      obtain ⟨g1, g2, g3⟩ := ppU_all hmem
      have hBle := bst_le (e := fun s => sE w f s 0 0) ((pp U U []).take k) (100000, [])
      have hend := ppU_end hU (fun i h => (hW i h).2) (fun i h => (hF i h).2) hmem
      have hnext : bst (fun s => sE w f s 0 0) ((pp U U []).take (k + 1)) (100000, []) = if sE w f (pp U U [])[k] 0 0 < (bst (fun s => sE w f s 0 0) ((pp U U []).take k) (100000, [])).1 then (sE w f (pp U U [])[k] 0 0, (pp U U [])[k]) else bst (fun s => sE w f s 0 0) ((pp U U []).take k) (100000, []) := by
        rw [List.take_succ_eq_append_getElem hkl, bst_app]
        rfl
      have ih1 := ih (k + 1)
      rw [hnext] at ih1
      generalize bst (fun s => sE w f s 0 0) ((pp U U []).take k) (100000, []) = B at h1 h2 hBle ih1 ⊢
      show Y_X7_findBest_27 _ _ _ _ _ _ _ _ _ _ _ _
      unfold Y_X7_findBest_27
      refine ⟨fun q => absurd ((i_le (by omega) (by omega)).mp q) (by omega), fun _ => ?_⟩
      unfold wp_X7_tell
      refine ⟨U + 1, t_tell hU U [] o 0 k (by simp) (av_range U) msk_0 (rep_nil o) hkl (fun o' ho => ?_)⟩
      refine t_ends hU hW hF g1 g3 ho (fun e' he' => ?_)
      rw [i_1]
      simp only at hBle
      refine ⟨fun q => ?_, fun q => ?_⟩
      · have hq : B.1 ≤ sE w f (pp U U [])[k] 0 0 := (i_le (by omega) (by omega)).mp q
        rw [if_neg (by omega)] at ih1
        exact ih1 o' e' b be (by omega) h1 h2
      · have hq : ¬ B.1 ≤ sE w f (pp U U [])[k] 0 0 := fun z => q ((i_le (by omega) (by omega)).mpr z)
        rw [if_pos (by omega)] at ih1
        refine t_copy hU (fun b' be' hc => ?_)
        refine ih1 o' e' b' be' (by omega) (fun i hi => ?_) (fun p hp => ?_)
        · have hi2 : i < U := by rw [← g3]; exact hi
          rw [(hc i hi2).1]; exact ho i hi
        · have hp2 : p < U := by rw [← g3]; exact hp
          rw [(hc p hp2).2]; exact he' p hp2
  have := key (fc U) 0 o e b be (by omega) (rep_nil _) (fun p h => absurd h (Nat.not_lt_zero p))
  exact ⟨_, this⟩
/-- Washing.refresh: what it knows then -/
theorem t_refresh (hU : U ≤ 5) (hW : ∀ i, i < U → washes i = nI (w i) ∧ w i ≤ 60) (hF : ∀ i, i < U → fuels i = nI (f i) ∧ f i ≤ 60) {numbers trial b rn rb : Nat → Int32} {se : Int32} {kn : Nat} (hkn : kn ≤ 5) (hnum : ∀ i, i < 5 → numbers i = nI i) {post : (Nat → Int32) → (Nat → Int32) → (Nat → Int32) → (Nat → Int32) → Int32 → Int32 → Prop}
    (hold : kn = U → se = nI (wB U w f).1 ∧ rep b (wB U w f).2 ∧ (∀ p, p < U → rn p = nI (rdy w f (List.range U) p)) ∧ (∀ p, (h : p < (wB U w f).2.length) → rb (wB U w f).2[p] = nI (rdy w f (wB U w f).2 p)))
    (hpost : ∀ t' b' rn' rb' : Nat → Int32, rep b' (wB U w f).2 → (∀ p, p < U → rn' p = nI (rdy w f (List.range U) p)) → (∀ p, (h : p < (wB U w f).2.length) → rb' (wB U w f).2[p] = nI (rdy w f (wB U w f).2 p)) → post t' b' rn' rb' (nI (wB U w f).1) (nI U)) : wp_X5_refresh washes fuels (nI U) numbers trial b rn rb se (nI kn) post := by
  obtain ⟨hs1, hs2, hs3, hs4⟩ := wB_spec hU (fun i h => (hW i h).2) (fun i h => (hF i h).2)
  obtain ⟨q1, q2, q3⟩ := ppU_all hs2
  unfold wp_X5_refresh
  refine ⟨fun _ => ?_, fun h => ?_⟩
  · have := t_try (w := w) (f := f) hU hW hF U 7 [] 0 0 0 trial b (601, []) (fun W_trial_2 W_bestOrder_3 W_soonestEnd_4 => wp_X5_fillReady washes fuels (nI U) numbers rn (fun W_readyByNumber_5 => wp_X5_fillReady washes fuels (nI U) W_bestOrder_3 rb (fun W_readyByBest_6 => post W_trial_2 W_bestOrder_3 W_readyByNumber_5 W_readyByBest_6 W_soonestEnd_4 (nI U)))) (by omega) (by simp) msk_0 (fun r => rfl) (by omega) (by omega) (rep_nil _) (rep_nil _) (Nat.le_refl _) (fun t' b' _ hb => ?_)
    · exact this
    · have hb : rep b' (wB U w f).2 := hb
      refine t_fill hU hW hF (s := List.range U) (fun u h => List.mem_range.mp h) (by simp) List.nodup_range (fun i hi => by rw [List.getElem_range]; exact hnum i (by simp at hi; omega)) (fun rn' h1 => ?_)
      refine t_fill hU hW hF (s := (wB U w f).2) q1 q3 q2 hb (fun rb' h2 => ?_)
      exact hpost t' b' rn' rb' hb (fun p hp => by have := h1 p (by simpa using hp); rw [List.getElem_range] at this; exact this) h2
  · have hk : kn = U := (i_eq (by omega) (by omega)).mp h
    obtain ⟨rfl, h2, h3, h4⟩ := hold hk
    have := hpost trial b rn rb h2 h3 h4
    rw [h]
    exact this
end W4
