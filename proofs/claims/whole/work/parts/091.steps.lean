/-! the steps of the class's run -/
section B5
variable {m g : Nat} {pth : Nat → List Nat} {par lab : Nat → Nat} {mf sp : Nat → Int32}
theorem pth_len (hp0 : pth 0 = []) (hp : ∀ j, 0 < j → j < m → par j < j ∧ pth j = pth (par j) ++ [lab j] ∧ mf j = nI (par j) ∧ sp j = nI (cod (lab j))) : ∀ (j : Nat), j < m → (pth j).length ≤ j := by
  intro j
  induction j using Nat.strongRecOn with
  | _ j ih =>
    intro hj
    rcases Nat.eq_zero_or_pos j with q | q
    · subst q; rw [hp0]; exact Nat.le_refl _
    · obtain ⟨h1, h2, -, -⟩ := hp j q hj
      have := ih (par j) h1 (by omega)
      rw [h2, List.length_append, List.length_singleton]
      omega
theorem t_depthOf (hm : m ≤ 2956) (hp0 : pth 0 = []) (hp : ∀ j, 0 < j → j < m → par j < j ∧ pth j = pth (par j) ++ [lab j] ∧ mf j = nI (par j) ∧ sp j = nI (cod (lab j))) (hg : g < m) {post : Int32 → Prop} (h : post (nI (pth g).length)) : wp_X4_depthOf mf (nI m) (nI g) post := by
  unfold wp_X4_depthOf
  have key : ∀ (f j d : Nat), j < f → j + d < m → d + (pth j).length = (pth g).length → Z_X4_depthOf_4 mf (nI m) (nI g) post f (nI d) (nI j) := by
    intro f
    induction f with
    | zero => intro j d h1; omega
    | succ f ih =>
      intro j d hf hj hd
      show Y_X4_depthOf_4 _ _ _ _ _ _ _
      unfold Y_X4_depthOf_4
      rcases Nat.eq_zero_or_pos j with q | q
      · subst q
        rw [hp0] at hd
        have : d = (pth g).length := by simpa using hd
        subst this
        exact ⟨fun _ => h, fun q => absurd ((i_le (a := 0) (b := 0) (by omega) (by omega)).mpr (Nat.le_refl _)) q⟩
      · refine ⟨fun q2 => absurd ((i_le (b := 0) (by omega) (by omega)).mp q2) (by omega), fun _ => ⟨fun q2 => absurd ((i_le (by omega) (by omega)).mp q2) (by omega), fun _ => ⟨i_in (by omega) (by omega), ?_⟩⟩⟩
        intro y e
        obtain ⟨h1, h2, h3, -⟩ := hp j q (by omega)
        rw [i_cl (by omega), h3] at e
        subst e
        rw [i_1]
        refine ih (par j) (d + 1) (by omega) (by omega) ?_
        rw [h2, List.length_append, List.length_singleton] at hd
        omega
  exact ⟨_, key (g + 1) g 0 (by omega) (by omega) (by omega)⟩
theorem t_stepsToGoal (hm : m ≤ 2956) (hp0 : pth 0 = []) (hp : ∀ j, 0 < j → j < m → par j < j ∧ pth j = pth (par j) ++ [lab j] ∧ mf j = nI (par j) ∧ sp j = nI (cod (lab j))) (hg : g < m) {post : Nat → (Nat → Int32) → Prop} (h : ∀ arr : Nat → Int32, (∀ i, i < (pth g).length → arr i = nI (cod ((pth g).getD i 0))) → post (pth g).length arr) : wp_X4_stepsToGoal mf sp (nI m) (nI g) post := by
  have hL := pth_len hp0 hp g hg
  unfold wp_X4_stepsToGoal
  refine t_depthOf hm hp0 hp hg ⟨?_, ?_, ?_⟩
  · intro q
    have := i_neg q
    rw [i_toInt (by omega)] at this
    omega
  · rw [i_cl (by omega)]; omega
  · intro nn e
    rw [i_cl (by omega)] at e
    subst e
    intro y2 e2
    have key : ∀ (f j : Nat) (x3 : Int32) (arr : Nat → Int32), j < f → j < m → x3 = nI (pth j).length - 1 → (∃ r, pth g = pth j ++ r) → (∀ i, (pth j).length ≤ i → i < (pth g).length → arr i = nI (cod ((pth g).getD i 0))) → Z_X4_stepsToGoal_21 (pth g).length mf sp (nI m) (nI g) post (fun (n0_arr_10 : Nat → Int32) => post (pth g).length n0_arr_10) f (nI j) x3 arr := by
      intro f
      induction f with
      | zero => intro j _ _ h1; omega
      | succ f ih =>
        intro j x3 arr hf hj hx hr ha
        show Y_X4_stepsToGoal_21 _ _ _ _ _ _ _ _ _ _ _
        unfold Y_X4_stepsToGoal_21
        rcases Nat.eq_zero_or_pos j with q | q
        · subst q
          have : (pth 0).length = 0 := by rw [hp0]; rfl
          have fin := h arr (fun i hi => ha i (by omega) hi)
          exact ⟨fun _ => fin, fun _ => ⟨fun _ => fin, fun q => absurd ((i_le (a := 0) (b := 0) (by omega) (by omega)).mpr (Nat.le_refl _)) q⟩⟩
        · obtain ⟨h1, h2, h3, h4⟩ := hp j q hj
          obtain ⟨r, hr⟩ := hr
          have hl : (pth j).length = (pth (par j)).length + 1 := by rw [h2, List.length_append, List.length_singleton]
          have hlg : (pth g).length = (pth j).length + r.length := by rw [hr, List.length_append]
          have hx' : x3 = nI (pth (par j)).length := by rw [hx, hl]; exact i_sub (b := 1) (by omega)
          subst hx'
          refine ⟨fun q2 => ?_, fun _ => ⟨fun q2 => absurd ((i_le (b := 0) (by omega) (by omega)).mp q2) (by omega), fun _ => ⟨i_in (by omega) (by omega), ?_⟩⟩⟩
          · have := i_neg q2
            rw [i_toInt (by omega)] at this
            omega
          · intro y7 e7
            refine ⟨i_in (by omega) (by omega), i_in (by omega) (by omega), ?_⟩
            intro y9 e9
            rw [i_cl (by omega), h3] at e9
            rw [i_cl (by omega), h4] at e7
            subst e7 e9
            rw [i_cl (by omega)]
            refine ih (par j) _ _ (by omega) (by omega) (Int32.sub_eq_add_neg _ _).symm ⟨lab j :: r, by rw [hr, h2, List.append_assoc]; rfl⟩ (fun i hi1 hi2 => ?_)
            by_cases e : i = (pth (par j)).length
            · subst e
              rw [up_s, hr, h2]
              congr 2
              rw [List.append_assoc, List.getD_eq_getElem?_getD, List.getElem?_append_right (Nat.le_refl _), Nat.sub_self]
              rfl
            · rw [up_o _ _ e]
              exact ha i (by omega) hi2
    exact ⟨_, key (g + 1) g y2 _ (by omega) hg e2 ⟨[], by rw [List.append_nil]⟩ (fun i h1 h2 => by omega)⟩
end B5
