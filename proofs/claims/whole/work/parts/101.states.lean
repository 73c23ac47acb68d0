/-! the reference finds all yards that are reached -/
def TI (sv : Nat → Nat → Bool) (ln : Nat → Nat) (n : Nat) (y0 : YS) (p w m : Nat) (st : Nat → YS) (ways : Nat → Int32) : Prop :=
  st 0 = y0 ∧ 0 < m ∧ (∀ j, j < m → ∃ ws, fol sv ln n y0 ws = some (st j)) ∧ (∀ i j, i < j → j < m → st i ≠ st j) ∧ ∀ i v, i < m → (i < p ∧ v < 9 ∨ i = p ∧ v < w) → (nxt sv ln n (st i) v = none ∧ ways (9 * i + v) = -1) ∨ ∃ j, j < m ∧ nxt sv ln n (st i) v = some (st j) ∧ ways (9 * i + v) = nI j
theorem TI_skip {sv : Nat → Nat → Bool} {ln : Nat → Nat} {n : Nat} {y0 : YS} {p w m : Nat} {st : Nat → YS} {ways : Nat → Int32} (T : TI sv ln n y0 p w m st ways) (h : nxt sv ln n (st p) w = none) (hw : ways (9 * p + w) = -1) : TI sv ln n y0 p (w + 1) m st ways := by
  obtain ⟨a1, a2, a3, a4, a5⟩ := T
  refine ⟨a1, a2, a3, a4, fun i v hi hv => ?_⟩
  by_cases e : i = p ∧ v = w
  · obtain ⟨e1, e2⟩ := e
    subst e1 e2
    exact Or.inl ⟨h, hw⟩
  · exact a5 i v hi (by omega)
theorem TI_row {sv : Nat → Nat → Bool} {ln : Nat → Nat} {n : Nat} {y0 : YS} {p m : Nat} {st : Nat → YS} {ways : Nat → Int32} (T : TI sv ln n y0 p 9 m st ways) : TI sv ln n y0 (p + 1) 0 m st ways := by
  obtain ⟨a1, a2, a3, a4, a5⟩ := T
  exact ⟨a1, a2, a3, a4, fun i v hi hv => a5 i v hi (by omega)⟩
section FS
variable {sv : Nat → Nat → Bool} {ln : Nat → Nat} {n P : Nat} {y0 : YS}
theorem t_meetM (hP : P ≤ 5) (g1 : y0.1 + (cat y0.2).length = P) (g2 : (cat y0.2).Nodup) (g3 : ∀ u ∈ cat y0.2, 1 ≤ u ∧ u ≤ 5) {p w m : Nat} {st : Nat → YS} {ways : Nat → Int32} (T : TI sv ln n y0 p w m st ways) {states : Int32} {told : Nat → Int64} {gone places : Nat → Int32} (B : TB m st states told gone places) (hp : p < m) (hw : w < 9) {z : YS} (hz : nxt sv ln n (st p) w = some z) {now high : Nat → Int32} (hN : NH z now high) (hrest : ∀ v, w < v → v < 9 → ways (9 * p + v) = -1)
    {K : Int32 → (Nat → Int64) → (Nat → Int32) → (Nat → Int32) → (Nat → Int32) → Prop} (hK : ∀ m' st' states' told' gone' places' ways', m ≤ m' → (∀ j, j < m → st' j = st j) → TI sv ln n y0 p (w + 1) m' st' ways' → TB m' st' states' told' gone' places' → (∀ v, w < v → v < 9 → ways' (9 * p + v) = -1) → K states' told' gone' ways' places') : wp_X7_find now high (nI z.1) states told gone places (fun r s t g pl => vp_in (((9 : Int32) * nI p) + nI w) 46800 ∧ K s t g (upd ways (((9 : Int32) * nI p) + nI w).toNatClampNeg r) pl) := by
  obtain ⟨a1, a2, a3, a4, a5⟩ := id T
  have hm := cnt_units g1 g2 g3 m st a3 a4
  have hys : ∀ j, j < m → ys P (st j) := fun j hj => by
    obtain ⟨ws, hws⟩ := a3 j hj
    obtain ⟨d1, -, d3⟩ := fol_ys ws y0 (st j) g1 g2 hws
    exact ys_of hP d1 (fun u hu => g3 u (d3 u hu))
  obtain ⟨wp, hwp⟩ := a3 p hp
  have hzf : fol sv ln n y0 (wp ++ [w]) = some z := by rw [fol_app sv ln n _ _ _ _ hwp]; exact fol_mk hw hz
  have hzs : ys P z := by
    obtain ⟨d1, -, d3⟩ := fol_ys _ y0 z g1 g2 hzf
    exact ys_of hP d1 (fun u hu => g3 u (d3 u hu))
  have hidx : ((9 : Int32) * nI p) + nI w = nI (9 * p + w) := by
    show nI 9 * nI p + nI w = _
    rw [pk_mul, nI_add]
  have hT' : (∀ j, j < m → st j ≠ z) → ∀ i j, i < j → j < m + 1 → (fun j => if j = m then z else st j) i ≠ (fun j => if j = m then z else st j) j := by
    intro hne i j hij hj
    by_cases e : j = m
    · simp only [if_pos e, if_neg (show ¬ i = m by omega)]; exact hne i (by omega)
    · simp only [if_neg e, if_neg (show ¬ i = m by omega)]; exact a4 i j hij (by omega)
  have hF' : ∀ j, j < m + 1 → ∃ ws, fol sv ln n y0 ws = some ((fun j => if j = m then z else st j) j) := by
    intro j hj
    by_cases e : j = m
    · simp only [if_pos e]; exact ⟨_, hzf⟩
    · simp only [if_neg e]; exact a3 j (by omega)
  refine t_look B hm hys hzs hN (fun hne => cnt_units g1 g2 g3 (m + 1) _ hF' (hT' hne)) (fun j hj hjz => ?_) (fun hne told' gone' places' B' => ?_)
  · rw [hidx]
    refine ⟨i_in (by omega) (by omega), ?_⟩
    rw [i_cl (by omega)]
    refine hK m st states told gone places _ (Nat.le_refl _) (fun _ _ => rfl) ⟨a1, a2, a3, a4, fun i v hi hv => ?_⟩ B (fun v h1 h2 => by rw [up_o _ _ (by omega)]; exact hrest v h1 h2)
    by_cases e : i = p ∧ v = w
    · obtain ⟨e1, e2⟩ := e
      subst e1 e2
      exact Or.inr ⟨j, hj, by rw [hjz]; exact hz, by rw [up_s]⟩
    · rw [up_o _ _ (by omega)]
      exact a5 i v hi (by omega)
  · rw [hidx]
    have hm1 := cnt_units g1 g2 g3 (m + 1) _ hF' (hT' hne)
    refine ⟨i_in (by omega) (by omega), ?_⟩
    rw [i_cl (by omega)]
    refine hK (m + 1) _ _ told' gone' places' _ (by omega) (fun j hj => by simp only [if_neg (show ¬ j = m by omega)]) ⟨?_, by omega, hF', hT' hne, fun i v hi hv => ?_⟩ B' (fun v h1 h2 => by rw [up_o _ _ (by omega)]; exact hrest v h1 h2)
    · simp only [if_neg (show ¬ 0 = m by omega)]; exact a1
    · have him : i < m := by omega
      simp only [if_neg (show ¬ i = m by omega)]
      by_cases e : i = p ∧ v = w
      · obtain ⟨e1, e2⟩ := e
        subst e1 e2
        refine Or.inr ⟨m, by omega, ?_, by rw [up_s]⟩
        simp only [if_pos trivial]
        exact hz
      · rw [up_o _ _ (by omega)]
        rcases a5 i v him (by omega) with q | ⟨j, h1, h2, h3⟩
        · exact Or.inl q
        · exact Or.inr ⟨j, by omega, by simp only [if_neg (show ¬ j = m by omega)]; exact h2, h3⟩
end FS
/-! the rows now and high over a step -/
theorem rev_last (u : Nat) (R : List Nat) : (u :: R).reverse.getD R.length 0 = u := by
  rw [List.reverse_cons, List.getD_eq_getElem?_getD, List.getElem?_append_right (by rw [List.length_reverse]; exact Nat.le_refl _), List.length_reverse, Nat.sub_self]
  rfl
theorem rev_low (u : Nat) (R : List Nat) {i : Nat} (h : i < R.length) : (u :: R).reverse.getD i 0 = R.reverse.getD i 0 := by
  rw [List.reverse_cons, List.getD_eq_getElem?_getD, List.getElem?_append_left (by rw [List.length_reverse]; exact h), List.getD_eq_getElem?_getD]
theorem NH_pop {y : YS} {now high : Nat → Int32} (h : NH y now high) {t u : Nat} {R : List Nat} (ht : t < 3) (hl : yt y t = u :: R) : NH (yset y t R) now (upd high t (nI R.length)) := by
  intro c hc
  by_cases e : c = t
  · subst e
    rw [yt_same _ hc, up_s]
    refine ⟨rfl, fun i hi => ?_⟩
    have := (h c hc).2 i (by rw [hl, List.length_cons]; omega)
    rw [this, hl, rev_low u R hi]
  · rw [yt_ne _ ht hc e, up_o _ _ e]
    exact h c hc
theorem NH_push {y : YS} {now high : Nat → Int32} (h : NH y now high) {t u : Nat} (ht : t < 3) (h5 : ∀ c, c < 3 → (yt y c).length ≤ 5) (h4 : (yt y t).length < 5) : NH (yset y t (u :: yt y t)) (upd now (5 * t + (yt y t).length) (nI (u - 1))) (upd high t (nI ((yt y t).length + 1))) := by
  intro c hc
  by_cases e : c = t
  · subst e
    rw [yt_same _ hc, up_s]
    refine ⟨by rw [List.length_cons], fun i hi => ?_⟩
    by_cases q : i = (yt y c).length
    · subst q; rw [up_s, rev_last]
    · rw [List.length_cons] at hi
      rw [up_o _ _ (by omega), rev_low _ _ (by omega)]
      exact (h c hc).2 i (by omega)
  · rw [yt_ne _ ht hc e, up_o _ _ e]
    refine ⟨(h c hc).1, fun i hi => ?_⟩
    have := h5 c hc
    rw [up_o _ _ (by omega)]
    exact (h c hc).2 i hi
theorem NH_top {y : YS} {now high : Nat → Int32} (h : NH y now high) {t u : Nat} {R : List Nat} (ht : t < 3) (hl : yt y t = u :: R) : high t = nI (R.length + 1) ∧ now (5 * t + R.length) = nI (u - 1) := by
  obtain ⟨h1, h2⟩ := h t ht
  rw [hl] at h1 h2
  refine ⟨h1, ?_⟩
  have := h2 R.length (by rw [List.length_cons]; omega)
  rw [rev_last] at this
  exact this
