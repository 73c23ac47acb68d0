/-! the reference's costs and its run -/
def csh (w : Nat) : Nat := if w < 3 then 0 else 1
def shc : List Nat → Nat
  | [] => 0
  | w :: r => csh w + shc r
theorem yset_g (y : YS) (t : Nat) (l : List Nat) : (yset y t l).1 = y.1 := by unfold yset; split <;> (try split) <;> rfl
theorem nxt_g {sv : Nat → Nat → Bool} {ln : Nat → Nat} {n : Nat} {y z : YS} {w : Nat} (h : nxt sv ln n y w = some z) : z.1 + csh w = y.1 + 1 := by
  unfold nxt at h
  by_cases q : y.1 < n
  · rw [if_pos q] at h
    by_cases hw : w < 3
    · rw [if_pos hw] at h
      unfold csh
      rw [if_pos hw]
      cases hl : yt y w with
      | nil => rw [hl] at h; exact absurd h (by simp)
      | cons u R =>
        rw [hl] at h
        simp only at h
        by_cases hs : sv u y.1 = true
        · rw [if_pos hs] at h
          rw [← Option.some.inj h]
          show (yset y w R).1 + 1 + 0 = y.1 + 1
          rw [yset_g]
        · rw [if_neg hs] at h; exact absurd h (by simp)
    · rw [if_neg hw] at h
      unfold csh
      rw [if_neg hw]
      cases hl : yt y (wfr w) with
      | nil => rw [hl] at h; exact absurd h (by simp)
      | cons u R =>
        rw [hl] at h
        simp only at h
        by_cases hs : (yt y (wto w)).length < ln (wto w)
        · rw [if_pos hs] at h
          rw [← Option.some.inj h, yset_g, yset_g]
        · rw [if_neg hs] at h; exact absurd h (by simp)
  · rw [if_neg q] at h; exact absurd h (by simp)
theorem fol_len {sv : Nat → Nat → Bool} {ln : Nat → Nat} {n : Nat} : ∀ (ws : List Nat) (y z : YS), fol sv ln n y ws = some z → z.1 + shc ws = y.1 + ws.length
  | [], y, z, h => by simp only [fol, Option.some.injEq] at h; subst h; rfl
  | w :: r, y, z, h => by
    obtain ⟨x, h1, h2⟩ := fol_pre sv ln n [w] r y z h
    have h3 := nxt_g (fol_one h1).2
    have h4 := fol_len r x z h2
    simp only [shc, List.length_cons]
    omega
theorem run_cons {sv : Nat → Nat → Bool} {ln : Nat → Nat} {n : Nat} {y : YS} {w : Nat} {r : List Nat} : isRun sv ln n y (w :: r) ↔ w < 9 ∧ ∃ z, nxt sv ln n y w = some z ∧ isRun sv ln n z r := by
  constructor
  · rintro ⟨z, h1, h2⟩
    obtain ⟨x, h3, h4⟩ := fol_pre sv ln n [w] r y z h1
    obtain ⟨h5, h6⟩ := fol_one h3
    exact ⟨h5, x, h6, z, h4, h2⟩
  · rintro ⟨h1, x, h2, z, h3, h4⟩
    exact ⟨z, by rw [show w :: r = [w] ++ r from rfl, fol_app sv ln n [w] r y x (fol_mk h1 h2)]; exact h3, h4⟩
theorem least_of (P : Nat → Prop) : ∀ b, P b → ∃ k, k ≤ b ∧ P k ∧ ∀ j, j < k → ¬ P j := by
  intro b hb
  obtain ⟨k, hk, hm⟩ := pk_least P ⟨b, hb⟩
  refine ⟨k, ?_, hk, hm⟩
  rcases Nat.lt_or_ge b k with q | q
  · exact absurd hb (hm b q)
  · exact q
section REF
variable {sv : Nat → Nat → Bool} {ln : Nat → Nat} {n m : Nat} {st : Nat → YS} {wy : Nat → Nat → Option Nat} {cost : Nat → Nat}
theorem ref_le (hway : ∀ s, s < m → ∀ w, w < 9 → ∀ z, nxt sv ln n (st s) w = some z → ∃ j, j < m ∧ wy s w = some j ∧ st j = z) (hC1 : ∀ s, s < m → (st s).1 = n → cost s = 0) (hC2 : ∀ s, s < m → ∀ w, w < 9 → ∀ j, wy s w = some j → cost s ≤ cost j + csh w) : ∀ (v : List Nat) (s : Nat), s < m → isRun sv ln n (st s) v → cost s ≤ shc v
  | [], s, hs, h => by
    obtain ⟨z, h1, h2⟩ := h
    simp only [fol, Option.some.injEq] at h1
    rw [hC1 s hs (by rw [h1]; exact h2)]
    exact Nat.zero_le _
  | w :: r, s, hs, h => by
    obtain ⟨hw, z, h1, h2⟩ := run_cons.mp h
    obtain ⟨j, hj, h3, h4⟩ := hway s hs w hw z h1
    have h5 := ref_le hway hC1 hC2 r j hj (by rw [h4]; exact h2)
    have h6 := hC2 s hs w hw j h3
    simp only [shc]
    omega
theorem ref_step (hway : ∀ s, s < m → ∀ w, w < 9 → ∀ z, nxt sv ln n (st s) w = some z → ∃ j, j < m ∧ wy s w = some j ∧ st j = z) (hwayN : ∀ s, s < m → ∀ w, w < 9 → nxt sv ln n (st s) w = none → wy s w = none) (hgn : ∀ s, s < m → (st s).1 ≤ n) (hC1 : ∀ s, s < m → (st s).1 = n → cost s = 0) (hC2 : ∀ s, s < m → ∀ w, w < 9 → ∀ j, wy s w = some j → cost s ≤ cost j + csh w) (hC3 : ∀ s, s < m → cost s < 100000 → ∃ v, isRun sv ln n (st s) v ∧ shc v = cost s)
    {s : Nat} (hs : s < m) (hg : (st s).1 < n) (hc : cost s < 100000) : ∃ w j, w < 9 ∧ j < m ∧ wy s w = some j ∧ cost j + csh w = cost s ∧ nxt sv ln n (st s) w = some (st j) ∧ (∀ w', w' < w → ∀ j', wy s w' = some j' → cost j' + csh w' ≠ cost s) ∧ ∀ r, isFirst sv ln n (st j) r → shc r = cost j → isFirst sv ln n (st s) (w :: r) := by
  have hle := ref_le hway hC1 hC2
  -- a step that is as good as any
  have good : ∀ v, isRun sv ln n (st s) v → shc v = cost s → ∃ w r j, v = w :: r ∧ w < 9 ∧ j < m ∧ wy s w = some j ∧ cost j + csh w = cost s ∧ nxt sv ln n (st s) w = some (st j) ∧ isRun sv ln n (st j) r := by
    intro v hv hvc
    cases v with
    | nil =>
      obtain ⟨z, h1, h2⟩ := hv
      simp only [fol, Option.some.injEq] at h1
      subst h1
      omega
    | cons w r =>
      obtain ⟨hw, z, h1, h2⟩ := run_cons.mp hv
      obtain ⟨j, hj, h3, h4⟩ := hway s hs w hw z h1
      have h5 := hle r j hj (by rw [h4]; exact h2)
      have h6 := hC2 s hs w hw j h3
      simp only [shc] at hvc
      exact ⟨w, r, j, rfl, hw, hj, h3, by omega, by rw [h4]; exact h1, by rw [h4]; exact h2⟩
  obtain ⟨v, hv, hvc⟩ := hC3 s hs hc
  obtain ⟨w0, r0, j0, -, hw0, -, hj0, hc0, -, -⟩ := good v hv hvc
  obtain ⟨w, hwb, ⟨j, hj, hjc⟩, hmin⟩ := least_of (fun w => ∃ j, wy s w = some j ∧ cost j + csh w = cost s) w0 ⟨j0, hj0, hc0⟩
  have hw9 : w < 9 := by omega
  cases hx : nxt sv ln n (st s) w with
  | none => rw [hwayN s hs w hw9 hx] at hj; exact absurd hj (by simp)
  | some z =>
    obtain ⟨j2, h1, h2, h3⟩ := hway s hs w hw9 z hx
    rw [hj] at h2
    have e := Option.some.inj h2
    subst e
    refine ⟨w, j, hw9, h1, hj, hjc, by rw [h3]; exact hx, fun w' hw' j' hj' he => hmin w' hw' ⟨j', hj', he⟩, fun r hr hrc => ⟨run_cons.mpr ⟨hw9, z, hx, by rw [← h3]; exact hr.1⟩, fun v hv => ?_⟩⟩
    obtain ⟨zr, hzr1, hzr2⟩ := hr.1
    have hrl := fol_len r (st j) zr hzr1
    obtain ⟨zv, hzv1, hzv2⟩ := hv
    have hvl := fol_len v (st s) zv hzv1
    have hvle := hle v s hs ⟨zv, hzv1, hzv2⟩
    have hg1 := nxt_g hx
    rw [← h3] at hg1
    rcases Nat.lt_or_ge (cost s) (shc v) with q | q
    · left
      simp only [List.length_cons]
      omega
    · have hvc : shc v = cost s := by omega
      obtain ⟨w', r', j', rfl, hw', hj1, hj2, hj3, hj4, hj5⟩ := good v ⟨zv, hzv1, hzv2⟩ hvc
      right
      refine ⟨by simp only [List.length_cons] at hvl ⊢; omega, ?_⟩
      rcases Nat.lt_trichotomy w w' with z1 | z1 | z1
      · exact Or.inl z1
      · subst z1
        rw [hj] at hj2
        have e := Option.some.inj hj2
        subst e
        refine Or.inr ⟨rfl, ?_⟩
        rcases hr.2 r' hj5 with z2 | ⟨-, z2⟩
        · exfalso
          simp only [List.length_cons, shc] at hvl hvc
          omega
        · exact z2
      · exact absurd ⟨j', hj2, hj3⟩ (hmin w' z1)
theorem ref_first (hway : ∀ s, s < m → ∀ w, w < 9 → ∀ z, nxt sv ln n (st s) w = some z → ∃ j, j < m ∧ wy s w = some j ∧ st j = z) (hwayN : ∀ s, s < m → ∀ w, w < 9 → nxt sv ln n (st s) w = none → wy s w = none) (hgn : ∀ s, s < m → (st s).1 ≤ n) (hC1 : ∀ s, s < m → (st s).1 = n → cost s = 0) (hC2 : ∀ s, s < m → ∀ w, w < 9 → ∀ j, wy s w = some j → cost s ≤ cost j + csh w) (hC3 : ∀ s, s < m → cost s < 100000 → ∃ v, isRun sv ln n (st s) v ∧ shc v = cost s) : ∀ (l s : Nat), s < m → cost s < 100000 → cost s + (n - (st s).1) = l → ∃ r, isFirst sv ln n (st s) r ∧ shc r = cost s ∧ r.length = l := by
  intro l
  induction l with
  | zero =>
    intro s hs hc hl
    have := hgn s hs
    have hn : (st s).1 = n := by omega
    refine ⟨[], ⟨⟨st s, rfl, hn⟩, fun v _ => ?_⟩, by rw [hC1 s hs hn]; rfl, rfl⟩
    cases v with
    | nil => exact sl_refl _
    | cons a v => exact Or.inl (by simp)
  | succ l ih =>
    intro s hs hc hl
    have h1 := hgn s hs
    by_cases hn : (st s).1 = n
    · have := hC1 s hs hn
      omega
    · obtain ⟨w, j, hw, hj, h2, h3, h4, -, h5⟩ := ref_step hway hwayN hgn hC1 hC2 hC3 hs (by omega) hc
      have h6 := nxt_g h4
      have h7 := hgn j hj
      obtain ⟨r, hr1, hr2, hr3⟩ := ih j hj (by omega) (by omega)
      exact ⟨w :: r, h5 r hr1 hr2, by simp only [shc]; omega, by simp only [List.length_cons]; omega⟩
end REF
