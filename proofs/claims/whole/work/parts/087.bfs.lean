/-! the class's search -/
def cod (w : Nat) : Nat := if w < 3 then w else 10 + 3 * wfr w + wto w
/-- few enough: at most five stand, marks 1 .. 7 -/
def yk (y : YS) : Prop := (yt y 0).length + (yt y 1).length + (yt y 2).length ≤ 5 ∧ (∀ t, t < 3 → ∀ m ∈ yt y t, 1 ≤ m ∧ m ≤ 7) ∧ y.1 ≤ 5
theorem yk_ok {y : YS} (h : yk y) : yok y := by
  refine ⟨fun t ht => ⟨?_, h.2.1 t ht⟩, h.2.2⟩
  have := h.1
  rcases (show t = 0 ∨ t = 1 ∨ t = 2 by omega) with e | e | e <;> subst e <;> omega
theorem w_tracks : ∀ w : Fin 9, 3 ≤ w.val → wfr w.val < 3 ∧ wto w.val < 3 ∧ wto w.val ≠ wfr w.val := by decide
/-- the two forms of a step -/
theorem nxt_go {sv : Nat → Nat → Bool} {ln : Nat → Nat} {n : Nat} {y z : YS} {w : Nat} (hw : w < 3) : nxt sv ln n y w = some z ↔ y.1 < n ∧ ∃ u R, yt y w = u :: R ∧ sv u y.1 = true ∧ z = yinc (yset y w R) := by
  unfold nxt
  by_cases q : y.1 < n
  · rw [if_pos q, if_pos hw]
    cases hl : yt y w with
    | nil => simp
    | cons u R =>
      simp only
      by_cases hs : sv u y.1 = true
      · rw [if_pos hs]
        constructor
        · intro h; exact ⟨q, u, R, rfl, hs, (Option.some.inj h).symm⟩
        · rintro ⟨-, u', R', e, -, rfl⟩
          rw [(List.cons.inj e).2]
      · rw [if_neg hs]
        constructor
        · intro h; exact absurd h (by simp)
        · rintro ⟨-, u', R', e, h, -⟩
          rw [← (List.cons.inj e).1] at h; exact absurd h hs
  · rw [if_neg q]
    constructor
    · intro h; exact absurd h (by simp)
    · rintro ⟨h, -⟩; exact absurd h q
theorem nxt_sh {sv : Nat → Nat → Bool} {ln : Nat → Nat} {n : Nat} {y z : YS} {w : Nat} (hw : 3 ≤ w) : nxt sv ln n y w = some z ↔ y.1 < n ∧ ∃ u R, yt y (wfr w) = u :: R ∧ (yt y (wto w)).length < ln (wto w) ∧ z = yset (yset y (wfr w) R) (wto w) (u :: yt y (wto w)) := by
  unfold nxt
  by_cases q : y.1 < n
  · rw [if_pos q, if_neg (by omega)]
    cases hl : yt y (wfr w) with
    | nil => simp
    | cons u R =>
      simp only
      by_cases hs : (yt y (wto w)).length < ln (wto w)
      · rw [if_pos hs]
        constructor
        · intro h; exact ⟨q, u, R, rfl, hs, (Option.some.inj h).symm⟩
        · rintro ⟨-, u', R', e, -, rfl⟩
          rw [(List.cons.inj e).1, (List.cons.inj e).2]
      · rw [if_neg hs]
        constructor
        · intro h; exact absurd h (by simp)
        · rintro ⟨-, u', R', e, h, -⟩; exact absurd h hs
  · rw [if_neg q]
    constructor
    · intro h; exact absurd h (by simp)
    · rintro ⟨h, -⟩; exact absurd h q
theorem yt_inc (y : YS) (t : Nat) : yt (yinc y) t = yt y t := rfl
theorem nxt_yk {sv : Nat → Nat → Bool} {ln : Nat → Nat} {n : Nat} {y z : YS} {w : Nat} (hw9 : w < 9) (hn : n ≤ 5) (hy : yk y) (h : nxt sv ln n y w = some z) : yk z := by
  have hg := nxt_g h
  have hlt := nxt_lt h
  have hz5 : z.1 ≤ 5 := by unfold csh at hg; split at hg <;> omega
  by_cases hw : w < 3
  · obtain ⟨-, u, R, hl, -, rfl⟩ := (nxt_go hw).mp h
    refine ⟨?_, fun t ht m hm => ?_, hz5⟩
    · have h1 := hy.1
      simp only [yt_inc]
      rcases (show w = 0 ∨ w = 1 ∨ w = 2 by omega) with e | e | e
      · subst e; rw [yt_same y (by omega), yt_ne y (by omega) (by omega) (by omega), yt_ne y (by omega) (by omega) (by omega)]; rw [hl] at h1; simp at h1; omega
      · subst e; rw [yt_same y (by omega), yt_ne y (t := 1) (t' := 0) (by omega) (by omega) (by omega), yt_ne y (t := 1) (t' := 2) (by omega) (by omega) (by omega)]; rw [hl] at h1; simp at h1; omega
      · subst e; rw [yt_same y (by omega), yt_ne y (t := 2) (t' := 0) (by omega) (by omega) (by omega), yt_ne y (t := 2) (t' := 1) (by omega) (by omega) (by omega)]; rw [hl] at h1; simp at h1; omega
    · rw [yt_inc] at hm
      by_cases e : t = w
      · subst e; rw [yt_same y ht] at hm; exact hy.2.1 t ht m (by rw [hl]; exact List.mem_cons_of_mem _ hm)
      · rw [yt_ne y hw ht e] at hm; exact hy.2.1 t ht m hm
  · obtain ⟨-, u, R, hl, -, rfl⟩ := (nxt_sh (by omega)).mp h
    obtain ⟨f3, t3, hne⟩ := w_tracks ⟨w, hw9⟩ (by show 3 ≤ w; omega)
    simp only at f3 t3 hne
    generalize wfr w = a at *
    generalize wto w = b at *
    have sa : yt (yset (yset y a R) b (u :: yt y b)) a = R := by rw [yt_ne _ t3 f3 (fun e => hne e.symm), yt_same y f3]
    have sb : yt (yset (yset y a R) b (u :: yt y b)) b = u :: yt y b := yt_same _ t3 _
    have sc : ∀ t, t < 3 → t ≠ a → t ≠ b → yt (yset (yset y a R) b (u :: yt y b)) t = yt y t := fun t ht h1 h2 => by rw [yt_ne _ t3 ht h2, yt_ne y f3 ht h1]
    refine ⟨?_, fun t ht m hm => ?_, hz5⟩
    · have h1 := hy.1
      have hla : (yt y a).length = R.length + 1 := by rw [hl]; rfl
      rcases (show a = 0 ∨ a = 1 ∨ a = 2 by omega) with e | e | e <;> rcases (show b = 0 ∨ b = 1 ∨ b = 2 by omega) with e' | e' | e' <;> subst e <;> subst e' <;> first | exact absurd rfl hne | (first | rw [sa, sb, sc 2 (by omega) (by omega) (by omega)] | rw [sa, sb, sc 1 (by omega) (by omega) (by omega)] | rw [sa, sb, sc 0 (by omega) (by omega) (by omega)]; simp only [List.length_cons]; omega) | skip
      all_goals first | (simp only [List.length_cons]; omega) | skip
    · by_cases e1 : t = b
      · subst e1; rw [sb] at hm
        rcases List.mem_cons.mp hm with q | q
        · subst q; exact hy.2.1 a f3 m (by rw [hl]; exact List.mem_cons_self)
        · exact hy.2.1 t ht m q
      · by_cases e2 : t = a
        · subst e2; rw [sa] at hm; exact hy.2.1 t ht m (by rw [hl]; exact List.mem_cons_of_mem _ hm)
        · rw [sc t ht e2 e1] at hm; exact hy.2.1 t ht m hm
theorem fol_yk {sv : Nat → Nat → Bool} {ln : Nat → Nat} {n : Nat} (hn : n ≤ 5) : ∀ (ws : List Nat) (y z : YS), yk y → fol sv ln n y ws = some z → yk z
  | [], y, z, h, e => by simp only [fol, Option.some.injEq] at e; subst e; exact h
  | w :: r, y, z, h, e => by
    obtain ⟨x, h1, h2⟩ := fol_pre sv ln n [w] r y z e
    obtain ⟨hw, h3⟩ := fol_one h1
    exact fol_yk hn r x z (nxt_yk hw hn h h3) h2
theorem fol_gn {sv : Nat → Nat → Bool} {ln : Nat → Nat} {n : Nat} : ∀ (ws : List Nat) (y z : YS), y.1 ≤ n → fol sv ln n y ws = some z → z.1 ≤ n
  | [], y, z, h, e => by simp only [fol, Option.some.injEq] at e; subst e; exact h
  | w :: r, y, z, h, e => by
    obtain ⟨x, h1, h2⟩ := fol_pre sv ln n [w] r y z e
    obtain ⟨hw, h3⟩ := fol_one h1
    refine fol_gn r x z ?_ h2
    have h4 := nxt_g h3
    have h5 := nxt_lt h3
    omega
