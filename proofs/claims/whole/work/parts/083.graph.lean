/-! the yard as a graph: states, steps 0 .. 8, runs, the order of runs -/
abbrev YS : Type := Nat × List Nat × List Nat × List Nat
def yt (y : YS) (t : Nat) : List Nat := if t = 0 then y.2.1 else if t = 1 then y.2.2.1 else y.2.2.2
def yset (y : YS) (t : Nat) (l : List Nat) : YS := if t = 0 then (y.1, l, y.2.2.1, y.2.2.2) else if t = 1 then (y.1, y.2.1, l, y.2.2.2) else (y.1, y.2.1, y.2.2.1, l)
def yinc (y : YS) : YS := (y.1 + 1, y.2.1, y.2.2.1, y.2.2.2)
def wfr (w : Nat) : Nat := (w - 3) / 2
def wto (w : Nat) : Nat := if (w - 3) % 2 < (w - 3) / 2 then (w - 3) % 2 else (w - 3) % 2 + 1
def nxt (sv : Nat → Nat → Bool) (ln : Nat → Nat) (n : Nat) (y : YS) (w : Nat) : Option YS :=
  if y.1 < n then
    if w < 3 then (match yt y w with
      | [] => none
      | u :: R => if sv u y.1 then some (yinc (yset y w R)) else none)
    else (match yt y (wfr w) with
      | [] => none
      | u :: R => if (yt y (wto w)).length < ln (wto w) then some (yset (yset y (wfr w) R) (wto w) (u :: yt y (wto w))) else none)
  else none
def fol (sv : Nat → Nat → Bool) (ln : Nat → Nat) (n : Nat) : YS → List Nat → Option YS
  | y, [] => some y
  | y, w :: r => if w < 9 then (match nxt sv ln n y w with
      | none => none
      | some z => fol sv ln n z r) else none
def isRun (sv : Nat → Nat → Bool) (ln : Nat → Nat) (n : Nat) (y : YS) (ws : List Nat) : Prop := ∃ z, fol sv ln n y ws = some z ∧ z.1 = n
theorem fol_app (sv : Nat → Nat → Bool) (ln : Nat → Nat) (n : Nat) : ∀ (a b : List Nat) (y z : YS), fol sv ln n y a = some z → fol sv ln n y (a ++ b) = fol sv ln n z b
  | [], b, y, z, h => by simp only [fol, Option.some.injEq] at h; subst h; rfl
  | w :: a, b, y, z, h => by
    simp only [List.cons_append, fol] at h ⊢
    by_cases hw : w < 9
    · rw [if_pos hw] at h ⊢
      cases hx : nxt sv ln n y w with
      | none => rw [hx] at h; exact absurd h (by simp)
      | some x => rw [hx] at h; exact fol_app sv ln n a b x z h
    · rw [if_neg hw] at h; exact absurd h (by simp)
theorem fol_pre (sv : Nat → Nat → Bool) (ln : Nat → Nat) (n : Nat) : ∀ (a b : List Nat) (y z : YS), fol sv ln n y (a ++ b) = some z → ∃ x, fol sv ln n y a = some x ∧ fol sv ln n x b = some z
  | [], b, y, z, h => ⟨y, rfl, h⟩
  | w :: a, b, y, z, h => by
    simp only [List.cons_append, fol] at h ⊢
    by_cases hw : w < 9
    · rw [if_pos hw] at h ⊢
      cases hx : nxt sv ln n y w with
      | none => rw [hx] at h; exact absurd h (by simp)
      | some x => rw [hx] at h; exact fol_pre sv ln n a b x z h
    · rw [if_neg hw] at h; exact absurd h (by simp)
theorem fol_one {sv : Nat → Nat → Bool} {ln : Nat → Nat} {n : Nat} {y z : YS} {w : Nat} (h : fol sv ln n y [w] = some z) : w < 9 ∧ nxt sv ln n y w = some z := by
  simp only [fol] at h
  by_cases hw : w < 9
  · rw [if_pos hw] at h
    refine ⟨hw, ?_⟩
    cases hx : nxt sv ln n y w with
    | none => rw [hx] at h; exact absurd h (by simp)
    | some x => rw [hx] at h; exact h
  · rw [if_neg hw] at h; exact absurd h (by simp)
theorem fol_mk {sv : Nat → Nat → Bool} {ln : Nat → Nat} {n : Nat} {y z : YS} {w : Nat} (hw : w < 9) (h : nxt sv ln n y w = some z) : fol sv ln n y [w] = some z := by
  simp only [fol]; rw [if_pos hw, h]
theorem nxt_lt {sv : Nat → Nat → Bool} {ln : Nat → Nat} {n : Nat} {y z : YS} {w : Nat} (h : nxt sv ln n y w = some z) : y.1 < n := by
  unfold nxt at h
  by_cases q : y.1 < n
  · exact q
  · rw [if_neg q] at h; exact absurd h (by simp)
/-! the order: shorter ones first, then step by step -/
def lxl : List Nat → List Nat → Prop
  | [], _ => True
  | _ :: _, [] => False
  | x :: a, y :: b => x < y ∨ (x = y ∧ lxl a b)
def lxt : List Nat → List Nat → Prop
  | _, [] => False
  | [], _ :: _ => True
  | x :: a, y :: b => x < y ∨ (x = y ∧ lxt a b)
def sl (a b : List Nat) : Prop := a.length < b.length ∨ (a.length = b.length ∧ lxl a b)
def slt (a b : List Nat) : Prop := a.length < b.length ∨ (a.length = b.length ∧ lxt a b)
theorem lxl_refl : ∀ a, lxl a a
  | [] => trivial
  | _ :: a => Or.inr ⟨rfl, lxl_refl a⟩
theorem lxl_trans : ∀ a b c, a.length = b.length → b.length = c.length → lxl a b → lxl b c → lxl a c
  | [], _, _, _, _, _, _ => trivial
  | _ :: _, [], _, h, _, _, _ => absurd h (by simp)
  | _ :: _, _ :: _, [], _, h, _, _ => absurd h (by simp)
  | x :: a, y :: b, z :: c, h1, h2, h3, h4 => by
    simp only [lxl] at h3 h4 ⊢
    simp only [List.length_cons, Nat.add_right_cancel_iff] at h1 h2
    rcases h3 with h3 | ⟨e3, h3⟩
    · rcases h4 with h4 | ⟨e4, h4⟩
      · exact Or.inl (by omega)
      · exact Or.inl (by omega)
    · rcases h4 with h4 | ⟨e4, h4⟩
      · exact Or.inl (by omega)
      · exact Or.inr ⟨by omega, lxl_trans a b c h1 h2 h3 h4⟩
theorem lxl_anti : ∀ a b, a.length = b.length → lxl a b → lxl b a → a = b
  | [], [], _, _, _ => rfl
  | [], _ :: _, h, _, _ => absurd h (by simp)
  | _ :: _, [], h, _, _ => absurd h (by simp)
  | x :: a, y :: b, h, h1, h2 => by
    simp only [lxl] at h1 h2
    simp only [List.length_cons, Nat.add_right_cancel_iff] at h
    have e : x = y := by rcases h1 with q | q <;> rcases h2 with r | r <;> omega
    subst e
    rcases h1 with q | ⟨-, q⟩
    · omega
    · rcases h2 with r | ⟨-, r⟩
      · omega
      · rw [lxl_anti a b h q r]
theorem sl_refl (a : List Nat) : sl a a := Or.inr ⟨rfl, lxl_refl a⟩
theorem sl_trans {a b c : List Nat} (h1 : sl a b) (h2 : sl b c) : sl a c := by
  rcases h1 with h1 | ⟨e1, h1⟩ <;> rcases h2 with h2 | ⟨e2, h2⟩
  · exact Or.inl (by omega)
  · exact Or.inl (by omega)
  · exact Or.inl (by omega)
  · exact Or.inr ⟨by omega, lxl_trans a b c e1 e2 h1 h2⟩
theorem sl_anti {a b : List Nat} (h1 : sl a b) (h2 : sl b a) : a = b := by
  rcases h1 with h1 | ⟨e1, h1⟩ <;> rcases h2 with h2 | ⟨e2, h2⟩
  · omega
  · omega
  · omega
  · exact lxl_anti a b e1 h1 h2
theorem lxt_lxl : ∀ a b, lxt a b → lxl a b
  | [], _, _ => trivial
  | _ :: _, [], h => h.elim
  | x :: a, y :: b, h => by
    simp only [lxt] at h
    simp only [lxl]
    rcases h with h | ⟨e, h⟩
    · exact Or.inl h
    · exact Or.inr ⟨e, lxt_lxl a b h⟩
theorem slt_sl {a b : List Nat} (h : slt a b) : sl a b := by
  rcases h with h | ⟨e, h⟩
  · exact Or.inl h
  · exact Or.inr ⟨e, lxt_lxl a b h⟩
theorem lxl_app : ∀ (a b : List Nat) (w : Nat), a.length = b.length → lxl a b → lxl (a ++ [w]) (b ++ [w])
  | [], [], w, _, _ => lxl_refl _
  | [], _ :: _, _, h, _ => absurd h (by simp)
  | _ :: _, [], _, h, _ => absurd h (by simp)
  | x :: a, y :: b, w, h, h1 => by
    simp only [List.cons_append, lxl] at h1 ⊢
    simp only [List.length_cons, Nat.add_right_cancel_iff] at h
    rcases h1 with h1 | ⟨e, h1⟩
    · exact Or.inl h1
    · exact Or.inr ⟨e, lxl_app a b w h h1⟩
theorem lxt_app : ∀ (a b : List Nat) (w v : Nat), a.length = b.length → lxt a b → lxt (a ++ [w]) (b ++ [v])
  | [], [], _, _, _, h => h.elim
  | [], _ :: _, _, _, h, _ => absurd h (by simp)
  | _ :: _, [], _, _, h, _ => absurd h (by simp)
  | x :: a, y :: b, w, v, h, h1 => by
    simp only [List.cons_append, lxt] at h1 ⊢
    simp only [List.length_cons, Nat.add_right_cancel_iff] at h
    rcases h1 with h1 | ⟨e, h1⟩
    · exact Or.inl h1
    · exact Or.inr ⟨e, lxt_app a b w v h h1⟩
theorem lxt_last : ∀ (a : List Nat) {w v : Nat}, w < v → lxt (a ++ [w]) (a ++ [v])
  | [], _, _, h => Or.inl h
  | _ :: a, _, _, h => Or.inr ⟨rfl, lxt_last a h⟩
theorem sl_snoc {a b : List Nat} (w : Nat) (h : sl a b) : sl (a ++ [w]) (b ++ [w]) := by
  rcases h with h | ⟨e, h⟩
  · exact Or.inl (by simp; omega)
  · exact Or.inr ⟨by simp; omega, lxl_app a b w e h⟩
theorem slt_snoc {a b : List Nat} (w v : Nat) (h : slt a b) : slt (a ++ [w]) (b ++ [v]) := by
  rcases h with h | ⟨e, h⟩
  · exact Or.inl (by simp; omega)
  · exact Or.inr ⟨by simp; omega, lxt_app a b w v e h⟩
theorem slt_last (a : List Nat) {w v : Nat} (h : w < v) : slt (a ++ [w]) (a ++ [v]) := Or.inr ⟨by simp, lxt_last a h⟩
theorem lxt_lxl_trans : ∀ a b c, a.length = b.length → b.length = c.length → lxt a b → lxl b c → lxt a c
  | [], [], _, _, _, h, _ => (show False from h).elim
  | _ :: _, [], _, h, _, _, _ => absurd h (by simp)
  | [], _ :: _, _, h, _, _, _ => absurd h (by simp)
  | _ :: _, _ :: _, [], _, h, _, _ => absurd h (by simp)
  | x :: a, y :: b, z :: c, h1, h2, h3, h4 => by
    simp only [lxt, lxl] at h3 h4 ⊢
    simp only [List.length_cons, Nat.add_right_cancel_iff] at h1 h2
    rcases h3 with h3 | ⟨e3, h3⟩
    · rcases h4 with h4 | ⟨e4, h4⟩
      · exact Or.inl (by omega)
      · exact Or.inl (by omega)
    · rcases h4 with h4 | ⟨e4, h4⟩
      · exact Or.inl (by omega)
      · exact Or.inr ⟨by omega, lxt_lxl_trans a b c h1 h2 h3 h4⟩
theorem slt_sl_trans {a b c : List Nat} (h1 : slt a b) (h2 : sl b c) : slt a c := by
  rcases h1 with h1 | ⟨e1, h1⟩ <;> rcases h2 with h2 | ⟨e2, h2⟩
  · exact Or.inl (by omega)
  · exact Or.inl (by omega)
  · exact Or.inl (by omega)
  · exact Or.inr ⟨by omega, lxt_lxl_trans a b c e1 e2 h1 h2⟩
theorem sl_pre {a b c : List Nat} (h : sl a b) : sl a (b ++ c) := by
  cases c with
  | nil => rw [List.append_nil]; exact h
  | cons x c =>
    left
    rcases h with h | ⟨e, h⟩
    · simp; omega
    · simp; omega
/-- the first of all runs -/
def isFirst (sv : Nat → Nat → Bool) (ln : Nat → Nat) (n : Nat) (y : YS) (ws : List Nat) : Prop := isRun sv ln n y ws ∧ ∀ v, isRun sv ln n y v → sl ws v
theorem first_one {sv : Nat → Nat → Bool} {ln : Nat → Nat} {n : Nat} {y : YS} {a b : List Nat} (ha : isFirst sv ln n y a) (hb : isFirst sv ln n y b) : a = b := sl_anti (ha.2 b hb.1) (hb.2 a ha.1)
/-! a search by the number of steps: m states met, each by a path; all below p are done -/
section BFS
variable {sv : Nat → Nat → Bool} {ln : Nat → Nat} {n : Nat} {y0 : YS} {m p : Nat} {st : Nat → YS} {pth : Nat → List Nat} {par : Nat → Nat}
theorem bfs_first (h0 : st 0 = y0 ∧ pth 0 = []) (hm : 0 < m) (hfol : ∀ j, j < m → fol sv ln n y0 (pth j) = some (st j)) (hpar : ∀ j, 0 < j → j < m → par j < p ∧ ∃ w, pth j = pth (par j) ++ [w]) (hsort : ∀ i j, i < j → j < m → slt (pth i) (pth j))
    (hdone : ∀ i, i < p → ∀ w, w < 9 → ∀ z, nxt sv ln n (st i) w = some z → ∃ j, j < m ∧ st j = z ∧ sl (pth j) (pth i ++ [w])) {g : Nat} (hg : g < m) (hgn : (st g).1 = n) (hfst : ∀ j, j < m → (st j).1 = n → g ≤ j) : isFirst sv ln n y0 (pth g) := by
  refine ⟨⟨st g, hfol g hg, hgn⟩, ?_⟩
  rintro v ⟨z, hz, hzn⟩
  have key : ∀ k, k ≤ v.length → sl (pth g) v ∨ ∃ j, j < m ∧ sl (pth j) (v.take k) ∧ fol sv ln n (st j) (v.drop k) = some z := by
    intro k
    induction k with
    | zero =>
      intro _
      refine Or.inr ⟨0, hm, ?_, ?_⟩
      · rw [h0.2]; exact sl_refl _
      · rw [h0.1]; exact hz
    | succ k ih =>
      intro hk
      rcases ih (by omega) with q | ⟨j, hj, hs, hf⟩
      · exact Or.inl q
      · have hkl : k < v.length := by omega
        rw [List.drop_eq_getElem_cons hkl] at hf
        obtain ⟨x, hx1, hx2⟩ := fol_pre sv ln n [v[k]] (v.drop (k + 1)) (st j) z hf
        obtain ⟨hw, hx3⟩ := fol_one hx1
        have htk : v.take (k + 1) = v.take k ++ [v[k]] := List.take_succ_eq_append_getElem hkl
        by_cases hjp : j < p
        · obtain ⟨j2, h1, h2, h3⟩ := hdone j hjp v[k] hw x hx3
          refine Or.inr ⟨j2, h1, ?_, by rw [h2]; exact hx2⟩
          rw [htk]
          exact sl_trans h3 (sl_snoc _ hs)
        · left
          by_cases hg0 : g = 0
          · subst hg0; rw [h0.2]
            cases v with
            | nil => exact sl_refl _
            | cons a v => exact Or.inl (by simp)
          · obtain ⟨hp1, w, hw2⟩ := hpar g (by omega) hg
            have h1 : slt (pth (par g)) (pth j) := hsort _ _ (by omega) hj
            have h2 : slt (pth (par g)) (v.take k) := slt_sl_trans h1 hs
            have h3 : sl (pth g) (v.take (k + 1)) := by rw [hw2, htk]; exact slt_sl (slt_snoc _ _ h2)
            have h4 := sl_pre (c := v.drop (k + 1)) h3
            rw [List.take_append_drop] at h4
            exact h4
  rcases key v.length (Nat.le_refl _) with q | ⟨j, hj, hs, hf⟩
  · exact q
  · rw [List.drop_length] at hf
    simp only [fol, Option.some.injEq] at hf
    rw [List.take_length] at hs
    have hgj := hfst j hj (by rw [hf]; exact hzn)
    rcases Nat.lt_or_ge g j with q | q
    · exact sl_trans (slt_sl (hsort g j q hj)) hs
    · have : g = j := by omega
      subst this
      exact hs
theorem bfs_none (h0 : st 0 = y0) (hm : 0 < m) (hdone : ∀ i, i < m → ∀ w, w < 9 → ∀ z, nxt sv ln n (st i) w = some z → ∃ j, j < m ∧ st j = z) (hno : ∀ j, j < m → (st j).1 ≠ n) : ∀ v, ¬ isRun sv ln n y0 v := by
  rintro v ⟨z, hz, hzn⟩
  have key : ∀ (v : List Nat) (j : Nat), j < m → fol sv ln n (st j) v = some z → False := by
    intro v
    induction v with
    | nil =>
      intro j hj h
      simp only [fol, Option.some.injEq] at h
      exact hno j hj (by rw [h]; exact hzn)
    | cons w v ih =>
      intro j hj h
      obtain ⟨x, h1, h2⟩ := fol_pre sv ln n [w] v (st j) z h
      obtain ⟨hw, h3⟩ := fol_one h1
      obtain ⟨j2, h4, h5⟩ := hdone j hj w hw x h3
      exact ih j2 h4 (by rw [h5]; exact h2)
  exact key v 0 hm (by rw [h0]; exact hz)
end BFS
