/-! how many arrangements there are -/
abbrev TS : Type := List Nat × List Nat × List Nat
def cat (t : TS) : List Nat := t.1 ++ (t.2.1 ++ t.2.2)
def insL (u : Nat) : List Nat → List (List Nat)
  | [] => [[u]]
  | x :: l => (u :: x :: l) :: (insL u l).map (fun r => x :: r)
def insT (u : Nat) (t : TS) : List TS := (insL u t.1).map (fun r => (r, t.2.1, t.2.2)) ++ ((insL u t.2.1).map (fun r => (t.1, r, t.2.2)) ++ (insL u t.2.2).map (fun r => (t.1, t.2.1, r)))
theorem insL_len (u : Nat) : ∀ l, (insL u l).length = l.length + 1
  | [] => rfl
  | x :: l => by simp only [insL, List.length_cons, List.length_map, insL_len u l]
theorem insL_mem (u : Nat) : ∀ a b, a ++ u :: b ∈ insL u (a ++ b)
  | [], [] => List.mem_cons_self
  | [], x :: b => List.mem_cons_self
  | x :: a, b => List.mem_cons_of_mem _ (List.mem_map.mpr ⟨a ++ u :: b, insL_mem u a b, rfl⟩)
theorem insL_l (u : Nat) : ∀ l r, r ∈ insL u l → r.length = l.length + 1
  | [], r, h => by simp only [insL, List.mem_singleton] at h; subst h; rfl
  | x :: l, r, h => by
    simp only [insL, List.mem_cons, List.mem_map] at h
    rcases h with rfl | ⟨s, hs, rfl⟩
    · rfl
    · simp only [List.length_cons, insL_l u l s hs]
theorem insT_len (u : Nat) (t : TS) : (insT u t).length = (cat t).length + 3 := by
  simp only [insT, cat, List.length_append, List.length_map, insL_len]; omega
theorem insT_l (u : Nat) (t r : TS) (h : r ∈ insT u t) : (cat r).length = (cat t).length + 1 := by
  simp only [insT, List.mem_append, List.mem_map] at h
  rcases h with ⟨s, hs, rfl⟩ | ⟨s, hs, rfl⟩ | ⟨s, hs, rfl⟩ <;> (have := insL_l u _ s hs; simp only [cat, List.length_append]; omega)
/-- a member may be taken out -/
theorem cat_out {u : Nat} {t : TS} (h : u ∈ cat t) : ∃ t', t ∈ insT u t' ∧ (cat t).Perm (u :: cat t') := by
  obtain ⟨a, b, c⟩ := t
  simp only [cat, List.mem_append] at h
  rcases h with h | h | h
  · obtain ⟨l1, l2, rfl⟩ := List.append_of_mem h
    refine ⟨(l1 ++ l2, b, c), List.mem_append.mpr (Or.inl (List.mem_map.mpr ⟨_, insL_mem u l1 l2, rfl⟩)), ?_⟩
    show ((l1 ++ u :: l2) ++ (b ++ c)).Perm (u :: ((l1 ++ l2) ++ (b ++ c)))
    rw [List.append_assoc, List.append_assoc]
    exact List.perm_middle
  · obtain ⟨l1, l2, rfl⟩ := List.append_of_mem h
    refine ⟨(a, l1 ++ l2, c), List.mem_append.mpr (Or.inr (List.mem_append.mpr (Or.inl (List.mem_map.mpr ⟨_, insL_mem u l1 l2, rfl⟩)))), ?_⟩
    show (a ++ ((l1 ++ u :: l2) ++ c)).Perm (u :: (a ++ ((l1 ++ l2) ++ c)))
    have h1 : a ++ ((l1 ++ u :: l2) ++ c) = (a ++ l1) ++ u :: (l2 ++ c) := by simp
    have h2 : a ++ ((l1 ++ l2) ++ c) = (a ++ l1) ++ (l2 ++ c) := by simp
    rw [h1, h2]
    exact List.perm_middle
  · obtain ⟨l1, l2, rfl⟩ := List.append_of_mem h
    refine ⟨(a, b, l1 ++ l2), List.mem_append.mpr (Or.inr (List.mem_append.mpr (Or.inr (List.mem_map.mpr ⟨_, insL_mem u l1 l2, rfl⟩)))), ?_⟩
    show (a ++ (b ++ (l1 ++ u :: l2))).Perm (u :: (a ++ (b ++ (l1 ++ l2))))
    rw [← List.append_assoc, ← List.append_assoc, ← List.append_assoc, ← List.append_assoc]
    exact List.perm_middle
/-- all arrangements of a row -/
def arrP : List Nat → List TS
  | [] => [([], [], [])]
  | u :: L => (arrP L).flatMap (insT u)
def rf : Nat → Nat
  | 0 => 1
  | k + 1 => (k + 3) * rf k
theorem arrP_l : ∀ L t, t ∈ arrP L → (cat t).length = L.length
  | [], t, h => by simp only [arrP, List.mem_singleton] at h; subst h; rfl
  | u :: L, t, h => by
    simp only [arrP, List.mem_flatMap] at h
    obtain ⟨s, hs, h⟩ := h
    rw [insT_l u s t h, arrP_l L s hs, List.length_cons]
theorem fm_len (u k : Nat) : ∀ (E : List TS), (∀ t ∈ E, (cat t).length = k) → (E.flatMap (insT u)).length = (k + 3) * E.length
  | [], _ => rfl
  | t :: E, h => by
    rw [List.flatMap_cons, List.length_append, insT_len, h t List.mem_cons_self, fm_len u k E (fun s hs => h s (List.mem_cons_of_mem _ hs)), List.length_cons, Nat.mul_succ]
    omega
theorem arrP_len : ∀ L, (arrP L).length = rf L.length
  | [] => rfl
  | u :: L => by
    show ((arrP L).flatMap (insT u)).length = _
    rw [fm_len u L.length _ (fun t ht => arrP_l L t ht), arrP_len L]
    rfl
theorem arrP_mem : ∀ (L : List Nat) (t : TS), (cat t).Perm L → t ∈ arrP L
  | [], t, h => by
    have := h.eq_nil
    obtain ⟨a, b, c⟩ := t
    simp only [cat, List.append_eq_nil_iff] at this
    obtain ⟨rfl, rfl, rfl⟩ := this
    exact List.mem_cons_self
  | u :: L, t, h => by
    obtain ⟨t', h1, h2⟩ := cat_out (h.mem_iff.mpr List.mem_cons_self)
    exact List.mem_flatMap.mpr ⟨t', arrP_mem L t' (List.Perm.cons_inv (h2.symm.trans h)), h1⟩
/-- all arrangements of parts of a row -/
def arrS : List Nat → List TS
  | [] => [([], [], [])]
  | u :: L => arrS L ++ (arrS L).flatMap (insT u)
theorem arrS_mem : ∀ (L : List Nat) (t : TS), (cat t).Nodup → (∀ x ∈ cat t, x ∈ L) → t ∈ arrS L
  | [], t, _, h => by
    have : cat t = [] := List.eq_nil_iff_forall_not_mem.mpr (fun x hx => List.not_mem_nil (h x hx))
    obtain ⟨a, b, c⟩ := t
    simp only [cat, List.append_eq_nil_iff] at this
    obtain ⟨rfl, rfl, rfl⟩ := this
    exact List.mem_cons_self
  | u :: L, t, hn, h => by
    by_cases hu : u ∈ cat t
    · obtain ⟨t', h1, h2⟩ := cat_out hu
      have hn' := (h2.nodup_iff).mp hn
      refine List.mem_append.mpr (Or.inr (List.mem_flatMap.mpr ⟨t', arrS_mem L t' (List.nodup_cons.mp hn').2 (fun x hx => ?_), h1⟩))
      have := h x (h2.mem_iff.mpr (List.mem_cons_of_mem _ hx))
      rcases List.mem_cons.mp this with q | q
      · subst q; exact absurd hx (List.nodup_cons.mp hn').1
      · exact q
    · refine List.mem_append.mpr (Or.inl (arrS_mem L t hn (fun x hx => ?_)))
      rcases List.mem_cons.mp (h x hx) with q | q
      · subst q; exact absurd hx hu
      · exact q
theorem arrS_5 : (arrS [1, 2, 3, 4, 5]).length = 5056 := by decide +kernel
theorem pig {α : Type} [DecidableEq α] (E : List α) (m : Nat) (st : Nat → α) (hm : ∀ j, j < m → st j ∈ E) (hd : ∀ i j, i < j → j < m → st i ≠ st j) : m ≤ E.length := by
  refine holes E.length m (fun i => E.idxOf (st i)) (fun i hi => List.idxOf_lt_length_of_mem (hm i hi)) (fun i j hij hj e => hd i j hij hj ?_)
  have h1 := List.getElem_idxOf (List.idxOf_lt_length_of_mem (hm i (by omega)))
  have h2 := List.getElem_idxOf (List.idxOf_lt_length_of_mem (hm j hj))
  rw [← h1, ← h2]
  congr 1
/-! what stands, over a step -/
theorem yset_id (y : YS) {t : Nat} (ht : t < 3) : yset y t (yt y t) = y := by
  rcases (show t = 0 ∨ t = 1 ∨ t = 2 by omega) with e | e | e <;> subst e <;> rfl
theorem yset2 (y : YS) {t : Nat} (ht : t < 3) (l l' : List Nat) : yset (yset y t l) t l' = yset y t l' := by
  rcases (show t = 0 ∨ t = 1 ∨ t = 2 by omega) with e | e | e <;> subst e <;> rfl
theorem cat_yset (y : YS) {t : Nat} (ht : t < 3) (u : Nat) (l : List Nat) : (cat (yset y t (u :: l)).2).Perm (u :: cat (yset y t l).2) := by
  obtain ⟨g, a, b, c⟩ := y
  rcases (show t = 0 ∨ t = 1 ∨ t = 2 by omega) with e | e | e <;> subst e
  · exact List.Perm.refl _
  · show (a ++ (u :: l ++ c)).Perm (u :: (a ++ (l ++ c)))
    exact List.perm_middle
  · show (a ++ (b ++ (u :: l))).Perm (u :: (a ++ (b ++ l)))
    rw [← List.append_assoc, ← List.append_assoc]
    exact List.perm_middle
theorem cat_pop {y : YS} {t : Nat} (ht : t < 3) {u : Nat} {R : List Nat} (h : yt y t = u :: R) : (cat y.2).Perm (u :: cat (yset y t R).2) := by
  have := cat_yset y ht u R
  rw [← h, yset_id y ht] at this
  exact this
theorem cat_move {y : YS} {a b : Nat} (ha : a < 3) (hb : b < 3) (hne : b ≠ a) {u : Nat} {R : List Nat} (h : yt y a = u :: R) : (cat (yset (yset y a R) b (u :: yt y b)).2).Perm (cat y.2) := by
  have h1 := cat_yset (yset y a R) hb u (yt y b)
  have h2 : yset (yset y a R) b (yt y b) = yset y a R := by rw [← yt_ne y ha hb hne R, yset_id _ hb]
  rw [h2] at h1
  exact h1.trans (cat_pop ha h).symm
/-- what a step does to what stands -/
theorem nxt_cat {sv : Nat → Nat → Bool} {ln : Nat → Nat} {n : Nat} {y z : YS} {w : Nat} (hw9 : w < 9) (h : nxt sv ln n y w = some z) : (z.1 = y.1 ∧ (cat z.2).Perm (cat y.2)) ∨ (z.1 = y.1 + 1 ∧ y.1 < n ∧ ∃ u, sv u y.1 = true ∧ (cat y.2).Perm (u :: cat z.2)) := by
  by_cases hw : w < 3
  · obtain ⟨h0, u, R, hl, hs, rfl⟩ := (nxt_go hw).mp h
    refine Or.inr ⟨by show (yset y w R).1 + 1 = _; rw [yset_g], h0, u, hs, cat_pop hw hl⟩
  · obtain ⟨h0, u, R, hl, hs, rfl⟩ := (nxt_sh (by omega)).mp h
    obtain ⟨f3, t3, hne⟩ := w_tracks ⟨w, hw9⟩ (by show 3 ≤ w; omega)
    exact Or.inl ⟨by rw [yset_g, yset_g], cat_move f3 t3 hne hl⟩
/-! the marks that are left when g are gone -/
def rmk (L : List Nat) (mk : Nat → Nat) : Nat → List Nat
  | 0 => L
  | g + 1 => (rmk L mk g).erase (mk g)
theorem fol_rem {sv : Nat → Nat → Bool} {ln : Nat → Nat} {n : Nat} {L : List Nat} {mk : Nat → Nat} (hL : ∀ u ∈ L, u ≤ 7) (hsv : ∀ u g, u ≤ 7 → g < n → sv u g = true → u = mk g) : ∀ (ws : List Nat) (y z : YS), (cat y.2).Perm (rmk L mk y.1) → (rmk L mk y.1).length + y.1 = L.length → (∀ u ∈ cat y.2, u ≤ 7) → fol sv ln n y ws = some z → (cat z.2).Perm (rmk L mk z.1) ∧ (rmk L mk z.1).length + z.1 = L.length
  | [], y, z, h1, h2, h3, e => by simp only [fol, Option.some.injEq] at e; subst e; exact ⟨h1, h2⟩
  | w :: r, y, z, h1, h2, h3, e => by
    obtain ⟨x, e1, e2⟩ := fol_pre sv ln n [w] r y z e
    obtain ⟨hw, e3⟩ := fol_one e1
    rcases nxt_cat hw e3 with ⟨c1, c2⟩ | ⟨c1, c0, u, c2, c3⟩
    · exact fol_rem hL hsv r x z (by rw [c1]; exact c2.trans h1) (by rw [c1]; exact h2) (fun u hu => h3 u (c2.mem_iff.mp hu)) e2
    · have hu : u ∈ cat y.2 := c3.mem_iff.mpr List.mem_cons_self
      have hm := hsv u y.1 (h3 u hu) c0 c2
      have hur : u ∈ rmk L mk y.1 := h1.mem_iff.mp hu
      have hlr := List.length_erase_of_mem hur
      have hpos := List.length_pos_of_mem hur
      refine fol_rem hL hsv r x z ?_ ?_ (fun v hv => h3 v (c3.mem_iff.mpr (List.mem_cons_of_mem _ hv))) e2
      · rw [c1]
        show (cat x.2).Perm ((rmk L mk y.1).erase (mk y.1))
        rw [← hm]
        exact List.Perm.cons_inv ((c3.symm.trans h1).trans (List.perm_cons_erase hur))
      · rw [c1]
        show ((rmk L mk y.1).erase (mk y.1)).length + (y.1 + 1) = L.length
        rw [← hm, hlr]
        omega
theorem rf_le {a b : Nat} (h : a ≤ b) : rf a ≤ rf b := by
  induction h with
  | refl => exact Nat.le_refl _
  | step h ih => exact Nat.le_trans ih (by rename_i k; show rf k ≤ (k + 3) * rf k; exact Nat.le_mul_of_pos_left _ (by omega))
def lvl (L : List Nat) (mk : Nat → Nat) (g : Nat) : List YS := if (rmk L mk g).length + g = L.length then (arrP (rmk L mk g)).map (fun t => (g, t)) else []
theorem lvl_len (L : List Nat) (mk : Nat → Nat) (g : Nat) (h5 : L.length ≤ 5) : (lvl L mk g).length ≤ rf (5 - g) := by
  unfold lvl
  by_cases q : (rmk L mk g).length + g = L.length
  · rw [if_pos q, List.length_map, arrP_len]
    exact rf_le (by omega)
  · rw [if_neg q]; exact Nat.zero_le _
theorem cnt_marks {sv : Nat → Nat → Bool} {ln : Nat → Nat} {n : Nat} (hn : n ≤ 5) {y0 : YS} (h0 : y0.1 = 0) (mk : Nat → Nat) (h5 : (cat y0.2).length ≤ 5) (h7 : ∀ u ∈ cat y0.2, u ≤ 7) (hsv : ∀ u g, u ≤ 7 → g < n → sv u g = true → u = mk g) (m : Nat) (st : Nat → YS) (pth : Nat → List Nat) (hf : ∀ j, j < m → fol sv ln n y0 (pth j) = some (st j)) (hd : ∀ i j, i < j → j < m → st i ≠ st j) : m ≤ 2956 := by
  have key : ∀ j, j < m → st j ∈ lvl (cat y0.2) mk 0 ++ (lvl (cat y0.2) mk 1 ++ (lvl (cat y0.2) mk 2 ++ (lvl (cat y0.2) mk 3 ++ (lvl (cat y0.2) mk 4 ++ lvl (cat y0.2) mk 5)))) := by
    intro j hj
    have h1 := fol_rem (L := cat y0.2) (mk := mk) h7 hsv (pth j) y0 (st j) (by rw [h0]; exact List.Perm.refl _) (by rw [h0]; rfl) h7 (hf j hj)
    have h2 : st j ∈ lvl (cat y0.2) mk (st j).1 := by
      unfold lvl
      rw [if_pos h1.2]
      exact List.mem_map.mpr ⟨(st j).2, arrP_mem _ _ h1.1, rfl⟩
    have h3 := fol_gn (pth j) y0 (st j) (by omega) (hf j hj)
    simp only [List.mem_append]
    rcases (show (st j).1 = 0 ∨ (st j).1 = 1 ∨ (st j).1 = 2 ∨ (st j).1 = 3 ∨ (st j).1 = 4 ∨ (st j).1 = 5 by omega) with e | e | e | e | e | e <;> rw [e] at h2
    · exact Or.inl h2
    · exact Or.inr (Or.inl h2)
    · exact Or.inr (Or.inr (Or.inl h2))
    · exact Or.inr (Or.inr (Or.inr (Or.inl h2)))
    · exact Or.inr (Or.inr (Or.inr (Or.inr (Or.inl h2))))
    · exact Or.inr (Or.inr (Or.inr (Or.inr (Or.inr h2))))
  have h := pig _ m st key hd
  simp only [List.length_append] at h
  have l0 := lvl_len (cat y0.2) mk 0 h5
  have l1 := lvl_len (cat y0.2) mk 1 h5
  have l2 := lvl_len (cat y0.2) mk 2 h5
  have l3 := lvl_len (cat y0.2) mk 3 h5
  have l4 := lvl_len (cat y0.2) mk 4 h5
  have l5 := lvl_len (cat y0.2) mk 5 h5
  have e0 : rf (5 - 0) = 2520 := by decide
  have e1 : rf (5 - 1) = 360 := by decide
  have e2 : rf (5 - 2) = 60 := by decide
  have e3 : rf (5 - 3) = 12 := by decide
  have e4 : rf (5 - 4) = 3 := by decide
  have e5 : rf (5 - 5) = 1 := by decide
  omega
