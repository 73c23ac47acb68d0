/-! if there is a run at all, there is a short one -/
theorem yext {y z : YS} (h1 : y.1 = z.1) (h : ∀ t, t < 3 → yt y t = yt z t) : y = z := by
  obtain ⟨g, a, b, c⟩ := y
  obtain ⟨g', a', b', c'⟩ := z
  have e0 : a = a' := h 0 (by omega)
  have e1 : b = b' := h 1 (by omega)
  have e2 : c = c' := h 2 (by omega)
  have e3 : g = g' := h1
  subst e0 e1 e2 e3
  rfl
theorem tot3 (y : YS) : (cat y.2).length = (yt y 0).length + (yt y 1).length + (yt y 2).length := by
  show (y.2.1 ++ (y.2.2.1 ++ y.2.2.2)).length = y.2.1.length + y.2.2.1.length + y.2.2.2.length
  rw [List.length_append, List.length_append]
  omega
theorem mem_cat {x : Nat} {y : YS} : x ∈ cat y.2 ↔ ∃ t, t < 3 ∧ x ∈ yt y t := by
  show x ∈ y.2.1 ++ (y.2.2.1 ++ y.2.2.2) ↔ _
  simp only [List.mem_append]
  constructor
  · rintro (h | h | h)
    · exact ⟨0, by omega, h⟩
    · exact ⟨1, by omega, h⟩
    · exact ⟨2, by omega, h⟩
  · rintro ⟨t, ht, h⟩
    rcases (show t = 0 ∨ t = 1 ∨ t = 2 by omega) with e | e | e <;> subst e
    · exact Or.inl h
    · exact Or.inr (Or.inl h)
    · exact Or.inr (Or.inr h)
def mv (ln : Nat → Nat) (a b : Nat) (y z : YS) : Prop := a < 3 ∧ b < 3 ∧ b ≠ a ∧ ∃ u R, yt y a = u :: R ∧ (yt y b).length < ln b ∧ z = yset (yset y a R) b (u :: yt y b)
section SH
variable {ln : Nat → Nat} {a b : Nat} {x y z : YS}
theorem mv_f (h : mv ln a b y z) : a < 3 ∧ b < 3 ∧ b ≠ a ∧ z.1 = y.1 ∧ ∃ u R, yt y a = u :: R ∧ yt z a = R ∧ yt z b = u :: yt y b ∧ (yt y b).length < ln b ∧ ∀ c, c < 3 → c ≠ a → c ≠ b → yt z c = yt y c := by
  obtain ⟨ha, hb, hne, u, R, h1, h2, rfl⟩ := h
  refine ⟨ha, hb, hne, by rw [yset_g, yset_g], u, R, h1, ?_, yt_same _ hb _, h2, fun c hc h3 h4 => ?_⟩
  · rw [yt_ne _ hb ha (fun e => hne e.symm), yt_same y ha]
  · rw [yt_ne _ hb hc h4, yt_ne y ha hc h3]
theorem mv_mk (ha : a < 3) (hb : b < 3) (hne : b ≠ a) (hg : z.1 = y.1) {u : Nat} {R : List Nat} (h1 : yt y a = u :: R) (h2 : yt z a = R) (h3 : yt z b = u :: yt y b) (h4 : (yt y b).length < ln b) (h5 : ∀ c, c < 3 → c ≠ a → c ≠ b → yt z c = yt y c) : mv ln a b y z := by
  refine ⟨ha, hb, hne, u, R, h1, h4, yext (by rw [yset_g, yset_g]; exact hg) (fun t ht => ?_)⟩
  by_cases e1 : t = b
  · subst e1; rw [yt_same _ ht, h3]
  · rw [yt_ne _ hb ht e1]
    by_cases e2 : t = a
    · subst e2; rw [yt_same _ ht, h2]
    · rw [yt_ne _ ha ht e2]; exact h5 t ht e2 e1
def dl (t a : Nat) : Nat := if t = a then 1 else 0
theorem mv_len (h : mv ln a b y z) : ∀ t, t < 3 → (yt z t).length + dl t a = (yt y t).length + dl t b := by
  obtain ⟨ha, hb, hne, -, u, R, h1, h2, h3, h4, h5⟩ := mv_f h
  intro t ht
  unfold dl
  by_cases e1 : t = a
  · subst e1; rw [if_pos rfl, if_neg (fun e => hne e.symm), h1, h2]; simp
  · by_cases e2 : t = b
    · subst e2; rw [if_neg e1, if_pos rfl, h3]; simp
    · rw [if_neg e1, if_neg e2, h5 t ht e1 e2]
theorem mv_tot (h : mv ln a b y z) : (cat z.2).length = (cat y.2).length := by
  obtain ⟨ha, hb, hne, u, R, h1, h2, rfl⟩ := h
  exact (cat_move ha hb hne h1).length_eq
theorem mv_nd (h : mv ln a b y z) (hn : (cat y.2).Nodup) : (cat z.2).Nodup := by
  obtain ⟨ha, hb, hne, u, R, h1, h2, rfl⟩ := h
  exact ((cat_move ha hb hne h1).nodup_iff).mpr hn
theorem mv_back (h : mv ln a b y z) (hl : (yt y a).length ≤ ln a) : mv ln b a z y := by
  obtain ⟨ha, hb, hne, hg, u, R, h1, h2, h3, h4, h5⟩ := mv_f h
  refine mv_mk hb ha (fun e => hne e.symm) hg.symm h3 rfl (by rw [h1, h2]) ?_ (fun c hc c1 c2 => (h5 c hc c2 c1).symm)
  rw [h2]
  rw [h1, List.length_cons] at hl
  omega
theorem mv_undo (h : mv ln a b x y) (h' : mv ln b a y z) : z = x := by
  obtain ⟨ha, hb, hne, hg, u, R, h1, h2, h3, h4, h5⟩ := mv_f h
  obtain ⟨-, -, -, kg, v, S, k1, k2, k3, k4, k5⟩ := mv_f h'
  rw [h3] at k1
  obtain ⟨e1, e2⟩ := List.cons.inj k1
  refine yext (by rw [kg, hg]) (fun t ht => ?_)
  by_cases q1 : t = a
  · subst q1; rw [k3, h2, h1, e1]
  · by_cases q2 : t = b
    · subst q2; rw [k2, e2]
    · rw [k5 t ht q2 q1, h5 t ht q1 q2]
def noF (ln : Nat → Nat) (y : YS) : Prop := ∀ t, t < 3 → (yt y t).length ≤ ln t
theorem no_mv (hn : noF ln y) (h : mv ln a b y z) : noF ln z ∧ mv ln b a z y := by
  obtain ⟨ha, hb, hne, hg, u, R, h1, h2, h3, h4, h5⟩ := mv_f h
  refine ⟨fun t ht => ?_, mv_back h (hn a ha)⟩
  by_cases e1 : t = b
  · subst e1; rw [h3, List.length_cons]; omega
  · by_cases e2 : t = a
    · subst e2; have := hn t ht; rw [h1, List.length_cons] at this; rw [h2]; omega
    · rw [h5 t ht e2 e1]; exact hn t ht
def Pa (ln : Nat → Nat) : List (Nat × Nat) → YS → YS → Prop
  | [], y, z => y = z
  | ab :: l, y, z => ∃ x, mv ln ab.1 ab.2 y x ∧ Pa ln l x z
theorem Pa_app : ∀ (l l' : List (Nat × Nat)) (x y z : YS), Pa ln l x y → Pa ln l' y z → Pa ln (l ++ l') x z
  | [], l', x, y, z, h, h' => by have e : x = y := h; subst e; exact h'
  | ab :: l, l', x, y, z, h, h' => by
    obtain ⟨w, h1, h2⟩ := h
    exact ⟨w, h1, Pa_app l l' w y z h2 h'⟩
theorem Pa_split : ∀ (l l' : List (Nat × Nat)) (x z : YS), Pa ln (l ++ l') x z → ∃ y, Pa ln l x y ∧ Pa ln l' y z
  | [], l', x, z, h => ⟨x, rfl, h⟩
  | ab :: l, l', x, z, h => by
    obtain ⟨w, h1, h2⟩ := h
    obtain ⟨y, h3, h4⟩ := Pa_split l l' w z h2
    exact ⟨y, ⟨w, h1, h3⟩, h4⟩
theorem Pa_rev : ∀ (l : List (Nat × Nat)) (x y : YS), noF ln x → Pa ln l x y → noF ln y ∧ ∃ l', Pa ln l' y x
  | [], x, y, hn, h => by have e : x = y := h; subst e; exact ⟨hn, [], rfl⟩
  | ab :: l, x, y, hn, h => by
    obtain ⟨w, h1, h2⟩ := h
    obtain ⟨h3, h4⟩ := no_mv hn h1
    obtain ⟨h5, l', h6⟩ := Pa_rev l w y h3 h2
    exact ⟨h5, l' ++ [(ab.2, ab.1)], Pa_app _ _ _ _ _ h6 ⟨x, h4, rfl⟩⟩
theorem mv_nxt {sv : Nat → Nat → Bool} {n : Nat} (hg : y.1 < n) (h : mv ln a b y z) : ∃ w, 3 ≤ w ∧ w < 9 ∧ nxt sv ln n y w = some z := by
  obtain ⟨ha, hb, hne, u, R, h1, h2, rfl⟩ := h
  obtain ⟨w, hw3, hwf, hwt, -⟩ := w_of ⟨a, ha⟩ ⟨b, hb⟩ (fun e => hne (Fin.mk.inj e))
  simp only at hwf hwt
  exact ⟨w.val, hw3, w.isLt, (nxt_sh hw3).mpr ⟨hg, u, R, by rw [hwf]; exact h1, by rw [hwt]; exact h2, by rw [hwf, hwt]⟩⟩
theorem nxt_mv {sv : Nat → Nat → Bool} {n w : Nat} (hw3 : 3 ≤ w) (hw9 : w < 9) (h : nxt sv ln n y w = some z) : mv ln (wfr w) (wto w) y z := by
  obtain ⟨h0, u, R, hl, hs, rfl⟩ := (nxt_sh hw3).mp h
  obtain ⟨f3, t3, hne⟩ := w_tracks ⟨w, hw9⟩ hw3
  exact ⟨f3, t3, hne, u, R, hl, hs, rfl⟩
theorem Pa_fol {sv : Nat → Nat → Bool} {n : Nat} : ∀ (l : List (Nat × Nat)) (x y : YS), x.1 < n → Pa ln l x y → y.1 = x.1 ∧ ∃ ws, ws.length = l.length ∧ fol sv ln n x ws = some y
  | [], x, y, hg, h => by have e : x = y := h; subst e; exact ⟨rfl, [], rfl, rfl⟩
  | ab :: l, x, y, hg, h => by
    obtain ⟨w, h1, h2⟩ := h
    have h3 := (mv_f h1).2.2.2.1
    obtain ⟨h4, ws, h5, h6⟩ := Pa_fol (sv := sv) (n := n) l w y (by omega) h2
    obtain ⟨v, v3, v9, hv⟩ := mv_nxt (sv := sv) hg h1
    refine ⟨by omega, v :: ws, by simp only [List.length_cons, h5], ?_⟩
    simp only [fol]
    rw [if_pos v9, hv]
    exact h6
theorem Pa_g : ∀ (l : List (Nat × Nat)) (x y : YS), Pa ln l x y → y.1 = x.1
  | [], x, y, h => by have e : x = y := h; subst e; rfl
  | ab :: l, x, y, h => by
    obtain ⟨w, h1, h2⟩ := h
    rw [Pa_g l w y h2, (mv_f h1).2.2.2.1]
theorem Pa_nd : ∀ (l : List (Nat × Nat)) (x y : YS), Pa ln l x y → (cat x.2).Nodup → (cat y.2).Nodup ∧ (cat y.2).length = (cat x.2).length
  | [], x, y, h, hn => by have e : x = y := h; subst e; exact ⟨hn, rfl⟩
  | ab :: l, x, y, h, hn => by
    obtain ⟨w, h1, h2⟩ := h
    obtain ⟨h3, h4⟩ := Pa_nd l w y h2 (mv_nd h1 hn)
    exact ⟨h3, by rw [h4, mv_tot h1]⟩
theorem Pa_mem {u : Nat} : ∀ (l : List (Nat × Nat)) (x y : YS), Pa ln l x y → (u ∈ cat y.2 ↔ u ∈ cat x.2)
  | [], x, y, h => by have e : x = y := h; subst e; exact Iff.rfl
  | ab :: l, x, y, h => by
    obtain ⟨w, h1, h2⟩ := h
    obtain ⟨ha, hb, hne, v, R, k1, k2, k3⟩ := id h1
    rw [Pa_mem l w y h2, k3]
    exact (cat_move ha hb hne k1).mem_iff
/-! without one unit -/
def rmv (u : Nat) (y : YS) : YS := (y.1, y.2.1.filter (fun x => x != u), y.2.2.1.filter (fun x => x != u), y.2.2.2.filter (fun x => x != u))
theorem yt_rm (u : Nat) (y : YS) {t : Nat} (ht : t < 3) : yt (rmv u y) t = (yt y t).filter (fun x => x != u) := by
  rcases (show t = 0 ∨ t = 1 ∨ t = 2 by omega) with e | e | e <;> subst e <;> rfl
theorem rm_mv (u : Nat) (h : mv ln a b y z) : rmv u y = rmv u z ∨ mv ln a b (rmv u y) (rmv u z) := by
  obtain ⟨ha, hb, hne, hg, v, R, h1, h2, h3, h4, h5⟩ := mv_f h
  by_cases e : v = u
  · subst e
    left
    refine yext hg.symm (fun t ht => ?_)
    rw [yt_rm _ _ ht, yt_rm _ _ ht]
    by_cases e1 : t = b
    · subst e1; rw [h3]; simp
    · by_cases e2 : t = a
      · subst e2; rw [h1, h2]; simp
      · rw [h5 t ht e2 e1]
  · right
    have hv : (fun x => x != u) v = true := by simpa using e
    refine mv_mk ha hb hne hg (u := v) (R := R.filter (fun x => x != u)) ?_ ?_ ?_ ?_ (fun c hc c1 c2 => ?_)
    · rw [yt_rm _ _ ha, h1, List.filter_cons_of_pos (p := fun x => x != u) hv]
    · rw [yt_rm _ _ ha, h2]
    · rw [yt_rm _ _ hb, yt_rm _ _ hb, h3, List.filter_cons_of_pos (p := fun x => x != u) hv]
    · rw [yt_rm _ _ hb]
      exact Nat.lt_of_le_of_lt (List.length_filter_le _ _) h4
    · rw [yt_rm _ _ hc, yt_rm _ _ hc, h5 c hc c1 c2]
theorem rm_Pa (u : Nat) : ∀ (l : List (Nat × Nat)) (x y : YS), Pa ln l x y → ∃ l', Pa ln l' (rmv u x) (rmv u y)
  | [], x, y, h => by have e : x = y := h; subst e; exact ⟨[], rfl⟩
  | ab :: l, x, y, h => by
    obtain ⟨w, h1, h2⟩ := h
    obtain ⟨l', h3⟩ := rm_Pa u l w y h2
    rcases rm_mv u h1 with e | e
    · rw [e]; exact ⟨l', h3⟩
    · exact ⟨ab :: l', _, e, h3⟩
theorem inc_Pa : ∀ (l : List (Nat × Nat)) (x y : YS), Pa ln l x y → Pa ln l (yinc x) (yinc y)
  | [], x, y, h => by have e : x = y := h; subst e; rfl
  | ab :: l, x, y, h => by
    obtain ⟨w, h1, h2⟩ := h
    obtain ⟨ha, hb, hne, hg, v, R, k1, k2, k3, k4, k5⟩ := mv_f h1
    exact ⟨yinc w, mv_mk ha hb hne (by show w.1 + 1 = x.1 + 1; rw [hg]) k1 k2 k3 k4 k5, inc_Pa l w y h2⟩
theorem pop_rm {u t : Nat} {R : List Nat} (hn : (cat y.2).Nodup) (ht : t < 3) (hl : yt y t = u :: R) : yset y t R = rmv u y := by
  have hp := (cat_pop ht hl).nodup_iff.mp hn
  have hu := (List.nodup_cons.mp hp).1
  refine yext (by rw [yset_g]; rfl) (fun c hc => ?_)
  have hc2 : u ∉ yt (yset y t R) c := fun q => hu (mem_cat.mpr ⟨c, hc, q⟩)
  rw [yt_rm _ _ hc]
  by_cases e : c = t
  · subst e
    rw [yt_same _ hc] at hc2 ⊢
    rw [hl, List.filter_cons_of_neg (by simp), List.filter_eq_self.mpr (fun v hv => by simp; intro q; subst q; exact hc2 hv)]
  · rw [yt_ne _ ht hc e] at hc2 ⊢
    rw [List.filter_eq_self.mpr (fun v hv => by simp; intro q; subst q; exact hc2 hv)]
/-! whether a unit can be dug out -/
def Blk (ln : Nat → Nat) (s : YS) (u : Nat) : Prop := ∃ t A B, t < 3 ∧ yt s t = A ++ u :: B ∧ ln 0 + ln 1 + ln 2 + B.length + 1 < (cat s.2).length + ln t
theorem blk_ne (hn : noF ln y) {u t : Nat} {A B : List Nat} (ht : t < 3) (hl : yt y t = A ++ u :: B) (h : ln 0 + ln 1 + ln 2 + B.length + 1 < (cat y.2).length + ln t) : A ≠ [] := by
  intro e
  subst e
  have h0 := hn 0 (by omega)
  have h1 := hn 1 (by omega)
  have h2 := hn 2 (by omega)
  have hl2 : (yt y t).length = B.length + 1 := by rw [hl]; rfl
  rw [tot3] at h
  rcases (show t = 0 ∨ t = 1 ∨ t = 2 by omega) with e | e | e <;> subst e <;> omega
theorem blk_mv {u : Nat} (hn : noF ln y) (h : Blk ln y u) (hm : mv ln a b y z) : Blk ln z u := by
  obtain ⟨t, A, B, ht, hl, hc⟩ := h
  have hA := blk_ne hn ht hl hc
  have htot := mv_tot hm
  obtain ⟨ha, hb, hne, hg, v, R, h1, h2, h3, h4, h5⟩ := mv_f hm
  by_cases e1 : t = b
  · subst e1
    exact ⟨t, v :: A, B, ht, by rw [h3, hl]; rfl, by rw [htot]; exact hc⟩
  · by_cases e2 : t = a
    · subst e2
      cases A with
      | nil => exact absurd rfl hA
      | cons x A =>
        rw [hl] at h1
        refine ⟨t, A, B, ht, ?_, by rw [htot]; exact hc⟩
        rw [h2, ← (List.cons.inj h1).2]
        rfl
    · exact ⟨t, A, B, ht, by rw [h5 t ht e2 e1]; exact hl, by rw [htot]; exact hc⟩
theorem blk_Pa {u : Nat} : ∀ (l : List (Nat × Nat)) (x y : YS), noF ln x → Pa ln l x y → Blk ln x u → Blk ln y u
  | [], x, y, hn, h, hb => by have e : x = y := h; subst e; exact hb
  | ab :: l, x, y, hn, h, hb => by
    obtain ⟨w, h1, h2⟩ := h
    exact blk_Pa l w y (no_mv hn h1).1 h2 (blk_mv hn hb h1)
theorem blk_top {u w : Nat} {R : List Nat} (hn : noF ln y) (hd : (cat y.2).Nodup) (hw : w < 3) (hl : yt y w = u :: R) (h : Blk ln y u) : False := by
  obtain ⟨t, A, B, ht, hl2, hc⟩ := h
  have hA := blk_ne hn ht hl2 hc
  have hp := (cat_pop hw hl).nodup_iff.mp hd
  have hu := (List.nodup_cons.mp hp).1
  refine hu (mem_cat.mpr ⟨t, ht, ?_⟩)
  by_cases e : t = w
  · subst e
    rw [yt_same _ ht]
    cases A with
    | nil => exact absurd rfl hA
    | cons x A =>
      rw [hl] at hl2
      rw [(List.cons.inj hl2).2]
      exact List.mem_append.mpr (Or.inr List.mem_cons_self)
  · rw [yt_ne _ hw ht e, hl2]
    exact List.mem_append.mpr (Or.inr List.mem_cons_self)
theorem dig {u t : Nat} {B : List Nat} (ht : t < 3) : ∀ (A : List Nat) (s : YS), yt s t = A ++ u :: B → noF ln s → (cat s.2).length + ln t ≤ ln 0 + ln 1 + ln 2 + B.length + 1 → ∃ l s2, l.length = A.length ∧ Pa ln l s s2 ∧ yt s2 t = u :: B
  | [], s, hl, _, _ => ⟨[], s, rfl, rfl, hl⟩
  | x :: A, s, hl, hn, hc => by
    have hb : ∃ b, b < 3 ∧ b ≠ t ∧ (yt s b).length < ln b := by
      have hl2 : (yt s t).length = A.length + B.length + 2 := by rw [hl]; simp; omega
      have h0 := hn 0 (by omega)
      have h1 := hn 1 (by omega)
      have h2 := hn 2 (by omega)
      rw [tot3] at hc
      rcases (show t = 0 ∨ t = 1 ∨ t = 2 by omega) with e | e | e <;> subst e
      · by_cases q : (yt s 1).length < ln 1
        · exact ⟨1, by omega, by omega, q⟩
        · exact ⟨2, by omega, by omega, by omega⟩
      · by_cases q : (yt s 0).length < ln 0
        · exact ⟨0, by omega, by omega, q⟩
        · exact ⟨2, by omega, by omega, by omega⟩
      · by_cases q : (yt s 0).length < ln 0
        · exact ⟨0, by omega, by omega, q⟩
        · exact ⟨1, by omega, by omega, by omega⟩
    obtain ⟨b, hb3, hbt, hbl⟩ := hb
    have hm : mv ln t b s (yset (yset s t (A ++ u :: B)) b (x :: yt s b)) := ⟨ht, hb3, hbt, x, A ++ u :: B, hl, hbl, rfl⟩
    obtain ⟨-, -, -, -, v, R, k1, k2, -⟩ := mv_f hm
    have hkl : yt (yset (yset s t (A ++ u :: B)) b (x :: yt s b)) t = A ++ u :: B := by rw [yt_ne _ hb3 ht (fun e => hbt e.symm), yt_same _ ht]
    obtain ⟨l, s2, h1, h2, h3⟩ := dig ht A _ hkl (no_mv hn hm).1 (by rw [mv_tot hm]; exact hc)
    exact ⟨(t, b) :: l, s2, by simp only [List.length_cons, h1], ⟨_, hm, h2⟩, h3⟩
theorem run_pre {sv : Nat → Nat → Bool} {n : Nat} {ws v : List Nat} (h : fol sv ln n x ws = some y) (h2 : isRun sv ln n y v) : isRun sv ln n x (ws ++ v) := by
  obtain ⟨z, h3, h4⟩ := h2
  exact ⟨z, by rw [fol_app sv ln n ws v x y h]; exact h3, h4⟩
theorem run_g {sv : Nat → Nat → Bool} {n : Nat} {v : List Nat} (h : isRun sv ln n x v) : x.1 ≤ n := by
  cases v with
  | nil => obtain ⟨z, h1, h2⟩ := h; simp only [fol, Option.some.injEq] at h1; subst h1; omega
  | cons w r => obtain ⟨-, z, h1, -⟩ := run_cons.mp h; have := nxt_lt h1; omega
theorem short_no {sv : Nat → Nat → Bool} {n : Nat} : ∀ (v : List Nat) (s s' : YS) (l : List (Nat × Nat)), noF ln s → Pa ln l s s' → (cat s.2).Nodup → (cat s.2).length ≤ 5 → isRun sv ln n s' v → ∃ v', isRun sv ln n s v' ∧ v'.length + 5 * s.1 ≤ 5 * n
  | [], s, s', l, hn, hp, hd, h5, hr => by
    obtain ⟨z, h1, h2⟩ := hr
    simp only [fol, Option.some.injEq] at h1
    subst h1
    have hg := Pa_g l s s' hp
    exact ⟨[], ⟨s, rfl, by omega⟩, by simp only [List.length_nil]; omega⟩
  | w :: r, s, s', l, hn, hp, hd, h5, hr => by
    obtain ⟨hw9, z, h1, h2⟩ := run_cons.mp hr
    by_cases hw : w < 3
    · obtain ⟨hg, u, R, hl, hs, rfl⟩ := (nxt_go hw).mp h1
      have hgg := Pa_g l s s' hp
      obtain ⟨hn', l', hp'⟩ := Pa_rev l s s' hn hp
      obtain ⟨hd', -⟩ := Pa_nd l s s' hp hd
      have hu : u ∈ cat s.2 := (Pa_mem l s s' hp).mp (mem_cat.mpr ⟨w, hw, by rw [hl]; exact List.mem_cons_self⟩)
      obtain ⟨t, ht, hut⟩ := mem_cat.mp hu
      obtain ⟨A, B, hAB⟩ := List.append_of_mem hut
      have hnb : ¬ Blk ln s u := fun q => blk_top hn' hd' hw hl (blk_Pa l s s' hn hp q)
      have hcap : (cat s.2).length + ln t ≤ ln 0 + ln 1 + ln 2 + B.length + 1 := by
        rcases Nat.lt_or_ge (ln 0 + ln 1 + ln 2 + B.length + 1) ((cat s.2).length + ln t) with q | q
        · exact absurd ⟨t, A, B, ht, hAB, q⟩ hnb
        · exact q
      obtain ⟨dl', s2, hlen, hp2, htop⟩ := dig ht A s hAB hn hcap
      have hA4 : A.length ≤ 4 := by
        have h6 := tot3 s
        have h7 : (yt s t).length = A.length + B.length + 1 := by rw [hAB]; simp; omega
        rcases (show t = 0 ∨ t = 1 ∨ t = 2 by omega) with e | e | e <;> subst e <;> omega
      obtain ⟨hn2, lb, hpb⟩ := Pa_rev dl' s s2 hn hp2
      obtain ⟨hd2, ht2⟩ := Pa_nd dl' s s2 hp2 hd
      have hg2 := Pa_g dl' s s2 hp2
      obtain ⟨lc, hpc⟩ := rm_Pa u _ _ _ (Pa_app _ _ _ _ _ hpb hp)
      have hpd := inc_Pa lc _ _ hpc
      rw [← pop_rm hd2 ht htop, ← pop_rm hd' hw hl] at hpd
      have hpop := cat_pop ht htop
      have hnz : noF ln (yinc (yset s2 t B)) := fun c hc => by
        rw [yt_inc]
        by_cases e : c = t
        · subst e; rw [yt_same _ hc]; have := hn2 c hc; rw [htop, List.length_cons] at this; omega
        · rw [yt_ne _ ht hc e]; exact hn2 c hc
      obtain ⟨v', hv1, hv2⟩ := short_no r (yinc (yset s2 t B)) (yinc (yset s' w R)) lc hnz hpd (List.nodup_cons.mp (hpop.nodup_iff.mp hd2)).2 (by have := hpop.length_eq; rw [List.length_cons] at this; show (cat (yset s2 t B).2).length ≤ 5; omega) h2
      obtain ⟨-, ws, hws1, hws2⟩ := Pa_fol (sv := sv) (n := n) dl' s s2 (by omega) hp2
      have hstep : nxt sv ln n s2 t = some (yinc (yset s2 t B)) := (nxt_go ht).mpr ⟨by omega, u, B, htop, by rw [hg2, ← hgg]; exact hs, rfl⟩
      refine ⟨ws ++ (t :: v'), run_pre hws2 (run_cons.mpr ⟨by omega, _, hstep, hv1⟩), ?_⟩
      rw [List.length_append, List.length_cons, hws1, hlen]
      have : (yinc (yset s2 t B)).1 = s.1 + 1 := by show (yset s2 t B).1 + 1 = _; rw [yset_g, hg2]
      omega
    · have hm := nxt_mv (by omega) hw9 h1
      exact short_no r s z (l ++ [(wfr w, wto w)]) hn (Pa_app _ _ _ _ _ hp ⟨z, hm, rfl⟩) hd h5 h2
end SH
