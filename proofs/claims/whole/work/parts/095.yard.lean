/-! the yard by its units and by its marks -/
def ymap (f : Nat → Nat) (y : YS) : YS := (y.1, y.2.1.map f, y.2.2.1.map f, y.2.2.2.map f)
theorem yt_map (f : Nat → Nat) (y : YS) (t : Nat) : yt (ymap f y) t = (yt y t).map f := by
  unfold yt ymap; split <;> (try split) <;> rfl
theorem yset_map (f : Nat → Nat) (y : YS) (t : Nat) (l : List Nat) : ymap f (yset y t l) = yset (ymap f y) t (l.map f) := by
  unfold yset; split <;> (try split) <;> rfl
theorem nxt_map {sv sv' : Nat → Nat → Bool} {ln : Nat → Nat} {n : Nat} {f : Nat → Nat} {y : YS} {w : Nat} (hw9 : w < 9) (h : ∀ u ∈ cat y.2, ∀ i, i < n → sv' (f u) i = sv u i) : nxt sv' ln n (ymap f y) w = (nxt sv ln n y w).map (ymap f) := by
  unfold nxt
  by_cases hg : y.1 < n
  · rw [if_pos (show (ymap f y).1 < n from hg), if_pos hg]
    by_cases hw : w < 3
    · rw [if_pos hw, if_pos hw, yt_map]
      cases hl : yt y w with
      | nil => rfl
      | cons u R =>
        have hu := h u (mem_cat.mpr ⟨w, hw, by rw [hl]; exact List.mem_cons_self⟩) y.1 hg
        simp only [List.map_cons]
        show (if sv' (f u) y.1 = true then _ else _) = _
        rw [hu]
        by_cases hs : sv u y.1 = true
        · rw [if_pos hs, if_pos hs]
          show _ = some _
          congr 1
          show yinc (yset (ymap f y) w (R.map f)) = yinc (ymap f (yset y w R))
          rw [yset_map]
        · rw [if_neg hs, if_neg hs]; rfl
    · rw [if_neg hw, if_neg hw, yt_map]
      cases hl : yt y (wfr w) with
      | nil => rfl
      | cons u R =>
        simp only [List.map_cons]
        rw [yt_map, List.length_map]
        by_cases hs : (yt y (wto w)).length < ln (wto w)
        · rw [if_pos hs, if_pos hs]
          show _ = some _
          rw [yset_map, yset_map, List.map_cons]
        · rw [if_neg hs, if_neg hs]; rfl
  · rw [if_neg (show ¬ (ymap f y).1 < n from hg), if_neg hg]; rfl
theorem nxt_sub {sv : Nat → Nat → Bool} {ln : Nat → Nat} {n : Nat} {y z : YS} {w : Nat} (hw9 : w < 9) (h : nxt sv ln n y w = some z) : ∀ u ∈ cat z.2, u ∈ cat y.2 := by
  intro u hu
  rcases nxt_cat hw9 h with ⟨-, hp⟩ | ⟨-, -, v, -, hp⟩
  · exact hp.mem_iff.mp hu
  · exact hp.mem_iff.mpr (List.mem_cons_of_mem _ hu)
theorem fol_map {sv sv' : Nat → Nat → Bool} {ln : Nat → Nat} {n : Nat} {f : Nat → Nat} : ∀ (ws : List Nat) (y : YS), (∀ u ∈ cat y.2, ∀ i, i < n → sv' (f u) i = sv u i) → fol sv' ln n (ymap f y) ws = (fol sv ln n y ws).map (ymap f)
  | [], y, _ => rfl
  | w :: r, y, h => by
    simp only [fol]
    by_cases hw : w < 9
    · rw [if_pos hw, if_pos hw, nxt_map hw h]
      cases hx : nxt sv ln n y w with
      | none => rfl
      | some z => exact fol_map r z (fun u hu => h u (nxt_sub hw hx u hu))
    · rw [if_neg hw, if_neg hw]; rfl
section BM
variable {sv sv' : Nat → Nat → Bool} {ln : Nat → Nat} {n : Nat} {f : Nat → Nat} {y : YS}
theorem run_map (h : ∀ u ∈ cat y.2, ∀ i, i < n → sv' (f u) i = sv u i) (ws : List Nat) : isRun sv' ln n (ymap f y) ws ↔ isRun sv ln n y ws := by
  unfold isRun
  rw [fol_map ws y h]
  cases fol sv ln n y ws with
  | none => simp
  | some z =>
    simp only [Option.map_some, Option.some.injEq]
    constructor
    · rintro ⟨x, rfl, e⟩; exact ⟨z, rfl, e⟩
    · rintro ⟨x, rfl, e⟩; exact ⟨_, rfl, e⟩
theorem first_map (h : ∀ u ∈ cat y.2, ∀ i, i < n → sv' (f u) i = sv u i) (ws : List Nat) : isFirst sv' ln n (ymap f y) ws ↔ isFirst sv ln n y ws := by
  unfold isFirst
  rw [run_map h]
  constructor
  · rintro ⟨a, b⟩; exact ⟨a, fun v hv => b v ((run_map h v).mpr hv)⟩
  · rintro ⟨a, b⟩; exact ⟨a, fun v hv => b v ((run_map h v).mp hv)⟩
end BM
/-! the yard of the parked units -/
def yd (lab : Nat → Nat) (P : Nat) (tr : Nat → Nat) : YS := (0, (tk P tr 0).map lab, (tk P tr 1).map lab, (tk P tr 2).map lab)
theorem yt_yd (lab : Nat → Nat) (P : Nat) (tr : Nat → Nat) {t : Nat} (ht : t < 3) : yt (yd lab P tr) t = (tk P tr t).map lab := by
  rcases (show t = 0 ∨ t = 1 ∨ t = 2 by omega) with e | e | e <;> subst e <;> rfl
theorem tk_in (x : Nat) (tr : Nat → Nat) : tk (x + 1) tr (tr x) = x :: tk x tr (tr x) := by
  rw [tk_sq, tk_sq, sq_in, List.reverse_append]; rfl
theorem tk_out (x : Nat) (tr : Nat → Nat) {t : Nat} (h : t ≠ tr x) : tk (x + 1) tr t = tk x tr t := by
  rw [tk_sq, tk_sq, sq_out x tr h]
theorem tk_le (x : Nat) (tr : Nat → Nat) (t : Nat) : (tk x tr t).length ≤ x := by
  rw [tk_sq, List.length_reverse]; exact sq_le tr x t
theorem yd_succ (lab : Nat → Nat) (x : Nat) (tr : Nat → Nat) (ht : tr x < 3) : yd lab (x + 1) tr = yset (yd lab x tr) (tr x) (lab x :: yt (yd lab x tr) (tr x)) := by
  refine yext (by rw [yset_g]; rfl) (fun t h3 => ?_)
  rw [yt_yd _ _ _ h3]
  by_cases e : t = tr x
  · subst e; rw [yt_same _ ht, tk_in, List.map_cons, yt_yd _ _ _ ht]
  · rw [yt_ne _ ht h3 e, tk_out x tr e, yt_yd _ _ _ h3]
theorem tk_mem {x u t : Nat} {tr : Nat → Nat} : u ∈ tk x tr t ↔ u < x ∧ tr u = t := by
  unfold tk
  rw [List.mem_reverse, List.mem_filter, List.mem_range]
  simp
theorem yd_mem {lab : Nat → Nat} {P : Nat} {tr : Nat → Nat} {l : Nat} (h : l ∈ cat (yd lab P tr).2) : ∃ u, u < P ∧ l = lab u := by
  obtain ⟨t, ht, h1⟩ := mem_cat.mp h
  rw [yt_yd _ _ _ ht, List.mem_map] at h1
  obtain ⟨u, h2, rfl⟩ := h1
  exact ⟨u, (tk_mem.mp h2).1, rfl⟩
theorem yd_tot (lab : Nat → Nat) (P : Nat) (tr : Nat → Nat) (htr : ∀ u, tr u < 3) : (cat (yd lab P tr).2).length = P := by
  rw [tot3, yt_yd _ _ _ (by omega), yt_yd _ _ _ (by omega), yt_yd _ _ _ (by omega), List.length_map, List.length_map, List.length_map, tk_sq, tk_sq, tk_sq, List.length_reverse, List.length_reverse, List.length_reverse]
  exact sq_sum tr P (fun u _ => htr u)
theorem yd_yk {lab : Nat → Nat} {P : Nat} {tr : Nat → Nat} (htr : ∀ u, tr u < 3) (hP : P ≤ 5) (hl : ∀ u, u < P → 1 ≤ lab u ∧ lab u ≤ 7) : yk (yd lab P tr) := by
  refine ⟨?_, fun t ht m hm => ?_, Nat.zero_le _⟩
  · rw [← tot3, yd_tot lab P tr htr]; exact hP
  · obtain ⟨u, hu, rfl⟩ := yd_mem (mem_cat.mpr ⟨t, ht, hm⟩)
    exact hl u hu
theorem yd_nd (P : Nat) (tr : Nat → Nat) (htr : ∀ u, tr u < 3) : (cat (yd (fun u => u + 1) P tr).2).Nodup := by
  induction P with
  | zero =>
    have : cat (yd (fun u => u + 1) 0 tr).2 = [] := List.eq_nil_of_length_eq_zero (yd_tot _ 0 tr htr)
    rw [this]; exact List.nodup_nil
  | succ x ih =>
    rw [yd_succ _ _ _ (htr x)]
    refine (cat_yset _ (htr x) _ _).nodup_iff.mpr (List.nodup_cons.mpr ⟨fun q => ?_, by rw [yset_id _ (htr x)]; exact ih⟩)
    rw [yset_id _ (htr x)] at q
    obtain ⟨u, hu, e⟩ := yd_mem q
    omega
theorem yd_map (f lab : Nat → Nat) (P : Nat) (tr : Nat → Nat) : ymap f (yd lab P tr) = yd (fun u => f (lab u)) P tr := by
  unfold ymap yd
  simp only [List.map_map]
  rfl
/-! the class's yard -/
def smk (kinds broken : Nat → Int32) (u : Nat) : Nat := if broken u = 0 then (kinds u).toNatClampNeg + 1 else 5
section YD
variable {kinds broken wanted trackOf : Nat → Int32} {P : Nat} {tr : Nat → Nat}
theorem smk_r (hk : ∀ u, u < P → ∃ k, k < 4 ∧ kinds u = nI k) : ∀ u, u < P → 1 ≤ smk kinds broken u ∧ smk kinds broken u ≤ 7 := by
  intro u hu
  obtain ⟨k, hk4, hk2⟩ := hk u hu
  unfold smk
  split
  · rw [hk2, i_cl (by omega)]; omega
  · omega
theorem t_servingMark {u : Nat} (hu : u < 5) (hk : ∃ k, k < 4 ∧ kinds u = nI k) {post : Int32 → Prop} (hp : post (nI (smk kinds broken u))) : wp_X3_servingMark kinds broken (nI u) post := by
  obtain ⟨k, hk4, hk2⟩ := hk
  unfold wp_X3_servingMark
  refine ⟨i_in hu (by omega), ?_⟩
  rw [i_cl (by omega)]
  unfold smk at hp
  refine ⟨fun q => ⟨i_in hu (by omega), ?_⟩, fun q => ?_⟩
  · rw [if_pos q, hk2, i_cl (by omega)] at hp
    unfold wp_X2_markOfKind
    rw [hk2, i_1]
    exact hp
  · rw [if_neg q] at hp
    exact hp
theorem t_yard (hP : P ≤ 5) (htr : ∀ u, tr u < 3) (hto : ∀ u, u < P → trackOf u = nI (tr u)) (hk : ∀ u, u < P → ∃ k, k < 4 ∧ kinds u = nI k) {x1 : Int32} {lab : Nat → Nat} (hx : (x1 = 0 ∧ lab = smk kinds broken) ∨ (x1 = 1 ∧ lab = fun u => u + 1)) {post : Int64 → Prop} (hp : post (lN (enc (yd lab P tr)))) : wp_X3_yard kinds broken trackOf (nI P) x1 post := by
  unfold wp_X3_yard
  have hlab : ∀ u, u < P → 1 ≤ lab u ∧ lab u ≤ 7 := by
    rcases hx with ⟨-, rfl⟩ | ⟨-, rfl⟩
    · exact smk_r hk
    · intro u hu; simp only; omega
  have key : ∀ (d x : Nat), x + d = P → Z_X3_yard_5 kinds broken trackOf (nI P) x1 post (d + 1) (lN (enc (yd lab x tr))) (nI x) := by
    intro d
    induction d with
    | zero =>
      intro x hx
      show Y_X3_yard_5 _ _ _ _ _ _ _ _ _
      unfold Y_X3_yard_5
      have : x = P := by omega
      subst this
      exact ⟨fun _ => hp, fun q => absurd ((i_le (by omega) (by omega)).mpr (Nat.le_refl _)) q⟩
    | succ d ih =>
      intro x hxd
      show Y_X3_yard_5 _ _ _ _ _ _ _ _ _
      unfold Y_X3_yard_5
      have put : B_X3_yard_34 kinds broken trackOf (nI P) x1 post (Z_X3_yard_5 kinds broken trackOf (nI P) x1 post (d + 1)) (lN (enc (yd lab x tr))) (nI x) (nI (lab x)) := by
        unfold B_X3_yard_34
        refine ⟨i_in (by omega) (by omega), ?_⟩
        rw [i_cl (by omega), hto x (by omega)]
        have hyk := yd_yk (lab := lab) (P := x) htr (by omega) (fun u hu => hlab u (by omega))
        refine t_put (yk_ok hyk) (htr x) (hlab x (by omega)) ?_ ?_
        · rw [yt_yd _ _ _ (htr x), List.length_map]
          have := tk_le x tr (tr x)
          omega
        · rw [← yd_succ lab x tr (htr x), i_1]
          exact ih (x + 1) (by omega)
      refine ⟨fun q => absurd ((i_le (by omega) (by omega)).mp q) (by omega), fun _ => ⟨fun q => ?_, fun q => ?_⟩⟩
      · rcases hx with ⟨-, e⟩ | ⟨e, -⟩
        · refine t_servingMark (by omega) (hk x (by omega)) ?_
          rw [e] at put
          rw [e]
          exact put
        · rw [e] at q; exact absurd q (by decide)
      · rcases hx with ⟨e, -⟩ | ⟨-, e⟩
        · exact absurd e q
        · rw [i_1]
          rw [e] at put
          rw [e]
          exact put
  have h0 : (0 : Int64) = lN (enc (yd lab 0 tr)) := by
    show _ = lN (enc (0, [], [], []))
    rfl
  rw [h0]
  exact ⟨_, key P 0 (by omega)⟩
/-- whether the unit of a label may leave in place i -/
def svu (kinds broken wanted : Nat → Int32) : Nat → Nat → Bool := fun l i => srv kinds broken (l - 1) (wanted i)
theorem svm_u {u i : Nat} (hk : ∃ k, k < 4 ∧ kinds u = nI k) (hw : ∃ k, k < 4 ∧ wanted i = nI k) : svm wanted (smk kinds broken u) i = svu kinds broken wanted (u + 1) i := by
  obtain ⟨k, hk4, hk2⟩ := hk
  obtain ⟨j, hj4, hj2⟩ := hw
  show decide (nI (smk kinds broken u) = wanted i + 1) = (decide (kinds u = wanted i) && decide (broken u = 0))
  unfold smk
  rw [hk2, hj2, i_1]
  by_cases q : broken u = 0
  · rw [if_pos q, i_cl (by omega), decide_eq_true q, Bool.and_true]
    by_cases e : k = j
    · subst e; simp
    · rw [decide_eq_false (fun h => e (by have := (i_eq (by omega) (by omega)).mp h; omega)), decide_eq_false (fun h => e ((i_eq (by omega) (by omega)).mp h))]
  · rw [if_neg q, decide_eq_false q, Bool.and_false]
    exact decide_eq_false (fun h => by have := (i_eq (a := 5) (by omega) (by omega)).mp h; omega)
end YD
