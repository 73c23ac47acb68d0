def fc : Nat → Nat
  | 0 => 1
  | k + 1 => (k + 1) * fc k
theorem fc_pos : ∀ k, 0 < fc k
  | 0 => Nat.one_pos
  | k + 1 => Nat.mul_pos (Nat.succ_pos k) (fc_pos k)
theorem fc_le5 : ∀ k, k ≤ 5 → fc k ≤ 120 := by
  intro k hk
  rcases (show k = 0 ∨ k = 1 ∨ k = 2 ∨ k = 3 ∨ k = 4 ∨ k = 5 by omega) with rfl | rfl | rfl | rfl | rfl | rfl <;> decide
theorem av_snoc (U : Nat) (pre : List Nat) (u : Nat) : av U (pre ++ [u]) = (av U pre).filter (fun v => !(v == u)) := by
  unfold av
  rw [List.filter_filter]
  refine List.filter_congr (fun v _ => ?_)
  simp only [List.contains_eq_mem, List.mem_append, List.mem_singleton, Bool.decide_or, Bool.not_or]
  rw [Bool.and_comm]
  rfl
theorem filt_len : ∀ (l : List Nat) (u : Nat), l.Nodup → u ∈ l → (l.filter (fun v => !(v == u))).length + 1 = l.length
  | [], _, _, h => absurd h List.not_mem_nil
  | v :: l, u, hn, h => by
    have hn2 := List.nodup_cons.mp hn
    rw [List.filter_cons]
    by_cases e : v = u
    · subst e
      have : l.filter (fun z => !(z == v)) = l := List.filter_eq_self.mpr (fun z hz => by
        have : z ≠ v := fun q => hn2.1 (q ▸ hz)
        simp [this])
      simp [this]
    · have hu : u ∈ l := by
        rcases List.mem_cons.mp h with q | q
        · exact absurd q.symm e
        · exact q
      have := filt_len l u hn2.2 hu
      simp [e]
      omega
theorem av_nodup (U : Nat) (pre : List Nat) : (av U pre).Nodup := List.Pairwise.filter _ List.nodup_range
theorem av_len {U k : Nat} {pre : List Nat} (h : (av U pre).length = k + 1) {u : Nat} (hu : u ∈ av U pre) : (av U (pre ++ [u])).length = k := by
  have := filt_len (av U pre) u (av_nodup U pre) hu
  rw [av_snoc]
  omega
theorem av_lt {U : Nat} {pre : List Nat} {u : Nat} (hu : u ∈ av U pre) : u < U ∧ u ∉ pre := by
  unfold av at hu
  rw [List.mem_filter] at hu
  exact ⟨List.mem_range.mp hu.1, by simpa using hu.2⟩
theorem av_nil (U : Nat) : av U [] = List.range U := by
  unfold av
  exact List.filter_eq_self.mpr (fun v _ => by simp)
theorem flat_len {α β : Type} {g : α → List β} {c : Nat} : ∀ (l : List α), (∀ u ∈ l, (g u).length = c) → (l.flatMap g).length = l.length * c
  | [], _ => by simp
  | u :: l, h => by
    rw [List.flatMap_cons, List.length_append, h u List.mem_cons_self, flat_len l (fun v hv => h v (List.mem_cons_of_mem _ hv)), List.length_cons, Nat.succ_mul]
    omega
theorem flat_get {α β : Type} {g : α → List β} {c : Nat} : ∀ (l : List α) (q r : Nat), (∀ u ∈ l, (g u).length = c) → (hq : q < l.length) → r < c → (l.flatMap g)[q * c + r]? = (g l[q])[r]?
  | [], q, r, _, hq, _ => absurd hq (Nat.not_lt_zero q)
  | u :: l, q, r, h, hq, hr => by
    rw [List.flatMap_cons]
    have hu := h u List.mem_cons_self
    match q, hq with
    | 0, _ =>
      rw [List.getElem?_append_left (by omega)]
      simp
    | q + 1, hq =>
      have e : (q + 1) * c + r = c + (q * c + r) := by rw [Nat.succ_mul]; omega
      rw [e, List.getElem?_append_right (by omega), hu, Nat.add_sub_cancel_left]
      exact flat_get l q r (fun v hv => h v (List.mem_cons_of_mem _ hv)) (by simpa using hq) hr
theorem pp_len (U : Nat) : ∀ (k : Nat) (pre : List Nat), (av U pre).length = k → (pp U k pre).length = fc k
  | 0, _, _ => rfl
  | k + 1, pre, h => by
    simp only [pp]
    rw [flat_len (c := fc k) _ (fun u hu => pp_len U k _ (av_len h hu)), h, fc]
theorem pp_all (U : Nat) : ∀ (k : Nat) (pre s : List Nat), (∀ u ∈ pre, u < U) → pre.Nodup → s ∈ pp U k pre → (∀ u ∈ s, u < U) ∧ s.Nodup ∧ s.length = pre.length + k
  | 0, pre, s, h1, h2, hs => by simp only [pp, List.mem_singleton] at hs; subst hs; exact ⟨h1, h2, rfl⟩
  | k + 1, pre, s, h1, h2, hs => by
    simp only [pp, List.mem_flatMap] at hs
    obtain ⟨u, hu, hs⟩ := hs
    obtain ⟨hu1, hu2⟩ := av_lt hu
    have := pp_all U k (pre ++ [u]) s (fun v hv => by
      rcases List.mem_append.mp hv with q | q
      · exact h1 v q
      · rw [List.mem_singleton.mp q]; exact hu1) (List.nodup_append.mpr ⟨h2, by simp, fun a ha b hb => by rw [List.mem_singleton.mp hb]; exact fun q => hu2 (q ▸ ha)⟩) hs
    rw [List.length_append, List.length_singleton] at this
    exact ⟨this.1, this.2.1, by omega⟩
section W3
variable {U : Nat}
theorem t_find (hU : U ≤ 5) {pre : List Nat} {t : Int32} (ht : msk t pre) {x1 x2 x3 x4 x6 : Int32} {order : Nat → Int32} {post : (Nat → Int32) → Prop} {K88 : Int32 → Prop} : ∀ (d x s : Nat), x + d = U → (hs : s < (avx U pre x).length) → K88 (nI (avx U pre x)[s]) → Z_X7_tell_46 (nI U) x1 x2 post x3 x4 t x6 order K88 (d + 1) (nI s) (nI x) := by
  intro d
  induction d with
  | zero =>
    intro x s hx hs _
    rw [avx_end U pre (by omega)] at hs
    exact absurd hs (Nat.not_lt_zero s)
  | succ d ih =>
    intro x s hx hs hK
    have hxU : x < U := by omega
    have hbit := msk_bit ht (u := x) (by omega)
    have hs5 : s < 5 := by
      have h1 : (avx U pre x).length ≤ U := by
        unfold avx
        refine Nat.le_trans (List.length_filter_le _ _) ?_
        simp
      omega
    show Y_X7_tell_46 _ _ _ _ _ _ _ _ _ _ _ _ _
    unfold Y_X7_tell_46
    cases hc : pre.contains x with
    | true =>
      rw [hc] at hbit
      have hK2 : ∀ (hs2 : s < (avx U pre (x + 1)).length), K88 (nI (avx U pre (x + 1))[s]) := by
        intro hs2
        have : (avx U pre x)[s] = (avx U pre (x + 1))[s] := by congr 1; exact avx_in U pre hxU hc
        rw [this] at hK
        exact hK
      rw [avx_in U pre hxU hc] at hs
      refine ⟨fun _ => ?_, fun q => absurd hbit q⟩
      unfold B_X7_tell_62
      rw [i_1]
      refine ⟨fun _ y e => ?_, fun q => absurd (hbit.symm.trans q) (by decide)⟩
      rw [Int32.sub_zero] at e
      subst e
      exact ih (x + 1) s (by omega) hs (hK2 hs)
    | false =>
      rw [hc] at hbit
      have ha := avx_out U pre hxU hc
      refine ⟨fun q => absurd (hbit.symm.trans q) (by decide), fun _ => ⟨fun q => ?_, fun q => ?_⟩⟩
      · have : s = 0 := by
          have := (i_le (a := s) (b := 0) (by omega) (by omega)).mp q
          omega
        subst this
        have : (avx U pre x)[0] = x := by simp [ha]
        rw [this] at hK
        exact hK
      · have hs0 : 0 < s := by
          rcases Nat.eq_zero_or_pos s with z | z
          · subst z; exact absurd (Int32.le_refl 0) q
          · exact z
        unfold B_X7_tell_62
        rw [i_1]
        refine ⟨fun z => absurd hbit z, fun _ y e => ?_⟩
        have e2 : y = nI (s - 1) := by rw [e]; exact i_sub (b := 1) hs0
        subst e2
        have hs2 : s - 1 < (avx U pre (x + 1)).length := by
          have := hs
          rw [ha, List.length_cons] at this
          omega
        refine ih (x + 1) (s - 1) (by omega) hs2 ?_
        have : (avx U pre x)[s] = (avx U pre (x + 1))[s - 1] := by
          have : (x :: avx U pre (x + 1))[s]'(by rw [← ha]; exact hs) = (avx U pre (x + 1))[s - 1] := by
            rw [List.getElem_cons]
            rw [dif_neg (by omega)]
          rw [← this]
          congr 1
        rw [this] at hK
        exact hK
theorem t_tell (hU : U ≤ 5) {x1 x2 : Int32} {post : (Nat → Int32) → Prop} : ∀ (k : Nat) (pre : List Nat) (order : Nat → Int32) (t : Int32) (left : Nat), pre.length + k = U → (av U pre).length = k → msk t pre → rep order pre → (hleft : left < (pp U k pre).length) → (∀ order' : Nat → Int32, rep order' (pp U k pre)[left] → post order') → Z_X7_tell_11 (nI U) x1 x2 post (k + 1) (nI left) (nI (fc k)) t (nI pre.length) order := by
  intro k
  induction k with
  | zero =>
    intro pre order t left hl ha ht hr hleft hpost
    show Y_X7_tell_11 _ _ _ _ _ _ _ _ _ _
    unfold Y_X7_tell_11
    refine ⟨fun _ => ?_, fun q => absurd ((i_le (by omega) (by omega)).mpr (by omega)) q⟩
    refine hpost order ?_
    have : left = 0 := by simp only [pp, List.length_singleton] at hleft; omega
    subst this
    exact hr
  | succ k ih =>
    intro pre order t left hl ha ht hr hleft hpost
    have hfk := fc_pos k
    have hfk5 := fc_le5 k (by omega)
    have hfk6 := fc_le5 (k + 1) (by omega)
    have hlen := pp_len U (k + 1) pre ha
    have hlt : left < (k + 1) * fc k := by rw [hlen] at hleft; exact hleft
    have hq : left / fc k < k + 1 := (Nat.div_lt_iff_lt_mul hfk).mpr hlt
    have hm : left % fc k < fc k := Nat.mod_lt _ hfk
    show Y_X7_tell_11 _ _ _ _ _ _ _ _ _ _
    unfold Y_X7_tell_11
    refine ⟨fun q => absurd ((i_le (by omega) (by omega)).mp q) (by omega), fun _ => ?_⟩
    rw [i_sub (by omega), show U - pre.length = k + 1 by omega]
    refine ⟨fun q => absurd ((i_eq (b := 0) (by omega) (by omega)).mp q) (by omega), ?_⟩
    have hd : nI (fc (k + 1)) / nI (k + 1) = nI (fc k) := by
      rw [i_div (by omega) (by omega) (by omega)]
      congr 1
      rw [fc]
      exact Nat.mul_div_cancel_left _ (Nat.succ_pos k)
    rw [hd]
    intro y3 e3
    subst e3
    have hne : ¬ nI (fc k) = 0 := fun q => absurd ((i_eq (b := 0) (by omega) (by omega)).mp q) (by omega)
    refine ⟨hne, ?_⟩
    rw [i_div (by omega) hfk (by omega)]
    intro y5 e5
    subst e5
    refine ⟨hne, ?_⟩
    have hrem := i_rem (a := left) (b := fc k) (by omega) hfk (by omega)
    rw [i_div (by omega) hfk (by omega)] at hrem
    rw [hrem]
    intro y7 e7
    subst e7
    have hq2 : left / fc k < (avx U pre 0).length := by rw [avx_0, ha]; exact hq
    refine ⟨_, t_find hU ht U 0 (left / fc k) (by omega) hq2 ?_⟩
    have hmem : (avx U pre 0)[left / fc k] ∈ av U pre := by rw [← avx_0]; exact List.getElem_mem hq2
    obtain ⟨hu1, hu2⟩ := av_lt hmem
    generalize hue : (avx U pre 0)[left / fc k] = u at hmem hu1 hu2
    refine ⟨i_in (by omega) (by omega), ?_⟩
    intro y15 e15
    subst e15
    rw [i_cl (by omega), i_1]
    have hu5 : u < 5 := by omega
    have hlen2 := pp_len U k (pre ++ [u]) (av_len ha hmem)
    have hget : (pp U (k + 1) pre)[left]? = (pp U k (pre ++ [u]))[left % fc k]? := by
      have h1 : left = left / fc k * fc k + left % fc k := by rw [Nat.mul_comm]; exact (Nat.div_add_mod left (fc k)).symm
      have h2 := flat_get (g := fun u => pp U k (pre ++ [u])) (c := fc k) (av U pre) (left / fc k) (left % fc k) (fun u hu => pp_len U k _ (av_len ha hu)) (by rw [ha]; exact hq) hm
      rw [← h1] at h2
      have h3 : (av U pre)[left / fc k]'(by rw [ha]; exact hq) = u := hue
      rw [h3] at h2
      exact h2
    have := ih (pre ++ [u]) (upd order pre.length (nI u)) (t ||| ((1 : Int32) <<< (nI u &&& 31))) (left % fc k) (by simp; omega) (av_len ha hmem) (msk_or ht hu5) (rep_add hr u) (by rw [hlen2]; exact hm) (fun order' ho => hpost order' (by
      have hl2 : left % fc k < (pp U k (pre ++ [u])).length := by rw [hlen2]; exact hm
      rw [List.getElem?_eq_getElem hleft, List.getElem?_eq_getElem hl2] at hget
      rw [Option.some.inj hget]
      exact ho))
    rw [List.length_append, List.length_singleton] at this
    exact this
end W3
