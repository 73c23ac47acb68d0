/-! who asks for the run: the reference's callers, the class's lateBits -/
def SM (P : Nat) (tr : Nat → Nat) (stand many : Nat → Int32) : Prop := ∀ t, t < 3 → many t = nI (sq P tr t).length ∧ ∀ i, i < (sq P tr t).length → stand (5 * t + i) = nI ((sq P tr t).getD i 0)
theorem SM_NH {P : Nat} {tr : Nat → Nat} {stand many : Nat → Int32} (h : SM P tr stand many) : NH (yd (fun u => u + 1) P tr) stand many := by
  intro t ht
  obtain ⟨h1, h2⟩ := h t ht
  have e : (yt (yd (fun u => u + 1) P tr) t).length = (sq P tr t).length := by
    rw [yt_yd _ _ _ ht, List.length_map, tk_sq, List.length_reverse]
  refine ⟨by rw [e]; exact h1, fun i hi => ?_⟩
  rw [e] at hi
  rw [h2 i hi, yt_yd _ _ _ ht, tk_sq, ← List.map_reverse, List.reverse_reverse]
  congr 1
  rw [List.getD_eq_getElem?_getD, List.getD_eq_getElem?_getD, List.getElem?_map, List.getElem?_eq_getElem hi]
  simp
theorem rus_len (sv : Nat → Nat → Bool) (ln : Nat → Nat) (n : Nat) : ∀ (ws : List Nat) (y : YS), (rus sv ln n y ws).length = ws.length
  | [], y => rfl
  | w :: r, y => by simp only [rus, List.length_cons, rus_len sv ln n r]
theorem rus_filt {sv : Nat → Nat → Bool} {ln : Nat → Nat} {n : Nat} : ∀ (ws : List Nat) (y z : YS), (∀ u ∈ cat y.2, u ≤ 5) → fol sv ln n y ws = some z → (rus sv ln n y ws).filter (fun x => decide (¬ x = -1)) = (lvs sv ln n y ws).map (fun l => nI (l - 1)) ∧ ∀ l ∈ lvs sv ln n y ws, l ∈ cat y.2
  | [], y, z, _, _ => ⟨rfl, fun l hl => absurd hl (by simp [lvs])⟩
  | w :: r, y, z, h5, h => by
    obtain ⟨x, h1, h2⟩ := fol_pre sv ln n [w] r y z h
    obtain ⟨hw, h3⟩ := fol_one h1
    have hsub := nxt_sub hw h3
    obtain ⟨i1, i2⟩ := rus_filt r x z (fun u hu => h5 u (hsub u hu)) h2
    simp only [rus, lvs, h3, Option.getD_some]
    by_cases q : w < 3
    · obtain ⟨-, u, R, hl, -, -⟩ := (nxt_go q).mp h3
      have hu : u ∈ cat y.2 := mem_cat.mpr ⟨w, q, by rw [hl]; exact List.mem_cons_self⟩
      have hu5 := h5 u hu
      have e : (yt y w).headD 0 = u := by rw [hl]; rfl
      rw [if_pos q, if_pos q, e, List.filter_cons, if_pos (by simpa using nI_m1 (a := u - 1) (by omega)), i1]
      refine ⟨rfl, fun l hm => ?_⟩
      rcases List.mem_cons.mp hm with k | k
      · rw [k]; exact hu
      · exact hsub l (i2 l k)
    · rw [if_neg q, if_neg q, List.filter_cons, if_neg (by simp), i1]
      exact ⟨rfl, fun l hm => hsub l (i2 l hm)⟩
section AK
variable {kinds broken wanted len stand many : Nat → Int32} {ln : Nat → Nat} {n P : Nat} {tr : Nat → Nat}
    {post : Int32 → Int32 → (Nat → Int64) → (Nat → Int32) → (Nat → Int32) → (Nat → Int32) → (Nat → Int32) → (Nat → Int32) → (Nat → Int32) → Int32 → (Nat → Int32) → (Nat → Int32) → Prop}
theorem yd_5 (hP : P ≤ 5) : ∀ u ∈ cat (yd (fun u => u + 1) P tr).2, 1 ≤ u ∧ u ≤ 5 := by
  intro u hu
  obtain ⟨v, hv, e⟩ := yd_mem hu
  have e' : u = v + 1 := e
  omega
theorem t_findNo (hn : n ≤ 5) (hP : P ≤ 5) (htr : ∀ u, tr u < 3) (hlen : ∀ t, t < 3 → len t = nI (ln t) ∧ ln t ≤ 5) (hS : SM P tr stand many) (hno : ∀ v, ¬ isRun (svu kinds broken wanted) ln n (yd (fun u => u + 1) P tr) v) {states rs0 : Int32} {told0 : Nat → Int64} {gone0 cost0 ways0 places0 now high run runUnit : Nat → Int32}
    (hpost : ∀ a1 a2 a3 a4 a5 a6 a7 a8 a9 a10, post 100000 a1 a2 a3 a4 a5 a6 a7 a8 0 a9 a10) : wp_X7_findRun kinds broken len (nI n) wanted stand many states told0 gone0 cost0 ways0 places0 now high rs0 run runUnit post :=
  t_findRun hn hP rfl (by show 0 + _ = _; rw [yd_tot _ _ _ htr, Nat.zero_add]) (yd_nd P tr htr) (yd_5 hP) hlen (SM_NH hS) (fun _ => hpost) (fun ws hws => absurd hws.1 (hno ws))
theorem t_findYes (hn : n ≤ 5) (hP : P ≤ 5) (htr : ∀ u, tr u < 3) (hlen : ∀ t, t < 3 → len t = nI (ln t) ∧ ln t ≤ 5) (hS : SM P tr stand many) {ws : List Nat} (hws : isFirst (svu kinds broken wanted) ln n (yd (fun u => u + 1) P tr) ws) {states rs0 : Int32} {told0 : Nat → Int64} {gone0 cost0 ways0 places0 now high run runUnit : Nat → Int32}
    (hpost : ws.length ≤ 90 → ∀ a1 a2 a3 a4 a5 a6 a7 a8 run' ru', (∀ i, i < ws.length → run' i = nI (cod (ws.getD i 0)) ∧ ru' i = (rus (svu kinds broken wanted) ln n (yd (fun u => u + 1) P tr) ws).getD i 0) → post (nI (ws.length - n)) a1 a2 a3 a4 a5 a6 a7 a8 (nI ws.length) run' ru') : wp_X7_findRun kinds broken len (nI n) wanted stand many states told0 gone0 cost0 ways0 places0 now high rs0 run runUnit post := by
  refine t_findRun hn hP rfl (by show 0 + _ = _; rw [yd_tot _ _ _ htr, Nat.zero_add]) (yd_nd P tr htr) (yd_5 hP) hlen (SM_NH hS) (fun hno => absurd hws.1 (hno ws)) (fun v hv hl a1 a2 a3 a4 a5 a6 a7 a8 run' ru' h => ?_)
  have e := first_one hv hws
  subst e
  obtain ⟨z, hz, hzn⟩ := hv.1
  have hL := fol_len _ _ _ hz
  have h0 : (yd (fun u => u + 1) P tr).1 = 0 := rfl
  have e2 : shc v = v.length - n := by omega
  rw [e2]
  exact hpost hl _ _ _ _ _ _ _ _ _ _ h
theorem t_leavesM {x1 : Int32} {st0 : Int32} {a1 : Nat → Int64} {a2 a3 a4 a5 a6 a7 a8 ru : Nat → Int32} {tot : Nat} (ht : tot ≤ 90) : ∀ (R : List Int32) (k x : Nat), x < 2147483648 → k + R.length = tot → (∀ i, i < R.length → ru (k + i) = R.getD i 0) → post ((R.filter (fun x => decide (¬ x = -1))).getD x (-1)) st0 a1 a2 a3 a4 a5 a6 a7 (nI tot) a8 ru → Z_X7_leaves_16 kinds broken len (nI n) wanted stand many x1 post st0 a1 a2 a3 a4 a5 a6 a7 (nI tot) a8 ru (R.length + 1) (nI x) (nI k)
  | [], k, x, hx, hk, hr, hp => by
    show Y_X7_leaves_16 _ _ _ _ _ _ _ _ _ _ _ _ _ _ _ _ _ _ _ _ _ _ _
    unfold Y_X7_leaves_16
    have e : k = tot := by simpa using hk
    subst e
    exact ⟨fun _ => hp, fun q => absurd ((i_le (by omega) (by omega)).mpr (Nat.le_refl _)) q⟩
  | v :: R, k, x, hx, hk, hr, hp => by
    rw [List.length_cons] at hk
    have h0 : ru k = v := hr 0 (by simp)
    have hr' : ∀ i, i < R.length → ru (k + 1 + i) = R.getD i 0 := fun i hi => by
      have := hr (i + 1) (by simp; omega)
      rw [show k + 1 + i = k + (i + 1) by omega, this]
      rfl
    show Y_X7_leaves_16 _ _ _ _ _ _ _ _ _ _ _ _ _ _ _ _ _ _ _ _ _ _ _
    unfold Y_X7_leaves_16
    refine ⟨fun q => absurd ((i_le (by omega) (by omega)).mp q) (by omega), fun _ => ⟨i_in (by omega) (by omega), ?_⟩⟩
    rw [i_cl (by omega), h0, i_1]
    refine ⟨fun q => ?_, fun q => ⟨fun q2 => ?_, fun q2 => ⟨i_in (by omega) (by omega), ?_⟩⟩⟩
    · refine t_leavesM ht R (k + 1) x hx (by omega) hr' ?_
      rw [List.filter_cons, if_neg (by simpa using q)] at hp
      exact hp
    · cases x with
      | zero => exact absurd rfl q2
      | succ x =>
        rw [i_m1, nI_pred]
        refine t_leavesM ht R (k + 1) x (by omega) (by omega) hr' ?_
        rw [List.filter_cons, if_pos (by simpa using q)] at hp
        exact hp
    · have e : x = 0 := (i_eq (b := 0) hx (by omega)).mp q2
      subst e
      rw [List.filter_cons, if_pos (by simpa using q)] at hp
      exact hp
end AK
def ltb (rd : Nat → Nat) (d : Nat) : List Nat → Nat → Int32 → Int32
  | [], _, b => b
  | l :: r, c, b => ltb rd d r (c + 1) (if rd (l - 1) ≤ d + 10 * c then b else b ||| ((1 : Int32) <<< (nI (l - 1) &&& 31)))
theorem all_in {U : Nat} {s : List Nat} (hs : ∀ u ∈ s, u < U) (hl : s.length = U) (hn : s.Nodup) {u : Nat} (hu : u < U) : ∃ p, ∃ h : p < s.length, s[p] = u := by
  by_cases q : u ∈ s
  · obtain ⟨p, h, e⟩ := List.mem_iff_getElem.mp q
    exact ⟨p, h, e⟩
  · exfalso
    have h1 := filt_len (List.range U) u List.nodup_range (List.mem_range.mpr hu)
    rw [List.length_range] at h1
    have h2 := pig ((List.range U).filter (fun v => !(v == u))) U (fun j => s.getD j 0) (fun j hj => by
      have hm : s.getD j 0 ∈ s := getD_mem (by omega)
      rw [List.mem_filter, List.mem_range]
      refine ⟨hs _ hm, ?_⟩
      have : s.getD j 0 ≠ u := fun e => q (e ▸ hm)
      simpa using this) (fun i j hij hj e => by
      have hi' : i < s.length := by omega
      have hj' : j < s.length := by omega
      have e' : s[i] = s[j] := by
        have : s.getD i 0 = s.getD j 0 := e
        rw [List.getD_eq_getElem?_getD, List.getD_eq_getElem?_getD, List.getElem?_eq_getElem hi', List.getElem?_eq_getElem hj'] at this
        simpa using this
      have := nd_inj hn hi' hj' e'
      omega)
    omega
theorem i_add (a b : Nat) : nI a + nI b = nI (a + b) := nI_add a b
section LT
variable {U n P d : Nat} {rd : Nat → Nat}
theorem t_lateBits (hn : n ≤ 5) (hU : U ≤ 5) (hd : d ≤ 1000) {leavers arr : Nat → Int32} {least : Int32} (hle : ¬ least = -1) (hrd : ∀ u, u < U → arr u = nI (rd u) ∧ rd u < 100000) {post : Int32 → Prop} : ∀ (r : List Nat) (i : Nat) (b : Int32), i + r.length = n → (∀ j, j < r.length → leavers (i + j) = nI (r.getD j 0 - 1)) → (∀ l ∈ r, l - 1 < U) → post (ltb rd d r i b) → Z_X6_lateBits_5 (nI U) (nI n) leavers least arr (nI d) post (r.length + 1) b (nI i)
  | [], i, b, hi, hl, hb, hp => by
    show Y_X6_lateBits_5 _ _ _ _ _ _ _ _ _ _
    unfold Y_X6_lateBits_5
    have e : i = n := by simpa using hi
    subst e
    exact ⟨fun _ => hp, fun q => absurd ((i_le (by omega) (by omega)).mpr (Nat.le_refl _)) q⟩
  | l :: r, i, b, hi, hl, hb, hp => by
    rw [List.length_cons] at hi
    have h0 : leavers i = nI (l - 1) := hl 0 (by simp)
    have hl' : ∀ j, j < r.length → leavers (i + 1 + j) = nI (r.getD j 0 - 1) := fun j hj => by
      have := hl (j + 1) (by simp; omega)
      rw [show i + 1 + j = i + (j + 1) by omega, this]
      rfl
    have hu : l - 1 < U := hb l List.mem_cons_self
    obtain ⟨r1, r2⟩ := hrd _ hu
    have hx : nI d + ((10 : Int32) * nI i) = nI (d + 10 * i) := by
      show nI d + (nI 10 * nI i) = _
      rw [pk_mul, nI_add]
    have ih := fun b' hp' => t_lateBits hn hU hd (leavers := leavers) hle hrd (post := post) r (i + 1) b' (by omega) hl' (fun l hl => hb l (List.mem_cons_of_mem _ hl)) hp'
    show Y_X6_lateBits_5 _ _ _ _ _ _ _ _ _ _
    unfold Y_X6_lateBits_5
    refine ⟨fun q => absurd ((i_le (by omega) (by omega)).mp q) (by omega), fun _ => ?_⟩
    unfold wp_X3_leaver
    refine ⟨fun q => absurd q hle, fun _ => ⟨fun q => absurd (i_neg q) (by rw [i_toInt (by omega)]; omega), fun _ => ⟨fun q => absurd ((i_le (by omega) (by omega)).mp q) (by omega), fun _ => ⟨i_in (by omega) (by omega), ?_⟩⟩⟩⟩
    rw [i_cl (by omega), h0]
    unfold wp_X0_hasUnit
    refine ⟨fun q => absurd (i_neg q) (by rw [i_toInt (by omega)]; omega), fun _ => ⟨fun q => absurd ((i_le (by omega) (by omega)).mp q) (by omega), fun _ => ⟨fun q => absurd q (by decide), fun _ => ⟨i_in (by omega) (by omega), ?_⟩⟩⟩⟩
    rw [i_cl (by omega), r1, hx, i_1]
    simp only [ltb] at hp
    refine ⟨fun q => ih _ ?_, fun q y7 e7 => ?_⟩
    · rw [if_pos ((i_le (by omega) (by omega)).mp q)] at hp
      exact hp
    · subst e7
      refine ih _ ?_
      rw [if_neg (fun h => q ((i_le (by omega) (by omega)).mpr h))] at hp
      exact hp
variable {kinds washes fuels broken wanted len stand many : Nat → Int32}
    {post : Int32 → Int32 → (Nat → Int64) → (Nat → Int32) → (Nat → Int32) → (Nat → Int32) → (Nat → Int32) → (Nat → Int32) → (Nat → Int32) → Int32 → (Nat → Int32) → (Nat → Int32) → (Nat → Int32) → (Nat → Int32) → (Nat → Int32) → (Nat → Int32) → Prop}
    {st0 rs x1 : Int32} {a1 : Nat → Int64} {a2 a3 a4 a5 a6 a7 a8 ru ord en bo be : Nat → Int32}
theorem t_late85 (hU : U ≤ 5) (hd : d ≤ 1000) {s : List Nat} (hl : s.length = U) (hs : ∀ u ∈ s, u < U) (hnd : s.Nodup) {oa ea : Nat → Int32} (hsel : (x1 = 0 ∧ oa = ord ∧ ea = en) ∨ (¬ x1 = 0 ∧ oa = bo ∧ ea = be)) (ho : rep oa s) (he : ∀ p, (h : p < s.length) → ea p = nI (rd s[p]) ∧ rd s[p] < 100000) {c p0 : Nat} (hc : c ≤ 400) (hp0 : p0 < s.length) {x5 : Int32} {K : Int32 → Prop} : ∀ (k p : Nat) (b : Int32), p + k = U → K (if p ≤ p0 ∧ ¬ rd s[p0] ≤ d + 10 * c then b ||| ((1 : Int32) <<< (nI s[p0] &&& 31)) else b) → Z_X7_late_85 (nI U) kinds washes fuels broken len (nI n) wanted stand many x1 (nI d) post (nI c) x5 (nI s[p0]) st0 a1 a2 a3 a4 a5 a6 a7 rs a8 ru ord en bo be K (k + 1) b (nI p) := by
  have hx : nI d + ((10 : Int32) * nI c) = nI (d + 10 * c) := by
    show nI d + (nI 10 * nI c) = _
    rw [pk_mul, nI_add]
  have hu0 := hs _ (List.getElem_mem hp0)
  intro k
  induction k with
  | zero =>
    intro p b hp hK
    show Y_X7_late_85 _ _ _ _ _ _ _ _ _ _ _ _ _ _ _ _ _ _ _ _ _ _ _ _ _ _ _ _ _ _ _ _ _ _ _
    unfold Y_X7_late_85
    refine ⟨fun _ => ?_, fun q => absurd ((i_le (by omega) (by omega)).mpr (by omega)) q⟩
    rw [if_neg (by omega)] at hK
    exact hK
  | succ k ih =>
    intro p b hp hK
    have hps : p < s.length := by omega
    have hup := hs _ (List.getElem_mem hps)
    have last : ∀ (x8 s0 : Int32), x8 = oa p → s0 = ea p → B_X7_late_144 (nI U) kinds washes fuels broken len (nI n) wanted stand many x1 (nI d) post (Z_X7_late_85 (nI U) kinds washes fuels broken len (nI n) wanted stand many x1 (nI d) post (nI c) x5 (nI s[p0]) st0 a1 a2 a3 a4 a5 a6 a7 rs a8 ru ord en bo be K (k + 1)) K b (nI c) x5 (nI s[p0]) (nI p) x8 s0 st0 a1 a2 a3 a4 a5 a6 a7 rs a8 ru ord en bo be := by
      intro x8 s0 e1 e2
      rw [ho p hps] at e1
      rw [(he p hps).1] at e2
      subst e1 e2
      have hb := (he p hps).2
      unfold B_X7_late_144
      rw [hx, Int32.or_zero, i_1]
      refine ⟨fun q y e => ?_, fun q => ⟨fun q2 y e => ?_, fun q2 y e => ?_⟩⟩
      · subst e
        have hne : p ≠ p0 := fun e => q (by subst e; rfl)
        refine ih (p + 1) y (by omega) ?_
        by_cases z : p ≤ p0
        · by_cases h3 : rd s[p0] ≤ d + 10 * c
          · rw [if_neg (fun h => h.2 h3)] at hK
            rw [if_neg (fun h => h.2 h3)]
            exact hK
          · rw [if_pos ⟨z, h3⟩] at hK
            rw [if_pos ⟨by omega, h3⟩]
            exact hK
        · rw [if_neg (by omega)] at hK
          rw [if_neg (by omega)]
          exact hK
      · subst e
        have e : p = p0 := nd_inj hnd hps hp0 ((i_eq (by omega) (by omega)).mp q)
        subst e
        have h3 := (i_le (by omega) (by omega)).mp q2
        refine ih (p + 1) y (by omega) ?_
        rw [if_neg (fun h => h.2 h3)] at hK
        rw [if_neg (by omega)]
        exact hK
      · subst e
        have e : p = p0 := nd_inj hnd hps hp0 ((i_eq (by omega) (by omega)).mp q)
        subst e
        have h3 : ¬ rd s[p] ≤ d + 10 * c := fun h => q2 ((i_le (by omega) (by omega)).mpr h)
        refine ih (p + 1) _ (by omega) ?_
        rw [if_pos ⟨Nat.le_refl _, h3⟩] at hK
        rw [if_neg (by omega)]
        exact hK
    show Y_X7_late_85 _ _ _ _ _ _ _ _ _ _ _ _ _ _ _ _ _ _ _ _ _ _ _ _ _ _ _ _ _ _ _ _ _ _ _
    unfold Y_X7_late_85 B_X7_late_121
    refine ⟨fun q => absurd ((i_le (by omega) (by omega)).mp q) (by omega), fun _ => ⟨fun q => absurd q (nI_m1 (by omega)), fun _ => ?_⟩⟩
    rw [i_cl (a := p) (by omega)]
    have hin : vp_in (nI p) 5 := i_in (by omega) (by omega)
    rcases hsel with ⟨z, e1, e2⟩ | ⟨z, e1, e2⟩
    · exact ⟨fun q => absurd z q, fun _ => ⟨hin, fun q => absurd z q, fun _ => ⟨hin, last _ _ (by rw [e1]) (by rw [e2])⟩⟩⟩
    · exact ⟨fun _ => ⟨hin, fun _ => ⟨hin, last _ _ (by rw [e1]) (by rw [e2])⟩, fun q => absurd q z⟩, fun q => absurd q z⟩
theorem t_late64 (hU : U ≤ 5) (hd : d ≤ 1000) {s : List Nat} (hl : s.length = U) (hs : ∀ u ∈ s, u < U) (hnd : s.Nodup) {oa ea : Nat → Int32} (hsel : (x1 = 0 ∧ oa = ord ∧ ea = en) ∨ (¬ x1 = 0 ∧ oa = bo ∧ ea = be)) (ho : rep oa s) (he : ∀ p, (h : p < s.length) → ea p = nI (rd s[p]) ∧ rd s[p] < 100000) {tot : Nat} (ht : tot ≤ 90) : ∀ (R : List Int32) (L : List Nat) (k c : Nat) (b : Int32), R.filter (fun x => decide (¬ x = -1)) = L.map (fun l => nI (l - 1)) → (∀ l ∈ L, l - 1 < U) → k + R.length = tot → c ≤ k → (∀ i, i < R.length → ru (k + i) = R.getD i 0) → post (ltb rd d L c b) st0 a1 a2 a3 a4 a5 a6 a7 (nI tot) a8 ru ord en bo be → Z_X7_late_64 (nI U) kinds washes fuels broken len (nI n) wanted stand many x1 (nI d) post st0 a1 a2 a3 a4 a5 a6 a7 (nI tot) a8 ru ord en bo be (R.length + 1) b (nI c) (nI k)
  | [], L, k, c, b, hf, hL, hk, hc, hr, hp => by
    show Y_X7_late_64 _ _ _ _ _ _ _ _ _ _ _ _ _ _ _ _ _ _ _ _ _ _ _ _ _ _ _ _ _ _ _ _
    unfold Y_X7_late_64
    have e : k = tot := by simpa using hk
    subst e
    have e : L = [] := by
      cases L with
      | nil => rfl
      | cons a L => exact absurd hf (by simp)
    subst e
    exact ⟨fun _ => hp, fun q => absurd ((i_le (by omega) (by omega)).mpr (Nat.le_refl _)) q⟩
  | v :: R, L, k, c, b, hf, hL, hk, hc, hr, hp => by
    rw [List.length_cons] at hk
    have h0 : ru k = v := hr 0 (by simp)
    have hr' : ∀ i, i < R.length → ru (k + 1 + i) = R.getD i 0 := fun i hi => by
      have := hr (i + 1) (by simp; omega)
      rw [show k + 1 + i = k + (i + 1) by omega, this]
      rfl
    show Y_X7_late_64 _ _ _ _ _ _ _ _ _ _ _ _ _ _ _ _ _ _ _ _ _ _ _ _ _ _ _ _ _ _ _ _
    unfold Y_X7_late_64
    refine ⟨fun q => absurd ((i_le (by omega) (by omega)).mp q) (by omega), fun _ => ⟨i_in (by omega) (by omega), ?_⟩⟩
    intro y26 e26
    rw [i_cl (by omega), h0] at e26
    subst e26
    by_cases q : y26 = -1
    · rw [List.filter_cons, if_neg (by simpa using q)] at hf
      have nx := t_late64 hU hd hl hs hnd hsel ho he ht R L (k + 1) c b hf hL (by omega) (by omega) hr' hp
      have hB : B_X7_late_182 (nI U) kinds washes fuels broken len (nI n) wanted stand many x1 (nI d) post (Z_X7_late_64 (nI U) kinds washes fuels broken len (nI n) wanted stand many x1 (nI d) post st0 a1 a2 a3 a4 a5 a6 a7 (nI tot) a8 ru ord en bo be (R.length + 1)) b (nI c) (nI k) y26 st0 a1 a2 a3 a4 a5 a6 a7 (nI tot) a8 ru ord en bo be := by
        unfold B_X7_late_182
        rw [Int32.add_zero, i_1, i_1]
        exact ⟨fun z => absurd q z, fun _ y e => by subst e; exact nx⟩
      refine ⟨1, ?_⟩
      show Y_X7_late_85 _ _ _ _ _ _ _ _ _ _ _ _ _ _ _ _ _ _ _ _ _ _ _ _ _ _ _ _ _ _ _ _ _ _ _
      unfold Y_X7_late_85
      exact ⟨fun _ => hB, fun _ => ⟨fun _ => hB, fun z => absurd q z⟩⟩
    · rw [List.filter_cons, if_pos (by simpa using q)] at hf
      cases L with
      | nil => exact absurd hf (by simp)
      | cons l L =>
        rw [List.map_cons] at hf
        obtain ⟨f1, f2⟩ := List.cons.inj hf
        obtain ⟨p0, hp0, ep⟩ := all_in hs hl hnd (hL l List.mem_cons_self)
        simp only [ltb] at hp
        have nx := t_late64 hU hd hl hs hnd hsel ho he ht R L (k + 1) (c + 1) _ f2 (fun l' h => hL l' (List.mem_cons_of_mem _ h)) (by omega) (by omega) hr' hp
        rw [f1, ← ep]
        refine ⟨_, t_late85 hU hd hl hs hnd hsel ho he (by omega) hp0 U 0 b (by omega) ?_⟩
        unfold B_X7_late_182
        rw [i_1, i_1]
        refine ⟨fun _ y e => ?_, fun z => absurd z (nI_m1 (by have := hs _ (List.getElem_mem hp0); omega))⟩
        subst e
        rw [ep]
        by_cases h : rd (l - 1) ≤ d + 10 * c
        · rw [if_pos h] at nx
          rw [if_neg (fun z => z.2 h)]
          exact nx
        · rw [if_neg h] at nx
          rw [if_pos ⟨Nat.zero_le _, h⟩]
          exact nx
end LT
