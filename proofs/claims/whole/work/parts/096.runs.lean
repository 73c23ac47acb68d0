/-! the class's runs: the leavers, what is known of the first run -/
def lvs (sv : Nat → Nat → Bool) (ln : Nat → Nat) (n : Nat) : YS → List Nat → List Nat
  | _, [] => []
  | y, w :: r => if w < 3 then (yt y w).headD 0 :: lvs sv ln n ((nxt sv ln n y w).getD y) r else lvs sv ln n ((nxt sv ln n y w).getD y) r
theorem lvs_len {sv : Nat → Nat → Bool} {ln : Nat → Nat} {n : Nat} : ∀ (ws : List Nat) (y z : YS), fol sv ln n y ws = some z → (lvs sv ln n y ws).length + y.1 = z.1
  | [], y, z, h => by simp only [fol, Option.some.injEq] at h; subst h; simp [lvs]
  | w :: r, y, z, h => by
    obtain ⟨x, h1, h2⟩ := fol_pre sv ln n [w] r y z h
    obtain ⟨hw, h3⟩ := fol_one h1
    have h4 := nxt_g h3
    have h5 := lvs_len r x z h2
    simp only [lvs, h3, Option.getD_some]
    unfold csh at h4
    by_cases q : w < 3
    · rw [if_pos q] at h4 ⊢; simp only [List.length_cons]; omega
    · rw [if_neg q] at h4 ⊢; omega
section RN
variable {kinds broken wanted trackOf len : Nat → Int32} {P n : Nat} {tr ln : Nat → Nat} {sv : Nat → Nat → Bool}
theorem cod_go {w : Nat} (h : w < 3) : cod w = w := by unfold cod; rw [if_pos h]
theorem cod_sh {w : Nat} (h : ¬ w < 3) : cod w = 10 + 3 * wfr w + wto w := by unfold cod; rw [if_neg h]
theorem t_nameLoop (hn : n ≤ 5) {L : Nat} (hL : L < 100000) {steps : Nat → Int32} {post : (Nat → Int32) → Prop} : ∀ (r : List Nat) (y z : YS) (i : Nat) (arr : Nat → Int32), yk y → fol sv ln n y r = some z → i + r.length = L → (∀ j, j < r.length → steps (i + j) = nI (cod (r.getD j 0))) → (∀ arr' : Nat → Int32, (∀ j, j < y.1 → arr' j = arr j) → (∀ j, j < (lvs sv ln n y r).length → arr' (y.1 + j) = nI ((lvs sv ln n y r).getD j 0 - 1)) → post arr') → Z_X3_nameLeavers_11 L kinds broken trackOf (nI P) steps post (r.length + 1) (lN (enc y)) (nI y.1) (nI i) arr
  | [], y, z, i, arr, hy, hf, hi, hs, hp => by
    show Y_X3_nameLeavers_11 _ _ _ _ _ _ _ _ _ _ _ _
    unfold Y_X3_nameLeavers_11
    have e : i = L := by simpa using hi
    subst e
    exact ⟨fun _ => hp arr (fun _ _ => rfl) (fun j hj => absurd hj (Nat.not_lt_zero j)), fun q => absurd ((i_le (by omega) (by omega)).mpr (Nat.le_refl _)) q⟩
  | w :: r, y, z, i, arr, hy, hf, hi, hs, hp => by
    obtain ⟨x, h1, h2⟩ := fol_pre sv ln n [w] r y z hf
    obtain ⟨hw9, h3⟩ := fol_one h1
    have hx : yk x := nxt_yk hw9 hn hy h3
    have hlt := nxt_lt h3
    have hg := nxt_g h3
    have hi2 : i + r.length + 1 = L := by rw [List.length_cons] at hi; omega
    have hs0 : steps i = nI (cod w) := hs 0 (by simp)
    have hs' : ∀ j, j < r.length → steps (i + 1 + j) = nI (cod (r.getD j 0)) := fun j hj => by
      have := hs (j + 1) (by simp; omega)
      rw [show i + 1 + j = i + (j + 1) by omega, this]
      rfl
    have ih := t_nameLoop hn hL (steps := steps) (post := post) r x z (i + 1)
    show Y_X3_nameLeavers_11 _ _ _ _ _ _ _ _ _ _ _ _
    unfold Y_X3_nameLeavers_11
    refine ⟨fun q => absurd ((i_le (by omega) (by omega)).mp q) (by omega), fun _ => ⟨i_in (by omega) (by omega), ?_⟩⟩
    rw [i_cl (by omega), hs0, i_1]
    intro y4 e4
    subst e4
    have hok := yk_ok hy
    by_cases hw : w < 3
    · obtain ⟨-, u, R, hl, -, hz⟩ := (nxt_go hw).mp h3
      have hlv : lvs sv ln n y (w :: r) = u :: lvs sv ln n x r := by
        simp only [lvs, if_pos hw, h3, Option.getD_some, hl]
        rfl
      have hu := hy.2.1 w hw u (by rw [hl]; exact List.mem_cons_self)
      have hx1 : x.1 = y.1 + 1 := by unfold csh at hg; rw [if_pos hw] at hg; omega
      rw [cod_go hw]
      refine ⟨fun _ => ⟨fun q => absurd ((i_le (a := 5) (by omega) (by omega)).mp q) (by omega), fun _ => ?_⟩, fun q => absurd ((i_lt (b := 10) (by omega) (by omega)).mpr (by omega)) q⟩
      refine t_lastMark hok hw (fun q => by rw [hl] at q; exact absurd q (by simp)) (fun m R' q => ?_)
      rw [hl] at q
      rw [← (List.cons.inj q).1]
      intro y9 e9
      have e9 : y9 = nI (u - 1) := by rw [e9]; exact i_sub (b := 1) hu.1
      subst e9
      refine ⟨i_in (by omega) (by omega), t_sendOff hok hw ?_⟩
      rw [hl, List.tail_cons, ← hz, i_cl (by omega), i_1, ← hx1]
      refine ih _ hx h2 (by omega) hs' (fun arr' k1 k2 => hp arr' (fun j hj => ?_) (fun j hj => ?_))
      · rw [k1 j (by omega), up_o _ _ (by omega)]
      · rw [hlv] at hj ⊢
        cases j with
        | zero =>
          rw [Nat.add_zero, k1 y.1 (by omega), up_s]
          rfl
        | succ j =>
          have := k2 j (by simpa using hj)
          rw [hx1, show y.1 + 1 + j = y.1 + (j + 1) by omega] at this
          rw [this]
          rfl
    · obtain ⟨f3, t3, hne⟩ := w_tracks ⟨w, hw9⟩ (by show 3 ≤ w; omega)
      simp only at f3 t3 hne
      obtain ⟨-, u, R, hl, hroom, hz⟩ := (nxt_sh (by omega)).mp h3
      have hlv : lvs sv ln n y (w :: r) = lvs sv ln n x r := by
        simp only [lvs, if_neg hw, h3, Option.getD_some]
      have hx1 : x.1 = y.1 := by unfold csh at hg; rw [if_neg hw] at hg; omega
      rw [cod_sh hw]
      refine ⟨fun q => absurd ((i_lt (b := 10) (by omega) (by omega)).mp q) (by omega), fun _ => ?_⟩
      intro y11 e11
      have e11 : y11 = nI (3 * wfr w + wto w) := by
        rw [e11]
        have := i_sub (a := 10 + 3 * wfr w + wto w) (b := 10) (by omega)
        rw [show 10 + 3 * wfr w + wto w - 10 = 3 * wfr w + wto w by omega] at this
        exact this
      subst e11
      have d1 : nI (3 * wfr w + wto w) / 3 = nI (wfr w) := by
        have := i_div (a := 3 * wfr w + wto w) (b := 3) (by omega) (by omega) (by omega)
        rw [show (3 * wfr w + wto w) / 3 = wfr w by omega] at this
        exact this
      have d2 : nI (3 * wfr w + wto w) - nI (3 * wfr w + wto w) / 3 * 3 = nI (wto w) := by
        have := i_rem (a := 3 * wfr w + wto w) (b := 3) (by omega) (by omega) (by omega)
        rw [show (3 * wfr w + wto w) % 3 = wto w by omega] at this
        exact this
      rw [d2, d1]
      have h5 : (yt y (wto w)).length < 5 := by
        have h6 := hy.1
        have h7 : (yt y (wfr w)).length = R.length + 1 := by rw [hl]; rfl
        generalize wfr w = a at *
        generalize wto w = b at *
        rcases (show a = 0 ∨ a = 1 ∨ a = 2 by omega) with e | e | e <;> rcases (show b = 0 ∨ b = 1 ∨ b = 2 by omega) with e' | e' | e' <;> subst e <;> subst e' <;> omega
      refine t_shuntP hok f3 t3 hne hl h5 ?_
      rw [← hz, ← hx1]
      exact ih _ hx h2 (by omega) hs' (fun arr' k1 k2 => hp arr' (fun j hj => k1 j (by omega)) (fun j hj => by rw [hlv] at hj ⊢; rw [← hx1]; exact k2 j hj))
theorem t_nameLeavers (hn : n ≤ 5) (hP : P ≤ 5) (htr : ∀ u, tr u < 3) (hto : ∀ u, u < P → trackOf u = nI (tr u)) (hk : ∀ u, u < P → ∃ k, k < 4 ∧ kinds u = nI k) {ws : List Nat} {z : YS} (hf : fol sv ln n (yd (fun u => u + 1) P tr) ws = some z) (hL : ws.length < 100000) {steps leavers : Nat → Int32} (hs : ∀ i, i < ws.length → steps i = nI (cod (ws.getD i 0))) {post : (Nat → Int32) → Prop}
    (hp : ∀ arr : Nat → Int32, (∀ j, j < (lvs sv ln n (yd (fun u => u + 1) P tr) ws).length → arr j = nI ((lvs sv ln n (yd (fun u => u + 1) P tr) ws).getD j 0 - 1)) → post arr) : wp_X3_nameLeavers ws.length kinds broken trackOf (nI P) steps leavers post := by
  unfold wp_X3_nameLeavers
  refine t_yard hP htr hto hk (Or.inr ⟨rfl, rfl⟩) ?_
  have hy := yd_yk (lab := fun u => u + 1) (P := P) htr hP (fun u hu => by show 1 ≤ u + 1 ∧ u + 1 ≤ 7; omega)
  refine ⟨_, t_nameLoop (sv := sv) (ln := ln) hn hL ws _ z 0 leavers hy hf (by omega) (fun j hj => by rw [Nat.zero_add]; exact hs j hj) (fun arr' k1 k2 => hp arr' (fun j hj => ?_))⟩
  have := k2 j hj
  rw [show (yd (fun u => u + 1) P tr).1 + j = j from Nat.zero_add j] at this
  exact this
/-! a run needs enough units -/
def csl (kinds broken : Nat → Int32) (k : Int32) (l : List Nat) : Nat := (l.filter (fun v => srv kinds broken (v - 1) k)).length
theorem csl_perm {k : Int32} {a b : List Nat} (h : a.Perm b) : csl kinds broken k a = csl kinds broken k b := (h.filter _).length_eq
theorem csl_map (k : Int32) (l : List Nat) : csl kinds broken k (l.map (fun u => u + 1)) = cs kinds broken k l := by
  unfold csl cs
  rw [List.filter_map, List.length_map]
  rfl
theorem csl_app (k : Int32) (a b : List Nat) : csl kinds broken k (a ++ b) = csl kinds broken k a + csl kinds broken k b := by
  unfold csl; rw [List.filter_append, List.length_append]
theorem run_cs (k : Int32) : ∀ (ws : List Nat) (y : YS), isRun (svu kinds broken wanted) ln n y ws → cw wanted k y.1 (n - y.1) ≤ csl kinds broken k (cat y.2)
  | [], y, h => by
    obtain ⟨z, h1, h2⟩ := h
    simp only [fol, Option.some.injEq] at h1
    subst h1
    rw [h2, Nat.sub_self]
    exact Nat.zero_le _
  | w :: r, y, h => by
    obtain ⟨hw, z, h1, h2⟩ := run_cons.mp h
    have ih := run_cs k r z h2
    rcases nxt_cat hw h1 with ⟨e, hp⟩ | ⟨e, hlt, u, hs, hp⟩
    · rw [e] at ih
      rw [← csl_perm hp]
      exact ih
    · rw [csl_perm hp]
      have hs2 := srv_kind hs
      have : n - y.1 = (n - z.1) + 1 := by omega
      rw [this]
      simp only [cw]
      rw [← e]
      unfold csl at ih ⊢
      rw [List.filter_cons]
      by_cases q : wanted y.1 = k
      · rw [if_pos q, if_pos (by rw [← q]; exact hs), List.length_cons]
        omega
      · rw [if_neg q]
        split
        · rw [List.length_cons]; omega
        · omega
theorem run_eno (htr : ∀ u, tr u < 3) {ws : List Nat} (h : isRun (svu kinds broken wanted) ln n (yd (fun u => u + 1) P tr) ws) : eno kinds broken wanted n P = true := by
  refine eno_iff.mpr (fun k hk => ?_)
  have h1 := run_cs (nI k) ws _ h
  have h2 : csl kinds broken (nI k) (cat (yd (fun u => u + 1) P tr).2) = cn (fun u => srv kinds broken u (nI k)) P := by
    rw [← cs_sq kinds broken (nI k) tr htr P]
    show csl kinds broken (nI k) ((tk P tr 0).map _ ++ ((tk P tr 1).map _ ++ (tk P tr 2).map _)) = _
    rw [csl_app, csl_app, csl_map, csl_map, csl_map, tk_sq, tk_sq, tk_sq, cs_rev, cs_rev, cs_rev]
    omega
  rw [h2] at h1
  have h3 := cw_cn wanted (nI k) n 0
  rw [Nat.zero_add] at h3
  rw [h3]
  have : (yd (fun u => u + 1) P tr).1 = 0 := rfl
  rw [this, Nat.sub_zero] at h1
  show 0 + _ ≤ _
  omega
/-! what is known of the first run -/
def okR (kinds broken wanted : Nat → Int32) (ln : Nat → Nat) (n P : Nat) (tr : Nat → Nat) (leavers : Nat → Int32) (nst : Nat) (steps : Nat → Int32) (least : Int32) : Prop :=
  (least = -1 ∧ ∀ v, ¬ isRun (svu kinds broken wanted) ln n (yd (fun u => u + 1) P tr) v) ∨ ∃ ws, isFirst (svu kinds broken wanted) ln n (yd (fun u => u + 1) P tr) ws ∧ ws.length < 100000 ∧ nst = ws.length ∧ (∀ i, i < ws.length → steps i = nI (cod (ws.getD i 0))) ∧ n ≤ ws.length ∧ least = nI (ws.length - n) ∧ ∀ j, j < n → leavers j = nI ((lvs (svu kinds broken wanted) ln n (yd (fun u => u + 1) P tr) ws).getD j 0 - 1)
theorem t_rrefresh (hn : n ≤ 5) (hP : P ≤ 5) (htr : ∀ u, tr u < 3) (hto : ∀ u, u < P → trackOf u = nI (tr u)) (hk : ∀ u, u < P → ∃ k, k < 4 ∧ kinds u = nI k) (hwd : ∀ i, i < n → ∃ k, k < 4 ∧ wanted i = nI k) (hlen : ∀ t, t < 3 → len t = nI (ln t) ∧ ln t ≤ 5)
    {ch kn least : Int32} {leavers steps : Nat → Int32} {nst : Nat} (hold : kn = ch → okR kinds broken wanted ln n P tr leavers nst steps least) {ps : Nat → Int64} {mf sp sls : Nat → Int32} {met goal : Int32}
    {post : (Nat → Int32) → Nat → (Nat → Int32) → Int32 → Int32 → (Nat → Int64) → (Nat → Int32) → (Nat → Int32) → (Nat → Int32) → Int32 → Int32 → Prop} (hpost : ∀ leavers' nst' steps' least' ps' mf' sp' sls' met' goal', okR kinds broken wanted ln n P tr leavers' nst' steps' least' → nst' ≤ nst + 2956 → post leavers' nst' steps' least' ch ps' mf' sp' sls' met' goal') : wp_X3_refresh kinds broken len wanted (nI n) trackOf (nI P) ch leavers nst steps least kn ps mf sp sls met goal post := by
  unfold wp_X3_refresh
  refine ⟨fun _ => ?_, fun q => by rw [q]; exact hpost _ _ _ _ _ _ _ _ _ _ (hold q) (by omega)⟩
  refine t_hasEnough hn hP ?_
  cases he : eno kinds broken wanted n P with
  | false =>
    refine ⟨fun q => absurd rfl q, fun _ => hpost _ _ _ _ _ _ _ _ _ _ (Or.inl ⟨rfl, fun v hv => ?_⟩) (by omega)⟩
    rw [run_eno htr hv] at he
    exact absurd he (by decide)
  | true =>
    refine ⟨fun _ => ?_, fun q => absurd q (by decide)⟩
    refine t_yard hP htr hto hk (Or.inl ⟨rfl, rfl⟩) ?_
    have hyk := yd_yk (lab := smk kinds broken) (P := P) htr hP (smk_r hk)
    have hmap : yd (smk kinds broken) P tr = ymap (fun v => smk kinds broken (v - 1)) (yd (fun u => u + 1) P tr) := by rw [yd_map]; rfl
    have hsv : ∀ v ∈ cat (yd (fun u => u + 1) P tr).2, ∀ i, i < n → svm wanted ((fun v => smk kinds broken (v - 1)) v) i = svu kinds broken wanted v i := by
      intro v hv i hi
      obtain ⟨u, hu, rfl⟩ := yd_mem hv
      exact svm_u (hk u hu) (hwd i hi)
    have hcnt := cnt_marks (sv := svm wanted) (ln := ln) hn (y0 := yd (smk kinds broken) P tr) rfl (fun g => (wanted g + 1).toNatClampNeg) (by rw [yd_tot _ _ _ htr]; exact hP) (fun u hu => by obtain ⟨x, hx, rfl⟩ := yd_mem hu; exact (smk_r hk x hx).2) (fun u g hu hg hs => by
      have := of_decide_eq_true hs
      rw [← this, i_cl (by omega)])
    refine t_findsRun (ln := ln) hn hyk rfl hcnt hwd hlen (fun hno ps' mf' sp' sls' met' goal' => ⟨fun _ => hpost _ _ _ _ _ _ _ _ _ _ (Or.inl ⟨rfl, fun v hv => ?_⟩) (by omega), fun q => absurd rfl q⟩) (fun ps' mf' sp' sls' m g pth par lab hm hg hfst hp0 hpp => ⟨fun q => absurd q (by decide), fun _ => ?_⟩)
    · rw [hmap] at hno
      exact hno v ((run_map hsv v).mpr hv)
    · rw [hmap] at hfst
      have hf2 := (first_map hsv _).mp hfst
      refine t_stepsToGoal hm hp0 hpp hg (fun arr harr => ?_)
      have hpl := pth_len hp0 hpp g hg
      obtain ⟨z, hz1, hz2⟩ := hf2.1
      have hfl := fol_len _ _ _ hz1
      have hlv := lvs_len _ _ _ hz1
      have h00 : (yd (fun u => u + 1) P tr).1 = 0 := rfl
      have hfn : n ≤ (pth g).length := by
        have hsc : shc (pth g) ≤ (pth g).length + 0 → True := fun _ => trivial
        rw [h00, hz2] at hfl
        omega
      intro y15 e15
      rw [i_sub hfn] at e15
      subst e15
      refine t_nameLeavers hn hP htr hto hk hz1 (by omega) harr (fun arr' k2 => ?_)
      refine hpost _ _ _ _ _ _ _ _ _ _ (Or.inr ⟨pth g, hf2, by omega, rfl, harr, hfn, rfl, fun j hj => k2 j ?_⟩) (by omega)
      rw [h00, hz2] at hlv
      omega
end RN
