/-! the reference's costs -/
def sm (c : Nat → Nat) : Nat → Nat
  | 0 => 0
  | m + 1 => sm c m + c m
theorem sm_up (c : Nat → Nat) {s x : Nat} : ∀ (m : Nat), s < m → sm (nup c s x) m + c s = sm c m + x
  | 0, h => absurd h (Nat.not_lt_zero _)
  | m + 1, h => by
    simp only [sm]
    by_cases e : s = m
    · subst e
      rw [nup_s]
      have : ∀ k, k ≤ s → sm (nup c s x) k = sm c k := by
        intro k
        induction k with
        | zero => intro _; rfl
        | succ k ih => intro hk; simp only [sm]; rw [ih (by omega), nup_o c x (show ¬ k = s by omega)]
      rw [this s (Nat.le_refl _)]
      omega
    · have := sm_up c (x := x) m (show s < m by omega)
      rw [nup_o c x (show ¬ m = s by omega)]
      omega
section CO
variable {kinds broken wanted len stand many : Nat → Int32} {sv : Nat → Nat → Bool} {ln : Nat → Nat} {n m : Nat} {y0 : YS} {st : Nat → YS} {told : Nat → Int64} {gone ways places now high run runUnit : Nat → Int32} {rs : Int32}
    {post : Int32 → Int32 → (Nat → Int64) → (Nat → Int32) → (Nat → Int32) → (Nat → Int32) → (Nat → Int32) → (Nat → Int32) → (Nat → Int32) → Int32 → (Nat → Int32) → (Nat → Int32) → Prop}
def CI (sv : Nat → Nat → Bool) (ln : Nat → Nat) (n m : Nat) (st : Nat → YS) (c : Nat → Nat) : Prop :=
  (∀ s, s < m → c s ≤ 100000) ∧ (∀ s, s < m → (st s).1 = n → c s = 0) ∧ ∀ s, s < m → c s < 100000 → ∃ v, isRun sv ln n (st s) v ∧ shc v = c s
def AC (m : Nat) (c : Nat → Nat) (cost : Nat → Int32) : Prop := ∀ s, s < m → cost s = nI (c s)
/-- the way w from s is no better than what is known -/
def C2 (m : Nat) (ways : Nat → Int32) (c : Nat → Nat) (s w : Nat) : Prop := ∀ j, j < m → ways (9 * s + w) = nI j → c s ≤ c j + csh w
theorem t_cost0 (hm : m ≤ 5056) (hn : n ≤ 5) (hgn : ∀ s, s < m → gone s = nI (st s).1 ∧ (st s).1 ≤ 5) {K45 : (Nat → Int32) → Prop} (hK : ∀ c cost, AC m c cost → CI sv ln n m st c → K45 cost) {cost0 : Nat → Int32} : ∃ k, Z_X7_findRun_6 kinds broken len (nI n) wanted stand many post (nI m) told gone ways places now high rs run runUnit K45 k 0 cost0 := by
  have key : ∀ (d s : Nat) (cost : Nat → Int32), s + d = m → AC s (fun s => if (st s).1 = n then 0 else 100000) cost → Z_X7_findRun_6 kinds broken len (nI n) wanted stand many post (nI m) told gone ways places now high rs run runUnit K45 (d + 1) (nI s) cost := by
    intro d
    induction d with
    | zero =>
      intro s cost hs hA
      have : s = m := by omega
      subst this
      show Y_X7_findRun_6 _ _ _ _ _ _ _ _ _ _ _ _ _ _ _ _ _ _ _ _ _ _
      unfold Y_X7_findRun_6
      refine ⟨fun _ => hK _ cost hA ⟨fun s _ => ?_, fun s _ h => ?_, fun s _ h => ?_⟩, fun q => absurd ((i_le (by omega) (by omega)).mpr (Nat.le_refl _)) q⟩
      · by_cases e : (st s).1 = n
        · simp only [if_pos e]; omega
        · simp only [if_neg e]; omega
      · simp only [if_pos h]
      · by_cases e : (st s).1 = n
        · simp only [if_pos e]; exact ⟨[], ⟨st s, rfl, e⟩, rfl⟩
        · simp only [if_neg e] at h; omega
    | succ d ih =>
      intro s cost hs hA
      show Y_X7_findRun_6 _ _ _ _ _ _ _ _ _ _ _ _ _ _ _ _ _ _ _ _ _ _
      unfold Y_X7_findRun_6
      obtain ⟨h1, h2⟩ := hgn s (by omega)
      refine ⟨fun q => absurd ((i_le (by omega) (by omega)).mp q) (by omega), fun _ => ⟨i_in (by omega) (by omega), ?_⟩⟩
      rw [i_cl (by omega), h1]
      have nx : ∀ x : Nat, x = (if (st s).1 = n then 0 else 100000) → AC (s + 1) (fun s => if (st s).1 = n then 0 else 100000) (upd cost s (nI x)) := by
        intro x hx a ha
        by_cases e : a = s
        · subst e; rw [up_s, hx]
        · rw [up_o _ _ e]; exact hA a (by omega)
      refine ⟨fun q => ?_, fun q => ?_⟩
      · unfold B_X7_findRun_38
        rw [i_cl (by omega), i_1]
        exact ⟨i_in (by omega) (by omega), ih (s + 1) _ (by omega) (nx 100000 (by rw [if_neg (fun e => q (by rw [e]))]))⟩
      · unfold B_X7_findRun_38
        rw [i_cl (by omega), i_1]
        exact ⟨i_in (by omega) (by omega), ih (s + 1) _ (by omega) (nx 0 (by rw [if_pos ((i_eq (by omega) (by omega)).mp q)]))⟩
  exact ⟨_, key m 0 cost0 (by omega) (fun s hs => by omega)⟩
/-- a pass: nothing is better, or the sum has fallen -/
def PI (sv : Nat → Nat → Bool) (ln : Nat → Nat) (n m : Nat) (st : Nat → YS) (ways : Nat → Int32) (c0 : Nat → Nat) (done : Nat → Nat → Prop) (c : Nat → Nat) (more : Int32) : Prop :=
  CI sv ln n m st c ∧ ((more = 0 ∧ c = c0 ∧ ∀ s w, s < m → w < 9 → done s w → C2 m ways c0 s w) ∨ (more = 1 ∧ sm c m < sm c0 m))
theorem t_pass66 (hm : m ≤ 5056) (T : TI sv ln n y0 m 0 m st ways) {c0 : Nat → Nat} {s : Nat} (hs : s < m) {K143 : Int32 → (Nat → Int32) → Prop} (hK : ∀ c cost more, AC m c cost → PI sv ln n m st ways c0 (fun a b => s ≤ a) c more → K143 more cost) : ∀ (d w : Nat) (c : Nat → Nat) (cost : Nat → Int32) (more : Int32), w + d = 9 → AC m c cost → PI sv ln n m st ways c0 (fun a b => s < a ∨ (a = s ∧ b < w)) c more → Z_X7_findRun_66 kinds broken len (nI n) wanted stand many post (nI s) (nI m) told gone ways places now high rs run runUnit K143 (d + 1) more (nI w) cost := by
  intro d
  induction d with
  | zero =>
    intro w c cost more hw hA hP
    have : w = 9 := by omega
    subst this
    show Y_X7_findRun_66 _ _ _ _ _ _ _ _ _ _ _ _ _ _ _ _ _ _ _ _ _ _ _ _
    unfold Y_X7_findRun_66
    refine ⟨fun _ => hK c cost more hA ⟨hP.1, ?_⟩, fun q => absurd (by decide) q⟩
    rcases hP.2 with ⟨h1, h2, h3⟩ | h
    · exact Or.inl ⟨h1, h2, fun a b ha hb hd => h3 a b ha hb (by omega)⟩
    · exact Or.inr h
  | succ d ih =>
    intro w c cost more hw hA hP
    have hw9 : w < 9 := by omega
    obtain ⟨⟨i1, i2, i3⟩, hP2⟩ := hP
    show Y_X7_findRun_66 _ _ _ _ _ _ _ _ _ _ _ _ _ _ _ _ _ _ _ _ _ _ _ _
    unfold Y_X7_findRun_66
    have hidx : ((9 : Int32) * nI s) + nI w = nI (9 * s + w) := by
      show nI 9 * nI s + nI w = _
      rw [pk_mul, nI_add]
    rw [hidx]
    refine ⟨fun q => absurd ((i_le (a := 9) (by omega) (by omega)).mp q) (by omega), fun _ => ⟨i_in (by omega) (by omega), ?_⟩⟩
    rw [i_cl (by omega)]
    -- nothing better
    have stay : ∀ by' : Nat, c s ≤ by' → by' < 200000 → (∀ j, j < m → ways (9 * s + w) = nI j → by' = c j + csh w) → B_X7_findRun_114 kinds broken len (nI n) wanted stand many post (Z_X7_findRun_66 kinds broken len (nI n) wanted stand many post (nI s) (nI m) told gone ways places now high rs run runUnit K143 (d + 1)) K143 more (nI s) (nI w) (nI by') (nI m) told gone cost ways places now high rs run runUnit := by
      intro by' hb hb2 hC
      have hcs := i1 s hs
      unfold B_X7_findRun_114
      refine ⟨i_in (by omega) (by omega), ?_⟩
      rw [i_cl (by omega), hA s hs, i_1]
      refine ⟨fun _ => ih (w + 1) c cost more (by omega) hA ⟨⟨i1, i2, i3⟩, ?_⟩, fun q => absurd ((i_le (by omega) (by omega)).mpr hb) q⟩
      rcases hP2 with ⟨h1, h2, h3⟩ | h
      · refine Or.inl ⟨h1, h2, fun a b ha hb3 hd => ?_⟩
        by_cases e : a = s ∧ b = w
        · obtain ⟨e1, e2⟩ := e
          subst e1 e2
          intro j hj hjw
          have := hC j hj hjw
          rw [h2] at this hb
          omega
        · exact h3 a b ha hb3 (by omega)
      · exact Or.inr h
    intro y18 e18
    subst e18
    rcases T.2.2.2.2 s w hs (Or.inl ⟨hs, hw9⟩) with ⟨hx, hy⟩ | ⟨j, hj, hx, hy⟩
    · refine ⟨fun q => absurd hy q, fun _ => ?_⟩
      refine stay 100000 (i1 s hs) (by omega) (fun j hj hjw => ?_)
      rw [hy] at hjw
      exact absurd hjw.symm (nI_m1 (by omega))
    · have hcj := i1 j hj
      have hcs := i1 s hs
      rw [hy]
      refine ⟨fun _ => ⟨i_in (by omega) (by omega), ?_⟩, fun q => absurd q (nI_m1 (by omega))⟩
      rw [i_cl (by omega), hA j hj]
      have go : B_X7_findRun_114 kinds broken len (nI n) wanted stand many post (Z_X7_findRun_66 kinds broken len (nI n) wanted stand many post (nI s) (nI m) told gone ways places now high rs run runUnit K143 (d + 1)) K143 more (nI s) (nI w) (nI (c j + csh w)) (nI m) told gone cost ways places now high rs run runUnit := by
        have hc1 : csh w ≤ 1 := by unfold csh; split <;> omega
        rcases Nat.lt_or_ge (c j + csh w) (c s) with z | z
        · unfold B_X7_findRun_114
          refine ⟨i_in (by omega) (by omega), ?_⟩
          rw [i_cl (by omega), hA s hs, i_1]
          refine ⟨fun q => absurd ((i_le (by omega) (by omega)).mp q) (by omega), fun _ => ⟨i_in (by omega) (by omega), ?_⟩⟩
          have hsum := sm_up c (s := s) (x := c j + csh w) m hs
          refine ih (w + 1) (nup c s (c j + csh w)) _ 1 (by omega) (fun a ha => ?_) ⟨⟨fun a ha => ?_, fun a ha hg => ?_, fun a ha hc => ?_⟩, Or.inr ⟨rfl, ?_⟩⟩
          · by_cases e : a = s
            · subst e; rw [up_s, nup_s]
            · rw [up_o _ _ e, nup_o _ _ e]; exact hA a ha
          · by_cases e : a = s
            · subst e; rw [nup_s]; omega
            · rw [nup_o _ _ e]; exact i1 a ha
          · by_cases e : a = s
            · subst e; have := i2 a ha hg; omega
            · rw [nup_o _ _ e]; exact i2 a ha hg
          · by_cases e : a = s
            · subst e
              rw [nup_s]
              obtain ⟨v, hv1, hv2⟩ := i3 j hj (by omega)
              exact ⟨w :: v, run_cons.mpr ⟨hw9, st j, hx, hv1⟩, by simp only [shc]; omega⟩
            · rw [nup_o _ _ e] at hc ⊢; exact i3 a ha hc
          · rcases hP2 with ⟨h1, h2, -⟩ | ⟨-, h⟩
            · rw [← h2]; omega
            · omega
        · refine stay (c j + csh w) z (by omega) (fun j' hj' hjw => ?_)
          rw [hy] at hjw
          rw [(i_eq (by omega) (by omega)).mp hjw]
      refine ⟨fun q => ?_, fun q => ?_⟩
      · have h3 := (i_le (a := 3) (by omega) (by omega)).mp q
        have e : csh w = 1 := by unfold csh; rw [if_neg (by omega)]
        rw [e] at go
        unfold B_X7_findRun_113
        rw [i_1]
        exact go
      · have h3 : w < 3 := by
          rcases Nat.lt_or_ge w 3 with z | z
          · exact z
          · exact absurd ((i_le (a := 3) (by omega) (by omega)).mpr z) q
        have e : csh w = 0 := by unfold csh; rw [if_pos h3]
        rw [e] at go
        unfold B_X7_findRun_113
        have e0 : nI (c j) + 0 = nI (c j + 0) := by show nI (c j) + nI 0 = _; rw [nI_add]
        rw [e0]
        exact go
theorem t_pass60 (hm : m ≤ 5056) (T : TI sv ln n y0 m 0 m st ways) {c0 : Nat → Nat} {K149 : Int32 → (Nat → Int32) → Prop} (hK : ∀ c cost more, AC m c cost → PI sv ln n m st ways c0 (fun _ _ => True) c more → K149 more cost) : ∀ (s : Nat) (c : Nat → Nat) (cost : Nat → Int32) (more x2 : Int32), s ≤ m → x2 = nI s - 1 → AC m c cost → PI sv ln n m st ways c0 (fun a b => s ≤ a) c more → Z_X7_findRun_60 kinds broken len (nI n) wanted stand many post (nI m) told gone ways places now high rs run runUnit K149 (s + 1) more x2 cost := by
  intro s
  induction s with
  | zero =>
    intro c cost more x2 hs hx hA hP
    subst hx
    show Y_X7_findRun_60 _ _ _ _ _ _ _ _ _ _ _ _ _ _ _ _ _ _ _ _ _ _ _
    unfold Y_X7_findRun_60
    refine ⟨fun _ => hK c cost more hA ⟨hP.1, ?_⟩, fun q => absurd (by decide) q⟩
    rcases hP.2 with ⟨h1, h2, h3⟩ | h
    · exact Or.inl ⟨h1, h2, fun a b ha hb _ => h3 a b ha hb (Nat.zero_le _)⟩
    · exact Or.inr h
  | succ s ih =>
    intro c cost more x2 hs hx hA hP
    rw [nI_pred] at hx
    subst hx
    show Y_X7_findRun_60 _ _ _ _ _ _ _ _ _ _ _ _ _ _ _ _ _ _ _ _ _ _ _
    unfold Y_X7_findRun_60
    refine ⟨fun q => ?_, fun _ => ⟨_, t_pass66 hm T (s := s) (c0 := c0) (by omega) (fun c' cost' more' hA' hP' => ih c' cost' more' _ (by omega) (i_m1 s) hA' hP') 9 0 c cost more (by omega) hA ⟨hP.1, ?_⟩⟩⟩
    · have := i_neg q
      rw [i_toInt (by omega)] at this
      omega
    · rcases hP.2 with ⟨h1, h2, h3⟩ | h
      · exact Or.inl ⟨h1, h2, fun a b ha hb hd => h3 a b ha hb (by omega)⟩
      · exact Or.inr h
theorem t_costs (hm : m ≤ 5056) (h0 : 0 < m) (T : TI sv ln n y0 m 0 m st ways) {K152 : (Nat → Int32) → Prop} (hK : ∀ c cost, AC m c cost → CI sv ln n m st c → (∀ s w, s < m → w < 9 → C2 m ways c s w) → K152 cost) : ∀ (N : Nat) (c : Nat → Nat) (cost : Nat → Int32), sm c m ≤ N → AC m c cost → CI sv ln n m st c → Z_X7_findRun_47 kinds broken len (nI n) wanted stand many post (nI m) told gone ways places now high rs run runUnit K152 (N + 2) 1 cost := by
  intro N
  induction N with
  | zero =>
    intro c cost hN hA hC
    show Y_X7_findRun_47 _ _ _ _ _ _ _ _ _ _ _ _ _ _ _ _ _ _ _ _ _ _
    unfold Y_X7_findRun_47
    refine ⟨fun q => absurd q (by decide), fun _ => ?_⟩
    intro y14 e14
    refine ⟨_, t_pass60 (c0 := c) hm T (fun c' cost' more' hA' hP' => ?_) m c cost 0 y14 (Nat.le_refl _) e14 hA ⟨hC, Or.inl ⟨rfl, rfl, fun a b ha hb hd => by omega⟩⟩⟩
    rcases hP'.2 with ⟨h1, h2, h3⟩ | ⟨h1, h2⟩
    · subst h1
      show Y_X7_findRun_47 _ _ _ _ _ _ _ _ _ _ _ _ _ _ _ _ _ _ _ _ _ _
      unfold Y_X7_findRun_47
      exact ⟨fun _ => hK c' cost' hA' hP'.1 (fun s w hs hw => by rw [h2]; exact h3 s w hs hw trivial), fun q => absurd rfl q⟩
    · omega
  | succ N ih =>
    intro c cost hN hA hC
    show Y_X7_findRun_47 _ _ _ _ _ _ _ _ _ _ _ _ _ _ _ _ _ _ _ _ _ _
    unfold Y_X7_findRun_47
    refine ⟨fun q => absurd q (by decide), fun _ => ?_⟩
    intro y14 e14
    refine ⟨_, t_pass60 (c0 := c) hm T (fun c' cost' more' hA' hP' => ?_) m c cost 0 y14 (Nat.le_refl _) e14 hA ⟨hC, Or.inl ⟨rfl, rfl, fun a b ha hb hd => by omega⟩⟩⟩
    rcases hP'.2 with ⟨h1, h2, h3⟩ | ⟨h1, h2⟩
    · subst h1
      show Y_X7_findRun_47 _ _ _ _ _ _ _ _ _ _ _ _ _ _ _ _ _ _ _ _ _ _
      unfold Y_X7_findRun_47
      exact ⟨fun _ => hK c' cost' hA' hP'.1 (fun s w hs hw => by rw [h2]; exact h3 s w hs hw trivial), fun q => absurd rfl q⟩
    · subst h1
      exact ih c' cost' (by omega) hA' hP'.1
end CO
