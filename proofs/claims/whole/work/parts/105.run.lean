/-! the reference's run -/
def rus (sv : Nat → Nat → Bool) (ln : Nat → Nat) (n : Nat) : YS → List Nat → List Int32
  | _, [] => []
  | y, w :: r => (if w < 3 then nI ((yt y w).headD 0 - 1) else -1) :: rus sv ln n ((nxt sv ln n y w).getD y) r
def wyf (ways : Nat → Int32) (s w : Nat) : Option Nat := if ways (9 * s + w) = -1 then none else some (ways (9 * s + w)).toNatClampNeg
theorem TI_wy {sv : Nat → Nat → Bool} {ln : Nat → Nat} {n m : Nat} {y0 : YS} {st : Nat → YS} {ways : Nat → Int32} (hm : m ≤ 5056) (T : TI sv ln n y0 m 0 m st ways) {s w : Nat} (hs : s < m) (hw : w < 9) : (nxt sv ln n (st s) w = none ∧ wyf ways s w = none ∧ ways (9 * s + w) = -1) ∨ ∃ j, j < m ∧ nxt sv ln n (st s) w = some (st j) ∧ wyf ways s w = some j ∧ ways (9 * s + w) = nI j := by
  rcases T.2.2.2.2 s w hs (Or.inl ⟨hs, hw⟩) with ⟨h1, h2⟩ | ⟨j, hj, h1, h2⟩
  · left
    refine ⟨h1, ?_, h2⟩
    unfold wyf
    rw [if_pos h2]
  · right
    refine ⟨j, hj, h1, ?_, h2⟩
    unfold wyf
    rw [h2, if_neg (nI_m1 (by omega)), i_cl (by omega)]
section RU
variable {kinds broken wanted len stand many : Nat → Int32} {ln : Nat → Nat} {n m P : Nat} {y0 : YS} {st : Nat → YS} {told : Nat → Int64} {gone ways places cost : Nat → Int32}
    {post : Int32 → Int32 → (Nat → Int64) → (Nat → Int32) → (Nat → Int32) → (Nat → Int32) → (Nat → Int32) → (Nat → Int32) → (Nat → Int32) → Int32 → (Nat → Int32) → (Nat → Int32) → Prop}
theorem t_run159 (hn : n ≤ 5) (hP : P ≤ 5) (g1 : y0.1 + (cat y0.2).length = P) (g2 : (cat y0.2).Nodup) (g3 : ∀ u ∈ cat y0.2, 1 ≤ u ∧ u ≤ 5) (h0n : y0.1 ≤ n) (T : TI (svu kinds broken wanted) ln n y0 m 0 m st ways) (B : TB m st (nI m) told gone places) {c : Nat → Nat} (A : AC m c cost) (C : CI (svu kinds broken wanted) ln n m st c) (hC2 : ∀ s w, s < m → w < 9 → C2 m ways c s w) (hc0 : c 0 < 100000) : ∀ (l s k : Nat) (now high run runUnit : Nat → Int32), s < m → c s < 100000 → c s + (n - (st s).1) = l → k + l < 400 → (∀ (r : List Nat) (now' high' run' runUnit' : Nat → Int32), isFirst (svu kinds broken wanted) ln n (st s) r → shc r = c s → r.length = l → (∀ i, i < k → run' i = run i ∧ runUnit' i = runUnit i) → (∀ i, i < l → run' (k + i) = nI (cod (r.getD i 0)) ∧ runUnit' (k + i) = (rus (svu kinds broken wanted) ln n (st s) r).getD i 0) → post (nI (c 0)) (nI m) told gone cost ways places now' high' (nI (k + l)) run' runUnit') → Z_X7_findRun_159 kinds broken len (nI n) wanted stand many post (nI m) told gone cost ways places (l + 1) (nI s) now high (nI k) run runUnit := by
  have hm := cnt_units g1 g2 g3 m st T.2.2.1 T.2.2.2.1
  have hm0 : 0 < m := T.2.1
  have hys : ∀ j, j < m → ys P (st j) := fun j hj => by
    obtain ⟨ws, hws⟩ := T.2.2.1 j hj
    obtain ⟨d1, -, d3⟩ := fol_ys ws y0 (st j) g1 g2 hws
    exact ys_of hP d1 (fun u hu => g3 u (d3 u hu))
  have hgn : ∀ s, s < m → (st s).1 ≤ n := fun s hs => by
    obtain ⟨ws, hws⟩ := T.2.2.1 s hs
    exact fol_gn ws y0 (st s) h0n hws
  have hway : ∀ s, s < m → ∀ w, w < 9 → ∀ z, nxt (svu kinds broken wanted) ln n (st s) w = some z → ∃ j, j < m ∧ wyf ways s w = some j ∧ st j = z := by
    intro s hs w hw z hz
    rcases TI_wy hm T hs hw with ⟨h1, -⟩ | ⟨j, hj, h1, h2, -⟩
    · rw [h1] at hz; exact absurd hz (by simp)
    · rw [h1] at hz; exact ⟨j, hj, h2, Option.some.inj hz⟩
  have hwayN : ∀ s, s < m → ∀ w, w < 9 → nxt (svu kinds broken wanted) ln n (st s) w = none → wyf ways s w = none := by
    intro s hs w hw hz
    rcases TI_wy hm T hs hw with ⟨-, h1, -⟩ | ⟨j, hj, h1, h2, -⟩
    · exact h1
    · rw [h1] at hz; exact absurd hz (by simp)
  have hC2' : ∀ s, s < m → ∀ w, w < 9 → ∀ j, wyf ways s w = some j → c s ≤ c j + csh w := by
    intro s hs w hw j hj
    rcases TI_wy hm T hs hw with ⟨-, h1, -⟩ | ⟨j', hj', -, h2, h3⟩
    · rw [h1] at hj; exact absurd hj (by simp)
    · rw [h2] at hj
      have e := Option.some.inj hj
      subst e
      exact hC2 s w hs hw j' hj' h3
  obtain ⟨i1, i2, i3⟩ := C
  have hA0 : cost 0 = nI (c 0) := A 0 hm0
  intro l
  induction l with
  | zero =>
    intro s k now high run runUnit hs hc hl hk hp
    have hgs := hgn s hs
    have hsn : (st s).1 = n := by omega
    obtain ⟨-, b2⟩ := B.2.1 s hs
    show Y_X7_findRun_159 _ _ _ _ _ _ _ _ _ _ _ _ _ _ _ _ _ _ _ _ _
    unfold Y_X7_findRun_159
    have hz0 : (0 : Int32).toNatClampNeg = 0 := by decide
    rw [hz0, hA0]
    have hin0 : vp_in (0 : Int32) 5200 := i_in (a := 0) (by omega) (by omega)
    refine ⟨hin0, fun q => absurd ((i_le (a := 100000) (by omega) (by omega)).mp q) (by omega), fun _ => ⟨i_in (by omega) (by omega), ?_⟩⟩
    rw [i_cl (by omega), b2, hsn]
    refine ⟨fun _ => ⟨hin0, ?_⟩, fun q => absurd ((i_le (by omega) (by omega)).mpr (Nat.le_refl _)) q⟩
    have := hp [] now high run runUnit ⟨⟨st s, rfl, hsn⟩, fun v _ => by
      cases v with
      | nil => exact sl_refl _
      | cons a v => exact Or.inl (by simp)⟩ (by rw [i2 s hs hsn]; rfl) rfl (fun _ _ => ⟨rfl, rfl⟩) (fun i hi => by omega)
    rw [Nat.add_zero] at this
    exact this
  | succ l ih =>
    intro s k now high run runUnit hs hc hl hk hp
    have hgs := hgn s hs
    have hsn : (st s).1 < n := by
      rcases Nat.lt_or_ge (st s).1 n with z | z
      · exact z
      · have := i2 s hs (by omega); omega
    obtain ⟨b1, b2⟩ := B.2.1 s hs
    obtain ⟨w, j, hw, hj, hwj, hcj, hnx, hmin, hfst⟩ := ref_step hway hwayN hgn i2 hC2' i3 hs hsn hc
    have hwyj : ways (9 * s + w) = nI j := by
      rcases TI_wy hm T hs hw with ⟨h1, -⟩ | ⟨j', hj', -, h2, h3⟩
      · rw [h1] at hnx; exact absurd hnx (by simp)
      · rw [h2] at hwj
        rw [← Option.some.inj hwj]; exact h3
    show Y_X7_findRun_159 _ _ _ _ _ _ _ _ _ _ _ _ _ _ _ _ _ _ _ _ _
    unfold Y_X7_findRun_159
    have hz0 : (0 : Int32).toNatClampNeg = 0 := by decide
    rw [hz0, hA0]
    have hin0 : vp_in (0 : Int32) 5200 := i_in (a := 0) (by omega) (by omega)
    refine ⟨hin0, fun q => absurd ((i_le (a := 100000) (by omega) (by omega)).mp q) (by omega), fun _ => ⟨i_in (by omega) (by omega), ?_⟩⟩
    rw [i_cl (by omega), b2]
    refine ⟨fun q => absurd ((i_le (by omega) (by omega)).mp q) (by omega), fun _ => ?_⟩
    -- what is done with the step that was found
    have act : ∀ x4 s0 : Int32, (3 ≤ w → x4 = nI (wfr w) ∧ s0 = nI (wto w)) → B_X7_findRun_272 kinds broken len (nI n) wanted stand many post (Z_X7_findRun_159 kinds broken len (nI n) wanted stand many post (nI m) told gone cost ways places (l + 1)) (nI s) (nI w) x4 s0 (nI m) told gone cost ways places now high (nI k) run runUnit := by
      intro x4 s0 hx
      unfold B_X7_findRun_272
      refine ⟨i_in (by omega) (by omega), ?_⟩
      rw [i_cl (by omega), b1]
      have hyu := (hys s hs).1
      refine t_read hyu (fun now1 high1 hN => ?_)
      have hidx : ((9 : Int32) * nI s) + nI w = nI (9 * s + w) := by
        show nI 9 * nI s + nI w = _
        rw [pk_mul, nI_add]
      have last : ∀ (x : Int32) (run1 : Nat → Int32), run1 = upd run k (nI (cod w)) → x = (if w < 3 then nI ((yt (st s) w).headD 0 - 1) else -1) → B_X7_findRun_346 kinds broken len (nI n) wanted stand many post (Z_X7_findRun_159 kinds broken len (nI n) wanted stand many post (nI m) told gone cost ways places (l + 1)) (nI s) (nI w) (nI k) x (nI m) told gone cost ways places now1 high1 (nI k) run1 runUnit := by
        intro x run1 hr1 hx1
        unfold B_X7_findRun_346
        refine ⟨i_in (by omega) (by omega), ?_⟩
        intro y56 e56
        rw [i_1] at e56
        subst e56
        rw [hidx]
        refine ⟨i_in (by omega) (by omega), ?_⟩
        intro y58 e58
        rw [i_cl (by omega), hwyj] at e58
        subst e58
        rw [i_cl (by omega)]
        have hgj := hgn j hj
        have hg1 := nxt_g hnx
        refine ih j (k + 1) now1 high1 run1 _ hj (by omega) (by omega) (by omega) (fun r now' high' run' ru' f1 f2 f3 f4 f5 => ?_)
        have := hp (w :: r) now' high' run' ru' (hfst r f1 f2) (by simp only [shc]; omega) (by simp only [List.length_cons]; omega) (fun i hi => ?_) (fun i hi => ?_)
        · rw [show k + 1 + l = k + (l + 1) by omega]; exact this
        · obtain ⟨z1, z2⟩ := f4 i (by omega)
          rw [z1, z2, hr1, up_o _ _ (by omega), up_o _ _ (by omega)]
          exact ⟨rfl, rfl⟩
        · simp only [rus, hnx, Option.getD_some]
          cases i with
          | zero =>
            obtain ⟨z1, z2⟩ := f4 k (by omega)
            rw [Nat.add_zero, z1, z2, hr1, up_s, up_s, hx1]
            exact ⟨rfl, rfl⟩
          | succ i =>
            obtain ⟨z1, z2⟩ := f5 i (by omega)
            rw [show k + (i + 1) = k + 1 + i by omega, z1, z2]
            exact ⟨rfl, rfl⟩
      refine ⟨fun q => ?_, fun q => ?_⟩
      · have hw3 := (i_le (a := 3) (by omega) (by omega)).mp q
        obtain ⟨e1, e2⟩ := hx hw3
        have hcw : (10 + ((3 : Int32) * x4)) + s0 = nI (cod w) := by
          rw [e1, e2]
          show (nI 10 + (nI 3 * nI (wfr w))) + nI (wto w) = _
          rw [pk_mul, nI_add, nI_add]
          unfold cod
          rw [if_neg (by omega)]
        rw [hcw]
        unfold B_X7_findRun_311
        refine ⟨i_in (by omega) (by omega), fun _ => last _ _ (by rw [i_cl (by omega)]) (by rw [if_neg (by omega)]), fun q2 => absurd q q2⟩
      · have hw3 : w < 3 := by
          rcases Nat.lt_or_ge w 3 with z | z
          · exact z
          · exact absurd ((i_le (a := 3) (by omega) (by omega)).mpr z) q
        obtain ⟨-, u, R, hlt, -, -⟩ := (nxt_go hw3).mp hnx
        obtain ⟨k1, k2⟩ := NH_top hN hw3 hlt
        have hl5 := hyu.1 w hw3
        rw [hlt, List.length_cons] at hl5
        have hi1 : (((5 : Int32) * nI w) + nI (R.length + 1)) - 1 = nI (5 * w + R.length) := by
          have h1 : ((5 : Int32) * nI w) + nI (R.length + 1) = nI (5 * w + R.length + 1) := by
            show nI 5 * nI w + nI (R.length + 1) = _
            rw [pk_mul, nI_add]
            rfl
          rw [h1, nI_pred]
        unfold B_X7_findRun_311
        refine ⟨i_in (by omega) (by omega), fun q2 => absurd q2 q, fun _ => ⟨i_in hw3 (by omega), ?_⟩⟩
        rw [i_cl (a := w) (by omega), k1, hi1]
        refine ⟨i_in (by omega) (by omega), last _ _ ?_ ?_⟩
        · rw [i_cl (by omega), cod_go hw3]
        · rw [if_pos hw3, i_cl (by omega), k2, hlt]
          rfl
    -- the search for the first good step
    have key : ∀ (d w' : Nat), w' + d = w → Z_X7_findRun_185 kinds broken len (nI n) wanted stand many post (nI s) (nI m) told gone cost ways places now high (nI k) run runUnit (fun (x3_45 : Int32) => ∀ y46 : Int32, y46 = ((x3_45 - 3) / 2) → (∀ y47 : Int32, y47 = ((x3_45 - 3) - (x3_45 - 3) / 2 * 2) → (((y47 < y46 → B_X7_findRun_272 kinds broken len (nI n) wanted stand many post (Z_X7_findRun_159 kinds broken len (nI n) wanted stand many post (nI m) told gone cost ways places (l + 1)) (nI s) x3_45 y46 y47 (nI m) told gone cost ways places now high (nI k) run runUnit) ∧ (¬ y47 < y46 → B_X7_findRun_272 kinds broken len (nI n) wanted stand many post (Z_X7_findRun_159 kinds broken len (nI n) wanted stand many post (nI m) told gone cost ways places (l + 1)) (nI s) x3_45 y46 (y47 + 1) (nI m) told gone cost ways places now high (nI k) run runUnit))))) (d + 1) (nI w') := by
      have hcs := i1 s hs
      intro d
      induction d with
      | zero =>
        intro w' hw'
        have e : w' = w := by omega
        subst e
        show Y_X7_findRun_185 _ _ _ _ _ _ _ _ _ _ _ _ _ _ _ _ _ _ _ _ _ _ _
        unfold Y_X7_findRun_185
        have hidx : ((9 : Int32) * nI s) + nI w' = nI (9 * s + w') := by
          show nI 9 * nI s + nI w' = _
          rw [pk_mul, nI_add]
        have hcj1 := i1 j hj
        rw [hidx]
        refine ⟨i_in (by omega) (by omega), ?_⟩
        rw [i_cl (by omega), hwyj]
        refine ⟨fun q => absurd q (nI_m1 (by omega)), fun _ => ⟨i_in (by omega) (by omega), i_in (by omega) (by omega), ?_⟩⟩
        rw [i_cl (by omega), A j hj]
        have done : ∀ y46 : Int32, y46 = ((nI w' - 3) / 2) → (∀ y47 : Int32, y47 = ((nI w' - 3) - (nI w' - 3) / 2 * 2) → (((y47 < y46 → B_X7_findRun_272 kinds broken len (nI n) wanted stand many post (Z_X7_findRun_159 kinds broken len (nI n) wanted stand many post (nI m) told gone cost ways places (l + 1)) (nI s) (nI w') y46 y47 (nI m) told gone cost ways places now high (nI k) run runUnit) ∧ (¬ y47 < y46 → B_X7_findRun_272 kinds broken len (nI n) wanted stand many post (Z_X7_findRun_159 kinds broken len (nI n) wanted stand many post (nI m) told gone cost ways places (l + 1)) (nI s) (nI w') y46 (y47 + 1) (nI m) told gone cost ways places now high (nI k) run runUnit)))) := by
          intro y46 e46 y47 e47
          have conv : 3 ≤ w' → y46 = nI (wfr w') ∧ y47 = nI ((w' - 3) % 2) := by
            intro h3
            have h1 : nI w' - 3 = nI (w' - 3) := i_sub (b := 3) h3
            rw [h1] at e46 e47
            refine ⟨?_, ?_⟩
            · rw [e46]; exact i_div (b := 2) (by omega) (by omega) (by omega)
            · rw [e47]; exact i_rem (b := 2) (by omega) (by omega) (by omega)
          refine ⟨fun q => act _ _ (fun h3 => ?_), fun q => act _ _ (fun h3 => ?_)⟩
          · obtain ⟨c1, c2⟩ := conv h3
            refine ⟨c1, ?_⟩
            rw [c1, c2] at q
            have h4 := (i_lt (by omega) (by unfold wfr; omega)).mp q
            rw [c2]
            congr 1
            unfold wto
            rw [if_pos (by unfold wfr at h4; exact h4)]
          · obtain ⟨c1, c2⟩ := conv h3
            refine ⟨c1, ?_⟩
            rw [c1, c2] at q
            have h4 : ¬ (w' - 3) % 2 < wfr w' := fun h => q ((i_lt (by omega) (by unfold wfr; omega)).mpr h)
            rw [c2, i_1]
            congr 1
            unfold wto
            rw [if_neg (by unfold wfr at h4; exact h4)]
        refine ⟨fun q => ?_, fun q => ?_⟩
        · have h3 := (i_le (a := 3) (by omega) (by omega)).mp q
          have e : csh w' = 1 := by unfold csh; rw [if_neg (by omega)]
          unfold B_X7_findRun_226
          refine ⟨i_in (by omega) (by omega), ?_⟩
          rw [i_cl (by omega), A s hs, i_1]
          rw [e] at hcj
          exact ⟨fun _ => done, fun q2 => absurd (by rw [hcj]) q2⟩
        · have h3 : w' < 3 := by
            rcases Nat.lt_or_ge w' 3 with z | z
            · exact z
            · exact absurd ((i_le (a := 3) (by omega) (by omega)).mpr z) q
          have e : csh w' = 0 := by unfold csh; rw [if_pos h3]
          unfold B_X7_findRun_226
          refine ⟨i_in (by omega) (by omega), ?_⟩
          have e0 : nI (c j) + 0 = nI (c j + 0) := by show nI (c j) + nI 0 = _; rw [nI_add]
          rw [i_cl (by omega), A s hs, e0]
          rw [e] at hcj
          exact ⟨fun _ => done, fun q2 => absurd (by rw [hcj]) q2⟩
      | succ d ihd =>
        intro w' hw'
        show Y_X7_findRun_185 _ _ _ _ _ _ _ _ _ _ _ _ _ _ _ _ _ _ _ _ _ _ _
        unfold Y_X7_findRun_185
        have hidx : ((9 : Int32) * nI s) + nI w' = nI (9 * s + w') := by
          show nI 9 * nI s + nI w' = _
          rw [pk_mul, nI_add]
        rw [hidx]
        refine ⟨i_in (by omega) (by omega), ?_⟩
        rw [i_cl (by omega), i_1]
        have nx := ihd (w' + 1) (by omega)
        rcases TI_wy hm T hs (show w' < 9 by omega) with ⟨h1, h2, h3⟩ | ⟨j', hj', h1, h2, h3⟩
        · exact ⟨fun _ => nx, fun q => absurd h3 q⟩
        · have hne := hmin w' (by omega) j' h2
          have hcj1 := i1 j' hj'
          rw [h3]
          refine ⟨fun q => absurd q (nI_m1 (by omega)), fun _ => ⟨i_in (by omega) (by omega), i_in (by omega) (by omega), ?_⟩⟩
          rw [i_cl (by omega), A j' hj']
          refine ⟨fun q => ?_, fun q => ?_⟩
          · have h4 := (i_le (a := 3) (by omega) (by omega)).mp q
            have e : csh w' = 1 := by unfold csh; rw [if_neg (by omega)]
            rw [e] at hne
            unfold B_X7_findRun_226
            refine ⟨i_in (by omega) (by omega), ?_⟩
            rw [i_cl (by omega), A s hs, i_1, i_1]
            exact ⟨fun q2 => absurd ((i_eq (by omega) (by omega)).mp q2) hne, fun _ => nx⟩
          · have h4 : w' < 3 := by
              rcases Nat.lt_or_ge w' 3 with z | z
              · exact z
              · exact absurd ((i_le (a := 3) (by omega) (by omega)).mpr z) q
            have e : csh w' = 0 := by unfold csh; rw [if_pos h4]
            rw [e] at hne
            unfold B_X7_findRun_226
            refine ⟨i_in (by omega) (by omega), ?_⟩
            have e0 : nI (c j') + 0 = nI (c j' + 0) := by show nI (c j') + nI 0 = _; rw [nI_add]
            rw [i_cl (by omega), A s hs, e0, i_1]
            exact ⟨fun q2 => absurd ((i_eq (by omega) (by omega)).mp q2) hne, fun _ => nx⟩
    exact ⟨_, key w 0 (by omega)⟩
theorem shc_le : ∀ v : List Nat, shc v ≤ v.length
  | [] => Nat.le_refl _
  | w :: r => by
    have := shc_le r
    simp only [shc, List.length_cons]
    unfold csh
    split <;> omega
theorem t_findRun (hn : n ≤ 5) (hP : P ≤ 5) (h0 : y0.1 = 0) (g1 : y0.1 + (cat y0.2).length = P) (g2 : (cat y0.2).Nodup) (g3 : ∀ u ∈ cat y0.2, 1 ≤ u ∧ u ≤ 5) (hlen : ∀ t, t < 3 → len t = nI (ln t) ∧ ln t ≤ 5) (hN : NH y0 stand many) {states rs0 : Int32} {told0 : Nat → Int64} {gone0 cost0 ways0 places0 now high run runUnit : Nat → Int32}
    (hno : (∀ v, ¬ isRun (svu kinds broken wanted) ln n y0 v) → ∀ a1 a2 a3 a4 a5 a6 a7 a8 a9 a10, post 100000 a1 a2 a3 a4 a5 a6 a7 a8 0 a9 a10)
    (hyes : ∀ ws, isFirst (svu kinds broken wanted) ln n y0 ws → ws.length ≤ 90 → ∀ a1 a2 a3 a4 a5 a6 a7 a8 run' ru', (∀ i, i < ws.length → run' i = nI (cod (ws.getD i 0)) ∧ ru' i = (rus (svu kinds broken wanted) ln n y0 ws).getD i 0) → post (nI (shc ws)) a1 a2 a3 a4 a5 a6 a7 a8 (nI ws.length) run' ru') : wp_X7_findRun kinds broken len (nI n) wanted stand many states told0 gone0 cost0 ways0 places0 now high rs0 run runUnit post := by
  unfold wp_X7_findRun
  refine t_findStates hn hP h0 g1 g2 g3 hlen hN (fun m st told gone ways places now1 high1 T B => ?_)
  have hm := cnt_units g1 g2 g3 m st T.2.2.1 T.2.2.2.1
  have hm0 : 0 < m := T.2.1
  refine t_cost0 (sv := svu kinds broken wanted) (ln := ln) (st := st) hm hn (fun s hs => ⟨(B.2.1 s hs).2, ?_⟩) (fun c cost A C => ?_)
  · obtain ⟨ws, hws⟩ := T.2.2.1 s hs
    have := fol_gn ws y0 (st s) (by omega) hws
    omega
  · refine ⟨_, t_costs hm hm0 T (fun c' cost' A' C' hC2 => ?_) (sm c m) c cost (Nat.le_refl _) A C⟩
    have hst0 : st 0 = y0 := T.1
    rcases Nat.lt_or_ge (c' 0) 100000 with z | z
    · refine ⟨_, t_run159 hn hP g1 g2 g3 (by omega) T B A' C' hC2 z (c' 0 + (n - (st 0).1)) 0 0 now1 high1 run runUnit hm0 z rfl ?_ (fun r now' high' run' ru' f1 f2 f3 f4 f5 => ?_)⟩
      · obtain ⟨v, hv1, hv2⟩ := C'.2.2 0 hm0 z
        rw [hst0] at hv1 ⊢
        obtain ⟨v', hv3, hv4⟩ := short_run hn 10 y0 v (by have := tot3 y0; unfold ovf; omega) g2 (by omega) hv1
        have hle := ref_le (wy := wyf ways) (cost := c') (st := st) (m := m) (sv := svu kinds broken wanted) (ln := ln) (n := n) (fun s hs w hw z hz => by
          rcases TI_wy hm T hs hw with ⟨h1, -⟩ | ⟨j, hj, h1, h2, -⟩
          · rw [h1] at hz; exact absurd hz (by simp)
          · rw [h1] at hz; exact ⟨j, hj, h2, Option.some.inj hz⟩) C'.2.1 (fun s hs w hw j hj => by
          rcases TI_wy hm T hs hw with ⟨-, h1, -⟩ | ⟨j', hj', -, h2, h3⟩
          · rw [h1] at hj; exact absurd hj (by simp)
          · rw [h2] at hj
            have e := Option.some.inj hj
            subst e
            exact hC2 s w hs hw j' hj' h3) v' 0 hm0 (by rw [hst0]; exact hv3)
        have := shc_le v'
        omega
      · rw [hst0] at f1 f5
        have hl90 := first_short hn g2 (by omega) f1
        rw [Nat.zero_add, ← f3, ← f2]
        refine hyes r f1 hl90 _ _ _ _ _ _ _ _ run' ru' (fun i hi => ?_)
        have := f5 i (by rw [hst0] at f3; rw [← f3]; exact hi)
        rw [Nat.zero_add] at this
        exact this
    · have hc0 : c' 0 = 100000 := by have := C'.1 0 hm0; omega
      refine ⟨1, ?_⟩
      show Y_X7_findRun_159 _ _ _ _ _ _ _ _ _ _ _ _ _ _ _ _ _ _ _ _ _
      unfold Y_X7_findRun_159
      have hz0 : (0 : Int32).toNatClampNeg = 0 := by decide
      rw [hz0, A' 0 hm0, hc0]
      have hin0 : vp_in (0 : Int32) 5200 := i_in (a := 0) (by omega) (by omega)
      refine ⟨hin0, fun _ => ⟨hin0, hno (fun v hv => ?_) _ _ _ _ _ _ _ _ _ _⟩, fun q => absurd (by decide) q⟩
      obtain ⟨v', hv3, hv4⟩ := short_run hn 10 y0 v (by have := tot3 y0; unfold ovf; omega) g2 (by omega) hv
      have hle := ref_le (wy := wyf ways) (cost := c') (st := st) (m := m) (sv := svu kinds broken wanted) (ln := ln) (n := n) (fun s hs w hw z hz => by
        rcases TI_wy hm T hs hw with ⟨h1, -⟩ | ⟨j, hj, h1, h2, -⟩
        · rw [h1] at hz; exact absurd hz (by simp)
        · rw [h1] at hz; exact ⟨j, hj, h2, Option.some.inj hz⟩) C'.2.1 (fun s hs w hw j hj => by
        rcases TI_wy hm T hs hw with ⟨-, h1, -⟩ | ⟨j', hj', -, h2, h3⟩
        · rw [h1] at hj; exact absurd hj (by simp)
        · rw [h2] at hj
          have e := Option.some.inj hj
          subst e
          exact hC2 s w hs hw j' hj' h3) v' 0 hm0 (by rw [hst0]; exact hv3)
      have := shc_le v'
      omega
end RU
