/-! the class's search: its invariant, one meeting -/
def BI (sv : Nat → Nat → Bool) (ln : Nat → Nat) (n : Nat) (y0 : YS) (p w m : Nat) (st : Nat → YS) (pth : Nat → List Nat) (par lab : Nat → Nat) : Prop :=
  st 0 = y0 ∧ pth 0 = [] ∧ 0 < m ∧ (∀ j, j < m → fol sv ln n y0 (pth j) = some (st j)) ∧ (∀ j, 0 < j → j < m → par j < j ∧ (par j < p ∨ (par j = p ∧ lab j < w)) ∧ pth j = pth (par j) ++ [lab j] ∧ lab j < 9) ∧ (∀ i j, i < j → j < m → slt (pth i) (pth j)) ∧ (∀ i v z, i < m → (i < p ∧ v < 9 ∨ i = p ∧ v < w) → nxt sv ln n (st i) v = some z → ∃ j, j < m ∧ st j = z ∧ sl (pth j) (pth i ++ [v]))
def AR (n m : Nat) (st : Nat → YS) (par lab : Nat → Nat) (ps : Nat → Int64) (mf sp sls : Nat → Int32) (met goal : Int32) : Prop :=
  (∀ j, j < m → ps j = lN (enc (st j))) ∧ (∀ j, 0 < j → j < m → mf j = nI (par j) ∧ sp j = nI (cod (lab j))) ∧ (∃ sl, HT 4096 m sl (fun j => enc (st j)) hC ∧ ∀ a, a < 4096 → sls a = nI (sl a)) ∧ met = nI m ∧ ((goal = -1 ∧ ∀ j, j < m → (st j).1 ≠ n) ∨ ∃ g, g < m ∧ goal = nI g ∧ (st g).1 = n ∧ ∀ j, j < m → (st j).1 = n → g ≤ j)
theorem nI_m1 {a : Nat} (h : a < 2147483648) : ¬ nI a = -1 := by
  intro q
  have : (nI a).toInt = -1 := by rw [q]; decide
  rw [i_toInt h] at this
  omega
theorem BI_old {sv : Nat → Nat → Bool} {ln : Nat → Nat} {n : Nat} {y0 : YS} {p w m : Nat} {st : Nat → YS} {pth : Nat → List Nat} {par lab : Nat → Nat} (B : BI sv ln n y0 p w m st pth par lab) (hp : p < m) {j : Nat} (hj : j < m) : slt (pth j) (pth p ++ [w]) := by
  obtain ⟨b1, b2', b3, b4, b5, b6, b7⟩ := B
  rcases Nat.eq_zero_or_pos j with q | q
  · subst q; rw [b2']; exact Or.inl (by simp)
  · obtain ⟨h1, h2, h3, h4⟩ := b5 j q hj
    rw [h3]
    rcases h2 with z | ⟨z1, z2⟩
    · exact slt_snoc _ _ (b6 _ _ z hp)
    · rw [z1]; exact slt_last _ z2
theorem BI_next {sv : Nat → Nat → Bool} {ln : Nat → Nat} {n : Nat} {y0 : YS} {p w m : Nat} {st : Nat → YS} {pth : Nat → List Nat} {par lab : Nat → Nat} (B : BI sv ln n y0 p w m st pth par lab) (h : ∀ z, nxt sv ln n (st p) w = some z → ∃ j, j < m ∧ st j = z ∧ sl (pth j) (pth p ++ [w])) : BI sv ln n y0 p (w + 1) m st pth par lab := by
  obtain ⟨b1, b2', b3, b4, b5, b6, b7⟩ := B
  refine ⟨b1, b2', b3, b4, fun j h1 h2 => ?_, b6, fun i v z hi hv hz => ?_⟩
  · obtain ⟨c1, c2, c3, c4⟩ := b5 j h1 h2
    exact ⟨c1, by omega, c3, c4⟩
  · rcases hv with q | ⟨q1, q2⟩
    · exact b7 i v z hi (Or.inl q) hz
    · by_cases e : v = w
      · subst e; rw [q1] at hz ⊢; exact h z hz
      · exact b7 i v z hi (Or.inr ⟨q1, by omega⟩) hz
theorem BI_skip {sv : Nat → Nat → Bool} {ln : Nat → Nat} {n : Nat} {y0 : YS} {p w m : Nat} {st : Nat → YS} {pth : Nat → List Nat} {par lab : Nat → Nat} (B : BI sv ln n y0 p w m st pth par lab) (h : nxt sv ln n (st p) w = none) : BI sv ln n y0 p (w + 1) m st pth par lab := BI_next B (fun z hz => by rw [h] at hz; exact absurd hz (by simp))
theorem BI_row {sv : Nat → Nat → Bool} {ln : Nat → Nat} {n : Nat} {y0 : YS} {p m : Nat} {st : Nat → YS} {pth : Nat → List Nat} {par lab : Nat → Nat} (B : BI sv ln n y0 p 9 m st pth par lab) : BI sv ln n y0 (p + 1) 0 m st pth par lab := by
  obtain ⟨b1, b2', b3, b4, b5, b6, b7⟩ := B
  refine ⟨b1, b2', b3, b4, fun j h1 h2 => ?_, b6, fun i v z hi hv hz => ?_⟩
  · obtain ⟨c1, c2, c3, c4⟩ := b5 j h1 h2
    exact ⟨c1, by omega, c3, c4⟩
  · rcases hv with ⟨q1, q2⟩ | ⟨q1, q2⟩
    · exact b7 i v z hi (by omega) hz
    · omega
section B2
variable {sv : Nat → Nat → Bool} {ln : Nat → Nat} {n : Nat} {y0 : YS}
theorem t_meet (hn : n ≤ 5) (hy0 : yk y0) (hcnt : ∀ (m : Nat) (st : Nat → YS) (pth : Nat → List Nat), (∀ j, j < m → fol sv ln n y0 (pth j) = some (st j)) → (∀ i j, i < j → j < m → st i ≠ st j) → m ≤ 2956)
    {p w m : Nat} {st : Nat → YS} {pth : Nat → List Nat} {par lab : Nat → Nat} (B : BI sv ln n y0 p w m st pth par lab) (hp : p < m) (hw : w < 9) {z : YS} (hz : nxt sv ln n (st p) w = some z) {ps : Nat → Int64} {mf sp sls : Nat → Int32} {met goal : Int32} (A : AR n m st par lab ps mf sp sls met goal)
    {post : (Nat → Int64) → (Nat → Int32) → (Nat → Int32) → (Nat → Int32) → Int32 → Int32 → Prop} (hpost : ∀ m' st' pth' par' lab' ps' mf' sp' sls' met' goal', m ≤ m' → (∀ j, j < m → st' j = st j) → BI sv ln n y0 p (w + 1) m' st' pth' par' lab' → AR n m' st' par' lab' ps' mf' sp' sls' met' goal' → post ps' mf' sp' sls' met' goal') : wp_X4_meet (nI n) (lN (enc z)) (nI p) (nI (cod w)) ps mf sp sls met goal post := by
  obtain ⟨b1, b2', b3, b4, b5, b6, b7⟩ := id B
  obtain ⟨a1, a2, ⟨sl', aH, asl⟩, a4, a5⟩ := id A
  have hdist : ∀ i j, i < j → j < m → st i ≠ st j := fun i j hij hj q => by
    have := aH.2.2.2 i j (by omega) hj (by show enc (st i) = enc (st j); rw [q])
    omega
  have hm := hcnt m st pth b4 hdist
  have hyk : ∀ j, j < m → yk (st j) := fun j hj => fol_yk hn _ _ _ hy0 (b4 j hj)
  have hzk : yk z := nxt_yk hw hn (hyk p hp) hz
  have hzf : fol sv ln n y0 (pth p ++ [w]) = some z := by rw [fol_app sv ln n _ _ _ _ (b4 p hp)]; exact fol_mk hw hz
  have hzl := enc_lt (yk_ok hzk)
  unfold wp_X4_meet
  refine t_slotFor aH hm a1 (fun j hj => enc_lt (yk_ok (hyk j hj))) asl hzl (fun d hd hocc h0 hno => ?_) (fun a j ha hj hs hk => ?_)
  · -- a new one
    have hlt : (hC (enc z) + d) % 4096 < 4096 := Nat.mod_lt _ (by decide)
    have hnew : ∀ j, j < m → st j ≠ z := fun j hj q => hno j hj (by show enc (st j) = enc z; rw [q])
    have hm1 : m + 1 ≤ 2956 := hcnt (m + 1) (fun j => if j = m then z else st j) (fun j => if j = m then pth p ++ [w] else pth j) (fun j hj => by
      by_cases e : j = m
      · simp only [if_pos e]; exact hzf
      · simp only [if_neg e]; exact b4 j (by omega)) (fun i j hij hj => by
      by_cases e : j = m
      · simp only [if_pos e, if_neg (show ¬ i = m by omega)]; exact hnew i (by omega)
      · simp only [if_neg e, if_neg (show ¬ i = m by omega)]; exact hdist i j hij (by omega))
    have hold := fun j hj => BI_old B hp (j := j) hj
    have B' : BI sv ln n y0 p (w + 1) (m + 1) (fun j => if j = m then z else st j) (fun j => if j = m then pth p ++ [w] else pth j) (nup par m p) (nup lab m w) := by
      refine ⟨?_, ?_, by omega, fun j hj => ?_, fun j h1 h2 => ?_, fun i j hij hj => ?_, fun i v x hi hv hx => ?_⟩
      · simp only [if_neg (show ¬ 0 = m by omega)]; exact b1
      · simp only [if_neg (show ¬ 0 = m by omega)]; exact b2'
      · by_cases e : j = m
        · simp only [if_pos e]; exact hzf
        · simp only [if_neg e]; exact b4 j (by omega)
      · by_cases e : j = m
        · subst e
          simp only [nup_s, if_pos trivial, if_neg (show ¬ p = j by omega)]
          exact ⟨hp, Or.inr ⟨trivial, by omega⟩, trivial, hw⟩
        · obtain ⟨c1, c2, c3, c4⟩ := b5 j h1 (by omega)
          simp only [nup_o par p e, nup_o lab w e, if_neg e, if_neg (show ¬ par j = m by omega)]
          exact ⟨c1, by omega, c3, c4⟩
      · by_cases e : j = m
        · simp only [if_pos e, if_neg (show ¬ i = m by omega)]; exact hold i (by omega)
        · simp only [if_neg e, if_neg (show ¬ i = m by omega)]; exact b6 i j hij (by omega)
      · have him : i < m := by omega
        simp only [if_neg (show ¬ i = m by omega)] at hx ⊢
        by_cases e : i = p ∧ v = w
        · obtain ⟨e1, e2⟩ := e
          subst e1 e2
          rw [hz] at hx
          refine ⟨m, by omega, ?_, ?_⟩
          · simp only [if_pos trivial]; exact Option.some.inj hx
          · simp only [if_pos trivial]; exact sl_refl _
        · obtain ⟨j, h1, h2, h3⟩ := b7 i v x him (by omega) hx
          refine ⟨j, by omega, ?_, ?_⟩
          · simp only [if_neg (show ¬ j = m by omega)]; exact h2
          · simp only [if_neg (show ¬ j = m by omega)]; exact h3
    have HT' := ht_add aH (hC_lt _) hd hocc h0 hno
    have fin : ∀ g2 : Int32, ((g2 = -1 ∧ ∀ j, j < m + 1 → ((fun j => if j = m then z else st j) j).1 ≠ n) ∨ ∃ g, g < m + 1 ∧ g2 = nI g ∧ ((fun j => if j = m then z else st j) g).1 = n ∧ ∀ j, j < m + 1 → ((fun j => if j = m then z else st j) j).1 = n → g ≤ j) → B_X4_meet_95 (nI n) (lN (enc z)) (nI p) (nI (cod w)) post (nI ((hC (enc z) + d) % 4096)) (vp_updL ps m (lN (enc z))) (upd mf m (nI p)) (upd sp m (nI (cod w))) sls (nI m) g2 := by
      intro g2 hg2
      unfold B_X4_meet_95
      rw [i_1]
      intro y ey
      subst ey
      refine ⟨i_in hlt (by omega), ?_⟩
      rw [i_cl (by omega)]
      refine hpost (m + 1) _ _ _ _ _ _ _ _ _ _ (by omega) (fun j hj => by simp only [if_neg (show ¬ j = m by omega)]) B' ⟨fun j hj => ?_, fun j h1 h2 => ?_, ⟨nup sl' ((hC (enc z) + d) % 4096) (m + 1), ?_, fun a ha => ?_⟩, rfl, hg2⟩
      · by_cases e : j = m
        · subst e; rw [pk_uLs]; simp only [if_pos trivial]
        · rw [pk_uLn e]; simp only [if_neg e]; exact a1 j (by omega)
      · by_cases e : j = m
        · subst e; rw [up_s, up_s, nup_s, nup_s]; exact ⟨rfl, rfl⟩
        · rw [up_o _ _ e, up_o _ _ e, nup_o par p e, nup_o lab w e]; exact a2 j h1 (by omega)
      · refine Eq.mp ?_ HT'
        congr 1
        funext j
        unfold nup
        by_cases e : j = m
        · simp only [if_pos e]
        · simp only [if_neg e]
      · by_cases e : a = (hC (enc z) + d) % 4096
        · subst e; rw [up_s, nup_s]
        · rw [up_o _ _ e, nup_o _ _ e]; exact asl a ha
    refine ⟨fun q => absurd q (nI_m1 (by omega)), fun _ => ⟨i_in hlt (by omega), ?_⟩⟩
    rw [i_cl (by omega), asl _ hlt, h0, a4]
    have him : vp_in (nI m) 2956 := i_in (by omega) (by omega)
    refine ⟨fun q => absurd rfl q, fun _ => ⟨fun _ => ⟨him, him, him, ?_⟩, fun q => absurd ((i_lt (b := 2956) (by omega) (by omega)).mpr (by omega)) q⟩⟩
    rw [i_cl (by omega)]
    have hzg : z.1 ≤ 5 := hzk.2.2
    refine ⟨fun q => fin _ ?_, fun q => ?_⟩
    · rcases a5 with ⟨e, -⟩ | ⟨g, hg1, hg2, hg3, hg4⟩
      · exact absurd e q
      · refine Or.inr ⟨g, by omega, hg2, ?_, fun j hj hjn => ?_⟩
        · simp only [if_neg (show ¬ g = m by omega)]; exact hg3
        · by_cases e : j = m
          · omega
          · simp only [if_neg e] at hjn; exact hg4 j (by omega) hjn
    · have hall : ∀ j, j < m → (st j).1 ≠ n := by
        rcases a5 with ⟨-, h⟩ | ⟨g, hg1, hg2, -⟩
        · exact h
        · rw [hg2] at q; exact absurd q (nI_m1 (by omega))
      have hpn : (st p).1 < n := nxt_lt hz
      have hzn : z.1 ≤ n := by have := nxt_g hz; omega
      refine t_gone (yk_ok hzk) ⟨fun q2 => fin _ (Or.inl ⟨q, fun j hj => ?_⟩), fun q2 => fin _ (Or.inr ⟨m, by omega, rfl, ?_, fun j hj hjn => ?_⟩)⟩
      · have := (i_lt (by omega) (by omega)).mp q2
        by_cases e : j = m
        · simp only [if_pos e]; omega
        · simp only [if_neg e]; exact hall j (by omega)
      · have : ¬ z.1 < n := fun h => q2 ((i_lt (by omega) (by omega)).mpr h)
        simp only [if_pos trivial]; omega
      · by_cases e : j = m
        · omega
        · simp only [if_neg e] at hjn; exact absurd hjn (hall j (by omega))
  · -- one that was met before
    have hzj : st j = z := enc_inj (yk_ok (hyk j hj)) (yk_ok hzk) hk
    refine ⟨fun q => absurd q (nI_m1 (by omega)), fun _ => ⟨i_in ha (by omega), ?_⟩⟩
    rw [i_cl (by omega), asl a ha, hs]
    refine ⟨fun _ => hpost m st pth par lab ps mf sp sls met goal (Nat.le_refl _) (fun _ _ => rfl) (BI_next B (fun x hx => ⟨j, hj, ?_, slt_sl (BI_old B hp hj)⟩)) A, fun q => absurd ((i_eq (b := 0) (by omega) (by omega)).mp q) (by omega)⟩
    rw [hzj]
    rw [hz] at hx
    exact Option.some.inj hx
end B2
