/-! the class's search from its start to its end; the steps of its run -/
section B4
variable {ln : Nat → Nat} {n : Nat} {y0 : YS} {wanted len : Nat → Int32}
/-- the first meeting -/
theorem t_meet0 (hn : n ≤ 5) (hy0 : yk y0) (h0 : y0.1 = 0) {ps : Nat → Int64} {mf sp sls : Nat → Int32} (hsl : ∀ a, a < 4096 → sls a = 0)
    {post : (Nat → Int64) → (Nat → Int32) → (Nat → Int32) → (Nat → Int32) → Int32 → Int32 → Prop} (hpost : ∀ ps' mf' sp' sls' met' goal', BI (svm wanted) ln n y0 0 0 1 (fun _ => y0) (fun _ => []) (fun _ => 0) (fun _ => 0) → AR n 1 (fun _ => y0) (fun _ => 0) (fun _ => 0) ps' mf' sp' sls' met' goal' → post ps' mf' sp' sls' met' goal') : wp_X4_meet (nI n) (lN (enc y0)) (-1) (-1) ps mf sp sls 0 (-1) post := by
  have hok := yk_ok hy0
  have hl := enc_lt hok
  unfold wp_X4_meet
  refine t_slotFor (sl := fun _ => 0) (key := fun _ => 0) (ht_0 4096 (fun _ => 0) hC) (Nat.zero_le _) (fun j h => absurd h (Nat.not_lt_zero j)) (fun j h => absurd h (Nat.not_lt_zero j)) (fun a ha => hsl a ha) hl (fun d hd hocc hz hno => ?_) (fun a j _ h => absurd h (Nat.not_lt_zero j))
  have hlt : (hC (enc y0) + d) % 4096 < 4096 := Nat.mod_lt _ (by decide)
  have hd0 : d = 0 := by
    rcases Nat.eq_zero_or_pos d with q | q
    · exact q
    · exact absurd rfl (hocc 0 q)
  have B' : BI (svm wanted) ln n y0 0 0 1 (fun _ => y0) (fun _ => []) (fun _ => 0) (fun _ => 0) := by
    refine ⟨rfl, rfl, by omega, fun j _ => rfl, fun j h1 h2 => by omega, fun i j h1 h2 => by omega, fun i v z hi hv => by omega⟩
  have HT' := ht_add (ht_0 4096 (fun _ => enc y0) hC) (v := enc y0) (d := d) (hC_lt _) hd (fun e he => by omega) rfl (fun j h => absurd h (Nat.not_lt_zero j))
  have fin : ∀ g2 : Int32, ((g2 = -1 ∧ ∀ j, j < 1 → y0.1 ≠ n) ∨ ∃ g, g < 1 ∧ g2 = nI g ∧ y0.1 = n ∧ ∀ j, j < 1 → y0.1 = n → g ≤ j) → B_X4_meet_95 (nI n) (lN (enc y0)) (-1) (-1) post (nI ((hC (enc y0) + d) % 4096)) (vp_updL ps 0 (lN (enc y0))) (upd mf 0 (-1)) (upd sp 0 (-1)) sls 0 g2 := by
    intro g2 hg2
    unfold B_X4_meet_95
    intro y ey
    have ey : y = nI 1 := ey
    subst ey
    refine ⟨i_in hlt (by omega), ?_⟩
    rw [i_cl (by omega)]
    refine hpost _ _ _ _ _ _ B' ⟨fun j hj => ?_, fun j h1 h2 => by omega, ⟨nup (fun _ => 0) ((hC (enc y0) + d) % 4096) 1, ?_, fun a ha => ?_⟩, rfl, hg2⟩
    · have : j = 0 := by omega
      subst this; rw [pk_uLs]
    · refine Eq.mp ?_ HT'
      congr 1
      funext j
      unfold nup
      split <;> rfl
    · by_cases e : a = (hC (enc y0) + d) % 4096
      · subst e; rw [up_s, nup_s]
      · rw [up_o _ _ e, nup_o _ _ e]; exact hsl a ha
  refine ⟨fun q => absurd q (nI_m1 (by omega)), fun _ => ⟨i_in hlt (by omega), ?_⟩⟩
  rw [i_cl (by omega), hsl _ hlt]
  have him : vp_in (0 : Int32) 2956 := i_in (a := 0) (by omega) (by omega)
  refine ⟨fun q => absurd rfl q, fun _ => ⟨fun _ => ⟨him, him, him, ?_⟩, fun q => absurd (by decide) q⟩⟩
  refine ⟨fun q => absurd rfl q, fun _ => ?_⟩
  refine t_gone hok ⟨fun q => fin _ (Or.inl ⟨rfl, fun j _ => ?_⟩), fun q => fin _ (Or.inr ⟨0, by omega, rfl, ?_, fun j _ _ => Nat.zero_le j⟩)⟩
  · have := (i_lt (by omega) (by omega)).mp q
    omega
  · have : ¬ y0.1 < n := fun h => q ((i_lt (by omega) (by omega)).mpr h)
    omega
theorem t_findsRun (hn : n ≤ 5) (hy0 : yk y0) (h0 : y0.1 = 0) (hcnt : ∀ (m : Nat) (st : Nat → YS) (pth : Nat → List Nat), (∀ j, j < m → fol (svm wanted) ln n y0 (pth j) = some (st j)) → (∀ i j, i < j → j < m → st i ≠ st j) → m ≤ 2956) (hwd : ∀ i, i < n → ∃ k, k < 4 ∧ wanted i = nI k) (hlen : ∀ t, t < 3 → len t = nI (ln t) ∧ ln t ≤ 5)
    {ps : Nat → Int64} {mf sp sls : Nat → Int32} {met goal : Int32} {post : Int32 → (Nat → Int64) → (Nat → Int32) → (Nat → Int32) → (Nat → Int32) → Int32 → Int32 → Prop}
    (hno : (∀ v, ¬ isRun (svm wanted) ln n y0 v) → ∀ ps' mf' sp' sls' met' goal', post 0 ps' mf' sp' sls' met' goal')
    (hyes : ∀ (ps' : Nat → Int64) (mf' sp' sls' : Nat → Int32) (m g : Nat) (pth : Nat → List Nat) (par lab : Nat → Nat), m ≤ 2956 → g < m → isFirst (svm wanted) ln n y0 (pth g) → pth 0 = [] → (∀ j, 0 < j → j < m → par j < j ∧ pth j = pth (par j) ++ [lab j] ∧ mf' j = nI (par j) ∧ sp' j = nI (cod (lab j))) → post 1 ps' mf' sp' sls' (nI m) (nI g)) : wp_X4_findsRun len wanted (nI n) (lN (enc y0)) ps mf sp sls met goal post := by
  unfold wp_X4_findsRun
  refine t_fillA (len0 := 4096) (by omega) (fun sls0 hs0 _ => ?_)
  refine t_meet0 (wanted := wanted) (ln := ln) hn hy0 h0 hs0 (fun ps1 mf1 sp1 sls1 met1 goal1 B1 A1 => ?_)
  have fin : ∀ (p m : Nat) (st : Nat → YS) (pth : Nat → List Nat) (par lab : Nat → Nat) (ps' : Nat → Int64) (mf' sp' sls' : Nat → Int32) (met' goal' : Int32), BI (svm wanted) ln n y0 p 0 m st pth par lab → AR n m st par lab ps' mf' sp' sls' met' goal' → p ≤ m → (goal' = -1 → m ≤ p) → B_X4_findsRun_66 len wanted (nI n) (lN (enc y0)) post ps' mf' sp' sls' met' goal' := by
    intro p m st pth par lab ps' mf' sp' sls' met' goal' B A hpm hend
    obtain ⟨b1, b2', b3, b4, b5, b6, b7⟩ := B
    obtain ⟨a1, a2, ⟨sl', aH, -⟩, a4, a5⟩ := A
    have hm := hcnt m st pth b4 (fun i j hij hj q => by
      have := aH.2.2.2 i j (by omega) hj (by show enc (st i) = enc (st j); rw [q])
      omega)
    unfold B_X4_findsRun_66
    refine ⟨fun q => hno ?_ _ _ _ _ _ _, fun q => ?_⟩
    · have hall : ∀ j, j < m → (st j).1 ≠ n := by
        rcases a5 with ⟨-, h⟩ | ⟨g, hg1, hg2, -⟩
        · exact h
        · rw [hg2] at q; exact absurd q (nI_m1 (by omega))
      refine bfs_none b1 b3 (fun i hi w hw z hz => ?_) hall
      obtain ⟨j, h1, h2, -⟩ := b7 i w z hi (Or.inl ⟨by have := hend q; omega, hw⟩) hz
      exact ⟨j, h1, h2⟩
    · rcases a5 with ⟨h, -⟩ | ⟨g, hg1, hg2, hg3, hg4⟩
      · exact absurd h q
      · rw [a4, hg2]
        refine hyes ps' mf' sp' sls' m g pth par lab hm hg1 ?_ b2' (fun j h1 h2 => ?_)
        · refine bfs_first (p := p) (par := par) ⟨b1, b2'⟩ b3 b4 (fun j h1 h2 => ?_) b6 (fun i hi w hw z hz => ?_) hg1 hg3 hg4
          · obtain ⟨c1, c2, c3, c4⟩ := b5 j h1 h2
            exact ⟨by omega, _, c3⟩
          · exact b7 i w z (by omega) (Or.inl ⟨hi, hw⟩) hz
        · obtain ⟨c1, c2, c3, c4⟩ := b5 j h1 h2
          exact ⟨c1, c3, a2 j h1 h2⟩
  have key : ∀ (d p m : Nat) (st : Nat → YS) (pth : Nat → List Nat) (par lab : Nat → Nat) (ps' : Nat → Int64) (mf' sp' sls' : Nat → Int32) (met' goal' : Int32), p + d = 2957 → p ≤ m → BI (svm wanted) ln n y0 p 0 m st pth par lab → AR n m st par lab ps' mf' sp' sls' met' goal' → Z_X4_findsRun_27 len wanted (nI n) (lN (enc y0)) post (fun a1 a2 a3 a4 a5 a6 => B_X4_findsRun_66 len wanted (nI n) (lN (enc y0)) post a1 a2 a3 a4 a5 a6) (d + 1) (nI p) ps' mf' sp' sls' met' goal' := by
    intro d
    induction d with
    | zero =>
      intro p m st pth par lab ps' mf' sp' sls' met' goal' hd hpm B A
      exfalso
      obtain ⟨sl', aH, -⟩ := A.2.2.1
      have hm := hcnt m st pth B.2.2.2.1 (fun i j hij hj q => by
        have := aH.2.2.2 i j (by omega) hj (by show enc (st i) = enc (st j); rw [q])
        omega)
      omega
    | succ d ih =>
      intro p m st pth par lab ps' mf' sp' sls' met' goal' hd hpm B A
      have hm := hcnt m st pth B.2.2.2.1 (fun i j hij hj q => by
        obtain ⟨sl', aH, -⟩ := A.2.2.1
        have := aH.2.2.2 i j (by omega) hj (by show enc (st i) = enc (st j); rw [q])
        omega)
      show Y_X4_findsRun_27 _ _ _ _ _ _ _ _ _ _ _ _ _ _
      unfold Y_X4_findsRun_27
      have hmet := A.2.2.2.1
      refine ⟨fun q0 => fin p m st pth par lab _ _ _ _ _ _ B A hpm (fun _ => ?_), fun _ => ⟨fun q => fin p m st pth par lab _ _ _ _ _ _ B A hpm (fun _ => ?_), fun q => ⟨fun q2 => fin p m st pth par lab _ _ _ _ _ _ B A hpm (fun q3 => absurd q3 q2), fun q2 => ?_⟩⟩⟩
      · have := (i_le (a := 2956) (by omega) (by omega)).mp q0
        omega
      · rw [hmet] at q
        exact (i_le (by omega) (by omega)).mp q
      · have hpm2 : p < m := by
          rcases Nat.lt_or_ge p m with z | z
          · exact z
          · rw [hmet] at q
            exact absurd ((i_le (by omega) (by omega)).mpr z) q
        have hgn : (st p).1 ≠ n := by
          rcases A.2.2.2.2 with ⟨-, h⟩ | ⟨g, hg1, hg2, -⟩
          · exact h p hpm2
          · rw [hg2] at q2; exact absurd q2 (nI_m1 (by omega))
        have hgl := fol_gn _ _ _ (by omega) (B.2.2.2.1 p hpm2)
        rw [i_1]
        refine t_goings hn hy0 hcnt hwd B hpm2 (by omega) A (fun m2 st2 pth2 par2 lab2 ps2 mf2 sp2 sls2 met2 goal2 h1 h2 B2 A2 => ?_)
        have hs2 := h2 p hpm2
        refine t_shunts hn hy0 hcnt hlen B2 (by omega) (by rw [hs2]; omega) A2 (fun m3 st3 pth3 par3 lab3 ps3 mf3 sp3 sls3 met3 goal3 h3 h4 B3 A3 => ?_)
        exact ih (p + 1) m3 st3 pth3 par3 lab3 ps3 mf3 sp3 sls3 met3 goal3 (by omega) (by omega) (BI_row B3) A3
  exact ⟨_, key 2957 0 1 (fun _ => y0) (fun _ => []) (fun _ => 0) (fun _ => 0) ps1 mf1 sp1 sls1 met1 goal1 (by omega) (by omega) B1 A1⟩
end B4
