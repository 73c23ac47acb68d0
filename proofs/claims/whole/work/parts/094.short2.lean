/-! short runs where a track is overfull -/
section SO
variable {ln : Nat → Nat} {sv : Nat → Nat → Bool} {n : Nat}
def ovf (ln : Nat → Nat) (y : YS) : Nat := ((yt y 0).length - ln 0) + ((yt y 1).length - ln 1) + ((yt y 2).length - ln 2)
theorem ov_mv {a b : Nat} {y z : YS} (h : mv ln a b y z) : ovf ln z ≤ ovf ln y ∧ (ln a < (yt y a).length → ovf ln z < ovf ln y) := by
  have L := mv_len h
  have h0 := L 0 (by omega)
  have h1 := L 1 (by omega)
  have h2 := L 2 (by omega)
  obtain ⟨ha, hb, hne, -, u, R, -, -, -, h4, -⟩ := mv_f h
  unfold ovf
  unfold dl at h0 h1 h2
  rcases (show a = 0 ∨ a = 1 ∨ a = 2 by omega) with e | e | e <;> rcases (show b = 0 ∨ b = 1 ∨ b = 2 by omega) with e' | e' | e' <;> subst e <;> subst e' <;> first | exact absurd rfl hne | (simp at h0 h1 h2; omega)
theorem mv_c {a b c : Nat} {y z : YS} (h : mv ln a b y z) (hc : c < 3) (h1 : c ≠ a) (h2 : c ≠ b) : yt z c = yt y c := by
  obtain ⟨-, -, -, -, u, R, -, -, -, -, h5⟩ := mv_f h
  exact h5 c hc h1 h2
theorem rep_f {a b : Nat} : ∀ (k : Nat) (x y : YS), Pa ln (List.replicate k (a, b)) x y → ovf ln y ≤ ovf ln x ∧ (yt y a).length + k = (yt x a).length ∧ ∀ c, c < 3 → c ≠ a → c ≠ b → yt y c = yt x c
  | 0, x, y, h => by have e : x = y := h; subst e; exact ⟨Nat.le_refl _, rfl, fun _ _ _ _ => rfl⟩
  | k + 1, x, y, h => by
    rw [List.replicate_succ] at h
    obtain ⟨w, h1, h2⟩ := h
    obtain ⟨i1, i2, i3⟩ := rep_f k w y h2
    obtain ⟨ha, hb, hne, -, -⟩ := mv_f h1
    have hl := mv_len h1 a ha
    unfold dl at hl
    simp only at hl
    rw [if_pos trivial, if_neg (fun e => hne e.symm)] at hl
    exact ⟨Nat.le_trans i1 (ov_mv h1).1, by omega, fun c hc c1 c2 => (i3 c hc c1 c2).trans (mv_c h1 hc c1 c2)⟩
theorem nxt_nd {y z : YS} {w : Nat} (hw : w < 9) (h : nxt sv ln n y w = some z) (hd : (cat y.2).Nodup) (h5 : (cat y.2).length ≤ 5) : (cat z.2).Nodup ∧ (cat z.2).length ≤ 5 := by
  rcases nxt_cat hw h with ⟨-, hp⟩ | ⟨-, -, u, -, hp⟩
  · exact ⟨hp.nodup_iff.mpr hd, by rw [hp.length_eq]; exact h5⟩
  · have := hp.length_eq
    rw [List.length_cons] at this
    exact ⟨(List.nodup_cons.mp (hp.nodup_iff.mp hd)).2, by omega⟩
theorem short_run (hn5 : n ≤ 5) : ∀ (K : Nat) (y0 : YS) (v0 : List Nat), (n - y0.1) + ovf ln y0 ≤ K → (cat y0.2).Nodup → (cat y0.2).length ≤ 5 → isRun sv ln n y0 v0 → ∃ v', isRun sv ln n y0 v' ∧ v'.length ≤ 6 * K + 25 := by
  intro K
  induction K with
  | zero =>
    intro y0 v0 hK hd h5 hr
    have hno : noF ln y0 := by
      have h := hK
      unfold ovf at h
      intro t ht
      rcases (show t = 0 ∨ t = 1 ∨ t = 2 by omega) with e | e | e <;> subst e <;> omega
    obtain ⟨v', h1, h2⟩ := short_no v0 y0 y0 [] hno rfl hd h5 hr
    exact ⟨v', h1, by omega⟩
  | succ K ih =>
    intro y0 v0 hK hd h5 hr
    by_cases hov : ∃ c, c < 3 ∧ ln c < (yt y0 c).length
    · obtain ⟨c, hc3, hcl⟩ := hov
      obtain ⟨a, b, ha, hb, hab, hac, hbc⟩ : ∃ a b, a < 3 ∧ b < 3 ∧ a ≠ b ∧ a ≠ c ∧ b ≠ c := by
        rcases (show c = 0 ∨ c = 1 ∨ c = 2 by omega) with e | e | e <;> subst e
        · exact ⟨1, 2, by omega, by omega, by omega, by omega, by omega⟩
        · exact ⟨0, 2, by omega, by omega, by omega, by omega, by omega⟩
        · exact ⟨0, 1, by omega, by omega, by omega, by omega, by omega⟩
      have hsz : ∀ t, t < 3 → (yt y0 t).length ≤ 5 := by
        intro t ht
        have := tot3 y0
        rcases (show t = 0 ∨ t = 1 ∨ t = 2 by omega) with e | e | e <;> subst e <;> omega
      -- an event: what goes before it is short
      have ev : ∀ (l : List (Nat × Nat)) (y z : YS) (w : Nat) (r : List Nat), l.length ≤ 5 → Pa ln l y0 y → w < 9 → nxt sv ln n y w = some z → isRun sv ln n z r → (n - z.1) + ovf ln z ≤ K → ∃ v', isRun sv ln n y0 v' ∧ v'.length ≤ 6 * (K + 1) + 25 := by
        intro l y z w r hl hp hw hz hr2 hKz
        have hg := Pa_g l y0 y hp
        have hlt := nxt_lt hz
        obtain ⟨hdy, hty⟩ := Pa_nd l y0 y hp hd
        obtain ⟨hdz, h5z⟩ := nxt_nd hw hz hdy (by omega)
        obtain ⟨v', h1, h2⟩ := ih z r hKz hdz h5z hr2
        obtain ⟨-, ws, hws1, hws2⟩ := Pa_fol (sv := sv) (n := n) l y0 y (by omega) hp
        refine ⟨ws ++ (w :: v'), run_pre hws2 (run_cons.mpr ⟨hw, z, hz, h1⟩), ?_⟩
        rw [List.length_append, List.length_cons]
        omega
      have inner : ∀ (v : List Nat) (y : YS) (a b k : Nat), a < 3 → b < 3 → a ≠ b → a ≠ c → b ≠ c → Pa ln (List.replicate k (a, b)) y0 y → isRun sv ln n y v → ∃ v', isRun sv ln n y0 v' ∧ v'.length ≤ 6 * (K + 1) + 25 := by
        intro v
        induction v with
        | nil =>
          intro y a b k ha hb hab hac hbc hp hrv
          obtain ⟨z, h1, h2⟩ := hrv
          simp only [fol, Option.some.injEq] at h1
          subst h1
          have hg := Pa_g _ y0 y hp
          exact ⟨[], ⟨y0, rfl, by omega⟩, by simp⟩
        | cons w r ihv =>
          intro y a b k ha hb hab hac hbc hp hrv
          obtain ⟨hw9, z, h1, h2⟩ := run_cons.mp hrv
          obtain ⟨p1, p2, p3⟩ := rep_f k y0 y hp
          have hg := Pa_g _ y0 y hp
          have hlt := nxt_lt h1
          have hk5 : (List.replicate k (a, b)).length ≤ 5 := by rw [List.length_replicate]; have := hsz a ha; omega
          have hcy : yt y c = yt y0 c := p3 c hc3 (fun e => hac e.symm) (fun e => hbc e.symm)
          by_cases hw : w < 3
          · refine ev _ y z w r hk5 hp hw9 h1 h2 ?_
            obtain ⟨-, u, R, hl, -, hz⟩ := (nxt_go hw).mp h1
            have hz1 := nxt_g h1
            unfold csh at hz1
            rw [if_pos hw] at hz1
            have hoz : ovf ln z ≤ ovf ln y := by
              have hll : ∀ t, t < 3 → (yt z t).length ≤ (yt y t).length := fun t ht => by
                rw [hz, yt_inc]
                by_cases e : t = w
                · subst e; rw [yt_same _ ht, hl]; simp
                · rw [yt_ne _ hw ht e]; exact Nat.le_refl _
              have l0 := hll 0 (by omega)
              have l1 := hll 1 (by omega)
              have l2 := hll 2 (by omega)
              unfold ovf
              omega
            omega
          · have hm := nxt_mv (by omega) hw9 h1
            obtain ⟨o1, o2⟩ := ov_mv hm
            have hzg := (mv_f hm).2.2.2.1
            by_cases hfo : ln (wfr w) < (yt y (wfr w)).length
            · have := o2 hfo
              exact ev _ y z w r hk5 hp hw9 h1 h2 (by omega)
            · obtain ⟨f3, t3, hne, -, u, R, -, -, -, hroom, -⟩ := mv_f hm
              have hfc : wfr w ≠ c := fun e => hfo (by rw [e, hcy]; exact hcl)
              have htc : wto w ≠ c := fun e => by rw [e, hcy] at hroom; omega
              rcases (show (wfr w = a ∧ wto w = b) ∨ (wfr w = b ∧ wto w = a) by omega) with ⟨e1, e2⟩ | ⟨e1, e2⟩
              · rw [e1, e2] at hm
                exact ihv z a b (k + 1) ha hb hab hac hbc (by rw [List.replicate_succ']; exact Pa_app _ _ _ _ _ hp ⟨z, hm, rfl⟩) h2
              · rw [e1, e2] at hm
                cases k with
                | zero =>
                  have e : y0 = y := hp
                  subst e
                  exact ihv z b a 1 hb ha (fun e => hab e.symm) hbc hac ⟨z, hm, rfl⟩ h2
                | succ k =>
                  rw [List.replicate_succ'] at hp
                  obtain ⟨x, hx1, hx2⟩ := Pa_split _ _ _ _ hp
                  obtain ⟨y', hx3, hx4⟩ := hx2
                  have e : y' = y := hx4
                  subst e
                  have e2 := mv_undo hx3 hm
                  subst e2
                  exact ihv z a b k ha hb hab hac hbc hx1 h2
      exact inner v0 y0 a b 0 ha hb hab hac hbc rfl hr
    · have hno : noF ln y0 := fun t ht => by
        rcases Nat.lt_or_ge (ln t) (yt y0 t).length with q | q
        · exact absurd ⟨t, ht, q⟩ hov
        · exact q
      obtain ⟨v', h1, h2⟩ := short_no v0 y0 y0 [] hno rfl hd h5 hr
      exact ⟨v', h1, by omega⟩
/-- the first run has fewer than 100 steps -/
theorem first_short (hn5 : n ≤ 5) {y0 : YS} (hd : (cat y0.2).Nodup) (h5 : (cat y0.2).length ≤ 5) {ws : List Nat} (h : isFirst sv ln n y0 ws) : ws.length ≤ 90 := by
  have ho : ovf ln y0 ≤ 5 := by have := tot3 y0; unfold ovf; omega
  obtain ⟨v', h1, h2⟩ := short_run hn5 10 y0 ws (by omega) hd h5 h.1
  rcases h.2 v' h1 with q | ⟨q, -⟩ <;> omega
end SO
