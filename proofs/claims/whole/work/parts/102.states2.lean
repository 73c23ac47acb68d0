/-! the reference's findStates: its loops -/
section FT
variable {kinds broken wanted len stand many : Nat → Int32} {ln : Nat → Nat} {n P : Nat} {y0 : YS} {post : Int32 → (Nat → Int64) → (Nat → Int32) → (Nat → Int32) → (Nat → Int32) → (Nat → Int32) → (Nat → Int32) → Prop}
theorem t_row122 (hn : n ≤ 5) (hP : P ≤ 5) (g1 : y0.1 + (cat y0.2).length = P) (g2 : (cat y0.2).Nodup) (g3 : ∀ u ∈ cat y0.2, 1 ≤ u ∧ u ≤ 5) (hlen : ∀ t, t < 3 → len t = nI (ln t) ∧ ln t ≤ 5) {p : Nat} {K378 : Int32 → (Nat → Int64) → (Nat → Int32) → (Nat → Int32) → (Nat → Int32) → (Nat → Int32) → (Nat → Int32) → Prop} {m0 : Nat} {st0 : Nat → YS} (hp0 : p < m0)
    (hK : ∀ m' st' states' told' gone' places' ways' now' high', m0 ≤ m' → (∀ j, j < m0 → st' j = st0 j) → TI (svu kinds broken wanted) ln n y0 p 9 m' st' ways' → TB m' st' states' told' gone' places' → K378 states' told' gone' ways' places' now' high') : ∀ (d w m : Nat) (st : Nat → YS) (states : Int32) (told : Nat → Int64) (gone places ways now high : Nat → Int32), w + d = 9 → m0 ≤ m → (∀ j, j < m0 → st j = st0 j) → TI (svu kinds broken wanted) ln n y0 p w m st ways → TB m st states told gone places → (∀ v, w ≤ v → v < 9 → ways (9 * p + v) = -1) → Z_X7_findStates_122 kinds broken len (nI n) wanted stand many post (nI p) K378 (d + 1) (nI w) states told gone ways places now high := by
  intro d
  induction d with
  | zero =>
    intro w m st states told gone places ways now high hw hm hst T B hr
    have : w = 9 := by omega
    subst this
    show Y_X7_findStates_122 _ _ _ _ _ _ _ _ _ _ _ _ _ _ _ _ _ _ _
    unfold Y_X7_findStates_122
    exact ⟨fun _ => hK m st states told gone places ways now high hm hst T B, fun q => absurd (by decide) q⟩
  | succ d ih =>
    intro w m st states told gone places ways now high hw hm hst T B hr
    obtain ⟨a1, a2, a3, a4, a5⟩ := id T
    have hmc := cnt_units g1 g2 g3 m st a3 a4
    have hp : p < m := by omega
    obtain ⟨wp, hwp⟩ := a3 p hp
    obtain ⟨d1, d2, d3⟩ := fol_ys wp y0 (st p) g1 g2 hwp
    have hps : ys P (st p) := ys_of hP d1 (fun u hu => g3 u (d3 u hu))
    have hyu := hps.1
    have hw9 : w < 9 := by omega
    obtain ⟨hb1, hb2⟩ := B.2.1 p hp
    have hg5 : (st p).1 ≤ 5 := by omega
    show Y_X7_findStates_122 _ _ _ _ _ _ _ _ _ _ _ _ _ _ _ _ _ _ _
    unfold Y_X7_findStates_122
    refine ⟨fun q => absurd ((i_le (a := 9) (by omega) (by omega)).mp q) (by omega), fun _ => ⟨i_in (by omega) (by omega), ?_⟩⟩
    rw [i_cl (by omega), hb1, hb2, i_1]
    have skip : nxt (svu kinds broken wanted) ln n (st p) w = none → ∀ now' high', Z_X7_findStates_122 kinds broken len (nI n) wanted stand many post (nI p) K378 (d + 1) (nI (w + 1)) states told gone ways places now' high' := fun h now' high' => ih (w + 1) m st states told gone places ways now' high' (by omega) hm hst (TI_skip T h (hr w (Nat.le_refl _) hw9)) B (fun v h1 h2 => hr v (by omega) h2)
    refine ⟨fun q => ?_, fun q => ⟨i_in (by omega) (by omega), ?_⟩⟩
    · have hge := (i_le (by omega) (by omega)).mp q
      refine hK m st states told gone places ways now high hm hst ⟨a1, a2, a3, a4, fun i v hi hv => ?_⟩ B
      rcases Nat.lt_or_ge i p with z | z
      · exact a5 i v hi (by omega)
      · have e : i = p := by omega
        subst e
        rcases Nat.lt_or_ge v w with z2 | z2
        · exact a5 i v hi (by omega)
        · left
          refine ⟨?_, hr v z2 (by omega)⟩
          cases hx : nxt (svu kinds broken wanted) ln n (st i) v with
          | none => rfl
          | some z => have := nxt_lt hx; omega
    · have hlt : (st p).1 < n := by
        rcases Nat.lt_or_ge (st p).1 n with z | z
        · exact z
        · exact absurd ((i_le (by omega) (by omega)).mpr z) q
      refine t_read hyu (fun now1 high1 hN => ?_)
      refine ⟨fun q3 => ?_, fun q3 => ?_⟩
      · -- a shunt
        have hw3 : 3 ≤ w := (i_le (a := 3) (by omega) (by omega)).mp q3
        obtain ⟨f3, t3, hne⟩ := w_tracks ⟨w, hw9⟩ hw3
        simp only at f3 t3 hne
        have e30 : (nI w - 3) / 2 = nI (wfr w) := by
          have h1 : nI w - 3 = nI (w - 3) := i_sub (b := 3) hw3
          rw [h1]
          exact i_div (b := 2) (by omega) (by omega) (by omega)
        have e31 : (nI w - 3) - (nI w - 3) / 2 * 2 = nI ((w - 3) % 2) := by
          have h1 : nI w - 3 = nI (w - 3) := i_sub (b := 3) hw3
          rw [h1]
          exact i_rem (b := 2) (by omega) (by omega) (by omega)
        intro y30 h30
        rw [e30] at h30
        subst h30
        intro y31 h31
        rw [e31] at h31
        subst h31
        have body : B_X7_findStates_266 kinds broken len (nI n) wanted stand many post (Z_X7_findStates_122 kinds broken len (nI n) wanted stand many post (nI p) K378 (d + 1)) K378 (nI p) (nI w) (nI (wfr w)) (nI (wto w)) states told gone ways places now1 high1 := by
          unfold B_X7_findStates_266
          refine ⟨i_in f3 (by omega), ?_⟩
          rw [i_cl (by omega), i_cl (by omega), i_1]
          obtain ⟨n1, -⟩ := hN (wfr w) f3
          have hlf := hyu.1 (wfr w) f3
          have hlt2 := hyu.1 (wto w) t3
          refine ⟨fun q4 => skip ?_ _ _, fun q4 => ⟨i_in t3 (by omega), i_in t3 (by omega), ?_⟩⟩
          · rw [n1] at q4
            have h0 := (i_le (b := 0) (by omega) (by omega)).mp q4
            cases hx : nxt (svu kinds broken wanted) ln n (st p) w with
            | none => rfl
            | some z => obtain ⟨-, u, R, h1, -⟩ := (nxt_sh hw3).mp hx; rw [h1, List.length_cons] at h0; omega
          · obtain ⟨n2, -⟩ := hN (wto w) t3
            rw [n2, (hlen (wto w) t3).1]
            have hl5 := (hlen (wto w) t3).2
            refine ⟨fun q5 => skip ?_ _ _, fun q5 => ⟨i_in f3 (by omega), ?_⟩⟩
            · have h0 := (i_le (by omega) (by omega)).mp q5
              cases hx : nxt (svu kinds broken wanted) ln n (st p) w with
              | none => rfl
              | some z => obtain ⟨-, u, R, -, h1, -⟩ := (nxt_sh hw3).mp hx; omega
            · have hroom : (yt (st p) (wto w)).length < ln (wto w) := by
                rcases Nat.lt_or_ge (yt (st p) (wto w)).length (ln (wto w)) with z | z
                · exact z
                · exact absurd ((i_le (by omega) (by omega)).mpr z) q5
              cases hl : yt (st p) (wfr w) with
              | nil => rw [n1, hl] at q4; exact absurd (by decide) q4
              | cons u R =>
                have hz : nxt (svu kinds broken wanted) ln n (st p) w = some (yset (yset (st p) (wfr w) R) (wto w) (u :: yt (st p) (wto w))) := (nxt_sh hw3).mpr ⟨hlt, u, R, hl, hroom, rfl⟩
                obtain ⟨k1, k2⟩ := NH_top hN f3 hl
                have hRl : R.length + 1 ≤ 5 := by rw [hl, List.length_cons] at hlf; exact hlf
                intro y40 e40
                rw [k1, nI_pred] at e40
                subst e40
                refine ⟨i_in f3 (by omega), i_in t3 (by omega), i_in f3 (by omega), ?_⟩
                have hp1 := NH_pop hN f3 hl
                have hyt : yt (yset (st p) (wfr w) R) (wto w) = yt (st p) (wto w) := yt_ne _ f3 t3 hne R
                have hp2 := NH_push (u := u) hp1 t3 (fun c hc => by
                  by_cases e : c = wfr w
                  · subst e; rw [yt_same _ hc]; omega
                  · rw [yt_ne _ f3 hc e]; exact hyu.1 c hc) (by rw [hyt]; omega)
                rw [hyt] at hp2
                rw [up_s, up_o high1 (nI R.length) hne, n2]
                have hi1 : ((5 : Int32) * nI (wfr w)) + nI R.length = nI (5 * wfr w + R.length) := by
                  show nI 5 * nI (wfr w) + nI R.length = _
                  rw [pk_mul, nI_add]
                have hi2 : ((5 : Int32) * nI (wto w)) + nI (yt (st p) (wto w)).length = nI (5 * wto w + (yt (st p) (wto w)).length) := by
                  show nI 5 * nI (wto w) + nI (yt (st p) (wto w)).length = _
                  rw [pk_mul, nI_add]
                rw [hi1, hi2]
                refine ⟨i_in (by omega) (by omega), ?_⟩
                intro y45 e45
                rw [i_cl (by omega), k2] at e45
                subst e45
                refine ⟨i_in (by omega) (by omega), i_in t3 (by omega), ?_⟩
                intro y48 e48
                rw [i_1] at e48
                subst e48
                refine ⟨i_in t3 (by omega), i_in (by omega) (by omega), ?_⟩
                rw [i_cl (by omega), i_cl (by omega), hb2]
                have hz1 : (yset (yset (st p) (wfr w) R) (wto w) (u :: yt (st p) (wto w))).1 = (st p).1 := by rw [yset_g, yset_g]
                have := t_meetM hP g1 g2 g3 T B hp hw9 hz hp2 (fun v h1 h2 => hr v (by omega) h2) (K := fun s t g wy pl => Z_X7_findStates_122 kinds broken len (nI n) wanted stand many post (nI p) K378 (d + 1) (nI (w + 1)) s t g wy pl (upd now1 (5 * wto w + (yt (st p) (wto w)).length) (nI (u - 1))) (upd (upd high1 (wfr w) (nI R.length)) (wto w) (nI ((yt (st p) (wto w)).length + 1)))) (fun m' st' states' told' gone' places' ways' c1 c2 c3 c4 c5 => ih (w + 1) m' st' states' told' gone' places' ways' _ _ (by omega) (by omega) (fun j hj => (c2 j (by omega)).trans (hst j hj)) c3 c4 (fun v h1 h2 => c5 v (by omega) h2))
                rw [hz1] at this
                exact this
        refine ⟨fun q4 => ?_, fun q4 => ?_⟩
        · have h4 := (i_lt (by omega) (by omega)).mp q4
          have e : wto w = (w - 3) % 2 := by unfold wto; rw [if_pos (by unfold wfr at h4; exact h4)]
          rw [e] at body
          exact body
        · have h4 : ¬ (w - 3) % 2 < wfr w := fun h => q4 ((i_lt (by omega) (by omega)).mpr h)
          have e : wto w = (w - 3) % 2 + 1 := by unfold wto; rw [if_neg (by unfold wfr at h4; exact h4)]
          rw [e] at body
          rw [i_1]
          exact body
      · -- a going
        have hw3 : w < 3 := by
          rcases Nat.lt_or_ge w 3 with z | z
          · exact z
          · exact absurd ((i_le (a := 3) (by omega) (by omega)).mpr z) q3
        refine ⟨i_in hw3 (by omega), ?_⟩
        rw [i_cl (by omega)]
        obtain ⟨n1, -⟩ := hN w hw3
        have hlf := hyu.1 w hw3
        refine ⟨fun q4 => skip ?_ _ _, fun q4 => ?_⟩
        · rw [n1] at q4
          have h0 := (i_le (b := 0) (by omega) (by omega)).mp q4
          cases hx : nxt (svu kinds broken wanted) ln n (st p) w with
          | none => rfl
          | some z => obtain ⟨-, u, R, h1, -⟩ := (nxt_go hw3).mp hx; rw [h1, List.length_cons] at h0; omega
        · cases hl : yt (st p) w with
          | nil => rw [n1, hl] at q4; exact absurd (by decide) q4
          | cons u R =>
            obtain ⟨k1, k2⟩ := NH_top hN hw3 hl
            have hRl : R.length + 1 ≤ 5 := by rw [hl, List.length_cons] at hlf; exact hlf
            have hu5 := hyu.2 w hw3 u (by rw [hl]; exact List.mem_cons_self)
            rw [k1]
            have hi1 : (((5 : Int32) * nI w) + nI (R.length + 1)) - 1 = nI (5 * w + R.length) := by
              have h1 : ((5 : Int32) * nI w) + nI (R.length + 1) = nI (5 * w + R.length + 1) := by
                show nI 5 * nI w + nI (R.length + 1) = _
                rw [pk_mul, nI_add]
                rfl
              rw [h1, nI_pred]
            rw [hi1]
            refine ⟨i_in hw3 (by omega), i_in (by omega) (by omega), i_in (by omega) (by omega), i_in (by omega) (by omega), ?_⟩
            rw [i_cl (by omega), i_cl (by omega), k2]
            refine t_isWanted (by omega) ?_
            cases hs : srv kinds broken (u - 1) (wanted (st p).1) with
            | false =>
              refine ⟨fun _ => skip ?_ _ _, fun q5 => absurd (by simp) q5⟩
              cases hx : nxt (svu kinds broken wanted) ln n (st p) w with
              | none => rfl
              | some z =>
                obtain ⟨-, u', R', h1, h2, -⟩ := (nxt_go hw3).mp hx
                rw [hl] at h1
                rw [← (List.cons.inj h1).1] at h2
                have h2 : srv kinds broken (u - 1) (wanted (st p).1) = true := h2
                rw [hs] at h2
                exact absurd h2 (by decide)
            | true =>
              refine ⟨fun q5 => absurd q5 (by decide), fun _ => ⟨i_in hw3 (by omega), ?_⟩⟩
              intro y66 e66
              rw [nI_pred] at e66
              subst e66
              refine ⟨i_in hw3 (by omega), i_in (by omega) (by omega), ?_⟩
              have hz : nxt (svu kinds broken wanted) ln n (st p) w = some (yinc (yset (st p) w R)) := (nxt_go hw3).mpr ⟨hlt, u, R, hl, hs, rfl⟩
              have hp1 : NH (yinc (yset (st p) w R)) now1 (upd high1 w (nI R.length)) := NH_pop hN hw3 hl
              have hz1 : (yinc (yset (st p) w R)).1 = (st p).1 + 1 := by show (yset (st p) w R).1 + 1 = _; rw [yset_g]
              have := t_meetM hP g1 g2 g3 T B hp hw9 hz hp1 (fun v h1 h2 => hr v (by omega) h2) (K := fun s t g wy pl => Z_X7_findStates_122 kinds broken len (nI n) wanted stand many post (nI p) K378 (d + 1) (nI (w + 1)) s t g wy pl now1 (upd high1 w (nI R.length))) (fun m' st' states' told' gone' places' ways' c1 c2 c3 c4 c5 => ih (w + 1) m' st' states' told' gone' places' ways' _ _ (by omega) (by omega) (fun j hj => (c2 j (by omega)).trans (hst j hj)) c3 c4 (fun v h1 h2 => c5 v (by omega) h2))
              rw [hz1] at this
              rw [i_1]
              exact this
end FT
