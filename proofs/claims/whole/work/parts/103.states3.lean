/-! the reference's findStates from its start to its end -/
section FU
variable {kinds broken wanted len stand many : Nat → Int32} {ln : Nat → Nat} {n P : Nat} {y0 : YS} {post : Int32 → (Nat → Int64) → (Nat → Int32) → (Nat → Int32) → (Nat → Int32) → (Nat → Int32) → (Nat → Int32) → Prop}
theorem t_row96 {p : Nat} (hp : p < 5200) {states : Int32} {told : Nat → Int64} {gone places now high ways0 : Nat → Int32} {K120 : (Nat → Int32) → Prop} (hK : ∀ ways : Nat → Int32, (∀ v, v < 9 → ways (9 * p + v) = -1) → (∀ a, a < 9 * p → ways a = ways0 a) → K120 ways) : ∃ k, Z_X7_findStates_96 kinds broken len (nI n) wanted stand many post (nI p) states told gone places now high K120 k 0 ways0 := by
  have key : ∀ (d v : Nat) (ways : Nat → Int32), v + d = 9 → (∀ j, j < v → ways (9 * p + j) = -1) → (∀ a, a < 9 * p → ways a = ways0 a) → Z_X7_findStates_96 kinds broken len (nI n) wanted stand many post (nI p) states told gone places now high K120 (d + 1) (nI v) ways := by
    intro d
    induction d with
    | zero =>
      intro v ways hv h1 h2
      have : v = 9 := by omega
      subst this
      show Y_X7_findStates_96 _ _ _ _ _ _ _ _ _ _ _ _ _ _ _ _ _ _ _
      unfold Y_X7_findStates_96
      exact ⟨fun _ => hK ways h1 h2, fun q => absurd (by decide) q⟩
    | succ d ih =>
      intro v ways hv h1 h2
      show Y_X7_findStates_96 _ _ _ _ _ _ _ _ _ _ _ _ _ _ _ _ _ _ _
      unfold Y_X7_findStates_96
      have hidx : ((9 : Int32) * nI p) + nI v = nI (9 * p + v) := by
        show nI 9 * nI p + nI v = _
        rw [pk_mul, nI_add]
      rw [hidx, i_1, i_cl (by omega)]
      refine ⟨fun q => absurd ((i_le (a := 9) (by omega) (by omega)).mp q) (by omega), fun _ => ⟨i_in (by omega) (by omega), ih (v + 1) _ (by omega) (fun j hj => ?_) (fun a ha => ?_)⟩⟩
      · by_cases e : j = v
        · subst e; rw [up_s]
        · rw [up_o _ _ (by omega)]; exact h1 j (by omega)
      · rw [up_o _ _ (by omega)]; exact h2 a ha
  exact ⟨_, key 9 0 ways0 (by omega) (fun j hj => by omega) (fun _ _ => rfl)⟩
theorem t_findStates (hn : n ≤ 5) (hP : P ≤ 5) (h0 : y0.1 = 0) (g1 : y0.1 + (cat y0.2).length = P) (g2 : (cat y0.2).Nodup) (g3 : ∀ u ∈ cat y0.2, 1 ≤ u ∧ u ≤ 5) (hlen : ∀ t, t < 3 → len t = nI (ln t) ∧ ln t ≤ 5) (hN : NH y0 stand many) {states : Int32} {told : Nat → Int64} {gone ways places now high : Nat → Int32}
    (hpost : ∀ m st told' gone' ways' places' now' high', TI (svu kinds broken wanted) ln n y0 m 0 m st ways' → TB m st (nI m) told' gone' places' → post (nI m) told' gone' ways' places' now' high') : wp_X7_findStates kinds broken len (nI n) wanted stand many states told gone ways places now high post := by
  have hy0 : ys P y0 := ys_of hP g1 g3
  have hyu := hy0.1
  unfold wp_X7_findStates
  -- the places
  have L2 : ∀ (d i : Nat) (pl : Nat → Int32) (K : (Nat → Int32) → Prop), i + d = 16384 → (∀ a, a < i → pl a = 0) → (∀ pl' : Nat → Int32, (∀ a, a < 16384 → pl' a = 0) → K pl') → Z_X7_findStates_2 kinds broken len (nI n) wanted stand many post states told gone ways now high K (d + 1) (nI i) pl := by
    intro d
    induction d with
    | zero =>
      intro i pl K hi h1 hK
      have : i = 16384 := by omega
      subst this
      show Y_X7_findStates_2 _ _ _ _ _ _ _ _ _ _ _ _ _ _ _ _ _ _
      unfold Y_X7_findStates_2
      exact ⟨fun _ => hK pl h1, fun q => absurd (by decide) q⟩
    | succ d ih =>
      intro i pl K hi h1 hK
      show Y_X7_findStates_2 _ _ _ _ _ _ _ _ _ _ _ _ _ _ _ _ _ _
      unfold Y_X7_findStates_2
      rw [i_1, i_cl (by omega)]
      refine ⟨fun q => absurd ((i_le (a := 16384) (by omega) (by omega)).mp q) (by omega), fun _ => ⟨i_in (by omega) (by omega), ih (i + 1) _ K (by omega) (fun a ha => ?_) hK⟩⟩
      by_cases e : a = i
      · subst e; rw [up_s]
      · rw [up_o _ _ e]; exact h1 a (by omega)
  have L24 : ∀ (pl : Nat → Int32) (d i : Nat) (nw : Nat → Int32) (K : (Nat → Int32) → Prop), i + d = 15 → (∀ a, a < i → nw a = stand a) → (∀ nw' : Nat → Int32, (∀ a, a < 15 → nw' a = stand a) → K nw') → Z_X7_findStates_24 kinds broken len (nI n) wanted stand many post states told gone ways pl high K (d + 1) (nI i) nw := by
    intro pl d
    induction d with
    | zero =>
      intro i nw K hi h1 hK
      have : i = 15 := by omega
      subst this
      show Y_X7_findStates_24 _ _ _ _ _ _ _ _ _ _ _ _ _ _ _ _ _ _
      unfold Y_X7_findStates_24
      exact ⟨fun _ => hK nw h1, fun q => absurd (by decide) q⟩
    | succ d ih =>
      intro i nw K hi h1 hK
      show Y_X7_findStates_24 _ _ _ _ _ _ _ _ _ _ _ _ _ _ _ _ _ _
      unfold Y_X7_findStates_24
      rw [i_1, i_cl (by omega)]
      refine ⟨fun q => absurd ((i_le (a := 15) (by omega) (by omega)).mp q) (by omega), fun _ => ⟨i_in (by omega) (by omega), ?_⟩⟩
      intro y7 e7
      subst e7
      refine ⟨i_in (by omega) (by omega), ih (i + 1) _ K (by omega) (fun a ha => ?_) hK⟩
      by_cases e : a = i
      · subst e; rw [up_s]
      · rw [up_o _ _ e]; exact h1 a (by omega)
  have L50 : ∀ (pl nw : Nat → Int32) (d i : Nat) (hg : Nat → Int32) (K : (Nat → Int32) → Prop), i + d = 3 → (∀ a, a < i → hg a = many a) → (∀ hg' : Nat → Int32, (∀ a, a < 3 → hg' a = many a) → K hg') → Z_X7_findStates_50 kinds broken len (nI n) wanted stand many post states told gone ways pl nw K (d + 1) (nI i) hg := by
    intro pl nw d
    induction d with
    | zero =>
      intro i hg K hi h1 hK
      have : i = 3 := by omega
      subst this
      show Y_X7_findStates_50 _ _ _ _ _ _ _ _ _ _ _ _ _ _ _ _ _ _
      unfold Y_X7_findStates_50
      exact ⟨fun _ => hK hg h1, fun q => absurd (by decide) q⟩
    | succ d ih =>
      intro i hg K hi h1 hK
      show Y_X7_findStates_50 _ _ _ _ _ _ _ _ _ _ _ _ _ _ _ _ _ _
      unfold Y_X7_findStates_50
      rw [i_1, i_cl (by omega)]
      refine ⟨fun q => absurd ((i_le (a := 3) (by omega) (by omega)).mp q) (by omega), fun _ => ⟨i_in (by omega) (by omega), ?_⟩⟩
      intro y7 e7
      subst e7
      refine ⟨i_in (by omega) (by omega), ih (i + 1) _ K (by omega) (fun a ha => ?_) hK⟩
      by_cases e : a = i
      · subst e; rw [up_s]
      · rw [up_o _ _ e]; exact h1 a (by omega)
  refine ⟨_, L2 16384 0 places _ (by omega) (fun a ha => by omega) (fun pl hpl => ?_)⟩
  refine ⟨_, L24 pl 15 0 now _ (by omega) (fun a ha => by omega) (fun nw hnw => ?_)⟩
  refine ⟨_, L50 pl nw 3 0 high _ (by omega) (fun a ha => by omega) (fun hg hhg => ?_)⟩
  have hN' : NH y0 nw hg := fun t ht => by
    have h5 := hyu.1 t ht
    obtain ⟨k1, k2⟩ := hN t ht
    exact ⟨by rw [hhg t ht]; exact k1, fun i hi => by rw [hnw _ (by omega)]; exact k2 i hi⟩
  -- the loop over the states
  have L86 : ∀ (d p m : Nat) (st : Nat → YS) (told' : Nat → Int64) (gone' ways' pl' now' high' : Nat → Int32) (states' : Int32), p + d = 5057 → p ≤ m → TI (svu kinds broken wanted) ln n y0 p 0 m st ways' → TB m st states' told' gone' pl' → Z_X7_findStates_86 kinds broken len (nI n) wanted stand many post (d + 1) (nI p) states' told' gone' ways' pl' now' high' := by
    intro d
    induction d with
    | zero =>
      intro p m st told' gone' ways' pl' now' high' states' hd hpm T B
      exfalso
      have := cnt_units g1 g2 g3 m st T.2.2.1 T.2.2.2.1
      omega
    | succ d ih =>
      intro p m st told' gone' ways' pl' now' high' states' hd hpm T B
      have hm := cnt_units g1 g2 g3 m st T.2.2.1 T.2.2.2.1
      show Y_X7_findStates_86 _ _ _ _ _ _ _ _ _ _ _ _ _ _ _ _ _
      unfold Y_X7_findStates_86
      have hst := B.1
      subst hst
      refine ⟨fun q => ?_, fun q => ?_⟩
      · have := (i_le (by omega) (by omega)).mp q
        have e : p = m := by omega
        subst e
        exact hpost p st told' gone' ways' pl' now' high' T B
      · have hp : p < m := by
          rcases Nat.lt_or_ge p m with z | z
          · exact z
          · exact absurd ((i_le (by omega) (by omega)).mpr z) q
        refine t_row96 (by omega) (fun ways2 hw1 hw2 => ?_)
        have T2 : TI (svu kinds broken wanted) ln n y0 p 0 m st ways2 := by
          obtain ⟨a1, a2, a3, a4, a5⟩ := T
          refine ⟨a1, a2, a3, a4, fun i v hi hv => ?_⟩
          rw [hw2 _ (by omega)]
          exact a5 i v hi hv
        rw [i_1]
        exact ⟨_, t_row122 hn hP g1 g2 g3 hlen (m0 := m) (st0 := st) hp (fun m' st' states2 told2 gone2 places2 ways3 now2 high2 c1 c2 c3 c4 => ih (p + 1) m' st' told2 gone2 ways3 places2 now2 high2 states2 (by omega) (by omega) (TI_row c3) c4) 9 0 m st _ told' gone' pl' ways2 now' high' (by omega) (Nat.le_refl _) (fun _ _ => rfl) T2 B (fun v _ hv => hw1 v hv)⟩
  have hx0 : (0 : Int32) = nI y0.1 := by rw [h0]; rfl
  have := t_look (P := P) (m := 0) (st := fun _ => y0) (z := y0) (now := nw) (high := hg) (states := 0) (told := told) (gone := gone) (places := pl) ⟨rfl, fun j hj => absurd hj (Nat.not_lt_zero j), fun _ => 0, ht_0 _ _ _, fun a ha => hpl a ha⟩ (by omega) (fun j hj => absurd hj (Nat.not_lt_zero j)) hy0 hN' (fun _ => by omega) (post := fun (r14 : Int32) (M_states_15 : Int32) (M_told_16 : Nat → Int64) (M_gone_17 : Nat → Int32) (M_places_18 : Nat → Int32) => ∃ n_1, Z_X7_findStates_86 kinds broken len (nI n) wanted stand many post n_1 r14 M_states_15 M_told_16 M_gone_17 ways M_places_18 nw hg) (fun j hj => absurd hj (Nat.not_lt_zero j)) (fun _ told' gone' places' B => ?_)
  · rw [h0] at this
    exact this
  · have B' : TB 1 (fun _ => y0) (nI (0 + 1)) told' gone' places' := by
      refine Eq.mp ?_ B
      congr 1
      funext j
      by_cases e : j = 0
      · rw [if_pos e]
      · rw [if_neg e]
    exact ⟨_, L86 5057 0 1 (fun _ => y0) told' gone' ways places' nw hg _ (by omega) (by omega) ⟨rfl, by omega, fun j _ => ⟨[], rfl⟩, fun i j h1 h2 => by omega, fun i v h1 h2 => by omega⟩ B'⟩
end FU
