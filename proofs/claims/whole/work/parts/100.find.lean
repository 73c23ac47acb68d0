/-! the reference's table of yards -/
def hM (v : Nat) : Nat := v % 16381
def ys (P : Nat) (y : YS) : Prop := yu y ∧ y.1 + (cat y.2).length = P
def TB (m : Nat) (st : Nat → YS) (states : Int32) (told : Nat → Int64) (gone places : Nat → Int32) : Prop :=
  states = nI m ∧ (∀ j, j < m → told j = lN (num (st j)) ∧ gone j = nI (st j).1) ∧ ∃ sl, HT 16384 m sl (fun j => num (st j)) hM ∧ ∀ a, a < 16384 → places a = nI (sl a)
theorem ys_eq {P : Nat} {a b : YS} (ha : ys P a) (hb : ys P b) (e : num a = num b) : a = b := by
  have hcat : ∀ t, t < 3 → yt a t = yt b t := by
    have := num_inj (a := (0, a.2)) (b := (0, b.2)) ha.1 hb.1 e rfl
    intro t _
    have h2 : a.2 = b.2 := (Prod.mk.inj this).2
    unfold yt
    rw [h2]
  refine yext ?_ hcat
  have h1 := ha.2
  have h2 := hb.2
  rw [tot3, hcat 0 (by omega), hcat 1 (by omega), hcat 2 (by omega), ← tot3] at h1
  omega
theorem t_look {P m : Nat} {st : Nat → YS} {z : YS} {now high : Nat → Int32} {states : Int32} {told : Nat → Int64} {gone places : Nat → Int32} (T : TB m st states told gone places) (hm : m ≤ 5056) (hst : ∀ j, j < m → ys P (st j)) (hz : ys P z) (hN : NH z now high) (hnew : (∀ j, j < m → st j ≠ z) → m + 1 ≤ 5056)
    {post : Int32 → Int32 → (Nat → Int64) → (Nat → Int32) → (Nat → Int32) → Prop} (h1 : ∀ j, j < m → st j = z → post (nI j) states told gone places) (h2 : (∀ j, j < m → st j ≠ z) → ∀ told' gone' places', TB (m + 1) (fun j => if j = m then z else st j) (nI (m + 1)) told' gone' places' → post (nI m) (nI (m + 1)) told' gone' places') : wp_X7_find now high (nI z.1) states told gone places post := by
  obtain ⟨T1, T2, sl, TH, Tsl⟩ := T
  have hv := num_lt hz.1
  unfold wp_X7_find
  refine t_number hz.1 hN ?_
  intro y2 e2
  have e2 : y2 = nI (hM (num z)) := by
    rw [e2]
    unfold hM
    rw [← lN_i]
    congr 1
    exact pk_lRem (b := 16381) (by omega) (by omega) (by omega)
  subst e2
  have hh : hM (num z) < 16384 := by unfold hM; omega
  obtain ⟨d, hd, hocc, hend⟩ := ht_find TH (by omega) (num z) hh
  have key : ∀ (k i : Nat), i + k = d → Z_X7_find_13 now high (nI z.1) post (lN (num z)) states told gone places (fun (x4_10 : Int32) => B_X7_find_63 now high (nI z.1) post (lN (num z)) x4_10 states told gone places) (k + 1) (nI ((hM (num z) + i) % 16384)) := by
    intro k
    induction k with
    | zero =>
      intro i hi
      have : i = d := by omega
      subst this
      show Y_X7_find_13 _ _ _ _ _ _ _ _ _ _ _ _
      unfold Y_X7_find_13
      have hlt : (hM (num z) + i) % 16384 < 16384 := Nat.mod_lt _ (by decide)
      have hin : vp_in (nI ((hM (num z) + i) % 16384)) 16384 := i_in hlt (by omega)
      refine ⟨hin, ?_⟩
      rw [i_cl (by omega), Tsl _ hlt]
      rcases hend with ⟨h0, hno⟩ | ⟨j, hj, hjs, hjk⟩
      · rw [h0]
        refine ⟨fun _ => ?_, fun q => absurd (by decide) q⟩
        have hne : ∀ j, j < m → st j ≠ z := fun j hj e => hno j hj (by show num (st j) = num z; rw [e])
        have hm1 := hnew hne
        unfold B_X7_find_63
        refine ⟨hin, ?_⟩
        rw [i_cl (by omega), Tsl _ hlt, h0]
        refine ⟨fun q => absurd rfl q, fun _ => ?_⟩
        rw [T1]
        refine ⟨i_in (by omega) (by omega), i_in (by omega) (by omega), ?_⟩
        intro y16 e16
        rw [i_1] at e16
        subst e16
        refine ⟨hin, hin, ?_⟩
        rw [up_s, i_cl (by omega), nI_pred]
        refine h2 hne _ _ _ ⟨rfl, fun j hj => ?_, nup sl ((hM (num z) + i) % 16384) (m + 1), ?_, fun a ha => ?_⟩
        · by_cases e : j = m
          · subst e; rw [pk_uLs, up_s]; simp only [if_pos trivial]; exact ⟨trivial, trivial⟩
          · rw [pk_uLn e, up_o _ _ e]; simp only [if_neg e]; exact T2 j (by omega)
        · have HT' := ht_add TH hh hd (fun e he => (hocc e he).1) h0 hno
          refine Eq.mp ?_ HT'
          congr 1
          funext j
          unfold nup
          by_cases e : j = m
          · simp only [if_pos e]
          · simp only [if_neg e]
        · by_cases e : a = (hM (num z) + i) % 16384
          · subst e; rw [up_s, nup_s]
          · rw [up_o _ _ e, nup_o _ _ e]; exact Tsl a ha
      · have hjz : st j = z := ys_eq (hst j hj) hz hjk
        rw [hjs]
        refine ⟨fun q => absurd ((i_le (b := 0) (by omega) (by omega)).mp q) (by omega), fun _ => ⟨hin, ?_⟩⟩
        rw [nI_pred]
        refine ⟨i_in (by omega) (by omega), ?_⟩
        rw [i_cl (by omega), (T2 j hj).1]
        refine ⟨fun _ => ?_, fun q => absurd (cmp0.mpr (by rw [hjz])) q⟩
        unfold B_X7_find_63
        refine ⟨hin, ?_⟩
        rw [i_cl (by omega), Tsl _ hlt, hjs]
        refine ⟨fun _ => ⟨hin, ?_⟩, fun q => absurd ((i_eq (b := 0) (by omega) (by omega)).mp q) (by omega)⟩
        rw [nI_pred]
        exact h1 j hj hjz
    | succ k ih =>
      intro i hi
      show Y_X7_find_13 _ _ _ _ _ _ _ _ _ _ _ _
      unfold Y_X7_find_13
      have hlt : (hM (num z) + i) % 16384 < 16384 := Nat.mod_lt _ (by decide)
      have hin : vp_in (nI ((hM (num z) + i) % 16384)) 16384 := i_in hlt (by omega)
      obtain ⟨o1, o2⟩ := hocc i (by omega)
      have hle := TH.1 _ hlt
      refine ⟨hin, ?_⟩
      rw [i_cl (by omega), Tsl _ hlt]
      obtain ⟨j, hj⟩ : ∃ j, sl ((hM (num z) + i) % 16384) = j + 1 := ⟨sl ((hM (num z) + i) % 16384) - 1, by omega⟩
      rw [hj] at o2 hle ⊢
      rw [Nat.add_sub_cancel] at o2
      refine ⟨fun q => absurd ((i_le (b := 0) (by omega) (by omega)).mp q) (by omega), fun _ => ⟨hin, ?_⟩⟩
      rw [nI_pred]
      refine ⟨i_in (by omega) (by omega), ?_⟩
      rw [i_cl (by omega), (T2 j (by omega)).1]
      have hlj := num_lt (hst j (by omega)).1
      refine ⟨fun q => absurd ((pk_lEQ (by omega) (by omega)).mp (cmp0.mp q)) o2, fun _ => ⟨fun q => ?_, fun q => ?_⟩⟩
      · intro y9 e9
        have hne : (hM (num z) + i) % 16384 ≠ 16383 := fun e => q (by rw [e]; rfl)
        rw [i_1] at e9
        subst e9
        have := ih (i + 1) (by omega)
        rw [show (hM (num z) + (i + 1)) % 16384 = (hM (num z) + i) % 16384 + 1 by omega] at this
        exact this
      · have he : (hM (num z) + i) % 16384 = 16383 := (i_eq (b := 16383) (by omega) (by omega)).mp q
        have := ih (i + 1) (by omega)
        rw [show (hM (num z) + (i + 1)) % 16384 = 0 by omega] at this
        exact this
  have := key d 0 (by omega)
  rw [show (hM (num z) + 0) % 16384 = hM (num z) by omega] at this
  exact ⟨_, this⟩
/-! all that is reached -/
theorem fol_ys {sv : Nat → Nat → Bool} {ln : Nat → Nat} {n P : Nat} : ∀ (ws : List Nat) (y z : YS), y.1 + (cat y.2).length = P → (cat y.2).Nodup → fol sv ln n y ws = some z → z.1 + (cat z.2).length = P ∧ (cat z.2).Nodup ∧ ∀ u ∈ cat z.2, u ∈ cat y.2
  | [], y, z, h1, h2, e => by simp only [fol, Option.some.injEq] at e; subst e; exact ⟨h1, h2, fun _ h => h⟩
  | w :: r, y, z, h1, h2, e => by
    obtain ⟨x, e1, e2⟩ := fol_pre sv ln n [w] r y z e
    obtain ⟨hw, e3⟩ := fol_one e1
    have hsub := nxt_sub hw e3
    have hx : x.1 + (cat x.2).length = P ∧ (cat x.2).Nodup := by
      rcases nxt_cat hw e3 with ⟨c1, c2⟩ | ⟨c1, -, u, -, c3⟩
      · exact ⟨by rw [c1, c2.length_eq]; exact h1, c2.nodup_iff.mpr h2⟩
      · have := c3.length_eq
        rw [List.length_cons] at this
        exact ⟨by omega, (List.nodup_cons.mp (c3.nodup_iff.mp h2)).2⟩
    obtain ⟨d1, d2, d3⟩ := fol_ys r x z hx.1 hx.2 e2
    exact ⟨d1, d2, fun u hu => hsub u (d3 u hu)⟩
theorem ys_of {P : Nat} {y : YS} (hP : P ≤ 5) (h1 : y.1 + (cat y.2).length = P) (h2 : ∀ u ∈ cat y.2, 1 ≤ u ∧ u ≤ 5) : ys P y := by
  refine ⟨⟨fun t ht => ?_, fun t ht m hm => h2 m (mem_cat.mpr ⟨t, ht, hm⟩)⟩, h1⟩
  have := tot3 y
  rcases (show t = 0 ∨ t = 1 ∨ t = 2 by omega) with e | e | e <;> subst e <;> omega
theorem cnt_units {sv : Nat → Nat → Bool} {ln : Nat → Nat} {n P : Nat} {y0 : YS} (h1 : y0.1 + (cat y0.2).length = P) (h2 : (cat y0.2).Nodup) (h3 : ∀ u ∈ cat y0.2, 1 ≤ u ∧ u ≤ 5) (m : Nat) (st : Nat → YS) (hf : ∀ j, j < m → ∃ ws, fol sv ln n y0 ws = some (st j)) (hd : ∀ i j, i < j → j < m → st i ≠ st j) : m ≤ 5056 := by
  rw [← arrS_5]
  refine pig _ m (fun j => (st j).2) (fun j hj => ?_) (fun i j hij hj e => hd i j hij hj ?_)
  · obtain ⟨ws, hw⟩ := hf j hj
    obtain ⟨d1, d2, d3⟩ := fol_ys ws y0 (st j) h1 h2 hw
    refine arrS_mem _ _ d2 (fun x hx => ?_)
    have := h3 x (d3 x hx)
    rcases (show x = 1 ∨ x = 2 ∨ x = 3 ∨ x = 4 ∨ x = 5 by omega) with e | e | e | e | e <;> subst e <;> decide
  · obtain ⟨ws, hw⟩ := hf i (by omega)
    obtain ⟨ws', hw'⟩ := hf j hj
    obtain ⟨d1, -, -⟩ := fol_ys ws y0 (st i) h1 h2 hw
    obtain ⟨d2, -, -⟩ := fol_ys ws' y0 (st j) h1 h2 hw'
    have e : (st i).2 = (st j).2 := e
    rw [e] at d1
    refine Prod.ext (by omega) e
