/-! the class's search: its loops -/
section B3
variable {ln : Nat → Nat} {n : Nat} {y0 : YS} {wanted len : Nat → Int32}
/-- a mark may leave in place i -/
def svm (wanted : Nat → Int32) : Nat → Nat → Bool := fun m i => decide (nI m = wanted i + 1)
theorem t_goings (hn : n ≤ 5) (hy0 : yk y0) (hcnt : ∀ (m : Nat) (st : Nat → YS) (pth : Nat → List Nat), (∀ j, j < m → fol (svm wanted) ln n y0 (pth j) = some (st j)) → (∀ i j, i < j → j < m → st i ≠ st j) → m ≤ 2956) (hwd : ∀ i, i < n → ∃ k, k < 4 ∧ wanted i = nI k)
    {p m : Nat} {st : Nat → YS} {pth : Nat → List Nat} {par lab : Nat → Nat} (B : BI (svm wanted) ln n y0 p 0 m st pth par lab) (hp : p < m) (hg : (st p).1 < n) {ps : Nat → Int64} {mf sp sls : Nat → Int32} {met goal : Int32} (A : AR n m st par lab ps mf sp sls met goal)
    {post : (Nat → Int64) → (Nat → Int32) → (Nat → Int32) → (Nat → Int32) → Int32 → Int32 → Prop} (hpost : ∀ m' st' pth' par' lab' ps' mf' sp' sls' met' goal', m ≤ m' → (∀ j, j < m → st' j = st j) → BI (svm wanted) ln n y0 p 3 m' st' pth' par' lab' → AR n m' st' par' lab' ps' mf' sp' sls' met' goal' → post ps' mf' sp' sls' met' goal') : wp_X4_tryGoings wanted (nI n) (nI p) ps mf sp sls met goal post := by
  have hm := hcnt m st pth B.2.2.2.1 (fun i j hij hj q => by
    obtain ⟨sl', aH, -⟩ := A.2.2.1
    have := aH.2.2.2 i j (by omega) hj (by show enc (st i) = enc (st j); rw [q])
    omega)
  have hyk : yk (st p) := fol_yk hn _ _ _ hy0 (B.2.2.2.1 p hp)
  have hok := yk_ok hyk
  unfold wp_X4_tryGoings
  refine ⟨i_in (by omega) (by omega), ?_⟩
  rw [i_cl (by omega), A.1 p hp]
  intro y2 e2
  subst e2
  refine t_gone hok ⟨fun _ => ⟨i_in (by omega) (by omega), ?_⟩, fun q => absurd ((i_lt (by omega) (by omega)).mpr hg) q⟩
  rw [i_cl (by omega)]
  unfold wp_X2_markOfKind
  obtain ⟨k4, hk4, hwk⟩ := hwd _ hg
  have key : ∀ (d w m2 : Nat) (st2 : Nat → YS) (pth2 : Nat → List Nat) (par2 lab2 : Nat → Nat) (ps2 : Nat → Int64) (mf2 sp2 sls2 : Nat → Int32) (met2 goal2 : Int32), w + d = 3 → m ≤ m2 → (∀ j, j < m → st2 j = st j) → BI (svm wanted) ln n y0 p w m2 st2 pth2 par2 lab2 → AR n m2 st2 par2 lab2 ps2 mf2 sp2 sls2 met2 goal2 → Z_X4_tryGoings_44 wanted (nI n) (nI p) post (lN (enc (st p))) (wanted (st p).1 + 1) (d + 1) (nI w) ps2 mf2 sp2 sls2 met2 goal2 := by
    intro d
    induction d with
    | zero =>
      intro w m2 st2 pth2 par2 lab2 ps2 mf2 sp2 sls2 met2 goal2 hw hm2 hst B2 A2
      show Y_X4_tryGoings_44 _ _ _ _ _ _ _ _ _ _ _ _ _ _
      unfold Y_X4_tryGoings_44
      have : w = 3 := by omega
      subst this
      exact ⟨fun _ => hpost _ _ _ _ _ _ _ _ _ _ _ hm2 hst B2 A2, fun q => absurd ((i_le (a := 3) (by omega) (by omega)).mpr (by omega)) q⟩
    | succ d ih =>
      intro w m2 st2 pth2 par2 lab2 ps2 mf2 sp2 sls2 met2 goal2 hw hm2 hst B2 A2
      show Y_X4_tryGoings_44 _ _ _ _ _ _ _ _ _ _ _ _ _ _
      unfold Y_X4_tryGoings_44
      have hw3 : w < 3 := by omega
      have hsp : st2 p = st p := hst p hp
      refine ⟨fun q => absurd ((i_le (a := 3) (by omega) (by omega)).mp q) (by omega), fun _ => ?_⟩
      rw [i_1]
      have skip : nxt (svm wanted) ln n (st2 p) w = none → Z_X4_tryGoings_44 wanted (nI n) (nI p) post (lN (enc (st p))) (wanted (st p).1 + 1) (d + 1) (nI (w + 1)) ps2 mf2 sp2 sls2 met2 goal2 := fun h => ih (w + 1) m2 st2 pth2 par2 lab2 ps2 mf2 sp2 sls2 met2 goal2 (by omega) hm2 hst (BI_skip B2 h) A2
      refine t_lastMark hok hw3 (fun hl => ?_) (fun mk R hl => ?_)
      · refine ⟨fun _ => skip ?_, fun q => ?_⟩
        · rw [hsp]
          cases hx : nxt (svm wanted) ln n (st p) w with
          | none => rfl
          | some z => obtain ⟨-, u, R, h1, -⟩ := (nxt_go hw3).mp hx; rw [hl] at h1; exact absurd h1 (by simp)
        · exfalso
          rw [hwk, i_1] at q
          have := (i_eq (a := 0) (b := k4 + 1) (by omega) (by omega)).mp q
          omega
      · refine ⟨fun q => skip ?_, fun q => ?_⟩
        · rw [hsp]
          cases hx : nxt (svm wanted) ln n (st p) w with
          | none => rfl
          | some z =>
            obtain ⟨-, u, R', h1, h2, -⟩ := (nxt_go hw3).mp hx
            rw [hl] at h1
            rw [← (List.cons.inj h1).1] at h2
            exact absurd (of_decide_eq_true h2) q
        · have hx : nxt (svm wanted) ln n (st2 p) w = some (yinc (yset (st p) w (yt (st p) w).tail)) := by
            rw [hsp]
            exact (nxt_go hw3).mpr ⟨hg, mk, R, hl, decide_eq_true q, by rw [hl]; rfl⟩
          refine t_sendOff hok hw3 ?_
          have hcw : nI w = nI (cod w) := by unfold cod; rw [if_pos hw3]
          have := t_meet hn hy0 hcnt B2 (show p < m2 by omega) (show w < 9 by omega) hx A2 (post := fun S_positions_11 S_metFrom_12 S_stepTo_13 S_slots_14 S_met_15 S_goal_16 => Z_X4_tryGoings_44 wanted (nI n) (nI p) post (lN (enc (st p))) (wanted (st p).1 + 1) (d + 1) (nI (w + 1)) S_positions_11 S_metFrom_12 S_stepTo_13 S_slots_14 S_met_15 S_goal_16) (fun m3 st3 pth3 par3 lab3 ps3 mf3 sp3 sls3 met3 goal3 h1 h2 h3 h4 => ih (w + 1) m3 st3 pth3 par3 lab3 ps3 mf3 sp3 sls3 met3 goal3 (by omega) (by omega) (fun j hj => (h2 j (by omega)).trans (hst j hj)) h3 h4)
          rw [← hcw] at this
          exact this
  exact ⟨_, key 3 0 m st pth par lab ps mf sp sls met goal (by omega) (Nat.le_refl _) (fun _ _ => rfl) B A⟩
theorem t_shuntP {y : YS} (hy : yok y) {a b : Nat} (ha : a < 3) (hb : b < 3) (hne : b ≠ a) {u : Nat} {R : List Nat} (hl : yt y a = u :: R) (h4 : (yt y b).length < 5) {post : Int64 → Prop} (hp : post (lN (enc (yset (yset y a R) b (u :: yt y b))))) : wp_X2_shunt (lN (enc y)) (nI a) (nI b) post := by
  unfold wp_X2_shunt
  have h5 := hy.1 a ha
  rw [hl] at h5
  have hok1 : yok (yset y a R) := yset_ok hy ha ⟨by have := h5.1; simp at this; omega, fun m hm => h5.2 m (List.mem_cons_of_mem _ hm)⟩
  have hbb : yt (yset y a R) b = yt y b := yt_ne y ha hb hne R
  refine t_take hy ha ?_
  rw [hl, List.tail_cons]
  refine t_lastMark hy ha (fun q => by rw [hl] at q; exact absurd q (by simp)) (fun m R' q => ?_)
  rw [hl] at q
  rw [← (List.cons.inj q).1]
  refine t_put hok1 hb (h5.2 u List.mem_cons_self) (by rw [hbb]; exact h4) ?_
  rw [hbb]
  exact hp
theorem w_of : ∀ a b : Fin 3, b ≠ a → ∃ w : Fin 9, 3 ≤ w.val ∧ wfr w.val = a.val ∧ wto w.val = b.val ∧ w.val = 3 + 2 * a.val + (if b.val < a.val then b.val else b.val - 1) := by decide
theorem t_shunts (hn : n ≤ 5) (hy0 : yk y0) (hcnt : ∀ (m : Nat) (st : Nat → YS) (pth : Nat → List Nat), (∀ j, j < m → fol (svm wanted) ln n y0 (pth j) = some (st j)) → (∀ i j, i < j → j < m → st i ≠ st j) → m ≤ 2956) (hlen : ∀ t, t < 3 → len t = nI (ln t) ∧ ln t ≤ 5)
    {p m : Nat} {st : Nat → YS} {pth : Nat → List Nat} {par lab : Nat → Nat} (B : BI (svm wanted) ln n y0 p 3 m st pth par lab) (hp : p < m) (hg : (st p).1 < n) {ps : Nat → Int64} {mf sp sls : Nat → Int32} {met goal : Int32} (A : AR n m st par lab ps mf sp sls met goal)
    {post : (Nat → Int64) → (Nat → Int32) → (Nat → Int32) → (Nat → Int32) → Int32 → Int32 → Prop} (hpost : ∀ m' st' pth' par' lab' ps' mf' sp' sls' met' goal', m ≤ m' → (∀ j, j < m → st' j = st j) → BI (svm wanted) ln n y0 p 9 m' st' pth' par' lab' → AR n m' st' par' lab' ps' mf' sp' sls' met' goal' → post ps' mf' sp' sls' met' goal') : wp_X4_tryShunts len (nI n) (nI p) ps mf sp sls met goal post := by
  have hm := hcnt m st pth B.2.2.2.1 (fun i j hij hj q => by
    obtain ⟨sl', aH, -⟩ := A.2.2.1
    have := aH.2.2.2 i j (by omega) hj (by show enc (st i) = enc (st j); rw [q])
    omega)
  have hyk : yk (st p) := fol_yk hn _ _ _ hy0 (B.2.2.2.1 p hp)
  have hok := yk_ok hyk
  unfold wp_X4_tryShunts
  refine ⟨i_in (by omega) (by omega), ?_⟩
  rw [i_cl (by omega), A.1 p hp]
  intro y2 e2
  subst e2
  -- one row of targets: from a, the targets from b on
  have inner : ∀ (a : Nat), a < 3 → ∀ (u : Nat) (R : List Nat), yt (st p) a = u :: R → ∀ (K92 : (Nat → Int64) → (Nat → Int32) → (Nat → Int32) → (Nat → Int32) → Int32 → Int32 → Prop), (∀ m' st' pth' par' lab' ps' mf' sp' sls' met' goal', m ≤ m' → (∀ j, j < m → st' j = st j) → BI (svm wanted) ln n y0 p (5 + 2 * a) m' st' pth' par' lab' → AR n m' st' par' lab' ps' mf' sp' sls' met' goal' → K92 ps' mf' sp' sls' met' goal') → ∀ (d b m2 : Nat) (st2 : Nat → YS) (pth2 : Nat → List Nat) (par2 lab2 : Nat → Nat) (ps2 : Nat → Int64) (mf2 sp2 sls2 : Nat → Int32) (met2 goal2 : Int32), b + d = 3 → m ≤ m2 → (∀ j, j < m → st2 j = st j) → BI (svm wanted) ln n y0 p (3 + 2 * a + (if b ≤ a then b else b - 1)) m2 st2 pth2 par2 lab2 → AR n m2 st2 par2 lab2 ps2 mf2 sp2 sls2 met2 goal2 → Z_X4_tryShunts_31 len (nI n) (nI p) post (lN (enc (st p))) (nI a) K92 (d + 1) (nI b) ps2 mf2 sp2 sls2 met2 goal2 := by
    intro a ha u R hl K92 hK d
    induction d with
    | zero =>
      intro b m2 st2 pth2 par2 lab2 ps2 mf2 sp2 sls2 met2 goal2 hb hm2 hst B2 A2
      show Y_X4_tryShunts_31 _ _ _ _ _ _ _ _ _ _ _ _ _ _ _
      unfold Y_X4_tryShunts_31
      have : b = 3 := by omega
      subst this
      rw [if_neg (by omega), show 3 + 2 * a + (3 - 1) = 5 + 2 * a by omega] at B2
      exact ⟨fun _ => hK _ _ _ _ _ _ _ _ _ _ _ hm2 hst B2 A2, fun q => absurd ((i_le (a := 3) (by omega) (by omega)).mpr (by omega)) q⟩
    | succ d ih =>
      intro b m2 st2 pth2 par2 lab2 ps2 mf2 sp2 sls2 met2 goal2 hb hm2 hst B2 A2
      show Y_X4_tryShunts_31 _ _ _ _ _ _ _ _ _ _ _ _ _ _ _
      unfold Y_X4_tryShunts_31
      have hb3 : b < 3 := by omega
      have hsp : st2 p = st p := hst p hp
      refine ⟨fun q => absurd ((i_le (a := 3) (by omega) (by omega)).mp q) (by omega), fun _ => ?_⟩
      rw [i_1]
      refine ⟨fun q => ?_, fun q => ?_⟩
      · have e : b = a := (i_eq (by omega) (by omega)).mp q
        refine ih (b + 1) m2 st2 pth2 par2 lab2 ps2 mf2 sp2 sls2 met2 goal2 (by omega) hm2 hst ?_ A2
        rw [if_pos (by omega)] at B2
        rw [if_neg (by omega)]
        exact B2
      · have hne : b ≠ a := fun e => q (by rw [e])
        obtain ⟨w, hw3, hwf, hwt, hwe⟩ := w_of ⟨a, ha⟩ ⟨b, hb3⟩ (fun e => hne (Fin.mk.inj e))
        simp only at hwf hwt hwe
        have hww : (3 + 2 * a + (if b ≤ a then b else b - 1)) = w.val := by rw [hwe]; split <;> split <;> omega
        have hwn : w.val + 1 = 3 + 2 * a + (if b + 1 ≤ a then b + 1 else b + 1 - 1) := by rw [hwe]; split <;> split <;> omega
        rw [hww] at B2
        have hlb := hlen b hb3
        have h5 := hyk.1
        have hl5 : (yt (st p) b).length + (yt (st p) a).length ≤ 5 := by
          rcases (show a = 0 ∨ a = 1 ∨ a = 2 by omega) with e | e | e <;> rcases (show b = 0 ∨ b = 1 ∨ b = 2 by omega) with e' | e' | e' <;> subst e <;> subst e' <;> omega
        rw [hl] at hl5
        simp only [List.length_cons] at hl5
        refine t_standing hok hb3 ⟨i_in hb3 (by omega), ?_⟩
        rw [i_cl (by omega), hlb.1]
        refine ⟨fun q2 => ?_, fun q2 => ?_⟩
        · have h6 := (i_le (by omega) (by omega)).mp q2
          have hno : nxt (svm wanted) ln n (st2 p) w.val = none := by
            rw [hsp]
            cases hx : nxt (svm wanted) ln n (st p) w.val with
            | none => rfl
            | some z =>
              obtain ⟨-, u', R', -, h7, -⟩ := (nxt_sh hw3).mp hx
              rw [hwt] at h7
              omega
          have B3 := BI_skip B2 hno
          rw [hwn] at B3
          exact ih (b + 1) m2 st2 pth2 par2 lab2 ps2 mf2 sp2 sls2 met2 goal2 (by omega) hm2 hst B3 A2
        · have h6 : (yt (st p) b).length < ln b := by
            rcases Nat.lt_or_ge (yt (st p) b).length (ln b) with z | z
            · exact z
            · exact absurd ((i_le (by omega) (by omega)).mpr z) q2
          have hx : nxt (svm wanted) ln n (st2 p) w.val = some (yset (yset (st p) a R) b (u :: yt (st p) b)) := by
            rw [hsp]
            exact (nxt_sh hw3).mpr ⟨hg, u, R, by rw [hwf]; exact hl, by rw [hwt]; exact h6, by rw [hwf, hwt]⟩
          refine t_shuntP hok ha hb3 hne hl (by omega) ?_
          have hcw : (10 + ((3 : Int32) * nI a)) + nI b = nI (cod w.val) := by
            show (nI 10 + (nI 3 * nI a)) + nI b = _
            rw [pk_mul, nI_add, nI_add]
            unfold cod
            rw [if_neg (by omega), hwf, hwt]
          rw [hcw]
          refine t_meet hn hy0 hcnt B2 (show p < m2 by omega) w.isLt hx A2 (fun m3 st3 pth3 par3 lab3 ps3 mf3 sp3 sls3 met3 goal3 h1 h2 h3 h4' => ?_)
          rw [hwn] at h3
          exact ih (b + 1) m3 st3 pth3 par3 lab3 ps3 mf3 sp3 sls3 met3 goal3 (by omega) (by omega) (fun j hj => (h2 j (by omega)).trans (hst j hj)) h3 h4'
  have outer : ∀ (d a m2 : Nat) (st2 : Nat → YS) (pth2 : Nat → List Nat) (par2 lab2 : Nat → Nat) (ps2 : Nat → Int64) (mf2 sp2 sls2 : Nat → Int32) (met2 goal2 : Int32), a + d = 3 → m ≤ m2 → (∀ j, j < m → st2 j = st j) → BI (svm wanted) ln n y0 p (3 + 2 * a) m2 st2 pth2 par2 lab2 → AR n m2 st2 par2 lab2 ps2 mf2 sp2 sls2 met2 goal2 → Z_X4_tryShunts_10 len (nI n) (nI p) post (lN (enc (st p))) (d + 1) (nI a) ps2 mf2 sp2 sls2 met2 goal2 := by
    intro d
    induction d with
    | zero =>
      intro a m2 st2 pth2 par2 lab2 ps2 mf2 sp2 sls2 met2 goal2 ha hm2 hst B2 A2
      show Y_X4_tryShunts_10 _ _ _ _ _ _ _ _ _ _ _ _ _
      unfold Y_X4_tryShunts_10
      have : a = 3 := by omega
      subst this
      exact ⟨fun _ => hpost _ _ _ _ _ _ _ _ _ _ _ hm2 hst B2 A2, fun q => absurd ((i_le (a := 3) (by omega) (by omega)).mpr (by omega)) q⟩
    | succ d ih =>
      intro a m2 st2 pth2 par2 lab2 ps2 mf2 sp2 sls2 met2 goal2 ha hm2 hst B2 A2
      show Y_X4_tryShunts_10 _ _ _ _ _ _ _ _ _ _ _ _ _
      unfold Y_X4_tryShunts_10
      have ha3 : a < 3 := by omega
      have hsp : st2 p = st p := hst p hp
      refine ⟨fun q => absurd ((i_le (a := 3) (by omega) (by omega)).mp q) (by omega), fun _ => ?_⟩
      rw [i_1]
      refine t_lastMark hok ha3 (fun hl => ⟨fun q => absurd rfl q, fun _ => ?_⟩) (fun u R hl => ⟨fun _ => ?_, fun q => ?_⟩)
      · -- an empty track: neither of its two shunts
        have hno : ∀ w, 3 ≤ w → wfr w = a → nxt (svm wanted) ln n (st2 p) w = none := by
          intro w hw hwf
          rw [hsp]
          cases hx : nxt (svm wanted) ln n (st p) w with
          | none => rfl
          | some z => obtain ⟨-, u, R, h1, -⟩ := (nxt_sh hw).mp hx; rw [hwf, hl] at h1; exact absurd h1 (by simp)
        have B3 := BI_skip B2 (hno (3 + 2 * a) (by omega) (by unfold wfr; omega))
        have B4 := BI_skip B3 (hno (3 + 2 * a + 1) (by omega) (by unfold wfr; omega))
        exact ih (a + 1) m2 st2 pth2 par2 lab2 ps2 mf2 sp2 sls2 met2 goal2 (by omega) hm2 hst (by rw [show 3 + 2 * (a + 1) = 3 + 2 * a + 1 + 1 by omega]; exact B4) A2
      · refine ⟨4, inner a ha3 u R hl _ (fun m3 st3 pth3 par3 lab3 ps3 mf3 sp3 sls3 met3 goal3 h1 h2 h3 h4 => ih (a + 1) m3 st3 pth3 par3 lab3 ps3 mf3 sp3 sls3 met3 goal3 (by omega) h1 h2 (by rw [show 3 + 2 * (a + 1) = 5 + 2 * a by omega]; exact h3) h4) 3 0 m2 st2 pth2 par2 lab2 ps2 mf2 sp2 sls2 met2 goal2 (by omega) hm2 hst (by rw [if_pos (Nat.zero_le a)]; exact B2) A2⟩
      · exfalso
        have := (hyk.2.1 a ha3 u (by rw [hl]; exact List.mem_cons_self))
        have := (i_eq (b := 0) (by omega) (by omega)).mp q
        omega
  exact ⟨_, outer 3 0 m st pth par lab ps mf sp sls met goal (by omega) (Nat.le_refl _) (fun _ _ => rfl) B A⟩
end B3
