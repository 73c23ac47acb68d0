theorem wb_tb (n : Nat) : (lN n).toBitVec = BitVec.ofNat 64 n := rfl
theorem wb_inj {a b : Int64} (h : a.toBitVec = b.toBitVec) : a = b := Int64.toBitVec_inj.mp h
theorem wb_tn {n : Nat} (h : n < 2 ^ 64) : (lN n).toBitVec.toNat = n := by rw [wb_tb, BitVec.toNat_ofNat, Nat.mod_eq_of_lt h]
theorem wb_of (x : Int64) : ∃ n, n < 2 ^ 64 ∧ x = lN n := ⟨x.toBitVec.toNat, x.toBitVec.isLt, wb_inj (by rw [wb_tb]; simp)⟩
theorem wb_of32 (x : Int32) : ∃ n, n < 2 ^ 32 ∧ x = nI n := ⟨x.toBitVec.toNat, x.toBitVec.isLt, Int32.toBitVec_inj.mp (by show _ = BitVec.ofNat 32 _; simp)⟩
theorem wb_c : ∀ k, k < 64 → ((nI k).toInt64 &&& 63) = lN k := by decide +kernel
theorem wb_cu : ∀ k, k < 64 → ((nI k).toInt64.toUInt64 &&& Int64.toUInt64 63) = UInt64.ofNat k := by decide +kernel
theorem wb_sm : ∀ k, k < 64 → (BitVec.ofNat 64 k).smod 64 = BitVec.ofNat 64 k := by decide +kernel
theorem wb_pw {a b : Nat} (h : a ≤ b) : 2 ^ b = 2 ^ a * 2 ^ (b - a) := by rw [← Nat.pow_add]; congr 1; omega
theorem wb_lt2 {a b : Nat} (h : a < b) : 2 ^ a < 2 ^ b := Nat.pow_lt_pow_right (by decide) h
theorem wb_mod (n : Nat) : lN n = lN (n % 2 ^ 64) := wb_inj (by rw [wb_tb, wb_tb]; apply BitVec.eq_of_toNat_eq; rw [BitVec.toNat_ofNat, BitVec.toNat_ofNat, Nat.mod_mod])
theorem wb_shr {n k : Nat} (hn : n < 2 ^ 64) (hk : k < 64) : ((lN n).toUInt64 >>> ((nI k).toInt64.toUInt64 &&& Int64.toUInt64 63)).toInt64 = lN (n / 2 ^ k) := by
  rw [wb_cu k hk]
  apply wb_inj
  apply BitVec.eq_of_toNat_eq
  show ((lN n).toUInt64 >>> UInt64.ofNat k).toNat = (BitVec.ofNat 64 _).toNat
  have h1 : (UInt64.ofNat k).toNat = k := by
    show (BitVec.ofNat 64 k).toNat = k
    rw [BitVec.toNat_ofNat, Nat.mod_eq_of_lt (by omega)]
  have h2 : (lN n).toUInt64.toNat = n := wb_tn hn
  rw [UInt64.toNat_shiftRight, h1, h2, Nat.mod_eq_of_lt hk, Nat.shiftRight_eq_div_pow, BitVec.toNat_ofNat, Nat.mod_eq_of_lt (Nat.lt_of_le_of_lt (Nat.div_le_self _ _) hn)]
theorem wb_shl (n : Nat) {k : Nat} (hk : k < 64) : lN n <<< ((nI k).toInt64 &&& 63) = lN (n * 2 ^ k) := by
  rw [wb_c k hk]
  apply wb_inj
  rw [Int64.toBitVec_shiftLeft, wb_tb, wb_tb, wb_tb, wb_sm k hk]
  apply BitVec.eq_of_toNat_eq
  rw [BitVec.shiftLeft_eq', BitVec.toNat_shiftLeft, BitVec.toNat_ofNat, BitVec.toNat_ofNat, BitVec.toNat_ofNat, Nat.mod_eq_of_lt (show k < 2 ^ 64 by omega), Nat.shiftLeft_eq, Nat.mul_mod, Nat.mod_mod, ← Nat.mul_mod]
theorem wb_and {a b : Nat} (ha : a < 2 ^ 64) (hb : b < 2 ^ 64) : lN a &&& lN b = lN (a &&& b) := by
  apply wb_inj
  rw [Int64.toBitVec_and, wb_tb, wb_tb, wb_tb]
  apply BitVec.eq_of_toNat_eq
  rw [BitVec.toNat_and, BitVec.toNat_ofNat, BitVec.toNat_ofNat, BitVec.toNat_ofNat, Nat.mod_eq_of_lt ha, Nat.mod_eq_of_lt hb, Nat.mod_eq_of_lt (Nat.and_lt_two_pow _ hb)]
theorem wb_or {a b : Nat} (ha : a < 2 ^ 64) (hb : b < 2 ^ 64) : lN a ||| lN b = lN (a ||| b) := by
  apply wb_inj
  rw [Int64.toBitVec_or, wb_tb, wb_tb, wb_tb]
  apply BitVec.eq_of_toNat_eq
  rw [BitVec.toNat_or, BitVec.toNat_ofNat, BitVec.toNat_ofNat, BitVec.toNat_ofNat, Nat.mod_eq_of_lt ha, Nat.mod_eq_of_lt hb, Nat.mod_eq_of_lt (Nat.or_lt_two_pow ha hb)]
theorem wb_mask {n k : Nat} (hn : n < 2 ^ 64) (hk : k < 64) : lN n &&& lN (2 ^ k - 1) = lN (n % 2 ^ k) := by
  rw [wb_and hn (by have := wb_lt2 hk; omega), Nat.and_two_pow_sub_one_eq_mod]
/-! the class's positions as numbers -/
def el : List Nat → Nat
  | [] => 0
  | m :: R => m + 8 * el R
theorem el_lt : ∀ (l : List Nat), (∀ m ∈ l, m ≤ 7) → el l < 8 ^ l.length
  | [], _ => Nat.one_pos
  | m :: R, h => by
    have h1 := h m List.mem_cons_self
    have h2 := el_lt R (fun x hx => h x (List.mem_cons_of_mem _ hx))
    simp only [el, List.length_cons, Nat.pow_succ]
    omega
theorem el_lt5 {l : List Nat} (h : ∀ m ∈ l, m ≤ 7) (h5 : l.length ≤ 5) : el l < 32768 := Nat.lt_of_lt_of_le (el_lt l h) (Nat.pow_le_pow_right (by decide) h5 : 8 ^ l.length ≤ 8 ^ 5)
theorem el_inj : ∀ (a b : List Nat), (∀ m ∈ a, 1 ≤ m ∧ m ≤ 7) → (∀ m ∈ b, 1 ≤ m ∧ m ≤ 7) → el a = el b → a = b
  | [], [], _, _, _ => rfl
  | [], m :: R, _, hb, e => by have := hb m List.mem_cons_self; simp only [el] at e; omega
  | m :: R, [], ha, _, e => by have := ha m List.mem_cons_self; simp only [el] at e; omega
  | m :: R, m' :: R', ha, hb, e => by
    have h1 := ha m List.mem_cons_self
    have h2 := hb m' List.mem_cons_self
    simp only [el] at e
    have e1 : m = m' := by omega
    have e2 : el R = el R' := by omega
    rw [e1, el_inj R R' (fun x hx => ha x (List.mem_cons_of_mem _ hx)) (fun x hx => hb x (List.mem_cons_of_mem _ hx)) e2]
def enc (y : YS) : Nat := el y.2.1 + 32768 * el y.2.2.1 + 1073741824 * el y.2.2.2 + 35184372088832 * y.1
/-- at most five on a track, marks 1 .. 7, at most five gone -/
def yok (y : YS) : Prop := (∀ t, t < 3 → (yt y t).length ≤ 5 ∧ ∀ m ∈ yt y t, 1 ≤ m ∧ m ≤ 7) ∧ y.1 ≤ 5
theorem yok0 {y : YS} (h : yok y) : el y.2.1 < 32768 := el_lt5 (fun m hm => ((h.1 0 (by omega)).2 m hm).2) (h.1 0 (by omega)).1
theorem yok1 {y : YS} (h : yok y) : el y.2.2.1 < 32768 := el_lt5 (fun m hm => ((h.1 1 (by omega)).2 m hm).2) (h.1 1 (by omega)).1
theorem yok2 {y : YS} (h : yok y) : el y.2.2.2 < 32768 := el_lt5 (fun m hm => ((h.1 2 (by omega)).2 m hm).2) (h.1 2 (by omega)).1
theorem enc_lt {y : YS} (h : yok y) : enc y < 2 ^ 48 := by
  have h0 := yok0 h
  have h1 := yok1 h
  have h2 := yok2 h
  have h3 := h.2
  unfold enc
  omega
theorem enc_inj {a b : YS} (ha : yok a) (hb : yok b) (e : enc a = enc b) : a = b := by
  have a0 := yok0 ha
  have a1 := yok1 ha
  have a2 := yok2 ha
  have b0 := yok0 hb
  have b1 := yok1 hb
  have b2' := yok2 hb
  unfold enc at e
  have e0 : el a.2.1 = el b.2.1 := by omega
  have e1 : el a.2.2.1 = el b.2.2.1 := by omega
  have e2 : el a.2.2.2 = el b.2.2.2 := by omega
  have e3 : a.1 = b.1 := by omega
  have f0 := el_inj _ _ (ha.1 0 (by omega)).2 (hb.1 0 (by omega)).2 e0
  have f1 := el_inj _ _ (ha.1 1 (by omega)).2 (hb.1 1 (by omega)).2 e1
  have f2 := el_inj _ _ (ha.1 2 (by omega)).2 (hb.1 2 (by omega)).2 e2
  exact Prod.ext e3 (Prod.ext f0 (Prod.ext f1 f2))
/-- the part of a number that stands for track t -/
theorem enc_get {y : YS} (h : yok y) {t : Nat} (ht : t < 3) : enc y / 2 ^ (15 * t) % 2 ^ 15 = el (yt y t) := by
  have h0 := yok0 h
  have h1 := yok1 h
  have h2 := yok2 h
  unfold enc yt
  rcases (show t = 0 ∨ t = 1 ∨ t = 2 by omega) with e | e | e <;> subst e
  · show (_ + _ + _ + _) / 1 % 32768 = el y.2.1
    omega
  · show (_ + _ + _ + _) / 32768 % 32768 = el y.2.2.1
    omega
  · show (_ + _ + _ + _) / 1073741824 % 32768 = el y.2.2.2
    omega
/-- the mask that leaves out 15 bits from s on -/
def mC (s : Nat) : Nat := 2 ^ 64 - 1 - 32767 * 2 ^ s
theorem mC_bit : ∀ k : Fin 3, ∀ i : Fin 64, (mC (15 * k.val)).testBit i.val = !(decide (15 * k.val ≤ i.val) && decide (i.val < 15 * k.val + 15)) := by decide +kernel
theorem fld {s lo f hi S : Nat} (hs : s = 0 ∨ s = 15 ∨ s = 30) (hlo : lo < 2 ^ s) (hf : f < 2 ^ 15) (hS : S < 2 ^ 15) (hb : 2 ^ s * (2 ^ 15 * hi + f) + lo < 2 ^ 64) : ((2 ^ s * (2 ^ 15 * hi + f) + lo) &&& mC s) ||| (S * 2 ^ s) = 2 ^ s * (2 ^ 15 * hi + S) + lo := by
  obtain ⟨k, hk⟩ : ∃ k : Fin 3, s = 15 * k.val := by
    rcases hs with e | e | e
    · exact ⟨0, e⟩
    · exact ⟨1, e⟩
    · exact ⟨2, e⟩
  apply Nat.eq_of_testBit_eq
  intro i
  rw [Nat.testBit_or, Nat.testBit_and, Nat.testBit_two_pow_mul_add _ hlo, Nat.testBit_two_pow_mul_add _ hlo, Nat.mul_comm S, Nat.testBit_two_pow_mul]
  by_cases h1 : i < s
  · rw [if_pos h1, if_pos h1]
    have hm := mC_bit k ⟨i, by omega⟩
    simp only at hm
    rw [← hk] at hm
    rw [hm]
    have d1 : decide (s ≤ i) = false := decide_eq_false (by omega)
    simp [d1]
  · rw [if_neg h1, if_neg h1, Nat.testBit_two_pow_mul_add _ hf, Nat.testBit_two_pow_mul_add _ hS]
    have d1 : decide (s ≤ i) = true := decide_eq_true (by omega)
    by_cases h2 : i - s < 15
    · rw [if_pos h2, if_pos h2]
      have hm := mC_bit k ⟨i, by omega⟩
      simp only at hm
      rw [← hk] at hm
      have d2 : decide (i < s + 15) = true := decide_eq_true (by omega)
      rw [hm, d1, d2]
      simp
    · rw [if_neg h2, if_neg h2]
      have hSf : S.testBit (i - s) = false := Nat.testBit_lt_two_pow (Nat.lt_of_lt_of_le hS (Nat.pow_le_pow_right (by decide) (by omega)))
      rw [hSf]
      by_cases h3 : i < 64
      · have hm := mC_bit k ⟨i, h3⟩
        simp only at hm
        rw [← hk] at hm
        have d2 : decide (i < s + 15) = false := decide_eq_false (by omega)
        rw [hm, d1, d2]
        simp
      · have hz : (2 ^ s * (2 ^ 15 * hi + f) + lo).testBit i = false := Nat.testBit_lt_two_pow (Nat.lt_of_lt_of_le hb (Nat.pow_le_pow_right (by decide) (by omega)))
        rw [Nat.testBit_two_pow_mul_add _ hlo, if_neg h1, Nat.testBit_two_pow_mul_add _ hf, if_neg h2] at hz
        rw [hz]
        simp
/-- a track's part replaced -/
theorem enc_set {y : YS} (h : yok y) {t : Nat} (ht : t < 3) {l : List Nat} (hl : el l < 32768) : ((enc y) &&& mC (15 * t)) ||| (el l * 2 ^ (15 * t)) = enc (yset y t l) := by
  have h0 := yok0 h
  have h1 := yok1 h
  have h2 := yok2 h
  have h3 := h.2
  have hlt := enc_lt h
  unfold yset
  rcases (show t = 0 ∨ t = 1 ∨ t = 2 by omega) with e | e | e <;> subst e
  · have := fld (s := 0) (lo := 0) (f := el y.2.1) (hi := el y.2.2.1 + 32768 * el y.2.2.2 + 1073741824 * y.1) (S := el l) (Or.inl rfl) (by decide) h0 hl (by omega)
    have e1 : 2 ^ 0 * (2 ^ 15 * (el y.2.2.1 + 32768 * el y.2.2.2 + 1073741824 * y.1) + el y.2.1) + 0 = enc y := by unfold enc; omega
    rw [e1] at this
    rw [if_pos rfl]
    refine this.trans ?_
    unfold enc
    simp only
    omega
  · have := fld (s := 15) (lo := el y.2.1) (f := el y.2.2.1) (hi := el y.2.2.2 + 32768 * y.1) (S := el l) (Or.inr (Or.inl rfl)) h0 h1 hl (by omega)
    have e1 : 2 ^ 15 * (2 ^ 15 * (el y.2.2.2 + 32768 * y.1) + el y.2.2.1) + el y.2.1 = enc y := by unfold enc; omega
    rw [e1] at this
    rw [if_neg (by decide), if_pos rfl]
    refine this.trans ?_
    unfold enc
    simp only
    omega
  · have := fld (s := 30) (lo := el y.2.1 + 32768 * el y.2.2.1) (f := el y.2.2.2) (hi := y.1) (S := el l) (Or.inr (Or.inr rfl)) (by omega) h2 hl (by omega)
    have e1 : 2 ^ 30 * (2 ^ 15 * y.1 + el y.2.2.2) + (el y.2.1 + 32768 * el y.2.2.1) = enc y := by unfold enc; omega
    rw [e1] at this
    rw [if_neg (by decide), if_neg (by decide)]
    refine this.trans ?_
    unfold enc
    simp only
    omega
theorem mC_int : ∀ k : Fin 3, ((32767 : Int64) <<< ((nI (15 * k.val)).toInt64 &&& 63)) ^^^ (-1) = lN (mC (15 * k.val)) := by decide +kernel
theorem e15 (t : Nat) : (15 : Int32) * nI t = nI (15 * t) := by show nI 15 * nI t = _; rw [pk_mul]
theorem cmp0 {x y : Int64} : lg_cmp x y = 0 ↔ x = y := by
  unfold lg_cmp
  by_cases h : x > y
  · rw [if_pos h]
    exact ⟨fun q => absurd q (by decide), fun q => by subst q; exact (Int64.lt_irrefl h).elim⟩
  · rw [if_neg h]
    by_cases e : x = y
    · rw [if_pos e]; exact ⟨fun _ => e, fun _ => rfl⟩
    · rw [if_neg e]; exact ⟨fun q => absurd q (by decide), fun q => absurd q e⟩
section POS
variable {y : YS} {t : Nat}
theorem t_stackOn (h : yok y) (ht : t < 3) {post : Int64 → Prop} (hp : post (lN (el (yt y t)))) : wp_X2_stackOn (lN (enc y)) (nI t) post := by
  unfold wp_X2_stackOn
  have hlt := enc_lt h
  rw [e15, wb_shr (by omega) (by omega)]
  have hm : lN (enc y / 2 ^ (15 * t)) &&& 32767 = lN (enc y / 2 ^ (15 * t) % 2 ^ 15) := wb_mask (k := 15) (Nat.lt_of_le_of_lt (Nat.div_le_self _ _) (by omega)) (by decide)
  rw [hm, enc_get h ht]
  exact hp
theorem t_withStack (h : yok y) (ht : t < 3) {S : Nat} {l : List Nat} (hS : S < 2 ^ 62) (hl : S % 2 ^ 15 = el l) {post : Int64 → Prop} (hp : post (lN (enc (yset y t l)))) : wp_X2_withStack (lN (enc y)) (nI t) (lN S) post := by
  unfold wp_X2_withStack
  intro y1 e1
  rw [e15] at e1
  subst e1
  have hlt := enc_lt h
  have hel : el l < 32768 := by rw [← hl]; exact Nat.mod_lt _ (by decide)
  have hmi := mC_int ⟨t, ht⟩
  simp only at hmi
  have hm : lN S &&& 32767 = lN (S % 2 ^ 15) := wb_mask (k := 15) (by omega) (by decide)
  have hmc : mC (15 * t) < 2 ^ 64 := by unfold mC; omega
  have hp2 : el l * 2 ^ (15 * t) < 2 ^ 64 := by
    have : 2 ^ (15 * t) ≤ 2 ^ 30 := Nat.pow_le_pow_right (by decide) (by omega)
    have := Nat.mul_le_mul (Nat.le_of_lt hel) this
    omega
  rw [hmi, hm, hl, wb_shl _ (by omega), wb_and (by omega) hmc, wb_or (Nat.and_lt_two_pow _ hmc) hp2, enc_set h ht hel]
  exact hp
theorem yt_same (y : YS) {t : Nat} (ht : t < 3) (l : List Nat) : yt (yset y t l) t = l := by
  rcases (show t = 0 ∨ t = 1 ∨ t = 2 by omega) with e | e | e <;> subst e <;> rfl
theorem yt_ne (y : YS) {t t' : Nat} (ht : t < 3) (ht' : t' < 3) (h : t' ≠ t) (l : List Nat) : yt (yset y t l) t' = yt y t' := by
  rcases (show t = 0 ∨ t = 1 ∨ t = 2 by omega) with e | e | e <;> rcases (show t' = 0 ∨ t' = 1 ∨ t' = 2 by omega) with e' | e' | e' <;> subst e <;> subst e' <;> first | rfl | exact absurd rfl h
theorem yset_ok (h : yok y) (ht : t < 3) {l : List Nat} (hl : l.length ≤ 5 ∧ ∀ m ∈ l, 1 ≤ m ∧ m ≤ 7) : yok (yset y t l) := by
  refine ⟨fun t' ht' => ?_, by rw [yset_g]; exact h.2⟩
  by_cases e : t' = t
  · subst e; rw [yt_same y ht]; exact hl
  · rw [yt_ne y ht ht' e]; exact h.1 t' ht'
theorem t_take (h : yok y) (ht : t < 3) {post : Int64 → Prop} (hp : post (lN (enc (yset y t (yt y t).tail)))) : wp_X2_take (lN (enc y)) (nI t) post := by
  unfold wp_X2_take
  refine t_stackOn h ht ?_
  have h5 := (h.1 t ht)
  have hel : el (yt y t) < 32768 := el_lt5 (fun m hm => (h5.2 m hm).2) h5.1
  have hsh : ((lN (el (yt y t))).toUInt64 >>> ((3 : Int32).toInt64.toUInt64 &&& Int64.toUInt64 63)).toInt64 = lN (el (yt y t) / 2 ^ 3) := wb_shr (k := 3) (by omega) (by omega)
  rw [hsh]
  refine t_withStack h ht (by omega) ?_ hp
  cases hl : yt y t with
  | nil => rfl
  | cons m R =>
    rw [hl] at h5 hel
    have hm := h5.2 m List.mem_cons_self
    simp only [el, List.tail_cons] at hel ⊢
    omega
theorem t_put (h : yok y) (ht : t < 3) {m : Nat} (hm : 1 ≤ m ∧ m ≤ 7) (h4 : (yt y t).length < 5) {post : Int64 → Prop} (hp : post (lN (enc (yset y t (m :: yt y t))))) : wp_X2_put (lN (enc y)) (nI t) (nI m) post := by
  unfold wp_X2_put
  refine t_stackOn h ht ?_
  have h5 := (h.1 t ht)
  have hel : el (yt y t) < 8 ^ 4 := Nat.lt_of_lt_of_le (el_lt _ (fun m hm => (h5.2 m hm).2)) (Nat.pow_le_pow_right (by decide) (by omega))
  have hsh : lN (el (yt y t)) <<< ((3 : Int32).toInt64 &&& 63) = lN (el (yt y t) * 2 ^ 3) := wb_shl (k := 3) _ (by omega)
  have hmi : (nI m).toInt64 = lN m := nI_l (by omega)
  rw [hsh, hmi, wb_or (by omega) (by omega)]
  have hor : el (yt y t) * 2 ^ 3 ||| m = m + 8 * el (yt y t) := by
    have := Nat.shiftLeft_add_eq_or_of_lt (i := 3) (b := m) (by omega) (el (yt y t))
    rw [Nat.shiftLeft_eq] at this
    rw [← this]
    omega
  rw [hor]
  refine t_withStack h ht (by omega) ?_ hp
  simp only [el]
  omega
theorem t_lastMark (h : yok y) (ht : t < 3) {post : Int32 → Prop} (hn : yt y t = [] → post 0) (hc : ∀ m R, yt y t = m :: R → post (nI m)) : wp_X2_lastMark (lN (enc y)) (nI t) post := by
  unfold wp_X2_lastMark
  refine t_stackOn h ht ?_
  have h5 := (h.1 t ht)
  have hel : el (yt y t) < 32768 := el_lt5 (fun m hm => (h5.2 m hm).2) h5.1
  have h7 : nI (el (yt y t)) &&& 7 = nI (el (yt y t) % 2 ^ 3) := pk_andN (k := 3) (by omega) (by decide)
  rw [lN_i, h7]
  cases hl : yt y t with
  | nil => exact hn hl
  | cons m R =>
    have hm := h5.2 m (by rw [hl]; exact List.mem_cons_self)
    have : el (m :: R) % 2 ^ 3 = m := by simp only [el]; omega
    rw [this]
    exact hc m R hl
theorem t_gone (h : yok y) {post : Int32 → Prop} (hp : post (nI y.1)) : wp_X2_gone (lN (enc y)) post := by
  unfold wp_X2_gone
  have hlt := enc_lt h
  have hsh : ((lN (enc y)).toUInt64 >>> ((45 : Int32).toInt64.toUInt64 &&& Int64.toUInt64 63)).toInt64 = lN (enc y / 2 ^ 45) := wb_shr (k := 45) (by omega) (by omega)
  rw [hsh, lN_i]
  have h0 := yok0 h
  have h1 := yok1 h
  have h2 := yok2 h
  have : enc y / 2 ^ 45 = y.1 := by unfold enc; omega
  rw [this]
  exact hp
theorem t_sendOff (h : yok y) (ht : t < 3) {post : Int64 → Prop} (hp : post (lN (enc (yinc (yset y t (yt y t).tail))))) : wp_X2_sendOff (lN (enc y)) (nI t) post := by
  unfold wp_X2_sendOff
  refine t_take h ht ?_
  have : lN (enc (yset y t (yt y t).tail)) + 35184372088832 = lN (enc (yinc (yset y t (yt y t).tail))) := by
    show _ + lN 35184372088832 = _
    rw [lN_add]
    exact congrArg lN (by unfold enc yinc; simp only; omega)
  rw [this]
  exact hp
theorem t_standing (h : yok y) (ht : t < 3) {post : Int32 → Prop} (hp : post (nI (yt y t).length)) : wp_X2_standing (lN (enc y)) (nI t) post := by
  unfold wp_X2_standing
  refine t_stackOn h ht ?_
  have h5 := (h.1 t ht)
  have key : ∀ (l : List Nat) (k : Nat), (∀ m ∈ l, 1 ≤ m ∧ m ≤ 7) → k + l.length = (yt y t).length → Z_X2_standing_9 (lN (enc y)) (nI t) post (l.length + 1) (lN (el l)) (nI k) := by
    intro l
    induction l with
    | nil =>
      intro k _ hk
      show Y_X2_standing_9 _ _ _ _ _ _
      unfold Y_X2_standing_9
      have : k = (yt y t).length := by simpa using hk
      subst this
      refine ⟨fun _ => hp, fun _ => ⟨fun _ => hp, fun q => absurd ?_ q⟩⟩
      show lg_cmp (lN 0) 0 = 0
      decide
    | cons m R ih =>
      intro k hm hk
      have h1 := hm m List.mem_cons_self
      have hR : ∀ x ∈ R, 1 ≤ x ∧ x ≤ 7 := fun x hx => hm x (List.mem_cons_of_mem _ hx)
      have hlen : (m :: R).length ≤ 5 := by omega
      have hel := el_lt5 (l := m :: R) (fun x hx => (hm x hx).2) hlen
      show Y_X2_standing_9 _ _ _ _ _ _
      unfold Y_X2_standing_9
      simp only [List.length_cons] at hk hlen
      refine ⟨fun q => absurd ((i_le (a := 5) (by omega) (by omega)).mp q) (by omega), fun _ => ⟨fun q => ?_, fun _ => ?_⟩⟩
      · exfalso
        have hne : lN (el (m :: R)) ≠ 0 := by
          intro e
          have := (lN_eq (a := el (m :: R)) (b := 0) (by omega) (by omega)).mp e
          simp only [el] at this
          omega
        exact hne (cmp0.mp q)
      · intro y4 e4
        have hsh : ((lN (el (m :: R))).toUInt64 >>> ((3 : Int32).toInt64.toUInt64 &&& Int64.toUInt64 63)).toInt64 = lN (el (m :: R) / 2 ^ 3) := wb_shr (k := 3) (by omega) (by omega)
        rw [hsh] at e4
        have : el (m :: R) / 2 ^ 3 = el R := by simp only [el]; omega
        rw [this] at e4
        subst e4
        rw [i_1]
        exact ih (k + 1) hR (by omega)
  have := key (yt y t) 0 h5.2 (by omega)
  exact ⟨_, this⟩
end POS
