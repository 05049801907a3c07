section
/-! pure rows: ints below 2^31 as Nats, longs by their bits -/
theorem cs_and (a b : Nat) : nI a &&& nI b = nI (a &&& b) := by
  apply Int32.toBitVec_inj.1
  show BitVec.ofNat 32 a &&& BitVec.ofNat 32 b = BitVec.ofNat 32 (a &&& b)
  apply BitVec.eq_of_getLsbD_eq
  intro i hi
  simp [hi]
theorem cs_or (a b : Nat) : nI a ||| nI b = nI (a ||| b) := by
  apply Int32.toBitVec_inj.1
  show BitVec.ofNat 32 a ||| BitVec.ofNat 32 b = BitVec.ofNat 32 (a ||| b)
  apply BitVec.eq_of_getLsbD_eq
  intro i hi
  simp [hi]
theorem cs_xor (a b : Nat) : nI a ^^^ nI b = nI (a ^^^ b) := by
  apply Int32.toBitVec_inj.1
  show BitVec.ofNat 32 a ^^^ BitVec.ofNat 32 b = BitVec.ofNat 32 (a ^^^ b)
  apply BitVec.eq_of_getLsbD_eq
  intro i hi
  simp [hi]
theorem cs_sl : ∀ n, n < 32 → ((nI n &&& 31).toBitVec.smod 32).toNat = n := by decide +kernel
theorem cs_shl {a v : Nat} (hv : v < 32) (h : a * 2 ^ v < 2 ^ 32) : nI a <<< (nI v &&& 31) = nI (a * 2 ^ v) := pk_shlN _ v (cs_sl v hv) h
theorem cs_shr {a v : Nat} (hv : v < 32) (h : a < 2 ^ 31) : nI a >>> (nI v &&& 31) = nI (a / 2 ^ v) := pk_shrN h _ v (cs_sl v hv)
theorem cs_one {v : Nat} (hv : v < 31) : nI 1 <<< (nI v &&& 31) = nI (2 ^ v) := by
  rw [cs_shl (by omega) (by rw [Nat.one_mul]; exact Nat.pow_lt_pow_right (by decide) (by omega)), Nat.one_mul]
theorem cs_z {n : Nat} (h : n < 2 ^ 31) : nI n = 0 ↔ n = 0 := by rw [← nI_0, nI_eq h (by decide)]
theorem cs_bit {b v : Nat} (hb : b < 2 ^ 31) (hv : v < 32) : (nI b >>> (nI v &&& 31)) &&& nI 1 = nI (b / 2 ^ v % 2) := by
  rw [cs_shr hv hb, cs_and, Nat.and_one_is_mod]
theorem cs_bit0 {b v : Nat} (hb : b < 2 ^ 31) (hv : v < 32) : (nI b >>> (nI v &&& 31)) &&& nI 1 = 0 ↔ b.testBit v = false := by
  rw [cs_bit hb hv, cs_z (by have := Nat.mod_lt (b / 2 ^ v) (show 2 > 0 by decide); omega), Nat.testBit_eq_decide_div_mod_eq, decide_eq_false_iff_not]
  omega
theorem cs_low {v : Nat} (hv : v < 31) : nI (2 ^ v) - nI 1 = nI (2 ^ v - 1) := pk_sub (Nat.one_le_two_pow)
theorem cs_lowtn {v : Nat} (hv : v < 31) : (nI (2 ^ v - 1)).toBitVec.toNat = 2 ^ v - 1 := pk_tn (by have : 2 ^ v < 2 ^ 31 := Nat.pow_lt_pow_right (by decide) hv; omega)
theorem cs_mask (x : Int32) {v : Nat} (hv : v < 31) : x &&& nI (2 ^ v - 1) = nI (x.toBitVec.toNat % 2 ^ v) := pk_and x v (cs_lowtn hv)
theorem cs_maskN {n v : Nat} (hn : n < 2 ^ 32) (hv : v < 31) : nI n &&& nI (2 ^ v - 1) = nI (n % 2 ^ v) := pk_andN hn v (cs_lowtn hv)
theorem cs_p16 {n : Nat} (h : n ≤ 16) : 2 ^ n ≤ 65536 := by
  have : 2 ^ n ≤ 2 ^ 16 := Nat.pow_le_pow_right (by decide) h
  simpa using this
/-! longs -/
def lb (x : Int64) (t : Nat) : Bool := x.toBitVec.getLsbD t
theorem lb_or (x y : Int64) (i : Nat) : lb (x ||| y) i = (lb x i || lb y i) := by unfold lb; rw [Int64.toBitVec_or, BitVec.getLsbD_or]
theorem lb_and (x y : Int64) (i : Nat) : lb (x &&& y) i = (lb x i && lb y i) := by unfold lb; rw [Int64.toBitVec_and, BitVec.getLsbD_and]
theorem lb_xor (x y : Int64) (i : Nat) : lb (x ^^^ y) i = (lb x i ^^ lb y i) := by unfold lb; rw [Int64.toBitVec_xor, BitVec.getLsbD_xor]
theorem lb_m1 : ∀ i, i < 64 → lb (-1) i = true := by decide +kernel
theorem lb_not (x : Int64) {i : Nat} (hi : i < 64) : lb (x ^^^ (-1)) i = !lb x i := by rw [lb_xor, lb_m1 i hi]; simp
theorem lb_0 (i : Nat) : lb 0 i = false := BitVec.getLsbD_zero
theorem lb_eq0 {x : Int64} : x = 0 ↔ ∀ t, t < 64 → lb x t = false := by
  constructor
  · intro h t _
    rw [h]; exact lb_0 t
  · intro h
    apply Int64.toBitVec_inj.1
    apply BitVec.eq_of_getLsbD_eq
    intro i hi
    exact (h i hi).trans (lb_0 i).symm
theorem lb_ne0 {x : Int64} (h : ¬ x = 0) : ∃ t, t < 64 ∧ lb x t = true := by
  refine Classical.byContradiction fun hn => h (lb_eq0.mpr fun t ht => ?_)
  cases hb : lb x t with
  | false => rfl
  | true => exact absurd ⟨t, ht, hb⟩ hn
theorem lb_ne0' {x : Int64} {t : Nat} (h : lb x t = true) : ¬ x = 0 := by
  intro e
  rw [e, lb_0] at h
  cases h
def cs_tw : Nat → Int64 := fun j => match j with
  | 0 => -6148914691236517206
  | 1 => -3689348814741910324
  | 2 => -1085102592571150096
  | 3 => -71777214294589696
  | 4 => -281470681808896
  | _ => -4294967296
theorem lb_tw : ∀ j, j < 6 → ∀ t, t < 64 → lb (cs_tw j) t = t.testBit j := by decide +kernel
/-! a clause is met -/
def Mt (y n a : Nat) : Prop := ∃ i, (a.testBit i = true ∧ y.testBit i = true) ∨ (a.testBit i = false ∧ n.testBit i = true)
theorem cs_and0 (a b : Nat) : a &&& b = 0 ↔ ∀ i, a.testBit i = true → b.testBit i = true → False := by
  constructor
  · intro h i h1 h2
    have h3 := congrArg (fun z => z.testBit i) h
    simp [h1, h2] at h3
  · intro h
    apply Nat.eq_of_testBit_eq
    intro i
    rw [Nat.testBit_and, Nat.zero_testBit]
    cases h1 : a.testBit i with
    | false => rfl
    | true =>
      cases h2 : b.testBit i with
      | false => rfl
      | true => exact (h i h1 h2).elim
theorem cs_not (a : Nat) {i : Nat} (hi : i < 32) : (a ^^^ 4294967295).testBit i = !a.testBit i := by
  rw [Nat.testBit_xor, show (4294967295 : Nat) = 2 ^ 32 - 1 from rfl, Nat.testBit_two_pow_sub_one, decide_eq_true hi]
  simp
theorem Mt_not {y n a : Nat} (hn : n < 2 ^ 32) : ¬ Mt y n a ↔ (a &&& y = 0 ∧ (a ^^^ 4294967295) &&& n = 0) := by
  rw [cs_and0, cs_and0]
  constructor
  · intro h
    refine ⟨fun i h1 h2 => h ⟨i, Or.inl ⟨h1, h2⟩⟩, fun i h1 h2 => h ⟨i, Or.inr ⟨?_, h2⟩⟩⟩
    have hi : i < 32 := Nat.not_le.mp fun q => by
      rw [Nat.testBit_lt_two_pow (Nat.lt_of_lt_of_le hn (Nat.pow_le_pow_right (by decide) q))] at h2
      cases h2
    rw [cs_not a hi] at h1
    simpa using h1
  · rintro ⟨h1, h2⟩ ⟨i, ⟨a1, a2⟩ | ⟨a1, a2⟩⟩
    · exact h1 i a1 a2
    · have hi : i < 32 := Nat.not_le.mp fun q => by
        rw [Nat.testBit_lt_two_pow (Nat.lt_of_lt_of_le hn (Nat.pow_le_pow_right (by decide) q))] at a2
        cases a2
      exact h2 i (by rw [cs_not a hi, a1]; rfl) a2
theorem cs_or0 (a b : Nat) : a ||| b = 0 ↔ a = 0 ∧ b = 0 := by
  constructor
  · intro h
    have h1 : a ≤ a ||| b := Nat.left_le_or
    have h2 : b ≤ a ||| b := Nat.right_le_or
    omega
  · rintro ⟨rfl, rfl⟩
    rfl
theorem Mt_head {y n a : Nat} (hn : n < 2 ^ 32) : (y &&& a) ||| (n &&& (a ^^^ 4294967295)) = 0 ↔ ¬ Mt y n a := by
  rw [cs_or0, Mt_not hn, Nat.and_comm y a, Nat.and_comm n]
theorem cs_tbadd {a h : Nat} (ha : a < 2 ^ h) (t i : Nat) : (a + t * 2 ^ h).testBit i = if i < h then a.testBit i else t.testBit (i - h) := by
  rw [Nat.add_comm, Nat.mul_comm, Nat.testBit_two_pow_mul_add t ha]
theorem cs_tbge {x n i : Nat} (hx : x < 2 ^ n) (hi : n ≤ i) : x.testBit i = false := Nat.testBit_lt_two_pow (Nat.lt_of_lt_of_le hx (Nat.pow_le_pow_right (by decide) hi))
theorem Mt_split {y n a h t : Nat} (ha : a < 2 ^ h) : Mt y n (a + t * 2 ^ h) ↔ Mt (y % 2 ^ h) (n % 2 ^ h) a ∨ Mt (y >>> h) (n >>> h) t := by
  constructor
  · rintro ⟨i, hi⟩
    rw [cs_tbadd ha] at hi
    by_cases q : i < h
    · rw [if_pos q] at hi
      refine Or.inl ⟨i, ?_⟩
      rw [Nat.testBit_mod_two_pow, Nat.testBit_mod_two_pow, decide_eq_true q, Bool.true_and, Bool.true_and]
      exact hi
    · rw [if_neg q] at hi
      refine Or.inr ⟨i - h, ?_⟩
      rw [Nat.testBit_shiftRight, Nat.testBit_shiftRight, show h + (i - h) = i by omega]
      exact hi
  · rintro (⟨i, hi⟩ | ⟨i, hi⟩)
    · rw [Nat.testBit_mod_two_pow, Nat.testBit_mod_two_pow] at hi
      by_cases q : i < h
      · refine ⟨i, ?_⟩
        rw [cs_tbadd ha, if_pos q]
        rw [decide_eq_true q, Bool.true_and, Bool.true_and] at hi
        exact hi
      · rw [decide_eq_false q] at hi
        simp at hi
    · refine ⟨h + i, ?_⟩
      rw [cs_tbadd ha, if_neg (by omega), show h + i - h = i by omega]
      rw [Nat.testBit_shiftRight, Nat.testBit_shiftRight] at hi
      exact hi
theorem Mt_same {y n a b : Nat} (h : ∀ i, (y.testBit i = true ∨ n.testBit i = true) → a.testBit i = b.testBit i) : Mt y n a ↔ Mt y n b := by
  constructor
  · rintro ⟨i, ⟨h1, h2⟩ | ⟨h1, h2⟩⟩
    · exact ⟨i, Or.inl ⟨by rw [← h i (Or.inl h2)]; exact h1, h2⟩⟩
    · exact ⟨i, Or.inr ⟨by rw [← h i (Or.inr h2)]; exact h1, h2⟩⟩
  · rintro ⟨i, ⟨h1, h2⟩ | ⟨h1, h2⟩⟩
    · exact ⟨i, Or.inl ⟨by rw [h i (Or.inl h2)]; exact h1, h2⟩⟩
    · exact ⟨i, Or.inr ⟨by rw [h i (Or.inr h2)]; exact h1, h2⟩⟩
end
section
/-! the first answer: variables in their order, the wished value first -/
noncomputable def fs (P : Nat → Prop) (w : Nat) : Nat → Nat → Nat → Option Nat
  | 0, a, _ => @ite (Option Nat) (P a) (Classical.propDecidable (P a)) (some a) none
  | d + 1, a, v => (fs P w d (if w.testBit v = true then a + 2 ^ v else a) (v + 1)).or (fs P w d (if w.testBit v = true then a else a + 2 ^ v) (v + 1))
theorem fs_0t {P : Nat → Prop} {w a v : Nat} (h : P a) : fs P w 0 a v = some a := by
  unfold fs
  exact if_pos h
theorem fs_0f {P : Nat → Prop} {w a v : Nat} (h : ¬ P a) : fs P w 0 a v = none := by
  unfold fs
  exact if_neg h
theorem fs_st {P : Nat → Prop} {w d a v : Nat} (h : w.testBit v = true) : fs P w (d + 1) a v = (fs P w d (a + 2 ^ v) (v + 1)).or (fs P w d a (v + 1)) := by
  rw [fs, if_pos h, if_pos h]
theorem fs_sf {P : Nat → Prop} {w d a v : Nat} (h : w.testBit v = false) : fs P w (d + 1) a v = (fs P w d a (v + 1)).or (fs P w d (a + 2 ^ v) (v + 1)) := by
  rw [fs, if_neg (by rw [h]; simp), if_neg (by rw [h]; simp)]
theorem or_none {x y : Option Nat} : x.or y = none ↔ x = none ∧ y = none := by
  cases x <;> simp [Option.or]
theorem or_some {x y : Option Nat} {r : Nat} (h : x.or y = some r) : x = some r ∨ y = some r := by
  cases x with
  | none => exact Or.inr h
  | some z => exact Or.inl h
theorem or_left {x y : Option Nat} (h : ¬ x = none) : x.or y = x := by
  cases x with
  | none => exact absurd rfl h
  | some z => rfl
theorem or_right {x y : Option Nat} (h : x = none) : x.or y = y := by rw [h]; rfl
theorem cs_t2 (t z : Nat) : t * z = t / 2 * (z * 2) + t % 2 * z := by
  have h := Nat.div_add_mod t 2
  calc t * z = (2 * (t / 2) + t % 2) * z := by rw [h]
    _ = _ := by rw [Nat.add_mul, Nat.mul_comm 2 (t / 2), Nat.mul_assoc, Nat.mul_comm 2 z]
theorem fs_both {Q : Nat → Prop} {d a v : Nat} : ((∀ t, t < 2 ^ d → Q (a + t * 2 ^ (v + 1))) ∧ ∀ t, t < 2 ^ d → Q (a + 2 ^ v + t * 2 ^ (v + 1))) ↔ ∀ t, t < 2 ^ (d + 1) → Q (a + t * 2 ^ v) := by
  constructor
  · rintro ⟨h0, h1⟩ t ht
    have hd : t / 2 < 2 ^ d := by
      rw [Nat.pow_succ] at ht
      omega
    rw [cs_t2 t (2 ^ v), ← Nat.pow_succ]
    rcases Nat.mod_two_eq_zero_or_one t with e | e
    · rw [e, Nat.zero_mul, Nat.add_zero]
      exact h0 _ hd
    · rw [e, Nat.one_mul, Nat.add_comm (t / 2 * 2 ^ (v + 1)), ← Nat.add_assoc]
      exact h1 _ hd
  · intro h
    refine ⟨fun t ht => ?_, fun t ht => ?_⟩
    · have := h (2 * t) (by rw [Nat.pow_succ]; omega)
      rw [Nat.pow_succ, Nat.mul_comm (2 ^ v) 2, ← Nat.mul_assoc, Nat.mul_comm t 2]
      exact this
    · have := h (2 * t + 1) (by rw [Nat.pow_succ]; omega)
      rw [Nat.add_mul, Nat.one_mul, Nat.add_comm (2 * t * 2 ^ v), ← Nat.add_assoc] at this
      rw [Nat.pow_succ, Nat.mul_comm (2 ^ v) 2, ← Nat.mul_assoc, Nat.mul_comm t 2]
      exact this
theorem fs_none (P : Nat → Prop) (w : Nat) : ∀ d a v, fs P w d a v = none ↔ ∀ t, t < 2 ^ d → ¬ P (a + t * 2 ^ v) := by
  intro d
  induction d with
  | zero =>
    intro a v
    by_cases h : P a
    · rw [fs_0t h]
      refine ⟨fun z => (by cases z), fun z => ?_⟩
      exact absurd h (by simpa using z 0 (by decide))
    · rw [fs_0f h]
      refine ⟨fun _ t ht => ?_, fun _ => rfl⟩
      have : t = 0 := by simpa using ht
      rw [this, Nat.zero_mul, Nat.add_zero]
      exact h
  | succ d ih =>
    intro a v
    rw [← fs_both (Q := fun z => ¬ P z)]
    cases hb : w.testBit v with
    | true => rw [fs_st hb, or_none, ih, ih, And.comm]
    | false => rw [fs_sf hb, or_none, ih, ih]
theorem fs_some (P : Nat → Prop) (w : Nat) : ∀ d a v r, fs P w d a v = some r → P r ∧ ∃ t, t < 2 ^ d ∧ r = a + t * 2 ^ v := by
  intro d
  induction d with
  | zero =>
    intro a v r h
    by_cases hp : P a
    · rw [fs_0t hp] at h
      cases h
      exact ⟨hp, 0, by decide, by rw [Nat.zero_mul, Nat.add_zero]⟩
    · rw [fs_0f hp] at h
      cases h
  | succ d ih =>
    intro a v r h
    have key : fs P w d a (v + 1) = some r ∨ fs P w d (a + 2 ^ v) (v + 1) = some r := by
      cases hb : w.testBit v with
      | true =>
        rw [fs_st hb] at h
        exact (or_some h).symm
      | false =>
        rw [fs_sf hb] at h
        exact or_some h
    rcases key with k | k
    · obtain ⟨hp, t, ht, e⟩ := ih _ _ _ k
      refine ⟨hp, 2 * t, by rw [Nat.pow_succ]; omega, ?_⟩
      rw [e, Nat.pow_succ, Nat.mul_comm (2 ^ v) 2, ← Nat.mul_assoc, Nat.mul_comm t 2]
    · obtain ⟨hp, t, ht, e⟩ := ih _ _ _ k
      refine ⟨hp, 2 * t + 1, by rw [Nat.pow_succ]; omega, ?_⟩
      rw [e, Nat.add_mul, Nat.one_mul, Nat.add_comm (2 * t * 2 ^ v), ← Nat.add_assoc, Nat.pow_succ, Nat.mul_comm (2 ^ v) 2, ← Nat.mul_assoc, Nat.mul_comm t 2]
theorem fs_lt {P : Nat → Prop} {w d a v r : Nat} (ha : a < 2 ^ v) (h : fs P w d a v = some r) : r < 2 ^ (v + d) := by
  obtain ⟨-, t, ht, e⟩ := fs_some P w d a v r h
  have h1 : (t + 1) * 2 ^ v ≤ 2 ^ d * 2 ^ v := Nat.mul_le_mul_right _ ht
  rw [Nat.add_mul, Nat.one_mul] at h1
  rw [Nat.add_comm v d, Nat.pow_add]
  omega
theorem fs_congr {P P' : Nat → Prop} {w : Nat} : ∀ d a v, (∀ t, t < 2 ^ d → (P (a + t * 2 ^ v) ↔ P' (a + t * 2 ^ v))) → fs P w d a v = fs P' w d a v := by
  intro d
  induction d with
  | zero =>
    intro a v h
    have h0 := h 0 (by decide)
    rw [Nat.zero_mul, Nat.add_zero] at h0
    by_cases hp : P a
    · rw [fs_0t hp, fs_0t (h0.mp hp)]
    · rw [fs_0f hp, fs_0f (fun z => hp (h0.mpr z))]
  | succ d ih =>
    intro a v h
    obtain ⟨g0, g1⟩ := (fs_both (Q := fun z => P z ↔ P' z)).mpr h
    cases hb : w.testBit v with
    | true => rw [fs_st hb, fs_st hb, ih _ _ g0, ih _ _ g1]
    | false => rw [fs_sf hb, fs_sf hb, ih _ _ g0, ih _ _ g1]
theorem map_or {x y : Option Nat} {f : Nat → Nat} : (x.or y).map f = (x.map f).or (y.map f) := by
  cases x <;> rfl
theorem fs_shift (P : Nat → Prop) (w h a : Nat) : ∀ d τ j, fs P w d (a + τ * 2 ^ h) (h + j) = (fs (fun t => P (a + t * 2 ^ h)) (w >>> h) d τ j).map (fun t => a + t * 2 ^ h) := by
  intro d
  induction d with
  | zero =>
    intro τ j
    by_cases hp : P (a + τ * 2 ^ h)
    · rw [fs_0t hp, fs_0t (P := fun t => P (a + t * 2 ^ h)) hp]
      rfl
    · rw [fs_0f hp, fs_0f (P := fun t => P (a + t * 2 ^ h)) hp]
      rfl
  | succ d ih =>
    intro τ j
    have e : a + τ * 2 ^ h + 2 ^ (h + j) = a + (τ + 2 ^ j) * 2 ^ h := by
      rw [Nat.add_mul, Nat.add_comm h j, Nat.pow_add, Nat.add_assoc]
    have hs : (w >>> h).testBit j = w.testBit (h + j) := Nat.testBit_shiftRight w
    cases hb : w.testBit (h + j) with
    | true =>
      rw [fs_st hb, fs_st (hs.trans hb), e, map_or, ← ih, ← ih]
      rfl
    | false =>
      rw [fs_sf hb, fs_sf (hs.trans hb), e, map_or, ← ih, ← ih]
      rfl
theorem fs_past {P : Nat → Prop} {w N : Nat} (hP : ∀ a v, N ≤ v → (P (a + 2 ^ v) ↔ P a)) (hw : ∀ v, N ≤ v → w.testBit v = false) : ∀ e a v, N ≤ v → fs P w e a v = fs P w 0 a v := by
  intro e
  induction e with
  | zero => intro a v _; rfl
  | succ e ih =>
    intro a v hv
    rw [fs_sf (hw v hv), ih _ _ (by omega), ih _ _ (by omega)]
    by_cases hp : P a
    · rw [fs_0t hp, fs_0t hp]
      rfl
    · rw [fs_0f hp, fs_0f (fun z => hp ((hP a v hv).mp z)), fs_0f hp]
      rfl
theorem fs_extra {P : Nat → Prop} {w N : Nat} (hP : ∀ a v, N ≤ v → (P (a + 2 ^ v) ↔ P a)) (hw : ∀ v, N ≤ v → w.testBit v = false) (e : Nat) : ∀ d a v, v + d = N → fs P w (d + e) a v = fs P w d a v := by
  intro d
  induction d with
  | zero =>
    intro a v hv
    rw [Nat.zero_add]
    exact fs_past hP hw e a v (by omega)
  | succ d ih =>
    intro a v hv
    rw [show d + 1 + e = (d + e) + 1 by omega]
    cases hb : w.testBit v with
    | true => rw [fs_st hb, fs_st hb, ih _ _ (by omega), ih _ _ (by omega)]
    | false => rw [fs_sf hb, fs_sf hb, ih _ _ (by omega), ih _ _ (by omega)]
/-! the answer as an int -/
def rs : Option Nat → Int32
  | some r => nI r
  | none => -2
theorem rs_none : rs none = -2 := rfl
theorem rs_ne {r : Nat} (h : r < 2 ^ 31) : ¬ rs (some r) = -2 := by
  intro e
  have h1 := congrArg Int32.toInt e
  rw [show rs (some r) = nI r from rfl, nI_toInt h] at h1
  have h2 : (-2 : Int32).toInt = -2 := by decide
  rw [h2] at h1
  omega
theorem rs_neg {o : Option Nat} (h : ∀ r, o = some r → r < 2 ^ 31) : rs o = -2 ↔ o = none := by
  cases o with
  | none => exact ⟨fun _ => rfl, fun _ => rfl⟩
  | some r => exact ⟨fun z => absurd z (rs_ne (h r rfl)), fun z => (by cases z)⟩
theorem rs_ge {o : Option Nat} (h : ∀ r, o = some r → r < 2 ^ 31) : 0 ≤ rs o ↔ ¬ o = none := by
  cases o with
  | none =>
    refine ⟨fun z => ?_, fun z => absurd rfl z⟩
    exact absurd z (by decide)
  | some r =>
    refine ⟨fun _ => (fun z => by cases z), fun _ => nI_pos' (h r rfl)⟩
end
section
/-! all clauses are met -/
def PX (c : Nat) (Y Z : Nat → Nat) (a : Nat) : Prop := ∀ k, k < c → Mt (Y k) (Z k) a
/-- the class's rows of the clauses -/
def RX (N h c : Nat) (Y Z : Nat → Nat) (ht hf dp : Nat → Int32) (tl : Nat → Int64) : Prop :=
  ∀ k, k < c → Y k < 2 ^ N ∧ Z k < 2 ^ N ∧ ht k = nI (Y k % 2 ^ h) ∧ hf k = nI (Z k % 2 ^ h) ∧ (∃ δ, δ ≤ h ∧ dp k = nI δ ∧ ∀ i, δ ≤ i → i < h → (Y k).testBit i = false ∧ (Z k).testBit i = false) ∧ ∀ t, t < 64 → (lb (tl k) t = true ↔ Mt (Y k >>> h) (Z k >>> h) t)
/-- a clause that is known at a depth below d says the same of every head with these first d variables -/
theorem RX_flat {N h c : Nat} {Y Z : Nat → Nat} {ht hf dp : Nat → Int32} {tl : Nat → Int64} (hh : h < 2 ^ 31) (R : RX N h c Y Z ht hf dp tl) {k : Nat} (hk : k < c) {d : Nat} (hd : d ≤ h) (hδ : (dp k).toNatClampNeg ≤ d) {a b : Nat} (hab : ∀ i, (i < d ∨ h ≤ i) → a.testBit i = b.testBit i) : Mt (Y k) (Z k) a ↔ Mt (Y k) (Z k) b := by
  obtain ⟨-, -, -, -, ⟨δ, h1, h2, h3⟩, -⟩ := R k hk
  rw [h2, nI_clamp (by omega)] at hδ
  refine Mt_same fun i hi => ?_
  by_cases q : i < d ∨ h ≤ i
  · exact hab i q
  · have := h3 i (by omega) (by omega)
    rw [this.1, this.2] at hi
    simp at hi
/-- the tails that are left above depth d -/
def OP (h c : Nat) (Y Z : Nat → Nat) (dp : Nat → Int32) (d a : Nat) (x : Int64) : Prop := ∀ t, t < 64 → (lb x t = true ↔ ∀ k, k < c → (dp k).toNatClampNeg < d → Mt (Y k) (Z k) (a + t * 2 ^ h))
theorem OP_0 {h c : Nat} {Y Z : Nat → Nat} {dp : Nat → Int32} {a : Nat} : OP h c Y Z dp 0 a (-1) := by
  intro t ht
  rw [lb_m1 t ht]
  exact ⟨fun _ k _ hn => absurd hn (Nat.not_lt_zero _), fun _ => rfl⟩
/-- the loop of narrowed -/
def NI (h : Nat) (Y Z : Nat → Nat) (dp : Nat → Int32) (tl : Nat → Int64) (d a : Nat) (x : Int64) (k : Nat) (z : Int64) : Prop := ∀ t, t < 64 → (lb z t = true ↔ (lb x t = true ∧ ∀ j, j < k → (dp j).toNatClampNeg = d → (Mt (Y j % 2 ^ h) (Z j % 2 ^ h) a ∨ lb (tl j) t = true)))
theorem NI_0 {h : Nat} {Y Z : Nat → Nat} {dp : Nat → Int32} {tl : Nat → Int64} {d a : Nat} {x : Int64} : NI h Y Z dp tl d a x 0 x := by
  intro t _
  exact ⟨fun h => ⟨h, fun j hj => absurd hj (Nat.not_lt_zero _)⟩, fun h => h.1⟩
theorem NI_skip {h : Nat} {Y Z : Nat → Nat} {dp : Nat → Int32} {tl : Nat → Int64} {d a k : Nat} {x z : Int64} (H : NI h Y Z dp tl d a x k z) (hs : (dp k).toNatClampNeg = d → Mt (Y k % 2 ^ h) (Z k % 2 ^ h) a) : NI h Y Z dp tl d a x (k + 1) z := by
  intro t ht
  rw [H t ht]
  constructor
  · rintro ⟨h1, h2⟩
    refine ⟨h1, fun j hj hd => ?_⟩
    rcases Nat.lt_or_ge j k with q | q
    · exact h2 j q hd
    · have e : j = k := by omega
      rw [e] at hd ⊢
      exact Or.inl (hs hd)
  · rintro ⟨h1, h2⟩
    exact ⟨h1, fun j hj hd => h2 j (by omega) hd⟩
theorem NI_and {h : Nat} {Y Z : Nat → Nat} {dp : Nat → Int32} {tl : Nat → Int64} {d a k : Nat} {x z : Int64} (H : NI h Y Z dp tl d a x k z) (hd : (dp k).toNatClampNeg = d) (hs : ¬ Mt (Y k % 2 ^ h) (Z k % 2 ^ h) a) : NI h Y Z dp tl d a x (k + 1) (z &&& tl k) := by
  intro t ht
  rw [lb_and, Bool.and_eq_true, H t ht]
  constructor
  · rintro ⟨⟨h1, h2⟩, h3⟩
    refine ⟨h1, fun j hj hd => ?_⟩
    rcases Nat.lt_or_ge j k with q | q
    · exact h2 j q hd
    · have e : j = k := by omega
      rw [e]
      exact Or.inr h3
  · rintro ⟨h1, h2⟩
    refine ⟨⟨h1, fun j hj hd => h2 j (by omega) hd⟩, ?_⟩
    rcases h2 k (by omega) hd with q | q
    · exact absurd q hs
    · exact q
theorem NI_zero {h : Nat} {Y Z : Nat → Nat} {dp : Nat → Int32} {tl : Nat → Int64} {d a k c : Nat} {x : Int64} (H : NI h Y Z dp tl d a x k 0) (hk : k ≤ c) : NI h Y Z dp tl d a x c 0 := by
  intro t ht
  have h0 := H t ht
  constructor
  · intro q
    rw [lb_0] at q
    cases q
  · rintro ⟨h1, h2⟩
    exact h0.mpr ⟨h1, fun j hj hd => h2 j (by omega) hd⟩
theorem OP_next {N h c : Nat} {Y Z : Nat → Nat} {ht hf dp : Nat → Int32} {tl : Nat → Int64} (R : RX N h c Y Z ht hf dp tl) {d a : Nat} {x z : Int64} (ha : a < 2 ^ h) (O : OP h c Y Z dp d a x) (H : NI h Y Z dp tl d a x c z) : OP h c Y Z dp (d + 1) a z := by
  intro t ht
  rw [H t ht, O t ht]
  constructor
  · rintro ⟨h1, h2⟩ k hk hd
    rcases Nat.lt_or_ge (dp k).toNatClampNeg d with q | q
    · exact h1 k hk q
    · rw [Mt_split ha, ← (R k hk).2.2.2.2.2 t ht]
      exact h2 k hk (by omega)
  · intro h1
    refine ⟨fun k hk hd => h1 k hk (by omega), fun k hk hd => ?_⟩
    have h2 := h1 k hk (by omega)
    rw [Mt_split ha, ← (R k hk).2.2.2.2.2 t ht] at h2
    exact h2
theorem OP_none {N h c w : Nat} {Y Z : Nat → Nat} {ht hf dp : Nat → Int32} {tl : Nat → Int64} (hh : h < 2 ^ 31) (R : RX N h c Y Z ht hf dp tl) {d a : Nat} (hd : d ≤ h) (ha : a < 2 ^ d) (O : OP h c Y Z dp (d + 1) a 0) : fs (PX c Y Z) w (h + 6 - d) a d = none := by
  rw [fs_none]
  intro t ht hP
  have hah : a < 2 ^ h := Nat.lt_of_lt_of_le ha (Nat.pow_le_pow_right (by decide) hd)
  have hT : t / 2 ^ (h - d) < 64 := by
    rw [Nat.div_lt_iff_lt_mul (Nat.two_pow_pos _), show (64 : Nat) = 2 ^ 6 from rfl, ← Nat.pow_add, show 6 + (h - d) = h + 6 - d by omega]
    exact ht
  have h0 := O _ hT
  rw [lb_0] at h0
  have h1 : lb 0 0 = true := (lb_0 0).trans (h0.mpr fun k hk hδ => by
    refine (RX_flat hh R hk hd (by omega) fun i hi => ?_).mp (hP k hk)
    rw [cs_tbadd ha, cs_tbadd hah]
    rcases hi with q | q
    · rw [if_pos q, if_pos (by omega)]
    · rw [if_neg (by omega), if_neg (by omega), Nat.testBit_div_two_pow, show i - h + (h - d) = i - d by omega])
  rw [lb_0] at h1
  cases h1
theorem OP_down {N h c : Nat} {Y Z : Nat → Nat} {ht hf dp : Nat → Int32} {tl : Nat → Int64} (hh : h < 2 ^ 31) (R : RX N h c Y Z ht hf dp tl) {d a : Nat} {z : Int64} (hd : d < h) (ha : a < 2 ^ d) (O : OP h c Y Z dp (d + 1) a z) : OP h c Y Z dp (d + 1) (a + 2 ^ d) z := by
  intro t ht
  rw [O t ht]
  have hah : a < 2 ^ h := Nat.lt_of_lt_of_le ha (Nat.pow_le_pow_right (by decide) (by omega))
  have h2 : 2 ^ (d + 1) ≤ 2 ^ h := Nat.pow_le_pow_right (by decide) hd
  have ha2 : a + 2 ^ d < 2 ^ h := by
    rw [Nat.pow_succ] at h2
    omega
  have key : ∀ k, k < c → (dp k).toNatClampNeg < d + 1 → (Mt (Y k) (Z k) (a + t * 2 ^ h) ↔ Mt (Y k) (Z k) (a + 2 ^ d + t * 2 ^ h)) := fun k hk hδ => by
    refine RX_flat hh R hk (Nat.le_of_lt hd) (by omega) fun i hi => ?_
    rw [cs_tbadd hah, cs_tbadd ha2]
    rcases hi with q | q
    · rw [if_pos (by omega), if_pos (by omega), Nat.add_comm, Nat.testBit_two_pow_add_gt q]
    · rw [if_neg (by omega), if_neg (by omega)]
  exact ⟨fun g k hk hδ => (key k hk hδ).mp (g k hk hδ), fun g k hk hδ => (key k hk hδ).mpr (g k hk hδ)⟩
theorem OP_leaf {N h c w : Nat} {Y Z : Nat → Nat} {ht hf dp : Nat → Int32} {tl : Nat → Int64} (hh : h < 2 ^ 31) (R : RX N h c Y Z ht hf dp tl) {a τ : Nat} {z : Int64} (O : OP h c Y Z dp (h + 1) a z) (hτ : fs (fun t => lb z t = true) (w >>> h) 6 0 0 = some τ) : fs (PX c Y Z) w 6 a h = some (a + τ * 2 ^ h) := by
  have e := fs_shift (PX c Y Z) w h a 6 0 0
  rw [Nat.zero_mul, Nat.add_zero, Nat.add_zero] at e
  rw [e, fs_congr (P' := fun t => lb z t = true) 6 0 0, hτ]
  · rfl
  · intro t ht
    have e2 : 0 + t * 2 ^ 0 = t := by omega
    rw [e2, O t (by simpa using ht)]
    refine ⟨fun g k hk _ => g k hk, fun g k hk => g k hk ?_⟩
    obtain ⟨-, -, -, -, ⟨δ, h1, h2, h3⟩, -⟩ := R k hk
    rw [h2, nI_clamp (by omega)]
    omega
/-! the loop of firstTail: the tails of x in the wished order -/
def TI (x : Int64) (w j τ : Nat) (z : Int64) : Prop := τ < 2 ^ j ∧ (∀ t, t < 64 → (lb z t = true ↔ (lb x t = true ∧ t % 2 ^ j = τ))) ∧ ¬ z = 0 ∧ fs (fun t => lb x t = true) w 6 0 0 = fs (fun t => lb x t = true) w (6 - j) τ j
theorem TI_0 {x : Int64} {w : Nat} (h : ¬ x = 0) : TI x w 0 0 x := ⟨by decide, fun t _ => ⟨fun h => ⟨h, by omega⟩, fun h => h.1⟩, h, rfl⟩
theorem TI_6 {x z : Int64} {w τ : Nat} (h : TI x w 6 τ z) : fs (fun t => lb x t = true) w 6 0 0 = some τ := by
  obtain ⟨h1, h2, h3, h4⟩ := h
  obtain ⟨t, ht, hb⟩ := lb_ne0 h3
  obtain ⟨h5, h6⟩ := (h2 t ht).mp hb
  rw [Nat.mod_eq_of_lt (by simpa using ht)] at h6
  rw [h4, ← h6]
  exact fs_0t (P := fun t => lb x t = true) h5
theorem cs_modsucc (t j : Nat) : t % 2 ^ (j + 1) = t % 2 ^ j + (if t.testBit j = true then 2 ^ j else 0) := by
  rw [Nat.mod_pow_succ, Nat.testBit_eq_decide_div_mod_eq]
  rcases Nat.mod_two_eq_zero_or_one (t / 2 ^ j) with e | e
  · rw [e]; simp
  · rw [e]; simp
theorem TI_in {j τ t : Nat} (hj : j < 6) (hτ : τ < 2 ^ (j + 1)) : t < 2 ^ (5 - j) → (τ + t * 2 ^ (j + 1)) < 64 ∧ (τ + t * 2 ^ (j + 1)) % 2 ^ (j + 1) = τ := by
  intro h
  have h1 : (t + 1) * 2 ^ (j + 1) ≤ 2 ^ (5 - j) * 2 ^ (j + 1) := Nat.mul_le_mul_right _ h
  rw [← Nat.pow_add, show 5 - j + (j + 1) = 6 by omega, Nat.add_mul, Nat.one_mul] at h1
  refine ⟨by omega, ?_⟩
  rw [Nat.add_mul_mod_self_right, Nat.mod_eq_of_lt hτ]
theorem TI_step {x z y : Int64} {w j τ τ' : Nat} (hj : j < 6) (H : TI x w j τ z) (hτ' : τ' < 2 ^ (j + 1)) (hy : ∀ t, t < 64 → (lb y t = true ↔ (lb x t = true ∧ t % 2 ^ (j + 1) = τ'))) (hn : ¬ y = 0) (hfs : fs (fun t => lb x t = true) w (5 - j + 1) τ j = fs (fun t => lb x t = true) w (5 - j) τ' (j + 1)) : TI x w (j + 1) τ' y := by
  refine ⟨hτ', hy, hn, ?_⟩
  rw [H.2.2.2, show 6 - j = 5 - j + 1 by omega, hfs, show 6 - (j + 1) = 5 - j by omega]
theorem TI_ne {x y : Int64} {w j τ' : Nat} (hj : j < 6) (hy : ∀ t, t < 64 → (lb y t = true ↔ (lb x t = true ∧ t % 2 ^ (j + 1) = τ'))) (hn : ¬ y = 0) : ¬ fs (fun t => lb x t = true) w (5 - j) τ' (j + 1) = none := by
  rw [fs_none]
  intro h
  obtain ⟨t, ht, hb⟩ := lb_ne0 hn
  obtain ⟨h1, h2⟩ := (hy t ht).mp hb
  have h3 := Nat.div_add_mod t (2 ^ (j + 1))
  refine h (t / 2 ^ (j + 1)) ?_ ?_
  · rw [Nat.div_lt_iff_lt_mul (Nat.two_pow_pos _), ← Nat.pow_add, show 5 - j + (j + 1) = 6 by omega]
    exact ht
  · show lb x _ = true
    rw [← h2, Nat.add_comm, Nat.mul_comm, h3]
    exact h1
theorem TI_no {x y : Int64} {w j τ' : Nat} (hj : j < 6) (hτ' : τ' < 2 ^ (j + 1)) (hy : ∀ t, t < 64 → (lb y t = true ↔ (lb x t = true ∧ t % 2 ^ (j + 1) = τ'))) (hn : y = 0) : fs (fun t => lb x t = true) w (5 - j) τ' (j + 1) = none := by
  rw [fs_none]
  intro t ht hb
  obtain ⟨h1, h2⟩ := TI_in (τ := τ') hj hτ' ht
  have h3 := (hy _ h1).mpr ⟨hb, h2⟩
  rw [hn, lb_0] at h3
  cases h3
theorem TI_with {x z : Int64} {w j τ : Nat} (hj : j < 6) (H : TI x w j τ z) : ∀ t, t < 64 → (lb (z &&& cs_tw j) t = true ↔ (lb x t = true ∧ t % 2 ^ (j + 1) = τ + 2 ^ j)) := by
  intro t ht
  rw [lb_and, Bool.and_eq_true, H.2.1 t ht, lb_tw j hj t ht, cs_modsucc]
  have hτ := H.1
  constructor
  · rintro ⟨⟨h1, h2⟩, h3⟩
    refine ⟨h1, ?_⟩
    rw [if_pos h3, h2]
  · rintro ⟨h1, h2⟩
    have hm := Nat.mod_lt t (Nat.two_pow_pos j)
    cases hb : t.testBit j with
    | true =>
      rw [hb, if_pos rfl] at h2
      exact ⟨⟨h1, by omega⟩, rfl⟩
    | false =>
      rw [hb, if_neg (by decide)] at h2
      omega
theorem TI_without {x z : Int64} {w j τ : Nat} (hj : j < 6) (H : TI x w j τ z) : ∀ t, t < 64 → (lb (z &&& (cs_tw j ^^^ (-1))) t = true ↔ (lb x t = true ∧ t % 2 ^ (j + 1) = τ)) := by
  intro t ht
  rw [lb_and, Bool.and_eq_true, H.2.1 t ht, lb_not _ ht, lb_tw j hj t ht, cs_modsucc]
  have hτ := H.1
  constructor
  · rintro ⟨⟨h1, h2⟩, h3⟩
    refine ⟨h1, ?_⟩
    rw [if_neg (by simpa using h3), h2, Nat.add_zero]
  · rintro ⟨h1, h2⟩
    have hm := Nat.mod_lt t (Nat.two_pow_pos j)
    cases hb : t.testBit j with
    | true =>
      rw [hb, if_pos rfl] at h2
      omega
    | false =>
      rw [hb, if_neg (by decide)] at h2
      exact ⟨⟨h1, by omega⟩, rfl⟩
theorem TI_ex {x z : Int64} {w j τ : Nat} (hj : j < 6) (H : TI x w j τ z) (h : z &&& cs_tw j = 0) : ¬ z &&& (cs_tw j ^^^ (-1)) = 0 := by
  obtain ⟨t, ht, hb⟩ := lb_ne0 H.2.2.1
  refine lb_ne0' (t := t) ?_
  have h1 := lb_eq0.mp h t ht
  rw [lb_and, hb, Bool.true_and] at h1
  rw [lb_and, hb, lb_not _ ht, h1]
  rfl
theorem TI_p {j : Nat} : 2 ^ (j + 1) = 2 ^ j + 2 ^ j := by rw [Nat.pow_succ]; omega
theorem TI_tt {x z : Int64} {w j τ : Nat} (hj : j < 6) (H : TI x w j τ z) (hb : w.testBit j = true) (h : ¬ z &&& cs_tw j = 0) : TI x w (j + 1) (τ + 2 ^ j) (z &&& cs_tw j) := by
  have hτ := H.1
  refine TI_step hj H (by rw [TI_p]; omega) (TI_with hj H) h ?_
  rw [fs_st hb, or_left (TI_ne hj (TI_with hj H) h)]
theorem TI_tf {x z : Int64} {w j τ : Nat} (hj : j < 6) (H : TI x w j τ z) (hb : w.testBit j = true) (h : z &&& cs_tw j = 0) : TI x w (j + 1) τ (z &&& (cs_tw j ^^^ (-1))) := by
  have hτ := H.1
  refine TI_step hj H (by rw [TI_p]; omega) (TI_without hj H) (TI_ex hj H h) ?_
  rw [fs_st hb, or_right (TI_no hj (by rw [TI_p]; omega) (TI_with hj H) h)]
theorem TI_ff {x z : Int64} {w j τ : Nat} (hj : j < 6) (H : TI x w j τ z) (hb : w.testBit j = false) (h : ¬ z &&& (cs_tw j ^^^ (-1)) = 0) : TI x w (j + 1) τ (z &&& (cs_tw j ^^^ (-1))) := by
  have hτ := H.1
  refine TI_step hj H (by rw [TI_p]; omega) (TI_without hj H) h ?_
  rw [fs_sf hb, or_left (TI_ne hj (TI_without hj H) h)]
theorem TI_ft {x z : Int64} {w j τ : Nat} (hj : j < 6) (H : TI x w j τ z) (hb : w.testBit j = false) (h : z &&& (cs_tw j ^^^ (-1)) = 0) : TI x w (j + 1) (τ + 2 ^ j) (z &&& cs_tw j) := by
  have hτ := H.1
  refine TI_step hj H (by rw [TI_p]; omega) (TI_with hj H) (fun q => TI_ex hj H q h) ?_
  rw [fs_sf hb, or_right (TI_no hj (by rw [TI_p]; omega) (TI_without hj H) h)]
/-! the loop of tailsThatMeet -/
def MI (y n j : Nat) (z : Int64) : Prop := ∀ t, t < 64 → (lb z t = true ↔ ∃ i, i < j ∧ ((t.testBit i = true ∧ y.testBit i = true) ∨ (t.testBit i = false ∧ n.testBit i = true)))
theorem MI_0 {y n : Nat} : MI y n 0 0 := by
  intro t _
  rw [lb_0]
  exact ⟨fun h => (by cases h), fun ⟨i, hi, _⟩ => absurd hi (Nat.not_lt_zero _)⟩
theorem MI_s {y n j : Nat} {z u : Int64} (H : MI y n j z) (hu : ∀ t, t < 64 → (lb u t = true ↔ (lb z t = true ∨ (t.testBit j = true ∧ y.testBit j = true) ∨ (t.testBit j = false ∧ n.testBit j = true)))) : MI y n (j + 1) u := by
  intro t ht
  rw [hu t ht, H t ht]
  constructor
  · rintro (⟨i, hi, h⟩ | h)
    · exact ⟨i, by omega, h⟩
    · exact ⟨j, by omega, h⟩
  · rintro ⟨i, hi, h⟩
    rcases Nat.lt_or_ge i j with q | q
    · exact Or.inl ⟨i, q, h⟩
    · have e : i = j := by omega
      rw [e] at h
      exact Or.inr h
theorem MI_tt {y n j : Nat} {z : Int64} (hj : j < 6) (H : MI y n j z) (hy : y.testBit j = true) (hn : n.testBit j = true) : MI y n (j + 1) (z ||| cs_tw j ||| (cs_tw j ^^^ (-1))) := by
  refine MI_s H fun t ht => ?_
  rw [lb_or, lb_or, lb_not _ ht, lb_tw j hj t ht, hy, hn]
  cases t.testBit j <;> simp
theorem MI_tf {y n j : Nat} {z : Int64} (hj : j < 6) (H : MI y n j z) (hy : y.testBit j = true) (hn : n.testBit j = false) : MI y n (j + 1) (z ||| cs_tw j) := by
  refine MI_s H fun t ht => ?_
  rw [lb_or, lb_tw j hj t ht, hy, hn]
  cases t.testBit j <;> simp
theorem MI_ft {y n j : Nat} {z : Int64} (hj : j < 6) (H : MI y n j z) (hy : y.testBit j = false) (hn : n.testBit j = true) : MI y n (j + 1) (z ||| (cs_tw j ^^^ (-1))) := by
  refine MI_s H fun t ht => ?_
  rw [lb_or, lb_not _ ht, lb_tw j hj t ht, hy, hn]
  cases t.testBit j <;> simp
theorem MI_ff {y n j : Nat} {z : Int64} (H : MI y n j z) (hy : y.testBit j = false) (hn : n.testBit j = false) : MI y n (j + 1) z := by
  refine MI_s H fun t ht => ?_
  rw [hy, hn]
  simp
theorem MI_6 {y n : Nat} {z : Int64} (H : MI y n 6 z) (hy : y < 64) (hn : n < 64) : ∀ t, t < 64 → (lb z t = true ↔ Mt y n t) := by
  intro t ht
  rw [H t ht]
  constructor
  · rintro ⟨i, -, h⟩
    exact ⟨i, h⟩
  · rintro ⟨i, h⟩
    refine ⟨i, Nat.not_le.mp fun q => ?_, h⟩
    rw [cs_tbge (n := 6) hy q, cs_tbge (n := 6) hn q] at h
    simp at h
/-! the reference's search -/
theorem PX_cut {c w : Nat} {Y Z : Nat → Nat} {a v d k : Nat} (ha : a < 2 ^ v) (hk : k < c) (h0 : (Y k ||| Z k) / 2 ^ v = 0) (h : ¬ Mt (Y k) (Z k) a) : fs (PX c Y Z) w d a v = none := by
  rw [fs_none]
  intro t _ hP
  refine h ((Mt_same fun i hi => ?_).mp (hP k hk))
  have hlt : Y k ||| Z k < 2 ^ v := by
    rcases Nat.div_eq_zero_iff.mp h0 with q | q
    · exact absurd q (Nat.ne_of_gt (Nat.two_pow_pos v))
    · exact q
  have hiv : i < v := Nat.not_le.mp fun q => by
    have h1 := cs_tbge hlt q
    rw [Nat.testBit_or] at h1
    rcases hi with e | e
    · rw [e] at h1; simp at h1
    · rw [e] at h1; simp at h1
  rw [cs_tbadd ha, if_pos hiv]
theorem PX_past {N c : Nat} {Y Z : Nat → Nat} (hY : ∀ k, k < c → Y k < 2 ^ N ∧ Z k < 2 ^ N) : ∀ a v, N ≤ v → (PX c Y Z (a + 2 ^ v) ↔ PX c Y Z a) := by
  intro a v hv
  have key : ∀ k, k < c → (Mt (Y k) (Z k) (a + 2 ^ v) ↔ Mt (Y k) (Z k) a) := fun k hk => Mt_same fun i hi => by
    have hiN : i < N := Nat.not_le.mp fun q => by
      rw [cs_tbge (hY k hk).1 q, cs_tbge (hY k hk).2 q] at hi
      simp at hi
    rw [Nat.add_comm, Nat.testBit_two_pow_add_gt (by omega)]
  exact ⟨fun g k hk => (key k hk).mp (g k hk), fun g k hk => (key k hk).mpr (g k hk)⟩
/-- both searches: over the head and six, over the variables alone -/
theorem PX_both {N c w : Nat} {Y Z : Nat → Nat} (hY : ∀ k, k < c → Y k < 2 ^ N ∧ Z k < 2 ^ N) (hw : w < 2 ^ N) : fs (PX c Y Z) w (N - 6 + 6) 0 0 = fs (PX c Y Z) w N 0 0 := by
  rcases Nat.lt_or_ge N 6 with q | q
  · rw [show N - 6 + 6 = N + (6 - N) by omega]
    exact fs_extra (PX_past hY) (fun v hv => cs_tbge hw hv) _ N 0 0 (by omega)
  · rw [show N - 6 + 6 = N by omega]
end
section
/-! states and their changes -/
def bI : Bool → Int32
  | true => nI 1
  | false => nI 0
theorem bI_ne {x : Bool} (h : ¬ bI x = 0) : bI x = nI 1 := by
  cases x with
  | true => rfl
  | false => exact absurd nI_0 h
theorem bI_nar (x : Bool) : narrow .boolean (.int (bI x)) = .int (bI x) := by cases x <;> rfl
theorem cs_hasv (b v : Nat) : nI ((b / 2 ^ v) &&& 1) = bI (b.testBit v) := by
  rw [Nat.and_one_is_mod, Nat.testBit_eq_decide_div_mod_eq]
  rcases Nat.mod_two_eq_zero_or_one (b / 2 ^ v) with e | e
  · rw [e]; rfl
  · rw [e]; rfl
def ub (f : Nat → Nat) (k x : Nat) : Nat → Nat := fun j => if j = k then x else f j
theorem ub_s {f : Nat → Nat} {k x : Nat} : ub f k x k = x := if_pos rfl
theorem ub_n {f : Nat → Nat} {k x j : Nat} (h : j ≠ k) : ub f k x j = f j := if_neg h
/-- the reference's rows -/
def RM (N c w : Nat) (Y Z : Nat → Nat) (wf ye no : Nat → Int32) : Prop := (∀ v, v < N → wf v = bI (w.testBit v)) ∧ ∀ k, k < c → ye k = nI (Y k) ∧ no k = nI (Z k)
theorem RX_0 {N h : Nat} {Y Z : Nat → Nat} {ht hf dp : Nat → Int32} {tl : Nat → Int64} : RX N h 0 Y Z ht hf dp tl := fun k hk => absurd hk (Nat.not_lt_zero _)
theorem RX_lt {N h c : Nat} {Y Z : Nat → Nat} {ht hf dp : Nat → Int32} {tl : Nat → Int64} (R : RX N h c Y Z ht hf dp tl) : ∀ k, k < c → Y k < 2 ^ N ∧ Z k < 2 ^ N := fun k hk => ⟨(R k hk).1, (R k hk).2.1⟩
theorem RX_add {N h c : Nat} {Y Z : Nat → Nat} {ht hf dp : Nat → Int32} {tl : Nat → Int64} (R : RX N h c Y Z ht hf dp tl) {y n δ : Nat} {z : Int64} (hy : y < 2 ^ N) (hn : n < 2 ^ N) (hδ : δ ≤ h) (hb : ∀ i, δ ≤ i → i < h → y.testBit i = false ∧ n.testBit i = false) (hz : ∀ t, t < 64 → (lb z t = true ↔ Mt (y >>> h) (n >>> h) t)) : RX N h (c + 1) (ub Y c y) (ub Z c n) (upd ht c (nI (y % 2 ^ h))) (upd hf c (nI (n % 2 ^ h))) (upd dp c (nI δ)) (vp_updL tl c z) := by
  intro k hk
  by_cases e : k = c
  · subst e
    rw [ub_s, ub_s, pk_us, pk_us, pk_us, pk_uLs]
    exact ⟨hy, hn, rfl, rfl, ⟨δ, hδ, rfl, hb⟩, hz⟩
  · rw [ub_n e, ub_n e, pk_un e, pk_un e, pk_un e, pk_uLn e]
    exact R k (by omega)
theorem RX_drop {N h c : Nat} {Y Z : Nat → Nat} {ht hf dp : Nat → Int32} {tl : Nat → Int64} (R : RX N h (c + 1) Y Z ht hf dp tl) {j : Nat} (hj : j < c + 1) : RX N h c (ub Y j (Y c)) (ub Z j (Z c)) (upd ht j (ht c)) (upd hf j (hf c)) (upd dp j (dp c)) (vp_updL tl j (tl c)) := by
  intro k hk
  by_cases e : k = j
  · subst e
    rw [ub_s, ub_s, pk_us, pk_us, pk_us, pk_uLs]
    exact R c (by omega)
  · rw [ub_n e, ub_n e, pk_un e, pk_un e, pk_un e, pk_uLn e]
    exact R k (by omega)
theorem RM_add {N c w : Nat} {Y Z : Nat → Nat} {wf ye no : Nat → Int32} (R : RM N c w Y Z wf ye no) {y n : Nat} : RM N (c + 1) w (ub Y c y) (ub Z c n) wf (upd ye c (nI y)) (upd no c (nI n)) := by
  refine ⟨R.1, fun k hk => ?_⟩
  by_cases e : k = c
  · subst e
    rw [ub_s, ub_s, pk_us, pk_us]
    exact ⟨rfl, rfl⟩
  · rw [ub_n e, ub_n e, pk_un e, pk_un e]
    exact R.2 k (by omega)
theorem RM_drop {N c w : Nat} {Y Z : Nat → Nat} {wf ye no : Nat → Int32} (R : RM N (c + 1) w Y Z wf ye no) {j : Nat} (hj : j < c + 1) : RM N c w (ub Y j (Y c)) (ub Z j (Z c)) wf (upd ye j (ye c)) (upd no j (no c)) := by
  refine ⟨R.1, fun k hk => ?_⟩
  by_cases e : k = j
  · subst e
    rw [ub_s, ub_s, pk_us, pk_us]
    exact R.2 c (by omega)
  · rw [ub_n e, ub_n e, pk_un e, pk_un e]
    exact R.2 k (by omega)
/-- what a wish leaves -/
def wsh (w v : Nat) : Bool → Nat
  | true => w ||| 2 ^ v
  | false => w &&& (2 ^ v ^^^ 4294967295)
theorem wsh_lt {w v N : Nat} (hw : w < 2 ^ N) (hv : v < N) (b : Bool) : wsh w v b < 2 ^ N := by
  cases b with
  | true => exact Nat.or_lt_two_pow hw (Nat.pow_lt_pow_right (by decide) hv)
  | false => exact Nat.lt_of_le_of_lt Nat.and_le_left hw
theorem wsh_tb {w v u : Nat} (hu : u < 32) (b : Bool) : (wsh w v b).testBit u = if u = v then b else w.testBit u := by
  cases b with
  | true =>
    show (w ||| 2 ^ v).testBit u = _
    rw [Nat.testBit_or, Nat.testBit_two_pow]
    by_cases e : u = v
    · rw [if_pos e, decide_eq_true e.symm]; simp
    · rw [if_neg e, decide_eq_false (fun q => e q.symm)]; simp
  | false =>
    show (w &&& (2 ^ v ^^^ 4294967295)).testBit u = _
    rw [Nat.testBit_and, cs_not _ hu, Nat.testBit_two_pow]
    by_cases e : u = v
    · rw [if_pos e, decide_eq_true e.symm]; simp
    · rw [if_neg e, decide_eq_false (fun q => e q.symm)]; simp
theorem RM_wish {N c w v : Nat} {Y Z : Nat → Nat} {wf ye no : Nat → Int32} (hN : N ≤ 16) (R : RM N c w Y Z wf ye no) (b : Bool) : RM N c (wsh w v b) Y Z (upd wf v (bI b)) ye no := by
  refine ⟨fun u hu => ?_, R.2⟩
  rw [wsh_tb (by omega)]
  by_cases e : u = v
  · subst e
    rw [pk_us, if_pos rfl]
  · rw [pk_un e, if_neg e]
    exact R.1 u hu
/-! how many bits -/
def pcs (m : Nat) : Nat → Nat
  | 0 => 0
  | k + 1 => pcs m k + m / 2 ^ k % 2
theorem pcs_le (m : Nat) : ∀ k, pcs m k ≤ k := by
  intro k
  induction k with
  | zero => exact Nat.le_refl _
  | succ k ih =>
    show pcs m k + m / 2 ^ k % 2 ≤ k + 1
    have := Nat.mod_lt (m / 2 ^ k) (show 2 > 0 by decide)
    omega
def bc1 (m : Nat) : Nat := m - ((m / 2 ^ 1) &&& 1431655765)
def bc2 (m : Nat) : Nat := (m &&& 858993459) + ((m / 2 ^ 2) &&& 858993459)
def bc3 (m : Nat) : Nat := (m + m / 2 ^ 4) &&& 252645135
def bc4 (m : Nat) : Nat := m + m / 2 ^ 8
def bc5 (m : Nat) : Nat := m + m / 2 ^ 16
def bc6 (m : Nat) : Nat := m &&& 63
theorem bc1_lt {m : Nat} (h : m < 65536) : bc1 m < 65536 := Nat.lt_of_le_of_lt (Nat.sub_le _ _) h
theorem bc2_lt {m : Nat} (h : m < 65536) : bc2 m < 131072 := by
  have h1 : m &&& 858993459 ≤ m := Nat.and_le_left
  have h2 : (m / 2 ^ 2) &&& 858993459 ≤ m / 2 ^ 2 := Nat.and_le_left
  show (m &&& 858993459) + ((m / 2 ^ 2) &&& 858993459) < 131072
  omega
theorem bc3_lt {m : Nat} (h : m < 131072) : bc3 m < 262144 := by
  have h1 : (m + m / 2 ^ 4) &&& 252645135 ≤ m + m / 2 ^ 4 := Nat.and_le_left
  show (m + m / 2 ^ 4) &&& 252645135 < 262144
  omega
theorem bc4_lt {m : Nat} (h : m < 262144) : bc4 m < 524288 := by
  show m + m / 2 ^ 8 < 524288
  omega
end
section
theorem pc_tb (m k : Nat) : m / 2 ^ k % 2 = (m.testBit k).toNat := by
  rw [Nat.testBit_eq_decide_div_mod_eq]
  rcases Nat.mod_two_eq_zero_or_one (m / 2 ^ k) with e | e
  · rw [e]; rfl
  · rw [e]; rfl
theorem pc_lo {a b : Nat} (hb : b < 2 ^ 8) : ∀ k, k ≤ 8 → pcs (b + a * 2 ^ 8) k = pcs b k := by
  intro k
  induction k with
  | zero => intro _; rfl
  | succ k ih =>
    intro hk
    show pcs (b + a * 2 ^ 8) k + (b + a * 2 ^ 8) / 2 ^ k % 2 = pcs b k + b / 2 ^ k % 2
    rw [ih (by omega), pc_tb, pc_tb, cs_tbadd hb, if_pos (by omega)]
theorem pc_hi {a b : Nat} (hb : b < 2 ^ 8) : ∀ k, pcs (b + a * 2 ^ 8) (8 + k) = pcs b 8 + pcs a k := by
  intro k
  induction k with
  | zero => exact pc_lo hb 8 (Nat.le_refl _)
  | succ k ih =>
    show pcs (b + a * 2 ^ 8) (8 + k) + (b + a * 2 ^ 8) / 2 ^ (8 + k) % 2 = pcs b 8 + (pcs a k + a / 2 ^ k % 2)
    rw [ih, pc_tb, pc_tb, cs_tbadd hb, if_neg (by omega), show 8 + k - 8 = k by omega]
    omega
theorem pc_and {p q r s : Nat} (hq : q < 2 ^ 8) (hs : s < 2 ^ 8) : (q + p * 2 ^ 8) &&& (s + r * 2 ^ 8) = (q &&& s) + (p &&& r) * 2 ^ 8 := by
  apply Nat.eq_of_testBit_eq
  intro i
  rw [Nat.testBit_and, cs_tbadd hq, cs_tbadd hs, cs_tbadd (Nat.and_lt_two_pow _ hs)]
  by_cases h : i < 8
  · rw [if_pos h, if_pos h, if_pos h, Nat.testBit_and]
  · rw [if_neg h, if_neg h, if_neg h, Nat.testBit_and]
def h1 (x : Nat) : Nat := x - ((x / 2) &&& 85)
def h2 (x : Nat) : Nat := (x &&& 51) + ((x / 4) &&& 51)
def h3 (x : Nat) : Nat := (x + x / 16) &&& 15
theorem pb_1 : ∀ b, b < 256 → ((b / 2) &&& 85 = (b / 2 + 128) &&& 85 ∧ (b / 2) &&& 5592405 = (b / 2) &&& 85) := by decide +kernel
theorem pb_2 : ∀ b, b < 256 → b &&& 3355443 = b &&& 51 ∧ (b / 4) &&& 3355443 = (b / 4) &&& 51 ∧ ∀ e, e < 4 → (b / 4 + e * 64) &&& 51 = (b / 4) &&& 51 := by decide +kernel
theorem pb_3 : ∀ b, b < 256 → (h2 (h1 b)) % 16 ≤ 4 ∧ h2 (h1 b) / 16 ≤ 4 ∧ h3 (h2 (h1 b)) = pcs b 8 := by decide +kernel
theorem pb_4 : ∀ b, b < 256 → b &&& 986895 = b &&& 15 ∧ b &&& 15 = b % 16 := by decide +kernel
theorem pb_le (b : Nat) : h1 b ≤ b := Nat.sub_le _ _
theorem bc1_sp {a b : Nat} (ha : a < 256) (hb : b < 256) : bc1 (b + a * 2 ^ 8) = h1 b + h1 a * 2 ^ 8 := by
  have e1 : (b + a * 2 ^ 8) / 2 ^ 1 = (b / 2 + a % 2 * 128) + a / 2 * 2 ^ 8 := by omega
  have e2 : (1431655765 : Nat) = 85 + 5592405 * 2 ^ 8 := rfl
  have e3 : (b / 2 + a % 2 * 128) &&& 85 = (b / 2) &&& 85 := by
    rcases Nat.mod_two_eq_zero_or_one a with e | e
    · rw [e, Nat.zero_mul, Nat.add_zero]
    · rw [e, Nat.one_mul]; exact (pb_1 b hb).1.symm
  unfold bc1 h1
  rw [e1, e2, pc_and (by omega) (by decide), e3, (pb_1 a ha).2]
  have l1 : (b / 2) &&& 85 ≤ b / 2 := Nat.and_le_left
  have l2 : (a / 2) &&& 85 ≤ a / 2 := Nat.and_le_left
  omega
theorem bc2_sp {a b : Nat} (ha : a < 256) (hb : b < 256) : bc2 (b + a * 2 ^ 8) = h2 b + h2 a * 2 ^ 8 := by
  have e1 : (b + a * 2 ^ 8) / 2 ^ 2 = (b / 4 + a % 4 * 64) + a / 4 * 2 ^ 8 := by omega
  have e2 : (858993459 : Nat) = 51 + 3355443 * 2 ^ 8 := rfl
  unfold bc2 h2
  rw [e1, e2, pc_and hb (by decide), pc_and (by omega) (by decide), (pb_2 b hb).2.2 _ (Nat.mod_lt _ (by decide)), (pb_2 a ha).1, (pb_2 a ha).2.1]
  omega
theorem bc3_sp {a b : Nat} (ha : a < 256) (hb : b < 256) (ha1 : a % 16 ≤ 4) (ha2 : a / 16 ≤ 4) (hb1 : b % 16 ≤ 4) (hb2 : b / 16 ≤ 4) : bc3 (b + a * 2 ^ 8) = h3 b + h3 a * 2 ^ 8 := by
  have e1 : (b + a * 2 ^ 8) + (b + a * 2 ^ 8) / 2 ^ 4 = (b + b / 16 + a % 16 * 16) + (a + a / 16) * 2 ^ 8 := by omega
  have e2 : (252645135 : Nat) = 15 + 986895 * 2 ^ 8 := rfl
  unfold bc3 h3
  rw [e1, e2, pc_and (by omega) (by decide), (pb_4 _ (by omega)).1, (pb_4 (b + b / 16 + a % 16 * 16) (by omega)).2, (pb_4 (b + b / 16) (by omega)).2]
  omega
theorem bc_pcs {m : Nat} (h : m < 65536) : bc6 (bc5 (bc4 (bc3 (bc2 (bc1 m))))) = pcs m 16 := by
  have hb : m % 256 < 256 := Nat.mod_lt _ (by decide)
  have ha : m / 256 < 256 := by omega
  have e : m = m % 256 + m / 256 * 2 ^ 8 := by omega
  rw [e, show (16 : Nat) = 8 + 8 from rfl, pc_hi hb]
  generalize m % 256 = b at hb
  generalize m / 256 = a at ha
  obtain ⟨p1, p2, p3⟩ := pb_3 b hb
  obtain ⟨q1, q2, q3⟩ := pb_3 a ha
  have l1 := pb_le b
  have l2 := pb_le a
  rw [bc1_sp ha hb, bc2_sp (by omega) (by omega), bc3_sp (by omega) (by omega) q1 q2 p1 p2, p3, q3]
  have r1 := pcs_le b 8
  have r2 := pcs_le a 8
  generalize pcs b 8 = x at r1
  generalize pcs a 8 = y at r2
  show bc6 (bc5 (x + y * 2 ^ 8 + (x + y * 2 ^ 8) / 2 ^ 8)) = x + y
  rw [show x + y * 2 ^ 8 + (x + y * 2 ^ 8) / 2 ^ 8 = x + y + y * 2 ^ 8 by omega]
  show bc6 (x + y + y * 2 ^ 8 + (x + y + y * 2 ^ 8) / 2 ^ 16) = x + y
  rw [show x + y + y * 2 ^ 8 + (x + y + y * 2 ^ 8) / 2 ^ 16 = x + y + y * 2 ^ 8 by omega]
  show (x + y + y * 2 ^ 8) &&& (2 ^ 6 - 1) = x + y
  rw [Nat.and_two_pow_sub_one_eq_mod]
  omega
end
section
-- ===== PART A: goes FIRST, ahead of the names: the tables' words, and 'selects' of the private methods out of them =====
/-- a private method of a class that the tables say can be made, by its rows of tables_1 -/
def lw_okq (q : MethodName × Nat) : Prop := (q.1.cls ≠ "java/lang/invoke/MethodHandle" ∧ q.1.cls ≠ "java/lang/invoke/VarHandle") ∧ Cond.instantiable q.1.cls q.2 ∈ tables_1 ∧ Cond.privateMethod q.1 ∈ tables_1 ∧ Cond.instanceMethod q.1 ∈ tables_1
theorem lw_p0 : lw_okq (⟨"ClauseSolver", "isVariable", "(I)Z"⟩, 10) := ⟨⟨by decide +kernel, by decide +kernel⟩, List.mem_of_getElem? (i := 6) (by decide +kernel), List.mem_of_getElem? (i := 57) (by decide +kernel), List.mem_of_getElem? (i := 58) (by decide +kernel)⟩
theorem lw_p1 : lw_okq (⟨"ClauseSolver", "namedByMadeUp", "()I"⟩, 10) := ⟨⟨by decide +kernel, by decide +kernel⟩, List.mem_of_getElem? (i := 6) (by decide +kernel), List.mem_of_getElem? (i := 68) (by decide +kernel), List.mem_of_getElem? (i := 69) (by decide +kernel)⟩
theorem lw_p2 : lw_okq (⟨"ClauseSolver", "append", "(II)I"⟩, 10) := ⟨⟨by decide +kernel, by decide +kernel⟩, List.mem_of_getElem? (i := 6) (by decide +kernel), List.mem_of_getElem? (i := 82) (by decide +kernel), List.mem_of_getElem? (i := 83) (by decide +kernel)⟩
theorem lw_p3 : lw_okq (⟨"ClauseSolver", "depthOf", "(I)I"⟩, 10) := ⟨⟨by decide +kernel, by decide +kernel⟩, List.mem_of_getElem? (i := 6) (by decide +kernel), List.mem_of_getElem? (i := 89) (by decide +kernel), List.mem_of_getElem? (i := 90) (by decide +kernel)⟩
theorem lw_p4 : lw_okq (⟨"ClauseSolver", "firstAnswer", "()I"⟩, 10) := ⟨⟨by decide +kernel, by decide +kernel⟩, List.mem_of_getElem? (i := 6) (by decide +kernel), List.mem_of_getElem? (i := 111) (by decide +kernel), List.mem_of_getElem? (i := 112) (by decide +kernel)⟩
theorem lw_p5 : lw_okq (⟨"ClauseSolver", "firstBelow", "(IIJ)I"⟩, 10) := ⟨⟨by decide +kernel, by decide +kernel⟩, List.mem_of_getElem? (i := 6) (by decide +kernel), List.mem_of_getElem? (i := 115) (by decide +kernel), List.mem_of_getElem? (i := 116) (by decide +kernel)⟩
theorem lw_p6 : lw_okq (⟨"ClauseSolver", "narrowed", "(IIJ)J"⟩, 10) := ⟨⟨by decide +kernel, by decide +kernel⟩, List.mem_of_getElem? (i := 6) (by decide +kernel), List.mem_of_getElem? (i := 119) (by decide +kernel), List.mem_of_getElem? (i := 120) (by decide +kernel)⟩
theorem lw_p7 : lw_okq (⟨"ClauseSolver", "headMeets", "(II)Z"⟩, 10) := ⟨⟨by decide +kernel, by decide +kernel⟩, List.mem_of_getElem? (i := 6) (by decide +kernel), List.mem_of_getElem? (i := 123) (by decide +kernel), List.mem_of_getElem? (i := 124) (by decide +kernel)⟩
theorem lw_p8 : lw_okq (⟨"ClauseSolver", "firstTail", "(J)I"⟩, 10) := ⟨⟨by decide +kernel, by decide +kernel⟩, List.mem_of_getElem? (i := 6) (by decide +kernel), List.mem_of_getElem? (i := 127) (by decide +kernel), List.mem_of_getElem? (i := 128) (by decide +kernel)⟩
theorem lw_p9 : lw_okq (⟨"ClauseSolver", "firstOfBoth", "(IIJ)I"⟩, 10) := ⟨⟨by decide +kernel, by decide +kernel⟩, List.mem_of_getElem? (i := 6) (by decide +kernel), List.mem_of_getElem? (i := 131) (by decide +kernel), List.mem_of_getElem? (i := 132) (by decide +kernel)⟩
theorem lw_p10 : lw_okq (⟨"ClauseSolverModel", "is", "(I)Z"⟩, 9) := ⟨⟨by decide +kernel, by decide +kernel⟩, List.mem_of_getElem? (i := 146) (by decide +kernel), List.mem_of_getElem? (i := 185) (by decide +kernel), List.mem_of_getElem? (i := 186) (by decide +kernel)⟩
theorem lw_p11 : lw_okq (⟨"ClauseSolverModel", "search", "(II)I"⟩, 9) := ⟨⟨by decide +kernel, by decide +kernel⟩, List.mem_of_getElem? (i := 146) (by decide +kernel), List.mem_of_getElem? (i := 213) (by decide +kernel), List.mem_of_getElem? (i := 214) (by decide +kernel)⟩
theorem lw_p12 : lw_okq (⟨"ClauseSolverModel", "holds", "(II)Z"⟩, 9) := ⟨⟨by decide +kernel, by decide +kernel⟩, List.mem_of_getElem? (i := 146) (by decide +kernel), List.mem_of_getElem? (i := 217) (by decide +kernel), List.mem_of_getElem? (i := 218) (by decide +kernel)⟩
def lw_privs_1 : List (MethodName × Nat) := [(⟨"ClauseSolver", "isVariable", "(I)Z"⟩, 10), (⟨"ClauseSolver", "namedByMadeUp", "()I"⟩, 10), (⟨"ClauseSolver", "append", "(II)I"⟩, 10), (⟨"ClauseSolver", "depthOf", "(I)I"⟩, 10), (⟨"ClauseSolver", "firstAnswer", "()I"⟩, 10), (⟨"ClauseSolver", "firstBelow", "(IIJ)I"⟩, 10), (⟨"ClauseSolver", "narrowed", "(IIJ)J"⟩, 10), (⟨"ClauseSolver", "headMeets", "(II)Z"⟩, 10), (⟨"ClauseSolver", "firstTail", "(J)I"⟩, 10), (⟨"ClauseSolver", "firstOfBoth", "(IIJ)I"⟩, 10), (⟨"ClauseSolverModel", "is", "(I)Z"⟩, 9), (⟨"ClauseSolverModel", "search", "(II)I"⟩, 9), (⟨"ClauseSolverModel", "holds", "(II)Z"⟩, 9)]
theorem lw_r1 : ∀ q ∈ lw_privs_1, lw_okq q := List.forall_mem_cons.mpr ⟨lw_p0, List.forall_mem_cons.mpr ⟨lw_p1, List.forall_mem_cons.mpr ⟨lw_p2, List.forall_mem_cons.mpr ⟨lw_p3, List.forall_mem_cons.mpr ⟨lw_p4, List.forall_mem_cons.mpr ⟨lw_p5, List.forall_mem_cons.mpr ⟨lw_p6, List.forall_mem_cons.mpr ⟨lw_p7, List.forall_mem_cons.mpr ⟨lw_p8, List.forall_mem_cons.mpr ⟨lw_p9, List.forall_mem_cons.mpr ⟨lw_p10, List.forall_mem_cons.mpr ⟨lw_p11, List.forall_mem_cons.mpr ⟨lw_p12, fun _ h => absurd h List.not_mem_nil⟩⟩⟩⟩⟩⟩⟩⟩⟩⟩⟩⟩⟩
def lw_privs : List (MethodName × Nat) := lw_privs_1
def lw_tbl : List Cond := k2_sels lw_privs ++ tables_1
theorem lw_privs_ok : ∀ q ∈ lw_privs, lw_okq q := lw_r1
end
section
/-! ===== BEGIN words of one list among another's, by their places ===== -/
theorem goodIn_r {big : List Cond} (ws : List Cond) (ps : List Nat) (hp : ws = ps.filterMap (fun i => big[i]?)) (h : ws.all goodWord = true) : GoodIn big ws := by
  intro w hw
  have h1 := List.all_eq_true.mp h w hw
  rw [hp] at hw
  obtain ⟨i, -, hi⟩ := List.mem_filterMap.mp hw
  have hm : w ∈ big := by first | exact List.mem_of_getElem? hi | exact List.getElem?_mem hi
  exact ⟨hm, good_of_word h1⟩
theorem goodIn_app {big a b : List Cond} (ha : GoodIn big a) (hb : GoodIn big b) : GoodIn big (a ++ b) := fun w h => (List.mem_append.mp h).elim (ha w) (hb w)
theorem goodIn_ca {big a b : List Cond} {c : Cond} (ha : GoodIn big (c :: a)) (hb : GoodIn big b) : GoodIn big (c :: (a ++ b)) := fun w h => (List.mem_cons.mp h).elim (fun e => ha w (List.mem_cons.mpr (Or.inl e))) (fun h => (List.mem_append.mp h).elim (fun h => ha w (List.mem_cons.mpr (Or.inr h))) (hb w))
theorem goodIn_sub {big ws : List Cond} (hm : ∀ w ∈ ws, w ∈ big) (h : ws.all goodWord = true) : GoodIn big ws := fun w hw => ⟨hm w hw, good_of_word (List.all_eq_true.mp h w hw)⟩
/-! ===== END ===== -/

/-! ===== BEGIN printed: names, fields, word lists, decode rows ===== -/
def RX0 : String := "ClauseSolver"
def TX0 : u_T := fun k => match k with
  | 0 => ("ClauseSolver", "variables", "I", true)
  | 1 => ("ClauseSolver", "heads", "I", true)
  | 2 => ("ClauseSolver", "wishes", "I", false)
  | 3 => ("ClauseSolver", "madeTrue", "I", false)
  | 4 => ("ClauseSolver", "madeFalse", "I", false)
  | 5 => ("ClauseSolver", "clauses", "I", false)
  | 6 => ("ClauseSolver", "headTrue", "[I", true)
  | 7 => ("ClauseSolver", "headFalse", "[I", true)
  | 8 => ("ClauseSolver", "depths", "[I", true)
  | _ => ("ClauseSolver", "tails", "[J", true)
def tyX0 : Nat → FieldType := fun k => match k with
  | 0 => .int
  | 1 => .int
  | 2 => .int
  | 3 => .int
  | 4 => .int
  | 5 => .int
  | 6 => .array .int
  | 7 => .array .int
  | 8 => .array .int
  | _ => .array .long
abbrev wsX00 : List Cond := u_ws RX0 TX0 10
theorem nmX0 : ∀ a, a < 10 → ∀ b, b < 10 → a ≠ b → (TX0 a).2.1 ≠ (TX0 b).2.1 := by decide +kernel
theorem tyX0_ok : ∀ k, k < 10 → parseFieldDescriptor (TX0 k).2.2.1 = some (tyX0 k) := by decide +kernel
abbrev cX0_init : ByteArray := prog_1_method_1_code
def yX0_init : MethodName := ⟨RX0, "<init>", "(I)V"⟩
abbrev cX0_wish : ByteArray := prog_1_method_2_code
def yX0_wish : MethodName := ⟨RX0, "wish", "(IZ)Z"⟩
abbrev cX0_literal : ByteArray := prog_1_method_3_code
def yX0_literal : MethodName := ⟨RX0, "literal", "(IZ)I"⟩
abbrev cX0_clause : ByteArray := prog_1_method_4_code
def yX0_clause : MethodName := ⟨RX0, "clause", "()I"⟩
abbrev cX0_some : ByteArray := prog_1_method_5_code
def yX0_some : MethodName := ⟨RX0, "some", "(II)I"⟩
abbrev cX0_drop : ByteArray := prog_1_method_6_code
def yX0_drop : MethodName := ⟨RX0, "drop", "(I)I"⟩
abbrev cX0_solve : ByteArray := prog_1_method_7_code
def yX0_solve : MethodName := ⟨RX0, "solve", "()Z"⟩
abbrev cX0_answer : ByteArray := prog_1_method_8_code
def yX0_answer : MethodName := ⟨RX0, "answer", "()I"⟩
abbrev cX0_count : ByteArray := prog_1_method_9_code
def yX0_count : MethodName := ⟨RX0, "count", "(I)I"⟩
abbrev cX0_isVariable : ByteArray := prog_1_method_10_code
def yX0_isVariable : MethodName := ⟨RX0, "isVariable", "(I)Z"⟩
abbrev cX0_has : ByteArray := prog_1_method_11_code
def yX0_has : MethodName := ⟨RX0, "has", "(II)Z"⟩
abbrev cX0_lowBits : ByteArray := prog_1_method_12_code
def yX0_lowBits : MethodName := ⟨RX0, "lowBits", "(I)I"⟩
abbrev cX0_namedByMadeUp : ByteArray := prog_1_method_13_code
def yX0_namedByMadeUp : MethodName := ⟨RX0, "namedByMadeUp", "()I"⟩
abbrev cX0_append : ByteArray := prog_1_method_14_code
def yX0_append : MethodName := ⟨RX0, "append", "(II)I"⟩
abbrev cX0_depthOf : ByteArray := prog_1_method_15_code
def yX0_depthOf : MethodName := ⟨RX0, "depthOf", "(I)I"⟩
abbrev cX0_tailsThatMeet : ByteArray := prog_1_method_16_code
def yX0_tailsThatMeet : MethodName := ⟨RX0, "tailsThatMeet", "(II)J"⟩
abbrev cX0_firstAnswer : ByteArray := prog_1_method_17_code
def yX0_firstAnswer : MethodName := ⟨RX0, "firstAnswer", "()I"⟩
abbrev cX0_firstBelow : ByteArray := prog_1_method_18_code
def yX0_firstBelow : MethodName := ⟨RX0, "firstBelow", "(IIJ)I"⟩
abbrev cX0_firstOfBoth : ByteArray := prog_1_method_19_code
def yX0_firstOfBoth : MethodName := ⟨RX0, "firstOfBoth", "(IIJ)I"⟩
abbrev cX0_narrowed : ByteArray := prog_1_method_20_code
def yX0_narrowed : MethodName := ⟨RX0, "narrowed", "(IIJ)J"⟩
abbrev cX0_headMeets : ByteArray := prog_1_method_21_code
def yX0_headMeets : MethodName := ⟨RX0, "headMeets", "(II)Z"⟩
abbrev cX0_firstTail : ByteArray := prog_1_method_22_code
def yX0_firstTail : MethodName := ⟨RX0, "firstTail", "(J)I"⟩
def RX1 : String := "ClauseSolverModel"
def TX1 : u_T := fun k => match k with
  | 0 => ("ClauseSolverModel", "variables", "I", true)
  | 1 => ("ClauseSolverModel", "wish", "[Z", true)
  | 2 => ("ClauseSolverModel", "yes", "[I", true)
  | 3 => ("ClauseSolverModel", "no", "[I", true)
  | 4 => ("ClauseSolverModel", "count", "I", false)
  | 5 => ("ClauseSolverModel", "ownYes", "I", false)
  | 6 => ("ClauseSolverModel", "ownNo", "I", false)
  | 7 => ("ClauseSolverModel", "found", "I", false)
  | _ => ("ClauseSolverModel", "known", "Z", false)
def tyX1 : Nat → FieldType := fun k => match k with
  | 0 => .int
  | 1 => .array .boolean
  | 2 => .array .int
  | 3 => .array .int
  | 4 => .int
  | 5 => .int
  | 6 => .int
  | 7 => .int
  | _ => .boolean
abbrev wsX10 : List Cond := u_ws RX1 TX1 9
theorem nmX1 : ∀ a, a < 9 → ∀ b, b < 9 → a ≠ b → (TX1 a).2.1 ≠ (TX1 b).2.1 := by decide +kernel
theorem tyX1_ok : ∀ k, k < 9 → parseFieldDescriptor (TX1 k).2.2.1 = some (tyX1 k) := by decide +kernel
abbrev cX1_init : ByteArray := prog_3_method_1_code
def yX1_init : MethodName := ⟨RX1, "<init>", "(I)V"⟩
abbrev cX1_is : ByteArray := prog_3_method_2_code
def yX1_is : MethodName := ⟨RX1, "is", "(I)Z"⟩
abbrev cX1_wish : ByteArray := prog_3_method_3_code
def yX1_wish : MethodName := ⟨RX1, "wish", "(IZ)Z"⟩
abbrev cX1_bits : ByteArray := prog_3_method_4_code
def yX1_bits : MethodName := ⟨RX1, "bits", "(I)I"⟩
abbrev cX1_literal : ByteArray := prog_3_method_5_code
def yX1_literal : MethodName := ⟨RX1, "literal", "(IZ)I"⟩
abbrev cX1_clause : ByteArray := prog_3_method_6_code
def yX1_clause : MethodName := ⟨RX1, "clause", "()I"⟩
abbrev cX1_some : ByteArray := prog_3_method_7_code
def yX1_some : MethodName := ⟨RX1, "some", "(II)I"⟩
abbrev cX1_drop : ByteArray := prog_3_method_8_code
def yX1_drop : MethodName := ⟨RX1, "drop", "(I)I"⟩
abbrev cX1_holds : ByteArray := prog_3_method_9_code
def yX1_holds : MethodName := ⟨RX1, "holds", "(II)Z"⟩
abbrev cX1_search : ByteArray := prog_3_method_10_code
def yX1_search : MethodName := ⟨RX1, "search", "(II)I"⟩
abbrev cX1_answer : ByteArray := prog_3_method_11_code
def yX1_answer : MethodName := ⟨RX1, "answer", "()I"⟩
abbrev cX1_solve : ByteArray := prog_3_method_12_code
def yX1_solve : MethodName := ⟨RX1, "solve", "()Z"⟩
abbrev cX1_count : ByteArray := prog_3_method_13_code
def yX1_count : MethodName := ⟨RX1, "count", "(I)I"⟩
def RJ6 : String := "java/lang/Integer"
def TJ6 : u_T := fun k => match k with
  | _ => ("", "", "", false)
def tyJ6 : Nat → FieldType := fun k => match k with
  | _ => .int
abbrev wsJ60 : List Cond := u_ws RJ6 TJ6 0
theorem nmJ6 : ∀ a, a < 0 → ∀ b, b < 0 → a ≠ b → (TJ6 a).2.1 ≠ (TJ6 b).2.1 := by decide +kernel
theorem tyJ6_ok : ∀ k, k < 0 → parseFieldDescriptor (TJ6 k).2.2.1 = some (tyJ6 k) := by decide +kernel
abbrev cJ6_bitCount_0f7a4 : ByteArray := prog_4_method_49_code
def yJ6_bitCount_0f7a4 : MethodName := ⟨RJ6, "bitCount", "(I)I"⟩
def RJ9 : String := "java/lang/Math"
def TJ9 : u_T := fun k => match k with
  | _ => ("", "", "", false)
def tyJ9 : Nat → FieldType := fun k => match k with
  | _ => .int
abbrev wsJ90 : List Cond := u_ws RJ9 TJ9 0
theorem nmJ9 : ∀ a, a < 0 → ∀ b, b < 0 → a ≠ b → (TJ9 a).2.1 ≠ (TJ9 b).2.1 := by decide +kernel
theorem tyJ9_ok : ∀ k, k < 0 → parseFieldDescriptor (TJ9 k).2.2.1 = some (tyJ9 k) := by decide +kernel
abbrev cJ9_max_7cf53 : ByteArray := prog_5_method_65_code
def yJ9_max_7cf53 : MethodName := ⟨RJ9, "max", "(II)I"⟩
abbrev cJ9_min_7cf53 : ByteArray := prog_5_method_69_code
def yJ9_min_7cf53 : MethodName := ⟨RJ9, "min", "(II)I"⟩
def RL : String := "ClauseSolverLaw"
abbrev cL_cell : ByteArray := method_2_code
def yL_cell : MethodName := ⟨RL, "cell", "([II)I"⟩
abbrev cL_law : ByteArray := code
def yL_law : MethodName := ⟨RL, "law", "([I)Z"⟩
def wsX0_init : List Cond := .code yX0_init cX0_init 2 none :: ([.methodLink RX0 1 objectInit, .instanceMethod objectInit, .code objectInit ⟨#[0xb1]⟩ 1 none, .methodLink RX0 9 Lib.Math.min.name, .static Lib.Math.min.name, .initialized "java/lang/Math", .code Lib.Math.min.name Lib.Math.min.code 2 (some .int), .methodLink RX0 15 Lib.Math.max.name, .static Lib.Math.max.name, .code Lib.Math.max.name Lib.Math.max.code 2 (some .int), .fieldLink RX0 18 "ClauseSolver" "variables" "I", .fieldLink RX0 22 "ClauseSolver" "heads" "I", .arrayClass .int, .fieldLink RX0 25 "ClauseSolver" "headTrue" "[I", .fieldLink RX0 29 "ClauseSolver" "headFalse" "[I", .fieldLink RX0 32 "ClauseSolver" "depths" "[I", .arrayClass .long, .fieldLink RX0 35 "ClauseSolver" "tails" "[J"] ++ wsX00)
def wsX0_isVariable : List Cond := .code yX0_isVariable cX0_isVariable 2 (some .boolean) :: ([.fieldLink RX0 18 "ClauseSolver" "variables" "I"] ++ wsX00)
def wsX0_has : List Cond := .code yX0_has cX0_has 2 (some .boolean) :: ([])
def wsX0_wish : List Cond := .code yX0_wish cX0_wish 4 (some .boolean) :: ([.fieldLink RX0 43 "ClauseSolver" "wishes" "I", .methodLink RX0 39 yX0_isVariable, .instanceMethod yX0_isVariable, .selects RX0 yX0_isVariable yX0_isVariable, .initialized RX0, .code yX0_isVariable cX0_isVariable 2 (some .boolean), .fieldLink RX0 18 "ClauseSolver" "variables" "I", .methodLink RX0 46 yX0_has, .static yX0_has, .code yX0_has cX0_has 2 (some .boolean)] ++ wsX00)
def wsJ6_bitCount_0f7a4 : List Cond := .code yJ6_bitCount_0f7a4 cJ6_bitCount_0f7a4 1 (some .int) :: ([.constant RJ6 265 (1431655765), .constant RJ6 266 (858993459), .constant RJ6 267 (252645135)])
def wsX0_namedByMadeUp : List Cond := .code yX0_namedByMadeUp cX0_namedByMadeUp 1 (some .int) :: ([.fieldLink RX0 50 "ClauseSolver" "madeTrue" "I", .fieldLink RX0 53 "ClauseSolver" "madeFalse" "I", .methodLink RX0 73 yJ6_bitCount_0f7a4, .static yJ6_bitCount_0f7a4, .initialized RJ6, .code yJ6_bitCount_0f7a4 cJ6_bitCount_0f7a4 1 (some .int), .constant RJ6 265 (1431655765), .constant RJ6 266 (858993459), .constant RJ6 267 (252645135)] ++ wsX00)
def wsX0_literal : List Cond := .code yX0_literal cX0_literal 3 (some .int) :: ([.fieldLink RX0 50 "ClauseSolver" "madeTrue" "I", .fieldLink RX0 53 "ClauseSolver" "madeFalse" "I", .methodLink RX0 39 yX0_isVariable, .instanceMethod yX0_isVariable, .selects RX0 yX0_isVariable yX0_isVariable, .initialized RX0, .code yX0_isVariable cX0_isVariable 2 (some .boolean), .fieldLink RX0 18 "ClauseSolver" "variables" "I", .methodLink RX0 56 yX0_namedByMadeUp, .instanceMethod yX0_namedByMadeUp, .selects RX0 yX0_namedByMadeUp yX0_namedByMadeUp, .code yX0_namedByMadeUp cX0_namedByMadeUp 1 (some .int), .methodLink RX0 73 yJ6_bitCount_0f7a4, .static yJ6_bitCount_0f7a4, .initialized RJ6, .code yJ6_bitCount_0f7a4 cJ6_bitCount_0f7a4 1 (some .int), .constant RJ6 265 (1431655765), .constant RJ6 266 (858993459), .constant RJ6 267 (252645135)] ++ wsX00)
def wsX0_lowBits : List Cond := .code yX0_lowBits cX0_lowBits 1 (some .int) :: ([])
def wsX0_depthOf : List Cond := .code yX0_depthOf cX0_depthOf 3 (some .int) :: ([.fieldLink RX0 22 "ClauseSolver" "heads" "I", .methodLink RX0 46 yX0_has, .static yX0_has, .initialized RX0, .code yX0_has cX0_has 2 (some .boolean)] ++ wsX00)
def wsX0_tailsThatMeet : List Cond := .code yX0_tailsThatMeet cX0_tailsThatMeet 5 (some .long) :: ([.fieldLink RX0 85 "ClauseSolver" "TAILS_WITH" "[J", .constantLong RX0 88 (-1), .methodLink RX0 46 yX0_has, .static yX0_has, .initialized RX0, .code yX0_has cX0_has 2 (some .boolean)])
def wsX0_append : List Cond := .code yX0_append cX0_append 4 (some .int) :: ([.fieldLink RX0 67 "ClauseSolver" "clauses" "I", .fieldLink RX0 22 "ClauseSolver" "heads" "I", .fieldLink RX0 25 "ClauseSolver" "headTrue" "[I", .fieldLink RX0 29 "ClauseSolver" "headFalse" "[I", .fieldLink RX0 32 "ClauseSolver" "depths" "[I", .fieldLink RX0 35 "ClauseSolver" "tails" "[J", .methodLink RX0 63 yX0_lowBits, .static yX0_lowBits, .initialized RX0, .code yX0_lowBits cX0_lowBits 1 (some .int), .methodLink RX0 78 yX0_depthOf, .instanceMethod yX0_depthOf, .selects RX0 yX0_depthOf yX0_depthOf, .code yX0_depthOf cX0_depthOf 3 (some .int), .methodLink RX0 46 yX0_has, .static yX0_has, .code yX0_has cX0_has 2 (some .boolean), .methodLink RX0 81 yX0_tailsThatMeet, .static yX0_tailsThatMeet, .code yX0_tailsThatMeet cX0_tailsThatMeet 5 (some .long), .fieldLink RX0 85 "ClauseSolver" "TAILS_WITH" "[J", .constantLong RX0 88 (-1)] ++ wsX00)
def wsX0_clause_r1 : List Cond := [Cond.fieldLink RX0 50 "ClauseSolver" "madeTrue" "I", Cond.fieldLink RX0 53 "ClauseSolver" "madeFalse" "I", Cond.methodLink RX0 60 yX0_append, Cond.instanceMethod yX0_append, Cond.selects RX0 yX0_append yX0_append, Cond.initialized RX0, Cond.code yX0_append cX0_append 4 (some .int), Cond.fieldLink RX0 67 "ClauseSolver" "clauses" "I", Cond.fieldLink RX0 22 "ClauseSolver" "heads" "I", Cond.fieldLink RX0 25 "ClauseSolver" "headTrue" "[I", Cond.fieldLink RX0 29 "ClauseSolver" "headFalse" "[I", Cond.fieldLink RX0 32 "ClauseSolver" "depths" "[I", Cond.fieldLink RX0 35 "ClauseSolver" "tails" "[J", Cond.methodLink RX0 63 yX0_lowBits, Cond.static yX0_lowBits, Cond.code yX0_lowBits cX0_lowBits 1 (some .int), Cond.methodLink RX0 78 yX0_depthOf, Cond.instanceMethod yX0_depthOf, Cond.selects RX0 yX0_depthOf yX0_depthOf, Cond.code yX0_depthOf cX0_depthOf 3 (some .int), Cond.methodLink RX0 46 yX0_has, Cond.static yX0_has, Cond.code yX0_has cX0_has 2 (some .boolean), Cond.methodLink RX0 81 yX0_tailsThatMeet]
def wsX0_clause_r2 : List Cond := [Cond.static yX0_tailsThatMeet, Cond.code yX0_tailsThatMeet cX0_tailsThatMeet 5 (some .long), Cond.fieldLink RX0 85 "ClauseSolver" "TAILS_WITH" "[J", Cond.constantLong RX0 88 (-1)]
def wsX0_clause : List Cond := .code yX0_clause cX0_clause 2 (some .int) :: ((wsX0_clause_r1 ++ wsX0_clause_r2) ++ wsX00)
def wsX0_some_r1 : List Cond := [Cond.fieldLink RX0 18 "ClauseSolver" "variables" "I", Cond.methodLink RX0 63 yX0_lowBits, Cond.static yX0_lowBits, Cond.initialized RX0, Cond.code yX0_lowBits cX0_lowBits 1 (some .int), Cond.methodLink RX0 60 yX0_append, Cond.instanceMethod yX0_append, Cond.selects RX0 yX0_append yX0_append, Cond.code yX0_append cX0_append 4 (some .int), Cond.fieldLink RX0 67 "ClauseSolver" "clauses" "I", Cond.fieldLink RX0 22 "ClauseSolver" "heads" "I", Cond.fieldLink RX0 25 "ClauseSolver" "headTrue" "[I", Cond.fieldLink RX0 29 "ClauseSolver" "headFalse" "[I", Cond.fieldLink RX0 32 "ClauseSolver" "depths" "[I", Cond.fieldLink RX0 35 "ClauseSolver" "tails" "[J", Cond.methodLink RX0 78 yX0_depthOf, Cond.instanceMethod yX0_depthOf, Cond.selects RX0 yX0_depthOf yX0_depthOf, Cond.code yX0_depthOf cX0_depthOf 3 (some .int), Cond.methodLink RX0 46 yX0_has, Cond.static yX0_has, Cond.code yX0_has cX0_has 2 (some .boolean), Cond.methodLink RX0 81 yX0_tailsThatMeet, Cond.static yX0_tailsThatMeet]
def wsX0_some_r2 : List Cond := [Cond.code yX0_tailsThatMeet cX0_tailsThatMeet 5 (some .long), Cond.fieldLink RX0 85 "ClauseSolver" "TAILS_WITH" "[J", Cond.constantLong RX0 88 (-1)]
def wsX0_some : List Cond := .code yX0_some cX0_some 4 (some .int) :: ((wsX0_some_r1 ++ wsX0_some_r2) ++ wsX00)
def wsX0_drop : List Cond := .code yX0_drop cX0_drop 2 (some .int) :: ([.fieldLink RX0 67 "ClauseSolver" "clauses" "I", .fieldLink RX0 25 "ClauseSolver" "headTrue" "[I", .fieldLink RX0 29 "ClauseSolver" "headFalse" "[I", .fieldLink RX0 32 "ClauseSolver" "depths" "[I", .fieldLink RX0 35 "ClauseSolver" "tails" "[J"] ++ wsX00)
def wsX0_headMeets : List Cond := .code yX0_headMeets cX0_headMeets 3 (some .boolean) :: ([.fieldLink RX0 25 "ClauseSolver" "headTrue" "[I", .fieldLink RX0 29 "ClauseSolver" "headFalse" "[I"] ++ wsX00)
def wsX0_narrowed : List Cond := .code yX0_narrowed cX0_narrowed 8 (some .long) :: ([.fieldLink RX0 67 "ClauseSolver" "clauses" "I", .fieldLink RX0 32 "ClauseSolver" "depths" "[I", .fieldLink RX0 35 "ClauseSolver" "tails" "[J", .methodLink RX0 105 yX0_headMeets, .instanceMethod yX0_headMeets, .selects RX0 yX0_headMeets yX0_headMeets, .initialized RX0, .code yX0_headMeets cX0_headMeets 3 (some .boolean), .fieldLink RX0 25 "ClauseSolver" "headTrue" "[I", .fieldLink RX0 29 "ClauseSolver" "headFalse" "[I"] ++ wsX00)
def wsX0_firstTail : List Cond := .code yX0_firstTail cX0_firstTail 13 (some .int) :: ([.fieldLink RX0 85 "ClauseSolver" "TAILS_WITH" "[J", .constantLong RX0 88 (-1), .fieldLink RX0 43 "ClauseSolver" "wishes" "I", .fieldLink RX0 22 "ClauseSolver" "heads" "I", .methodLink RX0 46 yX0_has, .static yX0_has, .initialized RX0, .code yX0_has cX0_has 2 (some .boolean)] ++ wsX00)
def wsX0_firstBelow_r1 : List Cond := [Cond.fieldLink RX0 22 "ClauseSolver" "heads" "I", Cond.methodLink RX0 94 yX0_narrowed, Cond.instanceMethod yX0_narrowed, Cond.selects RX0 yX0_narrowed yX0_narrowed, Cond.initialized RX0, Cond.code yX0_narrowed cX0_narrowed 8 (some .long), Cond.fieldLink RX0 67 "ClauseSolver" "clauses" "I", Cond.fieldLink RX0 32 "ClauseSolver" "depths" "[I", Cond.fieldLink RX0 35 "ClauseSolver" "tails" "[J", Cond.methodLink RX0 105 yX0_headMeets, Cond.instanceMethod yX0_headMeets, Cond.selects RX0 yX0_headMeets yX0_headMeets, Cond.code yX0_headMeets cX0_headMeets 3 (some .boolean), Cond.fieldLink RX0 25 "ClauseSolver" "headTrue" "[I", Cond.fieldLink RX0 29 "ClauseSolver" "headFalse" "[I", Cond.methodLink RX0 98 yX0_firstTail, Cond.instanceMethod yX0_firstTail, Cond.selects RX0 yX0_firstTail yX0_firstTail, Cond.code yX0_firstTail cX0_firstTail 13 (some .int), Cond.fieldLink RX0 85 "ClauseSolver" "TAILS_WITH" "[J", Cond.constantLong RX0 88 (-1), Cond.fieldLink RX0 43 "ClauseSolver" "wishes" "I", Cond.methodLink RX0 46 yX0_has, Cond.static yX0_has]
def wsX0_firstBelow_r2 : List Cond := [Cond.code yX0_has cX0_has 2 (some .boolean), Cond.methodLink RX0 102 yX0_firstOfBoth, Cond.instanceMethod yX0_firstOfBoth, Cond.selects RX0 yX0_firstOfBoth yX0_firstOfBoth, Cond.code yX0_firstOfBoth cX0_firstOfBoth 8 (some .int), Cond.methodLink RX0 90 yX0_firstBelow, Cond.instanceMethod yX0_firstBelow, Cond.selects RX0 yX0_firstBelow yX0_firstBelow]
def wsX0_firstBelow : List Cond := .code yX0_firstBelow cX0_firstBelow 7 (some .int) :: ((wsX0_firstBelow_r1 ++ wsX0_firstBelow_r2) ++ wsX00)
def wsX0_firstOfBoth_r1 : List Cond := [Cond.fieldLink RX0 43 "ClauseSolver" "wishes" "I", Cond.methodLink RX0 90 yX0_firstBelow, Cond.instanceMethod yX0_firstBelow, Cond.selects RX0 yX0_firstBelow yX0_firstBelow, Cond.initialized RX0, Cond.code yX0_firstBelow cX0_firstBelow 7 (some .int), Cond.fieldLink RX0 22 "ClauseSolver" "heads" "I", Cond.methodLink RX0 94 yX0_narrowed, Cond.instanceMethod yX0_narrowed, Cond.selects RX0 yX0_narrowed yX0_narrowed, Cond.code yX0_narrowed cX0_narrowed 8 (some .long), Cond.fieldLink RX0 67 "ClauseSolver" "clauses" "I", Cond.fieldLink RX0 32 "ClauseSolver" "depths" "[I", Cond.fieldLink RX0 35 "ClauseSolver" "tails" "[J", Cond.methodLink RX0 105 yX0_headMeets, Cond.instanceMethod yX0_headMeets, Cond.selects RX0 yX0_headMeets yX0_headMeets, Cond.code yX0_headMeets cX0_headMeets 3 (some .boolean), Cond.fieldLink RX0 25 "ClauseSolver" "headTrue" "[I", Cond.fieldLink RX0 29 "ClauseSolver" "headFalse" "[I", Cond.methodLink RX0 98 yX0_firstTail, Cond.instanceMethod yX0_firstTail, Cond.selects RX0 yX0_firstTail yX0_firstTail, Cond.code yX0_firstTail cX0_firstTail 13 (some .int)]
def wsX0_firstOfBoth_r2 : List Cond := [Cond.fieldLink RX0 85 "ClauseSolver" "TAILS_WITH" "[J", Cond.constantLong RX0 88 (-1), Cond.methodLink RX0 46 yX0_has, Cond.static yX0_has, Cond.code yX0_has cX0_has 2 (some .boolean), Cond.methodLink RX0 102 yX0_firstOfBoth, Cond.instanceMethod yX0_firstOfBoth, Cond.selects RX0 yX0_firstOfBoth yX0_firstOfBoth]
def wsX0_firstOfBoth : List Cond := .code yX0_firstOfBoth cX0_firstOfBoth 8 (some .int) :: ((wsX0_firstOfBoth_r1 ++ wsX0_firstOfBoth_r2) ++ wsX00)
def wsX0_firstAnswer_r1 : List Cond := [Cond.constantLong RX0 88 (-1), Cond.methodLink RX0 90 yX0_firstBelow, Cond.instanceMethod yX0_firstBelow, Cond.selects RX0 yX0_firstBelow yX0_firstBelow, Cond.initialized RX0, Cond.code yX0_firstBelow cX0_firstBelow 7 (some .int), Cond.fieldLink RX0 22 "ClauseSolver" "heads" "I", Cond.methodLink RX0 94 yX0_narrowed, Cond.instanceMethod yX0_narrowed, Cond.selects RX0 yX0_narrowed yX0_narrowed, Cond.code yX0_narrowed cX0_narrowed 8 (some .long), Cond.fieldLink RX0 67 "ClauseSolver" "clauses" "I", Cond.fieldLink RX0 32 "ClauseSolver" "depths" "[I", Cond.fieldLink RX0 35 "ClauseSolver" "tails" "[J", Cond.methodLink RX0 105 yX0_headMeets, Cond.instanceMethod yX0_headMeets, Cond.selects RX0 yX0_headMeets yX0_headMeets, Cond.code yX0_headMeets cX0_headMeets 3 (some .boolean), Cond.fieldLink RX0 25 "ClauseSolver" "headTrue" "[I", Cond.fieldLink RX0 29 "ClauseSolver" "headFalse" "[I", Cond.methodLink RX0 98 yX0_firstTail, Cond.instanceMethod yX0_firstTail, Cond.selects RX0 yX0_firstTail yX0_firstTail, Cond.code yX0_firstTail cX0_firstTail 13 (some .int)]
def wsX0_firstAnswer_r2 : List Cond := [Cond.fieldLink RX0 85 "ClauseSolver" "TAILS_WITH" "[J", Cond.fieldLink RX0 43 "ClauseSolver" "wishes" "I", Cond.methodLink RX0 46 yX0_has, Cond.static yX0_has, Cond.code yX0_has cX0_has 2 (some .boolean), Cond.methodLink RX0 102 yX0_firstOfBoth, Cond.instanceMethod yX0_firstOfBoth, Cond.selects RX0 yX0_firstOfBoth yX0_firstOfBoth, Cond.code yX0_firstOfBoth cX0_firstOfBoth 8 (some .int)]
def wsX0_firstAnswer : List Cond := .code yX0_firstAnswer cX0_firstAnswer 1 (some .int) :: ((wsX0_firstAnswer_r1 ++ wsX0_firstAnswer_r2) ++ wsX00)
def wsX0_solve_r1 : List Cond := [Cond.methodLink RX0 70 yX0_firstAnswer, Cond.instanceMethod yX0_firstAnswer, Cond.selects RX0 yX0_firstAnswer yX0_firstAnswer, Cond.initialized RX0, Cond.code yX0_firstAnswer cX0_firstAnswer 1 (some .int), Cond.constantLong RX0 88 (-1), Cond.methodLink RX0 90 yX0_firstBelow, Cond.instanceMethod yX0_firstBelow, Cond.selects RX0 yX0_firstBelow yX0_firstBelow, Cond.code yX0_firstBelow cX0_firstBelow 7 (some .int), Cond.fieldLink RX0 22 "ClauseSolver" "heads" "I", Cond.methodLink RX0 94 yX0_narrowed, Cond.instanceMethod yX0_narrowed, Cond.selects RX0 yX0_narrowed yX0_narrowed, Cond.code yX0_narrowed cX0_narrowed 8 (some .long), Cond.fieldLink RX0 67 "ClauseSolver" "clauses" "I", Cond.fieldLink RX0 32 "ClauseSolver" "depths" "[I", Cond.fieldLink RX0 35 "ClauseSolver" "tails" "[J", Cond.methodLink RX0 105 yX0_headMeets, Cond.instanceMethod yX0_headMeets, Cond.selects RX0 yX0_headMeets yX0_headMeets, Cond.code yX0_headMeets cX0_headMeets 3 (some .boolean), Cond.fieldLink RX0 25 "ClauseSolver" "headTrue" "[I", Cond.fieldLink RX0 29 "ClauseSolver" "headFalse" "[I"]
def wsX0_solve_r2 : List Cond := [Cond.methodLink RX0 98 yX0_firstTail, Cond.instanceMethod yX0_firstTail, Cond.selects RX0 yX0_firstTail yX0_firstTail, Cond.code yX0_firstTail cX0_firstTail 13 (some .int), Cond.fieldLink RX0 85 "ClauseSolver" "TAILS_WITH" "[J", Cond.fieldLink RX0 43 "ClauseSolver" "wishes" "I", Cond.methodLink RX0 46 yX0_has, Cond.static yX0_has, Cond.code yX0_has cX0_has 2 (some .boolean), Cond.methodLink RX0 102 yX0_firstOfBoth, Cond.instanceMethod yX0_firstOfBoth, Cond.selects RX0 yX0_firstOfBoth yX0_firstOfBoth, Cond.code yX0_firstOfBoth cX0_firstOfBoth 8 (some .int)]
def wsX0_solve : List Cond := .code yX0_solve cX0_solve 1 (some .boolean) :: ((wsX0_solve_r1 ++ wsX0_solve_r2) ++ wsX00)
def wsX0_answer_r1 : List Cond := [Cond.methodLink RX0 70 yX0_firstAnswer, Cond.instanceMethod yX0_firstAnswer, Cond.selects RX0 yX0_firstAnswer yX0_firstAnswer, Cond.initialized RX0, Cond.code yX0_firstAnswer cX0_firstAnswer 1 (some .int), Cond.constantLong RX0 88 (-1), Cond.methodLink RX0 90 yX0_firstBelow, Cond.instanceMethod yX0_firstBelow, Cond.selects RX0 yX0_firstBelow yX0_firstBelow, Cond.code yX0_firstBelow cX0_firstBelow 7 (some .int), Cond.fieldLink RX0 22 "ClauseSolver" "heads" "I", Cond.methodLink RX0 94 yX0_narrowed, Cond.instanceMethod yX0_narrowed, Cond.selects RX0 yX0_narrowed yX0_narrowed, Cond.code yX0_narrowed cX0_narrowed 8 (some .long), Cond.fieldLink RX0 67 "ClauseSolver" "clauses" "I", Cond.fieldLink RX0 32 "ClauseSolver" "depths" "[I", Cond.fieldLink RX0 35 "ClauseSolver" "tails" "[J", Cond.methodLink RX0 105 yX0_headMeets, Cond.instanceMethod yX0_headMeets, Cond.selects RX0 yX0_headMeets yX0_headMeets, Cond.code yX0_headMeets cX0_headMeets 3 (some .boolean), Cond.fieldLink RX0 25 "ClauseSolver" "headTrue" "[I", Cond.fieldLink RX0 29 "ClauseSolver" "headFalse" "[I"]
def wsX0_answer_r2 : List Cond := [Cond.methodLink RX0 98 yX0_firstTail, Cond.instanceMethod yX0_firstTail, Cond.selects RX0 yX0_firstTail yX0_firstTail, Cond.code yX0_firstTail cX0_firstTail 13 (some .int), Cond.fieldLink RX0 85 "ClauseSolver" "TAILS_WITH" "[J", Cond.fieldLink RX0 43 "ClauseSolver" "wishes" "I", Cond.methodLink RX0 46 yX0_has, Cond.static yX0_has, Cond.code yX0_has cX0_has 2 (some .boolean), Cond.methodLink RX0 102 yX0_firstOfBoth, Cond.instanceMethod yX0_firstOfBoth, Cond.selects RX0 yX0_firstOfBoth yX0_firstOfBoth, Cond.code yX0_firstOfBoth cX0_firstOfBoth 8 (some .int)]
def wsX0_answer : List Cond := .code yX0_answer cX0_answer 1 (some .int) :: ((wsX0_answer_r1 ++ wsX0_answer_r2) ++ wsX00)
def wsX0_count : List Cond := .code yX0_count cX0_count 2 (some .int) :: ([.fieldLink RX0 18 "ClauseSolver" "variables" "I", .fieldLink RX0 67 "ClauseSolver" "clauses" "I", .methodLink RX0 56 yX0_namedByMadeUp, .instanceMethod yX0_namedByMadeUp, .selects RX0 yX0_namedByMadeUp yX0_namedByMadeUp, .initialized RX0, .code yX0_namedByMadeUp cX0_namedByMadeUp 1 (some .int), .fieldLink RX0 50 "ClauseSolver" "madeTrue" "I", .fieldLink RX0 53 "ClauseSolver" "madeFalse" "I", .methodLink RX0 73 yJ6_bitCount_0f7a4, .static yJ6_bitCount_0f7a4, .initialized RJ6, .code yJ6_bitCount_0f7a4 cJ6_bitCount_0f7a4 1 (some .int), .constant RJ6 265 (1431655765), .constant RJ6 266 (858993459), .constant RJ6 267 (252645135)] ++ wsX00)
def wsX1_init : List Cond := .code yX1_init cX1_init 2 none :: ([.methodLink RX1 1 objectInit, .instanceMethod objectInit, .code objectInit ⟨#[0xb1]⟩ 1 none, .arrayClass .boolean, .fieldLink RX1 7 "ClauseSolverModel" "wish" "[Z", .arrayClass .int, .fieldLink RX1 13 "ClauseSolverModel" "yes" "[I", .fieldLink RX1 17 "ClauseSolverModel" "no" "[I", .fieldLink RX1 20 "ClauseSolverModel" "variables" "I"] ++ wsX10)
def wsX1_is : List Cond := .code yX1_is cX1_is 2 (some .boolean) :: ([.fieldLink RX1 20 "ClauseSolverModel" "variables" "I"] ++ wsX10)
def wsX1_wish : List Cond := .code yX1_wish cX1_wish 4 (some .boolean) :: ([.fieldLink RX1 7 "ClauseSolverModel" "wish" "[Z", .fieldLink RX1 28 "ClauseSolverModel" "known" "Z", .methodLink RX1 24 yX1_is, .instanceMethod yX1_is, .selects RX1 yX1_is yX1_is, .initialized RX1, .code yX1_is cX1_is 2 (some .boolean), .fieldLink RX1 20 "ClauseSolverModel" "variables" "I"] ++ wsX10)
def wsX1_bits : List Cond := .code yX1_bits cX1_bits 3 (some .int) :: ([])
def wsX1_literal : List Cond := .code yX1_literal cX1_literal 3 (some .int) :: ([.fieldLink RX1 32 "ClauseSolverModel" "ownYes" "I", .fieldLink RX1 35 "ClauseSolverModel" "ownNo" "I", .methodLink RX1 24 yX1_is, .instanceMethod yX1_is, .selects RX1 yX1_is yX1_is, .initialized RX1, .code yX1_is cX1_is 2 (some .boolean), .fieldLink RX1 20 "ClauseSolverModel" "variables" "I", .methodLink RX1 38 yX1_bits, .static yX1_bits, .code yX1_bits cX1_bits 3 (some .int)] ++ wsX10)
def wsX1_some : List Cond := .code yX1_some cX1_some 3 (some .int) :: ([.fieldLink RX1 42 "ClauseSolverModel" "count" "I", .fieldLink RX1 13 "ClauseSolverModel" "yes" "[I", .fieldLink RX1 20 "ClauseSolverModel" "variables" "I", .fieldLink RX1 17 "ClauseSolverModel" "no" "[I", .fieldLink RX1 28 "ClauseSolverModel" "known" "Z"] ++ wsX10)
def wsX1_clause : List Cond := .code yX1_clause cX1_clause 1 (some .int) :: ([.fieldLink RX1 42 "ClauseSolverModel" "count" "I", .fieldLink RX1 32 "ClauseSolverModel" "ownYes" "I", .fieldLink RX1 35 "ClauseSolverModel" "ownNo" "I", .methodLink RX1 45 yX1_some, .instanceMethod yX1_some, .selects RX1 yX1_some yX1_some, .initialized RX1, .code yX1_some cX1_some 3 (some .int), .fieldLink RX1 13 "ClauseSolverModel" "yes" "[I", .fieldLink RX1 20 "ClauseSolverModel" "variables" "I", .fieldLink RX1 17 "ClauseSolverModel" "no" "[I", .fieldLink RX1 28 "ClauseSolverModel" "known" "Z"] ++ wsX10)
def wsX1_drop : List Cond := .code yX1_drop cX1_drop 2 (some .int) :: ([.fieldLink RX1 42 "ClauseSolverModel" "count" "I", .fieldLink RX1 13 "ClauseSolverModel" "yes" "[I", .fieldLink RX1 17 "ClauseSolverModel" "no" "[I", .fieldLink RX1 28 "ClauseSolverModel" "known" "Z"] ++ wsX10)
def wsX1_holds : List Cond := .code yX1_holds cX1_holds 4 (some .boolean) :: ([.fieldLink RX1 42 "ClauseSolverModel" "count" "I", .fieldLink RX1 13 "ClauseSolverModel" "yes" "[I", .fieldLink RX1 17 "ClauseSolverModel" "no" "[I"] ++ wsX10)
def wsX1_search : List Cond := .code yX1_search cX1_search 5 (some .int) :: ([.fieldLink RX1 20 "ClauseSolverModel" "variables" "I", .fieldLink RX1 7 "ClauseSolverModel" "wish" "[Z", .methodLink RX1 49 yX1_holds, .instanceMethod yX1_holds, .selects RX1 yX1_holds yX1_holds, .initialized RX1, .code yX1_holds cX1_holds 4 (some .boolean), .fieldLink RX1 42 "ClauseSolverModel" "count" "I", .fieldLink RX1 13 "ClauseSolverModel" "yes" "[I", .fieldLink RX1 17 "ClauseSolverModel" "no" "[I", .methodLink RX1 53 yX1_search, .instanceMethod yX1_search, .selects RX1 yX1_search yX1_search] ++ wsX10)
def wsX1_answer : List Cond := .code yX1_answer cX1_answer 1 (some .int) :: ([.fieldLink RX1 28 "ClauseSolverModel" "known" "Z", .fieldLink RX1 56 "ClauseSolverModel" "found" "I", .methodLink RX1 53 yX1_search, .instanceMethod yX1_search, .selects RX1 yX1_search yX1_search, .initialized RX1, .code yX1_search cX1_search 5 (some .int), .fieldLink RX1 20 "ClauseSolverModel" "variables" "I", .fieldLink RX1 7 "ClauseSolverModel" "wish" "[Z", .methodLink RX1 49 yX1_holds, .instanceMethod yX1_holds, .selects RX1 yX1_holds yX1_holds, .code yX1_holds cX1_holds 4 (some .boolean), .fieldLink RX1 42 "ClauseSolverModel" "count" "I", .fieldLink RX1 13 "ClauseSolverModel" "yes" "[I", .fieldLink RX1 17 "ClauseSolverModel" "no" "[I"] ++ wsX10)
def wsX1_solve : List Cond := .code yX1_solve cX1_solve 1 (some .boolean) :: ([.methodLink RX1 59 yX1_answer, .instanceMethod yX1_answer, .selects RX1 yX1_answer yX1_answer, .initialized RX1, .code yX1_answer cX1_answer 1 (some .int), .fieldLink RX1 28 "ClauseSolverModel" "known" "Z", .fieldLink RX1 56 "ClauseSolverModel" "found" "I", .methodLink RX1 53 yX1_search, .instanceMethod yX1_search, .selects RX1 yX1_search yX1_search, .code yX1_search cX1_search 5 (some .int), .fieldLink RX1 20 "ClauseSolverModel" "variables" "I", .fieldLink RX1 7 "ClauseSolverModel" "wish" "[Z", .methodLink RX1 49 yX1_holds, .instanceMethod yX1_holds, .selects RX1 yX1_holds yX1_holds, .code yX1_holds cX1_holds 4 (some .boolean), .fieldLink RX1 42 "ClauseSolverModel" "count" "I", .fieldLink RX1 13 "ClauseSolverModel" "yes" "[I", .fieldLink RX1 17 "ClauseSolverModel" "no" "[I"] ++ wsX10)
def wsX1_count : List Cond := .code yX1_count cX1_count 2 (some .int) :: ([.fieldLink RX1 20 "ClauseSolverModel" "variables" "I", .fieldLink RX1 42 "ClauseSolverModel" "count" "I", .fieldLink RX1 32 "ClauseSolverModel" "ownYes" "I", .fieldLink RX1 35 "ClauseSolverModel" "ownNo" "I", .methodLink RX1 38 yX1_bits, .static yX1_bits, .initialized RX1, .code yX1_bits cX1_bits 3 (some .int)] ++ wsX10)
def wsJ9_max_7cf53 : List Cond := .code yJ9_max_7cf53 cJ9_max_7cf53 2 (some .int) :: ([])
def wsJ9_min_7cf53 : List Cond := .code yJ9_min_7cf53 cJ9_min_7cf53 2 (some .int) :: ([])
def wsL_cell : List Cond := .code yL_cell cL_cell 2 (some .int) :: ([])
def wsL_law_r1 : List Cond := [Cond.classLink RL 7 RX0, Cond.instantiable RX0 10, Cond.initialized RX0, Cond.classLink RL 18 RX1, Cond.instantiable RX1 9, Cond.initialized RX1, Cond.methodLink RL 9 yL_cell, Cond.static yL_cell, Cond.initialized RL, Cond.code yL_cell cL_cell 2 (some .int), Cond.methodLink RL 15 yX0_init, Cond.instanceMethod yX0_init, Cond.code yX0_init cX0_init 2 none, Cond.methodLink RX0 1 objectInit, Cond.instanceMethod objectInit, Cond.code objectInit ⟨#[0xb1]⟩ 1 none, Cond.methodLink RX0 9 Lib.Math.min.name, Cond.static Lib.Math.min.name, Cond.initialized "java/lang/Math", Cond.code Lib.Math.min.name Lib.Math.min.code 2 (some .int), Cond.methodLink RX0 15 Lib.Math.max.name, Cond.static Lib.Math.max.name, Cond.code Lib.Math.max.name Lib.Math.max.code 2 (some .int), Cond.fieldLink RX0 18 "ClauseSolver" "variables" "I"]
def wsL_law_r2 : List Cond := [Cond.fieldLink RX0 22 "ClauseSolver" "heads" "I", Cond.arrayClass .int, Cond.fieldLink RX0 25 "ClauseSolver" "headTrue" "[I", Cond.fieldLink RX0 29 "ClauseSolver" "headFalse" "[I", Cond.fieldLink RX0 32 "ClauseSolver" "depths" "[I", Cond.arrayClass .long, Cond.fieldLink RX0 35 "ClauseSolver" "tails" "[J", Cond.methodLink RL 20 yX1_init, Cond.instanceMethod yX1_init, Cond.code yX1_init cX1_init 2 none, Cond.methodLink RX1 1 objectInit, Cond.arrayClass .boolean, Cond.fieldLink RX1 7 "ClauseSolverModel" "wish" "[Z", Cond.fieldLink RX1 13 "ClauseSolverModel" "yes" "[I", Cond.fieldLink RX1 17 "ClauseSolverModel" "no" "[I", Cond.fieldLink RX1 20 "ClauseSolverModel" "variables" "I", Cond.methodLink RL 21 yX0_wish, Cond.instanceMethod yX0_wish, Cond.selects RX0 yX0_wish yX0_wish, Cond.code yX0_wish cX0_wish 4 (some .boolean), Cond.fieldLink RX0 43 "ClauseSolver" "wishes" "I", Cond.methodLink RX0 39 yX0_isVariable, Cond.instanceMethod yX0_isVariable, Cond.selects RX0 yX0_isVariable yX0_isVariable]
def wsL_law_r3 : List Cond := [Cond.code yX0_isVariable cX0_isVariable 2 (some .boolean), Cond.methodLink RX0 46 yX0_has, Cond.static yX0_has, Cond.code yX0_has cX0_has 2 (some .boolean), Cond.methodLink RL 25 yX1_wish, Cond.instanceMethod yX1_wish, Cond.selects RX1 yX1_wish yX1_wish, Cond.code yX1_wish cX1_wish 4 (some .boolean), Cond.fieldLink RX1 28 "ClauseSolverModel" "known" "Z", Cond.methodLink RX1 24 yX1_is, Cond.instanceMethod yX1_is, Cond.selects RX1 yX1_is yX1_is, Cond.code yX1_is cX1_is 2 (some .boolean), Cond.methodLink RL 26 yX0_literal, Cond.instanceMethod yX0_literal, Cond.selects RX0 yX0_literal yX0_literal, Cond.code yX0_literal cX0_literal 3 (some .int), Cond.fieldLink RX0 50 "ClauseSolver" "madeTrue" "I", Cond.fieldLink RX0 53 "ClauseSolver" "madeFalse" "I", Cond.methodLink RX0 56 yX0_namedByMadeUp, Cond.instanceMethod yX0_namedByMadeUp, Cond.selects RX0 yX0_namedByMadeUp yX0_namedByMadeUp, Cond.code yX0_namedByMadeUp cX0_namedByMadeUp 1 (some .int), Cond.methodLink RX0 73 yJ6_bitCount_0f7a4]
def wsL_law_r4 : List Cond := [Cond.static yJ6_bitCount_0f7a4, Cond.initialized RJ6, Cond.code yJ6_bitCount_0f7a4 cJ6_bitCount_0f7a4 1 (some .int), Cond.constant RJ6 265 (1431655765), Cond.constant RJ6 266 (858993459), Cond.constant RJ6 267 (252645135), Cond.methodLink RL 30 yX1_literal, Cond.instanceMethod yX1_literal, Cond.selects RX1 yX1_literal yX1_literal, Cond.code yX1_literal cX1_literal 3 (some .int), Cond.fieldLink RX1 32 "ClauseSolverModel" "ownYes" "I", Cond.fieldLink RX1 35 "ClauseSolverModel" "ownNo" "I", Cond.methodLink RX1 38 yX1_bits, Cond.static yX1_bits, Cond.code yX1_bits cX1_bits 3 (some .int), Cond.methodLink RL 31 yX0_clause, Cond.instanceMethod yX0_clause, Cond.selects RX0 yX0_clause yX0_clause, Cond.code yX0_clause cX0_clause 2 (some .int), Cond.methodLink RX0 60 yX0_append, Cond.instanceMethod yX0_append, Cond.selects RX0 yX0_append yX0_append, Cond.code yX0_append cX0_append 4 (some .int), Cond.fieldLink RX0 67 "ClauseSolver" "clauses" "I"]
def wsL_law_r5 : List Cond := [Cond.methodLink RX0 63 yX0_lowBits, Cond.static yX0_lowBits, Cond.code yX0_lowBits cX0_lowBits 1 (some .int), Cond.methodLink RX0 78 yX0_depthOf, Cond.instanceMethod yX0_depthOf, Cond.selects RX0 yX0_depthOf yX0_depthOf, Cond.code yX0_depthOf cX0_depthOf 3 (some .int), Cond.methodLink RX0 81 yX0_tailsThatMeet, Cond.static yX0_tailsThatMeet, Cond.code yX0_tailsThatMeet cX0_tailsThatMeet 5 (some .long), Cond.fieldLink RX0 85 "ClauseSolver" "TAILS_WITH" "[J", Cond.constantLong RX0 88 (-1), Cond.methodLink RL 35 yX1_clause, Cond.instanceMethod yX1_clause, Cond.selects RX1 yX1_clause yX1_clause, Cond.code yX1_clause cX1_clause 1 (some .int), Cond.fieldLink RX1 42 "ClauseSolverModel" "count" "I", Cond.methodLink RX1 45 yX1_some, Cond.instanceMethod yX1_some, Cond.selects RX1 yX1_some yX1_some, Cond.code yX1_some cX1_some 3 (some .int), Cond.methodLink RL 36 yX0_some, Cond.instanceMethod yX0_some, Cond.selects RX0 yX0_some yX0_some]
def wsL_law_r6 : List Cond := [Cond.code yX0_some cX0_some 4 (some .int), Cond.methodLink RL 40 yX1_some, Cond.methodLink RL 41 yX0_drop, Cond.instanceMethod yX0_drop, Cond.selects RX0 yX0_drop yX0_drop, Cond.code yX0_drop cX0_drop 2 (some .int), Cond.methodLink RL 45 yX1_drop, Cond.instanceMethod yX1_drop, Cond.selects RX1 yX1_drop yX1_drop, Cond.code yX1_drop cX1_drop 2 (some .int), Cond.methodLink RL 46 yX0_solve, Cond.instanceMethod yX0_solve, Cond.selects RX0 yX0_solve yX0_solve, Cond.code yX0_solve cX0_solve 1 (some .boolean), Cond.methodLink RX0 70 yX0_firstAnswer, Cond.instanceMethod yX0_firstAnswer, Cond.selects RX0 yX0_firstAnswer yX0_firstAnswer, Cond.code yX0_firstAnswer cX0_firstAnswer 1 (some .int), Cond.methodLink RX0 90 yX0_firstBelow, Cond.instanceMethod yX0_firstBelow, Cond.selects RX0 yX0_firstBelow yX0_firstBelow, Cond.code yX0_firstBelow cX0_firstBelow 7 (some .int), Cond.methodLink RX0 94 yX0_narrowed, Cond.instanceMethod yX0_narrowed]
def wsL_law_r7 : List Cond := [Cond.selects RX0 yX0_narrowed yX0_narrowed, Cond.code yX0_narrowed cX0_narrowed 8 (some .long), Cond.methodLink RX0 105 yX0_headMeets, Cond.instanceMethod yX0_headMeets, Cond.selects RX0 yX0_headMeets yX0_headMeets, Cond.code yX0_headMeets cX0_headMeets 3 (some .boolean), Cond.methodLink RX0 98 yX0_firstTail, Cond.instanceMethod yX0_firstTail, Cond.selects RX0 yX0_firstTail yX0_firstTail, Cond.code yX0_firstTail cX0_firstTail 13 (some .int), Cond.methodLink RX0 102 yX0_firstOfBoth, Cond.instanceMethod yX0_firstOfBoth, Cond.selects RX0 yX0_firstOfBoth yX0_firstOfBoth, Cond.code yX0_firstOfBoth cX0_firstOfBoth 8 (some .int), Cond.methodLink RL 50 yX1_solve, Cond.instanceMethod yX1_solve, Cond.selects RX1 yX1_solve yX1_solve, Cond.code yX1_solve cX1_solve 1 (some .boolean), Cond.methodLink RX1 59 yX1_answer, Cond.instanceMethod yX1_answer, Cond.selects RX1 yX1_answer yX1_answer, Cond.code yX1_answer cX1_answer 1 (some .int), Cond.fieldLink RX1 56 "ClauseSolverModel" "found" "I", Cond.methodLink RX1 53 yX1_search]
def wsL_law_r8 : List Cond := [Cond.instanceMethod yX1_search, Cond.selects RX1 yX1_search yX1_search, Cond.code yX1_search cX1_search 5 (some .int), Cond.methodLink RX1 49 yX1_holds, Cond.instanceMethod yX1_holds, Cond.selects RX1 yX1_holds yX1_holds, Cond.code yX1_holds cX1_holds 4 (some .boolean), Cond.methodLink RL 51 yX0_answer, Cond.instanceMethod yX0_answer, Cond.selects RX0 yX0_answer yX0_answer, Cond.code yX0_answer cX0_answer 1 (some .int), Cond.methodLink RL 54 yX1_answer, Cond.methodLink RL 55 yX0_count, Cond.instanceMethod yX0_count, Cond.selects RX0 yX0_count yX0_count, Cond.code yX0_count cX0_count 2 (some .int), Cond.methodLink RL 58 yX1_count, Cond.instanceMethod yX1_count, Cond.selects RX1 yX1_count yX1_count, Cond.code yX1_count cX1_count 2 (some .int)]
def wsL_law : List Cond := (wsL_law_r1 ++ (wsL_law_r2 ++ (wsL_law_r3 ++ (wsL_law_r4 ++ (wsL_law_r5 ++ (wsL_law_r6 ++ (wsL_law_r7 ++ wsL_law_r8))))))) ++ wsX00 ++ wsX10 ++ ([] : List Cond)
set_option maxRecDepth 20000 in
theorem wsL_law_in : ∀ w ∈ wsL_law, w ∈ lw_tbl := fun w h => (goodIn_p wsL_law [157, 22, 25, 28, 31, 162, 68, 72, 75, 196, 200, 79, 83, 86, 204, 207, 93, 97, 100, 104, 107, 211, 215, 114, 118, 220, 122, 126, 130, 134, 138, 142, 146, 236, 224, 228, 232, 150, 154, 241] (by decide +kernel) (by decide +kernel) w h).1
theorem inlX0 : ∀ w ∈ wsX00, w ∈ wsL_law := fun _ h => List.mem_append_left _ (List.mem_append_left _ (List.mem_append_right _ h))
theorem inX0 : ∀ w ∈ wsX00, w ∈ lw_tbl := fun w h => wsL_law_in w (inlX0 w h)
theorem inlX1 : ∀ w ∈ wsX10, w ∈ wsL_law := fun _ h => List.mem_append_left _ (List.mem_append_right _ h)
theorem inX1 : ∀ w ∈ wsX10, w ∈ lw_tbl := fun w h => wsL_law_in w (inlX1 w h)
theorem inJ6 : ∀ w ∈ wsJ60, w ∈ lw_tbl := by decide +kernel
theorem inJ9 : ∀ w ∈ wsJ90, w ∈ lw_tbl := by decide +kernel
theorem dX0_init_0 : decode cX0_init 0 = .ok (.aload_n 0, 1) := by decide +kernel
theorem dX0_init_1 : decode cX0_init 1 = .ok (.invokespecial 1, 3) := by decide +kernel
theorem dX0_init_4 : decode cX0_init 4 = .ok (.aload_n 0, 1) := by decide +kernel
theorem dX0_init_5 : decode cX0_init 5 = .ok (.iconst 1, 1) := by decide +kernel
theorem dX0_init_6 : decode cX0_init 6 = .ok (.bipush 16, 2) := by decide +kernel
theorem dX0_init_8 : decode cX0_init 8 = .ok (.iload_n 1, 1) := by decide +kernel
theorem dX0_init_9 : decode cX0_init 9 = .ok (.invokestatic 9, 3) := by decide +kernel
theorem dX0_init_12 : decode cX0_init 12 = .ok (.invokestatic 15, 3) := by decide +kernel
theorem dX0_init_15 : decode cX0_init 15 = .ok (.putfield 18, 3) := by decide +kernel
theorem dX0_init_18 : decode cX0_init 18 = .ok (.aload_n 0, 1) := by decide +kernel
theorem dX0_init_19 : decode cX0_init 19 = .ok (.iconst 0, 1) := by decide +kernel
theorem dX0_init_20 : decode cX0_init 20 = .ok (.aload_n 0, 1) := by decide +kernel
theorem dX0_init_21 : decode cX0_init 21 = .ok (.getfield 18, 3) := by decide +kernel
theorem dX0_init_24 : decode cX0_init 24 = .ok (.bipush 6, 2) := by decide +kernel
theorem dX0_init_26 : decode cX0_init 26 = .ok (.isub, 1) := by decide +kernel
theorem dX0_init_27 : decode cX0_init 27 = .ok (.invokestatic 15, 3) := by decide +kernel
theorem dX0_init_30 : decode cX0_init 30 = .ok (.putfield 22, 3) := by decide +kernel
theorem dX0_init_33 : decode cX0_init 33 = .ok (.aload_n 0, 1) := by decide +kernel
theorem dX0_init_34 : decode cX0_init 34 = .ok (.sipush 400, 3) := by decide +kernel
theorem dX0_init_37 : decode cX0_init 37 = .ok (.newarray .int, 2) := by decide +kernel
theorem dX0_init_39 : decode cX0_init 39 = .ok (.putfield 25, 3) := by decide +kernel
theorem dX0_init_42 : decode cX0_init 42 = .ok (.aload_n 0, 1) := by decide +kernel
theorem dX0_init_43 : decode cX0_init 43 = .ok (.sipush 400, 3) := by decide +kernel
theorem dX0_init_46 : decode cX0_init 46 = .ok (.newarray .int, 2) := by decide +kernel
theorem dX0_init_48 : decode cX0_init 48 = .ok (.putfield 29, 3) := by decide +kernel
theorem dX0_init_51 : decode cX0_init 51 = .ok (.aload_n 0, 1) := by decide +kernel
theorem dX0_init_52 : decode cX0_init 52 = .ok (.sipush 400, 3) := by decide +kernel
theorem dX0_init_55 : decode cX0_init 55 = .ok (.newarray .int, 2) := by decide +kernel
theorem dX0_init_57 : decode cX0_init 57 = .ok (.putfield 32, 3) := by decide +kernel
theorem dX0_init_60 : decode cX0_init 60 = .ok (.aload_n 0, 1) := by decide +kernel
theorem dX0_init_61 : decode cX0_init 61 = .ok (.sipush 400, 3) := by decide +kernel
theorem dX0_init_64 : decode cX0_init 64 = .ok (.newarray .long, 2) := by decide +kernel
theorem dX0_init_66 : decode cX0_init 66 = .ok (.putfield 35, 3) := by decide +kernel
theorem dX0_init_69 : decode cX0_init 69 = .ok (.return_, 1) := by decide +kernel
set_option maxRecDepth 20000 in
theorem ggX0_wish_X0_isVariable : GoodIn wsX0_wish wsX0_isVariable := goodIn_r _ [6, 7, 11, 12, 13, 14, 15, 16, 17, 18, 19, 20] (by decide +kernel) (by decide +kernel)
set_option maxRecDepth 20000 in
theorem gX0_wish_X0_isVariable : GoodIn wsX0_wish (wsV RX0 39 RX0 yX0_isVariable wsX0_isVariable) := goodIn_app (goodIn_of _ (by decide +kernel)) ggX0_wish_X0_isVariable
set_option maxRecDepth 20000 in
theorem ggX0_wish_X0_has : GoodIn wsX0_wish wsX0_has := goodIn_r _ [10] (by decide +kernel) (by decide +kernel)
set_option maxRecDepth 20000 in
theorem gX0_wish_X0_has : GoodIn wsX0_wish (va_wsS RX0 46 yX0_has wsX0_has) := goodIn_app (goodIn_of _ (by decide +kernel)) ggX0_wish_X0_has
theorem dX0_wish_0 : decode cX0_wish 0 = .ok (.aload_n 0, 1) := by decide +kernel
theorem dX0_wish_1 : decode cX0_wish 1 = .ok (.iload_n 1, 1) := by decide +kernel
theorem dX0_wish_2 : decode cX0_wish 2 = .ok (.invokevirtual 39, 3) := by decide +kernel
theorem dX0_wish_5 : decode cX0_wish 5 = .ok (.ifCond .ne 5, 3) := by decide +kernel
theorem dX0_wish_8 : decode cX0_wish 8 = .ok (.iconst 0, 1) := by decide +kernel
theorem dX0_wish_9 : decode cX0_wish 9 = .ok (.ireturn, 1) := by decide +kernel
theorem dX0_wish_10 : decode cX0_wish 10 = .ok (.aload_n 0, 1) := by decide +kernel
theorem dX0_wish_11 : decode cX0_wish 11 = .ok (.getfield 43, 3) := by decide +kernel
theorem dX0_wish_14 : decode cX0_wish 14 = .ok (.iload_n 1, 1) := by decide +kernel
theorem dX0_wish_15 : decode cX0_wish 15 = .ok (.invokestatic 46, 3) := by decide +kernel
theorem dX0_wish_18 : decode cX0_wish 18 = .ok (.istore_n 3, 1) := by decide +kernel
theorem dX0_wish_19 : decode cX0_wish 19 = .ok (.aload_n 0, 1) := by decide +kernel
theorem dX0_wish_20 : decode cX0_wish 20 = .ok (.iload_n 2, 1) := by decide +kernel
theorem dX0_wish_21 : decode cX0_wish 21 = .ok (.ifCond .eq 14, 3) := by decide +kernel
theorem dX0_wish_24 : decode cX0_wish 24 = .ok (.aload_n 0, 1) := by decide +kernel
theorem dX0_wish_25 : decode cX0_wish 25 = .ok (.getfield 43, 3) := by decide +kernel
theorem dX0_wish_28 : decode cX0_wish 28 = .ok (.iconst 1, 1) := by decide +kernel
theorem dX0_wish_29 : decode cX0_wish 29 = .ok (.iload_n 1, 1) := by decide +kernel
theorem dX0_wish_30 : decode cX0_wish 30 = .ok (.ishl, 1) := by decide +kernel
theorem dX0_wish_31 : decode cX0_wish 31 = .ok (.ior, 1) := by decide +kernel
theorem dX0_wish_32 : decode cX0_wish 32 = .ok (.goto 13, 3) := by decide +kernel
theorem dX0_wish_35 : decode cX0_wish 35 = .ok (.aload_n 0, 1) := by decide +kernel
theorem dX0_wish_36 : decode cX0_wish 36 = .ok (.getfield 43, 3) := by decide +kernel
theorem dX0_wish_39 : decode cX0_wish 39 = .ok (.iconst 1, 1) := by decide +kernel
theorem dX0_wish_40 : decode cX0_wish 40 = .ok (.iload_n 1, 1) := by decide +kernel
theorem dX0_wish_41 : decode cX0_wish 41 = .ok (.ishl, 1) := by decide +kernel
theorem dX0_wish_42 : decode cX0_wish 42 = .ok (.iconst (-1), 1) := by decide +kernel
theorem dX0_wish_43 : decode cX0_wish 43 = .ok (.ixor, 1) := by decide +kernel
theorem dX0_wish_44 : decode cX0_wish 44 = .ok (.iand, 1) := by decide +kernel
theorem dX0_wish_45 : decode cX0_wish 45 = .ok (.putfield 43, 3) := by decide +kernel
theorem dX0_wish_48 : decode cX0_wish 48 = .ok (.iload_n 3, 1) := by decide +kernel
theorem dX0_wish_49 : decode cX0_wish 49 = .ok (.ireturn, 1) := by decide +kernel
set_option maxRecDepth 20000 in
theorem ggX0_literal_X0_isVariable : GoodIn wsX0_literal wsX0_isVariable := goodIn_r _ [7, 8, 20, 21, 22, 23, 24, 25, 26, 27, 28, 29] (by decide +kernel) (by decide +kernel)
set_option maxRecDepth 20000 in
theorem gX0_literal_X0_isVariable : GoodIn wsX0_literal (wsV RX0 39 RX0 yX0_isVariable wsX0_isVariable) := goodIn_app (goodIn_of _ (by decide +kernel)) ggX0_literal_X0_isVariable
set_option maxRecDepth 20000 in
theorem ggX0_literal_X0_namedByMadeUp : GoodIn wsX0_literal wsX0_namedByMadeUp := goodIn_r _ [12, 1, 2, 13, 14, 15, 16, 17, 18, 19, 20, 21, 22, 23, 24, 25, 26, 27, 28, 29] (by decide +kernel) (by decide +kernel)
set_option maxRecDepth 20000 in
theorem gX0_literal_X0_namedByMadeUp : GoodIn wsX0_literal (wsV RX0 56 RX0 yX0_namedByMadeUp wsX0_namedByMadeUp) := goodIn_app (goodIn_of _ (by decide +kernel)) ggX0_literal_X0_namedByMadeUp
theorem dX0_literal_0 : decode cX0_literal 0 = .ok (.aload_n 0, 1) := by decide +kernel
theorem dX0_literal_1 : decode cX0_literal 1 = .ok (.iload_n 1, 1) := by decide +kernel
theorem dX0_literal_2 : decode cX0_literal 2 = .ok (.invokevirtual 39, 3) := by decide +kernel
theorem dX0_literal_5 : decode cX0_literal 5 = .ok (.ifCond .ne 5, 3) := by decide +kernel
theorem dX0_literal_8 : decode cX0_literal 8 = .ok (.iconst (-1), 1) := by decide +kernel
theorem dX0_literal_9 : decode cX0_literal 9 = .ok (.ireturn, 1) := by decide +kernel
theorem dX0_literal_10 : decode cX0_literal 10 = .ok (.iload_n 2, 1) := by decide +kernel
theorem dX0_literal_11 : decode cX0_literal 11 = .ok (.ifCond .eq 18, 3) := by decide +kernel
theorem dX0_literal_14 : decode cX0_literal 14 = .ok (.aload_n 0, 1) := by decide +kernel
theorem dX0_literal_15 : decode cX0_literal 15 = .ok (.dup, 1) := by decide +kernel
theorem dX0_literal_16 : decode cX0_literal 16 = .ok (.getfield 50, 3) := by decide +kernel
theorem dX0_literal_19 : decode cX0_literal 19 = .ok (.iconst 1, 1) := by decide +kernel
theorem dX0_literal_20 : decode cX0_literal 20 = .ok (.iload_n 1, 1) := by decide +kernel
theorem dX0_literal_21 : decode cX0_literal 21 = .ok (.ishl, 1) := by decide +kernel
theorem dX0_literal_22 : decode cX0_literal 22 = .ok (.ior, 1) := by decide +kernel
theorem dX0_literal_23 : decode cX0_literal 23 = .ok (.putfield 50, 3) := by decide +kernel
theorem dX0_literal_26 : decode cX0_literal 26 = .ok (.goto 15, 3) := by decide +kernel
theorem dX0_literal_29 : decode cX0_literal 29 = .ok (.aload_n 0, 1) := by decide +kernel
theorem dX0_literal_30 : decode cX0_literal 30 = .ok (.dup, 1) := by decide +kernel
theorem dX0_literal_31 : decode cX0_literal 31 = .ok (.getfield 53, 3) := by decide +kernel
theorem dX0_literal_34 : decode cX0_literal 34 = .ok (.iconst 1, 1) := by decide +kernel
theorem dX0_literal_35 : decode cX0_literal 35 = .ok (.iload_n 1, 1) := by decide +kernel
theorem dX0_literal_36 : decode cX0_literal 36 = .ok (.ishl, 1) := by decide +kernel
theorem dX0_literal_37 : decode cX0_literal 37 = .ok (.ior, 1) := by decide +kernel
theorem dX0_literal_38 : decode cX0_literal 38 = .ok (.putfield 53, 3) := by decide +kernel
theorem dX0_literal_41 : decode cX0_literal 41 = .ok (.aload_n 0, 1) := by decide +kernel
theorem dX0_literal_42 : decode cX0_literal 42 = .ok (.invokevirtual 56, 3) := by decide +kernel
theorem dX0_literal_45 : decode cX0_literal 45 = .ok (.ireturn, 1) := by decide +kernel
set_option maxRecDepth 20000 in
theorem ggX0_clause_X0_append : GoodIn wsX0_clause wsX0_append := goodIn_r _ [7, 8, 9, 10, 11, 12, 13, 14, 15, 6, 16, 17, 18, 19, 20, 21, 22, 23, 24, 25, 26, 27, 28, 29, 30, 31, 32, 33, 34, 35, 36, 37, 38] (by decide +kernel) (by decide +kernel)
set_option maxRecDepth 20000 in
theorem gX0_clause_X0_append : GoodIn wsX0_clause (wsV RX0 60 RX0 yX0_append wsX0_append) := goodIn_app (goodIn_of _ (by decide +kernel)) ggX0_clause_X0_append
theorem dX0_clause_0 : decode cX0_clause 0 = .ok (.aload_n 0, 1) := by decide +kernel
theorem dX0_clause_1 : decode cX0_clause 1 = .ok (.aload_n 0, 1) := by decide +kernel
theorem dX0_clause_2 : decode cX0_clause 2 = .ok (.getfield 50, 3) := by decide +kernel
theorem dX0_clause_5 : decode cX0_clause 5 = .ok (.aload_n 0, 1) := by decide +kernel
theorem dX0_clause_6 : decode cX0_clause 6 = .ok (.getfield 53, 3) := by decide +kernel
theorem dX0_clause_9 : decode cX0_clause 9 = .ok (.invokevirtual 60, 3) := by decide +kernel
theorem dX0_clause_12 : decode cX0_clause 12 = .ok (.istore_n 1, 1) := by decide +kernel
theorem dX0_clause_13 : decode cX0_clause 13 = .ok (.iload_n 1, 1) := by decide +kernel
theorem dX0_clause_14 : decode cX0_clause 14 = .ok (.bipush (-3), 2) := by decide +kernel
theorem dX0_clause_16 : decode cX0_clause 16 = .ok (.if_icmp .eq 13, 3) := by decide +kernel
theorem dX0_clause_19 : decode cX0_clause 19 = .ok (.aload_n 0, 1) := by decide +kernel
theorem dX0_clause_20 : decode cX0_clause 20 = .ok (.iconst 0, 1) := by decide +kernel
theorem dX0_clause_21 : decode cX0_clause 21 = .ok (.putfield 50, 3) := by decide +kernel
theorem dX0_clause_24 : decode cX0_clause 24 = .ok (.aload_n 0, 1) := by decide +kernel
theorem dX0_clause_25 : decode cX0_clause 25 = .ok (.iconst 0, 1) := by decide +kernel
theorem dX0_clause_26 : decode cX0_clause 26 = .ok (.putfield 53, 3) := by decide +kernel
theorem dX0_clause_29 : decode cX0_clause 29 = .ok (.iload_n 1, 1) := by decide +kernel
theorem dX0_clause_30 : decode cX0_clause 30 = .ok (.ireturn, 1) := by decide +kernel
set_option maxRecDepth 20000 in
theorem ggX0_some_X0_lowBits : GoodIn wsX0_some wsX0_lowBits := goodIn_r _ [5] (by decide +kernel) (by decide +kernel)
set_option maxRecDepth 20000 in
theorem gX0_some_X0_lowBits : GoodIn wsX0_some (va_wsS RX0 63 yX0_lowBits wsX0_lowBits) := goodIn_app (goodIn_of _ (by decide +kernel)) ggX0_some_X0_lowBits
set_option maxRecDepth 20000 in
theorem ggX0_some_X0_append : GoodIn wsX0_some wsX0_append := goodIn_r _ [9, 10, 11, 12, 13, 14, 15, 2, 3, 4, 5, 16, 17, 18, 19, 20, 21, 22, 23, 24, 25, 26, 27, 28, 29, 30, 31, 32, 33, 34, 35, 36, 37] (by decide +kernel) (by decide +kernel)
set_option maxRecDepth 20000 in
theorem gX0_some_X0_append : GoodIn wsX0_some (wsV RX0 60 RX0 yX0_append wsX0_append) := goodIn_app (goodIn_of _ (by decide +kernel)) ggX0_some_X0_append
theorem dX0_some_0 : decode cX0_some 0 = .ok (.aload_n 0, 1) := by decide +kernel
theorem dX0_some_1 : decode cX0_some 1 = .ok (.getfield 18, 3) := by decide +kernel
theorem dX0_some_4 : decode cX0_some 4 = .ok (.invokestatic 63, 3) := by decide +kernel
theorem dX0_some_7 : decode cX0_some 7 = .ok (.istore_n 3, 1) := by decide +kernel
theorem dX0_some_8 : decode cX0_some 8 = .ok (.aload_n 0, 1) := by decide +kernel
theorem dX0_some_9 : decode cX0_some 9 = .ok (.iload_n 1, 1) := by decide +kernel
theorem dX0_some_10 : decode cX0_some 10 = .ok (.iload_n 3, 1) := by decide +kernel
theorem dX0_some_11 : decode cX0_some 11 = .ok (.iand, 1) := by decide +kernel
theorem dX0_some_12 : decode cX0_some 12 = .ok (.iload_n 2, 1) := by decide +kernel
theorem dX0_some_13 : decode cX0_some 13 = .ok (.iload_n 3, 1) := by decide +kernel
theorem dX0_some_14 : decode cX0_some 14 = .ok (.iand, 1) := by decide +kernel
theorem dX0_some_15 : decode cX0_some 15 = .ok (.invokevirtual 60, 3) := by decide +kernel
theorem dX0_some_18 : decode cX0_some 18 = .ok (.ireturn, 1) := by decide +kernel
theorem dX0_drop_0 : decode cX0_drop 0 = .ok (.iload_n 1, 1) := by decide +kernel
theorem dX0_drop_1 : decode cX0_drop 1 = .ok (.ifCond .lt 11, 3) := by decide +kernel
theorem dX0_drop_4 : decode cX0_drop 4 = .ok (.iload_n 1, 1) := by decide +kernel
theorem dX0_drop_5 : decode cX0_drop 5 = .ok (.aload_n 0, 1) := by decide +kernel
theorem dX0_drop_6 : decode cX0_drop 6 = .ok (.getfield 67, 3) := by decide +kernel
theorem dX0_drop_9 : decode cX0_drop 9 = .ok (.if_icmp .lt 6, 3) := by decide +kernel
theorem dX0_drop_12 : decode cX0_drop 12 = .ok (.bipush (-2), 2) := by decide +kernel
theorem dX0_drop_14 : decode cX0_drop 14 = .ok (.ireturn, 1) := by decide +kernel
theorem dX0_drop_15 : decode cX0_drop 15 = .ok (.aload_n 0, 1) := by decide +kernel
theorem dX0_drop_16 : decode cX0_drop 16 = .ok (.dup, 1) := by decide +kernel
theorem dX0_drop_17 : decode cX0_drop 17 = .ok (.getfield 67, 3) := by decide +kernel
theorem dX0_drop_20 : decode cX0_drop 20 = .ok (.iconst 1, 1) := by decide +kernel
theorem dX0_drop_21 : decode cX0_drop 21 = .ok (.isub, 1) := by decide +kernel
theorem dX0_drop_22 : decode cX0_drop 22 = .ok (.putfield 67, 3) := by decide +kernel
theorem dX0_drop_25 : decode cX0_drop 25 = .ok (.aload_n 0, 1) := by decide +kernel
theorem dX0_drop_26 : decode cX0_drop 26 = .ok (.getfield 25, 3) := by decide +kernel
theorem dX0_drop_29 : decode cX0_drop 29 = .ok (.iload_n 1, 1) := by decide +kernel
theorem dX0_drop_30 : decode cX0_drop 30 = .ok (.aload_n 0, 1) := by decide +kernel
theorem dX0_drop_31 : decode cX0_drop 31 = .ok (.getfield 25, 3) := by decide +kernel
theorem dX0_drop_34 : decode cX0_drop 34 = .ok (.aload_n 0, 1) := by decide +kernel
theorem dX0_drop_35 : decode cX0_drop 35 = .ok (.getfield 67, 3) := by decide +kernel
theorem dX0_drop_38 : decode cX0_drop 38 = .ok (.iaload, 1) := by decide +kernel
theorem dX0_drop_39 : decode cX0_drop 39 = .ok (.iastore, 1) := by decide +kernel
theorem dX0_drop_40 : decode cX0_drop 40 = .ok (.aload_n 0, 1) := by decide +kernel
theorem dX0_drop_41 : decode cX0_drop 41 = .ok (.getfield 29, 3) := by decide +kernel
theorem dX0_drop_44 : decode cX0_drop 44 = .ok (.iload_n 1, 1) := by decide +kernel
theorem dX0_drop_45 : decode cX0_drop 45 = .ok (.aload_n 0, 1) := by decide +kernel
theorem dX0_drop_46 : decode cX0_drop 46 = .ok (.getfield 29, 3) := by decide +kernel
theorem dX0_drop_49 : decode cX0_drop 49 = .ok (.aload_n 0, 1) := by decide +kernel
theorem dX0_drop_50 : decode cX0_drop 50 = .ok (.getfield 67, 3) := by decide +kernel
theorem dX0_drop_53 : decode cX0_drop 53 = .ok (.iaload, 1) := by decide +kernel
theorem dX0_drop_54 : decode cX0_drop 54 = .ok (.iastore, 1) := by decide +kernel
theorem dX0_drop_55 : decode cX0_drop 55 = .ok (.aload_n 0, 1) := by decide +kernel
theorem dX0_drop_56 : decode cX0_drop 56 = .ok (.getfield 32, 3) := by decide +kernel
theorem dX0_drop_59 : decode cX0_drop 59 = .ok (.iload_n 1, 1) := by decide +kernel
theorem dX0_drop_60 : decode cX0_drop 60 = .ok (.aload_n 0, 1) := by decide +kernel
theorem dX0_drop_61 : decode cX0_drop 61 = .ok (.getfield 32, 3) := by decide +kernel
theorem dX0_drop_64 : decode cX0_drop 64 = .ok (.aload_n 0, 1) := by decide +kernel
theorem dX0_drop_65 : decode cX0_drop 65 = .ok (.getfield 67, 3) := by decide +kernel
theorem dX0_drop_68 : decode cX0_drop 68 = .ok (.iaload, 1) := by decide +kernel
theorem dX0_drop_69 : decode cX0_drop 69 = .ok (.iastore, 1) := by decide +kernel
theorem dX0_drop_70 : decode cX0_drop 70 = .ok (.aload_n 0, 1) := by decide +kernel
theorem dX0_drop_71 : decode cX0_drop 71 = .ok (.getfield 35, 3) := by decide +kernel
theorem dX0_drop_74 : decode cX0_drop 74 = .ok (.iload_n 1, 1) := by decide +kernel
theorem dX0_drop_75 : decode cX0_drop 75 = .ok (.aload_n 0, 1) := by decide +kernel
theorem dX0_drop_76 : decode cX0_drop 76 = .ok (.getfield 35, 3) := by decide +kernel
theorem dX0_drop_79 : decode cX0_drop 79 = .ok (.aload_n 0, 1) := by decide +kernel
theorem dX0_drop_80 : decode cX0_drop 80 = .ok (.getfield 67, 3) := by decide +kernel
theorem dX0_drop_83 : decode cX0_drop 83 = .ok (.laload, 1) := by decide +kernel
theorem dX0_drop_84 : decode cX0_drop 84 = .ok (.lastore, 1) := by decide +kernel
theorem dX0_drop_85 : decode cX0_drop 85 = .ok (.aload_n 0, 1) := by decide +kernel
theorem dX0_drop_86 : decode cX0_drop 86 = .ok (.getfield 67, 3) := by decide +kernel
theorem dX0_drop_89 : decode cX0_drop 89 = .ok (.ireturn, 1) := by decide +kernel
set_option maxRecDepth 20000 in
theorem ggX0_solve_X0_firstAnswer : GoodIn wsX0_solve wsX0_firstAnswer := goodIn_r _ [5, 6, 7, 8, 9, 4, 10, 11, 12, 13, 14, 15, 16, 17, 18, 19, 20, 21, 22, 23, 24, 25, 26, 27, 28, 29, 30, 31, 32, 33, 34, 35, 36, 37, 38, 39, 40, 41, 42, 43, 44, 45, 46, 47] (by decide +kernel) (by decide +kernel)
set_option maxRecDepth 20000 in
theorem gX0_solve_X0_firstAnswer : GoodIn wsX0_solve (wsV RX0 70 RX0 yX0_firstAnswer wsX0_firstAnswer) := goodIn_app (goodIn_of _ (by decide +kernel)) ggX0_solve_X0_firstAnswer
theorem dX0_solve_0 : decode cX0_solve 0 = .ok (.aload_n 0, 1) := by decide +kernel
theorem dX0_solve_1 : decode cX0_solve 1 = .ok (.invokevirtual 70, 3) := by decide +kernel
theorem dX0_solve_4 : decode cX0_solve 4 = .ok (.bipush (-2), 2) := by decide +kernel
theorem dX0_solve_6 : decode cX0_solve 6 = .ok (.if_icmp .eq 7, 3) := by decide +kernel
theorem dX0_solve_9 : decode cX0_solve 9 = .ok (.iconst 1, 1) := by decide +kernel
theorem dX0_solve_10 : decode cX0_solve 10 = .ok (.goto 4, 3) := by decide +kernel
theorem dX0_solve_13 : decode cX0_solve 13 = .ok (.iconst 0, 1) := by decide +kernel
theorem dX0_solve_14 : decode cX0_solve 14 = .ok (.ireturn, 1) := by decide +kernel
set_option maxRecDepth 20000 in
theorem ggX0_answer_X0_firstAnswer : GoodIn wsX0_answer wsX0_firstAnswer := goodIn_r _ [5, 6, 7, 8, 9, 4, 10, 11, 12, 13, 14, 15, 16, 17, 18, 19, 20, 21, 22, 23, 24, 25, 26, 27, 28, 29, 30, 31, 32, 33, 34, 35, 36, 37, 38, 39, 40, 41, 42, 43, 44, 45, 46, 47] (by decide +kernel) (by decide +kernel)
set_option maxRecDepth 20000 in
theorem gX0_answer_X0_firstAnswer : GoodIn wsX0_answer (wsV RX0 70 RX0 yX0_firstAnswer wsX0_firstAnswer) := goodIn_app (goodIn_of _ (by decide +kernel)) ggX0_answer_X0_firstAnswer
theorem dX0_answer_0 : decode cX0_answer 0 = .ok (.aload_n 0, 1) := by decide +kernel
theorem dX0_answer_1 : decode cX0_answer 1 = .ok (.invokevirtual 70, 3) := by decide +kernel
theorem dX0_answer_4 : decode cX0_answer 4 = .ok (.ireturn, 1) := by decide +kernel
set_option maxRecDepth 20000 in
theorem ggX0_count_X0_namedByMadeUp : GoodIn wsX0_count wsX0_namedByMadeUp := goodIn_r _ [7, 8, 9, 10, 11, 12, 13, 14, 15, 16, 17, 18, 19, 20, 21, 22, 23, 24, 25, 26] (by decide +kernel) (by decide +kernel)
set_option maxRecDepth 20000 in
theorem gX0_count_X0_namedByMadeUp : GoodIn wsX0_count (wsV RX0 56 RX0 yX0_namedByMadeUp wsX0_namedByMadeUp) := goodIn_app (goodIn_of _ (by decide +kernel)) ggX0_count_X0_namedByMadeUp
theorem dX0_count_0 : decode cX0_count 0 = .ok (.iload_n 1, 1) := by decide +kernel
theorem dX0_count_1 : decode cX0_count 1 = .ok (.tableswitch 42 0 2 #[27, 32, 37], 27) := by decide +kernel
theorem dX0_count_28 : decode cX0_count 28 = .ok (.aload_n 0, 1) := by decide +kernel
theorem dX0_count_29 : decode cX0_count 29 = .ok (.getfield 18, 3) := by decide +kernel
theorem dX0_count_32 : decode cX0_count 32 = .ok (.ireturn, 1) := by decide +kernel
theorem dX0_count_33 : decode cX0_count 33 = .ok (.aload_n 0, 1) := by decide +kernel
theorem dX0_count_34 : decode cX0_count 34 = .ok (.getfield 67, 3) := by decide +kernel
theorem dX0_count_37 : decode cX0_count 37 = .ok (.ireturn, 1) := by decide +kernel
theorem dX0_count_38 : decode cX0_count 38 = .ok (.aload_n 0, 1) := by decide +kernel
theorem dX0_count_39 : decode cX0_count 39 = .ok (.invokevirtual 56, 3) := by decide +kernel
theorem dX0_count_42 : decode cX0_count 42 = .ok (.ireturn, 1) := by decide +kernel
theorem dX0_count_43 : decode cX0_count 43 = .ok (.iconst (-1), 1) := by decide +kernel
theorem dX0_count_44 : decode cX0_count 44 = .ok (.ireturn, 1) := by decide +kernel
theorem dX0_isVariable_0 : decode cX0_isVariable 0 = .ok (.iload_n 1, 1) := by decide +kernel
theorem dX0_isVariable_1 : decode cX0_isVariable 1 = .ok (.ifCond .lt 15, 3) := by decide +kernel
theorem dX0_isVariable_4 : decode cX0_isVariable 4 = .ok (.iload_n 1, 1) := by decide +kernel
theorem dX0_isVariable_5 : decode cX0_isVariable 5 = .ok (.aload_n 0, 1) := by decide +kernel
theorem dX0_isVariable_6 : decode cX0_isVariable 6 = .ok (.getfield 18, 3) := by decide +kernel
theorem dX0_isVariable_9 : decode cX0_isVariable 9 = .ok (.if_icmp .ge 7, 3) := by decide +kernel
theorem dX0_isVariable_12 : decode cX0_isVariable 12 = .ok (.iconst 1, 1) := by decide +kernel
theorem dX0_isVariable_13 : decode cX0_isVariable 13 = .ok (.goto 4, 3) := by decide +kernel
theorem dX0_isVariable_16 : decode cX0_isVariable 16 = .ok (.iconst 0, 1) := by decide +kernel
theorem dX0_isVariable_17 : decode cX0_isVariable 17 = .ok (.ireturn, 1) := by decide +kernel
theorem dX0_has_0 : decode cX0_has 0 = .ok (.iload_n 0, 1) := by decide +kernel
theorem dX0_has_1 : decode cX0_has 1 = .ok (.iload_n 1, 1) := by decide +kernel
theorem dX0_has_2 : decode cX0_has 2 = .ok (.ishr, 1) := by decide +kernel
theorem dX0_has_3 : decode cX0_has 3 = .ok (.iconst 1, 1) := by decide +kernel
theorem dX0_has_4 : decode cX0_has 4 = .ok (.iand, 1) := by decide +kernel
theorem dX0_has_5 : decode cX0_has 5 = .ok (.ifCond .eq 7, 3) := by decide +kernel
theorem dX0_has_8 : decode cX0_has 8 = .ok (.iconst 1, 1) := by decide +kernel
theorem dX0_has_9 : decode cX0_has 9 = .ok (.goto 4, 3) := by decide +kernel
theorem dX0_has_12 : decode cX0_has 12 = .ok (.iconst 0, 1) := by decide +kernel
theorem dX0_has_13 : decode cX0_has 13 = .ok (.ireturn, 1) := by decide +kernel
theorem dX0_lowBits_0 : decode cX0_lowBits 0 = .ok (.iconst 1, 1) := by decide +kernel
theorem dX0_lowBits_1 : decode cX0_lowBits 1 = .ok (.iload_n 0, 1) := by decide +kernel
theorem dX0_lowBits_2 : decode cX0_lowBits 2 = .ok (.ishl, 1) := by decide +kernel
theorem dX0_lowBits_3 : decode cX0_lowBits 3 = .ok (.iconst 1, 1) := by decide +kernel
theorem dX0_lowBits_4 : decode cX0_lowBits 4 = .ok (.isub, 1) := by decide +kernel
theorem dX0_lowBits_5 : decode cX0_lowBits 5 = .ok (.ireturn, 1) := by decide +kernel
set_option maxRecDepth 20000 in
theorem ggX0_namedByMadeUp_J6_bitCount_0f7a4 : GoodIn wsX0_namedByMadeUp wsJ6_bitCount_0f7a4 := goodIn_r _ [6, 7, 8, 9] (by decide +kernel) (by decide +kernel)
set_option maxRecDepth 20000 in
theorem gX0_namedByMadeUp_J6_bitCount_0f7a4 : GoodIn wsX0_namedByMadeUp (va_wsS RX0 73 yJ6_bitCount_0f7a4 wsJ6_bitCount_0f7a4) := goodIn_app (goodIn_of _ (by decide +kernel)) ggX0_namedByMadeUp_J6_bitCount_0f7a4
theorem dX0_namedByMadeUp_0 : decode cX0_namedByMadeUp 0 = .ok (.aload_n 0, 1) := by decide +kernel
theorem dX0_namedByMadeUp_1 : decode cX0_namedByMadeUp 1 = .ok (.getfield 50, 3) := by decide +kernel
theorem dX0_namedByMadeUp_4 : decode cX0_namedByMadeUp 4 = .ok (.invokestatic 73, 3) := by decide +kernel
theorem dX0_namedByMadeUp_7 : decode cX0_namedByMadeUp 7 = .ok (.aload_n 0, 1) := by decide +kernel
theorem dX0_namedByMadeUp_8 : decode cX0_namedByMadeUp 8 = .ok (.getfield 53, 3) := by decide +kernel
theorem dX0_namedByMadeUp_11 : decode cX0_namedByMadeUp 11 = .ok (.invokestatic 73, 3) := by decide +kernel
theorem dX0_namedByMadeUp_14 : decode cX0_namedByMadeUp 14 = .ok (.iadd, 1) := by decide +kernel
theorem dX0_namedByMadeUp_15 : decode cX0_namedByMadeUp 15 = .ok (.ireturn, 1) := by decide +kernel
set_option maxRecDepth 20000 in
theorem ggX0_append_X0_lowBits : GoodIn wsX0_append wsX0_lowBits := goodIn_r _ [10] (by decide +kernel) (by decide +kernel)
set_option maxRecDepth 20000 in
theorem gX0_append_X0_lowBits : GoodIn wsX0_append (va_wsS RX0 63 yX0_lowBits wsX0_lowBits) := goodIn_app (goodIn_of _ (by decide +kernel)) ggX0_append_X0_lowBits
set_option maxRecDepth 20000 in
theorem ggX0_append_X0_depthOf : GoodIn wsX0_append wsX0_depthOf := goodIn_r _ [14, 2, 15, 16, 9, 17, 23, 24, 25, 26, 27, 28, 29, 30, 31, 32] (by decide +kernel) (by decide +kernel)
set_option maxRecDepth 20000 in
theorem gX0_append_X0_depthOf : GoodIn wsX0_append (wsV RX0 78 RX0 yX0_depthOf wsX0_depthOf) := goodIn_app (goodIn_of _ (by decide +kernel)) ggX0_append_X0_depthOf
set_option maxRecDepth 20000 in
theorem ggX0_append_X0_tailsThatMeet : GoodIn wsX0_append wsX0_tailsThatMeet := goodIn_r _ [20, 21, 22, 15, 16, 9, 17] (by decide +kernel) (by decide +kernel)
set_option maxRecDepth 20000 in
theorem gX0_append_X0_tailsThatMeet : GoodIn wsX0_append (va_wsS RX0 81 yX0_tailsThatMeet wsX0_tailsThatMeet) := goodIn_app (goodIn_of _ (by decide +kernel)) ggX0_append_X0_tailsThatMeet
theorem dX0_append_0 : decode cX0_append 0 = .ok (.aload_n 0, 1) := by decide +kernel
theorem dX0_append_1 : decode cX0_append 1 = .ok (.getfield 67, 3) := by decide +kernel
theorem dX0_append_4 : decode cX0_append 4 = .ok (.sipush 400, 3) := by decide +kernel
theorem dX0_append_7 : decode cX0_append 7 = .ok (.if_icmp .lt 6, 3) := by decide +kernel
theorem dX0_append_10 : decode cX0_append 10 = .ok (.bipush (-3), 2) := by decide +kernel
theorem dX0_append_12 : decode cX0_append 12 = .ok (.ireturn, 1) := by decide +kernel
theorem dX0_append_13 : decode cX0_append 13 = .ok (.aload_n 0, 1) := by decide +kernel
theorem dX0_append_14 : decode cX0_append 14 = .ok (.getfield 22, 3) := by decide +kernel
theorem dX0_append_17 : decode cX0_append 17 = .ok (.invokestatic 63, 3) := by decide +kernel
theorem dX0_append_20 : decode cX0_append 20 = .ok (.istore_n 3, 1) := by decide +kernel
theorem dX0_append_21 : decode cX0_append 21 = .ok (.aload_n 0, 1) := by decide +kernel
theorem dX0_append_22 : decode cX0_append 22 = .ok (.getfield 25, 3) := by decide +kernel
theorem dX0_append_25 : decode cX0_append 25 = .ok (.aload_n 0, 1) := by decide +kernel
theorem dX0_append_26 : decode cX0_append 26 = .ok (.getfield 67, 3) := by decide +kernel
theorem dX0_append_29 : decode cX0_append 29 = .ok (.iload_n 1, 1) := by decide +kernel
theorem dX0_append_30 : decode cX0_append 30 = .ok (.iload_n 3, 1) := by decide +kernel
theorem dX0_append_31 : decode cX0_append 31 = .ok (.iand, 1) := by decide +kernel
theorem dX0_append_32 : decode cX0_append 32 = .ok (.iastore, 1) := by decide +kernel
theorem dX0_append_33 : decode cX0_append 33 = .ok (.aload_n 0, 1) := by decide +kernel
theorem dX0_append_34 : decode cX0_append 34 = .ok (.getfield 29, 3) := by decide +kernel
theorem dX0_append_37 : decode cX0_append 37 = .ok (.aload_n 0, 1) := by decide +kernel
theorem dX0_append_38 : decode cX0_append 38 = .ok (.getfield 67, 3) := by decide +kernel
theorem dX0_append_41 : decode cX0_append 41 = .ok (.iload_n 2, 1) := by decide +kernel
theorem dX0_append_42 : decode cX0_append 42 = .ok (.iload_n 3, 1) := by decide +kernel
theorem dX0_append_43 : decode cX0_append 43 = .ok (.iand, 1) := by decide +kernel
theorem dX0_append_44 : decode cX0_append 44 = .ok (.iastore, 1) := by decide +kernel
theorem dX0_append_45 : decode cX0_append 45 = .ok (.aload_n 0, 1) := by decide +kernel
theorem dX0_append_46 : decode cX0_append 46 = .ok (.getfield 32, 3) := by decide +kernel
theorem dX0_append_49 : decode cX0_append 49 = .ok (.aload_n 0, 1) := by decide +kernel
theorem dX0_append_50 : decode cX0_append 50 = .ok (.getfield 67, 3) := by decide +kernel
theorem dX0_append_53 : decode cX0_append 53 = .ok (.aload_n 0, 1) := by decide +kernel
theorem dX0_append_54 : decode cX0_append 54 = .ok (.iload_n 1, 1) := by decide +kernel
theorem dX0_append_55 : decode cX0_append 55 = .ok (.iload_n 2, 1) := by decide +kernel
theorem dX0_append_56 : decode cX0_append 56 = .ok (.ior, 1) := by decide +kernel
theorem dX0_append_57 : decode cX0_append 57 = .ok (.iload_n 3, 1) := by decide +kernel
theorem dX0_append_58 : decode cX0_append 58 = .ok (.iand, 1) := by decide +kernel
theorem dX0_append_59 : decode cX0_append 59 = .ok (.invokevirtual 78, 3) := by decide +kernel
theorem dX0_append_62 : decode cX0_append 62 = .ok (.iastore, 1) := by decide +kernel
theorem dX0_append_63 : decode cX0_append 63 = .ok (.aload_n 0, 1) := by decide +kernel
theorem dX0_append_64 : decode cX0_append 64 = .ok (.getfield 35, 3) := by decide +kernel
theorem dX0_append_67 : decode cX0_append 67 = .ok (.aload_n 0, 1) := by decide +kernel
theorem dX0_append_68 : decode cX0_append 68 = .ok (.getfield 67, 3) := by decide +kernel
theorem dX0_append_71 : decode cX0_append 71 = .ok (.iload_n 1, 1) := by decide +kernel
theorem dX0_append_72 : decode cX0_append 72 = .ok (.aload_n 0, 1) := by decide +kernel
theorem dX0_append_73 : decode cX0_append 73 = .ok (.getfield 22, 3) := by decide +kernel
theorem dX0_append_76 : decode cX0_append 76 = .ok (.ishr, 1) := by decide +kernel
theorem dX0_append_77 : decode cX0_append 77 = .ok (.iload_n 2, 1) := by decide +kernel
theorem dX0_append_78 : decode cX0_append 78 = .ok (.aload_n 0, 1) := by decide +kernel
theorem dX0_append_79 : decode cX0_append 79 = .ok (.getfield 22, 3) := by decide +kernel
theorem dX0_append_82 : decode cX0_append 82 = .ok (.ishr, 1) := by decide +kernel
theorem dX0_append_83 : decode cX0_append 83 = .ok (.invokestatic 81, 3) := by decide +kernel
theorem dX0_append_86 : decode cX0_append 86 = .ok (.lastore, 1) := by decide +kernel
theorem dX0_append_87 : decode cX0_append 87 = .ok (.aload_n 0, 1) := by decide +kernel
theorem dX0_append_88 : decode cX0_append 88 = .ok (.dup, 1) := by decide +kernel
theorem dX0_append_89 : decode cX0_append 89 = .ok (.getfield 67, 3) := by decide +kernel
theorem dX0_append_92 : decode cX0_append 92 = .ok (.iconst 1, 1) := by decide +kernel
theorem dX0_append_93 : decode cX0_append 93 = .ok (.iadd, 1) := by decide +kernel
theorem dX0_append_94 : decode cX0_append 94 = .ok (.putfield 67, 3) := by decide +kernel
theorem dX0_append_97 : decode cX0_append 97 = .ok (.aload_n 0, 1) := by decide +kernel
theorem dX0_append_98 : decode cX0_append 98 = .ok (.getfield 67, 3) := by decide +kernel
theorem dX0_append_101 : decode cX0_append 101 = .ok (.ireturn, 1) := by decide +kernel
set_option maxRecDepth 20000 in
theorem ggX0_depthOf_X0_has : GoodIn wsX0_depthOf wsX0_has := goodIn_r _ [5] (by decide +kernel) (by decide +kernel)
set_option maxRecDepth 20000 in
theorem gX0_depthOf_X0_has : GoodIn wsX0_depthOf (va_wsS RX0 46 yX0_has wsX0_has) := goodIn_app (goodIn_of _ (by decide +kernel)) ggX0_depthOf_X0_has
theorem dX0_depthOf_0 : decode cX0_depthOf 0 = .ok (.aload_n 0, 1) := by decide +kernel
theorem dX0_depthOf_1 : decode cX0_depthOf 1 = .ok (.getfield 22, 3) := by decide +kernel
theorem dX0_depthOf_4 : decode cX0_depthOf 4 = .ok (.istore_n 2, 1) := by decide +kernel
theorem dX0_depthOf_5 : decode cX0_depthOf 5 = .ok (.iload_n 2, 1) := by decide +kernel
theorem dX0_depthOf_6 : decode cX0_depthOf 6 = .ok (.ifCond .le 19, 3) := by decide +kernel
theorem dX0_depthOf_9 : decode cX0_depthOf 9 = .ok (.iload_n 1, 1) := by decide +kernel
theorem dX0_depthOf_10 : decode cX0_depthOf 10 = .ok (.iload_n 2, 1) := by decide +kernel
theorem dX0_depthOf_11 : decode cX0_depthOf 11 = .ok (.iconst 1, 1) := by decide +kernel
theorem dX0_depthOf_12 : decode cX0_depthOf 12 = .ok (.isub, 1) := by decide +kernel
theorem dX0_depthOf_13 : decode cX0_depthOf 13 = .ok (.invokestatic 46, 3) := by decide +kernel
theorem dX0_depthOf_16 : decode cX0_depthOf 16 = .ok (.ifCond .ne 9, 3) := by decide +kernel
theorem dX0_depthOf_19 : decode cX0_depthOf 19 = .ok (.iinc 2 (-1), 3) := by decide +kernel
theorem dX0_depthOf_22 : decode cX0_depthOf 22 = .ok (.goto (-17), 3) := by decide +kernel
theorem dX0_depthOf_25 : decode cX0_depthOf 25 = .ok (.iload_n 2, 1) := by decide +kernel
theorem dX0_depthOf_26 : decode cX0_depthOf 26 = .ok (.ireturn, 1) := by decide +kernel
set_option maxRecDepth 20000 in
theorem ggX0_tailsThatMeet_X0_has : GoodIn wsX0_tailsThatMeet wsX0_has := goodIn_r _ [6] (by decide +kernel) (by decide +kernel)
set_option maxRecDepth 20000 in
theorem gX0_tailsThatMeet_X0_has : GoodIn wsX0_tailsThatMeet (va_wsS RX0 46 yX0_has wsX0_has) := goodIn_app (goodIn_of _ (by decide +kernel)) ggX0_tailsThatMeet_X0_has
theorem dX0_tailsThatMeet_0 : decode cX0_tailsThatMeet 0 = .ok (.lconst 0, 1) := by decide +kernel
theorem dX0_tailsThatMeet_1 : decode cX0_tailsThatMeet 1 = .ok (.lstore_n 2, 1) := by decide +kernel
theorem dX0_tailsThatMeet_2 : decode cX0_tailsThatMeet 2 = .ok (.iconst 0, 1) := by decide +kernel
theorem dX0_tailsThatMeet_3 : decode cX0_tailsThatMeet 3 = .ok (.istore 4, 2) := by decide +kernel
theorem dX0_tailsThatMeet_5 : decode cX0_tailsThatMeet 5 = .ok (.iload 4, 2) := by decide +kernel
theorem dX0_tailsThatMeet_7 : decode cX0_tailsThatMeet 7 = .ok (.bipush 6, 2) := by decide +kernel
theorem dX0_tailsThatMeet_9 : decode cX0_tailsThatMeet 9 = .ok (.if_icmp .ge 49, 3) := by decide +kernel
theorem dX0_tailsThatMeet_12 : decode cX0_tailsThatMeet 12 = .ok (.iload_n 0, 1) := by decide +kernel
theorem dX0_tailsThatMeet_13 : decode cX0_tailsThatMeet 13 = .ok (.iload 4, 2) := by decide +kernel
theorem dX0_tailsThatMeet_15 : decode cX0_tailsThatMeet 15 = .ok (.invokestatic 46, 3) := by decide +kernel
theorem dX0_tailsThatMeet_18 : decode cX0_tailsThatMeet 18 = .ok (.ifCond .eq 12, 3) := by decide +kernel
theorem dX0_tailsThatMeet_21 : decode cX0_tailsThatMeet 21 = .ok (.lload_n 2, 1) := by decide +kernel
theorem dX0_tailsThatMeet_22 : decode cX0_tailsThatMeet 22 = .ok (.getstatic 85, 3) := by decide +kernel
theorem dX0_tailsThatMeet_25 : decode cX0_tailsThatMeet 25 = .ok (.iload 4, 2) := by decide +kernel
theorem dX0_tailsThatMeet_27 : decode cX0_tailsThatMeet 27 = .ok (.laload, 1) := by decide +kernel
theorem dX0_tailsThatMeet_28 : decode cX0_tailsThatMeet 28 = .ok (.lor, 1) := by decide +kernel
theorem dX0_tailsThatMeet_29 : decode cX0_tailsThatMeet 29 = .ok (.lstore_n 2, 1) := by decide +kernel
theorem dX0_tailsThatMeet_30 : decode cX0_tailsThatMeet 30 = .ok (.iload_n 1, 1) := by decide +kernel
theorem dX0_tailsThatMeet_31 : decode cX0_tailsThatMeet 31 = .ok (.iload 4, 2) := by decide +kernel
theorem dX0_tailsThatMeet_33 : decode cX0_tailsThatMeet 33 = .ok (.invokestatic 46, 3) := by decide +kernel
theorem dX0_tailsThatMeet_36 : decode cX0_tailsThatMeet 36 = .ok (.ifCond .eq 16, 3) := by decide +kernel
theorem dX0_tailsThatMeet_39 : decode cX0_tailsThatMeet 39 = .ok (.lload_n 2, 1) := by decide +kernel
theorem dX0_tailsThatMeet_40 : decode cX0_tailsThatMeet 40 = .ok (.getstatic 85, 3) := by decide +kernel
theorem dX0_tailsThatMeet_43 : decode cX0_tailsThatMeet 43 = .ok (.iload 4, 2) := by decide +kernel
theorem dX0_tailsThatMeet_45 : decode cX0_tailsThatMeet 45 = .ok (.laload, 1) := by decide +kernel
theorem dX0_tailsThatMeet_46 : decode cX0_tailsThatMeet 46 = .ok (.ldc2_w 88, 3) := by decide +kernel
theorem dX0_tailsThatMeet_49 : decode cX0_tailsThatMeet 49 = .ok (.lxor, 1) := by decide +kernel
theorem dX0_tailsThatMeet_50 : decode cX0_tailsThatMeet 50 = .ok (.lor, 1) := by decide +kernel
theorem dX0_tailsThatMeet_51 : decode cX0_tailsThatMeet 51 = .ok (.lstore_n 2, 1) := by decide +kernel
theorem dX0_tailsThatMeet_52 : decode cX0_tailsThatMeet 52 = .ok (.iinc 4 1, 3) := by decide +kernel
theorem dX0_tailsThatMeet_55 : decode cX0_tailsThatMeet 55 = .ok (.goto (-50), 3) := by decide +kernel
theorem dX0_tailsThatMeet_58 : decode cX0_tailsThatMeet 58 = .ok (.lload_n 2, 1) := by decide +kernel
theorem dX0_tailsThatMeet_59 : decode cX0_tailsThatMeet 59 = .ok (.lreturn, 1) := by decide +kernel
set_option maxRecDepth 20000 in
theorem ggX0_firstAnswer_X0_firstBelow : GoodIn wsX0_firstAnswer wsX0_firstBelow := goodIn_r _ [6, 7, 8, 9, 10, 5, 11, 12, 13, 14, 15, 16, 17, 18, 19, 20, 21, 22, 23, 24, 25, 1, 26, 27, 28, 29, 30, 31, 32, 33, 2, 3, 4, 34, 35, 36, 37, 38, 39, 40, 41, 42, 43] (by decide +kernel) (by decide +kernel)
set_option maxRecDepth 20000 in
theorem gX0_firstAnswer_X0_firstBelow : GoodIn wsX0_firstAnswer (wsV RX0 90 RX0 yX0_firstBelow wsX0_firstBelow) := goodIn_app (goodIn_of _ (by decide +kernel)) ggX0_firstAnswer_X0_firstBelow
theorem dX0_firstAnswer_0 : decode cX0_firstAnswer 0 = .ok (.aload_n 0, 1) := by decide +kernel
theorem dX0_firstAnswer_1 : decode cX0_firstAnswer 1 = .ok (.iconst 0, 1) := by decide +kernel
theorem dX0_firstAnswer_2 : decode cX0_firstAnswer 2 = .ok (.iconst 0, 1) := by decide +kernel
theorem dX0_firstAnswer_3 : decode cX0_firstAnswer 3 = .ok (.ldc2_w 88, 3) := by decide +kernel
theorem dX0_firstAnswer_6 : decode cX0_firstAnswer 6 = .ok (.invokevirtual 90, 3) := by decide +kernel
theorem dX0_firstAnswer_9 : decode cX0_firstAnswer 9 = .ok (.ireturn, 1) := by decide +kernel
set_option maxRecDepth 20000 in
theorem ggX0_firstBelow_X0_narrowed : GoodIn wsX0_firstBelow wsX0_narrowed := goodIn_r _ [6, 7, 8, 9, 10, 11, 12, 5, 13, 14, 15, 33, 34, 35, 36, 37, 38, 39, 40, 41, 42] (by decide +kernel) (by decide +kernel)
set_option maxRecDepth 20000 in
theorem gX0_firstBelow_X0_narrowed : GoodIn wsX0_firstBelow (wsV RX0 94 RX0 yX0_narrowed wsX0_narrowed) := goodIn_app (goodIn_of _ (by decide +kernel)) ggX0_firstBelow_X0_narrowed
set_option maxRecDepth 20000 in
theorem ggX0_firstBelow_X0_firstTail : GoodIn wsX0_firstBelow wsX0_firstTail := goodIn_r _ [19, 20, 21, 22, 1, 23, 24, 5, 25, 33, 34, 35, 36, 37, 38, 39, 40, 41, 42] (by decide +kernel) (by decide +kernel)
set_option maxRecDepth 20000 in
theorem gX0_firstBelow_X0_firstTail : GoodIn wsX0_firstBelow (wsV RX0 98 RX0 yX0_firstTail wsX0_firstTail) := goodIn_app (goodIn_of _ (by decide +kernel)) ggX0_firstBelow_X0_firstTail
set_option maxRecDepth 20000 in
theorem ggX0_firstBelow_X0_firstOfBoth : GoodIn wsX0_firstBelow wsX0_firstOfBoth := goodIn_r _ [29, 22, 30, 31, 32, 5, 0, 1, 2, 3, 4, 6, 7, 8, 9, 10, 11, 12, 13, 14, 15, 16, 17, 18, 19, 20, 21, 23, 24, 25, 26, 27, 28, 33, 34, 35, 36, 37, 38, 39, 40, 41, 42] (by decide +kernel) (by decide +kernel)
set_option maxRecDepth 20000 in
theorem gX0_firstBelow_X0_firstOfBoth : GoodIn wsX0_firstBelow (wsV RX0 102 RX0 yX0_firstOfBoth wsX0_firstOfBoth) := goodIn_app (goodIn_of _ (by decide +kernel)) ggX0_firstBelow_X0_firstOfBoth
theorem dX0_firstBelow_0 : decode cX0_firstBelow 0 = .ok (.aload_n 0, 1) := by decide +kernel
theorem dX0_firstBelow_1 : decode cX0_firstBelow 1 = .ok (.iload_n 1, 1) := by decide +kernel
theorem dX0_firstBelow_2 : decode cX0_firstBelow 2 = .ok (.iload_n 2, 1) := by decide +kernel
theorem dX0_firstBelow_3 : decode cX0_firstBelow 3 = .ok (.lload_n 3, 1) := by decide +kernel
theorem dX0_firstBelow_4 : decode cX0_firstBelow 4 = .ok (.invokevirtual 94, 3) := by decide +kernel
theorem dX0_firstBelow_7 : decode cX0_firstBelow 7 = .ok (.lstore 5, 2) := by decide +kernel
theorem dX0_firstBelow_9 : decode cX0_firstBelow 9 = .ok (.lload 5, 2) := by decide +kernel
theorem dX0_firstBelow_11 : decode cX0_firstBelow 11 = .ok (.lconst 0, 1) := by decide +kernel
theorem dX0_firstBelow_12 : decode cX0_firstBelow 12 = .ok (.lcmp, 1) := by decide +kernel
theorem dX0_firstBelow_13 : decode cX0_firstBelow 13 = .ok (.ifCond .ne 6, 3) := by decide +kernel
theorem dX0_firstBelow_16 : decode cX0_firstBelow 16 = .ok (.bipush (-2), 2) := by decide +kernel
theorem dX0_firstBelow_18 : decode cX0_firstBelow 18 = .ok (.ireturn, 1) := by decide +kernel
theorem dX0_firstBelow_19 : decode cX0_firstBelow 19 = .ok (.iload_n 1, 1) := by decide +kernel
theorem dX0_firstBelow_20 : decode cX0_firstBelow 20 = .ok (.aload_n 0, 1) := by decide +kernel
theorem dX0_firstBelow_21 : decode cX0_firstBelow 21 = .ok (.getfield 22, 3) := by decide +kernel
theorem dX0_firstBelow_24 : decode cX0_firstBelow 24 = .ok (.if_icmp .lt 17, 3) := by decide +kernel
theorem dX0_firstBelow_27 : decode cX0_firstBelow 27 = .ok (.iload_n 2, 1) := by decide +kernel
theorem dX0_firstBelow_28 : decode cX0_firstBelow 28 = .ok (.aload_n 0, 1) := by decide +kernel
theorem dX0_firstBelow_29 : decode cX0_firstBelow 29 = .ok (.lload 5, 2) := by decide +kernel
theorem dX0_firstBelow_31 : decode cX0_firstBelow 31 = .ok (.invokevirtual 98, 3) := by decide +kernel
theorem dX0_firstBelow_34 : decode cX0_firstBelow 34 = .ok (.aload_n 0, 1) := by decide +kernel
theorem dX0_firstBelow_35 : decode cX0_firstBelow 35 = .ok (.getfield 22, 3) := by decide +kernel
theorem dX0_firstBelow_38 : decode cX0_firstBelow 38 = .ok (.ishl, 1) := by decide +kernel
theorem dX0_firstBelow_39 : decode cX0_firstBelow 39 = .ok (.ior, 1) := by decide +kernel
theorem dX0_firstBelow_40 : decode cX0_firstBelow 40 = .ok (.ireturn, 1) := by decide +kernel
theorem dX0_firstBelow_41 : decode cX0_firstBelow 41 = .ok (.aload_n 0, 1) := by decide +kernel
theorem dX0_firstBelow_42 : decode cX0_firstBelow 42 = .ok (.iload_n 1, 1) := by decide +kernel
theorem dX0_firstBelow_43 : decode cX0_firstBelow 43 = .ok (.iload_n 2, 1) := by decide +kernel
theorem dX0_firstBelow_44 : decode cX0_firstBelow 44 = .ok (.lload 5, 2) := by decide +kernel
theorem dX0_firstBelow_46 : decode cX0_firstBelow 46 = .ok (.invokevirtual 102, 3) := by decide +kernel
theorem dX0_firstBelow_49 : decode cX0_firstBelow 49 = .ok (.ireturn, 1) := by decide +kernel
set_option maxRecDepth 20000 in
theorem ggX0_firstOfBoth_X0_firstBelow : GoodIn wsX0_firstOfBoth wsX0_firstBelow := goodIn_r _ [6, 7, 8, 9, 10, 5, 11, 12, 13, 14, 15, 16, 17, 18, 19, 20, 21, 22, 23, 24, 25, 26, 1, 27, 28, 29, 30, 31, 32, 0, 2, 3, 4, 33, 34, 35, 36, 37, 38, 39, 40, 41, 42] (by decide +kernel) (by decide +kernel)
set_option maxRecDepth 20000 in
theorem gX0_firstOfBoth_X0_firstBelow : GoodIn wsX0_firstOfBoth (wsV RX0 90 RX0 yX0_firstBelow wsX0_firstBelow) := goodIn_app (goodIn_of _ (by decide +kernel)) ggX0_firstOfBoth_X0_firstBelow
theorem dX0_firstOfBoth_0 : decode cX0_firstOfBoth 0 = .ok (.aload_n 0, 1) := by decide +kernel
theorem dX0_firstOfBoth_1 : decode cX0_firstOfBoth 1 = .ok (.getfield 43, 3) := by decide +kernel
theorem dX0_firstOfBoth_4 : decode cX0_firstOfBoth 4 = .ok (.iconst 1, 1) := by decide +kernel
theorem dX0_firstOfBoth_5 : decode cX0_firstOfBoth 5 = .ok (.iload_n 1, 1) := by decide +kernel
theorem dX0_firstOfBoth_6 : decode cX0_firstOfBoth 6 = .ok (.ishl, 1) := by decide +kernel
theorem dX0_firstOfBoth_7 : decode cX0_firstOfBoth 7 = .ok (.iand, 1) := by decide +kernel
theorem dX0_firstOfBoth_8 : decode cX0_firstOfBoth 8 = .ok (.istore 5, 2) := by decide +kernel
theorem dX0_firstOfBoth_10 : decode cX0_firstOfBoth 10 = .ok (.aload_n 0, 1) := by decide +kernel
theorem dX0_firstOfBoth_11 : decode cX0_firstOfBoth 11 = .ok (.iload_n 1, 1) := by decide +kernel
theorem dX0_firstOfBoth_12 : decode cX0_firstOfBoth 12 = .ok (.iconst 1, 1) := by decide +kernel
theorem dX0_firstOfBoth_13 : decode cX0_firstOfBoth 13 = .ok (.iadd, 1) := by decide +kernel
theorem dX0_firstOfBoth_14 : decode cX0_firstOfBoth 14 = .ok (.iload_n 2, 1) := by decide +kernel
theorem dX0_firstOfBoth_15 : decode cX0_firstOfBoth 15 = .ok (.iload 5, 2) := by decide +kernel
theorem dX0_firstOfBoth_17 : decode cX0_firstOfBoth 17 = .ok (.ior, 1) := by decide +kernel
theorem dX0_firstOfBoth_18 : decode cX0_firstOfBoth 18 = .ok (.lload_n 3, 1) := by decide +kernel
theorem dX0_firstOfBoth_19 : decode cX0_firstOfBoth 19 = .ok (.invokevirtual 90, 3) := by decide +kernel
theorem dX0_firstOfBoth_22 : decode cX0_firstOfBoth 22 = .ok (.istore 6, 2) := by decide +kernel
theorem dX0_firstOfBoth_24 : decode cX0_firstOfBoth 24 = .ok (.iload 6, 2) := by decide +kernel
theorem dX0_firstOfBoth_26 : decode cX0_firstOfBoth 26 = .ok (.bipush (-2), 2) := by decide +kernel
theorem dX0_firstOfBoth_28 : decode cX0_firstOfBoth 28 = .ok (.if_icmp .eq 6, 3) := by decide +kernel
theorem dX0_firstOfBoth_31 : decode cX0_firstOfBoth 31 = .ok (.iload 6, 2) := by decide +kernel
theorem dX0_firstOfBoth_33 : decode cX0_firstOfBoth 33 = .ok (.ireturn, 1) := by decide +kernel
theorem dX0_firstOfBoth_34 : decode cX0_firstOfBoth 34 = .ok (.iload 5, 2) := by decide +kernel
theorem dX0_firstOfBoth_36 : decode cX0_firstOfBoth 36 = .ok (.iconst 1, 1) := by decide +kernel
theorem dX0_firstOfBoth_37 : decode cX0_firstOfBoth 37 = .ok (.iload_n 1, 1) := by decide +kernel
theorem dX0_firstOfBoth_38 : decode cX0_firstOfBoth 38 = .ok (.ishl, 1) := by decide +kernel
theorem dX0_firstOfBoth_39 : decode cX0_firstOfBoth 39 = .ok (.ixor, 1) := by decide +kernel
theorem dX0_firstOfBoth_40 : decode cX0_firstOfBoth 40 = .ok (.istore 7, 2) := by decide +kernel
theorem dX0_firstOfBoth_42 : decode cX0_firstOfBoth 42 = .ok (.aload_n 0, 1) := by decide +kernel
theorem dX0_firstOfBoth_43 : decode cX0_firstOfBoth 43 = .ok (.iload_n 1, 1) := by decide +kernel
theorem dX0_firstOfBoth_44 : decode cX0_firstOfBoth 44 = .ok (.iconst 1, 1) := by decide +kernel
theorem dX0_firstOfBoth_45 : decode cX0_firstOfBoth 45 = .ok (.iadd, 1) := by decide +kernel
theorem dX0_firstOfBoth_46 : decode cX0_firstOfBoth 46 = .ok (.iload_n 2, 1) := by decide +kernel
theorem dX0_firstOfBoth_47 : decode cX0_firstOfBoth 47 = .ok (.iload 7, 2) := by decide +kernel
theorem dX0_firstOfBoth_49 : decode cX0_firstOfBoth 49 = .ok (.ior, 1) := by decide +kernel
theorem dX0_firstOfBoth_50 : decode cX0_firstOfBoth 50 = .ok (.lload_n 3, 1) := by decide +kernel
theorem dX0_firstOfBoth_51 : decode cX0_firstOfBoth 51 = .ok (.invokevirtual 90, 3) := by decide +kernel
theorem dX0_firstOfBoth_54 : decode cX0_firstOfBoth 54 = .ok (.ireturn, 1) := by decide +kernel
set_option maxRecDepth 20000 in
theorem ggX0_narrowed_X0_headMeets : GoodIn wsX0_narrowed wsX0_headMeets := goodIn_r _ [8, 9, 10, 11, 12, 13, 14, 15, 16, 17, 18, 19, 20] (by decide +kernel) (by decide +kernel)
set_option maxRecDepth 20000 in
theorem gX0_narrowed_X0_headMeets : GoodIn wsX0_narrowed (wsV RX0 105 RX0 yX0_headMeets wsX0_headMeets) := goodIn_app (goodIn_of _ (by decide +kernel)) ggX0_narrowed_X0_headMeets
theorem dX0_narrowed_0 : decode cX0_narrowed 0 = .ok (.lload_n 3, 1) := by decide +kernel
theorem dX0_narrowed_1 : decode cX0_narrowed 1 = .ok (.lstore 5, 2) := by decide +kernel
theorem dX0_narrowed_3 : decode cX0_narrowed 3 = .ok (.iconst 0, 1) := by decide +kernel
theorem dX0_narrowed_4 : decode cX0_narrowed 4 = .ok (.istore 7, 2) := by decide +kernel
theorem dX0_narrowed_6 : decode cX0_narrowed 6 = .ok (.iload 7, 2) := by decide +kernel
theorem dX0_narrowed_8 : decode cX0_narrowed 8 = .ok (.aload_n 0, 1) := by decide +kernel
theorem dX0_narrowed_9 : decode cX0_narrowed 9 = .ok (.getfield 67, 3) := by decide +kernel
theorem dX0_narrowed_12 : decode cX0_narrowed 12 = .ok (.if_icmp .ge 49, 3) := by decide +kernel
theorem dX0_narrowed_15 : decode cX0_narrowed 15 = .ok (.lload 5, 2) := by decide +kernel
theorem dX0_narrowed_17 : decode cX0_narrowed 17 = .ok (.lconst 0, 1) := by decide +kernel
theorem dX0_narrowed_18 : decode cX0_narrowed 18 = .ok (.lcmp, 1) := by decide +kernel
theorem dX0_narrowed_19 : decode cX0_narrowed 19 = .ok (.ifCond .eq 42, 3) := by decide +kernel
theorem dX0_narrowed_22 : decode cX0_narrowed 22 = .ok (.aload_n 0, 1) := by decide +kernel
theorem dX0_narrowed_23 : decode cX0_narrowed 23 = .ok (.getfield 32, 3) := by decide +kernel
theorem dX0_narrowed_26 : decode cX0_narrowed 26 = .ok (.iload 7, 2) := by decide +kernel
theorem dX0_narrowed_28 : decode cX0_narrowed 28 = .ok (.iaload, 1) := by decide +kernel
theorem dX0_narrowed_29 : decode cX0_narrowed 29 = .ok (.iload_n 1, 1) := by decide +kernel
theorem dX0_narrowed_30 : decode cX0_narrowed 30 = .ok (.if_icmp .ne 25, 3) := by decide +kernel
theorem dX0_narrowed_33 : decode cX0_narrowed 33 = .ok (.aload_n 0, 1) := by decide +kernel
theorem dX0_narrowed_34 : decode cX0_narrowed 34 = .ok (.iload 7, 2) := by decide +kernel
theorem dX0_narrowed_36 : decode cX0_narrowed 36 = .ok (.iload_n 2, 1) := by decide +kernel
theorem dX0_narrowed_37 : decode cX0_narrowed 37 = .ok (.invokevirtual 105, 3) := by decide +kernel
theorem dX0_narrowed_40 : decode cX0_narrowed 40 = .ok (.ifCond .ne 15, 3) := by decide +kernel
theorem dX0_narrowed_43 : decode cX0_narrowed 43 = .ok (.lload 5, 2) := by decide +kernel
theorem dX0_narrowed_45 : decode cX0_narrowed 45 = .ok (.aload_n 0, 1) := by decide +kernel
theorem dX0_narrowed_46 : decode cX0_narrowed 46 = .ok (.getfield 35, 3) := by decide +kernel
theorem dX0_narrowed_49 : decode cX0_narrowed 49 = .ok (.iload 7, 2) := by decide +kernel
theorem dX0_narrowed_51 : decode cX0_narrowed 51 = .ok (.laload, 1) := by decide +kernel
theorem dX0_narrowed_52 : decode cX0_narrowed 52 = .ok (.land, 1) := by decide +kernel
theorem dX0_narrowed_53 : decode cX0_narrowed 53 = .ok (.lstore 5, 2) := by decide +kernel
theorem dX0_narrowed_55 : decode cX0_narrowed 55 = .ok (.iinc 7 1, 3) := by decide +kernel
theorem dX0_narrowed_58 : decode cX0_narrowed 58 = .ok (.goto (-52), 3) := by decide +kernel
theorem dX0_narrowed_61 : decode cX0_narrowed 61 = .ok (.lload 5, 2) := by decide +kernel
theorem dX0_narrowed_63 : decode cX0_narrowed 63 = .ok (.lreturn, 1) := by decide +kernel
theorem dX0_headMeets_0 : decode cX0_headMeets 0 = .ok (.aload_n 0, 1) := by decide +kernel
theorem dX0_headMeets_1 : decode cX0_headMeets 1 = .ok (.getfield 25, 3) := by decide +kernel
theorem dX0_headMeets_4 : decode cX0_headMeets 4 = .ok (.iload_n 1, 1) := by decide +kernel
theorem dX0_headMeets_5 : decode cX0_headMeets 5 = .ok (.iaload, 1) := by decide +kernel
theorem dX0_headMeets_6 : decode cX0_headMeets 6 = .ok (.iload_n 2, 1) := by decide +kernel
theorem dX0_headMeets_7 : decode cX0_headMeets 7 = .ok (.iand, 1) := by decide +kernel
theorem dX0_headMeets_8 : decode cX0_headMeets 8 = .ok (.aload_n 0, 1) := by decide +kernel
theorem dX0_headMeets_9 : decode cX0_headMeets 9 = .ok (.getfield 29, 3) := by decide +kernel
theorem dX0_headMeets_12 : decode cX0_headMeets 12 = .ok (.iload_n 1, 1) := by decide +kernel
theorem dX0_headMeets_13 : decode cX0_headMeets 13 = .ok (.iaload, 1) := by decide +kernel
theorem dX0_headMeets_14 : decode cX0_headMeets 14 = .ok (.iload_n 2, 1) := by decide +kernel
theorem dX0_headMeets_15 : decode cX0_headMeets 15 = .ok (.iconst (-1), 1) := by decide +kernel
theorem dX0_headMeets_16 : decode cX0_headMeets 16 = .ok (.ixor, 1) := by decide +kernel
theorem dX0_headMeets_17 : decode cX0_headMeets 17 = .ok (.iand, 1) := by decide +kernel
theorem dX0_headMeets_18 : decode cX0_headMeets 18 = .ok (.ior, 1) := by decide +kernel
theorem dX0_headMeets_19 : decode cX0_headMeets 19 = .ok (.ifCond .eq 7, 3) := by decide +kernel
theorem dX0_headMeets_22 : decode cX0_headMeets 22 = .ok (.iconst 1, 1) := by decide +kernel
theorem dX0_headMeets_23 : decode cX0_headMeets 23 = .ok (.goto 4, 3) := by decide +kernel
theorem dX0_headMeets_26 : decode cX0_headMeets 26 = .ok (.iconst 0, 1) := by decide +kernel
theorem dX0_headMeets_27 : decode cX0_headMeets 27 = .ok (.ireturn, 1) := by decide +kernel
set_option maxRecDepth 20000 in
theorem ggX0_firstTail_X0_has : GoodIn wsX0_firstTail wsX0_has := goodIn_r _ [8] (by decide +kernel) (by decide +kernel)
set_option maxRecDepth 20000 in
theorem gX0_firstTail_X0_has : GoodIn wsX0_firstTail (va_wsS RX0 46 yX0_has wsX0_has) := goodIn_app (goodIn_of _ (by decide +kernel)) ggX0_firstTail_X0_has
theorem dX0_firstTail_0 : decode cX0_firstTail 0 = .ok (.lload_n 1, 1) := by decide +kernel
theorem dX0_firstTail_1 : decode cX0_firstTail 1 = .ok (.lstore_n 3, 1) := by decide +kernel
theorem dX0_firstTail_2 : decode cX0_firstTail 2 = .ok (.iconst 0, 1) := by decide +kernel
theorem dX0_firstTail_3 : decode cX0_firstTail 3 = .ok (.istore 5, 2) := by decide +kernel
theorem dX0_firstTail_5 : decode cX0_firstTail 5 = .ok (.iconst 0, 1) := by decide +kernel
theorem dX0_firstTail_6 : decode cX0_firstTail 6 = .ok (.istore 6, 2) := by decide +kernel
theorem dX0_firstTail_8 : decode cX0_firstTail 8 = .ok (.iload 6, 2) := by decide +kernel
theorem dX0_firstTail_10 : decode cX0_firstTail 10 = .ok (.bipush 6, 2) := by decide +kernel
theorem dX0_firstTail_12 : decode cX0_firstTail 12 = .ok (.if_icmp .ge 114, 3) := by decide +kernel
theorem dX0_firstTail_15 : decode cX0_firstTail 15 = .ok (.lload_n 3, 1) := by decide +kernel
theorem dX0_firstTail_16 : decode cX0_firstTail 16 = .ok (.getstatic 85, 3) := by decide +kernel
theorem dX0_firstTail_19 : decode cX0_firstTail 19 = .ok (.iload 6, 2) := by decide +kernel
theorem dX0_firstTail_21 : decode cX0_firstTail 21 = .ok (.laload, 1) := by decide +kernel
theorem dX0_firstTail_22 : decode cX0_firstTail 22 = .ok (.land, 1) := by decide +kernel
theorem dX0_firstTail_23 : decode cX0_firstTail 23 = .ok (.lstore 7, 2) := by decide +kernel
theorem dX0_firstTail_25 : decode cX0_firstTail 25 = .ok (.lload_n 3, 1) := by decide +kernel
theorem dX0_firstTail_26 : decode cX0_firstTail 26 = .ok (.getstatic 85, 3) := by decide +kernel
theorem dX0_firstTail_29 : decode cX0_firstTail 29 = .ok (.iload 6, 2) := by decide +kernel
theorem dX0_firstTail_31 : decode cX0_firstTail 31 = .ok (.laload, 1) := by decide +kernel
theorem dX0_firstTail_32 : decode cX0_firstTail 32 = .ok (.ldc2_w 88, 3) := by decide +kernel
theorem dX0_firstTail_35 : decode cX0_firstTail 35 = .ok (.lxor, 1) := by decide +kernel
theorem dX0_firstTail_36 : decode cX0_firstTail 36 = .ok (.land, 1) := by decide +kernel
theorem dX0_firstTail_37 : decode cX0_firstTail 37 = .ok (.lstore 9, 2) := by decide +kernel
theorem dX0_firstTail_39 : decode cX0_firstTail 39 = .ok (.aload_n 0, 1) := by decide +kernel
theorem dX0_firstTail_40 : decode cX0_firstTail 40 = .ok (.getfield 43, 3) := by decide +kernel
theorem dX0_firstTail_43 : decode cX0_firstTail 43 = .ok (.aload_n 0, 1) := by decide +kernel
theorem dX0_firstTail_44 : decode cX0_firstTail 44 = .ok (.getfield 22, 3) := by decide +kernel
theorem dX0_firstTail_47 : decode cX0_firstTail 47 = .ok (.iload 6, 2) := by decide +kernel
theorem dX0_firstTail_49 : decode cX0_firstTail 49 = .ok (.iadd, 1) := by decide +kernel
theorem dX0_firstTail_50 : decode cX0_firstTail 50 = .ok (.invokestatic 46, 3) := by decide +kernel
theorem dX0_firstTail_53 : decode cX0_firstTail 53 = .ok (.istore 11, 2) := by decide +kernel
theorem dX0_firstTail_55 : decode cX0_firstTail 55 = .ok (.iload 11, 2) := by decide +kernel
theorem dX0_firstTail_57 : decode cX0_firstTail 57 = .ok (.ifCond .eq 18, 3) := by decide +kernel
theorem dX0_firstTail_60 : decode cX0_firstTail 60 = .ok (.lload 7, 2) := by decide +kernel
theorem dX0_firstTail_62 : decode cX0_firstTail 62 = .ok (.lconst 0, 1) := by decide +kernel
theorem dX0_firstTail_63 : decode cX0_firstTail 63 = .ok (.lcmp, 1) := by decide +kernel
theorem dX0_firstTail_64 : decode cX0_firstTail 64 = .ok (.ifCond .eq 7, 3) := by decide +kernel
theorem dX0_firstTail_67 : decode cX0_firstTail 67 = .ok (.iconst 1, 1) := by decide +kernel
theorem dX0_firstTail_68 : decode cX0_firstTail 68 = .ok (.goto 19, 3) := by decide +kernel
theorem dX0_firstTail_71 : decode cX0_firstTail 71 = .ok (.iconst 0, 1) := by decide +kernel
theorem dX0_firstTail_72 : decode cX0_firstTail 72 = .ok (.goto 15, 3) := by decide +kernel
theorem dX0_firstTail_75 : decode cX0_firstTail 75 = .ok (.lload 9, 2) := by decide +kernel
theorem dX0_firstTail_77 : decode cX0_firstTail 77 = .ok (.lconst 0, 1) := by decide +kernel
theorem dX0_firstTail_78 : decode cX0_firstTail 78 = .ok (.lcmp, 1) := by decide +kernel
theorem dX0_firstTail_79 : decode cX0_firstTail 79 = .ok (.ifCond .ne 7, 3) := by decide +kernel
theorem dX0_firstTail_82 : decode cX0_firstTail 82 = .ok (.iconst 1, 1) := by decide +kernel
theorem dX0_firstTail_83 : decode cX0_firstTail 83 = .ok (.goto 4, 3) := by decide +kernel
theorem dX0_firstTail_86 : decode cX0_firstTail 86 = .ok (.iconst 0, 1) := by decide +kernel
theorem dX0_firstTail_87 : decode cX0_firstTail 87 = .ok (.istore 12, 2) := by decide +kernel
theorem dX0_firstTail_89 : decode cX0_firstTail 89 = .ok (.iload 12, 2) := by decide +kernel
theorem dX0_firstTail_91 : decode cX0_firstTail 91 = .ok (.ifCond .eq 8, 3) := by decide +kernel
theorem dX0_firstTail_94 : decode cX0_firstTail 94 = .ok (.lload 7, 2) := by decide +kernel
theorem dX0_firstTail_96 : decode cX0_firstTail 96 = .ok (.goto 5, 3) := by decide +kernel
theorem dX0_firstTail_99 : decode cX0_firstTail 99 = .ok (.lload 9, 2) := by decide +kernel
theorem dX0_firstTail_101 : decode cX0_firstTail 101 = .ok (.lstore_n 3, 1) := by decide +kernel
theorem dX0_firstTail_102 : decode cX0_firstTail 102 = .ok (.iload 5, 2) := by decide +kernel
theorem dX0_firstTail_104 : decode cX0_firstTail 104 = .ok (.iload 12, 2) := by decide +kernel
theorem dX0_firstTail_106 : decode cX0_firstTail 106 = .ok (.ifCond .eq 10, 3) := by decide +kernel
theorem dX0_firstTail_109 : decode cX0_firstTail 109 = .ok (.iconst 1, 1) := by decide +kernel
theorem dX0_firstTail_110 : decode cX0_firstTail 110 = .ok (.iload 6, 2) := by decide +kernel
theorem dX0_firstTail_112 : decode cX0_firstTail 112 = .ok (.ishl, 1) := by decide +kernel
theorem dX0_firstTail_113 : decode cX0_firstTail 113 = .ok (.goto 4, 3) := by decide +kernel
theorem dX0_firstTail_116 : decode cX0_firstTail 116 = .ok (.iconst 0, 1) := by decide +kernel
theorem dX0_firstTail_117 : decode cX0_firstTail 117 = .ok (.ior, 1) := by decide +kernel
theorem dX0_firstTail_118 : decode cX0_firstTail 118 = .ok (.istore 5, 2) := by decide +kernel
theorem dX0_firstTail_120 : decode cX0_firstTail 120 = .ok (.iinc 6 1, 3) := by decide +kernel
theorem dX0_firstTail_123 : decode cX0_firstTail 123 = .ok (.goto (-115), 3) := by decide +kernel
theorem dX0_firstTail_126 : decode cX0_firstTail 126 = .ok (.iload 5, 2) := by decide +kernel
theorem dX0_firstTail_128 : decode cX0_firstTail 128 = .ok (.ireturn, 1) := by decide +kernel
theorem dX1_init_0 : decode cX1_init 0 = .ok (.aload_n 0, 1) := by decide +kernel
theorem dX1_init_1 : decode cX1_init 1 = .ok (.invokespecial 1, 3) := by decide +kernel
theorem dX1_init_4 : decode cX1_init 4 = .ok (.aload_n 0, 1) := by decide +kernel
theorem dX1_init_5 : decode cX1_init 5 = .ok (.bipush 16, 2) := by decide +kernel
theorem dX1_init_7 : decode cX1_init 7 = .ok (.newarray .boolean, 2) := by decide +kernel
theorem dX1_init_9 : decode cX1_init 9 = .ok (.putfield 7, 3) := by decide +kernel
theorem dX1_init_12 : decode cX1_init 12 = .ok (.aload_n 0, 1) := by decide +kernel
theorem dX1_init_13 : decode cX1_init 13 = .ok (.sipush 400, 3) := by decide +kernel
theorem dX1_init_16 : decode cX1_init 16 = .ok (.newarray .int, 2) := by decide +kernel
theorem dX1_init_18 : decode cX1_init 18 = .ok (.putfield 13, 3) := by decide +kernel
theorem dX1_init_21 : decode cX1_init 21 = .ok (.aload_n 0, 1) := by decide +kernel
theorem dX1_init_22 : decode cX1_init 22 = .ok (.sipush 400, 3) := by decide +kernel
theorem dX1_init_25 : decode cX1_init 25 = .ok (.newarray .int, 2) := by decide +kernel
theorem dX1_init_27 : decode cX1_init 27 = .ok (.putfield 17, 3) := by decide +kernel
theorem dX1_init_30 : decode cX1_init 30 = .ok (.aload_n 0, 1) := by decide +kernel
theorem dX1_init_31 : decode cX1_init 31 = .ok (.iload_n 1, 1) := by decide +kernel
theorem dX1_init_32 : decode cX1_init 32 = .ok (.iconst 1, 1) := by decide +kernel
theorem dX1_init_33 : decode cX1_init 33 = .ok (.if_icmp .ge 7, 3) := by decide +kernel
theorem dX1_init_36 : decode cX1_init 36 = .ok (.iconst 1, 1) := by decide +kernel
theorem dX1_init_37 : decode cX1_init 37 = .ok (.goto 15, 3) := by decide +kernel
theorem dX1_init_40 : decode cX1_init 40 = .ok (.iload_n 1, 1) := by decide +kernel
theorem dX1_init_41 : decode cX1_init 41 = .ok (.bipush 16, 2) := by decide +kernel
theorem dX1_init_43 : decode cX1_init 43 = .ok (.if_icmp .le 8, 3) := by decide +kernel
theorem dX1_init_46 : decode cX1_init 46 = .ok (.bipush 16, 2) := by decide +kernel
theorem dX1_init_48 : decode cX1_init 48 = .ok (.goto 4, 3) := by decide +kernel
theorem dX1_init_51 : decode cX1_init 51 = .ok (.iload_n 1, 1) := by decide +kernel
theorem dX1_init_52 : decode cX1_init 52 = .ok (.putfield 20, 3) := by decide +kernel
theorem dX1_init_55 : decode cX1_init 55 = .ok (.return_, 1) := by decide +kernel
theorem dX1_is_0 : decode cX1_is 0 = .ok (.iload_n 1, 1) := by decide +kernel
theorem dX1_is_1 : decode cX1_is 1 = .ok (.ifCond .lt 15, 3) := by decide +kernel
theorem dX1_is_4 : decode cX1_is 4 = .ok (.iload_n 1, 1) := by decide +kernel
theorem dX1_is_5 : decode cX1_is 5 = .ok (.aload_n 0, 1) := by decide +kernel
theorem dX1_is_6 : decode cX1_is 6 = .ok (.getfield 20, 3) := by decide +kernel
theorem dX1_is_9 : decode cX1_is 9 = .ok (.if_icmp .ge 7, 3) := by decide +kernel
theorem dX1_is_12 : decode cX1_is 12 = .ok (.iconst 1, 1) := by decide +kernel
theorem dX1_is_13 : decode cX1_is 13 = .ok (.goto 4, 3) := by decide +kernel
theorem dX1_is_16 : decode cX1_is 16 = .ok (.iconst 0, 1) := by decide +kernel
theorem dX1_is_17 : decode cX1_is 17 = .ok (.ireturn, 1) := by decide +kernel
set_option maxRecDepth 20000 in
theorem ggX1_wish_X1_is : GoodIn wsX1_wish wsX1_is := goodIn_r _ [7, 8, 9, 10, 11, 12, 13, 14, 15, 16, 17] (by decide +kernel) (by decide +kernel)
set_option maxRecDepth 20000 in
theorem gX1_wish_X1_is : GoodIn wsX1_wish (wsV RX1 24 RX1 yX1_is wsX1_is) := goodIn_app (goodIn_of _ (by decide +kernel)) ggX1_wish_X1_is
theorem dX1_wish_0 : decode cX1_wish 0 = .ok (.aload_n 0, 1) := by decide +kernel
theorem dX1_wish_1 : decode cX1_wish 1 = .ok (.iload_n 1, 1) := by decide +kernel
theorem dX1_wish_2 : decode cX1_wish 2 = .ok (.invokevirtual 24, 3) := by decide +kernel
theorem dX1_wish_5 : decode cX1_wish 5 = .ok (.ifCond .ne 5, 3) := by decide +kernel
theorem dX1_wish_8 : decode cX1_wish 8 = .ok (.iconst 0, 1) := by decide +kernel
theorem dX1_wish_9 : decode cX1_wish 9 = .ok (.ireturn, 1) := by decide +kernel
theorem dX1_wish_10 : decode cX1_wish 10 = .ok (.aload_n 0, 1) := by decide +kernel
theorem dX1_wish_11 : decode cX1_wish 11 = .ok (.getfield 7, 3) := by decide +kernel
theorem dX1_wish_14 : decode cX1_wish 14 = .ok (.iload_n 1, 1) := by decide +kernel
theorem dX1_wish_15 : decode cX1_wish 15 = .ok (.baload, 1) := by decide +kernel
theorem dX1_wish_16 : decode cX1_wish 16 = .ok (.istore_n 3, 1) := by decide +kernel
theorem dX1_wish_17 : decode cX1_wish 17 = .ok (.aload_n 0, 1) := by decide +kernel
theorem dX1_wish_18 : decode cX1_wish 18 = .ok (.getfield 7, 3) := by decide +kernel
theorem dX1_wish_21 : decode cX1_wish 21 = .ok (.iload_n 1, 1) := by decide +kernel
theorem dX1_wish_22 : decode cX1_wish 22 = .ok (.iload_n 2, 1) := by decide +kernel
theorem dX1_wish_23 : decode cX1_wish 23 = .ok (.bastore, 1) := by decide +kernel
theorem dX1_wish_24 : decode cX1_wish 24 = .ok (.aload_n 0, 1) := by decide +kernel
theorem dX1_wish_25 : decode cX1_wish 25 = .ok (.iconst 0, 1) := by decide +kernel
theorem dX1_wish_26 : decode cX1_wish 26 = .ok (.putfield 28, 3) := by decide +kernel
theorem dX1_wish_29 : decode cX1_wish 29 = .ok (.iload_n 3, 1) := by decide +kernel
theorem dX1_wish_30 : decode cX1_wish 30 = .ok (.ireturn, 1) := by decide +kernel
theorem dX1_bits_0 : decode cX1_bits 0 = .ok (.iconst 0, 1) := by decide +kernel
theorem dX1_bits_1 : decode cX1_bits 1 = .ok (.istore_n 1, 1) := by decide +kernel
theorem dX1_bits_2 : decode cX1_bits 2 = .ok (.iconst 0, 1) := by decide +kernel
theorem dX1_bits_3 : decode cX1_bits 3 = .ok (.istore_n 2, 1) := by decide +kernel
theorem dX1_bits_4 : decode cX1_bits 4 = .ok (.iload_n 2, 1) := by decide +kernel
theorem dX1_bits_5 : decode cX1_bits 5 = .ok (.bipush 16, 2) := by decide +kernel
theorem dX1_bits_7 : decode cX1_bits 7 = .ok (.if_icmp .ge 17, 3) := by decide +kernel
theorem dX1_bits_10 : decode cX1_bits 10 = .ok (.iload_n 1, 1) := by decide +kernel
theorem dX1_bits_11 : decode cX1_bits 11 = .ok (.iload_n 0, 1) := by decide +kernel
theorem dX1_bits_12 : decode cX1_bits 12 = .ok (.iload_n 2, 1) := by decide +kernel
theorem dX1_bits_13 : decode cX1_bits 13 = .ok (.ishr, 1) := by decide +kernel
theorem dX1_bits_14 : decode cX1_bits 14 = .ok (.iconst 1, 1) := by decide +kernel
theorem dX1_bits_15 : decode cX1_bits 15 = .ok (.iand, 1) := by decide +kernel
theorem dX1_bits_16 : decode cX1_bits 16 = .ok (.iadd, 1) := by decide +kernel
theorem dX1_bits_17 : decode cX1_bits 17 = .ok (.istore_n 1, 1) := by decide +kernel
theorem dX1_bits_18 : decode cX1_bits 18 = .ok (.iinc 2 1, 3) := by decide +kernel
theorem dX1_bits_21 : decode cX1_bits 21 = .ok (.goto (-17), 3) := by decide +kernel
theorem dX1_bits_24 : decode cX1_bits 24 = .ok (.iload_n 1, 1) := by decide +kernel
theorem dX1_bits_25 : decode cX1_bits 25 = .ok (.ireturn, 1) := by decide +kernel
set_option maxRecDepth 20000 in
theorem ggX1_literal_X1_is : GoodIn wsX1_literal wsX1_is := goodIn_r _ [7, 8, 12, 13, 14, 15, 16, 17, 18, 19, 20] (by decide +kernel) (by decide +kernel)
set_option maxRecDepth 20000 in
theorem gX1_literal_X1_is : GoodIn wsX1_literal (wsV RX1 24 RX1 yX1_is wsX1_is) := goodIn_app (goodIn_of _ (by decide +kernel)) ggX1_literal_X1_is
set_option maxRecDepth 20000 in
theorem ggX1_literal_X1_bits : GoodIn wsX1_literal wsX1_bits := goodIn_r _ [11] (by decide +kernel) (by decide +kernel)
set_option maxRecDepth 20000 in
theorem gX1_literal_X1_bits : GoodIn wsX1_literal (va_wsS RX1 38 yX1_bits wsX1_bits) := goodIn_app (goodIn_of _ (by decide +kernel)) ggX1_literal_X1_bits
theorem dX1_literal_0 : decode cX1_literal 0 = .ok (.aload_n 0, 1) := by decide +kernel
theorem dX1_literal_1 : decode cX1_literal 1 = .ok (.iload_n 1, 1) := by decide +kernel
theorem dX1_literal_2 : decode cX1_literal 2 = .ok (.invokevirtual 24, 3) := by decide +kernel
theorem dX1_literal_5 : decode cX1_literal 5 = .ok (.ifCond .ne 5, 3) := by decide +kernel
theorem dX1_literal_8 : decode cX1_literal 8 = .ok (.iconst (-1), 1) := by decide +kernel
theorem dX1_literal_9 : decode cX1_literal 9 = .ok (.ireturn, 1) := by decide +kernel
theorem dX1_literal_10 : decode cX1_literal 10 = .ok (.iload_n 2, 1) := by decide +kernel
theorem dX1_literal_11 : decode cX1_literal 11 = .ok (.ifCond .eq 18, 3) := by decide +kernel
theorem dX1_literal_14 : decode cX1_literal 14 = .ok (.aload_n 0, 1) := by decide +kernel
theorem dX1_literal_15 : decode cX1_literal 15 = .ok (.dup, 1) := by decide +kernel
theorem dX1_literal_16 : decode cX1_literal 16 = .ok (.getfield 32, 3) := by decide +kernel
theorem dX1_literal_19 : decode cX1_literal 19 = .ok (.iconst 1, 1) := by decide +kernel
theorem dX1_literal_20 : decode cX1_literal 20 = .ok (.iload_n 1, 1) := by decide +kernel
theorem dX1_literal_21 : decode cX1_literal 21 = .ok (.ishl, 1) := by decide +kernel
theorem dX1_literal_22 : decode cX1_literal 22 = .ok (.ior, 1) := by decide +kernel
theorem dX1_literal_23 : decode cX1_literal 23 = .ok (.putfield 32, 3) := by decide +kernel
theorem dX1_literal_26 : decode cX1_literal 26 = .ok (.goto 15, 3) := by decide +kernel
theorem dX1_literal_29 : decode cX1_literal 29 = .ok (.aload_n 0, 1) := by decide +kernel
theorem dX1_literal_30 : decode cX1_literal 30 = .ok (.dup, 1) := by decide +kernel
theorem dX1_literal_31 : decode cX1_literal 31 = .ok (.getfield 35, 3) := by decide +kernel
theorem dX1_literal_34 : decode cX1_literal 34 = .ok (.iconst 1, 1) := by decide +kernel
theorem dX1_literal_35 : decode cX1_literal 35 = .ok (.iload_n 1, 1) := by decide +kernel
theorem dX1_literal_36 : decode cX1_literal 36 = .ok (.ishl, 1) := by decide +kernel
theorem dX1_literal_37 : decode cX1_literal 37 = .ok (.ior, 1) := by decide +kernel
theorem dX1_literal_38 : decode cX1_literal 38 = .ok (.putfield 35, 3) := by decide +kernel
theorem dX1_literal_41 : decode cX1_literal 41 = .ok (.aload_n 0, 1) := by decide +kernel
theorem dX1_literal_42 : decode cX1_literal 42 = .ok (.getfield 32, 3) := by decide +kernel
theorem dX1_literal_45 : decode cX1_literal 45 = .ok (.invokestatic 38, 3) := by decide +kernel
theorem dX1_literal_48 : decode cX1_literal 48 = .ok (.aload_n 0, 1) := by decide +kernel
theorem dX1_literal_49 : decode cX1_literal 49 = .ok (.getfield 35, 3) := by decide +kernel
theorem dX1_literal_52 : decode cX1_literal 52 = .ok (.invokestatic 38, 3) := by decide +kernel
theorem dX1_literal_55 : decode cX1_literal 55 = .ok (.iadd, 1) := by decide +kernel
theorem dX1_literal_56 : decode cX1_literal 56 = .ok (.ireturn, 1) := by decide +kernel
set_option maxRecDepth 20000 in
theorem ggX1_clause_X1_some : GoodIn wsX1_clause wsX1_some := goodIn_r _ [8, 1, 9, 10, 11, 12, 13, 14, 15, 16, 17, 18, 19, 20, 21] (by decide +kernel) (by decide +kernel)
set_option maxRecDepth 20000 in
theorem gX1_clause_X1_some : GoodIn wsX1_clause (wsV RX1 45 RX1 yX1_some wsX1_some) := goodIn_app (goodIn_of _ (by decide +kernel)) ggX1_clause_X1_some
theorem dX1_clause_0 : decode cX1_clause 0 = .ok (.aload_n 0, 1) := by decide +kernel
theorem dX1_clause_1 : decode cX1_clause 1 = .ok (.getfield 42, 3) := by decide +kernel
theorem dX1_clause_4 : decode cX1_clause 4 = .ok (.sipush 400, 3) := by decide +kernel
theorem dX1_clause_7 : decode cX1_clause 7 = .ok (.if_icmp .ne 6, 3) := by decide +kernel
theorem dX1_clause_10 : decode cX1_clause 10 = .ok (.bipush (-3), 2) := by decide +kernel
theorem dX1_clause_12 : decode cX1_clause 12 = .ok (.ireturn, 1) := by decide +kernel
theorem dX1_clause_13 : decode cX1_clause 13 = .ok (.aload_n 0, 1) := by decide +kernel
theorem dX1_clause_14 : decode cX1_clause 14 = .ok (.aload_n 0, 1) := by decide +kernel
theorem dX1_clause_15 : decode cX1_clause 15 = .ok (.getfield 32, 3) := by decide +kernel
theorem dX1_clause_18 : decode cX1_clause 18 = .ok (.aload_n 0, 1) := by decide +kernel
theorem dX1_clause_19 : decode cX1_clause 19 = .ok (.getfield 35, 3) := by decide +kernel
theorem dX1_clause_22 : decode cX1_clause 22 = .ok (.invokevirtual 45, 3) := by decide +kernel
theorem dX1_clause_25 : decode cX1_clause 25 = .ok (.pop, 1) := by decide +kernel
theorem dX1_clause_26 : decode cX1_clause 26 = .ok (.aload_n 0, 1) := by decide +kernel
theorem dX1_clause_27 : decode cX1_clause 27 = .ok (.iconst 0, 1) := by decide +kernel
theorem dX1_clause_28 : decode cX1_clause 28 = .ok (.putfield 32, 3) := by decide +kernel
theorem dX1_clause_31 : decode cX1_clause 31 = .ok (.aload_n 0, 1) := by decide +kernel
theorem dX1_clause_32 : decode cX1_clause 32 = .ok (.iconst 0, 1) := by decide +kernel
theorem dX1_clause_33 : decode cX1_clause 33 = .ok (.putfield 35, 3) := by decide +kernel
theorem dX1_clause_36 : decode cX1_clause 36 = .ok (.aload_n 0, 1) := by decide +kernel
theorem dX1_clause_37 : decode cX1_clause 37 = .ok (.getfield 42, 3) := by decide +kernel
theorem dX1_clause_40 : decode cX1_clause 40 = .ok (.ireturn, 1) := by decide +kernel
theorem dX1_some_0 : decode cX1_some 0 = .ok (.aload_n 0, 1) := by decide +kernel
theorem dX1_some_1 : decode cX1_some 1 = .ok (.getfield 42, 3) := by decide +kernel
theorem dX1_some_4 : decode cX1_some 4 = .ok (.sipush 400, 3) := by decide +kernel
theorem dX1_some_7 : decode cX1_some 7 = .ok (.if_icmp .ne 6, 3) := by decide +kernel
theorem dX1_some_10 : decode cX1_some 10 = .ok (.bipush (-3), 2) := by decide +kernel
theorem dX1_some_12 : decode cX1_some 12 = .ok (.ireturn, 1) := by decide +kernel
theorem dX1_some_13 : decode cX1_some 13 = .ok (.aload_n 0, 1) := by decide +kernel
theorem dX1_some_14 : decode cX1_some 14 = .ok (.getfield 13, 3) := by decide +kernel
theorem dX1_some_17 : decode cX1_some 17 = .ok (.aload_n 0, 1) := by decide +kernel
theorem dX1_some_18 : decode cX1_some 18 = .ok (.getfield 42, 3) := by decide +kernel
theorem dX1_some_21 : decode cX1_some 21 = .ok (.iload_n 1, 1) := by decide +kernel
theorem dX1_some_22 : decode cX1_some 22 = .ok (.iconst 1, 1) := by decide +kernel
theorem dX1_some_23 : decode cX1_some 23 = .ok (.aload_n 0, 1) := by decide +kernel
theorem dX1_some_24 : decode cX1_some 24 = .ok (.getfield 20, 3) := by decide +kernel
theorem dX1_some_27 : decode cX1_some 27 = .ok (.ishl, 1) := by decide +kernel
theorem dX1_some_28 : decode cX1_some 28 = .ok (.iconst 1, 1) := by decide +kernel
theorem dX1_some_29 : decode cX1_some 29 = .ok (.isub, 1) := by decide +kernel
theorem dX1_some_30 : decode cX1_some 30 = .ok (.iand, 1) := by decide +kernel
theorem dX1_some_31 : decode cX1_some 31 = .ok (.iastore, 1) := by decide +kernel
theorem dX1_some_32 : decode cX1_some 32 = .ok (.aload_n 0, 1) := by decide +kernel
theorem dX1_some_33 : decode cX1_some 33 = .ok (.getfield 17, 3) := by decide +kernel
theorem dX1_some_36 : decode cX1_some 36 = .ok (.aload_n 0, 1) := by decide +kernel
theorem dX1_some_37 : decode cX1_some 37 = .ok (.getfield 42, 3) := by decide +kernel
theorem dX1_some_40 : decode cX1_some 40 = .ok (.iload_n 2, 1) := by decide +kernel
theorem dX1_some_41 : decode cX1_some 41 = .ok (.iconst 1, 1) := by decide +kernel
theorem dX1_some_42 : decode cX1_some 42 = .ok (.aload_n 0, 1) := by decide +kernel
theorem dX1_some_43 : decode cX1_some 43 = .ok (.getfield 20, 3) := by decide +kernel
theorem dX1_some_46 : decode cX1_some 46 = .ok (.ishl, 1) := by decide +kernel
theorem dX1_some_47 : decode cX1_some 47 = .ok (.iconst 1, 1) := by decide +kernel
theorem dX1_some_48 : decode cX1_some 48 = .ok (.isub, 1) := by decide +kernel
theorem dX1_some_49 : decode cX1_some 49 = .ok (.iand, 1) := by decide +kernel
theorem dX1_some_50 : decode cX1_some 50 = .ok (.iastore, 1) := by decide +kernel
theorem dX1_some_51 : decode cX1_some 51 = .ok (.aload_n 0, 1) := by decide +kernel
theorem dX1_some_52 : decode cX1_some 52 = .ok (.dup, 1) := by decide +kernel
theorem dX1_some_53 : decode cX1_some 53 = .ok (.getfield 42, 3) := by decide +kernel
theorem dX1_some_56 : decode cX1_some 56 = .ok (.iconst 1, 1) := by decide +kernel
theorem dX1_some_57 : decode cX1_some 57 = .ok (.iadd, 1) := by decide +kernel
theorem dX1_some_58 : decode cX1_some 58 = .ok (.putfield 42, 3) := by decide +kernel
theorem dX1_some_61 : decode cX1_some 61 = .ok (.aload_n 0, 1) := by decide +kernel
theorem dX1_some_62 : decode cX1_some 62 = .ok (.iconst 0, 1) := by decide +kernel
theorem dX1_some_63 : decode cX1_some 63 = .ok (.putfield 28, 3) := by decide +kernel
theorem dX1_some_66 : decode cX1_some 66 = .ok (.aload_n 0, 1) := by decide +kernel
theorem dX1_some_67 : decode cX1_some 67 = .ok (.getfield 42, 3) := by decide +kernel
theorem dX1_some_70 : decode cX1_some 70 = .ok (.ireturn, 1) := by decide +kernel
theorem dX1_drop_0 : decode cX1_drop 0 = .ok (.iload_n 1, 1) := by decide +kernel
theorem dX1_drop_1 : decode cX1_drop 1 = .ok (.ifCond .lt 11, 3) := by decide +kernel
theorem dX1_drop_4 : decode cX1_drop 4 = .ok (.iload_n 1, 1) := by decide +kernel
theorem dX1_drop_5 : decode cX1_drop 5 = .ok (.aload_n 0, 1) := by decide +kernel
theorem dX1_drop_6 : decode cX1_drop 6 = .ok (.getfield 42, 3) := by decide +kernel
theorem dX1_drop_9 : decode cX1_drop 9 = .ok (.if_icmp .lt 6, 3) := by decide +kernel
theorem dX1_drop_12 : decode cX1_drop 12 = .ok (.bipush (-2), 2) := by decide +kernel
theorem dX1_drop_14 : decode cX1_drop 14 = .ok (.ireturn, 1) := by decide +kernel
theorem dX1_drop_15 : decode cX1_drop 15 = .ok (.aload_n 0, 1) := by decide +kernel
theorem dX1_drop_16 : decode cX1_drop 16 = .ok (.dup, 1) := by decide +kernel
theorem dX1_drop_17 : decode cX1_drop 17 = .ok (.getfield 42, 3) := by decide +kernel
theorem dX1_drop_20 : decode cX1_drop 20 = .ok (.iconst 1, 1) := by decide +kernel
theorem dX1_drop_21 : decode cX1_drop 21 = .ok (.isub, 1) := by decide +kernel
theorem dX1_drop_22 : decode cX1_drop 22 = .ok (.putfield 42, 3) := by decide +kernel
theorem dX1_drop_25 : decode cX1_drop 25 = .ok (.aload_n 0, 1) := by decide +kernel
theorem dX1_drop_26 : decode cX1_drop 26 = .ok (.getfield 13, 3) := by decide +kernel
theorem dX1_drop_29 : decode cX1_drop 29 = .ok (.iload_n 1, 1) := by decide +kernel
theorem dX1_drop_30 : decode cX1_drop 30 = .ok (.aload_n 0, 1) := by decide +kernel
theorem dX1_drop_31 : decode cX1_drop 31 = .ok (.getfield 13, 3) := by decide +kernel
theorem dX1_drop_34 : decode cX1_drop 34 = .ok (.aload_n 0, 1) := by decide +kernel
theorem dX1_drop_35 : decode cX1_drop 35 = .ok (.getfield 42, 3) := by decide +kernel
theorem dX1_drop_38 : decode cX1_drop 38 = .ok (.iaload, 1) := by decide +kernel
theorem dX1_drop_39 : decode cX1_drop 39 = .ok (.iastore, 1) := by decide +kernel
theorem dX1_drop_40 : decode cX1_drop 40 = .ok (.aload_n 0, 1) := by decide +kernel
theorem dX1_drop_41 : decode cX1_drop 41 = .ok (.getfield 17, 3) := by decide +kernel
theorem dX1_drop_44 : decode cX1_drop 44 = .ok (.iload_n 1, 1) := by decide +kernel
theorem dX1_drop_45 : decode cX1_drop 45 = .ok (.aload_n 0, 1) := by decide +kernel
theorem dX1_drop_46 : decode cX1_drop 46 = .ok (.getfield 17, 3) := by decide +kernel
theorem dX1_drop_49 : decode cX1_drop 49 = .ok (.aload_n 0, 1) := by decide +kernel
theorem dX1_drop_50 : decode cX1_drop 50 = .ok (.getfield 42, 3) := by decide +kernel
theorem dX1_drop_53 : decode cX1_drop 53 = .ok (.iaload, 1) := by decide +kernel
theorem dX1_drop_54 : decode cX1_drop 54 = .ok (.iastore, 1) := by decide +kernel
theorem dX1_drop_55 : decode cX1_drop 55 = .ok (.aload_n 0, 1) := by decide +kernel
theorem dX1_drop_56 : decode cX1_drop 56 = .ok (.iconst 0, 1) := by decide +kernel
theorem dX1_drop_57 : decode cX1_drop 57 = .ok (.putfield 28, 3) := by decide +kernel
theorem dX1_drop_60 : decode cX1_drop 60 = .ok (.aload_n 0, 1) := by decide +kernel
theorem dX1_drop_61 : decode cX1_drop 61 = .ok (.getfield 42, 3) := by decide +kernel
theorem dX1_drop_64 : decode cX1_drop 64 = .ok (.ireturn, 1) := by decide +kernel
theorem dX1_holds_0 : decode cX1_holds 0 = .ok (.iconst 0, 1) := by decide +kernel
theorem dX1_holds_1 : decode cX1_holds 1 = .ok (.istore_n 3, 1) := by decide +kernel
theorem dX1_holds_2 : decode cX1_holds 2 = .ok (.iload_n 3, 1) := by decide +kernel
theorem dX1_holds_3 : decode cX1_holds 3 = .ok (.aload_n 0, 1) := by decide +kernel
theorem dX1_holds_4 : decode cX1_holds 4 = .ok (.getfield 42, 3) := by decide +kernel
theorem dX1_holds_7 : decode cX1_holds 7 = .ok (.if_icmp .ge 53, 3) := by decide +kernel
theorem dX1_holds_10 : decode cX1_holds 10 = .ok (.aload_n 0, 1) := by decide +kernel
theorem dX1_holds_11 : decode cX1_holds 11 = .ok (.getfield 13, 3) := by decide +kernel
theorem dX1_holds_14 : decode cX1_holds 14 = .ok (.iload_n 3, 1) := by decide +kernel
theorem dX1_holds_15 : decode cX1_holds 15 = .ok (.iaload, 1) := by decide +kernel
theorem dX1_holds_16 : decode cX1_holds 16 = .ok (.aload_n 0, 1) := by decide +kernel
theorem dX1_holds_17 : decode cX1_holds 17 = .ok (.getfield 17, 3) := by decide +kernel
theorem dX1_holds_20 : decode cX1_holds 20 = .ok (.iload_n 3, 1) := by decide +kernel
theorem dX1_holds_21 : decode cX1_holds 21 = .ok (.iaload, 1) := by decide +kernel
theorem dX1_holds_22 : decode cX1_holds 22 = .ok (.ior, 1) := by decide +kernel
theorem dX1_holds_23 : decode cX1_holds 23 = .ok (.iload_n 2, 1) := by decide +kernel
theorem dX1_holds_24 : decode cX1_holds 24 = .ok (.ishr, 1) := by decide +kernel
theorem dX1_holds_25 : decode cX1_holds 25 = .ok (.ifCond .ne 29, 3) := by decide +kernel
theorem dX1_holds_28 : decode cX1_holds 28 = .ok (.iload_n 1, 1) := by decide +kernel
theorem dX1_holds_29 : decode cX1_holds 29 = .ok (.aload_n 0, 1) := by decide +kernel
theorem dX1_holds_30 : decode cX1_holds 30 = .ok (.getfield 13, 3) := by decide +kernel
theorem dX1_holds_33 : decode cX1_holds 33 = .ok (.iload_n 3, 1) := by decide +kernel
theorem dX1_holds_34 : decode cX1_holds 34 = .ok (.iaload, 1) := by decide +kernel
theorem dX1_holds_35 : decode cX1_holds 35 = .ok (.iand, 1) := by decide +kernel
theorem dX1_holds_36 : decode cX1_holds 36 = .ok (.ifCond .ne 18, 3) := by decide +kernel
theorem dX1_holds_39 : decode cX1_holds 39 = .ok (.iload_n 1, 1) := by decide +kernel
theorem dX1_holds_40 : decode cX1_holds 40 = .ok (.iconst (-1), 1) := by decide +kernel
theorem dX1_holds_41 : decode cX1_holds 41 = .ok (.ixor, 1) := by decide +kernel
theorem dX1_holds_42 : decode cX1_holds 42 = .ok (.aload_n 0, 1) := by decide +kernel
theorem dX1_holds_43 : decode cX1_holds 43 = .ok (.getfield 17, 3) := by decide +kernel
theorem dX1_holds_46 : decode cX1_holds 46 = .ok (.iload_n 3, 1) := by decide +kernel
theorem dX1_holds_47 : decode cX1_holds 47 = .ok (.iaload, 1) := by decide +kernel
theorem dX1_holds_48 : decode cX1_holds 48 = .ok (.iand, 1) := by decide +kernel
theorem dX1_holds_49 : decode cX1_holds 49 = .ok (.ifCond .ne 5, 3) := by decide +kernel
theorem dX1_holds_52 : decode cX1_holds 52 = .ok (.iconst 0, 1) := by decide +kernel
theorem dX1_holds_53 : decode cX1_holds 53 = .ok (.ireturn, 1) := by decide +kernel
theorem dX1_holds_54 : decode cX1_holds 54 = .ok (.iinc 3 1, 3) := by decide +kernel
theorem dX1_holds_57 : decode cX1_holds 57 = .ok (.goto (-55), 3) := by decide +kernel
theorem dX1_holds_60 : decode cX1_holds 60 = .ok (.iconst 1, 1) := by decide +kernel
theorem dX1_holds_61 : decode cX1_holds 61 = .ok (.ireturn, 1) := by decide +kernel
set_option maxRecDepth 20000 in
theorem ggX1_search_X1_holds : GoodIn wsX1_search wsX1_holds := goodIn_r _ [7, 8, 9, 10, 14, 15, 16, 17, 18, 19, 20, 21, 22] (by decide +kernel) (by decide +kernel)
set_option maxRecDepth 20000 in
theorem gX1_search_X1_holds : GoodIn wsX1_search (wsV RX1 49 RX1 yX1_holds wsX1_holds) := goodIn_app (goodIn_of _ (by decide +kernel)) ggX1_search_X1_holds
set_option maxRecDepth 20000 in
theorem ggX1_search_X1_search : GoodIn wsX1_search wsX1_search := goodIn_r _ [0, 1, 2, 3, 4, 5, 6, 7, 8, 9, 10, 11, 12, 13, 14, 15, 16, 17, 18, 19, 20, 21, 22] (by decide +kernel) (by decide +kernel)
set_option maxRecDepth 20000 in
theorem gX1_search_X1_search : GoodIn wsX1_search (wsV RX1 53 RX1 yX1_search wsX1_search) := goodIn_app (goodIn_of _ (by decide +kernel)) ggX1_search_X1_search
theorem dX1_search_0 : decode cX1_search 0 = .ok (.aload_n 0, 1) := by decide +kernel
theorem dX1_search_1 : decode cX1_search 1 = .ok (.iload_n 1, 1) := by decide +kernel
theorem dX1_search_2 : decode cX1_search 2 = .ok (.iload_n 2, 1) := by decide +kernel
theorem dX1_search_3 : decode cX1_search 3 = .ok (.invokevirtual 49, 3) := by decide +kernel
theorem dX1_search_6 : decode cX1_search 6 = .ok (.ifCond .ne 6, 3) := by decide +kernel
theorem dX1_search_9 : decode cX1_search 9 = .ok (.bipush (-2), 2) := by decide +kernel
theorem dX1_search_11 : decode cX1_search 11 = .ok (.ireturn, 1) := by decide +kernel
theorem dX1_search_12 : decode cX1_search 12 = .ok (.iload_n 2, 1) := by decide +kernel
theorem dX1_search_13 : decode cX1_search 13 = .ok (.aload_n 0, 1) := by decide +kernel
theorem dX1_search_14 : decode cX1_search 14 = .ok (.getfield 20, 3) := by decide +kernel
theorem dX1_search_17 : decode cX1_search 17 = .ok (.if_icmp .ne 5, 3) := by decide +kernel
theorem dX1_search_20 : decode cX1_search 20 = .ok (.iload_n 1, 1) := by decide +kernel
theorem dX1_search_21 : decode cX1_search 21 = .ok (.ireturn, 1) := by decide +kernel
theorem dX1_search_22 : decode cX1_search 22 = .ok (.iconst 1, 1) := by decide +kernel
theorem dX1_search_23 : decode cX1_search 23 = .ok (.iload_n 2, 1) := by decide +kernel
theorem dX1_search_24 : decode cX1_search 24 = .ok (.ishl, 1) := by decide +kernel
theorem dX1_search_25 : decode cX1_search 25 = .ok (.istore_n 3, 1) := by decide +kernel
theorem dX1_search_26 : decode cX1_search 26 = .ok (.aload_n 0, 1) := by decide +kernel
theorem dX1_search_27 : decode cX1_search 27 = .ok (.aload_n 0, 1) := by decide +kernel
theorem dX1_search_28 : decode cX1_search 28 = .ok (.getfield 7, 3) := by decide +kernel
theorem dX1_search_31 : decode cX1_search 31 = .ok (.iload_n 2, 1) := by decide +kernel
theorem dX1_search_32 : decode cX1_search 32 = .ok (.baload, 1) := by decide +kernel
theorem dX1_search_33 : decode cX1_search 33 = .ok (.ifCond .eq 9, 3) := by decide +kernel
theorem dX1_search_36 : decode cX1_search 36 = .ok (.iload_n 1, 1) := by decide +kernel
theorem dX1_search_37 : decode cX1_search 37 = .ok (.iload_n 3, 1) := by decide +kernel
theorem dX1_search_38 : decode cX1_search 38 = .ok (.ior, 1) := by decide +kernel
theorem dX1_search_39 : decode cX1_search 39 = .ok (.goto 4, 3) := by decide +kernel
theorem dX1_search_42 : decode cX1_search 42 = .ok (.iload_n 1, 1) := by decide +kernel
theorem dX1_search_43 : decode cX1_search 43 = .ok (.iload_n 2, 1) := by decide +kernel
theorem dX1_search_44 : decode cX1_search 44 = .ok (.iconst 1, 1) := by decide +kernel
theorem dX1_search_45 : decode cX1_search 45 = .ok (.iadd, 1) := by decide +kernel
theorem dX1_search_46 : decode cX1_search 46 = .ok (.invokevirtual 53, 3) := by decide +kernel
theorem dX1_search_49 : decode cX1_search 49 = .ok (.istore 4, 2) := by decide +kernel
theorem dX1_search_51 : decode cX1_search 51 = .ok (.iload 4, 2) := by decide +kernel
theorem dX1_search_53 : decode cX1_search 53 = .ok (.ifCond .lt 8, 3) := by decide +kernel
theorem dX1_search_56 : decode cX1_search 56 = .ok (.iload 4, 2) := by decide +kernel
theorem dX1_search_58 : decode cX1_search 58 = .ok (.goto 26, 3) := by decide +kernel
theorem dX1_search_61 : decode cX1_search 61 = .ok (.aload_n 0, 1) := by decide +kernel
theorem dX1_search_62 : decode cX1_search 62 = .ok (.aload_n 0, 1) := by decide +kernel
theorem dX1_search_63 : decode cX1_search 63 = .ok (.getfield 7, 3) := by decide +kernel
theorem dX1_search_66 : decode cX1_search 66 = .ok (.iload_n 2, 1) := by decide +kernel
theorem dX1_search_67 : decode cX1_search 67 = .ok (.baload, 1) := by decide +kernel
theorem dX1_search_68 : decode cX1_search 68 = .ok (.ifCond .eq 7, 3) := by decide +kernel
theorem dX1_search_71 : decode cX1_search 71 = .ok (.iload_n 1, 1) := by decide +kernel
theorem dX1_search_72 : decode cX1_search 72 = .ok (.goto 6, 3) := by decide +kernel
theorem dX1_search_75 : decode cX1_search 75 = .ok (.iload_n 1, 1) := by decide +kernel
theorem dX1_search_76 : decode cX1_search 76 = .ok (.iload_n 3, 1) := by decide +kernel
theorem dX1_search_77 : decode cX1_search 77 = .ok (.ior, 1) := by decide +kernel
theorem dX1_search_78 : decode cX1_search 78 = .ok (.iload_n 2, 1) := by decide +kernel
theorem dX1_search_79 : decode cX1_search 79 = .ok (.iconst 1, 1) := by decide +kernel
theorem dX1_search_80 : decode cX1_search 80 = .ok (.iadd, 1) := by decide +kernel
theorem dX1_search_81 : decode cX1_search 81 = .ok (.invokevirtual 53, 3) := by decide +kernel
theorem dX1_search_84 : decode cX1_search 84 = .ok (.ireturn, 1) := by decide +kernel
set_option maxRecDepth 20000 in
theorem ggX1_answer_X1_search : GoodIn wsX1_answer wsX1_search := goodIn_r _ [7, 8, 9, 10, 11, 12, 6, 13, 14, 15, 16, 3, 4, 5, 17, 18, 19, 20, 21, 22, 23, 24, 25] (by decide +kernel) (by decide +kernel)
set_option maxRecDepth 20000 in
theorem gX1_answer_X1_search : GoodIn wsX1_answer (wsV RX1 53 RX1 yX1_search wsX1_search) := goodIn_app (goodIn_of _ (by decide +kernel)) ggX1_answer_X1_search
theorem dX1_answer_0 : decode cX1_answer 0 = .ok (.aload_n 0, 1) := by decide +kernel
theorem dX1_answer_1 : decode cX1_answer 1 = .ok (.getfield 28, 3) := by decide +kernel
theorem dX1_answer_4 : decode cX1_answer 4 = .ok (.ifCond .ne 13, 3) := by decide +kernel
theorem dX1_answer_7 : decode cX1_answer 7 = .ok (.aload_n 0, 1) := by decide +kernel
theorem dX1_answer_8 : decode cX1_answer 8 = .ok (.aload_n 0, 1) := by decide +kernel
theorem dX1_answer_9 : decode cX1_answer 9 = .ok (.iconst 0, 1) := by decide +kernel
theorem dX1_answer_10 : decode cX1_answer 10 = .ok (.iconst 0, 1) := by decide +kernel
theorem dX1_answer_11 : decode cX1_answer 11 = .ok (.invokevirtual 53, 3) := by decide +kernel
theorem dX1_answer_14 : decode cX1_answer 14 = .ok (.putfield 56, 3) := by decide +kernel
theorem dX1_answer_17 : decode cX1_answer 17 = .ok (.aload_n 0, 1) := by decide +kernel
theorem dX1_answer_18 : decode cX1_answer 18 = .ok (.iconst 1, 1) := by decide +kernel
theorem dX1_answer_19 : decode cX1_answer 19 = .ok (.putfield 28, 3) := by decide +kernel
theorem dX1_answer_22 : decode cX1_answer 22 = .ok (.aload_n 0, 1) := by decide +kernel
theorem dX1_answer_23 : decode cX1_answer 23 = .ok (.getfield 56, 3) := by decide +kernel
theorem dX1_answer_26 : decode cX1_answer 26 = .ok (.ireturn, 1) := by decide +kernel
set_option maxRecDepth 20000 in
theorem ggX1_solve_X1_answer : GoodIn wsX1_solve wsX1_answer := goodIn_r _ [5, 6, 7, 8, 9, 10, 4, 11, 12, 13, 14, 15, 16, 17, 18, 19, 20, 21, 22, 23, 24, 25, 26, 27, 28, 29] (by decide +kernel) (by decide +kernel)
set_option maxRecDepth 20000 in
theorem gX1_solve_X1_answer : GoodIn wsX1_solve (wsV RX1 59 RX1 yX1_answer wsX1_answer) := goodIn_app (goodIn_of _ (by decide +kernel)) ggX1_solve_X1_answer
theorem dX1_solve_0 : decode cX1_solve 0 = .ok (.aload_n 0, 1) := by decide +kernel
theorem dX1_solve_1 : decode cX1_solve 1 = .ok (.invokevirtual 59, 3) := by decide +kernel
theorem dX1_solve_4 : decode cX1_solve 4 = .ok (.ifCond .lt 7, 3) := by decide +kernel
theorem dX1_solve_7 : decode cX1_solve 7 = .ok (.iconst 1, 1) := by decide +kernel
theorem dX1_solve_8 : decode cX1_solve 8 = .ok (.goto 4, 3) := by decide +kernel
theorem dX1_solve_11 : decode cX1_solve 11 = .ok (.iconst 0, 1) := by decide +kernel
theorem dX1_solve_12 : decode cX1_solve 12 = .ok (.ireturn, 1) := by decide +kernel
set_option maxRecDepth 20000 in
theorem ggX1_count_X1_bits : GoodIn wsX1_count wsX1_bits := goodIn_r _ [8] (by decide +kernel) (by decide +kernel)
set_option maxRecDepth 20000 in
theorem gX1_count_X1_bits : GoodIn wsX1_count (va_wsS RX1 38 yX1_bits wsX1_bits) := goodIn_app (goodIn_of _ (by decide +kernel)) ggX1_count_X1_bits
theorem dX1_count_0 : decode cX1_count 0 = .ok (.iload_n 1, 1) := by decide +kernel
theorem dX1_count_1 : decode cX1_count 1 = .ok (.tableswitch 53 0 2 #[27, 32, 37], 27) := by decide +kernel
theorem dX1_count_28 : decode cX1_count 28 = .ok (.aload_n 0, 1) := by decide +kernel
theorem dX1_count_29 : decode cX1_count 29 = .ok (.getfield 20, 3) := by decide +kernel
theorem dX1_count_32 : decode cX1_count 32 = .ok (.ireturn, 1) := by decide +kernel
theorem dX1_count_33 : decode cX1_count 33 = .ok (.aload_n 0, 1) := by decide +kernel
theorem dX1_count_34 : decode cX1_count 34 = .ok (.getfield 42, 3) := by decide +kernel
theorem dX1_count_37 : decode cX1_count 37 = .ok (.ireturn, 1) := by decide +kernel
theorem dX1_count_38 : decode cX1_count 38 = .ok (.aload_n 0, 1) := by decide +kernel
theorem dX1_count_39 : decode cX1_count 39 = .ok (.getfield 32, 3) := by decide +kernel
theorem dX1_count_42 : decode cX1_count 42 = .ok (.invokestatic 38, 3) := by decide +kernel
theorem dX1_count_45 : decode cX1_count 45 = .ok (.aload_n 0, 1) := by decide +kernel
theorem dX1_count_46 : decode cX1_count 46 = .ok (.getfield 35, 3) := by decide +kernel
theorem dX1_count_49 : decode cX1_count 49 = .ok (.invokestatic 38, 3) := by decide +kernel
theorem dX1_count_52 : decode cX1_count 52 = .ok (.iadd, 1) := by decide +kernel
theorem dX1_count_53 : decode cX1_count 53 = .ok (.ireturn, 1) := by decide +kernel
theorem dX1_count_54 : decode cX1_count 54 = .ok (.iconst (-1), 1) := by decide +kernel
theorem dX1_count_55 : decode cX1_count 55 = .ok (.ireturn, 1) := by decide +kernel
theorem dJ6_bitCount_0f7a4_0 : decode cJ6_bitCount_0f7a4 0 = .ok (.iload_n 0, 1) := by decide +kernel
theorem dJ6_bitCount_0f7a4_1 : decode cJ6_bitCount_0f7a4 1 = .ok (.iload_n 0, 1) := by decide +kernel
theorem dJ6_bitCount_0f7a4_2 : decode cJ6_bitCount_0f7a4 2 = .ok (.iconst 1, 1) := by decide +kernel
theorem dJ6_bitCount_0f7a4_3 : decode cJ6_bitCount_0f7a4 3 = .ok (.iushr, 1) := by decide +kernel
theorem dJ6_bitCount_0f7a4_4 : decode cJ6_bitCount_0f7a4 4 = .ok (.ldc_w 265, 3) := by decide +kernel
theorem dJ6_bitCount_0f7a4_7 : decode cJ6_bitCount_0f7a4 7 = .ok (.iand, 1) := by decide +kernel
theorem dJ6_bitCount_0f7a4_8 : decode cJ6_bitCount_0f7a4 8 = .ok (.isub, 1) := by decide +kernel
theorem dJ6_bitCount_0f7a4_9 : decode cJ6_bitCount_0f7a4 9 = .ok (.istore_n 0, 1) := by decide +kernel
theorem dJ6_bitCount_0f7a4_10 : decode cJ6_bitCount_0f7a4 10 = .ok (.iload_n 0, 1) := by decide +kernel
theorem dJ6_bitCount_0f7a4_11 : decode cJ6_bitCount_0f7a4 11 = .ok (.ldc_w 266, 3) := by decide +kernel
theorem dJ6_bitCount_0f7a4_14 : decode cJ6_bitCount_0f7a4 14 = .ok (.iand, 1) := by decide +kernel
theorem dJ6_bitCount_0f7a4_15 : decode cJ6_bitCount_0f7a4 15 = .ok (.iload_n 0, 1) := by decide +kernel
theorem dJ6_bitCount_0f7a4_16 : decode cJ6_bitCount_0f7a4 16 = .ok (.iconst 2, 1) := by decide +kernel
theorem dJ6_bitCount_0f7a4_17 : decode cJ6_bitCount_0f7a4 17 = .ok (.iushr, 1) := by decide +kernel
theorem dJ6_bitCount_0f7a4_18 : decode cJ6_bitCount_0f7a4 18 = .ok (.ldc_w 266, 3) := by decide +kernel
theorem dJ6_bitCount_0f7a4_21 : decode cJ6_bitCount_0f7a4 21 = .ok (.iand, 1) := by decide +kernel
theorem dJ6_bitCount_0f7a4_22 : decode cJ6_bitCount_0f7a4 22 = .ok (.iadd, 1) := by decide +kernel
theorem dJ6_bitCount_0f7a4_23 : decode cJ6_bitCount_0f7a4 23 = .ok (.istore_n 0, 1) := by decide +kernel
theorem dJ6_bitCount_0f7a4_24 : decode cJ6_bitCount_0f7a4 24 = .ok (.iload_n 0, 1) := by decide +kernel
theorem dJ6_bitCount_0f7a4_25 : decode cJ6_bitCount_0f7a4 25 = .ok (.iload_n 0, 1) := by decide +kernel
theorem dJ6_bitCount_0f7a4_26 : decode cJ6_bitCount_0f7a4 26 = .ok (.iconst 4, 1) := by decide +kernel
theorem dJ6_bitCount_0f7a4_27 : decode cJ6_bitCount_0f7a4 27 = .ok (.iushr, 1) := by decide +kernel
theorem dJ6_bitCount_0f7a4_28 : decode cJ6_bitCount_0f7a4 28 = .ok (.iadd, 1) := by decide +kernel
theorem dJ6_bitCount_0f7a4_29 : decode cJ6_bitCount_0f7a4 29 = .ok (.ldc_w 267, 3) := by decide +kernel
theorem dJ6_bitCount_0f7a4_32 : decode cJ6_bitCount_0f7a4 32 = .ok (.iand, 1) := by decide +kernel
theorem dJ6_bitCount_0f7a4_33 : decode cJ6_bitCount_0f7a4 33 = .ok (.istore_n 0, 1) := by decide +kernel
theorem dJ6_bitCount_0f7a4_34 : decode cJ6_bitCount_0f7a4 34 = .ok (.iload_n 0, 1) := by decide +kernel
theorem dJ6_bitCount_0f7a4_35 : decode cJ6_bitCount_0f7a4 35 = .ok (.iload_n 0, 1) := by decide +kernel
theorem dJ6_bitCount_0f7a4_36 : decode cJ6_bitCount_0f7a4 36 = .ok (.bipush 8, 2) := by decide +kernel
theorem dJ6_bitCount_0f7a4_38 : decode cJ6_bitCount_0f7a4 38 = .ok (.iushr, 1) := by decide +kernel
theorem dJ6_bitCount_0f7a4_39 : decode cJ6_bitCount_0f7a4 39 = .ok (.iadd, 1) := by decide +kernel
theorem dJ6_bitCount_0f7a4_40 : decode cJ6_bitCount_0f7a4 40 = .ok (.istore_n 0, 1) := by decide +kernel
theorem dJ6_bitCount_0f7a4_41 : decode cJ6_bitCount_0f7a4 41 = .ok (.iload_n 0, 1) := by decide +kernel
theorem dJ6_bitCount_0f7a4_42 : decode cJ6_bitCount_0f7a4 42 = .ok (.iload_n 0, 1) := by decide +kernel
theorem dJ6_bitCount_0f7a4_43 : decode cJ6_bitCount_0f7a4 43 = .ok (.bipush 16, 2) := by decide +kernel
theorem dJ6_bitCount_0f7a4_45 : decode cJ6_bitCount_0f7a4 45 = .ok (.iushr, 1) := by decide +kernel
theorem dJ6_bitCount_0f7a4_46 : decode cJ6_bitCount_0f7a4 46 = .ok (.iadd, 1) := by decide +kernel
theorem dJ6_bitCount_0f7a4_47 : decode cJ6_bitCount_0f7a4 47 = .ok (.istore_n 0, 1) := by decide +kernel
theorem dJ6_bitCount_0f7a4_48 : decode cJ6_bitCount_0f7a4 48 = .ok (.iload_n 0, 1) := by decide +kernel
theorem dJ6_bitCount_0f7a4_49 : decode cJ6_bitCount_0f7a4 49 = .ok (.bipush 63, 2) := by decide +kernel
theorem dJ6_bitCount_0f7a4_51 : decode cJ6_bitCount_0f7a4 51 = .ok (.iand, 1) := by decide +kernel
theorem dJ6_bitCount_0f7a4_52 : decode cJ6_bitCount_0f7a4 52 = .ok (.ireturn, 1) := by decide +kernel
theorem dJ9_max_7cf53_0 : decode cJ9_max_7cf53 0 = .ok (.iload_n 0, 1) := by decide +kernel
theorem dJ9_max_7cf53_1 : decode cJ9_max_7cf53 1 = .ok (.iload_n 1, 1) := by decide +kernel
theorem dJ9_max_7cf53_2 : decode cJ9_max_7cf53 2 = .ok (.if_icmp .lt 7, 3) := by decide +kernel
theorem dJ9_max_7cf53_5 : decode cJ9_max_7cf53 5 = .ok (.iload_n 0, 1) := by decide +kernel
theorem dJ9_max_7cf53_6 : decode cJ9_max_7cf53 6 = .ok (.goto 4, 3) := by decide +kernel
theorem dJ9_max_7cf53_9 : decode cJ9_max_7cf53 9 = .ok (.iload_n 1, 1) := by decide +kernel
theorem dJ9_max_7cf53_10 : decode cJ9_max_7cf53 10 = .ok (.ireturn, 1) := by decide +kernel
theorem dJ9_min_7cf53_0 : decode cJ9_min_7cf53 0 = .ok (.iload_n 0, 1) := by decide +kernel
theorem dJ9_min_7cf53_1 : decode cJ9_min_7cf53 1 = .ok (.iload_n 1, 1) := by decide +kernel
theorem dJ9_min_7cf53_2 : decode cJ9_min_7cf53 2 = .ok (.if_icmp .gt 7, 3) := by decide +kernel
theorem dJ9_min_7cf53_5 : decode cJ9_min_7cf53 5 = .ok (.iload_n 0, 1) := by decide +kernel
theorem dJ9_min_7cf53_6 : decode cJ9_min_7cf53 6 = .ok (.goto 4, 3) := by decide +kernel
theorem dJ9_min_7cf53_9 : decode cJ9_min_7cf53 9 = .ok (.iload_n 1, 1) := by decide +kernel
theorem dJ9_min_7cf53_10 : decode cJ9_min_7cf53 10 = .ok (.ireturn, 1) := by decide +kernel
theorem dL_cell_0 : decode cL_cell 0 = .ok (.iload_n 1, 1) := by decide +kernel
theorem dL_cell_1 : decode cL_cell 1 = .ok (.aload_n 0, 1) := by decide +kernel
theorem dL_cell_2 : decode cL_cell 2 = .ok (.arraylength, 1) := by decide +kernel
theorem dL_cell_3 : decode cL_cell 3 = .ok (.if_icmp .ge 9, 3) := by decide +kernel
theorem dL_cell_6 : decode cL_cell 6 = .ok (.aload_n 0, 1) := by decide +kernel
theorem dL_cell_7 : decode cL_cell 7 = .ok (.iload_n 1, 1) := by decide +kernel
theorem dL_cell_8 : decode cL_cell 8 = .ok (.iaload, 1) := by decide +kernel
theorem dL_cell_9 : decode cL_cell 9 = .ok (.goto 4, 3) := by decide +kernel
theorem dL_cell_12 : decode cL_cell 12 = .ok (.iconst 0, 1) := by decide +kernel
theorem dL_cell_13 : decode cL_cell 13 = .ok (.ireturn, 1) := by decide +kernel
set_option maxRecDepth 20000 in
theorem ggL_law_L_cell : GoodIn wsL_law wsL_cell := goodIn_r _ [9] (by decide +kernel) (by decide +kernel)
set_option maxRecDepth 20000 in
theorem gL_law_L_cell : GoodIn wsL_law (va_wsS RL 9 yL_cell wsL_cell) := goodIn_app (goodIn_of _ (by decide +kernel)) ggL_law_L_cell
set_option maxRecDepth 20000 in
theorem ggL_law_X0_init : GoodIn wsL_law wsX0_init := goodIn_r _ [12, 13, 14, 15, 16, 17, 18, 19, 20, 21, 22, 23, 24, 25, 26, 27, 28, 29, 30, 188, 189, 190, 191, 192, 193, 194, 195, 196, 197] (by decide +kernel) (by decide +kernel)
set_option maxRecDepth 20000 in
theorem gL_law_X0_init : GoodIn wsL_law (wsX0_init) := ggL_law_X0_init
set_option maxRecDepth 20000 in
theorem ggL_law_X1_init : GoodIn wsL_law wsX1_init := goodIn_r _ [33, 34, 14, 15, 35, 36, 25, 37, 38, 39, 198, 199, 200, 201, 202, 203, 204, 205, 206] (by decide +kernel) (by decide +kernel)
set_option maxRecDepth 20000 in
theorem gL_law_X1_init : GoodIn wsL_law (wsX1_init) := ggL_law_X1_init
set_option maxRecDepth 20000 in
theorem ggL_law_X0_wish : GoodIn wsL_law wsX0_wish := goodIn_r _ [43, 44, 45, 46, 47, 2, 48, 23, 49, 50, 51, 188, 189, 190, 191, 192, 193, 194, 195, 196, 197] (by decide +kernel) (by decide +kernel)
set_option maxRecDepth 20000 in
theorem gL_law_X0_wish : GoodIn wsL_law (wsV RL 21 RX0 yX0_wish wsX0_wish) := goodIn_app (goodIn_of _ (by decide +kernel)) ggL_law_X0_wish
set_option maxRecDepth 20000 in
theorem ggL_law_X1_wish : GoodIn wsL_law wsX1_wish := goodIn_r _ [55, 36, 56, 57, 58, 59, 5, 60, 39, 198, 199, 200, 201, 202, 203, 204, 205, 206] (by decide +kernel) (by decide +kernel)
set_option maxRecDepth 20000 in
theorem gL_law_X1_wish : GoodIn wsL_law (wsV RL 25 RX1 yX1_wish wsX1_wish) := goodIn_app (goodIn_of _ (by decide +kernel)) ggL_law_X1_wish
set_option maxRecDepth 20000 in
theorem ggL_law_X0_literal : GoodIn wsL_law wsX0_literal := goodIn_r _ [64, 65, 66, 45, 46, 47, 2, 48, 23, 67, 68, 69, 70, 71, 72, 73, 74, 75, 76, 77, 188, 189, 190, 191, 192, 193, 194, 195, 196, 197] (by decide +kernel) (by decide +kernel)
set_option maxRecDepth 20000 in
theorem gL_law_X0_literal : GoodIn wsL_law (wsV RL 26 RX0 yX0_literal wsX0_literal) := goodIn_app (goodIn_of _ (by decide +kernel)) ggL_law_X0_literal
set_option maxRecDepth 20000 in
theorem ggL_law_X1_literal : GoodIn wsL_law wsX1_literal := goodIn_r _ [81, 82, 83, 57, 58, 59, 5, 60, 39, 84, 85, 86, 198, 199, 200, 201, 202, 203, 204, 205, 206] (by decide +kernel) (by decide +kernel)
set_option maxRecDepth 20000 in
theorem gL_law_X1_literal : GoodIn wsL_law (wsV RL 30 RX1 yX1_literal wsX1_literal) := goodIn_app (goodIn_of _ (by decide +kernel)) ggL_law_X1_literal
set_option maxRecDepth 20000 in
theorem ggL_law_X0_clause : GoodIn wsL_law wsX0_clause := goodIn_r _ [90, 65, 66, 91, 92, 93, 2, 94, 95, 24, 26, 27, 28, 30, 96, 97, 98, 99, 100, 101, 102, 49, 50, 51, 103, 104, 105, 106, 107, 188, 189, 190, 191, 192, 193, 194, 195, 196, 197] (by decide +kernel) (by decide +kernel)
set_option maxRecDepth 20000 in
theorem gL_law_X0_clause : GoodIn wsL_law (wsV RL 31 RX0 yX0_clause wsX0_clause) := goodIn_app (goodIn_of _ (by decide +kernel)) ggL_law_X0_clause
set_option maxRecDepth 20000 in
theorem ggL_law_X1_clause : GoodIn wsL_law wsX1_clause := goodIn_r _ [111, 112, 82, 83, 113, 114, 115, 5, 116, 37, 39, 38, 56, 198, 199, 200, 201, 202, 203, 204, 205, 206] (by decide +kernel) (by decide +kernel)
set_option maxRecDepth 20000 in
theorem gL_law_X1_clause : GoodIn wsL_law (wsV RL 35 RX1 yX1_clause wsX1_clause) := goodIn_app (goodIn_of _ (by decide +kernel)) ggL_law_X1_clause
set_option maxRecDepth 20000 in
theorem ggL_law_X0_some : GoodIn wsL_law wsX0_some := goodIn_r _ [120, 23, 96, 97, 2, 98, 91, 92, 93, 94, 95, 24, 26, 27, 28, 30, 99, 100, 101, 102, 49, 50, 51, 103, 104, 105, 106, 107, 188, 189, 190, 191, 192, 193, 194, 195, 196, 197] (by decide +kernel) (by decide +kernel)
set_option maxRecDepth 20000 in
theorem gL_law_X0_some : GoodIn wsL_law (wsV RL 36 RX0 yX0_some wsX0_some) := goodIn_app (goodIn_of _ (by decide +kernel)) ggL_law_X0_some
set_option maxRecDepth 20000 in
theorem ggL_law_X1_some : GoodIn wsL_law wsX1_some := goodIn_r _ [116, 112, 37, 39, 38, 56, 198, 199, 200, 201, 202, 203, 204, 205, 206] (by decide +kernel) (by decide +kernel)
set_option maxRecDepth 20000 in
theorem gL_law_X1_some : GoodIn wsL_law (wsV RL 40 RX1 yX1_some wsX1_some) := goodIn_app (goodIn_of _ (by decide +kernel)) ggL_law_X1_some
set_option maxRecDepth 20000 in
theorem ggL_law_X0_drop : GoodIn wsL_law wsX0_drop := goodIn_r _ [125, 95, 26, 27, 28, 30, 188, 189, 190, 191, 192, 193, 194, 195, 196, 197] (by decide +kernel) (by decide +kernel)
set_option maxRecDepth 20000 in
theorem gL_law_X0_drop : GoodIn wsL_law (wsV RL 41 RX0 yX0_drop wsX0_drop) := goodIn_app (goodIn_of _ (by decide +kernel)) ggL_law_X0_drop
set_option maxRecDepth 20000 in
theorem ggL_law_X1_drop : GoodIn wsL_law wsX1_drop := goodIn_r _ [129, 112, 37, 38, 56, 198, 199, 200, 201, 202, 203, 204, 205, 206] (by decide +kernel) (by decide +kernel)
set_option maxRecDepth 20000 in
theorem gL_law_X1_drop : GoodIn wsL_law (wsV RL 45 RX1 yX1_drop wsX1_drop) := goodIn_app (goodIn_of _ (by decide +kernel)) ggL_law_X1_drop
set_option maxRecDepth 20000 in
theorem ggL_law_X0_solve : GoodIn wsL_law wsX0_solve := goodIn_r _ [133, 134, 135, 136, 2, 137, 107, 138, 139, 140, 141, 24, 142, 143, 144, 145, 95, 28, 30, 146, 147, 148, 149, 26, 27, 150, 151, 152, 153, 106, 44, 49, 50, 51, 154, 155, 156, 157, 188, 189, 190, 191, 192, 193, 194, 195, 196, 197] (by decide +kernel) (by decide +kernel)
set_option maxRecDepth 20000 in
theorem gL_law_X0_solve : GoodIn wsL_law (wsV RL 46 RX0 yX0_solve wsX0_solve) := goodIn_app (goodIn_of _ (by decide +kernel)) ggL_law_X0_solve
set_option maxRecDepth 20000 in
theorem ggL_law_X1_solve : GoodIn wsL_law wsX1_solve := goodIn_r _ [161, 162, 163, 164, 5, 165, 56, 166, 167, 168, 169, 170, 39, 36, 171, 172, 173, 174, 112, 37, 38, 198, 199, 200, 201, 202, 203, 204, 205, 206] (by decide +kernel) (by decide +kernel)
set_option maxRecDepth 20000 in
theorem gL_law_X1_solve : GoodIn wsL_law (wsV RL 50 RX1 yX1_solve wsX1_solve) := goodIn_app (goodIn_of _ (by decide +kernel)) ggL_law_X1_solve
set_option maxRecDepth 20000 in
theorem ggL_law_X0_answer : GoodIn wsL_law wsX0_answer := goodIn_r _ [178, 134, 135, 136, 2, 137, 107, 138, 139, 140, 141, 24, 142, 143, 144, 145, 95, 28, 30, 146, 147, 148, 149, 26, 27, 150, 151, 152, 153, 106, 44, 49, 50, 51, 154, 155, 156, 157, 188, 189, 190, 191, 192, 193, 194, 195, 196, 197] (by decide +kernel) (by decide +kernel)
set_option maxRecDepth 20000 in
theorem gL_law_X0_answer : GoodIn wsL_law (wsV RL 51 RX0 yX0_answer wsX0_answer) := goodIn_app (goodIn_of _ (by decide +kernel)) ggL_law_X0_answer
set_option maxRecDepth 20000 in
theorem ggL_law_X1_answer : GoodIn wsL_law wsX1_answer := goodIn_r _ [165, 56, 166, 167, 168, 169, 5, 170, 39, 36, 171, 172, 173, 174, 112, 37, 38, 198, 199, 200, 201, 202, 203, 204, 205, 206] (by decide +kernel) (by decide +kernel)
set_option maxRecDepth 20000 in
theorem gL_law_X1_answer : GoodIn wsL_law (wsV RL 54 RX1 yX1_answer wsX1_answer) := goodIn_app (goodIn_of _ (by decide +kernel)) ggL_law_X1_answer
set_option maxRecDepth 20000 in
theorem ggL_law_X0_count : GoodIn wsL_law wsX0_count := goodIn_r _ [183, 23, 95, 67, 68, 69, 2, 70, 65, 66, 71, 72, 73, 74, 75, 76, 77, 188, 189, 190, 191, 192, 193, 194, 195, 196, 197] (by decide +kernel) (by decide +kernel)
set_option maxRecDepth 20000 in
theorem gL_law_X0_count : GoodIn wsL_law (wsV RL 55 RX0 yX0_count wsX0_count) := goodIn_app (goodIn_of _ (by decide +kernel)) ggL_law_X0_count
set_option maxRecDepth 20000 in
theorem ggL_law_X1_count : GoodIn wsL_law wsX1_count := goodIn_r _ [187, 39, 112, 82, 83, 84, 85, 5, 86, 198, 199, 200, 201, 202, 203, 204, 205, 206] (by decide +kernel) (by decide +kernel)
set_option maxRecDepth 20000 in
theorem gL_law_X1_count : GoodIn wsL_law (wsV RL 58 RX1 yX1_count wsX1_count) := goodIn_app (goodIn_of _ (by decide +kernel)) ggL_law_X1_count
theorem dL_law_0 : decode cL_law 0 = .ok (.new 7, 3) := by decide +kernel
theorem dL_law_3 : decode cL_law 3 = .ok (.dup, 1) := by decide +kernel
theorem dL_law_4 : decode cL_law 4 = .ok (.aload_n 0, 1) := by decide +kernel
theorem dL_law_5 : decode cL_law 5 = .ok (.iconst 0, 1) := by decide +kernel
theorem dL_law_6 : decode cL_law 6 = .ok (.invokestatic 9, 3) := by decide +kernel
theorem dL_law_9 : decode cL_law 9 = .ok (.invokespecial 15, 3) := by decide +kernel
theorem dL_law_12 : decode cL_law 12 = .ok (.astore_n 1, 1) := by decide +kernel
theorem dL_law_13 : decode cL_law 13 = .ok (.new 18, 3) := by decide +kernel
theorem dL_law_16 : decode cL_law 16 = .ok (.dup, 1) := by decide +kernel
theorem dL_law_17 : decode cL_law 17 = .ok (.aload_n 0, 1) := by decide +kernel
theorem dL_law_18 : decode cL_law 18 = .ok (.iconst 0, 1) := by decide +kernel
theorem dL_law_19 : decode cL_law 19 = .ok (.invokestatic 9, 3) := by decide +kernel
theorem dL_law_22 : decode cL_law 22 = .ok (.invokespecial 20, 3) := by decide +kernel
theorem dL_law_25 : decode cL_law 25 = .ok (.astore_n 2, 1) := by decide +kernel
theorem dL_law_26 : decode cL_law 26 = .ok (.iconst 1, 1) := by decide +kernel
theorem dL_law_27 : decode cL_law 27 = .ok (.istore_n 3, 1) := by decide +kernel
theorem dL_law_28 : decode cL_law 28 = .ok (.iload_n 3, 1) := by decide +kernel
theorem dL_law_29 : decode cL_law 29 = .ok (.aload_n 0, 1) := by decide +kernel
theorem dL_law_30 : decode cL_law 30 = .ok (.arraylength, 1) := by decide +kernel
theorem dL_law_31 : decode cL_law 31 = .ok (.iconst 3, 1) := by decide +kernel
theorem dL_law_32 : decode cL_law 32 = .ok (.isub, 1) := by decide +kernel
theorem dL_law_33 : decode cL_law 33 = .ok (.if_icmp .gt 277, 3) := by decide +kernel
theorem dL_law_36 : decode cL_law 36 = .ok (.aload_n 0, 1) := by decide +kernel
theorem dL_law_37 : decode cL_law 37 = .ok (.iload_n 3, 1) := by decide +kernel
theorem dL_law_38 : decode cL_law 38 = .ok (.iaload, 1) := by decide +kernel
theorem dL_law_39 : decode cL_law 39 = .ok (.bipush 7, 2) := by decide +kernel
theorem dL_law_41 : decode cL_law 41 = .ok (.iand, 1) := by decide +kernel
theorem dL_law_42 : decode cL_law 42 = .ok (.tableswitch 262 0 7 #[46, 95, 144, 157, 190, 213, 226, 239], 46) := by decide +kernel
theorem dL_law_88 : decode cL_law 88 = .ok (.aload_n 1, 1) := by decide +kernel
theorem dL_law_89 : decode cL_law 89 = .ok (.aload_n 0, 1) := by decide +kernel
theorem dL_law_90 : decode cL_law 90 = .ok (.iload_n 3, 1) := by decide +kernel
theorem dL_law_91 : decode cL_law 91 = .ok (.iconst 1, 1) := by decide +kernel
theorem dL_law_92 : decode cL_law 92 = .ok (.iadd, 1) := by decide +kernel
theorem dL_law_93 : decode cL_law 93 = .ok (.iaload, 1) := by decide +kernel
theorem dL_law_94 : decode cL_law 94 = .ok (.aload_n 0, 1) := by decide +kernel
theorem dL_law_95 : decode cL_law 95 = .ok (.iload_n 3, 1) := by decide +kernel
theorem dL_law_96 : decode cL_law 96 = .ok (.iconst 2, 1) := by decide +kernel
theorem dL_law_97 : decode cL_law 97 = .ok (.iadd, 1) := by decide +kernel
theorem dL_law_98 : decode cL_law 98 = .ok (.iaload, 1) := by decide +kernel
theorem dL_law_99 : decode cL_law 99 = .ok (.ifCond .eq 7, 3) := by decide +kernel
theorem dL_law_102 : decode cL_law 102 = .ok (.iconst 1, 1) := by decide +kernel
theorem dL_law_103 : decode cL_law 103 = .ok (.goto 4, 3) := by decide +kernel
theorem dL_law_106 : decode cL_law 106 = .ok (.iconst 0, 1) := by decide +kernel
theorem dL_law_107 : decode cL_law 107 = .ok (.invokevirtual 21, 3) := by decide +kernel
theorem dL_law_110 : decode cL_law 110 = .ok (.aload_n 2, 1) := by decide +kernel
theorem dL_law_111 : decode cL_law 111 = .ok (.aload_n 0, 1) := by decide +kernel
theorem dL_law_112 : decode cL_law 112 = .ok (.iload_n 3, 1) := by decide +kernel
theorem dL_law_113 : decode cL_law 113 = .ok (.iconst 1, 1) := by decide +kernel
theorem dL_law_114 : decode cL_law 114 = .ok (.iadd, 1) := by decide +kernel
theorem dL_law_115 : decode cL_law 115 = .ok (.iaload, 1) := by decide +kernel
theorem dL_law_116 : decode cL_law 116 = .ok (.aload_n 0, 1) := by decide +kernel
theorem dL_law_117 : decode cL_law 117 = .ok (.iload_n 3, 1) := by decide +kernel
theorem dL_law_118 : decode cL_law 118 = .ok (.iconst 2, 1) := by decide +kernel
theorem dL_law_119 : decode cL_law 119 = .ok (.iadd, 1) := by decide +kernel
theorem dL_law_120 : decode cL_law 120 = .ok (.iaload, 1) := by decide +kernel
theorem dL_law_121 : decode cL_law 121 = .ok (.ifCond .eq 7, 3) := by decide +kernel
theorem dL_law_124 : decode cL_law 124 = .ok (.iconst 1, 1) := by decide +kernel
theorem dL_law_125 : decode cL_law 125 = .ok (.goto 4, 3) := by decide +kernel
theorem dL_law_128 : decode cL_law 128 = .ok (.iconst 0, 1) := by decide +kernel
theorem dL_law_129 : decode cL_law 129 = .ok (.invokevirtual 25, 3) := by decide +kernel
theorem dL_law_132 : decode cL_law 132 = .ok (.if_icmp .eq 172, 3) := by decide +kernel
theorem dL_law_135 : decode cL_law 135 = .ok (.iconst 0, 1) := by decide +kernel
theorem dL_law_136 : decode cL_law 136 = .ok (.ireturn, 1) := by decide +kernel
theorem dL_law_137 : decode cL_law 137 = .ok (.aload_n 1, 1) := by decide +kernel
theorem dL_law_138 : decode cL_law 138 = .ok (.aload_n 0, 1) := by decide +kernel
theorem dL_law_139 : decode cL_law 139 = .ok (.iload_n 3, 1) := by decide +kernel
theorem dL_law_140 : decode cL_law 140 = .ok (.iconst 1, 1) := by decide +kernel
theorem dL_law_141 : decode cL_law 141 = .ok (.iadd, 1) := by decide +kernel
theorem dL_law_142 : decode cL_law 142 = .ok (.iaload, 1) := by decide +kernel
theorem dL_law_143 : decode cL_law 143 = .ok (.aload_n 0, 1) := by decide +kernel
theorem dL_law_144 : decode cL_law 144 = .ok (.iload_n 3, 1) := by decide +kernel
theorem dL_law_145 : decode cL_law 145 = .ok (.iconst 2, 1) := by decide +kernel
theorem dL_law_146 : decode cL_law 146 = .ok (.iadd, 1) := by decide +kernel
theorem dL_law_147 : decode cL_law 147 = .ok (.iaload, 1) := by decide +kernel
theorem dL_law_148 : decode cL_law 148 = .ok (.ifCond .eq 7, 3) := by decide +kernel
theorem dL_law_151 : decode cL_law 151 = .ok (.iconst 1, 1) := by decide +kernel
theorem dL_law_152 : decode cL_law 152 = .ok (.goto 4, 3) := by decide +kernel
theorem dL_law_155 : decode cL_law 155 = .ok (.iconst 0, 1) := by decide +kernel
theorem dL_law_156 : decode cL_law 156 = .ok (.invokevirtual 26, 3) := by decide +kernel
theorem dL_law_159 : decode cL_law 159 = .ok (.aload_n 2, 1) := by decide +kernel
theorem dL_law_160 : decode cL_law 160 = .ok (.aload_n 0, 1) := by decide +kernel
theorem dL_law_161 : decode cL_law 161 = .ok (.iload_n 3, 1) := by decide +kernel
theorem dL_law_162 : decode cL_law 162 = .ok (.iconst 1, 1) := by decide +kernel
theorem dL_law_163 : decode cL_law 163 = .ok (.iadd, 1) := by decide +kernel
theorem dL_law_164 : decode cL_law 164 = .ok (.iaload, 1) := by decide +kernel
theorem dL_law_165 : decode cL_law 165 = .ok (.aload_n 0, 1) := by decide +kernel
theorem dL_law_166 : decode cL_law 166 = .ok (.iload_n 3, 1) := by decide +kernel
theorem dL_law_167 : decode cL_law 167 = .ok (.iconst 2, 1) := by decide +kernel
theorem dL_law_168 : decode cL_law 168 = .ok (.iadd, 1) := by decide +kernel
theorem dL_law_169 : decode cL_law 169 = .ok (.iaload, 1) := by decide +kernel
theorem dL_law_170 : decode cL_law 170 = .ok (.ifCond .eq 7, 3) := by decide +kernel
theorem dL_law_173 : decode cL_law 173 = .ok (.iconst 1, 1) := by decide +kernel
theorem dL_law_174 : decode cL_law 174 = .ok (.goto 4, 3) := by decide +kernel
theorem dL_law_177 : decode cL_law 177 = .ok (.iconst 0, 1) := by decide +kernel
theorem dL_law_178 : decode cL_law 178 = .ok (.invokevirtual 30, 3) := by decide +kernel
theorem dL_law_181 : decode cL_law 181 = .ok (.if_icmp .eq 123, 3) := by decide +kernel
theorem dL_law_184 : decode cL_law 184 = .ok (.iconst 0, 1) := by decide +kernel
theorem dL_law_185 : decode cL_law 185 = .ok (.ireturn, 1) := by decide +kernel
theorem dL_law_186 : decode cL_law 186 = .ok (.aload_n 1, 1) := by decide +kernel
theorem dL_law_187 : decode cL_law 187 = .ok (.invokevirtual 31, 3) := by decide +kernel
theorem dL_law_190 : decode cL_law 190 = .ok (.aload_n 2, 1) := by decide +kernel
theorem dL_law_191 : decode cL_law 191 = .ok (.invokevirtual 35, 3) := by decide +kernel
theorem dL_law_194 : decode cL_law 194 = .ok (.if_icmp .eq 110, 3) := by decide +kernel
theorem dL_law_197 : decode cL_law 197 = .ok (.iconst 0, 1) := by decide +kernel
theorem dL_law_198 : decode cL_law 198 = .ok (.ireturn, 1) := by decide +kernel
theorem dL_law_199 : decode cL_law 199 = .ok (.aload_n 1, 1) := by decide +kernel
theorem dL_law_200 : decode cL_law 200 = .ok (.aload_n 0, 1) := by decide +kernel
theorem dL_law_201 : decode cL_law 201 = .ok (.iload_n 3, 1) := by decide +kernel
theorem dL_law_202 : decode cL_law 202 = .ok (.iconst 1, 1) := by decide +kernel
theorem dL_law_203 : decode cL_law 203 = .ok (.iadd, 1) := by decide +kernel
theorem dL_law_204 : decode cL_law 204 = .ok (.iaload, 1) := by decide +kernel
theorem dL_law_205 : decode cL_law 205 = .ok (.aload_n 0, 1) := by decide +kernel
theorem dL_law_206 : decode cL_law 206 = .ok (.iload_n 3, 1) := by decide +kernel
theorem dL_law_207 : decode cL_law 207 = .ok (.iconst 2, 1) := by decide +kernel
theorem dL_law_208 : decode cL_law 208 = .ok (.iadd, 1) := by decide +kernel
theorem dL_law_209 : decode cL_law 209 = .ok (.iaload, 1) := by decide +kernel
theorem dL_law_210 : decode cL_law 210 = .ok (.invokevirtual 36, 3) := by decide +kernel
theorem dL_law_213 : decode cL_law 213 = .ok (.aload_n 2, 1) := by decide +kernel
theorem dL_law_214 : decode cL_law 214 = .ok (.aload_n 0, 1) := by decide +kernel
theorem dL_law_215 : decode cL_law 215 = .ok (.iload_n 3, 1) := by decide +kernel
theorem dL_law_216 : decode cL_law 216 = .ok (.iconst 1, 1) := by decide +kernel
theorem dL_law_217 : decode cL_law 217 = .ok (.iadd, 1) := by decide +kernel
theorem dL_law_218 : decode cL_law 218 = .ok (.iaload, 1) := by decide +kernel
theorem dL_law_219 : decode cL_law 219 = .ok (.aload_n 0, 1) := by decide +kernel
theorem dL_law_220 : decode cL_law 220 = .ok (.iload_n 3, 1) := by decide +kernel
theorem dL_law_221 : decode cL_law 221 = .ok (.iconst 2, 1) := by decide +kernel
theorem dL_law_222 : decode cL_law 222 = .ok (.iadd, 1) := by decide +kernel
theorem dL_law_223 : decode cL_law 223 = .ok (.iaload, 1) := by decide +kernel
theorem dL_law_224 : decode cL_law 224 = .ok (.invokevirtual 40, 3) := by decide +kernel
theorem dL_law_227 : decode cL_law 227 = .ok (.if_icmp .eq 77, 3) := by decide +kernel
theorem dL_law_230 : decode cL_law 230 = .ok (.iconst 0, 1) := by decide +kernel
theorem dL_law_231 : decode cL_law 231 = .ok (.ireturn, 1) := by decide +kernel
theorem dL_law_232 : decode cL_law 232 = .ok (.aload_n 1, 1) := by decide +kernel
theorem dL_law_233 : decode cL_law 233 = .ok (.aload_n 0, 1) := by decide +kernel
theorem dL_law_234 : decode cL_law 234 = .ok (.iload_n 3, 1) := by decide +kernel
theorem dL_law_235 : decode cL_law 235 = .ok (.iconst 1, 1) := by decide +kernel
theorem dL_law_236 : decode cL_law 236 = .ok (.iadd, 1) := by decide +kernel
theorem dL_law_237 : decode cL_law 237 = .ok (.iaload, 1) := by decide +kernel
theorem dL_law_238 : decode cL_law 238 = .ok (.invokevirtual 41, 3) := by decide +kernel
theorem dL_law_241 : decode cL_law 241 = .ok (.aload_n 2, 1) := by decide +kernel
theorem dL_law_242 : decode cL_law 242 = .ok (.aload_n 0, 1) := by decide +kernel
theorem dL_law_243 : decode cL_law 243 = .ok (.iload_n 3, 1) := by decide +kernel
theorem dL_law_244 : decode cL_law 244 = .ok (.iconst 1, 1) := by decide +kernel
theorem dL_law_245 : decode cL_law 245 = .ok (.iadd, 1) := by decide +kernel
theorem dL_law_246 : decode cL_law 246 = .ok (.iaload, 1) := by decide +kernel
theorem dL_law_247 : decode cL_law 247 = .ok (.invokevirtual 45, 3) := by decide +kernel
theorem dL_law_250 : decode cL_law 250 = .ok (.if_icmp .eq 54, 3) := by decide +kernel
theorem dL_law_253 : decode cL_law 253 = .ok (.iconst 0, 1) := by decide +kernel
theorem dL_law_254 : decode cL_law 254 = .ok (.ireturn, 1) := by decide +kernel
theorem dL_law_255 : decode cL_law 255 = .ok (.aload_n 1, 1) := by decide +kernel
theorem dL_law_256 : decode cL_law 256 = .ok (.invokevirtual 46, 3) := by decide +kernel
theorem dL_law_259 : decode cL_law 259 = .ok (.aload_n 2, 1) := by decide +kernel
theorem dL_law_260 : decode cL_law 260 = .ok (.invokevirtual 50, 3) := by decide +kernel
theorem dL_law_263 : decode cL_law 263 = .ok (.if_icmp .eq 41, 3) := by decide +kernel
theorem dL_law_266 : decode cL_law 266 = .ok (.iconst 0, 1) := by decide +kernel
theorem dL_law_267 : decode cL_law 267 = .ok (.ireturn, 1) := by decide +kernel
theorem dL_law_268 : decode cL_law 268 = .ok (.aload_n 1, 1) := by decide +kernel
theorem dL_law_269 : decode cL_law 269 = .ok (.invokevirtual 51, 3) := by decide +kernel
theorem dL_law_272 : decode cL_law 272 = .ok (.aload_n 2, 1) := by decide +kernel
theorem dL_law_273 : decode cL_law 273 = .ok (.invokevirtual 54, 3) := by decide +kernel
theorem dL_law_276 : decode cL_law 276 = .ok (.if_icmp .eq 28, 3) := by decide +kernel
theorem dL_law_279 : decode cL_law 279 = .ok (.iconst 0, 1) := by decide +kernel
theorem dL_law_280 : decode cL_law 280 = .ok (.ireturn, 1) := by decide +kernel
theorem dL_law_281 : decode cL_law 281 = .ok (.aload_n 1, 1) := by decide +kernel
theorem dL_law_282 : decode cL_law 282 = .ok (.aload_n 0, 1) := by decide +kernel
theorem dL_law_283 : decode cL_law 283 = .ok (.iload_n 3, 1) := by decide +kernel
theorem dL_law_284 : decode cL_law 284 = .ok (.iconst 1, 1) := by decide +kernel
theorem dL_law_285 : decode cL_law 285 = .ok (.iadd, 1) := by decide +kernel
theorem dL_law_286 : decode cL_law 286 = .ok (.iaload, 1) := by decide +kernel
theorem dL_law_287 : decode cL_law 287 = .ok (.invokevirtual 55, 3) := by decide +kernel
theorem dL_law_290 : decode cL_law 290 = .ok (.aload_n 2, 1) := by decide +kernel
theorem dL_law_291 : decode cL_law 291 = .ok (.aload_n 0, 1) := by decide +kernel
theorem dL_law_292 : decode cL_law 292 = .ok (.iload_n 3, 1) := by decide +kernel
theorem dL_law_293 : decode cL_law 293 = .ok (.iconst 1, 1) := by decide +kernel
theorem dL_law_294 : decode cL_law 294 = .ok (.iadd, 1) := by decide +kernel
theorem dL_law_295 : decode cL_law 295 = .ok (.iaload, 1) := by decide +kernel
theorem dL_law_296 : decode cL_law 296 = .ok (.invokevirtual 58, 3) := by decide +kernel
theorem dL_law_299 : decode cL_law 299 = .ok (.if_icmp .eq 5, 3) := by decide +kernel
theorem dL_law_302 : decode cL_law 302 = .ok (.iconst 0, 1) := by decide +kernel
theorem dL_law_303 : decode cL_law 303 = .ok (.ireturn, 1) := by decide +kernel
theorem dL_law_304 : decode cL_law 304 = .ok (.iinc 3 3, 3) := by decide +kernel
theorem dL_law_307 : decode cL_law 307 = .ok (.goto (-279), 3) := by decide +kernel
theorem dL_law_310 : decode cL_law 310 = .ok (.iconst 1, 1) := by decide +kernel
theorem dL_law_311 : decode cL_law 311 = .ok (.ireturn, 1) := by decide +kernel
abbrev vwCl : List vw_C := [(RX0, TX0, 10), (RX1, TX1, 9)]
end
section
/-! my own rows over the kit's: an index that is a Nat, calls that only read, calls and the frame -/
theorem cs_inc (k n : Nat) : nI k + Int32.ofInt (n : Int) = nI (k + n) := nI_add k n
theorem cs_lcmp {x : Int64} : lg_cmp x 0 = 0 ↔ x = 0 := by
  unfold lg_cmp
  constructor
  · intro h
    by_cases h1 : x > 0
    · rw [if_pos h1] at h
      exact absurd h (by decide)
    · rw [if_neg h1] at h
      by_cases h2 : x = 0
      · exact h2
      · rw [if_neg h2] at h
        exact absurd h (by decide)
  · intro h
    subst h
    decide
section CSK
variable {p : Program} {l : Launch} {e : Env} {R : Room} {s : State} {m : MethodId} {args : Array Value} {below : List Frame} {meth : Method} {c : Code} {H : Heap} {locs : List Loc} {cells slots : Nat} {Q : State → Prop}
variable {cc : ByteArray} {pc : Nat} {ls : Array Slot} {rest : List Value} {D : va_G} {cl : List vw_C} {A : Nat → Prop} {a : Nat} {tys : List (ClassId × FieldType)} {ws : va_W} {H0 : Heap}
theorem cs_top {x y : Int32} (h : x = y) (k : W p l e R s m args below meth c H locs cells slots Q (F0 m pc ls (.int y :: rest))) : W p l e R s m args below meth c H locs cells slots Q (F0 m pc ls (.int x :: rest)) := h ▸ k
theorem cs_topl {x y : Int64} (h : x = y) (k : W p l e R s m args below meth c H locs cells slots Q (F0 m pc ls (.long y :: rest))) : W p l e R s m args below meth c H locs cells slots Q (F0 m pc ls (.long x :: rest)) := h ▸ k
theorem cs_iald (hexec : p.tables.exec = Jvm.exec) (hb : c.code = cc) (hK : va_K D cl tys s) (hP : va_P D cl ws H) (q0 t0 : Nat) {cA : ClassId} {n : Nat} {f : Nat → Int32} (ha : ws[q0]? = some (a, .inl (cA, n, .inl f))) (ht : tys[t0]? = some (cA, .int)) {j : Nat} (hj : j < n) (hn : n < 2 ^ 31) (hdg : decode cc pc = .ok (.iaload, 1))
    (kk : W p l e R s m args below meth c H locs cells slots Q (F0 m (pc + 1) ls (.int (f j) :: rest))) : W p l e R s m args below meth c H locs cells slots Q (F0 m pc ls (.int (nI j) :: .ref a :: rest)) := by
  refine va_iald hexec hb hK hP q0 t0 ha ht (vp_in_nI hj hn) hdg ?_
  rw [nI_clamp (by omega)]
  exact kk
theorem cs_zald (hexec : p.tables.exec = Jvm.exec) (hb : c.code = cc) (hK : va_K D cl tys s) (hP : va_P D cl ws H) (q0 t0 : Nat) {cA : ClassId} {n : Nat} {f : Nat → Int32} (ha : ws[q0]? = some (a, .inl (cA, n, .inl f))) (ht : tys[t0]? = some (cA, .boolean)) {j : Nat} (hj : j < n) (hn : n < 2 ^ 31) (hdg : decode cc pc = .ok (.baload, 1))
    (kk : W p l e R s m args below meth c H locs cells slots Q (F0 m (pc + 1) ls (.int (f j) :: rest))) : W p l e R s m args below meth c H locs cells slots Q (F0 m pc ls (.int (nI j) :: .ref a :: rest)) := by
  refine va_zald hexec hb hK hP q0 t0 ha ht (vp_in_nI hj hn) hdg ?_
  rw [nI_clamp (by omega)]
  exact kk
theorem cs_lald (hexec : p.tables.exec = Jvm.exec) (hb : c.code = cc) (hK : va_K D cl tys s) (hP : va_P D cl ws H) (q0 t0 : Nat) {cA : ClassId} {n : Nat} {f : Nat → Int64} (ha : ws[q0]? = some (a, .inl (cA, n, .inr (.inl f)))) (ht : tys[t0]? = some (cA, .long)) {j : Nat} (hj : j < n) (hn : n < 2 ^ 31) (hdg : decode cc pc = .ok (.laload, 1))
    (kk : W p l e R s m args below meth c H locs cells slots Q (F0 m (pc + 1) ls (.long (f j) :: rest))) : W p l e R s m args below meth c H locs cells slots Q (F0 m pc ls (.int (nI j) :: .ref a :: rest)) := by
  refine va_lald hexec hb hK hP q0 t0 ha ht (vp_in_nI hj hn) hdg ?_
  rw [nI_clamp (by omega)]
  exact kk
theorem cs_iast (hexec : p.tables.exec = Jvm.exec) (hb : c.code = cc) (hK : va_K D cl tys s) (hP : va_P D cl ws H) (hD : va_D A ws) (hS : va_S A H0 H locs) (q0 t0 : Nat) {cA : ClassId} {n : Nat} {f : Nat → Int32} (ha : ws[q0]? = some (a, .inl (cA, n, .inl f))) (ht : tys[t0]? = some (cA, .int)) {j : Nat} {x : Int32} (hj : j < n) (hn : n < 2 ^ 31) (hdg : decode cc pc = .ok (.iastore, 1))
    (kk : ∀ (H1 : Heap) (locs1 : List Loc), va_P D cl (ws.set q0 (a, .inl (cA, n, .inl (upd f j x)))) H1 → va_D A (ws.set q0 (a, .inl (cA, n, .inl (upd f j x)))) → va_S A H0 H1 locs1 → W p l e R s m args below meth c H1 locs1 cells slots Q (F0 m (pc + 1) ls rest)) : W p l e R s m args below meth c H locs cells slots Q (F0 m pc ls (.int x :: .int (nI j) :: .ref a :: rest)) := by
  refine va_iast hexec hb hK hP hD hS q0 t0 ha ht (vp_in_nI hj hn) hdg ?_
  rw [nI_clamp (by omega)]
  exact kk
theorem cs_zast (hexec : p.tables.exec = Jvm.exec) (hb : c.code = cc) (hK : va_K D cl tys s) (hP : va_P D cl ws H) (hD : va_D A ws) (hS : va_S A H0 H locs) (q0 t0 : Nat) {cA : ClassId} {n : Nat} {f : Nat → Int32} (ha : ws[q0]? = some (a, .inl (cA, n, .inl f))) (ht : tys[t0]? = some (cA, .boolean)) {j : Nat} {x : Int32} (hx : vp_nar .boolean x = x) (hj : j < n) (hn : n < 2 ^ 31) (hdg : decode cc pc = .ok (.bastore, 1))
    (kk : ∀ (H1 : Heap) (locs1 : List Loc), va_P D cl (ws.set q0 (a, .inl (cA, n, .inl (upd f j x)))) H1 → va_D A (ws.set q0 (a, .inl (cA, n, .inl (upd f j x)))) → va_S A H0 H1 locs1 → W p l e R s m args below meth c H1 locs1 cells slots Q (F0 m (pc + 1) ls rest)) : W p l e R s m args below meth c H locs cells slots Q (F0 m pc ls (.int x :: .int (nI j) :: .ref a :: rest)) := by
  refine va_zast hexec hb hK hP hD hS q0 t0 ha ht (vp_in_nI hj hn) hdg ?_
  rw [nI_clamp (by omega), hx]
  exact kk
theorem cs_last (hexec : p.tables.exec = Jvm.exec) (hb : c.code = cc) (hK : va_K D cl tys s) (hP : va_P D cl ws H) (hD : va_D A ws) (hS : va_S A H0 H locs) (q0 t0 : Nat) {cA : ClassId} {n : Nat} {f : Nat → Int64} (ha : ws[q0]? = some (a, .inl (cA, n, .inr (.inl f)))) (ht : tys[t0]? = some (cA, .long)) {j : Nat} {x : Int64} (hj : j < n) (hn : n < 2 ^ 31) (hdg : decode cc pc = .ok (.lastore, 1))
    (kk : ∀ (H1 : Heap) (locs1 : List Loc), va_P D cl (ws.set q0 (a, .inl (cA, n, .inr (.inl (vp_updL f j x))))) H1 → va_D A (ws.set q0 (a, .inl (cA, n, .inr (.inl (vp_updL f j x))))) → va_S A H0 H1 locs1 → W p l e R s m args below meth c H1 locs1 cells slots Q (F0 m (pc + 1) ls rest)) : W p l e R s m args below meth c H locs cells slots Q (F0 m pc ls (.long x :: .int (nI j) :: .ref a :: rest)) := by
  refine va_last hexec hb hK hP hD hS q0 t0 ha ht (vp_in_nI hj hn) hdg ?_
  rw [nI_clamp (by omega)]
  exact kk
theorem cs_tl (hexec : p.tables.exec = Jvm.exec) (hb : c.code = cc) {t N : Nat} {f : Nat → Value} (hT : va_T .long t N f A s s.heap) (hS : va_S A s.heap H locs) {j : Nat} (hj : j < N) (hn : N < 2 ^ 31) {v : Value} (hv : f j = v) (hdg : decode cc pc = .ok (.laload, 1))
    (kk : W p l e R s m args below meth c H locs cells slots Q (F0 m (pc + 1) ls (v :: rest))) : W p l e R s m args below meth c H locs cells slots Q (F0 m pc ls (.int (nI j) :: .ref t :: rest)) :=
  va_tl hexec hb hT hS (vp_in_nI hj hn) (by rw [nI_clamp (by omega)]; exact hv) hdg kk
/-- what a reading method asks of its world -/
def rW (D : va_G) (cl : List vw_C) (ws : va_W) (tys : List (ClassId × FieldType)) (U : State) : Prop := va_P D cl ws U.heap ∧ va_K D cl tys U
theorem rW_blind {av : List Value} : FrameBlind (va_Pc av (rW D cl ws tys)) := fun a U g mk q => ⟨q.1, q.2.1, va_K.moved (u := U) (U := U.calling g mk a) (Vm.Alike.refl U.vm) q.2.2⟩
theorem rW_preV {b : Addr} {C : String} {As : List Value} (hP : va_P D cl ws H) (hK : va_K D cl tys s) (hr : ∃ cellB : Cell, H[b]? = some cellB ∧ cellB.vm.isStatics = false ∧ s.vm.findClass C = some cellB.cls) : PreV s H C b (va_Pc (.ref b :: As) (rW D cl ws tys)) As :=
  ⟨rW_blind, hr, fun U hU hW => ⟨rfl, by rw [hU]; exact hP, va_K.moved hW.alike hK⟩⟩
/-- the same, and a static table of longs that is only read -/
def tW (C n d : String) (tt N : Nat) (f : Nat → Value) (A : Nat → Prop) (U : State) (H : Heap) : Prop := va_Z C n d (.ref tt) A U H ∧ va_T .long tt N f A U H
theorem tW.moved {C n d : String} {tt N : Nat} {f : Nat → Value} {u U : State} (hvm : u.vm.Alike U.vm) (h : tW C n d tt N f A u H) : tW C n d tt N f A U H := ⟨h.1.moved hvm, h.2.moved hvm⟩
theorem tW.kept {C n d : String} {tt N : Nat} {f : Nat → Value} {U : State} {H1 : Heap} (h : tW C n d tt N f A U H) (hq : ∀ a : Nat, a < H.size → ¬ A a → H1[a]? = H[a]?) : tW C n d tt N f A U H1 := ⟨h.1.kept hq, h.2.kept hq⟩
theorem tW.narrow {B : Nat → Prop} {C n d : String} {tt N : Nat} {f : Nat → Value} {U : State} (h : tW C n d tt N f A U H) (hAB : ∀ q, B q → A q) : tW C n d tt N f B U H := ⟨h.1.narrow hAB, h.2.narrow hAB⟩
def rT (C n d : String) (tt N : Nat) (f : Nat → Value) (B : State → Prop) (U : State) : Prop := B U ∧ tW C n d tt N f (fun _ => False) U U.heap
theorem rT_preV {C0 n0 d0 : String} {tt N0 : Nat} {f0 : Nat → Value} {b : Addr} {C : String} {As : List Value} (hP : va_P D cl ws H) (hK : va_K D cl tys s) (hT : tW C0 n0 d0 tt N0 f0 A s H) (hr : ∃ cellB : Cell, H[b]? = some cellB ∧ cellB.vm.isStatics = false ∧ s.vm.findClass C = some cellB.cls) : PreV s H C b (va_Pc (.ref b :: As) (rT C0 n0 d0 tt N0 f0 (rW D cl ws tys))) As :=
  ⟨fun a U g mk q => ⟨q.1, ⟨q.2.1.1, va_K.moved (u := U) (U := U.calling g mk a) (Vm.Alike.refl U.vm) q.2.1.2⟩, tW.moved (u := U) (U := U.calling g mk a) (Vm.Alike.refl U.vm) q.2.2⟩, hr, fun U hU hW => ⟨rfl, ⟨by rw [hU]; exact hP, va_K.moved hW.alike hK⟩, by rw [hU]; exact (hT.moved hW.alike).narrow (fun _ z => z.elim)⟩⟩
theorem rT_preS {C0 n0 d0 : String} {tt N0 : Nat} {f0 : Nat → Value} {As : List Value} (hT : tW C0 n0 d0 tt N0 f0 A s H) : PreS s H (va_Pc As (rT C0 n0 d0 tt N0 f0 (fun _ => True))) As :=
  ⟨fun a U g mk q => ⟨q.1, trivial, tW.moved (u := U) (U := U.calling g mk a) (Vm.Alike.refl U.vm) q.2.2⟩, fun U hU hW => ⟨rfl, trivial, by rw [hU]; exact (hT.moved hW.alike).narrow (fun _ z => z.elim)⟩⟩
theorem nW_preS {As : List Value} : PreS s H (va_Pc As (fun _ => True)) As := ⟨fun _ _ _ _ q => ⟨q.1, trivial⟩, fun _ _ _ => ⟨rfl, trivial⟩⟩
theorem cs_gett (hexec : p.tables.exec = Jvm.exec) (hb : c.code = cc) {C n d own : String} {tt N index : Nat} {f : Nat → Value} (hT : tW C n d tt N f A s s.heap) (hS : va_S A s.heap H locs) (hown : s.vm.findClass own = some m.cls) (hlink : (Cond.fieldLink own index C n d).before args s = true) (hdg : decode cc pc = .ok (.getstatic index, 3))
    (kk : W p l e R s m args below meth c H locs cells slots Q (F0 m (pc + 3) ls (.ref tt :: rest))) : W p l e R s m args below meth c H locs cells slots Q (F0 m pc ls rest) :=
  va_gets hexec hb hT.1 hS hown hlink (fun _ h => h) hdg kk
/-- what a writing method asks of its world -/
def wW (D : va_G) (cl : List vw_C) (ws : va_W) (tys : List (ClassId × FieldType)) (sz : Nat) (U : State) : Prop := U.heap.size = sz ∧ va_P D cl ws U.heap ∧ va_K D cl tys U ∧ va_D (fun _ => True) ws
theorem wW_preV {b : Addr} {C : String} {As : List Value} (hP : va_P D cl ws H) (hK : va_K D cl tys s) (hD : va_D A ws) (hr : ∃ cellB : Cell, H[b]? = some cellB ∧ cellB.vm.isStatics = false ∧ s.vm.findClass C = some cellB.cls) : PreV s H C b (va_Pc (.ref b :: As) (wW D cl ws tys H.size)) As :=
  ⟨fun a U g mk q => ⟨q.1, q.2.1, q.2.2.1, va_K.moved (u := U) (U := U.calling g mk a) (Vm.Alike.refl U.vm) q.2.2.2.1, q.2.2.2.2⟩, hr, fun U hU hW => ⟨rfl, by rw [hU], by rw [hU]; exact hP, va_K.moved hW.alike hK, hD.weaken (fun _ _ _ _ => trivial)⟩⟩
theorem wW_preI {b : Addr} {As : List Value} (hP : va_P D cl ws H) (hK : va_K D cl tys s) (hD : va_D A ws) : PreS s H (va_Pc (.ref b :: As) (wW D cl ws tys H.size)) (.ref b :: As) :=
  ⟨fun a U g mk q => ⟨q.1, q.2.1, q.2.2.1, va_K.moved (u := U) (U := U.calling g mk a) (Vm.Alike.refl U.vm) q.2.2.2.1, q.2.2.2.2⟩, fun U hU hW => ⟨rfl, by rw [hU], by rw [hU]; exact hP, va_K.moved hW.alike hK, hD.weaken (fun _ _ _ _ => trivial)⟩⟩
def wT (C n d : String) (tt N : Nat) (f : Nat → Value) (ws : va_W) (sz : Nat) (B : State → Prop) (U : State) : Prop := B U ∧ tW C n d tt N f (va_A ws sz) U U.heap
theorem wT_preV {C0 n0 d0 : String} {tt N0 : Nat} {f0 : Nat → Value} {b : Addr} {C : String} {As : List Value} (hP : va_P D cl ws H) (hK : va_K D cl tys s) (hD : va_D A ws) (hT : tW C0 n0 d0 tt N0 f0 (va_A ws H.size) s H) (hr : ∃ cellB : Cell, H[b]? = some cellB ∧ cellB.vm.isStatics = false ∧ s.vm.findClass C = some cellB.cls) : PreV s H C b (va_Pc (.ref b :: As) (wT C0 n0 d0 tt N0 f0 ws H.size (wW D cl ws tys H.size))) As :=
  ⟨fun a U g mk q => ⟨q.1, ⟨q.2.1.1, q.2.1.2.1, va_K.moved (u := U) (U := U.calling g mk a) (Vm.Alike.refl U.vm) q.2.1.2.2.1, q.2.1.2.2.2⟩, tW.moved (u := U) (U := U.calling g mk a) (Vm.Alike.refl U.vm) q.2.2⟩, hr, fun U hU hW => ⟨rfl, ⟨by rw [hU], by rw [hU]; exact hP, va_K.moved hW.alike hK, hD.weaken (fun _ _ _ _ => trivial)⟩, by rw [hU]; exact hT.moved hW.alike⟩⟩
end CSK
/-- what a writing method leaves of its world -/
def oW (D : va_G) (cl : List vw_C) (ws : va_W) (sz : Nat) {S : Type} (w1 : S → va_W) (u : S) (t : State) : Prop := va_P D cl (w1 u) t.heap ∧ va_D (va_A ws sz) (w1 u)
section CSC
variable {p : Program} {l : Launch} {e : Env} {R : Room} {s : State} {m : MethodId} {args : Array Value} {below : List Frame} {meth : Method} {c : Code} {H : Heap} {locs : List Loc} {cells slots : Nat} {Q : State → Prop}
variable {pc : Nat} {ls : Array Slot} {rest st0 : List Value} {a : Array Value} {A0 : Nat → Prop} {H0 : Heap} {D : va_G} {cl : List vw_C} {ws wc wr : va_W}
/-- a call of a writing method, and the frame: its cells are places isC of mine, the rest isR -/
theorem cs_calli {S : Type} {post : Int32 → S → Prop} {w1 : S → va_W} (hr : va_Run p l e R s m args below meth c H locs cells slots 0 0 (F0 m pc ls st0) rest (va_Qi post (oW D cl wc H.size w1) (va_A wc H.size) a) (va_A wc H.size)) (hS : va_S A0 H0 H locs) (hA : ∀ q, H0.size ≤ q → A0 q) (hP : va_P D cl ws H) (hD : va_D A0 ws) (isC isR : List Nat) (hC : isC.map (fun i => ws[i]?) = wc.map some) (hR : isR.map (fun i => ws[i]?) = wr.map some) (hn : va_nd isR = true) (hdis : ∀ i ∈ isR, i ∉ isC)
    (kk : ∀ (r : Int32) (u : S) (H1 : Heap) (locs1 : List Loc), post r u → va_P D cl (wr ++ w1 u) H1 → va_D A0 (wr ++ w1 u) → va_S A0 H0 H1 locs1 → W p l e R s m args below meth c H1 locs1 cells slots Q (F0 m (pc + 3) ls (.int r :: rest))) : W p l e R s m args below meth c H locs cells slots Q (F0 m pc ls st0) := by
  have hFc := va_free (wc := wc) hD hS hA isC hC
  refine va_calli hr hS (fun q _ h => hFc q h) hFc (fun r u t H1 locs1 ht hvm hp hB hz1 hk1 hS1 => ?_)
  obtain ⟨hP1, hD1⟩ := hB
  rw [ht] at hP1
  obtain ⟨hP2, hD2⟩ := va_join (wr := wr) (w1 := w1 u) hP hD isC isR hC hR hn hdis hk1 hFc hP1 hD1
  exact kk r u H1 locs1 hp hP2 hD2 hS1
end CSC
end
section
/-! the cells of the class and of the reference -/
abbrev xC (o a1 a2 a3 a4 : Nat) (c1 c2 c3 c4 : ClassId) (v h w y z c : Int32) (f1 f2 f3 : Nat → Int32) (f4 : Nat → Int64) : va_W := [(o, .inr (0, [.int v, .int h, .int w, .int y, .int z, .int c, .ref a1, .ref a2, .ref a3, .ref a4])), (a1, .inl (c1, 400, .inl f1)), (a2, .inl (c2, 400, .inl f2)), (a3, .inl (c3, 400, .inl f3)), (a4, .inl (c4, 400, .inr (.inl f4)))]
abbrev xT (c1 c2 c3 c4 : ClassId) : List (ClassId × FieldType) := [(c1, .int), (c2, .int), (c3, .int), (c4, .long)]
abbrev mC (o b1 b2 b3 : Nat) (e1 e2 e3 : ClassId) (v c y z f k : Int32) (g1 g2 g3 : Nat → Int32) : va_W := [(o, .inr (1, [.int v, .ref b1, .ref b2, .ref b3, .int c, .int y, .int z, .int f, .int k])), (b1, .inl (e1, 16, .inl g1)), (b2, .inl (e2, 400, .inl g2)), (b3, .inl (e3, 400, .inl g3))]
abbrev mT (e1 e2 e3 : ClassId) : List (ClassId × FieldType) := [(e1, .boolean), (e2, .int), (e3, .int)]
def twv : Nat → Value := fun j => .long (cs_tw j)
abbrev rX (tt : Nat) (B : State → Prop) : State → Prop := rT RX0 "TAILS_WITH" "[J" tt 6 twv B
abbrev wX (tt : Nat) (ws : va_W) (sz : Nat) (B : State → Prop) : State → Prop := wT RX0 "TAILS_WITH" "[J" tt 6 twv ws sz B
end
section
set_option maxHeartbeats 4000000 in
set_option maxRecDepth 100000 in
/-- has -/
theorem c_has (l : Launch) {b v : Nat} (h1 : b < 2 ^ 31) (h2 : v < 32) : Met l yX0_has wsX0_has ({ frames := 0, cells := 0, slots := 0, locals := 0 }) (va_Pc [.int (nI b), .int (nI v)] (fun _ => True)) (vp_Si (fun r => r = bI (b.testBit v))) 0 0 (fun _ => False) := by
  refine Met.ofW (cc := cX0_has) (maxL := 2) (ret := some .boolean) (by decide) rfl ?_
  intro p e s m args below meth c0 s₁ B hml hv0
  obtain ⟨rfl, -⟩ := hv0
  have hx := B.exec
  have hb := B.bytes
  have hr := B.returns
  have hts := atoms_spec (ws := wsX0_has) B.pre
  have hown : s.vm.findClass RX0 = some m.cls := findClass_of_methodNamed B.named
  have hlocks := B.notSynchronized
  have hl := lv_entry ([.int (nI b), .int (nI v)]) (n := 2) (Nat.le_of_ble_eq_true rfl)
  rw [lg_entry_eq]
  generalize (lg_sl ([.int (nI b), .int (nI v)]) ++ List.replicate (2 - (lg_sl ([.int (nI b), .int (nI v)])).length) Slot.unset).toArray = ls at hl ⊢
  have hl : lv_has ls 2 [(0, .int (nI b)), (1, .int (nI v))] := hl
  refine lv_iload_n hx hb dX0_has_0 rfl (lv_at hl 0 rfl) ?_
  refine lv_iload_n hx hb dX0_has_1 rfl (lv_at hl 1 rfl) ?_
  refine lv_ishr hx hb dX0_has_2 ?_
  refine cs_top (y := nI (b / 2 ^ v)) (cs_shr h2 h1) ?_
  refine lv_iconst (v := nI 1) hx hb dX0_has_3 (by decide) ?_
  refine lv_iand hx hb dX0_has_4 ?_
  refine cs_top (y := nI ((b / 2 ^ v) &&& 1)) (cs_and (b / 2 ^ v) 1) ?_
  refine cs_top (y := bI (b.testBit v)) (cs_hasv b v) ?_
  refine lv_if_eq hx hb dX0_has_5 (tgt := 12) (by decide) (fun hq => ?_) (fun hq => ?_)
  · refine lv_iconst (v := nI 0) hx hb dX0_has_12 (by decide) ?_
    exact W.zret (ty := .boolean) (v := nI 0) hx hb hr (by first | rfl | decide) (fun t ht hW => ⟨nI 0, rfl, nI_0.trans hq.symm, ht⟩) (fun q h => by cases h) dX0_has_13
  · refine lv_iconst (v := nI 1) hx hb dX0_has_8 (by decide) ?_
    refine lv_goto hx hb dX0_has_9 (tgt := 13) (by decide) ?_
    exact W.zret (ty := .boolean) (v := nI 1) hx hb hr (by first | rfl | decide) (fun t ht hW => ⟨nI 1, rfl, (bI_ne hq).symm, ht⟩) (fun q h => by cases h) dX0_has_13
set_option maxHeartbeats 4000000 in
set_option maxRecDepth 100000 in
/-- lowBits -/
theorem c_lowBits (l : Launch) {v : Nat} (h1 : v < 31) : Met l yX0_lowBits wsX0_lowBits ({ frames := 0, cells := 0, slots := 0, locals := 0 }) (va_Pc [.int (nI v)] (fun _ => True)) (vp_Si (fun r => r = nI (2 ^ v - 1))) 0 0 (fun _ => False) := by
  refine Met.ofW (cc := cX0_lowBits) (maxL := 1) (ret := some .int) (by decide) rfl ?_
  intro p e s m args below meth c0 s₁ B hml hv0
  obtain ⟨rfl, -⟩ := hv0
  have hx := B.exec
  have hb := B.bytes
  have hr := B.returns
  have hts := atoms_spec (ws := wsX0_lowBits) B.pre
  have hown : s.vm.findClass RX0 = some m.cls := findClass_of_methodNamed B.named
  have hlocks := B.notSynchronized
  have hl := lv_entry ([.int (nI v)]) (n := 1) (Nat.le_of_ble_eq_true rfl)
  rw [lg_entry_eq]
  generalize (lg_sl ([.int (nI v)]) ++ List.replicate (1 - (lg_sl ([.int (nI v)])).length) Slot.unset).toArray = ls at hl ⊢
  have hl : lv_has ls 1 [(0, .int (nI v))] := hl
  refine lv_iconst (v := nI 1) hx hb dX0_lowBits_0 (by decide) ?_
  refine lv_iload_n hx hb dX0_lowBits_1 rfl (lv_at hl 0 rfl) ?_
  refine lv_ishl hx hb dX0_lowBits_2 ?_
  refine cs_top (y := nI (2 ^ v)) (cs_one h1) ?_
  refine lv_iconst (v := nI 1) hx hb dX0_lowBits_3 (by decide) ?_
  refine lv_isub hx hb dX0_lowBits_4 ?_
  refine cs_top (y := nI (2 ^ v - 1)) (cs_low h1) ?_
  exact W.iret (v := nI (2 ^ v - 1)) hx hb hr (fun t ht hW => ⟨nI (2 ^ v - 1), rfl, rfl, ht⟩) (fun q h => by cases h) dX0_lowBits_5
set_option maxHeartbeats 4000000 in
set_option maxRecDepth 100000 in
/-- Integer.bitCount of a number of sixteen bits -/
theorem c_bitCount (l : Launch) {n : Nat} (h1 : n < 65536) : Met l yJ6_bitCount_0f7a4 wsJ6_bitCount_0f7a4 ({ frames := 0, cells := 0, slots := 0, locals := 0 }) (va_Pc [.int (nI n)] (fun _ => True)) (vp_Si (fun r => r = nI (pcs n 16))) 0 0 (fun _ => False) := by
  refine Met.ofW (cc := cJ6_bitCount_0f7a4) (maxL := 1) (ret := some .int) (by decide) rfl ?_
  intro p e s m args below meth c0 s₁ B hml hv0
  obtain ⟨rfl, -⟩ := hv0
  have hx := B.exec
  have hb := B.bytes
  have hr := B.returns
  have hts := atoms_spec (ws := wsJ6_bitCount_0f7a4) B.pre
  have hown : s.vm.findClass RJ6 = some m.cls := findClass_of_methodNamed B.named
  have hlocks := B.notSynchronized
  have hl := lv_entry ([.int (nI n)]) (n := 1) (Nat.le_of_ble_eq_true rfl)
  rw [lg_entry_eq]
  generalize (lg_sl ([.int (nI n)]) ++ List.replicate (1 - (lg_sl ([.int (nI n)])).length) Slot.unset).toArray = ls at hl ⊢
  have hl : lv_has ls 1 [(0, .int (nI n))] := hl
  have l1 := bc1_lt h1
  have l2 := bc2_lt l1
  have l3 := bc3_lt l2
  have l4 := bc4_lt l3
  refine lv_iload_n hx hb dJ6_bitCount_0f7a4_0 rfl (lv_at hl 0 rfl) ?_
  refine lv_iload_n hx hb dJ6_bitCount_0f7a4_1 rfl (lv_at hl 0 rfl) ?_
  refine lv_iconst (v := nI 1) hx hb dJ6_bitCount_0f7a4_2 (by decide) ?_
  refine lv_iushr (v := nI (n / 2 ^ 1)) hx hb dJ6_bitCount_0f7a4_3 (pk_ushrN (by omega) _ 1 (by decide)) ?_
  refine lv_ldcw (v := nI 1431655765) hx hb hown (hts (.constant RJ6 265 (1431655765)) (by decide +kernel)) dJ6_bitCount_0f7a4_4 ?_
  refine lv_iand hx hb dJ6_bitCount_0f7a4_7 ?_
  refine cs_top (y := nI ((n / 2 ^ 1) &&& 1431655765)) (cs_and (n / 2 ^ 1) 1431655765) ?_
  refine lv_isub hx hb dJ6_bitCount_0f7a4_8 ?_
  refine cs_top (y := nI (bc1 n)) (pk_sub (Nat.le_trans Nat.and_le_left (Nat.div_le_self _ _))) ?_
  refine lv_istore_n hx hb dJ6_bitCount_0f7a4_9 rfl hl (by decide) rfl (fun ls hl => ?_)
  have hl : lv_has ls 1 [(0, .int (nI (bc1 n)))] := hl
  refine lv_iload_n hx hb dJ6_bitCount_0f7a4_10 rfl (lv_at hl 0 rfl) ?_
  refine lv_ldcw (v := nI 858993459) hx hb hown (hts (.constant RJ6 266 (858993459)) (by decide +kernel)) dJ6_bitCount_0f7a4_11 ?_
  refine lv_iand hx hb dJ6_bitCount_0f7a4_14 ?_
  refine cs_top (y := nI ((bc1 n) &&& 858993459)) (cs_and (bc1 n) 858993459) ?_
  refine lv_iload_n hx hb dJ6_bitCount_0f7a4_15 rfl (lv_at hl 0 rfl) ?_
  refine lv_iconst (v := nI 2) hx hb dJ6_bitCount_0f7a4_16 (by decide) ?_
  refine lv_iushr (v := nI ((bc1 n) / 2 ^ 2)) hx hb dJ6_bitCount_0f7a4_17 (pk_ushrN (by omega) _ 2 (by decide)) ?_
  refine lv_ldcw (v := nI 858993459) hx hb hown (hts (.constant RJ6 266 (858993459)) (by decide +kernel)) dJ6_bitCount_0f7a4_18 ?_
  refine lv_iand hx hb dJ6_bitCount_0f7a4_21 ?_
  refine cs_top (y := nI (((bc1 n) / 2 ^ 2) &&& 858993459)) (cs_and ((bc1 n) / 2 ^ 2) 858993459) ?_
  refine lv_iadd hx hb dJ6_bitCount_0f7a4_22 ?_
  refine cs_top (y := nI (((bc1 n) &&& 858993459) + (((bc1 n) / 2 ^ 2) &&& 858993459))) (nI_add ((bc1 n) &&& 858993459) (((bc1 n) / 2 ^ 2) &&& 858993459)) ?_
  refine cs_top (y := nI (bc2 (bc1 n))) (rfl) ?_
  refine lv_istore_n hx hb dJ6_bitCount_0f7a4_23 rfl hl (by decide) rfl (fun ls hl => ?_)
  have hl : lv_has ls 1 [(0, .int (nI (bc2 (bc1 n))))] := hl
  refine lv_iload_n hx hb dJ6_bitCount_0f7a4_24 rfl (lv_at hl 0 rfl) ?_
  refine lv_iload_n hx hb dJ6_bitCount_0f7a4_25 rfl (lv_at hl 0 rfl) ?_
  refine lv_iconst (v := nI 4) hx hb dJ6_bitCount_0f7a4_26 (by decide) ?_
  refine lv_iushr (v := nI ((bc2 (bc1 n)) / 2 ^ 4)) hx hb dJ6_bitCount_0f7a4_27 (pk_ushrN (by omega) _ 4 (by decide)) ?_
  refine lv_iadd hx hb dJ6_bitCount_0f7a4_28 ?_
  refine cs_top (y := nI ((bc2 (bc1 n)) + ((bc2 (bc1 n)) / 2 ^ 4))) (nI_add (bc2 (bc1 n)) ((bc2 (bc1 n)) / 2 ^ 4)) ?_
  refine lv_ldcw (v := nI 252645135) hx hb hown (hts (.constant RJ6 267 (252645135)) (by decide +kernel)) dJ6_bitCount_0f7a4_29 ?_
  refine lv_iand hx hb dJ6_bitCount_0f7a4_32 ?_
  refine cs_top (y := nI (((bc2 (bc1 n)) + ((bc2 (bc1 n)) / 2 ^ 4)) &&& 252645135)) (cs_and ((bc2 (bc1 n)) + ((bc2 (bc1 n)) / 2 ^ 4)) 252645135) ?_
  refine cs_top (y := nI (bc3 (bc2 (bc1 n)))) (rfl) ?_
  refine lv_istore_n hx hb dJ6_bitCount_0f7a4_33 rfl hl (by decide) rfl (fun ls hl => ?_)
  have hl : lv_has ls 1 [(0, .int (nI (bc3 (bc2 (bc1 n)))))] := hl
  refine lv_iload_n hx hb dJ6_bitCount_0f7a4_34 rfl (lv_at hl 0 rfl) ?_
  refine lv_iload_n hx hb dJ6_bitCount_0f7a4_35 rfl (lv_at hl 0 rfl) ?_
  refine lv_bipush (v := nI 8) hx hb dJ6_bitCount_0f7a4_36 (by decide) ?_
  refine lv_iushr (v := nI ((bc3 (bc2 (bc1 n))) / 2 ^ 8)) hx hb dJ6_bitCount_0f7a4_38 (pk_ushrN (by omega) _ 8 (by decide)) ?_
  refine lv_iadd hx hb dJ6_bitCount_0f7a4_39 ?_
  refine cs_top (y := nI ((bc3 (bc2 (bc1 n))) + ((bc3 (bc2 (bc1 n))) / 2 ^ 8))) (nI_add (bc3 (bc2 (bc1 n))) ((bc3 (bc2 (bc1 n))) / 2 ^ 8)) ?_
  refine cs_top (y := nI (bc4 (bc3 (bc2 (bc1 n))))) (rfl) ?_
  refine lv_istore_n hx hb dJ6_bitCount_0f7a4_40 rfl hl (by decide) rfl (fun ls hl => ?_)
  have hl : lv_has ls 1 [(0, .int (nI (bc4 (bc3 (bc2 (bc1 n))))))] := hl
  refine lv_iload_n hx hb dJ6_bitCount_0f7a4_41 rfl (lv_at hl 0 rfl) ?_
  refine lv_iload_n hx hb dJ6_bitCount_0f7a4_42 rfl (lv_at hl 0 rfl) ?_
  refine lv_bipush (v := nI 16) hx hb dJ6_bitCount_0f7a4_43 (by decide) ?_
  refine lv_iushr (v := nI ((bc4 (bc3 (bc2 (bc1 n)))) / 2 ^ 16)) hx hb dJ6_bitCount_0f7a4_45 (pk_ushrN (by omega) _ 16 (by decide)) ?_
  refine lv_iadd hx hb dJ6_bitCount_0f7a4_46 ?_
  refine cs_top (y := nI ((bc4 (bc3 (bc2 (bc1 n)))) + ((bc4 (bc3 (bc2 (bc1 n)))) / 2 ^ 16))) (nI_add (bc4 (bc3 (bc2 (bc1 n)))) ((bc4 (bc3 (bc2 (bc1 n)))) / 2 ^ 16)) ?_
  refine cs_top (y := nI (bc5 (bc4 (bc3 (bc2 (bc1 n)))))) (rfl) ?_
  refine lv_istore_n hx hb dJ6_bitCount_0f7a4_47 rfl hl (by decide) rfl (fun ls hl => ?_)
  have hl : lv_has ls 1 [(0, .int (nI (bc5 (bc4 (bc3 (bc2 (bc1 n)))))))] := hl
  refine lv_iload_n hx hb dJ6_bitCount_0f7a4_48 rfl (lv_at hl 0 rfl) ?_
  refine lv_bipush (v := nI 63) hx hb dJ6_bitCount_0f7a4_49 (by decide) ?_
  refine lv_iand hx hb dJ6_bitCount_0f7a4_51 ?_
  refine cs_top (y := nI ((bc5 (bc4 (bc3 (bc2 (bc1 n))))) &&& 63)) (cs_and (bc5 (bc4 (bc3 (bc2 (bc1 n))))) 63) ?_
  exact W.iret (v := nI ((bc5 (bc4 (bc3 (bc2 (bc1 n))))) &&& 63)) hx hb hr (fun t ht hW => ⟨nI ((bc5 (bc4 (bc3 (bc2 (bc1 n))))) &&& 63), rfl, congrArg nI (bc_pcs h1), ht⟩) (fun q h => by cases h) dJ6_bitCount_0f7a4_52
set_option maxHeartbeats 4000000 in
set_option maxRecDepth 100000 in
theorem c_isVariable_in (l : Launch) (dC : Nat → ClassId) (dI : Nat → Nat → Nat) (o a1 a2 a3 a4 : Nat) (c1 c2 c3 c4 : ClassId) (N h w y z c : Nat) (f1 f2 f3 : Nat → Int32) (f4 : Nat → Int64) (hN : N ≤ 16) {j : Nat} (hj : j < N) : Met l yX0_isVariable wsX0_isVariable ({ frames := 0, cells := 0, slots := 0, locals := 0 }) (va_Pc [.ref o, .int (nI j)] (rW (dC, dI) vwCl (xC o a1 a2 a3 a4 c1 c2 c3 c4 (nI N) (nI h) (nI w) (nI y) (nI z) (nI c) f1 f2 f3 f4) (xT c1 c2 c3 c4))) (vp_Si (fun r => r = nI 1)) 0 0 (fun _ => False) := by
  refine Met.ofW (cc := cX0_isVariable) (maxL := 2) (ret := some .boolean) (by decide) rfl ?_
  intro p e s m args below meth c0 s₁ B hml hv0
  obtain ⟨rfl, hP, hK⟩ := hv0
  have hx := B.exec
  have hb := B.bytes
  have hr := B.returns
  have hts := atoms_spec (ws := wsX0_isVariable) B.pre
  have hown : s.vm.findClass RX0 = some m.cls := findClass_of_methodNamed B.named
  have hlocks := B.notSynchronized
  have hP : va_P (dC, dI) vwCl (xC o a1 a2 a3 a4 c1 c2 c3 c4 (nI N) (nI h) (nI w) (nI y) (nI z) (nI c) f1 f2 f3 f4) s.heap := hP
  have hin0 : ∀ w ∈ u_ws RX0 TX0 10, w ∈ wsX0_isVariable := by decide +kernel
  have hl := lv_entry ([.ref o, .int (nI j)]) (n := 2) (Nat.le_of_ble_eq_true rfl)
  rw [lg_entry_eq]
  generalize (lg_sl ([.ref o, .int (nI j)]) ++ List.replicate (2 - (lg_sl ([.ref o, .int (nI j)])).length) Slot.unset).toArray = ls at hl ⊢
  have hl : lv_has ls 2 [(0, .ref o), (1, .int (nI j))] := hl
  refine lv_iload_n hx hb dX0_isVariable_0 rfl (lv_at hl 1 rfl) ?_
  refine lv_if_lt hx hb dX0_isVariable_1 (tgt := 16) (by decide) (fun hq => absurd hq (nI_pos (by omega))) (fun _ => ?_)
  refine lv_iload_n hx hb dX0_isVariable_4 rfl (lv_at hl 1 rfl) ?_
  refine lv_aload_n hx hb dX0_isVariable_5 rfl (lv_at hl 0 rfl) ?_
  refine va_get (D := (dC, dI)) (ci := 0) (v := .int (nI N)) (C := RX0) (T := TX0) (N := 10) hx hb hts hin0 hown hK hP 0 rfl rfl 0 (by decide) (hts (.fieldLink RX0 18 "ClauseSolver" "variables" "I") (by decide +kernel)) (fun _ h9 => h9) rfl dX0_isVariable_6 ?_
  refine lv_icmp_ge hx hb dX0_isVariable_9 (tgt := 16) (by decide) (fun hq => absurd hq (nI_ge hj (by omega))) (fun _ => ?_)
  refine lv_iconst (v := nI 1) hx hb dX0_isVariable_12 (by decide) ?_
  refine lv_goto hx hb dX0_isVariable_13 (tgt := 17) (by decide) ?_
  exact W.zret (ty := .boolean) (v := nI 1) hx hb hr (by first | rfl | decide) (fun t ht hW => ⟨nI 1, rfl, rfl, ht⟩) (fun q h => by cases h) dX0_isVariable_17
set_option maxHeartbeats 4000000 in
set_option maxRecDepth 100000 in
theorem c_isVariable_out (l : Launch) (dC : Nat → ClassId) (dI : Nat → Nat → Nat) (o a1 a2 a3 a4 : Nat) (c1 c2 c3 c4 : ClassId) (N h w y z c : Nat) (f1 f2 f3 : Nat → Int32) (f4 : Nat → Int64) {v : Int32} (hv : v < 0 ∨ nI N ≤ v) : Met l yX0_isVariable wsX0_isVariable ({ frames := 0, cells := 0, slots := 0, locals := 0 }) (va_Pc [.ref o, .int v] (rW (dC, dI) vwCl (xC o a1 a2 a3 a4 c1 c2 c3 c4 (nI N) (nI h) (nI w) (nI y) (nI z) (nI c) f1 f2 f3 f4) (xT c1 c2 c3 c4))) (vp_Si (fun r => r = nI 0)) 0 0 (fun _ => False) := by
  refine Met.ofW (cc := cX0_isVariable) (maxL := 2) (ret := some .boolean) (by decide) rfl ?_
  intro p e s m args below meth c0 s₁ B hml hv0
  obtain ⟨rfl, hP, hK⟩ := hv0
  have hx := B.exec
  have hb := B.bytes
  have hr := B.returns
  have hts := atoms_spec (ws := wsX0_isVariable) B.pre
  have hown : s.vm.findClass RX0 = some m.cls := findClass_of_methodNamed B.named
  have hlocks := B.notSynchronized
  have hP : va_P (dC, dI) vwCl (xC o a1 a2 a3 a4 c1 c2 c3 c4 (nI N) (nI h) (nI w) (nI y) (nI z) (nI c) f1 f2 f3 f4) s.heap := hP
  have hin0 : ∀ w ∈ u_ws RX0 TX0 10, w ∈ wsX0_isVariable := by decide +kernel
  have hl := lv_entry ([.ref o, .int v]) (n := 2) (Nat.le_of_ble_eq_true rfl)
  rw [lg_entry_eq]
  generalize (lg_sl ([.ref o, .int v]) ++ List.replicate (2 - (lg_sl ([.ref o, .int v])).length) Slot.unset).toArray = ls at hl ⊢
  have hl : lv_has ls 2 [(0, .ref o), (1, .int v)] := hl
  refine lv_iload_n hx hb dX0_isVariable_0 rfl (lv_at hl 1 rfl) ?_
  by_cases h0 : v < 0
  · refine lv_if_lt hx hb dX0_isVariable_1 (tgt := 16) (by decide) (fun _ => ?_) (fun hq => absurd (h0) hq)
    refine lv_iconst (v := nI 0) hx hb dX0_isVariable_16 (by decide) ?_
    exact W.zret (ty := .boolean) (v := nI 0) hx hb hr (by first | rfl | decide) (fun t ht hW => ⟨nI 0, rfl, rfl, ht⟩) (fun q h => by cases h) dX0_isVariable_17
  · refine lv_if_lt hx hb dX0_isVariable_1 (tgt := 16) (by decide) (fun hq => absurd hq (h0)) (fun _ => ?_)
    refine lv_iload_n hx hb dX0_isVariable_4 rfl (lv_at hl 1 rfl) ?_
    refine lv_aload_n hx hb dX0_isVariable_5 rfl (lv_at hl 0 rfl) ?_
    refine va_get (D := (dC, dI)) (ci := 0) (v := .int (nI N)) (C := RX0) (T := TX0) (N := 10) hx hb hts hin0 hown hK hP 0 rfl rfl 0 (by decide) (hts (.fieldLink RX0 18 "ClauseSolver" "variables" "I") (by decide +kernel)) (fun _ h9 => h9) rfl dX0_isVariable_6 ?_
    refine lv_icmp_ge hx hb dX0_isVariable_9 (tgt := 16) (by decide) (fun _ => ?_) (fun hq => absurd (hv.resolve_left h0) hq)
    refine lv_iconst (v := nI 0) hx hb dX0_isVariable_16 (by decide) ?_
    exact W.zret (ty := .boolean) (v := nI 0) hx hb hr (by first | rfl | decide) (fun t ht hW => ⟨nI 0, rfl, rfl, ht⟩) (fun q h => by cases h) dX0_isVariable_17
set_option maxHeartbeats 4000000 in
set_option maxRecDepth 100000 in
theorem c_namedByMadeUp (l : Launch) (dC : Nat → ClassId) (dI : Nat → Nat → Nat) (o a1 a2 a3 a4 : Nat) (c1 c2 c3 c4 : ClassId) (N h w y z c : Nat) (f1 f2 f3 : Nat → Int32) (f4 : Nat → Int64) (hy : y < 65536) (hz : z < 65536) : Met l yX0_namedByMadeUp wsX0_namedByMadeUp ({ frames := 1, cells := 0, slots := 0, locals := 20 }) (va_Pc [.ref o] (rW (dC, dI) vwCl (xC o a1 a2 a3 a4 c1 c2 c3 c4 (nI N) (nI h) (nI w) (nI y) (nI z) (nI c) f1 f2 f3 f4) (xT c1 c2 c3 c4))) (vp_Si (fun r => r = nI (pcs y 16 + pcs z 16))) 0 0 (fun _ => False) := by
  refine Met.ofW (cc := cX0_namedByMadeUp) (maxL := 1) (ret := some .int) (by decide) rfl ?_
  intro p e s m args below meth c0 s₁ B hml hv0
  obtain ⟨rfl, hP, hK⟩ := hv0
  have hx := B.exec
  have hb := B.bytes
  have hr := B.returns
  have hts := atoms_spec (ws := wsX0_namedByMadeUp) B.pre
  have hown : s.vm.findClass RX0 = some m.cls := findClass_of_methodNamed B.named
  have hlocks := B.notSynchronized
  have hP : va_P (dC, dI) vwCl (xC o a1 a2 a3 a4 c1 c2 c3 c4 (nI N) (nI h) (nI w) (nI y) (nI z) (nI c) f1 f2 f3 f4) s.heap := hP
  have hin0 : ∀ w ∈ u_ws RX0 TX0 10, w ∈ wsX0_namedByMadeUp := by decide +kernel
  have hl := lv_entry ([.ref o]) (n := 1) (Nat.le_of_ble_eq_true rfl)
  rw [lg_entry_eq]
  generalize (lg_sl ([.ref o]) ++ List.replicate (1 - (lg_sl ([.ref o])).length) Slot.unset).toArray = ls at hl ⊢
  have hl : lv_has ls 1 [(0, .ref o)] := hl
  refine lv_aload_n hx hb dX0_namedByMadeUp_0 rfl (lv_at hl 0 rfl) ?_
  refine va_get (D := (dC, dI)) (ci := 0) (v := .int (nI y)) (C := RX0) (T := TX0) (N := 10) hx hb hts hin0 hown hK hP 0 rfl rfl 3 (by decide) (hts (.fieldLink RX0 50 "ClauseSolver" "madeTrue" "I") (by decide +kernel)) (fun _ h9 => h9) rfl dX0_namedByMadeUp_1 ?_
  refine vp_callSi (W.runS (As := [.int (nI y)]) (rest := []) ⟨hx, hb, hml, hown, hts⟩ (c_bitCount l hy) (va_cwS 1 hts gX0_namedByMadeUp_J6_bitCount_0f7a4 rfl rfl rfl (by decide +kernel) ⟨Nat.le_of_ble_eq_true rfl, Nat.le_of_ble_eq_true rfl⟩) (nW_preS) rfl rfl hl.1 rfl (lv_room (Nat.le_of_ble_eq_true rfl)) dX0_namedByMadeUp_4 ⟨Nat.le_refl _, Nat.le_refl _⟩) (fun r0 hr0 => ?_)
  subst hr0
  refine lv_aload_n hx hb dX0_namedByMadeUp_7 rfl (lv_at hl 0 rfl) ?_
  refine va_get (D := (dC, dI)) (ci := 0) (v := .int (nI z)) (C := RX0) (T := TX0) (N := 10) hx hb hts hin0 hown hK hP 0 rfl rfl 4 (by decide) (hts (.fieldLink RX0 53 "ClauseSolver" "madeFalse" "I") (by decide +kernel)) (fun _ h9 => h9) rfl dX0_namedByMadeUp_8 ?_
  refine vp_callSi (W.runS (As := [.int (nI z)]) (rest := [.int (nI (pcs y 16))]) ⟨hx, hb, hml, hown, hts⟩ (c_bitCount l hz) (va_cwS 1 hts gX0_namedByMadeUp_J6_bitCount_0f7a4 rfl rfl rfl (by decide +kernel) ⟨Nat.le_of_ble_eq_true rfl, Nat.le_of_ble_eq_true rfl⟩) (nW_preS) rfl rfl hl.1 rfl (lv_room (Nat.le_of_ble_eq_true rfl)) dX0_namedByMadeUp_11 ⟨Nat.le_refl _, Nat.le_refl _⟩) (fun r0 hr0 => ?_)
  subst hr0
  refine lv_iadd hx hb dX0_namedByMadeUp_14 ?_
  refine cs_top (y := nI ((pcs y 16) + (pcs z 16))) (nI_add (pcs y 16) (pcs z 16)) ?_
  exact W.iret (v := nI ((pcs y 16) + (pcs z 16))) hx hb hr (fun t ht hW => ⟨nI ((pcs y 16) + (pcs z 16)), rfl, rfl, ht⟩) (fun q h => by cases h) dX0_namedByMadeUp_15
end
section
/-- a loop that writes nothing: a measure n that falls, the loop's numbers st -/
theorem cs_wl {p : Program} {l : Launch} {e : Env} {R : Room} {s : State} {m : MethodId} {args : Array Value} {below : List Frame} {meth : Method} {c : Code} {H : Heap} {locs : List Loc} {cells slots : Nat} {Q : State → Prop} {pc : Nat} {σ : Type} (I : Nat → σ → Array Slot → Prop)
    (step : ∀ (n : Nat) (st : σ) (ls : Array Slot), I n st ls → (∀ (n' : Nat) (st' : σ) (ls' : Array Slot), n' < n → I n' st' ls' → W p l e R s m args below meth c H locs cells slots Q (F0 m pc ls' [])) → W p l e R s m args below meth c H locs cells slots Q (F0 m pc ls [])) :
    ∀ (n : Nat) (st : σ) (ls : Array Slot), I n st ls → W p l e R s m args below meth c H locs cells slots Q (F0 m pc ls []) := by
  intro n
  induction n using Nat.strongRecOn with
  | _ n ih => exact fun st ls h => step n st ls h (fun n' st' ls' hn h' => ih n' hn st' ls' h')
theorem bI_z {x : Bool} (h : bI x = 0) : x = false := by
  cases x with
  | true => exact absurd h (by decide)
  | false => rfl
theorem bI_nz {x : Bool} (h : ¬ bI x = 0) : x = true := by
  cases x with
  | true => rfl
  | false => exact absurd nI_0 h
theorem cs_dec {n : Nat} (h : 0 < n) : nI n + Int32.ofInt (-1) = nI (n - 1) := by
  rw [show Int32.ofInt (-1) = -1 by decide]
  exact sb_m1 h
theorem NI_zero' {h : Nat} {Y Z : Nat → Nat} {dp : Nat → Int32} {tl : Nat → Int64} {d a k c : Nat} {x z : Int64} (hz : z = 0) (H : NI h Y Z dp tl d a x k z) (hk : k ≤ c) : NI h Y Z dp tl d a x c z := by
  subst hz
  exact NI_zero H hk
theorem RX_dep {N h c : Nat} {Y Z : Nat → Nat} {ht hf dp : Nat → Int32} {tl : Nat → Int64} (hh : h < 2 ^ 31) (R : RX N h c Y Z ht hf dp tl) {k d : Nat} (hk : k < c) (he : (dp k).toNatClampNeg = d) : dp k = nI d := by
  obtain ⟨-, -, -, -, ⟨δ, h1, h2, h3⟩, -⟩ := R k hk
  rw [h2, nI_clamp (by omega)] at he
  rw [h2, he]
theorem hm_z {y n a : Nat} (hy : y < 2 ^ 31) (hn : n < 2 ^ 31) : nI ((y &&& a) ||| (n &&& (a ^^^ 4294967295))) = 0 ↔ ¬ Mt y n a := by
  rw [cs_z (Nat.or_lt_two_pow (Nat.lt_of_le_of_lt Nat.and_le_left hy) (Nat.lt_of_le_of_lt Nat.and_le_left hn)), Mt_head (by omega)]
theorem cs_modlt (x : Nat) {h : Nat} (hh : h ≤ 16) : x % 2 ^ h < 2 ^ 31 := by
  have h1 := Nat.mod_lt x (Nat.two_pow_pos h)
  have h2 := cs_p16 hh
  omega
set_option maxHeartbeats 4000000 in
set_option maxRecDepth 100000 in
theorem c_depthOf (l : Launch) (dC : Nat → ClassId) (dI : Nat → Nat → Nat) (o a1 a2 a3 a4 : Nat) (c1 c2 c3 c4 : ClassId) (N h w y z c : Nat) (f1 f2 f3 : Nat → Int32) (f4 : Nat → Int64) (hh : h ≤ 16) {q : Nat} (hq0 : q < 2 ^ 31) : Met l yX0_depthOf wsX0_depthOf ({ frames := 1, cells := 0, slots := 0, locals := 30 }) (va_Pc [.ref o, .int (nI q)] (rW (dC, dI) vwCl (xC o a1 a2 a3 a4 c1 c2 c3 c4 (nI N) (nI h) (nI w) (nI y) (nI z) (nI c) f1 f2 f3 f4) (xT c1 c2 c3 c4))) (vp_Si (fun r => ∃ δ, r = nI δ ∧ δ ≤ h ∧ ∀ i, δ ≤ i → i < h → q.testBit i = false)) 0 0 (fun _ => False) := by
  refine Met.ofW (cc := cX0_depthOf) (maxL := 3) (ret := some .int) (by decide) rfl ?_
  intro p e s m args below meth c0 s₁ B hml hv0
  obtain ⟨rfl, hP, hK⟩ := hv0
  have hx := B.exec
  have hb := B.bytes
  have hr := B.returns
  have hts := atoms_spec (ws := wsX0_depthOf) B.pre
  have hown : s.vm.findClass RX0 = some m.cls := findClass_of_methodNamed B.named
  have hlocks := B.notSynchronized
  have hP : va_P (dC, dI) vwCl (xC o a1 a2 a3 a4 c1 c2 c3 c4 (nI N) (nI h) (nI w) (nI y) (nI z) (nI c) f1 f2 f3 f4) s.heap := hP
  have hin0 : ∀ w ∈ u_ws RX0 TX0 10, w ∈ wsX0_depthOf := by decide +kernel
  have hl := lv_entry ([.ref o, .int (nI q)]) (n := 3) (Nat.le_of_ble_eq_true rfl)
  rw [lg_entry_eq]
  generalize (lg_sl ([.ref o, .int (nI q)]) ++ List.replicate (3 - (lg_sl ([.ref o, .int (nI q)])).length) Slot.unset).toArray = ls at hl ⊢
  have hl : lv_has ls 3 [(0, .ref o), (1, .int (nI q))] := hl
  refine lv_aload_n hx hb dX0_depthOf_0 rfl (lv_at hl 0 rfl) ?_
  refine va_get (D := (dC, dI)) (ci := 0) (v := .int (nI h)) (C := RX0) (T := TX0) (N := 10) hx hb hts hin0 hown hK hP 0 rfl rfl 1 (by decide) (hts (.fieldLink RX0 22 "ClauseSolver" "heads" "I") (by decide +kernel)) (fun _ h9 => h9) rfl dX0_depthOf_1 ?_
  refine lv_istore_n hx hb dX0_depthOf_4 rfl hl (by decide) rfl (fun ls hl => ?_)
  have hl : lv_has ls 3 [(2, .int (nI h)), (0, .ref o), (1, .int (nI q))] := hl
  refine cs_wl (σ := Unit) (fun n st ls => (n ≤ h ∧ ∀ i, n ≤ i → i < h → q.testBit i = false) ∧ lv_has ls 3 [(0, .ref o), (1, .int (nI q)), (2, .int (nI n))]) ?_ h () ls ⟨⟨Nat.le_refl _, fun i h1 h2 => absurd h1 (Nat.not_le.mpr h2)⟩, lv_sub hl [1, 2, 0] rfl⟩
  clear hl
  intro n st ls hI ih
  obtain ⟨⟨hn, hI⟩, hl⟩ := hI
  have hl : lv_has ls 3 [(0, .ref o), (1, .int (nI q)), (2, .int (nI n))] := hl
  refine lv_iload_n hx hb dX0_depthOf_5 rfl (lv_at hl 2 rfl) ?_
  rcases Nat.eq_zero_or_pos n with h0 | h0
  · refine lv_if_le hx hb dX0_depthOf_6 (tgt := 25) (by decide) (fun _ => ?_) (fun hq => absurd (by rw [h0]; decide) hq)
    refine lv_iload_n hx hb dX0_depthOf_25 rfl (lv_at hl 2 rfl) ?_
    exact W.iret (v := nI n) hx hb hr (fun t ht hW => ⟨nI n, rfl, ⟨n, rfl, hn, hI⟩, ht⟩) (fun q h => by cases h) dX0_depthOf_26
  · refine lv_if_le hx hb dX0_depthOf_6 (tgt := 25) (by decide) (fun hq => absurd hq (nI_nle h0 (by omega))) (fun _ => ?_)
    refine lv_iload_n hx hb dX0_depthOf_9 rfl (lv_at hl 1 rfl) ?_
    refine lv_iload_n hx hb dX0_depthOf_10 rfl (lv_at hl 2 rfl) ?_
    refine lv_iconst (v := nI 1) hx hb dX0_depthOf_11 (by decide) ?_
    refine lv_isub hx hb dX0_depthOf_12 ?_
    refine cs_top (y := nI (n - 1)) (pk_sub h0) ?_
    refine vp_callSi (W.runS (As := [.int (nI q), .int (nI (n - 1))]) (rest := []) ⟨hx, hb, hml, hown, hts⟩ (c_has l hq0 (by omega)) (va_cwS 2 hts gX0_depthOf_X0_has rfl rfl rfl (by decide +kernel) ⟨Nat.le_of_ble_eq_true rfl, Nat.le_of_ble_eq_true rfl⟩) (nW_preS) rfl rfl hl.1 rfl (lv_room (Nat.le_of_ble_eq_true rfl)) dX0_depthOf_13 ⟨Nat.le_refl _, Nat.le_refl _⟩) (fun r0 hr0 => ?_)
    subst hr0
    refine lv_if_ne hx hb dX0_depthOf_16 (tgt := 25) (by decide) (fun hq => ?_) (fun hq => ?_)
    · refine lv_iload_n hx hb dX0_depthOf_25 rfl (lv_at hl 2 rfl) ?_
      exact W.iret (v := nI n) hx hb hr (fun t ht hW => ⟨nI n, rfl, ⟨n, rfl, hn, hI⟩, ht⟩) (fun q h => by cases h) dX0_depthOf_26
    · refine lv_iinc (v := nI (n - 1)) hx hb dX0_depthOf_19 hl (k := 2) rfl (cs_dec h0) (by decide) rfl (fun ls hl => ?_)
      have hl : lv_has ls 3 [(2, .int (nI (n - 1))), (0, .ref o), (1, .int (nI q))] := hl
      refine lv_goto hx hb dX0_depthOf_22 (tgt := 5) (by decide) ?_
      exact ih (n - 1) () ls (by omega) ⟨⟨by omega, fun i h1 h2 => by rcases Nat.lt_or_ge i n with z1 | z1; exact (show i = n - 1 by omega) ▸ bI_z hq; exact hI i z1 h2⟩, lv_sub hl [1, 2, 0] rfl⟩
set_option maxHeartbeats 4000000 in
set_option maxRecDepth 100000 in
theorem c_tailsThatMeet (l : Launch) (tt : Nat) {y z : Nat} (hy : y < 64) (hz : z < 64) : Met l yX0_tailsThatMeet wsX0_tailsThatMeet ({ frames := 1, cells := 0, slots := 0, locals := 30 }) (va_Pc [.int (nI y), .int (nI z)] (rX tt (fun _ => True))) (vp_Sl (fun r => ∀ t, t < 64 → (lb r t = true ↔ Mt y z t))) 0 0 (fun _ => False) := by
  refine Met.ofW (cc := cX0_tailsThatMeet) (maxL := 5) (ret := some .long) (by decide) rfl ?_
  intro p e s m args below meth c0 s₁ B hml hv0
  obtain ⟨rfl, -, hT⟩ := hv0
  have hx := B.exec
  have hb := B.bytes
  have hr := B.returns
  have hts := atoms_spec (ws := wsX0_tailsThatMeet) B.pre
  have hown : s.vm.findClass RX0 = some m.cls := findClass_of_methodNamed B.named
  have hlocks := B.notSynchronized
  have hl := lv_entry ([.int (nI y), .int (nI z)]) (n := 5) (Nat.le_of_ble_eq_true rfl)
  rw [lg_entry_eq]
  generalize (lg_sl ([.int (nI y), .int (nI z)]) ++ List.replicate (5 - (lg_sl ([.int (nI y), .int (nI z)])).length) Slot.unset).toArray = ls at hl ⊢
  have hl : lv_has ls 5 [(0, .int (nI y)), (1, .int (nI z))] := hl
  refine lv_lconst (v := 0) hx hb dX0_tailsThatMeet_0 (by decide) ?_
  refine lv_lstore_n hx hb dX0_tailsThatMeet_1 rfl hl (by decide) rfl (fun ls hl => ?_)
  have hl : lv_has ls 5 [(2, .long 0), (0, .int (nI y)), (1, .int (nI z))] := hl
  refine lv_iconst (v := nI 0) hx hb dX0_tailsThatMeet_2 (by decide) ?_
  refine lv_istore hx hb dX0_tailsThatMeet_3 hl (by decide) rfl (fun ls hl => ?_)
  have hl : lv_has ls 5 [(4, .int (nI 0)), (2, .long 0), (0, .int (nI y)), (1, .int (nI z))] := hl
  refine cs_wl (σ := Nat × Int64) (fun n st ls => (n = 6 - st.1 ∧ st.1 ≤ 6 ∧ MI y z st.1 st.2) ∧ lv_has ls 5 [(0, .int (nI y)), (1, .int (nI z)), (2, .long st.2), (4, .int (nI st.1))]) ?_ 6 (0, 0) ls ⟨⟨rfl, by decide, MI_0⟩, lv_sub hl [2, 3, 1, 0] rfl⟩
  clear hl
  intro n st ls hI ih
  obtain ⟨j, u⟩ := st
  obtain ⟨⟨hn, hj6, hI⟩, hl⟩ := hI
  have hl : lv_has ls 5 [(0, .int (nI y)), (1, .int (nI z)), (2, .long u), (4, .int (nI j))] := hl
  dsimp only at hn hj6 hI
  refine lv_iload hx hb dX0_tailsThatMeet_5 (lv_at hl 3 rfl) ?_
  refine lv_bipush (v := nI 6) hx hb dX0_tailsThatMeet_7 (by decide) ?_
  rcases Nat.lt_or_ge j 6 with hj | hj
  · refine lv_icmp_ge hx hb dX0_tailsThatMeet_9 (tgt := 58) (by decide) (fun hq => absurd hq (nI_ge hj (by decide))) (fun _ => ?_)
    refine lv_iload_n hx hb dX0_tailsThatMeet_12 rfl (lv_at hl 0 rfl) ?_
    refine lv_iload hx hb dX0_tailsThatMeet_13 (lv_at hl 3 rfl) ?_
    refine vp_callSi (W.runS (As := [.int (nI y), .int (nI j)]) (rest := []) ⟨hx, hb, hml, hown, hts⟩ (c_has l (by omega) (by omega)) (va_cwS 2 hts gX0_tailsThatMeet_X0_has rfl rfl rfl (by decide +kernel) ⟨Nat.le_of_ble_eq_true rfl, Nat.le_of_ble_eq_true rfl⟩) (nW_preS) rfl rfl hl.1 rfl (lv_room (Nat.le_of_ble_eq_true rfl)) dX0_tailsThatMeet_15 ⟨Nat.le_refl _, Nat.le_refl _⟩) (fun r0 hr0 => ?_)
    subst hr0
    refine lv_if_eq hx hb dX0_tailsThatMeet_18 (tgt := 30) (by decide) (fun hy1 => ?_) (fun hy1 => ?_)
    · refine lv_iload_n hx hb dX0_tailsThatMeet_30 rfl (lv_at hl 1 rfl) ?_
      refine lv_iload hx hb dX0_tailsThatMeet_31 (lv_at hl 3 rfl) ?_
      refine vp_callSi (W.runS (As := [.int (nI z), .int (nI j)]) (rest := []) ⟨hx, hb, hml, hown, hts⟩ (c_has l (by omega) (by omega)) (va_cwS 2 hts gX0_tailsThatMeet_X0_has rfl rfl rfl (by decide +kernel) ⟨Nat.le_of_ble_eq_true rfl, Nat.le_of_ble_eq_true rfl⟩) (nW_preS) rfl rfl hl.1 rfl (lv_room (Nat.le_of_ble_eq_true rfl)) dX0_tailsThatMeet_33 ⟨Nat.le_refl _, Nat.le_refl _⟩) (fun r0 hr0 => ?_)
      subst hr0
      refine lv_if_eq hx hb dX0_tailsThatMeet_36 (tgt := 52) (by decide) (fun hz1 => ?_) (fun hz1 => ?_)
      · refine lv_iinc (v := nI (j + 1)) hx hb dX0_tailsThatMeet_52 hl (k := 3) rfl (cs_inc _ 1) (by decide) rfl (fun ls hl => ?_)
        have hl : lv_has ls 5 [(4, .int (nI (j + 1))), (0, .int (nI y)), (1, .int (nI z)), (2, .long u)] := hl
        refine lv_goto hx hb dX0_tailsThatMeet_55 (tgt := 5) (by decide) ?_
        exact ih (6 - (j + 1)) (j + 1, u) ls (by omega) ⟨⟨rfl, by show j + 1 ≤ 6; omega, MI_ff hI (bI_z hy1) (bI_z hz1)⟩, lv_sub hl [1, 2, 3, 0] rfl⟩
      · refine lv_lload_n hx hb dX0_tailsThatMeet_39 rfl (lv_at hl 2 rfl) ?_
        refine cs_gett hx hb hT va_S.rf hown (hts (.fieldLink RX0 85 RX0 "TAILS_WITH" "[J") (by decide +kernel)) dX0_tailsThatMeet_40 ?_
        refine lv_iload hx hb dX0_tailsThatMeet_43 (lv_at hl 3 rfl) ?_
        refine cs_tl hx hb hT.2 va_S.rf (hj) (by decide) rfl dX0_tailsThatMeet_45 ?_
        refine lv_ldc2 (v := -1) hx hb hown (hts (.constantLong RX0 88 (-1)) (by decide +kernel)) dX0_tailsThatMeet_46 ?_
        refine lv_lxor hx hb dX0_tailsThatMeet_49 ?_
        refine lv_lor hx hb dX0_tailsThatMeet_50 ?_
        refine lv_lstore_n hx hb dX0_tailsThatMeet_51 rfl hl (by decide) rfl (fun ls hl => ?_)
        have hl : lv_has ls 5 [(2, .long (u ||| ((cs_tw j) ^^^ (-1)))), (0, .int (nI y)), (1, .int (nI z)), (4, .int (nI j))] := hl
        refine lv_iinc (v := nI (j + 1)) hx hb dX0_tailsThatMeet_52 hl (k := 3) rfl (cs_inc _ 1) (by decide) rfl (fun ls hl => ?_)
        have hl : lv_has ls 5 [(4, .int (nI (j + 1))), (2, .long (u ||| ((cs_tw j) ^^^ (-1)))), (0, .int (nI y)), (1, .int (nI z))] := hl
        refine lv_goto hx hb dX0_tailsThatMeet_55 (tgt := 5) (by decide) ?_
        exact ih (6 - (j + 1)) (j + 1, u ||| ((cs_tw j) ^^^ (-1))) ls (by omega) ⟨⟨rfl, by show j + 1 ≤ 6; omega, MI_ft hj hI (bI_z hy1) (bI_nz hz1)⟩, lv_sub hl [2, 3, 1, 0] rfl⟩
    · refine lv_lload_n hx hb dX0_tailsThatMeet_21 rfl (lv_at hl 2 rfl) ?_
      refine cs_gett hx hb hT va_S.rf hown (hts (.fieldLink RX0 85 RX0 "TAILS_WITH" "[J") (by decide +kernel)) dX0_tailsThatMeet_22 ?_
      refine lv_iload hx hb dX0_tailsThatMeet_25 (lv_at hl 3 rfl) ?_
      refine cs_tl hx hb hT.2 va_S.rf (hj) (by decide) rfl dX0_tailsThatMeet_27 ?_
      refine lv_lor hx hb dX0_tailsThatMeet_28 ?_
      refine lv_lstore_n hx hb dX0_tailsThatMeet_29 rfl hl (by decide) rfl (fun ls hl => ?_)
      have hl : lv_has ls 5 [(2, .long (u ||| (cs_tw j))), (0, .int (nI y)), (1, .int (nI z)), (4, .int (nI j))] := hl
      refine lv_iload_n hx hb dX0_tailsThatMeet_30 rfl (lv_at hl 2 rfl) ?_
      refine lv_iload hx hb dX0_tailsThatMeet_31 (lv_at hl 3 rfl) ?_
      refine vp_callSi (W.runS (As := [.int (nI z), .int (nI j)]) (rest := []) ⟨hx, hb, hml, hown, hts⟩ (c_has l (by omega) (by omega)) (va_cwS 2 hts gX0_tailsThatMeet_X0_has rfl rfl rfl (by decide +kernel) ⟨Nat.le_of_ble_eq_true rfl, Nat.le_of_ble_eq_true rfl⟩) (nW_preS) rfl rfl hl.1 rfl (lv_room (Nat.le_of_ble_eq_true rfl)) dX0_tailsThatMeet_33 ⟨Nat.le_refl _, Nat.le_refl _⟩) (fun r0 hr0 => ?_)
      subst hr0
      refine lv_if_eq hx hb dX0_tailsThatMeet_36 (tgt := 52) (by decide) (fun hz1 => ?_) (fun hz1 => ?_)
      · refine lv_iinc (v := nI (j + 1)) hx hb dX0_tailsThatMeet_52 hl (k := 3) rfl (cs_inc _ 1) (by decide) rfl (fun ls hl => ?_)
        have hl : lv_has ls 5 [(4, .int (nI (j + 1))), (2, .long (u ||| (cs_tw j))), (0, .int (nI y)), (1, .int (nI z))] := hl
        refine lv_goto hx hb dX0_tailsThatMeet_55 (tgt := 5) (by decide) ?_
        exact ih (6 - (j + 1)) (j + 1, u ||| (cs_tw j)) ls (by omega) ⟨⟨rfl, by show j + 1 ≤ 6; omega, MI_tf hj hI (bI_nz hy1) (bI_z hz1)⟩, lv_sub hl [2, 3, 1, 0] rfl⟩
      · refine lv_lload_n hx hb dX0_tailsThatMeet_39 rfl (lv_at hl 0 rfl) ?_
        refine cs_gett hx hb hT va_S.rf hown (hts (.fieldLink RX0 85 RX0 "TAILS_WITH" "[J") (by decide +kernel)) dX0_tailsThatMeet_40 ?_
        refine lv_iload hx hb dX0_tailsThatMeet_43 (lv_at hl 3 rfl) ?_
        refine cs_tl hx hb hT.2 va_S.rf (hj) (by decide) rfl dX0_tailsThatMeet_45 ?_
        refine lv_ldc2 (v := -1) hx hb hown (hts (.constantLong RX0 88 (-1)) (by decide +kernel)) dX0_tailsThatMeet_46 ?_
        refine lv_lxor hx hb dX0_tailsThatMeet_49 ?_
        refine lv_lor hx hb dX0_tailsThatMeet_50 ?_
        refine lv_lstore_n hx hb dX0_tailsThatMeet_51 rfl hl (by decide) rfl (fun ls hl => ?_)
        have hl : lv_has ls 5 [(2, .long ((u ||| (cs_tw j)) ||| ((cs_tw j) ^^^ (-1)))), (0, .int (nI y)), (1, .int (nI z)), (4, .int (nI j))] := hl
        refine lv_iinc (v := nI (j + 1)) hx hb dX0_tailsThatMeet_52 hl (k := 3) rfl (cs_inc _ 1) (by decide) rfl (fun ls hl => ?_)
        have hl : lv_has ls 5 [(4, .int (nI (j + 1))), (2, .long ((u ||| (cs_tw j)) ||| ((cs_tw j) ^^^ (-1)))), (0, .int (nI y)), (1, .int (nI z))] := hl
        refine lv_goto hx hb dX0_tailsThatMeet_55 (tgt := 5) (by decide) ?_
        exact ih (6 - (j + 1)) (j + 1, (u ||| (cs_tw j)) ||| ((cs_tw j) ^^^ (-1))) ls (by omega) ⟨⟨rfl, by show j + 1 ≤ 6; omega, MI_tt hj hI (bI_nz hy1) (bI_nz hz1)⟩, lv_sub hl [2, 3, 1, 0] rfl⟩
  · refine lv_icmp_ge hx hb dX0_tailsThatMeet_9 (tgt := 58) (by decide) (fun _ => ?_) (fun hq => absurd (nI_le hj (by omega)) hq)
    refine lv_lload_n hx hb dX0_tailsThatMeet_58 rfl (lv_at hl 2 rfl) ?_
    exact W.lret (v := u) hx hb hr (fun t ht hW => ⟨u, rfl, MI_6 ((show j = 6 by omega) ▸ hI) hy hz, ht⟩) (fun q h => by cases h) dX0_tailsThatMeet_59
set_option maxHeartbeats 4000000 in
set_option maxRecDepth 100000 in
theorem c_headMeets (l : Launch) (dC : Nat → ClassId) (dI : Nat → Nat → Nat) (o a1 a2 a3 a4 : Nat) (c1 c2 c3 c4 : ClassId) (N h w y z c : Nat) (f1 f2 f3 : Nat → Int32) (f4 : Nat → Int64) {k a yy zz : Nat} (hk : k < 400) (h1 : f1 k = nI yy) (h2 : f2 k = nI zz) (hyy : yy < 2 ^ 31) (hzz : zz < 2 ^ 31) : Met l yX0_headMeets wsX0_headMeets ({ frames := 0, cells := 0, slots := 0, locals := 0 }) (va_Pc [.ref o, .int (nI k), .int (nI a)] (rW (dC, dI) vwCl (xC o a1 a2 a3 a4 c1 c2 c3 c4 (nI N) (nI h) (nI w) (nI y) (nI z) (nI c) f1 f2 f3 f4) (xT c1 c2 c3 c4))) (vp_Si (fun r => (r = nI 1 ∧ Mt yy zz a) ∨ (r = nI 0 ∧ ¬ Mt yy zz a))) 0 0 (fun _ => False) := by
  refine Met.ofW (cc := cX0_headMeets) (maxL := 3) (ret := some .boolean) (by decide) rfl ?_
  intro p e s m args below meth c0 s₁ B hml hv0
  obtain ⟨rfl, hP, hK⟩ := hv0
  have hx := B.exec
  have hb := B.bytes
  have hr := B.returns
  have hts := atoms_spec (ws := wsX0_headMeets) B.pre
  have hown : s.vm.findClass RX0 = some m.cls := findClass_of_methodNamed B.named
  have hlocks := B.notSynchronized
  have hP : va_P (dC, dI) vwCl (xC o a1 a2 a3 a4 c1 c2 c3 c4 (nI N) (nI h) (nI w) (nI y) (nI z) (nI c) f1 f2 f3 f4) s.heap := hP
  have hin0 : ∀ w ∈ u_ws RX0 TX0 10, w ∈ wsX0_headMeets := by decide +kernel
  have hl := lv_entry ([.ref o, .int (nI k), .int (nI a)]) (n := 3) (Nat.le_of_ble_eq_true rfl)
  rw [lg_entry_eq]
  generalize (lg_sl ([.ref o, .int (nI k), .int (nI a)]) ++ List.replicate (3 - (lg_sl ([.ref o, .int (nI k), .int (nI a)])).length) Slot.unset).toArray = ls at hl ⊢
  have hl : lv_has ls 3 [(0, .ref o), (1, .int (nI k)), (2, .int (nI a))] := hl
  refine lv_aload_n hx hb dX0_headMeets_0 rfl (lv_at hl 0 rfl) ?_
  refine va_get (D := (dC, dI)) (ci := 0) (v := .ref a1) (C := RX0) (T := TX0) (N := 10) hx hb hts hin0 hown hK hP 0 rfl rfl 6 (by decide) (hts (.fieldLink RX0 25 "ClauseSolver" "headTrue" "[I") (by decide +kernel)) (fun _ h9 => h9) rfl dX0_headMeets_1 ?_
  refine lv_iload_n hx hb dX0_headMeets_4 rfl (lv_at hl 1 rfl) ?_
  refine cs_iald hx hb hK hP 1 0 rfl rfl (hk) (by decide) dX0_headMeets_5 ?_
  refine cs_top (y := nI yy) (h1) ?_
  refine lv_iload_n hx hb dX0_headMeets_6 rfl (lv_at hl 2 rfl) ?_
  refine lv_iand hx hb dX0_headMeets_7 ?_
  refine cs_top (y := nI (yy &&& a)) (cs_and yy a) ?_
  refine lv_aload_n hx hb dX0_headMeets_8 rfl (lv_at hl 0 rfl) ?_
  refine va_get (D := (dC, dI)) (ci := 0) (v := .ref a2) (C := RX0) (T := TX0) (N := 10) hx hb hts hin0 hown hK hP 0 rfl rfl 7 (by decide) (hts (.fieldLink RX0 29 "ClauseSolver" "headFalse" "[I") (by decide +kernel)) (fun _ h9 => h9) rfl dX0_headMeets_9 ?_
  refine lv_iload_n hx hb dX0_headMeets_12 rfl (lv_at hl 1 rfl) ?_
  refine cs_iald hx hb hK hP 2 1 rfl rfl (hk) (by decide) dX0_headMeets_13 ?_
  refine cs_top (y := nI zz) (h2) ?_
  refine lv_iload_n hx hb dX0_headMeets_14 rfl (lv_at hl 2 rfl) ?_
  refine lv_iconst (v := nI 4294967295) hx hb dX0_headMeets_15 (by decide) ?_
  refine lv_ixor hx hb dX0_headMeets_16 ?_
  refine cs_top (y := nI (a ^^^ 4294967295)) (cs_xor a 4294967295) ?_
  refine lv_iand hx hb dX0_headMeets_17 ?_
  refine cs_top (y := nI (zz &&& (a ^^^ 4294967295))) (cs_and zz (a ^^^ 4294967295)) ?_
  refine lv_ior hx hb dX0_headMeets_18 ?_
  refine cs_top (y := nI ((yy &&& a) ||| (zz &&& (a ^^^ 4294967295)))) (cs_or (yy &&& a) (zz &&& (a ^^^ 4294967295))) ?_
  refine lv_if_eq hx hb dX0_headMeets_19 (tgt := 26) (by decide) (fun hq => ?_) (fun hq => ?_)
  · refine lv_iconst (v := nI 0) hx hb dX0_headMeets_26 (by decide) ?_
    exact W.zret (ty := .boolean) (v := nI 0) hx hb hr (by first | rfl | decide) (fun t ht hW => ⟨nI 0, rfl, Or.inr ⟨rfl, (hm_z hyy hzz).mp hq⟩, ht⟩) (fun q h => by cases h) dX0_headMeets_27
  · refine lv_iconst (v := nI 1) hx hb dX0_headMeets_22 (by decide) ?_
    refine lv_goto hx hb dX0_headMeets_23 (tgt := 27) (by decide) ?_
    exact W.zret (ty := .boolean) (v := nI 1) hx hb hr (by first | rfl | decide) (fun t ht hW => ⟨nI 1, rfl, Or.inl ⟨rfl, Classical.byContradiction fun z9 => hq ((hm_z hyy hzz).mpr z9)⟩, ht⟩) (fun q h => by cases h) dX0_headMeets_27
set_option maxHeartbeats 4000000 in
set_option maxRecDepth 100000 in
theorem c_narrowed (l : Launch) (dC : Nat → ClassId) (dI : Nat → Nat → Nat) (o a1 a2 a3 a4 : Nat) (c1 c2 c3 c4 : ClassId) (N h w y z c : Nat) (f1 f2 f3 : Nat → Int32) (f4 : Nat → Int64) {Y Z : Nat → Nat} (R : RX N h c Y Z f1 f2 f3 f4) (hc : c ≤ 400) (hh : h ≤ 16) {d : Nat} (hd : d ≤ h) (a : Nat) (x : Int64) : Met l yX0_narrowed wsX0_narrowed ({ frames := 1, cells := 0, slots := 0, locals := 30 }) (va_Pc [.ref o, .int (nI d), .int (nI a), .long x] (rW (dC, dI) vwCl (xC o a1 a2 a3 a4 c1 c2 c3 c4 (nI N) (nI h) (nI w) (nI y) (nI z) (nI c) f1 f2 f3 f4) (xT c1 c2 c3 c4))) (vp_Sl (fun r => NI h Y Z f3 f4 d a x c r)) 0 0 (fun _ => False) := by
  refine Met.ofW (cc := cX0_narrowed) (maxL := 8) (ret := some .long) (by decide) rfl ?_
  intro p e s m args below meth c0 s₁ B hml hv0
  obtain ⟨rfl, hP, hK⟩ := hv0
  have hx := B.exec
  have hb := B.bytes
  have hr := B.returns
  have hts := atoms_spec (ws := wsX0_narrowed) B.pre
  have hown : s.vm.findClass RX0 = some m.cls := findClass_of_methodNamed B.named
  have hlocks := B.notSynchronized
  have hP : va_P (dC, dI) vwCl (xC o a1 a2 a3 a4 c1 c2 c3 c4 (nI N) (nI h) (nI w) (nI y) (nI z) (nI c) f1 f2 f3 f4) s.heap := hP
  have hin0 : ∀ w ∈ u_ws RX0 TX0 10, w ∈ wsX0_narrowed := by decide +kernel
  have hl := lv_entry ([.ref o, .int (nI d), .int (nI a), .long x]) (n := 8) (Nat.le_of_ble_eq_true rfl)
  rw [lg_entry_eq]
  generalize (lg_sl ([.ref o, .int (nI d), .int (nI a), .long x]) ++ List.replicate (8 - (lg_sl ([.ref o, .int (nI d), .int (nI a), .long x])).length) Slot.unset).toArray = ls at hl ⊢
  have hl : lv_has ls 8 [(0, .ref o), (1, .int (nI d)), (2, .int (nI a)), (3, .long x)] := hl
  refine lv_lload_n hx hb dX0_narrowed_0 rfl (lv_at hl 3 rfl) ?_
  refine lv_lstore hx hb dX0_narrowed_1 hl (by decide) rfl (fun ls hl => ?_)
  have hl : lv_has ls 8 [(5, .long x), (0, .ref o), (1, .int (nI d)), (2, .int (nI a)), (3, .long x)] := hl
  refine lv_iconst (v := nI 0) hx hb dX0_narrowed_3 (by decide) ?_
  refine lv_istore hx hb dX0_narrowed_4 hl (by decide) rfl (fun ls hl => ?_)
  have hl : lv_has ls 8 [(7, .int (nI 0)), (5, .long x), (0, .ref o), (1, .int (nI d)), (2, .int (nI a)), (3, .long x)] := hl
  refine cs_wl (σ := Nat × Int64) (fun n st ls => (n = c - st.1 ∧ st.1 ≤ c ∧ NI h Y Z f3 f4 d a x st.1 st.2) ∧ lv_has ls 8 [(0, .ref o), (1, .int (nI d)), (2, .int (nI a)), (3, .long x), (5, .long st.2), (7, .int (nI st.1))]) ?_ c (0, x) ls ⟨⟨rfl, Nat.zero_le _, NI_0⟩, lv_sub hl [2, 3, 4, 5, 1, 0] rfl⟩
  clear hl
  intro n st ls hI ih
  obtain ⟨k, u⟩ := st
  obtain ⟨⟨hn, hk, hI⟩, hl⟩ := hI
  have hl : lv_has ls 8 [(0, .ref o), (1, .int (nI d)), (2, .int (nI a)), (3, .long x), (5, .long u), (7, .int (nI k))] := hl
  dsimp only at hn hk hI
  refine lv_iload hx hb dX0_narrowed_6 (lv_at hl 5 rfl) ?_
  refine lv_aload_n hx hb dX0_narrowed_8 rfl (lv_at hl 0 rfl) ?_
  refine va_get (D := (dC, dI)) (ci := 0) (v := .int (nI c)) (C := RX0) (T := TX0) (N := 10) hx hb hts hin0 hown hK hP 0 rfl rfl 5 (by decide) (hts (.fieldLink RX0 67 "ClauseSolver" "clauses" "I") (by decide +kernel)) (fun _ h9 => h9) rfl dX0_narrowed_9 ?_
  rcases Nat.lt_or_ge k c with hk1 | hk1
  · refine lv_icmp_ge hx hb dX0_narrowed_12 (tgt := 61) (by decide) (fun hq => absurd hq (nI_ge hk1 (by omega))) (fun _ => ?_)
    refine lv_lload hx hb dX0_narrowed_15 (lv_at hl 4 rfl) ?_
    refine lv_lconst (v := 0) hx hb dX0_narrowed_17 (by decide) ?_
    refine W.lcmp hx hb dX0_narrowed_18 ?_
    refine lv_if_eq hx hb dX0_narrowed_19 (tgt := 61) (by decide) (fun hq => ?_) (fun hq => ?_)
    · refine lv_lload hx hb dX0_narrowed_61 (lv_at hl 4 rfl) ?_
      exact W.lret (v := u) hx hb hr (fun t ht hW => ⟨u, rfl, NI_zero' (cs_lcmp.mp hq) hI (by omega), ht⟩) (fun q h => by cases h) dX0_narrowed_63
    · refine lv_aload_n hx hb dX0_narrowed_22 rfl (lv_at hl 0 rfl) ?_
      refine va_get (D := (dC, dI)) (ci := 0) (v := .ref a3) (C := RX0) (T := TX0) (N := 10) hx hb hts hin0 hown hK hP 0 rfl rfl 8 (by decide) (hts (.fieldLink RX0 32 "ClauseSolver" "depths" "[I") (by decide +kernel)) (fun _ h9 => h9) rfl dX0_narrowed_23 ?_
      refine lv_iload hx hb dX0_narrowed_26 (lv_at hl 5 rfl) ?_
      refine cs_iald hx hb hK hP 3 2 rfl rfl (Nat.lt_of_lt_of_le hk1 hc) (by decide) dX0_narrowed_28 ?_
      refine lv_iload_n hx hb dX0_narrowed_29 rfl (lv_at hl 1 rfl) ?_
      refine lv_icmp_ne hx hb dX0_narrowed_30 (tgt := 55) (by decide) (fun hd1 => ?_) (fun hd1 => ?_)
      · refine lv_iinc (v := nI (k + 1)) hx hb dX0_narrowed_55 hl (k := 5) rfl (cs_inc _ 1) (by decide) rfl (fun ls hl => ?_)
        have hl : lv_has ls 8 [(7, .int (nI (k + 1))), (0, .ref o), (1, .int (nI d)), (2, .int (nI a)), (3, .long x), (5, .long u)] := hl
        refine lv_goto hx hb dX0_narrowed_58 (tgt := 6) (by decide) ?_
        exact ih (c - (k + 1)) (k + 1, u) ls (by omega) ⟨⟨rfl, by show k + 1 ≤ c; omega, NI_skip hI (fun z9 => absurd (RX_dep (by omega) R hk1 z9) hd1)⟩, lv_sub hl [1, 2, 3, 4, 5, 0] rfl⟩
      · refine lv_aload_n hx hb dX0_narrowed_33 rfl (lv_at hl 0 rfl) ?_
        refine lv_iload hx hb dX0_narrowed_34 (lv_at hl 5 rfl) ?_
        refine lv_iload_n hx hb dX0_narrowed_36 rfl (lv_at hl 2 rfl) ?_
        refine vp_callSi (W.runV (As := [.int (nI k), .int (nI a)]) (rest := []) ⟨hx, hb, hml, hown, hts⟩ (c_headMeets l dC dI o a1 a2 a3 a4 c1 c2 c3 c4 N h w y z c f1 f2 f3 f4 (Nat.lt_of_lt_of_le hk1 hc) (R k hk1).2.2.1 (R k hk1).2.2.2.1 (cs_modlt _ hh) (cs_modlt _ hh)) (cwV 2 hts gX0_narrowed_X0_headMeets rfl rfl rfl (by decide +kernel) ⟨Nat.le_of_ble_eq_true rfl, Nat.le_of_ble_eq_true rfl⟩) (rW_preV hP hK (va_recv (q := (RX0, TX0, 10)) (q0 := 0) hK hP rfl rfl)) rfl rfl hl.1 rfl (lv_room (Nat.le_of_ble_eq_true rfl)) dX0_narrowed_37 ⟨Nat.le_refl _, Nat.le_refl _⟩) (fun r0 hr0 => ?_)
        rcases hr0 with ⟨rfl, hm⟩ | ⟨rfl, hm⟩
        · refine lv_if_ne hx hb dX0_narrowed_40 (tgt := 55) (by decide) (fun _ => ?_) (fun hq => absurd hq (by decide))
          refine lv_iinc (v := nI (k + 1)) hx hb dX0_narrowed_55 hl (k := 5) rfl (cs_inc _ 1) (by decide) rfl (fun ls hl => ?_)
          have hl : lv_has ls 8 [(7, .int (nI (k + 1))), (0, .ref o), (1, .int (nI d)), (2, .int (nI a)), (3, .long x), (5, .long u)] := hl
          refine lv_goto hx hb dX0_narrowed_58 (tgt := 6) (by decide) ?_
          exact ih (c - (k + 1)) (k + 1, u) ls (by omega) ⟨⟨rfl, by show k + 1 ≤ c; omega, NI_skip hI (fun _ => hm)⟩, lv_sub hl [1, 2, 3, 4, 5, 0] rfl⟩
        · refine lv_if_ne hx hb dX0_narrowed_40 (tgt := 55) (by decide) (fun hq => absurd (nI_0) hq) (fun _ => ?_)
          refine lv_lload hx hb dX0_narrowed_43 (lv_at hl 4 rfl) ?_
          refine lv_aload_n hx hb dX0_narrowed_45 rfl (lv_at hl 0 rfl) ?_
          refine va_get (D := (dC, dI)) (ci := 0) (v := .ref a4) (C := RX0) (T := TX0) (N := 10) hx hb hts hin0 hown hK hP 0 rfl rfl 9 (by decide) (hts (.fieldLink RX0 35 "ClauseSolver" "tails" "[J") (by decide +kernel)) (fun _ h9 => h9) rfl dX0_narrowed_46 ?_
          refine lv_iload hx hb dX0_narrowed_49 (lv_at hl 5 rfl) ?_
          refine cs_lald hx hb hK hP 4 3 rfl rfl (Nat.lt_of_lt_of_le hk1 hc) (by decide) dX0_narrowed_51 ?_
          refine lv_land hx hb dX0_narrowed_52 ?_
          refine lv_lstore hx hb dX0_narrowed_53 hl (by decide) rfl (fun ls hl => ?_)
          have hl : lv_has ls 8 [(5, .long (u &&& (f4 k))), (0, .ref o), (1, .int (nI d)), (2, .int (nI a)), (3, .long x), (7, .int (nI k))] := hl
          refine lv_iinc (v := nI (k + 1)) hx hb dX0_narrowed_55 hl (k := 5) rfl (cs_inc _ 1) (by decide) rfl (fun ls hl => ?_)
          have hl : lv_has ls 8 [(7, .int (nI (k + 1))), (5, .long (u &&& (f4 k))), (0, .ref o), (1, .int (nI d)), (2, .int (nI a)), (3, .long x)] := hl
          refine lv_goto hx hb dX0_narrowed_58 (tgt := 6) (by decide) ?_
          exact ih (c - (k + 1)) (k + 1, u &&& f4 k) ls (by omega) ⟨⟨rfl, by show k + 1 ≤ c; omega, NI_and hI (by rw [hd1, nI_clamp (by omega)]) hm⟩, lv_sub hl [2, 3, 4, 5, 1, 0] rfl⟩
  · refine lv_icmp_ge hx hb dX0_narrowed_12 (tgt := 61) (by decide) (fun _ => ?_) (fun hq => absurd (nI_le hk1 (by omega)) hq)
    refine lv_lload hx hb dX0_narrowed_61 (lv_at hl 4 rfl) ?_
    exact W.lret (v := u) hx hb hr (fun t ht hW => ⟨u, rfl, (show k = c by omega) ▸ hI, ht⟩) (fun q h => by cases h) dX0_narrowed_63
end
section
theorem TI_or {τ j : Nat} (h : τ < 2 ^ j) : τ ||| 2 ^ j = τ + 2 ^ j := by
  have h1 := Nat.two_pow_add_eq_or_of_lt h 1
  rw [Nat.mul_one] at h1
  rw [Nat.or_comm, ← h1, Nat.add_comm]
theorem cs_orhi {a h : Nat} (ha : a < 2 ^ h) (t : Nat) : a ||| (t * 2 ^ h) = a + t * 2 ^ h := by
  rw [Nat.or_comm, Nat.mul_comm, ← Nat.two_pow_add_eq_or_of_lt ha, Nat.add_comm]
theorem cs_and_pow {w d : Nat} (h : w.testBit d = true) : w &&& 2 ^ d = 2 ^ d := by
  apply Nat.eq_of_testBit_eq
  intro i
  rw [Nat.testBit_and, Nat.testBit_two_pow]
  by_cases e : d = i
  · subst e; rw [h]; simp
  · rw [decide_eq_false e]; simp
theorem cs_and_pow0 {w d : Nat} (h : w.testBit d = false) : w &&& 2 ^ d = 0 := by
  apply Nat.eq_of_testBit_eq
  intro i
  rw [Nat.testBit_and, Nat.testBit_two_pow, Nat.zero_testBit]
  by_cases e : d = i
  · subst e; rw [h]; simp
  · rw [decide_eq_false e]; simp
set_option maxHeartbeats 4000000 in
set_option maxRecDepth 100000 in
theorem c_firstTail (l : Launch) (tt : Nat) (dC : Nat → ClassId) (dI : Nat → Nat → Nat) (o a1 a2 a3 a4 : Nat) (c1 c2 c3 c4 : ClassId) (N h w y z c : Nat) (f1 f2 f3 : Nat → Int32) (f4 : Nat → Int64) (hh : h ≤ 16) (hw : w < 65536) {x : Int64} (hx0 : ¬ x = 0) : Met l yX0_firstTail wsX0_firstTail ({ frames := 1, cells := 0, slots := 0, locals := 30 }) (va_Pc [.ref o, .long x] (rX tt (rW (dC, dI) vwCl (xC o a1 a2 a3 a4 c1 c2 c3 c4 (nI N) (nI h) (nI w) (nI y) (nI z) (nI c) f1 f2 f3 f4) (xT c1 c2 c3 c4)))) (vp_Si (fun r => ∃ τ, r = nI τ ∧ τ < 64 ∧ fs (fun t => lb x t = true) (w >>> h) 6 0 0 = some τ)) 0 0 (fun _ => False) := by
  refine Met.ofW (cc := cX0_firstTail) (maxL := 13) (ret := some .int) (by decide) rfl ?_
  intro p e s m args below meth c0 s₁ B hml hv0
  obtain ⟨rfl, ⟨hP, hK⟩, hT⟩ := hv0
  have hx := B.exec
  have hb := B.bytes
  have hr := B.returns
  have hts := atoms_spec (ws := wsX0_firstTail) B.pre
  have hown : s.vm.findClass RX0 = some m.cls := findClass_of_methodNamed B.named
  have hlocks := B.notSynchronized
  have hP : va_P (dC, dI) vwCl (xC o a1 a2 a3 a4 c1 c2 c3 c4 (nI N) (nI h) (nI w) (nI y) (nI z) (nI c) f1 f2 f3 f4) s.heap := hP
  have hin0 : ∀ w ∈ u_ws RX0 TX0 10, w ∈ wsX0_firstTail := by decide +kernel
  have hl := lv_entry ([.ref o, .long x]) (n := 13) (Nat.le_of_ble_eq_true rfl)
  rw [lg_entry_eq]
  generalize (lg_sl ([.ref o, .long x]) ++ List.replicate (13 - (lg_sl ([.ref o, .long x])).length) Slot.unset).toArray = ls at hl ⊢
  have hl : lv_has ls 13 [(0, .ref o), (1, .long x)] := hl
  refine lv_lload_n hx hb dX0_firstTail_0 rfl (lv_at hl 1 rfl) ?_
  refine lv_lstore_n hx hb dX0_firstTail_1 rfl hl (by decide) rfl (fun ls hl => ?_)
  have hl : lv_has ls 13 [(3, .long x), (0, .ref o), (1, .long x)] := hl
  refine lv_iconst (v := nI 0) hx hb dX0_firstTail_2 (by decide) ?_
  refine lv_istore hx hb dX0_firstTail_3 hl (by decide) rfl (fun ls hl => ?_)
  have hl : lv_has ls 13 [(5, .int (nI 0)), (3, .long x), (0, .ref o), (1, .long x)] := hl
  refine lv_iconst (v := nI 0) hx hb dX0_firstTail_5 (by decide) ?_
  refine lv_istore hx hb dX0_firstTail_6 hl (by decide) rfl (fun ls hl => ?_)
  have hl : lv_has ls 13 [(6, .int (nI 0)), (5, .int (nI 0)), (3, .long x), (0, .ref o), (1, .long x)] := hl
  refine cs_wl (σ := Nat × Nat × Int64) (fun n st ls => (n = 6 - st.1 ∧ st.1 ≤ 6 ∧ TI x (w >>> h) st.1 st.2.1 st.2.2) ∧ lv_has ls 13 [(0, .ref o), (1, .long x), (3, .long st.2.2), (5, .int (nI st.2.1)), (6, .int (nI st.1))]) ?_ 6 (0, 0, x) ls ⟨⟨rfl, Nat.zero_le _, TI_0 hx0⟩, lv_sub hl [3, 4, 2, 1, 0] rfl⟩
  clear hl
  intro n st ls hI ih
  obtain ⟨j, τ, u⟩ := st
  obtain ⟨⟨hn, hj6, hI⟩, hl⟩ := hI
  have hl : lv_has ls 13 [(0, .ref o), (1, .long x), (3, .long u), (5, .int (nI τ)), (6, .int (nI j))] := hl
  dsimp only at hn hj6 hI
  refine lv_iload hx hb dX0_firstTail_8 (lv_at hl 4 rfl) ?_
  refine lv_bipush (v := nI 6) hx hb dX0_firstTail_10 (by decide) ?_
  rcases Nat.lt_or_ge j 6 with hj | hj
  · refine lv_icmp_ge hx hb dX0_firstTail_12 (tgt := 126) (by decide) (fun hq => absurd hq (nI_ge hj (by decide))) (fun _ => ?_)
    refine lv_lload_n hx hb dX0_firstTail_15 rfl (lv_at hl 2 rfl) ?_
    refine cs_gett hx hb hT va_S.rf hown (hts (.fieldLink RX0 85 RX0 "TAILS_WITH" "[J") (by decide +kernel)) dX0_firstTail_16 ?_
    refine lv_iload hx hb dX0_firstTail_19 (lv_at hl 4 rfl) ?_
    refine cs_tl hx hb hT.2 va_S.rf (hj) (by decide) rfl dX0_firstTail_21 ?_
    refine lv_land hx hb dX0_firstTail_22 ?_
    refine lv_lstore hx hb dX0_firstTail_23 hl (by decide) rfl (fun ls hl => ?_)
    have hl : lv_has ls 13 [(7, .long (u &&& (cs_tw j))), (0, .ref o), (1, .long x), (3, .long u), (5, .int (nI τ)), (6, .int (nI j))] := hl
    refine lv_lload_n hx hb dX0_firstTail_25 rfl (lv_at hl 3 rfl) ?_
    refine cs_gett hx hb hT va_S.rf hown (hts (.fieldLink RX0 85 RX0 "TAILS_WITH" "[J") (by decide +kernel)) dX0_firstTail_26 ?_
    refine lv_iload hx hb dX0_firstTail_29 (lv_at hl 5 rfl) ?_
    refine cs_tl hx hb hT.2 va_S.rf (hj) (by decide) rfl dX0_firstTail_31 ?_
    refine lv_ldc2 (v := -1) hx hb hown (hts (.constantLong RX0 88 (-1)) (by decide +kernel)) dX0_firstTail_32 ?_
    refine lv_lxor hx hb dX0_firstTail_35 ?_
    refine lv_land hx hb dX0_firstTail_36 ?_
    refine lv_lstore hx hb dX0_firstTail_37 hl (by decide) rfl (fun ls hl => ?_)
    have hl : lv_has ls 13 [(9, .long (u &&& ((cs_tw j) ^^^ (-1)))), (7, .long (u &&& (cs_tw j))), (0, .ref o), (1, .long x), (3, .long u), (5, .int (nI τ)), (6, .int (nI j))] := hl
    refine lv_aload_n hx hb dX0_firstTail_39 rfl (lv_at hl 2 rfl) ?_
    refine va_get (D := (dC, dI)) (ci := 0) (v := .int (nI w)) (C := RX0) (T := TX0) (N := 10) hx hb hts hin0 hown hK hP 0 rfl rfl 2 (by decide) (hts (.fieldLink RX0 43 "ClauseSolver" "wishes" "I") (by decide +kernel)) (fun _ h9 => h9) rfl dX0_firstTail_40 ?_
    refine lv_aload_n hx hb dX0_firstTail_43 rfl (lv_at hl 2 rfl) ?_
    refine va_get (D := (dC, dI)) (ci := 0) (v := .int (nI h)) (C := RX0) (T := TX0) (N := 10) hx hb hts hin0 hown hK hP 0 rfl rfl 1 (by decide) (hts (.fieldLink RX0 22 "ClauseSolver" "heads" "I") (by decide +kernel)) (fun _ h9 => h9) rfl dX0_firstTail_44 ?_
    refine lv_iload hx hb dX0_firstTail_47 (lv_at hl 6 rfl) ?_
    refine lv_iadd hx hb dX0_firstTail_49 ?_
    refine cs_top (y := nI (h + j)) (nI_add h j) ?_
    refine vp_callSi (W.runS (As := [.int (nI w), .int (nI (h + j))]) (rest := []) ⟨hx, hb, hml, hown, hts⟩ (c_has l (by omega) (by omega)) (va_cwS 2 hts gX0_firstTail_X0_has rfl rfl rfl (by decide +kernel) ⟨Nat.le_of_ble_eq_true rfl, Nat.le_of_ble_eq_true rfl⟩) (nW_preS) rfl rfl hl.1 rfl (lv_room (Nat.le_of_ble_eq_true rfl)) dX0_firstTail_50 ⟨Nat.le_refl _, Nat.le_refl _⟩) (fun r0 hr0 => ?_)
    subst hr0
    refine lv_istore hx hb dX0_firstTail_53 hl (by decide) rfl (fun ls hl => ?_)
    have hl : lv_has ls 13 [(11, .int (bI (w.testBit (h + j)))), (9, .long (u &&& ((cs_tw j) ^^^ (-1)))), (7, .long (u &&& (cs_tw j))), (0, .ref o), (1, .long x), (3, .long u), (5, .int (nI τ)), (6, .int (nI j))] := hl
    refine lv_iload hx hb dX0_firstTail_55 (lv_at hl 0 rfl) ?_
    refine lv_if_eq hx hb dX0_firstTail_57 (tgt := 75) (by decide) (fun hw1 => ?_) (fun hw1 => ?_)
    · refine lv_lload hx hb dX0_firstTail_75 (lv_at hl 1 rfl) ?_
      refine lv_lconst (v := 0) hx hb dX0_firstTail_77 (by decide) ?_
      refine W.lcmp hx hb dX0_firstTail_78 ?_
      refine lv_if_ne hx hb dX0_firstTail_79 (tgt := 86) (by decide) (fun hz1 => ?_) (fun hz1 => ?_)
      · refine lv_iconst (v := nI 0) hx hb dX0_firstTail_86 (by decide) ?_
        refine lv_istore hx hb dX0_firstTail_87 hl (by decide) rfl (fun ls hl => ?_)
        have hl : lv_has ls 13 [(12, .int (nI 0)), (11, .int (bI (w.testBit (h + j)))), (9, .long (u &&& ((cs_tw j) ^^^ (-1)))), (7, .long (u &&& (cs_tw j))), (0, .ref o), (1, .long x), (3, .long u), (5, .int (nI τ)), (6, .int (nI j))] := hl
        refine lv_iload hx hb dX0_firstTail_89 (lv_at hl 0 rfl) ?_
        refine lv_if_eq hx hb dX0_firstTail_91 (tgt := 99) (by decide) (fun _ => ?_) (fun hq => absurd (nI_0) hq)
        refine lv_lload hx hb dX0_firstTail_99 (lv_at hl 2 rfl) ?_
        refine lv_lstore_n hx hb dX0_firstTail_101 rfl hl (by decide) rfl (fun ls hl => ?_)
        have hl : lv_has ls 13 [(3, .long (u &&& ((cs_tw j) ^^^ (-1)))), (12, .int (nI 0)), (11, .int (bI (w.testBit (h + j)))), (9, .long (u &&& ((cs_tw j) ^^^ (-1)))), (7, .long (u &&& (cs_tw j))), (0, .ref o), (1, .long x), (5, .int (nI τ)), (6, .int (nI j))] := hl
        refine lv_iload hx hb dX0_firstTail_102 (lv_at hl 7 rfl) ?_
        refine lv_iload hx hb dX0_firstTail_104 (lv_at hl 1 rfl) ?_
        refine lv_if_eq hx hb dX0_firstTail_106 (tgt := 116) (by decide) (fun _ => ?_) (fun hq => absurd (nI_0) hq)
        refine lv_iconst (v := nI 0) hx hb dX0_firstTail_116 (by decide) ?_
        refine lv_ior hx hb dX0_firstTail_117 ?_
        refine cs_top (y := nI (τ ||| 0)) (cs_or τ 0) ?_
        refine cs_top (y := nI τ) (congrArg nI (Nat.or_zero τ)) ?_
        refine lv_istore hx hb dX0_firstTail_118 hl (by decide) rfl (fun ls hl => ?_)
        have hl : lv_has ls 13 [(5, .int (nI τ)), (3, .long (u &&& ((cs_tw j) ^^^ (-1)))), (12, .int (nI 0)), (11, .int (bI (w.testBit (h + j)))), (9, .long (u &&& ((cs_tw j) ^^^ (-1)))), (7, .long (u &&& (cs_tw j))), (0, .ref o), (1, .long x), (6, .int (nI j))] := hl
        refine lv_iinc (v := nI (j + 1)) hx hb dX0_firstTail_120 hl (k := 8) rfl (cs_inc _ 1) (by decide) rfl (fun ls hl => ?_)
        have hl : lv_has ls 13 [(6, .int (nI (j + 1))), (5, .int (nI τ)), (3, .long (u &&& ((cs_tw j) ^^^ (-1)))), (12, .int (nI 0)), (11, .int (bI (w.testBit (h + j)))), (9, .long (u &&& ((cs_tw j) ^^^ (-1)))), (7, .long (u &&& (cs_tw j))), (0, .ref o), (1, .long x)] := hl
        refine lv_goto hx hb dX0_firstTail_123 (tgt := 8) (by decide) ?_
        exact ih (6 - (j + 1)) (j + 1, τ, u &&& ((cs_tw j) ^^^ (-1))) ls (by omega) ⟨⟨rfl, by show j + 1 ≤ 6; omega, TI_ff hj hI ((Nat.testBit_shiftRight w).trans (bI_z hw1)) (fun z9 => hz1 (cs_lcmp.mpr z9))⟩, lv_sub hl [7, 8, 2, 1, 0] rfl⟩
      · refine lv_iconst (v := nI 1) hx hb dX0_firstTail_82 (by decide) ?_
        refine lv_goto hx hb dX0_firstTail_83 (tgt := 87) (by decide) ?_
        refine lv_istore hx hb dX0_firstTail_87 hl (by decide) rfl (fun ls hl => ?_)
        have hl : lv_has ls 13 [(12, .int (nI 1)), (11, .int (bI (w.testBit (h + j)))), (9, .long (u &&& ((cs_tw j) ^^^ (-1)))), (7, .long (u &&& (cs_tw j))), (0, .ref o), (1, .long x), (3, .long u), (5, .int (nI τ)), (6, .int (nI j))] := hl
        refine lv_iload hx hb dX0_firstTail_89 (lv_at hl 0 rfl) ?_
        refine lv_if_eq hx hb dX0_firstTail_91 (tgt := 99) (by decide) (fun hq => absurd hq (by decide)) (fun _ => ?_)
        refine lv_lload hx hb dX0_firstTail_94 (lv_at hl 3 rfl) ?_
        refine lv_goto hx hb dX0_firstTail_96 (tgt := 101) (by decide) ?_
        refine lv_lstore_n hx hb dX0_firstTail_101 rfl hl (by decide) rfl (fun ls hl => ?_)
        have hl : lv_has ls 13 [(3, .long (u &&& (cs_tw j))), (12, .int (nI 1)), (11, .int (bI (w.testBit (h + j)))), (9, .long (u &&& ((cs_tw j) ^^^ (-1)))), (7, .long (u &&& (cs_tw j))), (0, .ref o), (1, .long x), (5, .int (nI τ)), (6, .int (nI j))] := hl
        refine lv_iload hx hb dX0_firstTail_102 (lv_at hl 7 rfl) ?_
        refine lv_iload hx hb dX0_firstTail_104 (lv_at hl 1 rfl) ?_
        refine lv_if_eq hx hb dX0_firstTail_106 (tgt := 116) (by decide) (fun hq => absurd hq (by decide)) (fun _ => ?_)
        refine lv_iconst (v := nI 1) hx hb dX0_firstTail_109 (by decide) ?_
        refine lv_iload hx hb dX0_firstTail_110 (lv_at hl 8 rfl) ?_
        refine lv_ishl hx hb dX0_firstTail_112 ?_
        refine cs_top (y := nI (2 ^ j)) (cs_one (by omega)) ?_
        refine lv_goto hx hb dX0_firstTail_113 (tgt := 117) (by decide) ?_
        refine lv_ior hx hb dX0_firstTail_117 ?_
        refine cs_top (y := nI (τ ||| (2 ^ j))) (cs_or τ (2 ^ j)) ?_
        refine cs_top (y := nI (τ + 2 ^ j)) (congrArg nI (TI_or hI.1)) ?_
        refine lv_istore hx hb dX0_firstTail_118 hl (by decide) rfl (fun ls hl => ?_)
        have hl : lv_has ls 13 [(5, .int (nI (τ + 2 ^ j))), (3, .long (u &&& (cs_tw j))), (12, .int (nI 1)), (11, .int (bI (w.testBit (h + j)))), (9, .long (u &&& ((cs_tw j) ^^^ (-1)))), (7, .long (u &&& (cs_tw j))), (0, .ref o), (1, .long x), (6, .int (nI j))] := hl
        refine lv_iinc (v := nI (j + 1)) hx hb dX0_firstTail_120 hl (k := 8) rfl (cs_inc _ 1) (by decide) rfl (fun ls hl => ?_)
        have hl : lv_has ls 13 [(6, .int (nI (j + 1))), (5, .int (nI (τ + 2 ^ j))), (3, .long (u &&& (cs_tw j))), (12, .int (nI 1)), (11, .int (bI (w.testBit (h + j)))), (9, .long (u &&& ((cs_tw j) ^^^ (-1)))), (7, .long (u &&& (cs_tw j))), (0, .ref o), (1, .long x)] := hl
        refine lv_goto hx hb dX0_firstTail_123 (tgt := 8) (by decide) ?_
        exact ih (6 - (j + 1)) (j + 1, τ + 2 ^ j, u &&& (cs_tw j)) ls (by omega) ⟨⟨rfl, by show j + 1 ≤ 6; omega, TI_ft hj hI ((Nat.testBit_shiftRight w).trans (bI_z hw1)) (cs_lcmp.mp hz1)⟩, lv_sub hl [7, 8, 2, 1, 0] rfl⟩
    · refine lv_lload hx hb dX0_firstTail_60 (lv_at hl 2 rfl) ?_
      refine lv_lconst (v := 0) hx hb dX0_firstTail_62 (by decide) ?_
      refine W.lcmp hx hb dX0_firstTail_63 ?_
      refine lv_if_eq hx hb dX0_firstTail_64 (tgt := 71) (by decide) (fun hz1 => ?_) (fun hz1 => ?_)
      · refine lv_iconst (v := nI 0) hx hb dX0_firstTail_71 (by decide) ?_
        refine lv_goto hx hb dX0_firstTail_72 (tgt := 87) (by decide) ?_
        refine lv_istore hx hb dX0_firstTail_87 hl (by decide) rfl (fun ls hl => ?_)
        have hl : lv_has ls 13 [(12, .int (nI 0)), (11, .int (bI (w.testBit (h + j)))), (9, .long (u &&& ((cs_tw j) ^^^ (-1)))), (7, .long (u &&& (cs_tw j))), (0, .ref o), (1, .long x), (3, .long u), (5, .int (nI τ)), (6, .int (nI j))] := hl
        refine lv_iload hx hb dX0_firstTail_89 (lv_at hl 0 rfl) ?_
        refine lv_if_eq hx hb dX0_firstTail_91 (tgt := 99) (by decide) (fun _ => ?_) (fun hq => absurd (nI_0) hq)
        refine lv_lload hx hb dX0_firstTail_99 (lv_at hl 2 rfl) ?_
        refine lv_lstore_n hx hb dX0_firstTail_101 rfl hl (by decide) rfl (fun ls hl => ?_)
        have hl : lv_has ls 13 [(3, .long (u &&& ((cs_tw j) ^^^ (-1)))), (12, .int (nI 0)), (11, .int (bI (w.testBit (h + j)))), (9, .long (u &&& ((cs_tw j) ^^^ (-1)))), (7, .long (u &&& (cs_tw j))), (0, .ref o), (1, .long x), (5, .int (nI τ)), (6, .int (nI j))] := hl
        refine lv_iload hx hb dX0_firstTail_102 (lv_at hl 7 rfl) ?_
        refine lv_iload hx hb dX0_firstTail_104 (lv_at hl 1 rfl) ?_
        refine lv_if_eq hx hb dX0_firstTail_106 (tgt := 116) (by decide) (fun _ => ?_) (fun hq => absurd (nI_0) hq)
        refine lv_iconst (v := nI 0) hx hb dX0_firstTail_116 (by decide) ?_
        refine lv_ior hx hb dX0_firstTail_117 ?_
        refine cs_top (y := nI (τ ||| 0)) (cs_or τ 0) ?_
        refine cs_top (y := nI τ) (congrArg nI (Nat.or_zero τ)) ?_
        refine lv_istore hx hb dX0_firstTail_118 hl (by decide) rfl (fun ls hl => ?_)
        have hl : lv_has ls 13 [(5, .int (nI τ)), (3, .long (u &&& ((cs_tw j) ^^^ (-1)))), (12, .int (nI 0)), (11, .int (bI (w.testBit (h + j)))), (9, .long (u &&& ((cs_tw j) ^^^ (-1)))), (7, .long (u &&& (cs_tw j))), (0, .ref o), (1, .long x), (6, .int (nI j))] := hl
        refine lv_iinc (v := nI (j + 1)) hx hb dX0_firstTail_120 hl (k := 8) rfl (cs_inc _ 1) (by decide) rfl (fun ls hl => ?_)
        have hl : lv_has ls 13 [(6, .int (nI (j + 1))), (5, .int (nI τ)), (3, .long (u &&& ((cs_tw j) ^^^ (-1)))), (12, .int (nI 0)), (11, .int (bI (w.testBit (h + j)))), (9, .long (u &&& ((cs_tw j) ^^^ (-1)))), (7, .long (u &&& (cs_tw j))), (0, .ref o), (1, .long x)] := hl
        refine lv_goto hx hb dX0_firstTail_123 (tgt := 8) (by decide) ?_
        exact ih (6 - (j + 1)) (j + 1, τ, u &&& ((cs_tw j) ^^^ (-1))) ls (by omega) ⟨⟨rfl, by show j + 1 ≤ 6; omega, TI_tf hj hI ((Nat.testBit_shiftRight w).trans (bI_nz hw1)) (cs_lcmp.mp hz1)⟩, lv_sub hl [7, 8, 2, 1, 0] rfl⟩
      · refine lv_iconst (v := nI 1) hx hb dX0_firstTail_67 (by decide) ?_
        refine lv_goto hx hb dX0_firstTail_68 (tgt := 87) (by decide) ?_
        refine lv_istore hx hb dX0_firstTail_87 hl (by decide) rfl (fun ls hl => ?_)
        have hl : lv_has ls 13 [(12, .int (nI 1)), (11, .int (bI (w.testBit (h + j)))), (9, .long (u &&& ((cs_tw j) ^^^ (-1)))), (7, .long (u &&& (cs_tw j))), (0, .ref o), (1, .long x), (3, .long u), (5, .int (nI τ)), (6, .int (nI j))] := hl
        refine lv_iload hx hb dX0_firstTail_89 (lv_at hl 0 rfl) ?_
        refine lv_if_eq hx hb dX0_firstTail_91 (tgt := 99) (by decide) (fun hq => absurd hq (by decide)) (fun _ => ?_)
        refine lv_lload hx hb dX0_firstTail_94 (lv_at hl 3 rfl) ?_
        refine lv_goto hx hb dX0_firstTail_96 (tgt := 101) (by decide) ?_
        refine lv_lstore_n hx hb dX0_firstTail_101 rfl hl (by decide) rfl (fun ls hl => ?_)
        have hl : lv_has ls 13 [(3, .long (u &&& (cs_tw j))), (12, .int (nI 1)), (11, .int (bI (w.testBit (h + j)))), (9, .long (u &&& ((cs_tw j) ^^^ (-1)))), (7, .long (u &&& (cs_tw j))), (0, .ref o), (1, .long x), (5, .int (nI τ)), (6, .int (nI j))] := hl
        refine lv_iload hx hb dX0_firstTail_102 (lv_at hl 7 rfl) ?_
        refine lv_iload hx hb dX0_firstTail_104 (lv_at hl 1 rfl) ?_
        refine lv_if_eq hx hb dX0_firstTail_106 (tgt := 116) (by decide) (fun hq => absurd hq (by decide)) (fun _ => ?_)
        refine lv_iconst (v := nI 1) hx hb dX0_firstTail_109 (by decide) ?_
        refine lv_iload hx hb dX0_firstTail_110 (lv_at hl 8 rfl) ?_
        refine lv_ishl hx hb dX0_firstTail_112 ?_
        refine cs_top (y := nI (2 ^ j)) (cs_one (by omega)) ?_
        refine lv_goto hx hb dX0_firstTail_113 (tgt := 117) (by decide) ?_
        refine lv_ior hx hb dX0_firstTail_117 ?_
        refine cs_top (y := nI (τ ||| (2 ^ j))) (cs_or τ (2 ^ j)) ?_
        refine cs_top (y := nI (τ + 2 ^ j)) (congrArg nI (TI_or hI.1)) ?_
        refine lv_istore hx hb dX0_firstTail_118 hl (by decide) rfl (fun ls hl => ?_)
        have hl : lv_has ls 13 [(5, .int (nI (τ + 2 ^ j))), (3, .long (u &&& (cs_tw j))), (12, .int (nI 1)), (11, .int (bI (w.testBit (h + j)))), (9, .long (u &&& ((cs_tw j) ^^^ (-1)))), (7, .long (u &&& (cs_tw j))), (0, .ref o), (1, .long x), (6, .int (nI j))] := hl
        refine lv_iinc (v := nI (j + 1)) hx hb dX0_firstTail_120 hl (k := 8) rfl (cs_inc _ 1) (by decide) rfl (fun ls hl => ?_)
        have hl : lv_has ls 13 [(6, .int (nI (j + 1))), (5, .int (nI (τ + 2 ^ j))), (3, .long (u &&& (cs_tw j))), (12, .int (nI 1)), (11, .int (bI (w.testBit (h + j)))), (9, .long (u &&& ((cs_tw j) ^^^ (-1)))), (7, .long (u &&& (cs_tw j))), (0, .ref o), (1, .long x)] := hl
        refine lv_goto hx hb dX0_firstTail_123 (tgt := 8) (by decide) ?_
        exact ih (6 - (j + 1)) (j + 1, τ + 2 ^ j, u &&& (cs_tw j)) ls (by omega) ⟨⟨rfl, by show j + 1 ≤ 6; omega, TI_tt hj hI ((Nat.testBit_shiftRight w).trans (bI_nz hw1)) (fun z9 => hz1 (cs_lcmp.mpr z9))⟩, lv_sub hl [7, 8, 2, 1, 0] rfl⟩
  · refine lv_icmp_ge hx hb dX0_firstTail_12 (tgt := 126) (by decide) (fun _ => ?_) (fun hq => absurd (nI_le hj (by omega)) hq)
    refine lv_iload hx hb dX0_firstTail_126 (lv_at hl 3 rfl) ?_
    exact W.iret (v := nI τ) hx hb hr (fun t ht hW => ⟨nI τ, rfl, ⟨τ, rfl, by have := hI.1; rw [show j = 6 by omega] at this; exact this, TI_6 ((show j = 6 by omega) ▸ hI)⟩, ht⟩) (fun q h => by cases h) dX0_firstTail_128
set_option maxHeartbeats 4000000 in
set_option maxRecDepth 100000 in
theorem c_firstOfBoth (l : Launch) (tt : Nat) (dC : Nat → ClassId) (dI : Nat → Nat → Nat) (o a1 a2 a3 a4 : Nat) (c1 c2 c3 c4 : ClassId) (N h w y z c : Nat) (f1 f2 f3 : Nat → Int32) (f4 : Nat → Int64) (hN : N ≤ 16) (hNh : h = N - 6) (hw : w < 2 ^ N) (hc : c ≤ 400) {Y Z : Nat → Nat} (R : RX N h c Y Z f1 f2 f3 f4) (n : Nat) {d a : Nat} (hd : d < h) (ha : a < 2 ^ d) {x : Int64} (O : OP h c Y Z f3 (d + 1) a x) (hFB : ∀ (a : Nat) (x : Int64), a < 2 ^ (d + 1) → OP h c Y Z f3 (d + 1) a x → Met l yX0_firstBelow wsX0_firstBelow ({ frames := (2 * n + 3), cells := 0, slots := 0, locals := (80 * n + 100) }) (va_Pc [.ref o, .int (nI (d + 1)), .int (nI a), .long x] (rX tt (rW (dC, dI) vwCl (xC o a1 a2 a3 a4 c1 c2 c3 c4 (nI N) (nI h) (nI w) (nI y) (nI z) (nI c) f1 f2 f3 f4) (xT c1 c2 c3 c4)))) (vp_Si (fun r => r = rs (fs (PX c Y Z) w (h + 6 - (d + 1)) a (d + 1)))) 0 0 (fun _ => False)) : Met l yX0_firstOfBoth wsX0_firstOfBoth ({ frames := (2 * n + 4), cells := 0, slots := 0, locals := (80 * n + 140) }) (va_Pc [.ref o, .int (nI d), .int (nI a), .long x] (rX tt (rW (dC, dI) vwCl (xC o a1 a2 a3 a4 c1 c2 c3 c4 (nI N) (nI h) (nI w) (nI y) (nI z) (nI c) f1 f2 f3 f4) (xT c1 c2 c3 c4)))) (vp_Si (fun r => r = rs (fs (PX c Y Z) w (h + 6 - d) a d))) 0 0 (fun _ => False) := by
  refine Met.ofW (cc := cX0_firstOfBoth) (maxL := 8) (ret := some .int) (by decide) rfl ?_
  intro p e s m args below meth c0 s₁ B hml hv0
  obtain ⟨rfl, ⟨hP, hK⟩, hT⟩ := hv0
  have hx := B.exec
  have hb := B.bytes
  have hr := B.returns
  have hts := atoms_spec (ws := wsX0_firstOfBoth) B.pre
  have hown : s.vm.findClass RX0 = some m.cls := findClass_of_methodNamed B.named
  have hlocks := B.notSynchronized
  have hP : va_P (dC, dI) vwCl (xC o a1 a2 a3 a4 c1 c2 c3 c4 (nI N) (nI h) (nI w) (nI y) (nI z) (nI c) f1 f2 f3 f4) s.heap := hP
  have hin0 : ∀ w ∈ u_ws RX0 TX0 10, w ∈ wsX0_firstOfBoth := by decide +kernel
  have hl := lv_entry ([.ref o, .int (nI d), .int (nI a), .long x]) (n := 8) (Nat.le_of_ble_eq_true rfl)
  rw [lg_entry_eq]
  generalize (lg_sl ([.ref o, .int (nI d), .int (nI a), .long x]) ++ List.replicate (8 - (lg_sl ([.ref o, .int (nI d), .int (nI a), .long x])).length) Slot.unset).toArray = ls at hl ⊢
  have hl : lv_has ls 8 [(0, .ref o), (1, .int (nI d)), (2, .int (nI a)), (3, .long x)] := hl
  have hp : 2 ^ (d + 1) = 2 ^ d + 2 ^ d := TI_p
  have hlt : ∀ (q r : Nat), q < 2 ^ (d + 1) → fs (PX c Y Z) w (h + 6 - (d + 1)) q (d + 1) = some r → r < 2 ^ 31 := fun q r h1 h2 => Nat.lt_of_lt_of_le (fs_lt h1 h2) (Nat.pow_le_pow_right (by decide) (by omega))
  have O2 := OP_down (by omega) R hd ha O
  refine lv_aload_n hx hb dX0_firstOfBoth_0 rfl (lv_at hl 0 rfl) ?_
  refine va_get (D := (dC, dI)) (ci := 0) (v := .int (nI w)) (C := RX0) (T := TX0) (N := 10) hx hb hts hin0 hown hK hP 0 rfl rfl 2 (by decide) (hts (.fieldLink RX0 43 "ClauseSolver" "wishes" "I") (by decide +kernel)) (fun _ h9 => h9) rfl dX0_firstOfBoth_1 ?_
  refine lv_iconst (v := nI 1) hx hb dX0_firstOfBoth_4 (by decide) ?_
  refine lv_iload_n hx hb dX0_firstOfBoth_5 rfl (lv_at hl 1 rfl) ?_
  refine lv_ishl hx hb dX0_firstOfBoth_6 ?_
  refine cs_top (y := nI (2 ^ d)) (cs_one (by omega)) ?_
  cases hbit : w.testBit d with
  | true =>
    refine lv_iand hx hb dX0_firstOfBoth_7 ?_
    refine cs_top (y := nI (w &&& (2 ^ d))) (cs_and w (2 ^ d)) ?_
    refine cs_top (y := nI (2 ^ d)) (congrArg nI (cs_and_pow hbit)) ?_
    refine lv_istore hx hb dX0_firstOfBoth_8 hl (by decide) rfl (fun ls hl => ?_)
    have hl : lv_has ls 8 [(5, .int (nI (2 ^ d))), (0, .ref o), (1, .int (nI d)), (2, .int (nI a)), (3, .long x)] := hl
    refine lv_aload_n hx hb dX0_firstOfBoth_10 rfl (lv_at hl 1 rfl) ?_
    refine lv_iload_n hx hb dX0_firstOfBoth_11 rfl (lv_at hl 2 rfl) ?_
    refine lv_iconst (v := nI 1) hx hb dX0_firstOfBoth_12 (by decide) ?_
    refine lv_iadd hx hb dX0_firstOfBoth_13 ?_
    refine cs_top (y := nI (d + 1)) (nI_add d 1) ?_
    refine lv_iload_n hx hb dX0_firstOfBoth_14 rfl (lv_at hl 3 rfl) ?_
    refine lv_iload hx hb dX0_firstOfBoth_15 (lv_at hl 0 rfl) ?_
    refine lv_ior hx hb dX0_firstOfBoth_17 ?_
    refine cs_top (y := nI (a ||| (2 ^ d))) (cs_or a (2 ^ d)) ?_
    refine cs_top (y := nI (a + 2 ^ d)) (congrArg nI (TI_or ha)) ?_
    refine lv_lload_n hx hb dX0_firstOfBoth_18 rfl (lv_at hl 4 rfl) ?_
    refine vp_callSi (W.runV (As := [.int (nI (d + 1)), .int (nI (a + 2 ^ d)), .long x]) (rest := []) ⟨hx, hb, hml, hown, hts⟩ (hFB (a + 2 ^ d) x (by omega) O2) (cwV 3 hts gX0_firstOfBoth_X0_firstBelow rfl rfl rfl (by decide +kernel) ⟨by show 2 * n + 3 + 1 ≤ 2 * n + 4; omega, by show 8 + (7 + 11) + (80 * n + 100) ≤ 80 * n + 140; omega⟩) (rT_preV hP hK hT (va_recv (q := (RX0, TX0, 10)) (q0 := 0) hK hP rfl rfl)) rfl rfl hl.1 rfl (lv_room (Nat.le_of_ble_eq_true rfl)) dX0_firstOfBoth_19 ⟨Nat.le_refl _, Nat.le_refl _⟩) (fun r0 hr0 => ?_)
    subst hr0
    refine lv_istore hx hb dX0_firstOfBoth_22 hl (by decide) rfl (fun ls hl => ?_)
    have hl : lv_has ls 8 [(6, .int (rs (fs (PX c Y Z) w (h + 6 - (d + 1)) (a + 2 ^ d) (d + 1)))), (5, .int (nI (2 ^ d))), (0, .ref o), (1, .int (nI d)), (2, .int (nI a)), (3, .long x)] := hl
    refine lv_iload hx hb dX0_firstOfBoth_24 (lv_at hl 0 rfl) ?_
    refine lv_bipush (v := (-2)) hx hb dX0_firstOfBoth_26 (by decide) ?_
    refine lv_icmp_eq hx hb dX0_firstOfBoth_28 (tgt := 34) (by decide) (fun hq => ?_) (fun hq => ?_)
    · refine lv_iload hx hb dX0_firstOfBoth_34 (lv_at hl 1 rfl) ?_
      refine lv_iconst (v := nI 1) hx hb dX0_firstOfBoth_36 (by decide) ?_
      refine lv_iload_n hx hb dX0_firstOfBoth_37 rfl (lv_at hl 3 rfl) ?_
      refine lv_ishl hx hb dX0_firstOfBoth_38 ?_
      refine cs_top (y := nI (2 ^ d)) (cs_one (by omega)) ?_
      refine lv_ixor hx hb dX0_firstOfBoth_39 ?_
      refine cs_top (y := nI ((2 ^ d) ^^^ (2 ^ d))) (cs_xor (2 ^ d) (2 ^ d)) ?_
      refine cs_top (y := nI 0) (congrArg nI (Nat.xor_self (2 ^ d))) ?_
      refine lv_istore hx hb dX0_firstOfBoth_40 hl (by decide) rfl (fun ls hl => ?_)
      have hl : lv_has ls 8 [(7, .int (nI 0)), (6, .int (rs (fs (PX c Y Z) w (h + 6 - (d + 1)) (a + 2 ^ d) (d + 1)))), (5, .int (nI (2 ^ d))), (0, .ref o), (1, .int (nI d)), (2, .int (nI a)), (3, .long x)] := hl
      refine lv_aload_n hx hb dX0_firstOfBoth_42 rfl (lv_at hl 3 rfl) ?_
      refine lv_iload_n hx hb dX0_firstOfBoth_43 rfl (lv_at hl 4 rfl) ?_
      refine lv_iconst (v := nI 1) hx hb dX0_firstOfBoth_44 (by decide) ?_
      refine lv_iadd hx hb dX0_firstOfBoth_45 ?_
      refine cs_top (y := nI (d + 1)) (nI_add d 1) ?_
      refine lv_iload_n hx hb dX0_firstOfBoth_46 rfl (lv_at hl 5 rfl) ?_
      refine lv_iload hx hb dX0_firstOfBoth_47 (lv_at hl 0 rfl) ?_
      refine lv_ior hx hb dX0_firstOfBoth_49 ?_
      refine cs_top (y := nI (a ||| 0)) (cs_or a 0) ?_
      refine cs_top (y := nI a) (congrArg nI (Nat.or_zero a)) ?_
      refine lv_lload_n hx hb dX0_firstOfBoth_50 rfl (lv_at hl 6 rfl) ?_
      refine vp_callSi (W.runV (As := [.int (nI (d + 1)), .int (nI a), .long x]) (rest := []) ⟨hx, hb, hml, hown, hts⟩ (hFB a x (by omega) O) (cwV 3 hts gX0_firstOfBoth_X0_firstBelow rfl rfl rfl (by decide +kernel) ⟨by show 2 * n + 3 + 1 ≤ 2 * n + 4; omega, by show 8 + (7 + 11) + (80 * n + 100) ≤ 80 * n + 140; omega⟩) (rT_preV hP hK hT (va_recv (q := (RX0, TX0, 10)) (q0 := 0) hK hP rfl rfl)) rfl rfl hl.1 rfl (lv_room (Nat.le_of_ble_eq_true rfl)) dX0_firstOfBoth_51 ⟨Nat.le_refl _, Nat.le_refl _⟩) (fun r0 hr0 => ?_)
      subst hr0
      exact W.iret (v := rs (fs (PX c Y Z) w (h + 6 - (d + 1)) a (d + 1))) hx hb hr (fun t ht hW => ⟨rs (fs (PX c Y Z) w (h + 6 - (d + 1)) a (d + 1)), rfl, by rw [show h + 6 - d = (h + 6 - (d + 1)) + 1 by omega, fs_st hbit, or_right ((rs_neg (hlt _ · (by omega))).mp hq)], ht⟩) (fun q h => by cases h) dX0_firstOfBoth_54
    · refine lv_iload hx hb dX0_firstOfBoth_31 (lv_at hl 0 rfl) ?_
      exact W.iret (v := rs (fs (PX c Y Z) w (h + 6 - (d + 1)) (a + 2 ^ d) (d + 1))) hx hb hr (fun t ht hW => ⟨rs (fs (PX c Y Z) w (h + 6 - (d + 1)) (a + 2 ^ d) (d + 1)), rfl, by rw [show h + 6 - d = (h + 6 - (d + 1)) + 1 by omega, fs_st hbit, or_left (fun z9 => hq (by rw [z9]; rfl))], ht⟩) (fun q h => by cases h) dX0_firstOfBoth_33
  | false =>
    refine lv_iand hx hb dX0_firstOfBoth_7 ?_
    refine cs_top (y := nI (w &&& (2 ^ d))) (cs_and w (2 ^ d)) ?_
    refine cs_top (y := nI 0) (congrArg nI (cs_and_pow0 hbit)) ?_
    refine lv_istore hx hb dX0_firstOfBoth_8 hl (by decide) rfl (fun ls hl => ?_)
    have hl : lv_has ls 8 [(5, .int (nI 0)), (0, .ref o), (1, .int (nI d)), (2, .int (nI a)), (3, .long x)] := hl
    refine lv_aload_n hx hb dX0_firstOfBoth_10 rfl (lv_at hl 1 rfl) ?_
    refine lv_iload_n hx hb dX0_firstOfBoth_11 rfl (lv_at hl 2 rfl) ?_
    refine lv_iconst (v := nI 1) hx hb dX0_firstOfBoth_12 (by decide) ?_
    refine lv_iadd hx hb dX0_firstOfBoth_13 ?_
    refine cs_top (y := nI (d + 1)) (nI_add d 1) ?_
    refine lv_iload_n hx hb dX0_firstOfBoth_14 rfl (lv_at hl 3 rfl) ?_
    refine lv_iload hx hb dX0_firstOfBoth_15 (lv_at hl 0 rfl) ?_
    refine lv_ior hx hb dX0_firstOfBoth_17 ?_
    refine cs_top (y := nI (a ||| 0)) (cs_or a 0) ?_
    refine cs_top (y := nI a) (congrArg nI (Nat.or_zero a)) ?_
    refine lv_lload_n hx hb dX0_firstOfBoth_18 rfl (lv_at hl 4 rfl) ?_
    refine vp_callSi (W.runV (As := [.int (nI (d + 1)), .int (nI a), .long x]) (rest := []) ⟨hx, hb, hml, hown, hts⟩ (hFB a x (by omega) O) (cwV 3 hts gX0_firstOfBoth_X0_firstBelow rfl rfl rfl (by decide +kernel) ⟨by show 2 * n + 3 + 1 ≤ 2 * n + 4; omega, by show 8 + (7 + 11) + (80 * n + 100) ≤ 80 * n + 140; omega⟩) (rT_preV hP hK hT (va_recv (q := (RX0, TX0, 10)) (q0 := 0) hK hP rfl rfl)) rfl rfl hl.1 rfl (lv_room (Nat.le_of_ble_eq_true rfl)) dX0_firstOfBoth_19 ⟨Nat.le_refl _, Nat.le_refl _⟩) (fun r0 hr0 => ?_)
    subst hr0
    refine lv_istore hx hb dX0_firstOfBoth_22 hl (by decide) rfl (fun ls hl => ?_)
    have hl : lv_has ls 8 [(6, .int (rs (fs (PX c Y Z) w (h + 6 - (d + 1)) a (d + 1)))), (5, .int (nI 0)), (0, .ref o), (1, .int (nI d)), (2, .int (nI a)), (3, .long x)] := hl
    refine lv_iload hx hb dX0_firstOfBoth_24 (lv_at hl 0 rfl) ?_
    refine lv_bipush (v := (-2)) hx hb dX0_firstOfBoth_26 (by decide) ?_
    refine lv_icmp_eq hx hb dX0_firstOfBoth_28 (tgt := 34) (by decide) (fun hq => ?_) (fun hq => ?_)
    · refine lv_iload hx hb dX0_firstOfBoth_34 (lv_at hl 1 rfl) ?_
      refine lv_iconst (v := nI 1) hx hb dX0_firstOfBoth_36 (by decide) ?_
      refine lv_iload_n hx hb dX0_firstOfBoth_37 rfl (lv_at hl 3 rfl) ?_
      refine lv_ishl hx hb dX0_firstOfBoth_38 ?_
      refine cs_top (y := nI (2 ^ d)) (cs_one (by omega)) ?_
      refine lv_ixor hx hb dX0_firstOfBoth_39 ?_
      refine cs_top (y := nI (0 ^^^ (2 ^ d))) (cs_xor 0 (2 ^ d)) ?_
      refine cs_top (y := nI (2 ^ d)) (congrArg nI (Nat.zero_xor (2 ^ d))) ?_
      refine lv_istore hx hb dX0_firstOfBoth_40 hl (by decide) rfl (fun ls hl => ?_)
      have hl : lv_has ls 8 [(7, .int (nI (2 ^ d))), (6, .int (rs (fs (PX c Y Z) w (h + 6 - (d + 1)) a (d + 1)))), (5, .int (nI 0)), (0, .ref o), (1, .int (nI d)), (2, .int (nI a)), (3, .long x)] := hl
      refine lv_aload_n hx hb dX0_firstOfBoth_42 rfl (lv_at hl 3 rfl) ?_
      refine lv_iload_n hx hb dX0_firstOfBoth_43 rfl (lv_at hl 4 rfl) ?_
      refine lv_iconst (v := nI 1) hx hb dX0_firstOfBoth_44 (by decide) ?_
      refine lv_iadd hx hb dX0_firstOfBoth_45 ?_
      refine cs_top (y := nI (d + 1)) (nI_add d 1) ?_
      refine lv_iload_n hx hb dX0_firstOfBoth_46 rfl (lv_at hl 5 rfl) ?_
      refine lv_iload hx hb dX0_firstOfBoth_47 (lv_at hl 0 rfl) ?_
      refine lv_ior hx hb dX0_firstOfBoth_49 ?_
      refine cs_top (y := nI (a ||| (2 ^ d))) (cs_or a (2 ^ d)) ?_
      refine cs_top (y := nI (a + 2 ^ d)) (congrArg nI (TI_or ha)) ?_
      refine lv_lload_n hx hb dX0_firstOfBoth_50 rfl (lv_at hl 6 rfl) ?_
      refine vp_callSi (W.runV (As := [.int (nI (d + 1)), .int (nI (a + 2 ^ d)), .long x]) (rest := []) ⟨hx, hb, hml, hown, hts⟩ (hFB (a + 2 ^ d) x (by omega) O2) (cwV 3 hts gX0_firstOfBoth_X0_firstBelow rfl rfl rfl (by decide +kernel) ⟨by show 2 * n + 3 + 1 ≤ 2 * n + 4; omega, by show 8 + (7 + 11) + (80 * n + 100) ≤ 80 * n + 140; omega⟩) (rT_preV hP hK hT (va_recv (q := (RX0, TX0, 10)) (q0 := 0) hK hP rfl rfl)) rfl rfl hl.1 rfl (lv_room (Nat.le_of_ble_eq_true rfl)) dX0_firstOfBoth_51 ⟨Nat.le_refl _, Nat.le_refl _⟩) (fun r0 hr0 => ?_)
      subst hr0
      exact W.iret (v := rs (fs (PX c Y Z) w (h + 6 - (d + 1)) (a + 2 ^ d) (d + 1))) hx hb hr (fun t ht hW => ⟨rs (fs (PX c Y Z) w (h + 6 - (d + 1)) (a + 2 ^ d) (d + 1)), rfl, by rw [show h + 6 - d = (h + 6 - (d + 1)) + 1 by omega, fs_sf hbit, or_right ((rs_neg (hlt _ · (by omega))).mp hq)], ht⟩) (fun q h => by cases h) dX0_firstOfBoth_54
    · refine lv_iload hx hb dX0_firstOfBoth_31 (lv_at hl 0 rfl) ?_
      exact W.iret (v := rs (fs (PX c Y Z) w (h + 6 - (d + 1)) a (d + 1))) hx hb hr (fun t ht hW => ⟨rs (fs (PX c Y Z) w (h + 6 - (d + 1)) a (d + 1)), rfl, by rw [show h + 6 - d = (h + 6 - (d + 1)) + 1 by omega, fs_sf hbit, or_left (fun z9 => hq (by rw [z9]; rfl))], ht⟩) (fun q h => by cases h) dX0_firstOfBoth_33
set_option maxHeartbeats 4000000 in
set_option maxRecDepth 100000 in
theorem c_firstBelow_leaf (l : Launch) (tt : Nat) (dC : Nat → ClassId) (dI : Nat → Nat → Nat) (o a1 a2 a3 a4 : Nat) (c1 c2 c3 c4 : ClassId) (N h w y z c : Nat) (f1 f2 f3 : Nat → Int32) (f4 : Nat → Int64) (hN : N ≤ 16) (hNh : h = N - 6) (hw : w < 2 ^ N) (hc : c ≤ 400) {Y Z : Nat → Nat} (R : RX N h c Y Z f1 f2 f3 f4) {d a : Nat} (hd : d = h) (ha : a < 2 ^ d) {x : Int64} (O : OP h c Y Z f3 d a x) : Met l yX0_firstBelow wsX0_firstBelow ({ frames := (2 * 0 + 3), cells := 0, slots := 0, locals := (80 * 0 + 100) }) (va_Pc [.ref o, .int (nI d), .int (nI a), .long x] (rX tt (rW (dC, dI) vwCl (xC o a1 a2 a3 a4 c1 c2 c3 c4 (nI N) (nI h) (nI w) (nI y) (nI z) (nI c) f1 f2 f3 f4) (xT c1 c2 c3 c4)))) (vp_Si (fun r => r = rs (fs (PX c Y Z) w (h + 6 - d) a d))) 0 0 (fun _ => False) := by
  refine Met.ofW (cc := cX0_firstBelow) (maxL := 7) (ret := some .int) (by decide) rfl ?_
  intro p e s m args below meth c0 s₁ B hml hv0
  obtain ⟨rfl, ⟨hP, hK⟩, hT⟩ := hv0
  have hx := B.exec
  have hb := B.bytes
  have hr := B.returns
  have hts := atoms_spec (ws := wsX0_firstBelow) B.pre
  have hown : s.vm.findClass RX0 = some m.cls := findClass_of_methodNamed B.named
  have hlocks := B.notSynchronized
  have hP : va_P (dC, dI) vwCl (xC o a1 a2 a3 a4 c1 c2 c3 c4 (nI N) (nI h) (nI w) (nI y) (nI z) (nI c) f1 f2 f3 f4) s.heap := hP
  have hin0 : ∀ w ∈ u_ws RX0 TX0 10, w ∈ wsX0_firstBelow := by decide +kernel
  have hl := lv_entry ([.ref o, .int (nI d), .int (nI a), .long x]) (n := 7) (Nat.le_of_ble_eq_true rfl)
  rw [lg_entry_eq]
  generalize (lg_sl ([.ref o, .int (nI d), .int (nI a), .long x]) ++ List.replicate (7 - (lg_sl ([.ref o, .int (nI d), .int (nI a), .long x])).length) Slot.unset).toArray = ls at hl ⊢
  have hl : lv_has ls 7 [(0, .ref o), (1, .int (nI d)), (2, .int (nI a)), (3, .long x)] := hl
  have hah : a < 2 ^ h := Nat.lt_of_lt_of_le ha (Nat.pow_le_pow_right (by decide) (by omega))
  refine lv_aload_n hx hb dX0_firstBelow_0 rfl (lv_at hl 0 rfl) ?_
  refine lv_iload_n hx hb dX0_firstBelow_1 rfl (lv_at hl 1 rfl) ?_
  refine lv_iload_n hx hb dX0_firstBelow_2 rfl (lv_at hl 2 rfl) ?_
  refine lv_lload_n hx hb dX0_firstBelow_3 rfl (lv_at hl 3 rfl) ?_
  refine vp_callSl (W.runV (As := [.int (nI d), .int (nI a), .long x]) (rest := []) ⟨hx, hb, hml, hown, hts⟩ (c_narrowed l dC dI o a1 a2 a3 a4 c1 c2 c3 c4 N h w y z c f1 f2 f3 f4 R hc (by omega) (by omega) a x) (cwV 3 hts gX0_firstBelow_X0_narrowed rfl rfl rfl (by decide +kernel) ⟨by show 1 + 1 ≤ 2 * 0 + 3; omega, by show 8 + (8 + 11) + 30 ≤ 80 * 0 + 100; omega⟩) (rW_preV hP hK (va_recv (q := (RX0, TX0, 10)) (q0 := 0) hK hP rfl rfl)) rfl rfl hl.1 rfl (lv_room (Nat.le_of_ble_eq_true rfl)) dX0_firstBelow_4 ⟨Nat.le_refl _, Nat.le_refl _⟩) (fun u hr0 => ?_)
  have O2 := OP_next R hah O hr0
  refine lv_lstore hx hb dX0_firstBelow_7 hl (by decide) rfl (fun ls hl => ?_)
  have hl : lv_has ls 7 [(5, .long u), (0, .ref o), (1, .int (nI d)), (2, .int (nI a)), (3, .long x)] := hl
  refine lv_lload hx hb dX0_firstBelow_9 (lv_at hl 0 rfl) ?_
  refine lv_lconst (v := 0) hx hb dX0_firstBelow_11 (by decide) ?_
  refine W.lcmp hx hb dX0_firstBelow_12 ?_
  refine lv_if_ne hx hb dX0_firstBelow_13 (tgt := 19) (by decide) (fun hq => ?_) (fun hq => ?_)
  · refine lv_iload_n hx hb dX0_firstBelow_19 rfl (lv_at hl 2 rfl) ?_
    refine lv_aload_n hx hb dX0_firstBelow_20 rfl (lv_at hl 1 rfl) ?_
    refine va_get (D := (dC, dI)) (ci := 0) (v := .int (nI h)) (C := RX0) (T := TX0) (N := 10) hx hb hts hin0 hown hK hP 0 rfl rfl 1 (by decide) (hts (.fieldLink RX0 22 "ClauseSolver" "heads" "I") (by decide +kernel)) (fun _ h9 => h9) rfl dX0_firstBelow_21 ?_
    refine lv_icmp_lt hx hb dX0_firstBelow_24 (tgt := 41) (by decide) (fun hq => absurd hq (nI_nlt (by omega) (by omega))) (fun _ => ?_)
    refine lv_iload_n hx hb dX0_firstBelow_27 rfl (lv_at hl 3 rfl) ?_
    refine lv_aload_n hx hb dX0_firstBelow_28 rfl (lv_at hl 1 rfl) ?_
    refine lv_lload hx hb dX0_firstBelow_29 (lv_at hl 0 rfl) ?_
    refine vp_callSi (W.runV (As := [.long u]) (rest := [.int (nI a)]) ⟨hx, hb, hml, hown, hts⟩ (c_firstTail l tt dC dI o a1 a2 a3 a4 c1 c2 c3 c4 N h w y z c f1 f2 f3 f4 (by omega) (Nat.lt_of_lt_of_le hw (cs_p16 hN)) (fun z9 => hq (cs_lcmp.mpr z9))) (cwV 1 hts gX0_firstBelow_X0_firstTail rfl rfl rfl (by decide +kernel) ⟨by show 1 + 1 ≤ 2 * 0 + 3; omega, by show 8 + (13 + 11) + 30 ≤ 80 * 0 + 100; omega⟩) (rT_preV hP hK hT (va_recv (q := (RX0, TX0, 10)) (q0 := 0) hK hP rfl rfl)) rfl rfl hl.1 rfl (lv_room (Nat.le_of_ble_eq_true rfl)) dX0_firstBelow_31 ⟨Nat.le_refl _, Nat.le_refl _⟩) (fun r0 hr0 => ?_)
    obtain ⟨τ, rfl, hτ, hfs⟩ := hr0
    have h16 : h + 6 ≤ 16 := by omega
    have hsh : τ * 2 ^ h < 2 ^ 32 := by have h1 : (τ + 1) * 2 ^ h ≤ 64 * 2 ^ h := Nat.mul_le_mul_right _ hτ; rw [Nat.add_mul] at h1; have h2 := cs_p16 (n := h) (by omega); omega
    refine lv_aload_n hx hb dX0_firstBelow_34 rfl (lv_at hl 1 rfl) ?_
    refine va_get (D := (dC, dI)) (ci := 0) (v := .int (nI h)) (C := RX0) (T := TX0) (N := 10) hx hb hts hin0 hown hK hP 0 rfl rfl 1 (by decide) (hts (.fieldLink RX0 22 "ClauseSolver" "heads" "I") (by decide +kernel)) (fun _ h9 => h9) rfl dX0_firstBelow_35 ?_
    refine lv_ishl hx hb dX0_firstBelow_38 ?_
    refine cs_top (y := nI (τ * 2 ^ h)) (cs_shl (by omega) hsh) ?_
    refine lv_ior hx hb dX0_firstBelow_39 ?_
    refine cs_top (y := nI (a ||| (τ * 2 ^ h))) (cs_or a (τ * 2 ^ h)) ?_
    refine cs_top (y := nI (a + τ * 2 ^ h)) (congrArg nI (cs_orhi hah τ)) ?_
    exact W.iret (v := nI (a + τ * 2 ^ h)) hx hb hr (fun t ht hW => ⟨nI (a + τ * 2 ^ h), rfl, by rw [hd] at O2; rw [hd, show h + 6 - h = 6 by omega, OP_leaf (by omega) R O2 hfs]; rfl, ht⟩) (fun q h => by cases h) dX0_firstBelow_40
  · refine lv_bipush (v := (-2)) hx hb dX0_firstBelow_16 (by decide) ?_
    exact W.iret (v := (-2)) hx hb hr (fun t ht hW => ⟨(-2), rfl, by rw [OP_none (by omega) R (by omega) ha (by have z9 := O2; rw [cs_lcmp.mp hq] at z9; exact z9)]; rfl, ht⟩) (fun q h => by cases h) dX0_firstBelow_18
set_option maxHeartbeats 4000000 in
set_option maxRecDepth 100000 in
theorem c_firstBelow_up (l : Launch) (tt : Nat) (dC : Nat → ClassId) (dI : Nat → Nat → Nat) (o a1 a2 a3 a4 : Nat) (c1 c2 c3 c4 : ClassId) (N h w y z c : Nat) (f1 f2 f3 : Nat → Int32) (f4 : Nat → Int64) (hN : N ≤ 16) (hNh : h = N - 6) (hw : w < 2 ^ N) (hc : c ≤ 400) {Y Z : Nat → Nat} (R : RX N h c Y Z f1 f2 f3 f4) (n : Nat) {d a : Nat} (hd : d < h) (ha : a < 2 ^ d) {x : Int64} (O : OP h c Y Z f3 d a x) (hFO : ∀ (x : Int64), OP h c Y Z f3 (d + 1) a x → Met l yX0_firstOfBoth wsX0_firstOfBoth ({ frames := (2 * n + 4), cells := 0, slots := 0, locals := (80 * n + 140) }) (va_Pc [.ref o, .int (nI d), .int (nI a), .long x] (rX tt (rW (dC, dI) vwCl (xC o a1 a2 a3 a4 c1 c2 c3 c4 (nI N) (nI h) (nI w) (nI y) (nI z) (nI c) f1 f2 f3 f4) (xT c1 c2 c3 c4)))) (vp_Si (fun r => r = rs (fs (PX c Y Z) w (h + 6 - d) a d))) 0 0 (fun _ => False)) : Met l yX0_firstBelow wsX0_firstBelow ({ frames := (2 * (n + 1) + 3), cells := 0, slots := 0, locals := (80 * (n + 1) + 100) }) (va_Pc [.ref o, .int (nI d), .int (nI a), .long x] (rX tt (rW (dC, dI) vwCl (xC o a1 a2 a3 a4 c1 c2 c3 c4 (nI N) (nI h) (nI w) (nI y) (nI z) (nI c) f1 f2 f3 f4) (xT c1 c2 c3 c4)))) (vp_Si (fun r => r = rs (fs (PX c Y Z) w (h + 6 - d) a d))) 0 0 (fun _ => False) := by
  refine Met.ofW (cc := cX0_firstBelow) (maxL := 7) (ret := some .int) (by decide) rfl ?_
  intro p e s m args below meth c0 s₁ B hml hv0
  obtain ⟨rfl, ⟨hP, hK⟩, hT⟩ := hv0
  have hx := B.exec
  have hb := B.bytes
  have hr := B.returns
  have hts := atoms_spec (ws := wsX0_firstBelow) B.pre
  have hown : s.vm.findClass RX0 = some m.cls := findClass_of_methodNamed B.named
  have hlocks := B.notSynchronized
  have hP : va_P (dC, dI) vwCl (xC o a1 a2 a3 a4 c1 c2 c3 c4 (nI N) (nI h) (nI w) (nI y) (nI z) (nI c) f1 f2 f3 f4) s.heap := hP
  have hin0 : ∀ w ∈ u_ws RX0 TX0 10, w ∈ wsX0_firstBelow := by decide +kernel
  have hl := lv_entry ([.ref o, .int (nI d), .int (nI a), .long x]) (n := 7) (Nat.le_of_ble_eq_true rfl)
  rw [lg_entry_eq]
  generalize (lg_sl ([.ref o, .int (nI d), .int (nI a), .long x]) ++ List.replicate (7 - (lg_sl ([.ref o, .int (nI d), .int (nI a), .long x])).length) Slot.unset).toArray = ls at hl ⊢
  have hl : lv_has ls 7 [(0, .ref o), (1, .int (nI d)), (2, .int (nI a)), (3, .long x)] := hl
  have hah : a < 2 ^ h := Nat.lt_of_lt_of_le ha (Nat.pow_le_pow_right (by decide) (by omega))
  refine lv_aload_n hx hb dX0_firstBelow_0 rfl (lv_at hl 0 rfl) ?_
  refine lv_iload_n hx hb dX0_firstBelow_1 rfl (lv_at hl 1 rfl) ?_
  refine lv_iload_n hx hb dX0_firstBelow_2 rfl (lv_at hl 2 rfl) ?_
  refine lv_lload_n hx hb dX0_firstBelow_3 rfl (lv_at hl 3 rfl) ?_
  refine vp_callSl (W.runV (As := [.int (nI d), .int (nI a), .long x]) (rest := []) ⟨hx, hb, hml, hown, hts⟩ (c_narrowed l dC dI o a1 a2 a3 a4 c1 c2 c3 c4 N h w y z c f1 f2 f3 f4 R hc (by omega) (by omega) a x) (cwV 3 hts gX0_firstBelow_X0_narrowed rfl rfl rfl (by decide +kernel) ⟨by show 1 + 1 ≤ 2 * (n + 1) + 3; omega, by show 8 + (8 + 11) + 30 ≤ 80 * (n + 1) + 100; omega⟩) (rW_preV hP hK (va_recv (q := (RX0, TX0, 10)) (q0 := 0) hK hP rfl rfl)) rfl rfl hl.1 rfl (lv_room (Nat.le_of_ble_eq_true rfl)) dX0_firstBelow_4 ⟨Nat.le_refl _, Nat.le_refl _⟩) (fun u hr0 => ?_)
  have O2 := OP_next R hah O hr0
  refine lv_lstore hx hb dX0_firstBelow_7 hl (by decide) rfl (fun ls hl => ?_)
  have hl : lv_has ls 7 [(5, .long u), (0, .ref o), (1, .int (nI d)), (2, .int (nI a)), (3, .long x)] := hl
  refine lv_lload hx hb dX0_firstBelow_9 (lv_at hl 0 rfl) ?_
  refine lv_lconst (v := 0) hx hb dX0_firstBelow_11 (by decide) ?_
  refine W.lcmp hx hb dX0_firstBelow_12 ?_
  refine lv_if_ne hx hb dX0_firstBelow_13 (tgt := 19) (by decide) (fun hq => ?_) (fun hq => ?_)
  · refine lv_iload_n hx hb dX0_firstBelow_19 rfl (lv_at hl 2 rfl) ?_
    refine lv_aload_n hx hb dX0_firstBelow_20 rfl (lv_at hl 1 rfl) ?_
    refine va_get (D := (dC, dI)) (ci := 0) (v := .int (nI h)) (C := RX0) (T := TX0) (N := 10) hx hb hts hin0 hown hK hP 0 rfl rfl 1 (by decide) (hts (.fieldLink RX0 22 "ClauseSolver" "heads" "I") (by decide +kernel)) (fun _ h9 => h9) rfl dX0_firstBelow_21 ?_
    refine lv_icmp_lt hx hb dX0_firstBelow_24 (tgt := 41) (by decide) (fun _ => ?_) (fun hq => absurd (nI_lt hd (by omega)) hq)
    refine lv_aload_n hx hb dX0_firstBelow_41 rfl (lv_at hl 1 rfl) ?_
    refine lv_iload_n hx hb dX0_firstBelow_42 rfl (lv_at hl 2 rfl) ?_
    refine lv_iload_n hx hb dX0_firstBelow_43 rfl (lv_at hl 3 rfl) ?_
    refine lv_lload hx hb dX0_firstBelow_44 (lv_at hl 0 rfl) ?_
    refine vp_callSi (W.runV (As := [.int (nI d), .int (nI a), .long u]) (rest := []) ⟨hx, hb, hml, hown, hts⟩ (hFO u O2) (cwV 3 hts gX0_firstBelow_X0_firstOfBoth rfl rfl rfl (by decide +kernel) ⟨by show 2 * n + 4 + 1 ≤ 2 * (n + 1) + 3; omega, by show 8 + (8 + 11) + (80 * n + 140) ≤ 80 * (n + 1) + 100; omega⟩) (rT_preV hP hK hT (va_recv (q := (RX0, TX0, 10)) (q0 := 0) hK hP rfl rfl)) rfl rfl hl.1 rfl (lv_room (Nat.le_of_ble_eq_true rfl)) dX0_firstBelow_46 ⟨Nat.le_refl _, Nat.le_refl _⟩) (fun r0 hr0 => ?_)
    subst hr0
    exact W.iret (v := rs (fs (PX c Y Z) w (h + 6 - d) a d)) hx hb hr (fun t ht hW => ⟨rs (fs (PX c Y Z) w (h + 6 - d) a d), rfl, rfl, ht⟩) (fun q h => by cases h) dX0_firstBelow_49
  · refine lv_bipush (v := (-2)) hx hb dX0_firstBelow_16 (by decide) ?_
    exact W.iret (v := (-2)) hx hb hr (fun t ht hW => ⟨(-2), rfl, by rw [OP_none (by omega) R (by omega) ha (by have z9 := O2; rw [cs_lcmp.mp hq] at z9; exact z9)]; rfl, ht⟩) (fun q h => by cases h) dX0_firstBelow_18
set_option maxHeartbeats 4000000 in
/-- the search of the class -/
theorem c_firstBelow (l : Launch) (tt : Nat) (dC : Nat → ClassId) (dI : Nat → Nat → Nat) (o a1 a2 a3 a4 : Nat) (c1 c2 c3 c4 : ClassId) (N h w y z c : Nat) (f1 f2 f3 : Nat → Int32) (f4 : Nat → Int64) (hN : N ≤ 16) (hNh : h = N - 6) (hw : w < 2 ^ N) (hc : c ≤ 400) {Y Z : Nat → Nat} (R : RX N h c Y Z f1 f2 f3 f4) : ∀ (n : Nat) (d a : Nat) (x : Int64), d + n = h → a < 2 ^ d → OP h c Y Z f3 d a x → Met l yX0_firstBelow wsX0_firstBelow ({ frames := (2 * n + 3), cells := 0, slots := 0, locals := (80 * n + 100) }) (va_Pc [.ref o, .int (nI d), .int (nI a), .long x] (rX tt (rW (dC, dI) vwCl (xC o a1 a2 a3 a4 c1 c2 c3 c4 (nI N) (nI h) (nI w) (nI y) (nI z) (nI c) f1 f2 f3 f4) (xT c1 c2 c3 c4)))) (vp_Si (fun r => r = rs (fs (PX c Y Z) w (h + 6 - d) a d))) 0 0 (fun _ => False) := by
  intro n
  induction n with
  | zero => exact fun d a x hd ha O => c_firstBelow_leaf l tt dC dI o a1 a2 a3 a4 c1 c2 c3 c4 N h w y z c f1 f2 f3 f4 hN hNh hw hc R (by omega) ha O
  | succ n ih =>
    exact fun d a x hd ha O => c_firstBelow_up l tt dC dI o a1 a2 a3 a4 c1 c2 c3 c4 N h w y z c f1 f2 f3 f4 hN hNh hw hc R n (by omega) ha O (fun x O2 => c_firstOfBoth l tt dC dI o a1 a2 a3 a4 c1 c2 c3 c4 N h w y z c f1 f2 f3 f4 hN hNh hw hc R n (by omega) ha O2 (fun a2 x2 h2 O3 => ih (d + 1) a2 x2 (by omega) h2 O3))
set_option maxHeartbeats 4000000 in
set_option maxRecDepth 100000 in
theorem c_firstAnswer (l : Launch) (tt : Nat) (dC : Nat → ClassId) (dI : Nat → Nat → Nat) (o a1 a2 a3 a4 : Nat) (c1 c2 c3 c4 : ClassId) (N h w y z c : Nat) (f1 f2 f3 : Nat → Int32) (f4 : Nat → Int64) (hN : N ≤ 16) (hNh : h = N - 6) (hw : w < 2 ^ N) (hc : c ≤ 400) {Y Z : Nat → Nat} (R : RX N h c Y Z f1 f2 f3 f4) : Met l yX0_firstAnswer wsX0_firstAnswer ({ frames := 24, cells := 0, slots := 0, locals := 930 }) (va_Pc [.ref o] (rX tt (rW (dC, dI) vwCl (xC o a1 a2 a3 a4 c1 c2 c3 c4 (nI N) (nI h) (nI w) (nI y) (nI z) (nI c) f1 f2 f3 f4) (xT c1 c2 c3 c4)))) (vp_Si (fun r => r = rs (fs (PX c Y Z) w (h + 6) 0 0))) 0 0 (fun _ => False) := by
  refine Met.ofW (cc := cX0_firstAnswer) (maxL := 1) (ret := some .int) (by decide) rfl ?_
  intro p e s m args below meth c0 s₁ B hml hv0
  obtain ⟨rfl, ⟨hP, hK⟩, hT⟩ := hv0
  have hx := B.exec
  have hb := B.bytes
  have hr := B.returns
  have hts := atoms_spec (ws := wsX0_firstAnswer) B.pre
  have hown : s.vm.findClass RX0 = some m.cls := findClass_of_methodNamed B.named
  have hlocks := B.notSynchronized
  have hP : va_P (dC, dI) vwCl (xC o a1 a2 a3 a4 c1 c2 c3 c4 (nI N) (nI h) (nI w) (nI y) (nI z) (nI c) f1 f2 f3 f4) s.heap := hP
  have hin0 : ∀ w ∈ u_ws RX0 TX0 10, w ∈ wsX0_firstAnswer := by decide +kernel
  have hl := lv_entry ([.ref o]) (n := 1) (Nat.le_of_ble_eq_true rfl)
  rw [lg_entry_eq]
  generalize (lg_sl ([.ref o]) ++ List.replicate (1 - (lg_sl ([.ref o])).length) Slot.unset).toArray = ls at hl ⊢
  have hl : lv_has ls 1 [(0, .ref o)] := hl
  refine lv_aload_n hx hb dX0_firstAnswer_0 rfl (lv_at hl 0 rfl) ?_
  refine lv_iconst (v := nI 0) hx hb dX0_firstAnswer_1 (by decide) ?_
  refine lv_iconst (v := nI 0) hx hb dX0_firstAnswer_2 (by decide) ?_
  refine lv_ldc2 (v := -1) hx hb hown (hts (.constantLong RX0 88 (-1)) (by decide +kernel)) dX0_firstAnswer_3 ?_
  refine vp_callSi (W.runV (As := [.int (nI 0), .int (nI 0), .long (-1)]) (rest := []) ⟨hx, hb, hml, hown, hts⟩ (c_firstBelow l tt dC dI o a1 a2 a3 a4 c1 c2 c3 c4 N h w y z c f1 f2 f3 f4 hN hNh hw hc R h 0 0 (-1) (by omega) (by decide) OP_0) (cwV 3 hts gX0_firstAnswer_X0_firstBelow rfl rfl rfl (by decide +kernel) ⟨by show 2 * h + 3 + 1 ≤ 24; omega, by show 8 + (7 + 11) + (80 * h + 100) ≤ 930; omega⟩) (rT_preV hP hK hT (va_recv (q := (RX0, TX0, 10)) (q0 := 0) hK hP rfl rfl)) rfl rfl hl.1 rfl (lv_room (Nat.le_of_ble_eq_true rfl)) dX0_firstAnswer_6 ⟨Nat.le_refl _, Nat.le_refl _⟩) (fun r0 hr0 => ?_)
  subst hr0
  exact W.iret (v := rs (fs (PX c Y Z) w (h + 6) 0 0)) hx hb hr (fun t ht hW => ⟨rs (fs (PX c Y Z) w (h + 6) 0 0), rfl, rfl, ht⟩) (fun q h => by cases h) dX0_firstAnswer_9
set_option maxHeartbeats 4000000 in
set_option maxRecDepth 100000 in
theorem c_answer (l : Launch) (tt : Nat) (dC : Nat → ClassId) (dI : Nat → Nat → Nat) (o a1 a2 a3 a4 : Nat) (c1 c2 c3 c4 : ClassId) (N h w y z c : Nat) (f1 f2 f3 : Nat → Int32) (f4 : Nat → Int64) (hN : N ≤ 16) (hNh : h = N - 6) (hw : w < 2 ^ N) (hc : c ≤ 400) {Y Z : Nat → Nat} (R : RX N h c Y Z f1 f2 f3 f4) : Met l yX0_answer wsX0_answer ({ frames := 25, cells := 0, slots := 0, locals := 960 }) (va_Pc [.ref o] (rX tt (rW (dC, dI) vwCl (xC o a1 a2 a3 a4 c1 c2 c3 c4 (nI N) (nI h) (nI w) (nI y) (nI z) (nI c) f1 f2 f3 f4) (xT c1 c2 c3 c4)))) (vp_Si (fun r => r = rs (fs (PX c Y Z) w (h + 6) 0 0))) 0 0 (fun _ => False) := by
  refine Met.ofW (cc := cX0_answer) (maxL := 1) (ret := some .int) (by decide) rfl ?_
  intro p e s m args below meth c0 s₁ B hml hv0
  obtain ⟨rfl, ⟨hP, hK⟩, hT⟩ := hv0
  have hx := B.exec
  have hb := B.bytes
  have hr := B.returns
  have hts := atoms_spec (ws := wsX0_answer) B.pre
  have hown : s.vm.findClass RX0 = some m.cls := findClass_of_methodNamed B.named
  have hlocks := B.notSynchronized
  have hP : va_P (dC, dI) vwCl (xC o a1 a2 a3 a4 c1 c2 c3 c4 (nI N) (nI h) (nI w) (nI y) (nI z) (nI c) f1 f2 f3 f4) s.heap := hP
  have hin0 : ∀ w ∈ u_ws RX0 TX0 10, w ∈ wsX0_answer := by decide +kernel
  have hl := lv_entry ([.ref o]) (n := 1) (Nat.le_of_ble_eq_true rfl)
  rw [lg_entry_eq]
  generalize (lg_sl ([.ref o]) ++ List.replicate (1 - (lg_sl ([.ref o])).length) Slot.unset).toArray = ls at hl ⊢
  have hl : lv_has ls 1 [(0, .ref o)] := hl
  refine lv_aload_n hx hb dX0_answer_0 rfl (lv_at hl 0 rfl) ?_
  refine vp_callSi (W.runV (As := []) (rest := []) ⟨hx, hb, hml, hown, hts⟩ (c_firstAnswer l tt dC dI o a1 a2 a3 a4 c1 c2 c3 c4 N h w y z c f1 f2 f3 f4 hN hNh hw hc R) (cwV 0 hts gX0_answer_X0_firstAnswer rfl rfl rfl (by decide +kernel) ⟨Nat.le_of_ble_eq_true rfl, Nat.le_of_ble_eq_true rfl⟩) (rT_preV hP hK hT (va_recv (q := (RX0, TX0, 10)) (q0 := 0) hK hP rfl rfl)) rfl rfl hl.1 rfl (lv_room (Nat.le_of_ble_eq_true rfl)) dX0_answer_1 ⟨Nat.le_refl _, Nat.le_refl _⟩) (fun r0 hr0 => ?_)
  subst hr0
  exact W.iret (v := rs (fs (PX c Y Z) w (h + 6) 0 0)) hx hb hr (fun t ht hW => ⟨rs (fs (PX c Y Z) w (h + 6) 0 0), rfl, rfl, ht⟩) (fun q h => by cases h) dX0_answer_4
set_option maxHeartbeats 4000000 in
set_option maxRecDepth 100000 in
theorem c_solve (l : Launch) (tt : Nat) (dC : Nat → ClassId) (dI : Nat → Nat → Nat) (o a1 a2 a3 a4 : Nat) (c1 c2 c3 c4 : ClassId) (N h w y z c : Nat) (f1 f2 f3 : Nat → Int32) (f4 : Nat → Int64) (hN : N ≤ 16) (hNh : h = N - 6) (hw : w < 2 ^ N) (hc : c ≤ 400) {Y Z : Nat → Nat} (R : RX N h c Y Z f1 f2 f3 f4) : Met l yX0_solve wsX0_solve ({ frames := 25, cells := 0, slots := 0, locals := 960 }) (va_Pc [.ref o] (rX tt (rW (dC, dI) vwCl (xC o a1 a2 a3 a4 c1 c2 c3 c4 (nI N) (nI h) (nI w) (nI y) (nI z) (nI c) f1 f2 f3 f4) (xT c1 c2 c3 c4)))) (vp_Si (fun r => (r = nI 0 ∧ rs (fs (PX c Y Z) w (h + 6) 0 0) = -2) ∨ (r = nI 1 ∧ ¬ rs (fs (PX c Y Z) w (h + 6) 0 0) = -2))) 0 0 (fun _ => False) := by
  refine Met.ofW (cc := cX0_solve) (maxL := 1) (ret := some .boolean) (by decide) rfl ?_
  intro p e s m args below meth c0 s₁ B hml hv0
  obtain ⟨rfl, ⟨hP, hK⟩, hT⟩ := hv0
  have hx := B.exec
  have hb := B.bytes
  have hr := B.returns
  have hts := atoms_spec (ws := wsX0_solve) B.pre
  have hown : s.vm.findClass RX0 = some m.cls := findClass_of_methodNamed B.named
  have hlocks := B.notSynchronized
  have hP : va_P (dC, dI) vwCl (xC o a1 a2 a3 a4 c1 c2 c3 c4 (nI N) (nI h) (nI w) (nI y) (nI z) (nI c) f1 f2 f3 f4) s.heap := hP
  have hin0 : ∀ w ∈ u_ws RX0 TX0 10, w ∈ wsX0_solve := by decide +kernel
  have hl := lv_entry ([.ref o]) (n := 1) (Nat.le_of_ble_eq_true rfl)
  rw [lg_entry_eq]
  generalize (lg_sl ([.ref o]) ++ List.replicate (1 - (lg_sl ([.ref o])).length) Slot.unset).toArray = ls at hl ⊢
  have hl : lv_has ls 1 [(0, .ref o)] := hl
  refine lv_aload_n hx hb dX0_solve_0 rfl (lv_at hl 0 rfl) ?_
  refine vp_callSi (W.runV (As := []) (rest := []) ⟨hx, hb, hml, hown, hts⟩ (c_firstAnswer l tt dC dI o a1 a2 a3 a4 c1 c2 c3 c4 N h w y z c f1 f2 f3 f4 hN hNh hw hc R) (cwV 0 hts gX0_solve_X0_firstAnswer rfl rfl rfl (by decide +kernel) ⟨Nat.le_of_ble_eq_true rfl, Nat.le_of_ble_eq_true rfl⟩) (rT_preV hP hK hT (va_recv (q := (RX0, TX0, 10)) (q0 := 0) hK hP rfl rfl)) rfl rfl hl.1 rfl (lv_room (Nat.le_of_ble_eq_true rfl)) dX0_solve_1 ⟨Nat.le_refl _, Nat.le_refl _⟩) (fun r0 hr0 => ?_)
  subst hr0
  refine lv_bipush (v := (-2)) hx hb dX0_solve_4 (by decide) ?_
  refine lv_icmp_eq hx hb dX0_solve_6 (tgt := 13) (by decide) (fun hq => ?_) (fun hq => ?_)
  · refine lv_iconst (v := nI 0) hx hb dX0_solve_13 (by decide) ?_
    exact W.zret (ty := .boolean) (v := nI 0) hx hb hr (by first | rfl | decide) (fun t ht hW => ⟨nI 0, rfl, Or.inl ⟨rfl, hq⟩, ht⟩) (fun q h => by cases h) dX0_solve_14
  · refine lv_iconst (v := nI 1) hx hb dX0_solve_9 (by decide) ?_
    refine lv_goto hx hb dX0_solve_10 (tgt := 14) (by decide) ?_
    exact W.zret (ty := .boolean) (v := nI 1) hx hb hr (by first | rfl | decide) (fun t ht hW => ⟨nI 1, rfl, Or.inr ⟨rfl, hq⟩, ht⟩) (fun q h => by cases h) dX0_solve_14
end
section
theorem nI_m3 {n : Nat} (h : n < 2 ^ 31) : ¬ nI n = -3 := by
  intro e
  have h1 := congrArg Int32.toInt e
  rw [nI_toInt h, show (-3 : Int32).toInt = -3 by decide] at h1
  omega
theorem cs_div64 {y N h : Nat} (hy : y < 2 ^ N) (hNh : h = N - 6) : y / 2 ^ h < 64 := by
  rw [Nat.div_lt_iff_lt_mul (Nat.two_pow_pos _), show (64 : Nat) = 2 ^ 6 from rfl, ← Nat.pow_add]
  exact Nat.lt_of_lt_of_le hy (Nat.pow_le_pow_right (by decide) (by omega))
theorem dep_split {y z h δ : Nat} (H : ∀ i, δ ≤ i → i < h → ((y ||| z) % 2 ^ h).testBit i = false) : ∀ i, δ ≤ i → i < h → y.testBit i = false ∧ z.testBit i = false := by
  intro i h1 h2
  have h3 := H i h1 h2
  rw [Nat.testBit_mod_two_pow, decide_eq_true h2, Bool.true_and, Nat.testBit_or, Bool.or_eq_false_iff] at h3
  exact h3
theorem cs_N31 {y N : Nat} (hN : N ≤ 16) (hy : y < 2 ^ N) : y < 65536 := Nat.lt_of_lt_of_le hy (cs_p16 hN)
/-- what a literal leaves -/
def lt1 (y j : Nat) : Bool → Nat
  | true => y ||| 2 ^ j
  | false => y
def lt0 (z j : Nat) : Bool → Nat
  | true => z
  | false => z ||| 2 ^ j
theorem lt1_lt {y j N : Nat} (hy : y < 2 ^ N) (hj : j < N) (b : Bool) : lt1 y j b < 2 ^ N := by
  cases b with
  | true => exact Nat.or_lt_two_pow hy (Nat.pow_lt_pow_right (by decide) hj)
  | false => exact hy
theorem lt0_lt {z j N : Nat} (hz : z < 2 ^ N) (hj : j < N) (b : Bool) : lt0 z j b < 2 ^ N := by
  cases b with
  | true => exact hz
  | false => exact Nat.or_lt_two_pow hz (Nat.pow_lt_pow_right (by decide) hj)
/-- the low bits of any int -/
def lo (x : Int32) (N : Nat) : Nat := x.toBitVec.toNat % 2 ^ N
theorem lo_lt (x : Int32) (N : Nat) : lo x N < 2 ^ N := Nat.mod_lt _ (Nat.two_pow_pos N)
set_option maxHeartbeats 4000000 in
set_option maxRecDepth 100000 in
theorem c_append_full (l : Launch) (dC : Nat → ClassId) (dI : Nat → Nat → Nat) (o a1 a2 a3 a4 : Nat) (c1 c2 c3 c4 : ClassId) (N h w y z c : Nat) (f1 f2 f3 : Nat → Int32) (f4 : Nat → Int64) (hc : c = 400) (x1 x2 : Int32) : Met l yX0_append wsX0_append ({ frames := 0, cells := 0, slots := 0, locals := 0 }) (va_Pc [.ref o, .int x1, .int x2] (rW (dC, dI) vwCl (xC o a1 a2 a3 a4 c1 c2 c3 c4 (nI N) (nI h) (nI w) (nI y) (nI z) (nI c) f1 f2 f3 f4) (xT c1 c2 c3 c4))) (vp_Si (fun r => r = -3)) 0 0 (fun _ => False) := by
  refine Met.ofW (cc := cX0_append) (maxL := 4) (ret := some .int) (by decide) rfl ?_
  intro p e s m args below meth c0 s₁ B hml hv0
  obtain ⟨rfl, hP, hK⟩ := hv0
  have hx := B.exec
  have hb := B.bytes
  have hr := B.returns
  have hts := atoms_spec (ws := wsX0_append) B.pre
  have hown : s.vm.findClass RX0 = some m.cls := findClass_of_methodNamed B.named
  have hlocks := B.notSynchronized
  have hP : va_P (dC, dI) vwCl (xC o a1 a2 a3 a4 c1 c2 c3 c4 (nI N) (nI h) (nI w) (nI y) (nI z) (nI c) f1 f2 f3 f4) s.heap := hP
  have hin0 : ∀ w ∈ u_ws RX0 TX0 10, w ∈ wsX0_append := by decide +kernel
  have hl := lv_entry ([.ref o, .int x1, .int x2]) (n := 4) (Nat.le_of_ble_eq_true rfl)
  rw [lg_entry_eq]
  generalize (lg_sl ([.ref o, .int x1, .int x2]) ++ List.replicate (4 - (lg_sl ([.ref o, .int x1, .int x2])).length) Slot.unset).toArray = ls at hl ⊢
  have hl : lv_has ls 4 [(0, .ref o), (1, .int x1), (2, .int x2)] := hl
  refine lv_aload_n hx hb dX0_append_0 rfl (lv_at hl 0 rfl) ?_
  refine va_get (D := (dC, dI)) (ci := 0) (v := .int (nI c)) (C := RX0) (T := TX0) (N := 10) hx hb hts hin0 hown hK hP 0 rfl rfl 5 (by decide) (hts (.fieldLink RX0 67 "ClauseSolver" "clauses" "I") (by decide +kernel)) (fun _ h9 => h9) rfl dX0_append_1 ?_
  refine lv_sipush (v := nI 400) hx hb dX0_append_4 (by decide) ?_
  refine lv_icmp_lt hx hb dX0_append_7 (tgt := 13) (by decide) (fun hq => absurd hq (nI_nlt (by omega) (by omega))) (fun _ => ?_)
  refine lv_bipush (v := (-3)) hx hb dX0_append_10 (by decide) ?_
  exact W.iret (v := (-3)) hx hb hr (fun t ht hW => ⟨(-3), rfl, rfl, ht⟩) (fun q h => by cases h) dX0_append_12
set_option maxHeartbeats 4000000 in
set_option maxRecDepth 100000 in
theorem c_append (l : Launch) (tt sz : Nat) (dC : Nat → ClassId) (dI : Nat → Nat → Nat) (o a1 a2 a3 a4 : Nat) (c1 c2 c3 c4 : ClassId) (N h w y z c : Nat) (f1 f2 f3 : Nat → Int32) (f4 : Nat → Int64) (hN : N ≤ 16) (hNh : h = N - 6) (hc : c < 400) {yy zz : Nat} (hyy : yy < 2 ^ N) (hzz : zz < 2 ^ N) : Met l yX0_append wsX0_append ({ frames := 2, cells := 0, slots := 0, locals := 70 }) (va_Pc [.ref o, .int (nI yy), .int (nI zz)] (wX tt (xC o a1 a2 a3 a4 c1 c2 c3 c4 (nI N) (nI h) (nI w) (nI y) (nI z) (nI c) f1 f2 f3 f4) sz (wW (dC, dI) vwCl (xC o a1 a2 a3 a4 c1 c2 c3 c4 (nI N) (nI h) (nI w) (nI y) (nI z) (nI c) f1 f2 f3 f4) (xT c1 c2 c3 c4) sz))) (va_Qi (fun (r : Int32) (u : Nat × Int64) => r = nI (c + 1) ∧ u.1 ≤ h ∧ (∀ i, u.1 ≤ i → i < h → (yy).testBit i = false ∧ (zz).testBit i = false) ∧ ∀ t, t < 64 → (lb u.2 t = true ↔ Mt (yy >>> h) (zz >>> h) t)) (oW (dC, dI) vwCl (xC o a1 a2 a3 a4 c1 c2 c3 c4 (nI N) (nI h) (nI w) (nI y) (nI z) (nI c) f1 f2 f3 f4) sz (fun u : Nat × Int64 => (xC o a1 a2 a3 a4 c1 c2 c3 c4 (nI N) (nI h) (nI w) (nI y) (nI z) (nI (c + 1)) (upd f1 c (nI (yy % 2 ^ h))) (upd f2 c (nI (zz % 2 ^ h))) (upd f3 c (nI u.1)) (vp_updL f4 c u.2)))) (va_A (xC o a1 a2 a3 a4 c1 c2 c3 c4 (nI N) (nI h) (nI w) (nI y) (nI z) (nI c) f1 f2 f3 f4) sz)) 0 0 (va_A (xC o a1 a2 a3 a4 c1 c2 c3 c4 (nI N) (nI h) (nI w) (nI y) (nI z) (nI c) f1 f2 f3 f4) sz) := by
  refine Met.ofW (cc := cX0_append) (maxL := 4) (ret := some .int) (by decide) rfl ?_
  intro p e s m args below meth c0 s₁ B hml hv0
  obtain ⟨rfl, ⟨hsz, hP, hK, hD0⟩, hT⟩ := hv0
  have hx := B.exec
  have hb := B.bytes
  have hr := B.returns
  have hts := atoms_spec (ws := wsX0_append) B.pre
  have hown : s.vm.findClass RX0 = some m.cls := findClass_of_methodNamed B.named
  have hlocks := B.notSynchronized
  subst hsz
  have hD := hD0.self (sz := s.heap.size)
  generalize hAe : va_A (xC o a1 a2 a3 a4 c1 c2 c3 c4 (nI N) (nI h) (nI w) (nI y) (nI z) (nI c) f1 f2 f3 f4) s.heap.size = A at hD hT ⊢
  have hA : ∀ q : Nat, s.heap.size ≤ q → A q := fun q h => by rw [← hAe]; exact Or.inr h
  have hS : va_S A s.heap s.heap [] := va_S.rf
  have hP : va_P (dC, dI) vwCl (xC o a1 a2 a3 a4 c1 c2 c3 c4 (nI N) (nI h) (nI w) (nI y) (nI z) (nI c) f1 f2 f3 f4) s.heap := hP
  have hin0 : ∀ w ∈ u_ws RX0 TX0 10, w ∈ wsX0_append := by decide +kernel
  have hl := lv_entry ([.ref o, .int (nI yy), .int (nI zz)]) (n := 4) (Nat.le_of_ble_eq_true rfl)
  rw [lg_entry_eq]
  generalize (lg_sl ([.ref o, .int (nI yy), .int (nI zz)]) ++ List.replicate (4 - (lg_sl ([.ref o, .int (nI yy), .int (nI zz)])).length) Slot.unset).toArray = ls at hl ⊢
  have hl : lv_has ls 4 [(0, .ref o), (1, .int (nI yy)), (2, .int (nI zz))] := hl
  have hy5 := cs_N31 hN hyy
  have hz5 := cs_N31 hN hzz
  refine lv_aload_n hx hb dX0_append_0 rfl (lv_at hl 0 rfl) ?_
  refine va_get (D := (dC, dI)) (ci := 0) (v := .int (nI c)) (C := RX0) (T := TX0) (N := 10) hx hb hts hin0 hown hK hP 0 rfl rfl 5 (by decide) (hts (.fieldLink RX0 67 "ClauseSolver" "clauses" "I") (by decide +kernel)) (fun _ h9 => h9) rfl dX0_append_1 ?_
  refine lv_sipush (v := nI 400) hx hb dX0_append_4 (by decide) ?_
  refine lv_icmp_lt hx hb dX0_append_7 (tgt := 13) (by decide) (fun _ => ?_) (fun hq => absurd (nI_lt hc (by decide)) hq)
  refine lv_aload_n hx hb dX0_append_13 rfl (lv_at hl 0 rfl) ?_
  refine va_get (D := (dC, dI)) (ci := 0) (v := .int (nI h)) (C := RX0) (T := TX0) (N := 10) hx hb hts hin0 hown hK hP 0 rfl rfl 1 (by decide) (hts (.fieldLink RX0 22 "ClauseSolver" "heads" "I") (by decide +kernel)) (fun _ h9 => h9) rfl dX0_append_14 ?_
  refine vp_callSi (W.runS (As := [.int (nI h)]) (rest := []) ⟨hx, hb, hml, hown, hts⟩ (c_lowBits l (by omega)) (va_cwS 1 hts gX0_append_X0_lowBits rfl rfl rfl (by decide +kernel) ⟨Nat.le_of_ble_eq_true rfl, Nat.le_of_ble_eq_true rfl⟩) (nW_preS) rfl rfl hl.1 rfl (lv_room (Nat.le_of_ble_eq_true rfl)) dX0_append_17 ⟨Nat.le_refl _, Nat.le_refl _⟩) (fun r0 hr0 => ?_)
  subst hr0
  refine lv_istore_n hx hb dX0_append_20 rfl hl (by decide) rfl (fun ls hl => ?_)
  have hl : lv_has ls 4 [(3, .int (nI (2 ^ h - 1))), (0, .ref o), (1, .int (nI yy)), (2, .int (nI zz))] := hl
  refine lv_aload_n hx hb dX0_append_21 rfl (lv_at hl 1 rfl) ?_
  refine va_get (D := (dC, dI)) (ci := 0) (v := .ref a1) (C := RX0) (T := TX0) (N := 10) hx hb hts hin0 hown hK hP 0 rfl rfl 6 (by decide) (hts (.fieldLink RX0 25 "ClauseSolver" "headTrue" "[I") (by decide +kernel)) (fun _ h9 => h9) rfl dX0_append_22 ?_
  refine lv_aload_n hx hb dX0_append_25 rfl (lv_at hl 1 rfl) ?_
  refine va_get (D := (dC, dI)) (ci := 0) (v := .int (nI c)) (C := RX0) (T := TX0) (N := 10) hx hb hts hin0 hown hK hP 0 rfl rfl 5 (by decide) (hts (.fieldLink RX0 67 "ClauseSolver" "clauses" "I") (by decide +kernel)) (fun _ h9 => h9) rfl dX0_append_26 ?_
  refine lv_iload_n hx hb dX0_append_29 rfl (lv_at hl 2 rfl) ?_
  refine lv_iload_n hx hb dX0_append_30 rfl (lv_at hl 0 rfl) ?_
  refine lv_iand hx hb dX0_append_31 ?_
  refine cs_top (y := nI (yy &&& (2 ^ h - 1))) (cs_and yy (2 ^ h - 1)) ?_
  refine cs_top (y := nI (yy % 2 ^ h)) (congrArg nI (Nat.and_two_pow_sub_one_eq_mod yy h)) ?_
  refine cs_iast hx hb hK hP hD hS 1 0 rfl rfl (hc) (by decide) dX0_append_32 (fun H locs hP hD hS => ?_)
  have hP : va_P (dC, dI) vwCl (xC o a1 a2 a3 a4 c1 c2 c3 c4 (nI N) (nI h) (nI w) (nI y) (nI z) (nI c) (upd f1 c (nI (yy % 2 ^ h))) f2 f3 f4) H := hP
  have hD : va_D A (xC o a1 a2 a3 a4 c1 c2 c3 c4 (nI N) (nI h) (nI w) (nI y) (nI z) (nI c) (upd f1 c (nI (yy % 2 ^ h))) f2 f3 f4) := hD
  refine lv_aload_n hx hb dX0_append_33 rfl (lv_at hl 1 rfl) ?_
  refine va_get (D := (dC, dI)) (ci := 0) (v := .ref a2) (C := RX0) (T := TX0) (N := 10) hx hb hts hin0 hown hK hP 0 rfl rfl 7 (by decide) (hts (.fieldLink RX0 29 "ClauseSolver" "headFalse" "[I") (by decide +kernel)) (fun _ h9 => h9) rfl dX0_append_34 ?_
  refine lv_aload_n hx hb dX0_append_37 rfl (lv_at hl 1 rfl) ?_
  refine va_get (D := (dC, dI)) (ci := 0) (v := .int (nI c)) (C := RX0) (T := TX0) (N := 10) hx hb hts hin0 hown hK hP 0 rfl rfl 5 (by decide) (hts (.fieldLink RX0 67 "ClauseSolver" "clauses" "I") (by decide +kernel)) (fun _ h9 => h9) rfl dX0_append_38 ?_
  refine lv_iload_n hx hb dX0_append_41 rfl (lv_at hl 3 rfl) ?_
  refine lv_iload_n hx hb dX0_append_42 rfl (lv_at hl 0 rfl) ?_
  refine lv_iand hx hb dX0_append_43 ?_
  refine cs_top (y := nI (zz &&& (2 ^ h - 1))) (cs_and zz (2 ^ h - 1)) ?_
  refine cs_top (y := nI (zz % 2 ^ h)) (congrArg nI (Nat.and_two_pow_sub_one_eq_mod zz h)) ?_
  refine cs_iast hx hb hK hP hD hS 2 1 rfl rfl (hc) (by decide) dX0_append_44 (fun H locs hP hD hS => ?_)
  have hP : va_P (dC, dI) vwCl (xC o a1 a2 a3 a4 c1 c2 c3 c4 (nI N) (nI h) (nI w) (nI y) (nI z) (nI c) (upd f1 c (nI (yy % 2 ^ h))) (upd f2 c (nI (zz % 2 ^ h))) f3 f4) H := hP
  have hD : va_D A (xC o a1 a2 a3 a4 c1 c2 c3 c4 (nI N) (nI h) (nI w) (nI y) (nI z) (nI c) (upd f1 c (nI (yy % 2 ^ h))) (upd f2 c (nI (zz % 2 ^ h))) f3 f4) := hD
  refine lv_aload_n hx hb dX0_append_45 rfl (lv_at hl 1 rfl) ?_
  refine va_get (D := (dC, dI)) (ci := 0) (v := .ref a3) (C := RX0) (T := TX0) (N := 10) hx hb hts hin0 hown hK hP 0 rfl rfl 8 (by decide) (hts (.fieldLink RX0 32 "ClauseSolver" "depths" "[I") (by decide +kernel)) (fun _ h9 => h9) rfl dX0_append_46 ?_
  refine lv_aload_n hx hb dX0_append_49 rfl (lv_at hl 1 rfl) ?_
  refine va_get (D := (dC, dI)) (ci := 0) (v := .int (nI c)) (C := RX0) (T := TX0) (N := 10) hx hb hts hin0 hown hK hP 0 rfl rfl 5 (by decide) (hts (.fieldLink RX0 67 "ClauseSolver" "clauses" "I") (by decide +kernel)) (fun _ h9 => h9) rfl dX0_append_50 ?_
  refine lv_aload_n hx hb dX0_append_53 rfl (lv_at hl 1 rfl) ?_
  refine lv_iload_n hx hb dX0_append_54 rfl (lv_at hl 2 rfl) ?_
  refine lv_iload_n hx hb dX0_append_55 rfl (lv_at hl 3 rfl) ?_
  refine lv_ior hx hb dX0_append_56 ?_
  refine cs_top (y := nI (yy ||| zz)) (cs_or yy zz) ?_
  refine lv_iload_n hx hb dX0_append_57 rfl (lv_at hl 0 rfl) ?_
  refine lv_iand hx hb dX0_append_58 ?_
  refine cs_top (y := nI ((yy ||| zz) &&& (2 ^ h - 1))) (cs_and (yy ||| zz) (2 ^ h - 1)) ?_
  refine cs_top (y := nI ((yy ||| zz) % 2 ^ h)) (congrArg nI (Nat.and_two_pow_sub_one_eq_mod (yy ||| zz) h)) ?_
  refine vp_callSi (W.runV (As := [.int (nI ((yy ||| zz) % 2 ^ h))]) (rest := [.int (nI c), .ref a3]) ⟨hx, hb, hml, hown, hts⟩ (c_depthOf l dC dI o a1 a2 a3 a4 c1 c2 c3 c4 N h w y z c _ _ _ _ (by omega) (cs_modlt _ (by omega))) (cwV 1 hts gX0_append_X0_depthOf rfl rfl rfl (by decide +kernel) ⟨Nat.le_of_ble_eq_true rfl, Nat.le_of_ble_eq_true rfl⟩) (rW_preV hP hK (va_recv (q := (RX0, TX0, 10)) (q0 := 0) hK hP rfl rfl)) rfl rfl hl.1 rfl (lv_room (Nat.le_of_ble_eq_true rfl)) dX0_append_59 ⟨Nat.le_refl _, Nat.le_refl _⟩) (fun r0 hr0 => ?_)
  obtain ⟨δ, rfl, hδ, hδb⟩ := hr0
  refine cs_iast hx hb hK hP hD hS 3 2 rfl rfl (hc) (by decide) dX0_append_62 (fun H locs hP hD hS => ?_)
  have hP : va_P (dC, dI) vwCl (xC o a1 a2 a3 a4 c1 c2 c3 c4 (nI N) (nI h) (nI w) (nI y) (nI z) (nI c) (upd f1 c (nI (yy % 2 ^ h))) (upd f2 c (nI (zz % 2 ^ h))) (upd f3 c (nI δ)) f4) H := hP
  have hD : va_D A (xC o a1 a2 a3 a4 c1 c2 c3 c4 (nI N) (nI h) (nI w) (nI y) (nI z) (nI c) (upd f1 c (nI (yy % 2 ^ h))) (upd f2 c (nI (zz % 2 ^ h))) (upd f3 c (nI δ)) f4) := hD
  refine lv_aload_n hx hb dX0_append_63 rfl (lv_at hl 1 rfl) ?_
  refine va_get (D := (dC, dI)) (ci := 0) (v := .ref a4) (C := RX0) (T := TX0) (N := 10) hx hb hts hin0 hown hK hP 0 rfl rfl 9 (by decide) (hts (.fieldLink RX0 35 "ClauseSolver" "tails" "[J") (by decide +kernel)) (fun _ h9 => h9) rfl dX0_append_64 ?_
  refine lv_aload_n hx hb dX0_append_67 rfl (lv_at hl 1 rfl) ?_
  refine va_get (D := (dC, dI)) (ci := 0) (v := .int (nI c)) (C := RX0) (T := TX0) (N := 10) hx hb hts hin0 hown hK hP 0 rfl rfl 5 (by decide) (hts (.fieldLink RX0 67 "ClauseSolver" "clauses" "I") (by decide +kernel)) (fun _ h9 => h9) rfl dX0_append_68 ?_
  refine lv_iload_n hx hb dX0_append_71 rfl (lv_at hl 2 rfl) ?_
  refine lv_aload_n hx hb dX0_append_72 rfl (lv_at hl 1 rfl) ?_
  refine va_get (D := (dC, dI)) (ci := 0) (v := .int (nI h)) (C := RX0) (T := TX0) (N := 10) hx hb hts hin0 hown hK hP 0 rfl rfl 1 (by decide) (hts (.fieldLink RX0 22 "ClauseSolver" "heads" "I") (by decide +kernel)) (fun _ h9 => h9) rfl dX0_append_73 ?_
  refine lv_ishr hx hb dX0_append_76 ?_
  refine cs_top (y := nI (yy / 2 ^ h)) (cs_shr (by omega) (by omega)) ?_
  refine lv_iload_n hx hb dX0_append_77 rfl (lv_at hl 3 rfl) ?_
  refine lv_aload_n hx hb dX0_append_78 rfl (lv_at hl 1 rfl) ?_
  refine va_get (D := (dC, dI)) (ci := 0) (v := .int (nI h)) (C := RX0) (T := TX0) (N := 10) hx hb hts hin0 hown hK hP 0 rfl rfl 1 (by decide) (hts (.fieldLink RX0 22 "ClauseSolver" "heads" "I") (by decide +kernel)) (fun _ h9 => h9) rfl dX0_append_79 ?_
  refine lv_ishr hx hb dX0_append_82 ?_
  refine cs_top (y := nI (zz / 2 ^ h)) (cs_shr (by omega) (by omega)) ?_
  refine vp_callSl (W.runS (As := [.int (nI (yy / 2 ^ h)), .int (nI (zz / 2 ^ h))]) (rest := [.int (nI c), .ref a4]) ⟨hx, hb, hml, hown, hts⟩ (c_tailsThatMeet l tt (cs_div64 hyy hNh) (cs_div64 hzz hNh)) (va_cwS 2 hts gX0_append_X0_tailsThatMeet rfl rfl rfl (by decide +kernel) ⟨Nat.le_of_ble_eq_true rfl, Nat.le_of_ble_eq_true rfl⟩) (rT_preS (hT.kept hS.2.1)) rfl rfl hl.1 rfl (lv_room (Nat.le_of_ble_eq_true rfl)) dX0_append_83 ⟨Nat.le_refl _, Nat.le_refl _⟩) (fun u9 hr0 => ?_)
  refine cs_last hx hb hK hP hD hS 4 3 rfl rfl (hc) (by decide) dX0_append_86 (fun H locs hP hD hS => ?_)
  have hP : va_P (dC, dI) vwCl (xC o a1 a2 a3 a4 c1 c2 c3 c4 (nI N) (nI h) (nI w) (nI y) (nI z) (nI c) (upd f1 c (nI (yy % 2 ^ h))) (upd f2 c (nI (zz % 2 ^ h))) (upd f3 c (nI δ)) (vp_updL f4 c u9)) H := hP
  have hD : va_D A (xC o a1 a2 a3 a4 c1 c2 c3 c4 (nI N) (nI h) (nI w) (nI y) (nI z) (nI c) (upd f1 c (nI (yy % 2 ^ h))) (upd f2 c (nI (zz % 2 ^ h))) (upd f3 c (nI δ)) (vp_updL f4 c u9)) := hD
  refine lv_aload_n hx hb dX0_append_87 rfl (lv_at hl 1 rfl) ?_
  refine lv_dup hx hb dX0_append_88 rfl ?_
  refine va_get (D := (dC, dI)) (ci := 0) (v := .int (nI c)) (C := RX0) (T := TX0) (N := 10) hx hb hts hin0 hown hK hP 0 rfl rfl 5 (by decide) (hts (.fieldLink RX0 67 "ClauseSolver" "clauses" "I") (by decide +kernel)) (fun _ h9 => h9) rfl dX0_append_89 ?_
  refine lv_iconst (v := nI 1) hx hb dX0_append_92 (by decide) ?_
  refine lv_iadd hx hb dX0_append_93 ?_
  refine cs_top (y := nI (c + 1)) (nI_add c 1) ?_
  refine va_put (D := (dC, dI)) (ci := 0) (v := .int (nI (c + 1))) (ty := .int) (C := RX0) (T := TX0) (N := 10) hx hb hts hin0 tyX0 tyX0_ok nmX0 hown hK hP hD hS 0 rfl rfl 5 (by decide) (hts (.fieldLink RX0 67 "ClauseSolver" "clauses" "I") (by decide +kernel)) (fun _ h9 => h9) rfl (by decide +kernel) rfl rfl (Nat.le_of_ble_eq_true rfl) dX0_append_94 (fun H locs hP hD hS => ?_)
  have hP : va_P (dC, dI) vwCl (xC o a1 a2 a3 a4 c1 c2 c3 c4 (nI N) (nI h) (nI w) (nI y) (nI z) (nI (c + 1)) (upd f1 c (nI (yy % 2 ^ h))) (upd f2 c (nI (zz % 2 ^ h))) (upd f3 c (nI δ)) (vp_updL f4 c u9)) H := hP
  have hD : va_D A (xC o a1 a2 a3 a4 c1 c2 c3 c4 (nI N) (nI h) (nI w) (nI y) (nI z) (nI (c + 1)) (upd f1 c (nI (yy % 2 ^ h))) (upd f2 c (nI (zz % 2 ^ h))) (upd f3 c (nI δ)) (vp_updL f4 c u9)) := hD
  refine lv_aload_n hx hb dX0_append_97 rfl (lv_at hl 1 rfl) ?_
  refine va_get (D := (dC, dI)) (ci := 0) (v := .int (nI (c + 1))) (C := RX0) (T := TX0) (N := 10) hx hb hts hin0 hown hK hP 0 rfl rfl 5 (by decide) (hts (.fieldLink RX0 67 "ClauseSolver" "clauses" "I") (by decide +kernel)) (fun _ h9 => h9) rfl dX0_append_98 ?_
  exact W.iret (v := nI (c + 1)) hx hb hr (fun t ht hW => ⟨⟨nI (c + 1), (δ, u9), rfl, ⟨rfl, hδ, dep_split hδb, fun t ht => by rw [Nat.shiftRight_eq_div_pow, Nat.shiftRight_eq_div_pow]; exact hr0 t ht⟩, by rw [ht]; exact hP, by rw [hAe]; exact hD⟩, hS.F ht⟩) hS.2.2 dX0_append_101
set_option maxHeartbeats 4000000 in
set_option maxRecDepth 100000 in
theorem c_clause_full (l : Launch) (dC : Nat → ClassId) (dI : Nat → Nat → Nat) (o a1 a2 a3 a4 : Nat) (c1 c2 c3 c4 : ClassId) (N h w y z c : Nat) (f1 f2 f3 : Nat → Int32) (f4 : Nat → Int64) (hc : c = 400) : Met l yX0_clause wsX0_clause ({ frames := 1, cells := 0, slots := 0, locals := 30 }) (va_Pc [.ref o] (rW (dC, dI) vwCl (xC o a1 a2 a3 a4 c1 c2 c3 c4 (nI N) (nI h) (nI w) (nI y) (nI z) (nI c) f1 f2 f3 f4) (xT c1 c2 c3 c4))) (vp_Si (fun r => r = -3)) 0 0 (fun _ => False) := by
  refine Met.ofW (cc := cX0_clause) (maxL := 2) (ret := some .int) (by decide) rfl ?_
  intro p e s m args below meth c0 s₁ B hml hv0
  obtain ⟨rfl, hP, hK⟩ := hv0
  have hx := B.exec
  have hb := B.bytes
  have hr := B.returns
  have hts := atoms_spec (ws := wsX0_clause) B.pre
  have hown : s.vm.findClass RX0 = some m.cls := findClass_of_methodNamed B.named
  have hlocks := B.notSynchronized
  have hP : va_P (dC, dI) vwCl (xC o a1 a2 a3 a4 c1 c2 c3 c4 (nI N) (nI h) (nI w) (nI y) (nI z) (nI c) f1 f2 f3 f4) s.heap := hP
  have hin0 : ∀ w ∈ u_ws RX0 TX0 10, w ∈ wsX0_clause := by decide +kernel
  have hl := lv_entry ([.ref o]) (n := 2) (Nat.le_of_ble_eq_true rfl)
  rw [lg_entry_eq]
  generalize (lg_sl ([.ref o]) ++ List.replicate (2 - (lg_sl ([.ref o])).length) Slot.unset).toArray = ls at hl ⊢
  have hl : lv_has ls 2 [(0, .ref o)] := hl
  refine lv_aload_n hx hb dX0_clause_0 rfl (lv_at hl 0 rfl) ?_
  refine lv_aload_n hx hb dX0_clause_1 rfl (lv_at hl 0 rfl) ?_
  refine va_get (D := (dC, dI)) (ci := 0) (v := .int (nI y)) (C := RX0) (T := TX0) (N := 10) hx hb hts hin0 hown hK hP 0 rfl rfl 3 (by decide) (hts (.fieldLink RX0 50 "ClauseSolver" "madeTrue" "I") (by decide +kernel)) (fun _ h9 => h9) rfl dX0_clause_2 ?_
  refine lv_aload_n hx hb dX0_clause_5 rfl (lv_at hl 0 rfl) ?_
  refine va_get (D := (dC, dI)) (ci := 0) (v := .int (nI z)) (C := RX0) (T := TX0) (N := 10) hx hb hts hin0 hown hK hP 0 rfl rfl 4 (by decide) (hts (.fieldLink RX0 53 "ClauseSolver" "madeFalse" "I") (by decide +kernel)) (fun _ h9 => h9) rfl dX0_clause_6 ?_
  refine vp_callSi (W.runV (As := [.int (nI y), .int (nI z)]) (rest := []) ⟨hx, hb, hml, hown, hts⟩ (c_append_full l dC dI o a1 a2 a3 a4 c1 c2 c3 c4 N h w y z c f1 f2 f3 f4 hc _ _) (cwV 2 hts gX0_clause_X0_append rfl rfl rfl (by decide +kernel) ⟨Nat.le_of_ble_eq_true rfl, Nat.le_of_ble_eq_true rfl⟩) (rW_preV hP hK (va_recv (q := (RX0, TX0, 10)) (q0 := 0) hK hP rfl rfl)) rfl rfl hl.1 rfl (lv_room (Nat.le_of_ble_eq_true rfl)) dX0_clause_9 ⟨Nat.le_refl _, Nat.le_refl _⟩) (fun r0 hr0 => ?_)
  subst hr0
  refine lv_istore_n hx hb dX0_clause_12 rfl hl (by decide) rfl (fun ls hl => ?_)
  have hl : lv_has ls 2 [(1, .int (-3)), (0, .ref o)] := hl
  refine lv_iload_n hx hb dX0_clause_13 rfl (lv_at hl 0 rfl) ?_
  refine lv_bipush (v := (-3)) hx hb dX0_clause_14 (by decide) ?_
  refine lv_icmp_eq hx hb dX0_clause_16 (tgt := 29) (by decide) (fun _ => ?_) (fun hq => absurd (rfl) hq)
  refine lv_iload_n hx hb dX0_clause_29 rfl (lv_at hl 0 rfl) ?_
  exact W.iret (v := (-3)) hx hb hr (fun t ht hW => ⟨(-3), rfl, rfl, ht⟩) (fun q h => by cases h) dX0_clause_30
set_option maxHeartbeats 4000000 in
set_option maxRecDepth 100000 in
theorem c_clause (l : Launch) (tt sz : Nat) (dC : Nat → ClassId) (dI : Nat → Nat → Nat) (o a1 a2 a3 a4 : Nat) (c1 c2 c3 c4 : ClassId) (N h w y z c : Nat) (f1 f2 f3 : Nat → Int32) (f4 : Nat → Int64) (hN : N ≤ 16) (hNh : h = N - 6) (hc : c < 400) (hy : y < 2 ^ N) (hz : z < 2 ^ N) : Met l yX0_clause wsX0_clause ({ frames := 3, cells := 0, slots := 0, locals := 100 }) (va_Pc [.ref o] (wX tt (xC o a1 a2 a3 a4 c1 c2 c3 c4 (nI N) (nI h) (nI w) (nI y) (nI z) (nI c) f1 f2 f3 f4) sz (wW (dC, dI) vwCl (xC o a1 a2 a3 a4 c1 c2 c3 c4 (nI N) (nI h) (nI w) (nI y) (nI z) (nI c) f1 f2 f3 f4) (xT c1 c2 c3 c4) sz))) (va_Qi (fun (r : Int32) (u : Nat × Int64) => r = nI (c + 1) ∧ u.1 ≤ h ∧ (∀ i, u.1 ≤ i → i < h → (y).testBit i = false ∧ (z).testBit i = false) ∧ ∀ t, t < 64 → (lb u.2 t = true ↔ Mt (y >>> h) (z >>> h) t)) (oW (dC, dI) vwCl (xC o a1 a2 a3 a4 c1 c2 c3 c4 (nI N) (nI h) (nI w) (nI y) (nI z) (nI c) f1 f2 f3 f4) sz (fun u : Nat × Int64 => (xC o a1 a2 a3 a4 c1 c2 c3 c4 (nI N) (nI h) (nI w) (nI 0) (nI 0) (nI (c + 1)) (upd f1 c (nI (y % 2 ^ h))) (upd f2 c (nI (z % 2 ^ h))) (upd f3 c (nI u.1)) (vp_updL f4 c u.2)))) (va_A (xC o a1 a2 a3 a4 c1 c2 c3 c4 (nI N) (nI h) (nI w) (nI y) (nI z) (nI c) f1 f2 f3 f4) sz)) 0 0 (va_A (xC o a1 a2 a3 a4 c1 c2 c3 c4 (nI N) (nI h) (nI w) (nI y) (nI z) (nI c) f1 f2 f3 f4) sz) := by
  refine Met.ofW (cc := cX0_clause) (maxL := 2) (ret := some .int) (by decide) rfl ?_
  intro p e s m args below meth c0 s₁ B hml hv0
  obtain ⟨rfl, ⟨hsz, hP, hK, hD0⟩, hT⟩ := hv0
  have hx := B.exec
  have hb := B.bytes
  have hr := B.returns
  have hts := atoms_spec (ws := wsX0_clause) B.pre
  have hown : s.vm.findClass RX0 = some m.cls := findClass_of_methodNamed B.named
  have hlocks := B.notSynchronized
  subst hsz
  have hD := hD0.self (sz := s.heap.size)
  generalize hAe : va_A (xC o a1 a2 a3 a4 c1 c2 c3 c4 (nI N) (nI h) (nI w) (nI y) (nI z) (nI c) f1 f2 f3 f4) s.heap.size = A at hD hT ⊢
  have hA : ∀ q : Nat, s.heap.size ≤ q → A q := fun q h => by rw [← hAe]; exact Or.inr h
  have hS : va_S A s.heap s.heap [] := va_S.rf
  have hP : va_P (dC, dI) vwCl (xC o a1 a2 a3 a4 c1 c2 c3 c4 (nI N) (nI h) (nI w) (nI y) (nI z) (nI c) f1 f2 f3 f4) s.heap := hP
  have hin0 : ∀ w ∈ u_ws RX0 TX0 10, w ∈ wsX0_clause := by decide +kernel
  have hl := lv_entry ([.ref o]) (n := 2) (Nat.le_of_ble_eq_true rfl)
  rw [lg_entry_eq]
  generalize (lg_sl ([.ref o]) ++ List.replicate (2 - (lg_sl ([.ref o])).length) Slot.unset).toArray = ls at hl ⊢
  have hl : lv_has ls 2 [(0, .ref o)] := hl
  refine lv_aload_n hx hb dX0_clause_0 rfl (lv_at hl 0 rfl) ?_
  refine lv_aload_n hx hb dX0_clause_1 rfl (lv_at hl 0 rfl) ?_
  refine va_get (D := (dC, dI)) (ci := 0) (v := .int (nI y)) (C := RX0) (T := TX0) (N := 10) hx hb hts hin0 hown hK hP 0 rfl rfl 3 (by decide) (hts (.fieldLink RX0 50 "ClauseSolver" "madeTrue" "I") (by decide +kernel)) (fun _ h9 => h9) rfl dX0_clause_2 ?_
  refine lv_aload_n hx hb dX0_clause_5 rfl (lv_at hl 0 rfl) ?_
  refine va_get (D := (dC, dI)) (ci := 0) (v := .int (nI z)) (C := RX0) (T := TX0) (N := 10) hx hb hts hin0 hown hK hP 0 rfl rfl 4 (by decide) (hts (.fieldLink RX0 53 "ClauseSolver" "madeFalse" "I") (by decide +kernel)) (fun _ h9 => h9) rfl dX0_clause_6 ?_
  refine cs_calli (wc := (xC o a1 a2 a3 a4 c1 c2 c3 c4 (nI N) (nI h) (nI w) (nI y) (nI z) (nI c) f1 f2 f3 f4)) (wr := []) (va_runV (As := [.int (nI y), .int (nI z)]) (rest := []) ⟨hx, hb, hml, hown, hts⟩ (c_append l tt s.heap.size dC dI o a1 a2 a3 a4 c1 c2 c3 c4 N h w y z c f1 f2 f3 f4 hN hNh hc hy hz) (cwV 2 hts gX0_clause_X0_append rfl rfl rfl (by decide +kernel) ⟨Nat.le_of_ble_eq_true rfl, Nat.le_of_ble_eq_true rfl⟩) (wT_preV hP hK hD ((hT.kept hS.2.1).narrow (va_free hD hS hA [0, 1, 2, 3, 4] rfl)) (va_recv (q := (RX0, TX0, 10)) (q0 := 0) hK hP rfl rfl)) rfl rfl hl.1 rfl (lv_room (Nat.le_of_ble_eq_true rfl)) dX0_clause_9 ⟨Nat.le_refl _, Nat.le_refl _⟩) hS hA hP hD [0, 1, 2, 3, 4] [] rfl rfl (by decide) (by decide) (fun r0 u H locs hr0 hP hD hS => ?_)
  have hP : va_P (dC, dI) vwCl (xC o a1 a2 a3 a4 c1 c2 c3 c4 (nI N) (nI h) (nI w) (nI y) (nI z) (nI (c + 1)) (upd f1 c (nI (y % 2 ^ h))) (upd f2 c (nI (z % 2 ^ h))) (upd f3 c (nI u.1)) (vp_updL f4 c u.2)) H := hP
  have hD : va_D A (xC o a1 a2 a3 a4 c1 c2 c3 c4 (nI N) (nI h) (nI w) (nI y) (nI z) (nI (c + 1)) (upd f1 c (nI (y % 2 ^ h))) (upd f2 c (nI (z % 2 ^ h))) (upd f3 c (nI u.1)) (vp_updL f4 c u.2)) := hD
  obtain ⟨rfl, hδ, hδb, hz9⟩ := hr0
  refine lv_istore_n hx hb dX0_clause_12 rfl hl (by decide) rfl (fun ls hl => ?_)
  have hl : lv_has ls 2 [(1, .int (nI (c + 1))), (0, .ref o)] := hl
  refine lv_iload_n hx hb dX0_clause_13 rfl (lv_at hl 0 rfl) ?_
  refine lv_bipush (v := (-3)) hx hb dX0_clause_14 (by decide) ?_
  refine lv_icmp_eq hx hb dX0_clause_16 (tgt := 29) (by decide) (fun hq => absurd hq (nI_m3 (by omega))) (fun _ => ?_)
  refine lv_aload_n hx hb dX0_clause_19 rfl (lv_at hl 1 rfl) ?_
  refine lv_iconst (v := nI 0) hx hb dX0_clause_20 (by decide) ?_
  refine va_put (D := (dC, dI)) (ci := 0) (v := .int (nI 0)) (ty := .int) (C := RX0) (T := TX0) (N := 10) hx hb hts hin0 tyX0 tyX0_ok nmX0 hown hK hP hD hS 0 rfl rfl 3 (by decide) (hts (.fieldLink RX0 50 "ClauseSolver" "madeTrue" "I") (by decide +kernel)) (fun _ h9 => h9) rfl (by decide +kernel) rfl rfl (Nat.le_of_ble_eq_true rfl) dX0_clause_21 (fun H locs hP hD hS => ?_)
  have hP : va_P (dC, dI) vwCl (xC o a1 a2 a3 a4 c1 c2 c3 c4 (nI N) (nI h) (nI w) (nI 0) (nI z) (nI (c + 1)) (upd f1 c (nI (y % 2 ^ h))) (upd f2 c (nI (z % 2 ^ h))) (upd f3 c (nI u.1)) (vp_updL f4 c u.2)) H := hP
  have hD : va_D A (xC o a1 a2 a3 a4 c1 c2 c3 c4 (nI N) (nI h) (nI w) (nI 0) (nI z) (nI (c + 1)) (upd f1 c (nI (y % 2 ^ h))) (upd f2 c (nI (z % 2 ^ h))) (upd f3 c (nI u.1)) (vp_updL f4 c u.2)) := hD
  refine lv_aload_n hx hb dX0_clause_24 rfl (lv_at hl 1 rfl) ?_
  refine lv_iconst (v := nI 0) hx hb dX0_clause_25 (by decide) ?_
  refine va_put (D := (dC, dI)) (ci := 0) (v := .int (nI 0)) (ty := .int) (C := RX0) (T := TX0) (N := 10) hx hb hts hin0 tyX0 tyX0_ok nmX0 hown hK hP hD hS 0 rfl rfl 4 (by decide) (hts (.fieldLink RX0 53 "ClauseSolver" "madeFalse" "I") (by decide +kernel)) (fun _ h9 => h9) rfl (by decide +kernel) rfl rfl (Nat.le_of_ble_eq_true rfl) dX0_clause_26 (fun H locs hP hD hS => ?_)
  have hP : va_P (dC, dI) vwCl (xC o a1 a2 a3 a4 c1 c2 c3 c4 (nI N) (nI h) (nI w) (nI 0) (nI 0) (nI (c + 1)) (upd f1 c (nI (y % 2 ^ h))) (upd f2 c (nI (z % 2 ^ h))) (upd f3 c (nI u.1)) (vp_updL f4 c u.2)) H := hP
  have hD : va_D A (xC o a1 a2 a3 a4 c1 c2 c3 c4 (nI N) (nI h) (nI w) (nI 0) (nI 0) (nI (c + 1)) (upd f1 c (nI (y % 2 ^ h))) (upd f2 c (nI (z % 2 ^ h))) (upd f3 c (nI u.1)) (vp_updL f4 c u.2)) := hD
  refine lv_iload_n hx hb dX0_clause_29 rfl (lv_at hl 0 rfl) ?_
  exact W.iret (v := nI (c + 1)) hx hb hr (fun t ht hW => ⟨⟨nI (c + 1), u, rfl, ⟨rfl, hδ, hδb, hz9⟩, by rw [ht]; exact hP, by rw [hAe]; exact hD⟩, hS.F ht⟩) hS.2.2 dX0_clause_30
set_option maxHeartbeats 4000000 in
set_option maxRecDepth 100000 in
theorem c_some_full (l : Launch) (dC : Nat → ClassId) (dI : Nat → Nat → Nat) (o a1 a2 a3 a4 : Nat) (c1 c2 c3 c4 : ClassId) (N h w y z c : Nat) (f1 f2 f3 : Nat → Int32) (f4 : Nat → Int64) (hN : N ≤ 16) (hc : c = 400) (x1 x2 : Int32) : Met l yX0_some wsX0_some ({ frames := 1, cells := 0, slots := 0, locals := 30 }) (va_Pc [.ref o, .int x1, .int x2] (rW (dC, dI) vwCl (xC o a1 a2 a3 a4 c1 c2 c3 c4 (nI N) (nI h) (nI w) (nI y) (nI z) (nI c) f1 f2 f3 f4) (xT c1 c2 c3 c4))) (vp_Si (fun r => r = -3)) 0 0 (fun _ => False) := by
  refine Met.ofW (cc := cX0_some) (maxL := 4) (ret := some .int) (by decide) rfl ?_
  intro p e s m args below meth c0 s₁ B hml hv0
  obtain ⟨rfl, hP, hK⟩ := hv0
  have hx := B.exec
  have hb := B.bytes
  have hr := B.returns
  have hts := atoms_spec (ws := wsX0_some) B.pre
  have hown : s.vm.findClass RX0 = some m.cls := findClass_of_methodNamed B.named
  have hlocks := B.notSynchronized
  have hP : va_P (dC, dI) vwCl (xC o a1 a2 a3 a4 c1 c2 c3 c4 (nI N) (nI h) (nI w) (nI y) (nI z) (nI c) f1 f2 f3 f4) s.heap := hP
  have hin0 : ∀ w ∈ u_ws RX0 TX0 10, w ∈ wsX0_some := by decide +kernel
  have hl := lv_entry ([.ref o, .int x1, .int x2]) (n := 4) (Nat.le_of_ble_eq_true rfl)
  rw [lg_entry_eq]
  generalize (lg_sl ([.ref o, .int x1, .int x2]) ++ List.replicate (4 - (lg_sl ([.ref o, .int x1, .int x2])).length) Slot.unset).toArray = ls at hl ⊢
  have hl : lv_has ls 4 [(0, .ref o), (1, .int x1), (2, .int x2)] := hl
  refine lv_aload_n hx hb dX0_some_0 rfl (lv_at hl 0 rfl) ?_
  refine va_get (D := (dC, dI)) (ci := 0) (v := .int (nI N)) (C := RX0) (T := TX0) (N := 10) hx hb hts hin0 hown hK hP 0 rfl rfl 0 (by decide) (hts (.fieldLink RX0 18 "ClauseSolver" "variables" "I") (by decide +kernel)) (fun _ h9 => h9) rfl dX0_some_1 ?_
  refine vp_callSi (W.runS (As := [.int (nI N)]) (rest := []) ⟨hx, hb, hml, hown, hts⟩ (c_lowBits l (by omega)) (va_cwS 1 hts gX0_some_X0_lowBits rfl rfl rfl (by decide +kernel) ⟨Nat.le_of_ble_eq_true rfl, Nat.le_of_ble_eq_true rfl⟩) (nW_preS) rfl rfl hl.1 rfl (lv_room (Nat.le_of_ble_eq_true rfl)) dX0_some_4 ⟨Nat.le_refl _, Nat.le_refl _⟩) (fun r0 hr0 => ?_)
  subst hr0
  refine lv_istore_n hx hb dX0_some_7 rfl hl (by decide) rfl (fun ls hl => ?_)
  have hl : lv_has ls 4 [(3, .int (nI (2 ^ N - 1))), (0, .ref o), (1, .int x1), (2, .int x2)] := hl
  refine lv_aload_n hx hb dX0_some_8 rfl (lv_at hl 1 rfl) ?_
  refine lv_iload_n hx hb dX0_some_9 rfl (lv_at hl 2 rfl) ?_
  refine lv_iload_n hx hb dX0_some_10 rfl (lv_at hl 0 rfl) ?_
  refine lv_iand hx hb dX0_some_11 ?_
  refine lv_iload_n hx hb dX0_some_12 rfl (lv_at hl 3 rfl) ?_
  refine lv_iload_n hx hb dX0_some_13 rfl (lv_at hl 0 rfl) ?_
  refine lv_iand hx hb dX0_some_14 ?_
  refine vp_callSi (W.runV (As := [.int (x1 &&& (nI (2 ^ N - 1))), .int (x2 &&& (nI (2 ^ N - 1)))]) (rest := []) ⟨hx, hb, hml, hown, hts⟩ (c_append_full l dC dI o a1 a2 a3 a4 c1 c2 c3 c4 N h w y z c f1 f2 f3 f4 hc _ _) (cwV 2 hts gX0_some_X0_append rfl rfl rfl (by decide +kernel) ⟨Nat.le_of_ble_eq_true rfl, Nat.le_of_ble_eq_true rfl⟩) (rW_preV hP hK (va_recv (q := (RX0, TX0, 10)) (q0 := 0) hK hP rfl rfl)) rfl rfl hl.1 rfl (lv_room (Nat.le_of_ble_eq_true rfl)) dX0_some_15 ⟨Nat.le_refl _, Nat.le_refl _⟩) (fun r0 hr0 => ?_)
  subst hr0
  exact W.iret (v := (-3)) hx hb hr (fun t ht hW => ⟨(-3), rfl, rfl, ht⟩) (fun q h => by cases h) dX0_some_18
set_option maxHeartbeats 4000000 in
set_option maxRecDepth 100000 in
theorem c_some (l : Launch) (tt sz : Nat) (dC : Nat → ClassId) (dI : Nat → Nat → Nat) (o a1 a2 a3 a4 : Nat) (c1 c2 c3 c4 : ClassId) (N h w y z c : Nat) (f1 f2 f3 : Nat → Int32) (f4 : Nat → Int64) (hN : N ≤ 16) (hNh : h = N - 6) (hc : c < 400) (x1 x2 : Int32) : Met l yX0_some wsX0_some ({ frames := 3, cells := 0, slots := 0, locals := 100 }) (va_Pc [.ref o, .int x1, .int x2] (wX tt (xC o a1 a2 a3 a4 c1 c2 c3 c4 (nI N) (nI h) (nI w) (nI y) (nI z) (nI c) f1 f2 f3 f4) sz (wW (dC, dI) vwCl (xC o a1 a2 a3 a4 c1 c2 c3 c4 (nI N) (nI h) (nI w) (nI y) (nI z) (nI c) f1 f2 f3 f4) (xT c1 c2 c3 c4) sz))) (va_Qi (fun (r : Int32) (u : Nat × Int64) => r = nI (c + 1) ∧ u.1 ≤ h ∧ (∀ i, u.1 ≤ i → i < h → (lo x1 N).testBit i = false ∧ (lo x2 N).testBit i = false) ∧ ∀ t, t < 64 → (lb u.2 t = true ↔ Mt ((lo x1 N) >>> h) (lo x2 N >>> h) t)) (oW (dC, dI) vwCl (xC o a1 a2 a3 a4 c1 c2 c3 c4 (nI N) (nI h) (nI w) (nI y) (nI z) (nI c) f1 f2 f3 f4) sz (fun u : Nat × Int64 => (xC o a1 a2 a3 a4 c1 c2 c3 c4 (nI N) (nI h) (nI w) (nI y) (nI z) (nI (c + 1)) (upd f1 c (nI (lo x1 N % 2 ^ h))) (upd f2 c (nI (lo x2 N % 2 ^ h))) (upd f3 c (nI u.1)) (vp_updL f4 c u.2)))) (va_A (xC o a1 a2 a3 a4 c1 c2 c3 c4 (nI N) (nI h) (nI w) (nI y) (nI z) (nI c) f1 f2 f3 f4) sz)) 0 0 (va_A (xC o a1 a2 a3 a4 c1 c2 c3 c4 (nI N) (nI h) (nI w) (nI y) (nI z) (nI c) f1 f2 f3 f4) sz) := by
  refine Met.ofW (cc := cX0_some) (maxL := 4) (ret := some .int) (by decide) rfl ?_
  intro p e s m args below meth c0 s₁ B hml hv0
  obtain ⟨rfl, ⟨hsz, hP, hK, hD0⟩, hT⟩ := hv0
  have hx := B.exec
  have hb := B.bytes
  have hr := B.returns
  have hts := atoms_spec (ws := wsX0_some) B.pre
  have hown : s.vm.findClass RX0 = some m.cls := findClass_of_methodNamed B.named
  have hlocks := B.notSynchronized
  subst hsz
  have hD := hD0.self (sz := s.heap.size)
  generalize hAe : va_A (xC o a1 a2 a3 a4 c1 c2 c3 c4 (nI N) (nI h) (nI w) (nI y) (nI z) (nI c) f1 f2 f3 f4) s.heap.size = A at hD hT ⊢
  have hA : ∀ q : Nat, s.heap.size ≤ q → A q := fun q h => by rw [← hAe]; exact Or.inr h
  have hS : va_S A s.heap s.heap [] := va_S.rf
  have hP : va_P (dC, dI) vwCl (xC o a1 a2 a3 a4 c1 c2 c3 c4 (nI N) (nI h) (nI w) (nI y) (nI z) (nI c) f1 f2 f3 f4) s.heap := hP
  have hin0 : ∀ w ∈ u_ws RX0 TX0 10, w ∈ wsX0_some := by decide +kernel
  have hl := lv_entry ([.ref o, .int x1, .int x2]) (n := 4) (Nat.le_of_ble_eq_true rfl)
  rw [lg_entry_eq]
  generalize (lg_sl ([.ref o, .int x1, .int x2]) ++ List.replicate (4 - (lg_sl ([.ref o, .int x1, .int x2])).length) Slot.unset).toArray = ls at hl ⊢
  have hl : lv_has ls 4 [(0, .ref o), (1, .int x1), (2, .int x2)] := hl
  refine lv_aload_n hx hb dX0_some_0 rfl (lv_at hl 0 rfl) ?_
  refine va_get (D := (dC, dI)) (ci := 0) (v := .int (nI N)) (C := RX0) (T := TX0) (N := 10) hx hb hts hin0 hown hK hP 0 rfl rfl 0 (by decide) (hts (.fieldLink RX0 18 "ClauseSolver" "variables" "I") (by decide +kernel)) (fun _ h9 => h9) rfl dX0_some_1 ?_
  refine vp_callSi (W.runS (As := [.int (nI N)]) (rest := []) ⟨hx, hb, hml, hown, hts⟩ (c_lowBits l (by omega)) (va_cwS 1 hts gX0_some_X0_lowBits rfl rfl rfl (by decide +kernel) ⟨Nat.le_of_ble_eq_true rfl, Nat.le_of_ble_eq_true rfl⟩) (nW_preS) rfl rfl hl.1 rfl (lv_room (Nat.le_of_ble_eq_true rfl)) dX0_some_4 ⟨Nat.le_refl _, Nat.le_refl _⟩) (fun r0 hr0 => ?_)
  subst hr0
  refine lv_istore_n hx hb dX0_some_7 rfl hl (by decide) rfl (fun ls hl => ?_)
  have hl : lv_has ls 4 [(3, .int (nI (2 ^ N - 1))), (0, .ref o), (1, .int x1), (2, .int x2)] := hl
  refine lv_aload_n hx hb dX0_some_8 rfl (lv_at hl 1 rfl) ?_
  refine lv_iload_n hx hb dX0_some_9 rfl (lv_at hl 2 rfl) ?_
  refine lv_iload_n hx hb dX0_some_10 rfl (lv_at hl 0 rfl) ?_
  refine lv_iand hx hb dX0_some_11 ?_
  refine cs_top (y := nI (lo x1 N)) (cs_mask x1 (by omega)) ?_
  refine lv_iload_n hx hb dX0_some_12 rfl (lv_at hl 3 rfl) ?_
  refine lv_iload_n hx hb dX0_some_13 rfl (lv_at hl 0 rfl) ?_
  refine lv_iand hx hb dX0_some_14 ?_
  refine cs_top (y := nI (lo x2 N)) (cs_mask x2 (by omega)) ?_
  refine cs_calli (wc := (xC o a1 a2 a3 a4 c1 c2 c3 c4 (nI N) (nI h) (nI w) (nI y) (nI z) (nI c) f1 f2 f3 f4)) (wr := []) (va_runV (As := [.int (nI (lo x1 N)), .int (nI (lo x2 N))]) (rest := []) ⟨hx, hb, hml, hown, hts⟩ (c_append l tt s.heap.size dC dI o a1 a2 a3 a4 c1 c2 c3 c4 N h w y z c f1 f2 f3 f4 hN hNh hc (lo_lt x1 N) (lo_lt x2 N)) (cwV 2 hts gX0_some_X0_append rfl rfl rfl (by decide +kernel) ⟨Nat.le_of_ble_eq_true rfl, Nat.le_of_ble_eq_true rfl⟩) (wT_preV hP hK hD ((hT.kept hS.2.1).narrow (va_free hD hS hA [0, 1, 2, 3, 4] rfl)) (va_recv (q := (RX0, TX0, 10)) (q0 := 0) hK hP rfl rfl)) rfl rfl hl.1 rfl (lv_room (Nat.le_of_ble_eq_true rfl)) dX0_some_15 ⟨Nat.le_refl _, Nat.le_refl _⟩) hS hA hP hD [0, 1, 2, 3, 4] [] rfl rfl (by decide) (by decide) (fun r0 u H locs hr0 hP hD hS => ?_)
  have hP : va_P (dC, dI) vwCl (xC o a1 a2 a3 a4 c1 c2 c3 c4 (nI N) (nI h) (nI w) (nI y) (nI z) (nI (c + 1)) (upd f1 c (nI (lo x1 N % 2 ^ h))) (upd f2 c (nI (lo x2 N % 2 ^ h))) (upd f3 c (nI u.1)) (vp_updL f4 c u.2)) H := hP
  have hD : va_D A (xC o a1 a2 a3 a4 c1 c2 c3 c4 (nI N) (nI h) (nI w) (nI y) (nI z) (nI (c + 1)) (upd f1 c (nI (lo x1 N % 2 ^ h))) (upd f2 c (nI (lo x2 N % 2 ^ h))) (upd f3 c (nI u.1)) (vp_updL f4 c u.2)) := hD
  obtain ⟨rfl, hδ, hδb, hz9⟩ := hr0
  exact W.iret (v := nI (c + 1)) hx hb hr (fun t ht hW => ⟨⟨nI (c + 1), u, rfl, ⟨rfl, hδ, hδb, hz9⟩, by rw [ht]; exact hP, by rw [hAe]; exact hD⟩, hS.F ht⟩) hS.2.2 dX0_some_18
set_option maxHeartbeats 4000000 in
set_option maxRecDepth 100000 in
theorem c_drop_out (l : Launch) (dC : Nat → ClassId) (dI : Nat → Nat → Nat) (o a1 a2 a3 a4 : Nat) (c1 c2 c3 c4 : ClassId) (N h w y z c : Nat) (f1 f2 f3 : Nat → Int32) (f4 : Nat → Int64) {v : Int32} (hv : v < 0 ∨ nI c ≤ v) : Met l yX0_drop wsX0_drop ({ frames := 0, cells := 0, slots := 0, locals := 0 }) (va_Pc [.ref o, .int v] (rW (dC, dI) vwCl (xC o a1 a2 a3 a4 c1 c2 c3 c4 (nI N) (nI h) (nI w) (nI y) (nI z) (nI c) f1 f2 f3 f4) (xT c1 c2 c3 c4))) (vp_Si (fun r => r = -2)) 0 0 (fun _ => False) := by
  refine Met.ofW (cc := cX0_drop) (maxL := 2) (ret := some .int) (by decide) rfl ?_
  intro p e s m args below meth c0 s₁ B hml hv0
  obtain ⟨rfl, hP, hK⟩ := hv0
  have hx := B.exec
  have hb := B.bytes
  have hr := B.returns
  have hts := atoms_spec (ws := wsX0_drop) B.pre
  have hown : s.vm.findClass RX0 = some m.cls := findClass_of_methodNamed B.named
  have hlocks := B.notSynchronized
  have hP : va_P (dC, dI) vwCl (xC o a1 a2 a3 a4 c1 c2 c3 c4 (nI N) (nI h) (nI w) (nI y) (nI z) (nI c) f1 f2 f3 f4) s.heap := hP
  have hin0 : ∀ w ∈ u_ws RX0 TX0 10, w ∈ wsX0_drop := by decide +kernel
  have hl := lv_entry ([.ref o, .int v]) (n := 2) (Nat.le_of_ble_eq_true rfl)
  rw [lg_entry_eq]
  generalize (lg_sl ([.ref o, .int v]) ++ List.replicate (2 - (lg_sl ([.ref o, .int v])).length) Slot.unset).toArray = ls at hl ⊢
  have hl : lv_has ls 2 [(0, .ref o), (1, .int v)] := hl
  refine lv_iload_n hx hb dX0_drop_0 rfl (lv_at hl 1 rfl) ?_
  by_cases h0 : v < 0
  · refine lv_if_lt hx hb dX0_drop_1 (tgt := 12) (by decide) (fun _ => ?_) (fun hq => absurd (h0) hq)
    refine lv_bipush (v := (-2)) hx hb dX0_drop_12 (by decide) ?_
    exact W.iret (v := (-2)) hx hb hr (fun t ht hW => ⟨(-2), rfl, rfl, ht⟩) (fun q h => by cases h) dX0_drop_14
  · refine lv_if_lt hx hb dX0_drop_1 (tgt := 12) (by decide) (fun hq => absurd hq (h0)) (fun _ => ?_)
    refine lv_iload_n hx hb dX0_drop_4 rfl (lv_at hl 1 rfl) ?_
    refine lv_aload_n hx hb dX0_drop_5 rfl (lv_at hl 0 rfl) ?_
    refine va_get (D := (dC, dI)) (ci := 0) (v := .int (nI c)) (C := RX0) (T := TX0) (N := 10) hx hb hts hin0 hown hK hP 0 rfl rfl 5 (by decide) (hts (.fieldLink RX0 67 "ClauseSolver" "clauses" "I") (by decide +kernel)) (fun _ h9 => h9) rfl dX0_drop_6 ?_
    refine lv_icmp_lt hx hb dX0_drop_9 (tgt := 15) (by decide) (fun hq => absurd hq (Int32.not_lt.mpr (hv.resolve_left h0))) (fun _ => ?_)
    refine lv_bipush (v := (-2)) hx hb dX0_drop_12 (by decide) ?_
    exact W.iret (v := (-2)) hx hb hr (fun t ht hW => ⟨(-2), rfl, rfl, ht⟩) (fun q h => by cases h) dX0_drop_14
set_option maxHeartbeats 4000000 in
set_option maxRecDepth 100000 in
theorem c_drop (l : Launch) (sz : Nat) (dC : Nat → ClassId) (dI : Nat → Nat → Nat) (o a1 a2 a3 a4 : Nat) (c1 c2 c3 c4 : ClassId) (N h w y z c : Nat) (f1 f2 f3 : Nat → Int32) (f4 : Nat → Int64) (hc : c < 400) {j : Nat} (hj : j < c + 1) : Met l yX0_drop wsX0_drop ({ frames := 0, cells := 0, slots := 0, locals := 0 }) (va_Pc [.ref o, .int (nI j)] (wW (dC, dI) vwCl (xC o a1 a2 a3 a4 c1 c2 c3 c4 (nI N) (nI h) (nI w) (nI y) (nI z) (nI (c + 1)) f1 f2 f3 f4) (xT c1 c2 c3 c4) sz)) (va_Qi (fun (r : Int32) (u : Unit) => r = nI c) (oW (dC, dI) vwCl (xC o a1 a2 a3 a4 c1 c2 c3 c4 (nI N) (nI h) (nI w) (nI y) (nI z) (nI (c + 1)) f1 f2 f3 f4) sz (fun u : Unit => (xC o a1 a2 a3 a4 c1 c2 c3 c4 (nI N) (nI h) (nI w) (nI y) (nI z) (nI c) (upd f1 j (f1 c)) (upd f2 j (f2 c)) (upd f3 j (f3 c)) (vp_updL f4 j (f4 c))))) (va_A (xC o a1 a2 a3 a4 c1 c2 c3 c4 (nI N) (nI h) (nI w) (nI y) (nI z) (nI (c + 1)) f1 f2 f3 f4) sz)) 0 0 (va_A (xC o a1 a2 a3 a4 c1 c2 c3 c4 (nI N) (nI h) (nI w) (nI y) (nI z) (nI (c + 1)) f1 f2 f3 f4) sz) := by
  refine Met.ofW (cc := cX0_drop) (maxL := 2) (ret := some .int) (by decide) rfl ?_
  intro p e s m args below meth c0 s₁ B hml hv0
  obtain ⟨rfl, hsz, hP, hK, hD0⟩ := hv0
  have hx := B.exec
  have hb := B.bytes
  have hr := B.returns
  have hts := atoms_spec (ws := wsX0_drop) B.pre
  have hown : s.vm.findClass RX0 = some m.cls := findClass_of_methodNamed B.named
  have hlocks := B.notSynchronized
  subst hsz
  have hD := hD0.self (sz := s.heap.size)
  generalize hAe : va_A (xC o a1 a2 a3 a4 c1 c2 c3 c4 (nI N) (nI h) (nI w) (nI y) (nI z) (nI (c + 1)) f1 f2 f3 f4) s.heap.size = A at hD ⊢
  have hA : ∀ q : Nat, s.heap.size ≤ q → A q := fun q h => by rw [← hAe]; exact Or.inr h
  have hS : va_S A s.heap s.heap [] := va_S.rf
  have hP : va_P (dC, dI) vwCl (xC o a1 a2 a3 a4 c1 c2 c3 c4 (nI N) (nI h) (nI w) (nI y) (nI z) (nI (c + 1)) f1 f2 f3 f4) s.heap := hP
  have hin0 : ∀ w ∈ u_ws RX0 TX0 10, w ∈ wsX0_drop := by decide +kernel
  have hl := lv_entry ([.ref o, .int (nI j)]) (n := 2) (Nat.le_of_ble_eq_true rfl)
  rw [lg_entry_eq]
  generalize (lg_sl ([.ref o, .int (nI j)]) ++ List.replicate (2 - (lg_sl ([.ref o, .int (nI j)])).length) Slot.unset).toArray = ls at hl ⊢
  have hl : lv_has ls 2 [(0, .ref o), (1, .int (nI j))] := hl
  refine lv_iload_n hx hb dX0_drop_0 rfl (lv_at hl 1 rfl) ?_
  refine lv_if_lt hx hb dX0_drop_1 (tgt := 12) (by decide) (fun hq => absurd hq (nI_pos (by omega))) (fun _ => ?_)
  refine lv_iload_n hx hb dX0_drop_4 rfl (lv_at hl 1 rfl) ?_
  refine lv_aload_n hx hb dX0_drop_5 rfl (lv_at hl 0 rfl) ?_
  refine va_get (D := (dC, dI)) (ci := 0) (v := .int (nI (c + 1))) (C := RX0) (T := TX0) (N := 10) hx hb hts hin0 hown hK hP 0 rfl rfl 5 (by decide) (hts (.fieldLink RX0 67 "ClauseSolver" "clauses" "I") (by decide +kernel)) (fun _ h9 => h9) rfl dX0_drop_6 ?_
  refine lv_icmp_lt hx hb dX0_drop_9 (tgt := 15) (by decide) (fun _ => ?_) (fun hq => absurd (nI_lt hj (by omega)) hq)
  refine lv_aload_n hx hb dX0_drop_15 rfl (lv_at hl 0 rfl) ?_
  refine lv_dup hx hb dX0_drop_16 rfl ?_
  refine va_get (D := (dC, dI)) (ci := 0) (v := .int (nI (c + 1))) (C := RX0) (T := TX0) (N := 10) hx hb hts hin0 hown hK hP 0 rfl rfl 5 (by decide) (hts (.fieldLink RX0 67 "ClauseSolver" "clauses" "I") (by decide +kernel)) (fun _ h9 => h9) rfl dX0_drop_17 ?_
  refine lv_iconst (v := nI 1) hx hb dX0_drop_20 (by decide) ?_
  refine lv_isub hx hb dX0_drop_21 ?_
  refine cs_top (y := nI c) (pk_sub (by omega)) ?_
  refine va_put (D := (dC, dI)) (ci := 0) (v := .int (nI c)) (ty := .int) (C := RX0) (T := TX0) (N := 10) hx hb hts hin0 tyX0 tyX0_ok nmX0 hown hK hP hD hS 0 rfl rfl 5 (by decide) (hts (.fieldLink RX0 67 "ClauseSolver" "clauses" "I") (by decide +kernel)) (fun _ h9 => h9) rfl (by decide +kernel) rfl rfl (Nat.le_of_ble_eq_true rfl) dX0_drop_22 (fun H locs hP hD hS => ?_)
  have hP : va_P (dC, dI) vwCl (xC o a1 a2 a3 a4 c1 c2 c3 c4 (nI N) (nI h) (nI w) (nI y) (nI z) (nI c) f1 f2 f3 f4) H := hP
  have hD : va_D A (xC o a1 a2 a3 a4 c1 c2 c3 c4 (nI N) (nI h) (nI w) (nI y) (nI z) (nI c) f1 f2 f3 f4) := hD
  refine lv_aload_n hx hb dX0_drop_25 rfl (lv_at hl 0 rfl) ?_
  refine va_get (D := (dC, dI)) (ci := 0) (v := .ref a1) (C := RX0) (T := TX0) (N := 10) hx hb hts hin0 hown hK hP 0 rfl rfl 6 (by decide) (hts (.fieldLink RX0 25 "ClauseSolver" "headTrue" "[I") (by decide +kernel)) (fun _ h9 => h9) rfl dX0_drop_26 ?_
  refine lv_iload_n hx hb dX0_drop_29 rfl (lv_at hl 1 rfl) ?_
  refine lv_aload_n hx hb dX0_drop_30 rfl (lv_at hl 0 rfl) ?_
  refine va_get (D := (dC, dI)) (ci := 0) (v := .ref a1) (C := RX0) (T := TX0) (N := 10) hx hb hts hin0 hown hK hP 0 rfl rfl 6 (by decide) (hts (.fieldLink RX0 25 "ClauseSolver" "headTrue" "[I") (by decide +kernel)) (fun _ h9 => h9) rfl dX0_drop_31 ?_
  refine lv_aload_n hx hb dX0_drop_34 rfl (lv_at hl 0 rfl) ?_
  refine va_get (D := (dC, dI)) (ci := 0) (v := .int (nI c)) (C := RX0) (T := TX0) (N := 10) hx hb hts hin0 hown hK hP 0 rfl rfl 5 (by decide) (hts (.fieldLink RX0 67 "ClauseSolver" "clauses" "I") (by decide +kernel)) (fun _ h9 => h9) rfl dX0_drop_35 ?_
  refine cs_iald hx hb hK hP 1 0 rfl rfl (hc) (by decide) dX0_drop_38 ?_
  refine cs_iast hx hb hK hP hD hS 1 0 rfl rfl (by omega) (by decide) dX0_drop_39 (fun H locs hP hD hS => ?_)
  have hP : va_P (dC, dI) vwCl (xC o a1 a2 a3 a4 c1 c2 c3 c4 (nI N) (nI h) (nI w) (nI y) (nI z) (nI c) (upd f1 j (f1 c)) f2 f3 f4) H := hP
  have hD : va_D A (xC o a1 a2 a3 a4 c1 c2 c3 c4 (nI N) (nI h) (nI w) (nI y) (nI z) (nI c) (upd f1 j (f1 c)) f2 f3 f4) := hD
  refine lv_aload_n hx hb dX0_drop_40 rfl (lv_at hl 0 rfl) ?_
  refine va_get (D := (dC, dI)) (ci := 0) (v := .ref a2) (C := RX0) (T := TX0) (N := 10) hx hb hts hin0 hown hK hP 0 rfl rfl 7 (by decide) (hts (.fieldLink RX0 29 "ClauseSolver" "headFalse" "[I") (by decide +kernel)) (fun _ h9 => h9) rfl dX0_drop_41 ?_
  refine lv_iload_n hx hb dX0_drop_44 rfl (lv_at hl 1 rfl) ?_
  refine lv_aload_n hx hb dX0_drop_45 rfl (lv_at hl 0 rfl) ?_
  refine va_get (D := (dC, dI)) (ci := 0) (v := .ref a2) (C := RX0) (T := TX0) (N := 10) hx hb hts hin0 hown hK hP 0 rfl rfl 7 (by decide) (hts (.fieldLink RX0 29 "ClauseSolver" "headFalse" "[I") (by decide +kernel)) (fun _ h9 => h9) rfl dX0_drop_46 ?_
  refine lv_aload_n hx hb dX0_drop_49 rfl (lv_at hl 0 rfl) ?_
  refine va_get (D := (dC, dI)) (ci := 0) (v := .int (nI c)) (C := RX0) (T := TX0) (N := 10) hx hb hts hin0 hown hK hP 0 rfl rfl 5 (by decide) (hts (.fieldLink RX0 67 "ClauseSolver" "clauses" "I") (by decide +kernel)) (fun _ h9 => h9) rfl dX0_drop_50 ?_
  refine cs_iald hx hb hK hP 2 1 rfl rfl (hc) (by decide) dX0_drop_53 ?_
  refine cs_iast hx hb hK hP hD hS 2 1 rfl rfl (by omega) (by decide) dX0_drop_54 (fun H locs hP hD hS => ?_)
  have hP : va_P (dC, dI) vwCl (xC o a1 a2 a3 a4 c1 c2 c3 c4 (nI N) (nI h) (nI w) (nI y) (nI z) (nI c) (upd f1 j (f1 c)) (upd f2 j (f2 c)) f3 f4) H := hP
  have hD : va_D A (xC o a1 a2 a3 a4 c1 c2 c3 c4 (nI N) (nI h) (nI w) (nI y) (nI z) (nI c) (upd f1 j (f1 c)) (upd f2 j (f2 c)) f3 f4) := hD
  refine lv_aload_n hx hb dX0_drop_55 rfl (lv_at hl 0 rfl) ?_
  refine va_get (D := (dC, dI)) (ci := 0) (v := .ref a3) (C := RX0) (T := TX0) (N := 10) hx hb hts hin0 hown hK hP 0 rfl rfl 8 (by decide) (hts (.fieldLink RX0 32 "ClauseSolver" "depths" "[I") (by decide +kernel)) (fun _ h9 => h9) rfl dX0_drop_56 ?_
  refine lv_iload_n hx hb dX0_drop_59 rfl (lv_at hl 1 rfl) ?_
  refine lv_aload_n hx hb dX0_drop_60 rfl (lv_at hl 0 rfl) ?_
  refine va_get (D := (dC, dI)) (ci := 0) (v := .ref a3) (C := RX0) (T := TX0) (N := 10) hx hb hts hin0 hown hK hP 0 rfl rfl 8 (by decide) (hts (.fieldLink RX0 32 "ClauseSolver" "depths" "[I") (by decide +kernel)) (fun _ h9 => h9) rfl dX0_drop_61 ?_
  refine lv_aload_n hx hb dX0_drop_64 rfl (lv_at hl 0 rfl) ?_
  refine va_get (D := (dC, dI)) (ci := 0) (v := .int (nI c)) (C := RX0) (T := TX0) (N := 10) hx hb hts hin0 hown hK hP 0 rfl rfl 5 (by decide) (hts (.fieldLink RX0 67 "ClauseSolver" "clauses" "I") (by decide +kernel)) (fun _ h9 => h9) rfl dX0_drop_65 ?_
  refine cs_iald hx hb hK hP 3 2 rfl rfl (hc) (by decide) dX0_drop_68 ?_
  refine cs_iast hx hb hK hP hD hS 3 2 rfl rfl (by omega) (by decide) dX0_drop_69 (fun H locs hP hD hS => ?_)
  have hP : va_P (dC, dI) vwCl (xC o a1 a2 a3 a4 c1 c2 c3 c4 (nI N) (nI h) (nI w) (nI y) (nI z) (nI c) (upd f1 j (f1 c)) (upd f2 j (f2 c)) (upd f3 j (f3 c)) f4) H := hP
  have hD : va_D A (xC o a1 a2 a3 a4 c1 c2 c3 c4 (nI N) (nI h) (nI w) (nI y) (nI z) (nI c) (upd f1 j (f1 c)) (upd f2 j (f2 c)) (upd f3 j (f3 c)) f4) := hD
  refine lv_aload_n hx hb dX0_drop_70 rfl (lv_at hl 0 rfl) ?_
  refine va_get (D := (dC, dI)) (ci := 0) (v := .ref a4) (C := RX0) (T := TX0) (N := 10) hx hb hts hin0 hown hK hP 0 rfl rfl 9 (by decide) (hts (.fieldLink RX0 35 "ClauseSolver" "tails" "[J") (by decide +kernel)) (fun _ h9 => h9) rfl dX0_drop_71 ?_
  refine lv_iload_n hx hb dX0_drop_74 rfl (lv_at hl 1 rfl) ?_
  refine lv_aload_n hx hb dX0_drop_75 rfl (lv_at hl 0 rfl) ?_
  refine va_get (D := (dC, dI)) (ci := 0) (v := .ref a4) (C := RX0) (T := TX0) (N := 10) hx hb hts hin0 hown hK hP 0 rfl rfl 9 (by decide) (hts (.fieldLink RX0 35 "ClauseSolver" "tails" "[J") (by decide +kernel)) (fun _ h9 => h9) rfl dX0_drop_76 ?_
  refine lv_aload_n hx hb dX0_drop_79 rfl (lv_at hl 0 rfl) ?_
  refine va_get (D := (dC, dI)) (ci := 0) (v := .int (nI c)) (C := RX0) (T := TX0) (N := 10) hx hb hts hin0 hown hK hP 0 rfl rfl 5 (by decide) (hts (.fieldLink RX0 67 "ClauseSolver" "clauses" "I") (by decide +kernel)) (fun _ h9 => h9) rfl dX0_drop_80 ?_
  refine cs_lald hx hb hK hP 4 3 rfl rfl (hc) (by decide) dX0_drop_83 ?_
  refine cs_last hx hb hK hP hD hS 4 3 rfl rfl (by omega) (by decide) dX0_drop_84 (fun H locs hP hD hS => ?_)
  have hP : va_P (dC, dI) vwCl (xC o a1 a2 a3 a4 c1 c2 c3 c4 (nI N) (nI h) (nI w) (nI y) (nI z) (nI c) (upd f1 j (f1 c)) (upd f2 j (f2 c)) (upd f3 j (f3 c)) (vp_updL f4 j (f4 c))) H := hP
  have hD : va_D A (xC o a1 a2 a3 a4 c1 c2 c3 c4 (nI N) (nI h) (nI w) (nI y) (nI z) (nI c) (upd f1 j (f1 c)) (upd f2 j (f2 c)) (upd f3 j (f3 c)) (vp_updL f4 j (f4 c))) := hD
  refine lv_aload_n hx hb dX0_drop_85 rfl (lv_at hl 0 rfl) ?_
  refine va_get (D := (dC, dI)) (ci := 0) (v := .int (nI c)) (C := RX0) (T := TX0) (N := 10) hx hb hts hin0 hown hK hP 0 rfl rfl 5 (by decide) (hts (.fieldLink RX0 67 "ClauseSolver" "clauses" "I") (by decide +kernel)) (fun _ h9 => h9) rfl dX0_drop_86 ?_
  exact W.iret (v := nI c) hx hb hr (fun t ht hW => ⟨⟨nI c, (), rfl, rfl, by rw [ht]; exact hP, by rw [hAe]; exact hD⟩, hS.F ht⟩) hS.2.2 dX0_drop_89
set_option maxHeartbeats 4000000 in
set_option maxRecDepth 100000 in
theorem c_wish_out (l : Launch) (dC : Nat → ClassId) (dI : Nat → Nat → Nat) (o a1 a2 a3 a4 : Nat) (c1 c2 c3 c4 : ClassId) (N h w y z c : Nat) (f1 f2 f3 : Nat → Int32) (f4 : Nat → Int64) {v : Int32} (hv : v < 0 ∨ nI N ≤ v) (x2 : Int32) : Met l yX0_wish wsX0_wish ({ frames := 1, cells := 0, slots := 0, locals := 30 }) (va_Pc [.ref o, .int v, .int x2] (rW (dC, dI) vwCl (xC o a1 a2 a3 a4 c1 c2 c3 c4 (nI N) (nI h) (nI w) (nI y) (nI z) (nI c) f1 f2 f3 f4) (xT c1 c2 c3 c4))) (vp_Si (fun r => r = nI 0)) 0 0 (fun _ => False) := by
  refine Met.ofW (cc := cX0_wish) (maxL := 4) (ret := some .boolean) (by decide) rfl ?_
  intro p e s m args below meth c0 s₁ B hml hv0
  obtain ⟨rfl, hP, hK⟩ := hv0
  have hx := B.exec
  have hb := B.bytes
  have hr := B.returns
  have hts := atoms_spec (ws := wsX0_wish) B.pre
  have hown : s.vm.findClass RX0 = some m.cls := findClass_of_methodNamed B.named
  have hlocks := B.notSynchronized
  have hP : va_P (dC, dI) vwCl (xC o a1 a2 a3 a4 c1 c2 c3 c4 (nI N) (nI h) (nI w) (nI y) (nI z) (nI c) f1 f2 f3 f4) s.heap := hP
  have hin0 : ∀ w ∈ u_ws RX0 TX0 10, w ∈ wsX0_wish := by decide +kernel
  have hl := lv_entry ([.ref o, .int v, .int x2]) (n := 4) (Nat.le_of_ble_eq_true rfl)
  rw [lg_entry_eq]
  generalize (lg_sl ([.ref o, .int v, .int x2]) ++ List.replicate (4 - (lg_sl ([.ref o, .int v, .int x2])).length) Slot.unset).toArray = ls at hl ⊢
  have hl : lv_has ls 4 [(0, .ref o), (1, .int v), (2, .int x2)] := hl
  refine lv_aload_n hx hb dX0_wish_0 rfl (lv_at hl 0 rfl) ?_
  refine lv_iload_n hx hb dX0_wish_1 rfl (lv_at hl 1 rfl) ?_
  refine vp_callSi (W.runV (As := [.int v]) (rest := []) ⟨hx, hb, hml, hown, hts⟩ (c_isVariable_out l dC dI o a1 a2 a3 a4 c1 c2 c3 c4 N h w y z c f1 f2 f3 f4 hv) (cwV 1 hts gX0_wish_X0_isVariable rfl rfl rfl (by decide +kernel) ⟨Nat.le_of_ble_eq_true rfl, Nat.le_of_ble_eq_true rfl⟩) (rW_preV hP hK (va_recv (q := (RX0, TX0, 10)) (q0 := 0) hK hP rfl rfl)) rfl rfl hl.1 rfl (lv_room (Nat.le_of_ble_eq_true rfl)) dX0_wish_2 ⟨Nat.le_refl _, Nat.le_refl _⟩) (fun r0 hr0 => ?_)
  subst hr0
  refine lv_if_ne hx hb dX0_wish_5 (tgt := 10) (by decide) (fun hq => absurd (nI_0) hq) (fun _ => ?_)
  refine lv_iconst (v := nI 0) hx hb dX0_wish_8 (by decide) ?_
  exact W.zret (ty := .boolean) (v := nI 0) hx hb hr (by first | rfl | decide) (fun t ht hW => ⟨nI 0, rfl, rfl, ht⟩) (fun q h => by cases h) dX0_wish_9
set_option maxHeartbeats 4000000 in
set_option maxRecDepth 100000 in
theorem c_wish (l : Launch) (sz : Nat) (dC : Nat → ClassId) (dI : Nat → Nat → Nat) (o a1 a2 a3 a4 : Nat) (c1 c2 c3 c4 : ClassId) (N h w y z c : Nat) (f1 f2 f3 : Nat → Int32) (f4 : Nat → Int64) (hN : N ≤ 16) (hw : w < 2 ^ N) {j : Nat} (hj : j < N) (b : Bool) : Met l yX0_wish wsX0_wish ({ frames := 1, cells := 0, slots := 0, locals := 30 }) (va_Pc [.ref o, .int (nI j), .int (bI b)] (wW (dC, dI) vwCl (xC o a1 a2 a3 a4 c1 c2 c3 c4 (nI N) (nI h) (nI w) (nI y) (nI z) (nI c) f1 f2 f3 f4) (xT c1 c2 c3 c4) sz)) (va_Qi (fun (r : Int32) (u : Unit) => r = bI (w.testBit j)) (oW (dC, dI) vwCl (xC o a1 a2 a3 a4 c1 c2 c3 c4 (nI N) (nI h) (nI w) (nI y) (nI z) (nI c) f1 f2 f3 f4) sz (fun u : Unit => (xC o a1 a2 a3 a4 c1 c2 c3 c4 (nI N) (nI h) (nI (wsh w j b)) (nI y) (nI z) (nI c) f1 f2 f3 f4))) (va_A (xC o a1 a2 a3 a4 c1 c2 c3 c4 (nI N) (nI h) (nI w) (nI y) (nI z) (nI c) f1 f2 f3 f4) sz)) 0 0 (va_A (xC o a1 a2 a3 a4 c1 c2 c3 c4 (nI N) (nI h) (nI w) (nI y) (nI z) (nI c) f1 f2 f3 f4) sz) := by
  refine Met.ofW (cc := cX0_wish) (maxL := 4) (ret := some .boolean) (by decide) rfl ?_
  intro p e s m args below meth c0 s₁ B hml hv0
  obtain ⟨rfl, hsz, hP, hK, hD0⟩ := hv0
  have hx := B.exec
  have hb := B.bytes
  have hr := B.returns
  have hts := atoms_spec (ws := wsX0_wish) B.pre
  have hown : s.vm.findClass RX0 = some m.cls := findClass_of_methodNamed B.named
  have hlocks := B.notSynchronized
  subst hsz
  have hD := hD0.self (sz := s.heap.size)
  generalize hAe : va_A (xC o a1 a2 a3 a4 c1 c2 c3 c4 (nI N) (nI h) (nI w) (nI y) (nI z) (nI c) f1 f2 f3 f4) s.heap.size = A at hD ⊢
  have hA : ∀ q : Nat, s.heap.size ≤ q → A q := fun q h => by rw [← hAe]; exact Or.inr h
  have hS : va_S A s.heap s.heap [] := va_S.rf
  have hP : va_P (dC, dI) vwCl (xC o a1 a2 a3 a4 c1 c2 c3 c4 (nI N) (nI h) (nI w) (nI y) (nI z) (nI c) f1 f2 f3 f4) s.heap := hP
  have hin0 : ∀ w ∈ u_ws RX0 TX0 10, w ∈ wsX0_wish := by decide +kernel
  have hl := lv_entry ([.ref o, .int (nI j), .int (bI b)]) (n := 4) (Nat.le_of_ble_eq_true rfl)
  rw [lg_entry_eq]
  generalize (lg_sl ([.ref o, .int (nI j), .int (bI b)]) ++ List.replicate (4 - (lg_sl ([.ref o, .int (nI j), .int (bI b)])).length) Slot.unset).toArray = ls at hl ⊢
  have hl : lv_has ls 4 [(0, .ref o), (1, .int (nI j)), (2, .int (bI b))] := hl
  have hw5 := cs_N31 hN hw
  refine lv_aload_n hx hb dX0_wish_0 rfl (lv_at hl 0 rfl) ?_
  refine lv_iload_n hx hb dX0_wish_1 rfl (lv_at hl 1 rfl) ?_
  refine vp_callSi (W.runV (As := [.int (nI j)]) (rest := []) ⟨hx, hb, hml, hown, hts⟩ (c_isVariable_in l dC dI o a1 a2 a3 a4 c1 c2 c3 c4 N h w y z c f1 f2 f3 f4 hN hj) (cwV 1 hts gX0_wish_X0_isVariable rfl rfl rfl (by decide +kernel) ⟨Nat.le_of_ble_eq_true rfl, Nat.le_of_ble_eq_true rfl⟩) (rW_preV hP hK (va_recv (q := (RX0, TX0, 10)) (q0 := 0) hK hP rfl rfl)) rfl rfl hl.1 rfl (lv_room (Nat.le_of_ble_eq_true rfl)) dX0_wish_2 ⟨Nat.le_refl _, Nat.le_refl _⟩) (fun r0 hr0 => ?_)
  subst hr0
  refine lv_if_ne hx hb dX0_wish_5 (tgt := 10) (by decide) (fun _ => ?_) (fun hq => absurd hq (by decide))
  refine lv_aload_n hx hb dX0_wish_10 rfl (lv_at hl 0 rfl) ?_
  refine va_get (D := (dC, dI)) (ci := 0) (v := .int (nI w)) (C := RX0) (T := TX0) (N := 10) hx hb hts hin0 hown hK hP 0 rfl rfl 2 (by decide) (hts (.fieldLink RX0 43 "ClauseSolver" "wishes" "I") (by decide +kernel)) (fun _ h9 => h9) rfl dX0_wish_11 ?_
  refine lv_iload_n hx hb dX0_wish_14 rfl (lv_at hl 1 rfl) ?_
  refine vp_callSi (W.runS (As := [.int (nI w), .int (nI j)]) (rest := []) ⟨hx, hb, hml, hown, hts⟩ (c_has l (by omega) (by omega)) (va_cwS 2 hts gX0_wish_X0_has rfl rfl rfl (by decide +kernel) ⟨Nat.le_of_ble_eq_true rfl, Nat.le_of_ble_eq_true rfl⟩) (nW_preS) rfl rfl hl.1 rfl (lv_room (Nat.le_of_ble_eq_true rfl)) dX0_wish_15 ⟨Nat.le_refl _, Nat.le_refl _⟩) (fun r0 hr0 => ?_)
  subst hr0
  refine lv_istore_n hx hb dX0_wish_18 rfl hl (by decide) rfl (fun ls hl => ?_)
  have hl : lv_has ls 4 [(3, .int (bI (w.testBit j))), (0, .ref o), (1, .int (nI j)), (2, .int (bI b))] := hl
  refine lv_aload_n hx hb dX0_wish_19 rfl (lv_at hl 1 rfl) ?_
  refine lv_iload_n hx hb dX0_wish_20 rfl (lv_at hl 3 rfl) ?_
  cases b with
  | true =>
    refine lv_if_eq hx hb dX0_wish_21 (tgt := 35) (by decide) (fun hq => absurd hq (by decide)) (fun _ => ?_)
    refine lv_aload_n hx hb dX0_wish_24 rfl (lv_at hl 1 rfl) ?_
    refine va_get (D := (dC, dI)) (ci := 0) (v := .int (nI w)) (C := RX0) (T := TX0) (N := 10) hx hb hts hin0 hown hK hP 0 rfl rfl 2 (by decide) (hts (.fieldLink RX0 43 "ClauseSolver" "wishes" "I") (by decide +kernel)) (fun _ h9 => h9) rfl dX0_wish_25 ?_
    refine lv_iconst (v := nI 1) hx hb dX0_wish_28 (by decide) ?_
    refine lv_iload_n hx hb dX0_wish_29 rfl (lv_at hl 2 rfl) ?_
    refine lv_ishl hx hb dX0_wish_30 ?_
    refine cs_top (y := nI (2 ^ j)) (cs_one (by omega)) ?_
    refine lv_ior hx hb dX0_wish_31 ?_
    refine cs_top (y := nI (w ||| (2 ^ j))) (cs_or w (2 ^ j)) ?_
    refine lv_goto hx hb dX0_wish_32 (tgt := 45) (by decide) ?_
    refine cs_top (y := nI (wsh w j true)) (rfl) ?_
    refine va_put (D := (dC, dI)) (ci := 0) (v := .int (nI (wsh w j true))) (ty := .int) (C := RX0) (T := TX0) (N := 10) hx hb hts hin0 tyX0 tyX0_ok nmX0 hown hK hP hD hS 0 rfl rfl 2 (by decide) (hts (.fieldLink RX0 43 "ClauseSolver" "wishes" "I") (by decide +kernel)) (fun _ h9 => h9) rfl (by decide +kernel) rfl rfl (Nat.le_of_ble_eq_true rfl) dX0_wish_45 (fun H locs hP hD hS => ?_)
    have hP : va_P (dC, dI) vwCl (xC o a1 a2 a3 a4 c1 c2 c3 c4 (nI N) (nI h) (nI (wsh w j true)) (nI y) (nI z) (nI c) f1 f2 f3 f4) H := hP
    have hD : va_D A (xC o a1 a2 a3 a4 c1 c2 c3 c4 (nI N) (nI h) (nI (wsh w j true)) (nI y) (nI z) (nI c) f1 f2 f3 f4) := hD
    refine lv_iload_n hx hb dX0_wish_48 rfl (lv_at hl 0 rfl) ?_
    exact W.zret (ty := .boolean) (v := bI (w.testBit j)) hx hb hr (bI_nar _) (fun t ht hW => ⟨⟨bI (w.testBit j), (), rfl, rfl, by rw [ht]; exact hP, by rw [hAe]; exact hD⟩, hS.F ht⟩) hS.2.2 dX0_wish_49
  | false =>
    refine lv_if_eq hx hb dX0_wish_21 (tgt := 35) (by decide) (fun _ => ?_) (fun hq => absurd (nI_0) hq)
    refine lv_aload_n hx hb dX0_wish_35 rfl (lv_at hl 1 rfl) ?_
    refine va_get (D := (dC, dI)) (ci := 0) (v := .int (nI w)) (C := RX0) (T := TX0) (N := 10) hx hb hts hin0 hown hK hP 0 rfl rfl 2 (by decide) (hts (.fieldLink RX0 43 "ClauseSolver" "wishes" "I") (by decide +kernel)) (fun _ h9 => h9) rfl dX0_wish_36 ?_
    refine lv_iconst (v := nI 1) hx hb dX0_wish_39 (by decide) ?_
    refine lv_iload_n hx hb dX0_wish_40 rfl (lv_at hl 2 rfl) ?_
    refine lv_ishl hx hb dX0_wish_41 ?_
    refine cs_top (y := nI (2 ^ j)) (cs_one (by omega)) ?_
    refine lv_iconst (v := nI 4294967295) hx hb dX0_wish_42 (by decide) ?_
    refine lv_ixor hx hb dX0_wish_43 ?_
    refine cs_top (y := nI ((2 ^ j) ^^^ 4294967295)) (cs_xor (2 ^ j) 4294967295) ?_
    refine lv_iand hx hb dX0_wish_44 ?_
    refine cs_top (y := nI (w &&& ((2 ^ j) ^^^ 4294967295))) (cs_and w ((2 ^ j) ^^^ 4294967295)) ?_
    refine cs_top (y := nI (wsh w j false)) (rfl) ?_
    refine va_put (D := (dC, dI)) (ci := 0) (v := .int (nI (wsh w j false))) (ty := .int) (C := RX0) (T := TX0) (N := 10) hx hb hts hin0 tyX0 tyX0_ok nmX0 hown hK hP hD hS 0 rfl rfl 2 (by decide) (hts (.fieldLink RX0 43 "ClauseSolver" "wishes" "I") (by decide +kernel)) (fun _ h9 => h9) rfl (by decide +kernel) rfl rfl (Nat.le_of_ble_eq_true rfl) dX0_wish_45 (fun H locs hP hD hS => ?_)
    have hP : va_P (dC, dI) vwCl (xC o a1 a2 a3 a4 c1 c2 c3 c4 (nI N) (nI h) (nI (wsh w j false)) (nI y) (nI z) (nI c) f1 f2 f3 f4) H := hP
    have hD : va_D A (xC o a1 a2 a3 a4 c1 c2 c3 c4 (nI N) (nI h) (nI (wsh w j false)) (nI y) (nI z) (nI c) f1 f2 f3 f4) := hD
    refine lv_iload_n hx hb dX0_wish_48 rfl (lv_at hl 0 rfl) ?_
    exact W.zret (ty := .boolean) (v := bI (w.testBit j)) hx hb hr (bI_nar _) (fun t ht hW => ⟨⟨bI (w.testBit j), (), rfl, rfl, by rw [ht]; exact hP, by rw [hAe]; exact hD⟩, hS.F ht⟩) hS.2.2 dX0_wish_49
set_option maxHeartbeats 4000000 in
set_option maxRecDepth 100000 in
theorem c_literal_out (l : Launch) (dC : Nat → ClassId) (dI : Nat → Nat → Nat) (o a1 a2 a3 a4 : Nat) (c1 c2 c3 c4 : ClassId) (N h w y z c : Nat) (f1 f2 f3 : Nat → Int32) (f4 : Nat → Int64) {v : Int32} (hv : v < 0 ∨ nI N ≤ v) (x2 : Int32) : Met l yX0_literal wsX0_literal ({ frames := 1, cells := 0, slots := 0, locals := 30 }) (va_Pc [.ref o, .int v, .int x2] (rW (dC, dI) vwCl (xC o a1 a2 a3 a4 c1 c2 c3 c4 (nI N) (nI h) (nI w) (nI y) (nI z) (nI c) f1 f2 f3 f4) (xT c1 c2 c3 c4))) (vp_Si (fun r => r = -1)) 0 0 (fun _ => False) := by
  refine Met.ofW (cc := cX0_literal) (maxL := 3) (ret := some .int) (by decide) rfl ?_
  intro p e s m args below meth c0 s₁ B hml hv0
  obtain ⟨rfl, hP, hK⟩ := hv0
  have hx := B.exec
  have hb := B.bytes
  have hr := B.returns
  have hts := atoms_spec (ws := wsX0_literal) B.pre
  have hown : s.vm.findClass RX0 = some m.cls := findClass_of_methodNamed B.named
  have hlocks := B.notSynchronized
  have hP : va_P (dC, dI) vwCl (xC o a1 a2 a3 a4 c1 c2 c3 c4 (nI N) (nI h) (nI w) (nI y) (nI z) (nI c) f1 f2 f3 f4) s.heap := hP
  have hin0 : ∀ w ∈ u_ws RX0 TX0 10, w ∈ wsX0_literal := by decide +kernel
  have hl := lv_entry ([.ref o, .int v, .int x2]) (n := 3) (Nat.le_of_ble_eq_true rfl)
  rw [lg_entry_eq]
  generalize (lg_sl ([.ref o, .int v, .int x2]) ++ List.replicate (3 - (lg_sl ([.ref o, .int v, .int x2])).length) Slot.unset).toArray = ls at hl ⊢
  have hl : lv_has ls 3 [(0, .ref o), (1, .int v), (2, .int x2)] := hl
  refine lv_aload_n hx hb dX0_literal_0 rfl (lv_at hl 0 rfl) ?_
  refine lv_iload_n hx hb dX0_literal_1 rfl (lv_at hl 1 rfl) ?_
  refine vp_callSi (W.runV (As := [.int v]) (rest := []) ⟨hx, hb, hml, hown, hts⟩ (c_isVariable_out l dC dI o a1 a2 a3 a4 c1 c2 c3 c4 N h w y z c f1 f2 f3 f4 hv) (cwV 1 hts gX0_literal_X0_isVariable rfl rfl rfl (by decide +kernel) ⟨Nat.le_of_ble_eq_true rfl, Nat.le_of_ble_eq_true rfl⟩) (rW_preV hP hK (va_recv (q := (RX0, TX0, 10)) (q0 := 0) hK hP rfl rfl)) rfl rfl hl.1 rfl (lv_room (Nat.le_of_ble_eq_true rfl)) dX0_literal_2 ⟨Nat.le_refl _, Nat.le_refl _⟩) (fun r0 hr0 => ?_)
  subst hr0
  refine lv_if_ne hx hb dX0_literal_5 (tgt := 10) (by decide) (fun hq => absurd (nI_0) hq) (fun _ => ?_)
  refine lv_iconst (v := (-1)) hx hb dX0_literal_8 (by decide) ?_
  exact W.iret (v := (-1)) hx hb hr (fun t ht hW => ⟨(-1), rfl, rfl, ht⟩) (fun q h => by cases h) dX0_literal_9
set_option maxHeartbeats 4000000 in
set_option maxRecDepth 100000 in
theorem c_literal (l : Launch) (sz : Nat) (dC : Nat → ClassId) (dI : Nat → Nat → Nat) (o a1 a2 a3 a4 : Nat) (c1 c2 c3 c4 : ClassId) (N h w y z c : Nat) (f1 f2 f3 : Nat → Int32) (f4 : Nat → Int64) (hN : N ≤ 16) (hy : y < 2 ^ N) (hz : z < 2 ^ N) {j : Nat} (hj : j < N) (b : Bool) : Met l yX0_literal wsX0_literal ({ frames := 2, cells := 0, slots := 0, locals := 60 }) (va_Pc [.ref o, .int (nI j), .int (bI b)] (wW (dC, dI) vwCl (xC o a1 a2 a3 a4 c1 c2 c3 c4 (nI N) (nI h) (nI w) (nI y) (nI z) (nI c) f1 f2 f3 f4) (xT c1 c2 c3 c4) sz)) (va_Qi (fun (r : Int32) (u : Unit) => r = nI (pcs (lt1 y j b) 16 + pcs (lt0 z j b) 16)) (oW (dC, dI) vwCl (xC o a1 a2 a3 a4 c1 c2 c3 c4 (nI N) (nI h) (nI w) (nI y) (nI z) (nI c) f1 f2 f3 f4) sz (fun u : Unit => (xC o a1 a2 a3 a4 c1 c2 c3 c4 (nI N) (nI h) (nI w) (nI (lt1 y j b)) (nI (lt0 z j b)) (nI c) f1 f2 f3 f4))) (va_A (xC o a1 a2 a3 a4 c1 c2 c3 c4 (nI N) (nI h) (nI w) (nI y) (nI z) (nI c) f1 f2 f3 f4) sz)) 0 0 (va_A (xC o a1 a2 a3 a4 c1 c2 c3 c4 (nI N) (nI h) (nI w) (nI y) (nI z) (nI c) f1 f2 f3 f4) sz) := by
  refine Met.ofW (cc := cX0_literal) (maxL := 3) (ret := some .int) (by decide) rfl ?_
  intro p e s m args below meth c0 s₁ B hml hv0
  obtain ⟨rfl, hsz, hP, hK, hD0⟩ := hv0
  have hx := B.exec
  have hb := B.bytes
  have hr := B.returns
  have hts := atoms_spec (ws := wsX0_literal) B.pre
  have hown : s.vm.findClass RX0 = some m.cls := findClass_of_methodNamed B.named
  have hlocks := B.notSynchronized
  subst hsz
  have hD := hD0.self (sz := s.heap.size)
  generalize hAe : va_A (xC o a1 a2 a3 a4 c1 c2 c3 c4 (nI N) (nI h) (nI w) (nI y) (nI z) (nI c) f1 f2 f3 f4) s.heap.size = A at hD ⊢
  have hA : ∀ q : Nat, s.heap.size ≤ q → A q := fun q h => by rw [← hAe]; exact Or.inr h
  have hS : va_S A s.heap s.heap [] := va_S.rf
  have hP : va_P (dC, dI) vwCl (xC o a1 a2 a3 a4 c1 c2 c3 c4 (nI N) (nI h) (nI w) (nI y) (nI z) (nI c) f1 f2 f3 f4) s.heap := hP
  have hin0 : ∀ w ∈ u_ws RX0 TX0 10, w ∈ wsX0_literal := by decide +kernel
  have hl := lv_entry ([.ref o, .int (nI j), .int (bI b)]) (n := 3) (Nat.le_of_ble_eq_true rfl)
  rw [lg_entry_eq]
  generalize (lg_sl ([.ref o, .int (nI j), .int (bI b)]) ++ List.replicate (3 - (lg_sl ([.ref o, .int (nI j), .int (bI b)])).length) Slot.unset).toArray = ls at hl ⊢
  have hl : lv_has ls 3 [(0, .ref o), (1, .int (nI j)), (2, .int (bI b))] := hl
  refine lv_aload_n hx hb dX0_literal_0 rfl (lv_at hl 0 rfl) ?_
  refine lv_iload_n hx hb dX0_literal_1 rfl (lv_at hl 1 rfl) ?_
  refine vp_callSi (W.runV (As := [.int (nI j)]) (rest := []) ⟨hx, hb, hml, hown, hts⟩ (c_isVariable_in l dC dI o a1 a2 a3 a4 c1 c2 c3 c4 N h w y z c f1 f2 f3 f4 hN hj) (cwV 1 hts gX0_literal_X0_isVariable rfl rfl rfl (by decide +kernel) ⟨Nat.le_of_ble_eq_true rfl, Nat.le_of_ble_eq_true rfl⟩) (rW_preV hP hK (va_recv (q := (RX0, TX0, 10)) (q0 := 0) hK hP rfl rfl)) rfl rfl hl.1 rfl (lv_room (Nat.le_of_ble_eq_true rfl)) dX0_literal_2 ⟨Nat.le_refl _, Nat.le_refl _⟩) (fun r0 hr0 => ?_)
  subst hr0
  refine lv_if_ne hx hb dX0_literal_5 (tgt := 10) (by decide) (fun _ => ?_) (fun hq => absurd hq (by decide))
  refine lv_iload_n hx hb dX0_literal_10 rfl (lv_at hl 2 rfl) ?_
  have hy9 := fun b => cs_N31 hN (lt1_lt hy hj b)
  have hz9 := fun b => cs_N31 hN (lt0_lt hz hj b)
  cases b with
  | true =>
    refine lv_if_eq hx hb dX0_literal_11 (tgt := 29) (by decide) (fun hq => absurd hq (by decide)) (fun _ => ?_)
    refine lv_aload_n hx hb dX0_literal_14 rfl (lv_at hl 0 rfl) ?_
    refine lv_dup hx hb dX0_literal_15 rfl ?_
    refine va_get (D := (dC, dI)) (ci := 0) (v := .int (nI y)) (C := RX0) (T := TX0) (N := 10) hx hb hts hin0 hown hK hP 0 rfl rfl 3 (by decide) (hts (.fieldLink RX0 50 "ClauseSolver" "madeTrue" "I") (by decide +kernel)) (fun _ h9 => h9) rfl dX0_literal_16 ?_
    refine lv_iconst (v := nI 1) hx hb dX0_literal_19 (by decide) ?_
    refine lv_iload_n hx hb dX0_literal_20 rfl (lv_at hl 1 rfl) ?_
    refine lv_ishl hx hb dX0_literal_21 ?_
    refine cs_top (y := nI (2 ^ j)) (cs_one (by omega)) ?_
    refine lv_ior hx hb dX0_literal_22 ?_
    refine cs_top (y := nI (y ||| (2 ^ j))) (cs_or y (2 ^ j)) ?_
    refine cs_top (y := nI (lt1 y j true)) (rfl) ?_
    refine va_put (D := (dC, dI)) (ci := 0) (v := .int (nI (lt1 y j true))) (ty := .int) (C := RX0) (T := TX0) (N := 10) hx hb hts hin0 tyX0 tyX0_ok nmX0 hown hK hP hD hS 0 rfl rfl 3 (by decide) (hts (.fieldLink RX0 50 "ClauseSolver" "madeTrue" "I") (by decide +kernel)) (fun _ h9 => h9) rfl (by decide +kernel) rfl rfl (Nat.le_of_ble_eq_true rfl) dX0_literal_23 (fun H locs hP hD hS => ?_)
    have hP : va_P (dC, dI) vwCl (xC o a1 a2 a3 a4 c1 c2 c3 c4 (nI N) (nI h) (nI w) (nI (lt1 y j true)) (nI z) (nI c) f1 f2 f3 f4) H := hP
    have hD : va_D A (xC o a1 a2 a3 a4 c1 c2 c3 c4 (nI N) (nI h) (nI w) (nI (lt1 y j true)) (nI z) (nI c) f1 f2 f3 f4) := hD
    refine lv_goto hx hb dX0_literal_26 (tgt := 41) (by decide) ?_
    refine lv_aload_n hx hb dX0_literal_41 rfl (lv_at hl 0 rfl) ?_
    refine vp_callSi (W.runV (As := []) (rest := []) ⟨hx, hb, hml, hown, hts⟩ (c_namedByMadeUp l dC dI o a1 a2 a3 a4 c1 c2 c3 c4 N h w (lt1 y j true) (lt0 z j true) c f1 f2 f3 f4 (hy9 _) (hz9 _)) (cwV 0 hts gX0_literal_X0_namedByMadeUp rfl rfl rfl (by decide +kernel) ⟨Nat.le_of_ble_eq_true rfl, Nat.le_of_ble_eq_true rfl⟩) (rW_preV hP hK (va_recv (q := (RX0, TX0, 10)) (q0 := 0) hK hP rfl rfl)) rfl rfl hl.1 rfl (lv_room (Nat.le_of_ble_eq_true rfl)) dX0_literal_42 ⟨Nat.le_refl _, Nat.le_refl _⟩) (fun r0 hr0 => ?_)
    subst hr0
    exact W.iret (v := nI (pcs (lt1 y j true) 16 + pcs (lt0 z j true) 16)) hx hb hr (fun t ht hW => ⟨⟨nI (pcs (lt1 y j true) 16 + pcs (lt0 z j true) 16), (), rfl, rfl, by rw [ht]; exact hP, by rw [hAe]; exact hD⟩, hS.F ht⟩) hS.2.2 dX0_literal_45
  | false =>
    refine lv_if_eq hx hb dX0_literal_11 (tgt := 29) (by decide) (fun _ => ?_) (fun hq => absurd (nI_0) hq)
    refine lv_aload_n hx hb dX0_literal_29 rfl (lv_at hl 0 rfl) ?_
    refine lv_dup hx hb dX0_literal_30 rfl ?_
    refine va_get (D := (dC, dI)) (ci := 0) (v := .int (nI z)) (C := RX0) (T := TX0) (N := 10) hx hb hts hin0 hown hK hP 0 rfl rfl 4 (by decide) (hts (.fieldLink RX0 53 "ClauseSolver" "madeFalse" "I") (by decide +kernel)) (fun _ h9 => h9) rfl dX0_literal_31 ?_
    refine lv_iconst (v := nI 1) hx hb dX0_literal_34 (by decide) ?_
    refine lv_iload_n hx hb dX0_literal_35 rfl (lv_at hl 1 rfl) ?_
    refine lv_ishl hx hb dX0_literal_36 ?_
    refine cs_top (y := nI (2 ^ j)) (cs_one (by omega)) ?_
    refine lv_ior hx hb dX0_literal_37 ?_
    refine cs_top (y := nI (z ||| (2 ^ j))) (cs_or z (2 ^ j)) ?_
    refine cs_top (y := nI (lt0 z j false)) (rfl) ?_
    refine va_put (D := (dC, dI)) (ci := 0) (v := .int (nI (lt0 z j false))) (ty := .int) (C := RX0) (T := TX0) (N := 10) hx hb hts hin0 tyX0 tyX0_ok nmX0 hown hK hP hD hS 0 rfl rfl 4 (by decide) (hts (.fieldLink RX0 53 "ClauseSolver" "madeFalse" "I") (by decide +kernel)) (fun _ h9 => h9) rfl (by decide +kernel) rfl rfl (Nat.le_of_ble_eq_true rfl) dX0_literal_38 (fun H locs hP hD hS => ?_)
    have hP : va_P (dC, dI) vwCl (xC o a1 a2 a3 a4 c1 c2 c3 c4 (nI N) (nI h) (nI w) (nI y) (nI (lt0 z j false)) (nI c) f1 f2 f3 f4) H := hP
    have hD : va_D A (xC o a1 a2 a3 a4 c1 c2 c3 c4 (nI N) (nI h) (nI w) (nI y) (nI (lt0 z j false)) (nI c) f1 f2 f3 f4) := hD
    refine lv_aload_n hx hb dX0_literal_41 rfl (lv_at hl 0 rfl) ?_
    refine vp_callSi (W.runV (As := []) (rest := []) ⟨hx, hb, hml, hown, hts⟩ (c_namedByMadeUp l dC dI o a1 a2 a3 a4 c1 c2 c3 c4 N h w (lt1 y j false) (lt0 z j false) c f1 f2 f3 f4 (hy9 _) (hz9 _)) (cwV 0 hts gX0_literal_X0_namedByMadeUp rfl rfl rfl (by decide +kernel) ⟨Nat.le_of_ble_eq_true rfl, Nat.le_of_ble_eq_true rfl⟩) (rW_preV hP hK (va_recv (q := (RX0, TX0, 10)) (q0 := 0) hK hP rfl rfl)) rfl rfl hl.1 rfl (lv_room (Nat.le_of_ble_eq_true rfl)) dX0_literal_42 ⟨Nat.le_refl _, Nat.le_refl _⟩) (fun r0 hr0 => ?_)
    subst hr0
    exact W.iret (v := nI (pcs (lt1 y j false) 16 + pcs (lt0 z j false) 16)) hx hb hr (fun t ht hW => ⟨⟨nI (pcs (lt1 y j false) 16 + pcs (lt0 z j false) 16), (), rfl, rfl, by rw [ht]; exact hP, by rw [hAe]; exact hD⟩, hS.F ht⟩) hS.2.2 dX0_literal_45
set_option maxHeartbeats 4000000 in
set_option maxRecDepth 100000 in
theorem c_count0 (l : Launch) (dC : Nat → ClassId) (dI : Nat → Nat → Nat) (o a1 a2 a3 a4 : Nat) (c1 c2 c3 c4 : ClassId) (N h w y z c : Nat) (f1 f2 f3 : Nat → Int32) (f4 : Nat → Int64) (hN : N ≤ 16) (hy : y < 2 ^ N) (hz : z < 2 ^ N) : Met l yX0_count wsX0_count ({ frames := 2, cells := 0, slots := 0, locals := 60 }) (va_Pc [.ref o, .int (nI 0)] (rW (dC, dI) vwCl (xC o a1 a2 a3 a4 c1 c2 c3 c4 (nI N) (nI h) (nI w) (nI y) (nI z) (nI c) f1 f2 f3 f4) (xT c1 c2 c3 c4))) (vp_Si (fun r => r = nI N)) 0 0 (fun _ => False) := by
  refine Met.ofW (cc := cX0_count) (maxL := 2) (ret := some .int) (by decide) rfl ?_
  intro p e s m args below meth c0 s₁ B hml hv0
  obtain ⟨rfl, hP, hK⟩ := hv0
  have hx := B.exec
  have hb := B.bytes
  have hr := B.returns
  have hts := atoms_spec (ws := wsX0_count) B.pre
  have hown : s.vm.findClass RX0 = some m.cls := findClass_of_methodNamed B.named
  have hlocks := B.notSynchronized
  have hP : va_P (dC, dI) vwCl (xC o a1 a2 a3 a4 c1 c2 c3 c4 (nI N) (nI h) (nI w) (nI y) (nI z) (nI c) f1 f2 f3 f4) s.heap := hP
  have hin0 : ∀ w ∈ u_ws RX0 TX0 10, w ∈ wsX0_count := by decide +kernel
  have hl := lv_entry ([.ref o, .int (nI 0)]) (n := 2) (Nat.le_of_ble_eq_true rfl)
  rw [lg_entry_eq]
  generalize (lg_sl ([.ref o, .int (nI 0)]) ++ List.replicate (2 - (lg_sl ([.ref o, .int (nI 0)])).length) Slot.unset).toArray = ls at hl ⊢
  have hl : lv_has ls 2 [(0, .ref o), (1, .int (nI 0))] := hl
  refine lv_iload_n hx hb dX0_count_0 rfl (lv_at hl 1 rfl) ?_
  refine lv_tableIn hx hb dX0_count_1 (off := 27) (tgt := 28) (by decide) (by decide) (by decide) (by decide) ?_
  refine lv_aload_n hx hb dX0_count_28 rfl (lv_at hl 0 rfl) ?_
  refine va_get (D := (dC, dI)) (ci := 0) (v := .int (nI N)) (C := RX0) (T := TX0) (N := 10) hx hb hts hin0 hown hK hP 0 rfl rfl 0 (by decide) (hts (.fieldLink RX0 18 "ClauseSolver" "variables" "I") (by decide +kernel)) (fun _ h9 => h9) rfl dX0_count_29 ?_
  exact W.iret (v := nI N) hx hb hr (fun t ht hW => ⟨nI N, rfl, rfl, ht⟩) (fun q h => by cases h) dX0_count_32
set_option maxHeartbeats 4000000 in
set_option maxRecDepth 100000 in
theorem c_count1 (l : Launch) (dC : Nat → ClassId) (dI : Nat → Nat → Nat) (o a1 a2 a3 a4 : Nat) (c1 c2 c3 c4 : ClassId) (N h w y z c : Nat) (f1 f2 f3 : Nat → Int32) (f4 : Nat → Int64) (hN : N ≤ 16) (hy : y < 2 ^ N) (hz : z < 2 ^ N) : Met l yX0_count wsX0_count ({ frames := 2, cells := 0, slots := 0, locals := 60 }) (va_Pc [.ref o, .int (nI 1)] (rW (dC, dI) vwCl (xC o a1 a2 a3 a4 c1 c2 c3 c4 (nI N) (nI h) (nI w) (nI y) (nI z) (nI c) f1 f2 f3 f4) (xT c1 c2 c3 c4))) (vp_Si (fun r => r = nI c)) 0 0 (fun _ => False) := by
  refine Met.ofW (cc := cX0_count) (maxL := 2) (ret := some .int) (by decide) rfl ?_
  intro p e s m args below meth c0 s₁ B hml hv0
  obtain ⟨rfl, hP, hK⟩ := hv0
  have hx := B.exec
  have hb := B.bytes
  have hr := B.returns
  have hts := atoms_spec (ws := wsX0_count) B.pre
  have hown : s.vm.findClass RX0 = some m.cls := findClass_of_methodNamed B.named
  have hlocks := B.notSynchronized
  have hP : va_P (dC, dI) vwCl (xC o a1 a2 a3 a4 c1 c2 c3 c4 (nI N) (nI h) (nI w) (nI y) (nI z) (nI c) f1 f2 f3 f4) s.heap := hP
  have hin0 : ∀ w ∈ u_ws RX0 TX0 10, w ∈ wsX0_count := by decide +kernel
  have hl := lv_entry ([.ref o, .int (nI 1)]) (n := 2) (Nat.le_of_ble_eq_true rfl)
  rw [lg_entry_eq]
  generalize (lg_sl ([.ref o, .int (nI 1)]) ++ List.replicate (2 - (lg_sl ([.ref o, .int (nI 1)])).length) Slot.unset).toArray = ls at hl ⊢
  have hl : lv_has ls 2 [(0, .ref o), (1, .int (nI 1))] := hl
  refine lv_iload_n hx hb dX0_count_0 rfl (lv_at hl 1 rfl) ?_
  refine lv_tableIn hx hb dX0_count_1 (off := 32) (tgt := 33) (by decide) (by decide) (by decide) (by decide) ?_
  refine lv_aload_n hx hb dX0_count_33 rfl (lv_at hl 0 rfl) ?_
  refine va_get (D := (dC, dI)) (ci := 0) (v := .int (nI c)) (C := RX0) (T := TX0) (N := 10) hx hb hts hin0 hown hK hP 0 rfl rfl 5 (by decide) (hts (.fieldLink RX0 67 "ClauseSolver" "clauses" "I") (by decide +kernel)) (fun _ h9 => h9) rfl dX0_count_34 ?_
  exact W.iret (v := nI c) hx hb hr (fun t ht hW => ⟨nI c, rfl, rfl, ht⟩) (fun q h => by cases h) dX0_count_37
set_option maxHeartbeats 4000000 in
set_option maxRecDepth 100000 in
theorem c_count2 (l : Launch) (dC : Nat → ClassId) (dI : Nat → Nat → Nat) (o a1 a2 a3 a4 : Nat) (c1 c2 c3 c4 : ClassId) (N h w y z c : Nat) (f1 f2 f3 : Nat → Int32) (f4 : Nat → Int64) (hN : N ≤ 16) (hy : y < 2 ^ N) (hz : z < 2 ^ N) : Met l yX0_count wsX0_count ({ frames := 2, cells := 0, slots := 0, locals := 60 }) (va_Pc [.ref o, .int (nI 2)] (rW (dC, dI) vwCl (xC o a1 a2 a3 a4 c1 c2 c3 c4 (nI N) (nI h) (nI w) (nI y) (nI z) (nI c) f1 f2 f3 f4) (xT c1 c2 c3 c4))) (vp_Si (fun r => r = nI (pcs y 16 + pcs z 16))) 0 0 (fun _ => False) := by
  refine Met.ofW (cc := cX0_count) (maxL := 2) (ret := some .int) (by decide) rfl ?_
  intro p e s m args below meth c0 s₁ B hml hv0
  obtain ⟨rfl, hP, hK⟩ := hv0
  have hx := B.exec
  have hb := B.bytes
  have hr := B.returns
  have hts := atoms_spec (ws := wsX0_count) B.pre
  have hown : s.vm.findClass RX0 = some m.cls := findClass_of_methodNamed B.named
  have hlocks := B.notSynchronized
  have hP : va_P (dC, dI) vwCl (xC o a1 a2 a3 a4 c1 c2 c3 c4 (nI N) (nI h) (nI w) (nI y) (nI z) (nI c) f1 f2 f3 f4) s.heap := hP
  have hin0 : ∀ w ∈ u_ws RX0 TX0 10, w ∈ wsX0_count := by decide +kernel
  have hl := lv_entry ([.ref o, .int (nI 2)]) (n := 2) (Nat.le_of_ble_eq_true rfl)
  rw [lg_entry_eq]
  generalize (lg_sl ([.ref o, .int (nI 2)]) ++ List.replicate (2 - (lg_sl ([.ref o, .int (nI 2)])).length) Slot.unset).toArray = ls at hl ⊢
  have hl : lv_has ls 2 [(0, .ref o), (1, .int (nI 2))] := hl
  refine lv_iload_n hx hb dX0_count_0 rfl (lv_at hl 1 rfl) ?_
  refine lv_tableIn hx hb dX0_count_1 (off := 37) (tgt := 38) (by decide) (by decide) (by decide) (by decide) ?_
  refine lv_aload_n hx hb dX0_count_38 rfl (lv_at hl 0 rfl) ?_
  refine vp_callSi (W.runV (As := []) (rest := []) ⟨hx, hb, hml, hown, hts⟩ (c_namedByMadeUp l dC dI o a1 a2 a3 a4 c1 c2 c3 c4 N h w y z c f1 f2 f3 f4 (cs_N31 hN hy) (cs_N31 hN hz)) (cwV 0 hts gX0_count_X0_namedByMadeUp rfl rfl rfl (by decide +kernel) ⟨Nat.le_of_ble_eq_true rfl, Nat.le_of_ble_eq_true rfl⟩) (rW_preV hP hK (va_recv (q := (RX0, TX0, 10)) (q0 := 0) hK hP rfl rfl)) rfl rfl hl.1 rfl (lv_room (Nat.le_of_ble_eq_true rfl)) dX0_count_39 ⟨Nat.le_refl _, Nat.le_refl _⟩) (fun r0 hr0 => ?_)
  subst hr0
  exact W.iret (v := nI (pcs y 16 + pcs z 16)) hx hb hr (fun t ht hW => ⟨nI (pcs y 16 + pcs z 16), rfl, rfl, ht⟩) (fun q h => by cases h) dX0_count_42
set_option maxHeartbeats 4000000 in
set_option maxRecDepth 100000 in
theorem c_count_out (l : Launch) (dC : Nat → ClassId) (dI : Nat → Nat → Nat) (o a1 a2 a3 a4 : Nat) (c1 c2 c3 c4 : ClassId) (N h w y z c : Nat) (f1 f2 f3 : Nat → Int32) (f4 : Nat → Int64) {v : Int32} (hv : v.toInt < 0 ∨ 2 < v.toInt) : Met l yX0_count wsX0_count ({ frames := 2, cells := 0, slots := 0, locals := 60 }) (va_Pc [.ref o, .int v] (rW (dC, dI) vwCl (xC o a1 a2 a3 a4 c1 c2 c3 c4 (nI N) (nI h) (nI w) (nI y) (nI z) (nI c) f1 f2 f3 f4) (xT c1 c2 c3 c4))) (vp_Si (fun r => r = -1)) 0 0 (fun _ => False) := by
  refine Met.ofW (cc := cX0_count) (maxL := 2) (ret := some .int) (by decide) rfl ?_
  intro p e s m args below meth c0 s₁ B hml hv0
  obtain ⟨rfl, hP, hK⟩ := hv0
  have hx := B.exec
  have hb := B.bytes
  have hr := B.returns
  have hts := atoms_spec (ws := wsX0_count) B.pre
  have hown : s.vm.findClass RX0 = some m.cls := findClass_of_methodNamed B.named
  have hlocks := B.notSynchronized
  have hP : va_P (dC, dI) vwCl (xC o a1 a2 a3 a4 c1 c2 c3 c4 (nI N) (nI h) (nI w) (nI y) (nI z) (nI c) f1 f2 f3 f4) s.heap := hP
  have hin0 : ∀ w ∈ u_ws RX0 TX0 10, w ∈ wsX0_count := by decide +kernel
  have hl := lv_entry ([.ref o, .int v]) (n := 2) (Nat.le_of_ble_eq_true rfl)
  rw [lg_entry_eq]
  generalize (lg_sl ([.ref o, .int v]) ++ List.replicate (2 - (lg_sl ([.ref o, .int v])).length) Slot.unset).toArray = ls at hl ⊢
  have hl : lv_has ls 2 [(0, .ref o), (1, .int v)] := hl
  refine lv_iload_n hx hb dX0_count_0 rfl (lv_at hl 1 rfl) ?_
  refine lv_tableOut hx hb dX0_count_1 (tgt := 43) hv (by decide) ?_
  refine lv_iconst (v := (-1)) hx hb dX0_count_43 (by decide) ?_
  exact W.iret (v := (-1)) hx hb hr (fun t ht hW => ⟨(-1), rfl, rfl, ht⟩) (fun q h => by cases h) dX0_count_44
end
section
theorem bI_vn (b : Bool) : vp_nar .boolean (bI b) = bI b := by cases b <;> rfl
theorem lo_nI {y N : Nat} (hN : N ≤ 16) (hy : y < 2 ^ N) : lo (nI y) N = y := by
  have h1 := cs_N31 hN hy
  unfold lo
  rw [pk_tn (by omega), Nat.mod_eq_of_lt hy]
theorem ho_1 {y z a : Nat} (hz : z < 65536) (h : ¬ nI (a &&& y) = 0) : Mt y z a := by
  refine Classical.byContradiction fun z9 => h ?_
  rw [((Mt_not (by omega)).mp z9).1]
  exact nI_0
theorem ho_2 {y z a : Nat} (hz : z < 65536) (h : ¬ nI ((a ^^^ 4294967295) &&& z) = 0) : Mt y z a := by
  refine Classical.byContradiction fun z9 => h ?_
  rw [((Mt_not (by omega)).mp z9).2]
  exact nI_0
theorem ho_0 {y z a : Nat} (hy : y < 65536) (hz : z < 65536) (h1 : nI (a &&& y) = 0) (h2 : nI ((a ^^^ 4294967295) &&& z) = 0) : ¬ Mt y z a := by
  rw [Mt_not (by omega)]
  have l1 : a &&& y ≤ y := Nat.and_le_right
  have l2 : (a ^^^ 4294967295) &&& z ≤ z := Nat.and_le_right
  exact ⟨(cs_z (by omega)).mp h1, (cs_z (by omega)).mp h2⟩
theorem rs_lt0 {o : Option Nat} (h : ∀ r, o = some r → r < 2 ^ 31) : rs o < 0 ↔ o = none := by
  cases o with
  | none => exact ⟨fun _ => rfl, fun _ => by decide⟩
  | some r => exact ⟨fun z => absurd z (nI_pos (h r rfl)), fun z => (by cases z)⟩
theorem or_16 {y z : Nat} (hy : y < 65536) (hz : z < 65536) : y ||| z < 2 ^ 31 := by
  have := Nat.or_lt_two_pow (n := 16) hy hz
  omega
set_option maxHeartbeats 4000000 in
set_option maxRecDepth 100000 in
theorem m_is_in (l : Launch) (dC : Nat → ClassId) (dI : Nat → Nat → Nat) (o b1 b2 b3 : Nat) (e1 e2 e3 : ClassId) (N c y z : Nat) (fo kn : Int32) (g1 g2 g3 : Nat → Int32) (hN : N ≤ 16) {j : Nat} (hj : j < N) : Met l yX1_is wsX1_is ({ frames := 0, cells := 0, slots := 0, locals := 0 }) (va_Pc [.ref o, .int (nI j)] (rW (dC, dI) vwCl (mC o b1 b2 b3 e1 e2 e3 (nI N) (nI c) (nI y) (nI z) fo kn g1 g2 g3) (mT e1 e2 e3))) (vp_Si (fun r => r = nI 1)) 0 0 (fun _ => False) := by
  refine Met.ofW (cc := cX1_is) (maxL := 2) (ret := some .boolean) (by decide) rfl ?_
  intro p e s m args below meth c0 s₁ B hml hv0
  obtain ⟨rfl, hP, hK⟩ := hv0
  have hx := B.exec
  have hb := B.bytes
  have hr := B.returns
  have hts := atoms_spec (ws := wsX1_is) B.pre
  have hown : s.vm.findClass RX1 = some m.cls := findClass_of_methodNamed B.named
  have hlocks := B.notSynchronized
  have hP : va_P (dC, dI) vwCl (mC o b1 b2 b3 e1 e2 e3 (nI N) (nI c) (nI y) (nI z) fo kn g1 g2 g3) s.heap := hP
  have hin1 : ∀ w ∈ u_ws RX1 TX1 9, w ∈ wsX1_is := by decide +kernel
  have hl := lv_entry ([.ref o, .int (nI j)]) (n := 2) (Nat.le_of_ble_eq_true rfl)
  rw [lg_entry_eq]
  generalize (lg_sl ([.ref o, .int (nI j)]) ++ List.replicate (2 - (lg_sl ([.ref o, .int (nI j)])).length) Slot.unset).toArray = ls at hl ⊢
  have hl : lv_has ls 2 [(0, .ref o), (1, .int (nI j))] := hl
  refine lv_iload_n hx hb dX1_is_0 rfl (lv_at hl 1 rfl) ?_
  refine lv_if_lt hx hb dX1_is_1 (tgt := 16) (by decide) (fun hq => absurd hq (nI_pos (by omega))) (fun _ => ?_)
  refine lv_iload_n hx hb dX1_is_4 rfl (lv_at hl 1 rfl) ?_
  refine lv_aload_n hx hb dX1_is_5 rfl (lv_at hl 0 rfl) ?_
  refine va_get (D := (dC, dI)) (ci := 1) (v := .int (nI N)) (C := RX1) (T := TX1) (N := 9) hx hb hts hin1 hown hK hP 0 rfl rfl 0 (by decide) (hts (.fieldLink RX1 20 "ClauseSolverModel" "variables" "I") (by decide +kernel)) (fun _ h9 => h9) rfl dX1_is_6 ?_
  refine lv_icmp_ge hx hb dX1_is_9 (tgt := 16) (by decide) (fun hq => absurd hq (nI_ge hj (by omega))) (fun _ => ?_)
  refine lv_iconst (v := nI 1) hx hb dX1_is_12 (by decide) ?_
  refine lv_goto hx hb dX1_is_13 (tgt := 17) (by decide) ?_
  exact W.zret (ty := .boolean) (v := nI 1) hx hb hr (by first | rfl | decide) (fun t ht hW => ⟨nI 1, rfl, rfl, ht⟩) (fun q h => by cases h) dX1_is_17
set_option maxHeartbeats 4000000 in
set_option maxRecDepth 100000 in
theorem m_is_out (l : Launch) (dC : Nat → ClassId) (dI : Nat → Nat → Nat) (o b1 b2 b3 : Nat) (e1 e2 e3 : ClassId) (N c y z : Nat) (fo kn : Int32) (g1 g2 g3 : Nat → Int32) {v : Int32} (hv : v < 0 ∨ nI N ≤ v) : Met l yX1_is wsX1_is ({ frames := 0, cells := 0, slots := 0, locals := 0 }) (va_Pc [.ref o, .int v] (rW (dC, dI) vwCl (mC o b1 b2 b3 e1 e2 e3 (nI N) (nI c) (nI y) (nI z) fo kn g1 g2 g3) (mT e1 e2 e3))) (vp_Si (fun r => r = nI 0)) 0 0 (fun _ => False) := by
  refine Met.ofW (cc := cX1_is) (maxL := 2) (ret := some .boolean) (by decide) rfl ?_
  intro p e s m args below meth c0 s₁ B hml hv0
  obtain ⟨rfl, hP, hK⟩ := hv0
  have hx := B.exec
  have hb := B.bytes
  have hr := B.returns
  have hts := atoms_spec (ws := wsX1_is) B.pre
  have hown : s.vm.findClass RX1 = some m.cls := findClass_of_methodNamed B.named
  have hlocks := B.notSynchronized
  have hP : va_P (dC, dI) vwCl (mC o b1 b2 b3 e1 e2 e3 (nI N) (nI c) (nI y) (nI z) fo kn g1 g2 g3) s.heap := hP
  have hin1 : ∀ w ∈ u_ws RX1 TX1 9, w ∈ wsX1_is := by decide +kernel
  have hl := lv_entry ([.ref o, .int v]) (n := 2) (Nat.le_of_ble_eq_true rfl)
  rw [lg_entry_eq]
  generalize (lg_sl ([.ref o, .int v]) ++ List.replicate (2 - (lg_sl ([.ref o, .int v])).length) Slot.unset).toArray = ls at hl ⊢
  have hl : lv_has ls 2 [(0, .ref o), (1, .int v)] := hl
  refine lv_iload_n hx hb dX1_is_0 rfl (lv_at hl 1 rfl) ?_
  by_cases h0 : v < 0
  · refine lv_if_lt hx hb dX1_is_1 (tgt := 16) (by decide) (fun _ => ?_) (fun hq => absurd (h0) hq)
    refine lv_iconst (v := nI 0) hx hb dX1_is_16 (by decide) ?_
    exact W.zret (ty := .boolean) (v := nI 0) hx hb hr (by first | rfl | decide) (fun t ht hW => ⟨nI 0, rfl, rfl, ht⟩) (fun q h => by cases h) dX1_is_17
  · refine lv_if_lt hx hb dX1_is_1 (tgt := 16) (by decide) (fun hq => absurd hq (h0)) (fun _ => ?_)
    refine lv_iload_n hx hb dX1_is_4 rfl (lv_at hl 1 rfl) ?_
    refine lv_aload_n hx hb dX1_is_5 rfl (lv_at hl 0 rfl) ?_
    refine va_get (D := (dC, dI)) (ci := 1) (v := .int (nI N)) (C := RX1) (T := TX1) (N := 9) hx hb hts hin1 hown hK hP 0 rfl rfl 0 (by decide) (hts (.fieldLink RX1 20 "ClauseSolverModel" "variables" "I") (by decide +kernel)) (fun _ h9 => h9) rfl dX1_is_6 ?_
    refine lv_icmp_ge hx hb dX1_is_9 (tgt := 16) (by decide) (fun _ => ?_) (fun hq => absurd (hv.resolve_left h0) hq)
    refine lv_iconst (v := nI 0) hx hb dX1_is_16 (by decide) ?_
    exact W.zret (ty := .boolean) (v := nI 0) hx hb hr (by first | rfl | decide) (fun t ht hW => ⟨nI 0, rfl, rfl, ht⟩) (fun q h => by cases h) dX1_is_17
set_option maxHeartbeats 4000000 in
set_option maxRecDepth 100000 in
theorem m_wish_out (l : Launch) (dC : Nat → ClassId) (dI : Nat → Nat → Nat) (o b1 b2 b3 : Nat) (e1 e2 e3 : ClassId) (N c y z : Nat) (fo kn : Int32) (g1 g2 g3 : Nat → Int32) {v : Int32} (hv : v < 0 ∨ nI N ≤ v) (x2 : Int32) : Met l yX1_wish wsX1_wish ({ frames := 1, cells := 0, slots := 0, locals := 30 }) (va_Pc [.ref o, .int v, .int x2] (rW (dC, dI) vwCl (mC o b1 b2 b3 e1 e2 e3 (nI N) (nI c) (nI y) (nI z) fo kn g1 g2 g3) (mT e1 e2 e3))) (vp_Si (fun r => r = nI 0)) 0 0 (fun _ => False) := by
  refine Met.ofW (cc := cX1_wish) (maxL := 4) (ret := some .boolean) (by decide) rfl ?_
  intro p e s m args below meth c0 s₁ B hml hv0
  obtain ⟨rfl, hP, hK⟩ := hv0
  have hx := B.exec
  have hb := B.bytes
  have hr := B.returns
  have hts := atoms_spec (ws := wsX1_wish) B.pre
  have hown : s.vm.findClass RX1 = some m.cls := findClass_of_methodNamed B.named
  have hlocks := B.notSynchronized
  have hP : va_P (dC, dI) vwCl (mC o b1 b2 b3 e1 e2 e3 (nI N) (nI c) (nI y) (nI z) fo kn g1 g2 g3) s.heap := hP
  have hin1 : ∀ w ∈ u_ws RX1 TX1 9, w ∈ wsX1_wish := by decide +kernel
  have hl := lv_entry ([.ref o, .int v, .int x2]) (n := 4) (Nat.le_of_ble_eq_true rfl)
  rw [lg_entry_eq]
  generalize (lg_sl ([.ref o, .int v, .int x2]) ++ List.replicate (4 - (lg_sl ([.ref o, .int v, .int x2])).length) Slot.unset).toArray = ls at hl ⊢
  have hl : lv_has ls 4 [(0, .ref o), (1, .int v), (2, .int x2)] := hl
  refine lv_aload_n hx hb dX1_wish_0 rfl (lv_at hl 0 rfl) ?_
  refine lv_iload_n hx hb dX1_wish_1 rfl (lv_at hl 1 rfl) ?_
  refine vp_callSi (W.runV (As := [.int v]) (rest := []) ⟨hx, hb, hml, hown, hts⟩ (m_is_out l dC dI o b1 b2 b3 e1 e2 e3 N c y z fo kn g1 g2 g3 hv) (cwV 1 hts gX1_wish_X1_is rfl rfl rfl (by decide +kernel) ⟨Nat.le_of_ble_eq_true rfl, Nat.le_of_ble_eq_true rfl⟩) (rW_preV hP hK (va_recv (q := (RX1, TX1, 9)) (q0 := 0) hK hP rfl rfl)) rfl rfl hl.1 rfl (lv_room (Nat.le_of_ble_eq_true rfl)) dX1_wish_2 ⟨Nat.le_refl _, Nat.le_refl _⟩) (fun r0 hr0 => ?_)
  subst hr0
  refine lv_if_ne hx hb dX1_wish_5 (tgt := 10) (by decide) (fun hq => absurd (nI_0) hq) (fun _ => ?_)
  refine lv_iconst (v := nI 0) hx hb dX1_wish_8 (by decide) ?_
  exact W.zret (ty := .boolean) (v := nI 0) hx hb hr (by first | rfl | decide) (fun t ht hW => ⟨nI 0, rfl, rfl, ht⟩) (fun q h => by cases h) dX1_wish_9
set_option maxHeartbeats 4000000 in
set_option maxRecDepth 100000 in
theorem m_wish (l : Launch) (sz : Nat) (dC : Nat → ClassId) (dI : Nat → Nat → Nat) (o b1 b2 b3 : Nat) (e1 e2 e3 : ClassId) (N c y z : Nat) (fo kn : Int32) (g1 g2 g3 : Nat → Int32) (hN : N ≤ 16) {j : Nat} (hj : j < N) {x : Bool} (hg : g1 j = bI x) (b : Bool) : Met l yX1_wish wsX1_wish ({ frames := 1, cells := 0, slots := 0, locals := 30 }) (va_Pc [.ref o, .int (nI j), .int (bI b)] (wW (dC, dI) vwCl (mC o b1 b2 b3 e1 e2 e3 (nI N) (nI c) (nI y) (nI z) fo kn g1 g2 g3) (mT e1 e2 e3) sz)) (va_Qi (fun (r : Int32) (u : Unit) => r = bI x) (oW (dC, dI) vwCl (mC o b1 b2 b3 e1 e2 e3 (nI N) (nI c) (nI y) (nI z) fo kn g1 g2 g3) sz (fun u : Unit => (mC o b1 b2 b3 e1 e2 e3 (nI N) (nI c) (nI y) (nI z) fo (nI 0) (upd g1 j (bI b)) g2 g3))) (va_A (mC o b1 b2 b3 e1 e2 e3 (nI N) (nI c) (nI y) (nI z) fo kn g1 g2 g3) sz)) 0 0 (va_A (mC o b1 b2 b3 e1 e2 e3 (nI N) (nI c) (nI y) (nI z) fo kn g1 g2 g3) sz) := by
  refine Met.ofW (cc := cX1_wish) (maxL := 4) (ret := some .boolean) (by decide) rfl ?_
  intro p e s m args below meth c0 s₁ B hml hv0
  obtain ⟨rfl, hsz, hP, hK, hD0⟩ := hv0
  have hx := B.exec
  have hb := B.bytes
  have hr := B.returns
  have hts := atoms_spec (ws := wsX1_wish) B.pre
  have hown : s.vm.findClass RX1 = some m.cls := findClass_of_methodNamed B.named
  have hlocks := B.notSynchronized
  subst hsz
  have hD := hD0.self (sz := s.heap.size)
  generalize hAe : va_A (mC o b1 b2 b3 e1 e2 e3 (nI N) (nI c) (nI y) (nI z) fo kn g1 g2 g3) s.heap.size = A at hD ⊢
  have hA : ∀ q : Nat, s.heap.size ≤ q → A q := fun q h => by rw [← hAe]; exact Or.inr h
  have hS : va_S A s.heap s.heap [] := va_S.rf
  have hP : va_P (dC, dI) vwCl (mC o b1 b2 b3 e1 e2 e3 (nI N) (nI c) (nI y) (nI z) fo kn g1 g2 g3) s.heap := hP
  have hin1 : ∀ w ∈ u_ws RX1 TX1 9, w ∈ wsX1_wish := by decide +kernel
  have hl := lv_entry ([.ref o, .int (nI j), .int (bI b)]) (n := 4) (Nat.le_of_ble_eq_true rfl)
  rw [lg_entry_eq]
  generalize (lg_sl ([.ref o, .int (nI j), .int (bI b)]) ++ List.replicate (4 - (lg_sl ([.ref o, .int (nI j), .int (bI b)])).length) Slot.unset).toArray = ls at hl ⊢
  have hl : lv_has ls 4 [(0, .ref o), (1, .int (nI j)), (2, .int (bI b))] := hl
  refine lv_aload_n hx hb dX1_wish_0 rfl (lv_at hl 0 rfl) ?_
  refine lv_iload_n hx hb dX1_wish_1 rfl (lv_at hl 1 rfl) ?_
  refine vp_callSi (W.runV (As := [.int (nI j)]) (rest := []) ⟨hx, hb, hml, hown, hts⟩ (m_is_in l dC dI o b1 b2 b3 e1 e2 e3 N c y z fo kn g1 g2 g3 hN hj) (cwV 1 hts gX1_wish_X1_is rfl rfl rfl (by decide +kernel) ⟨Nat.le_of_ble_eq_true rfl, Nat.le_of_ble_eq_true rfl⟩) (rW_preV hP hK (va_recv (q := (RX1, TX1, 9)) (q0 := 0) hK hP rfl rfl)) rfl rfl hl.1 rfl (lv_room (Nat.le_of_ble_eq_true rfl)) dX1_wish_2 ⟨Nat.le_refl _, Nat.le_refl _⟩) (fun r0 hr0 => ?_)
  subst hr0
  refine lv_if_ne hx hb dX1_wish_5 (tgt := 10) (by decide) (fun _ => ?_) (fun hq => absurd hq (by decide))
  refine lv_aload_n hx hb dX1_wish_10 rfl (lv_at hl 0 rfl) ?_
  refine va_get (D := (dC, dI)) (ci := 1) (v := .ref b1) (C := RX1) (T := TX1) (N := 9) hx hb hts hin1 hown hK hP 0 rfl rfl 1 (by decide) (hts (.fieldLink RX1 7 "ClauseSolverModel" "wish" "[Z") (by decide +kernel)) (fun _ h9 => h9) rfl dX1_wish_11 ?_
  refine lv_iload_n hx hb dX1_wish_14 rfl (lv_at hl 1 rfl) ?_
  refine cs_zald hx hb hK hP 1 0 rfl rfl (by omega) (by decide) dX1_wish_15 ?_
  refine cs_top (y := bI x) (hg) ?_
  refine lv_istore_n hx hb dX1_wish_16 rfl hl (by decide) rfl (fun ls hl => ?_)
  have hl : lv_has ls 4 [(3, .int (bI x)), (0, .ref o), (1, .int (nI j)), (2, .int (bI b))] := hl
  refine lv_aload_n hx hb dX1_wish_17 rfl (lv_at hl 1 rfl) ?_
  refine va_get (D := (dC, dI)) (ci := 1) (v := .ref b1) (C := RX1) (T := TX1) (N := 9) hx hb hts hin1 hown hK hP 0 rfl rfl 1 (by decide) (hts (.fieldLink RX1 7 "ClauseSolverModel" "wish" "[Z") (by decide +kernel)) (fun _ h9 => h9) rfl dX1_wish_18 ?_
  refine lv_iload_n hx hb dX1_wish_21 rfl (lv_at hl 2 rfl) ?_
  refine lv_iload_n hx hb dX1_wish_22 rfl (lv_at hl 3 rfl) ?_
  refine cs_zast hx hb hK hP hD hS 1 0 rfl rfl (bI_vn b) (by omega) (by decide) dX1_wish_23 (fun H locs hP hD hS => ?_)
  have hP : va_P (dC, dI) vwCl (mC o b1 b2 b3 e1 e2 e3 (nI N) (nI c) (nI y) (nI z) fo kn (upd g1 j (bI b)) g2 g3) H := hP
  have hD : va_D A (mC o b1 b2 b3 e1 e2 e3 (nI N) (nI c) (nI y) (nI z) fo kn (upd g1 j (bI b)) g2 g3) := hD
  refine lv_aload_n hx hb dX1_wish_24 rfl (lv_at hl 1 rfl) ?_
  refine lv_iconst (v := nI 0) hx hb dX1_wish_25 (by decide) ?_
  refine va_put (D := (dC, dI)) (ci := 1) (v := .int (nI 0)) (ty := .boolean) (C := RX1) (T := TX1) (N := 9) hx hb hts hin1 tyX1 tyX1_ok nmX1 hown hK hP hD hS 0 rfl rfl 8 (by decide) (hts (.fieldLink RX1 28 "ClauseSolverModel" "known" "Z") (by decide +kernel)) (fun _ h9 => h9) rfl (by decide +kernel) rfl rfl (Nat.le_of_ble_eq_true rfl) dX1_wish_26 (fun H locs hP hD hS => ?_)
  have hP : va_P (dC, dI) vwCl (mC o b1 b2 b3 e1 e2 e3 (nI N) (nI c) (nI y) (nI z) fo (nI 0) (upd g1 j (bI b)) g2 g3) H := hP
  have hD : va_D A (mC o b1 b2 b3 e1 e2 e3 (nI N) (nI c) (nI y) (nI z) fo (nI 0) (upd g1 j (bI b)) g2 g3) := hD
  refine lv_iload_n hx hb dX1_wish_29 rfl (lv_at hl 0 rfl) ?_
  exact W.zret (ty := .boolean) (v := bI x) hx hb hr (bI_nar _) (fun t ht hW => ⟨⟨bI x, (), rfl, rfl, by rw [ht]; exact hP, by rw [hAe]; exact hD⟩, hS.F ht⟩) hS.2.2 dX1_wish_30
set_option maxHeartbeats 4000000 in
set_option maxRecDepth 100000 in
theorem m_bits (l : Launch) {q : Nat} (hq0 : q < 65536) : Met l yX1_bits wsX1_bits ({ frames := 0, cells := 0, slots := 0, locals := 0 }) (va_Pc [.int (nI q)] (fun _ => True)) (vp_Si (fun r => r = nI (pcs q 16))) 0 0 (fun _ => False) := by
  refine Met.ofW (cc := cX1_bits) (maxL := 3) (ret := some .int) (by decide) rfl ?_
  intro p e s m args below meth c0 s₁ B hml hv0
  obtain ⟨rfl, -⟩ := hv0
  have hx := B.exec
  have hb := B.bytes
  have hr := B.returns
  have hts := atoms_spec (ws := wsX1_bits) B.pre
  have hown : s.vm.findClass RX1 = some m.cls := findClass_of_methodNamed B.named
  have hlocks := B.notSynchronized
  have hl := lv_entry ([.int (nI q)]) (n := 3) (Nat.le_of_ble_eq_true rfl)
  rw [lg_entry_eq]
  generalize (lg_sl ([.int (nI q)]) ++ List.replicate (3 - (lg_sl ([.int (nI q)])).length) Slot.unset).toArray = ls at hl ⊢
  have hl : lv_has ls 3 [(0, .int (nI q))] := hl
  refine lv_iconst (v := nI 0) hx hb dX1_bits_0 (by decide) ?_
  refine lv_istore_n hx hb dX1_bits_1 rfl hl (by decide) rfl (fun ls hl => ?_)
  have hl : lv_has ls 3 [(1, .int (nI 0)), (0, .int (nI q))] := hl
  refine lv_iconst (v := nI 0) hx hb dX1_bits_2 (by decide) ?_
  refine lv_istore_n hx hb dX1_bits_3 rfl hl (by decide) rfl (fun ls hl => ?_)
  have hl : lv_has ls 3 [(2, .int (nI 0)), (1, .int (nI 0)), (0, .int (nI q))] := hl
  refine cs_wl (σ := Nat) (fun n st ls => (n = 16 - st ∧ st ≤ 16) ∧ lv_has ls 3 [(0, .int (nI q)), (1, .int (nI (pcs q st))), (2, .int (nI st))]) ?_ 16 0 ls ⟨⟨rfl, by decide⟩, lv_sub hl [2, 1, 0] rfl⟩
  clear hl
  intro n st ls hI ih
  obtain ⟨⟨hn, hk⟩, hl⟩ := hI
  have hl : lv_has ls 3 [(0, .int (nI q)), (1, .int (nI (pcs q st))), (2, .int (nI st))] := hl
  refine lv_iload_n hx hb dX1_bits_4 rfl (lv_at hl 2 rfl) ?_
  refine lv_bipush (v := nI 16) hx hb dX1_bits_5 (by decide) ?_
  rcases Nat.lt_or_ge st 16 with hk1 | hk1
  · refine lv_icmp_ge hx hb dX1_bits_7 (tgt := 24) (by decide) (fun hq => absurd hq (nI_ge hk1 (by decide))) (fun _ => ?_)
    refine lv_iload_n hx hb dX1_bits_10 rfl (lv_at hl 1 rfl) ?_
    refine lv_iload_n hx hb dX1_bits_11 rfl (lv_at hl 0 rfl) ?_
    refine lv_iload_n hx hb dX1_bits_12 rfl (lv_at hl 2 rfl) ?_
    refine lv_ishr hx hb dX1_bits_13 ?_
    refine cs_top (y := nI (q / 2 ^ st)) (cs_shr (by omega) (by omega)) ?_
    refine lv_iconst (v := nI 1) hx hb dX1_bits_14 (by decide) ?_
    refine lv_iand hx hb dX1_bits_15 ?_
    refine cs_top (y := nI ((q / 2 ^ st) &&& 1)) (cs_and (q / 2 ^ st) 1) ?_
    refine lv_iadd hx hb dX1_bits_16 ?_
    refine cs_top (y := nI ((pcs q st) + ((q / 2 ^ st) &&& 1))) (nI_add (pcs q st) ((q / 2 ^ st) &&& 1)) ?_
    refine cs_top (y := nI (pcs q (st + 1))) (congrArg nI (by rw [Nat.and_one_is_mod]; rfl)) ?_
    refine lv_istore_n hx hb dX1_bits_17 rfl hl (by decide) rfl (fun ls hl => ?_)
    have hl : lv_has ls 3 [(1, .int (nI (pcs q (st + 1)))), (0, .int (nI q)), (2, .int (nI st))] := hl
    refine lv_iinc (v := nI (st + 1)) hx hb dX1_bits_18 hl (k := 2) rfl (cs_inc _ 1) (by decide) rfl (fun ls hl => ?_)
    have hl : lv_has ls 3 [(2, .int (nI (st + 1))), (1, .int (nI (pcs q (st + 1)))), (0, .int (nI q))] := hl
    refine lv_goto hx hb dX1_bits_21 (tgt := 4) (by decide) ?_
    exact ih (16 - (st + 1)) (st + 1) ls (by omega) ⟨⟨rfl, by omega⟩, lv_sub hl [2, 1, 0] rfl⟩
  · refine lv_icmp_ge hx hb dX1_bits_7 (tgt := 24) (by decide) (fun _ => ?_) (fun hq => absurd (nI_le hk1 (by omega)) hq)
    refine lv_iload_n hx hb dX1_bits_24 rfl (lv_at hl 1 rfl) ?_
    exact W.iret (v := nI (pcs q st)) hx hb hr (fun t ht hW => ⟨nI (pcs q st), rfl, by rw [show st = 16 by omega], ht⟩) (fun q h => by cases h) dX1_bits_25
set_option maxHeartbeats 4000000 in
set_option maxRecDepth 100000 in
theorem m_literal_out (l : Launch) (dC : Nat → ClassId) (dI : Nat → Nat → Nat) (o b1 b2 b3 : Nat) (e1 e2 e3 : ClassId) (N c y z : Nat) (fo kn : Int32) (g1 g2 g3 : Nat → Int32) {v : Int32} (hv : v < 0 ∨ nI N ≤ v) (x2 : Int32) : Met l yX1_literal wsX1_literal ({ frames := 1, cells := 0, slots := 0, locals := 30 }) (va_Pc [.ref o, .int v, .int x2] (rW (dC, dI) vwCl (mC o b1 b2 b3 e1 e2 e3 (nI N) (nI c) (nI y) (nI z) fo kn g1 g2 g3) (mT e1 e2 e3))) (vp_Si (fun r => r = -1)) 0 0 (fun _ => False) := by
  refine Met.ofW (cc := cX1_literal) (maxL := 3) (ret := some .int) (by decide) rfl ?_
  intro p e s m args below meth c0 s₁ B hml hv0
  obtain ⟨rfl, hP, hK⟩ := hv0
  have hx := B.exec
  have hb := B.bytes
  have hr := B.returns
  have hts := atoms_spec (ws := wsX1_literal) B.pre
  have hown : s.vm.findClass RX1 = some m.cls := findClass_of_methodNamed B.named
  have hlocks := B.notSynchronized
  have hP : va_P (dC, dI) vwCl (mC o b1 b2 b3 e1 e2 e3 (nI N) (nI c) (nI y) (nI z) fo kn g1 g2 g3) s.heap := hP
  have hin1 : ∀ w ∈ u_ws RX1 TX1 9, w ∈ wsX1_literal := by decide +kernel
  have hl := lv_entry ([.ref o, .int v, .int x2]) (n := 3) (Nat.le_of_ble_eq_true rfl)
  rw [lg_entry_eq]
  generalize (lg_sl ([.ref o, .int v, .int x2]) ++ List.replicate (3 - (lg_sl ([.ref o, .int v, .int x2])).length) Slot.unset).toArray = ls at hl ⊢
  have hl : lv_has ls 3 [(0, .ref o), (1, .int v), (2, .int x2)] := hl
  refine lv_aload_n hx hb dX1_literal_0 rfl (lv_at hl 0 rfl) ?_
  refine lv_iload_n hx hb dX1_literal_1 rfl (lv_at hl 1 rfl) ?_
  refine vp_callSi (W.runV (As := [.int v]) (rest := []) ⟨hx, hb, hml, hown, hts⟩ (m_is_out l dC dI o b1 b2 b3 e1 e2 e3 N c y z fo kn g1 g2 g3 hv) (cwV 1 hts gX1_literal_X1_is rfl rfl rfl (by decide +kernel) ⟨Nat.le_of_ble_eq_true rfl, Nat.le_of_ble_eq_true rfl⟩) (rW_preV hP hK (va_recv (q := (RX1, TX1, 9)) (q0 := 0) hK hP rfl rfl)) rfl rfl hl.1 rfl (lv_room (Nat.le_of_ble_eq_true rfl)) dX1_literal_2 ⟨Nat.le_refl _, Nat.le_refl _⟩) (fun r0 hr0 => ?_)
  subst hr0
  refine lv_if_ne hx hb dX1_literal_5 (tgt := 10) (by decide) (fun hq => absurd (nI_0) hq) (fun _ => ?_)
  refine lv_iconst (v := (-1)) hx hb dX1_literal_8 (by decide) ?_
  exact W.iret (v := (-1)) hx hb hr (fun t ht hW => ⟨(-1), rfl, rfl, ht⟩) (fun q h => by cases h) dX1_literal_9
set_option maxHeartbeats 4000000 in
set_option maxRecDepth 100000 in
theorem m_literal (l : Launch) (sz : Nat) (dC : Nat → ClassId) (dI : Nat → Nat → Nat) (o b1 b2 b3 : Nat) (e1 e2 e3 : ClassId) (N c y z : Nat) (fo kn : Int32) (g1 g2 g3 : Nat → Int32) (hN : N ≤ 16) (hy : y < 2 ^ N) (hz : z < 2 ^ N) {j : Nat} (hj : j < N) (b : Bool) : Met l yX1_literal wsX1_literal ({ frames := 1, cells := 0, slots := 0, locals := 30 }) (va_Pc [.ref o, .int (nI j), .int (bI b)] (wW (dC, dI) vwCl (mC o b1 b2 b3 e1 e2 e3 (nI N) (nI c) (nI y) (nI z) fo kn g1 g2 g3) (mT e1 e2 e3) sz)) (va_Qi (fun (r : Int32) (u : Unit) => r = nI (pcs (lt1 y j b) 16 + pcs (lt0 z j b) 16)) (oW (dC, dI) vwCl (mC o b1 b2 b3 e1 e2 e3 (nI N) (nI c) (nI y) (nI z) fo kn g1 g2 g3) sz (fun u : Unit => (mC o b1 b2 b3 e1 e2 e3 (nI N) (nI c) (nI (lt1 y j b)) (nI (lt0 z j b)) fo kn g1 g2 g3))) (va_A (mC o b1 b2 b3 e1 e2 e3 (nI N) (nI c) (nI y) (nI z) fo kn g1 g2 g3) sz)) 0 0 (va_A (mC o b1 b2 b3 e1 e2 e3 (nI N) (nI c) (nI y) (nI z) fo kn g1 g2 g3) sz) := by
  refine Met.ofW (cc := cX1_literal) (maxL := 3) (ret := some .int) (by decide) rfl ?_
  intro p e s m args below meth c0 s₁ B hml hv0
  obtain ⟨rfl, hsz, hP, hK, hD0⟩ := hv0
  have hx := B.exec
  have hb := B.bytes
  have hr := B.returns
  have hts := atoms_spec (ws := wsX1_literal) B.pre
  have hown : s.vm.findClass RX1 = some m.cls := findClass_of_methodNamed B.named
  have hlocks := B.notSynchronized
  subst hsz
  have hD := hD0.self (sz := s.heap.size)
  generalize hAe : va_A (mC o b1 b2 b3 e1 e2 e3 (nI N) (nI c) (nI y) (nI z) fo kn g1 g2 g3) s.heap.size = A at hD ⊢
  have hA : ∀ q : Nat, s.heap.size ≤ q → A q := fun q h => by rw [← hAe]; exact Or.inr h
  have hS : va_S A s.heap s.heap [] := va_S.rf
  have hP : va_P (dC, dI) vwCl (mC o b1 b2 b3 e1 e2 e3 (nI N) (nI c) (nI y) (nI z) fo kn g1 g2 g3) s.heap := hP
  have hin1 : ∀ w ∈ u_ws RX1 TX1 9, w ∈ wsX1_literal := by decide +kernel
  have hl := lv_entry ([.ref o, .int (nI j), .int (bI b)]) (n := 3) (Nat.le_of_ble_eq_true rfl)
  rw [lg_entry_eq]
  generalize (lg_sl ([.ref o, .int (nI j), .int (bI b)]) ++ List.replicate (3 - (lg_sl ([.ref o, .int (nI j), .int (bI b)])).length) Slot.unset).toArray = ls at hl ⊢
  have hl : lv_has ls 3 [(0, .ref o), (1, .int (nI j)), (2, .int (bI b))] := hl
  refine lv_aload_n hx hb dX1_literal_0 rfl (lv_at hl 0 rfl) ?_
  refine lv_iload_n hx hb dX1_literal_1 rfl (lv_at hl 1 rfl) ?_
  refine vp_callSi (W.runV (As := [.int (nI j)]) (rest := []) ⟨hx, hb, hml, hown, hts⟩ (m_is_in l dC dI o b1 b2 b3 e1 e2 e3 N c y z fo kn g1 g2 g3 hN hj) (cwV 1 hts gX1_literal_X1_is rfl rfl rfl (by decide +kernel) ⟨Nat.le_of_ble_eq_true rfl, Nat.le_of_ble_eq_true rfl⟩) (rW_preV hP hK (va_recv (q := (RX1, TX1, 9)) (q0 := 0) hK hP rfl rfl)) rfl rfl hl.1 rfl (lv_room (Nat.le_of_ble_eq_true rfl)) dX1_literal_2 ⟨Nat.le_refl _, Nat.le_refl _⟩) (fun r0 hr0 => ?_)
  subst hr0
  refine lv_if_ne hx hb dX1_literal_5 (tgt := 10) (by decide) (fun _ => ?_) (fun hq => absurd hq (by decide))
  refine lv_iload_n hx hb dX1_literal_10 rfl (lv_at hl 2 rfl) ?_
  have hy9 := fun b => cs_N31 hN (lt1_lt hy hj b)
  have hz9 := fun b => cs_N31 hN (lt0_lt hz hj b)
  cases b with
  | true =>
    refine lv_if_eq hx hb dX1_literal_11 (tgt := 29) (by decide) (fun hq => absurd hq (by decide)) (fun _ => ?_)
    refine lv_aload_n hx hb dX1_literal_14 rfl (lv_at hl 0 rfl) ?_
    refine lv_dup hx hb dX1_literal_15 rfl ?_
    refine va_get (D := (dC, dI)) (ci := 1) (v := .int (nI y)) (C := RX1) (T := TX1) (N := 9) hx hb hts hin1 hown hK hP 0 rfl rfl 5 (by decide) (hts (.fieldLink RX1 32 "ClauseSolverModel" "ownYes" "I") (by decide +kernel)) (fun _ h9 => h9) rfl dX1_literal_16 ?_
    refine lv_iconst (v := nI 1) hx hb dX1_literal_19 (by decide) ?_
    refine lv_iload_n hx hb dX1_literal_20 rfl (lv_at hl 1 rfl) ?_
    refine lv_ishl hx hb dX1_literal_21 ?_
    refine cs_top (y := nI (2 ^ j)) (cs_one (by omega)) ?_
    refine lv_ior hx hb dX1_literal_22 ?_
    refine cs_top (y := nI (y ||| (2 ^ j))) (cs_or y (2 ^ j)) ?_
    refine cs_top (y := nI (lt1 y j true)) (rfl) ?_
    refine va_put (D := (dC, dI)) (ci := 1) (v := .int (nI (lt1 y j true))) (ty := .int) (C := RX1) (T := TX1) (N := 9) hx hb hts hin1 tyX1 tyX1_ok nmX1 hown hK hP hD hS 0 rfl rfl 5 (by decide) (hts (.fieldLink RX1 32 "ClauseSolverModel" "ownYes" "I") (by decide +kernel)) (fun _ h9 => h9) rfl (by decide +kernel) rfl rfl (Nat.le_of_ble_eq_true rfl) dX1_literal_23 (fun H locs hP hD hS => ?_)
    have hP : va_P (dC, dI) vwCl (mC o b1 b2 b3 e1 e2 e3 (nI N) (nI c) (nI (lt1 y j true)) (nI z) fo kn g1 g2 g3) H := hP
    have hD : va_D A (mC o b1 b2 b3 e1 e2 e3 (nI N) (nI c) (nI (lt1 y j true)) (nI z) fo kn g1 g2 g3) := hD
    refine lv_goto hx hb dX1_literal_26 (tgt := 41) (by decide) ?_
    refine lv_aload_n hx hb dX1_literal_41 rfl (lv_at hl 0 rfl) ?_
    refine va_get (D := (dC, dI)) (ci := 1) (v := .int (nI (lt1 y j true))) (C := RX1) (T := TX1) (N := 9) hx hb hts hin1 hown hK hP 0 rfl rfl 5 (by decide) (hts (.fieldLink RX1 32 "ClauseSolverModel" "ownYes" "I") (by decide +kernel)) (fun _ h9 => h9) rfl dX1_literal_42 ?_
    refine vp_callSi (W.runS (As := [.int (nI (lt1 y j true))]) (rest := []) ⟨hx, hb, hml, hown, hts⟩ (m_bits l (hy9 true)) (va_cwS 1 hts gX1_literal_X1_bits rfl rfl rfl (by decide +kernel) ⟨Nat.le_of_ble_eq_true rfl, Nat.le_of_ble_eq_true rfl⟩) (nW_preS) rfl rfl hl.1 rfl (lv_room (Nat.le_of_ble_eq_true rfl)) dX1_literal_45 ⟨Nat.le_refl _, Nat.le_refl _⟩) (fun r0 hr0 => ?_)
    subst hr0
    refine lv_aload_n hx hb dX1_literal_48 rfl (lv_at hl 0 rfl) ?_
    refine va_get (D := (dC, dI)) (ci := 1) (v := .int (nI z)) (C := RX1) (T := TX1) (N := 9) hx hb hts hin1 hown hK hP 0 rfl rfl 6 (by decide) (hts (.fieldLink RX1 35 "ClauseSolverModel" "ownNo" "I") (by decide +kernel)) (fun _ h9 => h9) rfl dX1_literal_49 ?_
    refine vp_callSi (W.runS (As := [.int (nI z)]) (rest := [.int (nI (pcs (lt1 y j true) 16))]) ⟨hx, hb, hml, hown, hts⟩ (m_bits l (hz9 true)) (va_cwS 1 hts gX1_literal_X1_bits rfl rfl rfl (by decide +kernel) ⟨Nat.le_of_ble_eq_true rfl, Nat.le_of_ble_eq_true rfl⟩) (nW_preS) rfl rfl hl.1 rfl (lv_room (Nat.le_of_ble_eq_true rfl)) dX1_literal_52 ⟨Nat.le_refl _, Nat.le_refl _⟩) (fun r0 hr0 => ?_)
    subst hr0
    refine lv_iadd hx hb dX1_literal_55 ?_
    refine cs_top (y := nI ((pcs (lt1 y j true) 16) + (pcs (lt0 z j true) 16))) (nI_add (pcs (lt1 y j true) 16) (pcs (lt0 z j true) 16)) ?_
    exact W.iret (v := nI ((pcs (lt1 y j true) 16) + (pcs (lt0 z j true) 16))) hx hb hr (fun t ht hW => ⟨⟨nI ((pcs (lt1 y j true) 16) + (pcs (lt0 z j true) 16)), (), rfl, rfl, by rw [ht]; exact hP, by rw [hAe]; exact hD⟩, hS.F ht⟩) hS.2.2 dX1_literal_56
  | false =>
    refine lv_if_eq hx hb dX1_literal_11 (tgt := 29) (by decide) (fun _ => ?_) (fun hq => absurd (nI_0) hq)
    refine lv_aload_n hx hb dX1_literal_29 rfl (lv_at hl 0 rfl) ?_
    refine lv_dup hx hb dX1_literal_30 rfl ?_
    refine va_get (D := (dC, dI)) (ci := 1) (v := .int (nI z)) (C := RX1) (T := TX1) (N := 9) hx hb hts hin1 hown hK hP 0 rfl rfl 6 (by decide) (hts (.fieldLink RX1 35 "ClauseSolverModel" "ownNo" "I") (by decide +kernel)) (fun _ h9 => h9) rfl dX1_literal_31 ?_
    refine lv_iconst (v := nI 1) hx hb dX1_literal_34 (by decide) ?_
    refine lv_iload_n hx hb dX1_literal_35 rfl (lv_at hl 1 rfl) ?_
    refine lv_ishl hx hb dX1_literal_36 ?_
    refine cs_top (y := nI (2 ^ j)) (cs_one (by omega)) ?_
    refine lv_ior hx hb dX1_literal_37 ?_
    refine cs_top (y := nI (z ||| (2 ^ j))) (cs_or z (2 ^ j)) ?_
    refine cs_top (y := nI (lt0 z j false)) (rfl) ?_
    refine va_put (D := (dC, dI)) (ci := 1) (v := .int (nI (lt0 z j false))) (ty := .int) (C := RX1) (T := TX1) (N := 9) hx hb hts hin1 tyX1 tyX1_ok nmX1 hown hK hP hD hS 0 rfl rfl 6 (by decide) (hts (.fieldLink RX1 35 "ClauseSolverModel" "ownNo" "I") (by decide +kernel)) (fun _ h9 => h9) rfl (by decide +kernel) rfl rfl (Nat.le_of_ble_eq_true rfl) dX1_literal_38 (fun H locs hP hD hS => ?_)
    have hP : va_P (dC, dI) vwCl (mC o b1 b2 b3 e1 e2 e3 (nI N) (nI c) (nI y) (nI (lt0 z j false)) fo kn g1 g2 g3) H := hP
    have hD : va_D A (mC o b1 b2 b3 e1 e2 e3 (nI N) (nI c) (nI y) (nI (lt0 z j false)) fo kn g1 g2 g3) := hD
    refine lv_aload_n hx hb dX1_literal_41 rfl (lv_at hl 0 rfl) ?_
    refine va_get (D := (dC, dI)) (ci := 1) (v := .int (nI y)) (C := RX1) (T := TX1) (N := 9) hx hb hts hin1 hown hK hP 0 rfl rfl 5 (by decide) (hts (.fieldLink RX1 32 "ClauseSolverModel" "ownYes" "I") (by decide +kernel)) (fun _ h9 => h9) rfl dX1_literal_42 ?_
    refine vp_callSi (W.runS (As := [.int (nI y)]) (rest := []) ⟨hx, hb, hml, hown, hts⟩ (m_bits l (hy9 false)) (va_cwS 1 hts gX1_literal_X1_bits rfl rfl rfl (by decide +kernel) ⟨Nat.le_of_ble_eq_true rfl, Nat.le_of_ble_eq_true rfl⟩) (nW_preS) rfl rfl hl.1 rfl (lv_room (Nat.le_of_ble_eq_true rfl)) dX1_literal_45 ⟨Nat.le_refl _, Nat.le_refl _⟩) (fun r0 hr0 => ?_)
    subst hr0
    refine lv_aload_n hx hb dX1_literal_48 rfl (lv_at hl 0 rfl) ?_
    refine va_get (D := (dC, dI)) (ci := 1) (v := .int (nI (lt0 z j false))) (C := RX1) (T := TX1) (N := 9) hx hb hts hin1 hown hK hP 0 rfl rfl 6 (by decide) (hts (.fieldLink RX1 35 "ClauseSolverModel" "ownNo" "I") (by decide +kernel)) (fun _ h9 => h9) rfl dX1_literal_49 ?_
    refine vp_callSi (W.runS (As := [.int (nI (lt0 z j false))]) (rest := [.int (nI (pcs (lt1 y j false) 16))]) ⟨hx, hb, hml, hown, hts⟩ (m_bits l (hz9 false)) (va_cwS 1 hts gX1_literal_X1_bits rfl rfl rfl (by decide +kernel) ⟨Nat.le_of_ble_eq_true rfl, Nat.le_of_ble_eq_true rfl⟩) (nW_preS) rfl rfl hl.1 rfl (lv_room (Nat.le_of_ble_eq_true rfl)) dX1_literal_52 ⟨Nat.le_refl _, Nat.le_refl _⟩) (fun r0 hr0 => ?_)
    subst hr0
    refine lv_iadd hx hb dX1_literal_55 ?_
    refine cs_top (y := nI ((pcs (lt1 y j false) 16) + (pcs (lt0 z j false) 16))) (nI_add (pcs (lt1 y j false) 16) (pcs (lt0 z j false) 16)) ?_
    exact W.iret (v := nI ((pcs (lt1 y j false) 16) + (pcs (lt0 z j false) 16))) hx hb hr (fun t ht hW => ⟨⟨nI ((pcs (lt1 y j false) 16) + (pcs (lt0 z j false) 16)), (), rfl, rfl, by rw [ht]; exact hP, by rw [hAe]; exact hD⟩, hS.F ht⟩) hS.2.2 dX1_literal_56
set_option maxHeartbeats 4000000 in
set_option maxRecDepth 100000 in
theorem m_some_full (l : Launch) (dC : Nat → ClassId) (dI : Nat → Nat → Nat) (o b1 b2 b3 : Nat) (e1 e2 e3 : ClassId) (N c y z : Nat) (fo kn : Int32) (g1 g2 g3 : Nat → Int32) (hc : c = 400) (x1 x2 : Int32) : Met l yX1_some wsX1_some ({ frames := 0, cells := 0, slots := 0, locals := 0 }) (va_Pc [.ref o, .int x1, .int x2] (rW (dC, dI) vwCl (mC o b1 b2 b3 e1 e2 e3 (nI N) (nI c) (nI y) (nI z) fo kn g1 g2 g3) (mT e1 e2 e3))) (vp_Si (fun r => r = -3)) 0 0 (fun _ => False) := by
  refine Met.ofW (cc := cX1_some) (maxL := 3) (ret := some .int) (by decide) rfl ?_
  intro p e s m args below meth c0 s₁ B hml hv0
  obtain ⟨rfl, hP, hK⟩ := hv0
  have hx := B.exec
  have hb := B.bytes
  have hr := B.returns
  have hts := atoms_spec (ws := wsX1_some) B.pre
  have hown : s.vm.findClass RX1 = some m.cls := findClass_of_methodNamed B.named
  have hlocks := B.notSynchronized
  have hP : va_P (dC, dI) vwCl (mC o b1 b2 b3 e1 e2 e3 (nI N) (nI c) (nI y) (nI z) fo kn g1 g2 g3) s.heap := hP
  have hin1 : ∀ w ∈ u_ws RX1 TX1 9, w ∈ wsX1_some := by decide +kernel
  have hl := lv_entry ([.ref o, .int x1, .int x2]) (n := 3) (Nat.le_of_ble_eq_true rfl)
  rw [lg_entry_eq]
  generalize (lg_sl ([.ref o, .int x1, .int x2]) ++ List.replicate (3 - (lg_sl ([.ref o, .int x1, .int x2])).length) Slot.unset).toArray = ls at hl ⊢
  have hl : lv_has ls 3 [(0, .ref o), (1, .int x1), (2, .int x2)] := hl
  refine lv_aload_n hx hb dX1_some_0 rfl (lv_at hl 0 rfl) ?_
  refine va_get (D := (dC, dI)) (ci := 1) (v := .int (nI c)) (C := RX1) (T := TX1) (N := 9) hx hb hts hin1 hown hK hP 0 rfl rfl 4 (by decide) (hts (.fieldLink RX1 42 "ClauseSolverModel" "count" "I") (by decide +kernel)) (fun _ h9 => h9) rfl dX1_some_1 ?_
  refine lv_sipush (v := nI 400) hx hb dX1_some_4 (by decide) ?_
  refine lv_icmp_ne hx hb dX1_some_7 (tgt := 13) (by decide) (fun hq => absurd (congrArg nI hc) hq) (fun _ => ?_)
  refine lv_bipush (v := (-3)) hx hb dX1_some_10 (by decide) ?_
  exact W.iret (v := (-3)) hx hb hr (fun t ht hW => ⟨(-3), rfl, rfl, ht⟩) (fun q h => by cases h) dX1_some_12
set_option maxHeartbeats 4000000 in
set_option maxRecDepth 100000 in
theorem m_some (l : Launch) (sz : Nat) (dC : Nat → ClassId) (dI : Nat → Nat → Nat) (o b1 b2 b3 : Nat) (e1 e2 e3 : ClassId) (N c y z : Nat) (fo kn : Int32) (g1 g2 g3 : Nat → Int32) (hN : N ≤ 16) (hc : c < 400) (x1 x2 : Int32) : Met l yX1_some wsX1_some ({ frames := 0, cells := 0, slots := 0, locals := 0 }) (va_Pc [.ref o, .int x1, .int x2] (wW (dC, dI) vwCl (mC o b1 b2 b3 e1 e2 e3 (nI N) (nI c) (nI y) (nI z) fo kn g1 g2 g3) (mT e1 e2 e3) sz)) (va_Qi (fun (r : Int32) (u : Unit) => r = nI (c + 1)) (oW (dC, dI) vwCl (mC o b1 b2 b3 e1 e2 e3 (nI N) (nI c) (nI y) (nI z) fo kn g1 g2 g3) sz (fun u : Unit => (mC o b1 b2 b3 e1 e2 e3 (nI N) (nI (c + 1)) (nI y) (nI z) fo (nI 0) g1 (upd g2 c (nI (lo x1 N))) (upd g3 c (nI (lo x2 N)))))) (va_A (mC o b1 b2 b3 e1 e2 e3 (nI N) (nI c) (nI y) (nI z) fo kn g1 g2 g3) sz)) 0 0 (va_A (mC o b1 b2 b3 e1 e2 e3 (nI N) (nI c) (nI y) (nI z) fo kn g1 g2 g3) sz) := by
  refine Met.ofW (cc := cX1_some) (maxL := 3) (ret := some .int) (by decide) rfl ?_
  intro p e s m args below meth c0 s₁ B hml hv0
  obtain ⟨rfl, hsz, hP, hK, hD0⟩ := hv0
  have hx := B.exec
  have hb := B.bytes
  have hr := B.returns
  have hts := atoms_spec (ws := wsX1_some) B.pre
  have hown : s.vm.findClass RX1 = some m.cls := findClass_of_methodNamed B.named
  have hlocks := B.notSynchronized
  subst hsz
  have hD := hD0.self (sz := s.heap.size)
  generalize hAe : va_A (mC o b1 b2 b3 e1 e2 e3 (nI N) (nI c) (nI y) (nI z) fo kn g1 g2 g3) s.heap.size = A at hD ⊢
  have hA : ∀ q : Nat, s.heap.size ≤ q → A q := fun q h => by rw [← hAe]; exact Or.inr h
  have hS : va_S A s.heap s.heap [] := va_S.rf
  have hP : va_P (dC, dI) vwCl (mC o b1 b2 b3 e1 e2 e3 (nI N) (nI c) (nI y) (nI z) fo kn g1 g2 g3) s.heap := hP
  have hin1 : ∀ w ∈ u_ws RX1 TX1 9, w ∈ wsX1_some := by decide +kernel
  have hl := lv_entry ([.ref o, .int x1, .int x2]) (n := 3) (Nat.le_of_ble_eq_true rfl)
  rw [lg_entry_eq]
  generalize (lg_sl ([.ref o, .int x1, .int x2]) ++ List.replicate (3 - (lg_sl ([.ref o, .int x1, .int x2])).length) Slot.unset).toArray = ls at hl ⊢
  have hl : lv_has ls 3 [(0, .ref o), (1, .int x1), (2, .int x2)] := hl
  refine lv_aload_n hx hb dX1_some_0 rfl (lv_at hl 0 rfl) ?_
  refine va_get (D := (dC, dI)) (ci := 1) (v := .int (nI c)) (C := RX1) (T := TX1) (N := 9) hx hb hts hin1 hown hK hP 0 rfl rfl 4 (by decide) (hts (.fieldLink RX1 42 "ClauseSolverModel" "count" "I") (by decide +kernel)) (fun _ h9 => h9) rfl dX1_some_1 ?_
  refine lv_sipush (v := nI 400) hx hb dX1_some_4 (by decide) ?_
  refine lv_icmp_ne hx hb dX1_some_7 (tgt := 13) (by decide) (fun _ => ?_) (fun hq => absurd hq ((fun z9 => absurd ((nI_eq (by omega) (by omega)).mp z9) (by omega))))
  refine lv_aload_n hx hb dX1_some_13 rfl (lv_at hl 0 rfl) ?_
  refine va_get (D := (dC, dI)) (ci := 1) (v := .ref b2) (C := RX1) (T := TX1) (N := 9) hx hb hts hin1 hown hK hP 0 rfl rfl 2 (by decide) (hts (.fieldLink RX1 13 "ClauseSolverModel" "yes" "[I") (by decide +kernel)) (fun _ h9 => h9) rfl dX1_some_14 ?_
  refine lv_aload_n hx hb dX1_some_17 rfl (lv_at hl 0 rfl) ?_
  refine va_get (D := (dC, dI)) (ci := 1) (v := .int (nI c)) (C := RX1) (T := TX1) (N := 9) hx hb hts hin1 hown hK hP 0 rfl rfl 4 (by decide) (hts (.fieldLink RX1 42 "ClauseSolverModel" "count" "I") (by decide +kernel)) (fun _ h9 => h9) rfl dX1_some_18 ?_
  refine lv_iload_n hx hb dX1_some_21 rfl (lv_at hl 1 rfl) ?_
  refine lv_iconst (v := nI 1) hx hb dX1_some_22 (by decide) ?_
  refine lv_aload_n hx hb dX1_some_23 rfl (lv_at hl 0 rfl) ?_
  refine va_get (D := (dC, dI)) (ci := 1) (v := .int (nI N)) (C := RX1) (T := TX1) (N := 9) hx hb hts hin1 hown hK hP 0 rfl rfl 0 (by decide) (hts (.fieldLink RX1 20 "ClauseSolverModel" "variables" "I") (by decide +kernel)) (fun _ h9 => h9) rfl dX1_some_24 ?_
  refine lv_ishl hx hb dX1_some_27 ?_
  refine cs_top (y := nI (2 ^ N)) (cs_one (by omega)) ?_
  refine lv_iconst (v := nI 1) hx hb dX1_some_28 (by decide) ?_
  refine lv_isub hx hb dX1_some_29 ?_
  refine cs_top (y := nI (2 ^ N - 1)) (cs_low (by omega)) ?_
  refine lv_iand hx hb dX1_some_30 ?_
  refine cs_top (y := nI (lo x1 N)) (cs_mask x1 (by omega)) ?_
  refine cs_iast hx hb hK hP hD hS 2 1 rfl rfl (hc) (by decide) dX1_some_31 (fun H locs hP hD hS => ?_)
  have hP : va_P (dC, dI) vwCl (mC o b1 b2 b3 e1 e2 e3 (nI N) (nI c) (nI y) (nI z) fo kn g1 (upd g2 c (nI (lo x1 N))) g3) H := hP
  have hD : va_D A (mC o b1 b2 b3 e1 e2 e3 (nI N) (nI c) (nI y) (nI z) fo kn g1 (upd g2 c (nI (lo x1 N))) g3) := hD
  refine lv_aload_n hx hb dX1_some_32 rfl (lv_at hl 0 rfl) ?_
  refine va_get (D := (dC, dI)) (ci := 1) (v := .ref b3) (C := RX1) (T := TX1) (N := 9) hx hb hts hin1 hown hK hP 0 rfl rfl 3 (by decide) (hts (.fieldLink RX1 17 "ClauseSolverModel" "no" "[I") (by decide +kernel)) (fun _ h9 => h9) rfl dX1_some_33 ?_
  refine lv_aload_n hx hb dX1_some_36 rfl (lv_at hl 0 rfl) ?_
  refine va_get (D := (dC, dI)) (ci := 1) (v := .int (nI c)) (C := RX1) (T := TX1) (N := 9) hx hb hts hin1 hown hK hP 0 rfl rfl 4 (by decide) (hts (.fieldLink RX1 42 "ClauseSolverModel" "count" "I") (by decide +kernel)) (fun _ h9 => h9) rfl dX1_some_37 ?_
  refine lv_iload_n hx hb dX1_some_40 rfl (lv_at hl 2 rfl) ?_
  refine lv_iconst (v := nI 1) hx hb dX1_some_41 (by decide) ?_
  refine lv_aload_n hx hb dX1_some_42 rfl (lv_at hl 0 rfl) ?_
  refine va_get (D := (dC, dI)) (ci := 1) (v := .int (nI N)) (C := RX1) (T := TX1) (N := 9) hx hb hts hin1 hown hK hP 0 rfl rfl 0 (by decide) (hts (.fieldLink RX1 20 "ClauseSolverModel" "variables" "I") (by decide +kernel)) (fun _ h9 => h9) rfl dX1_some_43 ?_
  refine lv_ishl hx hb dX1_some_46 ?_
  refine cs_top (y := nI (2 ^ N)) (cs_one (by omega)) ?_
  refine lv_iconst (v := nI 1) hx hb dX1_some_47 (by decide) ?_
  refine lv_isub hx hb dX1_some_48 ?_
  refine cs_top (y := nI (2 ^ N - 1)) (cs_low (by omega)) ?_
  refine lv_iand hx hb dX1_some_49 ?_
  refine cs_top (y := nI (lo x2 N)) (cs_mask x2 (by omega)) ?_
  refine cs_iast hx hb hK hP hD hS 3 2 rfl rfl (hc) (by decide) dX1_some_50 (fun H locs hP hD hS => ?_)
  have hP : va_P (dC, dI) vwCl (mC o b1 b2 b3 e1 e2 e3 (nI N) (nI c) (nI y) (nI z) fo kn g1 (upd g2 c (nI (lo x1 N))) (upd g3 c (nI (lo x2 N)))) H := hP
  have hD : va_D A (mC o b1 b2 b3 e1 e2 e3 (nI N) (nI c) (nI y) (nI z) fo kn g1 (upd g2 c (nI (lo x1 N))) (upd g3 c (nI (lo x2 N)))) := hD
  refine lv_aload_n hx hb dX1_some_51 rfl (lv_at hl 0 rfl) ?_
  refine lv_dup hx hb dX1_some_52 rfl ?_
  refine va_get (D := (dC, dI)) (ci := 1) (v := .int (nI c)) (C := RX1) (T := TX1) (N := 9) hx hb hts hin1 hown hK hP 0 rfl rfl 4 (by decide) (hts (.fieldLink RX1 42 "ClauseSolverModel" "count" "I") (by decide +kernel)) (fun _ h9 => h9) rfl dX1_some_53 ?_
  refine lv_iconst (v := nI 1) hx hb dX1_some_56 (by decide) ?_
  refine lv_iadd hx hb dX1_some_57 ?_
  refine cs_top (y := nI (c + 1)) (nI_add c 1) ?_
  refine va_put (D := (dC, dI)) (ci := 1) (v := .int (nI (c + 1))) (ty := .int) (C := RX1) (T := TX1) (N := 9) hx hb hts hin1 tyX1 tyX1_ok nmX1 hown hK hP hD hS 0 rfl rfl 4 (by decide) (hts (.fieldLink RX1 42 "ClauseSolverModel" "count" "I") (by decide +kernel)) (fun _ h9 => h9) rfl (by decide +kernel) rfl rfl (Nat.le_of_ble_eq_true rfl) dX1_some_58 (fun H locs hP hD hS => ?_)
  have hP : va_P (dC, dI) vwCl (mC o b1 b2 b3 e1 e2 e3 (nI N) (nI (c + 1)) (nI y) (nI z) fo kn g1 (upd g2 c (nI (lo x1 N))) (upd g3 c (nI (lo x2 N)))) H := hP
  have hD : va_D A (mC o b1 b2 b3 e1 e2 e3 (nI N) (nI (c + 1)) (nI y) (nI z) fo kn g1 (upd g2 c (nI (lo x1 N))) (upd g3 c (nI (lo x2 N)))) := hD
  refine lv_aload_n hx hb dX1_some_61 rfl (lv_at hl 0 rfl) ?_
  refine lv_iconst (v := nI 0) hx hb dX1_some_62 (by decide) ?_
  refine va_put (D := (dC, dI)) (ci := 1) (v := .int (nI 0)) (ty := .boolean) (C := RX1) (T := TX1) (N := 9) hx hb hts hin1 tyX1 tyX1_ok nmX1 hown hK hP hD hS 0 rfl rfl 8 (by decide) (hts (.fieldLink RX1 28 "ClauseSolverModel" "known" "Z") (by decide +kernel)) (fun _ h9 => h9) rfl (by decide +kernel) rfl rfl (Nat.le_of_ble_eq_true rfl) dX1_some_63 (fun H locs hP hD hS => ?_)
  have hP : va_P (dC, dI) vwCl (mC o b1 b2 b3 e1 e2 e3 (nI N) (nI (c + 1)) (nI y) (nI z) fo (nI 0) g1 (upd g2 c (nI (lo x1 N))) (upd g3 c (nI (lo x2 N)))) H := hP
  have hD : va_D A (mC o b1 b2 b3 e1 e2 e3 (nI N) (nI (c + 1)) (nI y) (nI z) fo (nI 0) g1 (upd g2 c (nI (lo x1 N))) (upd g3 c (nI (lo x2 N)))) := hD
  refine lv_aload_n hx hb dX1_some_66 rfl (lv_at hl 0 rfl) ?_
  refine va_get (D := (dC, dI)) (ci := 1) (v := .int (nI (c + 1))) (C := RX1) (T := TX1) (N := 9) hx hb hts hin1 hown hK hP 0 rfl rfl 4 (by decide) (hts (.fieldLink RX1 42 "ClauseSolverModel" "count" "I") (by decide +kernel)) (fun _ h9 => h9) rfl dX1_some_67 ?_
  exact W.iret (v := nI (c + 1)) hx hb hr (fun t ht hW => ⟨⟨nI (c + 1), (), rfl, rfl, by rw [ht]; exact hP, by rw [hAe]; exact hD⟩, hS.F ht⟩) hS.2.2 dX1_some_70
set_option maxHeartbeats 4000000 in
set_option maxRecDepth 100000 in
theorem m_clause_full (l : Launch) (dC : Nat → ClassId) (dI : Nat → Nat → Nat) (o b1 b2 b3 : Nat) (e1 e2 e3 : ClassId) (N c y z : Nat) (fo kn : Int32) (g1 g2 g3 : Nat → Int32) (hc : c = 400) : Met l yX1_clause wsX1_clause ({ frames := 1, cells := 0, slots := 0, locals := 30 }) (va_Pc [.ref o] (rW (dC, dI) vwCl (mC o b1 b2 b3 e1 e2 e3 (nI N) (nI c) (nI y) (nI z) fo kn g1 g2 g3) (mT e1 e2 e3))) (vp_Si (fun r => r = -3)) 0 0 (fun _ => False) := by
  refine Met.ofW (cc := cX1_clause) (maxL := 1) (ret := some .int) (by decide) rfl ?_
  intro p e s m args below meth c0 s₁ B hml hv0
  obtain ⟨rfl, hP, hK⟩ := hv0
  have hx := B.exec
  have hb := B.bytes
  have hr := B.returns
  have hts := atoms_spec (ws := wsX1_clause) B.pre
  have hown : s.vm.findClass RX1 = some m.cls := findClass_of_methodNamed B.named
  have hlocks := B.notSynchronized
  have hP : va_P (dC, dI) vwCl (mC o b1 b2 b3 e1 e2 e3 (nI N) (nI c) (nI y) (nI z) fo kn g1 g2 g3) s.heap := hP
  have hin1 : ∀ w ∈ u_ws RX1 TX1 9, w ∈ wsX1_clause := by decide +kernel
  have hl := lv_entry ([.ref o]) (n := 1) (Nat.le_of_ble_eq_true rfl)
  rw [lg_entry_eq]
  generalize (lg_sl ([.ref o]) ++ List.replicate (1 - (lg_sl ([.ref o])).length) Slot.unset).toArray = ls at hl ⊢
  have hl : lv_has ls 1 [(0, .ref o)] := hl
  refine lv_aload_n hx hb dX1_clause_0 rfl (lv_at hl 0 rfl) ?_
  refine va_get (D := (dC, dI)) (ci := 1) (v := .int (nI c)) (C := RX1) (T := TX1) (N := 9) hx hb hts hin1 hown hK hP 0 rfl rfl 4 (by decide) (hts (.fieldLink RX1 42 "ClauseSolverModel" "count" "I") (by decide +kernel)) (fun _ h9 => h9) rfl dX1_clause_1 ?_
  refine lv_sipush (v := nI 400) hx hb dX1_clause_4 (by decide) ?_
  refine lv_icmp_ne hx hb dX1_clause_7 (tgt := 13) (by decide) (fun hq => absurd (congrArg nI hc) hq) (fun _ => ?_)
  refine lv_bipush (v := (-3)) hx hb dX1_clause_10 (by decide) ?_
  exact W.iret (v := (-3)) hx hb hr (fun t ht hW => ⟨(-3), rfl, rfl, ht⟩) (fun q h => by cases h) dX1_clause_12
set_option maxHeartbeats 4000000 in
set_option maxRecDepth 100000 in
theorem m_clause (l : Launch) (sz : Nat) (dC : Nat → ClassId) (dI : Nat → Nat → Nat) (o b1 b2 b3 : Nat) (e1 e2 e3 : ClassId) (N c y z : Nat) (fo kn : Int32) (g1 g2 g3 : Nat → Int32) (hN : N ≤ 16) (hc : c < 400) (hy : y < 2 ^ N) (hz : z < 2 ^ N) : Met l yX1_clause wsX1_clause ({ frames := 1, cells := 0, slots := 0, locals := 30 }) (va_Pc [.ref o] (wW (dC, dI) vwCl (mC o b1 b2 b3 e1 e2 e3 (nI N) (nI c) (nI y) (nI z) fo kn g1 g2 g3) (mT e1 e2 e3) sz)) (va_Qi (fun (r : Int32) (u : Unit) => r = nI (c + 1)) (oW (dC, dI) vwCl (mC o b1 b2 b3 e1 e2 e3 (nI N) (nI c) (nI y) (nI z) fo kn g1 g2 g3) sz (fun u : Unit => (mC o b1 b2 b3 e1 e2 e3 (nI N) (nI (c + 1)) (nI 0) (nI 0) fo (nI 0) g1 (upd g2 c (nI y)) (upd g3 c (nI z))))) (va_A (mC o b1 b2 b3 e1 e2 e3 (nI N) (nI c) (nI y) (nI z) fo kn g1 g2 g3) sz)) 0 0 (va_A (mC o b1 b2 b3 e1 e2 e3 (nI N) (nI c) (nI y) (nI z) fo kn g1 g2 g3) sz) := by
  refine Met.ofW (cc := cX1_clause) (maxL := 1) (ret := some .int) (by decide) rfl ?_
  intro p e s m args below meth c0 s₁ B hml hv0
  obtain ⟨rfl, hsz, hP, hK, hD0⟩ := hv0
  have hx := B.exec
  have hb := B.bytes
  have hr := B.returns
  have hts := atoms_spec (ws := wsX1_clause) B.pre
  have hown : s.vm.findClass RX1 = some m.cls := findClass_of_methodNamed B.named
  have hlocks := B.notSynchronized
  subst hsz
  have hD := hD0.self (sz := s.heap.size)
  generalize hAe : va_A (mC o b1 b2 b3 e1 e2 e3 (nI N) (nI c) (nI y) (nI z) fo kn g1 g2 g3) s.heap.size = A at hD ⊢
  have hA : ∀ q : Nat, s.heap.size ≤ q → A q := fun q h => by rw [← hAe]; exact Or.inr h
  have hS : va_S A s.heap s.heap [] := va_S.rf
  have hP : va_P (dC, dI) vwCl (mC o b1 b2 b3 e1 e2 e3 (nI N) (nI c) (nI y) (nI z) fo kn g1 g2 g3) s.heap := hP
  have hin1 : ∀ w ∈ u_ws RX1 TX1 9, w ∈ wsX1_clause := by decide +kernel
  have hl := lv_entry ([.ref o]) (n := 1) (Nat.le_of_ble_eq_true rfl)
  rw [lg_entry_eq]
  generalize (lg_sl ([.ref o]) ++ List.replicate (1 - (lg_sl ([.ref o])).length) Slot.unset).toArray = ls at hl ⊢
  have hl : lv_has ls 1 [(0, .ref o)] := hl
  refine lv_aload_n hx hb dX1_clause_0 rfl (lv_at hl 0 rfl) ?_
  refine va_get (D := (dC, dI)) (ci := 1) (v := .int (nI c)) (C := RX1) (T := TX1) (N := 9) hx hb hts hin1 hown hK hP 0 rfl rfl 4 (by decide) (hts (.fieldLink RX1 42 "ClauseSolverModel" "count" "I") (by decide +kernel)) (fun _ h9 => h9) rfl dX1_clause_1 ?_
  refine lv_sipush (v := nI 400) hx hb dX1_clause_4 (by decide) ?_
  refine lv_icmp_ne hx hb dX1_clause_7 (tgt := 13) (by decide) (fun _ => ?_) (fun hq => absurd hq ((fun z9 => absurd ((nI_eq (by omega) (by omega)).mp z9) (by omega))))
  refine lv_aload_n hx hb dX1_clause_13 rfl (lv_at hl 0 rfl) ?_
  refine lv_aload_n hx hb dX1_clause_14 rfl (lv_at hl 0 rfl) ?_
  refine va_get (D := (dC, dI)) (ci := 1) (v := .int (nI y)) (C := RX1) (T := TX1) (N := 9) hx hb hts hin1 hown hK hP 0 rfl rfl 5 (by decide) (hts (.fieldLink RX1 32 "ClauseSolverModel" "ownYes" "I") (by decide +kernel)) (fun _ h9 => h9) rfl dX1_clause_15 ?_
  refine lv_aload_n hx hb dX1_clause_18 rfl (lv_at hl 0 rfl) ?_
  refine va_get (D := (dC, dI)) (ci := 1) (v := .int (nI z)) (C := RX1) (T := TX1) (N := 9) hx hb hts hin1 hown hK hP 0 rfl rfl 6 (by decide) (hts (.fieldLink RX1 35 "ClauseSolverModel" "ownNo" "I") (by decide +kernel)) (fun _ h9 => h9) rfl dX1_clause_19 ?_
  refine cs_calli (wc := (mC o b1 b2 b3 e1 e2 e3 (nI N) (nI c) (nI y) (nI z) fo kn g1 g2 g3)) (wr := []) (va_runV (As := [.int (nI y), .int (nI z)]) (rest := []) ⟨hx, hb, hml, hown, hts⟩ (m_some l s.heap.size dC dI o b1 b2 b3 e1 e2 e3 N c y z fo kn g1 g2 g3 hN hc (nI y) (nI z)) (cwV 2 hts gX1_clause_X1_some rfl rfl rfl (by decide +kernel) ⟨Nat.le_of_ble_eq_true rfl, Nat.le_of_ble_eq_true rfl⟩) (wW_preV hP hK hD (va_recv (q := (RX1, TX1, 9)) (q0 := 0) hK hP rfl rfl)) rfl rfl hl.1 rfl (lv_room (Nat.le_of_ble_eq_true rfl)) dX1_clause_22 ⟨Nat.le_refl _, Nat.le_refl _⟩) hS hA hP hD [0, 1, 2, 3] [] rfl rfl (by decide) (by decide) (fun r0 u H locs hr0 hP hD hS => ?_)
  have hP : va_P (dC, dI) vwCl (mC o b1 b2 b3 e1 e2 e3 (nI N) (nI (c + 1)) (nI y) (nI z) fo (nI 0) g1 (upd g2 c (nI (lo (nI y) N))) (upd g3 c (nI (lo (nI z) N)))) H := hP
  have hD : va_D A (mC o b1 b2 b3 e1 e2 e3 (nI N) (nI (c + 1)) (nI y) (nI z) fo (nI 0) g1 (upd g2 c (nI (lo (nI y) N))) (upd g3 c (nI (lo (nI z) N)))) := hD
  obtain rfl := hr0
  rw [lo_nI hN hy, lo_nI hN hz] at hP hD
  have hP : va_P (dC, dI) vwCl (mC o b1 b2 b3 e1 e2 e3 (nI N) (nI (c + 1)) (nI y) (nI z) fo (nI 0) g1 (upd g2 c (nI y)) (upd g3 c (nI z))) H := hP
  have hD : va_D A (mC o b1 b2 b3 e1 e2 e3 (nI N) (nI (c + 1)) (nI y) (nI z) fo (nI 0) g1 (upd g2 c (nI y)) (upd g3 c (nI z))) := hD
  refine lv_pop hx hb dX1_clause_25 rfl ?_
  refine lv_aload_n hx hb dX1_clause_26 rfl (lv_at hl 0 rfl) ?_
  refine lv_iconst (v := nI 0) hx hb dX1_clause_27 (by decide) ?_
  refine va_put (D := (dC, dI)) (ci := 1) (v := .int (nI 0)) (ty := .int) (C := RX1) (T := TX1) (N := 9) hx hb hts hin1 tyX1 tyX1_ok nmX1 hown hK hP hD hS 0 rfl rfl 5 (by decide) (hts (.fieldLink RX1 32 "ClauseSolverModel" "ownYes" "I") (by decide +kernel)) (fun _ h9 => h9) rfl (by decide +kernel) rfl rfl (Nat.le_of_ble_eq_true rfl) dX1_clause_28 (fun H locs hP hD hS => ?_)
  have hP : va_P (dC, dI) vwCl (mC o b1 b2 b3 e1 e2 e3 (nI N) (nI (c + 1)) (nI 0) (nI z) fo (nI 0) g1 (upd g2 c (nI y)) (upd g3 c (nI z))) H := hP
  have hD : va_D A (mC o b1 b2 b3 e1 e2 e3 (nI N) (nI (c + 1)) (nI 0) (nI z) fo (nI 0) g1 (upd g2 c (nI y)) (upd g3 c (nI z))) := hD
  refine lv_aload_n hx hb dX1_clause_31 rfl (lv_at hl 0 rfl) ?_
  refine lv_iconst (v := nI 0) hx hb dX1_clause_32 (by decide) ?_
  refine va_put (D := (dC, dI)) (ci := 1) (v := .int (nI 0)) (ty := .int) (C := RX1) (T := TX1) (N := 9) hx hb hts hin1 tyX1 tyX1_ok nmX1 hown hK hP hD hS 0 rfl rfl 6 (by decide) (hts (.fieldLink RX1 35 "ClauseSolverModel" "ownNo" "I") (by decide +kernel)) (fun _ h9 => h9) rfl (by decide +kernel) rfl rfl (Nat.le_of_ble_eq_true rfl) dX1_clause_33 (fun H locs hP hD hS => ?_)
  have hP : va_P (dC, dI) vwCl (mC o b1 b2 b3 e1 e2 e3 (nI N) (nI (c + 1)) (nI 0) (nI 0) fo (nI 0) g1 (upd g2 c (nI y)) (upd g3 c (nI z))) H := hP
  have hD : va_D A (mC o b1 b2 b3 e1 e2 e3 (nI N) (nI (c + 1)) (nI 0) (nI 0) fo (nI 0) g1 (upd g2 c (nI y)) (upd g3 c (nI z))) := hD
  refine lv_aload_n hx hb dX1_clause_36 rfl (lv_at hl 0 rfl) ?_
  refine va_get (D := (dC, dI)) (ci := 1) (v := .int (nI (c + 1))) (C := RX1) (T := TX1) (N := 9) hx hb hts hin1 hown hK hP 0 rfl rfl 4 (by decide) (hts (.fieldLink RX1 42 "ClauseSolverModel" "count" "I") (by decide +kernel)) (fun _ h9 => h9) rfl dX1_clause_37 ?_
  exact W.iret (v := nI (c + 1)) hx hb hr (fun t ht hW => ⟨⟨nI (c + 1), (), rfl, rfl, by rw [ht]; exact hP, by rw [hAe]; exact hD⟩, hS.F ht⟩) hS.2.2 dX1_clause_40
set_option maxHeartbeats 4000000 in
set_option maxRecDepth 100000 in
theorem m_drop_out (l : Launch) (dC : Nat → ClassId) (dI : Nat → Nat → Nat) (o b1 b2 b3 : Nat) (e1 e2 e3 : ClassId) (N c y z : Nat) (fo kn : Int32) (g1 g2 g3 : Nat → Int32) {v : Int32} (hv : v < 0 ∨ nI c ≤ v) : Met l yX1_drop wsX1_drop ({ frames := 0, cells := 0, slots := 0, locals := 0 }) (va_Pc [.ref o, .int v] (rW (dC, dI) vwCl (mC o b1 b2 b3 e1 e2 e3 (nI N) (nI c) (nI y) (nI z) fo kn g1 g2 g3) (mT e1 e2 e3))) (vp_Si (fun r => r = -2)) 0 0 (fun _ => False) := by
  refine Met.ofW (cc := cX1_drop) (maxL := 2) (ret := some .int) (by decide) rfl ?_
  intro p e s m args below meth c0 s₁ B hml hv0
  obtain ⟨rfl, hP, hK⟩ := hv0
  have hx := B.exec
  have hb := B.bytes
  have hr := B.returns
  have hts := atoms_spec (ws := wsX1_drop) B.pre
  have hown : s.vm.findClass RX1 = some m.cls := findClass_of_methodNamed B.named
  have hlocks := B.notSynchronized
  have hP : va_P (dC, dI) vwCl (mC o b1 b2 b3 e1 e2 e3 (nI N) (nI c) (nI y) (nI z) fo kn g1 g2 g3) s.heap := hP
  have hin1 : ∀ w ∈ u_ws RX1 TX1 9, w ∈ wsX1_drop := by decide +kernel
  have hl := lv_entry ([.ref o, .int v]) (n := 2) (Nat.le_of_ble_eq_true rfl)
  rw [lg_entry_eq]
  generalize (lg_sl ([.ref o, .int v]) ++ List.replicate (2 - (lg_sl ([.ref o, .int v])).length) Slot.unset).toArray = ls at hl ⊢
  have hl : lv_has ls 2 [(0, .ref o), (1, .int v)] := hl
  refine lv_iload_n hx hb dX1_drop_0 rfl (lv_at hl 1 rfl) ?_
  by_cases h0 : v < 0
  · refine lv_if_lt hx hb dX1_drop_1 (tgt := 12) (by decide) (fun _ => ?_) (fun hq => absurd (h0) hq)
    refine lv_bipush (v := (-2)) hx hb dX1_drop_12 (by decide) ?_
    exact W.iret (v := (-2)) hx hb hr (fun t ht hW => ⟨(-2), rfl, rfl, ht⟩) (fun q h => by cases h) dX1_drop_14
  · refine lv_if_lt hx hb dX1_drop_1 (tgt := 12) (by decide) (fun hq => absurd hq (h0)) (fun _ => ?_)
    refine lv_iload_n hx hb dX1_drop_4 rfl (lv_at hl 1 rfl) ?_
    refine lv_aload_n hx hb dX1_drop_5 rfl (lv_at hl 0 rfl) ?_
    refine va_get (D := (dC, dI)) (ci := 1) (v := .int (nI c)) (C := RX1) (T := TX1) (N := 9) hx hb hts hin1 hown hK hP 0 rfl rfl 4 (by decide) (hts (.fieldLink RX1 42 "ClauseSolverModel" "count" "I") (by decide +kernel)) (fun _ h9 => h9) rfl dX1_drop_6 ?_
    refine lv_icmp_lt hx hb dX1_drop_9 (tgt := 15) (by decide) (fun hq => absurd hq (Int32.not_lt.mpr (hv.resolve_left h0))) (fun _ => ?_)
    refine lv_bipush (v := (-2)) hx hb dX1_drop_12 (by decide) ?_
    exact W.iret (v := (-2)) hx hb hr (fun t ht hW => ⟨(-2), rfl, rfl, ht⟩) (fun q h => by cases h) dX1_drop_14
set_option maxHeartbeats 4000000 in
set_option maxRecDepth 100000 in
theorem m_drop (l : Launch) (sz : Nat) (dC : Nat → ClassId) (dI : Nat → Nat → Nat) (o b1 b2 b3 : Nat) (e1 e2 e3 : ClassId) (N c y z : Nat) (fo kn : Int32) (g1 g2 g3 : Nat → Int32) (hc : c < 400) {j : Nat} (hj : j < c + 1) : Met l yX1_drop wsX1_drop ({ frames := 0, cells := 0, slots := 0, locals := 0 }) (va_Pc [.ref o, .int (nI j)] (wW (dC, dI) vwCl (mC o b1 b2 b3 e1 e2 e3 (nI N) (nI (c + 1)) (nI y) (nI z) fo kn g1 g2 g3) (mT e1 e2 e3) sz)) (va_Qi (fun (r : Int32) (u : Unit) => r = nI c) (oW (dC, dI) vwCl (mC o b1 b2 b3 e1 e2 e3 (nI N) (nI (c + 1)) (nI y) (nI z) fo kn g1 g2 g3) sz (fun u : Unit => (mC o b1 b2 b3 e1 e2 e3 (nI N) (nI c) (nI y) (nI z) fo (nI 0) g1 (upd g2 j (g2 c)) (upd g3 j (g3 c))))) (va_A (mC o b1 b2 b3 e1 e2 e3 (nI N) (nI (c + 1)) (nI y) (nI z) fo kn g1 g2 g3) sz)) 0 0 (va_A (mC o b1 b2 b3 e1 e2 e3 (nI N) (nI (c + 1)) (nI y) (nI z) fo kn g1 g2 g3) sz) := by
  refine Met.ofW (cc := cX1_drop) (maxL := 2) (ret := some .int) (by decide) rfl ?_
  intro p e s m args below meth c0 s₁ B hml hv0
  obtain ⟨rfl, hsz, hP, hK, hD0⟩ := hv0
  have hx := B.exec
  have hb := B.bytes
  have hr := B.returns
  have hts := atoms_spec (ws := wsX1_drop) B.pre
  have hown : s.vm.findClass RX1 = some m.cls := findClass_of_methodNamed B.named
  have hlocks := B.notSynchronized
  subst hsz
  have hD := hD0.self (sz := s.heap.size)
  generalize hAe : va_A (mC o b1 b2 b3 e1 e2 e3 (nI N) (nI (c + 1)) (nI y) (nI z) fo kn g1 g2 g3) s.heap.size = A at hD ⊢
  have hA : ∀ q : Nat, s.heap.size ≤ q → A q := fun q h => by rw [← hAe]; exact Or.inr h
  have hS : va_S A s.heap s.heap [] := va_S.rf
  have hP : va_P (dC, dI) vwCl (mC o b1 b2 b3 e1 e2 e3 (nI N) (nI (c + 1)) (nI y) (nI z) fo kn g1 g2 g3) s.heap := hP
  have hin1 : ∀ w ∈ u_ws RX1 TX1 9, w ∈ wsX1_drop := by decide +kernel
  have hl := lv_entry ([.ref o, .int (nI j)]) (n := 2) (Nat.le_of_ble_eq_true rfl)
  rw [lg_entry_eq]
  generalize (lg_sl ([.ref o, .int (nI j)]) ++ List.replicate (2 - (lg_sl ([.ref o, .int (nI j)])).length) Slot.unset).toArray = ls at hl ⊢
  have hl : lv_has ls 2 [(0, .ref o), (1, .int (nI j))] := hl
  refine lv_iload_n hx hb dX1_drop_0 rfl (lv_at hl 1 rfl) ?_
  refine lv_if_lt hx hb dX1_drop_1 (tgt := 12) (by decide) (fun hq => absurd hq (nI_pos (by omega))) (fun _ => ?_)
  refine lv_iload_n hx hb dX1_drop_4 rfl (lv_at hl 1 rfl) ?_
  refine lv_aload_n hx hb dX1_drop_5 rfl (lv_at hl 0 rfl) ?_
  refine va_get (D := (dC, dI)) (ci := 1) (v := .int (nI (c + 1))) (C := RX1) (T := TX1) (N := 9) hx hb hts hin1 hown hK hP 0 rfl rfl 4 (by decide) (hts (.fieldLink RX1 42 "ClauseSolverModel" "count" "I") (by decide +kernel)) (fun _ h9 => h9) rfl dX1_drop_6 ?_
  refine lv_icmp_lt hx hb dX1_drop_9 (tgt := 15) (by decide) (fun _ => ?_) (fun hq => absurd (nI_lt hj (by omega)) hq)
  refine lv_aload_n hx hb dX1_drop_15 rfl (lv_at hl 0 rfl) ?_
  refine lv_dup hx hb dX1_drop_16 rfl ?_
  refine va_get (D := (dC, dI)) (ci := 1) (v := .int (nI (c + 1))) (C := RX1) (T := TX1) (N := 9) hx hb hts hin1 hown hK hP 0 rfl rfl 4 (by decide) (hts (.fieldLink RX1 42 "ClauseSolverModel" "count" "I") (by decide +kernel)) (fun _ h9 => h9) rfl dX1_drop_17 ?_
  refine lv_iconst (v := nI 1) hx hb dX1_drop_20 (by decide) ?_
  refine lv_isub hx hb dX1_drop_21 ?_
  refine cs_top (y := nI c) (pk_sub (by omega)) ?_
  refine va_put (D := (dC, dI)) (ci := 1) (v := .int (nI c)) (ty := .int) (C := RX1) (T := TX1) (N := 9) hx hb hts hin1 tyX1 tyX1_ok nmX1 hown hK hP hD hS 0 rfl rfl 4 (by decide) (hts (.fieldLink RX1 42 "ClauseSolverModel" "count" "I") (by decide +kernel)) (fun _ h9 => h9) rfl (by decide +kernel) rfl rfl (Nat.le_of_ble_eq_true rfl) dX1_drop_22 (fun H locs hP hD hS => ?_)
  have hP : va_P (dC, dI) vwCl (mC o b1 b2 b3 e1 e2 e3 (nI N) (nI c) (nI y) (nI z) fo kn g1 g2 g3) H := hP
  have hD : va_D A (mC o b1 b2 b3 e1 e2 e3 (nI N) (nI c) (nI y) (nI z) fo kn g1 g2 g3) := hD
  refine lv_aload_n hx hb dX1_drop_25 rfl (lv_at hl 0 rfl) ?_
  refine va_get (D := (dC, dI)) (ci := 1) (v := .ref b2) (C := RX1) (T := TX1) (N := 9) hx hb hts hin1 hown hK hP 0 rfl rfl 2 (by decide) (hts (.fieldLink RX1 13 "ClauseSolverModel" "yes" "[I") (by decide +kernel)) (fun _ h9 => h9) rfl dX1_drop_26 ?_
  refine lv_iload_n hx hb dX1_drop_29 rfl (lv_at hl 1 rfl) ?_
  refine lv_aload_n hx hb dX1_drop_30 rfl (lv_at hl 0 rfl) ?_
  refine va_get (D := (dC, dI)) (ci := 1) (v := .ref b2) (C := RX1) (T := TX1) (N := 9) hx hb hts hin1 hown hK hP 0 rfl rfl 2 (by decide) (hts (.fieldLink RX1 13 "ClauseSolverModel" "yes" "[I") (by decide +kernel)) (fun _ h9 => h9) rfl dX1_drop_31 ?_
  refine lv_aload_n hx hb dX1_drop_34 rfl (lv_at hl 0 rfl) ?_
  refine va_get (D := (dC, dI)) (ci := 1) (v := .int (nI c)) (C := RX1) (T := TX1) (N := 9) hx hb hts hin1 hown hK hP 0 rfl rfl 4 (by decide) (hts (.fieldLink RX1 42 "ClauseSolverModel" "count" "I") (by decide +kernel)) (fun _ h9 => h9) rfl dX1_drop_35 ?_
  refine cs_iald hx hb hK hP 2 1 rfl rfl (hc) (by decide) dX1_drop_38 ?_
  refine cs_iast hx hb hK hP hD hS 2 1 rfl rfl (by omega) (by decide) dX1_drop_39 (fun H locs hP hD hS => ?_)
  have hP : va_P (dC, dI) vwCl (mC o b1 b2 b3 e1 e2 e3 (nI N) (nI c) (nI y) (nI z) fo kn g1 (upd g2 j (g2 c)) g3) H := hP
  have hD : va_D A (mC o b1 b2 b3 e1 e2 e3 (nI N) (nI c) (nI y) (nI z) fo kn g1 (upd g2 j (g2 c)) g3) := hD
  refine lv_aload_n hx hb dX1_drop_40 rfl (lv_at hl 0 rfl) ?_
  refine va_get (D := (dC, dI)) (ci := 1) (v := .ref b3) (C := RX1) (T := TX1) (N := 9) hx hb hts hin1 hown hK hP 0 rfl rfl 3 (by decide) (hts (.fieldLink RX1 17 "ClauseSolverModel" "no" "[I") (by decide +kernel)) (fun _ h9 => h9) rfl dX1_drop_41 ?_
  refine lv_iload_n hx hb dX1_drop_44 rfl (lv_at hl 1 rfl) ?_
  refine lv_aload_n hx hb dX1_drop_45 rfl (lv_at hl 0 rfl) ?_
  refine va_get (D := (dC, dI)) (ci := 1) (v := .ref b3) (C := RX1) (T := TX1) (N := 9) hx hb hts hin1 hown hK hP 0 rfl rfl 3 (by decide) (hts (.fieldLink RX1 17 "ClauseSolverModel" "no" "[I") (by decide +kernel)) (fun _ h9 => h9) rfl dX1_drop_46 ?_
  refine lv_aload_n hx hb dX1_drop_49 rfl (lv_at hl 0 rfl) ?_
  refine va_get (D := (dC, dI)) (ci := 1) (v := .int (nI c)) (C := RX1) (T := TX1) (N := 9) hx hb hts hin1 hown hK hP 0 rfl rfl 4 (by decide) (hts (.fieldLink RX1 42 "ClauseSolverModel" "count" "I") (by decide +kernel)) (fun _ h9 => h9) rfl dX1_drop_50 ?_
  refine cs_iald hx hb hK hP 3 2 rfl rfl (hc) (by decide) dX1_drop_53 ?_
  refine cs_iast hx hb hK hP hD hS 3 2 rfl rfl (by omega) (by decide) dX1_drop_54 (fun H locs hP hD hS => ?_)
  have hP : va_P (dC, dI) vwCl (mC o b1 b2 b3 e1 e2 e3 (nI N) (nI c) (nI y) (nI z) fo kn g1 (upd g2 j (g2 c)) (upd g3 j (g3 c))) H := hP
  have hD : va_D A (mC o b1 b2 b3 e1 e2 e3 (nI N) (nI c) (nI y) (nI z) fo kn g1 (upd g2 j (g2 c)) (upd g3 j (g3 c))) := hD
  refine lv_aload_n hx hb dX1_drop_55 rfl (lv_at hl 0 rfl) ?_
  refine lv_iconst (v := nI 0) hx hb dX1_drop_56 (by decide) ?_
  refine va_put (D := (dC, dI)) (ci := 1) (v := .int (nI 0)) (ty := .boolean) (C := RX1) (T := TX1) (N := 9) hx hb hts hin1 tyX1 tyX1_ok nmX1 hown hK hP hD hS 0 rfl rfl 8 (by decide) (hts (.fieldLink RX1 28 "ClauseSolverModel" "known" "Z") (by decide +kernel)) (fun _ h9 => h9) rfl (by decide +kernel) rfl rfl (Nat.le_of_ble_eq_true rfl) dX1_drop_57 (fun H locs hP hD hS => ?_)
  have hP : va_P (dC, dI) vwCl (mC o b1 b2 b3 e1 e2 e3 (nI N) (nI c) (nI y) (nI z) fo (nI 0) g1 (upd g2 j (g2 c)) (upd g3 j (g3 c))) H := hP
  have hD : va_D A (mC o b1 b2 b3 e1 e2 e3 (nI N) (nI c) (nI y) (nI z) fo (nI 0) g1 (upd g2 j (g2 c)) (upd g3 j (g3 c))) := hD
  refine lv_aload_n hx hb dX1_drop_60 rfl (lv_at hl 0 rfl) ?_
  refine va_get (D := (dC, dI)) (ci := 1) (v := .int (nI c)) (C := RX1) (T := TX1) (N := 9) hx hb hts hin1 hown hK hP 0 rfl rfl 4 (by decide) (hts (.fieldLink RX1 42 "ClauseSolverModel" "count" "I") (by decide +kernel)) (fun _ h9 => h9) rfl dX1_drop_61 ?_
  exact W.iret (v := nI c) hx hb hr (fun t ht hW => ⟨⟨nI c, (), rfl, rfl, by rw [ht]; exact hP, by rw [hAe]; exact hD⟩, hS.F ht⟩) hS.2.2 dX1_drop_64
set_option maxHeartbeats 4000000 in
set_option maxRecDepth 100000 in
theorem m_holds (l : Launch) (dC : Nat → ClassId) (dI : Nat → Nat → Nat) (o b1 b2 b3 : Nat) (e1 e2 e3 : ClassId) (N c y z : Nat) (fo kn : Int32) (g1 g2 g3 : Nat → Int32) {Y Z : Nat → Nat} (hR : ∀ k, k < c → g2 k = nI (Y k) ∧ g3 k = nI (Z k)) (hB : ∀ k, k < c → Y k < 65536 ∧ Z k < 65536) (hc : c ≤ 400) (a : Nat) {v : Nat} (hv : v ≤ 16) : Met l yX1_holds wsX1_holds ({ frames := 0, cells := 0, slots := 0, locals := 0 }) (va_Pc [.ref o, .int (nI a), .int (nI v)] (rW (dC, dI) vwCl (mC o b1 b2 b3 e1 e2 e3 (nI N) (nI c) (nI y) (nI z) fo kn g1 g2 g3) (mT e1 e2 e3))) (vp_Si (fun r => (r = nI 1 ∧ ∀ k, k < c → (Y k ||| Z k) / 2 ^ v = 0 → Mt (Y k) (Z k) a) ∨ (r = nI 0 ∧ ∃ k, k < c ∧ (Y k ||| Z k) / 2 ^ v = 0 ∧ ¬ Mt (Y k) (Z k) a))) 0 0 (fun _ => False) := by
  refine Met.ofW (cc := cX1_holds) (maxL := 4) (ret := some .boolean) (by decide) rfl ?_
  intro p e s m args below meth c0 s₁ B hml hv0
  obtain ⟨rfl, hP, hK⟩ := hv0
  have hx := B.exec
  have hb := B.bytes
  have hr := B.returns
  have hts := atoms_spec (ws := wsX1_holds) B.pre
  have hown : s.vm.findClass RX1 = some m.cls := findClass_of_methodNamed B.named
  have hlocks := B.notSynchronized
  have hP : va_P (dC, dI) vwCl (mC o b1 b2 b3 e1 e2 e3 (nI N) (nI c) (nI y) (nI z) fo kn g1 g2 g3) s.heap := hP
  have hin1 : ∀ w ∈ u_ws RX1 TX1 9, w ∈ wsX1_holds := by decide +kernel
  have hl := lv_entry ([.ref o, .int (nI a), .int (nI v)]) (n := 4) (Nat.le_of_ble_eq_true rfl)
  rw [lg_entry_eq]
  generalize (lg_sl ([.ref o, .int (nI a), .int (nI v)]) ++ List.replicate (4 - (lg_sl ([.ref o, .int (nI a), .int (nI v)])).length) Slot.unset).toArray = ls at hl ⊢
  have hl : lv_has ls 4 [(0, .ref o), (1, .int (nI a)), (2, .int (nI v))] := hl
  refine lv_iconst (v := nI 0) hx hb dX1_holds_0 (by decide) ?_
  refine lv_istore_n hx hb dX1_holds_1 rfl hl (by decide) rfl (fun ls hl => ?_)
  have hl : lv_has ls 4 [(3, .int (nI 0)), (0, .ref o), (1, .int (nI a)), (2, .int (nI v))] := hl
  refine cs_wl (σ := Nat) (fun n st ls => (n = c - st ∧ st ≤ c ∧ ∀ k, k < st → (Y k ||| Z k) / 2 ^ v = 0 → Mt (Y k) (Z k) a) ∧ lv_has ls 4 [(0, .ref o), (1, .int (nI a)), (2, .int (nI v)), (3, .int (nI st))]) ?_ c 0 ls ⟨⟨rfl, Nat.zero_le _, fun k hk => absurd hk (Nat.not_lt_zero _)⟩, lv_sub hl [1, 2, 3, 0] rfl⟩
  clear hl
  intro n st ls hI ih
  obtain ⟨⟨hn, hk, hI⟩, hl⟩ := hI
  have hl : lv_has ls 4 [(0, .ref o), (1, .int (nI a)), (2, .int (nI v)), (3, .int (nI st))] := hl
  refine lv_iload_n hx hb dX1_holds_2 rfl (lv_at hl 3 rfl) ?_
  refine lv_aload_n hx hb dX1_holds_3 rfl (lv_at hl 0 rfl) ?_
  refine va_get (D := (dC, dI)) (ci := 1) (v := .int (nI c)) (C := RX1) (T := TX1) (N := 9) hx hb hts hin1 hown hK hP 0 rfl rfl 4 (by decide) (hts (.fieldLink RX1 42 "ClauseSolverModel" "count" "I") (by decide +kernel)) (fun _ h9 => h9) rfl dX1_holds_4 ?_
  rcases Nat.lt_or_ge st c with hk1 | hk1
  · obtain ⟨q1, q2⟩ := hR st hk1
    obtain ⟨l1, l2⟩ := hB st hk1
    have hk4 : st < 400 := Nat.lt_of_lt_of_le hk1 hc
    refine lv_icmp_ge hx hb dX1_holds_7 (tgt := 60) (by decide) (fun hq => absurd hq (nI_ge hk1 (by omega))) (fun _ => ?_)
    refine lv_aload_n hx hb dX1_holds_10 rfl (lv_at hl 0 rfl) ?_
    refine va_get (D := (dC, dI)) (ci := 1) (v := .ref b2) (C := RX1) (T := TX1) (N := 9) hx hb hts hin1 hown hK hP 0 rfl rfl 2 (by decide) (hts (.fieldLink RX1 13 "ClauseSolverModel" "yes" "[I") (by decide +kernel)) (fun _ h9 => h9) rfl dX1_holds_11 ?_
    refine lv_iload_n hx hb dX1_holds_14 rfl (lv_at hl 3 rfl) ?_
    refine cs_iald hx hb hK hP 2 1 rfl rfl (hk4) (by decide) dX1_holds_15 ?_
    refine cs_top (y := nI (Y st)) (q1) ?_
    refine lv_aload_n hx hb dX1_holds_16 rfl (lv_at hl 0 rfl) ?_
    refine va_get (D := (dC, dI)) (ci := 1) (v := .ref b3) (C := RX1) (T := TX1) (N := 9) hx hb hts hin1 hown hK hP 0 rfl rfl 3 (by decide) (hts (.fieldLink RX1 17 "ClauseSolverModel" "no" "[I") (by decide +kernel)) (fun _ h9 => h9) rfl dX1_holds_17 ?_
    refine lv_iload_n hx hb dX1_holds_20 rfl (lv_at hl 3 rfl) ?_
    refine cs_iald hx hb hK hP 3 2 rfl rfl (hk4) (by decide) dX1_holds_21 ?_
    refine cs_top (y := nI (Z st)) (q2) ?_
    refine lv_ior hx hb dX1_holds_22 ?_
    refine cs_top (y := nI ((Y st) ||| (Z st))) (cs_or (Y st) (Z st)) ?_
    refine lv_iload_n hx hb dX1_holds_23 rfl (lv_at hl 2 rfl) ?_
    refine lv_ishr hx hb dX1_holds_24 ?_
    refine cs_top (y := nI ((Y st ||| Z st) / 2 ^ v)) (cs_shr (by omega) (or_16 l1 l2)) ?_
    refine lv_if_ne hx hb dX1_holds_25 (tgt := 54) (by decide) (fun h1 => ?_) (fun h1 => ?_)
    · refine lv_iinc (v := nI (st + 1)) hx hb dX1_holds_54 hl (k := 3) rfl (cs_inc _ 1) (by decide) rfl (fun ls hl => ?_)
      have hl : lv_has ls 4 [(3, .int (nI (st + 1))), (0, .ref o), (1, .int (nI a)), (2, .int (nI v))] := hl
      refine lv_goto hx hb dX1_holds_57 (tgt := 2) (by decide) ?_
      exact ih (c - (st + 1)) (st + 1) ls (by omega) ⟨⟨rfl, by omega, fun k hk => by rcases Nat.lt_or_ge k st with z1 | z1; exact hI k z1; exact (show k = st by omega) ▸ (fun z2 => absurd (by rw [z2]; exact nI_0) h1)⟩, lv_sub hl [1, 2, 3, 0] rfl⟩
    · refine lv_iload_n hx hb dX1_holds_28 rfl (lv_at hl 1 rfl) ?_
      refine lv_aload_n hx hb dX1_holds_29 rfl (lv_at hl 0 rfl) ?_
      refine va_get (D := (dC, dI)) (ci := 1) (v := .ref b2) (C := RX1) (T := TX1) (N := 9) hx hb hts hin1 hown hK hP 0 rfl rfl 2 (by decide) (hts (.fieldLink RX1 13 "ClauseSolverModel" "yes" "[I") (by decide +kernel)) (fun _ h9 => h9) rfl dX1_holds_30 ?_
      refine lv_iload_n hx hb dX1_holds_33 rfl (lv_at hl 3 rfl) ?_
      refine cs_iald hx hb hK hP 2 1 rfl rfl (hk4) (by decide) dX1_holds_34 ?_
      refine cs_top (y := nI (Y st)) (q1) ?_
      refine lv_iand hx hb dX1_holds_35 ?_
      refine cs_top (y := nI (a &&& (Y st))) (cs_and a (Y st)) ?_
      refine lv_if_ne hx hb dX1_holds_36 (tgt := 54) (by decide) (fun h2 => ?_) (fun h2 => ?_)
      · refine lv_iinc (v := nI (st + 1)) hx hb dX1_holds_54 hl (k := 3) rfl (cs_inc _ 1) (by decide) rfl (fun ls hl => ?_)
        have hl : lv_has ls 4 [(3, .int (nI (st + 1))), (0, .ref o), (1, .int (nI a)), (2, .int (nI v))] := hl
        refine lv_goto hx hb dX1_holds_57 (tgt := 2) (by decide) ?_
        exact ih (c - (st + 1)) (st + 1) ls (by omega) ⟨⟨rfl, by omega, fun k hk => by rcases Nat.lt_or_ge k st with z1 | z1; exact hI k z1; exact (show k = st by omega) ▸ (fun _ => ho_1 l2 h2)⟩, lv_sub hl [1, 2, 3, 0] rfl⟩
      · refine lv_iload_n hx hb dX1_holds_39 rfl (lv_at hl 1 rfl) ?_
        refine lv_iconst (v := nI 4294967295) hx hb dX1_holds_40 (by decide) ?_
        refine lv_ixor hx hb dX1_holds_41 ?_
        refine cs_top (y := nI (a ^^^ 4294967295)) (cs_xor a 4294967295) ?_
        refine lv_aload_n hx hb dX1_holds_42 rfl (lv_at hl 0 rfl) ?_
        refine va_get (D := (dC, dI)) (ci := 1) (v := .ref b3) (C := RX1) (T := TX1) (N := 9) hx hb hts hin1 hown hK hP 0 rfl rfl 3 (by decide) (hts (.fieldLink RX1 17 "ClauseSolverModel" "no" "[I") (by decide +kernel)) (fun _ h9 => h9) rfl dX1_holds_43 ?_
        refine lv_iload_n hx hb dX1_holds_46 rfl (lv_at hl 3 rfl) ?_
        refine cs_iald hx hb hK hP 3 2 rfl rfl (hk4) (by decide) dX1_holds_47 ?_
        refine cs_top (y := nI (Z st)) (q2) ?_
        refine lv_iand hx hb dX1_holds_48 ?_
        refine cs_top (y := nI ((a ^^^ 4294967295) &&& (Z st))) (cs_and (a ^^^ 4294967295) (Z st)) ?_
        refine lv_if_ne hx hb dX1_holds_49 (tgt := 54) (by decide) (fun h3 => ?_) (fun h3 => ?_)
        · refine lv_iinc (v := nI (st + 1)) hx hb dX1_holds_54 hl (k := 3) rfl (cs_inc _ 1) (by decide) rfl (fun ls hl => ?_)
          have hl : lv_has ls 4 [(3, .int (nI (st + 1))), (0, .ref o), (1, .int (nI a)), (2, .int (nI v))] := hl
          refine lv_goto hx hb dX1_holds_57 (tgt := 2) (by decide) ?_
          exact ih (c - (st + 1)) (st + 1) ls (by omega) ⟨⟨rfl, by omega, fun k hk => by rcases Nat.lt_or_ge k st with z1 | z1; exact hI k z1; exact (show k = st by omega) ▸ (fun _ => ho_2 l2 h3)⟩, lv_sub hl [1, 2, 3, 0] rfl⟩
        · refine lv_iconst (v := nI 0) hx hb dX1_holds_52 (by decide) ?_
          exact W.zret (ty := .boolean) (v := nI 0) hx hb hr (by first | rfl | decide) (fun t ht hW => ⟨nI 0, rfl, Or.inr ⟨rfl, st, hk1, (cs_z (Nat.lt_of_le_of_lt (Nat.div_le_self _ _) (or_16 l1 l2))).mp h1, ho_0 l1 l2 h2 h3⟩, ht⟩) (fun q h => by cases h) dX1_holds_53
  · refine lv_icmp_ge hx hb dX1_holds_7 (tgt := 60) (by decide) (fun _ => ?_) (fun hq => absurd (nI_le hk1 (by omega)) hq)
    refine lv_iconst (v := nI 1) hx hb dX1_holds_60 (by decide) ?_
    exact W.zret (ty := .boolean) (v := nI 1) hx hb hr (by first | rfl | decide) (fun t ht hW => ⟨nI 1, rfl, Or.inl ⟨rfl, (show st = c by omega) ▸ hI⟩, ht⟩) (fun q h => by cases h) dX1_holds_61
set_option maxHeartbeats 4000000 in
set_option maxRecDepth 100000 in
theorem m_search_leaf (l : Launch) (dC : Nat → ClassId) (dI : Nat → Nat → Nat) (o b1 b2 b3 : Nat) (e1 e2 e3 : ClassId) (N c y z : Nat) (fo kn : Int32) (g1 g2 g3 : Nat → Int32) {Y Z : Nat → Nat} (hR : ∀ k, k < c → g2 k = nI (Y k) ∧ g3 k = nI (Z k)) (hB : ∀ k, k < c → Y k < 2 ^ N ∧ Z k < 2 ^ N) (hc : c ≤ 400) (hN : N ≤ 16) {w : Nat} (hW : ∀ v, v < N → g1 v = bI (w.testBit v)) {a v : Nat} (hv : v = N) (ha : a < 2 ^ v) : Met l yX1_search wsX1_search ({ frames := (0 + 2), cells := 0, slots := 0, locals := (40 * 0 + 60) }) (va_Pc [.ref o, .int (nI a), .int (nI v)] (rW (dC, dI) vwCl (mC o b1 b2 b3 e1 e2 e3 (nI N) (nI c) (nI y) (nI z) fo kn g1 g2 g3) (mT e1 e2 e3))) (vp_Si (fun r => r = rs (fs (PX c Y Z) w 0 a v))) 0 0 (fun _ => False) := by
  refine Met.ofW (cc := cX1_search) (maxL := 5) (ret := some .int) (by decide) rfl ?_
  intro p e s m args below meth c0 s₁ B hml hv0
  obtain ⟨rfl, hP, hK⟩ := hv0
  have hx := B.exec
  have hb := B.bytes
  have hr := B.returns
  have hts := atoms_spec (ws := wsX1_search) B.pre
  have hown : s.vm.findClass RX1 = some m.cls := findClass_of_methodNamed B.named
  have hlocks := B.notSynchronized
  have hP : va_P (dC, dI) vwCl (mC o b1 b2 b3 e1 e2 e3 (nI N) (nI c) (nI y) (nI z) fo kn g1 g2 g3) s.heap := hP
  have hin1 : ∀ w ∈ u_ws RX1 TX1 9, w ∈ wsX1_search := by decide +kernel
  have hl := lv_entry ([.ref o, .int (nI a), .int (nI v)]) (n := 5) (Nat.le_of_ble_eq_true rfl)
  rw [lg_entry_eq]
  generalize (lg_sl ([.ref o, .int (nI a), .int (nI v)]) ++ List.replicate (5 - (lg_sl ([.ref o, .int (nI a), .int (nI v)])).length) Slot.unset).toArray = ls at hl ⊢
  have hl : lv_has ls 5 [(0, .ref o), (1, .int (nI a)), (2, .int (nI v))] := hl
  refine lv_aload_n hx hb dX1_search_0 rfl (lv_at hl 0 rfl) ?_
  refine lv_iload_n hx hb dX1_search_1 rfl (lv_at hl 1 rfl) ?_
  refine lv_iload_n hx hb dX1_search_2 rfl (lv_at hl 2 rfl) ?_
  refine vp_callSi (W.runV (As := [.int (nI a), .int (nI v)]) (rest := []) ⟨hx, hb, hml, hown, hts⟩ (m_holds l dC dI o b1 b2 b3 e1 e2 e3 N c y z fo kn g1 g2 g3 hR (fun k hk => ⟨cs_N31 hN (hB k hk).1, cs_N31 hN (hB k hk).2⟩) hc a (by omega)) (cwV 2 hts gX1_search_X1_holds rfl rfl rfl (by decide +kernel) ⟨by show 0 + 1 ≤ 0 + 2; omega, by show 8 + (4 + 11) + 0 ≤ 40 * 0 + 60; omega⟩) (rW_preV hP hK (va_recv (q := (RX1, TX1, 9)) (q0 := 0) hK hP rfl rfl)) rfl rfl hl.1 rfl (lv_room (Nat.le_of_ble_eq_true rfl)) dX1_search_3 ⟨Nat.le_refl _, Nat.le_refl _⟩) (fun r0 hr0 => ?_)
  rcases hr0 with ⟨rfl, hm⟩ | ⟨rfl, k, hk, hk0, hm⟩
  · refine lv_if_ne hx hb dX1_search_6 (tgt := 12) (by decide) (fun _ => ?_) (fun hq => absurd hq (by decide))
    refine lv_iload_n hx hb dX1_search_12 rfl (lv_at hl 2 rfl) ?_
    refine lv_aload_n hx hb dX1_search_13 rfl (lv_at hl 0 rfl) ?_
    refine va_get (D := (dC, dI)) (ci := 1) (v := .int (nI N)) (C := RX1) (T := TX1) (N := 9) hx hb hts hin1 hown hK hP 0 rfl rfl 0 (by decide) (hts (.fieldLink RX1 20 "ClauseSolverModel" "variables" "I") (by decide +kernel)) (fun _ h9 => h9) rfl dX1_search_14 ?_
    refine lv_icmp_ne hx hb dX1_search_17 (tgt := 22) (by decide) (fun hq => absurd (congrArg nI hv) hq) (fun _ => ?_)
    refine lv_iload_n hx hb dX1_search_20 rfl (lv_at hl 1 rfl) ?_
    exact W.iret (v := nI a) hx hb hr (fun t ht hW => ⟨nI a, rfl, by rw [fs_0t (P := PX c Y Z) (fun k hk => hm k hk (by rw [hv]; exact Nat.div_eq_of_lt (Nat.or_lt_two_pow (hB k hk).1 (hB k hk).2)))]; rfl, ht⟩) (fun q h => by cases h) dX1_search_21
  · refine lv_if_ne hx hb dX1_search_6 (tgt := 12) (by decide) (fun hq => absurd (nI_0) hq) (fun _ => ?_)
    refine lv_bipush (v := (-2)) hx hb dX1_search_9 (by decide) ?_
    exact W.iret (v := (-2)) hx hb hr (fun t ht hW => ⟨(-2), rfl, by rw [PX_cut ha hk hk0 hm]; rfl, ht⟩) (fun q h => by cases h) dX1_search_11
set_option maxHeartbeats 4000000 in
set_option maxRecDepth 100000 in
theorem m_search_up (l : Launch) (dC : Nat → ClassId) (dI : Nat → Nat → Nat) (o b1 b2 b3 : Nat) (e1 e2 e3 : ClassId) (N c y z : Nat) (fo kn : Int32) (g1 g2 g3 : Nat → Int32) {Y Z : Nat → Nat} (hR : ∀ k, k < c → g2 k = nI (Y k) ∧ g3 k = nI (Z k)) (hB : ∀ k, k < c → Y k < 2 ^ N ∧ Z k < 2 ^ N) (hc : c ≤ 400) (hN : N ≤ 16) {w : Nat} (hW : ∀ v, v < N → g1 v = bI (w.testBit v)) (n : Nat) {a v : Nat} (hv : v + (n + 1) = N) (ha : a < 2 ^ v) (hS : ∀ (a : Nat), a < 2 ^ (v + 1) → Met l yX1_search wsX1_search ({ frames := (n + 2), cells := 0, slots := 0, locals := (40 * n + 60) }) (va_Pc [.ref o, .int (nI a), .int (nI (v + 1))] (rW (dC, dI) vwCl (mC o b1 b2 b3 e1 e2 e3 (nI N) (nI c) (nI y) (nI z) fo kn g1 g2 g3) (mT e1 e2 e3))) (vp_Si (fun r => r = rs (fs (PX c Y Z) w n a (v + 1)))) 0 0 (fun _ => False)) : Met l yX1_search wsX1_search ({ frames := ((n + 1) + 2), cells := 0, slots := 0, locals := (40 * (n + 1) + 60) }) (va_Pc [.ref o, .int (nI a), .int (nI v)] (rW (dC, dI) vwCl (mC o b1 b2 b3 e1 e2 e3 (nI N) (nI c) (nI y) (nI z) fo kn g1 g2 g3) (mT e1 e2 e3))) (vp_Si (fun r => r = rs (fs (PX c Y Z) w (n + 1) a v))) 0 0 (fun _ => False) := by
  refine Met.ofW (cc := cX1_search) (maxL := 5) (ret := some .int) (by decide) rfl ?_
  intro p e s m args below meth c0 s₁ B hml hv0
  obtain ⟨rfl, hP, hK⟩ := hv0
  have hx := B.exec
  have hb := B.bytes
  have hr := B.returns
  have hts := atoms_spec (ws := wsX1_search) B.pre
  have hown : s.vm.findClass RX1 = some m.cls := findClass_of_methodNamed B.named
  have hlocks := B.notSynchronized
  have hP : va_P (dC, dI) vwCl (mC o b1 b2 b3 e1 e2 e3 (nI N) (nI c) (nI y) (nI z) fo kn g1 g2 g3) s.heap := hP
  have hin1 : ∀ w ∈ u_ws RX1 TX1 9, w ∈ wsX1_search := by decide +kernel
  have hl := lv_entry ([.ref o, .int (nI a), .int (nI v)]) (n := 5) (Nat.le_of_ble_eq_true rfl)
  rw [lg_entry_eq]
  generalize (lg_sl ([.ref o, .int (nI a), .int (nI v)]) ++ List.replicate (5 - (lg_sl ([.ref o, .int (nI a), .int (nI v)])).length) Slot.unset).toArray = ls at hl ⊢
  have hl : lv_has ls 5 [(0, .ref o), (1, .int (nI a)), (2, .int (nI v))] := hl
  refine lv_aload_n hx hb dX1_search_0 rfl (lv_at hl 0 rfl) ?_
  refine lv_iload_n hx hb dX1_search_1 rfl (lv_at hl 1 rfl) ?_
  refine lv_iload_n hx hb dX1_search_2 rfl (lv_at hl 2 rfl) ?_
  refine vp_callSi (W.runV (As := [.int (nI a), .int (nI v)]) (rest := []) ⟨hx, hb, hml, hown, hts⟩ (m_holds l dC dI o b1 b2 b3 e1 e2 e3 N c y z fo kn g1 g2 g3 hR (fun k hk => ⟨cs_N31 hN (hB k hk).1, cs_N31 hN (hB k hk).2⟩) hc a (by omega)) (cwV 2 hts gX1_search_X1_holds rfl rfl rfl (by decide +kernel) ⟨by show 0 + 1 ≤ (n + 1) + 2; omega, by show 8 + (4 + 11) + 0 ≤ 40 * (n + 1) + 60; omega⟩) (rW_preV hP hK (va_recv (q := (RX1, TX1, 9)) (q0 := 0) hK hP rfl rfl)) rfl rfl hl.1 rfl (lv_room (Nat.le_of_ble_eq_true rfl)) dX1_search_3 ⟨Nat.le_refl _, Nat.le_refl _⟩) (fun r0 hr0 => ?_)
  rcases hr0 with ⟨rfl, hm⟩ | ⟨rfl, k, hk, hk0, hm⟩
  · refine lv_if_ne hx hb dX1_search_6 (tgt := 12) (by decide) (fun _ => ?_) (fun hq => absurd hq (by decide))
    refine lv_iload_n hx hb dX1_search_12 rfl (lv_at hl 2 rfl) ?_
    refine lv_aload_n hx hb dX1_search_13 rfl (lv_at hl 0 rfl) ?_
    refine va_get (D := (dC, dI)) (ci := 1) (v := .int (nI N)) (C := RX1) (T := TX1) (N := 9) hx hb hts hin1 hown hK hP 0 rfl rfl 0 (by decide) (hts (.fieldLink RX1 20 "ClauseSolverModel" "variables" "I") (by decide +kernel)) (fun _ h9 => h9) rfl dX1_search_14 ?_
    have hp : 2 ^ (v + 1) = 2 ^ v + 2 ^ v := TI_p
    have hlt : ∀ (q r : Nat), q < 2 ^ (v + 1) → fs (PX c Y Z) w n q (v + 1) = some r → r < 2 ^ 31 := fun q r h1 h2 => Nat.lt_of_lt_of_le (fs_lt h1 h2) (Nat.pow_le_pow_right (by decide) (by omega))
    refine lv_icmp_ne hx hb dX1_search_17 (tgt := 22) (by decide) (fun _ => ?_) (fun hq => absurd hq ((fun z9 => absurd ((nI_eq (by omega) (by omega)).mp z9) (by omega))))
    refine lv_iconst (v := nI 1) hx hb dX1_search_22 (by decide) ?_
    refine lv_iload_n hx hb dX1_search_23 rfl (lv_at hl 2 rfl) ?_
    refine lv_ishl hx hb dX1_search_24 ?_
    refine cs_top (y := nI (2 ^ v)) (cs_one (by omega)) ?_
    refine lv_istore_n hx hb dX1_search_25 rfl hl (by decide) rfl (fun ls hl => ?_)
    have hl : lv_has ls 5 [(3, .int (nI (2 ^ v))), (0, .ref o), (1, .int (nI a)), (2, .int (nI v))] := hl
    refine lv_aload_n hx hb dX1_search_26 rfl (lv_at hl 1 rfl) ?_
    refine lv_aload_n hx hb dX1_search_27 rfl (lv_at hl 1 rfl) ?_
    refine va_get (D := (dC, dI)) (ci := 1) (v := .ref b1) (C := RX1) (T := TX1) (N := 9) hx hb hts hin1 hown hK hP 0 rfl rfl 1 (by decide) (hts (.fieldLink RX1 7 "ClauseSolverModel" "wish" "[Z") (by decide +kernel)) (fun _ h9 => h9) rfl dX1_search_28 ?_
    refine lv_iload_n hx hb dX1_search_31 rfl (lv_at hl 3 rfl) ?_
    cases hbit : w.testBit v with
    | true =>
      refine cs_zald hx hb hK hP 1 0 rfl rfl (by omega) (by decide) dX1_search_32 ?_
      refine cs_top (y := bI true) ((hW v (by omega)).trans (congrArg bI hbit)) ?_
      refine lv_if_eq hx hb dX1_search_33 (tgt := 42) (by decide) (fun hq => absurd hq (by decide)) (fun _ => ?_)
      refine lv_iload_n hx hb dX1_search_36 rfl (lv_at hl 2 rfl) ?_
      refine lv_iload_n hx hb dX1_search_37 rfl (lv_at hl 0 rfl) ?_
      refine lv_ior hx hb dX1_search_38 ?_
      refine cs_top (y := nI (a ||| (2 ^ v))) (cs_or a (2 ^ v)) ?_
      refine lv_goto hx hb dX1_search_39 (tgt := 43) (by decide) ?_
      refine cs_top (y := nI (a + 2 ^ v)) (congrArg nI (TI_or ha)) ?_
      refine lv_iload_n hx hb dX1_search_43 rfl (lv_at hl 3 rfl) ?_
      refine lv_iconst (v := nI 1) hx hb dX1_search_44 (by decide) ?_
      refine lv_iadd hx hb dX1_search_45 ?_
      refine cs_top (y := nI (v + 1)) (nI_add v 1) ?_
      refine vp_callSi (W.runV (As := [.int (nI (a + 2 ^ v)), .int (nI (v + 1))]) (rest := []) ⟨hx, hb, hml, hown, hts⟩ (hS (a + 2 ^ v) (by omega)) (cwV 2 hts gX1_search_X1_search rfl rfl rfl (by decide +kernel) ⟨by show n + 2 + 1 ≤ n + 1 + 2; omega, by show 8 + (5 + 11) + (40 * n + 60) ≤ 40 * (n + 1) + 60; omega⟩) (rW_preV hP hK (va_recv (q := (RX1, TX1, 9)) (q0 := 0) hK hP rfl rfl)) rfl rfl hl.1 rfl (lv_room (Nat.le_of_ble_eq_true rfl)) dX1_search_46 ⟨Nat.le_refl _, Nat.le_refl _⟩) (fun r0 hr0 => ?_)
      subst hr0
      refine lv_istore hx hb dX1_search_49 hl (by decide) rfl (fun ls hl => ?_)
      have hl : lv_has ls 5 [(4, .int (rs (fs (PX c Y Z) w n (a + 2 ^ v) (v + 1)))), (3, .int (nI (2 ^ v))), (0, .ref o), (1, .int (nI a)), (2, .int (nI v))] := hl
      refine lv_iload hx hb dX1_search_51 (lv_at hl 0 rfl) ?_
      refine lv_if_lt hx hb dX1_search_53 (tgt := 61) (by decide) (fun hq => ?_) (fun hq => ?_)
      · refine lv_aload_n hx hb dX1_search_61 rfl (lv_at hl 2 rfl) ?_
        refine lv_aload_n hx hb dX1_search_62 rfl (lv_at hl 2 rfl) ?_
        refine va_get (D := (dC, dI)) (ci := 1) (v := .ref b1) (C := RX1) (T := TX1) (N := 9) hx hb hts hin1 hown hK hP 0 rfl rfl 1 (by decide) (hts (.fieldLink RX1 7 "ClauseSolverModel" "wish" "[Z") (by decide +kernel)) (fun _ h9 => h9) rfl dX1_search_63 ?_
        refine lv_iload_n hx hb dX1_search_66 rfl (lv_at hl 4 rfl) ?_
        refine cs_zald hx hb hK hP 1 0 rfl rfl (by omega) (by decide) dX1_search_67 ?_
        refine cs_top (y := bI true) ((hW v (by omega)).trans (congrArg bI hbit)) ?_
        refine lv_if_eq hx hb dX1_search_68 (tgt := 75) (by decide) (fun hq => absurd hq (by decide)) (fun _ => ?_)
        refine lv_iload_n hx hb dX1_search_71 rfl (lv_at hl 3 rfl) ?_
        refine lv_goto hx hb dX1_search_72 (tgt := 78) (by decide) ?_
        refine lv_iload_n hx hb dX1_search_78 rfl (lv_at hl 4 rfl) ?_
        refine lv_iconst (v := nI 1) hx hb dX1_search_79 (by decide) ?_
        refine lv_iadd hx hb dX1_search_80 ?_
        refine cs_top (y := nI (v + 1)) (nI_add v 1) ?_
        refine vp_callSi (W.runV (As := [.int (nI a), .int (nI (v + 1))]) (rest := []) ⟨hx, hb, hml, hown, hts⟩ (hS a (by omega)) (cwV 2 hts gX1_search_X1_search rfl rfl rfl (by decide +kernel) ⟨by show n + 2 + 1 ≤ n + 1 + 2; omega, by show 8 + (5 + 11) + (40 * n + 60) ≤ 40 * (n + 1) + 60; omega⟩) (rW_preV hP hK (va_recv (q := (RX1, TX1, 9)) (q0 := 0) hK hP rfl rfl)) rfl rfl hl.1 rfl (lv_room (Nat.le_of_ble_eq_true rfl)) dX1_search_81 ⟨Nat.le_refl _, Nat.le_refl _⟩) (fun r0 hr0 => ?_)
        subst hr0
        exact W.iret (v := rs (fs (PX c Y Z) w n a (v + 1))) hx hb hr (fun t ht hW => ⟨rs (fs (PX c Y Z) w n a (v + 1)), rfl, by rw [fs_st hbit, or_right ((rs_lt0 (hlt _ · (by omega))).mp hq)], ht⟩) (fun q h => by cases h) dX1_search_84
      · refine lv_iload hx hb dX1_search_56 (lv_at hl 0 rfl) ?_
        refine lv_goto hx hb dX1_search_58 (tgt := 84) (by decide) ?_
        exact W.iret (v := rs (fs (PX c Y Z) w n (a + 2 ^ v) (v + 1))) hx hb hr (fun t ht hW => ⟨rs (fs (PX c Y Z) w n (a + 2 ^ v) (v + 1)), rfl, by rw [fs_st hbit, or_left (fun z9 => hq (by rw [z9]; decide))], ht⟩) (fun q h => by cases h) dX1_search_84
    | false =>
      refine cs_zald hx hb hK hP 1 0 rfl rfl (by omega) (by decide) dX1_search_32 ?_
      refine cs_top (y := bI false) ((hW v (by omega)).trans (congrArg bI hbit)) ?_
      refine lv_if_eq hx hb dX1_search_33 (tgt := 42) (by decide) (fun _ => ?_) (fun hq => absurd (nI_0) hq)
      refine lv_iload_n hx hb dX1_search_42 rfl (lv_at hl 2 rfl) ?_
      refine lv_iload_n hx hb dX1_search_43 rfl (lv_at hl 3 rfl) ?_
      refine lv_iconst (v := nI 1) hx hb dX1_search_44 (by decide) ?_
      refine lv_iadd hx hb dX1_search_45 ?_
      refine cs_top (y := nI (v + 1)) (nI_add v 1) ?_
      refine vp_callSi (W.runV (As := [.int (nI a), .int (nI (v + 1))]) (rest := []) ⟨hx, hb, hml, hown, hts⟩ (hS a (by omega)) (cwV 2 hts gX1_search_X1_search rfl rfl rfl (by decide +kernel) ⟨by show n + 2 + 1 ≤ n + 1 + 2; omega, by show 8 + (5 + 11) + (40 * n + 60) ≤ 40 * (n + 1) + 60; omega⟩) (rW_preV hP hK (va_recv (q := (RX1, TX1, 9)) (q0 := 0) hK hP rfl rfl)) rfl rfl hl.1 rfl (lv_room (Nat.le_of_ble_eq_true rfl)) dX1_search_46 ⟨Nat.le_refl _, Nat.le_refl _⟩) (fun r0 hr0 => ?_)
      subst hr0
      refine lv_istore hx hb dX1_search_49 hl (by decide) rfl (fun ls hl => ?_)
      have hl : lv_has ls 5 [(4, .int (rs (fs (PX c Y Z) w n a (v + 1)))), (3, .int (nI (2 ^ v))), (0, .ref o), (1, .int (nI a)), (2, .int (nI v))] := hl
      refine lv_iload hx hb dX1_search_51 (lv_at hl 0 rfl) ?_
      refine lv_if_lt hx hb dX1_search_53 (tgt := 61) (by decide) (fun hq => ?_) (fun hq => ?_)
      · refine lv_aload_n hx hb dX1_search_61 rfl (lv_at hl 2 rfl) ?_
        refine lv_aload_n hx hb dX1_search_62 rfl (lv_at hl 2 rfl) ?_
        refine va_get (D := (dC, dI)) (ci := 1) (v := .ref b1) (C := RX1) (T := TX1) (N := 9) hx hb hts hin1 hown hK hP 0 rfl rfl 1 (by decide) (hts (.fieldLink RX1 7 "ClauseSolverModel" "wish" "[Z") (by decide +kernel)) (fun _ h9 => h9) rfl dX1_search_63 ?_
        refine lv_iload_n hx hb dX1_search_66 rfl (lv_at hl 4 rfl) ?_
        refine cs_zald hx hb hK hP 1 0 rfl rfl (by omega) (by decide) dX1_search_67 ?_
        refine cs_top (y := bI false) ((hW v (by omega)).trans (congrArg bI hbit)) ?_
        refine lv_if_eq hx hb dX1_search_68 (tgt := 75) (by decide) (fun _ => ?_) (fun hq => absurd (nI_0) hq)
        refine lv_iload_n hx hb dX1_search_75 rfl (lv_at hl 3 rfl) ?_
        refine lv_iload_n hx hb dX1_search_76 rfl (lv_at hl 1 rfl) ?_
        refine lv_ior hx hb dX1_search_77 ?_
        refine cs_top (y := nI (a ||| (2 ^ v))) (cs_or a (2 ^ v)) ?_
        refine cs_top (y := nI (a + 2 ^ v)) (congrArg nI (TI_or ha)) ?_
        refine lv_iload_n hx hb dX1_search_78 rfl (lv_at hl 4 rfl) ?_
        refine lv_iconst (v := nI 1) hx hb dX1_search_79 (by decide) ?_
        refine lv_iadd hx hb dX1_search_80 ?_
        refine cs_top (y := nI (v + 1)) (nI_add v 1) ?_
        refine vp_callSi (W.runV (As := [.int (nI (a + 2 ^ v)), .int (nI (v + 1))]) (rest := []) ⟨hx, hb, hml, hown, hts⟩ (hS (a + 2 ^ v) (by omega)) (cwV 2 hts gX1_search_X1_search rfl rfl rfl (by decide +kernel) ⟨by show n + 2 + 1 ≤ n + 1 + 2; omega, by show 8 + (5 + 11) + (40 * n + 60) ≤ 40 * (n + 1) + 60; omega⟩) (rW_preV hP hK (va_recv (q := (RX1, TX1, 9)) (q0 := 0) hK hP rfl rfl)) rfl rfl hl.1 rfl (lv_room (Nat.le_of_ble_eq_true rfl)) dX1_search_81 ⟨Nat.le_refl _, Nat.le_refl _⟩) (fun r0 hr0 => ?_)
        subst hr0
        exact W.iret (v := rs (fs (PX c Y Z) w n (a + 2 ^ v) (v + 1))) hx hb hr (fun t ht hW => ⟨rs (fs (PX c Y Z) w n (a + 2 ^ v) (v + 1)), rfl, by rw [fs_sf hbit, or_right ((rs_lt0 (hlt _ · (by omega))).mp hq)], ht⟩) (fun q h => by cases h) dX1_search_84
      · refine lv_iload hx hb dX1_search_56 (lv_at hl 0 rfl) ?_
        refine lv_goto hx hb dX1_search_58 (tgt := 84) (by decide) ?_
        exact W.iret (v := rs (fs (PX c Y Z) w n a (v + 1))) hx hb hr (fun t ht hW => ⟨rs (fs (PX c Y Z) w n a (v + 1)), rfl, by rw [fs_sf hbit, or_left (fun z9 => hq (by rw [z9]; decide))], ht⟩) (fun q h => by cases h) dX1_search_84
  · refine lv_if_ne hx hb dX1_search_6 (tgt := 12) (by decide) (fun hq => absurd (nI_0) hq) (fun _ => ?_)
    refine lv_bipush (v := (-2)) hx hb dX1_search_9 (by decide) ?_
    exact W.iret (v := (-2)) hx hb hr (fun t ht hW => ⟨(-2), rfl, by rw [PX_cut ha hk hk0 hm]; rfl, ht⟩) (fun q h => by cases h) dX1_search_11
set_option maxHeartbeats 4000000 in
/-- the reference's search -/
theorem m_search (l : Launch) (dC : Nat → ClassId) (dI : Nat → Nat → Nat) (o b1 b2 b3 : Nat) (e1 e2 e3 : ClassId) (N c y z : Nat) (fo kn : Int32) (g1 g2 g3 : Nat → Int32) {Y Z : Nat → Nat} (hR : ∀ k, k < c → g2 k = nI (Y k) ∧ g3 k = nI (Z k)) (hB : ∀ k, k < c → Y k < 2 ^ N ∧ Z k < 2 ^ N) (hc : c ≤ 400) (hN : N ≤ 16) {w : Nat} (hW : ∀ v, v < N → g1 v = bI (w.testBit v)) : ∀ (n a v : Nat), v + n = N → a < 2 ^ v → Met l yX1_search wsX1_search ({ frames := (n + 2), cells := 0, slots := 0, locals := (40 * n + 60) }) (va_Pc [.ref o, .int (nI a), .int (nI v)] (rW (dC, dI) vwCl (mC o b1 b2 b3 e1 e2 e3 (nI N) (nI c) (nI y) (nI z) fo kn g1 g2 g3) (mT e1 e2 e3))) (vp_Si (fun r => r = rs (fs (PX c Y Z) w n a v))) 0 0 (fun _ => False) := by
  intro n
  induction n with
  | zero => exact fun a v hv ha => m_search_leaf l dC dI o b1 b2 b3 e1 e2 e3 N c y z fo kn g1 g2 g3 hR hB hc hN hW (by omega) ha
  | succ n ih => exact fun a v hv ha => m_search_up l dC dI o b1 b2 b3 e1 e2 e3 N c y z fo kn g1 g2 g3 hR hB hc hN hW n hv ha (fun a2 h2 => ih a2 (v + 1) (by omega) h2)
set_option maxHeartbeats 4000000 in
set_option maxRecDepth 100000 in
theorem m_answer_k (l : Launch) (sz : Nat) (dC : Nat → ClassId) (dI : Nat → Nat → Nat) (o b1 b2 b3 : Nat) (e1 e2 e3 : ClassId) (N c y z : Nat) (fo kn : Int32) (g1 g2 g3 : Nat → Int32) (hk : kn = nI 1) : Met l yX1_answer wsX1_answer ({ frames := 20, cells := 0, slots := 0, locals := 740 }) (va_Pc [.ref o] (wW (dC, dI) vwCl (mC o b1 b2 b3 e1 e2 e3 (nI N) (nI c) (nI y) (nI z) fo kn g1 g2 g3) (mT e1 e2 e3) sz)) (va_Qi (fun (r : Int32) (u : Unit) => r = fo) (oW (dC, dI) vwCl (mC o b1 b2 b3 e1 e2 e3 (nI N) (nI c) (nI y) (nI z) fo kn g1 g2 g3) sz (fun u : Unit => (mC o b1 b2 b3 e1 e2 e3 (nI N) (nI c) (nI y) (nI z) fo (nI 1) g1 g2 g3))) (va_A (mC o b1 b2 b3 e1 e2 e3 (nI N) (nI c) (nI y) (nI z) fo kn g1 g2 g3) sz)) 0 0 (va_A (mC o b1 b2 b3 e1 e2 e3 (nI N) (nI c) (nI y) (nI z) fo kn g1 g2 g3) sz) := by
  refine Met.ofW (cc := cX1_answer) (maxL := 1) (ret := some .int) (by decide) rfl ?_
  intro p e s m args below meth c0 s₁ B hml hv0
  obtain ⟨rfl, hsz, hP, hK, hD0⟩ := hv0
  have hx := B.exec
  have hb := B.bytes
  have hr := B.returns
  have hts := atoms_spec (ws := wsX1_answer) B.pre
  have hown : s.vm.findClass RX1 = some m.cls := findClass_of_methodNamed B.named
  have hlocks := B.notSynchronized
  subst hsz
  have hD := hD0.self (sz := s.heap.size)
  generalize hAe : va_A (mC o b1 b2 b3 e1 e2 e3 (nI N) (nI c) (nI y) (nI z) fo kn g1 g2 g3) s.heap.size = A at hD ⊢
  have hA : ∀ q : Nat, s.heap.size ≤ q → A q := fun q h => by rw [← hAe]; exact Or.inr h
  have hS : va_S A s.heap s.heap [] := va_S.rf
  have hP : va_P (dC, dI) vwCl (mC o b1 b2 b3 e1 e2 e3 (nI N) (nI c) (nI y) (nI z) fo kn g1 g2 g3) s.heap := hP
  have hin1 : ∀ w ∈ u_ws RX1 TX1 9, w ∈ wsX1_answer := by decide +kernel
  have hl := lv_entry ([.ref o]) (n := 1) (Nat.le_of_ble_eq_true rfl)
  rw [lg_entry_eq]
  generalize (lg_sl ([.ref o]) ++ List.replicate (1 - (lg_sl ([.ref o])).length) Slot.unset).toArray = ls at hl ⊢
  have hl : lv_has ls 1 [(0, .ref o)] := hl
  refine lv_aload_n hx hb dX1_answer_0 rfl (lv_at hl 0 rfl) ?_
  refine va_get (D := (dC, dI)) (ci := 1) (v := .int kn) (C := RX1) (T := TX1) (N := 9) hx hb hts hin1 hown hK hP 0 rfl rfl 8 (by decide) (hts (.fieldLink RX1 28 "ClauseSolverModel" "known" "Z") (by decide +kernel)) (fun _ h9 => h9) rfl dX1_answer_1 ?_
  refine lv_if_ne hx hb dX1_answer_4 (tgt := 17) (by decide) (fun _ => ?_) (fun hq => absurd hq (by rw [hk]; decide))
  refine lv_aload_n hx hb dX1_answer_17 rfl (lv_at hl 0 rfl) ?_
  refine lv_iconst (v := nI 1) hx hb dX1_answer_18 (by decide) ?_
  refine va_put (D := (dC, dI)) (ci := 1) (v := .int (nI 1)) (ty := .boolean) (C := RX1) (T := TX1) (N := 9) hx hb hts hin1 tyX1 tyX1_ok nmX1 hown hK hP hD hS 0 rfl rfl 8 (by decide) (hts (.fieldLink RX1 28 "ClauseSolverModel" "known" "Z") (by decide +kernel)) (fun _ h9 => h9) rfl (by decide +kernel) rfl rfl (Nat.le_of_ble_eq_true rfl) dX1_answer_19 (fun H locs hP hD hS => ?_)
  have hP : va_P (dC, dI) vwCl (mC o b1 b2 b3 e1 e2 e3 (nI N) (nI c) (nI y) (nI z) fo (nI 1) g1 g2 g3) H := hP
  have hD : va_D A (mC o b1 b2 b3 e1 e2 e3 (nI N) (nI c) (nI y) (nI z) fo (nI 1) g1 g2 g3) := hD
  refine lv_aload_n hx hb dX1_answer_22 rfl (lv_at hl 0 rfl) ?_
  refine va_get (D := (dC, dI)) (ci := 1) (v := .int fo) (C := RX1) (T := TX1) (N := 9) hx hb hts hin1 hown hK hP 0 rfl rfl 7 (by decide) (hts (.fieldLink RX1 56 "ClauseSolverModel" "found" "I") (by decide +kernel)) (fun _ h9 => h9) rfl dX1_answer_23 ?_
  exact W.iret (v := fo) hx hb hr (fun t ht hW => ⟨⟨fo, (), rfl, rfl, by rw [ht]; exact hP, by rw [hAe]; exact hD⟩, hS.F ht⟩) hS.2.2 dX1_answer_26
set_option maxHeartbeats 4000000 in
set_option maxRecDepth 100000 in
theorem m_answer (l : Launch) (sz : Nat) (dC : Nat → ClassId) (dI : Nat → Nat → Nat) (o b1 b2 b3 : Nat) (e1 e2 e3 : ClassId) (N c y z : Nat) (fo kn : Int32) (g1 g2 g3 : Nat → Int32) {Y Z : Nat → Nat} (hR : ∀ k, k < c → g2 k = nI (Y k) ∧ g3 k = nI (Z k)) (hB : ∀ k, k < c → Y k < 2 ^ N ∧ Z k < 2 ^ N) (hc : c ≤ 400) (hN : N ≤ 16) {w : Nat} (hW : ∀ v, v < N → g1 v = bI (w.testBit v)) (hk : kn = nI 0) : Met l yX1_answer wsX1_answer ({ frames := 20, cells := 0, slots := 0, locals := 740 }) (va_Pc [.ref o] (wW (dC, dI) vwCl (mC o b1 b2 b3 e1 e2 e3 (nI N) (nI c) (nI y) (nI z) fo kn g1 g2 g3) (mT e1 e2 e3) sz)) (va_Qi (fun (r : Int32) (u : Unit) => r = rs (fs (PX c Y Z) w N 0 0)) (oW (dC, dI) vwCl (mC o b1 b2 b3 e1 e2 e3 (nI N) (nI c) (nI y) (nI z) fo kn g1 g2 g3) sz (fun u : Unit => (mC o b1 b2 b3 e1 e2 e3 (nI N) (nI c) (nI y) (nI z) (rs (fs (PX c Y Z) w N 0 0)) (nI 1) g1 g2 g3))) (va_A (mC o b1 b2 b3 e1 e2 e3 (nI N) (nI c) (nI y) (nI z) fo kn g1 g2 g3) sz)) 0 0 (va_A (mC o b1 b2 b3 e1 e2 e3 (nI N) (nI c) (nI y) (nI z) fo kn g1 g2 g3) sz) := by
  refine Met.ofW (cc := cX1_answer) (maxL := 1) (ret := some .int) (by decide) rfl ?_
  intro p e s m args below meth c0 s₁ B hml hv0
  obtain ⟨rfl, hsz, hP, hK, hD0⟩ := hv0
  have hx := B.exec
  have hb := B.bytes
  have hr := B.returns
  have hts := atoms_spec (ws := wsX1_answer) B.pre
  have hown : s.vm.findClass RX1 = some m.cls := findClass_of_methodNamed B.named
  have hlocks := B.notSynchronized
  subst hsz
  have hD := hD0.self (sz := s.heap.size)
  generalize hAe : va_A (mC o b1 b2 b3 e1 e2 e3 (nI N) (nI c) (nI y) (nI z) fo kn g1 g2 g3) s.heap.size = A at hD ⊢
  have hA : ∀ q : Nat, s.heap.size ≤ q → A q := fun q h => by rw [← hAe]; exact Or.inr h
  have hS : va_S A s.heap s.heap [] := va_S.rf
  have hP : va_P (dC, dI) vwCl (mC o b1 b2 b3 e1 e2 e3 (nI N) (nI c) (nI y) (nI z) fo kn g1 g2 g3) s.heap := hP
  have hin1 : ∀ w ∈ u_ws RX1 TX1 9, w ∈ wsX1_answer := by decide +kernel
  have hl := lv_entry ([.ref o]) (n := 1) (Nat.le_of_ble_eq_true rfl)
  rw [lg_entry_eq]
  generalize (lg_sl ([.ref o]) ++ List.replicate (1 - (lg_sl ([.ref o])).length) Slot.unset).toArray = ls at hl ⊢
  have hl : lv_has ls 1 [(0, .ref o)] := hl
  refine lv_aload_n hx hb dX1_answer_0 rfl (lv_at hl 0 rfl) ?_
  refine va_get (D := (dC, dI)) (ci := 1) (v := .int kn) (C := RX1) (T := TX1) (N := 9) hx hb hts hin1 hown hK hP 0 rfl rfl 8 (by decide) (hts (.fieldLink RX1 28 "ClauseSolverModel" "known" "Z") (by decide +kernel)) (fun _ h9 => h9) rfl dX1_answer_1 ?_
  refine lv_if_ne hx hb dX1_answer_4 (tgt := 17) (by decide) (fun hq => absurd (by rw [hk]; exact nI_0) hq) (fun _ => ?_)
  refine lv_aload_n hx hb dX1_answer_7 rfl (lv_at hl 0 rfl) ?_
  refine lv_aload_n hx hb dX1_answer_8 rfl (lv_at hl 0 rfl) ?_
  refine lv_iconst (v := nI 0) hx hb dX1_answer_9 (by decide) ?_
  refine lv_iconst (v := nI 0) hx hb dX1_answer_10 (by decide) ?_
  refine vp_callSi (W.runV (As := [.int (nI 0), .int (nI 0)]) (rest := [.ref o]) ⟨hx, hb, hml, hown, hts⟩ (m_search l dC dI o b1 b2 b3 e1 e2 e3 N c y z fo kn g1 g2 g3 hR hB hc hN hW N 0 0 (by omega) (by decide)) (cwV 2 hts gX1_answer_X1_search rfl rfl rfl (by decide +kernel) ⟨by show N + 2 + 1 ≤ 20; omega, by show 8 + (5 + 11) + (40 * N + 60) ≤ 740; omega⟩) (rW_preV hP hK (va_recv (q := (RX1, TX1, 9)) (q0 := 0) hK hP rfl rfl)) rfl rfl hl.1 rfl (lv_room (Nat.le_of_ble_eq_true rfl)) dX1_answer_11 ⟨Nat.le_refl _, Nat.le_refl _⟩) (fun r0 hr0 => ?_)
  subst hr0
  refine va_put (D := (dC, dI)) (ci := 1) (v := .int (rs (fs (PX c Y Z) w N 0 0))) (ty := .int) (C := RX1) (T := TX1) (N := 9) hx hb hts hin1 tyX1 tyX1_ok nmX1 hown hK hP hD hS 0 rfl rfl 7 (by decide) (hts (.fieldLink RX1 56 "ClauseSolverModel" "found" "I") (by decide +kernel)) (fun _ h9 => h9) rfl (by decide +kernel) rfl rfl (Nat.le_of_ble_eq_true rfl) dX1_answer_14 (fun H locs hP hD hS => ?_)
  have hP : va_P (dC, dI) vwCl (mC o b1 b2 b3 e1 e2 e3 (nI N) (nI c) (nI y) (nI z) (rs (fs (PX c Y Z) w N 0 0)) kn g1 g2 g3) H := hP
  have hD : va_D A (mC o b1 b2 b3 e1 e2 e3 (nI N) (nI c) (nI y) (nI z) (rs (fs (PX c Y Z) w N 0 0)) kn g1 g2 g3) := hD
  refine lv_aload_n hx hb dX1_answer_17 rfl (lv_at hl 0 rfl) ?_
  refine lv_iconst (v := nI 1) hx hb dX1_answer_18 (by decide) ?_
  refine va_put (D := (dC, dI)) (ci := 1) (v := .int (nI 1)) (ty := .boolean) (C := RX1) (T := TX1) (N := 9) hx hb hts hin1 tyX1 tyX1_ok nmX1 hown hK hP hD hS 0 rfl rfl 8 (by decide) (hts (.fieldLink RX1 28 "ClauseSolverModel" "known" "Z") (by decide +kernel)) (fun _ h9 => h9) rfl (by decide +kernel) rfl rfl (Nat.le_of_ble_eq_true rfl) dX1_answer_19 (fun H locs hP hD hS => ?_)
  have hP : va_P (dC, dI) vwCl (mC o b1 b2 b3 e1 e2 e3 (nI N) (nI c) (nI y) (nI z) (rs (fs (PX c Y Z) w N 0 0)) (nI 1) g1 g2 g3) H := hP
  have hD : va_D A (mC o b1 b2 b3 e1 e2 e3 (nI N) (nI c) (nI y) (nI z) (rs (fs (PX c Y Z) w N 0 0)) (nI 1) g1 g2 g3) := hD
  refine lv_aload_n hx hb dX1_answer_22 rfl (lv_at hl 0 rfl) ?_
  refine va_get (D := (dC, dI)) (ci := 1) (v := .int (rs (fs (PX c Y Z) w N 0 0))) (C := RX1) (T := TX1) (N := 9) hx hb hts hin1 hown hK hP 0 rfl rfl 7 (by decide) (hts (.fieldLink RX1 56 "ClauseSolverModel" "found" "I") (by decide +kernel)) (fun _ h9 => h9) rfl dX1_answer_23 ?_
  exact W.iret (v := rs (fs (PX c Y Z) w N 0 0)) hx hb hr (fun t ht hW => ⟨⟨rs (fs (PX c Y Z) w N 0 0), (), rfl, rfl, by rw [ht]; exact hP, by rw [hAe]; exact hD⟩, hS.F ht⟩) hS.2.2 dX1_answer_26
set_option maxHeartbeats 4000000 in
set_option maxRecDepth 100000 in
theorem m_solve_k (l : Launch) (sz : Nat) (dC : Nat → ClassId) (dI : Nat → Nat → Nat) (o b1 b2 b3 : Nat) (e1 e2 e3 : ClassId) (N c y z : Nat) (fo kn : Int32) (g1 g2 g3 : Nat → Int32) (hk : kn = nI 1) : Met l yX1_solve wsX1_solve ({ frames := 21, cells := 0, slots := 0, locals := 770 }) (va_Pc [.ref o] (wW (dC, dI) vwCl (mC o b1 b2 b3 e1 e2 e3 (nI N) (nI c) (nI y) (nI z) fo kn g1 g2 g3) (mT e1 e2 e3) sz)) (va_Qi (fun (r : Int32) (u : Unit) => (r = nI 0 ∧ fo < 0) ∨ (r = nI 1 ∧ ¬ fo < 0)) (oW (dC, dI) vwCl (mC o b1 b2 b3 e1 e2 e3 (nI N) (nI c) (nI y) (nI z) fo kn g1 g2 g3) sz (fun u : Unit => (mC o b1 b2 b3 e1 e2 e3 (nI N) (nI c) (nI y) (nI z) fo (nI 1) g1 g2 g3))) (va_A (mC o b1 b2 b3 e1 e2 e3 (nI N) (nI c) (nI y) (nI z) fo kn g1 g2 g3) sz)) 0 0 (va_A (mC o b1 b2 b3 e1 e2 e3 (nI N) (nI c) (nI y) (nI z) fo kn g1 g2 g3) sz) := by
  refine Met.ofW (cc := cX1_solve) (maxL := 1) (ret := some .boolean) (by decide) rfl ?_
  intro p e s m args below meth c0 s₁ B hml hv0
  obtain ⟨rfl, hsz, hP, hK, hD0⟩ := hv0
  have hx := B.exec
  have hb := B.bytes
  have hr := B.returns
  have hts := atoms_spec (ws := wsX1_solve) B.pre
  have hown : s.vm.findClass RX1 = some m.cls := findClass_of_methodNamed B.named
  have hlocks := B.notSynchronized
  subst hsz
  have hD := hD0.self (sz := s.heap.size)
  generalize hAe : va_A (mC o b1 b2 b3 e1 e2 e3 (nI N) (nI c) (nI y) (nI z) fo kn g1 g2 g3) s.heap.size = A at hD ⊢
  have hA : ∀ q : Nat, s.heap.size ≤ q → A q := fun q h => by rw [← hAe]; exact Or.inr h
  have hS : va_S A s.heap s.heap [] := va_S.rf
  have hP : va_P (dC, dI) vwCl (mC o b1 b2 b3 e1 e2 e3 (nI N) (nI c) (nI y) (nI z) fo kn g1 g2 g3) s.heap := hP
  have hin1 : ∀ w ∈ u_ws RX1 TX1 9, w ∈ wsX1_solve := by decide +kernel
  have hl := lv_entry ([.ref o]) (n := 1) (Nat.le_of_ble_eq_true rfl)
  rw [lg_entry_eq]
  generalize (lg_sl ([.ref o]) ++ List.replicate (1 - (lg_sl ([.ref o])).length) Slot.unset).toArray = ls at hl ⊢
  have hl : lv_has ls 1 [(0, .ref o)] := hl
  refine lv_aload_n hx hb dX1_solve_0 rfl (lv_at hl 0 rfl) ?_
  refine cs_calli (wc := (mC o b1 b2 b3 e1 e2 e3 (nI N) (nI c) (nI y) (nI z) fo kn g1 g2 g3)) (wr := []) (va_runV (As := []) (rest := []) ⟨hx, hb, hml, hown, hts⟩ (m_answer_k l s.heap.size dC dI o b1 b2 b3 e1 e2 e3 N c y z fo kn g1 g2 g3 hk) (cwV 0 hts gX1_solve_X1_answer rfl rfl rfl (by decide +kernel) ⟨Nat.le_of_ble_eq_true rfl, Nat.le_of_ble_eq_true rfl⟩) (wW_preV hP hK hD (va_recv (q := (RX1, TX1, 9)) (q0 := 0) hK hP rfl rfl)) rfl rfl hl.1 rfl (lv_room (Nat.le_of_ble_eq_true rfl)) dX1_solve_1 ⟨Nat.le_refl _, Nat.le_refl _⟩) hS hA hP hD [0, 1, 2, 3] [] rfl rfl (by decide) (by decide) (fun r0 u H locs hr0 hP hD hS => ?_)
  have hP : va_P (dC, dI) vwCl (mC o b1 b2 b3 e1 e2 e3 (nI N) (nI c) (nI y) (nI z) fo (nI 1) g1 g2 g3) H := hP
  have hD : va_D A (mC o b1 b2 b3 e1 e2 e3 (nI N) (nI c) (nI y) (nI z) fo (nI 1) g1 g2 g3) := hD
  obtain rfl := hr0
  refine lv_if_lt hx hb dX1_solve_4 (tgt := 11) (by decide) (fun hq => ?_) (fun hq => ?_)
  · refine lv_iconst (v := nI 0) hx hb dX1_solve_11 (by decide) ?_
    exact W.zret (ty := .boolean) (v := nI 0) hx hb hr (by first | rfl | decide) (fun t ht hW => ⟨⟨nI 0, (), rfl, Or.inl ⟨rfl, hq⟩, by rw [ht]; exact hP, by rw [hAe]; exact hD⟩, hS.F ht⟩) hS.2.2 dX1_solve_12
  · refine lv_iconst (v := nI 1) hx hb dX1_solve_7 (by decide) ?_
    refine lv_goto hx hb dX1_solve_8 (tgt := 12) (by decide) ?_
    exact W.zret (ty := .boolean) (v := nI 1) hx hb hr (by first | rfl | decide) (fun t ht hW => ⟨⟨nI 1, (), rfl, Or.inr ⟨rfl, hq⟩, by rw [ht]; exact hP, by rw [hAe]; exact hD⟩, hS.F ht⟩) hS.2.2 dX1_solve_12
set_option maxHeartbeats 4000000 in
set_option maxRecDepth 100000 in
theorem m_solve (l : Launch) (sz : Nat) (dC : Nat → ClassId) (dI : Nat → Nat → Nat) (o b1 b2 b3 : Nat) (e1 e2 e3 : ClassId) (N c y z : Nat) (fo kn : Int32) (g1 g2 g3 : Nat → Int32) {Y Z : Nat → Nat} (hR : ∀ k, k < c → g2 k = nI (Y k) ∧ g3 k = nI (Z k)) (hB : ∀ k, k < c → Y k < 2 ^ N ∧ Z k < 2 ^ N) (hc : c ≤ 400) (hN : N ≤ 16) {w : Nat} (hW : ∀ v, v < N → g1 v = bI (w.testBit v)) (hk : kn = nI 0) : Met l yX1_solve wsX1_solve ({ frames := 21, cells := 0, slots := 0, locals := 770 }) (va_Pc [.ref o] (wW (dC, dI) vwCl (mC o b1 b2 b3 e1 e2 e3 (nI N) (nI c) (nI y) (nI z) fo kn g1 g2 g3) (mT e1 e2 e3) sz)) (va_Qi (fun (r : Int32) (u : Unit) => (r = nI 0 ∧ rs (fs (PX c Y Z) w N 0 0) < 0) ∨ (r = nI 1 ∧ ¬ rs (fs (PX c Y Z) w N 0 0) < 0)) (oW (dC, dI) vwCl (mC o b1 b2 b3 e1 e2 e3 (nI N) (nI c) (nI y) (nI z) fo kn g1 g2 g3) sz (fun u : Unit => (mC o b1 b2 b3 e1 e2 e3 (nI N) (nI c) (nI y) (nI z) (rs (fs (PX c Y Z) w N 0 0)) (nI 1) g1 g2 g3))) (va_A (mC o b1 b2 b3 e1 e2 e3 (nI N) (nI c) (nI y) (nI z) fo kn g1 g2 g3) sz)) 0 0 (va_A (mC o b1 b2 b3 e1 e2 e3 (nI N) (nI c) (nI y) (nI z) fo kn g1 g2 g3) sz) := by
  refine Met.ofW (cc := cX1_solve) (maxL := 1) (ret := some .boolean) (by decide) rfl ?_
  intro p e s m args below meth c0 s₁ B hml hv0
  obtain ⟨rfl, hsz, hP, hK, hD0⟩ := hv0
  have hx := B.exec
  have hb := B.bytes
  have hr := B.returns
  have hts := atoms_spec (ws := wsX1_solve) B.pre
  have hown : s.vm.findClass RX1 = some m.cls := findClass_of_methodNamed B.named
  have hlocks := B.notSynchronized
  subst hsz
  have hD := hD0.self (sz := s.heap.size)
  generalize hAe : va_A (mC o b1 b2 b3 e1 e2 e3 (nI N) (nI c) (nI y) (nI z) fo kn g1 g2 g3) s.heap.size = A at hD ⊢
  have hA : ∀ q : Nat, s.heap.size ≤ q → A q := fun q h => by rw [← hAe]; exact Or.inr h
  have hS : va_S A s.heap s.heap [] := va_S.rf
  have hP : va_P (dC, dI) vwCl (mC o b1 b2 b3 e1 e2 e3 (nI N) (nI c) (nI y) (nI z) fo kn g1 g2 g3) s.heap := hP
  have hin1 : ∀ w ∈ u_ws RX1 TX1 9, w ∈ wsX1_solve := by decide +kernel
  have hl := lv_entry ([.ref o]) (n := 1) (Nat.le_of_ble_eq_true rfl)
  rw [lg_entry_eq]
  generalize (lg_sl ([.ref o]) ++ List.replicate (1 - (lg_sl ([.ref o])).length) Slot.unset).toArray = ls at hl ⊢
  have hl : lv_has ls 1 [(0, .ref o)] := hl
  refine lv_aload_n hx hb dX1_solve_0 rfl (lv_at hl 0 rfl) ?_
  refine cs_calli (wc := (mC o b1 b2 b3 e1 e2 e3 (nI N) (nI c) (nI y) (nI z) fo kn g1 g2 g3)) (wr := []) (va_runV (As := []) (rest := []) ⟨hx, hb, hml, hown, hts⟩ (m_answer l s.heap.size dC dI o b1 b2 b3 e1 e2 e3 N c y z fo kn g1 g2 g3 hR hB hc hN hW hk) (cwV 0 hts gX1_solve_X1_answer rfl rfl rfl (by decide +kernel) ⟨Nat.le_of_ble_eq_true rfl, Nat.le_of_ble_eq_true rfl⟩) (wW_preV hP hK hD (va_recv (q := (RX1, TX1, 9)) (q0 := 0) hK hP rfl rfl)) rfl rfl hl.1 rfl (lv_room (Nat.le_of_ble_eq_true rfl)) dX1_solve_1 ⟨Nat.le_refl _, Nat.le_refl _⟩) hS hA hP hD [0, 1, 2, 3] [] rfl rfl (by decide) (by decide) (fun r0 u H locs hr0 hP hD hS => ?_)
  have hP : va_P (dC, dI) vwCl (mC o b1 b2 b3 e1 e2 e3 (nI N) (nI c) (nI y) (nI z) (rs (fs (PX c Y Z) w N 0 0)) (nI 1) g1 g2 g3) H := hP
  have hD : va_D A (mC o b1 b2 b3 e1 e2 e3 (nI N) (nI c) (nI y) (nI z) (rs (fs (PX c Y Z) w N 0 0)) (nI 1) g1 g2 g3) := hD
  obtain rfl := hr0
  refine lv_if_lt hx hb dX1_solve_4 (tgt := 11) (by decide) (fun hq => ?_) (fun hq => ?_)
  · refine lv_iconst (v := nI 0) hx hb dX1_solve_11 (by decide) ?_
    exact W.zret (ty := .boolean) (v := nI 0) hx hb hr (by first | rfl | decide) (fun t ht hW => ⟨⟨nI 0, (), rfl, Or.inl ⟨rfl, hq⟩, by rw [ht]; exact hP, by rw [hAe]; exact hD⟩, hS.F ht⟩) hS.2.2 dX1_solve_12
  · refine lv_iconst (v := nI 1) hx hb dX1_solve_7 (by decide) ?_
    refine lv_goto hx hb dX1_solve_8 (tgt := 12) (by decide) ?_
    exact W.zret (ty := .boolean) (v := nI 1) hx hb hr (by first | rfl | decide) (fun t ht hW => ⟨⟨nI 1, (), rfl, Or.inr ⟨rfl, hq⟩, by rw [ht]; exact hP, by rw [hAe]; exact hD⟩, hS.F ht⟩) hS.2.2 dX1_solve_12
set_option maxHeartbeats 4000000 in
set_option maxRecDepth 100000 in
theorem m_count0 (l : Launch) (dC : Nat → ClassId) (dI : Nat → Nat → Nat) (o b1 b2 b3 : Nat) (e1 e2 e3 : ClassId) (N c y z : Nat) (fo kn : Int32) (g1 g2 g3 : Nat → Int32) (hN : N ≤ 16) (hy : y < 2 ^ N) (hz : z < 2 ^ N) : Met l yX1_count wsX1_count ({ frames := 1, cells := 0, slots := 0, locals := 30 }) (va_Pc [.ref o, .int (nI 0)] (rW (dC, dI) vwCl (mC o b1 b2 b3 e1 e2 e3 (nI N) (nI c) (nI y) (nI z) fo kn g1 g2 g3) (mT e1 e2 e3))) (vp_Si (fun r => r = nI N)) 0 0 (fun _ => False) := by
  refine Met.ofW (cc := cX1_count) (maxL := 2) (ret := some .int) (by decide) rfl ?_
  intro p e s m args below meth c0 s₁ B hml hv0
  obtain ⟨rfl, hP, hK⟩ := hv0
  have hx := B.exec
  have hb := B.bytes
  have hr := B.returns
  have hts := atoms_spec (ws := wsX1_count) B.pre
  have hown : s.vm.findClass RX1 = some m.cls := findClass_of_methodNamed B.named
  have hlocks := B.notSynchronized
  have hP : va_P (dC, dI) vwCl (mC o b1 b2 b3 e1 e2 e3 (nI N) (nI c) (nI y) (nI z) fo kn g1 g2 g3) s.heap := hP
  have hin1 : ∀ w ∈ u_ws RX1 TX1 9, w ∈ wsX1_count := by decide +kernel
  have hl := lv_entry ([.ref o, .int (nI 0)]) (n := 2) (Nat.le_of_ble_eq_true rfl)
  rw [lg_entry_eq]
  generalize (lg_sl ([.ref o, .int (nI 0)]) ++ List.replicate (2 - (lg_sl ([.ref o, .int (nI 0)])).length) Slot.unset).toArray = ls at hl ⊢
  have hl : lv_has ls 2 [(0, .ref o), (1, .int (nI 0))] := hl
  refine lv_iload_n hx hb dX1_count_0 rfl (lv_at hl 1 rfl) ?_
  refine lv_tableIn hx hb dX1_count_1 (off := 27) (tgt := 28) (by decide) (by decide) (by decide) (by decide) ?_
  refine lv_aload_n hx hb dX1_count_28 rfl (lv_at hl 0 rfl) ?_
  refine va_get (D := (dC, dI)) (ci := 1) (v := .int (nI N)) (C := RX1) (T := TX1) (N := 9) hx hb hts hin1 hown hK hP 0 rfl rfl 0 (by decide) (hts (.fieldLink RX1 20 "ClauseSolverModel" "variables" "I") (by decide +kernel)) (fun _ h9 => h9) rfl dX1_count_29 ?_
  exact W.iret (v := nI N) hx hb hr (fun t ht hW => ⟨nI N, rfl, rfl, ht⟩) (fun q h => by cases h) dX1_count_32
set_option maxHeartbeats 4000000 in
set_option maxRecDepth 100000 in
theorem m_count1 (l : Launch) (dC : Nat → ClassId) (dI : Nat → Nat → Nat) (o b1 b2 b3 : Nat) (e1 e2 e3 : ClassId) (N c y z : Nat) (fo kn : Int32) (g1 g2 g3 : Nat → Int32) (hN : N ≤ 16) (hy : y < 2 ^ N) (hz : z < 2 ^ N) : Met l yX1_count wsX1_count ({ frames := 1, cells := 0, slots := 0, locals := 30 }) (va_Pc [.ref o, .int (nI 1)] (rW (dC, dI) vwCl (mC o b1 b2 b3 e1 e2 e3 (nI N) (nI c) (nI y) (nI z) fo kn g1 g2 g3) (mT e1 e2 e3))) (vp_Si (fun r => r = nI c)) 0 0 (fun _ => False) := by
  refine Met.ofW (cc := cX1_count) (maxL := 2) (ret := some .int) (by decide) rfl ?_
  intro p e s m args below meth c0 s₁ B hml hv0
  obtain ⟨rfl, hP, hK⟩ := hv0
  have hx := B.exec
  have hb := B.bytes
  have hr := B.returns
  have hts := atoms_spec (ws := wsX1_count) B.pre
  have hown : s.vm.findClass RX1 = some m.cls := findClass_of_methodNamed B.named
  have hlocks := B.notSynchronized
  have hP : va_P (dC, dI) vwCl (mC o b1 b2 b3 e1 e2 e3 (nI N) (nI c) (nI y) (nI z) fo kn g1 g2 g3) s.heap := hP
  have hin1 : ∀ w ∈ u_ws RX1 TX1 9, w ∈ wsX1_count := by decide +kernel
  have hl := lv_entry ([.ref o, .int (nI 1)]) (n := 2) (Nat.le_of_ble_eq_true rfl)
  rw [lg_entry_eq]
  generalize (lg_sl ([.ref o, .int (nI 1)]) ++ List.replicate (2 - (lg_sl ([.ref o, .int (nI 1)])).length) Slot.unset).toArray = ls at hl ⊢
  have hl : lv_has ls 2 [(0, .ref o), (1, .int (nI 1))] := hl
  refine lv_iload_n hx hb dX1_count_0 rfl (lv_at hl 1 rfl) ?_
  refine lv_tableIn hx hb dX1_count_1 (off := 32) (tgt := 33) (by decide) (by decide) (by decide) (by decide) ?_
  refine lv_aload_n hx hb dX1_count_33 rfl (lv_at hl 0 rfl) ?_
  refine va_get (D := (dC, dI)) (ci := 1) (v := .int (nI c)) (C := RX1) (T := TX1) (N := 9) hx hb hts hin1 hown hK hP 0 rfl rfl 4 (by decide) (hts (.fieldLink RX1 42 "ClauseSolverModel" "count" "I") (by decide +kernel)) (fun _ h9 => h9) rfl dX1_count_34 ?_
  exact W.iret (v := nI c) hx hb hr (fun t ht hW => ⟨nI c, rfl, rfl, ht⟩) (fun q h => by cases h) dX1_count_37
set_option maxHeartbeats 4000000 in
set_option maxRecDepth 100000 in
theorem m_count2 (l : Launch) (dC : Nat → ClassId) (dI : Nat → Nat → Nat) (o b1 b2 b3 : Nat) (e1 e2 e3 : ClassId) (N c y z : Nat) (fo kn : Int32) (g1 g2 g3 : Nat → Int32) (hN : N ≤ 16) (hy : y < 2 ^ N) (hz : z < 2 ^ N) : Met l yX1_count wsX1_count ({ frames := 1, cells := 0, slots := 0, locals := 30 }) (va_Pc [.ref o, .int (nI 2)] (rW (dC, dI) vwCl (mC o b1 b2 b3 e1 e2 e3 (nI N) (nI c) (nI y) (nI z) fo kn g1 g2 g3) (mT e1 e2 e3))) (vp_Si (fun r => r = nI (pcs y 16 + pcs z 16))) 0 0 (fun _ => False) := by
  refine Met.ofW (cc := cX1_count) (maxL := 2) (ret := some .int) (by decide) rfl ?_
  intro p e s m args below meth c0 s₁ B hml hv0
  obtain ⟨rfl, hP, hK⟩ := hv0
  have hx := B.exec
  have hb := B.bytes
  have hr := B.returns
  have hts := atoms_spec (ws := wsX1_count) B.pre
  have hown : s.vm.findClass RX1 = some m.cls := findClass_of_methodNamed B.named
  have hlocks := B.notSynchronized
  have hP : va_P (dC, dI) vwCl (mC o b1 b2 b3 e1 e2 e3 (nI N) (nI c) (nI y) (nI z) fo kn g1 g2 g3) s.heap := hP
  have hin1 : ∀ w ∈ u_ws RX1 TX1 9, w ∈ wsX1_count := by decide +kernel
  have hl := lv_entry ([.ref o, .int (nI 2)]) (n := 2) (Nat.le_of_ble_eq_true rfl)
  rw [lg_entry_eq]
  generalize (lg_sl ([.ref o, .int (nI 2)]) ++ List.replicate (2 - (lg_sl ([.ref o, .int (nI 2)])).length) Slot.unset).toArray = ls at hl ⊢
  have hl : lv_has ls 2 [(0, .ref o), (1, .int (nI 2))] := hl
  refine lv_iload_n hx hb dX1_count_0 rfl (lv_at hl 1 rfl) ?_
  refine lv_tableIn hx hb dX1_count_1 (off := 37) (tgt := 38) (by decide) (by decide) (by decide) (by decide) ?_
  refine lv_aload_n hx hb dX1_count_38 rfl (lv_at hl 0 rfl) ?_
  refine va_get (D := (dC, dI)) (ci := 1) (v := .int (nI y)) (C := RX1) (T := TX1) (N := 9) hx hb hts hin1 hown hK hP 0 rfl rfl 5 (by decide) (hts (.fieldLink RX1 32 "ClauseSolverModel" "ownYes" "I") (by decide +kernel)) (fun _ h9 => h9) rfl dX1_count_39 ?_
  refine vp_callSi (W.runS (As := [.int (nI y)]) (rest := []) ⟨hx, hb, hml, hown, hts⟩ (m_bits l (cs_N31 hN hy)) (va_cwS 1 hts gX1_count_X1_bits rfl rfl rfl (by decide +kernel) ⟨Nat.le_of_ble_eq_true rfl, Nat.le_of_ble_eq_true rfl⟩) (nW_preS) rfl rfl hl.1 rfl (lv_room (Nat.le_of_ble_eq_true rfl)) dX1_count_42 ⟨Nat.le_refl _, Nat.le_refl _⟩) (fun r0 hr0 => ?_)
  subst hr0
  refine lv_aload_n hx hb dX1_count_45 rfl (lv_at hl 0 rfl) ?_
  refine va_get (D := (dC, dI)) (ci := 1) (v := .int (nI z)) (C := RX1) (T := TX1) (N := 9) hx hb hts hin1 hown hK hP 0 rfl rfl 6 (by decide) (hts (.fieldLink RX1 35 "ClauseSolverModel" "ownNo" "I") (by decide +kernel)) (fun _ h9 => h9) rfl dX1_count_46 ?_
  refine vp_callSi (W.runS (As := [.int (nI z)]) (rest := [.int (nI (pcs y 16))]) ⟨hx, hb, hml, hown, hts⟩ (m_bits l (cs_N31 hN hz)) (va_cwS 1 hts gX1_count_X1_bits rfl rfl rfl (by decide +kernel) ⟨Nat.le_of_ble_eq_true rfl, Nat.le_of_ble_eq_true rfl⟩) (nW_preS) rfl rfl hl.1 rfl (lv_room (Nat.le_of_ble_eq_true rfl)) dX1_count_49 ⟨Nat.le_refl _, Nat.le_refl _⟩) (fun r0 hr0 => ?_)
  subst hr0
  refine lv_iadd hx hb dX1_count_52 ?_
  refine cs_top (y := nI ((pcs y 16) + (pcs z 16))) (nI_add (pcs y 16) (pcs z 16)) ?_
  exact W.iret (v := nI ((pcs y 16) + (pcs z 16))) hx hb hr (fun t ht hW => ⟨nI ((pcs y 16) + (pcs z 16)), rfl, rfl, ht⟩) (fun q h => by cases h) dX1_count_53
set_option maxHeartbeats 4000000 in
set_option maxRecDepth 100000 in
theorem m_count_out (l : Launch) (dC : Nat → ClassId) (dI : Nat → Nat → Nat) (o b1 b2 b3 : Nat) (e1 e2 e3 : ClassId) (N c y z : Nat) (fo kn : Int32) (g1 g2 g3 : Nat → Int32) {v : Int32} (hv : v.toInt < 0 ∨ 2 < v.toInt) : Met l yX1_count wsX1_count ({ frames := 1, cells := 0, slots := 0, locals := 30 }) (va_Pc [.ref o, .int v] (rW (dC, dI) vwCl (mC o b1 b2 b3 e1 e2 e3 (nI N) (nI c) (nI y) (nI z) fo kn g1 g2 g3) (mT e1 e2 e3))) (vp_Si (fun r => r = -1)) 0 0 (fun _ => False) := by
  refine Met.ofW (cc := cX1_count) (maxL := 2) (ret := some .int) (by decide) rfl ?_
  intro p e s m args below meth c0 s₁ B hml hv0
  obtain ⟨rfl, hP, hK⟩ := hv0
  have hx := B.exec
  have hb := B.bytes
  have hr := B.returns
  have hts := atoms_spec (ws := wsX1_count) B.pre
  have hown : s.vm.findClass RX1 = some m.cls := findClass_of_methodNamed B.named
  have hlocks := B.notSynchronized
  have hP : va_P (dC, dI) vwCl (mC o b1 b2 b3 e1 e2 e3 (nI N) (nI c) (nI y) (nI z) fo kn g1 g2 g3) s.heap := hP
  have hin1 : ∀ w ∈ u_ws RX1 TX1 9, w ∈ wsX1_count := by decide +kernel
  have hl := lv_entry ([.ref o, .int v]) (n := 2) (Nat.le_of_ble_eq_true rfl)
  rw [lg_entry_eq]
  generalize (lg_sl ([.ref o, .int v]) ++ List.replicate (2 - (lg_sl ([.ref o, .int v])).length) Slot.unset).toArray = ls at hl ⊢
  have hl : lv_has ls 2 [(0, .ref o), (1, .int v)] := hl
  refine lv_iload_n hx hb dX1_count_0 rfl (lv_at hl 1 rfl) ?_
  refine lv_tableOut hx hb dX1_count_1 (tgt := 54) hv (by decide) ?_
  refine lv_iconst (v := (-1)) hx hb dX1_count_54 (by decide) ?_
  exact W.iret (v := (-1)) hx hb hr (fun t ht hW => ⟨(-1), rfl, rfl, ht⟩) (fun q h => by cases h) dX1_count_55
end
section
/-- how many variables there are -/
def cl (v : Int32) : Nat := if v < 1 then 1 else if 16 < v then 16 else v.toNatClampNeg
theorem i_lt {v : Int32} {n : Nat} (hn : n < 2 ^ 31) : v < nI n ↔ v.toInt < n := by rw [Int32.lt_iff_toInt_lt, nI_toInt hn]
theorem i_gt {v : Int32} {n : Nat} (hn : n < 2 ^ 31) : nI n < v ↔ (n : Int) < v.toInt := by rw [Int32.lt_iff_toInt_lt, nI_toInt hn]
theorem i_le {v : Int32} {n : Nat} (hn : n < 2 ^ 31) : v ≤ nI n ↔ v.toInt ≤ n := by rw [Int32.le_iff_toInt_le, nI_toInt hn]
theorem i_ge {v : Int32} {n : Nat} (hn : n < 2 ^ 31) : nI n ≤ v ↔ (n : Int) ≤ v.toInt := by rw [Int32.le_iff_toInt_le, nI_toInt hn]
theorem cl_lo {v : Int32} (h : v.toInt < 1) : cl v = 1 := by
  unfold cl
  rw [if_pos]
  exact (i_lt (n := 1) (by decide)).mpr h
theorem cl_hi {v : Int32} (h : 16 < v.toInt) : cl v = 16 := by
  unfold cl
  rw [if_neg, if_pos]
  · exact (i_gt (n := 16) (by decide)).mpr h
  · intro z
    have := (i_lt (n := 1) (by decide)).mp z
    omega
theorem cl_mid {v : Int32} (h1 : 1 ≤ v.toInt) (h2 : v.toInt ≤ 16) : v = nI (cl v) ∧ (cl v : Int) = v.toInt := by
  obtain ⟨j, hj, e⟩ := nI_of (x := v) (fun z => by have := (i_lt (n := 0) (by decide)).mp z; omega)
  have hc : cl v = j := by
    unfold cl
    rw [if_neg, if_neg, e, nI_clamp hj]
    · intro z
      have := (i_gt (n := 16) (by decide)).mp z
      omega
    · intro z
      have := (i_lt (n := 1) (by decide)).mp z
      omega
  rw [hc]
  exact ⟨e, by rw [e, nI_toInt hj]⟩
theorem cl_bd (v : Int32) : 1 ≤ cl v ∧ cl v ≤ 16 := by
  rcases (by omega : v.toInt < 1 ∨ 1 ≤ v.toInt) with h | h
  · rw [cl_lo h]; decide
  · rcases (by omega : 16 < v.toInt ∨ v.toInt ≤ 16) with h2 | h2
    · rw [cl_hi h2]; decide
    · have := (cl_mid h h2).2
      omega
theorem cl_X (v : Int32) : (if nI 1 < (if v < nI 16 then v else nI 16) then (if v < nI 16 then v else nI 16) else nI 1) = nI (cl v) := by
  rcases (by omega : v.toInt < 1 ∨ 1 ≤ v.toInt) with h | h
  · rw [if_pos (show v < nI 16 from (i_lt (by decide)).mpr (by omega)), if_neg (fun z => by have := (i_gt (n := 1) (by decide)).mp z; omega), cl_lo h]
  · rcases (by omega : 16 < v.toInt ∨ v.toInt ≤ 16) with h2 | h2
    · rw [if_neg (show ¬ v < nI 16 from fun z => by have := (i_lt (n := 16) (by decide)).mp z; omega), if_pos (by decide), cl_hi h2]
    · have e := (cl_mid h h2).1
      have hb := cl_bd v
      have key : ∀ j, j < 17 → 1 ≤ j → (if nI 1 < (if nI j < nI 16 then nI j else nI 16) then (if nI j < nI 16 then nI j else nI 16) else nI 1) = nI j := by decide +kernel
      have h9 := key (cl v) (by omega) hb.1
      rw [← e] at h9
      exact h9.trans e
theorem cl_h : ∀ n, n < 17 → (if nI 0 < nI n - nI 6 then nI n - nI 6 else nI 0) = nI (n - 6) := by decide +kernel
theorem nw_i (n : Nat) (cA : ClassId) : vp_cell cA (n, .inl (fun _ => 0)) = arrV cA n (fun _ => defaultValue .int) := rfl
theorem nw_z (n : Nat) (cA : ClassId) : vp_cell cA (n, .inl (fun _ => 0)) = arrV cA n (fun _ => defaultValue .boolean) := rfl
theorem nw_l (n : Nat) (cA : ClassId) : vp_cell cA (n, .inr (.inl (fun _ => 0))) = arrV cA n (fun _ => defaultValue .long) := rfl
set_option maxHeartbeats 4000000 in
set_option maxRecDepth 100000 in
/-- ClauseSolver(v) -/
theorem c_init (l : Launch) (dC : Nat → ClassId) (dI : Nat → Nat → Nat) (o sz : Nat) (v : Int32) : Met l yX0_init wsX0_init ({ frames := 2, cells := 4, slots := 1600, locals := 60 }) (va_Pc [.ref o, .int v] (wW (dC, dI) vwCl [(o, .inr (0, [.int 0, .int 0, .int 0, .int 0, .int 0, .int 0, .null, .null, .null, .null]))] [] sz)) (va_Qv (fun (_ : (Nat × Nat × Nat × Nat) × (ClassId × ClassId × ClassId × ClassId)) => True) (fun (u : (Nat × Nat × Nat × Nat) × (ClassId × ClassId × ClassId × ClassId)) t => va_P (dC, dI) vwCl (xC o u.1.1 u.1.2.1 u.1.2.2.1 u.1.2.2.2 u.2.1 u.2.2.1 u.2.2.2.1 u.2.2.2.2 (nI (cl v)) (nI (cl v - 6)) (nI 0) (nI 0) (nI 0) (nI 0) (fun _ => 0) (fun _ => 0) (fun _ => 0) (fun _ => 0)) t.heap ∧ va_K (dC, dI) vwCl (xT u.2.1 u.2.2.1 u.2.2.2.1 u.2.2.2.2) t ∧ va_D (va_A [(o, .inr (0, [.int 0, .int 0, .int 0, .int 0, .int 0, .int 0, .null, .null, .null, .null]))] sz) (xC o u.1.1 u.1.2.1 u.1.2.2.1 u.1.2.2.2 u.2.1 u.2.2.1 u.2.2.2.1 u.2.2.2.2 (nI (cl v)) (nI (cl v - 6)) (nI 0) (nI 0) (nI 0) (nI 0) (fun _ => 0) (fun _ => 0) (fun _ => 0) (fun _ => 0))) (va_A [(o, .inr (0, [.int 0, .int 0, .int 0, .int 0, .int 0, .int 0, .null, .null, .null, .null]))] sz)) 4 1600 (va_A [(o, .inr (0, [.int 0, .int 0, .int 0, .int 0, .int 0, .int 0, .null, .null, .null, .null]))] sz) := by
  refine Met.ofW (cc := cX0_init) (maxL := 2) (ret := none) (by decide) rfl ?_
  intro p e s m args below meth c0 s₁ B hml hv0
  obtain ⟨rfl, hsz, hP, hK, hD0⟩ := hv0
  have hx := B.exec
  have hb := B.bytes
  have hr := B.returns
  have hts := atoms_spec (ws := wsX0_init) B.pre
  have hown : s.vm.findClass RX0 = some m.cls := findClass_of_methodNamed B.named
  have hlocks := B.notSynchronized
  have hini : meth.name = "<init>" := (name_of_methodNamed B.named B.method).1
  subst hsz
  have hD := hD0.self (sz := s.heap.size)
  generalize hAe : va_A [(o, .inr (0, [.int 0, .int 0, .int 0, .int 0, .int 0, .int 0, .null, .null, .null, .null]))] s.heap.size = A at hD ⊢
  have hA : ∀ q : Nat, s.heap.size ≤ q → A q := fun q h => by rw [← hAe]; exact Or.inr h
  have hS : va_S A s.heap s.heap [] := va_S.rf
  have hP : va_P (dC, dI) vwCl [(o, .inr (0, [.int 0, .int 0, .int 0, .int 0, .int 0, .int 0, .null, .null, .null, .null]))] s.heap := hP
  have hin0 : ∀ w ∈ u_ws RX0 TX0 10, w ∈ wsX0_init := by decide +kernel
  have hl := lv_entry ([.ref o, .int v]) (n := 2) (Nat.le_of_ble_eq_true rfl)
  rw [lg_entry_eq]
  generalize (lg_sl ([.ref o, .int v]) ++ List.replicate (2 - (lg_sl ([.ref o, .int v])).length) Slot.unset).toArray = ls at hl ⊢
  have hl : lv_has ls 2 [(0, .ref o), (1, .int v)] := hl
  refine lv_aload_n hx hb dX0_init_0 rfl (lv_at hl 0 rfl) ?_
  refine W.objInit hx hb hown (hts (.methodLink RX0 1 objectInit) (by decide +kernel)) (hts (.instanceMethod objectInit) (by decide +kernel)) (hts _ (List.mem_cons_of_mem _ (List.mem_append_left _ (List.mem_of_getElem? (i := 2) rfl)))) rfl (by rw [hml]; exact hl.1) rfl dX0_init_1 (Nat.le_of_ble_eq_true rfl) (Nat.le_of_ble_eq_true rfl) ?_
  refine W.eq (g2 := F0 m 4 ls []) rfl ?_
  refine lv_aload_n hx hb dX0_init_4 rfl (lv_at hl 0 rfl) ?_
  refine lv_iconst (v := nI 1) hx hb dX0_init_5 (by decide) ?_
  refine lv_bipush (v := nI 16) hx hb dX0_init_6 (by decide) ?_
  refine lv_iload_n hx hb dX0_init_8 rfl (lv_at hl 1 rfl) ?_
  refine va_mmin hx hb (hml.trans hl.1.symm) hown (hts (.methodLink RX0 9 Lib.Math.min.name) (by decide +kernel)) (hts (.static Lib.Math.min.name) (by decide +kernel)) (hts (.initialized "java/lang/Math") (by decide +kernel)) (hts (.code Lib.Math.min.name Lib.Math.min.code 2 (some .int)) (by decide +kernel)) (Nat.le_of_ble_eq_true rfl) (Nat.le_of_ble_eq_true rfl) (Nat.zero_le _) (Nat.zero_le _) dX0_init_9 ?_
  refine va_mmax hx hb (hml.trans hl.1.symm) hown (hts (.methodLink RX0 15 Lib.Math.max.name) (by decide +kernel)) (hts (.static Lib.Math.max.name) (by decide +kernel)) (hts (.initialized "java/lang/Math") (by decide +kernel)) (hts (.code Lib.Math.max.name Lib.Math.max.code 2 (some .int)) (by decide +kernel)) (Nat.le_of_ble_eq_true rfl) (Nat.le_of_ble_eq_true rfl) (Nat.zero_le _) (Nat.zero_le _) dX0_init_12 ?_
  refine cs_top (y := nI (cl v)) (cl_X v) ?_
  refine va_putF (D := (dC, dI)) (ci := 0) (v := .int (nI (cl v))) (ty := .int) (C := RX0) (T := TX0) (N := 10) hx hb hts hin0 tyX0 tyX0_ok nmX0 hown hK hP hD hS 0 rfl rfl 0 (by decide) (hts (.fieldLink RX0 18 "ClauseSolver" "variables" "I") (by decide +kernel)) (fun _ h9 => h9) rfl hini rfl (by decide +kernel) rfl rfl (Nat.le_of_ble_eq_true rfl) dX0_init_15 (fun H locs hP hD hS => ?_)
  have hP : va_P (dC, dI) vwCl [(o, .inr (0, [.int (nI (cl v)), .int 0, .int 0, .int 0, .int 0, .int 0, .null, .null, .null, .null]))] H := hP
  have hD : va_D A [(o, .inr (0, [.int (nI (cl v)), .int 0, .int 0, .int 0, .int 0, .int 0, .null, .null, .null, .null]))] := hD
  refine lv_aload_n hx hb dX0_init_18 rfl (lv_at hl 0 rfl) ?_
  refine lv_iconst (v := nI 0) hx hb dX0_init_19 (by decide) ?_
  refine lv_aload_n hx hb dX0_init_20 rfl (lv_at hl 0 rfl) ?_
  refine va_get (D := (dC, dI)) (ci := 0) (v := .int (nI (cl v))) (C := RX0) (T := TX0) (N := 10) hx hb hts hin0 hown hK hP 0 rfl rfl 0 (by decide) (hts (.fieldLink RX0 18 "ClauseSolver" "variables" "I") (by decide +kernel)) (fun _ h9 => h9) rfl dX0_init_21 ?_
  refine lv_bipush (v := nI 6) hx hb dX0_init_24 (by decide) ?_
  refine lv_isub hx hb dX0_init_26 ?_
  refine va_mmax hx hb (hml.trans hl.1.symm) hown (hts (.methodLink RX0 15 Lib.Math.max.name) (by decide +kernel)) (hts (.static Lib.Math.max.name) (by decide +kernel)) (hts (.initialized "java/lang/Math") (by decide +kernel)) (hts (.code Lib.Math.max.name Lib.Math.max.code 2 (some .int)) (by decide +kernel)) (Nat.le_of_ble_eq_true rfl) (Nat.le_of_ble_eq_true rfl) (Nat.zero_le _) (Nat.zero_le _) dX0_init_27 ?_
  refine cs_top (y := nI (cl v - 6)) (cl_h (cl v) (Nat.lt_succ_of_le (cl_bd v).2)) ?_
  refine va_putF (D := (dC, dI)) (ci := 0) (v := .int (nI (cl v - 6))) (ty := .int) (C := RX0) (T := TX0) (N := 10) hx hb hts hin0 tyX0 tyX0_ok nmX0 hown hK hP hD hS 0 rfl rfl 1 (by decide) (hts (.fieldLink RX0 22 "ClauseSolver" "heads" "I") (by decide +kernel)) (fun _ h9 => h9) rfl hini rfl (by decide +kernel) rfl rfl (Nat.le_of_ble_eq_true rfl) dX0_init_30 (fun H locs hP hD hS => ?_)
  have hP : va_P (dC, dI) vwCl [(o, .inr (0, [.int (nI (cl v)), .int (nI (cl v - 6)), .int 0, .int 0, .int 0, .int 0, .null, .null, .null, .null]))] H := hP
  have hD : va_D A [(o, .inr (0, [.int (nI (cl v)), .int (nI (cl v - 6)), .int 0, .int 0, .int 0, .int 0, .null, .null, .null, .null]))] := hD
  refine lv_aload_n hx hb dX0_init_33 rfl (lv_at hl 0 rfl) ?_
  refine lv_sipush (v := nI 400) hx hb dX0_init_34 (by decide) ?_
  have ha1 := nw_i 400
  have hn1 : ¬ nI 400 < 0 := nI_pos (by decide)
  have hN1 : (nI 400).toNatClampNeg = 400 := nI_clamp (by decide)
  have hby : 400 * componentBytes .int ≤ 536870912 := by decide +kernel
  have hcc : 0 + 1 ≤ 4 := by decide
  have hss : 0 + 400 ≤ 1600 := by decide
  have har := hts (.arrayClass .int) (by decide +kernel)
  refine va_newa (atype := .int) (a0 := (400, .inl (fun _ => 0))) (ty := .int) (n := nI 400) (N' := 400) hx hb har rfl hK hP hD hS hA ha1 hn1 hN1 hby hcc hss dX0_init_37 (fun q1 k1 H hK hP hD hS => ?_)
  have hP : va_P (dC, dI) vwCl [(o, .inr (0, [.int (nI (cl v)), .int (nI (cl v - 6)), .int 0, .int 0, .int 0, .int 0, .null, .null, .null, .null])), (q1, .inl (k1, 400, .inl (fun _ => 0)))] H := hP
  have hD : va_D A [(o, .inr (0, [.int (nI (cl v)), .int (nI (cl v - 6)), .int 0, .int 0, .int 0, .int 0, .null, .null, .null, .null])), (q1, .inl (k1, 400, .inl (fun _ => 0)))] := hD
  have hK : va_K (dC, dI) vwCl [(k1, .int)] s := hK
  refine W.widen (k := 1) (n := 400) (show 0 + 1 ≤ 1 by decide) (show 0 + 400 ≤ 400 by decide) ?_
  refine va_putF (D := (dC, dI)) (ci := 0) (v := .ref q1) (ty := (.array .int)) (C := RX0) (T := TX0) (N := 10) hx hb hts hin0 tyX0 tyX0_ok nmX0 hown hK hP hD hS 0 rfl rfl 6 (by decide) (hts (.fieldLink RX0 25 "ClauseSolver" "headTrue" "[I") (by decide +kernel)) (fun _ h9 => h9) rfl hini rfl (by decide +kernel) rfl rfl (Nat.le_of_ble_eq_true rfl) dX0_init_39 (fun H locs hP hD hS => ?_)
  have hP : va_P (dC, dI) vwCl [(o, .inr (0, [.int (nI (cl v)), .int (nI (cl v - 6)), .int 0, .int 0, .int 0, .int 0, .ref q1, .null, .null, .null])), (q1, .inl (k1, 400, .inl (fun _ => 0)))] H := hP
  have hD : va_D A [(o, .inr (0, [.int (nI (cl v)), .int (nI (cl v - 6)), .int 0, .int 0, .int 0, .int 0, .ref q1, .null, .null, .null])), (q1, .inl (k1, 400, .inl (fun _ => 0)))] := hD
  refine lv_aload_n hx hb dX0_init_42 rfl (lv_at hl 0 rfl) ?_
  refine lv_sipush (v := nI 400) hx hb dX0_init_43 (by decide) ?_
  have ha1 := nw_i 400
  have hn1 : ¬ nI 400 < 0 := nI_pos (by decide)
  have hN1 : (nI 400).toNatClampNeg = 400 := nI_clamp (by decide)
  have hby : 400 * componentBytes .int ≤ 536870912 := by decide +kernel
  have hcc : 1 + 1 ≤ 4 := by decide
  have hss : 400 + 400 ≤ 1600 := by decide
  have har := hts (.arrayClass .int) (by decide +kernel)
  refine va_newa (atype := .int) (a0 := (400, .inl (fun _ => 0))) (ty := .int) (n := nI 400) (N' := 400) hx hb har rfl hK hP hD hS hA ha1 hn1 hN1 hby hcc hss dX0_init_46 (fun q2 k2 H hK hP hD hS => ?_)
  have hP : va_P (dC, dI) vwCl [(o, .inr (0, [.int (nI (cl v)), .int (nI (cl v - 6)), .int 0, .int 0, .int 0, .int 0, .ref q1, .null, .null, .null])), (q1, .inl (k1, 400, .inl (fun _ => 0))), (q2, .inl (k2, 400, .inl (fun _ => 0)))] H := hP
  have hD : va_D A [(o, .inr (0, [.int (nI (cl v)), .int (nI (cl v - 6)), .int 0, .int 0, .int 0, .int 0, .ref q1, .null, .null, .null])), (q1, .inl (k1, 400, .inl (fun _ => 0))), (q2, .inl (k2, 400, .inl (fun _ => 0)))] := hD
  have hK : va_K (dC, dI) vwCl [(k1, .int), (k2, .int)] s := hK
  refine W.widen (k := 2) (n := 800) (show 1 + 1 ≤ 2 by decide) (show 400 + 400 ≤ 800 by decide) ?_
  refine va_putF (D := (dC, dI)) (ci := 0) (v := .ref q2) (ty := (.array .int)) (C := RX0) (T := TX0) (N := 10) hx hb hts hin0 tyX0 tyX0_ok nmX0 hown hK hP hD hS 0 rfl rfl 7 (by decide) (hts (.fieldLink RX0 29 "ClauseSolver" "headFalse" "[I") (by decide +kernel)) (fun _ h9 => h9) rfl hini rfl (by decide +kernel) rfl rfl (Nat.le_of_ble_eq_true rfl) dX0_init_48 (fun H locs hP hD hS => ?_)
  have hP : va_P (dC, dI) vwCl [(o, .inr (0, [.int (nI (cl v)), .int (nI (cl v - 6)), .int 0, .int 0, .int 0, .int 0, .ref q1, .ref q2, .null, .null])), (q1, .inl (k1, 400, .inl (fun _ => 0))), (q2, .inl (k2, 400, .inl (fun _ => 0)))] H := hP
  have hD : va_D A [(o, .inr (0, [.int (nI (cl v)), .int (nI (cl v - 6)), .int 0, .int 0, .int 0, .int 0, .ref q1, .ref q2, .null, .null])), (q1, .inl (k1, 400, .inl (fun _ => 0))), (q2, .inl (k2, 400, .inl (fun _ => 0)))] := hD
  refine lv_aload_n hx hb dX0_init_51 rfl (lv_at hl 0 rfl) ?_
  refine lv_sipush (v := nI 400) hx hb dX0_init_52 (by decide) ?_
  have ha1 := nw_i 400
  have hn1 : ¬ nI 400 < 0 := nI_pos (by decide)
  have hN1 : (nI 400).toNatClampNeg = 400 := nI_clamp (by decide)
  have hby : 400 * componentBytes .int ≤ 536870912 := by decide +kernel
  have hcc : 2 + 1 ≤ 4 := by decide
  have hss : 800 + 400 ≤ 1600 := by decide
  have har := hts (.arrayClass .int) (by decide +kernel)
  refine va_newa (atype := .int) (a0 := (400, .inl (fun _ => 0))) (ty := .int) (n := nI 400) (N' := 400) hx hb har rfl hK hP hD hS hA ha1 hn1 hN1 hby hcc hss dX0_init_55 (fun q3 k3 H hK hP hD hS => ?_)
  have hP : va_P (dC, dI) vwCl [(o, .inr (0, [.int (nI (cl v)), .int (nI (cl v - 6)), .int 0, .int 0, .int 0, .int 0, .ref q1, .ref q2, .null, .null])), (q1, .inl (k1, 400, .inl (fun _ => 0))), (q2, .inl (k2, 400, .inl (fun _ => 0))), (q3, .inl (k3, 400, .inl (fun _ => 0)))] H := hP
  have hD : va_D A [(o, .inr (0, [.int (nI (cl v)), .int (nI (cl v - 6)), .int 0, .int 0, .int 0, .int 0, .ref q1, .ref q2, .null, .null])), (q1, .inl (k1, 400, .inl (fun _ => 0))), (q2, .inl (k2, 400, .inl (fun _ => 0))), (q3, .inl (k3, 400, .inl (fun _ => 0)))] := hD
  have hK : va_K (dC, dI) vwCl [(k1, .int), (k2, .int), (k3, .int)] s := hK
  refine W.widen (k := 3) (n := 1200) (show 2 + 1 ≤ 3 by decide) (show 800 + 400 ≤ 1200 by decide) ?_
  refine va_putF (D := (dC, dI)) (ci := 0) (v := .ref q3) (ty := (.array .int)) (C := RX0) (T := TX0) (N := 10) hx hb hts hin0 tyX0 tyX0_ok nmX0 hown hK hP hD hS 0 rfl rfl 8 (by decide) (hts (.fieldLink RX0 32 "ClauseSolver" "depths" "[I") (by decide +kernel)) (fun _ h9 => h9) rfl hini rfl (by decide +kernel) rfl rfl (Nat.le_of_ble_eq_true rfl) dX0_init_57 (fun H locs hP hD hS => ?_)
  have hP : va_P (dC, dI) vwCl [(o, .inr (0, [.int (nI (cl v)), .int (nI (cl v - 6)), .int 0, .int 0, .int 0, .int 0, .ref q1, .ref q2, .ref q3, .null])), (q1, .inl (k1, 400, .inl (fun _ => 0))), (q2, .inl (k2, 400, .inl (fun _ => 0))), (q3, .inl (k3, 400, .inl (fun _ => 0)))] H := hP
  have hD : va_D A [(o, .inr (0, [.int (nI (cl v)), .int (nI (cl v - 6)), .int 0, .int 0, .int 0, .int 0, .ref q1, .ref q2, .ref q3, .null])), (q1, .inl (k1, 400, .inl (fun _ => 0))), (q2, .inl (k2, 400, .inl (fun _ => 0))), (q3, .inl (k3, 400, .inl (fun _ => 0)))] := hD
  refine lv_aload_n hx hb dX0_init_60 rfl (lv_at hl 0 rfl) ?_
  refine lv_sipush (v := nI 400) hx hb dX0_init_61 (by decide) ?_
  have ha1 := nw_l 400
  have hn1 : ¬ nI 400 < 0 := nI_pos (by decide)
  have hN1 : (nI 400).toNatClampNeg = 400 := nI_clamp (by decide)
  have hby : 400 * componentBytes .long ≤ 536870912 := by decide +kernel
  have hcc : 3 + 1 ≤ 4 := by decide
  have hss : 1200 + 400 ≤ 1600 := by decide
  have har := hts (.arrayClass .long) (by decide +kernel)
  refine va_newa (atype := .long) (a0 := (400, .inr (.inl (fun _ => 0)))) (ty := .long) (n := nI 400) (N' := 400) hx hb har rfl hK hP hD hS hA ha1 hn1 hN1 hby hcc hss dX0_init_64 (fun q4 k4 H hK hP hD hS => ?_)
  have hP : va_P (dC, dI) vwCl [(o, .inr (0, [.int (nI (cl v)), .int (nI (cl v - 6)), .int 0, .int 0, .int 0, .int 0, .ref q1, .ref q2, .ref q3, .null])), (q1, .inl (k1, 400, .inl (fun _ => 0))), (q2, .inl (k2, 400, .inl (fun _ => 0))), (q3, .inl (k3, 400, .inl (fun _ => 0))), (q4, .inl (k4, 400, .inr (.inl (fun _ => 0))))] H := hP
  have hD : va_D A [(o, .inr (0, [.int (nI (cl v)), .int (nI (cl v - 6)), .int 0, .int 0, .int 0, .int 0, .ref q1, .ref q2, .ref q3, .null])), (q1, .inl (k1, 400, .inl (fun _ => 0))), (q2, .inl (k2, 400, .inl (fun _ => 0))), (q3, .inl (k3, 400, .inl (fun _ => 0))), (q4, .inl (k4, 400, .inr (.inl (fun _ => 0))))] := hD
  have hK : va_K (dC, dI) vwCl [(k1, .int), (k2, .int), (k3, .int), (k4, .long)] s := hK
  refine W.widen (k := 4) (n := 1600) (show 3 + 1 ≤ 4 by decide) (show 1200 + 400 ≤ 1600 by decide) ?_
  refine va_putF (D := (dC, dI)) (ci := 0) (v := .ref q4) (ty := (.array .long)) (C := RX0) (T := TX0) (N := 10) hx hb hts hin0 tyX0 tyX0_ok nmX0 hown hK hP hD hS 0 rfl rfl 9 (by decide) (hts (.fieldLink RX0 35 "ClauseSolver" "tails" "[J") (by decide +kernel)) (fun _ h9 => h9) rfl hini rfl (by decide +kernel) rfl rfl (Nat.le_of_ble_eq_true rfl) dX0_init_66 (fun H locs hP hD hS => ?_)
  have hP : va_P (dC, dI) vwCl [(o, .inr (0, [.int (nI (cl v)), .int (nI (cl v - 6)), .int 0, .int 0, .int 0, .int 0, .ref q1, .ref q2, .ref q3, .ref q4])), (q1, .inl (k1, 400, .inl (fun _ => 0))), (q2, .inl (k2, 400, .inl (fun _ => 0))), (q3, .inl (k3, 400, .inl (fun _ => 0))), (q4, .inl (k4, 400, .inr (.inl (fun _ => 0))))] H := hP
  have hD : va_D A [(o, .inr (0, [.int (nI (cl v)), .int (nI (cl v - 6)), .int 0, .int 0, .int 0, .int 0, .ref q1, .ref q2, .ref q3, .ref q4])), (q1, .inl (k1, 400, .inl (fun _ => 0))), (q2, .inl (k2, 400, .inl (fun _ => 0))), (q3, .inl (k3, 400, .inl (fun _ => 0))), (q4, .inl (k4, 400, .inr (.inl (fun _ => 0))))] := hD
  exact W.vret hx hb hr (fun t ht hW => ⟨⟨((q1, q2, q3, q4), (k1, k2, k3, k4)), rfl, trivial, by rw [ht]; exact hP, va_K.moved hW.alike hK, hD⟩, hS.F ht⟩) hS.2.2 dX0_init_69
set_option maxHeartbeats 4000000 in
set_option maxRecDepth 100000 in
/-- ClauseSolverModel(v) -/
theorem m_init (l : Launch) (dC : Nat → ClassId) (dI : Nat → Nat → Nat) (o sz : Nat) (v : Int32) : Met l yX1_init wsX1_init ({ frames := 2, cells := 3, slots := 816, locals := 60 }) (va_Pc [.ref o, .int v] (wW (dC, dI) vwCl [(o, .inr (1, [.int 0, .null, .null, .null, .int 0, .int 0, .int 0, .int 0, .int 0]))] [] sz)) (va_Qv (fun (_ : (Nat × Nat × Nat) × (ClassId × ClassId × ClassId)) => True) (fun (u : (Nat × Nat × Nat) × (ClassId × ClassId × ClassId)) t => va_P (dC, dI) vwCl (mC o u.1.1 u.1.2.1 u.1.2.2 u.2.1 u.2.2.1 u.2.2.2 (nI (cl v)) (nI 0) (nI 0) (nI 0) 0 (nI 0) (fun _ => 0) (fun _ => 0) (fun _ => 0)) t.heap ∧ va_K (dC, dI) vwCl (mT u.2.1 u.2.2.1 u.2.2.2) t ∧ va_D (va_A [(o, .inr (1, [.int 0, .null, .null, .null, .int 0, .int 0, .int 0, .int 0, .int 0]))] sz) (mC o u.1.1 u.1.2.1 u.1.2.2 u.2.1 u.2.2.1 u.2.2.2 (nI (cl v)) (nI 0) (nI 0) (nI 0) 0 (nI 0) (fun _ => 0) (fun _ => 0) (fun _ => 0))) (va_A [(o, .inr (1, [.int 0, .null, .null, .null, .int 0, .int 0, .int 0, .int 0, .int 0]))] sz)) 3 816 (va_A [(o, .inr (1, [.int 0, .null, .null, .null, .int 0, .int 0, .int 0, .int 0, .int 0]))] sz) := by
  refine Met.ofW (cc := cX1_init) (maxL := 2) (ret := none) (by decide) rfl ?_
  intro p e s m args below meth c0 s₁ B hml hv0
  obtain ⟨rfl, hsz, hP, hK, hD0⟩ := hv0
  have hx := B.exec
  have hb := B.bytes
  have hr := B.returns
  have hts := atoms_spec (ws := wsX1_init) B.pre
  have hown : s.vm.findClass RX1 = some m.cls := findClass_of_methodNamed B.named
  have hlocks := B.notSynchronized
  have hini : meth.name = "<init>" := (name_of_methodNamed B.named B.method).1
  subst hsz
  have hD := hD0.self (sz := s.heap.size)
  generalize hAe : va_A [(o, .inr (1, [.int 0, .null, .null, .null, .int 0, .int 0, .int 0, .int 0, .int 0]))] s.heap.size = A at hD ⊢
  have hA : ∀ q : Nat, s.heap.size ≤ q → A q := fun q h => by rw [← hAe]; exact Or.inr h
  have hS : va_S A s.heap s.heap [] := va_S.rf
  have hP : va_P (dC, dI) vwCl [(o, .inr (1, [.int 0, .null, .null, .null, .int 0, .int 0, .int 0, .int 0, .int 0]))] s.heap := hP
  have hin1 : ∀ w ∈ u_ws RX1 TX1 9, w ∈ wsX1_init := by decide +kernel
  have hl := lv_entry ([.ref o, .int v]) (n := 2) (Nat.le_of_ble_eq_true rfl)
  rw [lg_entry_eq]
  generalize (lg_sl ([.ref o, .int v]) ++ List.replicate (2 - (lg_sl ([.ref o, .int v])).length) Slot.unset).toArray = ls at hl ⊢
  have hl : lv_has ls 2 [(0, .ref o), (1, .int v)] := hl
  refine lv_aload_n hx hb dX1_init_0 rfl (lv_at hl 0 rfl) ?_
  refine W.objInit hx hb hown (hts (.methodLink RX1 1 objectInit) (by decide +kernel)) (hts (.instanceMethod objectInit) (by decide +kernel)) (hts _ (List.mem_cons_of_mem _ (List.mem_append_left _ (List.mem_of_getElem? (i := 2) rfl)))) rfl (by rw [hml]; exact hl.1) rfl dX1_init_1 (Nat.le_of_ble_eq_true rfl) (Nat.le_of_ble_eq_true rfl) ?_
  refine W.eq (g2 := F0 m 4 ls []) rfl ?_
  refine lv_aload_n hx hb dX1_init_4 rfl (lv_at hl 0 rfl) ?_
  refine lv_bipush (v := nI 16) hx hb dX1_init_5 (by decide) ?_
  have ha1 := nw_z 16
  have hn1 : ¬ nI 16 < 0 := nI_pos (by decide)
  have hN1 : (nI 16).toNatClampNeg = 16 := nI_clamp (by decide)
  have hby : 16 * componentBytes .boolean ≤ 536870912 := by decide +kernel
  have hcc : 0 + 1 ≤ 3 := by decide
  have hss : 0 + 16 ≤ 816 := by decide
  have har := hts (.arrayClass .boolean) (by decide +kernel)
  refine va_newa (atype := .boolean) (a0 := (16, .inl (fun _ => 0))) (ty := .boolean) (n := nI 16) (N' := 16) hx hb har rfl hK hP hD hS hA ha1 hn1 hN1 hby hcc hss dX1_init_7 (fun q1 k1 H hK hP hD hS => ?_)
  have hP : va_P (dC, dI) vwCl [(o, .inr (1, [.int 0, .null, .null, .null, .int 0, .int 0, .int 0, .int 0, .int 0])), (q1, .inl (k1, 16, .inl (fun _ => 0)))] H := hP
  have hD : va_D A [(o, .inr (1, [.int 0, .null, .null, .null, .int 0, .int 0, .int 0, .int 0, .int 0])), (q1, .inl (k1, 16, .inl (fun _ => 0)))] := hD
  have hK : va_K (dC, dI) vwCl [(k1, .boolean)] s := hK
  refine W.widen (k := 1) (n := 16) (show 0 + 1 ≤ 1 by decide) (show 0 + 16 ≤ 16 by decide) ?_
  refine va_putF (D := (dC, dI)) (ci := 1) (v := .ref q1) (ty := (.array .boolean)) (C := RX1) (T := TX1) (N := 9) hx hb hts hin1 tyX1 tyX1_ok nmX1 hown hK hP hD hS 0 rfl rfl 1 (by decide) (hts (.fieldLink RX1 7 "ClauseSolverModel" "wish" "[Z") (by decide +kernel)) (fun _ h9 => h9) rfl hini rfl (by decide +kernel) rfl rfl (Nat.le_of_ble_eq_true rfl) dX1_init_9 (fun H locs hP hD hS => ?_)
  have hP : va_P (dC, dI) vwCl [(o, .inr (1, [.int 0, .ref q1, .null, .null, .int 0, .int 0, .int 0, .int 0, .int 0])), (q1, .inl (k1, 16, .inl (fun _ => 0)))] H := hP
  have hD : va_D A [(o, .inr (1, [.int 0, .ref q1, .null, .null, .int 0, .int 0, .int 0, .int 0, .int 0])), (q1, .inl (k1, 16, .inl (fun _ => 0)))] := hD
  refine lv_aload_n hx hb dX1_init_12 rfl (lv_at hl 0 rfl) ?_
  refine lv_sipush (v := nI 400) hx hb dX1_init_13 (by decide) ?_
  have ha1 := nw_i 400
  have hn1 : ¬ nI 400 < 0 := nI_pos (by decide)
  have hN1 : (nI 400).toNatClampNeg = 400 := nI_clamp (by decide)
  have hby : 400 * componentBytes .int ≤ 536870912 := by decide +kernel
  have hcc : 1 + 1 ≤ 3 := by decide
  have hss : 16 + 400 ≤ 816 := by decide
  have har := hts (.arrayClass .int) (by decide +kernel)
  refine va_newa (atype := .int) (a0 := (400, .inl (fun _ => 0))) (ty := .int) (n := nI 400) (N' := 400) hx hb har rfl hK hP hD hS hA ha1 hn1 hN1 hby hcc hss dX1_init_16 (fun q2 k2 H hK hP hD hS => ?_)
  have hP : va_P (dC, dI) vwCl [(o, .inr (1, [.int 0, .ref q1, .null, .null, .int 0, .int 0, .int 0, .int 0, .int 0])), (q1, .inl (k1, 16, .inl (fun _ => 0))), (q2, .inl (k2, 400, .inl (fun _ => 0)))] H := hP
  have hD : va_D A [(o, .inr (1, [.int 0, .ref q1, .null, .null, .int 0, .int 0, .int 0, .int 0, .int 0])), (q1, .inl (k1, 16, .inl (fun _ => 0))), (q2, .inl (k2, 400, .inl (fun _ => 0)))] := hD
  have hK : va_K (dC, dI) vwCl [(k1, .boolean), (k2, .int)] s := hK
  refine W.widen (k := 2) (n := 416) (show 1 + 1 ≤ 2 by decide) (show 16 + 400 ≤ 416 by decide) ?_
  refine va_putF (D := (dC, dI)) (ci := 1) (v := .ref q2) (ty := (.array .int)) (C := RX1) (T := TX1) (N := 9) hx hb hts hin1 tyX1 tyX1_ok nmX1 hown hK hP hD hS 0 rfl rfl 2 (by decide) (hts (.fieldLink RX1 13 "ClauseSolverModel" "yes" "[I") (by decide +kernel)) (fun _ h9 => h9) rfl hini rfl (by decide +kernel) rfl rfl (Nat.le_of_ble_eq_true rfl) dX1_init_18 (fun H locs hP hD hS => ?_)
  have hP : va_P (dC, dI) vwCl [(o, .inr (1, [.int 0, .ref q1, .ref q2, .null, .int 0, .int 0, .int 0, .int 0, .int 0])), (q1, .inl (k1, 16, .inl (fun _ => 0))), (q2, .inl (k2, 400, .inl (fun _ => 0)))] H := hP
  have hD : va_D A [(o, .inr (1, [.int 0, .ref q1, .ref q2, .null, .int 0, .int 0, .int 0, .int 0, .int 0])), (q1, .inl (k1, 16, .inl (fun _ => 0))), (q2, .inl (k2, 400, .inl (fun _ => 0)))] := hD
  refine lv_aload_n hx hb dX1_init_21 rfl (lv_at hl 0 rfl) ?_
  refine lv_sipush (v := nI 400) hx hb dX1_init_22 (by decide) ?_
  have ha1 := nw_i 400
  have hn1 : ¬ nI 400 < 0 := nI_pos (by decide)
  have hN1 : (nI 400).toNatClampNeg = 400 := nI_clamp (by decide)
  have hby : 400 * componentBytes .int ≤ 536870912 := by decide +kernel
  have hcc : 2 + 1 ≤ 3 := by decide
  have hss : 416 + 400 ≤ 816 := by decide
  have har := hts (.arrayClass .int) (by decide +kernel)
  refine va_newa (atype := .int) (a0 := (400, .inl (fun _ => 0))) (ty := .int) (n := nI 400) (N' := 400) hx hb har rfl hK hP hD hS hA ha1 hn1 hN1 hby hcc hss dX1_init_25 (fun q3 k3 H hK hP hD hS => ?_)
  have hP : va_P (dC, dI) vwCl [(o, .inr (1, [.int 0, .ref q1, .ref q2, .null, .int 0, .int 0, .int 0, .int 0, .int 0])), (q1, .inl (k1, 16, .inl (fun _ => 0))), (q2, .inl (k2, 400, .inl (fun _ => 0))), (q3, .inl (k3, 400, .inl (fun _ => 0)))] H := hP
  have hD : va_D A [(o, .inr (1, [.int 0, .ref q1, .ref q2, .null, .int 0, .int 0, .int 0, .int 0, .int 0])), (q1, .inl (k1, 16, .inl (fun _ => 0))), (q2, .inl (k2, 400, .inl (fun _ => 0))), (q3, .inl (k3, 400, .inl (fun _ => 0)))] := hD
  have hK : va_K (dC, dI) vwCl [(k1, .boolean), (k2, .int), (k3, .int)] s := hK
  refine W.widen (k := 3) (n := 816) (show 2 + 1 ≤ 3 by decide) (show 416 + 400 ≤ 816 by decide) ?_
  refine va_putF (D := (dC, dI)) (ci := 1) (v := .ref q3) (ty := (.array .int)) (C := RX1) (T := TX1) (N := 9) hx hb hts hin1 tyX1 tyX1_ok nmX1 hown hK hP hD hS 0 rfl rfl 3 (by decide) (hts (.fieldLink RX1 17 "ClauseSolverModel" "no" "[I") (by decide +kernel)) (fun _ h9 => h9) rfl hini rfl (by decide +kernel) rfl rfl (Nat.le_of_ble_eq_true rfl) dX1_init_27 (fun H locs hP hD hS => ?_)
  have hP : va_P (dC, dI) vwCl [(o, .inr (1, [.int 0, .ref q1, .ref q2, .ref q3, .int 0, .int 0, .int 0, .int 0, .int 0])), (q1, .inl (k1, 16, .inl (fun _ => 0))), (q2, .inl (k2, 400, .inl (fun _ => 0))), (q3, .inl (k3, 400, .inl (fun _ => 0)))] H := hP
  have hD : va_D A [(o, .inr (1, [.int 0, .ref q1, .ref q2, .ref q3, .int 0, .int 0, .int 0, .int 0, .int 0])), (q1, .inl (k1, 16, .inl (fun _ => 0))), (q2, .inl (k2, 400, .inl (fun _ => 0))), (q3, .inl (k3, 400, .inl (fun _ => 0)))] := hD
  refine lv_aload_n hx hb dX1_init_30 rfl (lv_at hl 0 rfl) ?_
  refine lv_iload_n hx hb dX1_init_31 rfl (lv_at hl 1 rfl) ?_
  refine lv_iconst (v := nI 1) hx hb dX1_init_32 (by decide) ?_
  refine lv_icmp_ge hx hb dX1_init_33 (tgt := 40) (by decide) (fun hq => ?_) (fun hq => ?_)
  · have h1 := (i_ge (n := 1) (by decide)).mp hq
    refine lv_iload_n hx hb dX1_init_40 rfl (lv_at hl 1 rfl) ?_
    refine lv_bipush (v := nI 16) hx hb dX1_init_41 (by decide) ?_
    refine lv_icmp_le hx hb dX1_init_43 (tgt := 51) (by decide) (fun hq => ?_) (fun hq => ?_)
    · refine lv_iload_n hx hb dX1_init_51 rfl (lv_at hl 1 rfl) ?_
      refine cs_top (y := nI (cl v)) ((cl_mid (by omega) ((i_le (n := 16) (by decide)).mp hq)).1) ?_
      refine va_putF (D := (dC, dI)) (ci := 1) (v := .int (nI (cl v))) (ty := .int) (C := RX1) (T := TX1) (N := 9) hx hb hts hin1 tyX1 tyX1_ok nmX1 hown hK hP hD hS 0 rfl rfl 0 (by decide) (hts (.fieldLink RX1 20 "ClauseSolverModel" "variables" "I") (by decide +kernel)) (fun _ h9 => h9) rfl hini rfl (by decide +kernel) rfl rfl (Nat.le_of_ble_eq_true rfl) dX1_init_52 (fun H locs hP hD hS => ?_)
      have hP : va_P (dC, dI) vwCl [(o, .inr (1, [.int (nI (cl v)), .ref q1, .ref q2, .ref q3, .int 0, .int 0, .int 0, .int 0, .int 0])), (q1, .inl (k1, 16, .inl (fun _ => 0))), (q2, .inl (k2, 400, .inl (fun _ => 0))), (q3, .inl (k3, 400, .inl (fun _ => 0)))] H := hP
      have hD : va_D A [(o, .inr (1, [.int (nI (cl v)), .ref q1, .ref q2, .ref q3, .int 0, .int 0, .int 0, .int 0, .int 0])), (q1, .inl (k1, 16, .inl (fun _ => 0))), (q2, .inl (k2, 400, .inl (fun _ => 0))), (q3, .inl (k3, 400, .inl (fun _ => 0)))] := hD
      exact W.vret hx hb hr (fun t ht hW => ⟨⟨((q1, q2, q3), (k1, k2, k3)), rfl, trivial, by rw [ht]; exact hP, va_K.moved hW.alike hK, hD⟩, hS.F ht⟩) hS.2.2 dX1_init_55
    · refine lv_bipush (v := nI 16) hx hb dX1_init_46 (by decide) ?_
      refine lv_goto hx hb dX1_init_48 (tgt := 52) (by decide) ?_
      refine cs_top (y := nI (cl v)) (congrArg nI (cl_hi (Int.not_le.mp (fun z => hq ((i_le (n := 16) (by decide)).mpr z)))).symm) ?_
      refine va_putF (D := (dC, dI)) (ci := 1) (v := .int (nI (cl v))) (ty := .int) (C := RX1) (T := TX1) (N := 9) hx hb hts hin1 tyX1 tyX1_ok nmX1 hown hK hP hD hS 0 rfl rfl 0 (by decide) (hts (.fieldLink RX1 20 "ClauseSolverModel" "variables" "I") (by decide +kernel)) (fun _ h9 => h9) rfl hini rfl (by decide +kernel) rfl rfl (Nat.le_of_ble_eq_true rfl) dX1_init_52 (fun H locs hP hD hS => ?_)
      have hP : va_P (dC, dI) vwCl [(o, .inr (1, [.int (nI (cl v)), .ref q1, .ref q2, .ref q3, .int 0, .int 0, .int 0, .int 0, .int 0])), (q1, .inl (k1, 16, .inl (fun _ => 0))), (q2, .inl (k2, 400, .inl (fun _ => 0))), (q3, .inl (k3, 400, .inl (fun _ => 0)))] H := hP
      have hD : va_D A [(o, .inr (1, [.int (nI (cl v)), .ref q1, .ref q2, .ref q3, .int 0, .int 0, .int 0, .int 0, .int 0])), (q1, .inl (k1, 16, .inl (fun _ => 0))), (q2, .inl (k2, 400, .inl (fun _ => 0))), (q3, .inl (k3, 400, .inl (fun _ => 0)))] := hD
      exact W.vret hx hb hr (fun t ht hW => ⟨⟨((q1, q2, q3), (k1, k2, k3)), rfl, trivial, by rw [ht]; exact hP, va_K.moved hW.alike hK, hD⟩, hS.F ht⟩) hS.2.2 dX1_init_55
  · refine lv_iconst (v := nI 1) hx hb dX1_init_36 (by decide) ?_
    refine lv_goto hx hb dX1_init_37 (tgt := 52) (by decide) ?_
    refine cs_top (y := nI (cl v)) (congrArg nI (cl_lo (Int.not_le.mp (fun z => hq ((i_ge (n := 1) (by decide)).mpr z)))).symm) ?_
    refine va_putF (D := (dC, dI)) (ci := 1) (v := .int (nI (cl v))) (ty := .int) (C := RX1) (T := TX1) (N := 9) hx hb hts hin1 tyX1 tyX1_ok nmX1 hown hK hP hD hS 0 rfl rfl 0 (by decide) (hts (.fieldLink RX1 20 "ClauseSolverModel" "variables" "I") (by decide +kernel)) (fun _ h9 => h9) rfl hini rfl (by decide +kernel) rfl rfl (Nat.le_of_ble_eq_true rfl) dX1_init_52 (fun H locs hP hD hS => ?_)
    have hP : va_P (dC, dI) vwCl [(o, .inr (1, [.int (nI (cl v)), .ref q1, .ref q2, .ref q3, .int 0, .int 0, .int 0, .int 0, .int 0])), (q1, .inl (k1, 16, .inl (fun _ => 0))), (q2, .inl (k2, 400, .inl (fun _ => 0))), (q3, .inl (k3, 400, .inl (fun _ => 0)))] H := hP
    have hD : va_D A [(o, .inr (1, [.int (nI (cl v)), .ref q1, .ref q2, .ref q3, .int 0, .int 0, .int 0, .int 0, .int 0])), (q1, .inl (k1, 16, .inl (fun _ => 0))), (q2, .inl (k2, 400, .inl (fun _ => 0))), (q3, .inl (k3, 400, .inl (fun _ => 0)))] := hD
    exact W.vret hx hb hr (fun t ht hW => ⟨⟨((q1, q2, q3), (k1, k2, k3)), rfl, trivial, by rw [ht]; exact hP, va_K.moved hW.alike hK, hD⟩, hS.F ht⟩) hS.2.2 dX1_init_55
set_option maxHeartbeats 4000000 in
set_option maxRecDepth 100000 in
theorem l_cell (l : Launch) (b L : Nat) (xs : Nat → Int32) (hL : L ≤ 1537) : Met l yL_cell wsL_cell ({ frames := 0, cells := 0, slots := 0, locals := 0 }) (va_Pc [.ref b, .int (nI 0)] (fun U => va_X b L xs U U.heap)) (vp_Si (fun r => r = if 0 < L then xs 0 else nI 0)) 0 0 (fun _ => False) := by
  refine Met.ofW (cc := cL_cell) (maxL := 2) (ret := some .int) (by decide) rfl ?_
  intro p e s m args below meth c0 s₁ B hml hv0
  obtain ⟨rfl, hX⟩ := hv0
  have hx := B.exec
  have hb := B.bytes
  have hr := B.returns
  have hlocks := B.notSynchronized
  have hbl : b < s.heap.size := by obtain ⟨scr, h1, -⟩ := hX; exact (Array.getElem?_eq_some_iff.mp h1).1
  have hl := lv_entry ([.ref b, .int (nI 0)]) (n := 2) (Nat.le_of_ble_eq_true rfl)
  rw [lg_entry_eq]
  generalize (lg_sl ([.ref b, .int (nI 0)]) ++ List.replicate (2 - (lg_sl ([.ref b, .int (nI 0)])).length) Slot.unset).toArray = ls at hl ⊢
  have hl : lv_has ls 2 [(0, .ref b), (1, .int (nI 0))] := hl
  refine lv_iload_n hx hb dL_cell_0 rfl (lv_at hl 1 rfl) ?_
  refine lv_aload_n hx hb dL_cell_1 rfl (lv_at hl 0 rfl) ?_
  refine va_slen (A := fun _ => False) hx hb hX hbl (fun z => z) va_S.rf dL_cell_2 ?_
  refine cs_top (y := nI L) (rfl) ?_
  rcases Nat.eq_zero_or_pos L with h0 | h0
  · refine lv_icmp_ge hx hb dL_cell_3 (tgt := 12) (by decide) (fun _ => ?_) (fun hq => absurd (by rw [h0]; decide) hq)
    refine lv_iconst (v := nI 0) hx hb dL_cell_12 (by decide) ?_
    exact W.iret (v := nI 0) hx hb hr (fun t ht hW => ⟨nI 0, rfl, by rw [if_neg (by omega)], ht⟩) (fun q h => by cases h) dL_cell_13
  · refine lv_icmp_ge hx hb dL_cell_3 (tgt := 12) (by decide) (fun hq => absurd hq (nI_ge h0 (by omega))) (fun _ => ?_)
    refine lv_aload_n hx hb dL_cell_6 rfl (lv_at hl 0 rfl) ?_
    refine lv_iload_n hx hb dL_cell_7 rfl (lv_at hl 1 rfl) ?_
    refine va_sld (A := fun _ => False) (i := nI 0) hx hb hX hbl (fun z => z) va_S.rf (vp_in_nI h0 (by omega)) dL_cell_8 ?_
    refine cs_top (y := xs 0) (congrArg xs (nI_clamp (by decide))) ?_
    refine lv_goto hx hb dL_cell_9 (tgt := 13) (by decide) ?_
    exact W.iret (v := xs 0) hx hb hr (fun t ht hW => ⟨xs 0, rfl, by rw [if_pos h0], ht⟩) (fun q h => by cases h) dL_cell_13
end
section
/-! the law's state between two calls -/
def lwS (N w y z c : Nat) (Y Z : Nat → Nat) (f1 f2 f3 : Nat → Int32) (f4 : Nat → Int64) (fo kn : Int32) (g1 g2 g3 : Nat → Int32) : Prop :=
  w < 2 ^ N ∧ y < 2 ^ N ∧ z < 2 ^ N ∧ c ≤ 400 ∧ RX N (N - 6) c Y Z f1 f2 f3 f4 ∧ RM N c w Y Z g1 g2 g3 ∧ (kn = nI 0 ∨ (kn = nI 1 ∧ fo = rs (fs (PX c Y Z) w N 0 0)))
def lwI (dC : Nat → ClassId) (dI : Nat → Nat → Nat) (ox a1 a2 a3 a4 : Nat) (c1 c2 c3 c4 : ClassId) (om b1 b2 b3 : Nat) (e1 e2 e3 : ClassId) (N : Nat) (A : Nat → Prop) (H0 H : Heap) (locs : List Loc) : Prop :=
  ∃ (w y z c : Nat) (Y Z : Nat → Nat) (f1 f2 f3 : Nat → Int32) (f4 : Nat → Int64) (fo kn : Int32) (g1 g2 g3 : Nat → Int32), lwS N w y z c Y Z f1 f2 f3 f4 fo kn g1 g2 g3 ∧ va_P (dC, dI) vwCl (xC ox a1 a2 a3 a4 c1 c2 c3 c4 (nI N) (nI (N - 6)) (nI w) (nI y) (nI z) (nI c) f1 f2 f3 f4 ++ mC om b1 b2 b3 e1 e2 e3 (nI N) (nI c) (nI y) (nI z) fo kn g1 g2 g3) H ∧ va_D A (xC ox a1 a2 a3 a4 c1 c2 c3 c4 (nI N) (nI (N - 6)) (nI w) (nI y) (nI z) (nI c) f1 f2 f3 f4 ++ mC om b1 b2 b3 e1 e2 e3 (nI N) (nI c) (nI y) (nI z) fo kn g1 g2 g3) ∧ va_S A H0 H locs
theorem cs_ix (x : Int32) {n : Nat} (hn : n < 2 ^ 31) : (x < 0 ∨ nI n ≤ x) ∨ ∃ j, j < n ∧ x = nI j := by
  rcases pk_ix x hn with h | h | h
  · exact Or.inl (Or.inl h)
  · exact Or.inl (Or.inr h)
  · exact Or.inr h
theorem ct_c (v : Int32) : v = nI 0 ∨ v = nI 1 ∨ v = nI 2 ∨ (v.toInt < 0 ∨ 2 < v.toInt) := by
  rcases pk_ix v (n := 3) (by decide) with h | h | ⟨j, hj, e⟩
  · exact Or.inr (Or.inr (Or.inr (Or.inl ((i_lt (n := 0) (by decide)).mp h))))
  · refine Or.inr (Or.inr (Or.inr (Or.inr ?_)))
    have := (i_ge (n := 3) (by decide)).mp h
    omega
  · rcases (by omega : j = 0 ∨ j = 1 ∨ j = 2) with h | h | h
    · exact Or.inl (by rw [e, h])
    · exact Or.inr (Or.inl (by rw [e, h]))
    · exact Or.inr (Or.inr (Or.inl (by rw [e, h])))
theorem sv_eq {a b V : Int32} (h : V = -2 ↔ V < 0) (ha : (a = nI 0 ∧ V = -2) ∨ (a = nI 1 ∧ ¬ V = -2)) (hb : (b = nI 0 ∧ V < 0) ∨ (b = nI 1 ∧ ¬ V < 0)) : a = b := by
  rcases ha with ⟨e1, h1⟩ | ⟨e1, h1⟩ <;> rcases hb with ⟨e2, h2⟩ | ⟨e2, h2⟩
  · rw [e1, e2]
  · exact absurd (h.mp h1) h2
  · exact absurd (h.mpr h2) h1
  · rw [e1, e2]
theorem fs_16 {P : Nat → Prop} {w N : Nat} (hN : N ≤ 16) : ∀ r, fs P w N 0 0 = some r → r < 2 ^ 31 := fun r h => by
  have h1 := fs_lt (v := 0) (by decide) h
  rw [Nat.zero_add] at h1
  have := cs_p16 hN
  omega
theorem sv_V {P : Nat → Prop} {w N : Nat} (hN : N ≤ 16) : rs (fs P w N 0 0) = -2 ↔ rs (fs P w N 0 0) < 0 := by
  rw [rs_neg (fs_16 hN), rs_lt0 (fs_16 hN)]
set_option maxHeartbeats 4000000 in
set_option maxRecDepth 100000 in
theorem law_wish {p : Program} {e : Env} {s : State} {m : MethodId} {below : List Frame} {meth : Method} {c0 : Code} (l : Launch) {b L : Nat} {xs : Nat → Int32} {Q : State → Prop} {A : Nat → Prop} {dC : Nat → ClassId} {dI : Nat → Nat → Nat} {ox a1 a2 a3 a4 : Nat} {c1 c2 c3 c4 : ClassId} {om b1 b2 b3 : Nat} {e1 e2 e3 : ClassId} {tt N i : Nat} {H : Heap} {locs : List Loc} {ls : Array Slot} (hL : L ≤ 1537) (hx : p.tables.exec = Jvm.exec) (hb : c0.code = cL_law) (hml : c0.maxLocals = 4) (hown : s.vm.findClass RL = some m.cls) (hts : ∀ w ∈ wsL_law, w.before #[Value.ref b] s = true) (hX : va_X b L xs s s.heap) (hbl : b < s.heap.size) (hbA : ¬ A b) (hA : ∀ q : Nat, s.heap.size ≤ q → A q) (hT : tW RX0 "TAILS_WITH" "[J" tt 6 twv A s s.heap) (hK : va_K (dC, dI) vwCl (xT c1 c2 c3 c4 ++ mT e1 e2 e3) s) (hN : N ≤ 16) (hi : i + 2 < L) (hI : lwI dC dI ox a1 a2 a3 a4 c1 c2 c3 c4 om b1 b2 b3 e1 e2 e3 N A s.heap H locs) (hl : lv_has ls 4 [(0, .ref b), (1, .ref ox), (2, .ref om), (3, .int (nI i))]) (kk : ∀ (H : Heap) (locs : List Loc) (ls : Array Slot), lwI dC dI ox a1 a2 a3 a4 c1 c2 c3 c4 om b1 b2 b3 e1 e2 e3 N A s.heap H locs → lv_has ls 4 [(0, .ref b), (1, .ref ox), (2, .ref om), (3, .int (nI i))] → W p l e room_1 s m #[Value.ref b] below meth c0 H locs 9 2435 Q (F0 m 304 ls [])) : W p l e room_1 s m #[Value.ref b] below meth c0 H locs 9 2435 Q (F0 m 88 ls []) := by
  obtain ⟨w, y, z, c, Y, Z, f1, f2, f3, f4, fo, kn, g1, g2, g3, ⟨hw, hy, hz, hc, hRX, hRM, hkn⟩, hP, hD, hS⟩ := hI
  rcases cs_ix (xs (i + 1)) (n := N) (by omega) with hv | ⟨j, hj, hv⟩
  · rcases Classical.em (xs (i + 2) = 0) with h2 | h2
    · refine lv_aload_n hx hb dL_law_88 rfl (lv_at hl 1 rfl) ?_
      refine lv_aload_n hx hb dL_law_89 rfl (lv_at hl 0 rfl) ?_
      refine lv_iload_n hx hb dL_law_90 rfl (lv_at hl 3 rfl) ?_
      refine lv_iconst (v := nI 1) hx hb dL_law_91 (by decide) ?_
      refine lv_iadd hx hb dL_law_92 ?_
      refine cs_top (y := nI (i + 1)) (nI_add i 1) ?_
      refine va_sld (i := nI (i + 1)) hx hb hX hbl hbA hS (vp_in_nI (by omega) (by omega)) dL_law_93 ?_
      refine cs_top (y := xs (i + 1)) (congrArg xs (nI_clamp (by omega))) ?_
      refine lv_aload_n hx hb dL_law_94 rfl (lv_at hl 0 rfl) ?_
      refine lv_iload_n hx hb dL_law_95 rfl (lv_at hl 3 rfl) ?_
      refine lv_iconst (v := nI 2) hx hb dL_law_96 (by decide) ?_
      refine lv_iadd hx hb dL_law_97 ?_
      refine cs_top (y := nI (i + 2)) (nI_add i 2) ?_
      refine va_sld (i := nI (i + 2)) hx hb hX hbl hbA hS (vp_in_nI (by omega) (by omega)) dL_law_98 ?_
      refine cs_top (y := xs (i + 2)) (congrArg xs (nI_clamp (by omega))) ?_
      refine lv_if_eq hx hb dL_law_99 (tgt := 106) (by decide) (fun _ => ?_) (fun hq => absurd (h2) hq)
      refine lv_iconst (v := nI 0) hx hb dL_law_106 (by decide) ?_
      refine cs_top (y := bI false) (rfl) ?_
      refine vp_callSi (W.runV (As := [.int (xs (i + 1)), .int (bI false)]) (rest := []) ⟨hx, hb, hml, hown, hts⟩ (c_wish_out l dC dI ox a1 a2 a3 a4 c1 c2 c3 c4 N (N - 6) w y z c f1 f2 f3 f4 hv _) (cwV 2 hts gL_law_X0_wish rfl rfl rfl (by decide +kernel) ⟨by decide +kernel, by decide +kernel⟩) (rW_preV (hP.sub (ws' := (xC ox a1 a2 a3 a4 c1 c2 c3 c4 (nI N) (nI (N - 6)) (nI w) (nI y) (nI z) (nI c) f1 f2 f3 f4)) [0, 1, 2, 3, 4] rfl) (hK.sub (tys' := xT c1 c2 c3 c4) [0, 1, 2, 3] rfl) (va_recv (q := (RX0, TX0, 10)) (q0 := 0) hK hP rfl rfl)) rfl rfl hl.1 rfl (lv_room (Nat.le_of_ble_eq_true rfl)) dL_law_107 ⟨by decide +kernel, by decide +kernel⟩) (fun r0 hr0 => ?_)
      subst hr0
      refine lv_aload_n hx hb dL_law_110 rfl (lv_at hl 2 rfl) ?_
      refine lv_aload_n hx hb dL_law_111 rfl (lv_at hl 0 rfl) ?_
      refine lv_iload_n hx hb dL_law_112 rfl (lv_at hl 3 rfl) ?_
      refine lv_iconst (v := nI 1) hx hb dL_law_113 (by decide) ?_
      refine lv_iadd hx hb dL_law_114 ?_
      refine cs_top (y := nI (i + 1)) (nI_add i 1) ?_
      refine va_sld (i := nI (i + 1)) hx hb hX hbl hbA hS (vp_in_nI (by omega) (by omega)) dL_law_115 ?_
      refine cs_top (y := xs (i + 1)) (congrArg xs (nI_clamp (by omega))) ?_
      refine lv_aload_n hx hb dL_law_116 rfl (lv_at hl 0 rfl) ?_
      refine lv_iload_n hx hb dL_law_117 rfl (lv_at hl 3 rfl) ?_
      refine lv_iconst (v := nI 2) hx hb dL_law_118 (by decide) ?_
      refine lv_iadd hx hb dL_law_119 ?_
      refine cs_top (y := nI (i + 2)) (nI_add i 2) ?_
      refine va_sld (i := nI (i + 2)) hx hb hX hbl hbA hS (vp_in_nI (by omega) (by omega)) dL_law_120 ?_
      refine cs_top (y := xs (i + 2)) (congrArg xs (nI_clamp (by omega))) ?_
      refine lv_if_eq hx hb dL_law_121 (tgt := 128) (by decide) (fun _ => ?_) (fun hq => absurd (h2) hq)
      refine lv_iconst (v := nI 0) hx hb dL_law_128 (by decide) ?_
      refine cs_top (y := bI false) (rfl) ?_
      refine vp_callSi (W.runV (As := [.int (xs (i + 1)), .int (bI false)]) (rest := [.int (nI 0)]) ⟨hx, hb, hml, hown, hts⟩ (m_wish_out l dC dI om b1 b2 b3 e1 e2 e3 N c y z fo kn g1 g2 g3 hv _) (cwV 2 hts gL_law_X1_wish rfl rfl rfl (by decide +kernel) ⟨by decide +kernel, by decide +kernel⟩) (rW_preV (hP.sub (ws' := (mC om b1 b2 b3 e1 e2 e3 (nI N) (nI c) (nI y) (nI z) fo kn g1 g2 g3)) [5, 6, 7, 8] rfl) (hK.sub (tys' := mT e1 e2 e3) [4, 5, 6] rfl) (va_recv (q := (RX1, TX1, 9)) (q0 := 5) hK hP rfl rfl)) rfl rfl hl.1 rfl (lv_room (Nat.le_of_ble_eq_true rfl)) dL_law_129 ⟨by decide +kernel, by decide +kernel⟩) (fun r0 hr0 => ?_)
      subst hr0
      refine lv_icmp_eq hx hb dL_law_132 (tgt := 304) (by decide) (fun _ => ?_) (fun hq => absurd (rfl) hq)
      exact kk H locs ls ⟨w, y, z, c, Y, Z, f1, f2, f3, f4, fo, kn, g1, g2, g3, ⟨hw, hy, hz, hc, hRX, hRM, hkn⟩, hP, hD, hS⟩ hl
    · refine lv_aload_n hx hb dL_law_88 rfl (lv_at hl 1 rfl) ?_
      refine lv_aload_n hx hb dL_law_89 rfl (lv_at hl 0 rfl) ?_
      refine lv_iload_n hx hb dL_law_90 rfl (lv_at hl 3 rfl) ?_
      refine lv_iconst (v := nI 1) hx hb dL_law_91 (by decide) ?_
      refine lv_iadd hx hb dL_law_92 ?_
      refine cs_top (y := nI (i + 1)) (nI_add i 1) ?_
      refine va_sld (i := nI (i + 1)) hx hb hX hbl hbA hS (vp_in_nI (by omega) (by omega)) dL_law_93 ?_
      refine cs_top (y := xs (i + 1)) (congrArg xs (nI_clamp (by omega))) ?_
      refine lv_aload_n hx hb dL_law_94 rfl (lv_at hl 0 rfl) ?_
      refine lv_iload_n hx hb dL_law_95 rfl (lv_at hl 3 rfl) ?_
      refine lv_iconst (v := nI 2) hx hb dL_law_96 (by decide) ?_
      refine lv_iadd hx hb dL_law_97 ?_
      refine cs_top (y := nI (i + 2)) (nI_add i 2) ?_
      refine va_sld (i := nI (i + 2)) hx hb hX hbl hbA hS (vp_in_nI (by omega) (by omega)) dL_law_98 ?_
      refine cs_top (y := xs (i + 2)) (congrArg xs (nI_clamp (by omega))) ?_
      refine lv_if_eq hx hb dL_law_99 (tgt := 106) (by decide) (fun hq => absurd hq (h2)) (fun _ => ?_)
      refine lv_iconst (v := nI 1) hx hb dL_law_102 (by decide) ?_
      refine lv_goto hx hb dL_law_103 (tgt := 107) (by decide) ?_
      refine cs_top (y := bI true) (rfl) ?_
      refine vp_callSi (W.runV (As := [.int (xs (i + 1)), .int (bI true)]) (rest := []) ⟨hx, hb, hml, hown, hts⟩ (c_wish_out l dC dI ox a1 a2 a3 a4 c1 c2 c3 c4 N (N - 6) w y z c f1 f2 f3 f4 hv _) (cwV 2 hts gL_law_X0_wish rfl rfl rfl (by decide +kernel) ⟨by decide +kernel, by decide +kernel⟩) (rW_preV (hP.sub (ws' := (xC ox a1 a2 a3 a4 c1 c2 c3 c4 (nI N) (nI (N - 6)) (nI w) (nI y) (nI z) (nI c) f1 f2 f3 f4)) [0, 1, 2, 3, 4] rfl) (hK.sub (tys' := xT c1 c2 c3 c4) [0, 1, 2, 3] rfl) (va_recv (q := (RX0, TX0, 10)) (q0 := 0) hK hP rfl rfl)) rfl rfl hl.1 rfl (lv_room (Nat.le_of_ble_eq_true rfl)) dL_law_107 ⟨by decide +kernel, by decide +kernel⟩) (fun r0 hr0 => ?_)
      subst hr0
      refine lv_aload_n hx hb dL_law_110 rfl (lv_at hl 2 rfl) ?_
      refine lv_aload_n hx hb dL_law_111 rfl (lv_at hl 0 rfl) ?_
      refine lv_iload_n hx hb dL_law_112 rfl (lv_at hl 3 rfl) ?_
      refine lv_iconst (v := nI 1) hx hb dL_law_113 (by decide) ?_
      refine lv_iadd hx hb dL_law_114 ?_
      refine cs_top (y := nI (i + 1)) (nI_add i 1) ?_
      refine va_sld (i := nI (i + 1)) hx hb hX hbl hbA hS (vp_in_nI (by omega) (by omega)) dL_law_115 ?_
      refine cs_top (y := xs (i + 1)) (congrArg xs (nI_clamp (by omega))) ?_
      refine lv_aload_n hx hb dL_law_116 rfl (lv_at hl 0 rfl) ?_
      refine lv_iload_n hx hb dL_law_117 rfl (lv_at hl 3 rfl) ?_
      refine lv_iconst (v := nI 2) hx hb dL_law_118 (by decide) ?_
      refine lv_iadd hx hb dL_law_119 ?_
      refine cs_top (y := nI (i + 2)) (nI_add i 2) ?_
      refine va_sld (i := nI (i + 2)) hx hb hX hbl hbA hS (vp_in_nI (by omega) (by omega)) dL_law_120 ?_
      refine cs_top (y := xs (i + 2)) (congrArg xs (nI_clamp (by omega))) ?_
      refine lv_if_eq hx hb dL_law_121 (tgt := 128) (by decide) (fun hq => absurd hq (h2)) (fun _ => ?_)
      refine lv_iconst (v := nI 1) hx hb dL_law_124 (by decide) ?_
      refine lv_goto hx hb dL_law_125 (tgt := 129) (by decide) ?_
      refine cs_top (y := bI true) (rfl) ?_
      refine vp_callSi (W.runV (As := [.int (xs (i + 1)), .int (bI true)]) (rest := [.int (nI 0)]) ⟨hx, hb, hml, hown, hts⟩ (m_wish_out l dC dI om b1 b2 b3 e1 e2 e3 N c y z fo kn g1 g2 g3 hv _) (cwV 2 hts gL_law_X1_wish rfl rfl rfl (by decide +kernel) ⟨by decide +kernel, by decide +kernel⟩) (rW_preV (hP.sub (ws' := (mC om b1 b2 b3 e1 e2 e3 (nI N) (nI c) (nI y) (nI z) fo kn g1 g2 g3)) [5, 6, 7, 8] rfl) (hK.sub (tys' := mT e1 e2 e3) [4, 5, 6] rfl) (va_recv (q := (RX1, TX1, 9)) (q0 := 5) hK hP rfl rfl)) rfl rfl hl.1 rfl (lv_room (Nat.le_of_ble_eq_true rfl)) dL_law_129 ⟨by decide +kernel, by decide +kernel⟩) (fun r0 hr0 => ?_)
      subst hr0
      refine lv_icmp_eq hx hb dL_law_132 (tgt := 304) (by decide) (fun _ => ?_) (fun hq => absurd (rfl) hq)
      exact kk H locs ls ⟨w, y, z, c, Y, Z, f1, f2, f3, f4, fo, kn, g1, g2, g3, ⟨hw, hy, hz, hc, hRX, hRM, hkn⟩, hP, hD, hS⟩ hl
  · rcases Classical.em (xs (i + 2) = 0) with h2 | h2
    · refine lv_aload_n hx hb dL_law_88 rfl (lv_at hl 1 rfl) ?_
      refine lv_aload_n hx hb dL_law_89 rfl (lv_at hl 0 rfl) ?_
      refine lv_iload_n hx hb dL_law_90 rfl (lv_at hl 3 rfl) ?_
      refine lv_iconst (v := nI 1) hx hb dL_law_91 (by decide) ?_
      refine lv_iadd hx hb dL_law_92 ?_
      refine cs_top (y := nI (i + 1)) (nI_add i 1) ?_
      refine va_sld (i := nI (i + 1)) hx hb hX hbl hbA hS (vp_in_nI (by omega) (by omega)) dL_law_93 ?_
      refine cs_top (y := xs (i + 1)) (congrArg xs (nI_clamp (by omega))) ?_
      refine cs_top (y := nI j) (hv) ?_
      refine lv_aload_n hx hb dL_law_94 rfl (lv_at hl 0 rfl) ?_
      refine lv_iload_n hx hb dL_law_95 rfl (lv_at hl 3 rfl) ?_
      refine lv_iconst (v := nI 2) hx hb dL_law_96 (by decide) ?_
      refine lv_iadd hx hb dL_law_97 ?_
      refine cs_top (y := nI (i + 2)) (nI_add i 2) ?_
      refine va_sld (i := nI (i + 2)) hx hb hX hbl hbA hS (vp_in_nI (by omega) (by omega)) dL_law_98 ?_
      refine cs_top (y := xs (i + 2)) (congrArg xs (nI_clamp (by omega))) ?_
      refine lv_if_eq hx hb dL_law_99 (tgt := 106) (by decide) (fun _ => ?_) (fun hq => absurd (h2) hq)
      refine lv_iconst (v := nI 0) hx hb dL_law_106 (by decide) ?_
      refine cs_top (y := bI false) (rfl) ?_
      refine cs_calli (wc := (xC ox a1 a2 a3 a4 c1 c2 c3 c4 (nI N) (nI (N - 6)) (nI w) (nI y) (nI z) (nI c) f1 f2 f3 f4)) (wr := (mC om b1 b2 b3 e1 e2 e3 (nI N) (nI c) (nI y) (nI z) fo kn g1 g2 g3)) (va_runV (As := [.int (nI j), .int (bI false)]) (rest := []) ⟨hx, hb, hml, hown, hts⟩ (c_wish l H.size dC dI ox a1 a2 a3 a4 c1 c2 c3 c4 N (N - 6) w y z c f1 f2 f3 f4 hN hw hj false) (cwV 2 hts gL_law_X0_wish rfl rfl rfl (by decide +kernel) ⟨by decide +kernel, by decide +kernel⟩) (wW_preV (hP.sub (ws' := (xC ox a1 a2 a3 a4 c1 c2 c3 c4 (nI N) (nI (N - 6)) (nI w) (nI y) (nI z) (nI c) f1 f2 f3 f4)) [0, 1, 2, 3, 4] rfl) (hK.sub (tys' := xT c1 c2 c3 c4) [0, 1, 2, 3] rfl) (hD.sub (ws' := (xC ox a1 a2 a3 a4 c1 c2 c3 c4 (nI N) (nI (N - 6)) (nI w) (nI y) (nI z) (nI c) f1 f2 f3 f4)) [0, 1, 2, 3, 4] (by decide) rfl) (va_recv (q := (RX0, TX0, 10)) (q0 := 0) hK hP rfl rfl)) rfl rfl hl.1 rfl (lv_room (Nat.le_of_ble_eq_true rfl)) dL_law_107 ⟨by decide +kernel, by decide +kernel⟩) hS hA hP hD [0, 1, 2, 3, 4] [5, 6, 7, 8] rfl rfl (by decide) (by decide) (fun r0 u H locs hr0 hP hD hS => ?_)
      have hP : va_P (dC, dI) vwCl ((mC om b1 b2 b3 e1 e2 e3 (nI N) (nI c) (nI y) (nI z) fo kn g1 g2 g3) ++ (xC ox a1 a2 a3 a4 c1 c2 c3 c4 (nI N) (nI (N - 6)) (nI (wsh w j false)) (nI y) (nI z) (nI c) f1 f2 f3 f4)) H := hP
      have hD : va_D A ((mC om b1 b2 b3 e1 e2 e3 (nI N) (nI c) (nI y) (nI z) fo kn g1 g2 g3) ++ (xC ox a1 a2 a3 a4 c1 c2 c3 c4 (nI N) (nI (N - 6)) (nI (wsh w j false)) (nI y) (nI z) (nI c) f1 f2 f3 f4)) := hD
      subst hr0
      refine lv_aload_n hx hb dL_law_110 rfl (lv_at hl 2 rfl) ?_
      refine lv_aload_n hx hb dL_law_111 rfl (lv_at hl 0 rfl) ?_
      refine lv_iload_n hx hb dL_law_112 rfl (lv_at hl 3 rfl) ?_
      refine lv_iconst (v := nI 1) hx hb dL_law_113 (by decide) ?_
      refine lv_iadd hx hb dL_law_114 ?_
      refine cs_top (y := nI (i + 1)) (nI_add i 1) ?_
      refine va_sld (i := nI (i + 1)) hx hb hX hbl hbA hS (vp_in_nI (by omega) (by omega)) dL_law_115 ?_
      refine cs_top (y := xs (i + 1)) (congrArg xs (nI_clamp (by omega))) ?_
      refine cs_top (y := nI j) (hv) ?_
      refine lv_aload_n hx hb dL_law_116 rfl (lv_at hl 0 rfl) ?_
      refine lv_iload_n hx hb dL_law_117 rfl (lv_at hl 3 rfl) ?_
      refine lv_iconst (v := nI 2) hx hb dL_law_118 (by decide) ?_
      refine lv_iadd hx hb dL_law_119 ?_
      refine cs_top (y := nI (i + 2)) (nI_add i 2) ?_
      refine va_sld (i := nI (i + 2)) hx hb hX hbl hbA hS (vp_in_nI (by omega) (by omega)) dL_law_120 ?_
      refine cs_top (y := xs (i + 2)) (congrArg xs (nI_clamp (by omega))) ?_
      refine lv_if_eq hx hb dL_law_121 (tgt := 128) (by decide) (fun _ => ?_) (fun hq => absurd (h2) hq)
      refine lv_iconst (v := nI 0) hx hb dL_law_128 (by decide) ?_
      refine cs_top (y := bI false) (rfl) ?_
      refine cs_calli (wc := (mC om b1 b2 b3 e1 e2 e3 (nI N) (nI c) (nI y) (nI z) fo kn g1 g2 g3)) (wr := (xC ox a1 a2 a3 a4 c1 c2 c3 c4 (nI N) (nI (N - 6)) (nI (wsh w j false)) (nI y) (nI z) (nI c) f1 f2 f3 f4)) (va_runV (As := [.int (nI j), .int (bI false)]) (rest := [.int (bI (w.testBit j))]) ⟨hx, hb, hml, hown, hts⟩ (m_wish l H.size dC dI om b1 b2 b3 e1 e2 e3 N c y z fo kn g1 g2 g3 hN hj (hRM.1 j hj) false) (cwV 2 hts gL_law_X1_wish rfl rfl rfl (by decide +kernel) ⟨by decide +kernel, by decide +kernel⟩) (wW_preV (hP.sub (ws' := (mC om b1 b2 b3 e1 e2 e3 (nI N) (nI c) (nI y) (nI z) fo kn g1 g2 g3)) [0, 1, 2, 3] rfl) (hK.sub (tys' := mT e1 e2 e3) [4, 5, 6] rfl) (hD.sub (ws' := (mC om b1 b2 b3 e1 e2 e3 (nI N) (nI c) (nI y) (nI z) fo kn g1 g2 g3)) [0, 1, 2, 3] (by decide) rfl) (va_recv (q := (RX1, TX1, 9)) (q0 := 0) hK hP rfl rfl)) rfl rfl hl.1 rfl (lv_room (Nat.le_of_ble_eq_true rfl)) dL_law_129 ⟨by decide +kernel, by decide +kernel⟩) hS hA hP hD [0, 1, 2, 3] [4, 5, 6, 7, 8] rfl rfl (by decide) (by decide) (fun r0 u H locs hr0 hP hD hS => ?_)
      have hP : va_P (dC, dI) vwCl ((xC ox a1 a2 a3 a4 c1 c2 c3 c4 (nI N) (nI (N - 6)) (nI (wsh w j false)) (nI y) (nI z) (nI c) f1 f2 f3 f4) ++ (mC om b1 b2 b3 e1 e2 e3 (nI N) (nI c) (nI y) (nI z) fo (nI 0) (upd g1 j (bI false)) g2 g3)) H := hP
      have hD : va_D A ((xC ox a1 a2 a3 a4 c1 c2 c3 c4 (nI N) (nI (N - 6)) (nI (wsh w j false)) (nI y) (nI z) (nI c) f1 f2 f3 f4) ++ (mC om b1 b2 b3 e1 e2 e3 (nI N) (nI c) (nI y) (nI z) fo (nI 0) (upd g1 j (bI false)) g2 g3)) := hD
      subst hr0
      refine lv_icmp_eq hx hb dL_law_132 (tgt := 304) (by decide) (fun _ => ?_) (fun hq => absurd (rfl) hq)
      exact kk H locs ls ⟨wsh w j false, y, z, c, Y, Z, f1, f2, f3, f4, fo, nI 0, upd g1 j (bI false), g2, g3, ⟨wsh_lt hw hj false, hy, hz, hc, hRX, RM_wish hN hRM false, Or.inl rfl⟩, hP, hD, hS⟩ hl
    · refine lv_aload_n hx hb dL_law_88 rfl (lv_at hl 1 rfl) ?_
      refine lv_aload_n hx hb dL_law_89 rfl (lv_at hl 0 rfl) ?_
      refine lv_iload_n hx hb dL_law_90 rfl (lv_at hl 3 rfl) ?_
      refine lv_iconst (v := nI 1) hx hb dL_law_91 (by decide) ?_
      refine lv_iadd hx hb dL_law_92 ?_
      refine cs_top (y := nI (i + 1)) (nI_add i 1) ?_
      refine va_sld (i := nI (i + 1)) hx hb hX hbl hbA hS (vp_in_nI (by omega) (by omega)) dL_law_93 ?_
      refine cs_top (y := xs (i + 1)) (congrArg xs (nI_clamp (by omega))) ?_
      refine cs_top (y := nI j) (hv) ?_
      refine lv_aload_n hx hb dL_law_94 rfl (lv_at hl 0 rfl) ?_
      refine lv_iload_n hx hb dL_law_95 rfl (lv_at hl 3 rfl) ?_
      refine lv_iconst (v := nI 2) hx hb dL_law_96 (by decide) ?_
      refine lv_iadd hx hb dL_law_97 ?_
      refine cs_top (y := nI (i + 2)) (nI_add i 2) ?_
      refine va_sld (i := nI (i + 2)) hx hb hX hbl hbA hS (vp_in_nI (by omega) (by omega)) dL_law_98 ?_
      refine cs_top (y := xs (i + 2)) (congrArg xs (nI_clamp (by omega))) ?_
      refine lv_if_eq hx hb dL_law_99 (tgt := 106) (by decide) (fun hq => absurd hq (h2)) (fun _ => ?_)
      refine lv_iconst (v := nI 1) hx hb dL_law_102 (by decide) ?_
      refine lv_goto hx hb dL_law_103 (tgt := 107) (by decide) ?_
      refine cs_top (y := bI true) (rfl) ?_
      refine cs_calli (wc := (xC ox a1 a2 a3 a4 c1 c2 c3 c4 (nI N) (nI (N - 6)) (nI w) (nI y) (nI z) (nI c) f1 f2 f3 f4)) (wr := (mC om b1 b2 b3 e1 e2 e3 (nI N) (nI c) (nI y) (nI z) fo kn g1 g2 g3)) (va_runV (As := [.int (nI j), .int (bI true)]) (rest := []) ⟨hx, hb, hml, hown, hts⟩ (c_wish l H.size dC dI ox a1 a2 a3 a4 c1 c2 c3 c4 N (N - 6) w y z c f1 f2 f3 f4 hN hw hj true) (cwV 2 hts gL_law_X0_wish rfl rfl rfl (by decide +kernel) ⟨by decide +kernel, by decide +kernel⟩) (wW_preV (hP.sub (ws' := (xC ox a1 a2 a3 a4 c1 c2 c3 c4 (nI N) (nI (N - 6)) (nI w) (nI y) (nI z) (nI c) f1 f2 f3 f4)) [0, 1, 2, 3, 4] rfl) (hK.sub (tys' := xT c1 c2 c3 c4) [0, 1, 2, 3] rfl) (hD.sub (ws' := (xC ox a1 a2 a3 a4 c1 c2 c3 c4 (nI N) (nI (N - 6)) (nI w) (nI y) (nI z) (nI c) f1 f2 f3 f4)) [0, 1, 2, 3, 4] (by decide) rfl) (va_recv (q := (RX0, TX0, 10)) (q0 := 0) hK hP rfl rfl)) rfl rfl hl.1 rfl (lv_room (Nat.le_of_ble_eq_true rfl)) dL_law_107 ⟨by decide +kernel, by decide +kernel⟩) hS hA hP hD [0, 1, 2, 3, 4] [5, 6, 7, 8] rfl rfl (by decide) (by decide) (fun r0 u H locs hr0 hP hD hS => ?_)
      have hP : va_P (dC, dI) vwCl ((mC om b1 b2 b3 e1 e2 e3 (nI N) (nI c) (nI y) (nI z) fo kn g1 g2 g3) ++ (xC ox a1 a2 a3 a4 c1 c2 c3 c4 (nI N) (nI (N - 6)) (nI (wsh w j true)) (nI y) (nI z) (nI c) f1 f2 f3 f4)) H := hP
      have hD : va_D A ((mC om b1 b2 b3 e1 e2 e3 (nI N) (nI c) (nI y) (nI z) fo kn g1 g2 g3) ++ (xC ox a1 a2 a3 a4 c1 c2 c3 c4 (nI N) (nI (N - 6)) (nI (wsh w j true)) (nI y) (nI z) (nI c) f1 f2 f3 f4)) := hD
      subst hr0
      refine lv_aload_n hx hb dL_law_110 rfl (lv_at hl 2 rfl) ?_
      refine lv_aload_n hx hb dL_law_111 rfl (lv_at hl 0 rfl) ?_
      refine lv_iload_n hx hb dL_law_112 rfl (lv_at hl 3 rfl) ?_
      refine lv_iconst (v := nI 1) hx hb dL_law_113 (by decide) ?_
      refine lv_iadd hx hb dL_law_114 ?_
      refine cs_top (y := nI (i + 1)) (nI_add i 1) ?_
      refine va_sld (i := nI (i + 1)) hx hb hX hbl hbA hS (vp_in_nI (by omega) (by omega)) dL_law_115 ?_
      refine cs_top (y := xs (i + 1)) (congrArg xs (nI_clamp (by omega))) ?_
      refine cs_top (y := nI j) (hv) ?_
      refine lv_aload_n hx hb dL_law_116 rfl (lv_at hl 0 rfl) ?_
      refine lv_iload_n hx hb dL_law_117 rfl (lv_at hl 3 rfl) ?_
      refine lv_iconst (v := nI 2) hx hb dL_law_118 (by decide) ?_
      refine lv_iadd hx hb dL_law_119 ?_
      refine cs_top (y := nI (i + 2)) (nI_add i 2) ?_
      refine va_sld (i := nI (i + 2)) hx hb hX hbl hbA hS (vp_in_nI (by omega) (by omega)) dL_law_120 ?_
      refine cs_top (y := xs (i + 2)) (congrArg xs (nI_clamp (by omega))) ?_
      refine lv_if_eq hx hb dL_law_121 (tgt := 128) (by decide) (fun hq => absurd hq (h2)) (fun _ => ?_)
      refine lv_iconst (v := nI 1) hx hb dL_law_124 (by decide) ?_
      refine lv_goto hx hb dL_law_125 (tgt := 129) (by decide) ?_
      refine cs_top (y := bI true) (rfl) ?_
      refine cs_calli (wc := (mC om b1 b2 b3 e1 e2 e3 (nI N) (nI c) (nI y) (nI z) fo kn g1 g2 g3)) (wr := (xC ox a1 a2 a3 a4 c1 c2 c3 c4 (nI N) (nI (N - 6)) (nI (wsh w j true)) (nI y) (nI z) (nI c) f1 f2 f3 f4)) (va_runV (As := [.int (nI j), .int (bI true)]) (rest := [.int (bI (w.testBit j))]) ⟨hx, hb, hml, hown, hts⟩ (m_wish l H.size dC dI om b1 b2 b3 e1 e2 e3 N c y z fo kn g1 g2 g3 hN hj (hRM.1 j hj) true) (cwV 2 hts gL_law_X1_wish rfl rfl rfl (by decide +kernel) ⟨by decide +kernel, by decide +kernel⟩) (wW_preV (hP.sub (ws' := (mC om b1 b2 b3 e1 e2 e3 (nI N) (nI c) (nI y) (nI z) fo kn g1 g2 g3)) [0, 1, 2, 3] rfl) (hK.sub (tys' := mT e1 e2 e3) [4, 5, 6] rfl) (hD.sub (ws' := (mC om b1 b2 b3 e1 e2 e3 (nI N) (nI c) (nI y) (nI z) fo kn g1 g2 g3)) [0, 1, 2, 3] (by decide) rfl) (va_recv (q := (RX1, TX1, 9)) (q0 := 0) hK hP rfl rfl)) rfl rfl hl.1 rfl (lv_room (Nat.le_of_ble_eq_true rfl)) dL_law_129 ⟨by decide +kernel, by decide +kernel⟩) hS hA hP hD [0, 1, 2, 3] [4, 5, 6, 7, 8] rfl rfl (by decide) (by decide) (fun r0 u H locs hr0 hP hD hS => ?_)
      have hP : va_P (dC, dI) vwCl ((xC ox a1 a2 a3 a4 c1 c2 c3 c4 (nI N) (nI (N - 6)) (nI (wsh w j true)) (nI y) (nI z) (nI c) f1 f2 f3 f4) ++ (mC om b1 b2 b3 e1 e2 e3 (nI N) (nI c) (nI y) (nI z) fo (nI 0) (upd g1 j (bI true)) g2 g3)) H := hP
      have hD : va_D A ((xC ox a1 a2 a3 a4 c1 c2 c3 c4 (nI N) (nI (N - 6)) (nI (wsh w j true)) (nI y) (nI z) (nI c) f1 f2 f3 f4) ++ (mC om b1 b2 b3 e1 e2 e3 (nI N) (nI c) (nI y) (nI z) fo (nI 0) (upd g1 j (bI true)) g2 g3)) := hD
      subst hr0
      refine lv_icmp_eq hx hb dL_law_132 (tgt := 304) (by decide) (fun _ => ?_) (fun hq => absurd (rfl) hq)
      exact kk H locs ls ⟨wsh w j true, y, z, c, Y, Z, f1, f2, f3, f4, fo, nI 0, upd g1 j (bI true), g2, g3, ⟨wsh_lt hw hj true, hy, hz, hc, hRX, RM_wish hN hRM true, Or.inl rfl⟩, hP, hD, hS⟩ hl
set_option maxHeartbeats 4000000 in
set_option maxRecDepth 100000 in
theorem law_literal {p : Program} {e : Env} {s : State} {m : MethodId} {below : List Frame} {meth : Method} {c0 : Code} (l : Launch) {b L : Nat} {xs : Nat → Int32} {Q : State → Prop} {A : Nat → Prop} {dC : Nat → ClassId} {dI : Nat → Nat → Nat} {ox a1 a2 a3 a4 : Nat} {c1 c2 c3 c4 : ClassId} {om b1 b2 b3 : Nat} {e1 e2 e3 : ClassId} {tt N i : Nat} {H : Heap} {locs : List Loc} {ls : Array Slot} (hL : L ≤ 1537) (hx : p.tables.exec = Jvm.exec) (hb : c0.code = cL_law) (hml : c0.maxLocals = 4) (hown : s.vm.findClass RL = some m.cls) (hts : ∀ w ∈ wsL_law, w.before #[Value.ref b] s = true) (hX : va_X b L xs s s.heap) (hbl : b < s.heap.size) (hbA : ¬ A b) (hA : ∀ q : Nat, s.heap.size ≤ q → A q) (hT : tW RX0 "TAILS_WITH" "[J" tt 6 twv A s s.heap) (hK : va_K (dC, dI) vwCl (xT c1 c2 c3 c4 ++ mT e1 e2 e3) s) (hN : N ≤ 16) (hi : i + 2 < L) (hI : lwI dC dI ox a1 a2 a3 a4 c1 c2 c3 c4 om b1 b2 b3 e1 e2 e3 N A s.heap H locs) (hl : lv_has ls 4 [(0, .ref b), (1, .ref ox), (2, .ref om), (3, .int (nI i))]) (kk : ∀ (H : Heap) (locs : List Loc) (ls : Array Slot), lwI dC dI ox a1 a2 a3 a4 c1 c2 c3 c4 om b1 b2 b3 e1 e2 e3 N A s.heap H locs → lv_has ls 4 [(0, .ref b), (1, .ref ox), (2, .ref om), (3, .int (nI i))] → W p l e room_1 s m #[Value.ref b] below meth c0 H locs 9 2435 Q (F0 m 304 ls [])) : W p l e room_1 s m #[Value.ref b] below meth c0 H locs 9 2435 Q (F0 m 137 ls []) := by
  obtain ⟨w, y, z, c, Y, Z, f1, f2, f3, f4, fo, kn, g1, g2, g3, ⟨hw, hy, hz, hc, hRX, hRM, hkn⟩, hP, hD, hS⟩ := hI
  rcases cs_ix (xs (i + 1)) (n := N) (by omega) with hv | ⟨j, hj, hv⟩
  · rcases Classical.em (xs (i + 2) = 0) with h2 | h2
    · refine lv_aload_n hx hb dL_law_137 rfl (lv_at hl 1 rfl) ?_
      refine lv_aload_n hx hb dL_law_138 rfl (lv_at hl 0 rfl) ?_
      refine lv_iload_n hx hb dL_law_139 rfl (lv_at hl 3 rfl) ?_
      refine lv_iconst (v := nI 1) hx hb dL_law_140 (by decide) ?_
      refine lv_iadd hx hb dL_law_141 ?_
      refine cs_top (y := nI (i + 1)) (nI_add i 1) ?_
      refine va_sld (i := nI (i + 1)) hx hb hX hbl hbA hS (vp_in_nI (by omega) (by omega)) dL_law_142 ?_
      refine cs_top (y := xs (i + 1)) (congrArg xs (nI_clamp (by omega))) ?_
      refine lv_aload_n hx hb dL_law_143 rfl (lv_at hl 0 rfl) ?_
      refine lv_iload_n hx hb dL_law_144 rfl (lv_at hl 3 rfl) ?_
      refine lv_iconst (v := nI 2) hx hb dL_law_145 (by decide) ?_
      refine lv_iadd hx hb dL_law_146 ?_
      refine cs_top (y := nI (i + 2)) (nI_add i 2) ?_
      refine va_sld (i := nI (i + 2)) hx hb hX hbl hbA hS (vp_in_nI (by omega) (by omega)) dL_law_147 ?_
      refine cs_top (y := xs (i + 2)) (congrArg xs (nI_clamp (by omega))) ?_
      refine lv_if_eq hx hb dL_law_148 (tgt := 155) (by decide) (fun _ => ?_) (fun hq => absurd (h2) hq)
      refine lv_iconst (v := nI 0) hx hb dL_law_155 (by decide) ?_
      refine cs_top (y := bI false) (rfl) ?_
      refine vp_callSi (W.runV (As := [.int (xs (i + 1)), .int (bI false)]) (rest := []) ⟨hx, hb, hml, hown, hts⟩ (c_literal_out l dC dI ox a1 a2 a3 a4 c1 c2 c3 c4 N (N - 6) w y z c f1 f2 f3 f4 hv _) (cwV 2 hts gL_law_X0_literal rfl rfl rfl (by decide +kernel) ⟨by decide +kernel, by decide +kernel⟩) (rW_preV (hP.sub (ws' := (xC ox a1 a2 a3 a4 c1 c2 c3 c4 (nI N) (nI (N - 6)) (nI w) (nI y) (nI z) (nI c) f1 f2 f3 f4)) [0, 1, 2, 3, 4] rfl) (hK.sub (tys' := xT c1 c2 c3 c4) [0, 1, 2, 3] rfl) (va_recv (q := (RX0, TX0, 10)) (q0 := 0) hK hP rfl rfl)) rfl rfl hl.1 rfl (lv_room (Nat.le_of_ble_eq_true rfl)) dL_law_156 ⟨by decide +kernel, by decide +kernel⟩) (fun r0 hr0 => ?_)
      subst hr0
      refine lv_aload_n hx hb dL_law_159 rfl (lv_at hl 2 rfl) ?_
      refine lv_aload_n hx hb dL_law_160 rfl (lv_at hl 0 rfl) ?_
      refine lv_iload_n hx hb dL_law_161 rfl (lv_at hl 3 rfl) ?_
      refine lv_iconst (v := nI 1) hx hb dL_law_162 (by decide) ?_
      refine lv_iadd hx hb dL_law_163 ?_
      refine cs_top (y := nI (i + 1)) (nI_add i 1) ?_
      refine va_sld (i := nI (i + 1)) hx hb hX hbl hbA hS (vp_in_nI (by omega) (by omega)) dL_law_164 ?_
      refine cs_top (y := xs (i + 1)) (congrArg xs (nI_clamp (by omega))) ?_
      refine lv_aload_n hx hb dL_law_165 rfl (lv_at hl 0 rfl) ?_
      refine lv_iload_n hx hb dL_law_166 rfl (lv_at hl 3 rfl) ?_
      refine lv_iconst (v := nI 2) hx hb dL_law_167 (by decide) ?_
      refine lv_iadd hx hb dL_law_168 ?_
      refine cs_top (y := nI (i + 2)) (nI_add i 2) ?_
      refine va_sld (i := nI (i + 2)) hx hb hX hbl hbA hS (vp_in_nI (by omega) (by omega)) dL_law_169 ?_
      refine cs_top (y := xs (i + 2)) (congrArg xs (nI_clamp (by omega))) ?_
      refine lv_if_eq hx hb dL_law_170 (tgt := 177) (by decide) (fun _ => ?_) (fun hq => absurd (h2) hq)
      refine lv_iconst (v := nI 0) hx hb dL_law_177 (by decide) ?_
      refine cs_top (y := bI false) (rfl) ?_
      refine vp_callSi (W.runV (As := [.int (xs (i + 1)), .int (bI false)]) (rest := [.int (-1)]) ⟨hx, hb, hml, hown, hts⟩ (m_literal_out l dC dI om b1 b2 b3 e1 e2 e3 N c y z fo kn g1 g2 g3 hv _) (cwV 2 hts gL_law_X1_literal rfl rfl rfl (by decide +kernel) ⟨by decide +kernel, by decide +kernel⟩) (rW_preV (hP.sub (ws' := (mC om b1 b2 b3 e1 e2 e3 (nI N) (nI c) (nI y) (nI z) fo kn g1 g2 g3)) [5, 6, 7, 8] rfl) (hK.sub (tys' := mT e1 e2 e3) [4, 5, 6] rfl) (va_recv (q := (RX1, TX1, 9)) (q0 := 5) hK hP rfl rfl)) rfl rfl hl.1 rfl (lv_room (Nat.le_of_ble_eq_true rfl)) dL_law_178 ⟨by decide +kernel, by decide +kernel⟩) (fun r0 hr0 => ?_)
      subst hr0
      refine lv_icmp_eq hx hb dL_law_181 (tgt := 304) (by decide) (fun _ => ?_) (fun hq => absurd (rfl) hq)
      exact kk H locs ls ⟨w, y, z, c, Y, Z, f1, f2, f3, f4, fo, kn, g1, g2, g3, ⟨hw, hy, hz, hc, hRX, hRM, hkn⟩, hP, hD, hS⟩ hl
    · refine lv_aload_n hx hb dL_law_137 rfl (lv_at hl 1 rfl) ?_
      refine lv_aload_n hx hb dL_law_138 rfl (lv_at hl 0 rfl) ?_
      refine lv_iload_n hx hb dL_law_139 rfl (lv_at hl 3 rfl) ?_
      refine lv_iconst (v := nI 1) hx hb dL_law_140 (by decide) ?_
      refine lv_iadd hx hb dL_law_141 ?_
      refine cs_top (y := nI (i + 1)) (nI_add i 1) ?_
      refine va_sld (i := nI (i + 1)) hx hb hX hbl hbA hS (vp_in_nI (by omega) (by omega)) dL_law_142 ?_
      refine cs_top (y := xs (i + 1)) (congrArg xs (nI_clamp (by omega))) ?_
      refine lv_aload_n hx hb dL_law_143 rfl (lv_at hl 0 rfl) ?_
      refine lv_iload_n hx hb dL_law_144 rfl (lv_at hl 3 rfl) ?_
      refine lv_iconst (v := nI 2) hx hb dL_law_145 (by decide) ?_
      refine lv_iadd hx hb dL_law_146 ?_
      refine cs_top (y := nI (i + 2)) (nI_add i 2) ?_
      refine va_sld (i := nI (i + 2)) hx hb hX hbl hbA hS (vp_in_nI (by omega) (by omega)) dL_law_147 ?_
      refine cs_top (y := xs (i + 2)) (congrArg xs (nI_clamp (by omega))) ?_
      refine lv_if_eq hx hb dL_law_148 (tgt := 155) (by decide) (fun hq => absurd hq (h2)) (fun _ => ?_)
      refine lv_iconst (v := nI 1) hx hb dL_law_151 (by decide) ?_
      refine lv_goto hx hb dL_law_152 (tgt := 156) (by decide) ?_
      refine cs_top (y := bI true) (rfl) ?_
      refine vp_callSi (W.runV (As := [.int (xs (i + 1)), .int (bI true)]) (rest := []) ⟨hx, hb, hml, hown, hts⟩ (c_literal_out l dC dI ox a1 a2 a3 a4 c1 c2 c3 c4 N (N - 6) w y z c f1 f2 f3 f4 hv _) (cwV 2 hts gL_law_X0_literal rfl rfl rfl (by decide +kernel) ⟨by decide +kernel, by decide +kernel⟩) (rW_preV (hP.sub (ws' := (xC ox a1 a2 a3 a4 c1 c2 c3 c4 (nI N) (nI (N - 6)) (nI w) (nI y) (nI z) (nI c) f1 f2 f3 f4)) [0, 1, 2, 3, 4] rfl) (hK.sub (tys' := xT c1 c2 c3 c4) [0, 1, 2, 3] rfl) (va_recv (q := (RX0, TX0, 10)) (q0 := 0) hK hP rfl rfl)) rfl rfl hl.1 rfl (lv_room (Nat.le_of_ble_eq_true rfl)) dL_law_156 ⟨by decide +kernel, by decide +kernel⟩) (fun r0 hr0 => ?_)
      subst hr0
      refine lv_aload_n hx hb dL_law_159 rfl (lv_at hl 2 rfl) ?_
      refine lv_aload_n hx hb dL_law_160 rfl (lv_at hl 0 rfl) ?_
      refine lv_iload_n hx hb dL_law_161 rfl (lv_at hl 3 rfl) ?_
      refine lv_iconst (v := nI 1) hx hb dL_law_162 (by decide) ?_
      refine lv_iadd hx hb dL_law_163 ?_
      refine cs_top (y := nI (i + 1)) (nI_add i 1) ?_
      refine va_sld (i := nI (i + 1)) hx hb hX hbl hbA hS (vp_in_nI (by omega) (by omega)) dL_law_164 ?_
      refine cs_top (y := xs (i + 1)) (congrArg xs (nI_clamp (by omega))) ?_
      refine lv_aload_n hx hb dL_law_165 rfl (lv_at hl 0 rfl) ?_
      refine lv_iload_n hx hb dL_law_166 rfl (lv_at hl 3 rfl) ?_
      refine lv_iconst (v := nI 2) hx hb dL_law_167 (by decide) ?_
      refine lv_iadd hx hb dL_law_168 ?_
      refine cs_top (y := nI (i + 2)) (nI_add i 2) ?_
      refine va_sld (i := nI (i + 2)) hx hb hX hbl hbA hS (vp_in_nI (by omega) (by omega)) dL_law_169 ?_
      refine cs_top (y := xs (i + 2)) (congrArg xs (nI_clamp (by omega))) ?_
      refine lv_if_eq hx hb dL_law_170 (tgt := 177) (by decide) (fun hq => absurd hq (h2)) (fun _ => ?_)
      refine lv_iconst (v := nI 1) hx hb dL_law_173 (by decide) ?_
      refine lv_goto hx hb dL_law_174 (tgt := 178) (by decide) ?_
      refine cs_top (y := bI true) (rfl) ?_
      refine vp_callSi (W.runV (As := [.int (xs (i + 1)), .int (bI true)]) (rest := [.int (-1)]) ⟨hx, hb, hml, hown, hts⟩ (m_literal_out l dC dI om b1 b2 b3 e1 e2 e3 N c y z fo kn g1 g2 g3 hv _) (cwV 2 hts gL_law_X1_literal rfl rfl rfl (by decide +kernel) ⟨by decide +kernel, by decide +kernel⟩) (rW_preV (hP.sub (ws' := (mC om b1 b2 b3 e1 e2 e3 (nI N) (nI c) (nI y) (nI z) fo kn g1 g2 g3)) [5, 6, 7, 8] rfl) (hK.sub (tys' := mT e1 e2 e3) [4, 5, 6] rfl) (va_recv (q := (RX1, TX1, 9)) (q0 := 5) hK hP rfl rfl)) rfl rfl hl.1 rfl (lv_room (Nat.le_of_ble_eq_true rfl)) dL_law_178 ⟨by decide +kernel, by decide +kernel⟩) (fun r0 hr0 => ?_)
      subst hr0
      refine lv_icmp_eq hx hb dL_law_181 (tgt := 304) (by decide) (fun _ => ?_) (fun hq => absurd (rfl) hq)
      exact kk H locs ls ⟨w, y, z, c, Y, Z, f1, f2, f3, f4, fo, kn, g1, g2, g3, ⟨hw, hy, hz, hc, hRX, hRM, hkn⟩, hP, hD, hS⟩ hl
  · rcases Classical.em (xs (i + 2) = 0) with h2 | h2
    · refine lv_aload_n hx hb dL_law_137 rfl (lv_at hl 1 rfl) ?_
      refine lv_aload_n hx hb dL_law_138 rfl (lv_at hl 0 rfl) ?_
      refine lv_iload_n hx hb dL_law_139 rfl (lv_at hl 3 rfl) ?_
      refine lv_iconst (v := nI 1) hx hb dL_law_140 (by decide) ?_
      refine lv_iadd hx hb dL_law_141 ?_
      refine cs_top (y := nI (i + 1)) (nI_add i 1) ?_
      refine va_sld (i := nI (i + 1)) hx hb hX hbl hbA hS (vp_in_nI (by omega) (by omega)) dL_law_142 ?_
      refine cs_top (y := xs (i + 1)) (congrArg xs (nI_clamp (by omega))) ?_
      refine cs_top (y := nI j) (hv) ?_
      refine lv_aload_n hx hb dL_law_143 rfl (lv_at hl 0 rfl) ?_
      refine lv_iload_n hx hb dL_law_144 rfl (lv_at hl 3 rfl) ?_
      refine lv_iconst (v := nI 2) hx hb dL_law_145 (by decide) ?_
      refine lv_iadd hx hb dL_law_146 ?_
      refine cs_top (y := nI (i + 2)) (nI_add i 2) ?_
      refine va_sld (i := nI (i + 2)) hx hb hX hbl hbA hS (vp_in_nI (by omega) (by omega)) dL_law_147 ?_
      refine cs_top (y := xs (i + 2)) (congrArg xs (nI_clamp (by omega))) ?_
      refine lv_if_eq hx hb dL_law_148 (tgt := 155) (by decide) (fun _ => ?_) (fun hq => absurd (h2) hq)
      refine lv_iconst (v := nI 0) hx hb dL_law_155 (by decide) ?_
      refine cs_top (y := bI false) (rfl) ?_
      refine cs_calli (wc := (xC ox a1 a2 a3 a4 c1 c2 c3 c4 (nI N) (nI (N - 6)) (nI w) (nI y) (nI z) (nI c) f1 f2 f3 f4)) (wr := (mC om b1 b2 b3 e1 e2 e3 (nI N) (nI c) (nI y) (nI z) fo kn g1 g2 g3)) (va_runV (As := [.int (nI j), .int (bI false)]) (rest := []) ⟨hx, hb, hml, hown, hts⟩ (c_literal l H.size dC dI ox a1 a2 a3 a4 c1 c2 c3 c4 N (N - 6) w y z c f1 f2 f3 f4 hN hy hz hj false) (cwV 2 hts gL_law_X0_literal rfl rfl rfl (by decide +kernel) ⟨by decide +kernel, by decide +kernel⟩) (wW_preV (hP.sub (ws' := (xC ox a1 a2 a3 a4 c1 c2 c3 c4 (nI N) (nI (N - 6)) (nI w) (nI y) (nI z) (nI c) f1 f2 f3 f4)) [0, 1, 2, 3, 4] rfl) (hK.sub (tys' := xT c1 c2 c3 c4) [0, 1, 2, 3] rfl) (hD.sub (ws' := (xC ox a1 a2 a3 a4 c1 c2 c3 c4 (nI N) (nI (N - 6)) (nI w) (nI y) (nI z) (nI c) f1 f2 f3 f4)) [0, 1, 2, 3, 4] (by decide) rfl) (va_recv (q := (RX0, TX0, 10)) (q0 := 0) hK hP rfl rfl)) rfl rfl hl.1 rfl (lv_room (Nat.le_of_ble_eq_true rfl)) dL_law_156 ⟨by decide +kernel, by decide +kernel⟩) hS hA hP hD [0, 1, 2, 3, 4] [5, 6, 7, 8] rfl rfl (by decide) (by decide) (fun r0 u H locs hr0 hP hD hS => ?_)
      have hP : va_P (dC, dI) vwCl ((mC om b1 b2 b3 e1 e2 e3 (nI N) (nI c) (nI y) (nI z) fo kn g1 g2 g3) ++ (xC ox a1 a2 a3 a4 c1 c2 c3 c4 (nI N) (nI (N - 6)) (nI w) (nI (lt1 y j false)) (nI (lt0 z j false)) (nI c) f1 f2 f3 f4)) H := hP
      have hD : va_D A ((mC om b1 b2 b3 e1 e2 e3 (nI N) (nI c) (nI y) (nI z) fo kn g1 g2 g3) ++ (xC ox a1 a2 a3 a4 c1 c2 c3 c4 (nI N) (nI (N - 6)) (nI w) (nI (lt1 y j false)) (nI (lt0 z j false)) (nI c) f1 f2 f3 f4)) := hD
      subst hr0
      refine lv_aload_n hx hb dL_law_159 rfl (lv_at hl 2 rfl) ?_
      refine lv_aload_n hx hb dL_law_160 rfl (lv_at hl 0 rfl) ?_
      refine lv_iload_n hx hb dL_law_161 rfl (lv_at hl 3 rfl) ?_
      refine lv_iconst (v := nI 1) hx hb dL_law_162 (by decide) ?_
      refine lv_iadd hx hb dL_law_163 ?_
      refine cs_top (y := nI (i + 1)) (nI_add i 1) ?_
      refine va_sld (i := nI (i + 1)) hx hb hX hbl hbA hS (vp_in_nI (by omega) (by omega)) dL_law_164 ?_
      refine cs_top (y := xs (i + 1)) (congrArg xs (nI_clamp (by omega))) ?_
      refine cs_top (y := nI j) (hv) ?_
      refine lv_aload_n hx hb dL_law_165 rfl (lv_at hl 0 rfl) ?_
      refine lv_iload_n hx hb dL_law_166 rfl (lv_at hl 3 rfl) ?_
      refine lv_iconst (v := nI 2) hx hb dL_law_167 (by decide) ?_
      refine lv_iadd hx hb dL_law_168 ?_
      refine cs_top (y := nI (i + 2)) (nI_add i 2) ?_
      refine va_sld (i := nI (i + 2)) hx hb hX hbl hbA hS (vp_in_nI (by omega) (by omega)) dL_law_169 ?_
      refine cs_top (y := xs (i + 2)) (congrArg xs (nI_clamp (by omega))) ?_
      refine lv_if_eq hx hb dL_law_170 (tgt := 177) (by decide) (fun _ => ?_) (fun hq => absurd (h2) hq)
      refine lv_iconst (v := nI 0) hx hb dL_law_177 (by decide) ?_
      refine cs_top (y := bI false) (rfl) ?_
      refine cs_calli (wc := (mC om b1 b2 b3 e1 e2 e3 (nI N) (nI c) (nI y) (nI z) fo kn g1 g2 g3)) (wr := (xC ox a1 a2 a3 a4 c1 c2 c3 c4 (nI N) (nI (N - 6)) (nI w) (nI (lt1 y j false)) (nI (lt0 z j false)) (nI c) f1 f2 f3 f4)) (va_runV (As := [.int (nI j), .int (bI false)]) (rest := [.int (nI (pcs (lt1 y j false) 16 + pcs (lt0 z j false) 16))]) ⟨hx, hb, hml, hown, hts⟩ (m_literal l H.size dC dI om b1 b2 b3 e1 e2 e3 N c y z fo kn g1 g2 g3 hN hy hz hj false) (cwV 2 hts gL_law_X1_literal rfl rfl rfl (by decide +kernel) ⟨by decide +kernel, by decide +kernel⟩) (wW_preV (hP.sub (ws' := (mC om b1 b2 b3 e1 e2 e3 (nI N) (nI c) (nI y) (nI z) fo kn g1 g2 g3)) [0, 1, 2, 3] rfl) (hK.sub (tys' := mT e1 e2 e3) [4, 5, 6] rfl) (hD.sub (ws' := (mC om b1 b2 b3 e1 e2 e3 (nI N) (nI c) (nI y) (nI z) fo kn g1 g2 g3)) [0, 1, 2, 3] (by decide) rfl) (va_recv (q := (RX1, TX1, 9)) (q0 := 0) hK hP rfl rfl)) rfl rfl hl.1 rfl (lv_room (Nat.le_of_ble_eq_true rfl)) dL_law_178 ⟨by decide +kernel, by decide +kernel⟩) hS hA hP hD [0, 1, 2, 3] [4, 5, 6, 7, 8] rfl rfl (by decide) (by decide) (fun r0 u H locs hr0 hP hD hS => ?_)
      have hP : va_P (dC, dI) vwCl ((xC ox a1 a2 a3 a4 c1 c2 c3 c4 (nI N) (nI (N - 6)) (nI w) (nI (lt1 y j false)) (nI (lt0 z j false)) (nI c) f1 f2 f3 f4) ++ (mC om b1 b2 b3 e1 e2 e3 (nI N) (nI c) (nI (lt1 y j false)) (nI (lt0 z j false)) fo kn g1 g2 g3)) H := hP
      have hD : va_D A ((xC ox a1 a2 a3 a4 c1 c2 c3 c4 (nI N) (nI (N - 6)) (nI w) (nI (lt1 y j false)) (nI (lt0 z j false)) (nI c) f1 f2 f3 f4) ++ (mC om b1 b2 b3 e1 e2 e3 (nI N) (nI c) (nI (lt1 y j false)) (nI (lt0 z j false)) fo kn g1 g2 g3)) := hD
      subst hr0
      refine lv_icmp_eq hx hb dL_law_181 (tgt := 304) (by decide) (fun _ => ?_) (fun hq => absurd (rfl) hq)
      exact kk H locs ls ⟨w, lt1 y j false, lt0 z j false, c, Y, Z, f1, f2, f3, f4, fo, kn, g1, g2, g3, ⟨hw, lt1_lt hy hj false, lt0_lt hz hj false, hc, hRX, hRM, hkn⟩, hP, hD, hS⟩ hl
    · refine lv_aload_n hx hb dL_law_137 rfl (lv_at hl 1 rfl) ?_
      refine lv_aload_n hx hb dL_law_138 rfl (lv_at hl 0 rfl) ?_
      refine lv_iload_n hx hb dL_law_139 rfl (lv_at hl 3 rfl) ?_
      refine lv_iconst (v := nI 1) hx hb dL_law_140 (by decide) ?_
      refine lv_iadd hx hb dL_law_141 ?_
      refine cs_top (y := nI (i + 1)) (nI_add i 1) ?_
      refine va_sld (i := nI (i + 1)) hx hb hX hbl hbA hS (vp_in_nI (by omega) (by omega)) dL_law_142 ?_
      refine cs_top (y := xs (i + 1)) (congrArg xs (nI_clamp (by omega))) ?_
      refine cs_top (y := nI j) (hv) ?_
      refine lv_aload_n hx hb dL_law_143 rfl (lv_at hl 0 rfl) ?_
      refine lv_iload_n hx hb dL_law_144 rfl (lv_at hl 3 rfl) ?_
      refine lv_iconst (v := nI 2) hx hb dL_law_145 (by decide) ?_
      refine lv_iadd hx hb dL_law_146 ?_
      refine cs_top (y := nI (i + 2)) (nI_add i 2) ?_
      refine va_sld (i := nI (i + 2)) hx hb hX hbl hbA hS (vp_in_nI (by omega) (by omega)) dL_law_147 ?_
      refine cs_top (y := xs (i + 2)) (congrArg xs (nI_clamp (by omega))) ?_
      refine lv_if_eq hx hb dL_law_148 (tgt := 155) (by decide) (fun hq => absurd hq (h2)) (fun _ => ?_)
      refine lv_iconst (v := nI 1) hx hb dL_law_151 (by decide) ?_
      refine lv_goto hx hb dL_law_152 (tgt := 156) (by decide) ?_
      refine cs_top (y := bI true) (rfl) ?_
      refine cs_calli (wc := (xC ox a1 a2 a3 a4 c1 c2 c3 c4 (nI N) (nI (N - 6)) (nI w) (nI y) (nI z) (nI c) f1 f2 f3 f4)) (wr := (mC om b1 b2 b3 e1 e2 e3 (nI N) (nI c) (nI y) (nI z) fo kn g1 g2 g3)) (va_runV (As := [.int (nI j), .int (bI true)]) (rest := []) ⟨hx, hb, hml, hown, hts⟩ (c_literal l H.size dC dI ox a1 a2 a3 a4 c1 c2 c3 c4 N (N - 6) w y z c f1 f2 f3 f4 hN hy hz hj true) (cwV 2 hts gL_law_X0_literal rfl rfl rfl (by decide +kernel) ⟨by decide +kernel, by decide +kernel⟩) (wW_preV (hP.sub (ws' := (xC ox a1 a2 a3 a4 c1 c2 c3 c4 (nI N) (nI (N - 6)) (nI w) (nI y) (nI z) (nI c) f1 f2 f3 f4)) [0, 1, 2, 3, 4] rfl) (hK.sub (tys' := xT c1 c2 c3 c4) [0, 1, 2, 3] rfl) (hD.sub (ws' := (xC ox a1 a2 a3 a4 c1 c2 c3 c4 (nI N) (nI (N - 6)) (nI w) (nI y) (nI z) (nI c) f1 f2 f3 f4)) [0, 1, 2, 3, 4] (by decide) rfl) (va_recv (q := (RX0, TX0, 10)) (q0 := 0) hK hP rfl rfl)) rfl rfl hl.1 rfl (lv_room (Nat.le_of_ble_eq_true rfl)) dL_law_156 ⟨by decide +kernel, by decide +kernel⟩) hS hA hP hD [0, 1, 2, 3, 4] [5, 6, 7, 8] rfl rfl (by decide) (by decide) (fun r0 u H locs hr0 hP hD hS => ?_)
      have hP : va_P (dC, dI) vwCl ((mC om b1 b2 b3 e1 e2 e3 (nI N) (nI c) (nI y) (nI z) fo kn g1 g2 g3) ++ (xC ox a1 a2 a3 a4 c1 c2 c3 c4 (nI N) (nI (N - 6)) (nI w) (nI (lt1 y j true)) (nI (lt0 z j true)) (nI c) f1 f2 f3 f4)) H := hP
      have hD : va_D A ((mC om b1 b2 b3 e1 e2 e3 (nI N) (nI c) (nI y) (nI z) fo kn g1 g2 g3) ++ (xC ox a1 a2 a3 a4 c1 c2 c3 c4 (nI N) (nI (N - 6)) (nI w) (nI (lt1 y j true)) (nI (lt0 z j true)) (nI c) f1 f2 f3 f4)) := hD
      subst hr0
      refine lv_aload_n hx hb dL_law_159 rfl (lv_at hl 2 rfl) ?_
      refine lv_aload_n hx hb dL_law_160 rfl (lv_at hl 0 rfl) ?_
      refine lv_iload_n hx hb dL_law_161 rfl (lv_at hl 3 rfl) ?_
      refine lv_iconst (v := nI 1) hx hb dL_law_162 (by decide) ?_
      refine lv_iadd hx hb dL_law_163 ?_
      refine cs_top (y := nI (i + 1)) (nI_add i 1) ?_
      refine va_sld (i := nI (i + 1)) hx hb hX hbl hbA hS (vp_in_nI (by omega) (by omega)) dL_law_164 ?_
      refine cs_top (y := xs (i + 1)) (congrArg xs (nI_clamp (by omega))) ?_
      refine cs_top (y := nI j) (hv) ?_
      refine lv_aload_n hx hb dL_law_165 rfl (lv_at hl 0 rfl) ?_
      refine lv_iload_n hx hb dL_law_166 rfl (lv_at hl 3 rfl) ?_
      refine lv_iconst (v := nI 2) hx hb dL_law_167 (by decide) ?_
      refine lv_iadd hx hb dL_law_168 ?_
      refine cs_top (y := nI (i + 2)) (nI_add i 2) ?_
      refine va_sld (i := nI (i + 2)) hx hb hX hbl hbA hS (vp_in_nI (by omega) (by omega)) dL_law_169 ?_
      refine cs_top (y := xs (i + 2)) (congrArg xs (nI_clamp (by omega))) ?_
      refine lv_if_eq hx hb dL_law_170 (tgt := 177) (by decide) (fun hq => absurd hq (h2)) (fun _ => ?_)
      refine lv_iconst (v := nI 1) hx hb dL_law_173 (by decide) ?_
      refine lv_goto hx hb dL_law_174 (tgt := 178) (by decide) ?_
      refine cs_top (y := bI true) (rfl) ?_
      refine cs_calli (wc := (mC om b1 b2 b3 e1 e2 e3 (nI N) (nI c) (nI y) (nI z) fo kn g1 g2 g3)) (wr := (xC ox a1 a2 a3 a4 c1 c2 c3 c4 (nI N) (nI (N - 6)) (nI w) (nI (lt1 y j true)) (nI (lt0 z j true)) (nI c) f1 f2 f3 f4)) (va_runV (As := [.int (nI j), .int (bI true)]) (rest := [.int (nI (pcs (lt1 y j true) 16 + pcs (lt0 z j true) 16))]) ⟨hx, hb, hml, hown, hts⟩ (m_literal l H.size dC dI om b1 b2 b3 e1 e2 e3 N c y z fo kn g1 g2 g3 hN hy hz hj true) (cwV 2 hts gL_law_X1_literal rfl rfl rfl (by decide +kernel) ⟨by decide +kernel, by decide +kernel⟩) (wW_preV (hP.sub (ws' := (mC om b1 b2 b3 e1 e2 e3 (nI N) (nI c) (nI y) (nI z) fo kn g1 g2 g3)) [0, 1, 2, 3] rfl) (hK.sub (tys' := mT e1 e2 e3) [4, 5, 6] rfl) (hD.sub (ws' := (mC om b1 b2 b3 e1 e2 e3 (nI N) (nI c) (nI y) (nI z) fo kn g1 g2 g3)) [0, 1, 2, 3] (by decide) rfl) (va_recv (q := (RX1, TX1, 9)) (q0 := 0) hK hP rfl rfl)) rfl rfl hl.1 rfl (lv_room (Nat.le_of_ble_eq_true rfl)) dL_law_178 ⟨by decide +kernel, by decide +kernel⟩) hS hA hP hD [0, 1, 2, 3] [4, 5, 6, 7, 8] rfl rfl (by decide) (by decide) (fun r0 u H locs hr0 hP hD hS => ?_)
      have hP : va_P (dC, dI) vwCl ((xC ox a1 a2 a3 a4 c1 c2 c3 c4 (nI N) (nI (N - 6)) (nI w) (nI (lt1 y j true)) (nI (lt0 z j true)) (nI c) f1 f2 f3 f4) ++ (mC om b1 b2 b3 e1 e2 e3 (nI N) (nI c) (nI (lt1 y j true)) (nI (lt0 z j true)) fo kn g1 g2 g3)) H := hP
      have hD : va_D A ((xC ox a1 a2 a3 a4 c1 c2 c3 c4 (nI N) (nI (N - 6)) (nI w) (nI (lt1 y j true)) (nI (lt0 z j true)) (nI c) f1 f2 f3 f4) ++ (mC om b1 b2 b3 e1 e2 e3 (nI N) (nI c) (nI (lt1 y j true)) (nI (lt0 z j true)) fo kn g1 g2 g3)) := hD
      subst hr0
      refine lv_icmp_eq hx hb dL_law_181 (tgt := 304) (by decide) (fun _ => ?_) (fun hq => absurd (rfl) hq)
      exact kk H locs ls ⟨w, lt1 y j true, lt0 z j true, c, Y, Z, f1, f2, f3, f4, fo, kn, g1, g2, g3, ⟨hw, lt1_lt hy hj true, lt0_lt hz hj true, hc, hRX, hRM, hkn⟩, hP, hD, hS⟩ hl
set_option maxHeartbeats 4000000 in
set_option maxRecDepth 100000 in
theorem law_clause {p : Program} {e : Env} {s : State} {m : MethodId} {below : List Frame} {meth : Method} {c0 : Code} (l : Launch) {b L : Nat} {xs : Nat → Int32} {Q : State → Prop} {A : Nat → Prop} {dC : Nat → ClassId} {dI : Nat → Nat → Nat} {ox a1 a2 a3 a4 : Nat} {c1 c2 c3 c4 : ClassId} {om b1 b2 b3 : Nat} {e1 e2 e3 : ClassId} {tt N i : Nat} {H : Heap} {locs : List Loc} {ls : Array Slot} (hL : L ≤ 1537) (hx : p.tables.exec = Jvm.exec) (hb : c0.code = cL_law) (hml : c0.maxLocals = 4) (hown : s.vm.findClass RL = some m.cls) (hts : ∀ w ∈ wsL_law, w.before #[Value.ref b] s = true) (hX : va_X b L xs s s.heap) (hbl : b < s.heap.size) (hbA : ¬ A b) (hA : ∀ q : Nat, s.heap.size ≤ q → A q) (hT : tW RX0 "TAILS_WITH" "[J" tt 6 twv A s s.heap) (hK : va_K (dC, dI) vwCl (xT c1 c2 c3 c4 ++ mT e1 e2 e3) s) (hN : N ≤ 16) (hi : i + 2 < L) (hI : lwI dC dI ox a1 a2 a3 a4 c1 c2 c3 c4 om b1 b2 b3 e1 e2 e3 N A s.heap H locs) (hl : lv_has ls 4 [(0, .ref b), (1, .ref ox), (2, .ref om), (3, .int (nI i))]) (kk : ∀ (H : Heap) (locs : List Loc) (ls : Array Slot), lwI dC dI ox a1 a2 a3 a4 c1 c2 c3 c4 om b1 b2 b3 e1 e2 e3 N A s.heap H locs → lv_has ls 4 [(0, .ref b), (1, .ref ox), (2, .ref om), (3, .int (nI i))] → W p l e room_1 s m #[Value.ref b] below meth c0 H locs 9 2435 Q (F0 m 304 ls [])) : W p l e room_1 s m #[Value.ref b] below meth c0 H locs 9 2435 Q (F0 m 186 ls []) := by
  obtain ⟨w, y, z, c, Y, Z, f1, f2, f3, f4, fo, kn, g1, g2, g3, ⟨hw, hy, hz, hc, hRX, hRM, hkn⟩, hP, hD, hS⟩ := hI
  rcases Nat.lt_or_ge c 400 with hc4 | hc4
  · refine lv_aload_n hx hb dL_law_186 rfl (lv_at hl 1 rfl) ?_
    refine cs_calli (wc := (xC ox a1 a2 a3 a4 c1 c2 c3 c4 (nI N) (nI (N - 6)) (nI w) (nI y) (nI z) (nI c) f1 f2 f3 f4)) (wr := (mC om b1 b2 b3 e1 e2 e3 (nI N) (nI c) (nI y) (nI z) fo kn g1 g2 g3)) (va_runV (As := []) (rest := []) ⟨hx, hb, hml, hown, hts⟩ (c_clause l tt H.size dC dI ox a1 a2 a3 a4 c1 c2 c3 c4 N (N - 6) w y z c f1 f2 f3 f4 hN rfl hc4 hy hz) (cwV 0 hts gL_law_X0_clause rfl rfl rfl (by decide +kernel) ⟨by decide +kernel, by decide +kernel⟩) (wT_preV (hP.sub (ws' := (xC ox a1 a2 a3 a4 c1 c2 c3 c4 (nI N) (nI (N - 6)) (nI w) (nI y) (nI z) (nI c) f1 f2 f3 f4)) [0, 1, 2, 3, 4] rfl) (hK.sub (tys' := xT c1 c2 c3 c4) [0, 1, 2, 3] rfl) (hD.sub (ws' := (xC ox a1 a2 a3 a4 c1 c2 c3 c4 (nI N) (nI (N - 6)) (nI w) (nI y) (nI z) (nI c) f1 f2 f3 f4)) [0, 1, 2, 3, 4] (by decide) rfl) ((hT.kept hS.2.1).narrow (va_free hD hS hA [0, 1, 2, 3, 4] rfl)) (va_recv (q := (RX0, TX0, 10)) (q0 := 0) hK hP rfl rfl)) rfl rfl hl.1 rfl (lv_room (Nat.le_of_ble_eq_true rfl)) dL_law_187 ⟨by decide +kernel, by decide +kernel⟩) hS hA hP hD [0, 1, 2, 3, 4] [5, 6, 7, 8] rfl rfl (by decide) (by decide) (fun r0 u H locs hr0 hP hD hS => ?_)
    have hP : va_P (dC, dI) vwCl ((mC om b1 b2 b3 e1 e2 e3 (nI N) (nI c) (nI y) (nI z) fo kn g1 g2 g3) ++ (xC ox a1 a2 a3 a4 c1 c2 c3 c4 (nI N) (nI (N - 6)) (nI w) (nI 0) (nI 0) (nI (c + 1)) (upd f1 c (nI (y % 2 ^ (N - 6)))) (upd f2 c (nI (z % 2 ^ (N - 6)))) (upd f3 c (nI u.1)) (vp_updL f4 c u.2))) H := hP
    have hD : va_D A ((mC om b1 b2 b3 e1 e2 e3 (nI N) (nI c) (nI y) (nI z) fo kn g1 g2 g3) ++ (xC ox a1 a2 a3 a4 c1 c2 c3 c4 (nI N) (nI (N - 6)) (nI w) (nI 0) (nI 0) (nI (c + 1)) (upd f1 c (nI (y % 2 ^ (N - 6)))) (upd f2 c (nI (z % 2 ^ (N - 6)))) (upd f3 c (nI u.1)) (vp_updL f4 c u.2))) := hD
    obtain ⟨rfl, hδ, hδb, hz9⟩ := hr0
    obtain ⟨δ, u9⟩ := u
    have hP : va_P (dC, dI) vwCl ((mC om b1 b2 b3 e1 e2 e3 (nI N) (nI c) (nI y) (nI z) fo kn g1 g2 g3) ++ (xC ox a1 a2 a3 a4 c1 c2 c3 c4 (nI N) (nI (N - 6)) (nI w) (nI 0) (nI 0) (nI (c + 1)) (upd f1 c (nI (y % 2 ^ (N - 6)))) (upd f2 c (nI (z % 2 ^ (N - 6)))) (upd f3 c (nI δ)) (vp_updL f4 c u9))) H := hP
    have hD : va_D A ((mC om b1 b2 b3 e1 e2 e3 (nI N) (nI c) (nI y) (nI z) fo kn g1 g2 g3) ++ (xC ox a1 a2 a3 a4 c1 c2 c3 c4 (nI N) (nI (N - 6)) (nI w) (nI 0) (nI 0) (nI (c + 1)) (upd f1 c (nI (y % 2 ^ (N - 6)))) (upd f2 c (nI (z % 2 ^ (N - 6)))) (upd f3 c (nI δ)) (vp_updL f4 c u9))) := hD
    refine lv_aload_n hx hb dL_law_190 rfl (lv_at hl 2 rfl) ?_
    refine cs_calli (wc := (mC om b1 b2 b3 e1 e2 e3 (nI N) (nI c) (nI y) (nI z) fo kn g1 g2 g3)) (wr := (xC ox a1 a2 a3 a4 c1 c2 c3 c4 (nI N) (nI (N - 6)) (nI w) (nI 0) (nI 0) (nI (c + 1)) (upd f1 c (nI (y % 2 ^ (N - 6)))) (upd f2 c (nI (z % 2 ^ (N - 6)))) (upd f3 c (nI δ)) (vp_updL f4 c u9))) (va_runV (As := []) (rest := [.int (nI (c + 1))]) ⟨hx, hb, hml, hown, hts⟩ (m_clause l H.size dC dI om b1 b2 b3 e1 e2 e3 N c y z fo kn g1 g2 g3 hN hc4 hy hz) (cwV 0 hts gL_law_X1_clause rfl rfl rfl (by decide +kernel) ⟨by decide +kernel, by decide +kernel⟩) (wW_preV (hP.sub (ws' := (mC om b1 b2 b3 e1 e2 e3 (nI N) (nI c) (nI y) (nI z) fo kn g1 g2 g3)) [0, 1, 2, 3] rfl) (hK.sub (tys' := mT e1 e2 e3) [4, 5, 6] rfl) (hD.sub (ws' := (mC om b1 b2 b3 e1 e2 e3 (nI N) (nI c) (nI y) (nI z) fo kn g1 g2 g3)) [0, 1, 2, 3] (by decide) rfl) (va_recv (q := (RX1, TX1, 9)) (q0 := 0) hK hP rfl rfl)) rfl rfl hl.1 rfl (lv_room (Nat.le_of_ble_eq_true rfl)) dL_law_191 ⟨by decide +kernel, by decide +kernel⟩) hS hA hP hD [0, 1, 2, 3] [4, 5, 6, 7, 8] rfl rfl (by decide) (by decide) (fun r0 u H locs hr0 hP hD hS => ?_)
    have hP : va_P (dC, dI) vwCl ((xC ox a1 a2 a3 a4 c1 c2 c3 c4 (nI N) (nI (N - 6)) (nI w) (nI 0) (nI 0) (nI (c + 1)) (upd f1 c (nI (y % 2 ^ (N - 6)))) (upd f2 c (nI (z % 2 ^ (N - 6)))) (upd f3 c (nI δ)) (vp_updL f4 c u9)) ++ (mC om b1 b2 b3 e1 e2 e3 (nI N) (nI (c + 1)) (nI 0) (nI 0) fo (nI 0) g1 (upd g2 c (nI y)) (upd g3 c (nI z)))) H := hP
    have hD : va_D A ((xC ox a1 a2 a3 a4 c1 c2 c3 c4 (nI N) (nI (N - 6)) (nI w) (nI 0) (nI 0) (nI (c + 1)) (upd f1 c (nI (y % 2 ^ (N - 6)))) (upd f2 c (nI (z % 2 ^ (N - 6)))) (upd f3 c (nI δ)) (vp_updL f4 c u9)) ++ (mC om b1 b2 b3 e1 e2 e3 (nI N) (nI (c + 1)) (nI 0) (nI 0) fo (nI 0) g1 (upd g2 c (nI y)) (upd g3 c (nI z)))) := hD
    subst hr0
    refine lv_icmp_eq hx hb dL_law_194 (tgt := 304) (by decide) (fun _ => ?_) (fun hq => absurd (rfl) hq)
    exact kk H locs ls ⟨w, 0, 0, c + 1, ub Y c y, ub Z c z, upd f1 c (nI (y % 2 ^ (N - 6))), upd f2 c (nI (z % 2 ^ (N - 6))), upd f3 c (nI δ), vp_updL f4 c u9, fo, nI 0, g1, upd g2 c (nI y), upd g3 c (nI z), ⟨hw, Nat.two_pow_pos N, Nat.two_pow_pos N, hc4, RX_add hRX hy hz hδ hδb hz9, RM_add hRM, Or.inl rfl⟩, hP, hD, hS⟩ hl
  · refine lv_aload_n hx hb dL_law_186 rfl (lv_at hl 1 rfl) ?_
    refine vp_callSi (W.runV (As := []) (rest := []) ⟨hx, hb, hml, hown, hts⟩ (c_clause_full l dC dI ox a1 a2 a3 a4 c1 c2 c3 c4 N (N - 6) w y z c f1 f2 f3 f4 (by omega)) (cwV 0 hts gL_law_X0_clause rfl rfl rfl (by decide +kernel) ⟨by decide +kernel, by decide +kernel⟩) (rW_preV (hP.sub (ws' := (xC ox a1 a2 a3 a4 c1 c2 c3 c4 (nI N) (nI (N - 6)) (nI w) (nI y) (nI z) (nI c) f1 f2 f3 f4)) [0, 1, 2, 3, 4] rfl) (hK.sub (tys' := xT c1 c2 c3 c4) [0, 1, 2, 3] rfl) (va_recv (q := (RX0, TX0, 10)) (q0 := 0) hK hP rfl rfl)) rfl rfl hl.1 rfl (lv_room (Nat.le_of_ble_eq_true rfl)) dL_law_187 ⟨by decide +kernel, by decide +kernel⟩) (fun r0 hr0 => ?_)
    subst hr0
    refine lv_aload_n hx hb dL_law_190 rfl (lv_at hl 2 rfl) ?_
    refine vp_callSi (W.runV (As := []) (rest := [.int (-3)]) ⟨hx, hb, hml, hown, hts⟩ (m_clause_full l dC dI om b1 b2 b3 e1 e2 e3 N c y z fo kn g1 g2 g3 (by omega)) (cwV 0 hts gL_law_X1_clause rfl rfl rfl (by decide +kernel) ⟨by decide +kernel, by decide +kernel⟩) (rW_preV (hP.sub (ws' := (mC om b1 b2 b3 e1 e2 e3 (nI N) (nI c) (nI y) (nI z) fo kn g1 g2 g3)) [5, 6, 7, 8] rfl) (hK.sub (tys' := mT e1 e2 e3) [4, 5, 6] rfl) (va_recv (q := (RX1, TX1, 9)) (q0 := 5) hK hP rfl rfl)) rfl rfl hl.1 rfl (lv_room (Nat.le_of_ble_eq_true rfl)) dL_law_191 ⟨by decide +kernel, by decide +kernel⟩) (fun r0 hr0 => ?_)
    subst hr0
    refine lv_icmp_eq hx hb dL_law_194 (tgt := 304) (by decide) (fun _ => ?_) (fun hq => absurd (rfl) hq)
    exact kk H locs ls ⟨w, y, z, c, Y, Z, f1, f2, f3, f4, fo, kn, g1, g2, g3, ⟨hw, hy, hz, hc, hRX, hRM, hkn⟩, hP, hD, hS⟩ hl
set_option maxHeartbeats 4000000 in
set_option maxRecDepth 100000 in
theorem law_some {p : Program} {e : Env} {s : State} {m : MethodId} {below : List Frame} {meth : Method} {c0 : Code} (l : Launch) {b L : Nat} {xs : Nat → Int32} {Q : State → Prop} {A : Nat → Prop} {dC : Nat → ClassId} {dI : Nat → Nat → Nat} {ox a1 a2 a3 a4 : Nat} {c1 c2 c3 c4 : ClassId} {om b1 b2 b3 : Nat} {e1 e2 e3 : ClassId} {tt N i : Nat} {H : Heap} {locs : List Loc} {ls : Array Slot} (hL : L ≤ 1537) (hx : p.tables.exec = Jvm.exec) (hb : c0.code = cL_law) (hml : c0.maxLocals = 4) (hown : s.vm.findClass RL = some m.cls) (hts : ∀ w ∈ wsL_law, w.before #[Value.ref b] s = true) (hX : va_X b L xs s s.heap) (hbl : b < s.heap.size) (hbA : ¬ A b) (hA : ∀ q : Nat, s.heap.size ≤ q → A q) (hT : tW RX0 "TAILS_WITH" "[J" tt 6 twv A s s.heap) (hK : va_K (dC, dI) vwCl (xT c1 c2 c3 c4 ++ mT e1 e2 e3) s) (hN : N ≤ 16) (hi : i + 2 < L) (hI : lwI dC dI ox a1 a2 a3 a4 c1 c2 c3 c4 om b1 b2 b3 e1 e2 e3 N A s.heap H locs) (hl : lv_has ls 4 [(0, .ref b), (1, .ref ox), (2, .ref om), (3, .int (nI i))]) (kk : ∀ (H : Heap) (locs : List Loc) (ls : Array Slot), lwI dC dI ox a1 a2 a3 a4 c1 c2 c3 c4 om b1 b2 b3 e1 e2 e3 N A s.heap H locs → lv_has ls 4 [(0, .ref b), (1, .ref ox), (2, .ref om), (3, .int (nI i))] → W p l e room_1 s m #[Value.ref b] below meth c0 H locs 9 2435 Q (F0 m 304 ls [])) : W p l e room_1 s m #[Value.ref b] below meth c0 H locs 9 2435 Q (F0 m 199 ls []) := by
  obtain ⟨w, y, z, c, Y, Z, f1, f2, f3, f4, fo, kn, g1, g2, g3, ⟨hw, hy, hz, hc, hRX, hRM, hkn⟩, hP, hD, hS⟩ := hI
  rcases Nat.lt_or_ge c 400 with hc4 | hc4
  · refine lv_aload_n hx hb dL_law_199 rfl (lv_at hl 1 rfl) ?_
    refine lv_aload_n hx hb dL_law_200 rfl (lv_at hl 0 rfl) ?_
    refine lv_iload_n hx hb dL_law_201 rfl (lv_at hl 3 rfl) ?_
    refine lv_iconst (v := nI 1) hx hb dL_law_202 (by decide) ?_
    refine lv_iadd hx hb dL_law_203 ?_
    refine cs_top (y := nI (i + 1)) (nI_add i 1) ?_
    refine va_sld (i := nI (i + 1)) hx hb hX hbl hbA hS (vp_in_nI (by omega) (by omega)) dL_law_204 ?_
    refine cs_top (y := xs (i + 1)) (congrArg xs (nI_clamp (by omega))) ?_
    refine lv_aload_n hx hb dL_law_205 rfl (lv_at hl 0 rfl) ?_
    refine lv_iload_n hx hb dL_law_206 rfl (lv_at hl 3 rfl) ?_
    refine lv_iconst (v := nI 2) hx hb dL_law_207 (by decide) ?_
    refine lv_iadd hx hb dL_law_208 ?_
    refine cs_top (y := nI (i + 2)) (nI_add i 2) ?_
    refine va_sld (i := nI (i + 2)) hx hb hX hbl hbA hS (vp_in_nI (by omega) (by omega)) dL_law_209 ?_
    refine cs_top (y := xs (i + 2)) (congrArg xs (nI_clamp (by omega))) ?_
    refine cs_calli (wc := (xC ox a1 a2 a3 a4 c1 c2 c3 c4 (nI N) (nI (N - 6)) (nI w) (nI y) (nI z) (nI c) f1 f2 f3 f4)) (wr := (mC om b1 b2 b3 e1 e2 e3 (nI N) (nI c) (nI y) (nI z) fo kn g1 g2 g3)) (va_runV (As := [.int (xs (i + 1)), .int (xs (i + 2))]) (rest := []) ⟨hx, hb, hml, hown, hts⟩ (c_some l tt H.size dC dI ox a1 a2 a3 a4 c1 c2 c3 c4 N (N - 6) w y z c f1 f2 f3 f4 hN rfl hc4 (xs (i + 1)) (xs (i + 2))) (cwV 2 hts gL_law_X0_some rfl rfl rfl (by decide +kernel) ⟨by decide +kernel, by decide +kernel⟩) (wT_preV (hP.sub (ws' := (xC ox a1 a2 a3 a4 c1 c2 c3 c4 (nI N) (nI (N - 6)) (nI w) (nI y) (nI z) (nI c) f1 f2 f3 f4)) [0, 1, 2, 3, 4] rfl) (hK.sub (tys' := xT c1 c2 c3 c4) [0, 1, 2, 3] rfl) (hD.sub (ws' := (xC ox a1 a2 a3 a4 c1 c2 c3 c4 (nI N) (nI (N - 6)) (nI w) (nI y) (nI z) (nI c) f1 f2 f3 f4)) [0, 1, 2, 3, 4] (by decide) rfl) ((hT.kept hS.2.1).narrow (va_free hD hS hA [0, 1, 2, 3, 4] rfl)) (va_recv (q := (RX0, TX0, 10)) (q0 := 0) hK hP rfl rfl)) rfl rfl hl.1 rfl (lv_room (Nat.le_of_ble_eq_true rfl)) dL_law_210 ⟨by decide +kernel, by decide +kernel⟩) hS hA hP hD [0, 1, 2, 3, 4] [5, 6, 7, 8] rfl rfl (by decide) (by decide) (fun r0 u H locs hr0 hP hD hS => ?_)
    have hP : va_P (dC, dI) vwCl ((mC om b1 b2 b3 e1 e2 e3 (nI N) (nI c) (nI y) (nI z) fo kn g1 g2 g3) ++ (xC ox a1 a2 a3 a4 c1 c2 c3 c4 (nI N) (nI (N - 6)) (nI w) (nI y) (nI z) (nI (c + 1)) (upd f1 c (nI (lo (xs (i + 1)) N % 2 ^ (N - 6)))) (upd f2 c (nI (lo (xs (i + 2)) N % 2 ^ (N - 6)))) (upd f3 c (nI u.1)) (vp_updL f4 c u.2))) H := hP
    have hD : va_D A ((mC om b1 b2 b3 e1 e2 e3 (nI N) (nI c) (nI y) (nI z) fo kn g1 g2 g3) ++ (xC ox a1 a2 a3 a4 c1 c2 c3 c4 (nI N) (nI (N - 6)) (nI w) (nI y) (nI z) (nI (c + 1)) (upd f1 c (nI (lo (xs (i + 1)) N % 2 ^ (N - 6)))) (upd f2 c (nI (lo (xs (i + 2)) N % 2 ^ (N - 6)))) (upd f3 c (nI u.1)) (vp_updL f4 c u.2))) := hD
    obtain ⟨rfl, hδ, hδb, hz9⟩ := hr0
    obtain ⟨δ, u9⟩ := u
    have hP : va_P (dC, dI) vwCl ((mC om b1 b2 b3 e1 e2 e3 (nI N) (nI c) (nI y) (nI z) fo kn g1 g2 g3) ++ (xC ox a1 a2 a3 a4 c1 c2 c3 c4 (nI N) (nI (N - 6)) (nI w) (nI y) (nI z) (nI (c + 1)) (upd f1 c (nI (lo (xs (i + 1)) N % 2 ^ (N - 6)))) (upd f2 c (nI (lo (xs (i + 2)) N % 2 ^ (N - 6)))) (upd f3 c (nI δ)) (vp_updL f4 c u9))) H := hP
    have hD : va_D A ((mC om b1 b2 b3 e1 e2 e3 (nI N) (nI c) (nI y) (nI z) fo kn g1 g2 g3) ++ (xC ox a1 a2 a3 a4 c1 c2 c3 c4 (nI N) (nI (N - 6)) (nI w) (nI y) (nI z) (nI (c + 1)) (upd f1 c (nI (lo (xs (i + 1)) N % 2 ^ (N - 6)))) (upd f2 c (nI (lo (xs (i + 2)) N % 2 ^ (N - 6)))) (upd f3 c (nI δ)) (vp_updL f4 c u9))) := hD
    refine lv_aload_n hx hb dL_law_213 rfl (lv_at hl 2 rfl) ?_
    refine lv_aload_n hx hb dL_law_214 rfl (lv_at hl 0 rfl) ?_
    refine lv_iload_n hx hb dL_law_215 rfl (lv_at hl 3 rfl) ?_
    refine lv_iconst (v := nI 1) hx hb dL_law_216 (by decide) ?_
    refine lv_iadd hx hb dL_law_217 ?_
    refine cs_top (y := nI (i + 1)) (nI_add i 1) ?_
    refine va_sld (i := nI (i + 1)) hx hb hX hbl hbA hS (vp_in_nI (by omega) (by omega)) dL_law_218 ?_
    refine cs_top (y := xs (i + 1)) (congrArg xs (nI_clamp (by omega))) ?_
    refine lv_aload_n hx hb dL_law_219 rfl (lv_at hl 0 rfl) ?_
    refine lv_iload_n hx hb dL_law_220 rfl (lv_at hl 3 rfl) ?_
    refine lv_iconst (v := nI 2) hx hb dL_law_221 (by decide) ?_
    refine lv_iadd hx hb dL_law_222 ?_
    refine cs_top (y := nI (i + 2)) (nI_add i 2) ?_
    refine va_sld (i := nI (i + 2)) hx hb hX hbl hbA hS (vp_in_nI (by omega) (by omega)) dL_law_223 ?_
    refine cs_top (y := xs (i + 2)) (congrArg xs (nI_clamp (by omega))) ?_
    refine cs_calli (wc := (mC om b1 b2 b3 e1 e2 e3 (nI N) (nI c) (nI y) (nI z) fo kn g1 g2 g3)) (wr := (xC ox a1 a2 a3 a4 c1 c2 c3 c4 (nI N) (nI (N - 6)) (nI w) (nI y) (nI z) (nI (c + 1)) (upd f1 c (nI (lo (xs (i + 1)) N % 2 ^ (N - 6)))) (upd f2 c (nI (lo (xs (i + 2)) N % 2 ^ (N - 6)))) (upd f3 c (nI δ)) (vp_updL f4 c u9))) (va_runV (As := [.int (xs (i + 1)), .int (xs (i + 2))]) (rest := [.int (nI (c + 1))]) ⟨hx, hb, hml, hown, hts⟩ (m_some l H.size dC dI om b1 b2 b3 e1 e2 e3 N c y z fo kn g1 g2 g3 hN hc4 (xs (i + 1)) (xs (i + 2))) (cwV 2 hts gL_law_X1_some rfl rfl rfl (by decide +kernel) ⟨by decide +kernel, by decide +kernel⟩) (wW_preV (hP.sub (ws' := (mC om b1 b2 b3 e1 e2 e3 (nI N) (nI c) (nI y) (nI z) fo kn g1 g2 g3)) [0, 1, 2, 3] rfl) (hK.sub (tys' := mT e1 e2 e3) [4, 5, 6] rfl) (hD.sub (ws' := (mC om b1 b2 b3 e1 e2 e3 (nI N) (nI c) (nI y) (nI z) fo kn g1 g2 g3)) [0, 1, 2, 3] (by decide) rfl) (va_recv (q := (RX1, TX1, 9)) (q0 := 0) hK hP rfl rfl)) rfl rfl hl.1 rfl (lv_room (Nat.le_of_ble_eq_true rfl)) dL_law_224 ⟨by decide +kernel, by decide +kernel⟩) hS hA hP hD [0, 1, 2, 3] [4, 5, 6, 7, 8] rfl rfl (by decide) (by decide) (fun r0 u H locs hr0 hP hD hS => ?_)
    have hP : va_P (dC, dI) vwCl ((xC ox a1 a2 a3 a4 c1 c2 c3 c4 (nI N) (nI (N - 6)) (nI w) (nI y) (nI z) (nI (c + 1)) (upd f1 c (nI (lo (xs (i + 1)) N % 2 ^ (N - 6)))) (upd f2 c (nI (lo (xs (i + 2)) N % 2 ^ (N - 6)))) (upd f3 c (nI δ)) (vp_updL f4 c u9)) ++ (mC om b1 b2 b3 e1 e2 e3 (nI N) (nI (c + 1)) (nI y) (nI z) fo (nI 0) g1 (upd g2 c (nI (lo (xs (i + 1)) N))) (upd g3 c (nI (lo (xs (i + 2)) N))))) H := hP
    have hD : va_D A ((xC ox a1 a2 a3 a4 c1 c2 c3 c4 (nI N) (nI (N - 6)) (nI w) (nI y) (nI z) (nI (c + 1)) (upd f1 c (nI (lo (xs (i + 1)) N % 2 ^ (N - 6)))) (upd f2 c (nI (lo (xs (i + 2)) N % 2 ^ (N - 6)))) (upd f3 c (nI δ)) (vp_updL f4 c u9)) ++ (mC om b1 b2 b3 e1 e2 e3 (nI N) (nI (c + 1)) (nI y) (nI z) fo (nI 0) g1 (upd g2 c (nI (lo (xs (i + 1)) N))) (upd g3 c (nI (lo (xs (i + 2)) N))))) := hD
    subst hr0
    refine lv_icmp_eq hx hb dL_law_227 (tgt := 304) (by decide) (fun _ => ?_) (fun hq => absurd (rfl) hq)
    exact kk H locs ls ⟨w, y, z, c + 1, ub Y c (lo (xs (i + 1)) N), ub Z c (lo (xs (i + 2)) N), upd f1 c (nI (lo (xs (i + 1)) N % 2 ^ (N - 6))), upd f2 c (nI (lo (xs (i + 2)) N % 2 ^ (N - 6))), upd f3 c (nI δ), vp_updL f4 c u9, fo, nI 0, g1, upd g2 c (nI (lo (xs (i + 1)) N)), upd g3 c (nI (lo (xs (i + 2)) N)), ⟨hw, hy, hz, hc4, RX_add hRX (lo_lt _ _) (lo_lt _ _) hδ hδb hz9, RM_add hRM, Or.inl rfl⟩, hP, hD, hS⟩ hl
  · refine lv_aload_n hx hb dL_law_199 rfl (lv_at hl 1 rfl) ?_
    refine lv_aload_n hx hb dL_law_200 rfl (lv_at hl 0 rfl) ?_
    refine lv_iload_n hx hb dL_law_201 rfl (lv_at hl 3 rfl) ?_
    refine lv_iconst (v := nI 1) hx hb dL_law_202 (by decide) ?_
    refine lv_iadd hx hb dL_law_203 ?_
    refine cs_top (y := nI (i + 1)) (nI_add i 1) ?_
    refine va_sld (i := nI (i + 1)) hx hb hX hbl hbA hS (vp_in_nI (by omega) (by omega)) dL_law_204 ?_
    refine cs_top (y := xs (i + 1)) (congrArg xs (nI_clamp (by omega))) ?_
    refine lv_aload_n hx hb dL_law_205 rfl (lv_at hl 0 rfl) ?_
    refine lv_iload_n hx hb dL_law_206 rfl (lv_at hl 3 rfl) ?_
    refine lv_iconst (v := nI 2) hx hb dL_law_207 (by decide) ?_
    refine lv_iadd hx hb dL_law_208 ?_
    refine cs_top (y := nI (i + 2)) (nI_add i 2) ?_
    refine va_sld (i := nI (i + 2)) hx hb hX hbl hbA hS (vp_in_nI (by omega) (by omega)) dL_law_209 ?_
    refine cs_top (y := xs (i + 2)) (congrArg xs (nI_clamp (by omega))) ?_
    refine vp_callSi (W.runV (As := [.int (xs (i + 1)), .int (xs (i + 2))]) (rest := []) ⟨hx, hb, hml, hown, hts⟩ (c_some_full l dC dI ox a1 a2 a3 a4 c1 c2 c3 c4 N (N - 6) w y z c f1 f2 f3 f4 hN (by omega) _ _) (cwV 2 hts gL_law_X0_some rfl rfl rfl (by decide +kernel) ⟨by decide +kernel, by decide +kernel⟩) (rW_preV (hP.sub (ws' := (xC ox a1 a2 a3 a4 c1 c2 c3 c4 (nI N) (nI (N - 6)) (nI w) (nI y) (nI z) (nI c) f1 f2 f3 f4)) [0, 1, 2, 3, 4] rfl) (hK.sub (tys' := xT c1 c2 c3 c4) [0, 1, 2, 3] rfl) (va_recv (q := (RX0, TX0, 10)) (q0 := 0) hK hP rfl rfl)) rfl rfl hl.1 rfl (lv_room (Nat.le_of_ble_eq_true rfl)) dL_law_210 ⟨by decide +kernel, by decide +kernel⟩) (fun r0 hr0 => ?_)
    subst hr0
    refine lv_aload_n hx hb dL_law_213 rfl (lv_at hl 2 rfl) ?_
    refine lv_aload_n hx hb dL_law_214 rfl (lv_at hl 0 rfl) ?_
    refine lv_iload_n hx hb dL_law_215 rfl (lv_at hl 3 rfl) ?_
    refine lv_iconst (v := nI 1) hx hb dL_law_216 (by decide) ?_
    refine lv_iadd hx hb dL_law_217 ?_
    refine cs_top (y := nI (i + 1)) (nI_add i 1) ?_
    refine va_sld (i := nI (i + 1)) hx hb hX hbl hbA hS (vp_in_nI (by omega) (by omega)) dL_law_218 ?_
    refine cs_top (y := xs (i + 1)) (congrArg xs (nI_clamp (by omega))) ?_
    refine lv_aload_n hx hb dL_law_219 rfl (lv_at hl 0 rfl) ?_
    refine lv_iload_n hx hb dL_law_220 rfl (lv_at hl 3 rfl) ?_
    refine lv_iconst (v := nI 2) hx hb dL_law_221 (by decide) ?_
    refine lv_iadd hx hb dL_law_222 ?_
    refine cs_top (y := nI (i + 2)) (nI_add i 2) ?_
    refine va_sld (i := nI (i + 2)) hx hb hX hbl hbA hS (vp_in_nI (by omega) (by omega)) dL_law_223 ?_
    refine cs_top (y := xs (i + 2)) (congrArg xs (nI_clamp (by omega))) ?_
    refine vp_callSi (W.runV (As := [.int (xs (i + 1)), .int (xs (i + 2))]) (rest := [.int (-3)]) ⟨hx, hb, hml, hown, hts⟩ (m_some_full l dC dI om b1 b2 b3 e1 e2 e3 N c y z fo kn g1 g2 g3 (by omega) _ _) (cwV 2 hts gL_law_X1_some rfl rfl rfl (by decide +kernel) ⟨by decide +kernel, by decide +kernel⟩) (rW_preV (hP.sub (ws' := (mC om b1 b2 b3 e1 e2 e3 (nI N) (nI c) (nI y) (nI z) fo kn g1 g2 g3)) [5, 6, 7, 8] rfl) (hK.sub (tys' := mT e1 e2 e3) [4, 5, 6] rfl) (va_recv (q := (RX1, TX1, 9)) (q0 := 5) hK hP rfl rfl)) rfl rfl hl.1 rfl (lv_room (Nat.le_of_ble_eq_true rfl)) dL_law_224 ⟨by decide +kernel, by decide +kernel⟩) (fun r0 hr0 => ?_)
    subst hr0
    refine lv_icmp_eq hx hb dL_law_227 (tgt := 304) (by decide) (fun _ => ?_) (fun hq => absurd (rfl) hq)
    exact kk H locs ls ⟨w, y, z, c, Y, Z, f1, f2, f3, f4, fo, kn, g1, g2, g3, ⟨hw, hy, hz, hc, hRX, hRM, hkn⟩, hP, hD, hS⟩ hl
set_option maxHeartbeats 4000000 in
set_option maxRecDepth 100000 in
theorem law_drop {p : Program} {e : Env} {s : State} {m : MethodId} {below : List Frame} {meth : Method} {c0 : Code} (l : Launch) {b L : Nat} {xs : Nat → Int32} {Q : State → Prop} {A : Nat → Prop} {dC : Nat → ClassId} {dI : Nat → Nat → Nat} {ox a1 a2 a3 a4 : Nat} {c1 c2 c3 c4 : ClassId} {om b1 b2 b3 : Nat} {e1 e2 e3 : ClassId} {tt N i : Nat} {H : Heap} {locs : List Loc} {ls : Array Slot} (hL : L ≤ 1537) (hx : p.tables.exec = Jvm.exec) (hb : c0.code = cL_law) (hml : c0.maxLocals = 4) (hown : s.vm.findClass RL = some m.cls) (hts : ∀ w ∈ wsL_law, w.before #[Value.ref b] s = true) (hX : va_X b L xs s s.heap) (hbl : b < s.heap.size) (hbA : ¬ A b) (hA : ∀ q : Nat, s.heap.size ≤ q → A q) (hT : tW RX0 "TAILS_WITH" "[J" tt 6 twv A s s.heap) (hK : va_K (dC, dI) vwCl (xT c1 c2 c3 c4 ++ mT e1 e2 e3) s) (hN : N ≤ 16) (hi : i + 2 < L) (hI : lwI dC dI ox a1 a2 a3 a4 c1 c2 c3 c4 om b1 b2 b3 e1 e2 e3 N A s.heap H locs) (hl : lv_has ls 4 [(0, .ref b), (1, .ref ox), (2, .ref om), (3, .int (nI i))]) (kk : ∀ (H : Heap) (locs : List Loc) (ls : Array Slot), lwI dC dI ox a1 a2 a3 a4 c1 c2 c3 c4 om b1 b2 b3 e1 e2 e3 N A s.heap H locs → lv_has ls 4 [(0, .ref b), (1, .ref ox), (2, .ref om), (3, .int (nI i))] → W p l e room_1 s m #[Value.ref b] below meth c0 H locs 9 2435 Q (F0 m 304 ls [])) : W p l e room_1 s m #[Value.ref b] below meth c0 H locs 9 2435 Q (F0 m 232 ls []) := by
  obtain ⟨w, y, z, c, Y, Z, f1, f2, f3, f4, fo, kn, g1, g2, g3, ⟨hw, hy, hz, hc, hRX, hRM, hkn⟩, hP, hD, hS⟩ := hI
  rcases cs_ix (xs (i + 1)) (n := c) (by omega) with hv | ⟨j, hj, hv⟩
  · refine lv_aload_n hx hb dL_law_232 rfl (lv_at hl 1 rfl) ?_
    refine lv_aload_n hx hb dL_law_233 rfl (lv_at hl 0 rfl) ?_
    refine lv_iload_n hx hb dL_law_234 rfl (lv_at hl 3 rfl) ?_
    refine lv_iconst (v := nI 1) hx hb dL_law_235 (by decide) ?_
    refine lv_iadd hx hb dL_law_236 ?_
    refine cs_top (y := nI (i + 1)) (nI_add i 1) ?_
    refine va_sld (i := nI (i + 1)) hx hb hX hbl hbA hS (vp_in_nI (by omega) (by omega)) dL_law_237 ?_
    refine cs_top (y := xs (i + 1)) (congrArg xs (nI_clamp (by omega))) ?_
    refine vp_callSi (W.runV (As := [.int (xs (i + 1))]) (rest := []) ⟨hx, hb, hml, hown, hts⟩ (c_drop_out l dC dI ox a1 a2 a3 a4 c1 c2 c3 c4 N (N - 6) w y z c f1 f2 f3 f4 hv) (cwV 1 hts gL_law_X0_drop rfl rfl rfl (by decide +kernel) ⟨by decide +kernel, by decide +kernel⟩) (rW_preV (hP.sub (ws' := (xC ox a1 a2 a3 a4 c1 c2 c3 c4 (nI N) (nI (N - 6)) (nI w) (nI y) (nI z) (nI c) f1 f2 f3 f4)) [0, 1, 2, 3, 4] rfl) (hK.sub (tys' := xT c1 c2 c3 c4) [0, 1, 2, 3] rfl) (va_recv (q := (RX0, TX0, 10)) (q0 := 0) hK hP rfl rfl)) rfl rfl hl.1 rfl (lv_room (Nat.le_of_ble_eq_true rfl)) dL_law_238 ⟨by decide +kernel, by decide +kernel⟩) (fun r0 hr0 => ?_)
    subst hr0
    refine lv_aload_n hx hb dL_law_241 rfl (lv_at hl 2 rfl) ?_
    refine lv_aload_n hx hb dL_law_242 rfl (lv_at hl 0 rfl) ?_
    refine lv_iload_n hx hb dL_law_243 rfl (lv_at hl 3 rfl) ?_
    refine lv_iconst (v := nI 1) hx hb dL_law_244 (by decide) ?_
    refine lv_iadd hx hb dL_law_245 ?_
    refine cs_top (y := nI (i + 1)) (nI_add i 1) ?_
    refine va_sld (i := nI (i + 1)) hx hb hX hbl hbA hS (vp_in_nI (by omega) (by omega)) dL_law_246 ?_
    refine cs_top (y := xs (i + 1)) (congrArg xs (nI_clamp (by omega))) ?_
    refine vp_callSi (W.runV (As := [.int (xs (i + 1))]) (rest := [.int (-2)]) ⟨hx, hb, hml, hown, hts⟩ (m_drop_out l dC dI om b1 b2 b3 e1 e2 e3 N c y z fo kn g1 g2 g3 hv) (cwV 1 hts gL_law_X1_drop rfl rfl rfl (by decide +kernel) ⟨by decide +kernel, by decide +kernel⟩) (rW_preV (hP.sub (ws' := (mC om b1 b2 b3 e1 e2 e3 (nI N) (nI c) (nI y) (nI z) fo kn g1 g2 g3)) [5, 6, 7, 8] rfl) (hK.sub (tys' := mT e1 e2 e3) [4, 5, 6] rfl) (va_recv (q := (RX1, TX1, 9)) (q0 := 5) hK hP rfl rfl)) rfl rfl hl.1 rfl (lv_room (Nat.le_of_ble_eq_true rfl)) dL_law_247 ⟨by decide +kernel, by decide +kernel⟩) (fun r0 hr0 => ?_)
    subst hr0
    refine lv_icmp_eq hx hb dL_law_250 (tgt := 304) (by decide) (fun _ => ?_) (fun hq => absurd (rfl) hq)
    exact kk H locs ls ⟨w, y, z, c, Y, Z, f1, f2, f3, f4, fo, kn, g1, g2, g3, ⟨hw, hy, hz, hc, hRX, hRM, hkn⟩, hP, hD, hS⟩ hl
  · obtain ⟨d, rfl⟩ : ∃ d, c = d + 1 := ⟨c - 1, by omega⟩
    refine lv_aload_n hx hb dL_law_232 rfl (lv_at hl 1 rfl) ?_
    refine lv_aload_n hx hb dL_law_233 rfl (lv_at hl 0 rfl) ?_
    refine lv_iload_n hx hb dL_law_234 rfl (lv_at hl 3 rfl) ?_
    refine lv_iconst (v := nI 1) hx hb dL_law_235 (by decide) ?_
    refine lv_iadd hx hb dL_law_236 ?_
    refine cs_top (y := nI (i + 1)) (nI_add i 1) ?_
    refine va_sld (i := nI (i + 1)) hx hb hX hbl hbA hS (vp_in_nI (by omega) (by omega)) dL_law_237 ?_
    refine cs_top (y := xs (i + 1)) (congrArg xs (nI_clamp (by omega))) ?_
    refine cs_top (y := nI j) (hv) ?_
    refine cs_calli (wc := (xC ox a1 a2 a3 a4 c1 c2 c3 c4 (nI N) (nI (N - 6)) (nI w) (nI y) (nI z) (nI (d + 1)) f1 f2 f3 f4)) (wr := (mC om b1 b2 b3 e1 e2 e3 (nI N) (nI (d + 1)) (nI y) (nI z) fo kn g1 g2 g3)) (va_runV (As := [.int (nI j)]) (rest := []) ⟨hx, hb, hml, hown, hts⟩ (c_drop l H.size dC dI ox a1 a2 a3 a4 c1 c2 c3 c4 N (N - 6) w y z d f1 f2 f3 f4 (by omega) hj) (cwV 1 hts gL_law_X0_drop rfl rfl rfl (by decide +kernel) ⟨by decide +kernel, by decide +kernel⟩) (wW_preV (hP.sub (ws' := (xC ox a1 a2 a3 a4 c1 c2 c3 c4 (nI N) (nI (N - 6)) (nI w) (nI y) (nI z) (nI (d + 1)) f1 f2 f3 f4)) [0, 1, 2, 3, 4] rfl) (hK.sub (tys' := xT c1 c2 c3 c4) [0, 1, 2, 3] rfl) (hD.sub (ws' := (xC ox a1 a2 a3 a4 c1 c2 c3 c4 (nI N) (nI (N - 6)) (nI w) (nI y) (nI z) (nI (d + 1)) f1 f2 f3 f4)) [0, 1, 2, 3, 4] (by decide) rfl) (va_recv (q := (RX0, TX0, 10)) (q0 := 0) hK hP rfl rfl)) rfl rfl hl.1 rfl (lv_room (Nat.le_of_ble_eq_true rfl)) dL_law_238 ⟨by decide +kernel, by decide +kernel⟩) hS hA hP hD [0, 1, 2, 3, 4] [5, 6, 7, 8] rfl rfl (by decide) (by decide) (fun r0 u H locs hr0 hP hD hS => ?_)
    have hP : va_P (dC, dI) vwCl ((mC om b1 b2 b3 e1 e2 e3 (nI N) (nI (d + 1)) (nI y) (nI z) fo kn g1 g2 g3) ++ (xC ox a1 a2 a3 a4 c1 c2 c3 c4 (nI N) (nI (N - 6)) (nI w) (nI y) (nI z) (nI d) (upd f1 j (f1 d)) (upd f2 j (f2 d)) (upd f3 j (f3 d)) (vp_updL f4 j (f4 d)))) H := hP
    have hD : va_D A ((mC om b1 b2 b3 e1 e2 e3 (nI N) (nI (d + 1)) (nI y) (nI z) fo kn g1 g2 g3) ++ (xC ox a1 a2 a3 a4 c1 c2 c3 c4 (nI N) (nI (N - 6)) (nI w) (nI y) (nI z) (nI d) (upd f1 j (f1 d)) (upd f2 j (f2 d)) (upd f3 j (f3 d)) (vp_updL f4 j (f4 d)))) := hD
    subst hr0
    refine lv_aload_n hx hb dL_law_241 rfl (lv_at hl 2 rfl) ?_
    refine lv_aload_n hx hb dL_law_242 rfl (lv_at hl 0 rfl) ?_
    refine lv_iload_n hx hb dL_law_243 rfl (lv_at hl 3 rfl) ?_
    refine lv_iconst (v := nI 1) hx hb dL_law_244 (by decide) ?_
    refine lv_iadd hx hb dL_law_245 ?_
    refine cs_top (y := nI (i + 1)) (nI_add i 1) ?_
    refine va_sld (i := nI (i + 1)) hx hb hX hbl hbA hS (vp_in_nI (by omega) (by omega)) dL_law_246 ?_
    refine cs_top (y := xs (i + 1)) (congrArg xs (nI_clamp (by omega))) ?_
    refine cs_top (y := nI j) (hv) ?_
    refine cs_calli (wc := (mC om b1 b2 b3 e1 e2 e3 (nI N) (nI (d + 1)) (nI y) (nI z) fo kn g1 g2 g3)) (wr := (xC ox a1 a2 a3 a4 c1 c2 c3 c4 (nI N) (nI (N - 6)) (nI w) (nI y) (nI z) (nI d) (upd f1 j (f1 d)) (upd f2 j (f2 d)) (upd f3 j (f3 d)) (vp_updL f4 j (f4 d)))) (va_runV (As := [.int (nI j)]) (rest := [.int (nI d)]) ⟨hx, hb, hml, hown, hts⟩ (m_drop l H.size dC dI om b1 b2 b3 e1 e2 e3 N d y z fo kn g1 g2 g3 (by omega) hj) (cwV 1 hts gL_law_X1_drop rfl rfl rfl (by decide +kernel) ⟨by decide +kernel, by decide +kernel⟩) (wW_preV (hP.sub (ws' := (mC om b1 b2 b3 e1 e2 e3 (nI N) (nI (d + 1)) (nI y) (nI z) fo kn g1 g2 g3)) [0, 1, 2, 3] rfl) (hK.sub (tys' := mT e1 e2 e3) [4, 5, 6] rfl) (hD.sub (ws' := (mC om b1 b2 b3 e1 e2 e3 (nI N) (nI (d + 1)) (nI y) (nI z) fo kn g1 g2 g3)) [0, 1, 2, 3] (by decide) rfl) (va_recv (q := (RX1, TX1, 9)) (q0 := 0) hK hP rfl rfl)) rfl rfl hl.1 rfl (lv_room (Nat.le_of_ble_eq_true rfl)) dL_law_247 ⟨by decide +kernel, by decide +kernel⟩) hS hA hP hD [0, 1, 2, 3] [4, 5, 6, 7, 8] rfl rfl (by decide) (by decide) (fun r0 u H locs hr0 hP hD hS => ?_)
    have hP : va_P (dC, dI) vwCl ((xC ox a1 a2 a3 a4 c1 c2 c3 c4 (nI N) (nI (N - 6)) (nI w) (nI y) (nI z) (nI d) (upd f1 j (f1 d)) (upd f2 j (f2 d)) (upd f3 j (f3 d)) (vp_updL f4 j (f4 d))) ++ (mC om b1 b2 b3 e1 e2 e3 (nI N) (nI d) (nI y) (nI z) fo (nI 0) g1 (upd g2 j (g2 d)) (upd g3 j (g3 d)))) H := hP
    have hD : va_D A ((xC ox a1 a2 a3 a4 c1 c2 c3 c4 (nI N) (nI (N - 6)) (nI w) (nI y) (nI z) (nI d) (upd f1 j (f1 d)) (upd f2 j (f2 d)) (upd f3 j (f3 d)) (vp_updL f4 j (f4 d))) ++ (mC om b1 b2 b3 e1 e2 e3 (nI N) (nI d) (nI y) (nI z) fo (nI 0) g1 (upd g2 j (g2 d)) (upd g3 j (g3 d)))) := hD
    subst hr0
    refine lv_icmp_eq hx hb dL_law_250 (tgt := 304) (by decide) (fun _ => ?_) (fun hq => absurd (rfl) hq)
    exact kk H locs ls ⟨w, y, z, d, ub Y j (Y d), ub Z j (Z d), upd f1 j (f1 d), upd f2 j (f2 d), upd f3 j (f3 d), vp_updL f4 j (f4 d), fo, nI 0, g1, upd g2 j (g2 d), upd g3 j (g3 d), ⟨hw, hy, hz, by omega, RX_drop hRX hj, RM_drop hRM hj, Or.inl rfl⟩, hP, hD, hS⟩ hl
set_option maxHeartbeats 4000000 in
set_option maxRecDepth 100000 in
theorem law_solve {p : Program} {e : Env} {s : State} {m : MethodId} {below : List Frame} {meth : Method} {c0 : Code} (l : Launch) {b L : Nat} {xs : Nat → Int32} {Q : State → Prop} {A : Nat → Prop} {dC : Nat → ClassId} {dI : Nat → Nat → Nat} {ox a1 a2 a3 a4 : Nat} {c1 c2 c3 c4 : ClassId} {om b1 b2 b3 : Nat} {e1 e2 e3 : ClassId} {tt N i : Nat} {H : Heap} {locs : List Loc} {ls : Array Slot} (hL : L ≤ 1537) (hx : p.tables.exec = Jvm.exec) (hb : c0.code = cL_law) (hml : c0.maxLocals = 4) (hown : s.vm.findClass RL = some m.cls) (hts : ∀ w ∈ wsL_law, w.before #[Value.ref b] s = true) (hX : va_X b L xs s s.heap) (hbl : b < s.heap.size) (hbA : ¬ A b) (hA : ∀ q : Nat, s.heap.size ≤ q → A q) (hT : tW RX0 "TAILS_WITH" "[J" tt 6 twv A s s.heap) (hK : va_K (dC, dI) vwCl (xT c1 c2 c3 c4 ++ mT e1 e2 e3) s) (hN : N ≤ 16) (hi : i + 2 < L) (hI : lwI dC dI ox a1 a2 a3 a4 c1 c2 c3 c4 om b1 b2 b3 e1 e2 e3 N A s.heap H locs) (hl : lv_has ls 4 [(0, .ref b), (1, .ref ox), (2, .ref om), (3, .int (nI i))]) (kk : ∀ (H : Heap) (locs : List Loc) (ls : Array Slot), lwI dC dI ox a1 a2 a3 a4 c1 c2 c3 c4 om b1 b2 b3 e1 e2 e3 N A s.heap H locs → lv_has ls 4 [(0, .ref b), (1, .ref ox), (2, .ref om), (3, .int (nI i))] → W p l e room_1 s m #[Value.ref b] below meth c0 H locs 9 2435 Q (F0 m 304 ls [])) : W p l e room_1 s m #[Value.ref b] below meth c0 H locs 9 2435 Q (F0 m 255 ls []) := by
  obtain ⟨w, y, z, c, Y, Z, f1, f2, f3, f4, fo, kn, g1, g2, g3, ⟨hw, hy, hz, hc, hRX, hRM, hkn⟩, hP, hD, hS⟩ := hI
  rcases hkn with hk | ⟨hk, hfo⟩
  · refine lv_aload_n hx hb dL_law_255 rfl (lv_at hl 1 rfl) ?_
    refine vp_callSi (W.runV (As := []) (rest := []) ⟨hx, hb, hml, hown, hts⟩ (c_solve l tt dC dI ox a1 a2 a3 a4 c1 c2 c3 c4 N (N - 6) w y z c f1 f2 f3 f4 hN rfl hw hc hRX) (cwV 0 hts gL_law_X0_solve rfl rfl rfl (by decide +kernel) ⟨by decide +kernel, by decide +kernel⟩) (rT_preV (hP.sub (ws' := (xC ox a1 a2 a3 a4 c1 c2 c3 c4 (nI N) (nI (N - 6)) (nI w) (nI y) (nI z) (nI c) f1 f2 f3 f4)) [0, 1, 2, 3, 4] rfl) (hK.sub (tys' := xT c1 c2 c3 c4) [0, 1, 2, 3] rfl) (hT.kept hS.2.1) (va_recv (q := (RX0, TX0, 10)) (q0 := 0) hK hP rfl rfl)) rfl rfl hl.1 rfl (lv_room (Nat.le_of_ble_eq_true rfl)) dL_law_256 ⟨by decide +kernel, by decide +kernel⟩) (fun rx hrx => ?_)
    rw [PX_both (RX_lt hRX) hw] at hrx
    refine lv_aload_n hx hb dL_law_259 rfl (lv_at hl 2 rfl) ?_
    refine cs_calli (wc := (mC om b1 b2 b3 e1 e2 e3 (nI N) (nI c) (nI y) (nI z) fo kn g1 g2 g3)) (wr := (xC ox a1 a2 a3 a4 c1 c2 c3 c4 (nI N) (nI (N - 6)) (nI w) (nI y) (nI z) (nI c) f1 f2 f3 f4)) (va_runV (As := []) (rest := [.int rx]) ⟨hx, hb, hml, hown, hts⟩ (m_solve l H.size dC dI om b1 b2 b3 e1 e2 e3 N c y z fo kn g1 g2 g3 hRM.2 (RX_lt hRX) hc hN hRM.1 hk) (cwV 0 hts gL_law_X1_solve rfl rfl rfl (by decide +kernel) ⟨by decide +kernel, by decide +kernel⟩) (wW_preV (hP.sub (ws' := (mC om b1 b2 b3 e1 e2 e3 (nI N) (nI c) (nI y) (nI z) fo kn g1 g2 g3)) [5, 6, 7, 8] rfl) (hK.sub (tys' := mT e1 e2 e3) [4, 5, 6] rfl) (hD.sub (ws' := (mC om b1 b2 b3 e1 e2 e3 (nI N) (nI c) (nI y) (nI z) fo kn g1 g2 g3)) [5, 6, 7, 8] (by decide) rfl) (va_recv (q := (RX1, TX1, 9)) (q0 := 5) hK hP rfl rfl)) rfl rfl hl.1 rfl (lv_room (Nat.le_of_ble_eq_true rfl)) dL_law_260 ⟨by decide +kernel, by decide +kernel⟩) hS hA hP hD [5, 6, 7, 8] [0, 1, 2, 3, 4] rfl rfl (by decide) (by decide) (fun rm u H locs hrm hP hD hS => ?_)
    have hP : va_P (dC, dI) vwCl ((xC ox a1 a2 a3 a4 c1 c2 c3 c4 (nI N) (nI (N - 6)) (nI w) (nI y) (nI z) (nI c) f1 f2 f3 f4) ++ (mC om b1 b2 b3 e1 e2 e3 (nI N) (nI c) (nI y) (nI z) (rs (fs (PX c Y Z) w N 0 0)) (nI 1) g1 g2 g3)) H := hP
    have hD : va_D A ((xC ox a1 a2 a3 a4 c1 c2 c3 c4 (nI N) (nI (N - 6)) (nI w) (nI y) (nI z) (nI c) f1 f2 f3 f4) ++ (mC om b1 b2 b3 e1 e2 e3 (nI N) (nI c) (nI y) (nI z) (rs (fs (PX c Y Z) w N 0 0)) (nI 1) g1 g2 g3)) := hD
    refine lv_icmp_eq hx hb dL_law_263 (tgt := 304) (by decide) (fun _ => ?_) (fun hq => absurd (sv_eq (sv_V hN) hrx hrm) hq)
    exact kk H locs ls ⟨w, y, z, c, Y, Z, f1, f2, f3, f4, rs (fs (PX c Y Z) w N 0 0), nI 1, g1, g2, g3, ⟨hw, hy, hz, hc, hRX, hRM, Or.inr ⟨rfl, rfl⟩⟩, hP, hD, hS⟩ hl
  · refine lv_aload_n hx hb dL_law_255 rfl (lv_at hl 1 rfl) ?_
    refine vp_callSi (W.runV (As := []) (rest := []) ⟨hx, hb, hml, hown, hts⟩ (c_solve l tt dC dI ox a1 a2 a3 a4 c1 c2 c3 c4 N (N - 6) w y z c f1 f2 f3 f4 hN rfl hw hc hRX) (cwV 0 hts gL_law_X0_solve rfl rfl rfl (by decide +kernel) ⟨by decide +kernel, by decide +kernel⟩) (rT_preV (hP.sub (ws' := (xC ox a1 a2 a3 a4 c1 c2 c3 c4 (nI N) (nI (N - 6)) (nI w) (nI y) (nI z) (nI c) f1 f2 f3 f4)) [0, 1, 2, 3, 4] rfl) (hK.sub (tys' := xT c1 c2 c3 c4) [0, 1, 2, 3] rfl) (hT.kept hS.2.1) (va_recv (q := (RX0, TX0, 10)) (q0 := 0) hK hP rfl rfl)) rfl rfl hl.1 rfl (lv_room (Nat.le_of_ble_eq_true rfl)) dL_law_256 ⟨by decide +kernel, by decide +kernel⟩) (fun rx hrx => ?_)
    rw [PX_both (RX_lt hRX) hw] at hrx
    refine lv_aload_n hx hb dL_law_259 rfl (lv_at hl 2 rfl) ?_
    refine cs_calli (wc := (mC om b1 b2 b3 e1 e2 e3 (nI N) (nI c) (nI y) (nI z) fo kn g1 g2 g3)) (wr := (xC ox a1 a2 a3 a4 c1 c2 c3 c4 (nI N) (nI (N - 6)) (nI w) (nI y) (nI z) (nI c) f1 f2 f3 f4)) (va_runV (As := []) (rest := [.int rx]) ⟨hx, hb, hml, hown, hts⟩ (m_solve_k l H.size dC dI om b1 b2 b3 e1 e2 e3 N c y z fo kn g1 g2 g3 hk) (cwV 0 hts gL_law_X1_solve rfl rfl rfl (by decide +kernel) ⟨by decide +kernel, by decide +kernel⟩) (wW_preV (hP.sub (ws' := (mC om b1 b2 b3 e1 e2 e3 (nI N) (nI c) (nI y) (nI z) fo kn g1 g2 g3)) [5, 6, 7, 8] rfl) (hK.sub (tys' := mT e1 e2 e3) [4, 5, 6] rfl) (hD.sub (ws' := (mC om b1 b2 b3 e1 e2 e3 (nI N) (nI c) (nI y) (nI z) fo kn g1 g2 g3)) [5, 6, 7, 8] (by decide) rfl) (va_recv (q := (RX1, TX1, 9)) (q0 := 5) hK hP rfl rfl)) rfl rfl hl.1 rfl (lv_room (Nat.le_of_ble_eq_true rfl)) dL_law_260 ⟨by decide +kernel, by decide +kernel⟩) hS hA hP hD [5, 6, 7, 8] [0, 1, 2, 3, 4] rfl rfl (by decide) (by decide) (fun rm u H locs hrm hP hD hS => ?_)
    have hP : va_P (dC, dI) vwCl ((xC ox a1 a2 a3 a4 c1 c2 c3 c4 (nI N) (nI (N - 6)) (nI w) (nI y) (nI z) (nI c) f1 f2 f3 f4) ++ (mC om b1 b2 b3 e1 e2 e3 (nI N) (nI c) (nI y) (nI z) fo (nI 1) g1 g2 g3)) H := hP
    have hD : va_D A ((xC ox a1 a2 a3 a4 c1 c2 c3 c4 (nI N) (nI (N - 6)) (nI w) (nI y) (nI z) (nI c) f1 f2 f3 f4) ++ (mC om b1 b2 b3 e1 e2 e3 (nI N) (nI c) (nI y) (nI z) fo (nI 1) g1 g2 g3)) := hD
    refine lv_icmp_eq hx hb dL_law_263 (tgt := 304) (by decide) (fun _ => ?_) (fun hq => absurd (sv_eq (sv_V hN) hrx (by rw [hfo] at hrm; exact hrm)) hq)
    exact kk H locs ls ⟨w, y, z, c, Y, Z, f1, f2, f3, f4, fo, nI 1, g1, g2, g3, ⟨hw, hy, hz, hc, hRX, hRM, Or.inr ⟨rfl, hfo⟩⟩, hP, hD, hS⟩ hl
set_option maxHeartbeats 4000000 in
set_option maxRecDepth 100000 in
theorem law_answer {p : Program} {e : Env} {s : State} {m : MethodId} {below : List Frame} {meth : Method} {c0 : Code} (l : Launch) {b L : Nat} {xs : Nat → Int32} {Q : State → Prop} {A : Nat → Prop} {dC : Nat → ClassId} {dI : Nat → Nat → Nat} {ox a1 a2 a3 a4 : Nat} {c1 c2 c3 c4 : ClassId} {om b1 b2 b3 : Nat} {e1 e2 e3 : ClassId} {tt N i : Nat} {H : Heap} {locs : List Loc} {ls : Array Slot} (hL : L ≤ 1537) (hx : p.tables.exec = Jvm.exec) (hb : c0.code = cL_law) (hml : c0.maxLocals = 4) (hown : s.vm.findClass RL = some m.cls) (hts : ∀ w ∈ wsL_law, w.before #[Value.ref b] s = true) (hX : va_X b L xs s s.heap) (hbl : b < s.heap.size) (hbA : ¬ A b) (hA : ∀ q : Nat, s.heap.size ≤ q → A q) (hT : tW RX0 "TAILS_WITH" "[J" tt 6 twv A s s.heap) (hK : va_K (dC, dI) vwCl (xT c1 c2 c3 c4 ++ mT e1 e2 e3) s) (hN : N ≤ 16) (hi : i + 2 < L) (hI : lwI dC dI ox a1 a2 a3 a4 c1 c2 c3 c4 om b1 b2 b3 e1 e2 e3 N A s.heap H locs) (hl : lv_has ls 4 [(0, .ref b), (1, .ref ox), (2, .ref om), (3, .int (nI i))]) (kk : ∀ (H : Heap) (locs : List Loc) (ls : Array Slot), lwI dC dI ox a1 a2 a3 a4 c1 c2 c3 c4 om b1 b2 b3 e1 e2 e3 N A s.heap H locs → lv_has ls 4 [(0, .ref b), (1, .ref ox), (2, .ref om), (3, .int (nI i))] → W p l e room_1 s m #[Value.ref b] below meth c0 H locs 9 2435 Q (F0 m 304 ls [])) : W p l e room_1 s m #[Value.ref b] below meth c0 H locs 9 2435 Q (F0 m 268 ls []) := by
  obtain ⟨w, y, z, c, Y, Z, f1, f2, f3, f4, fo, kn, g1, g2, g3, ⟨hw, hy, hz, hc, hRX, hRM, hkn⟩, hP, hD, hS⟩ := hI
  rcases hkn with hk | ⟨hk, hfo⟩
  · refine lv_aload_n hx hb dL_law_268 rfl (lv_at hl 1 rfl) ?_
    refine vp_callSi (W.runV (As := []) (rest := []) ⟨hx, hb, hml, hown, hts⟩ (c_answer l tt dC dI ox a1 a2 a3 a4 c1 c2 c3 c4 N (N - 6) w y z c f1 f2 f3 f4 hN rfl hw hc hRX) (cwV 0 hts gL_law_X0_answer rfl rfl rfl (by decide +kernel) ⟨by decide +kernel, by decide +kernel⟩) (rT_preV (hP.sub (ws' := (xC ox a1 a2 a3 a4 c1 c2 c3 c4 (nI N) (nI (N - 6)) (nI w) (nI y) (nI z) (nI c) f1 f2 f3 f4)) [0, 1, 2, 3, 4] rfl) (hK.sub (tys' := xT c1 c2 c3 c4) [0, 1, 2, 3] rfl) (hT.kept hS.2.1) (va_recv (q := (RX0, TX0, 10)) (q0 := 0) hK hP rfl rfl)) rfl rfl hl.1 rfl (lv_room (Nat.le_of_ble_eq_true rfl)) dL_law_269 ⟨by decide +kernel, by decide +kernel⟩) (fun rx hrx => ?_)
    rw [PX_both (RX_lt hRX) hw] at hrx
    subst hrx
    refine lv_aload_n hx hb dL_law_272 rfl (lv_at hl 2 rfl) ?_
    refine cs_calli (wc := (mC om b1 b2 b3 e1 e2 e3 (nI N) (nI c) (nI y) (nI z) fo kn g1 g2 g3)) (wr := (xC ox a1 a2 a3 a4 c1 c2 c3 c4 (nI N) (nI (N - 6)) (nI w) (nI y) (nI z) (nI c) f1 f2 f3 f4)) (va_runV (As := []) (rest := [.int (rs (fs (PX c Y Z) w N 0 0))]) ⟨hx, hb, hml, hown, hts⟩ (m_answer l H.size dC dI om b1 b2 b3 e1 e2 e3 N c y z fo kn g1 g2 g3 hRM.2 (RX_lt hRX) hc hN hRM.1 hk) (cwV 0 hts gL_law_X1_answer rfl rfl rfl (by decide +kernel) ⟨by decide +kernel, by decide +kernel⟩) (wW_preV (hP.sub (ws' := (mC om b1 b2 b3 e1 e2 e3 (nI N) (nI c) (nI y) (nI z) fo kn g1 g2 g3)) [5, 6, 7, 8] rfl) (hK.sub (tys' := mT e1 e2 e3) [4, 5, 6] rfl) (hD.sub (ws' := (mC om b1 b2 b3 e1 e2 e3 (nI N) (nI c) (nI y) (nI z) fo kn g1 g2 g3)) [5, 6, 7, 8] (by decide) rfl) (va_recv (q := (RX1, TX1, 9)) (q0 := 5) hK hP rfl rfl)) rfl rfl hl.1 rfl (lv_room (Nat.le_of_ble_eq_true rfl)) dL_law_273 ⟨by decide +kernel, by decide +kernel⟩) hS hA hP hD [5, 6, 7, 8] [0, 1, 2, 3, 4] rfl rfl (by decide) (by decide) (fun rm u H locs hrm hP hD hS => ?_)
    have hP : va_P (dC, dI) vwCl ((xC ox a1 a2 a3 a4 c1 c2 c3 c4 (nI N) (nI (N - 6)) (nI w) (nI y) (nI z) (nI c) f1 f2 f3 f4) ++ (mC om b1 b2 b3 e1 e2 e3 (nI N) (nI c) (nI y) (nI z) (rs (fs (PX c Y Z) w N 0 0)) (nI 1) g1 g2 g3)) H := hP
    have hD : va_D A ((xC ox a1 a2 a3 a4 c1 c2 c3 c4 (nI N) (nI (N - 6)) (nI w) (nI y) (nI z) (nI c) f1 f2 f3 f4) ++ (mC om b1 b2 b3 e1 e2 e3 (nI N) (nI c) (nI y) (nI z) (rs (fs (PX c Y Z) w N 0 0)) (nI 1) g1 g2 g3)) := hD
    subst hrm
    refine lv_icmp_eq hx hb dL_law_276 (tgt := 304) (by decide) (fun _ => ?_) (fun hq => absurd (rfl) hq)
    exact kk H locs ls ⟨w, y, z, c, Y, Z, f1, f2, f3, f4, rs (fs (PX c Y Z) w N 0 0), nI 1, g1, g2, g3, ⟨hw, hy, hz, hc, hRX, hRM, Or.inr ⟨rfl, rfl⟩⟩, hP, hD, hS⟩ hl
  · refine lv_aload_n hx hb dL_law_268 rfl (lv_at hl 1 rfl) ?_
    refine vp_callSi (W.runV (As := []) (rest := []) ⟨hx, hb, hml, hown, hts⟩ (c_answer l tt dC dI ox a1 a2 a3 a4 c1 c2 c3 c4 N (N - 6) w y z c f1 f2 f3 f4 hN rfl hw hc hRX) (cwV 0 hts gL_law_X0_answer rfl rfl rfl (by decide +kernel) ⟨by decide +kernel, by decide +kernel⟩) (rT_preV (hP.sub (ws' := (xC ox a1 a2 a3 a4 c1 c2 c3 c4 (nI N) (nI (N - 6)) (nI w) (nI y) (nI z) (nI c) f1 f2 f3 f4)) [0, 1, 2, 3, 4] rfl) (hK.sub (tys' := xT c1 c2 c3 c4) [0, 1, 2, 3] rfl) (hT.kept hS.2.1) (va_recv (q := (RX0, TX0, 10)) (q0 := 0) hK hP rfl rfl)) rfl rfl hl.1 rfl (lv_room (Nat.le_of_ble_eq_true rfl)) dL_law_269 ⟨by decide +kernel, by decide +kernel⟩) (fun rx hrx => ?_)
    rw [PX_both (RX_lt hRX) hw] at hrx
    subst hrx
    refine lv_aload_n hx hb dL_law_272 rfl (lv_at hl 2 rfl) ?_
    refine cs_calli (wc := (mC om b1 b2 b3 e1 e2 e3 (nI N) (nI c) (nI y) (nI z) fo kn g1 g2 g3)) (wr := (xC ox a1 a2 a3 a4 c1 c2 c3 c4 (nI N) (nI (N - 6)) (nI w) (nI y) (nI z) (nI c) f1 f2 f3 f4)) (va_runV (As := []) (rest := [.int (rs (fs (PX c Y Z) w N 0 0))]) ⟨hx, hb, hml, hown, hts⟩ (m_answer_k l H.size dC dI om b1 b2 b3 e1 e2 e3 N c y z fo kn g1 g2 g3 hk) (cwV 0 hts gL_law_X1_answer rfl rfl rfl (by decide +kernel) ⟨by decide +kernel, by decide +kernel⟩) (wW_preV (hP.sub (ws' := (mC om b1 b2 b3 e1 e2 e3 (nI N) (nI c) (nI y) (nI z) fo kn g1 g2 g3)) [5, 6, 7, 8] rfl) (hK.sub (tys' := mT e1 e2 e3) [4, 5, 6] rfl) (hD.sub (ws' := (mC om b1 b2 b3 e1 e2 e3 (nI N) (nI c) (nI y) (nI z) fo kn g1 g2 g3)) [5, 6, 7, 8] (by decide) rfl) (va_recv (q := (RX1, TX1, 9)) (q0 := 5) hK hP rfl rfl)) rfl rfl hl.1 rfl (lv_room (Nat.le_of_ble_eq_true rfl)) dL_law_273 ⟨by decide +kernel, by decide +kernel⟩) hS hA hP hD [5, 6, 7, 8] [0, 1, 2, 3, 4] rfl rfl (by decide) (by decide) (fun rm u H locs hrm hP hD hS => ?_)
    have hP : va_P (dC, dI) vwCl ((xC ox a1 a2 a3 a4 c1 c2 c3 c4 (nI N) (nI (N - 6)) (nI w) (nI y) (nI z) (nI c) f1 f2 f3 f4) ++ (mC om b1 b2 b3 e1 e2 e3 (nI N) (nI c) (nI y) (nI z) fo (nI 1) g1 g2 g3)) H := hP
    have hD : va_D A ((xC ox a1 a2 a3 a4 c1 c2 c3 c4 (nI N) (nI (N - 6)) (nI w) (nI y) (nI z) (nI c) f1 f2 f3 f4) ++ (mC om b1 b2 b3 e1 e2 e3 (nI N) (nI c) (nI y) (nI z) fo (nI 1) g1 g2 g3)) := hD
    refine lv_icmp_eq hx hb dL_law_276 (tgt := 304) (by decide) (fun _ => ?_) (fun hq => absurd ((hrm.trans hfo).symm) hq)
    exact kk H locs ls ⟨w, y, z, c, Y, Z, f1, f2, f3, f4, fo, nI 1, g1, g2, g3, ⟨hw, hy, hz, hc, hRX, hRM, Or.inr ⟨rfl, hfo⟩⟩, hP, hD, hS⟩ hl
set_option maxHeartbeats 4000000 in
set_option maxRecDepth 100000 in
theorem law_count {p : Program} {e : Env} {s : State} {m : MethodId} {below : List Frame} {meth : Method} {c0 : Code} (l : Launch) {b L : Nat} {xs : Nat → Int32} {Q : State → Prop} {A : Nat → Prop} {dC : Nat → ClassId} {dI : Nat → Nat → Nat} {ox a1 a2 a3 a4 : Nat} {c1 c2 c3 c4 : ClassId} {om b1 b2 b3 : Nat} {e1 e2 e3 : ClassId} {tt N i : Nat} {H : Heap} {locs : List Loc} {ls : Array Slot} (hL : L ≤ 1537) (hx : p.tables.exec = Jvm.exec) (hb : c0.code = cL_law) (hml : c0.maxLocals = 4) (hown : s.vm.findClass RL = some m.cls) (hts : ∀ w ∈ wsL_law, w.before #[Value.ref b] s = true) (hX : va_X b L xs s s.heap) (hbl : b < s.heap.size) (hbA : ¬ A b) (hA : ∀ q : Nat, s.heap.size ≤ q → A q) (hT : tW RX0 "TAILS_WITH" "[J" tt 6 twv A s s.heap) (hK : va_K (dC, dI) vwCl (xT c1 c2 c3 c4 ++ mT e1 e2 e3) s) (hN : N ≤ 16) (hi : i + 2 < L) (hI : lwI dC dI ox a1 a2 a3 a4 c1 c2 c3 c4 om b1 b2 b3 e1 e2 e3 N A s.heap H locs) (hl : lv_has ls 4 [(0, .ref b), (1, .ref ox), (2, .ref om), (3, .int (nI i))]) (kk : ∀ (H : Heap) (locs : List Loc) (ls : Array Slot), lwI dC dI ox a1 a2 a3 a4 c1 c2 c3 c4 om b1 b2 b3 e1 e2 e3 N A s.heap H locs → lv_has ls 4 [(0, .ref b), (1, .ref ox), (2, .ref om), (3, .int (nI i))] → W p l e room_1 s m #[Value.ref b] below meth c0 H locs 9 2435 Q (F0 m 304 ls [])) : W p l e room_1 s m #[Value.ref b] below meth c0 H locs 9 2435 Q (F0 m 281 ls []) := by
  obtain ⟨w, y, z, c, Y, Z, f1, f2, f3, f4, fo, kn, g1, g2, g3, ⟨hw, hy, hz, hc, hRX, hRM, hkn⟩, hP, hD, hS⟩ := hI
  rcases ct_c (xs (i + 1)) with hv | hv | hv | hv
  · refine lv_aload_n hx hb dL_law_281 rfl (lv_at hl 1 rfl) ?_
    refine lv_aload_n hx hb dL_law_282 rfl (lv_at hl 0 rfl) ?_
    refine lv_iload_n hx hb dL_law_283 rfl (lv_at hl 3 rfl) ?_
    refine lv_iconst (v := nI 1) hx hb dL_law_284 (by decide) ?_
    refine lv_iadd hx hb dL_law_285 ?_
    refine cs_top (y := nI (i + 1)) (nI_add i 1) ?_
    refine va_sld (i := nI (i + 1)) hx hb hX hbl hbA hS (vp_in_nI (by omega) (by omega)) dL_law_286 ?_
    refine cs_top (y := xs (i + 1)) (congrArg xs (nI_clamp (by omega))) ?_
    refine cs_top (y := nI 0) (hv) ?_
    refine vp_callSi (W.runV (As := [.int (nI 0)]) (rest := []) ⟨hx, hb, hml, hown, hts⟩ (c_count0 l dC dI ox a1 a2 a3 a4 c1 c2 c3 c4 N (N - 6) w y z c f1 f2 f3 f4 hN hy hz) (cwV 1 hts gL_law_X0_count rfl rfl rfl (by decide +kernel) ⟨by decide +kernel, by decide +kernel⟩) (rW_preV (hP.sub (ws' := (xC ox a1 a2 a3 a4 c1 c2 c3 c4 (nI N) (nI (N - 6)) (nI w) (nI y) (nI z) (nI c) f1 f2 f3 f4)) [0, 1, 2, 3, 4] rfl) (hK.sub (tys' := xT c1 c2 c3 c4) [0, 1, 2, 3] rfl) (va_recv (q := (RX0, TX0, 10)) (q0 := 0) hK hP rfl rfl)) rfl rfl hl.1 rfl (lv_room (Nat.le_of_ble_eq_true rfl)) dL_law_287 ⟨by decide +kernel, by decide +kernel⟩) (fun r0 hr0 => ?_)
    subst hr0
    refine lv_aload_n hx hb dL_law_290 rfl (lv_at hl 2 rfl) ?_
    refine lv_aload_n hx hb dL_law_291 rfl (lv_at hl 0 rfl) ?_
    refine lv_iload_n hx hb dL_law_292 rfl (lv_at hl 3 rfl) ?_
    refine lv_iconst (v := nI 1) hx hb dL_law_293 (by decide) ?_
    refine lv_iadd hx hb dL_law_294 ?_
    refine cs_top (y := nI (i + 1)) (nI_add i 1) ?_
    refine va_sld (i := nI (i + 1)) hx hb hX hbl hbA hS (vp_in_nI (by omega) (by omega)) dL_law_295 ?_
    refine cs_top (y := xs (i + 1)) (congrArg xs (nI_clamp (by omega))) ?_
    refine cs_top (y := nI 0) (hv) ?_
    refine vp_callSi (W.runV (As := [.int (nI 0)]) (rest := [.int (nI N)]) ⟨hx, hb, hml, hown, hts⟩ (m_count0 l dC dI om b1 b2 b3 e1 e2 e3 N c y z fo kn g1 g2 g3 hN hy hz) (cwV 1 hts gL_law_X1_count rfl rfl rfl (by decide +kernel) ⟨by decide +kernel, by decide +kernel⟩) (rW_preV (hP.sub (ws' := (mC om b1 b2 b3 e1 e2 e3 (nI N) (nI c) (nI y) (nI z) fo kn g1 g2 g3)) [5, 6, 7, 8] rfl) (hK.sub (tys' := mT e1 e2 e3) [4, 5, 6] rfl) (va_recv (q := (RX1, TX1, 9)) (q0 := 5) hK hP rfl rfl)) rfl rfl hl.1 rfl (lv_room (Nat.le_of_ble_eq_true rfl)) dL_law_296 ⟨by decide +kernel, by decide +kernel⟩) (fun r0 hr0 => ?_)
    subst hr0
    refine lv_icmp_eq hx hb dL_law_299 (tgt := 304) (by decide) (fun _ => ?_) (fun hq => absurd (rfl) hq)
    exact kk H locs ls ⟨w, y, z, c, Y, Z, f1, f2, f3, f4, fo, kn, g1, g2, g3, ⟨hw, hy, hz, hc, hRX, hRM, hkn⟩, hP, hD, hS⟩ hl
  · refine lv_aload_n hx hb dL_law_281 rfl (lv_at hl 1 rfl) ?_
    refine lv_aload_n hx hb dL_law_282 rfl (lv_at hl 0 rfl) ?_
    refine lv_iload_n hx hb dL_law_283 rfl (lv_at hl 3 rfl) ?_
    refine lv_iconst (v := nI 1) hx hb dL_law_284 (by decide) ?_
    refine lv_iadd hx hb dL_law_285 ?_
    refine cs_top (y := nI (i + 1)) (nI_add i 1) ?_
    refine va_sld (i := nI (i + 1)) hx hb hX hbl hbA hS (vp_in_nI (by omega) (by omega)) dL_law_286 ?_
    refine cs_top (y := xs (i + 1)) (congrArg xs (nI_clamp (by omega))) ?_
    refine cs_top (y := nI 1) (hv) ?_
    refine vp_callSi (W.runV (As := [.int (nI 1)]) (rest := []) ⟨hx, hb, hml, hown, hts⟩ (c_count1 l dC dI ox a1 a2 a3 a4 c1 c2 c3 c4 N (N - 6) w y z c f1 f2 f3 f4 hN hy hz) (cwV 1 hts gL_law_X0_count rfl rfl rfl (by decide +kernel) ⟨by decide +kernel, by decide +kernel⟩) (rW_preV (hP.sub (ws' := (xC ox a1 a2 a3 a4 c1 c2 c3 c4 (nI N) (nI (N - 6)) (nI w) (nI y) (nI z) (nI c) f1 f2 f3 f4)) [0, 1, 2, 3, 4] rfl) (hK.sub (tys' := xT c1 c2 c3 c4) [0, 1, 2, 3] rfl) (va_recv (q := (RX0, TX0, 10)) (q0 := 0) hK hP rfl rfl)) rfl rfl hl.1 rfl (lv_room (Nat.le_of_ble_eq_true rfl)) dL_law_287 ⟨by decide +kernel, by decide +kernel⟩) (fun r0 hr0 => ?_)
    subst hr0
    refine lv_aload_n hx hb dL_law_290 rfl (lv_at hl 2 rfl) ?_
    refine lv_aload_n hx hb dL_law_291 rfl (lv_at hl 0 rfl) ?_
    refine lv_iload_n hx hb dL_law_292 rfl (lv_at hl 3 rfl) ?_
    refine lv_iconst (v := nI 1) hx hb dL_law_293 (by decide) ?_
    refine lv_iadd hx hb dL_law_294 ?_
    refine cs_top (y := nI (i + 1)) (nI_add i 1) ?_
    refine va_sld (i := nI (i + 1)) hx hb hX hbl hbA hS (vp_in_nI (by omega) (by omega)) dL_law_295 ?_
    refine cs_top (y := xs (i + 1)) (congrArg xs (nI_clamp (by omega))) ?_
    refine cs_top (y := nI 1) (hv) ?_
    refine vp_callSi (W.runV (As := [.int (nI 1)]) (rest := [.int (nI c)]) ⟨hx, hb, hml, hown, hts⟩ (m_count1 l dC dI om b1 b2 b3 e1 e2 e3 N c y z fo kn g1 g2 g3 hN hy hz) (cwV 1 hts gL_law_X1_count rfl rfl rfl (by decide +kernel) ⟨by decide +kernel, by decide +kernel⟩) (rW_preV (hP.sub (ws' := (mC om b1 b2 b3 e1 e2 e3 (nI N) (nI c) (nI y) (nI z) fo kn g1 g2 g3)) [5, 6, 7, 8] rfl) (hK.sub (tys' := mT e1 e2 e3) [4, 5, 6] rfl) (va_recv (q := (RX1, TX1, 9)) (q0 := 5) hK hP rfl rfl)) rfl rfl hl.1 rfl (lv_room (Nat.le_of_ble_eq_true rfl)) dL_law_296 ⟨by decide +kernel, by decide +kernel⟩) (fun r0 hr0 => ?_)
    subst hr0
    refine lv_icmp_eq hx hb dL_law_299 (tgt := 304) (by decide) (fun _ => ?_) (fun hq => absurd (rfl) hq)
    exact kk H locs ls ⟨w, y, z, c, Y, Z, f1, f2, f3, f4, fo, kn, g1, g2, g3, ⟨hw, hy, hz, hc, hRX, hRM, hkn⟩, hP, hD, hS⟩ hl
  · refine lv_aload_n hx hb dL_law_281 rfl (lv_at hl 1 rfl) ?_
    refine lv_aload_n hx hb dL_law_282 rfl (lv_at hl 0 rfl) ?_
    refine lv_iload_n hx hb dL_law_283 rfl (lv_at hl 3 rfl) ?_
    refine lv_iconst (v := nI 1) hx hb dL_law_284 (by decide) ?_
    refine lv_iadd hx hb dL_law_285 ?_
    refine cs_top (y := nI (i + 1)) (nI_add i 1) ?_
    refine va_sld (i := nI (i + 1)) hx hb hX hbl hbA hS (vp_in_nI (by omega) (by omega)) dL_law_286 ?_
    refine cs_top (y := xs (i + 1)) (congrArg xs (nI_clamp (by omega))) ?_
    refine cs_top (y := nI 2) (hv) ?_
    refine vp_callSi (W.runV (As := [.int (nI 2)]) (rest := []) ⟨hx, hb, hml, hown, hts⟩ (c_count2 l dC dI ox a1 a2 a3 a4 c1 c2 c3 c4 N (N - 6) w y z c f1 f2 f3 f4 hN hy hz) (cwV 1 hts gL_law_X0_count rfl rfl rfl (by decide +kernel) ⟨by decide +kernel, by decide +kernel⟩) (rW_preV (hP.sub (ws' := (xC ox a1 a2 a3 a4 c1 c2 c3 c4 (nI N) (nI (N - 6)) (nI w) (nI y) (nI z) (nI c) f1 f2 f3 f4)) [0, 1, 2, 3, 4] rfl) (hK.sub (tys' := xT c1 c2 c3 c4) [0, 1, 2, 3] rfl) (va_recv (q := (RX0, TX0, 10)) (q0 := 0) hK hP rfl rfl)) rfl rfl hl.1 rfl (lv_room (Nat.le_of_ble_eq_true rfl)) dL_law_287 ⟨by decide +kernel, by decide +kernel⟩) (fun r0 hr0 => ?_)
    subst hr0
    refine lv_aload_n hx hb dL_law_290 rfl (lv_at hl 2 rfl) ?_
    refine lv_aload_n hx hb dL_law_291 rfl (lv_at hl 0 rfl) ?_
    refine lv_iload_n hx hb dL_law_292 rfl (lv_at hl 3 rfl) ?_
    refine lv_iconst (v := nI 1) hx hb dL_law_293 (by decide) ?_
    refine lv_iadd hx hb dL_law_294 ?_
    refine cs_top (y := nI (i + 1)) (nI_add i 1) ?_
    refine va_sld (i := nI (i + 1)) hx hb hX hbl hbA hS (vp_in_nI (by omega) (by omega)) dL_law_295 ?_
    refine cs_top (y := xs (i + 1)) (congrArg xs (nI_clamp (by omega))) ?_
    refine cs_top (y := nI 2) (hv) ?_
    refine vp_callSi (W.runV (As := [.int (nI 2)]) (rest := [.int (nI (pcs y 16 + pcs z 16))]) ⟨hx, hb, hml, hown, hts⟩ (m_count2 l dC dI om b1 b2 b3 e1 e2 e3 N c y z fo kn g1 g2 g3 hN hy hz) (cwV 1 hts gL_law_X1_count rfl rfl rfl (by decide +kernel) ⟨by decide +kernel, by decide +kernel⟩) (rW_preV (hP.sub (ws' := (mC om b1 b2 b3 e1 e2 e3 (nI N) (nI c) (nI y) (nI z) fo kn g1 g2 g3)) [5, 6, 7, 8] rfl) (hK.sub (tys' := mT e1 e2 e3) [4, 5, 6] rfl) (va_recv (q := (RX1, TX1, 9)) (q0 := 5) hK hP rfl rfl)) rfl rfl hl.1 rfl (lv_room (Nat.le_of_ble_eq_true rfl)) dL_law_296 ⟨by decide +kernel, by decide +kernel⟩) (fun r0 hr0 => ?_)
    subst hr0
    refine lv_icmp_eq hx hb dL_law_299 (tgt := 304) (by decide) (fun _ => ?_) (fun hq => absurd (rfl) hq)
    exact kk H locs ls ⟨w, y, z, c, Y, Z, f1, f2, f3, f4, fo, kn, g1, g2, g3, ⟨hw, hy, hz, hc, hRX, hRM, hkn⟩, hP, hD, hS⟩ hl
  · refine lv_aload_n hx hb dL_law_281 rfl (lv_at hl 1 rfl) ?_
    refine lv_aload_n hx hb dL_law_282 rfl (lv_at hl 0 rfl) ?_
    refine lv_iload_n hx hb dL_law_283 rfl (lv_at hl 3 rfl) ?_
    refine lv_iconst (v := nI 1) hx hb dL_law_284 (by decide) ?_
    refine lv_iadd hx hb dL_law_285 ?_
    refine cs_top (y := nI (i + 1)) (nI_add i 1) ?_
    refine va_sld (i := nI (i + 1)) hx hb hX hbl hbA hS (vp_in_nI (by omega) (by omega)) dL_law_286 ?_
    refine cs_top (y := xs (i + 1)) (congrArg xs (nI_clamp (by omega))) ?_
    refine vp_callSi (W.runV (As := [.int (xs (i + 1))]) (rest := []) ⟨hx, hb, hml, hown, hts⟩ (c_count_out l dC dI ox a1 a2 a3 a4 c1 c2 c3 c4 N (N - 6) w y z c f1 f2 f3 f4 hv) (cwV 1 hts gL_law_X0_count rfl rfl rfl (by decide +kernel) ⟨by decide +kernel, by decide +kernel⟩) (rW_preV (hP.sub (ws' := (xC ox a1 a2 a3 a4 c1 c2 c3 c4 (nI N) (nI (N - 6)) (nI w) (nI y) (nI z) (nI c) f1 f2 f3 f4)) [0, 1, 2, 3, 4] rfl) (hK.sub (tys' := xT c1 c2 c3 c4) [0, 1, 2, 3] rfl) (va_recv (q := (RX0, TX0, 10)) (q0 := 0) hK hP rfl rfl)) rfl rfl hl.1 rfl (lv_room (Nat.le_of_ble_eq_true rfl)) dL_law_287 ⟨by decide +kernel, by decide +kernel⟩) (fun r0 hr0 => ?_)
    subst hr0
    refine lv_aload_n hx hb dL_law_290 rfl (lv_at hl 2 rfl) ?_
    refine lv_aload_n hx hb dL_law_291 rfl (lv_at hl 0 rfl) ?_
    refine lv_iload_n hx hb dL_law_292 rfl (lv_at hl 3 rfl) ?_
    refine lv_iconst (v := nI 1) hx hb dL_law_293 (by decide) ?_
    refine lv_iadd hx hb dL_law_294 ?_
    refine cs_top (y := nI (i + 1)) (nI_add i 1) ?_
    refine va_sld (i := nI (i + 1)) hx hb hX hbl hbA hS (vp_in_nI (by omega) (by omega)) dL_law_295 ?_
    refine cs_top (y := xs (i + 1)) (congrArg xs (nI_clamp (by omega))) ?_
    refine vp_callSi (W.runV (As := [.int (xs (i + 1))]) (rest := [.int (-1)]) ⟨hx, hb, hml, hown, hts⟩ (m_count_out l dC dI om b1 b2 b3 e1 e2 e3 N c y z fo kn g1 g2 g3 hv) (cwV 1 hts gL_law_X1_count rfl rfl rfl (by decide +kernel) ⟨by decide +kernel, by decide +kernel⟩) (rW_preV (hP.sub (ws' := (mC om b1 b2 b3 e1 e2 e3 (nI N) (nI c) (nI y) (nI z) fo kn g1 g2 g3)) [5, 6, 7, 8] rfl) (hK.sub (tys' := mT e1 e2 e3) [4, 5, 6] rfl) (va_recv (q := (RX1, TX1, 9)) (q0 := 5) hK hP rfl rfl)) rfl rfl hl.1 rfl (lv_room (Nat.le_of_ble_eq_true rfl)) dL_law_296 ⟨by decide +kernel, by decide +kernel⟩) (fun r0 hr0 => ?_)
    subst hr0
    refine lv_icmp_eq hx hb dL_law_299 (tgt := 304) (by decide) (fun _ => ?_) (fun hq => absurd (rfl) hq)
    exact kk H locs ls ⟨w, y, z, c, Y, Z, f1, f2, f3, f4, fo, kn, g1, g2, g3, ⟨hw, hy, hz, hc, hRX, hRM, hkn⟩, hP, hD, hS⟩ hl
end
section
/-! THE CLAIM OUT OF ONE WALK OF THE LAW'S BODY. Your part is whole_start (and what it stands on); all else here is the same for every law, but numbers. -/
def R_law : String := "ClauseSolverLaw"
def lw_P (b : Addr) (xs : List Int32) (args : Array Value) (s : State) : Prop := args = #[.ref b] ∧ s.IntsAt b xs ∧ xs.length ≤ 1537 ∧ (Jvm.Cond.and given_1 narrow_1).before args s = true
def lw_Q (_ : Array Value) (s : State) (o : Outcome) (t : State) : Prop := o = .returned (some (.int 1)) ∧ Framed s o t [] 600000 7302250
def lw_Z (below : List Frame) (a : Array Value) (s : State) : State → Prop := fun t => ∃ o, t.status = .running ∧ Ended t below o ∧ lw_Q a s o t
/-- the law's own end, with 1 on the stack, nothing written that was there before, its room as the claim has it -/
theorem lw_ret {p : Program} {l : Launch} {e : Env} {s : State} {m : MethodId} {below : List Frame} {meth : Method} {c : Code} {b : Nat} (hx : p.tables.exec = Jvm.exec) (hb : c.code = code) (hr : meth.sig.returnType = ret) (hlocks : meth.locks = false) {pc : Nat} {H : Heap} {ls : Array Slot} (hdg : decode code pc = .ok (.ireturn, 1)) : W p l e room_1 s m #[Value.ref b] below meth c H [] 600000 7302250 (lw_Z below #[Value.ref b] s) (F0 m pc ls [.int 1]) := by
  intro T hT X
  obtain ⟨fs, hret, hrun, hended, hW, hframe⟩ := X.leave (v := some (.int 1)) (hlocks := hlocks) (fun h => by rw [hr] at h; cases h)
  have hmeth' : T.vm.method? m = some meth := X.method'
  refine ⟨T.setFrames fs, ?_, .returned (some (.int 1)), hrun, hended, rfl, ⟨_, rfl⟩, hW, hframe⟩
  jvm_step X.here [X.here.top, hx, hb, hdg, hmeth', hr, ret, narrow_b1]
  (try refine ⟨rfl, ?_⟩); (try refine ⟨rfl, ?_⟩)
  first | (intro acts; rw [hret _ acts rfl rfl rfl]) | rw [hret _ _ rfl rfl rfl]
  exact Steps.refl _
/-- what holds at the law's entry: the machine, the code, the tables' words (any of lw_tbl by 'hts w (by decide +kernel)'), the script of L ints xs at the cell b, what the Statement gives of the start (any of its parts by flat_of_before) -/
def lw_At (p : Program) (s : State) (m : MethodId) (meth : Method) (c : Code) (b L : Nat) (xs : Nat → Int32) : Prop :=
  p.tables.exec = Jvm.exec ∧ c.code = code ∧ meth.sig.returnType = ret ∧ c.maxLocals = 4 ∧ s.vm.findClass R_law = some m.cls ∧ (∀ w ∈ lw_tbl, w.before #[Value.ref b] s = true) ∧ va_X b L xs s s.heap ∧ b < s.heap.size ∧ meth.locks = false ∧ (Jvm.Cond.and given_1 narrow_1).before #[Value.ref b] s = true
theorem lw_gt {i L : Nat} (h : ¬ i + 3 ≤ L) (hL : L ≤ 1537) (hi : i ≤ 1537) : nI L - nI 3 < nI i := by
  rw [Int32.lt_iff_toInt_lt, pk_sub_toInt (by omega) (by omega), nI_toInt (by omega)]
  omega
set_option maxHeartbeats 4000000 in
set_option maxRecDepth 100000 in
theorem law_loop {p : Program} {e : Env} {s : State} {m : MethodId} {below : List Frame} {meth : Method} {c0 : Code} (l : Launch) {b L : Nat} {xs : Nat → Int32} {A : Nat → Prop} {dC : Nat → ClassId} {dI : Nat → Nat → Nat} {ox a1 a2 a3 a4 : Nat} {c1 c2 c3 c4 : ClassId} {om b1 b2 b3 : Nat} {e1 e2 e3 : ClassId} {tt N : Nat} (hL : L ≤ 1537) (hx : p.tables.exec = Jvm.exec) (hb : c0.code = cL_law) (hml : c0.maxLocals = 4) (hown : s.vm.findClass RL = some m.cls) (hts : ∀ w ∈ wsL_law, w.before #[Value.ref b] s = true) (hX : va_X b L xs s s.heap) (hbl : b < s.heap.size) (hbA : ¬ A b) (hA : ∀ q : Nat, s.heap.size ≤ q → A q) (hT : tW RX0 "TAILS_WITH" "[J" tt 6 twv A s s.heap) (hK : va_K (dC, dI) vwCl (xT c1 c2 c3 c4 ++ mT e1 e2 e3) s) (hN : N ≤ 16) (hAs : ∀ q : Nat, A q → s.heap.size ≤ q) (hr : meth.sig.returnType = ret) (hlocks : meth.locks = false) : ∀ (n i : Nat) (H : Heap) (locs : List Loc) (ls : Array Slot), L - i ≤ n → i ≤ 1537 → lwI dC dI ox a1 a2 a3 a4 c1 c2 c3 c4 om b1 b2 b3 e1 e2 e3 N A s.heap H locs → lv_has ls 4 [(0, .ref b), (1, .ref ox), (2, .ref om), (3, .int (nI i))] → W p l e room_1 s m #[Value.ref b] below meth c0 H locs 9 2435 (lw_Z below #[Value.ref b] s) (F0 m 28 ls []) := by
  intro n
  induction n with
  | zero =>
    intro i H locs ls hn hi hI hl
    obtain ⟨w, y, z, c, Y, Z, f1, f2, f3, f4, fo, kn, g1, g2, g3, -, hP, hD, hS⟩ := hI
    refine lv_iload_n hx hb dL_law_28 rfl (lv_at hl 3 rfl) ?_
    refine lv_aload_n hx hb dL_law_29 rfl (lv_at hl 0 rfl) ?_
    refine va_slen hx hb hX hbl hbA hS dL_law_30 ?_
    refine cs_top (y := nI L) (rfl) ?_
    refine lv_iconst (v := nI 3) hx hb dL_law_31 (by decide) ?_
    refine lv_isub hx hb dL_law_32 ?_
    refine lv_icmp_gt hx hb dL_law_33 (tgt := 310) (by decide) (fun _ => ?_) (fun hq => absurd (lw_gt (by omega) hL hi) hq)
    refine va_forget (fun q hq => hAs _ (hS.2.2 q hq)) ?_
    refine W.widen (k := 600000) (n := 7302250) (by decide) (by decide) ?_
    refine lv_iconst (v := 1) hx hb dL_law_310 (by decide) ?_
    exact lw_ret hx hb hr hlocks dL_law_311
  | succ n ih =>
    intro i H locs ls hn hi hI hl
    have hI2 := hI
    obtain ⟨w, y, z, c, Y, Z, f1, f2, f3, f4, fo, kn, g1, g2, g3, -, hP, hD, hS⟩ := hI2
    refine lv_iload_n hx hb dL_law_28 rfl (lv_at hl 3 rfl) ?_
    refine lv_aload_n hx hb dL_law_29 rfl (lv_at hl 0 rfl) ?_
    refine va_slen hx hb hX hbl hbA hS dL_law_30 ?_
    refine cs_top (y := nI L) (rfl) ?_
    refine lv_iconst (v := nI 3) hx hb dL_law_31 (by decide) ?_
    refine lv_isub hx hb dL_law_32 ?_
    by_cases h3 : i + 3 ≤ L
    · refine cs_top (y := nI (L - 3)) (pk_sub (by omega)) ?_
      refine lv_icmp_gt hx hb dL_law_33 (tgt := 310) (by decide) (fun hq => absurd hq (nI_nlt (by omega) (by omega))) (fun _ => ?_)
      refine lv_aload_n hx hb dL_law_36 rfl (lv_at hl 0 rfl) ?_
      refine lv_iload_n hx hb dL_law_37 rfl (lv_at hl 3 rfl) ?_
      refine va_sld (i := nI i) hx hb hX hbl hbA hS (vp_in_nI (by omega) (by omega)) dL_law_38 ?_
      refine cs_top (y := xs i) (congrArg xs (nI_clamp (by omega))) ?_
      refine lv_bipush (v := nI 7) hx hb dL_law_39 (by decide) ?_
      refine lv_iand hx hb dL_law_41 ?_
      obtain ⟨j, hj, ej⟩ := pk_andE (xs i) (m := nI 7) 3 (by decide)
      refine cs_top (y := nI j) (ej) ?_
      have kk : ∀ (H : Heap) (locs : List Loc) (ls : Array Slot), lwI dC dI ox a1 a2 a3 a4 c1 c2 c3 c4 om b1 b2 b3 e1 e2 e3 N A s.heap H locs → lv_has ls 4 [(0, .ref b), (1, .ref ox), (2, .ref om), (3, .int (nI i))] → W p l e room_1 s m #[Value.ref b] below meth c0 H locs 9 2435 (lw_Z below #[Value.ref b] s) (F0 m 304 ls []) := by
        intro H locs ls hI hl
        refine lv_iinc (v := nI (i + 3)) hx hb dL_law_304 hl (k := 3) rfl (cs_inc _ 3) (by decide) rfl (fun ls hl => ?_)
        have hl : lv_has ls 4 [(3, .int (nI (i + 3))), (0, .ref b), (1, .ref ox), (2, .ref om)] := hl
        refine lv_goto hx hb dL_law_307 (tgt := 28) (by decide) ?_
        exact ih (i + 3) H locs ls (by omega) (by omega) hI (lv_sub hl [1, 2, 3, 0] rfl)
      rcases (by omega : j = 0 ∨ j = 1 ∨ j = 2 ∨ j = 3 ∨ j = 4 ∨ j = 5 ∨ j = 6 ∨ j = 7) with h | h | h | h | h | h | h | h
      · subst h
        refine lv_tableIn hx hb dL_law_42 (off := 46) (tgt := 88) (by decide) (by decide) (by decide) (by decide) ?_
        exact law_wish l hL hx hb hml hown hts hX hbl hbA hA hT hK hN (by omega) hI hl kk
      · subst h
        refine lv_tableIn hx hb dL_law_42 (off := 95) (tgt := 137) (by decide) (by decide) (by decide) (by decide) ?_
        exact law_literal l hL hx hb hml hown hts hX hbl hbA hA hT hK hN (by omega) hI hl kk
      · subst h
        refine lv_tableIn hx hb dL_law_42 (off := 144) (tgt := 186) (by decide) (by decide) (by decide) (by decide) ?_
        exact law_clause l hL hx hb hml hown hts hX hbl hbA hA hT hK hN (by omega) hI hl kk
      · subst h
        refine lv_tableIn hx hb dL_law_42 (off := 157) (tgt := 199) (by decide) (by decide) (by decide) (by decide) ?_
        exact law_some l hL hx hb hml hown hts hX hbl hbA hA hT hK hN (by omega) hI hl kk
      · subst h
        refine lv_tableIn hx hb dL_law_42 (off := 190) (tgt := 232) (by decide) (by decide) (by decide) (by decide) ?_
        exact law_drop l hL hx hb hml hown hts hX hbl hbA hA hT hK hN (by omega) hI hl kk
      · subst h
        refine lv_tableIn hx hb dL_law_42 (off := 213) (tgt := 255) (by decide) (by decide) (by decide) (by decide) ?_
        exact law_solve l hL hx hb hml hown hts hX hbl hbA hA hT hK hN (by omega) hI hl kk
      · subst h
        refine lv_tableIn hx hb dL_law_42 (off := 226) (tgt := 268) (by decide) (by decide) (by decide) (by decide) ?_
        exact law_answer l hL hx hb hml hown hts hX hbl hbA hA hT hK hN (by omega) hI hl kk
      · subst h
        refine lv_tableIn hx hb dL_law_42 (off := 239) (tgt := 281) (by decide) (by decide) (by decide) (by decide) ?_
        exact law_count l hL hx hb hml hown hts hX hbl hbA hA hT hK hN (by omega) hI hl kk
    · refine lv_icmp_gt hx hb dL_law_33 (tgt := 310) (by decide) (fun _ => ?_) (fun hq => absurd (lw_gt (h3) hL hi) hq)
      refine va_forget (fun q hq => hAs _ (hS.2.2 q hq)) ?_
      refine W.widen (k := 600000) (n := 7302250) (by decide) (by decide) ?_
      refine lv_iconst (v := 1) hx hb dL_law_310 (by decide) ?_
      exact lw_ret hx hb hr hlocks dL_law_311
end
section
set_option maxHeartbeats 4000000 in
set_option maxRecDepth 100000 in
/-- the class's table of longs at the start -/
theorem lw_tw {s : State} {b : Nat} {A : Nat → Prop} (hA : ∀ a : Nat, a < s.heap.size → ¬ A a) (htl : (Cond.laysStatic RX0 "TAILS_WITH" "[J").before #[Value.ref b] s = true) (hini : (Cond.initialized RX0).before #[Value.ref b] s = true) (hgv : (Jvm.Cond.and given_1 narrow_1).before #[Value.ref b] s = true) : ∃ tt, tW RX0 "TAILS_WITH" "[J" tt 6 twv A s s.heap := by
  have hs := flat_of_before _ hgv
  have harr : (Cond.arrayOf (.static "ClauseSolver" "TAILS_WITH" "[J") .long).before #[Value.ref b] s = true := hs _ (by decide +kernel)
  have hlen := va_eqt (hs (Cond.eq (.length (.static "ClauseSolver" "TAILS_WITH" "[J")) (.int 6)) (by decide +kernel))
  have h0 := va_eqtl (hs (Cond.eq (.elem (.static "ClauseSolver" "TAILS_WITH" "[J") (.int 0)) (.long (-6148914691236517206))) (by decide +kernel))
  have h1 := va_eqtl (hs (Cond.eq (.elem (.static "ClauseSolver" "TAILS_WITH" "[J") (.int 1)) (.long (-3689348814741910324))) (by decide +kernel))
  have h2 := va_eqtl (hs (Cond.eq (.elem (.static "ClauseSolver" "TAILS_WITH" "[J") (.int 2)) (.long (-1085102592571150096))) (by decide +kernel))
  have h3 := va_eqtl (hs (Cond.eq (.elem (.static "ClauseSolver" "TAILS_WITH" "[J") (.int 3)) (.long (-71777214294589696))) (by decide +kernel))
  have h4 := va_eqtl (hs (Cond.eq (.elem (.static "ClauseSolver" "TAILS_WITH" "[J") (.int 4)) (.long (-281470681808896))) (by decide +kernel))
  have h5 := va_eqtl (hs (Cond.eq (.elem (.static "ClauseSolver" "TAILS_WITH" "[J") (.int 5)) (.long (-4294967296))) (by decide +kernel))
  obtain ⟨tt, he, hT⟩ := va_Tof (N := 6) (f := twv) (A := A) (by decide) harr hlen (fun j hj => by
    rcases (by omega : j = 0 ∨ j = 1 ∨ j = 2 ∨ j = 3 ∨ j = 4 ∨ j = 5) with rfl | rfl | rfl | rfl | rfl | rfl
    · exact h0
    · exact h1
    · exact h2
    · exact h3
    · exact h4
    · exact h5) hA
  exact ⟨tt, va_Zref htl hini he hA, hT⟩
set_option maxRecDepth 100000 in
theorem lw_K {s : State} {b : Nat} (hts : ∀ w ∈ wsL_law, w.before #[Value.ref b] s = true) : ∃ (dC : Nat → ClassId) (dI : Nat → Nat → Nat), va_K (dC, dI) vwCl [] s := by
  obtain ⟨k0, i0, h0⟩ := u_known (ws := wsL_law) (C := RX0) (T := TX0) (N := 10) hts inlX0 (hts (.instantiable RX0 10) (by decide +kernel))
  obtain ⟨k1, i1, h1⟩ := u_known (ws := wsL_law) (C := RX1) (T := TX1) (N := 9) hts inlX1 (hts (.instantiable RX1 9) (by decide +kernel))
  refine ⟨fun k => if k = 0 then k0 else k1, fun k => if k = 0 then i0 else i1, fun c q hq => ?_, fun k q hk => by simp at hk⟩
  match c, hq with
  | 0, hq => cases hq; exact h0
  | 1, hq => cases hq; exact h1
  | c + 2, hq => simp at hq
set_option maxHeartbeats 4000000 in
set_option maxRecDepth 100000 in
theorem whole_start {p : Program} {e : Env} {s : State} {m : MethodId} {below : List Frame} {meth : Method} {c : Code} (l : Launch) {b L : Nat} {xs : Nat → Int32} (hL : L ≤ 1537) (C0 : lw_At p s m meth c b L xs) : W p l e room_1 s m #[Value.ref b] below meth c s.heap [] 0 0 (lw_Z below #[Value.ref b] s) (entryFrame m ([Value.ref b] : List Value).toArray 4) := by
  obtain ⟨hx, hb, hr, hml, hown, htb, hX, hbl, hlocks, hgv⟩ := C0
  have hown : s.vm.findClass RL = some m.cls := hown
  have hts : ∀ w ∈ wsL_law, w.before #[Value.ref b] s = true := fun w h => htb w (wsL_law_in w h)
  obtain ⟨A, hAe⟩ : ∃ A : Nat → Prop, A = fun q => s.heap.size ≤ q := ⟨_, rfl⟩
  have hA : ∀ q : Nat, s.heap.size ≤ q → A q := fun q h => by rw [hAe]; exact h
  have hAs : ∀ q : Nat, A q → s.heap.size ≤ q := fun q h => by rw [hAe] at h; exact h
  have hbA : ¬ A b := fun h => Nat.not_le.mpr hbl (hAs b h)
  obtain ⟨tt, hT⟩ := lw_tw (A := A) (fun a h1 h2 => Nat.not_le.mpr h1 (hAs a h2)) (htb (.laysStatic RX0 "TAILS_WITH" "[J") (by decide +kernel)) (hts (.initialized RX0) (by decide +kernel)) hgv
  obtain ⟨dC, dI, hK⟩ := lw_K hts
  have hP : va_P (dC, dI) vwCl [] s.heap := fun k q h => by simp at h
  have hD : va_D A [] := ⟨fun i j p q h => by simp at h, fun k q h => by simp at h⟩
  have hS : va_S A s.heap s.heap [] := va_S.rf
  have hl := lv_entry ([.ref b]) (n := 4) (Nat.le_of_ble_eq_true rfl)
  rw [lg_entry_eq]
  generalize (lg_sl ([.ref b]) ++ List.replicate (4 - (lg_sl ([.ref b])).length) Slot.unset).toArray = ls at hl ⊢
  have hl : lv_has ls 4 [(0, .ref b)] := hl
  have hfs : ∀ j, j < 10 → defaultValue (tyX0 j) = vp_V [.int 0, .int 0, .int 0, .int 0, .int 0, .int 0, .null, .null, .null, .null] j := fun j hj => by rcases (by omega : j = 0 ∨ j = 1 ∨ j = 2 ∨ j = 3 ∨ j = 4 ∨ j = 5 ∨ j = 6 ∨ j = 7 ∨ j = 8 ∨ j = 9) with rfl | rfl | rfl | rfl | rfl | rfl | rfl | rfl | rfl | rfl <;> rfl
  have hcc : 0 + 1 ≤ room_1.cells := by decide +kernel
  have hss : 0 + 10 ≤ room_1.slots := by decide +kernel
  refine va_new (ci := 0) (fs := [.int 0, .int 0, .int 0, .int 0, .int 0, .int 0, .null, .null, .null, .null]) (C := RX0) (T := TX0) (N := 10) hx hb hts inlX0 tyX0 tyX0_ok hown (hts (.classLink RL 7 RX0) (by decide +kernel)) (hts (.instantiable RX0 10) (by decide +kernel)) (hts (.initialized RX0) (by decide +kernel)) hK hP hD hS hA rfl hfs hcc hss dL_law_0 (fun ox H hP hD hS => ?_)
  have hP : va_P (dC, dI) vwCl [(ox, .inr (0, [.int 0, .int 0, .int 0, .int 0, .int 0, .int 0, .null, .null, .null, .null]))] H := hP
  have hD : va_D A [(ox, .inr (0, [.int 0, .int 0, .int 0, .int 0, .int 0, .int 0, .null, .null, .null, .null]))] := hD
  refine W.widen (k := 1) (n := 10) (by decide) (by decide) ?_
  refine lv_dup hx hb dL_law_3 rfl ?_
  refine lv_aload_n hx hb dL_law_4 rfl (lv_at hl 0 rfl) ?_
  refine lv_iconst (v := nI 0) hx hb dL_law_5 (by decide) ?_
  refine vp_callSi (W.runS (As := [.ref b, .int (nI 0)]) (rest := [.ref ox, .ref ox]) ⟨hx, hb, hml, hown, hts⟩ (l_cell l b L xs hL) (va_cwS 2 hts gL_law_L_cell rfl rfl rfl (by decide +kernel) ⟨by decide +kernel, by decide +kernel⟩) ⟨fun a U g mk q => ⟨q.1, va_X.moved (u := U) (U := U.calling g mk a) (Vm.Alike.refl U.vm) q.2⟩, fun U hU hW => ⟨rfl, by show va_X b L xs U U.heap; rw [hU]; exact (hX.kept (hS.2.1 b hbl hbA)).moved hW.alike⟩⟩ rfl rfl hl.1 rfl (lv_room (Nat.le_of_ble_eq_true rfl)) dL_law_6 ⟨by decide +kernel, by decide +kernel⟩) (fun r0 hr0 => ?_)
  subst hr0
  have hFc := va_free (wc := [(ox, .inr (0, [.int 0, .int 0, .int 0, .int 0, .int 0, .int 0, .null, .null, .null, .null]))]) hD hS hA [0] rfl
  refine va_callv (va_runI (As := [.int (if 0 < L then xs 0 else nI 0)]) (rest := [.ref ox]) ⟨hx, hb, hml, hown, hts⟩ (c_init l dC dI ox H.size (if 0 < L then xs 0 else nI 0)) (cwI 1 hts gL_law_X0_init rfl rfl rfl (hts (.initialized RX0) (by decide +kernel)) (hts (.methodLink RL 15 yX0_init) (by decide +kernel)) (hts (.instanceMethod yX0_init) (by decide +kernel)) rfl (by decide +kernel) ⟨by decide +kernel, by decide +kernel⟩) (wW_preI (hP.sub (ws' := [(ox, .inr (0, [.int 0, .int 0, .int 0, .int 0, .int 0, .int 0, .null, .null, .null, .null]))]) [0] rfl) (hK.sub (tys' := []) [] rfl) (hD.sub (ws' := [(ox, .inr (0, [.int 0, .int 0, .int 0, .int 0, .int 0, .int 0, .null, .null, .null, .null]))]) [0] (by decide) rfl)) rfl rfl hl.1 rfl (lv_room (Nat.le_of_ble_eq_true rfl)) dL_law_9 ⟨by decide +kernel, by decide +kernel⟩) hS (fun q _ h => hFc q h) hFc (fun u t H1 locs ht hvm _ hB hz1 hk1 hS => ?_)
  obtain ⟨⟨a1, a2, a3, a4⟩, c1, c2, c3, c4⟩ := u
  obtain ⟨hP1, hK1, hD1⟩ := hB
  rw [ht] at hP1
  have hK1 := va_K.moved hvm.symm hK1
  obtain ⟨hP, hD⟩ := va_join (wr := []) (w1 := (xC ox a1 a2 a3 a4 c1 c2 c3 c4 (nI (cl (if 0 < L then xs 0 else nI 0))) (nI (cl (if 0 < L then xs 0 else nI 0) - 6)) (nI 0) (nI 0) (nI 0) (nI 0) (fun _ => 0) (fun _ => 0) (fun _ => 0) (fun _ => 0))) hP hD [0] [] rfl rfl (by decide) (by decide) hk1 hFc hP1 hD1
  have hK : va_K (dC, dI) vwCl (xT c1 c2 c3 c4) s := (hK.sub (tys' := []) [] rfl).app hK1
  clear hFc hP1 hD1 hK1 hz1 hk1 ht
  generalize H1 = H at hP hS ⊢
  have hP : va_P (dC, dI) vwCl (xC ox a1 a2 a3 a4 c1 c2 c3 c4 (nI (cl (if 0 < L then xs 0 else nI 0))) (nI (cl (if 0 < L then xs 0 else nI 0) - 6)) (nI 0) (nI 0) (nI 0) (nI 0) (fun _ => 0) (fun _ => 0) (fun _ => 0) (fun _ => 0)) H := hP
  have hD : va_D A (xC ox a1 a2 a3 a4 c1 c2 c3 c4 (nI (cl (if 0 < L then xs 0 else nI 0))) (nI (cl (if 0 < L then xs 0 else nI 0) - 6)) (nI 0) (nI 0) (nI 0) (nI 0) (fun _ => 0) (fun _ => 0) (fun _ => 0) (fun _ => 0)) := hD
  refine W.widen (k := 5) (n := 1610) (by decide) (by decide) ?_
  refine lv_astore_n hx hb dL_law_12 rfl hl (by decide) rfl (fun ls hl => ?_)
  have hl : lv_has ls 4 [(1, .ref ox), (0, .ref b)] := hl
  have hfs : ∀ j, j < 9 → defaultValue (tyX1 j) = vp_V [.int 0, .null, .null, .null, .int 0, .int 0, .int 0, .int 0, .int 0] j := fun j hj => by rcases (by omega : j = 0 ∨ j = 1 ∨ j = 2 ∨ j = 3 ∨ j = 4 ∨ j = 5 ∨ j = 6 ∨ j = 7 ∨ j = 8) with rfl | rfl | rfl | rfl | rfl | rfl | rfl | rfl | rfl <;> rfl
  have hcc : 5 + 1 ≤ room_1.cells := by decide +kernel
  have hss : 1610 + 9 ≤ room_1.slots := by decide +kernel
  refine va_new (ci := 1) (fs := [.int 0, .null, .null, .null, .int 0, .int 0, .int 0, .int 0, .int 0]) (C := RX1) (T := TX1) (N := 9) hx hb hts inlX1 tyX1 tyX1_ok hown (hts (.classLink RL 18 RX1) (by decide +kernel)) (hts (.instantiable RX1 9) (by decide +kernel)) (hts (.initialized RX1) (by decide +kernel)) hK hP hD hS hA rfl hfs hcc hss dL_law_13 (fun om H hP hD hS => ?_)
  have hP : va_P (dC, dI) vwCl ((xC ox a1 a2 a3 a4 c1 c2 c3 c4 (nI (cl (if 0 < L then xs 0 else nI 0))) (nI (cl (if 0 < L then xs 0 else nI 0) - 6)) (nI 0) (nI 0) (nI 0) (nI 0) (fun _ => 0) (fun _ => 0) (fun _ => 0) (fun _ => 0)) ++ [(om, .inr (1, [.int 0, .null, .null, .null, .int 0, .int 0, .int 0, .int 0, .int 0]))]) H := hP
  have hD : va_D A ((xC ox a1 a2 a3 a4 c1 c2 c3 c4 (nI (cl (if 0 < L then xs 0 else nI 0))) (nI (cl (if 0 < L then xs 0 else nI 0) - 6)) (nI 0) (nI 0) (nI 0) (nI 0) (fun _ => 0) (fun _ => 0) (fun _ => 0) (fun _ => 0)) ++ [(om, .inr (1, [.int 0, .null, .null, .null, .int 0, .int 0, .int 0, .int 0, .int 0]))]) := hD
  refine W.widen (k := 6) (n := 1619) (by decide) (by decide) ?_
  refine lv_dup hx hb dL_law_16 rfl ?_
  refine lv_aload_n hx hb dL_law_17 rfl (lv_at hl 1 rfl) ?_
  refine lv_iconst (v := nI 0) hx hb dL_law_18 (by decide) ?_
  refine vp_callSi (W.runS (As := [.ref b, .int (nI 0)]) (rest := [.ref om, .ref om]) ⟨hx, hb, hml, hown, hts⟩ (l_cell l b L xs hL) (va_cwS 2 hts gL_law_L_cell rfl rfl rfl (by decide +kernel) ⟨by decide +kernel, by decide +kernel⟩) ⟨fun a U g mk q => ⟨q.1, va_X.moved (u := U) (U := U.calling g mk a) (Vm.Alike.refl U.vm) q.2⟩, fun U hU hW => ⟨rfl, by show va_X b L xs U U.heap; rw [hU]; exact (hX.kept (hS.2.1 b hbl hbA)).moved hW.alike⟩⟩ rfl rfl hl.1 rfl (lv_room (Nat.le_of_ble_eq_true rfl)) dL_law_19 ⟨by decide +kernel, by decide +kernel⟩) (fun r0 hr0 => ?_)
  subst hr0
  have hFc := va_free (wc := [(om, .inr (1, [.int 0, .null, .null, .null, .int 0, .int 0, .int 0, .int 0, .int 0]))]) hD hS hA [5] rfl
  refine va_callv (va_runI (As := [.int (if 0 < L then xs 0 else nI 0)]) (rest := [.ref om]) ⟨hx, hb, hml, hown, hts⟩ (m_init l dC dI om H.size (if 0 < L then xs 0 else nI 0)) (cwI 1 hts gL_law_X1_init rfl rfl rfl (hts (.initialized RX1) (by decide +kernel)) (hts (.methodLink RL 20 yX1_init) (by decide +kernel)) (hts (.instanceMethod yX1_init) (by decide +kernel)) rfl (by decide +kernel) ⟨by decide +kernel, by decide +kernel⟩) (wW_preI (hP.sub (ws' := [(om, .inr (1, [.int 0, .null, .null, .null, .int 0, .int 0, .int 0, .int 0, .int 0]))]) [5] rfl) (hK.sub (tys' := []) [] rfl) (hD.sub (ws' := [(om, .inr (1, [.int 0, .null, .null, .null, .int 0, .int 0, .int 0, .int 0, .int 0]))]) [5] (by decide) rfl)) rfl rfl hl.1 rfl (lv_room (Nat.le_of_ble_eq_true rfl)) dL_law_22 ⟨by decide +kernel, by decide +kernel⟩) hS (fun q _ h => hFc q h) hFc (fun u t H1 locs ht hvm _ hB hz1 hk1 hS => ?_)
  obtain ⟨⟨b1, b2, b3⟩, e1, e2, e3⟩ := u
  obtain ⟨hP1, hK1, hD1⟩ := hB
  rw [ht] at hP1
  have hK1 := va_K.moved hvm.symm hK1
  obtain ⟨hP, hD⟩ := va_join (wr := (xC ox a1 a2 a3 a4 c1 c2 c3 c4 (nI (cl (if 0 < L then xs 0 else nI 0))) (nI (cl (if 0 < L then xs 0 else nI 0) - 6)) (nI 0) (nI 0) (nI 0) (nI 0) (fun _ => 0) (fun _ => 0) (fun _ => 0) (fun _ => 0))) (w1 := (mC om b1 b2 b3 e1 e2 e3 (nI (cl (if 0 < L then xs 0 else nI 0))) (nI 0) (nI 0) (nI 0) 0 (nI 0) (fun _ => 0) (fun _ => 0) (fun _ => 0))) hP hD [5] [0, 1, 2, 3, 4] rfl rfl (by decide) (by decide) hk1 hFc hP1 hD1
  have hK : va_K (dC, dI) vwCl (xT c1 c2 c3 c4 ++ mT e1 e2 e3) s := (hK.sub (tys' := xT c1 c2 c3 c4) [0, 1, 2, 3] rfl).app hK1
  clear hFc hP1 hD1 hK1 hz1 hk1 ht
  generalize H1 = H at hP hS ⊢
  have hP : va_P (dC, dI) vwCl ((xC ox a1 a2 a3 a4 c1 c2 c3 c4 (nI (cl (if 0 < L then xs 0 else nI 0))) (nI (cl (if 0 < L then xs 0 else nI 0) - 6)) (nI 0) (nI 0) (nI 0) (nI 0) (fun _ => 0) (fun _ => 0) (fun _ => 0) (fun _ => 0)) ++ (mC om b1 b2 b3 e1 e2 e3 (nI (cl (if 0 < L then xs 0 else nI 0))) (nI 0) (nI 0) (nI 0) 0 (nI 0) (fun _ => 0) (fun _ => 0) (fun _ => 0))) H := hP
  have hD : va_D A ((xC ox a1 a2 a3 a4 c1 c2 c3 c4 (nI (cl (if 0 < L then xs 0 else nI 0))) (nI (cl (if 0 < L then xs 0 else nI 0) - 6)) (nI 0) (nI 0) (nI 0) (nI 0) (fun _ => 0) (fun _ => 0) (fun _ => 0) (fun _ => 0)) ++ (mC om b1 b2 b3 e1 e2 e3 (nI (cl (if 0 < L then xs 0 else nI 0))) (nI 0) (nI 0) (nI 0) 0 (nI 0) (fun _ => 0) (fun _ => 0) (fun _ => 0))) := hD
  refine W.widen (k := 9) (n := 2435) (by decide) (by decide) ?_
  refine lv_astore_n hx hb dL_law_25 rfl hl (by decide) rfl (fun ls hl => ?_)
  have hl : lv_has ls 4 [(2, .ref om), (1, .ref ox), (0, .ref b)] := hl
  refine lv_iconst (v := nI 1) hx hb dL_law_26 (by decide) ?_
  refine lv_istore_n hx hb dL_law_27 rfl hl (by decide) rfl (fun ls hl => ?_)
  have hl : lv_has ls 4 [(3, .int (nI 1)), (2, .ref om), (1, .ref ox), (0, .ref b)] := hl
  exact law_loop l hL hx hb hml hown hts hX hbl hbA hA hT hK (cl_bd (if 0 < L then xs 0 else nI 0)).2 hAs hr hlocks L 1 H _ ls (by omega) (by decide) ⟨0, 0, 0, 0, fun _ => 0, fun _ => 0, fun _ => 0, fun _ => 0, fun _ => 0, fun _ => 0, 0, nI 0, fun _ => 0, fun _ => 0, fun _ => 0, ⟨Nat.two_pow_pos _, Nat.two_pow_pos _, Nat.two_pow_pos _, Nat.zero_le _, RX_0, ⟨fun v hv => by rw [Nat.zero_testBit]; rfl, fun k hk => absurd hk (Nat.not_lt_zero _)⟩, Or.inl rfl⟩, hP, hD, hS⟩ (lv_sub hl [3, 2, 1, 0] rfl)
end
section
set_option maxHeartbeats 4000000 in
theorem lw_walk (l : Launch) (b : Addr) (xs : List Int32) : MetFree l x (headSpec (Jvm.Cond.code x code maxLocals ret :: tables_1) room_1) (lw_P b xs) (fun _ _ _ _ _ => True) lw_Q := by
  refine MetFree.of_bodyS (code := code) (maxLocals := maxLocals) (ret := ret) (by decide) ?_ ?_
  · intro args s m h hn
    obtain ⟨meth, c, h1, h2, h3, h4, h5, h6, -, -⟩ := Cond.code_spec hn (atoms_spec (ws := Jvm.Cond.code x code maxLocals ret :: tables_1) h _ List.mem_cons_self)
    exact ⟨meth, c, h1, h2, h3, h4, h5, h6⟩
  · intro p e s m args below meth c s₁ B hml0 hP _
    obtain ⟨rfl, hx, hbd, hgv⟩ := hP
    obtain ⟨scr, harrAt, hlist, hof, hsmall⟩ := hx
    obtain ⟨hcb, hkn, -, -⟩ := State.arrayAt?_spec harrAt
    have hown : s.vm.findClass R_law = some m.cls := findClass_of_methodNamed B.named
    have hts0 : ∀ c ∈ (Jvm.Cond.code x code maxLocals ret :: tables_1), c.before #[Value.ref b] s = true := atoms_spec (ws := Jvm.Cond.code x code maxLocals ret :: tables_1) B.pre
    have hts : ∀ w ∈ lw_tbl, w.before #[Value.ref b] s = true := k2_hts_sels lw_privs (fun w hw => hts0 w (List.mem_cons_of_mem _ hw)) lw_privs_ok
    have hml : c.maxLocals = 4 := B.maxLocals_eq (hts0 _ List.mem_cons_self)
    have X₀ : Stand p l e room_1 s m #[Value.ref b] below meth c s₁ [] 0 0 := Stand.of_body B
    have hh0 : s₁.heap = s.heap := by rw [B.state]; rfl
    have hsz : scr.slots.size = xs.length := by rw [← Array.length_toList, hlist, List.length_map]
    have hval : ∀ j : Nat, j < xs.length → scr.slots[j]? = some (.int (xs.getD j 0)) := fun j hj => by
      rw [← Array.getElem?_toList, hlist]
      simp [hj]
    have hbl : b < s.heap.size := (Array.getElem?_eq_some_iff.mp hcb).1
    have hX : va_X b xs.length (fun j => xs.getD j 0) s s.heap := ⟨scr, hcb, hof, hkn, hsz, hval⟩
    have K : W p l e room_1 s m #[Value.ref b] below meth c s₁.heap [] 0 0 (lw_Z below #[Value.ref b] s) (entryFrame m ([Value.ref b] : List Value).toArray 4) := by
      rw [hh0]
      exact whole_start l hbd ⟨B.exec, B.bytes, B.returns, hml, hown, hts, hX, hbl, B.notSynchronized, hgv⟩
    obtain ⟨t, a1, o, b1, b2, b3⟩ := K s₁ rfl X₀
    exact ⟨t, o, a1, b1, b2, b3⟩
theorem lw_pre_spec {args : Array Value} {s : State} (h : (Jvm.Cond.and given_1 narrow_1).before args s = true) (hr : rest_1_c.before args s = true) : ∃ (b : Addr) (xs : List Int32), lw_P b xs args s := by
  have hs := flat_of_before _ h
  have hq := flat_of_before _ hr
  have hc : (Cond.count 1).before args s = true := hs _ (by decide +kernel)
  have harr : (Cond.arrayOf (.arg 0) .int).before args s = true := hs _ (by decide +kernel)
  have hle : (Cond.le (.length (.arg 0)) (.int 1537)).before args s = true := hs _ (by decide +kernel)
  have hlen : (Cond.isInt (.length (.arg 0))).before args s = true := hq _ (by decide +kernel)
  have hall : (Cond.all (.arg 0) (.isInt (.elem (.arg 0) (.index 0)))).before args s = true := hq _ (by decide +kernel)
  obtain ⟨b, xs, hb, hx⟩ := State.ints_of_pre rfl harr hlen hall
  have hsm : xs.length < 2 ^ 31 := hx.choose_spec.2.2.2
  have hev : (Term.length (.arg 0)).eval args s none [] s = some (.int xs.length.toInt32) := hx.length_eval hb
  have hv := Cond.le_ints hev (show (Term.int 1537).eval args s none [] s = some (.int 1537) from rfl)
  have hd : xs.length.toInt32 ≤ 1537 := by
    simpa [Cond.before, Cond.holds, hv] using hle
  have hN : xs.length ≤ 1537 := (Int32.ofNat_le_ofNat hsm (by decide)).mp (show Int32.ofNat xs.length ≤ Int32.ofNat 1537 from hd)
  exact ⟨b, xs, Cond.one_arg hc (show args[0]? = some (.ref b) from hb), hx, hN, h⟩
theorem lw_comes (l : Launch) : Comes l x (Jvm.Cond.code x code maxLocals ret :: tables_1) room_1 (fun tb e args s => Calls_1 tb e args s ∧ rest_1 tb e args s ∧ Pre_1 tb e args s)
    (fun _ _ args s o t => lw_Q args s o t) := by
  intro p e ha hc hk s m args below hf hfit hheap happ hpre
  obtain ⟨b, xs, hP⟩ := lw_pre_spec hpre.2.2 hpre.2.1
  obtain ⟨k, o, h1, h2, h3, hQ⟩ := lw_walk l b xs p e ha hc hk s m args below hf ((Spec.applies_iff_loose hf).mp happ).1 hP trivial
  exact ⟨k, o, h1, h2, h3, hQ⟩
theorem lw_frame {s t : State} {o : Outcome} {args : Array Value} (h : Framed s o t [] 600000 7302250) :
    Framed s o t (fieldLocs frame_1_writes args s ++ arrayLocs frame_1_arrays args s ++ staticLocs frame_1_statics s) 600000 7302250 := h
theorem lw_limb (L : Cond) (hL : ∀ (args : Array Value) (s t : State), L.after args s (.returned (some (.int 1))) t = true) :
    ArmFor flags0 classFile x code maxLocals ret World_1 tables_1 room_1 Calls_1 rest_1 Pre_1
      (fun tb e a s o t => postC L tb e a s o t ∧ Framed s o t (fieldLocs frame_1_writes a s ++ arrayLocs frame_1_arrays a s ++ staticLocs frame_1_statics s) 600000 7302250) := by
  intro l _ _ _ p e ha hc hk s m args below hf hfit hheap happ hpre
  obtain ⟨k, o, h1, h2, h3, rfl, hF⟩ := lw_comes l p e ha hc hk s m args below hf hfit hheap happ hpre
  exact ⟨k, _, h1, h2, h3, hL args s _, lw_frame hF⟩
theorem i_vc : Claimed_1_1 ∧ Claimed_1_2 := ⟨lw_limb limb_1_1 (fun args s t => by simp [limb_1_1, Cond.after, Cond.holds, Cond.value]), lw_limb limb_1_2 (fun args s t => Cond.after_iff.mpr (by
  first | (rw [show limb_1_2 = Cond.eq .result (.int 1) from rfl, Cond.eq_ints (x := 1) (y := 1) rfl rfl]; simp; done) | (simp [limb_1_2, Cond.value, Term.eval]; done)))⟩
end
