/-! the first answer: variables in their order, the wished value first -/
noncomputable def fs (P : Nat → Prop) (w : Nat) : Nat → Nat → Nat → Option Nat
  | 0, a, _ => @ite (Option Nat) (P a) (Classical.propDecidable (P a)) (some a) none
  | d + 1, a, v => (fs P w d (if w.testBit v = true then a + 2 ^ v else a) (v + 1)).or (fs P w d (if w.testBit v = true then a else a + 2 ^ v) (v + 1))
theorem fs_0t {P : Nat → Prop} {w a v : Nat} (h : P a) : fs P w 0 a v = some a := by
  unfold fs
  exact if_pos h
theorem fs_0f {P : Nat → Prop} {w a v : Nat} (h : ¬ P a) : fs P w 0 a v = none := by
  unfold fs
  exact if_neg h
theorem fs_st {P : Nat → Prop} {w d a v : Nat} (h : w.testBit v = true) : fs P w (d + 1) a v = (fs P w d (a + 2 ^ v) (v + 1)).or (fs P w d a (v + 1)) := by
  rw [fs, if_pos h, if_pos h]
theorem fs_sf {P : Nat → Prop} {w d a v : Nat} (h : w.testBit v = false) : fs P w (d + 1) a v = (fs P w d a (v + 1)).or (fs P w d (a + 2 ^ v) (v + 1)) := by
  rw [fs, if_neg (by rw [h]; simp), if_neg (by rw [h]; simp)]
theorem or_none {x y : Option Nat} : x.or y = none ↔ x = none ∧ y = none := by
  cases x <;> simp [Option.or]
theorem or_some {x y : Option Nat} {r : Nat} (h : x.or y = some r) : x = some r ∨ y = some r := by
  cases x with
  | none => exact Or.inr h
  | some z => exact Or.inl h
theorem or_left {x y : Option Nat} (h : ¬ x = none) : x.or y = x := by
  cases x with
  | none => exact absurd rfl h
  | some z => rfl
theorem or_right {x y : Option Nat} (h : x = none) : x.or y = y := by rw [h]; rfl
theorem cs_t2 (t z : Nat) : t * z = t / 2 * (z * 2) + t % 2 * z := by
  have h := Nat.div_add_mod t 2
  calc t * z = (2 * (t / 2) + t % 2) * z := by rw [h]
    _ = _ := by rw [Nat.add_mul, Nat.mul_comm 2 (t / 2), Nat.mul_assoc, Nat.mul_comm 2 z]
theorem fs_both {Q : Nat → Prop} {d a v : Nat} : ((∀ t, t < 2 ^ d → Q (a + t * 2 ^ (v + 1))) ∧ ∀ t, t < 2 ^ d → Q (a + 2 ^ v + t * 2 ^ (v + 1))) ↔ ∀ t, t < 2 ^ (d + 1) → Q (a + t * 2 ^ v) := by
  constructor
  · rintro ⟨h0, h1⟩ t ht
    have hd : t / 2 < 2 ^ d := by
      rw [Nat.pow_succ] at ht
      omega
    rw [cs_t2 t (2 ^ v), ← Nat.pow_succ]
    rcases Nat.mod_two_eq_zero_or_one t with e | e
    · rw [e, Nat.zero_mul, Nat.add_zero]
      exact h0 _ hd
    · rw [e, Nat.one_mul, Nat.add_comm (t / 2 * 2 ^ (v + 1)), ← Nat.add_assoc]
      exact h1 _ hd
  · intro h
    refine ⟨fun t ht => ?_, fun t ht => ?_⟩
    · have := h (2 * t) (by rw [Nat.pow_succ]; omega)
      rw [Nat.pow_succ, Nat.mul_comm (2 ^ v) 2, ← Nat.mul_assoc, Nat.mul_comm t 2]
      exact this
    · have := h (2 * t + 1) (by rw [Nat.pow_succ]; omega)
      rw [Nat.add_mul, Nat.one_mul, Nat.add_comm (2 * t * 2 ^ v), ← Nat.add_assoc] at this
      rw [Nat.pow_succ, Nat.mul_comm (2 ^ v) 2, ← Nat.mul_assoc, Nat.mul_comm t 2]
      exact this
theorem fs_none (P : Nat → Prop) (w : Nat) : ∀ d a v, fs P w d a v = none ↔ ∀ t, t < 2 ^ d → ¬ P (a + t * 2 ^ v) := by
  intro d
  induction d with
  | zero =>
    intro a v
    by_cases h : P a
    · rw [fs_0t h]
      refine ⟨fun z => (by cases z), fun z => ?_⟩
      exact absurd h (by simpa using z 0 (by decide))
    · rw [fs_0f h]
      refine ⟨fun _ t ht => ?_, fun _ => rfl⟩
      have : t = 0 := by simpa using ht
      rw [this, Nat.zero_mul, Nat.add_zero]
      exact h
  | succ d ih =>
    intro a v
    rw [← fs_both (Q := fun z => ¬ P z)]
    cases hb : w.testBit v with
    | true => rw [fs_st hb, or_none, ih, ih, And.comm]
    | false => rw [fs_sf hb, or_none, ih, ih]
theorem fs_some (P : Nat → Prop) (w : Nat) : ∀ d a v r, fs P w d a v = some r → P r ∧ ∃ t, t < 2 ^ d ∧ r = a + t * 2 ^ v := by
  intro d
  induction d with
  | zero =>
    intro a v r h
    by_cases hp : P a
    · rw [fs_0t hp] at h
      cases h
      exact ⟨hp, 0, by decide, by rw [Nat.zero_mul, Nat.add_zero]⟩
    · rw [fs_0f hp] at h
      cases h
  | succ d ih =>
    intro a v r h
    have key : fs P w d a (v + 1) = some r ∨ fs P w d (a + 2 ^ v) (v + 1) = some r := by
      cases hb : w.testBit v with
      | true =>
        rw [fs_st hb] at h
        exact (or_some h).symm
      | false =>
        rw [fs_sf hb] at h
        exact or_some h
    rcases key with k | k
    · obtain ⟨hp, t, ht, e⟩ := ih _ _ _ k
      refine ⟨hp, 2 * t, by rw [Nat.pow_succ]; omega, ?_⟩
      rw [e, Nat.pow_succ, Nat.mul_comm (2 ^ v) 2, ← Nat.mul_assoc, Nat.mul_comm t 2]
    · obtain ⟨hp, t, ht, e⟩ := ih _ _ _ k
      refine ⟨hp, 2 * t + 1, by rw [Nat.pow_succ]; omega, ?_⟩
      rw [e, Nat.add_mul, Nat.one_mul, Nat.add_comm (2 * t * 2 ^ v), ← Nat.add_assoc, Nat.pow_succ, Nat.mul_comm (2 ^ v) 2, ← Nat.mul_assoc, Nat.mul_comm t 2]
theorem fs_lt {P : Nat → Prop} {w d a v r : Nat} (ha : a < 2 ^ v) (h : fs P w d a v = some r) : r < 2 ^ (v + d) := by
  obtain ⟨-, t, ht, e⟩ := fs_some P w d a v r h
  have h1 : (t + 1) * 2 ^ v ≤ 2 ^ d * 2 ^ v := Nat.mul_le_mul_right _ ht
  rw [Nat.add_mul, Nat.one_mul] at h1
  rw [Nat.add_comm v d, Nat.pow_add]
  omega
theorem fs_congr {P P' : Nat → Prop} {w : Nat} : ∀ d a v, (∀ t, t < 2 ^ d → (P (a + t * 2 ^ v) ↔ P' (a + t * 2 ^ v))) → fs P w d a v = fs P' w d a v := by
  intro d
  induction d with
  | zero =>
    intro a v h
    have h0 := h 0 (by decide)
    rw [Nat.zero_mul, Nat.add_zero] at h0
    by_cases hp : P a
    · rw [fs_0t hp, fs_0t (h0.mp hp)]
    · rw [fs_0f hp, fs_0f (fun z => hp (h0.mpr z))]
  | succ d ih =>
    intro a v h
    obtain ⟨g0, g1⟩ := (fs_both (Q := fun z => P z ↔ P' z)).mpr h
    cases hb : w.testBit v with
    | true => rw [fs_st hb, fs_st hb, ih _ _ g0, ih _ _ g1]
    | false => rw [fs_sf hb, fs_sf hb, ih _ _ g0, ih _ _ g1]
theorem map_or {x y : Option Nat} {f : Nat → Nat} : (x.or y).map f = (x.map f).or (y.map f) := by
  cases x <;> rfl
theorem fs_shift (P : Nat → Prop) (w h a : Nat) : ∀ d τ j, fs P w d (a + τ * 2 ^ h) (h + j) = (fs (fun t => P (a + t * 2 ^ h)) (w >>> h) d τ j).map (fun t => a + t * 2 ^ h) := by
  intro d
  induction d with
  | zero =>
    intro τ j
    by_cases hp : P (a + τ * 2 ^ h)
    · rw [fs_0t hp, fs_0t (P := fun t => P (a + t * 2 ^ h)) hp]
      rfl
    · rw [fs_0f hp, fs_0f (P := fun t => P (a + t * 2 ^ h)) hp]
      rfl
  | succ d ih =>
    intro τ j
    have e : a + τ * 2 ^ h + 2 ^ (h + j) = a + (τ + 2 ^ j) * 2 ^ h := by
      rw [Nat.add_mul, Nat.add_comm h j, Nat.pow_add, Nat.add_assoc]
    have hs : (w >>> h).testBit j = w.testBit (h + j) := Nat.testBit_shiftRight w
    cases hb : w.testBit (h + j) with
    | true =>
      rw [fs_st hb, fs_st (hs.trans hb), e, map_or, ← ih, ← ih]
      rfl
    | false =>
      rw [fs_sf hb, fs_sf (hs.trans hb), e, map_or, ← ih, ← ih]
      rfl
theorem fs_past {P : Nat → Prop} {w N : Nat} (hP : ∀ a v, N ≤ v → (P (a + 2 ^ v) ↔ P a)) (hw : ∀ v, N ≤ v → w.testBit v = false) : ∀ e a v, N ≤ v → fs P w e a v = fs P w 0 a v := by
  intro e
  induction e with
  | zero => intro a v _; rfl
  | succ e ih =>
    intro a v hv
    rw [fs_sf (hw v hv), ih _ _ (by omega), ih _ _ (by omega)]
    by_cases hp : P a
    · rw [fs_0t hp, fs_0t hp]
      rfl
    · rw [fs_0f hp, fs_0f (fun z => hp ((hP a v hv).mp z)), fs_0f hp]
      rfl
theorem fs_extra {P : Nat → Prop} {w N : Nat} (hP : ∀ a v, N ≤ v → (P (a + 2 ^ v) ↔ P a)) (hw : ∀ v, N ≤ v → w.testBit v = false) (e : Nat) : ∀ d a v, v + d = N → fs P w (d + e) a v = fs P w d a v := by
  intro d
  induction d with
  | zero =>
    intro a v hv
    rw [Nat.zero_add]
    exact fs_past hP hw e a v (by omega)
  | succ d ih =>
    intro a v hv
    rw [show d + 1 + e = (d + e) + 1 by omega]
    cases hb : w.testBit v with
    | true => rw [fs_st hb, fs_st hb, ih _ _ (by omega), ih _ _ (by omega)]
    | false => rw [fs_sf hb, fs_sf hb, ih _ _ (by omega), ih _ _ (by omega)]
/-! the answer as an int -/
def rs : Option Nat → Int32
  | some r => nI r
  | none => -2
theorem rs_none : rs none = -2 := rfl
theorem rs_ne {r : Nat} (h : r < 2 ^ 31) : ¬ rs (some r) = -2 := by
  intro e
  have h1 := congrArg Int32.toInt e
  rw [show rs (some r) = nI r from rfl, nI_toInt h] at h1
  have h2 : (-2 : Int32).toInt = -2 := by decide
  rw [h2] at h1
  omega
theorem rs_neg {o : Option Nat} (h : ∀ r, o = some r → r < 2 ^ 31) : rs o = -2 ↔ o = none := by
  cases o with
  | none => exact ⟨fun _ => rfl, fun _ => rfl⟩
  | some r => exact ⟨fun z => absurd z (rs_ne (h r rfl)), fun z => (by cases z)⟩
theorem rs_ge {o : Option Nat} (h : ∀ r, o = some r → r < 2 ^ 31) : 0 ≤ rs o ↔ ¬ o = none := by
  cases o with
  | none =>
    refine ⟨fun z => ?_, fun z => absurd rfl z⟩
    exact absurd z (by decide)
  | some r =>
    refine ⟨fun _ => (fun z => by cases z), fun _ => nI_pos' (h r rfl)⟩
