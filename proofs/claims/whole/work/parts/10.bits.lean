/-! pure rows: ints below 2^31 as Nats, longs by their bits -/
theorem cs_and (a b : Nat) : nI a &&& nI b = nI (a &&& b) := by
  apply Int32.toBitVec_inj.1
  show BitVec.ofNat 32 a &&& BitVec.ofNat 32 b = BitVec.ofNat 32 (a &&& b)
  apply BitVec.eq_of_getLsbD_eq
  intro i hi
  simp [hi]
theorem cs_or (a b : Nat) : nI a ||| nI b = nI (a ||| b) := by
  apply Int32.toBitVec_inj.1
  show BitVec.ofNat 32 a ||| BitVec.ofNat 32 b = BitVec.ofNat 32 (a ||| b)
  apply BitVec.eq_of_getLsbD_eq
  intro i hi
  simp [hi]
theorem cs_xor (a b : Nat) : nI a ^^^ nI b = nI (a ^^^ b) := by
  apply Int32.toBitVec_inj.1
  show BitVec.ofNat 32 a ^^^ BitVec.ofNat 32 b = BitVec.ofNat 32 (a ^^^ b)
  apply BitVec.eq_of_getLsbD_eq
  intro i hi
  simp [hi]
theorem cs_sl : ∀ n, n < 32 → ((nI n &&& 31).toBitVec.smod 32).toNat = n := by decide +kernel
theorem cs_shl {a v : Nat} (hv : v < 32) (h : a * 2 ^ v < 2 ^ 32) : nI a <<< (nI v &&& 31) = nI (a * 2 ^ v) := pk_shlN _ v (cs_sl v hv) h
theorem cs_shr {a v : Nat} (hv : v < 32) (h : a < 2 ^ 31) : nI a >>> (nI v &&& 31) = nI (a / 2 ^ v) := pk_shrN h _ v (cs_sl v hv)
theorem cs_one {v : Nat} (hv : v < 31) : nI 1 <<< (nI v &&& 31) = nI (2 ^ v) := by
  rw [cs_shl (by omega) (by rw [Nat.one_mul]; exact Nat.pow_lt_pow_right (by decide) (by omega)), Nat.one_mul]
theorem cs_z {n : Nat} (h : n < 2 ^ 31) : nI n = 0 ↔ n = 0 := by rw [← nI_0, nI_eq h (by decide)]
theorem cs_bit {b v : Nat} (hb : b < 2 ^ 31) (hv : v < 32) : (nI b >>> (nI v &&& 31)) &&& nI 1 = nI (b / 2 ^ v % 2) := by
  rw [cs_shr hv hb, cs_and, Nat.and_one_is_mod]
theorem cs_bit0 {b v : Nat} (hb : b < 2 ^ 31) (hv : v < 32) : (nI b >>> (nI v &&& 31)) &&& nI 1 = 0 ↔ b.testBit v = false := by
  rw [cs_bit hb hv, cs_z (by have := Nat.mod_lt (b / 2 ^ v) (show 2 > 0 by decide); omega), Nat.testBit_eq_decide_div_mod_eq, decide_eq_false_iff_not]
  omega
theorem cs_low {v : Nat} (hv : v < 31) : nI (2 ^ v) - nI 1 = nI (2 ^ v - 1) := pk_sub (Nat.one_le_two_pow)
theorem cs_lowtn {v : Nat} (hv : v < 31) : (nI (2 ^ v - 1)).toBitVec.toNat = 2 ^ v - 1 := pk_tn (by have : 2 ^ v < 2 ^ 31 := Nat.pow_lt_pow_right (by decide) hv; omega)
theorem cs_mask (x : Int32) {v : Nat} (hv : v < 31) : x &&& nI (2 ^ v - 1) = nI (x.toBitVec.toNat % 2 ^ v) := pk_and x v (cs_lowtn hv)
theorem cs_maskN {n v : Nat} (hn : n < 2 ^ 32) (hv : v < 31) : nI n &&& nI (2 ^ v - 1) = nI (n % 2 ^ v) := pk_andN hn v (cs_lowtn hv)
theorem cs_p16 {n : Nat} (h : n ≤ 16) : 2 ^ n ≤ 65536 := by
  have : 2 ^ n ≤ 2 ^ 16 := Nat.pow_le_pow_right (by decide) h
  simpa using this
/-! longs -/
def lb (x : Int64) (t : Nat) : Bool := x.toBitVec.getLsbD t
theorem lb_or (x y : Int64) (i : Nat) : lb (x ||| y) i = (lb x i || lb y i) := by unfold lb; rw [Int64.toBitVec_or, BitVec.getLsbD_or]
theorem lb_and (x y : Int64) (i : Nat) : lb (x &&& y) i = (lb x i && lb y i) := by unfold lb; rw [Int64.toBitVec_and, BitVec.getLsbD_and]
theorem lb_xor (x y : Int64) (i : Nat) : lb (x ^^^ y) i = (lb x i ^^ lb y i) := by unfold lb; rw [Int64.toBitVec_xor, BitVec.getLsbD_xor]
theorem lb_m1 : ∀ i, i < 64 → lb (-1) i = true := by decide +kernel
theorem lb_not (x : Int64) {i : Nat} (hi : i < 64) : lb (x ^^^ (-1)) i = !lb x i := by rw [lb_xor, lb_m1 i hi]; simp
theorem lb_0 (i : Nat) : lb 0 i = false := BitVec.getLsbD_zero
theorem lb_eq0 {x : Int64} : x = 0 ↔ ∀ t, t < 64 → lb x t = false := by
  constructor
  · intro h t _
    rw [h]; exact lb_0 t
  · intro h
    apply Int64.toBitVec_inj.1
    apply BitVec.eq_of_getLsbD_eq
    intro i hi
    exact (h i hi).trans (lb_0 i).symm
theorem lb_ne0 {x : Int64} (h : ¬ x = 0) : ∃ t, t < 64 ∧ lb x t = true := by
  refine Classical.byContradiction fun hn => h (lb_eq0.mpr fun t ht => ?_)
  cases hb : lb x t with
  | false => rfl
  | true => exact absurd ⟨t, ht, hb⟩ hn
theorem lb_ne0' {x : Int64} {t : Nat} (h : lb x t = true) : ¬ x = 0 := by
  intro e
  rw [e, lb_0] at h
  cases h
def cs_tw : Nat → Int64 := fun j => match j with
  | 0 => -6148914691236517206
  | 1 => -3689348814741910324
  | 2 => -1085102592571150096
  | 3 => -71777214294589696
  | 4 => -281470681808896
  | _ => -4294967296
theorem lb_tw : ∀ j, j < 6 → ∀ t, t < 64 → lb (cs_tw j) t = t.testBit j := by decide +kernel
/-! a clause is met -/
def Mt (y n a : Nat) : Prop := ∃ i, (a.testBit i = true ∧ y.testBit i = true) ∨ (a.testBit i = false ∧ n.testBit i = true)
theorem cs_and0 (a b : Nat) : a &&& b = 0 ↔ ∀ i, a.testBit i = true → b.testBit i = true → False := by
  constructor
  · intro h i h1 h2
    have h3 := congrArg (fun z => z.testBit i) h
    simp [h1, h2] at h3
  · intro h
    apply Nat.eq_of_testBit_eq
    intro i
    rw [Nat.testBit_and, Nat.zero_testBit]
    cases h1 : a.testBit i with
    | false => rfl
    | true =>
      cases h2 : b.testBit i with
      | false => rfl
      | true => exact (h i h1 h2).elim
theorem cs_not (a : Nat) {i : Nat} (hi : i < 32) : (a ^^^ 4294967295).testBit i = !a.testBit i := by
  rw [Nat.testBit_xor, show (4294967295 : Nat) = 2 ^ 32 - 1 from rfl, Nat.testBit_two_pow_sub_one, decide_eq_true hi]
  simp
theorem Mt_not {y n a : Nat} (hn : n < 2 ^ 32) : ¬ Mt y n a ↔ (a &&& y = 0 ∧ (a ^^^ 4294967295) &&& n = 0) := by
  rw [cs_and0, cs_and0]
  constructor
  · intro h
    refine ⟨fun i h1 h2 => h ⟨i, Or.inl ⟨h1, h2⟩⟩, fun i h1 h2 => h ⟨i, Or.inr ⟨?_, h2⟩⟩⟩
    have hi : i < 32 := Nat.not_le.mp fun q => by
      rw [Nat.testBit_lt_two_pow (Nat.lt_of_lt_of_le hn (Nat.pow_le_pow_right (by decide) q))] at h2
      cases h2
    rw [cs_not a hi] at h1
    simpa using h1
  · rintro ⟨h1, h2⟩ ⟨i, ⟨a1, a2⟩ | ⟨a1, a2⟩⟩
    · exact h1 i a1 a2
    · have hi : i < 32 := Nat.not_le.mp fun q => by
        rw [Nat.testBit_lt_two_pow (Nat.lt_of_lt_of_le hn (Nat.pow_le_pow_right (by decide) q))] at a2
        cases a2
      exact h2 i (by rw [cs_not a hi, a1]; rfl) a2
theorem cs_or0 (a b : Nat) : a ||| b = 0 ↔ a = 0 ∧ b = 0 := by
  constructor
  · intro h
    have h1 : a ≤ a ||| b := Nat.left_le_or
    have h2 : b ≤ a ||| b := Nat.right_le_or
    omega
  · rintro ⟨rfl, rfl⟩
    rfl
theorem Mt_head {y n a : Nat} (hn : n < 2 ^ 32) : (y &&& a) ||| (n &&& (a ^^^ 4294967295)) = 0 ↔ ¬ Mt y n a := by
  rw [cs_or0, Mt_not hn, Nat.and_comm y a, Nat.and_comm n]
theorem cs_tbadd {a h : Nat} (ha : a < 2 ^ h) (t i : Nat) : (a + t * 2 ^ h).testBit i = if i < h then a.testBit i else t.testBit (i - h) := by
  rw [Nat.add_comm, Nat.mul_comm, Nat.testBit_two_pow_mul_add t ha]
theorem cs_tbge {x n i : Nat} (hx : x < 2 ^ n) (hi : n ≤ i) : x.testBit i = false := Nat.testBit_lt_two_pow (Nat.lt_of_lt_of_le hx (Nat.pow_le_pow_right (by decide) hi))
theorem Mt_split {y n a h t : Nat} (ha : a < 2 ^ h) : Mt y n (a + t * 2 ^ h) ↔ Mt (y % 2 ^ h) (n % 2 ^ h) a ∨ Mt (y >>> h) (n >>> h) t := by
  constructor
  · rintro ⟨i, hi⟩
    rw [cs_tbadd ha] at hi
    by_cases q : i < h
    · rw [if_pos q] at hi
      refine Or.inl ⟨i, ?_⟩
      rw [Nat.testBit_mod_two_pow, Nat.testBit_mod_two_pow, decide_eq_true q, Bool.true_and, Bool.true_and]
      exact hi
    · rw [if_neg q] at hi
      refine Or.inr ⟨i - h, ?_⟩
      rw [Nat.testBit_shiftRight, Nat.testBit_shiftRight, show h + (i - h) = i by omega]
      exact hi
  · rintro (⟨i, hi⟩ | ⟨i, hi⟩)
    · rw [Nat.testBit_mod_two_pow, Nat.testBit_mod_two_pow] at hi
      by_cases q : i < h
      · refine ⟨i, ?_⟩
        rw [cs_tbadd ha, if_pos q]
        rw [decide_eq_true q, Bool.true_and, Bool.true_and] at hi
        exact hi
      · rw [decide_eq_false q] at hi
        simp at hi
    · refine ⟨h + i, ?_⟩
      rw [cs_tbadd ha, if_neg (by omega), show h + i - h = i by omega]
      rw [Nat.testBit_shiftRight, Nat.testBit_shiftRight] at hi
      exact hi
theorem Mt_same {y n a b : Nat} (h : ∀ i, (y.testBit i = true ∨ n.testBit i = true) → a.testBit i = b.testBit i) : Mt y n a ↔ Mt y n b := by
  constructor
  · rintro ⟨i, ⟨h1, h2⟩ | ⟨h1, h2⟩⟩
    · exact ⟨i, Or.inl ⟨by rw [← h i (Or.inl h2)]; exact h1, h2⟩⟩
    · exact ⟨i, Or.inr ⟨by rw [← h i (Or.inr h2)]; exact h1, h2⟩⟩
  · rintro ⟨i, ⟨h1, h2⟩ | ⟨h1, h2⟩⟩
    · exact ⟨i, Or.inl ⟨by rw [h i (Or.inl h2)]; exact h1, h2⟩⟩
    · exact ⟨i, Or.inr ⟨by rw [h i (Or.inr h2)]; exact h1, h2⟩⟩
