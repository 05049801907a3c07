/-! all clauses are met -/
def PX (c : Nat) (Y Z : Nat → Nat) (a : Nat) : Prop := ∀ k, k < c → Mt (Y k) (Z k) a
/-- the class's rows of the clauses -/
def RX (N h c : Nat) (Y Z : Nat → Nat) (ht hf dp : Nat → Int32) (tl : Nat → Int64) : Prop :=
  ∀ k, k < c → Y k < 2 ^ N ∧ Z k < 2 ^ N ∧ ht k = nI (Y k % 2 ^ h) ∧ hf k = nI (Z k % 2 ^ h) ∧ (∃ δ, δ ≤ h ∧ dp k = nI δ ∧ ∀ i, δ ≤ i → i < h → (Y k).testBit i = false ∧ (Z k).testBit i = false) ∧ ∀ t, t < 64 → (lb (tl k) t = true ↔ Mt (Y k >>> h) (Z k >>> h) t)
/-- a clause that is known at a depth below d says the same of every head with these first d variables -/
theorem RX_flat {N h c : Nat} {Y Z : Nat → Nat} {ht hf dp : Nat → Int32} {tl : Nat → Int64} (hh : h < 2 ^ 31) (R : RX N h c Y Z ht hf dp tl) {k : Nat} (hk : k < c) {d : Nat} (hd : d ≤ h) (hδ : (dp k).toNatClampNeg ≤ d) {a b : Nat} (hab : ∀ i, (i < d ∨ h ≤ i) → a.testBit i = b.testBit i) : Mt (Y k) (Z k) a ↔ Mt (Y k) (Z k) b := by
  obtain ⟨-, -, -, -, ⟨δ, h1, h2, h3⟩, -⟩ := R k hk
  rw [h2, nI_clamp (by omega)] at hδ
  refine Mt_same fun i hi => ?_
  by_cases q : i < d ∨ h ≤ i
  · exact hab i q
  · have := h3 i (by omega) (by omega)
    rw [this.1, this.2] at hi
    simp at hi
/-- the tails that are left above depth d -/
def OP (h c : Nat) (Y Z : Nat → Nat) (dp : Nat → Int32) (d a : Nat) (x : Int64) : Prop := ∀ t, t < 64 → (lb x t = true ↔ ∀ k, k < c → (dp k).toNatClampNeg < d → Mt (Y k) (Z k) (a + t * 2 ^ h))
theorem OP_0 {h c : Nat} {Y Z : Nat → Nat} {dp : Nat → Int32} {a : Nat} : OP h c Y Z dp 0 a (-1) := by
  intro t ht
  rw [lb_m1 t ht]
  exact ⟨fun _ k _ hn => absurd hn (Nat.not_lt_zero _), fun _ => rfl⟩
/-- the loop of narrowed -/
def NI (h : Nat) (Y Z : Nat → Nat) (dp : Nat → Int32) (tl : Nat → Int64) (d a : Nat) (x : Int64) (k : Nat) (z : Int64) : Prop := ∀ t, t < 64 → (lb z t = true ↔ (lb x t = true ∧ ∀ j, j < k → (dp j).toNatClampNeg = d → (Mt (Y j % 2 ^ h) (Z j % 2 ^ h) a ∨ lb (tl j) t = true)))
theorem NI_0 {h : Nat} {Y Z : Nat → Nat} {dp : Nat → Int32} {tl : Nat → Int64} {d a : Nat} {x : Int64} : NI h Y Z dp tl d a x 0 x := by
  intro t _
  exact ⟨fun h => ⟨h, fun j hj => absurd hj (Nat.not_lt_zero _)⟩, fun h => h.1⟩
theorem NI_skip {h : Nat} {Y Z : Nat → Nat} {dp : Nat → Int32} {tl : Nat → Int64} {d a k : Nat} {x z : Int64} (H : NI h Y Z dp tl d a x k z) (hs : (dp k).toNatClampNeg = d → Mt (Y k % 2 ^ h) (Z k % 2 ^ h) a) : NI h Y Z dp tl d a x (k + 1) z := by
  intro t ht
  rw [H t ht]
  constructor
  · rintro ⟨h1, h2⟩
    refine ⟨h1, fun j hj hd => ?_⟩
    rcases Nat.lt_or_ge j k with q | q
    · exact h2 j q hd
    · have e : j = k := by omega
      rw [e] at hd ⊢
      exact Or.inl (hs hd)
  · rintro ⟨h1, h2⟩
    exact ⟨h1, fun j hj hd => h2 j (by omega) hd⟩
theorem NI_and {h : Nat} {Y Z : Nat → Nat} {dp : Nat → Int32} {tl : Nat → Int64} {d a k : Nat} {x z : Int64} (H : NI h Y Z dp tl d a x k z) (hd : (dp k).toNatClampNeg = d) (hs : ¬ Mt (Y k % 2 ^ h) (Z k % 2 ^ h) a) : NI h Y Z dp tl d a x (k + 1) (z &&& tl k) := by
  intro t ht
  rw [lb_and, Bool.and_eq_true, H t ht]
  constructor
  · rintro ⟨⟨h1, h2⟩, h3⟩
    refine ⟨h1, fun j hj hd => ?_⟩
    rcases Nat.lt_or_ge j k with q | q
    · exact h2 j q hd
    · have e : j = k := by omega
      rw [e]
      exact Or.inr h3
  · rintro ⟨h1, h2⟩
    refine ⟨⟨h1, fun j hj hd => h2 j (by omega) hd⟩, ?_⟩
    rcases h2 k (by omega) hd with q | q
    · exact absurd q hs
    · exact q
theorem NI_zero {h : Nat} {Y Z : Nat → Nat} {dp : Nat → Int32} {tl : Nat → Int64} {d a k c : Nat} {x : Int64} (H : NI h Y Z dp tl d a x k 0) (hk : k ≤ c) : NI h Y Z dp tl d a x c 0 := by
  intro t ht
  have h0 := H t ht
  constructor
  · intro q
    rw [lb_0] at q
    cases q
  · rintro ⟨h1, h2⟩
    exact h0.mpr ⟨h1, fun j hj hd => h2 j (by omega) hd⟩
theorem OP_next {N h c : Nat} {Y Z : Nat → Nat} {ht hf dp : Nat → Int32} {tl : Nat → Int64} (R : RX N h c Y Z ht hf dp tl) {d a : Nat} {x z : Int64} (ha : a < 2 ^ h) (O : OP h c Y Z dp d a x) (H : NI h Y Z dp tl d a x c z) : OP h c Y Z dp (d + 1) a z := by
  intro t ht
  rw [H t ht, O t ht]
  constructor
  · rintro ⟨h1, h2⟩ k hk hd
    rcases Nat.lt_or_ge (dp k).toNatClampNeg d with q | q
    · exact h1 k hk q
    · rw [Mt_split ha, ← (R k hk).2.2.2.2.2 t ht]
      exact h2 k hk (by omega)
  · intro h1
    refine ⟨fun k hk hd => h1 k hk (by omega), fun k hk hd => ?_⟩
    have h2 := h1 k hk (by omega)
    rw [Mt_split ha, ← (R k hk).2.2.2.2.2 t ht] at h2
    exact h2
theorem OP_none {N h c w : Nat} {Y Z : Nat → Nat} {ht hf dp : Nat → Int32} {tl : Nat → Int64} (hh : h < 2 ^ 31) (R : RX N h c Y Z ht hf dp tl) {d a : Nat} (hd : d ≤ h) (ha : a < 2 ^ d) (O : OP h c Y Z dp (d + 1) a 0) : fs (PX c Y Z) w (h + 6 - d) a d = none := by
  rw [fs_none]
  intro t ht hP
  have hah : a < 2 ^ h := Nat.lt_of_lt_of_le ha (Nat.pow_le_pow_right (by decide) hd)
  have hT : t / 2 ^ (h - d) < 64 := by
    rw [Nat.div_lt_iff_lt_mul (Nat.two_pow_pos _), show (64 : Nat) = 2 ^ 6 from rfl, ← Nat.pow_add, show 6 + (h - d) = h + 6 - d by omega]
    exact ht
  have h0 := O _ hT
  rw [lb_0] at h0
  have h1 : lb 0 0 = true := (lb_0 0).trans (h0.mpr fun k hk hδ => by
    refine (RX_flat hh R hk hd (by omega) fun i hi => ?_).mp (hP k hk)
    rw [cs_tbadd ha, cs_tbadd hah]
    rcases hi with q | q
    · rw [if_pos q, if_pos (by omega)]
    · rw [if_neg (by omega), if_neg (by omega), Nat.testBit_div_two_pow, show i - h + (h - d) = i - d by omega])
  rw [lb_0] at h1
  cases h1
theorem OP_down {N h c : Nat} {Y Z : Nat → Nat} {ht hf dp : Nat → Int32} {tl : Nat → Int64} (hh : h < 2 ^ 31) (R : RX N h c Y Z ht hf dp tl) {d a : Nat} {z : Int64} (hd : d < h) (ha : a < 2 ^ d) (O : OP h c Y Z dp (d + 1) a z) : OP h c Y Z dp (d + 1) (a + 2 ^ d) z := by
  intro t ht
  rw [O t ht]
  have hah : a < 2 ^ h := Nat.lt_of_lt_of_le ha (Nat.pow_le_pow_right (by decide) (by omega))
  have h2 : 2 ^ (d + 1) ≤ 2 ^ h := Nat.pow_le_pow_right (by decide) hd
  have ha2 : a + 2 ^ d < 2 ^ h := by
    rw [Nat.pow_succ] at h2
    omega
  have key : ∀ k, k < c → (dp k).toNatClampNeg < d + 1 → (Mt (Y k) (Z k) (a + t * 2 ^ h) ↔ Mt (Y k) (Z k) (a + 2 ^ d + t * 2 ^ h)) := fun k hk hδ => by
    refine RX_flat hh R hk (Nat.le_of_lt hd) (by omega) fun i hi => ?_
    rw [cs_tbadd hah, cs_tbadd ha2]
    rcases hi with q | q
    · rw [if_pos (by omega), if_pos (by omega), Nat.add_comm, Nat.testBit_two_pow_add_gt q]
    · rw [if_neg (by omega), if_neg (by omega)]
  exact ⟨fun g k hk hδ => (key k hk hδ).mp (g k hk hδ), fun g k hk hδ => (key k hk hδ).mpr (g k hk hδ)⟩
theorem OP_leaf {N h c w : Nat} {Y Z : Nat → Nat} {ht hf dp : Nat → Int32} {tl : Nat → Int64} (hh : h < 2 ^ 31) (R : RX N h c Y Z ht hf dp tl) {a τ : Nat} {z : Int64} (O : OP h c Y Z dp (h + 1) a z) (hτ : fs (fun t => lb z t = true) (w >>> h) 6 0 0 = some τ) : fs (PX c Y Z) w 6 a h = some (a + τ * 2 ^ h) := by
  have e := fs_shift (PX c Y Z) w h a 6 0 0
  rw [Nat.zero_mul, Nat.add_zero, Nat.add_zero] at e
  rw [e, fs_congr (P' := fun t => lb z t = true) 6 0 0, hτ]
  · rfl
  · intro t ht
    have e2 : 0 + t * 2 ^ 0 = t := by omega
    rw [e2, O t (by simpa using ht)]
    refine ⟨fun g k hk _ => g k hk, fun g k hk => g k hk ?_⟩
    obtain ⟨-, -, -, -, ⟨δ, h1, h2, h3⟩, -⟩ := R k hk
    rw [h2, nI_clamp (by omega)]
    omega
/-! the loop of firstTail: the tails of x in the wished order -/
def TI (x : Int64) (w j τ : Nat) (z : Int64) : Prop := τ < 2 ^ j ∧ (∀ t, t < 64 → (lb z t = true ↔ (lb x t = true ∧ t % 2 ^ j = τ))) ∧ ¬ z = 0 ∧ fs (fun t => lb x t = true) w 6 0 0 = fs (fun t => lb x t = true) w (6 - j) τ j
theorem TI_0 {x : Int64} {w : Nat} (h : ¬ x = 0) : TI x w 0 0 x := ⟨by decide, fun t _ => ⟨fun h => ⟨h, by omega⟩, fun h => h.1⟩, h, rfl⟩
theorem TI_6 {x z : Int64} {w τ : Nat} (h : TI x w 6 τ z) : fs (fun t => lb x t = true) w 6 0 0 = some τ := by
  obtain ⟨h1, h2, h3, h4⟩ := h
  obtain ⟨t, ht, hb⟩ := lb_ne0 h3
  obtain ⟨h5, h6⟩ := (h2 t ht).mp hb
  rw [Nat.mod_eq_of_lt (by simpa using ht)] at h6
  rw [h4, ← h6]
  exact fs_0t (P := fun t => lb x t = true) h5
theorem cs_modsucc (t j : Nat) : t % 2 ^ (j + 1) = t % 2 ^ j + (if t.testBit j = true then 2 ^ j else 0) := by
  rw [Nat.mod_pow_succ, Nat.testBit_eq_decide_div_mod_eq]
  rcases Nat.mod_two_eq_zero_or_one (t / 2 ^ j) with e | e
  · rw [e]; simp
  · rw [e]; simp
theorem TI_in {j τ t : Nat} (hj : j < 6) (hτ : τ < 2 ^ (j + 1)) : t < 2 ^ (5 - j) → (τ + t * 2 ^ (j + 1)) < 64 ∧ (τ + t * 2 ^ (j + 1)) % 2 ^ (j + 1) = τ := by
  intro h
  have h1 : (t + 1) * 2 ^ (j + 1) ≤ 2 ^ (5 - j) * 2 ^ (j + 1) := Nat.mul_le_mul_right _ h
  rw [← Nat.pow_add, show 5 - j + (j + 1) = 6 by omega, Nat.add_mul, Nat.one_mul] at h1
  refine ⟨by omega, ?_⟩
  rw [Nat.add_mul_mod_self_right, Nat.mod_eq_of_lt hτ]
theorem TI_step {x z y : Int64} {w j τ τ' : Nat} (hj : j < 6) (H : TI x w j τ z) (hτ' : τ' < 2 ^ (j + 1)) (hy : ∀ t, t < 64 → (lb y t = true ↔ (lb x t = true ∧ t % 2 ^ (j + 1) = τ'))) (hn : ¬ y = 0) (hfs : fs (fun t => lb x t = true) w (5 - j + 1) τ j = fs (fun t => lb x t = true) w (5 - j) τ' (j + 1)) : TI x w (j + 1) τ' y := by
  refine ⟨hτ', hy, hn, ?_⟩
  rw [H.2.2.2, show 6 - j = 5 - j + 1 by omega, hfs, show 6 - (j + 1) = 5 - j by omega]
theorem TI_ne {x y : Int64} {w j τ' : Nat} (hj : j < 6) (hy : ∀ t, t < 64 → (lb y t = true ↔ (lb x t = true ∧ t % 2 ^ (j + 1) = τ'))) (hn : ¬ y = 0) : ¬ fs (fun t => lb x t = true) w (5 - j) τ' (j + 1) = none := by
  rw [fs_none]
  intro h
  obtain ⟨t, ht, hb⟩ := lb_ne0 hn
  obtain ⟨h1, h2⟩ := (hy t ht).mp hb
  have h3 := Nat.div_add_mod t (2 ^ (j + 1))
  refine h (t / 2 ^ (j + 1)) ?_ ?_
  · rw [Nat.div_lt_iff_lt_mul (Nat.two_pow_pos _), ← Nat.pow_add, show 5 - j + (j + 1) = 6 by omega]
    exact ht
  · show lb x _ = true
    rw [← h2, Nat.add_comm, Nat.mul_comm, h3]
    exact h1
theorem TI_no {x y : Int64} {w j τ' : Nat} (hj : j < 6) (hτ' : τ' < 2 ^ (j + 1)) (hy : ∀ t, t < 64 → (lb y t = true ↔ (lb x t = true ∧ t % 2 ^ (j + 1) = τ'))) (hn : y = 0) : fs (fun t => lb x t = true) w (5 - j) τ' (j + 1) = none := by
  rw [fs_none]
  intro t ht hb
  obtain ⟨h1, h2⟩ := TI_in (τ := τ') hj hτ' ht
  have h3 := (hy _ h1).mpr ⟨hb, h2⟩
  rw [hn, lb_0] at h3
  cases h3
theorem TI_with {x z : Int64} {w j τ : Nat} (hj : j < 6) (H : TI x w j τ z) : ∀ t, t < 64 → (lb (z &&& cs_tw j) t = true ↔ (lb x t = true ∧ t % 2 ^ (j + 1) = τ + 2 ^ j)) := by
  intro t ht
  rw [lb_and, Bool.and_eq_true, H.2.1 t ht, lb_tw j hj t ht, cs_modsucc]
  have hτ := H.1
  constructor
  · rintro ⟨⟨h1, h2⟩, h3⟩
    refine ⟨h1, ?_⟩
    rw [if_pos h3, h2]
  · rintro ⟨h1, h2⟩
    have hm := Nat.mod_lt t (Nat.two_pow_pos j)
    cases hb : t.testBit j with
    | true =>
      rw [hb, if_pos rfl] at h2
      exact ⟨⟨h1, by omega⟩, rfl⟩
    | false =>
      rw [hb, if_neg (by decide)] at h2
      omega
theorem TI_without {x z : Int64} {w j τ : Nat} (hj : j < 6) (H : TI x w j τ z) : ∀ t, t < 64 → (lb (z &&& (cs_tw j ^^^ (-1))) t = true ↔ (lb x t = true ∧ t % 2 ^ (j + 1) = τ)) := by
  intro t ht
  rw [lb_and, Bool.and_eq_true, H.2.1 t ht, lb_not _ ht, lb_tw j hj t ht, cs_modsucc]
  have hτ := H.1
  constructor
  · rintro ⟨⟨h1, h2⟩, h3⟩
    refine ⟨h1, ?_⟩
    rw [if_neg (by simpa using h3), h2, Nat.add_zero]
  · rintro ⟨h1, h2⟩
    have hm := Nat.mod_lt t (Nat.two_pow_pos j)
    cases hb : t.testBit j with
    | true =>
      rw [hb, if_pos rfl] at h2
      omega
    | false =>
      rw [hb, if_neg (by decide)] at h2
      exact ⟨⟨h1, by omega⟩, rfl⟩
theorem TI_ex {x z : Int64} {w j τ : Nat} (hj : j < 6) (H : TI x w j τ z) (h : z &&& cs_tw j = 0) : ¬ z &&& (cs_tw j ^^^ (-1)) = 0 := by
  obtain ⟨t, ht, hb⟩ := lb_ne0 H.2.2.1
  refine lb_ne0' (t := t) ?_
  have h1 := lb_eq0.mp h t ht
  rw [lb_and, hb, Bool.true_and] at h1
  rw [lb_and, hb, lb_not _ ht, h1]
  rfl
theorem TI_p {j : Nat} : 2 ^ (j + 1) = 2 ^ j + 2 ^ j := by rw [Nat.pow_succ]; omega
theorem TI_tt {x z : Int64} {w j τ : Nat} (hj : j < 6) (H : TI x w j τ z) (hb : w.testBit j = true) (h : ¬ z &&& cs_tw j = 0) : TI x w (j + 1) (τ + 2 ^ j) (z &&& cs_tw j) := by
  have hτ := H.1
  refine TI_step hj H (by rw [TI_p]; omega) (TI_with hj H) h ?_
  rw [fs_st hb, or_left (TI_ne hj (TI_with hj H) h)]
theorem TI_tf {x z : Int64} {w j τ : Nat} (hj : j < 6) (H : TI x w j τ z) (hb : w.testBit j = true) (h : z &&& cs_tw j = 0) : TI x w (j + 1) τ (z &&& (cs_tw j ^^^ (-1))) := by
  have hτ := H.1
  refine TI_step hj H (by rw [TI_p]; omega) (TI_without hj H) (TI_ex hj H h) ?_
  rw [fs_st hb, or_right (TI_no hj (by rw [TI_p]; omega) (TI_with hj H) h)]
theorem TI_ff {x z : Int64} {w j τ : Nat} (hj : j < 6) (H : TI x w j τ z) (hb : w.testBit j = false) (h : ¬ z &&& (cs_tw j ^^^ (-1)) = 0) : TI x w (j + 1) τ (z &&& (cs_tw j ^^^ (-1))) := by
  have hτ := H.1
  refine TI_step hj H (by rw [TI_p]; omega) (TI_without hj H) h ?_
  rw [fs_sf hb, or_left (TI_ne hj (TI_without hj H) h)]
theorem TI_ft {x z : Int64} {w j τ : Nat} (hj : j < 6) (H : TI x w j τ z) (hb : w.testBit j = false) (h : z &&& (cs_tw j ^^^ (-1)) = 0) : TI x w (j + 1) (τ + 2 ^ j) (z &&& cs_tw j) := by
  have hτ := H.1
  refine TI_step hj H (by rw [TI_p]; omega) (TI_with hj H) (fun q => TI_ex hj H q h) ?_
  rw [fs_sf hb, or_right (TI_no hj (by rw [TI_p]; omega) (TI_without hj H) h)]
/-! the loop of tailsThatMeet -/
def MI (y n j : Nat) (z : Int64) : Prop := ∀ t, t < 64 → (lb z t = true ↔ ∃ i, i < j ∧ ((t.testBit i = true ∧ y.testBit i = true) ∨ (t.testBit i = false ∧ n.testBit i = true)))
theorem MI_0 {y n : Nat} : MI y n 0 0 := by
  intro t _
  rw [lb_0]
  exact ⟨fun h => (by cases h), fun ⟨i, hi, _⟩ => absurd hi (Nat.not_lt_zero _)⟩
theorem MI_s {y n j : Nat} {z u : Int64} (H : MI y n j z) (hu : ∀ t, t < 64 → (lb u t = true ↔ (lb z t = true ∨ (t.testBit j = true ∧ y.testBit j = true) ∨ (t.testBit j = false ∧ n.testBit j = true)))) : MI y n (j + 1) u := by
  intro t ht
  rw [hu t ht, H t ht]
  constructor
  · rintro (⟨i, hi, h⟩ | h)
    · exact ⟨i, by omega, h⟩
    · exact ⟨j, by omega, h⟩
  · rintro ⟨i, hi, h⟩
    rcases Nat.lt_or_ge i j with q | q
    · exact Or.inl ⟨i, q, h⟩
    · have e : i = j := by omega
      rw [e] at h
      exact Or.inr h
theorem MI_tt {y n j : Nat} {z : Int64} (hj : j < 6) (H : MI y n j z) (hy : y.testBit j = true) (hn : n.testBit j = true) : MI y n (j + 1) (z ||| cs_tw j ||| (cs_tw j ^^^ (-1))) := by
  refine MI_s H fun t ht => ?_
  rw [lb_or, lb_or, lb_not _ ht, lb_tw j hj t ht, hy, hn]
  cases t.testBit j <;> simp
theorem MI_tf {y n j : Nat} {z : Int64} (hj : j < 6) (H : MI y n j z) (hy : y.testBit j = true) (hn : n.testBit j = false) : MI y n (j + 1) (z ||| cs_tw j) := by
  refine MI_s H fun t ht => ?_
  rw [lb_or, lb_tw j hj t ht, hy, hn]
  cases t.testBit j <;> simp
theorem MI_ft {y n j : Nat} {z : Int64} (hj : j < 6) (H : MI y n j z) (hy : y.testBit j = false) (hn : n.testBit j = true) : MI y n (j + 1) (z ||| (cs_tw j ^^^ (-1))) := by
  refine MI_s H fun t ht => ?_
  rw [lb_or, lb_not _ ht, lb_tw j hj t ht, hy, hn]
  cases t.testBit j <;> simp
theorem MI_ff {y n j : Nat} {z : Int64} (H : MI y n j z) (hy : y.testBit j = false) (hn : n.testBit j = false) : MI y n (j + 1) z := by
  refine MI_s H fun t ht => ?_
  rw [hy, hn]
  simp
theorem MI_6 {y n : Nat} {z : Int64} (H : MI y n 6 z) (hy : y < 64) (hn : n < 64) : ∀ t, t < 64 → (lb z t = true ↔ Mt y n t) := by
  intro t ht
  rw [H t ht]
  constructor
  · rintro ⟨i, -, h⟩
    exact ⟨i, h⟩
  · rintro ⟨i, h⟩
    refine ⟨i, Nat.not_le.mp fun q => ?_, h⟩
    rw [cs_tbge (n := 6) hy q, cs_tbge (n := 6) hn q] at h
    simp at h
/-! the reference's search -/
theorem PX_cut {c w : Nat} {Y Z : Nat → Nat} {a v d k : Nat} (ha : a < 2 ^ v) (hk : k < c) (h0 : (Y k ||| Z k) / 2 ^ v = 0) (h : ¬ Mt (Y k) (Z k) a) : fs (PX c Y Z) w d a v = none := by
  rw [fs_none]
  intro t _ hP
  refine h ((Mt_same fun i hi => ?_).mp (hP k hk))
  have hlt : Y k ||| Z k < 2 ^ v := by
    rcases Nat.div_eq_zero_iff.mp h0 with q | q
    · exact absurd q (Nat.ne_of_gt (Nat.two_pow_pos v))
    · exact q
  have hiv : i < v := Nat.not_le.mp fun q => by
    have h1 := cs_tbge hlt q
    rw [Nat.testBit_or] at h1
    rcases hi with e | e
    · rw [e] at h1; simp at h1
    · rw [e] at h1; simp at h1
  rw [cs_tbadd ha, if_pos hiv]
theorem PX_past {N c : Nat} {Y Z : Nat → Nat} (hY : ∀ k, k < c → Y k < 2 ^ N ∧ Z k < 2 ^ N) : ∀ a v, N ≤ v → (PX c Y Z (a + 2 ^ v) ↔ PX c Y Z a) := by
  intro a v hv
  have key : ∀ k, k < c → (Mt (Y k) (Z k) (a + 2 ^ v) ↔ Mt (Y k) (Z k) a) := fun k hk => Mt_same fun i hi => by
    have hiN : i < N := Nat.not_le.mp fun q => by
      rw [cs_tbge (hY k hk).1 q, cs_tbge (hY k hk).2 q] at hi
      simp at hi
    rw [Nat.add_comm, Nat.testBit_two_pow_add_gt (by omega)]
  exact ⟨fun g k hk => (key k hk).mp (g k hk), fun g k hk => (key k hk).mpr (g k hk)⟩
/-- both searches: over the head and six, over the variables alone -/
theorem PX_both {N c w : Nat} {Y Z : Nat → Nat} (hY : ∀ k, k < c → Y k < 2 ^ N ∧ Z k < 2 ^ N) (hw : w < 2 ^ N) : fs (PX c Y Z) w (N - 6 + 6) 0 0 = fs (PX c Y Z) w N 0 0 := by
  rcases Nat.lt_or_ge N 6 with q | q
  · rw [show N - 6 + 6 = N + (6 - N) by omega]
    exact fs_extra (PX_past hY) (fun v hv => cs_tbge hw hv) _ N 0 0 (by omega)
  · rw [show N - 6 + 6 = N by omega]
