/-! states and their changes -/
def bI : Bool → Int32
  | true => nI 1
  | false => nI 0
theorem bI_ne {x : Bool} (h : ¬ bI x = 0) : bI x = nI 1 := by
  cases x with
  | true => rfl
  | false => exact absurd nI_0 h
theorem bI_nar (x : Bool) : narrow .boolean (.int (bI x)) = .int (bI x) := by cases x <;> rfl
theorem cs_hasv (b v : Nat) : nI ((b / 2 ^ v) &&& 1) = bI (b.testBit v) := by
  rw [Nat.and_one_is_mod, Nat.testBit_eq_decide_div_mod_eq]
  rcases Nat.mod_two_eq_zero_or_one (b / 2 ^ v) with e | e
  · rw [e]; rfl
  · rw [e]; rfl
def ub (f : Nat → Nat) (k x : Nat) : Nat → Nat := fun j => if j = k then x else f j
theorem ub_s {f : Nat → Nat} {k x : Nat} : ub f k x k = x := if_pos rfl
theorem ub_n {f : Nat → Nat} {k x j : Nat} (h : j ≠ k) : ub f k x j = f j := if_neg h
/-- the reference's rows -/
def RM (N c w : Nat) (Y Z : Nat → Nat) (wf ye no : Nat → Int32) : Prop := (∀ v, v < N → wf v = bI (w.testBit v)) ∧ ∀ k, k < c → ye k = nI (Y k) ∧ no k = nI (Z k)
theorem RX_0 {N h : Nat} {Y Z : Nat → Nat} {ht hf dp : Nat → Int32} {tl : Nat → Int64} : RX N h 0 Y Z ht hf dp tl := fun k hk => absurd hk (Nat.not_lt_zero _)
theorem RX_lt {N h c : Nat} {Y Z : Nat → Nat} {ht hf dp : Nat → Int32} {tl : Nat → Int64} (R : RX N h c Y Z ht hf dp tl) : ∀ k, k < c → Y k < 2 ^ N ∧ Z k < 2 ^ N := fun k hk => ⟨(R k hk).1, (R k hk).2.1⟩
theorem RX_add {N h c : Nat} {Y Z : Nat → Nat} {ht hf dp : Nat → Int32} {tl : Nat → Int64} (R : RX N h c Y Z ht hf dp tl) {y n δ : Nat} {z : Int64} (hy : y < 2 ^ N) (hn : n < 2 ^ N) (hδ : δ ≤ h) (hb : ∀ i, δ ≤ i → i < h → y.testBit i = false ∧ n.testBit i = false) (hz : ∀ t, t < 64 → (lb z t = true ↔ Mt (y >>> h) (n >>> h) t)) : RX N h (c + 1) (ub Y c y) (ub Z c n) (upd ht c (nI (y % 2 ^ h))) (upd hf c (nI (n % 2 ^ h))) (upd dp c (nI δ)) (vp_updL tl c z) := by
  intro k hk
  by_cases e : k = c
  · subst e
    rw [ub_s, ub_s, pk_us, pk_us, pk_us, pk_uLs]
    exact ⟨hy, hn, rfl, rfl, ⟨δ, hδ, rfl, hb⟩, hz⟩
  · rw [ub_n e, ub_n e, pk_un e, pk_un e, pk_un e, pk_uLn e]
    exact R k (by omega)
theorem RX_drop {N h c : Nat} {Y Z : Nat → Nat} {ht hf dp : Nat → Int32} {tl : Nat → Int64} (R : RX N h (c + 1) Y Z ht hf dp tl) {j : Nat} (hj : j < c + 1) : RX N h c (ub Y j (Y c)) (ub Z j (Z c)) (upd ht j (ht c)) (upd hf j (hf c)) (upd dp j (dp c)) (vp_updL tl j (tl c)) := by
  intro k hk
  by_cases e : k = j
  · subst e
    rw [ub_s, ub_s, pk_us, pk_us, pk_us, pk_uLs]
    exact R c (by omega)
  · rw [ub_n e, ub_n e, pk_un e, pk_un e, pk_un e, pk_uLn e]
    exact R k (by omega)
theorem RM_add {N c w : Nat} {Y Z : Nat → Nat} {wf ye no : Nat → Int32} (R : RM N c w Y Z wf ye no) {y n : Nat} : RM N (c + 1) w (ub Y c y) (ub Z c n) wf (upd ye c (nI y)) (upd no c (nI n)) := by
  refine ⟨R.1, fun k hk => ?_⟩
  by_cases e : k = c
  · subst e
    rw [ub_s, ub_s, pk_us, pk_us]
    exact ⟨rfl, rfl⟩
  · rw [ub_n e, ub_n e, pk_un e, pk_un e]
    exact R.2 k (by omega)
theorem RM_drop {N c w : Nat} {Y Z : Nat → Nat} {wf ye no : Nat → Int32} (R : RM N (c + 1) w Y Z wf ye no) {j : Nat} (hj : j < c + 1) : RM N c w (ub Y j (Y c)) (ub Z j (Z c)) wf (upd ye j (ye c)) (upd no j (no c)) := by
  refine ⟨R.1, fun k hk => ?_⟩
  by_cases e : k = j
  · subst e
    rw [ub_s, ub_s, pk_us, pk_us]
    exact R.2 c (by omega)
  · rw [ub_n e, ub_n e, pk_un e, pk_un e]
    exact R.2 k (by omega)
/-- what a wish leaves -/
def wsh (w v : Nat) : Bool → Nat
  | true => w ||| 2 ^ v
  | false => w &&& (2 ^ v ^^^ 4294967295)
theorem wsh_lt {w v N : Nat} (hw : w < 2 ^ N) (hv : v < N) (b : Bool) : wsh w v b < 2 ^ N := by
  cases b with
  | true => exact Nat.or_lt_two_pow hw (Nat.pow_lt_pow_right (by decide) hv)
  | false => exact Nat.lt_of_le_of_lt Nat.and_le_left hw
theorem wsh_tb {w v u : Nat} (hu : u < 32) (b : Bool) : (wsh w v b).testBit u = if u = v then b else w.testBit u := by
  cases b with
  | true =>
    show (w ||| 2 ^ v).testBit u = _
    rw [Nat.testBit_or, Nat.testBit_two_pow]
    by_cases e : u = v
    · rw [if_pos e, decide_eq_true e.symm]; simp
    · rw [if_neg e, decide_eq_false (fun q => e q.symm)]; simp
  | false =>
    show (w &&& (2 ^ v ^^^ 4294967295)).testBit u = _
    rw [Nat.testBit_and, cs_not _ hu, Nat.testBit_two_pow]
    by_cases e : u = v
    · rw [if_pos e, decide_eq_true e.symm]; simp
    · rw [if_neg e, decide_eq_false (fun q => e q.symm)]; simp
theorem RM_wish {N c w v : Nat} {Y Z : Nat → Nat} {wf ye no : Nat → Int32} (hN : N ≤ 16) (R : RM N c w Y Z wf ye no) (b : Bool) : RM N c (wsh w v b) Y Z (upd wf v (bI b)) ye no := by
  refine ⟨fun u hu => ?_, R.2⟩
  rw [wsh_tb (by omega)]
  by_cases e : u = v
  · subst e
    rw [pk_us, if_pos rfl]
  · rw [pk_un e, if_neg e]
    exact R.1 u hu
/-! how many bits -/
def pcs (m : Nat) : Nat → Nat
  | 0 => 0
  | k + 1 => pcs m k + m / 2 ^ k % 2
theorem pcs_le (m : Nat) : ∀ k, pcs m k ≤ k := by
  intro k
  induction k with
  | zero => exact Nat.le_refl _
  | succ k ih =>
    show pcs m k + m / 2 ^ k % 2 ≤ k + 1
    have := Nat.mod_lt (m / 2 ^ k) (show 2 > 0 by decide)
    omega
def bc1 (m : Nat) : Nat := m - ((m / 2 ^ 1) &&& 1431655765)
def bc2 (m : Nat) : Nat := (m &&& 858993459) + ((m / 2 ^ 2) &&& 858993459)
def bc3 (m : Nat) : Nat := (m + m / 2 ^ 4) &&& 252645135
def bc4 (m : Nat) : Nat := m + m / 2 ^ 8
def bc5 (m : Nat) : Nat := m + m / 2 ^ 16
def bc6 (m : Nat) : Nat := m &&& 63
theorem bc1_lt {m : Nat} (h : m < 65536) : bc1 m < 65536 := Nat.lt_of_le_of_lt (Nat.sub_le _ _) h
theorem bc2_lt {m : Nat} (h : m < 65536) : bc2 m < 131072 := by
  have h1 : m &&& 858993459 ≤ m := Nat.and_le_left
  have h2 : (m / 2 ^ 2) &&& 858993459 ≤ m / 2 ^ 2 := Nat.and_le_left
  show (m &&& 858993459) + ((m / 2 ^ 2) &&& 858993459) < 131072
  omega
theorem bc3_lt {m : Nat} (h : m < 131072) : bc3 m < 262144 := by
  have h1 : (m + m / 2 ^ 4) &&& 252645135 ≤ m + m / 2 ^ 4 := Nat.and_le_left
  show (m + m / 2 ^ 4) &&& 252645135 < 262144
  omega
theorem bc4_lt {m : Nat} (h : m < 262144) : bc4 m < 524288 := by
  show m + m / 2 ^ 8 < 524288
  omega
