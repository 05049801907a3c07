theorem pc_tb (m k : Nat) : m / 2 ^ k % 2 = (m.testBit k).toNat := by
  rw [Nat.testBit_eq_decide_div_mod_eq]
  rcases Nat.mod_two_eq_zero_or_one (m / 2 ^ k) with e | e
  · rw [e]; rfl
  · rw [e]; rfl
theorem pc_lo {a b : Nat} (hb : b < 2 ^ 8) : ∀ k, k ≤ 8 → pcs (b + a * 2 ^ 8) k = pcs b k := by
  intro k
  induction k with
  | zero => intro _; rfl
  | succ k ih =>
    intro hk
    show pcs (b + a * 2 ^ 8) k + (b + a * 2 ^ 8) / 2 ^ k % 2 = pcs b k + b / 2 ^ k % 2
    rw [ih (by omega), pc_tb, pc_tb, cs_tbadd hb, if_pos (by omega)]
theorem pc_hi {a b : Nat} (hb : b < 2 ^ 8) : ∀ k, pcs (b + a * 2 ^ 8) (8 + k) = pcs b 8 + pcs a k := by
  intro k
  induction k with
  | zero => exact pc_lo hb 8 (Nat.le_refl _)
  | succ k ih =>
    show pcs (b + a * 2 ^ 8) (8 + k) + (b + a * 2 ^ 8) / 2 ^ (8 + k) % 2 = pcs b 8 + (pcs a k + a / 2 ^ k % 2)
    rw [ih, pc_tb, pc_tb, cs_tbadd hb, if_neg (by omega), show 8 + k - 8 = k by omega]
    omega
theorem pc_and {p q r s : Nat} (hq : q < 2 ^ 8) (hs : s < 2 ^ 8) : (q + p * 2 ^ 8) &&& (s + r * 2 ^ 8) = (q &&& s) + (p &&& r) * 2 ^ 8 := by
  apply Nat.eq_of_testBit_eq
  intro i
  rw [Nat.testBit_and, cs_tbadd hq, cs_tbadd hs, cs_tbadd (Nat.and_lt_two_pow _ hs)]
  by_cases h : i < 8
  · rw [if_pos h, if_pos h, if_pos h, Nat.testBit_and]
  · rw [if_neg h, if_neg h, if_neg h, Nat.testBit_and]
def h1 (x : Nat) : Nat := x - ((x / 2) &&& 85)
def h2 (x : Nat) : Nat := (x &&& 51) + ((x / 4) &&& 51)
def h3 (x : Nat) : Nat := (x + x / 16) &&& 15
theorem pb_1 : ∀ b, b < 256 → ((b / 2) &&& 85 = (b / 2 + 128) &&& 85 ∧ (b / 2) &&& 5592405 = (b / 2) &&& 85) := by decide +kernel
theorem pb_2 : ∀ b, b < 256 → b &&& 3355443 = b &&& 51 ∧ (b / 4) &&& 3355443 = (b / 4) &&& 51 ∧ ∀ e, e < 4 → (b / 4 + e * 64) &&& 51 = (b / 4) &&& 51 := by decide +kernel
theorem pb_3 : ∀ b, b < 256 → (h2 (h1 b)) % 16 ≤ 4 ∧ h2 (h1 b) / 16 ≤ 4 ∧ h3 (h2 (h1 b)) = pcs b 8 := by decide +kernel
theorem pb_4 : ∀ b, b < 256 → b &&& 986895 = b &&& 15 ∧ b &&& 15 = b % 16 := by decide +kernel
theorem pb_le (b : Nat) : h1 b ≤ b := Nat.sub_le _ _
theorem bc1_sp {a b : Nat} (ha : a < 256) (hb : b < 256) : bc1 (b + a * 2 ^ 8) = h1 b + h1 a * 2 ^ 8 := by
  have e1 : (b + a * 2 ^ 8) / 2 ^ 1 = (b / 2 + a % 2 * 128) + a / 2 * 2 ^ 8 := by omega
  have e2 : (1431655765 : Nat) = 85 + 5592405 * 2 ^ 8 := rfl
  have e3 : (b / 2 + a % 2 * 128) &&& 85 = (b / 2) &&& 85 := by
    rcases Nat.mod_two_eq_zero_or_one a with e | e
    · rw [e, Nat.zero_mul, Nat.add_zero]
    · rw [e, Nat.one_mul]; exact (pb_1 b hb).1.symm
  unfold bc1 h1
  rw [e1, e2, pc_and (by omega) (by decide), e3, (pb_1 a ha).2]
  have l1 : (b / 2) &&& 85 ≤ b / 2 := Nat.and_le_left
  have l2 : (a / 2) &&& 85 ≤ a / 2 := Nat.and_le_left
  omega
theorem bc2_sp {a b : Nat} (ha : a < 256) (hb : b < 256) : bc2 (b + a * 2 ^ 8) = h2 b + h2 a * 2 ^ 8 := by
  have e1 : (b + a * 2 ^ 8) / 2 ^ 2 = (b / 4 + a % 4 * 64) + a / 4 * 2 ^ 8 := by omega
  have e2 : (858993459 : Nat) = 51 + 3355443 * 2 ^ 8 := rfl
  unfold bc2 h2
  rw [e1, e2, pc_and hb (by decide), pc_and (by omega) (by decide), (pb_2 b hb).2.2 _ (Nat.mod_lt _ (by decide)), (pb_2 a ha).1, (pb_2 a ha).2.1]
  omega
theorem bc3_sp {a b : Nat} (ha : a < 256) (hb : b < 256) (ha1 : a % 16 ≤ 4) (ha2 : a / 16 ≤ 4) (hb1 : b % 16 ≤ 4) (hb2 : b / 16 ≤ 4) : bc3 (b + a * 2 ^ 8) = h3 b + h3 a * 2 ^ 8 := by
  have e1 : (b + a * 2 ^ 8) + (b + a * 2 ^ 8) / 2 ^ 4 = (b + b / 16 + a % 16 * 16) + (a + a / 16) * 2 ^ 8 := by omega
  have e2 : (252645135 : Nat) = 15 + 986895 * 2 ^ 8 := rfl
  unfold bc3 h3
  rw [e1, e2, pc_and (by omega) (by decide), (pb_4 _ (by omega)).1, (pb_4 (b + b / 16 + a % 16 * 16) (by omega)).2, (pb_4 (b + b / 16) (by omega)).2]
  omega
theorem bc_pcs {m : Nat} (h : m < 65536) : bc6 (bc5 (bc4 (bc3 (bc2 (bc1 m))))) = pcs m 16 := by
  have hb : m % 256 < 256 := Nat.mod_lt _ (by decide)
  have ha : m / 256 < 256 := by omega
  have e : m = m % 256 + m / 256 * 2 ^ 8 := by omega
  rw [e, show (16 : Nat) = 8 + 8 from rfl, pc_hi hb]
  generalize m % 256 = b at hb
  generalize m / 256 = a at ha
  obtain ⟨p1, p2, p3⟩ := pb_3 b hb
  obtain ⟨q1, q2, q3⟩ := pb_3 a ha
  have l1 := pb_le b
  have l2 := pb_le a
  rw [bc1_sp ha hb, bc2_sp (by omega) (by omega), bc3_sp (by omega) (by omega) q1 q2 p1 p2, p3, q3]
  have r1 := pcs_le b 8
  have r2 := pcs_le a 8
  generalize pcs b 8 = x at r1
  generalize pcs a 8 = y at r2
  show bc6 (bc5 (x + y * 2 ^ 8 + (x + y * 2 ^ 8) / 2 ^ 8)) = x + y
  rw [show x + y * 2 ^ 8 + (x + y * 2 ^ 8) / 2 ^ 8 = x + y + y * 2 ^ 8 by omega]
  show bc6 (x + y + y * 2 ^ 8 + (x + y + y * 2 ^ 8) / 2 ^ 16) = x + y
  rw [show x + y + y * 2 ^ 8 + (x + y + y * 2 ^ 8) / 2 ^ 16 = x + y + y * 2 ^ 8 by omega]
  show (x + y + y * 2 ^ 8) &&& (2 ^ 6 - 1) = x + y
  rw [Nat.and_two_pow_sub_one_eq_mod]
  omega
