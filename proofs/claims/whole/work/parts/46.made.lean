/-- how many variables there are -/
def cl (v : Int32) : Nat := if v < 1 then 1 else if 16 < v then 16 else v.toNatClampNeg
theorem i_lt {v : Int32} {n : Nat} (hn : n < 2 ^ 31) : v < nI n ↔ v.toInt < n := by rw [Int32.lt_iff_toInt_lt, nI_toInt hn]
theorem i_gt {v : Int32} {n : Nat} (hn : n < 2 ^ 31) : nI n < v ↔ (n : Int) < v.toInt := by rw [Int32.lt_iff_toInt_lt, nI_toInt hn]
theorem i_le {v : Int32} {n : Nat} (hn : n < 2 ^ 31) : v ≤ nI n ↔ v.toInt ≤ n := by rw [Int32.le_iff_toInt_le, nI_toInt hn]
theorem i_ge {v : Int32} {n : Nat} (hn : n < 2 ^ 31) : nI n ≤ v ↔ (n : Int) ≤ v.toInt := by rw [Int32.le_iff_toInt_le, nI_toInt hn]
theorem cl_lo {v : Int32} (h : v.toInt < 1) : cl v = 1 := by
  unfold cl
  rw [if_pos]
  exact (i_lt (n := 1) (by decide)).mpr h
theorem cl_hi {v : Int32} (h : 16 < v.toInt) : cl v = 16 := by
  unfold cl
  rw [if_neg, if_pos]
  · exact (i_gt (n := 16) (by decide)).mpr h
  · intro z
    have := (i_lt (n := 1) (by decide)).mp z
    omega
theorem cl_mid {v : Int32} (h1 : 1 ≤ v.toInt) (h2 : v.toInt ≤ 16) : v = nI (cl v) ∧ (cl v : Int) = v.toInt := by
  obtain ⟨j, hj, e⟩ := nI_of (x := v) (fun z => by have := (i_lt (n := 0) (by decide)).mp z; omega)
  have hc : cl v = j := by
    unfold cl
    rw [if_neg, if_neg, e, nI_clamp hj]
    · intro z
      have := (i_gt (n := 16) (by decide)).mp z
      omega
    · intro z
      have := (i_lt (n := 1) (by decide)).mp z
      omega
  rw [hc]
  exact ⟨e, by rw [e, nI_toInt hj]⟩
theorem cl_bd (v : Int32) : 1 ≤ cl v ∧ cl v ≤ 16 := by
  rcases (by omega : v.toInt < 1 ∨ 1 ≤ v.toInt) with h | h
  · rw [cl_lo h]; decide
  · rcases (by omega : 16 < v.toInt ∨ v.toInt ≤ 16) with h2 | h2
    · rw [cl_hi h2]; decide
    · have := (cl_mid h h2).2
      omega
theorem cl_X (v : Int32) : (if nI 1 < (if v < nI 16 then v else nI 16) then (if v < nI 16 then v else nI 16) else nI 1) = nI (cl v) := by
  rcases (by omega : v.toInt < 1 ∨ 1 ≤ v.toInt) with h | h
  · rw [if_pos (show v < nI 16 from (i_lt (by decide)).mpr (by omega)), if_neg (fun z => by have := (i_gt (n := 1) (by decide)).mp z; omega), cl_lo h]
  · rcases (by omega : 16 < v.toInt ∨ v.toInt ≤ 16) with h2 | h2
    · rw [if_neg (show ¬ v < nI 16 from fun z => by have := (i_lt (n := 16) (by decide)).mp z; omega), if_pos (by decide), cl_hi h2]
    · have e := (cl_mid h h2).1
      have hb := cl_bd v
      have key : ∀ j, j < 17 → 1 ≤ j → (if nI 1 < (if nI j < nI 16 then nI j else nI 16) then (if nI j < nI 16 then nI j else nI 16) else nI 1) = nI j := by decide +kernel
      have h9 := key (cl v) (by omega) hb.1
      rw [← e] at h9
      exact h9.trans e
theorem cl_h : ∀ n, n < 17 → (if nI 0 < nI n - nI 6 then nI n - nI 6 else nI 0) = nI (n - 6) := by decide +kernel
theorem nw_i (n : Nat) (cA : ClassId) : vp_cell cA (n, .inl (fun _ => 0)) = arrV cA n (fun _ => defaultValue .int) := rfl
theorem nw_z (n : Nat) (cA : ClassId) : vp_cell cA (n, .inl (fun _ => 0)) = arrV cA n (fun _ => defaultValue .boolean) := rfl
theorem nw_l (n : Nat) (cA : ClassId) : vp_cell cA (n, .inr (.inl (fun _ => 0))) = arrV cA n (fun _ => defaultValue .long) := rfl
set_option maxHeartbeats 4000000 in
set_option maxRecDepth 100000 in
/-- ClauseSolver(v) -/
theorem c_init (l : Launch) (dC : Nat → ClassId) (dI : Nat → Nat → Nat) (o sz : Nat) (v : Int32) : Met l yX0_init wsX0_init ({ frames := 2, cells := 4, slots := 1600, locals := 60 }) (va_Pc [.ref o, .int v] (wW (dC, dI) vwCl [(o, .inr (0, [.int 0, .int 0, .int 0, .int 0, .int 0, .int 0, .null, .null, .null, .null]))] [] sz)) (va_Qv (fun (_ : (Nat × Nat × Nat × Nat) × (ClassId × ClassId × ClassId × ClassId)) => True) (fun (u : (Nat × Nat × Nat × Nat) × (ClassId × ClassId × ClassId × ClassId)) t => va_P (dC, dI) vwCl (xC o u.1.1 u.1.2.1 u.1.2.2.1 u.1.2.2.2 u.2.1 u.2.2.1 u.2.2.2.1 u.2.2.2.2 (nI (cl v)) (nI (cl v - 6)) (nI 0) (nI 0) (nI 0) (nI 0) (fun _ => 0) (fun _ => 0) (fun _ => 0) (fun _ => 0)) t.heap ∧ va_K (dC, dI) vwCl (xT u.2.1 u.2.2.1 u.2.2.2.1 u.2.2.2.2) t ∧ va_D (va_A [(o, .inr (0, [.int 0, .int 0, .int 0, .int 0, .int 0, .int 0, .null, .null, .null, .null]))] sz) (xC o u.1.1 u.1.2.1 u.1.2.2.1 u.1.2.2.2 u.2.1 u.2.2.1 u.2.2.2.1 u.2.2.2.2 (nI (cl v)) (nI (cl v - 6)) (nI 0) (nI 0) (nI 0) (nI 0) (fun _ => 0) (fun _ => 0) (fun _ => 0) (fun _ => 0))) (va_A [(o, .inr (0, [.int 0, .int 0, .int 0, .int 0, .int 0, .int 0, .null, .null, .null, .null]))] sz)) 4 1600 (va_A [(o, .inr (0, [.int 0, .int 0, .int 0, .int 0, .int 0, .int 0, .null, .null, .null, .null]))] sz) := by
  refine Met.ofW (cc := cX0_init) (maxL := 2) (ret := none) (by decide) rfl ?_
  intro p e s m args below meth c0 s₁ B hml hv0
  obtain ⟨rfl, hsz, hP, hK, hD0⟩ := hv0
  have hx := B.exec
  have hb := B.bytes
  have hr := B.returns
  have hts := atoms_spec (ws := wsX0_init) B.pre
  have hown : s.vm.findClass RX0 = some m.cls := findClass_of_methodNamed B.named
  have hlocks := B.notSynchronized
  have hini : meth.name = "<init>" := (name_of_methodNamed B.named B.method).1
  subst hsz
  have hD := hD0.self (sz := s.heap.size)
  generalize hAe : va_A [(o, .inr (0, [.int 0, .int 0, .int 0, .int 0, .int 0, .int 0, .null, .null, .null, .null]))] s.heap.size = A at hD ⊢
  have hA : ∀ q : Nat, s.heap.size ≤ q → A q := fun q h => by rw [← hAe]; exact Or.inr h
  have hS : va_S A s.heap s.heap [] := va_S.rf
  have hP : va_P (dC, dI) vwCl [(o, .inr (0, [.int 0, .int 0, .int 0, .int 0, .int 0, .int 0, .null, .null, .null, .null]))] s.heap := hP
  have hin0 : ∀ w ∈ u_ws RX0 TX0 10, w ∈ wsX0_init := by decide +kernel
  have hl := lv_entry ([.ref o, .int v]) (n := 2) (Nat.le_of_ble_eq_true rfl)
  rw [lg_entry_eq]
  generalize (lg_sl ([.ref o, .int v]) ++ List.replicate (2 - (lg_sl ([.ref o, .int v])).length) Slot.unset).toArray = ls at hl ⊢
  have hl : lv_has ls 2 [(0, .ref o), (1, .int v)] := hl
  refine lv_aload_n hx hb dX0_init_0 rfl (lv_at hl 0 rfl) ?_
  refine W.objInit hx hb hown (hts (.methodLink RX0 1 objectInit) (by decide +kernel)) (hts (.instanceMethod objectInit) (by decide +kernel)) (hts _ (List.mem_cons_of_mem _ (List.mem_append_left _ (List.mem_of_getElem? (i := 2) rfl)))) rfl (by rw [hml]; exact hl.1) rfl dX0_init_1 (Nat.le_of_ble_eq_true rfl) (Nat.le_of_ble_eq_true rfl) ?_
  refine W.eq (g2 := F0 m 4 ls []) rfl ?_
  refine lv_aload_n hx hb dX0_init_4 rfl (lv_at hl 0 rfl) ?_
  refine lv_iconst (v := nI 1) hx hb dX0_init_5 (by decide) ?_
  refine lv_bipush (v := nI 16) hx hb dX0_init_6 (by decide) ?_
  refine lv_iload_n hx hb dX0_init_8 rfl (lv_at hl 1 rfl) ?_
  refine va_mmin hx hb (hml.trans hl.1.symm) hown (hts (.methodLink RX0 9 Lib.Math.min.name) (by decide +kernel)) (hts (.static Lib.Math.min.name) (by decide +kernel)) (hts (.initialized "java/lang/Math") (by decide +kernel)) (hts (.code Lib.Math.min.name Lib.Math.min.code 2 (some .int)) (by decide +kernel)) (Nat.le_of_ble_eq_true rfl) (Nat.le_of_ble_eq_true rfl) (Nat.zero_le _) (Nat.zero_le _) dX0_init_9 ?_
  refine va_mmax hx hb (hml.trans hl.1.symm) hown (hts (.methodLink RX0 15 Lib.Math.max.name) (by decide +kernel)) (hts (.static Lib.Math.max.name) (by decide +kernel)) (hts (.initialized "java/lang/Math") (by decide +kernel)) (hts (.code Lib.Math.max.name Lib.Math.max.code 2 (some .int)) (by decide +kernel)) (Nat.le_of_ble_eq_true rfl) (Nat.le_of_ble_eq_true rfl) (Nat.zero_le _) (Nat.zero_le _) dX0_init_12 ?_
  refine cs_top (y := nI (cl v)) (cl_X v) ?_
  refine va_putF (D := (dC, dI)) (ci := 0) (v := .int (nI (cl v))) (ty := .int) (C := RX0) (T := TX0) (N := 10) hx hb hts hin0 tyX0 tyX0_ok nmX0 hown hK hP hD hS 0 rfl rfl 0 (by decide) (hts (.fieldLink RX0 18 "ClauseSolver" "variables" "I") (by decide +kernel)) (fun _ h9 => h9) rfl hini rfl (by decide +kernel) rfl rfl (Nat.le_of_ble_eq_true rfl) dX0_init_15 (fun H locs hP hD hS => ?_)
  have hP : va_P (dC, dI) vwCl [(o, .inr (0, [.int (nI (cl v)), .int 0, .int 0, .int 0, .int 0, .int 0, .null, .null, .null, .null]))] H := hP
  have hD : va_D A [(o, .inr (0, [.int (nI (cl v)), .int 0, .int 0, .int 0, .int 0, .int 0, .null, .null, .null, .null]))] := hD
  refine lv_aload_n hx hb dX0_init_18 rfl (lv_at hl 0 rfl) ?_
  refine lv_iconst (v := nI 0) hx hb dX0_init_19 (by decide) ?_
  refine lv_aload_n hx hb dX0_init_20 rfl (lv_at hl 0 rfl) ?_
  refine va_get (D := (dC, dI)) (ci := 0) (v := .int (nI (cl v))) (C := RX0) (T := TX0) (N := 10) hx hb hts hin0 hown hK hP 0 rfl rfl 0 (by decide) (hts (.fieldLink RX0 18 "ClauseSolver" "variables" "I") (by decide +kernel)) (fun _ h9 => h9) rfl dX0_init_21 ?_
  refine lv_bipush (v := nI 6) hx hb dX0_init_24 (by decide) ?_
  refine lv_isub hx hb dX0_init_26 ?_
  refine va_mmax hx hb (hml.trans hl.1.symm) hown (hts (.methodLink RX0 15 Lib.Math.max.name) (by decide +kernel)) (hts (.static Lib.Math.max.name) (by decide +kernel)) (hts (.initialized "java/lang/Math") (by decide +kernel)) (hts (.code Lib.Math.max.name Lib.Math.max.code 2 (some .int)) (by decide +kernel)) (Nat.le_of_ble_eq_true rfl) (Nat.le_of_ble_eq_true rfl) (Nat.zero_le _) (Nat.zero_le _) dX0_init_27 ?_
  refine cs_top (y := nI (cl v - 6)) (cl_h (cl v) (Nat.lt_succ_of_le (cl_bd v).2)) ?_
  refine va_putF (D := (dC, dI)) (ci := 0) (v := .int (nI (cl v - 6))) (ty := .int) (C := RX0) (T := TX0) (N := 10) hx hb hts hin0 tyX0 tyX0_ok nmX0 hown hK hP hD hS 0 rfl rfl 1 (by decide) (hts (.fieldLink RX0 22 "ClauseSolver" "heads" "I") (by decide +kernel)) (fun _ h9 => h9) rfl hini rfl (by decide +kernel) rfl rfl (Nat.le_of_ble_eq_true rfl) dX0_init_30 (fun H locs hP hD hS => ?_)
  have hP : va_P (dC, dI) vwCl [(o, .inr (0, [.int (nI (cl v)), .int (nI (cl v - 6)), .int 0, .int 0, .int 0, .int 0, .null, .null, .null, .null]))] H := hP
  have hD : va_D A [(o, .inr (0, [.int (nI (cl v)), .int (nI (cl v - 6)), .int 0, .int 0, .int 0, .int 0, .null, .null, .null, .null]))] := hD
  refine lv_aload_n hx hb dX0_init_33 rfl (lv_at hl 0 rfl) ?_
  refine lv_sipush (v := nI 400) hx hb dX0_init_34 (by decide) ?_
  have ha1 := nw_i 400
  have hn1 : ¬ nI 400 < 0 := nI_pos (by decide)
  have hN1 : (nI 400).toNatClampNeg = 400 := nI_clamp (by decide)
  have hby : 400 * componentBytes .int ≤ 536870912 := by decide +kernel
  have hcc : 0 + 1 ≤ 4 := by decide
  have hss : 0 + 400 ≤ 1600 := by decide
  have har := hts (.arrayClass .int) (by decide +kernel)
  refine va_newa (atype := .int) (a0 := (400, .inl (fun _ => 0))) (ty := .int) (n := nI 400) (N' := 400) hx hb har rfl hK hP hD hS hA ha1 hn1 hN1 hby hcc hss dX0_init_37 (fun q1 k1 H hK hP hD hS => ?_)
  have hP : va_P (dC, dI) vwCl [(o, .inr (0, [.int (nI (cl v)), .int (nI (cl v - 6)), .int 0, .int 0, .int 0, .int 0, .null, .null, .null, .null])), (q1, .inl (k1, 400, .inl (fun _ => 0)))] H := hP
  have hD : va_D A [(o, .inr (0, [.int (nI (cl v)), .int (nI (cl v - 6)), .int 0, .int 0, .int 0, .int 0, .null, .null, .null, .null])), (q1, .inl (k1, 400, .inl (fun _ => 0)))] := hD
  have hK : va_K (dC, dI) vwCl [(k1, .int)] s := hK
  refine W.widen (k := 1) (n := 400) (show 0 + 1 ≤ 1 by decide) (show 0 + 400 ≤ 400 by decide) ?_
  refine va_putF (D := (dC, dI)) (ci := 0) (v := .ref q1) (ty := (.array .int)) (C := RX0) (T := TX0) (N := 10) hx hb hts hin0 tyX0 tyX0_ok nmX0 hown hK hP hD hS 0 rfl rfl 6 (by decide) (hts (.fieldLink RX0 25 "ClauseSolver" "headTrue" "[I") (by decide +kernel)) (fun _ h9 => h9) rfl hini rfl (by decide +kernel) rfl rfl (Nat.le_of_ble_eq_true rfl) dX0_init_39 (fun H locs hP hD hS => ?_)
  have hP : va_P (dC, dI) vwCl [(o, .inr (0, [.int (nI (cl v)), .int (nI (cl v - 6)), .int 0, .int 0, .int 0, .int 0, .ref q1, .null, .null, .null])), (q1, .inl (k1, 400, .inl (fun _ => 0)))] H := hP
  have hD : va_D A [(o, .inr (0, [.int (nI (cl v)), .int (nI (cl v - 6)), .int 0, .int 0, .int 0, .int 0, .ref q1, .null, .null, .null])), (q1, .inl (k1, 400, .inl (fun _ => 0)))] := hD
  refine lv_aload_n hx hb dX0_init_42 rfl (lv_at hl 0 rfl) ?_
  refine lv_sipush (v := nI 400) hx hb dX0_init_43 (by decide) ?_
  have ha1 := nw_i 400
  have hn1 : ¬ nI 400 < 0 := nI_pos (by decide)
  have hN1 : (nI 400).toNatClampNeg = 400 := nI_clamp (by decide)
  have hby : 400 * componentBytes .int ≤ 536870912 := by decide +kernel
  have hcc : 1 + 1 ≤ 4 := by decide
  have hss : 400 + 400 ≤ 1600 := by decide
  have har := hts (.arrayClass .int) (by decide +kernel)
  refine va_newa (atype := .int) (a0 := (400, .inl (fun _ => 0))) (ty := .int) (n := nI 400) (N' := 400) hx hb har rfl hK hP hD hS hA ha1 hn1 hN1 hby hcc hss dX0_init_46 (fun q2 k2 H hK hP hD hS => ?_)
  have hP : va_P (dC, dI) vwCl [(o, .inr (0, [.int (nI (cl v)), .int (nI (cl v - 6)), .int 0, .int 0, .int 0, .int 0, .ref q1, .null, .null, .null])), (q1, .inl (k1, 400, .inl (fun _ => 0))), (q2, .inl (k2, 400, .inl (fun _ => 0)))] H := hP
  have hD : va_D A [(o, .inr (0, [.int (nI (cl v)), .int (nI (cl v - 6)), .int 0, .int 0, .int 0, .int 0, .ref q1, .null, .null, .null])), (q1, .inl (k1, 400, .inl (fun _ => 0))), (q2, .inl (k2, 400, .inl (fun _ => 0)))] := hD
  have hK : va_K (dC, dI) vwCl [(k1, .int), (k2, .int)] s := hK
  refine W.widen (k := 2) (n := 800) (show 1 + 1 ≤ 2 by decide) (show 400 + 400 ≤ 800 by decide) ?_
  refine va_putF (D := (dC, dI)) (ci := 0) (v := .ref q2) (ty := (.array .int)) (C := RX0) (T := TX0) (N := 10) hx hb hts hin0 tyX0 tyX0_ok nmX0 hown hK hP hD hS 0 rfl rfl 7 (by decide) (hts (.fieldLink RX0 29 "ClauseSolver" "headFalse" "[I") (by decide +kernel)) (fun _ h9 => h9) rfl hini rfl (by decide +kernel) rfl rfl (Nat.le_of_ble_eq_true rfl) dX0_init_48 (fun H locs hP hD hS => ?_)
  have hP : va_P (dC, dI) vwCl [(o, .inr (0, [.int (nI (cl v)), .int (nI (cl v - 6)), .int 0, .int 0, .int 0, .int 0, .ref q1, .ref q2, .null, .null])), (q1, .inl (k1, 400, .inl (fun _ => 0))), (q2, .inl (k2, 400, .inl (fun _ => 0)))] H := hP
  have hD : va_D A [(o, .inr (0, [.int (nI (cl v)), .int (nI (cl v - 6)), .int 0, .int 0, .int 0, .int 0, .ref q1, .ref q2, .null, .null])), (q1, .inl (k1, 400, .inl (fun _ => 0))), (q2, .inl (k2, 400, .inl (fun _ => 0)))] := hD
  refine lv_aload_n hx hb dX0_init_51 rfl (lv_at hl 0 rfl) ?_
  refine lv_sipush (v := nI 400) hx hb dX0_init_52 (by decide) ?_
  have ha1 := nw_i 400
  have hn1 : ¬ nI 400 < 0 := nI_pos (by decide)
  have hN1 : (nI 400).toNatClampNeg = 400 := nI_clamp (by decide)
  have hby : 400 * componentBytes .int ≤ 536870912 := by decide +kernel
  have hcc : 2 + 1 ≤ 4 := by decide
  have hss : 800 + 400 ≤ 1600 := by decide
  have har := hts (.arrayClass .int) (by decide +kernel)
  refine va_newa (atype := .int) (a0 := (400, .inl (fun _ => 0))) (ty := .int) (n := nI 400) (N' := 400) hx hb har rfl hK hP hD hS hA ha1 hn1 hN1 hby hcc hss dX0_init_55 (fun q3 k3 H hK hP hD hS => ?_)
  have hP : va_P (dC, dI) vwCl [(o, .inr (0, [.int (nI (cl v)), .int (nI (cl v - 6)), .int 0, .int 0, .int 0, .int 0, .ref q1, .ref q2, .null, .null])), (q1, .inl (k1, 400, .inl (fun _ => 0))), (q2, .inl (k2, 400, .inl (fun _ => 0))), (q3, .inl (k3, 400, .inl (fun _ => 0)))] H := hP
  have hD : va_D A [(o, .inr (0, [.int (nI (cl v)), .int (nI (cl v - 6)), .int 0, .int 0, .int 0, .int 0, .ref q1, .ref q2, .null, .null])), (q1, .inl (k1, 400, .inl (fun _ => 0))), (q2, .inl (k2, 400, .inl (fun _ => 0))), (q3, .inl (k3, 400, .inl (fun _ => 0)))] := hD
  have hK : va_K (dC, dI) vwCl [(k1, .int), (k2, .int), (k3, .int)] s := hK
  refine W.widen (k := 3) (n := 1200) (show 2 + 1 ≤ 3 by decide) (show 800 + 400 ≤ 1200 by decide) ?_
  refine va_putF (D := (dC, dI)) (ci := 0) (v := .ref q3) (ty := (.array .int)) (C := RX0) (T := TX0) (N := 10) hx hb hts hin0 tyX0 tyX0_ok nmX0 hown hK hP hD hS 0 rfl rfl 8 (by decide) (hts (.fieldLink RX0 32 "ClauseSolver" "depths" "[I") (by decide +kernel)) (fun _ h9 => h9) rfl hini rfl (by decide +kernel) rfl rfl (Nat.le_of_ble_eq_true rfl) dX0_init_57 (fun H locs hP hD hS => ?_)
  have hP : va_P (dC, dI) vwCl [(o, .inr (0, [.int (nI (cl v)), .int (nI (cl v - 6)), .int 0, .int 0, .int 0, .int 0, .ref q1, .ref q2, .ref q3, .null])), (q1, .inl (k1, 400, .inl (fun _ => 0))), (q2, .inl (k2, 400, .inl (fun _ => 0))), (q3, .inl (k3, 400, .inl (fun _ => 0)))] H := hP
  have hD : va_D A [(o, .inr (0, [.int (nI (cl v)), .int (nI (cl v - 6)), .int 0, .int 0, .int 0, .int 0, .ref q1, .ref q2, .ref q3, .null])), (q1, .inl (k1, 400, .inl (fun _ => 0))), (q2, .inl (k2, 400, .inl (fun _ => 0))), (q3, .inl (k3, 400, .inl (fun _ => 0)))] := hD
  refine lv_aload_n hx hb dX0_init_60 rfl (lv_at hl 0 rfl) ?_
  refine lv_sipush (v := nI 400) hx hb dX0_init_61 (by decide) ?_
  have ha1 := nw_l 400
  have hn1 : ¬ nI 400 < 0 := nI_pos (by decide)
  have hN1 : (nI 400).toNatClampNeg = 400 := nI_clamp (by decide)
  have hby : 400 * componentBytes .long ≤ 536870912 := by decide +kernel
  have hcc : 3 + 1 ≤ 4 := by decide
  have hss : 1200 + 400 ≤ 1600 := by decide
  have har := hts (.arrayClass .long) (by decide +kernel)
  refine va_newa (atype := .long) (a0 := (400, .inr (.inl (fun _ => 0)))) (ty := .long) (n := nI 400) (N' := 400) hx hb har rfl hK hP hD hS hA ha1 hn1 hN1 hby hcc hss dX0_init_64 (fun q4 k4 H hK hP hD hS => ?_)
  have hP : va_P (dC, dI) vwCl [(o, .inr (0, [.int (nI (cl v)), .int (nI (cl v - 6)), .int 0, .int 0, .int 0, .int 0, .ref q1, .ref q2, .ref q3, .null])), (q1, .inl (k1, 400, .inl (fun _ => 0))), (q2, .inl (k2, 400, .inl (fun _ => 0))), (q3, .inl (k3, 400, .inl (fun _ => 0))), (q4, .inl (k4, 400, .inr (.inl (fun _ => 0))))] H := hP
  have hD : va_D A [(o, .inr (0, [.int (nI (cl v)), .int (nI (cl v - 6)), .int 0, .int 0, .int 0, .int 0, .ref q1, .ref q2, .ref q3, .null])), (q1, .inl (k1, 400, .inl (fun _ => 0))), (q2, .inl (k2, 400, .inl (fun _ => 0))), (q3, .inl (k3, 400, .inl (fun _ => 0))), (q4, .inl (k4, 400, .inr (.inl (fun _ => 0))))] := hD
  have hK : va_K (dC, dI) vwCl [(k1, .int), (k2, .int), (k3, .int), (k4, .long)] s := hK
  refine W.widen (k := 4) (n := 1600) (show 3 + 1 ≤ 4 by decide) (show 1200 + 400 ≤ 1600 by decide) ?_
  refine va_putF (D := (dC, dI)) (ci := 0) (v := .ref q4) (ty := (.array .long)) (C := RX0) (T := TX0) (N := 10) hx hb hts hin0 tyX0 tyX0_ok nmX0 hown hK hP hD hS 0 rfl rfl 9 (by decide) (hts (.fieldLink RX0 35 "ClauseSolver" "tails" "[J") (by decide +kernel)) (fun _ h9 => h9) rfl hini rfl (by decide +kernel) rfl rfl (Nat.le_of_ble_eq_true rfl) dX0_init_66 (fun H locs hP hD hS => ?_)
  have hP : va_P (dC, dI) vwCl [(o, .inr (0, [.int (nI (cl v)), .int (nI (cl v - 6)), .int 0, .int 0, .int 0, .int 0, .ref q1, .ref q2, .ref q3, .ref q4])), (q1, .inl (k1, 400, .inl (fun _ => 0))), (q2, .inl (k2, 400, .inl (fun _ => 0))), (q3, .inl (k3, 400, .inl (fun _ => 0))), (q4, .inl (k4, 400, .inr (.inl (fun _ => 0))))] H := hP
  have hD : va_D A [(o, .inr (0, [.int (nI (cl v)), .int (nI (cl v - 6)), .int 0, .int 0, .int 0, .int 0, .ref q1, .ref q2, .ref q3, .ref q4])), (q1, .inl (k1, 400, .inl (fun _ => 0))), (q2, .inl (k2, 400, .inl (fun _ => 0))), (q3, .inl (k3, 400, .inl (fun _ => 0))), (q4, .inl (k4, 400, .inr (.inl (fun _ => 0))))] := hD
  exact W.vret hx hb hr (fun t ht hW => ⟨⟨((q1, q2, q3, q4), (k1, k2, k3, k4)), rfl, trivial, by rw [ht]; exact hP, va_K.moved hW.alike hK, hD⟩, hS.F ht⟩) hS.2.2 dX0_init_69
set_option maxHeartbeats 4000000 in
set_option maxRecDepth 100000 in
/-- ClauseSolverModel(v) -/
theorem m_init (l : Launch) (dC : Nat → ClassId) (dI : Nat → Nat → Nat) (o sz : Nat) (v : Int32) : Met l yX1_init wsX1_init ({ frames := 2, cells := 3, slots := 816, locals := 60 }) (va_Pc [.ref o, .int v] (wW (dC, dI) vwCl [(o, .inr (1, [.int 0, .null, .null, .null, .int 0, .int 0, .int 0, .int 0, .int 0]))] [] sz)) (va_Qv (fun (_ : (Nat × Nat × Nat) × (ClassId × ClassId × ClassId)) => True) (fun (u : (Nat × Nat × Nat) × (ClassId × ClassId × ClassId)) t => va_P (dC, dI) vwCl (mC o u.1.1 u.1.2.1 u.1.2.2 u.2.1 u.2.2.1 u.2.2.2 (nI (cl v)) (nI 0) (nI 0) (nI 0) 0 (nI 0) (fun _ => 0) (fun _ => 0) (fun _ => 0)) t.heap ∧ va_K (dC, dI) vwCl (mT u.2.1 u.2.2.1 u.2.2.2) t ∧ va_D (va_A [(o, .inr (1, [.int 0, .null, .null, .null, .int 0, .int 0, .int 0, .int 0, .int 0]))] sz) (mC o u.1.1 u.1.2.1 u.1.2.2 u.2.1 u.2.2.1 u.2.2.2 (nI (cl v)) (nI 0) (nI 0) (nI 0) 0 (nI 0) (fun _ => 0) (fun _ => 0) (fun _ => 0))) (va_A [(o, .inr (1, [.int 0, .null, .null, .null, .int 0, .int 0, .int 0, .int 0, .int 0]))] sz)) 3 816 (va_A [(o, .inr (1, [.int 0, .null, .null, .null, .int 0, .int 0, .int 0, .int 0, .int 0]))] sz) := by
  refine Met.ofW (cc := cX1_init) (maxL := 2) (ret := none) (by decide) rfl ?_
  intro p e s m args below meth c0 s₁ B hml hv0
  obtain ⟨rfl, hsz, hP, hK, hD0⟩ := hv0
  have hx := B.exec
  have hb := B.bytes
  have hr := B.returns
  have hts := atoms_spec (ws := wsX1_init) B.pre
  have hown : s.vm.findClass RX1 = some m.cls := findClass_of_methodNamed B.named
  have hlocks := B.notSynchronized
  have hini : meth.name = "<init>" := (name_of_methodNamed B.named B.method).1
  subst hsz
  have hD := hD0.self (sz := s.heap.size)
  generalize hAe : va_A [(o, .inr (1, [.int 0, .null, .null, .null, .int 0, .int 0, .int 0, .int 0, .int 0]))] s.heap.size = A at hD ⊢
  have hA : ∀ q : Nat, s.heap.size ≤ q → A q := fun q h => by rw [← hAe]; exact Or.inr h
  have hS : va_S A s.heap s.heap [] := va_S.rf
  have hP : va_P (dC, dI) vwCl [(o, .inr (1, [.int 0, .null, .null, .null, .int 0, .int 0, .int 0, .int 0, .int 0]))] s.heap := hP
  have hin1 : ∀ w ∈ u_ws RX1 TX1 9, w ∈ wsX1_init := by decide +kernel
  have hl := lv_entry ([.ref o, .int v]) (n := 2) (Nat.le_of_ble_eq_true rfl)
  rw [lg_entry_eq]
  generalize (lg_sl ([.ref o, .int v]) ++ List.replicate (2 - (lg_sl ([.ref o, .int v])).length) Slot.unset).toArray = ls at hl ⊢
  have hl : lv_has ls 2 [(0, .ref o), (1, .int v)] := hl
  refine lv_aload_n hx hb dX1_init_0 rfl (lv_at hl 0 rfl) ?_
  refine W.objInit hx hb hown (hts (.methodLink RX1 1 objectInit) (by decide +kernel)) (hts (.instanceMethod objectInit) (by decide +kernel)) (hts _ (List.mem_cons_of_mem _ (List.mem_append_left _ (List.mem_of_getElem? (i := 2) rfl)))) rfl (by rw [hml]; exact hl.1) rfl dX1_init_1 (Nat.le_of_ble_eq_true rfl) (Nat.le_of_ble_eq_true rfl) ?_
  refine W.eq (g2 := F0 m 4 ls []) rfl ?_
  refine lv_aload_n hx hb dX1_init_4 rfl (lv_at hl 0 rfl) ?_
  refine lv_bipush (v := nI 16) hx hb dX1_init_5 (by decide) ?_
  have ha1 := nw_z 16
  have hn1 : ¬ nI 16 < 0 := nI_pos (by decide)
  have hN1 : (nI 16).toNatClampNeg = 16 := nI_clamp (by decide)
  have hby : 16 * componentBytes .boolean ≤ 536870912 := by decide +kernel
  have hcc : 0 + 1 ≤ 3 := by decide
  have hss : 0 + 16 ≤ 816 := by decide
  have har := hts (.arrayClass .boolean) (by decide +kernel)
  refine va_newa (atype := .boolean) (a0 := (16, .inl (fun _ => 0))) (ty := .boolean) (n := nI 16) (N' := 16) hx hb har rfl hK hP hD hS hA ha1 hn1 hN1 hby hcc hss dX1_init_7 (fun q1 k1 H hK hP hD hS => ?_)
  have hP : va_P (dC, dI) vwCl [(o, .inr (1, [.int 0, .null, .null, .null, .int 0, .int 0, .int 0, .int 0, .int 0])), (q1, .inl (k1, 16, .inl (fun _ => 0)))] H := hP
  have hD : va_D A [(o, .inr (1, [.int 0, .null, .null, .null, .int 0, .int 0, .int 0, .int 0, .int 0])), (q1, .inl (k1, 16, .inl (fun _ => 0)))] := hD
  have hK : va_K (dC, dI) vwCl [(k1, .boolean)] s := hK
  refine W.widen (k := 1) (n := 16) (show 0 + 1 ≤ 1 by decide) (show 0 + 16 ≤ 16 by decide) ?_
  refine va_putF (D := (dC, dI)) (ci := 1) (v := .ref q1) (ty := (.array .boolean)) (C := RX1) (T := TX1) (N := 9) hx hb hts hin1 tyX1 tyX1_ok nmX1 hown hK hP hD hS 0 rfl rfl 1 (by decide) (hts (.fieldLink RX1 7 "ClauseSolverModel" "wish" "[Z") (by decide +kernel)) (fun _ h9 => h9) rfl hini rfl (by decide +kernel) rfl rfl (Nat.le_of_ble_eq_true rfl) dX1_init_9 (fun H locs hP hD hS => ?_)
  have hP : va_P (dC, dI) vwCl [(o, .inr (1, [.int 0, .ref q1, .null, .null, .int 0, .int 0, .int 0, .int 0, .int 0])), (q1, .inl (k1, 16, .inl (fun _ => 0)))] H := hP
  have hD : va_D A [(o, .inr (1, [.int 0, .ref q1, .null, .null, .int 0, .int 0, .int 0, .int 0, .int 0])), (q1, .inl (k1, 16, .inl (fun _ => 0)))] := hD
  refine lv_aload_n hx hb dX1_init_12 rfl (lv_at hl 0 rfl) ?_
  refine lv_sipush (v := nI 400) hx hb dX1_init_13 (by decide) ?_
  have ha1 := nw_i 400
  have hn1 : ¬ nI 400 < 0 := nI_pos (by decide)
  have hN1 : (nI 400).toNatClampNeg = 400 := nI_clamp (by decide)
  have hby : 400 * componentBytes .int ≤ 536870912 := by decide +kernel
  have hcc : 1 + 1 ≤ 3 := by decide
  have hss : 16 + 400 ≤ 816 := by decide
  have har := hts (.arrayClass .int) (by decide +kernel)
  refine va_newa (atype := .int) (a0 := (400, .inl (fun _ => 0))) (ty := .int) (n := nI 400) (N' := 400) hx hb har rfl hK hP hD hS hA ha1 hn1 hN1 hby hcc hss dX1_init_16 (fun q2 k2 H hK hP hD hS => ?_)
  have hP : va_P (dC, dI) vwCl [(o, .inr (1, [.int 0, .ref q1, .null, .null, .int 0, .int 0, .int 0, .int 0, .int 0])), (q1, .inl (k1, 16, .inl (fun _ => 0))), (q2, .inl (k2, 400, .inl (fun _ => 0)))] H := hP
  have hD : va_D A [(o, .inr (1, [.int 0, .ref q1, .null, .null, .int 0, .int 0, .int 0, .int 0, .int 0])), (q1, .inl (k1, 16, .inl (fun _ => 0))), (q2, .inl (k2, 400, .inl (fun _ => 0)))] := hD
  have hK : va_K (dC, dI) vwCl [(k1, .boolean), (k2, .int)] s := hK
  refine W.widen (k := 2) (n := 416) (show 1 + 1 ≤ 2 by decide) (show 16 + 400 ≤ 416 by decide) ?_
  refine va_putF (D := (dC, dI)) (ci := 1) (v := .ref q2) (ty := (.array .int)) (C := RX1) (T := TX1) (N := 9) hx hb hts hin1 tyX1 tyX1_ok nmX1 hown hK hP hD hS 0 rfl rfl 2 (by decide) (hts (.fieldLink RX1 13 "ClauseSolverModel" "yes" "[I") (by decide +kernel)) (fun _ h9 => h9) rfl hini rfl (by decide +kernel) rfl rfl (Nat.le_of_ble_eq_true rfl) dX1_init_18 (fun H locs hP hD hS => ?_)
  have hP : va_P (dC, dI) vwCl [(o, .inr (1, [.int 0, .ref q1, .ref q2, .null, .int 0, .int 0, .int 0, .int 0, .int 0])), (q1, .inl (k1, 16, .inl (fun _ => 0))), (q2, .inl (k2, 400, .inl (fun _ => 0)))] H := hP
  have hD : va_D A [(o, .inr (1, [.int 0, .ref q1, .ref q2, .null, .int 0, .int 0, .int 0, .int 0, .int 0])), (q1, .inl (k1, 16, .inl (fun _ => 0))), (q2, .inl (k2, 400, .inl (fun _ => 0)))] := hD
  refine lv_aload_n hx hb dX1_init_21 rfl (lv_at hl 0 rfl) ?_
  refine lv_sipush (v := nI 400) hx hb dX1_init_22 (by decide) ?_
  have ha1 := nw_i 400
  have hn1 : ¬ nI 400 < 0 := nI_pos (by decide)
  have hN1 : (nI 400).toNatClampNeg = 400 := nI_clamp (by decide)
  have hby : 400 * componentBytes .int ≤ 536870912 := by decide +kernel
  have hcc : 2 + 1 ≤ 3 := by decide
  have hss : 416 + 400 ≤ 816 := by decide
  have har := hts (.arrayClass .int) (by decide +kernel)
  refine va_newa (atype := .int) (a0 := (400, .inl (fun _ => 0))) (ty := .int) (n := nI 400) (N' := 400) hx hb har rfl hK hP hD hS hA ha1 hn1 hN1 hby hcc hss dX1_init_25 (fun q3 k3 H hK hP hD hS => ?_)
  have hP : va_P (dC, dI) vwCl [(o, .inr (1, [.int 0, .ref q1, .ref q2, .null, .int 0, .int 0, .int 0, .int 0, .int 0])), (q1, .inl (k1, 16, .inl (fun _ => 0))), (q2, .inl (k2, 400, .inl (fun _ => 0))), (q3, .inl (k3, 400, .inl (fun _ => 0)))] H := hP
  have hD : va_D A [(o, .inr (1, [.int 0, .ref q1, .ref q2, .null, .int 0, .int 0, .int 0, .int 0, .int 0])), (q1, .inl (k1, 16, .inl (fun _ => 0))), (q2, .inl (k2, 400, .inl (fun _ => 0))), (q3, .inl (k3, 400, .inl (fun _ => 0)))] := hD
  have hK : va_K (dC, dI) vwCl [(k1, .boolean), (k2, .int), (k3, .int)] s := hK
  refine W.widen (k := 3) (n := 816) (show 2 + 1 ≤ 3 by decide) (show 416 + 400 ≤ 816 by decide) ?_
  refine va_putF (D := (dC, dI)) (ci := 1) (v := .ref q3) (ty := (.array .int)) (C := RX1) (T := TX1) (N := 9) hx hb hts hin1 tyX1 tyX1_ok nmX1 hown hK hP hD hS 0 rfl rfl 3 (by decide) (hts (.fieldLink RX1 17 "ClauseSolverModel" "no" "[I") (by decide +kernel)) (fun _ h9 => h9) rfl hini rfl (by decide +kernel) rfl rfl (Nat.le_of_ble_eq_true rfl) dX1_init_27 (fun H locs hP hD hS => ?_)
  have hP : va_P (dC, dI) vwCl [(o, .inr (1, [.int 0, .ref q1, .ref q2, .ref q3, .int 0, .int 0, .int 0, .int 0, .int 0])), (q1, .inl (k1, 16, .inl (fun _ => 0))), (q2, .inl (k2, 400, .inl (fun _ => 0))), (q3, .inl (k3, 400, .inl (fun _ => 0)))] H := hP
  have hD : va_D A [(o, .inr (1, [.int 0, .ref q1, .ref q2, .ref q3, .int 0, .int 0, .int 0, .int 0, .int 0])), (q1, .inl (k1, 16, .inl (fun _ => 0))), (q2, .inl (k2, 400, .inl (fun _ => 0))), (q3, .inl (k3, 400, .inl (fun _ => 0)))] := hD
  refine lv_aload_n hx hb dX1_init_30 rfl (lv_at hl 0 rfl) ?_
  refine lv_iload_n hx hb dX1_init_31 rfl (lv_at hl 1 rfl) ?_
  refine lv_iconst (v := nI 1) hx hb dX1_init_32 (by decide) ?_
  refine lv_icmp_ge hx hb dX1_init_33 (tgt := 40) (by decide) (fun hq => ?_) (fun hq => ?_)
  · have h1 := (i_ge (n := 1) (by decide)).mp hq
    refine lv_iload_n hx hb dX1_init_40 rfl (lv_at hl 1 rfl) ?_
    refine lv_bipush (v := nI 16) hx hb dX1_init_41 (by decide) ?_
    refine lv_icmp_le hx hb dX1_init_43 (tgt := 51) (by decide) (fun hq => ?_) (fun hq => ?_)
    · refine lv_iload_n hx hb dX1_init_51 rfl (lv_at hl 1 rfl) ?_
      refine cs_top (y := nI (cl v)) ((cl_mid (by omega) ((i_le (n := 16) (by decide)).mp hq)).1) ?_
      refine va_putF (D := (dC, dI)) (ci := 1) (v := .int (nI (cl v))) (ty := .int) (C := RX1) (T := TX1) (N := 9) hx hb hts hin1 tyX1 tyX1_ok nmX1 hown hK hP hD hS 0 rfl rfl 0 (by decide) (hts (.fieldLink RX1 20 "ClauseSolverModel" "variables" "I") (by decide +kernel)) (fun _ h9 => h9) rfl hini rfl (by decide +kernel) rfl rfl (Nat.le_of_ble_eq_true rfl) dX1_init_52 (fun H locs hP hD hS => ?_)
      have hP : va_P (dC, dI) vwCl [(o, .inr (1, [.int (nI (cl v)), .ref q1, .ref q2, .ref q3, .int 0, .int 0, .int 0, .int 0, .int 0])), (q1, .inl (k1, 16, .inl (fun _ => 0))), (q2, .inl (k2, 400, .inl (fun _ => 0))), (q3, .inl (k3, 400, .inl (fun _ => 0)))] H := hP
      have hD : va_D A [(o, .inr (1, [.int (nI (cl v)), .ref q1, .ref q2, .ref q3, .int 0, .int 0, .int 0, .int 0, .int 0])), (q1, .inl (k1, 16, .inl (fun _ => 0))), (q2, .inl (k2, 400, .inl (fun _ => 0))), (q3, .inl (k3, 400, .inl (fun _ => 0)))] := hD
      exact W.vret hx hb hr (fun t ht hW => ⟨⟨((q1, q2, q3), (k1, k2, k3)), rfl, trivial, by rw [ht]; exact hP, va_K.moved hW.alike hK, hD⟩, hS.F ht⟩) hS.2.2 dX1_init_55
    · refine lv_bipush (v := nI 16) hx hb dX1_init_46 (by decide) ?_
      refine lv_goto hx hb dX1_init_48 (tgt := 52) (by decide) ?_
      refine cs_top (y := nI (cl v)) (congrArg nI (cl_hi (Int.not_le.mp (fun z => hq ((i_le (n := 16) (by decide)).mpr z)))).symm) ?_
      refine va_putF (D := (dC, dI)) (ci := 1) (v := .int (nI (cl v))) (ty := .int) (C := RX1) (T := TX1) (N := 9) hx hb hts hin1 tyX1 tyX1_ok nmX1 hown hK hP hD hS 0 rfl rfl 0 (by decide) (hts (.fieldLink RX1 20 "ClauseSolverModel" "variables" "I") (by decide +kernel)) (fun _ h9 => h9) rfl hini rfl (by decide +kernel) rfl rfl (Nat.le_of_ble_eq_true rfl) dX1_init_52 (fun H locs hP hD hS => ?_)
      have hP : va_P (dC, dI) vwCl [(o, .inr (1, [.int (nI (cl v)), .ref q1, .ref q2, .ref q3, .int 0, .int 0, .int 0, .int 0, .int 0])), (q1, .inl (k1, 16, .inl (fun _ => 0))), (q2, .inl (k2, 400, .inl (fun _ => 0))), (q3, .inl (k3, 400, .inl (fun _ => 0)))] H := hP
      have hD : va_D A [(o, .inr (1, [.int (nI (cl v)), .ref q1, .ref q2, .ref q3, .int 0, .int 0, .int 0, .int 0, .int 0])), (q1, .inl (k1, 16, .inl (fun _ => 0))), (q2, .inl (k2, 400, .inl (fun _ => 0))), (q3, .inl (k3, 400, .inl (fun _ => 0)))] := hD
      exact W.vret hx hb hr (fun t ht hW => ⟨⟨((q1, q2, q3), (k1, k2, k3)), rfl, trivial, by rw [ht]; exact hP, va_K.moved hW.alike hK, hD⟩, hS.F ht⟩) hS.2.2 dX1_init_55
  · refine lv_iconst (v := nI 1) hx hb dX1_init_36 (by decide) ?_
    refine lv_goto hx hb dX1_init_37 (tgt := 52) (by decide) ?_
    refine cs_top (y := nI (cl v)) (congrArg nI (cl_lo (Int.not_le.mp (fun z => hq ((i_ge (n := 1) (by decide)).mpr z)))).symm) ?_
    refine va_putF (D := (dC, dI)) (ci := 1) (v := .int (nI (cl v))) (ty := .int) (C := RX1) (T := TX1) (N := 9) hx hb hts hin1 tyX1 tyX1_ok nmX1 hown hK hP hD hS 0 rfl rfl 0 (by decide) (hts (.fieldLink RX1 20 "ClauseSolverModel" "variables" "I") (by decide +kernel)) (fun _ h9 => h9) rfl hini rfl (by decide +kernel) rfl rfl (Nat.le_of_ble_eq_true rfl) dX1_init_52 (fun H locs hP hD hS => ?_)
    have hP : va_P (dC, dI) vwCl [(o, .inr (1, [.int (nI (cl v)), .ref q1, .ref q2, .ref q3, .int 0, .int 0, .int 0, .int 0, .int 0])), (q1, .inl (k1, 16, .inl (fun _ => 0))), (q2, .inl (k2, 400, .inl (fun _ => 0))), (q3, .inl (k3, 400, .inl (fun _ => 0)))] H := hP
    have hD : va_D A [(o, .inr (1, [.int (nI (cl v)), .ref q1, .ref q2, .ref q3, .int 0, .int 0, .int 0, .int 0, .int 0])), (q1, .inl (k1, 16, .inl (fun _ => 0))), (q2, .inl (k2, 400, .inl (fun _ => 0))), (q3, .inl (k3, 400, .inl (fun _ => 0)))] := hD
    exact W.vret hx hb hr (fun t ht hW => ⟨⟨((q1, q2, q3), (k1, k2, k3)), rfl, trivial, by rw [ht]; exact hP, va_K.moved hW.alike hK, hD⟩, hS.F ht⟩) hS.2.2 dX1_init_55
set_option maxHeartbeats 4000000 in
set_option maxRecDepth 100000 in
theorem l_cell (l : Launch) (b L : Nat) (xs : Nat → Int32) (hL : L ≤ 1537) : Met l yL_cell wsL_cell ({ frames := 0, cells := 0, slots := 0, locals := 0 }) (va_Pc [.ref b, .int (nI 0)] (fun U => va_X b L xs U U.heap)) (vp_Si (fun r => r = if 0 < L then xs 0 else nI 0)) 0 0 (fun _ => False) := by
  refine Met.ofW (cc := cL_cell) (maxL := 2) (ret := some .int) (by decide) rfl ?_
  intro p e s m args below meth c0 s₁ B hml hv0
  obtain ⟨rfl, hX⟩ := hv0
  have hx := B.exec
  have hb := B.bytes
  have hr := B.returns
  have hlocks := B.notSynchronized
  have hbl : b < s.heap.size := by obtain ⟨scr, h1, -⟩ := hX; exact (Array.getElem?_eq_some_iff.mp h1).1
  have hl := lv_entry ([.ref b, .int (nI 0)]) (n := 2) (Nat.le_of_ble_eq_true rfl)
  rw [lg_entry_eq]
  generalize (lg_sl ([.ref b, .int (nI 0)]) ++ List.replicate (2 - (lg_sl ([.ref b, .int (nI 0)])).length) Slot.unset).toArray = ls at hl ⊢
  have hl : lv_has ls 2 [(0, .ref b), (1, .int (nI 0))] := hl
  refine lv_iload_n hx hb dL_cell_0 rfl (lv_at hl 1 rfl) ?_
  refine lv_aload_n hx hb dL_cell_1 rfl (lv_at hl 0 rfl) ?_
  refine va_slen (A := fun _ => False) hx hb hX hbl (fun z => z) va_S.rf dL_cell_2 ?_
  refine cs_top (y := nI L) (rfl) ?_
  rcases Nat.eq_zero_or_pos L with h0 | h0
  · refine lv_icmp_ge hx hb dL_cell_3 (tgt := 12) (by decide) (fun _ => ?_) (fun hq => absurd (by rw [h0]; decide) hq)
    refine lv_iconst (v := nI 0) hx hb dL_cell_12 (by decide) ?_
    exact W.iret (v := nI 0) hx hb hr (fun t ht hW => ⟨nI 0, rfl, by rw [if_neg (by omega)], ht⟩) (fun q h => by cases h) dL_cell_13
  · refine lv_icmp_ge hx hb dL_cell_3 (tgt := 12) (by decide) (fun hq => absurd hq (nI_ge h0 (by omega))) (fun _ => ?_)
    refine lv_aload_n hx hb dL_cell_6 rfl (lv_at hl 0 rfl) ?_
    refine lv_iload_n hx hb dL_cell_7 rfl (lv_at hl 1 rfl) ?_
    refine va_sld (A := fun _ => False) (i := nI 0) hx hb hX hbl (fun z => z) va_S.rf (vp_in_nI h0 (by omega)) dL_cell_8 ?_
    refine cs_top (y := xs 0) (congrArg xs (nI_clamp (by decide))) ?_
    refine lv_goto hx hb dL_cell_9 (tgt := 13) (by decide) ?_
    exact W.iret (v := xs 0) hx hb hr (fun t ht hW => ⟨xs 0, rfl, by rw [if_pos h0], ht⟩) (fun q h => by cases h) dL_cell_13
