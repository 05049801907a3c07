set_option maxHeartbeats 4000000 in
set_option maxRecDepth 100000 in
/-- has -/
theorem c_has (l : Launch) {b v : Nat} (h1 : b < 2 ^ 31) (h2 : v < 32) : Met l yX0_has wsX0_has ({ frames := 0, cells := 0, slots := 0, locals := 0 }) (va_Pc [.int (nI b), .int (nI v)] (fun _ => True)) (vp_Si (fun r => r = bI (b.testBit v))) 0 0 (fun _ => False) := by
  refine Met.ofW (cc := cX0_has) (maxL := 2) (ret := some .boolean) (by decide) rfl ?_
  intro p e s m args below meth c0 s₁ B hml hv0
  obtain ⟨rfl, -⟩ := hv0
  have hx := B.exec
  have hb := B.bytes
  have hr := B.returns
  have hts := atoms_spec (ws := wsX0_has) B.pre
  have hown : s.vm.findClass RX0 = some m.cls := findClass_of_methodNamed B.named
  have hlocks := B.notSynchronized
  have hl := lv_entry ([.int (nI b), .int (nI v)]) (n := 2) (Nat.le_of_ble_eq_true rfl)
  rw [lg_entry_eq]
  generalize (lg_sl ([.int (nI b), .int (nI v)]) ++ List.replicate (2 - (lg_sl ([.int (nI b), .int (nI v)])).length) Slot.unset).toArray = ls at hl ⊢
  have hl : lv_has ls 2 [(0, .int (nI b)), (1, .int (nI v))] := hl
  refine lv_iload_n hx hb dX0_has_0 rfl (lv_at hl 0 rfl) ?_
  refine lv_iload_n hx hb dX0_has_1 rfl (lv_at hl 1 rfl) ?_
  refine lv_ishr hx hb dX0_has_2 ?_
  refine cs_top (y := nI (b / 2 ^ v)) (cs_shr h2 h1) ?_
  refine lv_iconst (v := nI 1) hx hb dX0_has_3 (by decide) ?_
  refine lv_iand hx hb dX0_has_4 ?_
  refine cs_top (y := nI ((b / 2 ^ v) &&& 1)) (cs_and (b / 2 ^ v) 1) ?_
  refine cs_top (y := bI (b.testBit v)) (cs_hasv b v) ?_
  refine lv_if_eq hx hb dX0_has_5 (tgt := 12) (by decide) (fun hq => ?_) (fun hq => ?_)
  · refine lv_iconst (v := nI 0) hx hb dX0_has_12 (by decide) ?_
    exact W.zret (ty := .boolean) (v := nI 0) hx hb hr (by first | rfl | decide) (fun t ht hW => ⟨nI 0, rfl, nI_0.trans hq.symm, ht⟩) (fun q h => by cases h) dX0_has_13
  · refine lv_iconst (v := nI 1) hx hb dX0_has_8 (by decide) ?_
    refine lv_goto hx hb dX0_has_9 (tgt := 13) (by decide) ?_
    exact W.zret (ty := .boolean) (v := nI 1) hx hb hr (by first | rfl | decide) (fun t ht hW => ⟨nI 1, rfl, (bI_ne hq).symm, ht⟩) (fun q h => by cases h) dX0_has_13
set_option maxHeartbeats 4000000 in
set_option maxRecDepth 100000 in
/-- lowBits -/
theorem c_lowBits (l : Launch) {v : Nat} (h1 : v < 31) : Met l yX0_lowBits wsX0_lowBits ({ frames := 0, cells := 0, slots := 0, locals := 0 }) (va_Pc [.int (nI v)] (fun _ => True)) (vp_Si (fun r => r = nI (2 ^ v - 1))) 0 0 (fun _ => False) := by
  refine Met.ofW (cc := cX0_lowBits) (maxL := 1) (ret := some .int) (by decide) rfl ?_
  intro p e s m args below meth c0 s₁ B hml hv0
  obtain ⟨rfl, -⟩ := hv0
  have hx := B.exec
  have hb := B.bytes
  have hr := B.returns
  have hts := atoms_spec (ws := wsX0_lowBits) B.pre
  have hown : s.vm.findClass RX0 = some m.cls := findClass_of_methodNamed B.named
  have hlocks := B.notSynchronized
  have hl := lv_entry ([.int (nI v)]) (n := 1) (Nat.le_of_ble_eq_true rfl)
  rw [lg_entry_eq]
  generalize (lg_sl ([.int (nI v)]) ++ List.replicate (1 - (lg_sl ([.int (nI v)])).length) Slot.unset).toArray = ls at hl ⊢
  have hl : lv_has ls 1 [(0, .int (nI v))] := hl
  refine lv_iconst (v := nI 1) hx hb dX0_lowBits_0 (by decide) ?_
  refine lv_iload_n hx hb dX0_lowBits_1 rfl (lv_at hl 0 rfl) ?_
  refine lv_ishl hx hb dX0_lowBits_2 ?_
  refine cs_top (y := nI (2 ^ v)) (cs_one h1) ?_
  refine lv_iconst (v := nI 1) hx hb dX0_lowBits_3 (by decide) ?_
  refine lv_isub hx hb dX0_lowBits_4 ?_
  refine cs_top (y := nI (2 ^ v - 1)) (cs_low h1) ?_
  exact W.iret (v := nI (2 ^ v - 1)) hx hb hr (fun t ht hW => ⟨nI (2 ^ v - 1), rfl, rfl, ht⟩) (fun q h => by cases h) dX0_lowBits_5
set_option maxHeartbeats 4000000 in
set_option maxRecDepth 100000 in
/-- Integer.bitCount of a number of sixteen bits -/
theorem c_bitCount (l : Launch) {n : Nat} (h1 : n < 65536) : Met l yJ6_bitCount_0f7a4 wsJ6_bitCount_0f7a4 ({ frames := 0, cells := 0, slots := 0, locals := 0 }) (va_Pc [.int (nI n)] (fun _ => True)) (vp_Si (fun r => r = nI (pcs n 16))) 0 0 (fun _ => False) := by
  refine Met.ofW (cc := cJ6_bitCount_0f7a4) (maxL := 1) (ret := some .int) (by decide) rfl ?_
  intro p e s m args below meth c0 s₁ B hml hv0
  obtain ⟨rfl, -⟩ := hv0
  have hx := B.exec
  have hb := B.bytes
  have hr := B.returns
  have hts := atoms_spec (ws := wsJ6_bitCount_0f7a4) B.pre
  have hown : s.vm.findClass RJ6 = some m.cls := findClass_of_methodNamed B.named
  have hlocks := B.notSynchronized
  have hl := lv_entry ([.int (nI n)]) (n := 1) (Nat.le_of_ble_eq_true rfl)
  rw [lg_entry_eq]
  generalize (lg_sl ([.int (nI n)]) ++ List.replicate (1 - (lg_sl ([.int (nI n)])).length) Slot.unset).toArray = ls at hl ⊢
  have hl : lv_has ls 1 [(0, .int (nI n))] := hl
  have l1 := bc1_lt h1
  have l2 := bc2_lt l1
  have l3 := bc3_lt l2
  have l4 := bc4_lt l3
  refine lv_iload_n hx hb dJ6_bitCount_0f7a4_0 rfl (lv_at hl 0 rfl) ?_
  refine lv_iload_n hx hb dJ6_bitCount_0f7a4_1 rfl (lv_at hl 0 rfl) ?_
  refine lv_iconst (v := nI 1) hx hb dJ6_bitCount_0f7a4_2 (by decide) ?_
  refine lv_iushr (v := nI (n / 2 ^ 1)) hx hb dJ6_bitCount_0f7a4_3 (pk_ushrN (by omega) _ 1 (by decide)) ?_
  refine lv_ldcw (v := nI 1431655765) hx hb hown (hts (.constant RJ6 265 (1431655765)) (by decide +kernel)) dJ6_bitCount_0f7a4_4 ?_
  refine lv_iand hx hb dJ6_bitCount_0f7a4_7 ?_
  refine cs_top (y := nI ((n / 2 ^ 1) &&& 1431655765)) (cs_and (n / 2 ^ 1) 1431655765) ?_
  refine lv_isub hx hb dJ6_bitCount_0f7a4_8 ?_
  refine cs_top (y := nI (bc1 n)) (pk_sub (Nat.le_trans Nat.and_le_left (Nat.div_le_self _ _))) ?_
  refine lv_istore_n hx hb dJ6_bitCount_0f7a4_9 rfl hl (by decide) rfl (fun ls hl => ?_)
  have hl : lv_has ls 1 [(0, .int (nI (bc1 n)))] := hl
  refine lv_iload_n hx hb dJ6_bitCount_0f7a4_10 rfl (lv_at hl 0 rfl) ?_
  refine lv_ldcw (v := nI 858993459) hx hb hown (hts (.constant RJ6 266 (858993459)) (by decide +kernel)) dJ6_bitCount_0f7a4_11 ?_
  refine lv_iand hx hb dJ6_bitCount_0f7a4_14 ?_
  refine cs_top (y := nI ((bc1 n) &&& 858993459)) (cs_and (bc1 n) 858993459) ?_
  refine lv_iload_n hx hb dJ6_bitCount_0f7a4_15 rfl (lv_at hl 0 rfl) ?_
  refine lv_iconst (v := nI 2) hx hb dJ6_bitCount_0f7a4_16 (by decide) ?_
  refine lv_iushr (v := nI ((bc1 n) / 2 ^ 2)) hx hb dJ6_bitCount_0f7a4_17 (pk_ushrN (by omega) _ 2 (by decide)) ?_
  refine lv_ldcw (v := nI 858993459) hx hb hown (hts (.constant RJ6 266 (858993459)) (by decide +kernel)) dJ6_bitCount_0f7a4_18 ?_
  refine lv_iand hx hb dJ6_bitCount_0f7a4_21 ?_
  refine cs_top (y := nI (((bc1 n) / 2 ^ 2) &&& 858993459)) (cs_and ((bc1 n) / 2 ^ 2) 858993459) ?_
  refine lv_iadd hx hb dJ6_bitCount_0f7a4_22 ?_
  refine cs_top (y := nI (((bc1 n) &&& 858993459) + (((bc1 n) / 2 ^ 2) &&& 858993459))) (nI_add ((bc1 n) &&& 858993459) (((bc1 n) / 2 ^ 2) &&& 858993459)) ?_
  refine cs_top (y := nI (bc2 (bc1 n))) (rfl) ?_
  refine lv_istore_n hx hb dJ6_bitCount_0f7a4_23 rfl hl (by decide) rfl (fun ls hl => ?_)
  have hl : lv_has ls 1 [(0, .int (nI (bc2 (bc1 n))))] := hl
  refine lv_iload_n hx hb dJ6_bitCount_0f7a4_24 rfl (lv_at hl 0 rfl) ?_
  refine lv_iload_n hx hb dJ6_bitCount_0f7a4_25 rfl (lv_at hl 0 rfl) ?_
  refine lv_iconst (v := nI 4) hx hb dJ6_bitCount_0f7a4_26 (by decide) ?_
  refine lv_iushr (v := nI ((bc2 (bc1 n)) / 2 ^ 4)) hx hb dJ6_bitCount_0f7a4_27 (pk_ushrN (by omega) _ 4 (by decide)) ?_
  refine lv_iadd hx hb dJ6_bitCount_0f7a4_28 ?_
  refine cs_top (y := nI ((bc2 (bc1 n)) + ((bc2 (bc1 n)) / 2 ^ 4))) (nI_add (bc2 (bc1 n)) ((bc2 (bc1 n)) / 2 ^ 4)) ?_
  refine lv_ldcw (v := nI 252645135) hx hb hown (hts (.constant RJ6 267 (252645135)) (by decide +kernel)) dJ6_bitCount_0f7a4_29 ?_
  refine lv_iand hx hb dJ6_bitCount_0f7a4_32 ?_
  refine cs_top (y := nI (((bc2 (bc1 n)) + ((bc2 (bc1 n)) / 2 ^ 4)) &&& 252645135)) (cs_and ((bc2 (bc1 n)) + ((bc2 (bc1 n)) / 2 ^ 4)) 252645135) ?_
  refine cs_top (y := nI (bc3 (bc2 (bc1 n)))) (rfl) ?_
  refine lv_istore_n hx hb dJ6_bitCount_0f7a4_33 rfl hl (by decide) rfl (fun ls hl => ?_)
  have hl : lv_has ls 1 [(0, .int (nI (bc3 (bc2 (bc1 n)))))] := hl
  refine lv_iload_n hx hb dJ6_bitCount_0f7a4_34 rfl (lv_at hl 0 rfl) ?_
  refine lv_iload_n hx hb dJ6_bitCount_0f7a4_35 rfl (lv_at hl 0 rfl) ?_
  refine lv_bipush (v := nI 8) hx hb dJ6_bitCount_0f7a4_36 (by decide) ?_
  refine lv_iushr (v := nI ((bc3 (bc2 (bc1 n))) / 2 ^ 8)) hx hb dJ6_bitCount_0f7a4_38 (pk_ushrN (by omega) _ 8 (by decide)) ?_
  refine lv_iadd hx hb dJ6_bitCount_0f7a4_39 ?_
  refine cs_top (y := nI ((bc3 (bc2 (bc1 n))) + ((bc3 (bc2 (bc1 n))) / 2 ^ 8))) (nI_add (bc3 (bc2 (bc1 n))) ((bc3 (bc2 (bc1 n))) / 2 ^ 8)) ?_
  refine cs_top (y := nI (bc4 (bc3 (bc2 (bc1 n))))) (rfl) ?_
  refine lv_istore_n hx hb dJ6_bitCount_0f7a4_40 rfl hl (by decide) rfl (fun ls hl => ?_)
  have hl : lv_has ls 1 [(0, .int (nI (bc4 (bc3 (bc2 (bc1 n))))))] := hl
  refine lv_iload_n hx hb dJ6_bitCount_0f7a4_41 rfl (lv_at hl 0 rfl) ?_
  refine lv_iload_n hx hb dJ6_bitCount_0f7a4_42 rfl (lv_at hl 0 rfl) ?_
  refine lv_bipush (v := nI 16) hx hb dJ6_bitCount_0f7a4_43 (by decide) ?_
  refine lv_iushr (v := nI ((bc4 (bc3 (bc2 (bc1 n)))) / 2 ^ 16)) hx hb dJ6_bitCount_0f7a4_45 (pk_ushrN (by omega) _ 16 (by decide)) ?_
  refine lv_iadd hx hb dJ6_bitCount_0f7a4_46 ?_
  refine cs_top (y := nI ((bc4 (bc3 (bc2 (bc1 n)))) + ((bc4 (bc3 (bc2 (bc1 n)))) / 2 ^ 16))) (nI_add (bc4 (bc3 (bc2 (bc1 n)))) ((bc4 (bc3 (bc2 (bc1 n)))) / 2 ^ 16)) ?_
  refine cs_top (y := nI (bc5 (bc4 (bc3 (bc2 (bc1 n)))))) (rfl) ?_
  refine lv_istore_n hx hb dJ6_bitCount_0f7a4_47 rfl hl (by decide) rfl (fun ls hl => ?_)
  have hl : lv_has ls 1 [(0, .int (nI (bc5 (bc4 (bc3 (bc2 (bc1 n)))))))] := hl
  refine lv_iload_n hx hb dJ6_bitCount_0f7a4_48 rfl (lv_at hl 0 rfl) ?_
  refine lv_bipush (v := nI 63) hx hb dJ6_bitCount_0f7a4_49 (by decide) ?_
  refine lv_iand hx hb dJ6_bitCount_0f7a4_51 ?_
  refine cs_top (y := nI ((bc5 (bc4 (bc3 (bc2 (bc1 n))))) &&& 63)) (cs_and (bc5 (bc4 (bc3 (bc2 (bc1 n))))) 63) ?_
  exact W.iret (v := nI ((bc5 (bc4 (bc3 (bc2 (bc1 n))))) &&& 63)) hx hb hr (fun t ht hW => ⟨nI ((bc5 (bc4 (bc3 (bc2 (bc1 n))))) &&& 63), rfl, congrArg nI (bc_pcs h1), ht⟩) (fun q h => by cases h) dJ6_bitCount_0f7a4_52
set_option maxHeartbeats 4000000 in
set_option maxRecDepth 100000 in
theorem c_isVariable_in (l : Launch) (dC : Nat → ClassId) (dI : Nat → Nat → Nat) (o a1 a2 a3 a4 : Nat) (c1 c2 c3 c4 : ClassId) (N h w y z c : Nat) (f1 f2 f3 : Nat → Int32) (f4 : Nat → Int64) (hN : N ≤ 16) {j : Nat} (hj : j < N) : Met l yX0_isVariable wsX0_isVariable ({ frames := 0, cells := 0, slots := 0, locals := 0 }) (va_Pc [.ref o, .int (nI j)] (rW (dC, dI) vwCl (xC o a1 a2 a3 a4 c1 c2 c3 c4 (nI N) (nI h) (nI w) (nI y) (nI z) (nI c) f1 f2 f3 f4) (xT c1 c2 c3 c4))) (vp_Si (fun r => r = nI 1)) 0 0 (fun _ => False) := by
  refine Met.ofW (cc := cX0_isVariable) (maxL := 2) (ret := some .boolean) (by decide) rfl ?_
  intro p e s m args below meth c0 s₁ B hml hv0
  obtain ⟨rfl, hP, hK⟩ := hv0
  have hx := B.exec
  have hb := B.bytes
  have hr := B.returns
  have hts := atoms_spec (ws := wsX0_isVariable) B.pre
  have hown : s.vm.findClass RX0 = some m.cls := findClass_of_methodNamed B.named
  have hlocks := B.notSynchronized
  have hP : va_P (dC, dI) vwCl (xC o a1 a2 a3 a4 c1 c2 c3 c4 (nI N) (nI h) (nI w) (nI y) (nI z) (nI c) f1 f2 f3 f4) s.heap := hP
  have hin0 : ∀ w ∈ u_ws RX0 TX0 10, w ∈ wsX0_isVariable := by decide +kernel
  have hl := lv_entry ([.ref o, .int (nI j)]) (n := 2) (Nat.le_of_ble_eq_true rfl)
  rw [lg_entry_eq]
  generalize (lg_sl ([.ref o, .int (nI j)]) ++ List.replicate (2 - (lg_sl ([.ref o, .int (nI j)])).length) Slot.unset).toArray = ls at hl ⊢
  have hl : lv_has ls 2 [(0, .ref o), (1, .int (nI j))] := hl
  refine lv_iload_n hx hb dX0_isVariable_0 rfl (lv_at hl 1 rfl) ?_
  refine lv_if_lt hx hb dX0_isVariable_1 (tgt := 16) (by decide) (fun hq => absurd hq (nI_pos (by omega))) (fun _ => ?_)
  refine lv_iload_n hx hb dX0_isVariable_4 rfl (lv_at hl 1 rfl) ?_
  refine lv_aload_n hx hb dX0_isVariable_5 rfl (lv_at hl 0 rfl) ?_
  refine va_get (D := (dC, dI)) (ci := 0) (v := .int (nI N)) (C := RX0) (T := TX0) (N := 10) hx hb hts hin0 hown hK hP 0 rfl rfl 0 (by decide) (hts (.fieldLink RX0 18 "ClauseSolver" "variables" "I") (by decide +kernel)) (fun _ h9 => h9) rfl dX0_isVariable_6 ?_
  refine lv_icmp_ge hx hb dX0_isVariable_9 (tgt := 16) (by decide) (fun hq => absurd hq (nI_ge hj (by omega))) (fun _ => ?_)
  refine lv_iconst (v := nI 1) hx hb dX0_isVariable_12 (by decide) ?_
  refine lv_goto hx hb dX0_isVariable_13 (tgt := 17) (by decide) ?_
  exact W.zret (ty := .boolean) (v := nI 1) hx hb hr (by first | rfl | decide) (fun t ht hW => ⟨nI 1, rfl, rfl, ht⟩) (fun q h => by cases h) dX0_isVariable_17
set_option maxHeartbeats 4000000 in
set_option maxRecDepth 100000 in
theorem c_isVariable_out (l : Launch) (dC : Nat → ClassId) (dI : Nat → Nat → Nat) (o a1 a2 a3 a4 : Nat) (c1 c2 c3 c4 : ClassId) (N h w y z c : Nat) (f1 f2 f3 : Nat → Int32) (f4 : Nat → Int64) {v : Int32} (hv : v < 0 ∨ nI N ≤ v) : Met l yX0_isVariable wsX0_isVariable ({ frames := 0, cells := 0, slots := 0, locals := 0 }) (va_Pc [.ref o, .int v] (rW (dC, dI) vwCl (xC o a1 a2 a3 a4 c1 c2 c3 c4 (nI N) (nI h) (nI w) (nI y) (nI z) (nI c) f1 f2 f3 f4) (xT c1 c2 c3 c4))) (vp_Si (fun r => r = nI 0)) 0 0 (fun _ => False) := by
  refine Met.ofW (cc := cX0_isVariable) (maxL := 2) (ret := some .boolean) (by decide) rfl ?_
  intro p e s m args below meth c0 s₁ B hml hv0
  obtain ⟨rfl, hP, hK⟩ := hv0
  have hx := B.exec
  have hb := B.bytes
  have hr := B.returns
  have hts := atoms_spec (ws := wsX0_isVariable) B.pre
  have hown : s.vm.findClass RX0 = some m.cls := findClass_of_methodNamed B.named
  have hlocks := B.notSynchronized
  have hP : va_P (dC, dI) vwCl (xC o a1 a2 a3 a4 c1 c2 c3 c4 (nI N) (nI h) (nI w) (nI y) (nI z) (nI c) f1 f2 f3 f4) s.heap := hP
  have hin0 : ∀ w ∈ u_ws RX0 TX0 10, w ∈ wsX0_isVariable := by decide +kernel
  have hl := lv_entry ([.ref o, .int v]) (n := 2) (Nat.le_of_ble_eq_true rfl)
  rw [lg_entry_eq]
  generalize (lg_sl ([.ref o, .int v]) ++ List.replicate (2 - (lg_sl ([.ref o, .int v])).length) Slot.unset).toArray = ls at hl ⊢
  have hl : lv_has ls 2 [(0, .ref o), (1, .int v)] := hl
  refine lv_iload_n hx hb dX0_isVariable_0 rfl (lv_at hl 1 rfl) ?_
  by_cases h0 : v < 0
  · refine lv_if_lt hx hb dX0_isVariable_1 (tgt := 16) (by decide) (fun _ => ?_) (fun hq => absurd (h0) hq)
    refine lv_iconst (v := nI 0) hx hb dX0_isVariable_16 (by decide) ?_
    exact W.zret (ty := .boolean) (v := nI 0) hx hb hr (by first | rfl | decide) (fun t ht hW => ⟨nI 0, rfl, rfl, ht⟩) (fun q h => by cases h) dX0_isVariable_17
  · refine lv_if_lt hx hb dX0_isVariable_1 (tgt := 16) (by decide) (fun hq => absurd hq (h0)) (fun _ => ?_)
    refine lv_iload_n hx hb dX0_isVariable_4 rfl (lv_at hl 1 rfl) ?_
    refine lv_aload_n hx hb dX0_isVariable_5 rfl (lv_at hl 0 rfl) ?_
    refine va_get (D := (dC, dI)) (ci := 0) (v := .int (nI N)) (C := RX0) (T := TX0) (N := 10) hx hb hts hin0 hown hK hP 0 rfl rfl 0 (by decide) (hts (.fieldLink RX0 18 "ClauseSolver" "variables" "I") (by decide +kernel)) (fun _ h9 => h9) rfl dX0_isVariable_6 ?_
    refine lv_icmp_ge hx hb dX0_isVariable_9 (tgt := 16) (by decide) (fun _ => ?_) (fun hq => absurd (hv.resolve_left h0) hq)
    refine lv_iconst (v := nI 0) hx hb dX0_isVariable_16 (by decide) ?_
    exact W.zret (ty := .boolean) (v := nI 0) hx hb hr (by first | rfl | decide) (fun t ht hW => ⟨nI 0, rfl, rfl, ht⟩) (fun q h => by cases h) dX0_isVariable_17
set_option maxHeartbeats 4000000 in
set_option maxRecDepth 100000 in
theorem c_namedByMadeUp (l : Launch) (dC : Nat → ClassId) (dI : Nat → Nat → Nat) (o a1 a2 a3 a4 : Nat) (c1 c2 c3 c4 : ClassId) (N h w y z c : Nat) (f1 f2 f3 : Nat → Int32) (f4 : Nat → Int64) (hy : y < 65536) (hz : z < 65536) : Met l yX0_namedByMadeUp wsX0_namedByMadeUp ({ frames := 1, cells := 0, slots := 0, locals := 20 }) (va_Pc [.ref o] (rW (dC, dI) vwCl (xC o a1 a2 a3 a4 c1 c2 c3 c4 (nI N) (nI h) (nI w) (nI y) (nI z) (nI c) f1 f2 f3 f4) (xT c1 c2 c3 c4))) (vp_Si (fun r => r = nI (pcs y 16 + pcs z 16))) 0 0 (fun _ => False) := by
  refine Met.ofW (cc := cX0_namedByMadeUp) (maxL := 1) (ret := some .int) (by decide) rfl ?_
  intro p e s m args below meth c0 s₁ B hml hv0
  obtain ⟨rfl, hP, hK⟩ := hv0
  have hx := B.exec
  have hb := B.bytes
  have hr := B.returns
  have hts := atoms_spec (ws := wsX0_namedByMadeUp) B.pre
  have hown : s.vm.findClass RX0 = some m.cls := findClass_of_methodNamed B.named
  have hlocks := B.notSynchronized
  have hP : va_P (dC, dI) vwCl (xC o a1 a2 a3 a4 c1 c2 c3 c4 (nI N) (nI h) (nI w) (nI y) (nI z) (nI c) f1 f2 f3 f4) s.heap := hP
  have hin0 : ∀ w ∈ u_ws RX0 TX0 10, w ∈ wsX0_namedByMadeUp := by decide +kernel
  have hl := lv_entry ([.ref o]) (n := 1) (Nat.le_of_ble_eq_true rfl)
  rw [lg_entry_eq]
  generalize (lg_sl ([.ref o]) ++ List.replicate (1 - (lg_sl ([.ref o])).length) Slot.unset).toArray = ls at hl ⊢
  have hl : lv_has ls 1 [(0, .ref o)] := hl
  refine lv_aload_n hx hb dX0_namedByMadeUp_0 rfl (lv_at hl 0 rfl) ?_
  refine va_get (D := (dC, dI)) (ci := 0) (v := .int (nI y)) (C := RX0) (T := TX0) (N := 10) hx hb hts hin0 hown hK hP 0 rfl rfl 3 (by decide) (hts (.fieldLink RX0 50 "ClauseSolver" "madeTrue" "I") (by decide +kernel)) (fun _ h9 => h9) rfl dX0_namedByMadeUp_1 ?_
  refine vp_callSi (W.runS (As := [.int (nI y)]) (rest := []) ⟨hx, hb, hml, hown, hts⟩ (c_bitCount l hy) (va_cwS 1 hts gX0_namedByMadeUp_J6_bitCount_0f7a4 rfl rfl rfl (by decide +kernel) ⟨Nat.le_of_ble_eq_true rfl, Nat.le_of_ble_eq_true rfl⟩) (nW_preS) rfl rfl hl.1 rfl (lv_room (Nat.le_of_ble_eq_true rfl)) dX0_namedByMadeUp_4 ⟨Nat.le_refl _, Nat.le_refl _⟩) (fun r0 hr0 => ?_)
  subst hr0
  refine lv_aload_n hx hb dX0_namedByMadeUp_7 rfl (lv_at hl 0 rfl) ?_
  refine va_get (D := (dC, dI)) (ci := 0) (v := .int (nI z)) (C := RX0) (T := TX0) (N := 10) hx hb hts hin0 hown hK hP 0 rfl rfl 4 (by decide) (hts (.fieldLink RX0 53 "ClauseSolver" "madeFalse" "I") (by decide +kernel)) (fun _ h9 => h9) rfl dX0_namedByMadeUp_8 ?_
  refine vp_callSi (W.runS (As := [.int (nI z)]) (rest := [.int (nI (pcs y 16))]) ⟨hx, hb, hml, hown, hts⟩ (c_bitCount l hz) (va_cwS 1 hts gX0_namedByMadeUp_J6_bitCount_0f7a4 rfl rfl rfl (by decide +kernel) ⟨Nat.le_of_ble_eq_true rfl, Nat.le_of_ble_eq_true rfl⟩) (nW_preS) rfl rfl hl.1 rfl (lv_room (Nat.le_of_ble_eq_true rfl)) dX0_namedByMadeUp_11 ⟨Nat.le_refl _, Nat.le_refl _⟩) (fun r0 hr0 => ?_)
  subst hr0
  refine lv_iadd hx hb dX0_namedByMadeUp_14 ?_
  refine cs_top (y := nI ((pcs y 16) + (pcs z 16))) (nI_add (pcs y 16) (pcs z 16)) ?_
  exact W.iret (v := nI ((pcs y 16) + (pcs z 16))) hx hb hr (fun t ht hW => ⟨nI ((pcs y 16) + (pcs z 16)), rfl, rfl, ht⟩) (fun q h => by cases h) dX0_namedByMadeUp_15
