theorem nI_m3 {n : Nat} (h : n < 2 ^ 31) : ¬ nI n = -3 := by
  intro e
  have h1 := congrArg Int32.toInt e
  rw [nI_toInt h, show (-3 : Int32).toInt = -3 by decide] at h1
  omega
theorem cs_div64 {y N h : Nat} (hy : y < 2 ^ N) (hNh : h = N - 6) : y / 2 ^ h < 64 := by
  rw [Nat.div_lt_iff_lt_mul (Nat.two_pow_pos _), show (64 : Nat) = 2 ^ 6 from rfl, ← Nat.pow_add]
  exact Nat.lt_of_lt_of_le hy (Nat.pow_le_pow_right (by decide) (by omega))
theorem dep_split {y z h δ : Nat} (H : ∀ i, δ ≤ i → i < h → ((y ||| z) % 2 ^ h).testBit i = false) : ∀ i, δ ≤ i → i < h → y.testBit i = false ∧ z.testBit i = false := by
  intro i h1 h2
  have h3 := H i h1 h2
  rw [Nat.testBit_mod_two_pow, decide_eq_true h2, Bool.true_and, Nat.testBit_or, Bool.or_eq_false_iff] at h3
  exact h3
theorem cs_N31 {y N : Nat} (hN : N ≤ 16) (hy : y < 2 ^ N) : y < 65536 := Nat.lt_of_lt_of_le hy (cs_p16 hN)
/-- what a literal leaves -/
def lt1 (y j : Nat) : Bool → Nat
  | true => y ||| 2 ^ j
  | false => y
def lt0 (z j : Nat) : Bool → Nat
  | true => z
  | false => z ||| 2 ^ j
theorem lt1_lt {y j N : Nat} (hy : y < 2 ^ N) (hj : j < N) (b : Bool) : lt1 y j b < 2 ^ N := by
  cases b with
  | true => exact Nat.or_lt_two_pow hy (Nat.pow_lt_pow_right (by decide) hj)
  | false => exact hy
theorem lt0_lt {z j N : Nat} (hz : z < 2 ^ N) (hj : j < N) (b : Bool) : lt0 z j b < 2 ^ N := by
  cases b with
  | true => exact hz
  | false => exact Nat.or_lt_two_pow hz (Nat.pow_lt_pow_right (by decide) hj)
/-- the low bits of any int -/
def lo (x : Int32) (N : Nat) : Nat := x.toBitVec.toNat % 2 ^ N
theorem lo_lt (x : Int32) (N : Nat) : lo x N < 2 ^ N := Nat.mod_lt _ (Nat.two_pow_pos N)
set_option maxHeartbeats 4000000 in
set_option maxRecDepth 100000 in
theorem c_append_full (l : Launch) (dC : Nat → ClassId) (dI : Nat → Nat → Nat) (o a1 a2 a3 a4 : Nat) (c1 c2 c3 c4 : ClassId) (N h w y z c : Nat) (f1 f2 f3 : Nat → Int32) (f4 : Nat → Int64) (hc : c = 400) (x1 x2 : Int32) : Met l yX0_append wsX0_append ({ frames := 0, cells := 0, slots := 0, locals := 0 }) (va_Pc [.ref o, .int x1, .int x2] (rW (dC, dI) vwCl (xC o a1 a2 a3 a4 c1 c2 c3 c4 (nI N) (nI h) (nI w) (nI y) (nI z) (nI c) f1 f2 f3 f4) (xT c1 c2 c3 c4))) (vp_Si (fun r => r = -3)) 0 0 (fun _ => False) := by
  refine Met.ofW (cc := cX0_append) (maxL := 4) (ret := some .int) (by decide) rfl ?_
  intro p e s m args below meth c0 s₁ B hml hv0
  obtain ⟨rfl, hP, hK⟩ := hv0
  have hx := B.exec
  have hb := B.bytes
  have hr := B.returns
  have hts := atoms_spec (ws := wsX0_append) B.pre
  have hown : s.vm.findClass RX0 = some m.cls := findClass_of_methodNamed B.named
  have hlocks := B.notSynchronized
  have hP : va_P (dC, dI) vwCl (xC o a1 a2 a3 a4 c1 c2 c3 c4 (nI N) (nI h) (nI w) (nI y) (nI z) (nI c) f1 f2 f3 f4) s.heap := hP
  have hin0 : ∀ w ∈ u_ws RX0 TX0 10, w ∈ wsX0_append := by decide +kernel
  have hl := lv_entry ([.ref o, .int x1, .int x2]) (n := 4) (Nat.le_of_ble_eq_true rfl)
  rw [lg_entry_eq]
  generalize (lg_sl ([.ref o, .int x1, .int x2]) ++ List.replicate (4 - (lg_sl ([.ref o, .int x1, .int x2])).length) Slot.unset).toArray = ls at hl ⊢
  have hl : lv_has ls 4 [(0, .ref o), (1, .int x1), (2, .int x2)] := hl
  refine lv_aload_n hx hb dX0_append_0 rfl (lv_at hl 0 rfl) ?_
  refine va_get (D := (dC, dI)) (ci := 0) (v := .int (nI c)) (C := RX0) (T := TX0) (N := 10) hx hb hts hin0 hown hK hP 0 rfl rfl 5 (by decide) (hts (.fieldLink RX0 67 "ClauseSolver" "clauses" "I") (by decide +kernel)) (fun _ h9 => h9) rfl dX0_append_1 ?_
  refine lv_sipush (v := nI 400) hx hb dX0_append_4 (by decide) ?_
  refine lv_icmp_lt hx hb dX0_append_7 (tgt := 13) (by decide) (fun hq => absurd hq (nI_nlt (by omega) (by omega))) (fun _ => ?_)
  refine lv_bipush (v := (-3)) hx hb dX0_append_10 (by decide) ?_
  exact W.iret (v := (-3)) hx hb hr (fun t ht hW => ⟨(-3), rfl, rfl, ht⟩) (fun q h => by cases h) dX0_append_12
set_option maxHeartbeats 4000000 in
set_option maxRecDepth 100000 in
theorem c_append (l : Launch) (tt sz : Nat) (dC : Nat → ClassId) (dI : Nat → Nat → Nat) (o a1 a2 a3 a4 : Nat) (c1 c2 c3 c4 : ClassId) (N h w y z c : Nat) (f1 f2 f3 : Nat → Int32) (f4 : Nat → Int64) (hN : N ≤ 16) (hNh : h = N - 6) (hc : c < 400) {yy zz : Nat} (hyy : yy < 2 ^ N) (hzz : zz < 2 ^ N) : Met l yX0_append wsX0_append ({ frames := 2, cells := 0, slots := 0, locals := 70 }) (va_Pc [.ref o, .int (nI yy), .int (nI zz)] (wX tt (xC o a1 a2 a3 a4 c1 c2 c3 c4 (nI N) (nI h) (nI w) (nI y) (nI z) (nI c) f1 f2 f3 f4) sz (wW (dC, dI) vwCl (xC o a1 a2 a3 a4 c1 c2 c3 c4 (nI N) (nI h) (nI w) (nI y) (nI z) (nI c) f1 f2 f3 f4) (xT c1 c2 c3 c4) sz))) (va_Qi (fun (r : Int32) (u : Nat × Int64) => r = nI (c + 1) ∧ u.1 ≤ h ∧ (∀ i, u.1 ≤ i → i < h → (yy).testBit i = false ∧ (zz).testBit i = false) ∧ ∀ t, t < 64 → (lb u.2 t = true ↔ Mt (yy >>> h) (zz >>> h) t)) (oW (dC, dI) vwCl (xC o a1 a2 a3 a4 c1 c2 c3 c4 (nI N) (nI h) (nI w) (nI y) (nI z) (nI c) f1 f2 f3 f4) sz (fun u : Nat × Int64 => (xC o a1 a2 a3 a4 c1 c2 c3 c4 (nI N) (nI h) (nI w) (nI y) (nI z) (nI (c + 1)) (upd f1 c (nI (yy % 2 ^ h))) (upd f2 c (nI (zz % 2 ^ h))) (upd f3 c (nI u.1)) (vp_updL f4 c u.2)))) (va_A (xC o a1 a2 a3 a4 c1 c2 c3 c4 (nI N) (nI h) (nI w) (nI y) (nI z) (nI c) f1 f2 f3 f4) sz)) 0 0 (va_A (xC o a1 a2 a3 a4 c1 c2 c3 c4 (nI N) (nI h) (nI w) (nI y) (nI z) (nI c) f1 f2 f3 f4) sz) := by
  refine Met.ofW (cc := cX0_append) (maxL := 4) (ret := some .int) (by decide) rfl ?_
  intro p e s m args below meth c0 s₁ B hml hv0
  obtain ⟨rfl, ⟨hsz, hP, hK, hD0⟩, hT⟩ := hv0
  have hx := B.exec
  have hb := B.bytes
  have hr := B.returns
  have hts := atoms_spec (ws := wsX0_append) B.pre
  have hown : s.vm.findClass RX0 = some m.cls := findClass_of_methodNamed B.named
  have hlocks := B.notSynchronized
  subst hsz
  have hD := hD0.self (sz := s.heap.size)
  generalize hAe : va_A (xC o a1 a2 a3 a4 c1 c2 c3 c4 (nI N) (nI h) (nI w) (nI y) (nI z) (nI c) f1 f2 f3 f4) s.heap.size = A at hD hT ⊢
  have hA : ∀ q : Nat, s.heap.size ≤ q → A q := fun q h => by rw [← hAe]; exact Or.inr h
  have hS : va_S A s.heap s.heap [] := va_S.rf
  have hP : va_P (dC, dI) vwCl (xC o a1 a2 a3 a4 c1 c2 c3 c4 (nI N) (nI h) (nI w) (nI y) (nI z) (nI c) f1 f2 f3 f4) s.heap := hP
  have hin0 : ∀ w ∈ u_ws RX0 TX0 10, w ∈ wsX0_append := by decide +kernel
  have hl := lv_entry ([.ref o, .int (nI yy), .int (nI zz)]) (n := 4) (Nat.le_of_ble_eq_true rfl)
  rw [lg_entry_eq]
  generalize (lg_sl ([.ref o, .int (nI yy), .int (nI zz)]) ++ List.replicate (4 - (lg_sl ([.ref o, .int (nI yy), .int (nI zz)])).length) Slot.unset).toArray = ls at hl ⊢
  have hl : lv_has ls 4 [(0, .ref o), (1, .int (nI yy)), (2, .int (nI zz))] := hl
  have hy5 := cs_N31 hN hyy
  have hz5 := cs_N31 hN hzz
  refine lv_aload_n hx hb dX0_append_0 rfl (lv_at hl 0 rfl) ?_
  refine va_get (D := (dC, dI)) (ci := 0) (v := .int (nI c)) (C := RX0) (T := TX0) (N := 10) hx hb hts hin0 hown hK hP 0 rfl rfl 5 (by decide) (hts (.fieldLink RX0 67 "ClauseSolver" "clauses" "I") (by decide +kernel)) (fun _ h9 => h9) rfl dX0_append_1 ?_
  refine lv_sipush (v := nI 400) hx hb dX0_append_4 (by decide) ?_
  refine lv_icmp_lt hx hb dX0_append_7 (tgt := 13) (by decide) (fun _ => ?_) (fun hq => absurd (nI_lt hc (by decide)) hq)
  refine lv_aload_n hx hb dX0_append_13 rfl (lv_at hl 0 rfl) ?_
  refine va_get (D := (dC, dI)) (ci := 0) (v := .int (nI h)) (C := RX0) (T := TX0) (N := 10) hx hb hts hin0 hown hK hP 0 rfl rfl 1 (by decide) (hts (.fieldLink RX0 22 "ClauseSolver" "heads" "I") (by decide +kernel)) (fun _ h9 => h9) rfl dX0_append_14 ?_
  refine vp_callSi (W.runS (As := [.int (nI h)]) (rest := []) ⟨hx, hb, hml, hown, hts⟩ (c_lowBits l (by omega)) (va_cwS 1 hts gX0_append_X0_lowBits rfl rfl rfl (by decide +kernel) ⟨Nat.le_of_ble_eq_true rfl, Nat.le_of_ble_eq_true rfl⟩) (nW_preS) rfl rfl hl.1 rfl (lv_room (Nat.le_of_ble_eq_true rfl)) dX0_append_17 ⟨Nat.le_refl _, Nat.le_refl _⟩) (fun r0 hr0 => ?_)
  subst hr0
  refine lv_istore_n hx hb dX0_append_20 rfl hl (by decide) rfl (fun ls hl => ?_)
  have hl : lv_has ls 4 [(3, .int (nI (2 ^ h - 1))), (0, .ref o), (1, .int (nI yy)), (2, .int (nI zz))] := hl
  refine lv_aload_n hx hb dX0_append_21 rfl (lv_at hl 1 rfl) ?_
  refine va_get (D := (dC, dI)) (ci := 0) (v := .ref a1) (C := RX0) (T := TX0) (N := 10) hx hb hts hin0 hown hK hP 0 rfl rfl 6 (by decide) (hts (.fieldLink RX0 25 "ClauseSolver" "headTrue" "[I") (by decide +kernel)) (fun _ h9 => h9) rfl dX0_append_22 ?_
  refine lv_aload_n hx hb dX0_append_25 rfl (lv_at hl 1 rfl) ?_
  refine va_get (D := (dC, dI)) (ci := 0) (v := .int (nI c)) (C := RX0) (T := TX0) (N := 10) hx hb hts hin0 hown hK hP 0 rfl rfl 5 (by decide) (hts (.fieldLink RX0 67 "ClauseSolver" "clauses" "I") (by decide +kernel)) (fun _ h9 => h9) rfl dX0_append_26 ?_
  refine lv_iload_n hx hb dX0_append_29 rfl (lv_at hl 2 rfl) ?_
  refine lv_iload_n hx hb dX0_append_30 rfl (lv_at hl 0 rfl) ?_
  refine lv_iand hx hb dX0_append_31 ?_
  refine cs_top (y := nI (yy &&& (2 ^ h - 1))) (cs_and yy (2 ^ h - 1)) ?_
  refine cs_top (y := nI (yy % 2 ^ h)) (congrArg nI (Nat.and_two_pow_sub_one_eq_mod yy h)) ?_
  refine cs_iast hx hb hK hP hD hS 1 0 rfl rfl (hc) (by decide) dX0_append_32 (fun H locs hP hD hS => ?_)
  have hP : va_P (dC, dI) vwCl (xC o a1 a2 a3 a4 c1 c2 c3 c4 (nI N) (nI h) (nI w) (nI y) (nI z) (nI c) (upd f1 c (nI (yy % 2 ^ h))) f2 f3 f4) H := hP
  have hD : va_D A (xC o a1 a2 a3 a4 c1 c2 c3 c4 (nI N) (nI h) (nI w) (nI y) (nI z) (nI c) (upd f1 c (nI (yy % 2 ^ h))) f2 f3 f4) := hD
  refine lv_aload_n hx hb dX0_append_33 rfl (lv_at hl 1 rfl) ?_
  refine va_get (D := (dC, dI)) (ci := 0) (v := .ref a2) (C := RX0) (T := TX0) (N := 10) hx hb hts hin0 hown hK hP 0 rfl rfl 7 (by decide) (hts (.fieldLink RX0 29 "ClauseSolver" "headFalse" "[I") (by decide +kernel)) (fun _ h9 => h9) rfl dX0_append_34 ?_
  refine lv_aload_n hx hb dX0_append_37 rfl (lv_at hl 1 rfl) ?_
  refine va_get (D := (dC, dI)) (ci := 0) (v := .int (nI c)) (C := RX0) (T := TX0) (N := 10) hx hb hts hin0 hown hK hP 0 rfl rfl 5 (by decide) (hts (.fieldLink RX0 67 "ClauseSolver" "clauses" "I") (by decide +kernel)) (fun _ h9 => h9) rfl dX0_append_38 ?_
  refine lv_iload_n hx hb dX0_append_41 rfl (lv_at hl 3 rfl) ?_
  refine lv_iload_n hx hb dX0_append_42 rfl (lv_at hl 0 rfl) ?_
  refine lv_iand hx hb dX0_append_43 ?_
  refine cs_top (y := nI (zz &&& (2 ^ h - 1))) (cs_and zz (2 ^ h - 1)) ?_
  refine cs_top (y := nI (zz % 2 ^ h)) (congrArg nI (Nat.and_two_pow_sub_one_eq_mod zz h)) ?_
  refine cs_iast hx hb hK hP hD hS 2 1 rfl rfl (hc) (by decide) dX0_append_44 (fun H locs hP hD hS => ?_)
  have hP : va_P (dC, dI) vwCl (xC o a1 a2 a3 a4 c1 c2 c3 c4 (nI N) (nI h) (nI w) (nI y) (nI z) (nI c) (upd f1 c (nI (yy % 2 ^ h))) (upd f2 c (nI (zz % 2 ^ h))) f3 f4) H := hP
  have hD : va_D A (xC o a1 a2 a3 a4 c1 c2 c3 c4 (nI N) (nI h) (nI w) (nI y) (nI z) (nI c) (upd f1 c (nI (yy % 2 ^ h))) (upd f2 c (nI (zz % 2 ^ h))) f3 f4) := hD
  refine lv_aload_n hx hb dX0_append_45 rfl (lv_at hl 1 rfl) ?_
  refine va_get (D := (dC, dI)) (ci := 0) (v := .ref a3) (C := RX0) (T := TX0) (N := 10) hx hb hts hin0 hown hK hP 0 rfl rfl 8 (by decide) (hts (.fieldLink RX0 32 "ClauseSolver" "depths" "[I") (by decide +kernel)) (fun _ h9 => h9) rfl dX0_append_46 ?_
  refine lv_aload_n hx hb dX0_append_49 rfl (lv_at hl 1 rfl) ?_
  refine va_get (D := (dC, dI)) (ci := 0) (v := .int (nI c)) (C := RX0) (T := TX0) (N := 10) hx hb hts hin0 hown hK hP 0 rfl rfl 5 (by decide) (hts (.fieldLink RX0 67 "ClauseSolver" "clauses" "I") (by decide +kernel)) (fun _ h9 => h9) rfl dX0_append_50 ?_
  refine lv_aload_n hx hb dX0_append_53 rfl (lv_at hl 1 rfl) ?_
  refine lv_iload_n hx hb dX0_append_54 rfl (lv_at hl 2 rfl) ?_
  refine lv_iload_n hx hb dX0_append_55 rfl (lv_at hl 3 rfl) ?_
  refine lv_ior hx hb dX0_append_56 ?_
  refine cs_top (y := nI (yy ||| zz)) (cs_or yy zz) ?_
  refine lv_iload_n hx hb dX0_append_57 rfl (lv_at hl 0 rfl) ?_
  refine lv_iand hx hb dX0_append_58 ?_
  refine cs_top (y := nI ((yy ||| zz) &&& (2 ^ h - 1))) (cs_and (yy ||| zz) (2 ^ h - 1)) ?_
  refine cs_top (y := nI ((yy ||| zz) % 2 ^ h)) (congrArg nI (Nat.and_two_pow_sub_one_eq_mod (yy ||| zz) h)) ?_
  refine vp_callSi (W.runV (As := [.int (nI ((yy ||| zz) % 2 ^ h))]) (rest := [.int (nI c), .ref a3]) ⟨hx, hb, hml, hown, hts⟩ (c_depthOf l dC dI o a1 a2 a3 a4 c1 c2 c3 c4 N h w y z c _ _ _ _ (by omega) (cs_modlt _ (by omega))) (cwV 1 hts gX0_append_X0_depthOf rfl rfl rfl (by decide +kernel) ⟨Nat.le_of_ble_eq_true rfl, Nat.le_of_ble_eq_true rfl⟩) (rW_preV hP hK (va_recv (q := (RX0, TX0, 10)) (q0 := 0) hK hP rfl rfl)) rfl rfl hl.1 rfl (lv_room (Nat.le_of_ble_eq_true rfl)) dX0_append_59 ⟨Nat.le_refl _, Nat.le_refl _⟩) (fun r0 hr0 => ?_)
  obtain ⟨δ, rfl, hδ, hδb⟩ := hr0
  refine cs_iast hx hb hK hP hD hS 3 2 rfl rfl (hc) (by decide) dX0_append_62 (fun H locs hP hD hS => ?_)
  have hP : va_P (dC, dI) vwCl (xC o a1 a2 a3 a4 c1 c2 c3 c4 (nI N) (nI h) (nI w) (nI y) (nI z) (nI c) (upd f1 c (nI (yy % 2 ^ h))) (upd f2 c (nI (zz % 2 ^ h))) (upd f3 c (nI δ)) f4) H := hP
  have hD : va_D A (xC o a1 a2 a3 a4 c1 c2 c3 c4 (nI N) (nI h) (nI w) (nI y) (nI z) (nI c) (upd f1 c (nI (yy % 2 ^ h))) (upd f2 c (nI (zz % 2 ^ h))) (upd f3 c (nI δ)) f4) := hD
  refine lv_aload_n hx hb dX0_append_63 rfl (lv_at hl 1 rfl) ?_
  refine va_get (D := (dC, dI)) (ci := 0) (v := .ref a4) (C := RX0) (T := TX0) (N := 10) hx hb hts hin0 hown hK hP 0 rfl rfl 9 (by decide) (hts (.fieldLink RX0 35 "ClauseSolver" "tails" "[J") (by decide +kernel)) (fun _ h9 => h9) rfl dX0_append_64 ?_
  refine lv_aload_n hx hb dX0_append_67 rfl (lv_at hl 1 rfl) ?_
  refine va_get (D := (dC, dI)) (ci := 0) (v := .int (nI c)) (C := RX0) (T := TX0) (N := 10) hx hb hts hin0 hown hK hP 0 rfl rfl 5 (by decide) (hts (.fieldLink RX0 67 "ClauseSolver" "clauses" "I") (by decide +kernel)) (fun _ h9 => h9) rfl dX0_append_68 ?_
  refine lv_iload_n hx hb dX0_append_71 rfl (lv_at hl 2 rfl) ?_
  refine lv_aload_n hx hb dX0_append_72 rfl (lv_at hl 1 rfl) ?_
  refine va_get (D := (dC, dI)) (ci := 0) (v := .int (nI h)) (C := RX0) (T := TX0) (N := 10) hx hb hts hin0 hown hK hP 0 rfl rfl 1 (by decide) (hts (.fieldLink RX0 22 "ClauseSolver" "heads" "I") (by decide +kernel)) (fun _ h9 => h9) rfl dX0_append_73 ?_
  refine lv_ishr hx hb dX0_append_76 ?_
  refine cs_top (y := nI (yy / 2 ^ h)) (cs_shr (by omega) (by omega)) ?_
  refine lv_iload_n hx hb dX0_append_77 rfl (lv_at hl 3 rfl) ?_
  refine lv_aload_n hx hb dX0_append_78 rfl (lv_at hl 1 rfl) ?_
  refine va_get (D := (dC, dI)) (ci := 0) (v := .int (nI h)) (C := RX0) (T := TX0) (N := 10) hx hb hts hin0 hown hK hP 0 rfl rfl 1 (by decide) (hts (.fieldLink RX0 22 "ClauseSolver" "heads" "I") (by decide +kernel)) (fun _ h9 => h9) rfl dX0_append_79 ?_
  refine lv_ishr hx hb dX0_append_82 ?_
  refine cs_top (y := nI (zz / 2 ^ h)) (cs_shr (by omega) (by omega)) ?_
  refine vp_callSl (W.runS (As := [.int (nI (yy / 2 ^ h)), .int (nI (zz / 2 ^ h))]) (rest := [.int (nI c), .ref a4]) ⟨hx, hb, hml, hown, hts⟩ (c_tailsThatMeet l tt (cs_div64 hyy hNh) (cs_div64 hzz hNh)) (va_cwS 2 hts gX0_append_X0_tailsThatMeet rfl rfl rfl (by decide +kernel) ⟨Nat.le_of_ble_eq_true rfl, Nat.le_of_ble_eq_true rfl⟩) (rT_preS (hT.kept hS.2.1)) rfl rfl hl.1 rfl (lv_room (Nat.le_of_ble_eq_true rfl)) dX0_append_83 ⟨Nat.le_refl _, Nat.le_refl _⟩) (fun u9 hr0 => ?_)
  refine cs_last hx hb hK hP hD hS 4 3 rfl rfl (hc) (by decide) dX0_append_86 (fun H locs hP hD hS => ?_)
  have hP : va_P (dC, dI) vwCl (xC o a1 a2 a3 a4 c1 c2 c3 c4 (nI N) (nI h) (nI w) (nI y) (nI z) (nI c) (upd f1 c (nI (yy % 2 ^ h))) (upd f2 c (nI (zz % 2 ^ h))) (upd f3 c (nI δ)) (vp_updL f4 c u9)) H := hP
  have hD : va_D A (xC o a1 a2 a3 a4 c1 c2 c3 c4 (nI N) (nI h) (nI w) (nI y) (nI z) (nI c) (upd f1 c (nI (yy % 2 ^ h))) (upd f2 c (nI (zz % 2 ^ h))) (upd f3 c (nI δ)) (vp_updL f4 c u9)) := hD
  refine lv_aload_n hx hb dX0_append_87 rfl (lv_at hl 1 rfl) ?_
  refine lv_dup hx hb dX0_append_88 rfl ?_
  refine va_get (D := (dC, dI)) (ci := 0) (v := .int (nI c)) (C := RX0) (T := TX0) (N := 10) hx hb hts hin0 hown hK hP 0 rfl rfl 5 (by decide) (hts (.fieldLink RX0 67 "ClauseSolver" "clauses" "I") (by decide +kernel)) (fun _ h9 => h9) rfl dX0_append_89 ?_
  refine lv_iconst (v := nI 1) hx hb dX0_append_92 (by decide) ?_
  refine lv_iadd hx hb dX0_append_93 ?_
  refine cs_top (y := nI (c + 1)) (nI_add c 1) ?_
  refine va_put (D := (dC, dI)) (ci := 0) (v := .int (nI (c + 1))) (ty := .int) (C := RX0) (T := TX0) (N := 10) hx hb hts hin0 tyX0 tyX0_ok nmX0 hown hK hP hD hS 0 rfl rfl 5 (by decide) (hts (.fieldLink RX0 67 "ClauseSolver" "clauses" "I") (by decide +kernel)) (fun _ h9 => h9) rfl (by decide +kernel) rfl rfl (Nat.le_of_ble_eq_true rfl) dX0_append_94 (fun H locs hP hD hS => ?_)
  have hP : va_P (dC, dI) vwCl (xC o a1 a2 a3 a4 c1 c2 c3 c4 (nI N) (nI h) (nI w) (nI y) (nI z) (nI (c + 1)) (upd f1 c (nI (yy % 2 ^ h))) (upd f2 c (nI (zz % 2 ^ h))) (upd f3 c (nI δ)) (vp_updL f4 c u9)) H := hP
  have hD : va_D A (xC o a1 a2 a3 a4 c1 c2 c3 c4 (nI N) (nI h) (nI w) (nI y) (nI z) (nI (c + 1)) (upd f1 c (nI (yy % 2 ^ h))) (upd f2 c (nI (zz % 2 ^ h))) (upd f3 c (nI δ)) (vp_updL f4 c u9)) := hD
  refine lv_aload_n hx hb dX0_append_97 rfl (lv_at hl 1 rfl) ?_
  refine va_get (D := (dC, dI)) (ci := 0) (v := .int (nI (c + 1))) (C := RX0) (T := TX0) (N := 10) hx hb hts hin0 hown hK hP 0 rfl rfl 5 (by decide) (hts (.fieldLink RX0 67 "ClauseSolver" "clauses" "I") (by decide +kernel)) (fun _ h9 => h9) rfl dX0_append_98 ?_
  exact W.iret (v := nI (c + 1)) hx hb hr (fun t ht hW => ⟨⟨nI (c + 1), (δ, u9), rfl, ⟨rfl, hδ, dep_split hδb, fun t ht => by rw [Nat.shiftRight_eq_div_pow, Nat.shiftRight_eq_div_pow]; exact hr0 t ht⟩, by rw [ht]; exact hP, by rw [hAe]; exact hD⟩, hS.F ht⟩) hS.2.2 dX0_append_101
set_option maxHeartbeats 4000000 in
set_option maxRecDepth 100000 in
theorem c_clause_full (l : Launch) (dC : Nat → ClassId) (dI : Nat → Nat → Nat) (o a1 a2 a3 a4 : Nat) (c1 c2 c3 c4 : ClassId) (N h w y z c : Nat) (f1 f2 f3 : Nat → Int32) (f4 : Nat → Int64) (hc : c = 400) : Met l yX0_clause wsX0_clause ({ frames := 1, cells := 0, slots := 0, locals := 30 }) (va_Pc [.ref o] (rW (dC, dI) vwCl (xC o a1 a2 a3 a4 c1 c2 c3 c4 (nI N) (nI h) (nI w) (nI y) (nI z) (nI c) f1 f2 f3 f4) (xT c1 c2 c3 c4))) (vp_Si (fun r => r = -3)) 0 0 (fun _ => False) := by
  refine Met.ofW (cc := cX0_clause) (maxL := 2) (ret := some .int) (by decide) rfl ?_
  intro p e s m args below meth c0 s₁ B hml hv0
  obtain ⟨rfl, hP, hK⟩ := hv0
  have hx := B.exec
  have hb := B.bytes
  have hr := B.returns
  have hts := atoms_spec (ws := wsX0_clause) B.pre
  have hown : s.vm.findClass RX0 = some m.cls := findClass_of_methodNamed B.named
  have hlocks := B.notSynchronized
  have hP : va_P (dC, dI) vwCl (xC o a1 a2 a3 a4 c1 c2 c3 c4 (nI N) (nI h) (nI w) (nI y) (nI z) (nI c) f1 f2 f3 f4) s.heap := hP
  have hin0 : ∀ w ∈ u_ws RX0 TX0 10, w ∈ wsX0_clause := by decide +kernel
  have hl := lv_entry ([.ref o]) (n := 2) (Nat.le_of_ble_eq_true rfl)
  rw [lg_entry_eq]
  generalize (lg_sl ([.ref o]) ++ List.replicate (2 - (lg_sl ([.ref o])).length) Slot.unset).toArray = ls at hl ⊢
  have hl : lv_has ls 2 [(0, .ref o)] := hl
  refine lv_aload_n hx hb dX0_clause_0 rfl (lv_at hl 0 rfl) ?_
  refine lv_aload_n hx hb dX0_clause_1 rfl (lv_at hl 0 rfl) ?_
  refine va_get (D := (dC, dI)) (ci := 0) (v := .int (nI y)) (C := RX0) (T := TX0) (N := 10) hx hb hts hin0 hown hK hP 0 rfl rfl 3 (by decide) (hts (.fieldLink RX0 50 "ClauseSolver" "madeTrue" "I") (by decide +kernel)) (fun _ h9 => h9) rfl dX0_clause_2 ?_
  refine lv_aload_n hx hb dX0_clause_5 rfl (lv_at hl 0 rfl) ?_
  refine va_get (D := (dC, dI)) (ci := 0) (v := .int (nI z)) (C := RX0) (T := TX0) (N := 10) hx hb hts hin0 hown hK hP 0 rfl rfl 4 (by decide) (hts (.fieldLink RX0 53 "ClauseSolver" "madeFalse" "I") (by decide +kernel)) (fun _ h9 => h9) rfl dX0_clause_6 ?_
  refine vp_callSi (W.runV (As := [.int (nI y), .int (nI z)]) (rest := []) ⟨hx, hb, hml, hown, hts⟩ (c_append_full l dC dI o a1 a2 a3 a4 c1 c2 c3 c4 N h w y z c f1 f2 f3 f4 hc _ _) (cwV 2 hts gX0_clause_X0_append rfl rfl rfl (by decide +kernel) ⟨Nat.le_of_ble_eq_true rfl, Nat.le_of_ble_eq_true rfl⟩) (rW_preV hP hK (va_recv (q := (RX0, TX0, 10)) (q0 := 0) hK hP rfl rfl)) rfl rfl hl.1 rfl (lv_room (Nat.le_of_ble_eq_true rfl)) dX0_clause_9 ⟨Nat.le_refl _, Nat.le_refl _⟩) (fun r0 hr0 => ?_)
  subst hr0
  refine lv_istore_n hx hb dX0_clause_12 rfl hl (by decide) rfl (fun ls hl => ?_)
  have hl : lv_has ls 2 [(1, .int (-3)), (0, .ref o)] := hl
  refine lv_iload_n hx hb dX0_clause_13 rfl (lv_at hl 0 rfl) ?_
  refine lv_bipush (v := (-3)) hx hb dX0_clause_14 (by decide) ?_
  refine lv_icmp_eq hx hb dX0_clause_16 (tgt := 29) (by decide) (fun _ => ?_) (fun hq => absurd (rfl) hq)
  refine lv_iload_n hx hb dX0_clause_29 rfl (lv_at hl 0 rfl) ?_
  exact W.iret (v := (-3)) hx hb hr (fun t ht hW => ⟨(-3), rfl, rfl, ht⟩) (fun q h => by cases h) dX0_clause_30
set_option maxHeartbeats 4000000 in
set_option maxRecDepth 100000 in
theorem c_clause (l : Launch) (tt sz : Nat) (dC : Nat → ClassId) (dI : Nat → Nat → Nat) (o a1 a2 a3 a4 : Nat) (c1 c2 c3 c4 : ClassId) (N h w y z c : Nat) (f1 f2 f3 : Nat → Int32) (f4 : Nat → Int64) (hN : N ≤ 16) (hNh : h = N - 6) (hc : c < 400) (hy : y < 2 ^ N) (hz : z < 2 ^ N) : Met l yX0_clause wsX0_clause ({ frames := 3, cells := 0, slots := 0, locals := 100 }) (va_Pc [.ref o] (wX tt (xC o a1 a2 a3 a4 c1 c2 c3 c4 (nI N) (nI h) (nI w) (nI y) (nI z) (nI c) f1 f2 f3 f4) sz (wW (dC, dI) vwCl (xC o a1 a2 a3 a4 c1 c2 c3 c4 (nI N) (nI h) (nI w) (nI y) (nI z) (nI c) f1 f2 f3 f4) (xT c1 c2 c3 c4) sz))) (va_Qi (fun (r : Int32) (u : Nat × Int64) => r = nI (c + 1) ∧ u.1 ≤ h ∧ (∀ i, u.1 ≤ i → i < h → (y).testBit i = false ∧ (z).testBit i = false) ∧ ∀ t, t < 64 → (lb u.2 t = true ↔ Mt (y >>> h) (z >>> h) t)) (oW (dC, dI) vwCl (xC o a1 a2 a3 a4 c1 c2 c3 c4 (nI N) (nI h) (nI w) (nI y) (nI z) (nI c) f1 f2 f3 f4) sz (fun u : Nat × Int64 => (xC o a1 a2 a3 a4 c1 c2 c3 c4 (nI N) (nI h) (nI w) (nI 0) (nI 0) (nI (c + 1)) (upd f1 c (nI (y % 2 ^ h))) (upd f2 c (nI (z % 2 ^ h))) (upd f3 c (nI u.1)) (vp_updL f4 c u.2)))) (va_A (xC o a1 a2 a3 a4 c1 c2 c3 c4 (nI N) (nI h) (nI w) (nI y) (nI z) (nI c) f1 f2 f3 f4) sz)) 0 0 (va_A (xC o a1 a2 a3 a4 c1 c2 c3 c4 (nI N) (nI h) (nI w) (nI y) (nI z) (nI c) f1 f2 f3 f4) sz) := by
  refine Met.ofW (cc := cX0_clause) (maxL := 2) (ret := some .int) (by decide) rfl ?_
  intro p e s m args below meth c0 s₁ B hml hv0
  obtain ⟨rfl, ⟨hsz, hP, hK, hD0⟩, hT⟩ := hv0
  have hx := B.exec
  have hb := B.bytes
  have hr := B.returns
  have hts := atoms_spec (ws := wsX0_clause) B.pre
  have hown : s.vm.findClass RX0 = some m.cls := findClass_of_methodNamed B.named
  have hlocks := B.notSynchronized
  subst hsz
  have hD := hD0.self (sz := s.heap.size)
  generalize hAe : va_A (xC o a1 a2 a3 a4 c1 c2 c3 c4 (nI N) (nI h) (nI w) (nI y) (nI z) (nI c) f1 f2 f3 f4) s.heap.size = A at hD hT ⊢
  have hA : ∀ q : Nat, s.heap.size ≤ q → A q := fun q h => by rw [← hAe]; exact Or.inr h
  have hS : va_S A s.heap s.heap [] := va_S.rf
  have hP : va_P (dC, dI) vwCl (xC o a1 a2 a3 a4 c1 c2 c3 c4 (nI N) (nI h) (nI w) (nI y) (nI z) (nI c) f1 f2 f3 f4) s.heap := hP
  have hin0 : ∀ w ∈ u_ws RX0 TX0 10, w ∈ wsX0_clause := by decide +kernel
  have hl := lv_entry ([.ref o]) (n := 2) (Nat.le_of_ble_eq_true rfl)
  rw [lg_entry_eq]
  generalize (lg_sl ([.ref o]) ++ List.replicate (2 - (lg_sl ([.ref o])).length) Slot.unset).toArray = ls at hl ⊢
  have hl : lv_has ls 2 [(0, .ref o)] := hl
  refine lv_aload_n hx hb dX0_clause_0 rfl (lv_at hl 0 rfl) ?_
  refine lv_aload_n hx hb dX0_clause_1 rfl (lv_at hl 0 rfl) ?_
  refine va_get (D := (dC, dI)) (ci := 0) (v := .int (nI y)) (C := RX0) (T := TX0) (N := 10) hx hb hts hin0 hown hK hP 0 rfl rfl 3 (by decide) (hts (.fieldLink RX0 50 "ClauseSolver" "madeTrue" "I") (by decide +kernel)) (fun _ h9 => h9) rfl dX0_clause_2 ?_
  refine lv_aload_n hx hb dX0_clause_5 rfl (lv_at hl 0 rfl) ?_
  refine va_get (D := (dC, dI)) (ci := 0) (v := .int (nI z)) (C := RX0) (T := TX0) (N := 10) hx hb hts hin0 hown hK hP 0 rfl rfl 4 (by decide) (hts (.fieldLink RX0 53 "ClauseSolver" "madeFalse" "I") (by decide +kernel)) (fun _ h9 => h9) rfl dX0_clause_6 ?_
  refine cs_calli (wc := (xC o a1 a2 a3 a4 c1 c2 c3 c4 (nI N) (nI h) (nI w) (nI y) (nI z) (nI c) f1 f2 f3 f4)) (wr := []) (va_runV (As := [.int (nI y), .int (nI z)]) (rest := []) ⟨hx, hb, hml, hown, hts⟩ (c_append l tt s.heap.size dC dI o a1 a2 a3 a4 c1 c2 c3 c4 N h w y z c f1 f2 f3 f4 hN hNh hc hy hz) (cwV 2 hts gX0_clause_X0_append rfl rfl rfl (by decide +kernel) ⟨Nat.le_of_ble_eq_true rfl, Nat.le_of_ble_eq_true rfl⟩) (wT_preV hP hK hD ((hT.kept hS.2.1).narrow (va_free hD hS hA [0, 1, 2, 3, 4] rfl)) (va_recv (q := (RX0, TX0, 10)) (q0 := 0) hK hP rfl rfl)) rfl rfl hl.1 rfl (lv_room (Nat.le_of_ble_eq_true rfl)) dX0_clause_9 ⟨Nat.le_refl _, Nat.le_refl _⟩) hS hA hP hD [0, 1, 2, 3, 4] [] rfl rfl (by decide) (by decide) (fun r0 u H locs hr0 hP hD hS => ?_)
  have hP : va_P (dC, dI) vwCl (xC o a1 a2 a3 a4 c1 c2 c3 c4 (nI N) (nI h) (nI w) (nI y) (nI z) (nI (c + 1)) (upd f1 c (nI (y % 2 ^ h))) (upd f2 c (nI (z % 2 ^ h))) (upd f3 c (nI u.1)) (vp_updL f4 c u.2)) H := hP
  have hD : va_D A (xC o a1 a2 a3 a4 c1 c2 c3 c4 (nI N) (nI h) (nI w) (nI y) (nI z) (nI (c + 1)) (upd f1 c (nI (y % 2 ^ h))) (upd f2 c (nI (z % 2 ^ h))) (upd f3 c (nI u.1)) (vp_updL f4 c u.2)) := hD
  obtain ⟨rfl, hδ, hδb, hz9⟩ := hr0
  refine lv_istore_n hx hb dX0_clause_12 rfl hl (by decide) rfl (fun ls hl => ?_)
  have hl : lv_has ls 2 [(1, .int (nI (c + 1))), (0, .ref o)] := hl
  refine lv_iload_n hx hb dX0_clause_13 rfl (lv_at hl 0 rfl) ?_
  refine lv_bipush (v := (-3)) hx hb dX0_clause_14 (by decide) ?_
  refine lv_icmp_eq hx hb dX0_clause_16 (tgt := 29) (by decide) (fun hq => absurd hq (nI_m3 (by omega))) (fun _ => ?_)
  refine lv_aload_n hx hb dX0_clause_19 rfl (lv_at hl 1 rfl) ?_
  refine lv_iconst (v := nI 0) hx hb dX0_clause_20 (by decide) ?_
  refine va_put (D := (dC, dI)) (ci := 0) (v := .int (nI 0)) (ty := .int) (C := RX0) (T := TX0) (N := 10) hx hb hts hin0 tyX0 tyX0_ok nmX0 hown hK hP hD hS 0 rfl rfl 3 (by decide) (hts (.fieldLink RX0 50 "ClauseSolver" "madeTrue" "I") (by decide +kernel)) (fun _ h9 => h9) rfl (by decide +kernel) rfl rfl (Nat.le_of_ble_eq_true rfl) dX0_clause_21 (fun H locs hP hD hS => ?_)
  have hP : va_P (dC, dI) vwCl (xC o a1 a2 a3 a4 c1 c2 c3 c4 (nI N) (nI h) (nI w) (nI 0) (nI z) (nI (c + 1)) (upd f1 c (nI (y % 2 ^ h))) (upd f2 c (nI (z % 2 ^ h))) (upd f3 c (nI u.1)) (vp_updL f4 c u.2)) H := hP
  have hD : va_D A (xC o a1 a2 a3 a4 c1 c2 c3 c4 (nI N) (nI h) (nI w) (nI 0) (nI z) (nI (c + 1)) (upd f1 c (nI (y % 2 ^ h))) (upd f2 c (nI (z % 2 ^ h))) (upd f3 c (nI u.1)) (vp_updL f4 c u.2)) := hD
  refine lv_aload_n hx hb dX0_clause_24 rfl (lv_at hl 1 rfl) ?_
  refine lv_iconst (v := nI 0) hx hb dX0_clause_25 (by decide) ?_
  refine va_put (D := (dC, dI)) (ci := 0) (v := .int (nI 0)) (ty := .int) (C := RX0) (T := TX0) (N := 10) hx hb hts hin0 tyX0 tyX0_ok nmX0 hown hK hP hD hS 0 rfl rfl 4 (by decide) (hts (.fieldLink RX0 53 "ClauseSolver" "madeFalse" "I") (by decide +kernel)) (fun _ h9 => h9) rfl (by decide +kernel) rfl rfl (Nat.le_of_ble_eq_true rfl) dX0_clause_26 (fun H locs hP hD hS => ?_)
  have hP : va_P (dC, dI) vwCl (xC o a1 a2 a3 a4 c1 c2 c3 c4 (nI N) (nI h) (nI w) (nI 0) (nI 0) (nI (c + 1)) (upd f1 c (nI (y % 2 ^ h))) (upd f2 c (nI (z % 2 ^ h))) (upd f3 c (nI u.1)) (vp_updL f4 c u.2)) H := hP
  have hD : va_D A (xC o a1 a2 a3 a4 c1 c2 c3 c4 (nI N) (nI h) (nI w) (nI 0) (nI 0) (nI (c + 1)) (upd f1 c (nI (y % 2 ^ h))) (upd f2 c (nI (z % 2 ^ h))) (upd f3 c (nI u.1)) (vp_updL f4 c u.2)) := hD
  refine lv_iload_n hx hb dX0_clause_29 rfl (lv_at hl 0 rfl) ?_
  exact W.iret (v := nI (c + 1)) hx hb hr (fun t ht hW => ⟨⟨nI (c + 1), u, rfl, ⟨rfl, hδ, hδb, hz9⟩, by rw [ht]; exact hP, by rw [hAe]; exact hD⟩, hS.F ht⟩) hS.2.2 dX0_clause_30
set_option maxHeartbeats 4000000 in
set_option maxRecDepth 100000 in
theorem c_some_full (l : Launch) (dC : Nat → ClassId) (dI : Nat → Nat → Nat) (o a1 a2 a3 a4 : Nat) (c1 c2 c3 c4 : ClassId) (N h w y z c : Nat) (f1 f2 f3 : Nat → Int32) (f4 : Nat → Int64) (hN : N ≤ 16) (hc : c = 400) (x1 x2 : Int32) : Met l yX0_some wsX0_some ({ frames := 1, cells := 0, slots := 0, locals := 30 }) (va_Pc [.ref o, .int x1, .int x2] (rW (dC, dI) vwCl (xC o a1 a2 a3 a4 c1 c2 c3 c4 (nI N) (nI h) (nI w) (nI y) (nI z) (nI c) f1 f2 f3 f4) (xT c1 c2 c3 c4))) (vp_Si (fun r => r = -3)) 0 0 (fun _ => False) := by
  refine Met.ofW (cc := cX0_some) (maxL := 4) (ret := some .int) (by decide) rfl ?_
  intro p e s m args below meth c0 s₁ B hml hv0
  obtain ⟨rfl, hP, hK⟩ := hv0
  have hx := B.exec
  have hb := B.bytes
  have hr := B.returns
  have hts := atoms_spec (ws := wsX0_some) B.pre
  have hown : s.vm.findClass RX0 = some m.cls := findClass_of_methodNamed B.named
  have hlocks := B.notSynchronized
  have hP : va_P (dC, dI) vwCl (xC o a1 a2 a3 a4 c1 c2 c3 c4 (nI N) (nI h) (nI w) (nI y) (nI z) (nI c) f1 f2 f3 f4) s.heap := hP
  have hin0 : ∀ w ∈ u_ws RX0 TX0 10, w ∈ wsX0_some := by decide +kernel
  have hl := lv_entry ([.ref o, .int x1, .int x2]) (n := 4) (Nat.le_of_ble_eq_true rfl)
  rw [lg_entry_eq]
  generalize (lg_sl ([.ref o, .int x1, .int x2]) ++ List.replicate (4 - (lg_sl ([.ref o, .int x1, .int x2])).length) Slot.unset).toArray = ls at hl ⊢
  have hl : lv_has ls 4 [(0, .ref o), (1, .int x1), (2, .int x2)] := hl
  refine lv_aload_n hx hb dX0_some_0 rfl (lv_at hl 0 rfl) ?_
  refine va_get (D := (dC, dI)) (ci := 0) (v := .int (nI N)) (C := RX0) (T := TX0) (N := 10) hx hb hts hin0 hown hK hP 0 rfl rfl 0 (by decide) (hts (.fieldLink RX0 18 "ClauseSolver" "variables" "I") (by decide +kernel)) (fun _ h9 => h9) rfl dX0_some_1 ?_
  refine vp_callSi (W.runS (As := [.int (nI N)]) (rest := []) ⟨hx, hb, hml, hown, hts⟩ (c_lowBits l (by omega)) (va_cwS 1 hts gX0_some_X0_lowBits rfl rfl rfl (by decide +kernel) ⟨Nat.le_of_ble_eq_true rfl, Nat.le_of_ble_eq_true rfl⟩) (nW_preS) rfl rfl hl.1 rfl (lv_room (Nat.le_of_ble_eq_true rfl)) dX0_some_4 ⟨Nat.le_refl _, Nat.le_refl _⟩) (fun r0 hr0 => ?_)
  subst hr0
  refine lv_istore_n hx hb dX0_some_7 rfl hl (by decide) rfl (fun ls hl => ?_)
  have hl : lv_has ls 4 [(3, .int (nI (2 ^ N - 1))), (0, .ref o), (1, .int x1), (2, .int x2)] := hl
  refine lv_aload_n hx hb dX0_some_8 rfl (lv_at hl 1 rfl) ?_
  refine lv_iload_n hx hb dX0_some_9 rfl (lv_at hl 2 rfl) ?_
  refine lv_iload_n hx hb dX0_some_10 rfl (lv_at hl 0 rfl) ?_
  refine lv_iand hx hb dX0_some_11 ?_
  refine lv_iload_n hx hb dX0_some_12 rfl (lv_at hl 3 rfl) ?_
  refine lv_iload_n hx hb dX0_some_13 rfl (lv_at hl 0 rfl) ?_
  refine lv_iand hx hb dX0_some_14 ?_
  refine vp_callSi (W.runV (As := [.int (x1 &&& (nI (2 ^ N - 1))), .int (x2 &&& (nI (2 ^ N - 1)))]) (rest := []) ⟨hx, hb, hml, hown, hts⟩ (c_append_full l dC dI o a1 a2 a3 a4 c1 c2 c3 c4 N h w y z c f1 f2 f3 f4 hc _ _) (cwV 2 hts gX0_some_X0_append rfl rfl rfl (by decide +kernel) ⟨Nat.le_of_ble_eq_true rfl, Nat.le_of_ble_eq_true rfl⟩) (rW_preV hP hK (va_recv (q := (RX0, TX0, 10)) (q0 := 0) hK hP rfl rfl)) rfl rfl hl.1 rfl (lv_room (Nat.le_of_ble_eq_true rfl)) dX0_some_15 ⟨Nat.le_refl _, Nat.le_refl _⟩) (fun r0 hr0 => ?_)
  subst hr0
  exact W.iret (v := (-3)) hx hb hr (fun t ht hW => ⟨(-3), rfl, rfl, ht⟩) (fun q h => by cases h) dX0_some_18
set_option maxHeartbeats 4000000 in
set_option maxRecDepth 100000 in
theorem c_some (l : Launch) (tt sz : Nat) (dC : Nat → ClassId) (dI : Nat → Nat → Nat) (o a1 a2 a3 a4 : Nat) (c1 c2 c3 c4 : ClassId) (N h w y z c : Nat) (f1 f2 f3 : Nat → Int32) (f4 : Nat → Int64) (hN : N ≤ 16) (hNh : h = N - 6) (hc : c < 400) (x1 x2 : Int32) : Met l yX0_some wsX0_some ({ frames := 3, cells := 0, slots := 0, locals := 100 }) (va_Pc [.ref o, .int x1, .int x2] (wX tt (xC o a1 a2 a3 a4 c1 c2 c3 c4 (nI N) (nI h) (nI w) (nI y) (nI z) (nI c) f1 f2 f3 f4) sz (wW (dC, dI) vwCl (xC o a1 a2 a3 a4 c1 c2 c3 c4 (nI N) (nI h) (nI w) (nI y) (nI z) (nI c) f1 f2 f3 f4) (xT c1 c2 c3 c4) sz))) (va_Qi (fun (r : Int32) (u : Nat × Int64) => r = nI (c + 1) ∧ u.1 ≤ h ∧ (∀ i, u.1 ≤ i → i < h → (lo x1 N).testBit i = false ∧ (lo x2 N).testBit i = false) ∧ ∀ t, t < 64 → (lb u.2 t = true ↔ Mt ((lo x1 N) >>> h) (lo x2 N >>> h) t)) (oW (dC, dI) vwCl (xC o a1 a2 a3 a4 c1 c2 c3 c4 (nI N) (nI h) (nI w) (nI y) (nI z) (nI c) f1 f2 f3 f4) sz (fun u : Nat × Int64 => (xC o a1 a2 a3 a4 c1 c2 c3 c4 (nI N) (nI h) (nI w) (nI y) (nI z) (nI (c + 1)) (upd f1 c (nI (lo x1 N % 2 ^ h))) (upd f2 c (nI (lo x2 N % 2 ^ h))) (upd f3 c (nI u.1)) (vp_updL f4 c u.2)))) (va_A (xC o a1 a2 a3 a4 c1 c2 c3 c4 (nI N) (nI h) (nI w) (nI y) (nI z) (nI c) f1 f2 f3 f4) sz)) 0 0 (va_A (xC o a1 a2 a3 a4 c1 c2 c3 c4 (nI N) (nI h) (nI w) (nI y) (nI z) (nI c) f1 f2 f3 f4) sz) := by
  refine Met.ofW (cc := cX0_some) (maxL := 4) (ret := some .int) (by decide) rfl ?_
  intro p e s m args below meth c0 s₁ B hml hv0
  obtain ⟨rfl, ⟨hsz, hP, hK, hD0⟩, hT⟩ := hv0
  have hx := B.exec
  have hb := B.bytes
  have hr := B.returns
  have hts := atoms_spec (ws := wsX0_some) B.pre
  have hown : s.vm.findClass RX0 = some m.cls := findClass_of_methodNamed B.named
  have hlocks := B.notSynchronized
  subst hsz
  have hD := hD0.self (sz := s.heap.size)
  generalize hAe : va_A (xC o a1 a2 a3 a4 c1 c2 c3 c4 (nI N) (nI h) (nI w) (nI y) (nI z) (nI c) f1 f2 f3 f4) s.heap.size = A at hD hT ⊢
  have hA : ∀ q : Nat, s.heap.size ≤ q → A q := fun q h => by rw [← hAe]; exact Or.inr h
  have hS : va_S A s.heap s.heap [] := va_S.rf
  have hP : va_P (dC, dI) vwCl (xC o a1 a2 a3 a4 c1 c2 c3 c4 (nI N) (nI h) (nI w) (nI y) (nI z) (nI c) f1 f2 f3 f4) s.heap := hP
  have hin0 : ∀ w ∈ u_ws RX0 TX0 10, w ∈ wsX0_some := by decide +kernel
  have hl := lv_entry ([.ref o, .int x1, .int x2]) (n := 4) (Nat.le_of_ble_eq_true rfl)
  rw [lg_entry_eq]
  generalize (lg_sl ([.ref o, .int x1, .int x2]) ++ List.replicate (4 - (lg_sl ([.ref o, .int x1, .int x2])).length) Slot.unset).toArray = ls at hl ⊢
  have hl : lv_has ls 4 [(0, .ref o), (1, .int x1), (2, .int x2)] := hl
  refine lv_aload_n hx hb dX0_some_0 rfl (lv_at hl 0 rfl) ?_
  refine va_get (D := (dC, dI)) (ci := 0) (v := .int (nI N)) (C := RX0) (T := TX0) (N := 10) hx hb hts hin0 hown hK hP 0 rfl rfl 0 (by decide) (hts (.fieldLink RX0 18 "ClauseSolver" "variables" "I") (by decide +kernel)) (fun _ h9 => h9) rfl dX0_some_1 ?_
  refine vp_callSi (W.runS (As := [.int (nI N)]) (rest := []) ⟨hx, hb, hml, hown, hts⟩ (c_lowBits l (by omega)) (va_cwS 1 hts gX0_some_X0_lowBits rfl rfl rfl (by decide +kernel) ⟨Nat.le_of_ble_eq_true rfl, Nat.le_of_ble_eq_true rfl⟩) (nW_preS) rfl rfl hl.1 rfl (lv_room (Nat.le_of_ble_eq_true rfl)) dX0_some_4 ⟨Nat.le_refl _, Nat.le_refl _⟩) (fun r0 hr0 => ?_)
  subst hr0
  refine lv_istore_n hx hb dX0_some_7 rfl hl (by decide) rfl (fun ls hl => ?_)
  have hl : lv_has ls 4 [(3, .int (nI (2 ^ N - 1))), (0, .ref o), (1, .int x1), (2, .int x2)] := hl
  refine lv_aload_n hx hb dX0_some_8 rfl (lv_at hl 1 rfl) ?_
  refine lv_iload_n hx hb dX0_some_9 rfl (lv_at hl 2 rfl) ?_
  refine lv_iload_n hx hb dX0_some_10 rfl (lv_at hl 0 rfl) ?_
  refine lv_iand hx hb dX0_some_11 ?_
  refine cs_top (y := nI (lo x1 N)) (cs_mask x1 (by omega)) ?_
  refine lv_iload_n hx hb dX0_some_12 rfl (lv_at hl 3 rfl) ?_
  refine lv_iload_n hx hb dX0_some_13 rfl (lv_at hl 0 rfl) ?_
  refine lv_iand hx hb dX0_some_14 ?_
  refine cs_top (y := nI (lo x2 N)) (cs_mask x2 (by omega)) ?_
  refine cs_calli (wc := (xC o a1 a2 a3 a4 c1 c2 c3 c4 (nI N) (nI h) (nI w) (nI y) (nI z) (nI c) f1 f2 f3 f4)) (wr := []) (va_runV (As := [.int (nI (lo x1 N)), .int (nI (lo x2 N))]) (rest := []) ⟨hx, hb, hml, hown, hts⟩ (c_append l tt s.heap.size dC dI o a1 a2 a3 a4 c1 c2 c3 c4 N h w y z c f1 f2 f3 f4 hN hNh hc (lo_lt x1 N) (lo_lt x2 N)) (cwV 2 hts gX0_some_X0_append rfl rfl rfl (by decide +kernel) ⟨Nat.le_of_ble_eq_true rfl, Nat.le_of_ble_eq_true rfl⟩) (wT_preV hP hK hD ((hT.kept hS.2.1).narrow (va_free hD hS hA [0, 1, 2, 3, 4] rfl)) (va_recv (q := (RX0, TX0, 10)) (q0 := 0) hK hP rfl rfl)) rfl rfl hl.1 rfl (lv_room (Nat.le_of_ble_eq_true rfl)) dX0_some_15 ⟨Nat.le_refl _, Nat.le_refl _⟩) hS hA hP hD [0, 1, 2, 3, 4] [] rfl rfl (by decide) (by decide) (fun r0 u H locs hr0 hP hD hS => ?_)
  have hP : va_P (dC, dI) vwCl (xC o a1 a2 a3 a4 c1 c2 c3 c4 (nI N) (nI h) (nI w) (nI y) (nI z) (nI (c + 1)) (upd f1 c (nI (lo x1 N % 2 ^ h))) (upd f2 c (nI (lo x2 N % 2 ^ h))) (upd f3 c (nI u.1)) (vp_updL f4 c u.2)) H := hP
  have hD : va_D A (xC o a1 a2 a3 a4 c1 c2 c3 c4 (nI N) (nI h) (nI w) (nI y) (nI z) (nI (c + 1)) (upd f1 c (nI (lo x1 N % 2 ^ h))) (upd f2 c (nI (lo x2 N % 2 ^ h))) (upd f3 c (nI u.1)) (vp_updL f4 c u.2)) := hD
  obtain ⟨rfl, hδ, hδb, hz9⟩ := hr0
  exact W.iret (v := nI (c + 1)) hx hb hr (fun t ht hW => ⟨⟨nI (c + 1), u, rfl, ⟨rfl, hδ, hδb, hz9⟩, by rw [ht]; exact hP, by rw [hAe]; exact hD⟩, hS.F ht⟩) hS.2.2 dX0_some_18
set_option maxHeartbeats 4000000 in
set_option maxRecDepth 100000 in
theorem c_drop_out (l : Launch) (dC : Nat → ClassId) (dI : Nat → Nat → Nat) (o a1 a2 a3 a4 : Nat) (c1 c2 c3 c4 : ClassId) (N h w y z c : Nat) (f1 f2 f3 : Nat → Int32) (f4 : Nat → Int64) {v : Int32} (hv : v < 0 ∨ nI c ≤ v) : Met l yX0_drop wsX0_drop ({ frames := 0, cells := 0, slots := 0, locals := 0 }) (va_Pc [.ref o, .int v] (rW (dC, dI) vwCl (xC o a1 a2 a3 a4 c1 c2 c3 c4 (nI N) (nI h) (nI w) (nI y) (nI z) (nI c) f1 f2 f3 f4) (xT c1 c2 c3 c4))) (vp_Si (fun r => r = -2)) 0 0 (fun _ => False) := by
  refine Met.ofW (cc := cX0_drop) (maxL := 2) (ret := some .int) (by decide) rfl ?_
  intro p e s m args below meth c0 s₁ B hml hv0
  obtain ⟨rfl, hP, hK⟩ := hv0
  have hx := B.exec
  have hb := B.bytes
  have hr := B.returns
  have hts := atoms_spec (ws := wsX0_drop) B.pre
  have hown : s.vm.findClass RX0 = some m.cls := findClass_of_methodNamed B.named
  have hlocks := B.notSynchronized
  have hP : va_P (dC, dI) vwCl (xC o a1 a2 a3 a4 c1 c2 c3 c4 (nI N) (nI h) (nI w) (nI y) (nI z) (nI c) f1 f2 f3 f4) s.heap := hP
  have hin0 : ∀ w ∈ u_ws RX0 TX0 10, w ∈ wsX0_drop := by decide +kernel
  have hl := lv_entry ([.ref o, .int v]) (n := 2) (Nat.le_of_ble_eq_true rfl)
  rw [lg_entry_eq]
  generalize (lg_sl ([.ref o, .int v]) ++ List.replicate (2 - (lg_sl ([.ref o, .int v])).length) Slot.unset).toArray = ls at hl ⊢
  have hl : lv_has ls 2 [(0, .ref o), (1, .int v)] := hl
  refine lv_iload_n hx hb dX0_drop_0 rfl (lv_at hl 1 rfl) ?_
  by_cases h0 : v < 0
  · refine lv_if_lt hx hb dX0_drop_1 (tgt := 12) (by decide) (fun _ => ?_) (fun hq => absurd (h0) hq)
    refine lv_bipush (v := (-2)) hx hb dX0_drop_12 (by decide) ?_
    exact W.iret (v := (-2)) hx hb hr (fun t ht hW => ⟨(-2), rfl, rfl, ht⟩) (fun q h => by cases h) dX0_drop_14
  · refine lv_if_lt hx hb dX0_drop_1 (tgt := 12) (by decide) (fun hq => absurd hq (h0)) (fun _ => ?_)
    refine lv_iload_n hx hb dX0_drop_4 rfl (lv_at hl 1 rfl) ?_
    refine lv_aload_n hx hb dX0_drop_5 rfl (lv_at hl 0 rfl) ?_
    refine va_get (D := (dC, dI)) (ci := 0) (v := .int (nI c)) (C := RX0) (T := TX0) (N := 10) hx hb hts hin0 hown hK hP 0 rfl rfl 5 (by decide) (hts (.fieldLink RX0 67 "ClauseSolver" "clauses" "I") (by decide +kernel)) (fun _ h9 => h9) rfl dX0_drop_6 ?_
    refine lv_icmp_lt hx hb dX0_drop_9 (tgt := 15) (by decide) (fun hq => absurd hq (Int32.not_lt.mpr (hv.resolve_left h0))) (fun _ => ?_)
    refine lv_bipush (v := (-2)) hx hb dX0_drop_12 (by decide) ?_
    exact W.iret (v := (-2)) hx hb hr (fun t ht hW => ⟨(-2), rfl, rfl, ht⟩) (fun q h => by cases h) dX0_drop_14
set_option maxHeartbeats 4000000 in
set_option maxRecDepth 100000 in
theorem c_drop (l : Launch) (sz : Nat) (dC : Nat → ClassId) (dI : Nat → Nat → Nat) (o a1 a2 a3 a4 : Nat) (c1 c2 c3 c4 : ClassId) (N h w y z c : Nat) (f1 f2 f3 : Nat → Int32) (f4 : Nat → Int64) (hc : c < 400) {j : Nat} (hj : j < c + 1) : Met l yX0_drop wsX0_drop ({ frames := 0, cells := 0, slots := 0, locals := 0 }) (va_Pc [.ref o, .int (nI j)] (wW (dC, dI) vwCl (xC o a1 a2 a3 a4 c1 c2 c3 c4 (nI N) (nI h) (nI w) (nI y) (nI z) (nI (c + 1)) f1 f2 f3 f4) (xT c1 c2 c3 c4) sz)) (va_Qi (fun (r : Int32) (u : Unit) => r = nI c) (oW (dC, dI) vwCl (xC o a1 a2 a3 a4 c1 c2 c3 c4 (nI N) (nI h) (nI w) (nI y) (nI z) (nI (c + 1)) f1 f2 f3 f4) sz (fun u : Unit => (xC o a1 a2 a3 a4 c1 c2 c3 c4 (nI N) (nI h) (nI w) (nI y) (nI z) (nI c) (upd f1 j (f1 c)) (upd f2 j (f2 c)) (upd f3 j (f3 c)) (vp_updL f4 j (f4 c))))) (va_A (xC o a1 a2 a3 a4 c1 c2 c3 c4 (nI N) (nI h) (nI w) (nI y) (nI z) (nI (c + 1)) f1 f2 f3 f4) sz)) 0 0 (va_A (xC o a1 a2 a3 a4 c1 c2 c3 c4 (nI N) (nI h) (nI w) (nI y) (nI z) (nI (c + 1)) f1 f2 f3 f4) sz) := by
  refine Met.ofW (cc := cX0_drop) (maxL := 2) (ret := some .int) (by decide) rfl ?_
  intro p e s m args below meth c0 s₁ B hml hv0
  obtain ⟨rfl, hsz, hP, hK, hD0⟩ := hv0
  have hx := B.exec
  have hb := B.bytes
  have hr := B.returns
  have hts := atoms_spec (ws := wsX0_drop) B.pre
  have hown : s.vm.findClass RX0 = some m.cls := findClass_of_methodNamed B.named
  have hlocks := B.notSynchronized
  subst hsz
  have hD := hD0.self (sz := s.heap.size)
  generalize hAe : va_A (xC o a1 a2 a3 a4 c1 c2 c3 c4 (nI N) (nI h) (nI w) (nI y) (nI z) (nI (c + 1)) f1 f2 f3 f4) s.heap.size = A at hD ⊢
  have hA : ∀ q : Nat, s.heap.size ≤ q → A q := fun q h => by rw [← hAe]; exact Or.inr h
  have hS : va_S A s.heap s.heap [] := va_S.rf
  have hP : va_P (dC, dI) vwCl (xC o a1 a2 a3 a4 c1 c2 c3 c4 (nI N) (nI h) (nI w) (nI y) (nI z) (nI (c + 1)) f1 f2 f3 f4) s.heap := hP
  have hin0 : ∀ w ∈ u_ws RX0 TX0 10, w ∈ wsX0_drop := by decide +kernel
  have hl := lv_entry ([.ref o, .int (nI j)]) (n := 2) (Nat.le_of_ble_eq_true rfl)
  rw [lg_entry_eq]
  generalize (lg_sl ([.ref o, .int (nI j)]) ++ List.replicate (2 - (lg_sl ([.ref o, .int (nI j)])).length) Slot.unset).toArray = ls at hl ⊢
  have hl : lv_has ls 2 [(0, .ref o), (1, .int (nI j))] := hl
  refine lv_iload_n hx hb dX0_drop_0 rfl (lv_at hl 1 rfl) ?_
  refine lv_if_lt hx hb dX0_drop_1 (tgt := 12) (by decide) (fun hq => absurd hq (nI_pos (by omega))) (fun _ => ?_)
  refine lv_iload_n hx hb dX0_drop_4 rfl (lv_at hl 1 rfl) ?_
  refine lv_aload_n hx hb dX0_drop_5 rfl (lv_at hl 0 rfl) ?_
  refine va_get (D := (dC, dI)) (ci := 0) (v := .int (nI (c + 1))) (C := RX0) (T := TX0) (N := 10) hx hb hts hin0 hown hK hP 0 rfl rfl 5 (by decide) (hts (.fieldLink RX0 67 "ClauseSolver" "clauses" "I") (by decide +kernel)) (fun _ h9 => h9) rfl dX0_drop_6 ?_
  refine lv_icmp_lt hx hb dX0_drop_9 (tgt := 15) (by decide) (fun _ => ?_) (fun hq => absurd (nI_lt hj (by omega)) hq)
  refine lv_aload_n hx hb dX0_drop_15 rfl (lv_at hl 0 rfl) ?_
  refine lv_dup hx hb dX0_drop_16 rfl ?_
  refine va_get (D := (dC, dI)) (ci := 0) (v := .int (nI (c + 1))) (C := RX0) (T := TX0) (N := 10) hx hb hts hin0 hown hK hP 0 rfl rfl 5 (by decide) (hts (.fieldLink RX0 67 "ClauseSolver" "clauses" "I") (by decide +kernel)) (fun _ h9 => h9) rfl dX0_drop_17 ?_
  refine lv_iconst (v := nI 1) hx hb dX0_drop_20 (by decide) ?_
  refine lv_isub hx hb dX0_drop_21 ?_
  refine cs_top (y := nI c) (pk_sub (by omega)) ?_
  refine va_put (D := (dC, dI)) (ci := 0) (v := .int (nI c)) (ty := .int) (C := RX0) (T := TX0) (N := 10) hx hb hts hin0 tyX0 tyX0_ok nmX0 hown hK hP hD hS 0 rfl rfl 5 (by decide) (hts (.fieldLink RX0 67 "ClauseSolver" "clauses" "I") (by decide +kernel)) (fun _ h9 => h9) rfl (by decide +kernel) rfl rfl (Nat.le_of_ble_eq_true rfl) dX0_drop_22 (fun H locs hP hD hS => ?_)
  have hP : va_P (dC, dI) vwCl (xC o a1 a2 a3 a4 c1 c2 c3 c4 (nI N) (nI h) (nI w) (nI y) (nI z) (nI c) f1 f2 f3 f4) H := hP
  have hD : va_D A (xC o a1 a2 a3 a4 c1 c2 c3 c4 (nI N) (nI h) (nI w) (nI y) (nI z) (nI c) f1 f2 f3 f4) := hD
  refine lv_aload_n hx hb dX0_drop_25 rfl (lv_at hl 0 rfl) ?_
  refine va_get (D := (dC, dI)) (ci := 0) (v := .ref a1) (C := RX0) (T := TX0) (N := 10) hx hb hts hin0 hown hK hP 0 rfl rfl 6 (by decide) (hts (.fieldLink RX0 25 "ClauseSolver" "headTrue" "[I") (by decide +kernel)) (fun _ h9 => h9) rfl dX0_drop_26 ?_
  refine lv_iload_n hx hb dX0_drop_29 rfl (lv_at hl 1 rfl) ?_
  refine lv_aload_n hx hb dX0_drop_30 rfl (lv_at hl 0 rfl) ?_
  refine va_get (D := (dC, dI)) (ci := 0) (v := .ref a1) (C := RX0) (T := TX0) (N := 10) hx hb hts hin0 hown hK hP 0 rfl rfl 6 (by decide) (hts (.fieldLink RX0 25 "ClauseSolver" "headTrue" "[I") (by decide +kernel)) (fun _ h9 => h9) rfl dX0_drop_31 ?_
  refine lv_aload_n hx hb dX0_drop_34 rfl (lv_at hl 0 rfl) ?_
  refine va_get (D := (dC, dI)) (ci := 0) (v := .int (nI c)) (C := RX0) (T := TX0) (N := 10) hx hb hts hin0 hown hK hP 0 rfl rfl 5 (by decide) (hts (.fieldLink RX0 67 "ClauseSolver" "clauses" "I") (by decide +kernel)) (fun _ h9 => h9) rfl dX0_drop_35 ?_
  refine cs_iald hx hb hK hP 1 0 rfl rfl (hc) (by decide) dX0_drop_38 ?_
  refine cs_iast hx hb hK hP hD hS 1 0 rfl rfl (by omega) (by decide) dX0_drop_39 (fun H locs hP hD hS => ?_)
  have hP : va_P (dC, dI) vwCl (xC o a1 a2 a3 a4 c1 c2 c3 c4 (nI N) (nI h) (nI w) (nI y) (nI z) (nI c) (upd f1 j (f1 c)) f2 f3 f4) H := hP
  have hD : va_D A (xC o a1 a2 a3 a4 c1 c2 c3 c4 (nI N) (nI h) (nI w) (nI y) (nI z) (nI c) (upd f1 j (f1 c)) f2 f3 f4) := hD
  refine lv_aload_n hx hb dX0_drop_40 rfl (lv_at hl 0 rfl) ?_
  refine va_get (D := (dC, dI)) (ci := 0) (v := .ref a2) (C := RX0) (T := TX0) (N := 10) hx hb hts hin0 hown hK hP 0 rfl rfl 7 (by decide) (hts (.fieldLink RX0 29 "ClauseSolver" "headFalse" "[I") (by decide +kernel)) (fun _ h9 => h9) rfl dX0_drop_41 ?_
  refine lv_iload_n hx hb dX0_drop_44 rfl (lv_at hl 1 rfl) ?_
  refine lv_aload_n hx hb dX0_drop_45 rfl (lv_at hl 0 rfl) ?_
  refine va_get (D := (dC, dI)) (ci := 0) (v := .ref a2) (C := RX0) (T := TX0) (N := 10) hx hb hts hin0 hown hK hP 0 rfl rfl 7 (by decide) (hts (.fieldLink RX0 29 "ClauseSolver" "headFalse" "[I") (by decide +kernel)) (fun _ h9 => h9) rfl dX0_drop_46 ?_
  refine lv_aload_n hx hb dX0_drop_49 rfl (lv_at hl 0 rfl) ?_
  refine va_get (D := (dC, dI)) (ci := 0) (v := .int (nI c)) (C := RX0) (T := TX0) (N := 10) hx hb hts hin0 hown hK hP 0 rfl rfl 5 (by decide) (hts (.fieldLink RX0 67 "ClauseSolver" "clauses" "I") (by decide +kernel)) (fun _ h9 => h9) rfl dX0_drop_50 ?_
  refine cs_iald hx hb hK hP 2 1 rfl rfl (hc) (by decide) dX0_drop_53 ?_
  refine cs_iast hx hb hK hP hD hS 2 1 rfl rfl (by omega) (by decide) dX0_drop_54 (fun H locs hP hD hS => ?_)
  have hP : va_P (dC, dI) vwCl (xC o a1 a2 a3 a4 c1 c2 c3 c4 (nI N) (nI h) (nI w) (nI y) (nI z) (nI c) (upd f1 j (f1 c)) (upd f2 j (f2 c)) f3 f4) H := hP
  have hD : va_D A (xC o a1 a2 a3 a4 c1 c2 c3 c4 (nI N) (nI h) (nI w) (nI y) (nI z) (nI c) (upd f1 j (f1 c)) (upd f2 j (f2 c)) f3 f4) := hD
  refine lv_aload_n hx hb dX0_drop_55 rfl (lv_at hl 0 rfl) ?_
  refine va_get (D := (dC, dI)) (ci := 0) (v := .ref a3) (C := RX0) (T := TX0) (N := 10) hx hb hts hin0 hown hK hP 0 rfl rfl 8 (by decide) (hts (.fieldLink RX0 32 "ClauseSolver" "depths" "[I") (by decide +kernel)) (fun _ h9 => h9) rfl dX0_drop_56 ?_
  refine lv_iload_n hx hb dX0_drop_59 rfl (lv_at hl 1 rfl) ?_
  refine lv_aload_n hx hb dX0_drop_60 rfl (lv_at hl 0 rfl) ?_
  refine va_get (D := (dC, dI)) (ci := 0) (v := .ref a3) (C := RX0) (T := TX0) (N := 10) hx hb hts hin0 hown hK hP 0 rfl rfl 8 (by decide) (hts (.fieldLink RX0 32 "ClauseSolver" "depths" "[I") (by decide +kernel)) (fun _ h9 => h9) rfl dX0_drop_61 ?_
  refine lv_aload_n hx hb dX0_drop_64 rfl (lv_at hl 0 rfl) ?_
  refine va_get (D := (dC, dI)) (ci := 0) (v := .int (nI c)) (C := RX0) (T := TX0) (N := 10) hx hb hts hin0 hown hK hP 0 rfl rfl 5 (by decide) (hts (.fieldLink RX0 67 "ClauseSolver" "clauses" "I") (by decide +kernel)) (fun _ h9 => h9) rfl dX0_drop_65 ?_
  refine cs_iald hx hb hK hP 3 2 rfl rfl (hc) (by decide) dX0_drop_68 ?_
  refine cs_iast hx hb hK hP hD hS 3 2 rfl rfl (by omega) (by decide) dX0_drop_69 (fun H locs hP hD hS => ?_)
  have hP : va_P (dC, dI) vwCl (xC o a1 a2 a3 a4 c1 c2 c3 c4 (nI N) (nI h) (nI w) (nI y) (nI z) (nI c) (upd f1 j (f1 c)) (upd f2 j (f2 c)) (upd f3 j (f3 c)) f4) H := hP
  have hD : va_D A (xC o a1 a2 a3 a4 c1 c2 c3 c4 (nI N) (nI h) (nI w) (nI y) (nI z) (nI c) (upd f1 j (f1 c)) (upd f2 j (f2 c)) (upd f3 j (f3 c)) f4) := hD
  refine lv_aload_n hx hb dX0_drop_70 rfl (lv_at hl 0 rfl) ?_
  refine va_get (D := (dC, dI)) (ci := 0) (v := .ref a4) (C := RX0) (T := TX0) (N := 10) hx hb hts hin0 hown hK hP 0 rfl rfl 9 (by decide) (hts (.fieldLink RX0 35 "ClauseSolver" "tails" "[J") (by decide +kernel)) (fun _ h9 => h9) rfl dX0_drop_71 ?_
  refine lv_iload_n hx hb dX0_drop_74 rfl (lv_at hl 1 rfl) ?_
  refine lv_aload_n hx hb dX0_drop_75 rfl (lv_at hl 0 rfl) ?_
  refine va_get (D := (dC, dI)) (ci := 0) (v := .ref a4) (C := RX0) (T := TX0) (N := 10) hx hb hts hin0 hown hK hP 0 rfl rfl 9 (by decide) (hts (.fieldLink RX0 35 "ClauseSolver" "tails" "[J") (by decide +kernel)) (fun _ h9 => h9) rfl dX0_drop_76 ?_
  refine lv_aload_n hx hb dX0_drop_79 rfl (lv_at hl 0 rfl) ?_
  refine va_get (D := (dC, dI)) (ci := 0) (v := .int (nI c)) (C := RX0) (T := TX0) (N := 10) hx hb hts hin0 hown hK hP 0 rfl rfl 5 (by decide) (hts (.fieldLink RX0 67 "ClauseSolver" "clauses" "I") (by decide +kernel)) (fun _ h9 => h9) rfl dX0_drop_80 ?_
  refine cs_lald hx hb hK hP 4 3 rfl rfl (hc) (by decide) dX0_drop_83 ?_
  refine cs_last hx hb hK hP hD hS 4 3 rfl rfl (by omega) (by decide) dX0_drop_84 (fun H locs hP hD hS => ?_)
  have hP : va_P (dC, dI) vwCl (xC o a1 a2 a3 a4 c1 c2 c3 c4 (nI N) (nI h) (nI w) (nI y) (nI z) (nI c) (upd f1 j (f1 c)) (upd f2 j (f2 c)) (upd f3 j (f3 c)) (vp_updL f4 j (f4 c))) H := hP
  have hD : va_D A (xC o a1 a2 a3 a4 c1 c2 c3 c4 (nI N) (nI h) (nI w) (nI y) (nI z) (nI c) (upd f1 j (f1 c)) (upd f2 j (f2 c)) (upd f3 j (f3 c)) (vp_updL f4 j (f4 c))) := hD
  refine lv_aload_n hx hb dX0_drop_85 rfl (lv_at hl 0 rfl) ?_
  refine va_get (D := (dC, dI)) (ci := 0) (v := .int (nI c)) (C := RX0) (T := TX0) (N := 10) hx hb hts hin0 hown hK hP 0 rfl rfl 5 (by decide) (hts (.fieldLink RX0 67 "ClauseSolver" "clauses" "I") (by decide +kernel)) (fun _ h9 => h9) rfl dX0_drop_86 ?_
  exact W.iret (v := nI c) hx hb hr (fun t ht hW => ⟨⟨nI c, (), rfl, rfl, by rw [ht]; exact hP, by rw [hAe]; exact hD⟩, hS.F ht⟩) hS.2.2 dX0_drop_89
set_option maxHeartbeats 4000000 in
set_option maxRecDepth 100000 in
theorem c_wish_out (l : Launch) (dC : Nat → ClassId) (dI : Nat → Nat → Nat) (o a1 a2 a3 a4 : Nat) (c1 c2 c3 c4 : ClassId) (N h w y z c : Nat) (f1 f2 f3 : Nat → Int32) (f4 : Nat → Int64) {v : Int32} (hv : v < 0 ∨ nI N ≤ v) (x2 : Int32) : Met l yX0_wish wsX0_wish ({ frames := 1, cells := 0, slots := 0, locals := 30 }) (va_Pc [.ref o, .int v, .int x2] (rW (dC, dI) vwCl (xC o a1 a2 a3 a4 c1 c2 c3 c4 (nI N) (nI h) (nI w) (nI y) (nI z) (nI c) f1 f2 f3 f4) (xT c1 c2 c3 c4))) (vp_Si (fun r => r = nI 0)) 0 0 (fun _ => False) := by
  refine Met.ofW (cc := cX0_wish) (maxL := 4) (ret := some .boolean) (by decide) rfl ?_
  intro p e s m args below meth c0 s₁ B hml hv0
  obtain ⟨rfl, hP, hK⟩ := hv0
  have hx := B.exec
  have hb := B.bytes
  have hr := B.returns
  have hts := atoms_spec (ws := wsX0_wish) B.pre
  have hown : s.vm.findClass RX0 = some m.cls := findClass_of_methodNamed B.named
  have hlocks := B.notSynchronized
  have hP : va_P (dC, dI) vwCl (xC o a1 a2 a3 a4 c1 c2 c3 c4 (nI N) (nI h) (nI w) (nI y) (nI z) (nI c) f1 f2 f3 f4) s.heap := hP
  have hin0 : ∀ w ∈ u_ws RX0 TX0 10, w ∈ wsX0_wish := by decide +kernel
  have hl := lv_entry ([.ref o, .int v, .int x2]) (n := 4) (Nat.le_of_ble_eq_true rfl)
  rw [lg_entry_eq]
  generalize (lg_sl ([.ref o, .int v, .int x2]) ++ List.replicate (4 - (lg_sl ([.ref o, .int v, .int x2])).length) Slot.unset).toArray = ls at hl ⊢
  have hl : lv_has ls 4 [(0, .ref o), (1, .int v), (2, .int x2)] := hl
  refine lv_aload_n hx hb dX0_wish_0 rfl (lv_at hl 0 rfl) ?_
  refine lv_iload_n hx hb dX0_wish_1 rfl (lv_at hl 1 rfl) ?_
  refine vp_callSi (W.runV (As := [.int v]) (rest := []) ⟨hx, hb, hml, hown, hts⟩ (c_isVariable_out l dC dI o a1 a2 a3 a4 c1 c2 c3 c4 N h w y z c f1 f2 f3 f4 hv) (cwV 1 hts gX0_wish_X0_isVariable rfl rfl rfl (by decide +kernel) ⟨Nat.le_of_ble_eq_true rfl, Nat.le_of_ble_eq_true rfl⟩) (rW_preV hP hK (va_recv (q := (RX0, TX0, 10)) (q0 := 0) hK hP rfl rfl)) rfl rfl hl.1 rfl (lv_room (Nat.le_of_ble_eq_true rfl)) dX0_wish_2 ⟨Nat.le_refl _, Nat.le_refl _⟩) (fun r0 hr0 => ?_)
  subst hr0
  refine lv_if_ne hx hb dX0_wish_5 (tgt := 10) (by decide) (fun hq => absurd (nI_0) hq) (fun _ => ?_)
  refine lv_iconst (v := nI 0) hx hb dX0_wish_8 (by decide) ?_
  exact W.zret (ty := .boolean) (v := nI 0) hx hb hr (by first | rfl | decide) (fun t ht hW => ⟨nI 0, rfl, rfl, ht⟩) (fun q h => by cases h) dX0_wish_9
set_option maxHeartbeats 4000000 in
set_option maxRecDepth 100000 in
theorem c_wish (l : Launch) (sz : Nat) (dC : Nat → ClassId) (dI : Nat → Nat → Nat) (o a1 a2 a3 a4 : Nat) (c1 c2 c3 c4 : ClassId) (N h w y z c : Nat) (f1 f2 f3 : Nat → Int32) (f4 : Nat → Int64) (hN : N ≤ 16) (hw : w < 2 ^ N) {j : Nat} (hj : j < N) (b : Bool) : Met l yX0_wish wsX0_wish ({ frames := 1, cells := 0, slots := 0, locals := 30 }) (va_Pc [.ref o, .int (nI j), .int (bI b)] (wW (dC, dI) vwCl (xC o a1 a2 a3 a4 c1 c2 c3 c4 (nI N) (nI h) (nI w) (nI y) (nI z) (nI c) f1 f2 f3 f4) (xT c1 c2 c3 c4) sz)) (va_Qi (fun (r : Int32) (u : Unit) => r = bI (w.testBit j)) (oW (dC, dI) vwCl (xC o a1 a2 a3 a4 c1 c2 c3 c4 (nI N) (nI h) (nI w) (nI y) (nI z) (nI c) f1 f2 f3 f4) sz (fun u : Unit => (xC o a1 a2 a3 a4 c1 c2 c3 c4 (nI N) (nI h) (nI (wsh w j b)) (nI y) (nI z) (nI c) f1 f2 f3 f4))) (va_A (xC o a1 a2 a3 a4 c1 c2 c3 c4 (nI N) (nI h) (nI w) (nI y) (nI z) (nI c) f1 f2 f3 f4) sz)) 0 0 (va_A (xC o a1 a2 a3 a4 c1 c2 c3 c4 (nI N) (nI h) (nI w) (nI y) (nI z) (nI c) f1 f2 f3 f4) sz) := by
  refine Met.ofW (cc := cX0_wish) (maxL := 4) (ret := some .boolean) (by decide) rfl ?_
  intro p e s m args below meth c0 s₁ B hml hv0
  obtain ⟨rfl, hsz, hP, hK, hD0⟩ := hv0
  have hx := B.exec
  have hb := B.bytes
  have hr := B.returns
  have hts := atoms_spec (ws := wsX0_wish) B.pre
  have hown : s.vm.findClass RX0 = some m.cls := findClass_of_methodNamed B.named
  have hlocks := B.notSynchronized
  subst hsz
  have hD := hD0.self (sz := s.heap.size)
  generalize hAe : va_A (xC o a1 a2 a3 a4 c1 c2 c3 c4 (nI N) (nI h) (nI w) (nI y) (nI z) (nI c) f1 f2 f3 f4) s.heap.size = A at hD ⊢
  have hA : ∀ q : Nat, s.heap.size ≤ q → A q := fun q h => by rw [← hAe]; exact Or.inr h
  have hS : va_S A s.heap s.heap [] := va_S.rf
  have hP : va_P (dC, dI) vwCl (xC o a1 a2 a3 a4 c1 c2 c3 c4 (nI N) (nI h) (nI w) (nI y) (nI z) (nI c) f1 f2 f3 f4) s.heap := hP
  have hin0 : ∀ w ∈ u_ws RX0 TX0 10, w ∈ wsX0_wish := by decide +kernel
  have hl := lv_entry ([.ref o, .int (nI j), .int (bI b)]) (n := 4) (Nat.le_of_ble_eq_true rfl)
  rw [lg_entry_eq]
  generalize (lg_sl ([.ref o, .int (nI j), .int (bI b)]) ++ List.replicate (4 - (lg_sl ([.ref o, .int (nI j), .int (bI b)])).length) Slot.unset).toArray = ls at hl ⊢
  have hl : lv_has ls 4 [(0, .ref o), (1, .int (nI j)), (2, .int (bI b))] := hl
  have hw5 := cs_N31 hN hw
  refine lv_aload_n hx hb dX0_wish_0 rfl (lv_at hl 0 rfl) ?_
  refine lv_iload_n hx hb dX0_wish_1 rfl (lv_at hl 1 rfl) ?_
  refine vp_callSi (W.runV (As := [.int (nI j)]) (rest := []) ⟨hx, hb, hml, hown, hts⟩ (c_isVariable_in l dC dI o a1 a2 a3 a4 c1 c2 c3 c4 N h w y z c f1 f2 f3 f4 hN hj) (cwV 1 hts gX0_wish_X0_isVariable rfl rfl rfl (by decide +kernel) ⟨Nat.le_of_ble_eq_true rfl, Nat.le_of_ble_eq_true rfl⟩) (rW_preV hP hK (va_recv (q := (RX0, TX0, 10)) (q0 := 0) hK hP rfl rfl)) rfl rfl hl.1 rfl (lv_room (Nat.le_of_ble_eq_true rfl)) dX0_wish_2 ⟨Nat.le_refl _, Nat.le_refl _⟩) (fun r0 hr0 => ?_)
  subst hr0
  refine lv_if_ne hx hb dX0_wish_5 (tgt := 10) (by decide) (fun _ => ?_) (fun hq => absurd hq (by decide))
  refine lv_aload_n hx hb dX0_wish_10 rfl (lv_at hl 0 rfl) ?_
  refine va_get (D := (dC, dI)) (ci := 0) (v := .int (nI w)) (C := RX0) (T := TX0) (N := 10) hx hb hts hin0 hown hK hP 0 rfl rfl 2 (by decide) (hts (.fieldLink RX0 43 "ClauseSolver" "wishes" "I") (by decide +kernel)) (fun _ h9 => h9) rfl dX0_wish_11 ?_
  refine lv_iload_n hx hb dX0_wish_14 rfl (lv_at hl 1 rfl) ?_
  refine vp_callSi (W.runS (As := [.int (nI w), .int (nI j)]) (rest := []) ⟨hx, hb, hml, hown, hts⟩ (c_has l (by omega) (by omega)) (va_cwS 2 hts gX0_wish_X0_has rfl rfl rfl (by decide +kernel) ⟨Nat.le_of_ble_eq_true rfl, Nat.le_of_ble_eq_true rfl⟩) (nW_preS) rfl rfl hl.1 rfl (lv_room (Nat.le_of_ble_eq_true rfl)) dX0_wish_15 ⟨Nat.le_refl _, Nat.le_refl _⟩) (fun r0 hr0 => ?_)
  subst hr0
  refine lv_istore_n hx hb dX0_wish_18 rfl hl (by decide) rfl (fun ls hl => ?_)
  have hl : lv_has ls 4 [(3, .int (bI (w.testBit j))), (0, .ref o), (1, .int (nI j)), (2, .int (bI b))] := hl
  refine lv_aload_n hx hb dX0_wish_19 rfl (lv_at hl 1 rfl) ?_
  refine lv_iload_n hx hb dX0_wish_20 rfl (lv_at hl 3 rfl) ?_
  cases b with
  | true =>
    refine lv_if_eq hx hb dX0_wish_21 (tgt := 35) (by decide) (fun hq => absurd hq (by decide)) (fun _ => ?_)
    refine lv_aload_n hx hb dX0_wish_24 rfl (lv_at hl 1 rfl) ?_
    refine va_get (D := (dC, dI)) (ci := 0) (v := .int (nI w)) (C := RX0) (T := TX0) (N := 10) hx hb hts hin0 hown hK hP 0 rfl rfl 2 (by decide) (hts (.fieldLink RX0 43 "ClauseSolver" "wishes" "I") (by decide +kernel)) (fun _ h9 => h9) rfl dX0_wish_25 ?_
    refine lv_iconst (v := nI 1) hx hb dX0_wish_28 (by decide) ?_
    refine lv_iload_n hx hb dX0_wish_29 rfl (lv_at hl 2 rfl) ?_
    refine lv_ishl hx hb dX0_wish_30 ?_
    refine cs_top (y := nI (2 ^ j)) (cs_one (by omega)) ?_
    refine lv_ior hx hb dX0_wish_31 ?_
    refine cs_top (y := nI (w ||| (2 ^ j))) (cs_or w (2 ^ j)) ?_
    refine lv_goto hx hb dX0_wish_32 (tgt := 45) (by decide) ?_
    refine cs_top (y := nI (wsh w j true)) (rfl) ?_
    refine va_put (D := (dC, dI)) (ci := 0) (v := .int (nI (wsh w j true))) (ty := .int) (C := RX0) (T := TX0) (N := 10) hx hb hts hin0 tyX0 tyX0_ok nmX0 hown hK hP hD hS 0 rfl rfl 2 (by decide) (hts (.fieldLink RX0 43 "ClauseSolver" "wishes" "I") (by decide +kernel)) (fun _ h9 => h9) rfl (by decide +kernel) rfl rfl (Nat.le_of_ble_eq_true rfl) dX0_wish_45 (fun H locs hP hD hS => ?_)
    have hP : va_P (dC, dI) vwCl (xC o a1 a2 a3 a4 c1 c2 c3 c4 (nI N) (nI h) (nI (wsh w j true)) (nI y) (nI z) (nI c) f1 f2 f3 f4) H := hP
    have hD : va_D A (xC o a1 a2 a3 a4 c1 c2 c3 c4 (nI N) (nI h) (nI (wsh w j true)) (nI y) (nI z) (nI c) f1 f2 f3 f4) := hD
    refine lv_iload_n hx hb dX0_wish_48 rfl (lv_at hl 0 rfl) ?_
    exact W.zret (ty := .boolean) (v := bI (w.testBit j)) hx hb hr (bI_nar _) (fun t ht hW => ⟨⟨bI (w.testBit j), (), rfl, rfl, by rw [ht]; exact hP, by rw [hAe]; exact hD⟩, hS.F ht⟩) hS.2.2 dX0_wish_49
  | false =>
    refine lv_if_eq hx hb dX0_wish_21 (tgt := 35) (by decide) (fun _ => ?_) (fun hq => absurd (nI_0) hq)
    refine lv_aload_n hx hb dX0_wish_35 rfl (lv_at hl 1 rfl) ?_
    refine va_get (D := (dC, dI)) (ci := 0) (v := .int (nI w)) (C := RX0) (T := TX0) (N := 10) hx hb hts hin0 hown hK hP 0 rfl rfl 2 (by decide) (hts (.fieldLink RX0 43 "ClauseSolver" "wishes" "I") (by decide +kernel)) (fun _ h9 => h9) rfl dX0_wish_36 ?_
    refine lv_iconst (v := nI 1) hx hb dX0_wish_39 (by decide) ?_
    refine lv_iload_n hx hb dX0_wish_40 rfl (lv_at hl 2 rfl) ?_
    refine lv_ishl hx hb dX0_wish_41 ?_
    refine cs_top (y := nI (2 ^ j)) (cs_one (by omega)) ?_
    refine lv_iconst (v := nI 4294967295) hx hb dX0_wish_42 (by decide) ?_
    refine lv_ixor hx hb dX0_wish_43 ?_
    refine cs_top (y := nI ((2 ^ j) ^^^ 4294967295)) (cs_xor (2 ^ j) 4294967295) ?_
    refine lv_iand hx hb dX0_wish_44 ?_
    refine cs_top (y := nI (w &&& ((2 ^ j) ^^^ 4294967295))) (cs_and w ((2 ^ j) ^^^ 4294967295)) ?_
    refine cs_top (y := nI (wsh w j false)) (rfl) ?_
    refine va_put (D := (dC, dI)) (ci := 0) (v := .int (nI (wsh w j false))) (ty := .int) (C := RX0) (T := TX0) (N := 10) hx hb hts hin0 tyX0 tyX0_ok nmX0 hown hK hP hD hS 0 rfl rfl 2 (by decide) (hts (.fieldLink RX0 43 "ClauseSolver" "wishes" "I") (by decide +kernel)) (fun _ h9 => h9) rfl (by decide +kernel) rfl rfl (Nat.le_of_ble_eq_true rfl) dX0_wish_45 (fun H locs hP hD hS => ?_)
    have hP : va_P (dC, dI) vwCl (xC o a1 a2 a3 a4 c1 c2 c3 c4 (nI N) (nI h) (nI (wsh w j false)) (nI y) (nI z) (nI c) f1 f2 f3 f4) H := hP
    have hD : va_D A (xC o a1 a2 a3 a4 c1 c2 c3 c4 (nI N) (nI h) (nI (wsh w j false)) (nI y) (nI z) (nI c) f1 f2 f3 f4) := hD
    refine lv_iload_n hx hb dX0_wish_48 rfl (lv_at hl 0 rfl) ?_
    exact W.zret (ty := .boolean) (v := bI (w.testBit j)) hx hb hr (bI_nar _) (fun t ht hW => ⟨⟨bI (w.testBit j), (), rfl, rfl, by rw [ht]; exact hP, by rw [hAe]; exact hD⟩, hS.F ht⟩) hS.2.2 dX0_wish_49
set_option maxHeartbeats 4000000 in
set_option maxRecDepth 100000 in
theorem c_literal_out (l : Launch) (dC : Nat → ClassId) (dI : Nat → Nat → Nat) (o a1 a2 a3 a4 : Nat) (c1 c2 c3 c4 : ClassId) (N h w y z c : Nat) (f1 f2 f3 : Nat → Int32) (f4 : Nat → Int64) {v : Int32} (hv : v < 0 ∨ nI N ≤ v) (x2 : Int32) : Met l yX0_literal wsX0_literal ({ frames := 1, cells := 0, slots := 0, locals := 30 }) (va_Pc [.ref o, .int v, .int x2] (rW (dC, dI) vwCl (xC o a1 a2 a3 a4 c1 c2 c3 c4 (nI N) (nI h) (nI w) (nI y) (nI z) (nI c) f1 f2 f3 f4) (xT c1 c2 c3 c4))) (vp_Si (fun r => r = -1)) 0 0 (fun _ => False) := by
  refine Met.ofW (cc := cX0_literal) (maxL := 3) (ret := some .int) (by decide) rfl ?_
  intro p e s m args below meth c0 s₁ B hml hv0
  obtain ⟨rfl, hP, hK⟩ := hv0
  have hx := B.exec
  have hb := B.bytes
  have hr := B.returns
  have hts := atoms_spec (ws := wsX0_literal) B.pre
  have hown : s.vm.findClass RX0 = some m.cls := findClass_of_methodNamed B.named
  have hlocks := B.notSynchronized
  have hP : va_P (dC, dI) vwCl (xC o a1 a2 a3 a4 c1 c2 c3 c4 (nI N) (nI h) (nI w) (nI y) (nI z) (nI c) f1 f2 f3 f4) s.heap := hP
  have hin0 : ∀ w ∈ u_ws RX0 TX0 10, w ∈ wsX0_literal := by decide +kernel
  have hl := lv_entry ([.ref o, .int v, .int x2]) (n := 3) (Nat.le_of_ble_eq_true rfl)
  rw [lg_entry_eq]
  generalize (lg_sl ([.ref o, .int v, .int x2]) ++ List.replicate (3 - (lg_sl ([.ref o, .int v, .int x2])).length) Slot.unset).toArray = ls at hl ⊢
  have hl : lv_has ls 3 [(0, .ref o), (1, .int v), (2, .int x2)] := hl
  refine lv_aload_n hx hb dX0_literal_0 rfl (lv_at hl 0 rfl) ?_
  refine lv_iload_n hx hb dX0_literal_1 rfl (lv_at hl 1 rfl) ?_
  refine vp_callSi (W.runV (As := [.int v]) (rest := []) ⟨hx, hb, hml, hown, hts⟩ (c_isVariable_out l dC dI o a1 a2 a3 a4 c1 c2 c3 c4 N h w y z c f1 f2 f3 f4 hv) (cwV 1 hts gX0_literal_X0_isVariable rfl rfl rfl (by decide +kernel) ⟨Nat.le_of_ble_eq_true rfl, Nat.le_of_ble_eq_true rfl⟩) (rW_preV hP hK (va_recv (q := (RX0, TX0, 10)) (q0 := 0) hK hP rfl rfl)) rfl rfl hl.1 rfl (lv_room (Nat.le_of_ble_eq_true rfl)) dX0_literal_2 ⟨Nat.le_refl _, Nat.le_refl _⟩) (fun r0 hr0 => ?_)
  subst hr0
  refine lv_if_ne hx hb dX0_literal_5 (tgt := 10) (by decide) (fun hq => absurd (nI_0) hq) (fun _ => ?_)
  refine lv_iconst (v := (-1)) hx hb dX0_literal_8 (by decide) ?_
  exact W.iret (v := (-1)) hx hb hr (fun t ht hW => ⟨(-1), rfl, rfl, ht⟩) (fun q h => by cases h) dX0_literal_9
set_option maxHeartbeats 4000000 in
set_option maxRecDepth 100000 in
theorem c_literal (l : Launch) (sz : Nat) (dC : Nat → ClassId) (dI : Nat → Nat → Nat) (o a1 a2 a3 a4 : Nat) (c1 c2 c3 c4 : ClassId) (N h w y z c : Nat) (f1 f2 f3 : Nat → Int32) (f4 : Nat → Int64) (hN : N ≤ 16) (hy : y < 2 ^ N) (hz : z < 2 ^ N) {j : Nat} (hj : j < N) (b : Bool) : Met l yX0_literal wsX0_literal ({ frames := 2, cells := 0, slots := 0, locals := 60 }) (va_Pc [.ref o, .int (nI j), .int (bI b)] (wW (dC, dI) vwCl (xC o a1 a2 a3 a4 c1 c2 c3 c4 (nI N) (nI h) (nI w) (nI y) (nI z) (nI c) f1 f2 f3 f4) (xT c1 c2 c3 c4) sz)) (va_Qi (fun (r : Int32) (u : Unit) => r = nI (pcs (lt1 y j b) 16 + pcs (lt0 z j b) 16)) (oW (dC, dI) vwCl (xC o a1 a2 a3 a4 c1 c2 c3 c4 (nI N) (nI h) (nI w) (nI y) (nI z) (nI c) f1 f2 f3 f4) sz (fun u : Unit => (xC o a1 a2 a3 a4 c1 c2 c3 c4 (nI N) (nI h) (nI w) (nI (lt1 y j b)) (nI (lt0 z j b)) (nI c) f1 f2 f3 f4))) (va_A (xC o a1 a2 a3 a4 c1 c2 c3 c4 (nI N) (nI h) (nI w) (nI y) (nI z) (nI c) f1 f2 f3 f4) sz)) 0 0 (va_A (xC o a1 a2 a3 a4 c1 c2 c3 c4 (nI N) (nI h) (nI w) (nI y) (nI z) (nI c) f1 f2 f3 f4) sz) := by
  refine Met.ofW (cc := cX0_literal) (maxL := 3) (ret := some .int) (by decide) rfl ?_
  intro p e s m args below meth c0 s₁ B hml hv0
  obtain ⟨rfl, hsz, hP, hK, hD0⟩ := hv0
  have hx := B.exec
  have hb := B.bytes
  have hr := B.returns
  have hts := atoms_spec (ws := wsX0_literal) B.pre
  have hown : s.vm.findClass RX0 = some m.cls := findClass_of_methodNamed B.named
  have hlocks := B.notSynchronized
  subst hsz
  have hD := hD0.self (sz := s.heap.size)
  generalize hAe : va_A (xC o a1 a2 a3 a4 c1 c2 c3 c4 (nI N) (nI h) (nI w) (nI y) (nI z) (nI c) f1 f2 f3 f4) s.heap.size = A at hD ⊢
  have hA : ∀ q : Nat, s.heap.size ≤ q → A q := fun q h => by rw [← hAe]; exact Or.inr h
  have hS : va_S A s.heap s.heap [] := va_S.rf
  have hP : va_P (dC, dI) vwCl (xC o a1 a2 a3 a4 c1 c2 c3 c4 (nI N) (nI h) (nI w) (nI y) (nI z) (nI c) f1 f2 f3 f4) s.heap := hP
  have hin0 : ∀ w ∈ u_ws RX0 TX0 10, w ∈ wsX0_literal := by decide +kernel
  have hl := lv_entry ([.ref o, .int (nI j), .int (bI b)]) (n := 3) (Nat.le_of_ble_eq_true rfl)
  rw [lg_entry_eq]
  generalize (lg_sl ([.ref o, .int (nI j), .int (bI b)]) ++ List.replicate (3 - (lg_sl ([.ref o, .int (nI j), .int (bI b)])).length) Slot.unset).toArray = ls at hl ⊢
  have hl : lv_has ls 3 [(0, .ref o), (1, .int (nI j)), (2, .int (bI b))] := hl
  refine lv_aload_n hx hb dX0_literal_0 rfl (lv_at hl 0 rfl) ?_
  refine lv_iload_n hx hb dX0_literal_1 rfl (lv_at hl 1 rfl) ?_
  refine vp_callSi (W.runV (As := [.int (nI j)]) (rest := []) ⟨hx, hb, hml, hown, hts⟩ (c_isVariable_in l dC dI o a1 a2 a3 a4 c1 c2 c3 c4 N h w y z c f1 f2 f3 f4 hN hj) (cwV 1 hts gX0_literal_X0_isVariable rfl rfl rfl (by decide +kernel) ⟨Nat.le_of_ble_eq_true rfl, Nat.le_of_ble_eq_true rfl⟩) (rW_preV hP hK (va_recv (q := (RX0, TX0, 10)) (q0 := 0) hK hP rfl rfl)) rfl rfl hl.1 rfl (lv_room (Nat.le_of_ble_eq_true rfl)) dX0_literal_2 ⟨Nat.le_refl _, Nat.le_refl _⟩) (fun r0 hr0 => ?_)
  subst hr0
  refine lv_if_ne hx hb dX0_literal_5 (tgt := 10) (by decide) (fun _ => ?_) (fun hq => absurd hq (by decide))
  refine lv_iload_n hx hb dX0_literal_10 rfl (lv_at hl 2 rfl) ?_
  have hy9 := fun b => cs_N31 hN (lt1_lt hy hj b)
  have hz9 := fun b => cs_N31 hN (lt0_lt hz hj b)
  cases b with
  | true =>
    refine lv_if_eq hx hb dX0_literal_11 (tgt := 29) (by decide) (fun hq => absurd hq (by decide)) (fun _ => ?_)
    refine lv_aload_n hx hb dX0_literal_14 rfl (lv_at hl 0 rfl) ?_
    refine lv_dup hx hb dX0_literal_15 rfl ?_
    refine va_get (D := (dC, dI)) (ci := 0) (v := .int (nI y)) (C := RX0) (T := TX0) (N := 10) hx hb hts hin0 hown hK hP 0 rfl rfl 3 (by decide) (hts (.fieldLink RX0 50 "ClauseSolver" "madeTrue" "I") (by decide +kernel)) (fun _ h9 => h9) rfl dX0_literal_16 ?_
    refine lv_iconst (v := nI 1) hx hb dX0_literal_19 (by decide) ?_
    refine lv_iload_n hx hb dX0_literal_20 rfl (lv_at hl 1 rfl) ?_
    refine lv_ishl hx hb dX0_literal_21 ?_
    refine cs_top (y := nI (2 ^ j)) (cs_one (by omega)) ?_
    refine lv_ior hx hb dX0_literal_22 ?_
    refine cs_top (y := nI (y ||| (2 ^ j))) (cs_or y (2 ^ j)) ?_
    refine cs_top (y := nI (lt1 y j true)) (rfl) ?_
    refine va_put (D := (dC, dI)) (ci := 0) (v := .int (nI (lt1 y j true))) (ty := .int) (C := RX0) (T := TX0) (N := 10) hx hb hts hin0 tyX0 tyX0_ok nmX0 hown hK hP hD hS 0 rfl rfl 3 (by decide) (hts (.fieldLink RX0 50 "ClauseSolver" "madeTrue" "I") (by decide +kernel)) (fun _ h9 => h9) rfl (by decide +kernel) rfl rfl (Nat.le_of_ble_eq_true rfl) dX0_literal_23 (fun H locs hP hD hS => ?_)
    have hP : va_P (dC, dI) vwCl (xC o a1 a2 a3 a4 c1 c2 c3 c4 (nI N) (nI h) (nI w) (nI (lt1 y j true)) (nI z) (nI c) f1 f2 f3 f4) H := hP
    have hD : va_D A (xC o a1 a2 a3 a4 c1 c2 c3 c4 (nI N) (nI h) (nI w) (nI (lt1 y j true)) (nI z) (nI c) f1 f2 f3 f4) := hD
    refine lv_goto hx hb dX0_literal_26 (tgt := 41) (by decide) ?_
    refine lv_aload_n hx hb dX0_literal_41 rfl (lv_at hl 0 rfl) ?_
    refine vp_callSi (W.runV (As := []) (rest := []) ⟨hx, hb, hml, hown, hts⟩ (c_namedByMadeUp l dC dI o a1 a2 a3 a4 c1 c2 c3 c4 N h w (lt1 y j true) (lt0 z j true) c f1 f2 f3 f4 (hy9 _) (hz9 _)) (cwV 0 hts gX0_literal_X0_namedByMadeUp rfl rfl rfl (by decide +kernel) ⟨Nat.le_of_ble_eq_true rfl, Nat.le_of_ble_eq_true rfl⟩) (rW_preV hP hK (va_recv (q := (RX0, TX0, 10)) (q0 := 0) hK hP rfl rfl)) rfl rfl hl.1 rfl (lv_room (Nat.le_of_ble_eq_true rfl)) dX0_literal_42 ⟨Nat.le_refl _, Nat.le_refl _⟩) (fun r0 hr0 => ?_)
    subst hr0
    exact W.iret (v := nI (pcs (lt1 y j true) 16 + pcs (lt0 z j true) 16)) hx hb hr (fun t ht hW => ⟨⟨nI (pcs (lt1 y j true) 16 + pcs (lt0 z j true) 16), (), rfl, rfl, by rw [ht]; exact hP, by rw [hAe]; exact hD⟩, hS.F ht⟩) hS.2.2 dX0_literal_45
  | false =>
    refine lv_if_eq hx hb dX0_literal_11 (tgt := 29) (by decide) (fun _ => ?_) (fun hq => absurd (nI_0) hq)
    refine lv_aload_n hx hb dX0_literal_29 rfl (lv_at hl 0 rfl) ?_
    refine lv_dup hx hb dX0_literal_30 rfl ?_
    refine va_get (D := (dC, dI)) (ci := 0) (v := .int (nI z)) (C := RX0) (T := TX0) (N := 10) hx hb hts hin0 hown hK hP 0 rfl rfl 4 (by decide) (hts (.fieldLink RX0 53 "ClauseSolver" "madeFalse" "I") (by decide +kernel)) (fun _ h9 => h9) rfl dX0_literal_31 ?_
    refine lv_iconst (v := nI 1) hx hb dX0_literal_34 (by decide) ?_
    refine lv_iload_n hx hb dX0_literal_35 rfl (lv_at hl 1 rfl) ?_
    refine lv_ishl hx hb dX0_literal_36 ?_
    refine cs_top (y := nI (2 ^ j)) (cs_one (by omega)) ?_
    refine lv_ior hx hb dX0_literal_37 ?_
    refine cs_top (y := nI (z ||| (2 ^ j))) (cs_or z (2 ^ j)) ?_
    refine cs_top (y := nI (lt0 z j false)) (rfl) ?_
    refine va_put (D := (dC, dI)) (ci := 0) (v := .int (nI (lt0 z j false))) (ty := .int) (C := RX0) (T := TX0) (N := 10) hx hb hts hin0 tyX0 tyX0_ok nmX0 hown hK hP hD hS 0 rfl rfl 4 (by decide) (hts (.fieldLink RX0 53 "ClauseSolver" "madeFalse" "I") (by decide +kernel)) (fun _ h9 => h9) rfl (by decide +kernel) rfl rfl (Nat.le_of_ble_eq_true rfl) dX0_literal_38 (fun H locs hP hD hS => ?_)
    have hP : va_P (dC, dI) vwCl (xC o a1 a2 a3 a4 c1 c2 c3 c4 (nI N) (nI h) (nI w) (nI y) (nI (lt0 z j false)) (nI c) f1 f2 f3 f4) H := hP
    have hD : va_D A (xC o a1 a2 a3 a4 c1 c2 c3 c4 (nI N) (nI h) (nI w) (nI y) (nI (lt0 z j false)) (nI c) f1 f2 f3 f4) := hD
    refine lv_aload_n hx hb dX0_literal_41 rfl (lv_at hl 0 rfl) ?_
    refine vp_callSi (W.runV (As := []) (rest := []) ⟨hx, hb, hml, hown, hts⟩ (c_namedByMadeUp l dC dI o a1 a2 a3 a4 c1 c2 c3 c4 N h w (lt1 y j false) (lt0 z j false) c f1 f2 f3 f4 (hy9 _) (hz9 _)) (cwV 0 hts gX0_literal_X0_namedByMadeUp rfl rfl rfl (by decide +kernel) ⟨Nat.le_of_ble_eq_true rfl, Nat.le_of_ble_eq_true rfl⟩) (rW_preV hP hK (va_recv (q := (RX0, TX0, 10)) (q0 := 0) hK hP rfl rfl)) rfl rfl hl.1 rfl (lv_room (Nat.le_of_ble_eq_true rfl)) dX0_literal_42 ⟨Nat.le_refl _, Nat.le_refl _⟩) (fun r0 hr0 => ?_)
    subst hr0
    exact W.iret (v := nI (pcs (lt1 y j false) 16 + pcs (lt0 z j false) 16)) hx hb hr (fun t ht hW => ⟨⟨nI (pcs (lt1 y j false) 16 + pcs (lt0 z j false) 16), (), rfl, rfl, by rw [ht]; exact hP, by rw [hAe]; exact hD⟩, hS.F ht⟩) hS.2.2 dX0_literal_45
set_option maxHeartbeats 4000000 in
set_option maxRecDepth 100000 in
theorem c_count0 (l : Launch) (dC : Nat → ClassId) (dI : Nat → Nat → Nat) (o a1 a2 a3 a4 : Nat) (c1 c2 c3 c4 : ClassId) (N h w y z c : Nat) (f1 f2 f3 : Nat → Int32) (f4 : Nat → Int64) (hN : N ≤ 16) (hy : y < 2 ^ N) (hz : z < 2 ^ N) : Met l yX0_count wsX0_count ({ frames := 2, cells := 0, slots := 0, locals := 60 }) (va_Pc [.ref o, .int (nI 0)] (rW (dC, dI) vwCl (xC o a1 a2 a3 a4 c1 c2 c3 c4 (nI N) (nI h) (nI w) (nI y) (nI z) (nI c) f1 f2 f3 f4) (xT c1 c2 c3 c4))) (vp_Si (fun r => r = nI N)) 0 0 (fun _ => False) := by
  refine Met.ofW (cc := cX0_count) (maxL := 2) (ret := some .int) (by decide) rfl ?_
  intro p e s m args below meth c0 s₁ B hml hv0
  obtain ⟨rfl, hP, hK⟩ := hv0
  have hx := B.exec
  have hb := B.bytes
  have hr := B.returns
  have hts := atoms_spec (ws := wsX0_count) B.pre
  have hown : s.vm.findClass RX0 = some m.cls := findClass_of_methodNamed B.named
  have hlocks := B.notSynchronized
  have hP : va_P (dC, dI) vwCl (xC o a1 a2 a3 a4 c1 c2 c3 c4 (nI N) (nI h) (nI w) (nI y) (nI z) (nI c) f1 f2 f3 f4) s.heap := hP
  have hin0 : ∀ w ∈ u_ws RX0 TX0 10, w ∈ wsX0_count := by decide +kernel
  have hl := lv_entry ([.ref o, .int (nI 0)]) (n := 2) (Nat.le_of_ble_eq_true rfl)
  rw [lg_entry_eq]
  generalize (lg_sl ([.ref o, .int (nI 0)]) ++ List.replicate (2 - (lg_sl ([.ref o, .int (nI 0)])).length) Slot.unset).toArray = ls at hl ⊢
  have hl : lv_has ls 2 [(0, .ref o), (1, .int (nI 0))] := hl
  refine lv_iload_n hx hb dX0_count_0 rfl (lv_at hl 1 rfl) ?_
  refine lv_tableIn hx hb dX0_count_1 (off := 27) (tgt := 28) (by decide) (by decide) (by decide) (by decide) ?_
  refine lv_aload_n hx hb dX0_count_28 rfl (lv_at hl 0 rfl) ?_
  refine va_get (D := (dC, dI)) (ci := 0) (v := .int (nI N)) (C := RX0) (T := TX0) (N := 10) hx hb hts hin0 hown hK hP 0 rfl rfl 0 (by decide) (hts (.fieldLink RX0 18 "ClauseSolver" "variables" "I") (by decide +kernel)) (fun _ h9 => h9) rfl dX0_count_29 ?_
  exact W.iret (v := nI N) hx hb hr (fun t ht hW => ⟨nI N, rfl, rfl, ht⟩) (fun q h => by cases h) dX0_count_32
set_option maxHeartbeats 4000000 in
set_option maxRecDepth 100000 in
theorem c_count1 (l : Launch) (dC : Nat → ClassId) (dI : Nat → Nat → Nat) (o a1 a2 a3 a4 : Nat) (c1 c2 c3 c4 : ClassId) (N h w y z c : Nat) (f1 f2 f3 : Nat → Int32) (f4 : Nat → Int64) (hN : N ≤ 16) (hy : y < 2 ^ N) (hz : z < 2 ^ N) : Met l yX0_count wsX0_count ({ frames := 2, cells := 0, slots := 0, locals := 60 }) (va_Pc [.ref o, .int (nI 1)] (rW (dC, dI) vwCl (xC o a1 a2 a3 a4 c1 c2 c3 c4 (nI N) (nI h) (nI w) (nI y) (nI z) (nI c) f1 f2 f3 f4) (xT c1 c2 c3 c4))) (vp_Si (fun r => r = nI c)) 0 0 (fun _ => False) := by
  refine Met.ofW (cc := cX0_count) (maxL := 2) (ret := some .int) (by decide) rfl ?_
  intro p e s m args below meth c0 s₁ B hml hv0
  obtain ⟨rfl, hP, hK⟩ := hv0
  have hx := B.exec
  have hb := B.bytes
  have hr := B.returns
  have hts := atoms_spec (ws := wsX0_count) B.pre
  have hown : s.vm.findClass RX0 = some m.cls := findClass_of_methodNamed B.named
  have hlocks := B.notSynchronized
  have hP : va_P (dC, dI) vwCl (xC o a1 a2 a3 a4 c1 c2 c3 c4 (nI N) (nI h) (nI w) (nI y) (nI z) (nI c) f1 f2 f3 f4) s.heap := hP
  have hin0 : ∀ w ∈ u_ws RX0 TX0 10, w ∈ wsX0_count := by decide +kernel
  have hl := lv_entry ([.ref o, .int (nI 1)]) (n := 2) (Nat.le_of_ble_eq_true rfl)
  rw [lg_entry_eq]
  generalize (lg_sl ([.ref o, .int (nI 1)]) ++ List.replicate (2 - (lg_sl ([.ref o, .int (nI 1)])).length) Slot.unset).toArray = ls at hl ⊢
  have hl : lv_has ls 2 [(0, .ref o), (1, .int (nI 1))] := hl
  refine lv_iload_n hx hb dX0_count_0 rfl (lv_at hl 1 rfl) ?_
  refine lv_tableIn hx hb dX0_count_1 (off := 32) (tgt := 33) (by decide) (by decide) (by decide) (by decide) ?_
  refine lv_aload_n hx hb dX0_count_33 rfl (lv_at hl 0 rfl) ?_
  refine va_get (D := (dC, dI)) (ci := 0) (v := .int (nI c)) (C := RX0) (T := TX0) (N := 10) hx hb hts hin0 hown hK hP 0 rfl rfl 5 (by decide) (hts (.fieldLink RX0 67 "ClauseSolver" "clauses" "I") (by decide +kernel)) (fun _ h9 => h9) rfl dX0_count_34 ?_
  exact W.iret (v := nI c) hx hb hr (fun t ht hW => ⟨nI c, rfl, rfl, ht⟩) (fun q h => by cases h) dX0_count_37
set_option maxHeartbeats 4000000 in
set_option maxRecDepth 100000 in
theorem c_count2 (l : Launch) (dC : Nat → ClassId) (dI : Nat → Nat → Nat) (o a1 a2 a3 a4 : Nat) (c1 c2 c3 c4 : ClassId) (N h w y z c : Nat) (f1 f2 f3 : Nat → Int32) (f4 : Nat → Int64) (hN : N ≤ 16) (hy : y < 2 ^ N) (hz : z < 2 ^ N) : Met l yX0_count wsX0_count ({ frames := 2, cells := 0, slots := 0, locals := 60 }) (va_Pc [.ref o, .int (nI 2)] (rW (dC, dI) vwCl (xC o a1 a2 a3 a4 c1 c2 c3 c4 (nI N) (nI h) (nI w) (nI y) (nI z) (nI c) f1 f2 f3 f4) (xT c1 c2 c3 c4))) (vp_Si (fun r => r = nI (pcs y 16 + pcs z 16))) 0 0 (fun _ => False) := by
  refine Met.ofW (cc := cX0_count) (maxL := 2) (ret := some .int) (by decide) rfl ?_
  intro p e s m args below meth c0 s₁ B hml hv0
  obtain ⟨rfl, hP, hK⟩ := hv0
  have hx := B.exec
  have hb := B.bytes
  have hr := B.returns
  have hts := atoms_spec (ws := wsX0_count) B.pre
  have hown : s.vm.findClass RX0 = some m.cls := findClass_of_methodNamed B.named
  have hlocks := B.notSynchronized
  have hP : va_P (dC, dI) vwCl (xC o a1 a2 a3 a4 c1 c2 c3 c4 (nI N) (nI h) (nI w) (nI y) (nI z) (nI c) f1 f2 f3 f4) s.heap := hP
  have hin0 : ∀ w ∈ u_ws RX0 TX0 10, w ∈ wsX0_count := by decide +kernel
  have hl := lv_entry ([.ref o, .int (nI 2)]) (n := 2) (Nat.le_of_ble_eq_true rfl)
  rw [lg_entry_eq]
  generalize (lg_sl ([.ref o, .int (nI 2)]) ++ List.replicate (2 - (lg_sl ([.ref o, .int (nI 2)])).length) Slot.unset).toArray = ls at hl ⊢
  have hl : lv_has ls 2 [(0, .ref o), (1, .int (nI 2))] := hl
  refine lv_iload_n hx hb dX0_count_0 rfl (lv_at hl 1 rfl) ?_
  refine lv_tableIn hx hb dX0_count_1 (off := 37) (tgt := 38) (by decide) (by decide) (by decide) (by decide) ?_
  refine lv_aload_n hx hb dX0_count_38 rfl (lv_at hl 0 rfl) ?_
  refine vp_callSi (W.runV (As := []) (rest := []) ⟨hx, hb, hml, hown, hts⟩ (c_namedByMadeUp l dC dI o a1 a2 a3 a4 c1 c2 c3 c4 N h w y z c f1 f2 f3 f4 (cs_N31 hN hy) (cs_N31 hN hz)) (cwV 0 hts gX0_count_X0_namedByMadeUp rfl rfl rfl (by decide +kernel) ⟨Nat.le_of_ble_eq_true rfl, Nat.le_of_ble_eq_true rfl⟩) (rW_preV hP hK (va_recv (q := (RX0, TX0, 10)) (q0 := 0) hK hP rfl rfl)) rfl rfl hl.1 rfl (lv_room (Nat.le_of_ble_eq_true rfl)) dX0_count_39 ⟨Nat.le_refl _, Nat.le_refl _⟩) (fun r0 hr0 => ?_)
  subst hr0
  exact W.iret (v := nI (pcs y 16 + pcs z 16)) hx hb hr (fun t ht hW => ⟨nI (pcs y 16 + pcs z 16), rfl, rfl, ht⟩) (fun q h => by cases h) dX0_count_42
set_option maxHeartbeats 4000000 in
set_option maxRecDepth 100000 in
theorem c_count_out (l : Launch) (dC : Nat → ClassId) (dI : Nat → Nat → Nat) (o a1 a2 a3 a4 : Nat) (c1 c2 c3 c4 : ClassId) (N h w y z c : Nat) (f1 f2 f3 : Nat → Int32) (f4 : Nat → Int64) {v : Int32} (hv : v.toInt < 0 ∨ 2 < v.toInt) : Met l yX0_count wsX0_count ({ frames := 2, cells := 0, slots := 0, locals := 60 }) (va_Pc [.ref o, .int v] (rW (dC, dI) vwCl (xC o a1 a2 a3 a4 c1 c2 c3 c4 (nI N) (nI h) (nI w) (nI y) (nI z) (nI c) f1 f2 f3 f4) (xT c1 c2 c3 c4))) (vp_Si (fun r => r = -1)) 0 0 (fun _ => False) := by
  refine Met.ofW (cc := cX0_count) (maxL := 2) (ret := some .int) (by decide) rfl ?_
  intro p e s m args below meth c0 s₁ B hml hv0
  obtain ⟨rfl, hP, hK⟩ := hv0
  have hx := B.exec
  have hb := B.bytes
  have hr := B.returns
  have hts := atoms_spec (ws := wsX0_count) B.pre
  have hown : s.vm.findClass RX0 = some m.cls := findClass_of_methodNamed B.named
  have hlocks := B.notSynchronized
  have hP : va_P (dC, dI) vwCl (xC o a1 a2 a3 a4 c1 c2 c3 c4 (nI N) (nI h) (nI w) (nI y) (nI z) (nI c) f1 f2 f3 f4) s.heap := hP
  have hin0 : ∀ w ∈ u_ws RX0 TX0 10, w ∈ wsX0_count := by decide +kernel
  have hl := lv_entry ([.ref o, .int v]) (n := 2) (Nat.le_of_ble_eq_true rfl)
  rw [lg_entry_eq]
  generalize (lg_sl ([.ref o, .int v]) ++ List.replicate (2 - (lg_sl ([.ref o, .int v])).length) Slot.unset).toArray = ls at hl ⊢
  have hl : lv_has ls 2 [(0, .ref o), (1, .int v)] := hl
  refine lv_iload_n hx hb dX0_count_0 rfl (lv_at hl 1 rfl) ?_
  refine lv_tableOut hx hb dX0_count_1 (tgt := 43) hv (by decide) ?_
  refine lv_iconst (v := (-1)) hx hb dX0_count_43 (by decide) ?_
  exact W.iret (v := (-1)) hx hb hr (fun t ht hW => ⟨(-1), rfl, rfl, ht⟩) (fun q h => by cases h) dX0_count_44
