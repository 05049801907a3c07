theorem bI_vn (b : Bool) : vp_nar .boolean (bI b) = bI b := by cases b <;> rfl
theorem lo_nI {y N : Nat} (hN : N ≤ 16) (hy : y < 2 ^ N) : lo (nI y) N = y := by
  have h1 := cs_N31 hN hy
  unfold lo
  rw [pk_tn (by omega), Nat.mod_eq_of_lt hy]
theorem ho_1 {y z a : Nat} (hz : z < 65536) (h : ¬ nI (a &&& y) = 0) : Mt y z a := by
  refine Classical.byContradiction fun z9 => h ?_
  rw [((Mt_not (by omega)).mp z9).1]
  exact nI_0
theorem ho_2 {y z a : Nat} (hz : z < 65536) (h : ¬ nI ((a ^^^ 4294967295) &&& z) = 0) : Mt y z a := by
  refine Classical.byContradiction fun z9 => h ?_
  rw [((Mt_not (by omega)).mp z9).2]
  exact nI_0
theorem ho_0 {y z a : Nat} (hy : y < 65536) (hz : z < 65536) (h1 : nI (a &&& y) = 0) (h2 : nI ((a ^^^ 4294967295) &&& z) = 0) : ¬ Mt y z a := by
  rw [Mt_not (by omega)]
  have l1 : a &&& y ≤ y := Nat.and_le_right
  have l2 : (a ^^^ 4294967295) &&& z ≤ z := Nat.and_le_right
  exact ⟨(cs_z (by omega)).mp h1, (cs_z (by omega)).mp h2⟩
theorem rs_lt0 {o : Option Nat} (h : ∀ r, o = some r → r < 2 ^ 31) : rs o < 0 ↔ o = none := by
  cases o with
  | none => exact ⟨fun _ => rfl, fun _ => by decide⟩
  | some r => exact ⟨fun z => absurd z (nI_pos (h r rfl)), fun z => (by cases z)⟩
theorem or_16 {y z : Nat} (hy : y < 65536) (hz : z < 65536) : y ||| z < 2 ^ 31 := by
  have := Nat.or_lt_two_pow (n := 16) hy hz
  omega
set_option maxHeartbeats 4000000 in
set_option maxRecDepth 100000 in
theorem m_is_in (l : Launch) (dC : Nat → ClassId) (dI : Nat → Nat → Nat) (o b1 b2 b3 : Nat) (e1 e2 e3 : ClassId) (N c y z : Nat) (fo kn : Int32) (g1 g2 g3 : Nat → Int32) (hN : N ≤ 16) {j : Nat} (hj : j < N) : Met l yX1_is wsX1_is ({ frames := 0, cells := 0, slots := 0, locals := 0 }) (va_Pc [.ref o, .int (nI j)] (rW (dC, dI) vwCl (mC o b1 b2 b3 e1 e2 e3 (nI N) (nI c) (nI y) (nI z) fo kn g1 g2 g3) (mT e1 e2 e3))) (vp_Si (fun r => r = nI 1)) 0 0 (fun _ => False) := by
  refine Met.ofW (cc := cX1_is) (maxL := 2) (ret := some .boolean) (by decide) rfl ?_
  intro p e s m args below meth c0 s₁ B hml hv0
  obtain ⟨rfl, hP, hK⟩ := hv0
  have hx := B.exec
  have hb := B.bytes
  have hr := B.returns
  have hts := atoms_spec (ws := wsX1_is) B.pre
  have hown : s.vm.findClass RX1 = some m.cls := findClass_of_methodNamed B.named
  have hlocks := B.notSynchronized
  have hP : va_P (dC, dI) vwCl (mC o b1 b2 b3 e1 e2 e3 (nI N) (nI c) (nI y) (nI z) fo kn g1 g2 g3) s.heap := hP
  have hin1 : ∀ w ∈ u_ws RX1 TX1 9, w ∈ wsX1_is := by decide +kernel
  have hl := lv_entry ([.ref o, .int (nI j)]) (n := 2) (Nat.le_of_ble_eq_true rfl)
  rw [lg_entry_eq]
  generalize (lg_sl ([.ref o, .int (nI j)]) ++ List.replicate (2 - (lg_sl ([.ref o, .int (nI j)])).length) Slot.unset).toArray = ls at hl ⊢
  have hl : lv_has ls 2 [(0, .ref o), (1, .int (nI j))] := hl
  refine lv_iload_n hx hb dX1_is_0 rfl (lv_at hl 1 rfl) ?_
  refine lv_if_lt hx hb dX1_is_1 (tgt := 16) (by decide) (fun hq => absurd hq (nI_pos (by omega))) (fun _ => ?_)
  refine lv_iload_n hx hb dX1_is_4 rfl (lv_at hl 1 rfl) ?_
  refine lv_aload_n hx hb dX1_is_5 rfl (lv_at hl 0 rfl) ?_
  refine va_get (D := (dC, dI)) (ci := 1) (v := .int (nI N)) (C := RX1) (T := TX1) (N := 9) hx hb hts hin1 hown hK hP 0 rfl rfl 0 (by decide) (hts (.fieldLink RX1 20 "ClauseSolverModel" "variables" "I") (by decide +kernel)) (fun _ h9 => h9) rfl dX1_is_6 ?_
  refine lv_icmp_ge hx hb dX1_is_9 (tgt := 16) (by decide) (fun hq => absurd hq (nI_ge hj (by omega))) (fun _ => ?_)
  refine lv_iconst (v := nI 1) hx hb dX1_is_12 (by decide) ?_
  refine lv_goto hx hb dX1_is_13 (tgt := 17) (by decide) ?_
  exact W.zret (ty := .boolean) (v := nI 1) hx hb hr (by first | rfl | decide) (fun t ht hW => ⟨nI 1, rfl, rfl, ht⟩) (fun q h => by cases h) dX1_is_17
set_option maxHeartbeats 4000000 in
set_option maxRecDepth 100000 in
theorem m_is_out (l : Launch) (dC : Nat → ClassId) (dI : Nat → Nat → Nat) (o b1 b2 b3 : Nat) (e1 e2 e3 : ClassId) (N c y z : Nat) (fo kn : Int32) (g1 g2 g3 : Nat → Int32) {v : Int32} (hv : v < 0 ∨ nI N ≤ v) : Met l yX1_is wsX1_is ({ frames := 0, cells := 0, slots := 0, locals := 0 }) (va_Pc [.ref o, .int v] (rW (dC, dI) vwCl (mC o b1 b2 b3 e1 e2 e3 (nI N) (nI c) (nI y) (nI z) fo kn g1 g2 g3) (mT e1 e2 e3))) (vp_Si (fun r => r = nI 0)) 0 0 (fun _ => False) := by
  refine Met.ofW (cc := cX1_is) (maxL := 2) (ret := some .boolean) (by decide) rfl ?_
  intro p e s m args below meth c0 s₁ B hml hv0
  obtain ⟨rfl, hP, hK⟩ := hv0
  have hx := B.exec
  have hb := B.bytes
  have hr := B.returns
  have hts := atoms_spec (ws := wsX1_is) B.pre
  have hown : s.vm.findClass RX1 = some m.cls := findClass_of_methodNamed B.named
  have hlocks := B.notSynchronized
  have hP : va_P (dC, dI) vwCl (mC o b1 b2 b3 e1 e2 e3 (nI N) (nI c) (nI y) (nI z) fo kn g1 g2 g3) s.heap := hP
  have hin1 : ∀ w ∈ u_ws RX1 TX1 9, w ∈ wsX1_is := by decide +kernel
  have hl := lv_entry ([.ref o, .int v]) (n := 2) (Nat.le_of_ble_eq_true rfl)
  rw [lg_entry_eq]
  generalize (lg_sl ([.ref o, .int v]) ++ List.replicate (2 - (lg_sl ([.ref o, .int v])).length) Slot.unset).toArray = ls at hl ⊢
  have hl : lv_has ls 2 [(0, .ref o), (1, .int v)] := hl
  refine lv_iload_n hx hb dX1_is_0 rfl (lv_at hl 1 rfl) ?_
  by_cases h0 : v < 0
  · refine lv_if_lt hx hb dX1_is_1 (tgt := 16) (by decide) (fun _ => ?_) (fun hq => absurd (h0) hq)
    refine lv_iconst (v := nI 0) hx hb dX1_is_16 (by decide) ?_
    exact W.zret (ty := .boolean) (v := nI 0) hx hb hr (by first | rfl | decide) (fun t ht hW => ⟨nI 0, rfl, rfl, ht⟩) (fun q h => by cases h) dX1_is_17
  · refine lv_if_lt hx hb dX1_is_1 (tgt := 16) (by decide) (fun hq => absurd hq (h0)) (fun _ => ?_)
    refine lv_iload_n hx hb dX1_is_4 rfl (lv_at hl 1 rfl) ?_
    refine lv_aload_n hx hb dX1_is_5 rfl (lv_at hl 0 rfl) ?_
    refine va_get (D := (dC, dI)) (ci := 1) (v := .int (nI N)) (C := RX1) (T := TX1) (N := 9) hx hb hts hin1 hown hK hP 0 rfl rfl 0 (by decide) (hts (.fieldLink RX1 20 "ClauseSolverModel" "variables" "I") (by decide +kernel)) (fun _ h9 => h9) rfl dX1_is_6 ?_
    refine lv_icmp_ge hx hb dX1_is_9 (tgt := 16) (by decide) (fun _ => ?_) (fun hq => absurd (hv.resolve_left h0) hq)
    refine lv_iconst (v := nI 0) hx hb dX1_is_16 (by decide) ?_
    exact W.zret (ty := .boolean) (v := nI 0) hx hb hr (by first | rfl | decide) (fun t ht hW => ⟨nI 0, rfl, rfl, ht⟩) (fun q h => by cases h) dX1_is_17
set_option maxHeartbeats 4000000 in
set_option maxRecDepth 100000 in
theorem m_wish_out (l : Launch) (dC : Nat → ClassId) (dI : Nat → Nat → Nat) (o b1 b2 b3 : Nat) (e1 e2 e3 : ClassId) (N c y z : Nat) (fo kn : Int32) (g1 g2 g3 : Nat → Int32) {v : Int32} (hv : v < 0 ∨ nI N ≤ v) (x2 : Int32) : Met l yX1_wish wsX1_wish ({ frames := 1, cells := 0, slots := 0, locals := 30 }) (va_Pc [.ref o, .int v, .int x2] (rW (dC, dI) vwCl (mC o b1 b2 b3 e1 e2 e3 (nI N) (nI c) (nI y) (nI z) fo kn g1 g2 g3) (mT e1 e2 e3))) (vp_Si (fun r => r = nI 0)) 0 0 (fun _ => False) := by
  refine Met.ofW (cc := cX1_wish) (maxL := 4) (ret := some .boolean) (by decide) rfl ?_
  intro p e s m args below meth c0 s₁ B hml hv0
  obtain ⟨rfl, hP, hK⟩ := hv0
  have hx := B.exec
  have hb := B.bytes
  have hr := B.returns
  have hts := atoms_spec (ws := wsX1_wish) B.pre
  have hown : s.vm.findClass RX1 = some m.cls := findClass_of_methodNamed B.named
  have hlocks := B.notSynchronized
  have hP : va_P (dC, dI) vwCl (mC o b1 b2 b3 e1 e2 e3 (nI N) (nI c) (nI y) (nI z) fo kn g1 g2 g3) s.heap := hP
  have hin1 : ∀ w ∈ u_ws RX1 TX1 9, w ∈ wsX1_wish := by decide +kernel
  have hl := lv_entry ([.ref o, .int v, .int x2]) (n := 4) (Nat.le_of_ble_eq_true rfl)
  rw [lg_entry_eq]
  generalize (lg_sl ([.ref o, .int v, .int x2]) ++ List.replicate (4 - (lg_sl ([.ref o, .int v, .int x2])).length) Slot.unset).toArray = ls at hl ⊢
  have hl : lv_has ls 4 [(0, .ref o), (1, .int v), (2, .int x2)] := hl
  refine lv_aload_n hx hb dX1_wish_0 rfl (lv_at hl 0 rfl) ?_
  refine lv_iload_n hx hb dX1_wish_1 rfl (lv_at hl 1 rfl) ?_
  refine vp_callSi (W.runV (As := [.int v]) (rest := []) ⟨hx, hb, hml, hown, hts⟩ (m_is_out l dC dI o b1 b2 b3 e1 e2 e3 N c y z fo kn g1 g2 g3 hv) (cwV 1 hts gX1_wish_X1_is rfl rfl rfl (by decide +kernel) ⟨Nat.le_of_ble_eq_true rfl, Nat.le_of_ble_eq_true rfl⟩) (rW_preV hP hK (va_recv (q := (RX1, TX1, 9)) (q0 := 0) hK hP rfl rfl)) rfl rfl hl.1 rfl (lv_room (Nat.le_of_ble_eq_true rfl)) dX1_wish_2 ⟨Nat.le_refl _, Nat.le_refl _⟩) (fun r0 hr0 => ?_)
  subst hr0
  refine lv_if_ne hx hb dX1_wish_5 (tgt := 10) (by decide) (fun hq => absurd (nI_0) hq) (fun _ => ?_)
  refine lv_iconst (v := nI 0) hx hb dX1_wish_8 (by decide) ?_
  exact W.zret (ty := .boolean) (v := nI 0) hx hb hr (by first | rfl | decide) (fun t ht hW => ⟨nI 0, rfl, rfl, ht⟩) (fun q h => by cases h) dX1_wish_9
set_option maxHeartbeats 4000000 in
set_option maxRecDepth 100000 in
theorem m_wish (l : Launch) (sz : Nat) (dC : Nat → ClassId) (dI : Nat → Nat → Nat) (o b1 b2 b3 : Nat) (e1 e2 e3 : ClassId) (N c y z : Nat) (fo kn : Int32) (g1 g2 g3 : Nat → Int32) (hN : N ≤ 16) {j : Nat} (hj : j < N) {x : Bool} (hg : g1 j = bI x) (b : Bool) : Met l yX1_wish wsX1_wish ({ frames := 1, cells := 0, slots := 0, locals := 30 }) (va_Pc [.ref o, .int (nI j), .int (bI b)] (wW (dC, dI) vwCl (mC o b1 b2 b3 e1 e2 e3 (nI N) (nI c) (nI y) (nI z) fo kn g1 g2 g3) (mT e1 e2 e3) sz)) (va_Qi (fun (r : Int32) (u : Unit) => r = bI x) (oW (dC, dI) vwCl (mC o b1 b2 b3 e1 e2 e3 (nI N) (nI c) (nI y) (nI z) fo kn g1 g2 g3) sz (fun u : Unit => (mC o b1 b2 b3 e1 e2 e3 (nI N) (nI c) (nI y) (nI z) fo (nI 0) (upd g1 j (bI b)) g2 g3))) (va_A (mC o b1 b2 b3 e1 e2 e3 (nI N) (nI c) (nI y) (nI z) fo kn g1 g2 g3) sz)) 0 0 (va_A (mC o b1 b2 b3 e1 e2 e3 (nI N) (nI c) (nI y) (nI z) fo kn g1 g2 g3) sz) := by
  refine Met.ofW (cc := cX1_wish) (maxL := 4) (ret := some .boolean) (by decide) rfl ?_
  intro p e s m args below meth c0 s₁ B hml hv0
  obtain ⟨rfl, hsz, hP, hK, hD0⟩ := hv0
  have hx := B.exec
  have hb := B.bytes
  have hr := B.returns
  have hts := atoms_spec (ws := wsX1_wish) B.pre
  have hown : s.vm.findClass RX1 = some m.cls := findClass_of_methodNamed B.named
  have hlocks := B.notSynchronized
  subst hsz
  have hD := hD0.self (sz := s.heap.size)
  generalize hAe : va_A (mC o b1 b2 b3 e1 e2 e3 (nI N) (nI c) (nI y) (nI z) fo kn g1 g2 g3) s.heap.size = A at hD ⊢
  have hA : ∀ q : Nat, s.heap.size ≤ q → A q := fun q h => by rw [← hAe]; exact Or.inr h
  have hS : va_S A s.heap s.heap [] := va_S.rf
  have hP : va_P (dC, dI) vwCl (mC o b1 b2 b3 e1 e2 e3 (nI N) (nI c) (nI y) (nI z) fo kn g1 g2 g3) s.heap := hP
  have hin1 : ∀ w ∈ u_ws RX1 TX1 9, w ∈ wsX1_wish := by decide +kernel
  have hl := lv_entry ([.ref o, .int (nI j), .int (bI b)]) (n := 4) (Nat.le_of_ble_eq_true rfl)
  rw [lg_entry_eq]
  generalize (lg_sl ([.ref o, .int (nI j), .int (bI b)]) ++ List.replicate (4 - (lg_sl ([.ref o, .int (nI j), .int (bI b)])).length) Slot.unset).toArray = ls at hl ⊢
  have hl : lv_has ls 4 [(0, .ref o), (1, .int (nI j)), (2, .int (bI b))] := hl
  refine lv_aload_n hx hb dX1_wish_0 rfl (lv_at hl 0 rfl) ?_
  refine lv_iload_n hx hb dX1_wish_1 rfl (lv_at hl 1 rfl) ?_
  refine vp_callSi (W.runV (As := [.int (nI j)]) (rest := []) ⟨hx, hb, hml, hown, hts⟩ (m_is_in l dC dI o b1 b2 b3 e1 e2 e3 N c y z fo kn g1 g2 g3 hN hj) (cwV 1 hts gX1_wish_X1_is rfl rfl rfl (by decide +kernel) ⟨Nat.le_of_ble_eq_true rfl, Nat.le_of_ble_eq_true rfl⟩) (rW_preV hP hK (va_recv (q := (RX1, TX1, 9)) (q0 := 0) hK hP rfl rfl)) rfl rfl hl.1 rfl (lv_room (Nat.le_of_ble_eq_true rfl)) dX1_wish_2 ⟨Nat.le_refl _, Nat.le_refl _⟩) (fun r0 hr0 => ?_)
  subst hr0
  refine lv_if_ne hx hb dX1_wish_5 (tgt := 10) (by decide) (fun _ => ?_) (fun hq => absurd hq (by decide))
  refine lv_aload_n hx hb dX1_wish_10 rfl (lv_at hl 0 rfl) ?_
  refine va_get (D := (dC, dI)) (ci := 1) (v := .ref b1) (C := RX1) (T := TX1) (N := 9) hx hb hts hin1 hown hK hP 0 rfl rfl 1 (by decide) (hts (.fieldLink RX1 7 "ClauseSolverModel" "wish" "[Z") (by decide +kernel)) (fun _ h9 => h9) rfl dX1_wish_11 ?_
  refine lv_iload_n hx hb dX1_wish_14 rfl (lv_at hl 1 rfl) ?_
  refine cs_zald hx hb hK hP 1 0 rfl rfl (by omega) (by decide) dX1_wish_15 ?_
  refine cs_top (y := bI x) (hg) ?_
  refine lv_istore_n hx hb dX1_wish_16 rfl hl (by decide) rfl (fun ls hl => ?_)
  have hl : lv_has ls 4 [(3, .int (bI x)), (0, .ref o), (1, .int (nI j)), (2, .int (bI b))] := hl
  refine lv_aload_n hx hb dX1_wish_17 rfl (lv_at hl 1 rfl) ?_
  refine va_get (D := (dC, dI)) (ci := 1) (v := .ref b1) (C := RX1) (T := TX1) (N := 9) hx hb hts hin1 hown hK hP 0 rfl rfl 1 (by decide) (hts (.fieldLink RX1 7 "ClauseSolverModel" "wish" "[Z") (by decide +kernel)) (fun _ h9 => h9) rfl dX1_wish_18 ?_
  refine lv_iload_n hx hb dX1_wish_21 rfl (lv_at hl 2 rfl) ?_
  refine lv_iload_n hx hb dX1_wish_22 rfl (lv_at hl 3 rfl) ?_
  refine cs_zast hx hb hK hP hD hS 1 0 rfl rfl (bI_vn b) (by omega) (by decide) dX1_wish_23 (fun H locs hP hD hS => ?_)
  have hP : va_P (dC, dI) vwCl (mC o b1 b2 b3 e1 e2 e3 (nI N) (nI c) (nI y) (nI z) fo kn (upd g1 j (bI b)) g2 g3) H := hP
  have hD : va_D A (mC o b1 b2 b3 e1 e2 e3 (nI N) (nI c) (nI y) (nI z) fo kn (upd g1 j (bI b)) g2 g3) := hD
  refine lv_aload_n hx hb dX1_wish_24 rfl (lv_at hl 1 rfl) ?_
  refine lv_iconst (v := nI 0) hx hb dX1_wish_25 (by decide) ?_
  refine va_put (D := (dC, dI)) (ci := 1) (v := .int (nI 0)) (ty := .boolean) (C := RX1) (T := TX1) (N := 9) hx hb hts hin1 tyX1 tyX1_ok nmX1 hown hK hP hD hS 0 rfl rfl 8 (by decide) (hts (.fieldLink RX1 28 "ClauseSolverModel" "known" "Z") (by decide +kernel)) (fun _ h9 => h9) rfl (by decide +kernel) rfl rfl (Nat.le_of_ble_eq_true rfl) dX1_wish_26 (fun H locs hP hD hS => ?_)
  have hP : va_P (dC, dI) vwCl (mC o b1 b2 b3 e1 e2 e3 (nI N) (nI c) (nI y) (nI z) fo (nI 0) (upd g1 j (bI b)) g2 g3) H := hP
  have hD : va_D A (mC o b1 b2 b3 e1 e2 e3 (nI N) (nI c) (nI y) (nI z) fo (nI 0) (upd g1 j (bI b)) g2 g3) := hD
  refine lv_iload_n hx hb dX1_wish_29 rfl (lv_at hl 0 rfl) ?_
  exact W.zret (ty := .boolean) (v := bI x) hx hb hr (bI_nar _) (fun t ht hW => ⟨⟨bI x, (), rfl, rfl, by rw [ht]; exact hP, by rw [hAe]; exact hD⟩, hS.F ht⟩) hS.2.2 dX1_wish_30
set_option maxHeartbeats 4000000 in
set_option maxRecDepth 100000 in
theorem m_bits (l : Launch) {q : Nat} (hq0 : q < 65536) : Met l yX1_bits wsX1_bits ({ frames := 0, cells := 0, slots := 0, locals := 0 }) (va_Pc [.int (nI q)] (fun _ => True)) (vp_Si (fun r => r = nI (pcs q 16))) 0 0 (fun _ => False) := by
  refine Met.ofW (cc := cX1_bits) (maxL := 3) (ret := some .int) (by decide) rfl ?_
  intro p e s m args below meth c0 s₁ B hml hv0
  obtain ⟨rfl, -⟩ := hv0
  have hx := B.exec
  have hb := B.bytes
  have hr := B.returns
  have hts := atoms_spec (ws := wsX1_bits) B.pre
  have hown : s.vm.findClass RX1 = some m.cls := findClass_of_methodNamed B.named
  have hlocks := B.notSynchronized
  have hl := lv_entry ([.int (nI q)]) (n := 3) (Nat.le_of_ble_eq_true rfl)
  rw [lg_entry_eq]
  generalize (lg_sl ([.int (nI q)]) ++ List.replicate (3 - (lg_sl ([.int (nI q)])).length) Slot.unset).toArray = ls at hl ⊢
  have hl : lv_has ls 3 [(0, .int (nI q))] := hl
  refine lv_iconst (v := nI 0) hx hb dX1_bits_0 (by decide) ?_
  refine lv_istore_n hx hb dX1_bits_1 rfl hl (by decide) rfl (fun ls hl => ?_)
  have hl : lv_has ls 3 [(1, .int (nI 0)), (0, .int (nI q))] := hl
  refine lv_iconst (v := nI 0) hx hb dX1_bits_2 (by decide) ?_
  refine lv_istore_n hx hb dX1_bits_3 rfl hl (by decide) rfl (fun ls hl => ?_)
  have hl : lv_has ls 3 [(2, .int (nI 0)), (1, .int (nI 0)), (0, .int (nI q))] := hl
  refine cs_wl (σ := Nat) (fun n st ls => (n = 16 - st ∧ st ≤ 16) ∧ lv_has ls 3 [(0, .int (nI q)), (1, .int (nI (pcs q st))), (2, .int (nI st))]) ?_ 16 0 ls ⟨⟨rfl, by decide⟩, lv_sub hl [2, 1, 0] rfl⟩
  clear hl
  intro n st ls hI ih
  obtain ⟨⟨hn, hk⟩, hl⟩ := hI
  have hl : lv_has ls 3 [(0, .int (nI q)), (1, .int (nI (pcs q st))), (2, .int (nI st))] := hl
  refine lv_iload_n hx hb dX1_bits_4 rfl (lv_at hl 2 rfl) ?_
  refine lv_bipush (v := nI 16) hx hb dX1_bits_5 (by decide) ?_
  rcases Nat.lt_or_ge st 16 with hk1 | hk1
  · refine lv_icmp_ge hx hb dX1_bits_7 (tgt := 24) (by decide) (fun hq => absurd hq (nI_ge hk1 (by decide))) (fun _ => ?_)
    refine lv_iload_n hx hb dX1_bits_10 rfl (lv_at hl 1 rfl) ?_
    refine lv_iload_n hx hb dX1_bits_11 rfl (lv_at hl 0 rfl) ?_
    refine lv_iload_n hx hb dX1_bits_12 rfl (lv_at hl 2 rfl) ?_
    refine lv_ishr hx hb dX1_bits_13 ?_
    refine cs_top (y := nI (q / 2 ^ st)) (cs_shr (by omega) (by omega)) ?_
    refine lv_iconst (v := nI 1) hx hb dX1_bits_14 (by decide) ?_
    refine lv_iand hx hb dX1_bits_15 ?_
    refine cs_top (y := nI ((q / 2 ^ st) &&& 1)) (cs_and (q / 2 ^ st) 1) ?_
    refine lv_iadd hx hb dX1_bits_16 ?_
    refine cs_top (y := nI ((pcs q st) + ((q / 2 ^ st) &&& 1))) (nI_add (pcs q st) ((q / 2 ^ st) &&& 1)) ?_
    refine cs_top (y := nI (pcs q (st + 1))) (congrArg nI (by rw [Nat.and_one_is_mod]; rfl)) ?_
    refine lv_istore_n hx hb dX1_bits_17 rfl hl (by decide) rfl (fun ls hl => ?_)
    have hl : lv_has ls 3 [(1, .int (nI (pcs q (st + 1)))), (0, .int (nI q)), (2, .int (nI st))] := hl
    refine lv_iinc (v := nI (st + 1)) hx hb dX1_bits_18 hl (k := 2) rfl (cs_inc _ 1) (by decide) rfl (fun ls hl => ?_)
    have hl : lv_has ls 3 [(2, .int (nI (st + 1))), (1, .int (nI (pcs q (st + 1)))), (0, .int (nI q))] := hl
    refine lv_goto hx hb dX1_bits_21 (tgt := 4) (by decide) ?_
    exact ih (16 - (st + 1)) (st + 1) ls (by omega) ⟨⟨rfl, by omega⟩, lv_sub hl [2, 1, 0] rfl⟩
  · refine lv_icmp_ge hx hb dX1_bits_7 (tgt := 24) (by decide) (fun _ => ?_) (fun hq => absurd (nI_le hk1 (by omega)) hq)
    refine lv_iload_n hx hb dX1_bits_24 rfl (lv_at hl 1 rfl) ?_
    exact W.iret (v := nI (pcs q st)) hx hb hr (fun t ht hW => ⟨nI (pcs q st), rfl, by rw [show st = 16 by omega], ht⟩) (fun q h => by cases h) dX1_bits_25
set_option maxHeartbeats 4000000 in
set_option maxRecDepth 100000 in
theorem m_literal_out (l : Launch) (dC : Nat → ClassId) (dI : Nat → Nat → Nat) (o b1 b2 b3 : Nat) (e1 e2 e3 : ClassId) (N c y z : Nat) (fo kn : Int32) (g1 g2 g3 : Nat → Int32) {v : Int32} (hv : v < 0 ∨ nI N ≤ v) (x2 : Int32) : Met l yX1_literal wsX1_literal ({ frames := 1, cells := 0, slots := 0, locals := 30 }) (va_Pc [.ref o, .int v, .int x2] (rW (dC, dI) vwCl (mC o b1 b2 b3 e1 e2 e3 (nI N) (nI c) (nI y) (nI z) fo kn g1 g2 g3) (mT e1 e2 e3))) (vp_Si (fun r => r = -1)) 0 0 (fun _ => False) := by
  refine Met.ofW (cc := cX1_literal) (maxL := 3) (ret := some .int) (by decide) rfl ?_
  intro p e s m args below meth c0 s₁ B hml hv0
  obtain ⟨rfl, hP, hK⟩ := hv0
  have hx := B.exec
  have hb := B.bytes
  have hr := B.returns
  have hts := atoms_spec (ws := wsX1_literal) B.pre
  have hown : s.vm.findClass RX1 = some m.cls := findClass_of_methodNamed B.named
  have hlocks := B.notSynchronized
  have hP : va_P (dC, dI) vwCl (mC o b1 b2 b3 e1 e2 e3 (nI N) (nI c) (nI y) (nI z) fo kn g1 g2 g3) s.heap := hP
  have hin1 : ∀ w ∈ u_ws RX1 TX1 9, w ∈ wsX1_literal := by decide +kernel
  have hl := lv_entry ([.ref o, .int v, .int x2]) (n := 3) (Nat.le_of_ble_eq_true rfl)
  rw [lg_entry_eq]
  generalize (lg_sl ([.ref o, .int v, .int x2]) ++ List.replicate (3 - (lg_sl ([.ref o, .int v, .int x2])).length) Slot.unset).toArray = ls at hl ⊢
  have hl : lv_has ls 3 [(0, .ref o), (1, .int v), (2, .int x2)] := hl
  refine lv_aload_n hx hb dX1_literal_0 rfl (lv_at hl 0 rfl) ?_
  refine lv_iload_n hx hb dX1_literal_1 rfl (lv_at hl 1 rfl) ?_
  refine vp_callSi (W.runV (As := [.int v]) (rest := []) ⟨hx, hb, hml, hown, hts⟩ (m_is_out l dC dI o b1 b2 b3 e1 e2 e3 N c y z fo kn g1 g2 g3 hv) (cwV 1 hts gX1_literal_X1_is rfl rfl rfl (by decide +kernel) ⟨Nat.le_of_ble_eq_true rfl, Nat.le_of_ble_eq_true rfl⟩) (rW_preV hP hK (va_recv (q := (RX1, TX1, 9)) (q0 := 0) hK hP rfl rfl)) rfl rfl hl.1 rfl (lv_room (Nat.le_of_ble_eq_true rfl)) dX1_literal_2 ⟨Nat.le_refl _, Nat.le_refl _⟩) (fun r0 hr0 => ?_)
  subst hr0
  refine lv_if_ne hx hb dX1_literal_5 (tgt := 10) (by decide) (fun hq => absurd (nI_0) hq) (fun _ => ?_)
  refine lv_iconst (v := (-1)) hx hb dX1_literal_8 (by decide) ?_
  exact W.iret (v := (-1)) hx hb hr (fun t ht hW => ⟨(-1), rfl, rfl, ht⟩) (fun q h => by cases h) dX1_literal_9
set_option maxHeartbeats 4000000 in
set_option maxRecDepth 100000 in
theorem m_literal (l : Launch) (sz : Nat) (dC : Nat → ClassId) (dI : Nat → Nat → Nat) (o b1 b2 b3 : Nat) (e1 e2 e3 : ClassId) (N c y z : Nat) (fo kn : Int32) (g1 g2 g3 : Nat → Int32) (hN : N ≤ 16) (hy : y < 2 ^ N) (hz : z < 2 ^ N) {j : Nat} (hj : j < N) (b : Bool) : Met l yX1_literal wsX1_literal ({ frames := 1, cells := 0, slots := 0, locals := 30 }) (va_Pc [.ref o, .int (nI j), .int (bI b)] (wW (dC, dI) vwCl (mC o b1 b2 b3 e1 e2 e3 (nI N) (nI c) (nI y) (nI z) fo kn g1 g2 g3) (mT e1 e2 e3) sz)) (va_Qi (fun (r : Int32) (u : Unit) => r = nI (pcs (lt1 y j b) 16 + pcs (lt0 z j b) 16)) (oW (dC, dI) vwCl (mC o b1 b2 b3 e1 e2 e3 (nI N) (nI c) (nI y) (nI z) fo kn g1 g2 g3) sz (fun u : Unit => (mC o b1 b2 b3 e1 e2 e3 (nI N) (nI c) (nI (lt1 y j b)) (nI (lt0 z j b)) fo kn g1 g2 g3))) (va_A (mC o b1 b2 b3 e1 e2 e3 (nI N) (nI c) (nI y) (nI z) fo kn g1 g2 g3) sz)) 0 0 (va_A (mC o b1 b2 b3 e1 e2 e3 (nI N) (nI c) (nI y) (nI z) fo kn g1 g2 g3) sz) := by
  refine Met.ofW (cc := cX1_literal) (maxL := 3) (ret := some .int) (by decide) rfl ?_
  intro p e s m args below meth c0 s₁ B hml hv0
  obtain ⟨rfl, hsz, hP, hK, hD0⟩ := hv0
  have hx := B.exec
  have hb := B.bytes
  have hr := B.returns
  have hts := atoms_spec (ws := wsX1_literal) B.pre
  have hown : s.vm.findClass RX1 = some m.cls := findClass_of_methodNamed B.named
  have hlocks := B.notSynchronized
  subst hsz
  have hD := hD0.self (sz := s.heap.size)
  generalize hAe : va_A (mC o b1 b2 b3 e1 e2 e3 (nI N) (nI c) (nI y) (nI z) fo kn g1 g2 g3) s.heap.size = A at hD ⊢
  have hA : ∀ q : Nat, s.heap.size ≤ q → A q := fun q h => by rw [← hAe]; exact Or.inr h
  have hS : va_S A s.heap s.heap [] := va_S.rf
  have hP : va_P (dC, dI) vwCl (mC o b1 b2 b3 e1 e2 e3 (nI N) (nI c) (nI y) (nI z) fo kn g1 g2 g3) s.heap := hP
  have hin1 : ∀ w ∈ u_ws RX1 TX1 9, w ∈ wsX1_literal := by decide +kernel
  have hl := lv_entry ([.ref o, .int (nI j), .int (bI b)]) (n := 3) (Nat.le_of_ble_eq_true rfl)
  rw [lg_entry_eq]
  generalize (lg_sl ([.ref o, .int (nI j), .int (bI b)]) ++ List.replicate (3 - (lg_sl ([.ref o, .int (nI j), .int (bI b)])).length) Slot.unset).toArray = ls at hl ⊢
  have hl : lv_has ls 3 [(0, .ref o), (1, .int (nI j)), (2, .int (bI b))] := hl
  refine lv_aload_n hx hb dX1_literal_0 rfl (lv_at hl 0 rfl) ?_
  refine lv_iload_n hx hb dX1_literal_1 rfl (lv_at hl 1 rfl) ?_
  refine vp_callSi (W.runV (As := [.int (nI j)]) (rest := []) ⟨hx, hb, hml, hown, hts⟩ (m_is_in l dC dI o b1 b2 b3 e1 e2 e3 N c y z fo kn g1 g2 g3 hN hj) (cwV 1 hts gX1_literal_X1_is rfl rfl rfl (by decide +kernel) ⟨Nat.le_of_ble_eq_true rfl, Nat.le_of_ble_eq_true rfl⟩) (rW_preV hP hK (va_recv (q := (RX1, TX1, 9)) (q0 := 0) hK hP rfl rfl)) rfl rfl hl.1 rfl (lv_room (Nat.le_of_ble_eq_true rfl)) dX1_literal_2 ⟨Nat.le_refl _, Nat.le_refl _⟩) (fun r0 hr0 => ?_)
  subst hr0
  refine lv_if_ne hx hb dX1_literal_5 (tgt := 10) (by decide) (fun _ => ?_) (fun hq => absurd hq (by decide))
  refine lv_iload_n hx hb dX1_literal_10 rfl (lv_at hl 2 rfl) ?_
  have hy9 := fun b => cs_N31 hN (lt1_lt hy hj b)
  have hz9 := fun b => cs_N31 hN (lt0_lt hz hj b)
  cases b with
  | true =>
    refine lv_if_eq hx hb dX1_literal_11 (tgt := 29) (by decide) (fun hq => absurd hq (by decide)) (fun _ => ?_)
    refine lv_aload_n hx hb dX1_literal_14 rfl (lv_at hl 0 rfl) ?_
    refine lv_dup hx hb dX1_literal_15 rfl ?_
    refine va_get (D := (dC, dI)) (ci := 1) (v := .int (nI y)) (C := RX1) (T := TX1) (N := 9) hx hb hts hin1 hown hK hP 0 rfl rfl 5 (by decide) (hts (.fieldLink RX1 32 "ClauseSolverModel" "ownYes" "I") (by decide +kernel)) (fun _ h9 => h9) rfl dX1_literal_16 ?_
    refine lv_iconst (v := nI 1) hx hb dX1_literal_19 (by decide) ?_
    refine lv_iload_n hx hb dX1_literal_20 rfl (lv_at hl 1 rfl) ?_
    refine lv_ishl hx hb dX1_literal_21 ?_
    refine cs_top (y := nI (2 ^ j)) (cs_one (by omega)) ?_
    refine lv_ior hx hb dX1_literal_22 ?_
    refine cs_top (y := nI (y ||| (2 ^ j))) (cs_or y (2 ^ j)) ?_
    refine cs_top (y := nI (lt1 y j true)) (rfl) ?_
    refine va_put (D := (dC, dI)) (ci := 1) (v := .int (nI (lt1 y j true))) (ty := .int) (C := RX1) (T := TX1) (N := 9) hx hb hts hin1 tyX1 tyX1_ok nmX1 hown hK hP hD hS 0 rfl rfl 5 (by decide) (hts (.fieldLink RX1 32 "ClauseSolverModel" "ownYes" "I") (by decide +kernel)) (fun _ h9 => h9) rfl (by decide +kernel) rfl rfl (Nat.le_of_ble_eq_true rfl) dX1_literal_23 (fun H locs hP hD hS => ?_)
    have hP : va_P (dC, dI) vwCl (mC o b1 b2 b3 e1 e2 e3 (nI N) (nI c) (nI (lt1 y j true)) (nI z) fo kn g1 g2 g3) H := hP
    have hD : va_D A (mC o b1 b2 b3 e1 e2 e3 (nI N) (nI c) (nI (lt1 y j true)) (nI z) fo kn g1 g2 g3) := hD
    refine lv_goto hx hb dX1_literal_26 (tgt := 41) (by decide) ?_
    refine lv_aload_n hx hb dX1_literal_41 rfl (lv_at hl 0 rfl) ?_
    refine va_get (D := (dC, dI)) (ci := 1) (v := .int (nI (lt1 y j true))) (C := RX1) (T := TX1) (N := 9) hx hb hts hin1 hown hK hP 0 rfl rfl 5 (by decide) (hts (.fieldLink RX1 32 "ClauseSolverModel" "ownYes" "I") (by decide +kernel)) (fun _ h9 => h9) rfl dX1_literal_42 ?_
    refine vp_callSi (W.runS (As := [.int (nI (lt1 y j true))]) (rest := []) ⟨hx, hb, hml, hown, hts⟩ (m_bits l (hy9 true)) (va_cwS 1 hts gX1_literal_X1_bits rfl rfl rfl (by decide +kernel) ⟨Nat.le_of_ble_eq_true rfl, Nat.le_of_ble_eq_true rfl⟩) (nW_preS) rfl rfl hl.1 rfl (lv_room (Nat.le_of_ble_eq_true rfl)) dX1_literal_45 ⟨Nat.le_refl _, Nat.le_refl _⟩) (fun r0 hr0 => ?_)
    subst hr0
    refine lv_aload_n hx hb dX1_literal_48 rfl (lv_at hl 0 rfl) ?_
    refine va_get (D := (dC, dI)) (ci := 1) (v := .int (nI z)) (C := RX1) (T := TX1) (N := 9) hx hb hts hin1 hown hK hP 0 rfl rfl 6 (by decide) (hts (.fieldLink RX1 35 "ClauseSolverModel" "ownNo" "I") (by decide +kernel)) (fun _ h9 => h9) rfl dX1_literal_49 ?_
    refine vp_callSi (W.runS (As := [.int (nI z)]) (rest := [.int (nI (pcs (lt1 y j true) 16))]) ⟨hx, hb, hml, hown, hts⟩ (m_bits l (hz9 true)) (va_cwS 1 hts gX1_literal_X1_bits rfl rfl rfl (by decide +kernel) ⟨Nat.le_of_ble_eq_true rfl, Nat.le_of_ble_eq_true rfl⟩) (nW_preS) rfl rfl hl.1 rfl (lv_room (Nat.le_of_ble_eq_true rfl)) dX1_literal_52 ⟨Nat.le_refl _, Nat.le_refl _⟩) (fun r0 hr0 => ?_)
    subst hr0
    refine lv_iadd hx hb dX1_literal_55 ?_
    refine cs_top (y := nI ((pcs (lt1 y j true) 16) + (pcs (lt0 z j true) 16))) (nI_add (pcs (lt1 y j true) 16) (pcs (lt0 z j true) 16)) ?_
    exact W.iret (v := nI ((pcs (lt1 y j true) 16) + (pcs (lt0 z j true) 16))) hx hb hr (fun t ht hW => ⟨⟨nI ((pcs (lt1 y j true) 16) + (pcs (lt0 z j true) 16)), (), rfl, rfl, by rw [ht]; exact hP, by rw [hAe]; exact hD⟩, hS.F ht⟩) hS.2.2 dX1_literal_56
  | false =>
    refine lv_if_eq hx hb dX1_literal_11 (tgt := 29) (by decide) (fun _ => ?_) (fun hq => absurd (nI_0) hq)
    refine lv_aload_n hx hb dX1_literal_29 rfl (lv_at hl 0 rfl) ?_
    refine lv_dup hx hb dX1_literal_30 rfl ?_
    refine va_get (D := (dC, dI)) (ci := 1) (v := .int (nI z)) (C := RX1) (T := TX1) (N := 9) hx hb hts hin1 hown hK hP 0 rfl rfl 6 (by decide) (hts (.fieldLink RX1 35 "ClauseSolverModel" "ownNo" "I") (by decide +kernel)) (fun _ h9 => h9) rfl dX1_literal_31 ?_
    refine lv_iconst (v := nI 1) hx hb dX1_literal_34 (by decide) ?_
    refine lv_iload_n hx hb dX1_literal_35 rfl (lv_at hl 1 rfl) ?_
    refine lv_ishl hx hb dX1_literal_36 ?_
    refine cs_top (y := nI (2 ^ j)) (cs_one (by omega)) ?_
    refine lv_ior hx hb dX1_literal_37 ?_
    refine cs_top (y := nI (z ||| (2 ^ j))) (cs_or z (2 ^ j)) ?_
    refine cs_top (y := nI (lt0 z j false)) (rfl) ?_
    refine va_put (D := (dC, dI)) (ci := 1) (v := .int (nI (lt0 z j false))) (ty := .int) (C := RX1) (T := TX1) (N := 9) hx hb hts hin1 tyX1 tyX1_ok nmX1 hown hK hP hD hS 0 rfl rfl 6 (by decide) (hts (.fieldLink RX1 35 "ClauseSolverModel" "ownNo" "I") (by decide +kernel)) (fun _ h9 => h9) rfl (by decide +kernel) rfl rfl (Nat.le_of_ble_eq_true rfl) dX1_literal_38 (fun H locs hP hD hS => ?_)
    have hP : va_P (dC, dI) vwCl (mC o b1 b2 b3 e1 e2 e3 (nI N) (nI c) (nI y) (nI (lt0 z j false)) fo kn g1 g2 g3) H := hP
    have hD : va_D A (mC o b1 b2 b3 e1 e2 e3 (nI N) (nI c) (nI y) (nI (lt0 z j false)) fo kn g1 g2 g3) := hD
    refine lv_aload_n hx hb dX1_literal_41 rfl (lv_at hl 0 rfl) ?_
    refine va_get (D := (dC, dI)) (ci := 1) (v := .int (nI y)) (C := RX1) (T := TX1) (N := 9) hx hb hts hin1 hown hK hP 0 rfl rfl 5 (by decide) (hts (.fieldLink RX1 32 "ClauseSolverModel" "ownYes" "I") (by decide +kernel)) (fun _ h9 => h9) rfl dX1_literal_42 ?_
    refine vp_callSi (W.runS (As := [.int (nI y)]) (rest := []) ⟨hx, hb, hml, hown, hts⟩ (m_bits l (hy9 false)) (va_cwS 1 hts gX1_literal_X1_bits rfl rfl rfl (by decide +kernel) ⟨Nat.le_of_ble_eq_true rfl, Nat.le_of_ble_eq_true rfl⟩) (nW_preS) rfl rfl hl.1 rfl (lv_room (Nat.le_of_ble_eq_true rfl)) dX1_literal_45 ⟨Nat.le_refl _, Nat.le_refl _⟩) (fun r0 hr0 => ?_)
    subst hr0
    refine lv_aload_n hx hb dX1_literal_48 rfl (lv_at hl 0 rfl) ?_
    refine va_get (D := (dC, dI)) (ci := 1) (v := .int (nI (lt0 z j false))) (C := RX1) (T := TX1) (N := 9) hx hb hts hin1 hown hK hP 0 rfl rfl 6 (by decide) (hts (.fieldLink RX1 35 "ClauseSolverModel" "ownNo" "I") (by decide +kernel)) (fun _ h9 => h9) rfl dX1_literal_49 ?_
    refine vp_callSi (W.runS (As := [.int (nI (lt0 z j false))]) (rest := [.int (nI (pcs (lt1 y j false) 16))]) ⟨hx, hb, hml, hown, hts⟩ (m_bits l (hz9 false)) (va_cwS 1 hts gX1_literal_X1_bits rfl rfl rfl (by decide +kernel) ⟨Nat.le_of_ble_eq_true rfl, Nat.le_of_ble_eq_true rfl⟩) (nW_preS) rfl rfl hl.1 rfl (lv_room (Nat.le_of_ble_eq_true rfl)) dX1_literal_52 ⟨Nat.le_refl _, Nat.le_refl _⟩) (fun r0 hr0 => ?_)
    subst hr0
    refine lv_iadd hx hb dX1_literal_55 ?_
    refine cs_top (y := nI ((pcs (lt1 y j false) 16) + (pcs (lt0 z j false) 16))) (nI_add (pcs (lt1 y j false) 16) (pcs (lt0 z j false) 16)) ?_
    exact W.iret (v := nI ((pcs (lt1 y j false) 16) + (pcs (lt0 z j false) 16))) hx hb hr (fun t ht hW => ⟨⟨nI ((pcs (lt1 y j false) 16) + (pcs (lt0 z j false) 16)), (), rfl, rfl, by rw [ht]; exact hP, by rw [hAe]; exact hD⟩, hS.F ht⟩) hS.2.2 dX1_literal_56
set_option maxHeartbeats 4000000 in
set_option maxRecDepth 100000 in
theorem m_some_full (l : Launch) (dC : Nat → ClassId) (dI : Nat → Nat → Nat) (o b1 b2 b3 : Nat) (e1 e2 e3 : ClassId) (N c y z : Nat) (fo kn : Int32) (g1 g2 g3 : Nat → Int32) (hc : c = 400) (x1 x2 : Int32) : Met l yX1_some wsX1_some ({ frames := 0, cells := 0, slots := 0, locals := 0 }) (va_Pc [.ref o, .int x1, .int x2] (rW (dC, dI) vwCl (mC o b1 b2 b3 e1 e2 e3 (nI N) (nI c) (nI y) (nI z) fo kn g1 g2 g3) (mT e1 e2 e3))) (vp_Si (fun r => r = -3)) 0 0 (fun _ => False) := by
  refine Met.ofW (cc := cX1_some) (maxL := 3) (ret := some .int) (by decide) rfl ?_
  intro p e s m args below meth c0 s₁ B hml hv0
  obtain ⟨rfl, hP, hK⟩ := hv0
  have hx := B.exec
  have hb := B.bytes
  have hr := B.returns
  have hts := atoms_spec (ws := wsX1_some) B.pre
  have hown : s.vm.findClass RX1 = some m.cls := findClass_of_methodNamed B.named
  have hlocks := B.notSynchronized
  have hP : va_P (dC, dI) vwCl (mC o b1 b2 b3 e1 e2 e3 (nI N) (nI c) (nI y) (nI z) fo kn g1 g2 g3) s.heap := hP
  have hin1 : ∀ w ∈ u_ws RX1 TX1 9, w ∈ wsX1_some := by decide +kernel
  have hl := lv_entry ([.ref o, .int x1, .int x2]) (n := 3) (Nat.le_of_ble_eq_true rfl)
  rw [lg_entry_eq]
  generalize (lg_sl ([.ref o, .int x1, .int x2]) ++ List.replicate (3 - (lg_sl ([.ref o, .int x1, .int x2])).length) Slot.unset).toArray = ls at hl ⊢
  have hl : lv_has ls 3 [(0, .ref o), (1, .int x1), (2, .int x2)] := hl
  refine lv_aload_n hx hb dX1_some_0 rfl (lv_at hl 0 rfl) ?_
  refine va_get (D := (dC, dI)) (ci := 1) (v := .int (nI c)) (C := RX1) (T := TX1) (N := 9) hx hb hts hin1 hown hK hP 0 rfl rfl 4 (by decide) (hts (.fieldLink RX1 42 "ClauseSolverModel" "count" "I") (by decide +kernel)) (fun _ h9 => h9) rfl dX1_some_1 ?_
  refine lv_sipush (v := nI 400) hx hb dX1_some_4 (by decide) ?_
  refine lv_icmp_ne hx hb dX1_some_7 (tgt := 13) (by decide) (fun hq => absurd (congrArg nI hc) hq) (fun _ => ?_)
  refine lv_bipush (v := (-3)) hx hb dX1_some_10 (by decide) ?_
  exact W.iret (v := (-3)) hx hb hr (fun t ht hW => ⟨(-3), rfl, rfl, ht⟩) (fun q h => by cases h) dX1_some_12
set_option maxHeartbeats 4000000 in
set_option maxRecDepth 100000 in
theorem m_some (l : Launch) (sz : Nat) (dC : Nat → ClassId) (dI : Nat → Nat → Nat) (o b1 b2 b3 : Nat) (e1 e2 e3 : ClassId) (N c y z : Nat) (fo kn : Int32) (g1 g2 g3 : Nat → Int32) (hN : N ≤ 16) (hc : c < 400) (x1 x2 : Int32) : Met l yX1_some wsX1_some ({ frames := 0, cells := 0, slots := 0, locals := 0 }) (va_Pc [.ref o, .int x1, .int x2] (wW (dC, dI) vwCl (mC o b1 b2 b3 e1 e2 e3 (nI N) (nI c) (nI y) (nI z) fo kn g1 g2 g3) (mT e1 e2 e3) sz)) (va_Qi (fun (r : Int32) (u : Unit) => r = nI (c + 1)) (oW (dC, dI) vwCl (mC o b1 b2 b3 e1 e2 e3 (nI N) (nI c) (nI y) (nI z) fo kn g1 g2 g3) sz (fun u : Unit => (mC o b1 b2 b3 e1 e2 e3 (nI N) (nI (c + 1)) (nI y) (nI z) fo (nI 0) g1 (upd g2 c (nI (lo x1 N))) (upd g3 c (nI (lo x2 N)))))) (va_A (mC o b1 b2 b3 e1 e2 e3 (nI N) (nI c) (nI y) (nI z) fo kn g1 g2 g3) sz)) 0 0 (va_A (mC o b1 b2 b3 e1 e2 e3 (nI N) (nI c) (nI y) (nI z) fo kn g1 g2 g3) sz) := by
  refine Met.ofW (cc := cX1_some) (maxL := 3) (ret := some .int) (by decide) rfl ?_
  intro p e s m args below meth c0 s₁ B hml hv0
  obtain ⟨rfl, hsz, hP, hK, hD0⟩ := hv0
  have hx := B.exec
  have hb := B.bytes
  have hr := B.returns
  have hts := atoms_spec (ws := wsX1_some) B.pre
  have hown : s.vm.findClass RX1 = some m.cls := findClass_of_methodNamed B.named
  have hlocks := B.notSynchronized
  subst hsz
  have hD := hD0.self (sz := s.heap.size)
  generalize hAe : va_A (mC o b1 b2 b3 e1 e2 e3 (nI N) (nI c) (nI y) (nI z) fo kn g1 g2 g3) s.heap.size = A at hD ⊢
  have hA : ∀ q : Nat, s.heap.size ≤ q → A q := fun q h => by rw [← hAe]; exact Or.inr h
  have hS : va_S A s.heap s.heap [] := va_S.rf
  have hP : va_P (dC, dI) vwCl (mC o b1 b2 b3 e1 e2 e3 (nI N) (nI c) (nI y) (nI z) fo kn g1 g2 g3) s.heap := hP
  have hin1 : ∀ w ∈ u_ws RX1 TX1 9, w ∈ wsX1_some := by decide +kernel
  have hl := lv_entry ([.ref o, .int x1, .int x2]) (n := 3) (Nat.le_of_ble_eq_true rfl)
  rw [lg_entry_eq]
  generalize (lg_sl ([.ref o, .int x1, .int x2]) ++ List.replicate (3 - (lg_sl ([.ref o, .int x1, .int x2])).length) Slot.unset).toArray = ls at hl ⊢
  have hl : lv_has ls 3 [(0, .ref o), (1, .int x1), (2, .int x2)] := hl
  refine lv_aload_n hx hb dX1_some_0 rfl (lv_at hl 0 rfl) ?_
  refine va_get (D := (dC, dI)) (ci := 1) (v := .int (nI c)) (C := RX1) (T := TX1) (N := 9) hx hb hts hin1 hown hK hP 0 rfl rfl 4 (by decide) (hts (.fieldLink RX1 42 "ClauseSolverModel" "count" "I") (by decide +kernel)) (fun _ h9 => h9) rfl dX1_some_1 ?_
  refine lv_sipush (v := nI 400) hx hb dX1_some_4 (by decide) ?_
  refine lv_icmp_ne hx hb dX1_some_7 (tgt := 13) (by decide) (fun _ => ?_) (fun hq => absurd hq ((fun z9 => absurd ((nI_eq (by omega) (by omega)).mp z9) (by omega))))
  refine lv_aload_n hx hb dX1_some_13 rfl (lv_at hl 0 rfl) ?_
  refine va_get (D := (dC, dI)) (ci := 1) (v := .ref b2) (C := RX1) (T := TX1) (N := 9) hx hb hts hin1 hown hK hP 0 rfl rfl 2 (by decide) (hts (.fieldLink RX1 13 "ClauseSolverModel" "yes" "[I") (by decide +kernel)) (fun _ h9 => h9) rfl dX1_some_14 ?_
  refine lv_aload_n hx hb dX1_some_17 rfl (lv_at hl 0 rfl) ?_
  refine va_get (D := (dC, dI)) (ci := 1) (v := .int (nI c)) (C := RX1) (T := TX1) (N := 9) hx hb hts hin1 hown hK hP 0 rfl rfl 4 (by decide) (hts (.fieldLink RX1 42 "ClauseSolverModel" "count" "I") (by decide +kernel)) (fun _ h9 => h9) rfl dX1_some_18 ?_
  refine lv_iload_n hx hb dX1_some_21 rfl (lv_at hl 1 rfl) ?_
  refine lv_iconst (v := nI 1) hx hb dX1_some_22 (by decide) ?_
  refine lv_aload_n hx hb dX1_some_23 rfl (lv_at hl 0 rfl) ?_
  refine va_get (D := (dC, dI)) (ci := 1) (v := .int (nI N)) (C := RX1) (T := TX1) (N := 9) hx hb hts hin1 hown hK hP 0 rfl rfl 0 (by decide) (hts (.fieldLink RX1 20 "ClauseSolverModel" "variables" "I") (by decide +kernel)) (fun _ h9 => h9) rfl dX1_some_24 ?_
  refine lv_ishl hx hb dX1_some_27 ?_
  refine cs_top (y := nI (2 ^ N)) (cs_one (by omega)) ?_
  refine lv_iconst (v := nI 1) hx hb dX1_some_28 (by decide) ?_
  refine lv_isub hx hb dX1_some_29 ?_
  refine cs_top (y := nI (2 ^ N - 1)) (cs_low (by omega)) ?_
  refine lv_iand hx hb dX1_some_30 ?_
  refine cs_top (y := nI (lo x1 N)) (cs_mask x1 (by omega)) ?_
  refine cs_iast hx hb hK hP hD hS 2 1 rfl rfl (hc) (by decide) dX1_some_31 (fun H locs hP hD hS => ?_)
  have hP : va_P (dC, dI) vwCl (mC o b1 b2 b3 e1 e2 e3 (nI N) (nI c) (nI y) (nI z) fo kn g1 (upd g2 c (nI (lo x1 N))) g3) H := hP
  have hD : va_D A (mC o b1 b2 b3 e1 e2 e3 (nI N) (nI c) (nI y) (nI z) fo kn g1 (upd g2 c (nI (lo x1 N))) g3) := hD
  refine lv_aload_n hx hb dX1_some_32 rfl (lv_at hl 0 rfl) ?_
  refine va_get (D := (dC, dI)) (ci := 1) (v := .ref b3) (C := RX1) (T := TX1) (N := 9) hx hb hts hin1 hown hK hP 0 rfl rfl 3 (by decide) (hts (.fieldLink RX1 17 "ClauseSolverModel" "no" "[I") (by decide +kernel)) (fun _ h9 => h9) rfl dX1_some_33 ?_
  refine lv_aload_n hx hb dX1_some_36 rfl (lv_at hl 0 rfl) ?_
  refine va_get (D := (dC, dI)) (ci := 1) (v := .int (nI c)) (C := RX1) (T := TX1) (N := 9) hx hb hts hin1 hown hK hP 0 rfl rfl 4 (by decide) (hts (.fieldLink RX1 42 "ClauseSolverModel" "count" "I") (by decide +kernel)) (fun _ h9 => h9) rfl dX1_some_37 ?_
  refine lv_iload_n hx hb dX1_some_40 rfl (lv_at hl 2 rfl) ?_
  refine lv_iconst (v := nI 1) hx hb dX1_some_41 (by decide) ?_
  refine lv_aload_n hx hb dX1_some_42 rfl (lv_at hl 0 rfl) ?_
  refine va_get (D := (dC, dI)) (ci := 1) (v := .int (nI N)) (C := RX1) (T := TX1) (N := 9) hx hb hts hin1 hown hK hP 0 rfl rfl 0 (by decide) (hts (.fieldLink RX1 20 "ClauseSolverModel" "variables" "I") (by decide +kernel)) (fun _ h9 => h9) rfl dX1_some_43 ?_
  refine lv_ishl hx hb dX1_some_46 ?_
  refine cs_top (y := nI (2 ^ N)) (cs_one (by omega)) ?_
  refine lv_iconst (v := nI 1) hx hb dX1_some_47 (by decide) ?_
  refine lv_isub hx hb dX1_some_48 ?_
  refine cs_top (y := nI (2 ^ N - 1)) (cs_low (by omega)) ?_
  refine lv_iand hx hb dX1_some_49 ?_
  refine cs_top (y := nI (lo x2 N)) (cs_mask x2 (by omega)) ?_
  refine cs_iast hx hb hK hP hD hS 3 2 rfl rfl (hc) (by decide) dX1_some_50 (fun H locs hP hD hS => ?_)
  have hP : va_P (dC, dI) vwCl (mC o b1 b2 b3 e1 e2 e3 (nI N) (nI c) (nI y) (nI z) fo kn g1 (upd g2 c (nI (lo x1 N))) (upd g3 c (nI (lo x2 N)))) H := hP
  have hD : va_D A (mC o b1 b2 b3 e1 e2 e3 (nI N) (nI c) (nI y) (nI z) fo kn g1 (upd g2 c (nI (lo x1 N))) (upd g3 c (nI (lo x2 N)))) := hD
  refine lv_aload_n hx hb dX1_some_51 rfl (lv_at hl 0 rfl) ?_
  refine lv_dup hx hb dX1_some_52 rfl ?_
  refine va_get (D := (dC, dI)) (ci := 1) (v := .int (nI c)) (C := RX1) (T := TX1) (N := 9) hx hb hts hin1 hown hK hP 0 rfl rfl 4 (by decide) (hts (.fieldLink RX1 42 "ClauseSolverModel" "count" "I") (by decide +kernel)) (fun _ h9 => h9) rfl dX1_some_53 ?_
  refine lv_iconst (v := nI 1) hx hb dX1_some_56 (by decide) ?_
  refine lv_iadd hx hb dX1_some_57 ?_
  refine cs_top (y := nI (c + 1)) (nI_add c 1) ?_
  refine va_put (D := (dC, dI)) (ci := 1) (v := .int (nI (c + 1))) (ty := .int) (C := RX1) (T := TX1) (N := 9) hx hb hts hin1 tyX1 tyX1_ok nmX1 hown hK hP hD hS 0 rfl rfl 4 (by decide) (hts (.fieldLink RX1 42 "ClauseSolverModel" "count" "I") (by decide +kernel)) (fun _ h9 => h9) rfl (by decide +kernel) rfl rfl (Nat.le_of_ble_eq_true rfl) dX1_some_58 (fun H locs hP hD hS => ?_)
  have hP : va_P (dC, dI) vwCl (mC o b1 b2 b3 e1 e2 e3 (nI N) (nI (c + 1)) (nI y) (nI z) fo kn g1 (upd g2 c (nI (lo x1 N))) (upd g3 c (nI (lo x2 N)))) H := hP
  have hD : va_D A (mC o b1 b2 b3 e1 e2 e3 (nI N) (nI (c + 1)) (nI y) (nI z) fo kn g1 (upd g2 c (nI (lo x1 N))) (upd g3 c (nI (lo x2 N)))) := hD
  refine lv_aload_n hx hb dX1_some_61 rfl (lv_at hl 0 rfl) ?_
  refine lv_iconst (v := nI 0) hx hb dX1_some_62 (by decide) ?_
  refine va_put (D := (dC, dI)) (ci := 1) (v := .int (nI 0)) (ty := .boolean) (C := RX1) (T := TX1) (N := 9) hx hb hts hin1 tyX1 tyX1_ok nmX1 hown hK hP hD hS 0 rfl rfl 8 (by decide) (hts (.fieldLink RX1 28 "ClauseSolverModel" "known" "Z") (by decide +kernel)) (fun _ h9 => h9) rfl (by decide +kernel) rfl rfl (Nat.le_of_ble_eq_true rfl) dX1_some_63 (fun H locs hP hD hS => ?_)
  have hP : va_P (dC, dI) vwCl (mC o b1 b2 b3 e1 e2 e3 (nI N) (nI (c + 1)) (nI y) (nI z) fo (nI 0) g1 (upd g2 c (nI (lo x1 N))) (upd g3 c (nI (lo x2 N)))) H := hP
  have hD : va_D A (mC o b1 b2 b3 e1 e2 e3 (nI N) (nI (c + 1)) (nI y) (nI z) fo (nI 0) g1 (upd g2 c (nI (lo x1 N))) (upd g3 c (nI (lo x2 N)))) := hD
  refine lv_aload_n hx hb dX1_some_66 rfl (lv_at hl 0 rfl) ?_
  refine va_get (D := (dC, dI)) (ci := 1) (v := .int (nI (c + 1))) (C := RX1) (T := TX1) (N := 9) hx hb hts hin1 hown hK hP 0 rfl rfl 4 (by decide) (hts (.fieldLink RX1 42 "ClauseSolverModel" "count" "I") (by decide +kernel)) (fun _ h9 => h9) rfl dX1_some_67 ?_
  exact W.iret (v := nI (c + 1)) hx hb hr (fun t ht hW => ⟨⟨nI (c + 1), (), rfl, rfl, by rw [ht]; exact hP, by rw [hAe]; exact hD⟩, hS.F ht⟩) hS.2.2 dX1_some_70
set_option maxHeartbeats 4000000 in
set_option maxRecDepth 100000 in
theorem m_clause_full (l : Launch) (dC : Nat → ClassId) (dI : Nat → Nat → Nat) (o b1 b2 b3 : Nat) (e1 e2 e3 : ClassId) (N c y z : Nat) (fo kn : Int32) (g1 g2 g3 : Nat → Int32) (hc : c = 400) : Met l yX1_clause wsX1_clause ({ frames := 1, cells := 0, slots := 0, locals := 30 }) (va_Pc [.ref o] (rW (dC, dI) vwCl (mC o b1 b2 b3 e1 e2 e3 (nI N) (nI c) (nI y) (nI z) fo kn g1 g2 g3) (mT e1 e2 e3))) (vp_Si (fun r => r = -3)) 0 0 (fun _ => False) := by
  refine Met.ofW (cc := cX1_clause) (maxL := 1) (ret := some .int) (by decide) rfl ?_
  intro p e s m args below meth c0 s₁ B hml hv0
  obtain ⟨rfl, hP, hK⟩ := hv0
  have hx := B.exec
  have hb := B.bytes
  have hr := B.returns
  have hts := atoms_spec (ws := wsX1_clause) B.pre
  have hown : s.vm.findClass RX1 = some m.cls := findClass_of_methodNamed B.named
  have hlocks := B.notSynchronized
  have hP : va_P (dC, dI) vwCl (mC o b1 b2 b3 e1 e2 e3 (nI N) (nI c) (nI y) (nI z) fo kn g1 g2 g3) s.heap := hP
  have hin1 : ∀ w ∈ u_ws RX1 TX1 9, w ∈ wsX1_clause := by decide +kernel
  have hl := lv_entry ([.ref o]) (n := 1) (Nat.le_of_ble_eq_true rfl)
  rw [lg_entry_eq]
  generalize (lg_sl ([.ref o]) ++ List.replicate (1 - (lg_sl ([.ref o])).length) Slot.unset).toArray = ls at hl ⊢
  have hl : lv_has ls 1 [(0, .ref o)] := hl
  refine lv_aload_n hx hb dX1_clause_0 rfl (lv_at hl 0 rfl) ?_
  refine va_get (D := (dC, dI)) (ci := 1) (v := .int (nI c)) (C := RX1) (T := TX1) (N := 9) hx hb hts hin1 hown hK hP 0 rfl rfl 4 (by decide) (hts (.fieldLink RX1 42 "ClauseSolverModel" "count" "I") (by decide +kernel)) (fun _ h9 => h9) rfl dX1_clause_1 ?_
  refine lv_sipush (v := nI 400) hx hb dX1_clause_4 (by decide) ?_
  refine lv_icmp_ne hx hb dX1_clause_7 (tgt := 13) (by decide) (fun hq => absurd (congrArg nI hc) hq) (fun _ => ?_)
  refine lv_bipush (v := (-3)) hx hb dX1_clause_10 (by decide) ?_
  exact W.iret (v := (-3)) hx hb hr (fun t ht hW => ⟨(-3), rfl, rfl, ht⟩) (fun q h => by cases h) dX1_clause_12
set_option maxHeartbeats 4000000 in
set_option maxRecDepth 100000 in
theorem m_clause (l : Launch) (sz : Nat) (dC : Nat → ClassId) (dI : Nat → Nat → Nat) (o b1 b2 b3 : Nat) (e1 e2 e3 : ClassId) (N c y z : Nat) (fo kn : Int32) (g1 g2 g3 : Nat → Int32) (hN : N ≤ 16) (hc : c < 400) (hy : y < 2 ^ N) (hz : z < 2 ^ N) : Met l yX1_clause wsX1_clause ({ frames := 1, cells := 0, slots := 0, locals := 30 }) (va_Pc [.ref o] (wW (dC, dI) vwCl (mC o b1 b2 b3 e1 e2 e3 (nI N) (nI c) (nI y) (nI z) fo kn g1 g2 g3) (mT e1 e2 e3) sz)) (va_Qi (fun (r : Int32) (u : Unit) => r = nI (c + 1)) (oW (dC, dI) vwCl (mC o b1 b2 b3 e1 e2 e3 (nI N) (nI c) (nI y) (nI z) fo kn g1 g2 g3) sz (fun u : Unit => (mC o b1 b2 b3 e1 e2 e3 (nI N) (nI (c + 1)) (nI 0) (nI 0) fo (nI 0) g1 (upd g2 c (nI y)) (upd g3 c (nI z))))) (va_A (mC o b1 b2 b3 e1 e2 e3 (nI N) (nI c) (nI y) (nI z) fo kn g1 g2 g3) sz)) 0 0 (va_A (mC o b1 b2 b3 e1 e2 e3 (nI N) (nI c) (nI y) (nI z) fo kn g1 g2 g3) sz) := by
  refine Met.ofW (cc := cX1_clause) (maxL := 1) (ret := some .int) (by decide) rfl ?_
  intro p e s m args below meth c0 s₁ B hml hv0
  obtain ⟨rfl, hsz, hP, hK, hD0⟩ := hv0
  have hx := B.exec
  have hb := B.bytes
  have hr := B.returns
  have hts := atoms_spec (ws := wsX1_clause) B.pre
  have hown : s.vm.findClass RX1 = some m.cls := findClass_of_methodNamed B.named
  have hlocks := B.notSynchronized
  subst hsz
  have hD := hD0.self (sz := s.heap.size)
  generalize hAe : va_A (mC o b1 b2 b3 e1 e2 e3 (nI N) (nI c) (nI y) (nI z) fo kn g1 g2 g3) s.heap.size = A at hD ⊢
  have hA : ∀ q : Nat, s.heap.size ≤ q → A q := fun q h => by rw [← hAe]; exact Or.inr h
  have hS : va_S A s.heap s.heap [] := va_S.rf
  have hP : va_P (dC, dI) vwCl (mC o b1 b2 b3 e1 e2 e3 (nI N) (nI c) (nI y) (nI z) fo kn g1 g2 g3) s.heap := hP
  have hin1 : ∀ w ∈ u_ws RX1 TX1 9, w ∈ wsX1_clause := by decide +kernel
  have hl := lv_entry ([.ref o]) (n := 1) (Nat.le_of_ble_eq_true rfl)
  rw [lg_entry_eq]
  generalize (lg_sl ([.ref o]) ++ List.replicate (1 - (lg_sl ([.ref o])).length) Slot.unset).toArray = ls at hl ⊢
  have hl : lv_has ls 1 [(0, .ref o)] := hl
  refine lv_aload_n hx hb dX1_clause_0 rfl (lv_at hl 0 rfl) ?_
  refine va_get (D := (dC, dI)) (ci := 1) (v := .int (nI c)) (C := RX1) (T := TX1) (N := 9) hx hb hts hin1 hown hK hP 0 rfl rfl 4 (by decide) (hts (.fieldLink RX1 42 "ClauseSolverModel" "count" "I") (by decide +kernel)) (fun _ h9 => h9) rfl dX1_clause_1 ?_
  refine lv_sipush (v := nI 400) hx hb dX1_clause_4 (by decide) ?_
  refine lv_icmp_ne hx hb dX1_clause_7 (tgt := 13) (by decide) (fun _ => ?_) (fun hq => absurd hq ((fun z9 => absurd ((nI_eq (by omega) (by omega)).mp z9) (by omega))))
  refine lv_aload_n hx hb dX1_clause_13 rfl (lv_at hl 0 rfl) ?_
  refine lv_aload_n hx hb dX1_clause_14 rfl (lv_at hl 0 rfl) ?_
  refine va_get (D := (dC, dI)) (ci := 1) (v := .int (nI y)) (C := RX1) (T := TX1) (N := 9) hx hb hts hin1 hown hK hP 0 rfl rfl 5 (by decide) (hts (.fieldLink RX1 32 "ClauseSolverModel" "ownYes" "I") (by decide +kernel)) (fun _ h9 => h9) rfl dX1_clause_15 ?_
  refine lv_aload_n hx hb dX1_clause_18 rfl (lv_at hl 0 rfl) ?_
  refine va_get (D := (dC, dI)) (ci := 1) (v := .int (nI z)) (C := RX1) (T := TX1) (N := 9) hx hb hts hin1 hown hK hP 0 rfl rfl 6 (by decide) (hts (.fieldLink RX1 35 "ClauseSolverModel" "ownNo" "I") (by decide +kernel)) (fun _ h9 => h9) rfl dX1_clause_19 ?_
  refine cs_calli (wc := (mC o b1 b2 b3 e1 e2 e3 (nI N) (nI c) (nI y) (nI z) fo kn g1 g2 g3)) (wr := []) (va_runV (As := [.int (nI y), .int (nI z)]) (rest := []) ⟨hx, hb, hml, hown, hts⟩ (m_some l s.heap.size dC dI o b1 b2 b3 e1 e2 e3 N c y z fo kn g1 g2 g3 hN hc (nI y) (nI z)) (cwV 2 hts gX1_clause_X1_some rfl rfl rfl (by decide +kernel) ⟨Nat.le_of_ble_eq_true rfl, Nat.le_of_ble_eq_true rfl⟩) (wW_preV hP hK hD (va_recv (q := (RX1, TX1, 9)) (q0 := 0) hK hP rfl rfl)) rfl rfl hl.1 rfl (lv_room (Nat.le_of_ble_eq_true rfl)) dX1_clause_22 ⟨Nat.le_refl _, Nat.le_refl _⟩) hS hA hP hD [0, 1, 2, 3] [] rfl rfl (by decide) (by decide) (fun r0 u H locs hr0 hP hD hS => ?_)
  have hP : va_P (dC, dI) vwCl (mC o b1 b2 b3 e1 e2 e3 (nI N) (nI (c + 1)) (nI y) (nI z) fo (nI 0) g1 (upd g2 c (nI (lo (nI y) N))) (upd g3 c (nI (lo (nI z) N)))) H := hP
  have hD : va_D A (mC o b1 b2 b3 e1 e2 e3 (nI N) (nI (c + 1)) (nI y) (nI z) fo (nI 0) g1 (upd g2 c (nI (lo (nI y) N))) (upd g3 c (nI (lo (nI z) N)))) := hD
  obtain rfl := hr0
  rw [lo_nI hN hy, lo_nI hN hz] at hP hD
  have hP : va_P (dC, dI) vwCl (mC o b1 b2 b3 e1 e2 e3 (nI N) (nI (c + 1)) (nI y) (nI z) fo (nI 0) g1 (upd g2 c (nI y)) (upd g3 c (nI z))) H := hP
  have hD : va_D A (mC o b1 b2 b3 e1 e2 e3 (nI N) (nI (c + 1)) (nI y) (nI z) fo (nI 0) g1 (upd g2 c (nI y)) (upd g3 c (nI z))) := hD
  refine lv_pop hx hb dX1_clause_25 rfl ?_
  refine lv_aload_n hx hb dX1_clause_26 rfl (lv_at hl 0 rfl) ?_
  refine lv_iconst (v := nI 0) hx hb dX1_clause_27 (by decide) ?_
  refine va_put (D := (dC, dI)) (ci := 1) (v := .int (nI 0)) (ty := .int) (C := RX1) (T := TX1) (N := 9) hx hb hts hin1 tyX1 tyX1_ok nmX1 hown hK hP hD hS 0 rfl rfl 5 (by decide) (hts (.fieldLink RX1 32 "ClauseSolverModel" "ownYes" "I") (by decide +kernel)) (fun _ h9 => h9) rfl (by decide +kernel) rfl rfl (Nat.le_of_ble_eq_true rfl) dX1_clause_28 (fun H locs hP hD hS => ?_)
  have hP : va_P (dC, dI) vwCl (mC o b1 b2 b3 e1 e2 e3 (nI N) (nI (c + 1)) (nI 0) (nI z) fo (nI 0) g1 (upd g2 c (nI y)) (upd g3 c (nI z))) H := hP
  have hD : va_D A (mC o b1 b2 b3 e1 e2 e3 (nI N) (nI (c + 1)) (nI 0) (nI z) fo (nI 0) g1 (upd g2 c (nI y)) (upd g3 c (nI z))) := hD
  refine lv_aload_n hx hb dX1_clause_31 rfl (lv_at hl 0 rfl) ?_
  refine lv_iconst (v := nI 0) hx hb dX1_clause_32 (by decide) ?_
  refine va_put (D := (dC, dI)) (ci := 1) (v := .int (nI 0)) (ty := .int) (C := RX1) (T := TX1) (N := 9) hx hb hts hin1 tyX1 tyX1_ok nmX1 hown hK hP hD hS 0 rfl rfl 6 (by decide) (hts (.fieldLink RX1 35 "ClauseSolverModel" "ownNo" "I") (by decide +kernel)) (fun _ h9 => h9) rfl (by decide +kernel) rfl rfl (Nat.le_of_ble_eq_true rfl) dX1_clause_33 (fun H locs hP hD hS => ?_)
  have hP : va_P (dC, dI) vwCl (mC o b1 b2 b3 e1 e2 e3 (nI N) (nI (c + 1)) (nI 0) (nI 0) fo (nI 0) g1 (upd g2 c (nI y)) (upd g3 c (nI z))) H := hP
  have hD : va_D A (mC o b1 b2 b3 e1 e2 e3 (nI N) (nI (c + 1)) (nI 0) (nI 0) fo (nI 0) g1 (upd g2 c (nI y)) (upd g3 c (nI z))) := hD
  refine lv_aload_n hx hb dX1_clause_36 rfl (lv_at hl 0 rfl) ?_
  refine va_get (D := (dC, dI)) (ci := 1) (v := .int (nI (c + 1))) (C := RX1) (T := TX1) (N := 9) hx hb hts hin1 hown hK hP 0 rfl rfl 4 (by decide) (hts (.fieldLink RX1 42 "ClauseSolverModel" "count" "I") (by decide +kernel)) (fun _ h9 => h9) rfl dX1_clause_37 ?_
  exact W.iret (v := nI (c + 1)) hx hb hr (fun t ht hW => ⟨⟨nI (c + 1), (), rfl, rfl, by rw [ht]; exact hP, by rw [hAe]; exact hD⟩, hS.F ht⟩) hS.2.2 dX1_clause_40
set_option maxHeartbeats 4000000 in
set_option maxRecDepth 100000 in
theorem m_drop_out (l : Launch) (dC : Nat → ClassId) (dI : Nat → Nat → Nat) (o b1 b2 b3 : Nat) (e1 e2 e3 : ClassId) (N c y z : Nat) (fo kn : Int32) (g1 g2 g3 : Nat → Int32) {v : Int32} (hv : v < 0 ∨ nI c ≤ v) : Met l yX1_drop wsX1_drop ({ frames := 0, cells := 0, slots := 0, locals := 0 }) (va_Pc [.ref o, .int v] (rW (dC, dI) vwCl (mC o b1 b2 b3 e1 e2 e3 (nI N) (nI c) (nI y) (nI z) fo kn g1 g2 g3) (mT e1 e2 e3))) (vp_Si (fun r => r = -2)) 0 0 (fun _ => False) := by
  refine Met.ofW (cc := cX1_drop) (maxL := 2) (ret := some .int) (by decide) rfl ?_
  intro p e s m args below meth c0 s₁ B hml hv0
  obtain ⟨rfl, hP, hK⟩ := hv0
  have hx := B.exec
  have hb := B.bytes
  have hr := B.returns
  have hts := atoms_spec (ws := wsX1_drop) B.pre
  have hown : s.vm.findClass RX1 = some m.cls := findClass_of_methodNamed B.named
  have hlocks := B.notSynchronized
  have hP : va_P (dC, dI) vwCl (mC o b1 b2 b3 e1 e2 e3 (nI N) (nI c) (nI y) (nI z) fo kn g1 g2 g3) s.heap := hP
  have hin1 : ∀ w ∈ u_ws RX1 TX1 9, w ∈ wsX1_drop := by decide +kernel
  have hl := lv_entry ([.ref o, .int v]) (n := 2) (Nat.le_of_ble_eq_true rfl)
  rw [lg_entry_eq]
  generalize (lg_sl ([.ref o, .int v]) ++ List.replicate (2 - (lg_sl ([.ref o, .int v])).length) Slot.unset).toArray = ls at hl ⊢
  have hl : lv_has ls 2 [(0, .ref o), (1, .int v)] := hl
  refine lv_iload_n hx hb dX1_drop_0 rfl (lv_at hl 1 rfl) ?_
  by_cases h0 : v < 0
  · refine lv_if_lt hx hb dX1_drop_1 (tgt := 12) (by decide) (fun _ => ?_) (fun hq => absurd (h0) hq)
    refine lv_bipush (v := (-2)) hx hb dX1_drop_12 (by decide) ?_
    exact W.iret (v := (-2)) hx hb hr (fun t ht hW => ⟨(-2), rfl, rfl, ht⟩) (fun q h => by cases h) dX1_drop_14
  · refine lv_if_lt hx hb dX1_drop_1 (tgt := 12) (by decide) (fun hq => absurd hq (h0)) (fun _ => ?_)
    refine lv_iload_n hx hb dX1_drop_4 rfl (lv_at hl 1 rfl) ?_
    refine lv_aload_n hx hb dX1_drop_5 rfl (lv_at hl 0 rfl) ?_
    refine va_get (D := (dC, dI)) (ci := 1) (v := .int (nI c)) (C := RX1) (T := TX1) (N := 9) hx hb hts hin1 hown hK hP 0 rfl rfl 4 (by decide) (hts (.fieldLink RX1 42 "ClauseSolverModel" "count" "I") (by decide +kernel)) (fun _ h9 => h9) rfl dX1_drop_6 ?_
    refine lv_icmp_lt hx hb dX1_drop_9 (tgt := 15) (by decide) (fun hq => absurd hq (Int32.not_lt.mpr (hv.resolve_left h0))) (fun _ => ?_)
    refine lv_bipush (v := (-2)) hx hb dX1_drop_12 (by decide) ?_
    exact W.iret (v := (-2)) hx hb hr (fun t ht hW => ⟨(-2), rfl, rfl, ht⟩) (fun q h => by cases h) dX1_drop_14
set_option maxHeartbeats 4000000 in
set_option maxRecDepth 100000 in
theorem m_drop (l : Launch) (sz : Nat) (dC : Nat → ClassId) (dI : Nat → Nat → Nat) (o b1 b2 b3 : Nat) (e1 e2 e3 : ClassId) (N c y z : Nat) (fo kn : Int32) (g1 g2 g3 : Nat → Int32) (hc : c < 400) {j : Nat} (hj : j < c + 1) : Met l yX1_drop wsX1_drop ({ frames := 0, cells := 0, slots := 0, locals := 0 }) (va_Pc [.ref o, .int (nI j)] (wW (dC, dI) vwCl (mC o b1 b2 b3 e1 e2 e3 (nI N) (nI (c + 1)) (nI y) (nI z) fo kn g1 g2 g3) (mT e1 e2 e3) sz)) (va_Qi (fun (r : Int32) (u : Unit) => r = nI c) (oW (dC, dI) vwCl (mC o b1 b2 b3 e1 e2 e3 (nI N) (nI (c + 1)) (nI y) (nI z) fo kn g1 g2 g3) sz (fun u : Unit => (mC o b1 b2 b3 e1 e2 e3 (nI N) (nI c) (nI y) (nI z) fo (nI 0) g1 (upd g2 j (g2 c)) (upd g3 j (g3 c))))) (va_A (mC o b1 b2 b3 e1 e2 e3 (nI N) (nI (c + 1)) (nI y) (nI z) fo kn g1 g2 g3) sz)) 0 0 (va_A (mC o b1 b2 b3 e1 e2 e3 (nI N) (nI (c + 1)) (nI y) (nI z) fo kn g1 g2 g3) sz) := by
  refine Met.ofW (cc := cX1_drop) (maxL := 2) (ret := some .int) (by decide) rfl ?_
  intro p e s m args below meth c0 s₁ B hml hv0
  obtain ⟨rfl, hsz, hP, hK, hD0⟩ := hv0
  have hx := B.exec
  have hb := B.bytes
  have hr := B.returns
  have hts := atoms_spec (ws := wsX1_drop) B.pre
  have hown : s.vm.findClass RX1 = some m.cls := findClass_of_methodNamed B.named
  have hlocks := B.notSynchronized
  subst hsz
  have hD := hD0.self (sz := s.heap.size)
  generalize hAe : va_A (mC o b1 b2 b3 e1 e2 e3 (nI N) (nI (c + 1)) (nI y) (nI z) fo kn g1 g2 g3) s.heap.size = A at hD ⊢
  have hA : ∀ q : Nat, s.heap.size ≤ q → A q := fun q h => by rw [← hAe]; exact Or.inr h
  have hS : va_S A s.heap s.heap [] := va_S.rf
  have hP : va_P (dC, dI) vwCl (mC o b1 b2 b3 e1 e2 e3 (nI N) (nI (c + 1)) (nI y) (nI z) fo kn g1 g2 g3) s.heap := hP
  have hin1 : ∀ w ∈ u_ws RX1 TX1 9, w ∈ wsX1_drop := by decide +kernel
  have hl := lv_entry ([.ref o, .int (nI j)]) (n := 2) (Nat.le_of_ble_eq_true rfl)
  rw [lg_entry_eq]
  generalize (lg_sl ([.ref o, .int (nI j)]) ++ List.replicate (2 - (lg_sl ([.ref o, .int (nI j)])).length) Slot.unset).toArray = ls at hl ⊢
  have hl : lv_has ls 2 [(0, .ref o), (1, .int (nI j))] := hl
  refine lv_iload_n hx hb dX1_drop_0 rfl (lv_at hl 1 rfl) ?_
  refine lv_if_lt hx hb dX1_drop_1 (tgt := 12) (by decide) (fun hq => absurd hq (nI_pos (by omega))) (fun _ => ?_)
  refine lv_iload_n hx hb dX1_drop_4 rfl (lv_at hl 1 rfl) ?_
  refine lv_aload_n hx hb dX1_drop_5 rfl (lv_at hl 0 rfl) ?_
  refine va_get (D := (dC, dI)) (ci := 1) (v := .int (nI (c + 1))) (C := RX1) (T := TX1) (N := 9) hx hb hts hin1 hown hK hP 0 rfl rfl 4 (by decide) (hts (.fieldLink RX1 42 "ClauseSolverModel" "count" "I") (by decide +kernel)) (fun _ h9 => h9) rfl dX1_drop_6 ?_
  refine lv_icmp_lt hx hb dX1_drop_9 (tgt := 15) (by decide) (fun _ => ?_) (fun hq => absurd (nI_lt hj (by omega)) hq)
  refine lv_aload_n hx hb dX1_drop_15 rfl (lv_at hl 0 rfl) ?_
  refine lv_dup hx hb dX1_drop_16 rfl ?_
  refine va_get (D := (dC, dI)) (ci := 1) (v := .int (nI (c + 1))) (C := RX1) (T := TX1) (N := 9) hx hb hts hin1 hown hK hP 0 rfl rfl 4 (by decide) (hts (.fieldLink RX1 42 "ClauseSolverModel" "count" "I") (by decide +kernel)) (fun _ h9 => h9) rfl dX1_drop_17 ?_
  refine lv_iconst (v := nI 1) hx hb dX1_drop_20 (by decide) ?_
  refine lv_isub hx hb dX1_drop_21 ?_
  refine cs_top (y := nI c) (pk_sub (by omega)) ?_
  refine va_put (D := (dC, dI)) (ci := 1) (v := .int (nI c)) (ty := .int) (C := RX1) (T := TX1) (N := 9) hx hb hts hin1 tyX1 tyX1_ok nmX1 hown hK hP hD hS 0 rfl rfl 4 (by decide) (hts (.fieldLink RX1 42 "ClauseSolverModel" "count" "I") (by decide +kernel)) (fun _ h9 => h9) rfl (by decide +kernel) rfl rfl (Nat.le_of_ble_eq_true rfl) dX1_drop_22 (fun H locs hP hD hS => ?_)
  have hP : va_P (dC, dI) vwCl (mC o b1 b2 b3 e1 e2 e3 (nI N) (nI c) (nI y) (nI z) fo kn g1 g2 g3) H := hP
  have hD : va_D A (mC o b1 b2 b3 e1 e2 e3 (nI N) (nI c) (nI y) (nI z) fo kn g1 g2 g3) := hD
  refine lv_aload_n hx hb dX1_drop_25 rfl (lv_at hl 0 rfl) ?_
  refine va_get (D := (dC, dI)) (ci := 1) (v := .ref b2) (C := RX1) (T := TX1) (N := 9) hx hb hts hin1 hown hK hP 0 rfl rfl 2 (by decide) (hts (.fieldLink RX1 13 "ClauseSolverModel" "yes" "[I") (by decide +kernel)) (fun _ h9 => h9) rfl dX1_drop_26 ?_
  refine lv_iload_n hx hb dX1_drop_29 rfl (lv_at hl 1 rfl) ?_
  refine lv_aload_n hx hb dX1_drop_30 rfl (lv_at hl 0 rfl) ?_
  refine va_get (D := (dC, dI)) (ci := 1) (v := .ref b2) (C := RX1) (T := TX1) (N := 9) hx hb hts hin1 hown hK hP 0 rfl rfl 2 (by decide) (hts (.fieldLink RX1 13 "ClauseSolverModel" "yes" "[I") (by decide +kernel)) (fun _ h9 => h9) rfl dX1_drop_31 ?_
  refine lv_aload_n hx hb dX1_drop_34 rfl (lv_at hl 0 rfl) ?_
  refine va_get (D := (dC, dI)) (ci := 1) (v := .int (nI c)) (C := RX1) (T := TX1) (N := 9) hx hb hts hin1 hown hK hP 0 rfl rfl 4 (by decide) (hts (.fieldLink RX1 42 "ClauseSolverModel" "count" "I") (by decide +kernel)) (fun _ h9 => h9) rfl dX1_drop_35 ?_
  refine cs_iald hx hb hK hP 2 1 rfl rfl (hc) (by decide) dX1_drop_38 ?_
  refine cs_iast hx hb hK hP hD hS 2 1 rfl rfl (by omega) (by decide) dX1_drop_39 (fun H locs hP hD hS => ?_)
  have hP : va_P (dC, dI) vwCl (mC o b1 b2 b3 e1 e2 e3 (nI N) (nI c) (nI y) (nI z) fo kn g1 (upd g2 j (g2 c)) g3) H := hP
  have hD : va_D A (mC o b1 b2 b3 e1 e2 e3 (nI N) (nI c) (nI y) (nI z) fo kn g1 (upd g2 j (g2 c)) g3) := hD
  refine lv_aload_n hx hb dX1_drop_40 rfl (lv_at hl 0 rfl) ?_
  refine va_get (D := (dC, dI)) (ci := 1) (v := .ref b3) (C := RX1) (T := TX1) (N := 9) hx hb hts hin1 hown hK hP 0 rfl rfl 3 (by decide) (hts (.fieldLink RX1 17 "ClauseSolverModel" "no" "[I") (by decide +kernel)) (fun _ h9 => h9) rfl dX1_drop_41 ?_
  refine lv_iload_n hx hb dX1_drop_44 rfl (lv_at hl 1 rfl) ?_
  refine lv_aload_n hx hb dX1_drop_45 rfl (lv_at hl 0 rfl) ?_
  refine va_get (D := (dC, dI)) (ci := 1) (v := .ref b3) (C := RX1) (T := TX1) (N := 9) hx hb hts hin1 hown hK hP 0 rfl rfl 3 (by decide) (hts (.fieldLink RX1 17 "ClauseSolverModel" "no" "[I") (by decide +kernel)) (fun _ h9 => h9) rfl dX1_drop_46 ?_
  refine lv_aload_n hx hb dX1_drop_49 rfl (lv_at hl 0 rfl) ?_
  refine va_get (D := (dC, dI)) (ci := 1) (v := .int (nI c)) (C := RX1) (T := TX1) (N := 9) hx hb hts hin1 hown hK hP 0 rfl rfl 4 (by decide) (hts (.fieldLink RX1 42 "ClauseSolverModel" "count" "I") (by decide +kernel)) (fun _ h9 => h9) rfl dX1_drop_50 ?_
  refine cs_iald hx hb hK hP 3 2 rfl rfl (hc) (by decide) dX1_drop_53 ?_
  refine cs_iast hx hb hK hP hD hS 3 2 rfl rfl (by omega) (by decide) dX1_drop_54 (fun H locs hP hD hS => ?_)
  have hP : va_P (dC, dI) vwCl (mC o b1 b2 b3 e1 e2 e3 (nI N) (nI c) (nI y) (nI z) fo kn g1 (upd g2 j (g2 c)) (upd g3 j (g3 c))) H := hP
  have hD : va_D A (mC o b1 b2 b3 e1 e2 e3 (nI N) (nI c) (nI y) (nI z) fo kn g1 (upd g2 j (g2 c)) (upd g3 j (g3 c))) := hD
  refine lv_aload_n hx hb dX1_drop_55 rfl (lv_at hl 0 rfl) ?_
  refine lv_iconst (v := nI 0) hx hb dX1_drop_56 (by decide) ?_
  refine va_put (D := (dC, dI)) (ci := 1) (v := .int (nI 0)) (ty := .boolean) (C := RX1) (T := TX1) (N := 9) hx hb hts hin1 tyX1 tyX1_ok nmX1 hown hK hP hD hS 0 rfl rfl 8 (by decide) (hts (.fieldLink RX1 28 "ClauseSolverModel" "known" "Z") (by decide +kernel)) (fun _ h9 => h9) rfl (by decide +kernel) rfl rfl (Nat.le_of_ble_eq_true rfl) dX1_drop_57 (fun H locs hP hD hS => ?_)
  have hP : va_P (dC, dI) vwCl (mC o b1 b2 b3 e1 e2 e3 (nI N) (nI c) (nI y) (nI z) fo (nI 0) g1 (upd g2 j (g2 c)) (upd g3 j (g3 c))) H := hP
  have hD : va_D A (mC o b1 b2 b3 e1 e2 e3 (nI N) (nI c) (nI y) (nI z) fo (nI 0) g1 (upd g2 j (g2 c)) (upd g3 j (g3 c))) := hD
  refine lv_aload_n hx hb dX1_drop_60 rfl (lv_at hl 0 rfl) ?_
  refine va_get (D := (dC, dI)) (ci := 1) (v := .int (nI c)) (C := RX1) (T := TX1) (N := 9) hx hb hts hin1 hown hK hP 0 rfl rfl 4 (by decide) (hts (.fieldLink RX1 42 "ClauseSolverModel" "count" "I") (by decide +kernel)) (fun _ h9 => h9) rfl dX1_drop_61 ?_
  exact W.iret (v := nI c) hx hb hr (fun t ht hW => ⟨⟨nI c, (), rfl, rfl, by rw [ht]; exact hP, by rw [hAe]; exact hD⟩, hS.F ht⟩) hS.2.2 dX1_drop_64
set_option maxHeartbeats 4000000 in
set_option maxRecDepth 100000 in
theorem m_holds (l : Launch) (dC : Nat → ClassId) (dI : Nat → Nat → Nat) (o b1 b2 b3 : Nat) (e1 e2 e3 : ClassId) (N c y z : Nat) (fo kn : Int32) (g1 g2 g3 : Nat → Int32) {Y Z : Nat → Nat} (hR : ∀ k, k < c → g2 k = nI (Y k) ∧ g3 k = nI (Z k)) (hB : ∀ k, k < c → Y k < 65536 ∧ Z k < 65536) (hc : c ≤ 400) (a : Nat) {v : Nat} (hv : v ≤ 16) : Met l yX1_holds wsX1_holds ({ frames := 0, cells := 0, slots := 0, locals := 0 }) (va_Pc [.ref o, .int (nI a), .int (nI v)] (rW (dC, dI) vwCl (mC o b1 b2 b3 e1 e2 e3 (nI N) (nI c) (nI y) (nI z) fo kn g1 g2 g3) (mT e1 e2 e3))) (vp_Si (fun r => (r = nI 1 ∧ ∀ k, k < c → (Y k ||| Z k) / 2 ^ v = 0 → Mt (Y k) (Z k) a) ∨ (r = nI 0 ∧ ∃ k, k < c ∧ (Y k ||| Z k) / 2 ^ v = 0 ∧ ¬ Mt (Y k) (Z k) a))) 0 0 (fun _ => False) := by
  refine Met.ofW (cc := cX1_holds) (maxL := 4) (ret := some .boolean) (by decide) rfl ?_
  intro p e s m args below meth c0 s₁ B hml hv0
  obtain ⟨rfl, hP, hK⟩ := hv0
  have hx := B.exec
  have hb := B.bytes
  have hr := B.returns
  have hts := atoms_spec (ws := wsX1_holds) B.pre
  have hown : s.vm.findClass RX1 = some m.cls := findClass_of_methodNamed B.named
  have hlocks := B.notSynchronized
  have hP : va_P (dC, dI) vwCl (mC o b1 b2 b3 e1 e2 e3 (nI N) (nI c) (nI y) (nI z) fo kn g1 g2 g3) s.heap := hP
  have hin1 : ∀ w ∈ u_ws RX1 TX1 9, w ∈ wsX1_holds := by decide +kernel
  have hl := lv_entry ([.ref o, .int (nI a), .int (nI v)]) (n := 4) (Nat.le_of_ble_eq_true rfl)
  rw [lg_entry_eq]
  generalize (lg_sl ([.ref o, .int (nI a), .int (nI v)]) ++ List.replicate (4 - (lg_sl ([.ref o, .int (nI a), .int (nI v)])).length) Slot.unset).toArray = ls at hl ⊢
  have hl : lv_has ls 4 [(0, .ref o), (1, .int (nI a)), (2, .int (nI v))] := hl
  refine lv_iconst (v := nI 0) hx hb dX1_holds_0 (by decide) ?_
  refine lv_istore_n hx hb dX1_holds_1 rfl hl (by decide) rfl (fun ls hl => ?_)
  have hl : lv_has ls 4 [(3, .int (nI 0)), (0, .ref o), (1, .int (nI a)), (2, .int (nI v))] := hl
  refine cs_wl (σ := Nat) (fun n st ls => (n = c - st ∧ st ≤ c ∧ ∀ k, k < st → (Y k ||| Z k) / 2 ^ v = 0 → Mt (Y k) (Z k) a) ∧ lv_has ls 4 [(0, .ref o), (1, .int (nI a)), (2, .int (nI v)), (3, .int (nI st))]) ?_ c 0 ls ⟨⟨rfl, Nat.zero_le _, fun k hk => absurd hk (Nat.not_lt_zero _)⟩, lv_sub hl [1, 2, 3, 0] rfl⟩
  clear hl
  intro n st ls hI ih
  obtain ⟨⟨hn, hk, hI⟩, hl⟩ := hI
  have hl : lv_has ls 4 [(0, .ref o), (1, .int (nI a)), (2, .int (nI v)), (3, .int (nI st))] := hl
  refine lv_iload_n hx hb dX1_holds_2 rfl (lv_at hl 3 rfl) ?_
  refine lv_aload_n hx hb dX1_holds_3 rfl (lv_at hl 0 rfl) ?_
  refine va_get (D := (dC, dI)) (ci := 1) (v := .int (nI c)) (C := RX1) (T := TX1) (N := 9) hx hb hts hin1 hown hK hP 0 rfl rfl 4 (by decide) (hts (.fieldLink RX1 42 "ClauseSolverModel" "count" "I") (by decide +kernel)) (fun _ h9 => h9) rfl dX1_holds_4 ?_
  rcases Nat.lt_or_ge st c with hk1 | hk1
  · obtain ⟨q1, q2⟩ := hR st hk1
    obtain ⟨l1, l2⟩ := hB st hk1
    have hk4 : st < 400 := Nat.lt_of_lt_of_le hk1 hc
    refine lv_icmp_ge hx hb dX1_holds_7 (tgt := 60) (by decide) (fun hq => absurd hq (nI_ge hk1 (by omega))) (fun _ => ?_)
    refine lv_aload_n hx hb dX1_holds_10 rfl (lv_at hl 0 rfl) ?_
    refine va_get (D := (dC, dI)) (ci := 1) (v := .ref b2) (C := RX1) (T := TX1) (N := 9) hx hb hts hin1 hown hK hP 0 rfl rfl 2 (by decide) (hts (.fieldLink RX1 13 "ClauseSolverModel" "yes" "[I") (by decide +kernel)) (fun _ h9 => h9) rfl dX1_holds_11 ?_
    refine lv_iload_n hx hb dX1_holds_14 rfl (lv_at hl 3 rfl) ?_
    refine cs_iald hx hb hK hP 2 1 rfl rfl (hk4) (by decide) dX1_holds_15 ?_
    refine cs_top (y := nI (Y st)) (q1) ?_
    refine lv_aload_n hx hb dX1_holds_16 rfl (lv_at hl 0 rfl) ?_
    refine va_get (D := (dC, dI)) (ci := 1) (v := .ref b3) (C := RX1) (T := TX1) (N := 9) hx hb hts hin1 hown hK hP 0 rfl rfl 3 (by decide) (hts (.fieldLink RX1 17 "ClauseSolverModel" "no" "[I") (by decide +kernel)) (fun _ h9 => h9) rfl dX1_holds_17 ?_
    refine lv_iload_n hx hb dX1_holds_20 rfl (lv_at hl 3 rfl) ?_
    refine cs_iald hx hb hK hP 3 2 rfl rfl (hk4) (by decide) dX1_holds_21 ?_
    refine cs_top (y := nI (Z st)) (q2) ?_
    refine lv_ior hx hb dX1_holds_22 ?_
    refine cs_top (y := nI ((Y st) ||| (Z st))) (cs_or (Y st) (Z st)) ?_
    refine lv_iload_n hx hb dX1_holds_23 rfl (lv_at hl 2 rfl) ?_
    refine lv_ishr hx hb dX1_holds_24 ?_
    refine cs_top (y := nI ((Y st ||| Z st) / 2 ^ v)) (cs_shr (by omega) (or_16 l1 l2)) ?_
    refine lv_if_ne hx hb dX1_holds_25 (tgt := 54) (by decide) (fun h1 => ?_) (fun h1 => ?_)
    · refine lv_iinc (v := nI (st + 1)) hx hb dX1_holds_54 hl (k := 3) rfl (cs_inc _ 1) (by decide) rfl (fun ls hl => ?_)
      have hl : lv_has ls 4 [(3, .int (nI (st + 1))), (0, .ref o), (1, .int (nI a)), (2, .int (nI v))] := hl
      refine lv_goto hx hb dX1_holds_57 (tgt := 2) (by decide) ?_
      exact ih (c - (st + 1)) (st + 1) ls (by omega) ⟨⟨rfl, by omega, fun k hk => by rcases Nat.lt_or_ge k st with z1 | z1; exact hI k z1; exact (show k = st by omega) ▸ (fun z2 => absurd (by rw [z2]; exact nI_0) h1)⟩, lv_sub hl [1, 2, 3, 0] rfl⟩
    · refine lv_iload_n hx hb dX1_holds_28 rfl (lv_at hl 1 rfl) ?_
      refine lv_aload_n hx hb dX1_holds_29 rfl (lv_at hl 0 rfl) ?_
      refine va_get (D := (dC, dI)) (ci := 1) (v := .ref b2) (C := RX1) (T := TX1) (N := 9) hx hb hts hin1 hown hK hP 0 rfl rfl 2 (by decide) (hts (.fieldLink RX1 13 "ClauseSolverModel" "yes" "[I") (by decide +kernel)) (fun _ h9 => h9) rfl dX1_holds_30 ?_
      refine lv_iload_n hx hb dX1_holds_33 rfl (lv_at hl 3 rfl) ?_
      refine cs_iald hx hb hK hP 2 1 rfl rfl (hk4) (by decide) dX1_holds_34 ?_
      refine cs_top (y := nI (Y st)) (q1) ?_
      refine lv_iand hx hb dX1_holds_35 ?_
      refine cs_top (y := nI (a &&& (Y st))) (cs_and a (Y st)) ?_
      refine lv_if_ne hx hb dX1_holds_36 (tgt := 54) (by decide) (fun h2 => ?_) (fun h2 => ?_)
      · refine lv_iinc (v := nI (st + 1)) hx hb dX1_holds_54 hl (k := 3) rfl (cs_inc _ 1) (by decide) rfl (fun ls hl => ?_)
        have hl : lv_has ls 4 [(3, .int (nI (st + 1))), (0, .ref o), (1, .int (nI a)), (2, .int (nI v))] := hl
        refine lv_goto hx hb dX1_holds_57 (tgt := 2) (by decide) ?_
        exact ih (c - (st + 1)) (st + 1) ls (by omega) ⟨⟨rfl, by omega, fun k hk => by rcases Nat.lt_or_ge k st with z1 | z1; exact hI k z1; exact (show k = st by omega) ▸ (fun _ => ho_1 l2 h2)⟩, lv_sub hl [1, 2, 3, 0] rfl⟩
      · refine lv_iload_n hx hb dX1_holds_39 rfl (lv_at hl 1 rfl) ?_
        refine lv_iconst (v := nI 4294967295) hx hb dX1_holds_40 (by decide) ?_
        refine lv_ixor hx hb dX1_holds_41 ?_
        refine cs_top (y := nI (a ^^^ 4294967295)) (cs_xor a 4294967295) ?_
        refine lv_aload_n hx hb dX1_holds_42 rfl (lv_at hl 0 rfl) ?_
        refine va_get (D := (dC, dI)) (ci := 1) (v := .ref b3) (C := RX1) (T := TX1) (N := 9) hx hb hts hin1 hown hK hP 0 rfl rfl 3 (by decide) (hts (.fieldLink RX1 17 "ClauseSolverModel" "no" "[I") (by decide +kernel)) (fun _ h9 => h9) rfl dX1_holds_43 ?_
        refine lv_iload_n hx hb dX1_holds_46 rfl (lv_at hl 3 rfl) ?_
        refine cs_iald hx hb hK hP 3 2 rfl rfl (hk4) (by decide) dX1_holds_47 ?_
        refine cs_top (y := nI (Z st)) (q2) ?_
        refine lv_iand hx hb dX1_holds_48 ?_
        refine cs_top (y := nI ((a ^^^ 4294967295) &&& (Z st))) (cs_and (a ^^^ 4294967295) (Z st)) ?_
        refine lv_if_ne hx hb dX1_holds_49 (tgt := 54) (by decide) (fun h3 => ?_) (fun h3 => ?_)
        · refine lv_iinc (v := nI (st + 1)) hx hb dX1_holds_54 hl (k := 3) rfl (cs_inc _ 1) (by decide) rfl (fun ls hl => ?_)
          have hl : lv_has ls 4 [(3, .int (nI (st + 1))), (0, .ref o), (1, .int (nI a)), (2, .int (nI v))] := hl
          refine lv_goto hx hb dX1_holds_57 (tgt := 2) (by decide) ?_
          exact ih (c - (st + 1)) (st + 1) ls (by omega) ⟨⟨rfl, by omega, fun k hk => by rcases Nat.lt_or_ge k st with z1 | z1; exact hI k z1; exact (show k = st by omega) ▸ (fun _ => ho_2 l2 h3)⟩, lv_sub hl [1, 2, 3, 0] rfl⟩
        · refine lv_iconst (v := nI 0) hx hb dX1_holds_52 (by decide) ?_
          exact W.zret (ty := .boolean) (v := nI 0) hx hb hr (by first | rfl | decide) (fun t ht hW => ⟨nI 0, rfl, Or.inr ⟨rfl, st, hk1, (cs_z (Nat.lt_of_le_of_lt (Nat.div_le_self _ _) (or_16 l1 l2))).mp h1, ho_0 l1 l2 h2 h3⟩, ht⟩) (fun q h => by cases h) dX1_holds_53
  · refine lv_icmp_ge hx hb dX1_holds_7 (tgt := 60) (by decide) (fun _ => ?_) (fun hq => absurd (nI_le hk1 (by omega)) hq)
    refine lv_iconst (v := nI 1) hx hb dX1_holds_60 (by decide) ?_
    exact W.zret (ty := .boolean) (v := nI 1) hx hb hr (by first | rfl | decide) (fun t ht hW => ⟨nI 1, rfl, Or.inl ⟨rfl, (show st = c by omega) ▸ hI⟩, ht⟩) (fun q h => by cases h) dX1_holds_61
set_option maxHeartbeats 4000000 in
set_option maxRecDepth 100000 in
theorem m_search_leaf (l : Launch) (dC : Nat → ClassId) (dI : Nat → Nat → Nat) (o b1 b2 b3 : Nat) (e1 e2 e3 : ClassId) (N c y z : Nat) (fo kn : Int32) (g1 g2 g3 : Nat → Int32) {Y Z : Nat → Nat} (hR : ∀ k, k < c → g2 k = nI (Y k) ∧ g3 k = nI (Z k)) (hB : ∀ k, k < c → Y k < 2 ^ N ∧ Z k < 2 ^ N) (hc : c ≤ 400) (hN : N ≤ 16) {w : Nat} (hW : ∀ v, v < N → g1 v = bI (w.testBit v)) {a v : Nat} (hv : v = N) (ha : a < 2 ^ v) : Met l yX1_search wsX1_search ({ frames := (0 + 2), cells := 0, slots := 0, locals := (40 * 0 + 60) }) (va_Pc [.ref o, .int (nI a), .int (nI v)] (rW (dC, dI) vwCl (mC o b1 b2 b3 e1 e2 e3 (nI N) (nI c) (nI y) (nI z) fo kn g1 g2 g3) (mT e1 e2 e3))) (vp_Si (fun r => r = rs (fs (PX c Y Z) w 0 a v))) 0 0 (fun _ => False) := by
  refine Met.ofW (cc := cX1_search) (maxL := 5) (ret := some .int) (by decide) rfl ?_
  intro p e s m args below meth c0 s₁ B hml hv0
  obtain ⟨rfl, hP, hK⟩ := hv0
  have hx := B.exec
  have hb := B.bytes
  have hr := B.returns
  have hts := atoms_spec (ws := wsX1_search) B.pre
  have hown : s.vm.findClass RX1 = some m.cls := findClass_of_methodNamed B.named
  have hlocks := B.notSynchronized
  have hP : va_P (dC, dI) vwCl (mC o b1 b2 b3 e1 e2 e3 (nI N) (nI c) (nI y) (nI z) fo kn g1 g2 g3) s.heap := hP
  have hin1 : ∀ w ∈ u_ws RX1 TX1 9, w ∈ wsX1_search := by decide +kernel
  have hl := lv_entry ([.ref o, .int (nI a), .int (nI v)]) (n := 5) (Nat.le_of_ble_eq_true rfl)
  rw [lg_entry_eq]
  generalize (lg_sl ([.ref o, .int (nI a), .int (nI v)]) ++ List.replicate (5 - (lg_sl ([.ref o, .int (nI a), .int (nI v)])).length) Slot.unset).toArray = ls at hl ⊢
  have hl : lv_has ls 5 [(0, .ref o), (1, .int (nI a)), (2, .int (nI v))] := hl
  refine lv_aload_n hx hb dX1_search_0 rfl (lv_at hl 0 rfl) ?_
  refine lv_iload_n hx hb dX1_search_1 rfl (lv_at hl 1 rfl) ?_
  refine lv_iload_n hx hb dX1_search_2 rfl (lv_at hl 2 rfl) ?_
  refine vp_callSi (W.runV (As := [.int (nI a), .int (nI v)]) (rest := []) ⟨hx, hb, hml, hown, hts⟩ (m_holds l dC dI o b1 b2 b3 e1 e2 e3 N c y z fo kn g1 g2 g3 hR (fun k hk => ⟨cs_N31 hN (hB k hk).1, cs_N31 hN (hB k hk).2⟩) hc a (by omega)) (cwV 2 hts gX1_search_X1_holds rfl rfl rfl (by decide +kernel) ⟨by show 0 + 1 ≤ 0 + 2; omega, by show 8 + (4 + 11) + 0 ≤ 40 * 0 + 60; omega⟩) (rW_preV hP hK (va_recv (q := (RX1, TX1, 9)) (q0 := 0) hK hP rfl rfl)) rfl rfl hl.1 rfl (lv_room (Nat.le_of_ble_eq_true rfl)) dX1_search_3 ⟨Nat.le_refl _, Nat.le_refl _⟩) (fun r0 hr0 => ?_)
  rcases hr0 with ⟨rfl, hm⟩ | ⟨rfl, k, hk, hk0, hm⟩
  · refine lv_if_ne hx hb dX1_search_6 (tgt := 12) (by decide) (fun _ => ?_) (fun hq => absurd hq (by decide))
    refine lv_iload_n hx hb dX1_search_12 rfl (lv_at hl 2 rfl) ?_
    refine lv_aload_n hx hb dX1_search_13 rfl (lv_at hl 0 rfl) ?_
    refine va_get (D := (dC, dI)) (ci := 1) (v := .int (nI N)) (C := RX1) (T := TX1) (N := 9) hx hb hts hin1 hown hK hP 0 rfl rfl 0 (by decide) (hts (.fieldLink RX1 20 "ClauseSolverModel" "variables" "I") (by decide +kernel)) (fun _ h9 => h9) rfl dX1_search_14 ?_
    refine lv_icmp_ne hx hb dX1_search_17 (tgt := 22) (by decide) (fun hq => absurd (congrArg nI hv) hq) (fun _ => ?_)
    refine lv_iload_n hx hb dX1_search_20 rfl (lv_at hl 1 rfl) ?_
    exact W.iret (v := nI a) hx hb hr (fun t ht hW => ⟨nI a, rfl, by rw [fs_0t (P := PX c Y Z) (fun k hk => hm k hk (by rw [hv]; exact Nat.div_eq_of_lt (Nat.or_lt_two_pow (hB k hk).1 (hB k hk).2)))]; rfl, ht⟩) (fun q h => by cases h) dX1_search_21
  · refine lv_if_ne hx hb dX1_search_6 (tgt := 12) (by decide) (fun hq => absurd (nI_0) hq) (fun _ => ?_)
    refine lv_bipush (v := (-2)) hx hb dX1_search_9 (by decide) ?_
    exact W.iret (v := (-2)) hx hb hr (fun t ht hW => ⟨(-2), rfl, by rw [PX_cut ha hk hk0 hm]; rfl, ht⟩) (fun q h => by cases h) dX1_search_11
set_option maxHeartbeats 4000000 in
set_option maxRecDepth 100000 in
theorem m_search_up (l : Launch) (dC : Nat → ClassId) (dI : Nat → Nat → Nat) (o b1 b2 b3 : Nat) (e1 e2 e3 : ClassId) (N c y z : Nat) (fo kn : Int32) (g1 g2 g3 : Nat → Int32) {Y Z : Nat → Nat} (hR : ∀ k, k < c → g2 k = nI (Y k) ∧ g3 k = nI (Z k)) (hB : ∀ k, k < c → Y k < 2 ^ N ∧ Z k < 2 ^ N) (hc : c ≤ 400) (hN : N ≤ 16) {w : Nat} (hW : ∀ v, v < N → g1 v = bI (w.testBit v)) (n : Nat) {a v : Nat} (hv : v + (n + 1) = N) (ha : a < 2 ^ v) (hS : ∀ (a : Nat), a < 2 ^ (v + 1) → Met l yX1_search wsX1_search ({ frames := (n + 2), cells := 0, slots := 0, locals := (40 * n + 60) }) (va_Pc [.ref o, .int (nI a), .int (nI (v + 1))] (rW (dC, dI) vwCl (mC o b1 b2 b3 e1 e2 e3 (nI N) (nI c) (nI y) (nI z) fo kn g1 g2 g3) (mT e1 e2 e3))) (vp_Si (fun r => r = rs (fs (PX c Y Z) w n a (v + 1)))) 0 0 (fun _ => False)) : Met l yX1_search wsX1_search ({ frames := ((n + 1) + 2), cells := 0, slots := 0, locals := (40 * (n + 1) + 60) }) (va_Pc [.ref o, .int (nI a), .int (nI v)] (rW (dC, dI) vwCl (mC o b1 b2 b3 e1 e2 e3 (nI N) (nI c) (nI y) (nI z) fo kn g1 g2 g3) (mT e1 e2 e3))) (vp_Si (fun r => r = rs (fs (PX c Y Z) w (n + 1) a v))) 0 0 (fun _ => False) := by
  refine Met.ofW (cc := cX1_search) (maxL := 5) (ret := some .int) (by decide) rfl ?_
  intro p e s m args below meth c0 s₁ B hml hv0
  obtain ⟨rfl, hP, hK⟩ := hv0
  have hx := B.exec
  have hb := B.bytes
  have hr := B.returns
  have hts := atoms_spec (ws := wsX1_search) B.pre
  have hown : s.vm.findClass RX1 = some m.cls := findClass_of_methodNamed B.named
  have hlocks := B.notSynchronized
  have hP : va_P (dC, dI) vwCl (mC o b1 b2 b3 e1 e2 e3 (nI N) (nI c) (nI y) (nI z) fo kn g1 g2 g3) s.heap := hP
  have hin1 : ∀ w ∈ u_ws RX1 TX1 9, w ∈ wsX1_search := by decide +kernel
  have hl := lv_entry ([.ref o, .int (nI a), .int (nI v)]) (n := 5) (Nat.le_of_ble_eq_true rfl)
  rw [lg_entry_eq]
  generalize (lg_sl ([.ref o, .int (nI a), .int (nI v)]) ++ List.replicate (5 - (lg_sl ([.ref o, .int (nI a), .int (nI v)])).length) Slot.unset).toArray = ls at hl ⊢
  have hl : lv_has ls 5 [(0, .ref o), (1, .int (nI a)), (2, .int (nI v))] := hl
  refine lv_aload_n hx hb dX1_search_0 rfl (lv_at hl 0 rfl) ?_
  refine lv_iload_n hx hb dX1_search_1 rfl (lv_at hl 1 rfl) ?_
  refine lv_iload_n hx hb dX1_search_2 rfl (lv_at hl 2 rfl) ?_
  refine vp_callSi (W.runV (As := [.int (nI a), .int (nI v)]) (rest := []) ⟨hx, hb, hml, hown, hts⟩ (m_holds l dC dI o b1 b2 b3 e1 e2 e3 N c y z fo kn g1 g2 g3 hR (fun k hk => ⟨cs_N31 hN (hB k hk).1, cs_N31 hN (hB k hk).2⟩) hc a (by omega)) (cwV 2 hts gX1_search_X1_holds rfl rfl rfl (by decide +kernel) ⟨by show 0 + 1 ≤ (n + 1) + 2; omega, by show 8 + (4 + 11) + 0 ≤ 40 * (n + 1) + 60; omega⟩) (rW_preV hP hK (va_recv (q := (RX1, TX1, 9)) (q0 := 0) hK hP rfl rfl)) rfl rfl hl.1 rfl (lv_room (Nat.le_of_ble_eq_true rfl)) dX1_search_3 ⟨Nat.le_refl _, Nat.le_refl _⟩) (fun r0 hr0 => ?_)
  rcases hr0 with ⟨rfl, hm⟩ | ⟨rfl, k, hk, hk0, hm⟩
  · refine lv_if_ne hx hb dX1_search_6 (tgt := 12) (by decide) (fun _ => ?_) (fun hq => absurd hq (by decide))
    refine lv_iload_n hx hb dX1_search_12 rfl (lv_at hl 2 rfl) ?_
    refine lv_aload_n hx hb dX1_search_13 rfl (lv_at hl 0 rfl) ?_
    refine va_get (D := (dC, dI)) (ci := 1) (v := .int (nI N)) (C := RX1) (T := TX1) (N := 9) hx hb hts hin1 hown hK hP 0 rfl rfl 0 (by decide) (hts (.fieldLink RX1 20 "ClauseSolverModel" "variables" "I") (by decide +kernel)) (fun _ h9 => h9) rfl dX1_search_14 ?_
    have hp : 2 ^ (v + 1) = 2 ^ v + 2 ^ v := TI_p
    have hlt : ∀ (q r : Nat), q < 2 ^ (v + 1) → fs (PX c Y Z) w n q (v + 1) = some r → r < 2 ^ 31 := fun q r h1 h2 => Nat.lt_of_lt_of_le (fs_lt h1 h2) (Nat.pow_le_pow_right (by decide) (by omega))
    refine lv_icmp_ne hx hb dX1_search_17 (tgt := 22) (by decide) (fun _ => ?_) (fun hq => absurd hq ((fun z9 => absurd ((nI_eq (by omega) (by omega)).mp z9) (by omega))))
    refine lv_iconst (v := nI 1) hx hb dX1_search_22 (by decide) ?_
    refine lv_iload_n hx hb dX1_search_23 rfl (lv_at hl 2 rfl) ?_
    refine lv_ishl hx hb dX1_search_24 ?_
    refine cs_top (y := nI (2 ^ v)) (cs_one (by omega)) ?_
    refine lv_istore_n hx hb dX1_search_25 rfl hl (by decide) rfl (fun ls hl => ?_)
    have hl : lv_has ls 5 [(3, .int (nI (2 ^ v))), (0, .ref o), (1, .int (nI a)), (2, .int (nI v))] := hl
    refine lv_aload_n hx hb dX1_search_26 rfl (lv_at hl 1 rfl) ?_
    refine lv_aload_n hx hb dX1_search_27 rfl (lv_at hl 1 rfl) ?_
    refine va_get (D := (dC, dI)) (ci := 1) (v := .ref b1) (C := RX1) (T := TX1) (N := 9) hx hb hts hin1 hown hK hP 0 rfl rfl 1 (by decide) (hts (.fieldLink RX1 7 "ClauseSolverModel" "wish" "[Z") (by decide +kernel)) (fun _ h9 => h9) rfl dX1_search_28 ?_
    refine lv_iload_n hx hb dX1_search_31 rfl (lv_at hl 3 rfl) ?_
    cases hbit : w.testBit v with
    | true =>
      refine cs_zald hx hb hK hP 1 0 rfl rfl (by omega) (by decide) dX1_search_32 ?_
      refine cs_top (y := bI true) ((hW v (by omega)).trans (congrArg bI hbit)) ?_
      refine lv_if_eq hx hb dX1_search_33 (tgt := 42) (by decide) (fun hq => absurd hq (by decide)) (fun _ => ?_)
      refine lv_iload_n hx hb dX1_search_36 rfl (lv_at hl 2 rfl) ?_
      refine lv_iload_n hx hb dX1_search_37 rfl (lv_at hl 0 rfl) ?_
      refine lv_ior hx hb dX1_search_38 ?_
      refine cs_top (y := nI (a ||| (2 ^ v))) (cs_or a (2 ^ v)) ?_
      refine lv_goto hx hb dX1_search_39 (tgt := 43) (by decide) ?_
      refine cs_top (y := nI (a + 2 ^ v)) (congrArg nI (TI_or ha)) ?_
      refine lv_iload_n hx hb dX1_search_43 rfl (lv_at hl 3 rfl) ?_
      refine lv_iconst (v := nI 1) hx hb dX1_search_44 (by decide) ?_
      refine lv_iadd hx hb dX1_search_45 ?_
      refine cs_top (y := nI (v + 1)) (nI_add v 1) ?_
      refine vp_callSi (W.runV (As := [.int (nI (a + 2 ^ v)), .int (nI (v + 1))]) (rest := []) ⟨hx, hb, hml, hown, hts⟩ (hS (a + 2 ^ v) (by omega)) (cwV 2 hts gX1_search_X1_search rfl rfl rfl (by decide +kernel) ⟨by show n + 2 + 1 ≤ n + 1 + 2; omega, by show 8 + (5 + 11) + (40 * n + 60) ≤ 40 * (n + 1) + 60; omega⟩) (rW_preV hP hK (va_recv (q := (RX1, TX1, 9)) (q0 := 0) hK hP rfl rfl)) rfl rfl hl.1 rfl (lv_room (Nat.le_of_ble_eq_true rfl)) dX1_search_46 ⟨Nat.le_refl _, Nat.le_refl _⟩) (fun r0 hr0 => ?_)
      subst hr0
      refine lv_istore hx hb dX1_search_49 hl (by decide) rfl (fun ls hl => ?_)
      have hl : lv_has ls 5 [(4, .int (rs (fs (PX c Y Z) w n (a + 2 ^ v) (v + 1)))), (3, .int (nI (2 ^ v))), (0, .ref o), (1, .int (nI a)), (2, .int (nI v))] := hl
      refine lv_iload hx hb dX1_search_51 (lv_at hl 0 rfl) ?_
      refine lv_if_lt hx hb dX1_search_53 (tgt := 61) (by decide) (fun hq => ?_) (fun hq => ?_)
      · refine lv_aload_n hx hb dX1_search_61 rfl (lv_at hl 2 rfl) ?_
        refine lv_aload_n hx hb dX1_search_62 rfl (lv_at hl 2 rfl) ?_
        refine va_get (D := (dC, dI)) (ci := 1) (v := .ref b1) (C := RX1) (T := TX1) (N := 9) hx hb hts hin1 hown hK hP 0 rfl rfl 1 (by decide) (hts (.fieldLink RX1 7 "ClauseSolverModel" "wish" "[Z") (by decide +kernel)) (fun _ h9 => h9) rfl dX1_search_63 ?_
        refine lv_iload_n hx hb dX1_search_66 rfl (lv_at hl 4 rfl) ?_
        refine cs_zald hx hb hK hP 1 0 rfl rfl (by omega) (by decide) dX1_search_67 ?_
        refine cs_top (y := bI true) ((hW v (by omega)).trans (congrArg bI hbit)) ?_
        refine lv_if_eq hx hb dX1_search_68 (tgt := 75) (by decide) (fun hq => absurd hq (by decide)) (fun _ => ?_)
        refine lv_iload_n hx hb dX1_search_71 rfl (lv_at hl 3 rfl) ?_
        refine lv_goto hx hb dX1_search_72 (tgt := 78) (by decide) ?_
        refine lv_iload_n hx hb dX1_search_78 rfl (lv_at hl 4 rfl) ?_
        refine lv_iconst (v := nI 1) hx hb dX1_search_79 (by decide) ?_
        refine lv_iadd hx hb dX1_search_80 ?_
        refine cs_top (y := nI (v + 1)) (nI_add v 1) ?_
        refine vp_callSi (W.runV (As := [.int (nI a), .int (nI (v + 1))]) (rest := []) ⟨hx, hb, hml, hown, hts⟩ (hS a (by omega)) (cwV 2 hts gX1_search_X1_search rfl rfl rfl (by decide +kernel) ⟨by show n + 2 + 1 ≤ n + 1 + 2; omega, by show 8 + (5 + 11) + (40 * n + 60) ≤ 40 * (n + 1) + 60; omega⟩) (rW_preV hP hK (va_recv (q := (RX1, TX1, 9)) (q0 := 0) hK hP rfl rfl)) rfl rfl hl.1 rfl (lv_room (Nat.le_of_ble_eq_true rfl)) dX1_search_81 ⟨Nat.le_refl _, Nat.le_refl _⟩) (fun r0 hr0 => ?_)
        subst hr0
        exact W.iret (v := rs (fs (PX c Y Z) w n a (v + 1))) hx hb hr (fun t ht hW => ⟨rs (fs (PX c Y Z) w n a (v + 1)), rfl, by rw [fs_st hbit, or_right ((rs_lt0 (hlt _ · (by omega))).mp hq)], ht⟩) (fun q h => by cases h) dX1_search_84
      · refine lv_iload hx hb dX1_search_56 (lv_at hl 0 rfl) ?_
        refine lv_goto hx hb dX1_search_58 (tgt := 84) (by decide) ?_
        exact W.iret (v := rs (fs (PX c Y Z) w n (a + 2 ^ v) (v + 1))) hx hb hr (fun t ht hW => ⟨rs (fs (PX c Y Z) w n (a + 2 ^ v) (v + 1)), rfl, by rw [fs_st hbit, or_left (fun z9 => hq (by rw [z9]; decide))], ht⟩) (fun q h => by cases h) dX1_search_84
    | false =>
      refine cs_zald hx hb hK hP 1 0 rfl rfl (by omega) (by decide) dX1_search_32 ?_
      refine cs_top (y := bI false) ((hW v (by omega)).trans (congrArg bI hbit)) ?_
      refine lv_if_eq hx hb dX1_search_33 (tgt := 42) (by decide) (fun _ => ?_) (fun hq => absurd (nI_0) hq)
      refine lv_iload_n hx hb dX1_search_42 rfl (lv_at hl 2 rfl) ?_
      refine lv_iload_n hx hb dX1_search_43 rfl (lv_at hl 3 rfl) ?_
      refine lv_iconst (v := nI 1) hx hb dX1_search_44 (by decide) ?_
      refine lv_iadd hx hb dX1_search_45 ?_
      refine cs_top (y := nI (v + 1)) (nI_add v 1) ?_
      refine vp_callSi (W.runV (As := [.int (nI a), .int (nI (v + 1))]) (rest := []) ⟨hx, hb, hml, hown, hts⟩ (hS a (by omega)) (cwV 2 hts gX1_search_X1_search rfl rfl rfl (by decide +kernel) ⟨by show n + 2 + 1 ≤ n + 1 + 2; omega, by show 8 + (5 + 11) + (40 * n + 60) ≤ 40 * (n + 1) + 60; omega⟩) (rW_preV hP hK (va_recv (q := (RX1, TX1, 9)) (q0 := 0) hK hP rfl rfl)) rfl rfl hl.1 rfl (lv_room (Nat.le_of_ble_eq_true rfl)) dX1_search_46 ⟨Nat.le_refl _, Nat.le_refl _⟩) (fun r0 hr0 => ?_)
      subst hr0
      refine lv_istore hx hb dX1_search_49 hl (by decide) rfl (fun ls hl => ?_)
      have hl : lv_has ls 5 [(4, .int (rs (fs (PX c Y Z) w n a (v + 1)))), (3, .int (nI (2 ^ v))), (0, .ref o), (1, .int (nI a)), (2, .int (nI v))] := hl
      refine lv_iload hx hb dX1_search_51 (lv_at hl 0 rfl) ?_
      refine lv_if_lt hx hb dX1_search_53 (tgt := 61) (by decide) (fun hq => ?_) (fun hq => ?_)
      · refine lv_aload_n hx hb dX1_search_61 rfl (lv_at hl 2 rfl) ?_
        refine lv_aload_n hx hb dX1_search_62 rfl (lv_at hl 2 rfl) ?_
        refine va_get (D := (dC, dI)) (ci := 1) (v := .ref b1) (C := RX1) (T := TX1) (N := 9) hx hb hts hin1 hown hK hP 0 rfl rfl 1 (by decide) (hts (.fieldLink RX1 7 "ClauseSolverModel" "wish" "[Z") (by decide +kernel)) (fun _ h9 => h9) rfl dX1_search_63 ?_
        refine lv_iload_n hx hb dX1_search_66 rfl (lv_at hl 4 rfl) ?_
        refine cs_zald hx hb hK hP 1 0 rfl rfl (by omega) (by decide) dX1_search_67 ?_
        refine cs_top (y := bI false) ((hW v (by omega)).trans (congrArg bI hbit)) ?_
        refine lv_if_eq hx hb dX1_search_68 (tgt := 75) (by decide) (fun _ => ?_) (fun hq => absurd (nI_0) hq)
        refine lv_iload_n hx hb dX1_search_75 rfl (lv_at hl 3 rfl) ?_
        refine lv_iload_n hx hb dX1_search_76 rfl (lv_at hl 1 rfl) ?_
        refine lv_ior hx hb dX1_search_77 ?_
        refine cs_top (y := nI (a ||| (2 ^ v))) (cs_or a (2 ^ v)) ?_
        refine cs_top (y := nI (a + 2 ^ v)) (congrArg nI (TI_or ha)) ?_
        refine lv_iload_n hx hb dX1_search_78 rfl (lv_at hl 4 rfl) ?_
        refine lv_iconst (v := nI 1) hx hb dX1_search_79 (by decide) ?_
        refine lv_iadd hx hb dX1_search_80 ?_
        refine cs_top (y := nI (v + 1)) (nI_add v 1) ?_
        refine vp_callSi (W.runV (As := [.int (nI (a + 2 ^ v)), .int (nI (v + 1))]) (rest := []) ⟨hx, hb, hml, hown, hts⟩ (hS (a + 2 ^ v) (by omega)) (cwV 2 hts gX1_search_X1_search rfl rfl rfl (by decide +kernel) ⟨by show n + 2 + 1 ≤ n + 1 + 2; omega, by show 8 + (5 + 11) + (40 * n + 60) ≤ 40 * (n + 1) + 60; omega⟩) (rW_preV hP hK (va_recv (q := (RX1, TX1, 9)) (q0 := 0) hK hP rfl rfl)) rfl rfl hl.1 rfl (lv_room (Nat.le_of_ble_eq_true rfl)) dX1_search_81 ⟨Nat.le_refl _, Nat.le_refl _⟩) (fun r0 hr0 => ?_)
        subst hr0
        exact W.iret (v := rs (fs (PX c Y Z) w n (a + 2 ^ v) (v + 1))) hx hb hr (fun t ht hW => ⟨rs (fs (PX c Y Z) w n (a + 2 ^ v) (v + 1)), rfl, by rw [fs_sf hbit, or_right ((rs_lt0 (hlt _ · (by omega))).mp hq)], ht⟩) (fun q h => by cases h) dX1_search_84
      · refine lv_iload hx hb dX1_search_56 (lv_at hl 0 rfl) ?_
        refine lv_goto hx hb dX1_search_58 (tgt := 84) (by decide) ?_
        exact W.iret (v := rs (fs (PX c Y Z) w n a (v + 1))) hx hb hr (fun t ht hW => ⟨rs (fs (PX c Y Z) w n a (v + 1)), rfl, by rw [fs_sf hbit, or_left (fun z9 => hq (by rw [z9]; decide))], ht⟩) (fun q h => by cases h) dX1_search_84
  · refine lv_if_ne hx hb dX1_search_6 (tgt := 12) (by decide) (fun hq => absurd (nI_0) hq) (fun _ => ?_)
    refine lv_bipush (v := (-2)) hx hb dX1_search_9 (by decide) ?_
    exact W.iret (v := (-2)) hx hb hr (fun t ht hW => ⟨(-2), rfl, by rw [PX_cut ha hk hk0 hm]; rfl, ht⟩) (fun q h => by cases h) dX1_search_11
set_option maxHeartbeats 4000000 in
/-- the reference's search -/
theorem m_search (l : Launch) (dC : Nat → ClassId) (dI : Nat → Nat → Nat) (o b1 b2 b3 : Nat) (e1 e2 e3 : ClassId) (N c y z : Nat) (fo kn : Int32) (g1 g2 g3 : Nat → Int32) {Y Z : Nat → Nat} (hR : ∀ k, k < c → g2 k = nI (Y k) ∧ g3 k = nI (Z k)) (hB : ∀ k, k < c → Y k < 2 ^ N ∧ Z k < 2 ^ N) (hc : c ≤ 400) (hN : N ≤ 16) {w : Nat} (hW : ∀ v, v < N → g1 v = bI (w.testBit v)) : ∀ (n a v : Nat), v + n = N → a < 2 ^ v → Met l yX1_search wsX1_search ({ frames := (n + 2), cells := 0, slots := 0, locals := (40 * n + 60) }) (va_Pc [.ref o, .int (nI a), .int (nI v)] (rW (dC, dI) vwCl (mC o b1 b2 b3 e1 e2 e3 (nI N) (nI c) (nI y) (nI z) fo kn g1 g2 g3) (mT e1 e2 e3))) (vp_Si (fun r => r = rs (fs (PX c Y Z) w n a v))) 0 0 (fun _ => False) := by
  intro n
  induction n with
  | zero => exact fun a v hv ha => m_search_leaf l dC dI o b1 b2 b3 e1 e2 e3 N c y z fo kn g1 g2 g3 hR hB hc hN hW (by omega) ha
  | succ n ih => exact fun a v hv ha => m_search_up l dC dI o b1 b2 b3 e1 e2 e3 N c y z fo kn g1 g2 g3 hR hB hc hN hW n hv ha (fun a2 h2 => ih a2 (v + 1) (by omega) h2)
set_option maxHeartbeats 4000000 in
set_option maxRecDepth 100000 in
theorem m_answer_k (l : Launch) (sz : Nat) (dC : Nat → ClassId) (dI : Nat → Nat → Nat) (o b1 b2 b3 : Nat) (e1 e2 e3 : ClassId) (N c y z : Nat) (fo kn : Int32) (g1 g2 g3 : Nat → Int32) (hk : kn = nI 1) : Met l yX1_answer wsX1_answer ({ frames := 20, cells := 0, slots := 0, locals := 740 }) (va_Pc [.ref o] (wW (dC, dI) vwCl (mC o b1 b2 b3 e1 e2 e3 (nI N) (nI c) (nI y) (nI z) fo kn g1 g2 g3) (mT e1 e2 e3) sz)) (va_Qi (fun (r : Int32) (u : Unit) => r = fo) (oW (dC, dI) vwCl (mC o b1 b2 b3 e1 e2 e3 (nI N) (nI c) (nI y) (nI z) fo kn g1 g2 g3) sz (fun u : Unit => (mC o b1 b2 b3 e1 e2 e3 (nI N) (nI c) (nI y) (nI z) fo (nI 1) g1 g2 g3))) (va_A (mC o b1 b2 b3 e1 e2 e3 (nI N) (nI c) (nI y) (nI z) fo kn g1 g2 g3) sz)) 0 0 (va_A (mC o b1 b2 b3 e1 e2 e3 (nI N) (nI c) (nI y) (nI z) fo kn g1 g2 g3) sz) := by
  refine Met.ofW (cc := cX1_answer) (maxL := 1) (ret := some .int) (by decide) rfl ?_
  intro p e s m args below meth c0 s₁ B hml hv0
  obtain ⟨rfl, hsz, hP, hK, hD0⟩ := hv0
  have hx := B.exec
  have hb := B.bytes
  have hr := B.returns
  have hts := atoms_spec (ws := wsX1_answer) B.pre
  have hown : s.vm.findClass RX1 = some m.cls := findClass_of_methodNamed B.named
  have hlocks := B.notSynchronized
  subst hsz
  have hD := hD0.self (sz := s.heap.size)
  generalize hAe : va_A (mC o b1 b2 b3 e1 e2 e3 (nI N) (nI c) (nI y) (nI z) fo kn g1 g2 g3) s.heap.size = A at hD ⊢
  have hA : ∀ q : Nat, s.heap.size ≤ q → A q := fun q h => by rw [← hAe]; exact Or.inr h
  have hS : va_S A s.heap s.heap [] := va_S.rf
  have hP : va_P (dC, dI) vwCl (mC o b1 b2 b3 e1 e2 e3 (nI N) (nI c) (nI y) (nI z) fo kn g1 g2 g3) s.heap := hP
  have hin1 : ∀ w ∈ u_ws RX1 TX1 9, w ∈ wsX1_answer := by decide +kernel
  have hl := lv_entry ([.ref o]) (n := 1) (Nat.le_of_ble_eq_true rfl)
  rw [lg_entry_eq]
  generalize (lg_sl ([.ref o]) ++ List.replicate (1 - (lg_sl ([.ref o])).length) Slot.unset).toArray = ls at hl ⊢
  have hl : lv_has ls 1 [(0, .ref o)] := hl
  refine lv_aload_n hx hb dX1_answer_0 rfl (lv_at hl 0 rfl) ?_
  refine va_get (D := (dC, dI)) (ci := 1) (v := .int kn) (C := RX1) (T := TX1) (N := 9) hx hb hts hin1 hown hK hP 0 rfl rfl 8 (by decide) (hts (.fieldLink RX1 28 "ClauseSolverModel" "known" "Z") (by decide +kernel)) (fun _ h9 => h9) rfl dX1_answer_1 ?_
  refine lv_if_ne hx hb dX1_answer_4 (tgt := 17) (by decide) (fun _ => ?_) (fun hq => absurd hq (by rw [hk]; decide))
  refine lv_aload_n hx hb dX1_answer_17 rfl (lv_at hl 0 rfl) ?_
  refine lv_iconst (v := nI 1) hx hb dX1_answer_18 (by decide) ?_
  refine va_put (D := (dC, dI)) (ci := 1) (v := .int (nI 1)) (ty := .boolean) (C := RX1) (T := TX1) (N := 9) hx hb hts hin1 tyX1 tyX1_ok nmX1 hown hK hP hD hS 0 rfl rfl 8 (by decide) (hts (.fieldLink RX1 28 "ClauseSolverModel" "known" "Z") (by decide +kernel)) (fun _ h9 => h9) rfl (by decide +kernel) rfl rfl (Nat.le_of_ble_eq_true rfl) dX1_answer_19 (fun H locs hP hD hS => ?_)
  have hP : va_P (dC, dI) vwCl (mC o b1 b2 b3 e1 e2 e3 (nI N) (nI c) (nI y) (nI z) fo (nI 1) g1 g2 g3) H := hP
  have hD : va_D A (mC o b1 b2 b3 e1 e2 e3 (nI N) (nI c) (nI y) (nI z) fo (nI 1) g1 g2 g3) := hD
  refine lv_aload_n hx hb dX1_answer_22 rfl (lv_at hl 0 rfl) ?_
  refine va_get (D := (dC, dI)) (ci := 1) (v := .int fo) (C := RX1) (T := TX1) (N := 9) hx hb hts hin1 hown hK hP 0 rfl rfl 7 (by decide) (hts (.fieldLink RX1 56 "ClauseSolverModel" "found" "I") (by decide +kernel)) (fun _ h9 => h9) rfl dX1_answer_23 ?_
  exact W.iret (v := fo) hx hb hr (fun t ht hW => ⟨⟨fo, (), rfl, rfl, by rw [ht]; exact hP, by rw [hAe]; exact hD⟩, hS.F ht⟩) hS.2.2 dX1_answer_26
set_option maxHeartbeats 4000000 in
set_option maxRecDepth 100000 in
theorem m_answer (l : Launch) (sz : Nat) (dC : Nat → ClassId) (dI : Nat → Nat → Nat) (o b1 b2 b3 : Nat) (e1 e2 e3 : ClassId) (N c y z : Nat) (fo kn : Int32) (g1 g2 g3 : Nat → Int32) {Y Z : Nat → Nat} (hR : ∀ k, k < c → g2 k = nI (Y k) ∧ g3 k = nI (Z k)) (hB : ∀ k, k < c → Y k < 2 ^ N ∧ Z k < 2 ^ N) (hc : c ≤ 400) (hN : N ≤ 16) {w : Nat} (hW : ∀ v, v < N → g1 v = bI (w.testBit v)) (hk : kn = nI 0) : Met l yX1_answer wsX1_answer ({ frames := 20, cells := 0, slots := 0, locals := 740 }) (va_Pc [.ref o] (wW (dC, dI) vwCl (mC o b1 b2 b3 e1 e2 e3 (nI N) (nI c) (nI y) (nI z) fo kn g1 g2 g3) (mT e1 e2 e3) sz)) (va_Qi (fun (r : Int32) (u : Unit) => r = rs (fs (PX c Y Z) w N 0 0)) (oW (dC, dI) vwCl (mC o b1 b2 b3 e1 e2 e3 (nI N) (nI c) (nI y) (nI z) fo kn g1 g2 g3) sz (fun u : Unit => (mC o b1 b2 b3 e1 e2 e3 (nI N) (nI c) (nI y) (nI z) (rs (fs (PX c Y Z) w N 0 0)) (nI 1) g1 g2 g3))) (va_A (mC o b1 b2 b3 e1 e2 e3 (nI N) (nI c) (nI y) (nI z) fo kn g1 g2 g3) sz)) 0 0 (va_A (mC o b1 b2 b3 e1 e2 e3 (nI N) (nI c) (nI y) (nI z) fo kn g1 g2 g3) sz) := by
  refine Met.ofW (cc := cX1_answer) (maxL := 1) (ret := some .int) (by decide) rfl ?_
  intro p e s m args below meth c0 s₁ B hml hv0
  obtain ⟨rfl, hsz, hP, hK, hD0⟩ := hv0
  have hx := B.exec
  have hb := B.bytes
  have hr := B.returns
  have hts := atoms_spec (ws := wsX1_answer) B.pre
  have hown : s.vm.findClass RX1 = some m.cls := findClass_of_methodNamed B.named
  have hlocks := B.notSynchronized
  subst hsz
  have hD := hD0.self (sz := s.heap.size)
  generalize hAe : va_A (mC o b1 b2 b3 e1 e2 e3 (nI N) (nI c) (nI y) (nI z) fo kn g1 g2 g3) s.heap.size = A at hD ⊢
  have hA : ∀ q : Nat, s.heap.size ≤ q → A q := fun q h => by rw [← hAe]; exact Or.inr h
  have hS : va_S A s.heap s.heap [] := va_S.rf
  have hP : va_P (dC, dI) vwCl (mC o b1 b2 b3 e1 e2 e3 (nI N) (nI c) (nI y) (nI z) fo kn g1 g2 g3) s.heap := hP
  have hin1 : ∀ w ∈ u_ws RX1 TX1 9, w ∈ wsX1_answer := by decide +kernel
  have hl := lv_entry ([.ref o]) (n := 1) (Nat.le_of_ble_eq_true rfl)
  rw [lg_entry_eq]
  generalize (lg_sl ([.ref o]) ++ List.replicate (1 - (lg_sl ([.ref o])).length) Slot.unset).toArray = ls at hl ⊢
  have hl : lv_has ls 1 [(0, .ref o)] := hl
  refine lv_aload_n hx hb dX1_answer_0 rfl (lv_at hl 0 rfl) ?_
  refine va_get (D := (dC, dI)) (ci := 1) (v := .int kn) (C := RX1) (T := TX1) (N := 9) hx hb hts hin1 hown hK hP 0 rfl rfl 8 (by decide) (hts (.fieldLink RX1 28 "ClauseSolverModel" "known" "Z") (by decide +kernel)) (fun _ h9 => h9) rfl dX1_answer_1 ?_
  refine lv_if_ne hx hb dX1_answer_4 (tgt := 17) (by decide) (fun hq => absurd (by rw [hk]; exact nI_0) hq) (fun _ => ?_)
  refine lv_aload_n hx hb dX1_answer_7 rfl (lv_at hl 0 rfl) ?_
  refine lv_aload_n hx hb dX1_answer_8 rfl (lv_at hl 0 rfl) ?_
  refine lv_iconst (v := nI 0) hx hb dX1_answer_9 (by decide) ?_
  refine lv_iconst (v := nI 0) hx hb dX1_answer_10 (by decide) ?_
  refine vp_callSi (W.runV (As := [.int (nI 0), .int (nI 0)]) (rest := [.ref o]) ⟨hx, hb, hml, hown, hts⟩ (m_search l dC dI o b1 b2 b3 e1 e2 e3 N c y z fo kn g1 g2 g3 hR hB hc hN hW N 0 0 (by omega) (by decide)) (cwV 2 hts gX1_answer_X1_search rfl rfl rfl (by decide +kernel) ⟨by show N + 2 + 1 ≤ 20; omega, by show 8 + (5 + 11) + (40 * N + 60) ≤ 740; omega⟩) (rW_preV hP hK (va_recv (q := (RX1, TX1, 9)) (q0 := 0) hK hP rfl rfl)) rfl rfl hl.1 rfl (lv_room (Nat.le_of_ble_eq_true rfl)) dX1_answer_11 ⟨Nat.le_refl _, Nat.le_refl _⟩) (fun r0 hr0 => ?_)
  subst hr0
  refine va_put (D := (dC, dI)) (ci := 1) (v := .int (rs (fs (PX c Y Z) w N 0 0))) (ty := .int) (C := RX1) (T := TX1) (N := 9) hx hb hts hin1 tyX1 tyX1_ok nmX1 hown hK hP hD hS 0 rfl rfl 7 (by decide) (hts (.fieldLink RX1 56 "ClauseSolverModel" "found" "I") (by decide +kernel)) (fun _ h9 => h9) rfl (by decide +kernel) rfl rfl (Nat.le_of_ble_eq_true rfl) dX1_answer_14 (fun H locs hP hD hS => ?_)
  have hP : va_P (dC, dI) vwCl (mC o b1 b2 b3 e1 e2 e3 (nI N) (nI c) (nI y) (nI z) (rs (fs (PX c Y Z) w N 0 0)) kn g1 g2 g3) H := hP
  have hD : va_D A (mC o b1 b2 b3 e1 e2 e3 (nI N) (nI c) (nI y) (nI z) (rs (fs (PX c Y Z) w N 0 0)) kn g1 g2 g3) := hD
  refine lv_aload_n hx hb dX1_answer_17 rfl (lv_at hl 0 rfl) ?_
  refine lv_iconst (v := nI 1) hx hb dX1_answer_18 (by decide) ?_
  refine va_put (D := (dC, dI)) (ci := 1) (v := .int (nI 1)) (ty := .boolean) (C := RX1) (T := TX1) (N := 9) hx hb hts hin1 tyX1 tyX1_ok nmX1 hown hK hP hD hS 0 rfl rfl 8 (by decide) (hts (.fieldLink RX1 28 "ClauseSolverModel" "known" "Z") (by decide +kernel)) (fun _ h9 => h9) rfl (by decide +kernel) rfl rfl (Nat.le_of_ble_eq_true rfl) dX1_answer_19 (fun H locs hP hD hS => ?_)
  have hP : va_P (dC, dI) vwCl (mC o b1 b2 b3 e1 e2 e3 (nI N) (nI c) (nI y) (nI z) (rs (fs (PX c Y Z) w N 0 0)) (nI 1) g1 g2 g3) H := hP
  have hD : va_D A (mC o b1 b2 b3 e1 e2 e3 (nI N) (nI c) (nI y) (nI z) (rs (fs (PX c Y Z) w N 0 0)) (nI 1) g1 g2 g3) := hD
  refine lv_aload_n hx hb dX1_answer_22 rfl (lv_at hl 0 rfl) ?_
  refine va_get (D := (dC, dI)) (ci := 1) (v := .int (rs (fs (PX c Y Z) w N 0 0))) (C := RX1) (T := TX1) (N := 9) hx hb hts hin1 hown hK hP 0 rfl rfl 7 (by decide) (hts (.fieldLink RX1 56 "ClauseSolverModel" "found" "I") (by decide +kernel)) (fun _ h9 => h9) rfl dX1_answer_23 ?_
  exact W.iret (v := rs (fs (PX c Y Z) w N 0 0)) hx hb hr (fun t ht hW => ⟨⟨rs (fs (PX c Y Z) w N 0 0), (), rfl, rfl, by rw [ht]; exact hP, by rw [hAe]; exact hD⟩, hS.F ht⟩) hS.2.2 dX1_answer_26
set_option maxHeartbeats 4000000 in
set_option maxRecDepth 100000 in
theorem m_solve_k (l : Launch) (sz : Nat) (dC : Nat → ClassId) (dI : Nat → Nat → Nat) (o b1 b2 b3 : Nat) (e1 e2 e3 : ClassId) (N c y z : Nat) (fo kn : Int32) (g1 g2 g3 : Nat → Int32) (hk : kn = nI 1) : Met l yX1_solve wsX1_solve ({ frames := 21, cells := 0, slots := 0, locals := 770 }) (va_Pc [.ref o] (wW (dC, dI) vwCl (mC o b1 b2 b3 e1 e2 e3 (nI N) (nI c) (nI y) (nI z) fo kn g1 g2 g3) (mT e1 e2 e3) sz)) (va_Qi (fun (r : Int32) (u : Unit) => (r = nI 0 ∧ fo < 0) ∨ (r = nI 1 ∧ ¬ fo < 0)) (oW (dC, dI) vwCl (mC o b1 b2 b3 e1 e2 e3 (nI N) (nI c) (nI y) (nI z) fo kn g1 g2 g3) sz (fun u : Unit => (mC o b1 b2 b3 e1 e2 e3 (nI N) (nI c) (nI y) (nI z) fo (nI 1) g1 g2 g3))) (va_A (mC o b1 b2 b3 e1 e2 e3 (nI N) (nI c) (nI y) (nI z) fo kn g1 g2 g3) sz)) 0 0 (va_A (mC o b1 b2 b3 e1 e2 e3 (nI N) (nI c) (nI y) (nI z) fo kn g1 g2 g3) sz) := by
  refine Met.ofW (cc := cX1_solve) (maxL := 1) (ret := some .boolean) (by decide) rfl ?_
  intro p e s m args below meth c0 s₁ B hml hv0
  obtain ⟨rfl, hsz, hP, hK, hD0⟩ := hv0
  have hx := B.exec
  have hb := B.bytes
  have hr := B.returns
  have hts := atoms_spec (ws := wsX1_solve) B.pre
  have hown : s.vm.findClass RX1 = some m.cls := findClass_of_methodNamed B.named
  have hlocks := B.notSynchronized
  subst hsz
  have hD := hD0.self (sz := s.heap.size)
  generalize hAe : va_A (mC o b1 b2 b3 e1 e2 e3 (nI N) (nI c) (nI y) (nI z) fo kn g1 g2 g3) s.heap.size = A at hD ⊢
  have hA : ∀ q : Nat, s.heap.size ≤ q → A q := fun q h => by rw [← hAe]; exact Or.inr h
  have hS : va_S A s.heap s.heap [] := va_S.rf
  have hP : va_P (dC, dI) vwCl (mC o b1 b2 b3 e1 e2 e3 (nI N) (nI c) (nI y) (nI z) fo kn g1 g2 g3) s.heap := hP
  have hin1 : ∀ w ∈ u_ws RX1 TX1 9, w ∈ wsX1_solve := by decide +kernel
  have hl := lv_entry ([.ref o]) (n := 1) (Nat.le_of_ble_eq_true rfl)
  rw [lg_entry_eq]
  generalize (lg_sl ([.ref o]) ++ List.replicate (1 - (lg_sl ([.ref o])).length) Slot.unset).toArray = ls at hl ⊢
  have hl : lv_has ls 1 [(0, .ref o)] := hl
  refine lv_aload_n hx hb dX1_solve_0 rfl (lv_at hl 0 rfl) ?_
  refine cs_calli (wc := (mC o b1 b2 b3 e1 e2 e3 (nI N) (nI c) (nI y) (nI z) fo kn g1 g2 g3)) (wr := []) (va_runV (As := []) (rest := []) ⟨hx, hb, hml, hown, hts⟩ (m_answer_k l s.heap.size dC dI o b1 b2 b3 e1 e2 e3 N c y z fo kn g1 g2 g3 hk) (cwV 0 hts gX1_solve_X1_answer rfl rfl rfl (by decide +kernel) ⟨Nat.le_of_ble_eq_true rfl, Nat.le_of_ble_eq_true rfl⟩) (wW_preV hP hK hD (va_recv (q := (RX1, TX1, 9)) (q0 := 0) hK hP rfl rfl)) rfl rfl hl.1 rfl (lv_room (Nat.le_of_ble_eq_true rfl)) dX1_solve_1 ⟨Nat.le_refl _, Nat.le_refl _⟩) hS hA hP hD [0, 1, 2, 3] [] rfl rfl (by decide) (by decide) (fun r0 u H locs hr0 hP hD hS => ?_)
  have hP : va_P (dC, dI) vwCl (mC o b1 b2 b3 e1 e2 e3 (nI N) (nI c) (nI y) (nI z) fo (nI 1) g1 g2 g3) H := hP
  have hD : va_D A (mC o b1 b2 b3 e1 e2 e3 (nI N) (nI c) (nI y) (nI z) fo (nI 1) g1 g2 g3) := hD
  obtain rfl := hr0
  refine lv_if_lt hx hb dX1_solve_4 (tgt := 11) (by decide) (fun hq => ?_) (fun hq => ?_)
  · refine lv_iconst (v := nI 0) hx hb dX1_solve_11 (by decide) ?_
    exact W.zret (ty := .boolean) (v := nI 0) hx hb hr (by first | rfl | decide) (fun t ht hW => ⟨⟨nI 0, (), rfl, Or.inl ⟨rfl, hq⟩, by rw [ht]; exact hP, by rw [hAe]; exact hD⟩, hS.F ht⟩) hS.2.2 dX1_solve_12
  · refine lv_iconst (v := nI 1) hx hb dX1_solve_7 (by decide) ?_
    refine lv_goto hx hb dX1_solve_8 (tgt := 12) (by decide) ?_
    exact W.zret (ty := .boolean) (v := nI 1) hx hb hr (by first | rfl | decide) (fun t ht hW => ⟨⟨nI 1, (), rfl, Or.inr ⟨rfl, hq⟩, by rw [ht]; exact hP, by rw [hAe]; exact hD⟩, hS.F ht⟩) hS.2.2 dX1_solve_12
set_option maxHeartbeats 4000000 in
set_option maxRecDepth 100000 in
theorem m_solve (l : Launch) (sz : Nat) (dC : Nat → ClassId) (dI : Nat → Nat → Nat) (o b1 b2 b3 : Nat) (e1 e2 e3 : ClassId) (N c y z : Nat) (fo kn : Int32) (g1 g2 g3 : Nat → Int32) {Y Z : Nat → Nat} (hR : ∀ k, k < c → g2 k = nI (Y k) ∧ g3 k = nI (Z k)) (hB : ∀ k, k < c → Y k < 2 ^ N ∧ Z k < 2 ^ N) (hc : c ≤ 400) (hN : N ≤ 16) {w : Nat} (hW : ∀ v, v < N → g1 v = bI (w.testBit v)) (hk : kn = nI 0) : Met l yX1_solve wsX1_solve ({ frames := 21, cells := 0, slots := 0, locals := 770 }) (va_Pc [.ref o] (wW (dC, dI) vwCl (mC o b1 b2 b3 e1 e2 e3 (nI N) (nI c) (nI y) (nI z) fo kn g1 g2 g3) (mT e1 e2 e3) sz)) (va_Qi (fun (r : Int32) (u : Unit) => (r = nI 0 ∧ rs (fs (PX c Y Z) w N 0 0) < 0) ∨ (r = nI 1 ∧ ¬ rs (fs (PX c Y Z) w N 0 0) < 0)) (oW (dC, dI) vwCl (mC o b1 b2 b3 e1 e2 e3 (nI N) (nI c) (nI y) (nI z) fo kn g1 g2 g3) sz (fun u : Unit => (mC o b1 b2 b3 e1 e2 e3 (nI N) (nI c) (nI y) (nI z) (rs (fs (PX c Y Z) w N 0 0)) (nI 1) g1 g2 g3))) (va_A (mC o b1 b2 b3 e1 e2 e3 (nI N) (nI c) (nI y) (nI z) fo kn g1 g2 g3) sz)) 0 0 (va_A (mC o b1 b2 b3 e1 e2 e3 (nI N) (nI c) (nI y) (nI z) fo kn g1 g2 g3) sz) := by
  refine Met.ofW (cc := cX1_solve) (maxL := 1) (ret := some .boolean) (by decide) rfl ?_
  intro p e s m args below meth c0 s₁ B hml hv0
  obtain ⟨rfl, hsz, hP, hK, hD0⟩ := hv0
  have hx := B.exec
  have hb := B.bytes
  have hr := B.returns
  have hts := atoms_spec (ws := wsX1_solve) B.pre
  have hown : s.vm.findClass RX1 = some m.cls := findClass_of_methodNamed B.named
  have hlocks := B.notSynchronized
  subst hsz
  have hD := hD0.self (sz := s.heap.size)
  generalize hAe : va_A (mC o b1 b2 b3 e1 e2 e3 (nI N) (nI c) (nI y) (nI z) fo kn g1 g2 g3) s.heap.size = A at hD ⊢
  have hA : ∀ q : Nat, s.heap.size ≤ q → A q := fun q h => by rw [← hAe]; exact Or.inr h
  have hS : va_S A s.heap s.heap [] := va_S.rf
  have hP : va_P (dC, dI) vwCl (mC o b1 b2 b3 e1 e2 e3 (nI N) (nI c) (nI y) (nI z) fo kn g1 g2 g3) s.heap := hP
  have hin1 : ∀ w ∈ u_ws RX1 TX1 9, w ∈ wsX1_solve := by decide +kernel
  have hl := lv_entry ([.ref o]) (n := 1) (Nat.le_of_ble_eq_true rfl)
  rw [lg_entry_eq]
  generalize (lg_sl ([.ref o]) ++ List.replicate (1 - (lg_sl ([.ref o])).length) Slot.unset).toArray = ls at hl ⊢
  have hl : lv_has ls 1 [(0, .ref o)] := hl
  refine lv_aload_n hx hb dX1_solve_0 rfl (lv_at hl 0 rfl) ?_
  refine cs_calli (wc := (mC o b1 b2 b3 e1 e2 e3 (nI N) (nI c) (nI y) (nI z) fo kn g1 g2 g3)) (wr := []) (va_runV (As := []) (rest := []) ⟨hx, hb, hml, hown, hts⟩ (m_answer l s.heap.size dC dI o b1 b2 b3 e1 e2 e3 N c y z fo kn g1 g2 g3 hR hB hc hN hW hk) (cwV 0 hts gX1_solve_X1_answer rfl rfl rfl (by decide +kernel) ⟨Nat.le_of_ble_eq_true rfl, Nat.le_of_ble_eq_true rfl⟩) (wW_preV hP hK hD (va_recv (q := (RX1, TX1, 9)) (q0 := 0) hK hP rfl rfl)) rfl rfl hl.1 rfl (lv_room (Nat.le_of_ble_eq_true rfl)) dX1_solve_1 ⟨Nat.le_refl _, Nat.le_refl _⟩) hS hA hP hD [0, 1, 2, 3] [] rfl rfl (by decide) (by decide) (fun r0 u H locs hr0 hP hD hS => ?_)
  have hP : va_P (dC, dI) vwCl (mC o b1 b2 b3 e1 e2 e3 (nI N) (nI c) (nI y) (nI z) (rs (fs (PX c Y Z) w N 0 0)) (nI 1) g1 g2 g3) H := hP
  have hD : va_D A (mC o b1 b2 b3 e1 e2 e3 (nI N) (nI c) (nI y) (nI z) (rs (fs (PX c Y Z) w N 0 0)) (nI 1) g1 g2 g3) := hD
  obtain rfl := hr0
  refine lv_if_lt hx hb dX1_solve_4 (tgt := 11) (by decide) (fun hq => ?_) (fun hq => ?_)
  · refine lv_iconst (v := nI 0) hx hb dX1_solve_11 (by decide) ?_
    exact W.zret (ty := .boolean) (v := nI 0) hx hb hr (by first | rfl | decide) (fun t ht hW => ⟨⟨nI 0, (), rfl, Or.inl ⟨rfl, hq⟩, by rw [ht]; exact hP, by rw [hAe]; exact hD⟩, hS.F ht⟩) hS.2.2 dX1_solve_12
  · refine lv_iconst (v := nI 1) hx hb dX1_solve_7 (by decide) ?_
    refine lv_goto hx hb dX1_solve_8 (tgt := 12) (by decide) ?_
    exact W.zret (ty := .boolean) (v := nI 1) hx hb hr (by first | rfl | decide) (fun t ht hW => ⟨⟨nI 1, (), rfl, Or.inr ⟨rfl, hq⟩, by rw [ht]; exact hP, by rw [hAe]; exact hD⟩, hS.F ht⟩) hS.2.2 dX1_solve_12
set_option maxHeartbeats 4000000 in
set_option maxRecDepth 100000 in
theorem m_count0 (l : Launch) (dC : Nat → ClassId) (dI : Nat → Nat → Nat) (o b1 b2 b3 : Nat) (e1 e2 e3 : ClassId) (N c y z : Nat) (fo kn : Int32) (g1 g2 g3 : Nat → Int32) (hN : N ≤ 16) (hy : y < 2 ^ N) (hz : z < 2 ^ N) : Met l yX1_count wsX1_count ({ frames := 1, cells := 0, slots := 0, locals := 30 }) (va_Pc [.ref o, .int (nI 0)] (rW (dC, dI) vwCl (mC o b1 b2 b3 e1 e2 e3 (nI N) (nI c) (nI y) (nI z) fo kn g1 g2 g3) (mT e1 e2 e3))) (vp_Si (fun r => r = nI N)) 0 0 (fun _ => False) := by
  refine Met.ofW (cc := cX1_count) (maxL := 2) (ret := some .int) (by decide) rfl ?_
  intro p e s m args below meth c0 s₁ B hml hv0
  obtain ⟨rfl, hP, hK⟩ := hv0
  have hx := B.exec
  have hb := B.bytes
  have hr := B.returns
  have hts := atoms_spec (ws := wsX1_count) B.pre
  have hown : s.vm.findClass RX1 = some m.cls := findClass_of_methodNamed B.named
  have hlocks := B.notSynchronized
  have hP : va_P (dC, dI) vwCl (mC o b1 b2 b3 e1 e2 e3 (nI N) (nI c) (nI y) (nI z) fo kn g1 g2 g3) s.heap := hP
  have hin1 : ∀ w ∈ u_ws RX1 TX1 9, w ∈ wsX1_count := by decide +kernel
  have hl := lv_entry ([.ref o, .int (nI 0)]) (n := 2) (Nat.le_of_ble_eq_true rfl)
  rw [lg_entry_eq]
  generalize (lg_sl ([.ref o, .int (nI 0)]) ++ List.replicate (2 - (lg_sl ([.ref o, .int (nI 0)])).length) Slot.unset).toArray = ls at hl ⊢
  have hl : lv_has ls 2 [(0, .ref o), (1, .int (nI 0))] := hl
  refine lv_iload_n hx hb dX1_count_0 rfl (lv_at hl 1 rfl) ?_
  refine lv_tableIn hx hb dX1_count_1 (off := 27) (tgt := 28) (by decide) (by decide) (by decide) (by decide) ?_
  refine lv_aload_n hx hb dX1_count_28 rfl (lv_at hl 0 rfl) ?_
  refine va_get (D := (dC, dI)) (ci := 1) (v := .int (nI N)) (C := RX1) (T := TX1) (N := 9) hx hb hts hin1 hown hK hP 0 rfl rfl 0 (by decide) (hts (.fieldLink RX1 20 "ClauseSolverModel" "variables" "I") (by decide +kernel)) (fun _ h9 => h9) rfl dX1_count_29 ?_
  exact W.iret (v := nI N) hx hb hr (fun t ht hW => ⟨nI N, rfl, rfl, ht⟩) (fun q h => by cases h) dX1_count_32
set_option maxHeartbeats 4000000 in
set_option maxRecDepth 100000 in
theorem m_count1 (l : Launch) (dC : Nat → ClassId) (dI : Nat → Nat → Nat) (o b1 b2 b3 : Nat) (e1 e2 e3 : ClassId) (N c y z : Nat) (fo kn : Int32) (g1 g2 g3 : Nat → Int32) (hN : N ≤ 16) (hy : y < 2 ^ N) (hz : z < 2 ^ N) : Met l yX1_count wsX1_count ({ frames := 1, cells := 0, slots := 0, locals := 30 }) (va_Pc [.ref o, .int (nI 1)] (rW (dC, dI) vwCl (mC o b1 b2 b3 e1 e2 e3 (nI N) (nI c) (nI y) (nI z) fo kn g1 g2 g3) (mT e1 e2 e3))) (vp_Si (fun r => r = nI c)) 0 0 (fun _ => False) := by
  refine Met.ofW (cc := cX1_count) (maxL := 2) (ret := some .int) (by decide) rfl ?_
  intro p e s m args below meth c0 s₁ B hml hv0
  obtain ⟨rfl, hP, hK⟩ := hv0
  have hx := B.exec
  have hb := B.bytes
  have hr := B.returns
  have hts := atoms_spec (ws := wsX1_count) B.pre
  have hown : s.vm.findClass RX1 = some m.cls := findClass_of_methodNamed B.named
  have hlocks := B.notSynchronized
  have hP : va_P (dC, dI) vwCl (mC o b1 b2 b3 e1 e2 e3 (nI N) (nI c) (nI y) (nI z) fo kn g1 g2 g3) s.heap := hP
  have hin1 : ∀ w ∈ u_ws RX1 TX1 9, w ∈ wsX1_count := by decide +kernel
  have hl := lv_entry ([.ref o, .int (nI 1)]) (n := 2) (Nat.le_of_ble_eq_true rfl)
  rw [lg_entry_eq]
  generalize (lg_sl ([.ref o, .int (nI 1)]) ++ List.replicate (2 - (lg_sl ([.ref o, .int (nI 1)])).length) Slot.unset).toArray = ls at hl ⊢
  have hl : lv_has ls 2 [(0, .ref o), (1, .int (nI 1))] := hl
  refine lv_iload_n hx hb dX1_count_0 rfl (lv_at hl 1 rfl) ?_
  refine lv_tableIn hx hb dX1_count_1 (off := 32) (tgt := 33) (by decide) (by decide) (by decide) (by decide) ?_
  refine lv_aload_n hx hb dX1_count_33 rfl (lv_at hl 0 rfl) ?_
  refine va_get (D := (dC, dI)) (ci := 1) (v := .int (nI c)) (C := RX1) (T := TX1) (N := 9) hx hb hts hin1 hown hK hP 0 rfl rfl 4 (by decide) (hts (.fieldLink RX1 42 "ClauseSolverModel" "count" "I") (by decide +kernel)) (fun _ h9 => h9) rfl dX1_count_34 ?_
  exact W.iret (v := nI c) hx hb hr (fun t ht hW => ⟨nI c, rfl, rfl, ht⟩) (fun q h => by cases h) dX1_count_37
set_option maxHeartbeats 4000000 in
set_option maxRecDepth 100000 in
theorem m_count2 (l : Launch) (dC : Nat → ClassId) (dI : Nat → Nat → Nat) (o b1 b2 b3 : Nat) (e1 e2 e3 : ClassId) (N c y z : Nat) (fo kn : Int32) (g1 g2 g3 : Nat → Int32) (hN : N ≤ 16) (hy : y < 2 ^ N) (hz : z < 2 ^ N) : Met l yX1_count wsX1_count ({ frames := 1, cells := 0, slots := 0, locals := 30 }) (va_Pc [.ref o, .int (nI 2)] (rW (dC, dI) vwCl (mC o b1 b2 b3 e1 e2 e3 (nI N) (nI c) (nI y) (nI z) fo kn g1 g2 g3) (mT e1 e2 e3))) (vp_Si (fun r => r = nI (pcs y 16 + pcs z 16))) 0 0 (fun _ => False) := by
  refine Met.ofW (cc := cX1_count) (maxL := 2) (ret := some .int) (by decide) rfl ?_
  intro p e s m args below meth c0 s₁ B hml hv0
  obtain ⟨rfl, hP, hK⟩ := hv0
  have hx := B.exec
  have hb := B.bytes
  have hr := B.returns
  have hts := atoms_spec (ws := wsX1_count) B.pre
  have hown : s.vm.findClass RX1 = some m.cls := findClass_of_methodNamed B.named
  have hlocks := B.notSynchronized
  have hP : va_P (dC, dI) vwCl (mC o b1 b2 b3 e1 e2 e3 (nI N) (nI c) (nI y) (nI z) fo kn g1 g2 g3) s.heap := hP
  have hin1 : ∀ w ∈ u_ws RX1 TX1 9, w ∈ wsX1_count := by decide +kernel
  have hl := lv_entry ([.ref o, .int (nI 2)]) (n := 2) (Nat.le_of_ble_eq_true rfl)
  rw [lg_entry_eq]
  generalize (lg_sl ([.ref o, .int (nI 2)]) ++ List.replicate (2 - (lg_sl ([.ref o, .int (nI 2)])).length) Slot.unset).toArray = ls at hl ⊢
  have hl : lv_has ls 2 [(0, .ref o), (1, .int (nI 2))] := hl
  refine lv_iload_n hx hb dX1_count_0 rfl (lv_at hl 1 rfl) ?_
  refine lv_tableIn hx hb dX1_count_1 (off := 37) (tgt := 38) (by decide) (by decide) (by decide) (by decide) ?_
  refine lv_aload_n hx hb dX1_count_38 rfl (lv_at hl 0 rfl) ?_
  refine va_get (D := (dC, dI)) (ci := 1) (v := .int (nI y)) (C := RX1) (T := TX1) (N := 9) hx hb hts hin1 hown hK hP 0 rfl rfl 5 (by decide) (hts (.fieldLink RX1 32 "ClauseSolverModel" "ownYes" "I") (by decide +kernel)) (fun _ h9 => h9) rfl dX1_count_39 ?_
  refine vp_callSi (W.runS (As := [.int (nI y)]) (rest := []) ⟨hx, hb, hml, hown, hts⟩ (m_bits l (cs_N31 hN hy)) (va_cwS 1 hts gX1_count_X1_bits rfl rfl rfl (by decide +kernel) ⟨Nat.le_of_ble_eq_true rfl, Nat.le_of_ble_eq_true rfl⟩) (nW_preS) rfl rfl hl.1 rfl (lv_room (Nat.le_of_ble_eq_true rfl)) dX1_count_42 ⟨Nat.le_refl _, Nat.le_refl _⟩) (fun r0 hr0 => ?_)
  subst hr0
  refine lv_aload_n hx hb dX1_count_45 rfl (lv_at hl 0 rfl) ?_
  refine va_get (D := (dC, dI)) (ci := 1) (v := .int (nI z)) (C := RX1) (T := TX1) (N := 9) hx hb hts hin1 hown hK hP 0 rfl rfl 6 (by decide) (hts (.fieldLink RX1 35 "ClauseSolverModel" "ownNo" "I") (by decide +kernel)) (fun _ h9 => h9) rfl dX1_count_46 ?_
  refine vp_callSi (W.runS (As := [.int (nI z)]) (rest := [.int (nI (pcs y 16))]) ⟨hx, hb, hml, hown, hts⟩ (m_bits l (cs_N31 hN hz)) (va_cwS 1 hts gX1_count_X1_bits rfl rfl rfl (by decide +kernel) ⟨Nat.le_of_ble_eq_true rfl, Nat.le_of_ble_eq_true rfl⟩) (nW_preS) rfl rfl hl.1 rfl (lv_room (Nat.le_of_ble_eq_true rfl)) dX1_count_49 ⟨Nat.le_refl _, Nat.le_refl _⟩) (fun r0 hr0 => ?_)
  subst hr0
  refine lv_iadd hx hb dX1_count_52 ?_
  refine cs_top (y := nI ((pcs y 16) + (pcs z 16))) (nI_add (pcs y 16) (pcs z 16)) ?_
  exact W.iret (v := nI ((pcs y 16) + (pcs z 16))) hx hb hr (fun t ht hW => ⟨nI ((pcs y 16) + (pcs z 16)), rfl, rfl, ht⟩) (fun q h => by cases h) dX1_count_53
set_option maxHeartbeats 4000000 in
set_option maxRecDepth 100000 in
theorem m_count_out (l : Launch) (dC : Nat → ClassId) (dI : Nat → Nat → Nat) (o b1 b2 b3 : Nat) (e1 e2 e3 : ClassId) (N c y z : Nat) (fo kn : Int32) (g1 g2 g3 : Nat → Int32) {v : Int32} (hv : v.toInt < 0 ∨ 2 < v.toInt) : Met l yX1_count wsX1_count ({ frames := 1, cells := 0, slots := 0, locals := 30 }) (va_Pc [.ref o, .int v] (rW (dC, dI) vwCl (mC o b1 b2 b3 e1 e2 e3 (nI N) (nI c) (nI y) (nI z) fo kn g1 g2 g3) (mT e1 e2 e3))) (vp_Si (fun r => r = -1)) 0 0 (fun _ => False) := by
  refine Met.ofW (cc := cX1_count) (maxL := 2) (ret := some .int) (by decide) rfl ?_
  intro p e s m args below meth c0 s₁ B hml hv0
  obtain ⟨rfl, hP, hK⟩ := hv0
  have hx := B.exec
  have hb := B.bytes
  have hr := B.returns
  have hts := atoms_spec (ws := wsX1_count) B.pre
  have hown : s.vm.findClass RX1 = some m.cls := findClass_of_methodNamed B.named
  have hlocks := B.notSynchronized
  have hP : va_P (dC, dI) vwCl (mC o b1 b2 b3 e1 e2 e3 (nI N) (nI c) (nI y) (nI z) fo kn g1 g2 g3) s.heap := hP
  have hin1 : ∀ w ∈ u_ws RX1 TX1 9, w ∈ wsX1_count := by decide +kernel
  have hl := lv_entry ([.ref o, .int v]) (n := 2) (Nat.le_of_ble_eq_true rfl)
  rw [lg_entry_eq]
  generalize (lg_sl ([.ref o, .int v]) ++ List.replicate (2 - (lg_sl ([.ref o, .int v])).length) Slot.unset).toArray = ls at hl ⊢
  have hl : lv_has ls 2 [(0, .ref o), (1, .int v)] := hl
  refine lv_iload_n hx hb dX1_count_0 rfl (lv_at hl 1 rfl) ?_
  refine lv_tableOut hx hb dX1_count_1 (tgt := 54) hv (by decide) ?_
  refine lv_iconst (v := (-1)) hx hb dX1_count_54 (by decide) ?_
  exact W.iret (v := (-1)) hx hb hr (fun t ht hW => ⟨(-1), rfl, rfl, ht⟩) (fun q h => by cases h) dX1_count_55
