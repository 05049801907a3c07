/-! the law's state between two calls -/
def lwS (N w y z c : Nat) (Y Z : Nat → Nat) (f1 f2 f3 : Nat → Int32) (f4 : Nat → Int64) (fo kn : Int32) (g1 g2 g3 : Nat → Int32) : Prop :=
  w < 2 ^ N ∧ y < 2 ^ N ∧ z < 2 ^ N ∧ c ≤ 400 ∧ RX N (N - 6) c Y Z f1 f2 f3 f4 ∧ RM N c w Y Z g1 g2 g3 ∧ (kn = nI 0 ∨ (kn = nI 1 ∧ fo = rs (fs (PX c Y Z) w N 0 0)))
def lwI (dC : Nat → ClassId) (dI : Nat → Nat → Nat) (ox a1 a2 a3 a4 : Nat) (c1 c2 c3 c4 : ClassId) (om b1 b2 b3 : Nat) (e1 e2 e3 : ClassId) (N : Nat) (A : Nat → Prop) (H0 H : Heap) (locs : List Loc) : Prop :=
  ∃ (w y z c : Nat) (Y Z : Nat → Nat) (f1 f2 f3 : Nat → Int32) (f4 : Nat → Int64) (fo kn : Int32) (g1 g2 g3 : Nat → Int32), lwS N w y z c Y Z f1 f2 f3 f4 fo kn g1 g2 g3 ∧ va_P (dC, dI) vwCl (xC ox a1 a2 a3 a4 c1 c2 c3 c4 (nI N) (nI (N - 6)) (nI w) (nI y) (nI z) (nI c) f1 f2 f3 f4 ++ mC om b1 b2 b3 e1 e2 e3 (nI N) (nI c) (nI y) (nI z) fo kn g1 g2 g3) H ∧ va_D A (xC ox a1 a2 a3 a4 c1 c2 c3 c4 (nI N) (nI (N - 6)) (nI w) (nI y) (nI z) (nI c) f1 f2 f3 f4 ++ mC om b1 b2 b3 e1 e2 e3 (nI N) (nI c) (nI y) (nI z) fo kn g1 g2 g3) ∧ va_S A H0 H locs
theorem cs_ix (x : Int32) {n : Nat} (hn : n < 2 ^ 31) : (x < 0 ∨ nI n ≤ x) ∨ ∃ j, j < n ∧ x = nI j := by
  rcases pk_ix x hn with h | h | h
  · exact Or.inl (Or.inl h)
  · exact Or.inl (Or.inr h)
  · exact Or.inr h
theorem ct_c (v : Int32) : v = nI 0 ∨ v = nI 1 ∨ v = nI 2 ∨ (v.toInt < 0 ∨ 2 < v.toInt) := by
  rcases pk_ix v (n := 3) (by decide) with h | h | ⟨j, hj, e⟩
  · exact Or.inr (Or.inr (Or.inr (Or.inl ((i_lt (n := 0) (by decide)).mp h))))
  · refine Or.inr (Or.inr (Or.inr (Or.inr ?_)))
    have := (i_ge (n := 3) (by decide)).mp h
    omega
  · rcases (by omega : j = 0 ∨ j = 1 ∨ j = 2) with h | h | h
    · exact Or.inl (by rw [e, h])
    · exact Or.inr (Or.inl (by rw [e, h]))
    · exact Or.inr (Or.inr (Or.inl (by rw [e, h])))
theorem sv_eq {a b V : Int32} (h : V = -2 ↔ V < 0) (ha : (a = nI 0 ∧ V = -2) ∨ (a = nI 1 ∧ ¬ V = -2)) (hb : (b = nI 0 ∧ V < 0) ∨ (b = nI 1 ∧ ¬ V < 0)) : a = b := by
  rcases ha with ⟨e1, h1⟩ | ⟨e1, h1⟩ <;> rcases hb with ⟨e2, h2⟩ | ⟨e2, h2⟩
  · rw [e1, e2]
  · exact absurd (h.mp h1) h2
  · exact absurd (h.mpr h2) h1
  · rw [e1, e2]
theorem fs_16 {P : Nat → Prop} {w N : Nat} (hN : N ≤ 16) : ∀ r, fs P w N 0 0 = some r → r < 2 ^ 31 := fun r h => by
  have h1 := fs_lt (v := 0) (by decide) h
  rw [Nat.zero_add] at h1
  have := cs_p16 hN
  omega
theorem sv_V {P : Nat → Prop} {w N : Nat} (hN : N ≤ 16) : rs (fs P w N 0 0) = -2 ↔ rs (fs P w N 0 0) < 0 := by
  rw [rs_neg (fs_16 hN), rs_lt0 (fs_16 hN)]
set_option maxHeartbeats 4000000 in
set_option maxRecDepth 100000 in
theorem law_wish {p : Program} {e : Env} {s : State} {m : MethodId} {below : List Frame} {meth : Method} {c0 : Code} (l : Launch) {b L : Nat} {xs : Nat → Int32} {Q : State → Prop} {A : Nat → Prop} {dC : Nat → ClassId} {dI : Nat → Nat → Nat} {ox a1 a2 a3 a4 : Nat} {c1 c2 c3 c4 : ClassId} {om b1 b2 b3 : Nat} {e1 e2 e3 : ClassId} {tt N i : Nat} {H : Heap} {locs : List Loc} {ls : Array Slot} (hL : L ≤ 1537) (hx : p.tables.exec = Jvm.exec) (hb : c0.code = cL_law) (hml : c0.maxLocals = 4) (hown : s.vm.findClass RL = some m.cls) (hts : ∀ w ∈ wsL_law, w.before #[Value.ref b] s = true) (hX : va_X b L xs s s.heap) (hbl : b < s.heap.size) (hbA : ¬ A b) (hA : ∀ q : Nat, s.heap.size ≤ q → A q) (hT : tW RX0 "TAILS_WITH" "[J" tt 6 twv A s s.heap) (hK : va_K (dC, dI) vwCl (xT c1 c2 c3 c4 ++ mT e1 e2 e3) s) (hN : N ≤ 16) (hi : i + 2 < L) (hI : lwI dC dI ox a1 a2 a3 a4 c1 c2 c3 c4 om b1 b2 b3 e1 e2 e3 N A s.heap H locs) (hl : lv_has ls 4 [(0, .ref b), (1, .ref ox), (2, .ref om), (3, .int (nI i))]) (kk : ∀ (H : Heap) (locs : List Loc) (ls : Array Slot), lwI dC dI ox a1 a2 a3 a4 c1 c2 c3 c4 om b1 b2 b3 e1 e2 e3 N A s.heap H locs → lv_has ls 4 [(0, .ref b), (1, .ref ox), (2, .ref om), (3, .int (nI i))] → W p l e room_1 s m #[Value.ref b] below meth c0 H locs 9 2435 Q (F0 m 304 ls [])) : W p l e room_1 s m #[Value.ref b] below meth c0 H locs 9 2435 Q (F0 m 88 ls []) := by
  obtain ⟨w, y, z, c, Y, Z, f1, f2, f3, f4, fo, kn, g1, g2, g3, ⟨hw, hy, hz, hc, hRX, hRM, hkn⟩, hP, hD, hS⟩ := hI
  rcases cs_ix (xs (i + 1)) (n := N) (by omega) with hv | ⟨j, hj, hv⟩
  · rcases Classical.em (xs (i + 2) = 0) with h2 | h2
    · refine lv_aload_n hx hb dL_law_88 rfl (lv_at hl 1 rfl) ?_
      refine lv_aload_n hx hb dL_law_89 rfl (lv_at hl 0 rfl) ?_
      refine lv_iload_n hx hb dL_law_90 rfl (lv_at hl 3 rfl) ?_
      refine lv_iconst (v := nI 1) hx hb dL_law_91 (by decide) ?_
      refine lv_iadd hx hb dL_law_92 ?_
      refine cs_top (y := nI (i + 1)) (nI_add i 1) ?_
      refine va_sld (i := nI (i + 1)) hx hb hX hbl hbA hS (vp_in_nI (by omega) (by omega)) dL_law_93 ?_
      refine cs_top (y := xs (i + 1)) (congrArg xs (nI_clamp (by omega))) ?_
      refine lv_aload_n hx hb dL_law_94 rfl (lv_at hl 0 rfl) ?_
      refine lv_iload_n hx hb dL_law_95 rfl (lv_at hl 3 rfl) ?_
      refine lv_iconst (v := nI 2) hx hb dL_law_96 (by decide) ?_
      refine lv_iadd hx hb dL_law_97 ?_
      refine cs_top (y := nI (i + 2)) (nI_add i 2) ?_
      refine va_sld (i := nI (i + 2)) hx hb hX hbl hbA hS (vp_in_nI (by omega) (by omega)) dL_law_98 ?_
      refine cs_top (y := xs (i + 2)) (congrArg xs (nI_clamp (by omega))) ?_
      refine lv_if_eq hx hb dL_law_99 (tgt := 106) (by decide) (fun _ => ?_) (fun hq => absurd (h2) hq)
      refine lv_iconst (v := nI 0) hx hb dL_law_106 (by decide) ?_
      refine cs_top (y := bI false) (rfl) ?_
      refine vp_callSi (W.runV (As := [.int (xs (i + 1)), .int (bI false)]) (rest := []) ⟨hx, hb, hml, hown, hts⟩ (c_wish_out l dC dI ox a1 a2 a3 a4 c1 c2 c3 c4 N (N - 6) w y z c f1 f2 f3 f4 hv _) (cwV 2 hts gL_law_X0_wish rfl rfl rfl (by decide +kernel) ⟨by decide +kernel, by decide +kernel⟩) (rW_preV (hP.sub (ws' := (xC ox a1 a2 a3 a4 c1 c2 c3 c4 (nI N) (nI (N - 6)) (nI w) (nI y) (nI z) (nI c) f1 f2 f3 f4)) [0, 1, 2, 3, 4] rfl) (hK.sub (tys' := xT c1 c2 c3 c4) [0, 1, 2, 3] rfl) (va_recv (q := (RX0, TX0, 10)) (q0 := 0) hK hP rfl rfl)) rfl rfl hl.1 rfl (lv_room (Nat.le_of_ble_eq_true rfl)) dL_law_107 ⟨by decide +kernel, by decide +kernel⟩) (fun r0 hr0 => ?_)
      subst hr0
      refine lv_aload_n hx hb dL_law_110 rfl (lv_at hl 2 rfl) ?_
      refine lv_aload_n hx hb dL_law_111 rfl (lv_at hl 0 rfl) ?_
      refine lv_iload_n hx hb dL_law_112 rfl (lv_at hl 3 rfl) ?_
      refine lv_iconst (v := nI 1) hx hb dL_law_113 (by decide) ?_
      refine lv_iadd hx hb dL_law_114 ?_
      refine cs_top (y := nI (i + 1)) (nI_add i 1) ?_
      refine va_sld (i := nI (i + 1)) hx hb hX hbl hbA hS (vp_in_nI (by omega) (by omega)) dL_law_115 ?_
      refine cs_top (y := xs (i + 1)) (congrArg xs (nI_clamp (by omega))) ?_
      refine lv_aload_n hx hb dL_law_116 rfl (lv_at hl 0 rfl) ?_
      refine lv_iload_n hx hb dL_law_117 rfl (lv_at hl 3 rfl) ?_
      refine lv_iconst (v := nI 2) hx hb dL_law_118 (by decide) ?_
      refine lv_iadd hx hb dL_law_119 ?_
      refine cs_top (y := nI (i + 2)) (nI_add i 2) ?_
      refine va_sld (i := nI (i + 2)) hx hb hX hbl hbA hS (vp_in_nI (by omega) (by omega)) dL_law_120 ?_
      refine cs_top (y := xs (i + 2)) (congrArg xs (nI_clamp (by omega))) ?_
      refine lv_if_eq hx hb dL_law_121 (tgt := 128) (by decide) (fun _ => ?_) (fun hq => absurd (h2) hq)
      refine lv_iconst (v := nI 0) hx hb dL_law_128 (by decide) ?_
      refine cs_top (y := bI false) (rfl) ?_
      refine vp_callSi (W.runV (As := [.int (xs (i + 1)), .int (bI false)]) (rest := [.int (nI 0)]) ⟨hx, hb, hml, hown, hts⟩ (m_wish_out l dC dI om b1 b2 b3 e1 e2 e3 N c y z fo kn g1 g2 g3 hv _) (cwV 2 hts gL_law_X1_wish rfl rfl rfl (by decide +kernel) ⟨by decide +kernel, by decide +kernel⟩) (rW_preV (hP.sub (ws' := (mC om b1 b2 b3 e1 e2 e3 (nI N) (nI c) (nI y) (nI z) fo kn g1 g2 g3)) [5, 6, 7, 8] rfl) (hK.sub (tys' := mT e1 e2 e3) [4, 5, 6] rfl) (va_recv (q := (RX1, TX1, 9)) (q0 := 5) hK hP rfl rfl)) rfl rfl hl.1 rfl (lv_room (Nat.le_of_ble_eq_true rfl)) dL_law_129 ⟨by decide +kernel, by decide +kernel⟩) (fun r0 hr0 => ?_)
      subst hr0
      refine lv_icmp_eq hx hb dL_law_132 (tgt := 304) (by decide) (fun _ => ?_) (fun hq => absurd (rfl) hq)
      exact kk H locs ls ⟨w, y, z, c, Y, Z, f1, f2, f3, f4, fo, kn, g1, g2, g3, ⟨hw, hy, hz, hc, hRX, hRM, hkn⟩, hP, hD, hS⟩ hl
    · refine lv_aload_n hx hb dL_law_88 rfl (lv_at hl 1 rfl) ?_
      refine lv_aload_n hx hb dL_law_89 rfl (lv_at hl 0 rfl) ?_
      refine lv_iload_n hx hb dL_law_90 rfl (lv_at hl 3 rfl) ?_
      refine lv_iconst (v := nI 1) hx hb dL_law_91 (by decide) ?_
      refine lv_iadd hx hb dL_law_92 ?_
      refine cs_top (y := nI (i + 1)) (nI_add i 1) ?_
      refine va_sld (i := nI (i + 1)) hx hb hX hbl hbA hS (vp_in_nI (by omega) (by omega)) dL_law_93 ?_
      refine cs_top (y := xs (i + 1)) (congrArg xs (nI_clamp (by omega))) ?_
      refine lv_aload_n hx hb dL_law_94 rfl (lv_at hl 0 rfl) ?_
      refine lv_iload_n hx hb dL_law_95 rfl (lv_at hl 3 rfl) ?_
      refine lv_iconst (v := nI 2) hx hb dL_law_96 (by decide) ?_
      refine lv_iadd hx hb dL_law_97 ?_
      refine cs_top (y := nI (i + 2)) (nI_add i 2) ?_
      refine va_sld (i := nI (i + 2)) hx hb hX hbl hbA hS (vp_in_nI (by omega) (by omega)) dL_law_98 ?_
      refine cs_top (y := xs (i + 2)) (congrArg xs (nI_clamp (by omega))) ?_
      refine lv_if_eq hx hb dL_law_99 (tgt := 106) (by decide) (fun hq => absurd hq (h2)) (fun _ => ?_)
      refine lv_iconst (v := nI 1) hx hb dL_law_102 (by decide) ?_
      refine lv_goto hx hb dL_law_103 (tgt := 107) (by decide) ?_
      refine cs_top (y := bI true) (rfl) ?_
      refine vp_callSi (W.runV (As := [.int (xs (i + 1)), .int (bI true)]) (rest := []) ⟨hx, hb, hml, hown, hts⟩ (c_wish_out l dC dI ox a1 a2 a3 a4 c1 c2 c3 c4 N (N - 6) w y z c f1 f2 f3 f4 hv _) (cwV 2 hts gL_law_X0_wish rfl rfl rfl (by decide +kernel) ⟨by decide +kernel, by decide +kernel⟩) (rW_preV (hP.sub (ws' := (xC ox a1 a2 a3 a4 c1 c2 c3 c4 (nI N) (nI (N - 6)) (nI w) (nI y) (nI z) (nI c) f1 f2 f3 f4)) [0, 1, 2, 3, 4] rfl) (hK.sub (tys' := xT c1 c2 c3 c4) [0, 1, 2, 3] rfl) (va_recv (q := (RX0, TX0, 10)) (q0 := 0) hK hP rfl rfl)) rfl rfl hl.1 rfl (lv_room (Nat.le_of_ble_eq_true rfl)) dL_law_107 ⟨by decide +kernel, by decide +kernel⟩) (fun r0 hr0 => ?_)
      subst hr0
      refine lv_aload_n hx hb dL_law_110 rfl (lv_at hl 2 rfl) ?_
      refine lv_aload_n hx hb dL_law_111 rfl (lv_at hl 0 rfl) ?_
      refine lv_iload_n hx hb dL_law_112 rfl (lv_at hl 3 rfl) ?_
      refine lv_iconst (v := nI 1) hx hb dL_law_113 (by decide) ?_
      refine lv_iadd hx hb dL_law_114 ?_
      refine cs_top (y := nI (i + 1)) (nI_add i 1) ?_
      refine va_sld (i := nI (i + 1)) hx hb hX hbl hbA hS (vp_in_nI (by omega) (by omega)) dL_law_115 ?_
      refine cs_top (y := xs (i + 1)) (congrArg xs (nI_clamp (by omega))) ?_
      refine lv_aload_n hx hb dL_law_116 rfl (lv_at hl 0 rfl) ?_
      refine lv_iload_n hx hb dL_law_117 rfl (lv_at hl 3 rfl) ?_
      refine lv_iconst (v := nI 2) hx hb dL_law_118 (by decide) ?_
      refine lv_iadd hx hb dL_law_119 ?_
      refine cs_top (y := nI (i + 2)) (nI_add i 2) ?_
      refine va_sld (i := nI (i + 2)) hx hb hX hbl hbA hS (vp_in_nI (by omega) (by omega)) dL_law_120 ?_
      refine cs_top (y := xs (i + 2)) (congrArg xs (nI_clamp (by omega))) ?_
      refine lv_if_eq hx hb dL_law_121 (tgt := 128) (by decide) (fun hq => absurd hq (h2)) (fun _ => ?_)
      refine lv_iconst (v := nI 1) hx hb dL_law_124 (by decide) ?_
      refine lv_goto hx hb dL_law_125 (tgt := 129) (by decide) ?_
      refine cs_top (y := bI true) (rfl) ?_
      refine vp_callSi (W.runV (As := [.int (xs (i + 1)), .int (bI true)]) (rest := [.int (nI 0)]) ⟨hx, hb, hml, hown, hts⟩ (m_wish_out l dC dI om b1 b2 b3 e1 e2 e3 N c y z fo kn g1 g2 g3 hv _) (cwV 2 hts gL_law_X1_wish rfl rfl rfl (by decide +kernel) ⟨by decide +kernel, by decide +kernel⟩) (rW_preV (hP.sub (ws' := (mC om b1 b2 b3 e1 e2 e3 (nI N) (nI c) (nI y) (nI z) fo kn g1 g2 g3)) [5, 6, 7, 8] rfl) (hK.sub (tys' := mT e1 e2 e3) [4, 5, 6] rfl) (va_recv (q := (RX1, TX1, 9)) (q0 := 5) hK hP rfl rfl)) rfl rfl hl.1 rfl (lv_room (Nat.le_of_ble_eq_true rfl)) dL_law_129 ⟨by decide +kernel, by decide +kernel⟩) (fun r0 hr0 => ?_)
      subst hr0
      refine lv_icmp_eq hx hb dL_law_132 (tgt := 304) (by decide) (fun _ => ?_) (fun hq => absurd (rfl) hq)
      exact kk H locs ls ⟨w, y, z, c, Y, Z, f1, f2, f3, f4, fo, kn, g1, g2, g3, ⟨hw, hy, hz, hc, hRX, hRM, hkn⟩, hP, hD, hS⟩ hl
  · rcases Classical.em (xs (i + 2) = 0) with h2 | h2
    · refine lv_aload_n hx hb dL_law_88 rfl (lv_at hl 1 rfl) ?_
      refine lv_aload_n hx hb dL_law_89 rfl (lv_at hl 0 rfl) ?_
      refine lv_iload_n hx hb dL_law_90 rfl (lv_at hl 3 rfl) ?_
      refine lv_iconst (v := nI 1) hx hb dL_law_91 (by decide) ?_
      refine lv_iadd hx hb dL_law_92 ?_
      refine cs_top (y := nI (i + 1)) (nI_add i 1) ?_
      refine va_sld (i := nI (i + 1)) hx hb hX hbl hbA hS (vp_in_nI (by omega) (by omega)) dL_law_93 ?_
      refine cs_top (y := xs (i + 1)) (congrArg xs (nI_clamp (by omega))) ?_
      refine cs_top (y := nI j) (hv) ?_
      refine lv_aload_n hx hb dL_law_94 rfl (lv_at hl 0 rfl) ?_
      refine lv_iload_n hx hb dL_law_95 rfl (lv_at hl 3 rfl) ?_
      refine lv_iconst (v := nI 2) hx hb dL_law_96 (by decide) ?_
      refine lv_iadd hx hb dL_law_97 ?_
      refine cs_top (y := nI (i + 2)) (nI_add i 2) ?_
      refine va_sld (i := nI (i + 2)) hx hb hX hbl hbA hS (vp_in_nI (by omega) (by omega)) dL_law_98 ?_
      refine cs_top (y := xs (i + 2)) (congrArg xs (nI_clamp (by omega))) ?_
      refine lv_if_eq hx hb dL_law_99 (tgt := 106) (by decide) (fun _ => ?_) (fun hq => absurd (h2) hq)
      refine lv_iconst (v := nI 0) hx hb dL_law_106 (by decide) ?_
      refine cs_top (y := bI false) (rfl) ?_
      refine cs_calli (wc := (xC ox a1 a2 a3 a4 c1 c2 c3 c4 (nI N) (nI (N - 6)) (nI w) (nI y) (nI z) (nI c) f1 f2 f3 f4)) (wr := (mC om b1 b2 b3 e1 e2 e3 (nI N) (nI c) (nI y) (nI z) fo kn g1 g2 g3)) (va_runV (As := [.int (nI j), .int (bI false)]) (rest := []) ⟨hx, hb, hml, hown, hts⟩ (c_wish l H.size dC dI ox a1 a2 a3 a4 c1 c2 c3 c4 N (N - 6) w y z c f1 f2 f3 f4 hN hw hj false) (cwV 2 hts gL_law_X0_wish rfl rfl rfl (by decide +kernel) ⟨by decide +kernel, by decide +kernel⟩) (wW_preV (hP.sub (ws' := (xC ox a1 a2 a3 a4 c1 c2 c3 c4 (nI N) (nI (N - 6)) (nI w) (nI y) (nI z) (nI c) f1 f2 f3 f4)) [0, 1, 2, 3, 4] rfl) (hK.sub (tys' := xT c1 c2 c3 c4) [0, 1, 2, 3] rfl) (hD.sub (ws' := (xC ox a1 a2 a3 a4 c1 c2 c3 c4 (nI N) (nI (N - 6)) (nI w) (nI y) (nI z) (nI c) f1 f2 f3 f4)) [0, 1, 2, 3, 4] (by decide) rfl) (va_recv (q := (RX0, TX0, 10)) (q0 := 0) hK hP rfl rfl)) rfl rfl hl.1 rfl (lv_room (Nat.le_of_ble_eq_true rfl)) dL_law_107 ⟨by decide +kernel, by decide +kernel⟩) hS hA hP hD [0, 1, 2, 3, 4] [5, 6, 7, 8] rfl rfl (by decide) (by decide) (fun r0 u H locs hr0 hP hD hS => ?_)
      have hP : va_P (dC, dI) vwCl ((mC om b1 b2 b3 e1 e2 e3 (nI N) (nI c) (nI y) (nI z) fo kn g1 g2 g3) ++ (xC ox a1 a2 a3 a4 c1 c2 c3 c4 (nI N) (nI (N - 6)) (nI (wsh w j false)) (nI y) (nI z) (nI c) f1 f2 f3 f4)) H := hP
      have hD : va_D A ((mC om b1 b2 b3 e1 e2 e3 (nI N) (nI c) (nI y) (nI z) fo kn g1 g2 g3) ++ (xC ox a1 a2 a3 a4 c1 c2 c3 c4 (nI N) (nI (N - 6)) (nI (wsh w j false)) (nI y) (nI z) (nI c) f1 f2 f3 f4)) := hD
      subst hr0
      refine lv_aload_n hx hb dL_law_110 rfl (lv_at hl 2 rfl) ?_
      refine lv_aload_n hx hb dL_law_111 rfl (lv_at hl 0 rfl) ?_
      refine lv_iload_n hx hb dL_law_112 rfl (lv_at hl 3 rfl) ?_
      refine lv_iconst (v := nI 1) hx hb dL_law_113 (by decide) ?_
      refine lv_iadd hx hb dL_law_114 ?_
      refine cs_top (y := nI (i + 1)) (nI_add i 1) ?_
      refine va_sld (i := nI (i + 1)) hx hb hX hbl hbA hS (vp_in_nI (by omega) (by omega)) dL_law_115 ?_
      refine cs_top (y := xs (i + 1)) (congrArg xs (nI_clamp (by omega))) ?_
      refine cs_top (y := nI j) (hv) ?_
      refine lv_aload_n hx hb dL_law_116 rfl (lv_at hl 0 rfl) ?_
      refine lv_iload_n hx hb dL_law_117 rfl (lv_at hl 3 rfl) ?_
      refine lv_iconst (v := nI 2) hx hb dL_law_118 (by decide) ?_
      refine lv_iadd hx hb dL_law_119 ?_
      refine cs_top (y := nI (i + 2)) (nI_add i 2) ?_
      refine va_sld (i := nI (i + 2)) hx hb hX hbl hbA hS (vp_in_nI (by omega) (by omega)) dL_law_120 ?_
      refine cs_top (y := xs (i + 2)) (congrArg xs (nI_clamp (by omega))) ?_
      refine lv_if_eq hx hb dL_law_121 (tgt := 128) (by decide) (fun _ => ?_) (fun hq => absurd (h2) hq)
      refine lv_iconst (v := nI 0) hx hb dL_law_128 (by decide) ?_
      refine cs_top (y := bI false) (rfl) ?_
      refine cs_calli (wc := (mC om b1 b2 b3 e1 e2 e3 (nI N) (nI c) (nI y) (nI z) fo kn g1 g2 g3)) (wr := (xC ox a1 a2 a3 a4 c1 c2 c3 c4 (nI N) (nI (N - 6)) (nI (wsh w j false)) (nI y) (nI z) (nI c) f1 f2 f3 f4)) (va_runV (As := [.int (nI j), .int (bI false)]) (rest := [.int (bI (w.testBit j))]) ⟨hx, hb, hml, hown, hts⟩ (m_wish l H.size dC dI om b1 b2 b3 e1 e2 e3 N c y z fo kn g1 g2 g3 hN hj (hRM.1 j hj) false) (cwV 2 hts gL_law_X1_wish rfl rfl rfl (by decide +kernel) ⟨by decide +kernel, by decide +kernel⟩) (wW_preV (hP.sub (ws' := (mC om b1 b2 b3 e1 e2 e3 (nI N) (nI c) (nI y) (nI z) fo kn g1 g2 g3)) [0, 1, 2, 3] rfl) (hK.sub (tys' := mT e1 e2 e3) [4, 5, 6] rfl) (hD.sub (ws' := (mC om b1 b2 b3 e1 e2 e3 (nI N) (nI c) (nI y) (nI z) fo kn g1 g2 g3)) [0, 1, 2, 3] (by decide) rfl) (va_recv (q := (RX1, TX1, 9)) (q0 := 0) hK hP rfl rfl)) rfl rfl hl.1 rfl (lv_room (Nat.le_of_ble_eq_true rfl)) dL_law_129 ⟨by decide +kernel, by decide +kernel⟩) hS hA hP hD [0, 1, 2, 3] [4, 5, 6, 7, 8] rfl rfl (by decide) (by decide) (fun r0 u H locs hr0 hP hD hS => ?_)
      have hP : va_P (dC, dI) vwCl ((xC ox a1 a2 a3 a4 c1 c2 c3 c4 (nI N) (nI (N - 6)) (nI (wsh w j false)) (nI y) (nI z) (nI c) f1 f2 f3 f4) ++ (mC om b1 b2 b3 e1 e2 e3 (nI N) (nI c) (nI y) (nI z) fo (nI 0) (upd g1 j (bI false)) g2 g3)) H := hP
      have hD : va_D A ((xC ox a1 a2 a3 a4 c1 c2 c3 c4 (nI N) (nI (N - 6)) (nI (wsh w j false)) (nI y) (nI z) (nI c) f1 f2 f3 f4) ++ (mC om b1 b2 b3 e1 e2 e3 (nI N) (nI c) (nI y) (nI z) fo (nI 0) (upd g1 j (bI false)) g2 g3)) := hD
      subst hr0
      refine lv_icmp_eq hx hb dL_law_132 (tgt := 304) (by decide) (fun _ => ?_) (fun hq => absurd (rfl) hq)
      exact kk H locs ls ⟨wsh w j false, y, z, c, Y, Z, f1, f2, f3, f4, fo, nI 0, upd g1 j (bI false), g2, g3, ⟨wsh_lt hw hj false, hy, hz, hc, hRX, RM_wish hN hRM false, Or.inl rfl⟩, hP, hD, hS⟩ hl
    · refine lv_aload_n hx hb dL_law_88 rfl (lv_at hl 1 rfl) ?_
      refine lv_aload_n hx hb dL_law_89 rfl (lv_at hl 0 rfl) ?_
      refine lv_iload_n hx hb dL_law_90 rfl (lv_at hl 3 rfl) ?_
      refine lv_iconst (v := nI 1) hx hb dL_law_91 (by decide) ?_
      refine lv_iadd hx hb dL_law_92 ?_
      refine cs_top (y := nI (i + 1)) (nI_add i 1) ?_
      refine va_sld (i := nI (i + 1)) hx hb hX hbl hbA hS (vp_in_nI (by omega) (by omega)) dL_law_93 ?_
      refine cs_top (y := xs (i + 1)) (congrArg xs (nI_clamp (by omega))) ?_
      refine cs_top (y := nI j) (hv) ?_
      refine lv_aload_n hx hb dL_law_94 rfl (lv_at hl 0 rfl) ?_
      refine lv_iload_n hx hb dL_law_95 rfl (lv_at hl 3 rfl) ?_
      refine lv_iconst (v := nI 2) hx hb dL_law_96 (by decide) ?_
      refine lv_iadd hx hb dL_law_97 ?_
      refine cs_top (y := nI (i + 2)) (nI_add i 2) ?_
      refine va_sld (i := nI (i + 2)) hx hb hX hbl hbA hS (vp_in_nI (by omega) (by omega)) dL_law_98 ?_
      refine cs_top (y := xs (i + 2)) (congrArg xs (nI_clamp (by omega))) ?_
      refine lv_if_eq hx hb dL_law_99 (tgt := 106) (by decide) (fun hq => absurd hq (h2)) (fun _ => ?_)
      refine lv_iconst (v := nI 1) hx hb dL_law_102 (by decide) ?_
      refine lv_goto hx hb dL_law_103 (tgt := 107) (by decide) ?_
      refine cs_top (y := bI true) (rfl) ?_
      refine cs_calli (wc := (xC ox a1 a2 a3 a4 c1 c2 c3 c4 (nI N) (nI (N - 6)) (nI w) (nI y) (nI z) (nI c) f1 f2 f3 f4)) (wr := (mC om b1 b2 b3 e1 e2 e3 (nI N) (nI c) (nI y) (nI z) fo kn g1 g2 g3)) (va_runV (As := [.int (nI j), .int (bI true)]) (rest := []) ⟨hx, hb, hml, hown, hts⟩ (c_wish l H.size dC dI ox a1 a2 a3 a4 c1 c2 c3 c4 N (N - 6) w y z c f1 f2 f3 f4 hN hw hj true) (cwV 2 hts gL_law_X0_wish rfl rfl rfl (by decide +kernel) ⟨by decide +kernel, by decide +kernel⟩) (wW_preV (hP.sub (ws' := (xC ox a1 a2 a3 a4 c1 c2 c3 c4 (nI N) (nI (N - 6)) (nI w) (nI y) (nI z) (nI c) f1 f2 f3 f4)) [0, 1, 2, 3, 4] rfl) (hK.sub (tys' := xT c1 c2 c3 c4) [0, 1, 2, 3] rfl) (hD.sub (ws' := (xC ox a1 a2 a3 a4 c1 c2 c3 c4 (nI N) (nI (N - 6)) (nI w) (nI y) (nI z) (nI c) f1 f2 f3 f4)) [0, 1, 2, 3, 4] (by decide) rfl) (va_recv (q := (RX0, TX0, 10)) (q0 := 0) hK hP rfl rfl)) rfl rfl hl.1 rfl (lv_room (Nat.le_of_ble_eq_true rfl)) dL_law_107 ⟨by decide +kernel, by decide +kernel⟩) hS hA hP hD [0, 1, 2, 3, 4] [5, 6, 7, 8] rfl rfl (by decide) (by decide) (fun r0 u H locs hr0 hP hD hS => ?_)
      have hP : va_P (dC, dI) vwCl ((mC om b1 b2 b3 e1 e2 e3 (nI N) (nI c) (nI y) (nI z) fo kn g1 g2 g3) ++ (xC ox a1 a2 a3 a4 c1 c2 c3 c4 (nI N) (nI (N - 6)) (nI (wsh w j true)) (nI y) (nI z) (nI c) f1 f2 f3 f4)) H := hP
      have hD : va_D A ((mC om b1 b2 b3 e1 e2 e3 (nI N) (nI c) (nI y) (nI z) fo kn g1 g2 g3) ++ (xC ox a1 a2 a3 a4 c1 c2 c3 c4 (nI N) (nI (N - 6)) (nI (wsh w j true)) (nI y) (nI z) (nI c) f1 f2 f3 f4)) := hD
      subst hr0
      refine lv_aload_n hx hb dL_law_110 rfl (lv_at hl 2 rfl) ?_
      refine lv_aload_n hx hb dL_law_111 rfl (lv_at hl 0 rfl) ?_
      refine lv_iload_n hx hb dL_law_112 rfl (lv_at hl 3 rfl) ?_
      refine lv_iconst (v := nI 1) hx hb dL_law_113 (by decide) ?_
      refine lv_iadd hx hb dL_law_114 ?_
      refine cs_top (y := nI (i + 1)) (nI_add i 1) ?_
      refine va_sld (i := nI (i + 1)) hx hb hX hbl hbA hS (vp_in_nI (by omega) (by omega)) dL_law_115 ?_
      refine cs_top (y := xs (i + 1)) (congrArg xs (nI_clamp (by omega))) ?_
      refine cs_top (y := nI j) (hv) ?_
      refine lv_aload_n hx hb dL_law_116 rfl (lv_at hl 0 rfl) ?_
      refine lv_iload_n hx hb dL_law_117 rfl (lv_at hl 3 rfl) ?_
      refine lv_iconst (v := nI 2) hx hb dL_law_118 (by decide) ?_
      refine lv_iadd hx hb dL_law_119 ?_
      refine cs_top (y := nI (i + 2)) (nI_add i 2) ?_
      refine va_sld (i := nI (i + 2)) hx hb hX hbl hbA hS (vp_in_nI (by omega) (by omega)) dL_law_120 ?_
      refine cs_top (y := xs (i + 2)) (congrArg xs (nI_clamp (by omega))) ?_
      refine lv_if_eq hx hb dL_law_121 (tgt := 128) (by decide) (fun hq => absurd hq (h2)) (fun _ => ?_)
      refine lv_iconst (v := nI 1) hx hb dL_law_124 (by decide) ?_
      refine lv_goto hx hb dL_law_125 (tgt := 129) (by decide) ?_
      refine cs_top (y := bI true) (rfl) ?_
      refine cs_calli (wc := (mC om b1 b2 b3 e1 e2 e3 (nI N) (nI c) (nI y) (nI z) fo kn g1 g2 g3)) (wr := (xC ox a1 a2 a3 a4 c1 c2 c3 c4 (nI N) (nI (N - 6)) (nI (wsh w j true)) (nI y) (nI z) (nI c) f1 f2 f3 f4)) (va_runV (As := [.int (nI j), .int (bI true)]) (rest := [.int (bI (w.testBit j))]) ⟨hx, hb, hml, hown, hts⟩ (m_wish l H.size dC dI om b1 b2 b3 e1 e2 e3 N c y z fo kn g1 g2 g3 hN hj (hRM.1 j hj) true) (cwV 2 hts gL_law_X1_wish rfl rfl rfl (by decide +kernel) ⟨by decide +kernel, by decide +kernel⟩) (wW_preV (hP.sub (ws' := (mC om b1 b2 b3 e1 e2 e3 (nI N) (nI c) (nI y) (nI z) fo kn g1 g2 g3)) [0, 1, 2, 3] rfl) (hK.sub (tys' := mT e1 e2 e3) [4, 5, 6] rfl) (hD.sub (ws' := (mC om b1 b2 b3 e1 e2 e3 (nI N) (nI c) (nI y) (nI z) fo kn g1 g2 g3)) [0, 1, 2, 3] (by decide) rfl) (va_recv (q := (RX1, TX1, 9)) (q0 := 0) hK hP rfl rfl)) rfl rfl hl.1 rfl (lv_room (Nat.le_of_ble_eq_true rfl)) dL_law_129 ⟨by decide +kernel, by decide +kernel⟩) hS hA hP hD [0, 1, 2, 3] [4, 5, 6, 7, 8] rfl rfl (by decide) (by decide) (fun r0 u H locs hr0 hP hD hS => ?_)
      have hP : va_P (dC, dI) vwCl ((xC ox a1 a2 a3 a4 c1 c2 c3 c4 (nI N) (nI (N - 6)) (nI (wsh w j true)) (nI y) (nI z) (nI c) f1 f2 f3 f4) ++ (mC om b1 b2 b3 e1 e2 e3 (nI N) (nI c) (nI y) (nI z) fo (nI 0) (upd g1 j (bI true)) g2 g3)) H := hP
      have hD : va_D A ((xC ox a1 a2 a3 a4 c1 c2 c3 c4 (nI N) (nI (N - 6)) (nI (wsh w j true)) (nI y) (nI z) (nI c) f1 f2 f3 f4) ++ (mC om b1 b2 b3 e1 e2 e3 (nI N) (nI c) (nI y) (nI z) fo (nI 0) (upd g1 j (bI true)) g2 g3)) := hD
      subst hr0
      refine lv_icmp_eq hx hb dL_law_132 (tgt := 304) (by decide) (fun _ => ?_) (fun hq => absurd (rfl) hq)
      exact kk H locs ls ⟨wsh w j true, y, z, c, Y, Z, f1, f2, f3, f4, fo, nI 0, upd g1 j (bI true), g2, g3, ⟨wsh_lt hw hj true, hy, hz, hc, hRX, RM_wish hN hRM true, Or.inl rfl⟩, hP, hD, hS⟩ hl
set_option maxHeartbeats 4000000 in
set_option maxRecDepth 100000 in
theorem law_literal {p : Program} {e : Env} {s : State} {m : MethodId} {below : List Frame} {meth : Method} {c0 : Code} (l : Launch) {b L : Nat} {xs : Nat → Int32} {Q : State → Prop} {A : Nat → Prop} {dC : Nat → ClassId} {dI : Nat → Nat → Nat} {ox a1 a2 a3 a4 : Nat} {c1 c2 c3 c4 : ClassId} {om b1 b2 b3 : Nat} {e1 e2 e3 : ClassId} {tt N i : Nat} {H : Heap} {locs : List Loc} {ls : Array Slot} (hL : L ≤ 1537) (hx : p.tables.exec = Jvm.exec) (hb : c0.code = cL_law) (hml : c0.maxLocals = 4) (hown : s.vm.findClass RL = some m.cls) (hts : ∀ w ∈ wsL_law, w.before #[Value.ref b] s = true) (hX : va_X b L xs s s.heap) (hbl : b < s.heap.size) (hbA : ¬ A b) (hA : ∀ q : Nat, s.heap.size ≤ q → A q) (hT : tW RX0 "TAILS_WITH" "[J" tt 6 twv A s s.heap) (hK : va_K (dC, dI) vwCl (xT c1 c2 c3 c4 ++ mT e1 e2 e3) s) (hN : N ≤ 16) (hi : i + 2 < L) (hI : lwI dC dI ox a1 a2 a3 a4 c1 c2 c3 c4 om b1 b2 b3 e1 e2 e3 N A s.heap H locs) (hl : lv_has ls 4 [(0, .ref b), (1, .ref ox), (2, .ref om), (3, .int (nI i))]) (kk : ∀ (H : Heap) (locs : List Loc) (ls : Array Slot), lwI dC dI ox a1 a2 a3 a4 c1 c2 c3 c4 om b1 b2 b3 e1 e2 e3 N A s.heap H locs → lv_has ls 4 [(0, .ref b), (1, .ref ox), (2, .ref om), (3, .int (nI i))] → W p l e room_1 s m #[Value.ref b] below meth c0 H locs 9 2435 Q (F0 m 304 ls [])) : W p l e room_1 s m #[Value.ref b] below meth c0 H locs 9 2435 Q (F0 m 137 ls []) := by
  obtain ⟨w, y, z, c, Y, Z, f1, f2, f3, f4, fo, kn, g1, g2, g3, ⟨hw, hy, hz, hc, hRX, hRM, hkn⟩, hP, hD, hS⟩ := hI
  rcases cs_ix (xs (i + 1)) (n := N) (by omega) with hv | ⟨j, hj, hv⟩
  · rcases Classical.em (xs (i + 2) = 0) with h2 | h2
    · refine lv_aload_n hx hb dL_law_137 rfl (lv_at hl 1 rfl) ?_
      refine lv_aload_n hx hb dL_law_138 rfl (lv_at hl 0 rfl) ?_
      refine lv_iload_n hx hb dL_law_139 rfl (lv_at hl 3 rfl) ?_
      refine lv_iconst (v := nI 1) hx hb dL_law_140 (by decide) ?_
      refine lv_iadd hx hb dL_law_141 ?_
      refine cs_top (y := nI (i + 1)) (nI_add i 1) ?_
      refine va_sld (i := nI (i + 1)) hx hb hX hbl hbA hS (vp_in_nI (by omega) (by omega)) dL_law_142 ?_
      refine cs_top (y := xs (i + 1)) (congrArg xs (nI_clamp (by omega))) ?_
      refine lv_aload_n hx hb dL_law_143 rfl (lv_at hl 0 rfl) ?_
      refine lv_iload_n hx hb dL_law_144 rfl (lv_at hl 3 rfl) ?_
      refine lv_iconst (v := nI 2) hx hb dL_law_145 (by decide) ?_
      refine lv_iadd hx hb dL_law_146 ?_
      refine cs_top (y := nI (i + 2)) (nI_add i 2) ?_
      refine va_sld (i := nI (i + 2)) hx hb hX hbl hbA hS (vp_in_nI (by omega) (by omega)) dL_law_147 ?_
      refine cs_top (y := xs (i + 2)) (congrArg xs (nI_clamp (by omega))) ?_
      refine lv_if_eq hx hb dL_law_148 (tgt := 155) (by decide) (fun _ => ?_) (fun hq => absurd (h2) hq)
      refine lv_iconst (v := nI 0) hx hb dL_law_155 (by decide) ?_
      refine cs_top (y := bI false) (rfl) ?_
      refine vp_callSi (W.runV (As := [.int (xs (i + 1)), .int (bI false)]) (rest := []) ⟨hx, hb, hml, hown, hts⟩ (c_literal_out l dC dI ox a1 a2 a3 a4 c1 c2 c3 c4 N (N - 6) w y z c f1 f2 f3 f4 hv _) (cwV 2 hts gL_law_X0_literal rfl rfl rfl (by decide +kernel) ⟨by decide +kernel, by decide +kernel⟩) (rW_preV (hP.sub (ws' := (xC ox a1 a2 a3 a4 c1 c2 c3 c4 (nI N) (nI (N - 6)) (nI w) (nI y) (nI z) (nI c) f1 f2 f3 f4)) [0, 1, 2, 3, 4] rfl) (hK.sub (tys' := xT c1 c2 c3 c4) [0, 1, 2, 3] rfl) (va_recv (q := (RX0, TX0, 10)) (q0 := 0) hK hP rfl rfl)) rfl rfl hl.1 rfl (lv_room (Nat.le_of_ble_eq_true rfl)) dL_law_156 ⟨by decide +kernel, by decide +kernel⟩) (fun r0 hr0 => ?_)
      subst hr0
      refine lv_aload_n hx hb dL_law_159 rfl (lv_at hl 2 rfl) ?_
      refine lv_aload_n hx hb dL_law_160 rfl (lv_at hl 0 rfl) ?_
      refine lv_iload_n hx hb dL_law_161 rfl (lv_at hl 3 rfl) ?_
      refine lv_iconst (v := nI 1) hx hb dL_law_162 (by decide) ?_
      refine lv_iadd hx hb dL_law_163 ?_
      refine cs_top (y := nI (i + 1)) (nI_add i 1) ?_
      refine va_sld (i := nI (i + 1)) hx hb hX hbl hbA hS (vp_in_nI (by omega) (by omega)) dL_law_164 ?_
      refine cs_top (y := xs (i + 1)) (congrArg xs (nI_clamp (by omega))) ?_
      refine lv_aload_n hx hb dL_law_165 rfl (lv_at hl 0 rfl) ?_
      refine lv_iload_n hx hb dL_law_166 rfl (lv_at hl 3 rfl) ?_
      refine lv_iconst (v := nI 2) hx hb dL_law_167 (by decide) ?_
      refine lv_iadd hx hb dL_law_168 ?_
      refine cs_top (y := nI (i + 2)) (nI_add i 2) ?_
      refine va_sld (i := nI (i + 2)) hx hb hX hbl hbA hS (vp_in_nI (by omega) (by omega)) dL_law_169 ?_
      refine cs_top (y := xs (i + 2)) (congrArg xs (nI_clamp (by omega))) ?_
      refine lv_if_eq hx hb dL_law_170 (tgt := 177) (by decide) (fun _ => ?_) (fun hq => absurd (h2) hq)
      refine lv_iconst (v := nI 0) hx hb dL_law_177 (by decide) ?_
      refine cs_top (y := bI false) (rfl) ?_
      refine vp_callSi (W.runV (As := [.int (xs (i + 1)), .int (bI false)]) (rest := [.int (-1)]) ⟨hx, hb, hml, hown, hts⟩ (m_literal_out l dC dI om b1 b2 b3 e1 e2 e3 N c y z fo kn g1 g2 g3 hv _) (cwV 2 hts gL_law_X1_literal rfl rfl rfl (by decide +kernel) ⟨by decide +kernel, by decide +kernel⟩) (rW_preV (hP.sub (ws' := (mC om b1 b2 b3 e1 e2 e3 (nI N) (nI c) (nI y) (nI z) fo kn g1 g2 g3)) [5, 6, 7, 8] rfl) (hK.sub (tys' := mT e1 e2 e3) [4, 5, 6] rfl) (va_recv (q := (RX1, TX1, 9)) (q0 := 5) hK hP rfl rfl)) rfl rfl hl.1 rfl (lv_room (Nat.le_of_ble_eq_true rfl)) dL_law_178 ⟨by decide +kernel, by decide +kernel⟩) (fun r0 hr0 => ?_)
      subst hr0
      refine lv_icmp_eq hx hb dL_law_181 (tgt := 304) (by decide) (fun _ => ?_) (fun hq => absurd (rfl) hq)
      exact kk H locs ls ⟨w, y, z, c, Y, Z, f1, f2, f3, f4, fo, kn, g1, g2, g3, ⟨hw, hy, hz, hc, hRX, hRM, hkn⟩, hP, hD, hS⟩ hl
    · refine lv_aload_n hx hb dL_law_137 rfl (lv_at hl 1 rfl) ?_
      refine lv_aload_n hx hb dL_law_138 rfl (lv_at hl 0 rfl) ?_
      refine lv_iload_n hx hb dL_law_139 rfl (lv_at hl 3 rfl) ?_
      refine lv_iconst (v := nI 1) hx hb dL_law_140 (by decide) ?_
      refine lv_iadd hx hb dL_law_141 ?_
      refine cs_top (y := nI (i + 1)) (nI_add i 1) ?_
      refine va_sld (i := nI (i + 1)) hx hb hX hbl hbA hS (vp_in_nI (by omega) (by omega)) dL_law_142 ?_
      refine cs_top (y := xs (i + 1)) (congrArg xs (nI_clamp (by omega))) ?_
      refine lv_aload_n hx hb dL_law_143 rfl (lv_at hl 0 rfl) ?_
      refine lv_iload_n hx hb dL_law_144 rfl (lv_at hl 3 rfl) ?_
      refine lv_iconst (v := nI 2) hx hb dL_law_145 (by decide) ?_
      refine lv_iadd hx hb dL_law_146 ?_
      refine cs_top (y := nI (i + 2)) (nI_add i 2) ?_
      refine va_sld (i := nI (i + 2)) hx hb hX hbl hbA hS (vp_in_nI (by omega) (by omega)) dL_law_147 ?_
      refine cs_top (y := xs (i + 2)) (congrArg xs (nI_clamp (by omega))) ?_
      refine lv_if_eq hx hb dL_law_148 (tgt := 155) (by decide) (fun hq => absurd hq (h2)) (fun _ => ?_)
      refine lv_iconst (v := nI 1) hx hb dL_law_151 (by decide) ?_
      refine lv_goto hx hb dL_law_152 (tgt := 156) (by decide) ?_
      refine cs_top (y := bI true) (rfl) ?_
      refine vp_callSi (W.runV (As := [.int (xs (i + 1)), .int (bI true)]) (rest := []) ⟨hx, hb, hml, hown, hts⟩ (c_literal_out l dC dI ox a1 a2 a3 a4 c1 c2 c3 c4 N (N - 6) w y z c f1 f2 f3 f4 hv _) (cwV 2 hts gL_law_X0_literal rfl rfl rfl (by decide +kernel) ⟨by decide +kernel, by decide +kernel⟩) (rW_preV (hP.sub (ws' := (xC ox a1 a2 a3 a4 c1 c2 c3 c4 (nI N) (nI (N - 6)) (nI w) (nI y) (nI z) (nI c) f1 f2 f3 f4)) [0, 1, 2, 3, 4] rfl) (hK.sub (tys' := xT c1 c2 c3 c4) [0, 1, 2, 3] rfl) (va_recv (q := (RX0, TX0, 10)) (q0 := 0) hK hP rfl rfl)) rfl rfl hl.1 rfl (lv_room (Nat.le_of_ble_eq_true rfl)) dL_law_156 ⟨by decide +kernel, by decide +kernel⟩) (fun r0 hr0 => ?_)
      subst hr0
      refine lv_aload_n hx hb dL_law_159 rfl (lv_at hl 2 rfl) ?_
      refine lv_aload_n hx hb dL_law_160 rfl (lv_at hl 0 rfl) ?_
      refine lv_iload_n hx hb dL_law_161 rfl (lv_at hl 3 rfl) ?_
      refine lv_iconst (v := nI 1) hx hb dL_law_162 (by decide) ?_
      refine lv_iadd hx hb dL_law_163 ?_
      refine cs_top (y := nI (i + 1)) (nI_add i 1) ?_
      refine va_sld (i := nI (i + 1)) hx hb hX hbl hbA hS (vp_in_nI (by omega) (by omega)) dL_law_164 ?_
      refine cs_top (y := xs (i + 1)) (congrArg xs (nI_clamp (by omega))) ?_
      refine lv_aload_n hx hb dL_law_165 rfl (lv_at hl 0 rfl) ?_
      refine lv_iload_n hx hb dL_law_166 rfl (lv_at hl 3 rfl) ?_
      refine lv_iconst (v := nI 2) hx hb dL_law_167 (by decide) ?_
      refine lv_iadd hx hb dL_law_168 ?_
      refine cs_top (y := nI (i + 2)) (nI_add i 2) ?_
      refine va_sld (i := nI (i + 2)) hx hb hX hbl hbA hS (vp_in_nI (by omega) (by omega)) dL_law_169 ?_
      refine cs_top (y := xs (i + 2)) (congrArg xs (nI_clamp (by omega))) ?_
      refine lv_if_eq hx hb dL_law_170 (tgt := 177) (by decide) (fun hq => absurd hq (h2)) (fun _ => ?_)
      refine lv_iconst (v := nI 1) hx hb dL_law_173 (by decide) ?_
      refine lv_goto hx hb dL_law_174 (tgt := 178) (by decide) ?_
      refine cs_top (y := bI true) (rfl) ?_
      refine vp_callSi (W.runV (As := [.int (xs (i + 1)), .int (bI true)]) (rest := [.int (-1)]) ⟨hx, hb, hml, hown, hts⟩ (m_literal_out l dC dI om b1 b2 b3 e1 e2 e3 N c y z fo kn g1 g2 g3 hv _) (cwV 2 hts gL_law_X1_literal rfl rfl rfl (by decide +kernel) ⟨by decide +kernel, by decide +kernel⟩) (rW_preV (hP.sub (ws' := (mC om b1 b2 b3 e1 e2 e3 (nI N) (nI c) (nI y) (nI z) fo kn g1 g2 g3)) [5, 6, 7, 8] rfl) (hK.sub (tys' := mT e1 e2 e3) [4, 5, 6] rfl) (va_recv (q := (RX1, TX1, 9)) (q0 := 5) hK hP rfl rfl)) rfl rfl hl.1 rfl (lv_room (Nat.le_of_ble_eq_true rfl)) dL_law_178 ⟨by decide +kernel, by decide +kernel⟩) (fun r0 hr0 => ?_)
      subst hr0
      refine lv_icmp_eq hx hb dL_law_181 (tgt := 304) (by decide) (fun _ => ?_) (fun hq => absurd (rfl) hq)
      exact kk H locs ls ⟨w, y, z, c, Y, Z, f1, f2, f3, f4, fo, kn, g1, g2, g3, ⟨hw, hy, hz, hc, hRX, hRM, hkn⟩, hP, hD, hS⟩ hl
  · rcases Classical.em (xs (i + 2) = 0) with h2 | h2
    · refine lv_aload_n hx hb dL_law_137 rfl (lv_at hl 1 rfl) ?_
      refine lv_aload_n hx hb dL_law_138 rfl (lv_at hl 0 rfl) ?_
      refine lv_iload_n hx hb dL_law_139 rfl (lv_at hl 3 rfl) ?_
      refine lv_iconst (v := nI 1) hx hb dL_law_140 (by decide) ?_
      refine lv_iadd hx hb dL_law_141 ?_
      refine cs_top (y := nI (i + 1)) (nI_add i 1) ?_
      refine va_sld (i := nI (i + 1)) hx hb hX hbl hbA hS (vp_in_nI (by omega) (by omega)) dL_law_142 ?_
      refine cs_top (y := xs (i + 1)) (congrArg xs (nI_clamp (by omega))) ?_
      refine cs_top (y := nI j) (hv) ?_
      refine lv_aload_n hx hb dL_law_143 rfl (lv_at hl 0 rfl) ?_
      refine lv_iload_n hx hb dL_law_144 rfl (lv_at hl 3 rfl) ?_
      refine lv_iconst (v := nI 2) hx hb dL_law_145 (by decide) ?_
      refine lv_iadd hx hb dL_law_146 ?_
      refine cs_top (y := nI (i + 2)) (nI_add i 2) ?_
      refine va_sld (i := nI (i + 2)) hx hb hX hbl hbA hS (vp_in_nI (by omega) (by omega)) dL_law_147 ?_
      refine cs_top (y := xs (i + 2)) (congrArg xs (nI_clamp (by omega))) ?_
      refine lv_if_eq hx hb dL_law_148 (tgt := 155) (by decide) (fun _ => ?_) (fun hq => absurd (h2) hq)
      refine lv_iconst (v := nI 0) hx hb dL_law_155 (by decide) ?_
      refine cs_top (y := bI false) (rfl) ?_
      refine cs_calli (wc := (xC ox a1 a2 a3 a4 c1 c2 c3 c4 (nI N) (nI (N - 6)) (nI w) (nI y) (nI z) (nI c) f1 f2 f3 f4)) (wr := (mC om b1 b2 b3 e1 e2 e3 (nI N) (nI c) (nI y) (nI z) fo kn g1 g2 g3)) (va_runV (As := [.int (nI j), .int (bI false)]) (rest := []) ⟨hx, hb, hml, hown, hts⟩ (c_literal l H.size dC dI ox a1 a2 a3 a4 c1 c2 c3 c4 N (N - 6) w y z c f1 f2 f3 f4 hN hy hz hj false) (cwV 2 hts gL_law_X0_literal rfl rfl rfl (by decide +kernel) ⟨by decide +kernel, by decide +kernel⟩) (wW_preV (hP.sub (ws' := (xC ox a1 a2 a3 a4 c1 c2 c3 c4 (nI N) (nI (N - 6)) (nI w) (nI y) (nI z) (nI c) f1 f2 f3 f4)) [0, 1, 2, 3, 4] rfl) (hK.sub (tys' := xT c1 c2 c3 c4) [0, 1, 2, 3] rfl) (hD.sub (ws' := (xC ox a1 a2 a3 a4 c1 c2 c3 c4 (nI N) (nI (N - 6)) (nI w) (nI y) (nI z) (nI c) f1 f2 f3 f4)) [0, 1, 2, 3, 4] (by decide) rfl) (va_recv (q := (RX0, TX0, 10)) (q0 := 0) hK hP rfl rfl)) rfl rfl hl.1 rfl (lv_room (Nat.le_of_ble_eq_true rfl)) dL_law_156 ⟨by decide +kernel, by decide +kernel⟩) hS hA hP hD [0, 1, 2, 3, 4] [5, 6, 7, 8] rfl rfl (by decide) (by decide) (fun r0 u H locs hr0 hP hD hS => ?_)
      have hP : va_P (dC, dI) vwCl ((mC om b1 b2 b3 e1 e2 e3 (nI N) (nI c) (nI y) (nI z) fo kn g1 g2 g3) ++ (xC ox a1 a2 a3 a4 c1 c2 c3 c4 (nI N) (nI (N - 6)) (nI w) (nI (lt1 y j false)) (nI (lt0 z j false)) (nI c) f1 f2 f3 f4)) H := hP
      have hD : va_D A ((mC om b1 b2 b3 e1 e2 e3 (nI N) (nI c) (nI y) (nI z) fo kn g1 g2 g3) ++ (xC ox a1 a2 a3 a4 c1 c2 c3 c4 (nI N) (nI (N - 6)) (nI w) (nI (lt1 y j false)) (nI (lt0 z j false)) (nI c) f1 f2 f3 f4)) := hD
      subst hr0
      refine lv_aload_n hx hb dL_law_159 rfl (lv_at hl 2 rfl) ?_
      refine lv_aload_n hx hb dL_law_160 rfl (lv_at hl 0 rfl) ?_
      refine lv_iload_n hx hb dL_law_161 rfl (lv_at hl 3 rfl) ?_
      refine lv_iconst (v := nI 1) hx hb dL_law_162 (by decide) ?_
      refine lv_iadd hx hb dL_law_163 ?_
      refine cs_top (y := nI (i + 1)) (nI_add i 1) ?_
      refine va_sld (i := nI (i + 1)) hx hb hX hbl hbA hS (vp_in_nI (by omega) (by omega)) dL_law_164 ?_
      refine cs_top (y := xs (i + 1)) (congrArg xs (nI_clamp (by omega))) ?_
      refine cs_top (y := nI j) (hv) ?_
      refine lv_aload_n hx hb dL_law_165 rfl (lv_at hl 0 rfl) ?_
      refine lv_iload_n hx hb dL_law_166 rfl (lv_at hl 3 rfl) ?_
      refine lv_iconst (v := nI 2) hx hb dL_law_167 (by decide) ?_
      refine lv_iadd hx hb dL_law_168 ?_
      refine cs_top (y := nI (i + 2)) (nI_add i 2) ?_
      refine va_sld (i := nI (i + 2)) hx hb hX hbl hbA hS (vp_in_nI (by omega) (by omega)) dL_law_169 ?_
      refine cs_top (y := xs (i + 2)) (congrArg xs (nI_clamp (by omega))) ?_
      refine lv_if_eq hx hb dL_law_170 (tgt := 177) (by decide) (fun _ => ?_) (fun hq => absurd (h2) hq)
      refine lv_iconst (v := nI 0) hx hb dL_law_177 (by decide) ?_
      refine cs_top (y := bI false) (rfl) ?_
      refine cs_calli (wc := (mC om b1 b2 b3 e1 e2 e3 (nI N) (nI c) (nI y) (nI z) fo kn g1 g2 g3)) (wr := (xC ox a1 a2 a3 a4 c1 c2 c3 c4 (nI N) (nI (N - 6)) (nI w) (nI (lt1 y j false)) (nI (lt0 z j false)) (nI c) f1 f2 f3 f4)) (va_runV (As := [.int (nI j), .int (bI false)]) (rest := [.int (nI (pcs (lt1 y j false) 16 + pcs (lt0 z j false) 16))]) ⟨hx, hb, hml, hown, hts⟩ (m_literal l H.size dC dI om b1 b2 b3 e1 e2 e3 N c y z fo kn g1 g2 g3 hN hy hz hj false) (cwV 2 hts gL_law_X1_literal rfl rfl rfl (by decide +kernel) ⟨by decide +kernel, by decide +kernel⟩) (wW_preV (hP.sub (ws' := (mC om b1 b2 b3 e1 e2 e3 (nI N) (nI c) (nI y) (nI z) fo kn g1 g2 g3)) [0, 1, 2, 3] rfl) (hK.sub (tys' := mT e1 e2 e3) [4, 5, 6] rfl) (hD.sub (ws' := (mC om b1 b2 b3 e1 e2 e3 (nI N) (nI c) (nI y) (nI z) fo kn g1 g2 g3)) [0, 1, 2, 3] (by decide) rfl) (va_recv (q := (RX1, TX1, 9)) (q0 := 0) hK hP rfl rfl)) rfl rfl hl.1 rfl (lv_room (Nat.le_of_ble_eq_true rfl)) dL_law_178 ⟨by decide +kernel, by decide +kernel⟩) hS hA hP hD [0, 1, 2, 3] [4, 5, 6, 7, 8] rfl rfl (by decide) (by decide) (fun r0 u H locs hr0 hP hD hS => ?_)
      have hP : va_P (dC, dI) vwCl ((xC ox a1 a2 a3 a4 c1 c2 c3 c4 (nI N) (nI (N - 6)) (nI w) (nI (lt1 y j false)) (nI (lt0 z j false)) (nI c) f1 f2 f3 f4) ++ (mC om b1 b2 b3 e1 e2 e3 (nI N) (nI c) (nI (lt1 y j false)) (nI (lt0 z j false)) fo kn g1 g2 g3)) H := hP
      have hD : va_D A ((xC ox a1 a2 a3 a4 c1 c2 c3 c4 (nI N) (nI (N - 6)) (nI w) (nI (lt1 y j false)) (nI (lt0 z j false)) (nI c) f1 f2 f3 f4) ++ (mC om b1 b2 b3 e1 e2 e3 (nI N) (nI c) (nI (lt1 y j false)) (nI (lt0 z j false)) fo kn g1 g2 g3)) := hD
      subst hr0
      refine lv_icmp_eq hx hb dL_law_181 (tgt := 304) (by decide) (fun _ => ?_) (fun hq => absurd (rfl) hq)
      exact kk H locs ls ⟨w, lt1 y j false, lt0 z j false, c, Y, Z, f1, f2, f3, f4, fo, kn, g1, g2, g3, ⟨hw, lt1_lt hy hj false, lt0_lt hz hj false, hc, hRX, hRM, hkn⟩, hP, hD, hS⟩ hl
    · refine lv_aload_n hx hb dL_law_137 rfl (lv_at hl 1 rfl) ?_
      refine lv_aload_n hx hb dL_law_138 rfl (lv_at hl 0 rfl) ?_
      refine lv_iload_n hx hb dL_law_139 rfl (lv_at hl 3 rfl) ?_
      refine lv_iconst (v := nI 1) hx hb dL_law_140 (by decide) ?_
      refine lv_iadd hx hb dL_law_141 ?_
      refine cs_top (y := nI (i + 1)) (nI_add i 1) ?_
      refine va_sld (i := nI (i + 1)) hx hb hX hbl hbA hS (vp_in_nI (by omega) (by omega)) dL_law_142 ?_
      refine cs_top (y := xs (i + 1)) (congrArg xs (nI_clamp (by omega))) ?_
      refine cs_top (y := nI j) (hv) ?_
      refine lv_aload_n hx hb dL_law_143 rfl (lv_at hl 0 rfl) ?_
      refine lv_iload_n hx hb dL_law_144 rfl (lv_at hl 3 rfl) ?_
      refine lv_iconst (v := nI 2) hx hb dL_law_145 (by decide) ?_
      refine lv_iadd hx hb dL_law_146 ?_
      refine cs_top (y := nI (i + 2)) (nI_add i 2) ?_
      refine va_sld (i := nI (i + 2)) hx hb hX hbl hbA hS (vp_in_nI (by omega) (by omega)) dL_law_147 ?_
      refine cs_top (y := xs (i + 2)) (congrArg xs (nI_clamp (by omega))) ?_
      refine lv_if_eq hx hb dL_law_148 (tgt := 155) (by decide) (fun hq => absurd hq (h2)) (fun _ => ?_)
      refine lv_iconst (v := nI 1) hx hb dL_law_151 (by decide) ?_
      refine lv_goto hx hb dL_law_152 (tgt := 156) (by decide) ?_
      refine cs_top (y := bI true) (rfl) ?_
      refine cs_calli (wc := (xC ox a1 a2 a3 a4 c1 c2 c3 c4 (nI N) (nI (N - 6)) (nI w) (nI y) (nI z) (nI c) f1 f2 f3 f4)) (wr := (mC om b1 b2 b3 e1 e2 e3 (nI N) (nI c) (nI y) (nI z) fo kn g1 g2 g3)) (va_runV (As := [.int (nI j), .int (bI true)]) (rest := []) ⟨hx, hb, hml, hown, hts⟩ (c_literal l H.size dC dI ox a1 a2 a3 a4 c1 c2 c3 c4 N (N - 6) w y z c f1 f2 f3 f4 hN hy hz hj true) (cwV 2 hts gL_law_X0_literal rfl rfl rfl (by decide +kernel) ⟨by decide +kernel, by decide +kernel⟩) (wW_preV (hP.sub (ws' := (xC ox a1 a2 a3 a4 c1 c2 c3 c4 (nI N) (nI (N - 6)) (nI w) (nI y) (nI z) (nI c) f1 f2 f3 f4)) [0, 1, 2, 3, 4] rfl) (hK.sub (tys' := xT c1 c2 c3 c4) [0, 1, 2, 3] rfl) (hD.sub (ws' := (xC ox a1 a2 a3 a4 c1 c2 c3 c4 (nI N) (nI (N - 6)) (nI w) (nI y) (nI z) (nI c) f1 f2 f3 f4)) [0, 1, 2, 3, 4] (by decide) rfl) (va_recv (q := (RX0, TX0, 10)) (q0 := 0) hK hP rfl rfl)) rfl rfl hl.1 rfl (lv_room (Nat.le_of_ble_eq_true rfl)) dL_law_156 ⟨by decide +kernel, by decide +kernel⟩) hS hA hP hD [0, 1, 2, 3, 4] [5, 6, 7, 8] rfl rfl (by decide) (by decide) (fun r0 u H locs hr0 hP hD hS => ?_)
      have hP : va_P (dC, dI) vwCl ((mC om b1 b2 b3 e1 e2 e3 (nI N) (nI c) (nI y) (nI z) fo kn g1 g2 g3) ++ (xC ox a1 a2 a3 a4 c1 c2 c3 c4 (nI N) (nI (N - 6)) (nI w) (nI (lt1 y j true)) (nI (lt0 z j true)) (nI c) f1 f2 f3 f4)) H := hP
      have hD : va_D A ((mC om b1 b2 b3 e1 e2 e3 (nI N) (nI c) (nI y) (nI z) fo kn g1 g2 g3) ++ (xC ox a1 a2 a3 a4 c1 c2 c3 c4 (nI N) (nI (N - 6)) (nI w) (nI (lt1 y j true)) (nI (lt0 z j true)) (nI c) f1 f2 f3 f4)) := hD
      subst hr0
      refine lv_aload_n hx hb dL_law_159 rfl (lv_at hl 2 rfl) ?_
      refine lv_aload_n hx hb dL_law_160 rfl (lv_at hl 0 rfl) ?_
      refine lv_iload_n hx hb dL_law_161 rfl (lv_at hl 3 rfl) ?_
      refine lv_iconst (v := nI 1) hx hb dL_law_162 (by decide) ?_
      refine lv_iadd hx hb dL_law_163 ?_
      refine cs_top (y := nI (i + 1)) (nI_add i 1) ?_
      refine va_sld (i := nI (i + 1)) hx hb hX hbl hbA hS (vp_in_nI (by omega) (by omega)) dL_law_164 ?_
      refine cs_top (y := xs (i + 1)) (congrArg xs (nI_clamp (by omega))) ?_
      refine cs_top (y := nI j) (hv) ?_
      refine lv_aload_n hx hb dL_law_165 rfl (lv_at hl 0 rfl) ?_
      refine lv_iload_n hx hb dL_law_166 rfl (lv_at hl 3 rfl) ?_
      refine lv_iconst (v := nI 2) hx hb dL_law_167 (by decide) ?_
      refine lv_iadd hx hb dL_law_168 ?_
      refine cs_top (y := nI (i + 2)) (nI_add i 2) ?_
      refine va_sld (i := nI (i + 2)) hx hb hX hbl hbA hS (vp_in_nI (by omega) (by omega)) dL_law_169 ?_
      refine cs_top (y := xs (i + 2)) (congrArg xs (nI_clamp (by omega))) ?_
      refine lv_if_eq hx hb dL_law_170 (tgt := 177) (by decide) (fun hq => absurd hq (h2)) (fun _ => ?_)
      refine lv_iconst (v := nI 1) hx hb dL_law_173 (by decide) ?_
      refine lv_goto hx hb dL_law_174 (tgt := 178) (by decide) ?_
      refine cs_top (y := bI true) (rfl) ?_
      refine cs_calli (wc := (mC om b1 b2 b3 e1 e2 e3 (nI N) (nI c) (nI y) (nI z) fo kn g1 g2 g3)) (wr := (xC ox a1 a2 a3 a4 c1 c2 c3 c4 (nI N) (nI (N - 6)) (nI w) (nI (lt1 y j true)) (nI (lt0 z j true)) (nI c) f1 f2 f3 f4)) (va_runV (As := [.int (nI j), .int (bI true)]) (rest := [.int (nI (pcs (lt1 y j true) 16 + pcs (lt0 z j true) 16))]) ⟨hx, hb, hml, hown, hts⟩ (m_literal l H.size dC dI om b1 b2 b3 e1 e2 e3 N c y z fo kn g1 g2 g3 hN hy hz hj true) (cwV 2 hts gL_law_X1_literal rfl rfl rfl (by decide +kernel) ⟨by decide +kernel, by decide +kernel⟩) (wW_preV (hP.sub (ws' := (mC om b1 b2 b3 e1 e2 e3 (nI N) (nI c) (nI y) (nI z) fo kn g1 g2 g3)) [0, 1, 2, 3] rfl) (hK.sub (tys' := mT e1 e2 e3) [4, 5, 6] rfl) (hD.sub (ws' := (mC om b1 b2 b3 e1 e2 e3 (nI N) (nI c) (nI y) (nI z) fo kn g1 g2 g3)) [0, 1, 2, 3] (by decide) rfl) (va_recv (q := (RX1, TX1, 9)) (q0 := 0) hK hP rfl rfl)) rfl rfl hl.1 rfl (lv_room (Nat.le_of_ble_eq_true rfl)) dL_law_178 ⟨by decide +kernel, by decide +kernel⟩) hS hA hP hD [0, 1, 2, 3] [4, 5, 6, 7, 8] rfl rfl (by decide) (by decide) (fun r0 u H locs hr0 hP hD hS => ?_)
      have hP : va_P (dC, dI) vwCl ((xC ox a1 a2 a3 a4 c1 c2 c3 c4 (nI N) (nI (N - 6)) (nI w) (nI (lt1 y j true)) (nI (lt0 z j true)) (nI c) f1 f2 f3 f4) ++ (mC om b1 b2 b3 e1 e2 e3 (nI N) (nI c) (nI (lt1 y j true)) (nI (lt0 z j true)) fo kn g1 g2 g3)) H := hP
      have hD : va_D A ((xC ox a1 a2 a3 a4 c1 c2 c3 c4 (nI N) (nI (N - 6)) (nI w) (nI (lt1 y j true)) (nI (lt0 z j true)) (nI c) f1 f2 f3 f4) ++ (mC om b1 b2 b3 e1 e2 e3 (nI N) (nI c) (nI (lt1 y j true)) (nI (lt0 z j true)) fo kn g1 g2 g3)) := hD
      subst hr0
      refine lv_icmp_eq hx hb dL_law_181 (tgt := 304) (by decide) (fun _ => ?_) (fun hq => absurd (rfl) hq)
      exact kk H locs ls ⟨w, lt1 y j true, lt0 z j true, c, Y, Z, f1, f2, f3, f4, fo, kn, g1, g2, g3, ⟨hw, lt1_lt hy hj true, lt0_lt hz hj true, hc, hRX, hRM, hkn⟩, hP, hD, hS⟩ hl
set_option maxHeartbeats 4000000 in
set_option maxRecDepth 100000 in
theorem law_clause {p : Program} {e : Env} {s : State} {m : MethodId} {below : List Frame} {meth : Method} {c0 : Code} (l : Launch) {b L : Nat} {xs : Nat → Int32} {Q : State → Prop} {A : Nat → Prop} {dC : Nat → ClassId} {dI : Nat → Nat → Nat} {ox a1 a2 a3 a4 : Nat} {c1 c2 c3 c4 : ClassId} {om b1 b2 b3 : Nat} {e1 e2 e3 : ClassId} {tt N i : Nat} {H : Heap} {locs : List Loc} {ls : Array Slot} (hL : L ≤ 1537) (hx : p.tables.exec = Jvm.exec) (hb : c0.code = cL_law) (hml : c0.maxLocals = 4) (hown : s.vm.findClass RL = some m.cls) (hts : ∀ w ∈ wsL_law, w.before #[Value.ref b] s = true) (hX : va_X b L xs s s.heap) (hbl : b < s.heap.size) (hbA : ¬ A b) (hA : ∀ q : Nat, s.heap.size ≤ q → A q) (hT : tW RX0 "TAILS_WITH" "[J" tt 6 twv A s s.heap) (hK : va_K (dC, dI) vwCl (xT c1 c2 c3 c4 ++ mT e1 e2 e3) s) (hN : N ≤ 16) (hi : i + 2 < L) (hI : lwI dC dI ox a1 a2 a3 a4 c1 c2 c3 c4 om b1 b2 b3 e1 e2 e3 N A s.heap H locs) (hl : lv_has ls 4 [(0, .ref b), (1, .ref ox), (2, .ref om), (3, .int (nI i))]) (kk : ∀ (H : Heap) (locs : List Loc) (ls : Array Slot), lwI dC dI ox a1 a2 a3 a4 c1 c2 c3 c4 om b1 b2 b3 e1 e2 e3 N A s.heap H locs → lv_has ls 4 [(0, .ref b), (1, .ref ox), (2, .ref om), (3, .int (nI i))] → W p l e room_1 s m #[Value.ref b] below meth c0 H locs 9 2435 Q (F0 m 304 ls [])) : W p l e room_1 s m #[Value.ref b] below meth c0 H locs 9 2435 Q (F0 m 186 ls []) := by
  obtain ⟨w, y, z, c, Y, Z, f1, f2, f3, f4, fo, kn, g1, g2, g3, ⟨hw, hy, hz, hc, hRX, hRM, hkn⟩, hP, hD, hS⟩ := hI
  rcases Nat.lt_or_ge c 400 with hc4 | hc4
  · refine lv_aload_n hx hb dL_law_186 rfl (lv_at hl 1 rfl) ?_
    refine cs_calli (wc := (xC ox a1 a2 a3 a4 c1 c2 c3 c4 (nI N) (nI (N - 6)) (nI w) (nI y) (nI z) (nI c) f1 f2 f3 f4)) (wr := (mC om b1 b2 b3 e1 e2 e3 (nI N) (nI c) (nI y) (nI z) fo kn g1 g2 g3)) (va_runV (As := []) (rest := []) ⟨hx, hb, hml, hown, hts⟩ (c_clause l tt H.size dC dI ox a1 a2 a3 a4 c1 c2 c3 c4 N (N - 6) w y z c f1 f2 f3 f4 hN rfl hc4 hy hz) (cwV 0 hts gL_law_X0_clause rfl rfl rfl (by decide +kernel) ⟨by decide +kernel, by decide +kernel⟩) (wT_preV (hP.sub (ws' := (xC ox a1 a2 a3 a4 c1 c2 c3 c4 (nI N) (nI (N - 6)) (nI w) (nI y) (nI z) (nI c) f1 f2 f3 f4)) [0, 1, 2, 3, 4] rfl) (hK.sub (tys' := xT c1 c2 c3 c4) [0, 1, 2, 3] rfl) (hD.sub (ws' := (xC ox a1 a2 a3 a4 c1 c2 c3 c4 (nI N) (nI (N - 6)) (nI w) (nI y) (nI z) (nI c) f1 f2 f3 f4)) [0, 1, 2, 3, 4] (by decide) rfl) ((hT.kept hS.2.1).narrow (va_free hD hS hA [0, 1, 2, 3, 4] rfl)) (va_recv (q := (RX0, TX0, 10)) (q0 := 0) hK hP rfl rfl)) rfl rfl hl.1 rfl (lv_room (Nat.le_of_ble_eq_true rfl)) dL_law_187 ⟨by decide +kernel, by decide +kernel⟩) hS hA hP hD [0, 1, 2, 3, 4] [5, 6, 7, 8] rfl rfl (by decide) (by decide) (fun r0 u H locs hr0 hP hD hS => ?_)
    have hP : va_P (dC, dI) vwCl ((mC om b1 b2 b3 e1 e2 e3 (nI N) (nI c) (nI y) (nI z) fo kn g1 g2 g3) ++ (xC ox a1 a2 a3 a4 c1 c2 c3 c4 (nI N) (nI (N - 6)) (nI w) (nI 0) (nI 0) (nI (c + 1)) (upd f1 c (nI (y % 2 ^ (N - 6)))) (upd f2 c (nI (z % 2 ^ (N - 6)))) (upd f3 c (nI u.1)) (vp_updL f4 c u.2))) H := hP
    have hD : va_D A ((mC om b1 b2 b3 e1 e2 e3 (nI N) (nI c) (nI y) (nI z) fo kn g1 g2 g3) ++ (xC ox a1 a2 a3 a4 c1 c2 c3 c4 (nI N) (nI (N - 6)) (nI w) (nI 0) (nI 0) (nI (c + 1)) (upd f1 c (nI (y % 2 ^ (N - 6)))) (upd f2 c (nI (z % 2 ^ (N - 6)))) (upd f3 c (nI u.1)) (vp_updL f4 c u.2))) := hD
    obtain ⟨rfl, hδ, hδb, hz9⟩ := hr0
    obtain ⟨δ, u9⟩ := u
    have hP : va_P (dC, dI) vwCl ((mC om b1 b2 b3 e1 e2 e3 (nI N) (nI c) (nI y) (nI z) fo kn g1 g2 g3) ++ (xC ox a1 a2 a3 a4 c1 c2 c3 c4 (nI N) (nI (N - 6)) (nI w) (nI 0) (nI 0) (nI (c + 1)) (upd f1 c (nI (y % 2 ^ (N - 6)))) (upd f2 c (nI (z % 2 ^ (N - 6)))) (upd f3 c (nI δ)) (vp_updL f4 c u9))) H := hP
    have hD : va_D A ((mC om b1 b2 b3 e1 e2 e3 (nI N) (nI c) (nI y) (nI z) fo kn g1 g2 g3) ++ (xC ox a1 a2 a3 a4 c1 c2 c3 c4 (nI N) (nI (N - 6)) (nI w) (nI 0) (nI 0) (nI (c + 1)) (upd f1 c (nI (y % 2 ^ (N - 6)))) (upd f2 c (nI (z % 2 ^ (N - 6)))) (upd f3 c (nI δ)) (vp_updL f4 c u9))) := hD
    refine lv_aload_n hx hb dL_law_190 rfl (lv_at hl 2 rfl) ?_
    refine cs_calli (wc := (mC om b1 b2 b3 e1 e2 e3 (nI N) (nI c) (nI y) (nI z) fo kn g1 g2 g3)) (wr := (xC ox a1 a2 a3 a4 c1 c2 c3 c4 (nI N) (nI (N - 6)) (nI w) (nI 0) (nI 0) (nI (c + 1)) (upd f1 c (nI (y % 2 ^ (N - 6)))) (upd f2 c (nI (z % 2 ^ (N - 6)))) (upd f3 c (nI δ)) (vp_updL f4 c u9))) (va_runV (As := []) (rest := [.int (nI (c + 1))]) ⟨hx, hb, hml, hown, hts⟩ (m_clause l H.size dC dI om b1 b2 b3 e1 e2 e3 N c y z fo kn g1 g2 g3 hN hc4 hy hz) (cwV 0 hts gL_law_X1_clause rfl rfl rfl (by decide +kernel) ⟨by decide +kernel, by decide +kernel⟩) (wW_preV (hP.sub (ws' := (mC om b1 b2 b3 e1 e2 e3 (nI N) (nI c) (nI y) (nI z) fo kn g1 g2 g3)) [0, 1, 2, 3] rfl) (hK.sub (tys' := mT e1 e2 e3) [4, 5, 6] rfl) (hD.sub (ws' := (mC om b1 b2 b3 e1 e2 e3 (nI N) (nI c) (nI y) (nI z) fo kn g1 g2 g3)) [0, 1, 2, 3] (by decide) rfl) (va_recv (q := (RX1, TX1, 9)) (q0 := 0) hK hP rfl rfl)) rfl rfl hl.1 rfl (lv_room (Nat.le_of_ble_eq_true rfl)) dL_law_191 ⟨by decide +kernel, by decide +kernel⟩) hS hA hP hD [0, 1, 2, 3] [4, 5, 6, 7, 8] rfl rfl (by decide) (by decide) (fun r0 u H locs hr0 hP hD hS => ?_)
    have hP : va_P (dC, dI) vwCl ((xC ox a1 a2 a3 a4 c1 c2 c3 c4 (nI N) (nI (N - 6)) (nI w) (nI 0) (nI 0) (nI (c + 1)) (upd f1 c (nI (y % 2 ^ (N - 6)))) (upd f2 c (nI (z % 2 ^ (N - 6)))) (upd f3 c (nI δ)) (vp_updL f4 c u9)) ++ (mC om b1 b2 b3 e1 e2 e3 (nI N) (nI (c + 1)) (nI 0) (nI 0) fo (nI 0) g1 (upd g2 c (nI y)) (upd g3 c (nI z)))) H := hP
    have hD : va_D A ((xC ox a1 a2 a3 a4 c1 c2 c3 c4 (nI N) (nI (N - 6)) (nI w) (nI 0) (nI 0) (nI (c + 1)) (upd f1 c (nI (y % 2 ^ (N - 6)))) (upd f2 c (nI (z % 2 ^ (N - 6)))) (upd f3 c (nI δ)) (vp_updL f4 c u9)) ++ (mC om b1 b2 b3 e1 e2 e3 (nI N) (nI (c + 1)) (nI 0) (nI 0) fo (nI 0) g1 (upd g2 c (nI y)) (upd g3 c (nI z)))) := hD
    subst hr0
    refine lv_icmp_eq hx hb dL_law_194 (tgt := 304) (by decide) (fun _ => ?_) (fun hq => absurd (rfl) hq)
    exact kk H locs ls ⟨w, 0, 0, c + 1, ub Y c y, ub Z c z, upd f1 c (nI (y % 2 ^ (N - 6))), upd f2 c (nI (z % 2 ^ (N - 6))), upd f3 c (nI δ), vp_updL f4 c u9, fo, nI 0, g1, upd g2 c (nI y), upd g3 c (nI z), ⟨hw, Nat.two_pow_pos N, Nat.two_pow_pos N, hc4, RX_add hRX hy hz hδ hδb hz9, RM_add hRM, Or.inl rfl⟩, hP, hD, hS⟩ hl
  · refine lv_aload_n hx hb dL_law_186 rfl (lv_at hl 1 rfl) ?_
    refine vp_callSi (W.runV (As := []) (rest := []) ⟨hx, hb, hml, hown, hts⟩ (c_clause_full l dC dI ox a1 a2 a3 a4 c1 c2 c3 c4 N (N - 6) w y z c f1 f2 f3 f4 (by omega)) (cwV 0 hts gL_law_X0_clause rfl rfl rfl (by decide +kernel) ⟨by decide +kernel, by decide +kernel⟩) (rW_preV (hP.sub (ws' := (xC ox a1 a2 a3 a4 c1 c2 c3 c4 (nI N) (nI (N - 6)) (nI w) (nI y) (nI z) (nI c) f1 f2 f3 f4)) [0, 1, 2, 3, 4] rfl) (hK.sub (tys' := xT c1 c2 c3 c4) [0, 1, 2, 3] rfl) (va_recv (q := (RX0, TX0, 10)) (q0 := 0) hK hP rfl rfl)) rfl rfl hl.1 rfl (lv_room (Nat.le_of_ble_eq_true rfl)) dL_law_187 ⟨by decide +kernel, by decide +kernel⟩) (fun r0 hr0 => ?_)
    subst hr0
    refine lv_aload_n hx hb dL_law_190 rfl (lv_at hl 2 rfl) ?_
    refine vp_callSi (W.runV (As := []) (rest := [.int (-3)]) ⟨hx, hb, hml, hown, hts⟩ (m_clause_full l dC dI om b1 b2 b3 e1 e2 e3 N c y z fo kn g1 g2 g3 (by omega)) (cwV 0 hts gL_law_X1_clause rfl rfl rfl (by decide +kernel) ⟨by decide +kernel, by decide +kernel⟩) (rW_preV (hP.sub (ws' := (mC om b1 b2 b3 e1 e2 e3 (nI N) (nI c) (nI y) (nI z) fo kn g1 g2 g3)) [5, 6, 7, 8] rfl) (hK.sub (tys' := mT e1 e2 e3) [4, 5, 6] rfl) (va_recv (q := (RX1, TX1, 9)) (q0 := 5) hK hP rfl rfl)) rfl rfl hl.1 rfl (lv_room (Nat.le_of_ble_eq_true rfl)) dL_law_191 ⟨by decide +kernel, by decide +kernel⟩) (fun r0 hr0 => ?_)
    subst hr0
    refine lv_icmp_eq hx hb dL_law_194 (tgt := 304) (by decide) (fun _ => ?_) (fun hq => absurd (rfl) hq)
    exact kk H locs ls ⟨w, y, z, c, Y, Z, f1, f2, f3, f4, fo, kn, g1, g2, g3, ⟨hw, hy, hz, hc, hRX, hRM, hkn⟩, hP, hD, hS⟩ hl
set_option maxHeartbeats 4000000 in
set_option maxRecDepth 100000 in
theorem law_some {p : Program} {e : Env} {s : State} {m : MethodId} {below : List Frame} {meth : Method} {c0 : Code} (l : Launch) {b L : Nat} {xs : Nat → Int32} {Q : State → Prop} {A : Nat → Prop} {dC : Nat → ClassId} {dI : Nat → Nat → Nat} {ox a1 a2 a3 a4 : Nat} {c1 c2 c3 c4 : ClassId} {om b1 b2 b3 : Nat} {e1 e2 e3 : ClassId} {tt N i : Nat} {H : Heap} {locs : List Loc} {ls : Array Slot} (hL : L ≤ 1537) (hx : p.tables.exec = Jvm.exec) (hb : c0.code = cL_law) (hml : c0.maxLocals = 4) (hown : s.vm.findClass RL = some m.cls) (hts : ∀ w ∈ wsL_law, w.before #[Value.ref b] s = true) (hX : va_X b L xs s s.heap) (hbl : b < s.heap.size) (hbA : ¬ A b) (hA : ∀ q : Nat, s.heap.size ≤ q → A q) (hT : tW RX0 "TAILS_WITH" "[J" tt 6 twv A s s.heap) (hK : va_K (dC, dI) vwCl (xT c1 c2 c3 c4 ++ mT e1 e2 e3) s) (hN : N ≤ 16) (hi : i + 2 < L) (hI : lwI dC dI ox a1 a2 a3 a4 c1 c2 c3 c4 om b1 b2 b3 e1 e2 e3 N A s.heap H locs) (hl : lv_has ls 4 [(0, .ref b), (1, .ref ox), (2, .ref om), (3, .int (nI i))]) (kk : ∀ (H : Heap) (locs : List Loc) (ls : Array Slot), lwI dC dI ox a1 a2 a3 a4 c1 c2 c3 c4 om b1 b2 b3 e1 e2 e3 N A s.heap H locs → lv_has ls 4 [(0, .ref b), (1, .ref ox), (2, .ref om), (3, .int (nI i))] → W p l e room_1 s m #[Value.ref b] below meth c0 H locs 9 2435 Q (F0 m 304 ls [])) : W p l e room_1 s m #[Value.ref b] below meth c0 H locs 9 2435 Q (F0 m 199 ls []) := by
  obtain ⟨w, y, z, c, Y, Z, f1, f2, f3, f4, fo, kn, g1, g2, g3, ⟨hw, hy, hz, hc, hRX, hRM, hkn⟩, hP, hD, hS⟩ := hI
  rcases Nat.lt_or_ge c 400 with hc4 | hc4
  · refine lv_aload_n hx hb dL_law_199 rfl (lv_at hl 1 rfl) ?_
    refine lv_aload_n hx hb dL_law_200 rfl (lv_at hl 0 rfl) ?_
    refine lv_iload_n hx hb dL_law_201 rfl (lv_at hl 3 rfl) ?_
    refine lv_iconst (v := nI 1) hx hb dL_law_202 (by decide) ?_
    refine lv_iadd hx hb dL_law_203 ?_
    refine cs_top (y := nI (i + 1)) (nI_add i 1) ?_
    refine va_sld (i := nI (i + 1)) hx hb hX hbl hbA hS (vp_in_nI (by omega) (by omega)) dL_law_204 ?_
    refine cs_top (y := xs (i + 1)) (congrArg xs (nI_clamp (by omega))) ?_
    refine lv_aload_n hx hb dL_law_205 rfl (lv_at hl 0 rfl) ?_
    refine lv_iload_n hx hb dL_law_206 rfl (lv_at hl 3 rfl) ?_
    refine lv_iconst (v := nI 2) hx hb dL_law_207 (by decide) ?_
    refine lv_iadd hx hb dL_law_208 ?_
    refine cs_top (y := nI (i + 2)) (nI_add i 2) ?_
    refine va_sld (i := nI (i + 2)) hx hb hX hbl hbA hS (vp_in_nI (by omega) (by omega)) dL_law_209 ?_
    refine cs_top (y := xs (i + 2)) (congrArg xs (nI_clamp (by omega))) ?_
    refine cs_calli (wc := (xC ox a1 a2 a3 a4 c1 c2 c3 c4 (nI N) (nI (N - 6)) (nI w) (nI y) (nI z) (nI c) f1 f2 f3 f4)) (wr := (mC om b1 b2 b3 e1 e2 e3 (nI N) (nI c) (nI y) (nI z) fo kn g1 g2 g3)) (va_runV (As := [.int (xs (i + 1)), .int (xs (i + 2))]) (rest := []) ⟨hx, hb, hml, hown, hts⟩ (c_some l tt H.size dC dI ox a1 a2 a3 a4 c1 c2 c3 c4 N (N - 6) w y z c f1 f2 f3 f4 hN rfl hc4 (xs (i + 1)) (xs (i + 2))) (cwV 2 hts gL_law_X0_some rfl rfl rfl (by decide +kernel) ⟨by decide +kernel, by decide +kernel⟩) (wT_preV (hP.sub (ws' := (xC ox a1 a2 a3 a4 c1 c2 c3 c4 (nI N) (nI (N - 6)) (nI w) (nI y) (nI z) (nI c) f1 f2 f3 f4)) [0, 1, 2, 3, 4] rfl) (hK.sub (tys' := xT c1 c2 c3 c4) [0, 1, 2, 3] rfl) (hD.sub (ws' := (xC ox a1 a2 a3 a4 c1 c2 c3 c4 (nI N) (nI (N - 6)) (nI w) (nI y) (nI z) (nI c) f1 f2 f3 f4)) [0, 1, 2, 3, 4] (by decide) rfl) ((hT.kept hS.2.1).narrow (va_free hD hS hA [0, 1, 2, 3, 4] rfl)) (va_recv (q := (RX0, TX0, 10)) (q0 := 0) hK hP rfl rfl)) rfl rfl hl.1 rfl (lv_room (Nat.le_of_ble_eq_true rfl)) dL_law_210 ⟨by decide +kernel, by decide +kernel⟩) hS hA hP hD [0, 1, 2, 3, 4] [5, 6, 7, 8] rfl rfl (by decide) (by decide) (fun r0 u H locs hr0 hP hD hS => ?_)
    have hP : va_P (dC, dI) vwCl ((mC om b1 b2 b3 e1 e2 e3 (nI N) (nI c) (nI y) (nI z) fo kn g1 g2 g3) ++ (xC ox a1 a2 a3 a4 c1 c2 c3 c4 (nI N) (nI (N - 6)) (nI w) (nI y) (nI z) (nI (c + 1)) (upd f1 c (nI (lo (xs (i + 1)) N % 2 ^ (N - 6)))) (upd f2 c (nI (lo (xs (i + 2)) N % 2 ^ (N - 6)))) (upd f3 c (nI u.1)) (vp_updL f4 c u.2))) H := hP
    have hD : va_D A ((mC om b1 b2 b3 e1 e2 e3 (nI N) (nI c) (nI y) (nI z) fo kn g1 g2 g3) ++ (xC ox a1 a2 a3 a4 c1 c2 c3 c4 (nI N) (nI (N - 6)) (nI w) (nI y) (nI z) (nI (c + 1)) (upd f1 c (nI (lo (xs (i + 1)) N % 2 ^ (N - 6)))) (upd f2 c (nI (lo (xs (i + 2)) N % 2 ^ (N - 6)))) (upd f3 c (nI u.1)) (vp_updL f4 c u.2))) := hD
    obtain ⟨rfl, hδ, hδb, hz9⟩ := hr0
    obtain ⟨δ, u9⟩ := u
    have hP : va_P (dC, dI) vwCl ((mC om b1 b2 b3 e1 e2 e3 (nI N) (nI c) (nI y) (nI z) fo kn g1 g2 g3) ++ (xC ox a1 a2 a3 a4 c1 c2 c3 c4 (nI N) (nI (N - 6)) (nI w) (nI y) (nI z) (nI (c + 1)) (upd f1 c (nI (lo (xs (i + 1)) N % 2 ^ (N - 6)))) (upd f2 c (nI (lo (xs (i + 2)) N % 2 ^ (N - 6)))) (upd f3 c (nI δ)) (vp_updL f4 c u9))) H := hP
    have hD : va_D A ((mC om b1 b2 b3 e1 e2 e3 (nI N) (nI c) (nI y) (nI z) fo kn g1 g2 g3) ++ (xC ox a1 a2 a3 a4 c1 c2 c3 c4 (nI N) (nI (N - 6)) (nI w) (nI y) (nI z) (nI (c + 1)) (upd f1 c (nI (lo (xs (i + 1)) N % 2 ^ (N - 6)))) (upd f2 c (nI (lo (xs (i + 2)) N % 2 ^ (N - 6)))) (upd f3 c (nI δ)) (vp_updL f4 c u9))) := hD
    refine lv_aload_n hx hb dL_law_213 rfl (lv_at hl 2 rfl) ?_
    refine lv_aload_n hx hb dL_law_214 rfl (lv_at hl 0 rfl) ?_
    refine lv_iload_n hx hb dL_law_215 rfl (lv_at hl 3 rfl) ?_
    refine lv_iconst (v := nI 1) hx hb dL_law_216 (by decide) ?_
    refine lv_iadd hx hb dL_law_217 ?_
    refine cs_top (y := nI (i + 1)) (nI_add i 1) ?_
    refine va_sld (i := nI (i + 1)) hx hb hX hbl hbA hS (vp_in_nI (by omega) (by omega)) dL_law_218 ?_
    refine cs_top (y := xs (i + 1)) (congrArg xs (nI_clamp (by omega))) ?_
    refine lv_aload_n hx hb dL_law_219 rfl (lv_at hl 0 rfl) ?_
    refine lv_iload_n hx hb dL_law_220 rfl (lv_at hl 3 rfl) ?_
    refine lv_iconst (v := nI 2) hx hb dL_law_221 (by decide) ?_
    refine lv_iadd hx hb dL_law_222 ?_
    refine cs_top (y := nI (i + 2)) (nI_add i 2) ?_
    refine va_sld (i := nI (i + 2)) hx hb hX hbl hbA hS (vp_in_nI (by omega) (by omega)) dL_law_223 ?_
    refine cs_top (y := xs (i + 2)) (congrArg xs (nI_clamp (by omega))) ?_
    refine cs_calli (wc := (mC om b1 b2 b3 e1 e2 e3 (nI N) (nI c) (nI y) (nI z) fo kn g1 g2 g3)) (wr := (xC ox a1 a2 a3 a4 c1 c2 c3 c4 (nI N) (nI (N - 6)) (nI w) (nI y) (nI z) (nI (c + 1)) (upd f1 c (nI (lo (xs (i + 1)) N % 2 ^ (N - 6)))) (upd f2 c (nI (lo (xs (i + 2)) N % 2 ^ (N - 6)))) (upd f3 c (nI δ)) (vp_updL f4 c u9))) (va_runV (As := [.int (xs (i + 1)), .int (xs (i + 2))]) (rest := [.int (nI (c + 1))]) ⟨hx, hb, hml, hown, hts⟩ (m_some l H.size dC dI om b1 b2 b3 e1 e2 e3 N c y z fo kn g1 g2 g3 hN hc4 (xs (i + 1)) (xs (i + 2))) (cwV 2 hts gL_law_X1_some rfl rfl rfl (by decide +kernel) ⟨by decide +kernel, by decide +kernel⟩) (wW_preV (hP.sub (ws' := (mC om b1 b2 b3 e1 e2 e3 (nI N) (nI c) (nI y) (nI z) fo kn g1 g2 g3)) [0, 1, 2, 3] rfl) (hK.sub (tys' := mT e1 e2 e3) [4, 5, 6] rfl) (hD.sub (ws' := (mC om b1 b2 b3 e1 e2 e3 (nI N) (nI c) (nI y) (nI z) fo kn g1 g2 g3)) [0, 1, 2, 3] (by decide) rfl) (va_recv (q := (RX1, TX1, 9)) (q0 := 0) hK hP rfl rfl)) rfl rfl hl.1 rfl (lv_room (Nat.le_of_ble_eq_true rfl)) dL_law_224 ⟨by decide +kernel, by decide +kernel⟩) hS hA hP hD [0, 1, 2, 3] [4, 5, 6, 7, 8] rfl rfl (by decide) (by decide) (fun r0 u H locs hr0 hP hD hS => ?_)
    have hP : va_P (dC, dI) vwCl ((xC ox a1 a2 a3 a4 c1 c2 c3 c4 (nI N) (nI (N - 6)) (nI w) (nI y) (nI z) (nI (c + 1)) (upd f1 c (nI (lo (xs (i + 1)) N % 2 ^ (N - 6)))) (upd f2 c (nI (lo (xs (i + 2)) N % 2 ^ (N - 6)))) (upd f3 c (nI δ)) (vp_updL f4 c u9)) ++ (mC om b1 b2 b3 e1 e2 e3 (nI N) (nI (c + 1)) (nI y) (nI z) fo (nI 0) g1 (upd g2 c (nI (lo (xs (i + 1)) N))) (upd g3 c (nI (lo (xs (i + 2)) N))))) H := hP
    have hD : va_D A ((xC ox a1 a2 a3 a4 c1 c2 c3 c4 (nI N) (nI (N - 6)) (nI w) (nI y) (nI z) (nI (c + 1)) (upd f1 c (nI (lo (xs (i + 1)) N % 2 ^ (N - 6)))) (upd f2 c (nI (lo (xs (i + 2)) N % 2 ^ (N - 6)))) (upd f3 c (nI δ)) (vp_updL f4 c u9)) ++ (mC om b1 b2 b3 e1 e2 e3 (nI N) (nI (c + 1)) (nI y) (nI z) fo (nI 0) g1 (upd g2 c (nI (lo (xs (i + 1)) N))) (upd g3 c (nI (lo (xs (i + 2)) N))))) := hD
    subst hr0
    refine lv_icmp_eq hx hb dL_law_227 (tgt := 304) (by decide) (fun _ => ?_) (fun hq => absurd (rfl) hq)
    exact kk H locs ls ⟨w, y, z, c + 1, ub Y c (lo (xs (i + 1)) N), ub Z c (lo (xs (i + 2)) N), upd f1 c (nI (lo (xs (i + 1)) N % 2 ^ (N - 6))), upd f2 c (nI (lo (xs (i + 2)) N % 2 ^ (N - 6))), upd f3 c (nI δ), vp_updL f4 c u9, fo, nI 0, g1, upd g2 c (nI (lo (xs (i + 1)) N)), upd g3 c (nI (lo (xs (i + 2)) N)), ⟨hw, hy, hz, hc4, RX_add hRX (lo_lt _ _) (lo_lt _ _) hδ hδb hz9, RM_add hRM, Or.inl rfl⟩, hP, hD, hS⟩ hl
  · refine lv_aload_n hx hb dL_law_199 rfl (lv_at hl 1 rfl) ?_
    refine lv_aload_n hx hb dL_law_200 rfl (lv_at hl 0 rfl) ?_
    refine lv_iload_n hx hb dL_law_201 rfl (lv_at hl 3 rfl) ?_
    refine lv_iconst (v := nI 1) hx hb dL_law_202 (by decide) ?_
    refine lv_iadd hx hb dL_law_203 ?_
    refine cs_top (y := nI (i + 1)) (nI_add i 1) ?_
    refine va_sld (i := nI (i + 1)) hx hb hX hbl hbA hS (vp_in_nI (by omega) (by omega)) dL_law_204 ?_
    refine cs_top (y := xs (i + 1)) (congrArg xs (nI_clamp (by omega))) ?_
    refine lv_aload_n hx hb dL_law_205 rfl (lv_at hl 0 rfl) ?_
    refine lv_iload_n hx hb dL_law_206 rfl (lv_at hl 3 rfl) ?_
    refine lv_iconst (v := nI 2) hx hb dL_law_207 (by decide) ?_
    refine lv_iadd hx hb dL_law_208 ?_
    refine cs_top (y := nI (i + 2)) (nI_add i 2) ?_
    refine va_sld (i := nI (i + 2)) hx hb hX hbl hbA hS (vp_in_nI (by omega) (by omega)) dL_law_209 ?_
    refine cs_top (y := xs (i + 2)) (congrArg xs (nI_clamp (by omega))) ?_
    refine vp_callSi (W.runV (As := [.int (xs (i + 1)), .int (xs (i + 2))]) (rest := []) ⟨hx, hb, hml, hown, hts⟩ (c_some_full l dC dI ox a1 a2 a3 a4 c1 c2 c3 c4 N (N - 6) w y z c f1 f2 f3 f4 hN (by omega) _ _) (cwV 2 hts gL_law_X0_some rfl rfl rfl (by decide +kernel) ⟨by decide +kernel, by decide +kernel⟩) (rW_preV (hP.sub (ws' := (xC ox a1 a2 a3 a4 c1 c2 c3 c4 (nI N) (nI (N - 6)) (nI w) (nI y) (nI z) (nI c) f1 f2 f3 f4)) [0, 1, 2, 3, 4] rfl) (hK.sub (tys' := xT c1 c2 c3 c4) [0, 1, 2, 3] rfl) (va_recv (q := (RX0, TX0, 10)) (q0 := 0) hK hP rfl rfl)) rfl rfl hl.1 rfl (lv_room (Nat.le_of_ble_eq_true rfl)) dL_law_210 ⟨by decide +kernel, by decide +kernel⟩) (fun r0 hr0 => ?_)
    subst hr0
    refine lv_aload_n hx hb dL_law_213 rfl (lv_at hl 2 rfl) ?_
    refine lv_aload_n hx hb dL_law_214 rfl (lv_at hl 0 rfl) ?_
    refine lv_iload_n hx hb dL_law_215 rfl (lv_at hl 3 rfl) ?_
    refine lv_iconst (v := nI 1) hx hb dL_law_216 (by decide) ?_
    refine lv_iadd hx hb dL_law_217 ?_
    refine cs_top (y := nI (i + 1)) (nI_add i 1) ?_
    refine va_sld (i := nI (i + 1)) hx hb hX hbl hbA hS (vp_in_nI (by omega) (by omega)) dL_law_218 ?_
    refine cs_top (y := xs (i + 1)) (congrArg xs (nI_clamp (by omega))) ?_
    refine lv_aload_n hx hb dL_law_219 rfl (lv_at hl 0 rfl) ?_
    refine lv_iload_n hx hb dL_law_220 rfl (lv_at hl 3 rfl) ?_
    refine lv_iconst (v := nI 2) hx hb dL_law_221 (by decide) ?_
    refine lv_iadd hx hb dL_law_222 ?_
    refine cs_top (y := nI (i + 2)) (nI_add i 2) ?_
    refine va_sld (i := nI (i + 2)) hx hb hX hbl hbA hS (vp_in_nI (by omega) (by omega)) dL_law_223 ?_
    refine cs_top (y := xs (i + 2)) (congrArg xs (nI_clamp (by omega))) ?_
    refine vp_callSi (W.runV (As := [.int (xs (i + 1)), .int (xs (i + 2))]) (rest := [.int (-3)]) ⟨hx, hb, hml, hown, hts⟩ (m_some_full l dC dI om b1 b2 b3 e1 e2 e3 N c y z fo kn g1 g2 g3 (by omega) _ _) (cwV 2 hts gL_law_X1_some rfl rfl rfl (by decide +kernel) ⟨by decide +kernel, by decide +kernel⟩) (rW_preV (hP.sub (ws' := (mC om b1 b2 b3 e1 e2 e3 (nI N) (nI c) (nI y) (nI z) fo kn g1 g2 g3)) [5, 6, 7, 8] rfl) (hK.sub (tys' := mT e1 e2 e3) [4, 5, 6] rfl) (va_recv (q := (RX1, TX1, 9)) (q0 := 5) hK hP rfl rfl)) rfl rfl hl.1 rfl (lv_room (Nat.le_of_ble_eq_true rfl)) dL_law_224 ⟨by decide +kernel, by decide +kernel⟩) (fun r0 hr0 => ?_)
    subst hr0
    refine lv_icmp_eq hx hb dL_law_227 (tgt := 304) (by decide) (fun _ => ?_) (fun hq => absurd (rfl) hq)
    exact kk H locs ls ⟨w, y, z, c, Y, Z, f1, f2, f3, f4, fo, kn, g1, g2, g3, ⟨hw, hy, hz, hc, hRX, hRM, hkn⟩, hP, hD, hS⟩ hl
set_option maxHeartbeats 4000000 in
set_option maxRecDepth 100000 in
theorem law_drop {p : Program} {e : Env} {s : State} {m : MethodId} {below : List Frame} {meth : Method} {c0 : Code} (l : Launch) {b L : Nat} {xs : Nat → Int32} {Q : State → Prop} {A : Nat → Prop} {dC : Nat → ClassId} {dI : Nat → Nat → Nat} {ox a1 a2 a3 a4 : Nat} {c1 c2 c3 c4 : ClassId} {om b1 b2 b3 : Nat} {e1 e2 e3 : ClassId} {tt N i : Nat} {H : Heap} {locs : List Loc} {ls : Array Slot} (hL : L ≤ 1537) (hx : p.tables.exec = Jvm.exec) (hb : c0.code = cL_law) (hml : c0.maxLocals = 4) (hown : s.vm.findClass RL = some m.cls) (hts : ∀ w ∈ wsL_law, w.before #[Value.ref b] s = true) (hX : va_X b L xs s s.heap) (hbl : b < s.heap.size) (hbA : ¬ A b) (hA : ∀ q : Nat, s.heap.size ≤ q → A q) (hT : tW RX0 "TAILS_WITH" "[J" tt 6 twv A s s.heap) (hK : va_K (dC, dI) vwCl (xT c1 c2 c3 c4 ++ mT e1 e2 e3) s) (hN : N ≤ 16) (hi : i + 2 < L) (hI : lwI dC dI ox a1 a2 a3 a4 c1 c2 c3 c4 om b1 b2 b3 e1 e2 e3 N A s.heap H locs) (hl : lv_has ls 4 [(0, .ref b), (1, .ref ox), (2, .ref om), (3, .int (nI i))]) (kk : ∀ (H : Heap) (locs : List Loc) (ls : Array Slot), lwI dC dI ox a1 a2 a3 a4 c1 c2 c3 c4 om b1 b2 b3 e1 e2 e3 N A s.heap H locs → lv_has ls 4 [(0, .ref b), (1, .ref ox), (2, .ref om), (3, .int (nI i))] → W p l e room_1 s m #[Value.ref b] below meth c0 H locs 9 2435 Q (F0 m 304 ls [])) : W p l e room_1 s m #[Value.ref b] below meth c0 H locs 9 2435 Q (F0 m 232 ls []) := by
  obtain ⟨w, y, z, c, Y, Z, f1, f2, f3, f4, fo, kn, g1, g2, g3, ⟨hw, hy, hz, hc, hRX, hRM, hkn⟩, hP, hD, hS⟩ := hI
  rcases cs_ix (xs (i + 1)) (n := c) (by omega) with hv | ⟨j, hj, hv⟩
  · refine lv_aload_n hx hb dL_law_232 rfl (lv_at hl 1 rfl) ?_
    refine lv_aload_n hx hb dL_law_233 rfl (lv_at hl 0 rfl) ?_
    refine lv_iload_n hx hb dL_law_234 rfl (lv_at hl 3 rfl) ?_
    refine lv_iconst (v := nI 1) hx hb dL_law_235 (by decide) ?_
    refine lv_iadd hx hb dL_law_236 ?_
    refine cs_top (y := nI (i + 1)) (nI_add i 1) ?_
    refine va_sld (i := nI (i + 1)) hx hb hX hbl hbA hS (vp_in_nI (by omega) (by omega)) dL_law_237 ?_
    refine cs_top (y := xs (i + 1)) (congrArg xs (nI_clamp (by omega))) ?_
    refine vp_callSi (W.runV (As := [.int (xs (i + 1))]) (rest := []) ⟨hx, hb, hml, hown, hts⟩ (c_drop_out l dC dI ox a1 a2 a3 a4 c1 c2 c3 c4 N (N - 6) w y z c f1 f2 f3 f4 hv) (cwV 1 hts gL_law_X0_drop rfl rfl rfl (by decide +kernel) ⟨by decide +kernel, by decide +kernel⟩) (rW_preV (hP.sub (ws' := (xC ox a1 a2 a3 a4 c1 c2 c3 c4 (nI N) (nI (N - 6)) (nI w) (nI y) (nI z) (nI c) f1 f2 f3 f4)) [0, 1, 2, 3, 4] rfl) (hK.sub (tys' := xT c1 c2 c3 c4) [0, 1, 2, 3] rfl) (va_recv (q := (RX0, TX0, 10)) (q0 := 0) hK hP rfl rfl)) rfl rfl hl.1 rfl (lv_room (Nat.le_of_ble_eq_true rfl)) dL_law_238 ⟨by decide +kernel, by decide +kernel⟩) (fun r0 hr0 => ?_)
    subst hr0
    refine lv_aload_n hx hb dL_law_241 rfl (lv_at hl 2 rfl) ?_
    refine lv_aload_n hx hb dL_law_242 rfl (lv_at hl 0 rfl) ?_
    refine lv_iload_n hx hb dL_law_243 rfl (lv_at hl 3 rfl) ?_
    refine lv_iconst (v := nI 1) hx hb dL_law_244 (by decide) ?_
    refine lv_iadd hx hb dL_law_245 ?_
    refine cs_top (y := nI (i + 1)) (nI_add i 1) ?_
    refine va_sld (i := nI (i + 1)) hx hb hX hbl hbA hS (vp_in_nI (by omega) (by omega)) dL_law_246 ?_
    refine cs_top (y := xs (i + 1)) (congrArg xs (nI_clamp (by omega))) ?_
    refine vp_callSi (W.runV (As := [.int (xs (i + 1))]) (rest := [.int (-2)]) ⟨hx, hb, hml, hown, hts⟩ (m_drop_out l dC dI om b1 b2 b3 e1 e2 e3 N c y z fo kn g1 g2 g3 hv) (cwV 1 hts gL_law_X1_drop rfl rfl rfl (by decide +kernel) ⟨by decide +kernel, by decide +kernel⟩) (rW_preV (hP.sub (ws' := (mC om b1 b2 b3 e1 e2 e3 (nI N) (nI c) (nI y) (nI z) fo kn g1 g2 g3)) [5, 6, 7, 8] rfl) (hK.sub (tys' := mT e1 e2 e3) [4, 5, 6] rfl) (va_recv (q := (RX1, TX1, 9)) (q0 := 5) hK hP rfl rfl)) rfl rfl hl.1 rfl (lv_room (Nat.le_of_ble_eq_true rfl)) dL_law_247 ⟨by decide +kernel, by decide +kernel⟩) (fun r0 hr0 => ?_)
    subst hr0
    refine lv_icmp_eq hx hb dL_law_250 (tgt := 304) (by decide) (fun _ => ?_) (fun hq => absurd (rfl) hq)
    exact kk H locs ls ⟨w, y, z, c, Y, Z, f1, f2, f3, f4, fo, kn, g1, g2, g3, ⟨hw, hy, hz, hc, hRX, hRM, hkn⟩, hP, hD, hS⟩ hl
  · obtain ⟨d, rfl⟩ : ∃ d, c = d + 1 := ⟨c - 1, by omega⟩
    refine lv_aload_n hx hb dL_law_232 rfl (lv_at hl 1 rfl) ?_
    refine lv_aload_n hx hb dL_law_233 rfl (lv_at hl 0 rfl) ?_
    refine lv_iload_n hx hb dL_law_234 rfl (lv_at hl 3 rfl) ?_
    refine lv_iconst (v := nI 1) hx hb dL_law_235 (by decide) ?_
    refine lv_iadd hx hb dL_law_236 ?_
    refine cs_top (y := nI (i + 1)) (nI_add i 1) ?_
    refine va_sld (i := nI (i + 1)) hx hb hX hbl hbA hS (vp_in_nI (by omega) (by omega)) dL_law_237 ?_
    refine cs_top (y := xs (i + 1)) (congrArg xs (nI_clamp (by omega))) ?_
    refine cs_top (y := nI j) (hv) ?_
    refine cs_calli (wc := (xC ox a1 a2 a3 a4 c1 c2 c3 c4 (nI N) (nI (N - 6)) (nI w) (nI y) (nI z) (nI (d + 1)) f1 f2 f3 f4)) (wr := (mC om b1 b2 b3 e1 e2 e3 (nI N) (nI (d + 1)) (nI y) (nI z) fo kn g1 g2 g3)) (va_runV (As := [.int (nI j)]) (rest := []) ⟨hx, hb, hml, hown, hts⟩ (c_drop l H.size dC dI ox a1 a2 a3 a4 c1 c2 c3 c4 N (N - 6) w y z d f1 f2 f3 f4 (by omega) hj) (cwV 1 hts gL_law_X0_drop rfl rfl rfl (by decide +kernel) ⟨by decide +kernel, by decide +kernel⟩) (wW_preV (hP.sub (ws' := (xC ox a1 a2 a3 a4 c1 c2 c3 c4 (nI N) (nI (N - 6)) (nI w) (nI y) (nI z) (nI (d + 1)) f1 f2 f3 f4)) [0, 1, 2, 3, 4] rfl) (hK.sub (tys' := xT c1 c2 c3 c4) [0, 1, 2, 3] rfl) (hD.sub (ws' := (xC ox a1 a2 a3 a4 c1 c2 c3 c4 (nI N) (nI (N - 6)) (nI w) (nI y) (nI z) (nI (d + 1)) f1 f2 f3 f4)) [0, 1, 2, 3, 4] (by decide) rfl) (va_recv (q := (RX0, TX0, 10)) (q0 := 0) hK hP rfl rfl)) rfl rfl hl.1 rfl (lv_room (Nat.le_of_ble_eq_true rfl)) dL_law_238 ⟨by decide +kernel, by decide +kernel⟩) hS hA hP hD [0, 1, 2, 3, 4] [5, 6, 7, 8] rfl rfl (by decide) (by decide) (fun r0 u H locs hr0 hP hD hS => ?_)
    have hP : va_P (dC, dI) vwCl ((mC om b1 b2 b3 e1 e2 e3 (nI N) (nI (d + 1)) (nI y) (nI z) fo kn g1 g2 g3) ++ (xC ox a1 a2 a3 a4 c1 c2 c3 c4 (nI N) (nI (N - 6)) (nI w) (nI y) (nI z) (nI d) (upd f1 j (f1 d)) (upd f2 j (f2 d)) (upd f3 j (f3 d)) (vp_updL f4 j (f4 d)))) H := hP
    have hD : va_D A ((mC om b1 b2 b3 e1 e2 e3 (nI N) (nI (d + 1)) (nI y) (nI z) fo kn g1 g2 g3) ++ (xC ox a1 a2 a3 a4 c1 c2 c3 c4 (nI N) (nI (N - 6)) (nI w) (nI y) (nI z) (nI d) (upd f1 j (f1 d)) (upd f2 j (f2 d)) (upd f3 j (f3 d)) (vp_updL f4 j (f4 d)))) := hD
    subst hr0
    refine lv_aload_n hx hb dL_law_241 rfl (lv_at hl 2 rfl) ?_
    refine lv_aload_n hx hb dL_law_242 rfl (lv_at hl 0 rfl) ?_
    refine lv_iload_n hx hb dL_law_243 rfl (lv_at hl 3 rfl) ?_
    refine lv_iconst (v := nI 1) hx hb dL_law_244 (by decide) ?_
    refine lv_iadd hx hb dL_law_245 ?_
    refine cs_top (y := nI (i + 1)) (nI_add i 1) ?_
    refine va_sld (i := nI (i + 1)) hx hb hX hbl hbA hS (vp_in_nI (by omega) (by omega)) dL_law_246 ?_
    refine cs_top (y := xs (i + 1)) (congrArg xs (nI_clamp (by omega))) ?_
    refine cs_top (y := nI j) (hv) ?_
    refine cs_calli (wc := (mC om b1 b2 b3 e1 e2 e3 (nI N) (nI (d + 1)) (nI y) (nI z) fo kn g1 g2 g3)) (wr := (xC ox a1 a2 a3 a4 c1 c2 c3 c4 (nI N) (nI (N - 6)) (nI w) (nI y) (nI z) (nI d) (upd f1 j (f1 d)) (upd f2 j (f2 d)) (upd f3 j (f3 d)) (vp_updL f4 j (f4 d)))) (va_runV (As := [.int (nI j)]) (rest := [.int (nI d)]) ⟨hx, hb, hml, hown, hts⟩ (m_drop l H.size dC dI om b1 b2 b3 e1 e2 e3 N d y z fo kn g1 g2 g3 (by omega) hj) (cwV 1 hts gL_law_X1_drop rfl rfl rfl (by decide +kernel) ⟨by decide +kernel, by decide +kernel⟩) (wW_preV (hP.sub (ws' := (mC om b1 b2 b3 e1 e2 e3 (nI N) (nI (d + 1)) (nI y) (nI z) fo kn g1 g2 g3)) [0, 1, 2, 3] rfl) (hK.sub (tys' := mT e1 e2 e3) [4, 5, 6] rfl) (hD.sub (ws' := (mC om b1 b2 b3 e1 e2 e3 (nI N) (nI (d + 1)) (nI y) (nI z) fo kn g1 g2 g3)) [0, 1, 2, 3] (by decide) rfl) (va_recv (q := (RX1, TX1, 9)) (q0 := 0) hK hP rfl rfl)) rfl rfl hl.1 rfl (lv_room (Nat.le_of_ble_eq_true rfl)) dL_law_247 ⟨by decide +kernel, by decide +kernel⟩) hS hA hP hD [0, 1, 2, 3] [4, 5, 6, 7, 8] rfl rfl (by decide) (by decide) (fun r0 u H locs hr0 hP hD hS => ?_)
    have hP : va_P (dC, dI) vwCl ((xC ox a1 a2 a3 a4 c1 c2 c3 c4 (nI N) (nI (N - 6)) (nI w) (nI y) (nI z) (nI d) (upd f1 j (f1 d)) (upd f2 j (f2 d)) (upd f3 j (f3 d)) (vp_updL f4 j (f4 d))) ++ (mC om b1 b2 b3 e1 e2 e3 (nI N) (nI d) (nI y) (nI z) fo (nI 0) g1 (upd g2 j (g2 d)) (upd g3 j (g3 d)))) H := hP
    have hD : va_D A ((xC ox a1 a2 a3 a4 c1 c2 c3 c4 (nI N) (nI (N - 6)) (nI w) (nI y) (nI z) (nI d) (upd f1 j (f1 d)) (upd f2 j (f2 d)) (upd f3 j (f3 d)) (vp_updL f4 j (f4 d))) ++ (mC om b1 b2 b3 e1 e2 e3 (nI N) (nI d) (nI y) (nI z) fo (nI 0) g1 (upd g2 j (g2 d)) (upd g3 j (g3 d)))) := hD
    subst hr0
    refine lv_icmp_eq hx hb dL_law_250 (tgt := 304) (by decide) (fun _ => ?_) (fun hq => absurd (rfl) hq)
    exact kk H locs ls ⟨w, y, z, d, ub Y j (Y d), ub Z j (Z d), upd f1 j (f1 d), upd f2 j (f2 d), upd f3 j (f3 d), vp_updL f4 j (f4 d), fo, nI 0, g1, upd g2 j (g2 d), upd g3 j (g3 d), ⟨hw, hy, hz, by omega, RX_drop hRX hj, RM_drop hRM hj, Or.inl rfl⟩, hP, hD, hS⟩ hl
set_option maxHeartbeats 4000000 in
set_option maxRecDepth 100000 in
theorem law_solve {p : Program} {e : Env} {s : State} {m : MethodId} {below : List Frame} {meth : Method} {c0 : Code} (l : Launch) {b L : Nat} {xs : Nat → Int32} {Q : State → Prop} {A : Nat → Prop} {dC : Nat → ClassId} {dI : Nat → Nat → Nat} {ox a1 a2 a3 a4 : Nat} {c1 c2 c3 c4 : ClassId} {om b1 b2 b3 : Nat} {e1 e2 e3 : ClassId} {tt N i : Nat} {H : Heap} {locs : List Loc} {ls : Array Slot} (hL : L ≤ 1537) (hx : p.tables.exec = Jvm.exec) (hb : c0.code = cL_law) (hml : c0.maxLocals = 4) (hown : s.vm.findClass RL = some m.cls) (hts : ∀ w ∈ wsL_law, w.before #[Value.ref b] s = true) (hX : va_X b L xs s s.heap) (hbl : b < s.heap.size) (hbA : ¬ A b) (hA : ∀ q : Nat, s.heap.size ≤ q → A q) (hT : tW RX0 "TAILS_WITH" "[J" tt 6 twv A s s.heap) (hK : va_K (dC, dI) vwCl (xT c1 c2 c3 c4 ++ mT e1 e2 e3) s) (hN : N ≤ 16) (hi : i + 2 < L) (hI : lwI dC dI ox a1 a2 a3 a4 c1 c2 c3 c4 om b1 b2 b3 e1 e2 e3 N A s.heap H locs) (hl : lv_has ls 4 [(0, .ref b), (1, .ref ox), (2, .ref om), (3, .int (nI i))]) (kk : ∀ (H : Heap) (locs : List Loc) (ls : Array Slot), lwI dC dI ox a1 a2 a3 a4 c1 c2 c3 c4 om b1 b2 b3 e1 e2 e3 N A s.heap H locs → lv_has ls 4 [(0, .ref b), (1, .ref ox), (2, .ref om), (3, .int (nI i))] → W p l e room_1 s m #[Value.ref b] below meth c0 H locs 9 2435 Q (F0 m 304 ls [])) : W p l e room_1 s m #[Value.ref b] below meth c0 H locs 9 2435 Q (F0 m 255 ls []) := by
  obtain ⟨w, y, z, c, Y, Z, f1, f2, f3, f4, fo, kn, g1, g2, g3, ⟨hw, hy, hz, hc, hRX, hRM, hkn⟩, hP, hD, hS⟩ := hI
  rcases hkn with hk | ⟨hk, hfo⟩
  · refine lv_aload_n hx hb dL_law_255 rfl (lv_at hl 1 rfl) ?_
    refine vp_callSi (W.runV (As := []) (rest := []) ⟨hx, hb, hml, hown, hts⟩ (c_solve l tt dC dI ox a1 a2 a3 a4 c1 c2 c3 c4 N (N - 6) w y z c f1 f2 f3 f4 hN rfl hw hc hRX) (cwV 0 hts gL_law_X0_solve rfl rfl rfl (by decide +kernel) ⟨by decide +kernel, by decide +kernel⟩) (rT_preV (hP.sub (ws' := (xC ox a1 a2 a3 a4 c1 c2 c3 c4 (nI N) (nI (N - 6)) (nI w) (nI y) (nI z) (nI c) f1 f2 f3 f4)) [0, 1, 2, 3, 4] rfl) (hK.sub (tys' := xT c1 c2 c3 c4) [0, 1, 2, 3] rfl) (hT.kept hS.2.1) (va_recv (q := (RX0, TX0, 10)) (q0 := 0) hK hP rfl rfl)) rfl rfl hl.1 rfl (lv_room (Nat.le_of_ble_eq_true rfl)) dL_law_256 ⟨by decide +kernel, by decide +kernel⟩) (fun rx hrx => ?_)
    rw [PX_both (RX_lt hRX) hw] at hrx
    refine lv_aload_n hx hb dL_law_259 rfl (lv_at hl 2 rfl) ?_
    refine cs_calli (wc := (mC om b1 b2 b3 e1 e2 e3 (nI N) (nI c) (nI y) (nI z) fo kn g1 g2 g3)) (wr := (xC ox a1 a2 a3 a4 c1 c2 c3 c4 (nI N) (nI (N - 6)) (nI w) (nI y) (nI z) (nI c) f1 f2 f3 f4)) (va_runV (As := []) (rest := [.int rx]) ⟨hx, hb, hml, hown, hts⟩ (m_solve l H.size dC dI om b1 b2 b3 e1 e2 e3 N c y z fo kn g1 g2 g3 hRM.2 (RX_lt hRX) hc hN hRM.1 hk) (cwV 0 hts gL_law_X1_solve rfl rfl rfl (by decide +kernel) ⟨by decide +kernel, by decide +kernel⟩) (wW_preV (hP.sub (ws' := (mC om b1 b2 b3 e1 e2 e3 (nI N) (nI c) (nI y) (nI z) fo kn g1 g2 g3)) [5, 6, 7, 8] rfl) (hK.sub (tys' := mT e1 e2 e3) [4, 5, 6] rfl) (hD.sub (ws' := (mC om b1 b2 b3 e1 e2 e3 (nI N) (nI c) (nI y) (nI z) fo kn g1 g2 g3)) [5, 6, 7, 8] (by decide) rfl) (va_recv (q := (RX1, TX1, 9)) (q0 := 5) hK hP rfl rfl)) rfl rfl hl.1 rfl (lv_room (Nat.le_of_ble_eq_true rfl)) dL_law_260 ⟨by decide +kernel, by decide +kernel⟩) hS hA hP hD [5, 6, 7, 8] [0, 1, 2, 3, 4] rfl rfl (by decide) (by decide) (fun rm u H locs hrm hP hD hS => ?_)
    have hP : va_P (dC, dI) vwCl ((xC ox a1 a2 a3 a4 c1 c2 c3 c4 (nI N) (nI (N - 6)) (nI w) (nI y) (nI z) (nI c) f1 f2 f3 f4) ++ (mC om b1 b2 b3 e1 e2 e3 (nI N) (nI c) (nI y) (nI z) (rs (fs (PX c Y Z) w N 0 0)) (nI 1) g1 g2 g3)) H := hP
    have hD : va_D A ((xC ox a1 a2 a3 a4 c1 c2 c3 c4 (nI N) (nI (N - 6)) (nI w) (nI y) (nI z) (nI c) f1 f2 f3 f4) ++ (mC om b1 b2 b3 e1 e2 e3 (nI N) (nI c) (nI y) (nI z) (rs (fs (PX c Y Z) w N 0 0)) (nI 1) g1 g2 g3)) := hD
    refine lv_icmp_eq hx hb dL_law_263 (tgt := 304) (by decide) (fun _ => ?_) (fun hq => absurd (sv_eq (sv_V hN) hrx hrm) hq)
    exact kk H locs ls ⟨w, y, z, c, Y, Z, f1, f2, f3, f4, rs (fs (PX c Y Z) w N 0 0), nI 1, g1, g2, g3, ⟨hw, hy, hz, hc, hRX, hRM, Or.inr ⟨rfl, rfl⟩⟩, hP, hD, hS⟩ hl
  · refine lv_aload_n hx hb dL_law_255 rfl (lv_at hl 1 rfl) ?_
    refine vp_callSi (W.runV (As := []) (rest := []) ⟨hx, hb, hml, hown, hts⟩ (c_solve l tt dC dI ox a1 a2 a3 a4 c1 c2 c3 c4 N (N - 6) w y z c f1 f2 f3 f4 hN rfl hw hc hRX) (cwV 0 hts gL_law_X0_solve rfl rfl rfl (by decide +kernel) ⟨by decide +kernel, by decide +kernel⟩) (rT_preV (hP.sub (ws' := (xC ox a1 a2 a3 a4 c1 c2 c3 c4 (nI N) (nI (N - 6)) (nI w) (nI y) (nI z) (nI c) f1 f2 f3 f4)) [0, 1, 2, 3, 4] rfl) (hK.sub (tys' := xT c1 c2 c3 c4) [0, 1, 2, 3] rfl) (hT.kept hS.2.1) (va_recv (q := (RX0, TX0, 10)) (q0 := 0) hK hP rfl rfl)) rfl rfl hl.1 rfl (lv_room (Nat.le_of_ble_eq_true rfl)) dL_law_256 ⟨by decide +kernel, by decide +kernel⟩) (fun rx hrx => ?_)
    rw [PX_both (RX_lt hRX) hw] at hrx
    refine lv_aload_n hx hb dL_law_259 rfl (lv_at hl 2 rfl) ?_
    refine cs_calli (wc := (mC om b1 b2 b3 e1 e2 e3 (nI N) (nI c) (nI y) (nI z) fo kn g1 g2 g3)) (wr := (xC ox a1 a2 a3 a4 c1 c2 c3 c4 (nI N) (nI (N - 6)) (nI w) (nI y) (nI z) (nI c) f1 f2 f3 f4)) (va_runV (As := []) (rest := [.int rx]) ⟨hx, hb, hml, hown, hts⟩ (m_solve_k l H.size dC dI om b1 b2 b3 e1 e2 e3 N c y z fo kn g1 g2 g3 hk) (cwV 0 hts gL_law_X1_solve rfl rfl rfl (by decide +kernel) ⟨by decide +kernel, by decide +kernel⟩) (wW_preV (hP.sub (ws' := (mC om b1 b2 b3 e1 e2 e3 (nI N) (nI c) (nI y) (nI z) fo kn g1 g2 g3)) [5, 6, 7, 8] rfl) (hK.sub (tys' := mT e1 e2 e3) [4, 5, 6] rfl) (hD.sub (ws' := (mC om b1 b2 b3 e1 e2 e3 (nI N) (nI c) (nI y) (nI z) fo kn g1 g2 g3)) [5, 6, 7, 8] (by decide) rfl) (va_recv (q := (RX1, TX1, 9)) (q0 := 5) hK hP rfl rfl)) rfl rfl hl.1 rfl (lv_room (Nat.le_of_ble_eq_true rfl)) dL_law_260 ⟨by decide +kernel, by decide +kernel⟩) hS hA hP hD [5, 6, 7, 8] [0, 1, 2, 3, 4] rfl rfl (by decide) (by decide) (fun rm u H locs hrm hP hD hS => ?_)
    have hP : va_P (dC, dI) vwCl ((xC ox a1 a2 a3 a4 c1 c2 c3 c4 (nI N) (nI (N - 6)) (nI w) (nI y) (nI z) (nI c) f1 f2 f3 f4) ++ (mC om b1 b2 b3 e1 e2 e3 (nI N) (nI c) (nI y) (nI z) fo (nI 1) g1 g2 g3)) H := hP
    have hD : va_D A ((xC ox a1 a2 a3 a4 c1 c2 c3 c4 (nI N) (nI (N - 6)) (nI w) (nI y) (nI z) (nI c) f1 f2 f3 f4) ++ (mC om b1 b2 b3 e1 e2 e3 (nI N) (nI c) (nI y) (nI z) fo (nI 1) g1 g2 g3)) := hD
    refine lv_icmp_eq hx hb dL_law_263 (tgt := 304) (by decide) (fun _ => ?_) (fun hq => absurd (sv_eq (sv_V hN) hrx (by rw [hfo] at hrm; exact hrm)) hq)
    exact kk H locs ls ⟨w, y, z, c, Y, Z, f1, f2, f3, f4, fo, nI 1, g1, g2, g3, ⟨hw, hy, hz, hc, hRX, hRM, Or.inr ⟨rfl, hfo⟩⟩, hP, hD, hS⟩ hl
set_option maxHeartbeats 4000000 in
set_option maxRecDepth 100000 in
theorem law_answer {p : Program} {e : Env} {s : State} {m : MethodId} {below : List Frame} {meth : Method} {c0 : Code} (l : Launch) {b L : Nat} {xs : Nat → Int32} {Q : State → Prop} {A : Nat → Prop} {dC : Nat → ClassId} {dI : Nat → Nat → Nat} {ox a1 a2 a3 a4 : Nat} {c1 c2 c3 c4 : ClassId} {om b1 b2 b3 : Nat} {e1 e2 e3 : ClassId} {tt N i : Nat} {H : Heap} {locs : List Loc} {ls : Array Slot} (hL : L ≤ 1537) (hx : p.tables.exec = Jvm.exec) (hb : c0.code = cL_law) (hml : c0.maxLocals = 4) (hown : s.vm.findClass RL = some m.cls) (hts : ∀ w ∈ wsL_law, w.before #[Value.ref b] s = true) (hX : va_X b L xs s s.heap) (hbl : b < s.heap.size) (hbA : ¬ A b) (hA : ∀ q : Nat, s.heap.size ≤ q → A q) (hT : tW RX0 "TAILS_WITH" "[J" tt 6 twv A s s.heap) (hK : va_K (dC, dI) vwCl (xT c1 c2 c3 c4 ++ mT e1 e2 e3) s) (hN : N ≤ 16) (hi : i + 2 < L) (hI : lwI dC dI ox a1 a2 a3 a4 c1 c2 c3 c4 om b1 b2 b3 e1 e2 e3 N A s.heap H locs) (hl : lv_has ls 4 [(0, .ref b), (1, .ref ox), (2, .ref om), (3, .int (nI i))]) (kk : ∀ (H : Heap) (locs : List Loc) (ls : Array Slot), lwI dC dI ox a1 a2 a3 a4 c1 c2 c3 c4 om b1 b2 b3 e1 e2 e3 N A s.heap H locs → lv_has ls 4 [(0, .ref b), (1, .ref ox), (2, .ref om), (3, .int (nI i))] → W p l e room_1 s m #[Value.ref b] below meth c0 H locs 9 2435 Q (F0 m 304 ls [])) : W p l e room_1 s m #[Value.ref b] below meth c0 H locs 9 2435 Q (F0 m 268 ls []) := by
  obtain ⟨w, y, z, c, Y, Z, f1, f2, f3, f4, fo, kn, g1, g2, g3, ⟨hw, hy, hz, hc, hRX, hRM, hkn⟩, hP, hD, hS⟩ := hI
  rcases hkn with hk | ⟨hk, hfo⟩
  · refine lv_aload_n hx hb dL_law_268 rfl (lv_at hl 1 rfl) ?_
    refine vp_callSi (W.runV (As := []) (rest := []) ⟨hx, hb, hml, hown, hts⟩ (c_answer l tt dC dI ox a1 a2 a3 a4 c1 c2 c3 c4 N (N - 6) w y z c f1 f2 f3 f4 hN rfl hw hc hRX) (cwV 0 hts gL_law_X0_answer rfl rfl rfl (by decide +kernel) ⟨by decide +kernel, by decide +kernel⟩) (rT_preV (hP.sub (ws' := (xC ox a1 a2 a3 a4 c1 c2 c3 c4 (nI N) (nI (N - 6)) (nI w) (nI y) (nI z) (nI c) f1 f2 f3 f4)) [0, 1, 2, 3, 4] rfl) (hK.sub (tys' := xT c1 c2 c3 c4) [0, 1, 2, 3] rfl) (hT.kept hS.2.1) (va_recv (q := (RX0, TX0, 10)) (q0 := 0) hK hP rfl rfl)) rfl rfl hl.1 rfl (lv_room (Nat.le_of_ble_eq_true rfl)) dL_law_269 ⟨by decide +kernel, by decide +kernel⟩) (fun rx hrx => ?_)
    rw [PX_both (RX_lt hRX) hw] at hrx
    subst hrx
    refine lv_aload_n hx hb dL_law_272 rfl (lv_at hl 2 rfl) ?_
    refine cs_calli (wc := (mC om b1 b2 b3 e1 e2 e3 (nI N) (nI c) (nI y) (nI z) fo kn g1 g2 g3)) (wr := (xC ox a1 a2 a3 a4 c1 c2 c3 c4 (nI N) (nI (N - 6)) (nI w) (nI y) (nI z) (nI c) f1 f2 f3 f4)) (va_runV (As := []) (rest := [.int (rs (fs (PX c Y Z) w N 0 0))]) ⟨hx, hb, hml, hown, hts⟩ (m_answer l H.size dC dI om b1 b2 b3 e1 e2 e3 N c y z fo kn g1 g2 g3 hRM.2 (RX_lt hRX) hc hN hRM.1 hk) (cwV 0 hts gL_law_X1_answer rfl rfl rfl (by decide +kernel) ⟨by decide +kernel, by decide +kernel⟩) (wW_preV (hP.sub (ws' := (mC om b1 b2 b3 e1 e2 e3 (nI N) (nI c) (nI y) (nI z) fo kn g1 g2 g3)) [5, 6, 7, 8] rfl) (hK.sub (tys' := mT e1 e2 e3) [4, 5, 6] rfl) (hD.sub (ws' := (mC om b1 b2 b3 e1 e2 e3 (nI N) (nI c) (nI y) (nI z) fo kn g1 g2 g3)) [5, 6, 7, 8] (by decide) rfl) (va_recv (q := (RX1, TX1, 9)) (q0 := 5) hK hP rfl rfl)) rfl rfl hl.1 rfl (lv_room (Nat.le_of_ble_eq_true rfl)) dL_law_273 ⟨by decide +kernel, by decide +kernel⟩) hS hA hP hD [5, 6, 7, 8] [0, 1, 2, 3, 4] rfl rfl (by decide) (by decide) (fun rm u H locs hrm hP hD hS => ?_)
    have hP : va_P (dC, dI) vwCl ((xC ox a1 a2 a3 a4 c1 c2 c3 c4 (nI N) (nI (N - 6)) (nI w) (nI y) (nI z) (nI c) f1 f2 f3 f4) ++ (mC om b1 b2 b3 e1 e2 e3 (nI N) (nI c) (nI y) (nI z) (rs (fs (PX c Y Z) w N 0 0)) (nI 1) g1 g2 g3)) H := hP
    have hD : va_D A ((xC ox a1 a2 a3 a4 c1 c2 c3 c4 (nI N) (nI (N - 6)) (nI w) (nI y) (nI z) (nI c) f1 f2 f3 f4) ++ (mC om b1 b2 b3 e1 e2 e3 (nI N) (nI c) (nI y) (nI z) (rs (fs (PX c Y Z) w N 0 0)) (nI 1) g1 g2 g3)) := hD
    subst hrm
    refine lv_icmp_eq hx hb dL_law_276 (tgt := 304) (by decide) (fun _ => ?_) (fun hq => absurd (rfl) hq)
    exact kk H locs ls ⟨w, y, z, c, Y, Z, f1, f2, f3, f4, rs (fs (PX c Y Z) w N 0 0), nI 1, g1, g2, g3, ⟨hw, hy, hz, hc, hRX, hRM, Or.inr ⟨rfl, rfl⟩⟩, hP, hD, hS⟩ hl
  · refine lv_aload_n hx hb dL_law_268 rfl (lv_at hl 1 rfl) ?_
    refine vp_callSi (W.runV (As := []) (rest := []) ⟨hx, hb, hml, hown, hts⟩ (c_answer l tt dC dI ox a1 a2 a3 a4 c1 c2 c3 c4 N (N - 6) w y z c f1 f2 f3 f4 hN rfl hw hc hRX) (cwV 0 hts gL_law_X0_answer rfl rfl rfl (by decide +kernel) ⟨by decide +kernel, by decide +kernel⟩) (rT_preV (hP.sub (ws' := (xC ox a1 a2 a3 a4 c1 c2 c3 c4 (nI N) (nI (N - 6)) (nI w) (nI y) (nI z) (nI c) f1 f2 f3 f4)) [0, 1, 2, 3, 4] rfl) (hK.sub (tys' := xT c1 c2 c3 c4) [0, 1, 2, 3] rfl) (hT.kept hS.2.1) (va_recv (q := (RX0, TX0, 10)) (q0 := 0) hK hP rfl rfl)) rfl rfl hl.1 rfl (lv_room (Nat.le_of_ble_eq_true rfl)) dL_law_269 ⟨by decide +kernel, by decide +kernel⟩) (fun rx hrx => ?_)
    rw [PX_both (RX_lt hRX) hw] at hrx
    subst hrx
    refine lv_aload_n hx hb dL_law_272 rfl (lv_at hl 2 rfl) ?_
    refine cs_calli (wc := (mC om b1 b2 b3 e1 e2 e3 (nI N) (nI c) (nI y) (nI z) fo kn g1 g2 g3)) (wr := (xC ox a1 a2 a3 a4 c1 c2 c3 c4 (nI N) (nI (N - 6)) (nI w) (nI y) (nI z) (nI c) f1 f2 f3 f4)) (va_runV (As := []) (rest := [.int (rs (fs (PX c Y Z) w N 0 0))]) ⟨hx, hb, hml, hown, hts⟩ (m_answer_k l H.size dC dI om b1 b2 b3 e1 e2 e3 N c y z fo kn g1 g2 g3 hk) (cwV 0 hts gL_law_X1_answer rfl rfl rfl (by decide +kernel) ⟨by decide +kernel, by decide +kernel⟩) (wW_preV (hP.sub (ws' := (mC om b1 b2 b3 e1 e2 e3 (nI N) (nI c) (nI y) (nI z) fo kn g1 g2 g3)) [5, 6, 7, 8] rfl) (hK.sub (tys' := mT e1 e2 e3) [4, 5, 6] rfl) (hD.sub (ws' := (mC om b1 b2 b3 e1 e2 e3 (nI N) (nI c) (nI y) (nI z) fo kn g1 g2 g3)) [5, 6, 7, 8] (by decide) rfl) (va_recv (q := (RX1, TX1, 9)) (q0 := 5) hK hP rfl rfl)) rfl rfl hl.1 rfl (lv_room (Nat.le_of_ble_eq_true rfl)) dL_law_273 ⟨by decide +kernel, by decide +kernel⟩) hS hA hP hD [5, 6, 7, 8] [0, 1, 2, 3, 4] rfl rfl (by decide) (by decide) (fun rm u H locs hrm hP hD hS => ?_)
    have hP : va_P (dC, dI) vwCl ((xC ox a1 a2 a3 a4 c1 c2 c3 c4 (nI N) (nI (N - 6)) (nI w) (nI y) (nI z) (nI c) f1 f2 f3 f4) ++ (mC om b1 b2 b3 e1 e2 e3 (nI N) (nI c) (nI y) (nI z) fo (nI 1) g1 g2 g3)) H := hP
    have hD : va_D A ((xC ox a1 a2 a3 a4 c1 c2 c3 c4 (nI N) (nI (N - 6)) (nI w) (nI y) (nI z) (nI c) f1 f2 f3 f4) ++ (mC om b1 b2 b3 e1 e2 e3 (nI N) (nI c) (nI y) (nI z) fo (nI 1) g1 g2 g3)) := hD
    refine lv_icmp_eq hx hb dL_law_276 (tgt := 304) (by decide) (fun _ => ?_) (fun hq => absurd ((hrm.trans hfo).symm) hq)
    exact kk H locs ls ⟨w, y, z, c, Y, Z, f1, f2, f3, f4, fo, nI 1, g1, g2, g3, ⟨hw, hy, hz, hc, hRX, hRM, Or.inr ⟨rfl, hfo⟩⟩, hP, hD, hS⟩ hl
set_option maxHeartbeats 4000000 in
set_option maxRecDepth 100000 in
theorem law_count {p : Program} {e : Env} {s : State} {m : MethodId} {below : List Frame} {meth : Method} {c0 : Code} (l : Launch) {b L : Nat} {xs : Nat → Int32} {Q : State → Prop} {A : Nat → Prop} {dC : Nat → ClassId} {dI : Nat → Nat → Nat} {ox a1 a2 a3 a4 : Nat} {c1 c2 c3 c4 : ClassId} {om b1 b2 b3 : Nat} {e1 e2 e3 : ClassId} {tt N i : Nat} {H : Heap} {locs : List Loc} {ls : Array Slot} (hL : L ≤ 1537) (hx : p.tables.exec = Jvm.exec) (hb : c0.code = cL_law) (hml : c0.maxLocals = 4) (hown : s.vm.findClass RL = some m.cls) (hts : ∀ w ∈ wsL_law, w.before #[Value.ref b] s = true) (hX : va_X b L xs s s.heap) (hbl : b < s.heap.size) (hbA : ¬ A b) (hA : ∀ q : Nat, s.heap.size ≤ q → A q) (hT : tW RX0 "TAILS_WITH" "[J" tt 6 twv A s s.heap) (hK : va_K (dC, dI) vwCl (xT c1 c2 c3 c4 ++ mT e1 e2 e3) s) (hN : N ≤ 16) (hi : i + 2 < L) (hI : lwI dC dI ox a1 a2 a3 a4 c1 c2 c3 c4 om b1 b2 b3 e1 e2 e3 N A s.heap H locs) (hl : lv_has ls 4 [(0, .ref b), (1, .ref ox), (2, .ref om), (3, .int (nI i))]) (kk : ∀ (H : Heap) (locs : List Loc) (ls : Array Slot), lwI dC dI ox a1 a2 a3 a4 c1 c2 c3 c4 om b1 b2 b3 e1 e2 e3 N A s.heap H locs → lv_has ls 4 [(0, .ref b), (1, .ref ox), (2, .ref om), (3, .int (nI i))] → W p l e room_1 s m #[Value.ref b] below meth c0 H locs 9 2435 Q (F0 m 304 ls [])) : W p l e room_1 s m #[Value.ref b] below meth c0 H locs 9 2435 Q (F0 m 281 ls []) := by
  obtain ⟨w, y, z, c, Y, Z, f1, f2, f3, f4, fo, kn, g1, g2, g3, ⟨hw, hy, hz, hc, hRX, hRM, hkn⟩, hP, hD, hS⟩ := hI
  rcases ct_c (xs (i + 1)) with hv | hv | hv | hv
  · refine lv_aload_n hx hb dL_law_281 rfl (lv_at hl 1 rfl) ?_
    refine lv_aload_n hx hb dL_law_282 rfl (lv_at hl 0 rfl) ?_
    refine lv_iload_n hx hb dL_law_283 rfl (lv_at hl 3 rfl) ?_
    refine lv_iconst (v := nI 1) hx hb dL_law_284 (by decide) ?_
    refine lv_iadd hx hb dL_law_285 ?_
    refine cs_top (y := nI (i + 1)) (nI_add i 1) ?_
    refine va_sld (i := nI (i + 1)) hx hb hX hbl hbA hS (vp_in_nI (by omega) (by omega)) dL_law_286 ?_
    refine cs_top (y := xs (i + 1)) (congrArg xs (nI_clamp (by omega))) ?_
    refine cs_top (y := nI 0) (hv) ?_
    refine vp_callSi (W.runV (As := [.int (nI 0)]) (rest := []) ⟨hx, hb, hml, hown, hts⟩ (c_count0 l dC dI ox a1 a2 a3 a4 c1 c2 c3 c4 N (N - 6) w y z c f1 f2 f3 f4 hN hy hz) (cwV 1 hts gL_law_X0_count rfl rfl rfl (by decide +kernel) ⟨by decide +kernel, by decide +kernel⟩) (rW_preV (hP.sub (ws' := (xC ox a1 a2 a3 a4 c1 c2 c3 c4 (nI N) (nI (N - 6)) (nI w) (nI y) (nI z) (nI c) f1 f2 f3 f4)) [0, 1, 2, 3, 4] rfl) (hK.sub (tys' := xT c1 c2 c3 c4) [0, 1, 2, 3] rfl) (va_recv (q := (RX0, TX0, 10)) (q0 := 0) hK hP rfl rfl)) rfl rfl hl.1 rfl (lv_room (Nat.le_of_ble_eq_true rfl)) dL_law_287 ⟨by decide +kernel, by decide +kernel⟩) (fun r0 hr0 => ?_)
    subst hr0
    refine lv_aload_n hx hb dL_law_290 rfl (lv_at hl 2 rfl) ?_
    refine lv_aload_n hx hb dL_law_291 rfl (lv_at hl 0 rfl) ?_
    refine lv_iload_n hx hb dL_law_292 rfl (lv_at hl 3 rfl) ?_
    refine lv_iconst (v := nI 1) hx hb dL_law_293 (by decide) ?_
    refine lv_iadd hx hb dL_law_294 ?_
    refine cs_top (y := nI (i + 1)) (nI_add i 1) ?_
    refine va_sld (i := nI (i + 1)) hx hb hX hbl hbA hS (vp_in_nI (by omega) (by omega)) dL_law_295 ?_
    refine cs_top (y := xs (i + 1)) (congrArg xs (nI_clamp (by omega))) ?_
    refine cs_top (y := nI 0) (hv) ?_
    refine vp_callSi (W.runV (As := [.int (nI 0)]) (rest := [.int (nI N)]) ⟨hx, hb, hml, hown, hts⟩ (m_count0 l dC dI om b1 b2 b3 e1 e2 e3 N c y z fo kn g1 g2 g3 hN hy hz) (cwV 1 hts gL_law_X1_count rfl rfl rfl (by decide +kernel) ⟨by decide +kernel, by decide +kernel⟩) (rW_preV (hP.sub (ws' := (mC om b1 b2 b3 e1 e2 e3 (nI N) (nI c) (nI y) (nI z) fo kn g1 g2 g3)) [5, 6, 7, 8] rfl) (hK.sub (tys' := mT e1 e2 e3) [4, 5, 6] rfl) (va_recv (q := (RX1, TX1, 9)) (q0 := 5) hK hP rfl rfl)) rfl rfl hl.1 rfl (lv_room (Nat.le_of_ble_eq_true rfl)) dL_law_296 ⟨by decide +kernel, by decide +kernel⟩) (fun r0 hr0 => ?_)
    subst hr0
    refine lv_icmp_eq hx hb dL_law_299 (tgt := 304) (by decide) (fun _ => ?_) (fun hq => absurd (rfl) hq)
    exact kk H locs ls ⟨w, y, z, c, Y, Z, f1, f2, f3, f4, fo, kn, g1, g2, g3, ⟨hw, hy, hz, hc, hRX, hRM, hkn⟩, hP, hD, hS⟩ hl
  · refine lv_aload_n hx hb dL_law_281 rfl (lv_at hl 1 rfl) ?_
    refine lv_aload_n hx hb dL_law_282 rfl (lv_at hl 0 rfl) ?_
    refine lv_iload_n hx hb dL_law_283 rfl (lv_at hl 3 rfl) ?_
    refine lv_iconst (v := nI 1) hx hb dL_law_284 (by decide) ?_
    refine lv_iadd hx hb dL_law_285 ?_
    refine cs_top (y := nI (i + 1)) (nI_add i 1) ?_
    refine va_sld (i := nI (i + 1)) hx hb hX hbl hbA hS (vp_in_nI (by omega) (by omega)) dL_law_286 ?_
    refine cs_top (y := xs (i + 1)) (congrArg xs (nI_clamp (by omega))) ?_
    refine cs_top (y := nI 1) (hv) ?_
    refine vp_callSi (W.runV (As := [.int (nI 1)]) (rest := []) ⟨hx, hb, hml, hown, hts⟩ (c_count1 l dC dI ox a1 a2 a3 a4 c1 c2 c3 c4 N (N - 6) w y z c f1 f2 f3 f4 hN hy hz) (cwV 1 hts gL_law_X0_count rfl rfl rfl (by decide +kernel) ⟨by decide +kernel, by decide +kernel⟩) (rW_preV (hP.sub (ws' := (xC ox a1 a2 a3 a4 c1 c2 c3 c4 (nI N) (nI (N - 6)) (nI w) (nI y) (nI z) (nI c) f1 f2 f3 f4)) [0, 1, 2, 3, 4] rfl) (hK.sub (tys' := xT c1 c2 c3 c4) [0, 1, 2, 3] rfl) (va_recv (q := (RX0, TX0, 10)) (q0 := 0) hK hP rfl rfl)) rfl rfl hl.1 rfl (lv_room (Nat.le_of_ble_eq_true rfl)) dL_law_287 ⟨by decide +kernel, by decide +kernel⟩) (fun r0 hr0 => ?_)
    subst hr0
    refine lv_aload_n hx hb dL_law_290 rfl (lv_at hl 2 rfl) ?_
    refine lv_aload_n hx hb dL_law_291 rfl (lv_at hl 0 rfl) ?_
    refine lv_iload_n hx hb dL_law_292 rfl (lv_at hl 3 rfl) ?_
    refine lv_iconst (v := nI 1) hx hb dL_law_293 (by decide) ?_
    refine lv_iadd hx hb dL_law_294 ?_
    refine cs_top (y := nI (i + 1)) (nI_add i 1) ?_
    refine va_sld (i := nI (i + 1)) hx hb hX hbl hbA hS (vp_in_nI (by omega) (by omega)) dL_law_295 ?_
    refine cs_top (y := xs (i + 1)) (congrArg xs (nI_clamp (by omega))) ?_
    refine cs_top (y := nI 1) (hv) ?_
    refine vp_callSi (W.runV (As := [.int (nI 1)]) (rest := [.int (nI c)]) ⟨hx, hb, hml, hown, hts⟩ (m_count1 l dC dI om b1 b2 b3 e1 e2 e3 N c y z fo kn g1 g2 g3 hN hy hz) (cwV 1 hts gL_law_X1_count rfl rfl rfl (by decide +kernel) ⟨by decide +kernel, by decide +kernel⟩) (rW_preV (hP.sub (ws' := (mC om b1 b2 b3 e1 e2 e3 (nI N) (nI c) (nI y) (nI z) fo kn g1 g2 g3)) [5, 6, 7, 8] rfl) (hK.sub (tys' := mT e1 e2 e3) [4, 5, 6] rfl) (va_recv (q := (RX1, TX1, 9)) (q0 := 5) hK hP rfl rfl)) rfl rfl hl.1 rfl (lv_room (Nat.le_of_ble_eq_true rfl)) dL_law_296 ⟨by decide +kernel, by decide +kernel⟩) (fun r0 hr0 => ?_)
    subst hr0
    refine lv_icmp_eq hx hb dL_law_299 (tgt := 304) (by decide) (fun _ => ?_) (fun hq => absurd (rfl) hq)
    exact kk H locs ls ⟨w, y, z, c, Y, Z, f1, f2, f3, f4, fo, kn, g1, g2, g3, ⟨hw, hy, hz, hc, hRX, hRM, hkn⟩, hP, hD, hS⟩ hl
  · refine lv_aload_n hx hb dL_law_281 rfl (lv_at hl 1 rfl) ?_
    refine lv_aload_n hx hb dL_law_282 rfl (lv_at hl 0 rfl) ?_
    refine lv_iload_n hx hb dL_law_283 rfl (lv_at hl 3 rfl) ?_
    refine lv_iconst (v := nI 1) hx hb dL_law_284 (by decide) ?_
    refine lv_iadd hx hb dL_law_285 ?_
    refine cs_top (y := nI (i + 1)) (nI_add i 1) ?_
    refine va_sld (i := nI (i + 1)) hx hb hX hbl hbA hS (vp_in_nI (by omega) (by omega)) dL_law_286 ?_
    refine cs_top (y := xs (i + 1)) (congrArg xs (nI_clamp (by omega))) ?_
    refine cs_top (y := nI 2) (hv) ?_
    refine vp_callSi (W.runV (As := [.int (nI 2)]) (rest := []) ⟨hx, hb, hml, hown, hts⟩ (c_count2 l dC dI ox a1 a2 a3 a4 c1 c2 c3 c4 N (N - 6) w y z c f1 f2 f3 f4 hN hy hz) (cwV 1 hts gL_law_X0_count rfl rfl rfl (by decide +kernel) ⟨by decide +kernel, by decide +kernel⟩) (rW_preV (hP.sub (ws' := (xC ox a1 a2 a3 a4 c1 c2 c3 c4 (nI N) (nI (N - 6)) (nI w) (nI y) (nI z) (nI c) f1 f2 f3 f4)) [0, 1, 2, 3, 4] rfl) (hK.sub (tys' := xT c1 c2 c3 c4) [0, 1, 2, 3] rfl) (va_recv (q := (RX0, TX0, 10)) (q0 := 0) hK hP rfl rfl)) rfl rfl hl.1 rfl (lv_room (Nat.le_of_ble_eq_true rfl)) dL_law_287 ⟨by decide +kernel, by decide +kernel⟩) (fun r0 hr0 => ?_)
    subst hr0
    refine lv_aload_n hx hb dL_law_290 rfl (lv_at hl 2 rfl) ?_
    refine lv_aload_n hx hb dL_law_291 rfl (lv_at hl 0 rfl) ?_
    refine lv_iload_n hx hb dL_law_292 rfl (lv_at hl 3 rfl) ?_
    refine lv_iconst (v := nI 1) hx hb dL_law_293 (by decide) ?_
    refine lv_iadd hx hb dL_law_294 ?_
    refine cs_top (y := nI (i + 1)) (nI_add i 1) ?_
    refine va_sld (i := nI (i + 1)) hx hb hX hbl hbA hS (vp_in_nI (by omega) (by omega)) dL_law_295 ?_
    refine cs_top (y := xs (i + 1)) (congrArg xs (nI_clamp (by omega))) ?_
    refine cs_top (y := nI 2) (hv) ?_
    refine vp_callSi (W.runV (As := [.int (nI 2)]) (rest := [.int (nI (pcs y 16 + pcs z 16))]) ⟨hx, hb, hml, hown, hts⟩ (m_count2 l dC dI om b1 b2 b3 e1 e2 e3 N c y z fo kn g1 g2 g3 hN hy hz) (cwV 1 hts gL_law_X1_count rfl rfl rfl (by decide +kernel) ⟨by decide +kernel, by decide +kernel⟩) (rW_preV (hP.sub (ws' := (mC om b1 b2 b3 e1 e2 e3 (nI N) (nI c) (nI y) (nI z) fo kn g1 g2 g3)) [5, 6, 7, 8] rfl) (hK.sub (tys' := mT e1 e2 e3) [4, 5, 6] rfl) (va_recv (q := (RX1, TX1, 9)) (q0 := 5) hK hP rfl rfl)) rfl rfl hl.1 rfl (lv_room (Nat.le_of_ble_eq_true rfl)) dL_law_296 ⟨by decide +kernel, by decide +kernel⟩) (fun r0 hr0 => ?_)
    subst hr0
    refine lv_icmp_eq hx hb dL_law_299 (tgt := 304) (by decide) (fun _ => ?_) (fun hq => absurd (rfl) hq)
    exact kk H locs ls ⟨w, y, z, c, Y, Z, f1, f2, f3, f4, fo, kn, g1, g2, g3, ⟨hw, hy, hz, hc, hRX, hRM, hkn⟩, hP, hD, hS⟩ hl
  · refine lv_aload_n hx hb dL_law_281 rfl (lv_at hl 1 rfl) ?_
    refine lv_aload_n hx hb dL_law_282 rfl (lv_at hl 0 rfl) ?_
    refine lv_iload_n hx hb dL_law_283 rfl (lv_at hl 3 rfl) ?_
    refine lv_iconst (v := nI 1) hx hb dL_law_284 (by decide) ?_
    refine lv_iadd hx hb dL_law_285 ?_
    refine cs_top (y := nI (i + 1)) (nI_add i 1) ?_
    refine va_sld (i := nI (i + 1)) hx hb hX hbl hbA hS (vp_in_nI (by omega) (by omega)) dL_law_286 ?_
    refine cs_top (y := xs (i + 1)) (congrArg xs (nI_clamp (by omega))) ?_
    refine vp_callSi (W.runV (As := [.int (xs (i + 1))]) (rest := []) ⟨hx, hb, hml, hown, hts⟩ (c_count_out l dC dI ox a1 a2 a3 a4 c1 c2 c3 c4 N (N - 6) w y z c f1 f2 f3 f4 hv) (cwV 1 hts gL_law_X0_count rfl rfl rfl (by decide +kernel) ⟨by decide +kernel, by decide +kernel⟩) (rW_preV (hP.sub (ws' := (xC ox a1 a2 a3 a4 c1 c2 c3 c4 (nI N) (nI (N - 6)) (nI w) (nI y) (nI z) (nI c) f1 f2 f3 f4)) [0, 1, 2, 3, 4] rfl) (hK.sub (tys' := xT c1 c2 c3 c4) [0, 1, 2, 3] rfl) (va_recv (q := (RX0, TX0, 10)) (q0 := 0) hK hP rfl rfl)) rfl rfl hl.1 rfl (lv_room (Nat.le_of_ble_eq_true rfl)) dL_law_287 ⟨by decide +kernel, by decide +kernel⟩) (fun r0 hr0 => ?_)
    subst hr0
    refine lv_aload_n hx hb dL_law_290 rfl (lv_at hl 2 rfl) ?_
    refine lv_aload_n hx hb dL_law_291 rfl (lv_at hl 0 rfl) ?_
    refine lv_iload_n hx hb dL_law_292 rfl (lv_at hl 3 rfl) ?_
    refine lv_iconst (v := nI 1) hx hb dL_law_293 (by decide) ?_
    refine lv_iadd hx hb dL_law_294 ?_
    refine cs_top (y := nI (i + 1)) (nI_add i 1) ?_
    refine va_sld (i := nI (i + 1)) hx hb hX hbl hbA hS (vp_in_nI (by omega) (by omega)) dL_law_295 ?_
    refine cs_top (y := xs (i + 1)) (congrArg xs (nI_clamp (by omega))) ?_
    refine vp_callSi (W.runV (As := [.int (xs (i + 1))]) (rest := [.int (-1)]) ⟨hx, hb, hml, hown, hts⟩ (m_count_out l dC dI om b1 b2 b3 e1 e2 e3 N c y z fo kn g1 g2 g3 hv) (cwV 1 hts gL_law_X1_count rfl rfl rfl (by decide +kernel) ⟨by decide +kernel, by decide +kernel⟩) (rW_preV (hP.sub (ws' := (mC om b1 b2 b3 e1 e2 e3 (nI N) (nI c) (nI y) (nI z) fo kn g1 g2 g3)) [5, 6, 7, 8] rfl) (hK.sub (tys' := mT e1 e2 e3) [4, 5, 6] rfl) (va_recv (q := (RX1, TX1, 9)) (q0 := 5) hK hP rfl rfl)) rfl rfl hl.1 rfl (lv_room (Nat.le_of_ble_eq_true rfl)) dL_law_296 ⟨by decide +kernel, by decide +kernel⟩) (fun r0 hr0 => ?_)
    subst hr0
    refine lv_icmp_eq hx hb dL_law_299 (tgt := 304) (by decide) (fun _ => ?_) (fun hq => absurd (rfl) hq)
    exact kk H locs ls ⟨w, y, z, c, Y, Z, f1, f2, f3, f4, fo, kn, g1, g2, g3, ⟨hw, hy, hz, hc, hRX, hRM, hkn⟩, hP, hD, hS⟩ hl
