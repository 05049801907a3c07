theorem TI_or {τ j : Nat} (h : τ < 2 ^ j) : τ ||| 2 ^ j = τ + 2 ^ j := by
  have h1 := Nat.two_pow_add_eq_or_of_lt h 1
  rw [Nat.mul_one] at h1
  rw [Nat.or_comm, ← h1, Nat.add_comm]
theorem cs_orhi {a h : Nat} (ha : a < 2 ^ h) (t : Nat) : a ||| (t * 2 ^ h) = a + t * 2 ^ h := by
  rw [Nat.or_comm, Nat.mul_comm, ← Nat.two_pow_add_eq_or_of_lt ha, Nat.add_comm]
theorem cs_and_pow {w d : Nat} (h : w.testBit d = true) : w &&& 2 ^ d = 2 ^ d := by
  apply Nat.eq_of_testBit_eq
  intro i
  rw [Nat.testBit_and, Nat.testBit_two_pow]
  by_cases e : d = i
  · subst e; rw [h]; simp
  · rw [decide_eq_false e]; simp
theorem cs_and_pow0 {w d : Nat} (h : w.testBit d = false) : w &&& 2 ^ d = 0 := by
  apply Nat.eq_of_testBit_eq
  intro i
  rw [Nat.testBit_and, Nat.testBit_two_pow, Nat.zero_testBit]
  by_cases e : d = i
  · subst e; rw [h]; simp
  · rw [decide_eq_false e]; simp
set_option maxHeartbeats 4000000 in
set_option maxRecDepth 100000 in
theorem c_firstTail (l : Launch) (tt : Nat) (dC : Nat → ClassId) (dI : Nat → Nat → Nat) (o a1 a2 a3 a4 : Nat) (c1 c2 c3 c4 : ClassId) (N h w y z c : Nat) (f1 f2 f3 : Nat → Int32) (f4 : Nat → Int64) (hh : h ≤ 16) (hw : w < 65536) {x : Int64} (hx0 : ¬ x = 0) : Met l yX0_firstTail wsX0_firstTail ({ frames := 1, cells := 0, slots := 0, locals := 30 }) (va_Pc [.ref o, .long x] (rX tt (rW (dC, dI) vwCl (xC o a1 a2 a3 a4 c1 c2 c3 c4 (nI N) (nI h) (nI w) (nI y) (nI z) (nI c) f1 f2 f3 f4) (xT c1 c2 c3 c4)))) (vp_Si (fun r => ∃ τ, r = nI τ ∧ τ < 64 ∧ fs (fun t => lb x t = true) (w >>> h) 6 0 0 = some τ)) 0 0 (fun _ => False) := by
  refine Met.ofW (cc := cX0_firstTail) (maxL := 13) (ret := some .int) (by decide) rfl ?_
  intro p e s m args below meth c0 s₁ B hml hv0
  obtain ⟨rfl, ⟨hP, hK⟩, hT⟩ := hv0
  have hx := B.exec
  have hb := B.bytes
  have hr := B.returns
  have hts := atoms_spec (ws := wsX0_firstTail) B.pre
  have hown : s.vm.findClass RX0 = some m.cls := findClass_of_methodNamed B.named
  have hlocks := B.notSynchronized
  have hP : va_P (dC, dI) vwCl (xC o a1 a2 a3 a4 c1 c2 c3 c4 (nI N) (nI h) (nI w) (nI y) (nI z) (nI c) f1 f2 f3 f4) s.heap := hP
  have hin0 : ∀ w ∈ u_ws RX0 TX0 10, w ∈ wsX0_firstTail := by decide +kernel
  have hl := lv_entry ([.ref o, .long x]) (n := 13) (Nat.le_of_ble_eq_true rfl)
  rw [lg_entry_eq]
  generalize (lg_sl ([.ref o, .long x]) ++ List.replicate (13 - (lg_sl ([.ref o, .long x])).length) Slot.unset).toArray = ls at hl ⊢
  have hl : lv_has ls 13 [(0, .ref o), (1, .long x)] := hl
  refine lv_lload_n hx hb dX0_firstTail_0 rfl (lv_at hl 1 rfl) ?_
  refine lv_lstore_n hx hb dX0_firstTail_1 rfl hl (by decide) rfl (fun ls hl => ?_)
  have hl : lv_has ls 13 [(3, .long x), (0, .ref o), (1, .long x)] := hl
  refine lv_iconst (v := nI 0) hx hb dX0_firstTail_2 (by decide) ?_
  refine lv_istore hx hb dX0_firstTail_3 hl (by decide) rfl (fun ls hl => ?_)
  have hl : lv_has ls 13 [(5, .int (nI 0)), (3, .long x), (0, .ref o), (1, .long x)] := hl
  refine lv_iconst (v := nI 0) hx hb dX0_firstTail_5 (by decide) ?_
  refine lv_istore hx hb dX0_firstTail_6 hl (by decide) rfl (fun ls hl => ?_)
  have hl : lv_has ls 13 [(6, .int (nI 0)), (5, .int (nI 0)), (3, .long x), (0, .ref o), (1, .long x)] := hl
  refine cs_wl (σ := Nat × Nat × Int64) (fun n st ls => (n = 6 - st.1 ∧ st.1 ≤ 6 ∧ TI x (w >>> h) st.1 st.2.1 st.2.2) ∧ lv_has ls 13 [(0, .ref o), (1, .long x), (3, .long st.2.2), (5, .int (nI st.2.1)), (6, .int (nI st.1))]) ?_ 6 (0, 0, x) ls ⟨⟨rfl, Nat.zero_le _, TI_0 hx0⟩, lv_sub hl [3, 4, 2, 1, 0] rfl⟩
  clear hl
  intro n st ls hI ih
  obtain ⟨j, τ, u⟩ := st
  obtain ⟨⟨hn, hj6, hI⟩, hl⟩ := hI
  have hl : lv_has ls 13 [(0, .ref o), (1, .long x), (3, .long u), (5, .int (nI τ)), (6, .int (nI j))] := hl
  dsimp only at hn hj6 hI
  refine lv_iload hx hb dX0_firstTail_8 (lv_at hl 4 rfl) ?_
  refine lv_bipush (v := nI 6) hx hb dX0_firstTail_10 (by decide) ?_
  rcases Nat.lt_or_ge j 6 with hj | hj
  · refine lv_icmp_ge hx hb dX0_firstTail_12 (tgt := 126) (by decide) (fun hq => absurd hq (nI_ge hj (by decide))) (fun _ => ?_)
    refine lv_lload_n hx hb dX0_firstTail_15 rfl (lv_at hl 2 rfl) ?_
    refine cs_gett hx hb hT va_S.rf hown (hts (.fieldLink RX0 85 RX0 "TAILS_WITH" "[J") (by decide +kernel)) dX0_firstTail_16 ?_
    refine lv_iload hx hb dX0_firstTail_19 (lv_at hl 4 rfl) ?_
    refine cs_tl hx hb hT.2 va_S.rf (hj) (by decide) rfl dX0_firstTail_21 ?_
    refine lv_land hx hb dX0_firstTail_22 ?_
    refine lv_lstore hx hb dX0_firstTail_23 hl (by decide) rfl (fun ls hl => ?_)
    have hl : lv_has ls 13 [(7, .long (u &&& (cs_tw j))), (0, .ref o), (1, .long x), (3, .long u), (5, .int (nI τ)), (6, .int (nI j))] := hl
    refine lv_lload_n hx hb dX0_firstTail_25 rfl (lv_at hl 3 rfl) ?_
    refine cs_gett hx hb hT va_S.rf hown (hts (.fieldLink RX0 85 RX0 "TAILS_WITH" "[J") (by decide +kernel)) dX0_firstTail_26 ?_
    refine lv_iload hx hb dX0_firstTail_29 (lv_at hl 5 rfl) ?_
    refine cs_tl hx hb hT.2 va_S.rf (hj) (by decide) rfl dX0_firstTail_31 ?_
    refine lv_ldc2 (v := -1) hx hb hown (hts (.constantLong RX0 88 (-1)) (by decide +kernel)) dX0_firstTail_32 ?_
    refine lv_lxor hx hb dX0_firstTail_35 ?_
    refine lv_land hx hb dX0_firstTail_36 ?_
    refine lv_lstore hx hb dX0_firstTail_37 hl (by decide) rfl (fun ls hl => ?_)
    have hl : lv_has ls 13 [(9, .long (u &&& ((cs_tw j) ^^^ (-1)))), (7, .long (u &&& (cs_tw j))), (0, .ref o), (1, .long x), (3, .long u), (5, .int (nI τ)), (6, .int (nI j))] := hl
    refine lv_aload_n hx hb dX0_firstTail_39 rfl (lv_at hl 2 rfl) ?_
    refine va_get (D := (dC, dI)) (ci := 0) (v := .int (nI w)) (C := RX0) (T := TX0) (N := 10) hx hb hts hin0 hown hK hP 0 rfl rfl 2 (by decide) (hts (.fieldLink RX0 43 "ClauseSolver" "wishes" "I") (by decide +kernel)) (fun _ h9 => h9) rfl dX0_firstTail_40 ?_
    refine lv_aload_n hx hb dX0_firstTail_43 rfl (lv_at hl 2 rfl) ?_
    refine va_get (D := (dC, dI)) (ci := 0) (v := .int (nI h)) (C := RX0) (T := TX0) (N := 10) hx hb hts hin0 hown hK hP 0 rfl rfl 1 (by decide) (hts (.fieldLink RX0 22 "ClauseSolver" "heads" "I") (by decide +kernel)) (fun _ h9 => h9) rfl dX0_firstTail_44 ?_
    refine lv_iload hx hb dX0_firstTail_47 (lv_at hl 6 rfl) ?_
    refine lv_iadd hx hb dX0_firstTail_49 ?_
    refine cs_top (y := nI (h + j)) (nI_add h j) ?_
    refine vp_callSi (W.runS (As := [.int (nI w), .int (nI (h + j))]) (rest := []) ⟨hx, hb, hml, hown, hts⟩ (c_has l (by omega) (by omega)) (va_cwS 2 hts gX0_firstTail_X0_has rfl rfl rfl (by decide +kernel) ⟨Nat.le_of_ble_eq_true rfl, Nat.le_of_ble_eq_true rfl⟩) (nW_preS) rfl rfl hl.1 rfl (lv_room (Nat.le_of_ble_eq_true rfl)) dX0_firstTail_50 ⟨Nat.le_refl _, Nat.le_refl _⟩) (fun r0 hr0 => ?_)
    subst hr0
    refine lv_istore hx hb dX0_firstTail_53 hl (by decide) rfl (fun ls hl => ?_)
    have hl : lv_has ls 13 [(11, .int (bI (w.testBit (h + j)))), (9, .long (u &&& ((cs_tw j) ^^^ (-1)))), (7, .long (u &&& (cs_tw j))), (0, .ref o), (1, .long x), (3, .long u), (5, .int (nI τ)), (6, .int (nI j))] := hl
    refine lv_iload hx hb dX0_firstTail_55 (lv_at hl 0 rfl) ?_
    refine lv_if_eq hx hb dX0_firstTail_57 (tgt := 75) (by decide) (fun hw1 => ?_) (fun hw1 => ?_)
    · refine lv_lload hx hb dX0_firstTail_75 (lv_at hl 1 rfl) ?_
      refine lv_lconst (v := 0) hx hb dX0_firstTail_77 (by decide) ?_
      refine W.lcmp hx hb dX0_firstTail_78 ?_
      refine lv_if_ne hx hb dX0_firstTail_79 (tgt := 86) (by decide) (fun hz1 => ?_) (fun hz1 => ?_)
      · refine lv_iconst (v := nI 0) hx hb dX0_firstTail_86 (by decide) ?_
        refine lv_istore hx hb dX0_firstTail_87 hl (by decide) rfl (fun ls hl => ?_)
        have hl : lv_has ls 13 [(12, .int (nI 0)), (11, .int (bI (w.testBit (h + j)))), (9, .long (u &&& ((cs_tw j) ^^^ (-1)))), (7, .long (u &&& (cs_tw j))), (0, .ref o), (1, .long x), (3, .long u), (5, .int (nI τ)), (6, .int (nI j))] := hl
        refine lv_iload hx hb dX0_firstTail_89 (lv_at hl 0 rfl) ?_
        refine lv_if_eq hx hb dX0_firstTail_91 (tgt := 99) (by decide) (fun _ => ?_) (fun hq => absurd (nI_0) hq)
        refine lv_lload hx hb dX0_firstTail_99 (lv_at hl 2 rfl) ?_
        refine lv_lstore_n hx hb dX0_firstTail_101 rfl hl (by decide) rfl (fun ls hl => ?_)
        have hl : lv_has ls 13 [(3, .long (u &&& ((cs_tw j) ^^^ (-1)))), (12, .int (nI 0)), (11, .int (bI (w.testBit (h + j)))), (9, .long (u &&& ((cs_tw j) ^^^ (-1)))), (7, .long (u &&& (cs_tw j))), (0, .ref o), (1, .long x), (5, .int (nI τ)), (6, .int (nI j))] := hl
        refine lv_iload hx hb dX0_firstTail_102 (lv_at hl 7 rfl) ?_
        refine lv_iload hx hb dX0_firstTail_104 (lv_at hl 1 rfl) ?_
        refine lv_if_eq hx hb dX0_firstTail_106 (tgt := 116) (by decide) (fun _ => ?_) (fun hq => absurd (nI_0) hq)
        refine lv_iconst (v := nI 0) hx hb dX0_firstTail_116 (by decide) ?_
        refine lv_ior hx hb dX0_firstTail_117 ?_
        refine cs_top (y := nI (τ ||| 0)) (cs_or τ 0) ?_
        refine cs_top (y := nI τ) (congrArg nI (Nat.or_zero τ)) ?_
        refine lv_istore hx hb dX0_firstTail_118 hl (by decide) rfl (fun ls hl => ?_)
        have hl : lv_has ls 13 [(5, .int (nI τ)), (3, .long (u &&& ((cs_tw j) ^^^ (-1)))), (12, .int (nI 0)), (11, .int (bI (w.testBit (h + j)))), (9, .long (u &&& ((cs_tw j) ^^^ (-1)))), (7, .long (u &&& (cs_tw j))), (0, .ref o), (1, .long x), (6, .int (nI j))] := hl
        refine lv_iinc (v := nI (j + 1)) hx hb dX0_firstTail_120 hl (k := 8) rfl (cs_inc _ 1) (by decide) rfl (fun ls hl => ?_)
        have hl : lv_has ls 13 [(6, .int (nI (j + 1))), (5, .int (nI τ)), (3, .long (u &&& ((cs_tw j) ^^^ (-1)))), (12, .int (nI 0)), (11, .int (bI (w.testBit (h + j)))), (9, .long (u &&& ((cs_tw j) ^^^ (-1)))), (7, .long (u &&& (cs_tw j))), (0, .ref o), (1, .long x)] := hl
        refine lv_goto hx hb dX0_firstTail_123 (tgt := 8) (by decide) ?_
        exact ih (6 - (j + 1)) (j + 1, τ, u &&& ((cs_tw j) ^^^ (-1))) ls (by omega) ⟨⟨rfl, by show j + 1 ≤ 6; omega, TI_ff hj hI ((Nat.testBit_shiftRight w).trans (bI_z hw1)) (fun z9 => hz1 (cs_lcmp.mpr z9))⟩, lv_sub hl [7, 8, 2, 1, 0] rfl⟩
      · refine lv_iconst (v := nI 1) hx hb dX0_firstTail_82 (by decide) ?_
        refine lv_goto hx hb dX0_firstTail_83 (tgt := 87) (by decide) ?_
        refine lv_istore hx hb dX0_firstTail_87 hl (by decide) rfl (fun ls hl => ?_)
        have hl : lv_has ls 13 [(12, .int (nI 1)), (11, .int (bI (w.testBit (h + j)))), (9, .long (u &&& ((cs_tw j) ^^^ (-1)))), (7, .long (u &&& (cs_tw j))), (0, .ref o), (1, .long x), (3, .long u), (5, .int (nI τ)), (6, .int (nI j))] := hl
        refine lv_iload hx hb dX0_firstTail_89 (lv_at hl 0 rfl) ?_
        refine lv_if_eq hx hb dX0_firstTail_91 (tgt := 99) (by decide) (fun hq => absurd hq (by decide)) (fun _ => ?_)
        refine lv_lload hx hb dX0_firstTail_94 (lv_at hl 3 rfl) ?_
        refine lv_goto hx hb dX0_firstTail_96 (tgt := 101) (by decide) ?_
        refine lv_lstore_n hx hb dX0_firstTail_101 rfl hl (by decide) rfl (fun ls hl => ?_)
        have hl : lv_has ls 13 [(3, .long (u &&& (cs_tw j))), (12, .int (nI 1)), (11, .int (bI (w.testBit (h + j)))), (9, .long (u &&& ((cs_tw j) ^^^ (-1)))), (7, .long (u &&& (cs_tw j))), (0, .ref o), (1, .long x), (5, .int (nI τ)), (6, .int (nI j))] := hl
        refine lv_iload hx hb dX0_firstTail_102 (lv_at hl 7 rfl) ?_
        refine lv_iload hx hb dX0_firstTail_104 (lv_at hl 1 rfl) ?_
        refine lv_if_eq hx hb dX0_firstTail_106 (tgt := 116) (by decide) (fun hq => absurd hq (by decide)) (fun _ => ?_)
        refine lv_iconst (v := nI 1) hx hb dX0_firstTail_109 (by decide) ?_
        refine lv_iload hx hb dX0_firstTail_110 (lv_at hl 8 rfl) ?_
        refine lv_ishl hx hb dX0_firstTail_112 ?_
        refine cs_top (y := nI (2 ^ j)) (cs_one (by omega)) ?_
        refine lv_goto hx hb dX0_firstTail_113 (tgt := 117) (by decide) ?_
        refine lv_ior hx hb dX0_firstTail_117 ?_
        refine cs_top (y := nI (τ ||| (2 ^ j))) (cs_or τ (2 ^ j)) ?_
        refine cs_top (y := nI (τ + 2 ^ j)) (congrArg nI (TI_or hI.1)) ?_
        refine lv_istore hx hb dX0_firstTail_118 hl (by decide) rfl (fun ls hl => ?_)
        have hl : lv_has ls 13 [(5, .int (nI (τ + 2 ^ j))), (3, .long (u &&& (cs_tw j))), (12, .int (nI 1)), (11, .int (bI (w.testBit (h + j)))), (9, .long (u &&& ((cs_tw j) ^^^ (-1)))), (7, .long (u &&& (cs_tw j))), (0, .ref o), (1, .long x), (6, .int (nI j))] := hl
        refine lv_iinc (v := nI (j + 1)) hx hb dX0_firstTail_120 hl (k := 8) rfl (cs_inc _ 1) (by decide) rfl (fun ls hl => ?_)
        have hl : lv_has ls 13 [(6, .int (nI (j + 1))), (5, .int (nI (τ + 2 ^ j))), (3, .long (u &&& (cs_tw j))), (12, .int (nI 1)), (11, .int (bI (w.testBit (h + j)))), (9, .long (u &&& ((cs_tw j) ^^^ (-1)))), (7, .long (u &&& (cs_tw j))), (0, .ref o), (1, .long x)] := hl
        refine lv_goto hx hb dX0_firstTail_123 (tgt := 8) (by decide) ?_
        exact ih (6 - (j + 1)) (j + 1, τ + 2 ^ j, u &&& (cs_tw j)) ls (by omega) ⟨⟨rfl, by show j + 1 ≤ 6; omega, TI_ft hj hI ((Nat.testBit_shiftRight w).trans (bI_z hw1)) (cs_lcmp.mp hz1)⟩, lv_sub hl [7, 8, 2, 1, 0] rfl⟩
    · refine lv_lload hx hb dX0_firstTail_60 (lv_at hl 2 rfl) ?_
      refine lv_lconst (v := 0) hx hb dX0_firstTail_62 (by decide) ?_
      refine W.lcmp hx hb dX0_firstTail_63 ?_
      refine lv_if_eq hx hb dX0_firstTail_64 (tgt := 71) (by decide) (fun hz1 => ?_) (fun hz1 => ?_)
      · refine lv_iconst (v := nI 0) hx hb dX0_firstTail_71 (by decide) ?_
        refine lv_goto hx hb dX0_firstTail_72 (tgt := 87) (by decide) ?_
        refine lv_istore hx hb dX0_firstTail_87 hl (by decide) rfl (fun ls hl => ?_)
        have hl : lv_has ls 13 [(12, .int (nI 0)), (11, .int (bI (w.testBit (h + j)))), (9, .long (u &&& ((cs_tw j) ^^^ (-1)))), (7, .long (u &&& (cs_tw j))), (0, .ref o), (1, .long x), (3, .long u), (5, .int (nI τ)), (6, .int (nI j))] := hl
        refine lv_iload hx hb dX0_firstTail_89 (lv_at hl 0 rfl) ?_
        refine lv_if_eq hx hb dX0_firstTail_91 (tgt := 99) (by decide) (fun _ => ?_) (fun hq => absurd (nI_0) hq)
        refine lv_lload hx hb dX0_firstTail_99 (lv_at hl 2 rfl) ?_
        refine lv_lstore_n hx hb dX0_firstTail_101 rfl hl (by decide) rfl (fun ls hl => ?_)
        have hl : lv_has ls 13 [(3, .long (u &&& ((cs_tw j) ^^^ (-1)))), (12, .int (nI 0)), (11, .int (bI (w.testBit (h + j)))), (9, .long (u &&& ((cs_tw j) ^^^ (-1)))), (7, .long (u &&& (cs_tw j))), (0, .ref o), (1, .long x), (5, .int (nI τ)), (6, .int (nI j))] := hl
        refine lv_iload hx hb dX0_firstTail_102 (lv_at hl 7 rfl) ?_
        refine lv_iload hx hb dX0_firstTail_104 (lv_at hl 1 rfl) ?_
        refine lv_if_eq hx hb dX0_firstTail_106 (tgt := 116) (by decide) (fun _ => ?_) (fun hq => absurd (nI_0) hq)
        refine lv_iconst (v := nI 0) hx hb dX0_firstTail_116 (by decide) ?_
        refine lv_ior hx hb dX0_firstTail_117 ?_
        refine cs_top (y := nI (τ ||| 0)) (cs_or τ 0) ?_
        refine cs_top (y := nI τ) (congrArg nI (Nat.or_zero τ)) ?_
        refine lv_istore hx hb dX0_firstTail_118 hl (by decide) rfl (fun ls hl => ?_)
        have hl : lv_has ls 13 [(5, .int (nI τ)), (3, .long (u &&& ((cs_tw j) ^^^ (-1)))), (12, .int (nI 0)), (11, .int (bI (w.testBit (h + j)))), (9, .long (u &&& ((cs_tw j) ^^^ (-1)))), (7, .long (u &&& (cs_tw j))), (0, .ref o), (1, .long x), (6, .int (nI j))] := hl
        refine lv_iinc (v := nI (j + 1)) hx hb dX0_firstTail_120 hl (k := 8) rfl (cs_inc _ 1) (by decide) rfl (fun ls hl => ?_)
        have hl : lv_has ls 13 [(6, .int (nI (j + 1))), (5, .int (nI τ)), (3, .long (u &&& ((cs_tw j) ^^^ (-1)))), (12, .int (nI 0)), (11, .int (bI (w.testBit (h + j)))), (9, .long (u &&& ((cs_tw j) ^^^ (-1)))), (7, .long (u &&& (cs_tw j))), (0, .ref o), (1, .long x)] := hl
        refine lv_goto hx hb dX0_firstTail_123 (tgt := 8) (by decide) ?_
        exact ih (6 - (j + 1)) (j + 1, τ, u &&& ((cs_tw j) ^^^ (-1))) ls (by omega) ⟨⟨rfl, by show j + 1 ≤ 6; omega, TI_tf hj hI ((Nat.testBit_shiftRight w).trans (bI_nz hw1)) (cs_lcmp.mp hz1)⟩, lv_sub hl [7, 8, 2, 1, 0] rfl⟩
      · refine lv_iconst (v := nI 1) hx hb dX0_firstTail_67 (by decide) ?_
        refine lv_goto hx hb dX0_firstTail_68 (tgt := 87) (by decide) ?_
        refine lv_istore hx hb dX0_firstTail_87 hl (by decide) rfl (fun ls hl => ?_)
        have hl : lv_has ls 13 [(12, .int (nI 1)), (11, .int (bI (w.testBit (h + j)))), (9, .long (u &&& ((cs_tw j) ^^^ (-1)))), (7, .long (u &&& (cs_tw j))), (0, .ref o), (1, .long x), (3, .long u), (5, .int (nI τ)), (6, .int (nI j))] := hl
        refine lv_iload hx hb dX0_firstTail_89 (lv_at hl 0 rfl) ?_
        refine lv_if_eq hx hb dX0_firstTail_91 (tgt := 99) (by decide) (fun hq => absurd hq (by decide)) (fun _ => ?_)
        refine lv_lload hx hb dX0_firstTail_94 (lv_at hl 3 rfl) ?_
        refine lv_goto hx hb dX0_firstTail_96 (tgt := 101) (by decide) ?_
        refine lv_lstore_n hx hb dX0_firstTail_101 rfl hl (by decide) rfl (fun ls hl => ?_)
        have hl : lv_has ls 13 [(3, .long (u &&& (cs_tw j))), (12, .int (nI 1)), (11, .int (bI (w.testBit (h + j)))), (9, .long (u &&& ((cs_tw j) ^^^ (-1)))), (7, .long (u &&& (cs_tw j))), (0, .ref o), (1, .long x), (5, .int (nI τ)), (6, .int (nI j))] := hl
        refine lv_iload hx hb dX0_firstTail_102 (lv_at hl 7 rfl) ?_
        refine lv_iload hx hb dX0_firstTail_104 (lv_at hl 1 rfl) ?_
        refine lv_if_eq hx hb dX0_firstTail_106 (tgt := 116) (by decide) (fun hq => absurd hq (by decide)) (fun _ => ?_)
        refine lv_iconst (v := nI 1) hx hb dX0_firstTail_109 (by decide) ?_
        refine lv_iload hx hb dX0_firstTail_110 (lv_at hl 8 rfl) ?_
        refine lv_ishl hx hb dX0_firstTail_112 ?_
        refine cs_top (y := nI (2 ^ j)) (cs_one (by omega)) ?_
        refine lv_goto hx hb dX0_firstTail_113 (tgt := 117) (by decide) ?_
        refine lv_ior hx hb dX0_firstTail_117 ?_
        refine cs_top (y := nI (τ ||| (2 ^ j))) (cs_or τ (2 ^ j)) ?_
        refine cs_top (y := nI (τ + 2 ^ j)) (congrArg nI (TI_or hI.1)) ?_
        refine lv_istore hx hb dX0_firstTail_118 hl (by decide) rfl (fun ls hl => ?_)
        have hl : lv_has ls 13 [(5, .int (nI (τ + 2 ^ j))), (3, .long (u &&& (cs_tw j))), (12, .int (nI 1)), (11, .int (bI (w.testBit (h + j)))), (9, .long (u &&& ((cs_tw j) ^^^ (-1)))), (7, .long (u &&& (cs_tw j))), (0, .ref o), (1, .long x), (6, .int (nI j))] := hl
        refine lv_iinc (v := nI (j + 1)) hx hb dX0_firstTail_120 hl (k := 8) rfl (cs_inc _ 1) (by decide) rfl (fun ls hl => ?_)
        have hl : lv_has ls 13 [(6, .int (nI (j + 1))), (5, .int (nI (τ + 2 ^ j))), (3, .long (u &&& (cs_tw j))), (12, .int (nI 1)), (11, .int (bI (w.testBit (h + j)))), (9, .long (u &&& ((cs_tw j) ^^^ (-1)))), (7, .long (u &&& (cs_tw j))), (0, .ref o), (1, .long x)] := hl
        refine lv_goto hx hb dX0_firstTail_123 (tgt := 8) (by decide) ?_
        exact ih (6 - (j + 1)) (j + 1, τ + 2 ^ j, u &&& (cs_tw j)) ls (by omega) ⟨⟨rfl, by show j + 1 ≤ 6; omega, TI_tt hj hI ((Nat.testBit_shiftRight w).trans (bI_nz hw1)) (fun z9 => hz1 (cs_lcmp.mpr z9))⟩, lv_sub hl [7, 8, 2, 1, 0] rfl⟩
  · refine lv_icmp_ge hx hb dX0_firstTail_12 (tgt := 126) (by decide) (fun _ => ?_) (fun hq => absurd (nI_le hj (by omega)) hq)
    refine lv_iload hx hb dX0_firstTail_126 (lv_at hl 3 rfl) ?_
    exact W.iret (v := nI τ) hx hb hr (fun t ht hW => ⟨nI τ, rfl, ⟨τ, rfl, by have := hI.1; rw [show j = 6 by omega] at this; exact this, TI_6 ((show j = 6 by omega) ▸ hI)⟩, ht⟩) (fun q h => by cases h) dX0_firstTail_128
set_option maxHeartbeats 4000000 in
set_option maxRecDepth 100000 in
theorem c_firstOfBoth (l : Launch) (tt : Nat) (dC : Nat → ClassId) (dI : Nat → Nat → Nat) (o a1 a2 a3 a4 : Nat) (c1 c2 c3 c4 : ClassId) (N h w y z c : Nat) (f1 f2 f3 : Nat → Int32) (f4 : Nat → Int64) (hN : N ≤ 16) (hNh : h = N - 6) (hw : w < 2 ^ N) (hc : c ≤ 400) {Y Z : Nat → Nat} (R : RX N h c Y Z f1 f2 f3 f4) (n : Nat) {d a : Nat} (hd : d < h) (ha : a < 2 ^ d) {x : Int64} (O : OP h c Y Z f3 (d + 1) a x) (hFB : ∀ (a : Nat) (x : Int64), a < 2 ^ (d + 1) → OP h c Y Z f3 (d + 1) a x → Met l yX0_firstBelow wsX0_firstBelow ({ frames := (2 * n + 3), cells := 0, slots := 0, locals := (80 * n + 100) }) (va_Pc [.ref o, .int (nI (d + 1)), .int (nI a), .long x] (rX tt (rW (dC, dI) vwCl (xC o a1 a2 a3 a4 c1 c2 c3 c4 (nI N) (nI h) (nI w) (nI y) (nI z) (nI c) f1 f2 f3 f4) (xT c1 c2 c3 c4)))) (vp_Si (fun r => r = rs (fs (PX c Y Z) w (h + 6 - (d + 1)) a (d + 1)))) 0 0 (fun _ => False)) : Met l yX0_firstOfBoth wsX0_firstOfBoth ({ frames := (2 * n + 4), cells := 0, slots := 0, locals := (80 * n + 140) }) (va_Pc [.ref o, .int (nI d), .int (nI a), .long x] (rX tt (rW (dC, dI) vwCl (xC o a1 a2 a3 a4 c1 c2 c3 c4 (nI N) (nI h) (nI w) (nI y) (nI z) (nI c) f1 f2 f3 f4) (xT c1 c2 c3 c4)))) (vp_Si (fun r => r = rs (fs (PX c Y Z) w (h + 6 - d) a d))) 0 0 (fun _ => False) := by
  refine Met.ofW (cc := cX0_firstOfBoth) (maxL := 8) (ret := some .int) (by decide) rfl ?_
  intro p e s m args below meth c0 s₁ B hml hv0
  obtain ⟨rfl, ⟨hP, hK⟩, hT⟩ := hv0
  have hx := B.exec
  have hb := B.bytes
  have hr := B.returns
  have hts := atoms_spec (ws := wsX0_firstOfBoth) B.pre
  have hown : s.vm.findClass RX0 = some m.cls := findClass_of_methodNamed B.named
  have hlocks := B.notSynchronized
  have hP : va_P (dC, dI) vwCl (xC o a1 a2 a3 a4 c1 c2 c3 c4 (nI N) (nI h) (nI w) (nI y) (nI z) (nI c) f1 f2 f3 f4) s.heap := hP
  have hin0 : ∀ w ∈ u_ws RX0 TX0 10, w ∈ wsX0_firstOfBoth := by decide +kernel
  have hl := lv_entry ([.ref o, .int (nI d), .int (nI a), .long x]) (n := 8) (Nat.le_of_ble_eq_true rfl)
  rw [lg_entry_eq]
  generalize (lg_sl ([.ref o, .int (nI d), .int (nI a), .long x]) ++ List.replicate (8 - (lg_sl ([.ref o, .int (nI d), .int (nI a), .long x])).length) Slot.unset).toArray = ls at hl ⊢
  have hl : lv_has ls 8 [(0, .ref o), (1, .int (nI d)), (2, .int (nI a)), (3, .long x)] := hl
  have hp : 2 ^ (d + 1) = 2 ^ d + 2 ^ d := TI_p
  have hlt : ∀ (q r : Nat), q < 2 ^ (d + 1) → fs (PX c Y Z) w (h + 6 - (d + 1)) q (d + 1) = some r → r < 2 ^ 31 := fun q r h1 h2 => Nat.lt_of_lt_of_le (fs_lt h1 h2) (Nat.pow_le_pow_right (by decide) (by omega))
  have O2 := OP_down (by omega) R hd ha O
  refine lv_aload_n hx hb dX0_firstOfBoth_0 rfl (lv_at hl 0 rfl) ?_
  refine va_get (D := (dC, dI)) (ci := 0) (v := .int (nI w)) (C := RX0) (T := TX0) (N := 10) hx hb hts hin0 hown hK hP 0 rfl rfl 2 (by decide) (hts (.fieldLink RX0 43 "ClauseSolver" "wishes" "I") (by decide +kernel)) (fun _ h9 => h9) rfl dX0_firstOfBoth_1 ?_
  refine lv_iconst (v := nI 1) hx hb dX0_firstOfBoth_4 (by decide) ?_
  refine lv_iload_n hx hb dX0_firstOfBoth_5 rfl (lv_at hl 1 rfl) ?_
  refine lv_ishl hx hb dX0_firstOfBoth_6 ?_
  refine cs_top (y := nI (2 ^ d)) (cs_one (by omega)) ?_
  cases hbit : w.testBit d with
  | true =>
    refine lv_iand hx hb dX0_firstOfBoth_7 ?_
    refine cs_top (y := nI (w &&& (2 ^ d))) (cs_and w (2 ^ d)) ?_
    refine cs_top (y := nI (2 ^ d)) (congrArg nI (cs_and_pow hbit)) ?_
    refine lv_istore hx hb dX0_firstOfBoth_8 hl (by decide) rfl (fun ls hl => ?_)
    have hl : lv_has ls 8 [(5, .int (nI (2 ^ d))), (0, .ref o), (1, .int (nI d)), (2, .int (nI a)), (3, .long x)] := hl
    refine lv_aload_n hx hb dX0_firstOfBoth_10 rfl (lv_at hl 1 rfl) ?_
    refine lv_iload_n hx hb dX0_firstOfBoth_11 rfl (lv_at hl 2 rfl) ?_
    refine lv_iconst (v := nI 1) hx hb dX0_firstOfBoth_12 (by decide) ?_
    refine lv_iadd hx hb dX0_firstOfBoth_13 ?_
    refine cs_top (y := nI (d + 1)) (nI_add d 1) ?_
    refine lv_iload_n hx hb dX0_firstOfBoth_14 rfl (lv_at hl 3 rfl) ?_
    refine lv_iload hx hb dX0_firstOfBoth_15 (lv_at hl 0 rfl) ?_
    refine lv_ior hx hb dX0_firstOfBoth_17 ?_
    refine cs_top (y := nI (a ||| (2 ^ d))) (cs_or a (2 ^ d)) ?_
    refine cs_top (y := nI (a + 2 ^ d)) (congrArg nI (TI_or ha)) ?_
    refine lv_lload_n hx hb dX0_firstOfBoth_18 rfl (lv_at hl 4 rfl) ?_
    refine vp_callSi (W.runV (As := [.int (nI (d + 1)), .int (nI (a + 2 ^ d)), .long x]) (rest := []) ⟨hx, hb, hml, hown, hts⟩ (hFB (a + 2 ^ d) x (by omega) O2) (cwV 3 hts gX0_firstOfBoth_X0_firstBelow rfl rfl rfl (by decide +kernel) ⟨by show 2 * n + 3 + 1 ≤ 2 * n + 4; omega, by show 8 + (7 + 11) + (80 * n + 100) ≤ 80 * n + 140; omega⟩) (rT_preV hP hK hT (va_recv (q := (RX0, TX0, 10)) (q0 := 0) hK hP rfl rfl)) rfl rfl hl.1 rfl (lv_room (Nat.le_of_ble_eq_true rfl)) dX0_firstOfBoth_19 ⟨Nat.le_refl _, Nat.le_refl _⟩) (fun r0 hr0 => ?_)
    subst hr0
    refine lv_istore hx hb dX0_firstOfBoth_22 hl (by decide) rfl (fun ls hl => ?_)
    have hl : lv_has ls 8 [(6, .int (rs (fs (PX c Y Z) w (h + 6 - (d + 1)) (a + 2 ^ d) (d + 1)))), (5, .int (nI (2 ^ d))), (0, .ref o), (1, .int (nI d)), (2, .int (nI a)), (3, .long x)] := hl
    refine lv_iload hx hb dX0_firstOfBoth_24 (lv_at hl 0 rfl) ?_
    refine lv_bipush (v := (-2)) hx hb dX0_firstOfBoth_26 (by decide) ?_
    refine lv_icmp_eq hx hb dX0_firstOfBoth_28 (tgt := 34) (by decide) (fun hq => ?_) (fun hq => ?_)
    · refine lv_iload hx hb dX0_firstOfBoth_34 (lv_at hl 1 rfl) ?_
      refine lv_iconst (v := nI 1) hx hb dX0_firstOfBoth_36 (by decide) ?_
      refine lv_iload_n hx hb dX0_firstOfBoth_37 rfl (lv_at hl 3 rfl) ?_
      refine lv_ishl hx hb dX0_firstOfBoth_38 ?_
      refine cs_top (y := nI (2 ^ d)) (cs_one (by omega)) ?_
      refine lv_ixor hx hb dX0_firstOfBoth_39 ?_
      refine cs_top (y := nI ((2 ^ d) ^^^ (2 ^ d))) (cs_xor (2 ^ d) (2 ^ d)) ?_
      refine cs_top (y := nI 0) (congrArg nI (Nat.xor_self (2 ^ d))) ?_
      refine lv_istore hx hb dX0_firstOfBoth_40 hl (by decide) rfl (fun ls hl => ?_)
      have hl : lv_has ls 8 [(7, .int (nI 0)), (6, .int (rs (fs (PX c Y Z) w (h + 6 - (d + 1)) (a + 2 ^ d) (d + 1)))), (5, .int (nI (2 ^ d))), (0, .ref o), (1, .int (nI d)), (2, .int (nI a)), (3, .long x)] := hl
      refine lv_aload_n hx hb dX0_firstOfBoth_42 rfl (lv_at hl 3 rfl) ?_
      refine lv_iload_n hx hb dX0_firstOfBoth_43 rfl (lv_at hl 4 rfl) ?_
      refine lv_iconst (v := nI 1) hx hb dX0_firstOfBoth_44 (by decide) ?_
      refine lv_iadd hx hb dX0_firstOfBoth_45 ?_
      refine cs_top (y := nI (d + 1)) (nI_add d 1) ?_
      refine lv_iload_n hx hb dX0_firstOfBoth_46 rfl (lv_at hl 5 rfl) ?_
      refine lv_iload hx hb dX0_firstOfBoth_47 (lv_at hl 0 rfl) ?_
      refine lv_ior hx hb dX0_firstOfBoth_49 ?_
      refine cs_top (y := nI (a ||| 0)) (cs_or a 0) ?_
      refine cs_top (y := nI a) (congrArg nI (Nat.or_zero a)) ?_
      refine lv_lload_n hx hb dX0_firstOfBoth_50 rfl (lv_at hl 6 rfl) ?_
      refine vp_callSi (W.runV (As := [.int (nI (d + 1)), .int (nI a), .long x]) (rest := []) ⟨hx, hb, hml, hown, hts⟩ (hFB a x (by omega) O) (cwV 3 hts gX0_firstOfBoth_X0_firstBelow rfl rfl rfl (by decide +kernel) ⟨by show 2 * n + 3 + 1 ≤ 2 * n + 4; omega, by show 8 + (7 + 11) + (80 * n + 100) ≤ 80 * n + 140; omega⟩) (rT_preV hP hK hT (va_recv (q := (RX0, TX0, 10)) (q0 := 0) hK hP rfl rfl)) rfl rfl hl.1 rfl (lv_room (Nat.le_of_ble_eq_true rfl)) dX0_firstOfBoth_51 ⟨Nat.le_refl _, Nat.le_refl _⟩) (fun r0 hr0 => ?_)
      subst hr0
      exact W.iret (v := rs (fs (PX c Y Z) w (h + 6 - (d + 1)) a (d + 1))) hx hb hr (fun t ht hW => ⟨rs (fs (PX c Y Z) w (h + 6 - (d + 1)) a (d + 1)), rfl, by rw [show h + 6 - d = (h + 6 - (d + 1)) + 1 by omega, fs_st hbit, or_right ((rs_neg (hlt _ · (by omega))).mp hq)], ht⟩) (fun q h => by cases h) dX0_firstOfBoth_54
    · refine lv_iload hx hb dX0_firstOfBoth_31 (lv_at hl 0 rfl) ?_
      exact W.iret (v := rs (fs (PX c Y Z) w (h + 6 - (d + 1)) (a + 2 ^ d) (d + 1))) hx hb hr (fun t ht hW => ⟨rs (fs (PX c Y Z) w (h + 6 - (d + 1)) (a + 2 ^ d) (d + 1)), rfl, by rw [show h + 6 - d = (h + 6 - (d + 1)) + 1 by omega, fs_st hbit, or_left (fun z9 => hq (by rw [z9]; rfl))], ht⟩) (fun q h => by cases h) dX0_firstOfBoth_33
  | false =>
    refine lv_iand hx hb dX0_firstOfBoth_7 ?_
    refine cs_top (y := nI (w &&& (2 ^ d))) (cs_and w (2 ^ d)) ?_
    refine cs_top (y := nI 0) (congrArg nI (cs_and_pow0 hbit)) ?_
    refine lv_istore hx hb dX0_firstOfBoth_8 hl (by decide) rfl (fun ls hl => ?_)
    have hl : lv_has ls 8 [(5, .int (nI 0)), (0, .ref o), (1, .int (nI d)), (2, .int (nI a)), (3, .long x)] := hl
    refine lv_aload_n hx hb dX0_firstOfBoth_10 rfl (lv_at hl 1 rfl) ?_
    refine lv_iload_n hx hb dX0_firstOfBoth_11 rfl (lv_at hl 2 rfl) ?_
    refine lv_iconst (v := nI 1) hx hb dX0_firstOfBoth_12 (by decide) ?_
    refine lv_iadd hx hb dX0_firstOfBoth_13 ?_
    refine cs_top (y := nI (d + 1)) (nI_add d 1) ?_
    refine lv_iload_n hx hb dX0_firstOfBoth_14 rfl (lv_at hl 3 rfl) ?_
    refine lv_iload hx hb dX0_firstOfBoth_15 (lv_at hl 0 rfl) ?_
    refine lv_ior hx hb dX0_firstOfBoth_17 ?_
    refine cs_top (y := nI (a ||| 0)) (cs_or a 0) ?_
    refine cs_top (y := nI a) (congrArg nI (Nat.or_zero a)) ?_
    refine lv_lload_n hx hb dX0_firstOfBoth_18 rfl (lv_at hl 4 rfl) ?_
    refine vp_callSi (W.runV (As := [.int (nI (d + 1)), .int (nI a), .long x]) (rest := []) ⟨hx, hb, hml, hown, hts⟩ (hFB a x (by omega) O) (cwV 3 hts gX0_firstOfBoth_X0_firstBelow rfl rfl rfl (by decide +kernel) ⟨by show 2 * n + 3 + 1 ≤ 2 * n + 4; omega, by show 8 + (7 + 11) + (80 * n + 100) ≤ 80 * n + 140; omega⟩) (rT_preV hP hK hT (va_recv (q := (RX0, TX0, 10)) (q0 := 0) hK hP rfl rfl)) rfl rfl hl.1 rfl (lv_room (Nat.le_of_ble_eq_true rfl)) dX0_firstOfBoth_19 ⟨Nat.le_refl _, Nat.le_refl _⟩) (fun r0 hr0 => ?_)
    subst hr0
    refine lv_istore hx hb dX0_firstOfBoth_22 hl (by decide) rfl (fun ls hl => ?_)
    have hl : lv_has ls 8 [(6, .int (rs (fs (PX c Y Z) w (h + 6 - (d + 1)) a (d + 1)))), (5, .int (nI 0)), (0, .ref o), (1, .int (nI d)), (2, .int (nI a)), (3, .long x)] := hl
    refine lv_iload hx hb dX0_firstOfBoth_24 (lv_at hl 0 rfl) ?_
    refine lv_bipush (v := (-2)) hx hb dX0_firstOfBoth_26 (by decide) ?_
    refine lv_icmp_eq hx hb dX0_firstOfBoth_28 (tgt := 34) (by decide) (fun hq => ?_) (fun hq => ?_)
    · refine lv_iload hx hb dX0_firstOfBoth_34 (lv_at hl 1 rfl) ?_
      refine lv_iconst (v := nI 1) hx hb dX0_firstOfBoth_36 (by decide) ?_
      refine lv_iload_n hx hb dX0_firstOfBoth_37 rfl (lv_at hl 3 rfl) ?_
      refine lv_ishl hx hb dX0_firstOfBoth_38 ?_
      refine cs_top (y := nI (2 ^ d)) (cs_one (by omega)) ?_
      refine lv_ixor hx hb dX0_firstOfBoth_39 ?_
      refine cs_top (y := nI (0 ^^^ (2 ^ d))) (cs_xor 0 (2 ^ d)) ?_
      refine cs_top (y := nI (2 ^ d)) (congrArg nI (Nat.zero_xor (2 ^ d))) ?_
      refine lv_istore hx hb dX0_firstOfBoth_40 hl (by decide) rfl (fun ls hl => ?_)
      have hl : lv_has ls 8 [(7, .int (nI (2 ^ d))), (6, .int (rs (fs (PX c Y Z) w (h + 6 - (d + 1)) a (d + 1)))), (5, .int (nI 0)), (0, .ref o), (1, .int (nI d)), (2, .int (nI a)), (3, .long x)] := hl
      refine lv_aload_n hx hb dX0_firstOfBoth_42 rfl (lv_at hl 3 rfl) ?_
      refine lv_iload_n hx hb dX0_firstOfBoth_43 rfl (lv_at hl 4 rfl) ?_
      refine lv_iconst (v := nI 1) hx hb dX0_firstOfBoth_44 (by decide) ?_
      refine lv_iadd hx hb dX0_firstOfBoth_45 ?_
      refine cs_top (y := nI (d + 1)) (nI_add d 1) ?_
      refine lv_iload_n hx hb dX0_firstOfBoth_46 rfl (lv_at hl 5 rfl) ?_
      refine lv_iload hx hb dX0_firstOfBoth_47 (lv_at hl 0 rfl) ?_
      refine lv_ior hx hb dX0_firstOfBoth_49 ?_
      refine cs_top (y := nI (a ||| (2 ^ d))) (cs_or a (2 ^ d)) ?_
      refine cs_top (y := nI (a + 2 ^ d)) (congrArg nI (TI_or ha)) ?_
      refine lv_lload_n hx hb dX0_firstOfBoth_50 rfl (lv_at hl 6 rfl) ?_
      refine vp_callSi (W.runV (As := [.int (nI (d + 1)), .int (nI (a + 2 ^ d)), .long x]) (rest := []) ⟨hx, hb, hml, hown, hts⟩ (hFB (a + 2 ^ d) x (by omega) O2) (cwV 3 hts gX0_firstOfBoth_X0_firstBelow rfl rfl rfl (by decide +kernel) ⟨by show 2 * n + 3 + 1 ≤ 2 * n + 4; omega, by show 8 + (7 + 11) + (80 * n + 100) ≤ 80 * n + 140; omega⟩) (rT_preV hP hK hT (va_recv (q := (RX0, TX0, 10)) (q0 := 0) hK hP rfl rfl)) rfl rfl hl.1 rfl (lv_room (Nat.le_of_ble_eq_true rfl)) dX0_firstOfBoth_51 ⟨Nat.le_refl _, Nat.le_refl _⟩) (fun r0 hr0 => ?_)
      subst hr0
      exact W.iret (v := rs (fs (PX c Y Z) w (h + 6 - (d + 1)) (a + 2 ^ d) (d + 1))) hx hb hr (fun t ht hW => ⟨rs (fs (PX c Y Z) w (h + 6 - (d + 1)) (a + 2 ^ d) (d + 1)), rfl, by rw [show h + 6 - d = (h + 6 - (d + 1)) + 1 by omega, fs_sf hbit, or_right ((rs_neg (hlt _ · (by omega))).mp hq)], ht⟩) (fun q h => by cases h) dX0_firstOfBoth_54
    · refine lv_iload hx hb dX0_firstOfBoth_31 (lv_at hl 0 rfl) ?_
      exact W.iret (v := rs (fs (PX c Y Z) w (h + 6 - (d + 1)) a (d + 1))) hx hb hr (fun t ht hW => ⟨rs (fs (PX c Y Z) w (h + 6 - (d + 1)) a (d + 1)), rfl, by rw [show h + 6 - d = (h + 6 - (d + 1)) + 1 by omega, fs_sf hbit, or_left (fun z9 => hq (by rw [z9]; rfl))], ht⟩) (fun q h => by cases h) dX0_firstOfBoth_33
set_option maxHeartbeats 4000000 in
set_option maxRecDepth 100000 in
theorem c_firstBelow_leaf (l : Launch) (tt : Nat) (dC : Nat → ClassId) (dI : Nat → Nat → Nat) (o a1 a2 a3 a4 : Nat) (c1 c2 c3 c4 : ClassId) (N h w y z c : Nat) (f1 f2 f3 : Nat → Int32) (f4 : Nat → Int64) (hN : N ≤ 16) (hNh : h = N - 6) (hw : w < 2 ^ N) (hc : c ≤ 400) {Y Z : Nat → Nat} (R : RX N h c Y Z f1 f2 f3 f4) {d a : Nat} (hd : d = h) (ha : a < 2 ^ d) {x : Int64} (O : OP h c Y Z f3 d a x) : Met l yX0_firstBelow wsX0_firstBelow ({ frames := (2 * 0 + 3), cells := 0, slots := 0, locals := (80 * 0 + 100) }) (va_Pc [.ref o, .int (nI d), .int (nI a), .long x] (rX tt (rW (dC, dI) vwCl (xC o a1 a2 a3 a4 c1 c2 c3 c4 (nI N) (nI h) (nI w) (nI y) (nI z) (nI c) f1 f2 f3 f4) (xT c1 c2 c3 c4)))) (vp_Si (fun r => r = rs (fs (PX c Y Z) w (h + 6 - d) a d))) 0 0 (fun _ => False) := by
  refine Met.ofW (cc := cX0_firstBelow) (maxL := 7) (ret := some .int) (by decide) rfl ?_
  intro p e s m args below meth c0 s₁ B hml hv0
  obtain ⟨rfl, ⟨hP, hK⟩, hT⟩ := hv0
  have hx := B.exec
  have hb := B.bytes
  have hr := B.returns
  have hts := atoms_spec (ws := wsX0_firstBelow) B.pre
  have hown : s.vm.findClass RX0 = some m.cls := findClass_of_methodNamed B.named
  have hlocks := B.notSynchronized
  have hP : va_P (dC, dI) vwCl (xC o a1 a2 a3 a4 c1 c2 c3 c4 (nI N) (nI h) (nI w) (nI y) (nI z) (nI c) f1 f2 f3 f4) s.heap := hP
  have hin0 : ∀ w ∈ u_ws RX0 TX0 10, w ∈ wsX0_firstBelow := by decide +kernel
  have hl := lv_entry ([.ref o, .int (nI d), .int (nI a), .long x]) (n := 7) (Nat.le_of_ble_eq_true rfl)
  rw [lg_entry_eq]
  generalize (lg_sl ([.ref o, .int (nI d), .int (nI a), .long x]) ++ List.replicate (7 - (lg_sl ([.ref o, .int (nI d), .int (nI a), .long x])).length) Slot.unset).toArray = ls at hl ⊢
  have hl : lv_has ls 7 [(0, .ref o), (1, .int (nI d)), (2, .int (nI a)), (3, .long x)] := hl
  have hah : a < 2 ^ h := Nat.lt_of_lt_of_le ha (Nat.pow_le_pow_right (by decide) (by omega))
  refine lv_aload_n hx hb dX0_firstBelow_0 rfl (lv_at hl 0 rfl) ?_
  refine lv_iload_n hx hb dX0_firstBelow_1 rfl (lv_at hl 1 rfl) ?_
  refine lv_iload_n hx hb dX0_firstBelow_2 rfl (lv_at hl 2 rfl) ?_
  refine lv_lload_n hx hb dX0_firstBelow_3 rfl (lv_at hl 3 rfl) ?_
  refine vp_callSl (W.runV (As := [.int (nI d), .int (nI a), .long x]) (rest := []) ⟨hx, hb, hml, hown, hts⟩ (c_narrowed l dC dI o a1 a2 a3 a4 c1 c2 c3 c4 N h w y z c f1 f2 f3 f4 R hc (by omega) (by omega) a x) (cwV 3 hts gX0_firstBelow_X0_narrowed rfl rfl rfl (by decide +kernel) ⟨by show 1 + 1 ≤ 2 * 0 + 3; omega, by show 8 + (8 + 11) + 30 ≤ 80 * 0 + 100; omega⟩) (rW_preV hP hK (va_recv (q := (RX0, TX0, 10)) (q0 := 0) hK hP rfl rfl)) rfl rfl hl.1 rfl (lv_room (Nat.le_of_ble_eq_true rfl)) dX0_firstBelow_4 ⟨Nat.le_refl _, Nat.le_refl _⟩) (fun u hr0 => ?_)
  have O2 := OP_next R hah O hr0
  refine lv_lstore hx hb dX0_firstBelow_7 hl (by decide) rfl (fun ls hl => ?_)
  have hl : lv_has ls 7 [(5, .long u), (0, .ref o), (1, .int (nI d)), (2, .int (nI a)), (3, .long x)] := hl
  refine lv_lload hx hb dX0_firstBelow_9 (lv_at hl 0 rfl) ?_
  refine lv_lconst (v := 0) hx hb dX0_firstBelow_11 (by decide) ?_
  refine W.lcmp hx hb dX0_firstBelow_12 ?_
  refine lv_if_ne hx hb dX0_firstBelow_13 (tgt := 19) (by decide) (fun hq => ?_) (fun hq => ?_)
  · refine lv_iload_n hx hb dX0_firstBelow_19 rfl (lv_at hl 2 rfl) ?_
    refine lv_aload_n hx hb dX0_firstBelow_20 rfl (lv_at hl 1 rfl) ?_
    refine va_get (D := (dC, dI)) (ci := 0) (v := .int (nI h)) (C := RX0) (T := TX0) (N := 10) hx hb hts hin0 hown hK hP 0 rfl rfl 1 (by decide) (hts (.fieldLink RX0 22 "ClauseSolver" "heads" "I") (by decide +kernel)) (fun _ h9 => h9) rfl dX0_firstBelow_21 ?_
    refine lv_icmp_lt hx hb dX0_firstBelow_24 (tgt := 41) (by decide) (fun hq => absurd hq (nI_nlt (by omega) (by omega))) (fun _ => ?_)
    refine lv_iload_n hx hb dX0_firstBelow_27 rfl (lv_at hl 3 rfl) ?_
    refine lv_aload_n hx hb dX0_firstBelow_28 rfl (lv_at hl 1 rfl) ?_
    refine lv_lload hx hb dX0_firstBelow_29 (lv_at hl 0 rfl) ?_
    refine vp_callSi (W.runV (As := [.long u]) (rest := [.int (nI a)]) ⟨hx, hb, hml, hown, hts⟩ (c_firstTail l tt dC dI o a1 a2 a3 a4 c1 c2 c3 c4 N h w y z c f1 f2 f3 f4 (by omega) (Nat.lt_of_lt_of_le hw (cs_p16 hN)) (fun z9 => hq (cs_lcmp.mpr z9))) (cwV 1 hts gX0_firstBelow_X0_firstTail rfl rfl rfl (by decide +kernel) ⟨by show 1 + 1 ≤ 2 * 0 + 3; omega, by show 8 + (13 + 11) + 30 ≤ 80 * 0 + 100; omega⟩) (rT_preV hP hK hT (va_recv (q := (RX0, TX0, 10)) (q0 := 0) hK hP rfl rfl)) rfl rfl hl.1 rfl (lv_room (Nat.le_of_ble_eq_true rfl)) dX0_firstBelow_31 ⟨Nat.le_refl _, Nat.le_refl _⟩) (fun r0 hr0 => ?_)
    obtain ⟨τ, rfl, hτ, hfs⟩ := hr0
    have h16 : h + 6 ≤ 16 := by omega
    have hsh : τ * 2 ^ h < 2 ^ 32 := by have h1 : (τ + 1) * 2 ^ h ≤ 64 * 2 ^ h := Nat.mul_le_mul_right _ hτ; rw [Nat.add_mul] at h1; have h2 := cs_p16 (n := h) (by omega); omega
    refine lv_aload_n hx hb dX0_firstBelow_34 rfl (lv_at hl 1 rfl) ?_
    refine va_get (D := (dC, dI)) (ci := 0) (v := .int (nI h)) (C := RX0) (T := TX0) (N := 10) hx hb hts hin0 hown hK hP 0 rfl rfl 1 (by decide) (hts (.fieldLink RX0 22 "ClauseSolver" "heads" "I") (by decide +kernel)) (fun _ h9 => h9) rfl dX0_firstBelow_35 ?_
    refine lv_ishl hx hb dX0_firstBelow_38 ?_
    refine cs_top (y := nI (τ * 2 ^ h)) (cs_shl (by omega) hsh) ?_
    refine lv_ior hx hb dX0_firstBelow_39 ?_
    refine cs_top (y := nI (a ||| (τ * 2 ^ h))) (cs_or a (τ * 2 ^ h)) ?_
    refine cs_top (y := nI (a + τ * 2 ^ h)) (congrArg nI (cs_orhi hah τ)) ?_
    exact W.iret (v := nI (a + τ * 2 ^ h)) hx hb hr (fun t ht hW => ⟨nI (a + τ * 2 ^ h), rfl, by rw [hd] at O2; rw [hd, show h + 6 - h = 6 by omega, OP_leaf (by omega) R O2 hfs]; rfl, ht⟩) (fun q h => by cases h) dX0_firstBelow_40
  · refine lv_bipush (v := (-2)) hx hb dX0_firstBelow_16 (by decide) ?_
    exact W.iret (v := (-2)) hx hb hr (fun t ht hW => ⟨(-2), rfl, by rw [OP_none (by omega) R (by omega) ha (by have z9 := O2; rw [cs_lcmp.mp hq] at z9; exact z9)]; rfl, ht⟩) (fun q h => by cases h) dX0_firstBelow_18
set_option maxHeartbeats 4000000 in
set_option maxRecDepth 100000 in
theorem c_firstBelow_up (l : Launch) (tt : Nat) (dC : Nat → ClassId) (dI : Nat → Nat → Nat) (o a1 a2 a3 a4 : Nat) (c1 c2 c3 c4 : ClassId) (N h w y z c : Nat) (f1 f2 f3 : Nat → Int32) (f4 : Nat → Int64) (hN : N ≤ 16) (hNh : h = N - 6) (hw : w < 2 ^ N) (hc : c ≤ 400) {Y Z : Nat → Nat} (R : RX N h c Y Z f1 f2 f3 f4) (n : Nat) {d a : Nat} (hd : d < h) (ha : a < 2 ^ d) {x : Int64} (O : OP h c Y Z f3 d a x) (hFO : ∀ (x : Int64), OP h c Y Z f3 (d + 1) a x → Met l yX0_firstOfBoth wsX0_firstOfBoth ({ frames := (2 * n + 4), cells := 0, slots := 0, locals := (80 * n + 140) }) (va_Pc [.ref o, .int (nI d), .int (nI a), .long x] (rX tt (rW (dC, dI) vwCl (xC o a1 a2 a3 a4 c1 c2 c3 c4 (nI N) (nI h) (nI w) (nI y) (nI z) (nI c) f1 f2 f3 f4) (xT c1 c2 c3 c4)))) (vp_Si (fun r => r = rs (fs (PX c Y Z) w (h + 6 - d) a d))) 0 0 (fun _ => False)) : Met l yX0_firstBelow wsX0_firstBelow ({ frames := (2 * (n + 1) + 3), cells := 0, slots := 0, locals := (80 * (n + 1) + 100) }) (va_Pc [.ref o, .int (nI d), .int (nI a), .long x] (rX tt (rW (dC, dI) vwCl (xC o a1 a2 a3 a4 c1 c2 c3 c4 (nI N) (nI h) (nI w) (nI y) (nI z) (nI c) f1 f2 f3 f4) (xT c1 c2 c3 c4)))) (vp_Si (fun r => r = rs (fs (PX c Y Z) w (h + 6 - d) a d))) 0 0 (fun _ => False) := by
  refine Met.ofW (cc := cX0_firstBelow) (maxL := 7) (ret := some .int) (by decide) rfl ?_
  intro p e s m args below meth c0 s₁ B hml hv0
  obtain ⟨rfl, ⟨hP, hK⟩, hT⟩ := hv0
  have hx := B.exec
  have hb := B.bytes
  have hr := B.returns
  have hts := atoms_spec (ws := wsX0_firstBelow) B.pre
  have hown : s.vm.findClass RX0 = some m.cls := findClass_of_methodNamed B.named
  have hlocks := B.notSynchronized
  have hP : va_P (dC, dI) vwCl (xC o a1 a2 a3 a4 c1 c2 c3 c4 (nI N) (nI h) (nI w) (nI y) (nI z) (nI c) f1 f2 f3 f4) s.heap := hP
  have hin0 : ∀ w ∈ u_ws RX0 TX0 10, w ∈ wsX0_firstBelow := by decide +kernel
  have hl := lv_entry ([.ref o, .int (nI d), .int (nI a), .long x]) (n := 7) (Nat.le_of_ble_eq_true rfl)
  rw [lg_entry_eq]
  generalize (lg_sl ([.ref o, .int (nI d), .int (nI a), .long x]) ++ List.replicate (7 - (lg_sl ([.ref o, .int (nI d), .int (nI a), .long x])).length) Slot.unset).toArray = ls at hl ⊢
  have hl : lv_has ls 7 [(0, .ref o), (1, .int (nI d)), (2, .int (nI a)), (3, .long x)] := hl
  have hah : a < 2 ^ h := Nat.lt_of_lt_of_le ha (Nat.pow_le_pow_right (by decide) (by omega))
  refine lv_aload_n hx hb dX0_firstBelow_0 rfl (lv_at hl 0 rfl) ?_
  refine lv_iload_n hx hb dX0_firstBelow_1 rfl (lv_at hl 1 rfl) ?_
  refine lv_iload_n hx hb dX0_firstBelow_2 rfl (lv_at hl 2 rfl) ?_
  refine lv_lload_n hx hb dX0_firstBelow_3 rfl (lv_at hl 3 rfl) ?_
  refine vp_callSl (W.runV (As := [.int (nI d), .int (nI a), .long x]) (rest := []) ⟨hx, hb, hml, hown, hts⟩ (c_narrowed l dC dI o a1 a2 a3 a4 c1 c2 c3 c4 N h w y z c f1 f2 f3 f4 R hc (by omega) (by omega) a x) (cwV 3 hts gX0_firstBelow_X0_narrowed rfl rfl rfl (by decide +kernel) ⟨by show 1 + 1 ≤ 2 * (n + 1) + 3; omega, by show 8 + (8 + 11) + 30 ≤ 80 * (n + 1) + 100; omega⟩) (rW_preV hP hK (va_recv (q := (RX0, TX0, 10)) (q0 := 0) hK hP rfl rfl)) rfl rfl hl.1 rfl (lv_room (Nat.le_of_ble_eq_true rfl)) dX0_firstBelow_4 ⟨Nat.le_refl _, Nat.le_refl _⟩) (fun u hr0 => ?_)
  have O2 := OP_next R hah O hr0
  refine lv_lstore hx hb dX0_firstBelow_7 hl (by decide) rfl (fun ls hl => ?_)
  have hl : lv_has ls 7 [(5, .long u), (0, .ref o), (1, .int (nI d)), (2, .int (nI a)), (3, .long x)] := hl
  refine lv_lload hx hb dX0_firstBelow_9 (lv_at hl 0 rfl) ?_
  refine lv_lconst (v := 0) hx hb dX0_firstBelow_11 (by decide) ?_
  refine W.lcmp hx hb dX0_firstBelow_12 ?_
  refine lv_if_ne hx hb dX0_firstBelow_13 (tgt := 19) (by decide) (fun hq => ?_) (fun hq => ?_)
  · refine lv_iload_n hx hb dX0_firstBelow_19 rfl (lv_at hl 2 rfl) ?_
    refine lv_aload_n hx hb dX0_firstBelow_20 rfl (lv_at hl 1 rfl) ?_
    refine va_get (D := (dC, dI)) (ci := 0) (v := .int (nI h)) (C := RX0) (T := TX0) (N := 10) hx hb hts hin0 hown hK hP 0 rfl rfl 1 (by decide) (hts (.fieldLink RX0 22 "ClauseSolver" "heads" "I") (by decide +kernel)) (fun _ h9 => h9) rfl dX0_firstBelow_21 ?_
    refine lv_icmp_lt hx hb dX0_firstBelow_24 (tgt := 41) (by decide) (fun _ => ?_) (fun hq => absurd (nI_lt hd (by omega)) hq)
    refine lv_aload_n hx hb dX0_firstBelow_41 rfl (lv_at hl 1 rfl) ?_
    refine lv_iload_n hx hb dX0_firstBelow_42 rfl (lv_at hl 2 rfl) ?_
    refine lv_iload_n hx hb dX0_firstBelow_43 rfl (lv_at hl 3 rfl) ?_
    refine lv_lload hx hb dX0_firstBelow_44 (lv_at hl 0 rfl) ?_
    refine vp_callSi (W.runV (As := [.int (nI d), .int (nI a), .long u]) (rest := []) ⟨hx, hb, hml, hown, hts⟩ (hFO u O2) (cwV 3 hts gX0_firstBelow_X0_firstOfBoth rfl rfl rfl (by decide +kernel) ⟨by show 2 * n + 4 + 1 ≤ 2 * (n + 1) + 3; omega, by show 8 + (8 + 11) + (80 * n + 140) ≤ 80 * (n + 1) + 100; omega⟩) (rT_preV hP hK hT (va_recv (q := (RX0, TX0, 10)) (q0 := 0) hK hP rfl rfl)) rfl rfl hl.1 rfl (lv_room (Nat.le_of_ble_eq_true rfl)) dX0_firstBelow_46 ⟨Nat.le_refl _, Nat.le_refl _⟩) (fun r0 hr0 => ?_)
    subst hr0
    exact W.iret (v := rs (fs (PX c Y Z) w (h + 6 - d) a d)) hx hb hr (fun t ht hW => ⟨rs (fs (PX c Y Z) w (h + 6 - d) a d), rfl, rfl, ht⟩) (fun q h => by cases h) dX0_firstBelow_49
  · refine lv_bipush (v := (-2)) hx hb dX0_firstBelow_16 (by decide) ?_
    exact W.iret (v := (-2)) hx hb hr (fun t ht hW => ⟨(-2), rfl, by rw [OP_none (by omega) R (by omega) ha (by have z9 := O2; rw [cs_lcmp.mp hq] at z9; exact z9)]; rfl, ht⟩) (fun q h => by cases h) dX0_firstBelow_18
set_option maxHeartbeats 4000000 in
/-- the search of the class -/
theorem c_firstBelow (l : Launch) (tt : Nat) (dC : Nat → ClassId) (dI : Nat → Nat → Nat) (o a1 a2 a3 a4 : Nat) (c1 c2 c3 c4 : ClassId) (N h w y z c : Nat) (f1 f2 f3 : Nat → Int32) (f4 : Nat → Int64) (hN : N ≤ 16) (hNh : h = N - 6) (hw : w < 2 ^ N) (hc : c ≤ 400) {Y Z : Nat → Nat} (R : RX N h c Y Z f1 f2 f3 f4) : ∀ (n : Nat) (d a : Nat) (x : Int64), d + n = h → a < 2 ^ d → OP h c Y Z f3 d a x → Met l yX0_firstBelow wsX0_firstBelow ({ frames := (2 * n + 3), cells := 0, slots := 0, locals := (80 * n + 100) }) (va_Pc [.ref o, .int (nI d), .int (nI a), .long x] (rX tt (rW (dC, dI) vwCl (xC o a1 a2 a3 a4 c1 c2 c3 c4 (nI N) (nI h) (nI w) (nI y) (nI z) (nI c) f1 f2 f3 f4) (xT c1 c2 c3 c4)))) (vp_Si (fun r => r = rs (fs (PX c Y Z) w (h + 6 - d) a d))) 0 0 (fun _ => False) := by
  intro n
  induction n with
  | zero => exact fun d a x hd ha O => c_firstBelow_leaf l tt dC dI o a1 a2 a3 a4 c1 c2 c3 c4 N h w y z c f1 f2 f3 f4 hN hNh hw hc R (by omega) ha O
  | succ n ih =>
    exact fun d a x hd ha O => c_firstBelow_up l tt dC dI o a1 a2 a3 a4 c1 c2 c3 c4 N h w y z c f1 f2 f3 f4 hN hNh hw hc R n (by omega) ha O (fun x O2 => c_firstOfBoth l tt dC dI o a1 a2 a3 a4 c1 c2 c3 c4 N h w y z c f1 f2 f3 f4 hN hNh hw hc R n (by omega) ha O2 (fun a2 x2 h2 O3 => ih (d + 1) a2 x2 (by omega) h2 O3))
set_option maxHeartbeats 4000000 in
set_option maxRecDepth 100000 in
theorem c_firstAnswer (l : Launch) (tt : Nat) (dC : Nat → ClassId) (dI : Nat → Nat → Nat) (o a1 a2 a3 a4 : Nat) (c1 c2 c3 c4 : ClassId) (N h w y z c : Nat) (f1 f2 f3 : Nat → Int32) (f4 : Nat → Int64) (hN : N ≤ 16) (hNh : h = N - 6) (hw : w < 2 ^ N) (hc : c ≤ 400) {Y Z : Nat → Nat} (R : RX N h c Y Z f1 f2 f3 f4) : Met l yX0_firstAnswer wsX0_firstAnswer ({ frames := 24, cells := 0, slots := 0, locals := 930 }) (va_Pc [.ref o] (rX tt (rW (dC, dI) vwCl (xC o a1 a2 a3 a4 c1 c2 c3 c4 (nI N) (nI h) (nI w) (nI y) (nI z) (nI c) f1 f2 f3 f4) (xT c1 c2 c3 c4)))) (vp_Si (fun r => r = rs (fs (PX c Y Z) w (h + 6) 0 0))) 0 0 (fun _ => False) := by
  refine Met.ofW (cc := cX0_firstAnswer) (maxL := 1) (ret := some .int) (by decide) rfl ?_
  intro p e s m args below meth c0 s₁ B hml hv0
  obtain ⟨rfl, ⟨hP, hK⟩, hT⟩ := hv0
  have hx := B.exec
  have hb := B.bytes
  have hr := B.returns
  have hts := atoms_spec (ws := wsX0_firstAnswer) B.pre
  have hown : s.vm.findClass RX0 = some m.cls := findClass_of_methodNamed B.named
  have hlocks := B.notSynchronized
  have hP : va_P (dC, dI) vwCl (xC o a1 a2 a3 a4 c1 c2 c3 c4 (nI N) (nI h) (nI w) (nI y) (nI z) (nI c) f1 f2 f3 f4) s.heap := hP
  have hin0 : ∀ w ∈ u_ws RX0 TX0 10, w ∈ wsX0_firstAnswer := by decide +kernel
  have hl := lv_entry ([.ref o]) (n := 1) (Nat.le_of_ble_eq_true rfl)
  rw [lg_entry_eq]
  generalize (lg_sl ([.ref o]) ++ List.replicate (1 - (lg_sl ([.ref o])).length) Slot.unset).toArray = ls at hl ⊢
  have hl : lv_has ls 1 [(0, .ref o)] := hl
  refine lv_aload_n hx hb dX0_firstAnswer_0 rfl (lv_at hl 0 rfl) ?_
  refine lv_iconst (v := nI 0) hx hb dX0_firstAnswer_1 (by decide) ?_
  refine lv_iconst (v := nI 0) hx hb dX0_firstAnswer_2 (by decide) ?_
  refine lv_ldc2 (v := -1) hx hb hown (hts (.constantLong RX0 88 (-1)) (by decide +kernel)) dX0_firstAnswer_3 ?_
  refine vp_callSi (W.runV (As := [.int (nI 0), .int (nI 0), .long (-1)]) (rest := []) ⟨hx, hb, hml, hown, hts⟩ (c_firstBelow l tt dC dI o a1 a2 a3 a4 c1 c2 c3 c4 N h w y z c f1 f2 f3 f4 hN hNh hw hc R h 0 0 (-1) (by omega) (by decide) OP_0) (cwV 3 hts gX0_firstAnswer_X0_firstBelow rfl rfl rfl (by decide +kernel) ⟨by show 2 * h + 3 + 1 ≤ 24; omega, by show 8 + (7 + 11) + (80 * h + 100) ≤ 930; omega⟩) (rT_preV hP hK hT (va_recv (q := (RX0, TX0, 10)) (q0 := 0) hK hP rfl rfl)) rfl rfl hl.1 rfl (lv_room (Nat.le_of_ble_eq_true rfl)) dX0_firstAnswer_6 ⟨Nat.le_refl _, Nat.le_refl _⟩) (fun r0 hr0 => ?_)
  subst hr0
  exact W.iret (v := rs (fs (PX c Y Z) w (h + 6) 0 0)) hx hb hr (fun t ht hW => ⟨rs (fs (PX c Y Z) w (h + 6) 0 0), rfl, rfl, ht⟩) (fun q h => by cases h) dX0_firstAnswer_9
set_option maxHeartbeats 4000000 in
set_option maxRecDepth 100000 in
theorem c_answer (l : Launch) (tt : Nat) (dC : Nat → ClassId) (dI : Nat → Nat → Nat) (o a1 a2 a3 a4 : Nat) (c1 c2 c3 c4 : ClassId) (N h w y z c : Nat) (f1 f2 f3 : Nat → Int32) (f4 : Nat → Int64) (hN : N ≤ 16) (hNh : h = N - 6) (hw : w < 2 ^ N) (hc : c ≤ 400) {Y Z : Nat → Nat} (R : RX N h c Y Z f1 f2 f3 f4) : Met l yX0_answer wsX0_answer ({ frames := 25, cells := 0, slots := 0, locals := 960 }) (va_Pc [.ref o] (rX tt (rW (dC, dI) vwCl (xC o a1 a2 a3 a4 c1 c2 c3 c4 (nI N) (nI h) (nI w) (nI y) (nI z) (nI c) f1 f2 f3 f4) (xT c1 c2 c3 c4)))) (vp_Si (fun r => r = rs (fs (PX c Y Z) w (h + 6) 0 0))) 0 0 (fun _ => False) := by
  refine Met.ofW (cc := cX0_answer) (maxL := 1) (ret := some .int) (by decide) rfl ?_
  intro p e s m args below meth c0 s₁ B hml hv0
  obtain ⟨rfl, ⟨hP, hK⟩, hT⟩ := hv0
  have hx := B.exec
  have hb := B.bytes
  have hr := B.returns
  have hts := atoms_spec (ws := wsX0_answer) B.pre
  have hown : s.vm.findClass RX0 = some m.cls := findClass_of_methodNamed B.named
  have hlocks := B.notSynchronized
  have hP : va_P (dC, dI) vwCl (xC o a1 a2 a3 a4 c1 c2 c3 c4 (nI N) (nI h) (nI w) (nI y) (nI z) (nI c) f1 f2 f3 f4) s.heap := hP
  have hin0 : ∀ w ∈ u_ws RX0 TX0 10, w ∈ wsX0_answer := by decide +kernel
  have hl := lv_entry ([.ref o]) (n := 1) (Nat.le_of_ble_eq_true rfl)
  rw [lg_entry_eq]
  generalize (lg_sl ([.ref o]) ++ List.replicate (1 - (lg_sl ([.ref o])).length) Slot.unset).toArray = ls at hl ⊢
  have hl : lv_has ls 1 [(0, .ref o)] := hl
  refine lv_aload_n hx hb dX0_answer_0 rfl (lv_at hl 0 rfl) ?_
  refine vp_callSi (W.runV (As := []) (rest := []) ⟨hx, hb, hml, hown, hts⟩ (c_firstAnswer l tt dC dI o a1 a2 a3 a4 c1 c2 c3 c4 N h w y z c f1 f2 f3 f4 hN hNh hw hc R) (cwV 0 hts gX0_answer_X0_firstAnswer rfl rfl rfl (by decide +kernel) ⟨Nat.le_of_ble_eq_true rfl, Nat.le_of_ble_eq_true rfl⟩) (rT_preV hP hK hT (va_recv (q := (RX0, TX0, 10)) (q0 := 0) hK hP rfl rfl)) rfl rfl hl.1 rfl (lv_room (Nat.le_of_ble_eq_true rfl)) dX0_answer_1 ⟨Nat.le_refl _, Nat.le_refl _⟩) (fun r0 hr0 => ?_)
  subst hr0
  exact W.iret (v := rs (fs (PX c Y Z) w (h + 6) 0 0)) hx hb hr (fun t ht hW => ⟨rs (fs (PX c Y Z) w (h + 6) 0 0), rfl, rfl, ht⟩) (fun q h => by cases h) dX0_answer_4
set_option maxHeartbeats 4000000 in
set_option maxRecDepth 100000 in
theorem c_solve (l : Launch) (tt : Nat) (dC : Nat → ClassId) (dI : Nat → Nat → Nat) (o a1 a2 a3 a4 : Nat) (c1 c2 c3 c4 : ClassId) (N h w y z c : Nat) (f1 f2 f3 : Nat → Int32) (f4 : Nat → Int64) (hN : N ≤ 16) (hNh : h = N - 6) (hw : w < 2 ^ N) (hc : c ≤ 400) {Y Z : Nat → Nat} (R : RX N h c Y Z f1 f2 f3 f4) : Met l yX0_solve wsX0_solve ({ frames := 25, cells := 0, slots := 0, locals := 960 }) (va_Pc [.ref o] (rX tt (rW (dC, dI) vwCl (xC o a1 a2 a3 a4 c1 c2 c3 c4 (nI N) (nI h) (nI w) (nI y) (nI z) (nI c) f1 f2 f3 f4) (xT c1 c2 c3 c4)))) (vp_Si (fun r => (r = nI 0 ∧ rs (fs (PX c Y Z) w (h + 6) 0 0) = -2) ∨ (r = nI 1 ∧ ¬ rs (fs (PX c Y Z) w (h + 6) 0 0) = -2))) 0 0 (fun _ => False) := by
  refine Met.ofW (cc := cX0_solve) (maxL := 1) (ret := some .boolean) (by decide) rfl ?_
  intro p e s m args below meth c0 s₁ B hml hv0
  obtain ⟨rfl, ⟨hP, hK⟩, hT⟩ := hv0
  have hx := B.exec
  have hb := B.bytes
  have hr := B.returns
  have hts := atoms_spec (ws := wsX0_solve) B.pre
  have hown : s.vm.findClass RX0 = some m.cls := findClass_of_methodNamed B.named
  have hlocks := B.notSynchronized
  have hP : va_P (dC, dI) vwCl (xC o a1 a2 a3 a4 c1 c2 c3 c4 (nI N) (nI h) (nI w) (nI y) (nI z) (nI c) f1 f2 f3 f4) s.heap := hP
  have hin0 : ∀ w ∈ u_ws RX0 TX0 10, w ∈ wsX0_solve := by decide +kernel
  have hl := lv_entry ([.ref o]) (n := 1) (Nat.le_of_ble_eq_true rfl)
  rw [lg_entry_eq]
  generalize (lg_sl ([.ref o]) ++ List.replicate (1 - (lg_sl ([.ref o])).length) Slot.unset).toArray = ls at hl ⊢
  have hl : lv_has ls 1 [(0, .ref o)] := hl
  refine lv_aload_n hx hb dX0_solve_0 rfl (lv_at hl 0 rfl) ?_
  refine vp_callSi (W.runV (As := []) (rest := []) ⟨hx, hb, hml, hown, hts⟩ (c_firstAnswer l tt dC dI o a1 a2 a3 a4 c1 c2 c3 c4 N h w y z c f1 f2 f3 f4 hN hNh hw hc R) (cwV 0 hts gX0_solve_X0_firstAnswer rfl rfl rfl (by decide +kernel) ⟨Nat.le_of_ble_eq_true rfl, Nat.le_of_ble_eq_true rfl⟩) (rT_preV hP hK hT (va_recv (q := (RX0, TX0, 10)) (q0 := 0) hK hP rfl rfl)) rfl rfl hl.1 rfl (lv_room (Nat.le_of_ble_eq_true rfl)) dX0_solve_1 ⟨Nat.le_refl _, Nat.le_refl _⟩) (fun r0 hr0 => ?_)
  subst hr0
  refine lv_bipush (v := (-2)) hx hb dX0_solve_4 (by decide) ?_
  refine lv_icmp_eq hx hb dX0_solve_6 (tgt := 13) (by decide) (fun hq => ?_) (fun hq => ?_)
  · refine lv_iconst (v := nI 0) hx hb dX0_solve_13 (by decide) ?_
    exact W.zret (ty := .boolean) (v := nI 0) hx hb hr (by first | rfl | decide) (fun t ht hW => ⟨nI 0, rfl, Or.inl ⟨rfl, hq⟩, ht⟩) (fun q h => by cases h) dX0_solve_14
  · refine lv_iconst (v := nI 1) hx hb dX0_solve_9 (by decide) ?_
    refine lv_goto hx hb dX0_solve_10 (tgt := 14) (by decide) ?_
    exact W.zret (ty := .boolean) (v := nI 1) hx hb hr (by first | rfl | decide) (fun t ht hW => ⟨nI 1, rfl, Or.inr ⟨rfl, hq⟩, ht⟩) (fun q h => by cases h) dX0_solve_14
