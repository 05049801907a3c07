/-! THE CLAIM OUT OF ONE WALK OF THE LAW'S BODY. Your part is whole_start (and what it stands on); all else here is the same for every law, but numbers. -/
def R_law : String := "ClauseSolverLaw"
def lw_P (b : Addr) (xs : List Int32) (args : Array Value) (s : State) : Prop := args = #[.ref b] ∧ s.IntsAt b xs ∧ xs.length ≤ 1537 ∧ (Jvm.Cond.and given_1 narrow_1).before args s = true
def lw_Q (_ : Array Value) (s : State) (o : Outcome) (t : State) : Prop := o = .returned (some (.int 1)) ∧ Framed s o t [] 600000 7302250
def lw_Z (below : List Frame) (a : Array Value) (s : State) : State → Prop := fun t => ∃ o, t.status = .running ∧ Ended t below o ∧ lw_Q a s o t
/-- the law's own end, with 1 on the stack, nothing written that was there before, its room as the claim has it -/
theorem lw_ret {p : Program} {l : Launch} {e : Env} {s : State} {m : MethodId} {below : List Frame} {meth : Method} {c : Code} {b : Nat} (hx : p.tables.exec = Jvm.exec) (hb : c.code = code) (hr : meth.sig.returnType = ret) (hlocks : meth.locks = false) {pc : Nat} {H : Heap} {ls : Array Slot} (hdg : decode code pc = .ok (.ireturn, 1)) : W p l e room_1 s m #[Value.ref b] below meth c H [] 600000 7302250 (lw_Z below #[Value.ref b] s) (F0 m pc ls [.int 1]) := by
  intro T hT X
  obtain ⟨fs, hret, hrun, hended, hW, hframe⟩ := X.leave (v := some (.int 1)) (hlocks := hlocks) (fun h => by rw [hr] at h; cases h)
  have hmeth' : T.vm.method? m = some meth := X.method'
  refine ⟨T.setFrames fs, ?_, .returned (some (.int 1)), hrun, hended, rfl, ⟨_, rfl⟩, hW, hframe⟩
  jvm_step X.here [X.here.top, hx, hb, hdg, hmeth', hr, ret, narrow_b1]
  (try refine ⟨rfl, ?_⟩); (try refine ⟨rfl, ?_⟩)
  first | (intro acts; rw [hret _ acts rfl rfl rfl]) | rw [hret _ _ rfl rfl rfl]
  exact Steps.refl _
/-- what holds at the law's entry: the machine, the code, the tables' words (any of lw_tbl by 'hts w (by decide +kernel)'), the script of L ints xs at the cell b, what the Statement gives of the start (any of its parts by flat_of_before) -/
def lw_At (p : Program) (s : State) (m : MethodId) (meth : Method) (c : Code) (b L : Nat) (xs : Nat → Int32) : Prop :=
  p.tables.exec = Jvm.exec ∧ c.code = code ∧ meth.sig.returnType = ret ∧ c.maxLocals = 4 ∧ s.vm.findClass R_law = some m.cls ∧ (∀ w ∈ lw_tbl, w.before #[Value.ref b] s = true) ∧ va_X b L xs s s.heap ∧ b < s.heap.size ∧ meth.locks = false ∧ (Jvm.Cond.and given_1 narrow_1).before #[Value.ref b] s = true
theorem lw_gt {i L : Nat} (h : ¬ i + 3 ≤ L) (hL : L ≤ 1537) (hi : i ≤ 1537) : nI L - nI 3 < nI i := by
  rw [Int32.lt_iff_toInt_lt, pk_sub_toInt (by omega) (by omega), nI_toInt (by omega)]
  omega
set_option maxHeartbeats 4000000 in
set_option maxRecDepth 100000 in
theorem law_loop {p : Program} {e : Env} {s : State} {m : MethodId} {below : List Frame} {meth : Method} {c0 : Code} (l : Launch) {b L : Nat} {xs : Nat → Int32} {A : Nat → Prop} {dC : Nat → ClassId} {dI : Nat → Nat → Nat} {ox a1 a2 a3 a4 : Nat} {c1 c2 c3 c4 : ClassId} {om b1 b2 b3 : Nat} {e1 e2 e3 : ClassId} {tt N : Nat} (hL : L ≤ 1537) (hx : p.tables.exec = Jvm.exec) (hb : c0.code = cL_law) (hml : c0.maxLocals = 4) (hown : s.vm.findClass RL = some m.cls) (hts : ∀ w ∈ wsL_law, w.before #[Value.ref b] s = true) (hX : va_X b L xs s s.heap) (hbl : b < s.heap.size) (hbA : ¬ A b) (hA : ∀ q : Nat, s.heap.size ≤ q → A q) (hT : tW RX0 "TAILS_WITH" "[J" tt 6 twv A s s.heap) (hK : va_K (dC, dI) vwCl (xT c1 c2 c3 c4 ++ mT e1 e2 e3) s) (hN : N ≤ 16) (hAs : ∀ q : Nat, A q → s.heap.size ≤ q) (hr : meth.sig.returnType = ret) (hlocks : meth.locks = false) : ∀ (n i : Nat) (H : Heap) (locs : List Loc) (ls : Array Slot), L - i ≤ n → i ≤ 1537 → lwI dC dI ox a1 a2 a3 a4 c1 c2 c3 c4 om b1 b2 b3 e1 e2 e3 N A s.heap H locs → lv_has ls 4 [(0, .ref b), (1, .ref ox), (2, .ref om), (3, .int (nI i))] → W p l e room_1 s m #[Value.ref b] below meth c0 H locs 9 2435 (lw_Z below #[Value.ref b] s) (F0 m 28 ls []) := by
  intro n
  induction n with
  | zero =>
    intro i H locs ls hn hi hI hl
    obtain ⟨w, y, z, c, Y, Z, f1, f2, f3, f4, fo, kn, g1, g2, g3, -, hP, hD, hS⟩ := hI
    refine lv_iload_n hx hb dL_law_28 rfl (lv_at hl 3 rfl) ?_
    refine lv_aload_n hx hb dL_law_29 rfl (lv_at hl 0 rfl) ?_
    refine va_slen hx hb hX hbl hbA hS dL_law_30 ?_
    refine cs_top (y := nI L) (rfl) ?_
    refine lv_iconst (v := nI 3) hx hb dL_law_31 (by decide) ?_
    refine lv_isub hx hb dL_law_32 ?_
    refine lv_icmp_gt hx hb dL_law_33 (tgt := 310) (by decide) (fun _ => ?_) (fun hq => absurd (lw_gt (by omega) hL hi) hq)
    refine va_forget (fun q hq => hAs _ (hS.2.2 q hq)) ?_
    refine W.widen (k := 600000) (n := 7302250) (by decide) (by decide) ?_
    refine lv_iconst (v := 1) hx hb dL_law_310 (by decide) ?_
    exact lw_ret hx hb hr hlocks dL_law_311
  | succ n ih =>
    intro i H locs ls hn hi hI hl
    have hI2 := hI
    obtain ⟨w, y, z, c, Y, Z, f1, f2, f3, f4, fo, kn, g1, g2, g3, -, hP, hD, hS⟩ := hI2
    refine lv_iload_n hx hb dL_law_28 rfl (lv_at hl 3 rfl) ?_
    refine lv_aload_n hx hb dL_law_29 rfl (lv_at hl 0 rfl) ?_
    refine va_slen hx hb hX hbl hbA hS dL_law_30 ?_
    refine cs_top (y := nI L) (rfl) ?_
    refine lv_iconst (v := nI 3) hx hb dL_law_31 (by decide) ?_
    refine lv_isub hx hb dL_law_32 ?_
    by_cases h3 : i + 3 ≤ L
    · refine cs_top (y := nI (L - 3)) (pk_sub (by omega)) ?_
      refine lv_icmp_gt hx hb dL_law_33 (tgt := 310) (by decide) (fun hq => absurd hq (nI_nlt (by omega) (by omega))) (fun _ => ?_)
      refine lv_aload_n hx hb dL_law_36 rfl (lv_at hl 0 rfl) ?_
      refine lv_iload_n hx hb dL_law_37 rfl (lv_at hl 3 rfl) ?_
      refine va_sld (i := nI i) hx hb hX hbl hbA hS (vp_in_nI (by omega) (by omega)) dL_law_38 ?_
      refine cs_top (y := xs i) (congrArg xs (nI_clamp (by omega))) ?_
      refine lv_bipush (v := nI 7) hx hb dL_law_39 (by decide) ?_
      refine lv_iand hx hb dL_law_41 ?_
      obtain ⟨j, hj, ej⟩ := pk_andE (xs i) (m := nI 7) 3 (by decide)
      refine cs_top (y := nI j) (ej) ?_
      have kk : ∀ (H : Heap) (locs : List Loc) (ls : Array Slot), lwI dC dI ox a1 a2 a3 a4 c1 c2 c3 c4 om b1 b2 b3 e1 e2 e3 N A s.heap H locs → lv_has ls 4 [(0, .ref b), (1, .ref ox), (2, .ref om), (3, .int (nI i))] → W p l e room_1 s m #[Value.ref b] below meth c0 H locs 9 2435 (lw_Z below #[Value.ref b] s) (F0 m 304 ls []) := by
        intro H locs ls hI hl
        refine lv_iinc (v := nI (i + 3)) hx hb dL_law_304 hl (k := 3) rfl (cs_inc _ 3) (by decide) rfl (fun ls hl => ?_)
        have hl : lv_has ls 4 [(3, .int (nI (i + 3))), (0, .ref b), (1, .ref ox), (2, .ref om)] := hl
        refine lv_goto hx hb dL_law_307 (tgt := 28) (by decide) ?_
        exact ih (i + 3) H locs ls (by omega) (by omega) hI (lv_sub hl [1, 2, 3, 0] rfl)
      rcases (by omega : j = 0 ∨ j = 1 ∨ j = 2 ∨ j = 3 ∨ j = 4 ∨ j = 5 ∨ j = 6 ∨ j = 7) with h | h | h | h | h | h | h | h
      · subst h
        refine lv_tableIn hx hb dL_law_42 (off := 46) (tgt := 88) (by decide) (by decide) (by decide) (by decide) ?_
        exact law_wish l hL hx hb hml hown hts hX hbl hbA hA hT hK hN (by omega) hI hl kk
      · subst h
        refine lv_tableIn hx hb dL_law_42 (off := 95) (tgt := 137) (by decide) (by decide) (by decide) (by decide) ?_
        exact law_literal l hL hx hb hml hown hts hX hbl hbA hA hT hK hN (by omega) hI hl kk
      · subst h
        refine lv_tableIn hx hb dL_law_42 (off := 144) (tgt := 186) (by decide) (by decide) (by decide) (by decide) ?_
        exact law_clause l hL hx hb hml hown hts hX hbl hbA hA hT hK hN (by omega) hI hl kk
      · subst h
        refine lv_tableIn hx hb dL_law_42 (off := 157) (tgt := 199) (by decide) (by decide) (by decide) (by decide) ?_
        exact law_some l hL hx hb hml hown hts hX hbl hbA hA hT hK hN (by omega) hI hl kk
      · subst h
        refine lv_tableIn hx hb dL_law_42 (off := 190) (tgt := 232) (by decide) (by decide) (by decide) (by decide) ?_
        exact law_drop l hL hx hb hml hown hts hX hbl hbA hA hT hK hN (by omega) hI hl kk
      · subst h
        refine lv_tableIn hx hb dL_law_42 (off := 213) (tgt := 255) (by decide) (by decide) (by decide) (by decide) ?_
        exact law_solve l hL hx hb hml hown hts hX hbl hbA hA hT hK hN (by omega) hI hl kk
      · subst h
        refine lv_tableIn hx hb dL_law_42 (off := 226) (tgt := 268) (by decide) (by decide) (by decide) (by decide) ?_
        exact law_answer l hL hx hb hml hown hts hX hbl hbA hA hT hK hN (by omega) hI hl kk
      · subst h
        refine lv_tableIn hx hb dL_law_42 (off := 239) (tgt := 281) (by decide) (by decide) (by decide) (by decide) ?_
        exact law_count l hL hx hb hml hown hts hX hbl hbA hA hT hK hN (by omega) hI hl kk
    · refine lv_icmp_gt hx hb dL_law_33 (tgt := 310) (by decide) (fun _ => ?_) (fun hq => absurd (lw_gt (h3) hL hi) hq)
      refine va_forget (fun q hq => hAs _ (hS.2.2 q hq)) ?_
      refine W.widen (k := 600000) (n := 7302250) (by decide) (by decide) ?_
      refine lv_iconst (v := 1) hx hb dL_law_310 (by decide) ?_
      exact lw_ret hx hb hr hlocks dL_law_311
