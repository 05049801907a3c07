set_option maxHeartbeats 4000000 in
set_option maxRecDepth 100000 in
/-- the class's table of longs at the start -/
theorem lw_tw {s : State} {b : Nat} {A : Nat → Prop} (hA : ∀ a : Nat, a < s.heap.size → ¬ A a) (htl : (Cond.laysStatic RX0 "TAILS_WITH" "[J").before #[Value.ref b] s = true) (hini : (Cond.initialized RX0).before #[Value.ref b] s = true) (hgv : (Jvm.Cond.and given_1 narrow_1).before #[Value.ref b] s = true) : ∃ tt, tW RX0 "TAILS_WITH" "[J" tt 6 twv A s s.heap := by
  have hs := flat_of_before _ hgv
  have harr : (Cond.arrayOf (.static "ClauseSolver" "TAILS_WITH" "[J") .long).before #[Value.ref b] s = true := hs _ (by decide +kernel)
  have hlen := va_eqt (hs (Cond.eq (.length (.static "ClauseSolver" "TAILS_WITH" "[J")) (.int 6)) (by decide +kernel))
  have h0 := va_eqtl (hs (Cond.eq (.elem (.static "ClauseSolver" "TAILS_WITH" "[J") (.int 0)) (.long (-6148914691236517206))) (by decide +kernel))
  have h1 := va_eqtl (hs (Cond.eq (.elem (.static "ClauseSolver" "TAILS_WITH" "[J") (.int 1)) (.long (-3689348814741910324))) (by decide +kernel))
  have h2 := va_eqtl (hs (Cond.eq (.elem (.static "ClauseSolver" "TAILS_WITH" "[J") (.int 2)) (.long (-1085102592571150096))) (by decide +kernel))
  have h3 := va_eqtl (hs (Cond.eq (.elem (.static "ClauseSolver" "TAILS_WITH" "[J") (.int 3)) (.long (-71777214294589696))) (by decide +kernel))
  have h4 := va_eqtl (hs (Cond.eq (.elem (.static "ClauseSolver" "TAILS_WITH" "[J") (.int 4)) (.long (-281470681808896))) (by decide +kernel))
  have h5 := va_eqtl (hs (Cond.eq (.elem (.static "ClauseSolver" "TAILS_WITH" "[J") (.int 5)) (.long (-4294967296))) (by decide +kernel))
  obtain ⟨tt, he, hT⟩ := va_Tof (N := 6) (f := twv) (A := A) (by decide) harr hlen (fun j hj => by
    rcases (by omega : j = 0 ∨ j = 1 ∨ j = 2 ∨ j = 3 ∨ j = 4 ∨ j = 5) with rfl | rfl | rfl | rfl | rfl | rfl
    · exact h0
    · exact h1
    · exact h2
    · exact h3
    · exact h4
    · exact h5) hA
  exact ⟨tt, va_Zref htl hini he hA, hT⟩
set_option maxRecDepth 100000 in
theorem lw_K {s : State} {b : Nat} (hts : ∀ w ∈ wsL_law, w.before #[Value.ref b] s = true) : ∃ (dC : Nat → ClassId) (dI : Nat → Nat → Nat), va_K (dC, dI) vwCl [] s := by
  obtain ⟨k0, i0, h0⟩ := u_known (ws := wsL_law) (C := RX0) (T := TX0) (N := 10) hts inlX0 (hts (.instantiable RX0 10) (by decide +kernel))
  obtain ⟨k1, i1, h1⟩ := u_known (ws := wsL_law) (C := RX1) (T := TX1) (N := 9) hts inlX1 (hts (.instantiable RX1 9) (by decide +kernel))
  refine ⟨fun k => if k = 0 then k0 else k1, fun k => if k = 0 then i0 else i1, fun c q hq => ?_, fun k q hk => by simp at hk⟩
  match c, hq with
  | 0, hq => cases hq; exact h0
  | 1, hq => cases hq; exact h1
  | c + 2, hq => simp at hq
set_option maxHeartbeats 4000000 in
set_option maxRecDepth 100000 in
theorem whole_start {p : Program} {e : Env} {s : State} {m : MethodId} {below : List Frame} {meth : Method} {c : Code} (l : Launch) {b L : Nat} {xs : Nat → Int32} (hL : L ≤ 1537) (C0 : lw_At p s m meth c b L xs) : W p l e room_1 s m #[Value.ref b] below meth c s.heap [] 0 0 (lw_Z below #[Value.ref b] s) (entryFrame m ([Value.ref b] : List Value).toArray 4) := by
  obtain ⟨hx, hb, hr, hml, hown, htb, hX, hbl, hlocks, hgv⟩ := C0
  have hown : s.vm.findClass RL = some m.cls := hown
  have hts : ∀ w ∈ wsL_law, w.before #[Value.ref b] s = true := fun w h => htb w (wsL_law_in w h)
  obtain ⟨A, hAe⟩ : ∃ A : Nat → Prop, A = fun q => s.heap.size ≤ q := ⟨_, rfl⟩
  have hA : ∀ q : Nat, s.heap.size ≤ q → A q := fun q h => by rw [hAe]; exact h
  have hAs : ∀ q : Nat, A q → s.heap.size ≤ q := fun q h => by rw [hAe] at h; exact h
  have hbA : ¬ A b := fun h => Nat.not_le.mpr hbl (hAs b h)
  obtain ⟨tt, hT⟩ := lw_tw (A := A) (fun a h1 h2 => Nat.not_le.mpr h1 (hAs a h2)) (htb (.laysStatic RX0 "TAILS_WITH" "[J") (by decide +kernel)) (hts (.initialized RX0) (by decide +kernel)) hgv
  obtain ⟨dC, dI, hK⟩ := lw_K hts
  have hP : va_P (dC, dI) vwCl [] s.heap := fun k q h => by simp at h
  have hD : va_D A [] := ⟨fun i j p q h => by simp at h, fun k q h => by simp at h⟩
  have hS : va_S A s.heap s.heap [] := va_S.rf
  have hl := lv_entry ([.ref b]) (n := 4) (Nat.le_of_ble_eq_true rfl)
  rw [lg_entry_eq]
  generalize (lg_sl ([.ref b]) ++ List.replicate (4 - (lg_sl ([.ref b])).length) Slot.unset).toArray = ls at hl ⊢
  have hl : lv_has ls 4 [(0, .ref b)] := hl
  have hfs : ∀ j, j < 10 → defaultValue (tyX0 j) = vp_V [.int 0, .int 0, .int 0, .int 0, .int 0, .int 0, .null, .null, .null, .null] j := fun j hj => by rcases (by omega : j = 0 ∨ j = 1 ∨ j = 2 ∨ j = 3 ∨ j = 4 ∨ j = 5 ∨ j = 6 ∨ j = 7 ∨ j = 8 ∨ j = 9) with rfl | rfl | rfl | rfl | rfl | rfl | rfl | rfl | rfl | rfl <;> rfl
  have hcc : 0 + 1 ≤ room_1.cells := by decide +kernel
  have hss : 0 + 10 ≤ room_1.slots := by decide +kernel
  refine va_new (ci := 0) (fs := [.int 0, .int 0, .int 0, .int 0, .int 0, .int 0, .null, .null, .null, .null]) (C := RX0) (T := TX0) (N := 10) hx hb hts inlX0 tyX0 tyX0_ok hown (hts (.classLink RL 7 RX0) (by decide +kernel)) (hts (.instantiable RX0 10) (by decide +kernel)) (hts (.initialized RX0) (by decide +kernel)) hK hP hD hS hA rfl hfs hcc hss dL_law_0 (fun ox H hP hD hS => ?_)
  have hP : va_P (dC, dI) vwCl [(ox, .inr (0, [.int 0, .int 0, .int 0, .int 0, .int 0, .int 0, .null, .null, .null, .null]))] H := hP
  have hD : va_D A [(ox, .inr (0, [.int 0, .int 0, .int 0, .int 0, .int 0, .int 0, .null, .null, .null, .null]))] := hD
  refine W.widen (k := 1) (n := 10) (by decide) (by decide) ?_
  refine lv_dup hx hb dL_law_3 rfl ?_
  refine lv_aload_n hx hb dL_law_4 rfl (lv_at hl 0 rfl) ?_
  refine lv_iconst (v := nI 0) hx hb dL_law_5 (by decide) ?_
  refine vp_callSi (W.runS (As := [.ref b, .int (nI 0)]) (rest := [.ref ox, .ref ox]) ⟨hx, hb, hml, hown, hts⟩ (l_cell l b L xs hL) (va_cwS 2 hts gL_law_L_cell rfl rfl rfl (by decide +kernel) ⟨by decide +kernel, by decide +kernel⟩) ⟨fun a U g mk q => ⟨q.1, va_X.moved (u := U) (U := U.calling g mk a) (Vm.Alike.refl U.vm) q.2⟩, fun U hU hW => ⟨rfl, by show va_X b L xs U U.heap; rw [hU]; exact (hX.kept (hS.2.1 b hbl hbA)).moved hW.alike⟩⟩ rfl rfl hl.1 rfl (lv_room (Nat.le_of_ble_eq_true rfl)) dL_law_6 ⟨by decide +kernel, by decide +kernel⟩) (fun r0 hr0 => ?_)
  subst hr0
  have hFc := va_free (wc := [(ox, .inr (0, [.int 0, .int 0, .int 0, .int 0, .int 0, .int 0, .null, .null, .null, .null]))]) hD hS hA [0] rfl
  refine va_callv (va_runI (As := [.int (if 0 < L then xs 0 else nI 0)]) (rest := [.ref ox]) ⟨hx, hb, hml, hown, hts⟩ (c_init l dC dI ox H.size (if 0 < L then xs 0 else nI 0)) (cwI 1 hts gL_law_X0_init rfl rfl rfl (hts (.initialized RX0) (by decide +kernel)) (hts (.methodLink RL 15 yX0_init) (by decide +kernel)) (hts (.instanceMethod yX0_init) (by decide +kernel)) rfl (by decide +kernel) ⟨by decide +kernel, by decide +kernel⟩) (wW_preI (hP.sub (ws' := [(ox, .inr (0, [.int 0, .int 0, .int 0, .int 0, .int 0, .int 0, .null, .null, .null, .null]))]) [0] rfl) (hK.sub (tys' := []) [] rfl) (hD.sub (ws' := [(ox, .inr (0, [.int 0, .int 0, .int 0, .int 0, .int 0, .int 0, .null, .null, .null, .null]))]) [0] (by decide) rfl)) rfl rfl hl.1 rfl (lv_room (Nat.le_of_ble_eq_true rfl)) dL_law_9 ⟨by decide +kernel, by decide +kernel⟩) hS (fun q _ h => hFc q h) hFc (fun u t H1 locs ht hvm _ hB hz1 hk1 hS => ?_)
  obtain ⟨⟨a1, a2, a3, a4⟩, c1, c2, c3, c4⟩ := u
  obtain ⟨hP1, hK1, hD1⟩ := hB
  rw [ht] at hP1
  have hK1 := va_K.moved hvm.symm hK1
  obtain ⟨hP, hD⟩ := va_join (wr := []) (w1 := (xC ox a1 a2 a3 a4 c1 c2 c3 c4 (nI (cl (if 0 < L then xs 0 else nI 0))) (nI (cl (if 0 < L then xs 0 else nI 0) - 6)) (nI 0) (nI 0) (nI 0) (nI 0) (fun _ => 0) (fun _ => 0) (fun _ => 0) (fun _ => 0))) hP hD [0] [] rfl rfl (by decide) (by decide) hk1 hFc hP1 hD1
  have hK : va_K (dC, dI) vwCl (xT c1 c2 c3 c4) s := (hK.sub (tys' := []) [] rfl).app hK1
  clear hFc hP1 hD1 hK1 hz1 hk1 ht
  generalize H1 = H at hP hS ⊢
  have hP : va_P (dC, dI) vwCl (xC ox a1 a2 a3 a4 c1 c2 c3 c4 (nI (cl (if 0 < L then xs 0 else nI 0))) (nI (cl (if 0 < L then xs 0 else nI 0) - 6)) (nI 0) (nI 0) (nI 0) (nI 0) (fun _ => 0) (fun _ => 0) (fun _ => 0) (fun _ => 0)) H := hP
  have hD : va_D A (xC ox a1 a2 a3 a4 c1 c2 c3 c4 (nI (cl (if 0 < L then xs 0 else nI 0))) (nI (cl (if 0 < L then xs 0 else nI 0) - 6)) (nI 0) (nI 0) (nI 0) (nI 0) (fun _ => 0) (fun _ => 0) (fun _ => 0) (fun _ => 0)) := hD
  refine W.widen (k := 5) (n := 1610) (by decide) (by decide) ?_
  refine lv_astore_n hx hb dL_law_12 rfl hl (by decide) rfl (fun ls hl => ?_)
  have hl : lv_has ls 4 [(1, .ref ox), (0, .ref b)] := hl
  have hfs : ∀ j, j < 9 → defaultValue (tyX1 j) = vp_V [.int 0, .null, .null, .null, .int 0, .int 0, .int 0, .int 0, .int 0] j := fun j hj => by rcases (by omega : j = 0 ∨ j = 1 ∨ j = 2 ∨ j = 3 ∨ j = 4 ∨ j = 5 ∨ j = 6 ∨ j = 7 ∨ j = 8) with rfl | rfl | rfl | rfl | rfl | rfl | rfl | rfl | rfl <;> rfl
  have hcc : 5 + 1 ≤ room_1.cells := by decide +kernel
  have hss : 1610 + 9 ≤ room_1.slots := by decide +kernel
  refine va_new (ci := 1) (fs := [.int 0, .null, .null, .null, .int 0, .int 0, .int 0, .int 0, .int 0]) (C := RX1) (T := TX1) (N := 9) hx hb hts inlX1 tyX1 tyX1_ok hown (hts (.classLink RL 18 RX1) (by decide +kernel)) (hts (.instantiable RX1 9) (by decide +kernel)) (hts (.initialized RX1) (by decide +kernel)) hK hP hD hS hA rfl hfs hcc hss dL_law_13 (fun om H hP hD hS => ?_)
  have hP : va_P (dC, dI) vwCl ((xC ox a1 a2 a3 a4 c1 c2 c3 c4 (nI (cl (if 0 < L then xs 0 else nI 0))) (nI (cl (if 0 < L then xs 0 else nI 0) - 6)) (nI 0) (nI 0) (nI 0) (nI 0) (fun _ => 0) (fun _ => 0) (fun _ => 0) (fun _ => 0)) ++ [(om, .inr (1, [.int 0, .null, .null, .null, .int 0, .int 0, .int 0, .int 0, .int 0]))]) H := hP
  have hD : va_D A ((xC ox a1 a2 a3 a4 c1 c2 c3 c4 (nI (cl (if 0 < L then xs 0 else nI 0))) (nI (cl (if 0 < L then xs 0 else nI 0) - 6)) (nI 0) (nI 0) (nI 0) (nI 0) (fun _ => 0) (fun _ => 0) (fun _ => 0) (fun _ => 0)) ++ [(om, .inr (1, [.int 0, .null, .null, .null, .int 0, .int 0, .int 0, .int 0, .int 0]))]) := hD
  refine W.widen (k := 6) (n := 1619) (by decide) (by decide) ?_
  refine lv_dup hx hb dL_law_16 rfl ?_
  refine lv_aload_n hx hb dL_law_17 rfl (lv_at hl 1 rfl) ?_
  refine lv_iconst (v := nI 0) hx hb dL_law_18 (by decide) ?_
  refine vp_callSi (W.runS (As := [.ref b, .int (nI 0)]) (rest := [.ref om, .ref om]) ⟨hx, hb, hml, hown, hts⟩ (l_cell l b L xs hL) (va_cwS 2 hts gL_law_L_cell rfl rfl rfl (by decide +kernel) ⟨by decide +kernel, by decide +kernel⟩) ⟨fun a U g mk q => ⟨q.1, va_X.moved (u := U) (U := U.calling g mk a) (Vm.Alike.refl U.vm) q.2⟩, fun U hU hW => ⟨rfl, by show va_X b L xs U U.heap; rw [hU]; exact (hX.kept (hS.2.1 b hbl hbA)).moved hW.alike⟩⟩ rfl rfl hl.1 rfl (lv_room (Nat.le_of_ble_eq_true rfl)) dL_law_19 ⟨by decide +kernel, by decide +kernel⟩) (fun r0 hr0 => ?_)
  subst hr0
  have hFc := va_free (wc := [(om, .inr (1, [.int 0, .null, .null, .null, .int 0, .int 0, .int 0, .int 0, .int 0]))]) hD hS hA [5] rfl
  refine va_callv (va_runI (As := [.int (if 0 < L then xs 0 else nI 0)]) (rest := [.ref om]) ⟨hx, hb, hml, hown, hts⟩ (m_init l dC dI om H.size (if 0 < L then xs 0 else nI 0)) (cwI 1 hts gL_law_X1_init rfl rfl rfl (hts (.initialized RX1) (by decide +kernel)) (hts (.methodLink RL 20 yX1_init) (by decide +kernel)) (hts (.instanceMethod yX1_init) (by decide +kernel)) rfl (by decide +kernel) ⟨by decide +kernel, by decide +kernel⟩) (wW_preI (hP.sub (ws' := [(om, .inr (1, [.int 0, .null, .null, .null, .int 0, .int 0, .int 0, .int 0, .int 0]))]) [5] rfl) (hK.sub (tys' := []) [] rfl) (hD.sub (ws' := [(om, .inr (1, [.int 0, .null, .null, .null, .int 0, .int 0, .int 0, .int 0, .int 0]))]) [5] (by decide) rfl)) rfl rfl hl.1 rfl (lv_room (Nat.le_of_ble_eq_true rfl)) dL_law_22 ⟨by decide +kernel, by decide +kernel⟩) hS (fun q _ h => hFc q h) hFc (fun u t H1 locs ht hvm _ hB hz1 hk1 hS => ?_)
  obtain ⟨⟨b1, b2, b3⟩, e1, e2, e3⟩ := u
  obtain ⟨hP1, hK1, hD1⟩ := hB
  rw [ht] at hP1
  have hK1 := va_K.moved hvm.symm hK1
  obtain ⟨hP, hD⟩ := va_join (wr := (xC ox a1 a2 a3 a4 c1 c2 c3 c4 (nI (cl (if 0 < L then xs 0 else nI 0))) (nI (cl (if 0 < L then xs 0 else nI 0) - 6)) (nI 0) (nI 0) (nI 0) (nI 0) (fun _ => 0) (fun _ => 0) (fun _ => 0) (fun _ => 0))) (w1 := (mC om b1 b2 b3 e1 e2 e3 (nI (cl (if 0 < L then xs 0 else nI 0))) (nI 0) (nI 0) (nI 0) 0 (nI 0) (fun _ => 0) (fun _ => 0) (fun _ => 0))) hP hD [5] [0, 1, 2, 3, 4] rfl rfl (by decide) (by decide) hk1 hFc hP1 hD1
  have hK : va_K (dC, dI) vwCl (xT c1 c2 c3 c4 ++ mT e1 e2 e3) s := (hK.sub (tys' := xT c1 c2 c3 c4) [0, 1, 2, 3] rfl).app hK1
  clear hFc hP1 hD1 hK1 hz1 hk1 ht
  generalize H1 = H at hP hS ⊢
  have hP : va_P (dC, dI) vwCl ((xC ox a1 a2 a3 a4 c1 c2 c3 c4 (nI (cl (if 0 < L then xs 0 else nI 0))) (nI (cl (if 0 < L then xs 0 else nI 0) - 6)) (nI 0) (nI 0) (nI 0) (nI 0) (fun _ => 0) (fun _ => 0) (fun _ => 0) (fun _ => 0)) ++ (mC om b1 b2 b3 e1 e2 e3 (nI (cl (if 0 < L then xs 0 else nI 0))) (nI 0) (nI 0) (nI 0) 0 (nI 0) (fun _ => 0) (fun _ => 0) (fun _ => 0))) H := hP
  have hD : va_D A ((xC ox a1 a2 a3 a4 c1 c2 c3 c4 (nI (cl (if 0 < L then xs 0 else nI 0))) (nI (cl (if 0 < L then xs 0 else nI 0) - 6)) (nI 0) (nI 0) (nI 0) (nI 0) (fun _ => 0) (fun _ => 0) (fun _ => 0) (fun _ => 0)) ++ (mC om b1 b2 b3 e1 e2 e3 (nI (cl (if 0 < L then xs 0 else nI 0))) (nI 0) (nI 0) (nI 0) 0 (nI 0) (fun _ => 0) (fun _ => 0) (fun _ => 0))) := hD
  refine W.widen (k := 9) (n := 2435) (by decide) (by decide) ?_
  refine lv_astore_n hx hb dL_law_25 rfl hl (by decide) rfl (fun ls hl => ?_)
  have hl : lv_has ls 4 [(2, .ref om), (1, .ref ox), (0, .ref b)] := hl
  refine lv_iconst (v := nI 1) hx hb dL_law_26 (by decide) ?_
  refine lv_istore_n hx hb dL_law_27 rfl hl (by decide) rfl (fun ls hl => ?_)
  have hl : lv_has ls 4 [(3, .int (nI 1)), (2, .ref om), (1, .ref ox), (0, .ref b)] := hl
  exact law_loop l hL hx hb hml hown hts hX hbl hbA hA hT hK (cl_bd (if 0 < L then xs 0 else nI 0)).2 hAs hr hlocks L 1 H _ ls (by omega) (by decide) ⟨0, 0, 0, 0, fun _ => 0, fun _ => 0, fun _ => 0, fun _ => 0, fun _ => 0, fun _ => 0, 0, nI 0, fun _ => 0, fun _ => 0, fun _ => 0, ⟨Nat.two_pow_pos _, Nat.two_pow_pos _, Nat.two_pow_pos _, Nat.zero_le _, RX_0, ⟨fun v hv => by rw [Nat.zero_testBit]; rfl, fun k hk => absurd hk (Nat.not_lt_zero _)⟩, Or.inl rfl⟩, hP, hD, hS⟩ (lv_sub hl [3, 2, 1, 0] rfl)
