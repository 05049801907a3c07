/-- a loop that writes nothing: a measure n that falls, the loop's numbers st -/
theorem cs_wl {p : Program} {l : Launch} {e : Env} {R : Room} {s : State} {m : MethodId} {args : Array Value} {below : List Frame} {meth : Method} {c : Code} {H : Heap} {locs : List Loc} {cells slots : Nat} {Q : State → Prop} {pc : Nat} {σ : Type} (I : Nat → σ → Array Slot → Prop)
    (step : ∀ (n : Nat) (st : σ) (ls : Array Slot), I n st ls → (∀ (n' : Nat) (st' : σ) (ls' : Array Slot), n' < n → I n' st' ls' → W p l e R s m args below meth c H locs cells slots Q (F0 m pc ls' [])) → W p l e R s m args below meth c H locs cells slots Q (F0 m pc ls [])) :
    ∀ (n : Nat) (st : σ) (ls : Array Slot), I n st ls → W p l e R s m args below meth c H locs cells slots Q (F0 m pc ls []) := by
  intro n
  induction n using Nat.strongRecOn with
  | _ n ih => exact fun st ls h => step n st ls h (fun n' st' ls' hn h' => ih n' hn st' ls' h')
theorem bI_z {x : Bool} (h : bI x = 0) : x = false := by
  cases x with
  | true => exact absurd h (by decide)
  | false => rfl
theorem bI_nz {x : Bool} (h : ¬ bI x = 0) : x = true := by
  cases x with
  | true => rfl
  | false => exact absurd nI_0 h
theorem cs_dec {n : Nat} (h : 0 < n) : nI n + Int32.ofInt (-1) = nI (n - 1) := by
  rw [show Int32.ofInt (-1) = -1 by decide]
  exact sb_m1 h
theorem NI_zero' {h : Nat} {Y Z : Nat → Nat} {dp : Nat → Int32} {tl : Nat → Int64} {d a k c : Nat} {x z : Int64} (hz : z = 0) (H : NI h Y Z dp tl d a x k z) (hk : k ≤ c) : NI h Y Z dp tl d a x c z := by
  subst hz
  exact NI_zero H hk
theorem RX_dep {N h c : Nat} {Y Z : Nat → Nat} {ht hf dp : Nat → Int32} {tl : Nat → Int64} (hh : h < 2 ^ 31) (R : RX N h c Y Z ht hf dp tl) {k d : Nat} (hk : k < c) (he : (dp k).toNatClampNeg = d) : dp k = nI d := by
  obtain ⟨-, -, -, -, ⟨δ, h1, h2, h3⟩, -⟩ := R k hk
  rw [h2, nI_clamp (by omega)] at he
  rw [h2, he]
theorem hm_z {y n a : Nat} (hy : y < 2 ^ 31) (hn : n < 2 ^ 31) : nI ((y &&& a) ||| (n &&& (a ^^^ 4294967295))) = 0 ↔ ¬ Mt y n a := by
  rw [cs_z (Nat.or_lt_two_pow (Nat.lt_of_le_of_lt Nat.and_le_left hy) (Nat.lt_of_le_of_lt Nat.and_le_left hn)), Mt_head (by omega)]
theorem cs_modlt (x : Nat) {h : Nat} (hh : h ≤ 16) : x % 2 ^ h < 2 ^ 31 := by
  have h1 := Nat.mod_lt x (Nat.two_pow_pos h)
  have h2 := cs_p16 hh
  omega
set_option maxHeartbeats 4000000 in
set_option maxRecDepth 100000 in
theorem c_depthOf (l : Launch) (dC : Nat → ClassId) (dI : Nat → Nat → Nat) (o a1 a2 a3 a4 : Nat) (c1 c2 c3 c4 : ClassId) (N h w y z c : Nat) (f1 f2 f3 : Nat → Int32) (f4 : Nat → Int64) (hh : h ≤ 16) {q : Nat} (hq0 : q < 2 ^ 31) : Met l yX0_depthOf wsX0_depthOf ({ frames := 1, cells := 0, slots := 0, locals := 30 }) (va_Pc [.ref o, .int (nI q)] (rW (dC, dI) vwCl (xC o a1 a2 a3 a4 c1 c2 c3 c4 (nI N) (nI h) (nI w) (nI y) (nI z) (nI c) f1 f2 f3 f4) (xT c1 c2 c3 c4))) (vp_Si (fun r => ∃ δ, r = nI δ ∧ δ ≤ h ∧ ∀ i, δ ≤ i → i < h → q.testBit i = false)) 0 0 (fun _ => False) := by
  refine Met.ofW (cc := cX0_depthOf) (maxL := 3) (ret := some .int) (by decide) rfl ?_
  intro p e s m args below meth c0 s₁ B hml hv0
  obtain ⟨rfl, hP, hK⟩ := hv0
  have hx := B.exec
  have hb := B.bytes
  have hr := B.returns
  have hts := atoms_spec (ws := wsX0_depthOf) B.pre
  have hown : s.vm.findClass RX0 = some m.cls := findClass_of_methodNamed B.named
  have hlocks := B.notSynchronized
  have hP : va_P (dC, dI) vwCl (xC o a1 a2 a3 a4 c1 c2 c3 c4 (nI N) (nI h) (nI w) (nI y) (nI z) (nI c) f1 f2 f3 f4) s.heap := hP
  have hin0 : ∀ w ∈ u_ws RX0 TX0 10, w ∈ wsX0_depthOf := by decide +kernel
  have hl := lv_entry ([.ref o, .int (nI q)]) (n := 3) (Nat.le_of_ble_eq_true rfl)
  rw [lg_entry_eq]
  generalize (lg_sl ([.ref o, .int (nI q)]) ++ List.replicate (3 - (lg_sl ([.ref o, .int (nI q)])).length) Slot.unset).toArray = ls at hl ⊢
  have hl : lv_has ls 3 [(0, .ref o), (1, .int (nI q))] := hl
  refine lv_aload_n hx hb dX0_depthOf_0 rfl (lv_at hl 0 rfl) ?_
  refine va_get (D := (dC, dI)) (ci := 0) (v := .int (nI h)) (C := RX0) (T := TX0) (N := 10) hx hb hts hin0 hown hK hP 0 rfl rfl 1 (by decide) (hts (.fieldLink RX0 22 "ClauseSolver" "heads" "I") (by decide +kernel)) (fun _ h9 => h9) rfl dX0_depthOf_1 ?_
  refine lv_istore_n hx hb dX0_depthOf_4 rfl hl (by decide) rfl (fun ls hl => ?_)
  have hl : lv_has ls 3 [(2, .int (nI h)), (0, .ref o), (1, .int (nI q))] := hl
  refine cs_wl (σ := Unit) (fun n st ls => (n ≤ h ∧ ∀ i, n ≤ i → i < h → q.testBit i = false) ∧ lv_has ls 3 [(0, .ref o), (1, .int (nI q)), (2, .int (nI n))]) ?_ h () ls ⟨⟨Nat.le_refl _, fun i h1 h2 => absurd h1 (Nat.not_le.mpr h2)⟩, lv_sub hl [1, 2, 0] rfl⟩
  clear hl
  intro n st ls hI ih
  obtain ⟨⟨hn, hI⟩, hl⟩ := hI
  have hl : lv_has ls 3 [(0, .ref o), (1, .int (nI q)), (2, .int (nI n))] := hl
  refine lv_iload_n hx hb dX0_depthOf_5 rfl (lv_at hl 2 rfl) ?_
  rcases Nat.eq_zero_or_pos n with h0 | h0
  · refine lv_if_le hx hb dX0_depthOf_6 (tgt := 25) (by decide) (fun _ => ?_) (fun hq => absurd (by rw [h0]; decide) hq)
    refine lv_iload_n hx hb dX0_depthOf_25 rfl (lv_at hl 2 rfl) ?_
    exact W.iret (v := nI n) hx hb hr (fun t ht hW => ⟨nI n, rfl, ⟨n, rfl, hn, hI⟩, ht⟩) (fun q h => by cases h) dX0_depthOf_26
  · refine lv_if_le hx hb dX0_depthOf_6 (tgt := 25) (by decide) (fun hq => absurd hq (nI_nle h0 (by omega))) (fun _ => ?_)
    refine lv_iload_n hx hb dX0_depthOf_9 rfl (lv_at hl 1 rfl) ?_
    refine lv_iload_n hx hb dX0_depthOf_10 rfl (lv_at hl 2 rfl) ?_
    refine lv_iconst (v := nI 1) hx hb dX0_depthOf_11 (by decide) ?_
    refine lv_isub hx hb dX0_depthOf_12 ?_
    refine cs_top (y := nI (n - 1)) (pk_sub h0) ?_
    refine vp_callSi (W.runS (As := [.int (nI q), .int (nI (n - 1))]) (rest := []) ⟨hx, hb, hml, hown, hts⟩ (c_has l hq0 (by omega)) (va_cwS 2 hts gX0_depthOf_X0_has rfl rfl rfl (by decide +kernel) ⟨Nat.le_of_ble_eq_true rfl, Nat.le_of_ble_eq_true rfl⟩) (nW_preS) rfl rfl hl.1 rfl (lv_room (Nat.le_of_ble_eq_true rfl)) dX0_depthOf_13 ⟨Nat.le_refl _, Nat.le_refl _⟩) (fun r0 hr0 => ?_)
    subst hr0
    refine lv_if_ne hx hb dX0_depthOf_16 (tgt := 25) (by decide) (fun hq => ?_) (fun hq => ?_)
    · refine lv_iload_n hx hb dX0_depthOf_25 rfl (lv_at hl 2 rfl) ?_
      exact W.iret (v := nI n) hx hb hr (fun t ht hW => ⟨nI n, rfl, ⟨n, rfl, hn, hI⟩, ht⟩) (fun q h => by cases h) dX0_depthOf_26
    · refine lv_iinc (v := nI (n - 1)) hx hb dX0_depthOf_19 hl (k := 2) rfl (cs_dec h0) (by decide) rfl (fun ls hl => ?_)
      have hl : lv_has ls 3 [(2, .int (nI (n - 1))), (0, .ref o), (1, .int (nI q))] := hl
      refine lv_goto hx hb dX0_depthOf_22 (tgt := 5) (by decide) ?_
      exact ih (n - 1) () ls (by omega) ⟨⟨by omega, fun i h1 h2 => by rcases Nat.lt_or_ge i n with z1 | z1; exact (show i = n - 1 by omega) ▸ bI_z hq; exact hI i z1 h2⟩, lv_sub hl [1, 2, 0] rfl⟩
set_option maxHeartbeats 4000000 in
set_option maxRecDepth 100000 in
theorem c_tailsThatMeet (l : Launch) (tt : Nat) {y z : Nat} (hy : y < 64) (hz : z < 64) : Met l yX0_tailsThatMeet wsX0_tailsThatMeet ({ frames := 1, cells := 0, slots := 0, locals := 30 }) (va_Pc [.int (nI y), .int (nI z)] (rX tt (fun _ => True))) (vp_Sl (fun r => ∀ t, t < 64 → (lb r t = true ↔ Mt y z t))) 0 0 (fun _ => False) := by
  refine Met.ofW (cc := cX0_tailsThatMeet) (maxL := 5) (ret := some .long) (by decide) rfl ?_
  intro p e s m args below meth c0 s₁ B hml hv0
  obtain ⟨rfl, -, hT⟩ := hv0
  have hx := B.exec
  have hb := B.bytes
  have hr := B.returns
  have hts := atoms_spec (ws := wsX0_tailsThatMeet) B.pre
  have hown : s.vm.findClass RX0 = some m.cls := findClass_of_methodNamed B.named
  have hlocks := B.notSynchronized
  have hl := lv_entry ([.int (nI y), .int (nI z)]) (n := 5) (Nat.le_of_ble_eq_true rfl)
  rw [lg_entry_eq]
  generalize (lg_sl ([.int (nI y), .int (nI z)]) ++ List.replicate (5 - (lg_sl ([.int (nI y), .int (nI z)])).length) Slot.unset).toArray = ls at hl ⊢
  have hl : lv_has ls 5 [(0, .int (nI y)), (1, .int (nI z))] := hl
  refine lv_lconst (v := 0) hx hb dX0_tailsThatMeet_0 (by decide) ?_
  refine lv_lstore_n hx hb dX0_tailsThatMeet_1 rfl hl (by decide) rfl (fun ls hl => ?_)
  have hl : lv_has ls 5 [(2, .long 0), (0, .int (nI y)), (1, .int (nI z))] := hl
  refine lv_iconst (v := nI 0) hx hb dX0_tailsThatMeet_2 (by decide) ?_
  refine lv_istore hx hb dX0_tailsThatMeet_3 hl (by decide) rfl (fun ls hl => ?_)
  have hl : lv_has ls 5 [(4, .int (nI 0)), (2, .long 0), (0, .int (nI y)), (1, .int (nI z))] := hl
  refine cs_wl (σ := Nat × Int64) (fun n st ls => (n = 6 - st.1 ∧ st.1 ≤ 6 ∧ MI y z st.1 st.2) ∧ lv_has ls 5 [(0, .int (nI y)), (1, .int (nI z)), (2, .long st.2), (4, .int (nI st.1))]) ?_ 6 (0, 0) ls ⟨⟨rfl, by decide, MI_0⟩, lv_sub hl [2, 3, 1, 0] rfl⟩
  clear hl
  intro n st ls hI ih
  obtain ⟨j, u⟩ := st
  obtain ⟨⟨hn, hj6, hI⟩, hl⟩ := hI
  have hl : lv_has ls 5 [(0, .int (nI y)), (1, .int (nI z)), (2, .long u), (4, .int (nI j))] := hl
  dsimp only at hn hj6 hI
  refine lv_iload hx hb dX0_tailsThatMeet_5 (lv_at hl 3 rfl) ?_
  refine lv_bipush (v := nI 6) hx hb dX0_tailsThatMeet_7 (by decide) ?_
  rcases Nat.lt_or_ge j 6 with hj | hj
  · refine lv_icmp_ge hx hb dX0_tailsThatMeet_9 (tgt := 58) (by decide) (fun hq => absurd hq (nI_ge hj (by decide))) (fun _ => ?_)
    refine lv_iload_n hx hb dX0_tailsThatMeet_12 rfl (lv_at hl 0 rfl) ?_
    refine lv_iload hx hb dX0_tailsThatMeet_13 (lv_at hl 3 rfl) ?_
    refine vp_callSi (W.runS (As := [.int (nI y), .int (nI j)]) (rest := []) ⟨hx, hb, hml, hown, hts⟩ (c_has l (by omega) (by omega)) (va_cwS 2 hts gX0_tailsThatMeet_X0_has rfl rfl rfl (by decide +kernel) ⟨Nat.le_of_ble_eq_true rfl, Nat.le_of_ble_eq_true rfl⟩) (nW_preS) rfl rfl hl.1 rfl (lv_room (Nat.le_of_ble_eq_true rfl)) dX0_tailsThatMeet_15 ⟨Nat.le_refl _, Nat.le_refl _⟩) (fun r0 hr0 => ?_)
    subst hr0
    refine lv_if_eq hx hb dX0_tailsThatMeet_18 (tgt := 30) (by decide) (fun hy1 => ?_) (fun hy1 => ?_)
    · refine lv_iload_n hx hb dX0_tailsThatMeet_30 rfl (lv_at hl 1 rfl) ?_
      refine lv_iload hx hb dX0_tailsThatMeet_31 (lv_at hl 3 rfl) ?_
      refine vp_callSi (W.runS (As := [.int (nI z), .int (nI j)]) (rest := []) ⟨hx, hb, hml, hown, hts⟩ (c_has l (by omega) (by omega)) (va_cwS 2 hts gX0_tailsThatMeet_X0_has rfl rfl rfl (by decide +kernel) ⟨Nat.le_of_ble_eq_true rfl, Nat.le_of_ble_eq_true rfl⟩) (nW_preS) rfl rfl hl.1 rfl (lv_room (Nat.le_of_ble_eq_true rfl)) dX0_tailsThatMeet_33 ⟨Nat.le_refl _, Nat.le_refl _⟩) (fun r0 hr0 => ?_)
      subst hr0
      refine lv_if_eq hx hb dX0_tailsThatMeet_36 (tgt := 52) (by decide) (fun hz1 => ?_) (fun hz1 => ?_)
      · refine lv_iinc (v := nI (j + 1)) hx hb dX0_tailsThatMeet_52 hl (k := 3) rfl (cs_inc _ 1) (by decide) rfl (fun ls hl => ?_)
        have hl : lv_has ls 5 [(4, .int (nI (j + 1))), (0, .int (nI y)), (1, .int (nI z)), (2, .long u)] := hl
        refine lv_goto hx hb dX0_tailsThatMeet_55 (tgt := 5) (by decide) ?_
        exact ih (6 - (j + 1)) (j + 1, u) ls (by omega) ⟨⟨rfl, by show j + 1 ≤ 6; omega, MI_ff hI (bI_z hy1) (bI_z hz1)⟩, lv_sub hl [1, 2, 3, 0] rfl⟩
      · refine lv_lload_n hx hb dX0_tailsThatMeet_39 rfl (lv_at hl 2 rfl) ?_
        refine cs_gett hx hb hT va_S.rf hown (hts (.fieldLink RX0 85 RX0 "TAILS_WITH" "[J") (by decide +kernel)) dX0_tailsThatMeet_40 ?_
        refine lv_iload hx hb dX0_tailsThatMeet_43 (lv_at hl 3 rfl) ?_
        refine cs_tl hx hb hT.2 va_S.rf (hj) (by decide) rfl dX0_tailsThatMeet_45 ?_
        refine lv_ldc2 (v := -1) hx hb hown (hts (.constantLong RX0 88 (-1)) (by decide +kernel)) dX0_tailsThatMeet_46 ?_
        refine lv_lxor hx hb dX0_tailsThatMeet_49 ?_
        refine lv_lor hx hb dX0_tailsThatMeet_50 ?_
        refine lv_lstore_n hx hb dX0_tailsThatMeet_51 rfl hl (by decide) rfl (fun ls hl => ?_)
        have hl : lv_has ls 5 [(2, .long (u ||| ((cs_tw j) ^^^ (-1)))), (0, .int (nI y)), (1, .int (nI z)), (4, .int (nI j))] := hl
        refine lv_iinc (v := nI (j + 1)) hx hb dX0_tailsThatMeet_52 hl (k := 3) rfl (cs_inc _ 1) (by decide) rfl (fun ls hl => ?_)
        have hl : lv_has ls 5 [(4, .int (nI (j + 1))), (2, .long (u ||| ((cs_tw j) ^^^ (-1)))), (0, .int (nI y)), (1, .int (nI z))] := hl
        refine lv_goto hx hb dX0_tailsThatMeet_55 (tgt := 5) (by decide) ?_
        exact ih (6 - (j + 1)) (j + 1, u ||| ((cs_tw j) ^^^ (-1))) ls (by omega) ⟨⟨rfl, by show j + 1 ≤ 6; omega, MI_ft hj hI (bI_z hy1) (bI_nz hz1)⟩, lv_sub hl [2, 3, 1, 0] rfl⟩
    · refine lv_lload_n hx hb dX0_tailsThatMeet_21 rfl (lv_at hl 2 rfl) ?_
      refine cs_gett hx hb hT va_S.rf hown (hts (.fieldLink RX0 85 RX0 "TAILS_WITH" "[J") (by decide +kernel)) dX0_tailsThatMeet_22 ?_
      refine lv_iload hx hb dX0_tailsThatMeet_25 (lv_at hl 3 rfl) ?_
      refine cs_tl hx hb hT.2 va_S.rf (hj) (by decide) rfl dX0_tailsThatMeet_27 ?_
      refine lv_lor hx hb dX0_tailsThatMeet_28 ?_
      refine lv_lstore_n hx hb dX0_tailsThatMeet_29 rfl hl (by decide) rfl (fun ls hl => ?_)
      have hl : lv_has ls 5 [(2, .long (u ||| (cs_tw j))), (0, .int (nI y)), (1, .int (nI z)), (4, .int (nI j))] := hl
      refine lv_iload_n hx hb dX0_tailsThatMeet_30 rfl (lv_at hl 2 rfl) ?_
      refine lv_iload hx hb dX0_tailsThatMeet_31 (lv_at hl 3 rfl) ?_
      refine vp_callSi (W.runS (As := [.int (nI z), .int (nI j)]) (rest := []) ⟨hx, hb, hml, hown, hts⟩ (c_has l (by omega) (by omega)) (va_cwS 2 hts gX0_tailsThatMeet_X0_has rfl rfl rfl (by decide +kernel) ⟨Nat.le_of_ble_eq_true rfl, Nat.le_of_ble_eq_true rfl⟩) (nW_preS) rfl rfl hl.1 rfl (lv_room (Nat.le_of_ble_eq_true rfl)) dX0_tailsThatMeet_33 ⟨Nat.le_refl _, Nat.le_refl _⟩) (fun r0 hr0 => ?_)
      subst hr0
      refine lv_if_eq hx hb dX0_tailsThatMeet_36 (tgt := 52) (by decide) (fun hz1 => ?_) (fun hz1 => ?_)
      · refine lv_iinc (v := nI (j + 1)) hx hb dX0_tailsThatMeet_52 hl (k := 3) rfl (cs_inc _ 1) (by decide) rfl (fun ls hl => ?_)
        have hl : lv_has ls 5 [(4, .int (nI (j + 1))), (2, .long (u ||| (cs_tw j))), (0, .int (nI y)), (1, .int (nI z))] := hl
        refine lv_goto hx hb dX0_tailsThatMeet_55 (tgt := 5) (by decide) ?_
        exact ih (6 - (j + 1)) (j + 1, u ||| (cs_tw j)) ls (by omega) ⟨⟨rfl, by show j + 1 ≤ 6; omega, MI_tf hj hI (bI_nz hy1) (bI_z hz1)⟩, lv_sub hl [2, 3, 1, 0] rfl⟩
      · refine lv_lload_n hx hb dX0_tailsThatMeet_39 rfl (lv_at hl 0 rfl) ?_
        refine cs_gett hx hb hT va_S.rf hown (hts (.fieldLink RX0 85 RX0 "TAILS_WITH" "[J") (by decide +kernel)) dX0_tailsThatMeet_40 ?_
        refine lv_iload hx hb dX0_tailsThatMeet_43 (lv_at hl 3 rfl) ?_
        refine cs_tl hx hb hT.2 va_S.rf (hj) (by decide) rfl dX0_tailsThatMeet_45 ?_
        refine lv_ldc2 (v := -1) hx hb hown (hts (.constantLong RX0 88 (-1)) (by decide +kernel)) dX0_tailsThatMeet_46 ?_
        refine lv_lxor hx hb dX0_tailsThatMeet_49 ?_
        refine lv_lor hx hb dX0_tailsThatMeet_50 ?_
        refine lv_lstore_n hx hb dX0_tailsThatMeet_51 rfl hl (by decide) rfl (fun ls hl => ?_)
        have hl : lv_has ls 5 [(2, .long ((u ||| (cs_tw j)) ||| ((cs_tw j) ^^^ (-1)))), (0, .int (nI y)), (1, .int (nI z)), (4, .int (nI j))] := hl
        refine lv_iinc (v := nI (j + 1)) hx hb dX0_tailsThatMeet_52 hl (k := 3) rfl (cs_inc _ 1) (by decide) rfl (fun ls hl => ?_)
        have hl : lv_has ls 5 [(4, .int (nI (j + 1))), (2, .long ((u ||| (cs_tw j)) ||| ((cs_tw j) ^^^ (-1)))), (0, .int (nI y)), (1, .int (nI z))] := hl
        refine lv_goto hx hb dX0_tailsThatMeet_55 (tgt := 5) (by decide) ?_
        exact ih (6 - (j + 1)) (j + 1, (u ||| (cs_tw j)) ||| ((cs_tw j) ^^^ (-1))) ls (by omega) ⟨⟨rfl, by show j + 1 ≤ 6; omega, MI_tt hj hI (bI_nz hy1) (bI_nz hz1)⟩, lv_sub hl [2, 3, 1, 0] rfl⟩
  · refine lv_icmp_ge hx hb dX0_tailsThatMeet_9 (tgt := 58) (by decide) (fun _ => ?_) (fun hq => absurd (nI_le hj (by omega)) hq)
    refine lv_lload_n hx hb dX0_tailsThatMeet_58 rfl (lv_at hl 2 rfl) ?_
    exact W.lret (v := u) hx hb hr (fun t ht hW => ⟨u, rfl, MI_6 ((show j = 6 by omega) ▸ hI) hy hz, ht⟩) (fun q h => by cases h) dX0_tailsThatMeet_59
set_option maxHeartbeats 4000000 in
set_option maxRecDepth 100000 in
theorem c_headMeets (l : Launch) (dC : Nat → ClassId) (dI : Nat → Nat → Nat) (o a1 a2 a3 a4 : Nat) (c1 c2 c3 c4 : ClassId) (N h w y z c : Nat) (f1 f2 f3 : Nat → Int32) (f4 : Nat → Int64) {k a yy zz : Nat} (hk : k < 400) (h1 : f1 k = nI yy) (h2 : f2 k = nI zz) (hyy : yy < 2 ^ 31) (hzz : zz < 2 ^ 31) : Met l yX0_headMeets wsX0_headMeets ({ frames := 0, cells := 0, slots := 0, locals := 0 }) (va_Pc [.ref o, .int (nI k), .int (nI a)] (rW (dC, dI) vwCl (xC o a1 a2 a3 a4 c1 c2 c3 c4 (nI N) (nI h) (nI w) (nI y) (nI z) (nI c) f1 f2 f3 f4) (xT c1 c2 c3 c4))) (vp_Si (fun r => (r = nI 1 ∧ Mt yy zz a) ∨ (r = nI 0 ∧ ¬ Mt yy zz a))) 0 0 (fun _ => False) := by
  refine Met.ofW (cc := cX0_headMeets) (maxL := 3) (ret := some .boolean) (by decide) rfl ?_
  intro p e s m args below meth c0 s₁ B hml hv0
  obtain ⟨rfl, hP, hK⟩ := hv0
  have hx := B.exec
  have hb := B.bytes
  have hr := B.returns
  have hts := atoms_spec (ws := wsX0_headMeets) B.pre
  have hown : s.vm.findClass RX0 = some m.cls := findClass_of_methodNamed B.named
  have hlocks := B.notSynchronized
  have hP : va_P (dC, dI) vwCl (xC o a1 a2 a3 a4 c1 c2 c3 c4 (nI N) (nI h) (nI w) (nI y) (nI z) (nI c) f1 f2 f3 f4) s.heap := hP
  have hin0 : ∀ w ∈ u_ws RX0 TX0 10, w ∈ wsX0_headMeets := by decide +kernel
  have hl := lv_entry ([.ref o, .int (nI k), .int (nI a)]) (n := 3) (Nat.le_of_ble_eq_true rfl)
  rw [lg_entry_eq]
  generalize (lg_sl ([.ref o, .int (nI k), .int (nI a)]) ++ List.replicate (3 - (lg_sl ([.ref o, .int (nI k), .int (nI a)])).length) Slot.unset).toArray = ls at hl ⊢
  have hl : lv_has ls 3 [(0, .ref o), (1, .int (nI k)), (2, .int (nI a))] := hl
  refine lv_aload_n hx hb dX0_headMeets_0 rfl (lv_at hl 0 rfl) ?_
  refine va_get (D := (dC, dI)) (ci := 0) (v := .ref a1) (C := RX0) (T := TX0) (N := 10) hx hb hts hin0 hown hK hP 0 rfl rfl 6 (by decide) (hts (.fieldLink RX0 25 "ClauseSolver" "headTrue" "[I") (by decide +kernel)) (fun _ h9 => h9) rfl dX0_headMeets_1 ?_
  refine lv_iload_n hx hb dX0_headMeets_4 rfl (lv_at hl 1 rfl) ?_
  refine cs_iald hx hb hK hP 1 0 rfl rfl (hk) (by decide) dX0_headMeets_5 ?_
  refine cs_top (y := nI yy) (h1) ?_
  refine lv_iload_n hx hb dX0_headMeets_6 rfl (lv_at hl 2 rfl) ?_
  refine lv_iand hx hb dX0_headMeets_7 ?_
  refine cs_top (y := nI (yy &&& a)) (cs_and yy a) ?_
  refine lv_aload_n hx hb dX0_headMeets_8 rfl (lv_at hl 0 rfl) ?_
  refine va_get (D := (dC, dI)) (ci := 0) (v := .ref a2) (C := RX0) (T := TX0) (N := 10) hx hb hts hin0 hown hK hP 0 rfl rfl 7 (by decide) (hts (.fieldLink RX0 29 "ClauseSolver" "headFalse" "[I") (by decide +kernel)) (fun _ h9 => h9) rfl dX0_headMeets_9 ?_
  refine lv_iload_n hx hb dX0_headMeets_12 rfl (lv_at hl 1 rfl) ?_
  refine cs_iald hx hb hK hP 2 1 rfl rfl (hk) (by decide) dX0_headMeets_13 ?_
  refine cs_top (y := nI zz) (h2) ?_
  refine lv_iload_n hx hb dX0_headMeets_14 rfl (lv_at hl 2 rfl) ?_
  refine lv_iconst (v := nI 4294967295) hx hb dX0_headMeets_15 (by decide) ?_
  refine lv_ixor hx hb dX0_headMeets_16 ?_
  refine cs_top (y := nI (a ^^^ 4294967295)) (cs_xor a 4294967295) ?_
  refine lv_iand hx hb dX0_headMeets_17 ?_
  refine cs_top (y := nI (zz &&& (a ^^^ 4294967295))) (cs_and zz (a ^^^ 4294967295)) ?_
  refine lv_ior hx hb dX0_headMeets_18 ?_
  refine cs_top (y := nI ((yy &&& a) ||| (zz &&& (a ^^^ 4294967295)))) (cs_or (yy &&& a) (zz &&& (a ^^^ 4294967295))) ?_
  refine lv_if_eq hx hb dX0_headMeets_19 (tgt := 26) (by decide) (fun hq => ?_) (fun hq => ?_)
  · refine lv_iconst (v := nI 0) hx hb dX0_headMeets_26 (by decide) ?_
    exact W.zret (ty := .boolean) (v := nI 0) hx hb hr (by first | rfl | decide) (fun t ht hW => ⟨nI 0, rfl, Or.inr ⟨rfl, (hm_z hyy hzz).mp hq⟩, ht⟩) (fun q h => by cases h) dX0_headMeets_27
  · refine lv_iconst (v := nI 1) hx hb dX0_headMeets_22 (by decide) ?_
    refine lv_goto hx hb dX0_headMeets_23 (tgt := 27) (by decide) ?_
    exact W.zret (ty := .boolean) (v := nI 1) hx hb hr (by first | rfl | decide) (fun t ht hW => ⟨nI 1, rfl, Or.inl ⟨rfl, Classical.byContradiction fun z9 => hq ((hm_z hyy hzz).mpr z9)⟩, ht⟩) (fun q h => by cases h) dX0_headMeets_27
set_option maxHeartbeats 4000000 in
set_option maxRecDepth 100000 in
theorem c_narrowed (l : Launch) (dC : Nat → ClassId) (dI : Nat → Nat → Nat) (o a1 a2 a3 a4 : Nat) (c1 c2 c3 c4 : ClassId) (N h w y z c : Nat) (f1 f2 f3 : Nat → Int32) (f4 : Nat → Int64) {Y Z : Nat → Nat} (R : RX N h c Y Z f1 f2 f3 f4) (hc : c ≤ 400) (hh : h ≤ 16) {d : Nat} (hd : d ≤ h) (a : Nat) (x : Int64) : Met l yX0_narrowed wsX0_narrowed ({ frames := 1, cells := 0, slots := 0, locals := 30 }) (va_Pc [.ref o, .int (nI d), .int (nI a), .long x] (rW (dC, dI) vwCl (xC o a1 a2 a3 a4 c1 c2 c3 c4 (nI N) (nI h) (nI w) (nI y) (nI z) (nI c) f1 f2 f3 f4) (xT c1 c2 c3 c4))) (vp_Sl (fun r => NI h Y Z f3 f4 d a x c r)) 0 0 (fun _ => False) := by
  refine Met.ofW (cc := cX0_narrowed) (maxL := 8) (ret := some .long) (by decide) rfl ?_
  intro p e s m args below meth c0 s₁ B hml hv0
  obtain ⟨rfl, hP, hK⟩ := hv0
  have hx := B.exec
  have hb := B.bytes
  have hr := B.returns
  have hts := atoms_spec (ws := wsX0_narrowed) B.pre
  have hown : s.vm.findClass RX0 = some m.cls := findClass_of_methodNamed B.named
  have hlocks := B.notSynchronized
  have hP : va_P (dC, dI) vwCl (xC o a1 a2 a3 a4 c1 c2 c3 c4 (nI N) (nI h) (nI w) (nI y) (nI z) (nI c) f1 f2 f3 f4) s.heap := hP
  have hin0 : ∀ w ∈ u_ws RX0 TX0 10, w ∈ wsX0_narrowed := by decide +kernel
  have hl := lv_entry ([.ref o, .int (nI d), .int (nI a), .long x]) (n := 8) (Nat.le_of_ble_eq_true rfl)
  rw [lg_entry_eq]
  generalize (lg_sl ([.ref o, .int (nI d), .int (nI a), .long x]) ++ List.replicate (8 - (lg_sl ([.ref o, .int (nI d), .int (nI a), .long x])).length) Slot.unset).toArray = ls at hl ⊢
  have hl : lv_has ls 8 [(0, .ref o), (1, .int (nI d)), (2, .int (nI a)), (3, .long x)] := hl
  refine lv_lload_n hx hb dX0_narrowed_0 rfl (lv_at hl 3 rfl) ?_
  refine lv_lstore hx hb dX0_narrowed_1 hl (by decide) rfl (fun ls hl => ?_)
  have hl : lv_has ls 8 [(5, .long x), (0, .ref o), (1, .int (nI d)), (2, .int (nI a)), (3, .long x)] := hl
  refine lv_iconst (v := nI 0) hx hb dX0_narrowed_3 (by decide) ?_
  refine lv_istore hx hb dX0_narrowed_4 hl (by decide) rfl (fun ls hl => ?_)
  have hl : lv_has ls 8 [(7, .int (nI 0)), (5, .long x), (0, .ref o), (1, .int (nI d)), (2, .int (nI a)), (3, .long x)] := hl
  refine cs_wl (σ := Nat × Int64) (fun n st ls => (n = c - st.1 ∧ st.1 ≤ c ∧ NI h Y Z f3 f4 d a x st.1 st.2) ∧ lv_has ls 8 [(0, .ref o), (1, .int (nI d)), (2, .int (nI a)), (3, .long x), (5, .long st.2), (7, .int (nI st.1))]) ?_ c (0, x) ls ⟨⟨rfl, Nat.zero_le _, NI_0⟩, lv_sub hl [2, 3, 4, 5, 1, 0] rfl⟩
  clear hl
  intro n st ls hI ih
  obtain ⟨k, u⟩ := st
  obtain ⟨⟨hn, hk, hI⟩, hl⟩ := hI
  have hl : lv_has ls 8 [(0, .ref o), (1, .int (nI d)), (2, .int (nI a)), (3, .long x), (5, .long u), (7, .int (nI k))] := hl
  dsimp only at hn hk hI
  refine lv_iload hx hb dX0_narrowed_6 (lv_at hl 5 rfl) ?_
  refine lv_aload_n hx hb dX0_narrowed_8 rfl (lv_at hl 0 rfl) ?_
  refine va_get (D := (dC, dI)) (ci := 0) (v := .int (nI c)) (C := RX0) (T := TX0) (N := 10) hx hb hts hin0 hown hK hP 0 rfl rfl 5 (by decide) (hts (.fieldLink RX0 67 "ClauseSolver" "clauses" "I") (by decide +kernel)) (fun _ h9 => h9) rfl dX0_narrowed_9 ?_
  rcases Nat.lt_or_ge k c with hk1 | hk1
  · refine lv_icmp_ge hx hb dX0_narrowed_12 (tgt := 61) (by decide) (fun hq => absurd hq (nI_ge hk1 (by omega))) (fun _ => ?_)
    refine lv_lload hx hb dX0_narrowed_15 (lv_at hl 4 rfl) ?_
    refine lv_lconst (v := 0) hx hb dX0_narrowed_17 (by decide) ?_
    refine W.lcmp hx hb dX0_narrowed_18 ?_
    refine lv_if_eq hx hb dX0_narrowed_19 (tgt := 61) (by decide) (fun hq => ?_) (fun hq => ?_)
    · refine lv_lload hx hb dX0_narrowed_61 (lv_at hl 4 rfl) ?_
      exact W.lret (v := u) hx hb hr (fun t ht hW => ⟨u, rfl, NI_zero' (cs_lcmp.mp hq) hI (by omega), ht⟩) (fun q h => by cases h) dX0_narrowed_63
    · refine lv_aload_n hx hb dX0_narrowed_22 rfl (lv_at hl 0 rfl) ?_
      refine va_get (D := (dC, dI)) (ci := 0) (v := .ref a3) (C := RX0) (T := TX0) (N := 10) hx hb hts hin0 hown hK hP 0 rfl rfl 8 (by decide) (hts (.fieldLink RX0 32 "ClauseSolver" "depths" "[I") (by decide +kernel)) (fun _ h9 => h9) rfl dX0_narrowed_23 ?_
      refine lv_iload hx hb dX0_narrowed_26 (lv_at hl 5 rfl) ?_
      refine cs_iald hx hb hK hP 3 2 rfl rfl (Nat.lt_of_lt_of_le hk1 hc) (by decide) dX0_narrowed_28 ?_
      refine lv_iload_n hx hb dX0_narrowed_29 rfl (lv_at hl 1 rfl) ?_
      refine lv_icmp_ne hx hb dX0_narrowed_30 (tgt := 55) (by decide) (fun hd1 => ?_) (fun hd1 => ?_)
      · refine lv_iinc (v := nI (k + 1)) hx hb dX0_narrowed_55 hl (k := 5) rfl (cs_inc _ 1) (by decide) rfl (fun ls hl => ?_)
        have hl : lv_has ls 8 [(7, .int (nI (k + 1))), (0, .ref o), (1, .int (nI d)), (2, .int (nI a)), (3, .long x), (5, .long u)] := hl
        refine lv_goto hx hb dX0_narrowed_58 (tgt := 6) (by decide) ?_
        exact ih (c - (k + 1)) (k + 1, u) ls (by omega) ⟨⟨rfl, by show k + 1 ≤ c; omega, NI_skip hI (fun z9 => absurd (RX_dep (by omega) R hk1 z9) hd1)⟩, lv_sub hl [1, 2, 3, 4, 5, 0] rfl⟩
      · refine lv_aload_n hx hb dX0_narrowed_33 rfl (lv_at hl 0 rfl) ?_
        refine lv_iload hx hb dX0_narrowed_34 (lv_at hl 5 rfl) ?_
        refine lv_iload_n hx hb dX0_narrowed_36 rfl (lv_at hl 2 rfl) ?_
        refine vp_callSi (W.runV (As := [.int (nI k), .int (nI a)]) (rest := []) ⟨hx, hb, hml, hown, hts⟩ (c_headMeets l dC dI o a1 a2 a3 a4 c1 c2 c3 c4 N h w y z c f1 f2 f3 f4 (Nat.lt_of_lt_of_le hk1 hc) (R k hk1).2.2.1 (R k hk1).2.2.2.1 (cs_modlt _ hh) (cs_modlt _ hh)) (cwV 2 hts gX0_narrowed_X0_headMeets rfl rfl rfl (by decide +kernel) ⟨Nat.le_of_ble_eq_true rfl, Nat.le_of_ble_eq_true rfl⟩) (rW_preV hP hK (va_recv (q := (RX0, TX0, 10)) (q0 := 0) hK hP rfl rfl)) rfl rfl hl.1 rfl (lv_room (Nat.le_of_ble_eq_true rfl)) dX0_narrowed_37 ⟨Nat.le_refl _, Nat.le_refl _⟩) (fun r0 hr0 => ?_)
        rcases hr0 with ⟨rfl, hm⟩ | ⟨rfl, hm⟩
        · refine lv_if_ne hx hb dX0_narrowed_40 (tgt := 55) (by decide) (fun _ => ?_) (fun hq => absurd hq (by decide))
          refine lv_iinc (v := nI (k + 1)) hx hb dX0_narrowed_55 hl (k := 5) rfl (cs_inc _ 1) (by decide) rfl (fun ls hl => ?_)
          have hl : lv_has ls 8 [(7, .int (nI (k + 1))), (0, .ref o), (1, .int (nI d)), (2, .int (nI a)), (3, .long x), (5, .long u)] := hl
          refine lv_goto hx hb dX0_narrowed_58 (tgt := 6) (by decide) ?_
          exact ih (c - (k + 1)) (k + 1, u) ls (by omega) ⟨⟨rfl, by show k + 1 ≤ c; omega, NI_skip hI (fun _ => hm)⟩, lv_sub hl [1, 2, 3, 4, 5, 0] rfl⟩
        · refine lv_if_ne hx hb dX0_narrowed_40 (tgt := 55) (by decide) (fun hq => absurd (nI_0) hq) (fun _ => ?_)
          refine lv_lload hx hb dX0_narrowed_43 (lv_at hl 4 rfl) ?_
          refine lv_aload_n hx hb dX0_narrowed_45 rfl (lv_at hl 0 rfl) ?_
          refine va_get (D := (dC, dI)) (ci := 0) (v := .ref a4) (C := RX0) (T := TX0) (N := 10) hx hb hts hin0 hown hK hP 0 rfl rfl 9 (by decide) (hts (.fieldLink RX0 35 "ClauseSolver" "tails" "[J") (by decide +kernel)) (fun _ h9 => h9) rfl dX0_narrowed_46 ?_
          refine lv_iload hx hb dX0_narrowed_49 (lv_at hl 5 rfl) ?_
          refine cs_lald hx hb hK hP 4 3 rfl rfl (Nat.lt_of_lt_of_le hk1 hc) (by decide) dX0_narrowed_51 ?_
          refine lv_land hx hb dX0_narrowed_52 ?_
          refine lv_lstore hx hb dX0_narrowed_53 hl (by decide) rfl (fun ls hl => ?_)
          have hl : lv_has ls 8 [(5, .long (u &&& (f4 k))), (0, .ref o), (1, .int (nI d)), (2, .int (nI a)), (3, .long x), (7, .int (nI k))] := hl
          refine lv_iinc (v := nI (k + 1)) hx hb dX0_narrowed_55 hl (k := 5) rfl (cs_inc _ 1) (by decide) rfl (fun ls hl => ?_)
          have hl : lv_has ls 8 [(7, .int (nI (k + 1))), (5, .long (u &&& (f4 k))), (0, .ref o), (1, .int (nI d)), (2, .int (nI a)), (3, .long x)] := hl
          refine lv_goto hx hb dX0_narrowed_58 (tgt := 6) (by decide) ?_
          exact ih (c - (k + 1)) (k + 1, u &&& f4 k) ls (by omega) ⟨⟨rfl, by show k + 1 ≤ c; omega, NI_and hI (by rw [hd1, nI_clamp (by omega)]) hm⟩, lv_sub hl [2, 3, 4, 5, 1, 0] rfl⟩
  · refine lv_icmp_ge hx hb dX0_narrowed_12 (tgt := 61) (by decide) (fun _ => ?_) (fun hq => absurd (nI_le hk1 (by omega)) hq)
    refine lv_lload hx hb dX0_narrowed_61 (lv_at hl 4 rfl) ?_
    exact W.lret (v := u) hx hb hr (fun t ht hW => ⟨u, rfl, (show k = c by omega) ▸ hI, ht⟩) (fun q h => by cases h) dX0_narrowed_63
