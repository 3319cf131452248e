/-! THE LAW'S LOOP AND START, over any relation that every call keeps -/
set_option maxHeartbeats 4000000 in
set_option maxRecDepth 100000 in
theorem law_loop {Rel : RC → MC → Prop} (hOK : AllOK Rel) {p : Program} {l : Launch} {e : Env} {s : State} {m : MethodId} {below : List Frame} {meth : Method} {c : Code} {D : va_G} {cI cS : ClassId} {b L a bm : Nat} {w : Nat → Nat} {xs : Nat → Int32} (hL : L ≤ 2048) (hx : p.tables.exec = Jvm.exec) (hb : c.code = cL_law) (hr : meth.sig.returnType = ret) (hml : c.maxLocals = 4) (hown : s.vm.findClass RL = some m.cls) (hts : ∀ w ∈ wsL_law, w.before #[Value.ref b] s = true) (hK : va_K D vwCl (ty2 cI cS) s) (hN : NW s) (hX : va_X b L xs s s.heap) (hbl : b < s.heap.size) (hlocks : meth.locks = false) :
    ∀ (n i : Nat) (x3 : Int32), L + 4 ≤ i + 4 * n → i ≤ L + 4 → x3 = nI i → ∀ (u : Nat → Nat) (C : RC) (M : MC), Rel C M → ∀ (H : Heap) (locs : List Loc) (ls : Array Slot), va_P D vwCl (RWd cI cS a u C ++ MWd cI bm w M) H → va_D (fun q : Nat => s.heap.size ≤ q) (RWd cI cS a u C ++ MWd cI bm w M) → va_S (fun q : Nat => s.heap.size ≤ q) s.heap H locs → lv_has ls 4 [(0, .ref b), (1, .ref a), (2, .ref bm), (3, .int x3)] → W p l e room_1 s m #[Value.ref b] below meth c H locs 66 1708 (lw_Z below #[Value.ref b] s) (F0 m 18 ls []) := by
  have hbA : ¬ (fun q : Nat => s.heap.size ≤ q) b := Nat.not_le.mpr hbl
  intro n
  induction n with
  | zero =>
    intro i x3 h1 h2 ex u C M hRel H locs ls hP hD hS hl
    have hi : i = L + 4 := by omega
    refine lv_iload_n hx hb dL_law_18 rfl (lv_at hl 3 rfl) ?_
    refine lv_aload_n hx hb dL_law_19 rfl (lv_at hl 0 rfl) ?_
    refine va_slen hx hb hX hbl hbA hS dL_law_20 ?_
    refine lv_iconst (v := 4) hx hb dL_law_21 (by decide) ?_
    refine lv_isub hx hb dL_law_22 ?_
    refine lv_icmp_gt (tgt := 587) hx hb dL_law_23 (by decide) (fun cc => ?_) (fun cc => ?_)
    · refine lv_iconst (v := 1) hx hb dL_law_587 (by decide) ?_
      refine va_forget (fun q hq => hS.2.2 q hq) ?_
      refine W.widen (k := 600000) (n := 7302250) (Nat.le_of_ble_eq_true rfl) (Nat.le_of_ble_eq_true rfl) ?_
      exact lw_ret hx hb hr hlocks dL_law_588
    · exfalso
      apply cc
      rw [ex, Int32.lt_iff_toInt_lt, nI_toInt (by omega)]
      have e := pk_sub_toInt (a := L) (b := 4) (by omega) (by decide)
      show (nI L - nI 4).toInt < _
      rw [e]; omega
  | succ n ih =>
    intro i x3 h1 h2 ex u C M hRel H locs ls hP hD hS hl
    refine lv_iload_n hx hb dL_law_18 rfl (lv_at hl 3 rfl) ?_
    refine lv_aload_n hx hb dL_law_19 rfl (lv_at hl 0 rfl) ?_
    refine va_slen hx hb hX hbl hbA hS dL_law_20 ?_
    refine lv_iconst (v := 4) hx hb dL_law_21 (by decide) ?_
    refine lv_isub hx hb dL_law_22 ?_
    refine lv_icmp_gt (tgt := 587) hx hb dL_law_23 (by decide) (fun cc => ?_) (fun cc => ?_)
    · refine lv_iconst (v := 1) hx hb dL_law_587 (by decide) ?_
      refine va_forget (fun q hq => hS.2.2 q hq) ?_
      refine W.widen (k := 600000) (n := 7302250) (Nat.le_of_ble_eq_true rfl) (Nat.le_of_ble_eq_true rfl) ?_
      exact lw_ret hx hb hr hlocks dL_law_588
    · have hlt : i + 4 ≤ L := by
        apply Nat.le_of_not_lt
        intro z
        apply cc
        rw [ex, Int32.lt_iff_toInt_lt, nI_toInt (by omega)]
        have e := pk_sub_toInt (a := L) (b := 4) (by omega) (by decide)
        show (nI L - nI 4).toInt < _
        rw [e]; omega
      have hi0 : vp_in x3 L := by rw [ex]; exact vp_in_nI (by omega) (by omega)
      have hi1 : vp_in (x3 + 1) L := by rw [ex, show (1 : Int32) = nI 1 from rfl, nI_add]; exact vp_in_nI (by omega) (by omega)
      have hi2 : vp_in (x3 + 2) L := by rw [ex, show (2 : Int32) = nI 2 from rfl, nI_add]; exact vp_in_nI (by omega) (by omega)
      have hi3 : vp_in (x3 + 3) L := by rw [ex, show (3 : Int32) = nI 3 from rfl, nI_add]; exact vp_in_nI (by omega) (by omega)
      have back : ∀ (u : Nat → Nat) (C : RC) (M : MC), Rel C M → ∀ (H : Heap) (locs : List Loc), va_P D vwCl (RWd cI cS a u C ++ MWd cI bm w M) H → va_D (fun q : Nat => s.heap.size ≤ q) (RWd cI cS a u C ++ MWd cI bm w M) → va_S (fun q : Nat => s.heap.size ≤ q) s.heap H locs → W p l e room_1 s m #[Value.ref b] below meth c H locs 66 1708 (lw_Z below #[Value.ref b] s) (F0 m 581 ls []) := by
        intro u C M hRel H locs hP hD hS
        refine lv_iinc (v := x3 + 4) (lv' := [(3, .int (x3 + 4)), (0, .ref b), (1, .ref a), (2, .ref bm)]) hx hb dL_law_581 hl (k := 3) rfl (by first | rfl | decide) (by decide) rfl (fun ls hl => ?_)
        refine lv_goto (tgt := 18) hx hb dL_law_584 (by decide) ?_
        exact ih (i + 4) (x3 + 4) (by omega) (by omega) (by rw [ex, show (4 : Int32) = nI 4 from rfl, nI_add]) u C M hRel H locs ls hP hD hS (lv_sub hl [1, 2, 3, 0] rfl)
      refine lv_aload_n hx hb dL_law_26 rfl (lv_at hl 0 rfl) ?_
      refine lv_iload_n hx hb dL_law_27 rfl (lv_at hl 3 rfl) ?_
      refine va_sld hx hb hX hbl hbA hS hi0 dL_law_28 ?_
      refine lv_bipush (v := 31) hx hb dL_law_29 (by decide) ?_
      refine lv_iand hx hb dL_law_31 ?_
      generalize xs x3.toNatClampNeg &&& 31 = sel
      by_cases c0 : sel = 0
      · refine lv_tableIn (tgt := 124) (off := 92) hx hb dL_law_32 (by rw [c0]; decide) (by rw [c0]; decide) (by rw [c0]; rfl) (by decide) ?_
        obtain ⟨o, q, hs, hm, he, hR⟩ := (hOK.1 (xs (x3 + 1).toNatClampNeg)) C M hRel
        exact lc_write hx hb hml hown hts hK hN hX hbl hi1 o q hs hm he hP hD hS hl (fun u H locs hP hD hS => back u o.2 q.2 hR H locs hP hD hS)
      by_cases c1 : sel = 1
      · refine lv_tableIn (tgt := 147) (off := 115) hx hb dL_law_32 (by rw [c1]; decide) (by rw [c1]; decide) (by rw [c1]; rfl) (by decide) ?_
        obtain ⟨o, q, hs, hm, he, hR⟩ := hOK.2.1  C M hRel
        exact lc_wipe hx hb hml hown hts hK hN hX hbl  o q hs hm he hP hD hS hl (fun u H locs hP hD hS => back u o.2 q.2 hR H locs hP hD hS)
      by_cases c2 : sel = 2
      · refine lv_tableIn (tgt := 160) (off := 128) hx hb dL_law_32 (by rw [c2]; decide) (by rw [c2]; decide) (by rw [c2]; rfl) (by decide) ?_
        obtain ⟨o, q, hs, hm, he, hR⟩ := hOK.2.2.1  C M hRel
        exact lc_fault hx hb hml hown hts hK hN hX hbl  o q hs hm he hP hD hS hl (fun u H locs hP hD hS => back u o.2 q.2 hR H locs hP hD hS)
      by_cases c3 : sel = 3
      · refine lv_tableIn (tgt := 173) (off := 141) hx hb dL_law_32 (by rw [c3]; decide) (by rw [c3]; decide) (by rw [c3]; rfl) (by decide) ?_
        obtain ⟨o, q, hs, hm, he, hR⟩ := hOK.2.2.2.1  C M hRel
        exact lc_lay hx hb hml hown hts hK hN hX hbl  o q hs hm he hP hD hS hl (fun u H locs hP hD hS => back u o.2 q.2 hR H locs hP hD hS)
      by_cases c4 : sel = 4
      · refine lv_tableIn (tgt := 186) (off := 154) hx hb dL_law_32 (by rw [c4]; decide) (by rw [c4]; decide) (by rw [c4]; rfl) (by decide) ?_
        obtain ⟨o, q, hs, hm, he, hR⟩ := (hOK.2.2.2.2.1 (xs (x3 + 1).toNatClampNeg) (xs (x3 + 2).toNatClampNeg)) C M hRel
        exact lc_read hx hb hml hown hts hK hN hX hbl hi1 hi2 o q hs hm he hP hD hS hl (fun u H locs hP hD hS => back u o.2 q.2 hR H locs hP hD hS)
      by_cases c5 : sel = 5
      · refine lv_tableIn (tgt := 219) (off := 187) hx hb dL_law_32 (by rw [c5]; decide) (by rw [c5]; decide) (by rw [c5]; rfl) (by decide) ?_
        obtain ⟨o, q, hs, hm, he, hR⟩ := (hOK.2.2.2.2.2.1 (xs (x3 + 1).toNatClampNeg) (xs (x3 + 2).toNatClampNeg)) C M hRel
        exact lc_wire hx hb hml hown hts hK hN hX hbl hi1 hi2 o q hs hm he hP hD hS hl (fun u H locs hP hD hS => back u o.2 q.2 hR H locs hP hD hS)
      by_cases c6 : sel = 6
      · refine lv_tableIn (tgt := 252) (off := 220) hx hb dL_law_32 (by rw [c6]; decide) (by rw [c6]; decide) (by rw [c6]; rfl) (by decide) ?_
        obtain ⟨o, q, hs, hm, he, hR⟩ := (hOK.2.2.2.2.2.2.1 (xs (x3 + 1).toNatClampNeg)) C M hRel
        exact lc_day hx hb hml hown hts hK hN hX hbl hi1 o q hs hm he hP hD hS hl (fun u H locs hP hD hS => back u o.2 q.2 hR H locs hP hD hS)
      by_cases c7 : sel = 7
      · refine lv_tableIn (tgt := 275) (off := 243) hx hb dL_law_32 (by rw [c7]; decide) (by rw [c7]; decide) (by rw [c7]; rfl) (by decide) ?_
        obtain ⟨o, q, hs, hm, he, hR⟩ := (hOK.2.2.2.2.2.2.2.1 (xs (x3 + 1).toNatClampNeg)) C M hRel
        exact lc_tick hx hb hml hown hts hK hN hX hbl hi1 o q hs hm he hP hD hS hl (fun u H locs hP hD hS => back u o.2 q.2 hR H locs hP hD hS)
      by_cases c8 : sel = 8
      · refine lv_tableIn (tgt := 298) (off := 266) hx hb dL_law_32 (by rw [c8]; decide) (by rw [c8]; decide) (by rw [c8]; rfl) (by decide) ?_
        obtain ⟨o, q, hs, hm, he, hR⟩ := hOK.2.2.2.2.2.2.2.2.1  C M hRel
        exact lc_silence hx hb hml hown hts hK hN hX hbl  o q hs hm he hP hD hS hl (fun u H locs hP hD hS => back u o.2 q.2 hR H locs hP hD hS)
      by_cases c9 : sel = 9
      · refine lv_tableIn (tgt := 311) (off := 279) hx hb dL_law_32 (by rw [c9]; decide) (by rw [c9]; decide) (by rw [c9]; rfl) (by decide) ?_
        obtain ⟨o, q, hs, hm, he, hR⟩ := hOK.2.2.2.2.2.2.2.2.2.1  C M hRel
        exact lc_reset hx hb hml hown hts hK hN hX hbl  o q hs hm he hP hD hS hl (fun u H locs hP hD hS => back u o.2 q.2 hR H locs hP hD hS)
      by_cases c10 : sel = 10
      · refine lv_tableIn (tgt := 324) (off := 292) hx hb dL_law_32 (by rw [c10]; decide) (by rw [c10]; decide) (by rw [c10]; rfl) (by decide) ?_
        obtain ⟨o, q, hs, hm, he, hR⟩ := hOK.2.2.2.2.2.2.2.2.2.2.1  C M hRel
        exact lc_undo hx hb hml hown hts hK hN hX hbl  o q hs hm he hP hD hS hl (fun u H locs hP hD hS => back u o.2 q.2 hR H locs hP hD hS)
      by_cases c11 : sel = 11
      · refine lv_tableIn (tgt := 337) (off := 305) hx hb dL_law_32 (by rw [c11]; decide) (by rw [c11]; decide) (by rw [c11]; rfl) (by decide) ?_
        obtain ⟨o, q, hs, hm, he, hR⟩ := (hOK.2.2.2.2.2.2.2.2.2.2.2.1 (xs (x3 + 1).toNatClampNeg) (xs (x3 + 2).toNatClampNeg)) C M hRel
        exact lc_device hx hb hml hown hts hK hN hX hbl hi1 hi2 o q hs hm he hP hD hS hl (fun u H locs hP hD hS => back u o.2 q.2 hR H locs hP hD hS)
      by_cases c12 : sel = 12
      · refine lv_tableIn (tgt := 370) (off := 338) hx hb dL_law_32 (by rw [c12]; decide) (by rw [c12]; decide) (by rw [c12]; rfl) (by decide) ?_
        obtain ⟨o, q, hs, hm, he, hR⟩ := (hOK.2.2.2.2.2.2.2.2.2.2.2.2.1 (xs (x3 + 1).toNatClampNeg) (xs (x3 + 2).toNatClampNeg) (xs (x3 + 3).toNatClampNeg)) C M hRel
        exact lc_stop hx hb hml hown hts hK hN hX hbl hi1 hi2 hi3 o q hs hm he hP hD hS hl (fun u H locs hP hD hS => back u o.2 q.2 hR H locs hP hD hS)
      by_cases c13 : sel = 13
      · refine lv_tableIn (tgt := 413) (off := 381) hx hb dL_law_32 (by rw [c13]; decide) (by rw [c13]; decide) (by rw [c13]; rfl) (by decide) ?_
        obtain ⟨o, q, hs, hm, he, hR⟩ := (hOK.2.2.2.2.2.2.2.2.2.2.2.2.2.1 (xs (x3 + 1).toNatClampNeg) (xs (x3 + 2).toNatClampNeg)) C M hRel
        exact lc_wireOf hx hb hml hown hts hK hN hX hbl hi1 hi2 o q hs hm he hP hD hS hl (fun u H locs hP hD hS => back u o.2 q.2 hR H locs hP hD hS)
      by_cases c14 : sel = 14
      · refine lv_tableIn (tgt := 446) (off := 414) hx hb dL_law_32 (by rw [c14]; decide) (by rw [c14]; decide) (by rw [c14]; rfl) (by decide) ?_
        obtain ⟨o, q, hs, hm, he, hR⟩ := (hOK.2.2.2.2.2.2.2.2.2.2.2.2.2.2.1 (xs (x3 + 1).toNatClampNeg)) C M hRel
        exact lc_worst hx hb hml hown hts hK hN hX hbl hi1 o q hs hm he hP hD hS hl (fun u H locs hP hD hS => back u o.2 q.2 hR H locs hP hD hS)
      by_cases c15 : sel = 15
      · refine lv_tableIn (tgt := 469) (off := 437) hx hb dL_law_32 (by rw [c15]; decide) (by rw [c15]; decide) (by rw [c15]; rfl) (by decide) ?_
        obtain ⟨o, q, hs, hm, he, hR⟩ := (hOK.2.2.2.2.2.2.2.2.2.2.2.2.2.2.2.1 (xs (x3 + 1).toNatClampNeg)) C M hRel
        exact lc_help hx hb hml hown hts hK hN hX hbl hi1 o q hs hm he hP hD hS hl (fun u H locs hP hD hS => back u o.2 q.2 hR H locs hP hD hS)
      by_cases c16 : sel = 16
      · refine lv_tableIn (tgt := 492) (off := 460) hx hb dL_law_32 (by rw [c16]; decide) (by rw [c16]; decide) (by rw [c16]; rfl) (by decide) ?_
        obtain ⟨o, q, hs, hm, he, hR⟩ := (hOK.2.2.2.2.2.2.2.2.2.2.2.2.2.2.2.2.1 (xs (x3 + 1).toNatClampNeg) (xs (x3 + 2).toNatClampNeg)) C M hRel
        exact lc_zone hx hb hml hown hts hK hN hX hbl hi1 hi2 o q hs hm he hP hD hS hl (fun u H locs hP hD hS => back u o.2 q.2 hR H locs hP hD hS)
      by_cases c17 : sel = 17
      · refine lv_tableIn (tgt := 525) (off := 493) hx hb dL_law_32 (by rw [c17]; decide) (by rw [c17]; decide) (by rw [c17]; rfl) (by decide) ?_
        obtain ⟨o, q, hs, hm, he, hR⟩ := (hOK.2.2.2.2.2.2.2.2.2.2.2.2.2.2.2.2.2.1 (xs (x3 + 1).toNatClampNeg) (xs (x3 + 2).toNatClampNeg)) C M hRel
        exact lc_effect hx hb hml hown hts hK hN hX hbl hi1 hi2 o q hs hm he hP hD hS hl (fun u H locs hP hD hS => back u o.2 q.2 hR H locs hP hD hS)
      by_cases c18 : sel = 18
      · refine lv_tableIn (tgt := 558) (off := 526) hx hb dL_law_32 (by rw [c18]; decide) (by rw [c18]; decide) (by rw [c18]; rfl) (by decide) ?_
        obtain ⟨o, q, hs, hm, he, hR⟩ := (hOK.2.2.2.2.2.2.2.2.2.2.2.2.2.2.2.2.2.2 (xs (x3 + 1).toNatClampNeg)) C M hRel
        exact lc_count hx hb hml hown hts hK hN hX hbl hi1 o q hs hm he hP hD hS hl (fun u H locs hP hD hS => back u o.2 q.2 hR H locs hP hD hS)
      refine lv_tableOut (tgt := 581) hx hb dL_law_32 (by have q0 := lv_neT (k := 0) c0 (a := 0) (by decide); have q1 := lv_neT (k := 1) c1 (a := 1) (by decide); have q2 := lv_neT (k := 2) c2 (a := 2) (by decide); have q3 := lv_neT (k := 3) c3 (a := 3) (by decide); have q4 := lv_neT (k := 4) c4 (a := 4) (by decide); have q5 := lv_neT (k := 5) c5 (a := 5) (by decide); have q6 := lv_neT (k := 6) c6 (a := 6) (by decide); have q7 := lv_neT (k := 7) c7 (a := 7) (by decide); have q8 := lv_neT (k := 8) c8 (a := 8) (by decide); have q9 := lv_neT (k := 9) c9 (a := 9) (by decide); have q10 := lv_neT (k := 10) c10 (a := 10) (by decide); have q11 := lv_neT (k := 11) c11 (a := 11) (by decide); have q12 := lv_neT (k := 12) c12 (a := 12) (by decide); have q13 := lv_neT (k := 13) c13 (a := 13) (by decide); have q14 := lv_neT (k := 14) c14 (a := 14) (by decide); have q15 := lv_neT (k := 15) c15 (a := 15) (by decide); have q16 := lv_neT (k := 16) c16 (a := 16) (by decide); have q17 := lv_neT (k := 17) c17 (a := 17) (by decide); have q18 := lv_neT (k := 18) c18 (a := 18) (by decide); omega) (by decide) ?_
      exact back u C M hRel H locs hP hD hS
section GCN
variable {p : Program} {l : Launch} {e : Env} {R : Room} {s : State} {m : MethodId} {args : Array Value} {below : List Frame} {meth : Method} {c : Code} {H : Heap} {locs : List Loc} {cells slots : Nat} {Q : State → Prop}
variable {pc : Nat} {ls : Array Slot} {rest st0 : List Value} {A0 : Nat → Prop} {H0 : Heap} {mc ms z ad av : Nat} {D : va_G} {cI cS : ClassId} {ws wc wr : va_W} {wu : (Nat → Nat) → va_W}
variable {y : MethodName} {bytes cc : ByteArray} {maxL nL n index : Nat} {wy Ts : List Cond} {rm : Room} {own : String} {b : Addr} {As : List Value}
theorem gI_nx (S : CallFix p m c cc nL s args Ts own) (hM : Met l y wy rm (va_Pc (.ref b :: As) (GX D cI cS wc H.size z ad av)) (QN D wc H.size wu) mc ms (va_A wc H.size)) (cw : CallB R s args own index y bytes maxL none wy rm mc ms n ∧ y.name = "<init>" ∧ (Cond.instanceMethod y).before args s = true) (hK : va_K D vwCl (ty2 cI cS) s) (hN : NW s) (hXH : SX z ad av s H)
    (hP : va_P D vwCl ws H) (hD : va_D A0 ws) (hS : va_S A0 H0 H locs) (hA : ∀ q, H0.size ≤ q → A0 q) (isC isR : List Nat) (hC : isC.map (fun i => ws[i]?) = wc.map some) (hR : isR.map (fun i => ws[i]?) = wr.map some) (hn : va_nd isR = true) (hnC : va_nd isC = true) (hdis : ∀ i ∈ isR, i ∉ isC)
    (hlen : As.length = n) (hsize : ls.size = nL) (hst : st0 = As.reverse ++ .ref b :: rest) (hW : (rest.map fun v => v.category).sum ≤ 8) (hdg : decode cc pc = .ok (.invokespecial index, 3)) (hf : cells + mc ≤ R.cells ∧ slots + ms ≤ R.slots)
    (kk : ∀ (u : Nat → Nat) (H1 : Heap) (locs1 : List Loc), va_P D vwCl (wr ++ wu u) H1 → va_D A0 (wr ++ wu u) → va_S A0 H0 H1 locs1 → W p l e R s m args below meth c H1 locs1 (cells + mc) (slots + ms) Q (F0 m (pc + 3) ls rest)) : W p l e R s m args below meth c H locs cells slots Q (F0 m pc ls st0) := by
  have hPc : va_P D vwCl wc H := cut_P hP hC
  have hDc := hD.sub isC hnC hC
  have hr := va_runI S hM cw ⟨gx_blind, gx_at hK hN hPc hDc hXH⟩ rfl hlen hsize hst (lv_room hW) hdg hf (locs := locs) (cells := cells) (slots := slots) (e := e) (below := below) (meth := meth) (g := F0 m pc ls st0) (rest := rest)
  have hF := va_free (wc := wc) hD hS hA isC hC
  refine va_callv hr hS (fun q _ h => hF q h) hF (fun u t H1 locs1 ht hvm hw hB hz1 hk1 hS1 => ?_)
  obtain ⟨hP1, hD1⟩ := hB
  rw [ht] at hP1
  obtain ⟨hP2, hD2⟩ := va_join hP hD isC isR hC hR hn hdis hk1 hF hP1 hD1
  exact kk u H1 locs1 hP2 hD2 hS1
end GCN
set_option maxRecDepth 100000 in
theorem str_w1 : Cond.exactly (Term.string "AlarmRing" 40) "java/lang/String" ∈ flatC (Jvm.Cond.and given_1 narrow_1) := by decide +kernel
set_option maxRecDepth 100000 in
theorem str_w2 : Cond.eq (.field (Term.string "AlarmRing" 40) "java/lang/String" "coder" "B") (.int 0) ∈ flatC (Jvm.Cond.and given_1 narrow_1) := by decide +kernel
set_option maxRecDepth 100000 in
theorem str_w3 : Cond.arrayOf (Term.field (Term.string "AlarmRing" 40) "java/lang/String" "value" "[B") .byte ∈ flatC (Jvm.Cond.and given_1 narrow_1) := by decide +kernel
set_option maxRecDepth 100000 in
theorem str_w4 : Cond.eq (.length (Term.field (Term.string "AlarmRing" 40) "java/lang/String" "value" "[B")) (.int (Int32.ofNat (([108] : List Nat).getD 0 0))) ∈ flatC (Jvm.Cond.and given_1 narrow_1) := by decide +kernel
set_option maxRecDepth 100000 in
theorem str_w5 : ∀ j, j < 108 → Cond.eq (.elem (Term.field (Term.string "AlarmRing" 40) "java/lang/String" "value" "[B") (.int (Int32.ofNat j))) (.int (([strB] : List (List Int32)).getD 0 [] |>.getD j 0)) ∈ flatC (Jvm.Cond.and given_1 narrow_1) := by decide +kernel
set_option maxRecDepth 100000 in
theorem str_w6 : Cond.eq (.static "java/lang/String" "COMPACT_STRINGS" "Z") (.int 1) ∈ flatC (Jvm.Cond.and given_1 narrow_1) := by decide +kernel
set_option maxRecDepth 100000 in
theorem str_w7 : Cond.isRef (.static "jdk/internal/util/Preconditions" "SIOOBE_FORMATTER" "Ljava/util/function/BiFunction;") ∈ flatC (Jvm.Cond.and given_1 narrow_1) := by decide +kernel

set_option maxHeartbeats 8000000 in
set_option maxRecDepth 100000 in
theorem law_start {Rel : RC → MC → Prop} (hOK : AllOK Rel) {C0 : RC} {M0 : MC} (h5 : f_X5_init = some C0) (h6 : f_X6_init = some M0) (hR0 : Rel C0 M0) {p : Program} {e : Env} {s : State} {m : MethodId} {below : List Frame} {meth : Method} {c : Code} (l : Launch) (hflags : l.flags = flags0) {b L : Nat} {xs : Nat → Int32} (hL : L ≤ 2048) (HA : lw_At p s m meth c b L xs) : W p l e room_1 s m #[Value.ref b] below meth c s.heap [] 0 0 (lw_Z below #[Value.ref b] s) (entryFrame m ([Value.ref b] : List Value).toArray 4) := by
  obtain ⟨hx, hb, hr, hml, hown, hts0, hX, hbl, hlocks, hgv⟩ := HA
  have hb : c.code = cL_law := hb
  have hown : s.vm.findClass RL = some m.cls := hown
  have hts : ∀ w ∈ wsL_law, w.before #[Value.ref b] s = true := fun w h => hts0 w (wsL_law_in w h)
  have hA : ∀ q : Nat, s.heap.size ≤ q → (fun q : Nat => s.heap.size ≤ q) q := fun _ h => h
  have hbA : ¬ (fun q : Nat => s.heap.size ≤ q) b := Nat.not_le.mpr hbl
  have hlow : ∀ a : Nat, a < s.heap.size → ¬ (fun q : Nat => s.heap.size ≤ q) a := fun a h => Nat.not_le.mpr h
  obtain ⟨c0, iS0, hKn0⟩ := u_known (C := RX0) (T := TX0) (N := 2) (n := 2) hts0 inX0 (hts0 (.instantiable RX0 2) (by decide +kernel))
  obtain ⟨c1, iS1, hKn1⟩ := u_known (C := RX1) (T := TX1) (N := 14) (n := 14) hts0 inX1 (hts0 (.instantiable RX1 14) (by decide +kernel))
  obtain ⟨c2, iS2, hKn2⟩ := u_known (C := RX3) (T := TX3) (N := 12) (n := 12) hts0 inX3 (hts0 (.instantiable RX3 12) (by decide +kernel))
  obtain ⟨c3, iS3, hKn3⟩ := u_known (C := RX4) (T := TX4) (N := 4) (n := 4) hts0 inX4 (hts0 (.instantiable RX4 4) (by decide +kernel))
  obtain ⟨c4, iS4, hKn4⟩ := u_known (C := RX5) (T := TX5) (N := 5) (n := 5) hts0 inX5 (hts0 (.instantiable RX5 5) (by decide +kernel))
  obtain ⟨c5, iS5, hKn5⟩ := u_known (C := RX6) (T := TX6) (N := 12) (n := 12) hts0 inX6 (hts0 (.instantiable RX6 12) (by decide +kernel))
  obtain ⟨dC, dI, hKc⟩ : ∃ (dC : Nat → ClassId) (dI : Nat → Nat → Nat), ∀ (k : Nat) (q : vw_C), vwCl[k]? = some q → u_Kn s q.1 q.2.1 q.2.2 (dC k) (dI k) := by
    refine ⟨fun k => match k with | 0 => c0 | 1 => c1 | 2 => c2 | 3 => c3 | 4 => c4 | _ => c5, fun k => match k with | 0 => iS0 | 1 => iS1 | 2 => iS2 | 3 => iS3 | 4 => iS4 | _ => iS5, ?_⟩
    intro k q hq
    match k, hq with
    | 0, hq => cases hq; exact hKn0
    | 1, hq => cases hq; exact hKn1
    | 2, hq => cases hq; exact hKn2
    | 3, hq => cases hq; exact hKn3
    | 4, hq => cases hq; exact hKn4
    | 5, hq => cases hq; exact hKn5
    | k + 6, hq => simp [vwCl] at hq
  obtain ⟨cI, kA, comp, f1, f2, f3⟩ := Cond.arrayClass_spec (hts0 (.arrayClass .int) (by decide +kernel))
  obtain ⟨comp2, cS, kS, g1, g2, g3, g4, g5⟩ := Cond.arrayOver_spec (hts0 (.arrayOver (.object "AlarmRing$State")) (by decide +kernel))
  have hK : va_K (dC, dI) vwCl (ty2 cI cS) s := by
    refine ⟨hKc, fun k q h => ?_⟩
    match k, h with
    | 0, h => cases h; exact ⟨fun n z => ⟨fun k h => (by cases h), kA, f2, comp, f3⟩, f1⟩
    | 1, h => cases h; exact ⟨fun n z => ⟨fun k h => (by cases h), kS, g3, comp2, g4⟩, ⟨kS, comp2, g3, g4, g1, g5⟩⟩
    | k + 2, h => simp [ty2] at h
  have hN : NW s := ⟨va_Nw.of rfl (hts0 (.methodLinkNest RX1 55 yX5_within RX5) (by decide +kernel)), va_Nw.of rfl (hts0 (.methodLinkNest RX2 9 yX5_bit RX5) (by decide +kernel)), va_Nw.of rfl (hts0 (.methodLinkNest RX3 64 yX5_bit RX5) (by decide +kernel)), va_Nw.of rfl (hts0 (.methodLinkNest RX5 9 yX4_init RX5) (by decide +kernel)), va_Nw.of rfl (hts0 (.methodLinkNest RX5 25 yX1_init RX5) (by decide +kernel)), va_AO.of (hts0 (.arrayOver (.object "AlarmRing$State")) (by decide +kernel))⟩
  have hfl := flat_of_before _ hgv
  obtain ⟨adK, adV, hSt, hev⟩ := vk_Sof (args := #[Value.ref b]) (s := s) (N := 1) (tm := fun _ => Term.string "AlarmRing" 40) (len := [108]) (byt := [strB]) (A := fun q : Nat => s.heap.size ≤ q)
    (fun i hi => by rw [show i = 0 by omega]; decide)
    (fun i hi => hfl _ str_w1) (fun i hi => hfl _ str_w2) (fun i hi => hfl _ str_w3)
    (fun i hi => by rw [show i = 0 by omega]; exact hfl _ str_w4)
    (fun i hi j hj => by
      rw [show i = 0 by omega] at hj ⊢
      exact hfl _ (str_w5 j hj))
    (fun i j hi hj hij => absurd (show i = j by omega) hij) hlow
  have hS1 : vk_S 1 [108] [strB] (fun _ => adK 0) (fun _ => adV 0) (fun q => s.heap.size ≤ q) s s.heap := by
    refine ⟨fun i hi => ?_, fun i j hi hj _ => by omega⟩
    have e : i = 0 := by omega
    subst e
    exact hSt.1 0 hi
  have hSX : SX s.heap.size (adK 0) (adV 0) s s.heap := ⟨hS1,
    va_Zof (hts0 (.laysStatic "java/lang/String" "COMPACT_STRINGS" "Z") (by decide +kernel)) (hts0 (.initialized "java/lang/String") (by decide +kernel)) (va_eqi (hfl _ str_w6)) hlow,
    va_Zqof (hts0 (.laysStatic "jdk/internal/util/Preconditions" "SIOOBE_FORMATTER" "Ljava/util/function/BiFunction;") (by decide +kernel)) (hts0 (.initialized "jdk/internal/util/Preconditions") (by decide +kernel)) (hfl _ str_w7) hlow,
    vk_R.of (hts0 (.stringRef RX5 40 strT) (by decide +kernel)) (hev 0 (by decide)), Nat.le_refl _⟩
  have hS : va_S (fun q : Nat => s.heap.size ≤ q) s.heap s.heap [] := va_S.rf
  have hP : va_P (dC, dI) vwCl [] s.heap := fun k q h => by simp at h
  have hD : va_D (fun q : Nat => s.heap.size ≤ q) [] := ⟨fun i j p q h => by simp at h, fun k q h => by simp at h⟩
  have hl := lv_entry ([.ref b]) (n := 4) (Nat.le_of_ble_eq_true rfl)
  rw [lg_entry_eq]
  generalize (lg_sl ([.ref b]) ++ List.replicate (4 - (lg_sl ([.ref b])).length) Slot.unset).toArray = ls at hl ⊢
  have hl : lv_has ls 4 [(0, .ref b)] := hl
  refine va_new (ci := 4) (fs := [.null, .null, .null, .null, .null]) (C := RX5) (T := TX5) (N := 5) hx hb hts inlX5 tyX5 tyX5_ok hown (hts0 (.classLink RL 7 RX5) (by decide +kernel)) (hts0 (.instantiable RX5 5) (by decide +kernel)) (hts0 (.initialized RX5) (by decide +kernel)) hK hP hD hS hA rfl (fun j hj => by rcases (show j = 0 ∨ j = 1 ∨ j = 2 ∨ j = 3 ∨ j = 4 by omega) with rfl | rfl | rfl | rfl | rfl <;> rfl) (Nat.le_of_ble_eq_true rfl) (Nat.le_of_ble_eq_true rfl) dL_law_0 (fun a H hP hD hS => ?_)
  have hP : va_P (dC, dI) vwCl [(a, .inr (4, [.null, .null, .null, .null, .null]))] H := hP
  have hD : va_D (fun q : Nat => s.heap.size ≤ q) [(a, .inr (4, [.null, .null, .null, .null, .null]))] := hD
  have haz : s.heap.size ≤ a := hD.2 0 _ rfl
  refine W.widen (k := 1) (n := 5) (Nat.le_of_ble_eq_true rfl) (Nat.le_of_ble_eq_true rfl) ?_
  refine lv_dup hx hb dL_law_3 rfl ?_
  refine gI_nx (wc := [(a, .inr (4, [.null, .null, .null, .null, .null]))]) (wr := []) (wu := fun u => RWd cI cS a u C0) (As := []) (rest := [.ref a]) ⟨hx, hb, hml, hown, hts⟩ (c_X5_init l (dC, dI) cI cS a H.size s.heap.size (adK 0) (adV 0) haz C0 h5) (cwI 0 hts gL_law_X5_init rfl rfl rfl (hts0 (.initialized RX5) (by decide +kernel)) (hts0 (.methodLink RL 9 yX5_init) (by decide +kernel)) (hts0 (.instanceMethod yX5_init) (by decide +kernel)) rfl cd_X5_init ⟨(Nat.le_of_ble_eq_true rfl), (Nat.le_of_ble_eq_true rfl)⟩) hK hN (hSX.now (fun q h => h) hS) hP hD hS hA [0] [] rfl rfl (by decide) (by decide) (by decide) rfl hl.1 rfl (Nat.le_of_ble_eq_true rfl) dL_law_4 ⟨(Nat.le_of_ble_eq_true rfl), (Nat.le_of_ble_eq_true rfl)⟩ (fun u H locs hP hD hS => ?_)
  refine W.widen (k := 60) (n := 753) (Nat.le_of_ble_eq_true rfl) (Nat.le_of_ble_eq_true rfl) ?_
  have hP : va_P (dC, dI) vwCl (RWd cI cS a u C0) H := hP
  have hD : va_D (fun q : Nat => s.heap.size ≤ q) (RWd cI cS a u C0) := hD
  refine lv_astore_n (lv' := [(1, .ref a), (0, .ref b)]) hx hb dL_law_7 rfl hl (by decide) rfl (fun ls hl => ?_)
  refine va_new (ci := 5) (fs := [.int 0, .null, .int 0, .null, .null, .null, .null, .int 0, .int 0, .int 0, .int 0, .int 0]) (C := RX6) (T := TX6) (N := 12) hx hb hts inlX6 tyX6 tyX6_ok hown (hts0 (.classLink RL 10 RX6) (by decide +kernel)) (hts0 (.instantiable RX6 12) (by decide +kernel)) (hts0 (.initialized RX6) (by decide +kernel)) hK hP hD hS hA rfl (fun j hj => by rcases (show j = 0 ∨ j = 1 ∨ j = 2 ∨ j = 3 ∨ j = 4 ∨ j = 5 ∨ j = 6 ∨ j = 7 ∨ j = 8 ∨ j = 9 ∨ j = 10 ∨ j = 11 by omega) with rfl | rfl | rfl | rfl | rfl | rfl | rfl | rfl | rfl | rfl | rfl | rfl <;> rfl) (Nat.le_of_ble_eq_true rfl) (Nat.le_of_ble_eq_true rfl) dL_law_8 (fun bm H hP hD hS => ?_)
  refine W.widen (k := 61) (n := 765) (Nat.le_of_ble_eq_true rfl) (Nat.le_of_ble_eq_true rfl) ?_
  refine lv_dup hx hb dL_law_11 rfl ?_
  refine gI_n (wc := [(bm, .inr (5, [.int 0, .null, .int 0, .null, .null, .null, .null, .int 0, .int 0, .int 0, .int 0, .int 0]))]) (wr := RWd cI cS a u C0) (wu := fun w => MWd cI bm w M0) (As := []) (rest := [.ref bm]) ⟨hx, hb, hml, hown, hts⟩ (c_X6_init l (dC, dI) cI cS bm H.size M0 h6) (cwI 0 hts gL_law_X6_init rfl rfl rfl (hts0 (.initialized RX6) (by decide +kernel)) (hts0 (.methodLink RL 12 yX6_init) (by decide +kernel)) (hts0 (.instanceMethod yX6_init) (by decide +kernel)) rfl cd_X6_init ⟨(Nat.le_of_ble_eq_true rfl), (Nat.le_of_ble_eq_true rfl)⟩) hK hN hP hD hS hA [60] [0, 1, 2, 3, 4, 5, 6, 7, 8, 9, 10, 11, 12, 13, 14, 15, 16, 17, 18, 19, 20, 21, 22, 23, 24, 25, 26, 27, 28, 29, 30, 31, 32, 33, 34, 35, 36, 37, 38, 39, 40, 41, 42, 43, 44, 45, 46, 47, 48, 49, 50, 51, 52, 53, 54, 55, 56, 57, 58, 59] rfl rfl (by decide) (by decide) (by decide) rfl hl.1 rfl (Nat.le_of_ble_eq_true rfl) dL_law_12 ⟨(Nat.le_of_ble_eq_true rfl), (Nat.le_of_ble_eq_true rfl)⟩ (fun w H locs hP hD hS => ?_)
  refine W.widen (k := 66) (n := 1708) (Nat.le_of_ble_eq_true rfl) (Nat.le_of_ble_eq_true rfl) ?_
  refine lv_astore_n (lv' := [(2, .ref bm), (1, .ref a), (0, .ref b)]) hx hb dL_law_15 rfl hl (by decide) rfl (fun ls hl => ?_)
  refine lv_iconst (v := 0) hx hb dL_law_16 (by decide) ?_
  refine lv_istore_n (lv' := [(3, .int 0), (2, .ref bm), (1, .ref a), (0, .ref b)]) hx hb dL_law_17 rfl hl (by decide) rfl (fun ls hl => ?_)
  exact law_loop hOK hL hx hb hr hml hown hts hK hN hX hbl hlocks (L + 1) 0 0 (by omega) (by omega) rfl u C0 M0 hR0 H locs ls hP hD hS (lv_sub hl [3, 2, 1, 0] rfl)
