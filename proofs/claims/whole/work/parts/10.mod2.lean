def f_X6_how (t_shortAs : Int32) (t_s : FN) (x0 : Int32) : Option (Int32) := (if x0 = t_shortAs then some (2) else (if gi (48 + x0) 87 then some ((t_s ((48 + x0)).toNatClampNeg)) else none))
abbrev rm_X6_how : Room := { frames := 0, cells := 0, slots := 0, locals := 0 }
theorem cd_X6_how : (yX6_how).cls = RX6 ∧ (yX6_how).cls ≠ "java/lang/invoke/MethodHandle" ∧ (yX6_how).cls ≠ "java/lang/invoke/VarHandle" ∧ (parseMethodDescriptor (yX6_how).desc).map (fun d => d.parameters.length) = some 1 := by decide +kernel
set_option maxHeartbeats 4000000 in
set_option maxRecDepth 100000 in
theorem c_X6_how (l : Launch) (D : va_G) (cI cS : ClassId) (a_t a_t_s a_t_text a_t_told a_t_read a_t_before : Nat) (sz : Nat) (t_length : Int32) (t_spot : Int32) (t_undoMany : Int32) (t_shortAs : Int32) (t_isolatorAs : Int32) (t_worstWire : Int32) (t_worstLost : Int32) (t_s : FN) (x0 : Int32) (out : Int32) (h : f_X6_how t_shortAs t_s x0 = some out) : Met l yX6_how wsX6_how rm_X6_how (va_Pc [.ref a_t, .int x0] (GP D cI cS [(a_t, .inr (5, [.int t_length, .ref a_t_text, .int t_spot, .ref a_t_told, .ref a_t_read, .ref a_t_s, .ref a_t_before, .int t_undoMany, .int t_shortAs, .int t_isolatorAs, .int t_worstWire, .int t_worstLost])), (a_t_s, .inl (cI, 87, .inl t_s))] sz)) (QI D [(a_t, .inr (5, [.int t_length, .ref a_t_text, .int t_spot, .ref a_t_told, .ref a_t_read, .ref a_t_s, .ref a_t_before, .int t_undoMany, .int t_shortAs, .int t_isolatorAs, .int t_worstWire, .int t_worstLost])), (a_t_s, .inl (cI, 87, .inl t_s))] sz [(a_t, .inr (5, [.int t_length, .ref a_t_text, .int t_spot, .ref a_t_told, .ref a_t_read, .ref a_t_s, .ref a_t_before, .int t_undoMany, .int t_shortAs, .int t_isolatorAs, .int t_worstWire, .int t_worstLost])), (a_t_s, .inl (cI, 87, .inl t_s))] out) 0 0 (va_A [(a_t, .inr (5, [.int t_length, .ref a_t_text, .int t_spot, .ref a_t_told, .ref a_t_read, .ref a_t_s, .ref a_t_before, .int t_undoMany, .int t_shortAs, .int t_isolatorAs, .int t_worstWire, .int t_worstLost])), (a_t_s, .inl (cI, 87, .inl t_s))] sz) := by
  refine gm_i (cc := cX6_how) (maxL := 2) (rt := .int) (by decide) rfl (Nat.le_of_ble_eq_true rfl) ?_
  intro p e s m args below meth c A Q H locs ls hx hb hml hown hts hK hN hA hP hD hS hl hQ
  have hown : s.vm.findClass RX6 = some m.cls := hown
  have hl : lv_has ls 2 [(0, .ref a_t), (1, .int x0)] := hl
  have inX6 : ∀ w ∈ wsX60, w ∈ wsX6_how := by decide +kernel
  have k_0 := hts (.fieldLink RX6 25 "AlarmRingModel" "shortAs" "I") (by decide +kernel)
  have k_1 := hts (.fieldLink RX6 19 "AlarmRingModel" "s" "[I") (by decide +kernel)
  unfold f_X6_how at h
  refine lv_iload_n hx hb dX6_how_0 rfl (lv_at hl 1 rfl) ?_
  refine lv_aload_n hx hb dX6_how_1 rfl (lv_at hl 0 rfl) ?_
  refine va_get (D := D) (ci := 5) (v := .int t_shortAs) (C := RX6) (T := TX6) (N := 12) hx hb hts inX6 hown hK hP 0 rfl rfl 8 (by decide) k_0 (fun _ h9 => h9) rfl dX6_how_2 ?_
  refine lv_icmp_ne (tgt := 12) hx hb dX6_how_5 (by decide) (fun cc => ?_) (fun cc => ?_)
  · have h := oi_f cc h
    refine lv_aload_n hx hb dX6_how_12 rfl (lv_at hl 0 rfl) ?_
    refine va_get (D := D) (ci := 5) (v := .ref a_t_s) (C := RX6) (T := TX6) (N := 12) hx hb hts inX6 hown hK hP 0 rfl rfl 5 (by decide) k_1 (fun _ h9 => h9) rfl dX6_how_13 ?_
    refine lv_bipush (v := 48) hx hb dX6_how_16 (by decide) ?_
    refine lv_iload_n hx hb dX6_how_18 rfl (lv_at hl 1 rfl) ?_
    refine lv_iadd hx hb dX6_how_19 ?_
    obtain ⟨gg, h⟩ := og h
    refine va_iald hx hb hK hP 1 0 rfl rfl gg dX6_how_20 ?_
    obtain rfl := Option.some.inj h
    exact hQ 21 H locs ls rfl hP hD hS dX6_how_21
  · have h := oi_t cc h
    refine lv_iconst (v := 2) hx hb dX6_how_8 (by decide) ?_
    refine lv_goto (tgt := 21) hx hb dX6_how_9 (by decide) ?_
    obtain rfl := Option.some.inj h
    exact hQ 21 H locs ls rfl hP hD hS dX6_how_21

def f_X6_stretch_4 (t_isolatorAs : Int32) (t_told : FN) (x0 : Int32) : Nat → Int32 → Int32 → Option (Int32)
  | 0, _, _ => none
  | n + 1, v2, v3 => (if x0 ≤ v3 then some (v2) else (if gi ((3 * v3) + 2) 67 then (if (t_told (((3 * v3) + 2)).toNatClampNeg) = 1 then f_X6_stretch_4 t_isolatorAs t_told x0 n (v2 + 1) (v3 + 1) else (if v3 = t_isolatorAs then f_X6_stretch_4 t_isolatorAs t_told x0 n (v2 + 1) (v3 + 1) else f_X6_stretch_4 t_isolatorAs t_told x0 n (v2 + 0) (v3 + 1))) else none))
def f_X6_stretch (t_isolatorAs : Int32) (t_told : FN) (x0 : Int32) : Option (Int32) := ((f_X6_stretch_4 t_isolatorAs t_told x0 1000 0 0).bind (fun (q4 : Int32) => some (q4)))
abbrev rm_X6_stretch : Room := { frames := 0, cells := 0, slots := 0, locals := 0 }
theorem cd_X6_stretch : (yX6_stretch).cls = RX6 ∧ (yX6_stretch).cls ≠ "java/lang/invoke/MethodHandle" ∧ (yX6_stretch).cls ≠ "java/lang/invoke/VarHandle" ∧ (parseMethodDescriptor (yX6_stretch).desc).map (fun d => d.parameters.length) = some 1 := by decide +kernel
set_option maxHeartbeats 4000000 in
set_option maxRecDepth 100000 in
theorem c_X6_stretch (l : Launch) (D : va_G) (cI cS : ClassId) (a_t a_t_told a_t_text a_t_read a_t_s a_t_before : Nat) (sz : Nat) (t_length : Int32) (t_spot : Int32) (t_undoMany : Int32) (t_shortAs : Int32) (t_isolatorAs : Int32) (t_worstWire : Int32) (t_worstLost : Int32) (t_told : FN) (x0 : Int32) (out : Int32) (h : f_X6_stretch t_isolatorAs t_told x0 = some out) : Met l yX6_stretch wsX6_stretch rm_X6_stretch (va_Pc [.ref a_t, .int x0] (GP D cI cS [(a_t, .inr (5, [.int t_length, .ref a_t_text, .int t_spot, .ref a_t_told, .ref a_t_read, .ref a_t_s, .ref a_t_before, .int t_undoMany, .int t_shortAs, .int t_isolatorAs, .int t_worstWire, .int t_worstLost])), (a_t_told, .inl (cI, 67, .inl t_told))] sz)) (QI D [(a_t, .inr (5, [.int t_length, .ref a_t_text, .int t_spot, .ref a_t_told, .ref a_t_read, .ref a_t_s, .ref a_t_before, .int t_undoMany, .int t_shortAs, .int t_isolatorAs, .int t_worstWire, .int t_worstLost])), (a_t_told, .inl (cI, 67, .inl t_told))] sz [(a_t, .inr (5, [.int t_length, .ref a_t_text, .int t_spot, .ref a_t_told, .ref a_t_read, .ref a_t_s, .ref a_t_before, .int t_undoMany, .int t_shortAs, .int t_isolatorAs, .int t_worstWire, .int t_worstLost])), (a_t_told, .inl (cI, 67, .inl t_told))] out) 0 0 (va_A [(a_t, .inr (5, [.int t_length, .ref a_t_text, .int t_spot, .ref a_t_told, .ref a_t_read, .ref a_t_s, .ref a_t_before, .int t_undoMany, .int t_shortAs, .int t_isolatorAs, .int t_worstWire, .int t_worstLost])), (a_t_told, .inl (cI, 67, .inl t_told))] sz) := by
  refine gm_i (cc := cX6_stretch) (maxL := 4) (rt := .int) (by decide) rfl (Nat.le_of_ble_eq_true rfl) ?_
  intro p e s m args below meth c A Q H locs ls hx hb hml hown hts hK hN hA hP hD hS hl hQ
  have hown : s.vm.findClass RX6 = some m.cls := hown
  have hl : lv_has ls 4 [(0, .ref a_t), (1, .int x0)] := hl
  have inX6 : ∀ w ∈ wsX60, w ∈ wsX6_stretch := by decide +kernel
  have k_0 := hts (.fieldLink RX6 13 "AlarmRingModel" "told" "[I") (by decide +kernel)
  have k_1 := hts (.fieldLink RX6 29 "AlarmRingModel" "isolatorAs" "I") (by decide +kernel)
  unfold f_X6_stretch at h
  refine lv_iconst (v := 0) hx hb dX6_stretch_0 (by decide) ?_
  refine lv_istore_n (lv' := [(2, .int 0), (0, .ref a_t), (1, .int x0)]) hx hb dX6_stretch_1 rfl hl (by decide) rfl (fun ls hl => ?_)
  refine lv_iconst (v := 0) hx hb dX6_stretch_2 (by decide) ?_
  refine lv_istore_n (lv' := [(3, .int 0), (2, .int 0), (0, .ref a_t), (1, .int x0)]) hx hb dX6_stretch_3 rfl hl (by decide) rfl (fun ls hl => ?_)
  obtain ⟨q4, hq4, h⟩ := ob h
  have lp4 : ∀ (n : Nat) (v2 : Int32) (v3 : Int32) (H : Heap) (locs : List Loc) (ls : Array Slot), va_P D vwCl [(a_t, .inr (5, [.int t_length, .ref a_t_text, .int t_spot, .ref a_t_told, .ref a_t_read, .ref a_t_s, .ref a_t_before, .int t_undoMany, .int t_shortAs, .int t_isolatorAs, .int t_worstWire, .int t_worstLost])), (a_t_told, .inl (cI, 67, .inl t_told))] H → va_D A [(a_t, .inr (5, [.int t_length, .ref a_t_text, .int t_spot, .ref a_t_told, .ref a_t_read, .ref a_t_s, .ref a_t_before, .int t_undoMany, .int t_shortAs, .int t_isolatorAs, .int t_worstWire, .int t_worstLost])), (a_t_told, .inl (cI, 67, .inl t_told))] → va_S A s.heap H locs → lv_has ls 4 [(0, .ref a_t), (1, .int x0), (2, .int v2), (3, .int v3)] → ∀ (q4 : Int32), f_X6_stretch_4 t_isolatorAs t_told x0 n v2 v3 = some q4 → (∀ (H : Heap) (locs : List Loc) (ls : Array Slot), va_P D vwCl [(a_t, .inr (5, [.int t_length, .ref a_t_text, .int t_spot, .ref a_t_told, .ref a_t_read, .ref a_t_s, .ref a_t_before, .int t_undoMany, .int t_shortAs, .int t_isolatorAs, .int t_worstWire, .int t_worstLost])), (a_t_told, .inl (cI, 67, .inl t_told))] H → va_D A [(a_t, .inr (5, [.int t_length, .ref a_t_text, .int t_spot, .ref a_t_told, .ref a_t_read, .ref a_t_s, .ref a_t_before, .int t_undoMany, .int t_shortAs, .int t_isolatorAs, .int t_worstWire, .int t_worstLost])), (a_t_told, .inl (cI, 67, .inl t_told))] → va_S A s.heap H locs → lv_has ls 4 [(2, .int q4)] → W p l e rm_X6_stretch s m args below meth c H locs 0 0 Q (F0 m 45 ls [])) → W p l e rm_X6_stretch s m args below meth c H locs 0 0 Q (F0 m 4 ls []) := by
    intro n
    induction n with
    | zero => intro v2 v3 H locs ls hP hD hS hl q4 h kk; exact on_ h
    | succ n ih =>
      intro v2 v3 H locs ls hP hD hS hl q4 h kk
      rw [f_X6_stretch_4] at h
      refine lv_iload_n hx hb dX6_stretch_4 rfl (lv_at hl 3 rfl) ?_
      refine lv_iload_n hx hb dX6_stretch_5 rfl (lv_at hl 1 rfl) ?_
      refine lv_icmp_ge (tgt := 45) hx hb dX6_stretch_6 (by decide) (fun cc => ?_) (fun cc => ?_)
      · have h := oi_t cc h
        obtain rfl := Option.some.inj h
        exact kk H locs ls hP hD hS (lv_sub hl [2] rfl)
      · have h := oi_f cc h
        refine lv_iload_n hx hb dX6_stretch_9 rfl (lv_at hl 2 rfl) ?_
        refine lv_aload_n hx hb dX6_stretch_10 rfl (lv_at hl 0 rfl) ?_
        refine va_get (D := D) (ci := 5) (v := .ref a_t_told) (C := RX6) (T := TX6) (N := 12) hx hb hts inX6 hown hK hP 0 rfl rfl 3 (by decide) k_0 (fun _ h9 => h9) rfl dX6_stretch_11 ?_
        refine lv_iconst (v := 3) hx hb dX6_stretch_14 (by decide) ?_
        refine lv_iload_n hx hb dX6_stretch_15 rfl (lv_at hl 3 rfl) ?_
        refine lv_imul hx hb dX6_stretch_16 ?_
        refine lv_iconst (v := 2) hx hb dX6_stretch_17 (by decide) ?_
        refine lv_iadd hx hb dX6_stretch_18 ?_
        obtain ⟨gg, h⟩ := og h
        refine va_iald hx hb hK hP 1 0 rfl rfl gg dX6_stretch_19 ?_
        refine lv_iconst (v := 1) hx hb dX6_stretch_20 (by decide) ?_
        refine lv_icmp_eq (tgt := 32) hx hb dX6_stretch_21 (by decide) (fun cc => ?_) (fun cc => ?_)
        · have h := oi_t cc h
          refine lv_iconst (v := 1) hx hb dX6_stretch_32 (by decide) ?_
          refine lv_goto (tgt := 37) hx hb dX6_stretch_33 (by decide) ?_
          refine lv_iadd hx hb dX6_stretch_37 ?_
          refine lv_istore_n (lv' := [(2, .int (v2 + 1)), (0, .ref a_t), (1, .int x0), (3, .int v3)]) hx hb dX6_stretch_38 rfl hl (by decide) rfl (fun ls hl => ?_)
          refine lv_iinc (v := (v3 + 1)) (lv' := [(3, .int (v3 + 1)), (2, .int (v2 + 1)), (0, .ref a_t), (1, .int x0)]) hx hb dX6_stretch_39 hl (k := 3) rfl (by first | rfl | decide) (by decide) rfl (fun ls hl => ?_)
          refine lv_goto (tgt := 4) hx hb dX6_stretch_42 (by decide) ?_
          exact ih (v2 + 1) (v3 + 1) H locs ls hP hD hS (lv_sub hl [2, 3, 1, 0] rfl) q4 h kk
        · have h := oi_f cc h
          refine lv_iload_n hx hb dX6_stretch_24 rfl (lv_at hl 3 rfl) ?_
          refine lv_aload_n hx hb dX6_stretch_25 rfl (lv_at hl 0 rfl) ?_
          refine va_get (D := D) (ci := 5) (v := .int t_isolatorAs) (C := RX6) (T := TX6) (N := 12) hx hb hts inX6 hown hK hP 0 rfl rfl 9 (by decide) k_1 (fun _ h9 => h9) rfl dX6_stretch_26 ?_
          refine lv_icmp_ne (tgt := 36) hx hb dX6_stretch_29 (by decide) (fun cc => ?_) (fun cc => ?_)
          · have h := oi_f cc h
            refine lv_iconst (v := 0) hx hb dX6_stretch_36 (by decide) ?_
            refine lv_iadd hx hb dX6_stretch_37 ?_
            refine lv_istore_n (lv' := [(2, .int (v2 + 0)), (0, .ref a_t), (1, .int x0), (3, .int v3)]) hx hb dX6_stretch_38 rfl hl (by decide) rfl (fun ls hl => ?_)
            refine lv_iinc (v := (v3 + 1)) (lv' := [(3, .int (v3 + 1)), (2, .int (v2 + 0)), (0, .ref a_t), (1, .int x0)]) hx hb dX6_stretch_39 hl (k := 3) rfl (by first | rfl | decide) (by decide) rfl (fun ls hl => ?_)
            refine lv_goto (tgt := 4) hx hb dX6_stretch_42 (by decide) ?_
            exact ih (v2 + 0) (v3 + 1) H locs ls hP hD hS (lv_sub hl [2, 3, 1, 0] rfl) q4 h kk
          · have h := oi_t cc h
            refine lv_iconst (v := 1) hx hb dX6_stretch_32 (by decide) ?_
            refine lv_goto (tgt := 37) hx hb dX6_stretch_33 (by decide) ?_
            refine lv_iadd hx hb dX6_stretch_37 ?_
            refine lv_istore_n (lv' := [(2, .int (v2 + 1)), (0, .ref a_t), (1, .int x0), (3, .int v3)]) hx hb dX6_stretch_38 rfl hl (by decide) rfl (fun ls hl => ?_)
            refine lv_iinc (v := (v3 + 1)) (lv' := [(3, .int (v3 + 1)), (2, .int (v2 + 1)), (0, .ref a_t), (1, .int x0)]) hx hb dX6_stretch_39 hl (k := 3) rfl (by first | rfl | decide) (by decide) rfl (fun ls hl => ?_)
            refine lv_goto (tgt := 4) hx hb dX6_stretch_42 (by decide) ?_
            exact ih (v2 + 1) (v3 + 1) H locs ls hP hD hS (lv_sub hl [2, 3, 1, 0] rfl) q4 h kk
  refine lp4 1000 0 0 H locs ls hP hD hS (lv_sub hl [2, 3, 1, 0] rfl) q4 hq4 (fun H locs ls hP hD hS hl => ?_)
  refine lv_iload_n hx hb dX6_stretch_45 rfl (lv_at hl 0 rfl) ?_
  obtain rfl := Option.some.inj h
  exact hQ 46 H locs ls rfl hP hD hS dX6_stretch_46

def f_X6_shortIn_2 (t_shortAs : Int32) (t_isolatorAs : Int32) (t_told : FN) (t_s : FN) (x0 : Int32) : Nat → Int32 → Option (Int32)
  | 0, _ => none
  | n + 1, v2 => (if (t_told (60 : Int32).toNatClampNeg) < v2 then some ((-4)) else ((f_X6_stretch t_isolatorAs t_told v2).bind (fun u15 => (if u15 = x0 then ((f_X6_how t_shortAs t_s v2).bind (fun u24 => (if u24 = 2 then some (v2) else f_X6_shortIn_2 t_shortAs t_isolatorAs t_told t_s x0 n (v2 + 1)))) else f_X6_shortIn_2 t_shortAs t_isolatorAs t_told t_s x0 n (v2 + 1)))))
def f_X6_shortIn (t_shortAs : Int32) (t_isolatorAs : Int32) (t_told : FN) (t_s : FN) (x0 : Int32) : Option (Int32) := f_X6_shortIn_2 t_shortAs t_isolatorAs t_told t_s x0 1000 0
abbrev rm_X6_shortIn : Room := { frames := 1, cells := 0, slots := 0, locals := 23 }
theorem cd_X6_shortIn : (yX6_shortIn).cls = RX6 ∧ (yX6_shortIn).cls ≠ "java/lang/invoke/MethodHandle" ∧ (yX6_shortIn).cls ≠ "java/lang/invoke/VarHandle" ∧ (parseMethodDescriptor (yX6_shortIn).desc).map (fun d => d.parameters.length) = some 1 := by decide +kernel
set_option maxHeartbeats 4000000 in
set_option maxRecDepth 100000 in
theorem c_X6_shortIn (l : Launch) (D : va_G) (cI cS : ClassId) (a_t a_t_told a_t_s a_t_text a_t_read a_t_before : Nat) (sz : Nat) (t_length : Int32) (t_spot : Int32) (t_undoMany : Int32) (t_shortAs : Int32) (t_isolatorAs : Int32) (t_worstWire : Int32) (t_worstLost : Int32) (t_told : FN) (t_s : FN) (x0 : Int32) (out : Int32) (h : f_X6_shortIn t_shortAs t_isolatorAs t_told t_s x0 = some out) : Met l yX6_shortIn wsX6_shortIn rm_X6_shortIn (va_Pc [.ref a_t, .int x0] (GP D cI cS [(a_t, .inr (5, [.int t_length, .ref a_t_text, .int t_spot, .ref a_t_told, .ref a_t_read, .ref a_t_s, .ref a_t_before, .int t_undoMany, .int t_shortAs, .int t_isolatorAs, .int t_worstWire, .int t_worstLost])), (a_t_told, .inl (cI, 67, .inl t_told)), (a_t_s, .inl (cI, 87, .inl t_s))] sz)) (QI D [(a_t, .inr (5, [.int t_length, .ref a_t_text, .int t_spot, .ref a_t_told, .ref a_t_read, .ref a_t_s, .ref a_t_before, .int t_undoMany, .int t_shortAs, .int t_isolatorAs, .int t_worstWire, .int t_worstLost])), (a_t_told, .inl (cI, 67, .inl t_told)), (a_t_s, .inl (cI, 87, .inl t_s))] sz [(a_t, .inr (5, [.int t_length, .ref a_t_text, .int t_spot, .ref a_t_told, .ref a_t_read, .ref a_t_s, .ref a_t_before, .int t_undoMany, .int t_shortAs, .int t_isolatorAs, .int t_worstWire, .int t_worstLost])), (a_t_told, .inl (cI, 67, .inl t_told)), (a_t_s, .inl (cI, 87, .inl t_s))] out) 0 0 (va_A [(a_t, .inr (5, [.int t_length, .ref a_t_text, .int t_spot, .ref a_t_told, .ref a_t_read, .ref a_t_s, .ref a_t_before, .int t_undoMany, .int t_shortAs, .int t_isolatorAs, .int t_worstWire, .int t_worstLost])), (a_t_told, .inl (cI, 67, .inl t_told)), (a_t_s, .inl (cI, 87, .inl t_s))] sz) := by
  refine gm_i (cc := cX6_shortIn) (maxL := 3) (rt := .int) (by decide) rfl (Nat.le_of_ble_eq_true rfl) ?_
  intro p e s m args below meth c A Q H locs ls hx hb hml hown hts hK hN hA hP hD hS hl hQ
  have hown : s.vm.findClass RX6 = some m.cls := hown
  have hl : lv_has ls 3 [(0, .ref a_t), (1, .int x0)] := hl
  have inX6 : ∀ w ∈ wsX60, w ∈ wsX6_shortIn := by decide +kernel
  have k_0 := hts (.fieldLink RX6 13 "AlarmRingModel" "told" "[I") (by decide +kernel)
  have lp2 : ∀ (n : Nat) (v2 : Int32) (H : Heap) (locs : List Loc) (ls : Array Slot), va_P D vwCl [(a_t, .inr (5, [.int t_length, .ref a_t_text, .int t_spot, .ref a_t_told, .ref a_t_read, .ref a_t_s, .ref a_t_before, .int t_undoMany, .int t_shortAs, .int t_isolatorAs, .int t_worstWire, .int t_worstLost])), (a_t_told, .inl (cI, 67, .inl t_told)), (a_t_s, .inl (cI, 87, .inl t_s))] H → va_D A [(a_t, .inr (5, [.int t_length, .ref a_t_text, .int t_spot, .ref a_t_told, .ref a_t_read, .ref a_t_s, .ref a_t_before, .int t_undoMany, .int t_shortAs, .int t_isolatorAs, .int t_worstWire, .int t_worstLost])), (a_t_told, .inl (cI, 67, .inl t_told)), (a_t_s, .inl (cI, 87, .inl t_s))] → va_S A s.heap H locs → lv_has ls 3 [(0, .ref a_t), (1, .int x0), (2, .int v2)] → f_X6_shortIn_2 t_shortAs t_isolatorAs t_told t_s x0 n v2 = some out → W p l e rm_X6_shortIn s m args below meth c H locs 0 0 Q (F0 m 2 ls []) := by
    intro n
    induction n with
    | zero => intro v2 H locs ls hP hD hS hl h; exact on_ h
    | succ n ih =>
      intro v2 H locs ls hP hD hS hl h
      rw [f_X6_shortIn_2] at h
      refine lv_iload_n hx hb dX6_shortIn_2 rfl (lv_at hl 2 rfl) ?_
      refine lv_aload_n hx hb dX6_shortIn_3 rfl (lv_at hl 0 rfl) ?_
      refine va_get (D := D) (ci := 5) (v := .ref a_t_told) (C := RX6) (T := TX6) (N := 12) hx hb hts inX6 hown hK hP 0 rfl rfl 3 (by decide) k_0 (fun _ h9 => h9) rfl dX6_shortIn_4 ?_
      refine lv_bipush (v := 60) hx hb dX6_shortIn_7 (by decide) ?_
      refine va_iald hx hb hK hP 1 0 rfl rfl (i := 60) (show gi 60 67 by decide) dX6_shortIn_9 ?_
      refine lv_icmp_gt (tgt := 39) hx hb dX6_shortIn_10 (by decide) (fun cc => ?_) (fun cc => ?_)
      · have h := oi_t cc h
        refine lv_bipush (v := (-4)) hx hb dX6_shortIn_39 (by decide) ?_
        obtain rfl := Option.some.inj h
        exact hQ 41 H locs ls rfl hP hD hS dX6_shortIn_41
      · have h := oi_f cc h
        refine lv_aload_n hx hb dX6_shortIn_13 rfl (lv_at hl 0 rfl) ?_
        refine lv_iload_n hx hb dX6_shortIn_14 rfl (lv_at hl 2 rfl) ?_
        obtain ⟨u15, hu15, h⟩ := ob h
        refine gV_i (C := RX6) (T := TX6) (N := 12) (ci := 5) (q0 := 0) (wc := [(a_t, .inr (5, [.int t_length, .ref a_t_text, .int t_spot, .ref a_t_told, .ref a_t_read, .ref a_t_s, .ref a_t_before, .int t_undoMany, .int t_shortAs, .int t_isolatorAs, .int t_worstWire, .int t_worstLost])), (a_t_told, .inl (cI, 67, .inl t_told))]) (wr := [(a_t_s, .inl (cI, 87, .inl t_s))]) (w1 := [(a_t, .inr (5, [.int t_length, .ref a_t_text, .int t_spot, .ref a_t_told, .ref a_t_read, .ref a_t_s, .ref a_t_before, .int t_undoMany, .int t_shortAs, .int t_isolatorAs, .int t_worstWire, .int t_worstLost])), (a_t_told, .inl (cI, 67, .inl t_told))]) (v := u15) (As := [.int v2]) (rest := []) ⟨hx, hb, hml, hown, hts⟩ (c_X6_stretch l D cI cS a_t a_t_told a_t_text a_t_read a_t_s a_t_before H.size t_length t_spot t_undoMany t_shortAs t_isolatorAs t_worstWire t_worstLost t_told v2 u15 hu15) (cwV 1 hts gX6_shortIn_X6_stretch rfl rfl rfl cd_X6_stretch ⟨Nat.le_of_ble_eq_true rfl, Nat.le_of_ble_eq_true rfl⟩) hK hN hP hD hS hA [0, 1] [2] rfl rfl (by decide) (by decide) (by decide) rfl rfl rfl hl.1 rfl (Nat.le_of_ble_eq_true rfl) dX6_shortIn_15 ⟨Nat.zero_le _, Nat.zero_le _⟩ (fun H locs hP hD hS => ?_)
        have hP : va_P D vwCl [(a_t, .inr (5, [.int t_length, .ref a_t_text, .int t_spot, .ref a_t_told, .ref a_t_read, .ref a_t_s, .ref a_t_before, .int t_undoMany, .int t_shortAs, .int t_isolatorAs, .int t_worstWire, .int t_worstLost])), (a_t_told, .inl (cI, 67, .inl t_told)), (a_t_s, .inl (cI, 87, .inl t_s))] H := hP.sub [1, 2, 0] rfl
        have hD : va_D A [(a_t, .inr (5, [.int t_length, .ref a_t_text, .int t_spot, .ref a_t_told, .ref a_t_read, .ref a_t_s, .ref a_t_before, .int t_undoMany, .int t_shortAs, .int t_isolatorAs, .int t_worstWire, .int t_worstLost])), (a_t_told, .inl (cI, 67, .inl t_told)), (a_t_s, .inl (cI, 87, .inl t_s))] := hD.sub [1, 2, 0] (by decide) rfl
        refine lv_iload_n hx hb dX6_shortIn_18 rfl (lv_at hl 1 rfl) ?_
        refine lv_icmp_ne (tgt := 33) hx hb dX6_shortIn_19 (by decide) (fun cc => ?_) (fun cc => ?_)
        · have h := oi_f cc h
          refine lv_iinc (v := (v2 + 1)) (lv' := [(2, .int (v2 + 1)), (0, .ref a_t), (1, .int x0)]) hx hb dX6_shortIn_33 hl (k := 2) rfl (by first | rfl | decide) (by decide) rfl (fun ls hl => ?_)
          refine lv_goto (tgt := 2) hx hb dX6_shortIn_36 (by decide) ?_
          exact ih (v2 + 1) H locs ls hP hD hS (lv_sub hl [1, 2, 0] rfl) h
        · have h := oi_t cc h
          refine lv_aload_n hx hb dX6_shortIn_22 rfl (lv_at hl 0 rfl) ?_
          refine lv_iload_n hx hb dX6_shortIn_23 rfl (lv_at hl 2 rfl) ?_
          obtain ⟨u24, hu24, h⟩ := ob h
          refine gV_i (C := RX6) (T := TX6) (N := 12) (ci := 5) (q0 := 0) (wc := [(a_t, .inr (5, [.int t_length, .ref a_t_text, .int t_spot, .ref a_t_told, .ref a_t_read, .ref a_t_s, .ref a_t_before, .int t_undoMany, .int t_shortAs, .int t_isolatorAs, .int t_worstWire, .int t_worstLost])), (a_t_s, .inl (cI, 87, .inl t_s))]) (wr := [(a_t_told, .inl (cI, 67, .inl t_told))]) (w1 := [(a_t, .inr (5, [.int t_length, .ref a_t_text, .int t_spot, .ref a_t_told, .ref a_t_read, .ref a_t_s, .ref a_t_before, .int t_undoMany, .int t_shortAs, .int t_isolatorAs, .int t_worstWire, .int t_worstLost])), (a_t_s, .inl (cI, 87, .inl t_s))]) (v := u24) (As := [.int v2]) (rest := []) ⟨hx, hb, hml, hown, hts⟩ (c_X6_how l D cI cS a_t a_t_s a_t_text a_t_told a_t_read a_t_before H.size t_length t_spot t_undoMany t_shortAs t_isolatorAs t_worstWire t_worstLost t_s v2 u24 hu24) (cwV 1 hts gX6_shortIn_X6_how rfl rfl rfl cd_X6_how ⟨Nat.le_of_ble_eq_true rfl, Nat.le_of_ble_eq_true rfl⟩) hK hN hP hD hS hA [0, 2] [1] rfl rfl (by decide) (by decide) (by decide) rfl rfl rfl hl.1 rfl (Nat.le_of_ble_eq_true rfl) dX6_shortIn_24 ⟨Nat.zero_le _, Nat.zero_le _⟩ (fun H locs hP hD hS => ?_)
          have hP : va_P D vwCl [(a_t, .inr (5, [.int t_length, .ref a_t_text, .int t_spot, .ref a_t_told, .ref a_t_read, .ref a_t_s, .ref a_t_before, .int t_undoMany, .int t_shortAs, .int t_isolatorAs, .int t_worstWire, .int t_worstLost])), (a_t_told, .inl (cI, 67, .inl t_told)), (a_t_s, .inl (cI, 87, .inl t_s))] H := hP.sub [1, 0, 2] rfl
          have hD : va_D A [(a_t, .inr (5, [.int t_length, .ref a_t_text, .int t_spot, .ref a_t_told, .ref a_t_read, .ref a_t_s, .ref a_t_before, .int t_undoMany, .int t_shortAs, .int t_isolatorAs, .int t_worstWire, .int t_worstLost])), (a_t_told, .inl (cI, 67, .inl t_told)), (a_t_s, .inl (cI, 87, .inl t_s))] := hD.sub [1, 0, 2] (by decide) rfl
          refine lv_iconst (v := 2) hx hb dX6_shortIn_27 (by decide) ?_
          refine lv_icmp_ne (tgt := 33) hx hb dX6_shortIn_28 (by decide) (fun cc => ?_) (fun cc => ?_)
          · have h := oi_f cc h
            refine lv_iinc (v := (v2 + 1)) (lv' := [(2, .int (v2 + 1)), (0, .ref a_t), (1, .int x0)]) hx hb dX6_shortIn_33 hl (k := 2) rfl (by first | rfl | decide) (by decide) rfl (fun ls hl => ?_)
            refine lv_goto (tgt := 2) hx hb dX6_shortIn_36 (by decide) ?_
            exact ih (v2 + 1) H locs ls hP hD hS (lv_sub hl [1, 2, 0] rfl) h
          · have h := oi_t cc h
            refine lv_iload_n hx hb dX6_shortIn_31 rfl (lv_at hl 2 rfl) ?_
            obtain rfl := Option.some.inj h
            exact hQ 32 H locs ls rfl hP hD hS dX6_shortIn_32
  unfold f_X6_shortIn at h
  refine lv_iconst (v := 0) hx hb dX6_shortIn_0 (by decide) ?_
  refine lv_istore_n (lv' := [(2, .int 0), (0, .ref a_t), (1, .int x0)]) hx hb dX6_shortIn_1 rfl hl (by decide) rfl (fun ls hl => ?_)
  exact lp2 1000 0 H locs ls hP hD hS (lv_sub hl [1, 2, 0] rfl) h

def f_X6_goesOn (t_shortAs : Int32) (t_isolatorAs : Int32) (t_told : FN) (t_s : FN) (x0 : Int32) : Option (Int32) := ((f_X6_how t_shortAs t_s x0).bind (fun u2 => (if u2 = 1 then some (0) else ((f_X6_stretch t_isolatorAs t_told x0).bind (fun u12 => ((f_X6_shortIn t_shortAs t_isolatorAs t_told t_s u12).bind (fun u15 => (if u15 = (-4) then some (1) else some (0)))))))))
abbrev rm_X6_goesOn : Room := { frames := 2, cells := 0, slots := 0, locals := 45 }
theorem cd_X6_goesOn : (yX6_goesOn).cls = RX6 ∧ (yX6_goesOn).cls ≠ "java/lang/invoke/MethodHandle" ∧ (yX6_goesOn).cls ≠ "java/lang/invoke/VarHandle" ∧ (parseMethodDescriptor (yX6_goesOn).desc).map (fun d => d.parameters.length) = some 1 := by decide +kernel
set_option maxHeartbeats 4000000 in
set_option maxRecDepth 100000 in
theorem c_X6_goesOn (l : Launch) (D : va_G) (cI cS : ClassId) (a_t a_t_told a_t_s a_t_text a_t_read a_t_before : Nat) (sz : Nat) (t_length : Int32) (t_spot : Int32) (t_undoMany : Int32) (t_shortAs : Int32) (t_isolatorAs : Int32) (t_worstWire : Int32) (t_worstLost : Int32) (t_told : FN) (t_s : FN) (x0 : Int32) (out : Int32) (h : f_X6_goesOn t_shortAs t_isolatorAs t_told t_s x0 = some out) : Met l yX6_goesOn wsX6_goesOn rm_X6_goesOn (va_Pc [.ref a_t, .int x0] (GP D cI cS [(a_t, .inr (5, [.int t_length, .ref a_t_text, .int t_spot, .ref a_t_told, .ref a_t_read, .ref a_t_s, .ref a_t_before, .int t_undoMany, .int t_shortAs, .int t_isolatorAs, .int t_worstWire, .int t_worstLost])), (a_t_told, .inl (cI, 67, .inl t_told)), (a_t_s, .inl (cI, 87, .inl t_s))] sz)) (QI D [(a_t, .inr (5, [.int t_length, .ref a_t_text, .int t_spot, .ref a_t_told, .ref a_t_read, .ref a_t_s, .ref a_t_before, .int t_undoMany, .int t_shortAs, .int t_isolatorAs, .int t_worstWire, .int t_worstLost])), (a_t_told, .inl (cI, 67, .inl t_told)), (a_t_s, .inl (cI, 87, .inl t_s))] sz [(a_t, .inr (5, [.int t_length, .ref a_t_text, .int t_spot, .ref a_t_told, .ref a_t_read, .ref a_t_s, .ref a_t_before, .int t_undoMany, .int t_shortAs, .int t_isolatorAs, .int t_worstWire, .int t_worstLost])), (a_t_told, .inl (cI, 67, .inl t_told)), (a_t_s, .inl (cI, 87, .inl t_s))] out) 0 0 (va_A [(a_t, .inr (5, [.int t_length, .ref a_t_text, .int t_spot, .ref a_t_told, .ref a_t_read, .ref a_t_s, .ref a_t_before, .int t_undoMany, .int t_shortAs, .int t_isolatorAs, .int t_worstWire, .int t_worstLost])), (a_t_told, .inl (cI, 67, .inl t_told)), (a_t_s, .inl (cI, 87, .inl t_s))] sz) := by
  refine gm_i (cc := cX6_goesOn) (maxL := 2) (rt := .boolean) (by decide) rfl (Nat.le_of_ble_eq_true rfl) ?_
  intro p e s m args below meth c A Q H locs ls hx hb hml hown hts hK hN hA hP hD hS hl hQ
  have hown : s.vm.findClass RX6 = some m.cls := hown
  have hl : lv_has ls 2 [(0, .ref a_t), (1, .int x0)] := hl
  unfold f_X6_goesOn at h
  refine lv_aload_n hx hb dX6_goesOn_0 rfl (lv_at hl 0 rfl) ?_
  refine lv_iload_n hx hb dX6_goesOn_1 rfl (lv_at hl 1 rfl) ?_
  obtain ⟨u2, hu2, h⟩ := ob h
  refine gV_i (C := RX6) (T := TX6) (N := 12) (ci := 5) (q0 := 0) (wc := [(a_t, .inr (5, [.int t_length, .ref a_t_text, .int t_spot, .ref a_t_told, .ref a_t_read, .ref a_t_s, .ref a_t_before, .int t_undoMany, .int t_shortAs, .int t_isolatorAs, .int t_worstWire, .int t_worstLost])), (a_t_s, .inl (cI, 87, .inl t_s))]) (wr := [(a_t_told, .inl (cI, 67, .inl t_told))]) (w1 := [(a_t, .inr (5, [.int t_length, .ref a_t_text, .int t_spot, .ref a_t_told, .ref a_t_read, .ref a_t_s, .ref a_t_before, .int t_undoMany, .int t_shortAs, .int t_isolatorAs, .int t_worstWire, .int t_worstLost])), (a_t_s, .inl (cI, 87, .inl t_s))]) (v := u2) (As := [.int x0]) (rest := []) ⟨hx, hb, hml, hown, hts⟩ (c_X6_how l D cI cS a_t a_t_s a_t_text a_t_told a_t_read a_t_before H.size t_length t_spot t_undoMany t_shortAs t_isolatorAs t_worstWire t_worstLost t_s x0 u2 hu2) (cwV 1 hts gX6_goesOn_X6_how rfl rfl rfl cd_X6_how ⟨Nat.le_of_ble_eq_true rfl, Nat.le_of_ble_eq_true rfl⟩) hK hN hP hD hS hA [0, 2] [1] rfl rfl (by decide) (by decide) (by decide) rfl rfl rfl hl.1 rfl (Nat.le_of_ble_eq_true rfl) dX6_goesOn_2 ⟨Nat.zero_le _, Nat.zero_le _⟩ (fun H locs hP hD hS => ?_)
  have hP : va_P D vwCl [(a_t, .inr (5, [.int t_length, .ref a_t_text, .int t_spot, .ref a_t_told, .ref a_t_read, .ref a_t_s, .ref a_t_before, .int t_undoMany, .int t_shortAs, .int t_isolatorAs, .int t_worstWire, .int t_worstLost])), (a_t_told, .inl (cI, 67, .inl t_told)), (a_t_s, .inl (cI, 87, .inl t_s))] H := hP.sub [1, 0, 2] rfl
  have hD : va_D A [(a_t, .inr (5, [.int t_length, .ref a_t_text, .int t_spot, .ref a_t_told, .ref a_t_read, .ref a_t_s, .ref a_t_before, .int t_undoMany, .int t_shortAs, .int t_isolatorAs, .int t_worstWire, .int t_worstLost])), (a_t_told, .inl (cI, 67, .inl t_told)), (a_t_s, .inl (cI, 87, .inl t_s))] := hD.sub [1, 0, 2] (by decide) rfl
  refine lv_iconst (v := 1) hx hb dX6_goesOn_5 (by decide) ?_
  refine lv_icmp_eq (tgt := 27) hx hb dX6_goesOn_6 (by decide) (fun cc => ?_) (fun cc => ?_)
  · have h := oi_t cc h
    refine lv_iconst (v := 0) hx hb dX6_goesOn_27 (by decide) ?_
    obtain rfl := Option.some.inj h
    exact hQ 28 H locs ls (nz (.inl rfl)) hP hD hS dX6_goesOn_28
  · have h := oi_f cc h
    refine lv_aload_n hx hb dX6_goesOn_9 rfl (lv_at hl 0 rfl) ?_
    refine lv_aload_n hx hb dX6_goesOn_10 rfl (lv_at hl 0 rfl) ?_
    refine lv_iload_n hx hb dX6_goesOn_11 rfl (lv_at hl 1 rfl) ?_
    obtain ⟨u12, hu12, h⟩ := ob h
    refine gV_i (C := RX6) (T := TX6) (N := 12) (ci := 5) (q0 := 0) (wc := [(a_t, .inr (5, [.int t_length, .ref a_t_text, .int t_spot, .ref a_t_told, .ref a_t_read, .ref a_t_s, .ref a_t_before, .int t_undoMany, .int t_shortAs, .int t_isolatorAs, .int t_worstWire, .int t_worstLost])), (a_t_told, .inl (cI, 67, .inl t_told))]) (wr := [(a_t_s, .inl (cI, 87, .inl t_s))]) (w1 := [(a_t, .inr (5, [.int t_length, .ref a_t_text, .int t_spot, .ref a_t_told, .ref a_t_read, .ref a_t_s, .ref a_t_before, .int t_undoMany, .int t_shortAs, .int t_isolatorAs, .int t_worstWire, .int t_worstLost])), (a_t_told, .inl (cI, 67, .inl t_told))]) (v := u12) (As := [.int x0]) (rest := [.ref a_t]) ⟨hx, hb, hml, hown, hts⟩ (c_X6_stretch l D cI cS a_t a_t_told a_t_text a_t_read a_t_s a_t_before H.size t_length t_spot t_undoMany t_shortAs t_isolatorAs t_worstWire t_worstLost t_told x0 u12 hu12) (cwV 1 hts gX6_goesOn_X6_stretch rfl rfl rfl cd_X6_stretch ⟨Nat.le_of_ble_eq_true rfl, Nat.le_of_ble_eq_true rfl⟩) hK hN hP hD hS hA [0, 1] [2] rfl rfl (by decide) (by decide) (by decide) rfl rfl rfl hl.1 rfl (Nat.le_of_ble_eq_true rfl) dX6_goesOn_12 ⟨Nat.zero_le _, Nat.zero_le _⟩ (fun H locs hP hD hS => ?_)
    have hP : va_P D vwCl [(a_t, .inr (5, [.int t_length, .ref a_t_text, .int t_spot, .ref a_t_told, .ref a_t_read, .ref a_t_s, .ref a_t_before, .int t_undoMany, .int t_shortAs, .int t_isolatorAs, .int t_worstWire, .int t_worstLost])), (a_t_told, .inl (cI, 67, .inl t_told)), (a_t_s, .inl (cI, 87, .inl t_s))] H := hP.sub [1, 2, 0] rfl
    have hD : va_D A [(a_t, .inr (5, [.int t_length, .ref a_t_text, .int t_spot, .ref a_t_told, .ref a_t_read, .ref a_t_s, .ref a_t_before, .int t_undoMany, .int t_shortAs, .int t_isolatorAs, .int t_worstWire, .int t_worstLost])), (a_t_told, .inl (cI, 67, .inl t_told)), (a_t_s, .inl (cI, 87, .inl t_s))] := hD.sub [1, 2, 0] (by decide) rfl
    obtain ⟨u15, hu15, h⟩ := ob h
    refine gV_i (C := RX6) (T := TX6) (N := 12) (ci := 5) (q0 := 0) (wc := [(a_t, .inr (5, [.int t_length, .ref a_t_text, .int t_spot, .ref a_t_told, .ref a_t_read, .ref a_t_s, .ref a_t_before, .int t_undoMany, .int t_shortAs, .int t_isolatorAs, .int t_worstWire, .int t_worstLost])), (a_t_told, .inl (cI, 67, .inl t_told)), (a_t_s, .inl (cI, 87, .inl t_s))]) (wr := []) (w1 := [(a_t, .inr (5, [.int t_length, .ref a_t_text, .int t_spot, .ref a_t_told, .ref a_t_read, .ref a_t_s, .ref a_t_before, .int t_undoMany, .int t_shortAs, .int t_isolatorAs, .int t_worstWire, .int t_worstLost])), (a_t_told, .inl (cI, 67, .inl t_told)), (a_t_s, .inl (cI, 87, .inl t_s))]) (v := u15) (As := [.int u12]) (rest := []) ⟨hx, hb, hml, hown, hts⟩ (c_X6_shortIn l D cI cS a_t a_t_told a_t_s a_t_text a_t_read a_t_before H.size t_length t_spot t_undoMany t_shortAs t_isolatorAs t_worstWire t_worstLost t_told t_s u12 u15 hu15) (cwV 1 hts gX6_goesOn_X6_shortIn rfl rfl rfl cd_X6_shortIn ⟨Nat.le_of_ble_eq_true rfl, Nat.le_of_ble_eq_true rfl⟩) hK hN hP hD hS hA [0, 1, 2] [] rfl rfl (by decide) (by decide) (by decide) rfl rfl rfl hl.1 rfl (Nat.le_of_ble_eq_true rfl) dX6_goesOn_15 ⟨Nat.zero_le _, Nat.zero_le _⟩ (fun H locs hP hD hS => ?_)
    have hP : va_P D vwCl [(a_t, .inr (5, [.int t_length, .ref a_t_text, .int t_spot, .ref a_t_told, .ref a_t_read, .ref a_t_s, .ref a_t_before, .int t_undoMany, .int t_shortAs, .int t_isolatorAs, .int t_worstWire, .int t_worstLost])), (a_t_told, .inl (cI, 67, .inl t_told)), (a_t_s, .inl (cI, 87, .inl t_s))] H := hP
    have hD : va_D A [(a_t, .inr (5, [.int t_length, .ref a_t_text, .int t_spot, .ref a_t_told, .ref a_t_read, .ref a_t_s, .ref a_t_before, .int t_undoMany, .int t_shortAs, .int t_isolatorAs, .int t_worstWire, .int t_worstLost])), (a_t_told, .inl (cI, 67, .inl t_told)), (a_t_s, .inl (cI, 87, .inl t_s))] := hD
    refine lv_bipush (v := (-4)) hx hb dX6_goesOn_18 (by decide) ?_
    refine lv_icmp_ne (tgt := 27) hx hb dX6_goesOn_20 (by decide) (fun cc => ?_) (fun cc => ?_)
    · have h := oi_f cc h
      refine lv_iconst (v := 0) hx hb dX6_goesOn_27 (by decide) ?_
      obtain rfl := Option.some.inj h
      exact hQ 28 H locs ls (nz (.inl rfl)) hP hD hS dX6_goesOn_28
    · have h := oi_t cc h
      refine lv_iconst (v := 1) hx hb dX6_goesOn_23 (by decide) ?_
      refine lv_goto (tgt := 28) hx hb dX6_goesOn_24 (by decide) ?_
      obtain rfl := Option.some.inj h
      exact hQ 28 H locs ls (nz (.inr rfl)) hP hD hS dX6_goesOn_28

def f_X6_stops_17 (t_shortAs : Int32) (t_isolatorAs : Int32) (t_told : FN) (t_s : FN) (x0 : Int32) (x1 : Int32) : Nat → Int32 → Option (Int32)
  | 0, _ => none
  | n + 1, v3 => (if x1 = 1 then (if x0 < v3 then some ((-4)) else ((f_X6_goesOn t_shortAs t_isolatorAs t_told t_s v3).bind (fun u37 => (if u37 = 0 then some (v3) else (if x1 = 1 then f_X6_stops_17 t_shortAs t_isolatorAs t_told t_s x0 x1 n (v3 + 1) else f_X6_stops_17 t_shortAs t_isolatorAs t_told t_s x0 x1 n (v3 + (-1))))))) else (if v3 ≤ x0 then some ((-4)) else ((f_X6_goesOn t_shortAs t_isolatorAs t_told t_s v3).bind (fun u37 => (if u37 = 0 then some (v3) else (if x1 = 1 then f_X6_stops_17 t_shortAs t_isolatorAs t_told t_s x0 x1 n (v3 + 1) else f_X6_stops_17 t_shortAs t_isolatorAs t_told t_s x0 x1 n (v3 + (-1))))))))
def f_X6_stops (t_shortAs : Int32) (t_isolatorAs : Int32) (t_told : FN) (t_s : FN) (x0 : Int32) (x1 : Int32) : Option (Int32) := (((if x1 = 1 then some (0) else some ((t_told (60 : Int32).toNatClampNeg)))).bind (fun (u16 : Int32) => f_X6_stops_17 t_shortAs t_isolatorAs t_told t_s x0 x1 1000 u16))
abbrev rm_X6_stops : Room := { frames := 3, cells := 0, slots := 0, locals := 66 }
theorem cd_X6_stops : (yX6_stops).cls = RX6 ∧ (yX6_stops).cls ≠ "java/lang/invoke/MethodHandle" ∧ (yX6_stops).cls ≠ "java/lang/invoke/VarHandle" ∧ (parseMethodDescriptor (yX6_stops).desc).map (fun d => d.parameters.length) = some 2 := by decide +kernel
set_option maxHeartbeats 4000000 in
set_option maxRecDepth 100000 in
theorem c_X6_stops (l : Launch) (D : va_G) (cI cS : ClassId) (a_t a_t_told a_t_s a_t_text a_t_read a_t_before : Nat) (sz : Nat) (t_length : Int32) (t_spot : Int32) (t_undoMany : Int32) (t_shortAs : Int32) (t_isolatorAs : Int32) (t_worstWire : Int32) (t_worstLost : Int32) (t_told : FN) (t_s : FN) (x0 : Int32) (x1 : Int32) (out : Int32) (h : f_X6_stops t_shortAs t_isolatorAs t_told t_s x0 x1 = some out) : Met l yX6_stops wsX6_stops rm_X6_stops (va_Pc [.ref a_t, .int x0, .int x1] (GP D cI cS [(a_t, .inr (5, [.int t_length, .ref a_t_text, .int t_spot, .ref a_t_told, .ref a_t_read, .ref a_t_s, .ref a_t_before, .int t_undoMany, .int t_shortAs, .int t_isolatorAs, .int t_worstWire, .int t_worstLost])), (a_t_told, .inl (cI, 67, .inl t_told)), (a_t_s, .inl (cI, 87, .inl t_s))] sz)) (QI D [(a_t, .inr (5, [.int t_length, .ref a_t_text, .int t_spot, .ref a_t_told, .ref a_t_read, .ref a_t_s, .ref a_t_before, .int t_undoMany, .int t_shortAs, .int t_isolatorAs, .int t_worstWire, .int t_worstLost])), (a_t_told, .inl (cI, 67, .inl t_told)), (a_t_s, .inl (cI, 87, .inl t_s))] sz [(a_t, .inr (5, [.int t_length, .ref a_t_text, .int t_spot, .ref a_t_told, .ref a_t_read, .ref a_t_s, .ref a_t_before, .int t_undoMany, .int t_shortAs, .int t_isolatorAs, .int t_worstWire, .int t_worstLost])), (a_t_told, .inl (cI, 67, .inl t_told)), (a_t_s, .inl (cI, 87, .inl t_s))] out) 0 0 (va_A [(a_t, .inr (5, [.int t_length, .ref a_t_text, .int t_spot, .ref a_t_told, .ref a_t_read, .ref a_t_s, .ref a_t_before, .int t_undoMany, .int t_shortAs, .int t_isolatorAs, .int t_worstWire, .int t_worstLost])), (a_t_told, .inl (cI, 67, .inl t_told)), (a_t_s, .inl (cI, 87, .inl t_s))] sz) := by
  refine gm_i (cc := cX6_stops) (maxL := 4) (rt := .int) (by decide) rfl (Nat.le_of_ble_eq_true rfl) ?_
  intro p e s m args below meth c A Q H locs ls hx hb hml hown hts hK hN hA hP hD hS hl hQ
  have hown : s.vm.findClass RX6 = some m.cls := hown
  have hl : lv_has ls 4 [(0, .ref a_t), (1, .int x0), (2, .int x1)] := hl
  have inX6 : ∀ w ∈ wsX60, w ∈ wsX6_stops := by decide +kernel
  have k_0 := hts (.fieldLink RX6 13 "AlarmRingModel" "told" "[I") (by decide +kernel)
  have lp17 : ∀ (n : Nat) (v3 : Int32) (H : Heap) (locs : List Loc) (ls : Array Slot), va_P D vwCl [(a_t, .inr (5, [.int t_length, .ref a_t_text, .int t_spot, .ref a_t_told, .ref a_t_read, .ref a_t_s, .ref a_t_before, .int t_undoMany, .int t_shortAs, .int t_isolatorAs, .int t_worstWire, .int t_worstLost])), (a_t_told, .inl (cI, 67, .inl t_told)), (a_t_s, .inl (cI, 87, .inl t_s))] H → va_D A [(a_t, .inr (5, [.int t_length, .ref a_t_text, .int t_spot, .ref a_t_told, .ref a_t_read, .ref a_t_s, .ref a_t_before, .int t_undoMany, .int t_shortAs, .int t_isolatorAs, .int t_worstWire, .int t_worstLost])), (a_t_told, .inl (cI, 67, .inl t_told)), (a_t_s, .inl (cI, 87, .inl t_s))] → va_S A s.heap H locs → lv_has ls 4 [(0, .ref a_t), (1, .int x0), (2, .int x1), (3, .int v3)] → f_X6_stops_17 t_shortAs t_isolatorAs t_told t_s x0 x1 n v3 = some out → W p l e rm_X6_stops s m args below meth c H locs 0 0 Q (F0 m 17 ls []) := by
    intro n
    induction n with
    | zero => intro v3 H locs ls hP hD hS hl h; exact on_ h
    | succ n ih =>
      intro v3 H locs ls hP hD hS hl h
      rw [f_X6_stops_17] at h
      refine lv_iload_n hx hb dX6_stops_17 rfl (lv_at hl 2 rfl) ?_
      refine lv_iconst (v := 1) hx hb dX6_stops_18 (by decide) ?_
      refine lv_icmp_ne (tgt := 30) hx hb dX6_stops_19 (by decide) (fun cc => ?_) (fun cc => ?_)
      · have h := oi_f cc h
        refine lv_iload_n hx hb dX6_stops_30 rfl (lv_at hl 3 rfl) ?_
        refine lv_iload_n hx hb dX6_stops_31 rfl (lv_at hl 1 rfl) ?_
        refine lv_icmp_le (tgt := 61) hx hb dX6_stops_32 (by decide) (fun cc => ?_) (fun cc => ?_)
        · have h := oi_t cc h
          refine lv_bipush (v := (-4)) hx hb dX6_stops_61 (by decide) ?_
          obtain rfl := Option.some.inj h
          exact hQ 63 H locs ls rfl hP hD hS dX6_stops_63
        · have h := oi_f cc h
          refine lv_aload_n hx hb dX6_stops_35 rfl (lv_at hl 0 rfl) ?_
          refine lv_iload_n hx hb dX6_stops_36 rfl (lv_at hl 3 rfl) ?_
          obtain ⟨u37, hu37, h⟩ := ob h
          refine gV_i (C := RX6) (T := TX6) (N := 12) (ci := 5) (q0 := 0) (wc := [(a_t, .inr (5, [.int t_length, .ref a_t_text, .int t_spot, .ref a_t_told, .ref a_t_read, .ref a_t_s, .ref a_t_before, .int t_undoMany, .int t_shortAs, .int t_isolatorAs, .int t_worstWire, .int t_worstLost])), (a_t_told, .inl (cI, 67, .inl t_told)), (a_t_s, .inl (cI, 87, .inl t_s))]) (wr := []) (w1 := [(a_t, .inr (5, [.int t_length, .ref a_t_text, .int t_spot, .ref a_t_told, .ref a_t_read, .ref a_t_s, .ref a_t_before, .int t_undoMany, .int t_shortAs, .int t_isolatorAs, .int t_worstWire, .int t_worstLost])), (a_t_told, .inl (cI, 67, .inl t_told)), (a_t_s, .inl (cI, 87, .inl t_s))]) (v := u37) (As := [.int v3]) (rest := []) ⟨hx, hb, hml, hown, hts⟩ (c_X6_goesOn l D cI cS a_t a_t_told a_t_s a_t_text a_t_read a_t_before H.size t_length t_spot t_undoMany t_shortAs t_isolatorAs t_worstWire t_worstLost t_told t_s v3 u37 hu37) (cwV 1 hts gX6_stops_X6_goesOn rfl rfl rfl cd_X6_goesOn ⟨Nat.le_of_ble_eq_true rfl, Nat.le_of_ble_eq_true rfl⟩) hK hN hP hD hS hA [0, 1, 2] [] rfl rfl (by decide) (by decide) (by decide) rfl rfl rfl hl.1 rfl (Nat.le_of_ble_eq_true rfl) dX6_stops_37 ⟨Nat.zero_le _, Nat.zero_le _⟩ (fun H locs hP hD hS => ?_)
          have hP : va_P D vwCl [(a_t, .inr (5, [.int t_length, .ref a_t_text, .int t_spot, .ref a_t_told, .ref a_t_read, .ref a_t_s, .ref a_t_before, .int t_undoMany, .int t_shortAs, .int t_isolatorAs, .int t_worstWire, .int t_worstLost])), (a_t_told, .inl (cI, 67, .inl t_told)), (a_t_s, .inl (cI, 87, .inl t_s))] H := hP
          have hD : va_D A [(a_t, .inr (5, [.int t_length, .ref a_t_text, .int t_spot, .ref a_t_told, .ref a_t_read, .ref a_t_s, .ref a_t_before, .int t_undoMany, .int t_shortAs, .int t_isolatorAs, .int t_worstWire, .int t_worstLost])), (a_t_told, .inl (cI, 67, .inl t_told)), (a_t_s, .inl (cI, 87, .inl t_s))] := hD
          refine lv_if_ne (tgt := 45) hx hb dX6_stops_40 (by decide) (fun cc => ?_) (fun cc => ?_)
          · have h := oi_f cc h
            refine lv_iload_n hx hb dX6_stops_45 rfl (lv_at hl 3 rfl) ?_
            refine lv_iload_n hx hb dX6_stops_46 rfl (lv_at hl 2 rfl) ?_
            refine lv_iconst (v := 1) hx hb dX6_stops_47 (by decide) ?_
            refine lv_icmp_ne (tgt := 55) hx hb dX6_stops_48 (by decide) (fun cc => ?_) (fun cc => ?_)
            · have h := oi_f cc h
              refine lv_iconst (v := (-1)) hx hb dX6_stops_55 (by decide) ?_
              refine lv_iadd hx hb dX6_stops_56 ?_
              refine lv_istore_n (lv' := [(3, .int (v3 + (-1))), (0, .ref a_t), (1, .int x0), (2, .int x1)]) hx hb dX6_stops_57 rfl hl (by decide) rfl (fun ls hl => ?_)
              refine lv_goto (tgt := 17) hx hb dX6_stops_58 (by decide) ?_
              exact ih (v3 + (-1)) H locs ls hP hD hS (lv_sub hl [1, 2, 3, 0] rfl) h
            · have h := oi_t cc h
              refine lv_iconst (v := 1) hx hb dX6_stops_51 (by decide) ?_
              refine lv_goto (tgt := 56) hx hb dX6_stops_52 (by decide) ?_
              refine lv_iadd hx hb dX6_stops_56 ?_
              refine lv_istore_n (lv' := [(3, .int (v3 + 1)), (0, .ref a_t), (1, .int x0), (2, .int x1)]) hx hb dX6_stops_57 rfl hl (by decide) rfl (fun ls hl => ?_)
              refine lv_goto (tgt := 17) hx hb dX6_stops_58 (by decide) ?_
              exact ih (v3 + 1) H locs ls hP hD hS (lv_sub hl [1, 2, 3, 0] rfl) h
          · have h := oi_t cc h
            refine lv_iload_n hx hb dX6_stops_43 rfl (lv_at hl 3 rfl) ?_
            obtain rfl := Option.some.inj h
            exact hQ 44 H locs ls rfl hP hD hS dX6_stops_44
      · have h := oi_t cc h
        refine lv_iload_n hx hb dX6_stops_22 rfl (lv_at hl 3 rfl) ?_
        refine lv_iload_n hx hb dX6_stops_23 rfl (lv_at hl 1 rfl) ?_
        refine lv_icmp_gt (tgt := 61) hx hb dX6_stops_24 (by decide) (fun cc => ?_) (fun cc => ?_)
        · have h := oi_t cc h
          refine lv_bipush (v := (-4)) hx hb dX6_stops_61 (by decide) ?_
          obtain rfl := Option.some.inj h
          exact hQ 63 H locs ls rfl hP hD hS dX6_stops_63
        · have h := oi_f cc h
          refine lv_goto (tgt := 35) hx hb dX6_stops_27 (by decide) ?_
          refine lv_aload_n hx hb dX6_stops_35 rfl (lv_at hl 0 rfl) ?_
          refine lv_iload_n hx hb dX6_stops_36 rfl (lv_at hl 3 rfl) ?_
          obtain ⟨u37, hu37, h⟩ := ob h
          refine gV_i (C := RX6) (T := TX6) (N := 12) (ci := 5) (q0 := 0) (wc := [(a_t, .inr (5, [.int t_length, .ref a_t_text, .int t_spot, .ref a_t_told, .ref a_t_read, .ref a_t_s, .ref a_t_before, .int t_undoMany, .int t_shortAs, .int t_isolatorAs, .int t_worstWire, .int t_worstLost])), (a_t_told, .inl (cI, 67, .inl t_told)), (a_t_s, .inl (cI, 87, .inl t_s))]) (wr := []) (w1 := [(a_t, .inr (5, [.int t_length, .ref a_t_text, .int t_spot, .ref a_t_told, .ref a_t_read, .ref a_t_s, .ref a_t_before, .int t_undoMany, .int t_shortAs, .int t_isolatorAs, .int t_worstWire, .int t_worstLost])), (a_t_told, .inl (cI, 67, .inl t_told)), (a_t_s, .inl (cI, 87, .inl t_s))]) (v := u37) (As := [.int v3]) (rest := []) ⟨hx, hb, hml, hown, hts⟩ (c_X6_goesOn l D cI cS a_t a_t_told a_t_s a_t_text a_t_read a_t_before H.size t_length t_spot t_undoMany t_shortAs t_isolatorAs t_worstWire t_worstLost t_told t_s v3 u37 hu37) (cwV 1 hts gX6_stops_X6_goesOn rfl rfl rfl cd_X6_goesOn ⟨Nat.le_of_ble_eq_true rfl, Nat.le_of_ble_eq_true rfl⟩) hK hN hP hD hS hA [0, 1, 2] [] rfl rfl (by decide) (by decide) (by decide) rfl rfl rfl hl.1 rfl (Nat.le_of_ble_eq_true rfl) dX6_stops_37 ⟨Nat.zero_le _, Nat.zero_le _⟩ (fun H locs hP hD hS => ?_)
          have hP : va_P D vwCl [(a_t, .inr (5, [.int t_length, .ref a_t_text, .int t_spot, .ref a_t_told, .ref a_t_read, .ref a_t_s, .ref a_t_before, .int t_undoMany, .int t_shortAs, .int t_isolatorAs, .int t_worstWire, .int t_worstLost])), (a_t_told, .inl (cI, 67, .inl t_told)), (a_t_s, .inl (cI, 87, .inl t_s))] H := hP
          have hD : va_D A [(a_t, .inr (5, [.int t_length, .ref a_t_text, .int t_spot, .ref a_t_told, .ref a_t_read, .ref a_t_s, .ref a_t_before, .int t_undoMany, .int t_shortAs, .int t_isolatorAs, .int t_worstWire, .int t_worstLost])), (a_t_told, .inl (cI, 67, .inl t_told)), (a_t_s, .inl (cI, 87, .inl t_s))] := hD
          refine lv_if_ne (tgt := 45) hx hb dX6_stops_40 (by decide) (fun cc => ?_) (fun cc => ?_)
          · have h := oi_f cc h
            refine lv_iload_n hx hb dX6_stops_45 rfl (lv_at hl 3 rfl) ?_
            refine lv_iload_n hx hb dX6_stops_46 rfl (lv_at hl 2 rfl) ?_
            refine lv_iconst (v := 1) hx hb dX6_stops_47 (by decide) ?_
            refine lv_icmp_ne (tgt := 55) hx hb dX6_stops_48 (by decide) (fun cc => ?_) (fun cc => ?_)
            · have h := oi_f cc h
              refine lv_iconst (v := (-1)) hx hb dX6_stops_55 (by decide) ?_
              refine lv_iadd hx hb dX6_stops_56 ?_
              refine lv_istore_n (lv' := [(3, .int (v3 + (-1))), (0, .ref a_t), (1, .int x0), (2, .int x1)]) hx hb dX6_stops_57 rfl hl (by decide) rfl (fun ls hl => ?_)
              refine lv_goto (tgt := 17) hx hb dX6_stops_58 (by decide) ?_
              exact ih (v3 + (-1)) H locs ls hP hD hS (lv_sub hl [1, 2, 3, 0] rfl) h
            · have h := oi_t cc h
              refine lv_iconst (v := 1) hx hb dX6_stops_51 (by decide) ?_
              refine lv_goto (tgt := 56) hx hb dX6_stops_52 (by decide) ?_
              refine lv_iadd hx hb dX6_stops_56 ?_
              refine lv_istore_n (lv' := [(3, .int (v3 + 1)), (0, .ref a_t), (1, .int x0), (2, .int x1)]) hx hb dX6_stops_57 rfl hl (by decide) rfl (fun ls hl => ?_)
              refine lv_goto (tgt := 17) hx hb dX6_stops_58 (by decide) ?_
              exact ih (v3 + 1) H locs ls hP hD hS (lv_sub hl [1, 2, 3, 0] rfl) h
          · have h := oi_t cc h
            refine lv_iload_n hx hb dX6_stops_43 rfl (lv_at hl 3 rfl) ?_
            obtain rfl := Option.some.inj h
            exact hQ 44 H locs ls rfl hP hD hS dX6_stops_44
  unfold f_X6_stops at h
  refine lv_iload_n hx hb dX6_stops_0 rfl (lv_at hl 2 rfl) ?_
  refine lv_iconst (v := 1) hx hb dX6_stops_1 (by decide) ?_
  obtain ⟨u16, hj16, h⟩ := ob h
  have jn16 : ∀ (H : Heap) (locs : List Loc) (ls : Array Slot), va_P D vwCl [(a_t, .inr (5, [.int t_length, .ref a_t_text, .int t_spot, .ref a_t_told, .ref a_t_read, .ref a_t_s, .ref a_t_before, .int t_undoMany, .int t_shortAs, .int t_isolatorAs, .int t_worstWire, .int t_worstLost])), (a_t_told, .inl (cI, 67, .inl t_told)), (a_t_s, .inl (cI, 87, .inl t_s))] H → va_D A [(a_t, .inr (5, [.int t_length, .ref a_t_text, .int t_spot, .ref a_t_told, .ref a_t_read, .ref a_t_s, .ref a_t_before, .int t_undoMany, .int t_shortAs, .int t_isolatorAs, .int t_worstWire, .int t_worstLost])), (a_t_told, .inl (cI, 67, .inl t_told)), (a_t_s, .inl (cI, 87, .inl t_s))] → va_S A s.heap H locs → lv_has ls 4 [(0, .ref a_t), (1, .int x0), (2, .int x1)] → W p l e rm_X6_stops s m args below meth c H locs 0 0 Q (F0 m 16 ls [.int u16]) := by
    intro H locs ls hP hD hS hl
    refine lv_istore_n (lv' := [(3, .int u16), (0, .ref a_t), (1, .int x0), (2, .int x1)]) hx hb dX6_stops_16 rfl hl (by decide) rfl (fun ls hl => ?_)
    exact lp17 1000 u16 H locs ls hP hD hS (lv_sub hl [1, 2, 3, 0] rfl) h
  have h := hj16
  refine lv_icmp_ne (tgt := 9) hx hb dX6_stops_2 (by decide) (fun cc => ?_) (fun cc => ?_)
  · have h := oi_f cc h
    refine lv_aload_n hx hb dX6_stops_9 rfl (lv_at hl 0 rfl) ?_
    refine va_get (D := D) (ci := 5) (v := .ref a_t_told) (C := RX6) (T := TX6) (N := 12) hx hb hts inX6 hown hK hP 0 rfl rfl 3 (by decide) k_0 (fun _ h9 => h9) rfl dX6_stops_10 ?_
    refine lv_bipush (v := 60) hx hb dX6_stops_13 (by decide) ?_
    refine va_iald hx hb hK hP 1 0 rfl rfl (i := 60) (show gi 60 67 by decide) dX6_stops_15 ?_
    obtain rfl := Option.some.inj h
    exact jn16 H locs ls hP hD hS (lv_sub hl [0, 1, 2] rfl)
  · have h := oi_t cc h
    refine lv_iconst (v := 0) hx hb dX6_stops_5 (by decide) ?_
    refine lv_goto (tgt := 16) hx hb dX6_stops_6 (by decide) ?_
    obtain rfl := Option.some.inj h
    exact jn16 H locs ls hP hD hS (lv_sub hl [0, 1, 2] rfl)

def f_X6_isLost (t_shortAs : Int32) (t_isolatorAs : Int32) (t_told : FN) (t_s : FN) (x0 : Int32) : Option (Int32) := ((f_X6_stops t_shortAs t_isolatorAs t_told t_s x0 1).bind (fun u3 => (if u3 = (-4) then some (0) else ((f_X6_stops t_shortAs t_isolatorAs t_told t_s x0 2).bind (fun u14 => (if u14 = (-4) then some (0) else some (1)))))))
abbrev rm_X6_isLost : Room := { frames := 4, cells := 0, slots := 0, locals := 89 }
theorem cd_X6_isLost : (yX6_isLost).cls = RX6 ∧ (yX6_isLost).cls ≠ "java/lang/invoke/MethodHandle" ∧ (yX6_isLost).cls ≠ "java/lang/invoke/VarHandle" ∧ (parseMethodDescriptor (yX6_isLost).desc).map (fun d => d.parameters.length) = some 1 := by decide +kernel
set_option maxHeartbeats 4000000 in
set_option maxRecDepth 100000 in
theorem c_X6_isLost (l : Launch) (D : va_G) (cI cS : ClassId) (a_t a_t_told a_t_s a_t_text a_t_read a_t_before : Nat) (sz : Nat) (t_length : Int32) (t_spot : Int32) (t_undoMany : Int32) (t_shortAs : Int32) (t_isolatorAs : Int32) (t_worstWire : Int32) (t_worstLost : Int32) (t_told : FN) (t_s : FN) (x0 : Int32) (out : Int32) (h : f_X6_isLost t_shortAs t_isolatorAs t_told t_s x0 = some out) : Met l yX6_isLost wsX6_isLost rm_X6_isLost (va_Pc [.ref a_t, .int x0] (GP D cI cS [(a_t, .inr (5, [.int t_length, .ref a_t_text, .int t_spot, .ref a_t_told, .ref a_t_read, .ref a_t_s, .ref a_t_before, .int t_undoMany, .int t_shortAs, .int t_isolatorAs, .int t_worstWire, .int t_worstLost])), (a_t_told, .inl (cI, 67, .inl t_told)), (a_t_s, .inl (cI, 87, .inl t_s))] sz)) (QI D [(a_t, .inr (5, [.int t_length, .ref a_t_text, .int t_spot, .ref a_t_told, .ref a_t_read, .ref a_t_s, .ref a_t_before, .int t_undoMany, .int t_shortAs, .int t_isolatorAs, .int t_worstWire, .int t_worstLost])), (a_t_told, .inl (cI, 67, .inl t_told)), (a_t_s, .inl (cI, 87, .inl t_s))] sz [(a_t, .inr (5, [.int t_length, .ref a_t_text, .int t_spot, .ref a_t_told, .ref a_t_read, .ref a_t_s, .ref a_t_before, .int t_undoMany, .int t_shortAs, .int t_isolatorAs, .int t_worstWire, .int t_worstLost])), (a_t_told, .inl (cI, 67, .inl t_told)), (a_t_s, .inl (cI, 87, .inl t_s))] out) 0 0 (va_A [(a_t, .inr (5, [.int t_length, .ref a_t_text, .int t_spot, .ref a_t_told, .ref a_t_read, .ref a_t_s, .ref a_t_before, .int t_undoMany, .int t_shortAs, .int t_isolatorAs, .int t_worstWire, .int t_worstLost])), (a_t_told, .inl (cI, 67, .inl t_told)), (a_t_s, .inl (cI, 87, .inl t_s))] sz) := by
  refine gm_i (cc := cX6_isLost) (maxL := 2) (rt := .boolean) (by decide) rfl (Nat.le_of_ble_eq_true rfl) ?_
  intro p e s m args below meth c A Q H locs ls hx hb hml hown hts hK hN hA hP hD hS hl hQ
  have hown : s.vm.findClass RX6 = some m.cls := hown
  have hl : lv_has ls 2 [(0, .ref a_t), (1, .int x0)] := hl
  unfold f_X6_isLost at h
  refine lv_aload_n hx hb dX6_isLost_0 rfl (lv_at hl 0 rfl) ?_
  refine lv_iload_n hx hb dX6_isLost_1 rfl (lv_at hl 1 rfl) ?_
  refine lv_iconst (v := 1) hx hb dX6_isLost_2 (by decide) ?_
  obtain ⟨u3, hu3, h⟩ := ob h
  refine gV_i (C := RX6) (T := TX6) (N := 12) (ci := 5) (q0 := 0) (wc := [(a_t, .inr (5, [.int t_length, .ref a_t_text, .int t_spot, .ref a_t_told, .ref a_t_read, .ref a_t_s, .ref a_t_before, .int t_undoMany, .int t_shortAs, .int t_isolatorAs, .int t_worstWire, .int t_worstLost])), (a_t_told, .inl (cI, 67, .inl t_told)), (a_t_s, .inl (cI, 87, .inl t_s))]) (wr := []) (w1 := [(a_t, .inr (5, [.int t_length, .ref a_t_text, .int t_spot, .ref a_t_told, .ref a_t_read, .ref a_t_s, .ref a_t_before, .int t_undoMany, .int t_shortAs, .int t_isolatorAs, .int t_worstWire, .int t_worstLost])), (a_t_told, .inl (cI, 67, .inl t_told)), (a_t_s, .inl (cI, 87, .inl t_s))]) (v := u3) (As := [.int x0, .int 1]) (rest := []) ⟨hx, hb, hml, hown, hts⟩ (c_X6_stops l D cI cS a_t a_t_told a_t_s a_t_text a_t_read a_t_before H.size t_length t_spot t_undoMany t_shortAs t_isolatorAs t_worstWire t_worstLost t_told t_s x0 1 u3 hu3) (cwV 2 hts gX6_isLost_X6_stops rfl rfl rfl cd_X6_stops ⟨Nat.le_of_ble_eq_true rfl, Nat.le_of_ble_eq_true rfl⟩) hK hN hP hD hS hA [0, 1, 2] [] rfl rfl (by decide) (by decide) (by decide) rfl rfl rfl hl.1 rfl (Nat.le_of_ble_eq_true rfl) dX6_isLost_3 ⟨Nat.zero_le _, Nat.zero_le _⟩ (fun H locs hP hD hS => ?_)
  have hP : va_P D vwCl [(a_t, .inr (5, [.int t_length, .ref a_t_text, .int t_spot, .ref a_t_told, .ref a_t_read, .ref a_t_s, .ref a_t_before, .int t_undoMany, .int t_shortAs, .int t_isolatorAs, .int t_worstWire, .int t_worstLost])), (a_t_told, .inl (cI, 67, .inl t_told)), (a_t_s, .inl (cI, 87, .inl t_s))] H := hP
  have hD : va_D A [(a_t, .inr (5, [.int t_length, .ref a_t_text, .int t_spot, .ref a_t_told, .ref a_t_read, .ref a_t_s, .ref a_t_before, .int t_undoMany, .int t_shortAs, .int t_isolatorAs, .int t_worstWire, .int t_worstLost])), (a_t_told, .inl (cI, 67, .inl t_told)), (a_t_s, .inl (cI, 87, .inl t_s))] := hD
  refine lv_bipush (v := (-4)) hx hb dX6_isLost_6 (by decide) ?_
  refine lv_icmp_eq (tgt := 26) hx hb dX6_isLost_8 (by decide) (fun cc => ?_) (fun cc => ?_)
  · have h := oi_t cc h
    refine lv_iconst (v := 0) hx hb dX6_isLost_26 (by decide) ?_
    obtain rfl := Option.some.inj h
    exact hQ 27 H locs ls (nz (.inl rfl)) hP hD hS dX6_isLost_27
  · have h := oi_f cc h
    refine lv_aload_n hx hb dX6_isLost_11 rfl (lv_at hl 0 rfl) ?_
    refine lv_iload_n hx hb dX6_isLost_12 rfl (lv_at hl 1 rfl) ?_
    refine lv_iconst (v := 2) hx hb dX6_isLost_13 (by decide) ?_
    obtain ⟨u14, hu14, h⟩ := ob h
    refine gV_i (C := RX6) (T := TX6) (N := 12) (ci := 5) (q0 := 0) (wc := [(a_t, .inr (5, [.int t_length, .ref a_t_text, .int t_spot, .ref a_t_told, .ref a_t_read, .ref a_t_s, .ref a_t_before, .int t_undoMany, .int t_shortAs, .int t_isolatorAs, .int t_worstWire, .int t_worstLost])), (a_t_told, .inl (cI, 67, .inl t_told)), (a_t_s, .inl (cI, 87, .inl t_s))]) (wr := []) (w1 := [(a_t, .inr (5, [.int t_length, .ref a_t_text, .int t_spot, .ref a_t_told, .ref a_t_read, .ref a_t_s, .ref a_t_before, .int t_undoMany, .int t_shortAs, .int t_isolatorAs, .int t_worstWire, .int t_worstLost])), (a_t_told, .inl (cI, 67, .inl t_told)), (a_t_s, .inl (cI, 87, .inl t_s))]) (v := u14) (As := [.int x0, .int 2]) (rest := []) ⟨hx, hb, hml, hown, hts⟩ (c_X6_stops l D cI cS a_t a_t_told a_t_s a_t_text a_t_read a_t_before H.size t_length t_spot t_undoMany t_shortAs t_isolatorAs t_worstWire t_worstLost t_told t_s x0 2 u14 hu14) (cwV 2 hts gX6_isLost_X6_stops rfl rfl rfl cd_X6_stops ⟨Nat.le_of_ble_eq_true rfl, Nat.le_of_ble_eq_true rfl⟩) hK hN hP hD hS hA [0, 1, 2] [] rfl rfl (by decide) (by decide) (by decide) rfl rfl rfl hl.1 rfl (Nat.le_of_ble_eq_true rfl) dX6_isLost_14 ⟨Nat.zero_le _, Nat.zero_le _⟩ (fun H locs hP hD hS => ?_)
    have hP : va_P D vwCl [(a_t, .inr (5, [.int t_length, .ref a_t_text, .int t_spot, .ref a_t_told, .ref a_t_read, .ref a_t_s, .ref a_t_before, .int t_undoMany, .int t_shortAs, .int t_isolatorAs, .int t_worstWire, .int t_worstLost])), (a_t_told, .inl (cI, 67, .inl t_told)), (a_t_s, .inl (cI, 87, .inl t_s))] H := hP
    have hD : va_D A [(a_t, .inr (5, [.int t_length, .ref a_t_text, .int t_spot, .ref a_t_told, .ref a_t_read, .ref a_t_s, .ref a_t_before, .int t_undoMany, .int t_shortAs, .int t_isolatorAs, .int t_worstWire, .int t_worstLost])), (a_t_told, .inl (cI, 67, .inl t_told)), (a_t_s, .inl (cI, 87, .inl t_s))] := hD
    refine lv_bipush (v := (-4)) hx hb dX6_isLost_17 (by decide) ?_
    refine lv_icmp_eq (tgt := 26) hx hb dX6_isLost_19 (by decide) (fun cc => ?_) (fun cc => ?_)
    · have h := oi_t cc h
      refine lv_iconst (v := 0) hx hb dX6_isLost_26 (by decide) ?_
      obtain rfl := Option.some.inj h
      exact hQ 27 H locs ls (nz (.inl rfl)) hP hD hS dX6_isLost_27
    · have h := oi_f cc h
      refine lv_iconst (v := 1) hx hb dX6_isLost_22 (by decide) ?_
      refine lv_goto (tgt := 27) hx hb dX6_isLost_23 (by decide) ?_
      obtain rfl := Option.some.inj h
      exact hQ 27 H locs ls (nz (.inr rfl)) hP hD hS dX6_isLost_27

def f_X6_lostMany_4 (t_shortAs : Int32) (t_isolatorAs : Int32) (t_told : FN) (t_s : FN) : Nat → Int32 → Int32 → Option (Int32)
  | 0, _, _ => none
  | n + 1, v1, v2 => (if (t_told (60 : Int32).toNatClampNeg) ≤ v2 then some (v1) else ((f_X6_isLost t_shortAs t_isolatorAs t_told t_s v2).bind (fun u18 => (if u18 = 0 then f_X6_lostMany_4 t_shortAs t_isolatorAs t_told t_s n (v1 + 0) (v2 + 1) else f_X6_lostMany_4 t_shortAs t_isolatorAs t_told t_s n (v1 + 1) (v2 + 1)))))
def f_X6_lostMany (t_shortAs : Int32) (t_isolatorAs : Int32) (t_told : FN) (t_s : FN) : Option (Int32) := ((f_X6_lostMany_4 t_shortAs t_isolatorAs t_told t_s 1000 0 0).bind (fun (q4 : Int32) => some (q4)))
abbrev rm_X6_lostMany : Room := { frames := 5, cells := 0, slots := 0, locals := 110 }
theorem cd_X6_lostMany : (yX6_lostMany).cls = RX6 ∧ (yX6_lostMany).cls ≠ "java/lang/invoke/MethodHandle" ∧ (yX6_lostMany).cls ≠ "java/lang/invoke/VarHandle" ∧ (parseMethodDescriptor (yX6_lostMany).desc).map (fun d => d.parameters.length) = some 0 := by decide +kernel
set_option maxHeartbeats 4000000 in
set_option maxRecDepth 100000 in
theorem c_X6_lostMany (l : Launch) (D : va_G) (cI cS : ClassId) (a_t a_t_told a_t_s a_t_text a_t_read a_t_before : Nat) (sz : Nat) (t_length : Int32) (t_spot : Int32) (t_undoMany : Int32) (t_shortAs : Int32) (t_isolatorAs : Int32) (t_worstWire : Int32) (t_worstLost : Int32) (t_told : FN) (t_s : FN) (out : Int32) (h : f_X6_lostMany t_shortAs t_isolatorAs t_told t_s = some out) : Met l yX6_lostMany wsX6_lostMany rm_X6_lostMany (va_Pc [.ref a_t] (GP D cI cS [(a_t, .inr (5, [.int t_length, .ref a_t_text, .int t_spot, .ref a_t_told, .ref a_t_read, .ref a_t_s, .ref a_t_before, .int t_undoMany, .int t_shortAs, .int t_isolatorAs, .int t_worstWire, .int t_worstLost])), (a_t_told, .inl (cI, 67, .inl t_told)), (a_t_s, .inl (cI, 87, .inl t_s))] sz)) (QI D [(a_t, .inr (5, [.int t_length, .ref a_t_text, .int t_spot, .ref a_t_told, .ref a_t_read, .ref a_t_s, .ref a_t_before, .int t_undoMany, .int t_shortAs, .int t_isolatorAs, .int t_worstWire, .int t_worstLost])), (a_t_told, .inl (cI, 67, .inl t_told)), (a_t_s, .inl (cI, 87, .inl t_s))] sz [(a_t, .inr (5, [.int t_length, .ref a_t_text, .int t_spot, .ref a_t_told, .ref a_t_read, .ref a_t_s, .ref a_t_before, .int t_undoMany, .int t_shortAs, .int t_isolatorAs, .int t_worstWire, .int t_worstLost])), (a_t_told, .inl (cI, 67, .inl t_told)), (a_t_s, .inl (cI, 87, .inl t_s))] out) 0 0 (va_A [(a_t, .inr (5, [.int t_length, .ref a_t_text, .int t_spot, .ref a_t_told, .ref a_t_read, .ref a_t_s, .ref a_t_before, .int t_undoMany, .int t_shortAs, .int t_isolatorAs, .int t_worstWire, .int t_worstLost])), (a_t_told, .inl (cI, 67, .inl t_told)), (a_t_s, .inl (cI, 87, .inl t_s))] sz) := by
  refine gm_i (cc := cX6_lostMany) (maxL := 3) (rt := .int) (by decide) rfl (Nat.le_of_ble_eq_true rfl) ?_
  intro p e s m args below meth c A Q H locs ls hx hb hml hown hts hK hN hA hP hD hS hl hQ
  have hown : s.vm.findClass RX6 = some m.cls := hown
  have hl : lv_has ls 3 [(0, .ref a_t)] := hl
  have inX6 : ∀ w ∈ wsX60, w ∈ wsX6_lostMany := by decide +kernel
  have k_0 := hts (.fieldLink RX6 13 "AlarmRingModel" "told" "[I") (by decide +kernel)
  unfold f_X6_lostMany at h
  refine lv_iconst (v := 0) hx hb dX6_lostMany_0 (by decide) ?_
  refine lv_istore_n (lv' := [(1, .int 0), (0, .ref a_t)]) hx hb dX6_lostMany_1 rfl hl (by decide) rfl (fun ls hl => ?_)
  refine lv_iconst (v := 0) hx hb dX6_lostMany_2 (by decide) ?_
  refine lv_istore_n (lv' := [(2, .int 0), (1, .int 0), (0, .ref a_t)]) hx hb dX6_lostMany_3 rfl hl (by decide) rfl (fun ls hl => ?_)
  obtain ⟨q4, hq4, h⟩ := ob h
  have lp4 : ∀ (n : Nat) (v1 : Int32) (v2 : Int32) (H : Heap) (locs : List Loc) (ls : Array Slot), va_P D vwCl [(a_t, .inr (5, [.int t_length, .ref a_t_text, .int t_spot, .ref a_t_told, .ref a_t_read, .ref a_t_s, .ref a_t_before, .int t_undoMany, .int t_shortAs, .int t_isolatorAs, .int t_worstWire, .int t_worstLost])), (a_t_told, .inl (cI, 67, .inl t_told)), (a_t_s, .inl (cI, 87, .inl t_s))] H → va_D A [(a_t, .inr (5, [.int t_length, .ref a_t_text, .int t_spot, .ref a_t_told, .ref a_t_read, .ref a_t_s, .ref a_t_before, .int t_undoMany, .int t_shortAs, .int t_isolatorAs, .int t_worstWire, .int t_worstLost])), (a_t_told, .inl (cI, 67, .inl t_told)), (a_t_s, .inl (cI, 87, .inl t_s))] → va_S A s.heap H locs → lv_has ls 3 [(0, .ref a_t), (1, .int v1), (2, .int v2)] → ∀ (q4 : Int32), f_X6_lostMany_4 t_shortAs t_isolatorAs t_told t_s n v1 v2 = some q4 → (∀ (H : Heap) (locs : List Loc) (ls : Array Slot), va_P D vwCl [(a_t, .inr (5, [.int t_length, .ref a_t_text, .int t_spot, .ref a_t_told, .ref a_t_read, .ref a_t_s, .ref a_t_before, .int t_undoMany, .int t_shortAs, .int t_isolatorAs, .int t_worstWire, .int t_worstLost])), (a_t_told, .inl (cI, 67, .inl t_told)), (a_t_s, .inl (cI, 87, .inl t_s))] H → va_D A [(a_t, .inr (5, [.int t_length, .ref a_t_text, .int t_spot, .ref a_t_told, .ref a_t_read, .ref a_t_s, .ref a_t_before, .int t_undoMany, .int t_shortAs, .int t_isolatorAs, .int t_worstWire, .int t_worstLost])), (a_t_told, .inl (cI, 67, .inl t_told)), (a_t_s, .inl (cI, 87, .inl t_s))] → va_S A s.heap H locs → lv_has ls 3 [(1, .int q4)] → W p l e rm_X6_lostMany s m args below meth c H locs 0 0 Q (F0 m 37 ls [])) → W p l e rm_X6_lostMany s m args below meth c H locs 0 0 Q (F0 m 4 ls []) := by
    intro n
    induction n with
    | zero => intro v1 v2 H locs ls hP hD hS hl q4 h kk; exact on_ h
    | succ n ih =>
      intro v1 v2 H locs ls hP hD hS hl q4 h kk
      rw [f_X6_lostMany_4] at h
      refine lv_iload_n hx hb dX6_lostMany_4 rfl (lv_at hl 2 rfl) ?_
      refine lv_aload_n hx hb dX6_lostMany_5 rfl (lv_at hl 0 rfl) ?_
      refine va_get (D := D) (ci := 5) (v := .ref a_t_told) (C := RX6) (T := TX6) (N := 12) hx hb hts inX6 hown hK hP 0 rfl rfl 3 (by decide) k_0 (fun _ h9 => h9) rfl dX6_lostMany_6 ?_
      refine lv_bipush (v := 60) hx hb dX6_lostMany_9 (by decide) ?_
      refine va_iald hx hb hK hP 1 0 rfl rfl (i := 60) (show gi 60 67 by decide) dX6_lostMany_11 ?_
      refine lv_icmp_ge (tgt := 37) hx hb dX6_lostMany_12 (by decide) (fun cc => ?_) (fun cc => ?_)
      · have h := oi_t cc h
        obtain rfl := Option.some.inj h
        exact kk H locs ls hP hD hS (lv_sub hl [1] rfl)
      · have h := oi_f cc h
        refine lv_iload_n hx hb dX6_lostMany_15 rfl (lv_at hl 1 rfl) ?_
        refine lv_aload_n hx hb dX6_lostMany_16 rfl (lv_at hl 0 rfl) ?_
        refine lv_iload_n hx hb dX6_lostMany_17 rfl (lv_at hl 2 rfl) ?_
        obtain ⟨u18, hu18, h⟩ := ob h
        refine gV_i (C := RX6) (T := TX6) (N := 12) (ci := 5) (q0 := 0) (wc := [(a_t, .inr (5, [.int t_length, .ref a_t_text, .int t_spot, .ref a_t_told, .ref a_t_read, .ref a_t_s, .ref a_t_before, .int t_undoMany, .int t_shortAs, .int t_isolatorAs, .int t_worstWire, .int t_worstLost])), (a_t_told, .inl (cI, 67, .inl t_told)), (a_t_s, .inl (cI, 87, .inl t_s))]) (wr := []) (w1 := [(a_t, .inr (5, [.int t_length, .ref a_t_text, .int t_spot, .ref a_t_told, .ref a_t_read, .ref a_t_s, .ref a_t_before, .int t_undoMany, .int t_shortAs, .int t_isolatorAs, .int t_worstWire, .int t_worstLost])), (a_t_told, .inl (cI, 67, .inl t_told)), (a_t_s, .inl (cI, 87, .inl t_s))]) (v := u18) (As := [.int v2]) (rest := [.int v1]) ⟨hx, hb, hml, hown, hts⟩ (c_X6_isLost l D cI cS a_t a_t_told a_t_s a_t_text a_t_read a_t_before H.size t_length t_spot t_undoMany t_shortAs t_isolatorAs t_worstWire t_worstLost t_told t_s v2 u18 hu18) (cwV 1 hts gX6_lostMany_X6_isLost rfl rfl rfl cd_X6_isLost ⟨Nat.le_of_ble_eq_true rfl, Nat.le_of_ble_eq_true rfl⟩) hK hN hP hD hS hA [0, 1, 2] [] rfl rfl (by decide) (by decide) (by decide) rfl rfl rfl hl.1 rfl (Nat.le_of_ble_eq_true rfl) dX6_lostMany_18 ⟨Nat.zero_le _, Nat.zero_le _⟩ (fun H locs hP hD hS => ?_)
        have hP : va_P D vwCl [(a_t, .inr (5, [.int t_length, .ref a_t_text, .int t_spot, .ref a_t_told, .ref a_t_read, .ref a_t_s, .ref a_t_before, .int t_undoMany, .int t_shortAs, .int t_isolatorAs, .int t_worstWire, .int t_worstLost])), (a_t_told, .inl (cI, 67, .inl t_told)), (a_t_s, .inl (cI, 87, .inl t_s))] H := hP
        have hD : va_D A [(a_t, .inr (5, [.int t_length, .ref a_t_text, .int t_spot, .ref a_t_told, .ref a_t_read, .ref a_t_s, .ref a_t_before, .int t_undoMany, .int t_shortAs, .int t_isolatorAs, .int t_worstWire, .int t_worstLost])), (a_t_told, .inl (cI, 67, .inl t_told)), (a_t_s, .inl (cI, 87, .inl t_s))] := hD
        refine lv_if_eq (tgt := 28) hx hb dX6_lostMany_21 (by decide) (fun cc => ?_) (fun cc => ?_)
        · have h := oi_t cc h
          refine lv_iconst (v := 0) hx hb dX6_lostMany_28 (by decide) ?_
          refine lv_iadd hx hb dX6_lostMany_29 ?_
          refine lv_istore_n (lv' := [(1, .int (v1 + 0)), (0, .ref a_t), (2, .int v2)]) hx hb dX6_lostMany_30 rfl hl (by decide) rfl (fun ls hl => ?_)
          refine lv_iinc (v := (v2 + 1)) (lv' := [(2, .int (v2 + 1)), (1, .int (v1 + 0)), (0, .ref a_t)]) hx hb dX6_lostMany_31 hl (k := 2) rfl (by first | rfl | decide) (by decide) rfl (fun ls hl => ?_)
          refine lv_goto (tgt := 4) hx hb dX6_lostMany_34 (by decide) ?_
          exact ih (v1 + 0) (v2 + 1) H locs ls hP hD hS (lv_sub hl [2, 1, 0] rfl) q4 h kk
        · have h := oi_f cc h
          refine lv_iconst (v := 1) hx hb dX6_lostMany_24 (by decide) ?_
          refine lv_goto (tgt := 29) hx hb dX6_lostMany_25 (by decide) ?_
          refine lv_iadd hx hb dX6_lostMany_29 ?_
          refine lv_istore_n (lv' := [(1, .int (v1 + 1)), (0, .ref a_t), (2, .int v2)]) hx hb dX6_lostMany_30 rfl hl (by decide) rfl (fun ls hl => ?_)
          refine lv_iinc (v := (v2 + 1)) (lv' := [(2, .int (v2 + 1)), (1, .int (v1 + 1)), (0, .ref a_t)]) hx hb dX6_lostMany_31 hl (k := 2) rfl (by first | rfl | decide) (by decide) rfl (fun ls hl => ?_)
          refine lv_goto (tgt := 4) hx hb dX6_lostMany_34 (by decide) ?_
          exact ih (v1 + 1) (v2 + 1) H locs ls hP hD hS (lv_sub hl [2, 1, 0] rfl) q4 h kk
  refine lp4 1000 0 0 H locs ls hP hD hS (lv_sub hl [2, 1, 0] rfl) q4 hq4 (fun H locs ls hP hD hS hl => ?_)
  refine lv_iload_n hx hb dX6_lostMany_37 rfl (lv_at hl 0 rfl) ?_
  obtain rfl := Option.some.inj h
  exact hQ 38 H locs ls rfl hP hD hS dX6_lostMany_38

def f_X6_stop (t_shortAs : Int32) (t_isolatorAs : Int32) (t_told : FN) (t_s : FN) (x0 : Int32) (x1 : Int32) (x2 : Int32) : Option (Int32) := ((f_X6_isDevice t_told x0).bind (fun u2 => (if u2 = 0 then some ((-1)) else ((f_X6_in (x1).toInt64 1 2).bind (fun u14 => (if u14 = 0 then some ((-1)) else ((f_X6_in (x2).toInt64 0 2).bind (fun u26 => (if u26 = 0 then some ((-1)) else ((f_X6_stops t_shortAs t_isolatorAs t_told t_s x0 x1).bind (fun u37 => (if u37 = (-4) then (if x2 = 0 then some (0) else some ((-4))) else (if x2 = 0 then (if gi (48 + u37) 87 then (if (t_s ((48 + u37)).toNatClampNeg) = 1 then some (1) else some (2)) else none) else (if x2 = 1 then some (u37) else ((f_X6_stretch t_isolatorAs t_told u37).bind (fun u100 => ((f_X6_shortIn t_shortAs t_isolatorAs t_told t_s u100).bind (fun u103 => some (u103)))))))))))))))))))
abbrev rm_X6_stop : Room := { frames := 4, cells := 0, slots := 0, locals := 89 }
theorem cd_X6_stop : (yX6_stop).cls = RX6 ∧ (yX6_stop).cls ≠ "java/lang/invoke/MethodHandle" ∧ (yX6_stop).cls ≠ "java/lang/invoke/VarHandle" ∧ (parseMethodDescriptor (yX6_stop).desc).map (fun d => d.parameters.length) = some 3 := by decide +kernel
set_option maxHeartbeats 4000000 in
set_option maxRecDepth 100000 in
theorem c_X6_stop (l : Launch) (D : va_G) (cI cS : ClassId) (a_t a_t_told a_t_s a_t_text a_t_read a_t_before : Nat) (sz : Nat) (t_length : Int32) (t_spot : Int32) (t_undoMany : Int32) (t_shortAs : Int32) (t_isolatorAs : Int32) (t_worstWire : Int32) (t_worstLost : Int32) (t_told : FN) (t_s : FN) (x0 : Int32) (x1 : Int32) (x2 : Int32) (out : Int32) (h : f_X6_stop t_shortAs t_isolatorAs t_told t_s x0 x1 x2 = some out) : Met l yX6_stop wsX6_stop rm_X6_stop (va_Pc [.ref a_t, .int x0, .int x1, .int x2] (GP D cI cS [(a_t, .inr (5, [.int t_length, .ref a_t_text, .int t_spot, .ref a_t_told, .ref a_t_read, .ref a_t_s, .ref a_t_before, .int t_undoMany, .int t_shortAs, .int t_isolatorAs, .int t_worstWire, .int t_worstLost])), (a_t_told, .inl (cI, 67, .inl t_told)), (a_t_s, .inl (cI, 87, .inl t_s))] sz)) (QI D [(a_t, .inr (5, [.int t_length, .ref a_t_text, .int t_spot, .ref a_t_told, .ref a_t_read, .ref a_t_s, .ref a_t_before, .int t_undoMany, .int t_shortAs, .int t_isolatorAs, .int t_worstWire, .int t_worstLost])), (a_t_told, .inl (cI, 67, .inl t_told)), (a_t_s, .inl (cI, 87, .inl t_s))] sz [(a_t, .inr (5, [.int t_length, .ref a_t_text, .int t_spot, .ref a_t_told, .ref a_t_read, .ref a_t_s, .ref a_t_before, .int t_undoMany, .int t_shortAs, .int t_isolatorAs, .int t_worstWire, .int t_worstLost])), (a_t_told, .inl (cI, 67, .inl t_told)), (a_t_s, .inl (cI, 87, .inl t_s))] out) 0 0 (va_A [(a_t, .inr (5, [.int t_length, .ref a_t_text, .int t_spot, .ref a_t_told, .ref a_t_read, .ref a_t_s, .ref a_t_before, .int t_undoMany, .int t_shortAs, .int t_isolatorAs, .int t_worstWire, .int t_worstLost])), (a_t_told, .inl (cI, 67, .inl t_told)), (a_t_s, .inl (cI, 87, .inl t_s))] sz) := by
  refine gm_i (cc := cX6_stop) (maxL := 5) (rt := .int) (by decide) rfl (Nat.le_of_ble_eq_true rfl) ?_
  intro p e s m args below meth c A Q H locs ls hx hb hml hown hts hK hN hA hP hD hS hl hQ
  have hown : s.vm.findClass RX6 = some m.cls := hown
  have hl : lv_has ls 5 [(0, .ref a_t), (1, .int x0), (2, .int x1), (3, .int x2)] := hl
  have inX6 : ∀ w ∈ wsX60, w ∈ wsX6_stop := by decide +kernel
  have k_0 := hts (.constantLong RX6 99 (2)) (by decide +kernel)
  have k_1 := hts (.fieldLink RX6 19 "AlarmRingModel" "s" "[I") (by decide +kernel)
  unfold f_X6_stop at h
  refine lv_aload_n hx hb dX6_stop_0 rfl (lv_at hl 0 rfl) ?_
  refine lv_iload_n hx hb dX6_stop_1 rfl (lv_at hl 1 rfl) ?_
  obtain ⟨u2, hu2, h⟩ := ob h
  refine gV_i (C := RX6) (T := TX6) (N := 12) (ci := 5) (q0 := 0) (wc := [(a_t, .inr (5, [.int t_length, .ref a_t_text, .int t_spot, .ref a_t_told, .ref a_t_read, .ref a_t_s, .ref a_t_before, .int t_undoMany, .int t_shortAs, .int t_isolatorAs, .int t_worstWire, .int t_worstLost])), (a_t_told, .inl (cI, 67, .inl t_told))]) (wr := [(a_t_s, .inl (cI, 87, .inl t_s))]) (w1 := [(a_t, .inr (5, [.int t_length, .ref a_t_text, .int t_spot, .ref a_t_told, .ref a_t_read, .ref a_t_s, .ref a_t_before, .int t_undoMany, .int t_shortAs, .int t_isolatorAs, .int t_worstWire, .int t_worstLost])), (a_t_told, .inl (cI, 67, .inl t_told))]) (v := u2) (As := [.int x0]) (rest := []) ⟨hx, hb, hml, hown, hts⟩ (c_X6_isDevice l D cI cS a_t a_t_told a_t_text a_t_read a_t_s a_t_before H.size t_length t_spot t_undoMany t_shortAs t_isolatorAs t_worstWire t_worstLost t_told x0 u2 hu2) (cwV 1 hts gX6_stop_X6_isDevice rfl rfl rfl cd_X6_isDevice ⟨Nat.le_of_ble_eq_true rfl, Nat.le_of_ble_eq_true rfl⟩) hK hN hP hD hS hA [0, 1] [2] rfl rfl (by decide) (by decide) (by decide) rfl rfl rfl hl.1 rfl (Nat.le_of_ble_eq_true rfl) dX6_stop_2 ⟨Nat.zero_le _, Nat.zero_le _⟩ (fun H locs hP hD hS => ?_)
  have hP : va_P D vwCl [(a_t, .inr (5, [.int t_length, .ref a_t_text, .int t_spot, .ref a_t_told, .ref a_t_read, .ref a_t_s, .ref a_t_before, .int t_undoMany, .int t_shortAs, .int t_isolatorAs, .int t_worstWire, .int t_worstLost])), (a_t_told, .inl (cI, 67, .inl t_told)), (a_t_s, .inl (cI, 87, .inl t_s))] H := hP.sub [1, 2, 0] rfl
  have hD : va_D A [(a_t, .inr (5, [.int t_length, .ref a_t_text, .int t_spot, .ref a_t_told, .ref a_t_read, .ref a_t_s, .ref a_t_before, .int t_undoMany, .int t_shortAs, .int t_isolatorAs, .int t_worstWire, .int t_worstLost])), (a_t_told, .inl (cI, 67, .inl t_told)), (a_t_s, .inl (cI, 87, .inl t_s))] := hD.sub [1, 2, 0] (by decide) rfl
  refine lv_if_eq (tgt := 32) hx hb dX6_stop_5 (by decide) (fun cc => ?_) (fun cc => ?_)
  · have h := oi_t cc h
    refine lv_iconst (v := (-1)) hx hb dX6_stop_32 (by decide) ?_
    obtain rfl := Option.some.inj h
    exact hQ 33 H locs ls rfl hP hD hS dX6_stop_33
  · have h := oi_f cc h
    refine lv_iload_n hx hb dX6_stop_8 rfl (lv_at hl 2 rfl) ?_
    refine lv_i2l (v := (x1).toInt64) hx hb dX6_stop_9 rfl ?_
    refine lv_lconst (v := 1) hx hb dX6_stop_10 (by decide) ?_
    refine lv_ldc2 (v := 2) hx hb hown k_0 dX6_stop_11 ?_
    obtain ⟨u14, hu14, h⟩ := ob h
    refine gS_i (wc := []) (wr := [(a_t, .inr (5, [.int t_length, .ref a_t_text, .int t_spot, .ref a_t_told, .ref a_t_read, .ref a_t_s, .ref a_t_before, .int t_undoMany, .int t_shortAs, .int t_isolatorAs, .int t_worstWire, .int t_worstLost])), (a_t_told, .inl (cI, 67, .inl t_told)), (a_t_s, .inl (cI, 87, .inl t_s))]) (w1 := []) (v := u14) (As := [.long (x1).toInt64, .long 1, .long 2]) (rest := []) ⟨hx, hb, hml, hown, hts⟩ (c_X6_in l D cI cS  H.size (x1).toInt64 1 2 u14 hu14) (va_cwS 3 hts gX6_stop_X6_in rfl rfl rfl cd_X6_in ⟨Nat.le_of_ble_eq_true rfl, Nat.le_of_ble_eq_true rfl⟩) hK hN hP hD hS hA [] [0, 1, 2] rfl rfl (by decide) (by decide) (by decide) rfl hl.1 rfl (Nat.le_of_ble_eq_true rfl) dX6_stop_14 ⟨Nat.zero_le _, Nat.zero_le _⟩ (fun H locs hP hD hS => ?_)
    have hP : va_P D vwCl [(a_t, .inr (5, [.int t_length, .ref a_t_text, .int t_spot, .ref a_t_told, .ref a_t_read, .ref a_t_s, .ref a_t_before, .int t_undoMany, .int t_shortAs, .int t_isolatorAs, .int t_worstWire, .int t_worstLost])), (a_t_told, .inl (cI, 67, .inl t_told)), (a_t_s, .inl (cI, 87, .inl t_s))] H := hP
    have hD : va_D A [(a_t, .inr (5, [.int t_length, .ref a_t_text, .int t_spot, .ref a_t_told, .ref a_t_read, .ref a_t_s, .ref a_t_before, .int t_undoMany, .int t_shortAs, .int t_isolatorAs, .int t_worstWire, .int t_worstLost])), (a_t_told, .inl (cI, 67, .inl t_told)), (a_t_s, .inl (cI, 87, .inl t_s))] := hD
    refine lv_if_eq (tgt := 32) hx hb dX6_stop_17 (by decide) (fun cc => ?_) (fun cc => ?_)
    · have h := oi_t cc h
      refine lv_iconst (v := (-1)) hx hb dX6_stop_32 (by decide) ?_
      obtain rfl := Option.some.inj h
      exact hQ 33 H locs ls rfl hP hD hS dX6_stop_33
    · have h := oi_f cc h
      refine lv_iload_n hx hb dX6_stop_20 rfl (lv_at hl 3 rfl) ?_
      refine lv_i2l (v := (x2).toInt64) hx hb dX6_stop_21 rfl ?_
      refine lv_lconst (v := 0) hx hb dX6_stop_22 (by decide) ?_
      refine lv_ldc2 (v := 2) hx hb hown k_0 dX6_stop_23 ?_
      obtain ⟨u26, hu26, h⟩ := ob h
      refine gS_i (wc := []) (wr := [(a_t, .inr (5, [.int t_length, .ref a_t_text, .int t_spot, .ref a_t_told, .ref a_t_read, .ref a_t_s, .ref a_t_before, .int t_undoMany, .int t_shortAs, .int t_isolatorAs, .int t_worstWire, .int t_worstLost])), (a_t_told, .inl (cI, 67, .inl t_told)), (a_t_s, .inl (cI, 87, .inl t_s))]) (w1 := []) (v := u26) (As := [.long (x2).toInt64, .long 0, .long 2]) (rest := []) ⟨hx, hb, hml, hown, hts⟩ (c_X6_in l D cI cS  H.size (x2).toInt64 0 2 u26 hu26) (va_cwS 3 hts gX6_stop_X6_in rfl rfl rfl cd_X6_in ⟨Nat.le_of_ble_eq_true rfl, Nat.le_of_ble_eq_true rfl⟩) hK hN hP hD hS hA [] [0, 1, 2] rfl rfl (by decide) (by decide) (by decide) rfl hl.1 rfl (Nat.le_of_ble_eq_true rfl) dX6_stop_26 ⟨Nat.zero_le _, Nat.zero_le _⟩ (fun H locs hP hD hS => ?_)
      have hP : va_P D vwCl [(a_t, .inr (5, [.int t_length, .ref a_t_text, .int t_spot, .ref a_t_told, .ref a_t_read, .ref a_t_s, .ref a_t_before, .int t_undoMany, .int t_shortAs, .int t_isolatorAs, .int t_worstWire, .int t_worstLost])), (a_t_told, .inl (cI, 67, .inl t_told)), (a_t_s, .inl (cI, 87, .inl t_s))] H := hP
      have hD : va_D A [(a_t, .inr (5, [.int t_length, .ref a_t_text, .int t_spot, .ref a_t_told, .ref a_t_read, .ref a_t_s, .ref a_t_before, .int t_undoMany, .int t_shortAs, .int t_isolatorAs, .int t_worstWire, .int t_worstLost])), (a_t_told, .inl (cI, 67, .inl t_told)), (a_t_s, .inl (cI, 87, .inl t_s))] := hD
      refine lv_if_ne (tgt := 34) hx hb dX6_stop_29 (by decide) (fun cc => ?_) (fun cc => ?_)
      · have h := oi_f cc h
        refine lv_aload_n hx hb dX6_stop_34 rfl (lv_at hl 0 rfl) ?_
        refine lv_iload_n hx hb dX6_stop_35 rfl (lv_at hl 1 rfl) ?_
        refine lv_iload_n hx hb dX6_stop_36 rfl (lv_at hl 2 rfl) ?_
        obtain ⟨u37, hu37, h⟩ := ob h
        refine gV_i (C := RX6) (T := TX6) (N := 12) (ci := 5) (q0 := 0) (wc := [(a_t, .inr (5, [.int t_length, .ref a_t_text, .int t_spot, .ref a_t_told, .ref a_t_read, .ref a_t_s, .ref a_t_before, .int t_undoMany, .int t_shortAs, .int t_isolatorAs, .int t_worstWire, .int t_worstLost])), (a_t_told, .inl (cI, 67, .inl t_told)), (a_t_s, .inl (cI, 87, .inl t_s))]) (wr := []) (w1 := [(a_t, .inr (5, [.int t_length, .ref a_t_text, .int t_spot, .ref a_t_told, .ref a_t_read, .ref a_t_s, .ref a_t_before, .int t_undoMany, .int t_shortAs, .int t_isolatorAs, .int t_worstWire, .int t_worstLost])), (a_t_told, .inl (cI, 67, .inl t_told)), (a_t_s, .inl (cI, 87, .inl t_s))]) (v := u37) (As := [.int x0, .int x1]) (rest := []) ⟨hx, hb, hml, hown, hts⟩ (c_X6_stops l D cI cS a_t a_t_told a_t_s a_t_text a_t_read a_t_before H.size t_length t_spot t_undoMany t_shortAs t_isolatorAs t_worstWire t_worstLost t_told t_s x0 x1 u37 hu37) (cwV 2 hts gX6_stop_X6_stops rfl rfl rfl cd_X6_stops ⟨Nat.le_of_ble_eq_true rfl, Nat.le_of_ble_eq_true rfl⟩) hK hN hP hD hS hA [0, 1, 2] [] rfl rfl (by decide) (by decide) (by decide) rfl rfl rfl hl.1 rfl (Nat.le_of_ble_eq_true rfl) dX6_stop_37 ⟨Nat.zero_le _, Nat.zero_le _⟩ (fun H locs hP hD hS => ?_)
        have hP : va_P D vwCl [(a_t, .inr (5, [.int t_length, .ref a_t_text, .int t_spot, .ref a_t_told, .ref a_t_read, .ref a_t_s, .ref a_t_before, .int t_undoMany, .int t_shortAs, .int t_isolatorAs, .int t_worstWire, .int t_worstLost])), (a_t_told, .inl (cI, 67, .inl t_told)), (a_t_s, .inl (cI, 87, .inl t_s))] H := hP
        have hD : va_D A [(a_t, .inr (5, [.int t_length, .ref a_t_text, .int t_spot, .ref a_t_told, .ref a_t_read, .ref a_t_s, .ref a_t_before, .int t_undoMany, .int t_shortAs, .int t_isolatorAs, .int t_worstWire, .int t_worstLost])), (a_t_told, .inl (cI, 67, .inl t_told)), (a_t_s, .inl (cI, 87, .inl t_s))] := hD
        refine lv_istore (lv' := [(4, .int u37), (0, .ref a_t), (1, .int x0), (2, .int x1), (3, .int x2)]) hx hb dX6_stop_40 hl (by decide) rfl (fun ls hl => ?_)
        refine lv_iload hx hb dX6_stop_42 (lv_at hl 0 rfl) ?_
        refine lv_bipush (v := (-4)) hx hb dX6_stop_44 (by decide) ?_
        refine lv_icmp_ne (tgt := 60) hx hb dX6_stop_46 (by decide) (fun cc => ?_) (fun cc => ?_)
        · have h := oi_f cc h
          refine lv_iload_n hx hb dX6_stop_60 rfl (lv_at hl 4 rfl) ?_
          refine lv_if_ne (tgt := 86) hx hb dX6_stop_61 (by decide) (fun cc => ?_) (fun cc => ?_)
          · have h := oi_f cc h
            refine lv_iload_n hx hb dX6_stop_86 rfl (lv_at hl 4 rfl) ?_
            refine lv_iconst (v := 1) hx hb dX6_stop_87 (by decide) ?_
            refine lv_icmp_ne (tgt := 96) hx hb dX6_stop_88 (by decide) (fun cc => ?_) (fun cc => ?_)
            · have h := oi_f cc h
              refine lv_aload_n hx hb dX6_stop_96 rfl (lv_at hl 1 rfl) ?_
              refine lv_aload_n hx hb dX6_stop_97 rfl (lv_at hl 1 rfl) ?_
              refine lv_iload hx hb dX6_stop_98 (lv_at hl 0 rfl) ?_
              obtain ⟨u100, hu100, h⟩ := ob h
              refine gV_i (C := RX6) (T := TX6) (N := 12) (ci := 5) (q0 := 0) (wc := [(a_t, .inr (5, [.int t_length, .ref a_t_text, .int t_spot, .ref a_t_told, .ref a_t_read, .ref a_t_s, .ref a_t_before, .int t_undoMany, .int t_shortAs, .int t_isolatorAs, .int t_worstWire, .int t_worstLost])), (a_t_told, .inl (cI, 67, .inl t_told))]) (wr := [(a_t_s, .inl (cI, 87, .inl t_s))]) (w1 := [(a_t, .inr (5, [.int t_length, .ref a_t_text, .int t_spot, .ref a_t_told, .ref a_t_read, .ref a_t_s, .ref a_t_before, .int t_undoMany, .int t_shortAs, .int t_isolatorAs, .int t_worstWire, .int t_worstLost])), (a_t_told, .inl (cI, 67, .inl t_told))]) (v := u100) (As := [.int u37]) (rest := [.ref a_t]) ⟨hx, hb, hml, hown, hts⟩ (c_X6_stretch l D cI cS a_t a_t_told a_t_text a_t_read a_t_s a_t_before H.size t_length t_spot t_undoMany t_shortAs t_isolatorAs t_worstWire t_worstLost t_told u37 u100 hu100) (cwV 1 hts gX6_stop_X6_stretch rfl rfl rfl cd_X6_stretch ⟨Nat.le_of_ble_eq_true rfl, Nat.le_of_ble_eq_true rfl⟩) hK hN hP hD hS hA [0, 1] [2] rfl rfl (by decide) (by decide) (by decide) rfl rfl rfl hl.1 rfl (Nat.le_of_ble_eq_true rfl) dX6_stop_100 ⟨Nat.zero_le _, Nat.zero_le _⟩ (fun H locs hP hD hS => ?_)
              have hP : va_P D vwCl [(a_t, .inr (5, [.int t_length, .ref a_t_text, .int t_spot, .ref a_t_told, .ref a_t_read, .ref a_t_s, .ref a_t_before, .int t_undoMany, .int t_shortAs, .int t_isolatorAs, .int t_worstWire, .int t_worstLost])), (a_t_told, .inl (cI, 67, .inl t_told)), (a_t_s, .inl (cI, 87, .inl t_s))] H := hP.sub [1, 2, 0] rfl
              have hD : va_D A [(a_t, .inr (5, [.int t_length, .ref a_t_text, .int t_spot, .ref a_t_told, .ref a_t_read, .ref a_t_s, .ref a_t_before, .int t_undoMany, .int t_shortAs, .int t_isolatorAs, .int t_worstWire, .int t_worstLost])), (a_t_told, .inl (cI, 67, .inl t_told)), (a_t_s, .inl (cI, 87, .inl t_s))] := hD.sub [1, 2, 0] (by decide) rfl
              obtain ⟨u103, hu103, h⟩ := ob h
              refine gV_i (C := RX6) (T := TX6) (N := 12) (ci := 5) (q0 := 0) (wc := [(a_t, .inr (5, [.int t_length, .ref a_t_text, .int t_spot, .ref a_t_told, .ref a_t_read, .ref a_t_s, .ref a_t_before, .int t_undoMany, .int t_shortAs, .int t_isolatorAs, .int t_worstWire, .int t_worstLost])), (a_t_told, .inl (cI, 67, .inl t_told)), (a_t_s, .inl (cI, 87, .inl t_s))]) (wr := []) (w1 := [(a_t, .inr (5, [.int t_length, .ref a_t_text, .int t_spot, .ref a_t_told, .ref a_t_read, .ref a_t_s, .ref a_t_before, .int t_undoMany, .int t_shortAs, .int t_isolatorAs, .int t_worstWire, .int t_worstLost])), (a_t_told, .inl (cI, 67, .inl t_told)), (a_t_s, .inl (cI, 87, .inl t_s))]) (v := u103) (As := [.int u100]) (rest := []) ⟨hx, hb, hml, hown, hts⟩ (c_X6_shortIn l D cI cS a_t a_t_told a_t_s a_t_text a_t_read a_t_before H.size t_length t_spot t_undoMany t_shortAs t_isolatorAs t_worstWire t_worstLost t_told t_s u100 u103 hu103) (cwV 1 hts gX6_stop_X6_shortIn rfl rfl rfl cd_X6_shortIn ⟨Nat.le_of_ble_eq_true rfl, Nat.le_of_ble_eq_true rfl⟩) hK hN hP hD hS hA [0, 1, 2] [] rfl rfl (by decide) (by decide) (by decide) rfl rfl rfl hl.1 rfl (Nat.le_of_ble_eq_true rfl) dX6_stop_103 ⟨Nat.zero_le _, Nat.zero_le _⟩ (fun H locs hP hD hS => ?_)
              have hP : va_P D vwCl [(a_t, .inr (5, [.int t_length, .ref a_t_text, .int t_spot, .ref a_t_told, .ref a_t_read, .ref a_t_s, .ref a_t_before, .int t_undoMany, .int t_shortAs, .int t_isolatorAs, .int t_worstWire, .int t_worstLost])), (a_t_told, .inl (cI, 67, .inl t_told)), (a_t_s, .inl (cI, 87, .inl t_s))] H := hP
              have hD : va_D A [(a_t, .inr (5, [.int t_length, .ref a_t_text, .int t_spot, .ref a_t_told, .ref a_t_read, .ref a_t_s, .ref a_t_before, .int t_undoMany, .int t_shortAs, .int t_isolatorAs, .int t_worstWire, .int t_worstLost])), (a_t_told, .inl (cI, 67, .inl t_told)), (a_t_s, .inl (cI, 87, .inl t_s))] := hD
              obtain rfl := Option.some.inj h
              exact hQ 106 H locs ls rfl hP hD hS dX6_stop_106
            · have h := oi_t cc h
              refine lv_iload hx hb dX6_stop_91 (lv_at hl 0 rfl) ?_
              refine lv_goto (tgt := 106) hx hb dX6_stop_93 (by decide) ?_
              obtain rfl := Option.some.inj h
              exact hQ 106 H locs ls rfl hP hD hS dX6_stop_106
          · have h := oi_t cc h
            refine lv_aload_n hx hb dX6_stop_64 rfl (lv_at hl 1 rfl) ?_
            refine va_get (D := D) (ci := 5) (v := .ref a_t_s) (C := RX6) (T := TX6) (N := 12) hx hb hts inX6 hown hK hP 0 rfl rfl 5 (by decide) k_1 (fun _ h9 => h9) rfl dX6_stop_65 ?_
            refine lv_bipush (v := 48) hx hb dX6_stop_68 (by decide) ?_
            refine lv_iload hx hb dX6_stop_70 (lv_at hl 0 rfl) ?_
            refine lv_iadd hx hb dX6_stop_72 ?_
            obtain ⟨gg, h⟩ := og h
            refine va_iald hx hb hK hP 2 0 rfl rfl gg dX6_stop_73 ?_
            refine lv_iconst (v := 1) hx hb dX6_stop_74 (by decide) ?_
            refine lv_icmp_ne (tgt := 82) hx hb dX6_stop_75 (by decide) (fun cc => ?_) (fun cc => ?_)
            · have h := oi_f cc h
              refine lv_iconst (v := 2) hx hb dX6_stop_82 (by decide) ?_
              refine lv_goto (tgt := 106) hx hb dX6_stop_83 (by decide) ?_
              obtain rfl := Option.some.inj h
              exact hQ 106 H locs ls rfl hP hD hS dX6_stop_106
            · have h := oi_t cc h
              refine lv_iconst (v := 1) hx hb dX6_stop_78 (by decide) ?_
              refine lv_goto (tgt := 106) hx hb dX6_stop_79 (by decide) ?_
              obtain rfl := Option.some.inj h
              exact hQ 106 H locs ls rfl hP hD hS dX6_stop_106
        · have h := oi_t cc h
          refine lv_iload_n hx hb dX6_stop_49 rfl (lv_at hl 4 rfl) ?_
          refine lv_if_ne (tgt := 57) hx hb dX6_stop_50 (by decide) (fun cc => ?_) (fun cc => ?_)
          · have h := oi_f cc h
            refine lv_bipush (v := (-4)) hx hb dX6_stop_57 (by decide) ?_
            obtain rfl := Option.some.inj h
            exact hQ 59 H locs ls rfl hP hD hS dX6_stop_59
          · have h := oi_t cc h
            refine lv_iconst (v := 0) hx hb dX6_stop_53 (by decide) ?_
            refine lv_goto (tgt := 59) hx hb dX6_stop_54 (by decide) ?_
            obtain rfl := Option.some.inj h
            exact hQ 59 H locs ls rfl hP hD hS dX6_stop_59
      · have h := oi_t cc h
        refine lv_iconst (v := (-1)) hx hb dX6_stop_32 (by decide) ?_
        obtain rfl := Option.some.inj h
        exact hQ 33 H locs ls rfl hP hD hS dX6_stop_33

def f_X6_lostBy (t_isolatorAs : Int32) (t_told : FN) (t_s : FN) (x0 : Int32) : Option (Int32 × Int32) := ((f_X6_lostMany x0 t_isolatorAs t_told t_s).bind (fun u6 => some (u6, (-1))))
abbrev rm_X6_lostBy : Room := { frames := 6, cells := 0, slots := 0, locals := 132 }
theorem cd_X6_lostBy : (yX6_lostBy).cls = RX6 ∧ (yX6_lostBy).cls ≠ "java/lang/invoke/MethodHandle" ∧ (yX6_lostBy).cls ≠ "java/lang/invoke/VarHandle" ∧ (parseMethodDescriptor (yX6_lostBy).desc).map (fun d => d.parameters.length) = some 1 := by decide +kernel
set_option maxHeartbeats 4000000 in
set_option maxRecDepth 100000 in
theorem c_X6_lostBy (l : Launch) (D : va_G) (cI cS : ClassId) (a_t a_t_told a_t_s a_t_text a_t_read a_t_before : Nat) (sz : Nat) (t_length : Int32) (t_spot : Int32) (t_undoMany : Int32) (t_shortAs : Int32) (t_isolatorAs : Int32) (t_worstWire : Int32) (t_worstLost : Int32) (t_told : FN) (t_s : FN) (x0 : Int32) (out : Int32 × Int32) (h : f_X6_lostBy t_isolatorAs t_told t_s x0 = some out) : Met l yX6_lostBy wsX6_lostBy rm_X6_lostBy (va_Pc [.ref a_t, .int x0] (GP D cI cS [(a_t, .inr (5, [.int t_length, .ref a_t_text, .int t_spot, .ref a_t_told, .ref a_t_read, .ref a_t_s, .ref a_t_before, .int t_undoMany, .int t_shortAs, .int t_isolatorAs, .int t_worstWire, .int t_worstLost])), (a_t_told, .inl (cI, 67, .inl t_told)), (a_t_s, .inl (cI, 87, .inl t_s))] sz)) (QI D [(a_t, .inr (5, [.int t_length, .ref a_t_text, .int t_spot, .ref a_t_told, .ref a_t_read, .ref a_t_s, .ref a_t_before, .int t_undoMany, .int t_shortAs, .int t_isolatorAs, .int t_worstWire, .int t_worstLost])), (a_t_told, .inl (cI, 67, .inl t_told)), (a_t_s, .inl (cI, 87, .inl t_s))] sz [(a_t, .inr (5, [.int t_length, .ref a_t_text, .int t_spot, .ref a_t_told, .ref a_t_read, .ref a_t_s, .ref a_t_before, .int t_undoMany, .int out.2, .int t_isolatorAs, .int t_worstWire, .int t_worstLost])), (a_t_told, .inl (cI, 67, .inl t_told)), (a_t_s, .inl (cI, 87, .inl t_s))] out.1) 0 0 (va_A [(a_t, .inr (5, [.int t_length, .ref a_t_text, .int t_spot, .ref a_t_told, .ref a_t_read, .ref a_t_s, .ref a_t_before, .int t_undoMany, .int t_shortAs, .int t_isolatorAs, .int t_worstWire, .int t_worstLost])), (a_t_told, .inl (cI, 67, .inl t_told)), (a_t_s, .inl (cI, 87, .inl t_s))] sz) := by
  refine gm_i (cc := cX6_lostBy) (maxL := 3) (rt := .int) (by decide) rfl (Nat.le_of_ble_eq_true rfl) ?_
  intro p e s m args below meth c A Q H locs ls hx hb hml hown hts hK hN hA hP hD hS hl hQ
  have hown : s.vm.findClass RX6 = some m.cls := hown
  have hl : lv_has ls 3 [(0, .ref a_t), (1, .int x0)] := hl
  have inX6 : ∀ w ∈ wsX60, w ∈ wsX6_lostBy := by decide +kernel
  have k_0 := hts (.fieldLink RX6 25 "AlarmRingModel" "shortAs" "I") (by decide +kernel)
  unfold f_X6_lostBy at h
  refine lv_aload_n hx hb dX6_lostBy_0 rfl (lv_at hl 0 rfl) ?_
  refine lv_iload_n hx hb dX6_lostBy_1 rfl (lv_at hl 1 rfl) ?_
  refine va_put (D := D) (ci := 5) (v := .int x0) (ty := .int) (C := RX6) (T := TX6) (N := 12) hx hb hts inX6 tyX6 tyX6_ok nmX6 hown hK hP hD hS 0 rfl rfl 8 (by decide) k_0 (fun _ h9 => h9) rfl (by decide +kernel) rfl rfl (Nat.le_of_ble_eq_true rfl) dX6_lostBy_2 (fun H locs hP hD hS => ?_)
  have hP : va_P D vwCl [(a_t, .inr (5, [.int t_length, .ref a_t_text, .int t_spot, .ref a_t_told, .ref a_t_read, .ref a_t_s, .ref a_t_before, .int t_undoMany, .int x0, .int t_isolatorAs, .int t_worstWire, .int t_worstLost])), (a_t_told, .inl (cI, 67, .inl t_told)), (a_t_s, .inl (cI, 87, .inl t_s))] H := hP
  have hD : va_D A [(a_t, .inr (5, [.int t_length, .ref a_t_text, .int t_spot, .ref a_t_told, .ref a_t_read, .ref a_t_s, .ref a_t_before, .int t_undoMany, .int x0, .int t_isolatorAs, .int t_worstWire, .int t_worstLost])), (a_t_told, .inl (cI, 67, .inl t_told)), (a_t_s, .inl (cI, 87, .inl t_s))] := hD
  refine lv_aload_n hx hb dX6_lostBy_5 rfl (lv_at hl 0 rfl) ?_
  obtain ⟨u6, hu6, h⟩ := ob h
  refine gV_i (C := RX6) (T := TX6) (N := 12) (ci := 5) (q0 := 0) (wc := [(a_t, .inr (5, [.int t_length, .ref a_t_text, .int t_spot, .ref a_t_told, .ref a_t_read, .ref a_t_s, .ref a_t_before, .int t_undoMany, .int x0, .int t_isolatorAs, .int t_worstWire, .int t_worstLost])), (a_t_told, .inl (cI, 67, .inl t_told)), (a_t_s, .inl (cI, 87, .inl t_s))]) (wr := []) (w1 := [(a_t, .inr (5, [.int t_length, .ref a_t_text, .int t_spot, .ref a_t_told, .ref a_t_read, .ref a_t_s, .ref a_t_before, .int t_undoMany, .int x0, .int t_isolatorAs, .int t_worstWire, .int t_worstLost])), (a_t_told, .inl (cI, 67, .inl t_told)), (a_t_s, .inl (cI, 87, .inl t_s))]) (v := u6) (As := []) (rest := []) ⟨hx, hb, hml, hown, hts⟩ (c_X6_lostMany l D cI cS a_t a_t_told a_t_s a_t_text a_t_read a_t_before H.size t_length t_spot t_undoMany x0 t_isolatorAs t_worstWire t_worstLost t_told t_s u6 hu6) (cwV 0 hts gX6_lostBy_X6_lostMany rfl rfl rfl cd_X6_lostMany ⟨Nat.le_of_ble_eq_true rfl, Nat.le_of_ble_eq_true rfl⟩) hK hN hP hD hS hA [0, 1, 2] [] rfl rfl (by decide) (by decide) (by decide) rfl rfl rfl hl.1 rfl (Nat.le_of_ble_eq_true rfl) dX6_lostBy_6 ⟨Nat.zero_le _, Nat.zero_le _⟩ (fun H locs hP hD hS => ?_)
  have hP : va_P D vwCl [(a_t, .inr (5, [.int t_length, .ref a_t_text, .int t_spot, .ref a_t_told, .ref a_t_read, .ref a_t_s, .ref a_t_before, .int t_undoMany, .int x0, .int t_isolatorAs, .int t_worstWire, .int t_worstLost])), (a_t_told, .inl (cI, 67, .inl t_told)), (a_t_s, .inl (cI, 87, .inl t_s))] H := hP
  have hD : va_D A [(a_t, .inr (5, [.int t_length, .ref a_t_text, .int t_spot, .ref a_t_told, .ref a_t_read, .ref a_t_s, .ref a_t_before, .int t_undoMany, .int x0, .int t_isolatorAs, .int t_worstWire, .int t_worstLost])), (a_t_told, .inl (cI, 67, .inl t_told)), (a_t_s, .inl (cI, 87, .inl t_s))] := hD
  refine lv_istore_n (lv' := [(2, .int u6), (0, .ref a_t), (1, .int x0)]) hx hb dX6_lostBy_9 rfl hl (by decide) rfl (fun ls hl => ?_)
  refine lv_aload_n hx hb dX6_lostBy_10 rfl (lv_at hl 1 rfl) ?_
  refine lv_iconst (v := (-1)) hx hb dX6_lostBy_11 (by decide) ?_
  refine va_put (D := D) (ci := 5) (v := .int (-1)) (ty := .int) (C := RX6) (T := TX6) (N := 12) hx hb hts inX6 tyX6 tyX6_ok nmX6 hown hK hP hD hS 0 rfl rfl 8 (by decide) k_0 (fun _ h9 => h9) rfl (by decide +kernel) rfl rfl (Nat.le_of_ble_eq_true rfl) dX6_lostBy_12 (fun H locs hP hD hS => ?_)
  have hP : va_P D vwCl [(a_t, .inr (5, [.int t_length, .ref a_t_text, .int t_spot, .ref a_t_told, .ref a_t_read, .ref a_t_s, .ref a_t_before, .int t_undoMany, .int (-1), .int t_isolatorAs, .int t_worstWire, .int t_worstLost])), (a_t_told, .inl (cI, 67, .inl t_told)), (a_t_s, .inl (cI, 87, .inl t_s))] H := hP
  have hD : va_D A [(a_t, .inr (5, [.int t_length, .ref a_t_text, .int t_spot, .ref a_t_told, .ref a_t_read, .ref a_t_s, .ref a_t_before, .int t_undoMany, .int (-1), .int t_isolatorAs, .int t_worstWire, .int t_worstLost])), (a_t_told, .inl (cI, 67, .inl t_told)), (a_t_s, .inl (cI, 87, .inl t_s))] := hD
  refine lv_iload_n hx hb dX6_lostBy_15 rfl (lv_at hl 0 rfl) ?_
  obtain rfl := Option.some.inj h
  exact hQ 16 H locs ls rfl hP hD hS dX6_lostBy_16

def f_X6_wireOf (t_shortAs : Int32) (t_isolatorAs : Int32) (t_told : FN) (t_s : FN) (x0 : Int32) (x1 : Int32) : Option (Int32 × Int32) := ((f_X6_isWire t_told x0).bind (fun u2 => (if u2 = 0 then some ((-1), t_shortAs) else ((f_X6_in (x1).toInt64 0 2).bind (fun u14 => (if u14 = 0 then some ((-1), t_shortAs) else (if x1 = 0 then (if gi (48 + x0) 87 then some ((t_s ((48 + x0)).toNatClampNeg), t_shortAs) else none) else (if x1 = 1 then ((f_X6_stretch t_isolatorAs t_told x0).bind (fun u45 => some (u45, t_shortAs))) else ((f_X6_lostBy t_isolatorAs t_told t_s x0).bind (fun u53 => some (u53.1, u53.2)))))))))))
abbrev rm_X6_wireOf : Room := { frames := 7, cells := 0, slots := 0, locals := 154 }
theorem cd_X6_wireOf : (yX6_wireOf).cls = RX6 ∧ (yX6_wireOf).cls ≠ "java/lang/invoke/MethodHandle" ∧ (yX6_wireOf).cls ≠ "java/lang/invoke/VarHandle" ∧ (parseMethodDescriptor (yX6_wireOf).desc).map (fun d => d.parameters.length) = some 2 := by decide +kernel
set_option maxHeartbeats 4000000 in
set_option maxRecDepth 100000 in
theorem c_X6_wireOf (l : Launch) (D : va_G) (cI cS : ClassId) (a_t a_t_told a_t_s a_t_text a_t_read a_t_before : Nat) (sz : Nat) (t_length : Int32) (t_spot : Int32) (t_undoMany : Int32) (t_shortAs : Int32) (t_isolatorAs : Int32) (t_worstWire : Int32) (t_worstLost : Int32) (t_told : FN) (t_s : FN) (x0 : Int32) (x1 : Int32) (out : Int32 × Int32) (h : f_X6_wireOf t_shortAs t_isolatorAs t_told t_s x0 x1 = some out) : Met l yX6_wireOf wsX6_wireOf rm_X6_wireOf (va_Pc [.ref a_t, .int x0, .int x1] (GP D cI cS [(a_t, .inr (5, [.int t_length, .ref a_t_text, .int t_spot, .ref a_t_told, .ref a_t_read, .ref a_t_s, .ref a_t_before, .int t_undoMany, .int t_shortAs, .int t_isolatorAs, .int t_worstWire, .int t_worstLost])), (a_t_told, .inl (cI, 67, .inl t_told)), (a_t_s, .inl (cI, 87, .inl t_s))] sz)) (QI D [(a_t, .inr (5, [.int t_length, .ref a_t_text, .int t_spot, .ref a_t_told, .ref a_t_read, .ref a_t_s, .ref a_t_before, .int t_undoMany, .int t_shortAs, .int t_isolatorAs, .int t_worstWire, .int t_worstLost])), (a_t_told, .inl (cI, 67, .inl t_told)), (a_t_s, .inl (cI, 87, .inl t_s))] sz [(a_t, .inr (5, [.int t_length, .ref a_t_text, .int t_spot, .ref a_t_told, .ref a_t_read, .ref a_t_s, .ref a_t_before, .int t_undoMany, .int out.2, .int t_isolatorAs, .int t_worstWire, .int t_worstLost])), (a_t_told, .inl (cI, 67, .inl t_told)), (a_t_s, .inl (cI, 87, .inl t_s))] out.1) 0 0 (va_A [(a_t, .inr (5, [.int t_length, .ref a_t_text, .int t_spot, .ref a_t_told, .ref a_t_read, .ref a_t_s, .ref a_t_before, .int t_undoMany, .int t_shortAs, .int t_isolatorAs, .int t_worstWire, .int t_worstLost])), (a_t_told, .inl (cI, 67, .inl t_told)), (a_t_s, .inl (cI, 87, .inl t_s))] sz) := by
  refine gm_i (cc := cX6_wireOf) (maxL := 3) (rt := .int) (by decide) rfl (Nat.le_of_ble_eq_true rfl) ?_
  intro p e s m args below meth c A Q H locs ls hx hb hml hown hts hK hN hA hP hD hS hl hQ
  have hown : s.vm.findClass RX6 = some m.cls := hown
  have hl : lv_has ls 3 [(0, .ref a_t), (1, .int x0), (2, .int x1)] := hl
  have inX6 : ∀ w ∈ wsX60, w ∈ wsX6_wireOf := by decide +kernel
  have k_0 := hts (.constantLong RX6 99 (2)) (by decide +kernel)
  have k_1 := hts (.fieldLink RX6 19 "AlarmRingModel" "s" "[I") (by decide +kernel)
  unfold f_X6_wireOf at h
  refine lv_aload_n hx hb dX6_wireOf_0 rfl (lv_at hl 0 rfl) ?_
  refine lv_iload_n hx hb dX6_wireOf_1 rfl (lv_at hl 1 rfl) ?_
  obtain ⟨u2, hu2, h⟩ := ob h
  refine gV_i (C := RX6) (T := TX6) (N := 12) (ci := 5) (q0 := 0) (wc := [(a_t, .inr (5, [.int t_length, .ref a_t_text, .int t_spot, .ref a_t_told, .ref a_t_read, .ref a_t_s, .ref a_t_before, .int t_undoMany, .int t_shortAs, .int t_isolatorAs, .int t_worstWire, .int t_worstLost])), (a_t_told, .inl (cI, 67, .inl t_told))]) (wr := [(a_t_s, .inl (cI, 87, .inl t_s))]) (w1 := [(a_t, .inr (5, [.int t_length, .ref a_t_text, .int t_spot, .ref a_t_told, .ref a_t_read, .ref a_t_s, .ref a_t_before, .int t_undoMany, .int t_shortAs, .int t_isolatorAs, .int t_worstWire, .int t_worstLost])), (a_t_told, .inl (cI, 67, .inl t_told))]) (v := u2) (As := [.int x0]) (rest := []) ⟨hx, hb, hml, hown, hts⟩ (c_X6_isWire l D cI cS a_t a_t_told a_t_text a_t_read a_t_s a_t_before H.size t_length t_spot t_undoMany t_shortAs t_isolatorAs t_worstWire t_worstLost t_told x0 u2 hu2) (cwV 1 hts gX6_wireOf_X6_isWire rfl rfl rfl cd_X6_isWire ⟨Nat.le_of_ble_eq_true rfl, Nat.le_of_ble_eq_true rfl⟩) hK hN hP hD hS hA [0, 1] [2] rfl rfl (by decide) (by decide) (by decide) rfl rfl rfl hl.1 rfl (Nat.le_of_ble_eq_true rfl) dX6_wireOf_2 ⟨Nat.zero_le _, Nat.zero_le _⟩ (fun H locs hP hD hS => ?_)
  have hP : va_P D vwCl [(a_t, .inr (5, [.int t_length, .ref a_t_text, .int t_spot, .ref a_t_told, .ref a_t_read, .ref a_t_s, .ref a_t_before, .int t_undoMany, .int t_shortAs, .int t_isolatorAs, .int t_worstWire, .int t_worstLost])), (a_t_told, .inl (cI, 67, .inl t_told)), (a_t_s, .inl (cI, 87, .inl t_s))] H := hP.sub [1, 2, 0] rfl
  have hD : va_D A [(a_t, .inr (5, [.int t_length, .ref a_t_text, .int t_spot, .ref a_t_told, .ref a_t_read, .ref a_t_s, .ref a_t_before, .int t_undoMany, .int t_shortAs, .int t_isolatorAs, .int t_worstWire, .int t_worstLost])), (a_t_told, .inl (cI, 67, .inl t_told)), (a_t_s, .inl (cI, 87, .inl t_s))] := hD.sub [1, 2, 0] (by decide) rfl
  refine lv_if_eq (tgt := 20) hx hb dX6_wireOf_5 (by decide) (fun cc => ?_) (fun cc => ?_)
  · have h := oi_t cc h
    refine lv_iconst (v := (-1)) hx hb dX6_wireOf_20 (by decide) ?_
    obtain rfl := Option.some.inj h
    exact hQ 21 H locs ls rfl hP hD hS dX6_wireOf_21
  · have h := oi_f cc h
    refine lv_iload_n hx hb dX6_wireOf_8 rfl (lv_at hl 2 rfl) ?_
    refine lv_i2l (v := (x1).toInt64) hx hb dX6_wireOf_9 rfl ?_
    refine lv_lconst (v := 0) hx hb dX6_wireOf_10 (by decide) ?_
    refine lv_ldc2 (v := 2) hx hb hown k_0 dX6_wireOf_11 ?_
    obtain ⟨u14, hu14, h⟩ := ob h
    refine gS_i (wc := []) (wr := [(a_t, .inr (5, [.int t_length, .ref a_t_text, .int t_spot, .ref a_t_told, .ref a_t_read, .ref a_t_s, .ref a_t_before, .int t_undoMany, .int t_shortAs, .int t_isolatorAs, .int t_worstWire, .int t_worstLost])), (a_t_told, .inl (cI, 67, .inl t_told)), (a_t_s, .inl (cI, 87, .inl t_s))]) (w1 := []) (v := u14) (As := [.long (x1).toInt64, .long 0, .long 2]) (rest := []) ⟨hx, hb, hml, hown, hts⟩ (c_X6_in l D cI cS  H.size (x1).toInt64 0 2 u14 hu14) (va_cwS 3 hts gX6_wireOf_X6_in rfl rfl rfl cd_X6_in ⟨Nat.le_of_ble_eq_true rfl, Nat.le_of_ble_eq_true rfl⟩) hK hN hP hD hS hA [] [0, 1, 2] rfl rfl (by decide) (by decide) (by decide) rfl hl.1 rfl (Nat.le_of_ble_eq_true rfl) dX6_wireOf_14 ⟨Nat.zero_le _, Nat.zero_le _⟩ (fun H locs hP hD hS => ?_)
    have hP : va_P D vwCl [(a_t, .inr (5, [.int t_length, .ref a_t_text, .int t_spot, .ref a_t_told, .ref a_t_read, .ref a_t_s, .ref a_t_before, .int t_undoMany, .int t_shortAs, .int t_isolatorAs, .int t_worstWire, .int t_worstLost])), (a_t_told, .inl (cI, 67, .inl t_told)), (a_t_s, .inl (cI, 87, .inl t_s))] H := hP
    have hD : va_D A [(a_t, .inr (5, [.int t_length, .ref a_t_text, .int t_spot, .ref a_t_told, .ref a_t_read, .ref a_t_s, .ref a_t_before, .int t_undoMany, .int t_shortAs, .int t_isolatorAs, .int t_worstWire, .int t_worstLost])), (a_t_told, .inl (cI, 67, .inl t_told)), (a_t_s, .inl (cI, 87, .inl t_s))] := hD
    refine lv_if_ne (tgt := 22) hx hb dX6_wireOf_17 (by decide) (fun cc => ?_) (fun cc => ?_)
    · have h := oi_f cc h
      refine lv_iload_n hx hb dX6_wireOf_22 rfl (lv_at hl 2 rfl) ?_
      refine lv_if_ne (tgt := 38) hx hb dX6_wireOf_23 (by decide) (fun cc => ?_) (fun cc => ?_)
      · have h := oi_f cc h
        refine lv_iload_n hx hb dX6_wireOf_38 rfl (lv_at hl 2 rfl) ?_
        refine lv_iconst (v := 1) hx hb dX6_wireOf_39 (by decide) ?_
        refine lv_icmp_ne (tgt := 51) hx hb dX6_wireOf_40 (by decide) (fun cc => ?_) (fun cc => ?_)
        · have h := oi_f cc h
          refine lv_aload_n hx hb dX6_wireOf_51 rfl (lv_at hl 0 rfl) ?_
          refine lv_iload_n hx hb dX6_wireOf_52 rfl (lv_at hl 1 rfl) ?_
          obtain ⟨u53, hu53, h⟩ := ob h
          refine gV_i (C := RX6) (T := TX6) (N := 12) (ci := 5) (q0 := 0) (wc := [(a_t, .inr (5, [.int t_length, .ref a_t_text, .int t_spot, .ref a_t_told, .ref a_t_read, .ref a_t_s, .ref a_t_before, .int t_undoMany, .int t_shortAs, .int t_isolatorAs, .int t_worstWire, .int t_worstLost])), (a_t_told, .inl (cI, 67, .inl t_told)), (a_t_s, .inl (cI, 87, .inl t_s))]) (wr := []) (w1 := [(a_t, .inr (5, [.int t_length, .ref a_t_text, .int t_spot, .ref a_t_told, .ref a_t_read, .ref a_t_s, .ref a_t_before, .int t_undoMany, .int u53.2, .int t_isolatorAs, .int t_worstWire, .int t_worstLost])), (a_t_told, .inl (cI, 67, .inl t_told)), (a_t_s, .inl (cI, 87, .inl t_s))]) (v := u53.1) (As := [.int x0]) (rest := []) ⟨hx, hb, hml, hown, hts⟩ (c_X6_lostBy l D cI cS a_t a_t_told a_t_s a_t_text a_t_read a_t_before H.size t_length t_spot t_undoMany t_shortAs t_isolatorAs t_worstWire t_worstLost t_told t_s x0 u53 hu53) (cwV 1 hts gX6_wireOf_X6_lostBy rfl rfl rfl cd_X6_lostBy ⟨Nat.le_of_ble_eq_true rfl, Nat.le_of_ble_eq_true rfl⟩) hK hN hP hD hS hA [0, 1, 2] [] rfl rfl (by decide) (by decide) (by decide) rfl rfl rfl hl.1 rfl (Nat.le_of_ble_eq_true rfl) dX6_wireOf_53 ⟨Nat.zero_le _, Nat.zero_le _⟩ (fun H locs hP hD hS => ?_)
          have hP : va_P D vwCl [(a_t, .inr (5, [.int t_length, .ref a_t_text, .int t_spot, .ref a_t_told, .ref a_t_read, .ref a_t_s, .ref a_t_before, .int t_undoMany, .int u53.2, .int t_isolatorAs, .int t_worstWire, .int t_worstLost])), (a_t_told, .inl (cI, 67, .inl t_told)), (a_t_s, .inl (cI, 87, .inl t_s))] H := hP
          have hD : va_D A [(a_t, .inr (5, [.int t_length, .ref a_t_text, .int t_spot, .ref a_t_told, .ref a_t_read, .ref a_t_s, .ref a_t_before, .int t_undoMany, .int u53.2, .int t_isolatorAs, .int t_worstWire, .int t_worstLost])), (a_t_told, .inl (cI, 67, .inl t_told)), (a_t_s, .inl (cI, 87, .inl t_s))] := hD
          obtain rfl := Option.some.inj h
          exact hQ 56 H locs ls rfl hP hD hS dX6_wireOf_56
        · have h := oi_t cc h
          refine lv_aload_n hx hb dX6_wireOf_43 rfl (lv_at hl 0 rfl) ?_
          refine lv_iload_n hx hb dX6_wireOf_44 rfl (lv_at hl 1 rfl) ?_
          obtain ⟨u45, hu45, h⟩ := ob h
          refine gV_i (C := RX6) (T := TX6) (N := 12) (ci := 5) (q0 := 0) (wc := [(a_t, .inr (5, [.int t_length, .ref a_t_text, .int t_spot, .ref a_t_told, .ref a_t_read, .ref a_t_s, .ref a_t_before, .int t_undoMany, .int t_shortAs, .int t_isolatorAs, .int t_worstWire, .int t_worstLost])), (a_t_told, .inl (cI, 67, .inl t_told))]) (wr := [(a_t_s, .inl (cI, 87, .inl t_s))]) (w1 := [(a_t, .inr (5, [.int t_length, .ref a_t_text, .int t_spot, .ref a_t_told, .ref a_t_read, .ref a_t_s, .ref a_t_before, .int t_undoMany, .int t_shortAs, .int t_isolatorAs, .int t_worstWire, .int t_worstLost])), (a_t_told, .inl (cI, 67, .inl t_told))]) (v := u45) (As := [.int x0]) (rest := []) ⟨hx, hb, hml, hown, hts⟩ (c_X6_stretch l D cI cS a_t a_t_told a_t_text a_t_read a_t_s a_t_before H.size t_length t_spot t_undoMany t_shortAs t_isolatorAs t_worstWire t_worstLost t_told x0 u45 hu45) (cwV 1 hts gX6_wireOf_X6_stretch rfl rfl rfl cd_X6_stretch ⟨Nat.le_of_ble_eq_true rfl, Nat.le_of_ble_eq_true rfl⟩) hK hN hP hD hS hA [0, 1] [2] rfl rfl (by decide) (by decide) (by decide) rfl rfl rfl hl.1 rfl (Nat.le_of_ble_eq_true rfl) dX6_wireOf_45 ⟨Nat.zero_le _, Nat.zero_le _⟩ (fun H locs hP hD hS => ?_)
          have hP : va_P D vwCl [(a_t, .inr (5, [.int t_length, .ref a_t_text, .int t_spot, .ref a_t_told, .ref a_t_read, .ref a_t_s, .ref a_t_before, .int t_undoMany, .int t_shortAs, .int t_isolatorAs, .int t_worstWire, .int t_worstLost])), (a_t_told, .inl (cI, 67, .inl t_told)), (a_t_s, .inl (cI, 87, .inl t_s))] H := hP.sub [1, 2, 0] rfl
          have hD : va_D A [(a_t, .inr (5, [.int t_length, .ref a_t_text, .int t_spot, .ref a_t_told, .ref a_t_read, .ref a_t_s, .ref a_t_before, .int t_undoMany, .int t_shortAs, .int t_isolatorAs, .int t_worstWire, .int t_worstLost])), (a_t_told, .inl (cI, 67, .inl t_told)), (a_t_s, .inl (cI, 87, .inl t_s))] := hD.sub [1, 2, 0] (by decide) rfl
          refine lv_goto (tgt := 56) hx hb dX6_wireOf_48 (by decide) ?_
          obtain rfl := Option.some.inj h
          exact hQ 56 H locs ls rfl hP hD hS dX6_wireOf_56
      · have h := oi_t cc h
        refine lv_aload_n hx hb dX6_wireOf_26 rfl (lv_at hl 0 rfl) ?_
        refine va_get (D := D) (ci := 5) (v := .ref a_t_s) (C := RX6) (T := TX6) (N := 12) hx hb hts inX6 hown hK hP 0 rfl rfl 5 (by decide) k_1 (fun _ h9 => h9) rfl dX6_wireOf_27 ?_
        refine lv_bipush (v := 48) hx hb dX6_wireOf_30 (by decide) ?_
        refine lv_iload_n hx hb dX6_wireOf_32 rfl (lv_at hl 1 rfl) ?_
        refine lv_iadd hx hb dX6_wireOf_33 ?_
        obtain ⟨gg, h⟩ := og h
        refine va_iald hx hb hK hP 2 0 rfl rfl gg dX6_wireOf_34 ?_
        refine lv_goto (tgt := 56) hx hb dX6_wireOf_35 (by decide) ?_
        obtain rfl := Option.some.inj h
        exact hQ 56 H locs ls rfl hP hD hS dX6_wireOf_56
    · have h := oi_t cc h
      refine lv_iconst (v := (-1)) hx hb dX6_wireOf_20 (by decide) ?_
      obtain rfl := Option.some.inj h
      exact hQ 21 H locs ls rfl hP hD hS dX6_wireOf_21

def f_X6_worsts_13 (t_isolatorAs : Int32) (t_told : FN) (t_s : FN) : Nat → Int32 → Int32 → Int32 → Int32 → Option (Int32 × Int32 × Int32)
  | 0, _, _, _, _ => none
  | n + 1, v1, w_t_shortAs, w_t_worstWire, w_t_worstLost => (if (t_told (60 : Int32).toNatClampNeg) < v1 then some (w_t_shortAs, w_t_worstWire, w_t_worstLost) else (if gi (48 + v1) 87 then (if (t_s ((48 + v1)).toNatClampNeg) = 0 then ((f_X6_lostBy t_isolatorAs t_told t_s v1).bind (fun u38 => (((if u38.1 ≤ w_t_worstLost then some (w_t_worstWire) else some (v1))).bind (fun (u59 : Int32) => (if u38.1 ≤ w_t_worstLost then f_X6_worsts_13 t_isolatorAs t_told t_s n (v1 + 1) u38.2 u59 w_t_worstLost else f_X6_worsts_13 t_isolatorAs t_told t_s n (v1 + 1) u38.2 u59 u38.1))))) else f_X6_worsts_13 t_isolatorAs t_told t_s n (v1 + 1) w_t_shortAs w_t_worstWire w_t_worstLost) else none))
def f_X6_worsts (t_shortAs : Int32) (t_isolatorAs : Int32) (t_told : FN) (t_s : FN) : Option (Int32 × Int32 × Int32) := ((f_X6_worsts_13 t_isolatorAs t_told t_s 1000 0 t_shortAs (-4) (-1)).bind (fun (q13 : Int32 × Int32 × Int32) => some (q13.1, q13.2.1, q13.2.2)))
abbrev rm_X6_worsts : Room := { frames := 7, cells := 0, slots := 0, locals := 154 }
theorem cd_X6_worsts : (yX6_worsts).cls = RX6 ∧ (yX6_worsts).cls ≠ "java/lang/invoke/MethodHandle" ∧ (yX6_worsts).cls ≠ "java/lang/invoke/VarHandle" ∧ (parseMethodDescriptor (yX6_worsts).desc).map (fun d => d.parameters.length) = some 0 := by decide +kernel
set_option maxHeartbeats 4000000 in
set_option maxRecDepth 100000 in
theorem c_X6_worsts (l : Launch) (D : va_G) (cI cS : ClassId) (a_t a_t_told a_t_s a_t_text a_t_read a_t_before : Nat) (sz : Nat) (t_length : Int32) (t_spot : Int32) (t_undoMany : Int32) (t_shortAs : Int32) (t_isolatorAs : Int32) (t_worstWire : Int32) (t_worstLost : Int32) (t_told : FN) (t_s : FN) (out : Int32 × Int32 × Int32) (h : f_X6_worsts t_shortAs t_isolatorAs t_told t_s = some out) : Met l yX6_worsts wsX6_worsts rm_X6_worsts (va_Pc [.ref a_t] (GP D cI cS [(a_t, .inr (5, [.int t_length, .ref a_t_text, .int t_spot, .ref a_t_told, .ref a_t_read, .ref a_t_s, .ref a_t_before, .int t_undoMany, .int t_shortAs, .int t_isolatorAs, .int t_worstWire, .int t_worstLost])), (a_t_told, .inl (cI, 67, .inl t_told)), (a_t_s, .inl (cI, 87, .inl t_s))] sz)) (QV D [(a_t, .inr (5, [.int t_length, .ref a_t_text, .int t_spot, .ref a_t_told, .ref a_t_read, .ref a_t_s, .ref a_t_before, .int t_undoMany, .int t_shortAs, .int t_isolatorAs, .int t_worstWire, .int t_worstLost])), (a_t_told, .inl (cI, 67, .inl t_told)), (a_t_s, .inl (cI, 87, .inl t_s))] sz [(a_t, .inr (5, [.int t_length, .ref a_t_text, .int t_spot, .ref a_t_told, .ref a_t_read, .ref a_t_s, .ref a_t_before, .int t_undoMany, .int out.1, .int t_isolatorAs, .int out.2.1, .int out.2.2])), (a_t_told, .inl (cI, 67, .inl t_told)), (a_t_s, .inl (cI, 87, .inl t_s))]) 0 0 (va_A [(a_t, .inr (5, [.int t_length, .ref a_t_text, .int t_spot, .ref a_t_told, .ref a_t_read, .ref a_t_s, .ref a_t_before, .int t_undoMany, .int t_shortAs, .int t_isolatorAs, .int t_worstWire, .int t_worstLost])), (a_t_told, .inl (cI, 67, .inl t_told)), (a_t_s, .inl (cI, 87, .inl t_s))] sz) := by
  refine gm_v (cc := cX6_worsts) (maxL := 3) (by decide) rfl (Nat.le_of_ble_eq_true rfl) ?_
  intro p e s m args below meth c A Q H locs ls hx hb hml hown hts hK hN hA hP hD hS hl hQ
  have hown : s.vm.findClass RX6 = some m.cls := hown
  have hl : lv_has ls 3 [(0, .ref a_t)] := hl
  have inX6 : ∀ w ∈ wsX60, w ∈ wsX6_worsts := by decide +kernel
  have k_0 := hts (.fieldLink RX6 128 "AlarmRingModel" "worstWire" "I") (by decide +kernel)
  have k_1 := hts (.fieldLink RX6 131 "AlarmRingModel" "worstLost" "I") (by decide +kernel)
  have k_2 := hts (.fieldLink RX6 13 "AlarmRingModel" "told" "[I") (by decide +kernel)
  have k_3 := hts (.fieldLink RX6 19 "AlarmRingModel" "s" "[I") (by decide +kernel)
  unfold f_X6_worsts at h
  refine lv_aload_n hx hb dX6_worsts_0 rfl (lv_at hl 0 rfl) ?_
  refine lv_bipush (v := (-4)) hx hb dX6_worsts_1 (by decide) ?_
  refine va_put (D := D) (ci := 5) (v := .int (-4)) (ty := .int) (C := RX6) (T := TX6) (N := 12) hx hb hts inX6 tyX6 tyX6_ok nmX6 hown hK hP hD hS 0 rfl rfl 10 (by decide) k_0 (fun _ h9 => h9) rfl (by decide +kernel) rfl rfl (Nat.le_of_ble_eq_true rfl) dX6_worsts_3 (fun H locs hP hD hS => ?_)
  have hP : va_P D vwCl [(a_t, .inr (5, [.int t_length, .ref a_t_text, .int t_spot, .ref a_t_told, .ref a_t_read, .ref a_t_s, .ref a_t_before, .int t_undoMany, .int t_shortAs, .int t_isolatorAs, .int (-4), .int t_worstLost])), (a_t_told, .inl (cI, 67, .inl t_told)), (a_t_s, .inl (cI, 87, .inl t_s))] H := hP
  have hD : va_D A [(a_t, .inr (5, [.int t_length, .ref a_t_text, .int t_spot, .ref a_t_told, .ref a_t_read, .ref a_t_s, .ref a_t_before, .int t_undoMany, .int t_shortAs, .int t_isolatorAs, .int (-4), .int t_worstLost])), (a_t_told, .inl (cI, 67, .inl t_told)), (a_t_s, .inl (cI, 87, .inl t_s))] := hD
  refine lv_aload_n hx hb dX6_worsts_6 rfl (lv_at hl 0 rfl) ?_
  refine lv_iconst (v := (-1)) hx hb dX6_worsts_7 (by decide) ?_
  refine va_put (D := D) (ci := 5) (v := .int (-1)) (ty := .int) (C := RX6) (T := TX6) (N := 12) hx hb hts inX6 tyX6 tyX6_ok nmX6 hown hK hP hD hS 0 rfl rfl 11 (by decide) k_1 (fun _ h9 => h9) rfl (by decide +kernel) rfl rfl (Nat.le_of_ble_eq_true rfl) dX6_worsts_8 (fun H locs hP hD hS => ?_)
  have hP : va_P D vwCl [(a_t, .inr (5, [.int t_length, .ref a_t_text, .int t_spot, .ref a_t_told, .ref a_t_read, .ref a_t_s, .ref a_t_before, .int t_undoMany, .int t_shortAs, .int t_isolatorAs, .int (-4), .int (-1)])), (a_t_told, .inl (cI, 67, .inl t_told)), (a_t_s, .inl (cI, 87, .inl t_s))] H := hP
  have hD : va_D A [(a_t, .inr (5, [.int t_length, .ref a_t_text, .int t_spot, .ref a_t_told, .ref a_t_read, .ref a_t_s, .ref a_t_before, .int t_undoMany, .int t_shortAs, .int t_isolatorAs, .int (-4), .int (-1)])), (a_t_told, .inl (cI, 67, .inl t_told)), (a_t_s, .inl (cI, 87, .inl t_s))] := hD
  refine lv_iconst (v := 0) hx hb dX6_worsts_11 (by decide) ?_
  refine lv_istore_n (lv' := [(1, .int 0), (0, .ref a_t)]) hx hb dX6_worsts_12 rfl hl (by decide) rfl (fun ls hl => ?_)
  obtain ⟨q13, hq13, h⟩ := ob h
  have lp13 : ∀ (n : Nat) (v1 : Int32) (w_t_shortAs : Int32) (w_t_worstWire : Int32) (w_t_worstLost : Int32) (H : Heap) (locs : List Loc) (ls : Array Slot), va_P D vwCl [(a_t, .inr (5, [.int t_length, .ref a_t_text, .int t_spot, .ref a_t_told, .ref a_t_read, .ref a_t_s, .ref a_t_before, .int t_undoMany, .int w_t_shortAs, .int t_isolatorAs, .int w_t_worstWire, .int w_t_worstLost])), (a_t_told, .inl (cI, 67, .inl t_told)), (a_t_s, .inl (cI, 87, .inl t_s))] H → va_D A [(a_t, .inr (5, [.int t_length, .ref a_t_text, .int t_spot, .ref a_t_told, .ref a_t_read, .ref a_t_s, .ref a_t_before, .int t_undoMany, .int w_t_shortAs, .int t_isolatorAs, .int w_t_worstWire, .int w_t_worstLost])), (a_t_told, .inl (cI, 67, .inl t_told)), (a_t_s, .inl (cI, 87, .inl t_s))] → va_S A s.heap H locs → lv_has ls 3 [(0, .ref a_t), (1, .int v1)] → ∀ (q13 : Int32 × Int32 × Int32), f_X6_worsts_13 t_isolatorAs t_told t_s n v1 w_t_shortAs w_t_worstWire w_t_worstLost = some q13 → (∀ (H : Heap) (locs : List Loc) (ls : Array Slot), va_P D vwCl [(a_t, .inr (5, [.int t_length, .ref a_t_text, .int t_spot, .ref a_t_told, .ref a_t_read, .ref a_t_s, .ref a_t_before, .int t_undoMany, .int q13.1, .int t_isolatorAs, .int q13.2.1, .int q13.2.2])), (a_t_told, .inl (cI, 67, .inl t_told)), (a_t_s, .inl (cI, 87, .inl t_s))] H → va_D A [(a_t, .inr (5, [.int t_length, .ref a_t_text, .int t_spot, .ref a_t_told, .ref a_t_read, .ref a_t_s, .ref a_t_before, .int t_undoMany, .int q13.1, .int t_isolatorAs, .int q13.2.1, .int q13.2.2])), (a_t_told, .inl (cI, 67, .inl t_told)), (a_t_s, .inl (cI, 87, .inl t_s))] → va_S A s.heap H locs → lv_has ls 3 [] → W p l e rm_X6_worsts s m args below meth c H locs 0 0 Q (F0 m 88 ls [])) → W p l e rm_X6_worsts s m args below meth c H locs 0 0 Q (F0 m 13 ls []) := by
    intro n
    induction n with
    | zero => intro v1 w_t_shortAs w_t_worstWire w_t_worstLost H locs ls hP hD hS hl q13 h kk; exact on_ h
    | succ n ih =>
      intro v1 w_t_shortAs w_t_worstWire w_t_worstLost H locs ls hP hD hS hl q13 h kk
      rw [f_X6_worsts_13] at h
      refine lv_iload_n hx hb dX6_worsts_13 rfl (lv_at hl 1 rfl) ?_
      refine lv_aload_n hx hb dX6_worsts_14 rfl (lv_at hl 0 rfl) ?_
      refine va_get (D := D) (ci := 5) (v := .ref a_t_told) (C := RX6) (T := TX6) (N := 12) hx hb hts inX6 hown hK hP 0 rfl rfl 3 (by decide) k_2 (fun _ h9 => h9) rfl dX6_worsts_15 ?_
      refine lv_bipush (v := 60) hx hb dX6_worsts_18 (by decide) ?_
      refine va_iald hx hb hK hP 1 0 rfl rfl (i := 60) (show gi 60 67 by decide) dX6_worsts_20 ?_
      refine lv_icmp_gt (tgt := 88) hx hb dX6_worsts_21 (by decide) (fun cc => ?_) (fun cc => ?_)
      · have h := oi_t cc h
        obtain rfl := Option.some.inj h
        exact kk H locs ls hP hD hS (lv_sub hl [] rfl)
      · have h := oi_f cc h
        refine lv_aload_n hx hb dX6_worsts_24 rfl (lv_at hl 0 rfl) ?_
        refine va_get (D := D) (ci := 5) (v := .ref a_t_s) (C := RX6) (T := TX6) (N := 12) hx hb hts inX6 hown hK hP 0 rfl rfl 5 (by decide) k_3 (fun _ h9 => h9) rfl dX6_worsts_25 ?_
        refine lv_bipush (v := 48) hx hb dX6_worsts_28 (by decide) ?_
        refine lv_iload_n hx hb dX6_worsts_30 rfl (lv_at hl 1 rfl) ?_
        refine lv_iadd hx hb dX6_worsts_31 ?_
        obtain ⟨gg, h⟩ := og h
        refine va_iald hx hb hK hP 2 0 rfl rfl gg dX6_worsts_32 ?_
        refine lv_if_ne (tgt := 82) hx hb dX6_worsts_33 (by decide) (fun cc => ?_) (fun cc => ?_)
        · have h := oi_f cc h
          refine lv_iinc (v := (v1 + 1)) (lv' := [(1, .int (v1 + 1)), (0, .ref a_t)]) hx hb dX6_worsts_82 hl (k := 1) rfl (by first | rfl | decide) (by decide) rfl (fun ls hl => ?_)
          refine lv_goto (tgt := 13) hx hb dX6_worsts_85 (by decide) ?_
          exact ih (v1 + 1) w_t_shortAs w_t_worstWire w_t_worstLost H locs ls hP hD hS (lv_sub hl [1, 0] rfl) q13 h kk
        · have h := oi_t cc h
          refine lv_aload_n hx hb dX6_worsts_36 rfl (lv_at hl 0 rfl) ?_
          refine lv_iload_n hx hb dX6_worsts_37 rfl (lv_at hl 1 rfl) ?_
          obtain ⟨u38, hu38, h⟩ := ob h
          refine gV_i (C := RX6) (T := TX6) (N := 12) (ci := 5) (q0 := 0) (wc := [(a_t, .inr (5, [.int t_length, .ref a_t_text, .int t_spot, .ref a_t_told, .ref a_t_read, .ref a_t_s, .ref a_t_before, .int t_undoMany, .int w_t_shortAs, .int t_isolatorAs, .int w_t_worstWire, .int w_t_worstLost])), (a_t_told, .inl (cI, 67, .inl t_told)), (a_t_s, .inl (cI, 87, .inl t_s))]) (wr := []) (w1 := [(a_t, .inr (5, [.int t_length, .ref a_t_text, .int t_spot, .ref a_t_told, .ref a_t_read, .ref a_t_s, .ref a_t_before, .int t_undoMany, .int u38.2, .int t_isolatorAs, .int w_t_worstWire, .int w_t_worstLost])), (a_t_told, .inl (cI, 67, .inl t_told)), (a_t_s, .inl (cI, 87, .inl t_s))]) (v := u38.1) (As := [.int v1]) (rest := []) ⟨hx, hb, hml, hown, hts⟩ (c_X6_lostBy l D cI cS a_t a_t_told a_t_s a_t_text a_t_read a_t_before H.size t_length t_spot t_undoMany w_t_shortAs t_isolatorAs w_t_worstWire w_t_worstLost t_told t_s v1 u38 hu38) (cwV 1 hts gX6_worsts_X6_lostBy rfl rfl rfl cd_X6_lostBy ⟨Nat.le_of_ble_eq_true rfl, Nat.le_of_ble_eq_true rfl⟩) hK hN hP hD hS hA [0, 1, 2] [] rfl rfl (by decide) (by decide) (by decide) rfl rfl rfl hl.1 rfl (Nat.le_of_ble_eq_true rfl) dX6_worsts_38 ⟨Nat.zero_le _, Nat.zero_le _⟩ (fun H locs hP hD hS => ?_)
          have hP : va_P D vwCl [(a_t, .inr (5, [.int t_length, .ref a_t_text, .int t_spot, .ref a_t_told, .ref a_t_read, .ref a_t_s, .ref a_t_before, .int t_undoMany, .int u38.2, .int t_isolatorAs, .int w_t_worstWire, .int w_t_worstLost])), (a_t_told, .inl (cI, 67, .inl t_told)), (a_t_s, .inl (cI, 87, .inl t_s))] H := hP
          have hD : va_D A [(a_t, .inr (5, [.int t_length, .ref a_t_text, .int t_spot, .ref a_t_told, .ref a_t_read, .ref a_t_s, .ref a_t_before, .int t_undoMany, .int u38.2, .int t_isolatorAs, .int w_t_worstWire, .int w_t_worstLost])), (a_t_told, .inl (cI, 67, .inl t_told)), (a_t_s, .inl (cI, 87, .inl t_s))] := hD
          refine lv_istore_n (lv' := [(2, .int u38.1), (0, .ref a_t), (1, .int v1)]) hx hb dX6_worsts_41 rfl hl (by decide) rfl (fun ls hl => ?_)
          refine lv_aload_n hx hb dX6_worsts_42 rfl (lv_at hl 1 rfl) ?_
          refine lv_iload_n hx hb dX6_worsts_43 rfl (lv_at hl 0 rfl) ?_
          refine lv_aload_n hx hb dX6_worsts_44 rfl (lv_at hl 1 rfl) ?_
          refine va_get (D := D) (ci := 5) (v := .int w_t_worstLost) (C := RX6) (T := TX6) (N := 12) hx hb hts inX6 hown hK hP 0 rfl rfl 11 (by decide) k_1 (fun _ h9 => h9) rfl dX6_worsts_45 ?_
          obtain ⟨u59, hj59, h⟩ := ob h
          have jn59 : ∀ (H : Heap) (locs : List Loc) (ls : Array Slot), va_P D vwCl [(a_t, .inr (5, [.int t_length, .ref a_t_text, .int t_spot, .ref a_t_told, .ref a_t_read, .ref a_t_s, .ref a_t_before, .int t_undoMany, .int u38.2, .int t_isolatorAs, .int w_t_worstWire, .int w_t_worstLost])), (a_t_told, .inl (cI, 67, .inl t_told)), (a_t_s, .inl (cI, 87, .inl t_s))] H → va_D A [(a_t, .inr (5, [.int t_length, .ref a_t_text, .int t_spot, .ref a_t_told, .ref a_t_read, .ref a_t_s, .ref a_t_before, .int t_undoMany, .int u38.2, .int t_isolatorAs, .int w_t_worstWire, .int w_t_worstLost])), (a_t_told, .inl (cI, 67, .inl t_told)), (a_t_s, .inl (cI, 87, .inl t_s))] → va_S A s.heap H locs → lv_has ls 3 [(0, .ref a_t), (1, .int v1), (2, .int u38.1)] → W p l e rm_X6_worsts s m args below meth c H locs 0 0 Q (F0 m 59 ls [.int u59, .ref a_t]) := by
            intro H locs ls hP hD hS hl
            refine va_put (D := D) (ci := 5) (v := .int u59) (ty := .int) (C := RX6) (T := TX6) (N := 12) hx hb hts inX6 tyX6 tyX6_ok nmX6 hown hK hP hD hS 0 rfl rfl 10 (by decide) k_0 (fun _ h9 => h9) rfl (by decide +kernel) rfl rfl (Nat.le_of_ble_eq_true rfl) dX6_worsts_59 (fun H locs hP hD hS => ?_)
            have hP : va_P D vwCl [(a_t, .inr (5, [.int t_length, .ref a_t_text, .int t_spot, .ref a_t_told, .ref a_t_read, .ref a_t_s, .ref a_t_before, .int t_undoMany, .int u38.2, .int t_isolatorAs, .int u59, .int w_t_worstLost])), (a_t_told, .inl (cI, 67, .inl t_told)), (a_t_s, .inl (cI, 87, .inl t_s))] H := hP
            have hD : va_D A [(a_t, .inr (5, [.int t_length, .ref a_t_text, .int t_spot, .ref a_t_told, .ref a_t_read, .ref a_t_s, .ref a_t_before, .int t_undoMany, .int u38.2, .int t_isolatorAs, .int u59, .int w_t_worstLost])), (a_t_told, .inl (cI, 67, .inl t_told)), (a_t_s, .inl (cI, 87, .inl t_s))] := hD
            refine lv_aload_n hx hb dX6_worsts_62 rfl (lv_at hl 0 rfl) ?_
            refine lv_iload_n hx hb dX6_worsts_63 rfl (lv_at hl 2 rfl) ?_
            refine lv_aload_n hx hb dX6_worsts_64 rfl (lv_at hl 0 rfl) ?_
            refine va_get (D := D) (ci := 5) (v := .int w_t_worstLost) (C := RX6) (T := TX6) (N := 12) hx hb hts inX6 hown hK hP 0 rfl rfl 11 (by decide) k_1 (fun _ h9 => h9) rfl dX6_worsts_65 ?_
            refine lv_icmp_le (tgt := 75) hx hb dX6_worsts_68 (by decide) (fun cc => ?_) (fun cc => ?_)
            · have h := oi_t cc h
              refine lv_aload_n hx hb dX6_worsts_75 rfl (lv_at hl 0 rfl) ?_
              refine va_get (D := D) (ci := 5) (v := .int w_t_worstLost) (C := RX6) (T := TX6) (N := 12) hx hb hts inX6 hown hK hP 0 rfl rfl 11 (by decide) k_1 (fun _ h9 => h9) rfl dX6_worsts_76 ?_
              refine va_put (D := D) (ci := 5) (v := .int w_t_worstLost) (ty := .int) (C := RX6) (T := TX6) (N := 12) hx hb hts inX6 tyX6 tyX6_ok nmX6 hown hK hP hD hS 0 rfl rfl 11 (by decide) k_1 (fun _ h9 => h9) rfl (by decide +kernel) rfl rfl (Nat.le_of_ble_eq_true rfl) dX6_worsts_79 (fun H locs hP hD hS => ?_)
              have hP : va_P D vwCl [(a_t, .inr (5, [.int t_length, .ref a_t_text, .int t_spot, .ref a_t_told, .ref a_t_read, .ref a_t_s, .ref a_t_before, .int t_undoMany, .int u38.2, .int t_isolatorAs, .int u59, .int w_t_worstLost])), (a_t_told, .inl (cI, 67, .inl t_told)), (a_t_s, .inl (cI, 87, .inl t_s))] H := hP
              have hD : va_D A [(a_t, .inr (5, [.int t_length, .ref a_t_text, .int t_spot, .ref a_t_told, .ref a_t_read, .ref a_t_s, .ref a_t_before, .int t_undoMany, .int u38.2, .int t_isolatorAs, .int u59, .int w_t_worstLost])), (a_t_told, .inl (cI, 67, .inl t_told)), (a_t_s, .inl (cI, 87, .inl t_s))] := hD
              refine lv_iinc (v := (v1 + 1)) (lv' := [(1, .int (v1 + 1)), (0, .ref a_t), (2, .int u38.1)]) hx hb dX6_worsts_82 hl (k := 1) rfl (by first | rfl | decide) (by decide) rfl (fun ls hl => ?_)
              refine lv_goto (tgt := 13) hx hb dX6_worsts_85 (by decide) ?_
              exact ih (v1 + 1) u38.2 u59 w_t_worstLost H locs ls hP hD hS (lv_sub hl [1, 0] rfl) q13 h kk
            · have h := oi_f cc h
              refine lv_iload_n hx hb dX6_worsts_71 rfl (lv_at hl 2 rfl) ?_
              refine lv_goto (tgt := 79) hx hb dX6_worsts_72 (by decide) ?_
              refine va_put (D := D) (ci := 5) (v := .int u38.1) (ty := .int) (C := RX6) (T := TX6) (N := 12) hx hb hts inX6 tyX6 tyX6_ok nmX6 hown hK hP hD hS 0 rfl rfl 11 (by decide) k_1 (fun _ h9 => h9) rfl (by decide +kernel) rfl rfl (Nat.le_of_ble_eq_true rfl) dX6_worsts_79 (fun H locs hP hD hS => ?_)
              have hP : va_P D vwCl [(a_t, .inr (5, [.int t_length, .ref a_t_text, .int t_spot, .ref a_t_told, .ref a_t_read, .ref a_t_s, .ref a_t_before, .int t_undoMany, .int u38.2, .int t_isolatorAs, .int u59, .int u38.1])), (a_t_told, .inl (cI, 67, .inl t_told)), (a_t_s, .inl (cI, 87, .inl t_s))] H := hP
              have hD : va_D A [(a_t, .inr (5, [.int t_length, .ref a_t_text, .int t_spot, .ref a_t_told, .ref a_t_read, .ref a_t_s, .ref a_t_before, .int t_undoMany, .int u38.2, .int t_isolatorAs, .int u59, .int u38.1])), (a_t_told, .inl (cI, 67, .inl t_told)), (a_t_s, .inl (cI, 87, .inl t_s))] := hD
              refine lv_iinc (v := (v1 + 1)) (lv' := [(1, .int (v1 + 1)), (0, .ref a_t), (2, .int u38.1)]) hx hb dX6_worsts_82 hl (k := 1) rfl (by first | rfl | decide) (by decide) rfl (fun ls hl => ?_)
              refine lv_goto (tgt := 13) hx hb dX6_worsts_85 (by decide) ?_
              exact ih (v1 + 1) u38.2 u59 u38.1 H locs ls hP hD hS (lv_sub hl [1, 0] rfl) q13 h kk
          have h := hj59
          refine lv_icmp_le (tgt := 55) hx hb dX6_worsts_48 (by decide) (fun cc => ?_) (fun cc => ?_)
          · have h := oi_t cc h
            refine lv_aload_n hx hb dX6_worsts_55 rfl (lv_at hl 1 rfl) ?_
            refine va_get (D := D) (ci := 5) (v := .int w_t_worstWire) (C := RX6) (T := TX6) (N := 12) hx hb hts inX6 hown hK hP 0 rfl rfl 10 (by decide) k_0 (fun _ h9 => h9) rfl dX6_worsts_56 ?_
            obtain rfl := Option.some.inj h
            exact jn59 H locs ls hP hD hS (lv_sub hl [1, 2, 0] rfl)
          · have h := oi_f cc h
            refine lv_iload_n hx hb dX6_worsts_51 rfl (lv_at hl 2 rfl) ?_
            refine lv_goto (tgt := 59) hx hb dX6_worsts_52 (by decide) ?_
            obtain rfl := Option.some.inj h
            exact jn59 H locs ls hP hD hS (lv_sub hl [1, 2, 0] rfl)
  refine lp13 1000 0 t_shortAs (-4) (-1) H locs ls hP hD hS (lv_sub hl [1, 0] rfl) q13 hq13 (fun H locs ls hP hD hS hl => ?_)
  obtain rfl := Option.some.inj h
  exact hQ 88 H locs ls hP hD hS dX6_worsts_88

def f_X6_worst (t_shortAs : Int32) (t_isolatorAs : Int32) (t_worstWire : Int32) (t_worstLost : Int32) (t_told : FN) (t_s : FN) (x0 : Int32) : Option (Int32 × Int32 × Int32 × Int32) := ((f_X6_in (x0).toInt64 0 1).bind (fun u4 => (if u4 = 0 then some ((-1), t_shortAs, t_worstWire, t_worstLost) else ((f_X6_worsts t_shortAs t_isolatorAs t_told t_s).bind (fun u13 => (if u13.2.1 = (-4) then some ((-4), u13.1, u13.2.1, u13.2.2) else (if x0 = 0 then some (u13.2.1, u13.1, u13.2.1, u13.2.2) else some (u13.2.2, u13.1, u13.2.1, u13.2.2))))))))
abbrev rm_X6_worst : Room := { frames := 8, cells := 0, slots := 0, locals := 176 }
theorem cd_X6_worst : (yX6_worst).cls = RX6 ∧ (yX6_worst).cls ≠ "java/lang/invoke/MethodHandle" ∧ (yX6_worst).cls ≠ "java/lang/invoke/VarHandle" ∧ (parseMethodDescriptor (yX6_worst).desc).map (fun d => d.parameters.length) = some 1 := by decide +kernel
set_option maxHeartbeats 4000000 in
set_option maxRecDepth 100000 in
theorem c_X6_worst (l : Launch) (D : va_G) (cI cS : ClassId) (a_t a_t_told a_t_s a_t_text a_t_read a_t_before : Nat) (sz : Nat) (t_length : Int32) (t_spot : Int32) (t_undoMany : Int32) (t_shortAs : Int32) (t_isolatorAs : Int32) (t_worstWire : Int32) (t_worstLost : Int32) (t_told : FN) (t_s : FN) (x0 : Int32) (out : Int32 × Int32 × Int32 × Int32) (h : f_X6_worst t_shortAs t_isolatorAs t_worstWire t_worstLost t_told t_s x0 = some out) : Met l yX6_worst wsX6_worst rm_X6_worst (va_Pc [.ref a_t, .int x0] (GP D cI cS [(a_t, .inr (5, [.int t_length, .ref a_t_text, .int t_spot, .ref a_t_told, .ref a_t_read, .ref a_t_s, .ref a_t_before, .int t_undoMany, .int t_shortAs, .int t_isolatorAs, .int t_worstWire, .int t_worstLost])), (a_t_told, .inl (cI, 67, .inl t_told)), (a_t_s, .inl (cI, 87, .inl t_s))] sz)) (QI D [(a_t, .inr (5, [.int t_length, .ref a_t_text, .int t_spot, .ref a_t_told, .ref a_t_read, .ref a_t_s, .ref a_t_before, .int t_undoMany, .int t_shortAs, .int t_isolatorAs, .int t_worstWire, .int t_worstLost])), (a_t_told, .inl (cI, 67, .inl t_told)), (a_t_s, .inl (cI, 87, .inl t_s))] sz [(a_t, .inr (5, [.int t_length, .ref a_t_text, .int t_spot, .ref a_t_told, .ref a_t_read, .ref a_t_s, .ref a_t_before, .int t_undoMany, .int out.2.1, .int t_isolatorAs, .int out.2.2.1, .int out.2.2.2])), (a_t_told, .inl (cI, 67, .inl t_told)), (a_t_s, .inl (cI, 87, .inl t_s))] out.1) 0 0 (va_A [(a_t, .inr (5, [.int t_length, .ref a_t_text, .int t_spot, .ref a_t_told, .ref a_t_read, .ref a_t_s, .ref a_t_before, .int t_undoMany, .int t_shortAs, .int t_isolatorAs, .int t_worstWire, .int t_worstLost])), (a_t_told, .inl (cI, 67, .inl t_told)), (a_t_s, .inl (cI, 87, .inl t_s))] sz) := by
  refine gm_i (cc := cX6_worst) (maxL := 2) (rt := .int) (by decide) rfl (Nat.le_of_ble_eq_true rfl) ?_
  intro p e s m args below meth c A Q H locs ls hx hb hml hown hts hK hN hA hP hD hS hl hQ
  have hown : s.vm.findClass RX6 = some m.cls := hown
  have hl : lv_has ls 2 [(0, .ref a_t), (1, .int x0)] := hl
  have inX6 : ∀ w ∈ wsX60, w ∈ wsX6_worst := by decide +kernel
  have k_0 := hts (.fieldLink RX6 128 "AlarmRingModel" "worstWire" "I") (by decide +kernel)
  have k_1 := hts (.fieldLink RX6 131 "AlarmRingModel" "worstLost" "I") (by decide +kernel)
  unfold f_X6_worst at h
  refine lv_iload_n hx hb dX6_worst_0 rfl (lv_at hl 1 rfl) ?_
  refine lv_i2l (v := (x0).toInt64) hx hb dX6_worst_1 rfl ?_
  refine lv_lconst (v := 0) hx hb dX6_worst_2 (by decide) ?_
  refine lv_lconst (v := 1) hx hb dX6_worst_3 (by decide) ?_
  obtain ⟨u4, hu4, h⟩ := ob h
  refine gS_i (wc := []) (wr := [(a_t, .inr (5, [.int t_length, .ref a_t_text, .int t_spot, .ref a_t_told, .ref a_t_read, .ref a_t_s, .ref a_t_before, .int t_undoMany, .int t_shortAs, .int t_isolatorAs, .int t_worstWire, .int t_worstLost])), (a_t_told, .inl (cI, 67, .inl t_told)), (a_t_s, .inl (cI, 87, .inl t_s))]) (w1 := []) (v := u4) (As := [.long (x0).toInt64, .long 0, .long 1]) (rest := []) ⟨hx, hb, hml, hown, hts⟩ (c_X6_in l D cI cS  H.size (x0).toInt64 0 1 u4 hu4) (va_cwS 3 hts gX6_worst_X6_in rfl rfl rfl cd_X6_in ⟨Nat.le_of_ble_eq_true rfl, Nat.le_of_ble_eq_true rfl⟩) hK hN hP hD hS hA [] [0, 1, 2] rfl rfl (by decide) (by decide) (by decide) rfl hl.1 rfl (Nat.le_of_ble_eq_true rfl) dX6_worst_4 ⟨Nat.zero_le _, Nat.zero_le _⟩ (fun H locs hP hD hS => ?_)
  have hP : va_P D vwCl [(a_t, .inr (5, [.int t_length, .ref a_t_text, .int t_spot, .ref a_t_told, .ref a_t_read, .ref a_t_s, .ref a_t_before, .int t_undoMany, .int t_shortAs, .int t_isolatorAs, .int t_worstWire, .int t_worstLost])), (a_t_told, .inl (cI, 67, .inl t_told)), (a_t_s, .inl (cI, 87, .inl t_s))] H := hP
  have hD : va_D A [(a_t, .inr (5, [.int t_length, .ref a_t_text, .int t_spot, .ref a_t_told, .ref a_t_read, .ref a_t_s, .ref a_t_before, .int t_undoMany, .int t_shortAs, .int t_isolatorAs, .int t_worstWire, .int t_worstLost])), (a_t_told, .inl (cI, 67, .inl t_told)), (a_t_s, .inl (cI, 87, .inl t_s))] := hD
  refine lv_if_ne (tgt := 12) hx hb dX6_worst_7 (by decide) (fun cc => ?_) (fun cc => ?_)
  · have h := oi_f cc h
    refine lv_aload_n hx hb dX6_worst_12 rfl (lv_at hl 0 rfl) ?_
    obtain ⟨u13, hu13, h⟩ := ob h
    refine gV_v (C := RX6) (T := TX6) (N := 12) (ci := 5) (q0 := 0) (wc := [(a_t, .inr (5, [.int t_length, .ref a_t_text, .int t_spot, .ref a_t_told, .ref a_t_read, .ref a_t_s, .ref a_t_before, .int t_undoMany, .int t_shortAs, .int t_isolatorAs, .int t_worstWire, .int t_worstLost])), (a_t_told, .inl (cI, 67, .inl t_told)), (a_t_s, .inl (cI, 87, .inl t_s))]) (wr := []) (w1 := [(a_t, .inr (5, [.int t_length, .ref a_t_text, .int t_spot, .ref a_t_told, .ref a_t_read, .ref a_t_s, .ref a_t_before, .int t_undoMany, .int u13.1, .int t_isolatorAs, .int u13.2.1, .int u13.2.2])), (a_t_told, .inl (cI, 67, .inl t_told)), (a_t_s, .inl (cI, 87, .inl t_s))]) (As := []) (rest := []) ⟨hx, hb, hml, hown, hts⟩ (c_X6_worsts l D cI cS a_t a_t_told a_t_s a_t_text a_t_read a_t_before H.size t_length t_spot t_undoMany t_shortAs t_isolatorAs t_worstWire t_worstLost t_told t_s u13 hu13) (cwV 0 hts gX6_worst_X6_worsts rfl rfl rfl cd_X6_worsts ⟨Nat.le_of_ble_eq_true rfl, Nat.le_of_ble_eq_true rfl⟩) hK hN hP hD hS hA [0, 1, 2] [] rfl rfl (by decide) (by decide) (by decide) rfl rfl rfl hl.1 rfl (Nat.le_of_ble_eq_true rfl) dX6_worst_13 ⟨Nat.zero_le _, Nat.zero_le _⟩ (fun H locs hP hD hS => ?_)
    have hP : va_P D vwCl [(a_t, .inr (5, [.int t_length, .ref a_t_text, .int t_spot, .ref a_t_told, .ref a_t_read, .ref a_t_s, .ref a_t_before, .int t_undoMany, .int u13.1, .int t_isolatorAs, .int u13.2.1, .int u13.2.2])), (a_t_told, .inl (cI, 67, .inl t_told)), (a_t_s, .inl (cI, 87, .inl t_s))] H := hP
    have hD : va_D A [(a_t, .inr (5, [.int t_length, .ref a_t_text, .int t_spot, .ref a_t_told, .ref a_t_read, .ref a_t_s, .ref a_t_before, .int t_undoMany, .int u13.1, .int t_isolatorAs, .int u13.2.1, .int u13.2.2])), (a_t_told, .inl (cI, 67, .inl t_told)), (a_t_s, .inl (cI, 87, .inl t_s))] := hD
    refine lv_aload_n hx hb dX6_worst_16 rfl (lv_at hl 0 rfl) ?_
    refine va_get (D := D) (ci := 5) (v := .int u13.2.1) (C := RX6) (T := TX6) (N := 12) hx hb hts inX6 hown hK hP 0 rfl rfl 10 (by decide) k_0 (fun _ h9 => h9) rfl dX6_worst_17 ?_
    refine lv_bipush (v := (-4)) hx hb dX6_worst_20 (by decide) ?_
    refine lv_icmp_ne (tgt := 30) hx hb dX6_worst_22 (by decide) (fun cc => ?_) (fun cc => ?_)
    · have h := oi_f cc h
      refine lv_iload_n hx hb dX6_worst_30 rfl (lv_at hl 1 rfl) ?_
      refine lv_if_ne (tgt := 41) hx hb dX6_worst_31 (by decide) (fun cc => ?_) (fun cc => ?_)
      · have h := oi_f cc h
        refine lv_aload_n hx hb dX6_worst_41 rfl (lv_at hl 0 rfl) ?_
        refine va_get (D := D) (ci := 5) (v := .int u13.2.2) (C := RX6) (T := TX6) (N := 12) hx hb hts inX6 hown hK hP 0 rfl rfl 11 (by decide) k_1 (fun _ h9 => h9) rfl dX6_worst_42 ?_
        obtain rfl := Option.some.inj h
        exact hQ 45 H locs ls rfl hP hD hS dX6_worst_45
      · have h := oi_t cc h
        refine lv_aload_n hx hb dX6_worst_34 rfl (lv_at hl 0 rfl) ?_
        refine va_get (D := D) (ci := 5) (v := .int u13.2.1) (C := RX6) (T := TX6) (N := 12) hx hb hts inX6 hown hK hP 0 rfl rfl 10 (by decide) k_0 (fun _ h9 => h9) rfl dX6_worst_35 ?_
        refine lv_goto (tgt := 45) hx hb dX6_worst_38 (by decide) ?_
        obtain rfl := Option.some.inj h
        exact hQ 45 H locs ls rfl hP hD hS dX6_worst_45
    · have h := oi_t cc h
      refine lv_bipush (v := (-4)) hx hb dX6_worst_25 (by decide) ?_
      refine lv_goto (tgt := 45) hx hb dX6_worst_27 (by decide) ?_
      obtain rfl := Option.some.inj h
      exact hQ 45 H locs ls rfl hP hD hS dX6_worst_45
  · have h := oi_t cc h
    refine lv_iconst (v := (-1)) hx hb dX6_worst_10 (by decide) ?_
    obtain rfl := Option.some.inj h
    exact hQ 11 H locs ls rfl hP hD hS dX6_worst_11

def f_X6_help_21 (t_told : FN) (t_s : FN) : Nat → Int32 → Int32 → Int32 → Int32 → Int32 → Int32 → Int32 → Option (Int32 × Int32 × Int32 × Int32 × Int32 × Int32)
  | 0, _, _, _, _, _, _, _ => none
  | n + 1, v2, v3, v4, w_t_shortAs, w_t_isolatorAs, w_t_worstWire, w_t_worstLost => (if (t_told (60 : Int32).toNatClampNeg) ≤ v4 then some (v2, v3, w_t_shortAs, w_t_isolatorAs, w_t_worstWire, w_t_worstLost) else (if gi ((3 * v4) + 2) 67 then (if (t_told (((3 * v4) + 2)).toNatClampNeg) = 0 then ((f_X6_worsts w_t_shortAs v4 t_told t_s).bind (fun u54 => (((if u54.2.1 = (-4) then some (0) else (if v3 ≤ u54.2.2 then some (0) else some (1)))).bind (fun (u84 : Int32) => (((if u84 = 0 then some (v2) else some (v4))).bind (fun (u97 : Int32) => (if u84 = 0 then f_X6_help_21 t_told t_s n u97 v3 (v4 + 1) u54.1 (-1) u54.2.1 u54.2.2 else f_X6_help_21 t_told t_s n u97 u54.2.2 (v4 + 1) u54.1 (-1) u54.2.1 u54.2.2))))))) else f_X6_help_21 t_told t_s n v2 v3 (v4 + 1) w_t_shortAs w_t_isolatorAs w_t_worstWire w_t_worstLost) else none))
def f_X6_help (t_shortAs : Int32) (t_isolatorAs : Int32) (t_worstWire : Int32) (t_worstLost : Int32) (t_told : FN) (t_s : FN) (x0 : Int32) : Option (Int32 × Int32 × Int32 × Int32 × Int32) := ((f_X6_in (x0).toInt64 0 1).bind (fun u4 => (if u4 = 0 then some ((-1), t_shortAs, t_isolatorAs, t_worstWire, t_worstLost) else ((f_X6_help_21 t_told t_s 1000 (-4) 100 0 t_shortAs t_isolatorAs t_worstWire t_worstLost).bind (fun (q21 : Int32 × Int32 × Int32 × Int32 × Int32 × Int32) => (if q21.1 = (-4) then some ((-4), q21.2.2.1, q21.2.2.2.1, q21.2.2.2.2.1, q21.2.2.2.2.2) else (if x0 = 0 then some (q21.1, q21.2.2.1, q21.2.2.2.1, q21.2.2.2.2.1, q21.2.2.2.2.2) else some (q21.2.1, q21.2.2.1, q21.2.2.2.1, q21.2.2.2.2.1, q21.2.2.2.2.2))))))))
abbrev rm_X6_help : Room := { frames := 8, cells := 0, slots := 0, locals := 176 }
theorem cd_X6_help : (yX6_help).cls = RX6 ∧ (yX6_help).cls ≠ "java/lang/invoke/MethodHandle" ∧ (yX6_help).cls ≠ "java/lang/invoke/VarHandle" ∧ (parseMethodDescriptor (yX6_help).desc).map (fun d => d.parameters.length) = some 1 := by decide +kernel
set_option maxHeartbeats 4000000 in
set_option maxRecDepth 100000 in
theorem c_X6_help (l : Launch) (D : va_G) (cI cS : ClassId) (a_t a_t_told a_t_s a_t_text a_t_read a_t_before : Nat) (sz : Nat) (t_length : Int32) (t_spot : Int32) (t_undoMany : Int32) (t_shortAs : Int32) (t_isolatorAs : Int32) (t_worstWire : Int32) (t_worstLost : Int32) (t_told : FN) (t_s : FN) (x0 : Int32) (out : Int32 × Int32 × Int32 × Int32 × Int32) (h : f_X6_help t_shortAs t_isolatorAs t_worstWire t_worstLost t_told t_s x0 = some out) : Met l yX6_help wsX6_help rm_X6_help (va_Pc [.ref a_t, .int x0] (GP D cI cS [(a_t, .inr (5, [.int t_length, .ref a_t_text, .int t_spot, .ref a_t_told, .ref a_t_read, .ref a_t_s, .ref a_t_before, .int t_undoMany, .int t_shortAs, .int t_isolatorAs, .int t_worstWire, .int t_worstLost])), (a_t_told, .inl (cI, 67, .inl t_told)), (a_t_s, .inl (cI, 87, .inl t_s))] sz)) (QI D [(a_t, .inr (5, [.int t_length, .ref a_t_text, .int t_spot, .ref a_t_told, .ref a_t_read, .ref a_t_s, .ref a_t_before, .int t_undoMany, .int t_shortAs, .int t_isolatorAs, .int t_worstWire, .int t_worstLost])), (a_t_told, .inl (cI, 67, .inl t_told)), (a_t_s, .inl (cI, 87, .inl t_s))] sz [(a_t, .inr (5, [.int t_length, .ref a_t_text, .int t_spot, .ref a_t_told, .ref a_t_read, .ref a_t_s, .ref a_t_before, .int t_undoMany, .int out.2.1, .int out.2.2.1, .int out.2.2.2.1, .int out.2.2.2.2])), (a_t_told, .inl (cI, 67, .inl t_told)), (a_t_s, .inl (cI, 87, .inl t_s))] out.1) 0 0 (va_A [(a_t, .inr (5, [.int t_length, .ref a_t_text, .int t_spot, .ref a_t_told, .ref a_t_read, .ref a_t_s, .ref a_t_before, .int t_undoMany, .int t_shortAs, .int t_isolatorAs, .int t_worstWire, .int t_worstLost])), (a_t_told, .inl (cI, 67, .inl t_told)), (a_t_s, .inl (cI, 87, .inl t_s))] sz) := by
  refine gm_i (cc := cX6_help) (maxL := 6) (rt := .int) (by decide) rfl (Nat.le_of_ble_eq_true rfl) ?_
  intro p e s m args below meth c A Q H locs ls hx hb hml hown hts hK hN hA hP hD hS hl hQ
  have hown : s.vm.findClass RX6 = some m.cls := hown
  have hl : lv_has ls 6 [(0, .ref a_t), (1, .int x0)] := hl
  have inX6 : ∀ w ∈ wsX60, w ∈ wsX6_help := by decide +kernel
  have k_0 := hts (.fieldLink RX6 13 "AlarmRingModel" "told" "[I") (by decide +kernel)
  have k_1 := hts (.fieldLink RX6 29 "AlarmRingModel" "isolatorAs" "I") (by decide +kernel)
  have k_2 := hts (.fieldLink RX6 128 "AlarmRingModel" "worstWire" "I") (by decide +kernel)
  have k_3 := hts (.fieldLink RX6 131 "AlarmRingModel" "worstLost" "I") (by decide +kernel)
  unfold f_X6_help at h
  refine lv_iload_n hx hb dX6_help_0 rfl (lv_at hl 1 rfl) ?_
  refine lv_i2l (v := (x0).toInt64) hx hb dX6_help_1 rfl ?_
  refine lv_lconst (v := 0) hx hb dX6_help_2 (by decide) ?_
  refine lv_lconst (v := 1) hx hb dX6_help_3 (by decide) ?_
  obtain ⟨u4, hu4, h⟩ := ob h
  refine gS_i (wc := []) (wr := [(a_t, .inr (5, [.int t_length, .ref a_t_text, .int t_spot, .ref a_t_told, .ref a_t_read, .ref a_t_s, .ref a_t_before, .int t_undoMany, .int t_shortAs, .int t_isolatorAs, .int t_worstWire, .int t_worstLost])), (a_t_told, .inl (cI, 67, .inl t_told)), (a_t_s, .inl (cI, 87, .inl t_s))]) (w1 := []) (v := u4) (As := [.long (x0).toInt64, .long 0, .long 1]) (rest := []) ⟨hx, hb, hml, hown, hts⟩ (c_X6_in l D cI cS  H.size (x0).toInt64 0 1 u4 hu4) (va_cwS 3 hts gX6_help_X6_in rfl rfl rfl cd_X6_in ⟨Nat.le_of_ble_eq_true rfl, Nat.le_of_ble_eq_true rfl⟩) hK hN hP hD hS hA [] [0, 1, 2] rfl rfl (by decide) (by decide) (by decide) rfl hl.1 rfl (Nat.le_of_ble_eq_true rfl) dX6_help_4 ⟨Nat.zero_le _, Nat.zero_le _⟩ (fun H locs hP hD hS => ?_)
  have hP : va_P D vwCl [(a_t, .inr (5, [.int t_length, .ref a_t_text, .int t_spot, .ref a_t_told, .ref a_t_read, .ref a_t_s, .ref a_t_before, .int t_undoMany, .int t_shortAs, .int t_isolatorAs, .int t_worstWire, .int t_worstLost])), (a_t_told, .inl (cI, 67, .inl t_told)), (a_t_s, .inl (cI, 87, .inl t_s))] H := hP
  have hD : va_D A [(a_t, .inr (5, [.int t_length, .ref a_t_text, .int t_spot, .ref a_t_told, .ref a_t_read, .ref a_t_s, .ref a_t_before, .int t_undoMany, .int t_shortAs, .int t_isolatorAs, .int t_worstWire, .int t_worstLost])), (a_t_told, .inl (cI, 67, .inl t_told)), (a_t_s, .inl (cI, 87, .inl t_s))] := hD
  refine lv_if_ne (tgt := 12) hx hb dX6_help_7 (by decide) (fun cc => ?_) (fun cc => ?_)
  · have h := oi_f cc h
    refine lv_bipush (v := (-4)) hx hb dX6_help_12 (by decide) ?_
    refine lv_istore_n (lv' := [(2, .int (-4)), (0, .ref a_t), (1, .int x0)]) hx hb dX6_help_14 rfl hl (by decide) rfl (fun ls hl => ?_)
    refine lv_bipush (v := 100) hx hb dX6_help_15 (by decide) ?_
    refine lv_istore_n (lv' := [(3, .int 100), (2, .int (-4)), (0, .ref a_t), (1, .int x0)]) hx hb dX6_help_17 rfl hl (by decide) rfl (fun ls hl => ?_)
    refine lv_iconst (v := 0) hx hb dX6_help_18 (by decide) ?_
    refine lv_istore (lv' := [(4, .int 0), (3, .int 100), (2, .int (-4)), (0, .ref a_t), (1, .int x0)]) hx hb dX6_help_19 hl (by decide) rfl (fun ls hl => ?_)
    obtain ⟨q21, hq21, h⟩ := ob h
    have lp21 : ∀ (n : Nat) (v2 : Int32) (v3 : Int32) (v4 : Int32) (w_t_shortAs : Int32) (w_t_isolatorAs : Int32) (w_t_worstWire : Int32) (w_t_worstLost : Int32) (H : Heap) (locs : List Loc) (ls : Array Slot), va_P D vwCl [(a_t, .inr (5, [.int t_length, .ref a_t_text, .int t_spot, .ref a_t_told, .ref a_t_read, .ref a_t_s, .ref a_t_before, .int t_undoMany, .int w_t_shortAs, .int w_t_isolatorAs, .int w_t_worstWire, .int w_t_worstLost])), (a_t_told, .inl (cI, 67, .inl t_told)), (a_t_s, .inl (cI, 87, .inl t_s))] H → va_D A [(a_t, .inr (5, [.int t_length, .ref a_t_text, .int t_spot, .ref a_t_told, .ref a_t_read, .ref a_t_s, .ref a_t_before, .int t_undoMany, .int w_t_shortAs, .int w_t_isolatorAs, .int w_t_worstWire, .int w_t_worstLost])), (a_t_told, .inl (cI, 67, .inl t_told)), (a_t_s, .inl (cI, 87, .inl t_s))] → va_S A s.heap H locs → lv_has ls 6 [(0, .ref a_t), (1, .int x0), (2, .int v2), (3, .int v3), (4, .int v4)] → ∀ (q21 : Int32 × Int32 × Int32 × Int32 × Int32 × Int32), f_X6_help_21 t_told t_s n v2 v3 v4 w_t_shortAs w_t_isolatorAs w_t_worstWire w_t_worstLost = some q21 → (∀ (H : Heap) (locs : List Loc) (ls : Array Slot), va_P D vwCl [(a_t, .inr (5, [.int t_length, .ref a_t_text, .int t_spot, .ref a_t_told, .ref a_t_read, .ref a_t_s, .ref a_t_before, .int t_undoMany, .int q21.2.2.1, .int q21.2.2.2.1, .int q21.2.2.2.2.1, .int q21.2.2.2.2.2])), (a_t_told, .inl (cI, 67, .inl t_told)), (a_t_s, .inl (cI, 87, .inl t_s))] H → va_D A [(a_t, .inr (5, [.int t_length, .ref a_t_text, .int t_spot, .ref a_t_told, .ref a_t_read, .ref a_t_s, .ref a_t_before, .int t_undoMany, .int q21.2.2.1, .int q21.2.2.2.1, .int q21.2.2.2.2.1, .int q21.2.2.2.2.2])), (a_t_told, .inl (cI, 67, .inl t_told)), (a_t_s, .inl (cI, 87, .inl t_s))] → va_S A s.heap H locs → lv_has ls 6 [(1, .int x0), (2, .int q21.1), (3, .int q21.2.1)] → W p l e rm_X6_help s m args below meth c H locs 0 0 Q (F0 m 118 ls [])) → W p l e rm_X6_help s m args below meth c H locs 0 0 Q (F0 m 21 ls []) := by
      intro n
      induction n with
      | zero => intro v2 v3 v4 w_t_shortAs w_t_isolatorAs w_t_worstWire w_t_worstLost H locs ls hP hD hS hl q21 h kk; exact on_ h
      | succ n ih =>
        intro v2 v3 v4 w_t_shortAs w_t_isolatorAs w_t_worstWire w_t_worstLost H locs ls hP hD hS hl q21 h kk
        rw [f_X6_help_21] at h
        refine lv_iload hx hb dX6_help_21 (lv_at hl 4 rfl) ?_
        refine lv_aload_n hx hb dX6_help_23 rfl (lv_at hl 0 rfl) ?_
        refine va_get (D := D) (ci := 5) (v := .ref a_t_told) (C := RX6) (T := TX6) (N := 12) hx hb hts inX6 hown hK hP 0 rfl rfl 3 (by decide) k_0 (fun _ h9 => h9) rfl dX6_help_24 ?_
        refine lv_bipush (v := 60) hx hb dX6_help_27 (by decide) ?_
        refine va_iald hx hb hK hP 1 0 rfl rfl (i := 60) (show gi 60 67 by decide) dX6_help_29 ?_
        refine lv_icmp_ge (tgt := 118) hx hb dX6_help_30 (by decide) (fun cc => ?_) (fun cc => ?_)
        · have h := oi_t cc h
          obtain rfl := Option.some.inj h
          exact kk H locs ls hP hD hS (lv_sub hl [1, 2, 3] rfl)
        · have h := oi_f cc h
          refine lv_aload_n hx hb dX6_help_33 rfl (lv_at hl 0 rfl) ?_
          refine va_get (D := D) (ci := 5) (v := .ref a_t_told) (C := RX6) (T := TX6) (N := 12) hx hb hts inX6 hown hK hP 0 rfl rfl 3 (by decide) k_0 (fun _ h9 => h9) rfl dX6_help_34 ?_
          refine lv_iconst (v := 3) hx hb dX6_help_37 (by decide) ?_
          refine lv_iload hx hb dX6_help_38 (lv_at hl 4 rfl) ?_
          refine lv_imul hx hb dX6_help_40 ?_
          refine lv_iconst (v := 2) hx hb dX6_help_41 (by decide) ?_
          refine lv_iadd hx hb dX6_help_42 ?_
          obtain ⟨gg, h⟩ := og h
          refine va_iald hx hb hK hP 1 0 rfl rfl gg dX6_help_43 ?_
          refine lv_if_ne (tgt := 112) hx hb dX6_help_44 (by decide) (fun cc => ?_) (fun cc => ?_)
          · have h := oi_f cc h
            refine lv_iinc (v := (v4 + 1)) (lv' := [(4, .int (v4 + 1)), (0, .ref a_t), (1, .int x0), (2, .int v2), (3, .int v3)]) hx hb dX6_help_112 hl (k := 4) rfl (by first | rfl | decide) (by decide) rfl (fun ls hl => ?_)
            refine lv_goto (tgt := 21) hx hb dX6_help_115 (by decide) ?_
            exact ih v2 v3 (v4 + 1) w_t_shortAs w_t_isolatorAs w_t_worstWire w_t_worstLost H locs ls hP hD hS (lv_sub hl [1, 2, 3, 4, 0] rfl) q21 h kk
          · have h := oi_t cc h
            refine lv_aload_n hx hb dX6_help_47 rfl (lv_at hl 0 rfl) ?_
            refine lv_iload hx hb dX6_help_48 (lv_at hl 4 rfl) ?_
            refine va_put (D := D) (ci := 5) (v := .int v4) (ty := .int) (C := RX6) (T := TX6) (N := 12) hx hb hts inX6 tyX6 tyX6_ok nmX6 hown hK hP hD hS 0 rfl rfl 9 (by decide) k_1 (fun _ h9 => h9) rfl (by decide +kernel) rfl rfl (Nat.le_of_ble_eq_true rfl) dX6_help_50 (fun H locs hP hD hS => ?_)
            have hP : va_P D vwCl [(a_t, .inr (5, [.int t_length, .ref a_t_text, .int t_spot, .ref a_t_told, .ref a_t_read, .ref a_t_s, .ref a_t_before, .int t_undoMany, .int w_t_shortAs, .int v4, .int w_t_worstWire, .int w_t_worstLost])), (a_t_told, .inl (cI, 67, .inl t_told)), (a_t_s, .inl (cI, 87, .inl t_s))] H := hP
            have hD : va_D A [(a_t, .inr (5, [.int t_length, .ref a_t_text, .int t_spot, .ref a_t_told, .ref a_t_read, .ref a_t_s, .ref a_t_before, .int t_undoMany, .int w_t_shortAs, .int v4, .int w_t_worstWire, .int w_t_worstLost])), (a_t_told, .inl (cI, 67, .inl t_told)), (a_t_s, .inl (cI, 87, .inl t_s))] := hD
            refine lv_aload_n hx hb dX6_help_53 rfl (lv_at hl 0 rfl) ?_
            obtain ⟨u54, hu54, h⟩ := ob h
            refine gV_v (C := RX6) (T := TX6) (N := 12) (ci := 5) (q0 := 0) (wc := [(a_t, .inr (5, [.int t_length, .ref a_t_text, .int t_spot, .ref a_t_told, .ref a_t_read, .ref a_t_s, .ref a_t_before, .int t_undoMany, .int w_t_shortAs, .int v4, .int w_t_worstWire, .int w_t_worstLost])), (a_t_told, .inl (cI, 67, .inl t_told)), (a_t_s, .inl (cI, 87, .inl t_s))]) (wr := []) (w1 := [(a_t, .inr (5, [.int t_length, .ref a_t_text, .int t_spot, .ref a_t_told, .ref a_t_read, .ref a_t_s, .ref a_t_before, .int t_undoMany, .int u54.1, .int v4, .int u54.2.1, .int u54.2.2])), (a_t_told, .inl (cI, 67, .inl t_told)), (a_t_s, .inl (cI, 87, .inl t_s))]) (As := []) (rest := []) ⟨hx, hb, hml, hown, hts⟩ (c_X6_worsts l D cI cS a_t a_t_told a_t_s a_t_text a_t_read a_t_before H.size t_length t_spot t_undoMany w_t_shortAs v4 w_t_worstWire w_t_worstLost t_told t_s u54 hu54) (cwV 0 hts gX6_help_X6_worsts rfl rfl rfl cd_X6_worsts ⟨Nat.le_of_ble_eq_true rfl, Nat.le_of_ble_eq_true rfl⟩) hK hN hP hD hS hA [0, 1, 2] [] rfl rfl (by decide) (by decide) (by decide) rfl rfl rfl hl.1 rfl (Nat.le_of_ble_eq_true rfl) dX6_help_54 ⟨Nat.zero_le _, Nat.zero_le _⟩ (fun H locs hP hD hS => ?_)
            have hP : va_P D vwCl [(a_t, .inr (5, [.int t_length, .ref a_t_text, .int t_spot, .ref a_t_told, .ref a_t_read, .ref a_t_s, .ref a_t_before, .int t_undoMany, .int u54.1, .int v4, .int u54.2.1, .int u54.2.2])), (a_t_told, .inl (cI, 67, .inl t_told)), (a_t_s, .inl (cI, 87, .inl t_s))] H := hP
            have hD : va_D A [(a_t, .inr (5, [.int t_length, .ref a_t_text, .int t_spot, .ref a_t_told, .ref a_t_read, .ref a_t_s, .ref a_t_before, .int t_undoMany, .int u54.1, .int v4, .int u54.2.1, .int u54.2.2])), (a_t_told, .inl (cI, 67, .inl t_told)), (a_t_s, .inl (cI, 87, .inl t_s))] := hD
            refine lv_aload_n hx hb dX6_help_57 rfl (lv_at hl 0 rfl) ?_
            refine lv_iconst (v := (-1)) hx hb dX6_help_58 (by decide) ?_
            refine va_put (D := D) (ci := 5) (v := .int (-1)) (ty := .int) (C := RX6) (T := TX6) (N := 12) hx hb hts inX6 tyX6 tyX6_ok nmX6 hown hK hP hD hS 0 rfl rfl 9 (by decide) k_1 (fun _ h9 => h9) rfl (by decide +kernel) rfl rfl (Nat.le_of_ble_eq_true rfl) dX6_help_59 (fun H locs hP hD hS => ?_)
            have hP : va_P D vwCl [(a_t, .inr (5, [.int t_length, .ref a_t_text, .int t_spot, .ref a_t_told, .ref a_t_read, .ref a_t_s, .ref a_t_before, .int t_undoMany, .int u54.1, .int (-1), .int u54.2.1, .int u54.2.2])), (a_t_told, .inl (cI, 67, .inl t_told)), (a_t_s, .inl (cI, 87, .inl t_s))] H := hP
            have hD : va_D A [(a_t, .inr (5, [.int t_length, .ref a_t_text, .int t_spot, .ref a_t_told, .ref a_t_read, .ref a_t_s, .ref a_t_before, .int t_undoMany, .int u54.1, .int (-1), .int u54.2.1, .int u54.2.2])), (a_t_told, .inl (cI, 67, .inl t_told)), (a_t_s, .inl (cI, 87, .inl t_s))] := hD
            refine lv_aload_n hx hb dX6_help_62 rfl (lv_at hl 0 rfl) ?_
            refine va_get (D := D) (ci := 5) (v := .int u54.2.1) (C := RX6) (T := TX6) (N := 12) hx hb hts inX6 hown hK hP 0 rfl rfl 10 (by decide) k_2 (fun _ h9 => h9) rfl dX6_help_63 ?_
            refine lv_bipush (v := (-4)) hx hb dX6_help_66 (by decide) ?_
            obtain ⟨u84, hj84, h⟩ := ob h
            have jn84 : ∀ (H : Heap) (locs : List Loc) (ls : Array Slot), va_P D vwCl [(a_t, .inr (5, [.int t_length, .ref a_t_text, .int t_spot, .ref a_t_told, .ref a_t_read, .ref a_t_s, .ref a_t_before, .int t_undoMany, .int u54.1, .int (-1), .int u54.2.1, .int u54.2.2])), (a_t_told, .inl (cI, 67, .inl t_told)), (a_t_s, .inl (cI, 87, .inl t_s))] H → va_D A [(a_t, .inr (5, [.int t_length, .ref a_t_text, .int t_spot, .ref a_t_told, .ref a_t_read, .ref a_t_s, .ref a_t_before, .int t_undoMany, .int u54.1, .int (-1), .int u54.2.1, .int u54.2.2])), (a_t_told, .inl (cI, 67, .inl t_told)), (a_t_s, .inl (cI, 87, .inl t_s))] → va_S A s.heap H locs → lv_has ls 6 [(0, .ref a_t), (1, .int x0), (2, .int v2), (3, .int v3), (4, .int v4)] → W p l e rm_X6_help s m args below meth c H locs 0 0 Q (F0 m 84 ls [.int u84]) := by
              intro H locs ls hP hD hS hl
              refine lv_istore (lv' := [(5, .int u84), (0, .ref a_t), (1, .int x0), (2, .int v2), (3, .int v3), (4, .int v4)]) hx hb dX6_help_84 hl (by decide) rfl (fun ls hl => ?_)
              refine lv_iload hx hb dX6_help_86 (lv_at hl 0 rfl) ?_
              obtain ⟨u97, hj97, h⟩ := ob h
              have jn97 : ∀ (H : Heap) (locs : List Loc) (ls : Array Slot), va_P D vwCl [(a_t, .inr (5, [.int t_length, .ref a_t_text, .int t_spot, .ref a_t_told, .ref a_t_read, .ref a_t_s, .ref a_t_before, .int t_undoMany, .int u54.1, .int (-1), .int u54.2.1, .int u54.2.2])), (a_t_told, .inl (cI, 67, .inl t_told)), (a_t_s, .inl (cI, 87, .inl t_s))] H → va_D A [(a_t, .inr (5, [.int t_length, .ref a_t_text, .int t_spot, .ref a_t_told, .ref a_t_read, .ref a_t_s, .ref a_t_before, .int t_undoMany, .int u54.1, .int (-1), .int u54.2.1, .int u54.2.2])), (a_t_told, .inl (cI, 67, .inl t_told)), (a_t_s, .inl (cI, 87, .inl t_s))] → va_S A s.heap H locs → lv_has ls 6 [(0, .ref a_t), (1, .int x0), (3, .int v3), (4, .int v4), (5, .int u84)] → W p l e rm_X6_help s m args below meth c H locs 0 0 Q (F0 m 97 ls [.int u97]) := by
                intro H locs ls hP hD hS hl
                refine lv_istore_n (lv' := [(2, .int u97), (0, .ref a_t), (1, .int x0), (3, .int v3), (4, .int v4), (5, .int u84)]) hx hb dX6_help_97 rfl hl (by decide) rfl (fun ls hl => ?_)
                refine lv_iload hx hb dX6_help_98 (lv_at hl 5 rfl) ?_
                refine lv_if_eq (tgt := 110) hx hb dX6_help_100 (by decide) (fun cc => ?_) (fun cc => ?_)
                · have h := oi_t cc h
                  refine lv_iload_n hx hb dX6_help_110 rfl (lv_at hl 3 rfl) ?_
                  refine lv_istore_n (lv' := [(3, .int v3), (2, .int u97), (0, .ref a_t), (1, .int x0), (4, .int v4), (5, .int u84)]) hx hb dX6_help_111 rfl hl (by decide) rfl (fun ls hl => ?_)
                  refine lv_iinc (v := (v4 + 1)) (lv' := [(4, .int (v4 + 1)), (3, .int v3), (2, .int u97), (0, .ref a_t), (1, .int x0), (5, .int u84)]) hx hb dX6_help_112 hl (k := 4) rfl (by first | rfl | decide) (by decide) rfl (fun ls hl => ?_)
                  refine lv_goto (tgt := 21) hx hb dX6_help_115 (by decide) ?_
                  exact ih u97 v3 (v4 + 1) u54.1 (-1) u54.2.1 u54.2.2 H locs ls hP hD hS (lv_sub hl [3, 4, 2, 1, 0] rfl) q21 h kk
                · have h := oi_f cc h
                  refine lv_aload_n hx hb dX6_help_103 rfl (lv_at hl 1 rfl) ?_
                  refine va_get (D := D) (ci := 5) (v := .int u54.2.2) (C := RX6) (T := TX6) (N := 12) hx hb hts inX6 hown hK hP 0 rfl rfl 11 (by decide) k_3 (fun _ h9 => h9) rfl dX6_help_104 ?_
                  refine lv_goto (tgt := 111) hx hb dX6_help_107 (by decide) ?_
                  refine lv_istore_n (lv' := [(3, .int u54.2.2), (2, .int u97), (0, .ref a_t), (1, .int x0), (4, .int v4), (5, .int u84)]) hx hb dX6_help_111 rfl hl (by decide) rfl (fun ls hl => ?_)
                  refine lv_iinc (v := (v4 + 1)) (lv' := [(4, .int (v4 + 1)), (3, .int u54.2.2), (2, .int u97), (0, .ref a_t), (1, .int x0), (5, .int u84)]) hx hb dX6_help_112 hl (k := 4) rfl (by first | rfl | decide) (by decide) rfl (fun ls hl => ?_)
                  refine lv_goto (tgt := 21) hx hb dX6_help_115 (by decide) ?_
                  exact ih u97 u54.2.2 (v4 + 1) u54.1 (-1) u54.2.1 u54.2.2 H locs ls hP hD hS (lv_sub hl [3, 4, 2, 1, 0] rfl) q21 h kk
              have h := hj97
              refine lv_if_eq (tgt := 96) hx hb dX6_help_88 (by decide) (fun cc => ?_) (fun cc => ?_)
              · have h := oi_t cc h
                refine lv_iload_n hx hb dX6_help_96 rfl (lv_at hl 3 rfl) ?_
                obtain rfl := Option.some.inj h
                exact jn97 H locs ls hP hD hS (lv_sub hl [1, 2, 4, 5, 0] rfl)
              · have h := oi_f cc h
                refine lv_iload hx hb dX6_help_91 (lv_at hl 5 rfl) ?_
                refine lv_goto (tgt := 97) hx hb dX6_help_93 (by decide) ?_
                obtain rfl := Option.some.inj h
                exact jn97 H locs ls hP hD hS (lv_sub hl [1, 2, 4, 5, 0] rfl)
            have h := hj84
            refine lv_icmp_eq (tgt := 83) hx hb dX6_help_68 (by decide) (fun cc => ?_) (fun cc => ?_)
            · have h := oi_t cc h
              refine lv_iconst (v := 0) hx hb dX6_help_83 (by decide) ?_
              obtain rfl := Option.some.inj h
              exact jn84 H locs ls hP hD hS (lv_sub hl [0, 1, 2, 3, 4] rfl)
            · have h := oi_f cc h
              refine lv_aload_n hx hb dX6_help_71 rfl (lv_at hl 0 rfl) ?_
              refine va_get (D := D) (ci := 5) (v := .int u54.2.2) (C := RX6) (T := TX6) (N := 12) hx hb hts inX6 hown hK hP 0 rfl rfl 11 (by decide) k_3 (fun _ h9 => h9) rfl dX6_help_72 ?_
              refine lv_iload_n hx hb dX6_help_75 rfl (lv_at hl 3 rfl) ?_
              refine lv_icmp_ge (tgt := 83) hx hb dX6_help_76 (by decide) (fun cc => ?_) (fun cc => ?_)
              · have h := oi_t cc h
                refine lv_iconst (v := 0) hx hb dX6_help_83 (by decide) ?_
                obtain rfl := Option.some.inj h
                exact jn84 H locs ls hP hD hS (lv_sub hl [0, 1, 2, 3, 4] rfl)
              · have h := oi_f cc h
                refine lv_iconst (v := 1) hx hb dX6_help_79 (by decide) ?_
                refine lv_goto (tgt := 84) hx hb dX6_help_80 (by decide) ?_
                obtain rfl := Option.some.inj h
                exact jn84 H locs ls hP hD hS (lv_sub hl [0, 1, 2, 3, 4] rfl)
    refine lp21 1000 (-4) 100 0 t_shortAs t_isolatorAs t_worstWire t_worstLost H locs ls hP hD hS (lv_sub hl [3, 4, 2, 1, 0] rfl) q21 hq21 (fun H locs ls hP hD hS hl => ?_)
    refine lv_iload_n hx hb dX6_help_118 rfl (lv_at hl 1 rfl) ?_
    refine lv_bipush (v := (-4)) hx hb dX6_help_119 (by decide) ?_
    refine lv_icmp_ne (tgt := 129) hx hb dX6_help_121 (by decide) (fun cc => ?_) (fun cc => ?_)
    · have h := oi_f cc h
      refine lv_iload_n hx hb dX6_help_129 rfl (lv_at hl 0 rfl) ?_
      refine lv_if_ne (tgt := 137) hx hb dX6_help_130 (by decide) (fun cc => ?_) (fun cc => ?_)
      · have h := oi_f cc h
        refine lv_iload_n hx hb dX6_help_137 rfl (lv_at hl 2 rfl) ?_
        obtain rfl := Option.some.inj h
        exact hQ 138 H locs ls rfl hP hD hS dX6_help_138
      · have h := oi_t cc h
        refine lv_iload_n hx hb dX6_help_133 rfl (lv_at hl 1 rfl) ?_
        refine lv_goto (tgt := 138) hx hb dX6_help_134 (by decide) ?_
        obtain rfl := Option.some.inj h
        exact hQ 138 H locs ls rfl hP hD hS dX6_help_138
    · have h := oi_t cc h
      refine lv_bipush (v := (-4)) hx hb dX6_help_124 (by decide) ?_
      refine lv_goto (tgt := 138) hx hb dX6_help_126 (by decide) ?_
      obtain rfl := Option.some.inj h
      exact hQ 138 H locs ls rfl hP hD hS dX6_help_138
  · have h := oi_t cc h
    refine lv_iconst (v := (-1)) hx hb dX6_help_10 (by decide) ?_
    obtain rfl := Option.some.inj h
    exact hQ 11 H locs ls rfl hP hD hS dX6_help_11
