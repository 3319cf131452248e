def f_X6_value (t_s : FN) (x0 : Int32) : Option (Int32) := (if gi (0 + x0) 87 then (if gi (12 + x0) 87 then (if 0 ≤ ((t_s ((0 + x0)).toNatClampNeg) - (t_s ((12 + x0)).toNatClampNeg)) then some (((t_s ((0 + x0)).toNatClampNeg) - (t_s ((12 + x0)).toNatClampNeg))) else some (0)) else none) else none)
abbrev rm_X6_value : Room := { frames := 0, cells := 0, slots := 0, locals := 0 }
theorem cd_X6_value : (yX6_value).cls = RX6 ∧ (yX6_value).cls ≠ "java/lang/invoke/MethodHandle" ∧ (yX6_value).cls ≠ "java/lang/invoke/VarHandle" ∧ (parseMethodDescriptor (yX6_value).desc).map (fun d => d.parameters.length) = some 1 := by decide +kernel
set_option maxHeartbeats 4000000 in
set_option maxRecDepth 100000 in
theorem c_X6_value (l : Launch) (D : va_G) (cI cS : ClassId) (a_t a_t_s a_t_text a_t_told a_t_read a_t_before : Nat) (sz : Nat) (t_length : Int32) (t_spot : Int32) (t_undoMany : Int32) (t_shortAs : Int32) (t_isolatorAs : Int32) (t_worstWire : Int32) (t_worstLost : Int32) (t_s : FN) (x0 : Int32) (out : Int32) (h : f_X6_value t_s x0 = some out) : Met l yX6_value wsX6_value rm_X6_value (va_Pc [.ref a_t, .int x0] (GP D cI cS [(a_t, .inr (5, [.int t_length, .ref a_t_text, .int t_spot, .ref a_t_told, .ref a_t_read, .ref a_t_s, .ref a_t_before, .int t_undoMany, .int t_shortAs, .int t_isolatorAs, .int t_worstWire, .int t_worstLost])), (a_t_s, .inl (cI, 87, .inl t_s))] sz)) (QI D [(a_t, .inr (5, [.int t_length, .ref a_t_text, .int t_spot, .ref a_t_told, .ref a_t_read, .ref a_t_s, .ref a_t_before, .int t_undoMany, .int t_shortAs, .int t_isolatorAs, .int t_worstWire, .int t_worstLost])), (a_t_s, .inl (cI, 87, .inl t_s))] sz [(a_t, .inr (5, [.int t_length, .ref a_t_text, .int t_spot, .ref a_t_told, .ref a_t_read, .ref a_t_s, .ref a_t_before, .int t_undoMany, .int t_shortAs, .int t_isolatorAs, .int t_worstWire, .int t_worstLost])), (a_t_s, .inl (cI, 87, .inl t_s))] out) 0 0 (va_A [(a_t, .inr (5, [.int t_length, .ref a_t_text, .int t_spot, .ref a_t_told, .ref a_t_read, .ref a_t_s, .ref a_t_before, .int t_undoMany, .int t_shortAs, .int t_isolatorAs, .int t_worstWire, .int t_worstLost])), (a_t_s, .inl (cI, 87, .inl t_s))] sz) := by
  refine gm_i (cc := cX6_value) (maxL := 3) (rt := .int) (by decide) rfl (Nat.le_of_ble_eq_true rfl) ?_
  intro p e s m args below meth c A Q H locs ls hx hb hml hown hts hK hN hA hP hD hS hl hQ
  have hown : s.vm.findClass RX6 = some m.cls := hown
  have hl : lv_has ls 3 [(0, .ref a_t), (1, .int x0)] := hl
  have inX6 : ∀ w ∈ wsX60, w ∈ wsX6_value := by decide +kernel
  have k_0 := hts (.fieldLink RX6 19 "AlarmRingModel" "s" "[I") (by decide +kernel)
  unfold f_X6_value at h
  refine lv_aload_n hx hb dX6_value_0 rfl (lv_at hl 0 rfl) ?_
  refine va_get (D := D) (ci := 5) (v := .ref a_t_s) (C := RX6) (T := TX6) (N := 12) hx hb hts inX6 hown hK hP 0 rfl rfl 5 (by decide) k_0 (fun _ h9 => h9) rfl dX6_value_1 ?_
  refine lv_iconst (v := 0) hx hb dX6_value_4 (by decide) ?_
  refine lv_iload_n hx hb dX6_value_5 rfl (lv_at hl 1 rfl) ?_
  refine lv_iadd hx hb dX6_value_6 ?_
  obtain ⟨gg, h⟩ := og h
  refine va_iald hx hb hK hP 1 0 rfl rfl gg dX6_value_7 ?_
  refine lv_aload_n hx hb dX6_value_8 rfl (lv_at hl 0 rfl) ?_
  refine va_get (D := D) (ci := 5) (v := .ref a_t_s) (C := RX6) (T := TX6) (N := 12) hx hb hts inX6 hown hK hP 0 rfl rfl 5 (by decide) k_0 (fun _ h9 => h9) rfl dX6_value_9 ?_
  refine lv_bipush (v := 12) hx hb dX6_value_12 (by decide) ?_
  refine lv_iload_n hx hb dX6_value_14 rfl (lv_at hl 1 rfl) ?_
  refine lv_iadd hx hb dX6_value_15 ?_
  obtain ⟨gg, h⟩ := og h
  refine va_iald hx hb hK hP 1 0 rfl rfl gg dX6_value_16 ?_
  refine lv_isub hx hb dX6_value_17 ?_
  refine lv_istore_n (lv' := [(2, .int ((t_s ((0 + x0)).toNatClampNeg) - (t_s ((12 + x0)).toNatClampNeg))), (0, .ref a_t), (1, .int x0)]) hx hb dX6_value_18 rfl hl (by decide) rfl (fun ls hl => ?_)
  refine lv_iload_n hx hb dX6_value_19 rfl (lv_at hl 0 rfl) ?_
  refine lv_if_ge (tgt := 27) hx hb dX6_value_20 (by decide) (fun cc => ?_) (fun cc => ?_)
  · have h := oi_t cc h
    refine lv_iload_n hx hb dX6_value_27 rfl (lv_at hl 0 rfl) ?_
    obtain rfl := Option.some.inj h
    exact hQ 28 H locs ls rfl hP hD hS dX6_value_28
  · have h := oi_f cc h
    refine lv_iconst (v := 0) hx hb dX6_value_23 (by decide) ?_
    refine lv_goto (tgt := 28) hx hb dX6_value_24 (by decide) ?_
    obtain rfl := Option.some.inj h
    exact hQ 28 H locs ls rfl hP hD hS dX6_value_28

def f_X6_isSensor (t_told : FN) (x0 : Int32) : Option (Int32) := (if gi (3 * x0) 67 then (if 2 ≤ (t_told ((3 * x0)).toNatClampNeg) then some (0) else some (1)) else none)
abbrev rm_X6_isSensor : Room := { frames := 0, cells := 0, slots := 0, locals := 0 }
theorem cd_X6_isSensor : (yX6_isSensor).cls = RX6 ∧ (yX6_isSensor).cls ≠ "java/lang/invoke/MethodHandle" ∧ (yX6_isSensor).cls ≠ "java/lang/invoke/VarHandle" ∧ (parseMethodDescriptor (yX6_isSensor).desc).map (fun d => d.parameters.length) = some 1 := by decide +kernel
set_option maxHeartbeats 4000000 in
set_option maxRecDepth 100000 in
theorem c_X6_isSensor (l : Launch) (D : va_G) (cI cS : ClassId) (a_t a_t_told a_t_text a_t_read a_t_s a_t_before : Nat) (sz : Nat) (t_length : Int32) (t_spot : Int32) (t_undoMany : Int32) (t_shortAs : Int32) (t_isolatorAs : Int32) (t_worstWire : Int32) (t_worstLost : Int32) (t_told : FN) (x0 : Int32) (out : Int32) (h : f_X6_isSensor t_told x0 = some out) : Met l yX6_isSensor wsX6_isSensor rm_X6_isSensor (va_Pc [.ref a_t, .int x0] (GP D cI cS [(a_t, .inr (5, [.int t_length, .ref a_t_text, .int t_spot, .ref a_t_told, .ref a_t_read, .ref a_t_s, .ref a_t_before, .int t_undoMany, .int t_shortAs, .int t_isolatorAs, .int t_worstWire, .int t_worstLost])), (a_t_told, .inl (cI, 67, .inl t_told))] sz)) (QI D [(a_t, .inr (5, [.int t_length, .ref a_t_text, .int t_spot, .ref a_t_told, .ref a_t_read, .ref a_t_s, .ref a_t_before, .int t_undoMany, .int t_shortAs, .int t_isolatorAs, .int t_worstWire, .int t_worstLost])), (a_t_told, .inl (cI, 67, .inl t_told))] sz [(a_t, .inr (5, [.int t_length, .ref a_t_text, .int t_spot, .ref a_t_told, .ref a_t_read, .ref a_t_s, .ref a_t_before, .int t_undoMany, .int t_shortAs, .int t_isolatorAs, .int t_worstWire, .int t_worstLost])), (a_t_told, .inl (cI, 67, .inl t_told))] out) 0 0 (va_A [(a_t, .inr (5, [.int t_length, .ref a_t_text, .int t_spot, .ref a_t_told, .ref a_t_read, .ref a_t_s, .ref a_t_before, .int t_undoMany, .int t_shortAs, .int t_isolatorAs, .int t_worstWire, .int t_worstLost])), (a_t_told, .inl (cI, 67, .inl t_told))] sz) := by
  refine gm_i (cc := cX6_isSensor) (maxL := 2) (rt := .boolean) (by decide) rfl (Nat.le_of_ble_eq_true rfl) ?_
  intro p e s m args below meth c A Q H locs ls hx hb hml hown hts hK hN hA hP hD hS hl hQ
  have hown : s.vm.findClass RX6 = some m.cls := hown
  have hl : lv_has ls 2 [(0, .ref a_t), (1, .int x0)] := hl
  have inX6 : ∀ w ∈ wsX60, w ∈ wsX6_isSensor := by decide +kernel
  have k_0 := hts (.fieldLink RX6 13 "AlarmRingModel" "told" "[I") (by decide +kernel)
  unfold f_X6_isSensor at h
  refine lv_aload_n hx hb dX6_isSensor_0 rfl (lv_at hl 0 rfl) ?_
  refine va_get (D := D) (ci := 5) (v := .ref a_t_told) (C := RX6) (T := TX6) (N := 12) hx hb hts inX6 hown hK hP 0 rfl rfl 3 (by decide) k_0 (fun _ h9 => h9) rfl dX6_isSensor_1 ?_
  refine lv_iconst (v := 3) hx hb dX6_isSensor_4 (by decide) ?_
  refine lv_iload_n hx hb dX6_isSensor_5 rfl (lv_at hl 1 rfl) ?_
  refine lv_imul hx hb dX6_isSensor_6 ?_
  obtain ⟨gg, h⟩ := og h
  refine va_iald hx hb hK hP 1 0 rfl rfl gg dX6_isSensor_7 ?_
  refine lv_iconst (v := 2) hx hb dX6_isSensor_8 (by decide) ?_
  refine lv_icmp_ge (tgt := 16) hx hb dX6_isSensor_9 (by decide) (fun cc => ?_) (fun cc => ?_)
  · have h := oi_t cc h
    refine lv_iconst (v := 0) hx hb dX6_isSensor_16 (by decide) ?_
    obtain rfl := Option.some.inj h
    exact hQ 17 H locs ls (nz (.inl rfl)) hP hD hS dX6_isSensor_17
  · have h := oi_f cc h
    refine lv_iconst (v := 1) hx hb dX6_isSensor_12 (by decide) ?_
    refine lv_goto (tgt := 17) hx hb dX6_isSensor_13 (by decide) ?_
    obtain rfl := Option.some.inj h
    exact hQ 17 H locs ls (nz (.inr rfl)) hP hD hS dX6_isSensor_17

def f_X6_isZone_2 (t_told : FN) (t_s : FN) (x0 : Int32) : Nat → Int32 → Option (Int32)
  | 0, _ => none
  | n + 1, v2 => (if (t_told (60 : Int32).toNatClampNeg) ≤ v2 then some (0) else (if gi ((3 * v2) + 1) 67 then (if (t_told (((3 * v2) + 1)).toNatClampNeg) = x0 then (if gi (36 + v2) 87 then (if (t_s ((36 + v2)).toNatClampNeg) = 1 then some (1) else f_X6_isZone_2 t_told t_s x0 n (v2 + 1)) else none) else f_X6_isZone_2 t_told t_s x0 n (v2 + 1)) else none))
def f_X6_isZone (t_told : FN) (t_s : FN) (x0 : Int32) : Option (Int32) := f_X6_isZone_2 t_told t_s x0 1000 0
abbrev rm_X6_isZone : Room := { frames := 0, cells := 0, slots := 0, locals := 0 }
theorem cd_X6_isZone : (yX6_isZone).cls = RX6 ∧ (yX6_isZone).cls ≠ "java/lang/invoke/MethodHandle" ∧ (yX6_isZone).cls ≠ "java/lang/invoke/VarHandle" ∧ (parseMethodDescriptor (yX6_isZone).desc).map (fun d => d.parameters.length) = some 1 := by decide +kernel
set_option maxHeartbeats 4000000 in
set_option maxRecDepth 100000 in
theorem c_X6_isZone (l : Launch) (D : va_G) (cI cS : ClassId) (a_t a_t_told a_t_s a_t_text a_t_read a_t_before : Nat) (sz : Nat) (t_length : Int32) (t_spot : Int32) (t_undoMany : Int32) (t_shortAs : Int32) (t_isolatorAs : Int32) (t_worstWire : Int32) (t_worstLost : Int32) (t_told : FN) (t_s : FN) (x0 : Int32) (out : Int32) (h : f_X6_isZone t_told t_s x0 = some out) : Met l yX6_isZone wsX6_isZone rm_X6_isZone (va_Pc [.ref a_t, .int x0] (GP D cI cS [(a_t, .inr (5, [.int t_length, .ref a_t_text, .int t_spot, .ref a_t_told, .ref a_t_read, .ref a_t_s, .ref a_t_before, .int t_undoMany, .int t_shortAs, .int t_isolatorAs, .int t_worstWire, .int t_worstLost])), (a_t_told, .inl (cI, 67, .inl t_told)), (a_t_s, .inl (cI, 87, .inl t_s))] sz)) (QI D [(a_t, .inr (5, [.int t_length, .ref a_t_text, .int t_spot, .ref a_t_told, .ref a_t_read, .ref a_t_s, .ref a_t_before, .int t_undoMany, .int t_shortAs, .int t_isolatorAs, .int t_worstWire, .int t_worstLost])), (a_t_told, .inl (cI, 67, .inl t_told)), (a_t_s, .inl (cI, 87, .inl t_s))] sz [(a_t, .inr (5, [.int t_length, .ref a_t_text, .int t_spot, .ref a_t_told, .ref a_t_read, .ref a_t_s, .ref a_t_before, .int t_undoMany, .int t_shortAs, .int t_isolatorAs, .int t_worstWire, .int t_worstLost])), (a_t_told, .inl (cI, 67, .inl t_told)), (a_t_s, .inl (cI, 87, .inl t_s))] out) 0 0 (va_A [(a_t, .inr (5, [.int t_length, .ref a_t_text, .int t_spot, .ref a_t_told, .ref a_t_read, .ref a_t_s, .ref a_t_before, .int t_undoMany, .int t_shortAs, .int t_isolatorAs, .int t_worstWire, .int t_worstLost])), (a_t_told, .inl (cI, 67, .inl t_told)), (a_t_s, .inl (cI, 87, .inl t_s))] sz) := by
  refine gm_i (cc := cX6_isZone) (maxL := 3) (rt := .boolean) (by decide) rfl (Nat.le_of_ble_eq_true rfl) ?_
  intro p e s m args below meth c A Q H locs ls hx hb hml hown hts hK hN hA hP hD hS hl hQ
  have hown : s.vm.findClass RX6 = some m.cls := hown
  have hl : lv_has ls 3 [(0, .ref a_t), (1, .int x0)] := hl
  have inX6 : ∀ w ∈ wsX60, w ∈ wsX6_isZone := by decide +kernel
  have k_0 := hts (.fieldLink RX6 13 "AlarmRingModel" "told" "[I") (by decide +kernel)
  have k_1 := hts (.fieldLink RX6 19 "AlarmRingModel" "s" "[I") (by decide +kernel)
  have lp2 : ∀ (n : Nat) (v2 : Int32) (H : Heap) (locs : List Loc) (ls : Array Slot), va_P D vwCl [(a_t, .inr (5, [.int t_length, .ref a_t_text, .int t_spot, .ref a_t_told, .ref a_t_read, .ref a_t_s, .ref a_t_before, .int t_undoMany, .int t_shortAs, .int t_isolatorAs, .int t_worstWire, .int t_worstLost])), (a_t_told, .inl (cI, 67, .inl t_told)), (a_t_s, .inl (cI, 87, .inl t_s))] H → va_D A [(a_t, .inr (5, [.int t_length, .ref a_t_text, .int t_spot, .ref a_t_told, .ref a_t_read, .ref a_t_s, .ref a_t_before, .int t_undoMany, .int t_shortAs, .int t_isolatorAs, .int t_worstWire, .int t_worstLost])), (a_t_told, .inl (cI, 67, .inl t_told)), (a_t_s, .inl (cI, 87, .inl t_s))] → va_S A s.heap H locs → lv_has ls 3 [(0, .ref a_t), (1, .int x0), (2, .int v2)] → f_X6_isZone_2 t_told t_s x0 n v2 = some out → W p l e rm_X6_isZone s m args below meth c H locs 0 0 Q (F0 m 2 ls []) := by
    intro n
    induction n with
    | zero => intro v2 H locs ls hP hD hS hl h; exact on_ h
    | succ n ih =>
      intro v2 H locs ls hP hD hS hl h
      rw [f_X6_isZone_2] at h
      refine lv_iload_n hx hb dX6_isZone_2 rfl (lv_at hl 2 rfl) ?_
      refine lv_aload_n hx hb dX6_isZone_3 rfl (lv_at hl 0 rfl) ?_
      refine va_get (D := D) (ci := 5) (v := .ref a_t_told) (C := RX6) (T := TX6) (N := 12) hx hb hts inX6 hown hK hP 0 rfl rfl 3 (by decide) k_0 (fun _ h9 => h9) rfl dX6_isZone_4 ?_
      refine lv_bipush (v := 60) hx hb dX6_isZone_7 (by decide) ?_
      refine va_iald hx hb hK hP 1 0 rfl rfl (i := 60) (show gi 60 67 by decide) dX6_isZone_9 ?_
      refine lv_icmp_ge (tgt := 48) hx hb dX6_isZone_10 (by decide) (fun cc => ?_) (fun cc => ?_)
      · have h := oi_t cc h
        refine lv_iconst (v := 0) hx hb dX6_isZone_48 (by decide) ?_
        obtain rfl := Option.some.inj h
        exact hQ 49 H locs ls (nz (.inl rfl)) hP hD hS dX6_isZone_49
      · have h := oi_f cc h
        refine lv_aload_n hx hb dX6_isZone_13 rfl (lv_at hl 0 rfl) ?_
        refine va_get (D := D) (ci := 5) (v := .ref a_t_told) (C := RX6) (T := TX6) (N := 12) hx hb hts inX6 hown hK hP 0 rfl rfl 3 (by decide) k_0 (fun _ h9 => h9) rfl dX6_isZone_14 ?_
        refine lv_iconst (v := 3) hx hb dX6_isZone_17 (by decide) ?_
        refine lv_iload_n hx hb dX6_isZone_18 rfl (lv_at hl 2 rfl) ?_
        refine lv_imul hx hb dX6_isZone_19 ?_
        refine lv_iconst (v := 1) hx hb dX6_isZone_20 (by decide) ?_
        refine lv_iadd hx hb dX6_isZone_21 ?_
        obtain ⟨gg, h⟩ := og h
        refine va_iald hx hb hK hP 1 0 rfl rfl gg dX6_isZone_22 ?_
        refine lv_iload_n hx hb dX6_isZone_23 rfl (lv_at hl 1 rfl) ?_
        refine lv_icmp_ne (tgt := 42) hx hb dX6_isZone_24 (by decide) (fun cc => ?_) (fun cc => ?_)
        · have h := oi_f cc h
          refine lv_iinc (v := (v2 + 1)) (lv' := [(2, .int (v2 + 1)), (0, .ref a_t), (1, .int x0)]) hx hb dX6_isZone_42 hl (k := 2) rfl (by first | rfl | decide) (by decide) rfl (fun ls hl => ?_)
          refine lv_goto (tgt := 2) hx hb dX6_isZone_45 (by decide) ?_
          exact ih (v2 + 1) H locs ls hP hD hS (lv_sub hl [1, 2, 0] rfl) h
        · have h := oi_t cc h
          refine lv_aload_n hx hb dX6_isZone_27 rfl (lv_at hl 0 rfl) ?_
          refine va_get (D := D) (ci := 5) (v := .ref a_t_s) (C := RX6) (T := TX6) (N := 12) hx hb hts inX6 hown hK hP 0 rfl rfl 5 (by decide) k_1 (fun _ h9 => h9) rfl dX6_isZone_28 ?_
          refine lv_bipush (v := 36) hx hb dX6_isZone_31 (by decide) ?_
          refine lv_iload_n hx hb dX6_isZone_33 rfl (lv_at hl 2 rfl) ?_
          refine lv_iadd hx hb dX6_isZone_34 ?_
          obtain ⟨gg, h⟩ := og h
          refine va_iald hx hb hK hP 2 0 rfl rfl gg dX6_isZone_35 ?_
          refine lv_iconst (v := 1) hx hb dX6_isZone_36 (by decide) ?_
          refine lv_icmp_ne (tgt := 42) hx hb dX6_isZone_37 (by decide) (fun cc => ?_) (fun cc => ?_)
          · have h := oi_f cc h
            refine lv_iinc (v := (v2 + 1)) (lv' := [(2, .int (v2 + 1)), (0, .ref a_t), (1, .int x0)]) hx hb dX6_isZone_42 hl (k := 2) rfl (by first | rfl | decide) (by decide) rfl (fun ls hl => ?_)
            refine lv_goto (tgt := 2) hx hb dX6_isZone_45 (by decide) ?_
            exact ih (v2 + 1) H locs ls hP hD hS (lv_sub hl [1, 2, 0] rfl) h
          · have h := oi_t cc h
            refine lv_iconst (v := 1) hx hb dX6_isZone_40 (by decide) ?_
            obtain rfl := Option.some.inj h
            exact hQ 41 H locs ls (nz (.inr rfl)) hP hD hS dX6_isZone_41
  unfold f_X6_isZone at h
  refine lv_iconst (v := 0) hx hb dX6_isZone_0 (by decide) ?_
  refine lv_istore_n (lv' := [(2, .int 0), (0, .ref a_t), (1, .int x0)]) hx hb dX6_isZone_1 rfl hl (by decide) rfl (fun ls hl => ?_)
  exact lp2 1000 0 H locs ls hP hD hS (lv_sub hl [1, 2, 0] rfl) h

def f_X6_isWanted_22 (t_told : FN) (t_s : FN) (x0 : Int32) : Nat → Int32 → Int32 → Int32 → Option (Int32 × Int32)
  | 0, _, _, _ => none
  | n + 1, v3, v4, v5 => (if 6 ≤ v5 then some (v3, v4) else (if (((t_told (((36 + (4 * x0)) + 1)).toNatClampNeg) >>> (v5 &&& 31)) &&& 1) = 1 then ((f_X6_isZone t_told t_s v5).bind (fun u53 => (if u53 = 0 then f_X6_isWanted_22 t_told t_s x0 n (v3 + (((t_told (((36 + (4 * x0)) + 1)).toNatClampNeg) >>> (v5 &&& 31)) &&& 1)) (v4 + 0) (v5 + 1) else f_X6_isWanted_22 t_told t_s x0 n (v3 + (((t_told (((36 + (4 * x0)) + 1)).toNatClampNeg) >>> (v5 &&& 31)) &&& 1)) (v4 + 1) (v5 + 1)))) else f_X6_isWanted_22 t_told t_s x0 n (v3 + (((t_told (((36 + (4 * x0)) + 1)).toNatClampNeg) >>> (v5 &&& 31)) &&& 1)) (v4 + 0) (v5 + 1)))
def f_X6_isWanted (t_told : FN) (t_s : FN) (x0 : Int32) : Option (Int32) := (if gi ((36 + (4 * x0)) + 1) 67 then ((f_X6_isWanted_22 t_told t_s x0 1000 0 0 0).bind (fun (q22 : Int32 × Int32) => (if gi (36 + (4 * x0)) 67 then (if (t_told ((36 + (4 * x0))).toNatClampNeg) = 0 then (if q22.2 ≤ 0 then some (0) else some (1)) else (if (t_told ((36 + (4 * x0))).toNatClampNeg) = 1 then (if q22.2 = q22.1 then some (1) else some (0)) else (if q22.2 ≤ 1 then some (0) else some (1)))) else none))) else none)
abbrev rm_X6_isWanted : Room := { frames := 1, cells := 0, slots := 0, locals := 22 }
theorem cd_X6_isWanted : (yX6_isWanted).cls = RX6 ∧ (yX6_isWanted).cls ≠ "java/lang/invoke/MethodHandle" ∧ (yX6_isWanted).cls ≠ "java/lang/invoke/VarHandle" ∧ (parseMethodDescriptor (yX6_isWanted).desc).map (fun d => d.parameters.length) = some 1 := by decide +kernel
set_option maxHeartbeats 4000000 in
set_option maxRecDepth 100000 in
theorem c_X6_isWanted (l : Launch) (D : va_G) (cI cS : ClassId) (a_t a_t_told a_t_s a_t_text a_t_read a_t_before : Nat) (sz : Nat) (t_length : Int32) (t_spot : Int32) (t_undoMany : Int32) (t_shortAs : Int32) (t_isolatorAs : Int32) (t_worstWire : Int32) (t_worstLost : Int32) (t_told : FN) (t_s : FN) (x0 : Int32) (out : Int32) (h : f_X6_isWanted t_told t_s x0 = some out) : Met l yX6_isWanted wsX6_isWanted rm_X6_isWanted (va_Pc [.ref a_t, .int x0] (GP D cI cS [(a_t, .inr (5, [.int t_length, .ref a_t_text, .int t_spot, .ref a_t_told, .ref a_t_read, .ref a_t_s, .ref a_t_before, .int t_undoMany, .int t_shortAs, .int t_isolatorAs, .int t_worstWire, .int t_worstLost])), (a_t_told, .inl (cI, 67, .inl t_told)), (a_t_s, .inl (cI, 87, .inl t_s))] sz)) (QI D [(a_t, .inr (5, [.int t_length, .ref a_t_text, .int t_spot, .ref a_t_told, .ref a_t_read, .ref a_t_s, .ref a_t_before, .int t_undoMany, .int t_shortAs, .int t_isolatorAs, .int t_worstWire, .int t_worstLost])), (a_t_told, .inl (cI, 67, .inl t_told)), (a_t_s, .inl (cI, 87, .inl t_s))] sz [(a_t, .inr (5, [.int t_length, .ref a_t_text, .int t_spot, .ref a_t_told, .ref a_t_read, .ref a_t_s, .ref a_t_before, .int t_undoMany, .int t_shortAs, .int t_isolatorAs, .int t_worstWire, .int t_worstLost])), (a_t_told, .inl (cI, 67, .inl t_told)), (a_t_s, .inl (cI, 87, .inl t_s))] out) 0 0 (va_A [(a_t, .inr (5, [.int t_length, .ref a_t_text, .int t_spot, .ref a_t_told, .ref a_t_read, .ref a_t_s, .ref a_t_before, .int t_undoMany, .int t_shortAs, .int t_isolatorAs, .int t_worstWire, .int t_worstLost])), (a_t_told, .inl (cI, 67, .inl t_told)), (a_t_s, .inl (cI, 87, .inl t_s))] sz) := by
  refine gm_i (cc := cX6_isWanted) (maxL := 6) (rt := .boolean) (by decide) rfl (Nat.le_of_ble_eq_true rfl) ?_
  intro p e s m args below meth c A Q H locs ls hx hb hml hown hts hK hN hA hP hD hS hl hQ
  have hown : s.vm.findClass RX6 = some m.cls := hown
  have hl : lv_has ls 6 [(0, .ref a_t), (1, .int x0)] := hl
  have inX6 : ∀ w ∈ wsX60, w ∈ wsX6_isWanted := by decide +kernel
  have k_0 := hts (.fieldLink RX6 13 "AlarmRingModel" "told" "[I") (by decide +kernel)
  unfold f_X6_isWanted at h
  refine lv_aload_n hx hb dX6_isWanted_0 rfl (lv_at hl 0 rfl) ?_
  refine va_get (D := D) (ci := 5) (v := .ref a_t_told) (C := RX6) (T := TX6) (N := 12) hx hb hts inX6 hown hK hP 0 rfl rfl 3 (by decide) k_0 (fun _ h9 => h9) rfl dX6_isWanted_1 ?_
  refine lv_bipush (v := 36) hx hb dX6_isWanted_4 (by decide) ?_
  refine lv_iconst (v := 4) hx hb dX6_isWanted_6 (by decide) ?_
  refine lv_iload_n hx hb dX6_isWanted_7 rfl (lv_at hl 1 rfl) ?_
  refine lv_imul hx hb dX6_isWanted_8 ?_
  refine lv_iadd hx hb dX6_isWanted_9 ?_
  refine lv_iconst (v := 1) hx hb dX6_isWanted_10 (by decide) ?_
  refine lv_iadd hx hb dX6_isWanted_11 ?_
  obtain ⟨gg, h⟩ := og h
  refine va_iald hx hb hK hP 1 0 rfl rfl gg dX6_isWanted_12 ?_
  refine lv_istore_n (lv' := [(2, .int (t_told (((36 + (4 * x0)) + 1)).toNatClampNeg)), (0, .ref a_t), (1, .int x0)]) hx hb dX6_isWanted_13 rfl hl (by decide) rfl (fun ls hl => ?_)
  refine lv_iconst (v := 0) hx hb dX6_isWanted_14 (by decide) ?_
  refine lv_istore_n (lv' := [(3, .int 0), (2, .int (t_told (((36 + (4 * x0)) + 1)).toNatClampNeg)), (0, .ref a_t), (1, .int x0)]) hx hb dX6_isWanted_15 rfl hl (by decide) rfl (fun ls hl => ?_)
  refine lv_iconst (v := 0) hx hb dX6_isWanted_16 (by decide) ?_
  refine lv_istore (lv' := [(4, .int 0), (3, .int 0), (2, .int (t_told (((36 + (4 * x0)) + 1)).toNatClampNeg)), (0, .ref a_t), (1, .int x0)]) hx hb dX6_isWanted_17 hl (by decide) rfl (fun ls hl => ?_)
  refine lv_iconst (v := 0) hx hb dX6_isWanted_19 (by decide) ?_
  refine lv_istore (lv' := [(5, .int 0), (4, .int 0), (3, .int 0), (2, .int (t_told (((36 + (4 * x0)) + 1)).toNatClampNeg)), (0, .ref a_t), (1, .int x0)]) hx hb dX6_isWanted_20 hl (by decide) rfl (fun ls hl => ?_)
  obtain ⟨q22, hq22, h⟩ := ob h
  have lp22 : ∀ (n : Nat) (v3 : Int32) (v4 : Int32) (v5 : Int32) (H : Heap) (locs : List Loc) (ls : Array Slot), va_P D vwCl [(a_t, .inr (5, [.int t_length, .ref a_t_text, .int t_spot, .ref a_t_told, .ref a_t_read, .ref a_t_s, .ref a_t_before, .int t_undoMany, .int t_shortAs, .int t_isolatorAs, .int t_worstWire, .int t_worstLost])), (a_t_told, .inl (cI, 67, .inl t_told)), (a_t_s, .inl (cI, 87, .inl t_s))] H → va_D A [(a_t, .inr (5, [.int t_length, .ref a_t_text, .int t_spot, .ref a_t_told, .ref a_t_read, .ref a_t_s, .ref a_t_before, .int t_undoMany, .int t_shortAs, .int t_isolatorAs, .int t_worstWire, .int t_worstLost])), (a_t_told, .inl (cI, 67, .inl t_told)), (a_t_s, .inl (cI, 87, .inl t_s))] → va_S A s.heap H locs → lv_has ls 6 [(0, .ref a_t), (1, .int x0), (2, .int (t_told (((36 + (4 * x0)) + 1)).toNatClampNeg)), (3, .int v3), (4, .int v4), (5, .int v5)] → ∀ (q22 : Int32 × Int32), f_X6_isWanted_22 t_told t_s x0 n v3 v4 v5 = some q22 → (∀ (H : Heap) (locs : List Loc) (ls : Array Slot), va_P D vwCl [(a_t, .inr (5, [.int t_length, .ref a_t_text, .int t_spot, .ref a_t_told, .ref a_t_read, .ref a_t_s, .ref a_t_before, .int t_undoMany, .int t_shortAs, .int t_isolatorAs, .int t_worstWire, .int t_worstLost])), (a_t_told, .inl (cI, 67, .inl t_told)), (a_t_s, .inl (cI, 87, .inl t_s))] H → va_D A [(a_t, .inr (5, [.int t_length, .ref a_t_text, .int t_spot, .ref a_t_told, .ref a_t_read, .ref a_t_s, .ref a_t_before, .int t_undoMany, .int t_shortAs, .int t_isolatorAs, .int t_worstWire, .int t_worstLost])), (a_t_told, .inl (cI, 67, .inl t_told)), (a_t_s, .inl (cI, 87, .inl t_s))] → va_S A s.heap H locs → lv_has ls 6 [(0, .ref a_t), (1, .int x0), (3, .int q22.1), (4, .int q22.2)] → W p l e rm_X6_isWanted s m args below meth c H locs 0 0 Q (F0 m 73 ls [])) → W p l e rm_X6_isWanted s m args below meth c H locs 0 0 Q (F0 m 22 ls []) := by
    intro n
    induction n with
    | zero => intro v3 v4 v5 H locs ls hP hD hS hl q22 h kk; exact on_ h
    | succ n ih =>
      intro v3 v4 v5 H locs ls hP hD hS hl q22 h kk
      rw [f_X6_isWanted_22] at h
      refine lv_iload hx hb dX6_isWanted_22 (lv_at hl 5 rfl) ?_
      refine lv_bipush (v := 6) hx hb dX6_isWanted_24 (by decide) ?_
      refine lv_icmp_ge (tgt := 73) hx hb dX6_isWanted_26 (by decide) (fun cc => ?_) (fun cc => ?_)
      · have h := oi_t cc h
        obtain rfl := Option.some.inj h
        exact kk H locs ls hP hD hS (lv_sub hl [0, 1, 3, 4] rfl)
      · have h := oi_f cc h
        refine lv_iload_n hx hb dX6_isWanted_29 rfl (lv_at hl 3 rfl) ?_
        refine lv_iload_n hx hb dX6_isWanted_30 rfl (lv_at hl 2 rfl) ?_
        refine lv_iload hx hb dX6_isWanted_31 (lv_at hl 5 rfl) ?_
        refine lv_ishr hx hb dX6_isWanted_33 ?_
        refine lv_iconst (v := 1) hx hb dX6_isWanted_34 (by decide) ?_
        refine lv_iand hx hb dX6_isWanted_35 ?_
        refine lv_iadd hx hb dX6_isWanted_36 ?_
        refine lv_istore_n (lv' := [(3, .int (v3 + (((t_told (((36 + (4 * x0)) + 1)).toNatClampNeg) >>> (v5 &&& 31)) &&& 1))), (0, .ref a_t), (1, .int x0), (2, .int (t_told (((36 + (4 * x0)) + 1)).toNatClampNeg)), (4, .int v4), (5, .int v5)]) hx hb dX6_isWanted_37 rfl hl (by decide) rfl (fun ls hl => ?_)
        refine lv_iload hx hb dX6_isWanted_38 (lv_at hl 4 rfl) ?_
        refine lv_iload_n hx hb dX6_isWanted_40 rfl (lv_at hl 3 rfl) ?_
        refine lv_iload hx hb dX6_isWanted_41 (lv_at hl 5 rfl) ?_
        refine lv_ishr hx hb dX6_isWanted_43 ?_
        refine lv_iconst (v := 1) hx hb dX6_isWanted_44 (by decide) ?_
        refine lv_iand hx hb dX6_isWanted_45 ?_
        refine lv_iconst (v := 1) hx hb dX6_isWanted_46 (by decide) ?_
        refine lv_icmp_ne (tgt := 63) hx hb dX6_isWanted_47 (by decide) (fun cc => ?_) (fun cc => ?_)
        · have h := oi_f cc h
          refine lv_iconst (v := 0) hx hb dX6_isWanted_63 (by decide) ?_
          refine lv_iadd hx hb dX6_isWanted_64 ?_
          refine lv_istore (lv' := [(4, .int (v4 + 0)), (3, .int (v3 + (((t_told (((36 + (4 * x0)) + 1)).toNatClampNeg) >>> (v5 &&& 31)) &&& 1))), (0, .ref a_t), (1, .int x0), (2, .int (t_told (((36 + (4 * x0)) + 1)).toNatClampNeg)), (5, .int v5)]) hx hb dX6_isWanted_65 hl (by decide) rfl (fun ls hl => ?_)
          refine lv_iinc (v := (v5 + 1)) (lv' := [(5, .int (v5 + 1)), (4, .int (v4 + 0)), (3, .int (v3 + (((t_told (((36 + (4 * x0)) + 1)).toNatClampNeg) >>> (v5 &&& 31)) &&& 1))), (0, .ref a_t), (1, .int x0), (2, .int (t_told (((36 + (4 * x0)) + 1)).toNatClampNeg))]) hx hb dX6_isWanted_67 hl (k := 5) rfl (by first | rfl | decide) (by decide) rfl (fun ls hl => ?_)
          refine lv_goto (tgt := 22) hx hb dX6_isWanted_70 (by decide) ?_
          exact ih (v3 + (((t_told (((36 + (4 * x0)) + 1)).toNatClampNeg) >>> (v5 &&& 31)) &&& 1)) (v4 + 0) (v5 + 1) H locs ls hP hD hS (lv_sub hl [3, 4, 5, 2, 1, 0] rfl) q22 h kk
        · have h := oi_t cc h
          refine lv_aload_n hx hb dX6_isWanted_50 rfl (lv_at hl 1 rfl) ?_
          refine lv_iload hx hb dX6_isWanted_51 (lv_at hl 5 rfl) ?_
          obtain ⟨u53, hu53, h⟩ := ob h
          refine gV_i (C := RX6) (T := TX6) (N := 12) (ci := 5) (q0 := 0) (wc := [(a_t, .inr (5, [.int t_length, .ref a_t_text, .int t_spot, .ref a_t_told, .ref a_t_read, .ref a_t_s, .ref a_t_before, .int t_undoMany, .int t_shortAs, .int t_isolatorAs, .int t_worstWire, .int t_worstLost])), (a_t_told, .inl (cI, 67, .inl t_told)), (a_t_s, .inl (cI, 87, .inl t_s))]) (wr := []) (w1 := [(a_t, .inr (5, [.int t_length, .ref a_t_text, .int t_spot, .ref a_t_told, .ref a_t_read, .ref a_t_s, .ref a_t_before, .int t_undoMany, .int t_shortAs, .int t_isolatorAs, .int t_worstWire, .int t_worstLost])), (a_t_told, .inl (cI, 67, .inl t_told)), (a_t_s, .inl (cI, 87, .inl t_s))]) (v := u53) (As := [.int v5]) (rest := [.int v4]) ⟨hx, hb, hml, hown, hts⟩ (c_X6_isZone l D cI cS a_t a_t_told a_t_s a_t_text a_t_read a_t_before H.size t_length t_spot t_undoMany t_shortAs t_isolatorAs t_worstWire t_worstLost t_told t_s v5 u53 hu53) (cwV 1 hts gX6_isWanted_X6_isZone rfl rfl rfl cd_X6_isZone ⟨Nat.le_of_ble_eq_true rfl, Nat.le_of_ble_eq_true rfl⟩) hK hN hP hD hS hA [0, 1, 2] [] rfl rfl (by decide) (by decide) (by decide) rfl rfl rfl hl.1 rfl (Nat.le_of_ble_eq_true rfl) dX6_isWanted_53 ⟨Nat.zero_le _, Nat.zero_le _⟩ (fun H locs hP hD hS => ?_)
          have hP : va_P D vwCl [(a_t, .inr (5, [.int t_length, .ref a_t_text, .int t_spot, .ref a_t_told, .ref a_t_read, .ref a_t_s, .ref a_t_before, .int t_undoMany, .int t_shortAs, .int t_isolatorAs, .int t_worstWire, .int t_worstLost])), (a_t_told, .inl (cI, 67, .inl t_told)), (a_t_s, .inl (cI, 87, .inl t_s))] H := hP
          have hD : va_D A [(a_t, .inr (5, [.int t_length, .ref a_t_text, .int t_spot, .ref a_t_told, .ref a_t_read, .ref a_t_s, .ref a_t_before, .int t_undoMany, .int t_shortAs, .int t_isolatorAs, .int t_worstWire, .int t_worstLost])), (a_t_told, .inl (cI, 67, .inl t_told)), (a_t_s, .inl (cI, 87, .inl t_s))] := hD
          refine lv_if_eq (tgt := 63) hx hb dX6_isWanted_56 (by decide) (fun cc => ?_) (fun cc => ?_)
          · have h := oi_t cc h
            refine lv_iconst (v := 0) hx hb dX6_isWanted_63 (by decide) ?_
            refine lv_iadd hx hb dX6_isWanted_64 ?_
            refine lv_istore (lv' := [(4, .int (v4 + 0)), (3, .int (v3 + (((t_told (((36 + (4 * x0)) + 1)).toNatClampNeg) >>> (v5 &&& 31)) &&& 1))), (0, .ref a_t), (1, .int x0), (2, .int (t_told (((36 + (4 * x0)) + 1)).toNatClampNeg)), (5, .int v5)]) hx hb dX6_isWanted_65 hl (by decide) rfl (fun ls hl => ?_)
            refine lv_iinc (v := (v5 + 1)) (lv' := [(5, .int (v5 + 1)), (4, .int (v4 + 0)), (3, .int (v3 + (((t_told (((36 + (4 * x0)) + 1)).toNatClampNeg) >>> (v5 &&& 31)) &&& 1))), (0, .ref a_t), (1, .int x0), (2, .int (t_told (((36 + (4 * x0)) + 1)).toNatClampNeg))]) hx hb dX6_isWanted_67 hl (k := 5) rfl (by first | rfl | decide) (by decide) rfl (fun ls hl => ?_)
            refine lv_goto (tgt := 22) hx hb dX6_isWanted_70 (by decide) ?_
            exact ih (v3 + (((t_told (((36 + (4 * x0)) + 1)).toNatClampNeg) >>> (v5 &&& 31)) &&& 1)) (v4 + 0) (v5 + 1) H locs ls hP hD hS (lv_sub hl [3, 4, 5, 2, 1, 0] rfl) q22 h kk
          · have h := oi_f cc h
            refine lv_iconst (v := 1) hx hb dX6_isWanted_59 (by decide) ?_
            refine lv_goto (tgt := 64) hx hb dX6_isWanted_60 (by decide) ?_
            refine lv_iadd hx hb dX6_isWanted_64 ?_
            refine lv_istore (lv' := [(4, .int (v4 + 1)), (3, .int (v3 + (((t_told (((36 + (4 * x0)) + 1)).toNatClampNeg) >>> (v5 &&& 31)) &&& 1))), (0, .ref a_t), (1, .int x0), (2, .int (t_told (((36 + (4 * x0)) + 1)).toNatClampNeg)), (5, .int v5)]) hx hb dX6_isWanted_65 hl (by decide) rfl (fun ls hl => ?_)
            refine lv_iinc (v := (v5 + 1)) (lv' := [(5, .int (v5 + 1)), (4, .int (v4 + 1)), (3, .int (v3 + (((t_told (((36 + (4 * x0)) + 1)).toNatClampNeg) >>> (v5 &&& 31)) &&& 1))), (0, .ref a_t), (1, .int x0), (2, .int (t_told (((36 + (4 * x0)) + 1)).toNatClampNeg))]) hx hb dX6_isWanted_67 hl (k := 5) rfl (by first | rfl | decide) (by decide) rfl (fun ls hl => ?_)
            refine lv_goto (tgt := 22) hx hb dX6_isWanted_70 (by decide) ?_
            exact ih (v3 + (((t_told (((36 + (4 * x0)) + 1)).toNatClampNeg) >>> (v5 &&& 31)) &&& 1)) (v4 + 1) (v5 + 1) H locs ls hP hD hS (lv_sub hl [3, 4, 5, 2, 1, 0] rfl) q22 h kk
  refine lp22 1000 0 0 0 H locs ls hP hD hS (lv_sub hl [4, 5, 3, 2, 1, 0] rfl) q22 hq22 (fun H locs ls hP hD hS hl => ?_)
  refine lv_aload_n hx hb dX6_isWanted_73 rfl (lv_at hl 0 rfl) ?_
  refine va_get (D := D) (ci := 5) (v := .ref a_t_told) (C := RX6) (T := TX6) (N := 12) hx hb hts inX6 hown hK hP 0 rfl rfl 3 (by decide) k_0 (fun _ h9 => h9) rfl dX6_isWanted_74 ?_
  refine lv_bipush (v := 36) hx hb dX6_isWanted_77 (by decide) ?_
  refine lv_iconst (v := 4) hx hb dX6_isWanted_79 (by decide) ?_
  refine lv_iload_n hx hb dX6_isWanted_80 rfl (lv_at hl 1 rfl) ?_
  refine lv_imul hx hb dX6_isWanted_81 ?_
  refine lv_iadd hx hb dX6_isWanted_82 ?_
  obtain ⟨gg, h⟩ := og h
  refine va_iald hx hb hK hP 1 0 rfl rfl gg dX6_isWanted_83 ?_
  refine lv_istore (lv' := [(5, .int (t_told ((36 + (4 * x0))).toNatClampNeg)), (0, .ref a_t), (1, .int x0), (3, .int q22.1), (4, .int q22.2)]) hx hb dX6_isWanted_84 hl (by decide) rfl (fun ls hl => ?_)
  refine lv_iload hx hb dX6_isWanted_86 (lv_at hl 0 rfl) ?_
  refine lv_if_ne (tgt := 104) hx hb dX6_isWanted_88 (by decide) (fun cc => ?_) (fun cc => ?_)
  · have h := oi_f cc h
    refine lv_iload hx hb dX6_isWanted_104 (lv_at hl 0 rfl) ?_
    refine lv_iconst (v := 1) hx hb dX6_isWanted_106 (by decide) ?_
    refine lv_icmp_ne (tgt := 124) hx hb dX6_isWanted_107 (by decide) (fun cc => ?_) (fun cc => ?_)
    · have h := oi_f cc h
      refine lv_iload hx hb dX6_isWanted_124 (lv_at hl 4 rfl) ?_
      refine lv_iconst (v := 1) hx hb dX6_isWanted_126 (by decide) ?_
      refine lv_icmp_le (tgt := 134) hx hb dX6_isWanted_127 (by decide) (fun cc => ?_) (fun cc => ?_)
      · have h := oi_t cc h
        refine lv_iconst (v := 0) hx hb dX6_isWanted_134 (by decide) ?_
        obtain rfl := Option.some.inj h
        exact hQ 135 H locs ls (nz (.inl rfl)) hP hD hS dX6_isWanted_135
      · have h := oi_f cc h
        refine lv_iconst (v := 1) hx hb dX6_isWanted_130 (by decide) ?_
        refine lv_goto (tgt := 135) hx hb dX6_isWanted_131 (by decide) ?_
        obtain rfl := Option.some.inj h
        exact hQ 135 H locs ls (nz (.inr rfl)) hP hD hS dX6_isWanted_135
    · have h := oi_t cc h
      refine lv_iload hx hb dX6_isWanted_110 (lv_at hl 4 rfl) ?_
      refine lv_iload_n hx hb dX6_isWanted_112 rfl (lv_at hl 3 rfl) ?_
      refine lv_icmp_ne (tgt := 120) hx hb dX6_isWanted_113 (by decide) (fun cc => ?_) (fun cc => ?_)
      · have h := oi_f cc h
        refine lv_iconst (v := 0) hx hb dX6_isWanted_120 (by decide) ?_
        refine lv_goto (tgt := 135) hx hb dX6_isWanted_121 (by decide) ?_
        obtain rfl := Option.some.inj h
        exact hQ 135 H locs ls (nz (.inl rfl)) hP hD hS dX6_isWanted_135
      · have h := oi_t cc h
        refine lv_iconst (v := 1) hx hb dX6_isWanted_116 (by decide) ?_
        refine lv_goto (tgt := 135) hx hb dX6_isWanted_117 (by decide) ?_
        obtain rfl := Option.some.inj h
        exact hQ 135 H locs ls (nz (.inr rfl)) hP hD hS dX6_isWanted_135
  · have h := oi_t cc h
    refine lv_iload hx hb dX6_isWanted_91 (lv_at hl 4 rfl) ?_
    refine lv_if_le (tgt := 100) hx hb dX6_isWanted_93 (by decide) (fun cc => ?_) (fun cc => ?_)
    · have h := oi_t cc h
      refine lv_iconst (v := 0) hx hb dX6_isWanted_100 (by decide) ?_
      refine lv_goto (tgt := 135) hx hb dX6_isWanted_101 (by decide) ?_
      obtain rfl := Option.some.inj h
      exact hQ 135 H locs ls (nz (.inl rfl)) hP hD hS dX6_isWanted_135
    · have h := oi_f cc h
      refine lv_iconst (v := 1) hx hb dX6_isWanted_96 (by decide) ?_
      refine lv_goto (tgt := 135) hx hb dX6_isWanted_97 (by decide) ?_
      obtain rfl := Option.some.inj h
      exact hQ 135 H locs ls (nz (.inr rfl)) hP hD hS dX6_isWanted_135

def f_X6_feels (t_told : FN) (t_s : FN) (x0 : Int32) : Option (Int32 × FN) := (if gi (3 * x0) 67 then ((f_X6_value t_s x0).bind (fun u11 => (((if (t_told ((3 * x0)).toNatClampNeg) = 0 then (if u11 < (t_told (63 : Int32).toNatClampNeg) then (if gi (24 + x0) 87 then some ((upd t_s ((24 + x0)).toNatClampNeg 0)) else none) else (if gi (24 + x0) 87 then (if gi (24 + x0) 87 then some ((upd t_s ((24 + x0)).toNatClampNeg ((t_s ((24 + x0)).toNatClampNeg) + 1))) else none) else none)) else some (t_s))).bind (fun (u54 : FN) => (((if (t_told ((3 * x0)).toNatClampNeg) = 0 then (if gi (24 + x0) 87 then (if (u54 ((24 + x0)).toNatClampNeg) ≤ (t_told (64 : Int32).toNatClampNeg) then some (0) else some (1)) else none) else (if (t_told ((3 * x0)).toNatClampNeg) = 1 then (if u11 < (t_told (63 : Int32).toNatClampNeg) then some (0) else some (1)) else (if (t_told ((3 * x0)).toNatClampNeg) = 2 then (if gi (0 + x0) 87 then (if (u54 ((0 + x0)).toNatClampNeg) ≤ 0 then some (0) else some (1)) else none) else some (0))))).bind (fun (u130 : Int32) => (((if u130 = 0 then some (0) else (if gi (36 + x0) 87 then (if (u54 ((36 + x0)).toNatClampNeg) = 0 then some (1) else some (0)) else none))).bind (fun (u154 : Int32) => (((if u130 = 0 then (if gi (36 + x0) 87 then some ((u54 ((36 + x0)).toNatClampNeg)) else none) else some (1))).bind (fun (u182 : Int32) => (if gi (36 + x0) 87 then (if ¬ (t_told (65 : Int32).toNatClampNeg) = 0 then (if (((upd u54 ((36 + x0)).toNatClampNeg u182) (86 : Int32).toNatClampNeg) - ((upd u54 ((36 + x0)).toNatClampNeg u182) (86 : Int32).toNatClampNeg) / (t_told (65 : Int32).toNatClampNeg) * (t_told (65 : Int32).toNatClampNeg)) = 0 then ((f_X6_isSensor t_told x0).bind (fun u203 => (if u203 = 0 then (if (u154 = 0 ∨ u154 = 1) then some (u154, (upd u54 ((36 + x0)).toNatClampNeg u182)) else none) else (if (t_told (62 : Int32).toNatClampNeg) ≤ u11 then (if (u154 = 0 ∨ u154 = 1) then some (u154, (upd u54 ((36 + x0)).toNatClampNeg u182)) else none) else (if gi (0 + x0) 87 then (if gi (12 + x0) 87 then (((if ((upd u54 ((36 + x0)).toNatClampNeg u182) ((0 + x0)).toNatClampNeg) ≤ ((upd u54 ((36 + x0)).toNatClampNeg u182) ((12 + x0)).toNatClampNeg) then (if gi (0 + x0) 87 then (if gi (12 + x0) 87 then (if ((upd u54 ((36 + x0)).toNatClampNeg u182) ((12 + x0)).toNatClampNeg) ≤ ((upd u54 ((36 + x0)).toNatClampNeg u182) ((0 + x0)).toNatClampNeg) then (if gi (12 + x0) 87 then some (((upd u54 ((36 + x0)).toNatClampNeg u182) ((12 + x0)).toNatClampNeg)) else none) else (if gi (12 + x0) 87 then some ((((upd u54 ((36 + x0)).toNatClampNeg u182) ((12 + x0)).toNatClampNeg) - 1)) else none)) else none) else none) else (if gi (12 + x0) 87 then some ((((upd u54 ((36 + x0)).toNatClampNeg u182) ((12 + x0)).toNatClampNeg) + 1)) else none))).bind (fun (u297 : Int32) => (if u297 ≤ 40 then (if gi (12 + x0) 87 then (if (u154 = 0 ∨ u154 = 1) then some (u154, (upd (upd u54 ((36 + x0)).toNatClampNeg u182) ((12 + x0)).toNatClampNeg u297)) else none) else none) else (if gi (12 + x0) 87 then (if (u154 = 0 ∨ u154 = 1) then some (u154, (upd (upd u54 ((36 + x0)).toNatClampNeg u182) ((12 + x0)).toNatClampNeg 40)) else none) else none)))) else none) else none))))) else (if (u154 = 0 ∨ u154 = 1) then some (u154, (upd u54 ((36 + x0)).toNatClampNeg u182)) else none)) else none) else none))))))))))) else none)
abbrev rm_X6_feels : Room := { frames := 1, cells := 0, slots := 0, locals := 22 }
theorem cd_X6_feels : (yX6_feels).cls = RX6 ∧ (yX6_feels).cls ≠ "java/lang/invoke/MethodHandle" ∧ (yX6_feels).cls ≠ "java/lang/invoke/VarHandle" ∧ (parseMethodDescriptor (yX6_feels).desc).map (fun d => d.parameters.length) = some 1 := by decide +kernel
set_option maxHeartbeats 4000000 in
set_option maxRecDepth 100000 in
theorem c_X6_feels (l : Launch) (D : va_G) (cI cS : ClassId) (a_t a_t_told a_t_s a_t_text a_t_read a_t_before : Nat) (sz : Nat) (t_length : Int32) (t_spot : Int32) (t_undoMany : Int32) (t_shortAs : Int32) (t_isolatorAs : Int32) (t_worstWire : Int32) (t_worstLost : Int32) (t_told : FN) (t_s : FN) (x0 : Int32) (out : Int32 × FN) (h : f_X6_feels t_told t_s x0 = some out) : Met l yX6_feels wsX6_feels rm_X6_feels (va_Pc [.ref a_t, .int x0] (GP D cI cS [(a_t, .inr (5, [.int t_length, .ref a_t_text, .int t_spot, .ref a_t_told, .ref a_t_read, .ref a_t_s, .ref a_t_before, .int t_undoMany, .int t_shortAs, .int t_isolatorAs, .int t_worstWire, .int t_worstLost])), (a_t_told, .inl (cI, 67, .inl t_told)), (a_t_s, .inl (cI, 87, .inl t_s))] sz)) (QI D [(a_t, .inr (5, [.int t_length, .ref a_t_text, .int t_spot, .ref a_t_told, .ref a_t_read, .ref a_t_s, .ref a_t_before, .int t_undoMany, .int t_shortAs, .int t_isolatorAs, .int t_worstWire, .int t_worstLost])), (a_t_told, .inl (cI, 67, .inl t_told)), (a_t_s, .inl (cI, 87, .inl t_s))] sz [(a_t, .inr (5, [.int t_length, .ref a_t_text, .int t_spot, .ref a_t_told, .ref a_t_read, .ref a_t_s, .ref a_t_before, .int t_undoMany, .int t_shortAs, .int t_isolatorAs, .int t_worstWire, .int t_worstLost])), (a_t_told, .inl (cI, 67, .inl t_told)), (a_t_s, .inl (cI, 87, .inl out.2))] out.1) 0 0 (va_A [(a_t, .inr (5, [.int t_length, .ref a_t_text, .int t_spot, .ref a_t_told, .ref a_t_read, .ref a_t_s, .ref a_t_before, .int t_undoMany, .int t_shortAs, .int t_isolatorAs, .int t_worstWire, .int t_worstLost])), (a_t_told, .inl (cI, 67, .inl t_told)), (a_t_s, .inl (cI, 87, .inl t_s))] sz) := by
  refine gm_i (cc := cX6_feels) (maxL := 7) (rt := .boolean) (by decide) rfl (Nat.le_of_ble_eq_true rfl) ?_
  intro p e s m args below meth c A Q H locs ls hx hb hml hown hts hK hN hA hP hD hS hl hQ
  have hown : s.vm.findClass RX6 = some m.cls := hown
  have hl : lv_has ls 7 [(0, .ref a_t), (1, .int x0)] := hl
  have inX6 : ∀ w ∈ wsX60, w ∈ wsX6_feels := by decide +kernel
  have k_0 := hts (.fieldLink RX6 13 "AlarmRingModel" "told" "[I") (by decide +kernel)
  have k_1 := hts (.fieldLink RX6 19 "AlarmRingModel" "s" "[I") (by decide +kernel)
  unfold f_X6_feels at h
  refine lv_aload_n hx hb dX6_feels_0 rfl (lv_at hl 0 rfl) ?_
  refine va_get (D := D) (ci := 5) (v := .ref a_t_told) (C := RX6) (T := TX6) (N := 12) hx hb hts inX6 hown hK hP 0 rfl rfl 3 (by decide) k_0 (fun _ h9 => h9) rfl dX6_feels_1 ?_
  refine lv_iconst (v := 3) hx hb dX6_feels_4 (by decide) ?_
  refine lv_iload_n hx hb dX6_feels_5 rfl (lv_at hl 1 rfl) ?_
  refine lv_imul hx hb dX6_feels_6 ?_
  obtain ⟨gg, h⟩ := og h
  refine va_iald hx hb hK hP 1 0 rfl rfl gg dX6_feels_7 ?_
  refine lv_istore_n (lv' := [(2, .int (t_told ((3 * x0)).toNatClampNeg)), (0, .ref a_t), (1, .int x0)]) hx hb dX6_feels_8 rfl hl (by decide) rfl (fun ls hl => ?_)
  refine lv_aload_n hx hb dX6_feels_9 rfl (lv_at hl 1 rfl) ?_
  refine lv_iload_n hx hb dX6_feels_10 rfl (lv_at hl 2 rfl) ?_
  obtain ⟨u11, hu11, h⟩ := ob h
  refine gV_i (C := RX6) (T := TX6) (N := 12) (ci := 5) (q0 := 0) (wc := [(a_t, .inr (5, [.int t_length, .ref a_t_text, .int t_spot, .ref a_t_told, .ref a_t_read, .ref a_t_s, .ref a_t_before, .int t_undoMany, .int t_shortAs, .int t_isolatorAs, .int t_worstWire, .int t_worstLost])), (a_t_s, .inl (cI, 87, .inl t_s))]) (wr := [(a_t_told, .inl (cI, 67, .inl t_told))]) (w1 := [(a_t, .inr (5, [.int t_length, .ref a_t_text, .int t_spot, .ref a_t_told, .ref a_t_read, .ref a_t_s, .ref a_t_before, .int t_undoMany, .int t_shortAs, .int t_isolatorAs, .int t_worstWire, .int t_worstLost])), (a_t_s, .inl (cI, 87, .inl t_s))]) (v := u11) (As := [.int x0]) (rest := []) ⟨hx, hb, hml, hown, hts⟩ (c_X6_value l D cI cS a_t a_t_s a_t_text a_t_told a_t_read a_t_before H.size t_length t_spot t_undoMany t_shortAs t_isolatorAs t_worstWire t_worstLost t_s x0 u11 hu11) (cwV 1 hts gX6_feels_X6_value rfl rfl rfl cd_X6_value ⟨Nat.le_of_ble_eq_true rfl, Nat.le_of_ble_eq_true rfl⟩) hK hN hP hD hS hA [0, 2] [1] rfl rfl (by decide) (by decide) (by decide) rfl rfl rfl hl.1 rfl (Nat.le_of_ble_eq_true rfl) dX6_feels_11 ⟨Nat.zero_le _, Nat.zero_le _⟩ (fun H locs hP hD hS => ?_)
  have hP : va_P D vwCl [(a_t, .inr (5, [.int t_length, .ref a_t_text, .int t_spot, .ref a_t_told, .ref a_t_read, .ref a_t_s, .ref a_t_before, .int t_undoMany, .int t_shortAs, .int t_isolatorAs, .int t_worstWire, .int t_worstLost])), (a_t_told, .inl (cI, 67, .inl t_told)), (a_t_s, .inl (cI, 87, .inl t_s))] H := hP.sub [1, 0, 2] rfl
  have hD : va_D A [(a_t, .inr (5, [.int t_length, .ref a_t_text, .int t_spot, .ref a_t_told, .ref a_t_read, .ref a_t_s, .ref a_t_before, .int t_undoMany, .int t_shortAs, .int t_isolatorAs, .int t_worstWire, .int t_worstLost])), (a_t_told, .inl (cI, 67, .inl t_told)), (a_t_s, .inl (cI, 87, .inl t_s))] := hD.sub [1, 0, 2] (by decide) rfl
  refine lv_istore_n (lv' := [(3, .int u11), (2, .int (t_told ((3 * x0)).toNatClampNeg)), (0, .ref a_t), (1, .int x0)]) hx hb dX6_feels_14 rfl hl (by decide) rfl (fun ls hl => ?_)
  refine lv_iload_n hx hb dX6_feels_15 rfl (lv_at hl 1 rfl) ?_
  obtain ⟨u54, hj54, h⟩ := ob h
  have jn54 : ∀ (H : Heap) (locs : List Loc) (ls : Array Slot), va_P D vwCl [(a_t, .inr (5, [.int t_length, .ref a_t_text, .int t_spot, .ref a_t_told, .ref a_t_read, .ref a_t_s, .ref a_t_before, .int t_undoMany, .int t_shortAs, .int t_isolatorAs, .int t_worstWire, .int t_worstLost])), (a_t_told, .inl (cI, 67, .inl t_told)), (a_t_s, .inl (cI, 87, .inl u54))] H → va_D A [(a_t, .inr (5, [.int t_length, .ref a_t_text, .int t_spot, .ref a_t_told, .ref a_t_read, .ref a_t_s, .ref a_t_before, .int t_undoMany, .int t_shortAs, .int t_isolatorAs, .int t_worstWire, .int t_worstLost])), (a_t_told, .inl (cI, 67, .inl t_told)), (a_t_s, .inl (cI, 87, .inl u54))] → va_S A s.heap H locs → lv_has ls 7 [(0, .ref a_t), (1, .int x0), (2, .int (t_told ((3 * x0)).toNatClampNeg)), (3, .int u11)] → W p l e rm_X6_feels s m args below meth c H locs 0 0 Q (F0 m 54 ls []) := by
    intro H locs ls hP hD hS hl
    refine lv_iload_n hx hb dX6_feels_54 rfl (lv_at hl 2 rfl) ?_
    obtain ⟨u130, hj130, h⟩ := ob h
    have jn130 : ∀ (H : Heap) (locs : List Loc) (ls : Array Slot), va_P D vwCl [(a_t, .inr (5, [.int t_length, .ref a_t_text, .int t_spot, .ref a_t_told, .ref a_t_read, .ref a_t_s, .ref a_t_before, .int t_undoMany, .int t_shortAs, .int t_isolatorAs, .int t_worstWire, .int t_worstLost])), (a_t_told, .inl (cI, 67, .inl t_told)), (a_t_s, .inl (cI, 87, .inl u54))] H → va_D A [(a_t, .inr (5, [.int t_length, .ref a_t_text, .int t_spot, .ref a_t_told, .ref a_t_read, .ref a_t_s, .ref a_t_before, .int t_undoMany, .int t_shortAs, .int t_isolatorAs, .int t_worstWire, .int t_worstLost])), (a_t_told, .inl (cI, 67, .inl t_told)), (a_t_s, .inl (cI, 87, .inl u54))] → va_S A s.heap H locs → lv_has ls 7 [(0, .ref a_t), (1, .int x0), (3, .int u11)] → W p l e rm_X6_feels s m args below meth c H locs 0 0 Q (F0 m 130 ls [.int u130]) := by
      intro H locs ls hP hD hS hl
      refine lv_istore (lv' := [(4, .int u130), (0, .ref a_t), (1, .int x0), (3, .int u11)]) hx hb dX6_feels_130 hl (by decide) rfl (fun ls hl => ?_)
      refine lv_iload hx hb dX6_feels_132 (lv_at hl 0 rfl) ?_
      obtain ⟨u154, hj154, h⟩ := ob h
      have jn154 : ∀ (H : Heap) (locs : List Loc) (ls : Array Slot), va_P D vwCl [(a_t, .inr (5, [.int t_length, .ref a_t_text, .int t_spot, .ref a_t_told, .ref a_t_read, .ref a_t_s, .ref a_t_before, .int t_undoMany, .int t_shortAs, .int t_isolatorAs, .int t_worstWire, .int t_worstLost])), (a_t_told, .inl (cI, 67, .inl t_told)), (a_t_s, .inl (cI, 87, .inl u54))] H → va_D A [(a_t, .inr (5, [.int t_length, .ref a_t_text, .int t_spot, .ref a_t_told, .ref a_t_read, .ref a_t_s, .ref a_t_before, .int t_undoMany, .int t_shortAs, .int t_isolatorAs, .int t_worstWire, .int t_worstLost])), (a_t_told, .inl (cI, 67, .inl t_told)), (a_t_s, .inl (cI, 87, .inl u54))] → va_S A s.heap H locs → lv_has ls 7 [(0, .ref a_t), (1, .int x0), (3, .int u11), (4, .int u130)] → W p l e rm_X6_feels s m args below meth c H locs 0 0 Q (F0 m 154 ls [.int u154]) := by
        intro H locs ls hP hD hS hl
        refine lv_istore (lv' := [(5, .int u154), (0, .ref a_t), (1, .int x0), (3, .int u11), (4, .int u130)]) hx hb dX6_feels_154 hl (by decide) rfl (fun ls hl => ?_)
        refine lv_aload_n hx hb dX6_feels_156 rfl (lv_at hl 1 rfl) ?_
        refine va_get (D := D) (ci := 5) (v := .ref a_t_s) (C := RX6) (T := TX6) (N := 12) hx hb hts inX6 hown hK hP 0 rfl rfl 5 (by decide) k_1 (fun _ h9 => h9) rfl dX6_feels_157 ?_
        refine lv_bipush (v := 36) hx hb dX6_feels_160 (by decide) ?_
        refine lv_iload_n hx hb dX6_feels_162 rfl (lv_at hl 2 rfl) ?_
        refine lv_iadd hx hb dX6_feels_163 ?_
        refine lv_iload hx hb dX6_feels_164 (lv_at hl 4 rfl) ?_
        obtain ⟨u182, hj182, h⟩ := ob h
        have jn182 : ∀ (H : Heap) (locs : List Loc) (ls : Array Slot), va_P D vwCl [(a_t, .inr (5, [.int t_length, .ref a_t_text, .int t_spot, .ref a_t_told, .ref a_t_read, .ref a_t_s, .ref a_t_before, .int t_undoMany, .int t_shortAs, .int t_isolatorAs, .int t_worstWire, .int t_worstLost])), (a_t_told, .inl (cI, 67, .inl t_told)), (a_t_s, .inl (cI, 87, .inl u54))] H → va_D A [(a_t, .inr (5, [.int t_length, .ref a_t_text, .int t_spot, .ref a_t_told, .ref a_t_read, .ref a_t_s, .ref a_t_before, .int t_undoMany, .int t_shortAs, .int t_isolatorAs, .int t_worstWire, .int t_worstLost])), (a_t_told, .inl (cI, 67, .inl t_told)), (a_t_s, .inl (cI, 87, .inl u54))] → va_S A s.heap H locs → lv_has ls 7 [(0, .ref a_t), (1, .int x0), (3, .int u11), (5, .int u154)] → W p l e rm_X6_feels s m args below meth c H locs 0 0 Q (F0 m 182 ls [.int u182, .int (36 + x0), .ref a_t_s]) := by
          intro H locs ls hP hD hS hl
          obtain ⟨gg, h⟩ := og h
          refine va_iast hx hb hK hP hD hS 2 0 rfl rfl gg dX6_feels_182 (fun H locs hP hD hS => ?_)
          have hP : va_P D vwCl [(a_t, .inr (5, [.int t_length, .ref a_t_text, .int t_spot, .ref a_t_told, .ref a_t_read, .ref a_t_s, .ref a_t_before, .int t_undoMany, .int t_shortAs, .int t_isolatorAs, .int t_worstWire, .int t_worstLost])), (a_t_told, .inl (cI, 67, .inl t_told)), (a_t_s, .inl (cI, 87, .inl (upd u54 ((36 + x0)).toNatClampNeg u182)))] H := hP
          have hD : va_D A [(a_t, .inr (5, [.int t_length, .ref a_t_text, .int t_spot, .ref a_t_told, .ref a_t_read, .ref a_t_s, .ref a_t_before, .int t_undoMany, .int t_shortAs, .int t_isolatorAs, .int t_worstWire, .int t_worstLost])), (a_t_told, .inl (cI, 67, .inl t_told)), (a_t_s, .inl (cI, 87, .inl (upd u54 ((36 + x0)).toNatClampNeg u182)))] := hD
          refine lv_aload_n hx hb dX6_feels_183 rfl (lv_at hl 0 rfl) ?_
          refine va_get (D := D) (ci := 5) (v := .ref a_t_s) (C := RX6) (T := TX6) (N := 12) hx hb hts inX6 hown hK hP 0 rfl rfl 5 (by decide) k_1 (fun _ h9 => h9) rfl dX6_feels_184 ?_
          refine lv_bipush (v := 86) hx hb dX6_feels_187 (by decide) ?_
          refine va_iald hx hb hK hP 2 0 rfl rfl (i := 86) (show gi 86 87 by decide) dX6_feels_189 ?_
          refine lv_aload_n hx hb dX6_feels_190 rfl (lv_at hl 0 rfl) ?_
          refine va_get (D := D) (ci := 5) (v := .ref a_t_told) (C := RX6) (T := TX6) (N := 12) hx hb hts inX6 hown hK hP 0 rfl rfl 3 (by decide) k_0 (fun _ h9 => h9) rfl dX6_feels_191 ?_
          refine lv_bipush (v := 65) hx hb dX6_feels_194 (by decide) ?_
          refine va_iald hx hb hK hP 1 0 rfl rfl (i := 65) (show gi 65 67 by decide) dX6_feels_196 ?_
          obtain ⟨gg, h⟩ := og h
          refine lv_irem hx hb dX6_feels_197 gg ?_
          refine lv_if_ne (tgt := 322) hx hb dX6_feels_198 (by decide) (fun cc => ?_) (fun cc => ?_)
          · have h := oi_f cc h
            refine lv_iload hx hb dX6_feels_322 (lv_at hl 3 rfl) ?_
            obtain ⟨gg, h⟩ := og h
            obtain rfl := Option.some.inj h
            exact hQ 324 H locs ls (nz gg) hP hD hS dX6_feels_324
          · have h := oi_t cc h
            refine lv_aload_n hx hb dX6_feels_201 rfl (lv_at hl 0 rfl) ?_
            refine lv_iload_n hx hb dX6_feels_202 rfl (lv_at hl 1 rfl) ?_
            obtain ⟨u203, hu203, h⟩ := ob h
            refine gV_i (C := RX6) (T := TX6) (N := 12) (ci := 5) (q0 := 0) (wc := [(a_t, .inr (5, [.int t_length, .ref a_t_text, .int t_spot, .ref a_t_told, .ref a_t_read, .ref a_t_s, .ref a_t_before, .int t_undoMany, .int t_shortAs, .int t_isolatorAs, .int t_worstWire, .int t_worstLost])), (a_t_told, .inl (cI, 67, .inl t_told))]) (wr := [(a_t_s, .inl (cI, 87, .inl (upd u54 ((36 + x0)).toNatClampNeg u182)))]) (w1 := [(a_t, .inr (5, [.int t_length, .ref a_t_text, .int t_spot, .ref a_t_told, .ref a_t_read, .ref a_t_s, .ref a_t_before, .int t_undoMany, .int t_shortAs, .int t_isolatorAs, .int t_worstWire, .int t_worstLost])), (a_t_told, .inl (cI, 67, .inl t_told))]) (v := u203) (As := [.int x0]) (rest := []) ⟨hx, hb, hml, hown, hts⟩ (c_X6_isSensor l D cI cS a_t a_t_told a_t_text a_t_read a_t_s a_t_before H.size t_length t_spot t_undoMany t_shortAs t_isolatorAs t_worstWire t_worstLost t_told x0 u203 hu203) (cwV 1 hts gX6_feels_X6_isSensor rfl rfl rfl cd_X6_isSensor ⟨Nat.le_of_ble_eq_true rfl, Nat.le_of_ble_eq_true rfl⟩) hK hN hP hD hS hA [0, 1] [2] rfl rfl (by decide) (by decide) (by decide) rfl rfl rfl hl.1 rfl (Nat.le_of_ble_eq_true rfl) dX6_feels_203 ⟨Nat.zero_le _, Nat.zero_le _⟩ (fun H locs hP hD hS => ?_)
            have hP : va_P D vwCl [(a_t, .inr (5, [.int t_length, .ref a_t_text, .int t_spot, .ref a_t_told, .ref a_t_read, .ref a_t_s, .ref a_t_before, .int t_undoMany, .int t_shortAs, .int t_isolatorAs, .int t_worstWire, .int t_worstLost])), (a_t_told, .inl (cI, 67, .inl t_told)), (a_t_s, .inl (cI, 87, .inl (upd u54 ((36 + x0)).toNatClampNeg u182)))] H := hP.sub [1, 2, 0] rfl
            have hD : va_D A [(a_t, .inr (5, [.int t_length, .ref a_t_text, .int t_spot, .ref a_t_told, .ref a_t_read, .ref a_t_s, .ref a_t_before, .int t_undoMany, .int t_shortAs, .int t_isolatorAs, .int t_worstWire, .int t_worstLost])), (a_t_told, .inl (cI, 67, .inl t_told)), (a_t_s, .inl (cI, 87, .inl (upd u54 ((36 + x0)).toNatClampNeg u182)))] := hD.sub [1, 2, 0] (by decide) rfl
            refine lv_if_eq (tgt := 322) hx hb dX6_feels_206 (by decide) (fun cc => ?_) (fun cc => ?_)
            · have h := oi_t cc h
              refine lv_iload hx hb dX6_feels_322 (lv_at hl 3 rfl) ?_
              obtain ⟨gg, h⟩ := og h
              obtain rfl := Option.some.inj h
              exact hQ 324 H locs ls (nz gg) hP hD hS dX6_feels_324
            · have h := oi_f cc h
              refine lv_iload_n hx hb dX6_feels_209 rfl (lv_at hl 2 rfl) ?_
              refine lv_aload_n hx hb dX6_feels_210 rfl (lv_at hl 0 rfl) ?_
              refine va_get (D := D) (ci := 5) (v := .ref a_t_told) (C := RX6) (T := TX6) (N := 12) hx hb hts inX6 hown hK hP 0 rfl rfl 3 (by decide) k_0 (fun _ h9 => h9) rfl dX6_feels_211 ?_
              refine lv_bipush (v := 62) hx hb dX6_feels_214 (by decide) ?_
              refine va_iald hx hb hK hP 1 0 rfl rfl (i := 62) (show gi 62 67 by decide) dX6_feels_216 ?_
              refine lv_icmp_ge (tgt := 322) hx hb dX6_feels_217 (by decide) (fun cc => ?_) (fun cc => ?_)
              · have h := oi_t cc h
                refine lv_iload hx hb dX6_feels_322 (lv_at hl 3 rfl) ?_
                obtain ⟨gg, h⟩ := og h
                obtain rfl := Option.some.inj h
                exact hQ 324 H locs ls (nz gg) hP hD hS dX6_feels_324
              · have h := oi_f cc h
                refine lv_aload_n hx hb dX6_feels_220 rfl (lv_at hl 0 rfl) ?_
                refine va_get (D := D) (ci := 5) (v := .ref a_t_s) (C := RX6) (T := TX6) (N := 12) hx hb hts inX6 hown hK hP 0 rfl rfl 5 (by decide) k_1 (fun _ h9 => h9) rfl dX6_feels_221 ?_
                refine lv_iconst (v := 0) hx hb dX6_feels_224 (by decide) ?_
                refine lv_iload_n hx hb dX6_feels_225 rfl (lv_at hl 1 rfl) ?_
                refine lv_iadd hx hb dX6_feels_226 ?_
                obtain ⟨gg, h⟩ := og h
                refine va_iald hx hb hK hP 2 0 rfl rfl gg dX6_feels_227 ?_
                refine lv_aload_n hx hb dX6_feels_228 rfl (lv_at hl 0 rfl) ?_
                refine va_get (D := D) (ci := 5) (v := .ref a_t_s) (C := RX6) (T := TX6) (N := 12) hx hb hts inX6 hown hK hP 0 rfl rfl 5 (by decide) k_1 (fun _ h9 => h9) rfl dX6_feels_229 ?_
                refine lv_bipush (v := 12) hx hb dX6_feels_232 (by decide) ?_
                refine lv_iload_n hx hb dX6_feels_234 rfl (lv_at hl 1 rfl) ?_
                refine lv_iadd hx hb dX6_feels_235 ?_
                obtain ⟨gg, h⟩ := og h
                refine va_iald hx hb hK hP 2 0 rfl rfl gg dX6_feels_236 ?_
                obtain ⟨u297, hj297, h⟩ := ob h
                have jn297 : ∀ (H : Heap) (locs : List Loc) (ls : Array Slot), va_P D vwCl [(a_t, .inr (5, [.int t_length, .ref a_t_text, .int t_spot, .ref a_t_told, .ref a_t_read, .ref a_t_s, .ref a_t_before, .int t_undoMany, .int t_shortAs, .int t_isolatorAs, .int t_worstWire, .int t_worstLost])), (a_t_told, .inl (cI, 67, .inl t_told)), (a_t_s, .inl (cI, 87, .inl (upd u54 ((36 + x0)).toNatClampNeg u182)))] H → va_D A [(a_t, .inr (5, [.int t_length, .ref a_t_text, .int t_spot, .ref a_t_told, .ref a_t_read, .ref a_t_s, .ref a_t_before, .int t_undoMany, .int t_shortAs, .int t_isolatorAs, .int t_worstWire, .int t_worstLost])), (a_t_told, .inl (cI, 67, .inl t_told)), (a_t_s, .inl (cI, 87, .inl (upd u54 ((36 + x0)).toNatClampNeg u182)))] → va_S A s.heap H locs → lv_has ls 7 [(0, .ref a_t), (1, .int x0), (5, .int u154)] → W p l e rm_X6_feels s m args below meth c H locs 0 0 Q (F0 m 297 ls [.int u297]) := by
                  intro H locs ls hP hD hS hl
                  refine lv_istore (lv' := [(6, .int u297), (0, .ref a_t), (1, .int x0), (5, .int u154)]) hx hb dX6_feels_297 hl (by decide) rfl (fun ls hl => ?_)
                  refine lv_aload_n hx hb dX6_feels_299 rfl (lv_at hl 1 rfl) ?_
                  refine va_get (D := D) (ci := 5) (v := .ref a_t_s) (C := RX6) (T := TX6) (N := 12) hx hb hts inX6 hown hK hP 0 rfl rfl 5 (by decide) k_1 (fun _ h9 => h9) rfl dX6_feels_300 ?_
                  refine lv_bipush (v := 12) hx hb dX6_feels_303 (by decide) ?_
                  refine lv_iload_n hx hb dX6_feels_305 rfl (lv_at hl 2 rfl) ?_
                  refine lv_iadd hx hb dX6_feels_306 ?_
                  refine lv_iload hx hb dX6_feels_307 (lv_at hl 0 rfl) ?_
                  refine lv_bipush (v := 40) hx hb dX6_feels_309 (by decide) ?_
                  refine lv_icmp_le (tgt := 319) hx hb dX6_feels_311 (by decide) (fun cc => ?_) (fun cc => ?_)
                  · have h := oi_t cc h
                    refine lv_iload hx hb dX6_feels_319 (lv_at hl 0 rfl) ?_
                    obtain ⟨gg, h⟩ := og h
                    refine va_iast hx hb hK hP hD hS 2 0 rfl rfl gg dX6_feels_321 (fun H locs hP hD hS => ?_)
                    have hP : va_P D vwCl [(a_t, .inr (5, [.int t_length, .ref a_t_text, .int t_spot, .ref a_t_told, .ref a_t_read, .ref a_t_s, .ref a_t_before, .int t_undoMany, .int t_shortAs, .int t_isolatorAs, .int t_worstWire, .int t_worstLost])), (a_t_told, .inl (cI, 67, .inl t_told)), (a_t_s, .inl (cI, 87, .inl (upd (upd u54 ((36 + x0)).toNatClampNeg u182) ((12 + x0)).toNatClampNeg u297)))] H := hP
                    have hD : va_D A [(a_t, .inr (5, [.int t_length, .ref a_t_text, .int t_spot, .ref a_t_told, .ref a_t_read, .ref a_t_s, .ref a_t_before, .int t_undoMany, .int t_shortAs, .int t_isolatorAs, .int t_worstWire, .int t_worstLost])), (a_t_told, .inl (cI, 67, .inl t_told)), (a_t_s, .inl (cI, 87, .inl (upd (upd u54 ((36 + x0)).toNatClampNeg u182) ((12 + x0)).toNatClampNeg u297)))] := hD
                    refine lv_iload hx hb dX6_feels_322 (lv_at hl 3 rfl) ?_
                    obtain ⟨gg, h⟩ := og h
                    obtain rfl := Option.some.inj h
                    exact hQ 324 H locs ls (nz gg) hP hD hS dX6_feels_324
                  · have h := oi_f cc h
                    refine lv_bipush (v := 40) hx hb dX6_feels_314 (by decide) ?_
                    refine lv_goto (tgt := 321) hx hb dX6_feels_316 (by decide) ?_
                    obtain ⟨gg, h⟩ := og h
                    refine va_iast hx hb hK hP hD hS 2 0 rfl rfl gg dX6_feels_321 (fun H locs hP hD hS => ?_)
                    have hP : va_P D vwCl [(a_t, .inr (5, [.int t_length, .ref a_t_text, .int t_spot, .ref a_t_told, .ref a_t_read, .ref a_t_s, .ref a_t_before, .int t_undoMany, .int t_shortAs, .int t_isolatorAs, .int t_worstWire, .int t_worstLost])), (a_t_told, .inl (cI, 67, .inl t_told)), (a_t_s, .inl (cI, 87, .inl (upd (upd u54 ((36 + x0)).toNatClampNeg u182) ((12 + x0)).toNatClampNeg 40)))] H := hP
                    have hD : va_D A [(a_t, .inr (5, [.int t_length, .ref a_t_text, .int t_spot, .ref a_t_told, .ref a_t_read, .ref a_t_s, .ref a_t_before, .int t_undoMany, .int t_shortAs, .int t_isolatorAs, .int t_worstWire, .int t_worstLost])), (a_t_told, .inl (cI, 67, .inl t_told)), (a_t_s, .inl (cI, 87, .inl (upd (upd u54 ((36 + x0)).toNatClampNeg u182) ((12 + x0)).toNatClampNeg 40)))] := hD
                    refine lv_iload hx hb dX6_feels_322 (lv_at hl 3 rfl) ?_
                    obtain ⟨gg, h⟩ := og h
                    obtain rfl := Option.some.inj h
                    exact hQ 324 H locs ls (nz gg) hP hD hS dX6_feels_324
                have h := hj297
                refine lv_icmp_le (tgt := 254) hx hb dX6_feels_237 (by decide) (fun cc => ?_) (fun cc => ?_)
                · have h := oi_t cc h
                  refine lv_aload_n hx hb dX6_feels_254 rfl (lv_at hl 0 rfl) ?_
                  refine va_get (D := D) (ci := 5) (v := .ref a_t_s) (C := RX6) (T := TX6) (N := 12) hx hb hts inX6 hown hK hP 0 rfl rfl 5 (by decide) k_1 (fun _ h9 => h9) rfl dX6_feels_255 ?_
                  refine lv_iconst (v := 0) hx hb dX6_feels_258 (by decide) ?_
                  refine lv_iload_n hx hb dX6_feels_259 rfl (lv_at hl 1 rfl) ?_
                  refine lv_iadd hx hb dX6_feels_260 ?_
                  obtain ⟨gg, h⟩ := og h
                  refine va_iald hx hb hK hP 2 0 rfl rfl gg dX6_feels_261 ?_
                  refine lv_aload_n hx hb dX6_feels_262 rfl (lv_at hl 0 rfl) ?_
                  refine va_get (D := D) (ci := 5) (v := .ref a_t_s) (C := RX6) (T := TX6) (N := 12) hx hb hts inX6 hown hK hP 0 rfl rfl 5 (by decide) k_1 (fun _ h9 => h9) rfl dX6_feels_263 ?_
                  refine lv_bipush (v := 12) hx hb dX6_feels_266 (by decide) ?_
                  refine lv_iload_n hx hb dX6_feels_268 rfl (lv_at hl 1 rfl) ?_
                  refine lv_iadd hx hb dX6_feels_269 ?_
                  obtain ⟨gg, h⟩ := og h
                  refine va_iald hx hb hK hP 2 0 rfl rfl gg dX6_feels_270 ?_
                  refine lv_icmp_ge (tgt := 288) hx hb dX6_feels_271 (by decide) (fun cc => ?_) (fun cc => ?_)
                  · have h := oi_t cc h
                    refine lv_aload_n hx hb dX6_feels_288 rfl (lv_at hl 0 rfl) ?_
                    refine va_get (D := D) (ci := 5) (v := .ref a_t_s) (C := RX6) (T := TX6) (N := 12) hx hb hts inX6 hown hK hP 0 rfl rfl 5 (by decide) k_1 (fun _ h9 => h9) rfl dX6_feels_289 ?_
                    refine lv_bipush (v := 12) hx hb dX6_feels_292 (by decide) ?_
                    refine lv_iload_n hx hb dX6_feels_294 rfl (lv_at hl 1 rfl) ?_
                    refine lv_iadd hx hb dX6_feels_295 ?_
                    obtain ⟨gg, h⟩ := og h
                    refine va_iald hx hb hK hP 2 0 rfl rfl gg dX6_feels_296 ?_
                    obtain rfl := Option.some.inj h
                    exact jn297 H locs ls hP hD hS (lv_sub hl [0, 1, 3] rfl)
                  · have h := oi_f cc h
                    refine lv_aload_n hx hb dX6_feels_274 rfl (lv_at hl 0 rfl) ?_
                    refine va_get (D := D) (ci := 5) (v := .ref a_t_s) (C := RX6) (T := TX6) (N := 12) hx hb hts inX6 hown hK hP 0 rfl rfl 5 (by decide) k_1 (fun _ h9 => h9) rfl dX6_feels_275 ?_
                    refine lv_bipush (v := 12) hx hb dX6_feels_278 (by decide) ?_
                    refine lv_iload_n hx hb dX6_feels_280 rfl (lv_at hl 1 rfl) ?_
                    refine lv_iadd hx hb dX6_feels_281 ?_
                    obtain ⟨gg, h⟩ := og h
                    refine va_iald hx hb hK hP 2 0 rfl rfl gg dX6_feels_282 ?_
                    refine lv_iconst (v := 1) hx hb dX6_feels_283 (by decide) ?_
                    refine lv_isub hx hb dX6_feels_284 ?_
                    refine lv_goto (tgt := 297) hx hb dX6_feels_285 (by decide) ?_
                    obtain rfl := Option.some.inj h
                    exact jn297 H locs ls hP hD hS (lv_sub hl [0, 1, 3] rfl)
                · have h := oi_f cc h
                  refine lv_aload_n hx hb dX6_feels_240 rfl (lv_at hl 0 rfl) ?_
                  refine va_get (D := D) (ci := 5) (v := .ref a_t_s) (C := RX6) (T := TX6) (N := 12) hx hb hts inX6 hown hK hP 0 rfl rfl 5 (by decide) k_1 (fun _ h9 => h9) rfl dX6_feels_241 ?_
                  refine lv_bipush (v := 12) hx hb dX6_feels_244 (by decide) ?_
                  refine lv_iload_n hx hb dX6_feels_246 rfl (lv_at hl 1 rfl) ?_
                  refine lv_iadd hx hb dX6_feels_247 ?_
                  obtain ⟨gg, h⟩ := og h
                  refine va_iald hx hb hK hP 2 0 rfl rfl gg dX6_feels_248 ?_
                  refine lv_iconst (v := 1) hx hb dX6_feels_249 (by decide) ?_
                  refine lv_iadd hx hb dX6_feels_250 ?_
                  refine lv_goto (tgt := 297) hx hb dX6_feels_251 (by decide) ?_
                  obtain rfl := Option.some.inj h
                  exact jn297 H locs ls hP hD hS (lv_sub hl [0, 1, 3] rfl)
        have h := hj182
        refine lv_if_eq (tgt := 173) hx hb dX6_feels_166 (by decide) (fun cc => ?_) (fun cc => ?_)
        · have h := oi_t cc h
          refine lv_aload_n hx hb dX6_feels_173 rfl (lv_at hl 1 rfl) ?_
          refine va_get (D := D) (ci := 5) (v := .ref a_t_s) (C := RX6) (T := TX6) (N := 12) hx hb hts inX6 hown hK hP 0 rfl rfl 5 (by decide) k_1 (fun _ h9 => h9) rfl dX6_feels_174 ?_
          refine lv_bipush (v := 36) hx hb dX6_feels_177 (by decide) ?_
          refine lv_iload_n hx hb dX6_feels_179 rfl (lv_at hl 2 rfl) ?_
          refine lv_iadd hx hb dX6_feels_180 ?_
          obtain ⟨gg, h⟩ := og h
          refine va_iald hx hb hK hP 2 0 rfl rfl gg dX6_feels_181 ?_
          obtain rfl := Option.some.inj h
          exact jn182 H locs ls hP hD hS (lv_sub hl [1, 2, 3, 0] rfl)
        · have h := oi_f cc h
          refine lv_iconst (v := 1) hx hb dX6_feels_169 (by decide) ?_
          refine lv_goto (tgt := 182) hx hb dX6_feels_170 (by decide) ?_
          obtain rfl := Option.some.inj h
          exact jn182 H locs ls hP hD hS (lv_sub hl [1, 2, 3, 0] rfl)
      have h := hj154
      refine lv_if_eq (tgt := 153) hx hb dX6_feels_134 (by decide) (fun cc => ?_) (fun cc => ?_)
      · have h := oi_t cc h
        refine lv_iconst (v := 0) hx hb dX6_feels_153 (by decide) ?_
        obtain rfl := Option.some.inj h
        exact jn154 H locs ls hP hD hS (lv_sub hl [1, 2, 3, 0] rfl)
      · have h := oi_f cc h
        refine lv_aload_n hx hb dX6_feels_137 rfl (lv_at hl 1 rfl) ?_
        refine va_get (D := D) (ci := 5) (v := .ref a_t_s) (C := RX6) (T := TX6) (N := 12) hx hb hts inX6 hown hK hP 0 rfl rfl 5 (by decide) k_1 (fun _ h9 => h9) rfl dX6_feels_138 ?_
        refine lv_bipush (v := 36) hx hb dX6_feels_141 (by decide) ?_
        refine lv_iload_n hx hb dX6_feels_143 rfl (lv_at hl 2 rfl) ?_
        refine lv_iadd hx hb dX6_feels_144 ?_
        obtain ⟨gg, h⟩ := og h
        refine va_iald hx hb hK hP 2 0 rfl rfl gg dX6_feels_145 ?_
        refine lv_if_ne (tgt := 153) hx hb dX6_feels_146 (by decide) (fun cc => ?_) (fun cc => ?_)
        · have h := oi_f cc h
          refine lv_iconst (v := 0) hx hb dX6_feels_153 (by decide) ?_
          obtain rfl := Option.some.inj h
          exact jn154 H locs ls hP hD hS (lv_sub hl [1, 2, 3, 0] rfl)
        · have h := oi_t cc h
          refine lv_iconst (v := 1) hx hb dX6_feels_149 (by decide) ?_
          refine lv_goto (tgt := 154) hx hb dX6_feels_150 (by decide) ?_
          obtain rfl := Option.some.inj h
          exact jn154 H locs ls hP hD hS (lv_sub hl [1, 2, 3, 0] rfl)
    have h := hj130
    refine lv_if_ne (tgt := 85) hx hb dX6_feels_55 (by decide) (fun cc => ?_) (fun cc => ?_)
    · have h := oi_f cc h
      refine lv_iload_n hx hb dX6_feels_85 rfl (lv_at hl 2 rfl) ?_
      refine lv_iconst (v := 1) hx hb dX6_feels_86 (by decide) ?_
      refine lv_icmp_ne (tgt := 109) hx hb dX6_feels_87 (by decide) (fun cc => ?_) (fun cc => ?_)
      · have h := oi_f cc h
        refine lv_iload_n hx hb dX6_feels_109 rfl (lv_at hl 2 rfl) ?_
        refine lv_iconst (v := 2) hx hb dX6_feels_110 (by decide) ?_
        refine lv_icmp_ne (tgt := 129) hx hb dX6_feels_111 (by decide) (fun cc => ?_) (fun cc => ?_)
        · have h := oi_f cc h
          refine lv_iconst (v := 0) hx hb dX6_feels_129 (by decide) ?_
          obtain rfl := Option.some.inj h
          exact jn130 H locs ls hP hD hS (lv_sub hl [0, 1, 3] rfl)
        · have h := oi_t cc h
          refine lv_aload_n hx hb dX6_feels_114 rfl (lv_at hl 0 rfl) ?_
          refine va_get (D := D) (ci := 5) (v := .ref a_t_s) (C := RX6) (T := TX6) (N := 12) hx hb hts inX6 hown hK hP 0 rfl rfl 5 (by decide) k_1 (fun _ h9 => h9) rfl dX6_feels_115 ?_
          refine lv_iconst (v := 0) hx hb dX6_feels_118 (by decide) ?_
          refine lv_iload_n hx hb dX6_feels_119 rfl (lv_at hl 1 rfl) ?_
          refine lv_iadd hx hb dX6_feels_120 ?_
          obtain ⟨gg, h⟩ := og h
          refine va_iald hx hb hK hP 2 0 rfl rfl gg dX6_feels_121 ?_
          refine lv_if_le (tgt := 129) hx hb dX6_feels_122 (by decide) (fun cc => ?_) (fun cc => ?_)
          · have h := oi_t cc h
            refine lv_iconst (v := 0) hx hb dX6_feels_129 (by decide) ?_
            obtain rfl := Option.some.inj h
            exact jn130 H locs ls hP hD hS (lv_sub hl [0, 1, 3] rfl)
          · have h := oi_f cc h
            refine lv_iconst (v := 1) hx hb dX6_feels_125 (by decide) ?_
            refine lv_goto (tgt := 130) hx hb dX6_feels_126 (by decide) ?_
            obtain rfl := Option.some.inj h
            exact jn130 H locs ls hP hD hS (lv_sub hl [0, 1, 3] rfl)
      · have h := oi_t cc h
        refine lv_iload_n hx hb dX6_feels_90 rfl (lv_at hl 3 rfl) ?_
        refine lv_aload_n hx hb dX6_feels_91 rfl (lv_at hl 0 rfl) ?_
        refine va_get (D := D) (ci := 5) (v := .ref a_t_told) (C := RX6) (T := TX6) (N := 12) hx hb hts inX6 hown hK hP 0 rfl rfl 3 (by decide) k_0 (fun _ h9 => h9) rfl dX6_feels_92 ?_
        refine lv_bipush (v := 63) hx hb dX6_feels_95 (by decide) ?_
        refine va_iald hx hb hK hP 1 0 rfl rfl (i := 63) (show gi 63 67 by decide) dX6_feels_97 ?_
        refine lv_icmp_lt (tgt := 105) hx hb dX6_feels_98 (by decide) (fun cc => ?_) (fun cc => ?_)
        · have h := oi_t cc h
          refine lv_iconst (v := 0) hx hb dX6_feels_105 (by decide) ?_
          refine lv_goto (tgt := 130) hx hb dX6_feels_106 (by decide) ?_
          obtain rfl := Option.some.inj h
          exact jn130 H locs ls hP hD hS (lv_sub hl [0, 1, 3] rfl)
        · have h := oi_f cc h
          refine lv_iconst (v := 1) hx hb dX6_feels_101 (by decide) ?_
          refine lv_goto (tgt := 130) hx hb dX6_feels_102 (by decide) ?_
          obtain rfl := Option.some.inj h
          exact jn130 H locs ls hP hD hS (lv_sub hl [0, 1, 3] rfl)
    · have h := oi_t cc h
      refine lv_aload_n hx hb dX6_feels_58 rfl (lv_at hl 0 rfl) ?_
      refine va_get (D := D) (ci := 5) (v := .ref a_t_s) (C := RX6) (T := TX6) (N := 12) hx hb hts inX6 hown hK hP 0 rfl rfl 5 (by decide) k_1 (fun _ h9 => h9) rfl dX6_feels_59 ?_
      refine lv_bipush (v := 24) hx hb dX6_feels_62 (by decide) ?_
      refine lv_iload_n hx hb dX6_feels_64 rfl (lv_at hl 1 rfl) ?_
      refine lv_iadd hx hb dX6_feels_65 ?_
      obtain ⟨gg, h⟩ := og h
      refine va_iald hx hb hK hP 2 0 rfl rfl gg dX6_feels_66 ?_
      refine lv_aload_n hx hb dX6_feels_67 rfl (lv_at hl 0 rfl) ?_
      refine va_get (D := D) (ci := 5) (v := .ref a_t_told) (C := RX6) (T := TX6) (N := 12) hx hb hts inX6 hown hK hP 0 rfl rfl 3 (by decide) k_0 (fun _ h9 => h9) rfl dX6_feels_68 ?_
      refine lv_bipush (v := 64) hx hb dX6_feels_71 (by decide) ?_
      refine va_iald hx hb hK hP 1 0 rfl rfl (i := 64) (show gi 64 67 by decide) dX6_feels_73 ?_
      refine lv_icmp_le (tgt := 81) hx hb dX6_feels_74 (by decide) (fun cc => ?_) (fun cc => ?_)
      · have h := oi_t cc h
        refine lv_iconst (v := 0) hx hb dX6_feels_81 (by decide) ?_
        refine lv_goto (tgt := 130) hx hb dX6_feels_82 (by decide) ?_
        obtain rfl := Option.some.inj h
        exact jn130 H locs ls hP hD hS (lv_sub hl [0, 1, 3] rfl)
      · have h := oi_f cc h
        refine lv_iconst (v := 1) hx hb dX6_feels_77 (by decide) ?_
        refine lv_goto (tgt := 130) hx hb dX6_feels_78 (by decide) ?_
        obtain rfl := Option.some.inj h
        exact jn130 H locs ls hP hD hS (lv_sub hl [0, 1, 3] rfl)
  have h := hj54
  refine lv_if_ne (tgt := 54) hx hb dX6_feels_16 (by decide) (fun cc => ?_) (fun cc => ?_)
  · have h := oi_f cc h
    obtain rfl := Option.some.inj h
    exact jn54 H locs ls hP hD hS (lv_sub hl [2, 3, 1, 0] rfl)
  · have h := oi_t cc h
    refine lv_aload_n hx hb dX6_feels_19 rfl (lv_at hl 2 rfl) ?_
    refine va_get (D := D) (ci := 5) (v := .ref a_t_s) (C := RX6) (T := TX6) (N := 12) hx hb hts inX6 hown hK hP 0 rfl rfl 5 (by decide) k_1 (fun _ h9 => h9) rfl dX6_feels_20 ?_
    refine lv_bipush (v := 24) hx hb dX6_feels_23 (by decide) ?_
    refine lv_iload_n hx hb dX6_feels_25 rfl (lv_at hl 3 rfl) ?_
    refine lv_iadd hx hb dX6_feels_26 ?_
    refine lv_iload_n hx hb dX6_feels_27 rfl (lv_at hl 0 rfl) ?_
    refine lv_aload_n hx hb dX6_feels_28 rfl (lv_at hl 2 rfl) ?_
    refine va_get (D := D) (ci := 5) (v := .ref a_t_told) (C := RX6) (T := TX6) (N := 12) hx hb hts inX6 hown hK hP 0 rfl rfl 3 (by decide) k_0 (fun _ h9 => h9) rfl dX6_feels_29 ?_
    refine lv_bipush (v := 63) hx hb dX6_feels_32 (by decide) ?_
    refine va_iald hx hb hK hP 1 0 rfl rfl (i := 63) (show gi 63 67 by decide) dX6_feels_34 ?_
    refine lv_icmp_lt (tgt := 52) hx hb dX6_feels_35 (by decide) (fun cc => ?_) (fun cc => ?_)
    · have h := oi_t cc h
      refine lv_iconst (v := 0) hx hb dX6_feels_52 (by decide) ?_
      obtain ⟨gg, h⟩ := og h
      refine va_iast hx hb hK hP hD hS 2 0 rfl rfl gg dX6_feels_53 (fun H locs hP hD hS => ?_)
      have hP : va_P D vwCl [(a_t, .inr (5, [.int t_length, .ref a_t_text, .int t_spot, .ref a_t_told, .ref a_t_read, .ref a_t_s, .ref a_t_before, .int t_undoMany, .int t_shortAs, .int t_isolatorAs, .int t_worstWire, .int t_worstLost])), (a_t_told, .inl (cI, 67, .inl t_told)), (a_t_s, .inl (cI, 87, .inl (upd t_s ((24 + x0)).toNatClampNeg 0)))] H := hP
      have hD : va_D A [(a_t, .inr (5, [.int t_length, .ref a_t_text, .int t_spot, .ref a_t_told, .ref a_t_read, .ref a_t_s, .ref a_t_before, .int t_undoMany, .int t_shortAs, .int t_isolatorAs, .int t_worstWire, .int t_worstLost])), (a_t_told, .inl (cI, 67, .inl t_told)), (a_t_s, .inl (cI, 87, .inl (upd t_s ((24 + x0)).toNatClampNeg 0)))] := hD
      obtain rfl := Option.some.inj h
      exact jn54 H locs ls hP hD hS (lv_sub hl [2, 3, 1, 0] rfl)
    · have h := oi_f cc h
      refine lv_aload_n hx hb dX6_feels_38 rfl (lv_at hl 2 rfl) ?_
      refine va_get (D := D) (ci := 5) (v := .ref a_t_s) (C := RX6) (T := TX6) (N := 12) hx hb hts inX6 hown hK hP 0 rfl rfl 5 (by decide) k_1 (fun _ h9 => h9) rfl dX6_feels_39 ?_
      refine lv_bipush (v := 24) hx hb dX6_feels_42 (by decide) ?_
      refine lv_iload_n hx hb dX6_feels_44 rfl (lv_at hl 3 rfl) ?_
      refine lv_iadd hx hb dX6_feels_45 ?_
      obtain ⟨gg, h⟩ := og h
      refine va_iald hx hb hK hP 2 0 rfl rfl gg dX6_feels_46 ?_
      refine lv_iconst (v := 1) hx hb dX6_feels_47 (by decide) ?_
      refine lv_iadd hx hb dX6_feels_48 ?_
      refine lv_goto (tgt := 53) hx hb dX6_feels_49 (by decide) ?_
      obtain ⟨gg, h⟩ := og h
      refine va_iast hx hb hK hP hD hS 2 0 rfl rfl gg dX6_feels_53 (fun H locs hP hD hS => ?_)
      have hP : va_P D vwCl [(a_t, .inr (5, [.int t_length, .ref a_t_text, .int t_spot, .ref a_t_told, .ref a_t_read, .ref a_t_s, .ref a_t_before, .int t_undoMany, .int t_shortAs, .int t_isolatorAs, .int t_worstWire, .int t_worstLost])), (a_t_told, .inl (cI, 67, .inl t_told)), (a_t_s, .inl (cI, 87, .inl (upd t_s ((24 + x0)).toNatClampNeg ((t_s ((24 + x0)).toNatClampNeg) + 1))))] H := hP
      have hD : va_D A [(a_t, .inr (5, [.int t_length, .ref a_t_text, .int t_spot, .ref a_t_told, .ref a_t_read, .ref a_t_s, .ref a_t_before, .int t_undoMany, .int t_shortAs, .int t_isolatorAs, .int t_worstWire, .int t_worstLost])), (a_t_told, .inl (cI, 67, .inl t_told)), (a_t_s, .inl (cI, 87, .inl (upd t_s ((24 + x0)).toNatClampNeg ((t_s ((24 + x0)).toNatClampNeg) + 1))))] := hD
      obtain rfl := Option.some.inj h
      exact jn54 H locs ls hP hD hS (lv_sub hl [2, 3, 1, 0] rfl)

def f_X6_ticks_15 (t_shortAs : Int32) (t_isolatorAs : Int32) (t_told : FN) : Nat → Int32 → Int32 → FN → Option (Int32 × FN)
  | 0, _, _, _ => none
  | n + 1, v1, v2, w_t_s => (if (t_told (60 : Int32).toNatClampNeg) ≤ v2 then some (v1, w_t_s) else ((f_X6_isLost t_shortAs t_isolatorAs t_told w_t_s v2).bind (fun u28 => (if u28 = 0 then ((f_X6_feels t_told w_t_s v2).bind (fun u37 => (if u37.1 = 0 then f_X6_ticks_15 t_shortAs t_isolatorAs t_told n (v1 + 0) (v2 + 1) u37.2 else f_X6_ticks_15 t_shortAs t_isolatorAs t_told n (v1 + 1) (v2 + 1) u37.2))) else f_X6_ticks_15 t_shortAs t_isolatorAs t_told n v1 (v2 + 1) w_t_s))))
def f_X6_ticks_60 (t_told : FN) : Nat → Int32 → Int32 → FN → Option (Int32 × FN)
  | 0, _, _, _ => none
  | n + 1, v2, v3, w_t_s => (if 6 ≤ v3 then some (v2, w_t_s) else ((f_X6_isZone t_told w_t_s v3).bind (fun u68 => (if u68 = 0 then f_X6_ticks_60 t_told n v2 (v3 + 1) w_t_s else (if gi (79 + v3) 87 then (if (w_t_s ((79 + v3)).toNatClampNeg) = 0 then (if gi (79 + v3) 87 then f_X6_ticks_60 t_told n 1 (v3 + 1) (upd w_t_s ((79 + v3)).toNatClampNeg (w_t_s (86 : Int32).toNatClampNeg)) else none) else f_X6_ticks_60 t_told n v2 (v3 + 1) w_t_s) else none)))))
def f_X6_ticks_112 (t_told : FN) (q60 : Int32 × FN) : Nat → Int32 → FN → Option (FN)
  | 0, _, _ => none
  | n + 1, v3, w_t_s => (if (t_told (61 : Int32).toNatClampNeg) ≤ v3 then some (w_t_s) else (((if q60.1 = 0 then (if gi (73 + v3) 87 then some ((w_t_s ((73 + v3)).toNatClampNeg)) else none) else some (0))).bind (fun (u148 : Int32) => (if gi (73 + v3) 87 then (if gi (67 + v3) 87 then (if ((upd w_t_s ((73 + v3)).toNatClampNeg u148) ((67 + v3)).toNatClampNeg) = 0 then ((f_X6_isWanted t_told (upd w_t_s ((73 + v3)).toNatClampNeg u148) v3).bind (fun u171 => (((if u171 = 0 then some (0) else (if gi (61 + v3) 87 then some ((((upd w_t_s ((73 + v3)).toNatClampNeg u148) ((61 + v3)).toNatClampNeg) + 1)) else none))).bind (fun (u192 : Int32) => (if gi (61 + v3) 87 then (if gi (61 + v3) 87 then (((if ((upd (upd w_t_s ((73 + v3)).toNatClampNeg u148) ((61 + v3)).toNatClampNeg u192) (85 : Int32).toNatClampNeg) = 1 then (if gi ((36 + (4 * v3)) + 2) 67 then some ((t_told (((36 + (4 * v3)) + 2)).toNatClampNeg)) else none) else some (0))).bind (fun (u238 : Int32) => (if ((upd (upd w_t_s ((73 + v3)).toNatClampNeg u148) ((61 + v3)).toNatClampNeg u192) ((61 + v3)).toNatClampNeg) ≤ u238 then (if gi (67 + v3) 87 then f_X6_ticks_112 t_told q60 n (v3 + 1) (upd (upd (upd w_t_s ((73 + v3)).toNatClampNeg u148) ((61 + v3)).toNatClampNeg u192) ((67 + v3)).toNatClampNeg 0) else none) else (if gi (67 + v3) 87 then f_X6_ticks_112 t_told q60 n (v3 + 1) (upd (upd (upd w_t_s ((73 + v3)).toNatClampNeg u148) ((61 + v3)).toNatClampNeg u192) ((67 + v3)).toNatClampNeg 1) else none)))) else none) else none))))) else f_X6_ticks_112 t_told q60 n (v3 + 1) (upd w_t_s ((73 + v3)).toNatClampNeg u148)) else none) else none))))
def f_X6_ticks (t_shortAs : Int32) (t_isolatorAs : Int32) (t_told : FN) (t_s : FN) : Option (Int32 × FN) := ((f_X6_ticks_15 t_shortAs t_isolatorAs t_told 1000 0 0 (upd t_s (86 : Int32).toNatClampNeg ((t_s (86 : Int32).toNatClampNeg) + 1))).bind (fun (q15 : Int32 × FN) => ((f_X6_ticks_60 t_told 1000 0 0 q15.2).bind (fun (q60 : Int32 × FN) => ((f_X6_ticks_112 t_told q60 1000 0 q60.2).bind (fun (q112 : FN) => some (q15.1, q112)))))))
abbrev rm_X6_ticks : Room := { frames := 5, cells := 0, slots := 0, locals := 110 }
theorem cd_X6_ticks : (yX6_ticks).cls = RX6 ∧ (yX6_ticks).cls ≠ "java/lang/invoke/MethodHandle" ∧ (yX6_ticks).cls ≠ "java/lang/invoke/VarHandle" ∧ (parseMethodDescriptor (yX6_ticks).desc).map (fun d => d.parameters.length) = some 0 := by decide +kernel
set_option maxHeartbeats 4000000 in
set_option maxRecDepth 100000 in
theorem c_X6_ticks (l : Launch) (D : va_G) (cI cS : ClassId) (a_t a_t_told a_t_s a_t_text a_t_read a_t_before : Nat) (sz : Nat) (t_length : Int32) (t_spot : Int32) (t_undoMany : Int32) (t_shortAs : Int32) (t_isolatorAs : Int32) (t_worstWire : Int32) (t_worstLost : Int32) (t_told : FN) (t_s : FN) (out : Int32 × FN) (h : f_X6_ticks t_shortAs t_isolatorAs t_told t_s = some out) : Met l yX6_ticks wsX6_ticks rm_X6_ticks (va_Pc [.ref a_t] (GP D cI cS [(a_t, .inr (5, [.int t_length, .ref a_t_text, .int t_spot, .ref a_t_told, .ref a_t_read, .ref a_t_s, .ref a_t_before, .int t_undoMany, .int t_shortAs, .int t_isolatorAs, .int t_worstWire, .int t_worstLost])), (a_t_told, .inl (cI, 67, .inl t_told)), (a_t_s, .inl (cI, 87, .inl t_s))] sz)) (QI D [(a_t, .inr (5, [.int t_length, .ref a_t_text, .int t_spot, .ref a_t_told, .ref a_t_read, .ref a_t_s, .ref a_t_before, .int t_undoMany, .int t_shortAs, .int t_isolatorAs, .int t_worstWire, .int t_worstLost])), (a_t_told, .inl (cI, 67, .inl t_told)), (a_t_s, .inl (cI, 87, .inl t_s))] sz [(a_t, .inr (5, [.int t_length, .ref a_t_text, .int t_spot, .ref a_t_told, .ref a_t_read, .ref a_t_s, .ref a_t_before, .int t_undoMany, .int t_shortAs, .int t_isolatorAs, .int t_worstWire, .int t_worstLost])), (a_t_told, .inl (cI, 67, .inl t_told)), (a_t_s, .inl (cI, 87, .inl out.2))] out.1) 0 0 (va_A [(a_t, .inr (5, [.int t_length, .ref a_t_text, .int t_spot, .ref a_t_told, .ref a_t_read, .ref a_t_s, .ref a_t_before, .int t_undoMany, .int t_shortAs, .int t_isolatorAs, .int t_worstWire, .int t_worstLost])), (a_t_told, .inl (cI, 67, .inl t_told)), (a_t_s, .inl (cI, 87, .inl t_s))] sz) := by
  refine gm_i (cc := cX6_ticks) (maxL := 4) (rt := .int) (by decide) rfl (Nat.le_of_ble_eq_true rfl) ?_
  intro p e s m args below meth c A Q H locs ls hx hb hml hown hts hK hN hA hP hD hS hl hQ
  have hown : s.vm.findClass RX6 = some m.cls := hown
  have hl : lv_has ls 4 [(0, .ref a_t)] := hl
  have inX6 : ∀ w ∈ wsX60, w ∈ wsX6_ticks := by decide +kernel
  have k_0 := hts (.fieldLink RX6 19 "AlarmRingModel" "s" "[I") (by decide +kernel)
  have k_1 := hts (.fieldLink RX6 13 "AlarmRingModel" "told" "[I") (by decide +kernel)
  unfold f_X6_ticks at h
  refine lv_iconst (v := 0) hx hb dX6_ticks_0 (by decide) ?_
  refine lv_istore_n (lv' := [(1, .int 0), (0, .ref a_t)]) hx hb dX6_ticks_1 rfl hl (by decide) rfl (fun ls hl => ?_)
  refine lv_aload_n hx hb dX6_ticks_2 rfl (lv_at hl 1 rfl) ?_
  refine va_get (D := D) (ci := 5) (v := .ref a_t_s) (C := RX6) (T := TX6) (N := 12) hx hb hts inX6 hown hK hP 0 rfl rfl 5 (by decide) k_0 (fun _ h9 => h9) rfl dX6_ticks_3 ?_
  refine lv_bipush (v := 86) hx hb dX6_ticks_6 (by decide) ?_
  refine lv_dup2_11 hx hb dX6_ticks_8 rfl rfl ?_
  refine va_iald hx hb hK hP 2 0 rfl rfl (i := 86) (show gi 86 87 by decide) dX6_ticks_9 ?_
  refine lv_iconst (v := 1) hx hb dX6_ticks_10 (by decide) ?_
  refine lv_iadd hx hb dX6_ticks_11 ?_
  refine va_iast hx hb hK hP hD hS 2 0 rfl rfl (i := 86) (show gi 86 87 by decide) dX6_ticks_12 (fun H locs hP hD hS => ?_)
  have hP : va_P D vwCl [(a_t, .inr (5, [.int t_length, .ref a_t_text, .int t_spot, .ref a_t_told, .ref a_t_read, .ref a_t_s, .ref a_t_before, .int t_undoMany, .int t_shortAs, .int t_isolatorAs, .int t_worstWire, .int t_worstLost])), (a_t_told, .inl (cI, 67, .inl t_told)), (a_t_s, .inl (cI, 87, .inl (upd t_s (86 : Int32).toNatClampNeg ((t_s (86 : Int32).toNatClampNeg) + 1))))] H := hP
  have hD : va_D A [(a_t, .inr (5, [.int t_length, .ref a_t_text, .int t_spot, .ref a_t_told, .ref a_t_read, .ref a_t_s, .ref a_t_before, .int t_undoMany, .int t_shortAs, .int t_isolatorAs, .int t_worstWire, .int t_worstLost])), (a_t_told, .inl (cI, 67, .inl t_told)), (a_t_s, .inl (cI, 87, .inl (upd t_s (86 : Int32).toNatClampNeg ((t_s (86 : Int32).toNatClampNeg) + 1))))] := hD
  refine lv_iconst (v := 0) hx hb dX6_ticks_13 (by decide) ?_
  refine lv_istore_n (lv' := [(2, .int 0), (1, .int 0), (0, .ref a_t)]) hx hb dX6_ticks_14 rfl hl (by decide) rfl (fun ls hl => ?_)
  obtain ⟨q15, hq15, h⟩ := ob h
  have lp15 : ∀ (n : Nat) (v1 : Int32) (v2 : Int32) (w_t_s : FN) (H : Heap) (locs : List Loc) (ls : Array Slot), va_P D vwCl [(a_t, .inr (5, [.int t_length, .ref a_t_text, .int t_spot, .ref a_t_told, .ref a_t_read, .ref a_t_s, .ref a_t_before, .int t_undoMany, .int t_shortAs, .int t_isolatorAs, .int t_worstWire, .int t_worstLost])), (a_t_told, .inl (cI, 67, .inl t_told)), (a_t_s, .inl (cI, 87, .inl w_t_s))] H → va_D A [(a_t, .inr (5, [.int t_length, .ref a_t_text, .int t_spot, .ref a_t_told, .ref a_t_read, .ref a_t_s, .ref a_t_before, .int t_undoMany, .int t_shortAs, .int t_isolatorAs, .int t_worstWire, .int t_worstLost])), (a_t_told, .inl (cI, 67, .inl t_told)), (a_t_s, .inl (cI, 87, .inl w_t_s))] → va_S A s.heap H locs → lv_has ls 4 [(0, .ref a_t), (1, .int v1), (2, .int v2)] → ∀ (q15 : Int32 × FN), f_X6_ticks_15 t_shortAs t_isolatorAs t_told n v1 v2 w_t_s = some q15 → (∀ (H : Heap) (locs : List Loc) (ls : Array Slot), va_P D vwCl [(a_t, .inr (5, [.int t_length, .ref a_t_text, .int t_spot, .ref a_t_told, .ref a_t_read, .ref a_t_s, .ref a_t_before, .int t_undoMany, .int t_shortAs, .int t_isolatorAs, .int t_worstWire, .int t_worstLost])), (a_t_told, .inl (cI, 67, .inl t_told)), (a_t_s, .inl (cI, 87, .inl q15.2))] H → va_D A [(a_t, .inr (5, [.int t_length, .ref a_t_text, .int t_spot, .ref a_t_told, .ref a_t_read, .ref a_t_s, .ref a_t_before, .int t_undoMany, .int t_shortAs, .int t_isolatorAs, .int t_worstWire, .int t_worstLost])), (a_t_told, .inl (cI, 67, .inl t_told)), (a_t_s, .inl (cI, 87, .inl q15.2))] → va_S A s.heap H locs → lv_has ls 4 [(0, .ref a_t), (1, .int q15.1)] → W p l e rm_X6_ticks s m args below meth c H locs 0 0 Q (F0 m 56 ls [])) → W p l e rm_X6_ticks s m args below meth c H locs 0 0 Q (F0 m 15 ls []) := by
    intro n
    induction n with
    | zero => intro v1 v2 w_t_s H locs ls hP hD hS hl q15 h kk; exact on_ h
    | succ n ih =>
      intro v1 v2 w_t_s H locs ls hP hD hS hl q15 h kk
      rw [f_X6_ticks_15] at h
      refine lv_iload_n hx hb dX6_ticks_15 rfl (lv_at hl 2 rfl) ?_
      refine lv_aload_n hx hb dX6_ticks_16 rfl (lv_at hl 0 rfl) ?_
      refine va_get (D := D) (ci := 5) (v := .ref a_t_told) (C := RX6) (T := TX6) (N := 12) hx hb hts inX6 hown hK hP 0 rfl rfl 3 (by decide) k_1 (fun _ h9 => h9) rfl dX6_ticks_17 ?_
      refine lv_bipush (v := 60) hx hb dX6_ticks_20 (by decide) ?_
      refine va_iald hx hb hK hP 1 0 rfl rfl (i := 60) (show gi 60 67 by decide) dX6_ticks_22 ?_
      refine lv_icmp_ge (tgt := 56) hx hb dX6_ticks_23 (by decide) (fun cc => ?_) (fun cc => ?_)
      · have h := oi_t cc h
        obtain rfl := Option.some.inj h
        exact kk H locs ls hP hD hS (lv_sub hl [0, 1] rfl)
      · have h := oi_f cc h
        refine lv_aload_n hx hb dX6_ticks_26 rfl (lv_at hl 0 rfl) ?_
        refine lv_iload_n hx hb dX6_ticks_27 rfl (lv_at hl 2 rfl) ?_
        obtain ⟨u28, hu28, h⟩ := ob h
        refine gV_i (C := RX6) (T := TX6) (N := 12) (ci := 5) (q0 := 0) (wc := [(a_t, .inr (5, [.int t_length, .ref a_t_text, .int t_spot, .ref a_t_told, .ref a_t_read, .ref a_t_s, .ref a_t_before, .int t_undoMany, .int t_shortAs, .int t_isolatorAs, .int t_worstWire, .int t_worstLost])), (a_t_told, .inl (cI, 67, .inl t_told)), (a_t_s, .inl (cI, 87, .inl w_t_s))]) (wr := []) (w1 := [(a_t, .inr (5, [.int t_length, .ref a_t_text, .int t_spot, .ref a_t_told, .ref a_t_read, .ref a_t_s, .ref a_t_before, .int t_undoMany, .int t_shortAs, .int t_isolatorAs, .int t_worstWire, .int t_worstLost])), (a_t_told, .inl (cI, 67, .inl t_told)), (a_t_s, .inl (cI, 87, .inl w_t_s))]) (v := u28) (As := [.int v2]) (rest := []) ⟨hx, hb, hml, hown, hts⟩ (c_X6_isLost l D cI cS a_t a_t_told a_t_s a_t_text a_t_read a_t_before H.size t_length t_spot t_undoMany t_shortAs t_isolatorAs t_worstWire t_worstLost t_told w_t_s v2 u28 hu28) (cwV 1 hts gX6_ticks_X6_isLost rfl rfl rfl cd_X6_isLost ⟨Nat.le_of_ble_eq_true rfl, Nat.le_of_ble_eq_true rfl⟩) hK hN hP hD hS hA [0, 1, 2] [] rfl rfl (by decide) (by decide) (by decide) rfl rfl rfl hl.1 rfl (Nat.le_of_ble_eq_true rfl) dX6_ticks_28 ⟨Nat.zero_le _, Nat.zero_le _⟩ (fun H locs hP hD hS => ?_)
        have hP : va_P D vwCl [(a_t, .inr (5, [.int t_length, .ref a_t_text, .int t_spot, .ref a_t_told, .ref a_t_read, .ref a_t_s, .ref a_t_before, .int t_undoMany, .int t_shortAs, .int t_isolatorAs, .int t_worstWire, .int t_worstLost])), (a_t_told, .inl (cI, 67, .inl t_told)), (a_t_s, .inl (cI, 87, .inl w_t_s))] H := hP
        have hD : va_D A [(a_t, .inr (5, [.int t_length, .ref a_t_text, .int t_spot, .ref a_t_told, .ref a_t_read, .ref a_t_s, .ref a_t_before, .int t_undoMany, .int t_shortAs, .int t_isolatorAs, .int t_worstWire, .int t_worstLost])), (a_t_told, .inl (cI, 67, .inl t_told)), (a_t_s, .inl (cI, 87, .inl w_t_s))] := hD
        refine lv_if_ne (tgt := 50) hx hb dX6_ticks_31 (by decide) (fun cc => ?_) (fun cc => ?_)
        · have h := oi_f cc h
          refine lv_iinc (v := (v2 + 1)) (lv' := [(2, .int (v2 + 1)), (0, .ref a_t), (1, .int v1)]) hx hb dX6_ticks_50 hl (k := 2) rfl (by first | rfl | decide) (by decide) rfl (fun ls hl => ?_)
          refine lv_goto (tgt := 15) hx hb dX6_ticks_53 (by decide) ?_
          exact ih v1 (v2 + 1) w_t_s H locs ls hP hD hS (lv_sub hl [1, 2, 0] rfl) q15 h kk
        · have h := oi_t cc h
          refine lv_iload_n hx hb dX6_ticks_34 rfl (lv_at hl 1 rfl) ?_
          refine lv_aload_n hx hb dX6_ticks_35 rfl (lv_at hl 0 rfl) ?_
          refine lv_iload_n hx hb dX6_ticks_36 rfl (lv_at hl 2 rfl) ?_
          obtain ⟨u37, hu37, h⟩ := ob h
          refine gV_i (C := RX6) (T := TX6) (N := 12) (ci := 5) (q0 := 0) (wc := [(a_t, .inr (5, [.int t_length, .ref a_t_text, .int t_spot, .ref a_t_told, .ref a_t_read, .ref a_t_s, .ref a_t_before, .int t_undoMany, .int t_shortAs, .int t_isolatorAs, .int t_worstWire, .int t_worstLost])), (a_t_told, .inl (cI, 67, .inl t_told)), (a_t_s, .inl (cI, 87, .inl w_t_s))]) (wr := []) (w1 := [(a_t, .inr (5, [.int t_length, .ref a_t_text, .int t_spot, .ref a_t_told, .ref a_t_read, .ref a_t_s, .ref a_t_before, .int t_undoMany, .int t_shortAs, .int t_isolatorAs, .int t_worstWire, .int t_worstLost])), (a_t_told, .inl (cI, 67, .inl t_told)), (a_t_s, .inl (cI, 87, .inl u37.2))]) (v := u37.1) (As := [.int v2]) (rest := [.int v1]) ⟨hx, hb, hml, hown, hts⟩ (c_X6_feels l D cI cS a_t a_t_told a_t_s a_t_text a_t_read a_t_before H.size t_length t_spot t_undoMany t_shortAs t_isolatorAs t_worstWire t_worstLost t_told w_t_s v2 u37 hu37) (cwV 1 hts gX6_ticks_X6_feels rfl rfl rfl cd_X6_feels ⟨Nat.le_of_ble_eq_true rfl, Nat.le_of_ble_eq_true rfl⟩) hK hN hP hD hS hA [0, 1, 2] [] rfl rfl (by decide) (by decide) (by decide) rfl rfl rfl hl.1 rfl (Nat.le_of_ble_eq_true rfl) dX6_ticks_37 ⟨Nat.zero_le _, Nat.zero_le _⟩ (fun H locs hP hD hS => ?_)
          have hP : va_P D vwCl [(a_t, .inr (5, [.int t_length, .ref a_t_text, .int t_spot, .ref a_t_told, .ref a_t_read, .ref a_t_s, .ref a_t_before, .int t_undoMany, .int t_shortAs, .int t_isolatorAs, .int t_worstWire, .int t_worstLost])), (a_t_told, .inl (cI, 67, .inl t_told)), (a_t_s, .inl (cI, 87, .inl u37.2))] H := hP
          have hD : va_D A [(a_t, .inr (5, [.int t_length, .ref a_t_text, .int t_spot, .ref a_t_told, .ref a_t_read, .ref a_t_s, .ref a_t_before, .int t_undoMany, .int t_shortAs, .int t_isolatorAs, .int t_worstWire, .int t_worstLost])), (a_t_told, .inl (cI, 67, .inl t_told)), (a_t_s, .inl (cI, 87, .inl u37.2))] := hD
          refine lv_if_eq (tgt := 47) hx hb dX6_ticks_40 (by decide) (fun cc => ?_) (fun cc => ?_)
          · have h := oi_t cc h
            refine lv_iconst (v := 0) hx hb dX6_ticks_47 (by decide) ?_
            refine lv_iadd hx hb dX6_ticks_48 ?_
            refine lv_istore_n (lv' := [(1, .int (v1 + 0)), (0, .ref a_t), (2, .int v2)]) hx hb dX6_ticks_49 rfl hl (by decide) rfl (fun ls hl => ?_)
            refine lv_iinc (v := (v2 + 1)) (lv' := [(2, .int (v2 + 1)), (1, .int (v1 + 0)), (0, .ref a_t)]) hx hb dX6_ticks_50 hl (k := 2) rfl (by first | rfl | decide) (by decide) rfl (fun ls hl => ?_)
            refine lv_goto (tgt := 15) hx hb dX6_ticks_53 (by decide) ?_
            exact ih (v1 + 0) (v2 + 1) u37.2 H locs ls hP hD hS (lv_sub hl [2, 1, 0] rfl) q15 h kk
          · have h := oi_f cc h
            refine lv_iconst (v := 1) hx hb dX6_ticks_43 (by decide) ?_
            refine lv_goto (tgt := 48) hx hb dX6_ticks_44 (by decide) ?_
            refine lv_iadd hx hb dX6_ticks_48 ?_
            refine lv_istore_n (lv' := [(1, .int (v1 + 1)), (0, .ref a_t), (2, .int v2)]) hx hb dX6_ticks_49 rfl hl (by decide) rfl (fun ls hl => ?_)
            refine lv_iinc (v := (v2 + 1)) (lv' := [(2, .int (v2 + 1)), (1, .int (v1 + 1)), (0, .ref a_t)]) hx hb dX6_ticks_50 hl (k := 2) rfl (by first | rfl | decide) (by decide) rfl (fun ls hl => ?_)
            refine lv_goto (tgt := 15) hx hb dX6_ticks_53 (by decide) ?_
            exact ih (v1 + 1) (v2 + 1) u37.2 H locs ls hP hD hS (lv_sub hl [2, 1, 0] rfl) q15 h kk
  refine lp15 1000 0 0 (upd t_s (86 : Int32).toNatClampNeg ((t_s (86 : Int32).toNatClampNeg) + 1)) H locs ls hP hD hS (lv_sub hl [2, 1, 0] rfl) q15 hq15 (fun H locs ls hP hD hS hl => ?_)
  refine lv_iconst (v := 0) hx hb dX6_ticks_56 (by decide) ?_
  refine lv_istore_n (lv' := [(2, .int 0), (0, .ref a_t), (1, .int q15.1)]) hx hb dX6_ticks_57 rfl hl (by decide) rfl (fun ls hl => ?_)
  refine lv_iconst (v := 0) hx hb dX6_ticks_58 (by decide) ?_
  refine lv_istore_n (lv' := [(3, .int 0), (2, .int 0), (0, .ref a_t), (1, .int q15.1)]) hx hb dX6_ticks_59 rfl hl (by decide) rfl (fun ls hl => ?_)
  obtain ⟨q60, hq60, h⟩ := ob h
  have lp60 : ∀ (n : Nat) (v2 : Int32) (v3 : Int32) (w_t_s : FN) (H : Heap) (locs : List Loc) (ls : Array Slot), va_P D vwCl [(a_t, .inr (5, [.int t_length, .ref a_t_text, .int t_spot, .ref a_t_told, .ref a_t_read, .ref a_t_s, .ref a_t_before, .int t_undoMany, .int t_shortAs, .int t_isolatorAs, .int t_worstWire, .int t_worstLost])), (a_t_told, .inl (cI, 67, .inl t_told)), (a_t_s, .inl (cI, 87, .inl w_t_s))] H → va_D A [(a_t, .inr (5, [.int t_length, .ref a_t_text, .int t_spot, .ref a_t_told, .ref a_t_read, .ref a_t_s, .ref a_t_before, .int t_undoMany, .int t_shortAs, .int t_isolatorAs, .int t_worstWire, .int t_worstLost])), (a_t_told, .inl (cI, 67, .inl t_told)), (a_t_s, .inl (cI, 87, .inl w_t_s))] → va_S A s.heap H locs → lv_has ls 4 [(0, .ref a_t), (1, .int q15.1), (2, .int v2), (3, .int v3)] → ∀ (q60 : Int32 × FN), f_X6_ticks_60 t_told n v2 v3 w_t_s = some q60 → (∀ (H : Heap) (locs : List Loc) (ls : Array Slot), va_P D vwCl [(a_t, .inr (5, [.int t_length, .ref a_t_text, .int t_spot, .ref a_t_told, .ref a_t_read, .ref a_t_s, .ref a_t_before, .int t_undoMany, .int t_shortAs, .int t_isolatorAs, .int t_worstWire, .int t_worstLost])), (a_t_told, .inl (cI, 67, .inl t_told)), (a_t_s, .inl (cI, 87, .inl q60.2))] H → va_D A [(a_t, .inr (5, [.int t_length, .ref a_t_text, .int t_spot, .ref a_t_told, .ref a_t_read, .ref a_t_s, .ref a_t_before, .int t_undoMany, .int t_shortAs, .int t_isolatorAs, .int t_worstWire, .int t_worstLost])), (a_t_told, .inl (cI, 67, .inl t_told)), (a_t_s, .inl (cI, 87, .inl q60.2))] → va_S A s.heap H locs → lv_has ls 4 [(0, .ref a_t), (1, .int q15.1), (2, .int q60.1)] → W p l e rm_X6_ticks s m args below meth c H locs 0 0 Q (F0 m 110 ls [])) → W p l e rm_X6_ticks s m args below meth c H locs 0 0 Q (F0 m 60 ls []) := by
    intro n
    induction n with
    | zero => intro v2 v3 w_t_s H locs ls hP hD hS hl q60 h kk; exact on_ h
    | succ n ih =>
      intro v2 v3 w_t_s H locs ls hP hD hS hl q60 h kk
      rw [f_X6_ticks_60] at h
      refine lv_iload_n hx hb dX6_ticks_60 rfl (lv_at hl 3 rfl) ?_
      refine lv_bipush (v := 6) hx hb dX6_ticks_61 (by decide) ?_
      refine lv_icmp_ge (tgt := 110) hx hb dX6_ticks_63 (by decide) (fun cc => ?_) (fun cc => ?_)
      · have h := oi_t cc h
        obtain rfl := Option.some.inj h
        exact kk H locs ls hP hD hS (lv_sub hl [0, 1, 2] rfl)
      · have h := oi_f cc h
        refine lv_aload_n hx hb dX6_ticks_66 rfl (lv_at hl 0 rfl) ?_
        refine lv_iload_n hx hb dX6_ticks_67 rfl (lv_at hl 3 rfl) ?_
        obtain ⟨u68, hu68, h⟩ := ob h
        refine gV_i (C := RX6) (T := TX6) (N := 12) (ci := 5) (q0 := 0) (wc := [(a_t, .inr (5, [.int t_length, .ref a_t_text, .int t_spot, .ref a_t_told, .ref a_t_read, .ref a_t_s, .ref a_t_before, .int t_undoMany, .int t_shortAs, .int t_isolatorAs, .int t_worstWire, .int t_worstLost])), (a_t_told, .inl (cI, 67, .inl t_told)), (a_t_s, .inl (cI, 87, .inl w_t_s))]) (wr := []) (w1 := [(a_t, .inr (5, [.int t_length, .ref a_t_text, .int t_spot, .ref a_t_told, .ref a_t_read, .ref a_t_s, .ref a_t_before, .int t_undoMany, .int t_shortAs, .int t_isolatorAs, .int t_worstWire, .int t_worstLost])), (a_t_told, .inl (cI, 67, .inl t_told)), (a_t_s, .inl (cI, 87, .inl w_t_s))]) (v := u68) (As := [.int v3]) (rest := []) ⟨hx, hb, hml, hown, hts⟩ (c_X6_isZone l D cI cS a_t a_t_told a_t_s a_t_text a_t_read a_t_before H.size t_length t_spot t_undoMany t_shortAs t_isolatorAs t_worstWire t_worstLost t_told w_t_s v3 u68 hu68) (cwV 1 hts gX6_ticks_X6_isZone rfl rfl rfl cd_X6_isZone ⟨Nat.le_of_ble_eq_true rfl, Nat.le_of_ble_eq_true rfl⟩) hK hN hP hD hS hA [0, 1, 2] [] rfl rfl (by decide) (by decide) (by decide) rfl rfl rfl hl.1 rfl (Nat.le_of_ble_eq_true rfl) dX6_ticks_68 ⟨Nat.zero_le _, Nat.zero_le _⟩ (fun H locs hP hD hS => ?_)
        have hP : va_P D vwCl [(a_t, .inr (5, [.int t_length, .ref a_t_text, .int t_spot, .ref a_t_told, .ref a_t_read, .ref a_t_s, .ref a_t_before, .int t_undoMany, .int t_shortAs, .int t_isolatorAs, .int t_worstWire, .int t_worstLost])), (a_t_told, .inl (cI, 67, .inl t_told)), (a_t_s, .inl (cI, 87, .inl w_t_s))] H := hP
        have hD : va_D A [(a_t, .inr (5, [.int t_length, .ref a_t_text, .int t_spot, .ref a_t_told, .ref a_t_read, .ref a_t_s, .ref a_t_before, .int t_undoMany, .int t_shortAs, .int t_isolatorAs, .int t_worstWire, .int t_worstLost])), (a_t_told, .inl (cI, 67, .inl t_told)), (a_t_s, .inl (cI, 87, .inl w_t_s))] := hD
        refine lv_if_eq (tgt := 104) hx hb dX6_ticks_71 (by decide) (fun cc => ?_) (fun cc => ?_)
        · have h := oi_t cc h
          refine lv_iinc (v := (v3 + 1)) (lv' := [(3, .int (v3 + 1)), (0, .ref a_t), (1, .int q15.1), (2, .int v2)]) hx hb dX6_ticks_104 hl (k := 3) rfl (by first | rfl | decide) (by decide) rfl (fun ls hl => ?_)
          refine lv_goto (tgt := 60) hx hb dX6_ticks_107 (by decide) ?_
          exact ih v2 (v3 + 1) w_t_s H locs ls hP hD hS (lv_sub hl [1, 2, 3, 0] rfl) q60 h kk
        · have h := oi_f cc h
          refine lv_aload_n hx hb dX6_ticks_74 rfl (lv_at hl 0 rfl) ?_
          refine va_get (D := D) (ci := 5) (v := .ref a_t_s) (C := RX6) (T := TX6) (N := 12) hx hb hts inX6 hown hK hP 0 rfl rfl 5 (by decide) k_0 (fun _ h9 => h9) rfl dX6_ticks_75 ?_
          refine lv_bipush (v := 79) hx hb dX6_ticks_78 (by decide) ?_
          refine lv_iload_n hx hb dX6_ticks_80 rfl (lv_at hl 3 rfl) ?_
          refine lv_iadd hx hb dX6_ticks_81 ?_
          obtain ⟨gg, h⟩ := og h
          refine va_iald hx hb hK hP 2 0 rfl rfl gg dX6_ticks_82 ?_
          refine lv_if_ne (tgt := 104) hx hb dX6_ticks_83 (by decide) (fun cc => ?_) (fun cc => ?_)
          · have h := oi_f cc h
            refine lv_iinc (v := (v3 + 1)) (lv' := [(3, .int (v3 + 1)), (0, .ref a_t), (1, .int q15.1), (2, .int v2)]) hx hb dX6_ticks_104 hl (k := 3) rfl (by first | rfl | decide) (by decide) rfl (fun ls hl => ?_)
            refine lv_goto (tgt := 60) hx hb dX6_ticks_107 (by decide) ?_
            exact ih v2 (v3 + 1) w_t_s H locs ls hP hD hS (lv_sub hl [1, 2, 3, 0] rfl) q60 h kk
          · have h := oi_t cc h
            refine lv_aload_n hx hb dX6_ticks_86 rfl (lv_at hl 0 rfl) ?_
            refine va_get (D := D) (ci := 5) (v := .ref a_t_s) (C := RX6) (T := TX6) (N := 12) hx hb hts inX6 hown hK hP 0 rfl rfl 5 (by decide) k_0 (fun _ h9 => h9) rfl dX6_ticks_87 ?_
            refine lv_bipush (v := 79) hx hb dX6_ticks_90 (by decide) ?_
            refine lv_iload_n hx hb dX6_ticks_92 rfl (lv_at hl 3 rfl) ?_
            refine lv_iadd hx hb dX6_ticks_93 ?_
            refine lv_aload_n hx hb dX6_ticks_94 rfl (lv_at hl 0 rfl) ?_
            refine va_get (D := D) (ci := 5) (v := .ref a_t_s) (C := RX6) (T := TX6) (N := 12) hx hb hts inX6 hown hK hP 0 rfl rfl 5 (by decide) k_0 (fun _ h9 => h9) rfl dX6_ticks_95 ?_
            refine lv_bipush (v := 86) hx hb dX6_ticks_98 (by decide) ?_
            refine va_iald hx hb hK hP 2 0 rfl rfl (i := 86) (show gi 86 87 by decide) dX6_ticks_100 ?_
            obtain ⟨gg, h⟩ := og h
            refine va_iast hx hb hK hP hD hS 2 0 rfl rfl gg dX6_ticks_101 (fun H locs hP hD hS => ?_)
            have hP : va_P D vwCl [(a_t, .inr (5, [.int t_length, .ref a_t_text, .int t_spot, .ref a_t_told, .ref a_t_read, .ref a_t_s, .ref a_t_before, .int t_undoMany, .int t_shortAs, .int t_isolatorAs, .int t_worstWire, .int t_worstLost])), (a_t_told, .inl (cI, 67, .inl t_told)), (a_t_s, .inl (cI, 87, .inl (upd w_t_s ((79 + v3)).toNatClampNeg (w_t_s (86 : Int32).toNatClampNeg))))] H := hP
            have hD : va_D A [(a_t, .inr (5, [.int t_length, .ref a_t_text, .int t_spot, .ref a_t_told, .ref a_t_read, .ref a_t_s, .ref a_t_before, .int t_undoMany, .int t_shortAs, .int t_isolatorAs, .int t_worstWire, .int t_worstLost])), (a_t_told, .inl (cI, 67, .inl t_told)), (a_t_s, .inl (cI, 87, .inl (upd w_t_s ((79 + v3)).toNatClampNeg (w_t_s (86 : Int32).toNatClampNeg))))] := hD
            refine lv_iconst (v := 1) hx hb dX6_ticks_102 (by decide) ?_
            refine lv_istore_n (lv' := [(2, .int 1), (0, .ref a_t), (1, .int q15.1), (3, .int v3)]) hx hb dX6_ticks_103 rfl hl (by decide) rfl (fun ls hl => ?_)
            refine lv_iinc (v := (v3 + 1)) (lv' := [(3, .int (v3 + 1)), (2, .int 1), (0, .ref a_t), (1, .int q15.1)]) hx hb dX6_ticks_104 hl (k := 3) rfl (by first | rfl | decide) (by decide) rfl (fun ls hl => ?_)
            refine lv_goto (tgt := 60) hx hb dX6_ticks_107 (by decide) ?_
            exact ih 1 (v3 + 1) (upd w_t_s ((79 + v3)).toNatClampNeg (w_t_s (86 : Int32).toNatClampNeg)) H locs ls hP hD hS (lv_sub hl [2, 3, 1, 0] rfl) q60 h kk
  refine lp60 1000 0 0 q15.2 H locs ls hP hD hS (lv_sub hl [2, 3, 1, 0] rfl) q60 hq60 (fun H locs ls hP hD hS hl => ?_)
  refine lv_iconst (v := 0) hx hb dX6_ticks_110 (by decide) ?_
  refine lv_istore_n (lv' := [(3, .int 0), (0, .ref a_t), (1, .int q15.1), (2, .int q60.1)]) hx hb dX6_ticks_111 rfl hl (by decide) rfl (fun ls hl => ?_)
  obtain ⟨q112, hq112, h⟩ := ob h
  have lp112 : ∀ (n : Nat) (v3 : Int32) (w_t_s : FN) (H : Heap) (locs : List Loc) (ls : Array Slot), va_P D vwCl [(a_t, .inr (5, [.int t_length, .ref a_t_text, .int t_spot, .ref a_t_told, .ref a_t_read, .ref a_t_s, .ref a_t_before, .int t_undoMany, .int t_shortAs, .int t_isolatorAs, .int t_worstWire, .int t_worstLost])), (a_t_told, .inl (cI, 67, .inl t_told)), (a_t_s, .inl (cI, 87, .inl w_t_s))] H → va_D A [(a_t, .inr (5, [.int t_length, .ref a_t_text, .int t_spot, .ref a_t_told, .ref a_t_read, .ref a_t_s, .ref a_t_before, .int t_undoMany, .int t_shortAs, .int t_isolatorAs, .int t_worstWire, .int t_worstLost])), (a_t_told, .inl (cI, 67, .inl t_told)), (a_t_s, .inl (cI, 87, .inl w_t_s))] → va_S A s.heap H locs → lv_has ls 4 [(0, .ref a_t), (1, .int q15.1), (2, .int q60.1), (3, .int v3)] → ∀ (q112 : FN), f_X6_ticks_112 t_told q60 n v3 w_t_s = some q112 → (∀ (H : Heap) (locs : List Loc) (ls : Array Slot), va_P D vwCl [(a_t, .inr (5, [.int t_length, .ref a_t_text, .int t_spot, .ref a_t_told, .ref a_t_read, .ref a_t_s, .ref a_t_before, .int t_undoMany, .int t_shortAs, .int t_isolatorAs, .int t_worstWire, .int t_worstLost])), (a_t_told, .inl (cI, 67, .inl t_told)), (a_t_s, .inl (cI, 87, .inl q112))] H → va_D A [(a_t, .inr (5, [.int t_length, .ref a_t_text, .int t_spot, .ref a_t_told, .ref a_t_read, .ref a_t_s, .ref a_t_before, .int t_undoMany, .int t_shortAs, .int t_isolatorAs, .int t_worstWire, .int t_worstLost])), (a_t_told, .inl (cI, 67, .inl t_told)), (a_t_s, .inl (cI, 87, .inl q112))] → va_S A s.heap H locs → lv_has ls 4 [(1, .int q15.1)] → W p l e rm_X6_ticks s m args below meth c H locs 0 0 Q (F0 m 253 ls [])) → W p l e rm_X6_ticks s m args below meth c H locs 0 0 Q (F0 m 112 ls []) := by
    intro n
    induction n with
    | zero => intro v3 w_t_s H locs ls hP hD hS hl q112 h kk; exact on_ h
    | succ n ih =>
      intro v3 w_t_s H locs ls hP hD hS hl q112 h kk
      rw [f_X6_ticks_112] at h
      refine lv_iload_n hx hb dX6_ticks_112 rfl (lv_at hl 3 rfl) ?_
      refine lv_aload_n hx hb dX6_ticks_113 rfl (lv_at hl 0 rfl) ?_
      refine va_get (D := D) (ci := 5) (v := .ref a_t_told) (C := RX6) (T := TX6) (N := 12) hx hb hts inX6 hown hK hP 0 rfl rfl 3 (by decide) k_1 (fun _ h9 => h9) rfl dX6_ticks_114 ?_
      refine lv_bipush (v := 61) hx hb dX6_ticks_117 (by decide) ?_
      refine va_iald hx hb hK hP 1 0 rfl rfl (i := 61) (show gi 61 67 by decide) dX6_ticks_119 ?_
      refine lv_icmp_ge (tgt := 253) hx hb dX6_ticks_120 (by decide) (fun cc => ?_) (fun cc => ?_)
      · have h := oi_t cc h
        obtain rfl := Option.some.inj h
        exact kk H locs ls hP hD hS (lv_sub hl [1] rfl)
      · have h := oi_f cc h
        refine lv_aload_n hx hb dX6_ticks_123 rfl (lv_at hl 0 rfl) ?_
        refine va_get (D := D) (ci := 5) (v := .ref a_t_s) (C := RX6) (T := TX6) (N := 12) hx hb hts inX6 hown hK hP 0 rfl rfl 5 (by decide) k_0 (fun _ h9 => h9) rfl dX6_ticks_124 ?_
        refine lv_bipush (v := 73) hx hb dX6_ticks_127 (by decide) ?_
        refine lv_iload_n hx hb dX6_ticks_129 rfl (lv_at hl 3 rfl) ?_
        refine lv_iadd hx hb dX6_ticks_130 ?_
        refine lv_iload_n hx hb dX6_ticks_131 rfl (lv_at hl 2 rfl) ?_
        obtain ⟨u148, hj148, h⟩ := ob h
        have jn148 : ∀ (H : Heap) (locs : List Loc) (ls : Array Slot), va_P D vwCl [(a_t, .inr (5, [.int t_length, .ref a_t_text, .int t_spot, .ref a_t_told, .ref a_t_read, .ref a_t_s, .ref a_t_before, .int t_undoMany, .int t_shortAs, .int t_isolatorAs, .int t_worstWire, .int t_worstLost])), (a_t_told, .inl (cI, 67, .inl t_told)), (a_t_s, .inl (cI, 87, .inl w_t_s))] H → va_D A [(a_t, .inr (5, [.int t_length, .ref a_t_text, .int t_spot, .ref a_t_told, .ref a_t_read, .ref a_t_s, .ref a_t_before, .int t_undoMany, .int t_shortAs, .int t_isolatorAs, .int t_worstWire, .int t_worstLost])), (a_t_told, .inl (cI, 67, .inl t_told)), (a_t_s, .inl (cI, 87, .inl w_t_s))] → va_S A s.heap H locs → lv_has ls 4 [(0, .ref a_t), (1, .int q15.1), (2, .int q60.1), (3, .int v3)] → W p l e rm_X6_ticks s m args below meth c H locs 0 0 Q (F0 m 148 ls [.int u148, .int (73 + v3), .ref a_t_s]) := by
          intro H locs ls hP hD hS hl
          obtain ⟨gg, h⟩ := og h
          refine va_iast hx hb hK hP hD hS 2 0 rfl rfl gg dX6_ticks_148 (fun H locs hP hD hS => ?_)
          have hP : va_P D vwCl [(a_t, .inr (5, [.int t_length, .ref a_t_text, .int t_spot, .ref a_t_told, .ref a_t_read, .ref a_t_s, .ref a_t_before, .int t_undoMany, .int t_shortAs, .int t_isolatorAs, .int t_worstWire, .int t_worstLost])), (a_t_told, .inl (cI, 67, .inl t_told)), (a_t_s, .inl (cI, 87, .inl (upd w_t_s ((73 + v3)).toNatClampNeg u148)))] H := hP
          have hD : va_D A [(a_t, .inr (5, [.int t_length, .ref a_t_text, .int t_spot, .ref a_t_told, .ref a_t_read, .ref a_t_s, .ref a_t_before, .int t_undoMany, .int t_shortAs, .int t_isolatorAs, .int t_worstWire, .int t_worstLost])), (a_t_told, .inl (cI, 67, .inl t_told)), (a_t_s, .inl (cI, 87, .inl (upd w_t_s ((73 + v3)).toNatClampNeg u148)))] := hD
          refine lv_aload_n hx hb dX6_ticks_149 rfl (lv_at hl 0 rfl) ?_
          refine va_get (D := D) (ci := 5) (v := .ref a_t_s) (C := RX6) (T := TX6) (N := 12) hx hb hts inX6 hown hK hP 0 rfl rfl 5 (by decide) k_0 (fun _ h9 => h9) rfl dX6_ticks_150 ?_
          refine lv_bipush (v := 67) hx hb dX6_ticks_153 (by decide) ?_
          refine lv_iload_n hx hb dX6_ticks_155 rfl (lv_at hl 3 rfl) ?_
          refine lv_iadd hx hb dX6_ticks_156 ?_
          obtain ⟨gg, h⟩ := og h
          refine va_iald hx hb hK hP 2 0 rfl rfl gg dX6_ticks_157 ?_
          refine lv_if_ne (tgt := 247) hx hb dX6_ticks_158 (by decide) (fun cc => ?_) (fun cc => ?_)
          · have h := oi_f cc h
            refine lv_iinc (v := (v3 + 1)) (lv' := [(3, .int (v3 + 1)), (0, .ref a_t), (1, .int q15.1), (2, .int q60.1)]) hx hb dX6_ticks_247 hl (k := 3) rfl (by first | rfl | decide) (by decide) rfl (fun ls hl => ?_)
            refine lv_goto (tgt := 112) hx hb dX6_ticks_250 (by decide) ?_
            exact ih (v3 + 1) (upd w_t_s ((73 + v3)).toNatClampNeg u148) H locs ls hP hD hS (lv_sub hl [1, 2, 3, 0] rfl) q112 h kk
          · have h := oi_t cc h
            refine lv_aload_n hx hb dX6_ticks_161 rfl (lv_at hl 0 rfl) ?_
            refine va_get (D := D) (ci := 5) (v := .ref a_t_s) (C := RX6) (T := TX6) (N := 12) hx hb hts inX6 hown hK hP 0 rfl rfl 5 (by decide) k_0 (fun _ h9 => h9) rfl dX6_ticks_162 ?_
            refine lv_bipush (v := 61) hx hb dX6_ticks_165 (by decide) ?_
            refine lv_iload_n hx hb dX6_ticks_167 rfl (lv_at hl 3 rfl) ?_
            refine lv_iadd hx hb dX6_ticks_168 ?_
            refine lv_aload_n hx hb dX6_ticks_169 rfl (lv_at hl 0 rfl) ?_
            refine lv_iload_n hx hb dX6_ticks_170 rfl (lv_at hl 3 rfl) ?_
            obtain ⟨u171, hu171, h⟩ := ob h
            refine gV_i (C := RX6) (T := TX6) (N := 12) (ci := 5) (q0 := 0) (wc := [(a_t, .inr (5, [.int t_length, .ref a_t_text, .int t_spot, .ref a_t_told, .ref a_t_read, .ref a_t_s, .ref a_t_before, .int t_undoMany, .int t_shortAs, .int t_isolatorAs, .int t_worstWire, .int t_worstLost])), (a_t_told, .inl (cI, 67, .inl t_told)), (a_t_s, .inl (cI, 87, .inl (upd w_t_s ((73 + v3)).toNatClampNeg u148)))]) (wr := []) (w1 := [(a_t, .inr (5, [.int t_length, .ref a_t_text, .int t_spot, .ref a_t_told, .ref a_t_read, .ref a_t_s, .ref a_t_before, .int t_undoMany, .int t_shortAs, .int t_isolatorAs, .int t_worstWire, .int t_worstLost])), (a_t_told, .inl (cI, 67, .inl t_told)), (a_t_s, .inl (cI, 87, .inl (upd w_t_s ((73 + v3)).toNatClampNeg u148)))]) (v := u171) (As := [.int v3]) (rest := [.int (61 + v3), .ref a_t_s]) ⟨hx, hb, hml, hown, hts⟩ (c_X6_isWanted l D cI cS a_t a_t_told a_t_s a_t_text a_t_read a_t_before H.size t_length t_spot t_undoMany t_shortAs t_isolatorAs t_worstWire t_worstLost t_told (upd w_t_s ((73 + v3)).toNatClampNeg u148) v3 u171 hu171) (cwV 1 hts gX6_ticks_X6_isWanted rfl rfl rfl cd_X6_isWanted ⟨Nat.le_of_ble_eq_true rfl, Nat.le_of_ble_eq_true rfl⟩) hK hN hP hD hS hA [0, 1, 2] [] rfl rfl (by decide) (by decide) (by decide) rfl rfl rfl hl.1 rfl (Nat.le_of_ble_eq_true rfl) dX6_ticks_171 ⟨Nat.zero_le _, Nat.zero_le _⟩ (fun H locs hP hD hS => ?_)
            have hP : va_P D vwCl [(a_t, .inr (5, [.int t_length, .ref a_t_text, .int t_spot, .ref a_t_told, .ref a_t_read, .ref a_t_s, .ref a_t_before, .int t_undoMany, .int t_shortAs, .int t_isolatorAs, .int t_worstWire, .int t_worstLost])), (a_t_told, .inl (cI, 67, .inl t_told)), (a_t_s, .inl (cI, 87, .inl (upd w_t_s ((73 + v3)).toNatClampNeg u148)))] H := hP
            have hD : va_D A [(a_t, .inr (5, [.int t_length, .ref a_t_text, .int t_spot, .ref a_t_told, .ref a_t_read, .ref a_t_s, .ref a_t_before, .int t_undoMany, .int t_shortAs, .int t_isolatorAs, .int t_worstWire, .int t_worstLost])), (a_t_told, .inl (cI, 67, .inl t_told)), (a_t_s, .inl (cI, 87, .inl (upd w_t_s ((73 + v3)).toNatClampNeg u148)))] := hD
            obtain ⟨u192, hj192, h⟩ := ob h
            have jn192 : ∀ (H : Heap) (locs : List Loc) (ls : Array Slot), va_P D vwCl [(a_t, .inr (5, [.int t_length, .ref a_t_text, .int t_spot, .ref a_t_told, .ref a_t_read, .ref a_t_s, .ref a_t_before, .int t_undoMany, .int t_shortAs, .int t_isolatorAs, .int t_worstWire, .int t_worstLost])), (a_t_told, .inl (cI, 67, .inl t_told)), (a_t_s, .inl (cI, 87, .inl (upd w_t_s ((73 + v3)).toNatClampNeg u148)))] H → va_D A [(a_t, .inr (5, [.int t_length, .ref a_t_text, .int t_spot, .ref a_t_told, .ref a_t_read, .ref a_t_s, .ref a_t_before, .int t_undoMany, .int t_shortAs, .int t_isolatorAs, .int t_worstWire, .int t_worstLost])), (a_t_told, .inl (cI, 67, .inl t_told)), (a_t_s, .inl (cI, 87, .inl (upd w_t_s ((73 + v3)).toNatClampNeg u148)))] → va_S A s.heap H locs → lv_has ls 4 [(0, .ref a_t), (1, .int q15.1), (2, .int q60.1), (3, .int v3)] → W p l e rm_X6_ticks s m args below meth c H locs 0 0 Q (F0 m 192 ls [.int u192, .int (61 + v3), .ref a_t_s]) := by
              intro H locs ls hP hD hS hl
              obtain ⟨gg, h⟩ := og h
              refine va_iast hx hb hK hP hD hS 2 0 rfl rfl gg dX6_ticks_192 (fun H locs hP hD hS => ?_)
              have hP : va_P D vwCl [(a_t, .inr (5, [.int t_length, .ref a_t_text, .int t_spot, .ref a_t_told, .ref a_t_read, .ref a_t_s, .ref a_t_before, .int t_undoMany, .int t_shortAs, .int t_isolatorAs, .int t_worstWire, .int t_worstLost])), (a_t_told, .inl (cI, 67, .inl t_told)), (a_t_s, .inl (cI, 87, .inl (upd (upd w_t_s ((73 + v3)).toNatClampNeg u148) ((61 + v3)).toNatClampNeg u192)))] H := hP
              have hD : va_D A [(a_t, .inr (5, [.int t_length, .ref a_t_text, .int t_spot, .ref a_t_told, .ref a_t_read, .ref a_t_s, .ref a_t_before, .int t_undoMany, .int t_shortAs, .int t_isolatorAs, .int t_worstWire, .int t_worstLost])), (a_t_told, .inl (cI, 67, .inl t_told)), (a_t_s, .inl (cI, 87, .inl (upd (upd w_t_s ((73 + v3)).toNatClampNeg u148) ((61 + v3)).toNatClampNeg u192)))] := hD
              refine lv_aload_n hx hb dX6_ticks_193 rfl (lv_at hl 0 rfl) ?_
              refine va_get (D := D) (ci := 5) (v := .ref a_t_s) (C := RX6) (T := TX6) (N := 12) hx hb hts inX6 hown hK hP 0 rfl rfl 5 (by decide) k_0 (fun _ h9 => h9) rfl dX6_ticks_194 ?_
              refine lv_bipush (v := 67) hx hb dX6_ticks_197 (by decide) ?_
              refine lv_iload_n hx hb dX6_ticks_199 rfl (lv_at hl 3 rfl) ?_
              refine lv_iadd hx hb dX6_ticks_200 ?_
              refine lv_aload_n hx hb dX6_ticks_201 rfl (lv_at hl 0 rfl) ?_
              refine va_get (D := D) (ci := 5) (v := .ref a_t_s) (C := RX6) (T := TX6) (N := 12) hx hb hts inX6 hown hK hP 0 rfl rfl 5 (by decide) k_0 (fun _ h9 => h9) rfl dX6_ticks_202 ?_
              refine lv_bipush (v := 61) hx hb dX6_ticks_205 (by decide) ?_
              refine lv_iload_n hx hb dX6_ticks_207 rfl (lv_at hl 3 rfl) ?_
              refine lv_iadd hx hb dX6_ticks_208 ?_
              obtain ⟨gg, h⟩ := og h
              refine va_iald hx hb hK hP 2 0 rfl rfl gg dX6_ticks_209 ?_
              refine lv_aload_n hx hb dX6_ticks_210 rfl (lv_at hl 0 rfl) ?_
              refine va_get (D := D) (ci := 5) (v := .ref a_t_s) (C := RX6) (T := TX6) (N := 12) hx hb hts inX6 hown hK hP 0 rfl rfl 5 (by decide) k_0 (fun _ h9 => h9) rfl dX6_ticks_211 ?_
              refine lv_bipush (v := 85) hx hb dX6_ticks_214 (by decide) ?_
              refine va_iald hx hb hK hP 2 0 rfl rfl (i := 85) (show gi 85 87 by decide) dX6_ticks_216 ?_
              refine lv_iconst (v := 1) hx hb dX6_ticks_217 (by decide) ?_
              obtain ⟨u238, hj238, h⟩ := ob h
              have jn238 : ∀ (H : Heap) (locs : List Loc) (ls : Array Slot), va_P D vwCl [(a_t, .inr (5, [.int t_length, .ref a_t_text, .int t_spot, .ref a_t_told, .ref a_t_read, .ref a_t_s, .ref a_t_before, .int t_undoMany, .int t_shortAs, .int t_isolatorAs, .int t_worstWire, .int t_worstLost])), (a_t_told, .inl (cI, 67, .inl t_told)), (a_t_s, .inl (cI, 87, .inl (upd (upd w_t_s ((73 + v3)).toNatClampNeg u148) ((61 + v3)).toNatClampNeg u192)))] H → va_D A [(a_t, .inr (5, [.int t_length, .ref a_t_text, .int t_spot, .ref a_t_told, .ref a_t_read, .ref a_t_s, .ref a_t_before, .int t_undoMany, .int t_shortAs, .int t_isolatorAs, .int t_worstWire, .int t_worstLost])), (a_t_told, .inl (cI, 67, .inl t_told)), (a_t_s, .inl (cI, 87, .inl (upd (upd w_t_s ((73 + v3)).toNatClampNeg u148) ((61 + v3)).toNatClampNeg u192)))] → va_S A s.heap H locs → lv_has ls 4 [(0, .ref a_t), (1, .int q15.1), (2, .int q60.1), (3, .int v3)] → W p l e rm_X6_ticks s m args below meth c H locs 0 0 Q (F0 m 238 ls [.int u238, .int ((upd (upd w_t_s ((73 + v3)).toNatClampNeg u148) ((61 + v3)).toNatClampNeg u192) ((61 + v3)).toNatClampNeg), .int (67 + v3), .ref a_t_s]) := by
                intro H locs ls hP hD hS hl
                refine lv_icmp_le (tgt := 245) hx hb dX6_ticks_238 (by decide) (fun cc => ?_) (fun cc => ?_)
                · have h := oi_t cc h
                  refine lv_iconst (v := 0) hx hb dX6_ticks_245 (by decide) ?_
                  obtain ⟨gg, h⟩ := og h
                  refine va_iast hx hb hK hP hD hS 2 0 rfl rfl gg dX6_ticks_246 (fun H locs hP hD hS => ?_)
                  have hP : va_P D vwCl [(a_t, .inr (5, [.int t_length, .ref a_t_text, .int t_spot, .ref a_t_told, .ref a_t_read, .ref a_t_s, .ref a_t_before, .int t_undoMany, .int t_shortAs, .int t_isolatorAs, .int t_worstWire, .int t_worstLost])), (a_t_told, .inl (cI, 67, .inl t_told)), (a_t_s, .inl (cI, 87, .inl (upd (upd (upd w_t_s ((73 + v3)).toNatClampNeg u148) ((61 + v3)).toNatClampNeg u192) ((67 + v3)).toNatClampNeg 0)))] H := hP
                  have hD : va_D A [(a_t, .inr (5, [.int t_length, .ref a_t_text, .int t_spot, .ref a_t_told, .ref a_t_read, .ref a_t_s, .ref a_t_before, .int t_undoMany, .int t_shortAs, .int t_isolatorAs, .int t_worstWire, .int t_worstLost])), (a_t_told, .inl (cI, 67, .inl t_told)), (a_t_s, .inl (cI, 87, .inl (upd (upd (upd w_t_s ((73 + v3)).toNatClampNeg u148) ((61 + v3)).toNatClampNeg u192) ((67 + v3)).toNatClampNeg 0)))] := hD
                  refine lv_iinc (v := (v3 + 1)) (lv' := [(3, .int (v3 + 1)), (0, .ref a_t), (1, .int q15.1), (2, .int q60.1)]) hx hb dX6_ticks_247 hl (k := 3) rfl (by first | rfl | decide) (by decide) rfl (fun ls hl => ?_)
                  refine lv_goto (tgt := 112) hx hb dX6_ticks_250 (by decide) ?_
                  exact ih (v3 + 1) (upd (upd (upd w_t_s ((73 + v3)).toNatClampNeg u148) ((61 + v3)).toNatClampNeg u192) ((67 + v3)).toNatClampNeg 0) H locs ls hP hD hS (lv_sub hl [1, 2, 3, 0] rfl) q112 h kk
                · have h := oi_f cc h
                  refine lv_iconst (v := 1) hx hb dX6_ticks_241 (by decide) ?_
                  refine lv_goto (tgt := 246) hx hb dX6_ticks_242 (by decide) ?_
                  obtain ⟨gg, h⟩ := og h
                  refine va_iast hx hb hK hP hD hS 2 0 rfl rfl gg dX6_ticks_246 (fun H locs hP hD hS => ?_)
                  have hP : va_P D vwCl [(a_t, .inr (5, [.int t_length, .ref a_t_text, .int t_spot, .ref a_t_told, .ref a_t_read, .ref a_t_s, .ref a_t_before, .int t_undoMany, .int t_shortAs, .int t_isolatorAs, .int t_worstWire, .int t_worstLost])), (a_t_told, .inl (cI, 67, .inl t_told)), (a_t_s, .inl (cI, 87, .inl (upd (upd (upd w_t_s ((73 + v3)).toNatClampNeg u148) ((61 + v3)).toNatClampNeg u192) ((67 + v3)).toNatClampNeg 1)))] H := hP
                  have hD : va_D A [(a_t, .inr (5, [.int t_length, .ref a_t_text, .int t_spot, .ref a_t_told, .ref a_t_read, .ref a_t_s, .ref a_t_before, .int t_undoMany, .int t_shortAs, .int t_isolatorAs, .int t_worstWire, .int t_worstLost])), (a_t_told, .inl (cI, 67, .inl t_told)), (a_t_s, .inl (cI, 87, .inl (upd (upd (upd w_t_s ((73 + v3)).toNatClampNeg u148) ((61 + v3)).toNatClampNeg u192) ((67 + v3)).toNatClampNeg 1)))] := hD
                  refine lv_iinc (v := (v3 + 1)) (lv' := [(3, .int (v3 + 1)), (0, .ref a_t), (1, .int q15.1), (2, .int q60.1)]) hx hb dX6_ticks_247 hl (k := 3) rfl (by first | rfl | decide) (by decide) rfl (fun ls hl => ?_)
                  refine lv_goto (tgt := 112) hx hb dX6_ticks_250 (by decide) ?_
                  exact ih (v3 + 1) (upd (upd (upd w_t_s ((73 + v3)).toNatClampNeg u148) ((61 + v3)).toNatClampNeg u192) ((67 + v3)).toNatClampNeg 1) H locs ls hP hD hS (lv_sub hl [1, 2, 3, 0] rfl) q112 h kk
              have h := hj238
              refine lv_icmp_ne (tgt := 237) hx hb dX6_ticks_218 (by decide) (fun cc => ?_) (fun cc => ?_)
              · have h := oi_f cc h
                refine lv_iconst (v := 0) hx hb dX6_ticks_237 (by decide) ?_
                obtain rfl := Option.some.inj h
                exact jn238 H locs ls hP hD hS (lv_sub hl [0, 1, 2, 3] rfl)
              · have h := oi_t cc h
                refine lv_aload_n hx hb dX6_ticks_221 rfl (lv_at hl 0 rfl) ?_
                refine va_get (D := D) (ci := 5) (v := .ref a_t_told) (C := RX6) (T := TX6) (N := 12) hx hb hts inX6 hown hK hP 0 rfl rfl 3 (by decide) k_1 (fun _ h9 => h9) rfl dX6_ticks_222 ?_
                refine lv_bipush (v := 36) hx hb dX6_ticks_225 (by decide) ?_
                refine lv_iconst (v := 4) hx hb dX6_ticks_227 (by decide) ?_
                refine lv_iload_n hx hb dX6_ticks_228 rfl (lv_at hl 3 rfl) ?_
                refine lv_imul hx hb dX6_ticks_229 ?_
                refine lv_iadd hx hb dX6_ticks_230 ?_
                refine lv_iconst (v := 2) hx hb dX6_ticks_231 (by decide) ?_
                refine lv_iadd hx hb dX6_ticks_232 ?_
                obtain ⟨gg, h⟩ := og h
                refine va_iald hx hb hK hP 1 0 rfl rfl gg dX6_ticks_233 ?_
                refine lv_goto (tgt := 238) hx hb dX6_ticks_234 (by decide) ?_
                obtain rfl := Option.some.inj h
                exact jn238 H locs ls hP hD hS (lv_sub hl [0, 1, 2, 3] rfl)
            have h := hj192
            refine lv_if_eq (tgt := 191) hx hb dX6_ticks_174 (by decide) (fun cc => ?_) (fun cc => ?_)
            · have h := oi_t cc h
              refine lv_iconst (v := 0) hx hb dX6_ticks_191 (by decide) ?_
              obtain rfl := Option.some.inj h
              exact jn192 H locs ls hP hD hS (lv_sub hl [0, 1, 2, 3] rfl)
            · have h := oi_f cc h
              refine lv_aload_n hx hb dX6_ticks_177 rfl (lv_at hl 0 rfl) ?_
              refine va_get (D := D) (ci := 5) (v := .ref a_t_s) (C := RX6) (T := TX6) (N := 12) hx hb hts inX6 hown hK hP 0 rfl rfl 5 (by decide) k_0 (fun _ h9 => h9) rfl dX6_ticks_178 ?_
              refine lv_bipush (v := 61) hx hb dX6_ticks_181 (by decide) ?_
              refine lv_iload_n hx hb dX6_ticks_183 rfl (lv_at hl 3 rfl) ?_
              refine lv_iadd hx hb dX6_ticks_184 ?_
              obtain ⟨gg, h⟩ := og h
              refine va_iald hx hb hK hP 2 0 rfl rfl gg dX6_ticks_185 ?_
              refine lv_iconst (v := 1) hx hb dX6_ticks_186 (by decide) ?_
              refine lv_iadd hx hb dX6_ticks_187 ?_
              refine lv_goto (tgt := 192) hx hb dX6_ticks_188 (by decide) ?_
              obtain rfl := Option.some.inj h
              exact jn192 H locs ls hP hD hS (lv_sub hl [0, 1, 2, 3] rfl)
        have h := hj148
        refine lv_if_eq (tgt := 139) hx hb dX6_ticks_132 (by decide) (fun cc => ?_) (fun cc => ?_)
        · have h := oi_t cc h
          refine lv_aload_n hx hb dX6_ticks_139 rfl (lv_at hl 0 rfl) ?_
          refine va_get (D := D) (ci := 5) (v := .ref a_t_s) (C := RX6) (T := TX6) (N := 12) hx hb hts inX6 hown hK hP 0 rfl rfl 5 (by decide) k_0 (fun _ h9 => h9) rfl dX6_ticks_140 ?_
          refine lv_bipush (v := 73) hx hb dX6_ticks_143 (by decide) ?_
          refine lv_iload_n hx hb dX6_ticks_145 rfl (lv_at hl 3 rfl) ?_
          refine lv_iadd hx hb dX6_ticks_146 ?_
          obtain ⟨gg, h⟩ := og h
          refine va_iald hx hb hK hP 2 0 rfl rfl gg dX6_ticks_147 ?_
          obtain rfl := Option.some.inj h
          exact jn148 H locs ls hP hD hS (lv_sub hl [0, 1, 2, 3] rfl)
        · have h := oi_f cc h
          refine lv_iconst (v := 0) hx hb dX6_ticks_135 (by decide) ?_
          refine lv_goto (tgt := 148) hx hb dX6_ticks_136 (by decide) ?_
          obtain rfl := Option.some.inj h
          exact jn148 H locs ls hP hD hS (lv_sub hl [0, 1, 2, 3] rfl)
  refine lp112 1000 0 q60.2 H locs ls hP hD hS (lv_sub hl [1, 2, 3, 0] rfl) q112 hq112 (fun H locs ls hP hD hS hl => ?_)
  refine lv_iload_n hx hb dX6_ticks_253 rfl (lv_at hl 0 rfl) ?_
  obtain rfl := Option.some.inj h
  exact hQ 254 H locs ls rfl hP hD hS dX6_ticks_254

def f_X6_tick_40 (t_shortAs : Int32) (t_isolatorAs : Int32) (t_told : FN) (x0 : Int32) : Nat → Int32 → Int32 → FN → Option (Int32 × FN)
  | 0, _, _, _ => none
  | n + 1, v2, v3, w_t_s => (if x0 ≤ v3 then some (v2, w_t_s) else ((f_X6_ticks t_shortAs t_isolatorAs t_told w_t_s).bind (fun u46 => f_X6_tick_40 t_shortAs t_isolatorAs t_told x0 n (v2 + u46.1) (v3 + 1) u46.2)))
def f_X6_tick (t_undoMany : Int32) (t_shortAs : Int32) (t_isolatorAs : Int32) (t_told : FN) (t_s : FN) (t_before : FN) (x0 : Int32) : Option (Int32 × Int32 × FN × FN) := ((f_X6_in (x0).toInt64 1 50).bind (fun u6 => (if u6 = 0 then some ((-1), t_undoMany, t_s, t_before) else (if ((t_s (86 : Int32).toNatClampNeg) + x0) ≤ 9999 then ((f_X6_note t_undoMany t_s t_before).bind (fun u33 => ((f_X6_tick_40 t_shortAs t_isolatorAs t_told x0 1000 0 0 t_s).bind (fun (q40 : Int32 × FN) => some (q40.1, u33.1, q40.2, u33.2))))) else some ((-2), t_undoMany, t_s, t_before)))))
abbrev rm_X6_tick : Room := { frames := 6, cells := 0, slots := 0, locals := 133 }
theorem cd_X6_tick : (yX6_tick).cls = RX6 ∧ (yX6_tick).cls ≠ "java/lang/invoke/MethodHandle" ∧ (yX6_tick).cls ≠ "java/lang/invoke/VarHandle" ∧ (parseMethodDescriptor (yX6_tick).desc).map (fun d => d.parameters.length) = some 1 := by decide +kernel
set_option maxHeartbeats 4000000 in
set_option maxRecDepth 100000 in
theorem c_X6_tick (l : Launch) (D : va_G) (cI cS : ClassId) (a_t a_t_told a_t_s a_t_before a_t_text a_t_read : Nat) (sz : Nat) (t_length : Int32) (t_spot : Int32) (t_undoMany : Int32) (t_shortAs : Int32) (t_isolatorAs : Int32) (t_worstWire : Int32) (t_worstLost : Int32) (t_told : FN) (t_s : FN) (t_before : FN) (x0 : Int32) (out : Int32 × Int32 × FN × FN) (h : f_X6_tick t_undoMany t_shortAs t_isolatorAs t_told t_s t_before x0 = some out) : Met l yX6_tick wsX6_tick rm_X6_tick (va_Pc [.ref a_t, .int x0] (GP D cI cS [(a_t, .inr (5, [.int t_length, .ref a_t_text, .int t_spot, .ref a_t_told, .ref a_t_read, .ref a_t_s, .ref a_t_before, .int t_undoMany, .int t_shortAs, .int t_isolatorAs, .int t_worstWire, .int t_worstLost])), (a_t_told, .inl (cI, 67, .inl t_told)), (a_t_s, .inl (cI, 87, .inl t_s)), (a_t_before, .inl (cI, 522, .inl t_before))] sz)) (QI D [(a_t, .inr (5, [.int t_length, .ref a_t_text, .int t_spot, .ref a_t_told, .ref a_t_read, .ref a_t_s, .ref a_t_before, .int t_undoMany, .int t_shortAs, .int t_isolatorAs, .int t_worstWire, .int t_worstLost])), (a_t_told, .inl (cI, 67, .inl t_told)), (a_t_s, .inl (cI, 87, .inl t_s)), (a_t_before, .inl (cI, 522, .inl t_before))] sz [(a_t, .inr (5, [.int t_length, .ref a_t_text, .int t_spot, .ref a_t_told, .ref a_t_read, .ref a_t_s, .ref a_t_before, .int out.2.1, .int t_shortAs, .int t_isolatorAs, .int t_worstWire, .int t_worstLost])), (a_t_told, .inl (cI, 67, .inl t_told)), (a_t_s, .inl (cI, 87, .inl out.2.2.1)), (a_t_before, .inl (cI, 522, .inl out.2.2.2))] out.1) 0 0 (va_A [(a_t, .inr (5, [.int t_length, .ref a_t_text, .int t_spot, .ref a_t_told, .ref a_t_read, .ref a_t_s, .ref a_t_before, .int t_undoMany, .int t_shortAs, .int t_isolatorAs, .int t_worstWire, .int t_worstLost])), (a_t_told, .inl (cI, 67, .inl t_told)), (a_t_s, .inl (cI, 87, .inl t_s)), (a_t_before, .inl (cI, 522, .inl t_before))] sz) := by
  refine gm_i (cc := cX6_tick) (maxL := 5) (rt := .int) (by decide) rfl (Nat.le_of_ble_eq_true rfl) ?_
  intro p e s m args below meth c A Q H locs ls hx hb hml hown hts hK hN hA hP hD hS hl hQ
  have hown : s.vm.findClass RX6 = some m.cls := hown
  have hl : lv_has ls 5 [(0, .ref a_t), (1, .int x0)] := hl
  have inX6 : ∀ w ∈ wsX60, w ∈ wsX6_tick := by decide +kernel
  have k_0 := hts (.constantLong RX6 152 (50)) (by decide +kernel)
  have k_1 := hts (.fieldLink RX6 19 "AlarmRingModel" "s" "[I") (by decide +kernel)
  unfold f_X6_tick at h
  refine lv_iload_n hx hb dX6_tick_0 rfl (lv_at hl 1 rfl) ?_
  refine lv_i2l (v := (x0).toInt64) hx hb dX6_tick_1 rfl ?_
  refine lv_lconst (v := 1) hx hb dX6_tick_2 (by decide) ?_
  refine lv_ldc2 (v := 50) hx hb hown k_0 dX6_tick_3 ?_
  obtain ⟨u6, hu6, h⟩ := ob h
  refine gS_i (wc := []) (wr := [(a_t, .inr (5, [.int t_length, .ref a_t_text, .int t_spot, .ref a_t_told, .ref a_t_read, .ref a_t_s, .ref a_t_before, .int t_undoMany, .int t_shortAs, .int t_isolatorAs, .int t_worstWire, .int t_worstLost])), (a_t_told, .inl (cI, 67, .inl t_told)), (a_t_s, .inl (cI, 87, .inl t_s)), (a_t_before, .inl (cI, 522, .inl t_before))]) (w1 := []) (v := u6) (As := [.long (x0).toInt64, .long 1, .long 50]) (rest := []) ⟨hx, hb, hml, hown, hts⟩ (c_X6_in l D cI cS  H.size (x0).toInt64 1 50 u6 hu6) (va_cwS 3 hts gX6_tick_X6_in rfl rfl rfl cd_X6_in ⟨Nat.le_of_ble_eq_true rfl, Nat.le_of_ble_eq_true rfl⟩) hK hN hP hD hS hA [] [0, 1, 2, 3] rfl rfl (by decide) (by decide) (by decide) rfl hl.1 rfl (Nat.le_of_ble_eq_true rfl) dX6_tick_6 ⟨Nat.zero_le _, Nat.zero_le _⟩ (fun H locs hP hD hS => ?_)
  have hP : va_P D vwCl [(a_t, .inr (5, [.int t_length, .ref a_t_text, .int t_spot, .ref a_t_told, .ref a_t_read, .ref a_t_s, .ref a_t_before, .int t_undoMany, .int t_shortAs, .int t_isolatorAs, .int t_worstWire, .int t_worstLost])), (a_t_told, .inl (cI, 67, .inl t_told)), (a_t_s, .inl (cI, 87, .inl t_s)), (a_t_before, .inl (cI, 522, .inl t_before))] H := hP
  have hD : va_D A [(a_t, .inr (5, [.int t_length, .ref a_t_text, .int t_spot, .ref a_t_told, .ref a_t_read, .ref a_t_s, .ref a_t_before, .int t_undoMany, .int t_shortAs, .int t_isolatorAs, .int t_worstWire, .int t_worstLost])), (a_t_told, .inl (cI, 67, .inl t_told)), (a_t_s, .inl (cI, 87, .inl t_s)), (a_t_before, .inl (cI, 522, .inl t_before))] := hD
  refine lv_if_ne (tgt := 14) hx hb dX6_tick_9 (by decide) (fun cc => ?_) (fun cc => ?_)
  · have h := oi_f cc h
    refine lv_aload_n hx hb dX6_tick_14 rfl (lv_at hl 0 rfl) ?_
    refine va_get (D := D) (ci := 5) (v := .ref a_t_s) (C := RX6) (T := TX6) (N := 12) hx hb hts inX6 hown hK hP 0 rfl rfl 5 (by decide) k_1 (fun _ h9 => h9) rfl dX6_tick_15 ?_
    refine lv_bipush (v := 86) hx hb dX6_tick_18 (by decide) ?_
    refine va_iald hx hb hK hP 2 0 rfl rfl (i := 86) (show gi 86 87 by decide) dX6_tick_20 ?_
    refine lv_iload_n hx hb dX6_tick_21 rfl (lv_at hl 1 rfl) ?_
    refine lv_iadd hx hb dX6_tick_22 ?_
    refine lv_sipush (v := 9999) hx hb dX6_tick_23 (by decide) ?_
    refine lv_icmp_le (tgt := 32) hx hb dX6_tick_26 (by decide) (fun cc => ?_) (fun cc => ?_)
    · have h := oi_t cc h
      refine lv_aload_n hx hb dX6_tick_32 rfl (lv_at hl 0 rfl) ?_
      obtain ⟨u33, hu33, h⟩ := ob h
      refine gV_v (C := RX6) (T := TX6) (N := 12) (ci := 5) (q0 := 0) (wc := [(a_t, .inr (5, [.int t_length, .ref a_t_text, .int t_spot, .ref a_t_told, .ref a_t_read, .ref a_t_s, .ref a_t_before, .int t_undoMany, .int t_shortAs, .int t_isolatorAs, .int t_worstWire, .int t_worstLost])), (a_t_s, .inl (cI, 87, .inl t_s)), (a_t_before, .inl (cI, 522, .inl t_before))]) (wr := [(a_t_told, .inl (cI, 67, .inl t_told))]) (w1 := [(a_t, .inr (5, [.int t_length, .ref a_t_text, .int t_spot, .ref a_t_told, .ref a_t_read, .ref a_t_s, .ref a_t_before, .int u33.1, .int t_shortAs, .int t_isolatorAs, .int t_worstWire, .int t_worstLost])), (a_t_s, .inl (cI, 87, .inl t_s)), (a_t_before, .inl (cI, 522, .inl u33.2))]) (As := []) (rest := []) ⟨hx, hb, hml, hown, hts⟩ (c_X6_note l D cI cS a_t a_t_s a_t_before a_t_text a_t_told a_t_read H.size t_length t_spot t_undoMany t_shortAs t_isolatorAs t_worstWire t_worstLost t_s t_before u33 hu33) (cwV 0 hts gX6_tick_X6_note rfl rfl rfl cd_X6_note ⟨Nat.le_of_ble_eq_true rfl, Nat.le_of_ble_eq_true rfl⟩) hK hN hP hD hS hA [0, 2, 3] [1] rfl rfl (by decide) (by decide) (by decide) rfl rfl rfl hl.1 rfl (Nat.le_of_ble_eq_true rfl) dX6_tick_33 ⟨Nat.zero_le _, Nat.zero_le _⟩ (fun H locs hP hD hS => ?_)
      have hP : va_P D vwCl [(a_t, .inr (5, [.int t_length, .ref a_t_text, .int t_spot, .ref a_t_told, .ref a_t_read, .ref a_t_s, .ref a_t_before, .int u33.1, .int t_shortAs, .int t_isolatorAs, .int t_worstWire, .int t_worstLost])), (a_t_told, .inl (cI, 67, .inl t_told)), (a_t_s, .inl (cI, 87, .inl t_s)), (a_t_before, .inl (cI, 522, .inl u33.2))] H := hP.sub [1, 0, 2, 3] rfl
      have hD : va_D A [(a_t, .inr (5, [.int t_length, .ref a_t_text, .int t_spot, .ref a_t_told, .ref a_t_read, .ref a_t_s, .ref a_t_before, .int u33.1, .int t_shortAs, .int t_isolatorAs, .int t_worstWire, .int t_worstLost])), (a_t_told, .inl (cI, 67, .inl t_told)), (a_t_s, .inl (cI, 87, .inl t_s)), (a_t_before, .inl (cI, 522, .inl u33.2))] := hD.sub [1, 0, 2, 3] (by decide) rfl
      refine lv_iconst (v := 0) hx hb dX6_tick_36 (by decide) ?_
      refine lv_istore_n (lv' := [(2, .int 0), (0, .ref a_t), (1, .int x0)]) hx hb dX6_tick_37 rfl hl (by decide) rfl (fun ls hl => ?_)
      refine lv_iconst (v := 0) hx hb dX6_tick_38 (by decide) ?_
      refine lv_istore_n (lv' := [(3, .int 0), (2, .int 0), (0, .ref a_t), (1, .int x0)]) hx hb dX6_tick_39 rfl hl (by decide) rfl (fun ls hl => ?_)
      obtain ⟨q40, hq40, h⟩ := ob h
      have lp40 : ∀ (n : Nat) (v2 : Int32) (v3 : Int32) (w_t_s : FN) (H : Heap) (locs : List Loc) (ls : Array Slot), va_P D vwCl [(a_t, .inr (5, [.int t_length, .ref a_t_text, .int t_spot, .ref a_t_told, .ref a_t_read, .ref a_t_s, .ref a_t_before, .int u33.1, .int t_shortAs, .int t_isolatorAs, .int t_worstWire, .int t_worstLost])), (a_t_told, .inl (cI, 67, .inl t_told)), (a_t_s, .inl (cI, 87, .inl w_t_s)), (a_t_before, .inl (cI, 522, .inl u33.2))] H → va_D A [(a_t, .inr (5, [.int t_length, .ref a_t_text, .int t_spot, .ref a_t_told, .ref a_t_read, .ref a_t_s, .ref a_t_before, .int u33.1, .int t_shortAs, .int t_isolatorAs, .int t_worstWire, .int t_worstLost])), (a_t_told, .inl (cI, 67, .inl t_told)), (a_t_s, .inl (cI, 87, .inl w_t_s)), (a_t_before, .inl (cI, 522, .inl u33.2))] → va_S A s.heap H locs → lv_has ls 5 [(0, .ref a_t), (1, .int x0), (2, .int v2), (3, .int v3)] → ∀ (q40 : Int32 × FN), f_X6_tick_40 t_shortAs t_isolatorAs t_told x0 n v2 v3 w_t_s = some q40 → (∀ (H : Heap) (locs : List Loc) (ls : Array Slot), va_P D vwCl [(a_t, .inr (5, [.int t_length, .ref a_t_text, .int t_spot, .ref a_t_told, .ref a_t_read, .ref a_t_s, .ref a_t_before, .int u33.1, .int t_shortAs, .int t_isolatorAs, .int t_worstWire, .int t_worstLost])), (a_t_told, .inl (cI, 67, .inl t_told)), (a_t_s, .inl (cI, 87, .inl q40.2)), (a_t_before, .inl (cI, 522, .inl u33.2))] H → va_D A [(a_t, .inr (5, [.int t_length, .ref a_t_text, .int t_spot, .ref a_t_told, .ref a_t_read, .ref a_t_s, .ref a_t_before, .int u33.1, .int t_shortAs, .int t_isolatorAs, .int t_worstWire, .int t_worstLost])), (a_t_told, .inl (cI, 67, .inl t_told)), (a_t_s, .inl (cI, 87, .inl q40.2)), (a_t_before, .inl (cI, 522, .inl u33.2))] → va_S A s.heap H locs → lv_has ls 5 [(2, .int q40.1)] → W p l e rm_X6_tick s m args below meth c H locs 0 0 Q (F0 m 62 ls [])) → W p l e rm_X6_tick s m args below meth c H locs 0 0 Q (F0 m 40 ls []) := by
        intro n
        induction n with
        | zero => intro v2 v3 w_t_s H locs ls hP hD hS hl q40 h kk; exact on_ h
        | succ n ih =>
          intro v2 v3 w_t_s H locs ls hP hD hS hl q40 h kk
          rw [f_X6_tick_40] at h
          refine lv_iload_n hx hb dX6_tick_40 rfl (lv_at hl 3 rfl) ?_
          refine lv_iload_n hx hb dX6_tick_41 rfl (lv_at hl 1 rfl) ?_
          refine lv_icmp_ge (tgt := 62) hx hb dX6_tick_42 (by decide) (fun cc => ?_) (fun cc => ?_)
          · have h := oi_t cc h
            obtain rfl := Option.some.inj h
            exact kk H locs ls hP hD hS (lv_sub hl [2] rfl)
          · have h := oi_f cc h
            refine lv_aload_n hx hb dX6_tick_45 rfl (lv_at hl 0 rfl) ?_
            obtain ⟨u46, hu46, h⟩ := ob h
            refine gV_i (C := RX6) (T := TX6) (N := 12) (ci := 5) (q0 := 0) (wc := [(a_t, .inr (5, [.int t_length, .ref a_t_text, .int t_spot, .ref a_t_told, .ref a_t_read, .ref a_t_s, .ref a_t_before, .int u33.1, .int t_shortAs, .int t_isolatorAs, .int t_worstWire, .int t_worstLost])), (a_t_told, .inl (cI, 67, .inl t_told)), (a_t_s, .inl (cI, 87, .inl w_t_s))]) (wr := [(a_t_before, .inl (cI, 522, .inl u33.2))]) (w1 := [(a_t, .inr (5, [.int t_length, .ref a_t_text, .int t_spot, .ref a_t_told, .ref a_t_read, .ref a_t_s, .ref a_t_before, .int u33.1, .int t_shortAs, .int t_isolatorAs, .int t_worstWire, .int t_worstLost])), (a_t_told, .inl (cI, 67, .inl t_told)), (a_t_s, .inl (cI, 87, .inl u46.2))]) (v := u46.1) (As := []) (rest := []) ⟨hx, hb, hml, hown, hts⟩ (c_X6_ticks l D cI cS a_t a_t_told a_t_s a_t_text a_t_read a_t_before H.size t_length t_spot u33.1 t_shortAs t_isolatorAs t_worstWire t_worstLost t_told w_t_s u46 hu46) (cwV 0 hts gX6_tick_X6_ticks rfl rfl rfl cd_X6_ticks ⟨Nat.le_of_ble_eq_true rfl, Nat.le_of_ble_eq_true rfl⟩) hK hN hP hD hS hA [0, 1, 2] [3] rfl rfl (by decide) (by decide) (by decide) rfl rfl rfl hl.1 rfl (Nat.le_of_ble_eq_true rfl) dX6_tick_46 ⟨Nat.zero_le _, Nat.zero_le _⟩ (fun H locs hP hD hS => ?_)
            have hP : va_P D vwCl [(a_t, .inr (5, [.int t_length, .ref a_t_text, .int t_spot, .ref a_t_told, .ref a_t_read, .ref a_t_s, .ref a_t_before, .int u33.1, .int t_shortAs, .int t_isolatorAs, .int t_worstWire, .int t_worstLost])), (a_t_told, .inl (cI, 67, .inl t_told)), (a_t_s, .inl (cI, 87, .inl u46.2)), (a_t_before, .inl (cI, 522, .inl u33.2))] H := hP.sub [1, 2, 3, 0] rfl
            have hD : va_D A [(a_t, .inr (5, [.int t_length, .ref a_t_text, .int t_spot, .ref a_t_told, .ref a_t_read, .ref a_t_s, .ref a_t_before, .int u33.1, .int t_shortAs, .int t_isolatorAs, .int t_worstWire, .int t_worstLost])), (a_t_told, .inl (cI, 67, .inl t_told)), (a_t_s, .inl (cI, 87, .inl u46.2)), (a_t_before, .inl (cI, 522, .inl u33.2))] := hD.sub [1, 2, 3, 0] (by decide) rfl
            refine lv_istore (lv' := [(4, .int u46.1), (0, .ref a_t), (1, .int x0), (2, .int v2), (3, .int v3)]) hx hb dX6_tick_49 hl (by decide) rfl (fun ls hl => ?_)
            refine lv_iload_n hx hb dX6_tick_51 rfl (lv_at hl 3 rfl) ?_
            refine lv_iload hx hb dX6_tick_52 (lv_at hl 0 rfl) ?_
            refine lv_iadd hx hb dX6_tick_54 ?_
            refine lv_istore_n (lv' := [(2, .int (v2 + u46.1)), (4, .int u46.1), (0, .ref a_t), (1, .int x0), (3, .int v3)]) hx hb dX6_tick_55 rfl hl (by decide) rfl (fun ls hl => ?_)
            refine lv_iinc (v := (v3 + 1)) (lv' := [(3, .int (v3 + 1)), (2, .int (v2 + u46.1)), (4, .int u46.1), (0, .ref a_t), (1, .int x0)]) hx hb dX6_tick_56 hl (k := 4) rfl (by first | rfl | decide) (by decide) rfl (fun ls hl => ?_)
            refine lv_goto (tgt := 40) hx hb dX6_tick_59 (by decide) ?_
            exact ih (v2 + u46.1) (v3 + 1) u46.2 H locs ls hP hD hS (lv_sub hl [3, 4, 1, 0] rfl) q40 h kk
      refine lp40 1000 0 0 t_s H locs ls hP hD hS (lv_sub hl [2, 3, 1, 0] rfl) q40 hq40 (fun H locs ls hP hD hS hl => ?_)
      refine lv_iload_n hx hb dX6_tick_62 rfl (lv_at hl 0 rfl) ?_
      obtain rfl := Option.some.inj h
      exact hQ 63 H locs ls rfl hP hD hS dX6_tick_63
    · have h := oi_f cc h
      refine lv_bipush (v := (-2)) hx hb dX6_tick_29 (by decide) ?_
      obtain rfl := Option.some.inj h
      exact hQ 31 H locs ls rfl hP hD hS dX6_tick_31
  · have h := oi_t cc h
    refine lv_iconst (v := (-1)) hx hb dX6_tick_12 (by decide) ?_
    obtain rfl := Option.some.inj h
    exact hQ 13 H locs ls rfl hP hD hS dX6_tick_13

def f_X6_isSounding (t_told : FN) (t_s : FN) (x0 : Int32) : Option (Int32) := (if gi ((36 + (4 * x0)) + 3) 67 then (if (t_told (((36 + (4 * x0)) + 3)).toNatClampNeg) = 1 then (if gi (67 + x0) 87 then (if (t_s ((67 + x0)).toNatClampNeg) = 1 then (if gi (73 + x0) 87 then (if (t_s ((73 + x0)).toNatClampNeg) = 0 then some (1) else some (0)) else none) else some (0)) else none) else some (0)) else none)
abbrev rm_X6_isSounding : Room := { frames := 0, cells := 0, slots := 0, locals := 0 }
theorem cd_X6_isSounding : (yX6_isSounding).cls = RX6 ∧ (yX6_isSounding).cls ≠ "java/lang/invoke/MethodHandle" ∧ (yX6_isSounding).cls ≠ "java/lang/invoke/VarHandle" ∧ (parseMethodDescriptor (yX6_isSounding).desc).map (fun d => d.parameters.length) = some 1 := by decide +kernel
set_option maxHeartbeats 4000000 in
set_option maxRecDepth 100000 in
theorem c_X6_isSounding (l : Launch) (D : va_G) (cI cS : ClassId) (a_t a_t_told a_t_s a_t_text a_t_read a_t_before : Nat) (sz : Nat) (t_length : Int32) (t_spot : Int32) (t_undoMany : Int32) (t_shortAs : Int32) (t_isolatorAs : Int32) (t_worstWire : Int32) (t_worstLost : Int32) (t_told : FN) (t_s : FN) (x0 : Int32) (out : Int32) (h : f_X6_isSounding t_told t_s x0 = some out) : Met l yX6_isSounding wsX6_isSounding rm_X6_isSounding (va_Pc [.ref a_t, .int x0] (GP D cI cS [(a_t, .inr (5, [.int t_length, .ref a_t_text, .int t_spot, .ref a_t_told, .ref a_t_read, .ref a_t_s, .ref a_t_before, .int t_undoMany, .int t_shortAs, .int t_isolatorAs, .int t_worstWire, .int t_worstLost])), (a_t_told, .inl (cI, 67, .inl t_told)), (a_t_s, .inl (cI, 87, .inl t_s))] sz)) (QI D [(a_t, .inr (5, [.int t_length, .ref a_t_text, .int t_spot, .ref a_t_told, .ref a_t_read, .ref a_t_s, .ref a_t_before, .int t_undoMany, .int t_shortAs, .int t_isolatorAs, .int t_worstWire, .int t_worstLost])), (a_t_told, .inl (cI, 67, .inl t_told)), (a_t_s, .inl (cI, 87, .inl t_s))] sz [(a_t, .inr (5, [.int t_length, .ref a_t_text, .int t_spot, .ref a_t_told, .ref a_t_read, .ref a_t_s, .ref a_t_before, .int t_undoMany, .int t_shortAs, .int t_isolatorAs, .int t_worstWire, .int t_worstLost])), (a_t_told, .inl (cI, 67, .inl t_told)), (a_t_s, .inl (cI, 87, .inl t_s))] out) 0 0 (va_A [(a_t, .inr (5, [.int t_length, .ref a_t_text, .int t_spot, .ref a_t_told, .ref a_t_read, .ref a_t_s, .ref a_t_before, .int t_undoMany, .int t_shortAs, .int t_isolatorAs, .int t_worstWire, .int t_worstLost])), (a_t_told, .inl (cI, 67, .inl t_told)), (a_t_s, .inl (cI, 87, .inl t_s))] sz) := by
  refine gm_i (cc := cX6_isSounding) (maxL := 2) (rt := .boolean) (by decide) rfl (Nat.le_of_ble_eq_true rfl) ?_
  intro p e s m args below meth c A Q H locs ls hx hb hml hown hts hK hN hA hP hD hS hl hQ
  have hown : s.vm.findClass RX6 = some m.cls := hown
  have hl : lv_has ls 2 [(0, .ref a_t), (1, .int x0)] := hl
  have inX6 : ∀ w ∈ wsX60, w ∈ wsX6_isSounding := by decide +kernel
  have k_0 := hts (.fieldLink RX6 13 "AlarmRingModel" "told" "[I") (by decide +kernel)
  have k_1 := hts (.fieldLink RX6 19 "AlarmRingModel" "s" "[I") (by decide +kernel)
  unfold f_X6_isSounding at h
  refine lv_aload_n hx hb dX6_isSounding_0 rfl (lv_at hl 0 rfl) ?_
  refine va_get (D := D) (ci := 5) (v := .ref a_t_told) (C := RX6) (T := TX6) (N := 12) hx hb hts inX6 hown hK hP 0 rfl rfl 3 (by decide) k_0 (fun _ h9 => h9) rfl dX6_isSounding_1 ?_
  refine lv_bipush (v := 36) hx hb dX6_isSounding_4 (by decide) ?_
  refine lv_iconst (v := 4) hx hb dX6_isSounding_6 (by decide) ?_
  refine lv_iload_n hx hb dX6_isSounding_7 rfl (lv_at hl 1 rfl) ?_
  refine lv_imul hx hb dX6_isSounding_8 ?_
  refine lv_iadd hx hb dX6_isSounding_9 ?_
  refine lv_iconst (v := 3) hx hb dX6_isSounding_10 (by decide) ?_
  refine lv_iadd hx hb dX6_isSounding_11 ?_
  obtain ⟨gg, h⟩ := og h
  refine va_iald hx hb hK hP 1 0 rfl rfl gg dX6_isSounding_12 ?_
  refine lv_iconst (v := 1) hx hb dX6_isSounding_13 (by decide) ?_
  refine lv_icmp_ne (tgt := 46) hx hb dX6_isSounding_14 (by decide) (fun cc => ?_) (fun cc => ?_)
  · have h := oi_f cc h
    refine lv_iconst (v := 0) hx hb dX6_isSounding_46 (by decide) ?_
    obtain rfl := Option.some.inj h
    exact hQ 47 H locs ls (nz (.inl rfl)) hP hD hS dX6_isSounding_47
  · have h := oi_t cc h
    refine lv_aload_n hx hb dX6_isSounding_17 rfl (lv_at hl 0 rfl) ?_
    refine va_get (D := D) (ci := 5) (v := .ref a_t_s) (C := RX6) (T := TX6) (N := 12) hx hb hts inX6 hown hK hP 0 rfl rfl 5 (by decide) k_1 (fun _ h9 => h9) rfl dX6_isSounding_18 ?_
    refine lv_bipush (v := 67) hx hb dX6_isSounding_21 (by decide) ?_
    refine lv_iload_n hx hb dX6_isSounding_23 rfl (lv_at hl 1 rfl) ?_
    refine lv_iadd hx hb dX6_isSounding_24 ?_
    obtain ⟨gg, h⟩ := og h
    refine va_iald hx hb hK hP 2 0 rfl rfl gg dX6_isSounding_25 ?_
    refine lv_iconst (v := 1) hx hb dX6_isSounding_26 (by decide) ?_
    refine lv_icmp_ne (tgt := 46) hx hb dX6_isSounding_27 (by decide) (fun cc => ?_) (fun cc => ?_)
    · have h := oi_f cc h
      refine lv_iconst (v := 0) hx hb dX6_isSounding_46 (by decide) ?_
      obtain rfl := Option.some.inj h
      exact hQ 47 H locs ls (nz (.inl rfl)) hP hD hS dX6_isSounding_47
    · have h := oi_t cc h
      refine lv_aload_n hx hb dX6_isSounding_30 rfl (lv_at hl 0 rfl) ?_
      refine va_get (D := D) (ci := 5) (v := .ref a_t_s) (C := RX6) (T := TX6) (N := 12) hx hb hts inX6 hown hK hP 0 rfl rfl 5 (by decide) k_1 (fun _ h9 => h9) rfl dX6_isSounding_31 ?_
      refine lv_bipush (v := 73) hx hb dX6_isSounding_34 (by decide) ?_
      refine lv_iload_n hx hb dX6_isSounding_36 rfl (lv_at hl 1 rfl) ?_
      refine lv_iadd hx hb dX6_isSounding_37 ?_
      obtain ⟨gg, h⟩ := og h
      refine va_iald hx hb hK hP 2 0 rfl rfl gg dX6_isSounding_38 ?_
      refine lv_if_ne (tgt := 46) hx hb dX6_isSounding_39 (by decide) (fun cc => ?_) (fun cc => ?_)
      · have h := oi_f cc h
        refine lv_iconst (v := 0) hx hb dX6_isSounding_46 (by decide) ?_
        obtain rfl := Option.some.inj h
        exact hQ 47 H locs ls (nz (.inl rfl)) hP hD hS dX6_isSounding_47
      · have h := oi_t cc h
        refine lv_iconst (v := 1) hx hb dX6_isSounding_42 (by decide) ?_
        refine lv_goto (tgt := 47) hx hb dX6_isSounding_43 (by decide) ?_
        obtain rfl := Option.some.inj h
        exact hQ 47 H locs ls (nz (.inr rfl)) hP hD hS dX6_isSounding_47

def f_X6_sounding_4 (t_told : FN) (t_s : FN) : Nat → Int32 → Int32 → Option (Int32)
  | 0, _, _ => none
  | n + 1, v1, v2 => (if (t_told (61 : Int32).toNatClampNeg) ≤ v2 then some (v1) else ((f_X6_isSounding t_told t_s v2).bind (fun u18 => (if u18 = 0 then f_X6_sounding_4 t_told t_s n (v1 + 0) (v2 + 1) else f_X6_sounding_4 t_told t_s n (v1 + 1) (v2 + 1)))))
def f_X6_sounding (t_told : FN) (t_s : FN) : Option (Int32) := ((f_X6_sounding_4 t_told t_s 1000 0 0).bind (fun (q4 : Int32) => some (q4)))
abbrev rm_X6_sounding : Room := { frames := 1, cells := 0, slots := 0, locals := 21 }
theorem cd_X6_sounding : (yX6_sounding).cls = RX6 ∧ (yX6_sounding).cls ≠ "java/lang/invoke/MethodHandle" ∧ (yX6_sounding).cls ≠ "java/lang/invoke/VarHandle" ∧ (parseMethodDescriptor (yX6_sounding).desc).map (fun d => d.parameters.length) = some 0 := by decide +kernel
set_option maxHeartbeats 4000000 in
set_option maxRecDepth 100000 in
theorem c_X6_sounding (l : Launch) (D : va_G) (cI cS : ClassId) (a_t a_t_told a_t_s a_t_text a_t_read a_t_before : Nat) (sz : Nat) (t_length : Int32) (t_spot : Int32) (t_undoMany : Int32) (t_shortAs : Int32) (t_isolatorAs : Int32) (t_worstWire : Int32) (t_worstLost : Int32) (t_told : FN) (t_s : FN) (out : Int32) (h : f_X6_sounding t_told t_s = some out) : Met l yX6_sounding wsX6_sounding rm_X6_sounding (va_Pc [.ref a_t] (GP D cI cS [(a_t, .inr (5, [.int t_length, .ref a_t_text, .int t_spot, .ref a_t_told, .ref a_t_read, .ref a_t_s, .ref a_t_before, .int t_undoMany, .int t_shortAs, .int t_isolatorAs, .int t_worstWire, .int t_worstLost])), (a_t_told, .inl (cI, 67, .inl t_told)), (a_t_s, .inl (cI, 87, .inl t_s))] sz)) (QI D [(a_t, .inr (5, [.int t_length, .ref a_t_text, .int t_spot, .ref a_t_told, .ref a_t_read, .ref a_t_s, .ref a_t_before, .int t_undoMany, .int t_shortAs, .int t_isolatorAs, .int t_worstWire, .int t_worstLost])), (a_t_told, .inl (cI, 67, .inl t_told)), (a_t_s, .inl (cI, 87, .inl t_s))] sz [(a_t, .inr (5, [.int t_length, .ref a_t_text, .int t_spot, .ref a_t_told, .ref a_t_read, .ref a_t_s, .ref a_t_before, .int t_undoMany, .int t_shortAs, .int t_isolatorAs, .int t_worstWire, .int t_worstLost])), (a_t_told, .inl (cI, 67, .inl t_told)), (a_t_s, .inl (cI, 87, .inl t_s))] out) 0 0 (va_A [(a_t, .inr (5, [.int t_length, .ref a_t_text, .int t_spot, .ref a_t_told, .ref a_t_read, .ref a_t_s, .ref a_t_before, .int t_undoMany, .int t_shortAs, .int t_isolatorAs, .int t_worstWire, .int t_worstLost])), (a_t_told, .inl (cI, 67, .inl t_told)), (a_t_s, .inl (cI, 87, .inl t_s))] sz) := by
  refine gm_i (cc := cX6_sounding) (maxL := 3) (rt := .int) (by decide) rfl (Nat.le_of_ble_eq_true rfl) ?_
  intro p e s m args below meth c A Q H locs ls hx hb hml hown hts hK hN hA hP hD hS hl hQ
  have hown : s.vm.findClass RX6 = some m.cls := hown
  have hl : lv_has ls 3 [(0, .ref a_t)] := hl
  have inX6 : ∀ w ∈ wsX60, w ∈ wsX6_sounding := by decide +kernel
  have k_0 := hts (.fieldLink RX6 13 "AlarmRingModel" "told" "[I") (by decide +kernel)
  unfold f_X6_sounding at h
  refine lv_iconst (v := 0) hx hb dX6_sounding_0 (by decide) ?_
  refine lv_istore_n (lv' := [(1, .int 0), (0, .ref a_t)]) hx hb dX6_sounding_1 rfl hl (by decide) rfl (fun ls hl => ?_)
  refine lv_iconst (v := 0) hx hb dX6_sounding_2 (by decide) ?_
  refine lv_istore_n (lv' := [(2, .int 0), (1, .int 0), (0, .ref a_t)]) hx hb dX6_sounding_3 rfl hl (by decide) rfl (fun ls hl => ?_)
  obtain ⟨q4, hq4, h⟩ := ob h
  have lp4 : ∀ (n : Nat) (v1 : Int32) (v2 : Int32) (H : Heap) (locs : List Loc) (ls : Array Slot), va_P D vwCl [(a_t, .inr (5, [.int t_length, .ref a_t_text, .int t_spot, .ref a_t_told, .ref a_t_read, .ref a_t_s, .ref a_t_before, .int t_undoMany, .int t_shortAs, .int t_isolatorAs, .int t_worstWire, .int t_worstLost])), (a_t_told, .inl (cI, 67, .inl t_told)), (a_t_s, .inl (cI, 87, .inl t_s))] H → va_D A [(a_t, .inr (5, [.int t_length, .ref a_t_text, .int t_spot, .ref a_t_told, .ref a_t_read, .ref a_t_s, .ref a_t_before, .int t_undoMany, .int t_shortAs, .int t_isolatorAs, .int t_worstWire, .int t_worstLost])), (a_t_told, .inl (cI, 67, .inl t_told)), (a_t_s, .inl (cI, 87, .inl t_s))] → va_S A s.heap H locs → lv_has ls 3 [(0, .ref a_t), (1, .int v1), (2, .int v2)] → ∀ (q4 : Int32), f_X6_sounding_4 t_told t_s n v1 v2 = some q4 → (∀ (H : Heap) (locs : List Loc) (ls : Array Slot), va_P D vwCl [(a_t, .inr (5, [.int t_length, .ref a_t_text, .int t_spot, .ref a_t_told, .ref a_t_read, .ref a_t_s, .ref a_t_before, .int t_undoMany, .int t_shortAs, .int t_isolatorAs, .int t_worstWire, .int t_worstLost])), (a_t_told, .inl (cI, 67, .inl t_told)), (a_t_s, .inl (cI, 87, .inl t_s))] H → va_D A [(a_t, .inr (5, [.int t_length, .ref a_t_text, .int t_spot, .ref a_t_told, .ref a_t_read, .ref a_t_s, .ref a_t_before, .int t_undoMany, .int t_shortAs, .int t_isolatorAs, .int t_worstWire, .int t_worstLost])), (a_t_told, .inl (cI, 67, .inl t_told)), (a_t_s, .inl (cI, 87, .inl t_s))] → va_S A s.heap H locs → lv_has ls 3 [(1, .int q4)] → W p l e rm_X6_sounding s m args below meth c H locs 0 0 Q (F0 m 37 ls [])) → W p l e rm_X6_sounding s m args below meth c H locs 0 0 Q (F0 m 4 ls []) := by
    intro n
    induction n with
    | zero => intro v1 v2 H locs ls hP hD hS hl q4 h kk; exact on_ h
    | succ n ih =>
      intro v1 v2 H locs ls hP hD hS hl q4 h kk
      rw [f_X6_sounding_4] at h
      refine lv_iload_n hx hb dX6_sounding_4 rfl (lv_at hl 2 rfl) ?_
      refine lv_aload_n hx hb dX6_sounding_5 rfl (lv_at hl 0 rfl) ?_
      refine va_get (D := D) (ci := 5) (v := .ref a_t_told) (C := RX6) (T := TX6) (N := 12) hx hb hts inX6 hown hK hP 0 rfl rfl 3 (by decide) k_0 (fun _ h9 => h9) rfl dX6_sounding_6 ?_
      refine lv_bipush (v := 61) hx hb dX6_sounding_9 (by decide) ?_
      refine va_iald hx hb hK hP 1 0 rfl rfl (i := 61) (show gi 61 67 by decide) dX6_sounding_11 ?_
      refine lv_icmp_ge (tgt := 37) hx hb dX6_sounding_12 (by decide) (fun cc => ?_) (fun cc => ?_)
      · have h := oi_t cc h
        obtain rfl := Option.some.inj h
        exact kk H locs ls hP hD hS (lv_sub hl [1] rfl)
      · have h := oi_f cc h
        refine lv_iload_n hx hb dX6_sounding_15 rfl (lv_at hl 1 rfl) ?_
        refine lv_aload_n hx hb dX6_sounding_16 rfl (lv_at hl 0 rfl) ?_
        refine lv_iload_n hx hb dX6_sounding_17 rfl (lv_at hl 2 rfl) ?_
        obtain ⟨u18, hu18, h⟩ := ob h
        refine gV_i (C := RX6) (T := TX6) (N := 12) (ci := 5) (q0 := 0) (wc := [(a_t, .inr (5, [.int t_length, .ref a_t_text, .int t_spot, .ref a_t_told, .ref a_t_read, .ref a_t_s, .ref a_t_before, .int t_undoMany, .int t_shortAs, .int t_isolatorAs, .int t_worstWire, .int t_worstLost])), (a_t_told, .inl (cI, 67, .inl t_told)), (a_t_s, .inl (cI, 87, .inl t_s))]) (wr := []) (w1 := [(a_t, .inr (5, [.int t_length, .ref a_t_text, .int t_spot, .ref a_t_told, .ref a_t_read, .ref a_t_s, .ref a_t_before, .int t_undoMany, .int t_shortAs, .int t_isolatorAs, .int t_worstWire, .int t_worstLost])), (a_t_told, .inl (cI, 67, .inl t_told)), (a_t_s, .inl (cI, 87, .inl t_s))]) (v := u18) (As := [.int v2]) (rest := [.int v1]) ⟨hx, hb, hml, hown, hts⟩ (c_X6_isSounding l D cI cS a_t a_t_told a_t_s a_t_text a_t_read a_t_before H.size t_length t_spot t_undoMany t_shortAs t_isolatorAs t_worstWire t_worstLost t_told t_s v2 u18 hu18) (cwV 1 hts gX6_sounding_X6_isSounding rfl rfl rfl cd_X6_isSounding ⟨Nat.le_of_ble_eq_true rfl, Nat.le_of_ble_eq_true rfl⟩) hK hN hP hD hS hA [0, 1, 2] [] rfl rfl (by decide) (by decide) (by decide) rfl rfl rfl hl.1 rfl (Nat.le_of_ble_eq_true rfl) dX6_sounding_18 ⟨Nat.zero_le _, Nat.zero_le _⟩ (fun H locs hP hD hS => ?_)
        have hP : va_P D vwCl [(a_t, .inr (5, [.int t_length, .ref a_t_text, .int t_spot, .ref a_t_told, .ref a_t_read, .ref a_t_s, .ref a_t_before, .int t_undoMany, .int t_shortAs, .int t_isolatorAs, .int t_worstWire, .int t_worstLost])), (a_t_told, .inl (cI, 67, .inl t_told)), (a_t_s, .inl (cI, 87, .inl t_s))] H := hP
        have hD : va_D A [(a_t, .inr (5, [.int t_length, .ref a_t_text, .int t_spot, .ref a_t_told, .ref a_t_read, .ref a_t_s, .ref a_t_before, .int t_undoMany, .int t_shortAs, .int t_isolatorAs, .int t_worstWire, .int t_worstLost])), (a_t_told, .inl (cI, 67, .inl t_told)), (a_t_s, .inl (cI, 87, .inl t_s))] := hD
        refine lv_if_eq (tgt := 28) hx hb dX6_sounding_21 (by decide) (fun cc => ?_) (fun cc => ?_)
        · have h := oi_t cc h
          refine lv_iconst (v := 0) hx hb dX6_sounding_28 (by decide) ?_
          refine lv_iadd hx hb dX6_sounding_29 ?_
          refine lv_istore_n (lv' := [(1, .int (v1 + 0)), (0, .ref a_t), (2, .int v2)]) hx hb dX6_sounding_30 rfl hl (by decide) rfl (fun ls hl => ?_)
          refine lv_iinc (v := (v2 + 1)) (lv' := [(2, .int (v2 + 1)), (1, .int (v1 + 0)), (0, .ref a_t)]) hx hb dX6_sounding_31 hl (k := 2) rfl (by first | rfl | decide) (by decide) rfl (fun ls hl => ?_)
          refine lv_goto (tgt := 4) hx hb dX6_sounding_34 (by decide) ?_
          exact ih (v1 + 0) (v2 + 1) H locs ls hP hD hS (lv_sub hl [2, 1, 0] rfl) q4 h kk
        · have h := oi_f cc h
          refine lv_iconst (v := 1) hx hb dX6_sounding_24 (by decide) ?_
          refine lv_goto (tgt := 29) hx hb dX6_sounding_25 (by decide) ?_
          refine lv_iadd hx hb dX6_sounding_29 ?_
          refine lv_istore_n (lv' := [(1, .int (v1 + 1)), (0, .ref a_t), (2, .int v2)]) hx hb dX6_sounding_30 rfl hl (by decide) rfl (fun ls hl => ?_)
          refine lv_iinc (v := (v2 + 1)) (lv' := [(2, .int (v2 + 1)), (1, .int (v1 + 1)), (0, .ref a_t)]) hx hb dX6_sounding_31 hl (k := 2) rfl (by first | rfl | decide) (by decide) rfl (fun ls hl => ?_)
          refine lv_goto (tgt := 4) hx hb dX6_sounding_34 (by decide) ?_
          exact ih (v1 + 1) (v2 + 1) H locs ls hP hD hS (lv_sub hl [2, 1, 0] rfl) q4 h kk
  refine lp4 1000 0 0 H locs ls hP hD hS (lv_sub hl [2, 1, 0] rfl) q4 hq4 (fun H locs ls hP hD hS hl => ?_)
  refine lv_iload_n hx hb dX6_sounding_37 rfl (lv_at hl 0 rfl) ?_
  obtain rfl := Option.some.inj h
  exact hQ 38 H locs ls rfl hP hD hS dX6_sounding_38

def f_X6_silence_18 (t_told : FN) : Nat → Int32 → FN → Option (FN)
  | 0, _, _ => none
  | n + 1, v2, w_t_s => (if (t_told (61 : Int32).toNatClampNeg) ≤ v2 then some (w_t_s) else ((f_X6_isSounding t_told w_t_s v2).bind (fun u39 => (if u39 = 0 then (if gi (73 + v2) 87 then (if gi (73 + v2) 87 then f_X6_silence_18 t_told n (v2 + 1) (upd w_t_s ((73 + v2)).toNatClampNeg (w_t_s ((73 + v2)).toNatClampNeg)) else none) else none) else (if gi (73 + v2) 87 then f_X6_silence_18 t_told n (v2 + 1) (upd w_t_s ((73 + v2)).toNatClampNeg 1) else none)))))
def f_X6_silence (t_undoMany : Int32) (t_told : FN) (t_s : FN) (t_before : FN) : Option (Int32 × Int32 × FN × FN) := ((f_X6_sounding t_told t_s).bind (fun u1 => (if u1 = 0 then some ((-2), t_undoMany, t_s, t_before) else ((f_X6_note t_undoMany t_s t_before).bind (fun u13 => ((f_X6_silence_18 t_told 1000 0 t_s).bind (fun (q18 : FN) => some (u1, u13.1, q18, u13.2))))))))
abbrev rm_X6_silence : Room := { frames := 2, cells := 0, slots := 0, locals := 43 }
theorem cd_X6_silence : (yX6_silence).cls = RX6 ∧ (yX6_silence).cls ≠ "java/lang/invoke/MethodHandle" ∧ (yX6_silence).cls ≠ "java/lang/invoke/VarHandle" ∧ (parseMethodDescriptor (yX6_silence).desc).map (fun d => d.parameters.length) = some 0 := by decide +kernel
set_option maxHeartbeats 4000000 in
set_option maxRecDepth 100000 in
theorem c_X6_silence (l : Launch) (D : va_G) (cI cS : ClassId) (a_t a_t_told a_t_s a_t_before a_t_text a_t_read : Nat) (sz : Nat) (t_length : Int32) (t_spot : Int32) (t_undoMany : Int32) (t_shortAs : Int32) (t_isolatorAs : Int32) (t_worstWire : Int32) (t_worstLost : Int32) (t_told : FN) (t_s : FN) (t_before : FN) (out : Int32 × Int32 × FN × FN) (h : f_X6_silence t_undoMany t_told t_s t_before = some out) : Met l yX6_silence wsX6_silence rm_X6_silence (va_Pc [.ref a_t] (GP D cI cS [(a_t, .inr (5, [.int t_length, .ref a_t_text, .int t_spot, .ref a_t_told, .ref a_t_read, .ref a_t_s, .ref a_t_before, .int t_undoMany, .int t_shortAs, .int t_isolatorAs, .int t_worstWire, .int t_worstLost])), (a_t_told, .inl (cI, 67, .inl t_told)), (a_t_s, .inl (cI, 87, .inl t_s)), (a_t_before, .inl (cI, 522, .inl t_before))] sz)) (QI D [(a_t, .inr (5, [.int t_length, .ref a_t_text, .int t_spot, .ref a_t_told, .ref a_t_read, .ref a_t_s, .ref a_t_before, .int t_undoMany, .int t_shortAs, .int t_isolatorAs, .int t_worstWire, .int t_worstLost])), (a_t_told, .inl (cI, 67, .inl t_told)), (a_t_s, .inl (cI, 87, .inl t_s)), (a_t_before, .inl (cI, 522, .inl t_before))] sz [(a_t, .inr (5, [.int t_length, .ref a_t_text, .int t_spot, .ref a_t_told, .ref a_t_read, .ref a_t_s, .ref a_t_before, .int out.2.1, .int t_shortAs, .int t_isolatorAs, .int t_worstWire, .int t_worstLost])), (a_t_told, .inl (cI, 67, .inl t_told)), (a_t_s, .inl (cI, 87, .inl out.2.2.1)), (a_t_before, .inl (cI, 522, .inl out.2.2.2))] out.1) 0 0 (va_A [(a_t, .inr (5, [.int t_length, .ref a_t_text, .int t_spot, .ref a_t_told, .ref a_t_read, .ref a_t_s, .ref a_t_before, .int t_undoMany, .int t_shortAs, .int t_isolatorAs, .int t_worstWire, .int t_worstLost])), (a_t_told, .inl (cI, 67, .inl t_told)), (a_t_s, .inl (cI, 87, .inl t_s)), (a_t_before, .inl (cI, 522, .inl t_before))] sz) := by
  refine gm_i (cc := cX6_silence) (maxL := 3) (rt := .int) (by decide) rfl (Nat.le_of_ble_eq_true rfl) ?_
  intro p e s m args below meth c A Q H locs ls hx hb hml hown hts hK hN hA hP hD hS hl hQ
  have hown : s.vm.findClass RX6 = some m.cls := hown
  have hl : lv_has ls 3 [(0, .ref a_t)] := hl
  have inX6 : ∀ w ∈ wsX60, w ∈ wsX6_silence := by decide +kernel
  have k_0 := hts (.fieldLink RX6 13 "AlarmRingModel" "told" "[I") (by decide +kernel)
  have k_1 := hts (.fieldLink RX6 19 "AlarmRingModel" "s" "[I") (by decide +kernel)
  unfold f_X6_silence at h
  refine lv_aload_n hx hb dX6_silence_0 rfl (lv_at hl 0 rfl) ?_
  obtain ⟨u1, hu1, h⟩ := ob h
  refine gV_i (C := RX6) (T := TX6) (N := 12) (ci := 5) (q0 := 0) (wc := [(a_t, .inr (5, [.int t_length, .ref a_t_text, .int t_spot, .ref a_t_told, .ref a_t_read, .ref a_t_s, .ref a_t_before, .int t_undoMany, .int t_shortAs, .int t_isolatorAs, .int t_worstWire, .int t_worstLost])), (a_t_told, .inl (cI, 67, .inl t_told)), (a_t_s, .inl (cI, 87, .inl t_s))]) (wr := [(a_t_before, .inl (cI, 522, .inl t_before))]) (w1 := [(a_t, .inr (5, [.int t_length, .ref a_t_text, .int t_spot, .ref a_t_told, .ref a_t_read, .ref a_t_s, .ref a_t_before, .int t_undoMany, .int t_shortAs, .int t_isolatorAs, .int t_worstWire, .int t_worstLost])), (a_t_told, .inl (cI, 67, .inl t_told)), (a_t_s, .inl (cI, 87, .inl t_s))]) (v := u1) (As := []) (rest := []) ⟨hx, hb, hml, hown, hts⟩ (c_X6_sounding l D cI cS a_t a_t_told a_t_s a_t_text a_t_read a_t_before H.size t_length t_spot t_undoMany t_shortAs t_isolatorAs t_worstWire t_worstLost t_told t_s u1 hu1) (cwV 0 hts gX6_silence_X6_sounding rfl rfl rfl cd_X6_sounding ⟨Nat.le_of_ble_eq_true rfl, Nat.le_of_ble_eq_true rfl⟩) hK hN hP hD hS hA [0, 1, 2] [3] rfl rfl (by decide) (by decide) (by decide) rfl rfl rfl hl.1 rfl (Nat.le_of_ble_eq_true rfl) dX6_silence_1 ⟨Nat.zero_le _, Nat.zero_le _⟩ (fun H locs hP hD hS => ?_)
  have hP : va_P D vwCl [(a_t, .inr (5, [.int t_length, .ref a_t_text, .int t_spot, .ref a_t_told, .ref a_t_read, .ref a_t_s, .ref a_t_before, .int t_undoMany, .int t_shortAs, .int t_isolatorAs, .int t_worstWire, .int t_worstLost])), (a_t_told, .inl (cI, 67, .inl t_told)), (a_t_s, .inl (cI, 87, .inl t_s)), (a_t_before, .inl (cI, 522, .inl t_before))] H := hP.sub [1, 2, 3, 0] rfl
  have hD : va_D A [(a_t, .inr (5, [.int t_length, .ref a_t_text, .int t_spot, .ref a_t_told, .ref a_t_read, .ref a_t_s, .ref a_t_before, .int t_undoMany, .int t_shortAs, .int t_isolatorAs, .int t_worstWire, .int t_worstLost])), (a_t_told, .inl (cI, 67, .inl t_told)), (a_t_s, .inl (cI, 87, .inl t_s)), (a_t_before, .inl (cI, 522, .inl t_before))] := hD.sub [1, 2, 3, 0] (by decide) rfl
  refine lv_istore_n (lv' := [(1, .int u1), (0, .ref a_t)]) hx hb dX6_silence_4 rfl hl (by decide) rfl (fun ls hl => ?_)
  refine lv_iload_n hx hb dX6_silence_5 rfl (lv_at hl 0 rfl) ?_
  refine lv_if_ne (tgt := 12) hx hb dX6_silence_6 (by decide) (fun cc => ?_) (fun cc => ?_)
  · have h := oi_f cc h
    refine lv_aload_n hx hb dX6_silence_12 rfl (lv_at hl 1 rfl) ?_
    obtain ⟨u13, hu13, h⟩ := ob h
    refine gV_v (C := RX6) (T := TX6) (N := 12) (ci := 5) (q0 := 0) (wc := [(a_t, .inr (5, [.int t_length, .ref a_t_text, .int t_spot, .ref a_t_told, .ref a_t_read, .ref a_t_s, .ref a_t_before, .int t_undoMany, .int t_shortAs, .int t_isolatorAs, .int t_worstWire, .int t_worstLost])), (a_t_s, .inl (cI, 87, .inl t_s)), (a_t_before, .inl (cI, 522, .inl t_before))]) (wr := [(a_t_told, .inl (cI, 67, .inl t_told))]) (w1 := [(a_t, .inr (5, [.int t_length, .ref a_t_text, .int t_spot, .ref a_t_told, .ref a_t_read, .ref a_t_s, .ref a_t_before, .int u13.1, .int t_shortAs, .int t_isolatorAs, .int t_worstWire, .int t_worstLost])), (a_t_s, .inl (cI, 87, .inl t_s)), (a_t_before, .inl (cI, 522, .inl u13.2))]) (As := []) (rest := []) ⟨hx, hb, hml, hown, hts⟩ (c_X6_note l D cI cS a_t a_t_s a_t_before a_t_text a_t_told a_t_read H.size t_length t_spot t_undoMany t_shortAs t_isolatorAs t_worstWire t_worstLost t_s t_before u13 hu13) (cwV 0 hts gX6_silence_X6_note rfl rfl rfl cd_X6_note ⟨Nat.le_of_ble_eq_true rfl, Nat.le_of_ble_eq_true rfl⟩) hK hN hP hD hS hA [0, 2, 3] [1] rfl rfl (by decide) (by decide) (by decide) rfl rfl rfl hl.1 rfl (Nat.le_of_ble_eq_true rfl) dX6_silence_13 ⟨Nat.zero_le _, Nat.zero_le _⟩ (fun H locs hP hD hS => ?_)
    have hP : va_P D vwCl [(a_t, .inr (5, [.int t_length, .ref a_t_text, .int t_spot, .ref a_t_told, .ref a_t_read, .ref a_t_s, .ref a_t_before, .int u13.1, .int t_shortAs, .int t_isolatorAs, .int t_worstWire, .int t_worstLost])), (a_t_told, .inl (cI, 67, .inl t_told)), (a_t_s, .inl (cI, 87, .inl t_s)), (a_t_before, .inl (cI, 522, .inl u13.2))] H := hP.sub [1, 0, 2, 3] rfl
    have hD : va_D A [(a_t, .inr (5, [.int t_length, .ref a_t_text, .int t_spot, .ref a_t_told, .ref a_t_read, .ref a_t_s, .ref a_t_before, .int u13.1, .int t_shortAs, .int t_isolatorAs, .int t_worstWire, .int t_worstLost])), (a_t_told, .inl (cI, 67, .inl t_told)), (a_t_s, .inl (cI, 87, .inl t_s)), (a_t_before, .inl (cI, 522, .inl u13.2))] := hD.sub [1, 0, 2, 3] (by decide) rfl
    refine lv_iconst (v := 0) hx hb dX6_silence_16 (by decide) ?_
    refine lv_istore_n (lv' := [(2, .int 0), (1, .int u1), (0, .ref a_t)]) hx hb dX6_silence_17 rfl hl (by decide) rfl (fun ls hl => ?_)
    obtain ⟨q18, hq18, h⟩ := ob h
    have lp18 : ∀ (n : Nat) (v2 : Int32) (w_t_s : FN) (H : Heap) (locs : List Loc) (ls : Array Slot), va_P D vwCl [(a_t, .inr (5, [.int t_length, .ref a_t_text, .int t_spot, .ref a_t_told, .ref a_t_read, .ref a_t_s, .ref a_t_before, .int u13.1, .int t_shortAs, .int t_isolatorAs, .int t_worstWire, .int t_worstLost])), (a_t_told, .inl (cI, 67, .inl t_told)), (a_t_s, .inl (cI, 87, .inl w_t_s)), (a_t_before, .inl (cI, 522, .inl u13.2))] H → va_D A [(a_t, .inr (5, [.int t_length, .ref a_t_text, .int t_spot, .ref a_t_told, .ref a_t_read, .ref a_t_s, .ref a_t_before, .int u13.1, .int t_shortAs, .int t_isolatorAs, .int t_worstWire, .int t_worstLost])), (a_t_told, .inl (cI, 67, .inl t_told)), (a_t_s, .inl (cI, 87, .inl w_t_s)), (a_t_before, .inl (cI, 522, .inl u13.2))] → va_S A s.heap H locs → lv_has ls 3 [(0, .ref a_t), (1, .int u1), (2, .int v2)] → ∀ (q18 : FN), f_X6_silence_18 t_told n v2 w_t_s = some q18 → (∀ (H : Heap) (locs : List Loc) (ls : Array Slot), va_P D vwCl [(a_t, .inr (5, [.int t_length, .ref a_t_text, .int t_spot, .ref a_t_told, .ref a_t_read, .ref a_t_s, .ref a_t_before, .int u13.1, .int t_shortAs, .int t_isolatorAs, .int t_worstWire, .int t_worstLost])), (a_t_told, .inl (cI, 67, .inl t_told)), (a_t_s, .inl (cI, 87, .inl q18)), (a_t_before, .inl (cI, 522, .inl u13.2))] H → va_D A [(a_t, .inr (5, [.int t_length, .ref a_t_text, .int t_spot, .ref a_t_told, .ref a_t_read, .ref a_t_s, .ref a_t_before, .int u13.1, .int t_shortAs, .int t_isolatorAs, .int t_worstWire, .int t_worstLost])), (a_t_told, .inl (cI, 67, .inl t_told)), (a_t_s, .inl (cI, 87, .inl q18)), (a_t_before, .inl (cI, 522, .inl u13.2))] → va_S A s.heap H locs → lv_has ls 3 [(1, .int u1)] → W p l e rm_X6_silence s m args below meth c H locs 0 0 Q (F0 m 65 ls [])) → W p l e rm_X6_silence s m args below meth c H locs 0 0 Q (F0 m 18 ls []) := by
      intro n
      induction n with
      | zero => intro v2 w_t_s H locs ls hP hD hS hl q18 h kk; exact on_ h
      | succ n ih =>
        intro v2 w_t_s H locs ls hP hD hS hl q18 h kk
        rw [f_X6_silence_18] at h
        refine lv_iload_n hx hb dX6_silence_18 rfl (lv_at hl 2 rfl) ?_
        refine lv_aload_n hx hb dX6_silence_19 rfl (lv_at hl 0 rfl) ?_
        refine va_get (D := D) (ci := 5) (v := .ref a_t_told) (C := RX6) (T := TX6) (N := 12) hx hb hts inX6 hown hK hP 0 rfl rfl 3 (by decide) k_0 (fun _ h9 => h9) rfl dX6_silence_20 ?_
        refine lv_bipush (v := 61) hx hb dX6_silence_23 (by decide) ?_
        refine va_iald hx hb hK hP 1 0 rfl rfl (i := 61) (show gi 61 67 by decide) dX6_silence_25 ?_
        refine lv_icmp_ge (tgt := 65) hx hb dX6_silence_26 (by decide) (fun cc => ?_) (fun cc => ?_)
        · have h := oi_t cc h
          obtain rfl := Option.some.inj h
          exact kk H locs ls hP hD hS (lv_sub hl [1] rfl)
        · have h := oi_f cc h
          refine lv_aload_n hx hb dX6_silence_29 rfl (lv_at hl 0 rfl) ?_
          refine va_get (D := D) (ci := 5) (v := .ref a_t_s) (C := RX6) (T := TX6) (N := 12) hx hb hts inX6 hown hK hP 0 rfl rfl 5 (by decide) k_1 (fun _ h9 => h9) rfl dX6_silence_30 ?_
          refine lv_bipush (v := 73) hx hb dX6_silence_33 (by decide) ?_
          refine lv_iload_n hx hb dX6_silence_35 rfl (lv_at hl 2 rfl) ?_
          refine lv_iadd hx hb dX6_silence_36 ?_
          refine lv_aload_n hx hb dX6_silence_37 rfl (lv_at hl 0 rfl) ?_
          refine lv_iload_n hx hb dX6_silence_38 rfl (lv_at hl 2 rfl) ?_
          obtain ⟨u39, hu39, h⟩ := ob h
          refine gV_i (C := RX6) (T := TX6) (N := 12) (ci := 5) (q0 := 0) (wc := [(a_t, .inr (5, [.int t_length, .ref a_t_text, .int t_spot, .ref a_t_told, .ref a_t_read, .ref a_t_s, .ref a_t_before, .int u13.1, .int t_shortAs, .int t_isolatorAs, .int t_worstWire, .int t_worstLost])), (a_t_told, .inl (cI, 67, .inl t_told)), (a_t_s, .inl (cI, 87, .inl w_t_s))]) (wr := [(a_t_before, .inl (cI, 522, .inl u13.2))]) (w1 := [(a_t, .inr (5, [.int t_length, .ref a_t_text, .int t_spot, .ref a_t_told, .ref a_t_read, .ref a_t_s, .ref a_t_before, .int u13.1, .int t_shortAs, .int t_isolatorAs, .int t_worstWire, .int t_worstLost])), (a_t_told, .inl (cI, 67, .inl t_told)), (a_t_s, .inl (cI, 87, .inl w_t_s))]) (v := u39) (As := [.int v2]) (rest := [.int (73 + v2), .ref a_t_s]) ⟨hx, hb, hml, hown, hts⟩ (c_X6_isSounding l D cI cS a_t a_t_told a_t_s a_t_text a_t_read a_t_before H.size t_length t_spot u13.1 t_shortAs t_isolatorAs t_worstWire t_worstLost t_told w_t_s v2 u39 hu39) (cwV 1 hts gX6_silence_X6_isSounding rfl rfl rfl cd_X6_isSounding ⟨Nat.le_of_ble_eq_true rfl, Nat.le_of_ble_eq_true rfl⟩) hK hN hP hD hS hA [0, 1, 2] [3] rfl rfl (by decide) (by decide) (by decide) rfl rfl rfl hl.1 rfl (Nat.le_of_ble_eq_true rfl) dX6_silence_39 ⟨Nat.zero_le _, Nat.zero_le _⟩ (fun H locs hP hD hS => ?_)
          have hP : va_P D vwCl [(a_t, .inr (5, [.int t_length, .ref a_t_text, .int t_spot, .ref a_t_told, .ref a_t_read, .ref a_t_s, .ref a_t_before, .int u13.1, .int t_shortAs, .int t_isolatorAs, .int t_worstWire, .int t_worstLost])), (a_t_told, .inl (cI, 67, .inl t_told)), (a_t_s, .inl (cI, 87, .inl w_t_s)), (a_t_before, .inl (cI, 522, .inl u13.2))] H := hP.sub [1, 2, 3, 0] rfl
          have hD : va_D A [(a_t, .inr (5, [.int t_length, .ref a_t_text, .int t_spot, .ref a_t_told, .ref a_t_read, .ref a_t_s, .ref a_t_before, .int u13.1, .int t_shortAs, .int t_isolatorAs, .int t_worstWire, .int t_worstLost])), (a_t_told, .inl (cI, 67, .inl t_told)), (a_t_s, .inl (cI, 87, .inl w_t_s)), (a_t_before, .inl (cI, 522, .inl u13.2))] := hD.sub [1, 2, 3, 0] (by decide) rfl
          refine lv_if_eq (tgt := 49) hx hb dX6_silence_42 (by decide) (fun cc => ?_) (fun cc => ?_)
          · have h := oi_t cc h
            refine lv_aload_n hx hb dX6_silence_49 rfl (lv_at hl 0 rfl) ?_
            refine va_get (D := D) (ci := 5) (v := .ref a_t_s) (C := RX6) (T := TX6) (N := 12) hx hb hts inX6 hown hK hP 0 rfl rfl 5 (by decide) k_1 (fun _ h9 => h9) rfl dX6_silence_50 ?_
            refine lv_bipush (v := 73) hx hb dX6_silence_53 (by decide) ?_
            refine lv_iload_n hx hb dX6_silence_55 rfl (lv_at hl 2 rfl) ?_
            refine lv_iadd hx hb dX6_silence_56 ?_
            obtain ⟨gg, h⟩ := og h
            refine va_iald hx hb hK hP 2 0 rfl rfl gg dX6_silence_57 ?_
            obtain ⟨gg, h⟩ := og h
            refine va_iast hx hb hK hP hD hS 2 0 rfl rfl gg dX6_silence_58 (fun H locs hP hD hS => ?_)
            have hP : va_P D vwCl [(a_t, .inr (5, [.int t_length, .ref a_t_text, .int t_spot, .ref a_t_told, .ref a_t_read, .ref a_t_s, .ref a_t_before, .int u13.1, .int t_shortAs, .int t_isolatorAs, .int t_worstWire, .int t_worstLost])), (a_t_told, .inl (cI, 67, .inl t_told)), (a_t_s, .inl (cI, 87, .inl (upd w_t_s ((73 + v2)).toNatClampNeg (w_t_s ((73 + v2)).toNatClampNeg)))), (a_t_before, .inl (cI, 522, .inl u13.2))] H := hP
            have hD : va_D A [(a_t, .inr (5, [.int t_length, .ref a_t_text, .int t_spot, .ref a_t_told, .ref a_t_read, .ref a_t_s, .ref a_t_before, .int u13.1, .int t_shortAs, .int t_isolatorAs, .int t_worstWire, .int t_worstLost])), (a_t_told, .inl (cI, 67, .inl t_told)), (a_t_s, .inl (cI, 87, .inl (upd w_t_s ((73 + v2)).toNatClampNeg (w_t_s ((73 + v2)).toNatClampNeg)))), (a_t_before, .inl (cI, 522, .inl u13.2))] := hD
            refine lv_iinc (v := (v2 + 1)) (lv' := [(2, .int (v2 + 1)), (0, .ref a_t), (1, .int u1)]) hx hb dX6_silence_59 hl (k := 2) rfl (by first | rfl | decide) (by decide) rfl (fun ls hl => ?_)
            refine lv_goto (tgt := 18) hx hb dX6_silence_62 (by decide) ?_
            exact ih (v2 + 1) (upd w_t_s ((73 + v2)).toNatClampNeg (w_t_s ((73 + v2)).toNatClampNeg)) H locs ls hP hD hS (lv_sub hl [1, 2, 0] rfl) q18 h kk
          · have h := oi_f cc h
            refine lv_iconst (v := 1) hx hb dX6_silence_45 (by decide) ?_
            refine lv_goto (tgt := 58) hx hb dX6_silence_46 (by decide) ?_
            obtain ⟨gg, h⟩ := og h
            refine va_iast hx hb hK hP hD hS 2 0 rfl rfl gg dX6_silence_58 (fun H locs hP hD hS => ?_)
            have hP : va_P D vwCl [(a_t, .inr (5, [.int t_length, .ref a_t_text, .int t_spot, .ref a_t_told, .ref a_t_read, .ref a_t_s, .ref a_t_before, .int u13.1, .int t_shortAs, .int t_isolatorAs, .int t_worstWire, .int t_worstLost])), (a_t_told, .inl (cI, 67, .inl t_told)), (a_t_s, .inl (cI, 87, .inl (upd w_t_s ((73 + v2)).toNatClampNeg 1))), (a_t_before, .inl (cI, 522, .inl u13.2))] H := hP
            have hD : va_D A [(a_t, .inr (5, [.int t_length, .ref a_t_text, .int t_spot, .ref a_t_told, .ref a_t_read, .ref a_t_s, .ref a_t_before, .int u13.1, .int t_shortAs, .int t_isolatorAs, .int t_worstWire, .int t_worstLost])), (a_t_told, .inl (cI, 67, .inl t_told)), (a_t_s, .inl (cI, 87, .inl (upd w_t_s ((73 + v2)).toNatClampNeg 1))), (a_t_before, .inl (cI, 522, .inl u13.2))] := hD
            refine lv_iinc (v := (v2 + 1)) (lv' := [(2, .int (v2 + 1)), (0, .ref a_t), (1, .int u1)]) hx hb dX6_silence_59 hl (k := 2) rfl (by first | rfl | decide) (by decide) rfl (fun ls hl => ?_)
            refine lv_goto (tgt := 18) hx hb dX6_silence_62 (by decide) ?_
            exact ih (v2 + 1) (upd w_t_s ((73 + v2)).toNatClampNeg 1) H locs ls hP hD hS (lv_sub hl [1, 2, 0] rfl) q18 h kk
    refine lp18 1000 0 t_s H locs ls hP hD hS (lv_sub hl [2, 1, 0] rfl) q18 hq18 (fun H locs ls hP hD hS hl => ?_)
    refine lv_iload_n hx hb dX6_silence_65 rfl (lv_at hl 0 rfl) ?_
    obtain rfl := Option.some.inj h
    exact hQ 66 H locs ls rfl hP hD hS dX6_silence_66
  · have h := oi_t cc h
    refine lv_bipush (v := (-2)) hx hb dX6_silence_9 (by decide) ?_
    obtain rfl := Option.some.inj h
    exact hQ 11 H locs ls rfl hP hD hS dX6_silence_11

def f_X6_reset_33  : Nat → Int32 → FN → Option (FN)
  | 0, _, _ => none
  | n + 1, v2, w_t_s => (if 12 ≤ v2 then some (w_t_s) else (if gi (36 + v2) 87 then (if gi (24 + v2) 87 then f_X6_reset_33  n (v2 + 1) (upd (upd w_t_s ((36 + v2)).toNatClampNeg 0) ((24 + v2)).toNatClampNeg 0) else none) else none))
def f_X6_reset_67  : Nat → Int32 → FN → Option (FN)
  | 0, _, _ => none
  | n + 1, v2, w_t_s => (if 6 ≤ v2 then some (w_t_s) else (if gi (61 + v2) 87 then (if gi (67 + v2) 87 then (if gi (73 + v2) 87 then (if gi (79 + v2) 87 then f_X6_reset_67  n (v2 + 1) (upd (upd (upd (upd w_t_s ((61 + v2)).toNatClampNeg 0) ((67 + v2)).toNatClampNeg 0) ((73 + v2)).toNatClampNeg 0) ((79 + v2)).toNatClampNeg 0) else none) else none) else none) else none))
def f_X6_reset (t_undoMany : Int32) (t_s : FN) (t_before : FN) : Option (Int32 × Int32 × FN × FN) := ((f_X6_sumOf t_s 36 12).bind (fun u5 => (if u5 = 0 then ((f_X6_sumOf t_s 67 6).bind (fun u18 => (if u18 = 0 then some ((-2), t_undoMany, t_s, t_before) else ((f_X6_note t_undoMany t_s t_before).bind (fun u28 => ((f_X6_reset_33  1000 0 t_s).bind (fun (q33 : FN) => ((f_X6_reset_67  1000 0 q33).bind (fun (q67 : FN) => some (u5, u28.1, q67, u28.2)))))))))) else ((f_X6_note t_undoMany t_s t_before).bind (fun u28 => ((f_X6_reset_33  1000 0 t_s).bind (fun (q33 : FN) => ((f_X6_reset_67  1000 0 q33).bind (fun (q67 : FN) => some (u5, u28.1, q67, u28.2))))))))))
abbrev rm_X6_reset : Room := { frames := 1, cells := 0, slots := 0, locals := 24 }
theorem cd_X6_reset : (yX6_reset).cls = RX6 ∧ (yX6_reset).cls ≠ "java/lang/invoke/MethodHandle" ∧ (yX6_reset).cls ≠ "java/lang/invoke/VarHandle" ∧ (parseMethodDescriptor (yX6_reset).desc).map (fun d => d.parameters.length) = some 0 := by decide +kernel
set_option maxHeartbeats 4000000 in
set_option maxRecDepth 100000 in
theorem c_X6_reset (l : Launch) (D : va_G) (cI cS : ClassId) (a_t a_t_s a_t_before a_t_text a_t_told a_t_read : Nat) (sz : Nat) (t_length : Int32) (t_spot : Int32) (t_undoMany : Int32) (t_shortAs : Int32) (t_isolatorAs : Int32) (t_worstWire : Int32) (t_worstLost : Int32) (t_s : FN) (t_before : FN) (out : Int32 × Int32 × FN × FN) (h : f_X6_reset t_undoMany t_s t_before = some out) : Met l yX6_reset wsX6_reset rm_X6_reset (va_Pc [.ref a_t] (GP D cI cS [(a_t, .inr (5, [.int t_length, .ref a_t_text, .int t_spot, .ref a_t_told, .ref a_t_read, .ref a_t_s, .ref a_t_before, .int t_undoMany, .int t_shortAs, .int t_isolatorAs, .int t_worstWire, .int t_worstLost])), (a_t_s, .inl (cI, 87, .inl t_s)), (a_t_before, .inl (cI, 522, .inl t_before))] sz)) (QI D [(a_t, .inr (5, [.int t_length, .ref a_t_text, .int t_spot, .ref a_t_told, .ref a_t_read, .ref a_t_s, .ref a_t_before, .int t_undoMany, .int t_shortAs, .int t_isolatorAs, .int t_worstWire, .int t_worstLost])), (a_t_s, .inl (cI, 87, .inl t_s)), (a_t_before, .inl (cI, 522, .inl t_before))] sz [(a_t, .inr (5, [.int t_length, .ref a_t_text, .int t_spot, .ref a_t_told, .ref a_t_read, .ref a_t_s, .ref a_t_before, .int out.2.1, .int t_shortAs, .int t_isolatorAs, .int t_worstWire, .int t_worstLost])), (a_t_s, .inl (cI, 87, .inl out.2.2.1)), (a_t_before, .inl (cI, 522, .inl out.2.2.2))] out.1) 0 0 (va_A [(a_t, .inr (5, [.int t_length, .ref a_t_text, .int t_spot, .ref a_t_told, .ref a_t_read, .ref a_t_s, .ref a_t_before, .int t_undoMany, .int t_shortAs, .int t_isolatorAs, .int t_worstWire, .int t_worstLost])), (a_t_s, .inl (cI, 87, .inl t_s)), (a_t_before, .inl (cI, 522, .inl t_before))] sz) := by
  refine gm_i (cc := cX6_reset) (maxL := 3) (rt := .int) (by decide) rfl (Nat.le_of_ble_eq_true rfl) ?_
  intro p e s m args below meth c A Q H locs ls hx hb hml hown hts hK hN hA hP hD hS hl hQ
  have hown : s.vm.findClass RX6 = some m.cls := hown
  have hl : lv_has ls 3 [(0, .ref a_t)] := hl
  have inX6 : ∀ w ∈ wsX60, w ∈ wsX6_reset := by decide +kernel
  have k_0 := hts (.fieldLink RX6 19 "AlarmRingModel" "s" "[I") (by decide +kernel)
  unfold f_X6_reset at h
  refine lv_aload_n hx hb dX6_reset_0 rfl (lv_at hl 0 rfl) ?_
  refine lv_bipush (v := 36) hx hb dX6_reset_1 (by decide) ?_
  refine lv_bipush (v := 12) hx hb dX6_reset_3 (by decide) ?_
  obtain ⟨u5, hu5, h⟩ := ob h
  refine gV_i (C := RX6) (T := TX6) (N := 12) (ci := 5) (q0 := 0) (wc := [(a_t, .inr (5, [.int t_length, .ref a_t_text, .int t_spot, .ref a_t_told, .ref a_t_read, .ref a_t_s, .ref a_t_before, .int t_undoMany, .int t_shortAs, .int t_isolatorAs, .int t_worstWire, .int t_worstLost])), (a_t_s, .inl (cI, 87, .inl t_s))]) (wr := [(a_t_before, .inl (cI, 522, .inl t_before))]) (w1 := [(a_t, .inr (5, [.int t_length, .ref a_t_text, .int t_spot, .ref a_t_told, .ref a_t_read, .ref a_t_s, .ref a_t_before, .int t_undoMany, .int t_shortAs, .int t_isolatorAs, .int t_worstWire, .int t_worstLost])), (a_t_s, .inl (cI, 87, .inl t_s))]) (v := u5) (As := [.int 36, .int 12]) (rest := []) ⟨hx, hb, hml, hown, hts⟩ (c_X6_sumOf l D cI cS a_t a_t_s a_t_text a_t_told a_t_read a_t_before H.size t_length t_spot t_undoMany t_shortAs t_isolatorAs t_worstWire t_worstLost t_s 36 12 u5 hu5) (cwV 2 hts gX6_reset_X6_sumOf rfl rfl rfl cd_X6_sumOf ⟨Nat.le_of_ble_eq_true rfl, Nat.le_of_ble_eq_true rfl⟩) hK hN hP hD hS hA [0, 1] [2] rfl rfl (by decide) (by decide) (by decide) rfl rfl rfl hl.1 rfl (Nat.le_of_ble_eq_true rfl) dX6_reset_5 ⟨Nat.zero_le _, Nat.zero_le _⟩ (fun H locs hP hD hS => ?_)
  have hP : va_P D vwCl [(a_t, .inr (5, [.int t_length, .ref a_t_text, .int t_spot, .ref a_t_told, .ref a_t_read, .ref a_t_s, .ref a_t_before, .int t_undoMany, .int t_shortAs, .int t_isolatorAs, .int t_worstWire, .int t_worstLost])), (a_t_s, .inl (cI, 87, .inl t_s)), (a_t_before, .inl (cI, 522, .inl t_before))] H := hP.sub [1, 2, 0] rfl
  have hD : va_D A [(a_t, .inr (5, [.int t_length, .ref a_t_text, .int t_spot, .ref a_t_told, .ref a_t_read, .ref a_t_s, .ref a_t_before, .int t_undoMany, .int t_shortAs, .int t_isolatorAs, .int t_worstWire, .int t_worstLost])), (a_t_s, .inl (cI, 87, .inl t_s)), (a_t_before, .inl (cI, 522, .inl t_before))] := hD.sub [1, 2, 0] (by decide) rfl
  refine lv_istore_n (lv' := [(1, .int u5), (0, .ref a_t)]) hx hb dX6_reset_8 rfl hl (by decide) rfl (fun ls hl => ?_)
  refine lv_iload_n hx hb dX6_reset_9 rfl (lv_at hl 0 rfl) ?_
  refine lv_if_ne (tgt := 27) hx hb dX6_reset_10 (by decide) (fun cc => ?_) (fun cc => ?_)
  · have h := oi_f cc h
    refine lv_aload_n hx hb dX6_reset_27 rfl (lv_at hl 1 rfl) ?_
    obtain ⟨u28, hu28, h⟩ := ob h
    refine gV_v (C := RX6) (T := TX6) (N := 12) (ci := 5) (q0 := 0) (wc := [(a_t, .inr (5, [.int t_length, .ref a_t_text, .int t_spot, .ref a_t_told, .ref a_t_read, .ref a_t_s, .ref a_t_before, .int t_undoMany, .int t_shortAs, .int t_isolatorAs, .int t_worstWire, .int t_worstLost])), (a_t_s, .inl (cI, 87, .inl t_s)), (a_t_before, .inl (cI, 522, .inl t_before))]) (wr := []) (w1 := [(a_t, .inr (5, [.int t_length, .ref a_t_text, .int t_spot, .ref a_t_told, .ref a_t_read, .ref a_t_s, .ref a_t_before, .int u28.1, .int t_shortAs, .int t_isolatorAs, .int t_worstWire, .int t_worstLost])), (a_t_s, .inl (cI, 87, .inl t_s)), (a_t_before, .inl (cI, 522, .inl u28.2))]) (As := []) (rest := []) ⟨hx, hb, hml, hown, hts⟩ (c_X6_note l D cI cS a_t a_t_s a_t_before a_t_text a_t_told a_t_read H.size t_length t_spot t_undoMany t_shortAs t_isolatorAs t_worstWire t_worstLost t_s t_before u28 hu28) (cwV 0 hts gX6_reset_X6_note rfl rfl rfl cd_X6_note ⟨Nat.le_of_ble_eq_true rfl, Nat.le_of_ble_eq_true rfl⟩) hK hN hP hD hS hA [0, 1, 2] [] rfl rfl (by decide) (by decide) (by decide) rfl rfl rfl hl.1 rfl (Nat.le_of_ble_eq_true rfl) dX6_reset_28 ⟨Nat.zero_le _, Nat.zero_le _⟩ (fun H locs hP hD hS => ?_)
    have hP : va_P D vwCl [(a_t, .inr (5, [.int t_length, .ref a_t_text, .int t_spot, .ref a_t_told, .ref a_t_read, .ref a_t_s, .ref a_t_before, .int u28.1, .int t_shortAs, .int t_isolatorAs, .int t_worstWire, .int t_worstLost])), (a_t_s, .inl (cI, 87, .inl t_s)), (a_t_before, .inl (cI, 522, .inl u28.2))] H := hP
    have hD : va_D A [(a_t, .inr (5, [.int t_length, .ref a_t_text, .int t_spot, .ref a_t_told, .ref a_t_read, .ref a_t_s, .ref a_t_before, .int u28.1, .int t_shortAs, .int t_isolatorAs, .int t_worstWire, .int t_worstLost])), (a_t_s, .inl (cI, 87, .inl t_s)), (a_t_before, .inl (cI, 522, .inl u28.2))] := hD
    refine lv_iconst (v := 0) hx hb dX6_reset_31 (by decide) ?_
    refine lv_istore_n (lv' := [(2, .int 0), (1, .int u5), (0, .ref a_t)]) hx hb dX6_reset_32 rfl hl (by decide) rfl (fun ls hl => ?_)
    obtain ⟨q33, hq33, h⟩ := ob h
    have lp33 : ∀ (n : Nat) (v2 : Int32) (w_t_s : FN) (H : Heap) (locs : List Loc) (ls : Array Slot), va_P D vwCl [(a_t, .inr (5, [.int t_length, .ref a_t_text, .int t_spot, .ref a_t_told, .ref a_t_read, .ref a_t_s, .ref a_t_before, .int u28.1, .int t_shortAs, .int t_isolatorAs, .int t_worstWire, .int t_worstLost])), (a_t_s, .inl (cI, 87, .inl w_t_s)), (a_t_before, .inl (cI, 522, .inl u28.2))] H → va_D A [(a_t, .inr (5, [.int t_length, .ref a_t_text, .int t_spot, .ref a_t_told, .ref a_t_read, .ref a_t_s, .ref a_t_before, .int u28.1, .int t_shortAs, .int t_isolatorAs, .int t_worstWire, .int t_worstLost])), (a_t_s, .inl (cI, 87, .inl w_t_s)), (a_t_before, .inl (cI, 522, .inl u28.2))] → va_S A s.heap H locs → lv_has ls 3 [(0, .ref a_t), (1, .int u5), (2, .int v2)] → ∀ (q33 : FN), f_X6_reset_33  n v2 w_t_s = some q33 → (∀ (H : Heap) (locs : List Loc) (ls : Array Slot), va_P D vwCl [(a_t, .inr (5, [.int t_length, .ref a_t_text, .int t_spot, .ref a_t_told, .ref a_t_read, .ref a_t_s, .ref a_t_before, .int u28.1, .int t_shortAs, .int t_isolatorAs, .int t_worstWire, .int t_worstLost])), (a_t_s, .inl (cI, 87, .inl q33)), (a_t_before, .inl (cI, 522, .inl u28.2))] H → va_D A [(a_t, .inr (5, [.int t_length, .ref a_t_text, .int t_spot, .ref a_t_told, .ref a_t_read, .ref a_t_s, .ref a_t_before, .int u28.1, .int t_shortAs, .int t_isolatorAs, .int t_worstWire, .int t_worstLost])), (a_t_s, .inl (cI, 87, .inl q33)), (a_t_before, .inl (cI, 522, .inl u28.2))] → va_S A s.heap H locs → lv_has ls 3 [(0, .ref a_t), (1, .int u5)] → W p l e rm_X6_reset s m args below meth c H locs 0 0 Q (F0 m 65 ls [])) → W p l e rm_X6_reset s m args below meth c H locs 0 0 Q (F0 m 33 ls []) := by
      intro n
      induction n with
      | zero => intro v2 w_t_s H locs ls hP hD hS hl q33 h kk; exact on_ h
      | succ n ih =>
        intro v2 w_t_s H locs ls hP hD hS hl q33 h kk
        rw [f_X6_reset_33] at h
        refine lv_iload_n hx hb dX6_reset_33 rfl (lv_at hl 2 rfl) ?_
        refine lv_bipush (v := 12) hx hb dX6_reset_34 (by decide) ?_
        refine lv_icmp_ge (tgt := 65) hx hb dX6_reset_36 (by decide) (fun cc => ?_) (fun cc => ?_)
        · have h := oi_t cc h
          obtain rfl := Option.some.inj h
          exact kk H locs ls hP hD hS (lv_sub hl [0, 1] rfl)
        · have h := oi_f cc h
          refine lv_aload_n hx hb dX6_reset_39 rfl (lv_at hl 0 rfl) ?_
          refine va_get (D := D) (ci := 5) (v := .ref a_t_s) (C := RX6) (T := TX6) (N := 12) hx hb hts inX6 hown hK hP 0 rfl rfl 5 (by decide) k_0 (fun _ h9 => h9) rfl dX6_reset_40 ?_
          refine lv_bipush (v := 36) hx hb dX6_reset_43 (by decide) ?_
          refine lv_iload_n hx hb dX6_reset_45 rfl (lv_at hl 2 rfl) ?_
          refine lv_iadd hx hb dX6_reset_46 ?_
          refine lv_iconst (v := 0) hx hb dX6_reset_47 (by decide) ?_
          obtain ⟨gg, h⟩ := og h
          refine va_iast hx hb hK hP hD hS 1 0 rfl rfl gg dX6_reset_48 (fun H locs hP hD hS => ?_)
          have hP : va_P D vwCl [(a_t, .inr (5, [.int t_length, .ref a_t_text, .int t_spot, .ref a_t_told, .ref a_t_read, .ref a_t_s, .ref a_t_before, .int u28.1, .int t_shortAs, .int t_isolatorAs, .int t_worstWire, .int t_worstLost])), (a_t_s, .inl (cI, 87, .inl (upd w_t_s ((36 + v2)).toNatClampNeg 0))), (a_t_before, .inl (cI, 522, .inl u28.2))] H := hP
          have hD : va_D A [(a_t, .inr (5, [.int t_length, .ref a_t_text, .int t_spot, .ref a_t_told, .ref a_t_read, .ref a_t_s, .ref a_t_before, .int u28.1, .int t_shortAs, .int t_isolatorAs, .int t_worstWire, .int t_worstLost])), (a_t_s, .inl (cI, 87, .inl (upd w_t_s ((36 + v2)).toNatClampNeg 0))), (a_t_before, .inl (cI, 522, .inl u28.2))] := hD
          refine lv_aload_n hx hb dX6_reset_49 rfl (lv_at hl 0 rfl) ?_
          refine va_get (D := D) (ci := 5) (v := .ref a_t_s) (C := RX6) (T := TX6) (N := 12) hx hb hts inX6 hown hK hP 0 rfl rfl 5 (by decide) k_0 (fun _ h9 => h9) rfl dX6_reset_50 ?_
          refine lv_bipush (v := 24) hx hb dX6_reset_53 (by decide) ?_
          refine lv_iload_n hx hb dX6_reset_55 rfl (lv_at hl 2 rfl) ?_
          refine lv_iadd hx hb dX6_reset_56 ?_
          refine lv_iconst (v := 0) hx hb dX6_reset_57 (by decide) ?_
          obtain ⟨gg, h⟩ := og h
          refine va_iast hx hb hK hP hD hS 1 0 rfl rfl gg dX6_reset_58 (fun H locs hP hD hS => ?_)
          have hP : va_P D vwCl [(a_t, .inr (5, [.int t_length, .ref a_t_text, .int t_spot, .ref a_t_told, .ref a_t_read, .ref a_t_s, .ref a_t_before, .int u28.1, .int t_shortAs, .int t_isolatorAs, .int t_worstWire, .int t_worstLost])), (a_t_s, .inl (cI, 87, .inl (upd (upd w_t_s ((36 + v2)).toNatClampNeg 0) ((24 + v2)).toNatClampNeg 0))), (a_t_before, .inl (cI, 522, .inl u28.2))] H := hP
          have hD : va_D A [(a_t, .inr (5, [.int t_length, .ref a_t_text, .int t_spot, .ref a_t_told, .ref a_t_read, .ref a_t_s, .ref a_t_before, .int u28.1, .int t_shortAs, .int t_isolatorAs, .int t_worstWire, .int t_worstLost])), (a_t_s, .inl (cI, 87, .inl (upd (upd w_t_s ((36 + v2)).toNatClampNeg 0) ((24 + v2)).toNatClampNeg 0))), (a_t_before, .inl (cI, 522, .inl u28.2))] := hD
          refine lv_iinc (v := (v2 + 1)) (lv' := [(2, .int (v2 + 1)), (0, .ref a_t), (1, .int u5)]) hx hb dX6_reset_59 hl (k := 2) rfl (by first | rfl | decide) (by decide) rfl (fun ls hl => ?_)
          refine lv_goto (tgt := 33) hx hb dX6_reset_62 (by decide) ?_
          exact ih (v2 + 1) (upd (upd w_t_s ((36 + v2)).toNatClampNeg 0) ((24 + v2)).toNatClampNeg 0) H locs ls hP hD hS (lv_sub hl [1, 2, 0] rfl) q33 h kk
    refine lp33 1000 0 t_s H locs ls hP hD hS (lv_sub hl [2, 1, 0] rfl) q33 hq33 (fun H locs ls hP hD hS hl => ?_)
    refine lv_iconst (v := 0) hx hb dX6_reset_65 (by decide) ?_
    refine lv_istore_n (lv' := [(2, .int 0), (0, .ref a_t), (1, .int u5)]) hx hb dX6_reset_66 rfl hl (by decide) rfl (fun ls hl => ?_)
    obtain ⟨q67, hq67, h⟩ := ob h
    have lp67 : ∀ (n : Nat) (v2 : Int32) (w_t_s : FN) (H : Heap) (locs : List Loc) (ls : Array Slot), va_P D vwCl [(a_t, .inr (5, [.int t_length, .ref a_t_text, .int t_spot, .ref a_t_told, .ref a_t_read, .ref a_t_s, .ref a_t_before, .int u28.1, .int t_shortAs, .int t_isolatorAs, .int t_worstWire, .int t_worstLost])), (a_t_s, .inl (cI, 87, .inl w_t_s)), (a_t_before, .inl (cI, 522, .inl u28.2))] H → va_D A [(a_t, .inr (5, [.int t_length, .ref a_t_text, .int t_spot, .ref a_t_told, .ref a_t_read, .ref a_t_s, .ref a_t_before, .int u28.1, .int t_shortAs, .int t_isolatorAs, .int t_worstWire, .int t_worstLost])), (a_t_s, .inl (cI, 87, .inl w_t_s)), (a_t_before, .inl (cI, 522, .inl u28.2))] → va_S A s.heap H locs → lv_has ls 3 [(0, .ref a_t), (1, .int u5), (2, .int v2)] → ∀ (q67 : FN), f_X6_reset_67  n v2 w_t_s = some q67 → (∀ (H : Heap) (locs : List Loc) (ls : Array Slot), va_P D vwCl [(a_t, .inr (5, [.int t_length, .ref a_t_text, .int t_spot, .ref a_t_told, .ref a_t_read, .ref a_t_s, .ref a_t_before, .int u28.1, .int t_shortAs, .int t_isolatorAs, .int t_worstWire, .int t_worstLost])), (a_t_s, .inl (cI, 87, .inl q67)), (a_t_before, .inl (cI, 522, .inl u28.2))] H → va_D A [(a_t, .inr (5, [.int t_length, .ref a_t_text, .int t_spot, .ref a_t_told, .ref a_t_read, .ref a_t_s, .ref a_t_before, .int u28.1, .int t_shortAs, .int t_isolatorAs, .int t_worstWire, .int t_worstLost])), (a_t_s, .inl (cI, 87, .inl q67)), (a_t_before, .inl (cI, 522, .inl u28.2))] → va_S A s.heap H locs → lv_has ls 3 [(1, .int u5)] → W p l e rm_X6_reset s m args below meth c H locs 0 0 Q (F0 m 119 ls [])) → W p l e rm_X6_reset s m args below meth c H locs 0 0 Q (F0 m 67 ls []) := by
      intro n
      induction n with
      | zero => intro v2 w_t_s H locs ls hP hD hS hl q67 h kk; exact on_ h
      | succ n ih =>
        intro v2 w_t_s H locs ls hP hD hS hl q67 h kk
        rw [f_X6_reset_67] at h
        refine lv_iload_n hx hb dX6_reset_67 rfl (lv_at hl 2 rfl) ?_
        refine lv_bipush (v := 6) hx hb dX6_reset_68 (by decide) ?_
        refine lv_icmp_ge (tgt := 119) hx hb dX6_reset_70 (by decide) (fun cc => ?_) (fun cc => ?_)
        · have h := oi_t cc h
          obtain rfl := Option.some.inj h
          exact kk H locs ls hP hD hS (lv_sub hl [1] rfl)
        · have h := oi_f cc h
          refine lv_aload_n hx hb dX6_reset_73 rfl (lv_at hl 0 rfl) ?_
          refine va_get (D := D) (ci := 5) (v := .ref a_t_s) (C := RX6) (T := TX6) (N := 12) hx hb hts inX6 hown hK hP 0 rfl rfl 5 (by decide) k_0 (fun _ h9 => h9) rfl dX6_reset_74 ?_
          refine lv_bipush (v := 61) hx hb dX6_reset_77 (by decide) ?_
          refine lv_iload_n hx hb dX6_reset_79 rfl (lv_at hl 2 rfl) ?_
          refine lv_iadd hx hb dX6_reset_80 ?_
          refine lv_iconst (v := 0) hx hb dX6_reset_81 (by decide) ?_
          obtain ⟨gg, h⟩ := og h
          refine va_iast hx hb hK hP hD hS 1 0 rfl rfl gg dX6_reset_82 (fun H locs hP hD hS => ?_)
          have hP : va_P D vwCl [(a_t, .inr (5, [.int t_length, .ref a_t_text, .int t_spot, .ref a_t_told, .ref a_t_read, .ref a_t_s, .ref a_t_before, .int u28.1, .int t_shortAs, .int t_isolatorAs, .int t_worstWire, .int t_worstLost])), (a_t_s, .inl (cI, 87, .inl (upd w_t_s ((61 + v2)).toNatClampNeg 0))), (a_t_before, .inl (cI, 522, .inl u28.2))] H := hP
          have hD : va_D A [(a_t, .inr (5, [.int t_length, .ref a_t_text, .int t_spot, .ref a_t_told, .ref a_t_read, .ref a_t_s, .ref a_t_before, .int u28.1, .int t_shortAs, .int t_isolatorAs, .int t_worstWire, .int t_worstLost])), (a_t_s, .inl (cI, 87, .inl (upd w_t_s ((61 + v2)).toNatClampNeg 0))), (a_t_before, .inl (cI, 522, .inl u28.2))] := hD
          refine lv_aload_n hx hb dX6_reset_83 rfl (lv_at hl 0 rfl) ?_
          refine va_get (D := D) (ci := 5) (v := .ref a_t_s) (C := RX6) (T := TX6) (N := 12) hx hb hts inX6 hown hK hP 0 rfl rfl 5 (by decide) k_0 (fun _ h9 => h9) rfl dX6_reset_84 ?_
          refine lv_bipush (v := 67) hx hb dX6_reset_87 (by decide) ?_
          refine lv_iload_n hx hb dX6_reset_89 rfl (lv_at hl 2 rfl) ?_
          refine lv_iadd hx hb dX6_reset_90 ?_
          refine lv_iconst (v := 0) hx hb dX6_reset_91 (by decide) ?_
          obtain ⟨gg, h⟩ := og h
          refine va_iast hx hb hK hP hD hS 1 0 rfl rfl gg dX6_reset_92 (fun H locs hP hD hS => ?_)
          have hP : va_P D vwCl [(a_t, .inr (5, [.int t_length, .ref a_t_text, .int t_spot, .ref a_t_told, .ref a_t_read, .ref a_t_s, .ref a_t_before, .int u28.1, .int t_shortAs, .int t_isolatorAs, .int t_worstWire, .int t_worstLost])), (a_t_s, .inl (cI, 87, .inl (upd (upd w_t_s ((61 + v2)).toNatClampNeg 0) ((67 + v2)).toNatClampNeg 0))), (a_t_before, .inl (cI, 522, .inl u28.2))] H := hP
          have hD : va_D A [(a_t, .inr (5, [.int t_length, .ref a_t_text, .int t_spot, .ref a_t_told, .ref a_t_read, .ref a_t_s, .ref a_t_before, .int u28.1, .int t_shortAs, .int t_isolatorAs, .int t_worstWire, .int t_worstLost])), (a_t_s, .inl (cI, 87, .inl (upd (upd w_t_s ((61 + v2)).toNatClampNeg 0) ((67 + v2)).toNatClampNeg 0))), (a_t_before, .inl (cI, 522, .inl u28.2))] := hD
          refine lv_aload_n hx hb dX6_reset_93 rfl (lv_at hl 0 rfl) ?_
          refine va_get (D := D) (ci := 5) (v := .ref a_t_s) (C := RX6) (T := TX6) (N := 12) hx hb hts inX6 hown hK hP 0 rfl rfl 5 (by decide) k_0 (fun _ h9 => h9) rfl dX6_reset_94 ?_
          refine lv_bipush (v := 73) hx hb dX6_reset_97 (by decide) ?_
          refine lv_iload_n hx hb dX6_reset_99 rfl (lv_at hl 2 rfl) ?_
          refine lv_iadd hx hb dX6_reset_100 ?_
          refine lv_iconst (v := 0) hx hb dX6_reset_101 (by decide) ?_
          obtain ⟨gg, h⟩ := og h
          refine va_iast hx hb hK hP hD hS 1 0 rfl rfl gg dX6_reset_102 (fun H locs hP hD hS => ?_)
          have hP : va_P D vwCl [(a_t, .inr (5, [.int t_length, .ref a_t_text, .int t_spot, .ref a_t_told, .ref a_t_read, .ref a_t_s, .ref a_t_before, .int u28.1, .int t_shortAs, .int t_isolatorAs, .int t_worstWire, .int t_worstLost])), (a_t_s, .inl (cI, 87, .inl (upd (upd (upd w_t_s ((61 + v2)).toNatClampNeg 0) ((67 + v2)).toNatClampNeg 0) ((73 + v2)).toNatClampNeg 0))), (a_t_before, .inl (cI, 522, .inl u28.2))] H := hP
          have hD : va_D A [(a_t, .inr (5, [.int t_length, .ref a_t_text, .int t_spot, .ref a_t_told, .ref a_t_read, .ref a_t_s, .ref a_t_before, .int u28.1, .int t_shortAs, .int t_isolatorAs, .int t_worstWire, .int t_worstLost])), (a_t_s, .inl (cI, 87, .inl (upd (upd (upd w_t_s ((61 + v2)).toNatClampNeg 0) ((67 + v2)).toNatClampNeg 0) ((73 + v2)).toNatClampNeg 0))), (a_t_before, .inl (cI, 522, .inl u28.2))] := hD
          refine lv_aload_n hx hb dX6_reset_103 rfl (lv_at hl 0 rfl) ?_
          refine va_get (D := D) (ci := 5) (v := .ref a_t_s) (C := RX6) (T := TX6) (N := 12) hx hb hts inX6 hown hK hP 0 rfl rfl 5 (by decide) k_0 (fun _ h9 => h9) rfl dX6_reset_104 ?_
          refine lv_bipush (v := 79) hx hb dX6_reset_107 (by decide) ?_
          refine lv_iload_n hx hb dX6_reset_109 rfl (lv_at hl 2 rfl) ?_
          refine lv_iadd hx hb dX6_reset_110 ?_
          refine lv_iconst (v := 0) hx hb dX6_reset_111 (by decide) ?_
          obtain ⟨gg, h⟩ := og h
          refine va_iast hx hb hK hP hD hS 1 0 rfl rfl gg dX6_reset_112 (fun H locs hP hD hS => ?_)
          have hP : va_P D vwCl [(a_t, .inr (5, [.int t_length, .ref a_t_text, .int t_spot, .ref a_t_told, .ref a_t_read, .ref a_t_s, .ref a_t_before, .int u28.1, .int t_shortAs, .int t_isolatorAs, .int t_worstWire, .int t_worstLost])), (a_t_s, .inl (cI, 87, .inl (upd (upd (upd (upd w_t_s ((61 + v2)).toNatClampNeg 0) ((67 + v2)).toNatClampNeg 0) ((73 + v2)).toNatClampNeg 0) ((79 + v2)).toNatClampNeg 0))), (a_t_before, .inl (cI, 522, .inl u28.2))] H := hP
          have hD : va_D A [(a_t, .inr (5, [.int t_length, .ref a_t_text, .int t_spot, .ref a_t_told, .ref a_t_read, .ref a_t_s, .ref a_t_before, .int u28.1, .int t_shortAs, .int t_isolatorAs, .int t_worstWire, .int t_worstLost])), (a_t_s, .inl (cI, 87, .inl (upd (upd (upd (upd w_t_s ((61 + v2)).toNatClampNeg 0) ((67 + v2)).toNatClampNeg 0) ((73 + v2)).toNatClampNeg 0) ((79 + v2)).toNatClampNeg 0))), (a_t_before, .inl (cI, 522, .inl u28.2))] := hD
          refine lv_iinc (v := (v2 + 1)) (lv' := [(2, .int (v2 + 1)), (0, .ref a_t), (1, .int u5)]) hx hb dX6_reset_113 hl (k := 2) rfl (by first | rfl | decide) (by decide) rfl (fun ls hl => ?_)
          refine lv_goto (tgt := 67) hx hb dX6_reset_116 (by decide) ?_
          exact ih (v2 + 1) (upd (upd (upd (upd w_t_s ((61 + v2)).toNatClampNeg 0) ((67 + v2)).toNatClampNeg 0) ((73 + v2)).toNatClampNeg 0) ((79 + v2)).toNatClampNeg 0) H locs ls hP hD hS (lv_sub hl [1, 2, 0] rfl) q67 h kk
    refine lp67 1000 0 q33 H locs ls hP hD hS (lv_sub hl [1, 2, 0] rfl) q67 hq67 (fun H locs ls hP hD hS hl => ?_)
    refine lv_iload_n hx hb dX6_reset_119 rfl (lv_at hl 0 rfl) ?_
    obtain rfl := Option.some.inj h
    exact hQ 120 H locs ls rfl hP hD hS dX6_reset_120
  · have h := oi_t cc h
    refine lv_aload_n hx hb dX6_reset_13 rfl (lv_at hl 1 rfl) ?_
    refine lv_bipush (v := 67) hx hb dX6_reset_14 (by decide) ?_
    refine lv_bipush (v := 6) hx hb dX6_reset_16 (by decide) ?_
    obtain ⟨u18, hu18, h⟩ := ob h
    refine gV_i (C := RX6) (T := TX6) (N := 12) (ci := 5) (q0 := 0) (wc := [(a_t, .inr (5, [.int t_length, .ref a_t_text, .int t_spot, .ref a_t_told, .ref a_t_read, .ref a_t_s, .ref a_t_before, .int t_undoMany, .int t_shortAs, .int t_isolatorAs, .int t_worstWire, .int t_worstLost])), (a_t_s, .inl (cI, 87, .inl t_s))]) (wr := [(a_t_before, .inl (cI, 522, .inl t_before))]) (w1 := [(a_t, .inr (5, [.int t_length, .ref a_t_text, .int t_spot, .ref a_t_told, .ref a_t_read, .ref a_t_s, .ref a_t_before, .int t_undoMany, .int t_shortAs, .int t_isolatorAs, .int t_worstWire, .int t_worstLost])), (a_t_s, .inl (cI, 87, .inl t_s))]) (v := u18) (As := [.int 67, .int 6]) (rest := []) ⟨hx, hb, hml, hown, hts⟩ (c_X6_sumOf l D cI cS a_t a_t_s a_t_text a_t_told a_t_read a_t_before H.size t_length t_spot t_undoMany t_shortAs t_isolatorAs t_worstWire t_worstLost t_s 67 6 u18 hu18) (cwV 2 hts gX6_reset_X6_sumOf rfl rfl rfl cd_X6_sumOf ⟨Nat.le_of_ble_eq_true rfl, Nat.le_of_ble_eq_true rfl⟩) hK hN hP hD hS hA [0, 1] [2] rfl rfl (by decide) (by decide) (by decide) rfl rfl rfl hl.1 rfl (Nat.le_of_ble_eq_true rfl) dX6_reset_18 ⟨Nat.zero_le _, Nat.zero_le _⟩ (fun H locs hP hD hS => ?_)
    have hP : va_P D vwCl [(a_t, .inr (5, [.int t_length, .ref a_t_text, .int t_spot, .ref a_t_told, .ref a_t_read, .ref a_t_s, .ref a_t_before, .int t_undoMany, .int t_shortAs, .int t_isolatorAs, .int t_worstWire, .int t_worstLost])), (a_t_s, .inl (cI, 87, .inl t_s)), (a_t_before, .inl (cI, 522, .inl t_before))] H := hP.sub [1, 2, 0] rfl
    have hD : va_D A [(a_t, .inr (5, [.int t_length, .ref a_t_text, .int t_spot, .ref a_t_told, .ref a_t_read, .ref a_t_s, .ref a_t_before, .int t_undoMany, .int t_shortAs, .int t_isolatorAs, .int t_worstWire, .int t_worstLost])), (a_t_s, .inl (cI, 87, .inl t_s)), (a_t_before, .inl (cI, 522, .inl t_before))] := hD.sub [1, 2, 0] (by decide) rfl
    refine lv_if_ne (tgt := 27) hx hb dX6_reset_21 (by decide) (fun cc => ?_) (fun cc => ?_)
    · have h := oi_f cc h
      refine lv_aload_n hx hb dX6_reset_27 rfl (lv_at hl 1 rfl) ?_
      obtain ⟨u28, hu28, h⟩ := ob h
      refine gV_v (C := RX6) (T := TX6) (N := 12) (ci := 5) (q0 := 0) (wc := [(a_t, .inr (5, [.int t_length, .ref a_t_text, .int t_spot, .ref a_t_told, .ref a_t_read, .ref a_t_s, .ref a_t_before, .int t_undoMany, .int t_shortAs, .int t_isolatorAs, .int t_worstWire, .int t_worstLost])), (a_t_s, .inl (cI, 87, .inl t_s)), (a_t_before, .inl (cI, 522, .inl t_before))]) (wr := []) (w1 := [(a_t, .inr (5, [.int t_length, .ref a_t_text, .int t_spot, .ref a_t_told, .ref a_t_read, .ref a_t_s, .ref a_t_before, .int u28.1, .int t_shortAs, .int t_isolatorAs, .int t_worstWire, .int t_worstLost])), (a_t_s, .inl (cI, 87, .inl t_s)), (a_t_before, .inl (cI, 522, .inl u28.2))]) (As := []) (rest := []) ⟨hx, hb, hml, hown, hts⟩ (c_X6_note l D cI cS a_t a_t_s a_t_before a_t_text a_t_told a_t_read H.size t_length t_spot t_undoMany t_shortAs t_isolatorAs t_worstWire t_worstLost t_s t_before u28 hu28) (cwV 0 hts gX6_reset_X6_note rfl rfl rfl cd_X6_note ⟨Nat.le_of_ble_eq_true rfl, Nat.le_of_ble_eq_true rfl⟩) hK hN hP hD hS hA [0, 1, 2] [] rfl rfl (by decide) (by decide) (by decide) rfl rfl rfl hl.1 rfl (Nat.le_of_ble_eq_true rfl) dX6_reset_28 ⟨Nat.zero_le _, Nat.zero_le _⟩ (fun H locs hP hD hS => ?_)
      have hP : va_P D vwCl [(a_t, .inr (5, [.int t_length, .ref a_t_text, .int t_spot, .ref a_t_told, .ref a_t_read, .ref a_t_s, .ref a_t_before, .int u28.1, .int t_shortAs, .int t_isolatorAs, .int t_worstWire, .int t_worstLost])), (a_t_s, .inl (cI, 87, .inl t_s)), (a_t_before, .inl (cI, 522, .inl u28.2))] H := hP
      have hD : va_D A [(a_t, .inr (5, [.int t_length, .ref a_t_text, .int t_spot, .ref a_t_told, .ref a_t_read, .ref a_t_s, .ref a_t_before, .int u28.1, .int t_shortAs, .int t_isolatorAs, .int t_worstWire, .int t_worstLost])), (a_t_s, .inl (cI, 87, .inl t_s)), (a_t_before, .inl (cI, 522, .inl u28.2))] := hD
      refine lv_iconst (v := 0) hx hb dX6_reset_31 (by decide) ?_
      refine lv_istore_n (lv' := [(2, .int 0), (1, .int u5), (0, .ref a_t)]) hx hb dX6_reset_32 rfl hl (by decide) rfl (fun ls hl => ?_)
      obtain ⟨q33, hq33, h⟩ := ob h
      have lp33 : ∀ (n : Nat) (v2 : Int32) (w_t_s : FN) (H : Heap) (locs : List Loc) (ls : Array Slot), va_P D vwCl [(a_t, .inr (5, [.int t_length, .ref a_t_text, .int t_spot, .ref a_t_told, .ref a_t_read, .ref a_t_s, .ref a_t_before, .int u28.1, .int t_shortAs, .int t_isolatorAs, .int t_worstWire, .int t_worstLost])), (a_t_s, .inl (cI, 87, .inl w_t_s)), (a_t_before, .inl (cI, 522, .inl u28.2))] H → va_D A [(a_t, .inr (5, [.int t_length, .ref a_t_text, .int t_spot, .ref a_t_told, .ref a_t_read, .ref a_t_s, .ref a_t_before, .int u28.1, .int t_shortAs, .int t_isolatorAs, .int t_worstWire, .int t_worstLost])), (a_t_s, .inl (cI, 87, .inl w_t_s)), (a_t_before, .inl (cI, 522, .inl u28.2))] → va_S A s.heap H locs → lv_has ls 3 [(0, .ref a_t), (1, .int u5), (2, .int v2)] → ∀ (q33 : FN), f_X6_reset_33  n v2 w_t_s = some q33 → (∀ (H : Heap) (locs : List Loc) (ls : Array Slot), va_P D vwCl [(a_t, .inr (5, [.int t_length, .ref a_t_text, .int t_spot, .ref a_t_told, .ref a_t_read, .ref a_t_s, .ref a_t_before, .int u28.1, .int t_shortAs, .int t_isolatorAs, .int t_worstWire, .int t_worstLost])), (a_t_s, .inl (cI, 87, .inl q33)), (a_t_before, .inl (cI, 522, .inl u28.2))] H → va_D A [(a_t, .inr (5, [.int t_length, .ref a_t_text, .int t_spot, .ref a_t_told, .ref a_t_read, .ref a_t_s, .ref a_t_before, .int u28.1, .int t_shortAs, .int t_isolatorAs, .int t_worstWire, .int t_worstLost])), (a_t_s, .inl (cI, 87, .inl q33)), (a_t_before, .inl (cI, 522, .inl u28.2))] → va_S A s.heap H locs → lv_has ls 3 [(0, .ref a_t), (1, .int u5)] → W p l e rm_X6_reset s m args below meth c H locs 0 0 Q (F0 m 65 ls [])) → W p l e rm_X6_reset s m args below meth c H locs 0 0 Q (F0 m 33 ls []) := by
        intro n
        induction n with
        | zero => intro v2 w_t_s H locs ls hP hD hS hl q33 h kk; exact on_ h
        | succ n ih =>
          intro v2 w_t_s H locs ls hP hD hS hl q33 h kk
          rw [f_X6_reset_33] at h
          refine lv_iload_n hx hb dX6_reset_33 rfl (lv_at hl 2 rfl) ?_
          refine lv_bipush (v := 12) hx hb dX6_reset_34 (by decide) ?_
          refine lv_icmp_ge (tgt := 65) hx hb dX6_reset_36 (by decide) (fun cc => ?_) (fun cc => ?_)
          · have h := oi_t cc h
            obtain rfl := Option.some.inj h
            exact kk H locs ls hP hD hS (lv_sub hl [0, 1] rfl)
          · have h := oi_f cc h
            refine lv_aload_n hx hb dX6_reset_39 rfl (lv_at hl 0 rfl) ?_
            refine va_get (D := D) (ci := 5) (v := .ref a_t_s) (C := RX6) (T := TX6) (N := 12) hx hb hts inX6 hown hK hP 0 rfl rfl 5 (by decide) k_0 (fun _ h9 => h9) rfl dX6_reset_40 ?_
            refine lv_bipush (v := 36) hx hb dX6_reset_43 (by decide) ?_
            refine lv_iload_n hx hb dX6_reset_45 rfl (lv_at hl 2 rfl) ?_
            refine lv_iadd hx hb dX6_reset_46 ?_
            refine lv_iconst (v := 0) hx hb dX6_reset_47 (by decide) ?_
            obtain ⟨gg, h⟩ := og h
            refine va_iast hx hb hK hP hD hS 1 0 rfl rfl gg dX6_reset_48 (fun H locs hP hD hS => ?_)
            have hP : va_P D vwCl [(a_t, .inr (5, [.int t_length, .ref a_t_text, .int t_spot, .ref a_t_told, .ref a_t_read, .ref a_t_s, .ref a_t_before, .int u28.1, .int t_shortAs, .int t_isolatorAs, .int t_worstWire, .int t_worstLost])), (a_t_s, .inl (cI, 87, .inl (upd w_t_s ((36 + v2)).toNatClampNeg 0))), (a_t_before, .inl (cI, 522, .inl u28.2))] H := hP
            have hD : va_D A [(a_t, .inr (5, [.int t_length, .ref a_t_text, .int t_spot, .ref a_t_told, .ref a_t_read, .ref a_t_s, .ref a_t_before, .int u28.1, .int t_shortAs, .int t_isolatorAs, .int t_worstWire, .int t_worstLost])), (a_t_s, .inl (cI, 87, .inl (upd w_t_s ((36 + v2)).toNatClampNeg 0))), (a_t_before, .inl (cI, 522, .inl u28.2))] := hD
            refine lv_aload_n hx hb dX6_reset_49 rfl (lv_at hl 0 rfl) ?_
            refine va_get (D := D) (ci := 5) (v := .ref a_t_s) (C := RX6) (T := TX6) (N := 12) hx hb hts inX6 hown hK hP 0 rfl rfl 5 (by decide) k_0 (fun _ h9 => h9) rfl dX6_reset_50 ?_
            refine lv_bipush (v := 24) hx hb dX6_reset_53 (by decide) ?_
            refine lv_iload_n hx hb dX6_reset_55 rfl (lv_at hl 2 rfl) ?_
            refine lv_iadd hx hb dX6_reset_56 ?_
            refine lv_iconst (v := 0) hx hb dX6_reset_57 (by decide) ?_
            obtain ⟨gg, h⟩ := og h
            refine va_iast hx hb hK hP hD hS 1 0 rfl rfl gg dX6_reset_58 (fun H locs hP hD hS => ?_)
            have hP : va_P D vwCl [(a_t, .inr (5, [.int t_length, .ref a_t_text, .int t_spot, .ref a_t_told, .ref a_t_read, .ref a_t_s, .ref a_t_before, .int u28.1, .int t_shortAs, .int t_isolatorAs, .int t_worstWire, .int t_worstLost])), (a_t_s, .inl (cI, 87, .inl (upd (upd w_t_s ((36 + v2)).toNatClampNeg 0) ((24 + v2)).toNatClampNeg 0))), (a_t_before, .inl (cI, 522, .inl u28.2))] H := hP
            have hD : va_D A [(a_t, .inr (5, [.int t_length, .ref a_t_text, .int t_spot, .ref a_t_told, .ref a_t_read, .ref a_t_s, .ref a_t_before, .int u28.1, .int t_shortAs, .int t_isolatorAs, .int t_worstWire, .int t_worstLost])), (a_t_s, .inl (cI, 87, .inl (upd (upd w_t_s ((36 + v2)).toNatClampNeg 0) ((24 + v2)).toNatClampNeg 0))), (a_t_before, .inl (cI, 522, .inl u28.2))] := hD
            refine lv_iinc (v := (v2 + 1)) (lv' := [(2, .int (v2 + 1)), (0, .ref a_t), (1, .int u5)]) hx hb dX6_reset_59 hl (k := 2) rfl (by first | rfl | decide) (by decide) rfl (fun ls hl => ?_)
            refine lv_goto (tgt := 33) hx hb dX6_reset_62 (by decide) ?_
            exact ih (v2 + 1) (upd (upd w_t_s ((36 + v2)).toNatClampNeg 0) ((24 + v2)).toNatClampNeg 0) H locs ls hP hD hS (lv_sub hl [1, 2, 0] rfl) q33 h kk
      refine lp33 1000 0 t_s H locs ls hP hD hS (lv_sub hl [2, 1, 0] rfl) q33 hq33 (fun H locs ls hP hD hS hl => ?_)
      refine lv_iconst (v := 0) hx hb dX6_reset_65 (by decide) ?_
      refine lv_istore_n (lv' := [(2, .int 0), (0, .ref a_t), (1, .int u5)]) hx hb dX6_reset_66 rfl hl (by decide) rfl (fun ls hl => ?_)
      obtain ⟨q67, hq67, h⟩ := ob h
      have lp67 : ∀ (n : Nat) (v2 : Int32) (w_t_s : FN) (H : Heap) (locs : List Loc) (ls : Array Slot), va_P D vwCl [(a_t, .inr (5, [.int t_length, .ref a_t_text, .int t_spot, .ref a_t_told, .ref a_t_read, .ref a_t_s, .ref a_t_before, .int u28.1, .int t_shortAs, .int t_isolatorAs, .int t_worstWire, .int t_worstLost])), (a_t_s, .inl (cI, 87, .inl w_t_s)), (a_t_before, .inl (cI, 522, .inl u28.2))] H → va_D A [(a_t, .inr (5, [.int t_length, .ref a_t_text, .int t_spot, .ref a_t_told, .ref a_t_read, .ref a_t_s, .ref a_t_before, .int u28.1, .int t_shortAs, .int t_isolatorAs, .int t_worstWire, .int t_worstLost])), (a_t_s, .inl (cI, 87, .inl w_t_s)), (a_t_before, .inl (cI, 522, .inl u28.2))] → va_S A s.heap H locs → lv_has ls 3 [(0, .ref a_t), (1, .int u5), (2, .int v2)] → ∀ (q67 : FN), f_X6_reset_67  n v2 w_t_s = some q67 → (∀ (H : Heap) (locs : List Loc) (ls : Array Slot), va_P D vwCl [(a_t, .inr (5, [.int t_length, .ref a_t_text, .int t_spot, .ref a_t_told, .ref a_t_read, .ref a_t_s, .ref a_t_before, .int u28.1, .int t_shortAs, .int t_isolatorAs, .int t_worstWire, .int t_worstLost])), (a_t_s, .inl (cI, 87, .inl q67)), (a_t_before, .inl (cI, 522, .inl u28.2))] H → va_D A [(a_t, .inr (5, [.int t_length, .ref a_t_text, .int t_spot, .ref a_t_told, .ref a_t_read, .ref a_t_s, .ref a_t_before, .int u28.1, .int t_shortAs, .int t_isolatorAs, .int t_worstWire, .int t_worstLost])), (a_t_s, .inl (cI, 87, .inl q67)), (a_t_before, .inl (cI, 522, .inl u28.2))] → va_S A s.heap H locs → lv_has ls 3 [(1, .int u5)] → W p l e rm_X6_reset s m args below meth c H locs 0 0 Q (F0 m 119 ls [])) → W p l e rm_X6_reset s m args below meth c H locs 0 0 Q (F0 m 67 ls []) := by
        intro n
        induction n with
        | zero => intro v2 w_t_s H locs ls hP hD hS hl q67 h kk; exact on_ h
        | succ n ih =>
          intro v2 w_t_s H locs ls hP hD hS hl q67 h kk
          rw [f_X6_reset_67] at h
          refine lv_iload_n hx hb dX6_reset_67 rfl (lv_at hl 2 rfl) ?_
          refine lv_bipush (v := 6) hx hb dX6_reset_68 (by decide) ?_
          refine lv_icmp_ge (tgt := 119) hx hb dX6_reset_70 (by decide) (fun cc => ?_) (fun cc => ?_)
          · have h := oi_t cc h
            obtain rfl := Option.some.inj h
            exact kk H locs ls hP hD hS (lv_sub hl [1] rfl)
          · have h := oi_f cc h
            refine lv_aload_n hx hb dX6_reset_73 rfl (lv_at hl 0 rfl) ?_
            refine va_get (D := D) (ci := 5) (v := .ref a_t_s) (C := RX6) (T := TX6) (N := 12) hx hb hts inX6 hown hK hP 0 rfl rfl 5 (by decide) k_0 (fun _ h9 => h9) rfl dX6_reset_74 ?_
            refine lv_bipush (v := 61) hx hb dX6_reset_77 (by decide) ?_
            refine lv_iload_n hx hb dX6_reset_79 rfl (lv_at hl 2 rfl) ?_
            refine lv_iadd hx hb dX6_reset_80 ?_
            refine lv_iconst (v := 0) hx hb dX6_reset_81 (by decide) ?_
            obtain ⟨gg, h⟩ := og h
            refine va_iast hx hb hK hP hD hS 1 0 rfl rfl gg dX6_reset_82 (fun H locs hP hD hS => ?_)
            have hP : va_P D vwCl [(a_t, .inr (5, [.int t_length, .ref a_t_text, .int t_spot, .ref a_t_told, .ref a_t_read, .ref a_t_s, .ref a_t_before, .int u28.1, .int t_shortAs, .int t_isolatorAs, .int t_worstWire, .int t_worstLost])), (a_t_s, .inl (cI, 87, .inl (upd w_t_s ((61 + v2)).toNatClampNeg 0))), (a_t_before, .inl (cI, 522, .inl u28.2))] H := hP
            have hD : va_D A [(a_t, .inr (5, [.int t_length, .ref a_t_text, .int t_spot, .ref a_t_told, .ref a_t_read, .ref a_t_s, .ref a_t_before, .int u28.1, .int t_shortAs, .int t_isolatorAs, .int t_worstWire, .int t_worstLost])), (a_t_s, .inl (cI, 87, .inl (upd w_t_s ((61 + v2)).toNatClampNeg 0))), (a_t_before, .inl (cI, 522, .inl u28.2))] := hD
            refine lv_aload_n hx hb dX6_reset_83 rfl (lv_at hl 0 rfl) ?_
            refine va_get (D := D) (ci := 5) (v := .ref a_t_s) (C := RX6) (T := TX6) (N := 12) hx hb hts inX6 hown hK hP 0 rfl rfl 5 (by decide) k_0 (fun _ h9 => h9) rfl dX6_reset_84 ?_
            refine lv_bipush (v := 67) hx hb dX6_reset_87 (by decide) ?_
            refine lv_iload_n hx hb dX6_reset_89 rfl (lv_at hl 2 rfl) ?_
            refine lv_iadd hx hb dX6_reset_90 ?_
            refine lv_iconst (v := 0) hx hb dX6_reset_91 (by decide) ?_
            obtain ⟨gg, h⟩ := og h
            refine va_iast hx hb hK hP hD hS 1 0 rfl rfl gg dX6_reset_92 (fun H locs hP hD hS => ?_)
            have hP : va_P D vwCl [(a_t, .inr (5, [.int t_length, .ref a_t_text, .int t_spot, .ref a_t_told, .ref a_t_read, .ref a_t_s, .ref a_t_before, .int u28.1, .int t_shortAs, .int t_isolatorAs, .int t_worstWire, .int t_worstLost])), (a_t_s, .inl (cI, 87, .inl (upd (upd w_t_s ((61 + v2)).toNatClampNeg 0) ((67 + v2)).toNatClampNeg 0))), (a_t_before, .inl (cI, 522, .inl u28.2))] H := hP
            have hD : va_D A [(a_t, .inr (5, [.int t_length, .ref a_t_text, .int t_spot, .ref a_t_told, .ref a_t_read, .ref a_t_s, .ref a_t_before, .int u28.1, .int t_shortAs, .int t_isolatorAs, .int t_worstWire, .int t_worstLost])), (a_t_s, .inl (cI, 87, .inl (upd (upd w_t_s ((61 + v2)).toNatClampNeg 0) ((67 + v2)).toNatClampNeg 0))), (a_t_before, .inl (cI, 522, .inl u28.2))] := hD
            refine lv_aload_n hx hb dX6_reset_93 rfl (lv_at hl 0 rfl) ?_
            refine va_get (D := D) (ci := 5) (v := .ref a_t_s) (C := RX6) (T := TX6) (N := 12) hx hb hts inX6 hown hK hP 0 rfl rfl 5 (by decide) k_0 (fun _ h9 => h9) rfl dX6_reset_94 ?_
            refine lv_bipush (v := 73) hx hb dX6_reset_97 (by decide) ?_
            refine lv_iload_n hx hb dX6_reset_99 rfl (lv_at hl 2 rfl) ?_
            refine lv_iadd hx hb dX6_reset_100 ?_
            refine lv_iconst (v := 0) hx hb dX6_reset_101 (by decide) ?_
            obtain ⟨gg, h⟩ := og h
            refine va_iast hx hb hK hP hD hS 1 0 rfl rfl gg dX6_reset_102 (fun H locs hP hD hS => ?_)
            have hP : va_P D vwCl [(a_t, .inr (5, [.int t_length, .ref a_t_text, .int t_spot, .ref a_t_told, .ref a_t_read, .ref a_t_s, .ref a_t_before, .int u28.1, .int t_shortAs, .int t_isolatorAs, .int t_worstWire, .int t_worstLost])), (a_t_s, .inl (cI, 87, .inl (upd (upd (upd w_t_s ((61 + v2)).toNatClampNeg 0) ((67 + v2)).toNatClampNeg 0) ((73 + v2)).toNatClampNeg 0))), (a_t_before, .inl (cI, 522, .inl u28.2))] H := hP
            have hD : va_D A [(a_t, .inr (5, [.int t_length, .ref a_t_text, .int t_spot, .ref a_t_told, .ref a_t_read, .ref a_t_s, .ref a_t_before, .int u28.1, .int t_shortAs, .int t_isolatorAs, .int t_worstWire, .int t_worstLost])), (a_t_s, .inl (cI, 87, .inl (upd (upd (upd w_t_s ((61 + v2)).toNatClampNeg 0) ((67 + v2)).toNatClampNeg 0) ((73 + v2)).toNatClampNeg 0))), (a_t_before, .inl (cI, 522, .inl u28.2))] := hD
            refine lv_aload_n hx hb dX6_reset_103 rfl (lv_at hl 0 rfl) ?_
            refine va_get (D := D) (ci := 5) (v := .ref a_t_s) (C := RX6) (T := TX6) (N := 12) hx hb hts inX6 hown hK hP 0 rfl rfl 5 (by decide) k_0 (fun _ h9 => h9) rfl dX6_reset_104 ?_
            refine lv_bipush (v := 79) hx hb dX6_reset_107 (by decide) ?_
            refine lv_iload_n hx hb dX6_reset_109 rfl (lv_at hl 2 rfl) ?_
            refine lv_iadd hx hb dX6_reset_110 ?_
            refine lv_iconst (v := 0) hx hb dX6_reset_111 (by decide) ?_
            obtain ⟨gg, h⟩ := og h
            refine va_iast hx hb hK hP hD hS 1 0 rfl rfl gg dX6_reset_112 (fun H locs hP hD hS => ?_)
            have hP : va_P D vwCl [(a_t, .inr (5, [.int t_length, .ref a_t_text, .int t_spot, .ref a_t_told, .ref a_t_read, .ref a_t_s, .ref a_t_before, .int u28.1, .int t_shortAs, .int t_isolatorAs, .int t_worstWire, .int t_worstLost])), (a_t_s, .inl (cI, 87, .inl (upd (upd (upd (upd w_t_s ((61 + v2)).toNatClampNeg 0) ((67 + v2)).toNatClampNeg 0) ((73 + v2)).toNatClampNeg 0) ((79 + v2)).toNatClampNeg 0))), (a_t_before, .inl (cI, 522, .inl u28.2))] H := hP
            have hD : va_D A [(a_t, .inr (5, [.int t_length, .ref a_t_text, .int t_spot, .ref a_t_told, .ref a_t_read, .ref a_t_s, .ref a_t_before, .int u28.1, .int t_shortAs, .int t_isolatorAs, .int t_worstWire, .int t_worstLost])), (a_t_s, .inl (cI, 87, .inl (upd (upd (upd (upd w_t_s ((61 + v2)).toNatClampNeg 0) ((67 + v2)).toNatClampNeg 0) ((73 + v2)).toNatClampNeg 0) ((79 + v2)).toNatClampNeg 0))), (a_t_before, .inl (cI, 522, .inl u28.2))] := hD
            refine lv_iinc (v := (v2 + 1)) (lv' := [(2, .int (v2 + 1)), (0, .ref a_t), (1, .int u5)]) hx hb dX6_reset_113 hl (k := 2) rfl (by first | rfl | decide) (by decide) rfl (fun ls hl => ?_)
            refine lv_goto (tgt := 67) hx hb dX6_reset_116 (by decide) ?_
            exact ih (v2 + 1) (upd (upd (upd (upd w_t_s ((61 + v2)).toNatClampNeg 0) ((67 + v2)).toNatClampNeg 0) ((73 + v2)).toNatClampNeg 0) ((79 + v2)).toNatClampNeg 0) H locs ls hP hD hS (lv_sub hl [1, 2, 0] rfl) q67 h kk
      refine lp67 1000 0 q33 H locs ls hP hD hS (lv_sub hl [1, 2, 0] rfl) q67 hq67 (fun H locs ls hP hD hS hl => ?_)
      refine lv_iload_n hx hb dX6_reset_119 rfl (lv_at hl 0 rfl) ?_
      obtain rfl := Option.some.inj h
      exact hQ 120 H locs ls rfl hP hD hS dX6_reset_120
    · have h := oi_t cc h
      refine lv_bipush (v := (-2)) hx hb dX6_reset_24 (by decide) ?_
      obtain rfl := Option.some.inj h
      exact hQ 26 H locs ls rfl hP hD hS dX6_reset_26

def f_X6_device (t_shortAs : Int32) (t_isolatorAs : Int32) (t_told : FN) (t_s : FN) (x0 : Int32) (x1 : Int32) : Option (Int32) := ((f_X6_isDevice t_told x0).bind (fun u2 => (if u2 = 0 then some ((-1)) else ((f_X6_in (x1).toInt64 0 8).bind (fun u14 => (if u14 = 0 then some ((-1)) else ((f_X6_value t_s x0).bind (fun u24 => (if x1 = 0 then (if gi ((3 * x0) + x1) 67 then some ((t_told (((3 * x0) + x1)).toNatClampNeg)) else none) else (if x1 = 1 then (if gi ((3 * x0) + x1) 67 then some ((t_told (((3 * x0) + x1)).toNatClampNeg)) else none) else (if x1 = 2 then (if gi ((3 * x0) + x1) 67 then some ((t_told (((3 * x0) + x1)).toNatClampNeg)) else none) else (if x1 = 3 then (if gi (0 + x0) 87 then some ((t_s ((0 + x0)).toNatClampNeg)) else none) else (if x1 = 4 then (if gi (12 + x0) 87 then some ((t_s ((12 + x0)).toNatClampNeg)) else none) else (if x1 = 5 then some (u24) else (if x1 = 6 then (if gi (24 + x0) 87 then some ((t_s ((24 + x0)).toNatClampNeg)) else none) else (if x1 = 7 then (if gi (36 + x0) 87 then (if (t_s ((36 + x0)).toNatClampNeg) = 1 then some (3) else ((f_X6_isSensor t_told x0).bind (fun u137 => (if u137 = 0 then some (0) else (if u24 < (t_told (63 : Int32).toNatClampNeg) then (if u24 < (t_told (62 : Int32).toNatClampNeg) then some (0) else some (1)) else some (2)))))) else none) else ((f_X6_stops t_shortAs t_isolatorAs t_told t_s x0 1).bind (fun u182 => (((if u182 = (-4) then some (1) else some (0))).bind (fun (u195 : Int32) => ((f_X6_stops t_shortAs t_isolatorAs t_told t_s x0 2).bind (fun u198 => (if u198 = (-4) then some ((u195 + 2)) else some ((u195 + 0)))))))))))))))))))))))))
abbrev rm_X6_device : Room := { frames := 4, cells := 0, slots := 0, locals := 89 }
theorem cd_X6_device : (yX6_device).cls = RX6 ∧ (yX6_device).cls ≠ "java/lang/invoke/MethodHandle" ∧ (yX6_device).cls ≠ "java/lang/invoke/VarHandle" ∧ (parseMethodDescriptor (yX6_device).desc).map (fun d => d.parameters.length) = some 2 := by decide +kernel
set_option maxHeartbeats 4000000 in
set_option maxRecDepth 100000 in
theorem c_X6_device (l : Launch) (D : va_G) (cI cS : ClassId) (a_t a_t_told a_t_s a_t_text a_t_read a_t_before : Nat) (sz : Nat) (t_length : Int32) (t_spot : Int32) (t_undoMany : Int32) (t_shortAs : Int32) (t_isolatorAs : Int32) (t_worstWire : Int32) (t_worstLost : Int32) (t_told : FN) (t_s : FN) (x0 : Int32) (x1 : Int32) (out : Int32) (h : f_X6_device t_shortAs t_isolatorAs t_told t_s x0 x1 = some out) : Met l yX6_device wsX6_device rm_X6_device (va_Pc [.ref a_t, .int x0, .int x1] (GP D cI cS [(a_t, .inr (5, [.int t_length, .ref a_t_text, .int t_spot, .ref a_t_told, .ref a_t_read, .ref a_t_s, .ref a_t_before, .int t_undoMany, .int t_shortAs, .int t_isolatorAs, .int t_worstWire, .int t_worstLost])), (a_t_told, .inl (cI, 67, .inl t_told)), (a_t_s, .inl (cI, 87, .inl t_s))] sz)) (QI D [(a_t, .inr (5, [.int t_length, .ref a_t_text, .int t_spot, .ref a_t_told, .ref a_t_read, .ref a_t_s, .ref a_t_before, .int t_undoMany, .int t_shortAs, .int t_isolatorAs, .int t_worstWire, .int t_worstLost])), (a_t_told, .inl (cI, 67, .inl t_told)), (a_t_s, .inl (cI, 87, .inl t_s))] sz [(a_t, .inr (5, [.int t_length, .ref a_t_text, .int t_spot, .ref a_t_told, .ref a_t_read, .ref a_t_s, .ref a_t_before, .int t_undoMany, .int t_shortAs, .int t_isolatorAs, .int t_worstWire, .int t_worstLost])), (a_t_told, .inl (cI, 67, .inl t_told)), (a_t_s, .inl (cI, 87, .inl t_s))] out) 0 0 (va_A [(a_t, .inr (5, [.int t_length, .ref a_t_text, .int t_spot, .ref a_t_told, .ref a_t_read, .ref a_t_s, .ref a_t_before, .int t_undoMany, .int t_shortAs, .int t_isolatorAs, .int t_worstWire, .int t_worstLost])), (a_t_told, .inl (cI, 67, .inl t_told)), (a_t_s, .inl (cI, 87, .inl t_s))] sz) := by
  refine gm_i (cc := cX6_device) (maxL := 4) (rt := .int) (by decide) rfl (Nat.le_of_ble_eq_true rfl) ?_
  intro p e s m args below meth c A Q H locs ls hx hb hml hown hts hK hN hA hP hD hS hl hQ
  have hown : s.vm.findClass RX6 = some m.cls := hown
  have hl : lv_has ls 4 [(0, .ref a_t), (1, .int x0), (2, .int x1)] := hl
  have inX6 : ∀ w ∈ wsX60, w ∈ wsX6_device := by decide +kernel
  have k_0 := hts (.constantLong RX6 163 (8)) (by decide +kernel)
  have k_1 := hts (.fieldLink RX6 13 "AlarmRingModel" "told" "[I") (by decide +kernel)
  have k_2 := hts (.fieldLink RX6 19 "AlarmRingModel" "s" "[I") (by decide +kernel)
  unfold f_X6_device at h
  refine lv_aload_n hx hb dX6_device_0 rfl (lv_at hl 0 rfl) ?_
  refine lv_iload_n hx hb dX6_device_1 rfl (lv_at hl 1 rfl) ?_
  obtain ⟨u2, hu2, h⟩ := ob h
  refine gV_i (C := RX6) (T := TX6) (N := 12) (ci := 5) (q0 := 0) (wc := [(a_t, .inr (5, [.int t_length, .ref a_t_text, .int t_spot, .ref a_t_told, .ref a_t_read, .ref a_t_s, .ref a_t_before, .int t_undoMany, .int t_shortAs, .int t_isolatorAs, .int t_worstWire, .int t_worstLost])), (a_t_told, .inl (cI, 67, .inl t_told))]) (wr := [(a_t_s, .inl (cI, 87, .inl t_s))]) (w1 := [(a_t, .inr (5, [.int t_length, .ref a_t_text, .int t_spot, .ref a_t_told, .ref a_t_read, .ref a_t_s, .ref a_t_before, .int t_undoMany, .int t_shortAs, .int t_isolatorAs, .int t_worstWire, .int t_worstLost])), (a_t_told, .inl (cI, 67, .inl t_told))]) (v := u2) (As := [.int x0]) (rest := []) ⟨hx, hb, hml, hown, hts⟩ (c_X6_isDevice l D cI cS a_t a_t_told a_t_text a_t_read a_t_s a_t_before H.size t_length t_spot t_undoMany t_shortAs t_isolatorAs t_worstWire t_worstLost t_told x0 u2 hu2) (cwV 1 hts gX6_device_X6_isDevice rfl rfl rfl cd_X6_isDevice ⟨Nat.le_of_ble_eq_true rfl, Nat.le_of_ble_eq_true rfl⟩) hK hN hP hD hS hA [0, 1] [2] rfl rfl (by decide) (by decide) (by decide) rfl rfl rfl hl.1 rfl (Nat.le_of_ble_eq_true rfl) dX6_device_2 ⟨Nat.zero_le _, Nat.zero_le _⟩ (fun H locs hP hD hS => ?_)
  have hP : va_P D vwCl [(a_t, .inr (5, [.int t_length, .ref a_t_text, .int t_spot, .ref a_t_told, .ref a_t_read, .ref a_t_s, .ref a_t_before, .int t_undoMany, .int t_shortAs, .int t_isolatorAs, .int t_worstWire, .int t_worstLost])), (a_t_told, .inl (cI, 67, .inl t_told)), (a_t_s, .inl (cI, 87, .inl t_s))] H := hP.sub [1, 2, 0] rfl
  have hD : va_D A [(a_t, .inr (5, [.int t_length, .ref a_t_text, .int t_spot, .ref a_t_told, .ref a_t_read, .ref a_t_s, .ref a_t_before, .int t_undoMany, .int t_shortAs, .int t_isolatorAs, .int t_worstWire, .int t_worstLost])), (a_t_told, .inl (cI, 67, .inl t_told)), (a_t_s, .inl (cI, 87, .inl t_s))] := hD.sub [1, 2, 0] (by decide) rfl
  refine lv_if_eq (tgt := 20) hx hb dX6_device_5 (by decide) (fun cc => ?_) (fun cc => ?_)
  · have h := oi_t cc h
    refine lv_iconst (v := (-1)) hx hb dX6_device_20 (by decide) ?_
    obtain rfl := Option.some.inj h
    exact hQ 21 H locs ls rfl hP hD hS dX6_device_21
  · have h := oi_f cc h
    refine lv_iload_n hx hb dX6_device_8 rfl (lv_at hl 2 rfl) ?_
    refine lv_i2l (v := (x1).toInt64) hx hb dX6_device_9 rfl ?_
    refine lv_lconst (v := 0) hx hb dX6_device_10 (by decide) ?_
    refine lv_ldc2 (v := 8) hx hb hown k_0 dX6_device_11 ?_
    obtain ⟨u14, hu14, h⟩ := ob h
    refine gS_i (wc := []) (wr := [(a_t, .inr (5, [.int t_length, .ref a_t_text, .int t_spot, .ref a_t_told, .ref a_t_read, .ref a_t_s, .ref a_t_before, .int t_undoMany, .int t_shortAs, .int t_isolatorAs, .int t_worstWire, .int t_worstLost])), (a_t_told, .inl (cI, 67, .inl t_told)), (a_t_s, .inl (cI, 87, .inl t_s))]) (w1 := []) (v := u14) (As := [.long (x1).toInt64, .long 0, .long 8]) (rest := []) ⟨hx, hb, hml, hown, hts⟩ (c_X6_in l D cI cS  H.size (x1).toInt64 0 8 u14 hu14) (va_cwS 3 hts gX6_device_X6_in rfl rfl rfl cd_X6_in ⟨Nat.le_of_ble_eq_true rfl, Nat.le_of_ble_eq_true rfl⟩) hK hN hP hD hS hA [] [0, 1, 2] rfl rfl (by decide) (by decide) (by decide) rfl hl.1 rfl (Nat.le_of_ble_eq_true rfl) dX6_device_14 ⟨Nat.zero_le _, Nat.zero_le _⟩ (fun H locs hP hD hS => ?_)
    have hP : va_P D vwCl [(a_t, .inr (5, [.int t_length, .ref a_t_text, .int t_spot, .ref a_t_told, .ref a_t_read, .ref a_t_s, .ref a_t_before, .int t_undoMany, .int t_shortAs, .int t_isolatorAs, .int t_worstWire, .int t_worstLost])), (a_t_told, .inl (cI, 67, .inl t_told)), (a_t_s, .inl (cI, 87, .inl t_s))] H := hP
    have hD : va_D A [(a_t, .inr (5, [.int t_length, .ref a_t_text, .int t_spot, .ref a_t_told, .ref a_t_read, .ref a_t_s, .ref a_t_before, .int t_undoMany, .int t_shortAs, .int t_isolatorAs, .int t_worstWire, .int t_worstLost])), (a_t_told, .inl (cI, 67, .inl t_told)), (a_t_s, .inl (cI, 87, .inl t_s))] := hD
    refine lv_if_ne (tgt := 22) hx hb dX6_device_17 (by decide) (fun cc => ?_) (fun cc => ?_)
    · have h := oi_f cc h
      refine lv_aload_n hx hb dX6_device_22 rfl (lv_at hl 0 rfl) ?_
      refine lv_iload_n hx hb dX6_device_23 rfl (lv_at hl 1 rfl) ?_
      obtain ⟨u24, hu24, h⟩ := ob h
      refine gV_i (C := RX6) (T := TX6) (N := 12) (ci := 5) (q0 := 0) (wc := [(a_t, .inr (5, [.int t_length, .ref a_t_text, .int t_spot, .ref a_t_told, .ref a_t_read, .ref a_t_s, .ref a_t_before, .int t_undoMany, .int t_shortAs, .int t_isolatorAs, .int t_worstWire, .int t_worstLost])), (a_t_s, .inl (cI, 87, .inl t_s))]) (wr := [(a_t_told, .inl (cI, 67, .inl t_told))]) (w1 := [(a_t, .inr (5, [.int t_length, .ref a_t_text, .int t_spot, .ref a_t_told, .ref a_t_read, .ref a_t_s, .ref a_t_before, .int t_undoMany, .int t_shortAs, .int t_isolatorAs, .int t_worstWire, .int t_worstLost])), (a_t_s, .inl (cI, 87, .inl t_s))]) (v := u24) (As := [.int x0]) (rest := []) ⟨hx, hb, hml, hown, hts⟩ (c_X6_value l D cI cS a_t a_t_s a_t_text a_t_told a_t_read a_t_before H.size t_length t_spot t_undoMany t_shortAs t_isolatorAs t_worstWire t_worstLost t_s x0 u24 hu24) (cwV 1 hts gX6_device_X6_value rfl rfl rfl cd_X6_value ⟨Nat.le_of_ble_eq_true rfl, Nat.le_of_ble_eq_true rfl⟩) hK hN hP hD hS hA [0, 2] [1] rfl rfl (by decide) (by decide) (by decide) rfl rfl rfl hl.1 rfl (Nat.le_of_ble_eq_true rfl) dX6_device_24 ⟨Nat.zero_le _, Nat.zero_le _⟩ (fun H locs hP hD hS => ?_)
      have hP : va_P D vwCl [(a_t, .inr (5, [.int t_length, .ref a_t_text, .int t_spot, .ref a_t_told, .ref a_t_read, .ref a_t_s, .ref a_t_before, .int t_undoMany, .int t_shortAs, .int t_isolatorAs, .int t_worstWire, .int t_worstLost])), (a_t_told, .inl (cI, 67, .inl t_told)), (a_t_s, .inl (cI, 87, .inl t_s))] H := hP.sub [1, 0, 2] rfl
      have hD : va_D A [(a_t, .inr (5, [.int t_length, .ref a_t_text, .int t_spot, .ref a_t_told, .ref a_t_read, .ref a_t_s, .ref a_t_before, .int t_undoMany, .int t_shortAs, .int t_isolatorAs, .int t_worstWire, .int t_worstLost])), (a_t_told, .inl (cI, 67, .inl t_told)), (a_t_s, .inl (cI, 87, .inl t_s))] := hD.sub [1, 0, 2] (by decide) rfl
      refine lv_istore_n (lv' := [(3, .int u24), (0, .ref a_t), (1, .int x0), (2, .int x1)]) hx hb dX6_device_27 rfl hl (by decide) rfl (fun ls hl => ?_)
      refine lv_iload_n hx hb dX6_device_28 rfl (lv_at hl 3 rfl) ?_
      by_cases c0 : x1 = 0
      · have h := oi_t c0 h
        refine lv_tableIn (tgt := 76) (off := 47) hx hb dX6_device_29 (by rw [c0]; decide) (by rw [c0]; decide) (by rw [c0]; rfl) (by decide) ?_
        refine lv_aload_n hx hb dX6_device_76 rfl (lv_at hl 1 rfl) ?_
        refine va_get (D := D) (ci := 5) (v := .ref a_t_told) (C := RX6) (T := TX6) (N := 12) hx hb hts inX6 hown hK hP 0 rfl rfl 3 (by decide) k_1 (fun _ h9 => h9) rfl dX6_device_77 ?_
        refine lv_iconst (v := 3) hx hb dX6_device_80 (by decide) ?_
        refine lv_iload_n hx hb dX6_device_81 rfl (lv_at hl 2 rfl) ?_
        refine lv_imul hx hb dX6_device_82 ?_
        refine lv_iload_n hx hb dX6_device_83 rfl (lv_at hl 3 rfl) ?_
        refine lv_iadd hx hb dX6_device_84 ?_
        obtain ⟨gg, h⟩ := og h
        refine va_iald hx hb hK hP 1 0 rfl rfl gg dX6_device_85 ?_
        obtain rfl := Option.some.inj h
        exact hQ 86 H locs ls rfl hP hD hS dX6_device_86
      · have h := oi_f c0 h
        by_cases c1 : x1 = 1
        · have h := oi_t c1 h
          refine lv_tableIn (tgt := 76) (off := 47) hx hb dX6_device_29 (by rw [c1]; decide) (by rw [c1]; decide) (by rw [c1]; rfl) (by decide) ?_
          refine lv_aload_n hx hb dX6_device_76 rfl (lv_at hl 1 rfl) ?_
          refine va_get (D := D) (ci := 5) (v := .ref a_t_told) (C := RX6) (T := TX6) (N := 12) hx hb hts inX6 hown hK hP 0 rfl rfl 3 (by decide) k_1 (fun _ h9 => h9) rfl dX6_device_77 ?_
          refine lv_iconst (v := 3) hx hb dX6_device_80 (by decide) ?_
          refine lv_iload_n hx hb dX6_device_81 rfl (lv_at hl 2 rfl) ?_
          refine lv_imul hx hb dX6_device_82 ?_
          refine lv_iload_n hx hb dX6_device_83 rfl (lv_at hl 3 rfl) ?_
          refine lv_iadd hx hb dX6_device_84 ?_
          obtain ⟨gg, h⟩ := og h
          refine va_iald hx hb hK hP 1 0 rfl rfl gg dX6_device_85 ?_
          obtain rfl := Option.some.inj h
          exact hQ 86 H locs ls rfl hP hD hS dX6_device_86
        · have h := oi_f c1 h
          by_cases c2 : x1 = 2
          · have h := oi_t c2 h
            refine lv_tableIn (tgt := 76) (off := 47) hx hb dX6_device_29 (by rw [c2]; decide) (by rw [c2]; decide) (by rw [c2]; rfl) (by decide) ?_
            refine lv_aload_n hx hb dX6_device_76 rfl (lv_at hl 1 rfl) ?_
            refine va_get (D := D) (ci := 5) (v := .ref a_t_told) (C := RX6) (T := TX6) (N := 12) hx hb hts inX6 hown hK hP 0 rfl rfl 3 (by decide) k_1 (fun _ h9 => h9) rfl dX6_device_77 ?_
            refine lv_iconst (v := 3) hx hb dX6_device_80 (by decide) ?_
            refine lv_iload_n hx hb dX6_device_81 rfl (lv_at hl 2 rfl) ?_
            refine lv_imul hx hb dX6_device_82 ?_
            refine lv_iload_n hx hb dX6_device_83 rfl (lv_at hl 3 rfl) ?_
            refine lv_iadd hx hb dX6_device_84 ?_
            obtain ⟨gg, h⟩ := og h
            refine va_iald hx hb hK hP 1 0 rfl rfl gg dX6_device_85 ?_
            obtain rfl := Option.some.inj h
            exact hQ 86 H locs ls rfl hP hD hS dX6_device_86
          · have h := oi_f c2 h
            by_cases c3 : x1 = 3
            · have h := oi_t c3 h
              refine lv_tableIn (tgt := 87) (off := 58) hx hb dX6_device_29 (by rw [c3]; decide) (by rw [c3]; decide) (by rw [c3]; rfl) (by decide) ?_
              refine lv_aload_n hx hb dX6_device_87 rfl (lv_at hl 1 rfl) ?_
              refine va_get (D := D) (ci := 5) (v := .ref a_t_s) (C := RX6) (T := TX6) (N := 12) hx hb hts inX6 hown hK hP 0 rfl rfl 5 (by decide) k_2 (fun _ h9 => h9) rfl dX6_device_88 ?_
              refine lv_iconst (v := 0) hx hb dX6_device_91 (by decide) ?_
              refine lv_iload_n hx hb dX6_device_92 rfl (lv_at hl 2 rfl) ?_
              refine lv_iadd hx hb dX6_device_93 ?_
              obtain ⟨gg, h⟩ := og h
              refine va_iald hx hb hK hP 2 0 rfl rfl gg dX6_device_94 ?_
              obtain rfl := Option.some.inj h
              exact hQ 95 H locs ls rfl hP hD hS dX6_device_95
            · have h := oi_f c3 h
              by_cases c4 : x1 = 4
              · have h := oi_t c4 h
                refine lv_tableIn (tgt := 96) (off := 67) hx hb dX6_device_29 (by rw [c4]; decide) (by rw [c4]; decide) (by rw [c4]; rfl) (by decide) ?_
                refine lv_aload_n hx hb dX6_device_96 rfl (lv_at hl 1 rfl) ?_
                refine va_get (D := D) (ci := 5) (v := .ref a_t_s) (C := RX6) (T := TX6) (N := 12) hx hb hts inX6 hown hK hP 0 rfl rfl 5 (by decide) k_2 (fun _ h9 => h9) rfl dX6_device_97 ?_
                refine lv_bipush (v := 12) hx hb dX6_device_100 (by decide) ?_
                refine lv_iload_n hx hb dX6_device_102 rfl (lv_at hl 2 rfl) ?_
                refine lv_iadd hx hb dX6_device_103 ?_
                obtain ⟨gg, h⟩ := og h
                refine va_iald hx hb hK hP 2 0 rfl rfl gg dX6_device_104 ?_
                obtain rfl := Option.some.inj h
                exact hQ 105 H locs ls rfl hP hD hS dX6_device_105
              · have h := oi_f c4 h
                by_cases c5 : x1 = 5
                · have h := oi_t c5 h
                  refine lv_tableIn (tgt := 106) (off := 77) hx hb dX6_device_29 (by rw [c5]; decide) (by rw [c5]; decide) (by rw [c5]; rfl) (by decide) ?_
                  refine lv_iload_n hx hb dX6_device_106 rfl (lv_at hl 0 rfl) ?_
                  obtain rfl := Option.some.inj h
                  exact hQ 107 H locs ls rfl hP hD hS dX6_device_107
                · have h := oi_f c5 h
                  by_cases c6 : x1 = 6
                  · have h := oi_t c6 h
                    refine lv_tableIn (tgt := 108) (off := 79) hx hb dX6_device_29 (by rw [c6]; decide) (by rw [c6]; decide) (by rw [c6]; rfl) (by decide) ?_
                    refine lv_aload_n hx hb dX6_device_108 rfl (lv_at hl 1 rfl) ?_
                    refine va_get (D := D) (ci := 5) (v := .ref a_t_s) (C := RX6) (T := TX6) (N := 12) hx hb hts inX6 hown hK hP 0 rfl rfl 5 (by decide) k_2 (fun _ h9 => h9) rfl dX6_device_109 ?_
                    refine lv_bipush (v := 24) hx hb dX6_device_112 (by decide) ?_
                    refine lv_iload_n hx hb dX6_device_114 rfl (lv_at hl 2 rfl) ?_
                    refine lv_iadd hx hb dX6_device_115 ?_
                    obtain ⟨gg, h⟩ := og h
                    refine va_iald hx hb hK hP 2 0 rfl rfl gg dX6_device_116 ?_
                    obtain rfl := Option.some.inj h
                    exact hQ 117 H locs ls rfl hP hD hS dX6_device_117
                  · have h := oi_f c6 h
                    by_cases c7 : x1 = 7
                    · have h := oi_t c7 h
                      refine lv_tableIn (tgt := 118) (off := 89) hx hb dX6_device_29 (by rw [c7]; decide) (by rw [c7]; decide) (by rw [c7]; rfl) (by decide) ?_
                      refine lv_aload_n hx hb dX6_device_118 rfl (lv_at hl 1 rfl) ?_
                      refine va_get (D := D) (ci := 5) (v := .ref a_t_s) (C := RX6) (T := TX6) (N := 12) hx hb hts inX6 hown hK hP 0 rfl rfl 5 (by decide) k_2 (fun _ h9 => h9) rfl dX6_device_119 ?_
                      refine lv_bipush (v := 36) hx hb dX6_device_122 (by decide) ?_
                      refine lv_iload_n hx hb dX6_device_124 rfl (lv_at hl 2 rfl) ?_
                      refine lv_iadd hx hb dX6_device_125 ?_
                      obtain ⟨gg, h⟩ := og h
                      refine va_iald hx hb hK hP 2 0 rfl rfl gg dX6_device_126 ?_
                      refine lv_iconst (v := 1) hx hb dX6_device_127 (by decide) ?_
                      refine lv_icmp_ne (tgt := 135) hx hb dX6_device_128 (by decide) (fun cc => ?_) (fun cc => ?_)
                      · have h := oi_f cc h
                        refine lv_aload_n hx hb dX6_device_135 rfl (lv_at hl 1 rfl) ?_
                        refine lv_iload_n hx hb dX6_device_136 rfl (lv_at hl 2 rfl) ?_
                        obtain ⟨u137, hu137, h⟩ := ob h
                        refine gV_i (C := RX6) (T := TX6) (N := 12) (ci := 5) (q0 := 0) (wc := [(a_t, .inr (5, [.int t_length, .ref a_t_text, .int t_spot, .ref a_t_told, .ref a_t_read, .ref a_t_s, .ref a_t_before, .int t_undoMany, .int t_shortAs, .int t_isolatorAs, .int t_worstWire, .int t_worstLost])), (a_t_told, .inl (cI, 67, .inl t_told))]) (wr := [(a_t_s, .inl (cI, 87, .inl t_s))]) (w1 := [(a_t, .inr (5, [.int t_length, .ref a_t_text, .int t_spot, .ref a_t_told, .ref a_t_read, .ref a_t_s, .ref a_t_before, .int t_undoMany, .int t_shortAs, .int t_isolatorAs, .int t_worstWire, .int t_worstLost])), (a_t_told, .inl (cI, 67, .inl t_told))]) (v := u137) (As := [.int x0]) (rest := []) ⟨hx, hb, hml, hown, hts⟩ (c_X6_isSensor l D cI cS a_t a_t_told a_t_text a_t_read a_t_s a_t_before H.size t_length t_spot t_undoMany t_shortAs t_isolatorAs t_worstWire t_worstLost t_told x0 u137 hu137) (cwV 1 hts gX6_device_X6_isSensor rfl rfl rfl cd_X6_isSensor ⟨Nat.le_of_ble_eq_true rfl, Nat.le_of_ble_eq_true rfl⟩) hK hN hP hD hS hA [0, 1] [2] rfl rfl (by decide) (by decide) (by decide) rfl rfl rfl hl.1 rfl (Nat.le_of_ble_eq_true rfl) dX6_device_137 ⟨Nat.zero_le _, Nat.zero_le _⟩ (fun H locs hP hD hS => ?_)
                        have hP : va_P D vwCl [(a_t, .inr (5, [.int t_length, .ref a_t_text, .int t_spot, .ref a_t_told, .ref a_t_read, .ref a_t_s, .ref a_t_before, .int t_undoMany, .int t_shortAs, .int t_isolatorAs, .int t_worstWire, .int t_worstLost])), (a_t_told, .inl (cI, 67, .inl t_told)), (a_t_s, .inl (cI, 87, .inl t_s))] H := hP.sub [1, 2, 0] rfl
                        have hD : va_D A [(a_t, .inr (5, [.int t_length, .ref a_t_text, .int t_spot, .ref a_t_told, .ref a_t_read, .ref a_t_s, .ref a_t_before, .int t_undoMany, .int t_shortAs, .int t_isolatorAs, .int t_worstWire, .int t_worstLost])), (a_t_told, .inl (cI, 67, .inl t_told)), (a_t_s, .inl (cI, 87, .inl t_s))] := hD.sub [1, 2, 0] (by decide) rfl
                        refine lv_if_ne (tgt := 147) hx hb dX6_device_140 (by decide) (fun cc => ?_) (fun cc => ?_)
                        · have h := oi_f cc h
                          refine lv_iload_n hx hb dX6_device_147 rfl (lv_at hl 0 rfl) ?_
                          refine lv_aload_n hx hb dX6_device_148 rfl (lv_at hl 1 rfl) ?_
                          refine va_get (D := D) (ci := 5) (v := .ref a_t_told) (C := RX6) (T := TX6) (N := 12) hx hb hts inX6 hown hK hP 0 rfl rfl 3 (by decide) k_1 (fun _ h9 => h9) rfl dX6_device_149 ?_
                          refine lv_bipush (v := 63) hx hb dX6_device_152 (by decide) ?_
                          refine va_iald hx hb hK hP 1 0 rfl rfl (i := 63) (show gi 63 67 by decide) dX6_device_154 ?_
                          refine lv_icmp_lt (tgt := 162) hx hb dX6_device_155 (by decide) (fun cc => ?_) (fun cc => ?_)
                          · have h := oi_t cc h
                            refine lv_iload_n hx hb dX6_device_162 rfl (lv_at hl 0 rfl) ?_
                            refine lv_aload_n hx hb dX6_device_163 rfl (lv_at hl 1 rfl) ?_
                            refine va_get (D := D) (ci := 5) (v := .ref a_t_told) (C := RX6) (T := TX6) (N := 12) hx hb hts inX6 hown hK hP 0 rfl rfl 3 (by decide) k_1 (fun _ h9 => h9) rfl dX6_device_164 ?_
                            refine lv_bipush (v := 62) hx hb dX6_device_167 (by decide) ?_
                            refine va_iald hx hb hK hP 1 0 rfl rfl (i := 62) (show gi 62 67 by decide) dX6_device_169 ?_
                            refine lv_icmp_lt (tgt := 177) hx hb dX6_device_170 (by decide) (fun cc => ?_) (fun cc => ?_)
                            · have h := oi_t cc h
                              refine lv_iconst (v := 0) hx hb dX6_device_177 (by decide) ?_
                              obtain rfl := Option.some.inj h
                              exact hQ 178 H locs ls rfl hP hD hS dX6_device_178
                            · have h := oi_f cc h
                              refine lv_iconst (v := 1) hx hb dX6_device_173 (by decide) ?_
                              refine lv_goto (tgt := 178) hx hb dX6_device_174 (by decide) ?_
                              obtain rfl := Option.some.inj h
                              exact hQ 178 H locs ls rfl hP hD hS dX6_device_178
                          · have h := oi_f cc h
                            refine lv_iconst (v := 2) hx hb dX6_device_158 (by decide) ?_
                            refine lv_goto (tgt := 178) hx hb dX6_device_159 (by decide) ?_
                            obtain rfl := Option.some.inj h
                            exact hQ 178 H locs ls rfl hP hD hS dX6_device_178
                        · have h := oi_t cc h
                          refine lv_iconst (v := 0) hx hb dX6_device_143 (by decide) ?_
                          refine lv_goto (tgt := 178) hx hb dX6_device_144 (by decide) ?_
                          obtain rfl := Option.some.inj h
                          exact hQ 178 H locs ls rfl hP hD hS dX6_device_178
                      · have h := oi_t cc h
                        refine lv_iconst (v := 3) hx hb dX6_device_131 (by decide) ?_
                        refine lv_goto (tgt := 178) hx hb dX6_device_132 (by decide) ?_
                        obtain rfl := Option.some.inj h
                        exact hQ 178 H locs ls rfl hP hD hS dX6_device_178
                    · have h := oi_f c7 h
                      refine lv_tableOut (tgt := 179) hx hb dX6_device_29 (by have q0 := lv_neT (k := 0) c0 (a := 0) (by decide); have q1 := lv_neT (k := 1) c1 (a := 1) (by decide); have q2 := lv_neT (k := 2) c2 (a := 2) (by decide); have q3 := lv_neT (k := 3) c3 (a := 3) (by decide); have q4 := lv_neT (k := 4) c4 (a := 4) (by decide); have q5 := lv_neT (k := 5) c5 (a := 5) (by decide); have q6 := lv_neT (k := 6) c6 (a := 6) (by decide); have q7 := lv_neT (k := 7) c7 (a := 7) (by decide); omega) (by decide) ?_
                      refine lv_aload_n hx hb dX6_device_179 rfl (lv_at hl 1 rfl) ?_
                      refine lv_iload_n hx hb dX6_device_180 rfl (lv_at hl 2 rfl) ?_
                      refine lv_iconst (v := 1) hx hb dX6_device_181 (by decide) ?_
                      obtain ⟨u182, hu182, h⟩ := ob h
                      refine gV_i (C := RX6) (T := TX6) (N := 12) (ci := 5) (q0 := 0) (wc := [(a_t, .inr (5, [.int t_length, .ref a_t_text, .int t_spot, .ref a_t_told, .ref a_t_read, .ref a_t_s, .ref a_t_before, .int t_undoMany, .int t_shortAs, .int t_isolatorAs, .int t_worstWire, .int t_worstLost])), (a_t_told, .inl (cI, 67, .inl t_told)), (a_t_s, .inl (cI, 87, .inl t_s))]) (wr := []) (w1 := [(a_t, .inr (5, [.int t_length, .ref a_t_text, .int t_spot, .ref a_t_told, .ref a_t_read, .ref a_t_s, .ref a_t_before, .int t_undoMany, .int t_shortAs, .int t_isolatorAs, .int t_worstWire, .int t_worstLost])), (a_t_told, .inl (cI, 67, .inl t_told)), (a_t_s, .inl (cI, 87, .inl t_s))]) (v := u182) (As := [.int x0, .int 1]) (rest := []) ⟨hx, hb, hml, hown, hts⟩ (c_X6_stops l D cI cS a_t a_t_told a_t_s a_t_text a_t_read a_t_before H.size t_length t_spot t_undoMany t_shortAs t_isolatorAs t_worstWire t_worstLost t_told t_s x0 1 u182 hu182) (cwV 2 hts gX6_device_X6_stops rfl rfl rfl cd_X6_stops ⟨Nat.le_of_ble_eq_true rfl, Nat.le_of_ble_eq_true rfl⟩) hK hN hP hD hS hA [0, 1, 2] [] rfl rfl (by decide) (by decide) (by decide) rfl rfl rfl hl.1 rfl (Nat.le_of_ble_eq_true rfl) dX6_device_182 ⟨Nat.zero_le _, Nat.zero_le _⟩ (fun H locs hP hD hS => ?_)
                      have hP : va_P D vwCl [(a_t, .inr (5, [.int t_length, .ref a_t_text, .int t_spot, .ref a_t_told, .ref a_t_read, .ref a_t_s, .ref a_t_before, .int t_undoMany, .int t_shortAs, .int t_isolatorAs, .int t_worstWire, .int t_worstLost])), (a_t_told, .inl (cI, 67, .inl t_told)), (a_t_s, .inl (cI, 87, .inl t_s))] H := hP
                      have hD : va_D A [(a_t, .inr (5, [.int t_length, .ref a_t_text, .int t_spot, .ref a_t_told, .ref a_t_read, .ref a_t_s, .ref a_t_before, .int t_undoMany, .int t_shortAs, .int t_isolatorAs, .int t_worstWire, .int t_worstLost])), (a_t_told, .inl (cI, 67, .inl t_told)), (a_t_s, .inl (cI, 87, .inl t_s))] := hD
                      refine lv_bipush (v := (-4)) hx hb dX6_device_185 (by decide) ?_
                      obtain ⟨u195, hj195, h⟩ := ob h
                      have jn195 : ∀ (H : Heap) (locs : List Loc) (ls : Array Slot), va_P D vwCl [(a_t, .inr (5, [.int t_length, .ref a_t_text, .int t_spot, .ref a_t_told, .ref a_t_read, .ref a_t_s, .ref a_t_before, .int t_undoMany, .int t_shortAs, .int t_isolatorAs, .int t_worstWire, .int t_worstLost])), (a_t_told, .inl (cI, 67, .inl t_told)), (a_t_s, .inl (cI, 87, .inl t_s))] H → va_D A [(a_t, .inr (5, [.int t_length, .ref a_t_text, .int t_spot, .ref a_t_told, .ref a_t_read, .ref a_t_s, .ref a_t_before, .int t_undoMany, .int t_shortAs, .int t_isolatorAs, .int t_worstWire, .int t_worstLost])), (a_t_told, .inl (cI, 67, .inl t_told)), (a_t_s, .inl (cI, 87, .inl t_s))] → va_S A s.heap H locs → lv_has ls 4 [(0, .ref a_t), (1, .int x0)] → W p l e rm_X6_device s m args below meth c H locs 0 0 Q (F0 m 195 ls [.int u195]) := by
                        intro H locs ls hP hD hS hl
                        refine lv_aload_n hx hb dX6_device_195 rfl (lv_at hl 0 rfl) ?_
                        refine lv_iload_n hx hb dX6_device_196 rfl (lv_at hl 1 rfl) ?_
                        refine lv_iconst (v := 2) hx hb dX6_device_197 (by decide) ?_
                        obtain ⟨u198, hu198, h⟩ := ob h
                        refine gV_i (C := RX6) (T := TX6) (N := 12) (ci := 5) (q0 := 0) (wc := [(a_t, .inr (5, [.int t_length, .ref a_t_text, .int t_spot, .ref a_t_told, .ref a_t_read, .ref a_t_s, .ref a_t_before, .int t_undoMany, .int t_shortAs, .int t_isolatorAs, .int t_worstWire, .int t_worstLost])), (a_t_told, .inl (cI, 67, .inl t_told)), (a_t_s, .inl (cI, 87, .inl t_s))]) (wr := []) (w1 := [(a_t, .inr (5, [.int t_length, .ref a_t_text, .int t_spot, .ref a_t_told, .ref a_t_read, .ref a_t_s, .ref a_t_before, .int t_undoMany, .int t_shortAs, .int t_isolatorAs, .int t_worstWire, .int t_worstLost])), (a_t_told, .inl (cI, 67, .inl t_told)), (a_t_s, .inl (cI, 87, .inl t_s))]) (v := u198) (As := [.int x0, .int 2]) (rest := [.int u195]) ⟨hx, hb, hml, hown, hts⟩ (c_X6_stops l D cI cS a_t a_t_told a_t_s a_t_text a_t_read a_t_before H.size t_length t_spot t_undoMany t_shortAs t_isolatorAs t_worstWire t_worstLost t_told t_s x0 2 u198 hu198) (cwV 2 hts gX6_device_X6_stops rfl rfl rfl cd_X6_stops ⟨Nat.le_of_ble_eq_true rfl, Nat.le_of_ble_eq_true rfl⟩) hK hN hP hD hS hA [0, 1, 2] [] rfl rfl (by decide) (by decide) (by decide) rfl rfl rfl hl.1 rfl (Nat.le_of_ble_eq_true rfl) dX6_device_198 ⟨Nat.zero_le _, Nat.zero_le _⟩ (fun H locs hP hD hS => ?_)
                        have hP : va_P D vwCl [(a_t, .inr (5, [.int t_length, .ref a_t_text, .int t_spot, .ref a_t_told, .ref a_t_read, .ref a_t_s, .ref a_t_before, .int t_undoMany, .int t_shortAs, .int t_isolatorAs, .int t_worstWire, .int t_worstLost])), (a_t_told, .inl (cI, 67, .inl t_told)), (a_t_s, .inl (cI, 87, .inl t_s))] H := hP
                        have hD : va_D A [(a_t, .inr (5, [.int t_length, .ref a_t_text, .int t_spot, .ref a_t_told, .ref a_t_read, .ref a_t_s, .ref a_t_before, .int t_undoMany, .int t_shortAs, .int t_isolatorAs, .int t_worstWire, .int t_worstLost])), (a_t_told, .inl (cI, 67, .inl t_told)), (a_t_s, .inl (cI, 87, .inl t_s))] := hD
                        refine lv_bipush (v := (-4)) hx hb dX6_device_201 (by decide) ?_
                        refine lv_icmp_ne (tgt := 210) hx hb dX6_device_203 (by decide) (fun cc => ?_) (fun cc => ?_)
                        · have h := oi_f cc h
                          refine lv_iconst (v := 0) hx hb dX6_device_210 (by decide) ?_
                          refine lv_iadd hx hb dX6_device_211 ?_
                          obtain rfl := Option.some.inj h
                          exact hQ 212 H locs ls rfl hP hD hS dX6_device_212
                        · have h := oi_t cc h
                          refine lv_iconst (v := 2) hx hb dX6_device_206 (by decide) ?_
                          refine lv_goto (tgt := 211) hx hb dX6_device_207 (by decide) ?_
                          refine lv_iadd hx hb dX6_device_211 ?_
                          obtain rfl := Option.some.inj h
                          exact hQ 212 H locs ls rfl hP hD hS dX6_device_212
                      have h := hj195
                      refine lv_icmp_ne (tgt := 194) hx hb dX6_device_187 (by decide) (fun cc => ?_) (fun cc => ?_)
                      · have h := oi_f cc h
                        refine lv_iconst (v := 0) hx hb dX6_device_194 (by decide) ?_
                        obtain rfl := Option.some.inj h
                        exact jn195 H locs ls hP hD hS (lv_sub hl [1, 2] rfl)
                      · have h := oi_t cc h
                        refine lv_iconst (v := 1) hx hb dX6_device_190 (by decide) ?_
                        refine lv_goto (tgt := 195) hx hb dX6_device_191 (by decide) ?_
                        obtain rfl := Option.some.inj h
                        exact jn195 H locs ls hP hD hS (lv_sub hl [1, 2] rfl)
    · have h := oi_t cc h
      refine lv_iconst (v := (-1)) hx hb dX6_device_20 (by decide) ?_
      obtain rfl := Option.some.inj h
      exact hQ 21 H locs ls rfl hP hD hS dX6_device_21

def f_X6_since (t_told : FN) (t_s : FN) (x0 : Int32) : Option (Int32) := ((f_X6_in (x0).toInt64 0 5).bind (fun u6 => (if u6 = 0 then some ((-1)) else ((f_X6_isZone t_told t_s x0).bind (fun u14 => (if u14 = 0 then some ((-1)) else (if gi (79 + x0) 87 then some (((t_s (86 : Int32).toNatClampNeg) - (t_s ((79 + x0)).toNatClampNeg))) else none)))))))
abbrev rm_X6_since : Room := { frames := 1, cells := 0, slots := 0, locals := 25 }
theorem cd_X6_since : (yX6_since).cls = RX6 ∧ (yX6_since).cls ≠ "java/lang/invoke/MethodHandle" ∧ (yX6_since).cls ≠ "java/lang/invoke/VarHandle" ∧ (parseMethodDescriptor (yX6_since).desc).map (fun d => d.parameters.length) = some 1 := by decide +kernel
set_option maxHeartbeats 4000000 in
set_option maxRecDepth 100000 in
theorem c_X6_since (l : Launch) (D : va_G) (cI cS : ClassId) (a_t a_t_told a_t_s a_t_text a_t_read a_t_before : Nat) (sz : Nat) (t_length : Int32) (t_spot : Int32) (t_undoMany : Int32) (t_shortAs : Int32) (t_isolatorAs : Int32) (t_worstWire : Int32) (t_worstLost : Int32) (t_told : FN) (t_s : FN) (x0 : Int32) (out : Int32) (h : f_X6_since t_told t_s x0 = some out) : Met l yX6_since wsX6_since rm_X6_since (va_Pc [.ref a_t, .int x0] (GP D cI cS [(a_t, .inr (5, [.int t_length, .ref a_t_text, .int t_spot, .ref a_t_told, .ref a_t_read, .ref a_t_s, .ref a_t_before, .int t_undoMany, .int t_shortAs, .int t_isolatorAs, .int t_worstWire, .int t_worstLost])), (a_t_told, .inl (cI, 67, .inl t_told)), (a_t_s, .inl (cI, 87, .inl t_s))] sz)) (QI D [(a_t, .inr (5, [.int t_length, .ref a_t_text, .int t_spot, .ref a_t_told, .ref a_t_read, .ref a_t_s, .ref a_t_before, .int t_undoMany, .int t_shortAs, .int t_isolatorAs, .int t_worstWire, .int t_worstLost])), (a_t_told, .inl (cI, 67, .inl t_told)), (a_t_s, .inl (cI, 87, .inl t_s))] sz [(a_t, .inr (5, [.int t_length, .ref a_t_text, .int t_spot, .ref a_t_told, .ref a_t_read, .ref a_t_s, .ref a_t_before, .int t_undoMany, .int t_shortAs, .int t_isolatorAs, .int t_worstWire, .int t_worstLost])), (a_t_told, .inl (cI, 67, .inl t_told)), (a_t_s, .inl (cI, 87, .inl t_s))] out) 0 0 (va_A [(a_t, .inr (5, [.int t_length, .ref a_t_text, .int t_spot, .ref a_t_told, .ref a_t_read, .ref a_t_s, .ref a_t_before, .int t_undoMany, .int t_shortAs, .int t_isolatorAs, .int t_worstWire, .int t_worstLost])), (a_t_told, .inl (cI, 67, .inl t_told)), (a_t_s, .inl (cI, 87, .inl t_s))] sz) := by
  refine gm_i (cc := cX6_since) (maxL := 2) (rt := .int) (by decide) rfl (Nat.le_of_ble_eq_true rfl) ?_
  intro p e s m args below meth c A Q H locs ls hx hb hml hown hts hK hN hA hP hD hS hl hQ
  have hown : s.vm.findClass RX6 = some m.cls := hown
  have hl : lv_has ls 2 [(0, .ref a_t), (1, .int x0)] := hl
  have inX6 : ∀ w ∈ wsX60, w ∈ wsX6_since := by decide +kernel
  have k_0 := hts (.constantLong RX6 165 (5)) (by decide +kernel)
  have k_1 := hts (.fieldLink RX6 19 "AlarmRingModel" "s" "[I") (by decide +kernel)
  unfold f_X6_since at h
  refine lv_iload_n hx hb dX6_since_0 rfl (lv_at hl 1 rfl) ?_
  refine lv_i2l (v := (x0).toInt64) hx hb dX6_since_1 rfl ?_
  refine lv_lconst (v := 0) hx hb dX6_since_2 (by decide) ?_
  refine lv_ldc2 (v := 5) hx hb hown k_0 dX6_since_3 ?_
  obtain ⟨u6, hu6, h⟩ := ob h
  refine gS_i (wc := []) (wr := [(a_t, .inr (5, [.int t_length, .ref a_t_text, .int t_spot, .ref a_t_told, .ref a_t_read, .ref a_t_s, .ref a_t_before, .int t_undoMany, .int t_shortAs, .int t_isolatorAs, .int t_worstWire, .int t_worstLost])), (a_t_told, .inl (cI, 67, .inl t_told)), (a_t_s, .inl (cI, 87, .inl t_s))]) (w1 := []) (v := u6) (As := [.long (x0).toInt64, .long 0, .long 5]) (rest := []) ⟨hx, hb, hml, hown, hts⟩ (c_X6_in l D cI cS  H.size (x0).toInt64 0 5 u6 hu6) (va_cwS 3 hts gX6_since_X6_in rfl rfl rfl cd_X6_in ⟨Nat.le_of_ble_eq_true rfl, Nat.le_of_ble_eq_true rfl⟩) hK hN hP hD hS hA [] [0, 1, 2] rfl rfl (by decide) (by decide) (by decide) rfl hl.1 rfl (Nat.le_of_ble_eq_true rfl) dX6_since_6 ⟨Nat.zero_le _, Nat.zero_le _⟩ (fun H locs hP hD hS => ?_)
  have hP : va_P D vwCl [(a_t, .inr (5, [.int t_length, .ref a_t_text, .int t_spot, .ref a_t_told, .ref a_t_read, .ref a_t_s, .ref a_t_before, .int t_undoMany, .int t_shortAs, .int t_isolatorAs, .int t_worstWire, .int t_worstLost])), (a_t_told, .inl (cI, 67, .inl t_told)), (a_t_s, .inl (cI, 87, .inl t_s))] H := hP
  have hD : va_D A [(a_t, .inr (5, [.int t_length, .ref a_t_text, .int t_spot, .ref a_t_told, .ref a_t_read, .ref a_t_s, .ref a_t_before, .int t_undoMany, .int t_shortAs, .int t_isolatorAs, .int t_worstWire, .int t_worstLost])), (a_t_told, .inl (cI, 67, .inl t_told)), (a_t_s, .inl (cI, 87, .inl t_s))] := hD
  refine lv_if_eq (tgt := 40) hx hb dX6_since_9 (by decide) (fun cc => ?_) (fun cc => ?_)
  · have h := oi_t cc h
    refine lv_iconst (v := (-1)) hx hb dX6_since_40 (by decide) ?_
    obtain rfl := Option.some.inj h
    exact hQ 41 H locs ls rfl hP hD hS dX6_since_41
  · have h := oi_f cc h
    refine lv_aload_n hx hb dX6_since_12 rfl (lv_at hl 0 rfl) ?_
    refine lv_iload_n hx hb dX6_since_13 rfl (lv_at hl 1 rfl) ?_
    obtain ⟨u14, hu14, h⟩ := ob h
    refine gV_i (C := RX6) (T := TX6) (N := 12) (ci := 5) (q0 := 0) (wc := [(a_t, .inr (5, [.int t_length, .ref a_t_text, .int t_spot, .ref a_t_told, .ref a_t_read, .ref a_t_s, .ref a_t_before, .int t_undoMany, .int t_shortAs, .int t_isolatorAs, .int t_worstWire, .int t_worstLost])), (a_t_told, .inl (cI, 67, .inl t_told)), (a_t_s, .inl (cI, 87, .inl t_s))]) (wr := []) (w1 := [(a_t, .inr (5, [.int t_length, .ref a_t_text, .int t_spot, .ref a_t_told, .ref a_t_read, .ref a_t_s, .ref a_t_before, .int t_undoMany, .int t_shortAs, .int t_isolatorAs, .int t_worstWire, .int t_worstLost])), (a_t_told, .inl (cI, 67, .inl t_told)), (a_t_s, .inl (cI, 87, .inl t_s))]) (v := u14) (As := [.int x0]) (rest := []) ⟨hx, hb, hml, hown, hts⟩ (c_X6_isZone l D cI cS a_t a_t_told a_t_s a_t_text a_t_read a_t_before H.size t_length t_spot t_undoMany t_shortAs t_isolatorAs t_worstWire t_worstLost t_told t_s x0 u14 hu14) (cwV 1 hts gX6_since_X6_isZone rfl rfl rfl cd_X6_isZone ⟨Nat.le_of_ble_eq_true rfl, Nat.le_of_ble_eq_true rfl⟩) hK hN hP hD hS hA [0, 1, 2] [] rfl rfl (by decide) (by decide) (by decide) rfl rfl rfl hl.1 rfl (Nat.le_of_ble_eq_true rfl) dX6_since_14 ⟨Nat.zero_le _, Nat.zero_le _⟩ (fun H locs hP hD hS => ?_)
    have hP : va_P D vwCl [(a_t, .inr (5, [.int t_length, .ref a_t_text, .int t_spot, .ref a_t_told, .ref a_t_read, .ref a_t_s, .ref a_t_before, .int t_undoMany, .int t_shortAs, .int t_isolatorAs, .int t_worstWire, .int t_worstLost])), (a_t_told, .inl (cI, 67, .inl t_told)), (a_t_s, .inl (cI, 87, .inl t_s))] H := hP
    have hD : va_D A [(a_t, .inr (5, [.int t_length, .ref a_t_text, .int t_spot, .ref a_t_told, .ref a_t_read, .ref a_t_s, .ref a_t_before, .int t_undoMany, .int t_shortAs, .int t_isolatorAs, .int t_worstWire, .int t_worstLost])), (a_t_told, .inl (cI, 67, .inl t_told)), (a_t_s, .inl (cI, 87, .inl t_s))] := hD
    refine lv_if_eq (tgt := 40) hx hb dX6_since_17 (by decide) (fun cc => ?_) (fun cc => ?_)
    · have h := oi_t cc h
      refine lv_iconst (v := (-1)) hx hb dX6_since_40 (by decide) ?_
      obtain rfl := Option.some.inj h
      exact hQ 41 H locs ls rfl hP hD hS dX6_since_41
    · have h := oi_f cc h
      refine lv_aload_n hx hb dX6_since_20 rfl (lv_at hl 0 rfl) ?_
      refine va_get (D := D) (ci := 5) (v := .ref a_t_s) (C := RX6) (T := TX6) (N := 12) hx hb hts inX6 hown hK hP 0 rfl rfl 5 (by decide) k_1 (fun _ h9 => h9) rfl dX6_since_21 ?_
      refine lv_bipush (v := 86) hx hb dX6_since_24 (by decide) ?_
      refine va_iald hx hb hK hP 2 0 rfl rfl (i := 86) (show gi 86 87 by decide) dX6_since_26 ?_
      refine lv_aload_n hx hb dX6_since_27 rfl (lv_at hl 0 rfl) ?_
      refine va_get (D := D) (ci := 5) (v := .ref a_t_s) (C := RX6) (T := TX6) (N := 12) hx hb hts inX6 hown hK hP 0 rfl rfl 5 (by decide) k_1 (fun _ h9 => h9) rfl dX6_since_28 ?_
      refine lv_bipush (v := 79) hx hb dX6_since_31 (by decide) ?_
      refine lv_iload_n hx hb dX6_since_33 rfl (lv_at hl 1 rfl) ?_
      refine lv_iadd hx hb dX6_since_34 ?_
      obtain ⟨gg, h⟩ := og h
      refine va_iald hx hb hK hP 2 0 rfl rfl gg dX6_since_35 ?_
      refine lv_isub hx hb dX6_since_36 ?_
      refine lv_goto (tgt := 41) hx hb dX6_since_37 (by decide) ?_
      obtain rfl := Option.some.inj h
      exact hQ 41 H locs ls rfl hP hD hS dX6_since_41

def f_X6_leave_13 (t_told : FN) (t_s : FN) : Nat → Int32 → Int32 → Option (Int32)
  | 0, _, _ => none
  | n + 1, v3, v4 => (if 6 ≤ v4 then some (v3) else (if v3 = 0 then ((f_X6_since t_told t_s v4).bind (fun u27 => (if u27 < (2 * (t_told (66 : Int32).toNatClampNeg)) then f_X6_leave_13 t_told t_s n 0 (v4 + 1) else f_X6_leave_13 t_told t_s n 1 (v4 + 1)))) else f_X6_leave_13 t_told t_s n 1 (v4 + 1)))
def f_X6_leave (t_told : FN) (t_s : FN) (x0 : Int32) : Option (Int32) := ((f_X6_leave_13 t_told t_s 1000 0 0).bind (fun (q13 : Int32) => ((f_X6_since t_told t_s x0).bind (fun u50 => (if u50 < 0 then ((f_X6_since t_told t_s (x0 - 1)).bind (fun u64 => (if (t_told (66 : Int32).toNatClampNeg) ≤ u64 then some (2) else ((f_X6_since t_told t_s (x0 + 1)).bind (fun u75 => (if u75 < (t_told (66 : Int32).toNatClampNeg) then (if q13 = 0 then some (0) else some (3)) else some (2))))))) else some (1))))))
abbrev rm_X6_leave : Room := { frames := 2, cells := 0, slots := 0, locals := 46 }
theorem cd_X6_leave : (yX6_leave).cls = RX6 ∧ (yX6_leave).cls ≠ "java/lang/invoke/MethodHandle" ∧ (yX6_leave).cls ≠ "java/lang/invoke/VarHandle" ∧ (parseMethodDescriptor (yX6_leave).desc).map (fun d => d.parameters.length) = some 1 := by decide +kernel
set_option maxHeartbeats 4000000 in
set_option maxRecDepth 100000 in
theorem c_X6_leave (l : Launch) (D : va_G) (cI cS : ClassId) (a_t a_t_told a_t_s a_t_text a_t_read a_t_before : Nat) (sz : Nat) (t_length : Int32) (t_spot : Int32) (t_undoMany : Int32) (t_shortAs : Int32) (t_isolatorAs : Int32) (t_worstWire : Int32) (t_worstLost : Int32) (t_told : FN) (t_s : FN) (x0 : Int32) (out : Int32) (h : f_X6_leave t_told t_s x0 = some out) : Met l yX6_leave wsX6_leave rm_X6_leave (va_Pc [.ref a_t, .int x0] (GP D cI cS [(a_t, .inr (5, [.int t_length, .ref a_t_text, .int t_spot, .ref a_t_told, .ref a_t_read, .ref a_t_s, .ref a_t_before, .int t_undoMany, .int t_shortAs, .int t_isolatorAs, .int t_worstWire, .int t_worstLost])), (a_t_told, .inl (cI, 67, .inl t_told)), (a_t_s, .inl (cI, 87, .inl t_s))] sz)) (QI D [(a_t, .inr (5, [.int t_length, .ref a_t_text, .int t_spot, .ref a_t_told, .ref a_t_read, .ref a_t_s, .ref a_t_before, .int t_undoMany, .int t_shortAs, .int t_isolatorAs, .int t_worstWire, .int t_worstLost])), (a_t_told, .inl (cI, 67, .inl t_told)), (a_t_s, .inl (cI, 87, .inl t_s))] sz [(a_t, .inr (5, [.int t_length, .ref a_t_text, .int t_spot, .ref a_t_told, .ref a_t_read, .ref a_t_s, .ref a_t_before, .int t_undoMany, .int t_shortAs, .int t_isolatorAs, .int t_worstWire, .int t_worstLost])), (a_t_told, .inl (cI, 67, .inl t_told)), (a_t_s, .inl (cI, 87, .inl t_s))] out) 0 0 (va_A [(a_t, .inr (5, [.int t_length, .ref a_t_text, .int t_spot, .ref a_t_told, .ref a_t_read, .ref a_t_s, .ref a_t_before, .int t_undoMany, .int t_shortAs, .int t_isolatorAs, .int t_worstWire, .int t_worstLost])), (a_t_told, .inl (cI, 67, .inl t_told)), (a_t_s, .inl (cI, 87, .inl t_s))] sz) := by
  refine gm_i (cc := cX6_leave) (maxL := 5) (rt := .int) (by decide) rfl (Nat.le_of_ble_eq_true rfl) ?_
  intro p e s m args below meth c A Q H locs ls hx hb hml hown hts hK hN hA hP hD hS hl hQ
  have hown : s.vm.findClass RX6 = some m.cls := hown
  have hl : lv_has ls 5 [(0, .ref a_t), (1, .int x0)] := hl
  have inX6 : ∀ w ∈ wsX60, w ∈ wsX6_leave := by decide +kernel
  have k_0 := hts (.fieldLink RX6 13 "AlarmRingModel" "told" "[I") (by decide +kernel)
  unfold f_X6_leave at h
  refine lv_aload_n hx hb dX6_leave_0 rfl (lv_at hl 0 rfl) ?_
  refine va_get (D := D) (ci := 5) (v := .ref a_t_told) (C := RX6) (T := TX6) (N := 12) hx hb hts inX6 hown hK hP 0 rfl rfl 3 (by decide) k_0 (fun _ h9 => h9) rfl dX6_leave_1 ?_
  refine lv_bipush (v := 66) hx hb dX6_leave_4 (by decide) ?_
  refine va_iald hx hb hK hP 1 0 rfl rfl (i := 66) (show gi 66 67 by decide) dX6_leave_6 ?_
  refine lv_istore_n (lv' := [(2, .int (t_told (66 : Int32).toNatClampNeg)), (0, .ref a_t), (1, .int x0)]) hx hb dX6_leave_7 rfl hl (by decide) rfl (fun ls hl => ?_)
  refine lv_iconst (v := 0) hx hb dX6_leave_8 (by decide) ?_
  refine lv_istore_n (lv' := [(3, .int 0), (2, .int (t_told (66 : Int32).toNatClampNeg)), (0, .ref a_t), (1, .int x0)]) hx hb dX6_leave_9 rfl hl (by decide) rfl (fun ls hl => ?_)
  refine lv_iconst (v := 0) hx hb dX6_leave_10 (by decide) ?_
  refine lv_istore (lv' := [(4, .int 0), (3, .int 0), (2, .int (t_told (66 : Int32).toNatClampNeg)), (0, .ref a_t), (1, .int x0)]) hx hb dX6_leave_11 hl (by decide) rfl (fun ls hl => ?_)
  obtain ⟨q13, hq13, h⟩ := ob h
  have lp13 : ∀ (n : Nat) (v3 : Int32) (v4 : Int32) (H : Heap) (locs : List Loc) (ls : Array Slot), va_P D vwCl [(a_t, .inr (5, [.int t_length, .ref a_t_text, .int t_spot, .ref a_t_told, .ref a_t_read, .ref a_t_s, .ref a_t_before, .int t_undoMany, .int t_shortAs, .int t_isolatorAs, .int t_worstWire, .int t_worstLost])), (a_t_told, .inl (cI, 67, .inl t_told)), (a_t_s, .inl (cI, 87, .inl t_s))] H → va_D A [(a_t, .inr (5, [.int t_length, .ref a_t_text, .int t_spot, .ref a_t_told, .ref a_t_read, .ref a_t_s, .ref a_t_before, .int t_undoMany, .int t_shortAs, .int t_isolatorAs, .int t_worstWire, .int t_worstLost])), (a_t_told, .inl (cI, 67, .inl t_told)), (a_t_s, .inl (cI, 87, .inl t_s))] → va_S A s.heap H locs → lv_has ls 5 [(0, .ref a_t), (1, .int x0), (2, .int (t_told (66 : Int32).toNatClampNeg)), (3, .int v3), (4, .int v4)] → ∀ (q13 : Int32), f_X6_leave_13 t_told t_s n v3 v4 = some q13 → (∀ (H : Heap) (locs : List Loc) (ls : Array Slot), va_P D vwCl [(a_t, .inr (5, [.int t_length, .ref a_t_text, .int t_spot, .ref a_t_told, .ref a_t_read, .ref a_t_s, .ref a_t_before, .int t_undoMany, .int t_shortAs, .int t_isolatorAs, .int t_worstWire, .int t_worstLost])), (a_t_told, .inl (cI, 67, .inl t_told)), (a_t_s, .inl (cI, 87, .inl t_s))] H → va_D A [(a_t, .inr (5, [.int t_length, .ref a_t_text, .int t_spot, .ref a_t_told, .ref a_t_read, .ref a_t_s, .ref a_t_before, .int t_undoMany, .int t_shortAs, .int t_isolatorAs, .int t_worstWire, .int t_worstLost])), (a_t_told, .inl (cI, 67, .inl t_told)), (a_t_s, .inl (cI, 87, .inl t_s))] → va_S A s.heap H locs → lv_has ls 5 [(0, .ref a_t), (1, .int x0), (2, .int (t_told (66 : Int32).toNatClampNeg)), (3, .int q13)] → W p l e rm_X6_leave s m args below meth c H locs 0 0 Q (F0 m 48 ls [])) → W p l e rm_X6_leave s m args below meth c H locs 0 0 Q (F0 m 13 ls []) := by
    intro n
    induction n with
    | zero => intro v3 v4 H locs ls hP hD hS hl q13 h kk; exact on_ h
    | succ n ih =>
      intro v3 v4 H locs ls hP hD hS hl q13 h kk
      rw [f_X6_leave_13] at h
      refine lv_iload hx hb dX6_leave_13 (lv_at hl 4 rfl) ?_
      refine lv_bipush (v := 6) hx hb dX6_leave_15 (by decide) ?_
      refine lv_icmp_ge (tgt := 48) hx hb dX6_leave_17 (by decide) (fun cc => ?_) (fun cc => ?_)
      · have h := oi_t cc h
        obtain rfl := Option.some.inj h
        exact kk H locs ls hP hD hS (lv_sub hl [0, 1, 2, 3] rfl)
      · have h := oi_f cc h
        refine lv_iload_n hx hb dX6_leave_20 rfl (lv_at hl 3 rfl) ?_
        refine lv_if_ne (tgt := 36) hx hb dX6_leave_21 (by decide) (fun cc => ?_) (fun cc => ?_)
        · have h := oi_f cc h
          refine lv_iconst (v := 1) hx hb dX6_leave_36 (by decide) ?_
          refine lv_goto (tgt := 41) hx hb dX6_leave_37 (by decide) ?_
          refine lv_istore_n (lv' := [(3, .int 1), (0, .ref a_t), (1, .int x0), (2, .int (t_told (66 : Int32).toNatClampNeg)), (4, .int v4)]) hx hb dX6_leave_41 rfl hl (by decide) rfl (fun ls hl => ?_)
          refine lv_iinc (v := (v4 + 1)) (lv' := [(4, .int (v4 + 1)), (3, .int 1), (0, .ref a_t), (1, .int x0), (2, .int (t_told (66 : Int32).toNatClampNeg))]) hx hb dX6_leave_42 hl (k := 4) rfl (by first | rfl | decide) (by decide) rfl (fun ls hl => ?_)
          refine lv_goto (tgt := 13) hx hb dX6_leave_45 (by decide) ?_
          exact ih 1 (v4 + 1) H locs ls hP hD hS (lv_sub hl [2, 3, 4, 1, 0] rfl) q13 h kk
        · have h := oi_t cc h
          refine lv_aload_n hx hb dX6_leave_24 rfl (lv_at hl 0 rfl) ?_
          refine lv_iload hx hb dX6_leave_25 (lv_at hl 4 rfl) ?_
          obtain ⟨u27, hu27, h⟩ := ob h
          refine gV_i (C := RX6) (T := TX6) (N := 12) (ci := 5) (q0 := 0) (wc := [(a_t, .inr (5, [.int t_length, .ref a_t_text, .int t_spot, .ref a_t_told, .ref a_t_read, .ref a_t_s, .ref a_t_before, .int t_undoMany, .int t_shortAs, .int t_isolatorAs, .int t_worstWire, .int t_worstLost])), (a_t_told, .inl (cI, 67, .inl t_told)), (a_t_s, .inl (cI, 87, .inl t_s))]) (wr := []) (w1 := [(a_t, .inr (5, [.int t_length, .ref a_t_text, .int t_spot, .ref a_t_told, .ref a_t_read, .ref a_t_s, .ref a_t_before, .int t_undoMany, .int t_shortAs, .int t_isolatorAs, .int t_worstWire, .int t_worstLost])), (a_t_told, .inl (cI, 67, .inl t_told)), (a_t_s, .inl (cI, 87, .inl t_s))]) (v := u27) (As := [.int v4]) (rest := []) ⟨hx, hb, hml, hown, hts⟩ (c_X6_since l D cI cS a_t a_t_told a_t_s a_t_text a_t_read a_t_before H.size t_length t_spot t_undoMany t_shortAs t_isolatorAs t_worstWire t_worstLost t_told t_s v4 u27 hu27) (cwV 1 hts gX6_leave_X6_since rfl rfl rfl cd_X6_since ⟨Nat.le_of_ble_eq_true rfl, Nat.le_of_ble_eq_true rfl⟩) hK hN hP hD hS hA [0, 1, 2] [] rfl rfl (by decide) (by decide) (by decide) rfl rfl rfl hl.1 rfl (Nat.le_of_ble_eq_true rfl) dX6_leave_27 ⟨Nat.zero_le _, Nat.zero_le _⟩ (fun H locs hP hD hS => ?_)
          have hP : va_P D vwCl [(a_t, .inr (5, [.int t_length, .ref a_t_text, .int t_spot, .ref a_t_told, .ref a_t_read, .ref a_t_s, .ref a_t_before, .int t_undoMany, .int t_shortAs, .int t_isolatorAs, .int t_worstWire, .int t_worstLost])), (a_t_told, .inl (cI, 67, .inl t_told)), (a_t_s, .inl (cI, 87, .inl t_s))] H := hP
          have hD : va_D A [(a_t, .inr (5, [.int t_length, .ref a_t_text, .int t_spot, .ref a_t_told, .ref a_t_read, .ref a_t_s, .ref a_t_before, .int t_undoMany, .int t_shortAs, .int t_isolatorAs, .int t_worstWire, .int t_worstLost])), (a_t_told, .inl (cI, 67, .inl t_told)), (a_t_s, .inl (cI, 87, .inl t_s))] := hD
          refine lv_iconst (v := 2) hx hb dX6_leave_30 (by decide) ?_
          refine lv_iload_n hx hb dX6_leave_31 rfl (lv_at hl 2 rfl) ?_
          refine lv_imul hx hb dX6_leave_32 ?_
          refine lv_icmp_lt (tgt := 40) hx hb dX6_leave_33 (by decide) (fun cc => ?_) (fun cc => ?_)
          · have h := oi_t cc h
            refine lv_iconst (v := 0) hx hb dX6_leave_40 (by decide) ?_
            refine lv_istore_n (lv' := [(3, .int 0), (0, .ref a_t), (1, .int x0), (2, .int (t_told (66 : Int32).toNatClampNeg)), (4, .int v4)]) hx hb dX6_leave_41 rfl hl (by decide) rfl (fun ls hl => ?_)
            refine lv_iinc (v := (v4 + 1)) (lv' := [(4, .int (v4 + 1)), (3, .int 0), (0, .ref a_t), (1, .int x0), (2, .int (t_told (66 : Int32).toNatClampNeg))]) hx hb dX6_leave_42 hl (k := 4) rfl (by first | rfl | decide) (by decide) rfl (fun ls hl => ?_)
            refine lv_goto (tgt := 13) hx hb dX6_leave_45 (by decide) ?_
            exact ih 0 (v4 + 1) H locs ls hP hD hS (lv_sub hl [2, 3, 4, 1, 0] rfl) q13 h kk
          · have h := oi_f cc h
            refine lv_iconst (v := 1) hx hb dX6_leave_36 (by decide) ?_
            refine lv_goto (tgt := 41) hx hb dX6_leave_37 (by decide) ?_
            refine lv_istore_n (lv' := [(3, .int 1), (0, .ref a_t), (1, .int x0), (2, .int (t_told (66 : Int32).toNatClampNeg)), (4, .int v4)]) hx hb dX6_leave_41 rfl hl (by decide) rfl (fun ls hl => ?_)
            refine lv_iinc (v := (v4 + 1)) (lv' := [(4, .int (v4 + 1)), (3, .int 1), (0, .ref a_t), (1, .int x0), (2, .int (t_told (66 : Int32).toNatClampNeg))]) hx hb dX6_leave_42 hl (k := 4) rfl (by first | rfl | decide) (by decide) rfl (fun ls hl => ?_)
            refine lv_goto (tgt := 13) hx hb dX6_leave_45 (by decide) ?_
            exact ih 1 (v4 + 1) H locs ls hP hD hS (lv_sub hl [2, 3, 4, 1, 0] rfl) q13 h kk
  refine lp13 1000 0 0 H locs ls hP hD hS (lv_sub hl [3, 4, 2, 1, 0] rfl) q13 hq13 (fun H locs ls hP hD hS hl => ?_)
  refine lv_aload_n hx hb dX6_leave_48 rfl (lv_at hl 0 rfl) ?_
  refine lv_iload_n hx hb dX6_leave_49 rfl (lv_at hl 1 rfl) ?_
  obtain ⟨u50, hu50, h⟩ := ob h
  refine gV_i (C := RX6) (T := TX6) (N := 12) (ci := 5) (q0 := 0) (wc := [(a_t, .inr (5, [.int t_length, .ref a_t_text, .int t_spot, .ref a_t_told, .ref a_t_read, .ref a_t_s, .ref a_t_before, .int t_undoMany, .int t_shortAs, .int t_isolatorAs, .int t_worstWire, .int t_worstLost])), (a_t_told, .inl (cI, 67, .inl t_told)), (a_t_s, .inl (cI, 87, .inl t_s))]) (wr := []) (w1 := [(a_t, .inr (5, [.int t_length, .ref a_t_text, .int t_spot, .ref a_t_told, .ref a_t_read, .ref a_t_s, .ref a_t_before, .int t_undoMany, .int t_shortAs, .int t_isolatorAs, .int t_worstWire, .int t_worstLost])), (a_t_told, .inl (cI, 67, .inl t_told)), (a_t_s, .inl (cI, 87, .inl t_s))]) (v := u50) (As := [.int x0]) (rest := []) ⟨hx, hb, hml, hown, hts⟩ (c_X6_since l D cI cS a_t a_t_told a_t_s a_t_text a_t_read a_t_before H.size t_length t_spot t_undoMany t_shortAs t_isolatorAs t_worstWire t_worstLost t_told t_s x0 u50 hu50) (cwV 1 hts gX6_leave_X6_since rfl rfl rfl cd_X6_since ⟨Nat.le_of_ble_eq_true rfl, Nat.le_of_ble_eq_true rfl⟩) hK hN hP hD hS hA [0, 1, 2] [] rfl rfl (by decide) (by decide) (by decide) rfl rfl rfl hl.1 rfl (Nat.le_of_ble_eq_true rfl) dX6_leave_50 ⟨Nat.zero_le _, Nat.zero_le _⟩ (fun H locs hP hD hS => ?_)
  have hP : va_P D vwCl [(a_t, .inr (5, [.int t_length, .ref a_t_text, .int t_spot, .ref a_t_told, .ref a_t_read, .ref a_t_s, .ref a_t_before, .int t_undoMany, .int t_shortAs, .int t_isolatorAs, .int t_worstWire, .int t_worstLost])), (a_t_told, .inl (cI, 67, .inl t_told)), (a_t_s, .inl (cI, 87, .inl t_s))] H := hP
  have hD : va_D A [(a_t, .inr (5, [.int t_length, .ref a_t_text, .int t_spot, .ref a_t_told, .ref a_t_read, .ref a_t_s, .ref a_t_before, .int t_undoMany, .int t_shortAs, .int t_isolatorAs, .int t_worstWire, .int t_worstLost])), (a_t_told, .inl (cI, 67, .inl t_told)), (a_t_s, .inl (cI, 87, .inl t_s))] := hD
  refine lv_if_lt (tgt := 60) hx hb dX6_leave_53 (by decide) (fun cc => ?_) (fun cc => ?_)
  · have h := oi_t cc h
    refine lv_aload_n hx hb dX6_leave_60 rfl (lv_at hl 0 rfl) ?_
    refine lv_iload_n hx hb dX6_leave_61 rfl (lv_at hl 1 rfl) ?_
    refine lv_iconst (v := 1) hx hb dX6_leave_62 (by decide) ?_
    refine lv_isub hx hb dX6_leave_63 ?_
    obtain ⟨u64, hu64, h⟩ := ob h
    refine gV_i (C := RX6) (T := TX6) (N := 12) (ci := 5) (q0 := 0) (wc := [(a_t, .inr (5, [.int t_length, .ref a_t_text, .int t_spot, .ref a_t_told, .ref a_t_read, .ref a_t_s, .ref a_t_before, .int t_undoMany, .int t_shortAs, .int t_isolatorAs, .int t_worstWire, .int t_worstLost])), (a_t_told, .inl (cI, 67, .inl t_told)), (a_t_s, .inl (cI, 87, .inl t_s))]) (wr := []) (w1 := [(a_t, .inr (5, [.int t_length, .ref a_t_text, .int t_spot, .ref a_t_told, .ref a_t_read, .ref a_t_s, .ref a_t_before, .int t_undoMany, .int t_shortAs, .int t_isolatorAs, .int t_worstWire, .int t_worstLost])), (a_t_told, .inl (cI, 67, .inl t_told)), (a_t_s, .inl (cI, 87, .inl t_s))]) (v := u64) (As := [.int (x0 - 1)]) (rest := []) ⟨hx, hb, hml, hown, hts⟩ (c_X6_since l D cI cS a_t a_t_told a_t_s a_t_text a_t_read a_t_before H.size t_length t_spot t_undoMany t_shortAs t_isolatorAs t_worstWire t_worstLost t_told t_s (x0 - 1) u64 hu64) (cwV 1 hts gX6_leave_X6_since rfl rfl rfl cd_X6_since ⟨Nat.le_of_ble_eq_true rfl, Nat.le_of_ble_eq_true rfl⟩) hK hN hP hD hS hA [0, 1, 2] [] rfl rfl (by decide) (by decide) (by decide) rfl rfl rfl hl.1 rfl (Nat.le_of_ble_eq_true rfl) dX6_leave_64 ⟨Nat.zero_le _, Nat.zero_le _⟩ (fun H locs hP hD hS => ?_)
    have hP : va_P D vwCl [(a_t, .inr (5, [.int t_length, .ref a_t_text, .int t_spot, .ref a_t_told, .ref a_t_read, .ref a_t_s, .ref a_t_before, .int t_undoMany, .int t_shortAs, .int t_isolatorAs, .int t_worstWire, .int t_worstLost])), (a_t_told, .inl (cI, 67, .inl t_told)), (a_t_s, .inl (cI, 87, .inl t_s))] H := hP
    have hD : va_D A [(a_t, .inr (5, [.int t_length, .ref a_t_text, .int t_spot, .ref a_t_told, .ref a_t_read, .ref a_t_s, .ref a_t_before, .int t_undoMany, .int t_shortAs, .int t_isolatorAs, .int t_worstWire, .int t_worstLost])), (a_t_told, .inl (cI, 67, .inl t_told)), (a_t_s, .inl (cI, 87, .inl t_s))] := hD
    refine lv_iload_n hx hb dX6_leave_67 rfl (lv_at hl 2 rfl) ?_
    refine lv_icmp_ge (tgt := 82) hx hb dX6_leave_68 (by decide) (fun cc => ?_) (fun cc => ?_)
    · have h := oi_t cc h
      refine lv_iconst (v := 2) hx hb dX6_leave_82 (by decide) ?_
      refine lv_goto (tgt := 95) hx hb dX6_leave_83 (by decide) ?_
      obtain rfl := Option.some.inj h
      exact hQ 95 H locs ls rfl hP hD hS dX6_leave_95
    · have h := oi_f cc h
      refine lv_aload_n hx hb dX6_leave_71 rfl (lv_at hl 0 rfl) ?_
      refine lv_iload_n hx hb dX6_leave_72 rfl (lv_at hl 1 rfl) ?_
      refine lv_iconst (v := 1) hx hb dX6_leave_73 (by decide) ?_
      refine lv_iadd hx hb dX6_leave_74 ?_
      obtain ⟨u75, hu75, h⟩ := ob h
      refine gV_i (C := RX6) (T := TX6) (N := 12) (ci := 5) (q0 := 0) (wc := [(a_t, .inr (5, [.int t_length, .ref a_t_text, .int t_spot, .ref a_t_told, .ref a_t_read, .ref a_t_s, .ref a_t_before, .int t_undoMany, .int t_shortAs, .int t_isolatorAs, .int t_worstWire, .int t_worstLost])), (a_t_told, .inl (cI, 67, .inl t_told)), (a_t_s, .inl (cI, 87, .inl t_s))]) (wr := []) (w1 := [(a_t, .inr (5, [.int t_length, .ref a_t_text, .int t_spot, .ref a_t_told, .ref a_t_read, .ref a_t_s, .ref a_t_before, .int t_undoMany, .int t_shortAs, .int t_isolatorAs, .int t_worstWire, .int t_worstLost])), (a_t_told, .inl (cI, 67, .inl t_told)), (a_t_s, .inl (cI, 87, .inl t_s))]) (v := u75) (As := [.int (x0 + 1)]) (rest := []) ⟨hx, hb, hml, hown, hts⟩ (c_X6_since l D cI cS a_t a_t_told a_t_s a_t_text a_t_read a_t_before H.size t_length t_spot t_undoMany t_shortAs t_isolatorAs t_worstWire t_worstLost t_told t_s (x0 + 1) u75 hu75) (cwV 1 hts gX6_leave_X6_since rfl rfl rfl cd_X6_since ⟨Nat.le_of_ble_eq_true rfl, Nat.le_of_ble_eq_true rfl⟩) hK hN hP hD hS hA [0, 1, 2] [] rfl rfl (by decide) (by decide) (by decide) rfl rfl rfl hl.1 rfl (Nat.le_of_ble_eq_true rfl) dX6_leave_75 ⟨Nat.zero_le _, Nat.zero_le _⟩ (fun H locs hP hD hS => ?_)
      have hP : va_P D vwCl [(a_t, .inr (5, [.int t_length, .ref a_t_text, .int t_spot, .ref a_t_told, .ref a_t_read, .ref a_t_s, .ref a_t_before, .int t_undoMany, .int t_shortAs, .int t_isolatorAs, .int t_worstWire, .int t_worstLost])), (a_t_told, .inl (cI, 67, .inl t_told)), (a_t_s, .inl (cI, 87, .inl t_s))] H := hP
      have hD : va_D A [(a_t, .inr (5, [.int t_length, .ref a_t_text, .int t_spot, .ref a_t_told, .ref a_t_read, .ref a_t_s, .ref a_t_before, .int t_undoMany, .int t_shortAs, .int t_isolatorAs, .int t_worstWire, .int t_worstLost])), (a_t_told, .inl (cI, 67, .inl t_told)), (a_t_s, .inl (cI, 87, .inl t_s))] := hD
      refine lv_iload_n hx hb dX6_leave_78 rfl (lv_at hl 2 rfl) ?_
      refine lv_icmp_lt (tgt := 86) hx hb dX6_leave_79 (by decide) (fun cc => ?_) (fun cc => ?_)
      · have h := oi_t cc h
        refine lv_iload_n hx hb dX6_leave_86 rfl (lv_at hl 3 rfl) ?_
        refine lv_if_eq (tgt := 94) hx hb dX6_leave_87 (by decide) (fun cc => ?_) (fun cc => ?_)
        · have h := oi_t cc h
          refine lv_iconst (v := 0) hx hb dX6_leave_94 (by decide) ?_
          obtain rfl := Option.some.inj h
          exact hQ 95 H locs ls rfl hP hD hS dX6_leave_95
        · have h := oi_f cc h
          refine lv_iconst (v := 3) hx hb dX6_leave_90 (by decide) ?_
          refine lv_goto (tgt := 95) hx hb dX6_leave_91 (by decide) ?_
          obtain rfl := Option.some.inj h
          exact hQ 95 H locs ls rfl hP hD hS dX6_leave_95
      · have h := oi_f cc h
        refine lv_iconst (v := 2) hx hb dX6_leave_82 (by decide) ?_
        refine lv_goto (tgt := 95) hx hb dX6_leave_83 (by decide) ?_
        obtain rfl := Option.some.inj h
        exact hQ 95 H locs ls rfl hP hD hS dX6_leave_95
  · have h := oi_f cc h
    refine lv_iconst (v := 1) hx hb dX6_leave_56 (by decide) ?_
    refine lv_goto (tgt := 95) hx hb dX6_leave_57 (by decide) ?_
    obtain rfl := Option.some.inj h
    exact hQ 95 H locs ls rfl hP hD hS dX6_leave_95

def f_X6_inZone_5 (t_shortAs : Int32) (t_isolatorAs : Int32) (t_told : FN) (t_s : FN) (x0 : Int32) (x1 : Int32) : Nat → Int32 → Int32 → Option (Int32)
  | 0, _, _ => none
  | n + 1, v3, v4 => (if (t_told (60 : Int32).toNatClampNeg) ≤ v4 then some (v3) else (if gi ((3 * v4) + 1) 67 then (((if (t_told (((3 * v4) + 1)).toNatClampNeg) = x0 then some (1) else some (0))).bind (fun (u37 : Int32) => (if u37 = 0 then f_X6_inZone_5 t_shortAs t_isolatorAs t_told t_s x0 x1 n (v3 + 0) (v4 + 1) else (if x1 = 3 then f_X6_inZone_5 t_shortAs t_isolatorAs t_told t_s x0 x1 n (v3 + 1) (v4 + 1) else (if x1 = 4 then ((f_X6_isLost t_shortAs t_isolatorAs t_told t_s v4).bind (fun u58 => (if u58 = 0 then (if x1 = 5 then (if gi (36 + v4) 87 then (if (t_s ((36 + v4)).toNatClampNeg) = 1 then f_X6_inZone_5 t_shortAs t_isolatorAs t_told t_s x0 x1 n (v3 + 1) (v4 + 1) else f_X6_inZone_5 t_shortAs t_isolatorAs t_told t_s x0 x1 n (v3 + 0) (v4 + 1)) else none) else f_X6_inZone_5 t_shortAs t_isolatorAs t_told t_s x0 x1 n (v3 + 0) (v4 + 1)) else f_X6_inZone_5 t_shortAs t_isolatorAs t_told t_s x0 x1 n (v3 + 1) (v4 + 1)))) else (if x1 = 5 then (if gi (36 + v4) 87 then (if (t_s ((36 + v4)).toNatClampNeg) = 1 then f_X6_inZone_5 t_shortAs t_isolatorAs t_told t_s x0 x1 n (v3 + 1) (v4 + 1) else f_X6_inZone_5 t_shortAs t_isolatorAs t_told t_s x0 x1 n (v3 + 0) (v4 + 1)) else none) else f_X6_inZone_5 t_shortAs t_isolatorAs t_told t_s x0 x1 n (v3 + 0) (v4 + 1))))))) else none))
def f_X6_inZone (t_shortAs : Int32) (t_isolatorAs : Int32) (t_told : FN) (t_s : FN) (x0 : Int32) (x1 : Int32) : Option (Int32) := ((f_X6_inZone_5 t_shortAs t_isolatorAs t_told t_s x0 x1 1000 0 0).bind (fun (q5 : Int32) => some (q5)))
abbrev rm_X6_inZone : Room := { frames := 5, cells := 0, slots := 0, locals := 110 }
theorem cd_X6_inZone : (yX6_inZone).cls = RX6 ∧ (yX6_inZone).cls ≠ "java/lang/invoke/MethodHandle" ∧ (yX6_inZone).cls ≠ "java/lang/invoke/VarHandle" ∧ (parseMethodDescriptor (yX6_inZone).desc).map (fun d => d.parameters.length) = some 2 := by decide +kernel
set_option maxHeartbeats 4000000 in
set_option maxRecDepth 100000 in
theorem c_X6_inZone (l : Launch) (D : va_G) (cI cS : ClassId) (a_t a_t_told a_t_s a_t_text a_t_read a_t_before : Nat) (sz : Nat) (t_length : Int32) (t_spot : Int32) (t_undoMany : Int32) (t_shortAs : Int32) (t_isolatorAs : Int32) (t_worstWire : Int32) (t_worstLost : Int32) (t_told : FN) (t_s : FN) (x0 : Int32) (x1 : Int32) (out : Int32) (h : f_X6_inZone t_shortAs t_isolatorAs t_told t_s x0 x1 = some out) : Met l yX6_inZone wsX6_inZone rm_X6_inZone (va_Pc [.ref a_t, .int x0, .int x1] (GP D cI cS [(a_t, .inr (5, [.int t_length, .ref a_t_text, .int t_spot, .ref a_t_told, .ref a_t_read, .ref a_t_s, .ref a_t_before, .int t_undoMany, .int t_shortAs, .int t_isolatorAs, .int t_worstWire, .int t_worstLost])), (a_t_told, .inl (cI, 67, .inl t_told)), (a_t_s, .inl (cI, 87, .inl t_s))] sz)) (QI D [(a_t, .inr (5, [.int t_length, .ref a_t_text, .int t_spot, .ref a_t_told, .ref a_t_read, .ref a_t_s, .ref a_t_before, .int t_undoMany, .int t_shortAs, .int t_isolatorAs, .int t_worstWire, .int t_worstLost])), (a_t_told, .inl (cI, 67, .inl t_told)), (a_t_s, .inl (cI, 87, .inl t_s))] sz [(a_t, .inr (5, [.int t_length, .ref a_t_text, .int t_spot, .ref a_t_told, .ref a_t_read, .ref a_t_s, .ref a_t_before, .int t_undoMany, .int t_shortAs, .int t_isolatorAs, .int t_worstWire, .int t_worstLost])), (a_t_told, .inl (cI, 67, .inl t_told)), (a_t_s, .inl (cI, 87, .inl t_s))] out) 0 0 (va_A [(a_t, .inr (5, [.int t_length, .ref a_t_text, .int t_spot, .ref a_t_told, .ref a_t_read, .ref a_t_s, .ref a_t_before, .int t_undoMany, .int t_shortAs, .int t_isolatorAs, .int t_worstWire, .int t_worstLost])), (a_t_told, .inl (cI, 67, .inl t_told)), (a_t_s, .inl (cI, 87, .inl t_s))] sz) := by
  refine gm_i (cc := cX6_inZone) (maxL := 6) (rt := .int) (by decide) rfl (Nat.le_of_ble_eq_true rfl) ?_
  intro p e s m args below meth c A Q H locs ls hx hb hml hown hts hK hN hA hP hD hS hl hQ
  have hown : s.vm.findClass RX6 = some m.cls := hown
  have hl : lv_has ls 6 [(0, .ref a_t), (1, .int x0), (2, .int x1)] := hl
  have inX6 : ∀ w ∈ wsX60, w ∈ wsX6_inZone := by decide +kernel
  have k_0 := hts (.fieldLink RX6 13 "AlarmRingModel" "told" "[I") (by decide +kernel)
  have k_1 := hts (.fieldLink RX6 19 "AlarmRingModel" "s" "[I") (by decide +kernel)
  unfold f_X6_inZone at h
  refine lv_iconst (v := 0) hx hb dX6_inZone_0 (by decide) ?_
  refine lv_istore_n (lv' := [(3, .int 0), (0, .ref a_t), (1, .int x0), (2, .int x1)]) hx hb dX6_inZone_1 rfl hl (by decide) rfl (fun ls hl => ?_)
  refine lv_iconst (v := 0) hx hb dX6_inZone_2 (by decide) ?_
  refine lv_istore (lv' := [(4, .int 0), (3, .int 0), (0, .ref a_t), (1, .int x0), (2, .int x1)]) hx hb dX6_inZone_3 hl (by decide) rfl (fun ls hl => ?_)
  obtain ⟨q5, hq5, h⟩ := ob h
  have lp5 : ∀ (n : Nat) (v3 : Int32) (v4 : Int32) (H : Heap) (locs : List Loc) (ls : Array Slot), va_P D vwCl [(a_t, .inr (5, [.int t_length, .ref a_t_text, .int t_spot, .ref a_t_told, .ref a_t_read, .ref a_t_s, .ref a_t_before, .int t_undoMany, .int t_shortAs, .int t_isolatorAs, .int t_worstWire, .int t_worstLost])), (a_t_told, .inl (cI, 67, .inl t_told)), (a_t_s, .inl (cI, 87, .inl t_s))] H → va_D A [(a_t, .inr (5, [.int t_length, .ref a_t_text, .int t_spot, .ref a_t_told, .ref a_t_read, .ref a_t_s, .ref a_t_before, .int t_undoMany, .int t_shortAs, .int t_isolatorAs, .int t_worstWire, .int t_worstLost])), (a_t_told, .inl (cI, 67, .inl t_told)), (a_t_s, .inl (cI, 87, .inl t_s))] → va_S A s.heap H locs → lv_has ls 6 [(0, .ref a_t), (1, .int x0), (2, .int x1), (3, .int v3), (4, .int v4)] → ∀ (q5 : Int32), f_X6_inZone_5 t_shortAs t_isolatorAs t_told t_s x0 x1 n v3 v4 = some q5 → (∀ (H : Heap) (locs : List Loc) (ls : Array Slot), va_P D vwCl [(a_t, .inr (5, [.int t_length, .ref a_t_text, .int t_spot, .ref a_t_told, .ref a_t_read, .ref a_t_s, .ref a_t_before, .int t_undoMany, .int t_shortAs, .int t_isolatorAs, .int t_worstWire, .int t_worstLost])), (a_t_told, .inl (cI, 67, .inl t_told)), (a_t_s, .inl (cI, 87, .inl t_s))] H → va_D A [(a_t, .inr (5, [.int t_length, .ref a_t_text, .int t_spot, .ref a_t_told, .ref a_t_read, .ref a_t_s, .ref a_t_before, .int t_undoMany, .int t_shortAs, .int t_isolatorAs, .int t_worstWire, .int t_worstLost])), (a_t_told, .inl (cI, 67, .inl t_told)), (a_t_s, .inl (cI, 87, .inl t_s))] → va_S A s.heap H locs → lv_has ls 6 [(3, .int q5)] → W p l e rm_X6_inZone s m args below meth c H locs 0 0 Q (F0 m 96 ls [])) → W p l e rm_X6_inZone s m args below meth c H locs 0 0 Q (F0 m 5 ls []) := by
    intro n
    induction n with
    | zero => intro v3 v4 H locs ls hP hD hS hl q5 h kk; exact on_ h
    | succ n ih =>
      intro v3 v4 H locs ls hP hD hS hl q5 h kk
      rw [f_X6_inZone_5] at h
      refine lv_iload hx hb dX6_inZone_5 (lv_at hl 4 rfl) ?_
      refine lv_aload_n hx hb dX6_inZone_7 rfl (lv_at hl 0 rfl) ?_
      refine va_get (D := D) (ci := 5) (v := .ref a_t_told) (C := RX6) (T := TX6) (N := 12) hx hb hts inX6 hown hK hP 0 rfl rfl 3 (by decide) k_0 (fun _ h9 => h9) rfl dX6_inZone_8 ?_
      refine lv_bipush (v := 60) hx hb dX6_inZone_11 (by decide) ?_
      refine va_iald hx hb hK hP 1 0 rfl rfl (i := 60) (show gi 60 67 by decide) dX6_inZone_13 ?_
      refine lv_icmp_ge (tgt := 96) hx hb dX6_inZone_14 (by decide) (fun cc => ?_) (fun cc => ?_)
      · have h := oi_t cc h
        obtain rfl := Option.some.inj h
        exact kk H locs ls hP hD hS (lv_sub hl [3] rfl)
      · have h := oi_f cc h
        refine lv_aload_n hx hb dX6_inZone_17 rfl (lv_at hl 0 rfl) ?_
        refine va_get (D := D) (ci := 5) (v := .ref a_t_told) (C := RX6) (T := TX6) (N := 12) hx hb hts inX6 hown hK hP 0 rfl rfl 3 (by decide) k_0 (fun _ h9 => h9) rfl dX6_inZone_18 ?_
        refine lv_iconst (v := 3) hx hb dX6_inZone_21 (by decide) ?_
        refine lv_iload hx hb dX6_inZone_22 (lv_at hl 4 rfl) ?_
        refine lv_imul hx hb dX6_inZone_24 ?_
        refine lv_iconst (v := 1) hx hb dX6_inZone_25 (by decide) ?_
        refine lv_iadd hx hb dX6_inZone_26 ?_
        obtain ⟨gg, h⟩ := og h
        refine va_iald hx hb hK hP 1 0 rfl rfl gg dX6_inZone_27 ?_
        refine lv_iload_n hx hb dX6_inZone_28 rfl (lv_at hl 1 rfl) ?_
        obtain ⟨u37, hj37, h⟩ := ob h
        have jn37 : ∀ (H : Heap) (locs : List Loc) (ls : Array Slot), va_P D vwCl [(a_t, .inr (5, [.int t_length, .ref a_t_text, .int t_spot, .ref a_t_told, .ref a_t_read, .ref a_t_s, .ref a_t_before, .int t_undoMany, .int t_shortAs, .int t_isolatorAs, .int t_worstWire, .int t_worstLost])), (a_t_told, .inl (cI, 67, .inl t_told)), (a_t_s, .inl (cI, 87, .inl t_s))] H → va_D A [(a_t, .inr (5, [.int t_length, .ref a_t_text, .int t_spot, .ref a_t_told, .ref a_t_read, .ref a_t_s, .ref a_t_before, .int t_undoMany, .int t_shortAs, .int t_isolatorAs, .int t_worstWire, .int t_worstLost])), (a_t_told, .inl (cI, 67, .inl t_told)), (a_t_s, .inl (cI, 87, .inl t_s))] → va_S A s.heap H locs → lv_has ls 6 [(0, .ref a_t), (1, .int x0), (2, .int x1), (3, .int v3), (4, .int v4)] → W p l e rm_X6_inZone s m args below meth c H locs 0 0 Q (F0 m 37 ls [.int u37]) := by
          intro H locs ls hP hD hS hl
          refine lv_istore (lv' := [(5, .int u37), (0, .ref a_t), (1, .int x0), (2, .int x1), (3, .int v3), (4, .int v4)]) hx hb dX6_inZone_37 hl (by decide) rfl (fun ls hl => ?_)
          refine lv_iload_n hx hb dX6_inZone_39 rfl (lv_at hl 4 rfl) ?_
          refine lv_iload hx hb dX6_inZone_40 (lv_at hl 0 rfl) ?_
          refine lv_if_eq (tgt := 87) hx hb dX6_inZone_42 (by decide) (fun cc => ?_) (fun cc => ?_)
          · have h := oi_t cc h
            refine lv_iconst (v := 0) hx hb dX6_inZone_87 (by decide) ?_
            refine lv_iadd hx hb dX6_inZone_88 ?_
            refine lv_istore_n (lv' := [(3, .int (v3 + 0)), (5, .int u37), (0, .ref a_t), (1, .int x0), (2, .int x1), (4, .int v4)]) hx hb dX6_inZone_89 rfl hl (by decide) rfl (fun ls hl => ?_)
            refine lv_iinc (v := (v4 + 1)) (lv' := [(4, .int (v4 + 1)), (3, .int (v3 + 0)), (5, .int u37), (0, .ref a_t), (1, .int x0), (2, .int x1)]) hx hb dX6_inZone_90 hl (k := 5) rfl (by first | rfl | decide) (by decide) rfl (fun ls hl => ?_)
            refine lv_goto (tgt := 5) hx hb dX6_inZone_93 (by decide) ?_
            exact ih (v3 + 0) (v4 + 1) H locs ls hP hD hS (lv_sub hl [3, 4, 5, 1, 0] rfl) q5 h kk
          · have h := oi_f cc h
            refine lv_iload_n hx hb dX6_inZone_45 rfl (lv_at hl 3 rfl) ?_
            refine lv_iconst (v := 3) hx hb dX6_inZone_46 (by decide) ?_
            refine lv_icmp_eq (tgt := 83) hx hb dX6_inZone_47 (by decide) (fun cc => ?_) (fun cc => ?_)
            · have h := oi_t cc h
              refine lv_iconst (v := 1) hx hb dX6_inZone_83 (by decide) ?_
              refine lv_goto (tgt := 88) hx hb dX6_inZone_84 (by decide) ?_
              refine lv_iadd hx hb dX6_inZone_88 ?_
              refine lv_istore_n (lv' := [(3, .int (v3 + 1)), (5, .int u37), (0, .ref a_t), (1, .int x0), (2, .int x1), (4, .int v4)]) hx hb dX6_inZone_89 rfl hl (by decide) rfl (fun ls hl => ?_)
              refine lv_iinc (v := (v4 + 1)) (lv' := [(4, .int (v4 + 1)), (3, .int (v3 + 1)), (5, .int u37), (0, .ref a_t), (1, .int x0), (2, .int x1)]) hx hb dX6_inZone_90 hl (k := 5) rfl (by first | rfl | decide) (by decide) rfl (fun ls hl => ?_)
              refine lv_goto (tgt := 5) hx hb dX6_inZone_93 (by decide) ?_
              exact ih (v3 + 1) (v4 + 1) H locs ls hP hD hS (lv_sub hl [3, 4, 5, 1, 0] rfl) q5 h kk
            · have h := oi_f cc h
              refine lv_iload_n hx hb dX6_inZone_50 rfl (lv_at hl 3 rfl) ?_
              refine lv_iconst (v := 4) hx hb dX6_inZone_51 (by decide) ?_
              refine lv_icmp_ne (tgt := 64) hx hb dX6_inZone_52 (by decide) (fun cc => ?_) (fun cc => ?_)
              · have h := oi_f cc h
                refine lv_iload_n hx hb dX6_inZone_64 rfl (lv_at hl 3 rfl) ?_
                refine lv_iconst (v := 5) hx hb dX6_inZone_65 (by decide) ?_
                refine lv_icmp_ne (tgt := 87) hx hb dX6_inZone_66 (by decide) (fun cc => ?_) (fun cc => ?_)
                · have h := oi_f cc h
                  refine lv_iconst (v := 0) hx hb dX6_inZone_87 (by decide) ?_
                  refine lv_iadd hx hb dX6_inZone_88 ?_
                  refine lv_istore_n (lv' := [(3, .int (v3 + 0)), (5, .int u37), (0, .ref a_t), (1, .int x0), (2, .int x1), (4, .int v4)]) hx hb dX6_inZone_89 rfl hl (by decide) rfl (fun ls hl => ?_)
                  refine lv_iinc (v := (v4 + 1)) (lv' := [(4, .int (v4 + 1)), (3, .int (v3 + 0)), (5, .int u37), (0, .ref a_t), (1, .int x0), (2, .int x1)]) hx hb dX6_inZone_90 hl (k := 5) rfl (by first | rfl | decide) (by decide) rfl (fun ls hl => ?_)
                  refine lv_goto (tgt := 5) hx hb dX6_inZone_93 (by decide) ?_
                  exact ih (v3 + 0) (v4 + 1) H locs ls hP hD hS (lv_sub hl [3, 4, 5, 1, 0] rfl) q5 h kk
                · have h := oi_t cc h
                  refine lv_aload_n hx hb dX6_inZone_69 rfl (lv_at hl 1 rfl) ?_
                  refine va_get (D := D) (ci := 5) (v := .ref a_t_s) (C := RX6) (T := TX6) (N := 12) hx hb hts inX6 hown hK hP 0 rfl rfl 5 (by decide) k_1 (fun _ h9 => h9) rfl dX6_inZone_70 ?_
                  refine lv_bipush (v := 36) hx hb dX6_inZone_73 (by decide) ?_
                  refine lv_iload hx hb dX6_inZone_75 (lv_at hl 5 rfl) ?_
                  refine lv_iadd hx hb dX6_inZone_77 ?_
                  obtain ⟨gg, h⟩ := og h
                  refine va_iald hx hb hK hP 2 0 rfl rfl gg dX6_inZone_78 ?_
                  refine lv_iconst (v := 1) hx hb dX6_inZone_79 (by decide) ?_
                  refine lv_icmp_ne (tgt := 87) hx hb dX6_inZone_80 (by decide) (fun cc => ?_) (fun cc => ?_)
                  · have h := oi_f cc h
                    refine lv_iconst (v := 0) hx hb dX6_inZone_87 (by decide) ?_
                    refine lv_iadd hx hb dX6_inZone_88 ?_
                    refine lv_istore_n (lv' := [(3, .int (v3 + 0)), (5, .int u37), (0, .ref a_t), (1, .int x0), (2, .int x1), (4, .int v4)]) hx hb dX6_inZone_89 rfl hl (by decide) rfl (fun ls hl => ?_)
                    refine lv_iinc (v := (v4 + 1)) (lv' := [(4, .int (v4 + 1)), (3, .int (v3 + 0)), (5, .int u37), (0, .ref a_t), (1, .int x0), (2, .int x1)]) hx hb dX6_inZone_90 hl (k := 5) rfl (by first | rfl | decide) (by decide) rfl (fun ls hl => ?_)
                    refine lv_goto (tgt := 5) hx hb dX6_inZone_93 (by decide) ?_
                    exact ih (v3 + 0) (v4 + 1) H locs ls hP hD hS (lv_sub hl [3, 4, 5, 1, 0] rfl) q5 h kk
                  · have h := oi_t cc h
                    refine lv_iconst (v := 1) hx hb dX6_inZone_83 (by decide) ?_
                    refine lv_goto (tgt := 88) hx hb dX6_inZone_84 (by decide) ?_
                    refine lv_iadd hx hb dX6_inZone_88 ?_
                    refine lv_istore_n (lv' := [(3, .int (v3 + 1)), (5, .int u37), (0, .ref a_t), (1, .int x0), (2, .int x1), (4, .int v4)]) hx hb dX6_inZone_89 rfl hl (by decide) rfl (fun ls hl => ?_)
                    refine lv_iinc (v := (v4 + 1)) (lv' := [(4, .int (v4 + 1)), (3, .int (v3 + 1)), (5, .int u37), (0, .ref a_t), (1, .int x0), (2, .int x1)]) hx hb dX6_inZone_90 hl (k := 5) rfl (by first | rfl | decide) (by decide) rfl (fun ls hl => ?_)
                    refine lv_goto (tgt := 5) hx hb dX6_inZone_93 (by decide) ?_
                    exact ih (v3 + 1) (v4 + 1) H locs ls hP hD hS (lv_sub hl [3, 4, 5, 1, 0] rfl) q5 h kk
              · have h := oi_t cc h
                refine lv_aload_n hx hb dX6_inZone_55 rfl (lv_at hl 1 rfl) ?_
                refine lv_iload hx hb dX6_inZone_56 (lv_at hl 5 rfl) ?_
                obtain ⟨u58, hu58, h⟩ := ob h
                refine gV_i (C := RX6) (T := TX6) (N := 12) (ci := 5) (q0 := 0) (wc := [(a_t, .inr (5, [.int t_length, .ref a_t_text, .int t_spot, .ref a_t_told, .ref a_t_read, .ref a_t_s, .ref a_t_before, .int t_undoMany, .int t_shortAs, .int t_isolatorAs, .int t_worstWire, .int t_worstLost])), (a_t_told, .inl (cI, 67, .inl t_told)), (a_t_s, .inl (cI, 87, .inl t_s))]) (wr := []) (w1 := [(a_t, .inr (5, [.int t_length, .ref a_t_text, .int t_spot, .ref a_t_told, .ref a_t_read, .ref a_t_s, .ref a_t_before, .int t_undoMany, .int t_shortAs, .int t_isolatorAs, .int t_worstWire, .int t_worstLost])), (a_t_told, .inl (cI, 67, .inl t_told)), (a_t_s, .inl (cI, 87, .inl t_s))]) (v := u58) (As := [.int v4]) (rest := [.int v3]) ⟨hx, hb, hml, hown, hts⟩ (c_X6_isLost l D cI cS a_t a_t_told a_t_s a_t_text a_t_read a_t_before H.size t_length t_spot t_undoMany t_shortAs t_isolatorAs t_worstWire t_worstLost t_told t_s v4 u58 hu58) (cwV 1 hts gX6_inZone_X6_isLost rfl rfl rfl cd_X6_isLost ⟨Nat.le_of_ble_eq_true rfl, Nat.le_of_ble_eq_true rfl⟩) hK hN hP hD hS hA [0, 1, 2] [] rfl rfl (by decide) (by decide) (by decide) rfl rfl rfl hl.1 rfl (Nat.le_of_ble_eq_true rfl) dX6_inZone_58 ⟨Nat.zero_le _, Nat.zero_le _⟩ (fun H locs hP hD hS => ?_)
                have hP : va_P D vwCl [(a_t, .inr (5, [.int t_length, .ref a_t_text, .int t_spot, .ref a_t_told, .ref a_t_read, .ref a_t_s, .ref a_t_before, .int t_undoMany, .int t_shortAs, .int t_isolatorAs, .int t_worstWire, .int t_worstLost])), (a_t_told, .inl (cI, 67, .inl t_told)), (a_t_s, .inl (cI, 87, .inl t_s))] H := hP
                have hD : va_D A [(a_t, .inr (5, [.int t_length, .ref a_t_text, .int t_spot, .ref a_t_told, .ref a_t_read, .ref a_t_s, .ref a_t_before, .int t_undoMany, .int t_shortAs, .int t_isolatorAs, .int t_worstWire, .int t_worstLost])), (a_t_told, .inl (cI, 67, .inl t_told)), (a_t_s, .inl (cI, 87, .inl t_s))] := hD
                refine lv_if_ne (tgt := 83) hx hb dX6_inZone_61 (by decide) (fun cc => ?_) (fun cc => ?_)
                · have h := oi_f cc h
                  refine lv_iconst (v := 1) hx hb dX6_inZone_83 (by decide) ?_
                  refine lv_goto (tgt := 88) hx hb dX6_inZone_84 (by decide) ?_
                  refine lv_iadd hx hb dX6_inZone_88 ?_
                  refine lv_istore_n (lv' := [(3, .int (v3 + 1)), (5, .int u37), (0, .ref a_t), (1, .int x0), (2, .int x1), (4, .int v4)]) hx hb dX6_inZone_89 rfl hl (by decide) rfl (fun ls hl => ?_)
                  refine lv_iinc (v := (v4 + 1)) (lv' := [(4, .int (v4 + 1)), (3, .int (v3 + 1)), (5, .int u37), (0, .ref a_t), (1, .int x0), (2, .int x1)]) hx hb dX6_inZone_90 hl (k := 5) rfl (by first | rfl | decide) (by decide) rfl (fun ls hl => ?_)
                  refine lv_goto (tgt := 5) hx hb dX6_inZone_93 (by decide) ?_
                  exact ih (v3 + 1) (v4 + 1) H locs ls hP hD hS (lv_sub hl [3, 4, 5, 1, 0] rfl) q5 h kk
                · have h := oi_t cc h
                  refine lv_iload_n hx hb dX6_inZone_64 rfl (lv_at hl 3 rfl) ?_
                  refine lv_iconst (v := 5) hx hb dX6_inZone_65 (by decide) ?_
                  refine lv_icmp_ne (tgt := 87) hx hb dX6_inZone_66 (by decide) (fun cc => ?_) (fun cc => ?_)
                  · have h := oi_f cc h
                    refine lv_iconst (v := 0) hx hb dX6_inZone_87 (by decide) ?_
                    refine lv_iadd hx hb dX6_inZone_88 ?_
                    refine lv_istore_n (lv' := [(3, .int (v3 + 0)), (5, .int u37), (0, .ref a_t), (1, .int x0), (2, .int x1), (4, .int v4)]) hx hb dX6_inZone_89 rfl hl (by decide) rfl (fun ls hl => ?_)
                    refine lv_iinc (v := (v4 + 1)) (lv' := [(4, .int (v4 + 1)), (3, .int (v3 + 0)), (5, .int u37), (0, .ref a_t), (1, .int x0), (2, .int x1)]) hx hb dX6_inZone_90 hl (k := 5) rfl (by first | rfl | decide) (by decide) rfl (fun ls hl => ?_)
                    refine lv_goto (tgt := 5) hx hb dX6_inZone_93 (by decide) ?_
                    exact ih (v3 + 0) (v4 + 1) H locs ls hP hD hS (lv_sub hl [3, 4, 5, 1, 0] rfl) q5 h kk
                  · have h := oi_t cc h
                    refine lv_aload_n hx hb dX6_inZone_69 rfl (lv_at hl 1 rfl) ?_
                    refine va_get (D := D) (ci := 5) (v := .ref a_t_s) (C := RX6) (T := TX6) (N := 12) hx hb hts inX6 hown hK hP 0 rfl rfl 5 (by decide) k_1 (fun _ h9 => h9) rfl dX6_inZone_70 ?_
                    refine lv_bipush (v := 36) hx hb dX6_inZone_73 (by decide) ?_
                    refine lv_iload hx hb dX6_inZone_75 (lv_at hl 5 rfl) ?_
                    refine lv_iadd hx hb dX6_inZone_77 ?_
                    obtain ⟨gg, h⟩ := og h
                    refine va_iald hx hb hK hP 2 0 rfl rfl gg dX6_inZone_78 ?_
                    refine lv_iconst (v := 1) hx hb dX6_inZone_79 (by decide) ?_
                    refine lv_icmp_ne (tgt := 87) hx hb dX6_inZone_80 (by decide) (fun cc => ?_) (fun cc => ?_)
                    · have h := oi_f cc h
                      refine lv_iconst (v := 0) hx hb dX6_inZone_87 (by decide) ?_
                      refine lv_iadd hx hb dX6_inZone_88 ?_
                      refine lv_istore_n (lv' := [(3, .int (v3 + 0)), (5, .int u37), (0, .ref a_t), (1, .int x0), (2, .int x1), (4, .int v4)]) hx hb dX6_inZone_89 rfl hl (by decide) rfl (fun ls hl => ?_)
                      refine lv_iinc (v := (v4 + 1)) (lv' := [(4, .int (v4 + 1)), (3, .int (v3 + 0)), (5, .int u37), (0, .ref a_t), (1, .int x0), (2, .int x1)]) hx hb dX6_inZone_90 hl (k := 5) rfl (by first | rfl | decide) (by decide) rfl (fun ls hl => ?_)
                      refine lv_goto (tgt := 5) hx hb dX6_inZone_93 (by decide) ?_
                      exact ih (v3 + 0) (v4 + 1) H locs ls hP hD hS (lv_sub hl [3, 4, 5, 1, 0] rfl) q5 h kk
                    · have h := oi_t cc h
                      refine lv_iconst (v := 1) hx hb dX6_inZone_83 (by decide) ?_
                      refine lv_goto (tgt := 88) hx hb dX6_inZone_84 (by decide) ?_
                      refine lv_iadd hx hb dX6_inZone_88 ?_
                      refine lv_istore_n (lv' := [(3, .int (v3 + 1)), (5, .int u37), (0, .ref a_t), (1, .int x0), (2, .int x1), (4, .int v4)]) hx hb dX6_inZone_89 rfl hl (by decide) rfl (fun ls hl => ?_)
                      refine lv_iinc (v := (v4 + 1)) (lv' := [(4, .int (v4 + 1)), (3, .int (v3 + 1)), (5, .int u37), (0, .ref a_t), (1, .int x0), (2, .int x1)]) hx hb dX6_inZone_90 hl (k := 5) rfl (by first | rfl | decide) (by decide) rfl (fun ls hl => ?_)
                      refine lv_goto (tgt := 5) hx hb dX6_inZone_93 (by decide) ?_
                      exact ih (v3 + 1) (v4 + 1) H locs ls hP hD hS (lv_sub hl [3, 4, 5, 1, 0] rfl) q5 h kk
        have h := hj37
        refine lv_icmp_ne (tgt := 36) hx hb dX6_inZone_29 (by decide) (fun cc => ?_) (fun cc => ?_)
        · have h := oi_f cc h
          refine lv_iconst (v := 0) hx hb dX6_inZone_36 (by decide) ?_
          obtain rfl := Option.some.inj h
          exact jn37 H locs ls hP hD hS (lv_sub hl [0, 1, 2, 3, 4] rfl)
        · have h := oi_t cc h
          refine lv_iconst (v := 1) hx hb dX6_inZone_32 (by decide) ?_
          refine lv_goto (tgt := 37) hx hb dX6_inZone_33 (by decide) ?_
          obtain rfl := Option.some.inj h
          exact jn37 H locs ls hP hD hS (lv_sub hl [0, 1, 2, 3, 4] rfl)
  refine lp5 1000 0 0 H locs ls hP hD hS (lv_sub hl [2, 3, 4, 1, 0] rfl) q5 hq5 (fun H locs ls hP hD hS hl => ?_)
  refine lv_iload_n hx hb dX6_inZone_96 rfl (lv_at hl 0 rfl) ?_
  obtain rfl := Option.some.inj h
  exact hQ 97 H locs ls rfl hP hD hS dX6_inZone_97

def f_X6_zone (t_shortAs : Int32) (t_isolatorAs : Int32) (t_told : FN) (t_s : FN) (x0 : Int32) (x1 : Int32) : Option (Int32) := ((f_X6_in (x0).toInt64 0 5).bind (fun u6 => (if u6 = 0 then some ((-1)) else ((f_X6_in (x1).toInt64 0 5).bind (fun u18 => (if u18 = 0 then some ((-1)) else (if x1 = 0 then ((f_X6_isZone t_told t_s x0).bind (fun u54 => (if u54 = 0 then some (0) else some (1)))) else (if x1 = 1 then ((f_X6_isZone t_told t_s x0).bind (fun u68 => (if u68 = 0 then some ((-4)) else ((f_X6_since t_told t_s x0).bind (fun u76 => some (u76)))))) else (if x1 = 2 then ((f_X6_leave t_told t_s x0).bind (fun u87 => some (u87))) else ((f_X6_inZone t_shortAs t_isolatorAs t_told t_s x0 x1).bind (fun u94 => some (u94))))))))))))
abbrev rm_X6_zone : Room := { frames := 6, cells := 0, slots := 0, locals := 135 }
theorem cd_X6_zone : (yX6_zone).cls = RX6 ∧ (yX6_zone).cls ≠ "java/lang/invoke/MethodHandle" ∧ (yX6_zone).cls ≠ "java/lang/invoke/VarHandle" ∧ (parseMethodDescriptor (yX6_zone).desc).map (fun d => d.parameters.length) = some 2 := by decide +kernel
set_option maxHeartbeats 4000000 in
set_option maxRecDepth 100000 in
theorem c_X6_zone (l : Launch) (D : va_G) (cI cS : ClassId) (a_t a_t_told a_t_s a_t_text a_t_read a_t_before : Nat) (sz : Nat) (t_length : Int32) (t_spot : Int32) (t_undoMany : Int32) (t_shortAs : Int32) (t_isolatorAs : Int32) (t_worstWire : Int32) (t_worstLost : Int32) (t_told : FN) (t_s : FN) (x0 : Int32) (x1 : Int32) (out : Int32) (h : f_X6_zone t_shortAs t_isolatorAs t_told t_s x0 x1 = some out) : Met l yX6_zone wsX6_zone rm_X6_zone (va_Pc [.ref a_t, .int x0, .int x1] (GP D cI cS [(a_t, .inr (5, [.int t_length, .ref a_t_text, .int t_spot, .ref a_t_told, .ref a_t_read, .ref a_t_s, .ref a_t_before, .int t_undoMany, .int t_shortAs, .int t_isolatorAs, .int t_worstWire, .int t_worstLost])), (a_t_told, .inl (cI, 67, .inl t_told)), (a_t_s, .inl (cI, 87, .inl t_s))] sz)) (QI D [(a_t, .inr (5, [.int t_length, .ref a_t_text, .int t_spot, .ref a_t_told, .ref a_t_read, .ref a_t_s, .ref a_t_before, .int t_undoMany, .int t_shortAs, .int t_isolatorAs, .int t_worstWire, .int t_worstLost])), (a_t_told, .inl (cI, 67, .inl t_told)), (a_t_s, .inl (cI, 87, .inl t_s))] sz [(a_t, .inr (5, [.int t_length, .ref a_t_text, .int t_spot, .ref a_t_told, .ref a_t_read, .ref a_t_s, .ref a_t_before, .int t_undoMany, .int t_shortAs, .int t_isolatorAs, .int t_worstWire, .int t_worstLost])), (a_t_told, .inl (cI, 67, .inl t_told)), (a_t_s, .inl (cI, 87, .inl t_s))] out) 0 0 (va_A [(a_t, .inr (5, [.int t_length, .ref a_t_text, .int t_spot, .ref a_t_told, .ref a_t_read, .ref a_t_s, .ref a_t_before, .int t_undoMany, .int t_shortAs, .int t_isolatorAs, .int t_worstWire, .int t_worstLost])), (a_t_told, .inl (cI, 67, .inl t_told)), (a_t_s, .inl (cI, 87, .inl t_s))] sz) := by
  refine gm_i (cc := cX6_zone) (maxL := 3) (rt := .int) (by decide) rfl (Nat.le_of_ble_eq_true rfl) ?_
  intro p e s m args below meth c A Q H locs ls hx hb hml hown hts hK hN hA hP hD hS hl hQ
  have hown : s.vm.findClass RX6 = some m.cls := hown
  have hl : lv_has ls 3 [(0, .ref a_t), (1, .int x0), (2, .int x1)] := hl
  have k_0 := hts (.constantLong RX6 165 (5)) (by decide +kernel)
  unfold f_X6_zone at h
  refine lv_iload_n hx hb dX6_zone_0 rfl (lv_at hl 1 rfl) ?_
  refine lv_i2l (v := (x0).toInt64) hx hb dX6_zone_1 rfl ?_
  refine lv_lconst (v := 0) hx hb dX6_zone_2 (by decide) ?_
  refine lv_ldc2 (v := 5) hx hb hown k_0 dX6_zone_3 ?_
  obtain ⟨u6, hu6, h⟩ := ob h
  refine gS_i (wc := []) (wr := [(a_t, .inr (5, [.int t_length, .ref a_t_text, .int t_spot, .ref a_t_told, .ref a_t_read, .ref a_t_s, .ref a_t_before, .int t_undoMany, .int t_shortAs, .int t_isolatorAs, .int t_worstWire, .int t_worstLost])), (a_t_told, .inl (cI, 67, .inl t_told)), (a_t_s, .inl (cI, 87, .inl t_s))]) (w1 := []) (v := u6) (As := [.long (x0).toInt64, .long 0, .long 5]) (rest := []) ⟨hx, hb, hml, hown, hts⟩ (c_X6_in l D cI cS  H.size (x0).toInt64 0 5 u6 hu6) (va_cwS 3 hts gX6_zone_X6_in rfl rfl rfl cd_X6_in ⟨Nat.le_of_ble_eq_true rfl, Nat.le_of_ble_eq_true rfl⟩) hK hN hP hD hS hA [] [0, 1, 2] rfl rfl (by decide) (by decide) (by decide) rfl hl.1 rfl (Nat.le_of_ble_eq_true rfl) dX6_zone_6 ⟨Nat.zero_le _, Nat.zero_le _⟩ (fun H locs hP hD hS => ?_)
  have hP : va_P D vwCl [(a_t, .inr (5, [.int t_length, .ref a_t_text, .int t_spot, .ref a_t_told, .ref a_t_read, .ref a_t_s, .ref a_t_before, .int t_undoMany, .int t_shortAs, .int t_isolatorAs, .int t_worstWire, .int t_worstLost])), (a_t_told, .inl (cI, 67, .inl t_told)), (a_t_s, .inl (cI, 87, .inl t_s))] H := hP
  have hD : va_D A [(a_t, .inr (5, [.int t_length, .ref a_t_text, .int t_spot, .ref a_t_told, .ref a_t_read, .ref a_t_s, .ref a_t_before, .int t_undoMany, .int t_shortAs, .int t_isolatorAs, .int t_worstWire, .int t_worstLost])), (a_t_told, .inl (cI, 67, .inl t_told)), (a_t_s, .inl (cI, 87, .inl t_s))] := hD
  refine lv_if_eq (tgt := 24) hx hb dX6_zone_9 (by decide) (fun cc => ?_) (fun cc => ?_)
  · have h := oi_t cc h
    refine lv_iconst (v := (-1)) hx hb dX6_zone_24 (by decide) ?_
    obtain rfl := Option.some.inj h
    exact hQ 25 H locs ls rfl hP hD hS dX6_zone_25
  · have h := oi_f cc h
    refine lv_iload_n hx hb dX6_zone_12 rfl (lv_at hl 2 rfl) ?_
    refine lv_i2l (v := (x1).toInt64) hx hb dX6_zone_13 rfl ?_
    refine lv_lconst (v := 0) hx hb dX6_zone_14 (by decide) ?_
    refine lv_ldc2 (v := 5) hx hb hown k_0 dX6_zone_15 ?_
    obtain ⟨u18, hu18, h⟩ := ob h
    refine gS_i (wc := []) (wr := [(a_t, .inr (5, [.int t_length, .ref a_t_text, .int t_spot, .ref a_t_told, .ref a_t_read, .ref a_t_s, .ref a_t_before, .int t_undoMany, .int t_shortAs, .int t_isolatorAs, .int t_worstWire, .int t_worstLost])), (a_t_told, .inl (cI, 67, .inl t_told)), (a_t_s, .inl (cI, 87, .inl t_s))]) (w1 := []) (v := u18) (As := [.long (x1).toInt64, .long 0, .long 5]) (rest := []) ⟨hx, hb, hml, hown, hts⟩ (c_X6_in l D cI cS  H.size (x1).toInt64 0 5 u18 hu18) (va_cwS 3 hts gX6_zone_X6_in rfl rfl rfl cd_X6_in ⟨Nat.le_of_ble_eq_true rfl, Nat.le_of_ble_eq_true rfl⟩) hK hN hP hD hS hA [] [0, 1, 2] rfl rfl (by decide) (by decide) (by decide) rfl hl.1 rfl (Nat.le_of_ble_eq_true rfl) dX6_zone_18 ⟨Nat.zero_le _, Nat.zero_le _⟩ (fun H locs hP hD hS => ?_)
    have hP : va_P D vwCl [(a_t, .inr (5, [.int t_length, .ref a_t_text, .int t_spot, .ref a_t_told, .ref a_t_read, .ref a_t_s, .ref a_t_before, .int t_undoMany, .int t_shortAs, .int t_isolatorAs, .int t_worstWire, .int t_worstLost])), (a_t_told, .inl (cI, 67, .inl t_told)), (a_t_s, .inl (cI, 87, .inl t_s))] H := hP
    have hD : va_D A [(a_t, .inr (5, [.int t_length, .ref a_t_text, .int t_spot, .ref a_t_told, .ref a_t_read, .ref a_t_s, .ref a_t_before, .int t_undoMany, .int t_shortAs, .int t_isolatorAs, .int t_worstWire, .int t_worstLost])), (a_t_told, .inl (cI, 67, .inl t_told)), (a_t_s, .inl (cI, 87, .inl t_s))] := hD
    refine lv_if_ne (tgt := 26) hx hb dX6_zone_21 (by decide) (fun cc => ?_) (fun cc => ?_)
    · have h := oi_f cc h
      refine lv_iload_n hx hb dX6_zone_26 rfl (lv_at hl 2 rfl) ?_
      by_cases c0 : x1 = 0
      · have h := oi_t c0 h
        refine lv_tableIn (tgt := 52) (off := 25) hx hb dX6_zone_27 (by rw [c0]; decide) (by rw [c0]; decide) (by rw [c0]; rfl) (by decide) ?_
        refine lv_aload_n hx hb dX6_zone_52 rfl (lv_at hl 0 rfl) ?_
        refine lv_iload_n hx hb dX6_zone_53 rfl (lv_at hl 1 rfl) ?_
        obtain ⟨u54, hu54, h⟩ := ob h
        refine gV_i (C := RX6) (T := TX6) (N := 12) (ci := 5) (q0 := 0) (wc := [(a_t, .inr (5, [.int t_length, .ref a_t_text, .int t_spot, .ref a_t_told, .ref a_t_read, .ref a_t_s, .ref a_t_before, .int t_undoMany, .int t_shortAs, .int t_isolatorAs, .int t_worstWire, .int t_worstLost])), (a_t_told, .inl (cI, 67, .inl t_told)), (a_t_s, .inl (cI, 87, .inl t_s))]) (wr := []) (w1 := [(a_t, .inr (5, [.int t_length, .ref a_t_text, .int t_spot, .ref a_t_told, .ref a_t_read, .ref a_t_s, .ref a_t_before, .int t_undoMany, .int t_shortAs, .int t_isolatorAs, .int t_worstWire, .int t_worstLost])), (a_t_told, .inl (cI, 67, .inl t_told)), (a_t_s, .inl (cI, 87, .inl t_s))]) (v := u54) (As := [.int x0]) (rest := []) ⟨hx, hb, hml, hown, hts⟩ (c_X6_isZone l D cI cS a_t a_t_told a_t_s a_t_text a_t_read a_t_before H.size t_length t_spot t_undoMany t_shortAs t_isolatorAs t_worstWire t_worstLost t_told t_s x0 u54 hu54) (cwV 1 hts gX6_zone_X6_isZone rfl rfl rfl cd_X6_isZone ⟨Nat.le_of_ble_eq_true rfl, Nat.le_of_ble_eq_true rfl⟩) hK hN hP hD hS hA [0, 1, 2] [] rfl rfl (by decide) (by decide) (by decide) rfl rfl rfl hl.1 rfl (Nat.le_of_ble_eq_true rfl) dX6_zone_54 ⟨Nat.zero_le _, Nat.zero_le _⟩ (fun H locs hP hD hS => ?_)
        have hP : va_P D vwCl [(a_t, .inr (5, [.int t_length, .ref a_t_text, .int t_spot, .ref a_t_told, .ref a_t_read, .ref a_t_s, .ref a_t_before, .int t_undoMany, .int t_shortAs, .int t_isolatorAs, .int t_worstWire, .int t_worstLost])), (a_t_told, .inl (cI, 67, .inl t_told)), (a_t_s, .inl (cI, 87, .inl t_s))] H := hP
        have hD : va_D A [(a_t, .inr (5, [.int t_length, .ref a_t_text, .int t_spot, .ref a_t_told, .ref a_t_read, .ref a_t_s, .ref a_t_before, .int t_undoMany, .int t_shortAs, .int t_isolatorAs, .int t_worstWire, .int t_worstLost])), (a_t_told, .inl (cI, 67, .inl t_told)), (a_t_s, .inl (cI, 87, .inl t_s))] := hD
        refine lv_if_eq (tgt := 64) hx hb dX6_zone_57 (by decide) (fun cc => ?_) (fun cc => ?_)
        · have h := oi_t cc h
          refine lv_iconst (v := 0) hx hb dX6_zone_64 (by decide) ?_
          obtain rfl := Option.some.inj h
          exact hQ 65 H locs ls rfl hP hD hS dX6_zone_65
        · have h := oi_f cc h
          refine lv_iconst (v := 1) hx hb dX6_zone_60 (by decide) ?_
          refine lv_goto (tgt := 65) hx hb dX6_zone_61 (by decide) ?_
          obtain rfl := Option.some.inj h
          exact hQ 65 H locs ls rfl hP hD hS dX6_zone_65
      · have h := oi_f c0 h
        by_cases c1 : x1 = 1
        · have h := oi_t c1 h
          refine lv_tableIn (tgt := 66) (off := 39) hx hb dX6_zone_27 (by rw [c1]; decide) (by rw [c1]; decide) (by rw [c1]; rfl) (by decide) ?_
          refine lv_aload_n hx hb dX6_zone_66 rfl (lv_at hl 0 rfl) ?_
          refine lv_iload_n hx hb dX6_zone_67 rfl (lv_at hl 1 rfl) ?_
          obtain ⟨u68, hu68, h⟩ := ob h
          refine gV_i (C := RX6) (T := TX6) (N := 12) (ci := 5) (q0 := 0) (wc := [(a_t, .inr (5, [.int t_length, .ref a_t_text, .int t_spot, .ref a_t_told, .ref a_t_read, .ref a_t_s, .ref a_t_before, .int t_undoMany, .int t_shortAs, .int t_isolatorAs, .int t_worstWire, .int t_worstLost])), (a_t_told, .inl (cI, 67, .inl t_told)), (a_t_s, .inl (cI, 87, .inl t_s))]) (wr := []) (w1 := [(a_t, .inr (5, [.int t_length, .ref a_t_text, .int t_spot, .ref a_t_told, .ref a_t_read, .ref a_t_s, .ref a_t_before, .int t_undoMany, .int t_shortAs, .int t_isolatorAs, .int t_worstWire, .int t_worstLost])), (a_t_told, .inl (cI, 67, .inl t_told)), (a_t_s, .inl (cI, 87, .inl t_s))]) (v := u68) (As := [.int x0]) (rest := []) ⟨hx, hb, hml, hown, hts⟩ (c_X6_isZone l D cI cS a_t a_t_told a_t_s a_t_text a_t_read a_t_before H.size t_length t_spot t_undoMany t_shortAs t_isolatorAs t_worstWire t_worstLost t_told t_s x0 u68 hu68) (cwV 1 hts gX6_zone_X6_isZone rfl rfl rfl cd_X6_isZone ⟨Nat.le_of_ble_eq_true rfl, Nat.le_of_ble_eq_true rfl⟩) hK hN hP hD hS hA [0, 1, 2] [] rfl rfl (by decide) (by decide) (by decide) rfl rfl rfl hl.1 rfl (Nat.le_of_ble_eq_true rfl) dX6_zone_68 ⟨Nat.zero_le _, Nat.zero_le _⟩ (fun H locs hP hD hS => ?_)
          have hP : va_P D vwCl [(a_t, .inr (5, [.int t_length, .ref a_t_text, .int t_spot, .ref a_t_told, .ref a_t_read, .ref a_t_s, .ref a_t_before, .int t_undoMany, .int t_shortAs, .int t_isolatorAs, .int t_worstWire, .int t_worstLost])), (a_t_told, .inl (cI, 67, .inl t_told)), (a_t_s, .inl (cI, 87, .inl t_s))] H := hP
          have hD : va_D A [(a_t, .inr (5, [.int t_length, .ref a_t_text, .int t_spot, .ref a_t_told, .ref a_t_read, .ref a_t_s, .ref a_t_before, .int t_undoMany, .int t_shortAs, .int t_isolatorAs, .int t_worstWire, .int t_worstLost])), (a_t_told, .inl (cI, 67, .inl t_told)), (a_t_s, .inl (cI, 87, .inl t_s))] := hD
          refine lv_if_eq (tgt := 82) hx hb dX6_zone_71 (by decide) (fun cc => ?_) (fun cc => ?_)
          · have h := oi_t cc h
            refine lv_bipush (v := (-4)) hx hb dX6_zone_82 (by decide) ?_
            obtain rfl := Option.some.inj h
            exact hQ 84 H locs ls rfl hP hD hS dX6_zone_84
          · have h := oi_f cc h
            refine lv_aload_n hx hb dX6_zone_74 rfl (lv_at hl 0 rfl) ?_
            refine lv_iload_n hx hb dX6_zone_75 rfl (lv_at hl 1 rfl) ?_
            obtain ⟨u76, hu76, h⟩ := ob h
            refine gV_i (C := RX6) (T := TX6) (N := 12) (ci := 5) (q0 := 0) (wc := [(a_t, .inr (5, [.int t_length, .ref a_t_text, .int t_spot, .ref a_t_told, .ref a_t_read, .ref a_t_s, .ref a_t_before, .int t_undoMany, .int t_shortAs, .int t_isolatorAs, .int t_worstWire, .int t_worstLost])), (a_t_told, .inl (cI, 67, .inl t_told)), (a_t_s, .inl (cI, 87, .inl t_s))]) (wr := []) (w1 := [(a_t, .inr (5, [.int t_length, .ref a_t_text, .int t_spot, .ref a_t_told, .ref a_t_read, .ref a_t_s, .ref a_t_before, .int t_undoMany, .int t_shortAs, .int t_isolatorAs, .int t_worstWire, .int t_worstLost])), (a_t_told, .inl (cI, 67, .inl t_told)), (a_t_s, .inl (cI, 87, .inl t_s))]) (v := u76) (As := [.int x0]) (rest := []) ⟨hx, hb, hml, hown, hts⟩ (c_X6_since l D cI cS a_t a_t_told a_t_s a_t_text a_t_read a_t_before H.size t_length t_spot t_undoMany t_shortAs t_isolatorAs t_worstWire t_worstLost t_told t_s x0 u76 hu76) (cwV 1 hts gX6_zone_X6_since rfl rfl rfl cd_X6_since ⟨Nat.le_of_ble_eq_true rfl, Nat.le_of_ble_eq_true rfl⟩) hK hN hP hD hS hA [0, 1, 2] [] rfl rfl (by decide) (by decide) (by decide) rfl rfl rfl hl.1 rfl (Nat.le_of_ble_eq_true rfl) dX6_zone_76 ⟨Nat.zero_le _, Nat.zero_le _⟩ (fun H locs hP hD hS => ?_)
            have hP : va_P D vwCl [(a_t, .inr (5, [.int t_length, .ref a_t_text, .int t_spot, .ref a_t_told, .ref a_t_read, .ref a_t_s, .ref a_t_before, .int t_undoMany, .int t_shortAs, .int t_isolatorAs, .int t_worstWire, .int t_worstLost])), (a_t_told, .inl (cI, 67, .inl t_told)), (a_t_s, .inl (cI, 87, .inl t_s))] H := hP
            have hD : va_D A [(a_t, .inr (5, [.int t_length, .ref a_t_text, .int t_spot, .ref a_t_told, .ref a_t_read, .ref a_t_s, .ref a_t_before, .int t_undoMany, .int t_shortAs, .int t_isolatorAs, .int t_worstWire, .int t_worstLost])), (a_t_told, .inl (cI, 67, .inl t_told)), (a_t_s, .inl (cI, 87, .inl t_s))] := hD
            refine lv_goto (tgt := 84) hx hb dX6_zone_79 (by decide) ?_
            obtain rfl := Option.some.inj h
            exact hQ 84 H locs ls rfl hP hD hS dX6_zone_84
        · have h := oi_f c1 h
          by_cases c2 : x1 = 2
          · have h := oi_t c2 h
            refine lv_tableIn (tgt := 85) (off := 58) hx hb dX6_zone_27 (by rw [c2]; decide) (by rw [c2]; decide) (by rw [c2]; rfl) (by decide) ?_
            refine lv_aload_n hx hb dX6_zone_85 rfl (lv_at hl 0 rfl) ?_
            refine lv_iload_n hx hb dX6_zone_86 rfl (lv_at hl 1 rfl) ?_
            obtain ⟨u87, hu87, h⟩ := ob h
            refine gV_i (C := RX6) (T := TX6) (N := 12) (ci := 5) (q0 := 0) (wc := [(a_t, .inr (5, [.int t_length, .ref a_t_text, .int t_spot, .ref a_t_told, .ref a_t_read, .ref a_t_s, .ref a_t_before, .int t_undoMany, .int t_shortAs, .int t_isolatorAs, .int t_worstWire, .int t_worstLost])), (a_t_told, .inl (cI, 67, .inl t_told)), (a_t_s, .inl (cI, 87, .inl t_s))]) (wr := []) (w1 := [(a_t, .inr (5, [.int t_length, .ref a_t_text, .int t_spot, .ref a_t_told, .ref a_t_read, .ref a_t_s, .ref a_t_before, .int t_undoMany, .int t_shortAs, .int t_isolatorAs, .int t_worstWire, .int t_worstLost])), (a_t_told, .inl (cI, 67, .inl t_told)), (a_t_s, .inl (cI, 87, .inl t_s))]) (v := u87) (As := [.int x0]) (rest := []) ⟨hx, hb, hml, hown, hts⟩ (c_X6_leave l D cI cS a_t a_t_told a_t_s a_t_text a_t_read a_t_before H.size t_length t_spot t_undoMany t_shortAs t_isolatorAs t_worstWire t_worstLost t_told t_s x0 u87 hu87) (cwV 1 hts gX6_zone_X6_leave rfl rfl rfl cd_X6_leave ⟨Nat.le_of_ble_eq_true rfl, Nat.le_of_ble_eq_true rfl⟩) hK hN hP hD hS hA [0, 1, 2] [] rfl rfl (by decide) (by decide) (by decide) rfl rfl rfl hl.1 rfl (Nat.le_of_ble_eq_true rfl) dX6_zone_87 ⟨Nat.zero_le _, Nat.zero_le _⟩ (fun H locs hP hD hS => ?_)
            have hP : va_P D vwCl [(a_t, .inr (5, [.int t_length, .ref a_t_text, .int t_spot, .ref a_t_told, .ref a_t_read, .ref a_t_s, .ref a_t_before, .int t_undoMany, .int t_shortAs, .int t_isolatorAs, .int t_worstWire, .int t_worstLost])), (a_t_told, .inl (cI, 67, .inl t_told)), (a_t_s, .inl (cI, 87, .inl t_s))] H := hP
            have hD : va_D A [(a_t, .inr (5, [.int t_length, .ref a_t_text, .int t_spot, .ref a_t_told, .ref a_t_read, .ref a_t_s, .ref a_t_before, .int t_undoMany, .int t_shortAs, .int t_isolatorAs, .int t_worstWire, .int t_worstLost])), (a_t_told, .inl (cI, 67, .inl t_told)), (a_t_s, .inl (cI, 87, .inl t_s))] := hD
            obtain rfl := Option.some.inj h
            exact hQ 90 H locs ls rfl hP hD hS dX6_zone_90
          · have h := oi_f c2 h
            refine lv_tableOut (tgt := 91) hx hb dX6_zone_27 (by have q0 := lv_neT (k := 0) c0 (a := 0) (by decide); have q1 := lv_neT (k := 1) c1 (a := 1) (by decide); have q2 := lv_neT (k := 2) c2 (a := 2) (by decide); omega) (by decide) ?_
            refine lv_aload_n hx hb dX6_zone_91 rfl (lv_at hl 0 rfl) ?_
            refine lv_iload_n hx hb dX6_zone_92 rfl (lv_at hl 1 rfl) ?_
            refine lv_iload_n hx hb dX6_zone_93 rfl (lv_at hl 2 rfl) ?_
            obtain ⟨u94, hu94, h⟩ := ob h
            refine gV_i (C := RX6) (T := TX6) (N := 12) (ci := 5) (q0 := 0) (wc := [(a_t, .inr (5, [.int t_length, .ref a_t_text, .int t_spot, .ref a_t_told, .ref a_t_read, .ref a_t_s, .ref a_t_before, .int t_undoMany, .int t_shortAs, .int t_isolatorAs, .int t_worstWire, .int t_worstLost])), (a_t_told, .inl (cI, 67, .inl t_told)), (a_t_s, .inl (cI, 87, .inl t_s))]) (wr := []) (w1 := [(a_t, .inr (5, [.int t_length, .ref a_t_text, .int t_spot, .ref a_t_told, .ref a_t_read, .ref a_t_s, .ref a_t_before, .int t_undoMany, .int t_shortAs, .int t_isolatorAs, .int t_worstWire, .int t_worstLost])), (a_t_told, .inl (cI, 67, .inl t_told)), (a_t_s, .inl (cI, 87, .inl t_s))]) (v := u94) (As := [.int x0, .int x1]) (rest := []) ⟨hx, hb, hml, hown, hts⟩ (c_X6_inZone l D cI cS a_t a_t_told a_t_s a_t_text a_t_read a_t_before H.size t_length t_spot t_undoMany t_shortAs t_isolatorAs t_worstWire t_worstLost t_told t_s x0 x1 u94 hu94) (cwV 2 hts gX6_zone_X6_inZone rfl rfl rfl cd_X6_inZone ⟨Nat.le_of_ble_eq_true rfl, Nat.le_of_ble_eq_true rfl⟩) hK hN hP hD hS hA [0, 1, 2] [] rfl rfl (by decide) (by decide) (by decide) rfl rfl rfl hl.1 rfl (Nat.le_of_ble_eq_true rfl) dX6_zone_94 ⟨Nat.zero_le _, Nat.zero_le _⟩ (fun H locs hP hD hS => ?_)
            have hP : va_P D vwCl [(a_t, .inr (5, [.int t_length, .ref a_t_text, .int t_spot, .ref a_t_told, .ref a_t_read, .ref a_t_s, .ref a_t_before, .int t_undoMany, .int t_shortAs, .int t_isolatorAs, .int t_worstWire, .int t_worstLost])), (a_t_told, .inl (cI, 67, .inl t_told)), (a_t_s, .inl (cI, 87, .inl t_s))] H := hP
            have hD : va_D A [(a_t, .inr (5, [.int t_length, .ref a_t_text, .int t_spot, .ref a_t_told, .ref a_t_read, .ref a_t_s, .ref a_t_before, .int t_undoMany, .int t_shortAs, .int t_isolatorAs, .int t_worstWire, .int t_worstLost])), (a_t_told, .inl (cI, 67, .inl t_told)), (a_t_s, .inl (cI, 87, .inl t_s))] := hD
            obtain rfl := Option.some.inj h
            exact hQ 97 H locs ls rfl hP hD hS dX6_zone_97
    · have h := oi_t cc h
      refine lv_iconst (v := (-1)) hx hb dX6_zone_24 (by decide) ?_
      obtain rfl := Option.some.inj h
      exact hQ 25 H locs ls rfl hP hD hS dX6_zone_25

def f_X6_effect (t_told : FN) (t_s : FN) (x0 : Int32) (x1 : Int32) : Option (Int32) := ((f_X6_in (x0).toInt64 0 (((t_told (61 : Int32).toNatClampNeg) - 1)).toInt64).bind (fun u13 => (if u13 = 0 then some ((-1)) else ((f_X6_in (x1).toInt64 0 7).bind (fun u25 => (if u25 = 0 then some ((-1)) else (if x1 = 0 then (if gi ((36 + (4 * x0)) + x1) 67 then some ((t_told (((36 + (4 * x0)) + x1)).toNatClampNeg)) else none) else (if x1 = 1 then (if gi ((36 + (4 * x0)) + x1) 67 then some ((t_told (((36 + (4 * x0)) + x1)).toNatClampNeg)) else none) else (if x1 = 2 then (if gi ((36 + (4 * x0)) + x1) 67 then some ((t_told (((36 + (4 * x0)) + x1)).toNatClampNeg)) else none) else (if x1 = 3 then (if gi ((36 + (4 * x0)) + x1) 67 then some ((t_told (((36 + (4 * x0)) + x1)).toNatClampNeg)) else none) else (if x1 = 4 then ((f_X6_isWanted t_told t_s x0).bind (fun u92 => (if u92 = 0 then some (0) else some (1)))) else (if x1 = 5 then (if gi (61 + x0) 87 then some ((t_s ((61 + x0)).toNatClampNeg)) else none) else (if x1 = 6 then (if gi (67 + x0) 87 then some ((t_s ((67 + x0)).toNatClampNeg)) else none) else (if gi (73 + x0) 87 then some ((t_s ((73 + x0)).toNatClampNeg)) else none))))))))))))))
abbrev rm_X6_effect : Room := { frames := 2, cells := 0, slots := 0, locals := 47 }
theorem cd_X6_effect : (yX6_effect).cls = RX6 ∧ (yX6_effect).cls ≠ "java/lang/invoke/MethodHandle" ∧ (yX6_effect).cls ≠ "java/lang/invoke/VarHandle" ∧ (parseMethodDescriptor (yX6_effect).desc).map (fun d => d.parameters.length) = some 2 := by decide +kernel
set_option maxHeartbeats 4000000 in
set_option maxRecDepth 100000 in
theorem c_X6_effect (l : Launch) (D : va_G) (cI cS : ClassId) (a_t a_t_told a_t_s a_t_text a_t_read a_t_before : Nat) (sz : Nat) (t_length : Int32) (t_spot : Int32) (t_undoMany : Int32) (t_shortAs : Int32) (t_isolatorAs : Int32) (t_worstWire : Int32) (t_worstLost : Int32) (t_told : FN) (t_s : FN) (x0 : Int32) (x1 : Int32) (out : Int32) (h : f_X6_effect t_told t_s x0 x1 = some out) : Met l yX6_effect wsX6_effect rm_X6_effect (va_Pc [.ref a_t, .int x0, .int x1] (GP D cI cS [(a_t, .inr (5, [.int t_length, .ref a_t_text, .int t_spot, .ref a_t_told, .ref a_t_read, .ref a_t_s, .ref a_t_before, .int t_undoMany, .int t_shortAs, .int t_isolatorAs, .int t_worstWire, .int t_worstLost])), (a_t_told, .inl (cI, 67, .inl t_told)), (a_t_s, .inl (cI, 87, .inl t_s))] sz)) (QI D [(a_t, .inr (5, [.int t_length, .ref a_t_text, .int t_spot, .ref a_t_told, .ref a_t_read, .ref a_t_s, .ref a_t_before, .int t_undoMany, .int t_shortAs, .int t_isolatorAs, .int t_worstWire, .int t_worstLost])), (a_t_told, .inl (cI, 67, .inl t_told)), (a_t_s, .inl (cI, 87, .inl t_s))] sz [(a_t, .inr (5, [.int t_length, .ref a_t_text, .int t_spot, .ref a_t_told, .ref a_t_read, .ref a_t_s, .ref a_t_before, .int t_undoMany, .int t_shortAs, .int t_isolatorAs, .int t_worstWire, .int t_worstLost])), (a_t_told, .inl (cI, 67, .inl t_told)), (a_t_s, .inl (cI, 87, .inl t_s))] out) 0 0 (va_A [(a_t, .inr (5, [.int t_length, .ref a_t_text, .int t_spot, .ref a_t_told, .ref a_t_read, .ref a_t_s, .ref a_t_before, .int t_undoMany, .int t_shortAs, .int t_isolatorAs, .int t_worstWire, .int t_worstLost])), (a_t_told, .inl (cI, 67, .inl t_told)), (a_t_s, .inl (cI, 87, .inl t_s))] sz) := by
  refine gm_i (cc := cX6_effect) (maxL := 3) (rt := .int) (by decide) rfl (Nat.le_of_ble_eq_true rfl) ?_
  intro p e s m args below meth c A Q H locs ls hx hb hml hown hts hK hN hA hP hD hS hl hQ
  have hown : s.vm.findClass RX6 = some m.cls := hown
  have hl : lv_has ls 3 [(0, .ref a_t), (1, .int x0), (2, .int x1)] := hl
  have inX6 : ∀ w ∈ wsX60, w ∈ wsX6_effect := by decide +kernel
  have k_0 := hts (.fieldLink RX6 13 "AlarmRingModel" "told" "[I") (by decide +kernel)
  have k_1 := hts (.constantLong RX6 176 (7)) (by decide +kernel)
  have k_2 := hts (.fieldLink RX6 19 "AlarmRingModel" "s" "[I") (by decide +kernel)
  unfold f_X6_effect at h
  refine lv_iload_n hx hb dX6_effect_0 rfl (lv_at hl 1 rfl) ?_
  refine lv_i2l (v := (x0).toInt64) hx hb dX6_effect_1 rfl ?_
  refine lv_lconst (v := 0) hx hb dX6_effect_2 (by decide) ?_
  refine lv_aload_n hx hb dX6_effect_3 rfl (lv_at hl 0 rfl) ?_
  refine va_get (D := D) (ci := 5) (v := .ref a_t_told) (C := RX6) (T := TX6) (N := 12) hx hb hts inX6 hown hK hP 0 rfl rfl 3 (by decide) k_0 (fun _ h9 => h9) rfl dX6_effect_4 ?_
  refine lv_bipush (v := 61) hx hb dX6_effect_7 (by decide) ?_
  refine va_iald hx hb hK hP 1 0 rfl rfl (i := 61) (show gi 61 67 by decide) dX6_effect_9 ?_
  refine lv_iconst (v := 1) hx hb dX6_effect_10 (by decide) ?_
  refine lv_isub hx hb dX6_effect_11 ?_
  refine lv_i2l (v := (((t_told (61 : Int32).toNatClampNeg) - 1)).toInt64) hx hb dX6_effect_12 rfl ?_
  obtain ⟨u13, hu13, h⟩ := ob h
  refine gS_i (wc := []) (wr := [(a_t, .inr (5, [.int t_length, .ref a_t_text, .int t_spot, .ref a_t_told, .ref a_t_read, .ref a_t_s, .ref a_t_before, .int t_undoMany, .int t_shortAs, .int t_isolatorAs, .int t_worstWire, .int t_worstLost])), (a_t_told, .inl (cI, 67, .inl t_told)), (a_t_s, .inl (cI, 87, .inl t_s))]) (w1 := []) (v := u13) (As := [.long (x0).toInt64, .long 0, .long (((t_told (61 : Int32).toNatClampNeg) - 1)).toInt64]) (rest := []) ⟨hx, hb, hml, hown, hts⟩ (c_X6_in l D cI cS  H.size (x0).toInt64 0 (((t_told (61 : Int32).toNatClampNeg) - 1)).toInt64 u13 hu13) (va_cwS 3 hts gX6_effect_X6_in rfl rfl rfl cd_X6_in ⟨Nat.le_of_ble_eq_true rfl, Nat.le_of_ble_eq_true rfl⟩) hK hN hP hD hS hA [] [0, 1, 2] rfl rfl (by decide) (by decide) (by decide) rfl hl.1 rfl (Nat.le_of_ble_eq_true rfl) dX6_effect_13 ⟨Nat.zero_le _, Nat.zero_le _⟩ (fun H locs hP hD hS => ?_)
  have hP : va_P D vwCl [(a_t, .inr (5, [.int t_length, .ref a_t_text, .int t_spot, .ref a_t_told, .ref a_t_read, .ref a_t_s, .ref a_t_before, .int t_undoMany, .int t_shortAs, .int t_isolatorAs, .int t_worstWire, .int t_worstLost])), (a_t_told, .inl (cI, 67, .inl t_told)), (a_t_s, .inl (cI, 87, .inl t_s))] H := hP
  have hD : va_D A [(a_t, .inr (5, [.int t_length, .ref a_t_text, .int t_spot, .ref a_t_told, .ref a_t_read, .ref a_t_s, .ref a_t_before, .int t_undoMany, .int t_shortAs, .int t_isolatorAs, .int t_worstWire, .int t_worstLost])), (a_t_told, .inl (cI, 67, .inl t_told)), (a_t_s, .inl (cI, 87, .inl t_s))] := hD
  refine lv_if_eq (tgt := 31) hx hb dX6_effect_16 (by decide) (fun cc => ?_) (fun cc => ?_)
  · have h := oi_t cc h
    refine lv_iconst (v := (-1)) hx hb dX6_effect_31 (by decide) ?_
    obtain rfl := Option.some.inj h
    exact hQ 32 H locs ls rfl hP hD hS dX6_effect_32
  · have h := oi_f cc h
    refine lv_iload_n hx hb dX6_effect_19 rfl (lv_at hl 2 rfl) ?_
    refine lv_i2l (v := (x1).toInt64) hx hb dX6_effect_20 rfl ?_
    refine lv_lconst (v := 0) hx hb dX6_effect_21 (by decide) ?_
    refine lv_ldc2 (v := 7) hx hb hown k_1 dX6_effect_22 ?_
    obtain ⟨u25, hu25, h⟩ := ob h
    refine gS_i (wc := []) (wr := [(a_t, .inr (5, [.int t_length, .ref a_t_text, .int t_spot, .ref a_t_told, .ref a_t_read, .ref a_t_s, .ref a_t_before, .int t_undoMany, .int t_shortAs, .int t_isolatorAs, .int t_worstWire, .int t_worstLost])), (a_t_told, .inl (cI, 67, .inl t_told)), (a_t_s, .inl (cI, 87, .inl t_s))]) (w1 := []) (v := u25) (As := [.long (x1).toInt64, .long 0, .long 7]) (rest := []) ⟨hx, hb, hml, hown, hts⟩ (c_X6_in l D cI cS  H.size (x1).toInt64 0 7 u25 hu25) (va_cwS 3 hts gX6_effect_X6_in rfl rfl rfl cd_X6_in ⟨Nat.le_of_ble_eq_true rfl, Nat.le_of_ble_eq_true rfl⟩) hK hN hP hD hS hA [] [0, 1, 2] rfl rfl (by decide) (by decide) (by decide) rfl hl.1 rfl (Nat.le_of_ble_eq_true rfl) dX6_effect_25 ⟨Nat.zero_le _, Nat.zero_le _⟩ (fun H locs hP hD hS => ?_)
    have hP : va_P D vwCl [(a_t, .inr (5, [.int t_length, .ref a_t_text, .int t_spot, .ref a_t_told, .ref a_t_read, .ref a_t_s, .ref a_t_before, .int t_undoMany, .int t_shortAs, .int t_isolatorAs, .int t_worstWire, .int t_worstLost])), (a_t_told, .inl (cI, 67, .inl t_told)), (a_t_s, .inl (cI, 87, .inl t_s))] H := hP
    have hD : va_D A [(a_t, .inr (5, [.int t_length, .ref a_t_text, .int t_spot, .ref a_t_told, .ref a_t_read, .ref a_t_s, .ref a_t_before, .int t_undoMany, .int t_shortAs, .int t_isolatorAs, .int t_worstWire, .int t_worstLost])), (a_t_told, .inl (cI, 67, .inl t_told)), (a_t_s, .inl (cI, 87, .inl t_s))] := hD
    refine lv_if_ne (tgt := 33) hx hb dX6_effect_28 (by decide) (fun cc => ?_) (fun cc => ?_)
    · have h := oi_f cc h
      refine lv_iload_n hx hb dX6_effect_33 rfl (lv_at hl 2 rfl) ?_
      by_cases c0 : x1 = 0
      · have h := oi_t c0 h
        refine lv_tableIn (tgt := 76) (off := 42) hx hb dX6_effect_34 (by rw [c0]; decide) (by rw [c0]; decide) (by rw [c0]; rfl) (by decide) ?_
        refine lv_aload_n hx hb dX6_effect_76 rfl (lv_at hl 0 rfl) ?_
        refine va_get (D := D) (ci := 5) (v := .ref a_t_told) (C := RX6) (T := TX6) (N := 12) hx hb hts inX6 hown hK hP 0 rfl rfl 3 (by decide) k_0 (fun _ h9 => h9) rfl dX6_effect_77 ?_
        refine lv_bipush (v := 36) hx hb dX6_effect_80 (by decide) ?_
        refine lv_iconst (v := 4) hx hb dX6_effect_82 (by decide) ?_
        refine lv_iload_n hx hb dX6_effect_83 rfl (lv_at hl 1 rfl) ?_
        refine lv_imul hx hb dX6_effect_84 ?_
        refine lv_iadd hx hb dX6_effect_85 ?_
        refine lv_iload_n hx hb dX6_effect_86 rfl (lv_at hl 2 rfl) ?_
        refine lv_iadd hx hb dX6_effect_87 ?_
        obtain ⟨gg, h⟩ := og h
        refine va_iald hx hb hK hP 1 0 rfl rfl gg dX6_effect_88 ?_
        obtain rfl := Option.some.inj h
        exact hQ 89 H locs ls rfl hP hD hS dX6_effect_89
      · have h := oi_f c0 h
        by_cases c1 : x1 = 1
        · have h := oi_t c1 h
          refine lv_tableIn (tgt := 76) (off := 42) hx hb dX6_effect_34 (by rw [c1]; decide) (by rw [c1]; decide) (by rw [c1]; rfl) (by decide) ?_
          refine lv_aload_n hx hb dX6_effect_76 rfl (lv_at hl 0 rfl) ?_
          refine va_get (D := D) (ci := 5) (v := .ref a_t_told) (C := RX6) (T := TX6) (N := 12) hx hb hts inX6 hown hK hP 0 rfl rfl 3 (by decide) k_0 (fun _ h9 => h9) rfl dX6_effect_77 ?_
          refine lv_bipush (v := 36) hx hb dX6_effect_80 (by decide) ?_
          refine lv_iconst (v := 4) hx hb dX6_effect_82 (by decide) ?_
          refine lv_iload_n hx hb dX6_effect_83 rfl (lv_at hl 1 rfl) ?_
          refine lv_imul hx hb dX6_effect_84 ?_
          refine lv_iadd hx hb dX6_effect_85 ?_
          refine lv_iload_n hx hb dX6_effect_86 rfl (lv_at hl 2 rfl) ?_
          refine lv_iadd hx hb dX6_effect_87 ?_
          obtain ⟨gg, h⟩ := og h
          refine va_iald hx hb hK hP 1 0 rfl rfl gg dX6_effect_88 ?_
          obtain rfl := Option.some.inj h
          exact hQ 89 H locs ls rfl hP hD hS dX6_effect_89
        · have h := oi_f c1 h
          by_cases c2 : x1 = 2
          · have h := oi_t c2 h
            refine lv_tableIn (tgt := 76) (off := 42) hx hb dX6_effect_34 (by rw [c2]; decide) (by rw [c2]; decide) (by rw [c2]; rfl) (by decide) ?_
            refine lv_aload_n hx hb dX6_effect_76 rfl (lv_at hl 0 rfl) ?_
            refine va_get (D := D) (ci := 5) (v := .ref a_t_told) (C := RX6) (T := TX6) (N := 12) hx hb hts inX6 hown hK hP 0 rfl rfl 3 (by decide) k_0 (fun _ h9 => h9) rfl dX6_effect_77 ?_
            refine lv_bipush (v := 36) hx hb dX6_effect_80 (by decide) ?_
            refine lv_iconst (v := 4) hx hb dX6_effect_82 (by decide) ?_
            refine lv_iload_n hx hb dX6_effect_83 rfl (lv_at hl 1 rfl) ?_
            refine lv_imul hx hb dX6_effect_84 ?_
            refine lv_iadd hx hb dX6_effect_85 ?_
            refine lv_iload_n hx hb dX6_effect_86 rfl (lv_at hl 2 rfl) ?_
            refine lv_iadd hx hb dX6_effect_87 ?_
            obtain ⟨gg, h⟩ := og h
            refine va_iald hx hb hK hP 1 0 rfl rfl gg dX6_effect_88 ?_
            obtain rfl := Option.some.inj h
            exact hQ 89 H locs ls rfl hP hD hS dX6_effect_89
          · have h := oi_f c2 h
            by_cases c3 : x1 = 3
            · have h := oi_t c3 h
              refine lv_tableIn (tgt := 76) (off := 42) hx hb dX6_effect_34 (by rw [c3]; decide) (by rw [c3]; decide) (by rw [c3]; rfl) (by decide) ?_
              refine lv_aload_n hx hb dX6_effect_76 rfl (lv_at hl 0 rfl) ?_
              refine va_get (D := D) (ci := 5) (v := .ref a_t_told) (C := RX6) (T := TX6) (N := 12) hx hb hts inX6 hown hK hP 0 rfl rfl 3 (by decide) k_0 (fun _ h9 => h9) rfl dX6_effect_77 ?_
              refine lv_bipush (v := 36) hx hb dX6_effect_80 (by decide) ?_
              refine lv_iconst (v := 4) hx hb dX6_effect_82 (by decide) ?_
              refine lv_iload_n hx hb dX6_effect_83 rfl (lv_at hl 1 rfl) ?_
              refine lv_imul hx hb dX6_effect_84 ?_
              refine lv_iadd hx hb dX6_effect_85 ?_
              refine lv_iload_n hx hb dX6_effect_86 rfl (lv_at hl 2 rfl) ?_
              refine lv_iadd hx hb dX6_effect_87 ?_
              obtain ⟨gg, h⟩ := og h
              refine va_iald hx hb hK hP 1 0 rfl rfl gg dX6_effect_88 ?_
              obtain rfl := Option.some.inj h
              exact hQ 89 H locs ls rfl hP hD hS dX6_effect_89
            · have h := oi_f c3 h
              by_cases c4 : x1 = 4
              · have h := oi_t c4 h
                refine lv_tableIn (tgt := 90) (off := 56) hx hb dX6_effect_34 (by rw [c4]; decide) (by rw [c4]; decide) (by rw [c4]; rfl) (by decide) ?_
                refine lv_aload_n hx hb dX6_effect_90 rfl (lv_at hl 0 rfl) ?_
                refine lv_iload_n hx hb dX6_effect_91 rfl (lv_at hl 1 rfl) ?_
                obtain ⟨u92, hu92, h⟩ := ob h
                refine gV_i (C := RX6) (T := TX6) (N := 12) (ci := 5) (q0 := 0) (wc := [(a_t, .inr (5, [.int t_length, .ref a_t_text, .int t_spot, .ref a_t_told, .ref a_t_read, .ref a_t_s, .ref a_t_before, .int t_undoMany, .int t_shortAs, .int t_isolatorAs, .int t_worstWire, .int t_worstLost])), (a_t_told, .inl (cI, 67, .inl t_told)), (a_t_s, .inl (cI, 87, .inl t_s))]) (wr := []) (w1 := [(a_t, .inr (5, [.int t_length, .ref a_t_text, .int t_spot, .ref a_t_told, .ref a_t_read, .ref a_t_s, .ref a_t_before, .int t_undoMany, .int t_shortAs, .int t_isolatorAs, .int t_worstWire, .int t_worstLost])), (a_t_told, .inl (cI, 67, .inl t_told)), (a_t_s, .inl (cI, 87, .inl t_s))]) (v := u92) (As := [.int x0]) (rest := []) ⟨hx, hb, hml, hown, hts⟩ (c_X6_isWanted l D cI cS a_t a_t_told a_t_s a_t_text a_t_read a_t_before H.size t_length t_spot t_undoMany t_shortAs t_isolatorAs t_worstWire t_worstLost t_told t_s x0 u92 hu92) (cwV 1 hts gX6_effect_X6_isWanted rfl rfl rfl cd_X6_isWanted ⟨Nat.le_of_ble_eq_true rfl, Nat.le_of_ble_eq_true rfl⟩) hK hN hP hD hS hA [0, 1, 2] [] rfl rfl (by decide) (by decide) (by decide) rfl rfl rfl hl.1 rfl (Nat.le_of_ble_eq_true rfl) dX6_effect_92 ⟨Nat.zero_le _, Nat.zero_le _⟩ (fun H locs hP hD hS => ?_)
                have hP : va_P D vwCl [(a_t, .inr (5, [.int t_length, .ref a_t_text, .int t_spot, .ref a_t_told, .ref a_t_read, .ref a_t_s, .ref a_t_before, .int t_undoMany, .int t_shortAs, .int t_isolatorAs, .int t_worstWire, .int t_worstLost])), (a_t_told, .inl (cI, 67, .inl t_told)), (a_t_s, .inl (cI, 87, .inl t_s))] H := hP
                have hD : va_D A [(a_t, .inr (5, [.int t_length, .ref a_t_text, .int t_spot, .ref a_t_told, .ref a_t_read, .ref a_t_s, .ref a_t_before, .int t_undoMany, .int t_shortAs, .int t_isolatorAs, .int t_worstWire, .int t_worstLost])), (a_t_told, .inl (cI, 67, .inl t_told)), (a_t_s, .inl (cI, 87, .inl t_s))] := hD
                refine lv_if_eq (tgt := 102) hx hb dX6_effect_95 (by decide) (fun cc => ?_) (fun cc => ?_)
                · have h := oi_t cc h
                  refine lv_iconst (v := 0) hx hb dX6_effect_102 (by decide) ?_
                  obtain rfl := Option.some.inj h
                  exact hQ 103 H locs ls rfl hP hD hS dX6_effect_103
                · have h := oi_f cc h
                  refine lv_iconst (v := 1) hx hb dX6_effect_98 (by decide) ?_
                  refine lv_goto (tgt := 103) hx hb dX6_effect_99 (by decide) ?_
                  obtain rfl := Option.some.inj h
                  exact hQ 103 H locs ls rfl hP hD hS dX6_effect_103
              · have h := oi_f c4 h
                by_cases c5 : x1 = 5
                · have h := oi_t c5 h
                  refine lv_tableIn (tgt := 104) (off := 70) hx hb dX6_effect_34 (by rw [c5]; decide) (by rw [c5]; decide) (by rw [c5]; rfl) (by decide) ?_
                  refine lv_aload_n hx hb dX6_effect_104 rfl (lv_at hl 0 rfl) ?_
                  refine va_get (D := D) (ci := 5) (v := .ref a_t_s) (C := RX6) (T := TX6) (N := 12) hx hb hts inX6 hown hK hP 0 rfl rfl 5 (by decide) k_2 (fun _ h9 => h9) rfl dX6_effect_105 ?_
                  refine lv_bipush (v := 61) hx hb dX6_effect_108 (by decide) ?_
                  refine lv_iload_n hx hb dX6_effect_110 rfl (lv_at hl 1 rfl) ?_
                  refine lv_iadd hx hb dX6_effect_111 ?_
                  obtain ⟨gg, h⟩ := og h
                  refine va_iald hx hb hK hP 2 0 rfl rfl gg dX6_effect_112 ?_
                  obtain rfl := Option.some.inj h
                  exact hQ 113 H locs ls rfl hP hD hS dX6_effect_113
                · have h := oi_f c5 h
                  by_cases c6 : x1 = 6
                  · have h := oi_t c6 h
                    refine lv_tableIn (tgt := 114) (off := 80) hx hb dX6_effect_34 (by rw [c6]; decide) (by rw [c6]; decide) (by rw [c6]; rfl) (by decide) ?_
                    refine lv_aload_n hx hb dX6_effect_114 rfl (lv_at hl 0 rfl) ?_
                    refine va_get (D := D) (ci := 5) (v := .ref a_t_s) (C := RX6) (T := TX6) (N := 12) hx hb hts inX6 hown hK hP 0 rfl rfl 5 (by decide) k_2 (fun _ h9 => h9) rfl dX6_effect_115 ?_
                    refine lv_bipush (v := 67) hx hb dX6_effect_118 (by decide) ?_
                    refine lv_iload_n hx hb dX6_effect_120 rfl (lv_at hl 1 rfl) ?_
                    refine lv_iadd hx hb dX6_effect_121 ?_
                    obtain ⟨gg, h⟩ := og h
                    refine va_iald hx hb hK hP 2 0 rfl rfl gg dX6_effect_122 ?_
                    obtain rfl := Option.some.inj h
                    exact hQ 123 H locs ls rfl hP hD hS dX6_effect_123
                  · have h := oi_f c6 h
                    refine lv_tableOut (tgt := 124) hx hb dX6_effect_34 (by have q0 := lv_neT (k := 0) c0 (a := 0) (by decide); have q1 := lv_neT (k := 1) c1 (a := 1) (by decide); have q2 := lv_neT (k := 2) c2 (a := 2) (by decide); have q3 := lv_neT (k := 3) c3 (a := 3) (by decide); have q4 := lv_neT (k := 4) c4 (a := 4) (by decide); have q5 := lv_neT (k := 5) c5 (a := 5) (by decide); have q6 := lv_neT (k := 6) c6 (a := 6) (by decide); omega) (by decide) ?_
                    refine lv_aload_n hx hb dX6_effect_124 rfl (lv_at hl 0 rfl) ?_
                    refine va_get (D := D) (ci := 5) (v := .ref a_t_s) (C := RX6) (T := TX6) (N := 12) hx hb hts inX6 hown hK hP 0 rfl rfl 5 (by decide) k_2 (fun _ h9 => h9) rfl dX6_effect_125 ?_
                    refine lv_bipush (v := 73) hx hb dX6_effect_128 (by decide) ?_
                    refine lv_iload_n hx hb dX6_effect_130 rfl (lv_at hl 1 rfl) ?_
                    refine lv_iadd hx hb dX6_effect_131 ?_
                    obtain ⟨gg, h⟩ := og h
                    refine va_iald hx hb hK hP 2 0 rfl rfl gg dX6_effect_132 ?_
                    obtain rfl := Option.some.inj h
                    exact hQ 133 H locs ls rfl hP hD hS dX6_effect_133
    · have h := oi_t cc h
      refine lv_iconst (v := (-1)) hx hb dX6_effect_31 (by decide) ?_
      obtain rfl := Option.some.inj h
      exact hQ 32 H locs ls rfl hP hD hS dX6_effect_32

def f_X6_count_4 (t_told : FN) (t_s : FN) : Nat → Int32 → Int32 → Option (Int32)
  | 0, _, _ => none
  | n + 1, v2, v3 => (if 6 ≤ v3 then some (v2) else ((f_X6_isZone t_told t_s v3).bind (fun u13 => (if u13 = 0 then f_X6_count_4 t_told t_s n (v2 + 0) (v3 + 1) else f_X6_count_4 t_told t_s n (v2 + 1) (v3 + 1)))))
def f_X6_count (t_length : Int32) (t_undoMany : Int32) (t_shortAs : Int32) (t_isolatorAs : Int32) (t_told : FN) (t_s : FN) (x0 : Int32) : Option (Int32) := ((f_X6_count_4 t_told t_s 1000 0 0).bind (fun (q4 : Int32) => (if x0 = 0 then some ((t_told (60 : Int32).toNatClampNeg)) else (if x0 = 1 then some ((t_told (61 : Int32).toNatClampNeg)) else (if x0 = 2 then ((f_X6_lostMany t_shortAs t_isolatorAs t_told t_s).bind (fun u113 => some (u113))) else (if x0 = 3 then ((f_X6_sumOf t_s 36 12).bind (fun u122 => some (u122))) else (if x0 = 4 then some (q4) else (if x0 = 5 then ((f_X6_sumOf t_s 67 6).bind (fun u133 => some (u133))) else (if x0 = 6 then ((f_X6_sumOf t_s 73 6).bind (fun u142 => some (u142))) else (if x0 = 7 then some ((t_s (86 : Int32).toNatClampNeg)) else (if x0 = 8 then some ((t_s (85 : Int32).toNatClampNeg)) else (if x0 = 9 then some (t_undoMany) else (if x0 = 10 then some (t_length) else (if x0 = 11 then ((f_X6_sounding t_told t_s).bind (fun u173 => some (u173))) else some ((-1))))))))))))))))
abbrev rm_X6_count : Room := { frames := 6, cells := 0, slots := 0, locals := 132 }
theorem cd_X6_count : (yX6_count).cls = RX6 ∧ (yX6_count).cls ≠ "java/lang/invoke/MethodHandle" ∧ (yX6_count).cls ≠ "java/lang/invoke/VarHandle" ∧ (parseMethodDescriptor (yX6_count).desc).map (fun d => d.parameters.length) = some 1 := by decide +kernel
set_option maxHeartbeats 4000000 in
set_option maxRecDepth 100000 in
theorem c_X6_count (l : Launch) (D : va_G) (cI cS : ClassId) (a_t a_t_told a_t_s a_t_text a_t_read a_t_before : Nat) (sz : Nat) (t_length : Int32) (t_spot : Int32) (t_undoMany : Int32) (t_shortAs : Int32) (t_isolatorAs : Int32) (t_worstWire : Int32) (t_worstLost : Int32) (t_told : FN) (t_s : FN) (x0 : Int32) (out : Int32) (h : f_X6_count t_length t_undoMany t_shortAs t_isolatorAs t_told t_s x0 = some out) : Met l yX6_count wsX6_count rm_X6_count (va_Pc [.ref a_t, .int x0] (GP D cI cS [(a_t, .inr (5, [.int t_length, .ref a_t_text, .int t_spot, .ref a_t_told, .ref a_t_read, .ref a_t_s, .ref a_t_before, .int t_undoMany, .int t_shortAs, .int t_isolatorAs, .int t_worstWire, .int t_worstLost])), (a_t_told, .inl (cI, 67, .inl t_told)), (a_t_s, .inl (cI, 87, .inl t_s))] sz)) (QI D [(a_t, .inr (5, [.int t_length, .ref a_t_text, .int t_spot, .ref a_t_told, .ref a_t_read, .ref a_t_s, .ref a_t_before, .int t_undoMany, .int t_shortAs, .int t_isolatorAs, .int t_worstWire, .int t_worstLost])), (a_t_told, .inl (cI, 67, .inl t_told)), (a_t_s, .inl (cI, 87, .inl t_s))] sz [(a_t, .inr (5, [.int t_length, .ref a_t_text, .int t_spot, .ref a_t_told, .ref a_t_read, .ref a_t_s, .ref a_t_before, .int t_undoMany, .int t_shortAs, .int t_isolatorAs, .int t_worstWire, .int t_worstLost])), (a_t_told, .inl (cI, 67, .inl t_told)), (a_t_s, .inl (cI, 87, .inl t_s))] out) 0 0 (va_A [(a_t, .inr (5, [.int t_length, .ref a_t_text, .int t_spot, .ref a_t_told, .ref a_t_read, .ref a_t_s, .ref a_t_before, .int t_undoMany, .int t_shortAs, .int t_isolatorAs, .int t_worstWire, .int t_worstLost])), (a_t_told, .inl (cI, 67, .inl t_told)), (a_t_s, .inl (cI, 87, .inl t_s))] sz) := by
  refine gm_i (cc := cX6_count) (maxL := 4) (rt := .int) (by decide) rfl (Nat.le_of_ble_eq_true rfl) ?_
  intro p e s m args below meth c A Q H locs ls hx hb hml hown hts hK hN hA hP hD hS hl hQ
  have hown : s.vm.findClass RX6 = some m.cls := hown
  have hl : lv_has ls 4 [(0, .ref a_t), (1, .int x0)] := hl
  have inX6 : ∀ w ∈ wsX60, w ∈ wsX6_count := by decide +kernel
  have k_0 := hts (.fieldLink RX6 13 "AlarmRingModel" "told" "[I") (by decide +kernel)
  have k_1 := hts (.fieldLink RX6 19 "AlarmRingModel" "s" "[I") (by decide +kernel)
  have k_2 := hts (.fieldLink RX6 47 "AlarmRingModel" "undoMany" "I") (by decide +kernel)
  have k_3 := hts (.fieldLink RX6 58 "AlarmRingModel" "length" "I") (by decide +kernel)
  unfold f_X6_count at h
  refine lv_iconst (v := 0) hx hb dX6_count_0 (by decide) ?_
  refine lv_istore_n (lv' := [(2, .int 0), (0, .ref a_t), (1, .int x0)]) hx hb dX6_count_1 rfl hl (by decide) rfl (fun ls hl => ?_)
  refine lv_iconst (v := 0) hx hb dX6_count_2 (by decide) ?_
  refine lv_istore_n (lv' := [(3, .int 0), (2, .int 0), (0, .ref a_t), (1, .int x0)]) hx hb dX6_count_3 rfl hl (by decide) rfl (fun ls hl => ?_)
  obtain ⟨q4, hq4, h⟩ := ob h
  have lp4 : ∀ (n : Nat) (v2 : Int32) (v3 : Int32) (H : Heap) (locs : List Loc) (ls : Array Slot), va_P D vwCl [(a_t, .inr (5, [.int t_length, .ref a_t_text, .int t_spot, .ref a_t_told, .ref a_t_read, .ref a_t_s, .ref a_t_before, .int t_undoMany, .int t_shortAs, .int t_isolatorAs, .int t_worstWire, .int t_worstLost])), (a_t_told, .inl (cI, 67, .inl t_told)), (a_t_s, .inl (cI, 87, .inl t_s))] H → va_D A [(a_t, .inr (5, [.int t_length, .ref a_t_text, .int t_spot, .ref a_t_told, .ref a_t_read, .ref a_t_s, .ref a_t_before, .int t_undoMany, .int t_shortAs, .int t_isolatorAs, .int t_worstWire, .int t_worstLost])), (a_t_told, .inl (cI, 67, .inl t_told)), (a_t_s, .inl (cI, 87, .inl t_s))] → va_S A s.heap H locs → lv_has ls 4 [(0, .ref a_t), (1, .int x0), (2, .int v2), (3, .int v3)] → ∀ (q4 : Int32), f_X6_count_4 t_told t_s n v2 v3 = some q4 → (∀ (H : Heap) (locs : List Loc) (ls : Array Slot), va_P D vwCl [(a_t, .inr (5, [.int t_length, .ref a_t_text, .int t_spot, .ref a_t_told, .ref a_t_read, .ref a_t_s, .ref a_t_before, .int t_undoMany, .int t_shortAs, .int t_isolatorAs, .int t_worstWire, .int t_worstLost])), (a_t_told, .inl (cI, 67, .inl t_told)), (a_t_s, .inl (cI, 87, .inl t_s))] H → va_D A [(a_t, .inr (5, [.int t_length, .ref a_t_text, .int t_spot, .ref a_t_told, .ref a_t_read, .ref a_t_s, .ref a_t_before, .int t_undoMany, .int t_shortAs, .int t_isolatorAs, .int t_worstWire, .int t_worstLost])), (a_t_told, .inl (cI, 67, .inl t_told)), (a_t_s, .inl (cI, 87, .inl t_s))] → va_S A s.heap H locs → lv_has ls 4 [(0, .ref a_t), (1, .int x0), (2, .int q4)] → W p l e rm_X6_count s m args below meth c H locs 0 0 Q (F0 m 32 ls [])) → W p l e rm_X6_count s m args below meth c H locs 0 0 Q (F0 m 4 ls []) := by
    intro n
    induction n with
    | zero => intro v2 v3 H locs ls hP hD hS hl q4 h kk; exact on_ h
    | succ n ih =>
      intro v2 v3 H locs ls hP hD hS hl q4 h kk
      rw [f_X6_count_4] at h
      refine lv_iload_n hx hb dX6_count_4 rfl (lv_at hl 3 rfl) ?_
      refine lv_bipush (v := 6) hx hb dX6_count_5 (by decide) ?_
      refine lv_icmp_ge (tgt := 32) hx hb dX6_count_7 (by decide) (fun cc => ?_) (fun cc => ?_)
      · have h := oi_t cc h
        obtain rfl := Option.some.inj h
        exact kk H locs ls hP hD hS (lv_sub hl [0, 1, 2] rfl)
      · have h := oi_f cc h
        refine lv_iload_n hx hb dX6_count_10 rfl (lv_at hl 2 rfl) ?_
        refine lv_aload_n hx hb dX6_count_11 rfl (lv_at hl 0 rfl) ?_
        refine lv_iload_n hx hb dX6_count_12 rfl (lv_at hl 3 rfl) ?_
        obtain ⟨u13, hu13, h⟩ := ob h
        refine gV_i (C := RX6) (T := TX6) (N := 12) (ci := 5) (q0 := 0) (wc := [(a_t, .inr (5, [.int t_length, .ref a_t_text, .int t_spot, .ref a_t_told, .ref a_t_read, .ref a_t_s, .ref a_t_before, .int t_undoMany, .int t_shortAs, .int t_isolatorAs, .int t_worstWire, .int t_worstLost])), (a_t_told, .inl (cI, 67, .inl t_told)), (a_t_s, .inl (cI, 87, .inl t_s))]) (wr := []) (w1 := [(a_t, .inr (5, [.int t_length, .ref a_t_text, .int t_spot, .ref a_t_told, .ref a_t_read, .ref a_t_s, .ref a_t_before, .int t_undoMany, .int t_shortAs, .int t_isolatorAs, .int t_worstWire, .int t_worstLost])), (a_t_told, .inl (cI, 67, .inl t_told)), (a_t_s, .inl (cI, 87, .inl t_s))]) (v := u13) (As := [.int v3]) (rest := [.int v2]) ⟨hx, hb, hml, hown, hts⟩ (c_X6_isZone l D cI cS a_t a_t_told a_t_s a_t_text a_t_read a_t_before H.size t_length t_spot t_undoMany t_shortAs t_isolatorAs t_worstWire t_worstLost t_told t_s v3 u13 hu13) (cwV 1 hts gX6_count_X6_isZone rfl rfl rfl cd_X6_isZone ⟨Nat.le_of_ble_eq_true rfl, Nat.le_of_ble_eq_true rfl⟩) hK hN hP hD hS hA [0, 1, 2] [] rfl rfl (by decide) (by decide) (by decide) rfl rfl rfl hl.1 rfl (Nat.le_of_ble_eq_true rfl) dX6_count_13 ⟨Nat.zero_le _, Nat.zero_le _⟩ (fun H locs hP hD hS => ?_)
        have hP : va_P D vwCl [(a_t, .inr (5, [.int t_length, .ref a_t_text, .int t_spot, .ref a_t_told, .ref a_t_read, .ref a_t_s, .ref a_t_before, .int t_undoMany, .int t_shortAs, .int t_isolatorAs, .int t_worstWire, .int t_worstLost])), (a_t_told, .inl (cI, 67, .inl t_told)), (a_t_s, .inl (cI, 87, .inl t_s))] H := hP
        have hD : va_D A [(a_t, .inr (5, [.int t_length, .ref a_t_text, .int t_spot, .ref a_t_told, .ref a_t_read, .ref a_t_s, .ref a_t_before, .int t_undoMany, .int t_shortAs, .int t_isolatorAs, .int t_worstWire, .int t_worstLost])), (a_t_told, .inl (cI, 67, .inl t_told)), (a_t_s, .inl (cI, 87, .inl t_s))] := hD
        refine lv_if_eq (tgt := 23) hx hb dX6_count_16 (by decide) (fun cc => ?_) (fun cc => ?_)
        · have h := oi_t cc h
          refine lv_iconst (v := 0) hx hb dX6_count_23 (by decide) ?_
          refine lv_iadd hx hb dX6_count_24 ?_
          refine lv_istore_n (lv' := [(2, .int (v2 + 0)), (0, .ref a_t), (1, .int x0), (3, .int v3)]) hx hb dX6_count_25 rfl hl (by decide) rfl (fun ls hl => ?_)
          refine lv_iinc (v := (v3 + 1)) (lv' := [(3, .int (v3 + 1)), (2, .int (v2 + 0)), (0, .ref a_t), (1, .int x0)]) hx hb dX6_count_26 hl (k := 3) rfl (by first | rfl | decide) (by decide) rfl (fun ls hl => ?_)
          refine lv_goto (tgt := 4) hx hb dX6_count_29 (by decide) ?_
          exact ih (v2 + 0) (v3 + 1) H locs ls hP hD hS (lv_sub hl [2, 3, 1, 0] rfl) q4 h kk
        · have h := oi_f cc h
          refine lv_iconst (v := 1) hx hb dX6_count_19 (by decide) ?_
          refine lv_goto (tgt := 24) hx hb dX6_count_20 (by decide) ?_
          refine lv_iadd hx hb dX6_count_24 ?_
          refine lv_istore_n (lv' := [(2, .int (v2 + 1)), (0, .ref a_t), (1, .int x0), (3, .int v3)]) hx hb dX6_count_25 rfl hl (by decide) rfl (fun ls hl => ?_)
          refine lv_iinc (v := (v3 + 1)) (lv' := [(3, .int (v3 + 1)), (2, .int (v2 + 1)), (0, .ref a_t), (1, .int x0)]) hx hb dX6_count_26 hl (k := 3) rfl (by first | rfl | decide) (by decide) rfl (fun ls hl => ?_)
          refine lv_goto (tgt := 4) hx hb dX6_count_29 (by decide) ?_
          exact ih (v2 + 1) (v3 + 1) H locs ls hP hD hS (lv_sub hl [2, 3, 1, 0] rfl) q4 h kk
  refine lp4 1000 0 0 H locs ls hP hD hS (lv_sub hl [2, 3, 1, 0] rfl) q4 hq4 (fun H locs ls hP hD hS hl => ?_)
  refine lv_iload_n hx hb dX6_count_32 rfl (lv_at hl 1 rfl) ?_
  by_cases c0 : x0 = 0
  · have h := oi_t c0 h
    refine lv_tableIn (tgt := 96) (off := 63) hx hb dX6_count_33 (by rw [c0]; decide) (by rw [c0]; decide) (by rw [c0]; rfl) (by decide) ?_
    refine lv_aload_n hx hb dX6_count_96 rfl (lv_at hl 0 rfl) ?_
    refine va_get (D := D) (ci := 5) (v := .ref a_t_told) (C := RX6) (T := TX6) (N := 12) hx hb hts inX6 hown hK hP 0 rfl rfl 3 (by decide) k_0 (fun _ h9 => h9) rfl dX6_count_97 ?_
    refine lv_bipush (v := 60) hx hb dX6_count_100 (by decide) ?_
    refine va_iald hx hb hK hP 1 0 rfl rfl (i := 60) (show gi 60 67 by decide) dX6_count_102 ?_
    obtain rfl := Option.some.inj h
    exact hQ 103 H locs ls rfl hP hD hS dX6_count_103
  · have h := oi_f c0 h
    by_cases c1 : x0 = 1
    · have h := oi_t c1 h
      refine lv_tableIn (tgt := 104) (off := 71) hx hb dX6_count_33 (by rw [c1]; decide) (by rw [c1]; decide) (by rw [c1]; rfl) (by decide) ?_
      refine lv_aload_n hx hb dX6_count_104 rfl (lv_at hl 0 rfl) ?_
      refine va_get (D := D) (ci := 5) (v := .ref a_t_told) (C := RX6) (T := TX6) (N := 12) hx hb hts inX6 hown hK hP 0 rfl rfl 3 (by decide) k_0 (fun _ h9 => h9) rfl dX6_count_105 ?_
      refine lv_bipush (v := 61) hx hb dX6_count_108 (by decide) ?_
      refine va_iald hx hb hK hP 1 0 rfl rfl (i := 61) (show gi 61 67 by decide) dX6_count_110 ?_
      obtain rfl := Option.some.inj h
      exact hQ 111 H locs ls rfl hP hD hS dX6_count_111
    · have h := oi_f c1 h
      by_cases c2 : x0 = 2
      · have h := oi_t c2 h
        refine lv_tableIn (tgt := 112) (off := 79) hx hb dX6_count_33 (by rw [c2]; decide) (by rw [c2]; decide) (by rw [c2]; rfl) (by decide) ?_
        refine lv_aload_n hx hb dX6_count_112 rfl (lv_at hl 0 rfl) ?_
        obtain ⟨u113, hu113, h⟩ := ob h
        refine gV_i (C := RX6) (T := TX6) (N := 12) (ci := 5) (q0 := 0) (wc := [(a_t, .inr (5, [.int t_length, .ref a_t_text, .int t_spot, .ref a_t_told, .ref a_t_read, .ref a_t_s, .ref a_t_before, .int t_undoMany, .int t_shortAs, .int t_isolatorAs, .int t_worstWire, .int t_worstLost])), (a_t_told, .inl (cI, 67, .inl t_told)), (a_t_s, .inl (cI, 87, .inl t_s))]) (wr := []) (w1 := [(a_t, .inr (5, [.int t_length, .ref a_t_text, .int t_spot, .ref a_t_told, .ref a_t_read, .ref a_t_s, .ref a_t_before, .int t_undoMany, .int t_shortAs, .int t_isolatorAs, .int t_worstWire, .int t_worstLost])), (a_t_told, .inl (cI, 67, .inl t_told)), (a_t_s, .inl (cI, 87, .inl t_s))]) (v := u113) (As := []) (rest := []) ⟨hx, hb, hml, hown, hts⟩ (c_X6_lostMany l D cI cS a_t a_t_told a_t_s a_t_text a_t_read a_t_before H.size t_length t_spot t_undoMany t_shortAs t_isolatorAs t_worstWire t_worstLost t_told t_s u113 hu113) (cwV 0 hts gX6_count_X6_lostMany rfl rfl rfl cd_X6_lostMany ⟨Nat.le_of_ble_eq_true rfl, Nat.le_of_ble_eq_true rfl⟩) hK hN hP hD hS hA [0, 1, 2] [] rfl rfl (by decide) (by decide) (by decide) rfl rfl rfl hl.1 rfl (Nat.le_of_ble_eq_true rfl) dX6_count_113 ⟨Nat.zero_le _, Nat.zero_le _⟩ (fun H locs hP hD hS => ?_)
        have hP : va_P D vwCl [(a_t, .inr (5, [.int t_length, .ref a_t_text, .int t_spot, .ref a_t_told, .ref a_t_read, .ref a_t_s, .ref a_t_before, .int t_undoMany, .int t_shortAs, .int t_isolatorAs, .int t_worstWire, .int t_worstLost])), (a_t_told, .inl (cI, 67, .inl t_told)), (a_t_s, .inl (cI, 87, .inl t_s))] H := hP
        have hD : va_D A [(a_t, .inr (5, [.int t_length, .ref a_t_text, .int t_spot, .ref a_t_told, .ref a_t_read, .ref a_t_s, .ref a_t_before, .int t_undoMany, .int t_shortAs, .int t_isolatorAs, .int t_worstWire, .int t_worstLost])), (a_t_told, .inl (cI, 67, .inl t_told)), (a_t_s, .inl (cI, 87, .inl t_s))] := hD
        obtain rfl := Option.some.inj h
        exact hQ 116 H locs ls rfl hP hD hS dX6_count_116
      · have h := oi_f c2 h
        by_cases c3 : x0 = 3
        · have h := oi_t c3 h
          refine lv_tableIn (tgt := 117) (off := 84) hx hb dX6_count_33 (by rw [c3]; decide) (by rw [c3]; decide) (by rw [c3]; rfl) (by decide) ?_
          refine lv_aload_n hx hb dX6_count_117 rfl (lv_at hl 0 rfl) ?_
          refine lv_bipush (v := 36) hx hb dX6_count_118 (by decide) ?_
          refine lv_bipush (v := 12) hx hb dX6_count_120 (by decide) ?_
          obtain ⟨u122, hu122, h⟩ := ob h
          refine gV_i (C := RX6) (T := TX6) (N := 12) (ci := 5) (q0 := 0) (wc := [(a_t, .inr (5, [.int t_length, .ref a_t_text, .int t_spot, .ref a_t_told, .ref a_t_read, .ref a_t_s, .ref a_t_before, .int t_undoMany, .int t_shortAs, .int t_isolatorAs, .int t_worstWire, .int t_worstLost])), (a_t_s, .inl (cI, 87, .inl t_s))]) (wr := [(a_t_told, .inl (cI, 67, .inl t_told))]) (w1 := [(a_t, .inr (5, [.int t_length, .ref a_t_text, .int t_spot, .ref a_t_told, .ref a_t_read, .ref a_t_s, .ref a_t_before, .int t_undoMany, .int t_shortAs, .int t_isolatorAs, .int t_worstWire, .int t_worstLost])), (a_t_s, .inl (cI, 87, .inl t_s))]) (v := u122) (As := [.int 36, .int 12]) (rest := []) ⟨hx, hb, hml, hown, hts⟩ (c_X6_sumOf l D cI cS a_t a_t_s a_t_text a_t_told a_t_read a_t_before H.size t_length t_spot t_undoMany t_shortAs t_isolatorAs t_worstWire t_worstLost t_s 36 12 u122 hu122) (cwV 2 hts gX6_count_X6_sumOf rfl rfl rfl cd_X6_sumOf ⟨Nat.le_of_ble_eq_true rfl, Nat.le_of_ble_eq_true rfl⟩) hK hN hP hD hS hA [0, 2] [1] rfl rfl (by decide) (by decide) (by decide) rfl rfl rfl hl.1 rfl (Nat.le_of_ble_eq_true rfl) dX6_count_122 ⟨Nat.zero_le _, Nat.zero_le _⟩ (fun H locs hP hD hS => ?_)
          have hP : va_P D vwCl [(a_t, .inr (5, [.int t_length, .ref a_t_text, .int t_spot, .ref a_t_told, .ref a_t_read, .ref a_t_s, .ref a_t_before, .int t_undoMany, .int t_shortAs, .int t_isolatorAs, .int t_worstWire, .int t_worstLost])), (a_t_told, .inl (cI, 67, .inl t_told)), (a_t_s, .inl (cI, 87, .inl t_s))] H := hP.sub [1, 0, 2] rfl
          have hD : va_D A [(a_t, .inr (5, [.int t_length, .ref a_t_text, .int t_spot, .ref a_t_told, .ref a_t_read, .ref a_t_s, .ref a_t_before, .int t_undoMany, .int t_shortAs, .int t_isolatorAs, .int t_worstWire, .int t_worstLost])), (a_t_told, .inl (cI, 67, .inl t_told)), (a_t_s, .inl (cI, 87, .inl t_s))] := hD.sub [1, 0, 2] (by decide) rfl
          obtain rfl := Option.some.inj h
          exact hQ 125 H locs ls rfl hP hD hS dX6_count_125
        · have h := oi_f c3 h
          by_cases c4 : x0 = 4
          · have h := oi_t c4 h
            refine lv_tableIn (tgt := 126) (off := 93) hx hb dX6_count_33 (by rw [c4]; decide) (by rw [c4]; decide) (by rw [c4]; rfl) (by decide) ?_
            refine lv_iload_n hx hb dX6_count_126 rfl (lv_at hl 2 rfl) ?_
            obtain rfl := Option.some.inj h
            exact hQ 127 H locs ls rfl hP hD hS dX6_count_127
          · have h := oi_f c4 h
            by_cases c5 : x0 = 5
            · have h := oi_t c5 h
              refine lv_tableIn (tgt := 128) (off := 95) hx hb dX6_count_33 (by rw [c5]; decide) (by rw [c5]; decide) (by rw [c5]; rfl) (by decide) ?_
              refine lv_aload_n hx hb dX6_count_128 rfl (lv_at hl 0 rfl) ?_
              refine lv_bipush (v := 67) hx hb dX6_count_129 (by decide) ?_
              refine lv_bipush (v := 6) hx hb dX6_count_131 (by decide) ?_
              obtain ⟨u133, hu133, h⟩ := ob h
              refine gV_i (C := RX6) (T := TX6) (N := 12) (ci := 5) (q0 := 0) (wc := [(a_t, .inr (5, [.int t_length, .ref a_t_text, .int t_spot, .ref a_t_told, .ref a_t_read, .ref a_t_s, .ref a_t_before, .int t_undoMany, .int t_shortAs, .int t_isolatorAs, .int t_worstWire, .int t_worstLost])), (a_t_s, .inl (cI, 87, .inl t_s))]) (wr := [(a_t_told, .inl (cI, 67, .inl t_told))]) (w1 := [(a_t, .inr (5, [.int t_length, .ref a_t_text, .int t_spot, .ref a_t_told, .ref a_t_read, .ref a_t_s, .ref a_t_before, .int t_undoMany, .int t_shortAs, .int t_isolatorAs, .int t_worstWire, .int t_worstLost])), (a_t_s, .inl (cI, 87, .inl t_s))]) (v := u133) (As := [.int 67, .int 6]) (rest := []) ⟨hx, hb, hml, hown, hts⟩ (c_X6_sumOf l D cI cS a_t a_t_s a_t_text a_t_told a_t_read a_t_before H.size t_length t_spot t_undoMany t_shortAs t_isolatorAs t_worstWire t_worstLost t_s 67 6 u133 hu133) (cwV 2 hts gX6_count_X6_sumOf rfl rfl rfl cd_X6_sumOf ⟨Nat.le_of_ble_eq_true rfl, Nat.le_of_ble_eq_true rfl⟩) hK hN hP hD hS hA [0, 2] [1] rfl rfl (by decide) (by decide) (by decide) rfl rfl rfl hl.1 rfl (Nat.le_of_ble_eq_true rfl) dX6_count_133 ⟨Nat.zero_le _, Nat.zero_le _⟩ (fun H locs hP hD hS => ?_)
              have hP : va_P D vwCl [(a_t, .inr (5, [.int t_length, .ref a_t_text, .int t_spot, .ref a_t_told, .ref a_t_read, .ref a_t_s, .ref a_t_before, .int t_undoMany, .int t_shortAs, .int t_isolatorAs, .int t_worstWire, .int t_worstLost])), (a_t_told, .inl (cI, 67, .inl t_told)), (a_t_s, .inl (cI, 87, .inl t_s))] H := hP.sub [1, 0, 2] rfl
              have hD : va_D A [(a_t, .inr (5, [.int t_length, .ref a_t_text, .int t_spot, .ref a_t_told, .ref a_t_read, .ref a_t_s, .ref a_t_before, .int t_undoMany, .int t_shortAs, .int t_isolatorAs, .int t_worstWire, .int t_worstLost])), (a_t_told, .inl (cI, 67, .inl t_told)), (a_t_s, .inl (cI, 87, .inl t_s))] := hD.sub [1, 0, 2] (by decide) rfl
              obtain rfl := Option.some.inj h
              exact hQ 136 H locs ls rfl hP hD hS dX6_count_136
            · have h := oi_f c5 h
              by_cases c6 : x0 = 6
              · have h := oi_t c6 h
                refine lv_tableIn (tgt := 137) (off := 104) hx hb dX6_count_33 (by rw [c6]; decide) (by rw [c6]; decide) (by rw [c6]; rfl) (by decide) ?_
                refine lv_aload_n hx hb dX6_count_137 rfl (lv_at hl 0 rfl) ?_
                refine lv_bipush (v := 73) hx hb dX6_count_138 (by decide) ?_
                refine lv_bipush (v := 6) hx hb dX6_count_140 (by decide) ?_
                obtain ⟨u142, hu142, h⟩ := ob h
                refine gV_i (C := RX6) (T := TX6) (N := 12) (ci := 5) (q0 := 0) (wc := [(a_t, .inr (5, [.int t_length, .ref a_t_text, .int t_spot, .ref a_t_told, .ref a_t_read, .ref a_t_s, .ref a_t_before, .int t_undoMany, .int t_shortAs, .int t_isolatorAs, .int t_worstWire, .int t_worstLost])), (a_t_s, .inl (cI, 87, .inl t_s))]) (wr := [(a_t_told, .inl (cI, 67, .inl t_told))]) (w1 := [(a_t, .inr (5, [.int t_length, .ref a_t_text, .int t_spot, .ref a_t_told, .ref a_t_read, .ref a_t_s, .ref a_t_before, .int t_undoMany, .int t_shortAs, .int t_isolatorAs, .int t_worstWire, .int t_worstLost])), (a_t_s, .inl (cI, 87, .inl t_s))]) (v := u142) (As := [.int 73, .int 6]) (rest := []) ⟨hx, hb, hml, hown, hts⟩ (c_X6_sumOf l D cI cS a_t a_t_s a_t_text a_t_told a_t_read a_t_before H.size t_length t_spot t_undoMany t_shortAs t_isolatorAs t_worstWire t_worstLost t_s 73 6 u142 hu142) (cwV 2 hts gX6_count_X6_sumOf rfl rfl rfl cd_X6_sumOf ⟨Nat.le_of_ble_eq_true rfl, Nat.le_of_ble_eq_true rfl⟩) hK hN hP hD hS hA [0, 2] [1] rfl rfl (by decide) (by decide) (by decide) rfl rfl rfl hl.1 rfl (Nat.le_of_ble_eq_true rfl) dX6_count_142 ⟨Nat.zero_le _, Nat.zero_le _⟩ (fun H locs hP hD hS => ?_)
                have hP : va_P D vwCl [(a_t, .inr (5, [.int t_length, .ref a_t_text, .int t_spot, .ref a_t_told, .ref a_t_read, .ref a_t_s, .ref a_t_before, .int t_undoMany, .int t_shortAs, .int t_isolatorAs, .int t_worstWire, .int t_worstLost])), (a_t_told, .inl (cI, 67, .inl t_told)), (a_t_s, .inl (cI, 87, .inl t_s))] H := hP.sub [1, 0, 2] rfl
                have hD : va_D A [(a_t, .inr (5, [.int t_length, .ref a_t_text, .int t_spot, .ref a_t_told, .ref a_t_read, .ref a_t_s, .ref a_t_before, .int t_undoMany, .int t_shortAs, .int t_isolatorAs, .int t_worstWire, .int t_worstLost])), (a_t_told, .inl (cI, 67, .inl t_told)), (a_t_s, .inl (cI, 87, .inl t_s))] := hD.sub [1, 0, 2] (by decide) rfl
                obtain rfl := Option.some.inj h
                exact hQ 145 H locs ls rfl hP hD hS dX6_count_145
              · have h := oi_f c6 h
                by_cases c7 : x0 = 7
                · have h := oi_t c7 h
                  refine lv_tableIn (tgt := 146) (off := 113) hx hb dX6_count_33 (by rw [c7]; decide) (by rw [c7]; decide) (by rw [c7]; rfl) (by decide) ?_
                  refine lv_aload_n hx hb dX6_count_146 rfl (lv_at hl 0 rfl) ?_
                  refine va_get (D := D) (ci := 5) (v := .ref a_t_s) (C := RX6) (T := TX6) (N := 12) hx hb hts inX6 hown hK hP 0 rfl rfl 5 (by decide) k_1 (fun _ h9 => h9) rfl dX6_count_147 ?_
                  refine lv_bipush (v := 86) hx hb dX6_count_150 (by decide) ?_
                  refine va_iald hx hb hK hP 2 0 rfl rfl (i := 86) (show gi 86 87 by decide) dX6_count_152 ?_
                  obtain rfl := Option.some.inj h
                  exact hQ 153 H locs ls rfl hP hD hS dX6_count_153
                · have h := oi_f c7 h
                  by_cases c8 : x0 = 8
                  · have h := oi_t c8 h
                    refine lv_tableIn (tgt := 154) (off := 121) hx hb dX6_count_33 (by rw [c8]; decide) (by rw [c8]; decide) (by rw [c8]; rfl) (by decide) ?_
                    refine lv_aload_n hx hb dX6_count_154 rfl (lv_at hl 0 rfl) ?_
                    refine va_get (D := D) (ci := 5) (v := .ref a_t_s) (C := RX6) (T := TX6) (N := 12) hx hb hts inX6 hown hK hP 0 rfl rfl 5 (by decide) k_1 (fun _ h9 => h9) rfl dX6_count_155 ?_
                    refine lv_bipush (v := 85) hx hb dX6_count_158 (by decide) ?_
                    refine va_iald hx hb hK hP 2 0 rfl rfl (i := 85) (show gi 85 87 by decide) dX6_count_160 ?_
                    obtain rfl := Option.some.inj h
                    exact hQ 161 H locs ls rfl hP hD hS dX6_count_161
                  · have h := oi_f c8 h
                    by_cases c9 : x0 = 9
                    · have h := oi_t c9 h
                      refine lv_tableIn (tgt := 162) (off := 129) hx hb dX6_count_33 (by rw [c9]; decide) (by rw [c9]; decide) (by rw [c9]; rfl) (by decide) ?_
                      refine lv_aload_n hx hb dX6_count_162 rfl (lv_at hl 0 rfl) ?_
                      refine va_get (D := D) (ci := 5) (v := .int t_undoMany) (C := RX6) (T := TX6) (N := 12) hx hb hts inX6 hown hK hP 0 rfl rfl 7 (by decide) k_2 (fun _ h9 => h9) rfl dX6_count_163 ?_
                      obtain rfl := Option.some.inj h
                      exact hQ 166 H locs ls rfl hP hD hS dX6_count_166
                    · have h := oi_f c9 h
                      by_cases c10 : x0 = 10
                      · have h := oi_t c10 h
                        refine lv_tableIn (tgt := 167) (off := 134) hx hb dX6_count_33 (by rw [c10]; decide) (by rw [c10]; decide) (by rw [c10]; rfl) (by decide) ?_
                        refine lv_aload_n hx hb dX6_count_167 rfl (lv_at hl 0 rfl) ?_
                        refine va_get (D := D) (ci := 5) (v := .int t_length) (C := RX6) (T := TX6) (N := 12) hx hb hts inX6 hown hK hP 0 rfl rfl 0 (by decide) k_3 (fun _ h9 => h9) rfl dX6_count_168 ?_
                        obtain rfl := Option.some.inj h
                        exact hQ 171 H locs ls rfl hP hD hS dX6_count_171
                      · have h := oi_f c10 h
                        by_cases c11 : x0 = 11
                        · have h := oi_t c11 h
                          refine lv_tableIn (tgt := 172) (off := 139) hx hb dX6_count_33 (by rw [c11]; decide) (by rw [c11]; decide) (by rw [c11]; rfl) (by decide) ?_
                          refine lv_aload_n hx hb dX6_count_172 rfl (lv_at hl 0 rfl) ?_
                          obtain ⟨u173, hu173, h⟩ := ob h
                          refine gV_i (C := RX6) (T := TX6) (N := 12) (ci := 5) (q0 := 0) (wc := [(a_t, .inr (5, [.int t_length, .ref a_t_text, .int t_spot, .ref a_t_told, .ref a_t_read, .ref a_t_s, .ref a_t_before, .int t_undoMany, .int t_shortAs, .int t_isolatorAs, .int t_worstWire, .int t_worstLost])), (a_t_told, .inl (cI, 67, .inl t_told)), (a_t_s, .inl (cI, 87, .inl t_s))]) (wr := []) (w1 := [(a_t, .inr (5, [.int t_length, .ref a_t_text, .int t_spot, .ref a_t_told, .ref a_t_read, .ref a_t_s, .ref a_t_before, .int t_undoMany, .int t_shortAs, .int t_isolatorAs, .int t_worstWire, .int t_worstLost])), (a_t_told, .inl (cI, 67, .inl t_told)), (a_t_s, .inl (cI, 87, .inl t_s))]) (v := u173) (As := []) (rest := []) ⟨hx, hb, hml, hown, hts⟩ (c_X6_sounding l D cI cS a_t a_t_told a_t_s a_t_text a_t_read a_t_before H.size t_length t_spot t_undoMany t_shortAs t_isolatorAs t_worstWire t_worstLost t_told t_s u173 hu173) (cwV 0 hts gX6_count_X6_sounding rfl rfl rfl cd_X6_sounding ⟨Nat.le_of_ble_eq_true rfl, Nat.le_of_ble_eq_true rfl⟩) hK hN hP hD hS hA [0, 1, 2] [] rfl rfl (by decide) (by decide) (by decide) rfl rfl rfl hl.1 rfl (Nat.le_of_ble_eq_true rfl) dX6_count_173 ⟨Nat.zero_le _, Nat.zero_le _⟩ (fun H locs hP hD hS => ?_)
                          have hP : va_P D vwCl [(a_t, .inr (5, [.int t_length, .ref a_t_text, .int t_spot, .ref a_t_told, .ref a_t_read, .ref a_t_s, .ref a_t_before, .int t_undoMany, .int t_shortAs, .int t_isolatorAs, .int t_worstWire, .int t_worstLost])), (a_t_told, .inl (cI, 67, .inl t_told)), (a_t_s, .inl (cI, 87, .inl t_s))] H := hP
                          have hD : va_D A [(a_t, .inr (5, [.int t_length, .ref a_t_text, .int t_spot, .ref a_t_told, .ref a_t_read, .ref a_t_s, .ref a_t_before, .int t_undoMany, .int t_shortAs, .int t_isolatorAs, .int t_worstWire, .int t_worstLost])), (a_t_told, .inl (cI, 67, .inl t_told)), (a_t_s, .inl (cI, 87, .inl t_s))] := hD
                          obtain rfl := Option.some.inj h
                          exact hQ 176 H locs ls rfl hP hD hS dX6_count_176
                        · have h := oi_f c11 h
                          refine lv_tableOut (tgt := 177) hx hb dX6_count_33 (by have q0 := lv_neT (k := 0) c0 (a := 0) (by decide); have q1 := lv_neT (k := 1) c1 (a := 1) (by decide); have q2 := lv_neT (k := 2) c2 (a := 2) (by decide); have q3 := lv_neT (k := 3) c3 (a := 3) (by decide); have q4 := lv_neT (k := 4) c4 (a := 4) (by decide); have q5 := lv_neT (k := 5) c5 (a := 5) (by decide); have q6 := lv_neT (k := 6) c6 (a := 6) (by decide); have q7 := lv_neT (k := 7) c7 (a := 7) (by decide); have q8 := lv_neT (k := 8) c8 (a := 8) (by decide); have q9 := lv_neT (k := 9) c9 (a := 9) (by decide); have q10 := lv_neT (k := 10) c10 (a := 10) (by decide); have q11 := lv_neT (k := 11) c11 (a := 11) (by decide); omega) (by decide) ?_
                          refine lv_iconst (v := (-1)) hx hb dX6_count_177 (by decide) ?_
                          obtain rfl := Option.some.inj h
                          exact hQ 178 H locs ls rfl hP hD hS dX6_count_178
