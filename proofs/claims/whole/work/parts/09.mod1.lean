def f_X6_puts (t_told : FN) (x0 : Int32) (x1 : Int32) (x2 : Int32) : Option (FN) := (if gi (3 * (t_told (60 : Int32).toNatClampNeg)) 67 then (if gi ((3 * (t_told (60 : Int32).toNatClampNeg)) + 1) 67 then (if gi ((3 * (t_told (60 : Int32).toNatClampNeg)) + 2) 67 then some ((upd (upd (upd (upd t_told ((3 * (t_told (60 : Int32).toNatClampNeg))).toNatClampNeg x0) (((3 * (t_told (60 : Int32).toNatClampNeg)) + 1)).toNatClampNeg x1) (((3 * (t_told (60 : Int32).toNatClampNeg)) + 2)).toNatClampNeg x2) (60 : Int32).toNatClampNeg (((upd (upd (upd t_told ((3 * (t_told (60 : Int32).toNatClampNeg))).toNatClampNeg x0) (((3 * (t_told (60 : Int32).toNatClampNeg)) + 1)).toNatClampNeg x1) (((3 * (t_told (60 : Int32).toNatClampNeg)) + 2)).toNatClampNeg x2) (60 : Int32).toNatClampNeg) + 1))) else none) else none) else none)
abbrev rm_X6_puts : Room := { frames := 0, cells := 0, slots := 0, locals := 0 }
theorem cd_X6_puts : (yX6_puts).cls = RX6 ∧ (yX6_puts).cls ≠ "java/lang/invoke/MethodHandle" ∧ (yX6_puts).cls ≠ "java/lang/invoke/VarHandle" ∧ (parseMethodDescriptor (yX6_puts).desc).map (fun d => d.parameters.length) = some 3 := by decide +kernel
set_option maxHeartbeats 4000000 in
set_option maxRecDepth 100000 in
theorem c_X6_puts (l : Launch) (D : va_G) (cI cS : ClassId) (a_t a_t_told a_t_text a_t_read a_t_s a_t_before : Nat) (sz : Nat) (t_length : Int32) (t_spot : Int32) (t_undoMany : Int32) (t_shortAs : Int32) (t_isolatorAs : Int32) (t_worstWire : Int32) (t_worstLost : Int32) (t_told : FN) (x0 : Int32) (x1 : Int32) (x2 : Int32) (out : FN) (h : f_X6_puts t_told x0 x1 x2 = some out) : Met l yX6_puts wsX6_puts rm_X6_puts (va_Pc [.ref a_t, .int x0, .int x1, .int x2] (GP D cI cS [(a_t, .inr (5, [.int t_length, .ref a_t_text, .int t_spot, .ref a_t_told, .ref a_t_read, .ref a_t_s, .ref a_t_before, .int t_undoMany, .int t_shortAs, .int t_isolatorAs, .int t_worstWire, .int t_worstLost])), (a_t_told, .inl (cI, 67, .inl t_told))] sz)) (QV D [(a_t, .inr (5, [.int t_length, .ref a_t_text, .int t_spot, .ref a_t_told, .ref a_t_read, .ref a_t_s, .ref a_t_before, .int t_undoMany, .int t_shortAs, .int t_isolatorAs, .int t_worstWire, .int t_worstLost])), (a_t_told, .inl (cI, 67, .inl t_told))] sz [(a_t, .inr (5, [.int t_length, .ref a_t_text, .int t_spot, .ref a_t_told, .ref a_t_read, .ref a_t_s, .ref a_t_before, .int t_undoMany, .int t_shortAs, .int t_isolatorAs, .int t_worstWire, .int t_worstLost])), (a_t_told, .inl (cI, 67, .inl out))]) 0 0 (va_A [(a_t, .inr (5, [.int t_length, .ref a_t_text, .int t_spot, .ref a_t_told, .ref a_t_read, .ref a_t_s, .ref a_t_before, .int t_undoMany, .int t_shortAs, .int t_isolatorAs, .int t_worstWire, .int t_worstLost])), (a_t_told, .inl (cI, 67, .inl t_told))] sz) := by
  refine gm_v (cc := cX6_puts) (maxL := 5) (by decide) rfl (Nat.le_of_ble_eq_true rfl) ?_
  intro p e s m args below meth c A Q H locs ls hx hb hml hown hts hK hN hA hP hD hS hl hQ
  have hown : s.vm.findClass RX6 = some m.cls := hown
  have hl : lv_has ls 5 [(0, .ref a_t), (1, .int x0), (2, .int x1), (3, .int x2)] := hl
  have inX6 : ∀ w ∈ wsX60, w ∈ wsX6_puts := by decide +kernel
  have k_0 := hts (.fieldLink RX6 13 "AlarmRingModel" "told" "[I") (by decide +kernel)
  unfold f_X6_puts at h
  refine lv_iconst (v := 3) hx hb dX6_puts_0 (by decide) ?_
  refine lv_aload_n hx hb dX6_puts_1 rfl (lv_at hl 0 rfl) ?_
  refine va_get (D := D) (ci := 5) (v := .ref a_t_told) (C := RX6) (T := TX6) (N := 12) hx hb hts inX6 hown hK hP 0 rfl rfl 3 (by decide) k_0 (fun _ h9 => h9) rfl dX6_puts_2 ?_
  refine lv_bipush (v := 60) hx hb dX6_puts_5 (by decide) ?_
  refine va_iald hx hb hK hP 1 0 rfl rfl (i := 60) (show gi 60 67 by decide) dX6_puts_7 ?_
  refine lv_imul hx hb dX6_puts_8 ?_
  refine lv_istore (lv' := [(4, .int (3 * (t_told (60 : Int32).toNatClampNeg))), (0, .ref a_t), (1, .int x0), (2, .int x1), (3, .int x2)]) hx hb dX6_puts_9 hl (by decide) rfl (fun ls hl => ?_)
  refine lv_aload_n hx hb dX6_puts_11 rfl (lv_at hl 1 rfl) ?_
  refine va_get (D := D) (ci := 5) (v := .ref a_t_told) (C := RX6) (T := TX6) (N := 12) hx hb hts inX6 hown hK hP 0 rfl rfl 3 (by decide) k_0 (fun _ h9 => h9) rfl dX6_puts_12 ?_
  refine lv_iload hx hb dX6_puts_15 (lv_at hl 0 rfl) ?_
  refine lv_iload_n hx hb dX6_puts_17 rfl (lv_at hl 2 rfl) ?_
  obtain ⟨gg, h⟩ := og h
  refine va_iast hx hb hK hP hD hS 1 0 rfl rfl gg dX6_puts_18 (fun H locs hP hD hS => ?_)
  have hP : va_P D vwCl [(a_t, .inr (5, [.int t_length, .ref a_t_text, .int t_spot, .ref a_t_told, .ref a_t_read, .ref a_t_s, .ref a_t_before, .int t_undoMany, .int t_shortAs, .int t_isolatorAs, .int t_worstWire, .int t_worstLost])), (a_t_told, .inl (cI, 67, .inl (upd t_told ((3 * (t_told (60 : Int32).toNatClampNeg))).toNatClampNeg x0)))] H := hP
  have hD : va_D A [(a_t, .inr (5, [.int t_length, .ref a_t_text, .int t_spot, .ref a_t_told, .ref a_t_read, .ref a_t_s, .ref a_t_before, .int t_undoMany, .int t_shortAs, .int t_isolatorAs, .int t_worstWire, .int t_worstLost])), (a_t_told, .inl (cI, 67, .inl (upd t_told ((3 * (t_told (60 : Int32).toNatClampNeg))).toNatClampNeg x0)))] := hD
  refine lv_aload_n hx hb dX6_puts_19 rfl (lv_at hl 1 rfl) ?_
  refine va_get (D := D) (ci := 5) (v := .ref a_t_told) (C := RX6) (T := TX6) (N := 12) hx hb hts inX6 hown hK hP 0 rfl rfl 3 (by decide) k_0 (fun _ h9 => h9) rfl dX6_puts_20 ?_
  refine lv_iload hx hb dX6_puts_23 (lv_at hl 0 rfl) ?_
  refine lv_iconst (v := 1) hx hb dX6_puts_25 (by decide) ?_
  refine lv_iadd hx hb dX6_puts_26 ?_
  refine lv_iload_n hx hb dX6_puts_27 rfl (lv_at hl 3 rfl) ?_
  obtain ⟨gg, h⟩ := og h
  refine va_iast hx hb hK hP hD hS 1 0 rfl rfl gg dX6_puts_28 (fun H locs hP hD hS => ?_)
  have hP : va_P D vwCl [(a_t, .inr (5, [.int t_length, .ref a_t_text, .int t_spot, .ref a_t_told, .ref a_t_read, .ref a_t_s, .ref a_t_before, .int t_undoMany, .int t_shortAs, .int t_isolatorAs, .int t_worstWire, .int t_worstLost])), (a_t_told, .inl (cI, 67, .inl (upd (upd t_told ((3 * (t_told (60 : Int32).toNatClampNeg))).toNatClampNeg x0) (((3 * (t_told (60 : Int32).toNatClampNeg)) + 1)).toNatClampNeg x1)))] H := hP
  have hD : va_D A [(a_t, .inr (5, [.int t_length, .ref a_t_text, .int t_spot, .ref a_t_told, .ref a_t_read, .ref a_t_s, .ref a_t_before, .int t_undoMany, .int t_shortAs, .int t_isolatorAs, .int t_worstWire, .int t_worstLost])), (a_t_told, .inl (cI, 67, .inl (upd (upd t_told ((3 * (t_told (60 : Int32).toNatClampNeg))).toNatClampNeg x0) (((3 * (t_told (60 : Int32).toNatClampNeg)) + 1)).toNatClampNeg x1)))] := hD
  refine lv_aload_n hx hb dX6_puts_29 rfl (lv_at hl 1 rfl) ?_
  refine va_get (D := D) (ci := 5) (v := .ref a_t_told) (C := RX6) (T := TX6) (N := 12) hx hb hts inX6 hown hK hP 0 rfl rfl 3 (by decide) k_0 (fun _ h9 => h9) rfl dX6_puts_30 ?_
  refine lv_iload hx hb dX6_puts_33 (lv_at hl 0 rfl) ?_
  refine lv_iconst (v := 2) hx hb dX6_puts_35 (by decide) ?_
  refine lv_iadd hx hb dX6_puts_36 ?_
  refine lv_iload_n hx hb dX6_puts_37 rfl (lv_at hl 4 rfl) ?_
  obtain ⟨gg, h⟩ := og h
  refine va_iast hx hb hK hP hD hS 1 0 rfl rfl gg dX6_puts_38 (fun H locs hP hD hS => ?_)
  have hP : va_P D vwCl [(a_t, .inr (5, [.int t_length, .ref a_t_text, .int t_spot, .ref a_t_told, .ref a_t_read, .ref a_t_s, .ref a_t_before, .int t_undoMany, .int t_shortAs, .int t_isolatorAs, .int t_worstWire, .int t_worstLost])), (a_t_told, .inl (cI, 67, .inl (upd (upd (upd t_told ((3 * (t_told (60 : Int32).toNatClampNeg))).toNatClampNeg x0) (((3 * (t_told (60 : Int32).toNatClampNeg)) + 1)).toNatClampNeg x1) (((3 * (t_told (60 : Int32).toNatClampNeg)) + 2)).toNatClampNeg x2)))] H := hP
  have hD : va_D A [(a_t, .inr (5, [.int t_length, .ref a_t_text, .int t_spot, .ref a_t_told, .ref a_t_read, .ref a_t_s, .ref a_t_before, .int t_undoMany, .int t_shortAs, .int t_isolatorAs, .int t_worstWire, .int t_worstLost])), (a_t_told, .inl (cI, 67, .inl (upd (upd (upd t_told ((3 * (t_told (60 : Int32).toNatClampNeg))).toNatClampNeg x0) (((3 * (t_told (60 : Int32).toNatClampNeg)) + 1)).toNatClampNeg x1) (((3 * (t_told (60 : Int32).toNatClampNeg)) + 2)).toNatClampNeg x2)))] := hD
  refine lv_aload_n hx hb dX6_puts_39 rfl (lv_at hl 1 rfl) ?_
  refine va_get (D := D) (ci := 5) (v := .ref a_t_told) (C := RX6) (T := TX6) (N := 12) hx hb hts inX6 hown hK hP 0 rfl rfl 3 (by decide) k_0 (fun _ h9 => h9) rfl dX6_puts_40 ?_
  refine lv_bipush (v := 60) hx hb dX6_puts_43 (by decide) ?_
  refine lv_dup2_11 hx hb dX6_puts_45 rfl rfl ?_
  refine va_iald hx hb hK hP 1 0 rfl rfl (i := 60) (show gi 60 67 by decide) dX6_puts_46 ?_
  refine lv_iconst (v := 1) hx hb dX6_puts_47 (by decide) ?_
  refine lv_iadd hx hb dX6_puts_48 ?_
  refine va_iast hx hb hK hP hD hS 1 0 rfl rfl (i := 60) (show gi 60 67 by decide) dX6_puts_49 (fun H locs hP hD hS => ?_)
  have hP : va_P D vwCl [(a_t, .inr (5, [.int t_length, .ref a_t_text, .int t_spot, .ref a_t_told, .ref a_t_read, .ref a_t_s, .ref a_t_before, .int t_undoMany, .int t_shortAs, .int t_isolatorAs, .int t_worstWire, .int t_worstLost])), (a_t_told, .inl (cI, 67, .inl (upd (upd (upd (upd t_told ((3 * (t_told (60 : Int32).toNatClampNeg))).toNatClampNeg x0) (((3 * (t_told (60 : Int32).toNatClampNeg)) + 1)).toNatClampNeg x1) (((3 * (t_told (60 : Int32).toNatClampNeg)) + 2)).toNatClampNeg x2) (60 : Int32).toNatClampNeg (((upd (upd (upd t_told ((3 * (t_told (60 : Int32).toNatClampNeg))).toNatClampNeg x0) (((3 * (t_told (60 : Int32).toNatClampNeg)) + 1)).toNatClampNeg x1) (((3 * (t_told (60 : Int32).toNatClampNeg)) + 2)).toNatClampNeg x2) (60 : Int32).toNatClampNeg) + 1))))] H := hP
  have hD : va_D A [(a_t, .inr (5, [.int t_length, .ref a_t_text, .int t_spot, .ref a_t_told, .ref a_t_read, .ref a_t_s, .ref a_t_before, .int t_undoMany, .int t_shortAs, .int t_isolatorAs, .int t_worstWire, .int t_worstLost])), (a_t_told, .inl (cI, 67, .inl (upd (upd (upd (upd t_told ((3 * (t_told (60 : Int32).toNatClampNeg))).toNatClampNeg x0) (((3 * (t_told (60 : Int32).toNatClampNeg)) + 1)).toNatClampNeg x1) (((3 * (t_told (60 : Int32).toNatClampNeg)) + 2)).toNatClampNeg x2) (60 : Int32).toNatClampNeg (((upd (upd (upd t_told ((3 * (t_told (60 : Int32).toNatClampNeg))).toNatClampNeg x0) (((3 * (t_told (60 : Int32).toNatClampNeg)) + 1)).toNatClampNeg x1) (((3 * (t_told (60 : Int32).toNatClampNeg)) + 2)).toNatClampNeg x2) (60 : Int32).toNatClampNeg) + 1))))] := hD
  obtain rfl := Option.some.inj h
  exact hQ 50 H locs ls hP hD hS dX6_puts_50

def f_X6_sets (t_told : FN) (x0 : Int32) (x1 : Int32) (x2 : Int32) (x3 : Int32) : Option (FN) := (if gi (36 + (4 * (t_told (61 : Int32).toNatClampNeg))) 67 then (if gi ((36 + (4 * (t_told (61 : Int32).toNatClampNeg))) + 1) 67 then (if gi ((36 + (4 * (t_told (61 : Int32).toNatClampNeg))) + 2) 67 then (if gi ((36 + (4 * (t_told (61 : Int32).toNatClampNeg))) + 3) 67 then some ((upd (upd (upd (upd (upd t_told ((36 + (4 * (t_told (61 : Int32).toNatClampNeg)))).toNatClampNeg x0) (((36 + (4 * (t_told (61 : Int32).toNatClampNeg))) + 1)).toNatClampNeg x1) (((36 + (4 * (t_told (61 : Int32).toNatClampNeg))) + 2)).toNatClampNeg x2) (((36 + (4 * (t_told (61 : Int32).toNatClampNeg))) + 3)).toNatClampNeg x3) (61 : Int32).toNatClampNeg (((upd (upd (upd (upd t_told ((36 + (4 * (t_told (61 : Int32).toNatClampNeg)))).toNatClampNeg x0) (((36 + (4 * (t_told (61 : Int32).toNatClampNeg))) + 1)).toNatClampNeg x1) (((36 + (4 * (t_told (61 : Int32).toNatClampNeg))) + 2)).toNatClampNeg x2) (((36 + (4 * (t_told (61 : Int32).toNatClampNeg))) + 3)).toNatClampNeg x3) (61 : Int32).toNatClampNeg) + 1))) else none) else none) else none) else none)
abbrev rm_X6_sets : Room := { frames := 0, cells := 0, slots := 0, locals := 0 }
theorem cd_X6_sets : (yX6_sets).cls = RX6 ∧ (yX6_sets).cls ≠ "java/lang/invoke/MethodHandle" ∧ (yX6_sets).cls ≠ "java/lang/invoke/VarHandle" ∧ (parseMethodDescriptor (yX6_sets).desc).map (fun d => d.parameters.length) = some 4 := by decide +kernel
set_option maxHeartbeats 4000000 in
set_option maxRecDepth 100000 in
theorem c_X6_sets (l : Launch) (D : va_G) (cI cS : ClassId) (a_t a_t_told a_t_text a_t_read a_t_s a_t_before : Nat) (sz : Nat) (t_length : Int32) (t_spot : Int32) (t_undoMany : Int32) (t_shortAs : Int32) (t_isolatorAs : Int32) (t_worstWire : Int32) (t_worstLost : Int32) (t_told : FN) (x0 : Int32) (x1 : Int32) (x2 : Int32) (x3 : Int32) (out : FN) (h : f_X6_sets t_told x0 x1 x2 x3 = some out) : Met l yX6_sets wsX6_sets rm_X6_sets (va_Pc [.ref a_t, .int x0, .int x1, .int x2, .int x3] (GP D cI cS [(a_t, .inr (5, [.int t_length, .ref a_t_text, .int t_spot, .ref a_t_told, .ref a_t_read, .ref a_t_s, .ref a_t_before, .int t_undoMany, .int t_shortAs, .int t_isolatorAs, .int t_worstWire, .int t_worstLost])), (a_t_told, .inl (cI, 67, .inl t_told))] sz)) (QV D [(a_t, .inr (5, [.int t_length, .ref a_t_text, .int t_spot, .ref a_t_told, .ref a_t_read, .ref a_t_s, .ref a_t_before, .int t_undoMany, .int t_shortAs, .int t_isolatorAs, .int t_worstWire, .int t_worstLost])), (a_t_told, .inl (cI, 67, .inl t_told))] sz [(a_t, .inr (5, [.int t_length, .ref a_t_text, .int t_spot, .ref a_t_told, .ref a_t_read, .ref a_t_s, .ref a_t_before, .int t_undoMany, .int t_shortAs, .int t_isolatorAs, .int t_worstWire, .int t_worstLost])), (a_t_told, .inl (cI, 67, .inl out))]) 0 0 (va_A [(a_t, .inr (5, [.int t_length, .ref a_t_text, .int t_spot, .ref a_t_told, .ref a_t_read, .ref a_t_s, .ref a_t_before, .int t_undoMany, .int t_shortAs, .int t_isolatorAs, .int t_worstWire, .int t_worstLost])), (a_t_told, .inl (cI, 67, .inl t_told))] sz) := by
  refine gm_v (cc := cX6_sets) (maxL := 6) (by decide) rfl (Nat.le_of_ble_eq_true rfl) ?_
  intro p e s m args below meth c A Q H locs ls hx hb hml hown hts hK hN hA hP hD hS hl hQ
  have hown : s.vm.findClass RX6 = some m.cls := hown
  have hl : lv_has ls 6 [(0, .ref a_t), (1, .int x0), (2, .int x1), (3, .int x2), (4, .int x3)] := hl
  have inX6 : ∀ w ∈ wsX60, w ∈ wsX6_sets := by decide +kernel
  have k_0 := hts (.fieldLink RX6 13 "AlarmRingModel" "told" "[I") (by decide +kernel)
  unfold f_X6_sets at h
  refine lv_bipush (v := 36) hx hb dX6_sets_0 (by decide) ?_
  refine lv_iconst (v := 4) hx hb dX6_sets_2 (by decide) ?_
  refine lv_aload_n hx hb dX6_sets_3 rfl (lv_at hl 0 rfl) ?_
  refine va_get (D := D) (ci := 5) (v := .ref a_t_told) (C := RX6) (T := TX6) (N := 12) hx hb hts inX6 hown hK hP 0 rfl rfl 3 (by decide) k_0 (fun _ h9 => h9) rfl dX6_sets_4 ?_
  refine lv_bipush (v := 61) hx hb dX6_sets_7 (by decide) ?_
  refine va_iald hx hb hK hP 1 0 rfl rfl (i := 61) (show gi 61 67 by decide) dX6_sets_9 ?_
  refine lv_imul hx hb dX6_sets_10 ?_
  refine lv_iadd hx hb dX6_sets_11 ?_
  refine lv_istore (lv' := [(5, .int (36 + (4 * (t_told (61 : Int32).toNatClampNeg)))), (0, .ref a_t), (1, .int x0), (2, .int x1), (3, .int x2), (4, .int x3)]) hx hb dX6_sets_12 hl (by decide) rfl (fun ls hl => ?_)
  refine lv_aload_n hx hb dX6_sets_14 rfl (lv_at hl 1 rfl) ?_
  refine va_get (D := D) (ci := 5) (v := .ref a_t_told) (C := RX6) (T := TX6) (N := 12) hx hb hts inX6 hown hK hP 0 rfl rfl 3 (by decide) k_0 (fun _ h9 => h9) rfl dX6_sets_15 ?_
  refine lv_iload hx hb dX6_sets_18 (lv_at hl 0 rfl) ?_
  refine lv_iload_n hx hb dX6_sets_20 rfl (lv_at hl 2 rfl) ?_
  obtain ⟨gg, h⟩ := og h
  refine va_iast hx hb hK hP hD hS 1 0 rfl rfl gg dX6_sets_21 (fun H locs hP hD hS => ?_)
  have hP : va_P D vwCl [(a_t, .inr (5, [.int t_length, .ref a_t_text, .int t_spot, .ref a_t_told, .ref a_t_read, .ref a_t_s, .ref a_t_before, .int t_undoMany, .int t_shortAs, .int t_isolatorAs, .int t_worstWire, .int t_worstLost])), (a_t_told, .inl (cI, 67, .inl (upd t_told ((36 + (4 * (t_told (61 : Int32).toNatClampNeg)))).toNatClampNeg x0)))] H := hP
  have hD : va_D A [(a_t, .inr (5, [.int t_length, .ref a_t_text, .int t_spot, .ref a_t_told, .ref a_t_read, .ref a_t_s, .ref a_t_before, .int t_undoMany, .int t_shortAs, .int t_isolatorAs, .int t_worstWire, .int t_worstLost])), (a_t_told, .inl (cI, 67, .inl (upd t_told ((36 + (4 * (t_told (61 : Int32).toNatClampNeg)))).toNatClampNeg x0)))] := hD
  refine lv_aload_n hx hb dX6_sets_22 rfl (lv_at hl 1 rfl) ?_
  refine va_get (D := D) (ci := 5) (v := .ref a_t_told) (C := RX6) (T := TX6) (N := 12) hx hb hts inX6 hown hK hP 0 rfl rfl 3 (by decide) k_0 (fun _ h9 => h9) rfl dX6_sets_23 ?_
  refine lv_iload hx hb dX6_sets_26 (lv_at hl 0 rfl) ?_
  refine lv_iconst (v := 1) hx hb dX6_sets_28 (by decide) ?_
  refine lv_iadd hx hb dX6_sets_29 ?_
  refine lv_iload_n hx hb dX6_sets_30 rfl (lv_at hl 3 rfl) ?_
  obtain ⟨gg, h⟩ := og h
  refine va_iast hx hb hK hP hD hS 1 0 rfl rfl gg dX6_sets_31 (fun H locs hP hD hS => ?_)
  have hP : va_P D vwCl [(a_t, .inr (5, [.int t_length, .ref a_t_text, .int t_spot, .ref a_t_told, .ref a_t_read, .ref a_t_s, .ref a_t_before, .int t_undoMany, .int t_shortAs, .int t_isolatorAs, .int t_worstWire, .int t_worstLost])), (a_t_told, .inl (cI, 67, .inl (upd (upd t_told ((36 + (4 * (t_told (61 : Int32).toNatClampNeg)))).toNatClampNeg x0) (((36 + (4 * (t_told (61 : Int32).toNatClampNeg))) + 1)).toNatClampNeg x1)))] H := hP
  have hD : va_D A [(a_t, .inr (5, [.int t_length, .ref a_t_text, .int t_spot, .ref a_t_told, .ref a_t_read, .ref a_t_s, .ref a_t_before, .int t_undoMany, .int t_shortAs, .int t_isolatorAs, .int t_worstWire, .int t_worstLost])), (a_t_told, .inl (cI, 67, .inl (upd (upd t_told ((36 + (4 * (t_told (61 : Int32).toNatClampNeg)))).toNatClampNeg x0) (((36 + (4 * (t_told (61 : Int32).toNatClampNeg))) + 1)).toNatClampNeg x1)))] := hD
  refine lv_aload_n hx hb dX6_sets_32 rfl (lv_at hl 1 rfl) ?_
  refine va_get (D := D) (ci := 5) (v := .ref a_t_told) (C := RX6) (T := TX6) (N := 12) hx hb hts inX6 hown hK hP 0 rfl rfl 3 (by decide) k_0 (fun _ h9 => h9) rfl dX6_sets_33 ?_
  refine lv_iload hx hb dX6_sets_36 (lv_at hl 0 rfl) ?_
  refine lv_iconst (v := 2) hx hb dX6_sets_38 (by decide) ?_
  refine lv_iadd hx hb dX6_sets_39 ?_
  refine lv_iload_n hx hb dX6_sets_40 rfl (lv_at hl 4 rfl) ?_
  obtain ⟨gg, h⟩ := og h
  refine va_iast hx hb hK hP hD hS 1 0 rfl rfl gg dX6_sets_41 (fun H locs hP hD hS => ?_)
  have hP : va_P D vwCl [(a_t, .inr (5, [.int t_length, .ref a_t_text, .int t_spot, .ref a_t_told, .ref a_t_read, .ref a_t_s, .ref a_t_before, .int t_undoMany, .int t_shortAs, .int t_isolatorAs, .int t_worstWire, .int t_worstLost])), (a_t_told, .inl (cI, 67, .inl (upd (upd (upd t_told ((36 + (4 * (t_told (61 : Int32).toNatClampNeg)))).toNatClampNeg x0) (((36 + (4 * (t_told (61 : Int32).toNatClampNeg))) + 1)).toNatClampNeg x1) (((36 + (4 * (t_told (61 : Int32).toNatClampNeg))) + 2)).toNatClampNeg x2)))] H := hP
  have hD : va_D A [(a_t, .inr (5, [.int t_length, .ref a_t_text, .int t_spot, .ref a_t_told, .ref a_t_read, .ref a_t_s, .ref a_t_before, .int t_undoMany, .int t_shortAs, .int t_isolatorAs, .int t_worstWire, .int t_worstLost])), (a_t_told, .inl (cI, 67, .inl (upd (upd (upd t_told ((36 + (4 * (t_told (61 : Int32).toNatClampNeg)))).toNatClampNeg x0) (((36 + (4 * (t_told (61 : Int32).toNatClampNeg))) + 1)).toNatClampNeg x1) (((36 + (4 * (t_told (61 : Int32).toNatClampNeg))) + 2)).toNatClampNeg x2)))] := hD
  refine lv_aload_n hx hb dX6_sets_42 rfl (lv_at hl 1 rfl) ?_
  refine va_get (D := D) (ci := 5) (v := .ref a_t_told) (C := RX6) (T := TX6) (N := 12) hx hb hts inX6 hown hK hP 0 rfl rfl 3 (by decide) k_0 (fun _ h9 => h9) rfl dX6_sets_43 ?_
  refine lv_iload hx hb dX6_sets_46 (lv_at hl 0 rfl) ?_
  refine lv_iconst (v := 3) hx hb dX6_sets_48 (by decide) ?_
  refine lv_iadd hx hb dX6_sets_49 ?_
  refine lv_iload hx hb dX6_sets_50 (lv_at hl 5 rfl) ?_
  obtain ⟨gg, h⟩ := og h
  refine va_iast hx hb hK hP hD hS 1 0 rfl rfl gg dX6_sets_52 (fun H locs hP hD hS => ?_)
  have hP : va_P D vwCl [(a_t, .inr (5, [.int t_length, .ref a_t_text, .int t_spot, .ref a_t_told, .ref a_t_read, .ref a_t_s, .ref a_t_before, .int t_undoMany, .int t_shortAs, .int t_isolatorAs, .int t_worstWire, .int t_worstLost])), (a_t_told, .inl (cI, 67, .inl (upd (upd (upd (upd t_told ((36 + (4 * (t_told (61 : Int32).toNatClampNeg)))).toNatClampNeg x0) (((36 + (4 * (t_told (61 : Int32).toNatClampNeg))) + 1)).toNatClampNeg x1) (((36 + (4 * (t_told (61 : Int32).toNatClampNeg))) + 2)).toNatClampNeg x2) (((36 + (4 * (t_told (61 : Int32).toNatClampNeg))) + 3)).toNatClampNeg x3)))] H := hP
  have hD : va_D A [(a_t, .inr (5, [.int t_length, .ref a_t_text, .int t_spot, .ref a_t_told, .ref a_t_read, .ref a_t_s, .ref a_t_before, .int t_undoMany, .int t_shortAs, .int t_isolatorAs, .int t_worstWire, .int t_worstLost])), (a_t_told, .inl (cI, 67, .inl (upd (upd (upd (upd t_told ((36 + (4 * (t_told (61 : Int32).toNatClampNeg)))).toNatClampNeg x0) (((36 + (4 * (t_told (61 : Int32).toNatClampNeg))) + 1)).toNatClampNeg x1) (((36 + (4 * (t_told (61 : Int32).toNatClampNeg))) + 2)).toNatClampNeg x2) (((36 + (4 * (t_told (61 : Int32).toNatClampNeg))) + 3)).toNatClampNeg x3)))] := hD
  refine lv_aload_n hx hb dX6_sets_53 rfl (lv_at hl 1 rfl) ?_
  refine va_get (D := D) (ci := 5) (v := .ref a_t_told) (C := RX6) (T := TX6) (N := 12) hx hb hts inX6 hown hK hP 0 rfl rfl 3 (by decide) k_0 (fun _ h9 => h9) rfl dX6_sets_54 ?_
  refine lv_bipush (v := 61) hx hb dX6_sets_57 (by decide) ?_
  refine lv_dup2_11 hx hb dX6_sets_59 rfl rfl ?_
  refine va_iald hx hb hK hP 1 0 rfl rfl (i := 61) (show gi 61 67 by decide) dX6_sets_60 ?_
  refine lv_iconst (v := 1) hx hb dX6_sets_61 (by decide) ?_
  refine lv_iadd hx hb dX6_sets_62 ?_
  refine va_iast hx hb hK hP hD hS 1 0 rfl rfl (i := 61) (show gi 61 67 by decide) dX6_sets_63 (fun H locs hP hD hS => ?_)
  have hP : va_P D vwCl [(a_t, .inr (5, [.int t_length, .ref a_t_text, .int t_spot, .ref a_t_told, .ref a_t_read, .ref a_t_s, .ref a_t_before, .int t_undoMany, .int t_shortAs, .int t_isolatorAs, .int t_worstWire, .int t_worstLost])), (a_t_told, .inl (cI, 67, .inl (upd (upd (upd (upd (upd t_told ((36 + (4 * (t_told (61 : Int32).toNatClampNeg)))).toNatClampNeg x0) (((36 + (4 * (t_told (61 : Int32).toNatClampNeg))) + 1)).toNatClampNeg x1) (((36 + (4 * (t_told (61 : Int32).toNatClampNeg))) + 2)).toNatClampNeg x2) (((36 + (4 * (t_told (61 : Int32).toNatClampNeg))) + 3)).toNatClampNeg x3) (61 : Int32).toNatClampNeg (((upd (upd (upd (upd t_told ((36 + (4 * (t_told (61 : Int32).toNatClampNeg)))).toNatClampNeg x0) (((36 + (4 * (t_told (61 : Int32).toNatClampNeg))) + 1)).toNatClampNeg x1) (((36 + (4 * (t_told (61 : Int32).toNatClampNeg))) + 2)).toNatClampNeg x2) (((36 + (4 * (t_told (61 : Int32).toNatClampNeg))) + 3)).toNatClampNeg x3) (61 : Int32).toNatClampNeg) + 1))))] H := hP
  have hD : va_D A [(a_t, .inr (5, [.int t_length, .ref a_t_text, .int t_spot, .ref a_t_told, .ref a_t_read, .ref a_t_s, .ref a_t_before, .int t_undoMany, .int t_shortAs, .int t_isolatorAs, .int t_worstWire, .int t_worstLost])), (a_t_told, .inl (cI, 67, .inl (upd (upd (upd (upd (upd t_told ((36 + (4 * (t_told (61 : Int32).toNatClampNeg)))).toNatClampNeg x0) (((36 + (4 * (t_told (61 : Int32).toNatClampNeg))) + 1)).toNatClampNeg x1) (((36 + (4 * (t_told (61 : Int32).toNatClampNeg))) + 2)).toNatClampNeg x2) (((36 + (4 * (t_told (61 : Int32).toNatClampNeg))) + 3)).toNatClampNeg x3) (61 : Int32).toNatClampNeg (((upd (upd (upd (upd t_told ((36 + (4 * (t_told (61 : Int32).toNatClampNeg)))).toNatClampNeg x0) (((36 + (4 * (t_told (61 : Int32).toNatClampNeg))) + 1)).toNatClampNeg x1) (((36 + (4 * (t_told (61 : Int32).toNatClampNeg))) + 2)).toNatClampNeg x2) (((36 + (4 * (t_told (61 : Int32).toNatClampNeg))) + 3)).toNatClampNeg x3) (61 : Int32).toNatClampNeg) + 1))))] := hD
  obtain rfl := Option.some.inj h
  exact hQ 64 H locs ls hP hD hS dX6_sets_64

def f_X6_begins_2  : Nat → Int32 → FN → Option (FN)
  | 0, _, _ => none
  | n + 1, v1, w_p0 => (if 67 ≤ v1 then some (w_p0) else (if gi v1 67 then f_X6_begins_2  n (v1 + 1) (upd w_p0 (v1).toNatClampNeg 0) else none))
def f_X6_begins (p0 : FN) : Option (FN) := ((f_X6_begins_2  1000 0 p0).bind (fun (q2 : FN) => some ((upd (upd (upd (upd (upd q2 (62 : Int32).toNatClampNeg 30) (63 : Int32).toNatClampNeg 60) (64 : Int32).toNatClampNeg 2) (65 : Int32).toNatClampNeg 4) (66 : Int32).toNatClampNeg 3))))
abbrev rm_X6_begins : Room := { frames := 0, cells := 0, slots := 0, locals := 0 }
theorem cd_X6_begins : (yX6_begins).cls ≠ "java/lang/invoke/MethodHandle" ∧ (yX6_begins).cls ≠ "java/lang/invoke/VarHandle" ∧ (parseMethodDescriptor (yX6_begins).desc).map (fun d => d.parameters.length) = some 1 := by decide +kernel
set_option maxHeartbeats 4000000 in
set_option maxRecDepth 100000 in
theorem c_X6_begins (l : Launch) (D : va_G) (cI cS : ClassId) (a_p0 : Nat) (sz : Nat) (p0 : FN) (out : FN) (h : f_X6_begins p0 = some out) : Met l yX6_begins wsX6_begins rm_X6_begins (va_Pc [.ref a_p0] (GP D cI cS [(a_p0, .inl (cI, 67, .inl p0))] sz)) (QV D [(a_p0, .inl (cI, 67, .inl p0))] sz [(a_p0, .inl (cI, 67, .inl out))]) 0 0 (va_A [(a_p0, .inl (cI, 67, .inl p0))] sz) := by
  refine gm_v (cc := cX6_begins) (maxL := 2) (by decide) rfl (Nat.le_of_ble_eq_true rfl) ?_
  intro p e s m args below meth c A Q H locs ls hx hb hml hown hts hK hN hA hP hD hS hl hQ
  have hown : s.vm.findClass RX6 = some m.cls := hown
  have hl : lv_has ls 2 [(0, .ref a_p0)] := hl
  unfold f_X6_begins at h
  refine lv_iconst (v := 0) hx hb dX6_begins_0 (by decide) ?_
  refine lv_istore_n (lv' := [(1, .int 0), (0, .ref a_p0)]) hx hb dX6_begins_1 rfl hl (by decide) rfl (fun ls hl => ?_)
  obtain ⟨q2, hq2, h⟩ := ob h
  have lp2 : ∀ (n : Nat) (v1 : Int32) (w_p0 : FN) (H : Heap) (locs : List Loc) (ls : Array Slot), va_P D vwCl [(a_p0, .inl (cI, 67, .inl w_p0))] H → va_D A [(a_p0, .inl (cI, 67, .inl w_p0))] → va_S A s.heap H locs → lv_has ls 2 [(0, .ref a_p0), (1, .int v1)] → ∀ (q2 : FN), f_X6_begins_2  n v1 w_p0 = some q2 → (∀ (H : Heap) (locs : List Loc) (ls : Array Slot), va_P D vwCl [(a_p0, .inl (cI, 67, .inl q2))] H → va_D A [(a_p0, .inl (cI, 67, .inl q2))] → va_S A s.heap H locs → lv_has ls 2 [(0, .ref a_p0)] → W p l e rm_X6_begins s m args below meth c H locs 0 0 Q (F0 m 18 ls [])) → W p l e rm_X6_begins s m args below meth c H locs 0 0 Q (F0 m 2 ls []) := by
    intro n
    induction n with
    | zero => intro v1 w_p0 H locs ls hP hD hS hl q2 h kk; exact on_ h
    | succ n ih =>
      intro v1 w_p0 H locs ls hP hD hS hl q2 h kk
      rw [f_X6_begins_2] at h
      refine lv_iload_n hx hb dX6_begins_2 rfl (lv_at hl 1 rfl) ?_
      refine lv_bipush (v := 67) hx hb dX6_begins_3 (by decide) ?_
      refine lv_icmp_ge (tgt := 18) hx hb dX6_begins_5 (by decide) (fun cc => ?_) (fun cc => ?_)
      · have h := oi_t cc h
        obtain rfl := Option.some.inj h
        exact kk H locs ls hP hD hS (lv_sub hl [0] rfl)
      · have h := oi_f cc h
        refine lv_aload_n hx hb dX6_begins_8 rfl (lv_at hl 0 rfl) ?_
        refine lv_iload_n hx hb dX6_begins_9 rfl (lv_at hl 1 rfl) ?_
        refine lv_iconst (v := 0) hx hb dX6_begins_10 (by decide) ?_
        obtain ⟨gg, h⟩ := og h
        refine va_iast hx hb hK hP hD hS 0 0 rfl rfl gg dX6_begins_11 (fun H locs hP hD hS => ?_)
        have hP : va_P D vwCl [(a_p0, .inl (cI, 67, .inl (upd w_p0 (v1).toNatClampNeg 0)))] H := hP
        have hD : va_D A [(a_p0, .inl (cI, 67, .inl (upd w_p0 (v1).toNatClampNeg 0)))] := hD
        refine lv_iinc (v := (v1 + 1)) (lv' := [(1, .int (v1 + 1)), (0, .ref a_p0)]) hx hb dX6_begins_12 hl (k := 1) rfl (by first | rfl | decide) (by decide) rfl (fun ls hl => ?_)
        refine lv_goto (tgt := 2) hx hb dX6_begins_15 (by decide) ?_
        exact ih (v1 + 1) (upd w_p0 (v1).toNatClampNeg 0) H locs ls hP hD hS (lv_sub hl [1, 0] rfl) q2 h kk
  refine lp2 1000 0 p0 H locs ls hP hD hS (lv_sub hl [1, 0] rfl) q2 hq2 (fun H locs ls hP hD hS hl => ?_)
  refine lv_aload_n hx hb dX6_begins_18 rfl (lv_at hl 0 rfl) ?_
  refine lv_bipush (v := 62) hx hb dX6_begins_19 (by decide) ?_
  refine lv_bipush (v := 30) hx hb dX6_begins_21 (by decide) ?_
  refine va_iast hx hb hK hP hD hS 0 0 rfl rfl (i := 62) (show gi 62 67 by decide) dX6_begins_23 (fun H locs hP hD hS => ?_)
  have hP : va_P D vwCl [(a_p0, .inl (cI, 67, .inl (upd q2 (62 : Int32).toNatClampNeg 30)))] H := hP
  have hD : va_D A [(a_p0, .inl (cI, 67, .inl (upd q2 (62 : Int32).toNatClampNeg 30)))] := hD
  refine lv_aload_n hx hb dX6_begins_24 rfl (lv_at hl 0 rfl) ?_
  refine lv_bipush (v := 63) hx hb dX6_begins_25 (by decide) ?_
  refine lv_bipush (v := 60) hx hb dX6_begins_27 (by decide) ?_
  refine va_iast hx hb hK hP hD hS 0 0 rfl rfl (i := 63) (show gi 63 67 by decide) dX6_begins_29 (fun H locs hP hD hS => ?_)
  have hP : va_P D vwCl [(a_p0, .inl (cI, 67, .inl (upd (upd q2 (62 : Int32).toNatClampNeg 30) (63 : Int32).toNatClampNeg 60)))] H := hP
  have hD : va_D A [(a_p0, .inl (cI, 67, .inl (upd (upd q2 (62 : Int32).toNatClampNeg 30) (63 : Int32).toNatClampNeg 60)))] := hD
  refine lv_aload_n hx hb dX6_begins_30 rfl (lv_at hl 0 rfl) ?_
  refine lv_bipush (v := 64) hx hb dX6_begins_31 (by decide) ?_
  refine lv_iconst (v := 2) hx hb dX6_begins_33 (by decide) ?_
  refine va_iast hx hb hK hP hD hS 0 0 rfl rfl (i := 64) (show gi 64 67 by decide) dX6_begins_34 (fun H locs hP hD hS => ?_)
  have hP : va_P D vwCl [(a_p0, .inl (cI, 67, .inl (upd (upd (upd q2 (62 : Int32).toNatClampNeg 30) (63 : Int32).toNatClampNeg 60) (64 : Int32).toNatClampNeg 2)))] H := hP
  have hD : va_D A [(a_p0, .inl (cI, 67, .inl (upd (upd (upd q2 (62 : Int32).toNatClampNeg 30) (63 : Int32).toNatClampNeg 60) (64 : Int32).toNatClampNeg 2)))] := hD
  refine lv_aload_n hx hb dX6_begins_35 rfl (lv_at hl 0 rfl) ?_
  refine lv_bipush (v := 65) hx hb dX6_begins_36 (by decide) ?_
  refine lv_iconst (v := 4) hx hb dX6_begins_38 (by decide) ?_
  refine va_iast hx hb hK hP hD hS 0 0 rfl rfl (i := 65) (show gi 65 67 by decide) dX6_begins_39 (fun H locs hP hD hS => ?_)
  have hP : va_P D vwCl [(a_p0, .inl (cI, 67, .inl (upd (upd (upd (upd q2 (62 : Int32).toNatClampNeg 30) (63 : Int32).toNatClampNeg 60) (64 : Int32).toNatClampNeg 2) (65 : Int32).toNatClampNeg 4)))] H := hP
  have hD : va_D A [(a_p0, .inl (cI, 67, .inl (upd (upd (upd (upd q2 (62 : Int32).toNatClampNeg 30) (63 : Int32).toNatClampNeg 60) (64 : Int32).toNatClampNeg 2) (65 : Int32).toNatClampNeg 4)))] := hD
  refine lv_aload_n hx hb dX6_begins_40 rfl (lv_at hl 0 rfl) ?_
  refine lv_bipush (v := 66) hx hb dX6_begins_41 (by decide) ?_
  refine lv_iconst (v := 3) hx hb dX6_begins_43 (by decide) ?_
  refine va_iast hx hb hK hP hD hS 0 0 rfl rfl (i := 66) (show gi 66 67 by decide) dX6_begins_44 (fun H locs hP hD hS => ?_)
  have hP : va_P D vwCl [(a_p0, .inl (cI, 67, .inl (upd (upd (upd (upd (upd q2 (62 : Int32).toNatClampNeg 30) (63 : Int32).toNatClampNeg 60) (64 : Int32).toNatClampNeg 2) (65 : Int32).toNatClampNeg 4) (66 : Int32).toNatClampNeg 3)))] H := hP
  have hD : va_D A [(a_p0, .inl (cI, 67, .inl (upd (upd (upd (upd (upd q2 (62 : Int32).toNatClampNeg 30) (63 : Int32).toNatClampNeg 60) (64 : Int32).toNatClampNeg 2) (65 : Int32).toNatClampNeg 4) (66 : Int32).toNatClampNeg 3)))] := hD
  obtain rfl := Option.some.inj h
  exact hQ 45 H locs ls hP hD hS dX6_begins_45

def f_X6_anew_2  : Nat → Int32 → FN → Option (FN)
  | 0, _, _ => none
  | n + 1, v1, w_t_s => (if 87 ≤ v1 then some (w_t_s) else (if gi v1 87 then f_X6_anew_2  n (v1 + 1) (upd w_t_s (v1).toNatClampNeg 0) else none))
def f_X6_anew (t_s : FN) : Option (Int32 × FN) := ((f_X6_anew_2  1000 0 t_s).bind (fun (q2 : FN) => some (0, (upd q2 (85 : Int32).toNatClampNeg 1))))
abbrev rm_X6_anew : Room := { frames := 0, cells := 0, slots := 0, locals := 0 }
theorem cd_X6_anew : (yX6_anew).cls = RX6 ∧ (yX6_anew).cls ≠ "java/lang/invoke/MethodHandle" ∧ (yX6_anew).cls ≠ "java/lang/invoke/VarHandle" ∧ (parseMethodDescriptor (yX6_anew).desc).map (fun d => d.parameters.length) = some 0 := by decide +kernel
set_option maxHeartbeats 4000000 in
set_option maxRecDepth 100000 in
theorem c_X6_anew (l : Launch) (D : va_G) (cI cS : ClassId) (a_t a_t_s a_t_text a_t_told a_t_read a_t_before : Nat) (sz : Nat) (t_length : Int32) (t_spot : Int32) (t_undoMany : Int32) (t_shortAs : Int32) (t_isolatorAs : Int32) (t_worstWire : Int32) (t_worstLost : Int32) (t_s : FN) (out : Int32 × FN) (h : f_X6_anew t_s = some out) : Met l yX6_anew wsX6_anew rm_X6_anew (va_Pc [.ref a_t] (GP D cI cS [(a_t, .inr (5, [.int t_length, .ref a_t_text, .int t_spot, .ref a_t_told, .ref a_t_read, .ref a_t_s, .ref a_t_before, .int t_undoMany, .int t_shortAs, .int t_isolatorAs, .int t_worstWire, .int t_worstLost])), (a_t_s, .inl (cI, 87, .inl t_s))] sz)) (QV D [(a_t, .inr (5, [.int t_length, .ref a_t_text, .int t_spot, .ref a_t_told, .ref a_t_read, .ref a_t_s, .ref a_t_before, .int t_undoMany, .int t_shortAs, .int t_isolatorAs, .int t_worstWire, .int t_worstLost])), (a_t_s, .inl (cI, 87, .inl t_s))] sz [(a_t, .inr (5, [.int t_length, .ref a_t_text, .int t_spot, .ref a_t_told, .ref a_t_read, .ref a_t_s, .ref a_t_before, .int out.1, .int t_shortAs, .int t_isolatorAs, .int t_worstWire, .int t_worstLost])), (a_t_s, .inl (cI, 87, .inl out.2))]) 0 0 (va_A [(a_t, .inr (5, [.int t_length, .ref a_t_text, .int t_spot, .ref a_t_told, .ref a_t_read, .ref a_t_s, .ref a_t_before, .int t_undoMany, .int t_shortAs, .int t_isolatorAs, .int t_worstWire, .int t_worstLost])), (a_t_s, .inl (cI, 87, .inl t_s))] sz) := by
  refine gm_v (cc := cX6_anew) (maxL := 2) (by decide) rfl (Nat.le_of_ble_eq_true rfl) ?_
  intro p e s m args below meth c A Q H locs ls hx hb hml hown hts hK hN hA hP hD hS hl hQ
  have hown : s.vm.findClass RX6 = some m.cls := hown
  have hl : lv_has ls 2 [(0, .ref a_t)] := hl
  have inX6 : ∀ w ∈ wsX60, w ∈ wsX6_anew := by decide +kernel
  have k_0 := hts (.fieldLink RX6 19 "AlarmRingModel" "s" "[I") (by decide +kernel)
  have k_1 := hts (.fieldLink RX6 47 "AlarmRingModel" "undoMany" "I") (by decide +kernel)
  unfold f_X6_anew at h
  refine lv_iconst (v := 0) hx hb dX6_anew_0 (by decide) ?_
  refine lv_istore_n (lv' := [(1, .int 0), (0, .ref a_t)]) hx hb dX6_anew_1 rfl hl (by decide) rfl (fun ls hl => ?_)
  obtain ⟨q2, hq2, h⟩ := ob h
  have lp2 : ∀ (n : Nat) (v1 : Int32) (w_t_s : FN) (H : Heap) (locs : List Loc) (ls : Array Slot), va_P D vwCl [(a_t, .inr (5, [.int t_length, .ref a_t_text, .int t_spot, .ref a_t_told, .ref a_t_read, .ref a_t_s, .ref a_t_before, .int t_undoMany, .int t_shortAs, .int t_isolatorAs, .int t_worstWire, .int t_worstLost])), (a_t_s, .inl (cI, 87, .inl w_t_s))] H → va_D A [(a_t, .inr (5, [.int t_length, .ref a_t_text, .int t_spot, .ref a_t_told, .ref a_t_read, .ref a_t_s, .ref a_t_before, .int t_undoMany, .int t_shortAs, .int t_isolatorAs, .int t_worstWire, .int t_worstLost])), (a_t_s, .inl (cI, 87, .inl w_t_s))] → va_S A s.heap H locs → lv_has ls 2 [(0, .ref a_t), (1, .int v1)] → ∀ (q2 : FN), f_X6_anew_2  n v1 w_t_s = some q2 → (∀ (H : Heap) (locs : List Loc) (ls : Array Slot), va_P D vwCl [(a_t, .inr (5, [.int t_length, .ref a_t_text, .int t_spot, .ref a_t_told, .ref a_t_read, .ref a_t_s, .ref a_t_before, .int t_undoMany, .int t_shortAs, .int t_isolatorAs, .int t_worstWire, .int t_worstLost])), (a_t_s, .inl (cI, 87, .inl q2))] H → va_D A [(a_t, .inr (5, [.int t_length, .ref a_t_text, .int t_spot, .ref a_t_told, .ref a_t_read, .ref a_t_s, .ref a_t_before, .int t_undoMany, .int t_shortAs, .int t_isolatorAs, .int t_worstWire, .int t_worstLost])), (a_t_s, .inl (cI, 87, .inl q2))] → va_S A s.heap H locs → lv_has ls 2 [(0, .ref a_t)] → W p l e rm_X6_anew s m args below meth c H locs 0 0 Q (F0 m 21 ls [])) → W p l e rm_X6_anew s m args below meth c H locs 0 0 Q (F0 m 2 ls []) := by
    intro n
    induction n with
    | zero => intro v1 w_t_s H locs ls hP hD hS hl q2 h kk; exact on_ h
    | succ n ih =>
      intro v1 w_t_s H locs ls hP hD hS hl q2 h kk
      rw [f_X6_anew_2] at h
      refine lv_iload_n hx hb dX6_anew_2 rfl (lv_at hl 1 rfl) ?_
      refine lv_bipush (v := 87) hx hb dX6_anew_3 (by decide) ?_
      refine lv_icmp_ge (tgt := 21) hx hb dX6_anew_5 (by decide) (fun cc => ?_) (fun cc => ?_)
      · have h := oi_t cc h
        obtain rfl := Option.some.inj h
        exact kk H locs ls hP hD hS (lv_sub hl [0] rfl)
      · have h := oi_f cc h
        refine lv_aload_n hx hb dX6_anew_8 rfl (lv_at hl 0 rfl) ?_
        refine va_get (D := D) (ci := 5) (v := .ref a_t_s) (C := RX6) (T := TX6) (N := 12) hx hb hts inX6 hown hK hP 0 rfl rfl 5 (by decide) k_0 (fun _ h9 => h9) rfl dX6_anew_9 ?_
        refine lv_iload_n hx hb dX6_anew_12 rfl (lv_at hl 1 rfl) ?_
        refine lv_iconst (v := 0) hx hb dX6_anew_13 (by decide) ?_
        obtain ⟨gg, h⟩ := og h
        refine va_iast hx hb hK hP hD hS 1 0 rfl rfl gg dX6_anew_14 (fun H locs hP hD hS => ?_)
        have hP : va_P D vwCl [(a_t, .inr (5, [.int t_length, .ref a_t_text, .int t_spot, .ref a_t_told, .ref a_t_read, .ref a_t_s, .ref a_t_before, .int t_undoMany, .int t_shortAs, .int t_isolatorAs, .int t_worstWire, .int t_worstLost])), (a_t_s, .inl (cI, 87, .inl (upd w_t_s (v1).toNatClampNeg 0)))] H := hP
        have hD : va_D A [(a_t, .inr (5, [.int t_length, .ref a_t_text, .int t_spot, .ref a_t_told, .ref a_t_read, .ref a_t_s, .ref a_t_before, .int t_undoMany, .int t_shortAs, .int t_isolatorAs, .int t_worstWire, .int t_worstLost])), (a_t_s, .inl (cI, 87, .inl (upd w_t_s (v1).toNatClampNeg 0)))] := hD
        refine lv_iinc (v := (v1 + 1)) (lv' := [(1, .int (v1 + 1)), (0, .ref a_t)]) hx hb dX6_anew_15 hl (k := 1) rfl (by first | rfl | decide) (by decide) rfl (fun ls hl => ?_)
        refine lv_goto (tgt := 2) hx hb dX6_anew_18 (by decide) ?_
        exact ih (v1 + 1) (upd w_t_s (v1).toNatClampNeg 0) H locs ls hP hD hS (lv_sub hl [1, 0] rfl) q2 h kk
  refine lp2 1000 0 t_s H locs ls hP hD hS (lv_sub hl [1, 0] rfl) q2 hq2 (fun H locs ls hP hD hS hl => ?_)
  refine lv_aload_n hx hb dX6_anew_21 rfl (lv_at hl 0 rfl) ?_
  refine va_get (D := D) (ci := 5) (v := .ref a_t_s) (C := RX6) (T := TX6) (N := 12) hx hb hts inX6 hown hK hP 0 rfl rfl 5 (by decide) k_0 (fun _ h9 => h9) rfl dX6_anew_22 ?_
  refine lv_bipush (v := 85) hx hb dX6_anew_25 (by decide) ?_
  refine lv_iconst (v := 1) hx hb dX6_anew_27 (by decide) ?_
  refine va_iast hx hb hK hP hD hS 1 0 rfl rfl (i := 85) (show gi 85 87 by decide) dX6_anew_28 (fun H locs hP hD hS => ?_)
  have hP : va_P D vwCl [(a_t, .inr (5, [.int t_length, .ref a_t_text, .int t_spot, .ref a_t_told, .ref a_t_read, .ref a_t_s, .ref a_t_before, .int t_undoMany, .int t_shortAs, .int t_isolatorAs, .int t_worstWire, .int t_worstLost])), (a_t_s, .inl (cI, 87, .inl (upd q2 (85 : Int32).toNatClampNeg 1)))] H := hP
  have hD : va_D A [(a_t, .inr (5, [.int t_length, .ref a_t_text, .int t_spot, .ref a_t_told, .ref a_t_read, .ref a_t_s, .ref a_t_before, .int t_undoMany, .int t_shortAs, .int t_isolatorAs, .int t_worstWire, .int t_worstLost])), (a_t_s, .inl (cI, 87, .inl (upd q2 (85 : Int32).toNatClampNeg 1)))] := hD
  refine lv_aload_n hx hb dX6_anew_29 rfl (lv_at hl 0 rfl) ?_
  refine lv_iconst (v := 0) hx hb dX6_anew_30 (by decide) ?_
  refine va_put (D := D) (ci := 5) (v := .int 0) (ty := .int) (C := RX6) (T := TX6) (N := 12) hx hb hts inX6 tyX6 tyX6_ok nmX6 hown hK hP hD hS 0 rfl rfl 7 (by decide) k_1 (fun _ h9 => h9) rfl (by decide +kernel) rfl rfl (Nat.le_of_ble_eq_true rfl) dX6_anew_31 (fun H locs hP hD hS => ?_)
  have hP : va_P D vwCl [(a_t, .inr (5, [.int t_length, .ref a_t_text, .int t_spot, .ref a_t_told, .ref a_t_read, .ref a_t_s, .ref a_t_before, .int 0, .int t_shortAs, .int t_isolatorAs, .int t_worstWire, .int t_worstLost])), (a_t_s, .inl (cI, 87, .inl (upd q2 (85 : Int32).toNatClampNeg 1)))] H := hP
  have hD : va_D A [(a_t, .inr (5, [.int t_length, .ref a_t_text, .int t_spot, .ref a_t_told, .ref a_t_read, .ref a_t_s, .ref a_t_before, .int 0, .int t_shortAs, .int t_isolatorAs, .int t_worstWire, .int t_worstLost])), (a_t_s, .inl (cI, 87, .inl (upd q2 (85 : Int32).toNatClampNeg 1)))] := hD
  obtain rfl := Option.some.inj h
  exact hQ 34 H locs ls hP hD hS dX6_anew_34

def f_X6_in (x0 : Int64) (x1 : Int64) (x2 : Int64) : Option (Int32) := (if (lg_cmp x0 x1) < 0 then some (0) else (if 0 < (lg_cmp x0 x2) then some (0) else some (1)))
abbrev rm_X6_in : Room := { frames := 0, cells := 0, slots := 0, locals := 0 }
theorem cd_X6_in : (yX6_in).cls ≠ "java/lang/invoke/MethodHandle" ∧ (yX6_in).cls ≠ "java/lang/invoke/VarHandle" ∧ (parseMethodDescriptor (yX6_in).desc).map (fun d => d.parameters.length) = some 3 := by decide +kernel
set_option maxHeartbeats 4000000 in
set_option maxRecDepth 100000 in
theorem c_X6_in (l : Launch) (D : va_G) (cI cS : ClassId) (sz : Nat) (x0 : Int64) (x1 : Int64) (x2 : Int64) (out : Int32) (h : f_X6_in x0 x1 x2 = some out) : Met l yX6_in wsX6_in rm_X6_in (va_Pc [.long x0, .long x1, .long x2] (GP D cI cS [] sz)) (QI D [] sz [] out) 0 0 (va_A [] sz) := by
  refine gm_i (cc := cX6_in) (maxL := 6) (rt := .boolean) (by decide) rfl (Nat.le_of_ble_eq_true rfl) ?_
  intro p e s m args below meth c A Q H locs ls hx hb hml hown hts hK hN hA hP hD hS hl hQ
  have hown : s.vm.findClass RX6 = some m.cls := hown
  have hl : lv_has ls 6 [(0, .long x0), (2, .long x1), (4, .long x2)] := hl
  unfold f_X6_in at h
  refine lv_lload_n hx hb dX6_in_0 rfl (lv_at hl 0 rfl) ?_
  refine lv_lload_n hx hb dX6_in_1 rfl (lv_at hl 1 rfl) ?_
  refine W.lcmp hx hb dX6_in_2 ?_
  refine lv_if_lt (tgt := 17) hx hb dX6_in_3 (by decide) (fun cc => ?_) (fun cc => ?_)
  · have h := oi_t cc h
    refine lv_iconst (v := 0) hx hb dX6_in_17 (by decide) ?_
    obtain rfl := Option.some.inj h
    exact hQ 18 H locs ls (nz (.inl rfl)) hP hD hS dX6_in_18
  · have h := oi_f cc h
    refine lv_lload_n hx hb dX6_in_6 rfl (lv_at hl 0 rfl) ?_
    refine lv_lload hx hb dX6_in_7 (lv_at hl 2 rfl) ?_
    refine W.lcmp hx hb dX6_in_9 ?_
    refine lv_if_gt (tgt := 17) hx hb dX6_in_10 (by decide) (fun cc => ?_) (fun cc => ?_)
    · have h := oi_t cc h
      refine lv_iconst (v := 0) hx hb dX6_in_17 (by decide) ?_
      obtain rfl := Option.some.inj h
      exact hQ 18 H locs ls (nz (.inl rfl)) hP hD hS dX6_in_18
    · have h := oi_f cc h
      refine lv_iconst (v := 1) hx hb dX6_in_13 (by decide) ?_
      refine lv_goto (tgt := 18) hx hb dX6_in_14 (by decide) ?_
      obtain rfl := Option.some.inj h
      exact hQ 18 H locs ls (nz (.inr rfl)) hP hD hS dX6_in_18

def f_X6_write (t_length : Int32) (t_text : FN) (x0 : Int32) : Option (Int32 × Int32 × FN) := ((f_X6_in (x0).toInt64 32 126).bind (fun u8 => (if u8 = 0 then some ((-1), t_length, t_text) else (if t_length = 200 then some ((-3), t_length, t_text) else (if gi t_length 200 then some ((t_length + 1), (t_length + 1), (upd t_text (t_length).toNatClampNeg x0)) else none)))))
abbrev rm_X6_write : Room := { frames := 1, cells := 0, slots := 0, locals := 25 }
theorem cd_X6_write : (yX6_write).cls = RX6 ∧ (yX6_write).cls ≠ "java/lang/invoke/MethodHandle" ∧ (yX6_write).cls ≠ "java/lang/invoke/VarHandle" ∧ (parseMethodDescriptor (yX6_write).desc).map (fun d => d.parameters.length) = some 1 := by decide +kernel
set_option maxHeartbeats 4000000 in
set_option maxRecDepth 100000 in
theorem c_X6_write (l : Launch) (D : va_G) (cI cS : ClassId) (a_t a_t_text a_t_told a_t_read a_t_s a_t_before : Nat) (sz : Nat) (t_length : Int32) (t_spot : Int32) (t_undoMany : Int32) (t_shortAs : Int32) (t_isolatorAs : Int32) (t_worstWire : Int32) (t_worstLost : Int32) (t_text : FN) (x0 : Int32) (out : Int32 × Int32 × FN) (h : f_X6_write t_length t_text x0 = some out) : Met l yX6_write wsX6_write rm_X6_write (va_Pc [.ref a_t, .int x0] (GP D cI cS [(a_t, .inr (5, [.int t_length, .ref a_t_text, .int t_spot, .ref a_t_told, .ref a_t_read, .ref a_t_s, .ref a_t_before, .int t_undoMany, .int t_shortAs, .int t_isolatorAs, .int t_worstWire, .int t_worstLost])), (a_t_text, .inl (cI, 200, .inl t_text))] sz)) (QI D [(a_t, .inr (5, [.int t_length, .ref a_t_text, .int t_spot, .ref a_t_told, .ref a_t_read, .ref a_t_s, .ref a_t_before, .int t_undoMany, .int t_shortAs, .int t_isolatorAs, .int t_worstWire, .int t_worstLost])), (a_t_text, .inl (cI, 200, .inl t_text))] sz [(a_t, .inr (5, [.int out.2.1, .ref a_t_text, .int t_spot, .ref a_t_told, .ref a_t_read, .ref a_t_s, .ref a_t_before, .int t_undoMany, .int t_shortAs, .int t_isolatorAs, .int t_worstWire, .int t_worstLost])), (a_t_text, .inl (cI, 200, .inl out.2.2))] out.1) 0 0 (va_A [(a_t, .inr (5, [.int t_length, .ref a_t_text, .int t_spot, .ref a_t_told, .ref a_t_read, .ref a_t_s, .ref a_t_before, .int t_undoMany, .int t_shortAs, .int t_isolatorAs, .int t_worstWire, .int t_worstLost])), (a_t_text, .inl (cI, 200, .inl t_text))] sz) := by
  refine gm_i (cc := cX6_write) (maxL := 2) (rt := .int) (by decide) rfl (Nat.le_of_ble_eq_true rfl) ?_
  intro p e s m args below meth c A Q H locs ls hx hb hml hown hts hK hN hA hP hD hS hl hQ
  have hown : s.vm.findClass RX6 = some m.cls := hown
  have hl : lv_has ls 2 [(0, .ref a_t), (1, .int x0)] := hl
  have inX6 : ∀ w ∈ wsX60, w ∈ wsX6_write := by decide +kernel
  have k_0 := hts (.constantLong RX6 50 (32)) (by decide +kernel)
  have k_1 := hts (.constantLong RX6 52 (126)) (by decide +kernel)
  have k_2 := hts (.fieldLink RX6 58 "AlarmRingModel" "length" "I") (by decide +kernel)
  have k_3 := hts (.fieldLink RX6 7 "AlarmRingModel" "text" "[I") (by decide +kernel)
  unfold f_X6_write at h
  refine lv_iload_n hx hb dX6_write_0 rfl (lv_at hl 1 rfl) ?_
  refine lv_i2l (v := (x0).toInt64) hx hb dX6_write_1 rfl ?_
  refine lv_ldc2 (v := 32) hx hb hown k_0 dX6_write_2 ?_
  refine lv_ldc2 (v := 126) hx hb hown k_1 dX6_write_5 ?_
  obtain ⟨u8, hu8, h⟩ := ob h
  refine gS_i (wc := []) (wr := [(a_t, .inr (5, [.int t_length, .ref a_t_text, .int t_spot, .ref a_t_told, .ref a_t_read, .ref a_t_s, .ref a_t_before, .int t_undoMany, .int t_shortAs, .int t_isolatorAs, .int t_worstWire, .int t_worstLost])), (a_t_text, .inl (cI, 200, .inl t_text))]) (w1 := []) (v := u8) (As := [.long (x0).toInt64, .long 32, .long 126]) (rest := []) ⟨hx, hb, hml, hown, hts⟩ (c_X6_in l D cI cS  H.size (x0).toInt64 32 126 u8 hu8) (va_cwS 3 hts gX6_write_X6_in rfl rfl rfl cd_X6_in ⟨Nat.le_of_ble_eq_true rfl, Nat.le_of_ble_eq_true rfl⟩) hK hN hP hD hS hA [] [0, 1] rfl rfl (by decide) (by decide) (by decide) rfl hl.1 rfl (Nat.le_of_ble_eq_true rfl) dX6_write_8 ⟨Nat.zero_le _, Nat.zero_le _⟩ (fun H locs hP hD hS => ?_)
  have hP : va_P D vwCl [(a_t, .inr (5, [.int t_length, .ref a_t_text, .int t_spot, .ref a_t_told, .ref a_t_read, .ref a_t_s, .ref a_t_before, .int t_undoMany, .int t_shortAs, .int t_isolatorAs, .int t_worstWire, .int t_worstLost])), (a_t_text, .inl (cI, 200, .inl t_text))] H := hP
  have hD : va_D A [(a_t, .inr (5, [.int t_length, .ref a_t_text, .int t_spot, .ref a_t_told, .ref a_t_read, .ref a_t_s, .ref a_t_before, .int t_undoMany, .int t_shortAs, .int t_isolatorAs, .int t_worstWire, .int t_worstLost])), (a_t_text, .inl (cI, 200, .inl t_text))] := hD
  refine lv_if_ne (tgt := 16) hx hb dX6_write_11 (by decide) (fun cc => ?_) (fun cc => ?_)
  · have h := oi_f cc h
    refine lv_aload_n hx hb dX6_write_16 rfl (lv_at hl 0 rfl) ?_
    refine va_get (D := D) (ci := 5) (v := .int t_length) (C := RX6) (T := TX6) (N := 12) hx hb hts inX6 hown hK hP 0 rfl rfl 0 (by decide) k_2 (fun _ h9 => h9) rfl dX6_write_17 ?_
    refine lv_sipush (v := 200) hx hb dX6_write_20 (by decide) ?_
    refine lv_icmp_ne (tgt := 29) hx hb dX6_write_23 (by decide) (fun cc => ?_) (fun cc => ?_)
    · have h := oi_f cc h
      refine lv_aload_n hx hb dX6_write_29 rfl (lv_at hl 0 rfl) ?_
      refine va_get (D := D) (ci := 5) (v := .ref a_t_text) (C := RX6) (T := TX6) (N := 12) hx hb hts inX6 hown hK hP 0 rfl rfl 1 (by decide) k_3 (fun _ h9 => h9) rfl dX6_write_30 ?_
      refine lv_aload_n hx hb dX6_write_33 rfl (lv_at hl 0 rfl) ?_
      refine va_get (D := D) (ci := 5) (v := .int t_length) (C := RX6) (T := TX6) (N := 12) hx hb hts inX6 hown hK hP 0 rfl rfl 0 (by decide) k_2 (fun _ h9 => h9) rfl dX6_write_34 ?_
      refine lv_iload_n hx hb dX6_write_37 rfl (lv_at hl 1 rfl) ?_
      obtain ⟨gg, h⟩ := og h
      refine va_iast hx hb hK hP hD hS 1 0 rfl rfl gg dX6_write_38 (fun H locs hP hD hS => ?_)
      have hP : va_P D vwCl [(a_t, .inr (5, [.int t_length, .ref a_t_text, .int t_spot, .ref a_t_told, .ref a_t_read, .ref a_t_s, .ref a_t_before, .int t_undoMany, .int t_shortAs, .int t_isolatorAs, .int t_worstWire, .int t_worstLost])), (a_t_text, .inl (cI, 200, .inl (upd t_text (t_length).toNatClampNeg x0)))] H := hP
      have hD : va_D A [(a_t, .inr (5, [.int t_length, .ref a_t_text, .int t_spot, .ref a_t_told, .ref a_t_read, .ref a_t_s, .ref a_t_before, .int t_undoMany, .int t_shortAs, .int t_isolatorAs, .int t_worstWire, .int t_worstLost])), (a_t_text, .inl (cI, 200, .inl (upd t_text (t_length).toNatClampNeg x0)))] := hD
      refine lv_aload_n hx hb dX6_write_39 rfl (lv_at hl 0 rfl) ?_
      refine lv_dup hx hb dX6_write_40 rfl ?_
      refine va_get (D := D) (ci := 5) (v := .int t_length) (C := RX6) (T := TX6) (N := 12) hx hb hts inX6 hown hK hP 0 rfl rfl 0 (by decide) k_2 (fun _ h9 => h9) rfl dX6_write_41 ?_
      refine lv_iconst (v := 1) hx hb dX6_write_44 (by decide) ?_
      refine lv_iadd hx hb dX6_write_45 ?_
      refine va_put (D := D) (ci := 5) (v := .int (t_length + 1)) (ty := .int) (C := RX6) (T := TX6) (N := 12) hx hb hts inX6 tyX6 tyX6_ok nmX6 hown hK hP hD hS 0 rfl rfl 0 (by decide) k_2 (fun _ h9 => h9) rfl (by decide +kernel) rfl rfl (Nat.le_of_ble_eq_true rfl) dX6_write_46 (fun H locs hP hD hS => ?_)
      have hP : va_P D vwCl [(a_t, .inr (5, [.int (t_length + 1), .ref a_t_text, .int t_spot, .ref a_t_told, .ref a_t_read, .ref a_t_s, .ref a_t_before, .int t_undoMany, .int t_shortAs, .int t_isolatorAs, .int t_worstWire, .int t_worstLost])), (a_t_text, .inl (cI, 200, .inl (upd t_text (t_length).toNatClampNeg x0)))] H := hP
      have hD : va_D A [(a_t, .inr (5, [.int (t_length + 1), .ref a_t_text, .int t_spot, .ref a_t_told, .ref a_t_read, .ref a_t_s, .ref a_t_before, .int t_undoMany, .int t_shortAs, .int t_isolatorAs, .int t_worstWire, .int t_worstLost])), (a_t_text, .inl (cI, 200, .inl (upd t_text (t_length).toNatClampNeg x0)))] := hD
      refine lv_aload_n hx hb dX6_write_49 rfl (lv_at hl 0 rfl) ?_
      refine va_get (D := D) (ci := 5) (v := .int (t_length + 1)) (C := RX6) (T := TX6) (N := 12) hx hb hts inX6 hown hK hP 0 rfl rfl 0 (by decide) k_2 (fun _ h9 => h9) rfl dX6_write_50 ?_
      obtain rfl := Option.some.inj h
      exact hQ 53 H locs ls rfl hP hD hS dX6_write_53
    · have h := oi_t cc h
      refine lv_bipush (v := (-3)) hx hb dX6_write_26 (by decide) ?_
      obtain rfl := Option.some.inj h
      exact hQ 28 H locs ls rfl hP hD hS dX6_write_28
  · have h := oi_t cc h
    refine lv_iconst (v := (-1)) hx hb dX6_write_14 (by decide) ?_
    obtain rfl := Option.some.inj h
    exact hQ 15 H locs ls rfl hP hD hS dX6_write_15

def f_X6_wipe (t_length : Int32) : Option (Int32 × Int32) := some (t_length, 0)
abbrev rm_X6_wipe : Room := { frames := 0, cells := 0, slots := 0, locals := 0 }
theorem cd_X6_wipe : (yX6_wipe).cls = RX6 ∧ (yX6_wipe).cls ≠ "java/lang/invoke/MethodHandle" ∧ (yX6_wipe).cls ≠ "java/lang/invoke/VarHandle" ∧ (parseMethodDescriptor (yX6_wipe).desc).map (fun d => d.parameters.length) = some 0 := by decide +kernel
set_option maxHeartbeats 4000000 in
set_option maxRecDepth 100000 in
theorem c_X6_wipe (l : Launch) (D : va_G) (cI cS : ClassId) (a_t a_t_text a_t_told a_t_read a_t_s a_t_before : Nat) (sz : Nat) (t_length : Int32) (t_spot : Int32) (t_undoMany : Int32) (t_shortAs : Int32) (t_isolatorAs : Int32) (t_worstWire : Int32) (t_worstLost : Int32) (out : Int32 × Int32) (h : f_X6_wipe t_length = some out) : Met l yX6_wipe wsX6_wipe rm_X6_wipe (va_Pc [.ref a_t] (GP D cI cS [(a_t, .inr (5, [.int t_length, .ref a_t_text, .int t_spot, .ref a_t_told, .ref a_t_read, .ref a_t_s, .ref a_t_before, .int t_undoMany, .int t_shortAs, .int t_isolatorAs, .int t_worstWire, .int t_worstLost]))] sz)) (QI D [(a_t, .inr (5, [.int t_length, .ref a_t_text, .int t_spot, .ref a_t_told, .ref a_t_read, .ref a_t_s, .ref a_t_before, .int t_undoMany, .int t_shortAs, .int t_isolatorAs, .int t_worstWire, .int t_worstLost]))] sz [(a_t, .inr (5, [.int out.2, .ref a_t_text, .int t_spot, .ref a_t_told, .ref a_t_read, .ref a_t_s, .ref a_t_before, .int t_undoMany, .int t_shortAs, .int t_isolatorAs, .int t_worstWire, .int t_worstLost]))] out.1) 0 0 (va_A [(a_t, .inr (5, [.int t_length, .ref a_t_text, .int t_spot, .ref a_t_told, .ref a_t_read, .ref a_t_s, .ref a_t_before, .int t_undoMany, .int t_shortAs, .int t_isolatorAs, .int t_worstWire, .int t_worstLost]))] sz) := by
  refine gm_i (cc := cX6_wipe) (maxL := 2) (rt := .int) (by decide) rfl (Nat.le_of_ble_eq_true rfl) ?_
  intro p e s m args below meth c A Q H locs ls hx hb hml hown hts hK hN hA hP hD hS hl hQ
  have hown : s.vm.findClass RX6 = some m.cls := hown
  have hl : lv_has ls 2 [(0, .ref a_t)] := hl
  have inX6 : ∀ w ∈ wsX60, w ∈ wsX6_wipe := by decide +kernel
  have k_0 := hts (.fieldLink RX6 58 "AlarmRingModel" "length" "I") (by decide +kernel)
  unfold f_X6_wipe at h
  refine lv_aload_n hx hb dX6_wipe_0 rfl (lv_at hl 0 rfl) ?_
  refine va_get (D := D) (ci := 5) (v := .int t_length) (C := RX6) (T := TX6) (N := 12) hx hb hts inX6 hown hK hP 0 rfl rfl 0 (by decide) k_0 (fun _ h9 => h9) rfl dX6_wipe_1 ?_
  refine lv_istore_n (lv' := [(1, .int t_length), (0, .ref a_t)]) hx hb dX6_wipe_4 rfl hl (by decide) rfl (fun ls hl => ?_)
  refine lv_aload_n hx hb dX6_wipe_5 rfl (lv_at hl 1 rfl) ?_
  refine lv_iconst (v := 0) hx hb dX6_wipe_6 (by decide) ?_
  refine va_put (D := D) (ci := 5) (v := .int 0) (ty := .int) (C := RX6) (T := TX6) (N := 12) hx hb hts inX6 tyX6 tyX6_ok nmX6 hown hK hP hD hS 0 rfl rfl 0 (by decide) k_0 (fun _ h9 => h9) rfl (by decide +kernel) rfl rfl (Nat.le_of_ble_eq_true rfl) dX6_wipe_7 (fun H locs hP hD hS => ?_)
  have hP : va_P D vwCl [(a_t, .inr (5, [.int 0, .ref a_t_text, .int t_spot, .ref a_t_told, .ref a_t_read, .ref a_t_s, .ref a_t_before, .int t_undoMany, .int t_shortAs, .int t_isolatorAs, .int t_worstWire, .int t_worstLost]))] H := hP
  have hD : va_D A [(a_t, .inr (5, [.int 0, .ref a_t_text, .int t_spot, .ref a_t_told, .ref a_t_read, .ref a_t_s, .ref a_t_before, .int t_undoMany, .int t_shortAs, .int t_isolatorAs, .int t_worstWire, .int t_worstLost]))] := hD
  refine lv_iload_n hx hb dX6_wipe_10 rfl (lv_at hl 0 rfl) ?_
  obtain rfl := Option.some.inj h
  exact hQ 11 H locs ls rfl hP hD hS dX6_wipe_11

def f_X6_byteAt (t_length : Int32) (t_text : FN) (x0 : Int32) : Option (Int32) := (if t_length ≤ x0 then some (0) else (if gi x0 200 then some ((t_text (x0).toNatClampNeg)) else none))
abbrev rm_X6_byteAt : Room := { frames := 0, cells := 0, slots := 0, locals := 0 }
theorem cd_X6_byteAt : (yX6_byteAt).cls = RX6 ∧ (yX6_byteAt).cls ≠ "java/lang/invoke/MethodHandle" ∧ (yX6_byteAt).cls ≠ "java/lang/invoke/VarHandle" ∧ (parseMethodDescriptor (yX6_byteAt).desc).map (fun d => d.parameters.length) = some 1 := by decide +kernel
set_option maxHeartbeats 4000000 in
set_option maxRecDepth 100000 in
theorem c_X6_byteAt (l : Launch) (D : va_G) (cI cS : ClassId) (a_t a_t_text a_t_told a_t_read a_t_s a_t_before : Nat) (sz : Nat) (t_length : Int32) (t_spot : Int32) (t_undoMany : Int32) (t_shortAs : Int32) (t_isolatorAs : Int32) (t_worstWire : Int32) (t_worstLost : Int32) (t_text : FN) (x0 : Int32) (out : Int32) (h : f_X6_byteAt t_length t_text x0 = some out) : Met l yX6_byteAt wsX6_byteAt rm_X6_byteAt (va_Pc [.ref a_t, .int x0] (GP D cI cS [(a_t, .inr (5, [.int t_length, .ref a_t_text, .int t_spot, .ref a_t_told, .ref a_t_read, .ref a_t_s, .ref a_t_before, .int t_undoMany, .int t_shortAs, .int t_isolatorAs, .int t_worstWire, .int t_worstLost])), (a_t_text, .inl (cI, 200, .inl t_text))] sz)) (QI D [(a_t, .inr (5, [.int t_length, .ref a_t_text, .int t_spot, .ref a_t_told, .ref a_t_read, .ref a_t_s, .ref a_t_before, .int t_undoMany, .int t_shortAs, .int t_isolatorAs, .int t_worstWire, .int t_worstLost])), (a_t_text, .inl (cI, 200, .inl t_text))] sz [(a_t, .inr (5, [.int t_length, .ref a_t_text, .int t_spot, .ref a_t_told, .ref a_t_read, .ref a_t_s, .ref a_t_before, .int t_undoMany, .int t_shortAs, .int t_isolatorAs, .int t_worstWire, .int t_worstLost])), (a_t_text, .inl (cI, 200, .inl t_text))] out) 0 0 (va_A [(a_t, .inr (5, [.int t_length, .ref a_t_text, .int t_spot, .ref a_t_told, .ref a_t_read, .ref a_t_s, .ref a_t_before, .int t_undoMany, .int t_shortAs, .int t_isolatorAs, .int t_worstWire, .int t_worstLost])), (a_t_text, .inl (cI, 200, .inl t_text))] sz) := by
  refine gm_i (cc := cX6_byteAt) (maxL := 2) (rt := .int) (by decide) rfl (Nat.le_of_ble_eq_true rfl) ?_
  intro p e s m args below meth c A Q H locs ls hx hb hml hown hts hK hN hA hP hD hS hl hQ
  have hown : s.vm.findClass RX6 = some m.cls := hown
  have hl : lv_has ls 2 [(0, .ref a_t), (1, .int x0)] := hl
  have inX6 : ∀ w ∈ wsX60, w ∈ wsX6_byteAt := by decide +kernel
  have k_0 := hts (.fieldLink RX6 58 "AlarmRingModel" "length" "I") (by decide +kernel)
  have k_1 := hts (.fieldLink RX6 7 "AlarmRingModel" "text" "[I") (by decide +kernel)
  unfold f_X6_byteAt at h
  refine lv_iload_n hx hb dX6_byteAt_0 rfl (lv_at hl 1 rfl) ?_
  refine lv_aload_n hx hb dX6_byteAt_1 rfl (lv_at hl 0 rfl) ?_
  refine va_get (D := D) (ci := 5) (v := .int t_length) (C := RX6) (T := TX6) (N := 12) hx hb hts inX6 hown hK hP 0 rfl rfl 0 (by decide) k_0 (fun _ h9 => h9) rfl dX6_byteAt_2 ?_
  refine lv_icmp_ge (tgt := 17) hx hb dX6_byteAt_5 (by decide) (fun cc => ?_) (fun cc => ?_)
  · have h := oi_t cc h
    refine lv_iconst (v := 0) hx hb dX6_byteAt_17 (by decide) ?_
    obtain rfl := Option.some.inj h
    exact hQ 18 H locs ls rfl hP hD hS dX6_byteAt_18
  · have h := oi_f cc h
    refine lv_aload_n hx hb dX6_byteAt_8 rfl (lv_at hl 0 rfl) ?_
    refine va_get (D := D) (ci := 5) (v := .ref a_t_text) (C := RX6) (T := TX6) (N := 12) hx hb hts inX6 hown hK hP 0 rfl rfl 1 (by decide) k_1 (fun _ h9 => h9) rfl dX6_byteAt_9 ?_
    refine lv_iload_n hx hb dX6_byteAt_12 rfl (lv_at hl 1 rfl) ?_
    obtain ⟨gg, h⟩ := og h
    refine va_iald hx hb hK hP 1 0 rfl rfl gg dX6_byteAt_13 ?_
    refine lv_goto (tgt := 18) hx hb dX6_byteAt_14 (by decide) ?_
    obtain rfl := Option.some.inj h
    exact hQ 18 H locs ls rfl hP hD hS dX6_byteAt_18

def f_X6_number_6 (t_length : Int32) (t_text : FN) : Nat → Int32 → Int32 → Int32 → Option (Int32 × Int32 × Int32)
  | 0, _, _, _ => none
  | n + 1, v5, v6, w_t_spot => (if 2 ≤ v6 then some (v5, v6, w_t_spot) else ((f_X6_byteAt t_length t_text w_t_spot).bind (fun u17 => ((f_X6_in (u17).toInt64 48 57).bind (fun u27 => (if u27 = 0 then some (v5, v6, w_t_spot) else ((f_X6_byteAt t_length t_text w_t_spot).bind (fun u43 => f_X6_number_6 t_length t_text n (((10 * v5) + u43) - 48) (v6 + 1) (w_t_spot + 1)))))))))
def f_X6_number (t_length : Int32) (t_spot : Int32) (t_text : FN) (t_read : FN) (x0 : Int32) (x1 : Int32) (x2 : Int32) (x3 : Int32) : Option (Int32 × Int32 × FN) := ((f_X6_number_6 t_length t_text 1000 0 0 t_spot).bind (fun (q6 : Int32 × Int32 × Int32) => (if gi x0 67 then (((if q6.2.1 ≤ 0 then some (0) else ((f_X6_in (q6.1).toInt64 (x1).toInt64 (x2).toInt64).bind (fun u88 => (if u88 = 0 then some (0) else ((f_X6_byteAt t_length t_text q6.2.2).bind (fun u99 => (if u99 = x3 then some (1) else some (0))))))))).bind (fun (u112 : Int32) => (if (u112 = 0 ∨ u112 = 1) then some (u112, (q6.2.2 + 1), (upd t_read (x0).toNatClampNeg q6.1)) else none))) else none)))
abbrev rm_X6_number : Room := { frames := 1, cells := 0, slots := 0, locals := 25 }
theorem cd_X6_number : (yX6_number).cls = RX6 ∧ (yX6_number).cls ≠ "java/lang/invoke/MethodHandle" ∧ (yX6_number).cls ≠ "java/lang/invoke/VarHandle" ∧ (parseMethodDescriptor (yX6_number).desc).map (fun d => d.parameters.length) = some 4 := by decide +kernel
set_option maxHeartbeats 4000000 in
set_option maxRecDepth 100000 in
theorem c_X6_number (l : Launch) (D : va_G) (cI cS : ClassId) (a_t a_t_text a_t_read a_t_told a_t_s a_t_before : Nat) (sz : Nat) (t_length : Int32) (t_spot : Int32) (t_undoMany : Int32) (t_shortAs : Int32) (t_isolatorAs : Int32) (t_worstWire : Int32) (t_worstLost : Int32) (t_text : FN) (t_read : FN) (x0 : Int32) (x1 : Int32) (x2 : Int32) (x3 : Int32) (out : Int32 × Int32 × FN) (h : f_X6_number t_length t_spot t_text t_read x0 x1 x2 x3 = some out) : Met l yX6_number wsX6_number rm_X6_number (va_Pc [.ref a_t, .int x0, .int x1, .int x2, .int x3] (GP D cI cS [(a_t, .inr (5, [.int t_length, .ref a_t_text, .int t_spot, .ref a_t_told, .ref a_t_read, .ref a_t_s, .ref a_t_before, .int t_undoMany, .int t_shortAs, .int t_isolatorAs, .int t_worstWire, .int t_worstLost])), (a_t_text, .inl (cI, 200, .inl t_text)), (a_t_read, .inl (cI, 67, .inl t_read))] sz)) (QI D [(a_t, .inr (5, [.int t_length, .ref a_t_text, .int t_spot, .ref a_t_told, .ref a_t_read, .ref a_t_s, .ref a_t_before, .int t_undoMany, .int t_shortAs, .int t_isolatorAs, .int t_worstWire, .int t_worstLost])), (a_t_text, .inl (cI, 200, .inl t_text)), (a_t_read, .inl (cI, 67, .inl t_read))] sz [(a_t, .inr (5, [.int t_length, .ref a_t_text, .int out.2.1, .ref a_t_told, .ref a_t_read, .ref a_t_s, .ref a_t_before, .int t_undoMany, .int t_shortAs, .int t_isolatorAs, .int t_worstWire, .int t_worstLost])), (a_t_text, .inl (cI, 200, .inl t_text)), (a_t_read, .inl (cI, 67, .inl out.2.2))] out.1) 0 0 (va_A [(a_t, .inr (5, [.int t_length, .ref a_t_text, .int t_spot, .ref a_t_told, .ref a_t_read, .ref a_t_s, .ref a_t_before, .int t_undoMany, .int t_shortAs, .int t_isolatorAs, .int t_worstWire, .int t_worstLost])), (a_t_text, .inl (cI, 200, .inl t_text)), (a_t_read, .inl (cI, 67, .inl t_read))] sz) := by
  refine gm_i (cc := cX6_number) (maxL := 8) (rt := .boolean) (by decide) rfl (Nat.le_of_ble_eq_true rfl) ?_
  intro p e s m args below meth c A Q H locs ls hx hb hml hown hts hK hN hA hP hD hS hl hQ
  have hown : s.vm.findClass RX6 = some m.cls := hown
  have hl : lv_has ls 8 [(0, .ref a_t), (1, .int x0), (2, .int x1), (3, .int x2), (4, .int x3)] := hl
  have inX6 : ∀ w ∈ wsX60, w ∈ wsX6_number := by decide +kernel
  have k_0 := hts (.fieldLink RX6 61 "AlarmRingModel" "spot" "I") (by decide +kernel)
  have k_1 := hts (.constantLong RX6 68 (48)) (by decide +kernel)
  have k_2 := hts (.constantLong RX6 70 (57)) (by decide +kernel)
  have k_3 := hts (.fieldLink RX6 16 "AlarmRingModel" "read" "[I") (by decide +kernel)
  unfold f_X6_number at h
  refine lv_iconst (v := 0) hx hb dX6_number_0 (by decide) ?_
  refine lv_istore (lv' := [(5, .int 0), (0, .ref a_t), (1, .int x0), (2, .int x1), (3, .int x2), (4, .int x3)]) hx hb dX6_number_1 hl (by decide) rfl (fun ls hl => ?_)
  refine lv_iconst (v := 0) hx hb dX6_number_3 (by decide) ?_
  refine lv_istore (lv' := [(6, .int 0), (5, .int 0), (0, .ref a_t), (1, .int x0), (2, .int x1), (3, .int x2), (4, .int x3)]) hx hb dX6_number_4 hl (by decide) rfl (fun ls hl => ?_)
  obtain ⟨q6, hq6, h⟩ := ob h
  have lp6 : ∀ (n : Nat) (v5 : Int32) (v6 : Int32) (w_t_spot : Int32) (H : Heap) (locs : List Loc) (ls : Array Slot), va_P D vwCl [(a_t, .inr (5, [.int t_length, .ref a_t_text, .int w_t_spot, .ref a_t_told, .ref a_t_read, .ref a_t_s, .ref a_t_before, .int t_undoMany, .int t_shortAs, .int t_isolatorAs, .int t_worstWire, .int t_worstLost])), (a_t_text, .inl (cI, 200, .inl t_text)), (a_t_read, .inl (cI, 67, .inl t_read))] H → va_D A [(a_t, .inr (5, [.int t_length, .ref a_t_text, .int w_t_spot, .ref a_t_told, .ref a_t_read, .ref a_t_s, .ref a_t_before, .int t_undoMany, .int t_shortAs, .int t_isolatorAs, .int t_worstWire, .int t_worstLost])), (a_t_text, .inl (cI, 200, .inl t_text)), (a_t_read, .inl (cI, 67, .inl t_read))] → va_S A s.heap H locs → lv_has ls 8 [(0, .ref a_t), (1, .int x0), (2, .int x1), (3, .int x2), (4, .int x3), (5, .int v5), (6, .int v6)] → ∀ (q6 : Int32 × Int32 × Int32), f_X6_number_6 t_length t_text n v5 v6 w_t_spot = some q6 → (∀ (H : Heap) (locs : List Loc) (ls : Array Slot), va_P D vwCl [(a_t, .inr (5, [.int t_length, .ref a_t_text, .int q6.2.2, .ref a_t_told, .ref a_t_read, .ref a_t_s, .ref a_t_before, .int t_undoMany, .int t_shortAs, .int t_isolatorAs, .int t_worstWire, .int t_worstLost])), (a_t_text, .inl (cI, 200, .inl t_text)), (a_t_read, .inl (cI, 67, .inl t_read))] H → va_D A [(a_t, .inr (5, [.int t_length, .ref a_t_text, .int q6.2.2, .ref a_t_told, .ref a_t_read, .ref a_t_s, .ref a_t_before, .int t_undoMany, .int t_shortAs, .int t_isolatorAs, .int t_worstWire, .int t_worstLost])), (a_t_text, .inl (cI, 200, .inl t_text)), (a_t_read, .inl (cI, 67, .inl t_read))] → va_S A s.heap H locs → lv_has ls 8 [(0, .ref a_t), (1, .int x0), (2, .int x1), (3, .int x2), (4, .int x3), (5, .int q6.1), (6, .int q6.2.1)] → W p l e rm_X6_number s m args below meth c H locs 0 0 Q (F0 m 68 ls [])) → W p l e rm_X6_number s m args below meth c H locs 0 0 Q (F0 m 6 ls []) := by
    intro n
    induction n with
    | zero => intro v5 v6 w_t_spot H locs ls hP hD hS hl q6 h kk; exact on_ h
    | succ n ih =>
      intro v5 v6 w_t_spot H locs ls hP hD hS hl q6 h kk
      rw [f_X6_number_6] at h
      refine lv_iload hx hb dX6_number_6 (lv_at hl 6 rfl) ?_
      refine lv_iconst (v := 2) hx hb dX6_number_8 (by decide) ?_
      refine lv_icmp_ge (tgt := 68) hx hb dX6_number_9 (by decide) (fun cc => ?_) (fun cc => ?_)
      · have h := oi_t cc h
        obtain rfl := Option.some.inj h
        exact kk H locs ls hP hD hS (lv_sub hl [0, 1, 2, 3, 4, 5, 6] rfl)
      · have h := oi_f cc h
        refine lv_aload_n hx hb dX6_number_12 rfl (lv_at hl 0 rfl) ?_
        refine lv_aload_n hx hb dX6_number_13 rfl (lv_at hl 0 rfl) ?_
        refine va_get (D := D) (ci := 5) (v := .int w_t_spot) (C := RX6) (T := TX6) (N := 12) hx hb hts inX6 hown hK hP 0 rfl rfl 2 (by decide) k_0 (fun _ h9 => h9) rfl dX6_number_14 ?_
        obtain ⟨u17, hu17, h⟩ := ob h
        refine gV_i (C := RX6) (T := TX6) (N := 12) (ci := 5) (q0 := 0) (wc := [(a_t, .inr (5, [.int t_length, .ref a_t_text, .int w_t_spot, .ref a_t_told, .ref a_t_read, .ref a_t_s, .ref a_t_before, .int t_undoMany, .int t_shortAs, .int t_isolatorAs, .int t_worstWire, .int t_worstLost])), (a_t_text, .inl (cI, 200, .inl t_text))]) (wr := [(a_t_read, .inl (cI, 67, .inl t_read))]) (w1 := [(a_t, .inr (5, [.int t_length, .ref a_t_text, .int w_t_spot, .ref a_t_told, .ref a_t_read, .ref a_t_s, .ref a_t_before, .int t_undoMany, .int t_shortAs, .int t_isolatorAs, .int t_worstWire, .int t_worstLost])), (a_t_text, .inl (cI, 200, .inl t_text))]) (v := u17) (As := [.int w_t_spot]) (rest := []) ⟨hx, hb, hml, hown, hts⟩ (c_X6_byteAt l D cI cS a_t a_t_text a_t_told a_t_read a_t_s a_t_before H.size t_length w_t_spot t_undoMany t_shortAs t_isolatorAs t_worstWire t_worstLost t_text w_t_spot u17 hu17) (cwV 1 hts gX6_number_X6_byteAt rfl rfl rfl cd_X6_byteAt ⟨Nat.le_of_ble_eq_true rfl, Nat.le_of_ble_eq_true rfl⟩) hK hN hP hD hS hA [0, 1] [2] rfl rfl (by decide) (by decide) (by decide) rfl rfl rfl hl.1 rfl (Nat.le_of_ble_eq_true rfl) dX6_number_17 ⟨Nat.zero_le _, Nat.zero_le _⟩ (fun H locs hP hD hS => ?_)
        have hP : va_P D vwCl [(a_t, .inr (5, [.int t_length, .ref a_t_text, .int w_t_spot, .ref a_t_told, .ref a_t_read, .ref a_t_s, .ref a_t_before, .int t_undoMany, .int t_shortAs, .int t_isolatorAs, .int t_worstWire, .int t_worstLost])), (a_t_text, .inl (cI, 200, .inl t_text)), (a_t_read, .inl (cI, 67, .inl t_read))] H := hP.sub [1, 2, 0] rfl
        have hD : va_D A [(a_t, .inr (5, [.int t_length, .ref a_t_text, .int w_t_spot, .ref a_t_told, .ref a_t_read, .ref a_t_s, .ref a_t_before, .int t_undoMany, .int t_shortAs, .int t_isolatorAs, .int t_worstWire, .int t_worstLost])), (a_t_text, .inl (cI, 200, .inl t_text)), (a_t_read, .inl (cI, 67, .inl t_read))] := hD.sub [1, 2, 0] (by decide) rfl
        refine lv_i2l (v := (u17).toInt64) hx hb dX6_number_20 rfl ?_
        refine lv_ldc2 (v := 48) hx hb hown k_1 dX6_number_21 ?_
        refine lv_ldc2 (v := 57) hx hb hown k_2 dX6_number_24 ?_
        obtain ⟨u27, hu27, h⟩ := ob h
        refine gS_i (wc := []) (wr := [(a_t, .inr (5, [.int t_length, .ref a_t_text, .int w_t_spot, .ref a_t_told, .ref a_t_read, .ref a_t_s, .ref a_t_before, .int t_undoMany, .int t_shortAs, .int t_isolatorAs, .int t_worstWire, .int t_worstLost])), (a_t_text, .inl (cI, 200, .inl t_text)), (a_t_read, .inl (cI, 67, .inl t_read))]) (w1 := []) (v := u27) (As := [.long (u17).toInt64, .long 48, .long 57]) (rest := []) ⟨hx, hb, hml, hown, hts⟩ (c_X6_in l D cI cS  H.size (u17).toInt64 48 57 u27 hu27) (va_cwS 3 hts gX6_number_X6_in rfl rfl rfl cd_X6_in ⟨Nat.le_of_ble_eq_true rfl, Nat.le_of_ble_eq_true rfl⟩) hK hN hP hD hS hA [] [0, 1, 2] rfl rfl (by decide) (by decide) (by decide) rfl hl.1 rfl (Nat.le_of_ble_eq_true rfl) dX6_number_27 ⟨Nat.zero_le _, Nat.zero_le _⟩ (fun H locs hP hD hS => ?_)
        have hP : va_P D vwCl [(a_t, .inr (5, [.int t_length, .ref a_t_text, .int w_t_spot, .ref a_t_told, .ref a_t_read, .ref a_t_s, .ref a_t_before, .int t_undoMany, .int t_shortAs, .int t_isolatorAs, .int t_worstWire, .int t_worstLost])), (a_t_text, .inl (cI, 200, .inl t_text)), (a_t_read, .inl (cI, 67, .inl t_read))] H := hP
        have hD : va_D A [(a_t, .inr (5, [.int t_length, .ref a_t_text, .int w_t_spot, .ref a_t_told, .ref a_t_read, .ref a_t_s, .ref a_t_before, .int t_undoMany, .int t_shortAs, .int t_isolatorAs, .int t_worstWire, .int t_worstLost])), (a_t_text, .inl (cI, 200, .inl t_text)), (a_t_read, .inl (cI, 67, .inl t_read))] := hD
        refine lv_if_eq (tgt := 68) hx hb dX6_number_30 (by decide) (fun cc => ?_) (fun cc => ?_)
        · have h := oi_t cc h
          obtain rfl := Option.some.inj h
          exact kk H locs ls hP hD hS (lv_sub hl [0, 1, 2, 3, 4, 5, 6] rfl)
        · have h := oi_f cc h
          refine lv_bipush (v := 10) hx hb dX6_number_33 (by decide) ?_
          refine lv_iload hx hb dX6_number_35 (lv_at hl 5 rfl) ?_
          refine lv_imul hx hb dX6_number_37 ?_
          refine lv_aload_n hx hb dX6_number_38 rfl (lv_at hl 0 rfl) ?_
          refine lv_aload_n hx hb dX6_number_39 rfl (lv_at hl 0 rfl) ?_
          refine va_get (D := D) (ci := 5) (v := .int w_t_spot) (C := RX6) (T := TX6) (N := 12) hx hb hts inX6 hown hK hP 0 rfl rfl 2 (by decide) k_0 (fun _ h9 => h9) rfl dX6_number_40 ?_
          obtain ⟨u43, hu43, h⟩ := ob h
          refine gV_i (C := RX6) (T := TX6) (N := 12) (ci := 5) (q0 := 0) (wc := [(a_t, .inr (5, [.int t_length, .ref a_t_text, .int w_t_spot, .ref a_t_told, .ref a_t_read, .ref a_t_s, .ref a_t_before, .int t_undoMany, .int t_shortAs, .int t_isolatorAs, .int t_worstWire, .int t_worstLost])), (a_t_text, .inl (cI, 200, .inl t_text))]) (wr := [(a_t_read, .inl (cI, 67, .inl t_read))]) (w1 := [(a_t, .inr (5, [.int t_length, .ref a_t_text, .int w_t_spot, .ref a_t_told, .ref a_t_read, .ref a_t_s, .ref a_t_before, .int t_undoMany, .int t_shortAs, .int t_isolatorAs, .int t_worstWire, .int t_worstLost])), (a_t_text, .inl (cI, 200, .inl t_text))]) (v := u43) (As := [.int w_t_spot]) (rest := [.int (10 * v5)]) ⟨hx, hb, hml, hown, hts⟩ (c_X6_byteAt l D cI cS a_t a_t_text a_t_told a_t_read a_t_s a_t_before H.size t_length w_t_spot t_undoMany t_shortAs t_isolatorAs t_worstWire t_worstLost t_text w_t_spot u43 hu43) (cwV 1 hts gX6_number_X6_byteAt rfl rfl rfl cd_X6_byteAt ⟨Nat.le_of_ble_eq_true rfl, Nat.le_of_ble_eq_true rfl⟩) hK hN hP hD hS hA [0, 1] [2] rfl rfl (by decide) (by decide) (by decide) rfl rfl rfl hl.1 rfl (Nat.le_of_ble_eq_true rfl) dX6_number_43 ⟨Nat.zero_le _, Nat.zero_le _⟩ (fun H locs hP hD hS => ?_)
          have hP : va_P D vwCl [(a_t, .inr (5, [.int t_length, .ref a_t_text, .int w_t_spot, .ref a_t_told, .ref a_t_read, .ref a_t_s, .ref a_t_before, .int t_undoMany, .int t_shortAs, .int t_isolatorAs, .int t_worstWire, .int t_worstLost])), (a_t_text, .inl (cI, 200, .inl t_text)), (a_t_read, .inl (cI, 67, .inl t_read))] H := hP.sub [1, 2, 0] rfl
          have hD : va_D A [(a_t, .inr (5, [.int t_length, .ref a_t_text, .int w_t_spot, .ref a_t_told, .ref a_t_read, .ref a_t_s, .ref a_t_before, .int t_undoMany, .int t_shortAs, .int t_isolatorAs, .int t_worstWire, .int t_worstLost])), (a_t_text, .inl (cI, 200, .inl t_text)), (a_t_read, .inl (cI, 67, .inl t_read))] := hD.sub [1, 2, 0] (by decide) rfl
          refine lv_iadd hx hb dX6_number_46 ?_
          refine lv_bipush (v := 48) hx hb dX6_number_47 (by decide) ?_
          refine lv_isub hx hb dX6_number_49 ?_
          refine lv_istore (lv' := [(5, .int (((10 * v5) + u43) - 48)), (0, .ref a_t), (1, .int x0), (2, .int x1), (3, .int x2), (4, .int x3), (6, .int v6)]) hx hb dX6_number_50 hl (by decide) rfl (fun ls hl => ?_)
          refine lv_aload_n hx hb dX6_number_52 rfl (lv_at hl 1 rfl) ?_
          refine lv_dup hx hb dX6_number_53 rfl ?_
          refine va_get (D := D) (ci := 5) (v := .int w_t_spot) (C := RX6) (T := TX6) (N := 12) hx hb hts inX6 hown hK hP 0 rfl rfl 2 (by decide) k_0 (fun _ h9 => h9) rfl dX6_number_54 ?_
          refine lv_iconst (v := 1) hx hb dX6_number_57 (by decide) ?_
          refine lv_iadd hx hb dX6_number_58 ?_
          refine va_put (D := D) (ci := 5) (v := .int (w_t_spot + 1)) (ty := .int) (C := RX6) (T := TX6) (N := 12) hx hb hts inX6 tyX6 tyX6_ok nmX6 hown hK hP hD hS 0 rfl rfl 2 (by decide) k_0 (fun _ h9 => h9) rfl (by decide +kernel) rfl rfl (Nat.le_of_ble_eq_true rfl) dX6_number_59 (fun H locs hP hD hS => ?_)
          have hP : va_P D vwCl [(a_t, .inr (5, [.int t_length, .ref a_t_text, .int (w_t_spot + 1), .ref a_t_told, .ref a_t_read, .ref a_t_s, .ref a_t_before, .int t_undoMany, .int t_shortAs, .int t_isolatorAs, .int t_worstWire, .int t_worstLost])), (a_t_text, .inl (cI, 200, .inl t_text)), (a_t_read, .inl (cI, 67, .inl t_read))] H := hP
          have hD : va_D A [(a_t, .inr (5, [.int t_length, .ref a_t_text, .int (w_t_spot + 1), .ref a_t_told, .ref a_t_read, .ref a_t_s, .ref a_t_before, .int t_undoMany, .int t_shortAs, .int t_isolatorAs, .int t_worstWire, .int t_worstLost])), (a_t_text, .inl (cI, 200, .inl t_text)), (a_t_read, .inl (cI, 67, .inl t_read))] := hD
          refine lv_iinc (v := (v6 + 1)) (lv' := [(6, .int (v6 + 1)), (5, .int (((10 * v5) + u43) - 48)), (0, .ref a_t), (1, .int x0), (2, .int x1), (3, .int x2), (4, .int x3)]) hx hb dX6_number_62 hl (k := 6) rfl (by first | rfl | decide) (by decide) rfl (fun ls hl => ?_)
          refine lv_goto (tgt := 6) hx hb dX6_number_65 (by decide) ?_
          exact ih (((10 * v5) + u43) - 48) (v6 + 1) (w_t_spot + 1) H locs ls hP hD hS (lv_sub hl [2, 3, 4, 5, 6, 1, 0] rfl) q6 h kk
  refine lp6 1000 0 0 t_spot H locs ls hP hD hS (lv_sub hl [2, 3, 4, 5, 6, 1, 0] rfl) q6 hq6 (fun H locs ls hP hD hS hl => ?_)
  refine lv_aload_n hx hb dX6_number_68 rfl (lv_at hl 0 rfl) ?_
  refine va_get (D := D) (ci := 5) (v := .ref a_t_read) (C := RX6) (T := TX6) (N := 12) hx hb hts inX6 hown hK hP 0 rfl rfl 4 (by decide) k_3 (fun _ h9 => h9) rfl dX6_number_69 ?_
  refine lv_iload_n hx hb dX6_number_72 rfl (lv_at hl 1 rfl) ?_
  refine lv_iload hx hb dX6_number_73 (lv_at hl 5 rfl) ?_
  obtain ⟨gg, h⟩ := og h
  refine va_iast hx hb hK hP hD hS 2 0 rfl rfl gg dX6_number_75 (fun H locs hP hD hS => ?_)
  have hP : va_P D vwCl [(a_t, .inr (5, [.int t_length, .ref a_t_text, .int q6.2.2, .ref a_t_told, .ref a_t_read, .ref a_t_s, .ref a_t_before, .int t_undoMany, .int t_shortAs, .int t_isolatorAs, .int t_worstWire, .int t_worstLost])), (a_t_text, .inl (cI, 200, .inl t_text)), (a_t_read, .inl (cI, 67, .inl (upd t_read (x0).toNatClampNeg q6.1)))] H := hP
  have hD : va_D A [(a_t, .inr (5, [.int t_length, .ref a_t_text, .int q6.2.2, .ref a_t_told, .ref a_t_read, .ref a_t_s, .ref a_t_before, .int t_undoMany, .int t_shortAs, .int t_isolatorAs, .int t_worstWire, .int t_worstLost])), (a_t_text, .inl (cI, 200, .inl t_text)), (a_t_read, .inl (cI, 67, .inl (upd t_read (x0).toNatClampNeg q6.1)))] := hD
  refine lv_iload hx hb dX6_number_76 (lv_at hl 6 rfl) ?_
  obtain ⟨u112, hj112, h⟩ := ob h
  have jn112 : ∀ (H : Heap) (locs : List Loc) (ls : Array Slot), va_P D vwCl [(a_t, .inr (5, [.int t_length, .ref a_t_text, .int q6.2.2, .ref a_t_told, .ref a_t_read, .ref a_t_s, .ref a_t_before, .int t_undoMany, .int t_shortAs, .int t_isolatorAs, .int t_worstWire, .int t_worstLost])), (a_t_text, .inl (cI, 200, .inl t_text)), (a_t_read, .inl (cI, 67, .inl (upd t_read (x0).toNatClampNeg q6.1)))] H → va_D A [(a_t, .inr (5, [.int t_length, .ref a_t_text, .int q6.2.2, .ref a_t_told, .ref a_t_read, .ref a_t_s, .ref a_t_before, .int t_undoMany, .int t_shortAs, .int t_isolatorAs, .int t_worstWire, .int t_worstLost])), (a_t_text, .inl (cI, 200, .inl t_text)), (a_t_read, .inl (cI, 67, .inl (upd t_read (x0).toNatClampNeg q6.1)))] → va_S A s.heap H locs → lv_has ls 8 [(0, .ref a_t)] → W p l e rm_X6_number s m args below meth c H locs 0 0 Q (F0 m 112 ls [.int u112]) := by
    intro H locs ls hP hD hS hl
    refine lv_istore (lv' := [(7, .int u112), (0, .ref a_t)]) hx hb dX6_number_112 hl (by decide) rfl (fun ls hl => ?_)
    refine lv_aload_n hx hb dX6_number_114 rfl (lv_at hl 1 rfl) ?_
    refine lv_dup hx hb dX6_number_115 rfl ?_
    refine va_get (D := D) (ci := 5) (v := .int q6.2.2) (C := RX6) (T := TX6) (N := 12) hx hb hts inX6 hown hK hP 0 rfl rfl 2 (by decide) k_0 (fun _ h9 => h9) rfl dX6_number_116 ?_
    refine lv_iconst (v := 1) hx hb dX6_number_119 (by decide) ?_
    refine lv_iadd hx hb dX6_number_120 ?_
    refine va_put (D := D) (ci := 5) (v := .int (q6.2.2 + 1)) (ty := .int) (C := RX6) (T := TX6) (N := 12) hx hb hts inX6 tyX6 tyX6_ok nmX6 hown hK hP hD hS 0 rfl rfl 2 (by decide) k_0 (fun _ h9 => h9) rfl (by decide +kernel) rfl rfl (Nat.le_of_ble_eq_true rfl) dX6_number_121 (fun H locs hP hD hS => ?_)
    have hP : va_P D vwCl [(a_t, .inr (5, [.int t_length, .ref a_t_text, .int (q6.2.2 + 1), .ref a_t_told, .ref a_t_read, .ref a_t_s, .ref a_t_before, .int t_undoMany, .int t_shortAs, .int t_isolatorAs, .int t_worstWire, .int t_worstLost])), (a_t_text, .inl (cI, 200, .inl t_text)), (a_t_read, .inl (cI, 67, .inl (upd t_read (x0).toNatClampNeg q6.1)))] H := hP
    have hD : va_D A [(a_t, .inr (5, [.int t_length, .ref a_t_text, .int (q6.2.2 + 1), .ref a_t_told, .ref a_t_read, .ref a_t_s, .ref a_t_before, .int t_undoMany, .int t_shortAs, .int t_isolatorAs, .int t_worstWire, .int t_worstLost])), (a_t_text, .inl (cI, 200, .inl t_text)), (a_t_read, .inl (cI, 67, .inl (upd t_read (x0).toNatClampNeg q6.1)))] := hD
    refine lv_iload hx hb dX6_number_124 (lv_at hl 0 rfl) ?_
    obtain ⟨gg, h⟩ := og h
    obtain rfl := Option.some.inj h
    exact hQ 126 H locs ls (nz gg) hP hD hS dX6_number_126
  have h := hj112
  refine lv_if_le (tgt := 111) hx hb dX6_number_78 (by decide) (fun cc => ?_) (fun cc => ?_)
  · have h := oi_t cc h
    refine lv_iconst (v := 0) hx hb dX6_number_111 (by decide) ?_
    obtain rfl := Option.some.inj h
    exact jn112 H locs ls hP hD hS (lv_sub hl [0] rfl)
  · have h := oi_f cc h
    refine lv_iload hx hb dX6_number_81 (lv_at hl 5 rfl) ?_
    refine lv_i2l (v := (q6.1).toInt64) hx hb dX6_number_83 rfl ?_
    refine lv_iload_n hx hb dX6_number_84 rfl (lv_at hl 2 rfl) ?_
    refine lv_i2l (v := (x1).toInt64) hx hb dX6_number_85 rfl ?_
    refine lv_iload_n hx hb dX6_number_86 rfl (lv_at hl 3 rfl) ?_
    refine lv_i2l (v := (x2).toInt64) hx hb dX6_number_87 rfl ?_
    obtain ⟨u88, hu88, h⟩ := ob h
    refine gS_i (wc := []) (wr := [(a_t, .inr (5, [.int t_length, .ref a_t_text, .int q6.2.2, .ref a_t_told, .ref a_t_read, .ref a_t_s, .ref a_t_before, .int t_undoMany, .int t_shortAs, .int t_isolatorAs, .int t_worstWire, .int t_worstLost])), (a_t_text, .inl (cI, 200, .inl t_text)), (a_t_read, .inl (cI, 67, .inl (upd t_read (x0).toNatClampNeg q6.1)))]) (w1 := []) (v := u88) (As := [.long (q6.1).toInt64, .long (x1).toInt64, .long (x2).toInt64]) (rest := []) ⟨hx, hb, hml, hown, hts⟩ (c_X6_in l D cI cS  H.size (q6.1).toInt64 (x1).toInt64 (x2).toInt64 u88 hu88) (va_cwS 3 hts gX6_number_X6_in rfl rfl rfl cd_X6_in ⟨Nat.le_of_ble_eq_true rfl, Nat.le_of_ble_eq_true rfl⟩) hK hN hP hD hS hA [] [0, 1, 2] rfl rfl (by decide) (by decide) (by decide) rfl hl.1 rfl (Nat.le_of_ble_eq_true rfl) dX6_number_88 ⟨Nat.zero_le _, Nat.zero_le _⟩ (fun H locs hP hD hS => ?_)
    have hP : va_P D vwCl [(a_t, .inr (5, [.int t_length, .ref a_t_text, .int q6.2.2, .ref a_t_told, .ref a_t_read, .ref a_t_s, .ref a_t_before, .int t_undoMany, .int t_shortAs, .int t_isolatorAs, .int t_worstWire, .int t_worstLost])), (a_t_text, .inl (cI, 200, .inl t_text)), (a_t_read, .inl (cI, 67, .inl (upd t_read (x0).toNatClampNeg q6.1)))] H := hP
    have hD : va_D A [(a_t, .inr (5, [.int t_length, .ref a_t_text, .int q6.2.2, .ref a_t_told, .ref a_t_read, .ref a_t_s, .ref a_t_before, .int t_undoMany, .int t_shortAs, .int t_isolatorAs, .int t_worstWire, .int t_worstLost])), (a_t_text, .inl (cI, 200, .inl t_text)), (a_t_read, .inl (cI, 67, .inl (upd t_read (x0).toNatClampNeg q6.1)))] := hD
    refine lv_if_eq (tgt := 111) hx hb dX6_number_91 (by decide) (fun cc => ?_) (fun cc => ?_)
    · have h := oi_t cc h
      refine lv_iconst (v := 0) hx hb dX6_number_111 (by decide) ?_
      obtain rfl := Option.some.inj h
      exact jn112 H locs ls hP hD hS (lv_sub hl [0] rfl)
    · have h := oi_f cc h
      refine lv_aload_n hx hb dX6_number_94 rfl (lv_at hl 0 rfl) ?_
      refine lv_aload_n hx hb dX6_number_95 rfl (lv_at hl 0 rfl) ?_
      refine va_get (D := D) (ci := 5) (v := .int q6.2.2) (C := RX6) (T := TX6) (N := 12) hx hb hts inX6 hown hK hP 0 rfl rfl 2 (by decide) k_0 (fun _ h9 => h9) rfl dX6_number_96 ?_
      obtain ⟨u99, hu99, h⟩ := ob h
      refine gV_i (C := RX6) (T := TX6) (N := 12) (ci := 5) (q0 := 0) (wc := [(a_t, .inr (5, [.int t_length, .ref a_t_text, .int q6.2.2, .ref a_t_told, .ref a_t_read, .ref a_t_s, .ref a_t_before, .int t_undoMany, .int t_shortAs, .int t_isolatorAs, .int t_worstWire, .int t_worstLost])), (a_t_text, .inl (cI, 200, .inl t_text))]) (wr := [(a_t_read, .inl (cI, 67, .inl (upd t_read (x0).toNatClampNeg q6.1)))]) (w1 := [(a_t, .inr (5, [.int t_length, .ref a_t_text, .int q6.2.2, .ref a_t_told, .ref a_t_read, .ref a_t_s, .ref a_t_before, .int t_undoMany, .int t_shortAs, .int t_isolatorAs, .int t_worstWire, .int t_worstLost])), (a_t_text, .inl (cI, 200, .inl t_text))]) (v := u99) (As := [.int q6.2.2]) (rest := []) ⟨hx, hb, hml, hown, hts⟩ (c_X6_byteAt l D cI cS a_t a_t_text a_t_told a_t_read a_t_s a_t_before H.size t_length q6.2.2 t_undoMany t_shortAs t_isolatorAs t_worstWire t_worstLost t_text q6.2.2 u99 hu99) (cwV 1 hts gX6_number_X6_byteAt rfl rfl rfl cd_X6_byteAt ⟨Nat.le_of_ble_eq_true rfl, Nat.le_of_ble_eq_true rfl⟩) hK hN hP hD hS hA [0, 1] [2] rfl rfl (by decide) (by decide) (by decide) rfl rfl rfl hl.1 rfl (Nat.le_of_ble_eq_true rfl) dX6_number_99 ⟨Nat.zero_le _, Nat.zero_le _⟩ (fun H locs hP hD hS => ?_)
      have hP : va_P D vwCl [(a_t, .inr (5, [.int t_length, .ref a_t_text, .int q6.2.2, .ref a_t_told, .ref a_t_read, .ref a_t_s, .ref a_t_before, .int t_undoMany, .int t_shortAs, .int t_isolatorAs, .int t_worstWire, .int t_worstLost])), (a_t_text, .inl (cI, 200, .inl t_text)), (a_t_read, .inl (cI, 67, .inl (upd t_read (x0).toNatClampNeg q6.1)))] H := hP.sub [1, 2, 0] rfl
      have hD : va_D A [(a_t, .inr (5, [.int t_length, .ref a_t_text, .int q6.2.2, .ref a_t_told, .ref a_t_read, .ref a_t_s, .ref a_t_before, .int t_undoMany, .int t_shortAs, .int t_isolatorAs, .int t_worstWire, .int t_worstLost])), (a_t_text, .inl (cI, 200, .inl t_text)), (a_t_read, .inl (cI, 67, .inl (upd t_read (x0).toNatClampNeg q6.1)))] := hD.sub [1, 2, 0] (by decide) rfl
      refine lv_iload hx hb dX6_number_102 (lv_at hl 4 rfl) ?_
      refine lv_icmp_ne (tgt := 111) hx hb dX6_number_104 (by decide) (fun cc => ?_) (fun cc => ?_)
      · have h := oi_f cc h
        refine lv_iconst (v := 0) hx hb dX6_number_111 (by decide) ?_
        obtain rfl := Option.some.inj h
        exact jn112 H locs ls hP hD hS (lv_sub hl [0] rfl)
      · have h := oi_t cc h
        refine lv_iconst (v := 1) hx hb dX6_number_107 (by decide) ?_
        refine lv_goto (tgt := 112) hx hb dX6_number_108 (by decide) ?_
        obtain rfl := Option.some.inj h
        exact jn112 H locs ls hP hD hS (lv_sub hl [0] rfl)

def f_X6_item (t_length : Int32) (t_spot : Int32) (t_text : FN) (t_read : FN) (x0 : Int32) : Option (Int32 × Int32 × FN) := (if x0 = 100 then (if (t_read (60 : Int32).toNatClampNeg) = 12 then some (0, t_spot, t_read) else ((f_X6_number t_length t_spot t_text (upd t_read (60 : Int32).toNatClampNeg ((t_read (60 : Int32).toNatClampNeg) + 1)) (3 * (t_read (60 : Int32).toNatClampNeg)) 0 3 44).bind (fun u85 => (if u85.1 = 0 then some (0, u85.2.1, u85.2.2) else ((f_X6_number t_length u85.2.1 t_text u85.2.2 ((3 * (t_read (60 : Int32).toNatClampNeg)) + 1) 0 5 44).bind (fun u99 => (if u99.1 = 0 then some (0, u99.2.1, u99.2.2) else ((f_X6_number t_length u99.2.1 t_text u99.2.2 ((3 * (t_read (60 : Int32).toNatClampNeg)) + 2) 0 1 59).bind (fun u113 => (if u113.1 = 0 then some (0, u113.2.1, u113.2.2) else some (1, u113.2.1, u113.2.2))))))))))) else (if x0 = 101 then (if (t_read (61 : Int32).toNatClampNeg) = 6 then some (0, t_spot, t_read) else ((f_X6_number t_length t_spot t_text (upd t_read (61 : Int32).toNatClampNeg ((t_read (61 : Int32).toNatClampNeg) + 1)) (36 + (4 * (t_read (61 : Int32).toNatClampNeg))) 0 2 44).bind (fun u169 => (if u169.1 = 0 then some (0, u169.2.1, u169.2.2) else ((f_X6_number t_length u169.2.1 t_text u169.2.2 ((36 + (4 * (t_read (61 : Int32).toNatClampNeg))) + 1) 1 63 44).bind (fun u184 => (if u184.1 = 0 then some (0, u184.2.1, u184.2.2) else ((f_X6_number t_length u184.2.1 t_text u184.2.2 ((36 + (4 * (t_read (61 : Int32).toNatClampNeg))) + 2) 0 9 44).bind (fun u199 => (if u199.1 = 0 then some (0, u199.2.1, u199.2.2) else ((f_X6_number t_length u199.2.1 t_text u199.2.2 ((36 + (4 * (t_read (61 : Int32).toNatClampNeg))) + 3) 0 1 59).bind (fun u213 => (if u213.1 = 0 then some (0, u213.2.1, u213.2.2) else some (1, u213.2.1, u213.2.2)))))))))))))) else (if x0 = 116 then ((f_X6_number t_length t_spot t_text t_read 62 1 90 44).bind (fun u233 => (if u233.1 = 0 then some (0, u233.2.1, u233.2.2) else ((f_X6_number t_length u233.2.1 t_text u233.2.2 63 ((u233.2.2 (62 : Int32).toNatClampNeg) + 1) 99 44).bind (fun u255 => (if u255.1 = 0 then some (0, u255.2.1, u255.2.2) else ((f_X6_number t_length u255.2.1 t_text u255.2.2 64 0 9 44).bind (fun u269 => (if u269.1 = 0 then some (0, u269.2.1, u269.2.2) else ((f_X6_number t_length u269.2.1 t_text u269.2.2 65 1 9 59).bind (fun u283 => (if u283.1 = 0 then some (0, u283.2.1, u283.2.2) else some (1, u283.2.1, u283.2.2))))))))))))) else (if x0 = 118 then ((f_X6_number t_length t_spot t_text t_read 66 1 9 59).bind (fun u303 => (if (u303.1 = 0 ∨ u303.1 = 1) then some (u303.1, u303.2.1, u303.2.2) else none))) else some (0, t_spot, t_read)))))
abbrev rm_X6_item : Room := { frames := 2, cells := 0, slots := 0, locals := 52 }
theorem cd_X6_item : (yX6_item).cls = RX6 ∧ (yX6_item).cls ≠ "java/lang/invoke/MethodHandle" ∧ (yX6_item).cls ≠ "java/lang/invoke/VarHandle" ∧ (parseMethodDescriptor (yX6_item).desc).map (fun d => d.parameters.length) = some 1 := by decide +kernel
set_option maxHeartbeats 4000000 in
set_option maxRecDepth 100000 in
theorem c_X6_item (l : Launch) (D : va_G) (cI cS : ClassId) (a_t a_t_text a_t_read a_t_told a_t_s a_t_before : Nat) (sz : Nat) (t_length : Int32) (t_spot : Int32) (t_undoMany : Int32) (t_shortAs : Int32) (t_isolatorAs : Int32) (t_worstWire : Int32) (t_worstLost : Int32) (t_text : FN) (t_read : FN) (x0 : Int32) (out : Int32 × Int32 × FN) (h : f_X6_item t_length t_spot t_text t_read x0 = some out) : Met l yX6_item wsX6_item rm_X6_item (va_Pc [.ref a_t, .int x0] (GP D cI cS [(a_t, .inr (5, [.int t_length, .ref a_t_text, .int t_spot, .ref a_t_told, .ref a_t_read, .ref a_t_s, .ref a_t_before, .int t_undoMany, .int t_shortAs, .int t_isolatorAs, .int t_worstWire, .int t_worstLost])), (a_t_text, .inl (cI, 200, .inl t_text)), (a_t_read, .inl (cI, 67, .inl t_read))] sz)) (QI D [(a_t, .inr (5, [.int t_length, .ref a_t_text, .int t_spot, .ref a_t_told, .ref a_t_read, .ref a_t_s, .ref a_t_before, .int t_undoMany, .int t_shortAs, .int t_isolatorAs, .int t_worstWire, .int t_worstLost])), (a_t_text, .inl (cI, 200, .inl t_text)), (a_t_read, .inl (cI, 67, .inl t_read))] sz [(a_t, .inr (5, [.int t_length, .ref a_t_text, .int out.2.1, .ref a_t_told, .ref a_t_read, .ref a_t_s, .ref a_t_before, .int t_undoMany, .int t_shortAs, .int t_isolatorAs, .int t_worstWire, .int t_worstLost])), (a_t_text, .inl (cI, 200, .inl t_text)), (a_t_read, .inl (cI, 67, .inl out.2.2))] out.1) 0 0 (va_A [(a_t, .inr (5, [.int t_length, .ref a_t_text, .int t_spot, .ref a_t_told, .ref a_t_read, .ref a_t_s, .ref a_t_before, .int t_undoMany, .int t_shortAs, .int t_isolatorAs, .int t_worstWire, .int t_worstLost])), (a_t_text, .inl (cI, 200, .inl t_text)), (a_t_read, .inl (cI, 67, .inl t_read))] sz) := by
  refine gm_i (cc := cX6_item) (maxL := 3) (rt := .boolean) (by decide) rfl (Nat.le_of_ble_eq_true rfl) ?_
  intro p e s m args below meth c A Q H locs ls hx hb hml hown hts hK hN hA hP hD hS hl hQ
  have hown : s.vm.findClass RX6 = some m.cls := hown
  have hl : lv_has ls 3 [(0, .ref a_t), (1, .int x0)] := hl
  have inX6 : ∀ w ∈ wsX60, w ∈ wsX6_item := by decide +kernel
  have k_0 := hts (.fieldLink RX6 16 "AlarmRingModel" "read" "[I") (by decide +kernel)
  unfold f_X6_item at h
  refine lv_iload_n hx hb dX6_item_0 rfl (lv_at hl 1 rfl) ?_
  by_cases c0 : x0 = 100
  · have h := oi_t c0 h
    refine lv_lookup (tgt := 44) (off := 43) hx hb dX6_item_1 (by decide) (by rw [c0]; rfl) (by decide) ?_
    refine lv_aload_n hx hb dX6_item_44 rfl (lv_at hl 0 rfl) ?_
    refine va_get (D := D) (ci := 5) (v := .ref a_t_read) (C := RX6) (T := TX6) (N := 12) hx hb hts inX6 hown hK hP 0 rfl rfl 4 (by decide) k_0 (fun _ h9 => h9) rfl dX6_item_45 ?_
    refine lv_bipush (v := 60) hx hb dX6_item_48 (by decide) ?_
    refine va_iald hx hb hK hP 2 0 rfl rfl (i := 60) (show gi 60 67 by decide) dX6_item_50 ?_
    refine lv_bipush (v := 12) hx hb dX6_item_51 (by decide) ?_
    refine lv_icmp_ne (tgt := 58) hx hb dX6_item_53 (by decide) (fun cc => ?_) (fun cc => ?_)
    · have h := oi_f cc h
      refine lv_iconst (v := 3) hx hb dX6_item_58 (by decide) ?_
      refine lv_aload_n hx hb dX6_item_59 rfl (lv_at hl 0 rfl) ?_
      refine va_get (D := D) (ci := 5) (v := .ref a_t_read) (C := RX6) (T := TX6) (N := 12) hx hb hts inX6 hown hK hP 0 rfl rfl 4 (by decide) k_0 (fun _ h9 => h9) rfl dX6_item_60 ?_
      refine lv_bipush (v := 60) hx hb dX6_item_63 (by decide) ?_
      refine va_iald hx hb hK hP 2 0 rfl rfl (i := 60) (show gi 60 67 by decide) dX6_item_65 ?_
      refine lv_imul hx hb dX6_item_66 ?_
      refine lv_istore_n (lv' := [(2, .int (3 * (t_read (60 : Int32).toNatClampNeg))), (0, .ref a_t), (1, .int x0)]) hx hb dX6_item_67 rfl hl (by decide) rfl (fun ls hl => ?_)
      refine lv_aload_n hx hb dX6_item_68 rfl (lv_at hl 1 rfl) ?_
      refine va_get (D := D) (ci := 5) (v := .ref a_t_read) (C := RX6) (T := TX6) (N := 12) hx hb hts inX6 hown hK hP 0 rfl rfl 4 (by decide) k_0 (fun _ h9 => h9) rfl dX6_item_69 ?_
      refine lv_bipush (v := 60) hx hb dX6_item_72 (by decide) ?_
      refine lv_dup2_11 hx hb dX6_item_74 rfl rfl ?_
      refine va_iald hx hb hK hP 2 0 rfl rfl (i := 60) (show gi 60 67 by decide) dX6_item_75 ?_
      refine lv_iconst (v := 1) hx hb dX6_item_76 (by decide) ?_
      refine lv_iadd hx hb dX6_item_77 ?_
      refine va_iast hx hb hK hP hD hS 2 0 rfl rfl (i := 60) (show gi 60 67 by decide) dX6_item_78 (fun H locs hP hD hS => ?_)
      have hP : va_P D vwCl [(a_t, .inr (5, [.int t_length, .ref a_t_text, .int t_spot, .ref a_t_told, .ref a_t_read, .ref a_t_s, .ref a_t_before, .int t_undoMany, .int t_shortAs, .int t_isolatorAs, .int t_worstWire, .int t_worstLost])), (a_t_text, .inl (cI, 200, .inl t_text)), (a_t_read, .inl (cI, 67, .inl (upd t_read (60 : Int32).toNatClampNeg ((t_read (60 : Int32).toNatClampNeg) + 1))))] H := hP
      have hD : va_D A [(a_t, .inr (5, [.int t_length, .ref a_t_text, .int t_spot, .ref a_t_told, .ref a_t_read, .ref a_t_s, .ref a_t_before, .int t_undoMany, .int t_shortAs, .int t_isolatorAs, .int t_worstWire, .int t_worstLost])), (a_t_text, .inl (cI, 200, .inl t_text)), (a_t_read, .inl (cI, 67, .inl (upd t_read (60 : Int32).toNatClampNeg ((t_read (60 : Int32).toNatClampNeg) + 1))))] := hD
      refine lv_aload_n hx hb dX6_item_79 rfl (lv_at hl 1 rfl) ?_
      refine lv_iload_n hx hb dX6_item_80 rfl (lv_at hl 0 rfl) ?_
      refine lv_iconst (v := 0) hx hb dX6_item_81 (by decide) ?_
      refine lv_iconst (v := 3) hx hb dX6_item_82 (by decide) ?_
      refine lv_bipush (v := 44) hx hb dX6_item_83 (by decide) ?_
      obtain ⟨u85, hu85, h⟩ := ob h
      refine gV_i (C := RX6) (T := TX6) (N := 12) (ci := 5) (q0 := 0) (wc := [(a_t, .inr (5, [.int t_length, .ref a_t_text, .int t_spot, .ref a_t_told, .ref a_t_read, .ref a_t_s, .ref a_t_before, .int t_undoMany, .int t_shortAs, .int t_isolatorAs, .int t_worstWire, .int t_worstLost])), (a_t_text, .inl (cI, 200, .inl t_text)), (a_t_read, .inl (cI, 67, .inl (upd t_read (60 : Int32).toNatClampNeg ((t_read (60 : Int32).toNatClampNeg) + 1))))]) (wr := []) (w1 := [(a_t, .inr (5, [.int t_length, .ref a_t_text, .int u85.2.1, .ref a_t_told, .ref a_t_read, .ref a_t_s, .ref a_t_before, .int t_undoMany, .int t_shortAs, .int t_isolatorAs, .int t_worstWire, .int t_worstLost])), (a_t_text, .inl (cI, 200, .inl t_text)), (a_t_read, .inl (cI, 67, .inl u85.2.2))]) (v := u85.1) (As := [.int (3 * (t_read (60 : Int32).toNatClampNeg)), .int 0, .int 3, .int 44]) (rest := []) ⟨hx, hb, hml, hown, hts⟩ (c_X6_number l D cI cS a_t a_t_text a_t_read a_t_told a_t_s a_t_before H.size t_length t_spot t_undoMany t_shortAs t_isolatorAs t_worstWire t_worstLost t_text (upd t_read (60 : Int32).toNatClampNeg ((t_read (60 : Int32).toNatClampNeg) + 1)) (3 * (t_read (60 : Int32).toNatClampNeg)) 0 3 44 u85 hu85) (cwV 4 hts gX6_item_X6_number rfl rfl rfl cd_X6_number ⟨Nat.le_of_ble_eq_true rfl, Nat.le_of_ble_eq_true rfl⟩) hK hN hP hD hS hA [0, 1, 2] [] rfl rfl (by decide) (by decide) (by decide) rfl rfl rfl hl.1 rfl (Nat.le_of_ble_eq_true rfl) dX6_item_85 ⟨Nat.zero_le _, Nat.zero_le _⟩ (fun H locs hP hD hS => ?_)
      have hP : va_P D vwCl [(a_t, .inr (5, [.int t_length, .ref a_t_text, .int u85.2.1, .ref a_t_told, .ref a_t_read, .ref a_t_s, .ref a_t_before, .int t_undoMany, .int t_shortAs, .int t_isolatorAs, .int t_worstWire, .int t_worstLost])), (a_t_text, .inl (cI, 200, .inl t_text)), (a_t_read, .inl (cI, 67, .inl u85.2.2))] H := hP
      have hD : va_D A [(a_t, .inr (5, [.int t_length, .ref a_t_text, .int u85.2.1, .ref a_t_told, .ref a_t_read, .ref a_t_s, .ref a_t_before, .int t_undoMany, .int t_shortAs, .int t_isolatorAs, .int t_worstWire, .int t_worstLost])), (a_t_text, .inl (cI, 200, .inl t_text)), (a_t_read, .inl (cI, 67, .inl u85.2.2))] := hD
      refine lv_if_eq (tgt := 123) hx hb dX6_item_88 (by decide) (fun cc => ?_) (fun cc => ?_)
      · have h := oi_t cc h
        refine lv_iconst (v := 0) hx hb dX6_item_123 (by decide) ?_
        obtain rfl := Option.some.inj h
        exact hQ 124 H locs ls (nz (.inl rfl)) hP hD hS dX6_item_124
      · have h := oi_f cc h
        refine lv_aload_n hx hb dX6_item_91 rfl (lv_at hl 1 rfl) ?_
        refine lv_iload_n hx hb dX6_item_92 rfl (lv_at hl 0 rfl) ?_
        refine lv_iconst (v := 1) hx hb dX6_item_93 (by decide) ?_
        refine lv_iadd hx hb dX6_item_94 ?_
        refine lv_iconst (v := 0) hx hb dX6_item_95 (by decide) ?_
        refine lv_iconst (v := 5) hx hb dX6_item_96 (by decide) ?_
        refine lv_bipush (v := 44) hx hb dX6_item_97 (by decide) ?_
        obtain ⟨u99, hu99, h⟩ := ob h
        refine gV_i (C := RX6) (T := TX6) (N := 12) (ci := 5) (q0 := 0) (wc := [(a_t, .inr (5, [.int t_length, .ref a_t_text, .int u85.2.1, .ref a_t_told, .ref a_t_read, .ref a_t_s, .ref a_t_before, .int t_undoMany, .int t_shortAs, .int t_isolatorAs, .int t_worstWire, .int t_worstLost])), (a_t_text, .inl (cI, 200, .inl t_text)), (a_t_read, .inl (cI, 67, .inl u85.2.2))]) (wr := []) (w1 := [(a_t, .inr (5, [.int t_length, .ref a_t_text, .int u99.2.1, .ref a_t_told, .ref a_t_read, .ref a_t_s, .ref a_t_before, .int t_undoMany, .int t_shortAs, .int t_isolatorAs, .int t_worstWire, .int t_worstLost])), (a_t_text, .inl (cI, 200, .inl t_text)), (a_t_read, .inl (cI, 67, .inl u99.2.2))]) (v := u99.1) (As := [.int ((3 * (t_read (60 : Int32).toNatClampNeg)) + 1), .int 0, .int 5, .int 44]) (rest := []) ⟨hx, hb, hml, hown, hts⟩ (c_X6_number l D cI cS a_t a_t_text a_t_read a_t_told a_t_s a_t_before H.size t_length u85.2.1 t_undoMany t_shortAs t_isolatorAs t_worstWire t_worstLost t_text u85.2.2 ((3 * (t_read (60 : Int32).toNatClampNeg)) + 1) 0 5 44 u99 hu99) (cwV 4 hts gX6_item_X6_number rfl rfl rfl cd_X6_number ⟨Nat.le_of_ble_eq_true rfl, Nat.le_of_ble_eq_true rfl⟩) hK hN hP hD hS hA [0, 1, 2] [] rfl rfl (by decide) (by decide) (by decide) rfl rfl rfl hl.1 rfl (Nat.le_of_ble_eq_true rfl) dX6_item_99 ⟨Nat.zero_le _, Nat.zero_le _⟩ (fun H locs hP hD hS => ?_)
        have hP : va_P D vwCl [(a_t, .inr (5, [.int t_length, .ref a_t_text, .int u99.2.1, .ref a_t_told, .ref a_t_read, .ref a_t_s, .ref a_t_before, .int t_undoMany, .int t_shortAs, .int t_isolatorAs, .int t_worstWire, .int t_worstLost])), (a_t_text, .inl (cI, 200, .inl t_text)), (a_t_read, .inl (cI, 67, .inl u99.2.2))] H := hP
        have hD : va_D A [(a_t, .inr (5, [.int t_length, .ref a_t_text, .int u99.2.1, .ref a_t_told, .ref a_t_read, .ref a_t_s, .ref a_t_before, .int t_undoMany, .int t_shortAs, .int t_isolatorAs, .int t_worstWire, .int t_worstLost])), (a_t_text, .inl (cI, 200, .inl t_text)), (a_t_read, .inl (cI, 67, .inl u99.2.2))] := hD
        refine lv_if_eq (tgt := 123) hx hb dX6_item_102 (by decide) (fun cc => ?_) (fun cc => ?_)
        · have h := oi_t cc h
          refine lv_iconst (v := 0) hx hb dX6_item_123 (by decide) ?_
          obtain rfl := Option.some.inj h
          exact hQ 124 H locs ls (nz (.inl rfl)) hP hD hS dX6_item_124
        · have h := oi_f cc h
          refine lv_aload_n hx hb dX6_item_105 rfl (lv_at hl 1 rfl) ?_
          refine lv_iload_n hx hb dX6_item_106 rfl (lv_at hl 0 rfl) ?_
          refine lv_iconst (v := 2) hx hb dX6_item_107 (by decide) ?_
          refine lv_iadd hx hb dX6_item_108 ?_
          refine lv_iconst (v := 0) hx hb dX6_item_109 (by decide) ?_
          refine lv_iconst (v := 1) hx hb dX6_item_110 (by decide) ?_
          refine lv_bipush (v := 59) hx hb dX6_item_111 (by decide) ?_
          obtain ⟨u113, hu113, h⟩ := ob h
          refine gV_i (C := RX6) (T := TX6) (N := 12) (ci := 5) (q0 := 0) (wc := [(a_t, .inr (5, [.int t_length, .ref a_t_text, .int u99.2.1, .ref a_t_told, .ref a_t_read, .ref a_t_s, .ref a_t_before, .int t_undoMany, .int t_shortAs, .int t_isolatorAs, .int t_worstWire, .int t_worstLost])), (a_t_text, .inl (cI, 200, .inl t_text)), (a_t_read, .inl (cI, 67, .inl u99.2.2))]) (wr := []) (w1 := [(a_t, .inr (5, [.int t_length, .ref a_t_text, .int u113.2.1, .ref a_t_told, .ref a_t_read, .ref a_t_s, .ref a_t_before, .int t_undoMany, .int t_shortAs, .int t_isolatorAs, .int t_worstWire, .int t_worstLost])), (a_t_text, .inl (cI, 200, .inl t_text)), (a_t_read, .inl (cI, 67, .inl u113.2.2))]) (v := u113.1) (As := [.int ((3 * (t_read (60 : Int32).toNatClampNeg)) + 2), .int 0, .int 1, .int 59]) (rest := []) ⟨hx, hb, hml, hown, hts⟩ (c_X6_number l D cI cS a_t a_t_text a_t_read a_t_told a_t_s a_t_before H.size t_length u99.2.1 t_undoMany t_shortAs t_isolatorAs t_worstWire t_worstLost t_text u99.2.2 ((3 * (t_read (60 : Int32).toNatClampNeg)) + 2) 0 1 59 u113 hu113) (cwV 4 hts gX6_item_X6_number rfl rfl rfl cd_X6_number ⟨Nat.le_of_ble_eq_true rfl, Nat.le_of_ble_eq_true rfl⟩) hK hN hP hD hS hA [0, 1, 2] [] rfl rfl (by decide) (by decide) (by decide) rfl rfl rfl hl.1 rfl (Nat.le_of_ble_eq_true rfl) dX6_item_113 ⟨Nat.zero_le _, Nat.zero_le _⟩ (fun H locs hP hD hS => ?_)
          have hP : va_P D vwCl [(a_t, .inr (5, [.int t_length, .ref a_t_text, .int u113.2.1, .ref a_t_told, .ref a_t_read, .ref a_t_s, .ref a_t_before, .int t_undoMany, .int t_shortAs, .int t_isolatorAs, .int t_worstWire, .int t_worstLost])), (a_t_text, .inl (cI, 200, .inl t_text)), (a_t_read, .inl (cI, 67, .inl u113.2.2))] H := hP
          have hD : va_D A [(a_t, .inr (5, [.int t_length, .ref a_t_text, .int u113.2.1, .ref a_t_told, .ref a_t_read, .ref a_t_s, .ref a_t_before, .int t_undoMany, .int t_shortAs, .int t_isolatorAs, .int t_worstWire, .int t_worstLost])), (a_t_text, .inl (cI, 200, .inl t_text)), (a_t_read, .inl (cI, 67, .inl u113.2.2))] := hD
          refine lv_if_eq (tgt := 123) hx hb dX6_item_116 (by decide) (fun cc => ?_) (fun cc => ?_)
          · have h := oi_t cc h
            refine lv_iconst (v := 0) hx hb dX6_item_123 (by decide) ?_
            obtain rfl := Option.some.inj h
            exact hQ 124 H locs ls (nz (.inl rfl)) hP hD hS dX6_item_124
          · have h := oi_f cc h
            refine lv_iconst (v := 1) hx hb dX6_item_119 (by decide) ?_
            refine lv_goto (tgt := 124) hx hb dX6_item_120 (by decide) ?_
            obtain rfl := Option.some.inj h
            exact hQ 124 H locs ls (nz (.inr rfl)) hP hD hS dX6_item_124
    · have h := oi_t cc h
      refine lv_iconst (v := 0) hx hb dX6_item_56 (by decide) ?_
      obtain rfl := Option.some.inj h
      exact hQ 57 H locs ls (nz (.inl rfl)) hP hD hS dX6_item_57
  · have h := oi_f c0 h
    by_cases c1 : x0 = 101
    · have h := oi_t c1 h
      refine lv_lookup (tgt := 125) (off := 124) hx hb dX6_item_1 (by decide) (by rw [c1]; rfl) (by decide) ?_
      refine lv_aload_n hx hb dX6_item_125 rfl (lv_at hl 0 rfl) ?_
      refine va_get (D := D) (ci := 5) (v := .ref a_t_read) (C := RX6) (T := TX6) (N := 12) hx hb hts inX6 hown hK hP 0 rfl rfl 4 (by decide) k_0 (fun _ h9 => h9) rfl dX6_item_126 ?_
      refine lv_bipush (v := 61) hx hb dX6_item_129 (by decide) ?_
      refine va_iald hx hb hK hP 2 0 rfl rfl (i := 61) (show gi 61 67 by decide) dX6_item_131 ?_
      refine lv_bipush (v := 6) hx hb dX6_item_132 (by decide) ?_
      refine lv_icmp_ne (tgt := 139) hx hb dX6_item_134 (by decide) (fun cc => ?_) (fun cc => ?_)
      · have h := oi_f cc h
        refine lv_bipush (v := 36) hx hb dX6_item_139 (by decide) ?_
        refine lv_iconst (v := 4) hx hb dX6_item_141 (by decide) ?_
        refine lv_aload_n hx hb dX6_item_142 rfl (lv_at hl 0 rfl) ?_
        refine va_get (D := D) (ci := 5) (v := .ref a_t_read) (C := RX6) (T := TX6) (N := 12) hx hb hts inX6 hown hK hP 0 rfl rfl 4 (by decide) k_0 (fun _ h9 => h9) rfl dX6_item_143 ?_
        refine lv_bipush (v := 61) hx hb dX6_item_146 (by decide) ?_
        refine va_iald hx hb hK hP 2 0 rfl rfl (i := 61) (show gi 61 67 by decide) dX6_item_148 ?_
        refine lv_imul hx hb dX6_item_149 ?_
        refine lv_iadd hx hb dX6_item_150 ?_
        refine lv_istore_n (lv' := [(2, .int (36 + (4 * (t_read (61 : Int32).toNatClampNeg)))), (0, .ref a_t), (1, .int x0)]) hx hb dX6_item_151 rfl hl (by decide) rfl (fun ls hl => ?_)
        refine lv_aload_n hx hb dX6_item_152 rfl (lv_at hl 1 rfl) ?_
        refine va_get (D := D) (ci := 5) (v := .ref a_t_read) (C := RX6) (T := TX6) (N := 12) hx hb hts inX6 hown hK hP 0 rfl rfl 4 (by decide) k_0 (fun _ h9 => h9) rfl dX6_item_153 ?_
        refine lv_bipush (v := 61) hx hb dX6_item_156 (by decide) ?_
        refine lv_dup2_11 hx hb dX6_item_158 rfl rfl ?_
        refine va_iald hx hb hK hP 2 0 rfl rfl (i := 61) (show gi 61 67 by decide) dX6_item_159 ?_
        refine lv_iconst (v := 1) hx hb dX6_item_160 (by decide) ?_
        refine lv_iadd hx hb dX6_item_161 ?_
        refine va_iast hx hb hK hP hD hS 2 0 rfl rfl (i := 61) (show gi 61 67 by decide) dX6_item_162 (fun H locs hP hD hS => ?_)
        have hP : va_P D vwCl [(a_t, .inr (5, [.int t_length, .ref a_t_text, .int t_spot, .ref a_t_told, .ref a_t_read, .ref a_t_s, .ref a_t_before, .int t_undoMany, .int t_shortAs, .int t_isolatorAs, .int t_worstWire, .int t_worstLost])), (a_t_text, .inl (cI, 200, .inl t_text)), (a_t_read, .inl (cI, 67, .inl (upd t_read (61 : Int32).toNatClampNeg ((t_read (61 : Int32).toNatClampNeg) + 1))))] H := hP
        have hD : va_D A [(a_t, .inr (5, [.int t_length, .ref a_t_text, .int t_spot, .ref a_t_told, .ref a_t_read, .ref a_t_s, .ref a_t_before, .int t_undoMany, .int t_shortAs, .int t_isolatorAs, .int t_worstWire, .int t_worstLost])), (a_t_text, .inl (cI, 200, .inl t_text)), (a_t_read, .inl (cI, 67, .inl (upd t_read (61 : Int32).toNatClampNeg ((t_read (61 : Int32).toNatClampNeg) + 1))))] := hD
        refine lv_aload_n hx hb dX6_item_163 rfl (lv_at hl 1 rfl) ?_
        refine lv_iload_n hx hb dX6_item_164 rfl (lv_at hl 0 rfl) ?_
        refine lv_iconst (v := 0) hx hb dX6_item_165 (by decide) ?_
        refine lv_iconst (v := 2) hx hb dX6_item_166 (by decide) ?_
        refine lv_bipush (v := 44) hx hb dX6_item_167 (by decide) ?_
        obtain ⟨u169, hu169, h⟩ := ob h
        refine gV_i (C := RX6) (T := TX6) (N := 12) (ci := 5) (q0 := 0) (wc := [(a_t, .inr (5, [.int t_length, .ref a_t_text, .int t_spot, .ref a_t_told, .ref a_t_read, .ref a_t_s, .ref a_t_before, .int t_undoMany, .int t_shortAs, .int t_isolatorAs, .int t_worstWire, .int t_worstLost])), (a_t_text, .inl (cI, 200, .inl t_text)), (a_t_read, .inl (cI, 67, .inl (upd t_read (61 : Int32).toNatClampNeg ((t_read (61 : Int32).toNatClampNeg) + 1))))]) (wr := []) (w1 := [(a_t, .inr (5, [.int t_length, .ref a_t_text, .int u169.2.1, .ref a_t_told, .ref a_t_read, .ref a_t_s, .ref a_t_before, .int t_undoMany, .int t_shortAs, .int t_isolatorAs, .int t_worstWire, .int t_worstLost])), (a_t_text, .inl (cI, 200, .inl t_text)), (a_t_read, .inl (cI, 67, .inl u169.2.2))]) (v := u169.1) (As := [.int (36 + (4 * (t_read (61 : Int32).toNatClampNeg))), .int 0, .int 2, .int 44]) (rest := []) ⟨hx, hb, hml, hown, hts⟩ (c_X6_number l D cI cS a_t a_t_text a_t_read a_t_told a_t_s a_t_before H.size t_length t_spot t_undoMany t_shortAs t_isolatorAs t_worstWire t_worstLost t_text (upd t_read (61 : Int32).toNatClampNeg ((t_read (61 : Int32).toNatClampNeg) + 1)) (36 + (4 * (t_read (61 : Int32).toNatClampNeg))) 0 2 44 u169 hu169) (cwV 4 hts gX6_item_X6_number rfl rfl rfl cd_X6_number ⟨Nat.le_of_ble_eq_true rfl, Nat.le_of_ble_eq_true rfl⟩) hK hN hP hD hS hA [0, 1, 2] [] rfl rfl (by decide) (by decide) (by decide) rfl rfl rfl hl.1 rfl (Nat.le_of_ble_eq_true rfl) dX6_item_169 ⟨Nat.zero_le _, Nat.zero_le _⟩ (fun H locs hP hD hS => ?_)
        have hP : va_P D vwCl [(a_t, .inr (5, [.int t_length, .ref a_t_text, .int u169.2.1, .ref a_t_told, .ref a_t_read, .ref a_t_s, .ref a_t_before, .int t_undoMany, .int t_shortAs, .int t_isolatorAs, .int t_worstWire, .int t_worstLost])), (a_t_text, .inl (cI, 200, .inl t_text)), (a_t_read, .inl (cI, 67, .inl u169.2.2))] H := hP
        have hD : va_D A [(a_t, .inr (5, [.int t_length, .ref a_t_text, .int u169.2.1, .ref a_t_told, .ref a_t_read, .ref a_t_s, .ref a_t_before, .int t_undoMany, .int t_shortAs, .int t_isolatorAs, .int t_worstWire, .int t_worstLost])), (a_t_text, .inl (cI, 200, .inl t_text)), (a_t_read, .inl (cI, 67, .inl u169.2.2))] := hD
        refine lv_if_eq (tgt := 223) hx hb dX6_item_172 (by decide) (fun cc => ?_) (fun cc => ?_)
        · have h := oi_t cc h
          refine lv_iconst (v := 0) hx hb dX6_item_223 (by decide) ?_
          obtain rfl := Option.some.inj h
          exact hQ 224 H locs ls (nz (.inl rfl)) hP hD hS dX6_item_224
        · have h := oi_f cc h
          refine lv_aload_n hx hb dX6_item_175 rfl (lv_at hl 1 rfl) ?_
          refine lv_iload_n hx hb dX6_item_176 rfl (lv_at hl 0 rfl) ?_
          refine lv_iconst (v := 1) hx hb dX6_item_177 (by decide) ?_
          refine lv_iadd hx hb dX6_item_178 ?_
          refine lv_iconst (v := 1) hx hb dX6_item_179 (by decide) ?_
          refine lv_bipush (v := 63) hx hb dX6_item_180 (by decide) ?_
          refine lv_bipush (v := 44) hx hb dX6_item_182 (by decide) ?_
          obtain ⟨u184, hu184, h⟩ := ob h
          refine gV_i (C := RX6) (T := TX6) (N := 12) (ci := 5) (q0 := 0) (wc := [(a_t, .inr (5, [.int t_length, .ref a_t_text, .int u169.2.1, .ref a_t_told, .ref a_t_read, .ref a_t_s, .ref a_t_before, .int t_undoMany, .int t_shortAs, .int t_isolatorAs, .int t_worstWire, .int t_worstLost])), (a_t_text, .inl (cI, 200, .inl t_text)), (a_t_read, .inl (cI, 67, .inl u169.2.2))]) (wr := []) (w1 := [(a_t, .inr (5, [.int t_length, .ref a_t_text, .int u184.2.1, .ref a_t_told, .ref a_t_read, .ref a_t_s, .ref a_t_before, .int t_undoMany, .int t_shortAs, .int t_isolatorAs, .int t_worstWire, .int t_worstLost])), (a_t_text, .inl (cI, 200, .inl t_text)), (a_t_read, .inl (cI, 67, .inl u184.2.2))]) (v := u184.1) (As := [.int ((36 + (4 * (t_read (61 : Int32).toNatClampNeg))) + 1), .int 1, .int 63, .int 44]) (rest := []) ⟨hx, hb, hml, hown, hts⟩ (c_X6_number l D cI cS a_t a_t_text a_t_read a_t_told a_t_s a_t_before H.size t_length u169.2.1 t_undoMany t_shortAs t_isolatorAs t_worstWire t_worstLost t_text u169.2.2 ((36 + (4 * (t_read (61 : Int32).toNatClampNeg))) + 1) 1 63 44 u184 hu184) (cwV 4 hts gX6_item_X6_number rfl rfl rfl cd_X6_number ⟨Nat.le_of_ble_eq_true rfl, Nat.le_of_ble_eq_true rfl⟩) hK hN hP hD hS hA [0, 1, 2] [] rfl rfl (by decide) (by decide) (by decide) rfl rfl rfl hl.1 rfl (Nat.le_of_ble_eq_true rfl) dX6_item_184 ⟨Nat.zero_le _, Nat.zero_le _⟩ (fun H locs hP hD hS => ?_)
          have hP : va_P D vwCl [(a_t, .inr (5, [.int t_length, .ref a_t_text, .int u184.2.1, .ref a_t_told, .ref a_t_read, .ref a_t_s, .ref a_t_before, .int t_undoMany, .int t_shortAs, .int t_isolatorAs, .int t_worstWire, .int t_worstLost])), (a_t_text, .inl (cI, 200, .inl t_text)), (a_t_read, .inl (cI, 67, .inl u184.2.2))] H := hP
          have hD : va_D A [(a_t, .inr (5, [.int t_length, .ref a_t_text, .int u184.2.1, .ref a_t_told, .ref a_t_read, .ref a_t_s, .ref a_t_before, .int t_undoMany, .int t_shortAs, .int t_isolatorAs, .int t_worstWire, .int t_worstLost])), (a_t_text, .inl (cI, 200, .inl t_text)), (a_t_read, .inl (cI, 67, .inl u184.2.2))] := hD
          refine lv_if_eq (tgt := 223) hx hb dX6_item_187 (by decide) (fun cc => ?_) (fun cc => ?_)
          · have h := oi_t cc h
            refine lv_iconst (v := 0) hx hb dX6_item_223 (by decide) ?_
            obtain rfl := Option.some.inj h
            exact hQ 224 H locs ls (nz (.inl rfl)) hP hD hS dX6_item_224
          · have h := oi_f cc h
            refine lv_aload_n hx hb dX6_item_190 rfl (lv_at hl 1 rfl) ?_
            refine lv_iload_n hx hb dX6_item_191 rfl (lv_at hl 0 rfl) ?_
            refine lv_iconst (v := 2) hx hb dX6_item_192 (by decide) ?_
            refine lv_iadd hx hb dX6_item_193 ?_
            refine lv_iconst (v := 0) hx hb dX6_item_194 (by decide) ?_
            refine lv_bipush (v := 9) hx hb dX6_item_195 (by decide) ?_
            refine lv_bipush (v := 44) hx hb dX6_item_197 (by decide) ?_
            obtain ⟨u199, hu199, h⟩ := ob h
            refine gV_i (C := RX6) (T := TX6) (N := 12) (ci := 5) (q0 := 0) (wc := [(a_t, .inr (5, [.int t_length, .ref a_t_text, .int u184.2.1, .ref a_t_told, .ref a_t_read, .ref a_t_s, .ref a_t_before, .int t_undoMany, .int t_shortAs, .int t_isolatorAs, .int t_worstWire, .int t_worstLost])), (a_t_text, .inl (cI, 200, .inl t_text)), (a_t_read, .inl (cI, 67, .inl u184.2.2))]) (wr := []) (w1 := [(a_t, .inr (5, [.int t_length, .ref a_t_text, .int u199.2.1, .ref a_t_told, .ref a_t_read, .ref a_t_s, .ref a_t_before, .int t_undoMany, .int t_shortAs, .int t_isolatorAs, .int t_worstWire, .int t_worstLost])), (a_t_text, .inl (cI, 200, .inl t_text)), (a_t_read, .inl (cI, 67, .inl u199.2.2))]) (v := u199.1) (As := [.int ((36 + (4 * (t_read (61 : Int32).toNatClampNeg))) + 2), .int 0, .int 9, .int 44]) (rest := []) ⟨hx, hb, hml, hown, hts⟩ (c_X6_number l D cI cS a_t a_t_text a_t_read a_t_told a_t_s a_t_before H.size t_length u184.2.1 t_undoMany t_shortAs t_isolatorAs t_worstWire t_worstLost t_text u184.2.2 ((36 + (4 * (t_read (61 : Int32).toNatClampNeg))) + 2) 0 9 44 u199 hu199) (cwV 4 hts gX6_item_X6_number rfl rfl rfl cd_X6_number ⟨Nat.le_of_ble_eq_true rfl, Nat.le_of_ble_eq_true rfl⟩) hK hN hP hD hS hA [0, 1, 2] [] rfl rfl (by decide) (by decide) (by decide) rfl rfl rfl hl.1 rfl (Nat.le_of_ble_eq_true rfl) dX6_item_199 ⟨Nat.zero_le _, Nat.zero_le _⟩ (fun H locs hP hD hS => ?_)
            have hP : va_P D vwCl [(a_t, .inr (5, [.int t_length, .ref a_t_text, .int u199.2.1, .ref a_t_told, .ref a_t_read, .ref a_t_s, .ref a_t_before, .int t_undoMany, .int t_shortAs, .int t_isolatorAs, .int t_worstWire, .int t_worstLost])), (a_t_text, .inl (cI, 200, .inl t_text)), (a_t_read, .inl (cI, 67, .inl u199.2.2))] H := hP
            have hD : va_D A [(a_t, .inr (5, [.int t_length, .ref a_t_text, .int u199.2.1, .ref a_t_told, .ref a_t_read, .ref a_t_s, .ref a_t_before, .int t_undoMany, .int t_shortAs, .int t_isolatorAs, .int t_worstWire, .int t_worstLost])), (a_t_text, .inl (cI, 200, .inl t_text)), (a_t_read, .inl (cI, 67, .inl u199.2.2))] := hD
            refine lv_if_eq (tgt := 223) hx hb dX6_item_202 (by decide) (fun cc => ?_) (fun cc => ?_)
            · have h := oi_t cc h
              refine lv_iconst (v := 0) hx hb dX6_item_223 (by decide) ?_
              obtain rfl := Option.some.inj h
              exact hQ 224 H locs ls (nz (.inl rfl)) hP hD hS dX6_item_224
            · have h := oi_f cc h
              refine lv_aload_n hx hb dX6_item_205 rfl (lv_at hl 1 rfl) ?_
              refine lv_iload_n hx hb dX6_item_206 rfl (lv_at hl 0 rfl) ?_
              refine lv_iconst (v := 3) hx hb dX6_item_207 (by decide) ?_
              refine lv_iadd hx hb dX6_item_208 ?_
              refine lv_iconst (v := 0) hx hb dX6_item_209 (by decide) ?_
              refine lv_iconst (v := 1) hx hb dX6_item_210 (by decide) ?_
              refine lv_bipush (v := 59) hx hb dX6_item_211 (by decide) ?_
              obtain ⟨u213, hu213, h⟩ := ob h
              refine gV_i (C := RX6) (T := TX6) (N := 12) (ci := 5) (q0 := 0) (wc := [(a_t, .inr (5, [.int t_length, .ref a_t_text, .int u199.2.1, .ref a_t_told, .ref a_t_read, .ref a_t_s, .ref a_t_before, .int t_undoMany, .int t_shortAs, .int t_isolatorAs, .int t_worstWire, .int t_worstLost])), (a_t_text, .inl (cI, 200, .inl t_text)), (a_t_read, .inl (cI, 67, .inl u199.2.2))]) (wr := []) (w1 := [(a_t, .inr (5, [.int t_length, .ref a_t_text, .int u213.2.1, .ref a_t_told, .ref a_t_read, .ref a_t_s, .ref a_t_before, .int t_undoMany, .int t_shortAs, .int t_isolatorAs, .int t_worstWire, .int t_worstLost])), (a_t_text, .inl (cI, 200, .inl t_text)), (a_t_read, .inl (cI, 67, .inl u213.2.2))]) (v := u213.1) (As := [.int ((36 + (4 * (t_read (61 : Int32).toNatClampNeg))) + 3), .int 0, .int 1, .int 59]) (rest := []) ⟨hx, hb, hml, hown, hts⟩ (c_X6_number l D cI cS a_t a_t_text a_t_read a_t_told a_t_s a_t_before H.size t_length u199.2.1 t_undoMany t_shortAs t_isolatorAs t_worstWire t_worstLost t_text u199.2.2 ((36 + (4 * (t_read (61 : Int32).toNatClampNeg))) + 3) 0 1 59 u213 hu213) (cwV 4 hts gX6_item_X6_number rfl rfl rfl cd_X6_number ⟨Nat.le_of_ble_eq_true rfl, Nat.le_of_ble_eq_true rfl⟩) hK hN hP hD hS hA [0, 1, 2] [] rfl rfl (by decide) (by decide) (by decide) rfl rfl rfl hl.1 rfl (Nat.le_of_ble_eq_true rfl) dX6_item_213 ⟨Nat.zero_le _, Nat.zero_le _⟩ (fun H locs hP hD hS => ?_)
              have hP : va_P D vwCl [(a_t, .inr (5, [.int t_length, .ref a_t_text, .int u213.2.1, .ref a_t_told, .ref a_t_read, .ref a_t_s, .ref a_t_before, .int t_undoMany, .int t_shortAs, .int t_isolatorAs, .int t_worstWire, .int t_worstLost])), (a_t_text, .inl (cI, 200, .inl t_text)), (a_t_read, .inl (cI, 67, .inl u213.2.2))] H := hP
              have hD : va_D A [(a_t, .inr (5, [.int t_length, .ref a_t_text, .int u213.2.1, .ref a_t_told, .ref a_t_read, .ref a_t_s, .ref a_t_before, .int t_undoMany, .int t_shortAs, .int t_isolatorAs, .int t_worstWire, .int t_worstLost])), (a_t_text, .inl (cI, 200, .inl t_text)), (a_t_read, .inl (cI, 67, .inl u213.2.2))] := hD
              refine lv_if_eq (tgt := 223) hx hb dX6_item_216 (by decide) (fun cc => ?_) (fun cc => ?_)
              · have h := oi_t cc h
                refine lv_iconst (v := 0) hx hb dX6_item_223 (by decide) ?_
                obtain rfl := Option.some.inj h
                exact hQ 224 H locs ls (nz (.inl rfl)) hP hD hS dX6_item_224
              · have h := oi_f cc h
                refine lv_iconst (v := 1) hx hb dX6_item_219 (by decide) ?_
                refine lv_goto (tgt := 224) hx hb dX6_item_220 (by decide) ?_
                obtain rfl := Option.some.inj h
                exact hQ 224 H locs ls (nz (.inr rfl)) hP hD hS dX6_item_224
      · have h := oi_t cc h
        refine lv_iconst (v := 0) hx hb dX6_item_137 (by decide) ?_
        obtain rfl := Option.some.inj h
        exact hQ 138 H locs ls (nz (.inl rfl)) hP hD hS dX6_item_138
    · have h := oi_f c1 h
      by_cases c2 : x0 = 116
      · have h := oi_t c2 h
        refine lv_lookup (tgt := 225) (off := 224) hx hb dX6_item_1 (by decide) (by rw [c2]; rfl) (by decide) ?_
        refine lv_aload_n hx hb dX6_item_225 rfl (lv_at hl 0 rfl) ?_
        refine lv_bipush (v := 62) hx hb dX6_item_226 (by decide) ?_
        refine lv_iconst (v := 1) hx hb dX6_item_228 (by decide) ?_
        refine lv_bipush (v := 90) hx hb dX6_item_229 (by decide) ?_
        refine lv_bipush (v := 44) hx hb dX6_item_231 (by decide) ?_
        obtain ⟨u233, hu233, h⟩ := ob h
        refine gV_i (C := RX6) (T := TX6) (N := 12) (ci := 5) (q0 := 0) (wc := [(a_t, .inr (5, [.int t_length, .ref a_t_text, .int t_spot, .ref a_t_told, .ref a_t_read, .ref a_t_s, .ref a_t_before, .int t_undoMany, .int t_shortAs, .int t_isolatorAs, .int t_worstWire, .int t_worstLost])), (a_t_text, .inl (cI, 200, .inl t_text)), (a_t_read, .inl (cI, 67, .inl t_read))]) (wr := []) (w1 := [(a_t, .inr (5, [.int t_length, .ref a_t_text, .int u233.2.1, .ref a_t_told, .ref a_t_read, .ref a_t_s, .ref a_t_before, .int t_undoMany, .int t_shortAs, .int t_isolatorAs, .int t_worstWire, .int t_worstLost])), (a_t_text, .inl (cI, 200, .inl t_text)), (a_t_read, .inl (cI, 67, .inl u233.2.2))]) (v := u233.1) (As := [.int 62, .int 1, .int 90, .int 44]) (rest := []) ⟨hx, hb, hml, hown, hts⟩ (c_X6_number l D cI cS a_t a_t_text a_t_read a_t_told a_t_s a_t_before H.size t_length t_spot t_undoMany t_shortAs t_isolatorAs t_worstWire t_worstLost t_text t_read 62 1 90 44 u233 hu233) (cwV 4 hts gX6_item_X6_number rfl rfl rfl cd_X6_number ⟨Nat.le_of_ble_eq_true rfl, Nat.le_of_ble_eq_true rfl⟩) hK hN hP hD hS hA [0, 1, 2] [] rfl rfl (by decide) (by decide) (by decide) rfl rfl rfl hl.1 rfl (Nat.le_of_ble_eq_true rfl) dX6_item_233 ⟨Nat.zero_le _, Nat.zero_le _⟩ (fun H locs hP hD hS => ?_)
        have hP : va_P D vwCl [(a_t, .inr (5, [.int t_length, .ref a_t_text, .int u233.2.1, .ref a_t_told, .ref a_t_read, .ref a_t_s, .ref a_t_before, .int t_undoMany, .int t_shortAs, .int t_isolatorAs, .int t_worstWire, .int t_worstLost])), (a_t_text, .inl (cI, 200, .inl t_text)), (a_t_read, .inl (cI, 67, .inl u233.2.2))] H := hP
        have hD : va_D A [(a_t, .inr (5, [.int t_length, .ref a_t_text, .int u233.2.1, .ref a_t_told, .ref a_t_read, .ref a_t_s, .ref a_t_before, .int t_undoMany, .int t_shortAs, .int t_isolatorAs, .int t_worstWire, .int t_worstLost])), (a_t_text, .inl (cI, 200, .inl t_text)), (a_t_read, .inl (cI, 67, .inl u233.2.2))] := hD
        refine lv_if_eq (tgt := 293) hx hb dX6_item_236 (by decide) (fun cc => ?_) (fun cc => ?_)
        · have h := oi_t cc h
          refine lv_iconst (v := 0) hx hb dX6_item_293 (by decide) ?_
          obtain rfl := Option.some.inj h
          exact hQ 294 H locs ls (nz (.inl rfl)) hP hD hS dX6_item_294
        · have h := oi_f cc h
          refine lv_aload_n hx hb dX6_item_239 rfl (lv_at hl 0 rfl) ?_
          refine lv_bipush (v := 63) hx hb dX6_item_240 (by decide) ?_
          refine lv_aload_n hx hb dX6_item_242 rfl (lv_at hl 0 rfl) ?_
          refine va_get (D := D) (ci := 5) (v := .ref a_t_read) (C := RX6) (T := TX6) (N := 12) hx hb hts inX6 hown hK hP 0 rfl rfl 4 (by decide) k_0 (fun _ h9 => h9) rfl dX6_item_243 ?_
          refine lv_bipush (v := 62) hx hb dX6_item_246 (by decide) ?_
          refine va_iald hx hb hK hP 2 0 rfl rfl (i := 62) (show gi 62 67 by decide) dX6_item_248 ?_
          refine lv_iconst (v := 1) hx hb dX6_item_249 (by decide) ?_
          refine lv_iadd hx hb dX6_item_250 ?_
          refine lv_bipush (v := 99) hx hb dX6_item_251 (by decide) ?_
          refine lv_bipush (v := 44) hx hb dX6_item_253 (by decide) ?_
          obtain ⟨u255, hu255, h⟩ := ob h
          refine gV_i (C := RX6) (T := TX6) (N := 12) (ci := 5) (q0 := 0) (wc := [(a_t, .inr (5, [.int t_length, .ref a_t_text, .int u233.2.1, .ref a_t_told, .ref a_t_read, .ref a_t_s, .ref a_t_before, .int t_undoMany, .int t_shortAs, .int t_isolatorAs, .int t_worstWire, .int t_worstLost])), (a_t_text, .inl (cI, 200, .inl t_text)), (a_t_read, .inl (cI, 67, .inl u233.2.2))]) (wr := []) (w1 := [(a_t, .inr (5, [.int t_length, .ref a_t_text, .int u255.2.1, .ref a_t_told, .ref a_t_read, .ref a_t_s, .ref a_t_before, .int t_undoMany, .int t_shortAs, .int t_isolatorAs, .int t_worstWire, .int t_worstLost])), (a_t_text, .inl (cI, 200, .inl t_text)), (a_t_read, .inl (cI, 67, .inl u255.2.2))]) (v := u255.1) (As := [.int 63, .int ((u233.2.2 (62 : Int32).toNatClampNeg) + 1), .int 99, .int 44]) (rest := []) ⟨hx, hb, hml, hown, hts⟩ (c_X6_number l D cI cS a_t a_t_text a_t_read a_t_told a_t_s a_t_before H.size t_length u233.2.1 t_undoMany t_shortAs t_isolatorAs t_worstWire t_worstLost t_text u233.2.2 63 ((u233.2.2 (62 : Int32).toNatClampNeg) + 1) 99 44 u255 hu255) (cwV 4 hts gX6_item_X6_number rfl rfl rfl cd_X6_number ⟨Nat.le_of_ble_eq_true rfl, Nat.le_of_ble_eq_true rfl⟩) hK hN hP hD hS hA [0, 1, 2] [] rfl rfl (by decide) (by decide) (by decide) rfl rfl rfl hl.1 rfl (Nat.le_of_ble_eq_true rfl) dX6_item_255 ⟨Nat.zero_le _, Nat.zero_le _⟩ (fun H locs hP hD hS => ?_)
          have hP : va_P D vwCl [(a_t, .inr (5, [.int t_length, .ref a_t_text, .int u255.2.1, .ref a_t_told, .ref a_t_read, .ref a_t_s, .ref a_t_before, .int t_undoMany, .int t_shortAs, .int t_isolatorAs, .int t_worstWire, .int t_worstLost])), (a_t_text, .inl (cI, 200, .inl t_text)), (a_t_read, .inl (cI, 67, .inl u255.2.2))] H := hP
          have hD : va_D A [(a_t, .inr (5, [.int t_length, .ref a_t_text, .int u255.2.1, .ref a_t_told, .ref a_t_read, .ref a_t_s, .ref a_t_before, .int t_undoMany, .int t_shortAs, .int t_isolatorAs, .int t_worstWire, .int t_worstLost])), (a_t_text, .inl (cI, 200, .inl t_text)), (a_t_read, .inl (cI, 67, .inl u255.2.2))] := hD
          refine lv_if_eq (tgt := 293) hx hb dX6_item_258 (by decide) (fun cc => ?_) (fun cc => ?_)
          · have h := oi_t cc h
            refine lv_iconst (v := 0) hx hb dX6_item_293 (by decide) ?_
            obtain rfl := Option.some.inj h
            exact hQ 294 H locs ls (nz (.inl rfl)) hP hD hS dX6_item_294
          · have h := oi_f cc h
            refine lv_aload_n hx hb dX6_item_261 rfl (lv_at hl 0 rfl) ?_
            refine lv_bipush (v := 64) hx hb dX6_item_262 (by decide) ?_
            refine lv_iconst (v := 0) hx hb dX6_item_264 (by decide) ?_
            refine lv_bipush (v := 9) hx hb dX6_item_265 (by decide) ?_
            refine lv_bipush (v := 44) hx hb dX6_item_267 (by decide) ?_
            obtain ⟨u269, hu269, h⟩ := ob h
            refine gV_i (C := RX6) (T := TX6) (N := 12) (ci := 5) (q0 := 0) (wc := [(a_t, .inr (5, [.int t_length, .ref a_t_text, .int u255.2.1, .ref a_t_told, .ref a_t_read, .ref a_t_s, .ref a_t_before, .int t_undoMany, .int t_shortAs, .int t_isolatorAs, .int t_worstWire, .int t_worstLost])), (a_t_text, .inl (cI, 200, .inl t_text)), (a_t_read, .inl (cI, 67, .inl u255.2.2))]) (wr := []) (w1 := [(a_t, .inr (5, [.int t_length, .ref a_t_text, .int u269.2.1, .ref a_t_told, .ref a_t_read, .ref a_t_s, .ref a_t_before, .int t_undoMany, .int t_shortAs, .int t_isolatorAs, .int t_worstWire, .int t_worstLost])), (a_t_text, .inl (cI, 200, .inl t_text)), (a_t_read, .inl (cI, 67, .inl u269.2.2))]) (v := u269.1) (As := [.int 64, .int 0, .int 9, .int 44]) (rest := []) ⟨hx, hb, hml, hown, hts⟩ (c_X6_number l D cI cS a_t a_t_text a_t_read a_t_told a_t_s a_t_before H.size t_length u255.2.1 t_undoMany t_shortAs t_isolatorAs t_worstWire t_worstLost t_text u255.2.2 64 0 9 44 u269 hu269) (cwV 4 hts gX6_item_X6_number rfl rfl rfl cd_X6_number ⟨Nat.le_of_ble_eq_true rfl, Nat.le_of_ble_eq_true rfl⟩) hK hN hP hD hS hA [0, 1, 2] [] rfl rfl (by decide) (by decide) (by decide) rfl rfl rfl hl.1 rfl (Nat.le_of_ble_eq_true rfl) dX6_item_269 ⟨Nat.zero_le _, Nat.zero_le _⟩ (fun H locs hP hD hS => ?_)
            have hP : va_P D vwCl [(a_t, .inr (5, [.int t_length, .ref a_t_text, .int u269.2.1, .ref a_t_told, .ref a_t_read, .ref a_t_s, .ref a_t_before, .int t_undoMany, .int t_shortAs, .int t_isolatorAs, .int t_worstWire, .int t_worstLost])), (a_t_text, .inl (cI, 200, .inl t_text)), (a_t_read, .inl (cI, 67, .inl u269.2.2))] H := hP
            have hD : va_D A [(a_t, .inr (5, [.int t_length, .ref a_t_text, .int u269.2.1, .ref a_t_told, .ref a_t_read, .ref a_t_s, .ref a_t_before, .int t_undoMany, .int t_shortAs, .int t_isolatorAs, .int t_worstWire, .int t_worstLost])), (a_t_text, .inl (cI, 200, .inl t_text)), (a_t_read, .inl (cI, 67, .inl u269.2.2))] := hD
            refine lv_if_eq (tgt := 293) hx hb dX6_item_272 (by decide) (fun cc => ?_) (fun cc => ?_)
            · have h := oi_t cc h
              refine lv_iconst (v := 0) hx hb dX6_item_293 (by decide) ?_
              obtain rfl := Option.some.inj h
              exact hQ 294 H locs ls (nz (.inl rfl)) hP hD hS dX6_item_294
            · have h := oi_f cc h
              refine lv_aload_n hx hb dX6_item_275 rfl (lv_at hl 0 rfl) ?_
              refine lv_bipush (v := 65) hx hb dX6_item_276 (by decide) ?_
              refine lv_iconst (v := 1) hx hb dX6_item_278 (by decide) ?_
              refine lv_bipush (v := 9) hx hb dX6_item_279 (by decide) ?_
              refine lv_bipush (v := 59) hx hb dX6_item_281 (by decide) ?_
              obtain ⟨u283, hu283, h⟩ := ob h
              refine gV_i (C := RX6) (T := TX6) (N := 12) (ci := 5) (q0 := 0) (wc := [(a_t, .inr (5, [.int t_length, .ref a_t_text, .int u269.2.1, .ref a_t_told, .ref a_t_read, .ref a_t_s, .ref a_t_before, .int t_undoMany, .int t_shortAs, .int t_isolatorAs, .int t_worstWire, .int t_worstLost])), (a_t_text, .inl (cI, 200, .inl t_text)), (a_t_read, .inl (cI, 67, .inl u269.2.2))]) (wr := []) (w1 := [(a_t, .inr (5, [.int t_length, .ref a_t_text, .int u283.2.1, .ref a_t_told, .ref a_t_read, .ref a_t_s, .ref a_t_before, .int t_undoMany, .int t_shortAs, .int t_isolatorAs, .int t_worstWire, .int t_worstLost])), (a_t_text, .inl (cI, 200, .inl t_text)), (a_t_read, .inl (cI, 67, .inl u283.2.2))]) (v := u283.1) (As := [.int 65, .int 1, .int 9, .int 59]) (rest := []) ⟨hx, hb, hml, hown, hts⟩ (c_X6_number l D cI cS a_t a_t_text a_t_read a_t_told a_t_s a_t_before H.size t_length u269.2.1 t_undoMany t_shortAs t_isolatorAs t_worstWire t_worstLost t_text u269.2.2 65 1 9 59 u283 hu283) (cwV 4 hts gX6_item_X6_number rfl rfl rfl cd_X6_number ⟨Nat.le_of_ble_eq_true rfl, Nat.le_of_ble_eq_true rfl⟩) hK hN hP hD hS hA [0, 1, 2] [] rfl rfl (by decide) (by decide) (by decide) rfl rfl rfl hl.1 rfl (Nat.le_of_ble_eq_true rfl) dX6_item_283 ⟨Nat.zero_le _, Nat.zero_le _⟩ (fun H locs hP hD hS => ?_)
              have hP : va_P D vwCl [(a_t, .inr (5, [.int t_length, .ref a_t_text, .int u283.2.1, .ref a_t_told, .ref a_t_read, .ref a_t_s, .ref a_t_before, .int t_undoMany, .int t_shortAs, .int t_isolatorAs, .int t_worstWire, .int t_worstLost])), (a_t_text, .inl (cI, 200, .inl t_text)), (a_t_read, .inl (cI, 67, .inl u283.2.2))] H := hP
              have hD : va_D A [(a_t, .inr (5, [.int t_length, .ref a_t_text, .int u283.2.1, .ref a_t_told, .ref a_t_read, .ref a_t_s, .ref a_t_before, .int t_undoMany, .int t_shortAs, .int t_isolatorAs, .int t_worstWire, .int t_worstLost])), (a_t_text, .inl (cI, 200, .inl t_text)), (a_t_read, .inl (cI, 67, .inl u283.2.2))] := hD
              refine lv_if_eq (tgt := 293) hx hb dX6_item_286 (by decide) (fun cc => ?_) (fun cc => ?_)
              · have h := oi_t cc h
                refine lv_iconst (v := 0) hx hb dX6_item_293 (by decide) ?_
                obtain rfl := Option.some.inj h
                exact hQ 294 H locs ls (nz (.inl rfl)) hP hD hS dX6_item_294
              · have h := oi_f cc h
                refine lv_iconst (v := 1) hx hb dX6_item_289 (by decide) ?_
                refine lv_goto (tgt := 294) hx hb dX6_item_290 (by decide) ?_
                obtain rfl := Option.some.inj h
                exact hQ 294 H locs ls (nz (.inr rfl)) hP hD hS dX6_item_294
      · have h := oi_f c2 h
        by_cases c3 : x0 = 118
        · have h := oi_t c3 h
          refine lv_lookup (tgt := 295) (off := 294) hx hb dX6_item_1 (by decide) (by rw [c3]; rfl) (by decide) ?_
          refine lv_aload_n hx hb dX6_item_295 rfl (lv_at hl 0 rfl) ?_
          refine lv_bipush (v := 66) hx hb dX6_item_296 (by decide) ?_
          refine lv_iconst (v := 1) hx hb dX6_item_298 (by decide) ?_
          refine lv_bipush (v := 9) hx hb dX6_item_299 (by decide) ?_
          refine lv_bipush (v := 59) hx hb dX6_item_301 (by decide) ?_
          obtain ⟨u303, hu303, h⟩ := ob h
          refine gV_i (C := RX6) (T := TX6) (N := 12) (ci := 5) (q0 := 0) (wc := [(a_t, .inr (5, [.int t_length, .ref a_t_text, .int t_spot, .ref a_t_told, .ref a_t_read, .ref a_t_s, .ref a_t_before, .int t_undoMany, .int t_shortAs, .int t_isolatorAs, .int t_worstWire, .int t_worstLost])), (a_t_text, .inl (cI, 200, .inl t_text)), (a_t_read, .inl (cI, 67, .inl t_read))]) (wr := []) (w1 := [(a_t, .inr (5, [.int t_length, .ref a_t_text, .int u303.2.1, .ref a_t_told, .ref a_t_read, .ref a_t_s, .ref a_t_before, .int t_undoMany, .int t_shortAs, .int t_isolatorAs, .int t_worstWire, .int t_worstLost])), (a_t_text, .inl (cI, 200, .inl t_text)), (a_t_read, .inl (cI, 67, .inl u303.2.2))]) (v := u303.1) (As := [.int 66, .int 1, .int 9, .int 59]) (rest := []) ⟨hx, hb, hml, hown, hts⟩ (c_X6_number l D cI cS a_t a_t_text a_t_read a_t_told a_t_s a_t_before H.size t_length t_spot t_undoMany t_shortAs t_isolatorAs t_worstWire t_worstLost t_text t_read 66 1 9 59 u303 hu303) (cwV 4 hts gX6_item_X6_number rfl rfl rfl cd_X6_number ⟨Nat.le_of_ble_eq_true rfl, Nat.le_of_ble_eq_true rfl⟩) hK hN hP hD hS hA [0, 1, 2] [] rfl rfl (by decide) (by decide) (by decide) rfl rfl rfl hl.1 rfl (Nat.le_of_ble_eq_true rfl) dX6_item_303 ⟨Nat.zero_le _, Nat.zero_le _⟩ (fun H locs hP hD hS => ?_)
          have hP : va_P D vwCl [(a_t, .inr (5, [.int t_length, .ref a_t_text, .int u303.2.1, .ref a_t_told, .ref a_t_read, .ref a_t_s, .ref a_t_before, .int t_undoMany, .int t_shortAs, .int t_isolatorAs, .int t_worstWire, .int t_worstLost])), (a_t_text, .inl (cI, 200, .inl t_text)), (a_t_read, .inl (cI, 67, .inl u303.2.2))] H := hP
          have hD : va_D A [(a_t, .inr (5, [.int t_length, .ref a_t_text, .int u303.2.1, .ref a_t_told, .ref a_t_read, .ref a_t_s, .ref a_t_before, .int t_undoMany, .int t_shortAs, .int t_isolatorAs, .int t_worstWire, .int t_worstLost])), (a_t_text, .inl (cI, 200, .inl t_text)), (a_t_read, .inl (cI, 67, .inl u303.2.2))] := hD
          obtain ⟨gg, h⟩ := og h
          obtain rfl := Option.some.inj h
          exact hQ 306 H locs ls (nz gg) hP hD hS dX6_item_306
        · have h := oi_f c3 h
          refine lv_lookup (tgt := 307) (off := 306) hx hb dX6_item_1 (by decide) (by show Op.lookupswitch.offset [(100, 43), (101, 124), (116, 224), (118, 294)] _ _ = _; rw [lv_osw (k := 100) (a := 100) c0 (by decide), lv_osw (k := 101) (a := 101) c1 (by decide), lv_osw (k := 116) (a := 116) c2 (by decide), lv_osw (k := 118) (a := 118) c3 (by decide)]; rfl) (by decide) ?_
          refine lv_iconst (v := 0) hx hb dX6_item_307 (by decide) ?_
          obtain rfl := Option.some.inj h
          exact hQ 308 H locs ls (nz (.inl rfl)) hP hD hS dX6_item_308

def f_X6_fault_12 (t_length : Int32) (t_text : FN) : Nat → Int32 → FN → Option (Int32 × Int32 × FN)
  | 0, _, _ => none
  | n + 1, w_t_spot, w_t_read => (if t_length ≤ w_t_spot then some ((-4), w_t_spot, w_t_read) else (if gi w_t_spot 200 then ((f_X6_item t_length (w_t_spot + 1) t_text w_t_read (t_text (w_t_spot).toNatClampNeg)).bind (fun u45 => (if u45.1 = 0 then some (w_t_spot, u45.2.1, u45.2.2) else f_X6_fault_12 t_length t_text n u45.2.1 u45.2.2))) else none))
def f_X6_fault (t_length : Int32) (t_text : FN) (t_read : FN) : Option (Int32 × Int32 × FN) := ((f_X6_begins t_read).bind (fun u4 => f_X6_fault_12 t_length t_text 1000 0 u4))
abbrev rm_X6_fault : Room := { frames := 3, cells := 0, slots := 0, locals := 74 }
theorem cd_X6_fault : (yX6_fault).cls = RX6 ∧ (yX6_fault).cls ≠ "java/lang/invoke/MethodHandle" ∧ (yX6_fault).cls ≠ "java/lang/invoke/VarHandle" ∧ (parseMethodDescriptor (yX6_fault).desc).map (fun d => d.parameters.length) = some 0 := by decide +kernel
set_option maxHeartbeats 4000000 in
set_option maxRecDepth 100000 in
theorem c_X6_fault (l : Launch) (D : va_G) (cI cS : ClassId) (a_t a_t_text a_t_read a_t_told a_t_s a_t_before : Nat) (sz : Nat) (t_length : Int32) (t_spot : Int32) (t_undoMany : Int32) (t_shortAs : Int32) (t_isolatorAs : Int32) (t_worstWire : Int32) (t_worstLost : Int32) (t_text : FN) (t_read : FN) (out : Int32 × Int32 × FN) (h : f_X6_fault t_length t_text t_read = some out) : Met l yX6_fault wsX6_fault rm_X6_fault (va_Pc [.ref a_t] (GP D cI cS [(a_t, .inr (5, [.int t_length, .ref a_t_text, .int t_spot, .ref a_t_told, .ref a_t_read, .ref a_t_s, .ref a_t_before, .int t_undoMany, .int t_shortAs, .int t_isolatorAs, .int t_worstWire, .int t_worstLost])), (a_t_text, .inl (cI, 200, .inl t_text)), (a_t_read, .inl (cI, 67, .inl t_read))] sz)) (QI D [(a_t, .inr (5, [.int t_length, .ref a_t_text, .int t_spot, .ref a_t_told, .ref a_t_read, .ref a_t_s, .ref a_t_before, .int t_undoMany, .int t_shortAs, .int t_isolatorAs, .int t_worstWire, .int t_worstLost])), (a_t_text, .inl (cI, 200, .inl t_text)), (a_t_read, .inl (cI, 67, .inl t_read))] sz [(a_t, .inr (5, [.int t_length, .ref a_t_text, .int out.2.1, .ref a_t_told, .ref a_t_read, .ref a_t_s, .ref a_t_before, .int t_undoMany, .int t_shortAs, .int t_isolatorAs, .int t_worstWire, .int t_worstLost])), (a_t_text, .inl (cI, 200, .inl t_text)), (a_t_read, .inl (cI, 67, .inl out.2.2))] out.1) 0 0 (va_A [(a_t, .inr (5, [.int t_length, .ref a_t_text, .int t_spot, .ref a_t_told, .ref a_t_read, .ref a_t_s, .ref a_t_before, .int t_undoMany, .int t_shortAs, .int t_isolatorAs, .int t_worstWire, .int t_worstLost])), (a_t_text, .inl (cI, 200, .inl t_text)), (a_t_read, .inl (cI, 67, .inl t_read))] sz) := by
  refine gm_i (cc := cX6_fault) (maxL := 2) (rt := .int) (by decide) rfl (Nat.le_of_ble_eq_true rfl) ?_
  intro p e s m args below meth c A Q H locs ls hx hb hml hown hts hK hN hA hP hD hS hl hQ
  have hown : s.vm.findClass RX6 = some m.cls := hown
  have hl : lv_has ls 2 [(0, .ref a_t)] := hl
  have inX6 : ∀ w ∈ wsX60, w ∈ wsX6_fault := by decide +kernel
  have k_0 := hts (.fieldLink RX6 16 "AlarmRingModel" "read" "[I") (by decide +kernel)
  have k_1 := hts (.fieldLink RX6 61 "AlarmRingModel" "spot" "I") (by decide +kernel)
  have k_2 := hts (.fieldLink RX6 58 "AlarmRingModel" "length" "I") (by decide +kernel)
  have k_3 := hts (.fieldLink RX6 7 "AlarmRingModel" "text" "[I") (by decide +kernel)
  have lp12 : ∀ (n : Nat) (w_t_spot : Int32) (w_t_read : FN) (H : Heap) (locs : List Loc) (ls : Array Slot), va_P D vwCl [(a_t, .inr (5, [.int t_length, .ref a_t_text, .int w_t_spot, .ref a_t_told, .ref a_t_read, .ref a_t_s, .ref a_t_before, .int t_undoMany, .int t_shortAs, .int t_isolatorAs, .int t_worstWire, .int t_worstLost])), (a_t_text, .inl (cI, 200, .inl t_text)), (a_t_read, .inl (cI, 67, .inl w_t_read))] H → va_D A [(a_t, .inr (5, [.int t_length, .ref a_t_text, .int w_t_spot, .ref a_t_told, .ref a_t_read, .ref a_t_s, .ref a_t_before, .int t_undoMany, .int t_shortAs, .int t_isolatorAs, .int t_worstWire, .int t_worstLost])), (a_t_text, .inl (cI, 200, .inl t_text)), (a_t_read, .inl (cI, 67, .inl w_t_read))] → va_S A s.heap H locs → lv_has ls 2 [(0, .ref a_t)] → f_X6_fault_12 t_length t_text n w_t_spot w_t_read = some out → W p l e rm_X6_fault s m args below meth c H locs 0 0 Q (F0 m 12 ls []) := by
    intro n
    induction n with
    | zero => intro w_t_spot w_t_read H locs ls hP hD hS hl h; exact on_ h
    | succ n ih =>
      intro w_t_spot w_t_read H locs ls hP hD hS hl h
      rw [f_X6_fault_12] at h
      refine lv_aload_n hx hb dX6_fault_12 rfl (lv_at hl 0 rfl) ?_
      refine va_get (D := D) (ci := 5) (v := .int w_t_spot) (C := RX6) (T := TX6) (N := 12) hx hb hts inX6 hown hK hP 0 rfl rfl 2 (by decide) k_1 (fun _ h9 => h9) rfl dX6_fault_13 ?_
      refine lv_aload_n hx hb dX6_fault_16 rfl (lv_at hl 0 rfl) ?_
      refine va_get (D := D) (ci := 5) (v := .int t_length) (C := RX6) (T := TX6) (N := 12) hx hb hts inX6 hown hK hP 0 rfl rfl 0 (by decide) k_2 (fun _ h9 => h9) rfl dX6_fault_17 ?_
      refine lv_icmp_ge (tgt := 56) hx hb dX6_fault_20 (by decide) (fun cc => ?_) (fun cc => ?_)
      · have h := oi_t cc h
        refine lv_bipush (v := (-4)) hx hb dX6_fault_56 (by decide) ?_
        obtain rfl := Option.some.inj h
        exact hQ 58 H locs ls rfl hP hD hS dX6_fault_58
      · have h := oi_f cc h
        refine lv_aload_n hx hb dX6_fault_23 rfl (lv_at hl 0 rfl) ?_
        refine va_get (D := D) (ci := 5) (v := .int w_t_spot) (C := RX6) (T := TX6) (N := 12) hx hb hts inX6 hown hK hP 0 rfl rfl 2 (by decide) k_1 (fun _ h9 => h9) rfl dX6_fault_24 ?_
        refine lv_istore_n (lv' := [(1, .int w_t_spot), (0, .ref a_t)]) hx hb dX6_fault_27 rfl hl (by decide) rfl (fun ls hl => ?_)
        refine lv_aload_n hx hb dX6_fault_28 rfl (lv_at hl 1 rfl) ?_
        refine lv_dup hx hb dX6_fault_29 rfl ?_
        refine va_get (D := D) (ci := 5) (v := .int w_t_spot) (C := RX6) (T := TX6) (N := 12) hx hb hts inX6 hown hK hP 0 rfl rfl 2 (by decide) k_1 (fun _ h9 => h9) rfl dX6_fault_30 ?_
        refine lv_iconst (v := 1) hx hb dX6_fault_33 (by decide) ?_
        refine lv_iadd hx hb dX6_fault_34 ?_
        refine va_put (D := D) (ci := 5) (v := .int (w_t_spot + 1)) (ty := .int) (C := RX6) (T := TX6) (N := 12) hx hb hts inX6 tyX6 tyX6_ok nmX6 hown hK hP hD hS 0 rfl rfl 2 (by decide) k_1 (fun _ h9 => h9) rfl (by decide +kernel) rfl rfl (Nat.le_of_ble_eq_true rfl) dX6_fault_35 (fun H locs hP hD hS => ?_)
        have hP : va_P D vwCl [(a_t, .inr (5, [.int t_length, .ref a_t_text, .int (w_t_spot + 1), .ref a_t_told, .ref a_t_read, .ref a_t_s, .ref a_t_before, .int t_undoMany, .int t_shortAs, .int t_isolatorAs, .int t_worstWire, .int t_worstLost])), (a_t_text, .inl (cI, 200, .inl t_text)), (a_t_read, .inl (cI, 67, .inl w_t_read))] H := hP
        have hD : va_D A [(a_t, .inr (5, [.int t_length, .ref a_t_text, .int (w_t_spot + 1), .ref a_t_told, .ref a_t_read, .ref a_t_s, .ref a_t_before, .int t_undoMany, .int t_shortAs, .int t_isolatorAs, .int t_worstWire, .int t_worstLost])), (a_t_text, .inl (cI, 200, .inl t_text)), (a_t_read, .inl (cI, 67, .inl w_t_read))] := hD
        refine lv_aload_n hx hb dX6_fault_38 rfl (lv_at hl 1 rfl) ?_
        refine lv_aload_n hx hb dX6_fault_39 rfl (lv_at hl 1 rfl) ?_
        refine va_get (D := D) (ci := 5) (v := .ref a_t_text) (C := RX6) (T := TX6) (N := 12) hx hb hts inX6 hown hK hP 0 rfl rfl 1 (by decide) k_3 (fun _ h9 => h9) rfl dX6_fault_40 ?_
        refine lv_iload_n hx hb dX6_fault_43 rfl (lv_at hl 0 rfl) ?_
        obtain ⟨gg, h⟩ := og h
        refine va_iald hx hb hK hP 1 0 rfl rfl gg dX6_fault_44 ?_
        obtain ⟨u45, hu45, h⟩ := ob h
        refine gV_i (C := RX6) (T := TX6) (N := 12) (ci := 5) (q0 := 0) (wc := [(a_t, .inr (5, [.int t_length, .ref a_t_text, .int (w_t_spot + 1), .ref a_t_told, .ref a_t_read, .ref a_t_s, .ref a_t_before, .int t_undoMany, .int t_shortAs, .int t_isolatorAs, .int t_worstWire, .int t_worstLost])), (a_t_text, .inl (cI, 200, .inl t_text)), (a_t_read, .inl (cI, 67, .inl w_t_read))]) (wr := []) (w1 := [(a_t, .inr (5, [.int t_length, .ref a_t_text, .int u45.2.1, .ref a_t_told, .ref a_t_read, .ref a_t_s, .ref a_t_before, .int t_undoMany, .int t_shortAs, .int t_isolatorAs, .int t_worstWire, .int t_worstLost])), (a_t_text, .inl (cI, 200, .inl t_text)), (a_t_read, .inl (cI, 67, .inl u45.2.2))]) (v := u45.1) (As := [.int (t_text (w_t_spot).toNatClampNeg)]) (rest := []) ⟨hx, hb, hml, hown, hts⟩ (c_X6_item l D cI cS a_t a_t_text a_t_read a_t_told a_t_s a_t_before H.size t_length (w_t_spot + 1) t_undoMany t_shortAs t_isolatorAs t_worstWire t_worstLost t_text w_t_read (t_text (w_t_spot).toNatClampNeg) u45 hu45) (cwV 1 hts gX6_fault_X6_item rfl rfl rfl cd_X6_item ⟨Nat.le_of_ble_eq_true rfl, Nat.le_of_ble_eq_true rfl⟩) hK hN hP hD hS hA [0, 1, 2] [] rfl rfl (by decide) (by decide) (by decide) rfl rfl rfl hl.1 rfl (Nat.le_of_ble_eq_true rfl) dX6_fault_45 ⟨Nat.zero_le _, Nat.zero_le _⟩ (fun H locs hP hD hS => ?_)
        have hP : va_P D vwCl [(a_t, .inr (5, [.int t_length, .ref a_t_text, .int u45.2.1, .ref a_t_told, .ref a_t_read, .ref a_t_s, .ref a_t_before, .int t_undoMany, .int t_shortAs, .int t_isolatorAs, .int t_worstWire, .int t_worstLost])), (a_t_text, .inl (cI, 200, .inl t_text)), (a_t_read, .inl (cI, 67, .inl u45.2.2))] H := hP
        have hD : va_D A [(a_t, .inr (5, [.int t_length, .ref a_t_text, .int u45.2.1, .ref a_t_told, .ref a_t_read, .ref a_t_s, .ref a_t_before, .int t_undoMany, .int t_shortAs, .int t_isolatorAs, .int t_worstWire, .int t_worstLost])), (a_t_text, .inl (cI, 200, .inl t_text)), (a_t_read, .inl (cI, 67, .inl u45.2.2))] := hD
        refine lv_if_ne (tgt := 53) hx hb dX6_fault_48 (by decide) (fun cc => ?_) (fun cc => ?_)
        · have h := oi_f cc h
          refine lv_goto (tgt := 12) hx hb dX6_fault_53 (by decide) ?_
          exact ih u45.2.1 u45.2.2 H locs ls hP hD hS (lv_sub hl [1] rfl) h
        · have h := oi_t cc h
          refine lv_iload_n hx hb dX6_fault_51 rfl (lv_at hl 0 rfl) ?_
          obtain rfl := Option.some.inj h
          exact hQ 52 H locs ls rfl hP hD hS dX6_fault_52
  unfold f_X6_fault at h
  refine lv_aload_n hx hb dX6_fault_0 rfl (lv_at hl 0 rfl) ?_
  refine va_get (D := D) (ci := 5) (v := .ref a_t_read) (C := RX6) (T := TX6) (N := 12) hx hb hts inX6 hown hK hP 0 rfl rfl 4 (by decide) k_0 (fun _ h9 => h9) rfl dX6_fault_1 ?_
  obtain ⟨u4, hu4, h⟩ := ob h
  refine gS_v (wc := [(a_t_read, .inl (cI, 67, .inl t_read))]) (wr := [(a_t, .inr (5, [.int t_length, .ref a_t_text, .int t_spot, .ref a_t_told, .ref a_t_read, .ref a_t_s, .ref a_t_before, .int t_undoMany, .int t_shortAs, .int t_isolatorAs, .int t_worstWire, .int t_worstLost])), (a_t_text, .inl (cI, 200, .inl t_text))]) (w1 := [(a_t_read, .inl (cI, 67, .inl u4))]) (As := [.ref a_t_read]) (rest := []) ⟨hx, hb, hml, hown, hts⟩ (c_X6_begins l D cI cS a_t_read H.size t_read u4 hu4) (va_cwS 1 hts gX6_fault_X6_begins rfl rfl rfl cd_X6_begins ⟨Nat.le_of_ble_eq_true rfl, Nat.le_of_ble_eq_true rfl⟩) hK hN hP hD hS hA [2] [0, 1] rfl rfl (by decide) (by decide) (by decide) rfl hl.1 rfl (Nat.le_of_ble_eq_true rfl) dX6_fault_4 ⟨Nat.zero_le _, Nat.zero_le _⟩ (fun H locs hP hD hS => ?_)
  have hP : va_P D vwCl [(a_t, .inr (5, [.int t_length, .ref a_t_text, .int t_spot, .ref a_t_told, .ref a_t_read, .ref a_t_s, .ref a_t_before, .int t_undoMany, .int t_shortAs, .int t_isolatorAs, .int t_worstWire, .int t_worstLost])), (a_t_text, .inl (cI, 200, .inl t_text)), (a_t_read, .inl (cI, 67, .inl u4))] H := hP
  have hD : va_D A [(a_t, .inr (5, [.int t_length, .ref a_t_text, .int t_spot, .ref a_t_told, .ref a_t_read, .ref a_t_s, .ref a_t_before, .int t_undoMany, .int t_shortAs, .int t_isolatorAs, .int t_worstWire, .int t_worstLost])), (a_t_text, .inl (cI, 200, .inl t_text)), (a_t_read, .inl (cI, 67, .inl u4))] := hD
  refine lv_aload_n hx hb dX6_fault_7 rfl (lv_at hl 0 rfl) ?_
  refine lv_iconst (v := 0) hx hb dX6_fault_8 (by decide) ?_
  refine va_put (D := D) (ci := 5) (v := .int 0) (ty := .int) (C := RX6) (T := TX6) (N := 12) hx hb hts inX6 tyX6 tyX6_ok nmX6 hown hK hP hD hS 0 rfl rfl 2 (by decide) k_1 (fun _ h9 => h9) rfl (by decide +kernel) rfl rfl (Nat.le_of_ble_eq_true rfl) dX6_fault_9 (fun H locs hP hD hS => ?_)
  have hP : va_P D vwCl [(a_t, .inr (5, [.int t_length, .ref a_t_text, .int 0, .ref a_t_told, .ref a_t_read, .ref a_t_s, .ref a_t_before, .int t_undoMany, .int t_shortAs, .int t_isolatorAs, .int t_worstWire, .int t_worstLost])), (a_t_text, .inl (cI, 200, .inl t_text)), (a_t_read, .inl (cI, 67, .inl u4))] H := hP
  have hD : va_D A [(a_t, .inr (5, [.int t_length, .ref a_t_text, .int 0, .ref a_t_told, .ref a_t_read, .ref a_t_s, .ref a_t_before, .int t_undoMany, .int t_shortAs, .int t_isolatorAs, .int t_worstWire, .int t_worstLost])), (a_t_text, .inl (cI, 200, .inl t_text)), (a_t_read, .inl (cI, 67, .inl u4))] := hD
  exact lp12 1000 0 u4 H locs ls hP hD hS (lv_sub hl [0] rfl) h

def f_X6_lay_24 (u1 : Int32 × Int32 × FN) : Nat → Int32 → FN → Option (FN)
  | 0, _, _ => none
  | n + 1, v1, w_t_told => (if 67 ≤ v1 then some (w_t_told) else (if gi v1 67 then (if gi v1 67 then f_X6_lay_24 u1 n (v1 + 1) (upd w_t_told (v1).toNatClampNeg (u1.2.2 (v1).toNatClampNeg)) else none) else none))
def f_X6_lay (t_length : Int32) (t_undoMany : Int32) (t_text : FN) (t_told : FN) (t_read : FN) (t_s : FN) : Option (Int32 × Int32 × Int32 × FN × FN × FN) := ((f_X6_fault t_length t_text t_read).bind (fun u1 => (if u1.1 = (-4) then (if (u1.2.2 (60 : Int32).toNatClampNeg) = 0 then some ((-2), u1.2.1, t_undoMany, t_told, u1.2.2, t_s) else ((f_X6_lay_24 u1 1000 0 t_told).bind (fun (q24 : FN) => ((f_X6_anew t_s).bind (fun u49 => some ((q24 (60 : Int32).toNatClampNeg), u1.2.1, u49.1, q24, u1.2.2, u49.2)))))) else some ((-2), u1.2.1, t_undoMany, t_told, u1.2.2, t_s))))
abbrev rm_X6_lay : Room := { frames := 4, cells := 0, slots := 0, locals := 95 }
theorem cd_X6_lay : (yX6_lay).cls = RX6 ∧ (yX6_lay).cls ≠ "java/lang/invoke/MethodHandle" ∧ (yX6_lay).cls ≠ "java/lang/invoke/VarHandle" ∧ (parseMethodDescriptor (yX6_lay).desc).map (fun d => d.parameters.length) = some 0 := by decide +kernel
set_option maxHeartbeats 4000000 in
set_option maxRecDepth 100000 in
theorem c_X6_lay (l : Launch) (D : va_G) (cI cS : ClassId) (a_t a_t_text a_t_told a_t_read a_t_s a_t_before : Nat) (sz : Nat) (t_length : Int32) (t_spot : Int32) (t_undoMany : Int32) (t_shortAs : Int32) (t_isolatorAs : Int32) (t_worstWire : Int32) (t_worstLost : Int32) (t_text : FN) (t_told : FN) (t_read : FN) (t_s : FN) (out : Int32 × Int32 × Int32 × FN × FN × FN) (h : f_X6_lay t_length t_undoMany t_text t_told t_read t_s = some out) : Met l yX6_lay wsX6_lay rm_X6_lay (va_Pc [.ref a_t] (GP D cI cS [(a_t, .inr (5, [.int t_length, .ref a_t_text, .int t_spot, .ref a_t_told, .ref a_t_read, .ref a_t_s, .ref a_t_before, .int t_undoMany, .int t_shortAs, .int t_isolatorAs, .int t_worstWire, .int t_worstLost])), (a_t_text, .inl (cI, 200, .inl t_text)), (a_t_told, .inl (cI, 67, .inl t_told)), (a_t_read, .inl (cI, 67, .inl t_read)), (a_t_s, .inl (cI, 87, .inl t_s))] sz)) (QI D [(a_t, .inr (5, [.int t_length, .ref a_t_text, .int t_spot, .ref a_t_told, .ref a_t_read, .ref a_t_s, .ref a_t_before, .int t_undoMany, .int t_shortAs, .int t_isolatorAs, .int t_worstWire, .int t_worstLost])), (a_t_text, .inl (cI, 200, .inl t_text)), (a_t_told, .inl (cI, 67, .inl t_told)), (a_t_read, .inl (cI, 67, .inl t_read)), (a_t_s, .inl (cI, 87, .inl t_s))] sz [(a_t, .inr (5, [.int t_length, .ref a_t_text, .int out.2.1, .ref a_t_told, .ref a_t_read, .ref a_t_s, .ref a_t_before, .int out.2.2.1, .int t_shortAs, .int t_isolatorAs, .int t_worstWire, .int t_worstLost])), (a_t_text, .inl (cI, 200, .inl t_text)), (a_t_told, .inl (cI, 67, .inl out.2.2.2.1)), (a_t_read, .inl (cI, 67, .inl out.2.2.2.2.1)), (a_t_s, .inl (cI, 87, .inl out.2.2.2.2.2))] out.1) 0 0 (va_A [(a_t, .inr (5, [.int t_length, .ref a_t_text, .int t_spot, .ref a_t_told, .ref a_t_read, .ref a_t_s, .ref a_t_before, .int t_undoMany, .int t_shortAs, .int t_isolatorAs, .int t_worstWire, .int t_worstLost])), (a_t_text, .inl (cI, 200, .inl t_text)), (a_t_told, .inl (cI, 67, .inl t_told)), (a_t_read, .inl (cI, 67, .inl t_read)), (a_t_s, .inl (cI, 87, .inl t_s))] sz) := by
  refine gm_i (cc := cX6_lay) (maxL := 2) (rt := .int) (by decide) rfl (Nat.le_of_ble_eq_true rfl) ?_
  intro p e s m args below meth c A Q H locs ls hx hb hml hown hts hK hN hA hP hD hS hl hQ
  have hown : s.vm.findClass RX6 = some m.cls := hown
  have hl : lv_has ls 2 [(0, .ref a_t)] := hl
  have inX6 : ∀ w ∈ wsX60, w ∈ wsX6_lay := by decide +kernel
  have k_0 := hts (.fieldLink RX6 16 "AlarmRingModel" "read" "[I") (by decide +kernel)
  have k_1 := hts (.fieldLink RX6 13 "AlarmRingModel" "told" "[I") (by decide +kernel)
  unfold f_X6_lay at h
  refine lv_aload_n hx hb dX6_lay_0 rfl (lv_at hl 0 rfl) ?_
  obtain ⟨u1, hu1, h⟩ := ob h
  refine gV_i (C := RX6) (T := TX6) (N := 12) (ci := 5) (q0 := 0) (wc := [(a_t, .inr (5, [.int t_length, .ref a_t_text, .int t_spot, .ref a_t_told, .ref a_t_read, .ref a_t_s, .ref a_t_before, .int t_undoMany, .int t_shortAs, .int t_isolatorAs, .int t_worstWire, .int t_worstLost])), (a_t_text, .inl (cI, 200, .inl t_text)), (a_t_read, .inl (cI, 67, .inl t_read))]) (wr := [(a_t_told, .inl (cI, 67, .inl t_told)), (a_t_s, .inl (cI, 87, .inl t_s))]) (w1 := [(a_t, .inr (5, [.int t_length, .ref a_t_text, .int u1.2.1, .ref a_t_told, .ref a_t_read, .ref a_t_s, .ref a_t_before, .int t_undoMany, .int t_shortAs, .int t_isolatorAs, .int t_worstWire, .int t_worstLost])), (a_t_text, .inl (cI, 200, .inl t_text)), (a_t_read, .inl (cI, 67, .inl u1.2.2))]) (v := u1.1) (As := []) (rest := []) ⟨hx, hb, hml, hown, hts⟩ (c_X6_fault l D cI cS a_t a_t_text a_t_read a_t_told a_t_s a_t_before H.size t_length t_spot t_undoMany t_shortAs t_isolatorAs t_worstWire t_worstLost t_text t_read u1 hu1) (cwV 0 hts gX6_lay_X6_fault rfl rfl rfl cd_X6_fault ⟨Nat.le_of_ble_eq_true rfl, Nat.le_of_ble_eq_true rfl⟩) hK hN hP hD hS hA [0, 1, 3] [2, 4] rfl rfl (by decide) (by decide) (by decide) rfl rfl rfl hl.1 rfl (Nat.le_of_ble_eq_true rfl) dX6_lay_1 ⟨Nat.zero_le _, Nat.zero_le _⟩ (fun H locs hP hD hS => ?_)
  have hP : va_P D vwCl [(a_t, .inr (5, [.int t_length, .ref a_t_text, .int u1.2.1, .ref a_t_told, .ref a_t_read, .ref a_t_s, .ref a_t_before, .int t_undoMany, .int t_shortAs, .int t_isolatorAs, .int t_worstWire, .int t_worstLost])), (a_t_text, .inl (cI, 200, .inl t_text)), (a_t_told, .inl (cI, 67, .inl t_told)), (a_t_read, .inl (cI, 67, .inl u1.2.2)), (a_t_s, .inl (cI, 87, .inl t_s))] H := hP.sub [2, 3, 0, 4, 1] rfl
  have hD : va_D A [(a_t, .inr (5, [.int t_length, .ref a_t_text, .int u1.2.1, .ref a_t_told, .ref a_t_read, .ref a_t_s, .ref a_t_before, .int t_undoMany, .int t_shortAs, .int t_isolatorAs, .int t_worstWire, .int t_worstLost])), (a_t_text, .inl (cI, 200, .inl t_text)), (a_t_told, .inl (cI, 67, .inl t_told)), (a_t_read, .inl (cI, 67, .inl u1.2.2)), (a_t_s, .inl (cI, 87, .inl t_s))] := hD.sub [2, 3, 0, 4, 1] (by decide) rfl
  refine lv_bipush (v := (-4)) hx hb dX6_lay_4 (by decide) ?_
  refine lv_icmp_ne (tgt := 19) hx hb dX6_lay_6 (by decide) (fun cc => ?_) (fun cc => ?_)
  · have h := oi_f cc h
    refine lv_bipush (v := (-2)) hx hb dX6_lay_19 (by decide) ?_
    obtain rfl := Option.some.inj h
    exact hQ 21 H locs ls rfl hP hD hS dX6_lay_21
  · have h := oi_t cc h
    refine lv_aload_n hx hb dX6_lay_9 rfl (lv_at hl 0 rfl) ?_
    refine va_get (D := D) (ci := 5) (v := .ref a_t_read) (C := RX6) (T := TX6) (N := 12) hx hb hts inX6 hown hK hP 0 rfl rfl 4 (by decide) k_0 (fun _ h9 => h9) rfl dX6_lay_10 ?_
    refine lv_bipush (v := 60) hx hb dX6_lay_13 (by decide) ?_
    refine va_iald hx hb hK hP 3 0 rfl rfl (i := 60) (show gi 60 67 by decide) dX6_lay_15 ?_
    refine lv_if_ne (tgt := 22) hx hb dX6_lay_16 (by decide) (fun cc => ?_) (fun cc => ?_)
    · have h := oi_f cc h
      refine lv_iconst (v := 0) hx hb dX6_lay_22 (by decide) ?_
      refine lv_istore_n (lv' := [(1, .int 0), (0, .ref a_t)]) hx hb dX6_lay_23 rfl hl (by decide) rfl (fun ls hl => ?_)
      obtain ⟨q24, hq24, h⟩ := ob h
      have lp24 : ∀ (n : Nat) (v1 : Int32) (w_t_told : FN) (H : Heap) (locs : List Loc) (ls : Array Slot), va_P D vwCl [(a_t, .inr (5, [.int t_length, .ref a_t_text, .int u1.2.1, .ref a_t_told, .ref a_t_read, .ref a_t_s, .ref a_t_before, .int t_undoMany, .int t_shortAs, .int t_isolatorAs, .int t_worstWire, .int t_worstLost])), (a_t_text, .inl (cI, 200, .inl t_text)), (a_t_told, .inl (cI, 67, .inl w_t_told)), (a_t_read, .inl (cI, 67, .inl u1.2.2)), (a_t_s, .inl (cI, 87, .inl t_s))] H → va_D A [(a_t, .inr (5, [.int t_length, .ref a_t_text, .int u1.2.1, .ref a_t_told, .ref a_t_read, .ref a_t_s, .ref a_t_before, .int t_undoMany, .int t_shortAs, .int t_isolatorAs, .int t_worstWire, .int t_worstLost])), (a_t_text, .inl (cI, 200, .inl t_text)), (a_t_told, .inl (cI, 67, .inl w_t_told)), (a_t_read, .inl (cI, 67, .inl u1.2.2)), (a_t_s, .inl (cI, 87, .inl t_s))] → va_S A s.heap H locs → lv_has ls 2 [(0, .ref a_t), (1, .int v1)] → ∀ (q24 : FN), f_X6_lay_24 u1 n v1 w_t_told = some q24 → (∀ (H : Heap) (locs : List Loc) (ls : Array Slot), va_P D vwCl [(a_t, .inr (5, [.int t_length, .ref a_t_text, .int u1.2.1, .ref a_t_told, .ref a_t_read, .ref a_t_s, .ref a_t_before, .int t_undoMany, .int t_shortAs, .int t_isolatorAs, .int t_worstWire, .int t_worstLost])), (a_t_text, .inl (cI, 200, .inl t_text)), (a_t_told, .inl (cI, 67, .inl q24)), (a_t_read, .inl (cI, 67, .inl u1.2.2)), (a_t_s, .inl (cI, 87, .inl t_s))] H → va_D A [(a_t, .inr (5, [.int t_length, .ref a_t_text, .int u1.2.1, .ref a_t_told, .ref a_t_read, .ref a_t_s, .ref a_t_before, .int t_undoMany, .int t_shortAs, .int t_isolatorAs, .int t_worstWire, .int t_worstLost])), (a_t_text, .inl (cI, 200, .inl t_text)), (a_t_told, .inl (cI, 67, .inl q24)), (a_t_read, .inl (cI, 67, .inl u1.2.2)), (a_t_s, .inl (cI, 87, .inl t_s))] → va_S A s.heap H locs → lv_has ls 2 [(0, .ref a_t)] → W p l e rm_X6_lay s m args below meth c H locs 0 0 Q (F0 m 48 ls [])) → W p l e rm_X6_lay s m args below meth c H locs 0 0 Q (F0 m 24 ls []) := by
        intro n
        induction n with
        | zero => intro v1 w_t_told H locs ls hP hD hS hl q24 h kk; exact on_ h
        | succ n ih =>
          intro v1 w_t_told H locs ls hP hD hS hl q24 h kk
          rw [f_X6_lay_24] at h
          refine lv_iload_n hx hb dX6_lay_24 rfl (lv_at hl 1 rfl) ?_
          refine lv_bipush (v := 67) hx hb dX6_lay_25 (by decide) ?_
          refine lv_icmp_ge (tgt := 48) hx hb dX6_lay_27 (by decide) (fun cc => ?_) (fun cc => ?_)
          · have h := oi_t cc h
            obtain rfl := Option.some.inj h
            exact kk H locs ls hP hD hS (lv_sub hl [0] rfl)
          · have h := oi_f cc h
            refine lv_aload_n hx hb dX6_lay_30 rfl (lv_at hl 0 rfl) ?_
            refine va_get (D := D) (ci := 5) (v := .ref a_t_told) (C := RX6) (T := TX6) (N := 12) hx hb hts inX6 hown hK hP 0 rfl rfl 3 (by decide) k_1 (fun _ h9 => h9) rfl dX6_lay_31 ?_
            refine lv_iload_n hx hb dX6_lay_34 rfl (lv_at hl 1 rfl) ?_
            refine lv_aload_n hx hb dX6_lay_35 rfl (lv_at hl 0 rfl) ?_
            refine va_get (D := D) (ci := 5) (v := .ref a_t_read) (C := RX6) (T := TX6) (N := 12) hx hb hts inX6 hown hK hP 0 rfl rfl 4 (by decide) k_0 (fun _ h9 => h9) rfl dX6_lay_36 ?_
            refine lv_iload_n hx hb dX6_lay_39 rfl (lv_at hl 1 rfl) ?_
            obtain ⟨gg, h⟩ := og h
            refine va_iald hx hb hK hP 3 0 rfl rfl gg dX6_lay_40 ?_
            obtain ⟨gg, h⟩ := og h
            refine va_iast hx hb hK hP hD hS 2 0 rfl rfl gg dX6_lay_41 (fun H locs hP hD hS => ?_)
            have hP : va_P D vwCl [(a_t, .inr (5, [.int t_length, .ref a_t_text, .int u1.2.1, .ref a_t_told, .ref a_t_read, .ref a_t_s, .ref a_t_before, .int t_undoMany, .int t_shortAs, .int t_isolatorAs, .int t_worstWire, .int t_worstLost])), (a_t_text, .inl (cI, 200, .inl t_text)), (a_t_told, .inl (cI, 67, .inl (upd w_t_told (v1).toNatClampNeg (u1.2.2 (v1).toNatClampNeg)))), (a_t_read, .inl (cI, 67, .inl u1.2.2)), (a_t_s, .inl (cI, 87, .inl t_s))] H := hP
            have hD : va_D A [(a_t, .inr (5, [.int t_length, .ref a_t_text, .int u1.2.1, .ref a_t_told, .ref a_t_read, .ref a_t_s, .ref a_t_before, .int t_undoMany, .int t_shortAs, .int t_isolatorAs, .int t_worstWire, .int t_worstLost])), (a_t_text, .inl (cI, 200, .inl t_text)), (a_t_told, .inl (cI, 67, .inl (upd w_t_told (v1).toNatClampNeg (u1.2.2 (v1).toNatClampNeg)))), (a_t_read, .inl (cI, 67, .inl u1.2.2)), (a_t_s, .inl (cI, 87, .inl t_s))] := hD
            refine lv_iinc (v := (v1 + 1)) (lv' := [(1, .int (v1 + 1)), (0, .ref a_t)]) hx hb dX6_lay_42 hl (k := 1) rfl (by first | rfl | decide) (by decide) rfl (fun ls hl => ?_)
            refine lv_goto (tgt := 24) hx hb dX6_lay_45 (by decide) ?_
            exact ih (v1 + 1) (upd w_t_told (v1).toNatClampNeg (u1.2.2 (v1).toNatClampNeg)) H locs ls hP hD hS (lv_sub hl [1, 0] rfl) q24 h kk
      refine lp24 1000 0 t_told H locs ls hP hD hS (lv_sub hl [1, 0] rfl) q24 hq24 (fun H locs ls hP hD hS hl => ?_)
      refine lv_aload_n hx hb dX6_lay_48 rfl (lv_at hl 0 rfl) ?_
      obtain ⟨u49, hu49, h⟩ := ob h
      refine gV_v (C := RX6) (T := TX6) (N := 12) (ci := 5) (q0 := 0) (wc := [(a_t, .inr (5, [.int t_length, .ref a_t_text, .int u1.2.1, .ref a_t_told, .ref a_t_read, .ref a_t_s, .ref a_t_before, .int t_undoMany, .int t_shortAs, .int t_isolatorAs, .int t_worstWire, .int t_worstLost])), (a_t_s, .inl (cI, 87, .inl t_s))]) (wr := [(a_t_text, .inl (cI, 200, .inl t_text)), (a_t_told, .inl (cI, 67, .inl q24)), (a_t_read, .inl (cI, 67, .inl u1.2.2))]) (w1 := [(a_t, .inr (5, [.int t_length, .ref a_t_text, .int u1.2.1, .ref a_t_told, .ref a_t_read, .ref a_t_s, .ref a_t_before, .int u49.1, .int t_shortAs, .int t_isolatorAs, .int t_worstWire, .int t_worstLost])), (a_t_s, .inl (cI, 87, .inl u49.2))]) (As := []) (rest := []) ⟨hx, hb, hml, hown, hts⟩ (c_X6_anew l D cI cS a_t a_t_s a_t_text a_t_told a_t_read a_t_before H.size t_length u1.2.1 t_undoMany t_shortAs t_isolatorAs t_worstWire t_worstLost t_s u49 hu49) (cwV 0 hts gX6_lay_X6_anew rfl rfl rfl cd_X6_anew ⟨Nat.le_of_ble_eq_true rfl, Nat.le_of_ble_eq_true rfl⟩) hK hN hP hD hS hA [0, 4] [1, 2, 3] rfl rfl (by decide) (by decide) (by decide) rfl rfl rfl hl.1 rfl (Nat.le_of_ble_eq_true rfl) dX6_lay_49 ⟨Nat.zero_le _, Nat.zero_le _⟩ (fun H locs hP hD hS => ?_)
      have hP : va_P D vwCl [(a_t, .inr (5, [.int t_length, .ref a_t_text, .int u1.2.1, .ref a_t_told, .ref a_t_read, .ref a_t_s, .ref a_t_before, .int u49.1, .int t_shortAs, .int t_isolatorAs, .int t_worstWire, .int t_worstLost])), (a_t_text, .inl (cI, 200, .inl t_text)), (a_t_told, .inl (cI, 67, .inl q24)), (a_t_read, .inl (cI, 67, .inl u1.2.2)), (a_t_s, .inl (cI, 87, .inl u49.2))] H := hP.sub [3, 0, 1, 2, 4] rfl
      have hD : va_D A [(a_t, .inr (5, [.int t_length, .ref a_t_text, .int u1.2.1, .ref a_t_told, .ref a_t_read, .ref a_t_s, .ref a_t_before, .int u49.1, .int t_shortAs, .int t_isolatorAs, .int t_worstWire, .int t_worstLost])), (a_t_text, .inl (cI, 200, .inl t_text)), (a_t_told, .inl (cI, 67, .inl q24)), (a_t_read, .inl (cI, 67, .inl u1.2.2)), (a_t_s, .inl (cI, 87, .inl u49.2))] := hD.sub [3, 0, 1, 2, 4] (by decide) rfl
      refine lv_aload_n hx hb dX6_lay_52 rfl (lv_at hl 0 rfl) ?_
      refine va_get (D := D) (ci := 5) (v := .ref a_t_told) (C := RX6) (T := TX6) (N := 12) hx hb hts inX6 hown hK hP 0 rfl rfl 3 (by decide) k_1 (fun _ h9 => h9) rfl dX6_lay_53 ?_
      refine lv_bipush (v := 60) hx hb dX6_lay_56 (by decide) ?_
      refine va_iald hx hb hK hP 2 0 rfl rfl (i := 60) (show gi 60 67 by decide) dX6_lay_58 ?_
      obtain rfl := Option.some.inj h
      exact hQ 59 H locs ls rfl hP hD hS dX6_lay_59
    · have h := oi_t cc h
      refine lv_bipush (v := (-2)) hx hb dX6_lay_19 (by decide) ?_
      obtain rfl := Option.some.inj h
      exact hQ 21 H locs ls rfl hP hD hS dX6_lay_21

def f_X6_note_11  : Nat → Int32 → FN → Option (FN)
  | 0, _, _ => none
  | n + 1, v1, w_t_before => (if 435 ≤ v1 then some (w_t_before) else (if gi (87 + v1) 522 then (if gi v1 522 then f_X6_note_11  n (v1 + 1) (upd w_t_before (v1).toNatClampNeg (w_t_before ((87 + v1)).toNatClampNeg)) else none) else none))
def f_X6_note_51 (t_s : FN) (u49 : Int32 × FN) : Nat → Int32 → FN → Option (FN)
  | 0, _, _ => none
  | n + 1, v1, w_t_before => (if 87 ≤ v1 then some (w_t_before) else (if gi v1 87 then (if gi ((87 * u49.1) + v1) 522 then f_X6_note_51 t_s u49 n (v1 + 1) (upd w_t_before (((87 * u49.1) + v1)).toNatClampNeg (t_s (v1).toNatClampNeg)) else none) else none))
def f_X6_note (t_undoMany : Int32) (t_s : FN) (t_before : FN) : Option (Int32 × FN) := (((if t_undoMany = 6 then ((f_X6_note_11  1000 0 t_before).bind (fun (q11 : FN) => some ((t_undoMany - 1), q11))) else some (t_undoMany, t_before))).bind (fun (u49 : Int32 × FN) => ((f_X6_note_51 t_s u49 1000 0 u49.2).bind (fun (q51 : FN) => some ((u49.1 + 1), q51)))))
abbrev rm_X6_note : Room := { frames := 0, cells := 0, slots := 0, locals := 0 }
theorem cd_X6_note : (yX6_note).cls = RX6 ∧ (yX6_note).cls ≠ "java/lang/invoke/MethodHandle" ∧ (yX6_note).cls ≠ "java/lang/invoke/VarHandle" ∧ (parseMethodDescriptor (yX6_note).desc).map (fun d => d.parameters.length) = some 0 := by decide +kernel
set_option maxHeartbeats 4000000 in
set_option maxRecDepth 100000 in
theorem c_X6_note (l : Launch) (D : va_G) (cI cS : ClassId) (a_t a_t_s a_t_before a_t_text a_t_told a_t_read : Nat) (sz : Nat) (t_length : Int32) (t_spot : Int32) (t_undoMany : Int32) (t_shortAs : Int32) (t_isolatorAs : Int32) (t_worstWire : Int32) (t_worstLost : Int32) (t_s : FN) (t_before : FN) (out : Int32 × FN) (h : f_X6_note t_undoMany t_s t_before = some out) : Met l yX6_note wsX6_note rm_X6_note (va_Pc [.ref a_t] (GP D cI cS [(a_t, .inr (5, [.int t_length, .ref a_t_text, .int t_spot, .ref a_t_told, .ref a_t_read, .ref a_t_s, .ref a_t_before, .int t_undoMany, .int t_shortAs, .int t_isolatorAs, .int t_worstWire, .int t_worstLost])), (a_t_s, .inl (cI, 87, .inl t_s)), (a_t_before, .inl (cI, 522, .inl t_before))] sz)) (QV D [(a_t, .inr (5, [.int t_length, .ref a_t_text, .int t_spot, .ref a_t_told, .ref a_t_read, .ref a_t_s, .ref a_t_before, .int t_undoMany, .int t_shortAs, .int t_isolatorAs, .int t_worstWire, .int t_worstLost])), (a_t_s, .inl (cI, 87, .inl t_s)), (a_t_before, .inl (cI, 522, .inl t_before))] sz [(a_t, .inr (5, [.int t_length, .ref a_t_text, .int t_spot, .ref a_t_told, .ref a_t_read, .ref a_t_s, .ref a_t_before, .int out.1, .int t_shortAs, .int t_isolatorAs, .int t_worstWire, .int t_worstLost])), (a_t_s, .inl (cI, 87, .inl t_s)), (a_t_before, .inl (cI, 522, .inl out.2))]) 0 0 (va_A [(a_t, .inr (5, [.int t_length, .ref a_t_text, .int t_spot, .ref a_t_told, .ref a_t_read, .ref a_t_s, .ref a_t_before, .int t_undoMany, .int t_shortAs, .int t_isolatorAs, .int t_worstWire, .int t_worstLost])), (a_t_s, .inl (cI, 87, .inl t_s)), (a_t_before, .inl (cI, 522, .inl t_before))] sz) := by
  refine gm_v (cc := cX6_note) (maxL := 2) (by decide) rfl (Nat.le_of_ble_eq_true rfl) ?_
  intro p e s m args below meth c A Q H locs ls hx hb hml hown hts hK hN hA hP hD hS hl hQ
  have hown : s.vm.findClass RX6 = some m.cls := hown
  have hl : lv_has ls 2 [(0, .ref a_t)] := hl
  have inX6 : ∀ w ∈ wsX60, w ∈ wsX6_note := by decide +kernel
  have k_0 := hts (.fieldLink RX6 47 "AlarmRingModel" "undoMany" "I") (by decide +kernel)
  have k_1 := hts (.fieldLink RX6 22 "AlarmRingModel" "before" "[I") (by decide +kernel)
  have k_2 := hts (.fieldLink RX6 19 "AlarmRingModel" "s" "[I") (by decide +kernel)
  unfold f_X6_note at h
  refine lv_aload_n hx hb dX6_note_0 rfl (lv_at hl 0 rfl) ?_
  refine va_get (D := D) (ci := 5) (v := .int t_undoMany) (C := RX6) (T := TX6) (N := 12) hx hb hts inX6 hown hK hP 0 rfl rfl 7 (by decide) k_0 (fun _ h9 => h9) rfl dX6_note_1 ?_
  refine lv_bipush (v := 6) hx hb dX6_note_4 (by decide) ?_
  obtain ⟨u49, hj49, h⟩ := ob h
  have jn49 : ∀ (H : Heap) (locs : List Loc) (ls : Array Slot), va_P D vwCl [(a_t, .inr (5, [.int t_length, .ref a_t_text, .int t_spot, .ref a_t_told, .ref a_t_read, .ref a_t_s, .ref a_t_before, .int u49.1, .int t_shortAs, .int t_isolatorAs, .int t_worstWire, .int t_worstLost])), (a_t_s, .inl (cI, 87, .inl t_s)), (a_t_before, .inl (cI, 522, .inl u49.2))] H → va_D A [(a_t, .inr (5, [.int t_length, .ref a_t_text, .int t_spot, .ref a_t_told, .ref a_t_read, .ref a_t_s, .ref a_t_before, .int u49.1, .int t_shortAs, .int t_isolatorAs, .int t_worstWire, .int t_worstLost])), (a_t_s, .inl (cI, 87, .inl t_s)), (a_t_before, .inl (cI, 522, .inl u49.2))] → va_S A s.heap H locs → lv_has ls 2 [(0, .ref a_t)] → W p l e rm_X6_note s m args below meth c H locs 0 0 Q (F0 m 49 ls []) := by
    intro H locs ls hP hD hS hl
    refine lv_iconst (v := 0) hx hb dX6_note_49 (by decide) ?_
    refine lv_istore_n (lv' := [(1, .int 0), (0, .ref a_t)]) hx hb dX6_note_50 rfl hl (by decide) rfl (fun ls hl => ?_)
    obtain ⟨q51, hq51, h⟩ := ob h
    have lp51 : ∀ (n : Nat) (v1 : Int32) (w_t_before : FN) (H : Heap) (locs : List Loc) (ls : Array Slot), va_P D vwCl [(a_t, .inr (5, [.int t_length, .ref a_t_text, .int t_spot, .ref a_t_told, .ref a_t_read, .ref a_t_s, .ref a_t_before, .int u49.1, .int t_shortAs, .int t_isolatorAs, .int t_worstWire, .int t_worstLost])), (a_t_s, .inl (cI, 87, .inl t_s)), (a_t_before, .inl (cI, 522, .inl w_t_before))] H → va_D A [(a_t, .inr (5, [.int t_length, .ref a_t_text, .int t_spot, .ref a_t_told, .ref a_t_read, .ref a_t_s, .ref a_t_before, .int u49.1, .int t_shortAs, .int t_isolatorAs, .int t_worstWire, .int t_worstLost])), (a_t_s, .inl (cI, 87, .inl t_s)), (a_t_before, .inl (cI, 522, .inl w_t_before))] → va_S A s.heap H locs → lv_has ls 2 [(0, .ref a_t), (1, .int v1)] → ∀ (q51 : FN), f_X6_note_51 t_s u49 n v1 w_t_before = some q51 → (∀ (H : Heap) (locs : List Loc) (ls : Array Slot), va_P D vwCl [(a_t, .inr (5, [.int t_length, .ref a_t_text, .int t_spot, .ref a_t_told, .ref a_t_read, .ref a_t_s, .ref a_t_before, .int u49.1, .int t_shortAs, .int t_isolatorAs, .int t_worstWire, .int t_worstLost])), (a_t_s, .inl (cI, 87, .inl t_s)), (a_t_before, .inl (cI, 522, .inl q51))] H → va_D A [(a_t, .inr (5, [.int t_length, .ref a_t_text, .int t_spot, .ref a_t_told, .ref a_t_read, .ref a_t_s, .ref a_t_before, .int u49.1, .int t_shortAs, .int t_isolatorAs, .int t_worstWire, .int t_worstLost])), (a_t_s, .inl (cI, 87, .inl t_s)), (a_t_before, .inl (cI, 522, .inl q51))] → va_S A s.heap H locs → lv_has ls 2 [(0, .ref a_t)] → W p l e rm_X6_note s m args below meth c H locs 0 0 Q (F0 m 83 ls [])) → W p l e rm_X6_note s m args below meth c H locs 0 0 Q (F0 m 51 ls []) := by
      intro n
      induction n with
      | zero => intro v1 w_t_before H locs ls hP hD hS hl q51 h kk; exact on_ h
      | succ n ih =>
        intro v1 w_t_before H locs ls hP hD hS hl q51 h kk
        rw [f_X6_note_51] at h
        refine lv_iload_n hx hb dX6_note_51 rfl (lv_at hl 1 rfl) ?_
        refine lv_bipush (v := 87) hx hb dX6_note_52 (by decide) ?_
        refine lv_icmp_ge (tgt := 83) hx hb dX6_note_54 (by decide) (fun cc => ?_) (fun cc => ?_)
        · have h := oi_t cc h
          obtain rfl := Option.some.inj h
          exact kk H locs ls hP hD hS (lv_sub hl [0] rfl)
        · have h := oi_f cc h
          refine lv_aload_n hx hb dX6_note_57 rfl (lv_at hl 0 rfl) ?_
          refine va_get (D := D) (ci := 5) (v := .ref a_t_before) (C := RX6) (T := TX6) (N := 12) hx hb hts inX6 hown hK hP 0 rfl rfl 6 (by decide) k_1 (fun _ h9 => h9) rfl dX6_note_58 ?_
          refine lv_bipush (v := 87) hx hb dX6_note_61 (by decide) ?_
          refine lv_aload_n hx hb dX6_note_63 rfl (lv_at hl 0 rfl) ?_
          refine va_get (D := D) (ci := 5) (v := .int u49.1) (C := RX6) (T := TX6) (N := 12) hx hb hts inX6 hown hK hP 0 rfl rfl 7 (by decide) k_0 (fun _ h9 => h9) rfl dX6_note_64 ?_
          refine lv_imul hx hb dX6_note_67 ?_
          refine lv_iload_n hx hb dX6_note_68 rfl (lv_at hl 1 rfl) ?_
          refine lv_iadd hx hb dX6_note_69 ?_
          refine lv_aload_n hx hb dX6_note_70 rfl (lv_at hl 0 rfl) ?_
          refine va_get (D := D) (ci := 5) (v := .ref a_t_s) (C := RX6) (T := TX6) (N := 12) hx hb hts inX6 hown hK hP 0 rfl rfl 5 (by decide) k_2 (fun _ h9 => h9) rfl dX6_note_71 ?_
          refine lv_iload_n hx hb dX6_note_74 rfl (lv_at hl 1 rfl) ?_
          obtain ⟨gg, h⟩ := og h
          refine va_iald hx hb hK hP 1 0 rfl rfl gg dX6_note_75 ?_
          obtain ⟨gg, h⟩ := og h
          refine va_iast hx hb hK hP hD hS 2 0 rfl rfl gg dX6_note_76 (fun H locs hP hD hS => ?_)
          have hP : va_P D vwCl [(a_t, .inr (5, [.int t_length, .ref a_t_text, .int t_spot, .ref a_t_told, .ref a_t_read, .ref a_t_s, .ref a_t_before, .int u49.1, .int t_shortAs, .int t_isolatorAs, .int t_worstWire, .int t_worstLost])), (a_t_s, .inl (cI, 87, .inl t_s)), (a_t_before, .inl (cI, 522, .inl (upd w_t_before (((87 * u49.1) + v1)).toNatClampNeg (t_s (v1).toNatClampNeg))))] H := hP
          have hD : va_D A [(a_t, .inr (5, [.int t_length, .ref a_t_text, .int t_spot, .ref a_t_told, .ref a_t_read, .ref a_t_s, .ref a_t_before, .int u49.1, .int t_shortAs, .int t_isolatorAs, .int t_worstWire, .int t_worstLost])), (a_t_s, .inl (cI, 87, .inl t_s)), (a_t_before, .inl (cI, 522, .inl (upd w_t_before (((87 * u49.1) + v1)).toNatClampNeg (t_s (v1).toNatClampNeg))))] := hD
          refine lv_iinc (v := (v1 + 1)) (lv' := [(1, .int (v1 + 1)), (0, .ref a_t)]) hx hb dX6_note_77 hl (k := 1) rfl (by first | rfl | decide) (by decide) rfl (fun ls hl => ?_)
          refine lv_goto (tgt := 51) hx hb dX6_note_80 (by decide) ?_
          exact ih (v1 + 1) (upd w_t_before (((87 * u49.1) + v1)).toNatClampNeg (t_s (v1).toNatClampNeg)) H locs ls hP hD hS (lv_sub hl [1, 0] rfl) q51 h kk
    refine lp51 1000 0 u49.2 H locs ls hP hD hS (lv_sub hl [1, 0] rfl) q51 hq51 (fun H locs ls hP hD hS hl => ?_)
    refine lv_aload_n hx hb dX6_note_83 rfl (lv_at hl 0 rfl) ?_
    refine lv_dup hx hb dX6_note_84 rfl ?_
    refine va_get (D := D) (ci := 5) (v := .int u49.1) (C := RX6) (T := TX6) (N := 12) hx hb hts inX6 hown hK hP 0 rfl rfl 7 (by decide) k_0 (fun _ h9 => h9) rfl dX6_note_85 ?_
    refine lv_iconst (v := 1) hx hb dX6_note_88 (by decide) ?_
    refine lv_iadd hx hb dX6_note_89 ?_
    refine va_put (D := D) (ci := 5) (v := .int (u49.1 + 1)) (ty := .int) (C := RX6) (T := TX6) (N := 12) hx hb hts inX6 tyX6 tyX6_ok nmX6 hown hK hP hD hS 0 rfl rfl 7 (by decide) k_0 (fun _ h9 => h9) rfl (by decide +kernel) rfl rfl (Nat.le_of_ble_eq_true rfl) dX6_note_90 (fun H locs hP hD hS => ?_)
    have hP : va_P D vwCl [(a_t, .inr (5, [.int t_length, .ref a_t_text, .int t_spot, .ref a_t_told, .ref a_t_read, .ref a_t_s, .ref a_t_before, .int (u49.1 + 1), .int t_shortAs, .int t_isolatorAs, .int t_worstWire, .int t_worstLost])), (a_t_s, .inl (cI, 87, .inl t_s)), (a_t_before, .inl (cI, 522, .inl q51))] H := hP
    have hD : va_D A [(a_t, .inr (5, [.int t_length, .ref a_t_text, .int t_spot, .ref a_t_told, .ref a_t_read, .ref a_t_s, .ref a_t_before, .int (u49.1 + 1), .int t_shortAs, .int t_isolatorAs, .int t_worstWire, .int t_worstLost])), (a_t_s, .inl (cI, 87, .inl t_s)), (a_t_before, .inl (cI, 522, .inl q51))] := hD
    obtain rfl := Option.some.inj h
    exact hQ 93 H locs ls hP hD hS dX6_note_93
  have h := hj49
  refine lv_icmp_ne (tgt := 49) hx hb dX6_note_6 (by decide) (fun cc => ?_) (fun cc => ?_)
  · have h := oi_f cc h
    obtain rfl := Option.some.inj h
    exact jn49 H locs ls hP hD hS (lv_sub hl [0] rfl)
  · have h := oi_t cc h
    refine lv_iconst (v := 0) hx hb dX6_note_9 (by decide) ?_
    refine lv_istore_n (lv' := [(1, .int 0), (0, .ref a_t)]) hx hb dX6_note_10 rfl hl (by decide) rfl (fun ls hl => ?_)
    obtain ⟨q11, hq11, h⟩ := ob h
    have lp11 : ∀ (n : Nat) (v1 : Int32) (w_t_before : FN) (H : Heap) (locs : List Loc) (ls : Array Slot), va_P D vwCl [(a_t, .inr (5, [.int t_length, .ref a_t_text, .int t_spot, .ref a_t_told, .ref a_t_read, .ref a_t_s, .ref a_t_before, .int t_undoMany, .int t_shortAs, .int t_isolatorAs, .int t_worstWire, .int t_worstLost])), (a_t_s, .inl (cI, 87, .inl t_s)), (a_t_before, .inl (cI, 522, .inl w_t_before))] H → va_D A [(a_t, .inr (5, [.int t_length, .ref a_t_text, .int t_spot, .ref a_t_told, .ref a_t_read, .ref a_t_s, .ref a_t_before, .int t_undoMany, .int t_shortAs, .int t_isolatorAs, .int t_worstWire, .int t_worstLost])), (a_t_s, .inl (cI, 87, .inl t_s)), (a_t_before, .inl (cI, 522, .inl w_t_before))] → va_S A s.heap H locs → lv_has ls 2 [(0, .ref a_t), (1, .int v1)] → ∀ (q11 : FN), f_X6_note_11  n v1 w_t_before = some q11 → (∀ (H : Heap) (locs : List Loc) (ls : Array Slot), va_P D vwCl [(a_t, .inr (5, [.int t_length, .ref a_t_text, .int t_spot, .ref a_t_told, .ref a_t_read, .ref a_t_s, .ref a_t_before, .int t_undoMany, .int t_shortAs, .int t_isolatorAs, .int t_worstWire, .int t_worstLost])), (a_t_s, .inl (cI, 87, .inl t_s)), (a_t_before, .inl (cI, 522, .inl q11))] H → va_D A [(a_t, .inr (5, [.int t_length, .ref a_t_text, .int t_spot, .ref a_t_told, .ref a_t_read, .ref a_t_s, .ref a_t_before, .int t_undoMany, .int t_shortAs, .int t_isolatorAs, .int t_worstWire, .int t_worstLost])), (a_t_s, .inl (cI, 87, .inl t_s)), (a_t_before, .inl (cI, 522, .inl q11))] → va_S A s.heap H locs → lv_has ls 2 [(0, .ref a_t)] → W p l e rm_X6_note s m args below meth c H locs 0 0 Q (F0 m 39 ls [])) → W p l e rm_X6_note s m args below meth c H locs 0 0 Q (F0 m 11 ls []) := by
      intro n
      induction n with
      | zero => intro v1 w_t_before H locs ls hP hD hS hl q11 h kk; exact on_ h
      | succ n ih =>
        intro v1 w_t_before H locs ls hP hD hS hl q11 h kk
        rw [f_X6_note_11] at h
        refine lv_iload_n hx hb dX6_note_11 rfl (lv_at hl 1 rfl) ?_
        refine lv_sipush (v := 435) hx hb dX6_note_12 (by decide) ?_
        refine lv_icmp_ge (tgt := 39) hx hb dX6_note_15 (by decide) (fun cc => ?_) (fun cc => ?_)
        · have h := oi_t cc h
          obtain rfl := Option.some.inj h
          exact kk H locs ls hP hD hS (lv_sub hl [0] rfl)
        · have h := oi_f cc h
          refine lv_aload_n hx hb dX6_note_18 rfl (lv_at hl 0 rfl) ?_
          refine va_get (D := D) (ci := 5) (v := .ref a_t_before) (C := RX6) (T := TX6) (N := 12) hx hb hts inX6 hown hK hP 0 rfl rfl 6 (by decide) k_1 (fun _ h9 => h9) rfl dX6_note_19 ?_
          refine lv_iload_n hx hb dX6_note_22 rfl (lv_at hl 1 rfl) ?_
          refine lv_aload_n hx hb dX6_note_23 rfl (lv_at hl 0 rfl) ?_
          refine va_get (D := D) (ci := 5) (v := .ref a_t_before) (C := RX6) (T := TX6) (N := 12) hx hb hts inX6 hown hK hP 0 rfl rfl 6 (by decide) k_1 (fun _ h9 => h9) rfl dX6_note_24 ?_
          refine lv_bipush (v := 87) hx hb dX6_note_27 (by decide) ?_
          refine lv_iload_n hx hb dX6_note_29 rfl (lv_at hl 1 rfl) ?_
          refine lv_iadd hx hb dX6_note_30 ?_
          obtain ⟨gg, h⟩ := og h
          refine va_iald hx hb hK hP 2 0 rfl rfl gg dX6_note_31 ?_
          obtain ⟨gg, h⟩ := og h
          refine va_iast hx hb hK hP hD hS 2 0 rfl rfl gg dX6_note_32 (fun H locs hP hD hS => ?_)
          have hP : va_P D vwCl [(a_t, .inr (5, [.int t_length, .ref a_t_text, .int t_spot, .ref a_t_told, .ref a_t_read, .ref a_t_s, .ref a_t_before, .int t_undoMany, .int t_shortAs, .int t_isolatorAs, .int t_worstWire, .int t_worstLost])), (a_t_s, .inl (cI, 87, .inl t_s)), (a_t_before, .inl (cI, 522, .inl (upd w_t_before (v1).toNatClampNeg (w_t_before ((87 + v1)).toNatClampNeg))))] H := hP
          have hD : va_D A [(a_t, .inr (5, [.int t_length, .ref a_t_text, .int t_spot, .ref a_t_told, .ref a_t_read, .ref a_t_s, .ref a_t_before, .int t_undoMany, .int t_shortAs, .int t_isolatorAs, .int t_worstWire, .int t_worstLost])), (a_t_s, .inl (cI, 87, .inl t_s)), (a_t_before, .inl (cI, 522, .inl (upd w_t_before (v1).toNatClampNeg (w_t_before ((87 + v1)).toNatClampNeg))))] := hD
          refine lv_iinc (v := (v1 + 1)) (lv' := [(1, .int (v1 + 1)), (0, .ref a_t)]) hx hb dX6_note_33 hl (k := 1) rfl (by first | rfl | decide) (by decide) rfl (fun ls hl => ?_)
          refine lv_goto (tgt := 11) hx hb dX6_note_36 (by decide) ?_
          exact ih (v1 + 1) (upd w_t_before (v1).toNatClampNeg (w_t_before ((87 + v1)).toNatClampNeg)) H locs ls hP hD hS (lv_sub hl [1, 0] rfl) q11 h kk
    refine lp11 1000 0 t_before H locs ls hP hD hS (lv_sub hl [1, 0] rfl) q11 hq11 (fun H locs ls hP hD hS hl => ?_)
    refine lv_aload_n hx hb dX6_note_39 rfl (lv_at hl 0 rfl) ?_
    refine lv_dup hx hb dX6_note_40 rfl ?_
    refine va_get (D := D) (ci := 5) (v := .int t_undoMany) (C := RX6) (T := TX6) (N := 12) hx hb hts inX6 hown hK hP 0 rfl rfl 7 (by decide) k_0 (fun _ h9 => h9) rfl dX6_note_41 ?_
    refine lv_iconst (v := 1) hx hb dX6_note_44 (by decide) ?_
    refine lv_isub hx hb dX6_note_45 ?_
    refine va_put (D := D) (ci := 5) (v := .int (t_undoMany - 1)) (ty := .int) (C := RX6) (T := TX6) (N := 12) hx hb hts inX6 tyX6 tyX6_ok nmX6 hown hK hP hD hS 0 rfl rfl 7 (by decide) k_0 (fun _ h9 => h9) rfl (by decide +kernel) rfl rfl (Nat.le_of_ble_eq_true rfl) dX6_note_46 (fun H locs hP hD hS => ?_)
    have hP : va_P D vwCl [(a_t, .inr (5, [.int t_length, .ref a_t_text, .int t_spot, .ref a_t_told, .ref a_t_read, .ref a_t_s, .ref a_t_before, .int (t_undoMany - 1), .int t_shortAs, .int t_isolatorAs, .int t_worstWire, .int t_worstLost])), (a_t_s, .inl (cI, 87, .inl t_s)), (a_t_before, .inl (cI, 522, .inl q11))] H := hP
    have hD : va_D A [(a_t, .inr (5, [.int t_length, .ref a_t_text, .int t_spot, .ref a_t_told, .ref a_t_read, .ref a_t_s, .ref a_t_before, .int (t_undoMany - 1), .int t_shortAs, .int t_isolatorAs, .int t_worstWire, .int t_worstLost])), (a_t_s, .inl (cI, 87, .inl t_s)), (a_t_before, .inl (cI, 522, .inl q11))] := hD
    obtain rfl := Option.some.inj h
    exact jn49 H locs ls hP hD hS (lv_sub hl [0] rfl)

def f_X6_undo_22 (t_undoMany : Int32) (t_before : FN) : Nat → Int32 → FN → Option (FN)
  | 0, _, _ => none
  | n + 1, v1, w_t_s => (if 87 ≤ v1 then some (w_t_s) else (if gi ((87 * (t_undoMany - 1)) + v1) 522 then (if gi v1 87 then f_X6_undo_22 t_undoMany t_before n (v1 + 1) (upd w_t_s (v1).toNatClampNeg (t_before (((87 * (t_undoMany - 1)) + v1)).toNatClampNeg)) else none) else none))
def f_X6_undo (t_undoMany : Int32) (t_s : FN) (t_before : FN) : Option (Int32 × Int32 × FN) := (if t_undoMany = 0 then some ((-2), t_undoMany, t_s) else ((f_X6_undo_22 t_undoMany t_before 1000 0 t_s).bind (fun (q22 : FN) => some ((t_undoMany - 1), (t_undoMany - 1), q22))))
abbrev rm_X6_undo : Room := { frames := 0, cells := 0, slots := 0, locals := 0 }
theorem cd_X6_undo : (yX6_undo).cls = RX6 ∧ (yX6_undo).cls ≠ "java/lang/invoke/MethodHandle" ∧ (yX6_undo).cls ≠ "java/lang/invoke/VarHandle" ∧ (parseMethodDescriptor (yX6_undo).desc).map (fun d => d.parameters.length) = some 0 := by decide +kernel
set_option maxHeartbeats 4000000 in
set_option maxRecDepth 100000 in
theorem c_X6_undo (l : Launch) (D : va_G) (cI cS : ClassId) (a_t a_t_s a_t_before a_t_text a_t_told a_t_read : Nat) (sz : Nat) (t_length : Int32) (t_spot : Int32) (t_undoMany : Int32) (t_shortAs : Int32) (t_isolatorAs : Int32) (t_worstWire : Int32) (t_worstLost : Int32) (t_s : FN) (t_before : FN) (out : Int32 × Int32 × FN) (h : f_X6_undo t_undoMany t_s t_before = some out) : Met l yX6_undo wsX6_undo rm_X6_undo (va_Pc [.ref a_t] (GP D cI cS [(a_t, .inr (5, [.int t_length, .ref a_t_text, .int t_spot, .ref a_t_told, .ref a_t_read, .ref a_t_s, .ref a_t_before, .int t_undoMany, .int t_shortAs, .int t_isolatorAs, .int t_worstWire, .int t_worstLost])), (a_t_s, .inl (cI, 87, .inl t_s)), (a_t_before, .inl (cI, 522, .inl t_before))] sz)) (QI D [(a_t, .inr (5, [.int t_length, .ref a_t_text, .int t_spot, .ref a_t_told, .ref a_t_read, .ref a_t_s, .ref a_t_before, .int t_undoMany, .int t_shortAs, .int t_isolatorAs, .int t_worstWire, .int t_worstLost])), (a_t_s, .inl (cI, 87, .inl t_s)), (a_t_before, .inl (cI, 522, .inl t_before))] sz [(a_t, .inr (5, [.int t_length, .ref a_t_text, .int t_spot, .ref a_t_told, .ref a_t_read, .ref a_t_s, .ref a_t_before, .int out.2.1, .int t_shortAs, .int t_isolatorAs, .int t_worstWire, .int t_worstLost])), (a_t_s, .inl (cI, 87, .inl out.2.2)), (a_t_before, .inl (cI, 522, .inl t_before))] out.1) 0 0 (va_A [(a_t, .inr (5, [.int t_length, .ref a_t_text, .int t_spot, .ref a_t_told, .ref a_t_read, .ref a_t_s, .ref a_t_before, .int t_undoMany, .int t_shortAs, .int t_isolatorAs, .int t_worstWire, .int t_worstLost])), (a_t_s, .inl (cI, 87, .inl t_s)), (a_t_before, .inl (cI, 522, .inl t_before))] sz) := by
  refine gm_i (cc := cX6_undo) (maxL := 2) (rt := .int) (by decide) rfl (Nat.le_of_ble_eq_true rfl) ?_
  intro p e s m args below meth c A Q H locs ls hx hb hml hown hts hK hN hA hP hD hS hl hQ
  have hown : s.vm.findClass RX6 = some m.cls := hown
  have hl : lv_has ls 2 [(0, .ref a_t)] := hl
  have inX6 : ∀ w ∈ wsX60, w ∈ wsX6_undo := by decide +kernel
  have k_0 := hts (.fieldLink RX6 47 "AlarmRingModel" "undoMany" "I") (by decide +kernel)
  have k_1 := hts (.fieldLink RX6 19 "AlarmRingModel" "s" "[I") (by decide +kernel)
  have k_2 := hts (.fieldLink RX6 22 "AlarmRingModel" "before" "[I") (by decide +kernel)
  unfold f_X6_undo at h
  refine lv_aload_n hx hb dX6_undo_0 rfl (lv_at hl 0 rfl) ?_
  refine va_get (D := D) (ci := 5) (v := .int t_undoMany) (C := RX6) (T := TX6) (N := 12) hx hb hts inX6 hown hK hP 0 rfl rfl 7 (by decide) k_0 (fun _ h9 => h9) rfl dX6_undo_1 ?_
  refine lv_if_ne (tgt := 10) hx hb dX6_undo_4 (by decide) (fun cc => ?_) (fun cc => ?_)
  · have h := oi_f cc h
    refine lv_aload_n hx hb dX6_undo_10 rfl (lv_at hl 0 rfl) ?_
    refine lv_dup hx hb dX6_undo_11 rfl ?_
    refine va_get (D := D) (ci := 5) (v := .int t_undoMany) (C := RX6) (T := TX6) (N := 12) hx hb hts inX6 hown hK hP 0 rfl rfl 7 (by decide) k_0 (fun _ h9 => h9) rfl dX6_undo_12 ?_
    refine lv_iconst (v := 1) hx hb dX6_undo_15 (by decide) ?_
    refine lv_isub hx hb dX6_undo_16 ?_
    refine va_put (D := D) (ci := 5) (v := .int (t_undoMany - 1)) (ty := .int) (C := RX6) (T := TX6) (N := 12) hx hb hts inX6 tyX6 tyX6_ok nmX6 hown hK hP hD hS 0 rfl rfl 7 (by decide) k_0 (fun _ h9 => h9) rfl (by decide +kernel) rfl rfl (Nat.le_of_ble_eq_true rfl) dX6_undo_17 (fun H locs hP hD hS => ?_)
    have hP : va_P D vwCl [(a_t, .inr (5, [.int t_length, .ref a_t_text, .int t_spot, .ref a_t_told, .ref a_t_read, .ref a_t_s, .ref a_t_before, .int (t_undoMany - 1), .int t_shortAs, .int t_isolatorAs, .int t_worstWire, .int t_worstLost])), (a_t_s, .inl (cI, 87, .inl t_s)), (a_t_before, .inl (cI, 522, .inl t_before))] H := hP
    have hD : va_D A [(a_t, .inr (5, [.int t_length, .ref a_t_text, .int t_spot, .ref a_t_told, .ref a_t_read, .ref a_t_s, .ref a_t_before, .int (t_undoMany - 1), .int t_shortAs, .int t_isolatorAs, .int t_worstWire, .int t_worstLost])), (a_t_s, .inl (cI, 87, .inl t_s)), (a_t_before, .inl (cI, 522, .inl t_before))] := hD
    refine lv_iconst (v := 0) hx hb dX6_undo_20 (by decide) ?_
    refine lv_istore_n (lv' := [(1, .int 0), (0, .ref a_t)]) hx hb dX6_undo_21 rfl hl (by decide) rfl (fun ls hl => ?_)
    obtain ⟨q22, hq22, h⟩ := ob h
    have lp22 : ∀ (n : Nat) (v1 : Int32) (w_t_s : FN) (H : Heap) (locs : List Loc) (ls : Array Slot), va_P D vwCl [(a_t, .inr (5, [.int t_length, .ref a_t_text, .int t_spot, .ref a_t_told, .ref a_t_read, .ref a_t_s, .ref a_t_before, .int (t_undoMany - 1), .int t_shortAs, .int t_isolatorAs, .int t_worstWire, .int t_worstLost])), (a_t_s, .inl (cI, 87, .inl w_t_s)), (a_t_before, .inl (cI, 522, .inl t_before))] H → va_D A [(a_t, .inr (5, [.int t_length, .ref a_t_text, .int t_spot, .ref a_t_told, .ref a_t_read, .ref a_t_s, .ref a_t_before, .int (t_undoMany - 1), .int t_shortAs, .int t_isolatorAs, .int t_worstWire, .int t_worstLost])), (a_t_s, .inl (cI, 87, .inl w_t_s)), (a_t_before, .inl (cI, 522, .inl t_before))] → va_S A s.heap H locs → lv_has ls 2 [(0, .ref a_t), (1, .int v1)] → ∀ (q22 : FN), f_X6_undo_22 t_undoMany t_before n v1 w_t_s = some q22 → (∀ (H : Heap) (locs : List Loc) (ls : Array Slot), va_P D vwCl [(a_t, .inr (5, [.int t_length, .ref a_t_text, .int t_spot, .ref a_t_told, .ref a_t_read, .ref a_t_s, .ref a_t_before, .int (t_undoMany - 1), .int t_shortAs, .int t_isolatorAs, .int t_worstWire, .int t_worstLost])), (a_t_s, .inl (cI, 87, .inl q22)), (a_t_before, .inl (cI, 522, .inl t_before))] H → va_D A [(a_t, .inr (5, [.int t_length, .ref a_t_text, .int t_spot, .ref a_t_told, .ref a_t_read, .ref a_t_s, .ref a_t_before, .int (t_undoMany - 1), .int t_shortAs, .int t_isolatorAs, .int t_worstWire, .int t_worstLost])), (a_t_s, .inl (cI, 87, .inl q22)), (a_t_before, .inl (cI, 522, .inl t_before))] → va_S A s.heap H locs → lv_has ls 2 [(0, .ref a_t)] → W p l e rm_X6_undo s m args below meth c H locs 0 0 Q (F0 m 54 ls [])) → W p l e rm_X6_undo s m args below meth c H locs 0 0 Q (F0 m 22 ls []) := by
      intro n
      induction n with
      | zero => intro v1 w_t_s H locs ls hP hD hS hl q22 h kk; exact on_ h
      | succ n ih =>
        intro v1 w_t_s H locs ls hP hD hS hl q22 h kk
        rw [f_X6_undo_22] at h
        refine lv_iload_n hx hb dX6_undo_22 rfl (lv_at hl 1 rfl) ?_
        refine lv_bipush (v := 87) hx hb dX6_undo_23 (by decide) ?_
        refine lv_icmp_ge (tgt := 54) hx hb dX6_undo_25 (by decide) (fun cc => ?_) (fun cc => ?_)
        · have h := oi_t cc h
          obtain rfl := Option.some.inj h
          exact kk H locs ls hP hD hS (lv_sub hl [0] rfl)
        · have h := oi_f cc h
          refine lv_aload_n hx hb dX6_undo_28 rfl (lv_at hl 0 rfl) ?_
          refine va_get (D := D) (ci := 5) (v := .ref a_t_s) (C := RX6) (T := TX6) (N := 12) hx hb hts inX6 hown hK hP 0 rfl rfl 5 (by decide) k_1 (fun _ h9 => h9) rfl dX6_undo_29 ?_
          refine lv_iload_n hx hb dX6_undo_32 rfl (lv_at hl 1 rfl) ?_
          refine lv_aload_n hx hb dX6_undo_33 rfl (lv_at hl 0 rfl) ?_
          refine va_get (D := D) (ci := 5) (v := .ref a_t_before) (C := RX6) (T := TX6) (N := 12) hx hb hts inX6 hown hK hP 0 rfl rfl 6 (by decide) k_2 (fun _ h9 => h9) rfl dX6_undo_34 ?_
          refine lv_bipush (v := 87) hx hb dX6_undo_37 (by decide) ?_
          refine lv_aload_n hx hb dX6_undo_39 rfl (lv_at hl 0 rfl) ?_
          refine va_get (D := D) (ci := 5) (v := .int (t_undoMany - 1)) (C := RX6) (T := TX6) (N := 12) hx hb hts inX6 hown hK hP 0 rfl rfl 7 (by decide) k_0 (fun _ h9 => h9) rfl dX6_undo_40 ?_
          refine lv_imul hx hb dX6_undo_43 ?_
          refine lv_iload_n hx hb dX6_undo_44 rfl (lv_at hl 1 rfl) ?_
          refine lv_iadd hx hb dX6_undo_45 ?_
          obtain ⟨gg, h⟩ := og h
          refine va_iald hx hb hK hP 2 0 rfl rfl gg dX6_undo_46 ?_
          obtain ⟨gg, h⟩ := og h
          refine va_iast hx hb hK hP hD hS 1 0 rfl rfl gg dX6_undo_47 (fun H locs hP hD hS => ?_)
          have hP : va_P D vwCl [(a_t, .inr (5, [.int t_length, .ref a_t_text, .int t_spot, .ref a_t_told, .ref a_t_read, .ref a_t_s, .ref a_t_before, .int (t_undoMany - 1), .int t_shortAs, .int t_isolatorAs, .int t_worstWire, .int t_worstLost])), (a_t_s, .inl (cI, 87, .inl (upd w_t_s (v1).toNatClampNeg (t_before (((87 * (t_undoMany - 1)) + v1)).toNatClampNeg)))), (a_t_before, .inl (cI, 522, .inl t_before))] H := hP
          have hD : va_D A [(a_t, .inr (5, [.int t_length, .ref a_t_text, .int t_spot, .ref a_t_told, .ref a_t_read, .ref a_t_s, .ref a_t_before, .int (t_undoMany - 1), .int t_shortAs, .int t_isolatorAs, .int t_worstWire, .int t_worstLost])), (a_t_s, .inl (cI, 87, .inl (upd w_t_s (v1).toNatClampNeg (t_before (((87 * (t_undoMany - 1)) + v1)).toNatClampNeg)))), (a_t_before, .inl (cI, 522, .inl t_before))] := hD
          refine lv_iinc (v := (v1 + 1)) (lv' := [(1, .int (v1 + 1)), (0, .ref a_t)]) hx hb dX6_undo_48 hl (k := 1) rfl (by first | rfl | decide) (by decide) rfl (fun ls hl => ?_)
          refine lv_goto (tgt := 22) hx hb dX6_undo_51 (by decide) ?_
          exact ih (v1 + 1) (upd w_t_s (v1).toNatClampNeg (t_before (((87 * (t_undoMany - 1)) + v1)).toNatClampNeg)) H locs ls hP hD hS (lv_sub hl [1, 0] rfl) q22 h kk
    refine lp22 1000 0 t_s H locs ls hP hD hS (lv_sub hl [1, 0] rfl) q22 hq22 (fun H locs ls hP hD hS hl => ?_)
    refine lv_aload_n hx hb dX6_undo_54 rfl (lv_at hl 0 rfl) ?_
    refine va_get (D := D) (ci := 5) (v := .int (t_undoMany - 1)) (C := RX6) (T := TX6) (N := 12) hx hb hts inX6 hown hK hP 0 rfl rfl 7 (by decide) k_0 (fun _ h9 => h9) rfl dX6_undo_55 ?_
    obtain rfl := Option.some.inj h
    exact hQ 58 H locs ls rfl hP hD hS dX6_undo_58
  · have h := oi_t cc h
    refine lv_bipush (v := (-2)) hx hb dX6_undo_7 (by decide) ?_
    obtain rfl := Option.some.inj h
    exact hQ 9 H locs ls rfl hP hD hS dX6_undo_9

def f_X6_becomes (t_undoMany : Int32) (t_s : FN) (t_before : FN) (x0 : Int32) (x1 : Int32) : Option (Int32 × Int32 × FN × FN) := (if gi x0 87 then (if (t_s (x0).toNatClampNeg) = x1 then some ((-2), t_undoMany, t_s, t_before) else ((f_X6_note t_undoMany t_s t_before).bind (fun u16 => (if gi x0 87 then some ((t_s (x0).toNatClampNeg), u16.1, (upd t_s (x0).toNatClampNeg x1), u16.2) else none)))) else none)
abbrev rm_X6_becomes : Room := { frames := 1, cells := 0, slots := 0, locals := 21 }
theorem cd_X6_becomes : (yX6_becomes).cls = RX6 ∧ (yX6_becomes).cls ≠ "java/lang/invoke/MethodHandle" ∧ (yX6_becomes).cls ≠ "java/lang/invoke/VarHandle" ∧ (parseMethodDescriptor (yX6_becomes).desc).map (fun d => d.parameters.length) = some 2 := by decide +kernel
set_option maxHeartbeats 4000000 in
set_option maxRecDepth 100000 in
theorem c_X6_becomes (l : Launch) (D : va_G) (cI cS : ClassId) (a_t a_t_s a_t_before a_t_text a_t_told a_t_read : Nat) (sz : Nat) (t_length : Int32) (t_spot : Int32) (t_undoMany : Int32) (t_shortAs : Int32) (t_isolatorAs : Int32) (t_worstWire : Int32) (t_worstLost : Int32) (t_s : FN) (t_before : FN) (x0 : Int32) (x1 : Int32) (out : Int32 × Int32 × FN × FN) (h : f_X6_becomes t_undoMany t_s t_before x0 x1 = some out) : Met l yX6_becomes wsX6_becomes rm_X6_becomes (va_Pc [.ref a_t, .int x0, .int x1] (GP D cI cS [(a_t, .inr (5, [.int t_length, .ref a_t_text, .int t_spot, .ref a_t_told, .ref a_t_read, .ref a_t_s, .ref a_t_before, .int t_undoMany, .int t_shortAs, .int t_isolatorAs, .int t_worstWire, .int t_worstLost])), (a_t_s, .inl (cI, 87, .inl t_s)), (a_t_before, .inl (cI, 522, .inl t_before))] sz)) (QI D [(a_t, .inr (5, [.int t_length, .ref a_t_text, .int t_spot, .ref a_t_told, .ref a_t_read, .ref a_t_s, .ref a_t_before, .int t_undoMany, .int t_shortAs, .int t_isolatorAs, .int t_worstWire, .int t_worstLost])), (a_t_s, .inl (cI, 87, .inl t_s)), (a_t_before, .inl (cI, 522, .inl t_before))] sz [(a_t, .inr (5, [.int t_length, .ref a_t_text, .int t_spot, .ref a_t_told, .ref a_t_read, .ref a_t_s, .ref a_t_before, .int out.2.1, .int t_shortAs, .int t_isolatorAs, .int t_worstWire, .int t_worstLost])), (a_t_s, .inl (cI, 87, .inl out.2.2.1)), (a_t_before, .inl (cI, 522, .inl out.2.2.2))] out.1) 0 0 (va_A [(a_t, .inr (5, [.int t_length, .ref a_t_text, .int t_spot, .ref a_t_told, .ref a_t_read, .ref a_t_s, .ref a_t_before, .int t_undoMany, .int t_shortAs, .int t_isolatorAs, .int t_worstWire, .int t_worstLost])), (a_t_s, .inl (cI, 87, .inl t_s)), (a_t_before, .inl (cI, 522, .inl t_before))] sz) := by
  refine gm_i (cc := cX6_becomes) (maxL := 4) (rt := .int) (by decide) rfl (Nat.le_of_ble_eq_true rfl) ?_
  intro p e s m args below meth c A Q H locs ls hx hb hml hown hts hK hN hA hP hD hS hl hQ
  have hown : s.vm.findClass RX6 = some m.cls := hown
  have hl : lv_has ls 4 [(0, .ref a_t), (1, .int x0), (2, .int x1)] := hl
  have inX6 : ∀ w ∈ wsX60, w ∈ wsX6_becomes := by decide +kernel
  have k_0 := hts (.fieldLink RX6 19 "AlarmRingModel" "s" "[I") (by decide +kernel)
  unfold f_X6_becomes at h
  refine lv_aload_n hx hb dX6_becomes_0 rfl (lv_at hl 0 rfl) ?_
  refine va_get (D := D) (ci := 5) (v := .ref a_t_s) (C := RX6) (T := TX6) (N := 12) hx hb hts inX6 hown hK hP 0 rfl rfl 5 (by decide) k_0 (fun _ h9 => h9) rfl dX6_becomes_1 ?_
  refine lv_iload_n hx hb dX6_becomes_4 rfl (lv_at hl 1 rfl) ?_
  obtain ⟨gg, h⟩ := og h
  refine va_iald hx hb hK hP 1 0 rfl rfl gg dX6_becomes_5 ?_
  refine lv_istore_n (lv' := [(3, .int (t_s (x0).toNatClampNeg)), (0, .ref a_t), (1, .int x0), (2, .int x1)]) hx hb dX6_becomes_6 rfl hl (by decide) rfl (fun ls hl => ?_)
  refine lv_iload_n hx hb dX6_becomes_7 rfl (lv_at hl 0 rfl) ?_
  refine lv_iload_n hx hb dX6_becomes_8 rfl (lv_at hl 3 rfl) ?_
  refine lv_icmp_ne (tgt := 15) hx hb dX6_becomes_9 (by decide) (fun cc => ?_) (fun cc => ?_)
  · have h := oi_f cc h
    refine lv_aload_n hx hb dX6_becomes_15 rfl (lv_at hl 1 rfl) ?_
    obtain ⟨u16, hu16, h⟩ := ob h
    refine gV_v (C := RX6) (T := TX6) (N := 12) (ci := 5) (q0 := 0) (wc := [(a_t, .inr (5, [.int t_length, .ref a_t_text, .int t_spot, .ref a_t_told, .ref a_t_read, .ref a_t_s, .ref a_t_before, .int t_undoMany, .int t_shortAs, .int t_isolatorAs, .int t_worstWire, .int t_worstLost])), (a_t_s, .inl (cI, 87, .inl t_s)), (a_t_before, .inl (cI, 522, .inl t_before))]) (wr := []) (w1 := [(a_t, .inr (5, [.int t_length, .ref a_t_text, .int t_spot, .ref a_t_told, .ref a_t_read, .ref a_t_s, .ref a_t_before, .int u16.1, .int t_shortAs, .int t_isolatorAs, .int t_worstWire, .int t_worstLost])), (a_t_s, .inl (cI, 87, .inl t_s)), (a_t_before, .inl (cI, 522, .inl u16.2))]) (As := []) (rest := []) ⟨hx, hb, hml, hown, hts⟩ (c_X6_note l D cI cS a_t a_t_s a_t_before a_t_text a_t_told a_t_read H.size t_length t_spot t_undoMany t_shortAs t_isolatorAs t_worstWire t_worstLost t_s t_before u16 hu16) (cwV 0 hts gX6_becomes_X6_note rfl rfl rfl cd_X6_note ⟨Nat.le_of_ble_eq_true rfl, Nat.le_of_ble_eq_true rfl⟩) hK hN hP hD hS hA [0, 1, 2] [] rfl rfl (by decide) (by decide) (by decide) rfl rfl rfl hl.1 rfl (Nat.le_of_ble_eq_true rfl) dX6_becomes_16 ⟨Nat.zero_le _, Nat.zero_le _⟩ (fun H locs hP hD hS => ?_)
    have hP : va_P D vwCl [(a_t, .inr (5, [.int t_length, .ref a_t_text, .int t_spot, .ref a_t_told, .ref a_t_read, .ref a_t_s, .ref a_t_before, .int u16.1, .int t_shortAs, .int t_isolatorAs, .int t_worstWire, .int t_worstLost])), (a_t_s, .inl (cI, 87, .inl t_s)), (a_t_before, .inl (cI, 522, .inl u16.2))] H := hP
    have hD : va_D A [(a_t, .inr (5, [.int t_length, .ref a_t_text, .int t_spot, .ref a_t_told, .ref a_t_read, .ref a_t_s, .ref a_t_before, .int u16.1, .int t_shortAs, .int t_isolatorAs, .int t_worstWire, .int t_worstLost])), (a_t_s, .inl (cI, 87, .inl t_s)), (a_t_before, .inl (cI, 522, .inl u16.2))] := hD
    refine lv_aload_n hx hb dX6_becomes_19 rfl (lv_at hl 1 rfl) ?_
    refine va_get (D := D) (ci := 5) (v := .ref a_t_s) (C := RX6) (T := TX6) (N := 12) hx hb hts inX6 hown hK hP 0 rfl rfl 5 (by decide) k_0 (fun _ h9 => h9) rfl dX6_becomes_20 ?_
    refine lv_iload_n hx hb dX6_becomes_23 rfl (lv_at hl 2 rfl) ?_
    refine lv_iload_n hx hb dX6_becomes_24 rfl (lv_at hl 3 rfl) ?_
    obtain ⟨gg, h⟩ := og h
    refine va_iast hx hb hK hP hD hS 1 0 rfl rfl gg dX6_becomes_25 (fun H locs hP hD hS => ?_)
    have hP : va_P D vwCl [(a_t, .inr (5, [.int t_length, .ref a_t_text, .int t_spot, .ref a_t_told, .ref a_t_read, .ref a_t_s, .ref a_t_before, .int u16.1, .int t_shortAs, .int t_isolatorAs, .int t_worstWire, .int t_worstLost])), (a_t_s, .inl (cI, 87, .inl (upd t_s (x0).toNatClampNeg x1))), (a_t_before, .inl (cI, 522, .inl u16.2))] H := hP
    have hD : va_D A [(a_t, .inr (5, [.int t_length, .ref a_t_text, .int t_spot, .ref a_t_told, .ref a_t_read, .ref a_t_s, .ref a_t_before, .int u16.1, .int t_shortAs, .int t_isolatorAs, .int t_worstWire, .int t_worstLost])), (a_t_s, .inl (cI, 87, .inl (upd t_s (x0).toNatClampNeg x1))), (a_t_before, .inl (cI, 522, .inl u16.2))] := hD
    refine lv_iload_n hx hb dX6_becomes_26 rfl (lv_at hl 0 rfl) ?_
    obtain rfl := Option.some.inj h
    exact hQ 27 H locs ls rfl hP hD hS dX6_becomes_27
  · have h := oi_t cc h
    refine lv_bipush (v := (-2)) hx hb dX6_becomes_12 (by decide) ?_
    obtain rfl := Option.some.inj h
    exact hQ 14 H locs ls rfl hP hD hS dX6_becomes_14

def f_X6_isDevice (t_told : FN) (x0 : Int32) : Option (Int32) := ((f_X6_in (x0).toInt64 0 (((t_told (60 : Int32).toNatClampNeg) - 1)).toInt64).bind (fun u13 => (if (u13 = 0 ∨ u13 = 1) then some (u13) else none)))
abbrev rm_X6_isDevice : Room := { frames := 1, cells := 0, slots := 0, locals := 25 }
theorem cd_X6_isDevice : (yX6_isDevice).cls = RX6 ∧ (yX6_isDevice).cls ≠ "java/lang/invoke/MethodHandle" ∧ (yX6_isDevice).cls ≠ "java/lang/invoke/VarHandle" ∧ (parseMethodDescriptor (yX6_isDevice).desc).map (fun d => d.parameters.length) = some 1 := by decide +kernel
set_option maxHeartbeats 4000000 in
set_option maxRecDepth 100000 in
theorem c_X6_isDevice (l : Launch) (D : va_G) (cI cS : ClassId) (a_t a_t_told a_t_text a_t_read a_t_s a_t_before : Nat) (sz : Nat) (t_length : Int32) (t_spot : Int32) (t_undoMany : Int32) (t_shortAs : Int32) (t_isolatorAs : Int32) (t_worstWire : Int32) (t_worstLost : Int32) (t_told : FN) (x0 : Int32) (out : Int32) (h : f_X6_isDevice t_told x0 = some out) : Met l yX6_isDevice wsX6_isDevice rm_X6_isDevice (va_Pc [.ref a_t, .int x0] (GP D cI cS [(a_t, .inr (5, [.int t_length, .ref a_t_text, .int t_spot, .ref a_t_told, .ref a_t_read, .ref a_t_s, .ref a_t_before, .int t_undoMany, .int t_shortAs, .int t_isolatorAs, .int t_worstWire, .int t_worstLost])), (a_t_told, .inl (cI, 67, .inl t_told))] sz)) (QI D [(a_t, .inr (5, [.int t_length, .ref a_t_text, .int t_spot, .ref a_t_told, .ref a_t_read, .ref a_t_s, .ref a_t_before, .int t_undoMany, .int t_shortAs, .int t_isolatorAs, .int t_worstWire, .int t_worstLost])), (a_t_told, .inl (cI, 67, .inl t_told))] sz [(a_t, .inr (5, [.int t_length, .ref a_t_text, .int t_spot, .ref a_t_told, .ref a_t_read, .ref a_t_s, .ref a_t_before, .int t_undoMany, .int t_shortAs, .int t_isolatorAs, .int t_worstWire, .int t_worstLost])), (a_t_told, .inl (cI, 67, .inl t_told))] out) 0 0 (va_A [(a_t, .inr (5, [.int t_length, .ref a_t_text, .int t_spot, .ref a_t_told, .ref a_t_read, .ref a_t_s, .ref a_t_before, .int t_undoMany, .int t_shortAs, .int t_isolatorAs, .int t_worstWire, .int t_worstLost])), (a_t_told, .inl (cI, 67, .inl t_told))] sz) := by
  refine gm_i (cc := cX6_isDevice) (maxL := 2) (rt := .boolean) (by decide) rfl (Nat.le_of_ble_eq_true rfl) ?_
  intro p e s m args below meth c A Q H locs ls hx hb hml hown hts hK hN hA hP hD hS hl hQ
  have hown : s.vm.findClass RX6 = some m.cls := hown
  have hl : lv_has ls 2 [(0, .ref a_t), (1, .int x0)] := hl
  have inX6 : ∀ w ∈ wsX60, w ∈ wsX6_isDevice := by decide +kernel
  have k_0 := hts (.fieldLink RX6 13 "AlarmRingModel" "told" "[I") (by decide +kernel)
  unfold f_X6_isDevice at h
  refine lv_iload_n hx hb dX6_isDevice_0 rfl (lv_at hl 1 rfl) ?_
  refine lv_i2l (v := (x0).toInt64) hx hb dX6_isDevice_1 rfl ?_
  refine lv_lconst (v := 0) hx hb dX6_isDevice_2 (by decide) ?_
  refine lv_aload_n hx hb dX6_isDevice_3 rfl (lv_at hl 0 rfl) ?_
  refine va_get (D := D) (ci := 5) (v := .ref a_t_told) (C := RX6) (T := TX6) (N := 12) hx hb hts inX6 hown hK hP 0 rfl rfl 3 (by decide) k_0 (fun _ h9 => h9) rfl dX6_isDevice_4 ?_
  refine lv_bipush (v := 60) hx hb dX6_isDevice_7 (by decide) ?_
  refine va_iald hx hb hK hP 1 0 rfl rfl (i := 60) (show gi 60 67 by decide) dX6_isDevice_9 ?_
  refine lv_iconst (v := 1) hx hb dX6_isDevice_10 (by decide) ?_
  refine lv_isub hx hb dX6_isDevice_11 ?_
  refine lv_i2l (v := (((t_told (60 : Int32).toNatClampNeg) - 1)).toInt64) hx hb dX6_isDevice_12 rfl ?_
  obtain ⟨u13, hu13, h⟩ := ob h
  refine gS_i (wc := []) (wr := [(a_t, .inr (5, [.int t_length, .ref a_t_text, .int t_spot, .ref a_t_told, .ref a_t_read, .ref a_t_s, .ref a_t_before, .int t_undoMany, .int t_shortAs, .int t_isolatorAs, .int t_worstWire, .int t_worstLost])), (a_t_told, .inl (cI, 67, .inl t_told))]) (w1 := []) (v := u13) (As := [.long (x0).toInt64, .long 0, .long (((t_told (60 : Int32).toNatClampNeg) - 1)).toInt64]) (rest := []) ⟨hx, hb, hml, hown, hts⟩ (c_X6_in l D cI cS  H.size (x0).toInt64 0 (((t_told (60 : Int32).toNatClampNeg) - 1)).toInt64 u13 hu13) (va_cwS 3 hts gX6_isDevice_X6_in rfl rfl rfl cd_X6_in ⟨Nat.le_of_ble_eq_true rfl, Nat.le_of_ble_eq_true rfl⟩) hK hN hP hD hS hA [] [0, 1] rfl rfl (by decide) (by decide) (by decide) rfl hl.1 rfl (Nat.le_of_ble_eq_true rfl) dX6_isDevice_13 ⟨Nat.zero_le _, Nat.zero_le _⟩ (fun H locs hP hD hS => ?_)
  have hP : va_P D vwCl [(a_t, .inr (5, [.int t_length, .ref a_t_text, .int t_spot, .ref a_t_told, .ref a_t_read, .ref a_t_s, .ref a_t_before, .int t_undoMany, .int t_shortAs, .int t_isolatorAs, .int t_worstWire, .int t_worstLost])), (a_t_told, .inl (cI, 67, .inl t_told))] H := hP
  have hD : va_D A [(a_t, .inr (5, [.int t_length, .ref a_t_text, .int t_spot, .ref a_t_told, .ref a_t_read, .ref a_t_s, .ref a_t_before, .int t_undoMany, .int t_shortAs, .int t_isolatorAs, .int t_worstWire, .int t_worstLost])), (a_t_told, .inl (cI, 67, .inl t_told))] := hD
  obtain ⟨gg, h⟩ := og h
  obtain rfl := Option.some.inj h
  exact hQ 16 H locs ls (nz gg) hP hD hS dX6_isDevice_16

def f_X6_isWire (t_told : FN) (x0 : Int32) : Option (Int32) := ((f_X6_in (x0).toInt64 0 ((t_told (60 : Int32).toNatClampNeg)).toInt64).bind (fun u11 => (if (u11 = 0 ∨ u11 = 1) then some (u11) else none)))
abbrev rm_X6_isWire : Room := { frames := 1, cells := 0, slots := 0, locals := 25 }
theorem cd_X6_isWire : (yX6_isWire).cls = RX6 ∧ (yX6_isWire).cls ≠ "java/lang/invoke/MethodHandle" ∧ (yX6_isWire).cls ≠ "java/lang/invoke/VarHandle" ∧ (parseMethodDescriptor (yX6_isWire).desc).map (fun d => d.parameters.length) = some 1 := by decide +kernel
set_option maxHeartbeats 4000000 in
set_option maxRecDepth 100000 in
theorem c_X6_isWire (l : Launch) (D : va_G) (cI cS : ClassId) (a_t a_t_told a_t_text a_t_read a_t_s a_t_before : Nat) (sz : Nat) (t_length : Int32) (t_spot : Int32) (t_undoMany : Int32) (t_shortAs : Int32) (t_isolatorAs : Int32) (t_worstWire : Int32) (t_worstLost : Int32) (t_told : FN) (x0 : Int32) (out : Int32) (h : f_X6_isWire t_told x0 = some out) : Met l yX6_isWire wsX6_isWire rm_X6_isWire (va_Pc [.ref a_t, .int x0] (GP D cI cS [(a_t, .inr (5, [.int t_length, .ref a_t_text, .int t_spot, .ref a_t_told, .ref a_t_read, .ref a_t_s, .ref a_t_before, .int t_undoMany, .int t_shortAs, .int t_isolatorAs, .int t_worstWire, .int t_worstLost])), (a_t_told, .inl (cI, 67, .inl t_told))] sz)) (QI D [(a_t, .inr (5, [.int t_length, .ref a_t_text, .int t_spot, .ref a_t_told, .ref a_t_read, .ref a_t_s, .ref a_t_before, .int t_undoMany, .int t_shortAs, .int t_isolatorAs, .int t_worstWire, .int t_worstLost])), (a_t_told, .inl (cI, 67, .inl t_told))] sz [(a_t, .inr (5, [.int t_length, .ref a_t_text, .int t_spot, .ref a_t_told, .ref a_t_read, .ref a_t_s, .ref a_t_before, .int t_undoMany, .int t_shortAs, .int t_isolatorAs, .int t_worstWire, .int t_worstLost])), (a_t_told, .inl (cI, 67, .inl t_told))] out) 0 0 (va_A [(a_t, .inr (5, [.int t_length, .ref a_t_text, .int t_spot, .ref a_t_told, .ref a_t_read, .ref a_t_s, .ref a_t_before, .int t_undoMany, .int t_shortAs, .int t_isolatorAs, .int t_worstWire, .int t_worstLost])), (a_t_told, .inl (cI, 67, .inl t_told))] sz) := by
  refine gm_i (cc := cX6_isWire) (maxL := 2) (rt := .boolean) (by decide) rfl (Nat.le_of_ble_eq_true rfl) ?_
  intro p e s m args below meth c A Q H locs ls hx hb hml hown hts hK hN hA hP hD hS hl hQ
  have hown : s.vm.findClass RX6 = some m.cls := hown
  have hl : lv_has ls 2 [(0, .ref a_t), (1, .int x0)] := hl
  have inX6 : ∀ w ∈ wsX60, w ∈ wsX6_isWire := by decide +kernel
  have k_0 := hts (.fieldLink RX6 13 "AlarmRingModel" "told" "[I") (by decide +kernel)
  unfold f_X6_isWire at h
  refine lv_iload_n hx hb dX6_isWire_0 rfl (lv_at hl 1 rfl) ?_
  refine lv_i2l (v := (x0).toInt64) hx hb dX6_isWire_1 rfl ?_
  refine lv_lconst (v := 0) hx hb dX6_isWire_2 (by decide) ?_
  refine lv_aload_n hx hb dX6_isWire_3 rfl (lv_at hl 0 rfl) ?_
  refine va_get (D := D) (ci := 5) (v := .ref a_t_told) (C := RX6) (T := TX6) (N := 12) hx hb hts inX6 hown hK hP 0 rfl rfl 3 (by decide) k_0 (fun _ h9 => h9) rfl dX6_isWire_4 ?_
  refine lv_bipush (v := 60) hx hb dX6_isWire_7 (by decide) ?_
  refine va_iald hx hb hK hP 1 0 rfl rfl (i := 60) (show gi 60 67 by decide) dX6_isWire_9 ?_
  refine lv_i2l (v := ((t_told (60 : Int32).toNatClampNeg)).toInt64) hx hb dX6_isWire_10 rfl ?_
  obtain ⟨u11, hu11, h⟩ := ob h
  refine gS_i (wc := []) (wr := [(a_t, .inr (5, [.int t_length, .ref a_t_text, .int t_spot, .ref a_t_told, .ref a_t_read, .ref a_t_s, .ref a_t_before, .int t_undoMany, .int t_shortAs, .int t_isolatorAs, .int t_worstWire, .int t_worstLost])), (a_t_told, .inl (cI, 67, .inl t_told))]) (w1 := []) (v := u11) (As := [.long (x0).toInt64, .long 0, .long ((t_told (60 : Int32).toNatClampNeg)).toInt64]) (rest := []) ⟨hx, hb, hml, hown, hts⟩ (c_X6_in l D cI cS  H.size (x0).toInt64 0 ((t_told (60 : Int32).toNatClampNeg)).toInt64 u11 hu11) (va_cwS 3 hts gX6_isWire_X6_in rfl rfl rfl cd_X6_in ⟨Nat.le_of_ble_eq_true rfl, Nat.le_of_ble_eq_true rfl⟩) hK hN hP hD hS hA [] [0, 1] rfl rfl (by decide) (by decide) (by decide) rfl hl.1 rfl (Nat.le_of_ble_eq_true rfl) dX6_isWire_11 ⟨Nat.zero_le _, Nat.zero_le _⟩ (fun H locs hP hD hS => ?_)
  have hP : va_P D vwCl [(a_t, .inr (5, [.int t_length, .ref a_t_text, .int t_spot, .ref a_t_told, .ref a_t_read, .ref a_t_s, .ref a_t_before, .int t_undoMany, .int t_shortAs, .int t_isolatorAs, .int t_worstWire, .int t_worstLost])), (a_t_told, .inl (cI, 67, .inl t_told))] H := hP
  have hD : va_D A [(a_t, .inr (5, [.int t_length, .ref a_t_text, .int t_spot, .ref a_t_told, .ref a_t_read, .ref a_t_s, .ref a_t_before, .int t_undoMany, .int t_shortAs, .int t_isolatorAs, .int t_worstWire, .int t_worstLost])), (a_t_told, .inl (cI, 67, .inl t_told))] := hD
  obtain ⟨gg, h⟩ := og h
  obtain rfl := Option.some.inj h
  exact hQ 14 H locs ls (nz gg) hP hD hS dX6_isWire_14

def f_X6_read (t_undoMany : Int32) (t_told : FN) (t_s : FN) (t_before : FN) (x0 : Int32) (x1 : Int32) : Option (Int32 × Int32 × FN × FN) := ((f_X6_isDevice t_told x0).bind (fun u2 => (if u2 = 0 then some ((-1), t_undoMany, t_s, t_before) else ((f_X6_in (x1).toInt64 0 99).bind (fun u14 => (if u14 = 0 then some ((-1), t_undoMany, t_s, t_before) else ((f_X6_becomes t_undoMany t_s t_before (0 + x0) x1).bind (fun u25 => some (u25.1, u25.2.1, u25.2.2.1, u25.2.2.2)))))))))
abbrev rm_X6_read : Room := { frames := 2, cells := 0, slots := 0, locals := 46 }
theorem cd_X6_read : (yX6_read).cls = RX6 ∧ (yX6_read).cls ≠ "java/lang/invoke/MethodHandle" ∧ (yX6_read).cls ≠ "java/lang/invoke/VarHandle" ∧ (parseMethodDescriptor (yX6_read).desc).map (fun d => d.parameters.length) = some 2 := by decide +kernel
set_option maxHeartbeats 4000000 in
set_option maxRecDepth 100000 in
theorem c_X6_read (l : Launch) (D : va_G) (cI cS : ClassId) (a_t a_t_told a_t_s a_t_before a_t_text a_t_read : Nat) (sz : Nat) (t_length : Int32) (t_spot : Int32) (t_undoMany : Int32) (t_shortAs : Int32) (t_isolatorAs : Int32) (t_worstWire : Int32) (t_worstLost : Int32) (t_told : FN) (t_s : FN) (t_before : FN) (x0 : Int32) (x1 : Int32) (out : Int32 × Int32 × FN × FN) (h : f_X6_read t_undoMany t_told t_s t_before x0 x1 = some out) : Met l yX6_read wsX6_read rm_X6_read (va_Pc [.ref a_t, .int x0, .int x1] (GP D cI cS [(a_t, .inr (5, [.int t_length, .ref a_t_text, .int t_spot, .ref a_t_told, .ref a_t_read, .ref a_t_s, .ref a_t_before, .int t_undoMany, .int t_shortAs, .int t_isolatorAs, .int t_worstWire, .int t_worstLost])), (a_t_told, .inl (cI, 67, .inl t_told)), (a_t_s, .inl (cI, 87, .inl t_s)), (a_t_before, .inl (cI, 522, .inl t_before))] sz)) (QI D [(a_t, .inr (5, [.int t_length, .ref a_t_text, .int t_spot, .ref a_t_told, .ref a_t_read, .ref a_t_s, .ref a_t_before, .int t_undoMany, .int t_shortAs, .int t_isolatorAs, .int t_worstWire, .int t_worstLost])), (a_t_told, .inl (cI, 67, .inl t_told)), (a_t_s, .inl (cI, 87, .inl t_s)), (a_t_before, .inl (cI, 522, .inl t_before))] sz [(a_t, .inr (5, [.int t_length, .ref a_t_text, .int t_spot, .ref a_t_told, .ref a_t_read, .ref a_t_s, .ref a_t_before, .int out.2.1, .int t_shortAs, .int t_isolatorAs, .int t_worstWire, .int t_worstLost])), (a_t_told, .inl (cI, 67, .inl t_told)), (a_t_s, .inl (cI, 87, .inl out.2.2.1)), (a_t_before, .inl (cI, 522, .inl out.2.2.2))] out.1) 0 0 (va_A [(a_t, .inr (5, [.int t_length, .ref a_t_text, .int t_spot, .ref a_t_told, .ref a_t_read, .ref a_t_s, .ref a_t_before, .int t_undoMany, .int t_shortAs, .int t_isolatorAs, .int t_worstWire, .int t_worstLost])), (a_t_told, .inl (cI, 67, .inl t_told)), (a_t_s, .inl (cI, 87, .inl t_s)), (a_t_before, .inl (cI, 522, .inl t_before))] sz) := by
  refine gm_i (cc := cX6_read) (maxL := 3) (rt := .int) (by decide) rfl (Nat.le_of_ble_eq_true rfl) ?_
  intro p e s m args below meth c A Q H locs ls hx hb hml hown hts hK hN hA hP hD hS hl hQ
  have hown : s.vm.findClass RX6 = some m.cls := hown
  have hl : lv_has ls 3 [(0, .ref a_t), (1, .int x0), (2, .int x1)] := hl
  have k_0 := hts (.constantLong RX6 90 (99)) (by decide +kernel)
  unfold f_X6_read at h
  refine lv_aload_n hx hb dX6_read_0 rfl (lv_at hl 0 rfl) ?_
  refine lv_iload_n hx hb dX6_read_1 rfl (lv_at hl 1 rfl) ?_
  obtain ⟨u2, hu2, h⟩ := ob h
  refine gV_i (C := RX6) (T := TX6) (N := 12) (ci := 5) (q0 := 0) (wc := [(a_t, .inr (5, [.int t_length, .ref a_t_text, .int t_spot, .ref a_t_told, .ref a_t_read, .ref a_t_s, .ref a_t_before, .int t_undoMany, .int t_shortAs, .int t_isolatorAs, .int t_worstWire, .int t_worstLost])), (a_t_told, .inl (cI, 67, .inl t_told))]) (wr := [(a_t_s, .inl (cI, 87, .inl t_s)), (a_t_before, .inl (cI, 522, .inl t_before))]) (w1 := [(a_t, .inr (5, [.int t_length, .ref a_t_text, .int t_spot, .ref a_t_told, .ref a_t_read, .ref a_t_s, .ref a_t_before, .int t_undoMany, .int t_shortAs, .int t_isolatorAs, .int t_worstWire, .int t_worstLost])), (a_t_told, .inl (cI, 67, .inl t_told))]) (v := u2) (As := [.int x0]) (rest := []) ⟨hx, hb, hml, hown, hts⟩ (c_X6_isDevice l D cI cS a_t a_t_told a_t_text a_t_read a_t_s a_t_before H.size t_length t_spot t_undoMany t_shortAs t_isolatorAs t_worstWire t_worstLost t_told x0 u2 hu2) (cwV 1 hts gX6_read_X6_isDevice rfl rfl rfl cd_X6_isDevice ⟨Nat.le_of_ble_eq_true rfl, Nat.le_of_ble_eq_true rfl⟩) hK hN hP hD hS hA [0, 1] [2, 3] rfl rfl (by decide) (by decide) (by decide) rfl rfl rfl hl.1 rfl (Nat.le_of_ble_eq_true rfl) dX6_read_2 ⟨Nat.zero_le _, Nat.zero_le _⟩ (fun H locs hP hD hS => ?_)
  have hP : va_P D vwCl [(a_t, .inr (5, [.int t_length, .ref a_t_text, .int t_spot, .ref a_t_told, .ref a_t_read, .ref a_t_s, .ref a_t_before, .int t_undoMany, .int t_shortAs, .int t_isolatorAs, .int t_worstWire, .int t_worstLost])), (a_t_told, .inl (cI, 67, .inl t_told)), (a_t_s, .inl (cI, 87, .inl t_s)), (a_t_before, .inl (cI, 522, .inl t_before))] H := hP.sub [2, 3, 0, 1] rfl
  have hD : va_D A [(a_t, .inr (5, [.int t_length, .ref a_t_text, .int t_spot, .ref a_t_told, .ref a_t_read, .ref a_t_s, .ref a_t_before, .int t_undoMany, .int t_shortAs, .int t_isolatorAs, .int t_worstWire, .int t_worstLost])), (a_t_told, .inl (cI, 67, .inl t_told)), (a_t_s, .inl (cI, 87, .inl t_s)), (a_t_before, .inl (cI, 522, .inl t_before))] := hD.sub [2, 3, 0, 1] (by decide) rfl
  refine lv_if_eq (tgt := 31) hx hb dX6_read_5 (by decide) (fun cc => ?_) (fun cc => ?_)
  · have h := oi_t cc h
    refine lv_iconst (v := (-1)) hx hb dX6_read_31 (by decide) ?_
    obtain rfl := Option.some.inj h
    exact hQ 32 H locs ls rfl hP hD hS dX6_read_32
  · have h := oi_f cc h
    refine lv_iload_n hx hb dX6_read_8 rfl (lv_at hl 2 rfl) ?_
    refine lv_i2l (v := (x1).toInt64) hx hb dX6_read_9 rfl ?_
    refine lv_lconst (v := 0) hx hb dX6_read_10 (by decide) ?_
    refine lv_ldc2 (v := 99) hx hb hown k_0 dX6_read_11 ?_
    obtain ⟨u14, hu14, h⟩ := ob h
    refine gS_i (wc := []) (wr := [(a_t, .inr (5, [.int t_length, .ref a_t_text, .int t_spot, .ref a_t_told, .ref a_t_read, .ref a_t_s, .ref a_t_before, .int t_undoMany, .int t_shortAs, .int t_isolatorAs, .int t_worstWire, .int t_worstLost])), (a_t_told, .inl (cI, 67, .inl t_told)), (a_t_s, .inl (cI, 87, .inl t_s)), (a_t_before, .inl (cI, 522, .inl t_before))]) (w1 := []) (v := u14) (As := [.long (x1).toInt64, .long 0, .long 99]) (rest := []) ⟨hx, hb, hml, hown, hts⟩ (c_X6_in l D cI cS  H.size (x1).toInt64 0 99 u14 hu14) (va_cwS 3 hts gX6_read_X6_in rfl rfl rfl cd_X6_in ⟨Nat.le_of_ble_eq_true rfl, Nat.le_of_ble_eq_true rfl⟩) hK hN hP hD hS hA [] [0, 1, 2, 3] rfl rfl (by decide) (by decide) (by decide) rfl hl.1 rfl (Nat.le_of_ble_eq_true rfl) dX6_read_14 ⟨Nat.zero_le _, Nat.zero_le _⟩ (fun H locs hP hD hS => ?_)
    have hP : va_P D vwCl [(a_t, .inr (5, [.int t_length, .ref a_t_text, .int t_spot, .ref a_t_told, .ref a_t_read, .ref a_t_s, .ref a_t_before, .int t_undoMany, .int t_shortAs, .int t_isolatorAs, .int t_worstWire, .int t_worstLost])), (a_t_told, .inl (cI, 67, .inl t_told)), (a_t_s, .inl (cI, 87, .inl t_s)), (a_t_before, .inl (cI, 522, .inl t_before))] H := hP
    have hD : va_D A [(a_t, .inr (5, [.int t_length, .ref a_t_text, .int t_spot, .ref a_t_told, .ref a_t_read, .ref a_t_s, .ref a_t_before, .int t_undoMany, .int t_shortAs, .int t_isolatorAs, .int t_worstWire, .int t_worstLost])), (a_t_told, .inl (cI, 67, .inl t_told)), (a_t_s, .inl (cI, 87, .inl t_s)), (a_t_before, .inl (cI, 522, .inl t_before))] := hD
    refine lv_if_eq (tgt := 31) hx hb dX6_read_17 (by decide) (fun cc => ?_) (fun cc => ?_)
    · have h := oi_t cc h
      refine lv_iconst (v := (-1)) hx hb dX6_read_31 (by decide) ?_
      obtain rfl := Option.some.inj h
      exact hQ 32 H locs ls rfl hP hD hS dX6_read_32
    · have h := oi_f cc h
      refine lv_aload_n hx hb dX6_read_20 rfl (lv_at hl 0 rfl) ?_
      refine lv_iconst (v := 0) hx hb dX6_read_21 (by decide) ?_
      refine lv_iload_n hx hb dX6_read_22 rfl (lv_at hl 1 rfl) ?_
      refine lv_iadd hx hb dX6_read_23 ?_
      refine lv_iload_n hx hb dX6_read_24 rfl (lv_at hl 2 rfl) ?_
      obtain ⟨u25, hu25, h⟩ := ob h
      refine gV_i (C := RX6) (T := TX6) (N := 12) (ci := 5) (q0 := 0) (wc := [(a_t, .inr (5, [.int t_length, .ref a_t_text, .int t_spot, .ref a_t_told, .ref a_t_read, .ref a_t_s, .ref a_t_before, .int t_undoMany, .int t_shortAs, .int t_isolatorAs, .int t_worstWire, .int t_worstLost])), (a_t_s, .inl (cI, 87, .inl t_s)), (a_t_before, .inl (cI, 522, .inl t_before))]) (wr := [(a_t_told, .inl (cI, 67, .inl t_told))]) (w1 := [(a_t, .inr (5, [.int t_length, .ref a_t_text, .int t_spot, .ref a_t_told, .ref a_t_read, .ref a_t_s, .ref a_t_before, .int u25.2.1, .int t_shortAs, .int t_isolatorAs, .int t_worstWire, .int t_worstLost])), (a_t_s, .inl (cI, 87, .inl u25.2.2.1)), (a_t_before, .inl (cI, 522, .inl u25.2.2.2))]) (v := u25.1) (As := [.int (0 + x0), .int x1]) (rest := []) ⟨hx, hb, hml, hown, hts⟩ (c_X6_becomes l D cI cS a_t a_t_s a_t_before a_t_text a_t_told a_t_read H.size t_length t_spot t_undoMany t_shortAs t_isolatorAs t_worstWire t_worstLost t_s t_before (0 + x0) x1 u25 hu25) (cwV 2 hts gX6_read_X6_becomes rfl rfl rfl cd_X6_becomes ⟨Nat.le_of_ble_eq_true rfl, Nat.le_of_ble_eq_true rfl⟩) hK hN hP hD hS hA [0, 2, 3] [1] rfl rfl (by decide) (by decide) (by decide) rfl rfl rfl hl.1 rfl (Nat.le_of_ble_eq_true rfl) dX6_read_25 ⟨Nat.zero_le _, Nat.zero_le _⟩ (fun H locs hP hD hS => ?_)
      have hP : va_P D vwCl [(a_t, .inr (5, [.int t_length, .ref a_t_text, .int t_spot, .ref a_t_told, .ref a_t_read, .ref a_t_s, .ref a_t_before, .int u25.2.1, .int t_shortAs, .int t_isolatorAs, .int t_worstWire, .int t_worstLost])), (a_t_told, .inl (cI, 67, .inl t_told)), (a_t_s, .inl (cI, 87, .inl u25.2.2.1)), (a_t_before, .inl (cI, 522, .inl u25.2.2.2))] H := hP.sub [1, 0, 2, 3] rfl
      have hD : va_D A [(a_t, .inr (5, [.int t_length, .ref a_t_text, .int t_spot, .ref a_t_told, .ref a_t_read, .ref a_t_s, .ref a_t_before, .int u25.2.1, .int t_shortAs, .int t_isolatorAs, .int t_worstWire, .int t_worstLost])), (a_t_told, .inl (cI, 67, .inl t_told)), (a_t_s, .inl (cI, 87, .inl u25.2.2.1)), (a_t_before, .inl (cI, 522, .inl u25.2.2.2))] := hD.sub [1, 0, 2, 3] (by decide) rfl
      refine lv_goto (tgt := 32) hx hb dX6_read_28 (by decide) ?_
      obtain rfl := Option.some.inj h
      exact hQ 32 H locs ls rfl hP hD hS dX6_read_32

def f_X6_wire (t_undoMany : Int32) (t_told : FN) (t_s : FN) (t_before : FN) (x0 : Int32) (x1 : Int32) : Option (Int32 × Int32 × FN × FN) := ((f_X6_isWire t_told x0).bind (fun u2 => (if u2 = 0 then some ((-1), t_undoMany, t_s, t_before) else ((f_X6_in (x1).toInt64 0 2).bind (fun u14 => (if u14 = 0 then some ((-1), t_undoMany, t_s, t_before) else ((f_X6_becomes t_undoMany t_s t_before (48 + x0) x1).bind (fun u26 => some (u26.1, u26.2.1, u26.2.2.1, u26.2.2.2)))))))))
abbrev rm_X6_wire : Room := { frames := 2, cells := 0, slots := 0, locals := 46 }
theorem cd_X6_wire : (yX6_wire).cls = RX6 ∧ (yX6_wire).cls ≠ "java/lang/invoke/MethodHandle" ∧ (yX6_wire).cls ≠ "java/lang/invoke/VarHandle" ∧ (parseMethodDescriptor (yX6_wire).desc).map (fun d => d.parameters.length) = some 2 := by decide +kernel
set_option maxHeartbeats 4000000 in
set_option maxRecDepth 100000 in
theorem c_X6_wire (l : Launch) (D : va_G) (cI cS : ClassId) (a_t a_t_told a_t_s a_t_before a_t_text a_t_read : Nat) (sz : Nat) (t_length : Int32) (t_spot : Int32) (t_undoMany : Int32) (t_shortAs : Int32) (t_isolatorAs : Int32) (t_worstWire : Int32) (t_worstLost : Int32) (t_told : FN) (t_s : FN) (t_before : FN) (x0 : Int32) (x1 : Int32) (out : Int32 × Int32 × FN × FN) (h : f_X6_wire t_undoMany t_told t_s t_before x0 x1 = some out) : Met l yX6_wire wsX6_wire rm_X6_wire (va_Pc [.ref a_t, .int x0, .int x1] (GP D cI cS [(a_t, .inr (5, [.int t_length, .ref a_t_text, .int t_spot, .ref a_t_told, .ref a_t_read, .ref a_t_s, .ref a_t_before, .int t_undoMany, .int t_shortAs, .int t_isolatorAs, .int t_worstWire, .int t_worstLost])), (a_t_told, .inl (cI, 67, .inl t_told)), (a_t_s, .inl (cI, 87, .inl t_s)), (a_t_before, .inl (cI, 522, .inl t_before))] sz)) (QI D [(a_t, .inr (5, [.int t_length, .ref a_t_text, .int t_spot, .ref a_t_told, .ref a_t_read, .ref a_t_s, .ref a_t_before, .int t_undoMany, .int t_shortAs, .int t_isolatorAs, .int t_worstWire, .int t_worstLost])), (a_t_told, .inl (cI, 67, .inl t_told)), (a_t_s, .inl (cI, 87, .inl t_s)), (a_t_before, .inl (cI, 522, .inl t_before))] sz [(a_t, .inr (5, [.int t_length, .ref a_t_text, .int t_spot, .ref a_t_told, .ref a_t_read, .ref a_t_s, .ref a_t_before, .int out.2.1, .int t_shortAs, .int t_isolatorAs, .int t_worstWire, .int t_worstLost])), (a_t_told, .inl (cI, 67, .inl t_told)), (a_t_s, .inl (cI, 87, .inl out.2.2.1)), (a_t_before, .inl (cI, 522, .inl out.2.2.2))] out.1) 0 0 (va_A [(a_t, .inr (5, [.int t_length, .ref a_t_text, .int t_spot, .ref a_t_told, .ref a_t_read, .ref a_t_s, .ref a_t_before, .int t_undoMany, .int t_shortAs, .int t_isolatorAs, .int t_worstWire, .int t_worstLost])), (a_t_told, .inl (cI, 67, .inl t_told)), (a_t_s, .inl (cI, 87, .inl t_s)), (a_t_before, .inl (cI, 522, .inl t_before))] sz) := by
  refine gm_i (cc := cX6_wire) (maxL := 3) (rt := .int) (by decide) rfl (Nat.le_of_ble_eq_true rfl) ?_
  intro p e s m args below meth c A Q H locs ls hx hb hml hown hts hK hN hA hP hD hS hl hQ
  have hown : s.vm.findClass RX6 = some m.cls := hown
  have hl : lv_has ls 3 [(0, .ref a_t), (1, .int x0), (2, .int x1)] := hl
  have k_0 := hts (.constantLong RX6 99 (2)) (by decide +kernel)
  unfold f_X6_wire at h
  refine lv_aload_n hx hb dX6_wire_0 rfl (lv_at hl 0 rfl) ?_
  refine lv_iload_n hx hb dX6_wire_1 rfl (lv_at hl 1 rfl) ?_
  obtain ⟨u2, hu2, h⟩ := ob h
  refine gV_i (C := RX6) (T := TX6) (N := 12) (ci := 5) (q0 := 0) (wc := [(a_t, .inr (5, [.int t_length, .ref a_t_text, .int t_spot, .ref a_t_told, .ref a_t_read, .ref a_t_s, .ref a_t_before, .int t_undoMany, .int t_shortAs, .int t_isolatorAs, .int t_worstWire, .int t_worstLost])), (a_t_told, .inl (cI, 67, .inl t_told))]) (wr := [(a_t_s, .inl (cI, 87, .inl t_s)), (a_t_before, .inl (cI, 522, .inl t_before))]) (w1 := [(a_t, .inr (5, [.int t_length, .ref a_t_text, .int t_spot, .ref a_t_told, .ref a_t_read, .ref a_t_s, .ref a_t_before, .int t_undoMany, .int t_shortAs, .int t_isolatorAs, .int t_worstWire, .int t_worstLost])), (a_t_told, .inl (cI, 67, .inl t_told))]) (v := u2) (As := [.int x0]) (rest := []) ⟨hx, hb, hml, hown, hts⟩ (c_X6_isWire l D cI cS a_t a_t_told a_t_text a_t_read a_t_s a_t_before H.size t_length t_spot t_undoMany t_shortAs t_isolatorAs t_worstWire t_worstLost t_told x0 u2 hu2) (cwV 1 hts gX6_wire_X6_isWire rfl rfl rfl cd_X6_isWire ⟨Nat.le_of_ble_eq_true rfl, Nat.le_of_ble_eq_true rfl⟩) hK hN hP hD hS hA [0, 1] [2, 3] rfl rfl (by decide) (by decide) (by decide) rfl rfl rfl hl.1 rfl (Nat.le_of_ble_eq_true rfl) dX6_wire_2 ⟨Nat.zero_le _, Nat.zero_le _⟩ (fun H locs hP hD hS => ?_)
  have hP : va_P D vwCl [(a_t, .inr (5, [.int t_length, .ref a_t_text, .int t_spot, .ref a_t_told, .ref a_t_read, .ref a_t_s, .ref a_t_before, .int t_undoMany, .int t_shortAs, .int t_isolatorAs, .int t_worstWire, .int t_worstLost])), (a_t_told, .inl (cI, 67, .inl t_told)), (a_t_s, .inl (cI, 87, .inl t_s)), (a_t_before, .inl (cI, 522, .inl t_before))] H := hP.sub [2, 3, 0, 1] rfl
  have hD : va_D A [(a_t, .inr (5, [.int t_length, .ref a_t_text, .int t_spot, .ref a_t_told, .ref a_t_read, .ref a_t_s, .ref a_t_before, .int t_undoMany, .int t_shortAs, .int t_isolatorAs, .int t_worstWire, .int t_worstLost])), (a_t_told, .inl (cI, 67, .inl t_told)), (a_t_s, .inl (cI, 87, .inl t_s)), (a_t_before, .inl (cI, 522, .inl t_before))] := hD.sub [2, 3, 0, 1] (by decide) rfl
  refine lv_if_eq (tgt := 32) hx hb dX6_wire_5 (by decide) (fun cc => ?_) (fun cc => ?_)
  · have h := oi_t cc h
    refine lv_iconst (v := (-1)) hx hb dX6_wire_32 (by decide) ?_
    obtain rfl := Option.some.inj h
    exact hQ 33 H locs ls rfl hP hD hS dX6_wire_33
  · have h := oi_f cc h
    refine lv_iload_n hx hb dX6_wire_8 rfl (lv_at hl 2 rfl) ?_
    refine lv_i2l (v := (x1).toInt64) hx hb dX6_wire_9 rfl ?_
    refine lv_lconst (v := 0) hx hb dX6_wire_10 (by decide) ?_
    refine lv_ldc2 (v := 2) hx hb hown k_0 dX6_wire_11 ?_
    obtain ⟨u14, hu14, h⟩ := ob h
    refine gS_i (wc := []) (wr := [(a_t, .inr (5, [.int t_length, .ref a_t_text, .int t_spot, .ref a_t_told, .ref a_t_read, .ref a_t_s, .ref a_t_before, .int t_undoMany, .int t_shortAs, .int t_isolatorAs, .int t_worstWire, .int t_worstLost])), (a_t_told, .inl (cI, 67, .inl t_told)), (a_t_s, .inl (cI, 87, .inl t_s)), (a_t_before, .inl (cI, 522, .inl t_before))]) (w1 := []) (v := u14) (As := [.long (x1).toInt64, .long 0, .long 2]) (rest := []) ⟨hx, hb, hml, hown, hts⟩ (c_X6_in l D cI cS  H.size (x1).toInt64 0 2 u14 hu14) (va_cwS 3 hts gX6_wire_X6_in rfl rfl rfl cd_X6_in ⟨Nat.le_of_ble_eq_true rfl, Nat.le_of_ble_eq_true rfl⟩) hK hN hP hD hS hA [] [0, 1, 2, 3] rfl rfl (by decide) (by decide) (by decide) rfl hl.1 rfl (Nat.le_of_ble_eq_true rfl) dX6_wire_14 ⟨Nat.zero_le _, Nat.zero_le _⟩ (fun H locs hP hD hS => ?_)
    have hP : va_P D vwCl [(a_t, .inr (5, [.int t_length, .ref a_t_text, .int t_spot, .ref a_t_told, .ref a_t_read, .ref a_t_s, .ref a_t_before, .int t_undoMany, .int t_shortAs, .int t_isolatorAs, .int t_worstWire, .int t_worstLost])), (a_t_told, .inl (cI, 67, .inl t_told)), (a_t_s, .inl (cI, 87, .inl t_s)), (a_t_before, .inl (cI, 522, .inl t_before))] H := hP
    have hD : va_D A [(a_t, .inr (5, [.int t_length, .ref a_t_text, .int t_spot, .ref a_t_told, .ref a_t_read, .ref a_t_s, .ref a_t_before, .int t_undoMany, .int t_shortAs, .int t_isolatorAs, .int t_worstWire, .int t_worstLost])), (a_t_told, .inl (cI, 67, .inl t_told)), (a_t_s, .inl (cI, 87, .inl t_s)), (a_t_before, .inl (cI, 522, .inl t_before))] := hD
    refine lv_if_eq (tgt := 32) hx hb dX6_wire_17 (by decide) (fun cc => ?_) (fun cc => ?_)
    · have h := oi_t cc h
      refine lv_iconst (v := (-1)) hx hb dX6_wire_32 (by decide) ?_
      obtain rfl := Option.some.inj h
      exact hQ 33 H locs ls rfl hP hD hS dX6_wire_33
    · have h := oi_f cc h
      refine lv_aload_n hx hb dX6_wire_20 rfl (lv_at hl 0 rfl) ?_
      refine lv_bipush (v := 48) hx hb dX6_wire_21 (by decide) ?_
      refine lv_iload_n hx hb dX6_wire_23 rfl (lv_at hl 1 rfl) ?_
      refine lv_iadd hx hb dX6_wire_24 ?_
      refine lv_iload_n hx hb dX6_wire_25 rfl (lv_at hl 2 rfl) ?_
      obtain ⟨u26, hu26, h⟩ := ob h
      refine gV_i (C := RX6) (T := TX6) (N := 12) (ci := 5) (q0 := 0) (wc := [(a_t, .inr (5, [.int t_length, .ref a_t_text, .int t_spot, .ref a_t_told, .ref a_t_read, .ref a_t_s, .ref a_t_before, .int t_undoMany, .int t_shortAs, .int t_isolatorAs, .int t_worstWire, .int t_worstLost])), (a_t_s, .inl (cI, 87, .inl t_s)), (a_t_before, .inl (cI, 522, .inl t_before))]) (wr := [(a_t_told, .inl (cI, 67, .inl t_told))]) (w1 := [(a_t, .inr (5, [.int t_length, .ref a_t_text, .int t_spot, .ref a_t_told, .ref a_t_read, .ref a_t_s, .ref a_t_before, .int u26.2.1, .int t_shortAs, .int t_isolatorAs, .int t_worstWire, .int t_worstLost])), (a_t_s, .inl (cI, 87, .inl u26.2.2.1)), (a_t_before, .inl (cI, 522, .inl u26.2.2.2))]) (v := u26.1) (As := [.int (48 + x0), .int x1]) (rest := []) ⟨hx, hb, hml, hown, hts⟩ (c_X6_becomes l D cI cS a_t a_t_s a_t_before a_t_text a_t_told a_t_read H.size t_length t_spot t_undoMany t_shortAs t_isolatorAs t_worstWire t_worstLost t_s t_before (48 + x0) x1 u26 hu26) (cwV 2 hts gX6_wire_X6_becomes rfl rfl rfl cd_X6_becomes ⟨Nat.le_of_ble_eq_true rfl, Nat.le_of_ble_eq_true rfl⟩) hK hN hP hD hS hA [0, 2, 3] [1] rfl rfl (by decide) (by decide) (by decide) rfl rfl rfl hl.1 rfl (Nat.le_of_ble_eq_true rfl) dX6_wire_26 ⟨Nat.zero_le _, Nat.zero_le _⟩ (fun H locs hP hD hS => ?_)
      have hP : va_P D vwCl [(a_t, .inr (5, [.int t_length, .ref a_t_text, .int t_spot, .ref a_t_told, .ref a_t_read, .ref a_t_s, .ref a_t_before, .int u26.2.1, .int t_shortAs, .int t_isolatorAs, .int t_worstWire, .int t_worstLost])), (a_t_told, .inl (cI, 67, .inl t_told)), (a_t_s, .inl (cI, 87, .inl u26.2.2.1)), (a_t_before, .inl (cI, 522, .inl u26.2.2.2))] H := hP.sub [1, 0, 2, 3] rfl
      have hD : va_D A [(a_t, .inr (5, [.int t_length, .ref a_t_text, .int t_spot, .ref a_t_told, .ref a_t_read, .ref a_t_s, .ref a_t_before, .int u26.2.1, .int t_shortAs, .int t_isolatorAs, .int t_worstWire, .int t_worstLost])), (a_t_told, .inl (cI, 67, .inl t_told)), (a_t_s, .inl (cI, 87, .inl u26.2.2.1)), (a_t_before, .inl (cI, 522, .inl u26.2.2.2))] := hD.sub [1, 0, 2, 3] (by decide) rfl
      refine lv_goto (tgt := 33) hx hb dX6_wire_29 (by decide) ?_
      obtain rfl := Option.some.inj h
      exact hQ 33 H locs ls rfl hP hD hS dX6_wire_33

def f_X6_sumOf_5 (t_s : FN) (x0 : Int32) (x1 : Int32) : Nat → Int32 → Int32 → Option (Int32)
  | 0, _, _ => none
  | n + 1, v3, v4 => (if x1 ≤ v4 then some (v3) else (if gi (x0 + v4) 87 then (if (t_s ((x0 + v4)).toNatClampNeg) ≤ 0 then f_X6_sumOf_5 t_s x0 x1 n (v3 + 0) (v4 + 1) else f_X6_sumOf_5 t_s x0 x1 n (v3 + 1) (v4 + 1)) else none))
def f_X6_sumOf (t_s : FN) (x0 : Int32) (x1 : Int32) : Option (Int32) := ((f_X6_sumOf_5 t_s x0 x1 1000 0 0).bind (fun (q5 : Int32) => some (q5)))
abbrev rm_X6_sumOf : Room := { frames := 0, cells := 0, slots := 0, locals := 0 }
theorem cd_X6_sumOf : (yX6_sumOf).cls = RX6 ∧ (yX6_sumOf).cls ≠ "java/lang/invoke/MethodHandle" ∧ (yX6_sumOf).cls ≠ "java/lang/invoke/VarHandle" ∧ (parseMethodDescriptor (yX6_sumOf).desc).map (fun d => d.parameters.length) = some 2 := by decide +kernel
set_option maxHeartbeats 4000000 in
set_option maxRecDepth 100000 in
theorem c_X6_sumOf (l : Launch) (D : va_G) (cI cS : ClassId) (a_t a_t_s a_t_text a_t_told a_t_read a_t_before : Nat) (sz : Nat) (t_length : Int32) (t_spot : Int32) (t_undoMany : Int32) (t_shortAs : Int32) (t_isolatorAs : Int32) (t_worstWire : Int32) (t_worstLost : Int32) (t_s : FN) (x0 : Int32) (x1 : Int32) (out : Int32) (h : f_X6_sumOf t_s x0 x1 = some out) : Met l yX6_sumOf wsX6_sumOf rm_X6_sumOf (va_Pc [.ref a_t, .int x0, .int x1] (GP D cI cS [(a_t, .inr (5, [.int t_length, .ref a_t_text, .int t_spot, .ref a_t_told, .ref a_t_read, .ref a_t_s, .ref a_t_before, .int t_undoMany, .int t_shortAs, .int t_isolatorAs, .int t_worstWire, .int t_worstLost])), (a_t_s, .inl (cI, 87, .inl t_s))] sz)) (QI D [(a_t, .inr (5, [.int t_length, .ref a_t_text, .int t_spot, .ref a_t_told, .ref a_t_read, .ref a_t_s, .ref a_t_before, .int t_undoMany, .int t_shortAs, .int t_isolatorAs, .int t_worstWire, .int t_worstLost])), (a_t_s, .inl (cI, 87, .inl t_s))] sz [(a_t, .inr (5, [.int t_length, .ref a_t_text, .int t_spot, .ref a_t_told, .ref a_t_read, .ref a_t_s, .ref a_t_before, .int t_undoMany, .int t_shortAs, .int t_isolatorAs, .int t_worstWire, .int t_worstLost])), (a_t_s, .inl (cI, 87, .inl t_s))] out) 0 0 (va_A [(a_t, .inr (5, [.int t_length, .ref a_t_text, .int t_spot, .ref a_t_told, .ref a_t_read, .ref a_t_s, .ref a_t_before, .int t_undoMany, .int t_shortAs, .int t_isolatorAs, .int t_worstWire, .int t_worstLost])), (a_t_s, .inl (cI, 87, .inl t_s))] sz) := by
  refine gm_i (cc := cX6_sumOf) (maxL := 5) (rt := .int) (by decide) rfl (Nat.le_of_ble_eq_true rfl) ?_
  intro p e s m args below meth c A Q H locs ls hx hb hml hown hts hK hN hA hP hD hS hl hQ
  have hown : s.vm.findClass RX6 = some m.cls := hown
  have hl : lv_has ls 5 [(0, .ref a_t), (1, .int x0), (2, .int x1)] := hl
  have inX6 : ∀ w ∈ wsX60, w ∈ wsX6_sumOf := by decide +kernel
  have k_0 := hts (.fieldLink RX6 19 "AlarmRingModel" "s" "[I") (by decide +kernel)
  unfold f_X6_sumOf at h
  refine lv_iconst (v := 0) hx hb dX6_sumOf_0 (by decide) ?_
  refine lv_istore_n (lv' := [(3, .int 0), (0, .ref a_t), (1, .int x0), (2, .int x1)]) hx hb dX6_sumOf_1 rfl hl (by decide) rfl (fun ls hl => ?_)
  refine lv_iconst (v := 0) hx hb dX6_sumOf_2 (by decide) ?_
  refine lv_istore (lv' := [(4, .int 0), (3, .int 0), (0, .ref a_t), (1, .int x0), (2, .int x1)]) hx hb dX6_sumOf_3 hl (by decide) rfl (fun ls hl => ?_)
  obtain ⟨q5, hq5, h⟩ := ob h
  have lp5 : ∀ (n : Nat) (v3 : Int32) (v4 : Int32) (H : Heap) (locs : List Loc) (ls : Array Slot), va_P D vwCl [(a_t, .inr (5, [.int t_length, .ref a_t_text, .int t_spot, .ref a_t_told, .ref a_t_read, .ref a_t_s, .ref a_t_before, .int t_undoMany, .int t_shortAs, .int t_isolatorAs, .int t_worstWire, .int t_worstLost])), (a_t_s, .inl (cI, 87, .inl t_s))] H → va_D A [(a_t, .inr (5, [.int t_length, .ref a_t_text, .int t_spot, .ref a_t_told, .ref a_t_read, .ref a_t_s, .ref a_t_before, .int t_undoMany, .int t_shortAs, .int t_isolatorAs, .int t_worstWire, .int t_worstLost])), (a_t_s, .inl (cI, 87, .inl t_s))] → va_S A s.heap H locs → lv_has ls 5 [(0, .ref a_t), (1, .int x0), (2, .int x1), (3, .int v3), (4, .int v4)] → ∀ (q5 : Int32), f_X6_sumOf_5 t_s x0 x1 n v3 v4 = some q5 → (∀ (H : Heap) (locs : List Loc) (ls : Array Slot), va_P D vwCl [(a_t, .inr (5, [.int t_length, .ref a_t_text, .int t_spot, .ref a_t_told, .ref a_t_read, .ref a_t_s, .ref a_t_before, .int t_undoMany, .int t_shortAs, .int t_isolatorAs, .int t_worstWire, .int t_worstLost])), (a_t_s, .inl (cI, 87, .inl t_s))] H → va_D A [(a_t, .inr (5, [.int t_length, .ref a_t_text, .int t_spot, .ref a_t_told, .ref a_t_read, .ref a_t_s, .ref a_t_before, .int t_undoMany, .int t_shortAs, .int t_isolatorAs, .int t_worstWire, .int t_worstLost])), (a_t_s, .inl (cI, 87, .inl t_s))] → va_S A s.heap H locs → lv_has ls 5 [(3, .int q5)] → W p l e rm_X6_sumOf s m args below meth c H locs 0 0 Q (F0 m 37 ls [])) → W p l e rm_X6_sumOf s m args below meth c H locs 0 0 Q (F0 m 5 ls []) := by
    intro n
    induction n with
    | zero => intro v3 v4 H locs ls hP hD hS hl q5 h kk; exact on_ h
    | succ n ih =>
      intro v3 v4 H locs ls hP hD hS hl q5 h kk
      rw [f_X6_sumOf_5] at h
      refine lv_iload hx hb dX6_sumOf_5 (lv_at hl 4 rfl) ?_
      refine lv_iload_n hx hb dX6_sumOf_7 rfl (lv_at hl 2 rfl) ?_
      refine lv_icmp_ge (tgt := 37) hx hb dX6_sumOf_8 (by decide) (fun cc => ?_) (fun cc => ?_)
      · have h := oi_t cc h
        obtain rfl := Option.some.inj h
        exact kk H locs ls hP hD hS (lv_sub hl [3] rfl)
      · have h := oi_f cc h
        refine lv_iload_n hx hb dX6_sumOf_11 rfl (lv_at hl 3 rfl) ?_
        refine lv_aload_n hx hb dX6_sumOf_12 rfl (lv_at hl 0 rfl) ?_
        refine va_get (D := D) (ci := 5) (v := .ref a_t_s) (C := RX6) (T := TX6) (N := 12) hx hb hts inX6 hown hK hP 0 rfl rfl 5 (by decide) k_0 (fun _ h9 => h9) rfl dX6_sumOf_13 ?_
        refine lv_iload_n hx hb dX6_sumOf_16 rfl (lv_at hl 1 rfl) ?_
        refine lv_iload hx hb dX6_sumOf_17 (lv_at hl 4 rfl) ?_
        refine lv_iadd hx hb dX6_sumOf_19 ?_
        obtain ⟨gg, h⟩ := og h
        refine va_iald hx hb hK hP 1 0 rfl rfl gg dX6_sumOf_20 ?_
        refine lv_if_le (tgt := 28) hx hb dX6_sumOf_21 (by decide) (fun cc => ?_) (fun cc => ?_)
        · have h := oi_t cc h
          refine lv_iconst (v := 0) hx hb dX6_sumOf_28 (by decide) ?_
          refine lv_iadd hx hb dX6_sumOf_29 ?_
          refine lv_istore_n (lv' := [(3, .int (v3 + 0)), (0, .ref a_t), (1, .int x0), (2, .int x1), (4, .int v4)]) hx hb dX6_sumOf_30 rfl hl (by decide) rfl (fun ls hl => ?_)
          refine lv_iinc (v := (v4 + 1)) (lv' := [(4, .int (v4 + 1)), (3, .int (v3 + 0)), (0, .ref a_t), (1, .int x0), (2, .int x1)]) hx hb dX6_sumOf_31 hl (k := 4) rfl (by first | rfl | decide) (by decide) rfl (fun ls hl => ?_)
          refine lv_goto (tgt := 5) hx hb dX6_sumOf_34 (by decide) ?_
          exact ih (v3 + 0) (v4 + 1) H locs ls hP hD hS (lv_sub hl [2, 3, 4, 1, 0] rfl) q5 h kk
        · have h := oi_f cc h
          refine lv_iconst (v := 1) hx hb dX6_sumOf_24 (by decide) ?_
          refine lv_goto (tgt := 29) hx hb dX6_sumOf_25 (by decide) ?_
          refine lv_iadd hx hb dX6_sumOf_29 ?_
          refine lv_istore_n (lv' := [(3, .int (v3 + 1)), (0, .ref a_t), (1, .int x0), (2, .int x1), (4, .int v4)]) hx hb dX6_sumOf_30 rfl hl (by decide) rfl (fun ls hl => ?_)
          refine lv_iinc (v := (v4 + 1)) (lv' := [(4, .int (v4 + 1)), (3, .int (v3 + 1)), (0, .ref a_t), (1, .int x0), (2, .int x1)]) hx hb dX6_sumOf_31 hl (k := 4) rfl (by first | rfl | decide) (by decide) rfl (fun ls hl => ?_)
          refine lv_goto (tgt := 5) hx hb dX6_sumOf_34 (by decide) ?_
          exact ih (v3 + 1) (v4 + 1) H locs ls hP hD hS (lv_sub hl [2, 3, 4, 1, 0] rfl) q5 h kk
  refine lp5 1000 0 0 H locs ls hP hD hS (lv_sub hl [2, 3, 4, 1, 0] rfl) q5 hq5 (fun H locs ls hP hD hS hl => ?_)
  refine lv_iload_n hx hb dX6_sumOf_37 rfl (lv_at hl 0 rfl) ?_
  obtain rfl := Option.some.inj h
  exact hQ 38 H locs ls rfl hP hD hS dX6_sumOf_38

def f_X6_day (t_undoMany : Int32) (t_s : FN) (t_before : FN) (x0 : Int32) : Option (Int32 × Int32 × FN × FN) := ((f_X6_in (x0).toInt64 0 1).bind (fun u4 => (if u4 = 0 then some ((-1), t_undoMany, t_s, t_before) else ((f_X6_becomes t_undoMany t_s t_before 85 x0).bind (fun u16 => (if u16.1 = (-2) then some ((-2), u16.2.1, u16.2.2.1, u16.2.2.2) else ((f_X6_sumOf u16.2.2.1 67 6).bind (fun u34 => some (u34, u16.2.1, u16.2.2.1, u16.2.2.2)))))))))
abbrev rm_X6_day : Room := { frames := 2, cells := 0, slots := 0, locals := 44 }
theorem cd_X6_day : (yX6_day).cls = RX6 ∧ (yX6_day).cls ≠ "java/lang/invoke/MethodHandle" ∧ (yX6_day).cls ≠ "java/lang/invoke/VarHandle" ∧ (parseMethodDescriptor (yX6_day).desc).map (fun d => d.parameters.length) = some 1 := by decide +kernel
set_option maxHeartbeats 4000000 in
set_option maxRecDepth 100000 in
theorem c_X6_day (l : Launch) (D : va_G) (cI cS : ClassId) (a_t a_t_s a_t_before a_t_text a_t_told a_t_read : Nat) (sz : Nat) (t_length : Int32) (t_spot : Int32) (t_undoMany : Int32) (t_shortAs : Int32) (t_isolatorAs : Int32) (t_worstWire : Int32) (t_worstLost : Int32) (t_s : FN) (t_before : FN) (x0 : Int32) (out : Int32 × Int32 × FN × FN) (h : f_X6_day t_undoMany t_s t_before x0 = some out) : Met l yX6_day wsX6_day rm_X6_day (va_Pc [.ref a_t, .int x0] (GP D cI cS [(a_t, .inr (5, [.int t_length, .ref a_t_text, .int t_spot, .ref a_t_told, .ref a_t_read, .ref a_t_s, .ref a_t_before, .int t_undoMany, .int t_shortAs, .int t_isolatorAs, .int t_worstWire, .int t_worstLost])), (a_t_s, .inl (cI, 87, .inl t_s)), (a_t_before, .inl (cI, 522, .inl t_before))] sz)) (QI D [(a_t, .inr (5, [.int t_length, .ref a_t_text, .int t_spot, .ref a_t_told, .ref a_t_read, .ref a_t_s, .ref a_t_before, .int t_undoMany, .int t_shortAs, .int t_isolatorAs, .int t_worstWire, .int t_worstLost])), (a_t_s, .inl (cI, 87, .inl t_s)), (a_t_before, .inl (cI, 522, .inl t_before))] sz [(a_t, .inr (5, [.int t_length, .ref a_t_text, .int t_spot, .ref a_t_told, .ref a_t_read, .ref a_t_s, .ref a_t_before, .int out.2.1, .int t_shortAs, .int t_isolatorAs, .int t_worstWire, .int t_worstLost])), (a_t_s, .inl (cI, 87, .inl out.2.2.1)), (a_t_before, .inl (cI, 522, .inl out.2.2.2))] out.1) 0 0 (va_A [(a_t, .inr (5, [.int t_length, .ref a_t_text, .int t_spot, .ref a_t_told, .ref a_t_read, .ref a_t_s, .ref a_t_before, .int t_undoMany, .int t_shortAs, .int t_isolatorAs, .int t_worstWire, .int t_worstLost])), (a_t_s, .inl (cI, 87, .inl t_s)), (a_t_before, .inl (cI, 522, .inl t_before))] sz) := by
  refine gm_i (cc := cX6_day) (maxL := 2) (rt := .int) (by decide) rfl (Nat.le_of_ble_eq_true rfl) ?_
  intro p e s m args below meth c A Q H locs ls hx hb hml hown hts hK hN hA hP hD hS hl hQ
  have hown : s.vm.findClass RX6 = some m.cls := hown
  have hl : lv_has ls 2 [(0, .ref a_t), (1, .int x0)] := hl
  unfold f_X6_day at h
  refine lv_iload_n hx hb dX6_day_0 rfl (lv_at hl 1 rfl) ?_
  refine lv_i2l (v := (x0).toInt64) hx hb dX6_day_1 rfl ?_
  refine lv_lconst (v := 0) hx hb dX6_day_2 (by decide) ?_
  refine lv_lconst (v := 1) hx hb dX6_day_3 (by decide) ?_
  obtain ⟨u4, hu4, h⟩ := ob h
  refine gS_i (wc := []) (wr := [(a_t, .inr (5, [.int t_length, .ref a_t_text, .int t_spot, .ref a_t_told, .ref a_t_read, .ref a_t_s, .ref a_t_before, .int t_undoMany, .int t_shortAs, .int t_isolatorAs, .int t_worstWire, .int t_worstLost])), (a_t_s, .inl (cI, 87, .inl t_s)), (a_t_before, .inl (cI, 522, .inl t_before))]) (w1 := []) (v := u4) (As := [.long (x0).toInt64, .long 0, .long 1]) (rest := []) ⟨hx, hb, hml, hown, hts⟩ (c_X6_in l D cI cS  H.size (x0).toInt64 0 1 u4 hu4) (va_cwS 3 hts gX6_day_X6_in rfl rfl rfl cd_X6_in ⟨Nat.le_of_ble_eq_true rfl, Nat.le_of_ble_eq_true rfl⟩) hK hN hP hD hS hA [] [0, 1, 2] rfl rfl (by decide) (by decide) (by decide) rfl hl.1 rfl (Nat.le_of_ble_eq_true rfl) dX6_day_4 ⟨Nat.zero_le _, Nat.zero_le _⟩ (fun H locs hP hD hS => ?_)
  have hP : va_P D vwCl [(a_t, .inr (5, [.int t_length, .ref a_t_text, .int t_spot, .ref a_t_told, .ref a_t_read, .ref a_t_s, .ref a_t_before, .int t_undoMany, .int t_shortAs, .int t_isolatorAs, .int t_worstWire, .int t_worstLost])), (a_t_s, .inl (cI, 87, .inl t_s)), (a_t_before, .inl (cI, 522, .inl t_before))] H := hP
  have hD : va_D A [(a_t, .inr (5, [.int t_length, .ref a_t_text, .int t_spot, .ref a_t_told, .ref a_t_read, .ref a_t_s, .ref a_t_before, .int t_undoMany, .int t_shortAs, .int t_isolatorAs, .int t_worstWire, .int t_worstLost])), (a_t_s, .inl (cI, 87, .inl t_s)), (a_t_before, .inl (cI, 522, .inl t_before))] := hD
  refine lv_if_ne (tgt := 12) hx hb dX6_day_7 (by decide) (fun cc => ?_) (fun cc => ?_)
  · have h := oi_f cc h
    refine lv_aload_n hx hb dX6_day_12 rfl (lv_at hl 0 rfl) ?_
    refine lv_bipush (v := 85) hx hb dX6_day_13 (by decide) ?_
    refine lv_iload_n hx hb dX6_day_15 rfl (lv_at hl 1 rfl) ?_
    obtain ⟨u16, hu16, h⟩ := ob h
    refine gV_i (C := RX6) (T := TX6) (N := 12) (ci := 5) (q0 := 0) (wc := [(a_t, .inr (5, [.int t_length, .ref a_t_text, .int t_spot, .ref a_t_told, .ref a_t_read, .ref a_t_s, .ref a_t_before, .int t_undoMany, .int t_shortAs, .int t_isolatorAs, .int t_worstWire, .int t_worstLost])), (a_t_s, .inl (cI, 87, .inl t_s)), (a_t_before, .inl (cI, 522, .inl t_before))]) (wr := []) (w1 := [(a_t, .inr (5, [.int t_length, .ref a_t_text, .int t_spot, .ref a_t_told, .ref a_t_read, .ref a_t_s, .ref a_t_before, .int u16.2.1, .int t_shortAs, .int t_isolatorAs, .int t_worstWire, .int t_worstLost])), (a_t_s, .inl (cI, 87, .inl u16.2.2.1)), (a_t_before, .inl (cI, 522, .inl u16.2.2.2))]) (v := u16.1) (As := [.int 85, .int x0]) (rest := []) ⟨hx, hb, hml, hown, hts⟩ (c_X6_becomes l D cI cS a_t a_t_s a_t_before a_t_text a_t_told a_t_read H.size t_length t_spot t_undoMany t_shortAs t_isolatorAs t_worstWire t_worstLost t_s t_before 85 x0 u16 hu16) (cwV 2 hts gX6_day_X6_becomes rfl rfl rfl cd_X6_becomes ⟨Nat.le_of_ble_eq_true rfl, Nat.le_of_ble_eq_true rfl⟩) hK hN hP hD hS hA [0, 1, 2] [] rfl rfl (by decide) (by decide) (by decide) rfl rfl rfl hl.1 rfl (Nat.le_of_ble_eq_true rfl) dX6_day_16 ⟨Nat.zero_le _, Nat.zero_le _⟩ (fun H locs hP hD hS => ?_)
    have hP : va_P D vwCl [(a_t, .inr (5, [.int t_length, .ref a_t_text, .int t_spot, .ref a_t_told, .ref a_t_read, .ref a_t_s, .ref a_t_before, .int u16.2.1, .int t_shortAs, .int t_isolatorAs, .int t_worstWire, .int t_worstLost])), (a_t_s, .inl (cI, 87, .inl u16.2.2.1)), (a_t_before, .inl (cI, 522, .inl u16.2.2.2))] H := hP
    have hD : va_D A [(a_t, .inr (5, [.int t_length, .ref a_t_text, .int t_spot, .ref a_t_told, .ref a_t_read, .ref a_t_s, .ref a_t_before, .int u16.2.1, .int t_shortAs, .int t_isolatorAs, .int t_worstWire, .int t_worstLost])), (a_t_s, .inl (cI, 87, .inl u16.2.2.1)), (a_t_before, .inl (cI, 522, .inl u16.2.2.2))] := hD
    refine lv_bipush (v := (-2)) hx hb dX6_day_19 (by decide) ?_
    refine lv_icmp_ne (tgt := 29) hx hb dX6_day_21 (by decide) (fun cc => ?_) (fun cc => ?_)
    · have h := oi_f cc h
      refine lv_aload_n hx hb dX6_day_29 rfl (lv_at hl 0 rfl) ?_
      refine lv_bipush (v := 67) hx hb dX6_day_30 (by decide) ?_
      refine lv_bipush (v := 6) hx hb dX6_day_32 (by decide) ?_
      obtain ⟨u34, hu34, h⟩ := ob h
      refine gV_i (C := RX6) (T := TX6) (N := 12) (ci := 5) (q0 := 0) (wc := [(a_t, .inr (5, [.int t_length, .ref a_t_text, .int t_spot, .ref a_t_told, .ref a_t_read, .ref a_t_s, .ref a_t_before, .int u16.2.1, .int t_shortAs, .int t_isolatorAs, .int t_worstWire, .int t_worstLost])), (a_t_s, .inl (cI, 87, .inl u16.2.2.1))]) (wr := [(a_t_before, .inl (cI, 522, .inl u16.2.2.2))]) (w1 := [(a_t, .inr (5, [.int t_length, .ref a_t_text, .int t_spot, .ref a_t_told, .ref a_t_read, .ref a_t_s, .ref a_t_before, .int u16.2.1, .int t_shortAs, .int t_isolatorAs, .int t_worstWire, .int t_worstLost])), (a_t_s, .inl (cI, 87, .inl u16.2.2.1))]) (v := u34) (As := [.int 67, .int 6]) (rest := []) ⟨hx, hb, hml, hown, hts⟩ (c_X6_sumOf l D cI cS a_t a_t_s a_t_text a_t_told a_t_read a_t_before H.size t_length t_spot u16.2.1 t_shortAs t_isolatorAs t_worstWire t_worstLost u16.2.2.1 67 6 u34 hu34) (cwV 2 hts gX6_day_X6_sumOf rfl rfl rfl cd_X6_sumOf ⟨Nat.le_of_ble_eq_true rfl, Nat.le_of_ble_eq_true rfl⟩) hK hN hP hD hS hA [0, 1] [2] rfl rfl (by decide) (by decide) (by decide) rfl rfl rfl hl.1 rfl (Nat.le_of_ble_eq_true rfl) dX6_day_34 ⟨Nat.zero_le _, Nat.zero_le _⟩ (fun H locs hP hD hS => ?_)
      have hP : va_P D vwCl [(a_t, .inr (5, [.int t_length, .ref a_t_text, .int t_spot, .ref a_t_told, .ref a_t_read, .ref a_t_s, .ref a_t_before, .int u16.2.1, .int t_shortAs, .int t_isolatorAs, .int t_worstWire, .int t_worstLost])), (a_t_s, .inl (cI, 87, .inl u16.2.2.1)), (a_t_before, .inl (cI, 522, .inl u16.2.2.2))] H := hP.sub [1, 2, 0] rfl
      have hD : va_D A [(a_t, .inr (5, [.int t_length, .ref a_t_text, .int t_spot, .ref a_t_told, .ref a_t_read, .ref a_t_s, .ref a_t_before, .int u16.2.1, .int t_shortAs, .int t_isolatorAs, .int t_worstWire, .int t_worstLost])), (a_t_s, .inl (cI, 87, .inl u16.2.2.1)), (a_t_before, .inl (cI, 522, .inl u16.2.2.2))] := hD.sub [1, 2, 0] (by decide) rfl
      obtain rfl := Option.some.inj h
      exact hQ 37 H locs ls rfl hP hD hS dX6_day_37
    · have h := oi_t cc h
      refine lv_bipush (v := (-2)) hx hb dX6_day_24 (by decide) ?_
      refine lv_goto (tgt := 37) hx hb dX6_day_26 (by decide) ?_
      obtain rfl := Option.some.inj h
      exact hQ 37 H locs ls rfl hP hD hS dX6_day_37
  · have h := oi_t cc h
    refine lv_iconst (v := (-1)) hx hb dX6_day_10 (by decide) ?_
    obtain rfl := Option.some.inj h
    exact hQ 11 H locs ls rfl hP hD hS dX6_day_11
