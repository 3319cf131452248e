def f_X1_begin  : Option (Int32 × Int32 × Int32 × Int32 × Int32 × Int32 × Int32 × Int32 × Int32) := some (0, 0, 0, 0, 30, 60, 2, 4, 3)
abbrev rm_X1_begin : Room := { frames := 0, cells := 0, slots := 0, locals := 0 }
theorem cd_X1_begin : (yX1_begin).cls = RX1 ∧ (yX1_begin).cls ≠ "java/lang/invoke/MethodHandle" ∧ (yX1_begin).cls ≠ "java/lang/invoke/VarHandle" ∧ (parseMethodDescriptor (yX1_begin).desc).map (fun d => d.parameters.length) = some 0 := by decide +kernel
set_option maxHeartbeats 4000000 in
set_option maxRecDepth 100000 in
theorem c_X1_begin (l : Launch) (D : va_G) (cI cS : ClassId) (a_t a_t_kind a_t_zoneOf a_t_effectKind a_t_effectZones a_t_delay : Nat) (sz : Nat) (t_devices : Int32) (t_isolators : Int32) (t_effects : Int32) (t_sounds : Int32) (t_pre : Int32) (t_alarm : Int32) (t_confirm : Int32) (t_pace : Int32) (t_phaseTicks : Int32) (out : Int32 × Int32 × Int32 × Int32 × Int32 × Int32 × Int32 × Int32 × Int32) (h : f_X1_begin  = some out) : Met l yX1_begin wsX1_begin rm_X1_begin (va_Pc [.ref a_t] (GP D cI cS [(a_t, .inr (1, [.ref a_t_kind, .ref a_t_zoneOf, .ref a_t_effectKind, .ref a_t_effectZones, .ref a_t_delay, .int t_devices, .int t_isolators, .int t_effects, .int t_sounds, .int t_pre, .int t_alarm, .int t_confirm, .int t_pace, .int t_phaseTicks]))] sz)) (QV D [(a_t, .inr (1, [.ref a_t_kind, .ref a_t_zoneOf, .ref a_t_effectKind, .ref a_t_effectZones, .ref a_t_delay, .int t_devices, .int t_isolators, .int t_effects, .int t_sounds, .int t_pre, .int t_alarm, .int t_confirm, .int t_pace, .int t_phaseTicks]))] sz [(a_t, .inr (1, [.ref a_t_kind, .ref a_t_zoneOf, .ref a_t_effectKind, .ref a_t_effectZones, .ref a_t_delay, .int out.1, .int out.2.1, .int out.2.2.1, .int out.2.2.2.1, .int out.2.2.2.2.1, .int out.2.2.2.2.2.1, .int out.2.2.2.2.2.2.1, .int out.2.2.2.2.2.2.2.1, .int out.2.2.2.2.2.2.2.2]))]) 0 0 (va_A [(a_t, .inr (1, [.ref a_t_kind, .ref a_t_zoneOf, .ref a_t_effectKind, .ref a_t_effectZones, .ref a_t_delay, .int t_devices, .int t_isolators, .int t_effects, .int t_sounds, .int t_pre, .int t_alarm, .int t_confirm, .int t_pace, .int t_phaseTicks]))] sz) := by
  refine gm_v (cc := cX1_begin) (maxL := 1) (by decide) rfl (Nat.le_of_ble_eq_true rfl) ?_
  intro p e s m args below meth c A Q H locs ls hx hb hml hown hts hK hN hA hP hD hS hl hQ
  have hown : s.vm.findClass RX1 = some m.cls := hown
  have hl : lv_has ls 1 [(0, .ref a_t)] := hl
  have inX1 : ∀ w ∈ wsX10, w ∈ wsX1_begin := by decide +kernel
  have k_0 := hts (.fieldLink RX1 27 "AlarmRing$Plan" "devices" "I") (by decide +kernel)
  have k_1 := hts (.fieldLink RX1 31 "AlarmRing$Plan" "isolators" "I") (by decide +kernel)
  have k_2 := hts (.fieldLink RX1 34 "AlarmRing$Plan" "effects" "I") (by decide +kernel)
  have k_3 := hts (.fieldLink RX1 37 "AlarmRing$Plan" "sounds" "I") (by decide +kernel)
  have k_4 := hts (.fieldLink RX1 40 "AlarmRing$Plan" "pre" "I") (by decide +kernel)
  have k_5 := hts (.fieldLink RX1 43 "AlarmRing$Plan" "alarm" "I") (by decide +kernel)
  have k_6 := hts (.fieldLink RX1 46 "AlarmRing$Plan" "confirm" "I") (by decide +kernel)
  have k_7 := hts (.fieldLink RX1 49 "AlarmRing$Plan" "pace" "I") (by decide +kernel)
  have k_8 := hts (.fieldLink RX1 52 "AlarmRing$Plan" "phaseTicks" "I") (by decide +kernel)
  unfold f_X1_begin at h
  refine lv_aload_n hx hb dX1_begin_0 rfl (lv_at hl 0 rfl) ?_
  refine lv_iconst (v := 0) hx hb dX1_begin_1 (by decide) ?_
  refine va_put (D := D) (ci := 1) (v := .int 0) (ty := .int) (C := RX1) (T := TX1) (N := 14) hx hb hts inX1 tyX1 tyX1_ok nmX1 hown hK hP hD hS 0 rfl rfl 5 (by decide) k_0 (fun _ h9 => h9) rfl (by decide +kernel) rfl rfl (Nat.le_of_ble_eq_true rfl) dX1_begin_2 (fun H locs hP hD hS => ?_)
  have hP : va_P D vwCl [(a_t, .inr (1, [.ref a_t_kind, .ref a_t_zoneOf, .ref a_t_effectKind, .ref a_t_effectZones, .ref a_t_delay, .int 0, .int t_isolators, .int t_effects, .int t_sounds, .int t_pre, .int t_alarm, .int t_confirm, .int t_pace, .int t_phaseTicks]))] H := hP
  have hD : va_D A [(a_t, .inr (1, [.ref a_t_kind, .ref a_t_zoneOf, .ref a_t_effectKind, .ref a_t_effectZones, .ref a_t_delay, .int 0, .int t_isolators, .int t_effects, .int t_sounds, .int t_pre, .int t_alarm, .int t_confirm, .int t_pace, .int t_phaseTicks]))] := hD
  refine lv_aload_n hx hb dX1_begin_5 rfl (lv_at hl 0 rfl) ?_
  refine lv_iconst (v := 0) hx hb dX1_begin_6 (by decide) ?_
  refine va_put (D := D) (ci := 1) (v := .int 0) (ty := .int) (C := RX1) (T := TX1) (N := 14) hx hb hts inX1 tyX1 tyX1_ok nmX1 hown hK hP hD hS 0 rfl rfl 6 (by decide) k_1 (fun _ h9 => h9) rfl (by decide +kernel) rfl rfl (Nat.le_of_ble_eq_true rfl) dX1_begin_7 (fun H locs hP hD hS => ?_)
  have hP : va_P D vwCl [(a_t, .inr (1, [.ref a_t_kind, .ref a_t_zoneOf, .ref a_t_effectKind, .ref a_t_effectZones, .ref a_t_delay, .int 0, .int 0, .int t_effects, .int t_sounds, .int t_pre, .int t_alarm, .int t_confirm, .int t_pace, .int t_phaseTicks]))] H := hP
  have hD : va_D A [(a_t, .inr (1, [.ref a_t_kind, .ref a_t_zoneOf, .ref a_t_effectKind, .ref a_t_effectZones, .ref a_t_delay, .int 0, .int 0, .int t_effects, .int t_sounds, .int t_pre, .int t_alarm, .int t_confirm, .int t_pace, .int t_phaseTicks]))] := hD
  refine lv_aload_n hx hb dX1_begin_10 rfl (lv_at hl 0 rfl) ?_
  refine lv_iconst (v := 0) hx hb dX1_begin_11 (by decide) ?_
  refine va_put (D := D) (ci := 1) (v := .int 0) (ty := .int) (C := RX1) (T := TX1) (N := 14) hx hb hts inX1 tyX1 tyX1_ok nmX1 hown hK hP hD hS 0 rfl rfl 7 (by decide) k_2 (fun _ h9 => h9) rfl (by decide +kernel) rfl rfl (Nat.le_of_ble_eq_true rfl) dX1_begin_12 (fun H locs hP hD hS => ?_)
  have hP : va_P D vwCl [(a_t, .inr (1, [.ref a_t_kind, .ref a_t_zoneOf, .ref a_t_effectKind, .ref a_t_effectZones, .ref a_t_delay, .int 0, .int 0, .int 0, .int t_sounds, .int t_pre, .int t_alarm, .int t_confirm, .int t_pace, .int t_phaseTicks]))] H := hP
  have hD : va_D A [(a_t, .inr (1, [.ref a_t_kind, .ref a_t_zoneOf, .ref a_t_effectKind, .ref a_t_effectZones, .ref a_t_delay, .int 0, .int 0, .int 0, .int t_sounds, .int t_pre, .int t_alarm, .int t_confirm, .int t_pace, .int t_phaseTicks]))] := hD
  refine lv_aload_n hx hb dX1_begin_15 rfl (lv_at hl 0 rfl) ?_
  refine lv_iconst (v := 0) hx hb dX1_begin_16 (by decide) ?_
  refine va_put (D := D) (ci := 1) (v := .int 0) (ty := .int) (C := RX1) (T := TX1) (N := 14) hx hb hts inX1 tyX1 tyX1_ok nmX1 hown hK hP hD hS 0 rfl rfl 8 (by decide) k_3 (fun _ h9 => h9) rfl (by decide +kernel) rfl rfl (Nat.le_of_ble_eq_true rfl) dX1_begin_17 (fun H locs hP hD hS => ?_)
  have hP : va_P D vwCl [(a_t, .inr (1, [.ref a_t_kind, .ref a_t_zoneOf, .ref a_t_effectKind, .ref a_t_effectZones, .ref a_t_delay, .int 0, .int 0, .int 0, .int 0, .int t_pre, .int t_alarm, .int t_confirm, .int t_pace, .int t_phaseTicks]))] H := hP
  have hD : va_D A [(a_t, .inr (1, [.ref a_t_kind, .ref a_t_zoneOf, .ref a_t_effectKind, .ref a_t_effectZones, .ref a_t_delay, .int 0, .int 0, .int 0, .int 0, .int t_pre, .int t_alarm, .int t_confirm, .int t_pace, .int t_phaseTicks]))] := hD
  refine lv_aload_n hx hb dX1_begin_20 rfl (lv_at hl 0 rfl) ?_
  refine lv_bipush (v := 30) hx hb dX1_begin_21 (by decide) ?_
  refine va_put (D := D) (ci := 1) (v := .int 30) (ty := .int) (C := RX1) (T := TX1) (N := 14) hx hb hts inX1 tyX1 tyX1_ok nmX1 hown hK hP hD hS 0 rfl rfl 9 (by decide) k_4 (fun _ h9 => h9) rfl (by decide +kernel) rfl rfl (Nat.le_of_ble_eq_true rfl) dX1_begin_23 (fun H locs hP hD hS => ?_)
  have hP : va_P D vwCl [(a_t, .inr (1, [.ref a_t_kind, .ref a_t_zoneOf, .ref a_t_effectKind, .ref a_t_effectZones, .ref a_t_delay, .int 0, .int 0, .int 0, .int 0, .int 30, .int t_alarm, .int t_confirm, .int t_pace, .int t_phaseTicks]))] H := hP
  have hD : va_D A [(a_t, .inr (1, [.ref a_t_kind, .ref a_t_zoneOf, .ref a_t_effectKind, .ref a_t_effectZones, .ref a_t_delay, .int 0, .int 0, .int 0, .int 0, .int 30, .int t_alarm, .int t_confirm, .int t_pace, .int t_phaseTicks]))] := hD
  refine lv_aload_n hx hb dX1_begin_26 rfl (lv_at hl 0 rfl) ?_
  refine lv_bipush (v := 60) hx hb dX1_begin_27 (by decide) ?_
  refine va_put (D := D) (ci := 1) (v := .int 60) (ty := .int) (C := RX1) (T := TX1) (N := 14) hx hb hts inX1 tyX1 tyX1_ok nmX1 hown hK hP hD hS 0 rfl rfl 10 (by decide) k_5 (fun _ h9 => h9) rfl (by decide +kernel) rfl rfl (Nat.le_of_ble_eq_true rfl) dX1_begin_29 (fun H locs hP hD hS => ?_)
  have hP : va_P D vwCl [(a_t, .inr (1, [.ref a_t_kind, .ref a_t_zoneOf, .ref a_t_effectKind, .ref a_t_effectZones, .ref a_t_delay, .int 0, .int 0, .int 0, .int 0, .int 30, .int 60, .int t_confirm, .int t_pace, .int t_phaseTicks]))] H := hP
  have hD : va_D A [(a_t, .inr (1, [.ref a_t_kind, .ref a_t_zoneOf, .ref a_t_effectKind, .ref a_t_effectZones, .ref a_t_delay, .int 0, .int 0, .int 0, .int 0, .int 30, .int 60, .int t_confirm, .int t_pace, .int t_phaseTicks]))] := hD
  refine lv_aload_n hx hb dX1_begin_32 rfl (lv_at hl 0 rfl) ?_
  refine lv_iconst (v := 2) hx hb dX1_begin_33 (by decide) ?_
  refine va_put (D := D) (ci := 1) (v := .int 2) (ty := .int) (C := RX1) (T := TX1) (N := 14) hx hb hts inX1 tyX1 tyX1_ok nmX1 hown hK hP hD hS 0 rfl rfl 11 (by decide) k_6 (fun _ h9 => h9) rfl (by decide +kernel) rfl rfl (Nat.le_of_ble_eq_true rfl) dX1_begin_34 (fun H locs hP hD hS => ?_)
  have hP : va_P D vwCl [(a_t, .inr (1, [.ref a_t_kind, .ref a_t_zoneOf, .ref a_t_effectKind, .ref a_t_effectZones, .ref a_t_delay, .int 0, .int 0, .int 0, .int 0, .int 30, .int 60, .int 2, .int t_pace, .int t_phaseTicks]))] H := hP
  have hD : va_D A [(a_t, .inr (1, [.ref a_t_kind, .ref a_t_zoneOf, .ref a_t_effectKind, .ref a_t_effectZones, .ref a_t_delay, .int 0, .int 0, .int 0, .int 0, .int 30, .int 60, .int 2, .int t_pace, .int t_phaseTicks]))] := hD
  refine lv_aload_n hx hb dX1_begin_37 rfl (lv_at hl 0 rfl) ?_
  refine lv_iconst (v := 4) hx hb dX1_begin_38 (by decide) ?_
  refine va_put (D := D) (ci := 1) (v := .int 4) (ty := .int) (C := RX1) (T := TX1) (N := 14) hx hb hts inX1 tyX1 tyX1_ok nmX1 hown hK hP hD hS 0 rfl rfl 12 (by decide) k_7 (fun _ h9 => h9) rfl (by decide +kernel) rfl rfl (Nat.le_of_ble_eq_true rfl) dX1_begin_39 (fun H locs hP hD hS => ?_)
  have hP : va_P D vwCl [(a_t, .inr (1, [.ref a_t_kind, .ref a_t_zoneOf, .ref a_t_effectKind, .ref a_t_effectZones, .ref a_t_delay, .int 0, .int 0, .int 0, .int 0, .int 30, .int 60, .int 2, .int 4, .int t_phaseTicks]))] H := hP
  have hD : va_D A [(a_t, .inr (1, [.ref a_t_kind, .ref a_t_zoneOf, .ref a_t_effectKind, .ref a_t_effectZones, .ref a_t_delay, .int 0, .int 0, .int 0, .int 0, .int 30, .int 60, .int 2, .int 4, .int t_phaseTicks]))] := hD
  refine lv_aload_n hx hb dX1_begin_42 rfl (lv_at hl 0 rfl) ?_
  refine lv_iconst (v := 3) hx hb dX1_begin_43 (by decide) ?_
  refine va_put (D := D) (ci := 1) (v := .int 3) (ty := .int) (C := RX1) (T := TX1) (N := 14) hx hb hts inX1 tyX1 tyX1_ok nmX1 hown hK hP hD hS 0 rfl rfl 13 (by decide) k_8 (fun _ h9 => h9) rfl (by decide +kernel) rfl rfl (Nat.le_of_ble_eq_true rfl) dX1_begin_44 (fun H locs hP hD hS => ?_)
  have hP : va_P D vwCl [(a_t, .inr (1, [.ref a_t_kind, .ref a_t_zoneOf, .ref a_t_effectKind, .ref a_t_effectZones, .ref a_t_delay, .int 0, .int 0, .int 0, .int 0, .int 30, .int 60, .int 2, .int 4, .int 3]))] H := hP
  have hD : va_D A [(a_t, .inr (1, [.ref a_t_kind, .ref a_t_zoneOf, .ref a_t_effectKind, .ref a_t_effectZones, .ref a_t_delay, .int 0, .int 0, .int 0, .int 0, .int 30, .int 60, .int 2, .int 4, .int 3]))] := hD
  obtain rfl := Option.some.inj h
  exact hQ 47 H locs ls hP hD hS dX1_begin_47

def f_X1_addDevice (t_devices : Int32) (t_isolators : Int32) (t_kind : FN) (t_zoneOf : FN) (x0 : Int32) (x1 : Int32) (x2 : Int32) : Option (Int32 × Int32 × Int32 × FN × FN) := ((f_X5_within x0 0 3).bind (fun u3 => (((if u3 = 0 then some (0) else ((f_X5_within x1 0 5).bind (fun u12 => (if u12 = 0 then some (0) else ((f_X5_within x2 0 1).bind (fun u21 => (if u21 = 0 then some (0) else some (1))))))))).bind (fun (u32 : Int32) => (if u32 = 0 then some (0, t_devices, t_isolators, t_kind, t_zoneOf) else (if t_devices < 12 then (if gi t_devices 12 then (if gi t_devices 12 then some (1, (t_devices + 1), (t_isolators ||| (x2 <<< (t_devices &&& 31))), (upd t_kind (t_devices).toNatClampNeg x0), (upd t_zoneOf (t_devices).toNatClampNeg x1)) else none) else none) else some (0, t_devices, t_isolators, t_kind, t_zoneOf)))))))
abbrev rm_X1_addDevice : Room := { frames := 1, cells := 0, slots := 0, locals := 22 }
theorem cd_X1_addDevice : (yX1_addDevice).cls = RX1 ∧ (yX1_addDevice).cls ≠ "java/lang/invoke/MethodHandle" ∧ (yX1_addDevice).cls ≠ "java/lang/invoke/VarHandle" ∧ (parseMethodDescriptor (yX1_addDevice).desc).map (fun d => d.parameters.length) = some 3 := by decide +kernel
set_option maxHeartbeats 4000000 in
set_option maxRecDepth 100000 in
theorem c_X1_addDevice (l : Launch) (D : va_G) (cI cS : ClassId) (a_t a_t_kind a_t_zoneOf a_t_effectKind a_t_effectZones a_t_delay : Nat) (sz : Nat) (t_devices : Int32) (t_isolators : Int32) (t_effects : Int32) (t_sounds : Int32) (t_pre : Int32) (t_alarm : Int32) (t_confirm : Int32) (t_pace : Int32) (t_phaseTicks : Int32) (t_kind : FN) (t_zoneOf : FN) (x0 : Int32) (x1 : Int32) (x2 : Int32) (out : Int32 × Int32 × Int32 × FN × FN) (h : f_X1_addDevice t_devices t_isolators t_kind t_zoneOf x0 x1 x2 = some out) : Met l yX1_addDevice wsX1_addDevice rm_X1_addDevice (va_Pc [.ref a_t, .int x0, .int x1, .int x2] (GP D cI cS [(a_t, .inr (1, [.ref a_t_kind, .ref a_t_zoneOf, .ref a_t_effectKind, .ref a_t_effectZones, .ref a_t_delay, .int t_devices, .int t_isolators, .int t_effects, .int t_sounds, .int t_pre, .int t_alarm, .int t_confirm, .int t_pace, .int t_phaseTicks])), (a_t_kind, .inl (cI, 12, .inl t_kind)), (a_t_zoneOf, .inl (cI, 12, .inl t_zoneOf))] sz)) (QI D [(a_t, .inr (1, [.ref a_t_kind, .ref a_t_zoneOf, .ref a_t_effectKind, .ref a_t_effectZones, .ref a_t_delay, .int t_devices, .int t_isolators, .int t_effects, .int t_sounds, .int t_pre, .int t_alarm, .int t_confirm, .int t_pace, .int t_phaseTicks])), (a_t_kind, .inl (cI, 12, .inl t_kind)), (a_t_zoneOf, .inl (cI, 12, .inl t_zoneOf))] sz [(a_t, .inr (1, [.ref a_t_kind, .ref a_t_zoneOf, .ref a_t_effectKind, .ref a_t_effectZones, .ref a_t_delay, .int out.2.1, .int out.2.2.1, .int t_effects, .int t_sounds, .int t_pre, .int t_alarm, .int t_confirm, .int t_pace, .int t_phaseTicks])), (a_t_kind, .inl (cI, 12, .inl out.2.2.2.1)), (a_t_zoneOf, .inl (cI, 12, .inl out.2.2.2.2))] out.1) 0 0 (va_A [(a_t, .inr (1, [.ref a_t_kind, .ref a_t_zoneOf, .ref a_t_effectKind, .ref a_t_effectZones, .ref a_t_delay, .int t_devices, .int t_isolators, .int t_effects, .int t_sounds, .int t_pre, .int t_alarm, .int t_confirm, .int t_pace, .int t_phaseTicks])), (a_t_kind, .inl (cI, 12, .inl t_kind)), (a_t_zoneOf, .inl (cI, 12, .inl t_zoneOf))] sz) := by
  refine gm_i (cc := cX1_addDevice) (maxL := 5) (rt := .boolean) (by decide) rfl (Nat.le_of_ble_eq_true rfl) ?_
  intro p e s m args below meth c A Q H locs ls hx hb hml hown hts hK hN hA hP hD hS hl hQ
  have hown : s.vm.findClass RX1 = some m.cls := hown
  have hl : lv_has ls 5 [(0, .ref a_t), (1, .int x0), (2, .int x1), (3, .int x2)] := hl
  have inX1 : ∀ w ∈ wsX10, w ∈ wsX1_addDevice := by decide +kernel
  have k_0 := hts (.initialized RX5) (by decide +kernel)
  have k_1 := hts (.static yX5_within) (by decide +kernel)
  have k_2 := hts (.fieldLink RX1 27 "AlarmRing$Plan" "devices" "I") (by decide +kernel)
  have k_3 := hts (.fieldLink RX1 9 "AlarmRing$Plan" "kind" "[I") (by decide +kernel)
  have k_4 := hts (.fieldLink RX1 15 "AlarmRing$Plan" "zoneOf" "[I") (by decide +kernel)
  have k_5 := hts (.fieldLink RX1 31 "AlarmRing$Plan" "isolators" "I") (by decide +kernel)
  unfold f_X1_addDevice at h
  refine lv_iload_n hx hb dX1_addDevice_0 rfl (lv_at hl 1 rfl) ?_
  refine lv_iconst (v := 0) hx hb dX1_addDevice_1 (by decide) ?_
  refine lv_iconst (v := 3) hx hb dX1_addDevice_2 (by decide) ?_
  obtain ⟨u3, hu3, h⟩ := ob h
  refine gN_i (wc := []) (wr := [(a_t, .inr (1, [.ref a_t_kind, .ref a_t_zoneOf, .ref a_t_effectKind, .ref a_t_effectZones, .ref a_t_delay, .int t_devices, .int t_isolators, .int t_effects, .int t_sounds, .int t_pre, .int t_alarm, .int t_confirm, .int t_pace, .int t_phaseTicks])), (a_t_kind, .inl (cI, 12, .inl t_kind)), (a_t_zoneOf, .inl (cI, 12, .inl t_zoneOf))]) (w1 := []) (v := u3) (As := [.int x0, .int 0, .int 3]) (rest := []) ⟨hx, hb, hml, hown, hts⟩ (c_X5_within l D cI cS  H.size x0 0 3 u3 hu3) ⟨va_cnB 3 hts gX1_addDevice_X5_within_n55 rfl rfl rfl hN.1 k_0 cd_X5_within ⟨Nat.le_of_ble_eq_true rfl, Nat.le_of_ble_eq_true rfl⟩, k_1, trivial⟩ hK hN hP hD hS hA [] [0, 1, 2] rfl rfl (by decide) (by decide) (by decide) rfl hl.1 rfl (Nat.le_of_ble_eq_true rfl) dX1_addDevice_3 ⟨Nat.zero_le _, Nat.zero_le _⟩ (fun H locs hP hD hS => ?_)
  have hP : va_P D vwCl [(a_t, .inr (1, [.ref a_t_kind, .ref a_t_zoneOf, .ref a_t_effectKind, .ref a_t_effectZones, .ref a_t_delay, .int t_devices, .int t_isolators, .int t_effects, .int t_sounds, .int t_pre, .int t_alarm, .int t_confirm, .int t_pace, .int t_phaseTicks])), (a_t_kind, .inl (cI, 12, .inl t_kind)), (a_t_zoneOf, .inl (cI, 12, .inl t_zoneOf))] H := hP
  have hD : va_D A [(a_t, .inr (1, [.ref a_t_kind, .ref a_t_zoneOf, .ref a_t_effectKind, .ref a_t_effectZones, .ref a_t_delay, .int t_devices, .int t_isolators, .int t_effects, .int t_sounds, .int t_pre, .int t_alarm, .int t_confirm, .int t_pace, .int t_phaseTicks])), (a_t_kind, .inl (cI, 12, .inl t_kind)), (a_t_zoneOf, .inl (cI, 12, .inl t_zoneOf))] := hD
  obtain ⟨u32, hj32, h⟩ := ob h
  have jn32 : ∀ (H : Heap) (locs : List Loc) (ls : Array Slot), va_P D vwCl [(a_t, .inr (1, [.ref a_t_kind, .ref a_t_zoneOf, .ref a_t_effectKind, .ref a_t_effectZones, .ref a_t_delay, .int t_devices, .int t_isolators, .int t_effects, .int t_sounds, .int t_pre, .int t_alarm, .int t_confirm, .int t_pace, .int t_phaseTicks])), (a_t_kind, .inl (cI, 12, .inl t_kind)), (a_t_zoneOf, .inl (cI, 12, .inl t_zoneOf))] H → va_D A [(a_t, .inr (1, [.ref a_t_kind, .ref a_t_zoneOf, .ref a_t_effectKind, .ref a_t_effectZones, .ref a_t_delay, .int t_devices, .int t_isolators, .int t_effects, .int t_sounds, .int t_pre, .int t_alarm, .int t_confirm, .int t_pace, .int t_phaseTicks])), (a_t_kind, .inl (cI, 12, .inl t_kind)), (a_t_zoneOf, .inl (cI, 12, .inl t_zoneOf))] → va_S A s.heap H locs → lv_has ls 5 [(0, .ref a_t), (1, .int x0), (2, .int x1), (3, .int x2)] → W p l e rm_X1_addDevice s m args below meth c H locs 0 0 Q (F0 m 32 ls [.int u32]) := by
    intro H locs ls hP hD hS hl
    refine lv_istore (lv' := [(4, .int u32), (0, .ref a_t), (1, .int x0), (2, .int x1), (3, .int x2)]) hx hb dX1_addDevice_32 hl (by decide) rfl (fun ls hl => ?_)
    refine lv_iload hx hb dX1_addDevice_34 (lv_at hl 0 rfl) ?_
    refine lv_if_eq (tgt := 48) hx hb dX1_addDevice_36 (by decide) (fun cc => ?_) (fun cc => ?_)
    · have h := oi_t cc h
      refine lv_iconst (v := 0) hx hb dX1_addDevice_48 (by decide) ?_
      obtain rfl := Option.some.inj h
      exact hQ 49 H locs ls (nz (.inl rfl)) hP hD hS dX1_addDevice_49
    · have h := oi_f cc h
      refine lv_aload_n hx hb dX1_addDevice_39 rfl (lv_at hl 1 rfl) ?_
      refine va_get (D := D) (ci := 1) (v := .int t_devices) (C := RX1) (T := TX1) (N := 14) hx hb hts inX1 hown hK hP 0 rfl rfl 5 (by decide) k_2 (fun _ h9 => h9) rfl dX1_addDevice_40 ?_
      refine lv_bipush (v := 12) hx hb dX1_addDevice_43 (by decide) ?_
      refine lv_icmp_lt (tgt := 50) hx hb dX1_addDevice_45 (by decide) (fun cc => ?_) (fun cc => ?_)
      · have h := oi_t cc h
        refine lv_aload_n hx hb dX1_addDevice_50 rfl (lv_at hl 1 rfl) ?_
        refine va_get (D := D) (ci := 1) (v := .ref a_t_kind) (C := RX1) (T := TX1) (N := 14) hx hb hts inX1 hown hK hP 0 rfl rfl 0 (by decide) k_3 (fun _ h9 => h9) rfl dX1_addDevice_51 ?_
        refine lv_aload_n hx hb dX1_addDevice_54 rfl (lv_at hl 1 rfl) ?_
        refine va_get (D := D) (ci := 1) (v := .int t_devices) (C := RX1) (T := TX1) (N := 14) hx hb hts inX1 hown hK hP 0 rfl rfl 5 (by decide) k_2 (fun _ h9 => h9) rfl dX1_addDevice_55 ?_
        refine lv_iload_n hx hb dX1_addDevice_58 rfl (lv_at hl 2 rfl) ?_
        obtain ⟨gg, h⟩ := og h
        refine va_iast hx hb hK hP hD hS 1 0 rfl rfl gg dX1_addDevice_59 (fun H locs hP hD hS => ?_)
        have hP : va_P D vwCl [(a_t, .inr (1, [.ref a_t_kind, .ref a_t_zoneOf, .ref a_t_effectKind, .ref a_t_effectZones, .ref a_t_delay, .int t_devices, .int t_isolators, .int t_effects, .int t_sounds, .int t_pre, .int t_alarm, .int t_confirm, .int t_pace, .int t_phaseTicks])), (a_t_kind, .inl (cI, 12, .inl (upd t_kind (t_devices).toNatClampNeg x0))), (a_t_zoneOf, .inl (cI, 12, .inl t_zoneOf))] H := hP
        have hD : va_D A [(a_t, .inr (1, [.ref a_t_kind, .ref a_t_zoneOf, .ref a_t_effectKind, .ref a_t_effectZones, .ref a_t_delay, .int t_devices, .int t_isolators, .int t_effects, .int t_sounds, .int t_pre, .int t_alarm, .int t_confirm, .int t_pace, .int t_phaseTicks])), (a_t_kind, .inl (cI, 12, .inl (upd t_kind (t_devices).toNatClampNeg x0))), (a_t_zoneOf, .inl (cI, 12, .inl t_zoneOf))] := hD
        refine lv_aload_n hx hb dX1_addDevice_60 rfl (lv_at hl 1 rfl) ?_
        refine va_get (D := D) (ci := 1) (v := .ref a_t_zoneOf) (C := RX1) (T := TX1) (N := 14) hx hb hts inX1 hown hK hP 0 rfl rfl 1 (by decide) k_4 (fun _ h9 => h9) rfl dX1_addDevice_61 ?_
        refine lv_aload_n hx hb dX1_addDevice_64 rfl (lv_at hl 1 rfl) ?_
        refine va_get (D := D) (ci := 1) (v := .int t_devices) (C := RX1) (T := TX1) (N := 14) hx hb hts inX1 hown hK hP 0 rfl rfl 5 (by decide) k_2 (fun _ h9 => h9) rfl dX1_addDevice_65 ?_
        refine lv_iload_n hx hb dX1_addDevice_68 rfl (lv_at hl 3 rfl) ?_
        obtain ⟨gg, h⟩ := og h
        refine va_iast hx hb hK hP hD hS 2 0 rfl rfl gg dX1_addDevice_69 (fun H locs hP hD hS => ?_)
        have hP : va_P D vwCl [(a_t, .inr (1, [.ref a_t_kind, .ref a_t_zoneOf, .ref a_t_effectKind, .ref a_t_effectZones, .ref a_t_delay, .int t_devices, .int t_isolators, .int t_effects, .int t_sounds, .int t_pre, .int t_alarm, .int t_confirm, .int t_pace, .int t_phaseTicks])), (a_t_kind, .inl (cI, 12, .inl (upd t_kind (t_devices).toNatClampNeg x0))), (a_t_zoneOf, .inl (cI, 12, .inl (upd t_zoneOf (t_devices).toNatClampNeg x1)))] H := hP
        have hD : va_D A [(a_t, .inr (1, [.ref a_t_kind, .ref a_t_zoneOf, .ref a_t_effectKind, .ref a_t_effectZones, .ref a_t_delay, .int t_devices, .int t_isolators, .int t_effects, .int t_sounds, .int t_pre, .int t_alarm, .int t_confirm, .int t_pace, .int t_phaseTicks])), (a_t_kind, .inl (cI, 12, .inl (upd t_kind (t_devices).toNatClampNeg x0))), (a_t_zoneOf, .inl (cI, 12, .inl (upd t_zoneOf (t_devices).toNatClampNeg x1)))] := hD
        refine lv_aload_n hx hb dX1_addDevice_70 rfl (lv_at hl 1 rfl) ?_
        refine lv_dup hx hb dX1_addDevice_71 rfl ?_
        refine va_get (D := D) (ci := 1) (v := .int t_isolators) (C := RX1) (T := TX1) (N := 14) hx hb hts inX1 hown hK hP 0 rfl rfl 6 (by decide) k_5 (fun _ h9 => h9) rfl dX1_addDevice_72 ?_
        refine lv_iload_n hx hb dX1_addDevice_75 rfl (lv_at hl 4 rfl) ?_
        refine lv_aload_n hx hb dX1_addDevice_76 rfl (lv_at hl 1 rfl) ?_
        refine va_get (D := D) (ci := 1) (v := .int t_devices) (C := RX1) (T := TX1) (N := 14) hx hb hts inX1 hown hK hP 0 rfl rfl 5 (by decide) k_2 (fun _ h9 => h9) rfl dX1_addDevice_77 ?_
        refine lv_ishl hx hb dX1_addDevice_80 ?_
        refine lv_ior hx hb dX1_addDevice_81 ?_
        refine va_put (D := D) (ci := 1) (v := .int (t_isolators ||| (x2 <<< (t_devices &&& 31)))) (ty := .int) (C := RX1) (T := TX1) (N := 14) hx hb hts inX1 tyX1 tyX1_ok nmX1 hown hK hP hD hS 0 rfl rfl 6 (by decide) k_5 (fun _ h9 => h9) rfl (by decide +kernel) rfl rfl (Nat.le_of_ble_eq_true rfl) dX1_addDevice_82 (fun H locs hP hD hS => ?_)
        have hP : va_P D vwCl [(a_t, .inr (1, [.ref a_t_kind, .ref a_t_zoneOf, .ref a_t_effectKind, .ref a_t_effectZones, .ref a_t_delay, .int t_devices, .int (t_isolators ||| (x2 <<< (t_devices &&& 31))), .int t_effects, .int t_sounds, .int t_pre, .int t_alarm, .int t_confirm, .int t_pace, .int t_phaseTicks])), (a_t_kind, .inl (cI, 12, .inl (upd t_kind (t_devices).toNatClampNeg x0))), (a_t_zoneOf, .inl (cI, 12, .inl (upd t_zoneOf (t_devices).toNatClampNeg x1)))] H := hP
        have hD : va_D A [(a_t, .inr (1, [.ref a_t_kind, .ref a_t_zoneOf, .ref a_t_effectKind, .ref a_t_effectZones, .ref a_t_delay, .int t_devices, .int (t_isolators ||| (x2 <<< (t_devices &&& 31))), .int t_effects, .int t_sounds, .int t_pre, .int t_alarm, .int t_confirm, .int t_pace, .int t_phaseTicks])), (a_t_kind, .inl (cI, 12, .inl (upd t_kind (t_devices).toNatClampNeg x0))), (a_t_zoneOf, .inl (cI, 12, .inl (upd t_zoneOf (t_devices).toNatClampNeg x1)))] := hD
        refine lv_aload_n hx hb dX1_addDevice_85 rfl (lv_at hl 1 rfl) ?_
        refine lv_dup hx hb dX1_addDevice_86 rfl ?_
        refine va_get (D := D) (ci := 1) (v := .int t_devices) (C := RX1) (T := TX1) (N := 14) hx hb hts inX1 hown hK hP 0 rfl rfl 5 (by decide) k_2 (fun _ h9 => h9) rfl dX1_addDevice_87 ?_
        refine lv_iconst (v := 1) hx hb dX1_addDevice_90 (by decide) ?_
        refine lv_iadd hx hb dX1_addDevice_91 ?_
        refine va_put (D := D) (ci := 1) (v := .int (t_devices + 1)) (ty := .int) (C := RX1) (T := TX1) (N := 14) hx hb hts inX1 tyX1 tyX1_ok nmX1 hown hK hP hD hS 0 rfl rfl 5 (by decide) k_2 (fun _ h9 => h9) rfl (by decide +kernel) rfl rfl (Nat.le_of_ble_eq_true rfl) dX1_addDevice_92 (fun H locs hP hD hS => ?_)
        have hP : va_P D vwCl [(a_t, .inr (1, [.ref a_t_kind, .ref a_t_zoneOf, .ref a_t_effectKind, .ref a_t_effectZones, .ref a_t_delay, .int (t_devices + 1), .int (t_isolators ||| (x2 <<< (t_devices &&& 31))), .int t_effects, .int t_sounds, .int t_pre, .int t_alarm, .int t_confirm, .int t_pace, .int t_phaseTicks])), (a_t_kind, .inl (cI, 12, .inl (upd t_kind (t_devices).toNatClampNeg x0))), (a_t_zoneOf, .inl (cI, 12, .inl (upd t_zoneOf (t_devices).toNatClampNeg x1)))] H := hP
        have hD : va_D A [(a_t, .inr (1, [.ref a_t_kind, .ref a_t_zoneOf, .ref a_t_effectKind, .ref a_t_effectZones, .ref a_t_delay, .int (t_devices + 1), .int (t_isolators ||| (x2 <<< (t_devices &&& 31))), .int t_effects, .int t_sounds, .int t_pre, .int t_alarm, .int t_confirm, .int t_pace, .int t_phaseTicks])), (a_t_kind, .inl (cI, 12, .inl (upd t_kind (t_devices).toNatClampNeg x0))), (a_t_zoneOf, .inl (cI, 12, .inl (upd t_zoneOf (t_devices).toNatClampNeg x1)))] := hD
        refine lv_iconst (v := 1) hx hb dX1_addDevice_95 (by decide) ?_
        obtain rfl := Option.some.inj h
        exact hQ 96 H locs ls (nz (.inr rfl)) hP hD hS dX1_addDevice_96
      · have h := oi_f cc h
        refine lv_iconst (v := 0) hx hb dX1_addDevice_48 (by decide) ?_
        obtain rfl := Option.some.inj h
        exact hQ 49 H locs ls (nz (.inl rfl)) hP hD hS dX1_addDevice_49
  have h := hj32
  refine lv_if_eq (tgt := 31) hx hb dX1_addDevice_6 (by decide) (fun cc => ?_) (fun cc => ?_)
  · have h := oi_t cc h
    refine lv_iconst (v := 0) hx hb dX1_addDevice_31 (by decide) ?_
    obtain rfl := Option.some.inj h
    exact jn32 H locs ls hP hD hS (lv_sub hl [0, 1, 2, 3] rfl)
  · have h := oi_f cc h
    refine lv_iload_n hx hb dX1_addDevice_9 rfl (lv_at hl 2 rfl) ?_
    refine lv_iconst (v := 0) hx hb dX1_addDevice_10 (by decide) ?_
    refine lv_iconst (v := 5) hx hb dX1_addDevice_11 (by decide) ?_
    obtain ⟨u12, hu12, h⟩ := ob h
    refine gN_i (wc := []) (wr := [(a_t, .inr (1, [.ref a_t_kind, .ref a_t_zoneOf, .ref a_t_effectKind, .ref a_t_effectZones, .ref a_t_delay, .int t_devices, .int t_isolators, .int t_effects, .int t_sounds, .int t_pre, .int t_alarm, .int t_confirm, .int t_pace, .int t_phaseTicks])), (a_t_kind, .inl (cI, 12, .inl t_kind)), (a_t_zoneOf, .inl (cI, 12, .inl t_zoneOf))]) (w1 := []) (v := u12) (As := [.int x1, .int 0, .int 5]) (rest := []) ⟨hx, hb, hml, hown, hts⟩ (c_X5_within l D cI cS  H.size x1 0 5 u12 hu12) ⟨va_cnB 3 hts gX1_addDevice_X5_within_n55 rfl rfl rfl hN.1 k_0 cd_X5_within ⟨Nat.le_of_ble_eq_true rfl, Nat.le_of_ble_eq_true rfl⟩, k_1, trivial⟩ hK hN hP hD hS hA [] [0, 1, 2] rfl rfl (by decide) (by decide) (by decide) rfl hl.1 rfl (Nat.le_of_ble_eq_true rfl) dX1_addDevice_12 ⟨Nat.zero_le _, Nat.zero_le _⟩ (fun H locs hP hD hS => ?_)
    have hP : va_P D vwCl [(a_t, .inr (1, [.ref a_t_kind, .ref a_t_zoneOf, .ref a_t_effectKind, .ref a_t_effectZones, .ref a_t_delay, .int t_devices, .int t_isolators, .int t_effects, .int t_sounds, .int t_pre, .int t_alarm, .int t_confirm, .int t_pace, .int t_phaseTicks])), (a_t_kind, .inl (cI, 12, .inl t_kind)), (a_t_zoneOf, .inl (cI, 12, .inl t_zoneOf))] H := hP
    have hD : va_D A [(a_t, .inr (1, [.ref a_t_kind, .ref a_t_zoneOf, .ref a_t_effectKind, .ref a_t_effectZones, .ref a_t_delay, .int t_devices, .int t_isolators, .int t_effects, .int t_sounds, .int t_pre, .int t_alarm, .int t_confirm, .int t_pace, .int t_phaseTicks])), (a_t_kind, .inl (cI, 12, .inl t_kind)), (a_t_zoneOf, .inl (cI, 12, .inl t_zoneOf))] := hD
    refine lv_if_eq (tgt := 31) hx hb dX1_addDevice_15 (by decide) (fun cc => ?_) (fun cc => ?_)
    · have h := oi_t cc h
      refine lv_iconst (v := 0) hx hb dX1_addDevice_31 (by decide) ?_
      obtain rfl := Option.some.inj h
      exact jn32 H locs ls hP hD hS (lv_sub hl [0, 1, 2, 3] rfl)
    · have h := oi_f cc h
      refine lv_iload_n hx hb dX1_addDevice_18 rfl (lv_at hl 3 rfl) ?_
      refine lv_iconst (v := 0) hx hb dX1_addDevice_19 (by decide) ?_
      refine lv_iconst (v := 1) hx hb dX1_addDevice_20 (by decide) ?_
      obtain ⟨u21, hu21, h⟩ := ob h
      refine gN_i (wc := []) (wr := [(a_t, .inr (1, [.ref a_t_kind, .ref a_t_zoneOf, .ref a_t_effectKind, .ref a_t_effectZones, .ref a_t_delay, .int t_devices, .int t_isolators, .int t_effects, .int t_sounds, .int t_pre, .int t_alarm, .int t_confirm, .int t_pace, .int t_phaseTicks])), (a_t_kind, .inl (cI, 12, .inl t_kind)), (a_t_zoneOf, .inl (cI, 12, .inl t_zoneOf))]) (w1 := []) (v := u21) (As := [.int x2, .int 0, .int 1]) (rest := []) ⟨hx, hb, hml, hown, hts⟩ (c_X5_within l D cI cS  H.size x2 0 1 u21 hu21) ⟨va_cnB 3 hts gX1_addDevice_X5_within_n55 rfl rfl rfl hN.1 k_0 cd_X5_within ⟨Nat.le_of_ble_eq_true rfl, Nat.le_of_ble_eq_true rfl⟩, k_1, trivial⟩ hK hN hP hD hS hA [] [0, 1, 2] rfl rfl (by decide) (by decide) (by decide) rfl hl.1 rfl (Nat.le_of_ble_eq_true rfl) dX1_addDevice_21 ⟨Nat.zero_le _, Nat.zero_le _⟩ (fun H locs hP hD hS => ?_)
      have hP : va_P D vwCl [(a_t, .inr (1, [.ref a_t_kind, .ref a_t_zoneOf, .ref a_t_effectKind, .ref a_t_effectZones, .ref a_t_delay, .int t_devices, .int t_isolators, .int t_effects, .int t_sounds, .int t_pre, .int t_alarm, .int t_confirm, .int t_pace, .int t_phaseTicks])), (a_t_kind, .inl (cI, 12, .inl t_kind)), (a_t_zoneOf, .inl (cI, 12, .inl t_zoneOf))] H := hP
      have hD : va_D A [(a_t, .inr (1, [.ref a_t_kind, .ref a_t_zoneOf, .ref a_t_effectKind, .ref a_t_effectZones, .ref a_t_delay, .int t_devices, .int t_isolators, .int t_effects, .int t_sounds, .int t_pre, .int t_alarm, .int t_confirm, .int t_pace, .int t_phaseTicks])), (a_t_kind, .inl (cI, 12, .inl t_kind)), (a_t_zoneOf, .inl (cI, 12, .inl t_zoneOf))] := hD
      refine lv_if_eq (tgt := 31) hx hb dX1_addDevice_24 (by decide) (fun cc => ?_) (fun cc => ?_)
      · have h := oi_t cc h
        refine lv_iconst (v := 0) hx hb dX1_addDevice_31 (by decide) ?_
        obtain rfl := Option.some.inj h
        exact jn32 H locs ls hP hD hS (lv_sub hl [0, 1, 2, 3] rfl)
      · have h := oi_f cc h
        refine lv_iconst (v := 1) hx hb dX1_addDevice_27 (by decide) ?_
        refine lv_goto (tgt := 32) hx hb dX1_addDevice_28 (by decide) ?_
        obtain rfl := Option.some.inj h
        exact jn32 H locs ls hP hD hS (lv_sub hl [0, 1, 2, 3] rfl)

def f_X1_addEffect (t_effects : Int32) (t_sounds : Int32) (t_effectKind : FN) (t_effectZones : FN) (t_delay : FN) (x0 : Int32) (x1 : Int32) (x2 : Int32) (x3 : Int32) : Option (Int32 × Int32 × Int32 × FN × FN × FN) := ((f_X5_within x0 0 2).bind (fun u3 => (((if u3 = 0 then some (0) else ((f_X5_within x1 1 63).bind (fun u13 => (if u13 = 0 then some (0) else ((f_X5_within x2 0 9).bind (fun u23 => (if u23 = 0 then some (0) else ((f_X5_within x3 0 1).bind (fun u33 => (if u33 = 0 then some (0) else some (1)))))))))))).bind (fun (u44 : Int32) => (if u44 = 0 then some (0, t_effects, t_sounds, t_effectKind, t_effectZones, t_delay) else (if t_effects < 6 then (if gi t_effects 6 then (if gi t_effects 6 then (if gi t_effects 6 then some (1, (t_effects + 1), (t_sounds ||| (x3 <<< (t_effects &&& 31))), (upd t_effectKind (t_effects).toNatClampNeg x0), (upd t_effectZones (t_effects).toNatClampNeg x1), (upd t_delay (t_effects).toNatClampNeg x2)) else none) else none) else none) else some (0, t_effects, t_sounds, t_effectKind, t_effectZones, t_delay)))))))
abbrev rm_X1_addEffect : Room := { frames := 1, cells := 0, slots := 0, locals := 22 }
theorem cd_X1_addEffect : (yX1_addEffect).cls = RX1 ∧ (yX1_addEffect).cls ≠ "java/lang/invoke/MethodHandle" ∧ (yX1_addEffect).cls ≠ "java/lang/invoke/VarHandle" ∧ (parseMethodDescriptor (yX1_addEffect).desc).map (fun d => d.parameters.length) = some 4 := by decide +kernel
set_option maxHeartbeats 4000000 in
set_option maxRecDepth 100000 in
theorem c_X1_addEffect (l : Launch) (D : va_G) (cI cS : ClassId) (a_t a_t_effectKind a_t_effectZones a_t_delay a_t_kind a_t_zoneOf : Nat) (sz : Nat) (t_devices : Int32) (t_isolators : Int32) (t_effects : Int32) (t_sounds : Int32) (t_pre : Int32) (t_alarm : Int32) (t_confirm : Int32) (t_pace : Int32) (t_phaseTicks : Int32) (t_effectKind : FN) (t_effectZones : FN) (t_delay : FN) (x0 : Int32) (x1 : Int32) (x2 : Int32) (x3 : Int32) (out : Int32 × Int32 × Int32 × FN × FN × FN) (h : f_X1_addEffect t_effects t_sounds t_effectKind t_effectZones t_delay x0 x1 x2 x3 = some out) : Met l yX1_addEffect wsX1_addEffect rm_X1_addEffect (va_Pc [.ref a_t, .int x0, .int x1, .int x2, .int x3] (GP D cI cS [(a_t, .inr (1, [.ref a_t_kind, .ref a_t_zoneOf, .ref a_t_effectKind, .ref a_t_effectZones, .ref a_t_delay, .int t_devices, .int t_isolators, .int t_effects, .int t_sounds, .int t_pre, .int t_alarm, .int t_confirm, .int t_pace, .int t_phaseTicks])), (a_t_effectKind, .inl (cI, 6, .inl t_effectKind)), (a_t_effectZones, .inl (cI, 6, .inl t_effectZones)), (a_t_delay, .inl (cI, 6, .inl t_delay))] sz)) (QI D [(a_t, .inr (1, [.ref a_t_kind, .ref a_t_zoneOf, .ref a_t_effectKind, .ref a_t_effectZones, .ref a_t_delay, .int t_devices, .int t_isolators, .int t_effects, .int t_sounds, .int t_pre, .int t_alarm, .int t_confirm, .int t_pace, .int t_phaseTicks])), (a_t_effectKind, .inl (cI, 6, .inl t_effectKind)), (a_t_effectZones, .inl (cI, 6, .inl t_effectZones)), (a_t_delay, .inl (cI, 6, .inl t_delay))] sz [(a_t, .inr (1, [.ref a_t_kind, .ref a_t_zoneOf, .ref a_t_effectKind, .ref a_t_effectZones, .ref a_t_delay, .int t_devices, .int t_isolators, .int out.2.1, .int out.2.2.1, .int t_pre, .int t_alarm, .int t_confirm, .int t_pace, .int t_phaseTicks])), (a_t_effectKind, .inl (cI, 6, .inl out.2.2.2.1)), (a_t_effectZones, .inl (cI, 6, .inl out.2.2.2.2.1)), (a_t_delay, .inl (cI, 6, .inl out.2.2.2.2.2))] out.1) 0 0 (va_A [(a_t, .inr (1, [.ref a_t_kind, .ref a_t_zoneOf, .ref a_t_effectKind, .ref a_t_effectZones, .ref a_t_delay, .int t_devices, .int t_isolators, .int t_effects, .int t_sounds, .int t_pre, .int t_alarm, .int t_confirm, .int t_pace, .int t_phaseTicks])), (a_t_effectKind, .inl (cI, 6, .inl t_effectKind)), (a_t_effectZones, .inl (cI, 6, .inl t_effectZones)), (a_t_delay, .inl (cI, 6, .inl t_delay))] sz) := by
  refine gm_i (cc := cX1_addEffect) (maxL := 6) (rt := .boolean) (by decide) rfl (Nat.le_of_ble_eq_true rfl) ?_
  intro p e s m args below meth c A Q H locs ls hx hb hml hown hts hK hN hA hP hD hS hl hQ
  have hown : s.vm.findClass RX1 = some m.cls := hown
  have hl : lv_has ls 6 [(0, .ref a_t), (1, .int x0), (2, .int x1), (3, .int x2), (4, .int x3)] := hl
  have inX1 : ∀ w ∈ wsX10, w ∈ wsX1_addEffect := by decide +kernel
  have k_0 := hts (.initialized RX5) (by decide +kernel)
  have k_1 := hts (.static yX5_within) (by decide +kernel)
  have k_2 := hts (.fieldLink RX1 34 "AlarmRing$Plan" "effects" "I") (by decide +kernel)
  have k_3 := hts (.fieldLink RX1 18 "AlarmRing$Plan" "effectKind" "[I") (by decide +kernel)
  have k_4 := hts (.fieldLink RX1 21 "AlarmRing$Plan" "effectZones" "[I") (by decide +kernel)
  have k_5 := hts (.fieldLink RX1 24 "AlarmRing$Plan" "delay" "[I") (by decide +kernel)
  have k_6 := hts (.fieldLink RX1 37 "AlarmRing$Plan" "sounds" "I") (by decide +kernel)
  unfold f_X1_addEffect at h
  refine lv_iload_n hx hb dX1_addEffect_0 rfl (lv_at hl 1 rfl) ?_
  refine lv_iconst (v := 0) hx hb dX1_addEffect_1 (by decide) ?_
  refine lv_iconst (v := 2) hx hb dX1_addEffect_2 (by decide) ?_
  obtain ⟨u3, hu3, h⟩ := ob h
  refine gN_i (wc := []) (wr := [(a_t, .inr (1, [.ref a_t_kind, .ref a_t_zoneOf, .ref a_t_effectKind, .ref a_t_effectZones, .ref a_t_delay, .int t_devices, .int t_isolators, .int t_effects, .int t_sounds, .int t_pre, .int t_alarm, .int t_confirm, .int t_pace, .int t_phaseTicks])), (a_t_effectKind, .inl (cI, 6, .inl t_effectKind)), (a_t_effectZones, .inl (cI, 6, .inl t_effectZones)), (a_t_delay, .inl (cI, 6, .inl t_delay))]) (w1 := []) (v := u3) (As := [.int x0, .int 0, .int 2]) (rest := []) ⟨hx, hb, hml, hown, hts⟩ (c_X5_within l D cI cS  H.size x0 0 2 u3 hu3) ⟨va_cnB 3 hts gX1_addEffect_X5_within_n55 rfl rfl rfl hN.1 k_0 cd_X5_within ⟨Nat.le_of_ble_eq_true rfl, Nat.le_of_ble_eq_true rfl⟩, k_1, trivial⟩ hK hN hP hD hS hA [] [0, 1, 2, 3] rfl rfl (by decide) (by decide) (by decide) rfl hl.1 rfl (Nat.le_of_ble_eq_true rfl) dX1_addEffect_3 ⟨Nat.zero_le _, Nat.zero_le _⟩ (fun H locs hP hD hS => ?_)
  have hP : va_P D vwCl [(a_t, .inr (1, [.ref a_t_kind, .ref a_t_zoneOf, .ref a_t_effectKind, .ref a_t_effectZones, .ref a_t_delay, .int t_devices, .int t_isolators, .int t_effects, .int t_sounds, .int t_pre, .int t_alarm, .int t_confirm, .int t_pace, .int t_phaseTicks])), (a_t_effectKind, .inl (cI, 6, .inl t_effectKind)), (a_t_effectZones, .inl (cI, 6, .inl t_effectZones)), (a_t_delay, .inl (cI, 6, .inl t_delay))] H := hP
  have hD : va_D A [(a_t, .inr (1, [.ref a_t_kind, .ref a_t_zoneOf, .ref a_t_effectKind, .ref a_t_effectZones, .ref a_t_delay, .int t_devices, .int t_isolators, .int t_effects, .int t_sounds, .int t_pre, .int t_alarm, .int t_confirm, .int t_pace, .int t_phaseTicks])), (a_t_effectKind, .inl (cI, 6, .inl t_effectKind)), (a_t_effectZones, .inl (cI, 6, .inl t_effectZones)), (a_t_delay, .inl (cI, 6, .inl t_delay))] := hD
  obtain ⟨u44, hj44, h⟩ := ob h
  have jn44 : ∀ (H : Heap) (locs : List Loc) (ls : Array Slot), va_P D vwCl [(a_t, .inr (1, [.ref a_t_kind, .ref a_t_zoneOf, .ref a_t_effectKind, .ref a_t_effectZones, .ref a_t_delay, .int t_devices, .int t_isolators, .int t_effects, .int t_sounds, .int t_pre, .int t_alarm, .int t_confirm, .int t_pace, .int t_phaseTicks])), (a_t_effectKind, .inl (cI, 6, .inl t_effectKind)), (a_t_effectZones, .inl (cI, 6, .inl t_effectZones)), (a_t_delay, .inl (cI, 6, .inl t_delay))] H → va_D A [(a_t, .inr (1, [.ref a_t_kind, .ref a_t_zoneOf, .ref a_t_effectKind, .ref a_t_effectZones, .ref a_t_delay, .int t_devices, .int t_isolators, .int t_effects, .int t_sounds, .int t_pre, .int t_alarm, .int t_confirm, .int t_pace, .int t_phaseTicks])), (a_t_effectKind, .inl (cI, 6, .inl t_effectKind)), (a_t_effectZones, .inl (cI, 6, .inl t_effectZones)), (a_t_delay, .inl (cI, 6, .inl t_delay))] → va_S A s.heap H locs → lv_has ls 6 [(0, .ref a_t), (1, .int x0), (2, .int x1), (3, .int x2), (4, .int x3)] → W p l e rm_X1_addEffect s m args below meth c H locs 0 0 Q (F0 m 44 ls [.int u44]) := by
    intro H locs ls hP hD hS hl
    refine lv_istore (lv' := [(5, .int u44), (0, .ref a_t), (1, .int x0), (2, .int x1), (3, .int x2), (4, .int x3)]) hx hb dX1_addEffect_44 hl (by decide) rfl (fun ls hl => ?_)
    refine lv_iload hx hb dX1_addEffect_46 (lv_at hl 0 rfl) ?_
    refine lv_if_eq (tgt := 60) hx hb dX1_addEffect_48 (by decide) (fun cc => ?_) (fun cc => ?_)
    · have h := oi_t cc h
      refine lv_iconst (v := 0) hx hb dX1_addEffect_60 (by decide) ?_
      obtain rfl := Option.some.inj h
      exact hQ 61 H locs ls (nz (.inl rfl)) hP hD hS dX1_addEffect_61
    · have h := oi_f cc h
      refine lv_aload_n hx hb dX1_addEffect_51 rfl (lv_at hl 1 rfl) ?_
      refine va_get (D := D) (ci := 1) (v := .int t_effects) (C := RX1) (T := TX1) (N := 14) hx hb hts inX1 hown hK hP 0 rfl rfl 7 (by decide) k_2 (fun _ h9 => h9) rfl dX1_addEffect_52 ?_
      refine lv_bipush (v := 6) hx hb dX1_addEffect_55 (by decide) ?_
      refine lv_icmp_lt (tgt := 62) hx hb dX1_addEffect_57 (by decide) (fun cc => ?_) (fun cc => ?_)
      · have h := oi_t cc h
        refine lv_aload_n hx hb dX1_addEffect_62 rfl (lv_at hl 1 rfl) ?_
        refine va_get (D := D) (ci := 1) (v := .ref a_t_effectKind) (C := RX1) (T := TX1) (N := 14) hx hb hts inX1 hown hK hP 0 rfl rfl 2 (by decide) k_3 (fun _ h9 => h9) rfl dX1_addEffect_63 ?_
        refine lv_aload_n hx hb dX1_addEffect_66 rfl (lv_at hl 1 rfl) ?_
        refine va_get (D := D) (ci := 1) (v := .int t_effects) (C := RX1) (T := TX1) (N := 14) hx hb hts inX1 hown hK hP 0 rfl rfl 7 (by decide) k_2 (fun _ h9 => h9) rfl dX1_addEffect_67 ?_
        refine lv_iload_n hx hb dX1_addEffect_70 rfl (lv_at hl 2 rfl) ?_
        obtain ⟨gg, h⟩ := og h
        refine va_iast hx hb hK hP hD hS 1 0 rfl rfl gg dX1_addEffect_71 (fun H locs hP hD hS => ?_)
        have hP : va_P D vwCl [(a_t, .inr (1, [.ref a_t_kind, .ref a_t_zoneOf, .ref a_t_effectKind, .ref a_t_effectZones, .ref a_t_delay, .int t_devices, .int t_isolators, .int t_effects, .int t_sounds, .int t_pre, .int t_alarm, .int t_confirm, .int t_pace, .int t_phaseTicks])), (a_t_effectKind, .inl (cI, 6, .inl (upd t_effectKind (t_effects).toNatClampNeg x0))), (a_t_effectZones, .inl (cI, 6, .inl t_effectZones)), (a_t_delay, .inl (cI, 6, .inl t_delay))] H := hP
        have hD : va_D A [(a_t, .inr (1, [.ref a_t_kind, .ref a_t_zoneOf, .ref a_t_effectKind, .ref a_t_effectZones, .ref a_t_delay, .int t_devices, .int t_isolators, .int t_effects, .int t_sounds, .int t_pre, .int t_alarm, .int t_confirm, .int t_pace, .int t_phaseTicks])), (a_t_effectKind, .inl (cI, 6, .inl (upd t_effectKind (t_effects).toNatClampNeg x0))), (a_t_effectZones, .inl (cI, 6, .inl t_effectZones)), (a_t_delay, .inl (cI, 6, .inl t_delay))] := hD
        refine lv_aload_n hx hb dX1_addEffect_72 rfl (lv_at hl 1 rfl) ?_
        refine va_get (D := D) (ci := 1) (v := .ref a_t_effectZones) (C := RX1) (T := TX1) (N := 14) hx hb hts inX1 hown hK hP 0 rfl rfl 3 (by decide) k_4 (fun _ h9 => h9) rfl dX1_addEffect_73 ?_
        refine lv_aload_n hx hb dX1_addEffect_76 rfl (lv_at hl 1 rfl) ?_
        refine va_get (D := D) (ci := 1) (v := .int t_effects) (C := RX1) (T := TX1) (N := 14) hx hb hts inX1 hown hK hP 0 rfl rfl 7 (by decide) k_2 (fun _ h9 => h9) rfl dX1_addEffect_77 ?_
        refine lv_iload_n hx hb dX1_addEffect_80 rfl (lv_at hl 3 rfl) ?_
        obtain ⟨gg, h⟩ := og h
        refine va_iast hx hb hK hP hD hS 2 0 rfl rfl gg dX1_addEffect_81 (fun H locs hP hD hS => ?_)
        have hP : va_P D vwCl [(a_t, .inr (1, [.ref a_t_kind, .ref a_t_zoneOf, .ref a_t_effectKind, .ref a_t_effectZones, .ref a_t_delay, .int t_devices, .int t_isolators, .int t_effects, .int t_sounds, .int t_pre, .int t_alarm, .int t_confirm, .int t_pace, .int t_phaseTicks])), (a_t_effectKind, .inl (cI, 6, .inl (upd t_effectKind (t_effects).toNatClampNeg x0))), (a_t_effectZones, .inl (cI, 6, .inl (upd t_effectZones (t_effects).toNatClampNeg x1))), (a_t_delay, .inl (cI, 6, .inl t_delay))] H := hP
        have hD : va_D A [(a_t, .inr (1, [.ref a_t_kind, .ref a_t_zoneOf, .ref a_t_effectKind, .ref a_t_effectZones, .ref a_t_delay, .int t_devices, .int t_isolators, .int t_effects, .int t_sounds, .int t_pre, .int t_alarm, .int t_confirm, .int t_pace, .int t_phaseTicks])), (a_t_effectKind, .inl (cI, 6, .inl (upd t_effectKind (t_effects).toNatClampNeg x0))), (a_t_effectZones, .inl (cI, 6, .inl (upd t_effectZones (t_effects).toNatClampNeg x1))), (a_t_delay, .inl (cI, 6, .inl t_delay))] := hD
        refine lv_aload_n hx hb dX1_addEffect_82 rfl (lv_at hl 1 rfl) ?_
        refine va_get (D := D) (ci := 1) (v := .ref a_t_delay) (C := RX1) (T := TX1) (N := 14) hx hb hts inX1 hown hK hP 0 rfl rfl 4 (by decide) k_5 (fun _ h9 => h9) rfl dX1_addEffect_83 ?_
        refine lv_aload_n hx hb dX1_addEffect_86 rfl (lv_at hl 1 rfl) ?_
        refine va_get (D := D) (ci := 1) (v := .int t_effects) (C := RX1) (T := TX1) (N := 14) hx hb hts inX1 hown hK hP 0 rfl rfl 7 (by decide) k_2 (fun _ h9 => h9) rfl dX1_addEffect_87 ?_
        refine lv_iload_n hx hb dX1_addEffect_90 rfl (lv_at hl 4 rfl) ?_
        obtain ⟨gg, h⟩ := og h
        refine va_iast hx hb hK hP hD hS 3 0 rfl rfl gg dX1_addEffect_91 (fun H locs hP hD hS => ?_)
        have hP : va_P D vwCl [(a_t, .inr (1, [.ref a_t_kind, .ref a_t_zoneOf, .ref a_t_effectKind, .ref a_t_effectZones, .ref a_t_delay, .int t_devices, .int t_isolators, .int t_effects, .int t_sounds, .int t_pre, .int t_alarm, .int t_confirm, .int t_pace, .int t_phaseTicks])), (a_t_effectKind, .inl (cI, 6, .inl (upd t_effectKind (t_effects).toNatClampNeg x0))), (a_t_effectZones, .inl (cI, 6, .inl (upd t_effectZones (t_effects).toNatClampNeg x1))), (a_t_delay, .inl (cI, 6, .inl (upd t_delay (t_effects).toNatClampNeg x2)))] H := hP
        have hD : va_D A [(a_t, .inr (1, [.ref a_t_kind, .ref a_t_zoneOf, .ref a_t_effectKind, .ref a_t_effectZones, .ref a_t_delay, .int t_devices, .int t_isolators, .int t_effects, .int t_sounds, .int t_pre, .int t_alarm, .int t_confirm, .int t_pace, .int t_phaseTicks])), (a_t_effectKind, .inl (cI, 6, .inl (upd t_effectKind (t_effects).toNatClampNeg x0))), (a_t_effectZones, .inl (cI, 6, .inl (upd t_effectZones (t_effects).toNatClampNeg x1))), (a_t_delay, .inl (cI, 6, .inl (upd t_delay (t_effects).toNatClampNeg x2)))] := hD
        refine lv_aload_n hx hb dX1_addEffect_92 rfl (lv_at hl 1 rfl) ?_
        refine lv_dup hx hb dX1_addEffect_93 rfl ?_
        refine va_get (D := D) (ci := 1) (v := .int t_sounds) (C := RX1) (T := TX1) (N := 14) hx hb hts inX1 hown hK hP 0 rfl rfl 8 (by decide) k_6 (fun _ h9 => h9) rfl dX1_addEffect_94 ?_
        refine lv_iload hx hb dX1_addEffect_97 (lv_at hl 5 rfl) ?_
        refine lv_aload_n hx hb dX1_addEffect_99 rfl (lv_at hl 1 rfl) ?_
        refine va_get (D := D) (ci := 1) (v := .int t_effects) (C := RX1) (T := TX1) (N := 14) hx hb hts inX1 hown hK hP 0 rfl rfl 7 (by decide) k_2 (fun _ h9 => h9) rfl dX1_addEffect_100 ?_
        refine lv_ishl hx hb dX1_addEffect_103 ?_
        refine lv_ior hx hb dX1_addEffect_104 ?_
        refine va_put (D := D) (ci := 1) (v := .int (t_sounds ||| (x3 <<< (t_effects &&& 31)))) (ty := .int) (C := RX1) (T := TX1) (N := 14) hx hb hts inX1 tyX1 tyX1_ok nmX1 hown hK hP hD hS 0 rfl rfl 8 (by decide) k_6 (fun _ h9 => h9) rfl (by decide +kernel) rfl rfl (Nat.le_of_ble_eq_true rfl) dX1_addEffect_105 (fun H locs hP hD hS => ?_)
        have hP : va_P D vwCl [(a_t, .inr (1, [.ref a_t_kind, .ref a_t_zoneOf, .ref a_t_effectKind, .ref a_t_effectZones, .ref a_t_delay, .int t_devices, .int t_isolators, .int t_effects, .int (t_sounds ||| (x3 <<< (t_effects &&& 31))), .int t_pre, .int t_alarm, .int t_confirm, .int t_pace, .int t_phaseTicks])), (a_t_effectKind, .inl (cI, 6, .inl (upd t_effectKind (t_effects).toNatClampNeg x0))), (a_t_effectZones, .inl (cI, 6, .inl (upd t_effectZones (t_effects).toNatClampNeg x1))), (a_t_delay, .inl (cI, 6, .inl (upd t_delay (t_effects).toNatClampNeg x2)))] H := hP
        have hD : va_D A [(a_t, .inr (1, [.ref a_t_kind, .ref a_t_zoneOf, .ref a_t_effectKind, .ref a_t_effectZones, .ref a_t_delay, .int t_devices, .int t_isolators, .int t_effects, .int (t_sounds ||| (x3 <<< (t_effects &&& 31))), .int t_pre, .int t_alarm, .int t_confirm, .int t_pace, .int t_phaseTicks])), (a_t_effectKind, .inl (cI, 6, .inl (upd t_effectKind (t_effects).toNatClampNeg x0))), (a_t_effectZones, .inl (cI, 6, .inl (upd t_effectZones (t_effects).toNatClampNeg x1))), (a_t_delay, .inl (cI, 6, .inl (upd t_delay (t_effects).toNatClampNeg x2)))] := hD
        refine lv_aload_n hx hb dX1_addEffect_108 rfl (lv_at hl 1 rfl) ?_
        refine lv_dup hx hb dX1_addEffect_109 rfl ?_
        refine va_get (D := D) (ci := 1) (v := .int t_effects) (C := RX1) (T := TX1) (N := 14) hx hb hts inX1 hown hK hP 0 rfl rfl 7 (by decide) k_2 (fun _ h9 => h9) rfl dX1_addEffect_110 ?_
        refine lv_iconst (v := 1) hx hb dX1_addEffect_113 (by decide) ?_
        refine lv_iadd hx hb dX1_addEffect_114 ?_
        refine va_put (D := D) (ci := 1) (v := .int (t_effects + 1)) (ty := .int) (C := RX1) (T := TX1) (N := 14) hx hb hts inX1 tyX1 tyX1_ok nmX1 hown hK hP hD hS 0 rfl rfl 7 (by decide) k_2 (fun _ h9 => h9) rfl (by decide +kernel) rfl rfl (Nat.le_of_ble_eq_true rfl) dX1_addEffect_115 (fun H locs hP hD hS => ?_)
        have hP : va_P D vwCl [(a_t, .inr (1, [.ref a_t_kind, .ref a_t_zoneOf, .ref a_t_effectKind, .ref a_t_effectZones, .ref a_t_delay, .int t_devices, .int t_isolators, .int (t_effects + 1), .int (t_sounds ||| (x3 <<< (t_effects &&& 31))), .int t_pre, .int t_alarm, .int t_confirm, .int t_pace, .int t_phaseTicks])), (a_t_effectKind, .inl (cI, 6, .inl (upd t_effectKind (t_effects).toNatClampNeg x0))), (a_t_effectZones, .inl (cI, 6, .inl (upd t_effectZones (t_effects).toNatClampNeg x1))), (a_t_delay, .inl (cI, 6, .inl (upd t_delay (t_effects).toNatClampNeg x2)))] H := hP
        have hD : va_D A [(a_t, .inr (1, [.ref a_t_kind, .ref a_t_zoneOf, .ref a_t_effectKind, .ref a_t_effectZones, .ref a_t_delay, .int t_devices, .int t_isolators, .int (t_effects + 1), .int (t_sounds ||| (x3 <<< (t_effects &&& 31))), .int t_pre, .int t_alarm, .int t_confirm, .int t_pace, .int t_phaseTicks])), (a_t_effectKind, .inl (cI, 6, .inl (upd t_effectKind (t_effects).toNatClampNeg x0))), (a_t_effectZones, .inl (cI, 6, .inl (upd t_effectZones (t_effects).toNatClampNeg x1))), (a_t_delay, .inl (cI, 6, .inl (upd t_delay (t_effects).toNatClampNeg x2)))] := hD
        refine lv_iconst (v := 1) hx hb dX1_addEffect_118 (by decide) ?_
        obtain rfl := Option.some.inj h
        exact hQ 119 H locs ls (nz (.inr rfl)) hP hD hS dX1_addEffect_119
      · have h := oi_f cc h
        refine lv_iconst (v := 0) hx hb dX1_addEffect_60 (by decide) ?_
        obtain rfl := Option.some.inj h
        exact hQ 61 H locs ls (nz (.inl rfl)) hP hD hS dX1_addEffect_61
  have h := hj44
  refine lv_if_eq (tgt := 43) hx hb dX1_addEffect_6 (by decide) (fun cc => ?_) (fun cc => ?_)
  · have h := oi_t cc h
    refine lv_iconst (v := 0) hx hb dX1_addEffect_43 (by decide) ?_
    obtain rfl := Option.some.inj h
    exact jn44 H locs ls hP hD hS (lv_sub hl [0, 1, 2, 3, 4] rfl)
  · have h := oi_f cc h
    refine lv_iload_n hx hb dX1_addEffect_9 rfl (lv_at hl 2 rfl) ?_
    refine lv_iconst (v := 1) hx hb dX1_addEffect_10 (by decide) ?_
    refine lv_bipush (v := 63) hx hb dX1_addEffect_11 (by decide) ?_
    obtain ⟨u13, hu13, h⟩ := ob h
    refine gN_i (wc := []) (wr := [(a_t, .inr (1, [.ref a_t_kind, .ref a_t_zoneOf, .ref a_t_effectKind, .ref a_t_effectZones, .ref a_t_delay, .int t_devices, .int t_isolators, .int t_effects, .int t_sounds, .int t_pre, .int t_alarm, .int t_confirm, .int t_pace, .int t_phaseTicks])), (a_t_effectKind, .inl (cI, 6, .inl t_effectKind)), (a_t_effectZones, .inl (cI, 6, .inl t_effectZones)), (a_t_delay, .inl (cI, 6, .inl t_delay))]) (w1 := []) (v := u13) (As := [.int x1, .int 1, .int 63]) (rest := []) ⟨hx, hb, hml, hown, hts⟩ (c_X5_within l D cI cS  H.size x1 1 63 u13 hu13) ⟨va_cnB 3 hts gX1_addEffect_X5_within_n55 rfl rfl rfl hN.1 k_0 cd_X5_within ⟨Nat.le_of_ble_eq_true rfl, Nat.le_of_ble_eq_true rfl⟩, k_1, trivial⟩ hK hN hP hD hS hA [] [0, 1, 2, 3] rfl rfl (by decide) (by decide) (by decide) rfl hl.1 rfl (Nat.le_of_ble_eq_true rfl) dX1_addEffect_13 ⟨Nat.zero_le _, Nat.zero_le _⟩ (fun H locs hP hD hS => ?_)
    have hP : va_P D vwCl [(a_t, .inr (1, [.ref a_t_kind, .ref a_t_zoneOf, .ref a_t_effectKind, .ref a_t_effectZones, .ref a_t_delay, .int t_devices, .int t_isolators, .int t_effects, .int t_sounds, .int t_pre, .int t_alarm, .int t_confirm, .int t_pace, .int t_phaseTicks])), (a_t_effectKind, .inl (cI, 6, .inl t_effectKind)), (a_t_effectZones, .inl (cI, 6, .inl t_effectZones)), (a_t_delay, .inl (cI, 6, .inl t_delay))] H := hP
    have hD : va_D A [(a_t, .inr (1, [.ref a_t_kind, .ref a_t_zoneOf, .ref a_t_effectKind, .ref a_t_effectZones, .ref a_t_delay, .int t_devices, .int t_isolators, .int t_effects, .int t_sounds, .int t_pre, .int t_alarm, .int t_confirm, .int t_pace, .int t_phaseTicks])), (a_t_effectKind, .inl (cI, 6, .inl t_effectKind)), (a_t_effectZones, .inl (cI, 6, .inl t_effectZones)), (a_t_delay, .inl (cI, 6, .inl t_delay))] := hD
    refine lv_if_eq (tgt := 43) hx hb dX1_addEffect_16 (by decide) (fun cc => ?_) (fun cc => ?_)
    · have h := oi_t cc h
      refine lv_iconst (v := 0) hx hb dX1_addEffect_43 (by decide) ?_
      obtain rfl := Option.some.inj h
      exact jn44 H locs ls hP hD hS (lv_sub hl [0, 1, 2, 3, 4] rfl)
    · have h := oi_f cc h
      refine lv_iload_n hx hb dX1_addEffect_19 rfl (lv_at hl 3 rfl) ?_
      refine lv_iconst (v := 0) hx hb dX1_addEffect_20 (by decide) ?_
      refine lv_bipush (v := 9) hx hb dX1_addEffect_21 (by decide) ?_
      obtain ⟨u23, hu23, h⟩ := ob h
      refine gN_i (wc := []) (wr := [(a_t, .inr (1, [.ref a_t_kind, .ref a_t_zoneOf, .ref a_t_effectKind, .ref a_t_effectZones, .ref a_t_delay, .int t_devices, .int t_isolators, .int t_effects, .int t_sounds, .int t_pre, .int t_alarm, .int t_confirm, .int t_pace, .int t_phaseTicks])), (a_t_effectKind, .inl (cI, 6, .inl t_effectKind)), (a_t_effectZones, .inl (cI, 6, .inl t_effectZones)), (a_t_delay, .inl (cI, 6, .inl t_delay))]) (w1 := []) (v := u23) (As := [.int x2, .int 0, .int 9]) (rest := []) ⟨hx, hb, hml, hown, hts⟩ (c_X5_within l D cI cS  H.size x2 0 9 u23 hu23) ⟨va_cnB 3 hts gX1_addEffect_X5_within_n55 rfl rfl rfl hN.1 k_0 cd_X5_within ⟨Nat.le_of_ble_eq_true rfl, Nat.le_of_ble_eq_true rfl⟩, k_1, trivial⟩ hK hN hP hD hS hA [] [0, 1, 2, 3] rfl rfl (by decide) (by decide) (by decide) rfl hl.1 rfl (Nat.le_of_ble_eq_true rfl) dX1_addEffect_23 ⟨Nat.zero_le _, Nat.zero_le _⟩ (fun H locs hP hD hS => ?_)
      have hP : va_P D vwCl [(a_t, .inr (1, [.ref a_t_kind, .ref a_t_zoneOf, .ref a_t_effectKind, .ref a_t_effectZones, .ref a_t_delay, .int t_devices, .int t_isolators, .int t_effects, .int t_sounds, .int t_pre, .int t_alarm, .int t_confirm, .int t_pace, .int t_phaseTicks])), (a_t_effectKind, .inl (cI, 6, .inl t_effectKind)), (a_t_effectZones, .inl (cI, 6, .inl t_effectZones)), (a_t_delay, .inl (cI, 6, .inl t_delay))] H := hP
      have hD : va_D A [(a_t, .inr (1, [.ref a_t_kind, .ref a_t_zoneOf, .ref a_t_effectKind, .ref a_t_effectZones, .ref a_t_delay, .int t_devices, .int t_isolators, .int t_effects, .int t_sounds, .int t_pre, .int t_alarm, .int t_confirm, .int t_pace, .int t_phaseTicks])), (a_t_effectKind, .inl (cI, 6, .inl t_effectKind)), (a_t_effectZones, .inl (cI, 6, .inl t_effectZones)), (a_t_delay, .inl (cI, 6, .inl t_delay))] := hD
      refine lv_if_eq (tgt := 43) hx hb dX1_addEffect_26 (by decide) (fun cc => ?_) (fun cc => ?_)
      · have h := oi_t cc h
        refine lv_iconst (v := 0) hx hb dX1_addEffect_43 (by decide) ?_
        obtain rfl := Option.some.inj h
        exact jn44 H locs ls hP hD hS (lv_sub hl [0, 1, 2, 3, 4] rfl)
      · have h := oi_f cc h
        refine lv_iload hx hb dX1_addEffect_29 (lv_at hl 4 rfl) ?_
        refine lv_iconst (v := 0) hx hb dX1_addEffect_31 (by decide) ?_
        refine lv_iconst (v := 1) hx hb dX1_addEffect_32 (by decide) ?_
        obtain ⟨u33, hu33, h⟩ := ob h
        refine gN_i (wc := []) (wr := [(a_t, .inr (1, [.ref a_t_kind, .ref a_t_zoneOf, .ref a_t_effectKind, .ref a_t_effectZones, .ref a_t_delay, .int t_devices, .int t_isolators, .int t_effects, .int t_sounds, .int t_pre, .int t_alarm, .int t_confirm, .int t_pace, .int t_phaseTicks])), (a_t_effectKind, .inl (cI, 6, .inl t_effectKind)), (a_t_effectZones, .inl (cI, 6, .inl t_effectZones)), (a_t_delay, .inl (cI, 6, .inl t_delay))]) (w1 := []) (v := u33) (As := [.int x3, .int 0, .int 1]) (rest := []) ⟨hx, hb, hml, hown, hts⟩ (c_X5_within l D cI cS  H.size x3 0 1 u33 hu33) ⟨va_cnB 3 hts gX1_addEffect_X5_within_n55 rfl rfl rfl hN.1 k_0 cd_X5_within ⟨Nat.le_of_ble_eq_true rfl, Nat.le_of_ble_eq_true rfl⟩, k_1, trivial⟩ hK hN hP hD hS hA [] [0, 1, 2, 3] rfl rfl (by decide) (by decide) (by decide) rfl hl.1 rfl (Nat.le_of_ble_eq_true rfl) dX1_addEffect_33 ⟨Nat.zero_le _, Nat.zero_le _⟩ (fun H locs hP hD hS => ?_)
        have hP : va_P D vwCl [(a_t, .inr (1, [.ref a_t_kind, .ref a_t_zoneOf, .ref a_t_effectKind, .ref a_t_effectZones, .ref a_t_delay, .int t_devices, .int t_isolators, .int t_effects, .int t_sounds, .int t_pre, .int t_alarm, .int t_confirm, .int t_pace, .int t_phaseTicks])), (a_t_effectKind, .inl (cI, 6, .inl t_effectKind)), (a_t_effectZones, .inl (cI, 6, .inl t_effectZones)), (a_t_delay, .inl (cI, 6, .inl t_delay))] H := hP
        have hD : va_D A [(a_t, .inr (1, [.ref a_t_kind, .ref a_t_zoneOf, .ref a_t_effectKind, .ref a_t_effectZones, .ref a_t_delay, .int t_devices, .int t_isolators, .int t_effects, .int t_sounds, .int t_pre, .int t_alarm, .int t_confirm, .int t_pace, .int t_phaseTicks])), (a_t_effectKind, .inl (cI, 6, .inl t_effectKind)), (a_t_effectZones, .inl (cI, 6, .inl t_effectZones)), (a_t_delay, .inl (cI, 6, .inl t_delay))] := hD
        refine lv_if_eq (tgt := 43) hx hb dX1_addEffect_36 (by decide) (fun cc => ?_) (fun cc => ?_)
        · have h := oi_t cc h
          refine lv_iconst (v := 0) hx hb dX1_addEffect_43 (by decide) ?_
          obtain rfl := Option.some.inj h
          exact jn44 H locs ls hP hD hS (lv_sub hl [0, 1, 2, 3, 4] rfl)
        · have h := oi_f cc h
          refine lv_iconst (v := 1) hx hb dX1_addEffect_39 (by decide) ?_
          refine lv_goto (tgt := 44) hx hb dX1_addEffect_40 (by decide) ?_
          obtain rfl := Option.some.inj h
          exact jn44 H locs ls hP hD hS (lv_sub hl [0, 1, 2, 3, 4] rfl)

def f_X1_setLimits (t_pre : Int32) (t_alarm : Int32) (t_confirm : Int32) (t_pace : Int32) (x0 : Int32) (x1 : Int32) (x2 : Int32) (x3 : Int32) : Option (Int32 × Int32 × Int32 × Int32 × Int32) := ((f_X5_within x0 1 90).bind (fun u4 => (((if u4 = 0 then some (0) else ((f_X5_within x1 (x0 + 1) 99).bind (fun u16 => (if u16 = 0 then some (0) else ((f_X5_within x2 0 9).bind (fun u26 => (if u26 = 0 then some (0) else ((f_X5_within x3 1 9).bind (fun u37 => (if u37 = 0 then some (0) else some (1)))))))))))).bind (fun (u48 : Int32) => (if u48 = 0 then (if (u48 = 0 ∨ u48 = 1) then some (u48, t_pre, t_alarm, t_confirm, t_pace) else none) else (if (u48 = 0 ∨ u48 = 1) then some (u48, x0, x1, x2, x3) else none))))))
abbrev rm_X1_setLimits : Room := { frames := 1, cells := 0, slots := 0, locals := 22 }
theorem cd_X1_setLimits : (yX1_setLimits).cls = RX1 ∧ (yX1_setLimits).cls ≠ "java/lang/invoke/MethodHandle" ∧ (yX1_setLimits).cls ≠ "java/lang/invoke/VarHandle" ∧ (parseMethodDescriptor (yX1_setLimits).desc).map (fun d => d.parameters.length) = some 4 := by decide +kernel
set_option maxHeartbeats 4000000 in
set_option maxRecDepth 100000 in
theorem c_X1_setLimits (l : Launch) (D : va_G) (cI cS : ClassId) (a_t a_t_kind a_t_zoneOf a_t_effectKind a_t_effectZones a_t_delay : Nat) (sz : Nat) (t_devices : Int32) (t_isolators : Int32) (t_effects : Int32) (t_sounds : Int32) (t_pre : Int32) (t_alarm : Int32) (t_confirm : Int32) (t_pace : Int32) (t_phaseTicks : Int32) (x0 : Int32) (x1 : Int32) (x2 : Int32) (x3 : Int32) (out : Int32 × Int32 × Int32 × Int32 × Int32) (h : f_X1_setLimits t_pre t_alarm t_confirm t_pace x0 x1 x2 x3 = some out) : Met l yX1_setLimits wsX1_setLimits rm_X1_setLimits (va_Pc [.ref a_t, .int x0, .int x1, .int x2, .int x3] (GP D cI cS [(a_t, .inr (1, [.ref a_t_kind, .ref a_t_zoneOf, .ref a_t_effectKind, .ref a_t_effectZones, .ref a_t_delay, .int t_devices, .int t_isolators, .int t_effects, .int t_sounds, .int t_pre, .int t_alarm, .int t_confirm, .int t_pace, .int t_phaseTicks]))] sz)) (QI D [(a_t, .inr (1, [.ref a_t_kind, .ref a_t_zoneOf, .ref a_t_effectKind, .ref a_t_effectZones, .ref a_t_delay, .int t_devices, .int t_isolators, .int t_effects, .int t_sounds, .int t_pre, .int t_alarm, .int t_confirm, .int t_pace, .int t_phaseTicks]))] sz [(a_t, .inr (1, [.ref a_t_kind, .ref a_t_zoneOf, .ref a_t_effectKind, .ref a_t_effectZones, .ref a_t_delay, .int t_devices, .int t_isolators, .int t_effects, .int t_sounds, .int out.2.1, .int out.2.2.1, .int out.2.2.2.1, .int out.2.2.2.2, .int t_phaseTicks]))] out.1) 0 0 (va_A [(a_t, .inr (1, [.ref a_t_kind, .ref a_t_zoneOf, .ref a_t_effectKind, .ref a_t_effectZones, .ref a_t_delay, .int t_devices, .int t_isolators, .int t_effects, .int t_sounds, .int t_pre, .int t_alarm, .int t_confirm, .int t_pace, .int t_phaseTicks]))] sz) := by
  refine gm_i (cc := cX1_setLimits) (maxL := 6) (rt := .boolean) (by decide) rfl (Nat.le_of_ble_eq_true rfl) ?_
  intro p e s m args below meth c A Q H locs ls hx hb hml hown hts hK hN hA hP hD hS hl hQ
  have hown : s.vm.findClass RX1 = some m.cls := hown
  have hl : lv_has ls 6 [(0, .ref a_t), (1, .int x0), (2, .int x1), (3, .int x2), (4, .int x3)] := hl
  have inX1 : ∀ w ∈ wsX10, w ∈ wsX1_setLimits := by decide +kernel
  have k_0 := hts (.initialized RX5) (by decide +kernel)
  have k_1 := hts (.static yX5_within) (by decide +kernel)
  have k_2 := hts (.fieldLink RX1 40 "AlarmRing$Plan" "pre" "I") (by decide +kernel)
  have k_3 := hts (.fieldLink RX1 43 "AlarmRing$Plan" "alarm" "I") (by decide +kernel)
  have k_4 := hts (.fieldLink RX1 46 "AlarmRing$Plan" "confirm" "I") (by decide +kernel)
  have k_5 := hts (.fieldLink RX1 49 "AlarmRing$Plan" "pace" "I") (by decide +kernel)
  unfold f_X1_setLimits at h
  refine lv_iload_n hx hb dX1_setLimits_0 rfl (lv_at hl 1 rfl) ?_
  refine lv_iconst (v := 1) hx hb dX1_setLimits_1 (by decide) ?_
  refine lv_bipush (v := 90) hx hb dX1_setLimits_2 (by decide) ?_
  obtain ⟨u4, hu4, h⟩ := ob h
  refine gN_i (wc := []) (wr := [(a_t, .inr (1, [.ref a_t_kind, .ref a_t_zoneOf, .ref a_t_effectKind, .ref a_t_effectZones, .ref a_t_delay, .int t_devices, .int t_isolators, .int t_effects, .int t_sounds, .int t_pre, .int t_alarm, .int t_confirm, .int t_pace, .int t_phaseTicks]))]) (w1 := []) (v := u4) (As := [.int x0, .int 1, .int 90]) (rest := []) ⟨hx, hb, hml, hown, hts⟩ (c_X5_within l D cI cS  H.size x0 1 90 u4 hu4) ⟨va_cnB 3 hts gX1_setLimits_X5_within_n55 rfl rfl rfl hN.1 k_0 cd_X5_within ⟨Nat.le_of_ble_eq_true rfl, Nat.le_of_ble_eq_true rfl⟩, k_1, trivial⟩ hK hN hP hD hS hA [] [0] rfl rfl (by decide) (by decide) (by decide) rfl hl.1 rfl (Nat.le_of_ble_eq_true rfl) dX1_setLimits_4 ⟨Nat.zero_le _, Nat.zero_le _⟩ (fun H locs hP hD hS => ?_)
  have hP : va_P D vwCl [(a_t, .inr (1, [.ref a_t_kind, .ref a_t_zoneOf, .ref a_t_effectKind, .ref a_t_effectZones, .ref a_t_delay, .int t_devices, .int t_isolators, .int t_effects, .int t_sounds, .int t_pre, .int t_alarm, .int t_confirm, .int t_pace, .int t_phaseTicks]))] H := hP
  have hD : va_D A [(a_t, .inr (1, [.ref a_t_kind, .ref a_t_zoneOf, .ref a_t_effectKind, .ref a_t_effectZones, .ref a_t_delay, .int t_devices, .int t_isolators, .int t_effects, .int t_sounds, .int t_pre, .int t_alarm, .int t_confirm, .int t_pace, .int t_phaseTicks]))] := hD
  obtain ⟨u48, hj48, h⟩ := ob h
  have jn48 : ∀ (H : Heap) (locs : List Loc) (ls : Array Slot), va_P D vwCl [(a_t, .inr (1, [.ref a_t_kind, .ref a_t_zoneOf, .ref a_t_effectKind, .ref a_t_effectZones, .ref a_t_delay, .int t_devices, .int t_isolators, .int t_effects, .int t_sounds, .int t_pre, .int t_alarm, .int t_confirm, .int t_pace, .int t_phaseTicks]))] H → va_D A [(a_t, .inr (1, [.ref a_t_kind, .ref a_t_zoneOf, .ref a_t_effectKind, .ref a_t_effectZones, .ref a_t_delay, .int t_devices, .int t_isolators, .int t_effects, .int t_sounds, .int t_pre, .int t_alarm, .int t_confirm, .int t_pace, .int t_phaseTicks]))] → va_S A s.heap H locs → lv_has ls 6 [(0, .ref a_t), (1, .int x0), (2, .int x1), (3, .int x2), (4, .int x3)] → W p l e rm_X1_setLimits s m args below meth c H locs 0 0 Q (F0 m 48 ls [.int u48]) := by
    intro H locs ls hP hD hS hl
    refine lv_istore (lv' := [(5, .int u48), (0, .ref a_t), (1, .int x0), (2, .int x1), (3, .int x2), (4, .int x3)]) hx hb dX1_setLimits_48 hl (by decide) rfl (fun ls hl => ?_)
    refine lv_iload hx hb dX1_setLimits_50 (lv_at hl 0 rfl) ?_
    refine lv_if_eq (tgt := 76) hx hb dX1_setLimits_52 (by decide) (fun cc => ?_) (fun cc => ?_)
    · have h := oi_t cc h
      refine lv_iload hx hb dX1_setLimits_76 (lv_at hl 0 rfl) ?_
      obtain ⟨gg, h⟩ := og h
      obtain rfl := Option.some.inj h
      exact hQ 78 H locs ls (nz gg) hP hD hS dX1_setLimits_78
    · have h := oi_f cc h
      refine lv_aload_n hx hb dX1_setLimits_55 rfl (lv_at hl 1 rfl) ?_
      refine lv_iload_n hx hb dX1_setLimits_56 rfl (lv_at hl 2 rfl) ?_
      refine va_put (D := D) (ci := 1) (v := .int x0) (ty := .int) (C := RX1) (T := TX1) (N := 14) hx hb hts inX1 tyX1 tyX1_ok nmX1 hown hK hP hD hS 0 rfl rfl 9 (by decide) k_2 (fun _ h9 => h9) rfl (by decide +kernel) rfl rfl (Nat.le_of_ble_eq_true rfl) dX1_setLimits_57 (fun H locs hP hD hS => ?_)
      have hP : va_P D vwCl [(a_t, .inr (1, [.ref a_t_kind, .ref a_t_zoneOf, .ref a_t_effectKind, .ref a_t_effectZones, .ref a_t_delay, .int t_devices, .int t_isolators, .int t_effects, .int t_sounds, .int x0, .int t_alarm, .int t_confirm, .int t_pace, .int t_phaseTicks]))] H := hP
      have hD : va_D A [(a_t, .inr (1, [.ref a_t_kind, .ref a_t_zoneOf, .ref a_t_effectKind, .ref a_t_effectZones, .ref a_t_delay, .int t_devices, .int t_isolators, .int t_effects, .int t_sounds, .int x0, .int t_alarm, .int t_confirm, .int t_pace, .int t_phaseTicks]))] := hD
      refine lv_aload_n hx hb dX1_setLimits_60 rfl (lv_at hl 1 rfl) ?_
      refine lv_iload_n hx hb dX1_setLimits_61 rfl (lv_at hl 3 rfl) ?_
      refine va_put (D := D) (ci := 1) (v := .int x1) (ty := .int) (C := RX1) (T := TX1) (N := 14) hx hb hts inX1 tyX1 tyX1_ok nmX1 hown hK hP hD hS 0 rfl rfl 10 (by decide) k_3 (fun _ h9 => h9) rfl (by decide +kernel) rfl rfl (Nat.le_of_ble_eq_true rfl) dX1_setLimits_62 (fun H locs hP hD hS => ?_)
      have hP : va_P D vwCl [(a_t, .inr (1, [.ref a_t_kind, .ref a_t_zoneOf, .ref a_t_effectKind, .ref a_t_effectZones, .ref a_t_delay, .int t_devices, .int t_isolators, .int t_effects, .int t_sounds, .int x0, .int x1, .int t_confirm, .int t_pace, .int t_phaseTicks]))] H := hP
      have hD : va_D A [(a_t, .inr (1, [.ref a_t_kind, .ref a_t_zoneOf, .ref a_t_effectKind, .ref a_t_effectZones, .ref a_t_delay, .int t_devices, .int t_isolators, .int t_effects, .int t_sounds, .int x0, .int x1, .int t_confirm, .int t_pace, .int t_phaseTicks]))] := hD
      refine lv_aload_n hx hb dX1_setLimits_65 rfl (lv_at hl 1 rfl) ?_
      refine lv_iload_n hx hb dX1_setLimits_66 rfl (lv_at hl 4 rfl) ?_
      refine va_put (D := D) (ci := 1) (v := .int x2) (ty := .int) (C := RX1) (T := TX1) (N := 14) hx hb hts inX1 tyX1 tyX1_ok nmX1 hown hK hP hD hS 0 rfl rfl 11 (by decide) k_4 (fun _ h9 => h9) rfl (by decide +kernel) rfl rfl (Nat.le_of_ble_eq_true rfl) dX1_setLimits_67 (fun H locs hP hD hS => ?_)
      have hP : va_P D vwCl [(a_t, .inr (1, [.ref a_t_kind, .ref a_t_zoneOf, .ref a_t_effectKind, .ref a_t_effectZones, .ref a_t_delay, .int t_devices, .int t_isolators, .int t_effects, .int t_sounds, .int x0, .int x1, .int x2, .int t_pace, .int t_phaseTicks]))] H := hP
      have hD : va_D A [(a_t, .inr (1, [.ref a_t_kind, .ref a_t_zoneOf, .ref a_t_effectKind, .ref a_t_effectZones, .ref a_t_delay, .int t_devices, .int t_isolators, .int t_effects, .int t_sounds, .int x0, .int x1, .int x2, .int t_pace, .int t_phaseTicks]))] := hD
      refine lv_aload_n hx hb dX1_setLimits_70 rfl (lv_at hl 1 rfl) ?_
      refine lv_iload hx hb dX1_setLimits_71 (lv_at hl 5 rfl) ?_
      refine va_put (D := D) (ci := 1) (v := .int x3) (ty := .int) (C := RX1) (T := TX1) (N := 14) hx hb hts inX1 tyX1 tyX1_ok nmX1 hown hK hP hD hS 0 rfl rfl 12 (by decide) k_5 (fun _ h9 => h9) rfl (by decide +kernel) rfl rfl (Nat.le_of_ble_eq_true rfl) dX1_setLimits_73 (fun H locs hP hD hS => ?_)
      have hP : va_P D vwCl [(a_t, .inr (1, [.ref a_t_kind, .ref a_t_zoneOf, .ref a_t_effectKind, .ref a_t_effectZones, .ref a_t_delay, .int t_devices, .int t_isolators, .int t_effects, .int t_sounds, .int x0, .int x1, .int x2, .int x3, .int t_phaseTicks]))] H := hP
      have hD : va_D A [(a_t, .inr (1, [.ref a_t_kind, .ref a_t_zoneOf, .ref a_t_effectKind, .ref a_t_effectZones, .ref a_t_delay, .int t_devices, .int t_isolators, .int t_effects, .int t_sounds, .int x0, .int x1, .int x2, .int x3, .int t_phaseTicks]))] := hD
      refine lv_iload hx hb dX1_setLimits_76 (lv_at hl 0 rfl) ?_
      obtain ⟨gg, h⟩ := og h
      obtain rfl := Option.some.inj h
      exact hQ 78 H locs ls (nz gg) hP hD hS dX1_setLimits_78
  have h := hj48
  refine lv_if_eq (tgt := 47) hx hb dX1_setLimits_7 (by decide) (fun cc => ?_) (fun cc => ?_)
  · have h := oi_t cc h
    refine lv_iconst (v := 0) hx hb dX1_setLimits_47 (by decide) ?_
    obtain rfl := Option.some.inj h
    exact jn48 H locs ls hP hD hS (lv_sub hl [0, 1, 2, 3, 4] rfl)
  · have h := oi_f cc h
    refine lv_iload_n hx hb dX1_setLimits_10 rfl (lv_at hl 2 rfl) ?_
    refine lv_iload_n hx hb dX1_setLimits_11 rfl (lv_at hl 1 rfl) ?_
    refine lv_iconst (v := 1) hx hb dX1_setLimits_12 (by decide) ?_
    refine lv_iadd hx hb dX1_setLimits_13 ?_
    refine lv_bipush (v := 99) hx hb dX1_setLimits_14 (by decide) ?_
    obtain ⟨u16, hu16, h⟩ := ob h
    refine gN_i (wc := []) (wr := [(a_t, .inr (1, [.ref a_t_kind, .ref a_t_zoneOf, .ref a_t_effectKind, .ref a_t_effectZones, .ref a_t_delay, .int t_devices, .int t_isolators, .int t_effects, .int t_sounds, .int t_pre, .int t_alarm, .int t_confirm, .int t_pace, .int t_phaseTicks]))]) (w1 := []) (v := u16) (As := [.int x1, .int (x0 + 1), .int 99]) (rest := []) ⟨hx, hb, hml, hown, hts⟩ (c_X5_within l D cI cS  H.size x1 (x0 + 1) 99 u16 hu16) ⟨va_cnB 3 hts gX1_setLimits_X5_within_n55 rfl rfl rfl hN.1 k_0 cd_X5_within ⟨Nat.le_of_ble_eq_true rfl, Nat.le_of_ble_eq_true rfl⟩, k_1, trivial⟩ hK hN hP hD hS hA [] [0] rfl rfl (by decide) (by decide) (by decide) rfl hl.1 rfl (Nat.le_of_ble_eq_true rfl) dX1_setLimits_16 ⟨Nat.zero_le _, Nat.zero_le _⟩ (fun H locs hP hD hS => ?_)
    have hP : va_P D vwCl [(a_t, .inr (1, [.ref a_t_kind, .ref a_t_zoneOf, .ref a_t_effectKind, .ref a_t_effectZones, .ref a_t_delay, .int t_devices, .int t_isolators, .int t_effects, .int t_sounds, .int t_pre, .int t_alarm, .int t_confirm, .int t_pace, .int t_phaseTicks]))] H := hP
    have hD : va_D A [(a_t, .inr (1, [.ref a_t_kind, .ref a_t_zoneOf, .ref a_t_effectKind, .ref a_t_effectZones, .ref a_t_delay, .int t_devices, .int t_isolators, .int t_effects, .int t_sounds, .int t_pre, .int t_alarm, .int t_confirm, .int t_pace, .int t_phaseTicks]))] := hD
    refine lv_if_eq (tgt := 47) hx hb dX1_setLimits_19 (by decide) (fun cc => ?_) (fun cc => ?_)
    · have h := oi_t cc h
      refine lv_iconst (v := 0) hx hb dX1_setLimits_47 (by decide) ?_
      obtain rfl := Option.some.inj h
      exact jn48 H locs ls hP hD hS (lv_sub hl [0, 1, 2, 3, 4] rfl)
    · have h := oi_f cc h
      refine lv_iload_n hx hb dX1_setLimits_22 rfl (lv_at hl 3 rfl) ?_
      refine lv_iconst (v := 0) hx hb dX1_setLimits_23 (by decide) ?_
      refine lv_bipush (v := 9) hx hb dX1_setLimits_24 (by decide) ?_
      obtain ⟨u26, hu26, h⟩ := ob h
      refine gN_i (wc := []) (wr := [(a_t, .inr (1, [.ref a_t_kind, .ref a_t_zoneOf, .ref a_t_effectKind, .ref a_t_effectZones, .ref a_t_delay, .int t_devices, .int t_isolators, .int t_effects, .int t_sounds, .int t_pre, .int t_alarm, .int t_confirm, .int t_pace, .int t_phaseTicks]))]) (w1 := []) (v := u26) (As := [.int x2, .int 0, .int 9]) (rest := []) ⟨hx, hb, hml, hown, hts⟩ (c_X5_within l D cI cS  H.size x2 0 9 u26 hu26) ⟨va_cnB 3 hts gX1_setLimits_X5_within_n55 rfl rfl rfl hN.1 k_0 cd_X5_within ⟨Nat.le_of_ble_eq_true rfl, Nat.le_of_ble_eq_true rfl⟩, k_1, trivial⟩ hK hN hP hD hS hA [] [0] rfl rfl (by decide) (by decide) (by decide) rfl hl.1 rfl (Nat.le_of_ble_eq_true rfl) dX1_setLimits_26 ⟨Nat.zero_le _, Nat.zero_le _⟩ (fun H locs hP hD hS => ?_)
      have hP : va_P D vwCl [(a_t, .inr (1, [.ref a_t_kind, .ref a_t_zoneOf, .ref a_t_effectKind, .ref a_t_effectZones, .ref a_t_delay, .int t_devices, .int t_isolators, .int t_effects, .int t_sounds, .int t_pre, .int t_alarm, .int t_confirm, .int t_pace, .int t_phaseTicks]))] H := hP
      have hD : va_D A [(a_t, .inr (1, [.ref a_t_kind, .ref a_t_zoneOf, .ref a_t_effectKind, .ref a_t_effectZones, .ref a_t_delay, .int t_devices, .int t_isolators, .int t_effects, .int t_sounds, .int t_pre, .int t_alarm, .int t_confirm, .int t_pace, .int t_phaseTicks]))] := hD
      refine lv_if_eq (tgt := 47) hx hb dX1_setLimits_29 (by decide) (fun cc => ?_) (fun cc => ?_)
      · have h := oi_t cc h
        refine lv_iconst (v := 0) hx hb dX1_setLimits_47 (by decide) ?_
        obtain rfl := Option.some.inj h
        exact jn48 H locs ls hP hD hS (lv_sub hl [0, 1, 2, 3, 4] rfl)
      · have h := oi_f cc h
        refine lv_iload hx hb dX1_setLimits_32 (lv_at hl 4 rfl) ?_
        refine lv_iconst (v := 1) hx hb dX1_setLimits_34 (by decide) ?_
        refine lv_bipush (v := 9) hx hb dX1_setLimits_35 (by decide) ?_
        obtain ⟨u37, hu37, h⟩ := ob h
        refine gN_i (wc := []) (wr := [(a_t, .inr (1, [.ref a_t_kind, .ref a_t_zoneOf, .ref a_t_effectKind, .ref a_t_effectZones, .ref a_t_delay, .int t_devices, .int t_isolators, .int t_effects, .int t_sounds, .int t_pre, .int t_alarm, .int t_confirm, .int t_pace, .int t_phaseTicks]))]) (w1 := []) (v := u37) (As := [.int x3, .int 1, .int 9]) (rest := []) ⟨hx, hb, hml, hown, hts⟩ (c_X5_within l D cI cS  H.size x3 1 9 u37 hu37) ⟨va_cnB 3 hts gX1_setLimits_X5_within_n55 rfl rfl rfl hN.1 k_0 cd_X5_within ⟨Nat.le_of_ble_eq_true rfl, Nat.le_of_ble_eq_true rfl⟩, k_1, trivial⟩ hK hN hP hD hS hA [] [0] rfl rfl (by decide) (by decide) (by decide) rfl hl.1 rfl (Nat.le_of_ble_eq_true rfl) dX1_setLimits_37 ⟨Nat.zero_le _, Nat.zero_le _⟩ (fun H locs hP hD hS => ?_)
        have hP : va_P D vwCl [(a_t, .inr (1, [.ref a_t_kind, .ref a_t_zoneOf, .ref a_t_effectKind, .ref a_t_effectZones, .ref a_t_delay, .int t_devices, .int t_isolators, .int t_effects, .int t_sounds, .int t_pre, .int t_alarm, .int t_confirm, .int t_pace, .int t_phaseTicks]))] H := hP
        have hD : va_D A [(a_t, .inr (1, [.ref a_t_kind, .ref a_t_zoneOf, .ref a_t_effectKind, .ref a_t_effectZones, .ref a_t_delay, .int t_devices, .int t_isolators, .int t_effects, .int t_sounds, .int t_pre, .int t_alarm, .int t_confirm, .int t_pace, .int t_phaseTicks]))] := hD
        refine lv_if_eq (tgt := 47) hx hb dX1_setLimits_40 (by decide) (fun cc => ?_) (fun cc => ?_)
        · have h := oi_t cc h
          refine lv_iconst (v := 0) hx hb dX1_setLimits_47 (by decide) ?_
          obtain rfl := Option.some.inj h
          exact jn48 H locs ls hP hD hS (lv_sub hl [0, 1, 2, 3, 4] rfl)
        · have h := oi_f cc h
          refine lv_iconst (v := 1) hx hb dX1_setLimits_43 (by decide) ?_
          refine lv_goto (tgt := 48) hx hb dX1_setLimits_44 (by decide) ?_
          obtain rfl := Option.some.inj h
          exact jn48 H locs ls hP hD hS (lv_sub hl [0, 1, 2, 3, 4] rfl)

def f_X1_setPhase (t_phaseTicks : Int32) (x0 : Int32) : Option (Int32 × Int32) := ((f_X5_within x0 1 9).bind (fun u4 => (if u4 = 0 then (if (u4 = 0 ∨ u4 = 1) then some (u4, t_phaseTicks) else none) else (if (u4 = 0 ∨ u4 = 1) then some (u4, x0) else none))))
abbrev rm_X1_setPhase : Room := { frames := 1, cells := 0, slots := 0, locals := 22 }
theorem cd_X1_setPhase : (yX1_setPhase).cls = RX1 ∧ (yX1_setPhase).cls ≠ "java/lang/invoke/MethodHandle" ∧ (yX1_setPhase).cls ≠ "java/lang/invoke/VarHandle" ∧ (parseMethodDescriptor (yX1_setPhase).desc).map (fun d => d.parameters.length) = some 1 := by decide +kernel
set_option maxHeartbeats 4000000 in
set_option maxRecDepth 100000 in
theorem c_X1_setPhase (l : Launch) (D : va_G) (cI cS : ClassId) (a_t a_t_kind a_t_zoneOf a_t_effectKind a_t_effectZones a_t_delay : Nat) (sz : Nat) (t_devices : Int32) (t_isolators : Int32) (t_effects : Int32) (t_sounds : Int32) (t_pre : Int32) (t_alarm : Int32) (t_confirm : Int32) (t_pace : Int32) (t_phaseTicks : Int32) (x0 : Int32) (out : Int32 × Int32) (h : f_X1_setPhase t_phaseTicks x0 = some out) : Met l yX1_setPhase wsX1_setPhase rm_X1_setPhase (va_Pc [.ref a_t, .int x0] (GP D cI cS [(a_t, .inr (1, [.ref a_t_kind, .ref a_t_zoneOf, .ref a_t_effectKind, .ref a_t_effectZones, .ref a_t_delay, .int t_devices, .int t_isolators, .int t_effects, .int t_sounds, .int t_pre, .int t_alarm, .int t_confirm, .int t_pace, .int t_phaseTicks]))] sz)) (QI D [(a_t, .inr (1, [.ref a_t_kind, .ref a_t_zoneOf, .ref a_t_effectKind, .ref a_t_effectZones, .ref a_t_delay, .int t_devices, .int t_isolators, .int t_effects, .int t_sounds, .int t_pre, .int t_alarm, .int t_confirm, .int t_pace, .int t_phaseTicks]))] sz [(a_t, .inr (1, [.ref a_t_kind, .ref a_t_zoneOf, .ref a_t_effectKind, .ref a_t_effectZones, .ref a_t_delay, .int t_devices, .int t_isolators, .int t_effects, .int t_sounds, .int t_pre, .int t_alarm, .int t_confirm, .int t_pace, .int out.2]))] out.1) 0 0 (va_A [(a_t, .inr (1, [.ref a_t_kind, .ref a_t_zoneOf, .ref a_t_effectKind, .ref a_t_effectZones, .ref a_t_delay, .int t_devices, .int t_isolators, .int t_effects, .int t_sounds, .int t_pre, .int t_alarm, .int t_confirm, .int t_pace, .int t_phaseTicks]))] sz) := by
  refine gm_i (cc := cX1_setPhase) (maxL := 3) (rt := .boolean) (by decide) rfl (Nat.le_of_ble_eq_true rfl) ?_
  intro p e s m args below meth c A Q H locs ls hx hb hml hown hts hK hN hA hP hD hS hl hQ
  have hown : s.vm.findClass RX1 = some m.cls := hown
  have hl : lv_has ls 3 [(0, .ref a_t), (1, .int x0)] := hl
  have inX1 : ∀ w ∈ wsX10, w ∈ wsX1_setPhase := by decide +kernel
  have k_0 := hts (.initialized RX5) (by decide +kernel)
  have k_1 := hts (.static yX5_within) (by decide +kernel)
  have k_2 := hts (.fieldLink RX1 52 "AlarmRing$Plan" "phaseTicks" "I") (by decide +kernel)
  unfold f_X1_setPhase at h
  refine lv_iload_n hx hb dX1_setPhase_0 rfl (lv_at hl 1 rfl) ?_
  refine lv_iconst (v := 1) hx hb dX1_setPhase_1 (by decide) ?_
  refine lv_bipush (v := 9) hx hb dX1_setPhase_2 (by decide) ?_
  obtain ⟨u4, hu4, h⟩ := ob h
  refine gN_i (wc := []) (wr := [(a_t, .inr (1, [.ref a_t_kind, .ref a_t_zoneOf, .ref a_t_effectKind, .ref a_t_effectZones, .ref a_t_delay, .int t_devices, .int t_isolators, .int t_effects, .int t_sounds, .int t_pre, .int t_alarm, .int t_confirm, .int t_pace, .int t_phaseTicks]))]) (w1 := []) (v := u4) (As := [.int x0, .int 1, .int 9]) (rest := []) ⟨hx, hb, hml, hown, hts⟩ (c_X5_within l D cI cS  H.size x0 1 9 u4 hu4) ⟨va_cnB 3 hts gX1_setPhase_X5_within_n55 rfl rfl rfl hN.1 k_0 cd_X5_within ⟨Nat.le_of_ble_eq_true rfl, Nat.le_of_ble_eq_true rfl⟩, k_1, trivial⟩ hK hN hP hD hS hA [] [0] rfl rfl (by decide) (by decide) (by decide) rfl hl.1 rfl (Nat.le_of_ble_eq_true rfl) dX1_setPhase_4 ⟨Nat.zero_le _, Nat.zero_le _⟩ (fun H locs hP hD hS => ?_)
  have hP : va_P D vwCl [(a_t, .inr (1, [.ref a_t_kind, .ref a_t_zoneOf, .ref a_t_effectKind, .ref a_t_effectZones, .ref a_t_delay, .int t_devices, .int t_isolators, .int t_effects, .int t_sounds, .int t_pre, .int t_alarm, .int t_confirm, .int t_pace, .int t_phaseTicks]))] H := hP
  have hD : va_D A [(a_t, .inr (1, [.ref a_t_kind, .ref a_t_zoneOf, .ref a_t_effectKind, .ref a_t_effectZones, .ref a_t_delay, .int t_devices, .int t_isolators, .int t_effects, .int t_sounds, .int t_pre, .int t_alarm, .int t_confirm, .int t_pace, .int t_phaseTicks]))] := hD
  refine lv_istore_n (lv' := [(2, .int u4), (0, .ref a_t), (1, .int x0)]) hx hb dX1_setPhase_7 rfl hl (by decide) rfl (fun ls hl => ?_)
  refine lv_iload_n hx hb dX1_setPhase_8 rfl (lv_at hl 0 rfl) ?_
  refine lv_if_eq (tgt := 17) hx hb dX1_setPhase_9 (by decide) (fun cc => ?_) (fun cc => ?_)
  · have h := oi_t cc h
    refine lv_iload_n hx hb dX1_setPhase_17 rfl (lv_at hl 0 rfl) ?_
    obtain ⟨gg, h⟩ := og h
    obtain rfl := Option.some.inj h
    exact hQ 18 H locs ls (nz gg) hP hD hS dX1_setPhase_18
  · have h := oi_f cc h
    refine lv_aload_n hx hb dX1_setPhase_12 rfl (lv_at hl 1 rfl) ?_
    refine lv_iload_n hx hb dX1_setPhase_13 rfl (lv_at hl 2 rfl) ?_
    refine va_put (D := D) (ci := 1) (v := .int x0) (ty := .int) (C := RX1) (T := TX1) (N := 14) hx hb hts inX1 tyX1 tyX1_ok nmX1 hown hK hP hD hS 0 rfl rfl 13 (by decide) k_2 (fun _ h9 => h9) rfl (by decide +kernel) rfl rfl (Nat.le_of_ble_eq_true rfl) dX1_setPhase_14 (fun H locs hP hD hS => ?_)
    have hP : va_P D vwCl [(a_t, .inr (1, [.ref a_t_kind, .ref a_t_zoneOf, .ref a_t_effectKind, .ref a_t_effectZones, .ref a_t_delay, .int t_devices, .int t_isolators, .int t_effects, .int t_sounds, .int t_pre, .int t_alarm, .int t_confirm, .int t_pace, .int x0]))] H := hP
    have hD : va_D A [(a_t, .inr (1, [.ref a_t_kind, .ref a_t_zoneOf, .ref a_t_effectKind, .ref a_t_effectZones, .ref a_t_delay, .int t_devices, .int t_isolators, .int t_effects, .int t_sounds, .int t_pre, .int t_alarm, .int t_confirm, .int t_pace, .int x0]))] := hD
    refine lv_iload_n hx hb dX1_setPhase_17 rfl (lv_at hl 0 rfl) ?_
    obtain ⟨gg, h⟩ := og h
    obtain rfl := Option.some.inj h
    exact hQ 18 H locs ls (nz gg) hP hD hS dX1_setPhase_18

def f_X1_devicesIn_4 (t_devices : Int32) (t_zoneOf : FN) (x0 : Int32) : Nat → Int32 → Int32 → Option (Int32)
  | 0, _, _ => none
  | n + 1, v2, v3 => (if t_devices ≤ v3 then some (v2) else (if gi v3 12 then (if (t_zoneOf (v3).toNatClampNeg) = x0 then f_X1_devicesIn_4 t_devices t_zoneOf x0 n (v2 ||| ((1 : Int32) <<< (v3 &&& 31))) (v3 + 1) else f_X1_devicesIn_4 t_devices t_zoneOf x0 n (v2 ||| 0) (v3 + 1)) else none))
def f_X1_devicesIn (t_devices : Int32) (t_zoneOf : FN) (x0 : Int32) : Option (Int32) := ((f_X1_devicesIn_4 t_devices t_zoneOf x0 1000 0 0).bind (fun (q4 : Int32) => some (q4)))
abbrev rm_X1_devicesIn : Room := { frames := 0, cells := 0, slots := 0, locals := 0 }
theorem cd_X1_devicesIn : (yX1_devicesIn).cls = RX1 ∧ (yX1_devicesIn).cls ≠ "java/lang/invoke/MethodHandle" ∧ (yX1_devicesIn).cls ≠ "java/lang/invoke/VarHandle" ∧ (parseMethodDescriptor (yX1_devicesIn).desc).map (fun d => d.parameters.length) = some 1 := by decide +kernel
set_option maxHeartbeats 4000000 in
set_option maxRecDepth 100000 in
theorem c_X1_devicesIn (l : Launch) (D : va_G) (cI cS : ClassId) (a_t a_t_zoneOf a_t_kind a_t_effectKind a_t_effectZones a_t_delay : Nat) (sz : Nat) (t_devices : Int32) (t_isolators : Int32) (t_effects : Int32) (t_sounds : Int32) (t_pre : Int32) (t_alarm : Int32) (t_confirm : Int32) (t_pace : Int32) (t_phaseTicks : Int32) (t_zoneOf : FN) (x0 : Int32) (out : Int32) (h : f_X1_devicesIn t_devices t_zoneOf x0 = some out) : Met l yX1_devicesIn wsX1_devicesIn rm_X1_devicesIn (va_Pc [.ref a_t, .int x0] (GP D cI cS [(a_t, .inr (1, [.ref a_t_kind, .ref a_t_zoneOf, .ref a_t_effectKind, .ref a_t_effectZones, .ref a_t_delay, .int t_devices, .int t_isolators, .int t_effects, .int t_sounds, .int t_pre, .int t_alarm, .int t_confirm, .int t_pace, .int t_phaseTicks])), (a_t_zoneOf, .inl (cI, 12, .inl t_zoneOf))] sz)) (QI D [(a_t, .inr (1, [.ref a_t_kind, .ref a_t_zoneOf, .ref a_t_effectKind, .ref a_t_effectZones, .ref a_t_delay, .int t_devices, .int t_isolators, .int t_effects, .int t_sounds, .int t_pre, .int t_alarm, .int t_confirm, .int t_pace, .int t_phaseTicks])), (a_t_zoneOf, .inl (cI, 12, .inl t_zoneOf))] sz [(a_t, .inr (1, [.ref a_t_kind, .ref a_t_zoneOf, .ref a_t_effectKind, .ref a_t_effectZones, .ref a_t_delay, .int t_devices, .int t_isolators, .int t_effects, .int t_sounds, .int t_pre, .int t_alarm, .int t_confirm, .int t_pace, .int t_phaseTicks])), (a_t_zoneOf, .inl (cI, 12, .inl t_zoneOf))] out) 0 0 (va_A [(a_t, .inr (1, [.ref a_t_kind, .ref a_t_zoneOf, .ref a_t_effectKind, .ref a_t_effectZones, .ref a_t_delay, .int t_devices, .int t_isolators, .int t_effects, .int t_sounds, .int t_pre, .int t_alarm, .int t_confirm, .int t_pace, .int t_phaseTicks])), (a_t_zoneOf, .inl (cI, 12, .inl t_zoneOf))] sz) := by
  refine gm_i (cc := cX1_devicesIn) (maxL := 4) (rt := .int) (by decide) rfl (Nat.le_of_ble_eq_true rfl) ?_
  intro p e s m args below meth c A Q H locs ls hx hb hml hown hts hK hN hA hP hD hS hl hQ
  have hown : s.vm.findClass RX1 = some m.cls := hown
  have hl : lv_has ls 4 [(0, .ref a_t), (1, .int x0)] := hl
  have inX1 : ∀ w ∈ wsX10, w ∈ wsX1_devicesIn := by decide +kernel
  have k_0 := hts (.fieldLink RX1 27 "AlarmRing$Plan" "devices" "I") (by decide +kernel)
  have k_1 := hts (.fieldLink RX1 15 "AlarmRing$Plan" "zoneOf" "[I") (by decide +kernel)
  unfold f_X1_devicesIn at h
  refine lv_iconst (v := 0) hx hb dX1_devicesIn_0 (by decide) ?_
  refine lv_istore_n (lv' := [(2, .int 0), (0, .ref a_t), (1, .int x0)]) hx hb dX1_devicesIn_1 rfl hl (by decide) rfl (fun ls hl => ?_)
  refine lv_iconst (v := 0) hx hb dX1_devicesIn_2 (by decide) ?_
  refine lv_istore_n (lv' := [(3, .int 0), (2, .int 0), (0, .ref a_t), (1, .int x0)]) hx hb dX1_devicesIn_3 rfl hl (by decide) rfl (fun ls hl => ?_)
  obtain ⟨q4, hq4, h⟩ := ob h
  have lp4 : ∀ (n : Nat) (v2 : Int32) (v3 : Int32) (H : Heap) (locs : List Loc) (ls : Array Slot), va_P D vwCl [(a_t, .inr (1, [.ref a_t_kind, .ref a_t_zoneOf, .ref a_t_effectKind, .ref a_t_effectZones, .ref a_t_delay, .int t_devices, .int t_isolators, .int t_effects, .int t_sounds, .int t_pre, .int t_alarm, .int t_confirm, .int t_pace, .int t_phaseTicks])), (a_t_zoneOf, .inl (cI, 12, .inl t_zoneOf))] H → va_D A [(a_t, .inr (1, [.ref a_t_kind, .ref a_t_zoneOf, .ref a_t_effectKind, .ref a_t_effectZones, .ref a_t_delay, .int t_devices, .int t_isolators, .int t_effects, .int t_sounds, .int t_pre, .int t_alarm, .int t_confirm, .int t_pace, .int t_phaseTicks])), (a_t_zoneOf, .inl (cI, 12, .inl t_zoneOf))] → va_S A s.heap H locs → lv_has ls 4 [(0, .ref a_t), (1, .int x0), (2, .int v2), (3, .int v3)] → ∀ (q4 : Int32), f_X1_devicesIn_4 t_devices t_zoneOf x0 n v2 v3 = some q4 → (∀ (H : Heap) (locs : List Loc) (ls : Array Slot), va_P D vwCl [(a_t, .inr (1, [.ref a_t_kind, .ref a_t_zoneOf, .ref a_t_effectKind, .ref a_t_effectZones, .ref a_t_delay, .int t_devices, .int t_isolators, .int t_effects, .int t_sounds, .int t_pre, .int t_alarm, .int t_confirm, .int t_pace, .int t_phaseTicks])), (a_t_zoneOf, .inl (cI, 12, .inl t_zoneOf))] H → va_D A [(a_t, .inr (1, [.ref a_t_kind, .ref a_t_zoneOf, .ref a_t_effectKind, .ref a_t_effectZones, .ref a_t_delay, .int t_devices, .int t_isolators, .int t_effects, .int t_sounds, .int t_pre, .int t_alarm, .int t_confirm, .int t_pace, .int t_phaseTicks])), (a_t_zoneOf, .inl (cI, 12, .inl t_zoneOf))] → va_S A s.heap H locs → lv_has ls 4 [(2, .int q4)] → W p l e rm_X1_devicesIn s m args below meth c H locs 0 0 Q (F0 m 38 ls [])) → W p l e rm_X1_devicesIn s m args below meth c H locs 0 0 Q (F0 m 4 ls []) := by
    intro n
    induction n with
    | zero => intro v2 v3 H locs ls hP hD hS hl q4 h kk; exact on_ h
    | succ n ih =>
      intro v2 v3 H locs ls hP hD hS hl q4 h kk
      rw [f_X1_devicesIn_4] at h
      refine lv_iload_n hx hb dX1_devicesIn_4 rfl (lv_at hl 3 rfl) ?_
      refine lv_aload_n hx hb dX1_devicesIn_5 rfl (lv_at hl 0 rfl) ?_
      refine va_get (D := D) (ci := 1) (v := .int t_devices) (C := RX1) (T := TX1) (N := 14) hx hb hts inX1 hown hK hP 0 rfl rfl 5 (by decide) k_0 (fun _ h9 => h9) rfl dX1_devicesIn_6 ?_
      refine lv_icmp_ge (tgt := 38) hx hb dX1_devicesIn_9 (by decide) (fun cc => ?_) (fun cc => ?_)
      · have h := oi_t cc h
        obtain rfl := Option.some.inj h
        exact kk H locs ls hP hD hS (lv_sub hl [2] rfl)
      · have h := oi_f cc h
        refine lv_iload_n hx hb dX1_devicesIn_12 rfl (lv_at hl 2 rfl) ?_
        refine lv_aload_n hx hb dX1_devicesIn_13 rfl (lv_at hl 0 rfl) ?_
        refine va_get (D := D) (ci := 1) (v := .ref a_t_zoneOf) (C := RX1) (T := TX1) (N := 14) hx hb hts inX1 hown hK hP 0 rfl rfl 1 (by decide) k_1 (fun _ h9 => h9) rfl dX1_devicesIn_14 ?_
        refine lv_iload_n hx hb dX1_devicesIn_17 rfl (lv_at hl 3 rfl) ?_
        obtain ⟨gg, h⟩ := og h
        refine va_iald hx hb hK hP 1 0 rfl rfl gg dX1_devicesIn_18 ?_
        refine lv_iload_n hx hb dX1_devicesIn_19 rfl (lv_at hl 1 rfl) ?_
        refine lv_icmp_ne (tgt := 29) hx hb dX1_devicesIn_20 (by decide) (fun cc => ?_) (fun cc => ?_)
        · have h := oi_f cc h
          refine lv_iconst (v := 0) hx hb dX1_devicesIn_29 (by decide) ?_
          refine lv_ior hx hb dX1_devicesIn_30 ?_
          refine lv_istore_n (lv' := [(2, .int (v2 ||| 0)), (0, .ref a_t), (1, .int x0), (3, .int v3)]) hx hb dX1_devicesIn_31 rfl hl (by decide) rfl (fun ls hl => ?_)
          refine lv_iinc (v := (v3 + 1)) (lv' := [(3, .int (v3 + 1)), (2, .int (v2 ||| 0)), (0, .ref a_t), (1, .int x0)]) hx hb dX1_devicesIn_32 hl (k := 3) rfl (by first | rfl | decide) (by decide) rfl (fun ls hl => ?_)
          refine lv_goto (tgt := 4) hx hb dX1_devicesIn_35 (by decide) ?_
          exact ih (v2 ||| 0) (v3 + 1) H locs ls hP hD hS (lv_sub hl [2, 3, 1, 0] rfl) q4 h kk
        · have h := oi_t cc h
          refine lv_iconst (v := 1) hx hb dX1_devicesIn_23 (by decide) ?_
          refine lv_iload_n hx hb dX1_devicesIn_24 rfl (lv_at hl 3 rfl) ?_
          refine lv_ishl hx hb dX1_devicesIn_25 ?_
          refine lv_goto (tgt := 30) hx hb dX1_devicesIn_26 (by decide) ?_
          refine lv_ior hx hb dX1_devicesIn_30 ?_
          refine lv_istore_n (lv' := [(2, .int (v2 ||| ((1 : Int32) <<< (v3 &&& 31)))), (0, .ref a_t), (1, .int x0), (3, .int v3)]) hx hb dX1_devicesIn_31 rfl hl (by decide) rfl (fun ls hl => ?_)
          refine lv_iinc (v := (v3 + 1)) (lv' := [(3, .int (v3 + 1)), (2, .int (v2 ||| ((1 : Int32) <<< (v3 &&& 31)))), (0, .ref a_t), (1, .int x0)]) hx hb dX1_devicesIn_32 hl (k := 3) rfl (by first | rfl | decide) (by decide) rfl (fun ls hl => ?_)
          refine lv_goto (tgt := 4) hx hb dX1_devicesIn_35 (by decide) ?_
          exact ih (v2 ||| ((1 : Int32) <<< (v3 &&& 31))) (v3 + 1) H locs ls hP hD hS (lv_sub hl [2, 3, 1, 0] rfl) q4 h kk
  refine lp4 1000 0 0 H locs ls hP hD hS (lv_sub hl [2, 3, 1, 0] rfl) q4 hq4 (fun H locs ls hP hD hS hl => ?_)
  refine lv_iload_n hx hb dX1_devicesIn_38 rfl (lv_at hl 0 rfl) ?_
  obtain rfl := Option.some.inj h
  exact hQ 39 H locs ls rfl hP hD hS dX1_devicesIn_39

def f_X1_wants (t_effectKind : FN) (t_effectZones : FN) (x0 : Int32) (x1 : Int32) : Option (Int32) := (if gi x0 6 then (if gi x0 6 then (if (t_effectKind (x0).toNatClampNeg) = 0 then (if ((t_effectZones (x0).toNatClampNeg) &&& x1) = 0 then some (0) else some (1)) else (if (t_effectKind (x0).toNatClampNeg) = 1 then (if gi x0 6 then (if ((t_effectZones (x0).toNatClampNeg) &&& x1) = (t_effectZones (x0).toNatClampNeg) then some (1) else some (0)) else none) else ((f_J6_bitCount_0f7a4 ((t_effectZones (x0).toNatClampNeg) &&& x1)).bind (fun u67 => (if u67 < 2 then some (0) else some (1)))))) else none) else none)
abbrev rm_X1_wants : Room := { frames := 1, cells := 0, slots := 0, locals := 20 }
theorem cd_X1_wants : (yX1_wants).cls = RX1 ∧ (yX1_wants).cls ≠ "java/lang/invoke/MethodHandle" ∧ (yX1_wants).cls ≠ "java/lang/invoke/VarHandle" ∧ (parseMethodDescriptor (yX1_wants).desc).map (fun d => d.parameters.length) = some 2 := by decide +kernel
set_option maxHeartbeats 4000000 in
set_option maxRecDepth 100000 in
theorem c_X1_wants (l : Launch) (D : va_G) (cI cS : ClassId) (a_t a_t_effectKind a_t_effectZones a_t_kind a_t_zoneOf a_t_delay : Nat) (sz : Nat) (t_devices : Int32) (t_isolators : Int32) (t_effects : Int32) (t_sounds : Int32) (t_pre : Int32) (t_alarm : Int32) (t_confirm : Int32) (t_pace : Int32) (t_phaseTicks : Int32) (t_effectKind : FN) (t_effectZones : FN) (x0 : Int32) (x1 : Int32) (out : Int32) (h : f_X1_wants t_effectKind t_effectZones x0 x1 = some out) : Met l yX1_wants wsX1_wants rm_X1_wants (va_Pc [.ref a_t, .int x0, .int x1] (GP D cI cS [(a_t, .inr (1, [.ref a_t_kind, .ref a_t_zoneOf, .ref a_t_effectKind, .ref a_t_effectZones, .ref a_t_delay, .int t_devices, .int t_isolators, .int t_effects, .int t_sounds, .int t_pre, .int t_alarm, .int t_confirm, .int t_pace, .int t_phaseTicks])), (a_t_effectKind, .inl (cI, 6, .inl t_effectKind)), (a_t_effectZones, .inl (cI, 6, .inl t_effectZones))] sz)) (QI D [(a_t, .inr (1, [.ref a_t_kind, .ref a_t_zoneOf, .ref a_t_effectKind, .ref a_t_effectZones, .ref a_t_delay, .int t_devices, .int t_isolators, .int t_effects, .int t_sounds, .int t_pre, .int t_alarm, .int t_confirm, .int t_pace, .int t_phaseTicks])), (a_t_effectKind, .inl (cI, 6, .inl t_effectKind)), (a_t_effectZones, .inl (cI, 6, .inl t_effectZones))] sz [(a_t, .inr (1, [.ref a_t_kind, .ref a_t_zoneOf, .ref a_t_effectKind, .ref a_t_effectZones, .ref a_t_delay, .int t_devices, .int t_isolators, .int t_effects, .int t_sounds, .int t_pre, .int t_alarm, .int t_confirm, .int t_pace, .int t_phaseTicks])), (a_t_effectKind, .inl (cI, 6, .inl t_effectKind)), (a_t_effectZones, .inl (cI, 6, .inl t_effectZones))] out) 0 0 (va_A [(a_t, .inr (1, [.ref a_t_kind, .ref a_t_zoneOf, .ref a_t_effectKind, .ref a_t_effectZones, .ref a_t_delay, .int t_devices, .int t_isolators, .int t_effects, .int t_sounds, .int t_pre, .int t_alarm, .int t_confirm, .int t_pace, .int t_phaseTicks])), (a_t_effectKind, .inl (cI, 6, .inl t_effectKind)), (a_t_effectZones, .inl (cI, 6, .inl t_effectZones))] sz) := by
  refine gm_i (cc := cX1_wants) (maxL := 4) (rt := .boolean) (by decide) rfl (Nat.le_of_ble_eq_true rfl) ?_
  intro p e s m args below meth c A Q H locs ls hx hb hml hown hts hK hN hA hP hD hS hl hQ
  have hown : s.vm.findClass RX1 = some m.cls := hown
  have hl : lv_has ls 4 [(0, .ref a_t), (1, .int x0), (2, .int x1)] := hl
  have inX1 : ∀ w ∈ wsX10, w ∈ wsX1_wants := by decide +kernel
  have k_0 := hts (.fieldLink RX1 21 "AlarmRing$Plan" "effectZones" "[I") (by decide +kernel)
  have k_1 := hts (.fieldLink RX1 18 "AlarmRing$Plan" "effectKind" "[I") (by decide +kernel)
  unfold f_X1_wants at h
  refine lv_aload_n hx hb dX1_wants_0 rfl (lv_at hl 0 rfl) ?_
  refine va_get (D := D) (ci := 1) (v := .ref a_t_effectZones) (C := RX1) (T := TX1) (N := 14) hx hb hts inX1 hown hK hP 0 rfl rfl 3 (by decide) k_0 (fun _ h9 => h9) rfl dX1_wants_1 ?_
  refine lv_iload_n hx hb dX1_wants_4 rfl (lv_at hl 1 rfl) ?_
  obtain ⟨gg, h⟩ := og h
  refine va_iald hx hb hK hP 2 0 rfl rfl gg dX1_wants_5 ?_
  refine lv_iload_n hx hb dX1_wants_6 rfl (lv_at hl 2 rfl) ?_
  refine lv_iand hx hb dX1_wants_7 ?_
  refine lv_istore_n (lv' := [(3, .int ((t_effectZones (x0).toNatClampNeg) &&& x1)), (0, .ref a_t), (1, .int x0), (2, .int x1)]) hx hb dX1_wants_8 rfl hl (by decide) rfl (fun ls hl => ?_)
  refine lv_aload_n hx hb dX1_wants_9 rfl (lv_at hl 1 rfl) ?_
  refine va_get (D := D) (ci := 1) (v := .ref a_t_effectKind) (C := RX1) (T := TX1) (N := 14) hx hb hts inX1 hown hK hP 0 rfl rfl 2 (by decide) k_1 (fun _ h9 => h9) rfl dX1_wants_10 ?_
  refine lv_iload_n hx hb dX1_wants_13 rfl (lv_at hl 2 rfl) ?_
  obtain ⟨gg, h⟩ := og h
  refine va_iald hx hb hK hP 1 0 rfl rfl gg dX1_wants_14 ?_
  by_cases c0 : (t_effectKind (x0).toNatClampNeg) = 0
  · have h := oi_t c0 h
    refine lv_lookup (tgt := 40) (off := 25) hx hb dX1_wants_15 (by decide) (by rw [c0]; rfl) (by decide) ?_
    refine lv_iload_n hx hb dX1_wants_40 rfl (lv_at hl 0 rfl) ?_
    refine lv_if_eq (tgt := 48) hx hb dX1_wants_41 (by decide) (fun cc => ?_) (fun cc => ?_)
    · have h := oi_t cc h
      refine lv_iconst (v := 0) hx hb dX1_wants_48 (by decide) ?_
      obtain rfl := Option.some.inj h
      exact hQ 49 H locs ls (nz (.inl rfl)) hP hD hS dX1_wants_49
    · have h := oi_f cc h
      refine lv_iconst (v := 1) hx hb dX1_wants_44 (by decide) ?_
      refine lv_goto (tgt := 49) hx hb dX1_wants_45 (by decide) ?_
      obtain rfl := Option.some.inj h
      exact hQ 49 H locs ls (nz (.inr rfl)) hP hD hS dX1_wants_49
  · have h := oi_f c0 h
    by_cases c1 : (t_effectKind (x0).toNatClampNeg) = 1
    · have h := oi_t c1 h
      refine lv_lookup (tgt := 50) (off := 35) hx hb dX1_wants_15 (by decide) (by rw [c1]; rfl) (by decide) ?_
      refine lv_iload_n hx hb dX1_wants_50 rfl (lv_at hl 0 rfl) ?_
      refine lv_aload_n hx hb dX1_wants_51 rfl (lv_at hl 1 rfl) ?_
      refine va_get (D := D) (ci := 1) (v := .ref a_t_effectZones) (C := RX1) (T := TX1) (N := 14) hx hb hts inX1 hown hK hP 0 rfl rfl 3 (by decide) k_0 (fun _ h9 => h9) rfl dX1_wants_52 ?_
      refine lv_iload_n hx hb dX1_wants_55 rfl (lv_at hl 2 rfl) ?_
      obtain ⟨gg, h⟩ := og h
      refine va_iald hx hb hK hP 2 0 rfl rfl gg dX1_wants_56 ?_
      refine lv_icmp_ne (tgt := 64) hx hb dX1_wants_57 (by decide) (fun cc => ?_) (fun cc => ?_)
      · have h := oi_f cc h
        refine lv_iconst (v := 0) hx hb dX1_wants_64 (by decide) ?_
        obtain rfl := Option.some.inj h
        exact hQ 65 H locs ls (nz (.inl rfl)) hP hD hS dX1_wants_65
      · have h := oi_t cc h
        refine lv_iconst (v := 1) hx hb dX1_wants_60 (by decide) ?_
        refine lv_goto (tgt := 65) hx hb dX1_wants_61 (by decide) ?_
        obtain rfl := Option.some.inj h
        exact hQ 65 H locs ls (nz (.inr rfl)) hP hD hS dX1_wants_65
    · have h := oi_f c1 h
      refine lv_lookup (tgt := 66) (off := 51) hx hb dX1_wants_15 (by decide) (by show Op.lookupswitch.offset [(0, 25), (1, 35)] _ _ = _; rw [lv_osw (k := 0) (a := 0) c0 (by decide), lv_osw (k := 1) (a := 1) c1 (by decide)]; rfl) (by decide) ?_
      refine lv_iload_n hx hb dX1_wants_66 rfl (lv_at hl 0 rfl) ?_
      obtain ⟨u67, hu67, h⟩ := ob h
      refine gS_i (wc := []) (wr := [(a_t, .inr (1, [.ref a_t_kind, .ref a_t_zoneOf, .ref a_t_effectKind, .ref a_t_effectZones, .ref a_t_delay, .int t_devices, .int t_isolators, .int t_effects, .int t_sounds, .int t_pre, .int t_alarm, .int t_confirm, .int t_pace, .int t_phaseTicks])), (a_t_effectKind, .inl (cI, 6, .inl t_effectKind)), (a_t_effectZones, .inl (cI, 6, .inl t_effectZones))]) (w1 := []) (v := u67) (As := [.int ((t_effectZones (x0).toNatClampNeg) &&& x1)]) (rest := []) ⟨hx, hb, hml, hown, hts⟩ (c_J6_bitCount_0f7a4 l D cI cS  H.size ((t_effectZones (x0).toNatClampNeg) &&& x1) u67 hu67) (va_cwS 1 hts gX1_wants_J6_bitCount_0f7a4 rfl rfl rfl cd_J6_bitCount_0f7a4 ⟨Nat.le_of_ble_eq_true rfl, Nat.le_of_ble_eq_true rfl⟩) hK hN hP hD hS hA [] [0, 1, 2] rfl rfl (by decide) (by decide) (by decide) rfl hl.1 rfl (Nat.le_of_ble_eq_true rfl) dX1_wants_67 ⟨Nat.zero_le _, Nat.zero_le _⟩ (fun H locs hP hD hS => ?_)
      have hP : va_P D vwCl [(a_t, .inr (1, [.ref a_t_kind, .ref a_t_zoneOf, .ref a_t_effectKind, .ref a_t_effectZones, .ref a_t_delay, .int t_devices, .int t_isolators, .int t_effects, .int t_sounds, .int t_pre, .int t_alarm, .int t_confirm, .int t_pace, .int t_phaseTicks])), (a_t_effectKind, .inl (cI, 6, .inl t_effectKind)), (a_t_effectZones, .inl (cI, 6, .inl t_effectZones))] H := hP
      have hD : va_D A [(a_t, .inr (1, [.ref a_t_kind, .ref a_t_zoneOf, .ref a_t_effectKind, .ref a_t_effectZones, .ref a_t_delay, .int t_devices, .int t_isolators, .int t_effects, .int t_sounds, .int t_pre, .int t_alarm, .int t_confirm, .int t_pace, .int t_phaseTicks])), (a_t_effectKind, .inl (cI, 6, .inl t_effectKind)), (a_t_effectZones, .inl (cI, 6, .inl t_effectZones))] := hD
      refine lv_iconst (v := 2) hx hb dX1_wants_70 (by decide) ?_
      refine lv_icmp_lt (tgt := 78) hx hb dX1_wants_71 (by decide) (fun cc => ?_) (fun cc => ?_)
      · have h := oi_t cc h
        refine lv_iconst (v := 0) hx hb dX1_wants_78 (by decide) ?_
        obtain rfl := Option.some.inj h
        exact hQ 79 H locs ls (nz (.inl rfl)) hP hD hS dX1_wants_79
      · have h := oi_f cc h
        refine lv_iconst (v := 1) hx hb dX1_wants_74 (by decide) ?_
        refine lv_goto (tgt := 79) hx hb dX1_wants_75 (by decide) ?_
        obtain rfl := Option.some.inj h
        exact hQ 79 H locs ls (nz (.inr rfl)) hP hD hS dX1_wants_79

def f_X1_basesGoOnIn (t_pace : Int32) (x0 : Int32) : Option (Int32) := (if t_pace ≤ 0 then some (0) else (if ¬ t_pace = 0 then (if (x0 - x0 / t_pace * t_pace) = 0 then some (1) else some (0)) else none))
abbrev rm_X1_basesGoOnIn : Room := { frames := 0, cells := 0, slots := 0, locals := 0 }
theorem cd_X1_basesGoOnIn : (yX1_basesGoOnIn).cls = RX1 ∧ (yX1_basesGoOnIn).cls ≠ "java/lang/invoke/MethodHandle" ∧ (yX1_basesGoOnIn).cls ≠ "java/lang/invoke/VarHandle" ∧ (parseMethodDescriptor (yX1_basesGoOnIn).desc).map (fun d => d.parameters.length) = some 1 := by decide +kernel
set_option maxHeartbeats 4000000 in
set_option maxRecDepth 100000 in
theorem c_X1_basesGoOnIn (l : Launch) (D : va_G) (cI cS : ClassId) (a_t a_t_kind a_t_zoneOf a_t_effectKind a_t_effectZones a_t_delay : Nat) (sz : Nat) (t_devices : Int32) (t_isolators : Int32) (t_effects : Int32) (t_sounds : Int32) (t_pre : Int32) (t_alarm : Int32) (t_confirm : Int32) (t_pace : Int32) (t_phaseTicks : Int32) (x0 : Int32) (out : Int32) (h : f_X1_basesGoOnIn t_pace x0 = some out) : Met l yX1_basesGoOnIn wsX1_basesGoOnIn rm_X1_basesGoOnIn (va_Pc [.ref a_t, .int x0] (GP D cI cS [(a_t, .inr (1, [.ref a_t_kind, .ref a_t_zoneOf, .ref a_t_effectKind, .ref a_t_effectZones, .ref a_t_delay, .int t_devices, .int t_isolators, .int t_effects, .int t_sounds, .int t_pre, .int t_alarm, .int t_confirm, .int t_pace, .int t_phaseTicks]))] sz)) (QI D [(a_t, .inr (1, [.ref a_t_kind, .ref a_t_zoneOf, .ref a_t_effectKind, .ref a_t_effectZones, .ref a_t_delay, .int t_devices, .int t_isolators, .int t_effects, .int t_sounds, .int t_pre, .int t_alarm, .int t_confirm, .int t_pace, .int t_phaseTicks]))] sz [(a_t, .inr (1, [.ref a_t_kind, .ref a_t_zoneOf, .ref a_t_effectKind, .ref a_t_effectZones, .ref a_t_delay, .int t_devices, .int t_isolators, .int t_effects, .int t_sounds, .int t_pre, .int t_alarm, .int t_confirm, .int t_pace, .int t_phaseTicks]))] out) 0 0 (va_A [(a_t, .inr (1, [.ref a_t_kind, .ref a_t_zoneOf, .ref a_t_effectKind, .ref a_t_effectZones, .ref a_t_delay, .int t_devices, .int t_isolators, .int t_effects, .int t_sounds, .int t_pre, .int t_alarm, .int t_confirm, .int t_pace, .int t_phaseTicks]))] sz) := by
  refine gm_i (cc := cX1_basesGoOnIn) (maxL := 2) (rt := .boolean) (by decide) rfl (Nat.le_of_ble_eq_true rfl) ?_
  intro p e s m args below meth c A Q H locs ls hx hb hml hown hts hK hN hA hP hD hS hl hQ
  have hown : s.vm.findClass RX1 = some m.cls := hown
  have hl : lv_has ls 2 [(0, .ref a_t), (1, .int x0)] := hl
  have inX1 : ∀ w ∈ wsX10, w ∈ wsX1_basesGoOnIn := by decide +kernel
  have k_0 := hts (.fieldLink RX1 49 "AlarmRing$Plan" "pace" "I") (by decide +kernel)
  unfold f_X1_basesGoOnIn at h
  refine lv_aload_n hx hb dX1_basesGoOnIn_0 rfl (lv_at hl 0 rfl) ?_
  refine va_get (D := D) (ci := 1) (v := .int t_pace) (C := RX1) (T := TX1) (N := 14) hx hb hts inX1 hown hK hP 0 rfl rfl 12 (by decide) k_0 (fun _ h9 => h9) rfl dX1_basesGoOnIn_1 ?_
  refine lv_if_le (tgt := 20) hx hb dX1_basesGoOnIn_4 (by decide) (fun cc => ?_) (fun cc => ?_)
  · have h := oi_t cc h
    refine lv_iconst (v := 0) hx hb dX1_basesGoOnIn_20 (by decide) ?_
    obtain rfl := Option.some.inj h
    exact hQ 21 H locs ls (nz (.inl rfl)) hP hD hS dX1_basesGoOnIn_21
  · have h := oi_f cc h
    refine lv_iload_n hx hb dX1_basesGoOnIn_7 rfl (lv_at hl 1 rfl) ?_
    refine lv_aload_n hx hb dX1_basesGoOnIn_8 rfl (lv_at hl 0 rfl) ?_
    refine va_get (D := D) (ci := 1) (v := .int t_pace) (C := RX1) (T := TX1) (N := 14) hx hb hts inX1 hown hK hP 0 rfl rfl 12 (by decide) k_0 (fun _ h9 => h9) rfl dX1_basesGoOnIn_9 ?_
    obtain ⟨gg, h⟩ := og h
    refine lv_irem hx hb dX1_basesGoOnIn_12 gg ?_
    refine lv_if_ne (tgt := 20) hx hb dX1_basesGoOnIn_13 (by decide) (fun cc => ?_) (fun cc => ?_)
    · have h := oi_f cc h
      refine lv_iconst (v := 0) hx hb dX1_basesGoOnIn_20 (by decide) ?_
      obtain rfl := Option.some.inj h
      exact hQ 21 H locs ls (nz (.inl rfl)) hP hD hS dX1_basesGoOnIn_21
    · have h := oi_t cc h
      refine lv_iconst (v := 1) hx hb dX1_basesGoOnIn_16 (by decide) ?_
      refine lv_goto (tgt := 21) hx hb dX1_basesGoOnIn_17 (by decide) ?_
      obtain rfl := Option.some.inj h
      exact hQ 21 H locs ls (nz (.inr rfl)) hP hD hS dX1_basesGoOnIn_21
