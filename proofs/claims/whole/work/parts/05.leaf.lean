def iush (x y : Int32) : Int32 := (x.toUInt32 >>> (y.toUInt32 &&& Int32.toUInt32 31)).toInt32
theorem nz {v : Int32} (h : v = 0 ∨ v = 1) : narrow .boolean (.int v) = .int v := by rcases h with h | h <;> rw [h] <;> rfl

def f_J6_bitCount_0f7a4 (x0 : Int32) : Option (Int32) := some (((((((((x0 - ((iush x0 1) &&& 1431655765)) &&& 858993459) + ((iush (x0 - ((iush x0 1) &&& 1431655765)) 2) &&& 858993459)) + (iush (((x0 - ((iush x0 1) &&& 1431655765)) &&& 858993459) + ((iush (x0 - ((iush x0 1) &&& 1431655765)) 2) &&& 858993459)) 4)) &&& 252645135) + (iush (((((x0 - ((iush x0 1) &&& 1431655765)) &&& 858993459) + ((iush (x0 - ((iush x0 1) &&& 1431655765)) 2) &&& 858993459)) + (iush (((x0 - ((iush x0 1) &&& 1431655765)) &&& 858993459) + ((iush (x0 - ((iush x0 1) &&& 1431655765)) 2) &&& 858993459)) 4)) &&& 252645135) 8)) + (iush ((((((x0 - ((iush x0 1) &&& 1431655765)) &&& 858993459) + ((iush (x0 - ((iush x0 1) &&& 1431655765)) 2) &&& 858993459)) + (iush (((x0 - ((iush x0 1) &&& 1431655765)) &&& 858993459) + ((iush (x0 - ((iush x0 1) &&& 1431655765)) 2) &&& 858993459)) 4)) &&& 252645135) + (iush (((((x0 - ((iush x0 1) &&& 1431655765)) &&& 858993459) + ((iush (x0 - ((iush x0 1) &&& 1431655765)) 2) &&& 858993459)) + (iush (((x0 - ((iush x0 1) &&& 1431655765)) &&& 858993459) + ((iush (x0 - ((iush x0 1) &&& 1431655765)) 2) &&& 858993459)) 4)) &&& 252645135) 8)) 16)) &&& 63))
abbrev rm_J6_bitCount_0f7a4 : Room := { frames := 0, cells := 0, slots := 0, locals := 0 }
theorem cd_J6_bitCount_0f7a4 : (yJ6_bitCount_0f7a4).cls ≠ "java/lang/invoke/MethodHandle" ∧ (yJ6_bitCount_0f7a4).cls ≠ "java/lang/invoke/VarHandle" ∧ (parseMethodDescriptor (yJ6_bitCount_0f7a4).desc).map (fun d => d.parameters.length) = some 1 := by decide +kernel
set_option maxHeartbeats 4000000 in
set_option maxRecDepth 100000 in
theorem c_J6_bitCount_0f7a4 (l : Launch) (D : va_G) (cI cS : ClassId) (sz : Nat) (x0 : Int32) (out : Int32) (h : f_J6_bitCount_0f7a4 x0 = some out) : Met l yJ6_bitCount_0f7a4 wsJ6_bitCount_0f7a4 rm_J6_bitCount_0f7a4 (va_Pc [.int x0] (GP D cI cS [] sz)) (QI D [] sz [] out) 0 0 (va_A [] sz) := by
  refine gm_i (cc := cJ6_bitCount_0f7a4) (maxL := 1) (rt := .int) (by decide) rfl (Nat.le_of_ble_eq_true rfl) ?_
  intro p e s m args below meth c A Q H locs ls hx hb hml hown hts hK hN hA hP hD hS hl hQ
  have hown : s.vm.findClass RJ6 = some m.cls := hown
  have hl : lv_has ls 1 [(0, .int x0)] := hl
  have k_0 := hts (.constant RJ6 265 (1431655765)) (by decide +kernel)
  have k_1 := hts (.constant RJ6 266 (858993459)) (by decide +kernel)
  have k_2 := hts (.constant RJ6 267 (252645135)) (by decide +kernel)
  unfold f_J6_bitCount_0f7a4 at h
  refine lv_iload_n hx hb dJ6_bitCount_0f7a4_0 rfl (lv_at hl 0 rfl) ?_
  refine lv_iload_n hx hb dJ6_bitCount_0f7a4_1 rfl (lv_at hl 0 rfl) ?_
  refine lv_iconst (v := 1) hx hb dJ6_bitCount_0f7a4_2 (by decide) ?_
  refine lv_iushr (v := (iush x0 1)) hx hb dJ6_bitCount_0f7a4_3 rfl ?_
  refine lv_ldcw (v := 1431655765) hx hb hown k_0 dJ6_bitCount_0f7a4_4 ?_
  refine lv_iand hx hb dJ6_bitCount_0f7a4_7 ?_
  refine lv_isub hx hb dJ6_bitCount_0f7a4_8 ?_
  refine lv_istore_n (lv' := [(0, .int (x0 - ((iush x0 1) &&& 1431655765)))]) hx hb dJ6_bitCount_0f7a4_9 rfl hl (by decide) rfl (fun ls hl => ?_)
  refine lv_iload_n hx hb dJ6_bitCount_0f7a4_10 rfl (lv_at hl 0 rfl) ?_
  refine lv_ldcw (v := 858993459) hx hb hown k_1 dJ6_bitCount_0f7a4_11 ?_
  refine lv_iand hx hb dJ6_bitCount_0f7a4_14 ?_
  refine lv_iload_n hx hb dJ6_bitCount_0f7a4_15 rfl (lv_at hl 0 rfl) ?_
  refine lv_iconst (v := 2) hx hb dJ6_bitCount_0f7a4_16 (by decide) ?_
  refine lv_iushr (v := (iush (x0 - ((iush x0 1) &&& 1431655765)) 2)) hx hb dJ6_bitCount_0f7a4_17 rfl ?_
  refine lv_ldcw (v := 858993459) hx hb hown k_1 dJ6_bitCount_0f7a4_18 ?_
  refine lv_iand hx hb dJ6_bitCount_0f7a4_21 ?_
  refine lv_iadd hx hb dJ6_bitCount_0f7a4_22 ?_
  refine lv_istore_n (lv' := [(0, .int (((x0 - ((iush x0 1) &&& 1431655765)) &&& 858993459) + ((iush (x0 - ((iush x0 1) &&& 1431655765)) 2) &&& 858993459)))]) hx hb dJ6_bitCount_0f7a4_23 rfl hl (by decide) rfl (fun ls hl => ?_)
  refine lv_iload_n hx hb dJ6_bitCount_0f7a4_24 rfl (lv_at hl 0 rfl) ?_
  refine lv_iload_n hx hb dJ6_bitCount_0f7a4_25 rfl (lv_at hl 0 rfl) ?_
  refine lv_iconst (v := 4) hx hb dJ6_bitCount_0f7a4_26 (by decide) ?_
  refine lv_iushr (v := (iush (((x0 - ((iush x0 1) &&& 1431655765)) &&& 858993459) + ((iush (x0 - ((iush x0 1) &&& 1431655765)) 2) &&& 858993459)) 4)) hx hb dJ6_bitCount_0f7a4_27 rfl ?_
  refine lv_iadd hx hb dJ6_bitCount_0f7a4_28 ?_
  refine lv_ldcw (v := 252645135) hx hb hown k_2 dJ6_bitCount_0f7a4_29 ?_
  refine lv_iand hx hb dJ6_bitCount_0f7a4_32 ?_
  refine lv_istore_n (lv' := [(0, .int (((((x0 - ((iush x0 1) &&& 1431655765)) &&& 858993459) + ((iush (x0 - ((iush x0 1) &&& 1431655765)) 2) &&& 858993459)) + (iush (((x0 - ((iush x0 1) &&& 1431655765)) &&& 858993459) + ((iush (x0 - ((iush x0 1) &&& 1431655765)) 2) &&& 858993459)) 4)) &&& 252645135))]) hx hb dJ6_bitCount_0f7a4_33 rfl hl (by decide) rfl (fun ls hl => ?_)
  refine lv_iload_n hx hb dJ6_bitCount_0f7a4_34 rfl (lv_at hl 0 rfl) ?_
  refine lv_iload_n hx hb dJ6_bitCount_0f7a4_35 rfl (lv_at hl 0 rfl) ?_
  refine lv_bipush (v := 8) hx hb dJ6_bitCount_0f7a4_36 (by decide) ?_
  refine lv_iushr (v := (iush (((((x0 - ((iush x0 1) &&& 1431655765)) &&& 858993459) + ((iush (x0 - ((iush x0 1) &&& 1431655765)) 2) &&& 858993459)) + (iush (((x0 - ((iush x0 1) &&& 1431655765)) &&& 858993459) + ((iush (x0 - ((iush x0 1) &&& 1431655765)) 2) &&& 858993459)) 4)) &&& 252645135) 8)) hx hb dJ6_bitCount_0f7a4_38 rfl ?_
  refine lv_iadd hx hb dJ6_bitCount_0f7a4_39 ?_
  refine lv_istore_n (lv' := [(0, .int ((((((x0 - ((iush x0 1) &&& 1431655765)) &&& 858993459) + ((iush (x0 - ((iush x0 1) &&& 1431655765)) 2) &&& 858993459)) + (iush (((x0 - ((iush x0 1) &&& 1431655765)) &&& 858993459) + ((iush (x0 - ((iush x0 1) &&& 1431655765)) 2) &&& 858993459)) 4)) &&& 252645135) + (iush (((((x0 - ((iush x0 1) &&& 1431655765)) &&& 858993459) + ((iush (x0 - ((iush x0 1) &&& 1431655765)) 2) &&& 858993459)) + (iush (((x0 - ((iush x0 1) &&& 1431655765)) &&& 858993459) + ((iush (x0 - ((iush x0 1) &&& 1431655765)) 2) &&& 858993459)) 4)) &&& 252645135) 8)))]) hx hb dJ6_bitCount_0f7a4_40 rfl hl (by decide) rfl (fun ls hl => ?_)
  refine lv_iload_n hx hb dJ6_bitCount_0f7a4_41 rfl (lv_at hl 0 rfl) ?_
  refine lv_iload_n hx hb dJ6_bitCount_0f7a4_42 rfl (lv_at hl 0 rfl) ?_
  refine lv_bipush (v := 16) hx hb dJ6_bitCount_0f7a4_43 (by decide) ?_
  refine lv_iushr (v := (iush ((((((x0 - ((iush x0 1) &&& 1431655765)) &&& 858993459) + ((iush (x0 - ((iush x0 1) &&& 1431655765)) 2) &&& 858993459)) + (iush (((x0 - ((iush x0 1) &&& 1431655765)) &&& 858993459) + ((iush (x0 - ((iush x0 1) &&& 1431655765)) 2) &&& 858993459)) 4)) &&& 252645135) + (iush (((((x0 - ((iush x0 1) &&& 1431655765)) &&& 858993459) + ((iush (x0 - ((iush x0 1) &&& 1431655765)) 2) &&& 858993459)) + (iush (((x0 - ((iush x0 1) &&& 1431655765)) &&& 858993459) + ((iush (x0 - ((iush x0 1) &&& 1431655765)) 2) &&& 858993459)) 4)) &&& 252645135) 8)) 16)) hx hb dJ6_bitCount_0f7a4_45 rfl ?_
  refine lv_iadd hx hb dJ6_bitCount_0f7a4_46 ?_
  refine lv_istore_n (lv' := [(0, .int (((((((x0 - ((iush x0 1) &&& 1431655765)) &&& 858993459) + ((iush (x0 - ((iush x0 1) &&& 1431655765)) 2) &&& 858993459)) + (iush (((x0 - ((iush x0 1) &&& 1431655765)) &&& 858993459) + ((iush (x0 - ((iush x0 1) &&& 1431655765)) 2) &&& 858993459)) 4)) &&& 252645135) + (iush (((((x0 - ((iush x0 1) &&& 1431655765)) &&& 858993459) + ((iush (x0 - ((iush x0 1) &&& 1431655765)) 2) &&& 858993459)) + (iush (((x0 - ((iush x0 1) &&& 1431655765)) &&& 858993459) + ((iush (x0 - ((iush x0 1) &&& 1431655765)) 2) &&& 858993459)) 4)) &&& 252645135) 8)) + (iush ((((((x0 - ((iush x0 1) &&& 1431655765)) &&& 858993459) + ((iush (x0 - ((iush x0 1) &&& 1431655765)) 2) &&& 858993459)) + (iush (((x0 - ((iush x0 1) &&& 1431655765)) &&& 858993459) + ((iush (x0 - ((iush x0 1) &&& 1431655765)) 2) &&& 858993459)) 4)) &&& 252645135) + (iush (((((x0 - ((iush x0 1) &&& 1431655765)) &&& 858993459) + ((iush (x0 - ((iush x0 1) &&& 1431655765)) 2) &&& 858993459)) + (iush (((x0 - ((iush x0 1) &&& 1431655765)) &&& 858993459) + ((iush (x0 - ((iush x0 1) &&& 1431655765)) 2) &&& 858993459)) 4)) &&& 252645135) 8)) 16)))]) hx hb dJ6_bitCount_0f7a4_47 rfl hl (by decide) rfl (fun ls hl => ?_)
  refine lv_iload_n hx hb dJ6_bitCount_0f7a4_48 rfl (lv_at hl 0 rfl) ?_
  refine lv_bipush (v := 63) hx hb dJ6_bitCount_0f7a4_49 (by decide) ?_
  refine lv_iand hx hb dJ6_bitCount_0f7a4_51 ?_
  obtain rfl := Option.some.inj h
  exact hQ 52 H locs ls rfl hP hD hS dJ6_bitCount_0f7a4_52

def f_X5_within (x0 : Int32) (x1 : Int32) (x2 : Int32) : Option (Int32) := (if x0 < x1 then some (0) else (if x2 < x0 then some (0) else some (1)))
abbrev rm_X5_within : Room := { frames := 0, cells := 0, slots := 0, locals := 0 }
theorem cd_X5_within : (yX5_within).cls ≠ "java/lang/invoke/MethodHandle" ∧ (yX5_within).cls ≠ "java/lang/invoke/VarHandle" ∧ (parseMethodDescriptor (yX5_within).desc).map (fun d => d.parameters.length) = some 3 := by decide +kernel
set_option maxHeartbeats 4000000 in
set_option maxRecDepth 100000 in
theorem c_X5_within (l : Launch) (D : va_G) (cI cS : ClassId) (sz : Nat) (x0 : Int32) (x1 : Int32) (x2 : Int32) (out : Int32) (h : f_X5_within x0 x1 x2 = some out) : Met l yX5_within wsX5_within rm_X5_within (va_Pc [.int x0, .int x1, .int x2] (GP D cI cS [] sz)) (QI D [] sz [] out) 0 0 (va_A [] sz) := by
  refine gm_i (cc := cX5_within) (maxL := 3) (rt := .boolean) (by decide) rfl (Nat.le_of_ble_eq_true rfl) ?_
  intro p e s m args below meth c A Q H locs ls hx hb hml hown hts hK hN hA hP hD hS hl hQ
  have hown : s.vm.findClass RX5 = some m.cls := hown
  have hl : lv_has ls 3 [(0, .int x0), (1, .int x1), (2, .int x2)] := hl
  unfold f_X5_within at h
  refine lv_iload_n hx hb dX5_within_0 rfl (lv_at hl 0 rfl) ?_
  refine lv_iload_n hx hb dX5_within_1 rfl (lv_at hl 1 rfl) ?_
  refine lv_icmp_lt (tgt := 14) hx hb dX5_within_2 (by decide) (fun cc => ?_) (fun cc => ?_)
  · have h := oi_t cc h
    refine lv_iconst (v := 0) hx hb dX5_within_14 (by decide) ?_
    obtain rfl := Option.some.inj h
    exact hQ 15 H locs ls (nz (.inl rfl)) hP hD hS dX5_within_15
  · have h := oi_f cc h
    refine lv_iload_n hx hb dX5_within_5 rfl (lv_at hl 0 rfl) ?_
    refine lv_iload_n hx hb dX5_within_6 rfl (lv_at hl 2 rfl) ?_
    refine lv_icmp_gt (tgt := 14) hx hb dX5_within_7 (by decide) (fun cc => ?_) (fun cc => ?_)
    · have h := oi_t cc h
      refine lv_iconst (v := 0) hx hb dX5_within_14 (by decide) ?_
      obtain rfl := Option.some.inj h
      exact hQ 15 H locs ls (nz (.inl rfl)) hP hD hS dX5_within_15
    · have h := oi_f cc h
      refine lv_iconst (v := 1) hx hb dX5_within_10 (by decide) ?_
      refine lv_goto (tgt := 15) hx hb dX5_within_11 (by decide) ?_
      obtain rfl := Option.some.inj h
      exact hQ 15 H locs ls (nz (.inr rfl)) hP hD hS dX5_within_15

def f_X5_bit (x0 : Int32) (x1 : Int32) : Option (Int32) := some (((x0 >>> (x1 &&& 31)) &&& 1))
abbrev rm_X5_bit : Room := { frames := 0, cells := 0, slots := 0, locals := 0 }
theorem cd_X5_bit : (yX5_bit).cls ≠ "java/lang/invoke/MethodHandle" ∧ (yX5_bit).cls ≠ "java/lang/invoke/VarHandle" ∧ (parseMethodDescriptor (yX5_bit).desc).map (fun d => d.parameters.length) = some 2 := by decide +kernel
set_option maxHeartbeats 4000000 in
set_option maxRecDepth 100000 in
theorem c_X5_bit (l : Launch) (D : va_G) (cI cS : ClassId) (sz : Nat) (x0 : Int32) (x1 : Int32) (out : Int32) (h : f_X5_bit x0 x1 = some out) : Met l yX5_bit wsX5_bit rm_X5_bit (va_Pc [.int x0, .int x1] (GP D cI cS [] sz)) (QI D [] sz [] out) 0 0 (va_A [] sz) := by
  refine gm_i (cc := cX5_bit) (maxL := 2) (rt := .int) (by decide) rfl (Nat.le_of_ble_eq_true rfl) ?_
  intro p e s m args below meth c A Q H locs ls hx hb hml hown hts hK hN hA hP hD hS hl hQ
  have hown : s.vm.findClass RX5 = some m.cls := hown
  have hl : lv_has ls 2 [(0, .int x0), (1, .int x1)] := hl
  unfold f_X5_bit at h
  refine lv_iload_n hx hb dX5_bit_0 rfl (lv_at hl 0 rfl) ?_
  refine lv_iload_n hx hb dX5_bit_1 rfl (lv_at hl 1 rfl) ?_
  refine lv_ishr hx hb dX5_bit_2 ?_
  refine lv_iconst (v := 1) hx hb dX5_bit_3 (by decide) ?_
  refine lv_iand hx hb dX5_bit_4 ?_
  obtain rfl := Option.some.inj h
  exact hQ 5 H locs ls rfl hP hD hS dX5_bit_5

def f_X2_deadWires_8 (x0 : Int32) (x1 : Int32) (x2 : Int32) : Nat → Int32 → Int32 → Int32 → Option (Int32)
  | 0, _, _, _ => none
  | n + 1, v3, v4, v5 => (if x0 < v5 then some (v3) else (((if v5 = x0 then some (1) else ((f_X5_bit x1 v5).bind (fun u32 => (if u32 = 1 then some (1) else some (0)))))).bind (fun (u44 : Int32) => (if u44 = 0 then f_X2_deadWires_8 x0 x1 x2 n v3 (v4 ||| ((1 : Int32) <<< (v5 &&& 31))) (v5 + 1) else (if ((v4 ||| ((1 : Int32) <<< (v5 &&& 31))) &&& x2) = 0 then f_X2_deadWires_8 x0 x1 x2 n (v3 ||| 0) 0 (v5 + 1) else f_X2_deadWires_8 x0 x1 x2 n (v3 ||| (v4 ||| ((1 : Int32) <<< (v5 &&& 31)))) 0 (v5 + 1))))))
def f_X2_deadWires (x0 : Int32) (x1 : Int32) (x2 : Int32) : Option (Int32) := ((f_X2_deadWires_8 x0 x1 x2 1000 0 0 0).bind (fun (q8 : Int32) => some (q8)))
abbrev rm_X2_deadWires : Room := { frames := 1, cells := 0, slots := 0, locals := 21 }
theorem cd_X2_deadWires : (yX2_deadWires).cls ≠ "java/lang/invoke/MethodHandle" ∧ (yX2_deadWires).cls ≠ "java/lang/invoke/VarHandle" ∧ (parseMethodDescriptor (yX2_deadWires).desc).map (fun d => d.parameters.length) = some 3 := by decide +kernel
set_option maxHeartbeats 4000000 in
set_option maxRecDepth 100000 in
theorem c_X2_deadWires (l : Launch) (D : va_G) (cI cS : ClassId) (sz : Nat) (x0 : Int32) (x1 : Int32) (x2 : Int32) (out : Int32) (h : f_X2_deadWires x0 x1 x2 = some out) : Met l yX2_deadWires wsX2_deadWires rm_X2_deadWires (va_Pc [.int x0, .int x1, .int x2] (GP D cI cS [] sz)) (QI D [] sz [] out) 0 0 (va_A [] sz) := by
  refine gm_i (cc := cX2_deadWires) (maxL := 7) (rt := .int) (by decide) rfl (Nat.le_of_ble_eq_true rfl) ?_
  intro p e s m args below meth c A Q H locs ls hx hb hml hown hts hK hN hA hP hD hS hl hQ
  have hown : s.vm.findClass RX2 = some m.cls := hown
  have hl : lv_has ls 7 [(0, .int x0), (1, .int x1), (2, .int x2)] := hl
  have k_0 := hts (.initialized RX5) (by decide +kernel)
  have k_1 := hts (.static yX5_bit) (by decide +kernel)
  unfold f_X2_deadWires at h
  refine lv_iconst (v := 0) hx hb dX2_deadWires_0 (by decide) ?_
  refine lv_istore_n (lv' := [(3, .int 0), (0, .int x0), (1, .int x1), (2, .int x2)]) hx hb dX2_deadWires_1 rfl hl (by decide) rfl (fun ls hl => ?_)
  refine lv_iconst (v := 0) hx hb dX2_deadWires_2 (by decide) ?_
  refine lv_istore (lv' := [(4, .int 0), (3, .int 0), (0, .int x0), (1, .int x1), (2, .int x2)]) hx hb dX2_deadWires_3 hl (by decide) rfl (fun ls hl => ?_)
  refine lv_iconst (v := 0) hx hb dX2_deadWires_5 (by decide) ?_
  refine lv_istore (lv' := [(5, .int 0), (4, .int 0), (3, .int 0), (0, .int x0), (1, .int x1), (2, .int x2)]) hx hb dX2_deadWires_6 hl (by decide) rfl (fun ls hl => ?_)
  obtain ⟨q8, hq8, h⟩ := ob h
  have lp8 : ∀ (n : Nat) (v3 : Int32) (v4 : Int32) (v5 : Int32) (H : Heap) (locs : List Loc) (ls : Array Slot), va_P D vwCl [] H → va_D A [] → va_S A s.heap H locs → lv_has ls 7 [(0, .int x0), (1, .int x1), (2, .int x2), (3, .int v3), (4, .int v4), (5, .int v5)] → ∀ (q8 : Int32), f_X2_deadWires_8 x0 x1 x2 n v3 v4 v5 = some q8 → (∀ (H : Heap) (locs : List Loc) (ls : Array Slot), va_P D vwCl [] H → va_D A [] → va_S A s.heap H locs → lv_has ls 7 [(3, .int q8)] → W p l e rm_X2_deadWires s m args below meth c H locs 0 0 Q (F0 m 76 ls [])) → W p l e rm_X2_deadWires s m args below meth c H locs 0 0 Q (F0 m 8 ls []) := by
    intro n
    induction n with
    | zero => intro v3 v4 v5 H locs ls hP hD hS hl q8 h kk; exact on_ h
    | succ n ih =>
      intro v3 v4 v5 H locs ls hP hD hS hl q8 h kk
      rw [f_X2_deadWires_8] at h
      refine lv_iload hx hb dX2_deadWires_8 (lv_at hl 5 rfl) ?_
      refine lv_iload_n hx hb dX2_deadWires_10 rfl (lv_at hl 0 rfl) ?_
      refine lv_icmp_gt (tgt := 76) hx hb dX2_deadWires_11 (by decide) (fun cc => ?_) (fun cc => ?_)
      · have h := oi_t cc h
        obtain rfl := Option.some.inj h
        exact kk H locs ls hP hD hS (lv_sub hl [3] rfl)
      · have h := oi_f cc h
        refine lv_iload hx hb dX2_deadWires_14 (lv_at hl 4 rfl) ?_
        refine lv_iconst (v := 1) hx hb dX2_deadWires_16 (by decide) ?_
        refine lv_iload hx hb dX2_deadWires_17 (lv_at hl 5 rfl) ?_
        refine lv_ishl hx hb dX2_deadWires_19 ?_
        refine lv_ior hx hb dX2_deadWires_20 ?_
        refine lv_istore (lv' := [(4, .int (v4 ||| ((1 : Int32) <<< (v5 &&& 31)))), (0, .int x0), (1, .int x1), (2, .int x2), (3, .int v3), (5, .int v5)]) hx hb dX2_deadWires_21 hl (by decide) rfl (fun ls hl => ?_)
        refine lv_iload hx hb dX2_deadWires_23 (lv_at hl 5 rfl) ?_
        refine lv_iload_n hx hb dX2_deadWires_25 rfl (lv_at hl 1 rfl) ?_
        obtain ⟨u44, hj44, h⟩ := ob h
        have jn44 : ∀ (H : Heap) (locs : List Loc) (ls : Array Slot), va_P D vwCl [] H → va_D A [] → va_S A s.heap H locs → lv_has ls 7 [(0, .int x0), (1, .int x1), (2, .int x2), (3, .int v3), (4, .int (v4 ||| ((1 : Int32) <<< (v5 &&& 31)))), (5, .int v5)] → W p l e rm_X2_deadWires s m args below meth c H locs 0 0 Q (F0 m 44 ls [.int u44]) := by
          intro H locs ls hP hD hS hl
          refine lv_istore (lv' := [(6, .int u44), (0, .int x0), (1, .int x1), (2, .int x2), (3, .int v3), (4, .int (v4 ||| ((1 : Int32) <<< (v5 &&& 31)))), (5, .int v5)]) hx hb dX2_deadWires_44 hl (by decide) rfl (fun ls hl => ?_)
          refine lv_iload hx hb dX2_deadWires_46 (lv_at hl 0 rfl) ?_
          refine lv_if_eq (tgt := 70) hx hb dX2_deadWires_48 (by decide) (fun cc => ?_) (fun cc => ?_)
          · have h := oi_t cc h
            refine lv_iinc (v := (v5 + 1)) (lv' := [(5, .int (v5 + 1)), (6, .int u44), (0, .int x0), (1, .int x1), (2, .int x2), (3, .int v3), (4, .int (v4 ||| ((1 : Int32) <<< (v5 &&& 31))))]) hx hb dX2_deadWires_70 hl (k := 6) rfl (by first | rfl | decide) (by decide) rfl (fun ls hl => ?_)
            refine lv_goto (tgt := 8) hx hb dX2_deadWires_73 (by decide) ?_
            exact ih v3 (v4 ||| ((1 : Int32) <<< (v5 &&& 31))) (v5 + 1) H locs ls hP hD hS (lv_sub hl [2, 3, 4, 5, 6, 0] rfl) q8 h kk
          · have h := oi_f cc h
            refine lv_iload_n hx hb dX2_deadWires_51 rfl (lv_at hl 4 rfl) ?_
            refine lv_iload hx hb dX2_deadWires_52 (lv_at hl 5 rfl) ?_
            refine lv_iload_n hx hb dX2_deadWires_54 rfl (lv_at hl 3 rfl) ?_
            refine lv_iand hx hb dX2_deadWires_55 ?_
            refine lv_if_eq (tgt := 64) hx hb dX2_deadWires_56 (by decide) (fun cc => ?_) (fun cc => ?_)
            · have h := oi_t cc h
              refine lv_iconst (v := 0) hx hb dX2_deadWires_64 (by decide) ?_
              refine lv_ior hx hb dX2_deadWires_65 ?_
              refine lv_istore_n (lv' := [(3, .int (v3 ||| 0)), (6, .int u44), (0, .int x0), (1, .int x1), (2, .int x2), (4, .int (v4 ||| ((1 : Int32) <<< (v5 &&& 31)))), (5, .int v5)]) hx hb dX2_deadWires_66 rfl hl (by decide) rfl (fun ls hl => ?_)
              refine lv_iconst (v := 0) hx hb dX2_deadWires_67 (by decide) ?_
              refine lv_istore (lv' := [(4, .int 0), (3, .int (v3 ||| 0)), (6, .int u44), (0, .int x0), (1, .int x1), (2, .int x2), (5, .int v5)]) hx hb dX2_deadWires_68 hl (by decide) rfl (fun ls hl => ?_)
              refine lv_iinc (v := (v5 + 1)) (lv' := [(5, .int (v5 + 1)), (4, .int 0), (3, .int (v3 ||| 0)), (6, .int u44), (0, .int x0), (1, .int x1), (2, .int x2)]) hx hb dX2_deadWires_70 hl (k := 6) rfl (by first | rfl | decide) (by decide) rfl (fun ls hl => ?_)
              refine lv_goto (tgt := 8) hx hb dX2_deadWires_73 (by decide) ?_
              exact ih (v3 ||| 0) 0 (v5 + 1) H locs ls hP hD hS (lv_sub hl [4, 5, 6, 2, 1, 0] rfl) q8 h kk
            · have h := oi_f cc h
              refine lv_iload hx hb dX2_deadWires_59 (lv_at hl 5 rfl) ?_
              refine lv_goto (tgt := 65) hx hb dX2_deadWires_61 (by decide) ?_
              refine lv_ior hx hb dX2_deadWires_65 ?_
              refine lv_istore_n (lv' := [(3, .int (v3 ||| (v4 ||| ((1 : Int32) <<< (v5 &&& 31))))), (6, .int u44), (0, .int x0), (1, .int x1), (2, .int x2), (4, .int (v4 ||| ((1 : Int32) <<< (v5 &&& 31)))), (5, .int v5)]) hx hb dX2_deadWires_66 rfl hl (by decide) rfl (fun ls hl => ?_)
              refine lv_iconst (v := 0) hx hb dX2_deadWires_67 (by decide) ?_
              refine lv_istore (lv' := [(4, .int 0), (3, .int (v3 ||| (v4 ||| ((1 : Int32) <<< (v5 &&& 31))))), (6, .int u44), (0, .int x0), (1, .int x1), (2, .int x2), (5, .int v5)]) hx hb dX2_deadWires_68 hl (by decide) rfl (fun ls hl => ?_)
              refine lv_iinc (v := (v5 + 1)) (lv' := [(5, .int (v5 + 1)), (4, .int 0), (3, .int (v3 ||| (v4 ||| ((1 : Int32) <<< (v5 &&& 31))))), (6, .int u44), (0, .int x0), (1, .int x1), (2, .int x2)]) hx hb dX2_deadWires_70 hl (k := 6) rfl (by first | rfl | decide) (by decide) rfl (fun ls hl => ?_)
              refine lv_goto (tgt := 8) hx hb dX2_deadWires_73 (by decide) ?_
              exact ih (v3 ||| (v4 ||| ((1 : Int32) <<< (v5 &&& 31)))) 0 (v5 + 1) H locs ls hP hD hS (lv_sub hl [4, 5, 6, 2, 1, 0] rfl) q8 h kk
        have h := hj44
        refine lv_icmp_eq (tgt := 39) hx hb dX2_deadWires_26 (by decide) (fun cc => ?_) (fun cc => ?_)
        · have h := oi_t cc h
          refine lv_iconst (v := 1) hx hb dX2_deadWires_39 (by decide) ?_
          refine lv_goto (tgt := 44) hx hb dX2_deadWires_40 (by decide) ?_
          obtain rfl := Option.some.inj h
          exact jn44 H locs ls hP hD hS (lv_sub hl [1, 2, 3, 4, 0, 5] rfl)
        · have h := oi_f cc h
          refine lv_iload_n hx hb dX2_deadWires_29 rfl (lv_at hl 2 rfl) ?_
          refine lv_iload hx hb dX2_deadWires_30 (lv_at hl 5 rfl) ?_
          obtain ⟨u32, hu32, h⟩ := ob h
          refine gN_i (wc := []) (wr := []) (w1 := []) (v := u32) (As := [.int x1, .int v5]) (rest := []) ⟨hx, hb, hml, hown, hts⟩ (c_X5_bit l D cI cS  H.size x1 v5 u32 hu32) ⟨va_cnB 2 hts gX2_deadWires_X5_bit_n9 rfl rfl rfl hN.2.1 k_0 cd_X5_bit ⟨Nat.le_of_ble_eq_true rfl, Nat.le_of_ble_eq_true rfl⟩, k_1, trivial⟩ hK hN hP hD hS hA [] [] rfl rfl (by decide) (by decide) (by decide) rfl hl.1 rfl (Nat.le_of_ble_eq_true rfl) dX2_deadWires_32 ⟨Nat.zero_le _, Nat.zero_le _⟩ (fun H locs hP hD hS => ?_)
          refine lv_iconst (v := 1) hx hb dX2_deadWires_35 (by decide) ?_
          refine lv_icmp_ne (tgt := 43) hx hb dX2_deadWires_36 (by decide) (fun cc => ?_) (fun cc => ?_)
          · have h := oi_f cc h
            refine lv_iconst (v := 0) hx hb dX2_deadWires_43 (by decide) ?_
            obtain rfl := Option.some.inj h
            exact jn44 H locs ls hP hD hS (lv_sub hl [1, 2, 3, 4, 0, 5] rfl)
          · have h := oi_t cc h
            refine lv_iconst (v := 1) hx hb dX2_deadWires_39 (by decide) ?_
            refine lv_goto (tgt := 44) hx hb dX2_deadWires_40 (by decide) ?_
            obtain rfl := Option.some.inj h
            exact jn44 H locs ls hP hD hS (lv_sub hl [1, 2, 3, 4, 0, 5] rfl)
  refine lp8 1000 0 0 0 H locs ls hP hD hS (lv_sub hl [3, 4, 5, 2, 1, 0] rfl) q8 hq8 (fun H locs ls hP hD hS hl => ?_)
  refine lv_iload_n hx hb dX2_deadWires_76 rfl (lv_at hl 0 rfl) ?_
  obtain rfl := Option.some.inj h
  exact hQ 77 H locs ls rfl hP hD hS dX2_deadWires_77

def f_X2_lostDevices_20 (x0 : Int32) (x2 : Int32) (u4 : Int32) : Nat → Int32 → Int32 → Option (Int32)
  | 0, _, _ => none
  | n + 1, v5, v6 => (if x0 ≤ v6 then some (v5) else ((f_X5_bit (x2 ||| u4) v6).bind (fun u30 => (if u30 = 0 then f_X2_lostDevices_20 x0 x2 u4 n (v5 &&& (((1 : Int32) <<< (v6 &&& 31)) ^^^ (-1))) (v6 + 1) else some (v5)))))
def f_X2_lostDevices_56 (x2 : Int32) (u4 : Int32) : Nat → Int32 → Int32 → Option (Int32)
  | 0, _, _ => none
  | n + 1, v5, v6 => (if v6 ≤ 0 then some (v5) else ((f_X5_bit (x2 ||| u4) v6).bind (fun u65 => (if u65 = 0 then f_X2_lostDevices_56 x2 u4 n (v5 &&& (((1 : Int32) <<< ((v6 - 1) &&& 31)) ^^^ (-1))) (v6 + (-1)) else some (v5)))))
def f_X2_lostDevices (x0 : Int32) (x1 : Int32) (x2 : Int32) (x3 : Int32) : Option (Int32) := ((f_X2_deadWires x0 x1 x3).bind (fun u4 => ((f_X2_lostDevices_20 x0 x2 u4 1000 (((1 : Int32) <<< (x0 &&& 31)) - 1) 0).bind (fun (q20 : Int32) => ((f_X2_lostDevices_56 x2 u4 1000 q20 x0).bind (fun (q56 : Int32) => some (q56)))))))
abbrev rm_X2_lostDevices : Room := { frames := 2, cells := 0, slots := 0, locals := 47 }
theorem cd_X2_lostDevices : (yX2_lostDevices).cls ≠ "java/lang/invoke/MethodHandle" ∧ (yX2_lostDevices).cls ≠ "java/lang/invoke/VarHandle" ∧ (parseMethodDescriptor (yX2_lostDevices).desc).map (fun d => d.parameters.length) = some 4 := by decide +kernel
set_option maxHeartbeats 4000000 in
set_option maxRecDepth 100000 in
theorem c_X2_lostDevices (l : Launch) (D : va_G) (cI cS : ClassId) (sz : Nat) (x0 : Int32) (x1 : Int32) (x2 : Int32) (x3 : Int32) (out : Int32) (h : f_X2_lostDevices x0 x1 x2 x3 = some out) : Met l yX2_lostDevices wsX2_lostDevices rm_X2_lostDevices (va_Pc [.int x0, .int x1, .int x2, .int x3] (GP D cI cS [] sz)) (QI D [] sz [] out) 0 0 (va_A [] sz) := by
  refine gm_i (cc := cX2_lostDevices) (maxL := 7) (rt := .int) (by decide) rfl (Nat.le_of_ble_eq_true rfl) ?_
  intro p e s m args below meth c A Q H locs ls hx hb hml hown hts hK hN hA hP hD hS hl hQ
  have hown : s.vm.findClass RX2 = some m.cls := hown
  have hl : lv_has ls 7 [(0, .int x0), (1, .int x1), (2, .int x2), (3, .int x3)] := hl
  have k_0 := hts (.initialized RX5) (by decide +kernel)
  have k_1 := hts (.static yX5_bit) (by decide +kernel)
  unfold f_X2_lostDevices at h
  refine lv_iload_n hx hb dX2_lostDevices_0 rfl (lv_at hl 2 rfl) ?_
  refine lv_iload_n hx hb dX2_lostDevices_1 rfl (lv_at hl 0 rfl) ?_
  refine lv_iload_n hx hb dX2_lostDevices_2 rfl (lv_at hl 1 rfl) ?_
  refine lv_iload_n hx hb dX2_lostDevices_3 rfl (lv_at hl 3 rfl) ?_
  obtain ⟨u4, hu4, h⟩ := ob h
  refine gS_i (wc := []) (wr := []) (w1 := []) (v := u4) (As := [.int x0, .int x1, .int x3]) (rest := [.int x2]) ⟨hx, hb, hml, hown, hts⟩ (c_X2_deadWires l D cI cS  H.size x0 x1 x3 u4 hu4) (va_cwS 3 hts gX2_lostDevices_X2_deadWires rfl rfl rfl cd_X2_deadWires ⟨Nat.le_of_ble_eq_true rfl, Nat.le_of_ble_eq_true rfl⟩) hK hN hP hD hS hA [] [] rfl rfl (by decide) (by decide) (by decide) rfl hl.1 rfl (Nat.le_of_ble_eq_true rfl) dX2_lostDevices_4 ⟨Nat.zero_le _, Nat.zero_le _⟩ (fun H locs hP hD hS => ?_)
  refine lv_ior hx hb dX2_lostDevices_7 ?_
  refine lv_istore (lv' := [(4, .int (x2 ||| u4)), (0, .int x0), (1, .int x1), (2, .int x2), (3, .int x3)]) hx hb dX2_lostDevices_8 hl (by decide) rfl (fun ls hl => ?_)
  refine lv_iconst (v := 1) hx hb dX2_lostDevices_10 (by decide) ?_
  refine lv_iload_n hx hb dX2_lostDevices_11 rfl (lv_at hl 1 rfl) ?_
  refine lv_ishl hx hb dX2_lostDevices_12 ?_
  refine lv_iconst (v := 1) hx hb dX2_lostDevices_13 (by decide) ?_
  refine lv_isub hx hb dX2_lostDevices_14 ?_
  refine lv_istore (lv' := [(5, .int (((1 : Int32) <<< (x0 &&& 31)) - 1)), (4, .int (x2 ||| u4)), (0, .int x0), (1, .int x1), (2, .int x2), (3, .int x3)]) hx hb dX2_lostDevices_15 hl (by decide) rfl (fun ls hl => ?_)
  refine lv_iconst (v := 0) hx hb dX2_lostDevices_17 (by decide) ?_
  refine lv_istore (lv' := [(6, .int 0), (5, .int (((1 : Int32) <<< (x0 &&& 31)) - 1)), (4, .int (x2 ||| u4)), (0, .int x0), (1, .int x1), (2, .int x2), (3, .int x3)]) hx hb dX2_lostDevices_18 hl (by decide) rfl (fun ls hl => ?_)
  obtain ⟨q20, hq20, h⟩ := ob h
  have lp20 : ∀ (n : Nat) (v5 : Int32) (v6 : Int32) (H : Heap) (locs : List Loc) (ls : Array Slot), va_P D vwCl [] H → va_D A [] → va_S A s.heap H locs → lv_has ls 7 [(0, .int x0), (4, .int (x2 ||| u4)), (5, .int v5), (6, .int v6)] → ∀ (q20 : Int32), f_X2_lostDevices_20 x0 x2 u4 n v5 v6 = some q20 → (∀ (H : Heap) (locs : List Loc) (ls : Array Slot), va_P D vwCl [] H → va_D A [] → va_S A s.heap H locs → lv_has ls 7 [(0, .int x0), (4, .int (x2 ||| u4)), (5, .int q20)] → W p l e rm_X2_lostDevices s m args below meth c H locs 0 0 Q (F0 m 53 ls [])) → W p l e rm_X2_lostDevices s m args below meth c H locs 0 0 Q (F0 m 20 ls []) := by
    intro n
    induction n with
    | zero => intro v5 v6 H locs ls hP hD hS hl q20 h kk; exact on_ h
    | succ n ih =>
      intro v5 v6 H locs ls hP hD hS hl q20 h kk
      rw [f_X2_lostDevices_20] at h
      refine lv_iload hx hb dX2_lostDevices_20 (lv_at hl 3 rfl) ?_
      refine lv_iload_n hx hb dX2_lostDevices_22 rfl (lv_at hl 0 rfl) ?_
      refine lv_icmp_ge (tgt := 53) hx hb dX2_lostDevices_23 (by decide) (fun cc => ?_) (fun cc => ?_)
      · have h := oi_t cc h
        obtain rfl := Option.some.inj h
        exact kk H locs ls hP hD hS (lv_sub hl [0, 1, 2] rfl)
      · have h := oi_f cc h
        refine lv_iload hx hb dX2_lostDevices_26 (lv_at hl 1 rfl) ?_
        refine lv_iload hx hb dX2_lostDevices_28 (lv_at hl 3 rfl) ?_
        obtain ⟨u30, hu30, h⟩ := ob h
        refine gN_i (wc := []) (wr := []) (w1 := []) (v := u30) (As := [.int (x2 ||| u4), .int v6]) (rest := []) ⟨hx, hb, hml, hown, hts⟩ (c_X5_bit l D cI cS  H.size (x2 ||| u4) v6 u30 hu30) ⟨va_cnB 2 hts gX2_lostDevices_X5_bit_n9 rfl rfl rfl hN.2.1 k_0 cd_X5_bit ⟨Nat.le_of_ble_eq_true rfl, Nat.le_of_ble_eq_true rfl⟩, k_1, trivial⟩ hK hN hP hD hS hA [] [] rfl rfl (by decide) (by decide) (by decide) rfl hl.1 rfl (Nat.le_of_ble_eq_true rfl) dX2_lostDevices_30 ⟨Nat.zero_le _, Nat.zero_le _⟩ (fun H locs hP hD hS => ?_)
        refine lv_if_ne (tgt := 53) hx hb dX2_lostDevices_33 (by decide) (fun cc => ?_) (fun cc => ?_)
        · have h := oi_f cc h
          obtain rfl := Option.some.inj h
          exact kk H locs ls hP hD hS (lv_sub hl [0, 1, 2] rfl)
        · have h := oi_t cc h
          refine lv_iload hx hb dX2_lostDevices_36 (lv_at hl 2 rfl) ?_
          refine lv_iconst (v := 1) hx hb dX2_lostDevices_38 (by decide) ?_
          refine lv_iload hx hb dX2_lostDevices_39 (lv_at hl 3 rfl) ?_
          refine lv_ishl hx hb dX2_lostDevices_41 ?_
          refine lv_iconst (v := (-1)) hx hb dX2_lostDevices_42 (by decide) ?_
          refine lv_ixor hx hb dX2_lostDevices_43 ?_
          refine lv_iand hx hb dX2_lostDevices_44 ?_
          refine lv_istore (lv' := [(5, .int (v5 &&& (((1 : Int32) <<< (v6 &&& 31)) ^^^ (-1)))), (0, .int x0), (4, .int (x2 ||| u4)), (6, .int v6)]) hx hb dX2_lostDevices_45 hl (by decide) rfl (fun ls hl => ?_)
          refine lv_iinc (v := (v6 + 1)) (lv' := [(6, .int (v6 + 1)), (5, .int (v5 &&& (((1 : Int32) <<< (v6 &&& 31)) ^^^ (-1)))), (0, .int x0), (4, .int (x2 ||| u4))]) hx hb dX2_lostDevices_47 hl (k := 3) rfl (by first | rfl | decide) (by decide) rfl (fun ls hl => ?_)
          refine lv_goto (tgt := 20) hx hb dX2_lostDevices_50 (by decide) ?_
          exact ih (v5 &&& (((1 : Int32) <<< (v6 &&& 31)) ^^^ (-1))) (v6 + 1) H locs ls hP hD hS (lv_sub hl [2, 3, 1, 0] rfl) q20 h kk
  refine lp20 1000 (((1 : Int32) <<< (x0 &&& 31)) - 1) 0 H locs ls hP hD hS (lv_sub hl [3, 2, 1, 0] rfl) q20 hq20 (fun H locs ls hP hD hS hl => ?_)
  refine lv_iload_n hx hb dX2_lostDevices_53 rfl (lv_at hl 0 rfl) ?_
  refine lv_istore (lv' := [(6, .int x0), (0, .int x0), (4, .int (x2 ||| u4)), (5, .int q20)]) hx hb dX2_lostDevices_54 hl (by decide) rfl (fun ls hl => ?_)
  obtain ⟨q56, hq56, h⟩ := ob h
  have lp56 : ∀ (n : Nat) (v5 : Int32) (v6 : Int32) (H : Heap) (locs : List Loc) (ls : Array Slot), va_P D vwCl [] H → va_D A [] → va_S A s.heap H locs → lv_has ls 7 [(4, .int (x2 ||| u4)), (5, .int v5), (6, .int v6)] → ∀ (q56 : Int32), f_X2_lostDevices_56 x2 u4 n v5 v6 = some q56 → (∀ (H : Heap) (locs : List Loc) (ls : Array Slot), va_P D vwCl [] H → va_D A [] → va_S A s.heap H locs → lv_has ls 7 [(5, .int q56)] → W p l e rm_X2_lostDevices s m args below meth c H locs 0 0 Q (F0 m 90 ls [])) → W p l e rm_X2_lostDevices s m args below meth c H locs 0 0 Q (F0 m 56 ls []) := by
    intro n
    induction n with
    | zero => intro v5 v6 H locs ls hP hD hS hl q56 h kk; exact on_ h
    | succ n ih =>
      intro v5 v6 H locs ls hP hD hS hl q56 h kk
      rw [f_X2_lostDevices_56] at h
      refine lv_iload hx hb dX2_lostDevices_56 (lv_at hl 2 rfl) ?_
      refine lv_if_le (tgt := 90) hx hb dX2_lostDevices_58 (by decide) (fun cc => ?_) (fun cc => ?_)
      · have h := oi_t cc h
        obtain rfl := Option.some.inj h
        exact kk H locs ls hP hD hS (lv_sub hl [1] rfl)
      · have h := oi_f cc h
        refine lv_iload hx hb dX2_lostDevices_61 (lv_at hl 0 rfl) ?_
        refine lv_iload hx hb dX2_lostDevices_63 (lv_at hl 2 rfl) ?_
        obtain ⟨u65, hu65, h⟩ := ob h
        refine gN_i (wc := []) (wr := []) (w1 := []) (v := u65) (As := [.int (x2 ||| u4), .int v6]) (rest := []) ⟨hx, hb, hml, hown, hts⟩ (c_X5_bit l D cI cS  H.size (x2 ||| u4) v6 u65 hu65) ⟨va_cnB 2 hts gX2_lostDevices_X5_bit_n9 rfl rfl rfl hN.2.1 k_0 cd_X5_bit ⟨Nat.le_of_ble_eq_true rfl, Nat.le_of_ble_eq_true rfl⟩, k_1, trivial⟩ hK hN hP hD hS hA [] [] rfl rfl (by decide) (by decide) (by decide) rfl hl.1 rfl (Nat.le_of_ble_eq_true rfl) dX2_lostDevices_65 ⟨Nat.zero_le _, Nat.zero_le _⟩ (fun H locs hP hD hS => ?_)
        refine lv_if_ne (tgt := 90) hx hb dX2_lostDevices_68 (by decide) (fun cc => ?_) (fun cc => ?_)
        · have h := oi_f cc h
          obtain rfl := Option.some.inj h
          exact kk H locs ls hP hD hS (lv_sub hl [1] rfl)
        · have h := oi_t cc h
          refine lv_iload hx hb dX2_lostDevices_71 (lv_at hl 1 rfl) ?_
          refine lv_iconst (v := 1) hx hb dX2_lostDevices_73 (by decide) ?_
          refine lv_iload hx hb dX2_lostDevices_74 (lv_at hl 2 rfl) ?_
          refine lv_iconst (v := 1) hx hb dX2_lostDevices_76 (by decide) ?_
          refine lv_isub hx hb dX2_lostDevices_77 ?_
          refine lv_ishl hx hb dX2_lostDevices_78 ?_
          refine lv_iconst (v := (-1)) hx hb dX2_lostDevices_79 (by decide) ?_
          refine lv_ixor hx hb dX2_lostDevices_80 ?_
          refine lv_iand hx hb dX2_lostDevices_81 ?_
          refine lv_istore (lv' := [(5, .int (v5 &&& (((1 : Int32) <<< ((v6 - 1) &&& 31)) ^^^ (-1)))), (4, .int (x2 ||| u4)), (6, .int v6)]) hx hb dX2_lostDevices_82 hl (by decide) rfl (fun ls hl => ?_)
          refine lv_iinc (v := (v6 + (-1))) (lv' := [(6, .int (v6 + (-1))), (5, .int (v5 &&& (((1 : Int32) <<< ((v6 - 1) &&& 31)) ^^^ (-1)))), (4, .int (x2 ||| u4))]) hx hb dX2_lostDevices_84 hl (k := 2) rfl (by first | rfl | decide) (by decide) rfl (fun ls hl => ?_)
          refine lv_goto (tgt := 56) hx hb dX2_lostDevices_87 (by decide) ?_
          exact ih (v5 &&& (((1 : Int32) <<< ((v6 - 1) &&& 31)) ^^^ (-1))) (v6 + (-1)) H locs ls hP hD hS (lv_sub hl [2, 1, 0] rfl) q56 h kk
  refine lp56 1000 q20 x0 H locs ls hP hD hS (lv_sub hl [2, 3, 0] rfl) q56 hq56 (fun H locs ls hP hD hS hl => ?_)
  refine lv_iload hx hb dX2_lostDevices_90 (lv_at hl 0 rfl) ?_
  obtain rfl := Option.some.inj h
  exact hQ 92 H locs ls rfl hP hD hS dX2_lostDevices_92

def f_X2_stopFromA_2 (x0 : Int32) (x1 : Int32) : Nat → Int32 → Option (Int32)
  | 0, _ => none
  | n + 1, v2 => (if x0 < v2 then some ((-4)) else ((f_X5_bit x1 v2).bind (fun u9 => (if u9 = 1 then some (v2) else f_X2_stopFromA_2 x0 x1 n (v2 + 1)))))
def f_X2_stopFromA (x0 : Int32) (x1 : Int32) : Option (Int32) := f_X2_stopFromA_2 x0 x1 1000 0
abbrev rm_X2_stopFromA : Room := { frames := 1, cells := 0, slots := 0, locals := 21 }
theorem cd_X2_stopFromA : (yX2_stopFromA).cls ≠ "java/lang/invoke/MethodHandle" ∧ (yX2_stopFromA).cls ≠ "java/lang/invoke/VarHandle" ∧ (parseMethodDescriptor (yX2_stopFromA).desc).map (fun d => d.parameters.length) = some 2 := by decide +kernel
set_option maxHeartbeats 4000000 in
set_option maxRecDepth 100000 in
theorem c_X2_stopFromA (l : Launch) (D : va_G) (cI cS : ClassId) (sz : Nat) (x0 : Int32) (x1 : Int32) (out : Int32) (h : f_X2_stopFromA x0 x1 = some out) : Met l yX2_stopFromA wsX2_stopFromA rm_X2_stopFromA (va_Pc [.int x0, .int x1] (GP D cI cS [] sz)) (QI D [] sz [] out) 0 0 (va_A [] sz) := by
  refine gm_i (cc := cX2_stopFromA) (maxL := 3) (rt := .int) (by decide) rfl (Nat.le_of_ble_eq_true rfl) ?_
  intro p e s m args below meth c A Q H locs ls hx hb hml hown hts hK hN hA hP hD hS hl hQ
  have hown : s.vm.findClass RX2 = some m.cls := hown
  have hl : lv_has ls 3 [(0, .int x0), (1, .int x1)] := hl
  have k_0 := hts (.initialized RX5) (by decide +kernel)
  have k_1 := hts (.static yX5_bit) (by decide +kernel)
  have lp2 : ∀ (n : Nat) (v2 : Int32) (H : Heap) (locs : List Loc) (ls : Array Slot), va_P D vwCl [] H → va_D A [] → va_S A s.heap H locs → lv_has ls 3 [(0, .int x0), (1, .int x1), (2, .int v2)] → f_X2_stopFromA_2 x0 x1 n v2 = some out → W p l e rm_X2_stopFromA s m args below meth c H locs 0 0 Q (F0 m 2 ls []) := by
    intro n
    induction n with
    | zero => intro v2 H locs ls hP hD hS hl h; exact on_ h
    | succ n ih =>
      intro v2 H locs ls hP hD hS hl h
      rw [f_X2_stopFromA_2] at h
      refine lv_iload_n hx hb dX2_stopFromA_2 rfl (lv_at hl 2 rfl) ?_
      refine lv_iload_n hx hb dX2_stopFromA_3 rfl (lv_at hl 0 rfl) ?_
      refine lv_icmp_gt (tgt := 24) hx hb dX2_stopFromA_4 (by decide) (fun cc => ?_) (fun cc => ?_)
      · have h := oi_t cc h
        refine lv_bipush (v := (-4)) hx hb dX2_stopFromA_24 (by decide) ?_
        obtain rfl := Option.some.inj h
        exact hQ 26 H locs ls rfl hP hD hS dX2_stopFromA_26
      · have h := oi_f cc h
        refine lv_iload_n hx hb dX2_stopFromA_7 rfl (lv_at hl 1 rfl) ?_
        refine lv_iload_n hx hb dX2_stopFromA_8 rfl (lv_at hl 2 rfl) ?_
        obtain ⟨u9, hu9, h⟩ := ob h
        refine gN_i (wc := []) (wr := []) (w1 := []) (v := u9) (As := [.int x1, .int v2]) (rest := []) ⟨hx, hb, hml, hown, hts⟩ (c_X5_bit l D cI cS  H.size x1 v2 u9 hu9) ⟨va_cnB 2 hts gX2_stopFromA_X5_bit_n9 rfl rfl rfl hN.2.1 k_0 cd_X5_bit ⟨Nat.le_of_ble_eq_true rfl, Nat.le_of_ble_eq_true rfl⟩, k_1, trivial⟩ hK hN hP hD hS hA [] [] rfl rfl (by decide) (by decide) (by decide) rfl hl.1 rfl (Nat.le_of_ble_eq_true rfl) dX2_stopFromA_9 ⟨Nat.zero_le _, Nat.zero_le _⟩ (fun H locs hP hD hS => ?_)
        refine lv_iconst (v := 1) hx hb dX2_stopFromA_12 (by decide) ?_
        refine lv_icmp_ne (tgt := 18) hx hb dX2_stopFromA_13 (by decide) (fun cc => ?_) (fun cc => ?_)
        · have h := oi_f cc h
          refine lv_iinc (v := (v2 + 1)) (lv' := [(2, .int (v2 + 1)), (0, .int x0), (1, .int x1)]) hx hb dX2_stopFromA_18 hl (k := 2) rfl (by first | rfl | decide) (by decide) rfl (fun ls hl => ?_)
          refine lv_goto (tgt := 2) hx hb dX2_stopFromA_21 (by decide) ?_
          exact ih (v2 + 1) H locs ls hP hD hS (lv_sub hl [1, 2, 0] rfl) h
        · have h := oi_t cc h
          refine lv_iload_n hx hb dX2_stopFromA_16 rfl (lv_at hl 2 rfl) ?_
          obtain rfl := Option.some.inj h
          exact hQ 17 H locs ls rfl hP hD hS dX2_stopFromA_17
  unfold f_X2_stopFromA at h
  refine lv_iconst (v := 0) hx hb dX2_stopFromA_0 (by decide) ?_
  refine lv_istore_n (lv' := [(2, .int 0), (0, .int x0), (1, .int x1)]) hx hb dX2_stopFromA_1 rfl hl (by decide) rfl (fun ls hl => ?_)
  exact lp2 1000 0 H locs ls hP hD hS (lv_sub hl [1, 2, 0] rfl) h

def f_X2_stopFromB_2 (x1 : Int32) (x2 : Int32) : Nat → Int32 → Option (Int32)
  | 0, _ => none
  | n + 1, v3 => (if v3 ≤ x1 then some ((-4)) else ((f_X5_bit x2 v3).bind (fun u9 => (if u9 = 1 then some (v3) else f_X2_stopFromB_2 x1 x2 n (v3 + (-1))))))
def f_X2_stopFromB (x0 : Int32) (x1 : Int32) (x2 : Int32) : Option (Int32) := f_X2_stopFromB_2 x1 x2 1000 x0
abbrev rm_X2_stopFromB : Room := { frames := 1, cells := 0, slots := 0, locals := 21 }
theorem cd_X2_stopFromB : (yX2_stopFromB).cls ≠ "java/lang/invoke/MethodHandle" ∧ (yX2_stopFromB).cls ≠ "java/lang/invoke/VarHandle" ∧ (parseMethodDescriptor (yX2_stopFromB).desc).map (fun d => d.parameters.length) = some 3 := by decide +kernel
set_option maxHeartbeats 4000000 in
set_option maxRecDepth 100000 in
theorem c_X2_stopFromB (l : Launch) (D : va_G) (cI cS : ClassId) (sz : Nat) (x0 : Int32) (x1 : Int32) (x2 : Int32) (out : Int32) (h : f_X2_stopFromB x0 x1 x2 = some out) : Met l yX2_stopFromB wsX2_stopFromB rm_X2_stopFromB (va_Pc [.int x0, .int x1, .int x2] (GP D cI cS [] sz)) (QI D [] sz [] out) 0 0 (va_A [] sz) := by
  refine gm_i (cc := cX2_stopFromB) (maxL := 4) (rt := .int) (by decide) rfl (Nat.le_of_ble_eq_true rfl) ?_
  intro p e s m args below meth c A Q H locs ls hx hb hml hown hts hK hN hA hP hD hS hl hQ
  have hown : s.vm.findClass RX2 = some m.cls := hown
  have hl : lv_has ls 4 [(0, .int x0), (1, .int x1), (2, .int x2)] := hl
  have k_0 := hts (.initialized RX5) (by decide +kernel)
  have k_1 := hts (.static yX5_bit) (by decide +kernel)
  have lp2 : ∀ (n : Nat) (v3 : Int32) (H : Heap) (locs : List Loc) (ls : Array Slot), va_P D vwCl [] H → va_D A [] → va_S A s.heap H locs → lv_has ls 4 [(1, .int x1), (2, .int x2), (3, .int v3)] → f_X2_stopFromB_2 x1 x2 n v3 = some out → W p l e rm_X2_stopFromB s m args below meth c H locs 0 0 Q (F0 m 2 ls []) := by
    intro n
    induction n with
    | zero => intro v3 H locs ls hP hD hS hl h; exact on_ h
    | succ n ih =>
      intro v3 H locs ls hP hD hS hl h
      rw [f_X2_stopFromB_2] at h
      refine lv_iload_n hx hb dX2_stopFromB_2 rfl (lv_at hl 2 rfl) ?_
      refine lv_iload_n hx hb dX2_stopFromB_3 rfl (lv_at hl 0 rfl) ?_
      refine lv_icmp_le (tgt := 24) hx hb dX2_stopFromB_4 (by decide) (fun cc => ?_) (fun cc => ?_)
      · have h := oi_t cc h
        refine lv_bipush (v := (-4)) hx hb dX2_stopFromB_24 (by decide) ?_
        obtain rfl := Option.some.inj h
        exact hQ 26 H locs ls rfl hP hD hS dX2_stopFromB_26
      · have h := oi_f cc h
        refine lv_iload_n hx hb dX2_stopFromB_7 rfl (lv_at hl 1 rfl) ?_
        refine lv_iload_n hx hb dX2_stopFromB_8 rfl (lv_at hl 2 rfl) ?_
        obtain ⟨u9, hu9, h⟩ := ob h
        refine gN_i (wc := []) (wr := []) (w1 := []) (v := u9) (As := [.int x2, .int v3]) (rest := []) ⟨hx, hb, hml, hown, hts⟩ (c_X5_bit l D cI cS  H.size x2 v3 u9 hu9) ⟨va_cnB 2 hts gX2_stopFromB_X5_bit_n9 rfl rfl rfl hN.2.1 k_0 cd_X5_bit ⟨Nat.le_of_ble_eq_true rfl, Nat.le_of_ble_eq_true rfl⟩, k_1, trivial⟩ hK hN hP hD hS hA [] [] rfl rfl (by decide) (by decide) (by decide) rfl hl.1 rfl (Nat.le_of_ble_eq_true rfl) dX2_stopFromB_9 ⟨Nat.zero_le _, Nat.zero_le _⟩ (fun H locs hP hD hS => ?_)
        refine lv_iconst (v := 1) hx hb dX2_stopFromB_12 (by decide) ?_
        refine lv_icmp_ne (tgt := 18) hx hb dX2_stopFromB_13 (by decide) (fun cc => ?_) (fun cc => ?_)
        · have h := oi_f cc h
          refine lv_iinc (v := (v3 + (-1))) (lv' := [(3, .int (v3 + (-1))), (1, .int x1), (2, .int x2)]) hx hb dX2_stopFromB_18 hl (k := 2) rfl (by first | rfl | decide) (by decide) rfl (fun ls hl => ?_)
          refine lv_goto (tgt := 2) hx hb dX2_stopFromB_21 (by decide) ?_
          exact ih (v3 + (-1)) H locs ls hP hD hS (lv_sub hl [1, 2, 0] rfl) h
        · have h := oi_t cc h
          refine lv_iload_n hx hb dX2_stopFromB_16 rfl (lv_at hl 2 rfl) ?_
          obtain rfl := Option.some.inj h
          exact hQ 17 H locs ls rfl hP hD hS dX2_stopFromB_17
  unfold f_X2_stopFromB at h
  refine lv_iload_n hx hb dX2_stopFromB_0 rfl (lv_at hl 0 rfl) ?_
  refine lv_istore_n (lv' := [(3, .int x0), (0, .int x0), (1, .int x1), (2, .int x2)]) hx hb dX2_stopFromB_1 rfl hl (by decide) rfl (fun ls hl => ?_)
  exact lp2 1000 x0 H locs ls hP hD hS (lv_sub hl [2, 3, 0] rfl) h

def f_X2_stretchOf (x0 : Int32) (x1 : Int32) : Option (Int32) := ((f_J6_bitCount_0f7a4 (x0 &&& (((1 : Int32) <<< (x1 &&& 31)) - 1))).bind (fun u7 => some (u7)))
abbrev rm_X2_stretchOf : Room := { frames := 1, cells := 0, slots := 0, locals := 20 }
theorem cd_X2_stretchOf : (yX2_stretchOf).cls ≠ "java/lang/invoke/MethodHandle" ∧ (yX2_stretchOf).cls ≠ "java/lang/invoke/VarHandle" ∧ (parseMethodDescriptor (yX2_stretchOf).desc).map (fun d => d.parameters.length) = some 2 := by decide +kernel
set_option maxHeartbeats 4000000 in
set_option maxRecDepth 100000 in
theorem c_X2_stretchOf (l : Launch) (D : va_G) (cI cS : ClassId) (sz : Nat) (x0 : Int32) (x1 : Int32) (out : Int32) (h : f_X2_stretchOf x0 x1 = some out) : Met l yX2_stretchOf wsX2_stretchOf rm_X2_stretchOf (va_Pc [.int x0, .int x1] (GP D cI cS [] sz)) (QI D [] sz [] out) 0 0 (va_A [] sz) := by
  refine gm_i (cc := cX2_stretchOf) (maxL := 2) (rt := .int) (by decide) rfl (Nat.le_of_ble_eq_true rfl) ?_
  intro p e s m args below meth c A Q H locs ls hx hb hml hown hts hK hN hA hP hD hS hl hQ
  have hown : s.vm.findClass RX2 = some m.cls := hown
  have hl : lv_has ls 2 [(0, .int x0), (1, .int x1)] := hl
  unfold f_X2_stretchOf at h
  refine lv_iload_n hx hb dX2_stretchOf_0 rfl (lv_at hl 0 rfl) ?_
  refine lv_iconst (v := 1) hx hb dX2_stretchOf_1 (by decide) ?_
  refine lv_iload_n hx hb dX2_stretchOf_2 rfl (lv_at hl 1 rfl) ?_
  refine lv_ishl hx hb dX2_stretchOf_3 ?_
  refine lv_iconst (v := 1) hx hb dX2_stretchOf_4 (by decide) ?_
  refine lv_isub hx hb dX2_stretchOf_5 ?_
  refine lv_iand hx hb dX2_stretchOf_6 ?_
  obtain ⟨u7, hu7, h⟩ := ob h
  refine gS_i (wc := []) (wr := []) (w1 := []) (v := u7) (As := [.int (x0 &&& (((1 : Int32) <<< (x1 &&& 31)) - 1))]) (rest := []) ⟨hx, hb, hml, hown, hts⟩ (c_J6_bitCount_0f7a4 l D cI cS  H.size (x0 &&& (((1 : Int32) <<< (x1 &&& 31)) - 1)) u7 hu7) (va_cwS 1 hts gX2_stretchOf_J6_bitCount_0f7a4 rfl rfl rfl cd_J6_bitCount_0f7a4 ⟨Nat.le_of_ble_eq_true rfl, Nat.le_of_ble_eq_true rfl⟩) hK hN hP hD hS hA [] [] rfl rfl (by decide) (by decide) (by decide) rfl hl.1 rfl (Nat.le_of_ble_eq_true rfl) dX2_stretchOf_7 ⟨Nat.zero_le _, Nat.zero_le _⟩ (fun H locs hP hD hS => ?_)
  obtain rfl := Option.some.inj h
  exact hQ 10 H locs ls rfl hP hD hS dX2_stretchOf_10

def f_X2_lowestShort_10 (x0 : Int32) (x1 : Int32) (x2 : Int32) : Nat → Int32 → Int32 → Option (Int32)
  | 0, _, _ => none
  | n + 1, v4, v5 => (if x0 < v5 then some ((-4)) else ((f_X5_bit x2 v5).bind (fun u19 => (if u19 = 1 then ((f_X2_stretchOf x1 v5).bind (fun u29 => (if u29 = v4 then some (v5) else f_X2_lowestShort_10 x0 x1 x2 n v4 (v5 + 1)))) else f_X2_lowestShort_10 x0 x1 x2 n v4 (v5 + 1)))))
def f_X2_lowestShort (x0 : Int32) (x1 : Int32) (x2 : Int32) (x3 : Int32) : Option (Int32) := ((f_X2_stretchOf x1 x3).bind (fun u2 => f_X2_lowestShort_10 x0 x1 x2 1000 u2 0))
abbrev rm_X2_lowestShort : Room := { frames := 2, cells := 0, slots := 0, locals := 41 }
theorem cd_X2_lowestShort : (yX2_lowestShort).cls ≠ "java/lang/invoke/MethodHandle" ∧ (yX2_lowestShort).cls ≠ "java/lang/invoke/VarHandle" ∧ (parseMethodDescriptor (yX2_lowestShort).desc).map (fun d => d.parameters.length) = some 4 := by decide +kernel
set_option maxHeartbeats 4000000 in
set_option maxRecDepth 100000 in
theorem c_X2_lowestShort (l : Launch) (D : va_G) (cI cS : ClassId) (sz : Nat) (x0 : Int32) (x1 : Int32) (x2 : Int32) (x3 : Int32) (out : Int32) (h : f_X2_lowestShort x0 x1 x2 x3 = some out) : Met l yX2_lowestShort wsX2_lowestShort rm_X2_lowestShort (va_Pc [.int x0, .int x1, .int x2, .int x3] (GP D cI cS [] sz)) (QI D [] sz [] out) 0 0 (va_A [] sz) := by
  refine gm_i (cc := cX2_lowestShort) (maxL := 6) (rt := .int) (by decide) rfl (Nat.le_of_ble_eq_true rfl) ?_
  intro p e s m args below meth c A Q H locs ls hx hb hml hown hts hK hN hA hP hD hS hl hQ
  have hown : s.vm.findClass RX2 = some m.cls := hown
  have hl : lv_has ls 6 [(0, .int x0), (1, .int x1), (2, .int x2), (3, .int x3)] := hl
  have k_0 := hts (.initialized RX5) (by decide +kernel)
  have k_1 := hts (.static yX5_bit) (by decide +kernel)
  have lp10 : ∀ (n : Nat) (v4 : Int32) (v5 : Int32) (H : Heap) (locs : List Loc) (ls : Array Slot), va_P D vwCl [] H → va_D A [] → va_S A s.heap H locs → lv_has ls 6 [(0, .int x0), (1, .int x1), (2, .int x2), (4, .int v4), (5, .int v5)] → f_X2_lowestShort_10 x0 x1 x2 n v4 v5 = some out → W p l e rm_X2_lowestShort s m args below meth c H locs 0 0 Q (F0 m 10 ls []) := by
    intro n
    induction n with
    | zero => intro v4 v5 H locs ls hP hD hS hl h; exact on_ h
    | succ n ih =>
      intro v4 v5 H locs ls hP hD hS hl h
      rw [f_X2_lowestShort_10] at h
      refine lv_iload hx hb dX2_lowestShort_10 (lv_at hl 4 rfl) ?_
      refine lv_iload_n hx hb dX2_lowestShort_12 rfl (lv_at hl 0 rfl) ?_
      refine lv_icmp_gt (tgt := 46) hx hb dX2_lowestShort_13 (by decide) (fun cc => ?_) (fun cc => ?_)
      · have h := oi_t cc h
        refine lv_bipush (v := (-4)) hx hb dX2_lowestShort_46 (by decide) ?_
        obtain rfl := Option.some.inj h
        exact hQ 48 H locs ls rfl hP hD hS dX2_lowestShort_48
      · have h := oi_f cc h
        refine lv_iload_n hx hb dX2_lowestShort_16 rfl (lv_at hl 2 rfl) ?_
        refine lv_iload hx hb dX2_lowestShort_17 (lv_at hl 4 rfl) ?_
        obtain ⟨u19, hu19, h⟩ := ob h
        refine gN_i (wc := []) (wr := []) (w1 := []) (v := u19) (As := [.int x2, .int v5]) (rest := []) ⟨hx, hb, hml, hown, hts⟩ (c_X5_bit l D cI cS  H.size x2 v5 u19 hu19) ⟨va_cnB 2 hts gX2_lowestShort_X5_bit_n9 rfl rfl rfl hN.2.1 k_0 cd_X5_bit ⟨Nat.le_of_ble_eq_true rfl, Nat.le_of_ble_eq_true rfl⟩, k_1, trivial⟩ hK hN hP hD hS hA [] [] rfl rfl (by decide) (by decide) (by decide) rfl hl.1 rfl (Nat.le_of_ble_eq_true rfl) dX2_lowestShort_19 ⟨Nat.zero_le _, Nat.zero_le _⟩ (fun H locs hP hD hS => ?_)
        refine lv_iconst (v := 1) hx hb dX2_lowestShort_22 (by decide) ?_
        refine lv_icmp_ne (tgt := 40) hx hb dX2_lowestShort_23 (by decide) (fun cc => ?_) (fun cc => ?_)
        · have h := oi_f cc h
          refine lv_iinc (v := (v5 + 1)) (lv' := [(5, .int (v5 + 1)), (0, .int x0), (1, .int x1), (2, .int x2), (4, .int v4)]) hx hb dX2_lowestShort_40 hl (k := 4) rfl (by first | rfl | decide) (by decide) rfl (fun ls hl => ?_)
          refine lv_goto (tgt := 10) hx hb dX2_lowestShort_43 (by decide) ?_
          exact ih v4 (v5 + 1) H locs ls hP hD hS (lv_sub hl [1, 2, 3, 4, 0] rfl) h
        · have h := oi_t cc h
          refine lv_iload_n hx hb dX2_lowestShort_26 rfl (lv_at hl 1 rfl) ?_
          refine lv_iload hx hb dX2_lowestShort_27 (lv_at hl 4 rfl) ?_
          obtain ⟨u29, hu29, h⟩ := ob h
          refine gS_i (wc := []) (wr := []) (w1 := []) (v := u29) (As := [.int x1, .int v5]) (rest := []) ⟨hx, hb, hml, hown, hts⟩ (c_X2_stretchOf l D cI cS  H.size x1 v5 u29 hu29) (va_cwS 2 hts gX2_lowestShort_X2_stretchOf rfl rfl rfl cd_X2_stretchOf ⟨Nat.le_of_ble_eq_true rfl, Nat.le_of_ble_eq_true rfl⟩) hK hN hP hD hS hA [] [] rfl rfl (by decide) (by decide) (by decide) rfl hl.1 rfl (Nat.le_of_ble_eq_true rfl) dX2_lowestShort_29 ⟨Nat.zero_le _, Nat.zero_le _⟩ (fun H locs hP hD hS => ?_)
          refine lv_iload hx hb dX2_lowestShort_32 (lv_at hl 3 rfl) ?_
          refine lv_icmp_ne (tgt := 40) hx hb dX2_lowestShort_34 (by decide) (fun cc => ?_) (fun cc => ?_)
          · have h := oi_f cc h
            refine lv_iinc (v := (v5 + 1)) (lv' := [(5, .int (v5 + 1)), (0, .int x0), (1, .int x1), (2, .int x2), (4, .int v4)]) hx hb dX2_lowestShort_40 hl (k := 4) rfl (by first | rfl | decide) (by decide) rfl (fun ls hl => ?_)
            refine lv_goto (tgt := 10) hx hb dX2_lowestShort_43 (by decide) ?_
            exact ih v4 (v5 + 1) H locs ls hP hD hS (lv_sub hl [1, 2, 3, 4, 0] rfl) h
          · have h := oi_t cc h
            refine lv_iload hx hb dX2_lowestShort_37 (lv_at hl 4 rfl) ?_
            obtain rfl := Option.some.inj h
            exact hQ 39 H locs ls rfl hP hD hS dX2_lowestShort_39
  unfold f_X2_lowestShort at h
  refine lv_iload_n hx hb dX2_lowestShort_0 rfl (lv_at hl 1 rfl) ?_
  refine lv_iload_n hx hb dX2_lowestShort_1 rfl (lv_at hl 3 rfl) ?_
  obtain ⟨u2, hu2, h⟩ := ob h
  refine gS_i (wc := []) (wr := []) (w1 := []) (v := u2) (As := [.int x1, .int x3]) (rest := []) ⟨hx, hb, hml, hown, hts⟩ (c_X2_stretchOf l D cI cS  H.size x1 x3 u2 hu2) (va_cwS 2 hts gX2_lowestShort_X2_stretchOf rfl rfl rfl cd_X2_stretchOf ⟨Nat.le_of_ble_eq_true rfl, Nat.le_of_ble_eq_true rfl⟩) hK hN hP hD hS hA [] [] rfl rfl (by decide) (by decide) (by decide) rfl hl.1 rfl (Nat.le_of_ble_eq_true rfl) dX2_lowestShort_2 ⟨Nat.zero_le _, Nat.zero_le _⟩ (fun H locs hP hD hS => ?_)
  refine lv_istore (lv' := [(4, .int u2), (0, .int x0), (1, .int x1), (2, .int x2), (3, .int x3)]) hx hb dX2_lowestShort_5 hl (by decide) rfl (fun ls hl => ?_)
  refine lv_iconst (v := 0) hx hb dX2_lowestShort_7 (by decide) ?_
  refine lv_istore (lv' := [(5, .int 0), (4, .int u2), (0, .int x0), (1, .int x1), (2, .int x2), (3, .int x3)]) hx hb dX2_lowestShort_8 hl (by decide) rfl (fun ls hl => ?_)
  exact lp10 1000 u2 0 H locs ls hP hD hS (lv_sub hl [2, 3, 4, 1, 0] rfl) h
