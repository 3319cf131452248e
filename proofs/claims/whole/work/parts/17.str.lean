/-! THE STRING that is laid at first, and the JDK's members that read it -/
def strT : String := "d0,0,1;d1,0,0;d2,1,0;d0,1,1;d3,2,0;d0,2,0;d1,3,1;d0,3,0;e0,15,0,1;e2,15,3,0;e1,3,2,0;e0,4,0,1;t20,40,2,4;v3;"
def strB : List Int32 := [100, 48, 44, 48, 44, 49, 59, 100, 49, 44, 48, 44, 48, 59, 100, 50, 44, 49, 44, 48, 59, 100, 48, 44, 49, 44, 49, 59, 100, 51, 44, 50, 44, 48, 59, 100, 48, 44, 50, 44, 48, 59, 100, 49, 44, 51, 44, 49, 59, 100, 48, 44, 51, 44, 48, 59, 101, 48, 44, 49, 53, 44, 48, 44, 49, 59, 101, 50, 44, 49, 53, 44, 51, 44, 48, 59, 101, 49, 44, 51, 44, 50, 44, 48, 59, 101, 48, 44, 52, 44, 48, 44, 49, 59, 116, 50, 48, 44, 52, 48, 44, 50, 44, 52, 59, 118, 51, 59]
def strC (i : Nat) : Int32 := ((strB.getD i 0 &&& 255).toUInt32 % 65536).toInt32
/-- what stands at the start and stays: the string, two statics; z: below it nothing is written -/
def SX (z ad av : Nat) (U : State) (H : Heap) : Prop :=
  vk_S 1 [108] [strB] (fun _ => ad) (fun _ => av) (fun q => z ≤ q) U H ∧ va_Z "java/lang/String" "COMPACT_STRINGS" "Z" (.int 1) (fun q => z ≤ q) U H ∧ va_Zq "jdk/internal/util/Preconditions" "SIOOBE_FORMATTER" "Ljava/util/function/BiFunction;" (fun q => z ≤ q) U H ∧ vk_R RX5 40 strT ad U ∧ z ≤ H.size
theorem SX.kept {z ad av : Nat} {U : State} {H H1 : Heap} (h : SX z ad av U H) (hq : ∀ q : Nat, q < H.size → ¬ z ≤ q → H1[q]? = H[q]?) (hz : H.size ≤ H1.size) : SX z ad av U H1 :=
  ⟨h.1.kept hq, h.2.1.kept hq, h.2.2.1.kept hq, h.2.2.2.1, Nat.le_trans h.2.2.2.2 hz⟩
theorem SX.warm {z ad av : Nat} {s U : State} {H : Heap} (hW : s.WarmedH U.vm) (h : SX z ad av s H) : SX z ad av U H :=
  ⟨h.1.moved hW.alike, h.2.1.moved hW.alike, h.2.2.1.moved hW.alike, h.2.2.2.1.warm hW, h.2.2.2.2⟩
theorem SX.same {z ad av : Nat} {s U : State} {H : Heap} (hW : U.vm = s.vm) (h : SX z ad av s H) : SX z ad av U H :=
  ⟨h.1.moved (hW ▸ Vm.Alike.refl U.vm), h.2.1.moved (hW ▸ Vm.Alike.refl U.vm), h.2.2.1.moved (hW ▸ Vm.Alike.refl U.vm), h.2.2.2.1.same hW, h.2.2.2.2⟩
theorem SX.now {z ad av : Nat} {s : State} {A : Nat → Prop} {H : Heap} {locs : List Loc} (h : SX z ad av s s.heap) (hz : ∀ q, A q → z ≤ q) (hS : va_S A s.heap H locs) : SX z ad av s H := h.kept (fun q h1 h2 => hS.2.1 q h1 (fun a => h2 (hz q a))) hS.1
def GX (D : va_G) (cI cS : ClassId) (ws : va_W) (sz z ad av : Nat) (U : State) : Prop := GP D cI cS ws sz U ∧ SX z ad av U U.heap
theorem gx_blind {D : va_G} {cI cS : ClassId} {ws : va_W} {sz z ad av : Nat} {vs : List Value} : FrameBlind (va_Pc vs (GX D cI cS ws sz z ad av)) := fun a U g mk q => by
  obtain ⟨q0, qg, qx⟩ := q
  exact ⟨q0, (gp_blind (av := vs) a U g mk ⟨q0, qg⟩).2, SX.same (s := U) rfl qx⟩
theorem gx_at {D : va_G} {cI cS : ClassId} {ws : va_W} {vs : List Value} {s : State} {H : Heap} {A : Nat → Prop} {z ad av : Nat} (hK : va_K D vwCl (ty2 cI cS) s) (hN : NW s) (hP : va_P D vwCl ws H) (hD : va_D A ws) (hX : SX z ad av s H) : ∀ U : State, U.heap = H → s.WarmedH U.vm → va_Pc vs (GX D cI cS ws H.size z ad av) vs.toArray U := fun U hU hW =>
  ⟨rfl, (gp_at (av := vs) hK hN hP hD U hU hW).2, by rw [hU]; exact hX.warm hW⟩
theorem gm_ix {l : Launch} {y : MethodName} {ws ws' : List Cond} {rm : Room} {cc : ByteArray} {maxL z ad av : Nat} {rt : FieldType} {vs : List Value} {D : va_G} {cI cS : ClassId} {sz : Nat} {v : Int32} (hy : plainName y.cls = true) (hw : ws = Cond.code y cc maxL (some rt) :: ws') (hlen : (lg_sl vs).length ≤ maxL)
    (body : ∀ (p : Program) (e : Env) (s : State) (m : MethodId) (args : Array Value) (below : List Frame) (meth : Method) (c : Code) (A : Nat → Prop) (Q : State → Prop) (H : Heap) (locs : List Loc) (ls : Array Slot),
      p.tables.exec = Jvm.exec → c.code = cc → c.maxLocals = maxL → s.vm.findClass y.cls = some m.cls → (∀ w ∈ ws, w.before args s = true) → va_K D vwCl (ty2 cI cS) s → NW s → (∀ q, s.heap.size ≤ q → A q) → va_P D vwCl [] H → va_D A [] → va_S A s.heap H locs → lv_has ls maxL (lv_args 0 vs) → SX z ad av s s.heap → (∀ q, A q → z ≤ q) →
      (∀ (pc : Nat) (H : Heap) (locs : List Loc) (ls : Array Slot), narrow rt (.int v) = .int v → va_S A s.heap H locs → decode cc pc = .ok (.ireturn, 1) → W p l e rm s m args below meth c H locs 0 0 Q (F0 m pc ls [.int v])) →
      W p l e rm s m args below meth c H locs 0 0 Q (F0 m 0 ls [])) : Met l y ws rm (va_Pc vs (GX D cI cS [] sz z ad av)) (QI D [] sz [] v) 0 0 (va_A [] sz) := by
  refine Met.ofW (cc := cc) (maxL := maxL) (ret := some rt) hy hw ?_
  intro p e s m args below meth c s₁ B hml hv
  obtain ⟨rfl, ⟨hsz, hP, hK, hD0, hN⟩, hX⟩ := hv
  subst hsz
  have hl := lv_entry vs (n := maxL) hlen
  rw [lg_entry_eq]
  have hlk : meth.locks = false := B.notSynchronized
  have hr := B.returns
  exact body p e s m _ below meth c (va_A [] s.heap.size) _ s.heap [] _ B.exec B.bytes hml (findClass_of_methodNamed B.named) (atoms_spec (ws := ws) B.pre) hK hN (fun q h => Or.inr h) hP hD0.self va_S.rf hl hX
    (fun q h => by
      rcases h with ⟨k, e, h⟩ | h
      · simp at h
      · exact Nat.le_trans hX.2.2.2.2 h)
    (fun pc H locs ls hn hS hdg => W.zret (Qc := QI D [] s.heap.size [] v) (free := va_A [] s.heap.size) B.exec B.bytes hr hn (fun t ht hW => ⟨⟨v, (), rfl, rfl, fun k q h => by simp at h, ⟨fun i j p q h => by simp at h, fun k q h => by simp at h⟩⟩, hS.F ht⟩) hS.2.2 hdg)
theorem gm_vx {l : Launch} {y : MethodName} {ws ws' : List Cond} {rm : Room} {cc : ByteArray} {maxL z ad av : Nat} {vs : List Value} {D : va_G} {cI cS : ClassId} {sz : Nat} (hy : plainName y.cls = true) (hw : ws = Cond.code y cc maxL none :: ws') (hlen : (lg_sl vs).length ≤ maxL)
    (body : ∀ (p : Program) (e : Env) (s : State) (m : MethodId) (args : Array Value) (below : List Frame) (meth : Method) (c : Code) (A : Nat → Prop) (Q : State → Prop) (H : Heap) (locs : List Loc) (ls : Array Slot),
      p.tables.exec = Jvm.exec → c.code = cc → c.maxLocals = maxL → s.vm.findClass y.cls = some m.cls → (∀ w ∈ ws, w.before args s = true) → va_K D vwCl (ty2 cI cS) s → NW s → (∀ q, s.heap.size ≤ q → A q) → va_P D vwCl [] H → va_D A [] → va_S A s.heap H locs → lv_has ls maxL (lv_args 0 vs) → SX z ad av s s.heap → (∀ q, A q → z ≤ q) →
      (∀ (pc : Nat) (H : Heap) (locs : List Loc) (ls : Array Slot), va_S A s.heap H locs → decode cc pc = .ok (.return_, 1) → W p l e rm s m args below meth c H locs 0 0 Q (F0 m pc ls [])) →
      W p l e rm s m args below meth c H locs 0 0 Q (F0 m 0 ls [])) : Met l y ws rm (va_Pc vs (GX D cI cS [] sz z ad av)) (QV D [] sz []) 0 0 (va_A [] sz) := by
  refine Met.ofW (cc := cc) (maxL := maxL) (ret := none) hy hw ?_
  intro p e s m args below meth c s₁ B hml hv
  obtain ⟨rfl, ⟨hsz, hP, hK, hD0, hN⟩, hX⟩ := hv
  subst hsz
  have hl := lv_entry vs (n := maxL) hlen
  rw [lg_entry_eq]
  have hlk : meth.locks = false := B.notSynchronized
  have hr := B.returns
  exact body p e s m _ below meth c (va_A [] s.heap.size) _ s.heap [] _ B.exec B.bytes hml (findClass_of_methodNamed B.named) (atoms_spec (ws := ws) B.pre) hK hN (fun q h => Or.inr h) hP hD0.self va_S.rf hl hX
    (fun q h => by
      rcases h with ⟨k, e, h⟩ | h
      · simp at h
      · exact Nat.le_trans hX.2.2.2.2 h)
    (fun pc H locs ls hS hdg => W.vret (Qc := QV D [] s.heap.size []) (free := va_A [] s.heap.size) B.exec B.bytes hr (fun t ht hW => ⟨⟨(), rfl, trivial, fun k q h => by simp at h, ⟨fun i j p q h => by simp at h, fun k q h => by simp at h⟩⟩, hS.F ht⟩) hS.2.2 hdg)
section GCX
variable {p : Program} {l : Launch} {e : Env} {R : Room} {s : State} {m : MethodId} {args : Array Value} {below : List Frame} {meth : Method} {c : Code} {H : Heap} {locs : List Loc} {cells slots : Nat} {Q : State → Prop}
variable {pc : Nat} {ls : Array Slot} {rest st0 : List Value} {A0 : Nat → Prop} {D : va_G} {cI cS : ClassId} {ws : va_W} {v : Int32} {z ad av : Nat} {a : Array Value}
variable {y : MethodName} {bytes cc : ByteArray} {maxL nL n index : Nat} {ret : Option FieldType} {wy Ts : List Cond} {rm : Room} {own : String} {As : List Value}
theorem ax_no {H : Heap} {q : Nat} (h : q < H.size) : ¬ va_A [] H.size q := by
  rintro (⟨k, e, h1⟩ | h1)
  · simp at h1
  · omega
theorem ax_sub {A0 : Nat → Prop} {H0 H : Heap} {locs : List Loc} (hS : va_S A0 H0 H locs) (hA : ∀ q, H0.size ≤ q → A0 q) : ∀ q, va_A [] H.size q → A0 q := by
  rintro q (⟨k, e, h1⟩ | h1)
  · simp at h1
  · exact hA q (Nat.le_trans hS.1 h1)
/-- a call of a method of the string itself -/
theorem gVx_i (S : CallFix p m c cc nL s args Ts own) (hM : Met l y wy rm (va_Pc (.ref ad :: As) (GX D cI cS [] H.size z ad av)) (QI D [] H.size [] v) 0 0 (va_A [] H.size)) (cw : CallW R s args own "java/lang/String" index y bytes maxL ret wy rm 0 0 n) (hK : va_K D vwCl (ty2 cI cS) s) (hN : NW s) (hX : SX z ad av s s.heap) (hz : ∀ q, A0 q → z ≤ q)
    (hP : va_P D vwCl ws H) (hS : va_S A0 s.heap H locs) (hA : ∀ q, s.heap.size ≤ q → A0 q)
    (hlen : As.length = n) (hsize : ls.size = nL) (hst : st0 = As.reverse ++ .ref ad :: rest) (hW : (rest.map fun v => v.category).sum ≤ 8) (hdg : decode cc pc = .ok (.invokevirtual index, 3)) (hf : cells ≤ R.cells ∧ slots ≤ R.slots)
    (kk : ∀ (H1 : Heap) (locs1 : List Loc), va_P D vwCl ws H1 → va_S A0 s.heap H1 locs1 → W p l e R s m args below meth c H1 locs1 cells slots Q (F0 m (pc + 3) ls (.int v :: rest))) : W p l e R s m args below meth c H locs cells slots Q (F0 m pc ls st0) := by
  have hXH := hX.now hz hS
  obtain ⟨cell, h1, h2, h3, -⟩ := (hXH.1.1 0 (by decide)).1
  have hr := va_runV S hM cw ⟨gx_blind, ⟨cell, h1, h2, h3⟩, gx_at hK hN (fun k q h => by simp at h) (A := A0) ⟨fun i j p q h => by simp at h, fun k q h => by simp at h⟩ hXH⟩ rfl hlen hsize hst (lv_room hW) hdg hf (locs := locs) (cells := cells) (slots := slots) (e := e) (below := below) (meth := meth) (g := F0 m pc ls st0) (rest := rest)
  have hF := ax_sub hS hA
  refine va_calli hr hS (fun q _ h => hF q h) hF (fun r u t H1 locs1 ht hvm hw hB hz1 hk1 hS1 => ?_)
  have hw : r = v := hw
  rw [hw]
  exact kk H1 locs1 (hP.kept (fun k q hk => hk1 q.1 (hP k q hk).lt (ax_no (hP k q hk).lt))) hS1
theorem gSx_i (S : CallFix p m c cc nL s args Ts own) (hM : Met l y wy rm (va_Pc As (GX D cI cS [] H.size z ad av)) (QI D [] H.size [] v) 0 0 (va_A [] H.size)) (cw : CallB R s args own index y bytes maxL ret wy rm 0 0 n ∧ (Cond.static y).before args s = true) (hK : va_K D vwCl (ty2 cI cS) s) (hN : NW s) (hX : SX z ad av s s.heap) (hz : ∀ q, A0 q → z ≤ q)
    (hP : va_P D vwCl ws H) (hS : va_S A0 s.heap H locs) (hA : ∀ q, s.heap.size ≤ q → A0 q)
    (hlen : As.length = n) (hsize : ls.size = nL) (hst : st0 = As.reverse ++ rest) (hW : (rest.map fun v => v.category).sum ≤ 8) (hdg : decode cc pc = .ok (.invokestatic index, 3)) (hf : cells ≤ R.cells ∧ slots ≤ R.slots)
    (kk : ∀ (H1 : Heap) (locs1 : List Loc), va_P D vwCl ws H1 → va_S A0 s.heap H1 locs1 → W p l e R s m args below meth c H1 locs1 cells slots Q (F0 m (pc + 3) ls (.int v :: rest))) : W p l e R s m args below meth c H locs cells slots Q (F0 m pc ls st0) := by
  have hXH := hX.now hz hS
  have hr := va_runS S hM cw ⟨gx_blind, gx_at hK hN (fun k q h => by simp at h) (A := A0) ⟨fun i j p q h => by simp at h, fun k q h => by simp at h⟩ hXH⟩ rfl hlen hsize hst (lv_room hW) hdg hf (locs := locs) (cells := cells) (slots := slots) (e := e) (below := below) (meth := meth) (g := F0 m pc ls st0) (rest := rest)
  have hF := ax_sub hS hA
  refine va_calli hr hS (fun q _ h => hF q h) hF (fun r u t H1 locs1 ht hvm hw hB hz1 hk1 hS1 => ?_)
  have hw : r = v := hw
  rw [hw]
  exact kk H1 locs1 (hP.kept (fun k q hk => hk1 q.1 (hP k q hk).lt (ax_no (hP k q hk).lt))) hS1
theorem gSx_v (S : CallFix p m c cc nL s args Ts own) (hM : Met l y wy rm (va_Pc As (GX D cI cS [] H.size z ad av)) (QV D [] H.size []) 0 0 (va_A [] H.size)) (cw : CallB R s args own index y bytes maxL ret wy rm 0 0 n ∧ (Cond.static y).before args s = true) (hK : va_K D vwCl (ty2 cI cS) s) (hN : NW s) (hX : SX z ad av s s.heap) (hz : ∀ q, A0 q → z ≤ q)
    (hP : va_P D vwCl ws H) (hS : va_S A0 s.heap H locs) (hA : ∀ q, s.heap.size ≤ q → A0 q)
    (hlen : As.length = n) (hsize : ls.size = nL) (hst : st0 = As.reverse ++ rest) (hW : (rest.map fun v => v.category).sum ≤ 8) (hdg : decode cc pc = .ok (.invokestatic index, 3)) (hf : cells ≤ R.cells ∧ slots ≤ R.slots)
    (kk : ∀ (H1 : Heap) (locs1 : List Loc), va_P D vwCl ws H1 → va_S A0 s.heap H1 locs1 → W p l e R s m args below meth c H1 locs1 cells slots Q (F0 m (pc + 3) ls rest)) : W p l e R s m args below meth c H locs cells slots Q (F0 m pc ls st0) := by
  have hXH := hX.now hz hS
  have hr := va_runS S hM cw ⟨gx_blind, gx_at hK hN (fun k q h => by simp at h) (A := A0) ⟨fun i j p q h => by simp at h, fun k q h => by simp at h⟩ hXH⟩ rfl hlen hsize hst (lv_room hW) hdg hf (locs := locs) (cells := cells) (slots := slots) (e := e) (below := below) (meth := meth) (g := F0 m pc ls st0) (rest := rest)
  have hF := ax_sub hS hA
  refine va_callv hr hS (fun q _ h => hF q h) hF (fun u t H1 locs1 ht hvm hw hB hz1 hk1 hS1 => ?_)
  exact kk H1 locs1 (hP.kept (fun k q hk => hk1 q.1 (hP k q hk).lt (ax_no (hP k q hk).lt))) hS1
end GCX
theorem cd_J0_coder_7d493 : (yJ0_coder_7d493).cls = "java/lang/String" ∧ (yJ0_coder_7d493).cls ≠ "java/lang/invoke/MethodHandle" ∧ (yJ0_coder_7d493).cls ≠ "java/lang/invoke/VarHandle" ∧ (parseMethodDescriptor (yJ0_coder_7d493).desc).map (fun d => d.parameters.length) = some 0 := by decide +kernel
abbrev rm_J0_coder_7d493 : Room := { frames := 0, cells := 0, slots := 0, locals := 0 }
set_option maxHeartbeats 4000000 in
set_option maxRecDepth 100000 in
theorem c_J0_coder_7d493 (l : Launch) (D : va_G) (cI cS : ClassId) (sz z ad av : Nat) : Met l yJ0_coder_7d493 wsJ0_coder_7d493 rm_J0_coder_7d493 (va_Pc [.ref ad] (GX D cI cS [] sz z ad av)) (QI D [] sz [] 0) 0 0 (va_A [] sz) := by
  refine gm_ix (cc := cJ0_coder_7d493) (maxL := 1) (rt := .byte) (by decide) rfl (by first | decide | exact Nat.le_of_ble_eq_true rfl) ?_
  intro p e s m args below meth c A Q H locs ls hx hb hml hown hts hK hN hA hP hD hS hl hX hz hQ
  have hown : s.vm.findClass RJ0 = some m.cls := hown
  have hl : lv_has ls 1 [(0, .ref ad)] := hl
  have k0 := hts (.fieldLink RJ0 38 "java/lang/String" "COMPACT_STRINGS" "Z") (by decide +kernel)
  have k1 := hts (.fieldLink RJ0 15 "java/lang/String" "coder" "B") (by decide +kernel)
  refine va_gets hx hb (hX.2.1.narrow hz) hS hown k0 (fun _ h9 => h9) dJ0_coder_7d493_0 ?_
  refine lv_if_eq (tgt := 13) hx hb dJ0_coder_7d493_3 (by decide) (fun cc => absurd cc (by decide)) (fun cc => ?_)
  refine lv_aload_n hx hb dJ0_coder_7d493_6 rfl (lv_at hl 0 rfl) ?_
  refine vk_getf hx hb ((hX.1.1 0 (by decide)).2.1.narrow hz) hS hown k1 (fun _ h9 => h9) dJ0_coder_7d493_7 ?_
  refine lv_goto (tgt := 14) hx hb dJ0_coder_7d493_10 (by decide) ?_
  exact hQ 14 H locs ls rfl hS dJ0_coder_7d493_14

def f_J0_length_8abf5 : Option (Int32) := some 108
theorem cd_J0_length_8abf5 : (yJ0_length_8abf5).cls = "java/lang/String" ∧ (yJ0_length_8abf5).cls ≠ "java/lang/invoke/MethodHandle" ∧ (yJ0_length_8abf5).cls ≠ "java/lang/invoke/VarHandle" ∧ (parseMethodDescriptor (yJ0_length_8abf5).desc).map (fun d => d.parameters.length) = some 0 := by decide +kernel
abbrev rm_J0_length_8abf5 : Room := { frames := 1, cells := 0, slots := 0, locals := 20 }
set_option maxHeartbeats 4000000 in
set_option maxRecDepth 100000 in
theorem c_J0_length_8abf5 (l : Launch) (D : va_G) (cI cS : ClassId) (sz z ad av : Nat) (out : Int32) (h : f_J0_length_8abf5 = some out) : Met l yJ0_length_8abf5 wsJ0_length_8abf5 rm_J0_length_8abf5 (va_Pc [.ref ad] (GX D cI cS [] sz z ad av)) (QI D [] sz [] out) 0 0 (va_A [] sz) := by
  refine gm_ix (cc := cJ0_length_8abf5) (maxL := 1) (rt := .int) (by decide) rfl (by first | decide | exact Nat.le_of_ble_eq_true rfl) ?_
  intro p e s m args below meth c A Q H locs ls hx hb hml hown hts hK hN hA hP hD hS hl hX hz hQ
  have hown : s.vm.findClass RJ0 = some m.cls := hown
  have hl : lv_has ls 1 [(0, .ref ad)] := hl
  have k0 := hts (.fieldLink RJ0 9 "java/lang/String" "value" "[B") (by decide +kernel)
  refine lv_aload_n hx hb dJ0_length_8abf5_0 rfl (lv_at hl 0 rfl) ?_
  refine vk_getf hx hb ((hX.1.1 0 (by decide)).2.2.1.narrow hz) hS hown k0 (fun _ h9 => h9) dJ0_length_8abf5_1 ?_
  refine va_tlen hx hb ((hX.1.1 0 (by decide)).2.2.2.narrow hz) hS (v := 108) rfl dJ0_length_8abf5_4 ?_
  refine lv_aload_n hx hb dJ0_length_8abf5_5 rfl (lv_at hl 0 rfl) ?_
  refine gVx_i (v := 0) (As := []) (rest := [.int 108]) ⟨hx, hb, hml, hown, hts⟩ (c_J0_coder_7d493 l D cI cS H.size z ad av) (cwV 0 hts gJ0_length_8abf5_J0_coder_7d493 rfl rfl rfl cd_J0_coder_7d493 ⟨Nat.le_of_ble_eq_true rfl, Nat.le_of_ble_eq_true rfl⟩) hK hN hX hz hP hS hA rfl hl.1 rfl (Nat.le_of_ble_eq_true rfl) dJ0_length_8abf5_6 ⟨Nat.zero_le _, Nat.zero_le _⟩ (fun H locs hP hS => ?_)
  refine lv_ishr hx hb dJ0_length_8abf5_9 ?_
  refine W.eq (g2 := F0 m 10 ls [.int 108]) rfl ?_
  obtain rfl := Option.some.inj h
  exact hQ 10 H locs ls rfl hS dJ0_length_8abf5_10

theorem cd_J0_isLatin1_aae02 : (yJ0_isLatin1_aae02).cls = "java/lang/String" ∧ (yJ0_isLatin1_aae02).cls ≠ "java/lang/invoke/MethodHandle" ∧ (yJ0_isLatin1_aae02).cls ≠ "java/lang/invoke/VarHandle" ∧ (parseMethodDescriptor (yJ0_isLatin1_aae02).desc).map (fun d => d.parameters.length) = some 0 := by decide +kernel
abbrev rm_J0_isLatin1_aae02 : Room := { frames := 0, cells := 0, slots := 0, locals := 0 }
set_option maxHeartbeats 4000000 in
set_option maxRecDepth 100000 in
theorem c_J0_isLatin1_aae02 (l : Launch) (D : va_G) (cI cS : ClassId) (sz z ad av : Nat) : Met l yJ0_isLatin1_aae02 wsJ0_isLatin1_aae02 rm_J0_isLatin1_aae02 (va_Pc [.ref ad] (GX D cI cS [] sz z ad av)) (QI D [] sz [] 1) 0 0 (va_A [] sz) := by
  refine gm_ix (cc := cJ0_isLatin1_aae02) (maxL := 1) (rt := .boolean) (by decide) rfl (by first | decide | exact Nat.le_of_ble_eq_true rfl) ?_
  intro p e s m args below meth c A Q H locs ls hx hb hml hown hts hK hN hA hP hD hS hl hX hz hQ
  have hown : s.vm.findClass RJ0 = some m.cls := hown
  have hl : lv_has ls 1 [(0, .ref ad)] := hl
  have k0 := hts (.fieldLink RJ0 38 "java/lang/String" "COMPACT_STRINGS" "Z") (by decide +kernel)
  have k1 := hts (.fieldLink RJ0 15 "java/lang/String" "coder" "B") (by decide +kernel)
  refine va_gets hx hb (hX.2.1.narrow hz) hS hown k0 (fun _ h9 => h9) dJ0_isLatin1_aae02_0 ?_
  refine lv_if_eq (tgt := 17) hx hb dJ0_isLatin1_aae02_3 (by decide) (fun cc => absurd cc (by decide)) (fun cc => ?_)
  refine lv_aload_n hx hb dJ0_isLatin1_aae02_6 rfl (lv_at hl 0 rfl) ?_
  refine vk_getf hx hb ((hX.1.1 0 (by decide)).2.1.narrow hz) hS hown k1 (fun _ h9 => h9) dJ0_isLatin1_aae02_7 ?_
  refine lv_if_ne (tgt := 17) hx hb dJ0_isLatin1_aae02_10 (by decide) (fun cc => absurd rfl cc) (fun cc => ?_)
  refine lv_iconst (v := 1) hx hb dJ0_isLatin1_aae02_13 (by decide) ?_
  refine lv_goto (tgt := 18) hx hb dJ0_isLatin1_aae02_14 (by decide) ?_
  exact hQ 18 H locs ls rfl hS dJ0_isLatin1_aae02_18

theorem cd_J3_checkIndex_8e157 : (yJ3_checkIndex_8e157).cls ≠ "java/lang/invoke/MethodHandle" ∧ (yJ3_checkIndex_8e157).cls ≠ "java/lang/invoke/VarHandle" ∧ (parseMethodDescriptor (yJ3_checkIndex_8e157).desc).map (fun d => d.parameters.length) = some 3 := by decide +kernel
abbrev rm_J3_checkIndex_8e157 : Room := { frames := 0, cells := 0, slots := 0, locals := 0 }
set_option maxHeartbeats 4000000 in
set_option maxRecDepth 100000 in
theorem c_J3_checkIndex_8e157 (l : Launch) (D : va_G) (cI cS : ClassId) (sz z ad av : Nat) (i n : Int32) (v : Value) (hv : v = .null ∨ ∃ t : Nat, v = .ref t) (h0 : ¬ i < 0) (h1 : i < n) : Met l yJ3_checkIndex_8e157 wsJ3_checkIndex_8e157 rm_J3_checkIndex_8e157 (va_Pc [.int i, .int n, v] (GX D cI cS [] sz z ad av)) (QI D [] sz [] i) 0 0 (va_A [] sz) := by
  refine gm_ix (cc := cJ3_checkIndex_8e157) (maxL := 3) (rt := .int) (by decide) rfl (by rcases hv with rfl | ⟨t, rfl⟩ <;> exact Nat.le_of_ble_eq_true rfl) ?_
  intro p e s m args below meth c A Q H locs ls hx hb hml hown hts hK hN hA hP hD hS hl hX hz hQ
  have hown : s.vm.findClass RJ3 = some m.cls := hown
  have hl : lv_has ls 3 [(0, .int i), (1, .int n), (2, v)] := by rcases hv with rfl | ⟨t, rfl⟩ <;> exact hl
  refine lv_iload_n hx hb dJ3_checkIndex_8e157_0 rfl (lv_at hl 0 rfl) ?_
  refine lv_if_lt (tgt := 9) hx hb dJ3_checkIndex_8e157_1 (by decide) (fun cc => absurd cc h0) (fun cc => ?_)
  refine lv_iload_n hx hb dJ3_checkIndex_8e157_4 rfl (lv_at hl 0 rfl) ?_
  refine lv_iload_n hx hb dJ3_checkIndex_8e157_5 rfl (lv_at hl 1 rfl) ?_
  refine lv_icmp_lt (tgt := 16) hx hb dJ3_checkIndex_8e157_6 (by decide) (fun cc => ?_) (fun cc => absurd h1 cc)
  refine lv_iload_n hx hb dJ3_checkIndex_8e157_16 rfl (lv_at hl 0 rfl) ?_
  exact hQ 17 H locs ls rfl hS dJ3_checkIndex_8e157_17

theorem cd_J0_checkIndex_df160 : (yJ0_checkIndex_df160).cls ≠ "java/lang/invoke/MethodHandle" ∧ (yJ0_checkIndex_df160).cls ≠ "java/lang/invoke/VarHandle" ∧ (parseMethodDescriptor (yJ0_checkIndex_df160).desc).map (fun d => d.parameters.length) = some 2 := by decide +kernel
abbrev rm_J0_checkIndex_df160 : Room := { frames := 1, cells := 0, slots := 0, locals := 22 }
set_option maxHeartbeats 4000000 in
set_option maxRecDepth 100000 in
theorem c_J0_checkIndex_df160 (l : Launch) (D : va_G) (cI cS : ClassId) (sz z ad av : Nat) (i n : Int32) (h0 : ¬ i < 0) (h1 : i < n) : Met l yJ0_checkIndex_df160 wsJ0_checkIndex_df160 rm_J0_checkIndex_df160 (va_Pc [.int i, .int n] (GX D cI cS [] sz z ad av)) (QV D [] sz []) 0 0 (va_A [] sz) := by
  refine gm_vx (cc := cJ0_checkIndex_df160) (maxL := 2) (by decide) rfl (by first | decide | exact Nat.le_of_ble_eq_true rfl) ?_
  intro p e s m args below meth c A Q H locs ls hx hb hml hown hts hK hN hA hP hD hS hl hX hz hQ
  have hown : s.vm.findClass RJ0 = some m.cls := hown
  have hl : lv_has ls 2 [(0, .int i), (1, .int n)] := hl
  have k0 := hts (.fieldLink RJ0 1053 "jdk/internal/util/Preconditions" "SIOOBE_FORMATTER" "Ljava/util/function/BiFunction;") (by decide +kernel)
  refine lv_iload_n hx hb dJ0_checkIndex_df160_0 rfl (lv_at hl 0 rfl) ?_
  refine lv_iload_n hx hb dJ0_checkIndex_df160_1 rfl (lv_at hl 1 rfl) ?_
  rcases hX.2.2.1 with hq | ⟨t, hq⟩
  · refine va_gets hx hb (hq.narrow hz) hS hown k0 (fun _ h9 => h9) dJ0_checkIndex_df160_2 ?_
    refine gSx_i (v := i) (As := [.int i, .int n, .null]) (rest := []) ⟨hx, hb, hml, hown, hts⟩ (c_J3_checkIndex_8e157 l D cI cS H.size z ad av i n .null (Or.inl rfl) h0 h1) (va_cwS 3 hts gJ0_checkIndex_df160_J3_checkIndex_8e157 rfl rfl rfl cd_J3_checkIndex_8e157 ⟨Nat.le_of_ble_eq_true rfl, Nat.le_of_ble_eq_true rfl⟩) hK hN hX hz hP hS hA rfl hl.1 rfl (Nat.le_of_ble_eq_true rfl) dJ0_checkIndex_df160_5 ⟨Nat.zero_le _, Nat.zero_le _⟩ (fun H locs hP hS => ?_)
    refine lv_pop hx hb dJ0_checkIndex_df160_8 rfl ?_
    exact hQ 9 H locs ls hS dJ0_checkIndex_df160_9
  · refine va_gets hx hb (hq.narrow hz) hS hown k0 (fun _ h9 => h9) dJ0_checkIndex_df160_2 ?_
    refine gSx_i (v := i) (As := [.int i, .int n, (.ref t)]) (rest := []) ⟨hx, hb, hml, hown, hts⟩ (c_J3_checkIndex_8e157 l D cI cS H.size z ad av i n (.ref t) (Or.inr ⟨t, rfl⟩) h0 h1) (va_cwS 3 hts gJ0_checkIndex_df160_J3_checkIndex_8e157 rfl rfl rfl cd_J3_checkIndex_8e157 ⟨Nat.le_of_ble_eq_true rfl, Nat.le_of_ble_eq_true rfl⟩) hK hN hX hz hP hS hA rfl hl.1 rfl (Nat.le_of_ble_eq_true rfl) dJ0_checkIndex_df160_5 ⟨Nat.zero_le _, Nat.zero_le _⟩ (fun H locs hP hS => ?_)
    refine lv_pop hx hb dJ0_checkIndex_df160_8 rfl ?_
    exact hQ 9 H locs ls hS dJ0_checkIndex_df160_9

theorem gi_lt {i : Int32} {n : Nat} (h : gi i n) (hn : n < 2 ^ 31) : ¬ i < 0 ∧ i < Int32.ofNat n := by
  obtain ⟨j, hj, rfl⟩ := vp_in_of (x := i) (n := n) h hn
  exact ⟨nI_pos (by omega), nI_lt hj hn⟩
theorem cd_J1_charAt_3b067 : (yJ1_charAt_3b067).cls ≠ "java/lang/invoke/MethodHandle" ∧ (yJ1_charAt_3b067).cls ≠ "java/lang/invoke/VarHandle" ∧ (parseMethodDescriptor (yJ1_charAt_3b067).desc).map (fun d => d.parameters.length) = some 2 := by decide +kernel
abbrev rm_J1_charAt_3b067 : Room := { frames := 2, cells := 0, slots := 0, locals := 43 }
set_option maxHeartbeats 4000000 in
set_option maxRecDepth 100000 in
theorem c_J1_charAt_3b067 (l : Launch) (D : va_G) (cI cS : ClassId) (sz z ad av : Nat) (i : Int32) (hg : gi i 108) : Met l yJ1_charAt_3b067 wsJ1_charAt_3b067 rm_J1_charAt_3b067 (va_Pc [.ref av, .int i] (GX D cI cS [] sz z ad av)) (QI D [] sz [] (strC i.toNatClampNeg)) 0 0 (va_A [] sz) := by
  refine gm_ix (cc := cJ1_charAt_3b067) (maxL := 2) (rt := .char) (by decide) rfl (by first | decide | exact Nat.le_of_ble_eq_true rfl) ?_
  intro p e s m args below meth c A Q H locs ls hx hb hml hown hts hK hN hA hP hD hS hl hX hz hQ
  have hown : s.vm.findClass RJ1 = some m.cls := hown
  have hl : lv_has ls 2 [(0, .ref av), (1, .int i)] := hl
  obtain ⟨h0, h1⟩ := gi_lt hg (by decide)
  refine lv_iload_n hx hb dJ1_charAt_3b067_0 rfl (lv_at hl 1 rfl) ?_
  refine lv_aload_n hx hb dJ1_charAt_3b067_1 rfl (lv_at hl 0 rfl) ?_
  refine va_tlen hx hb ((hX.1.1 0 (by decide)).2.2.2.narrow hz) hS (v := 108) rfl dJ1_charAt_3b067_2 ?_
  refine gSx_v (As := [.int i, .int 108]) (rest := []) ⟨hx, hb, hml, hown, hts⟩ (c_J0_checkIndex_df160 l D cI cS H.size z ad av i 108 h0 h1) (va_cwS 2 hts gJ1_charAt_3b067_J0_checkIndex_df160 rfl rfl rfl cd_J0_checkIndex_df160 ⟨Nat.le_of_ble_eq_true rfl, Nat.le_of_ble_eq_true rfl⟩) hK hN hX hz hP hS hA rfl hl.1 rfl (Nat.le_of_ble_eq_true rfl) dJ1_charAt_3b067_3 ⟨Nat.zero_le _, Nat.zero_le _⟩ (fun H locs hP hS => ?_)
  refine lv_aload_n hx hb dJ1_charAt_3b067_6 rfl (lv_at hl 0 rfl) ?_
  refine lv_iload_n hx hb dJ1_charAt_3b067_7 rfl (lv_at hl 1 rfl) ?_
  refine va_tb hx hb ((hX.1.1 0 (by decide)).2.2.2.narrow hz) hS hg (v := .int (strB.getD i.toNatClampNeg 0)) rfl dJ1_charAt_3b067_8 ?_
  refine lv_sipush (v := 255) hx hb dJ1_charAt_3b067_9 (by decide) ?_
  refine lv_iand hx hb dJ1_charAt_3b067_12 ?_
  refine lv_i2c (v := strC i.toNatClampNeg) hx hb dJ1_charAt_3b067_13 rfl ?_
  exact hQ 14 H locs ls (pk_nc _) hS dJ1_charAt_3b067_14

def f_J0_charAt_5068e (x0 : Int32) : Option (Int32) := if gi x0 108 then some (strC x0.toNatClampNeg) else none
theorem cd_J0_charAt_5068e : (yJ0_charAt_5068e).cls = "java/lang/String" ∧ (yJ0_charAt_5068e).cls ≠ "java/lang/invoke/MethodHandle" ∧ (yJ0_charAt_5068e).cls ≠ "java/lang/invoke/VarHandle" ∧ (parseMethodDescriptor (yJ0_charAt_5068e).desc).map (fun d => d.parameters.length) = some 1 := by decide +kernel
abbrev rm_J0_charAt_5068e : Room := { frames := 3, cells := 0, slots := 0, locals := 64 }
set_option maxHeartbeats 4000000 in
set_option maxRecDepth 100000 in
theorem c_J0_charAt_5068e (l : Launch) (D : va_G) (cI cS : ClassId) (sz z ad av : Nat) (x0 : Int32) (out : Int32) (h : f_J0_charAt_5068e x0 = some out) : Met l yJ0_charAt_5068e wsJ0_charAt_5068e rm_J0_charAt_5068e (va_Pc [.ref ad, .int x0] (GX D cI cS [] sz z ad av)) (QI D [] sz [] out) 0 0 (va_A [] sz) := by
  refine gm_ix (cc := cJ0_charAt_5068e) (maxL := 2) (rt := .char) (by decide) rfl (by first | decide | exact Nat.le_of_ble_eq_true rfl) ?_
  intro p e s m args below meth c A Q H locs ls hx hb hml hown hts hK hN hA hP hD hS hl hX hz hQ
  have hown : s.vm.findClass RJ0 = some m.cls := hown
  have hl : lv_has ls 2 [(0, .ref ad), (1, .int x0)] := hl
  have k0 := hts (.fieldLink RJ0 9 "java/lang/String" "value" "[B") (by decide +kernel)
  obtain ⟨hg, h⟩ := og h
  obtain rfl := Option.some.inj h
  refine lv_aload_n hx hb dJ0_charAt_5068e_0 rfl (lv_at hl 0 rfl) ?_
  refine gVx_i (v := 1) (As := []) (rest := []) ⟨hx, hb, hml, hown, hts⟩ (c_J0_isLatin1_aae02 l D cI cS H.size z ad av) (cwV 0 hts gJ0_charAt_5068e_J0_isLatin1_aae02 rfl rfl rfl cd_J0_isLatin1_aae02 ⟨Nat.le_of_ble_eq_true rfl, Nat.le_of_ble_eq_true rfl⟩) hK hN hX hz hP hS hA rfl hl.1 rfl (Nat.le_of_ble_eq_true rfl) dJ0_charAt_5068e_1 ⟨Nat.zero_le _, Nat.zero_le _⟩ (fun H locs hP hS => ?_)
  refine lv_if_eq (tgt := 16) hx hb dJ0_charAt_5068e_4 (by decide) (fun cc => absurd cc (by decide)) (fun cc => ?_)
  refine lv_aload_n hx hb dJ0_charAt_5068e_7 rfl (lv_at hl 0 rfl) ?_
  refine vk_getf hx hb ((hX.1.1 0 (by decide)).2.2.1.narrow hz) hS hown k0 (fun _ h9 => h9) dJ0_charAt_5068e_8 ?_
  refine lv_iload_n hx hb dJ0_charAt_5068e_11 rfl (lv_at hl 1 rfl) ?_
  refine gSx_i (v := strC x0.toNatClampNeg) (As := [.ref av, .int x0]) (rest := []) ⟨hx, hb, hml, hown, hts⟩ (c_J1_charAt_3b067 l D cI cS H.size z ad av x0 hg) (va_cwS 2 hts gJ0_charAt_5068e_J1_charAt_3b067 rfl rfl rfl cd_J1_charAt_3b067 ⟨Nat.le_of_ble_eq_true rfl, Nat.le_of_ble_eq_true rfl⟩) hK hN hX hz hP hS hA rfl hl.1 rfl (Nat.le_of_ble_eq_true rfl) dJ0_charAt_5068e_12 ⟨Nat.zero_le _, Nat.zero_le _⟩ (fun H locs hP hS => ?_)
  exact hQ 15 H locs ls (pk_nc _) hS dJ0_charAt_5068e_15

