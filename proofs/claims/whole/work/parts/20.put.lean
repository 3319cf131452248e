/-! A CALL THAT CHANGES PLACES OF A WORLD, the world's list kept in its order -/
theorem vl_l {x y : va_W} {i : Nat} {p : Nat × va_E} (h : x[i]? = some p) : (x ++ y)[i]? = some p := by
  rw [List.getElem?_append_left (List.getElem?_eq_some_iff.mp h).1]; exact h
theorem vl_r {x y : va_W} {i : Nat} {p : Nat × va_E} (h : y[i]? = some p) : (x ++ y)[x.length + i]? = some p := by
  rw [List.getElem?_append_right (Nat.le_add_right _ _), Nat.add_sub_cancel_left]; exact h
theorem vl_lt {x : va_W} {i : Nat} {p : Nat × va_E} (h : x[i]? = some p) : i < x.length := (List.getElem?_eq_some_iff.mp h).1
theorem vl_c {x y : va_W} {i : Nat} {p : Nat × va_E} (h : (x ++ y)[i]? = some p) : (x[i]? = some p ∧ i < x.length) ∨ (y[i - x.length]? = some p ∧ x.length ≤ i) := by
  by_cases c : i < x.length
  · rw [List.getElem?_append_left c] at h; exact Or.inl ⟨h, c⟩
  · rw [List.getElem?_append_right (Nat.le_of_not_lt c)] at h; exact Or.inr ⟨h, Nat.le_of_not_lt c⟩
theorem vp_app {D : va_G} {cl : List vw_C} {x y : va_W} {H : Heap} (h : va_P D cl (x ++ y) H) : va_P D cl x H ∧ va_P D cl y H := ⟨fun k q hk => h k q (vl_l hk), fun k q hk => h _ q (vl_r hk)⟩
theorem vd_app {A : Nat → Prop} {x y : va_W} (h : va_D A (x ++ y)) : va_D A x ∧ va_D A y ∧ ∀ (i j : Nat) (p q : Nat × va_E), x[i]? = some p → y[j]? = some q → p.1 ≠ q.1 := by
  obtain ⟨h1, h2⟩ := h
  refine ⟨⟨fun i j p q hi hj e => h1 i j p q (vl_l hi) (vl_l hj) e, fun k q hk => h2 k q (vl_l hk)⟩, ⟨fun i j p q hi hj e => ?_, fun k q hk => h2 _ q (vl_r hk)⟩, fun i j p q hi hj e => ?_⟩
  · have := h1 _ _ p q (vl_r (x := x) hi) (vl_r (x := x) hj) e; omega
  · have := h1 _ _ p q (vl_l (y := y) hi) (vl_r (x := x) hj) e
    have := vl_lt hi; omega
theorem vd_mk {A : Nat → Prop} {x y : va_W} (hx : va_D A x) (hy : va_D A y) (hxy : ∀ (i j : Nat) (p q : Nat × va_E), x[i]? = some p → y[j]? = some q → p.1 ≠ q.1) : va_D A (x ++ y) := by
  refine ⟨fun i j p q hi hj e => ?_, fun k q hk => ?_⟩
  · rcases vl_c hi with ⟨a, la⟩ | ⟨a, la⟩ <;> rcases vl_c hj with ⟨b, lb⟩ | ⟨b, lb⟩
    · exact hx.1 i j p q a b e
    · exact absurd e (hxy _ _ p q a b)
    · exact absurd e.symm (hxy _ _ q p b a)
    · have := hy.1 _ _ p q a b e; omega
  · rcases vl_c hk with ⟨a, la⟩ | ⟨a, la⟩
    · exact hx.2 _ q a
    · exact hy.2 _ q a
theorem vp_swap {D : va_G} {cl : List vw_C} {x y : va_W} {H : Heap} (h : va_P D cl (x ++ y) H) : va_P D cl (y ++ x) H := va_P.app (vp_app h).2 (vp_app h).1
theorem vd_swap {A : Nat → Prop} {x y : va_W} (h : va_D A (x ++ y)) : va_D A (y ++ x) := by
  obtain ⟨a, b, c⟩ := vd_app h
  exact vd_mk b a (fun i j p q hi hj e => c j i q p hj hi e.symm)
theorem vl_fm (ws : va_W) : ∀ (is : List Nat), (∀ i ∈ is, i < ws.length) → is.map (fun i => ws[i]?) = (is.filterMap (fun i => ws[i]?)).map some
  | [], _ => rfl
  | i :: is, h => by
    have hi : i < ws.length := h i (List.mem_cons_self ..)
    have e : ws[i]? = some ws[i] := List.getElem?_eq_some_iff.mpr ⟨hi, rfl⟩
    rw [List.map_cons, List.filterMap_cons_some e, List.map_cons, vl_fm ws is (fun j hj => h j (List.mem_cons_of_mem _ hj)), e]
theorem vl_perm {X E : va_W} {is perm : List Nat} (hE : is.map (fun i => X[i]?) = E.map some) (hp : perm.map (fun k => is[k]?) = (List.range X.length).map some) : perm.map (fun k => E[k]?) = X.map some := by
  have key : ∀ (k j : Nat), is[k]? = some j → j < X.length → E[k]? = X[j]? := by
    intro k j hk hj
    have h1 : (is.map (fun i => X[i]?))[k]? = some (X[j]?) := by rw [List.getElem?_map, hk]; rfl
    rw [hE, List.getElem?_map] at h1
    cases hq : E[k]? with
    | none => rw [hq] at h1; cases h1
    | some q => rw [hq] at h1; exact Option.some.inj h1
  apply List.ext_getElem?
  intro i
  have h2 : (perm.map (fun k => is[k]?))[i]? = ((List.range X.length).map some)[i]? := by rw [hp]
  rw [List.getElem?_map, List.getElem?_map] at h2
  rw [List.getElem?_map, List.getElem?_map]
  by_cases c : i < X.length
  · rw [List.getElem?_range c] at h2
    cases hk : perm[i]? with
    | none => rw [hk] at h2; cases h2
    | some k =>
      rw [hk] at h2
      have h3 : is[k]? = some i := Option.some.inj h2
      show some (E[k]?) = _
      rw [key k i h3 c, List.getElem?_eq_some_iff.mpr ⟨c, rfl⟩]
      rfl
  · have e1 : (List.range X.length)[i]? = none := List.getElem?_eq_none (by rw [List.length_range]; omega)
    rw [e1] at h2
    rw [List.getElem?_eq_none (l := X) (by omega)]
    cases hk : perm[i]? with
    | none => rfl
    | some k => rw [hk] at h2; cases h2
section PUT
variable {p : Program} {l : Launch} {e : Env} {R : Room} {s : State} {m : MethodId} {args : Array Value} {below : List Frame} {meth : Method} {c : Code} {H : Heap} {locs : List Loc} {cells slots : Nat} {Q : State → Prop}
variable {pc : Nat} {ls : Array Slot} {rest st0 : List Value} {A0 : Nat → Prop} {H0 : Heap} {mc ms : Nat} {D : va_G} {cI cS : ClassId} {X X' pl wc w1 : va_W} {wu : (Nat → Nat) → va_W} {v : Int32} {vr : Nat} {a : Array Value}
variable {y : MethodName} {bytes cc : ByteArray} {maxL nL n index ci q0 N nX : Nat} {ret : Option FieldType} {wy Ts : List Cond} {rm : Room} {own C host : String} {T : u_T} {b : Addr} {As : List Value} {fs : List Value}
theorem gV_L (S : CallFix p m c cc nL s args Ts own) (hM : Met l y wy rm (va_Pc (.ref b :: As) (GP D cI cS wc H.size)) (QI D wc H.size w1 v) mc ms (va_A wc H.size)) (cw : CallW R s args own C index y bytes maxL ret wy rm mc ms n) (hK : va_K D vwCl (ty2 cI cS) s) (hN : NW s)
    (hP : va_P D vwCl (X ++ pl) H) (hD : va_D A0 (X ++ pl)) (hS : va_S A0 H0 H locs) (hA : ∀ q, H0.size ≤ q → A0 q) (isC isR perm : List Nat) (hC : isC.map (fun i => X[i]?) = wc.map some) (hX : X.length = nX) (hX' : X'.length = nX) (hlt : ∀ i ∈ isR, i < nX) (hR' : isR.map (fun i => X'[i]?) = isR.map (fun i => X[i]?)) (hC' : isC.map (fun i => X'[i]?) = w1.map some) (hp : perm.map (fun k => (isR ++ isC)[k]?) = (List.range nX).map some) (hn : va_nd isR = true) (hnC : va_nd isC = true) (hnp : va_nd perm = true) (hdis : ∀ i ∈ isR, i ∉ isC)
    (hc : vwCl[ci]? = some (C, T, N)) (he : wc[q0]? = some (b, .inr (ci, fs))) (hlen : As.length = n) (hsize : ls.size = nL) (hst : st0 = As.reverse ++ .ref b :: rest) (hW : (rest.map fun v => v.category).sum ≤ 8) (hdg : decode cc pc = .ok (.invokevirtual index, 3)) (hf : cells + mc ≤ R.cells ∧ slots + ms ≤ R.slots)
    (kk : ∀ (H1 : Heap) (locs1 : List Loc), va_P D vwCl (X' ++ pl) H1 → va_D A0 (X' ++ pl) → va_S A0 H0 H1 locs1 → W p l e R s m args below meth c H1 locs1 (cells + mc) (slots + ms) Q (F0 m (pc + 3) ls (.int v :: rest))) : W p l e R s m args below meth c H locs cells slots Q (F0 m pc ls st0) := by
  have hPX := (vp_app hP).1
  have hDX := (vd_app hD).1
  have hPc : va_P D vwCl wc H := cut_P hPX hC
  have hDc := hDX.sub isC hnC hC
  have hr := va_runV S hM cw ⟨gp_blind, va_recv hK hPc hc he, gp_at hK hN hPc hDc⟩ rfl hlen hsize hst (lv_room hW) hdg hf (locs := locs) (cells := cells) (slots := slots) (e := e) (below := below) (meth := meth) (g := F0 m pc ls st0) (rest := rest)
  have hF := va_free (wc := wc) hDX hS hA isC hC
  have hR := vl_fm X isR (fun i hi => by rw [hX]; exact hlt i hi)
  refine va_calli hr hS (fun q _ h => hF q h) hF (fun r u t H1 locs1 ht hvm hw hB hz1 hk1 hS1 => ?_)
  obtain ⟨hP1, hD1⟩ := hB
  rw [ht] at hP1
  have hw : r = v := hw
  rw [hw]
  obtain ⟨hP2, hD2⟩ := va_joinQ hP hD isC isR hC hR hn hdis hk1 hF hP1 hD1
  have hE : (isR ++ isC).map (fun i => X'[i]?) = (isR.filterMap (fun i => X[i]?) ++ w1).map some := by rw [List.map_append, List.map_append, hR', hR, hC']
  have hE2 := vl_perm (perm := perm) hE (by rw [hX']; exact hp)
  obtain ⟨dE, dp, dx⟩ := vd_app hD2
  have hX2 : va_P D vwCl X' H1 := cut_P (vp_app hP2).1 hE2
  refine kk H1 locs1 (va_P.app hX2 (vp_app hP2).2) (vd_mk (dE.sub perm hnp hE2) dp (fun i j p q hi hj => ?_)) hS1
  have h1 : (perm.map (fun k => (isR.filterMap (fun i => X[i]?) ++ w1)[k]?))[i]? = some (some p) := by rw [hE2, List.getElem?_map, hi]; rfl
  rw [List.getElem?_map] at h1
  cases hk : perm[i]? with
  | none => rw [hk] at h1; cases h1
  | some k => rw [hk] at h1; exact dx k j p q (Option.some.inj h1) hj
theorem gV_R (S : CallFix p m c cc nL s args Ts own) (hM : Met l y wy rm (va_Pc (.ref b :: As) (GP D cI cS wc H.size)) (QI D wc H.size w1 v) mc ms (va_A wc H.size)) (cw : CallW R s args own C index y bytes maxL ret wy rm mc ms n) (hK : va_K D vwCl (ty2 cI cS) s) (hN : NW s)
    (hP : va_P D vwCl (pl ++ X) H) (hD : va_D A0 (pl ++ X)) (hS : va_S A0 H0 H locs) (hA : ∀ q, H0.size ≤ q → A0 q) (isC isR perm : List Nat) (hC : isC.map (fun i => X[i]?) = wc.map some) (hX : X.length = nX) (hX' : X'.length = nX) (hlt : ∀ i ∈ isR, i < nX) (hR' : isR.map (fun i => X'[i]?) = isR.map (fun i => X[i]?)) (hC' : isC.map (fun i => X'[i]?) = w1.map some) (hp : perm.map (fun k => (isR ++ isC)[k]?) = (List.range nX).map some) (hn : va_nd isR = true) (hnC : va_nd isC = true) (hnp : va_nd perm = true) (hdis : ∀ i ∈ isR, i ∉ isC)
    (hc : vwCl[ci]? = some (C, T, N)) (he : wc[q0]? = some (b, .inr (ci, fs))) (hlen : As.length = n) (hsize : ls.size = nL) (hst : st0 = As.reverse ++ .ref b :: rest) (hW : (rest.map fun v => v.category).sum ≤ 8) (hdg : decode cc pc = .ok (.invokevirtual index, 3)) (hf : cells + mc ≤ R.cells ∧ slots + ms ≤ R.slots)
    (kk : ∀ (H1 : Heap) (locs1 : List Loc), va_P D vwCl (pl ++ X') H1 → va_D A0 (pl ++ X') → va_S A0 H0 H1 locs1 → W p l e R s m args below meth c H1 locs1 (cells + mc) (slots + ms) Q (F0 m (pc + 3) ls (.int v :: rest))) : W p l e R s m args below meth c H locs cells slots Q (F0 m pc ls st0) :=
  gV_L (X := X) (X' := X') (pl := pl) S hM cw hK hN (vp_swap hP) (vd_swap hD) hS hA isC isR perm hC hX hX' hlt hR' hC' hp hn hnC hnp hdis hc he hlen hsize hst hW hdg hf (fun H1 locs1 h1 h2 h3 => kk H1 locs1 (vp_swap h1) (vd_swap h2) h3)
theorem gV_E (S : CallFix p m c cc nL s args Ts own) (hM : Met l y wy rm (va_Pc (.ref b :: As) (GP D cI cS X H.size)) (QE D X H.size wu v) mc ms (va_A X H.size)) (cw : CallW R s args own C index y bytes maxL ret wy rm mc ms n) (hK : va_K D vwCl (ty2 cI cS) s) (hN : NW s)
    (hP : va_P D vwCl (X ++ pl) H) (hD : va_D A0 (X ++ pl)) (hS : va_S A0 H0 H locs) (hA : ∀ q, H0.size ≤ q → A0 q) (isC : List Nat) (hC : isC.map (fun i => X[i]?) = X.map some)
    (hc : vwCl[ci]? = some (C, T, N)) (he : X[q0]? = some (b, .inr (ci, fs))) (hlen : As.length = n) (hsize : ls.size = nL) (hst : st0 = As.reverse ++ .ref b :: rest) (hW : (rest.map fun v => v.category).sum ≤ 8) (hdg : decode cc pc = .ok (.invokevirtual index, 3)) (hf : cells + mc ≤ R.cells ∧ slots + ms ≤ R.slots)
    (kk : ∀ (u : Nat → Nat) (H1 : Heap) (locs1 : List Loc), va_P D vwCl (wu u ++ pl) H1 → va_D A0 (wu u ++ pl) → va_S A0 H0 H1 locs1 → W p l e R s m args below meth c H1 locs1 (cells + mc) (slots + ms) Q (F0 m (pc + 3) ls (.int v :: rest))) : W p l e R s m args below meth c H locs cells slots Q (F0 m pc ls st0) := by
  have hPX := (vp_app hP).1
  have hDX := (vd_app hD).1
  have hr := va_runV S hM cw ⟨gp_blind, va_recv hK hPX hc he, gp_at hK hN hPX hDX⟩ rfl hlen hsize hst (lv_room hW) hdg hf (locs := locs) (cells := cells) (slots := slots) (e := e) (below := below) (meth := meth) (g := F0 m pc ls st0) (rest := rest)
  have hF := va_free (wc := X) hDX hS hA isC hC
  refine va_calli hr hS (fun q _ h => hF q h) hF (fun r u t H1 locs1 ht hvm hw hB hz1 hk1 hS1 => ?_)
  obtain ⟨hP1, hD1⟩ := hB
  rw [ht] at hP1
  have hw : r = v := hw
  rw [hw]
  obtain ⟨hP2, hD2⟩ := va_joinQ (wr := []) hP hD isC [] hC rfl rfl (fun i hi => by cases hi) hk1 hF hP1 hD1
  exact kk u H1 locs1 hP2 hD2 hS1
end PUT
