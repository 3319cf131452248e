/-! PURE: a new object of each -/
theorem StateP.fresh {q : Sta} {t s : FN} {d e : Nat} (hd12 : d ≤ 12) (he6 : e ≤ 6) (h1 : ∀ i, i < 12 → q.1 i = 0 ∧ q.2.1 i = 0 ∧ q.2.2.1 i = 0) (h2 : ∀ i, i < 6 → q.2.2.2.1 i = 0) (hc : q.2.2.2.2.2.1 = 0 ∧ q.2.2.2.2.2.2.1 = 0 ∧ q.2.2.2.2.2.2.2.1 = 0 ∧ q.2.2.2.2.2.2.2.2.1 = 0 ∧ q.2.2.2.2.2.2.2.2.2.1 = 0 ∧ q.2.2.2.2.2.2.2.2.2.2.1 = 0 ∧ q.2.2.2.2.2.2.2.2.2.2.2 = 1) (hs : ∀ x, x < 87 → s x = if x = 85 then 1 else 0) : StateP q t s d e := by
  obtain ⟨c1, c2, c3, c4, c5, c6, c7⟩ := hc
  unfold StateP
  rw [c1, c2, c3, c4, c5, c6, c7]
  exact StateR.fresh hd12 he6 h1 h2 hs
set_option maxRecDepth 100000 in
theorem h5s : f_X5_init.isSome = true := by decide +kernel
set_option maxRecDepth 100000 in
theorem h6s : f_X6_init.isSome = true := by decide +kernel
def C0 : RC := f_X5_init.get h5s
def M0 : MC := f_X6_init.get h6s
theorem h5 : f_X5_init = some C0 := (Option.some_get h5s).symm
theorem h6 : f_X6_init = some M0 := (Option.some_get h6s).symm
set_option maxRecDepth 100000 in
theorem z_txt : C0.1.2.2.2 = nI 0 ∧ C0.2.1 = nI 0 ∧ M0.2.2.2.2.2.1 = nI 0 ∧ M0.2.2.2.2.2.2.2.1 = nI 0 ∧ M0.2.2.2.2.2.2.2.2.1 = -1 ∧ M0.2.2.2.2.2.2.2.2.2.1 = -1 := by decide +kernel
set_option maxRecDepth 100000 in
theorem z_num : C0.2.2.1.2.2.2.2.2.1 = nI 8 ∧ M0.2.1 60 = nI 8 ∧ C0.2.2.1.2.2.2.2.2.2.2.1 = nI 4 ∧ M0.2.1 61 = nI 4 := by decide +kernel
set_option maxRecDepth 100000 in
theorem z_dev : ∀ i, i < 8 → C0.2.2.1.1 i = M0.2.1 (3 * i) ∧ C0.2.2.1.2.1 i = M0.2.1 (3 * i + 1) ∧ ((M0.2.1 (3 * i + 1)).toNatClampNeg < 6 ∧ M0.2.1 (3 * i + 1) = nI (M0.2.1 (3 * i + 1)).toNatClampNeg) ∧ (M0.2.1 (3 * i + 2) = 0 ∨ M0.2.1 (3 * i + 2) = 1) ∧ ((M0.2.1 (3 * i)).toNatClampNeg < 4 ∧ M0.2.1 (3 * i) = nI (M0.2.1 (3 * i)).toNatClampNeg) := by decide +kernel
set_option maxRecDepth 100000 in
theorem z_eff : ∀ k, k < 4 → C0.2.2.1.2.2.1 k = M0.2.1 (36 + 4 * k) ∧ C0.2.2.1.2.2.2.1 k = M0.2.1 (36 + 4 * k + 1) ∧ C0.2.2.1.2.2.2.2.1 k = M0.2.1 (36 + 4 * k + 2) ∧ ((M0.2.1 (36 + 4 * k + 1)).toNatClampNeg < 64 ∧ M0.2.1 (36 + 4 * k + 1) = nI (M0.2.1 (36 + 4 * k + 1)).toNatClampNeg) ∧ (M0.2.1 (36 + 4 * k + 3) = 0 ∨ M0.2.1 (36 + 4 * k + 3) = 1) := by decide +kernel
set_option maxRecDepth 100000 in
theorem z_iso : C0.2.2.1.2.2.2.2.2.2.1 = nI 73 ∧ ∀ i, i < 8 → Nat.testBit 73 i = decide (M0.2.1 (3 * i + 2) = 1) := by decide +kernel
set_option maxRecDepth 100000 in
theorem z_snd : C0.2.2.1.2.2.2.2.2.2.2.2.1 = nI 9 ∧ ∀ k, k < 4 → Nat.testBit 9 k = decide (M0.2.1 (36 + 4 * k + 3) = 1) := by decide +kernel
set_option maxRecDepth 100000 in
theorem z_lim : C0.2.2.1.2.2.2.2.2.2.2.2.2.1 = M0.2.1 62 ∧ C0.2.2.1.2.2.2.2.2.2.2.2.2.2.1 = M0.2.1 63 ∧ C0.2.2.1.2.2.2.2.2.2.2.2.2.2.2.1 = M0.2.1 64 ∧ C0.2.2.1.2.2.2.2.2.2.2.2.2.2.2.2.1 = M0.2.1 65 ∧ C0.2.2.1.2.2.2.2.2.2.2.2.2.2.2.2.2 = M0.2.1 66 ∧ M0.2.1 65 = nI 4 ∧ M0.2.1 66 = nI 3 := by decide +kernel
set_option maxRecDepth 100000 in
theorem z_sta : (∀ i, i < 12 → C0.2.2.2.2.1.1 i = 0 ∧ C0.2.2.2.2.1.2.1 i = 0 ∧ C0.2.2.2.2.1.2.2.1 i = 0) ∧ (∀ i, i < 6 → C0.2.2.2.2.1.2.2.2.1 i = 0) ∧ (C0.2.2.2.2.1.2.2.2.2.2.1 = 0 ∧ C0.2.2.2.2.1.2.2.2.2.2.2.1 = 0 ∧ C0.2.2.2.2.1.2.2.2.2.2.2.2.1 = 0 ∧ C0.2.2.2.2.1.2.2.2.2.2.2.2.2.1 = 0 ∧ C0.2.2.2.2.1.2.2.2.2.2.2.2.2.2.1 = 0 ∧ C0.2.2.2.2.1.2.2.2.2.2.2.2.2.2.2.1 = 0 ∧ C0.2.2.2.2.1.2.2.2.2.2.2.2.2.2.2.2 = 1) ∧ ∀ x, x < 87 → M0.2.2.2.1 x = if x = 85 then 1 else 0 := by decide +kernel
theorem rel0 : Rel C0 M0 := by
  obtain ⟨t1, t2, t3, t4, t5, t6⟩ := z_txt
  obtain ⟨n1, n2, n3, n4⟩ := z_num
  obtain ⟨l1, l2, l3, l4, l5, l6, l7⟩ := z_lim
  refine ⟨0, 0, 8, 4, ⟨by omega, t1, t3, fun i hi => absurd hi (by omega)⟩, ⟨by omega, t2, t4⟩, ⟨t5, t6⟩, ⟨⟨by omega, by omega, by omega⟩, ⟨n1, n2, n3, n4⟩, fun i hi => ?_, ⟨73, by decide, z_iso.1, z_iso.2⟩, fun k hk => ?_, ⟨9, by decide, z_snd.1, z_snd.2⟩, ⟨l1, l2, l3, l4, l5⟩, ⟨4, by omega, by omega, l6⟩, ⟨3, by omega, by omega, l7⟩⟩, StateP.fresh (by omega) (by omega) z_sta.1 z_sta.2.1 z_sta.2.2.1 z_sta.2.2.2, fun j hj => absurd hj (by omega)⟩
  · obtain ⟨a1, a2, a3, a4, a5⟩ := z_dev i hi
    exact ⟨a1, a2, ⟨_, a3.1, a3.2⟩, a4, ⟨_, a5.1, a5.2⟩⟩
  · obtain ⟨a1, a2, a3, a4, a5⟩ := z_eff k hk
    exact ⟨a1, a2, a3, ⟨_, a4.1, a4.2⟩, a5⟩
theorem allOK : AllOK Rel := ⟨ok_write, ok_wipe, ok_fault, ok_lay, ok_read, ok_wire, ok_day, ok_tick, ok_silence, ok_reset, ok_undo, ok_device, ok_stop, ok_wireOf, ok_worst, ok_help, ok_zone, ok_effect, ok_count⟩
