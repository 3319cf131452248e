/-! PURE: read, wire, day -/
theorem uo {s : FN} {k j : Nat} {x : Int32} (h : j ≠ k) : upd s k x j = s j := if_neg h
theorem us {s : FN} {k : Nat} {x : Int32} : upd s k x k = x := if_pos rfl
theorem zf_upd {t s : FN} {d z k : Nat} {x : Int32} (hk : ∀ i, i < d → 36 + i ≠ k) : zf t (upd s k x) d z = zf t s d z := anyb_cong (fun i hi => by show (_ && decide (upd s k x (36 + i) = 1)) = _; rw [uo (hk i hi)])
theorem StateR.setRd {rd bs hd wt cm : FN} {cuts shorts fires on silent ticks byDay : Int32} {t s : FN} {d e i r : Nat} (hd12 : d ≤ 12) (he6 : e ≤ 6) (hi : i < 12) (hr : r ≤ 99) (h : StateR rd bs hd wt cm cuts shorts fires on silent ticks byDay t s d e) : StateR (upd rd i (nI r)) bs hd wt cm cuts shorts fires on silent ticks byDay t (upd s i (nI r)) d e := by
  obtain ⟨a1, a2, a3, a4, a5, a6, a7, a8, a9, a10, a11, ⟨a12, a13, a14, a15⟩, a16⟩ := h
  refine ⟨fun j hj => ?_, fun k hk => ?_, fun j hj => ?_, a4.cong (fun j hj => ?_), fun w hw => ?_, a6.cong (fun j hj => ?_), a7.cong (fun j hj => ?_), fun k hk => ?_, a9.cong (fun j hj => ?_), a10.cong (fun j hj => ?_), fun z hz => ?_, ⟨?_, ?_, ?_, ?_⟩, fun j hj => ?_⟩
  · rw [uo (j := 12 + j) (by omega), uo (j := 24 + j) (by omega)]
    refine ⟨?_, (a1 j hj).2⟩
    by_cases q : j = i
    · subst q; rw [us, us]
    · rw [uo q, uo q]; exact (a1 j hj).1
  · rw [uo (by omega)]; exact a2 k hk
  · rw [uo (by omega)]; exact a3 j hj
  · rw [uo (by omega)]
  · rw [uo (by omega)]; exact a5 w hw
  · rw [uo (by omega)]
  · rw [uo (by omega)]
  · rw [uo (by omega), uo (by omega)]; exact a8 k hk
  · rw [uo (by omega)]
  · rw [uo (by omega)]
  · rw [zf_upd (fun j hj => by omega), uo (j := 79 + z) (by omega), uo (j := 86) (by omega)]; exact a11 z hz
  · rw [uo (by omega)]; exact a12
  · rw [uo (by omega)]; exact a13
  · rw [uo (by omega)]; exact a14
  · rw [uo (by omega)]; exact a15
  · rw [uo (j := 12 + j) (by omega)]
    refine ⟨(a16 j hj).1, ?_⟩
    by_cases q : j = i
    · subst q; rw [us]; exact ⟨r, hr, rfl⟩
    · rw [uo q]; exact (a16 j hj).2
theorem ok_read (x0 x1 : Int32) : OK1 Rel (fun C => rs_read C x0 x1) (fun M => ms_read M x0 x1) := by
  intro C M h
  have h0 := h
  obtain ⟨n, k, d, e, hn, ⟨hk, k1, k2⟩, hm, hPl, hSt, hpast⟩ := h
  obtain ⟨⟨hd1, hd12, he6⟩, ⟨p1, p2, p3, p4⟩, -⟩ := id hPl
  show ∃ o q, rs_read C x0 x1 = some o ∧ ms_read M x0 x1 = some q ∧ _
  unfold rs_read ms_read f_X5_read f_X6_read
  rw [isDev_eq, misDev_eq, p1, p2]
  simp only [Option.bind_some]
  by_cases c : wi x0 0 (nI d - 1) = 0
  · rw [if_pos c, if_pos c]
    exact ⟨_, _, rfl, rfl, rfl, h0⟩
  · rw [if_neg c, if_neg c, within_eq, in_eq x1 0 99 (by decide) (by decide)]
    simp only [Option.bind_some]
    by_cases c2 : wi x1 0 99 = 0
    · rw [if_pos c2, if_pos c2]
      exact ⟨_, _, rfl, rfl, rfl, h0⟩
    · rw [if_neg c2, if_neg c2]
      obtain ⟨i, hi, rfl⟩ := dev_of hd1 (by omega) c
      obtain ⟨r, -, hr, rfl⟩ := wi_nI (a := 0) (b := 99) (by decide) (by decide) c2
      unfold f_X6_becomes
      have e0 : (0 : Int32) + nI i = nI i := by rw [show (0 : Int32) = nI 0 from rfl, nI_add, Nat.zero_add]
      have g12 : gi (nI i) 12 := (gi_nI (by omega)).mpr (by omega)
      have g87 : gi (nI i) 87 := (gi_nI (by omega)).mpr (by omega)
      rw [e0, if_pos g12, if_pos g87]
      simp only [nI_clamp (show i < 2 ^ 31 by omega)]
      have hv : C.2.2.2.2.1.1 i = M.2.2.2.1 i := (hSt.1 i (by omega)).1
      rw [hv]
      by_cases c3 : M.2.2.2.1 i = nI r
      · rw [if_pos c3, if_pos c3]
        exact ⟨_, _, rfl, rfl, rfl, h0⟩
      · rw [if_neg c3, if_neg c3]
        obtain ⟨u, b', hu, hn', hu1, hp'⟩ := keep_past hd12 he6 hk k1 hSt hpast
        rw [hu, k2, hn']
        simp only [Option.bind_some]
        rw [if_pos g12, if_pos g87]
        simp only [Option.bind_some]
        refine ⟨_, _, rfl, rfl, rfl, n, min (k + 1) 6, d, e, hn, ⟨by omega, hu1, rfl⟩, hm, hPl, StateR.setRd hd12 he6 (by omega) hr hSt, fun j hj => hp' j hj⟩
theorem Bt.setb {S : Int32} {n i : Nat} {P : Nat → Bool} (h : Bt S n P) (hi : i < n) (hn : n ≤ 31) : Bt (S ||| ((1 : Int32) <<< (nI i &&& 31))) n (fun j => P j || decide (j = i)) := h.or (Bt.one hi hn)
theorem Bt.clr {S : Int32} {n i : Nat} {P : Nat → Bool} (h : Bt S n P) (hi : i < n) (hn : n ≤ 31) : Bt (S &&& (((1 : Int32) <<< (nI i &&& 31)) ^^^ (-1))) n (fun j => P j && !decide (j = i)) := h.diff (Bt.one hi hn)
theorem or0 (S : Int32) : S ||| 0 = S := by
  apply Int32.toBitVec_inj.1
  show S.toBitVec ||| 0#32 = S.toBitVec
  exact BitVec.or_zero
theorem cond_eq {cuts shorts : Int32} {s : FN} {d w : Nat} (hd : d ≤ 12) (hw : w ≤ d) (hs : s (48 + w) = 0 ∨ s (48 + w) = 1 ∨ s (48 + w) = 2) (h1 : Bt cuts (d + 1) (fun w => decide (s (48 + w) = 1))) (h2 : Bt shorts (d + 1) (fun w => decide (s (48 + w) = 2))) : f_X3_conditionOf cuts shorts (nI w) = some (s (48 + w)) := by
  unfold f_X3_conditionOf
  rw [h1.bit (by omega) (i := w) (by omega), h2.bit (by omega) (i := w) (by omega)]
  rcases hs with q | q | q <;> rw [q] <;> rfl
theorem StateR.setWire {rd bs hd wt cm : FN} {cuts shorts fires on silent ticks byDay : Int32} {t s : FN} {d e w h : Nat} (hd12 : d ≤ 12) (he6 : e ≤ 6) (hw : w ≤ d) (hh : h ≤ 2) {cuts' shorts' : Int32} (q : StateR rd bs hd wt cm cuts shorts fires on silent ticks byDay t s d e) (hc : Bt cuts' (d + 1) (fun v => decide (upd s (48 + w) (nI h) (48 + v) = 1))) (hs : Bt shorts' (d + 1) (fun v => decide (upd s (48 + w) (nI h) (48 + v) = 2))) : StateR rd bs hd wt cm cuts' shorts' fires on silent ticks byDay t (upd s (48 + w) (nI h)) d e := by
  obtain ⟨a1, a2, a3, a4, a5, a6, a7, a8, a9, a10, a11, ⟨a12, a13, a14, a15⟩, a16⟩ := q
  refine ⟨fun j hj => ?_, fun k hk => ?_, fun j hj => ?_, a4.cong (fun j hj => ?_), fun v hv => ?_, hc, hs, fun k hk => ?_, a9.cong (fun j hj => ?_), a10.cong (fun j hj => ?_), fun z hz => ?_, ⟨?_, ?_, ?_, ?_⟩, fun j hj => ?_⟩
  · rw [uo (by omega), uo (by omega), uo (by omega)]; exact a1 j hj
  · rw [uo (by omega)]; exact a2 k hk
  · rw [uo (by omega)]; exact a3 j hj
  · rw [uo (by omega)]
  · by_cases z : v = w
    · subst z
      rw [us]
      rcases (show h = 0 ∨ h = 1 ∨ h = 2 by omega) with rfl | rfl | rfl
      · exact Or.inl rfl
      · exact Or.inr (Or.inl rfl)
      · exact Or.inr (Or.inr rfl)
    · rw [uo (by omega)]; exact a5 v hv
  · rw [uo (by omega), uo (by omega)]; exact a8 k hk
  · rw [uo (by omega)]
  · rw [uo (by omega)]
  · rw [zf_upd (fun j hj => by omega), uo (j := 79 + z) (by omega), uo (j := 86) (by omega)]; exact a11 z hz
  · rw [uo (by omega)]; exact a12
  · rw [uo (by omega)]; exact a13
  · rw [uo (by omega)]; exact a14
  · rw [uo (by omega)]; exact a15
  · rw [uo (by omega), uo (by omega)]; exact a16 j hj
theorem setcond {cuts shorts : Int32} {s : FN} {d w h : Nat} (hd : d ≤ 12) (hw : w ≤ d) (hh : h ≤ 2) (h1 : Bt cuts (d + 1) (fun w => decide (s (48 + w) = 1))) (h2 : Bt shorts (d + 1) (fun w => decide (s (48 + w) = 2))) : ∃ c' s', f_X3_setCondition cuts shorts (nI w) (nI h) = some (c', s') ∧ Bt c' (d + 1) (fun v => decide (upd s (48 + w) (nI h) (48 + v) = 1)) ∧ Bt s' (d + 1) (fun v => decide (upd s (48 + w) (nI h) (48 + v) = 2)) := by
  have hc1 := h1.clr (i := w) (by omega) (by omega)
  have hs1 := h2.clr (i := w) (by omega) (by omega)
  have key : ∀ (v : Nat) (x : Int32), (upd s (48 + w) x) (48 + v) = if v = w then x else s (48 + v) := by
    intro v x
    by_cases q : v = w
    · subst q; rw [us, if_pos rfl]
    · rw [uo (by omega), if_neg q]
  unfold f_X3_setCondition
  rcases (show h = 0 ∨ h = 1 ∨ h = 2 by omega) with rfl | rfl | rfl
  · refine ⟨_, _, rfl, ?_, ?_⟩
    · show Bt (_ ||| 0) _ _
      rw [or0]
      refine hc1.cong (fun v hv => ?_)
      rw [key]
      by_cases q : v = w
      · simp [q, nI]
      · simp [q]
    · show Bt (_ ||| 0) _ _
      rw [or0]
      refine hs1.cong (fun v hv => ?_)
      rw [key]
      by_cases q : v = w
      · simp [q, nI]
      · simp [q]
  · refine ⟨_, _, rfl, ?_, ?_⟩
    · refine (hc1.setb (i := w) (by omega) (by omega)).cong (fun v hv => ?_)
      rw [key]
      by_cases q : v = w
      · simp [q, nI]
      · simp [q]
    · show Bt (_ ||| 0) _ _
      rw [or0]
      refine hs1.cong (fun v hv => ?_)
      rw [key]
      by_cases q : v = w
      · simp [q, nI]
      · simp [q]
  · refine ⟨_, _, rfl, ?_, ?_⟩
    · show Bt (_ ||| 0) _ _
      rw [or0]
      refine hc1.cong (fun v hv => ?_)
      rw [key]
      by_cases q : v = w
      · simp [q, nI]
      · simp [q]
    · refine (hs1.setb (i := w) (by omega) (by omega)).cong (fun v hv => ?_)
      rw [key]
      by_cases q : v = w
      · simp [q, nI]
      · simp [q]
theorem ok_wire (x0 x1 : Int32) : OK1 Rel (fun C => rs_wire C x0 x1) (fun M => ms_wire M x0 x1) := by
  intro C M h
  have h0 := h
  obtain ⟨n, k, d, e, hn, ⟨hk, k1, k2⟩, hm, hPl, hSt, hpast⟩ := h
  obtain ⟨⟨hd1, hd12, he6⟩, ⟨p1, p2, p3, p4⟩, -⟩ := id hPl
  obtain ⟨-, -, -, -, a5, a6, a7, -⟩ := id hSt
  show ∃ o q, rs_wire C x0 x1 = some o ∧ ms_wire M x0 x1 = some q ∧ _
  unfold rs_wire ms_wire f_X5_wire f_X6_wire
  rw [isWire_eq, misWire_eq, p1, p2]
  simp only [Option.bind_some]
  by_cases c : wi x0 0 (nI d) = 0
  · rw [if_pos c, if_pos c]
    exact ⟨_, _, rfl, rfl, rfl, h0⟩
  · rw [if_neg c, if_neg c, within_eq, in_eq x1 0 2 (by decide) (by decide)]
    simp only [Option.bind_some]
    by_cases c2 : wi x1 0 2 = 0
    · rw [if_pos c2, if_pos c2]
      exact ⟨_, _, rfl, rfl, rfl, h0⟩
    · rw [if_neg c2, if_neg c2]
      obtain ⟨i, hi, rfl⟩ := wire_of (by omega) c
      obtain ⟨r, -, hr, rfl⟩ := wi_nI (a := 0) (b := 2) (by decide) (by decide) c2
      unfold f_X6_becomes
      have e0 : (48 : Int32) + nI i = nI (48 + i) := by rw [show (48 : Int32) = nI 48 from rfl, nI_add]
      have g87 : gi (nI (48 + i)) 87 := (gi_nI (by omega)).mpr (by omega)
      rw [e0, if_pos g87, cond_eq hd12 hi (a5 i hi) a6 a7]
      simp only [nI_clamp (show 48 + i < 2 ^ 31 by omega)]
      simp only [Option.bind_some]
      by_cases c3 : M.2.2.2.1 (48 + i) = nI r
      · rw [if_pos c3, if_pos c3]
        exact ⟨_, _, rfl, rfl, rfl, h0⟩
      · rw [if_neg c3, if_neg c3]
        obtain ⟨u, b', hu, hn', hu1, hp'⟩ := keep_past hd12 he6 hk k1 hSt hpast
        obtain ⟨c', s', e1, e2, e3⟩ := setcond hd12 hi hr a6 a7
        rw [hu, k2, hn']
        simp only [Option.bind_some]
        rw [e1, if_pos g87]
        simp only [Option.bind_some]
        refine ⟨_, _, rfl, rfl, rfl, n, min (k + 1) 6, d, e, hn, ⟨by omega, hu1, rfl⟩, hm, hPl, StateR.setWire hd12 he6 hi hr hSt e2 e3, fun j hj => hp' j hj⟩
