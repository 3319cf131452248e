/-! PURE: tick -/
theorem bases_eq {t s1 : FN} {pace x : Int32} {E : Nat} (hp : pace = t 65) (hE1 : 1 ≤ E) (hE9 : E ≤ 9) (hE : t 65 = nI E) (hx : x = s1 86) : f_X1_basesGoOnIn pace x = some (if goE t s1 then 1 else 0) := by
  subst hp hx
  unfold f_X1_basesGoOnIn goE
  have h0 : ¬ t 65 = 0 := by rw [hE]; exact nI_ne0 (by omega) (by omega)
  have h1 : ¬ t 65 ≤ 0 := by rw [hE]; exact nI_nle (by omega) (by omega)
  rw [if_neg h1, if_pos h0]
  by_cases c : s1 86 - s1 86 / t 65 * t 65 = 0
  · rw [if_pos c, decide_eq_true c]; rfl
  · rw [if_neg c, decide_eq_false c]; rfl
theorem zf_mono {t s s' : FN} {d z : Nat} (hd : d ≤ 12) (h : ∀ i, i < 12 → s (36 + i) = 1 → s' (36 + i) = 1) (hz : zf t s d z = true) : zf t s' d z = true := by
  obtain ⟨i, hi, hq⟩ := anyb_iff.mp hz
  simp only [Bool.and_eq_true, decide_eq_true_eq] at hq
  refine anyb_iff.mpr ⟨i, hi, ?_⟩
  simp only [Bool.and_eq_true, decide_eq_true_eq]
  exact ⟨hq.1, h i (by omega) hq.2⟩
theorem tick1 {kind zoneOf ek ez dl : FN} {dev iso eff snd pre alarm conf pace ph : Int32} {t : FN} {d e : Nat} (hPl : PlanR kind zoneOf ek ez dl dev iso eff snd pre alarm conf pace ph t d e) {rd bs hd wt cm : FN} {cuts shorts fires on silent ticks byDay : Int32} {s : FN} (hSt : StateR rd bs hd wt cm cuts shorts fires on silent ticks byDay t s d e) {T : Nat} (hT : T + 1 ≤ 9999) (hsT : s 86 = nI T) {lost : Int32} (hL : Bt lost d (lostB (isoE t (-1)) (cutE s (-1)) (shE s (-1)) d)) :
    ∃ (c : Nat) (s' : FN) (fires' on' silent' : Int32) (bs' hd' wt' cm' : FN), f_X6_ticks (-1) (-1) t s = some (nI c, s') ∧ f_X3_goOn fires on silent ticks byDay rd bs hd wt cm dev eff pre alarm conf pace kind zoneOf ek ez dl lost = some (fires', on', silent', ticks + 1, bs', hd', wt', cm') ∧
      StateR rd bs' hd' wt' cm' cuts shorts fires' on' silent' (ticks + 1) byDay t s' d e ∧ c + frC s d = frC s' d ∧ (∀ w, w ≤ d → s' (48 + w) = s (48 + w)) ∧ s' 86 = nI (T + 1) := by
  obtain ⟨⟨hd1, hd12, he6⟩, ⟨p1, p2, p3, p4⟩, hdev, hiso, hef, hsnd, ⟨l1, l2, l3, l4, l5⟩, ⟨E, hE1, hE9, hE⟩, -⟩ := hPl
  obtain ⟨a1, a2, a3, a4, a5, a6, a7, a8, a9, a10, a11, ⟨a12, a13, a14, a15⟩, a16⟩ := hSt
  subst p1 p3
  have hzo : ∀ i, i < d → zoneOf i = t (3 * i + 1) ∧ ∃ z, z < 6 ∧ t (3 * i + 1) = nI z := fun i hi => ⟨(hdev i hi).2.1, (hdev i hi).2.2.1⟩
  have hs1 : ∀ x, x ≠ 86 → upd s 86 (nI (T + 1)) x = s x := fun x hx => uo hx
  have hs86 : upd s 86 (nI (T + 1)) 86 = nI (T + 1) := us
  generalize hs1d : upd s 86 (nI (T + 1)) = s1 at hs1 hs86
  have hfr : frC s1 d = frC s d := fb_ct_cong (fun i hi => by show decide (s1 (36 + i) = 1) = decide (s (36 + i) = 1); rw [hs1 (36 + i) (by omega)])
  have hlb : ∀ w : FN, (∀ x, 48 ≤ x → w x = s1 x) → ∀ i, i < d → lostB (isoE t (-1)) (cutE w (-1)) (shE w (-1)) d i = lostB (isoE t (-1)) (cutE s (-1)) (shE s (-1)) d i := by
    intro w hw i hi
    refine lostB_cong hi (fun v hv => ?_) (fun v hv => ?_)
    · unfold cutE; rw [hw (48 + v) (by omega), hs1 (48 + v) (by omega)]
    · unfold shE; rw [hw (48 + v) (by omega), hs1 (48 + v) (by omega)]
  have hD0 : DInv s1 s1 fires bs hd d := by
    refine ⟨fun i hi => ?_, a4.cong (fun i hi => ?_), fun i hi => ?_, fun i hi => ?_, fun x _ => rfl, fun i _ h => h⟩
    · rw [hs1 (12 + i) (by omega), hs1 (24 + i) (by omega)]; exact (a1 i hi).2
    · rw [hs1 (36 + i) (by omega)]
    · rw [hs1 (36 + i) (by omega)]; exact a3 i hi
    · rw [hs1 (12 + i) (by omega)]; exact (a16 i hi).1
  obtain ⟨c, w1, fires', bs', hd', e15, e29, hD, hc⟩ := dv_loop (rd := rd) (kind := kind) (pre := pre) (alarm := alarm) (conf := conf) hd12 p2 (fun i hi => ⟨(hdev i hi).1, (hdev i hi).2.2.2.2⟩) l1 l2 l3 hE1 hE9 hE (fun i hi => by rw [hs1 i (by omega)]; exact ⟨(a1 i hi).1, (a16 i hi).2⟩) hL hlb d 1000 1000 0 0 s1 fires bs hd (by omega) (by omega) (by omega) hD0 (by omega)
  rw [show nI 0 = (0 : Int32) from rfl] at e15 e29
  obtain ⟨d1, d2, d3, d4, d5, d6⟩ := id hD
  obtain ⟨Z0, y0, z0⟩ := zones_eq hd12 a4 hzo
  obtain ⟨Z1, y1, z1⟩ := zones_eq hd12 d2 hzo
  have w79 : ∀ z, z < 6 → w1 (79 + z) = s (79 + z) := fun z hz => by rw [d5 (79 + z) (by omega), hs1 (79 + z) (by omega)]
  have hmono : ∀ z, zf t s d z = true → zf t w1 d z = true := fun z hz => zf_mono hd12 (fun i hi h => d6 i hi (by rw [hs1 (36 + i) (by omega)]; exact h)) hz
  have hcome : ∀ z, z < 6 → (zf t w1 d z && !zf t s d z) = (zf t w1 d z && decide (w1 (79 + z) = 0)) := by
    intro z hz
    rw [w79 z hz]
    cases q : zf t s d z with
    | true =>
      obtain ⟨-, cc, TT, h1, h2, h3, h4, h5⟩ := (a11 z hz).1 q
      rw [h4, decide_eq_false (nI_ne0 (by omega) (by omega))]; rfl
    | false => rw [(a11 z hz).2 q]; simp
  have hB := (z1.diff z0).cong hcome
  generalize hnw : (fun z => zf t w1 d z && decide (w1 (79 + z) = 0)) = nw at hB
  have hnw' : ∀ z, nw z = (zf t w1 d z && decide (w1 (79 + z) = 0)) := fun z => by rw [← hnw]
  have enz := nz_eq (silent := silent) (ticks := ticks + 1) (cm := cm) hB
  have e60 := zl_loop hd12 p2 hnw' 6 1000 0 (by omega) (by omega)
  have hz0 : zW nw w1 0 = w1 := by
    funext x
    exact zW_out (by omega)
  rw [hz0, show (if anyb nw 0 = true then (1 : Int32) else 0) = 0 from rfl, show nI 0 = (0 : Int32) from rfl] at e60
  have w2v : ∀ x, ¬ (79 ≤ x ∧ x < 85) → zW nw w1 6 x = w1 x := fun x hx => zW_out (by omega)
  have w2z : ∀ z, z < 6 → zW nw w1 6 (79 + z) = if nw z = true then w1 86 else w1 (79 + z) := by
    intro z hz
    unfold zW
    rw [Nat.add_sub_cancel_left]
    by_cases q : nw z = true
    · rw [if_pos ⟨by omega, by omega, q⟩, if_pos q]
    · rw [if_neg (fun g => q g.2.2), if_neg q]
  generalize hw2 : zW nw w1 6 = w2 at e60 w2v w2z
  have hE0 : EInv w2 w2 on wt (anyb nw 6) 0 e := by
    refine ⟨fun k hk => ?_, fun k hk => ?_, a9.cong (fun k hk => ?_), fun x _ => rfl, fun k hk => ?_⟩
    · rw [w2v (61 + k) (by omega), d5 (61 + k) (by omega), hs1 (61 + k) (by omega)]; exact a2 k hk
    · rw [w2v (67 + k) (by omega), d5 (67 + k) (by omega), hs1 (67 + k) (by omega)]; exact (a8 k hk).1
    · rw [w2v (67 + k) (by omega), d5 (67 + k) (by omega), hs1 (67 + k) (by omega)]
    · rw [if_neg (by omega)]
  have hday : byDay = w2 85 := by rw [w2v 85 (by omega), d5 85 (by omega), hs1 85 (by omega)]; exact a13
  have hZ2 : Bt Z1 6 (fun z => zf t w2 d z) := z1.cong (fun z _ => zf_same (fun i hi => (w2v (36 + i) (by omega)).symm))
  obtain ⟨w3, on', wt', e112, e92, g1, g2, g3, g4, g5⟩ := ef_loop (q60 := (if anyb nw 6 = true then 1 else 0, w2)) hd12 p2 he6 p4 rfl (fun k hk => ⟨(hef k hk).1, (hef k hk).2.1, (hef k hk).2.2.1, (hef k hk).2.2.2.1⟩) hday hZ2 e 1000 1000 0 w2 on wt (by omega) (by omega) (by omega) hE0
  rw [show nI 0 = (0 : Int32) from rfl] at e112 e92
  have hwire : ∀ w, w ≤ d → w3 (48 + w) = s (48 + w) := fun w hw => by rw [g4 (48 + w) (by omega), w2v (48 + w) (by omega), d5 (48 + w) (by omega), hs1 (48 + w) (by omega)]
  have h86 : w3 86 = nI (T + 1) := by rw [g4 86 (by omega), w2v 86 (by omega), d5 86 (by omega), hs86]
  have hfire : ∀ i, i < 12 → w3 (36 + i) = w1 (36 + i) := fun i hi => by rw [g4 (36 + i) (by omega), w2v (36 + i) (by omega)]
  have htick : ticks + 1 = nI (T + 1) := by rw [a12, hsT, nI1]
  refine ⟨c, w3, fires', on', (if anyb nw 6 = true then 0 else silent), bs', hd', wt', (fun x => if x < 6 ∧ nw x = true then ticks + 1 else cm x), ?_, ?_, ?_, ?_, hwire, h86⟩
  · unfold f_X6_ticks
    rw [show (86 : Int32).toNatClampNeg = 86 from rfl, hsT, nI1, hs1d]
    refine (bind_of e15).trans ?_
    refine (bind_of e60).trans ?_
    refine (bind_of e112).trans rfl
  · unfold f_X3_goOn
    refine (bind_of y0).trans ?_
    refine (bind_of (bases_eq (s1 := s1) l4 hE1 hE9 hE (by rw [hs86]; exact htick))).trans ?_
    refine (bind_of e29).trans ?_
    refine (bind_of y1).trans ?_
    refine (bind_of enz).trans ?_
    refine (bind_of e92).trans rfl
  · refine ⟨fun i hi => ?_, g1, fun i hi => ?_, d2.cong (fun i hi => ?_), fun w hw => ?_, a6.cong (fun j hj => ?_), a7.cong (fun j hj => ?_), fun k hk => ⟨g2 k hk, ?_⟩, g3, ?_, fun z hz => ?_, ⟨?_, ?_, ?_, ?_⟩, fun i hi => ?_⟩
    · rw [g4 i (by omega), w2v i (by omega), d5 i (by omega), hs1 i (by omega), g4 (12 + i) (by omega), w2v (12 + i) (by omega), g4 (24 + i) (by omega), w2v (24 + i) (by omega)]
      exact ⟨(a1 i hi).1, d1 i hi⟩
    · rw [hfire i hi]; exact d3 i hi
    · rw [hfire i (by omega)]
    · rw [hwire w hw]; exact a5 w hw
    · rw [hwire j (by omega)]
    · rw [hwire j (by omega)]
    · rw [g5 k hk]
      by_cases q : k < e ∧ anyb nw 6 = true
      · rw [if_pos q]; exact Or.inl rfl
      · rw [if_neg q, w2v (73 + k) (by omega), d5 (73 + k) (by omega), hs1 (73 + k) (by omega)]; exact (a8 k hk).2
    · cases q : anyb nw 6 with
      | true =>
        rw [if_pos rfl]
        refine (Bt.zero e).cong (fun k hk => ?_)
        rw [g5 k (by omega), if_pos ⟨hk, q⟩]; rfl
      | false =>
        rw [if_neg (by decide)]
        refine a10.cong (fun k hk => ?_)
        rw [g5 k (by omega), if_neg (by rw [q]; simp), w2v (73 + k) (by omega), d5 (73 + k) (by omega), hs1 (73 + k) (by omega)]
    · have hzf : zf t w3 d z = zf t w1 d z := zf_same (fun i hi => hfire i (by omega))
      rw [hzf, g4 (79 + z) (by omega), w2z z hz, h86]
      constructor
      · intro hq
        cases qn : nw z with
        | true =>
          rw [if_pos rfl, d5 86 (by omega), hs86]
          exact ⟨(if_pos ⟨hz, qn⟩).trans htick, T + 1, T + 1, by omega, by omega, hT, rfl, rfl⟩
        | false =>
          rw [if_neg (by decide), w79 z hz]
          have hne : ¬ s (79 + z) = 0 := by
            intro e0
            rw [hnw', hq, w79 z hz, e0] at qn
            cases qn
          have hzs : zf t s d z = true := by
            cases qs : zf t s d z with
            | true => rfl
            | false => exact absurd ((a11 z hz).2 qs) hne
          obtain ⟨hcm, cc, TT, h1, h2, h3, h4, h5⟩ := (a11 z hz).1 hzs
          refine ⟨(if_neg (fun g => by rw [qn] at g; cases g.2)).trans hcm, cc, T + 1, h1, ?_, hT, h4, rfl⟩
          have : T = TT := (nI_eq (by omega) (by omega)).mp (hsT.symm.trans h5)
          omega
      · intro hq
        have qn : nw z = false := by rw [hnw', hq]; rfl
        rw [qn, if_neg (by decide), w79 z hz]
        cases qs : zf t s d z with
        | true => rw [hmono z qs] at hq; cases hq
        | false => exact (a11 z hz).2 qs
    · rw [h86]; exact htick
    · rw [g4 85 (by omega)]; exact hday
    · exact ⟨T + 1, hT, h86⟩
    · rw [g4 85 (by omega), ← hday, a13]; exact a15
    · rw [g4 (12 + i) (by omega), w2v (12 + i) (by omega), g4 i (by omega), w2v i (by omega), d5 i (by omega), hs1 i (by omega)]
      exact ⟨d4 i hi, (a16 i hi).2⟩
  · have : frC w3 d = frC w1 d := fb_ct_cong (fun i hi => by show decide (w3 (36 + i) = 1) = decide (w1 (36 + i) = 1); rw [hfire i (by omega)])
    rw [this]; omega
theorem tick_loop {pn : Pl} {sn : Sta} {t s0 : FN} {d e N : Nat} (hPl : PlanP pn t d e) (hN : N ≤ 50) {lost : Int32} :
    ∀ (r n m v c T : Nat) (s : FN) (fires on silent ticks : Int32) (bs hd wt cm : FN), v + r = N → r < n → r < m → T + r ≤ 9999 → s 86 = nI T → Bt lost d (lostB (isoE t (-1)) (cutE s (-1)) (shE s (-1)) d) → StateR sn.1 bs hd wt cm sn.2.2.2.2.2.1 sn.2.2.2.2.2.2.1 fires on silent ticks sn.2.2.2.2.2.2.2.2.2.2.2 t s d e → c + frC s0 d = frC s d →
      ∃ (c' : Nat) (s' : FN) (u : Int32 × Int32 × Int32 × Int32 × FN × FN × FN × FN), f_X6_tick_40 (-1) (-1) t (nI N) n (nI c) (nI v) s = some (nI c', s') ∧ f_X5_tick_60 pn sn (nI N) lost m (nI v) fires on silent ticks bs hd wt cm = some u ∧
        StateR sn.1 u.2.2.2.2.1 u.2.2.2.2.2.1 u.2.2.2.2.2.2.1 u.2.2.2.2.2.2.2 sn.2.2.2.2.2.1 sn.2.2.2.2.2.2.1 u.1 u.2.1 u.2.2.1 u.2.2.2.1 sn.2.2.2.2.2.2.2.2.2.2.2 t s' d e ∧ c' + frC s0 d = frC s' d := by
  intro r
  induction r with
  | zero =>
    intro n m v c T s fires on silent ticks bs hd wt cm h1 h2 h3 h4 h5 hL hS hc
    obtain ⟨n, rfl⟩ : ∃ k, n = k + 1 := ⟨n - 1, by omega⟩
    obtain ⟨m, rfl⟩ : ∃ k, m = k + 1 := ⟨m - 1, by omega⟩
    rw [f_X6_tick_40, f_X5_tick_60, if_pos (nI_le (by omega) (by omega)), if_pos (nI_le (by omega) (by omega))]
    exact ⟨c, s, _, rfl, rfl, hS, hc⟩
  | succ r ih =>
    intro n m v c T s fires on silent ticks bs hd wt cm h1 h2 h3 h4 h5 hL hS hc
    obtain ⟨n, rfl⟩ : ∃ k, n = k + 1 := ⟨n - 1, by omega⟩
    obtain ⟨m, rfl⟩ : ∃ k, m = k + 1 := ⟨m - 1, by omega⟩
    obtain ⟨⟨hd1, hd12, he6⟩, -⟩ := id hPl
    obtain ⟨c1, s', fires', on', silent', bs', hd', wt', cm', e1, e2, hS', hc', hw, h86⟩ := tick1 hPl hS (T := T) (by omega) h5 hL
    rw [f_X6_tick_40, f_X5_tick_60, if_neg (nI_ge (by omega) (by omega)), if_neg (nI_ge (by omega) (by omega)), e1, e2]
    simp only [Option.bind_some]
    rw [nI_add, nI1]
    have hL' : Bt lost d (lostB (isoE t (-1)) (cutE s' (-1)) (shE s' (-1)) d) := hL.cong (fun i hi => lostB_cong hi (fun v hv => by unfold cutE; rw [hw v hv]) (fun v hv => by unfold shE; rw [hw v hv]))
    exact ih n m (v + 1) (c + c1) (T + 1) s' fires' on' silent' (ticks + 1) bs' hd' wt' cm' (by omega) (by omega) (by omega) (by omega) h86 hL' hS' (by omega)
theorem ok_tick (x0 : Int32) : OK1 Rel (fun C => rs_tick C x0) (fun M => ms_tick M x0) := by
  intro C M h
  have h0 := h
  obtain ⟨n, k, d, e, hn, ⟨hk, k1, k2⟩, ⟨m1, m2⟩, hPl, hSt, hpast⟩ := h
  obtain ⟨⟨hd1, hd12, he6⟩, ⟨p1, p2, p3, p4⟩, -, hiso, -⟩ := id hPl
  obtain ⟨-, -, -, a4, a5, a6, a7, -, -, -, -, ⟨a12, -, ⟨T, hT, hsT⟩, -⟩, -⟩ := id hSt
  obtain ⟨Y, y1, y2⟩ := lost_eq hd12 (isoE0 hd12 hiso) (cutE0 hd12 a6) (shE0 hd12 a7)
  show ∃ o q, rs_tick C x0 = some o ∧ ms_tick M x0 = some q ∧ _
  unfold rs_tick ms_tick f_X5_tick f_X6_tick f_X5_lostNow
  rw [within_eq, in_eq x0 1 50 (by decide) (by decide)]
  simp only [Option.bind_some]
  by_cases c : wi x0 1 50 = 0
  · rw [if_pos c, if_pos c]; exact ⟨_, _, rfl, rfl, rfl, h0⟩
  rw [if_neg c, if_neg c]
  obtain ⟨N, hN1, hN50, rfl⟩ := wi_nI (a := 1) (b := 50) (by decide) (by decide) c
  rw [show (86 : Int32).toNatClampNeg = 86 from rfl, a12, hsT, nI_add]
  by_cases c2 : T + N ≤ 9999
  · have hle : nI (T + N) ≤ (9999 : Int32) := nI_le (b := 9999) c2 (by decide)
    rw [if_pos hle, if_pos hle]
    obtain ⟨u, b', hu, hn', hu1, hp'⟩ := keep_past hd12 he6 hk k1 hSt hpast
    have hcf : f_J6_bitCount_0f7a4 C.2.2.2.2.1.2.2.2.2.2.2.2.1 = some (nI (frC M.2.2.2.1 d)) := a4.count hd12
    obtain ⟨c', s', w, e1, e2, hS', hc'⟩ := tick_loop (s0 := M.2.2.2.1) hPl hN50 (lost := Y) N 1000 1000 0 0 T M.2.2.2.1 _ _ _ _ _ _ _ _ (by omega) (by omega) (by omega) c2 hsT y2 hSt (by omega)
    rw [show nI 0 = (0 : Int32) from rfl] at e1 e2
    obtain ⟨-, -, -, b4, -⟩ := id hS'
    have hcf' : f_J6_bitCount_0f7a4 w.1 = some (nI (frC s' d)) := b4.count hd12
    rw [a12, hsT] at hu e2
    rw [hu, k2, hn', m1, m2, p1, y1, hcf, e1]
    simp only [Option.bind_some]
    rw [e2]
    simp only [Option.bind_some]
    rw [hcf']
    simp only [Option.bind_some]
    refine ⟨_, _, rfl, rfl, ?_, n, min (k + 1) 6, d, e, hn, ⟨by omega, hu1, rfl⟩, ⟨rfl, rfl⟩, hPl, hS', fun j hj => hp' j hj⟩
    show nI (frC s' d) - nI (frC M.2.2.2.1 d) = nI c'
    rw [← hc', ← nI_add, Int32.add_sub_cancel]
  · have hle : ¬ nI (T + N) ≤ (9999 : Int32) := nI_ge (a := 9999) (by omega) (by omega)
    rw [if_neg hle, if_neg hle]
    refine ⟨_, _, rfl, rfl, rfl, h0⟩
