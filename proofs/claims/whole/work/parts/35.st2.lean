/-! PURE: sums and counts; day, reset, silence -/
theorem sum_loop (s : FN) {a m : Nat} (ham : a + m ≤ 87) : ∀ (r n v : Nat), v + r = m → r < n → f_X6_sumOf_5 s (nI a) (nI m) n (nI (fb_ct (fun k => decide (¬ s (a + k) ≤ 0)) v)) (nI v) = some (nI (fb_ct (fun k => decide (¬ s (a + k) ≤ 0)) m)) := by
  intro r
  induction r with
  | zero =>
    intro n v h1 h2
    obtain ⟨n, rfl⟩ : ∃ k, n = k + 1 := ⟨n - 1, by omega⟩
    rw [f_X6_sumOf_5, if_pos (nI_le (by omega) (by omega)), show v = m by omega]
  | succ r ih =>
    intro n v h1 h2
    obtain ⟨n, rfl⟩ : ∃ k, n = k + 1 := ⟨n - 1, by omega⟩
    have hi := ih n (v + 1) (by omega) (by omega)
    rw [fb_ct_succ] at hi
    rw [f_X6_sumOf_5, if_neg (nI_ge (by omega) (by omega)), nI_add, if_pos ((gi_nI (by omega)).mpr (by omega)), nI_clamp (by omega), nI1]
    by_cases q : s (a + v) ≤ 0
    · rw [if_pos q]
      rw [show (decide (¬ s (a + v) ≤ 0)) = false by simp [q]] at hi
      simpa using hi
    · rw [if_neg q]
      rw [show (decide (¬ s (a + v) ≤ 0)) = true by simp [q]] at hi
      rw [nI1]
      simpa using hi
theorem sum_eq (s : FN) {a m : Nat} (ham : a + m ≤ 87) : f_X6_sumOf s (nI a) (nI m) = some (nI (fb_ct (fun k => decide (¬ s (a + k) ≤ 0)) m)) := by
  unfold f_X6_sumOf
  have h := sum_loop s ham m 1000 0 (by omega) (by omega)
  rw [show nI (fb_ct (fun k => decide (¬ s (a + k) ≤ 0)) 0) = (0 : Int32) from rfl, show nI 0 = (0 : Int32) from rfl] at h
  rw [h]; rfl
theorem sum_bits {s : FN} {a m e : Nat} {S : Int32} (ham : a + m ≤ 87) (hem : e ≤ m) (he : e ≤ 12) (hv : ∀ k, k < m → s (a + k) = 0 ∨ (s (a + k) = 1 ∧ k < e)) (hB : Bt S e (fun k => decide (s (a + k) = 1))) : ∃ c, c ≤ 12 ∧ f_J6_bitCount_0f7a4 S = some (nI c) ∧ f_X6_sumOf s (nI a) (nI m) = some (nI c) ∧ (c = 0 ↔ S = 0) := by
  have hc : fb_ct (fun k => decide (¬ s (a + k) ≤ 0)) m = fb_ct (fun k => decide (s (a + k) = 1)) e := by
    obtain ⟨j, rfl⟩ : ∃ j, m = e + j := ⟨m - e, by omega⟩
    rw [fb_ct_split]
    have z : fb_ct (fun k => decide (¬ s (a + (e + k)) ≤ 0)) j = 0 := fb_ct_zero.mpr (fun k hk => by
      rcases hv (e + k) (by omega) with q | ⟨-, q⟩
      · rw [q]; rfl
      · omega)
    rw [z, Nat.add_zero]
    refine fb_ct_cong (fun k hk => ?_)
    rcases hv k (by omega) with q | ⟨q, -⟩ <;> rw [q] <;> rfl
  refine ⟨fb_ct (fun k => decide (s (a + k) = 1)) e, Nat.le_trans (fb_ct_le _ _) he, hB.count he, by rw [sum_eq s ham, hc], ?_⟩
  rw [fb_ct_zero, hB.eq0 (by omega)]
theorem StateR.setDay {rd bs hd wt cm : FN} {cuts shorts fires on silent ticks byDay : Int32} {t s : FN} {d e h : Nat} (hd12 : d ≤ 12) (he6 : e ≤ 6) (hh : h ≤ 1) (q : StateR rd bs hd wt cm cuts shorts fires on silent ticks byDay t s d e) : StateR rd bs hd wt cm cuts shorts fires on silent ticks (nI h) t (upd s 85 (nI h)) d e := by
  obtain ⟨a1, a2, a3, a4, a5, a6, a7, a8, a9, a10, a11, ⟨a12, a13, a14, a15⟩, a16⟩ := q
  refine ⟨fun j hj => ?_, fun k hk => ?_, fun j hj => ?_, a4.cong (fun j hj => ?_), fun v hv => ?_, a6.cong (fun j hj => ?_), a7.cong (fun j hj => ?_), fun k hk => ?_, a9.cong (fun j hj => ?_), a10.cong (fun j hj => ?_), fun z hz => ?_, ⟨?_, ?_, ?_, ?_⟩, fun j hj => ?_⟩
  · rw [uo (by omega), uo (by omega), uo (by omega)]; exact a1 j hj
  · rw [uo (by omega)]; exact a2 k hk
  · rw [uo (by omega)]; exact a3 j hj
  · rw [uo (by omega)]
  · rw [uo (by omega)]; exact a5 v hv
  · rw [uo (by omega)]
  · rw [uo (by omega)]
  · rw [uo (by omega), uo (by omega)]; exact a8 k hk
  · rw [uo (by omega)]
  · rw [uo (by omega)]
  · rw [zf_upd (fun j hj => by omega), uo (j := 79 + z) (by omega), uo (j := 86) (by omega)]; exact a11 z hz
  · rw [uo (by omega)]; exact a12
  · rw [us]
  · rw [uo (by omega)]; exact a14
  · rw [us]
    rcases (show h = 0 ∨ h = 1 by omega) with rfl | rfl
    · exact Or.inl rfl
    · exact Or.inr rfl
  · rw [uo (by omega), uo (by omega)]; exact a16 j hj
theorem ok_day (x0 : Int32) : OK1 Rel (fun C => rs_day C x0) (fun M => ms_day M x0) := by
  intro C M h
  have h0 := h
  obtain ⟨n, k, d, e, hn, ⟨hk, k1, k2⟩, hm, hPl, hSt, hpast⟩ := h
  obtain ⟨⟨hd1, hd12, he6⟩, ⟨p1, p2, p3, p4⟩, -⟩ := id hPl
  obtain ⟨-, -, -, -, -, -, -, a8, a9, -, -, ⟨-, a13, -, a15⟩, -⟩ := id hSt
  show ∃ o q, rs_day C x0 = some o ∧ ms_day M x0 = some q ∧ _
  unfold rs_day ms_day f_X5_day f_X6_day
  rw [within_eq, in_eq x0 0 1 (by decide) (by decide)]
  simp only [Option.bind_some]
  by_cases c : wi x0 0 1 = 0
  · rw [if_pos c, if_pos c]
    exact ⟨_, _, rfl, rfl, rfl, h0⟩
  · rw [if_neg c, if_neg c]
    obtain ⟨r, -, hr, rfl⟩ := wi_nI (a := 0) (b := 1) (by decide) (by decide) c
    unfold f_X6_becomes
    have g : gi (85 : Int32) 87 := by decide
    have e85 : (85 : Int32).toNatClampNeg = 85 := rfl
    rw [if_pos g, a13]
    simp only [e85]
    by_cases c3 : M.2.2.2.1 85 = nI r
    · rw [if_pos c3.symm, if_pos c3]
      exact ⟨_, _, rfl, rfl, rfl, h0⟩
    · rw [if_neg (fun q => c3 q.symm), if_neg c3]
      obtain ⟨u, b', hu, hn', hu1, hp'⟩ := keep_past hd12 he6 hk k1 hSt hpast
      rw [a13] at hu
      rw [hu, k2, hn']
      simp only [Option.bind_some]
      rw [if_pos g]
      simp only [Option.bind_some]
      have hne : ¬ M.2.2.2.1 85 = -2 := by rcases a15 with q | q <;> rw [q] <;> decide
      rw [if_neg hne]
      have a8' : ∀ j, j < 6 → upd M.2.2.2.1 85 (nI r) (67 + j) = 0 ∨ (upd M.2.2.2.1 85 (nI r) (67 + j) = 1 ∧ j < e) := fun j hj => by rw [uo (by omega)]; exact (a8 j hj).1
      have a9' : Bt C.2.2.2.2.1.2.2.2.2.2.2.2.2.1 e (fun j => decide (upd M.2.2.2.1 85 (nI r) (67 + j) = 1)) := a9.cong (fun j hj => by rw [uo (by omega)])
      obtain ⟨cc, -, c1, c2, -⟩ := sum_bits (a := 67) (m := 6) (by omega) he6 (by omega) a8' a9'
      rw [c1, show (67 : Int32) = nI 67 from rfl, show (6 : Int32) = nI 6 from rfl, c2]
      simp only [Option.bind_some]
      exact ⟨_, _, rfl, rfl, rfl, n, min (k + 1) 6, d, e, hn, ⟨by omega, hu1, rfl⟩, hm, hPl, StateR.setDay hd12 he6 hr hSt, fun j hj => hp' j hj⟩
theorem reset1_loop : ∀ (m n v : Nat) (w : FN), v + m = 12 → m < n → f_X6_reset_33 n (nI v) w = some (fun x => if (36 + v ≤ x ∧ x < 48) ∨ (24 + v ≤ x ∧ x < 36) then 0 else w x) := by
  intro m
  induction m with
  | zero =>
    intro n v w h1 h2
    obtain ⟨n, rfl⟩ : ∃ k, n = k + 1 := ⟨n - 1, by omega⟩
    rw [f_X6_reset_33, if_pos (show (12 : Int32) ≤ nI v from nI_le (a := 12) (by omega) (by omega))]
    congr 1; funext x; rw [if_neg (by omega)]
  | succ m ih =>
    intro n v w h1 h2
    obtain ⟨n, rfl⟩ : ∃ k, n = k + 1 := ⟨n - 1, by omega⟩
    have e1 : (36 : Int32) + nI v = nI (36 + v) := nI_add 36 v
    have e2 : (24 : Int32) + nI v = nI (24 + v) := nI_add 24 v
    rw [f_X6_reset_33, if_neg (show ¬ (12 : Int32) ≤ nI v from nI_ge (b := 12) (by omega) (by omega)), e1, e2, if_pos ((gi_nI (by omega)).mpr (by omega)), if_pos ((gi_nI (by omega)).mpr (by omega)), nI1, nI_clamp (by omega), nI_clamp (by omega), ih n (v + 1) _ (by omega) (by omega)]
    congr 1; funext x; rw [upd_ap, upd_ap]
    by_cases q : (36 + (v + 1) ≤ x ∧ x < 48) ∨ (24 + (v + 1) ≤ x ∧ x < 36)
    · rw [if_pos q, if_pos (by omega)]
    · rw [if_neg q]
      by_cases e : x = 24 + v
      · rw [if_pos e, if_pos (by omega)]
      · rw [if_neg e]
        by_cases e3 : x = 36 + v
        · rw [if_pos e3, if_pos (by omega)]
        · rw [if_neg e3, if_neg (by omega)]
theorem reset2_loop : ∀ (m n v : Nat) (w : FN), v + m = 6 → m < n → f_X6_reset_67 n (nI v) w = some (fun x => if (61 + v ≤ x ∧ x < 67) ∨ (67 + v ≤ x ∧ x < 73) ∨ (73 + v ≤ x ∧ x < 79) ∨ (79 + v ≤ x ∧ x < 85) then 0 else w x) := by
  intro m
  induction m with
  | zero =>
    intro n v w h1 h2
    obtain ⟨n, rfl⟩ : ∃ k, n = k + 1 := ⟨n - 1, by omega⟩
    rw [f_X6_reset_67, if_pos (show (6 : Int32) ≤ nI v from nI_le (a := 6) (by omega) (by omega))]
    congr 1; funext x; rw [if_neg (by omega)]
  | succ m ih =>
    intro n v w h1 h2
    obtain ⟨n, rfl⟩ : ∃ k, n = k + 1 := ⟨n - 1, by omega⟩
    have e1 : (61 : Int32) + nI v = nI (61 + v) := nI_add 61 v
    have e2 : (67 : Int32) + nI v = nI (67 + v) := nI_add 67 v
    have e3 : (73 : Int32) + nI v = nI (73 + v) := nI_add 73 v
    have e4 : (79 : Int32) + nI v = nI (79 + v) := nI_add 79 v
    rw [f_X6_reset_67, if_neg (show ¬ (6 : Int32) ≤ nI v from nI_ge (b := 6) (by omega) (by omega)), e1, e2, e3, e4, if_pos ((gi_nI (by omega)).mpr (by omega)), if_pos ((gi_nI (by omega)).mpr (by omega)), if_pos ((gi_nI (by omega)).mpr (by omega)), if_pos ((gi_nI (by omega)).mpr (by omega)), nI1, nI_clamp (by omega), nI_clamp (by omega), nI_clamp (by omega), nI_clamp (by omega), ih n (v + 1) _ (by omega) (by omega)]
    congr 1; funext x; rw [upd_ap, upd_ap, upd_ap, upd_ap]
    by_cases q : (61 + (v + 1) ≤ x ∧ x < 67) ∨ (67 + (v + 1) ≤ x ∧ x < 73) ∨ (73 + (v + 1) ≤ x ∧ x < 79) ∨ (79 + (v + 1) ≤ x ∧ x < 85)
    · rw [if_pos q, if_pos (by omega)]
    · rw [if_neg q]
      by_cases z1 : x = 79 + v
      · rw [if_pos z1, if_pos (by omega)]
      · rw [if_neg z1]
        by_cases z2 : x = 73 + v
        · rw [if_pos z2, if_pos (by omega)]
        · rw [if_neg z2]
          by_cases z3 : x = 67 + v
          · rw [if_pos z3, if_pos (by omega)]
          · rw [if_neg z3]
            by_cases z4 : x = 61 + v
            · rw [if_pos z4, if_pos (by omega)]
            · rw [if_neg z4, if_neg (by omega)]
theorem putBack_eq (hd wt : FN) : f_X3_putBack hd wt = some (0, 0, 0, (fun x => if x < 12 then 0 else hd x), (fun x => if x < 6 then 0 else wt x)) := by
  unfold f_X3_putBack
  rw [fill12_eq, fill6_eq]; rfl
theorem ok_reset : OK1 Rel rs_reset ms_reset := by
  intro C M h
  have h0 := h
  obtain ⟨n, k, d, e, hn, ⟨hk, k1, k2⟩, hm, hPl, hSt, hpast⟩ := h
  obtain ⟨⟨hd1, hd12, he6⟩, ⟨p1, p2, p3, p4⟩, -⟩ := id hPl
  obtain ⟨a1, a2, a3, a4, a5, a6, a7, a8, a9, a10, a11, ⟨a12, a13, a14, a15⟩, a16⟩ := id hSt
  obtain ⟨cf, hcf, f1, f2, f3⟩ := sum_bits (a := 36) (m := 12) (by omega) hd12 hd12 a3 a4
  obtain ⟨co, hco, o1, o2, o3⟩ := sum_bits (a := 67) (m := 6) (by omega) he6 (by omega) (fun j hj => (a8 j hj).1) a9
  have r1 := reset1_loop 12 1000 0 M.2.2.2.1 rfl (by decide)
  rw [show nI 0 = (0 : Int32) from rfl] at r1
  have r2 := reset2_loop 6 1000 0 (fun x => if (36 + 0 ≤ x ∧ x < 48) ∨ (24 + 0 ≤ x ∧ x < 36) then 0 else M.2.2.2.1 x) rfl (by decide)
  rw [show nI 0 = (0 : Int32) from rfl] at r2
  obtain ⟨u, b', hu, hn', hu1, hp'⟩ := keep_past hd12 he6 hk k1 hSt hpast
  have key : ∀ x, (fun x => if (61 + 0 ≤ x ∧ x < 67) ∨ (67 + 0 ≤ x ∧ x < 73) ∨ (73 + 0 ≤ x ∧ x < 79) ∨ (79 + 0 ≤ x ∧ x < 85) then (0 : Int32) else (fun x => if (36 + 0 ≤ x ∧ x < 48) ∨ (24 + 0 ≤ x ∧ x < 36) then 0 else M.2.2.2.1 x) x) x = if (24 ≤ x ∧ x < 48) ∨ (61 ≤ x ∧ x < 85) then 0 else M.2.2.2.1 x := by
    intro x
    by_cases q1 : (61 + 0 ≤ x ∧ x < 67) ∨ (67 + 0 ≤ x ∧ x < 73) ∨ (73 + 0 ≤ x ∧ x < 79) ∨ (79 + 0 ≤ x ∧ x < 85)
    · show (if _ then _ else _) = _
      rw [if_pos q1, if_pos (by omega)]
    · show (if _ then _ else (if _ then _ else _)) = _
      rw [if_neg q1]
      by_cases q2 : (36 + 0 ≤ x ∧ x < 48) ∨ (24 + 0 ≤ x ∧ x < 36)
      · rw [if_pos q2, if_pos (by omega)]
      · rw [if_neg q2, if_neg (by omega)]
  have hnew : ∀ S : FN, (∀ x, S x = if (24 ≤ x ∧ x < 48) ∨ (61 ≤ x ∧ x < 85) then 0 else M.2.2.2.1 x) → StateR C.2.2.2.2.1.1 C.2.2.2.2.1.2.1 (fun x => if x < 12 then 0 else C.2.2.2.2.1.2.2.1 x) (fun x => if x < 6 then 0 else C.2.2.2.2.1.2.2.2.1 x) C.2.2.2.2.1.2.2.2.2.1 C.2.2.2.2.1.2.2.2.2.2.1 C.2.2.2.2.1.2.2.2.2.2.2.1 0 0 0 C.2.2.2.2.1.2.2.2.2.2.2.2.2.2.2.1 C.2.2.2.2.1.2.2.2.2.2.2.2.2.2.2.2 M.2.1 S d e := by
    intro S hS
    have z : ∀ x, (24 ≤ x ∧ x < 48) ∨ (61 ≤ x ∧ x < 85) → S x = 0 := fun x hx => by rw [hS, if_pos hx]
    have y : ∀ x, ¬ ((24 ≤ x ∧ x < 48) ∨ (61 ≤ x ∧ x < 85)) → S x = M.2.2.2.1 x := fun x hx => by rw [hS, if_neg hx]
    refine ⟨fun j hj => ?_, fun q hq => ?_, fun j hj => ?_, (Bt.zero d).cong (fun j hj => ?_), fun v hv => ?_, a6.cong (fun j hj => ?_), a7.cong (fun j hj => ?_), fun q hq => ?_, (Bt.zero e).cong (fun j hj => ?_), (Bt.zero e).cong (fun j hj => ?_), fun q hq => ?_, ⟨?_, ?_, ?_, ?_⟩, fun j hj => ?_⟩
    · rw [y j (by omega), y (12 + j) (by omega), z (24 + j) (by omega)]; exact ⟨(a1 j hj).1, (a1 j hj).2.1, if_pos hj⟩
    · rw [z (61 + q) (by omega)]; exact if_pos hq
    · exact Or.inl (z (36 + j) (by omega))
    · rw [z (36 + j) (by omega)]; rfl
    · rw [y (48 + v) (by omega)]; exact a5 v hv
    · rw [y (48 + j) (by omega)]
    · rw [y (48 + j) (by omega)]
    · exact ⟨Or.inl (z (67 + q) (by omega)), Or.inl (z (73 + q) (by omega))⟩
    · rw [z (67 + j) (by omega)]; rfl
    · rw [z (73 + j) (by omega)]; rfl
    · have hz : zf M.2.1 S d q = false := anyb_no.mpr (fun i hi => by
        show (_ && decide (S (36 + i) = 1)) = false
        rw [z (36 + i) (by omega)]; simp)
      refine ⟨fun w => ?_, fun _ => z (79 + q) (by omega)⟩
      rw [hz] at w; cases w
    · rw [y 86 (by omega)]; exact a12
    · rw [y 85 (by omega)]; exact a13
    · rw [y 86 (by omega)]; exact a14
    · rw [y 85 (by omega)]; exact a15
    · rw [y j (by omega), y (12 + j) (by omega)]; exact a16 j hj
  show ∃ o q, rs_reset C = some o ∧ ms_reset M = some q ∧ _
  unfold rs_reset ms_reset f_X5_reset f_X6_reset
  rw [show (36 : Int32) = nI 36 from rfl, show (12 : Int32) = nI 12 from rfl, show (67 : Int32) = nI 67 from rfl, show (6 : Int32) = nI 6 from rfl, f2]
  simp only [Option.bind_some]
  have hzf : (nI cf = 0) ↔ C.2.2.2.2.1.2.2.2.2.2.2.2.1 = 0 := by rw [← f3]; exact nI_eq (b := 0) (by omega) (by decide)
  have hzo : (nI co = 0) ↔ C.2.2.2.2.1.2.2.2.2.2.2.2.2.1 = 0 := by rw [← o3]; exact nI_eq (b := 0) (by omega) (by decide)
  by_cases c1 : C.2.2.2.2.1.2.2.2.2.2.2.2.1 = 0
  · rw [if_pos c1, if_pos (hzf.mpr c1), o2]
    simp only [Option.bind_some]
    by_cases c2 : C.2.2.2.2.1.2.2.2.2.2.2.2.2.1 = 0
    · rw [if_pos c2, if_pos (hzo.mpr c2)]
      exact ⟨_, _, rfl, rfl, rfl, h0⟩
    · rw [if_neg c2, if_neg (fun q => c2 (hzo.mp q)), hu, k2, hn', f1, putBack_eq]
      simp only [Option.bind_some]
      rw [r1]
      simp only [Option.bind_some]
      rw [r2]
      simp only [Option.bind_some]
      exact ⟨_, _, rfl, rfl, rfl, n, min (k + 1) 6, d, e, hn, ⟨by omega, hu1, rfl⟩, hm, hPl, hnew _ key, fun j hj => hp' j hj⟩
  · rw [if_neg c1, if_neg (fun q => c1 (hzf.mp q)), hu, k2, hn', f1, putBack_eq]
    simp only [Option.bind_some]
    rw [r1]
    simp only [Option.bind_some]
    rw [r2]
    simp only [Option.bind_some]
    exact ⟨_, _, rfl, rfl, rfl, n, min (k + 1) 6, d, e, hn, ⟨by omega, hu1, rfl⟩, hm, hPl, hnew _ key, fun j hj => hp' j hj⟩
