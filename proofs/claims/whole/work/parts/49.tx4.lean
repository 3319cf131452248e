/-! PURE: fault, lay -/
def RD (n : Nat) (L : FN) (a : Nat) (nums : FN) (P : PW) : Option (Int32 × Int32 × FN × PW) := f_X4_readItem (nI a) (nI n) L nums P.1 P.2.1 P.2.2.1 P.2.2.2.1 P.2.2.2.2.1 P.2.2.2.2.2.1 P.2.2.2.2.2.2.1 P.2.2.2.2.2.2.2.1 P.2.2.2.2.2.2.2.2.1 P.2.2.2.2.2.2.2.2.2.1 P.2.2.2.2.2.2.2.2.2.2.1 P.2.2.2.2.2.2.2.2.2.2.2.1 P.2.2.2.2.2.2.2.2.2.2.2.2.1 P.2.2.2.2.2.2.2.2.2.2.2.2.2
def RDI (n : Nat) (L : FN) (fu v a : Nat) (nums : FN) (P : PW) : Option (Int32 × Int32 × FN × PW) := f_X4_readInto_11 (nI n) L fu (nI v) (nI a) nums P.1 P.2.1 P.2.2.1 P.2.2.2.1 P.2.2.2.2.1 P.2.2.2.2.2.1 P.2.2.2.2.2.2.1 P.2.2.2.2.2.2.2.1 P.2.2.2.2.2.2.2.2.1 P.2.2.2.2.2.2.2.2.2.1 P.2.2.2.2.2.2.2.2.2.2.1 P.2.2.2.2.2.2.2.2.2.2.2.1 P.2.2.2.2.2.2.2.2.2.2.2.2.1 P.2.2.2.2.2.2.2.2.2.2.2.2.2
theorem item_out {L L' nums R : FN} {P : PW} {n a d e : Nat} (hn : n ≤ 200) (ha : a < n) (hL : ∀ i, i < n → L i = L' i) (h : PV P R d e) : ItOut n (RD n L a nums P) (f_X6_item (nI n) (nI (a + 1)) L' R (L' a)) a := by
  have hLL : hE L' n = hE L n := (hE_cong hL).symm
  have hc : hE L n a = L' a := by unfold hE; rw [if_pos ha, hL a ha]
  have hrd : RD n L a nums P = (f_X4_numbersBehind (L' a)).bind (fun u16 => if u16 = 0 then some (0, nI (a + 1), nums, P) else f_X4_readItem_29 (nI n) L 1000 (L' a) u16 0 (nI (a + 1)) nums P.1 P.2.1 P.2.2.1 P.2.2.2.1 P.2.2.2.2.1 P.2.2.2.2.2.1 P.2.2.2.2.2.2.1 P.2.2.2.2.2.2.2.1 P.2.2.2.2.2.2.2.2.1 P.2.2.2.2.2.2.2.2.2.1 P.2.2.2.2.2.2.2.2.2.2.1 P.2.2.2.2.2.2.2.2.2.2.2.1 P.2.2.2.2.2.2.2.2.2.2.2.2.1 P.2.2.2.2.2.2.2.2.2.2.2.2.2) := by
    unfold RD f_X4_readItem
    rw [here_eq L hn (show a < 1000 by omega), hc, nI1]
    rfl
  rw [hrd]
  generalize L' a = c
  unfold f_X4_numbersBehind
  by_cases c1 : c = 100
  · subst c1
    rw [if_pos rfl]
    simp only [Option.bind_some]
    rw [if_neg (show ¬ (3 : Int32) = 0 by decide)]
    exact it_d hn ha hLL h
  rw [if_neg c1]
  by_cases c2 : c = 101
  · subst c2
    rw [if_pos rfl]
    simp only [Option.bind_some]
    rw [if_neg (show ¬ (4 : Int32) = 0 by decide)]
    exact it_e hn ha hLL h
  rw [if_neg c2]
  by_cases c3 : c = 116
  · subst c3
    rw [if_pos rfl]
    simp only [Option.bind_some]
    rw [if_neg (show ¬ (4 : Int32) = 0 by decide)]
    exact it_t hn ha hLL h
  rw [if_neg c3]
  by_cases c4 : c = 118
  · subst c4
    rw [if_pos rfl]
    simp only [Option.bind_some]
    rw [if_neg (show ¬ (1 : Int32) = 0 by decide)]
    exact it_v hn ha hLL h
  rw [if_neg c4]
  unfold f_X6_item
  rw [if_neg c1, if_neg c2, if_neg c3, if_neg c4]
  exact Or.inl ⟨_, _, rfl, rfl, rfl, rfl⟩
theorem fl_loop {L L' : FN} {n : Nat} (hn : n ≤ 200) (hL : ∀ i, i < n → L i = L' i) : ∀ (r fu1 fu2 v a : Nat) (nums : FN) (P : PW) (R : FN) (d e : Nat), n ≤ a + r → a ≤ n → v ≤ a → r < fu1 → r < fu2 → PV P R d e → ∃ u w, RDI n L fu1 v a nums P = some u ∧ f_X6_fault_12 (nI n) L' fu2 (nI a) R = some w ∧ u.1 = w.1 ∧ (u.1 = -4 → ∃ d' e', PV u.2.2.2 w.2.2 d' e') := by
  intro r
  induction r with
  | zero =>
    intro fu1 fu2 v a nums P R d e h1 h2 h3 h4 h5 hP
    obtain ⟨fu1, rfl⟩ : ∃ k, fu1 = k + 1 := ⟨fu1 - 1, by omega⟩
    obtain ⟨fu2, rfl⟩ : ∃ k, fu2 = k + 1 := ⟨fu2 - 1, by omega⟩
    have hle : nI n ≤ nI a := nI_le (by omega) (by omega)
    unfold RDI
    rw [f_X4_readInto_11, f_X6_fault_12, if_pos hle, if_pos hle]
    by_cases c : (200 : Int32) ≤ nI v
    · rw [if_pos c]; exact ⟨_, _, rfl, rfl, rfl, fun _ => ⟨d, e, hP⟩⟩
    · rw [if_neg c]; exact ⟨_, _, rfl, rfl, rfl, fun _ => ⟨d, e, hP⟩⟩
  | succ r ih =>
    intro fu1 fu2 v a nums P R d e h1 h2 h3 h4 h5 hP
    by_cases hlt : a < n
    · obtain ⟨fu1, rfl⟩ : ∃ k, fu1 = k + 1 := ⟨fu1 - 1, by omega⟩
      obtain ⟨fu2, rfl⟩ : ∃ k, fu2 = k + 1 := ⟨fu2 - 1, by omega⟩
      have hgt : ¬ nI n ≤ nI a := nI_ge hlt (by omega)
      unfold RDI
      rw [f_X4_readInto_11, f_X6_fault_12, if_neg hgt, if_neg hgt, if_neg (show ¬ (200 : Int32) ≤ nI v from nI_ge (b := 200) (by omega) (by decide)), if_pos ((gi_nI (by omega)).mpr (by omega)), nI_clamp (by omega), nI1, nI1]
      rcases item_out (nums := nums) hn hlt hL hP with ⟨u, w, q1, q2, q3, q4⟩ | ⟨a2, nums', P', R', d', e', q1, q2, q3, q4, q5⟩
      · have q1 : f_X4_readItem (nI a) (nI n) L nums P.1 P.2.1 P.2.2.1 P.2.2.2.1 P.2.2.2.2.1 P.2.2.2.2.2.1 P.2.2.2.2.2.2.1 P.2.2.2.2.2.2.2.1 P.2.2.2.2.2.2.2.2.1 P.2.2.2.2.2.2.2.2.2.1 P.2.2.2.2.2.2.2.2.2.2.1 P.2.2.2.2.2.2.2.2.2.2.2.1 P.2.2.2.2.2.2.2.2.2.2.2.2.1 P.2.2.2.2.2.2.2.2.2.2.2.2.2 = some u := q1
        rw [bind_of q1, bind_of q3, if_pos q2, if_pos q4]
        exact ⟨_, _, rfl, rfl, rfl, fun z => absurd z (nI_ne4 (by omega))⟩
      · have q3 : f_X4_readItem (nI a) (nI n) L nums P.1 P.2.1 P.2.2.1 P.2.2.2.1 P.2.2.2.2.1 P.2.2.2.2.2.1 P.2.2.2.2.2.2.1 P.2.2.2.2.2.2.2.1 P.2.2.2.2.2.2.2.2.1 P.2.2.2.2.2.2.2.2.2.1 P.2.2.2.2.2.2.2.2.2.2.1 P.2.2.2.2.2.2.2.2.2.2.2.1 P.2.2.2.2.2.2.2.2.2.2.2.2.1 P.2.2.2.2.2.2.2.2.2.2.2.2.2 = some (1, nI a2, nums', P') := q3
        rw [bind_of q3, bind_of q4]
        simp only
        rw [if_neg (show ¬ (1 : Int32) = 0 by decide), if_neg (show ¬ (1 : Int32) = 0 by decide)]
        exact ih fu1 fu2 (v + 1) a2 nums' P' R' d' e' (by omega) q2 (by omega) (by omega) (by omega) q5
    · exact ih fu1 fu2 v a nums P R d e (by omega) h2 h3 (by omega) (by omega) hP
theorem PV0 (rd kind zoneOf ek ez dl : FN) : ∃ R, f_X6_begins rd = some R ∧ PV (0, 0, 0, 0, 30, 60, 2, 4, 3, kind, zoneOf, ek, ez, dl) R 0 0 := by
  have hb := begins_loop 67 1000 0 rd (by omega) (by omega)
  rw [show nI 0 = (0 : Int32) from rfl] at hb
  unfold f_X6_begins
  rw [hb]
  refine ⟨_, rfl, ⟨by omega, by omega⟩, ⟨rfl, ?_, rfl, ?_⟩, fun i hi => absurd hi (by omega), (Bt.zero 0).cong (fun i hi => absurd hi (by omega)), fun i hi => absurd hi (by omega), (Bt.zero 0).cong (fun i hi => absurd hi (by omega)), ⟨rfl, rfl, rfl, rfl, rfl⟩, ⟨4, by omega, by omega, rfl⟩, ⟨3, by omega, by omega, rfl⟩⟩
  · rfl
  · rfl
theorem both_fault {L L' : FN} {n : Nat} (hn : n ≤ 200) (hL : ∀ i, i < n → L i = L' i) (nums kind zoneOf ek ez dl rd : FN) : ∃ u w, f_X4_readInto (nI n) L nums kind zoneOf ek ez dl = some u ∧ f_X6_fault (nI n) L' rd = some w ∧ u.1 = w.1 ∧ (u.1 = -4 → ∃ d e, PV u.2.2.2 w.2.2 d e) := by
  obtain ⟨R, hR, hP⟩ := PV0 rd kind zoneOf ek ez dl
  obtain ⟨u, w, h1, h2, h3, h4⟩ := fl_loop hn hL n 1000 1000 0 0 nums _ R 0 0 (by omega) (by omega) (by omega) (by omega) (by omega) hP
  refine ⟨u, w, h1, ?_, h3, h4⟩
  unfold f_X6_fault
  rw [hR]
  exact h2
theorem ok_fault : OK1 Rel rs_fault ms_fault := by
  intro C M h
  obtain ⟨n, k, d, e, ⟨hn, h1, h2, h3⟩, hk, hm, hrest⟩ := h
  obtain ⟨u, w, e1, e2, e3, -⟩ := both_fault hn h3 C.1.2.1 C.2.2.2.1.1 C.2.2.2.1.2.1 C.2.2.2.1.2.2.1 C.2.2.2.1.2.2.2.1 C.2.2.2.1.2.2.2.2.1 M.2.2.1
  unfold rs_fault ms_fault f_X5_fault
  rw [h1, h2, e1, e2]
  exact ⟨_, _, rfl, rfl, e3, n, k, d, e, ⟨hn, rfl, rfl, h3⟩, hk, hm, hrest⟩
theorem PlanV.toR {kind zoneOf ek ez dl : FN} {dev iso eff snd pre alarm conf pace ph : Int32} {t t' : FN} {d e : Nat} (h : PlanV kind zoneOf ek ez dl dev iso eff snd pre alarm conf pace ph t d e) (hd : 1 ≤ d) (ht : ∀ x, x < 67 → t' x = t x) : PlanR kind zoneOf ek ez dl dev iso eff snd pre alarm conf pace ph t' d e := by
  obtain ⟨⟨h1, h2⟩, ⟨p1, p2, p3, p4⟩, hdev, hiso, hef, hsnd, ⟨l1, l2, l3, l4, l5⟩, hE1, hE2⟩ := h
  refine ⟨⟨hd, h1, h2⟩, ⟨p1, by rw [ht 60 (by omega)]; exact p2, p3, by rw [ht 61 (by omega)]; exact p4⟩, fun j hj => ?_, hiso.cong (fun j hj => ?_), fun q hq => ?_, hsnd.cong (fun q hq => ?_), ⟨?_, ?_, ?_, ?_, ?_⟩, ?_, ?_⟩
  · rw [ht (3 * j) (by omega), ht (3 * j + 1) (by omega), ht (3 * j + 2) (by omega)]; exact hdev j hj
  · rw [ht (3 * j + 2) (by omega)]
  · rw [ht (36 + 4 * q) (by omega), ht (36 + 4 * q + 1) (by omega), ht (36 + 4 * q + 2) (by omega), ht (36 + 4 * q + 3) (by omega)]; exact hef q hq
  · rw [ht (36 + 4 * q + 3) (by omega)]
  · rw [ht 62 (by omega)]; exact l1
  · rw [ht 63 (by omega)]; exact l2
  · rw [ht 64 (by omega)]; exact l3
  · rw [ht 65 (by omega)]; exact l4
  · rw [ht 66 (by omega)]; exact l5
  · rw [ht 65 (by omega)]; exact hE1
  · rw [ht 66 (by omega)]; exact hE2
def zR (N : Nat) (f : FN) : FN := fun x => if x < N then 0 else f x
theorem zR_in {N : Nat} {f : FN} {x : Nat} (h : x < N) : zR N f x = 0 := if_pos h
theorem begin_eq (rd bs hd wt : FN) : f_X3_begin rd bs hd wt = some (0, 0, 0, 0, 0, 0, 1, zR 12 rd, zR 12 bs, zR 12 hd, zR 6 wt) := by
  unfold f_X3_begin
  rw [fill12_eq, fill12_eq, putBack_eq]; rfl
theorem StateR.fresh {rd bs hd wt cm t s : FN} {d e : Nat} (hd12 : d ≤ 12) (he6 : e ≤ 6) (h1 : ∀ i, i < 12 → rd i = 0 ∧ bs i = 0 ∧ hd i = 0) (h2 : ∀ i, i < 6 → wt i = 0) (hs : ∀ x, x < 87 → s x = if x = 85 then 1 else 0) : StateR rd bs hd wt cm 0 0 0 0 0 0 1 t s d e := by
  have hz : ∀ x, x < 87 → x ≠ 85 → s x = 0 := fun x a b => by rw [hs x a, if_neg b]
  have h85 : s 85 = 1 := by rw [hs 85 (by omega), if_pos rfl]
  refine ⟨fun i hi => ?_, fun k hk => ?_, fun i hi => Or.inl (hz _ (by omega) (by omega)), (Bt.zero d).cong (fun i hi => ?_), fun w hw => Or.inl (hz _ (by omega) (by omega)), (Bt.zero (d + 1)).cong (fun i hi => ?_), (Bt.zero (d + 1)).cong (fun i hi => ?_), fun k hk => ⟨Or.inl (hz _ (by omega) (by omega)), Or.inl (hz _ (by omega) (by omega))⟩, (Bt.zero e).cong (fun i hi => ?_), (Bt.zero e).cong (fun i hi => ?_), fun z hz' => ?_, ⟨?_, ?_, ?_, ?_⟩, fun i hi => ?_⟩
  · rw [hz i (by omega) (by omega), hz (12 + i) (by omega) (by omega), hz (24 + i) (by omega) (by omega)]; exact h1 i hi
  · rw [hz (61 + k) (by omega) (by omega)]; exact h2 k hk
  · rw [hz (36 + i) (by omega) (by omega)]; rfl
  · rw [hz (48 + i) (by omega) (by omega)]; rfl
  · rw [hz (48 + i) (by omega) (by omega)]; rfl
  · rw [hz (67 + i) (by omega) (by omega)]; rfl
  · rw [hz (73 + i) (by omega) (by omega)]; rfl
  · have hf : zf t s d z = false := anyb_no.mpr (fun i hi => by
      show (_ && decide (s (36 + i) = 1)) = false
      rw [hz (36 + i) (by omega) (by omega)]; simp)
    exact ⟨fun w => absurd (hf.symm.trans w) (by decide), fun _ => hz _ (by omega) (by omega)⟩
  · exact (hz 86 (by omega) (by omega)).symm
  · exact h85.symm
  · exact ⟨0, by omega, hz 86 (by omega) (by omega)⟩
  · exact Or.inr h85
  · exact ⟨⟨0, by omega, hz (12 + i) (by omega) (by omega)⟩, ⟨0, by omega, hz i (by omega) (by omega)⟩⟩
theorem ok_lay : OK1 Rel rs_lay ms_lay := by
  intro C M h
  obtain ⟨n, k, d, e, ⟨hn, h1, h2, h3⟩, hk, hm, hrest⟩ := h
  obtain ⟨u, w, e1, e2, e3, e4⟩ := both_fault hn h3 C.1.2.1 C.2.2.2.1.1 C.2.2.2.1.2.1 C.2.2.2.1.2.2.1 C.2.2.2.1.2.2.2.1 C.2.2.2.1.2.2.2.2.1 M.2.2.1
  unfold rs_lay ms_lay f_X5_lay f_X6_lay f_X0_forget
  rw [h1, h2, e1, e2]
  simp only [Option.bind_some]
  by_cases c : u.1 = -4
  · obtain ⟨d', e', hP⟩ := e4 c
    obtain ⟨⟨hd12, he6⟩, ⟨p1, p2, p3, p4⟩, -⟩ := id hP
    rw [if_pos c, if_pos (show w.1 = -4 by rw [← e3]; exact c), show (60 : Int32).toNatClampNeg = 60 from rfl]
    have hd0 : u.2.2.2.1 = nI d' := p1
    by_cases c0 : d' = 0
    · have hz : nI d' = 0 := by rw [c0]; rfl
      rw [if_pos (show u.2.2.2.1 = 0 from hd0.trans hz), if_pos (show w.2.2 60 = 0 from p2.trans hz)]
      exact ⟨_, _, rfl, rfl, rfl, n, k, d, e, ⟨hn, rfl, rfl, h3⟩, hk, hm, hrest⟩
    · have hz : ¬ nI d' = 0 := nI_ne0 (by omega) (by omega)
      have hl := laycp_loop w 67 1000 0 M.2.1 (by omega) (by omega)
      rw [show nI 0 = (0 : Int32) from rfl] at hl
      rw [if_neg (show ¬ u.2.2.2.1 = 0 by rw [hd0]; exact hz), if_neg (show ¬ w.2.2 60 = 0 by rw [p2]; exact hz), begin_eq, hl, anew_eq]
      simp only [Option.bind_some]
      have ht : ∀ x, x < 67 → (fun x => if 0 ≤ x ∧ x < 67 then w.2.2 x else M.2.1 x) x = w.2.2 x := fun x hx => if_pos ⟨by omega, hx⟩
      refine ⟨_, _, rfl, rfl, ?_, n, 0, d', e', ⟨hn, rfl, rfl, h3⟩, ⟨by omega, rfl, rfl⟩, hm, PlanV.toR hP (by omega) ht, ?_, fun j hj => absurd hj (by omega)⟩
      · show u.2.2.2.1 = _
        exact hd0.trans ((ht 60 (by omega)).trans p2).symm
      · exact StateR.fresh hd12 he6 (fun i hi => ⟨zR_in hi, zR_in hi, zR_in hi⟩) (fun i hi => zR_in hi) (fun x hx => by
          show (if x = 85 then (1 : Int32) else if x < 87 then 0 else M.2.2.2.1 x) = _
          rw [if_pos hx])
  · rw [if_neg c, if_neg (show ¬ w.1 = -4 by rw [← e3]; exact c)]
    exact ⟨_, _, rfl, rfl, rfl, n, k, d, e, ⟨hn, rfl, rfl, h3⟩, hk, hm, hrest⟩
