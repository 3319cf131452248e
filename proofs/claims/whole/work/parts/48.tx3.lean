/-! PURE: an item in both -/
def ItOut (n : Nat) (C : Option (Int32 × Int32 × FN × PW)) (M : Option (Int32 × Int32 × FN)) (a : Nat) : Prop := (∃ u v, C = some u ∧ u.1 = 0 ∧ M = some v ∧ v.1 = 0) ∨ ∃ (a2 : Nat) (nums' : FN) (P' : PW) (R' : FN) (d' e' : Nat), a < a2 ∧ a2 ≤ n ∧ C = some (1, nI a2, nums', P') ∧ M = some (1, nI a2, R') ∧ PV P' R' d' e'
theorem setP_yes {ph : Int32} {l : Nat} (hl1 : 1 ≤ l) (hl : l ≤ 9) : f_X1_setPhase ph (nI l) = some (1, nI l) := by
  have w : wi (nI l) 1 9 = 1 := wi_yes (a := 1) (b := 9) hl1 hl (by decide)
  unfold f_X1_setPhase
  simp only [within_eq, w, Option.bind_some, show ¬ (1 : Int32) = 0 by decide, ↓reduceIte, or_true]
theorem setP_no {ph : Int32} {l : Nat} (hl : l ≤ 99) (h : ¬ (1 ≤ l ∧ l ≤ 9)) : f_X1_setPhase ph (nI l) = some (0, ph) := by
  have w : wi (nI l) 1 9 = if 1 ≤ l ∧ l ≤ 9 then 1 else 0 := wiN (a := 1) (b := 9) (by omega) (by omega) (by omega)
  unfold f_X1_setPhase
  simp only [within_eq, w, Option.bind_some, if_neg h, ↓reduceIte, true_or]
theorem RI_d {L nums : FN} {n fu a : Nat} {P : PW} : RI n L (fu + 1) 100 (nI 3) 3 a nums P = (f_X1_addDevice P.1 P.2.1 P.2.2.2.2.2.2.2.2.2.1 P.2.2.2.2.2.2.2.2.2.2.1 (nums 0) (nums 1) (nums 2)).bind (fun u => if u.1 = 0 ∨ u.1 = 1 then some (u.1, nI a, nums, (u.2.1, u.2.2.1, P.2.2.1, P.2.2.2.1, P.2.2.2.2.1, P.2.2.2.2.2.1, P.2.2.2.2.2.2.1, P.2.2.2.2.2.2.2.1, P.2.2.2.2.2.2.2.2.1, u.2.2.2.1, u.2.2.2.2, P.2.2.2.2.2.2.2.2.2.2.2.1, P.2.2.2.2.2.2.2.2.2.2.2.2.1, P.2.2.2.2.2.2.2.2.2.2.2.2.2)) else none) := by
  unfold RI
  rw [f_X4_readItem_29, if_pos (nI_le (by omega) (by omega)), if_pos (show (100 : Int32) = 100 from rfl)]
  rfl
theorem it_d {L L' nums R : FN} {P : PW} {n a d e : Nat} (hn : n ≤ 200) (ha : a < n) (hL : hE L' n = hE L n) (h : PV P R d e) : ItOut n (RI n L 1000 100 (nI 3) 0 (a + 1) nums P) (f_X6_item (nI n) (nI (a + 1)) L' R 100) a := by
  obtain ⟨⟨hd12, he6⟩, ⟨p1, p2, p3, p4⟩, -⟩ := id h
  have e3 : (3 : Int32) * nI d = nI (3 * d) := by rw [show (3 : Int32) = nI 3 from rfl, pk_mul]
  have e31 : (3 : Int32) * nI d + 1 = nI (3 * d + 1) := by rw [e3, nI1]
  have e32 : (3 : Int32) * nI d + 2 = nI (3 * d + 2) := by rw [e3, show (2 : Int32) = nI 2 from rfl, nI_add]
  have n44 : ¬ (44 : Int32) = 0 := by decide
  have n59 : ¬ (59 : Int32) = 0 := by decide
  by_cases S : ∃ k z i a1 a2 a3 : Nat, nuE (hE L n) (a + 1) 44 = some (k, a1) ∧ nuE (hE L n) a1 44 = some (z, a2) ∧ nuE (hE L n) a2 59 = some (i, a3) ∧ k ≤ 3 ∧ z ≤ 5 ∧ i ≤ 1 ∧ d < 12
  · obtain ⟨k, z, i, a1, a2, a3, s1, s2, s3, c1, c2, c3, c4⟩ := S
    obtain ⟨b1, b2, b3⟩ := nu_bd n44 s1
    obtain ⟨b4, b5, b6⟩ := nu_bd n44 s2
    obtain ⟨b7, b8, b9⟩ := nu_bd n59 s3
    refine Or.inr ⟨a3, upd (upd (upd nums 0 (nI k)) 1 (nI z)) 2 (nI i), (nI (d + 1), P.2.1 ||| (nI i <<< (nI d &&& 31)), P.2.2.1, P.2.2.2.1, P.2.2.2.2.1, P.2.2.2.2.2.1, P.2.2.2.2.2.2.1, P.2.2.2.2.2.2.2.1, P.2.2.2.2.2.2.2.2.1, upd P.2.2.2.2.2.2.2.2.2.1 d (nI k), upd P.2.2.2.2.2.2.2.2.2.2.1 d (nI z), P.2.2.2.2.2.2.2.2.2.2.2.1, P.2.2.2.2.2.2.2.2.2.2.2.2.1, P.2.2.2.2.2.2.2.2.2.2.2.2.2), upd (upd (upd (upd R 60 (nI (d + 1))) (3 * d) (nI k)) (3 * d + 1) (nI z)) (3 * d + 2) (nI i), d + 1, e, by omega, b9, ?_, ?_, PlanV.addD h c4 c1 c2 c3⟩
    · refine (RI_ok (fu := 999) hn (by omega) (by omega) (by omega) (by decide) s1).trans ?_
      refine (RI_ok (fu := 998) hn (by omega) (by omega) (by omega) (by decide) s2).trans ?_
      refine (RI_ok (fu := 997) hn (by omega) (by omega) (by omega) (by decide) s3).trans ?_
      refine (RI_d (fu := 996)).trans ?_
      refine (bind_of (a := (1, nI (d + 1), P.2.1 ||| (nI i <<< (nI d &&& 31)), upd P.2.2.2.2.2.2.2.2.2.1 d (nI k), upd P.2.2.2.2.2.2.2.2.2.2.1 d (nI z))) ?_).trans rfl
      show f_X1_addDevice P.1 P.2.1 P.2.2.2.2.2.2.2.2.2.1 P.2.2.2.2.2.2.2.2.2.2.1 (nI k) (nI z) (nI i) = _
      rw [show P.1 = nI d from p1]; exact addD_yes c4 c1 c2 c3
    · unfold f_X6_item
      rw [if_pos (show (100 : Int32) = 100 from rfl), show (60 : Int32).toNatClampNeg = 60 from rfl, show R 60 = nI d from p2, if_neg (show ¬ nI d = (12 : Int32) from fun z => by have := (nI_eq (b := 12) (by omega) (by decide)).mp z; omega), e32, e31, e3, nI1]
      have w1 : f_X6_number (nI n) (nI (a + 1)) L' (upd R 60 (nI (d + 1))) (nI (3 * d)) 0 3 44 = some (1, nI a1, upd (upd R 60 (nI (d + 1))) (3 * d) (nI k)) := (num_all (L := L') (rd := upd R 60 (nI (d + 1))) (a := a + 1) (to := 3 * d) (lo := 0) (hi := 3) (sep := 44) hn (by omega) (by omega) (by omega) (by omega)).1 k a1 (ns_some (by rw [hL]; exact s1) (by omega) (by omega))
      have w2 : f_X6_number (nI n) (nI a1) L' (upd (upd R 60 (nI (d + 1))) (3 * d) (nI k)) (nI (3 * d + 1)) 0 5 44 = some (1, nI a2, upd (upd (upd R 60 (nI (d + 1))) (3 * d) (nI k)) (3 * d + 1) (nI z)) := (num_all (L := L') (rd := upd (upd R 60 (nI (d + 1))) (3 * d) (nI k)) (a := a1) (to := 3 * d + 1) (lo := 0) (hi := 5) (sep := 44) hn (by omega) (by omega) (by omega) (by omega)).1 z a2 (ns_some (by rw [hL]; exact s2) (by omega) (by omega))
      have w3 : f_X6_number (nI n) (nI a2) L' (upd (upd (upd R 60 (nI (d + 1))) (3 * d) (nI k)) (3 * d + 1) (nI z)) (nI (3 * d + 2)) 0 1 59 = some (1, nI a3, upd (upd (upd (upd R 60 (nI (d + 1))) (3 * d) (nI k)) (3 * d + 1) (nI z)) (3 * d + 2) (nI i)) := (num_all (L := L') (rd := upd (upd (upd R 60 (nI (d + 1))) (3 * d) (nI k)) (3 * d + 1) (nI z)) (a := a2) (to := 3 * d + 2) (lo := 0) (hi := 1) (sep := 59) hn (by omega) (by omega) (by omega) (by omega)).1 i a3 (ns_some (by rw [hL]; exact s3) (by omega) (by omega))
      refine (bind_of w1).trans ?_
      simp only
      rw [if_neg (show ¬ (1 : Int32) = 0 by decide)]
      refine (bind_of w2).trans ?_
      simp only
      rw [if_neg (show ¬ (1 : Int32) = 0 by decide)]
      refine (bind_of w3).trans ?_
      simp only
      rw [if_neg (show ¬ (1 : Int32) = 0 by decide)]
  · have hC : ∃ u, RI n L 1000 100 (nI 3) 0 (a + 1) nums P = some u ∧ u.1 = 0 := by
      cases s1 : nuE (hE L n) (a + 1) 44 with
      | none => exact RI_no (fu := 999) hn (by omega) (by omega) (by omega) (by decide) s1
      | some q1 =>
        obtain ⟨k, a1⟩ := q1
        obtain ⟨b1, b2, b3⟩ := nu_bd n44 s1
        have r1 : RI n L 1000 100 (nI 3) 0 (a + 1) nums P = RI n L 999 100 (nI 3) 1 a1 (upd nums 0 (nI k)) P := RI_ok (fu := 999) hn (by omega) (by omega) (by omega) (by decide) s1
        rw [r1]
        cases s2 : nuE (hE L n) a1 44 with
        | none => exact RI_no (fu := 998) hn (by omega) (by omega) (by omega) (by decide) s2
        | some q2 =>
          obtain ⟨z, a2⟩ := q2
          obtain ⟨b4, b5, b6⟩ := nu_bd n44 s2
          have r2 : RI n L 999 100 (nI 3) 1 a1 (upd nums 0 (nI k)) P = RI n L 998 100 (nI 3) 2 a2 (upd (upd nums 0 (nI k)) 1 (nI z)) P := RI_ok (fu := 998) hn (by omega) (by omega) (by omega) (by decide) s2
          rw [r2]
          cases s3 : nuE (hE L n) a2 59 with
          | none => exact RI_no (fu := 997) hn (by omega) (by omega) (by omega) (by decide) s3
          | some q3 =>
            obtain ⟨i, a3⟩ := q3
            obtain ⟨b7, b8, b9⟩ := nu_bd n59 s3
            have r3 : RI n L 998 100 (nI 3) 2 a2 (upd (upd nums 0 (nI k)) 1 (nI z)) P = RI n L 997 100 (nI 3) 3 a3 (upd (upd (upd nums 0 (nI k)) 1 (nI z)) 2 (nI i)) P := RI_ok (fu := 997) hn (by omega) (by omega) (by omega) (by decide) s3
            rw [r3]
            refine ⟨_, (RI_d (fu := 996)).trans ((bind_of (show f_X1_addDevice P.1 P.2.1 P.2.2.2.2.2.2.2.2.2.1 P.2.2.2.2.2.2.2.2.2.2.1 (nI k) (nI z) (nI i) = _ from by rw [show P.1 = nI d from p1]; exact addD_no hd12 b1 b4 b7 (fun c => S ⟨k, z, i, a1, a2, a3, s1, s2, s3, c⟩))).trans rfl), rfl⟩
    have hM : ∃ v, f_X6_item (nI n) (nI (a + 1)) L' R 100 = some v ∧ v.1 = 0 := by
      unfold f_X6_item
      rw [if_pos (show (100 : Int32) = 100 from rfl), show (60 : Int32).toNatClampNeg = 60 from rfl, show R 60 = nI d from p2]
      by_cases c0 : d = 12
      · rw [if_pos (show nI d = (12 : Int32) by rw [c0]; rfl)]
        exact ⟨_, rfl, rfl⟩
      rw [if_neg (show ¬ nI d = (12 : Int32) from fun z => by have := (nI_eq (b := 12) (by omega) (by decide)).mp z; omega), e32, e31, e3, nI1]
      cases s1 : nsE (hE L' n) (a + 1) 44 0 3 with
      | none =>
        obtain ⟨w, rd', hw⟩ := (num_all (L := L') (rd := upd R 60 (nI (d + 1))) (a := a + 1) (to := 3 * d) (lo := 0) (hi := 3) (sep := 44) hn (by omega) (by omega) (by omega) (by omega)).2 s1
        exact ⟨_, (bind_of hw).trans (if_pos rfl), rfl⟩
      | some q1 =>
        obtain ⟨k, a1⟩ := q1
        have hw1 : f_X6_number (nI n) (nI (a + 1)) L' (upd R 60 (nI (d + 1))) (nI (3 * d)) 0 3 44 = some (1, nI a1, upd (upd R 60 (nI (d + 1))) (3 * d) (nI k)) := (num_all (L := L') (rd := upd R 60 (nI (d + 1))) (a := a + 1) (to := 3 * d) (lo := 0) (hi := 3) (sep := 44) hn (by omega) (by omega) (by omega) (by omega)).1 k a1 s1
        obtain ⟨t1, lo1, hi1⟩ := ns_inv s1
        rw [hL] at t1
        obtain ⟨b1, b2, b3⟩ := nu_bd n44 t1
        rw [bind_of hw1]
        simp only
        rw [if_neg (show ¬ (1 : Int32) = 0 by decide)]
        cases s2 : nsE (hE L' n) a1 44 0 5 with
        | none =>
          obtain ⟨w, rd', hw⟩ := (num_all (L := L') (rd := upd (upd R 60 (nI (d + 1))) (3 * d) (nI k)) (a := a1) (to := 3 * d + 1) (lo := 0) (hi := 5) (sep := 44) hn (by omega) (by omega) (by omega) (by omega)).2 s2
          exact ⟨_, (bind_of hw).trans (if_pos rfl), rfl⟩
        | some q2 =>
          obtain ⟨z, a2⟩ := q2
          have hw2 : f_X6_number (nI n) (nI a1) L' (upd (upd R 60 (nI (d + 1))) (3 * d) (nI k)) (nI (3 * d + 1)) 0 5 44 = some (1, nI a2, upd (upd (upd R 60 (nI (d + 1))) (3 * d) (nI k)) (3 * d + 1) (nI z)) := (num_all (L := L') (rd := upd (upd R 60 (nI (d + 1))) (3 * d) (nI k)) (a := a1) (to := 3 * d + 1) (lo := 0) (hi := 5) (sep := 44) hn (by omega) (by omega) (by omega) (by omega)).1 z a2 s2
          obtain ⟨t2, lo2, hi2⟩ := ns_inv s2
          rw [hL] at t2
          obtain ⟨b4, b5, b6⟩ := nu_bd n44 t2
          rw [bind_of hw2]
          simp only
          rw [if_neg (show ¬ (1 : Int32) = 0 by decide)]
          cases s3 : nsE (hE L' n) a2 59 0 1 with
          | none =>
            obtain ⟨w, rd', hw⟩ := (num_all (L := L') (rd := upd (upd (upd R 60 (nI (d + 1))) (3 * d) (nI k)) (3 * d + 1) (nI z)) (a := a2) (to := 3 * d + 2) (lo := 0) (hi := 1) (sep := 59) hn (by omega) (by omega) (by omega) (by omega)).2 s3
            exact ⟨_, (bind_of hw).trans (if_pos rfl), rfl⟩
          | some q3 =>
            obtain ⟨i, a3⟩ := q3
            have hw3 : f_X6_number (nI n) (nI a2) L' (upd (upd (upd R 60 (nI (d + 1))) (3 * d) (nI k)) (3 * d + 1) (nI z)) (nI (3 * d + 2)) 0 1 59 = some (1, nI a3, upd (upd (upd (upd R 60 (nI (d + 1))) (3 * d) (nI k)) (3 * d + 1) (nI z)) (3 * d + 2) (nI i)) := (num_all (L := L') (rd := upd (upd (upd R 60 (nI (d + 1))) (3 * d) (nI k)) (3 * d + 1) (nI z)) (a := a2) (to := 3 * d + 2) (lo := 0) (hi := 1) (sep := 59) hn (by omega) (by omega) (by omega) (by omega)).1 i a3 s3
            obtain ⟨t3, lo3, hi3⟩ := ns_inv s3
            rw [hL] at t3
            obtain ⟨b7, b8, b9⟩ := nu_bd n59 t3
            exact absurd ⟨k, z, i, a1, a2, a3, t1, t2, t3, by omega, by omega, by omega, by omega⟩ S
    obtain ⟨u, hu, hu0⟩ := hC
    obtain ⟨v, hv, hv0⟩ := hM
    exact Or.inl ⟨u, v, hu, hu0, hv, hv0⟩
theorem RI_e {L nums : FN} {n fu a : Nat} {P : PW} : RI n L (fu + 1) 101 (nI 4) 4 a nums P = (f_X1_addEffect P.2.2.1 P.2.2.2.1 P.2.2.2.2.2.2.2.2.2.2.2.1 P.2.2.2.2.2.2.2.2.2.2.2.2.1 P.2.2.2.2.2.2.2.2.2.2.2.2.2 (nums 0) (nums 1) (nums 2) (nums 3)).bind (fun u => if u.1 = 0 ∨ u.1 = 1 then some (u.1, nI a, nums, (P.1, P.2.1, u.2.1, u.2.2.1, P.2.2.2.2.1, P.2.2.2.2.2.1, P.2.2.2.2.2.2.1, P.2.2.2.2.2.2.2.1, P.2.2.2.2.2.2.2.2.1, P.2.2.2.2.2.2.2.2.2.1, P.2.2.2.2.2.2.2.2.2.2.1, u.2.2.2.1, u.2.2.2.2.1, u.2.2.2.2.2)) else none) := by
  unfold RI
  rw [f_X4_readItem_29, if_pos (nI_le (by omega) (by omega)), if_neg (show ¬ (101 : Int32) = 100 by decide), if_pos (show (101 : Int32) = 101 from rfl)]
  rfl
theorem it_e {L L' nums R : FN} {P : PW} {n a d e : Nat} (hn : n ≤ 200) (ha : a < n) (hL : hE L' n = hE L n) (h : PV P R d e) : ItOut n (RI n L 1000 101 (nI 4) 0 (a + 1) nums P) (f_X6_item (nI n) (nI (a + 1)) L' R 101) a := by
  obtain ⟨⟨hd12, he6⟩, ⟨p1, p2, p3, p4⟩, -⟩ := id h
  have e3 : (36 : Int32) + 4 * nI e = nI (36 + 4 * e) := by rw [show (36 : Int32) = nI 36 from rfl, show (4 : Int32) = nI 4 from rfl, pk_mul, nI_add]
  have e31 : (36 : Int32) + 4 * nI e + 1 = nI (36 + 4 * e + 1) := by rw [e3, nI1]
  have e32 : (36 : Int32) + 4 * nI e + 2 = nI (36 + 4 * e + 2) := by rw [e3, show (2 : Int32) = nI 2 from rfl, nI_add]
  have e33 : (36 : Int32) + 4 * nI e + 3 = nI (36 + 4 * e + 3) := by rw [e3, show (3 : Int32) = nI 3 from rfl, nI_add]
  have n44 : ¬ (44 : Int32) = 0 := by decide
  have n59 : ¬ (59 : Int32) = 0 := by decide
  by_cases S : ∃ k z i l a1 a2 a3 a4 : Nat, nuE (hE L n) (a + 1) 44 = some (k, a1) ∧ nuE (hE L n) a1 44 = some (z, a2) ∧ nuE (hE L n) a2 44 = some (i, a3) ∧ nuE (hE L n) a3 59 = some (l, a4) ∧ k ≤ 2 ∧ (1 ≤ z ∧ z ≤ 63) ∧ i ≤ 9 ∧ l ≤ 1 ∧ e < 6
  · obtain ⟨k, z, i, l, a1, a2, a3, a4, s1, s2, s3, s4, c1, c2, c3, c4, c5⟩ := S
    obtain ⟨b1, b2, b3⟩ := nu_bd n44 s1
    obtain ⟨b4, b5, b6⟩ := nu_bd n44 s2
    obtain ⟨b7, b8, b9⟩ := nu_bd n44 s3
    obtain ⟨b10, b11, b12⟩ := nu_bd n59 s4
    refine Or.inr ⟨a4, upd (upd (upd (upd nums 0 (nI k)) 1 (nI z)) 2 (nI i)) 3 (nI l), (P.1, P.2.1, nI (e + 1), P.2.2.2.1 ||| (nI l <<< (nI e &&& 31)), P.2.2.2.2.1, P.2.2.2.2.2.1, P.2.2.2.2.2.2.1, P.2.2.2.2.2.2.2.1, P.2.2.2.2.2.2.2.2.1, P.2.2.2.2.2.2.2.2.2.1, P.2.2.2.2.2.2.2.2.2.2.1, upd P.2.2.2.2.2.2.2.2.2.2.2.1 e (nI k), upd P.2.2.2.2.2.2.2.2.2.2.2.2.1 e (nI z), upd P.2.2.2.2.2.2.2.2.2.2.2.2.2 e (nI i)), upd (upd (upd (upd (upd R 61 (nI (e + 1))) (36 + 4 * e) (nI k)) (36 + 4 * e + 1) (nI z)) (36 + 4 * e + 2) (nI i)) (36 + 4 * e + 3) (nI l), d, e + 1, by omega, b12, ?_, ?_, PlanV.addE h c5 c2.2 c4⟩
    · refine (RI_ok (fu := 999) hn (by omega) (by omega) (by omega) (by decide) s1).trans ?_
      refine (RI_ok (fu := 998) hn (by omega) (by omega) (by omega) (by decide) s2).trans ?_
      refine (RI_ok (fu := 997) hn (by omega) (by omega) (by omega) (by decide) s3).trans ?_
      refine (RI_ok (fu := 996) hn (by omega) (by omega) (by omega) (by decide) s4).trans ?_
      refine (RI_e (fu := 995)).trans ?_
      refine (bind_of (a := (1, nI (e + 1), P.2.2.2.1 ||| (nI l <<< (nI e &&& 31)), upd P.2.2.2.2.2.2.2.2.2.2.2.1 e (nI k), upd P.2.2.2.2.2.2.2.2.2.2.2.2.1 e (nI z), upd P.2.2.2.2.2.2.2.2.2.2.2.2.2 e (nI i))) ?_).trans rfl
      show f_X1_addEffect P.2.2.1 P.2.2.2.1 P.2.2.2.2.2.2.2.2.2.2.2.1 P.2.2.2.2.2.2.2.2.2.2.2.2.1 P.2.2.2.2.2.2.2.2.2.2.2.2.2 (nI k) (nI z) (nI i) (nI l) = _
      rw [show P.2.2.1 = nI e from p3]; exact addE_yes c5 c1 c2.1 c2.2 c3 c4
    · unfold f_X6_item
      rw [if_neg (show ¬ (101 : Int32) = 100 by decide), if_pos (show (101 : Int32) = 101 from rfl), show (61 : Int32).toNatClampNeg = 61 from rfl, show R 61 = nI e from p4, if_neg (show ¬ nI e = (6 : Int32) from fun z => by have := (nI_eq (b := 6) (by omega) (by decide)).mp z; omega), e33, e32, e31, e3, nI1]
      have w1 : f_X6_number (nI n) (nI (a + 1)) L' (upd R 61 (nI (e + 1))) (nI (36 + 4 * e)) 0 2 44 = some (1, nI a1, upd (upd R 61 (nI (e + 1))) (36 + 4 * e) (nI k)) := (num_all (L := L') (rd := upd R 61 (nI (e + 1))) (a := a + 1) (to := 36 + 4 * e) (lo := 0) (hi := 2) (sep := 44) hn (by omega) (by omega) (by omega) (by omega)).1 k a1 (ns_some (by rw [hL]; exact s1) (by omega) (by omega))
      have w2 : f_X6_number (nI n) (nI a1) L' (upd (upd R 61 (nI (e + 1))) (36 + 4 * e) (nI k)) (nI (36 + 4 * e + 1)) 1 63 44 = some (1, nI a2, upd (upd (upd R 61 (nI (e + 1))) (36 + 4 * e) (nI k)) (36 + 4 * e + 1) (nI z)) := (num_all (L := L') (rd := upd (upd R 61 (nI (e + 1))) (36 + 4 * e) (nI k)) (a := a1) (to := 36 + 4 * e + 1) (lo := 1) (hi := 63) (sep := 44) hn (by omega) (by omega) (by omega) (by omega)).1 z a2 (ns_some (by rw [hL]; exact s2) (by omega) (by omega))
      have w3 : f_X6_number (nI n) (nI a2) L' (upd (upd (upd R 61 (nI (e + 1))) (36 + 4 * e) (nI k)) (36 + 4 * e + 1) (nI z)) (nI (36 + 4 * e + 2)) 0 9 44 = some (1, nI a3, upd (upd (upd (upd R 61 (nI (e + 1))) (36 + 4 * e) (nI k)) (36 + 4 * e + 1) (nI z)) (36 + 4 * e + 2) (nI i)) := (num_all (L := L') (rd := upd (upd (upd R 61 (nI (e + 1))) (36 + 4 * e) (nI k)) (36 + 4 * e + 1) (nI z)) (a := a2) (to := 36 + 4 * e + 2) (lo := 0) (hi := 9) (sep := 44) hn (by omega) (by omega) (by omega) (by omega)).1 i a3 (ns_some (by rw [hL]; exact s3) (by omega) (by omega))
      have w4 : f_X6_number (nI n) (nI a3) L' (upd (upd (upd (upd R 61 (nI (e + 1))) (36 + 4 * e) (nI k)) (36 + 4 * e + 1) (nI z)) (36 + 4 * e + 2) (nI i)) (nI (36 + 4 * e + 3)) 0 1 59 = some (1, nI a4, upd (upd (upd (upd (upd R 61 (nI (e + 1))) (36 + 4 * e) (nI k)) (36 + 4 * e + 1) (nI z)) (36 + 4 * e + 2) (nI i)) (36 + 4 * e + 3) (nI l)) := (num_all (L := L') (rd := upd (upd (upd (upd R 61 (nI (e + 1))) (36 + 4 * e) (nI k)) (36 + 4 * e + 1) (nI z)) (36 + 4 * e + 2) (nI i)) (a := a3) (to := 36 + 4 * e + 3) (lo := 0) (hi := 1) (sep := 59) hn (by omega) (by omega) (by omega) (by omega)).1 l a4 (ns_some (by rw [hL]; exact s4) (by omega) (by omega))
      refine (bind_of w1).trans ?_
      simp only
      rw [if_neg (show ¬ (1 : Int32) = 0 by decide)]
      refine (bind_of w2).trans ?_
      simp only
      rw [if_neg (show ¬ (1 : Int32) = 0 by decide)]
      refine (bind_of w3).trans ?_
      simp only
      rw [if_neg (show ¬ (1 : Int32) = 0 by decide)]
      refine (bind_of w4).trans ?_
      simp only
      rw [if_neg (show ¬ (1 : Int32) = 0 by decide)]
  · have hC : ∃ u, RI n L 1000 101 (nI 4) 0 (a + 1) nums P = some u ∧ u.1 = 0 := by
      cases s1 : nuE (hE L n) (a + 1) 44 with
      | none => exact RI_no (fu := 999) hn (by omega) (by omega) (by omega) (by decide) s1
      | some q1 =>
        obtain ⟨k, a1⟩ := q1
        obtain ⟨b1, b2, b3⟩ := nu_bd n44 s1
        have r1 : RI n L 1000 101 (nI 4) 0 (a + 1) nums P = RI n L 999 101 (nI 4) 1 a1 (upd nums 0 (nI k)) P := RI_ok (fu := 999) hn (by omega) (by omega) (by omega) (by decide) s1
        rw [r1]
        cases s2 : nuE (hE L n) a1 44 with
        | none => exact RI_no (fu := 998) hn (by omega) (by omega) (by omega) (by decide) s2
        | some q2 =>
          obtain ⟨z, a2⟩ := q2
          obtain ⟨b4, b5, b6⟩ := nu_bd n44 s2
          have r2 : RI n L 999 101 (nI 4) 1 a1 (upd nums 0 (nI k)) P = RI n L 998 101 (nI 4) 2 a2 (upd (upd nums 0 (nI k)) 1 (nI z)) P := RI_ok (fu := 998) hn (by omega) (by omega) (by omega) (by decide) s2
          rw [r2]
          cases s3 : nuE (hE L n) a2 44 with
          | none => exact RI_no (fu := 997) hn (by omega) (by omega) (by omega) (by decide) s3
          | some q3 =>
            obtain ⟨i, a3⟩ := q3
            obtain ⟨b7, b8, b9⟩ := nu_bd n44 s3
            have r3 : RI n L 998 101 (nI 4) 2 a2 (upd (upd nums 0 (nI k)) 1 (nI z)) P = RI n L 997 101 (nI 4) 3 a3 (upd (upd (upd nums 0 (nI k)) 1 (nI z)) 2 (nI i)) P := RI_ok (fu := 997) hn (by omega) (by omega) (by omega) (by decide) s3
            rw [r3]
            cases s4 : nuE (hE L n) a3 59 with
            | none => exact RI_no (fu := 996) hn (by omega) (by omega) (by omega) (by decide) s4
            | some q4 =>
              obtain ⟨l, a4⟩ := q4
              obtain ⟨b10, b11, b12⟩ := nu_bd n59 s4
              have r4 : RI n L 997 101 (nI 4) 3 a3 (upd (upd (upd nums 0 (nI k)) 1 (nI z)) 2 (nI i)) P = RI n L 996 101 (nI 4) 4 a4 (upd (upd (upd (upd nums 0 (nI k)) 1 (nI z)) 2 (nI i)) 3 (nI l)) P := RI_ok (fu := 996) hn (by omega) (by omega) (by omega) (by decide) s4
              rw [r4]
              refine ⟨_, (RI_e (fu := 995)).trans ((bind_of (show f_X1_addEffect P.2.2.1 P.2.2.2.1 P.2.2.2.2.2.2.2.2.2.2.2.1 P.2.2.2.2.2.2.2.2.2.2.2.2.1 P.2.2.2.2.2.2.2.2.2.2.2.2.2 (nI k) (nI z) (nI i) (nI l) = _ from by rw [show P.2.2.1 = nI e from p3]; exact addE_no he6 b1 b4 b7 b10 (fun c => S ⟨k, z, i, l, a1, a2, a3, a4, s1, s2, s3, s4, c⟩))).trans rfl), rfl⟩
    have hM : ∃ v, f_X6_item (nI n) (nI (a + 1)) L' R 101 = some v ∧ v.1 = 0 := by
      unfold f_X6_item
      rw [if_neg (show ¬ (101 : Int32) = 100 by decide), if_pos (show (101 : Int32) = 101 from rfl), show (61 : Int32).toNatClampNeg = 61 from rfl, show R 61 = nI e from p4]
      by_cases c0 : e = 6
      · rw [if_pos (show nI e = (6 : Int32) by rw [c0]; rfl)]
        exact ⟨_, rfl, rfl⟩
      rw [if_neg (show ¬ nI e = (6 : Int32) from fun z => by have := (nI_eq (b := 6) (by omega) (by decide)).mp z; omega), e33, e32, e31, e3, nI1]
      cases s1 : nsE (hE L' n) (a + 1) 44 0 2 with
      | none =>
        obtain ⟨w, rd', hw⟩ := (num_all (L := L') (rd := upd R 61 (nI (e + 1))) (a := a + 1) (to := 36 + 4 * e) (lo := 0) (hi := 2) (sep := 44) hn (by omega) (by omega) (by omega) (by omega)).2 s1
        exact ⟨_, (bind_of hw).trans (if_pos rfl), rfl⟩
      | some q1 =>
        obtain ⟨k, a1⟩ := q1
        have hw1 : f_X6_number (nI n) (nI (a + 1)) L' (upd R 61 (nI (e + 1))) (nI (36 + 4 * e)) 0 2 44 = some (1, nI a1, upd (upd R 61 (nI (e + 1))) (36 + 4 * e) (nI k)) := (num_all (L := L') (rd := upd R 61 (nI (e + 1))) (a := a + 1) (to := 36 + 4 * e) (lo := 0) (hi := 2) (sep := 44) hn (by omega) (by omega) (by omega) (by omega)).1 k a1 s1
        obtain ⟨t1, lo1, hi1⟩ := ns_inv s1
        rw [hL] at t1
        obtain ⟨b1, b2, b3⟩ := nu_bd n44 t1
        rw [bind_of hw1]
        simp only
        rw [if_neg (show ¬ (1 : Int32) = 0 by decide)]
        cases s2 : nsE (hE L' n) a1 44 1 63 with
        | none =>
          obtain ⟨w, rd', hw⟩ := (num_all (L := L') (rd := upd (upd R 61 (nI (e + 1))) (36 + 4 * e) (nI k)) (a := a1) (to := 36 + 4 * e + 1) (lo := 1) (hi := 63) (sep := 44) hn (by omega) (by omega) (by omega) (by omega)).2 s2
          exact ⟨_, (bind_of hw).trans (if_pos rfl), rfl⟩
        | some q2 =>
          obtain ⟨z, a2⟩ := q2
          have hw2 : f_X6_number (nI n) (nI a1) L' (upd (upd R 61 (nI (e + 1))) (36 + 4 * e) (nI k)) (nI (36 + 4 * e + 1)) 1 63 44 = some (1, nI a2, upd (upd (upd R 61 (nI (e + 1))) (36 + 4 * e) (nI k)) (36 + 4 * e + 1) (nI z)) := (num_all (L := L') (rd := upd (upd R 61 (nI (e + 1))) (36 + 4 * e) (nI k)) (a := a1) (to := 36 + 4 * e + 1) (lo := 1) (hi := 63) (sep := 44) hn (by omega) (by omega) (by omega) (by omega)).1 z a2 s2
          obtain ⟨t2, lo2, hi2⟩ := ns_inv s2
          rw [hL] at t2
          obtain ⟨b4, b5, b6⟩ := nu_bd n44 t2
          rw [bind_of hw2]
          simp only
          rw [if_neg (show ¬ (1 : Int32) = 0 by decide)]
          cases s3 : nsE (hE L' n) a2 44 0 9 with
          | none =>
            obtain ⟨w, rd', hw⟩ := (num_all (L := L') (rd := upd (upd (upd R 61 (nI (e + 1))) (36 + 4 * e) (nI k)) (36 + 4 * e + 1) (nI z)) (a := a2) (to := 36 + 4 * e + 2) (lo := 0) (hi := 9) (sep := 44) hn (by omega) (by omega) (by omega) (by omega)).2 s3
            exact ⟨_, (bind_of hw).trans (if_pos rfl), rfl⟩
          | some q3 =>
            obtain ⟨i, a3⟩ := q3
            have hw3 : f_X6_number (nI n) (nI a2) L' (upd (upd (upd R 61 (nI (e + 1))) (36 + 4 * e) (nI k)) (36 + 4 * e + 1) (nI z)) (nI (36 + 4 * e + 2)) 0 9 44 = some (1, nI a3, upd (upd (upd (upd R 61 (nI (e + 1))) (36 + 4 * e) (nI k)) (36 + 4 * e + 1) (nI z)) (36 + 4 * e + 2) (nI i)) := (num_all (L := L') (rd := upd (upd (upd R 61 (nI (e + 1))) (36 + 4 * e) (nI k)) (36 + 4 * e + 1) (nI z)) (a := a2) (to := 36 + 4 * e + 2) (lo := 0) (hi := 9) (sep := 44) hn (by omega) (by omega) (by omega) (by omega)).1 i a3 s3
            obtain ⟨t3, lo3, hi3⟩ := ns_inv s3
            rw [hL] at t3
            obtain ⟨b7, b8, b9⟩ := nu_bd n44 t3
            rw [bind_of hw3]
            simp only
            rw [if_neg (show ¬ (1 : Int32) = 0 by decide)]
            cases s4 : nsE (hE L' n) a3 59 0 1 with
            | none =>
              obtain ⟨w, rd', hw⟩ := (num_all (L := L') (rd := upd (upd (upd (upd R 61 (nI (e + 1))) (36 + 4 * e) (nI k)) (36 + 4 * e + 1) (nI z)) (36 + 4 * e + 2) (nI i)) (a := a3) (to := 36 + 4 * e + 3) (lo := 0) (hi := 1) (sep := 59) hn (by omega) (by omega) (by omega) (by omega)).2 s4
              exact ⟨_, (bind_of hw).trans (if_pos rfl), rfl⟩
            | some q4 =>
              obtain ⟨l, a4⟩ := q4
              have hw4 : f_X6_number (nI n) (nI a3) L' (upd (upd (upd (upd R 61 (nI (e + 1))) (36 + 4 * e) (nI k)) (36 + 4 * e + 1) (nI z)) (36 + 4 * e + 2) (nI i)) (nI (36 + 4 * e + 3)) 0 1 59 = some (1, nI a4, upd (upd (upd (upd (upd R 61 (nI (e + 1))) (36 + 4 * e) (nI k)) (36 + 4 * e + 1) (nI z)) (36 + 4 * e + 2) (nI i)) (36 + 4 * e + 3) (nI l)) := (num_all (L := L') (rd := upd (upd (upd (upd R 61 (nI (e + 1))) (36 + 4 * e) (nI k)) (36 + 4 * e + 1) (nI z)) (36 + 4 * e + 2) (nI i)) (a := a3) (to := 36 + 4 * e + 3) (lo := 0) (hi := 1) (sep := 59) hn (by omega) (by omega) (by omega) (by omega)).1 l a4 s4
              obtain ⟨t4, lo4, hi4⟩ := ns_inv s4
              rw [hL] at t4
              obtain ⟨b10, b11, b12⟩ := nu_bd n59 t4
              exact absurd ⟨k, z, i, l, a1, a2, a3, a4, t1, t2, t3, t4, by omega, by omega, by omega, by omega, by omega⟩ S
    obtain ⟨u, hu, hu0⟩ := hC
    obtain ⟨v, hv, hv0⟩ := hM
    exact Or.inl ⟨u, v, hu, hu0, hv, hv0⟩
theorem RI_t {L nums : FN} {n fu a : Nat} {P : PW} : RI n L (fu + 1) 116 (nI 4) 4 a nums P = (f_X1_setLimits P.2.2.2.2.1 P.2.2.2.2.2.1 P.2.2.2.2.2.2.1 P.2.2.2.2.2.2.2.1 (nums 0) (nums 1) (nums 2) (nums 3)).bind (fun u => if u.1 = 0 ∨ u.1 = 1 then some (u.1, nI a, nums, (P.1, P.2.1, P.2.2.1, P.2.2.2.1, u.2.1, u.2.2.1, u.2.2.2.1, u.2.2.2.2, P.2.2.2.2.2.2.2.2.1, P.2.2.2.2.2.2.2.2.2.1, P.2.2.2.2.2.2.2.2.2.2.1, P.2.2.2.2.2.2.2.2.2.2.2.1, P.2.2.2.2.2.2.2.2.2.2.2.2.1, P.2.2.2.2.2.2.2.2.2.2.2.2.2)) else none) := by
  unfold RI
  rw [f_X4_readItem_29, if_pos (nI_le (by omega) (by omega)), if_neg (show ¬ (116 : Int32) = 100 by decide), if_neg (show ¬ (116 : Int32) = 101 by decide), if_pos (show (116 : Int32) = 116 from rfl)]
  rfl
theorem it_t {L L' nums R : FN} {P : PW} {n a d e : Nat} (hn : n ≤ 200) (ha : a < n) (hL : hE L' n = hE L n) (h : PV P R d e) : ItOut n (RI n L 1000 116 (nI 4) 0 (a + 1) nums P) (f_X6_item (nI n) (nI (a + 1)) L' R 116) a := by
  obtain ⟨⟨hd12, he6⟩, ⟨p1, p2, p3, p4⟩, -⟩ := id h
  have n44 : ¬ (44 : Int32) = 0 := by decide
  have n59 : ¬ (59 : Int32) = 0 := by decide
  by_cases S : ∃ k z i l a1 a2 a3 a4 : Nat, nuE (hE L n) (a + 1) 44 = some (k, a1) ∧ nuE (hE L n) a1 44 = some (z, a2) ∧ nuE (hE L n) a2 44 = some (i, a3) ∧ nuE (hE L n) a3 59 = some (l, a4) ∧ (1 ≤ k ∧ k ≤ 90) ∧ (k + 1 ≤ z ∧ z ≤ 99) ∧ i ≤ 9 ∧ (1 ≤ l ∧ l ≤ 9)
  · obtain ⟨k, z, i, l, a1, a2, a3, a4, s1, s2, s3, s4, c1, c2, c3, c4⟩ := S
    obtain ⟨b1, b2, b3⟩ := nu_bd n44 s1
    obtain ⟨b4, b5, b6⟩ := nu_bd n44 s2
    obtain ⟨b7, b8, b9⟩ := nu_bd n44 s3
    obtain ⟨b10, b11, b12⟩ := nu_bd n59 s4
    refine Or.inr ⟨a4, upd (upd (upd (upd nums 0 (nI k)) 1 (nI z)) 2 (nI i)) 3 (nI l), (P.1, P.2.1, P.2.2.1, P.2.2.2.1, nI k, nI z, nI i, nI l, P.2.2.2.2.2.2.2.2.1, P.2.2.2.2.2.2.2.2.2.1, P.2.2.2.2.2.2.2.2.2.2.1, P.2.2.2.2.2.2.2.2.2.2.2.1, P.2.2.2.2.2.2.2.2.2.2.2.2.1, P.2.2.2.2.2.2.2.2.2.2.2.2.2), upd (upd (upd (upd R 62 (nI k)) 63 (nI z)) 64 (nI i)) 65 (nI l), d, e, by omega, b12, ?_, ?_, PlanV.setL h c4.1 c4.2⟩
    · refine (RI_ok (fu := 999) hn (by omega) (by omega) (by omega) (by decide) s1).trans ?_
      refine (RI_ok (fu := 998) hn (by omega) (by omega) (by omega) (by decide) s2).trans ?_
      refine (RI_ok (fu := 997) hn (by omega) (by omega) (by omega) (by decide) s3).trans ?_
      refine (RI_ok (fu := 996) hn (by omega) (by omega) (by omega) (by decide) s4).trans ?_
      refine (RI_t (fu := 995)).trans ?_
      refine (bind_of (a := (1, nI k, nI z, nI i, nI l)) ?_).trans rfl
      show f_X1_setLimits P.2.2.2.2.1 P.2.2.2.2.2.1 P.2.2.2.2.2.2.1 P.2.2.2.2.2.2.2.1 (nI k) (nI z) (nI i) (nI l) = _
      exact setL_yes c1.1 c1.2 c2.1 c2.2 c3 c4.1 c4.2
    · unfold f_X6_item
      rw [if_neg (show ¬ (116 : Int32) = 100 by decide), if_neg (show ¬ (116 : Int32) = 101 by decide), if_pos (show (116 : Int32) = 116 from rfl)]
      have w1 : f_X6_number (nI n) (nI (a + 1)) L' R 62 1 90 44 = some (1, nI a1, upd R 62 (nI k)) := (num_all (L := L') (rd := R) (a := a + 1) (to := 62) (lo := 1) (hi := 90) (sep := 44) hn (by omega) (by omega) (by omega) (by omega)).1 k a1 (ns_some (by rw [hL]; exact s1) (by omega) (by omega))
      have w2 : f_X6_number (nI n) (nI a1) L' (upd R 62 (nI k)) 63 (nI (k + 1)) 99 44 = some (1, nI a2, upd (upd R 62 (nI k)) 63 (nI z)) := (num_all (L := L') (rd := upd R 62 (nI k)) (a := a1) (to := 63) (lo := k + 1) (hi := 99) (sep := 44) hn (by omega) (by omega) (by omega) (by omega)).1 z a2 (ns_some (by rw [hL]; exact s2) (by omega) (by omega))
      have w3 : f_X6_number (nI n) (nI a2) L' (upd (upd R 62 (nI k)) 63 (nI z)) 64 0 9 44 = some (1, nI a3, upd (upd (upd R 62 (nI k)) 63 (nI z)) 64 (nI i)) := (num_all (L := L') (rd := upd (upd R 62 (nI k)) 63 (nI z)) (a := a2) (to := 64) (lo := 0) (hi := 9) (sep := 44) hn (by omega) (by omega) (by omega) (by omega)).1 i a3 (ns_some (by rw [hL]; exact s3) (by omega) (by omega))
      have w4 : f_X6_number (nI n) (nI a3) L' (upd (upd (upd R 62 (nI k)) 63 (nI z)) 64 (nI i)) 65 1 9 59 = some (1, nI a4, upd (upd (upd (upd R 62 (nI k)) 63 (nI z)) 64 (nI i)) 65 (nI l)) := (num_all (L := L') (rd := upd (upd (upd R 62 (nI k)) 63 (nI z)) 64 (nI i)) (a := a3) (to := 65) (lo := 1) (hi := 9) (sep := 59) hn (by omega) (by omega) (by omega) (by omega)).1 l a4 (ns_some (by rw [hL]; exact s4) (by omega) (by omega))
      refine (bind_of w1).trans ?_
      simp only
      rw [if_neg (show ¬ (1 : Int32) = 0 by decide)]
      rw [show (62 : Int32).toNatClampNeg = 62 from rfl, us, nI1]
      refine (bind_of w2).trans ?_
      simp only
      rw [if_neg (show ¬ (1 : Int32) = 0 by decide)]
      refine (bind_of w3).trans ?_
      simp only
      rw [if_neg (show ¬ (1 : Int32) = 0 by decide)]
      refine (bind_of w4).trans ?_
      simp only
      rw [if_neg (show ¬ (1 : Int32) = 0 by decide)]
  · have hC : ∃ u, RI n L 1000 116 (nI 4) 0 (a + 1) nums P = some u ∧ u.1 = 0 := by
      cases s1 : nuE (hE L n) (a + 1) 44 with
      | none => exact RI_no (fu := 999) hn (by omega) (by omega) (by omega) (by decide) s1
      | some q1 =>
        obtain ⟨k, a1⟩ := q1
        obtain ⟨b1, b2, b3⟩ := nu_bd n44 s1
        have r1 : RI n L 1000 116 (nI 4) 0 (a + 1) nums P = RI n L 999 116 (nI 4) 1 a1 (upd nums 0 (nI k)) P := RI_ok (fu := 999) hn (by omega) (by omega) (by omega) (by decide) s1
        rw [r1]
        cases s2 : nuE (hE L n) a1 44 with
        | none => exact RI_no (fu := 998) hn (by omega) (by omega) (by omega) (by decide) s2
        | some q2 =>
          obtain ⟨z, a2⟩ := q2
          obtain ⟨b4, b5, b6⟩ := nu_bd n44 s2
          have r2 : RI n L 999 116 (nI 4) 1 a1 (upd nums 0 (nI k)) P = RI n L 998 116 (nI 4) 2 a2 (upd (upd nums 0 (nI k)) 1 (nI z)) P := RI_ok (fu := 998) hn (by omega) (by omega) (by omega) (by decide) s2
          rw [r2]
          cases s3 : nuE (hE L n) a2 44 with
          | none => exact RI_no (fu := 997) hn (by omega) (by omega) (by omega) (by decide) s3
          | some q3 =>
            obtain ⟨i, a3⟩ := q3
            obtain ⟨b7, b8, b9⟩ := nu_bd n44 s3
            have r3 : RI n L 998 116 (nI 4) 2 a2 (upd (upd nums 0 (nI k)) 1 (nI z)) P = RI n L 997 116 (nI 4) 3 a3 (upd (upd (upd nums 0 (nI k)) 1 (nI z)) 2 (nI i)) P := RI_ok (fu := 997) hn (by omega) (by omega) (by omega) (by decide) s3
            rw [r3]
            cases s4 : nuE (hE L n) a3 59 with
            | none => exact RI_no (fu := 996) hn (by omega) (by omega) (by omega) (by decide) s4
            | some q4 =>
              obtain ⟨l, a4⟩ := q4
              obtain ⟨b10, b11, b12⟩ := nu_bd n59 s4
              have r4 : RI n L 997 116 (nI 4) 3 a3 (upd (upd (upd nums 0 (nI k)) 1 (nI z)) 2 (nI i)) P = RI n L 996 116 (nI 4) 4 a4 (upd (upd (upd (upd nums 0 (nI k)) 1 (nI z)) 2 (nI i)) 3 (nI l)) P := RI_ok (fu := 996) hn (by omega) (by omega) (by omega) (by decide) s4
              rw [r4]
              refine ⟨_, (RI_t (fu := 995)).trans ((bind_of (show f_X1_setLimits P.2.2.2.2.1 P.2.2.2.2.2.1 P.2.2.2.2.2.2.1 P.2.2.2.2.2.2.2.1 (nI k) (nI z) (nI i) (nI l) = _ from setL_no b1 b4 b7 b10 (fun c => S ⟨k, z, i, l, a1, a2, a3, a4, s1, s2, s3, s4, c⟩))).trans rfl), rfl⟩
    have hM : ∃ v, f_X6_item (nI n) (nI (a + 1)) L' R 116 = some v ∧ v.1 = 0 := by
      unfold f_X6_item
      rw [if_neg (show ¬ (116 : Int32) = 100 by decide), if_neg (show ¬ (116 : Int32) = 101 by decide), if_pos (show (116 : Int32) = 116 from rfl)]
      cases s1 : nsE (hE L' n) (a + 1) 44 1 90 with
      | none =>
        obtain ⟨w, rd', hw⟩ := (num_all (L := L') (rd := R) (a := a + 1) (to := 62) (lo := 1) (hi := 90) (sep := 44) hn (by omega) (by omega) (by omega) (by omega)).2 s1
        exact ⟨_, (bind_of hw).trans (if_pos rfl), rfl⟩
      | some q1 =>
        obtain ⟨k, a1⟩ := q1
        have hw1 : f_X6_number (nI n) (nI (a + 1)) L' R 62 1 90 44 = some (1, nI a1, upd R 62 (nI k)) := (num_all (L := L') (rd := R) (a := a + 1) (to := 62) (lo := 1) (hi := 90) (sep := 44) hn (by omega) (by omega) (by omega) (by omega)).1 k a1 s1
        obtain ⟨t1, lo1, hi1⟩ := ns_inv s1
        rw [hL] at t1
        obtain ⟨b1, b2, b3⟩ := nu_bd n44 t1
        rw [bind_of hw1]
        simp only
        rw [if_neg (show ¬ (1 : Int32) = 0 by decide)]
        rw [show (62 : Int32).toNatClampNeg = 62 from rfl, us, nI1]
        cases s2 : nsE (hE L' n) a1 44 (k + 1) 99 with
        | none =>
          obtain ⟨w, rd', hw⟩ := (num_all (L := L') (rd := upd R 62 (nI k)) (a := a1) (to := 63) (lo := k + 1) (hi := 99) (sep := 44) hn (by omega) (by omega) (by omega) (by omega)).2 s2
          exact ⟨_, (bind_of hw).trans (if_pos rfl), rfl⟩
        | some q2 =>
          obtain ⟨z, a2⟩ := q2
          have hw2 : f_X6_number (nI n) (nI a1) L' (upd R 62 (nI k)) 63 (nI (k + 1)) 99 44 = some (1, nI a2, upd (upd R 62 (nI k)) 63 (nI z)) := (num_all (L := L') (rd := upd R 62 (nI k)) (a := a1) (to := 63) (lo := k + 1) (hi := 99) (sep := 44) hn (by omega) (by omega) (by omega) (by omega)).1 z a2 s2
          obtain ⟨t2, lo2, hi2⟩ := ns_inv s2
          rw [hL] at t2
          obtain ⟨b4, b5, b6⟩ := nu_bd n44 t2
          rw [bind_of hw2]
          simp only
          rw [if_neg (show ¬ (1 : Int32) = 0 by decide)]
          cases s3 : nsE (hE L' n) a2 44 0 9 with
          | none =>
            obtain ⟨w, rd', hw⟩ := (num_all (L := L') (rd := upd (upd R 62 (nI k)) 63 (nI z)) (a := a2) (to := 64) (lo := 0) (hi := 9) (sep := 44) hn (by omega) (by omega) (by omega) (by omega)).2 s3
            exact ⟨_, (bind_of hw).trans (if_pos rfl), rfl⟩
          | some q3 =>
            obtain ⟨i, a3⟩ := q3
            have hw3 : f_X6_number (nI n) (nI a2) L' (upd (upd R 62 (nI k)) 63 (nI z)) 64 0 9 44 = some (1, nI a3, upd (upd (upd R 62 (nI k)) 63 (nI z)) 64 (nI i)) := (num_all (L := L') (rd := upd (upd R 62 (nI k)) 63 (nI z)) (a := a2) (to := 64) (lo := 0) (hi := 9) (sep := 44) hn (by omega) (by omega) (by omega) (by omega)).1 i a3 s3
            obtain ⟨t3, lo3, hi3⟩ := ns_inv s3
            rw [hL] at t3
            obtain ⟨b7, b8, b9⟩ := nu_bd n44 t3
            rw [bind_of hw3]
            simp only
            rw [if_neg (show ¬ (1 : Int32) = 0 by decide)]
            cases s4 : nsE (hE L' n) a3 59 1 9 with
            | none =>
              obtain ⟨w, rd', hw⟩ := (num_all (L := L') (rd := upd (upd (upd R 62 (nI k)) 63 (nI z)) 64 (nI i)) (a := a3) (to := 65) (lo := 1) (hi := 9) (sep := 59) hn (by omega) (by omega) (by omega) (by omega)).2 s4
              exact ⟨_, (bind_of hw).trans (if_pos rfl), rfl⟩
            | some q4 =>
              obtain ⟨l, a4⟩ := q4
              have hw4 : f_X6_number (nI n) (nI a3) L' (upd (upd (upd R 62 (nI k)) 63 (nI z)) 64 (nI i)) 65 1 9 59 = some (1, nI a4, upd (upd (upd (upd R 62 (nI k)) 63 (nI z)) 64 (nI i)) 65 (nI l)) := (num_all (L := L') (rd := upd (upd (upd R 62 (nI k)) 63 (nI z)) 64 (nI i)) (a := a3) (to := 65) (lo := 1) (hi := 9) (sep := 59) hn (by omega) (by omega) (by omega) (by omega)).1 l a4 s4
              obtain ⟨t4, lo4, hi4⟩ := ns_inv s4
              rw [hL] at t4
              obtain ⟨b10, b11, b12⟩ := nu_bd n59 t4
              exact absurd ⟨k, z, i, l, a1, a2, a3, a4, t1, t2, t3, t4, by omega, by omega, by omega, by omega⟩ S
    obtain ⟨u, hu, hu0⟩ := hC
    obtain ⟨v, hv, hv0⟩ := hM
    exact Or.inl ⟨u, v, hu, hu0, hv, hv0⟩
theorem RI_v {L nums : FN} {n fu a : Nat} {P : PW} : RI n L (fu + 1) 118 (nI 1) 1 a nums P = (f_X1_setPhase P.2.2.2.2.2.2.2.2.1 (nums 0)).bind (fun u => if u.1 = 0 ∨ u.1 = 1 then some (u.1, nI a, nums, (P.1, P.2.1, P.2.2.1, P.2.2.2.1, P.2.2.2.2.1, P.2.2.2.2.2.1, P.2.2.2.2.2.2.1, P.2.2.2.2.2.2.2.1, u.2, P.2.2.2.2.2.2.2.2.2.1, P.2.2.2.2.2.2.2.2.2.2.1, P.2.2.2.2.2.2.2.2.2.2.2.1, P.2.2.2.2.2.2.2.2.2.2.2.2.1, P.2.2.2.2.2.2.2.2.2.2.2.2.2)) else none) := by
  unfold RI
  rw [f_X4_readItem_29, if_pos (nI_le (by omega) (by omega)), if_neg (show ¬ (118 : Int32) = 100 by decide), if_neg (show ¬ (118 : Int32) = 101 by decide), if_neg (show ¬ (118 : Int32) = 116 by decide)]
  rfl
theorem it_v {L L' nums R : FN} {P : PW} {n a d e : Nat} (hn : n ≤ 200) (ha : a < n) (hL : hE L' n = hE L n) (h : PV P R d e) : ItOut n (RI n L 1000 118 (nI 1) 0 (a + 1) nums P) (f_X6_item (nI n) (nI (a + 1)) L' R 118) a := by
  obtain ⟨⟨hd12, he6⟩, ⟨p1, p2, p3, p4⟩, -⟩ := id h
  have n44 : ¬ (44 : Int32) = 0 := by decide
  have n59 : ¬ (59 : Int32) = 0 := by decide
  by_cases S : ∃ k a1 : Nat, nuE (hE L n) (a + 1) 59 = some (k, a1) ∧ (1 ≤ k ∧ k ≤ 9)
  · obtain ⟨k, a1, s1, c1⟩ := S
    obtain ⟨b1, b2, b3⟩ := nu_bd n59 s1
    refine Or.inr ⟨a1, upd nums 0 (nI k), (P.1, P.2.1, P.2.2.1, P.2.2.2.1, P.2.2.2.2.1, P.2.2.2.2.2.1, P.2.2.2.2.2.2.1, P.2.2.2.2.2.2.2.1, nI k, P.2.2.2.2.2.2.2.2.2.1, P.2.2.2.2.2.2.2.2.2.2.1, P.2.2.2.2.2.2.2.2.2.2.2.1, P.2.2.2.2.2.2.2.2.2.2.2.2.1, P.2.2.2.2.2.2.2.2.2.2.2.2.2), upd R 66 (nI k), d, e, by omega, b3, ?_, ?_, PlanV.setP h c1.1 c1.2⟩
    · refine (RI_ok (fu := 999) hn (by omega) (by omega) (by omega) (by decide) s1).trans ?_
      refine (RI_v (fu := 998)).trans ?_
      refine (bind_of (a := (1, nI k)) ?_).trans rfl
      show f_X1_setPhase P.2.2.2.2.2.2.2.2.1 (nI k) = _
      exact setP_yes c1.1 c1.2
    · unfold f_X6_item
      rw [if_neg (show ¬ (118 : Int32) = 100 by decide), if_neg (show ¬ (118 : Int32) = 101 by decide), if_neg (show ¬ (118 : Int32) = 116 by decide), if_pos (show (118 : Int32) = 118 from rfl)]
      have w1 : f_X6_number (nI n) (nI (a + 1)) L' R 66 1 9 59 = some (1, nI a1, upd R 66 (nI k)) := (num_all (L := L') (rd := R) (a := a + 1) (to := 66) (lo := 1) (hi := 9) (sep := 59) hn (by omega) (by omega) (by omega) (by omega)).1 k a1 (ns_some (by rw [hL]; exact s1) (by omega) (by omega))
      exact (bind_of w1).trans rfl
  · have hC : ∃ u, RI n L 1000 118 (nI 1) 0 (a + 1) nums P = some u ∧ u.1 = 0 := by
      cases s1 : nuE (hE L n) (a + 1) 59 with
      | none => exact RI_no (fu := 999) hn (by omega) (by omega) (by omega) (by decide) s1
      | some q1 =>
        obtain ⟨k, a1⟩ := q1
        obtain ⟨b1, b2, b3⟩ := nu_bd n59 s1
        have r1 : RI n L 1000 118 (nI 1) 0 (a + 1) nums P = RI n L 999 118 (nI 1) 1 a1 (upd nums 0 (nI k)) P := RI_ok (fu := 999) hn (by omega) (by omega) (by omega) (by decide) s1
        rw [r1]
        refine ⟨_, (RI_v (fu := 998)).trans ((bind_of (show f_X1_setPhase P.2.2.2.2.2.2.2.2.1 (nI k) = _ from setP_no b1 (fun c => S ⟨k, a1, s1, c⟩))).trans rfl), rfl⟩
    have hM : ∃ v, f_X6_item (nI n) (nI (a + 1)) L' R 118 = some v ∧ v.1 = 0 := by
      unfold f_X6_item
      rw [if_neg (show ¬ (118 : Int32) = 100 by decide), if_neg (show ¬ (118 : Int32) = 101 by decide), if_neg (show ¬ (118 : Int32) = 116 by decide), if_pos (show (118 : Int32) = 118 from rfl)]
      cases s1 : nsE (hE L' n) (a + 1) 59 1 9 with
      | none =>
        obtain ⟨w, rd', hw⟩ := (num_all (L := L') (rd := R) (a := a + 1) (to := 66) (lo := 1) (hi := 9) (sep := 59) hn (by omega) (by omega) (by omega) (by omega)).2 s1
        exact ⟨_, (bind_of hw).trans rfl, rfl⟩
      | some q1 =>
        obtain ⟨k, a1⟩ := q1
        have hw1 : f_X6_number (nI n) (nI (a + 1)) L' R 66 1 9 59 = some (1, nI a1, upd R 66 (nI k)) := (num_all (L := L') (rd := R) (a := a + 1) (to := 66) (lo := 1) (hi := 9) (sep := 59) hn (by omega) (by omega) (by omega) (by omega)).1 k a1 s1
        obtain ⟨t1, lo1, hi1⟩ := ns_inv s1
        rw [hL] at t1
        obtain ⟨b1, b2, b3⟩ := nu_bd n59 t1
        exact absurd ⟨k, a1, t1, by omega⟩ S
    obtain ⟨u, hu, hu0⟩ := hC
    obtain ⟨v, hv, hv0⟩ := hM
    exact Or.inl ⟨u, v, hu, hu0, hv, hv0⟩
