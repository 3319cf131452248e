/-! PURE: device, effect, count -/
def vlE (s : FN) (i : Nat) : Int32 := if 0 < s i - s (12 + i) then s i - s (12 + i) else 0
theorem val_eq {rd bs s : FN} {i : Nat} (hi : i < 12) (h1 : rd i = s i) (h2 : bs i = s (12 + i)) : f_X3_valueOf rd bs (nI i) = some (vlE s i) := by
  unfold f_X3_valueOf vlE
  have g : gi (nI i) 12 := (gi_nI (by omega)).mpr hi
  rw [if_pos g, if_pos g, nI_clamp (by omega), h1, h2]
theorem mval_eq (s : FN) {i : Nat} (hi : i < 12) : f_X6_value s (nI i) = some (vlE s i) := by
  unfold f_X6_value vlE
  have e0 : (0 : Int32) + nI i = nI i := by rw [show (0 : Int32) = nI 0 from rfl, nI_add, Nat.zero_add]
  have e1 : (12 : Int32) + nI i = nI (12 + i) := nI_add 12 i
  rw [e0, e1, if_pos ((gi_nI (n := i) (by omega)).mpr (by omega)), if_pos ((gi_nI (n := 12 + i) (by omega)).mpr (by omega)), nI_clamp (by omega), nI_clamp (by omega)]
  generalize s i - s (12 + i) = x
  by_cases h : 0 < x
  · rw [if_pos h, if_pos]
    rw [Int32.lt_iff_toInt_lt] at h
    rw [Int32.le_iff_toInt_le]
    omega
  · rw [if_neg h]
    by_cases g : 0 ≤ x
    · rw [if_pos g]
      congr 1
      rw [Int32.lt_iff_toInt_lt] at h
      rw [Int32.le_iff_toInt_le] at g
      apply Int32.toInt_inj.1
      omega
    · rw [if_neg g]
theorem sens_eq {t : FN} {i q : Nat} (hi : i < 12) (hq : q < 4) (h : t (3 * i) = nI q) : f_X6_isSensor t (nI i) = some (if q < 2 then 1 else 0) := by
  unfold f_X6_isSensor
  have e : (3 : Int32) * nI i = nI (3 * i) := by rw [show (3 : Int32) = nI 3 from rfl, pk_mul]
  rw [e, if_pos ((gi_nI (by omega)).mpr (by omega)), nI_clamp (by omega), h]
  by_cases c : q < 2
  · rw [if_neg (show ¬ (2 : Int32) ≤ nI q from nI_ge (b := 2) c (by decide)), if_pos c]
  · rw [if_pos (show (2 : Int32) ≤ nI q from nI_le (a := 2) (by omega) (by omega)), if_neg c]
theorem lev_eq {fires pre alarm : Int32} {rd bs kind t s : FN} {i q d : Nat} (hd : d ≤ 12) (hi : i < d) (hq : q < 4) (h1 : rd i = s i) (h2 : bs i = s (12 + i)) (hk : kind i = t (3 * i)) (h : t (3 * i) = nI q) (hB : Bt fires d (fun i => decide (s (36 + i) = 1))) : f_X3_levelOf fires rd bs pre alarm kind (nI i) = some (if s (36 + i) = 1 then 3 else if q < 2 then (if vlE s i < alarm then (if vlE s i < pre then 0 else 1) else 2) else 0) := by
  have g : gi (nI i) 12 := (gi_nI (by omega)).mpr (by omega)
  unfold f_X3_levelOf
  rw [hB.bit (by omega) hi, val_eq (by omega) h1 h2, if_pos g, if_pos g, nI_clamp (by omega), hk, h]
  simp only [Option.bind_some]
  by_cases c : s (36 + i) = 1
  · rw [if_pos (show (if (decide (s (36 + i) = 1)) = true then (1 : Int32) else 0) = 1 by simp [c]), if_pos c]
  · rw [if_neg (show ¬ (if (decide (s (36 + i) = 1)) = true then (1 : Int32) else 0) = 1 by simp [c]), if_neg c]
    rcases (show q = 0 ∨ q = 1 ∨ q = 2 ∨ q = 3 by omega) with rfl | rfl | rfl | rfl
    · rw [if_pos (show nI 0 = (0 : Int32) from rfl), if_pos (show 0 < 2 by decide)]
      by_cases c1 : vlE s i < alarm
      · rw [if_pos c1, if_pos c1]
        by_cases c2 : vlE s i < pre
        · rw [if_pos c2, if_pos c2]
        · rw [if_neg c2, if_neg c2]
      · rw [if_neg c1, if_neg c1]
    · rw [if_neg (show ¬ nI 1 = (0 : Int32) by decide), if_pos (show nI 1 = (1 : Int32) from rfl), if_pos (show 1 < 2 by decide)]
      by_cases c1 : vlE s i < alarm
      · rw [if_pos c1, if_pos c1]
        by_cases c2 : vlE s i < pre
        · rw [if_pos c2, if_pos c2]
        · rw [if_neg c2, if_neg c2]
      · rw [if_neg c1, if_neg c1]
    · rw [if_neg (show ¬ nI 2 = (0 : Int32) by decide), if_neg (show ¬ nI 2 = (1 : Int32) by decide), if_neg (show ¬ 2 < 2 by decide)]
    · rw [if_neg (show ¬ nI 3 = (0 : Int32) by decide), if_neg (show ¬ nI 3 = (1 : Int32) by decide), if_neg (show ¬ 3 < 2 by decide)]
theorem ok_device (x0 x1 : Int32) : OK1 Rel (fun C => rs_device C x0 x1) (fun M => ms_device M x0 x1) := by
  intro C M h
  have h0 := h
  obtain ⟨n, k, d, e, hn, hk, ⟨m1, m2⟩, hPl, hSt, hp⟩ := h
  obtain ⟨⟨hd1, hd12, he6⟩, ⟨p1, p2, p3, p4⟩, hdev, hiso, -, -, ⟨l1, l2, l3, l4, l5⟩, -⟩ := id hPl
  obtain ⟨a1, a2, a3, a4, a5, a6, a7, -⟩ := id hSt
  have hI := isoE0 hd12 hiso
  have hK := cutE0 hd12 a6
  have hS := shE0 hd12 a7
  obtain ⟨Z, z1, z2⟩ := blkN_eq hd12 hI hK hS
  show ∃ o q, rs_device C x0 x1 = some o ∧ ms_device M x0 x1 = some q ∧ _
  unfold rs_device ms_device f_X5_device f_X6_device
  rw [isDev_eq, misDev_eq, p1, p2, m1, m2, within_eq, in_eq x1 0 8 (by decide) (by decide)]
  simp only [Option.bind_some]
  by_cases c : wi x0 0 (nI d - 1) = 0
  · rw [if_pos c, if_pos c]; exact ⟨_, _, rfl, rfl, rfl, h0⟩
  rw [if_neg c, if_neg c]
  by_cases c1 : wi x1 0 8 = 0
  · rw [if_pos c1, if_pos c1]; exact ⟨_, _, rfl, rfl, rfl, h0⟩
  rw [if_neg c1, if_neg c1]
  obtain ⟨i, hi, rfl⟩ := dev_of hd1 (by omega) c
  have g12 : gi (nI i) 12 := (gi_nI (by omega)).mpr (by omega)
  have ei : (nI i).toNatClampNeg = i := nI_clamp (by omega)
  obtain ⟨b1, b2, b3⟩ := a1 i (by omega)
  obtain ⟨k1, k2, k3, k4, kq, hkq, k5⟩ := hdev i hi
  have e3 : ∀ j : Nat, (3 : Int32) * nI i + nI j = nI (3 * i + j) := fun j => by rw [show (3 : Int32) = nI 3 from rfl, pk_mul, nI_add]
  have ea : ∀ j : Nat, nI j + nI i = nI (j + i) := fun j => nI_add j i
  have e0 : (0 : Int32) + nI i = nI i := by rw [show (0 : Int32) = nI 0 from rfl, nI_add, Nat.zero_add]
  rw [mval_eq M.2.2.2.1 (show i < 12 by omega)]
  simp only [Option.bind_some]
  by_cases q0 : x1 = 0
  · rw [if_pos q0, if_pos q0, if_pos g12, show x1 = nI 0 from q0, e3 0, if_pos ((gi_nI (by omega)).mpr (by omega))]
    refine ⟨_, _, rfl, rfl, ?_, h0⟩
    show C.2.2.1.1 (nI i).toNatClampNeg = M.2.1 (nI (3 * i + 0)).toNatClampNeg
    rw [ei, nI_clamp (by omega)]; exact k1
  rw [if_neg q0, if_neg q0]
  by_cases q1 : x1 = 1
  · rw [if_pos q1, if_pos q1, if_pos g12, show x1 = nI 1 from q1, e3 1, if_pos ((gi_nI (by omega)).mpr (by omega))]
    refine ⟨_, _, rfl, rfl, ?_, h0⟩
    show C.2.2.1.2.1 (nI i).toNatClampNeg = M.2.1 (nI (3 * i + 1)).toNatClampNeg
    rw [ei, nI_clamp (by omega)]; exact k2
  rw [if_neg q1, if_neg q1]
  by_cases q2 : x1 = 2
  · rw [if_pos q2, if_pos q2, hiso.bit (by omega) hi, show x1 = nI 2 from q2, e3 2, if_pos ((gi_nI (by omega)).mpr (by omega))]
    refine ⟨_, _, rfl, rfl, ?_, h0⟩
    show (if (decide (M.2.1 (3 * i + 2) = 1)) = true then (1 : Int32) else 0) = M.2.1 (nI (3 * i + 2)).toNatClampNeg
    rw [nI_clamp (by omega)]
    rcases k4 with z | z <;> rw [z] <;> rfl
  rw [if_neg q2, if_neg q2]
  by_cases q3 : x1 = 3
  · rw [if_pos q3, if_pos q3, if_pos g12, e0, if_pos ((gi_nI (n := i) (by omega)).mpr (by omega))]
    refine ⟨_, _, rfl, rfl, ?_, h0⟩
    show C.2.2.2.2.1.1 (nI i).toNatClampNeg = M.2.2.2.1 (nI i).toNatClampNeg
    rw [ei]; exact b1
  rw [if_neg q3, if_neg q3]
  by_cases q4 : x1 = 4
  · rw [if_pos q4, if_pos q4, if_pos g12, show (12 : Int32) = nI 12 from rfl, ea 12, if_pos ((gi_nI (n := 12 + i) (by omega)).mpr (by omega))]
    refine ⟨_, _, rfl, rfl, ?_, h0⟩
    show C.2.2.2.2.1.2.1 (nI i).toNatClampNeg = M.2.2.2.1 (nI (12 + i)).toNatClampNeg
    rw [ei, nI_clamp (by omega)]; exact b2
  rw [if_neg q4, if_neg q4]
  by_cases q5 : x1 = 5
  · rw [if_pos q5, if_pos q5, val_eq (by omega) b1 b2]
    exact ⟨_, _, rfl, rfl, rfl, h0⟩
  rw [if_neg q5, if_neg q5]
  by_cases q6 : x1 = 6
  · rw [if_pos q6, if_pos q6, if_pos g12, show (24 : Int32) = nI 24 from rfl, ea 24, if_pos ((gi_nI (n := 24 + i) (by omega)).mpr (by omega))]
    refine ⟨_, _, rfl, rfl, ?_, h0⟩
    show C.2.2.2.2.1.2.2.1 (nI i).toNatClampNeg = M.2.2.2.1 (nI (24 + i)).toNatClampNeg
    rw [ei, nI_clamp (by omega)]; exact b3
  rw [if_neg q6, if_neg q6]
  by_cases q7 : x1 = 7
  · rw [if_pos q7, if_pos q7, lev_eq hd12 hi hkq b1 b2 k1 k5 a4, show (36 : Int32) = nI 36 from rfl, ea 36, if_pos ((gi_nI (n := 36 + i) (by omega)).mpr (by omega)), nI_clamp (show 36 + i < 2 ^ 31 by omega), sens_eq (by omega) hkq k5, show (63 : Int32).toNatClampNeg = 63 from rfl, show (62 : Int32).toNatClampNeg = 62 from rfl, l1, l2]
    simp only [Option.bind_some]
    by_cases w1 : M.2.2.2.1 (36 + i) = 1
    · rw [if_pos w1, if_pos w1]; exact ⟨_, _, rfl, rfl, rfl, h0⟩
    · rw [if_neg w1, if_neg w1]
      by_cases w2 : kq < 2
      · rw [if_pos w2, if_pos w2, if_neg (show ¬ (1 : Int32) = 0 by decide)]
        by_cases w3 : vlE M.2.2.2.1 i < M.2.1 63
        · rw [if_pos w3, if_pos w3]
          by_cases w4 : vlE M.2.2.2.1 i < M.2.1 62
          · rw [if_pos w4, if_pos w4]; exact ⟨_, _, rfl, rfl, rfl, h0⟩
          · rw [if_neg w4, if_neg w4]; exact ⟨_, _, rfl, rfl, rfl, h0⟩
        · rw [if_neg w3, if_neg w3]; exact ⟨_, _, rfl, rfl, rfl, h0⟩
      · rw [if_neg w2, if_neg w2, if_pos (show (0 : Int32) = 0 from rfl)]; exact ⟨_, _, rfl, rfl, rfl, h0⟩
  rw [if_neg q7, if_neg q7]
  unfold f_X5_endsThatReach
  rw [z1]
  simp only [Option.bind_some]
  rw [stopA_eq hd12 z2 hi, stopB_eq hd12 z2 hi, stA_eq hd12 p2 hi, stB_eq hd12 p2 hi]
  simp only [Option.bind_some]
  generalize upS _ _ _ = A
  generalize dnS _ _ _ = B
  by_cases w1 : A = -4 <;> by_cases w2 : B = -4 <;> simp only [w1, w2, ↓reduceIte, Option.bind_some] <;> exact ⟨_, _, rfl, rfl, rfl, h0⟩
theorem dev_of0 {x : Int32} {d : Nat} (hd : d < 2 ^ 31) (h : ¬ wi x 0 (nI d - 1) = 0) : ∃ i, i < d ∧ x = nI i := by
  by_cases h0 : d = 0
  · subst h0
    exfalso
    have h1 : (0 : Int32) ≤ x ∧ x ≤ nI 0 - 1 := Classical.byContradiction fun z => h (wi0.mpr z)
    obtain ⟨q1, q2⟩ := h1
    rw [Int32.le_iff_toInt_le] at q1 q2
    have e1 : (nI 0 - 1).toInt = -1 := by decide
    have e2 : (0 : Int32).toInt = 0 := by decide
    omega
  · exact dev_of (by omega) hd h
/-! what an effect wants -/
def wnP (t : FN) (k z : Nat) : Bool := ((t (36 + 4 * k + 1)).toNatClampNeg).testBit z
def wnQ (t s : FN) (d k z : Nat) : Bool := wnP t k z && zf t s d z
def wnE (t s : FN) (d k : Nat) : Bool := if t (36 + 4 * k) = 0 then decide (0 < fb_ct (wnQ t s d k) 6) else if t (36 + 4 * k) = 1 then decide (fb_ct (wnQ t s d k) 6 = fb_ct (wnP t k) 6) else decide (1 < fb_ct (wnQ t s d k) 6)
theorem bz {F i : Nat} (hF : F < 2 ^ 31) (hi : i < 31) : (nI F >>> (nI i &&& 31)) &&& 1 = if F.testBit i then 1 else 0 := Option.some.inj (bit_nI hF hi)
theorem ct_all {P Q : Nat → Bool} {n : Nat} : fb_ct (fun z => P z && Q z) n = fb_ct P n ↔ ∀ z, z < n → (P z && Q z) = P z := by
  have h1 : fb_ct P n = fb_ct (fun z => P z && Q z) n + fb_ct (fun z => P z && !Q z) n := by
    rw [← fb_ct_or (fun k _ => by cases P k <;> cases Q k <;> simp)]
    exact fb_ct_cong (fun k _ => by cases P k <;> cases Q k <;> rfl)
  constructor
  · intro e z hz
    have h2 : fb_ct (fun z => P z && !Q z) n = 0 := by omega
    have h3 := fb_ct_zero.mp h2 z hz
    revert h3
    cases P z <;> cases Q z <;> simp
  · intro e
    have h2 : fb_ct (fun z => P z && !Q z) n = 0 := fb_ct_zero.mpr (fun z hz => by
      have := e z hz
      revert this
      cases P z <;> cases Q z <;> simp)
    omega
theorem wantsC_eq {ek ez t s : FN} {Z : Int32} {d k : Nat} (hk : k < 6) (h1 : ek k = t (36 + 4 * k)) (h2 : ez k = t (36 + 4 * k + 1)) (hS : ∃ S, S < 64 ∧ t (36 + 4 * k + 1) = nI S) (hZ : Bt Z 6 (fun z => zf t s d z)) : f_X1_wants ek ez (nI k) Z = some (if wnE t s d k then 1 else 0) := by
  obtain ⟨S, hS1, hS2⟩ := hS
  have g : gi (nI k) 6 := (gi_nI (by omega)).mpr hk
  have eS : (t (36 + 4 * k + 1)).toNatClampNeg = S := by rw [hS2, nI_clamp (by omega)]
  have hP : Bt (nI S) 6 (wnP t k) := ⟨S, by omega, rfl, fun i _ => by unfold wnP; rw [eS]⟩
  have hQ : Bt (nI S &&& Z) 6 (wnQ t s d k) := hP.and hZ
  unfold f_X1_wants wnE
  rw [if_pos g, if_pos g, if_pos g, nI_clamp (by omega), h1, h2, hS2, hQ.count (by omega)]
  simp only [Option.bind_some]
  by_cases c0 : t (36 + 4 * k) = 0
  · rw [if_pos c0, if_pos c0]
    by_cases c : nI S &&& Z = 0
    · have hz : ¬ 0 < fb_ct (wnQ t s d k) 6 := by rw [fb_ct_zero.mpr ((hQ.eq0 (by omega)).mp c)]; omega
      rw [if_pos c]; simp [hz]
    · have hz : 0 < fb_ct (wnQ t s d k) 6 := Nat.pos_of_ne_zero (fun e => c ((hQ.eq0 (by omega)).mpr (fb_ct_zero.mp e)))
      rw [if_neg c]; simp [hz]
  · rw [if_neg c0, if_neg c0]
    by_cases c1 : t (36 + 4 * k) = 1
    · rw [if_pos c1, if_pos c1]
      have hz : (nI S &&& Z = nI S) ↔ fb_ct (wnQ t s d k) 6 = fb_ct (wnP t k) 6 := by
        rw [hQ.eq hP (by omega)]
        exact ct_all.symm
      by_cases c : nI S &&& Z = nI S
      · rw [if_pos c]; simp [hz.mp c]
      · have := fun e => c (hz.mpr e)
        rw [if_neg c, decide_eq_false this]; rfl
    · rw [if_neg c1, if_neg c1]
      have hl := fb_ct_le (wnQ t s d k) 6
      by_cases c : fb_ct (wnQ t s d k) 6 < 2
      · have hz : ¬ 1 < fb_ct (wnQ t s d k) 6 := by omega
        rw [if_pos (show nI (fb_ct (wnQ t s d k) 6) < (2 : Int32) from nI_lt (b := 2) c (by decide))]; simp [hz]
      · have hz : 1 < fb_ct (wnQ t s d k) 6 := by omega
        rw [if_neg (show ¬ nI (fb_ct (wnQ t s d k) 6) < (2 : Int32) from nI_nlt (b := 2) (by omega) (by omega))]; simp [hz]
theorem wantsM_loop {t s : FN} {d k S : Nat} (hd : d ≤ 12) (ht : t 60 = nI d) (hk : k < 6) (hS1 : S < 64) (hS2 : t (36 + 4 * k + 1) = nI S) : ∀ (r n v : Nat), v + r = 6 → r < n → f_X6_isWanted_22 t s (nI k) n (nI (fb_ct (wnP t k) v)) (nI (fb_ct (wnQ t s d k) v)) (nI v) = some (nI (fb_ct (wnP t k) 6), nI (fb_ct (wnQ t s d k) 6)) := by
  have eS : (t (36 + 4 * k + 1)).toNatClampNeg = S := by rw [hS2, nI_clamp (by omega)]
  have e1 : (36 : Int32) + 4 * nI k + 1 = nI (36 + 4 * k + 1) := by rw [show (4 : Int32) = nI 4 from rfl, show (36 : Int32) = nI 36 from rfl, pk_mul, nI_add, nI1]
  intro r
  induction r with
  | zero =>
    intro n v h1 h2
    obtain ⟨n, rfl⟩ : ∃ k, n = k + 1 := ⟨n - 1, by omega⟩
    rw [f_X6_isWanted_22, if_pos (show (6 : Int32) ≤ nI v from nI_le (a := 6) (by omega) (by omega)), show v = 6 by omega]
  | succ r ih =>
    intro n v h1 h2
    obtain ⟨n, rfl⟩ : ∃ k, n = k + 1 := ⟨n - 1, by omega⟩
    have hi := ih n (v + 1) (by omega) (by omega)
    rw [fb_ct_succ _ v, fb_ct_succ _ v] at hi
    rw [f_X6_isWanted_22, if_neg (show ¬ (6 : Int32) ≤ nI v from nI_ge (b := 6) (by omega) (by omega)), e1, nI_clamp (by omega), hS2, bz (by omega) (by omega), isZone_eq t s hd (by omega) ht, nI1]
    simp only [Option.bind_some]
    have hPv : S.testBit v = wnP t k v := by unfold wnP; rw [eS]
    rw [hPv]
    cases q : wnP t k v with
    | false =>
      have hQ : wnQ t s d k v = false := by unfold wnQ; rw [q]; rfl
      rw [q, hQ] at hi
      rw [if_neg (show ¬ (if false = true then (1 : Int32) else 0) = 1 by decide), show (if false = true then (1 : Int32) else 0) = nI 0 from rfl, show (0 : Int32) = nI 0 from rfl, nI_add, nI_add]
      exact hi
    | true =>
      rw [if_pos (show (if true = true then (1 : Int32) else 0) = 1 by decide), show (if true = true then (1 : Int32) else 0) = nI 1 from rfl]
      cases z : zf t s d v with
      | false =>
        have hQ : wnQ t s d k v = false := by unfold wnQ; rw [q, z]; rfl
        rw [q, hQ] at hi
        rw [if_pos (show (if false = true then (1 : Int32) else 0) = 0 by decide), show (0 : Int32) = nI 0 from rfl, nI_add, nI_add]
        exact hi
      | true =>
        have hQ : wnQ t s d k v = true := by unfold wnQ; rw [q, z]; rfl
        rw [q, hQ] at hi
        rw [if_neg (show ¬ (if true = true then (1 : Int32) else 0) = 0 by decide), show (1 : Int32) = nI 1 from rfl, nI_add, nI_add]
        exact hi
theorem wantsM_eq {t s : FN} {d k : Nat} (hd : d ≤ 12) (ht : t 60 = nI d) (hk : k < 6) (hS : ∃ S, S < 64 ∧ t (36 + 4 * k + 1) = nI S) : f_X6_isWanted t s (nI k) = some (if wnE t s d k then 1 else 0) := by
  obtain ⟨S, hS1, hS2⟩ := hS
  have e1 : (36 : Int32) + 4 * nI k + 1 = nI (36 + 4 * k + 1) := by rw [show (4 : Int32) = nI 4 from rfl, show (36 : Int32) = nI 36 from rfl, pk_mul, nI_add, nI1]
  have e0 : (36 : Int32) + 4 * nI k = nI (36 + 4 * k) := by rw [show (4 : Int32) = nI 4 from rfl, show (36 : Int32) = nI 36 from rfl, pk_mul, nI_add]
  have hl := wantsM_loop (s := s) hd ht hk hS1 hS2 6 1000 0 (by omega) (by omega)
  rw [show nI (fb_ct (wnP t k) 0) = (0 : Int32) from rfl, show nI (fb_ct (wnQ t s d k) 0) = (0 : Int32) from rfl, show nI 0 = (0 : Int32) from rfl] at hl
  unfold f_X6_isWanted wnE
  rw [e1, if_pos ((gi_nI (by omega)).mpr (by omega)), hl]
  simp only [Option.bind_some]
  rw [e0, if_pos ((gi_nI (by omega)).mpr (by omega)), nI_clamp (by omega)]
  have l1 := fb_ct_le (wnQ t s d k) 6
  have l2 := fb_ct_le (wnP t k) 6
  by_cases c0 : t (36 + 4 * k) = 0
  · rw [if_pos c0, if_pos c0]
    by_cases c : 0 < fb_ct (wnQ t s d k) 6
    · rw [if_neg (nI_nle (by omega) (by omega))]; simp [c]
    · rw [if_pos (show nI (fb_ct (wnQ t s d k) 6) ≤ (0 : Int32) from nI_le (b := 0) (by omega) (by decide))]; simp [c]
  · rw [if_neg c0, if_neg c0]
    by_cases c1 : t (36 + 4 * k) = 1
    · rw [if_pos c1, if_pos c1]
      by_cases c : fb_ct (wnQ t s d k) 6 = fb_ct (wnP t k) 6
      · rw [if_pos (by rw [c])]; simp [c]
      · rw [if_neg (fun e => c ((nI_eq (by omega) (by omega)).mp e))]; simp [c]
    · rw [if_neg c1, if_neg c1]
      by_cases c : 1 < fb_ct (wnQ t s d k) 6
      · rw [if_neg (show ¬ nI (fb_ct (wnQ t s d k) 6) ≤ (1 : Int32) from nI_ge (a := 1) (by omega) (by omega))]; simp [c]
      · rw [if_pos (show nI (fb_ct (wnQ t s d k) 6) ≤ (1 : Int32) from nI_le (b := 1) (by omega) (by decide))]; simp [c]
theorem ok_effect (x0 x1 : Int32) : OK1 Rel (fun C => rs_effect C x0 x1) (fun M => ms_effect M x0 x1) := by
  intro C M h
  have h0 := h
  obtain ⟨n, k0, d, e, hn, hk, ⟨m1, m2⟩, hPl, hSt, hp⟩ := h
  obtain ⟨⟨hd1, hd12, he6⟩, ⟨p1, p2, p3, p4⟩, hdev, hiso, hef, hsnd, -⟩ := id hPl
  obtain ⟨a1, a2, a3, a4, a5, a6, a7, a8, a9, a10, -⟩ := id hSt
  obtain ⟨Z, z1, z2⟩ := zones_eq hd12 a4 (fun i hi => ⟨(hdev i hi).2.1, (hdev i hi).2.2.1⟩)
  show ∃ o q, rs_effect C x0 x1 = some o ∧ ms_effect M x0 x1 = some q ∧ _
  unfold rs_effect ms_effect f_X5_effect f_X6_effect
  rw [show (61 : Int32).toNatClampNeg = 61 from rfl, p1, p3, p4, z1, within_eq, in_eq x0 0 (nI e - 1) (by decide) rfl, within_eq, in_eq x1 0 7 (by decide) (by decide)]
  simp only [Option.bind_some]
  by_cases c : wi x0 0 (nI e - 1) = 0
  · rw [if_pos c, if_pos c]; exact ⟨_, _, rfl, rfl, rfl, h0⟩
  rw [if_neg c, if_neg c]
  by_cases c1 : wi x1 0 7 = 0
  · rw [if_pos c1, if_pos c1]; exact ⟨_, _, rfl, rfl, rfl, h0⟩
  rw [if_neg c1, if_neg c1]
  obtain ⟨k, hk6, rfl⟩ := dev_of0 (by omega) c
  have g6 : gi (nI k) 6 := (gi_nI (by omega)).mpr (by omega)
  have ei : (nI k).toNatClampNeg = k := nI_clamp (by omega)
  obtain ⟨k1, k2, k3, k4, k5⟩ := hef k hk6
  have e3 : ∀ j : Nat, (36 : Int32) + 4 * nI k + nI j = nI (36 + 4 * k + j) := fun j => by rw [show (4 : Int32) = nI 4 from rfl, show (36 : Int32) = nI 36 from rfl, pk_mul, nI_add, nI_add]
  have ea : ∀ j : Nat, nI j + nI k = nI (j + k) := fun j => nI_add j k
  by_cases q0 : x1 = 0
  · rw [if_pos q0, if_pos q0, if_pos g6, show x1 = nI 0 from q0, e3 0, if_pos ((gi_nI (by omega)).mpr (by omega))]
    refine ⟨_, _, rfl, rfl, ?_, h0⟩
    show C.2.2.1.2.2.1 (nI k).toNatClampNeg = M.2.1 (nI (36 + 4 * k + 0)).toNatClampNeg
    rw [ei, nI_clamp (by omega)]; exact k1
  rw [if_neg q0, if_neg q0]
  by_cases q1 : x1 = 1
  · rw [if_pos q1, if_pos q1, if_pos g6, show x1 = nI 1 from q1, e3 1, if_pos ((gi_nI (by omega)).mpr (by omega))]
    refine ⟨_, _, rfl, rfl, ?_, h0⟩
    show C.2.2.1.2.2.2.1 (nI k).toNatClampNeg = M.2.1 (nI (36 + 4 * k + 1)).toNatClampNeg
    rw [ei, nI_clamp (by omega)]; exact k2
  rw [if_neg q1, if_neg q1]
  by_cases q2 : x1 = 2
  · rw [if_pos q2, if_pos q2, if_pos g6, show x1 = nI 2 from q2, e3 2, if_pos ((gi_nI (by omega)).mpr (by omega))]
    refine ⟨_, _, rfl, rfl, ?_, h0⟩
    show C.2.2.1.2.2.2.2.1 (nI k).toNatClampNeg = M.2.1 (nI (36 + 4 * k + 2)).toNatClampNeg
    rw [ei, nI_clamp (by omega)]; exact k3
  rw [if_neg q2, if_neg q2]
  by_cases q3 : x1 = 3
  · rw [if_pos q3, if_pos q3, hsnd.bit (by omega) hk6, show x1 = nI 3 from q3, e3 3, if_pos ((gi_nI (by omega)).mpr (by omega))]
    refine ⟨_, _, rfl, rfl, ?_, h0⟩
    show (if (decide (M.2.1 (36 + 4 * k + 3) = 1)) = true then (1 : Int32) else 0) = M.2.1 (nI (36 + 4 * k + 3)).toNatClampNeg
    rw [nI_clamp (by omega)]
    rcases k5 with z | z <;> rw [z] <;> rfl
  rw [if_neg q3, if_neg q3]
  by_cases q4 : x1 = 4
  · rw [if_pos q4, if_pos q4, wantsC_eq (by omega) k1 k2 k4 z2, wantsM_eq hd12 p2 (by omega) k4]
    simp only [Option.bind_some]
    cases wnE M.2.1 M.2.2.2.1 d k <;> exact ⟨_, _, rfl, rfl, rfl, h0⟩
  rw [if_neg q4, if_neg q4]
  by_cases q5 : x1 = 5
  · rw [if_pos q5, if_pos q5, if_pos g6, show (61 : Int32) = nI 61 from rfl, ea 61, if_pos ((gi_nI (n := 61 + k) (by omega)).mpr (by omega))]
    refine ⟨_, _, rfl, rfl, ?_, h0⟩
    show C.2.2.2.2.1.2.2.2.1 (nI k).toNatClampNeg = M.2.2.2.1 (nI (61 + k)).toNatClampNeg
    rw [ei, nI_clamp (by omega)]; exact a2 k (by omega)
  rw [if_neg q5, if_neg q5]
  by_cases q6 : x1 = 6
  · rw [if_pos q6, if_pos q6, a9.bit (by omega) hk6, show (67 : Int32) = nI 67 from rfl, ea 67, if_pos ((gi_nI (n := 67 + k) (by omega)).mpr (by omega))]
    refine ⟨_, _, rfl, rfl, ?_, h0⟩
    show (if (decide (M.2.2.2.1 (67 + k) = 1)) = true then (1 : Int32) else 0) = M.2.2.2.1 (nI (67 + k)).toNatClampNeg
    rw [nI_clamp (by omega)]
    rcases (a8 k (by omega)).1 with z | ⟨z, -⟩ <;> rw [z] <;> rfl
  rw [if_neg q6, if_neg q6, a10.bit (by omega) hk6, show (73 : Int32) = nI 73 from rfl, ea 73, if_pos ((gi_nI (n := 73 + k) (by omega)).mpr (by omega))]
  refine ⟨_, _, rfl, rfl, ?_, h0⟩
  show (if (decide (M.2.2.2.1 (73 + k) = 1)) = true then (1 : Int32) else 0) = M.2.2.2.1 (nI (73 + k)).toNatClampNeg
  rw [nI_clamp (by omega)]
  rcases (a8 k (by omega)).2 with z | ⟨z, -⟩ <;> rw [z] <;> rfl
theorem cz_loop {t s : FN} {d : Nat} (hd : d ≤ 12) (ht : t 60 = nI d) : ∀ (r n v : Nat), v + r = 6 → r < n → f_X6_count_4 t s n (nI (fb_ct (fun z => zf t s d z) v)) (nI v) = some (nI (fb_ct (fun z => zf t s d z) 6)) := by
  intro r
  induction r with
  | zero =>
    intro n v h1 h2
    obtain ⟨n, rfl⟩ : ∃ k, n = k + 1 := ⟨n - 1, by omega⟩
    rw [f_X6_count_4, if_pos (show (6 : Int32) ≤ nI v from nI_le (a := 6) (by omega) (by omega)), show v = 6 by omega]
  | succ r ih =>
    intro n v h1 h2
    obtain ⟨n, rfl⟩ : ∃ k, n = k + 1 := ⟨n - 1, by omega⟩
    have hi := ih n (v + 1) (by omega) (by omega)
    rw [fb_ct_succ _ v] at hi
    rw [f_X6_count_4, if_neg (show ¬ (6 : Int32) ≤ nI v from nI_ge (b := 6) (by omega) (by omega)), isZone_eq t s hd (by omega) ht, nI1]
    simp only [Option.bind_some]
    cases z : zf t s d v with
    | false =>
      simp only [z] at hi
      rw [if_pos (show (if false = true then (1 : Int32) else 0) = 0 by decide), show (0 : Int32) = nI 0 from rfl, nI_add]
      exact hi
    | true =>
      simp only [z] at hi
      rw [if_neg (show ¬ (if true = true then (1 : Int32) else 0) = 0 by decide), nI1]
      exact hi
theorem ok_count (x0 : Int32) : OK1 Rel (fun C => rs_count C x0) (fun M => ms_count M x0) := by
  intro C M h
  have h0 := h
  obtain ⟨n, k0, d, e, ⟨hn, hn1, hn2, -⟩, ⟨hk, hk1, hk2⟩, ⟨m1, m2⟩, hPl, hSt, hp⟩ := h
  obtain ⟨⟨hd1, hd12, he6⟩, ⟨p1, p2, p3, p4⟩, hdev, hiso, hef, hsnd, -⟩ := id hPl
  obtain ⟨a1, a2, a3, a4, a5, a6, a7, a8, a9, a10, a11, ⟨a12, a13, -⟩, -⟩ := id hSt
  obtain ⟨Z, z1, z2⟩ := zones_eq hd12 a4 (fun i hi => ⟨(hdev i hi).2.1, (hdev i hi).2.2.1⟩)
  obtain ⟨Y, y1, y2⟩ := lost_eq hd12 (isoE0 hd12 hiso) (cutE0 hd12 a6) (shE0 hd12 a7)
  obtain ⟨cf, hcf, f1, f2, f3⟩ := sum_bits (a := 36) (m := 12) (by omega) hd12 hd12 a3 a4
  obtain ⟨co, hco, o1, o2, o3⟩ := sum_bits (a := 67) (m := 6) (by omega) he6 (by omega) (fun j hj => (a8 j hj).1) a9
  obtain ⟨cs, hcs, s1, s2, s3⟩ := sum_bits (a := 73) (m := 6) (by omega) he6 (by omega) (fun j hj => (a8 j hj).2) a10
  have hB : Bt ((C.2.2.2.2.1.2.2.2.2.2.2.2.2.1 &&& C.2.2.1.2.2.2.2.2.2.2.2.1) &&& (C.2.2.2.2.1.2.2.2.2.2.2.2.2.2.1 ^^^ (-1))) e (isS M.2.1 M.2.2.2.1) := by
    refine ((a9.and hsnd).diff a10).cong (fun j hj => ?_)
    unfold isS
    rcases (a8 j (by omega)).2 with q | ⟨q, -⟩
    · rw [q]; cases decide (M.2.2.2.1 (67 + j) = 1) <;> cases decide (M.2.1 (36 + 4 * j + 3) = 1) <;> rfl
    · rw [q]; cases decide (M.2.2.2.1 (67 + j) = 1) <;> cases decide (M.2.1 (36 + 4 * j + 3) = 1) <;> rfl
  have hz := cz_loop (s := M.2.2.2.1) hd12 p2 6 1000 0 (by omega) (by omega)
  rw [show nI (fb_ct (fun z => zf M.2.1 M.2.2.2.1 d z) 0) = (0 : Int32) from rfl, show nI 0 = (0 : Int32) from rfl] at hz
  show ∃ o q, rs_count C x0 = some o ∧ ms_count M x0 = some q ∧ _
  unfold rs_count ms_count f_X5_count f_X6_count f_X5_lostNow f_X5_soundsThatSound
  rw [hz, p1, p3, m1, m2, hn1, hn2, hk1, hk2, a12, a13, z1, y1, f1, o1, s1, many_eq hd12 p2, snd_eq _ _ he6 p4, show (36 : Int32) = nI 36 from rfl, show (12 : Int32) = nI 12 from rfl, f2, show (67 : Int32) = nI 67 from rfl, show (6 : Int32) = nI 6 from rfl, o2, show (73 : Int32) = nI 73 from rfl, s2, show (60 : Int32).toNatClampNeg = 60 from rfl, show (61 : Int32).toNatClampNeg = 61 from rfl, show (86 : Int32).toNatClampNeg = 86 from rfl, show (85 : Int32).toNatClampNeg = 85 from rfl, p2, p4]
  simp only [Option.bind_some]
  rw [hB.count (by omega), y2.count hd12, z2.count (by omega)]
  simp only [Option.bind_some]
  by_cases q0 : x0 = 0
  · rw [if_pos q0]; exact ⟨_, _, rfl, rfl, rfl, h0⟩
  rw [if_neg q0]
  by_cases q1 : x0 = 1
  · rw [if_pos q1]; exact ⟨_, _, rfl, rfl, rfl, h0⟩
  rw [if_neg q1]
  by_cases q2 : x0 = 2
  · rw [if_pos q2]; exact ⟨_, _, rfl, rfl, rfl, h0⟩
  rw [if_neg q2]
  by_cases q3 : x0 = 3
  · rw [if_pos q3]; exact ⟨_, _, rfl, rfl, rfl, h0⟩
  rw [if_neg q3]
  by_cases q4 : x0 = 4
  · rw [if_pos q4]; exact ⟨_, _, rfl, rfl, rfl, h0⟩
  rw [if_neg q4]
  by_cases q5 : x0 = 5
  · rw [if_pos q5]; exact ⟨_, _, rfl, rfl, rfl, h0⟩
  rw [if_neg q5]
  by_cases q6 : x0 = nI 6
  · rw [if_pos q6]; exact ⟨_, _, rfl, rfl, rfl, h0⟩
  rw [if_neg q6]
  by_cases q7 : x0 = 7
  · rw [if_pos q7]; exact ⟨_, _, rfl, rfl, rfl, h0⟩
  rw [if_neg q7]
  by_cases q8 : x0 = 8
  · rw [if_pos q8]; exact ⟨_, _, rfl, rfl, rfl, h0⟩
  rw [if_neg q8]
  by_cases q9 : x0 = 9
  · rw [if_pos q9]; exact ⟨_, _, rfl, rfl, rfl, h0⟩
  rw [if_neg q9]
  by_cases qa : x0 = 10
  · rw [if_pos qa]; exact ⟨_, _, rfl, rfl, rfl, h0⟩
  rw [if_neg qa]
  by_cases qb : x0 = 11
  · rw [if_pos qb]; exact ⟨_, _, rfl, rfl, rfl, h0⟩
  rw [if_neg qb]
  exact ⟨_, _, rfl, rfl, rfl, h0⟩
