/-! PURE: zone -/
theorem din_loop {zoneOf t : FN} {d z : Nat} (hd : d ≤ 12) (hz : ∀ i, i < d → zoneOf i = t (3 * i + 1)) : ∀ (r n v : Nat) (D : Int32), v + r = d → r < n → Bt D d (fun i => decide (i < v) && decide (t (3 * i + 1) = nI z)) → ∃ D', f_X1_devicesIn_4 (nI d) zoneOf (nI z) n D (nI v) = some D' ∧ Bt D' d (fun i => decide (t (3 * i + 1) = nI z)) := by
  intro r
  induction r with
  | zero =>
    intro n v D h1 h2 hD
    obtain ⟨n, rfl⟩ : ∃ k, n = k + 1 := ⟨n - 1, by omega⟩
    rw [f_X1_devicesIn_4, if_pos (nI_le (by omega) (by omega))]
    exact ⟨D, rfl, hD.cong (fun i hi => by simp [show i < v by omega])⟩
  | succ r ih =>
    intro n v D h1 h2 hD
    obtain ⟨n, rfl⟩ : ∃ k, n = k + 1 := ⟨n - 1, by omega⟩
    rw [f_X1_devicesIn_4, if_neg (nI_ge (by omega) (by omega)), if_pos ((gi_nI (by omega)).mpr (by omega)), nI_clamp (by omega), hz v (by omega), nI1]
    by_cases q : t (3 * v + 1) = nI z
    · rw [if_pos q]
      refine ih n (v + 1) _ (by omega) (by omega) ((hD.setb (i := v) (by omega) (by omega)).cong (fun j hj => ?_))
      by_cases e : j = v
      · subst e; simp [q]
      · have : (j < v + 1) = (j < v) := by apply propext; omega
        simp [e, this]
    · rw [if_neg q, or0]
      refine ih n (v + 1) _ (by omega) (by omega) (hD.cong (fun j hj => ?_))
      by_cases e : j = v
      · subst e; simp [q]
      · have : (j < v + 1) = (j < v) := by apply propext; omega
        simp [this]
theorem din_eq {zoneOf t : FN} {d z : Nat} (hd : d ≤ 12) (hz : ∀ i, i < d → zoneOf i = t (3 * i + 1)) : ∃ D, f_X1_devicesIn (nI d) zoneOf (nI z) = some D ∧ Bt D d (fun i => decide (t (3 * i + 1) = nI z)) := by
  obtain ⟨D, h1, h2⟩ := din_loop (z := z) hd hz d 1000 0 0 (by omega) (by omega) ((Bt.zero d).cong (fun i _ => by simp))
  unfold f_X1_devicesIn
  rw [show nI 0 = (0 : Int32) from rfl] at h1
  rw [h1]
  exact ⟨D, rfl, h2⟩
theorem inz_loop {t s : FN} {d z w : Nat} {P : Nat → Bool} (hd : d ≤ 12) (ht : t 60 = nI d) (hw : (w = 3 ∧ ∀ i, P i = true) ∨ (w = 4 ∧ P = lostB (isoE t (-1)) (cutE s (-1)) (shE s (-1)) d) ∨ (w = 5 ∧ ∀ i, P i = decide (s (36 + i) = 1))) : ∀ (r n v : Nat), v + r = d → r < n → f_X6_inZone_5 (-1) (-1) t s (nI z) (nI w) n (nI (fb_ct (fun i => decide (t (3 * i + 1) = nI z) && P i) v)) (nI v) = some (nI (fb_ct (fun i => decide (t (3 * i + 1) = nI z) && P i) d)) := by
  intro r
  induction r with
  | zero =>
    intro n v h1 h2
    obtain ⟨n, rfl⟩ : ∃ k, n = k + 1 := ⟨n - 1, by omega⟩
    rw [f_X6_inZone_5, show (60 : Int32).toNatClampNeg = 60 from rfl, ht, if_pos (nI_le (by omega) (by omega)), show v = d by omega]
  | succ r ih =>
    intro n v h1 h2
    obtain ⟨n, rfl⟩ : ∃ k, n = k + 1 := ⟨n - 1, by omega⟩
    have hi := ih n (v + 1) (by omega) (by omega)
    rw [fb_ct_succ _ v] at hi
    have e1 : (3 : Int32) * nI v + 1 = nI (3 * v + 1) := by rw [show (3 : Int32) = nI 3 from rfl, pk_mul, nI1]
    have e2 : (36 : Int32) + nI v = nI (36 + v) := nI_add 36 v
    have ez : ∀ c : Nat, nI c + 0 = nI c := fun c => by rw [show (0 : Int32) = nI 0 from rfl, nI_add, Nat.add_zero]
    rw [f_X6_inZone_5, show (60 : Int32).toNatClampNeg = 60 from rfl, ht, if_neg (nI_ge (by omega) (by omega)), e1, if_pos ((gi_nI (by omega)).mpr (by omega)), nI_clamp (by omega), nI1 v, nI1 (fb_ct _ v), ez]
    by_cases q : t (3 * v + 1) = nI z
    · rw [if_pos q]
      simp only [Option.bind_some]
      rw [if_neg (show ¬ (1 : Int32) = 0 by decide)]
      rcases hw with ⟨rfl, hP⟩ | ⟨rfl, rfl⟩ | ⟨rfl, hP⟩
      · rw [if_pos (show nI 3 = (3 : Int32) from rfl)]
        simp only [q, hP, decide_true, Bool.and_self, ↓reduceIte] at hi ⊢
        exact hi
      · rw [if_neg (show ¬ nI 4 = (3 : Int32) by decide), if_pos (show nI 4 = (4 : Int32) from rfl), isLost_eq hd ht (by omega)]
        simp only [Option.bind_some]
        cases g : lostB (isoE t (-1)) (cutE s (-1)) (shE s (-1)) d v with
        | false =>
          rw [if_pos (show (if false = true then (1 : Int32) else 0) = 0 by decide), if_neg (show ¬ nI 4 = (5 : Int32) by decide)]
          simp only [q, g, Bool.and_false, Bool.false_eq_true, ↓reduceIte, Nat.add_zero] at hi
          exact hi
        | true =>
          rw [if_neg (show ¬ (if true = true then (1 : Int32) else 0) = 0 by decide)]
          simp only [q, g, decide_true, Bool.and_self, ↓reduceIte] at hi
          exact hi
      · rw [if_neg (show ¬ nI 5 = (3 : Int32) by decide), if_neg (show ¬ nI 5 = (4 : Int32) by decide), if_pos (show nI 5 = (5 : Int32) from rfl), e2, if_pos ((gi_nI (by omega)).mpr (by omega)), nI_clamp (by omega)]
        by_cases g : s (36 + v) = 1
        · rw [if_pos g]
          have hPv : P v = true := by rw [hP]; exact decide_eq_true g
          simp only [q, hPv, decide_true, Bool.and_self, ↓reduceIte] at hi
          exact hi
        · rw [if_neg g]
          have hPv : P v = false := by rw [hP]; exact decide_eq_false g
          simp only [q, hPv, Bool.and_false, Bool.false_eq_true, ↓reduceIte, Nat.add_zero] at hi
          exact hi
    · rw [if_neg q]
      simp only [Option.bind_some]
      rw [if_pos trivial]
      simp only [q, decide_false, Bool.false_and, Bool.false_eq_true, ↓reduceIte, Nat.add_zero] at hi
      exact hi
theorem inz_eq {t s : FN} {d z w : Nat} {P : Nat → Bool} (hd : d ≤ 12) (ht : t 60 = nI d) (hw : (w = 3 ∧ ∀ i, P i = true) ∨ (w = 4 ∧ P = lostB (isoE t (-1)) (cutE s (-1)) (shE s (-1)) d) ∨ (w = 5 ∧ ∀ i, P i = decide (s (36 + i) = 1))) : f_X6_inZone (-1) (-1) t s (nI z) (nI w) = some (nI (fb_ct (fun i => decide (t (3 * i + 1) = nI z) && P i) d)) := by
  unfold f_X6_inZone
  have h := inz_loop (z := z) hd ht hw d 1000 0 (by omega) (by omega)
  rw [show nI (fb_ct (fun i => decide (t (3 * i + 1) = nI z) && P i) 0) = (0 : Int32) from rfl, show nI 0 = (0 : Int32) from rfl] at h
  rw [h]; rfl
/-! for how long; who leaves -/
def siE (t s : FN) (d z : Nat) : Int32 := if zf t s d z then s 86 - s (79 + z) else -1
theorem since_in {t s : FN} {d z : Nat} (hd : d ≤ 12) (ht : t 60 = nI d) (hz : z < 6) : f_X6_since t s (nI z) = some (siE t s d z) := by
  unfold f_X6_since siE
  have hw : wi (nI z) 0 5 = 1 := wi_yes (a := 0) (b := 5) (by omega) (by omega) (by decide)
  rw [in_eq (nI z) 0 5 (by decide) (by decide), hw, isZone_eq t s hd (by omega) ht]
  simp only [Option.bind_some]
  rw [if_neg (show ¬ (1 : Int32) = 0 by decide)]
  have e1 : (79 : Int32) + nI z = nI (79 + z) := nI_add 79 z
  rw [e1, if_pos ((gi_nI (by omega)).mpr (by omega)), nI_clamp (by omega)]
  cases zf t s d z <;> rfl
theorem since_out {t s : FN} {x : Int32} (h : wi x 0 5 = 0) : f_X6_since t s x = some (-1) := by
  unfold f_X6_since
  rw [in_eq x 0 5 (by decide) (by decide), h]; rfl
theorem lv_loop {t s : FN} {d : Nat} (hd : d ≤ 12) (ht : t 60 = nI d) : ∀ (r n v : Nat), v + r = 6 → r < n → f_X6_leave_13 t s n (if anyb (fun o => !decide (siE t s d o < 2 * t 66)) v then 1 else 0) (nI v) = some (if anyb (fun o => !decide (siE t s d o < 2 * t 66)) 6 then 1 else 0) := by
  intro r
  induction r with
  | zero =>
    intro n v h1 h2
    obtain ⟨n, rfl⟩ : ∃ k, n = k + 1 := ⟨n - 1, by omega⟩
    rw [f_X6_leave_13, if_pos (show (6 : Int32) ≤ nI v from nI_le (a := 6) (by omega) (by omega)), show v = 6 by omega]
  | succ r ih =>
    intro n v h1 h2
    obtain ⟨n, rfl⟩ : ∃ k, n = k + 1 := ⟨n - 1, by omega⟩
    have hi := ih n (v + 1) (by omega) (by omega)
    have ea : anyb (fun o => !decide (siE t s d o < 2 * t 66)) (v + 1) = (anyb (fun o => !decide (siE t s d o < 2 * t 66)) v || !decide (siE t s d v < 2 * t 66)) := rfl
    rw [ea] at hi
    rw [f_X6_leave_13, if_neg (show ¬ (6 : Int32) ≤ nI v from nI_ge (b := 6) (by omega) (by omega)), since_in hd ht (by omega), show (66 : Int32).toNatClampNeg = 66 from rfl, nI1]
    simp only [Option.bind_some]
    cases a : anyb (fun o => !decide (siE t s d o < 2 * t 66)) v with
    | false =>
      rw [a] at hi
      rw [if_pos (show (if false = true then (1 : Int32) else 0) = 0 by decide)]
      by_cases q : siE t s d v < 2 * t 66
      · rw [if_pos q]
        simpa [q] using hi
      · rw [if_neg q]
        simpa [q] using hi
    | true =>
      rw [a] at hi
      rw [if_neg (show ¬ (if true = true then (1 : Int32) else 0) = 0 by decide)]
      simpa using hi
/-- a zone next to z, in fire for a phase and more -/
def nxE (t s : FN) (d z k : Nat) : Bool := zf t s d k && ((decide (k + 1 = z) || decide (k = z + 1)) && !decide (s 86 - s (79 + k) < t 66))
def b3E (t s : FN) (d k : Nat) : Bool := zf t s d k && !decide (s 86 - s (79 + k) < 2 * t 66)
theorem cond3 {z k : Nat} (hz : z < 6) (hk : k < 6) : (if nI k = nI z - 1 then some (1 : Int32) else (if nI k = nI z + 1 then some 1 else some 0)) = some (if (decide (k + 1 = z) || decide (k = z + 1)) = true then 1 else 0) := by
  have h1 : (nI k = nI z - 1) ↔ k + 1 = z := by
    by_cases h0 : z = 0
    · subst h0
      have : nI 0 - 1 = (-1 : Int32) := by decide
      rw [this]
      exact ⟨fun e => absurd e (nI_m1 (by omega)), fun e => absurd e (by omega)⟩
    · obtain ⟨y, rfl⟩ : ∃ y, z = y + 1 := ⟨z - 1, by omega⟩
      rw [nI_pred, nI_eq (by omega) (by omega)]
      omega
  have h2 : (nI k = nI z + 1) ↔ k = z + 1 := by rw [nI1, nI_eq (by omega) (by omega)]
  by_cases c1 : k + 1 = z
  · rw [if_pos (h1.mpr c1)]; simp [c1]
  · rw [if_neg (fun e => c1 (h1.mp e))]
    by_cases c2 : k = z + 1
    · rw [if_pos (h2.mpr c2)]; simp [c2]
    · rw [if_neg (fun e => c2 (h2.mp e))]; simp [c1, c2]
theorem ph_loop {t s cm : FN} {d z : Nat} {B : Int32} (hz : z < 6) (hB : Bt B 6 (fun z => zf t s d z)) (hcm : ∀ z, z < 6 → zf t s d z = true → cm z = s (79 + z)) : ∀ (r n v : Nat), v + r = 6 → r < n → f_X3_phaseToLeave_23 (s 86) cm (t 66) (nI z) n B (if anyb (b3E t s d) v then 3 else 0) (nI v) = some (if anyb (fun i => nxE t s d z (v + i)) r then 2 else if anyb (b3E t s d) 6 then 3 else 0) := by
  intro r
  induction r with
  | zero =>
    intro n v h1 h2
    obtain ⟨n, rfl⟩ : ∃ k, n = k + 1 := ⟨n - 1, by omega⟩
    rw [f_X3_phaseToLeave_23, if_pos (show (6 : Int32) ≤ nI v from nI_le (a := 6) (by omega) (by omega)), show v = 6 by omega]; rfl
  | succ r ih =>
    intro n v h1 h2
    obtain ⟨n, rfl⟩ : ∃ k, n = k + 1 := ⟨n - 1, by omega⟩
    have hi := ih n (v + 1) (by omega) (by omega)
    have ea : anyb (b3E t s d) (v + 1) = (anyb (b3E t s d) v || b3E t s d v) := rfl
    have ec : (fun i => nxE t s d z (v + 1 + i)) = (fun i => nxE t s d z (v + (i + 1))) := by funext i; rw [show v + 1 + i = v + (i + 1) by omega]
    rw [ea, ec] at hi
    rw [f_X3_phaseToLeave_23, if_neg (show ¬ (6 : Int32) ≤ nI v from nI_ge (b := 6) (by omega) (by omega)), hB.bit (by omega) (i := v) (by omega), cond3 hz (by omega), anyb_front, Nat.add_zero]
    simp only [Option.bind_some]
    cases zv : zf t s d v with
    | false =>
      rw [if_neg (show ¬ (if false = true then (1 : Int32) else 0) = 1 by decide), nI1]
      have h3 : b3E t s d v = false := by unfold b3E; rw [zv]; rfl
      have h4 : nxE t s d z (v + 0) = false := by show nxE t s d z v = false; unfold nxE; rw [zv]; rfl
      rw [h3, Bool.or_false] at hi
      rw [h4, Bool.false_or]
      exact hi
    | true =>
      have hs : f_X3_since (s 86) cm (nI v) = some (s 86 - s (79 + v)) := by
        unfold f_X3_since
        rw [if_pos ((gi_nI (by omega)).mpr (by omega)), nI_clamp (by omega), hcm v (by omega) zv]
      rw [if_pos (show (if true = true then (1 : Int32) else 0) = 1 by decide), hs, nI1]
      simp only [Option.bind_some]
      have h3 : b3E t s d v = !decide (s 86 - s (79 + v) < 2 * t 66) := by unfold b3E; rw [zv]; rfl
      rw [h3] at hi
      cases nv : (decide (v + 1 = z) || decide (v = z + 1)) with
      | false =>
        have h4 : nxE t s d z (v + 0) = false := by show nxE t s d z v = false; unfold nxE; rw [zv, nv]; rfl
        rw [if_pos (show (if false = true then (1 : Int32) else 0) = 0 by decide), h4, Bool.false_or]
        by_cases q : s 86 - s (79 + v) < 2 * t 66
        · rw [if_pos q]
          rw [show (!decide (s 86 - s (79 + v) < 2 * t 66)) = false by simp [q], Bool.or_false] at hi
          exact hi
        · rw [if_neg q]
          rw [show (!decide (s 86 - s (79 + v) < 2 * t 66)) = true by simp [q], Bool.or_true] at hi
          exact hi
      | true =>
        have h4 : nxE t s d z (v + 0) = !decide (s 86 - s (79 + v) < t 66) := by show nxE t s d z v = _; unfold nxE; rw [zv, nv]; rfl
        rw [if_neg (show ¬ (if true = true then (1 : Int32) else 0) = 0 by decide), h4]
        by_cases q1 : s 86 - s (79 + v) < t 66
        · rw [if_pos q1, show (!decide (s 86 - s (79 + v) < t 66)) = false by simp [q1], Bool.false_or]
          by_cases q : s 86 - s (79 + v) < 2 * t 66
          · rw [if_pos q]
            rw [show (!decide (s 86 - s (79 + v) < 2 * t 66)) = false by simp [q], Bool.or_false] at hi
            exact hi
          · rw [if_neg q]
            rw [show (!decide (s 86 - s (79 + v) < 2 * t 66)) = true by simp [q], Bool.or_true] at hi
            exact hi
        · rw [if_neg q1, show (!decide (s 86 - s (79 + v) < t 66)) = true by simp [q1], Bool.true_or, if_pos rfl]
def lvE (t s : FN) (d z : Nat) : Int32 := if zf t s d z then 1 else if anyb (nxE t s d z) 6 then 2 else if anyb (b3E t s d) 6 then 3 else 0
theorem phase_eq {t s cm zoneOf : FN} {fires : Int32} {d z : Nat} (hd : d ≤ 12) (hz : z < 6) (hB : Bt fires d (fun i => decide (s (36 + i) = 1))) (hzo : ∀ i, i < d → zoneOf i = t (3 * i + 1) ∧ ∃ z, z < 6 ∧ t (3 * i + 1) = nI z) (hcm : ∀ z, z < 6 → zf t s d z = true → cm z = s (79 + z)) : f_X3_phaseToLeave fires (s 86) cm (nI d) (t 66) zoneOf (nI z) = some (lvE t s d z) := by
  obtain ⟨Z, z1, z2⟩ := zones_eq hd hB hzo
  unfold f_X3_phaseToLeave lvE
  rw [z1]
  simp only [Option.bind_some]
  rw [z2.bit (by omega) hz]
  simp only [Option.bind_some]
  have h := ph_loop hz z2 hcm 6 1000 0 (by omega) (by omega)
  rw [show nI 0 = (0 : Int32) from rfl] at h
  simp only [Nat.zero_add] at h
  have h' : f_X3_phaseToLeave_23 (s 86) cm (t 66) (nI z) 1000 Z 0 0 = some (if anyb (nxE t s d z) 6 then 2 else if anyb (b3E t s d) 6 then 3 else 0) := h
  rw [h']
  cases zf t s d z <;> rfl
theorem leave_eq {t s : FN} {d z E : Nat} (hd : d ≤ 12) (ht : t 60 = nI d) (hz : z < 6) (hE1 : 1 ≤ E) (hE9 : E ≤ 9) (hE : t 66 = nI E) (hcm : ∀ z, z < 6 → zf t s d z = true → Cm (s (79 + z)) (s 86)) : f_X6_leave t s (nI z) = some (lvE t s d z) := by
  have hpos : ∀ y, y < 6 → zf t s d y = true → ∃ g, g ≤ 9999 ∧ s 86 - s (79 + y) = nI g := by
    intro y hy hq
    obtain ⟨c, T, h1, h2, h3, h4, h5⟩ := hcm y hy hq
    refine ⟨T - c, by omega, ?_⟩
    rw [h4, h5]
    apply Int32.toInt_inj.1
    rw [pk_sub_toInt (by omega) (by omega), nI_toInt (by omega)]
    omega
  have e2 : (2 : Int32) * t 66 = nI (2 * E) := by rw [hE, show (2 : Int32) = nI 2 from rfl, pk_mul]
  have m1 : (-1 : Int32).toInt = -1 := by decide
  have hA : anyb (fun o => !decide (siE t s d o < 2 * t 66)) 6 = anyb (b3E t s d) 6 := by
    refine anyb_cong (fun o ho => ?_)
    unfold b3E siE
    cases q : zf t s d o with
    | true => rfl
    | false =>
      have : (-1 : Int32) < 2 * t 66 := by rw [e2, Int32.lt_iff_toInt_lt, m1, nI_toInt (by omega)]; omega
      simp [this]
  have h13 := lv_loop (s := s) hd ht 6 1000 0 (by omega) (by omega)
  rw [hA, show nI 0 = (0 : Int32) from rfl, show (if anyb (fun o => !decide (siE t s d o < 2 * t 66)) 0 = true then (1 : Int32) else 0) = 0 from rfl] at h13
  unfold f_X6_leave
  rw [h13, since_in hd ht hz, show (66 : Int32).toNatClampNeg = 66 from rfl]
  simp only [Option.bind_some]
  unfold lvE
  cases q : zf t s d z with
  | true =>
    obtain ⟨g, hg, eg⟩ := hpos z hz q
    have : ¬ siE t s d z < 0 := by unfold siE; rw [q, if_pos rfl, eg]; exact nI_pos (by omega)
    rw [if_neg this]; rfl
  | false =>
    have : siE t s d z < 0 := by unfold siE; rw [q, if_neg (by decide)]; decide
    rw [if_pos this, if_neg (show ¬ false = true by decide)]
    -- the zone below
    have hlow : ∃ a : Int32, f_X6_since t s (nI z - 1) = some a ∧ (t 66 ≤ a ↔ ∃ k, k < 6 ∧ k + 1 = z ∧ nxE t s d z k = true) := by
      by_cases h0 : z = 0
      · subst h0
        refine ⟨-1, since_out (by decide), ?_⟩
        constructor
        · intro w
          rw [hE, Int32.le_iff_toInt_le, m1, nI_toInt (by omega)] at w
          omega
        · rintro ⟨k, -, w, -⟩; omega
      · obtain ⟨y, rfl⟩ : ∃ y, z = y + 1 := ⟨z - 1, by omega⟩
        rw [nI_pred]
        refine ⟨_, since_in hd ht (by omega), ?_⟩
        have key : (t 66 ≤ siE t s d y) ↔ nxE t s d (y + 1) y = true := by
          unfold siE nxE
          cases w : zf t s d y with
          | true =>
            rw [if_pos rfl]
            simp only [Bool.true_and, decide_true, Bool.true_or, Bool.not_eq_true', decide_eq_false_iff_not, Int32.not_lt]
          | false =>
            rw [if_neg (by decide)]
            constructor
            · intro w
              rw [hE, Int32.le_iff_toInt_le, m1, nI_toInt (by omega)] at w
              omega
            · intro w; simp at w
        rw [key]
        constructor
        · intro w; exact ⟨y, by omega, rfl, w⟩
        · rintro ⟨k, -, w1, w2⟩
          have : k = y := by omega
          subst this; exact w2
    have hhigh : ∃ a : Int32, f_X6_since t s (nI z + 1) = some a ∧ (¬ a < t 66 ↔ ∃ k, k < 6 ∧ k = z + 1 ∧ nxE t s d z k = true) := by
      by_cases h5 : z = 5
      · subst h5
        refine ⟨-1, since_out (by decide), ?_⟩
        constructor
        · intro w
          exfalso; apply w
          rw [hE, Int32.lt_iff_toInt_lt, m1, nI_toInt (by omega)]
          omega
        · rintro ⟨k, w1, w2, -⟩; omega
      · rw [nI1]
        refine ⟨_, since_in hd ht (by omega), ?_⟩
        have key : (¬ siE t s d (z + 1) < t 66) ↔ nxE t s d z (z + 1) = true := by
          unfold siE nxE
          cases w : zf t s d (z + 1) with
          | true =>
            rw [if_pos rfl]
            simp only [Bool.true_and, decide_true, Bool.or_true, Bool.not_eq_true', decide_eq_false_iff_not]
          | false =>
            rw [if_neg (by decide)]
            constructor
            · intro w
              exfalso; apply w
              rw [hE, Int32.lt_iff_toInt_lt, m1, nI_toInt (by omega)]
              omega
            · intro w; simp at w
        rw [key]
        constructor
        · intro w; exact ⟨z + 1, by omega, rfl, w⟩
        · rintro ⟨k, -, rfl, w2⟩
          exact w2
    obtain ⟨a, ha1, ha2⟩ := hlow
    obtain ⟨b, hb1, hb2⟩ := hhigh
    rw [ha1, hb1]
    simp only [Option.bind_some]
    have hN : anyb (nxE t s d z) 6 = true ↔ (t 66 ≤ a ∨ ¬ b < t 66) := by
      rw [anyb_iff, ha2, hb2]
      constructor
      · rintro ⟨k, w1, w2⟩
        have w3 := w2
        unfold nxE at w3
        simp only [Bool.and_eq_true, Bool.or_eq_true, decide_eq_true_eq] at w3
        rcases w3.2.1 with w4 | w4
        · exact Or.inl ⟨k, w1, w4, w2⟩
        · exact Or.inr ⟨k, w1, w4, w2⟩
      · rintro (⟨k, w1, -, w2⟩ | ⟨k, w1, -, w2⟩)
        · exact ⟨k, w1, w2⟩
        · exact ⟨k, w1, w2⟩
    by_cases w1 : t 66 ≤ a
    · rw [if_pos w1, if_pos (hN.mpr (Or.inl w1))]
    · rw [if_neg w1]
      by_cases w2 : b < t 66
      · rw [if_pos w2, if_neg (fun w => (hN.mp w).elim w1 (fun g => g w2))]
        cases anyb (b3E t s d) 6 <;> rfl
      · rw [if_neg w2, if_pos (hN.mpr (Or.inr w2))]
theorem ok_zone (x0 x1 : Int32) : OK1 Rel (fun C => rs_zone C x0 x1) (fun M => ms_zone M x0 x1) := by
  intro C M h
  have h0 := h
  obtain ⟨n, k0, d, e, hn, hk, ⟨m1, m2⟩, hPl, hSt, hp⟩ := h
  obtain ⟨⟨hd1, hd12, he6⟩, ⟨p1, p2, p3, p4⟩, hdev, hiso, hef, hsnd, ⟨l1, l2, l3, l4, l5⟩, -, E, hE1, hE9, hE⟩ := id hPl
  obtain ⟨a1, a2, a3, a4, a5, a6, a7, a8, a9, a10, a11, ⟨a12, a13, -⟩, -⟩ := id hSt
  have hzo : ∀ i, i < d → C.2.2.1.2.1 i = M.2.1 (3 * i + 1) ∧ ∃ z, z < 6 ∧ M.2.1 (3 * i + 1) = nI z := fun i hi => ⟨(hdev i hi).2.1, (hdev i hi).2.2.1⟩
  obtain ⟨Z, z1, z2⟩ := zones_eq hd12 a4 hzo
  obtain ⟨Y, y1, y2⟩ := lost_eq hd12 (isoE0 hd12 hiso) (cutE0 hd12 a6) (shE0 hd12 a7)
  show ∃ o q, rs_zone C x0 x1 = some o ∧ ms_zone M x0 x1 = some q ∧ _
  unfold rs_zone ms_zone f_X5_zone f_X6_zone f_X5_lostNow
  rw [p1, m1, m2, z1, y1, a12, l5, within_eq, in_eq x0 0 5 (by decide) (by decide), within_eq, in_eq x1 0 5 (by decide) (by decide)]
  simp only [Option.bind_some]
  by_cases c : wi x0 0 5 = 0
  · rw [if_pos c, if_pos c]; exact ⟨_, _, rfl, rfl, rfl, h0⟩
  rw [if_neg c, if_neg c]
  by_cases c1 : wi x1 0 5 = 0
  · rw [if_pos c1, if_pos c1]; exact ⟨_, _, rfl, rfl, rfl, h0⟩
  rw [if_neg c1, if_neg c1]
  obtain ⟨z, -, hz5, rfl⟩ := wi_nI (a := 0) (b := 5) (by decide) (by decide) c
  obtain ⟨w, -, hw5, rfl⟩ := wi_nI (a := 0) (b := 5) (by decide) (by decide) c1
  obtain ⟨D, d1, d2⟩ := din_eq (z := z) hd12 (fun i hi => (hdev i hi).2.1)
  rw [d1, z2.bit (by omega) (show z < 6 by omega), isZone_eq _ _ hd12 (by omega) p2, phase_eq hd12 (by omega) a4 hzo (fun y hy hq => ((a11 y hy).1 hq).1), leave_eq hd12 p2 (by omega) hE1 hE9 hE (fun y hy hq => ((a11 y hy).1 hq).2), since_in hd12 p2 (by omega)]
  simp only [Option.bind_some]
  rw [(d2.and y2).count hd12, (d2.and a4).count hd12, d2.count hd12]
  simp only [Option.bind_some]
  rcases (show w = 0 ∨ w = 1 ∨ w = 2 ∨ w = 3 ∨ w = 4 ∨ w = 5 by omega) with rfl | rfl | rfl | rfl | rfl | rfl
  · rw [if_pos (show nI 0 = (0 : Int32) from rfl), if_pos (show nI 0 = (0 : Int32) from rfl)]
    cases zf M.2.1 M.2.2.2.1 d z <;> exact ⟨_, _, rfl, rfl, rfl, h0⟩
  · rw [if_neg (show ¬ nI 1 = (0 : Int32) by decide), if_neg (show ¬ nI 1 = (0 : Int32) by decide), if_pos (show nI 1 = (1 : Int32) from rfl), if_pos (show nI 1 = (1 : Int32) from rfl)]
    cases q : zf M.2.1 M.2.2.2.1 d z with
    | false => exact ⟨_, _, rfl, rfl, rfl, h0⟩
    | true =>
      rw [if_pos (show (if true = true then (1 : Int32) else 0) = 1 by decide), if_neg (show ¬ (if true = true then (1 : Int32) else 0) = 0 by decide)]
      unfold f_X3_since siE
      rw [if_pos ((gi_nI (by omega)).mpr (by omega)), nI_clamp (by omega), ((a11 z (by omega)).1 q).1, q, if_pos rfl]
      exact ⟨_, _, rfl, rfl, rfl, h0⟩
  · rw [if_neg (show ¬ nI 2 = (0 : Int32) by decide), if_neg (show ¬ nI 2 = (0 : Int32) by decide), if_neg (show ¬ nI 2 = (1 : Int32) by decide), if_neg (show ¬ nI 2 = (1 : Int32) by decide), if_pos (show nI 2 = (2 : Int32) from rfl), if_pos (show nI 2 = (2 : Int32) from rfl)]
    exact ⟨_, _, rfl, rfl, rfl, h0⟩
  · rw [inz_eq (P := fun _ => true) hd12 p2 (Or.inl ⟨rfl, fun _ => rfl⟩)]
    refine ⟨_, _, rfl, rfl, ?_, h0⟩
    show nI _ = nI _
    congr 1
    exact fb_ct_cong (fun i _ => by simp)
  · rw [inz_eq hd12 p2 (Or.inr (Or.inl ⟨rfl, rfl⟩))]
    exact ⟨_, _, rfl, rfl, rfl, h0⟩
  · rw [inz_eq (P := fun i => decide (M.2.2.2.1 (36 + i) = 1)) hd12 p2 (Or.inr (Or.inr ⟨rfl, fun _ => rfl⟩))]
    exact ⟨_, _, rfl, rfl, rfl, h0⟩
