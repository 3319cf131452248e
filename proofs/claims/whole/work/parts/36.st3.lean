/-! PURE: silence; zones in fire -/
def isS (t s : FN) (k : Nat) : Bool := decide (t (36 + 4 * k + 3) = 1) && (decide (s (67 + k) = 1) && decide (s (73 + k) = 0))
theorem isS_eq (t s : FN) {k : Nat} (hk : k < 6) : f_X6_isSounding t s (nI k) = some (if isS t s k then 1 else 0) := by
  have e1 : (36 : Int32) + 4 * nI k + 3 = nI (36 + 4 * k + 3) := by
    rw [show (4 : Int32) = nI 4 from rfl, show (36 : Int32) = nI 36 from rfl, show (3 : Int32) = nI 3 from rfl, pk_mul, nI_add, nI_add]
  have e2 : (67 : Int32) + nI k = nI (67 + k) := nI_add 67 k
  have e3 : (73 : Int32) + nI k = nI (73 + k) := nI_add 73 k
  unfold f_X6_isSounding isS
  rw [e1, e2, e3, if_pos ((gi_nI (n := 36 + 4 * k + 3) (by omega)).mpr (by omega)), if_pos ((gi_nI (n := 67 + k) (by omega)).mpr (by omega)), if_pos ((gi_nI (n := 73 + k) (by omega)).mpr (by omega))]
  simp only [nI_clamp (show 36 + 4 * k + 3 < 2 ^ 31 by omega), nI_clamp (show 67 + k < 2 ^ 31 by omega), nI_clamp (show 73 + k < 2 ^ 31 by omega)]
  by_cases q1 : t (36 + 4 * k + 3) = 1
  · rw [if_pos q1]
    by_cases q2 : s (67 + k) = 1
    · rw [if_pos q2]
      by_cases q3 : s (73 + k) = 0
      · rw [if_pos q3]; simp [q1, q2, q3]
      · rw [if_neg q3]; simp [q1, q2, q3]
    · rw [if_neg q2]; simp [q1, q2]
  · rw [if_neg q1]; simp [q1]
theorem snd_loop (t s : FN) {e : Nat} (he : e ≤ 6) (ht : t 61 = nI e) : ∀ (r n v : Nat), v + r = e → r < n → f_X6_sounding_4 t s n (nI (fb_ct (isS t s) v)) (nI v) = some (nI (fb_ct (isS t s) e)) := by
  intro r
  induction r with
  | zero =>
    intro n v h1 h2
    obtain ⟨n, rfl⟩ : ∃ k, n = k + 1 := ⟨n - 1, by omega⟩
    rw [f_X6_sounding_4, show (61 : Int32).toNatClampNeg = 61 from rfl, ht, if_pos (nI_le (by omega) (by omega)), show v = e by omega]
  | succ r ih =>
    intro n v h1 h2
    obtain ⟨n, rfl⟩ : ∃ k, n = k + 1 := ⟨n - 1, by omega⟩
    have hi := ih n (v + 1) (by omega) (by omega)
    rw [fb_ct_succ] at hi
    rw [f_X6_sounding_4, show (61 : Int32).toNatClampNeg = 61 from rfl, ht, if_neg (nI_ge (by omega) (by omega)), isS_eq t s (by omega)]
    simp only [Option.bind_some]
    rw [nI1]
    cases q : isS t s v with
    | false =>
      rw [q] at hi
      simpa using hi
    | true =>
      rw [q] at hi
      rw [nI1]
      simpa using hi
theorem snd_eq (t s : FN) {e : Nat} (he : e ≤ 6) (ht : t 61 = nI e) : f_X6_sounding t s = some (nI (fb_ct (isS t s) e)) := by
  unfold f_X6_sounding
  have h := snd_loop t s he ht e 1000 0 (by omega) (by omega)
  rw [show nI (fb_ct (isS t s) 0) = (0 : Int32) from rfl, show nI 0 = (0 : Int32) from rfl] at h
  rw [h]; rfl
theorem sil_loop (t : FN) {e : Nat} (he : e ≤ 6) (ht : t 61 = nI e) : ∀ (r n v : Nat) (w : FN), v + r = e → r < n → f_X6_silence_18 t n (nI v) w = some (fun x => if 73 + v ≤ x ∧ x < 73 + e ∧ isS t w (x - 73) = true then 1 else w x) := by
  intro r
  induction r with
  | zero =>
    intro n v w h1 h2
    obtain ⟨n, rfl⟩ : ∃ k, n = k + 1 := ⟨n - 1, by omega⟩
    rw [f_X6_silence_18, show (61 : Int32).toNatClampNeg = 61 from rfl, ht, if_pos (nI_le (by omega) (by omega))]
    congr 1; funext x; rw [if_neg (by omega)]
  | succ r ih =>
    intro n v w h1 h2
    obtain ⟨n, rfl⟩ : ∃ k, n = k + 1 := ⟨n - 1, by omega⟩
    have e3 : (73 : Int32) + nI v = nI (73 + v) := nI_add 73 v
    have g : gi (nI (73 + v)) 87 := (gi_nI (by omega)).mpr (by omega)
    have hS : ∀ (y : Int32) (x : Nat), 73 + (v + 1) ≤ x → x < 73 + e → isS t (upd w (73 + v) y) (x - 73) = isS t w (x - 73) := by
      intro y x hx1 hx2
      unfold isS
      rw [uo (by omega), uo (by omega)]
    rw [f_X6_silence_18, show (61 : Int32).toNatClampNeg = 61 from rfl, ht, if_neg (nI_ge (by omega) (by omega)), isS_eq t w (by omega)]
    simp only [Option.bind_some]
    rw [e3, if_pos g, if_pos g, if_pos g, nI1, nI_clamp (by omega)]
    cases q : isS t w v with
    | false =>
      rw [if_pos (show (if false = true then (1 : Int32) else 0) = 0 by simp), ih n (v + 1) _ (by omega) (by omega)]
      congr 1; funext x
      by_cases z : 73 + (v + 1) ≤ x ∧ x < 73 + e
      · rw [hS _ x z.1 z.2, uo (by omega)]
        by_cases z2 : isS t w (x - 73) = true
        · rw [if_pos ⟨z.1, z.2, z2⟩, if_pos ⟨by omega, z.2, z2⟩]
        · rw [if_neg (fun y => z2 y.2.2), if_neg (fun y => z2 y.2.2)]
      · rw [if_neg (fun y => z ⟨y.1, y.2.1⟩)]
        by_cases z3 : x = 73 + v
        · subst z3
          rw [us, if_neg (fun y => by have := y.2.2; rw [show 73 + v - 73 = v by omega, q] at this; cases this)]
        · rw [uo z3, if_neg (fun y => z ⟨by omega, y.2.1⟩)]
    | true =>
      rw [if_neg (show ¬ (if true = true then (1 : Int32) else 0) = 0 by decide), ih n (v + 1) _ (by omega) (by omega)]
      congr 1; funext x
      by_cases z : 73 + (v + 1) ≤ x ∧ x < 73 + e
      · rw [hS _ x z.1 z.2, uo (by omega)]
        by_cases z2 : isS t w (x - 73) = true
        · rw [if_pos ⟨z.1, z.2, z2⟩, if_pos ⟨by omega, z.2, z2⟩]
        · rw [if_neg (fun y => z2 y.2.2), if_neg (fun y => z2 y.2.2)]
      · rw [if_neg (fun y => z ⟨y.1, y.2.1⟩)]
        by_cases z3 : x = 73 + v
        · subst z3
          rw [us, if_pos ⟨by omega, by omega, by rw [show 73 + v - 73 = v by omega]; exact q⟩]
        · rw [uo z3, if_neg (fun y => z ⟨by omega, y.2.1⟩)]
theorem ok_silence : OK1 Rel rs_silence ms_silence := by
  intro C M h
  have h0 := h
  obtain ⟨n, k, d, e, hn, ⟨hk, k1, k2⟩, hm, hPl, hSt, hpast⟩ := h
  obtain ⟨⟨hd1, hd12, he6⟩, ⟨p1, p2, p3, p4⟩, -, -, -, hsnd, -⟩ := id hPl
  obtain ⟨a1, a2, a3, a4, a5, a6, a7, a8, a9, a10, a11, ⟨a12, a13, a14, a15⟩, a16⟩ := id hSt
  have hB : Bt ((C.2.2.2.2.1.2.2.2.2.2.2.2.2.1 &&& C.2.2.1.2.2.2.2.2.2.2.2.1) &&& (C.2.2.2.2.1.2.2.2.2.2.2.2.2.2.1 ^^^ (-1))) e (isS M.2.1 M.2.2.2.1) := by
    refine ((a9.and hsnd).diff a10).cong (fun j hj => ?_)
    unfold isS
    rcases (a8 j (by omega)).2 with q | ⟨q, -⟩
    · rw [q]; cases decide (M.2.2.2.1 (67 + j) = 1) <;> cases decide (M.2.1 (36 + 4 * j + 3) = 1) <;> rfl
    · rw [q]; cases decide (M.2.2.2.1 (67 + j) = 1) <;> cases decide (M.2.1 (36 + 4 * j + 3) = 1) <;> rfl
  obtain ⟨u, b', hu, hn', hu1, hp'⟩ := keep_past hd12 he6 hk k1 hSt hpast
  have sl := sil_loop M.2.1 he6 p4 e 1000 0 M.2.2.2.1 (by omega) (by omega)
  rw [show nI 0 = (0 : Int32) from rfl] at sl
  have hc0 : (nI (fb_ct (isS M.2.1 M.2.2.2.1) e) = 0) ↔ ((C.2.2.2.2.1.2.2.2.2.2.2.2.2.1 &&& C.2.2.1.2.2.2.2.2.2.2.2.1) &&& (C.2.2.2.2.1.2.2.2.2.2.2.2.2.2.1 ^^^ (-1))) = 0 := by
    rw [hB.eq0 (by omega), ← fb_ct_zero]
    exact nI_eq (b := 0) (by have := fb_ct_le (isS M.2.1 M.2.2.2.1) e; omega) (by decide)
  show ∃ o q, rs_silence C = some o ∧ ms_silence M = some q ∧ _
  unfold rs_silence ms_silence f_X5_silence f_X6_silence f_X5_soundsThatSound
  rw [snd_eq _ _ he6 p4]
  simp only [Option.bind_some]
  by_cases c : ((C.2.2.2.2.1.2.2.2.2.2.2.2.2.1 &&& C.2.2.1.2.2.2.2.2.2.2.2.1) &&& (C.2.2.2.2.1.2.2.2.2.2.2.2.2.2.1 ^^^ (-1))) = 0
  · rw [if_pos c, if_pos (hc0.mpr c)]
    exact ⟨_, _, rfl, rfl, rfl, h0⟩
  · rw [if_neg c, if_neg (fun q => c (hc0.mp q)), hu, k2, hn', hB.count (by omega)]
    simp only [Option.bind_some]
    rw [sl]
    simp only [Option.bind_some]
    refine ⟨_, _, rfl, rfl, rfl, n, min (k + 1) 6, d, e, hn, ⟨by omega, hu1, rfl⟩, hm, hPl, ?_, fun j hj => hp' j hj⟩
    have y : ∀ x, ¬ (73 ≤ x ∧ x < 79) → (fun x => if 73 + 0 ≤ x ∧ x < 73 + e ∧ isS M.2.1 M.2.2.2.1 (x - 73) = true then (1 : Int32) else M.2.2.2.1 x) x = M.2.2.2.1 x := fun x hx => if_neg (fun z => hx ⟨by omega, by omega⟩)
    have hval : ∀ j, j < 6 → (fun x => if 73 + 0 ≤ x ∧ x < 73 + e ∧ isS M.2.1 M.2.2.2.1 (x - 73) = true then (1 : Int32) else M.2.2.2.1 x) (73 + j) = if j < e ∧ isS M.2.1 M.2.2.2.1 j = true then 1 else M.2.2.2.1 (73 + j) := by
      intro j hj
      show (if _ then _ else _) = _
      rw [show 73 + j - 73 = j by omega]
      by_cases z : j < e ∧ isS M.2.1 M.2.2.2.1 j = true
      · rw [if_pos z, if_pos ⟨by omega, by omega, z.2⟩]
      · rw [if_neg z, if_neg (fun w => z ⟨by omega, w.2.2⟩)]
    generalize (fun x => if 73 + 0 ≤ x ∧ x < 73 + e ∧ isS M.2.1 M.2.2.2.1 (x - 73) = true then (1 : Int32) else M.2.2.2.1 x) = S at y hval ⊢
    refine ⟨fun j hj => ?_, fun q hq => ?_, fun j hj => ?_, a4.cong (fun j hj => ?_), fun v hv => ?_, a6.cong (fun j hj => ?_), a7.cong (fun j hj => ?_), fun q hq => ?_, a9.cong (fun j hj => ?_), (a10.or hB).cong (fun j hj => ?_), fun q hq => ?_, ⟨?_, ?_, ?_, ?_⟩, fun j hj => ?_⟩
    · show _ = S j ∧ _ = S (12 + j) ∧ _ = S (24 + j)
      rw [y j (by omega), y (12 + j) (by omega), y (24 + j) (by omega)]; exact a1 j hj
    · show _ = S (61 + q)
      rw [y (61 + q) (by omega)]; exact a2 q hq
    · show S (36 + j) = 0 ∨ (S (36 + j) = 1 ∧ j < d)
      rw [y (36 + j) (by omega)]; exact a3 j hj
    · show _ = decide (S (36 + j) = 1)
      rw [y (36 + j) (by omega)]
    · show S (48 + v) = 0 ∨ S (48 + v) = 1 ∨ S (48 + v) = 2
      rw [y (48 + v) (by omega)]; exact a5 v hv
    · show _ = decide (S (48 + j) = 1)
      rw [y (48 + j) (by omega)]
    · show _ = decide (S (48 + j) = 2)
      rw [y (48 + j) (by omega)]
    · show (S (67 + q) = 0 ∨ (S (67 + q) = 1 ∧ q < e)) ∧ (S (73 + q) = 0 ∨ (S (73 + q) = 1 ∧ q < e))
      rw [y (67 + q) (by omega), hval q hq]
      refine ⟨(a8 q hq).1, ?_⟩
      by_cases z : q < e ∧ isS M.2.1 M.2.2.2.1 q = true
      · rw [if_pos z]; exact Or.inr ⟨rfl, z.1⟩
      · rw [if_neg z]; exact (a8 q hq).2
    · show _ = decide (S (67 + j) = 1)
      rw [y (67 + j) (by omega)]
    · show _ = decide (S (73 + j) = 1)
      rw [hval j (by omega)]
      cases z : isS M.2.1 M.2.2.2.1 j with
      | true => rw [if_pos ⟨hj, rfl⟩]; simp
      | false => rw [if_neg (by simp)]; simp
    · have hz : zf M.2.1 S d q = zf M.2.1 M.2.2.2.1 d q := anyb_cong (fun i hi => by show (_ && decide (S (36 + i) = 1)) = _; rw [y (36 + i) (by omega)])
      show (zf M.2.1 S d q = true → _ = S (79 + q) ∧ Cm (S (79 + q)) (S 86)) ∧ (zf M.2.1 S d q = false → S (79 + q) = 0)
      rw [hz, y (79 + q) (by omega), y 86 (by omega)]; exact a11 q hq
    · show _ = S 86
      rw [y 86 (by omega)]; exact a12
    · show _ = S 85
      rw [y 85 (by omega)]; exact a13
    · show ∃ T, T ≤ 9999 ∧ S 86 = nI T
      rw [y 86 (by omega)]; exact a14
    · show S 85 = 0 ∨ S 85 = 1
      rw [y 85 (by omega)]; exact a15
    · show (∃ b, b ≤ 40 ∧ S (12 + j) = nI b) ∧ ∃ r, r ≤ 99 ∧ S j = nI r
      rw [y j (by omega), y (12 + j) (by omega)]; exact a16 j hj
theorem anyb_front (P : Nat → Bool) : ∀ n, anyb P (n + 1) = (P 0 || anyb (fun i => P (i + 1)) n)
  | 0 => by simp [anyb]
  | n + 1 => by
    rw [anyb, anyb_front P n, anyb, Bool.or_assoc]
theorem isZone_loop (t s : FN) {d z : Nat} (hd : d ≤ 12) (hz : z < 2 ^ 31) (ht : t 60 = nI d) : ∀ (r n v : Nat), v + r = d → r < n → f_X6_isZone_2 t s (nI z) n (nI v) = some (if anyb (fun i => decide (t (3 * (v + i) + 1) = nI z) && decide (s (36 + (v + i)) = 1)) r then 1 else 0) := by
  intro r
  induction r with
  | zero =>
    intro n v h1 h2
    obtain ⟨n, rfl⟩ : ∃ k, n = k + 1 := ⟨n - 1, by omega⟩
    rw [f_X6_isZone_2, show (60 : Int32).toNatClampNeg = 60 from rfl, ht, if_pos (nI_le (by omega) (by omega))]; rfl
  | succ r ih =>
    intro n v h1 h2
    obtain ⟨n, rfl⟩ : ∃ k, n = k + 1 := ⟨n - 1, by omega⟩
    have e1 : (3 : Int32) * nI v + 1 = nI (3 * v + 1) := by rw [show (3 : Int32) = nI 3 from rfl, pk_mul, nI1]
    have e2 : (36 : Int32) + nI v = nI (36 + v) := nI_add 36 v
    have hi := ih n (v + 1) (by omega) (by omega)
    rw [f_X6_isZone_2, show (60 : Int32).toNatClampNeg = 60 from rfl, ht, if_neg (nI_ge (by omega) (by omega)), e1, e2, if_pos ((gi_nI (by omega)).mpr (by omega)), if_pos ((gi_nI (by omega)).mpr (by omega)), nI_clamp (by omega), nI_clamp (by omega), nI1, hi, anyb_front, Nat.add_zero]
    have ec : (fun i => decide (t (3 * (v + 1 + i) + 1) = nI z) && decide (s (36 + (v + 1 + i)) = 1)) = (fun i => decide (t (3 * (v + (i + 1)) + 1) = nI z) && decide (s (36 + (v + (i + 1))) = 1)) := by
      funext i; rw [show v + 1 + i = v + (i + 1) by omega]
    rw [ec]
    by_cases q1 : t (3 * v + 1) = nI z
    · rw [if_pos q1]
      by_cases q2 : s (36 + v) = 1
      · rw [if_pos q2]; simp [q1, q2]
      · rw [if_neg q2]; simp [q1, q2]
    · rw [if_neg q1]; simp [q1]
theorem isZone_eq (t s : FN) {d z : Nat} (hd : d ≤ 12) (hz : z < 2 ^ 31) (ht : t 60 = nI d) : f_X6_isZone t s (nI z) = some (if zf t s d z then 1 else 0) := by
  unfold f_X6_isZone
  have h := isZone_loop t s hd hz ht d 1000 0 (by omega) (by omega)
  rw [show nI 0 = (0 : Int32) from rfl] at h
  rw [h]
  unfold zf
  simp only [Nat.zero_add]
theorem sh0 : ∀ i, i < 31 → (0 : Int32) <<< (nI i &&& 31) = 0 := by decide +kernel
theorem zones_loop {fires : Int32} {zoneOf t s : FN} {d : Nat} (hd : d ≤ 12) (hB : Bt fires d (fun i => decide (s (36 + i) = 1))) (hz : ∀ i, i < d → zoneOf i = t (3 * i + 1) ∧ ∃ z, z < 6 ∧ t (3 * i + 1) = nI z) : ∀ (r n v : Nat) (S : Int32), v + r = d → r < n → Bt S 6 (fun z => zf t s v z) → ∃ S', f_X3_zonesInFire_4 fires (nI d) zoneOf n S (nI v) = some S' ∧ Bt S' 6 (fun z => zf t s d z) := by
  intro r
  induction r with
  | zero =>
    intro n v S h1 h2 hS
    obtain ⟨n, rfl⟩ : ∃ k, n = k + 1 := ⟨n - 1, by omega⟩
    rw [f_X3_zonesInFire_4, if_pos (nI_le (by omega) (by omega))]
    exact ⟨S, rfl, by rw [show d = v by omega]; exact hS⟩
  | succ r ih =>
    intro n v S h1 h2 hS
    obtain ⟨n, rfl⟩ : ∃ k, n = k + 1 := ⟨n - 1, by omega⟩
    obtain ⟨z1, z0, hz0, z2⟩ := hz v (by omega)
    rw [f_X3_zonesInFire_4, if_neg (nI_ge (by omega) (by omega)), hB.bit (by omega) (i := v) (by omega)]
    simp only [Option.bind_some]
    rw [if_pos ((gi_nI (by omega)).mpr (by omega)), nI_clamp (by omega), nI1, z1, z2]
    refine ih n (v + 1) _ (by omega) (by omega) ?_
    by_cases q : s (36 + v) = 1
    · rw [show (if (decide (s (36 + v) = 1)) = true then (1 : Int32) else 0) = 1 by simp [q]]
      refine (hS.setb (i := z0) hz0 (by omega)).cong (fun z hz => ?_)
      show _ = anyb _ (v + 1)
      rw [anyb]
      show (zf t s v z || decide (z = z0)) = (zf t s v z || (decide (t (3 * v + 1) = nI z) && decide (s (36 + v) = 1)))
      rw [z2, show decide (s (36 + v) = 1) = true by simp [q], Bool.and_true]
      congr 1
      rw [decide_eq_decide, nI_eq (by omega) (by omega)]
      omega
    · rw [show (if (decide (s (36 + v) = 1)) = true then (1 : Int32) else 0) = 0 by simp [q], sh0 z0 (by omega), or0]
      refine hS.cong (fun z hz => ?_)
      show _ = anyb _ (v + 1)
      rw [anyb]
      show zf t s v z = (zf t s v z || (decide (t (3 * v + 1) = nI z) && decide (s (36 + v) = 1)))
      simp [q]
theorem zones_eq {fires : Int32} {zoneOf t s : FN} {d : Nat} (hd : d ≤ 12) (hB : Bt fires d (fun i => decide (s (36 + i) = 1))) (hz : ∀ i, i < d → zoneOf i = t (3 * i + 1) ∧ ∃ z, z < 6 ∧ t (3 * i + 1) = nI z) : ∃ S, f_X3_zonesInFire fires (nI d) zoneOf = some S ∧ Bt S 6 (fun z => zf t s d z) := by
  obtain ⟨S, h1, h2⟩ := zones_loop hd hB hz d 1000 0 0 (by omega) (by omega) ((Bt.zero 6).cong (fun _ _ => rfl))
  unfold f_X3_zonesInFire
  rw [show nI 0 = (0 : Int32) from rfl] at h1
  rw [h1]
  exact ⟨S, rfl, h2⟩
