/-! PURE: lost devices, stops; the reference's ring -/
def lostB (iso cut sh : Nat → Bool) (d i : Nat) : Bool := anyb (blk iso cut sh d) (i + 1) && anyb (fun j => blk iso cut sh d (i + 1 + j)) (d - i)
section LD
variable {iso cut sh : Nat → Bool} {d : Nat} {I K S B : Int32}
theorem lostA_loop (hd : d ≤ 12) {b : Nat → Bool} {x2 u4 : Int32} (hB : Bt (x2 ||| u4) (d + 1) b) : ∀ (r n v : Nat) (L : Int32), v + r = d → r < n → (∀ w, w < v → b w = false) → Bt L d (fun j => decide (v ≤ j)) → ∃ Z, f_X2_lostDevices_20 (nI d) x2 u4 n L (nI v) = some Z ∧ Bt Z d (fun j => anyb b (j + 1)) := by
  intro r
  induction r with
  | zero =>
    intro n v L h1 h2 hb hL
    obtain ⟨n, rfl⟩ : ∃ k, n = k + 1 := ⟨n - 1, by omega⟩
    rw [f_X2_lostDevices_20, if_pos (nI_le (by omega) (by omega))]
    refine ⟨L, rfl, hL.cong (fun j hj => ?_)⟩
    have h3 : ¬ v ≤ j := by omega
    rw [anyb_no.mpr (fun i hi => hb i (by omega))]
    simp [h3]
  | succ r ih =>
    intro n v L h1 h2 hb hL
    obtain ⟨n, rfl⟩ : ∃ k, n = k + 1 := ⟨n - 1, by omega⟩
    rw [f_X2_lostDevices_20, if_neg (nI_ge (by omega) (by omega)), hB.bit (by omega) (i := v) (by omega)]
    simp only [Option.bind_some]
    cases q : b v with
    | false =>
      rw [if_pos (show (if false = true then (1 : Int32) else 0) = 0 by decide), nI1]
      refine ih n (v + 1) _ (by omega) (by omega) (fun w hw => ?_) ((hL.clr (i := v) (by omega) (by omega)).cong (fun j hj => ?_))
      · by_cases e : w = v
        · subst e; exact q
        · exact hb w (by omega)
      · by_cases e : j = v
        · subst e; simp
        · have : (v + 1 ≤ j) = (v ≤ j) := by apply propext; omega
          simp [e, this]
    | true =>
      rw [if_neg (show ¬ (if true = true then (1 : Int32) else 0) = 0 by decide)]
      refine ⟨L, rfl, hL.cong (fun j hj => ?_)⟩
      by_cases g : v ≤ j
      · rw [anyb_iff.mpr ⟨v, by omega, q⟩]; simp [g]
      · rw [anyb_no.mpr (fun i hi => hb i (by omega))]; simp [g]
theorem lostB_loop (hd : d ≤ 12) {b P : Nat → Bool} {x2 u4 : Int32} (hB : Bt (x2 ||| u4) (d + 1) b) : ∀ (v n : Nat) (L : Int32), v ≤ d → v < n → (∀ w, v < w → w ≤ d → b w = false) → Bt L d (fun j => P j && decide (j < v)) → ∃ Z, f_X2_lostDevices_56 x2 u4 n L (nI v) = some Z ∧ Bt Z d (fun j => P j && anyb (fun i => b (j + 1 + i)) (d - j)) := by
  intro v
  induction v with
  | zero =>
    intro n L h1 h2 hb hL
    obtain ⟨n, rfl⟩ : ∃ k, n = k + 1 := ⟨n - 1, by omega⟩
    rw [f_X2_lostDevices_56, if_pos (show nI 0 ≤ (0 : Int32) by decide)]
    refine ⟨L, rfl, hL.cong (fun j hj => ?_)⟩
    rw [anyb_no.mpr (fun i hi => hb (j + 1 + i) (by omega) (by omega))]
    simp
  | succ v ih =>
    intro n L h1 h2 hb hL
    obtain ⟨n, rfl⟩ : ∃ k, n = k + 1 := ⟨n - 1, by omega⟩
    rw [f_X2_lostDevices_56, if_neg (show ¬ nI (v + 1) ≤ (0 : Int32) from nI_nle (by omega) (by omega)), hB.bit (by omega) (i := v + 1) (by omega)]
    simp only [Option.bind_some]
    cases q : b (v + 1) with
    | false =>
      rw [if_pos (show (if false = true then (1 : Int32) else 0) = 0 by decide), nI_pred, pk_m1]
      refine ih n _ (by omega) (by omega) (fun w h3 h4 => ?_) ((hL.clr (i := v) (by omega) (by omega)).cong (fun j hj => ?_))
      · by_cases e : w = v + 1
        · subst e; exact q
        · exact hb w (by omega) h4
      · by_cases e : j = v
        · subst e; simp
        · have : (j < v + 1) = (j < v) := by apply propext; omega
          simp [e, this]
    | true =>
      rw [if_neg (show ¬ (if true = true then (1 : Int32) else 0) = 0 by decide)]
      refine ⟨L, rfl, hL.cong (fun j hj => ?_)⟩
      by_cases g : j < v + 1
      · rw [anyb_iff.mpr ⟨v - j, by omega, by rw [show j + 1 + (v - j) = v + 1 by omega]; exact q⟩]; simp [g]
      · rw [anyb_no.mpr (fun i hi => hb (j + 1 + i) (by omega) (by omega))]; simp [g]
theorem full31 : ∀ d, d < 13 → ((1 : Int32) <<< (nI d &&& 31)) - 1 = nI (2 ^ d - 1) := by decide +kernel
theorem Bt.full (hd : d ≤ 12) : Bt (((1 : Int32) <<< (nI d &&& 31)) - 1) d (fun _ => true) := by
  refine ⟨2 ^ d - 1, by have := Nat.two_pow_pos d; omega, full31 d (by omega), fun i hi => ?_⟩
  rw [Nat.testBit_two_pow_sub_one]
  simp [hi]
theorem lost_eq (hd : d ≤ 12) (hI : Bt I d iso) (hK : Bt K (d + 1) cut) (hS : Bt S (d + 1) sh) : ∃ Z, f_X2_lostDevices (nI d) I K S = some Z ∧ Bt Z d (lostB iso cut sh d) := by
  obtain ⟨Z1, e1, z1⟩ := dead_eq hd hI hS
  have hB : Bt (K ||| Z1) (d + 1) (blk iso cut sh d) := hK.or z1
  obtain ⟨Z2, e2, z2⟩ := lostA_loop hd hB d 1000 0 _ (by omega) (by omega) (fun w hw => absurd hw (by omega)) ((Bt.full hd).cong (fun j _ => by simp))
  obtain ⟨Z3, e3, z3⟩ := lostB_loop hd hB (P := fun j => anyb (blk iso cut sh d) (j + 1)) d 1000 Z2 (by omega) (by omega) (fun w h3 h4 => absurd h3 (by omega)) (z2.cong (fun j hj => by simp [hj]))
  unfold f_X2_lostDevices
  rw [e1]
  simp only [Option.bind_some]
  rw [show nI 0 = (0 : Int32) from rfl] at e2
  rw [e2]
  simp only [Option.bind_some]
  rw [e3]
  exact ⟨Z3, rfl, z3⟩
theorem stopA_loop {b : Nat → Bool} {m : Nat} (hm : m ≤ 31) (hB : Bt B m b) {i : Nat} (hi : i < m) : ∀ (r n v : Nat), v + r = i + 1 → r < n → f_X2_stopFromA_2 (nI i) B n (nI v) = some (upS b r v) := by
  intro r
  induction r with
  | zero =>
    intro n v h1 h2
    obtain ⟨n, rfl⟩ : ∃ k, n = k + 1 := ⟨n - 1, by omega⟩
    rw [f_X2_stopFromA_2, if_pos (nI_lt (by omega) (by omega))]; rfl
  | succ r ih =>
    intro n v h1 h2
    obtain ⟨n, rfl⟩ : ∃ k, n = k + 1 := ⟨n - 1, by omega⟩
    rw [f_X2_stopFromA_2, if_neg (nI_nlt (by omega) (by omega)), hB.bit hm (i := v) (by omega)]
    simp only [Option.bind_some]
    rw [nI1, ih n (v + 1) (by omega) (by omega), upS]
    cases b v <;> rfl
theorem stopB_loop {b : Nat → Bool} {m : Nat} (hm : m ≤ 31) (hB : Bt B m b) {i : Nat} : ∀ (r n v : Nat), v = i + r → v < m → r < n → f_X2_stopFromB_2 (nI i) B n (nI v) = some (dnS b r v) := by
  intro r
  induction r with
  | zero =>
    intro n v h1 h3 h2
    obtain ⟨n, rfl⟩ : ∃ k, n = k + 1 := ⟨n - 1, by omega⟩
    rw [f_X2_stopFromB_2, if_pos (nI_le (by omega) (by omega))]; rfl
  | succ r ih =>
    intro n v h1 h3 h2
    obtain ⟨n, rfl⟩ : ∃ k, n = k + 1 := ⟨n - 1, by omega⟩
    obtain ⟨v, rfl⟩ : ∃ k, v = k + 1 := ⟨v - 1, by omega⟩
    rw [f_X2_stopFromB_2, if_neg (nI_ge (by omega) (by omega)), hB.bit hm (i := v + 1) (by omega)]
    simp only [Option.bind_some]
    rw [pk_m1, ih n v (by omega) (by omega) (by omega), dnS, Nat.add_sub_cancel]
    cases b (v + 1) <;> rfl
theorem stopA_eq {b : Nat → Bool} (hd : d ≤ 12) (hB : Bt B (d + 1) b) {i : Nat} (hi : i < d) : f_X2_stopFromA (nI i) B = some (upS b (i + 1) 0) := by
  unfold f_X2_stopFromA
  have h := stopA_loop (by omega) hB (i := i) (by omega) (i + 1) 1000 0 (by omega) (by omega)
  rw [show nI 0 = (0 : Int32) from rfl] at h
  exact h
theorem stopB_eq {b : Nat → Bool} (hd : d ≤ 12) (hB : Bt B (d + 1) b) {i : Nat} (hi : i < d) : f_X2_stopFromB (nI d) (nI i) B = some (dnS b (d - i) d) := by
  unfold f_X2_stopFromB
  exact stopB_loop (by omega) hB (i := i) (d - i) 1000 d (by omega) (by omega) (by omega)
theorem lost_up {b : Nat → Bool} {i d : Nat} (hd : d ≤ 12) (hi : i < d) : anyb b (i + 1) = !decide (upS b (i + 1) 0 = -4) := by
  cases q : anyb b (i + 1) with
  | false => rw [show decide (upS b (i + 1) 0 = -4) = true from decide_eq_true ((upS_none (by omega)).mpr (fun j hj => by rw [Nat.zero_add]; exact anyb_no.mp q j hj))]; rfl
  | true =>
    rw [show decide (upS b (i + 1) 0 = -4) = false from decide_eq_false (fun z => by
      obtain ⟨j, h1, h2⟩ := anyb_iff.mp q
      have := (upS_none (by omega)).mp z j h1
      rw [Nat.zero_add, h2] at this; cases this)]; rfl
theorem lost_dn {b : Nat → Bool} {i d : Nat} (hd : d ≤ 12) (hi : i < d) : anyb (fun j => b (i + 1 + j)) (d - i) = !decide (dnS b (d - i) d = -4) := by
  cases q : anyb (fun j => b (i + 1 + j)) (d - i) with
  | false => rw [show decide (dnS b (d - i) d = -4) = true from decide_eq_true ((dnS_none (by omega) (by omega)).mpr (fun j hj => by have := anyb_no.mp q (d - i - 1 - j) (by omega); rw [show i + 1 + (d - i - 1 - j) = d - j by omega] at this; exact this))]; rfl
  | true =>
    rw [show decide (dnS b (d - i) d = -4) = false from decide_eq_false (fun z => by
      obtain ⟨j, h1, h2⟩ := anyb_iff.mp q
      have := (dnS_none (by omega) (by omega)).mp z (d - (i + 1 + j)) (by omega)
      rw [show d - (d - (i + 1 + j)) = i + 1 + j by omega, h2] at this; cases this)]; rfl
end LD
/-! the reference's ring; sa, ia: the wire that is short for a while, the device with an isolator for a while -/
def isoE (t : FN) (ia : Int32) (i : Nat) : Bool := decide (t (3 * i + 2) = 1) || decide (nI i = ia)
def cutE (s : FN) (sa : Int32) (w : Nat) : Bool := !decide (nI w = sa) && decide (s (48 + w) = 1)
def shE (s : FN) (sa : Int32) (w : Nat) : Bool := decide (nI w = sa) || decide (s (48 + w) = 2)
section MR
variable {t s : FN} {sa ia : Int32} {d : Nat}
theorem how_eq {w : Nat} (hw : w ≤ 12) : f_X6_how sa s (nI w) = some (if nI w = sa then 2 else s (48 + w)) := by
  have e : (48 : Int32) + nI w = nI (48 + w) := nI_add 48 w
  unfold f_X6_how
  rw [e, if_pos ((gi_nI (by omega)).mpr (by omega)), nI_clamp (by omega)]
  split <;> rfl
theorem str_loop {w : Nat} (hw : w ≤ 12) : ∀ (r n v : Nat), v + r = w → r < n → f_X6_stretch_4 ia t (nI w) n (nI (fb_ct (isoE t ia) v)) (nI v) = some (nI (fb_ct (isoE t ia) w)) := by
  intro r
  induction r with
  | zero =>
    intro n v h1 h2
    obtain ⟨n, rfl⟩ : ∃ k, n = k + 1 := ⟨n - 1, by omega⟩
    rw [f_X6_stretch_4, if_pos (nI_le (by omega) (by omega)), show v = w by omega]
  | succ r ih =>
    intro n v h1 h2
    obtain ⟨n, rfl⟩ : ∃ k, n = k + 1 := ⟨n - 1, by omega⟩
    have e1 : (3 : Int32) * nI v + 2 = nI (3 * v + 2) := by rw [show (3 : Int32) = nI 3 from rfl, show (2 : Int32) = nI 2 from rfl, pk_mul, nI_add]
    have hi := ih n (v + 1) (by omega) (by omega)
    rw [fb_ct_succ] at hi
    rw [f_X6_stretch_4, if_neg (nI_ge (by omega) (by omega)), e1, if_pos ((gi_nI (by omega)).mpr (by omega)), nI_clamp (by omega), nI1, nI1]
    by_cases q1 : t (3 * v + 2) = 1
    · rw [if_pos q1]
      rw [show isoE t ia v = true by unfold isoE; simp [q1]] at hi
      simpa using hi
    · rw [if_neg q1]
      by_cases q2 : nI v = ia
      · rw [if_pos q2]
        rw [show isoE t ia v = true by unfold isoE; simp [q2]] at hi
        simpa using hi
      · rw [if_neg q2]
        rw [show isoE t ia v = false by unfold isoE; simp [q1, q2]] at hi
        simpa using hi
theorem str_eq {w : Nat} (hw : w ≤ 12) : f_X6_stretch ia t (nI w) = some (nI (fb_ct (isoE t ia) w)) := by
  unfold f_X6_stretch
  have h := str_loop (t := t) (ia := ia) hw w 1000 0 (by omega) (by omega)
  rw [show nI (fb_ct (isoE t ia) 0) = (0 : Int32) from rfl, show nI 0 = (0 : Int32) from rfl] at h
  rw [h]; rfl
theorem ct12 (P : Nat → Bool) {w : Nat} (h : w ≤ 12) : fb_ct P w < 2 ^ 31 := by have := fb_ct_le P w; omega
theorem shin_loop (hd : d ≤ 12) (ht : t 60 = nI d) {st : Nat} (hst : st < 2 ^ 31) : ∀ (r n v : Nat), v + r = d + 1 → r < n → f_X6_shortIn_2 sa ia t s (nI st) n (nI v) = some (upS (fun w => shE s sa w && decide (fb_ct (isoE t ia) w = st)) r v) := by
  intro r
  induction r with
  | zero =>
    intro n v h1 h2
    obtain ⟨n, rfl⟩ : ∃ k, n = k + 1 := ⟨n - 1, by omega⟩
    rw [f_X6_shortIn_2, show (60 : Int32).toNatClampNeg = 60 from rfl, ht, if_pos (nI_lt (by omega) (by omega))]; rfl
  | succ r ih =>
    intro n v h1 h2
    obtain ⟨n, rfl⟩ : ∃ k, n = k + 1 := ⟨n - 1, by omega⟩
    rw [f_X6_shortIn_2, show (60 : Int32).toNatClampNeg = 60 from rfl, ht, if_neg (nI_nlt (by omega) (by omega)), str_eq (by omega), how_eq (by omega)]
    simp only [Option.bind_some]
    rw [nI1, ih n (v + 1) (by omega) (by omega), upS]
    by_cases q1 : fb_ct (isoE t ia) v = st
    · rw [if_pos (by rw [q1]), q1]
      by_cases q2 : nI v = sa
      · rw [if_pos (show (if nI v = sa then (2 : Int32) else s (48 + v)) = 2 by rw [if_pos q2])]
        simp [shE, q2]
      · rw [if_neg q2]
        by_cases q3 : s (48 + v) = 2
        · rw [if_pos q3]; simp [shE, q3]
        · rw [if_neg q3]; simp [shE, q2, q3]
    · rw [if_neg (fun z => q1 ((nI_eq (ct12 _ (by omega)) hst).mp z))]
      simp [q1]
theorem shin_eq (hd : d ≤ 12) (ht : t 60 = nI d) {st : Nat} (hst : st < 2 ^ 31) : f_X6_shortIn sa ia t s (nI st) = some (upS (fun w => shE s sa w && decide (fb_ct (isoE t ia) w = st)) (d + 1) 0) := by
  unfold f_X6_shortIn
  have h := shin_loop (sa := sa) (ia := ia) (s := s) hd ht hst (d + 1) 1000 0 (by omega) (by omega)
  rw [show nI 0 = (0 : Int32) from rfl] at h
  exact h
theorem goes_eq (hd : d ≤ 12) (ht : t 60 = nI d) {w : Nat} (hw : w ≤ d) : f_X6_goesOn sa ia t s (nI w) = some (if blk (isoE t ia) (cutE s sa) (shE s sa) d w then 0 else 1) := by
  unfold f_X6_goesOn
  rw [how_eq (by omega), str_eq (by omega)]
  simp only [Option.bind_some]
  rw [shin_eq hd ht (ct12 _ (by omega))]
  simp only [Option.bind_some]
  have hdd : dead (isoE t ia) (shE s sa) d w = !decide (upS (fun v => shE s sa v && decide (fb_ct (isoE t ia) v = fb_ct (isoE t ia) w)) (d + 1) 0 = -4) := by
    unfold dead
    cases q : anyb (fun v => shE s sa v && decide (fb_ct (isoE t ia) v = fb_ct (isoE t ia) w)) (d + 1) with
    | false => rw [show decide (upS _ (d + 1) 0 = -4) = true from decide_eq_true ((upS_none (by omega)).mpr (fun j hj => by rw [Nat.zero_add]; exact anyb_no.mp q j hj))]; rfl
    | true =>
      rw [show decide (upS _ (d + 1) 0 = -4) = false from decide_eq_false (fun z => by
        obtain ⟨j, h1, h2⟩ := anyb_iff.mp q
        have := (upS_none (by omega)).mp z j h1
        rw [Nat.zero_add, h2] at this; cases this)]; rfl
  unfold blk
  rw [hdd]
  by_cases q1 : nI w = sa
  · rw [if_pos q1, if_neg (show ¬ (2 : Int32) = 1 by decide), show cutE s sa w = false by unfold cutE; simp [q1]]
    by_cases q2 : upS (fun v => shE s sa v && decide (fb_ct (isoE t ia) v = fb_ct (isoE t ia) w)) (d + 1) 0 = -4
    · rw [if_pos q2]; simp [q2]
    · rw [if_neg q2]; simp [q2]
  · rw [if_neg q1]
    by_cases q3 : s (48 + w) = 1
    · rw [if_pos q3, show cutE s sa w = true by unfold cutE; simp [q1, q3]]; simp
    · rw [if_neg q3, show cutE s sa w = false by unfold cutE; simp [q3]]
      by_cases q2 : upS (fun v => shE s sa v && decide (fb_ct (isoE t ia) v = fb_ct (isoE t ia) w)) (d + 1) 0 = -4
      · rw [if_pos q2]; simp [q2]
      · rw [if_neg q2]; simp [q2]
theorem stA_loop (hd : d ≤ 12) (ht : t 60 = nI d) {i : Nat} (hi : i < d) : ∀ (r n v : Nat), v + r = i + 1 → r < n → f_X6_stops_17 sa ia t s (nI i) 1 n (nI v) = some (upS (blk (isoE t ia) (cutE s sa) (shE s sa) d) r v) := by
  intro r
  induction r with
  | zero =>
    intro n v h1 h2
    obtain ⟨n, rfl⟩ : ∃ k, n = k + 1 := ⟨n - 1, by omega⟩
    rw [f_X6_stops_17, if_pos rfl, if_pos (nI_lt (by omega) (by omega))]; rfl
  | succ r ih =>
    intro n v h1 h2
    obtain ⟨n, rfl⟩ : ∃ k, n = k + 1 := ⟨n - 1, by omega⟩
    rw [f_X6_stops_17, if_pos rfl, if_neg (nI_nlt (by omega) (by omega)), goes_eq hd ht (by omega)]
    simp only [Option.bind_some]
    rw [if_pos trivial, nI1, ih n (v + 1) (by omega) (by omega), upS]
    cases blk (isoE t ia) (cutE s sa) (shE s sa) d v <;> rfl
theorem stB_loop (hd : d ≤ 12) (ht : t 60 = nI d) {i : Nat} : ∀ (r n v : Nat), v = i + r → v ≤ d → r < n → f_X6_stops_17 sa ia t s (nI i) 2 n (nI v) = some (dnS (blk (isoE t ia) (cutE s sa) (shE s sa) d) r v) := by
  intro r
  induction r with
  | zero =>
    intro n v h1 h3 h2
    obtain ⟨n, rfl⟩ : ∃ k, n = k + 1 := ⟨n - 1, by omega⟩
    rw [f_X6_stops_17, if_neg (show ¬ (2 : Int32) = 1 by decide), if_pos (nI_le (by omega) (by omega))]; rfl
  | succ r ih =>
    intro n v h1 h3 h2
    obtain ⟨n, rfl⟩ : ∃ k, n = k + 1 := ⟨n - 1, by omega⟩
    obtain ⟨v, rfl⟩ : ∃ k, v = k + 1 := ⟨v - 1, by omega⟩
    rw [f_X6_stops_17, if_neg (show ¬ (2 : Int32) = 1 by decide), if_neg (nI_ge (by omega) (by omega)), goes_eq hd ht (by omega)]
    simp only [Option.bind_some]
    rw [if_neg (show ¬ (2 : Int32) = 1 by decide), pk_m1, ih n v (by omega) (by omega) (by omega), dnS, Nat.add_sub_cancel]
    cases blk (isoE t ia) (cutE s sa) (shE s sa) d (v + 1) <;> rfl
theorem stA_eq (hd : d ≤ 12) (ht : t 60 = nI d) {i : Nat} (hi : i < d) : f_X6_stops sa ia t s (nI i) 1 = some (upS (blk (isoE t ia) (cutE s sa) (shE s sa) d) (i + 1) 0) := by
  unfold f_X6_stops
  rw [if_pos rfl]
  simp only [Option.bind_some]
  have h := stA_loop (sa := sa) (ia := ia) (s := s) hd ht hi (i + 1) 1000 0 (by omega) (by omega)
  rw [show nI 0 = (0 : Int32) from rfl] at h
  exact h
theorem stB_eq (hd : d ≤ 12) (ht : t 60 = nI d) {i : Nat} (hi : i < d) : f_X6_stops sa ia t s (nI i) 2 = some (dnS (blk (isoE t ia) (cutE s sa) (shE s sa) d) (d - i) d) := by
  unfold f_X6_stops
  rw [if_neg (show ¬ (2 : Int32) = 1 by decide), show (60 : Int32).toNatClampNeg = 60 from rfl, ht]
  simp only [Option.bind_some]
  exact stB_loop hd ht (i := i) (d - i) 1000 d (by omega) (by omega) (by omega)
theorem isLost_eq (hd : d ≤ 12) (ht : t 60 = nI d) {i : Nat} (hi : i < d) : f_X6_isLost sa ia t s (nI i) = some (if lostB (isoE t ia) (cutE s sa) (shE s sa) d i then 1 else 0) := by
  unfold f_X6_isLost lostB
  rw [stA_eq hd ht hi, stB_eq hd ht hi, lost_up hd hi, lost_dn hd hi]
  simp only [Option.bind_some]
  by_cases q1 : upS (blk (isoE t ia) (cutE s sa) (shE s sa) d) (i + 1) 0 = -4
  · rw [if_pos q1]; simp [q1]
  · rw [if_neg q1]
    by_cases q2 : dnS (blk (isoE t ia) (cutE s sa) (shE s sa) d) (d - i) d = -4
    · rw [if_pos q2]; simp [q2]
    · rw [if_neg q2]; simp [q1, q2]
theorem many_loop (hd : d ≤ 12) (ht : t 60 = nI d) : ∀ (r n v : Nat), v + r = d → r < n → f_X6_lostMany_4 sa ia t s n (nI (fb_ct (lostB (isoE t ia) (cutE s sa) (shE s sa) d) v)) (nI v) = some (nI (fb_ct (lostB (isoE t ia) (cutE s sa) (shE s sa) d) d)) := by
  intro r
  induction r with
  | zero =>
    intro n v h1 h2
    obtain ⟨n, rfl⟩ : ∃ k, n = k + 1 := ⟨n - 1, by omega⟩
    rw [f_X6_lostMany_4, show (60 : Int32).toNatClampNeg = 60 from rfl, ht, if_pos (nI_le (by omega) (by omega)), show v = d by omega]
  | succ r ih =>
    intro n v h1 h2
    obtain ⟨n, rfl⟩ : ∃ k, n = k + 1 := ⟨n - 1, by omega⟩
    have hi := ih n (v + 1) (by omega) (by omega)
    rw [fb_ct_succ] at hi
    rw [f_X6_lostMany_4, show (60 : Int32).toNatClampNeg = 60 from rfl, ht, if_neg (nI_ge (by omega) (by omega)), isLost_eq hd ht (by omega)]
    simp only [Option.bind_some]
    rw [nI1]
    cases q : lostB (isoE t ia) (cutE s sa) (shE s sa) d v with
    | false => rw [q] at hi; simpa using hi
    | true => rw [q] at hi; rw [nI1]; simpa using hi
theorem many_eq (hd : d ≤ 12) (ht : t 60 = nI d) : f_X6_lostMany sa ia t s = some (nI (fb_ct (lostB (isoE t ia) (cutE s sa) (shE s sa) d) d)) := by
  unfold f_X6_lostMany
  have h := many_loop (sa := sa) (ia := ia) (s := s) hd ht d 1000 0 (by omega) (by omega)
  rw [show nI (fb_ct (lostB (isoE t ia) (cutE s sa) (shE s sa) d) 0) = (0 : Int32) from rfl, show nI 0 = (0 : Int32) from rfl] at h
  rw [h]; rfl
end MR
