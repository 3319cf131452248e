/-! PURE: the ring: stretches, dead wires, what stops, what is lost -/
theorem nI_ne4 {v : Nat} (h : v < 2 ^ 31) : ¬ nI v = -4 := by
  intro e
  have := nI_pos h
  rw [e] at this
  exact this (by decide)
def upS (P : Nat → Bool) : Nat → Nat → Int32
  | 0, _ => -4
  | r + 1, v => if P v then nI v else upS P r (v + 1)
def dnS (P : Nat → Bool) : Nat → Nat → Int32
  | 0, _ => -4
  | r + 1, v => if P v then nI v else dnS P r (v - 1)
theorem upS_none {P : Nat → Bool} : ∀ {r v : Nat}, v + r < 2 ^ 31 → (upS P r v = -4 ↔ ∀ i, i < r → P (v + i) = false)
  | 0, v, _ => ⟨fun _ i hi => absurd hi (Nat.not_lt_zero i), fun _ => rfl⟩
  | r + 1, v, h => by
    rw [upS]
    cases q : P v with
    | true =>
      rw [if_pos rfl]
      exact ⟨fun z => absurd z (nI_ne4 (by omega)), fun z => absurd (z 0 (by omega)) (by rw [Nat.add_zero, q]; decide)⟩
    | false =>
      rw [if_neg (by decide), upS_none (r := r) (v := v + 1) (by omega)]
      constructor
      · intro z i hi
        by_cases e : i = 0
        · subst e; exact q
        · have := z (i - 1) (by omega)
          rw [show v + 1 + (i - 1) = v + i by omega] at this
          exact this
      · intro z i hi
        have := z (i + 1) (by omega)
        rw [show v + (i + 1) = v + 1 + i by omega] at this
        exact this
theorem dnS_none {P : Nat → Bool} : ∀ {r v : Nat}, v < 2 ^ 31 → r ≤ v + 1 → (dnS P r v = -4 ↔ ∀ i, i < r → P (v - i) = false)
  | 0, v, _, _ => ⟨fun _ i hi => absurd hi (Nat.not_lt_zero i), fun _ => rfl⟩
  | r + 1, v, h, h2 => by
    rw [dnS]
    cases q : P v with
    | true =>
      rw [if_pos rfl]
      exact ⟨fun z => absurd z (nI_ne4 (by omega)), fun z => absurd (z 0 (by omega)) (by rw [Nat.sub_zero, q]; decide)⟩
    | false =>
      by_cases hr : r = 0
      · subst hr
        rw [if_neg (by decide)]
        refine ⟨fun _ i hi => ?_, fun _ => rfl⟩
        rw [show i = 0 by omega]; exact q
      · rw [if_neg (by decide), dnS_none (r := r) (v := v - 1) (by omega) (by omega)]
        constructor
        · intro z i hi
          by_cases e : i = 0
          · subst e; exact q
          · have := z (i - 1) (by omega)
            rw [show v - 1 - (i - 1) = v - i by omega] at this
            exact this
        · intro z i hi
          have := z (i + 1) (by omega)
          rw [show v - (i + 1) = v - 1 - i by omega] at this
          exact this
theorem upS_cong {P R : Nat → Bool} : ∀ {r v : Nat}, (∀ i, i < r → P (v + i) = R (v + i)) → upS P r v = upS R r v
  | 0, _, _ => rfl
  | r + 1, v, h => by
    rw [upS, upS, show P v = R v from h 0 (by omega), upS_cong (P := P) (R := R) (r := r) (v := v + 1) (fun i hi => by have := h (i + 1) (by omega); rw [show v + (i + 1) = v + 1 + i by omega] at this; exact this)]
theorem dnS_cong {P R : Nat → Bool} : ∀ {r v : Nat}, r ≤ v + 1 → (∀ i, i < r → P (v - i) = R (v - i)) → dnS P r v = dnS R r v
  | 0, _, _, _ => rfl
  | r + 1, v, h2, h => by
    rw [dnS, dnS, show P v = R v from h 0 (by omega)]
    by_cases hr : r = 0
    · subst hr; rfl
    · rw [dnS_cong (P := P) (R := R) (r := r) (v := v - 1) (by omega) (fun i hi => by have := h (i + 1) (by omega); rw [show v - (i + 1) = v - 1 - i by omega] at this; exact this)]
/-- dead: some wire of its stretch is short -/
def dead (iso sh : Nat → Bool) (d w : Nat) : Bool := anyb (fun v => sh v && decide (fb_ct iso v = fb_ct iso w)) (d + 1)
def blk (iso cut sh : Nat → Bool) (d w : Nat) : Bool := cut w || dead iso sh d w
theorem dead_cong {iso iso' sh sh' : Nat → Bool} {d w : Nat} (h1 : ∀ i, i < d → iso i = iso' i) (h2 : ∀ v, v ≤ d → sh v = sh' v) (hw : w ≤ d) : dead iso sh d w = dead iso' sh' d w := by
  refine anyb_cong (fun v hv => ?_)
  rw [h2 v (by omega), fb_ct_cong (n := v) (fun i hi => h1 i (by omega)), fb_ct_cong (n := w) (fun i hi => h1 i (by omega))]
theorem ct_gap {P : Nat → Bool} {v w : Nat} (hv : P v = true) (h : v < w) : fb_ct P v < fb_ct P w := by
  have h1 := fb_ct_mono P (m := v + 1) (n := w) (by omega)
  rw [fb_ct_succ, hv] at h1
  simp at h1
  omega
section DW
variable {iso sh : Nat → Bool} {d : Nat} {I S : Int32}
theorem dead_loop (hd : d ≤ 12) (hI : Bt I d iso) (hS : Bt S (d + 1) sh) : ∀ (r n v : Nat) (D T : Int32), v + r = d → r + 1 < n → Bt D (d + 1) (fun j => decide (j < v) && (!decide (fb_ct iso j = fb_ct iso v) && dead iso sh d j)) → Bt T (d + 1) (fun j => decide (j < v) && decide (fb_ct iso j = fb_ct iso v)) → ∃ Z, f_X2_deadWires_8 (nI d) I S n D T (nI v) = some Z ∧ Bt Z (d + 1) (fun j => dead iso sh d j) := by
  intro r
  induction r with
  | zero =>
    intro n v D T h1 h2 hD hT
    obtain ⟨n, rfl⟩ : ∃ k, n = k + 1 + 1 := ⟨n - 2, by omega⟩
    have hv : v = d := by omega
    subst hv
    have hT' := hT.setb (i := v) (by omega) (by omega)
    have hTS := (hT'.and hS).eq0 (by omega)
    rw [f_X2_deadWires_8, if_neg (nI_nlt (by omega) (by omega)), if_pos rfl]
    simp only [Option.bind_some]
    rw [if_neg (show ¬ (1 : Int32) = 0 by decide)]
    by_cases q : (T ||| ((1 : Int32) <<< (nI v &&& 31))) &&& S = 0
    · rw [if_pos q, or0, nI1, f_X2_deadWires_8, if_pos (nI_lt (by omega) (by omega))]
      refine ⟨D, rfl, hD.cong (fun j hj => ?_)⟩
      have hz := hTS.mp q
      have hdv : dead iso sh v v = false := anyb_no.mpr (fun u hu => by
        have := hz u hu
        cases hs : sh u with
        | false => rfl
        | true =>
          rw [hs, Bool.and_true] at this
          by_cases e : u = v
          · subst e; simp at this
          · have hlt : u < v := by omega
            simp [hlt] at this
            simp [this])
      by_cases e : j = v
      · subst e; rw [hdv]; simp
      · have hlt : j < v := by omega
        by_cases g : fb_ct iso j = fb_ct iso v
        · have : dead iso sh v j = dead iso sh v v := by unfold dead; rw [g]
          rw [this, hdv]; simp
        · simp [hlt, g]
    · rw [if_neg q, nI1, f_X2_deadWires_8, if_pos (nI_lt (by omega) (by omega))]
      refine ⟨_, rfl, (hD.or hT').cong (fun j hj => ?_)⟩
      have hdv : dead iso sh v v = true := by
        cases hx : dead iso sh v v with
        | true => rfl
        | false =>
          exfalso
          apply q
          apply hTS.mpr
          intro u hu
          have := anyb_no.mp hx u hu
          cases hs : sh u with
          | false => rw [Bool.and_false]
          | true =>
            rw [hs] at this
            simp at this
            have hne : u ≠ v := fun e => this (by rw [e])
            simp [this, hne]
      by_cases e : j = v
      · subst e; rw [hdv]; simp
      · have hlt : j < v := by omega
        by_cases g : fb_ct iso j = fb_ct iso v
        · have : dead iso sh v j = dead iso sh v v := by unfold dead; rw [g]
          rw [this, hdv]; simp [hlt, g]
        · simp [hlt, g, e]
  | succ r ih =>
    intro n v D T h1 h2 hD hT
    obtain ⟨n, rfl⟩ : ∃ k, n = k + 1 := ⟨n - 1, by omega⟩
    have hT' := hT.setb (i := v) (by omega) (by omega)
    have hTS := (hT'.and hS).eq0 (by omega)
    rw [f_X2_deadWires_8, if_neg (nI_nlt (by omega) (by omega)), if_neg (show ¬ nI v = nI d from fun e => by have := (nI_eq (by omega) (by omega)).mp e; omega), hI.bit (by omega) (i := v) (by omega)]
    simp only [Option.bind_some]
    cases hi : iso v with
    | false =>
      rw [if_neg (show ¬ (if false = true then (1 : Int32) else 0) = 1 by decide)]
      simp only [Option.bind_some]
      rw [if_pos trivial, nI1]
      have hsame : fb_ct iso (v + 1) = fb_ct iso v := by rw [fb_ct_succ, hi]; simp
      refine ih n (v + 1) _ _ (by omega) (by omega) (hD.cong (fun j hj => ?_)) (hT'.cong (fun j hj => ?_))
      · rw [hsame]
        by_cases e : j = v
        · subst e; simp
        · have : (j < v + 1) = (j < v) := by apply propext; omega
          simp only [this]
      · rw [hsame]
        by_cases e : j = v
        · subst e; simp
        · have : (j < v + 1) = (j < v) := by apply propext; omega
          simp only [this]
          simp [e]
    | true =>
      rw [if_pos (show (if true = true then (1 : Int32) else 0) = 1 by decide)]
      simp only [Option.bind_some]
      rw [if_neg (show ¬ (1 : Int32) = 0 by decide)]
      have hup : ∀ j, j ≤ v → ¬ fb_ct iso j = fb_ct iso (v + 1) := by
        intro j hj
        have a1 := fb_ct_mono iso hj
        have a2 := ct_gap hi (Nat.lt_succ_self v)
        have a3 : fb_ct iso v < fb_ct iso (v + 1) := a2
        omega
      have hhi : ∀ u, v < u → ¬ fb_ct iso u = fb_ct iso v := by
        intro u hu
        have := ct_gap hi hu
        omega
      have hT0 : Bt (0 : Int32) (d + 1) (fun j => decide (j < v + 1) && decide (fb_ct iso j = fb_ct iso (v + 1))) := (Bt.zero (d + 1)).cong (fun j hj => by
        by_cases g : j < v + 1
        · have := hup j (by omega)
          simp [this]
        · simp [g])
      by_cases q : (T ||| ((1 : Int32) <<< (nI v &&& 31))) &&& S = 0
      · rw [if_pos q, or0, nI1]
        have hz := hTS.mp q
        have hdv : dead iso sh d v = false := anyb_no.mpr (fun u hu => by
          have := hz u hu
          cases hs : sh u with
          | false => rfl
          | true =>
            rw [hs, Bool.and_true] at this
            by_cases e : u = v
            · subst e; simp at this
            · by_cases hlt : u < v
              · simp [hlt] at this
                simp [this]
              · have := hhi u (by omega)
                simp [this])
        refine ih n (v + 1) _ _ (by omega) (by omega) (hD.cong (fun j hj => ?_)) hT0
        by_cases g : j < v + 1
        · have hn := hup j (by omega)
          by_cases e : j = v
          · subst e; rw [hdv]; simp
          · have hlt : j < v := by omega
            by_cases g2 : fb_ct iso j = fb_ct iso v
            · have : dead iso sh d j = dead iso sh d v := by unfold dead; rw [g2]
              rw [this, hdv]; simp
            · simp [hlt, g2, g, hn]
        · have : ¬ j < v := by omega
          simp [g, this]
      · rw [if_neg q, nI1]
        have hdv : dead iso sh d v = true := by
          cases hx : dead iso sh d v with
          | true => rfl
          | false =>
            exfalso
            apply q
            apply hTS.mpr
            intro u hu
            have := anyb_no.mp hx u hu
            cases hs : sh u with
            | false => rw [Bool.and_false]
            | true =>
              rw [hs] at this
              simp at this
              have hne : u ≠ v := fun e => this (by rw [e])
              simp [this, hne]
        refine ih n (v + 1) _ _ (by omega) (by omega) ((hD.or hT').cong (fun j hj => ?_)) hT0
        by_cases g : j < v + 1
        · have hn := hup j (by omega)
          by_cases e : j = v
          · subst e; rw [hdv]; simp [hn]
          · have hlt : j < v := by omega
            by_cases g2 : fb_ct iso j = fb_ct iso v
            · have : dead iso sh d j = dead iso sh d v := by unfold dead; rw [g2]
              rw [this, hdv]; simp [hlt, g2, g]
              rw [← g2]; exact hn
            · simp [hlt, g2, g, hn, e]
        · have h3 : ¬ j < v := by omega
          have h4 : j ≠ v := by omega
          simp [g, h3, h4]
theorem dead_eq (hd : d ≤ 12) (hI : Bt I d iso) (hS : Bt S (d + 1) sh) : ∃ Z, f_X2_deadWires (nI d) I S = some Z ∧ Bt Z (d + 1) (fun j => dead iso sh d j) := by
  obtain ⟨Z, h1, h2⟩ := dead_loop hd hI hS d 1000 0 0 0 (by omega) (by omega) ((Bt.zero (d + 1)).cong (fun j _ => by simp)) ((Bt.zero (d + 1)).cong (fun j _ => by simp))
  unfold f_X2_deadWires
  rw [show nI 0 = (0 : Int32) from rfl] at h1
  rw [h1]
  exact ⟨Z, rfl, h2⟩
end DW
