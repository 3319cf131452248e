/-! PURE: the text: letters, numbers -/
def hE (L : FN) (n a : Nat) : Int32 := if a < n then L a else 0
theorem hE_cong {L L' : FN} {n : Nat} (h : ∀ i, i < n → L i = L' i) : hE L n = hE L' n := by
  funext a
  unfold hE
  by_cases c : a < n
  · rw [if_pos c, if_pos c, h a c]
  · rw [if_neg c, if_neg c]
theorem here_eq (L : FN) {n a : Nat} (hn : n ≤ 200) (ha : a < 1000) : f_X4_here (nI a) (nI n) L = some (hE L n a) := by
  unfold f_X4_here hE
  by_cases c : a < n
  · rw [if_neg (nI_ge c (by omega)), if_pos ((gi_nI (by omega)).mpr (by omega)), nI_clamp (by omega), if_pos c]
  · rw [if_pos (nI_le (by omega) (by omega)), if_neg c]
theorem byte_eq (L : FN) {n a : Nat} (hn : n ≤ 200) (ha : a < 1000) : f_X6_byteAt (nI n) L (nI a) = some (hE L n a) := by
  unfold f_X6_byteAt hE
  by_cases c : a < n
  · rw [if_neg (nI_ge c (by omega)), if_pos ((gi_nI (by omega)).mpr (by omega)), nI_clamp (by omega), if_pos c]
  · rw [if_pos (nI_le (by omega) (by omega)), if_neg c]
theorem fig_eq (x : Int32) : f_X4_isFigure x = some (wi x 48 57) := by
  unfold f_X4_isFigure wi
  simp only [Int32.lt_iff_toInt_lt, Int32.le_iff_toInt_le]
  split
  · rw [if_neg (by omega)]
  · split
    · rw [if_neg (by omega)]
    · rw [if_pos (by omega)]
theorem wiN {i a b : Nat} (hi : i < 2 ^ 31) (ha : a < 2 ^ 31) (hb : b < 2 ^ 31) : wi (nI i) (nI a) (nI b) = if a ≤ i ∧ i ≤ b then 1 else 0 := by
  unfold wi
  by_cases c : a ≤ i ∧ i ≤ b
  · rw [if_pos c, if_pos ⟨nI_le c.1 hi, nI_le c.2 hb⟩]
  · rw [if_neg c, if_neg (fun z => c ⟨(nI_leI ha hi).mp z.1, (nI_leI hi hb).mp z.2⟩)]
theorem dig {c : Int32} (h : ¬ wi c 48 57 = 0) : ∃ j, j ≤ 9 ∧ c = nI (48 + j) := by
  obtain ⟨i, h1, h2, rfl⟩ := wi_nI (a := 48) (b := 57) (by decide) (by decide) h
  exact ⟨i - 48, by omega, by rw [show 48 + (i - 48) = i by omega]⟩
theorem sub48 (j : Nat) : nI (48 + j) - 48 = nI j := by
  rw [Nat.add_comm, ← nI_add]
  show nI j + nI 48 - nI 48 = nI j
  exact Int32.add_sub_cancel _ _
def nmE (h : Nat → Int32) (a : Nat) : Option (Nat × Nat) := if wi (h a) 48 57 = 0 then none else if wi (h (a + 1)) 48 57 = 0 then some ((h a).toNatClampNeg - 48, a + 1) else some (10 * ((h a).toNatClampNeg - 48) + ((h (a + 1)).toNatClampNeg - 48), a + 2)
def nuE (h : Nat → Int32) (a : Nat) (sep : Int32) : Option (Nat × Nat) := match nmE h a with
  | none => none
  | some p => if h p.2 = sep then some (p.1, p.2 + 1) else none
theorem nm_bd {h : Nat → Int32} {a v a' : Nat} (e : nmE h a = some (v, a')) : v ≤ 99 ∧ a < a' ∧ a' ≤ a + 2 ∧ ¬ wi (h a) 48 57 = 0 ∧ (a' = a + 1 ∨ (a' = a + 2 ∧ ¬ wi (h (a + 1)) 48 57 = 0)) := by
  unfold nmE at e
  by_cases c1 : wi (h a) 48 57 = 0
  · rw [if_pos c1] at e; cases e
  · rw [if_neg c1] at e
    obtain ⟨j1, hj1, e1⟩ := dig c1
    rw [e1, nI_clamp (by omega), Nat.add_sub_cancel_left] at e
    by_cases c2 : wi (h (a + 1)) 48 57 = 0
    · rw [if_pos c2] at e
      have := Option.some.inj e
      have h1 := congrArg Prod.fst this
      have h2 := congrArg Prod.snd this
      simp only at h1 h2
      exact ⟨by omega, by omega, by omega, c1, Or.inl (by omega)⟩
    · rw [if_neg c2] at e
      obtain ⟨j2, hj2, e2⟩ := dig c2
      rw [e2, nI_clamp (by omega), Nat.add_sub_cancel_left] at e
      have := Option.some.inj e
      have h1 := congrArg Prod.fst this
      have h2 := congrArg Prod.snd this
      simp only at h1 h2
      exact ⟨by omega, by omega, by omega, c1, Or.inr ⟨by omega, c2⟩⟩
theorem nu_nm {h : Nat → Int32} {a v a2 : Nat} {sep : Int32} (e : nuE h a sep = some (v, a2)) : ∃ a', nmE h a = some (v, a') ∧ h a' = sep ∧ a2 = a' + 1 := by
  unfold nuE at e
  cases q : nmE h a with
  | none => rw [q] at e; cases e
  | some p =>
    rw [q] at e
    simp only at e
    by_cases c : h p.2 = sep
    · rw [if_pos c] at e
      have := Option.some.inj e
      have h1 := congrArg Prod.fst this
      have h2 := congrArg Prod.snd this
      simp only at h1 h2
      exact ⟨p.2, by rw [← h1], c, h2.symm⟩
    · rw [if_neg c] at e; cases e
theorem nu_none {h : Nat → Int32} {a : Nat} {sep : Int32} (e : nuE h a sep = none) : nmE h a = none ∨ ∃ p, nmE h a = some p ∧ ¬ h p.2 = sep := by
  unfold nuE at e
  cases q : nmE h a with
  | none => exact Or.inl rfl
  | some p =>
    rw [q] at e
    simp only at e
    by_cases c : h p.2 = sep
    · rw [if_pos c] at e; cases e
    · exact Or.inr ⟨p, rfl, c⟩
/-- where a number and its end stand, there the text goes on so far -/
theorem nu_bd {L : FN} {n a v a2 : Nat} {sep : Int32} (hs : ¬ sep = 0) (e : nuE (hE L n) a sep = some (v, a2)) : v ≤ 99 ∧ a < a2 ∧ a2 ≤ n := by
  obtain ⟨a', h1, h2, rfl⟩ := nu_nm e
  obtain ⟨b1, b2, -⟩ := nm_bd h1
  refine ⟨b1, by omega, ?_⟩
  by_cases c : a' < n
  · omega
  · exfalso
    apply hs
    rw [← h2]
    exact if_neg c
theorem rn_eq {L nums : FN} {n a k : Nat} (hn : n ≤ 200) (ha : a < 900) (hk : k < 4) : f_X4_readNumber (nI a) (nI n) L nums (nI k) = (match nmE (hE L n) a with
    | none => some (0, nI a, nums)
    | some p => some (1, nI p.2, upd nums k (nI p.1))) := by
  have g : gi (nI k) 4 := (gi_nI (by omega)).mpr hk
  unfold f_X4_readNumber nmE
  simp only [if_pos g, nI_clamp (show k < 2 ^ 31 by omega), nI1]
  rw [here_eq L hn (show a < 1000 by omega), here_eq L hn (show a + 1 < 1000 by omega)]
  simp only [Option.bind_some, fig_eq]
  by_cases c1 : wi (hE L n a) 48 57 = 0
  · simp only [c1, ↓reduceIte]
  · obtain ⟨j1, hj1, e1⟩ := dig c1
    have v1 : hE L n a - 48 = nI j1 := by rw [e1, sub48]
    have w1 : (hE L n a).toNatClampNeg - 48 = j1 := by rw [e1, nI_clamp (by omega), Nat.add_sub_cancel_left]
    by_cases c2 : wi (hE L n (a + 1)) 48 57 = 0
    · simp only [c1, c2, ↓reduceIte, v1, w1]
    · obtain ⟨j2, hj2, e2⟩ := dig c2
      have w2 : (hE L n (a + 1)).toNatClampNeg - 48 = j2 := by rw [e2, nI_clamp (by omega), Nat.add_sub_cancel_left]
      have v2 : nI j1 * 10 + hE L n (a + 1) - 48 = nI (10 * j1 + j2) := by
        rw [e2, show (10 : Int32) = nI 10 from rfl, pk_mul, nI_add, show j1 * 10 + (48 + j2) = 48 + (10 * j1 + j2) by omega, sub48]
      simp only [c1, c2, ↓reduceIte, v1, w1, w2, v2]
theorem n6_eq {L : FN} {n a : Nat} (hn : n ≤ 200) (ha : a < 900) (fu : Nat) : f_X6_number_6 (nI n) L (fu + 3) 0 0 (nI a) = (match nmE (hE L n) a with
    | none => some (0, 0, nI a)
    | some p => some (nI p.1, nI (p.2 - a), nI p.2)) := by
  unfold nmE
  rw [f_X6_number_6, if_neg (show ¬ (2 : Int32) ≤ 0 by decide), byte_eq L hn (show a < 1000 by omega)]
  simp only [Option.bind_some]
  rw [in_eq (hE L n a) 48 57 (by decide) (by decide)]
  simp only [Option.bind_some]
  by_cases c1 : wi (hE L n a) 48 57 = 0
  · simp only [c1, ↓reduceIte]
  · obtain ⟨j1, hj1, e1⟩ := dig c1
    have v1 : (10 : Int32) * 0 + hE L n a - 48 = nI j1 := by
      rw [e1, show (10 : Int32) * 0 = nI 0 by decide, nI_add, Nat.zero_add, sub48]
    have w1 : (hE L n a).toNatClampNeg - 48 = j1 := by rw [e1, nI_clamp (by omega), Nat.add_sub_cancel_left]
    rw [if_neg c1, v1, nI1, show (0 : Int32) + 1 = 1 by decide, f_X6_number_6, if_neg (show ¬ (2 : Int32) ≤ 1 by decide), byte_eq L hn (show a + 1 < 1000 by omega)]
    simp only [Option.bind_some]
    rw [in_eq (hE L n (a + 1)) 48 57 (by decide) (by decide)]
    simp only [Option.bind_some]
    by_cases c2 : wi (hE L n (a + 1)) 48 57 = 0
    · simp only [c1, c2, ↓reduceIte, w1, Nat.add_sub_cancel_left]; rfl
    · obtain ⟨j2, hj2, e2⟩ := dig c2
      have w2 : (hE L n (a + 1)).toNatClampNeg - 48 = j2 := by rw [e2, nI_clamp (by omega), Nat.add_sub_cancel_left]
      have v2 : (10 : Int32) * nI j1 + hE L n (a + 1) - 48 = nI (10 * j1 + j2) := by
        rw [e2, show (10 : Int32) = nI 10 from rfl, pk_mul, nI_add, show 10 * j1 + (48 + j2) = 48 + (10 * j1 + j2) by omega, sub48]
      rw [if_neg c2, v2, nI1, show (1 : Int32) + 1 = 2 by decide, f_X6_number_6, if_pos (show (2 : Int32) ≤ 2 by decide)]
      simp only [c1, c2, ↓reduceIte, w1, w2, Nat.add_sub_cancel_left]; rfl
def nsE (h : Nat → Int32) (a : Nat) (sep : Int32) (lo hi : Nat) : Option (Nat × Nat) := match nuE h a sep with
  | none => none
  | some p => if lo ≤ p.1 ∧ p.1 ≤ hi then some p else none
theorem ns_some {h : Nat → Int32} {a lo hi v a2 : Nat} {sep : Int32} (e : nuE h a sep = some (v, a2)) (h1 : lo ≤ v) (h2 : v ≤ hi) : nsE h a sep lo hi = some (v, a2) := by
  unfold nsE
  rw [e]
  exact if_pos ⟨h1, h2⟩
theorem ns_inv {h : Nat → Int32} {a lo hi v a2 : Nat} {sep : Int32} (e : nsE h a sep lo hi = some (v, a2)) : nuE h a sep = some (v, a2) ∧ lo ≤ v ∧ v ≤ hi := by
  unfold nsE at e
  cases q : nuE h a sep with
  | none => rw [q] at e; cases e
  | some p =>
    rw [q] at e
    simp only at e
    by_cases c : lo ≤ p.1 ∧ p.1 ≤ hi
    · rw [if_pos c] at e
      have := Option.some.inj e
      subst this
      exact ⟨rfl, c⟩
    · rw [if_neg c] at e; cases e
theorem num_all {L rd : FN} {n a to lo hi : Nat} {sep : Int32} (hn : n ≤ 200) (ha : a < 900) (hto : to < 67) (hlo : lo < 1000) (hhi : hi < 1000) :
    (∀ v a2, nsE (hE L n) a sep lo hi = some (v, a2) → f_X6_number (nI n) (nI a) L rd (nI to) (nI lo) (nI hi) sep = some (1, nI a2, upd rd to (nI v))) ∧
    (nsE (hE L n) a sep lo hi = none → ∃ w rd', f_X6_number (nI n) (nI a) L rd (nI to) (nI lo) (nI hi) sep = some (0, w, rd')) := by
  have g : gi (nI to) 67 := (gi_nI (by omega)).mpr hto
  have h6 := n6_eq (L := L) hn ha 997
  unfold f_X6_number
  simp only [if_pos g, nI_clamp (show to < 2 ^ 31 by omega)]
  cases q : nmE (hE L n) a with
  | none =>
    rw [q] at h6
    have hu : nuE (hE L n) a sep = none := by unfold nuE; rw [q]
    have hs : nsE (hE L n) a sep lo hi = none := by unfold nsE; rw [hu]
    refine ⟨fun v a2 e => by (rw [hs] at e; cases e), fun _ => ⟨nI a + 1, upd rd to 0, ?_⟩⟩
    refine (bind_of h6).trans ?_
    rw [if_pos (show (0 : Int32) ≤ 0 by decide)]
    rfl
  | some p =>
    obtain ⟨v, a'⟩ := p
    rw [q] at h6
    obtain ⟨b1, b2, b3, -⟩ := nm_bd q
    have hno : ¬ nI (a' - a) ≤ 0 := nI_nle (by omega) (by omega)
    have hin : f_X6_in (nI v).toInt64 (nI lo).toInt64 (nI hi).toInt64 = some (if lo ≤ v ∧ v ≤ hi then 1 else 0) := by
      rw [in_eq (nI v) (nI lo) (nI hi) rfl rfl, wiN (by omega) (by omega) (by omega)]
    have hby := byte_eq L hn (show a' < 1000 by omega)
    have hu : nuE (hE L n) a sep = if hE L n a' = sep then some (v, a' + 1) else none := by unfold nuE; rw [q]
    constructor
    · intro v' a2 e
      obtain ⟨e1, e2, e3⟩ := ns_inv e
      rw [hu] at e1
      by_cases c : hE L n a' = sep
      · rw [if_pos c] at e1
        have hh := Option.some.inj e1
        have hv : v = v' := congrArg Prod.fst hh
        have ha2 : a' + 1 = a2 := congrArg Prod.snd hh
        subst hv ha2
        refine (bind_of h6).trans ?_
        simp only
        rw [if_neg hno, hin, if_pos ⟨e2, e3⟩]
        simp only [Option.bind_some]
        rw [if_neg (show ¬ (1 : Int32) = 0 by decide), hby]
        simp only [Option.bind_some]
        rw [if_pos c, nI1]
        rfl
      · rw [if_neg c] at e1; cases e1
    · intro e
      by_cases r : lo ≤ v ∧ v ≤ hi
      · have c : ¬ hE L n a' = sep := by
          intro c
          have : nsE (hE L n) a sep lo hi = some (v, a' + 1) := ns_some (by rw [hu, if_pos c]) r.1 r.2
          rw [this] at e; cases e
        refine ⟨nI a' + 1, upd rd to (nI v), ?_⟩
        refine (bind_of h6).trans ?_
        simp only
        rw [if_neg hno, hin, if_pos r]
        simp only [Option.bind_some]
        rw [if_neg (show ¬ (1 : Int32) = 0 by decide), hby]
        simp only [Option.bind_some]
        rw [if_neg c]
        rfl
      · refine ⟨nI a' + 1, upd rd to (nI v), ?_⟩
        refine (bind_of h6).trans ?_
        simp only
        rw [if_neg hno, hin, if_neg r]
        rfl
/-! the class's loop over an item's numbers -/
abbrev PW : Type := Int32 × Int32 × Int32 × Int32 × Int32 × Int32 × Int32 × Int32 × Int32 × FN × FN × FN × FN × FN
def RI (n : Nat) (L : FN) (fu : Nat) (v2 v3 : Int32) (k a : Nat) (nums : FN) (P : PW) : Option (Int32 × Int32 × FN × PW) := f_X4_readItem_29 (nI n) L fu v2 v3 (nI k) (nI a) nums P.1 P.2.1 P.2.2.1 P.2.2.2.1 P.2.2.2.2.1 P.2.2.2.2.2.1 P.2.2.2.2.2.2.1 P.2.2.2.2.2.2.2.1 P.2.2.2.2.2.2.2.2.1 P.2.2.2.2.2.2.2.2.2.1 P.2.2.2.2.2.2.2.2.2.2.1 P.2.2.2.2.2.2.2.2.2.2.2.1 P.2.2.2.2.2.2.2.2.2.2.2.2.1 P.2.2.2.2.2.2.2.2.2.2.2.2.2
theorem RI_ok {L nums : FN} {n fu m k a v a2 : Nat} {v2 sep : Int32} {P : PW} (hn : n ≤ 200) (ha : a < 900) (hm : m ≤ 4) (hk : k < m) (hsep : (if k + 1 = m then (59 : Int32) else 44) = sep) (h : nuE (hE L n) a sep = some (v, a2)) : RI n L (fu + 1) v2 (nI m) k a nums P = RI n L fu v2 (nI m) (k + 1) a2 (upd nums k (nI v)) P := by
  obtain ⟨a', h1, h2, rfl⟩ := nu_nm h
  obtain ⟨b1, b2, b3, -⟩ := nm_bd h1
  have hrn := rn_eq (L := L) (nums := nums) (k := k) hn ha (by omega)
  rw [h1] at hrn
  have hc : (if nI k = nI m - 1 then some (59 : Int32) else some 44) = some sep := by
    rw [← hsep]
    obtain ⟨m', rfl⟩ : ∃ m', m = m' + 1 := ⟨m - 1, by omega⟩
    rw [nI_pred]
    by_cases c : k = m'
    · rw [if_pos (by rw [c]), if_pos (by omega)]
    · rw [if_neg (fun z => c ((nI_eq (by omega) (by omega)).mp z)), if_neg (by omega)]
  unfold RI
  rw [f_X4_readItem_29, if_neg (nI_ge hk (by omega)), if_neg (show ¬ (4 : Int32) ≤ nI k from nI_ge (b := 4) (by omega) (by decide))]
  refine (bind_of hrn).trans ?_
  simp only
  rw [if_neg (show ¬ (1 : Int32) = 0 by decide)]
  refine (bind_of (here_eq L hn (show a' < 1000 by omega))).trans ?_
  refine (bind_of hc).trans ?_
  rw [if_pos h2, nI1, nI1]
theorem RI_no {L nums : FN} {n fu m k a : Nat} {v2 sep : Int32} {P : PW} (hn : n ≤ 200) (ha : a < 900) (hm : m ≤ 4) (hk : k < m) (hsep : (if k + 1 = m then (59 : Int32) else 44) = sep) (h : nuE (hE L n) a sep = none) : ∃ u, RI n L (fu + 1) v2 (nI m) k a nums P = some u ∧ u.1 = 0 := by
  have hrn := rn_eq (L := L) (nums := nums) (k := k) hn ha (by omega)
  have hc : (if nI k = nI m - 1 then some (59 : Int32) else some 44) = some sep := by
    rw [← hsep]
    obtain ⟨m', rfl⟩ : ∃ m', m = m' + 1 := ⟨m - 1, by omega⟩
    rw [nI_pred]
    by_cases c : k = m'
    · rw [if_pos (by rw [c]), if_pos (by omega)]
    · rw [if_neg (fun z => c ((nI_eq (by omega) (by omega)).mp z)), if_neg (by omega)]
  unfold RI
  rw [f_X4_readItem_29, if_neg (nI_ge hk (by omega)), if_neg (show ¬ (4 : Int32) ≤ nI k from nI_ge (b := 4) (by omega) (by decide))]
  rcases nu_none h with q | ⟨⟨v, a'⟩, q, c⟩
  · rw [q] at hrn
    refine ⟨_, (bind_of hrn).trans (if_pos rfl), rfl⟩
  · rw [q] at hrn
    obtain ⟨b1, b2, b3, -⟩ := nm_bd q
    refine ⟨_, (bind_of hrn).trans ((if_neg (show ¬ (1 : Int32) = 0 by decide)).trans ((bind_of (here_eq L hn (show a' < 1000 by omega))).trans ((bind_of hc).trans (if_neg c)))), rfl⟩
