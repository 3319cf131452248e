/-! PURE: numbers, ranges, bits -/
theorem gi_nI {n N : Nat} (h : n < 2 ^ 31) : gi (nI n) N ↔ n < N := by
  constructor
  · intro q
    exact Nat.lt_of_not_le fun z => q (Or.inr (by rw [nI_clamp h]; exact z))
  · intro q z
    rcases z with z | z
    · exact nI_pos h z
    · rw [nI_clamp h] at z; omega
def wi (x lo hi : Int32) : Int32 := if lo ≤ x ∧ x ≤ hi then 1 else 0
theorem within_eq (x lo hi : Int32) : f_X5_within x lo hi = some (wi x lo hi) := by
  unfold f_X5_within wi
  simp only [Int32.lt_iff_toInt_lt, Int32.le_iff_toInt_le]
  split
  · rw [if_neg (by omega)]
  · split
    · rw [if_neg (by omega)]
    · rw [if_pos (by omega)]
theorem in_eq (x lo hi : Int32) {l h : Int64} (hl : l = lo.toInt64) (hh : h = hi.toInt64) : f_X6_in x.toInt64 l h = some (wi x lo hi) := by
  subst hl; subst hh
  unfold f_X6_in wi
  simp only [lg_cmp_lt, lg_cmp_gt, fa_wide_lt]
  simp only [Int32.lt_iff_toInt_lt, Int32.le_iff_toInt_le]
  split
  · rw [if_neg (by omega)]
  · split
    · rw [if_neg (by omega)]
    · rw [if_pos (by omega)]
theorem wi01 (x lo hi : Int32) : wi x lo hi = 0 ∨ wi x lo hi = 1 := by
  unfold wi; split
  · exact Or.inr rfl
  · exact Or.inl rfl
theorem wi0 {x lo hi : Int32} : wi x lo hi = 0 ↔ ¬ (lo ≤ x ∧ x ≤ hi) := by
  unfold wi; split
  · rename_i h
    exact ⟨fun z => absurd z (by decide), fun z => absurd h z⟩
  · rename_i h
    exact ⟨fun _ => h, fun _ => rfl⟩
theorem isDev_eq (d x : Int32) : f_X5_isDevice d x = some (wi x 0 (d - 1)) := by
  unfold f_X5_isDevice
  rw [within_eq]
  exact if_pos (wi01 _ _ _)
theorem isWire_eq (d x : Int32) : f_X5_isWire d x = some (wi x 0 d) := by
  unfold f_X5_isWire
  rw [within_eq]
  exact if_pos (wi01 _ _ _)
theorem misDev_eq (t : FN) (x : Int32) : f_X6_isDevice t x = some (wi x 0 (t 60 - 1)) := by
  unfold f_X6_isDevice
  rw [show (60 : Int32).toNatClampNeg = 60 from rfl, in_eq x 0 (t 60 - 1) (by decide) rfl]
  exact if_pos (wi01 _ _ _)
theorem misWire_eq (t : FN) (x : Int32) : f_X6_isWire t x = some (wi x 0 (t 60)) := by
  unfold f_X6_isWire
  rw [show (60 : Int32).toNatClampNeg = 60 from rfl, in_eq x 0 (t 60) (by decide) rfl]
  exact if_pos (wi01 _ _ _)
theorem wi_nI {x : Int32} {a b : Nat} (hab : a < 2 ^ 31) (hb : b < 2 ^ 31) (h : ¬ wi x (nI a) (nI b) = 0) : ∃ i, a ≤ i ∧ i ≤ b ∧ x = nI i := by
  have h1 : nI a ≤ x ∧ x ≤ nI b := Classical.byContradiction fun z => h (wi0.mpr z)
  obtain ⟨q1, q2⟩ := h1
  rw [Int32.le_iff_toInt_le, nI_toInt hab] at q1
  rw [Int32.le_iff_toInt_le, nI_toInt hb] at q2
  have hx : ¬ x < 0 := by rw [Int32.lt_iff_toInt_lt]; show ¬ x.toInt < 0; omega
  obtain ⟨j, hj, rfl⟩ := nI_of hx
  rw [nI_toInt hj] at q1 q2
  exact ⟨j, by omega, by omega, rfl⟩
theorem wi_yes {i a b : Nat} (h1 : a ≤ i) (h2 : i ≤ b) (hb : b < 2 ^ 31) : wi (nI i) (nI a) (nI b) = 1 := by
  unfold wi
  rw [if_pos ⟨nI_le h1 (by omega), nI_le h2 hb⟩]
/-- x is a place below d -/
theorem dev_of {x : Int32} {d : Nat} (h0 : 1 ≤ d) (hd : d < 2 ^ 31) (h : ¬ wi x 0 (nI d - 1) = 0) : ∃ i, i < d ∧ x = nI i := by
  have e : nI d - 1 = nI (d - 1) := by
    obtain ⟨k, rfl⟩ : ∃ k, d = k + 1 := ⟨d - 1, by omega⟩
    exact nI_pred k
  rw [e] at h
  obtain ⟨i, -, h2, rfl⟩ := wi_nI (a := 0) (b := d - 1) (by decide) (by omega) h
  exact ⟨i, by omega, rfl⟩
theorem wire_of {x : Int32} {d : Nat} (hd : d < 2 ^ 31) (h : ¬ wi x 0 (nI d) = 0) : ∃ i, i ≤ d ∧ x = nI i := by
  obtain ⟨i, -, h2, rfl⟩ := wi_nI (a := 0) (b := d) (by decide) hd h
  exact ⟨i, h2, rfl⟩
/-! bits -/
def Bt (S : Int32) (n : Nat) (P : Nat → Bool) : Prop := ∃ F : Nat, F < 2 ^ n ∧ S = nI F ∧ ∀ i, i < n → F.testBit i = P i
theorem sh31 : ∀ i, i < 31 → (1 : Int32) <<< (nI i &&& 31) = nI (2 ^ i) := by decide +kernel
theorem sm31 : ∀ i, i < 31 → ((nI i &&& 31).toBitVec.smod 32).toNat = i := by decide +kernel
theorem bit_nI {F i : Nat} (hF : F < 2 ^ 31) (hi : i < 31) : f_X5_bit (nI F) (nI i) = some (if F.testBit i then 1 else 0) := by
  unfold f_X5_bit
  rw [pk_shrN hF _ i (sm31 i hi)]
  have e : nI (F / 2 ^ i) &&& 1 = nI (F / 2 ^ i % 2 ^ 1) := pk_andN (by have := Nat.div_le_self F (2 ^ i); omega) 1 (by decide)
  rw [e, Nat.testBit_eq_decide_div_mod_eq]
  rcases Nat.mod_two_eq_zero_or_one (F / 2 ^ i) with h | h
  · rw [show (2 : Nat) ^ 1 = 2 from rfl, h]; rfl
  · rw [show (2 : Nat) ^ 1 = 2 from rfl, h]; rfl
theorem Bt.bit {S : Int32} {n : Nat} {P : Nat → Bool} (h : Bt S n P) (hn : n ≤ 31) {i : Nat} (hi : i < n) : f_X5_bit S (nI i) = some (if P i then 1 else 0) := by
  obtain ⟨F, h1, rfl, h2⟩ := h
  rw [bit_nI (Nat.lt_of_lt_of_le h1 (Nat.pow_le_pow_right (by decide) hn)) (by omega), h2 i hi]
theorem tb_out {F n i : Nat} (h : F < 2 ^ n) (hi : n ≤ i) : F.testBit i = false := Nat.testBit_lt_two_pow (Nat.lt_of_lt_of_le h (Nat.pow_le_pow_right (by decide) hi))
theorem Bt.cong {S : Int32} {n : Nat} {P R : Nat → Bool} (h : Bt S n P) (hq : ∀ i, i < n → P i = R i) : Bt S n R := by
  obtain ⟨F, h1, h2, h3⟩ := h
  exact ⟨F, h1, h2, fun i hi => by rw [h3 i hi, hq i hi]⟩
theorem Bt.or {S T : Int32} {n : Nat} {P R : Nat → Bool} (h : Bt S n P) (h' : Bt T n R) : Bt (S ||| T) n (fun i => P i || R i) := by
  obtain ⟨F, h1, rfl, h3⟩ := h
  obtain ⟨G, g1, rfl, g3⟩ := h'
  refine ⟨F ||| G, Nat.or_lt_two_pow h1 g1, fa_or F G, fun i hi => ?_⟩
  rw [Nat.testBit_or, h3 i hi, g3 i hi]
theorem Bt.and {S T : Int32} {n : Nat} {P R : Nat → Bool} (h : Bt S n P) (h' : Bt T n R) : Bt (S &&& T) n (fun i => P i && R i) := by
  obtain ⟨F, h1, rfl, h3⟩ := h
  obtain ⟨G, g1, rfl, g3⟩ := h'
  refine ⟨F &&& G, Nat.and_lt_two_pow F g1, fa_and F G, fun i hi => ?_⟩
  rw [Nat.testBit_and, h3 i hi, g3 i hi]
theorem nI_bv (n : Nat) : (nI n).toBitVec = BitVec.ofNat 32 n := rfl
theorem andnot (F G : Nat) : nI F &&& (nI G ^^^ (-1)) = nI (F ^^^ (F &&& G)) := by
  apply Int32.toBitVec_inj.1
  show (nI F).toBitVec &&& ((nI G).toBitVec ^^^ BitVec.allOnes 32) = (nI (F ^^^ (F &&& G))).toBitVec
  rw [nI_bv, nI_bv, nI_bv]
  apply BitVec.eq_of_getLsbD_eq
  intro i hi
  simp only [BitVec.getLsbD_and, BitVec.getLsbD_xor, BitVec.getLsbD_ofNat, BitVec.getLsbD_allOnes, Nat.testBit_xor, Nat.testBit_and, hi, decide_true, Bool.true_and]
  cases F.testBit i <;> cases G.testBit i <;> rfl
theorem Bt.diff {S T : Int32} {n : Nat} {P R : Nat → Bool} (h : Bt S n P) (h' : Bt T n R) : Bt (S &&& (T ^^^ (-1))) n (fun i => P i && !R i) := by
  obtain ⟨F, h1, rfl, h3⟩ := h
  obtain ⟨G, g1, rfl, g3⟩ := h'
  refine ⟨F ^^^ (F &&& G), Nat.xor_lt_two_pow h1 (Nat.and_lt_two_pow F g1), andnot F G, fun i hi => ?_⟩
  rw [Nat.testBit_xor, Nat.testBit_and, h3 i hi, g3 i hi]
  show _ = (P i && !R i)
  cases P i <;> cases R i <;> rfl
theorem Bt.one {i n : Nat} (hi : i < n) (hn : n ≤ 31) : Bt ((1 : Int32) <<< (nI i &&& 31)) n (fun j => decide (j = i)) := by
  refine ⟨2 ^ i, Nat.pow_lt_pow_right (by decide) hi, sh31 i (by omega), fun j _ => ?_⟩
  rw [Nat.testBit_two_pow]
  by_cases e : i = j
  · subst e; simp
  · simp [e, Ne.symm e]
theorem Bt.zero (n : Nat) : Bt 0 n (fun _ => false) := ⟨0, Nat.two_pow_pos n, rfl, fun i _ => Nat.zero_testBit i⟩
theorem Bt.eq0 {S : Int32} {n : Nat} {P : Nat → Bool} (h : Bt S n P) (hn : n ≤ 31) : S = 0 ↔ ∀ i, i < n → P i = false := by
  obtain ⟨F, h1, rfl, h3⟩ := h
  have hF : F < 2 ^ 31 := Nat.lt_of_lt_of_le h1 (Nat.pow_le_pow_right (by decide) hn)
  rw [show (0 : Int32) = nI 0 from rfl, nI_eq hF (by decide)]
  constructor
  · intro e i hi
    rw [← h3 i hi, e, Nat.zero_testBit]
  · intro q
    apply Nat.eq_of_testBit_eq
    intro i
    rw [Nat.zero_testBit]
    by_cases hi : i < n
    · rw [h3 i hi, q i hi]
    · exact tb_out h1 (by omega)
theorem Bt.eq {S T : Int32} {n : Nat} {P R : Nat → Bool} (h : Bt S n P) (h' : Bt T n R) (hn : n ≤ 31) : S = T ↔ ∀ i, i < n → P i = R i := by
  obtain ⟨F, h1, rfl, h3⟩ := h
  obtain ⟨G, g1, rfl, g3⟩ := h'
  have hF : F < 2 ^ 31 := Nat.lt_of_lt_of_le h1 (Nat.pow_le_pow_right (by decide) hn)
  have hG : G < 2 ^ 31 := Nat.lt_of_lt_of_le g1 (Nat.pow_le_pow_right (by decide) hn)
  rw [nI_eq hF hG]
  constructor
  · intro e i hi
    rw [← h3 i hi, e, g3 i hi]
  · intro q
    apply Nat.eq_of_testBit_eq
    intro i
    by_cases hi : i < n
    · rw [h3 i hi, g3 i hi, q i hi]
    · rw [tb_out h1 (by omega), tb_out g1 (by omega)]
theorem Bt.wide {S : Int32} {n m : Nat} {P : Nat → Bool} (h : Bt S n P) (hm : n ≤ m) : Bt S m (fun i => decide (i < n) && P i) := by
  obtain ⟨F, h1, h2, h3⟩ := h
  refine ⟨F, Nat.lt_of_lt_of_le h1 (Nat.pow_le_pow_right (by decide) hm), h2, fun i _ => ?_⟩
  by_cases hi : i < n
  · rw [h3 i hi]; simp [hi]
  · rw [tb_out h1 (by omega)]; simp [hi]
set_option maxRecDepth 100000 in
theorem bc4096 : ∀ F, F < 4096 → f_J6_bitCount_0f7a4 (nI F) = some (nI (fb_ct (fun i => F.testBit i) 12)) := by decide +kernel
theorem Bt.count {S : Int32} {n : Nat} {P : Nat → Bool} (h : Bt S n P) (hn : n ≤ 12) : f_J6_bitCount_0f7a4 S = some (nI (fb_ct P n)) := by
  obtain ⟨F, h1, rfl, h3⟩ := h
  rw [bc4096 F (Nat.lt_of_lt_of_le h1 (Nat.pow_le_pow_right (by decide) hn))]
  have e : 12 = n + (12 - n) := by omega
  have q : fb_ct (fun i => F.testBit i) 12 = fb_ct P n := by
    have z : fb_ct (fun k => F.testBit (n + k)) (12 - n) = 0 := fb_ct_zero.mpr (fun k _ => tb_out h1 (by omega))
    rw [e, fb_ct_split, z, Nat.add_zero]
    exact fb_ct_cong (fun k hk => h3 k hk)
  rw [q]
