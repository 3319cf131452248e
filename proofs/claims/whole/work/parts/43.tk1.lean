/-! PURE: a tick of a device -/
theorem bind_of {α β : Type} {x : Option α} {a : α} {f : α → Option β} (h : x = some a) : x.bind f = f a := by rw [h]; rfl
theorem upd_same {s : FN} {k : Nat} {x : Int32} (h : s k = x) : upd s k x = s := by
  funext j
  rw [upd_ap]
  by_cases e : j = k
  · rw [if_pos e, e, h]
  · rw [if_neg e]
def cnE (t s : FN) (i : Nat) : Int32 := if t (3 * i) = 0 then (if vlE s i < t 63 then 0 else s (24 + i) + 1) else s (24 + i)
def isE (t s : FN) (i : Nat) : Bool := if t (3 * i) = 0 then !decide (cnE t s i ≤ t 64) else if t (3 * i) = 1 then !decide (vlE s i < t 63) else if t (3 * i) = 2 then !decide (s i ≤ 0) else false
def bsN (r b : Nat) : Nat := if r < b then b - 1 else if b < r ∧ b < 40 then b + 1 else b
def goE (t s : FN) : Bool := decide (s 86 - s 86 / t 65 * t 65 = 0)
def drE (t s : FN) (i : Nat) : Bool := (decide (t (3 * i) = 0) || decide (t (3 * i) = 1)) && decide (vlE s i < t 62)
def nbE (t s : FN) (i : Nat) : Int32 := if goE t s && drE t s i then nI (bsN (s i).toNatClampNeg (s (12 + i)).toNatClampNeg) else s (12 + i)
def feE (t s : FN) (i : Nat) : FN := upd (upd (upd s (24 + i) (cnE t s i)) (36 + i) (if isE t s i then 1 else s (36 + i))) (12 + i) (nbE t s i)
theorem feE_at (t s : FN) (i x : Nat) : feE t s i x = if x = 12 + i then nbE t s i else if x = 36 + i then (if isE t s i then 1 else s (36 + i)) else if x = 24 + i then cnE t s i else s x := by
  unfold feE
  rw [upd_ap, upd_ap, upd_ap]
theorem bsN_le {r b : Nat} (h : b ≤ 40) : bsN r b ≤ 40 := by
  unfold bsN
  split
  · omega
  · split
    · omega
    · omega
theorem feels_eq {t s : FN} {i q rr bb E : Nat} (hi : i < 12) (hq : q < 4) (hk : t (3 * i) = nI q) (hr : rr ≤ 99) (hb : bb ≤ 40) (h1 : s i = nI rr) (h2 : s (12 + i) = nI bb) (hE1 : 1 ≤ E) (hE9 : E ≤ 9) (hE : t 65 = nI E) :
    f_X6_feels t s (nI i) = some (if isE t s i && decide (s (36 + i) = 0) then 1 else 0, feE t s i) := by
  have e3 : (3 : Int32) * nI i = nI (3 * i) := by rw [show (3 : Int32) = nI 3 from rfl, pk_mul]
  have e0 : (0 : Int32) + nI i = nI i := by rw [show (0 : Int32) = nI 0 from rfl, nI_add, Nat.zero_add]
  have e12 : (12 : Int32) + nI i = nI (12 + i) := nI_add 12 i
  have e24 : (24 : Int32) + nI i = nI (24 + i) := nI_add 24 i
  have e36 : (36 : Int32) + nI i = nI (36 + i) := nI_add 36 i
  have g3 : gi (nI (3 * i)) 67 := (gi_nI (by omega)).mpr (by omega)
  have g0 : gi (nI i) 87 := (gi_nI (by omega)).mpr (by omega)
  have g12 : gi (nI (12 + i)) 87 := (gi_nI (by omega)).mpr (by omega)
  have g24 : gi (nI (24 + i)) 87 := (gi_nI (by omega)).mpr (by omega)
  have g36 : gi (nI (36 + i)) 87 := (gi_nI (by omega)).mpr (by omega)
  have c3 : (nI (3 * i)).toNatClampNeg = 3 * i := nI_clamp (by omega)
  have c0 : (nI i).toNatClampNeg = i := nI_clamp (by omega)
  have c12 : (nI (12 + i)).toNatClampNeg = 12 + i := nI_clamp (by omega)
  have c24 : (nI (24 + i)).toNatClampNeg = 24 + i := nI_clamp (by omega)
  have c36 : (nI (36 + i)).toNatClampNeg = 36 + i := nI_clamp (by omega)
  have d63 : (63 : Int32).toNatClampNeg = 63 := rfl
  have d62 : (62 : Int32).toNatClampNeg = 62 := rfl
  have d64 : (64 : Int32).toNatClampNeg = 64 := rfl
  have d65 : (65 : Int32).toNatClampNeg = 65 := rfl
  have d86 : (86 : Int32).toNatClampNeg = 86 := rfl
  have hE0 : ¬ t 65 = 0 := by rw [hE]; exact nI_ne0 (by omega) (by omega)
  unfold f_X6_feels
  simp only [e3, e0, e12, e24, e36, if_pos g3, if_pos g0, if_pos g12, if_pos g24, if_pos g36, c3, c0, c12, c24, c36, d62, d63, d64, d65, d86, hE0, not_false_eq_true, ↓reduceIte]
  refine (bind_of (mval_eq s hi)).trans ?_
  refine (bind_of (a := upd s (24 + i) (cnE t s i)) ?_).trans ?_
  · unfold cnE
    by_cases k0 : t (3 * i) = 0
    · rw [if_pos k0, if_pos k0]
      by_cases hv : vlE s i < t 63
      · rw [if_pos hv, if_pos hv]
      · rw [if_neg hv, if_neg hv]
    · rw [if_neg k0, if_neg k0, upd_same rfl]
  have u0 : upd s (24 + i) (cnE t s i) i = s i := uo (by omega)
  have u24 : upd s (24 + i) (cnE t s i) (24 + i) = cnE t s i := us
  have u36 : upd s (24 + i) (cnE t s i) (36 + i) = s (36 + i) := uo (by omega)
  have u12 : upd s (24 + i) (cnE t s i) (12 + i) = s (12 + i) := uo (by omega)
  have u86 : upd s (24 + i) (cnE t s i) 86 = s 86 := uo (by omega)
  rw [u0, u24, u36]
  refine (bind_of (a := if isE t s i then 1 else 0) ?_).trans ?_
  · unfold isE
    by_cases k0 : t (3 * i) = 0
    · rw [if_pos k0, if_pos k0]
      by_cases hv : cnE t s i ≤ t 64
      · rw [if_pos hv]; simp [hv]
      · rw [if_neg hv]; simp [hv]
    · rw [if_neg k0, if_neg k0]
      by_cases k1 : t (3 * i) = 1
      · rw [if_pos k1, if_pos k1]
        by_cases hv : vlE s i < t 63
        · rw [if_pos hv]; simp [hv]
        · rw [if_neg hv]; simp [hv]
      · rw [if_neg k1, if_neg k1]
        by_cases k2 : t (3 * i) = 2
        · rw [if_pos k2, if_pos k2]
          by_cases hv : s i ≤ 0
          · rw [if_pos hv]; simp [hv]
          · rw [if_neg hv]; simp [hv]
        · rw [if_neg k2, if_neg k2]; rfl
  refine (bind_of (a := if isE t s i && decide (s (36 + i) = 0) then 1 else 0) ?_).trans ?_
  · cases isE t s i with
    | false => rfl
    | true =>
      rw [if_neg (show ¬ (if true = true then (1 : Int32) else 0) = 0 by decide)]
      by_cases hv : s (36 + i) = 0
      · rw [if_pos hv]; simp [hv]
      · rw [if_neg hv]; simp [hv]
  refine (bind_of (a := if isE t s i then 1 else s (36 + i)) ?_).trans ?_
  · cases isE t s i <;> rfl
  have h01 : (if (isE t s i && decide (s (36 + i) = 0)) = true then (1 : Int32) else 0) = 0 ∨ (if (isE t s i && decide (s (36 + i) = 0)) = true then (1 : Int32) else 0) = 1 := by
    split
    · exact Or.inr rfl
    · exact Or.inl rfl
  have v0 : ∀ y : Int32, upd (upd s (24 + i) (cnE t s i)) (36 + i) y i = s i := fun y => by rw [uo (by omega), u0]
  have v12 : ∀ y : Int32, upd (upd s (24 + i) (cnE t s i)) (36 + i) y (12 + i) = s (12 + i) := fun y => by rw [uo (by omega), u12]
  have v86 : ∀ y : Int32, upd (upd s (24 + i) (cnE t s i)) (36 + i) y 86 = s 86 := fun y => by rw [uo (by omega), u86]
  simp only [v0, v12, v86, h01, ↓reduceIte]
  have hsame : ∀ y : Int32, upd (upd (upd s (24 + i) (cnE t s i)) (36 + i) y) (12 + i) (s (12 + i)) = upd (upd s (24 + i) (cnE t s i)) (36 + i) y := fun y => upd_same (v12 y)
  unfold feE nbE
  by_cases hgo : s 86 - s 86 / t 65 * t 65 = 0
  · have hgE : goE t s = true := decide_eq_true hgo
    rw [if_pos hgo, sens_eq hi hq hk, hgE, Bool.true_and]
    simp only [Option.bind_some]
    by_cases q2 : q < 2
    · have hk01 : (decide (t (3 * i) = 0) || decide (t (3 * i) = 1)) = true := by
        rw [hk]
        rcases (show q = 0 ∨ q = 1 by omega) with rfl | rfl <;> decide
      rw [if_pos q2, if_neg (show ¬ (1 : Int32) = 0 by decide)]
      by_cases hp : vlE s i < t 62
      · have hdr : drE t s i = true := by unfold drE; rw [hk01, decide_eq_true hp]; rfl
        rw [if_neg (show ¬ t 62 ≤ vlE s i by rw [Int32.not_le]; exact hp), hdr, if_pos (show true = true from rfl), h1, h2, nI_clamp (by omega), nI_clamp (by omega)]
        unfold bsN
        by_cases w1 : rr ≤ bb
        · rw [if_pos (nI_le w1 (by omega))]
          by_cases w2 : bb ≤ rr
          · rw [if_pos (nI_le w2 (by omega))]
            simp only [Option.bind_some]
            rw [if_pos (show nI bb ≤ (40 : Int32) from nI_le (b := 40) hb (by decide)), if_neg (show ¬ rr < bb by omega), if_neg (show ¬ (bb < rr ∧ bb < 40) by omega)]
          · rw [if_neg (nI_ge (by omega) (by omega))]
            obtain ⟨b', rfl⟩ : ∃ b', bb = b' + 1 := ⟨bb - 1, by omega⟩
            simp only [Option.bind_some]
            rw [nI_pred, if_pos (show nI b' ≤ (40 : Int32) from nI_le (b := 40) (by omega) (by decide)), if_pos (show rr < b' + 1 by omega), Nat.add_sub_cancel]
        · rw [if_neg (nI_ge (by omega) (by omega)), nI1]
          simp only [Option.bind_some]
          rw [if_neg (show ¬ rr < bb by omega)]
          by_cases w3 : bb = 40
          · subst w3
            rw [if_neg (show ¬ nI (40 + 1) ≤ (40 : Int32) by decide), if_neg (show ¬ (40 < rr ∧ 40 < 40) by omega)]; rfl
          · rw [if_pos (show nI (bb + 1) ≤ (40 : Int32) from nI_le (b := 40) (by omega) (by decide)), if_pos (show bb < rr ∧ bb < 40 by omega)]
      · have hdr : drE t s i = false := by unfold drE; rw [decide_eq_false hp, Bool.and_false]
        rw [if_pos (show t 62 ≤ vlE s i by rw [← Int32.not_lt]; exact hp), hdr, if_neg (show ¬ false = true by decide), hsame]
    · have hdr : drE t s i = false := by
        unfold drE
        rw [hk]
        rcases (show q = 2 ∨ q = 3 by omega) with rfl | rfl <;> rfl
      rw [if_neg q2, if_pos (show (0 : Int32) = 0 from rfl), hdr, if_neg (show ¬ false = true by decide), hsame]
  · have hgE : goE t s = false := decide_eq_false hgo
    rw [if_neg hgo, hgE, Bool.false_and, if_neg (show ¬ false = true by decide), hsame]
theorem watch_eq {fires alarm conf : Int32} {rd bs hd kind t s : FN} {i : Nat} (hi : i < 12) (h1 : rd i = s i) (h2 : bs i = s (12 + i)) (h3 : hd i = s (24 + i)) (hk : kind i = t (3 * i)) (hal : alarm = t 63) (hco : conf = t 64) :
    f_X3_watch fires rd bs hd alarm conf kind (nI i) = some (if isE t s i then fires ||| ((1 : Int32) <<< (nI i &&& 31)) else fires, upd hd i (cnE t s i)) := by
  have g : gi (nI i) 12 := (gi_nI (by omega)).mpr hi
  have ci : (nI i).toNatClampNeg = i := nI_clamp (by omega)
  subst hal hco
  unfold f_X3_watch
  simp only [if_pos g, ci, hk, h1, h3]
  refine (bind_of (val_eq hi h1 h2)).trans ?_
  refine (bind_of (a := if vlE s i < t 63 then 0 else 1) (by split <;> rfl)).trans ?_
  refine (bind_of (a := (if isE t s i then 1 else 0, upd hd i (cnE t s i))) ?_).trans ?_
  · by_cases k0 : t (3 * i) = 0
    · rw [if_pos k0]
      refine (bind_of (a := cnE t s i) ?_).trans ?_
      · unfold cnE
        rw [if_pos k0]
        by_cases hv : vlE s i < t 63
        · rw [if_pos hv, if_pos hv, if_pos (show (0 : Int32) = 0 from rfl)]
        · rw [if_neg hv, if_neg hv, if_neg (show ¬ (1 : Int32) = 0 by decide)]
      · rw [us]
        unfold isE
        rw [if_pos k0]
        by_cases hv : cnE t s i ≤ t 64
        · rw [if_pos hv]; simp [hv]
        · rw [if_neg hv]; simp [hv]
    · have hcn : upd hd i (cnE t s i) = hd := upd_same (by unfold cnE; rw [if_neg k0]; exact h3)
      rw [if_neg k0, hcn]
      unfold isE
      rw [if_neg k0]
      by_cases k1 : t (3 * i) = 1
      · rw [if_pos k1, if_pos k1]
        by_cases hv : vlE s i < t 63
        · rw [if_pos hv]; simp [hv]
        · rw [if_neg hv]; simp [hv]
      · rw [if_neg k1, if_neg k1]
        by_cases k2 : t (3 * i) = 2
        · rw [if_pos k2, if_pos k2]
          by_cases hv : s i ≤ 0
          · rw [if_pos hv]; simp [hv]
          · rw [if_neg hv]; simp [hv]
        · rw [if_neg k2, if_neg k2]; rfl
  · cases isE t s i with
    | false => rw [or0]; rfl
    | true => rfl
theorem follow_eq {pre : Int32} {rd bs kind t s : FN} {i rr bb : Nat} (hi : i < 12) (hr : rr ≤ 99) (hb : bb ≤ 40) (e1 : s i = nI rr) (e2 : s (12 + i) = nI bb) (h1 : rd i = s i) (h2 : bs i = s (12 + i)) (hk : kind i = t (3 * i)) (hpre : pre = t 62) :
    f_X3_follow rd bs pre kind (nI i) = some (upd bs i (if drE t s i then nI (bsN rr bb) else s (12 + i))) := by
  have g : gi (nI i) 12 := (gi_nI (by omega)).mpr hi
  have ci : (nI i).toNatClampNeg = i := nI_clamp (by omega)
  subst hpre
  unfold f_X3_follow
  simp only [if_pos g, ci, hk, h1, h2]
  refine (bind_of (a := if (decide (t (3 * i) = 0) || decide (t (3 * i) = 1)) = true then 1 else 0) ?_).trans ?_
  · by_cases k0 : t (3 * i) = 0
    · rw [if_pos k0]; simp [k0]
    · rw [if_neg k0]
      by_cases k1 : t (3 * i) = 1
      · rw [if_pos k1]; simp [k1]
      · rw [if_neg k1]; simp [k0, k1]
  cases kk : (decide (t (3 * i) = 0) || decide (t (3 * i) = 1)) with
  | false =>
    have hdr : drE t s i = false := by unfold drE; rw [kk]; rfl
    rw [if_pos (show (if false = true then (1 : Int32) else 0) = 0 by decide), hdr, if_neg (show ¬ false = true by decide), upd_same h2]
  | true =>
    rw [if_neg (show ¬ (if true = true then (1 : Int32) else 0) = 0 by decide)]
    refine (bind_of (val_eq hi h1 h2)).trans ?_
    by_cases hp : vlE s i < t 62
    · have hdr : drE t s i = true := by unfold drE; rw [kk, decide_eq_true hp]; rfl
      rw [if_pos hp, hdr, if_pos (show true = true from rfl), e1, e2]
      unfold bsN
      by_cases w1 : bb ≤ rr
      · rw [if_pos (nI_le w1 (by omega)), if_neg (show ¬ rr < bb by omega)]
        by_cases w2 : rr ≤ bb
        · rw [if_pos (nI_le w2 (by omega)), if_neg (show ¬ (bb < rr ∧ bb < 40) by omega), upd_same (by rw [h2, e2])]
        · rw [if_neg (nI_ge (by omega) (by omega))]
          by_cases w3 : 40 ≤ bb
          · rw [if_pos (show (40 : Int32) ≤ nI bb from nI_le (a := 40) w3 (by omega)), if_neg (show ¬ (bb < rr ∧ bb < 40) by omega), upd_same (by rw [h2, e2])]
          · rw [if_neg (show ¬ (40 : Int32) ≤ nI bb from nI_ge (b := 40) (by omega) (by decide)), if_pos (show bb < rr ∧ bb < 40 by omega), nI1]
      · rw [if_neg (nI_ge (by omega) (by omega)), if_pos (show rr < bb by omega)]
        obtain ⟨b', rfl⟩ : ∃ b', bb = b' + 1 := ⟨bb - 1, by omega⟩
        rw [nI_pred, Nat.add_sub_cancel]
    · have hdr : drE t s i = false := by unfold drE; rw [decide_eq_false hp, Bool.and_false]
      rw [if_neg hp, hdr, if_neg (show ¬ false = true by decide), upd_same h2]
