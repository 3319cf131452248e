/-! PURE: worst, help -/
theorem nI_leM1 {a : Nat} (h : a < 2 ^ 31) : ¬ nI a ≤ -1 := by
  rw [Int32.le_iff_toInt_le, nI_toInt h, show (-1 : Int32).toInt = -1 from rfl]; omega
def wW (fr : Nat → Bool) (L : Nat → Nat) : Nat → Option Nat
  | 0 => none
  | n + 1 => if fr n then (match wW fr L n with
    | none => some n
    | some m => if L n ≤ L m then some m else some n) else wW fr L n
theorem wW_succ (fr : Nat → Bool) (L : Nat → Nat) (n : Nat) : wW fr L (n + 1) = if fr n then (match wW fr L n with
    | none => some n
    | some m => if L n ≤ L m then some m else some n) else wW fr L n := rfl
def hW (fr : Nat → Bool) (L : Nat → Nat) : Nat → Option Nat
  | 0 => none
  | n + 1 => if fr n then (match hW fr L n with
    | none => some n
    | some m => if L m ≤ L n then some m else some n) else hW fr L n
theorem hW_succ (fr : Nat → Bool) (L : Nat → Nat) (n : Nat) : hW fr L (n + 1) = if fr n then (match hW fr L n with
    | none => some n
    | some m => if L m ≤ L n then some m else some n) else hW fr L n := rfl
def eW (o : Option Nat) : Int32 := match o with
  | none => -4
  | some m => nI m
def eM (L : Nat → Nat) (z : Int32) (o : Option Nat) : Int32 := match o with
  | none => z
  | some m => nI (L m)
theorem wW_lt {fr : Nat → Bool} {L : Nat → Nat} : ∀ {n m : Nat}, wW fr L n = some m → m < n
  | 0, m, h => by simp [wW] at h
  | n + 1, m, h => by
    rw [wW_succ] at h
    by_cases q : fr n = true
    · cases e : wW fr L n with
      | none => simp only [q, e, ↓reduceIte, Option.some.injEq] at h; omega
      | some k =>
        have := wW_lt e
        by_cases g : L n ≤ L k
        · simp only [q, e, g, ↓reduceIte, Option.some.injEq] at h; omega
        · simp only [q, e, g, ↓reduceIte, Option.some.injEq] at h; omega
    · rw [if_neg q] at h
      have := wW_lt h
      omega
theorem hW_lt {fr : Nat → Bool} {L : Nat → Nat} : ∀ {n m : Nat}, hW fr L n = some m → m < n
  | 0, m, h => by simp [hW] at h
  | n + 1, m, h => by
    rw [hW_succ] at h
    by_cases q : fr n = true
    · cases e : hW fr L n with
      | none => simp only [q, e, ↓reduceIte, Option.some.injEq] at h; omega
      | some k =>
        have := hW_lt e
        by_cases g : L k ≤ L n
        · simp only [q, e, g, ↓reduceIte, Option.some.injEq] at h; omega
        · simp only [q, e, g, ↓reduceIte, Option.some.injEq] at h; omega
    · rw [if_neg q] at h
      have := hW_lt h
      omega
theorem wW_none {fr : Nat → Bool} {L : Nat → Nat} : ∀ {n : Nat}, wW fr L n = none ↔ ∀ i, i < n → fr i = false
  | 0 => ⟨fun _ i hi => absurd hi (Nat.not_lt_zero i), fun _ => rfl⟩
  | n + 1 => by
    rw [wW_succ]
    cases q : fr n with
    | true =>
      refine ⟨fun h => ?_, fun h => absurd (h n (by omega)) (by rw [q]; decide)⟩
      cases e : wW fr L n with
      | none => simp [e] at h
      | some k =>
        by_cases g : L n ≤ L k
        · simp [e, g] at h
        · simp [e, g] at h
    | false =>
      rw [if_neg (by decide), wW_none (n := n)]
      constructor
      · intro h i hi
        by_cases e : i = n
        · subst e; exact q
        · exact h i (by omega)
      · intro h i hi
        exact h i (by omega)
def frE (s : FN) (w : Nat) : Bool := decide (s (48 + w) = 0)
def lsE (t s : FN) (ia : Int32) (d w : Nat) : Nat := fb_ct (lostB (isoE t ia) (cutE s (nI w)) (shE s (nI w)) d) d
theorem lsE_le (t s : FN) (ia : Int32) (d w : Nat) : lsE t s ia d w ≤ d := fb_ct_le _ _
section WH
variable {t s : FN} {I K S ia : Int32} {d : Nat}
theorem wwC_loop (hd : d ≤ 12) (hI : Bt I d (isoE t ia)) (hK : Bt K (d + 1) (fun w => decide (s (48 + w) = 1))) (hS : Bt S (d + 1) (fun w => decide (s (48 + w) = 2))) (hs : ∀ w, w ≤ d → s (48 + w) = 0 ∨ s (48 + w) = 1 ∨ s (48 + w) = 2) : ∀ (r n v : Nat), v + r = d + 1 → r < n → f_X5_worstWire_8 (nI d) K S I n (eW (wW (frE s) (lsE t s ia d) v)) (eM (lsE t s ia d) 0 (wW (frE s) (lsE t s ia d) v)) (nI v) = some (eW (wW (frE s) (lsE t s ia d) (d + 1))) := by
  intro r
  induction r with
  | zero =>
    intro n v h1 h2
    obtain ⟨n, rfl⟩ : ∃ k, n = k + 1 := ⟨n - 1, by omega⟩
    rw [f_X5_worstWire_8, if_pos (nI_lt (by omega) (by omega)), show v = d + 1 by omega]
  | succ r ih =>
    intro n v h1 h2
    obtain ⟨n, rfl⟩ : ∃ k, n = k + 1 := ⟨n - 1, by omega⟩
    have hi := ih n (v + 1) (by omega) (by omega)
    rw [wW_succ _ _ v] at hi
    rw [f_X5_worstWire_8, if_neg (nI_nlt (by omega) (by omega)), cond_eq hd (by omega) (hs v (by omega)) hK hS]
    simp only [Option.bind_some]
    have hl := lsE_le t s ia d v
    by_cases q : s (48 + v) = 0
    · have hq : frE s v = true := decide_eq_true q
      have hls : f_X5_lossByShort (nI d) K S I (nI v) = some (nI (lsE t s ia d v)) := loss_eq hd (by omega) hI hK hS
      rw [if_pos q, hls, nI1]
      simp only [Option.bind_some]
      cases e : wW (frE s) (lsE t s ia d) v with
      | none =>
        simp only [hq, e, ↓reduceIte] at hi
        rw [if_pos (show eW none = -4 from rfl)]
        exact hi
      | some m =>
        have hm := wW_lt e
        have hl2 := lsE_le t s ia d m
        rw [if_neg (show ¬ eW (some m) = -4 from nI_ne4 (by omega))]
        by_cases g : lsE t s ia d v ≤ lsE t s ia d m
        · simp only [hq, e, g, ↓reduceIte] at hi
          rw [if_pos (show nI (lsE t s ia d v) ≤ eM (lsE t s ia d) 0 (some m) from nI_le g (by omega))]
          exact hi
        · simp only [hq, e, g, ↓reduceIte] at hi
          rw [if_neg (show ¬ nI (lsE t s ia d v) ≤ eM (lsE t s ia d) 0 (some m) from nI_ge (by omega) (by omega))]
          exact hi
    · have hq : ¬ frE s v = true := fun z => q (of_decide_eq_true z)
      rw [if_neg hq] at hi
      rw [if_neg q, nI1]
      exact hi
theorem ww_eq (hd : d ≤ 12) (hI : Bt I d (isoE t ia)) (hK : Bt K (d + 1) (fun w => decide (s (48 + w) = 1))) (hS : Bt S (d + 1) (fun w => decide (s (48 + w) = 2))) (hs : ∀ w, w ≤ d → s (48 + w) = 0 ∨ s (48 + w) = 1 ∨ s (48 + w) = 2) : f_X5_worstWire (nI d) K S I = some (eW (wW (frE s) (lsE t s ia d) (d + 1))) := by
  unfold f_X5_worstWire
  have h := wwC_loop hd hI hK hS hs (d + 1) 1000 0 (by omega) (by omega)
  rw [show eW (wW (frE s) (lsE t s ia d) 0) = -4 from rfl, show eM (lsE t s ia d) 0 (wW (frE s) (lsE t s ia d) 0) = 0 from rfl, show nI 0 = (0 : Int32) from rfl] at h
  rw [h]; rfl
theorem wwM_loop (hd : d ≤ 12) (ht : t 60 = nI d) : ∀ (r n v : Nat), v + r = d + 1 → r < n → f_X6_worsts_13 ia t s n (nI v) (-1) (eW (wW (frE s) (lsE t s ia d) v)) (eM (lsE t s ia d) (-1) (wW (frE s) (lsE t s ia d) v)) = some (-1, eW (wW (frE s) (lsE t s ia d) (d + 1)), eM (lsE t s ia d) (-1) (wW (frE s) (lsE t s ia d) (d + 1))) := by
  intro r
  induction r with
  | zero =>
    intro n v h1 h2
    obtain ⟨n, rfl⟩ : ∃ k, n = k + 1 := ⟨n - 1, by omega⟩
    rw [f_X6_worsts_13, show (60 : Int32).toNatClampNeg = 60 from rfl, ht, if_pos (nI_lt (by omega) (by omega)), show v = d + 1 by omega]
  | succ r ih =>
    intro n v h1 h2
    obtain ⟨n, rfl⟩ : ∃ k, n = k + 1 := ⟨n - 1, by omega⟩
    have hi := ih n (v + 1) (by omega) (by omega)
    rw [wW_succ _ _ v] at hi
    have e48 : (48 : Int32) + nI v = nI (48 + v) := nI_add 48 v
    rw [f_X6_worsts_13, show (60 : Int32).toNatClampNeg = 60 from rfl, ht, if_neg (nI_nlt (by omega) (by omega)), e48, if_pos ((gi_nI (by omega)).mpr (by omega)), nI_clamp (by omega)]
    have hl := lsE_le t s ia d v
    by_cases q : s (48 + v) = 0
    · have hq : frE s v = true := decide_eq_true q
      have hls : f_X6_lostBy ia t s (nI v) = some (nI (lsE t s ia d v), -1) := by
        unfold f_X6_lostBy
        rw [many_eq hd ht]; rfl
      rw [if_pos q, hls, nI1]
      simp only [Option.bind_some]
      cases e : wW (frE s) (lsE t s ia d) v with
      | none =>
        simp only [hq, e, ↓reduceIte] at hi
        have hno : ¬ nI (lsE t s ia d v) ≤ eM (lsE t s ia d) (-1) none := nI_leM1 (by omega)
        rw [if_neg hno]
        simp only [Option.bind_some]
        rw [if_neg hno]
        exact hi
      | some m =>
        have hm := wW_lt e
        have hl2 := lsE_le t s ia d m
        by_cases g : lsE t s ia d v ≤ lsE t s ia d m
        · simp only [hq, e, g, ↓reduceIte] at hi
          have hy : nI (lsE t s ia d v) ≤ eM (lsE t s ia d) (-1) (some m) := nI_le g (by omega)
          rw [if_pos hy]
          simp only [Option.bind_some]
          rw [if_pos hy]
          exact hi
        · simp only [hq, e, g, ↓reduceIte] at hi
          have hno : ¬ nI (lsE t s ia d v) ≤ eM (lsE t s ia d) (-1) (some m) := nI_ge (by omega) (by omega)
          rw [if_neg hno]
          simp only [Option.bind_some]
          rw [if_neg hno]
          exact hi
    · have hq : ¬ frE s v = true := fun z => q (of_decide_eq_true z)
      rw [if_neg hq] at hi
      rw [if_neg q, nI1]
      exact hi
theorem wm_eq (hd : d ≤ 12) (ht : t 60 = nI d) : f_X6_worsts (-1) ia t s = some (-1, eW (wW (frE s) (lsE t s ia d) (d + 1)), eM (lsE t s ia d) (-1) (wW (frE s) (lsE t s ia d) (d + 1))) := by
  unfold f_X6_worsts
  have h := wwM_loop (ia := ia) (s := s) hd ht (d + 1) 1000 0 (by omega) (by omega)
  rw [show eW (wW (frE s) (lsE t s ia d) 0) = -4 from rfl, show eM (lsE t s ia d) (-1) (wW (frE s) (lsE t s ia d) 0) = -1 from rfl, show nI 0 = (0 : Int32) from rfl] at h
  rw [h]; rfl
/-- the isolator that helps: what is lost with it -/
def hlE (t s : FN) (d i : Nat) : Nat := match wW (frE s) (lsE t s (nI i) d) (d + 1) with
  | none => 0
  | some m => lsE t s (nI i) d m
theorem hlE_le (t s : FN) (d i : Nat) : hlE t s d i ≤ d := by
  unfold hlE
  split
  · omega
  · exact lsE_le _ _ _ _ _
def nisE (t : FN) (i : Nat) : Bool := decide (t (3 * i + 2) = 0)
theorem hC_loop (hd : d ≤ 12) (hI : Bt I d (fun i => decide (t (3 * i + 2) = 1))) (h01 : ∀ i, i < d → t (3 * i + 2) = 0 ∨ t (3 * i + 2) = 1) (hK : Bt K (d + 1) (fun w => decide (s (48 + w) = 1))) (hS : Bt S (d + 1) (fun w => decide (s (48 + w) = 2))) (hs : ∀ w, w ≤ d → s (48 + w) = 0 ∨ s (48 + w) = 1 ∨ s (48 + w) = 2) {w0 : Nat} (hw0 : w0 ≤ d) (hf0 : frE s w0 = true) : ∀ (r n v : Nat), v + r = d → r < n → f_X5_help_38 (nI d) I K S n (eW (hW (nisE t) (hlE t s d) v)) (eM (hlE t s d) 0 (hW (nisE t) (hlE t s d) v)) (nI v) = some (eW (hW (nisE t) (hlE t s d) d), eM (hlE t s d) 0 (hW (nisE t) (hlE t s d) d)) := by
  intro r
  induction r with
  | zero =>
    intro n v h1 h2
    obtain ⟨n, rfl⟩ : ∃ k, n = k + 1 := ⟨n - 1, by omega⟩
    rw [f_X5_help_38, if_pos (nI_le (by omega) (by omega)), show v = d by omega]
  | succ r ih =>
    intro n v h1 h2
    obtain ⟨n, rfl⟩ : ∃ k, n = k + 1 := ⟨n - 1, by omega⟩
    have hi := ih n (v + 1) (by omega) (by omega)
    rw [hW_succ _ _ v] at hi
    rw [f_X5_help_38, if_neg (nI_ge (by omega) (by omega)), hI.bit (by omega) (i := v) (by omega)]
    simp only [Option.bind_some]
    have hl := hlE_le t s d v
    by_cases q : t (3 * v + 2) = 0
    · have hq : nisE t v = true := decide_eq_true q
      have hI' := isoE1 hd (show v < d by omega) hI
      rw [if_pos (show (if (decide (t (3 * v + 2) = 1)) = true then (1 : Int32) else 0) = 0 by rw [q]; decide), ww_eq hd hI' hK hS hs]
      simp only [Option.bind_some]
      cases ew : wW (frE s) (lsE t s (nI v) d) (d + 1) with
      | none => exact absurd (wW_none.mp ew w0 (by omega)) (by rw [hf0]; decide)
      | some m0 =>
        have hm0 := wW_lt ew
        have hls : f_X5_lossByShort (nI d) K S (I ||| ((1 : Int32) <<< (nI v &&& 31))) (nI m0) = some (nI (lsE t s (nI v) d m0)) := loss_eq hd (by omega) hI' hK hS
        have hH : lsE t s (nI v) d m0 = hlE t s d v := by unfold hlE; rw [ew]
        rw [show eW (some m0) = nI m0 from rfl, hls, hH, nI1]
        simp only [Option.bind_some]
        cases e : hW (nisE t) (hlE t s d) v with
        | none =>
          simp only [hq, e, ↓reduceIte] at hi
          rw [if_pos (show eW none = -4 from rfl)]
          exact hi
        | some m =>
          have hm := hW_lt e
          have hl2 := hlE_le t s d m
          rw [if_neg (show ¬ eW (some m) = -4 from nI_ne4 (by omega))]
          by_cases g : hlE t s d m ≤ hlE t s d v
          · simp only [hq, e, g, ↓reduceIte] at hi
            rw [if_pos (show eM (hlE t s d) 0 (some m) ≤ nI (hlE t s d v) from nI_le g (by omega))]
            exact hi
          · simp only [hq, e, g, ↓reduceIte] at hi
            rw [if_neg (show ¬ eM (hlE t s d) 0 (some m) ≤ nI (hlE t s d v) from nI_ge (by omega) (by omega))]
            exact hi
    · have hq : ¬ nisE t v = true := fun z => q (of_decide_eq_true z)
      rw [if_neg hq] at hi
      have h1' : t (3 * v + 2) = 1 := (h01 v (by omega)).resolve_left q
      rw [if_neg (show ¬ (if (decide (t (3 * v + 2) = 1)) = true then (1 : Int32) else 0) = 0 by rw [h1']; decide), nI1]
      exact hi
theorem hM_loop (hd : d ≤ 12) (ht : t 60 = nI d) {w0 : Nat} (hw0 : w0 ≤ d) (hf0 : frE s w0 = true) : ∀ (r n v : Nat) (a b : Int32), v + r = d → r < n → ∃ a' b', f_X6_help_21 t s n (eW (hW (nisE t) (hlE t s d) v)) (eM (hlE t s d) 100 (hW (nisE t) (hlE t s d) v)) (nI v) (-1) (-1) a b = some (eW (hW (nisE t) (hlE t s d) d), eM (hlE t s d) 100 (hW (nisE t) (hlE t s d) d), -1, -1, a', b') := by
  intro r
  induction r with
  | zero =>
    intro n v a b h1 h2
    obtain ⟨n, rfl⟩ : ∃ k, n = k + 1 := ⟨n - 1, by omega⟩
    rw [f_X6_help_21, show (60 : Int32).toNatClampNeg = 60 from rfl, ht, if_pos (nI_le (by omega) (by omega)), show v = d by omega]
    exact ⟨_, _, rfl⟩
  | succ r ih =>
    intro n v a b h1 h2
    obtain ⟨n, rfl⟩ : ∃ k, n = k + 1 := ⟨n - 1, by omega⟩
    have hi := fun a b => ih n (v + 1) a b (by omega) (by omega)
    rw [hW_succ _ _ v] at hi
    have e1 : (3 : Int32) * nI v + 2 = nI (3 * v + 2) := by rw [show (3 : Int32) = nI 3 from rfl, show (2 : Int32) = nI 2 from rfl, pk_mul, nI_add]
    rw [f_X6_help_21, show (60 : Int32).toNatClampNeg = 60 from rfl, ht, if_neg (nI_ge (by omega) (by omega)), e1, if_pos ((gi_nI (by omega)).mpr (by omega)), nI_clamp (by omega)]
    have hl := hlE_le t s d v
    by_cases q : t (3 * v + 2) = 0
    · have hq : nisE t v = true := decide_eq_true q
      rw [if_pos q, wm_eq hd ht]
      simp only [Option.bind_some]
      cases ew : wW (frE s) (lsE t s (nI v) d) (d + 1) with
      | none => exact absurd (wW_none.mp ew w0 (by omega)) (by rw [hf0]; decide)
      | some m0 =>
        have hm0 := wW_lt ew
        have hH : lsE t s (nI v) d m0 = hlE t s d v := by unfold hlE; rw [ew]
        rw [show eW (some m0) = nI m0 from rfl, show eM (lsE t s (nI v) d) (-1) (some m0) = nI (lsE t s (nI v) d m0) from rfl, hH, nI1, if_neg (nI_ne4 (by omega))]
        cases e : hW (nisE t) (hlE t s d) v with
        | none =>
          simp only [hq, e, ↓reduceIte] at hi
          rw [if_neg (show ¬ eM (hlE t s d) 100 none ≤ nI (hlE t s d v) from nI_ge (b := 100) (by omega) (by decide))]
          simp only [Option.bind_some]
          rw [if_neg (show ¬ (1 : Int32) = 0 by decide)]
          simp only [Option.bind_some]
          rw [if_neg (show ¬ (1 : Int32) = 0 by decide)]
          exact hi _ _
        | some m =>
          have hm := hW_lt e
          have hl2 := hlE_le t s d m
          by_cases g : hlE t s d m ≤ hlE t s d v
          · simp only [hq, e, g, ↓reduceIte] at hi
            rw [if_pos (show eM (hlE t s d) 100 (some m) ≤ nI (hlE t s d v) from nI_le g (by omega))]
            simp only [Option.bind_some]
            rw [if_pos trivial]
            simp only [Option.bind_some]
            rw [if_pos trivial]
            exact hi _ _
          · simp only [hq, e, g, ↓reduceIte] at hi
            rw [if_neg (show ¬ eM (hlE t s d) 100 (some m) ≤ nI (hlE t s d v) from nI_ge (by omega) (by omega))]
            simp only [Option.bind_some]
            rw [if_neg (show ¬ (1 : Int32) = 0 by decide)]
            simp only [Option.bind_some]
            rw [if_neg (show ¬ (1 : Int32) = 0 by decide)]
            exact hi _ _
    · have hq : ¬ nisE t v = true := fun z => q (of_decide_eq_true z)
      rw [if_neg hq] at hi
      rw [if_neg q, nI1]
      exact hi _ _
theorem hM_none (hd : d ≤ 12) (ht : t 60 = nI d) (hno : ∀ w, w < d + 1 → frE s w = false) : ∀ (r n v : Nat) (a b : Int32), v + r = d → r < n → ∃ a' b', f_X6_help_21 t s n (-4) 100 (nI v) (-1) (-1) a b = some (-4, 100, -1, -1, a', b') := by
  intro r
  induction r with
  | zero =>
    intro n v a b h1 h2
    obtain ⟨n, rfl⟩ : ∃ k, n = k + 1 := ⟨n - 1, by omega⟩
    rw [f_X6_help_21, show (60 : Int32).toNatClampNeg = 60 from rfl, ht, if_pos (nI_le (by omega) (by omega))]
    exact ⟨_, _, rfl⟩
  | succ r ih =>
    intro n v a b h1 h2
    obtain ⟨n, rfl⟩ : ∃ k, n = k + 1 := ⟨n - 1, by omega⟩
    have hi := fun a b => ih n (v + 1) a b (by omega) (by omega)
    have e1 : (3 : Int32) * nI v + 2 = nI (3 * v + 2) := by rw [show (3 : Int32) = nI 3 from rfl, show (2 : Int32) = nI 2 from rfl, pk_mul, nI_add]
    rw [f_X6_help_21, show (60 : Int32).toNatClampNeg = 60 from rfl, ht, if_neg (nI_ge (by omega) (by omega)), e1, if_pos ((gi_nI (by omega)).mpr (by omega)), nI_clamp (by omega)]
    by_cases q : t (3 * v + 2) = 0
    · rw [if_pos q, wm_eq hd ht]
      simp only [Option.bind_some]
      rw [(wW_none (L := lsE t s (nI v) d)).mpr hno, if_pos (show eW none = -4 from rfl)]
      simp only [Option.bind_some]
      rw [if_pos trivial]
      simp only [Option.bind_some]
      rw [if_pos trivial, nI1]
      exact hi _ _
    · rw [if_neg q, nI1]
      exact hi _ _
end WH
theorem ok_worst (x0 : Int32) : OK1 Rel (fun C => rs_worst C x0) (fun M => ms_worst M x0) := by
  intro C M h
  have h0 := h
  obtain ⟨n, k, d, e, hn, hk, ⟨m1, m2⟩, hPl, hSt, hp⟩ := h
  obtain ⟨⟨hd1, hd12, he6⟩, ⟨p1, p2, p3, p4⟩, -, hiso, -⟩ := id hPl
  obtain ⟨-, -, -, -, a5, a6, a7, -⟩ := id hSt
  have hI := isoE0 hd12 hiso
  show ∃ o q, rs_worst C x0 = some o ∧ ms_worst M x0 = some q ∧ _
  unfold rs_worst ms_worst f_X5_worst f_X6_worst
  rw [within_eq, in_eq x0 0 1 (by decide) (by decide), p1, m1, m2, ww_eq hd12 hI a6 a7 a5, wm_eq hd12 p2]
  simp only [Option.bind_some]
  by_cases c : wi x0 0 1 = 0
  · rw [if_pos c, if_pos c]
    exact ⟨_, _, rfl, rfl, rfl, n, k, d, e, hn, hk, ⟨rfl, rfl⟩, hPl, hSt, hp⟩
  rw [if_neg c, if_neg c]
  cases ew : wW (frE M.2.2.2.1) (lsE M.2.1 M.2.2.2.1 (-1) d) (d + 1) with
  | none =>
    rw [if_pos (show eW none = -4 from rfl), if_pos (show eW none = -4 from rfl)]
    exact ⟨_, _, rfl, rfl, rfl, n, k, d, e, hn, hk, ⟨rfl, rfl⟩, hPl, hSt, hp⟩
  | some m =>
    have hm := wW_lt ew
    have hne : ¬ eW (some m) = -4 := nI_ne4 (by omega)
    rw [if_neg hne, if_neg hne]
    by_cases q : x0 = 0
    · rw [if_pos q, if_pos q]
      exact ⟨_, _, rfl, rfl, rfl, n, k, d, e, hn, hk, ⟨rfl, rfl⟩, hPl, hSt, hp⟩
    · have hls : f_X5_lossByShort (nI d) C.2.2.2.2.1.2.2.2.2.2.1 C.2.2.2.2.1.2.2.2.2.2.2.1 C.2.2.1.2.2.2.2.2.2.1 (nI m) = some (nI (lsE M.2.1 M.2.2.2.1 (-1) d m)) := loss_eq hd12 (by omega) hI a6 a7
      rw [if_neg q, if_neg q, show eW (some m) = nI m from rfl, hls]
      exact ⟨_, _, rfl, rfl, rfl, n, k, d, e, hn, hk, ⟨rfl, rfl⟩, hPl, hSt, hp⟩
theorem ok_help (x0 : Int32) : OK1 Rel (fun C => rs_help C x0) (fun M => ms_help M x0) := by
  intro C M h
  have h0 := h
  obtain ⟨n, k, d, e, hn, hk, ⟨m1, m2⟩, hPl, hSt, hp⟩ := h
  obtain ⟨⟨hd1, hd12, he6⟩, ⟨p1, p2, p3, p4⟩, hdev, hiso, -⟩ := id hPl
  obtain ⟨-, -, -, -, a5, a6, a7, -⟩ := id hSt
  have hI := isoE0 hd12 hiso
  show ∃ o q, rs_help C x0 = some o ∧ ms_help M x0 = some q ∧ _
  unfold rs_help ms_help f_X5_help f_X6_help
  rw [within_eq, in_eq x0 0 1 (by decide) (by decide), p1, m1, m2, ww_eq hd12 hI a6 a7 a5]
  simp only [Option.bind_some]
  by_cases c : wi x0 0 1 = 0
  · rw [if_pos c, if_pos c]
    exact ⟨_, _, rfl, rfl, rfl, n, k, d, e, hn, hk, ⟨rfl, rfl⟩, hPl, hSt, hp⟩
  rw [if_neg c, if_neg c]
  cases ew : wW (frE M.2.2.2.1) (lsE M.2.1 M.2.2.2.1 (-1) d) (d + 1) with
  | none =>
    obtain ⟨a', b', hb⟩ := hM_none hd12 p2 (wW_none.mp ew) d 1000 0 M.2.2.2.2.2.2.2.2.2.2.1 M.2.2.2.2.2.2.2.2.2.2.2 (by omega) (by omega)
    rw [show nI 0 = (0 : Int32) from rfl] at hb
    rw [if_pos (show eW none = -4 from rfl), hb]
    simp only [Option.bind_some]
    rw [if_pos trivial]
    exact ⟨_, _, rfl, rfl, rfl, n, k, d, e, hn, hk, ⟨rfl, rfl⟩, hPl, hSt, hp⟩
  | some m =>
    have hm := wW_lt ew
    have hne : ¬ eW (some m) = -4 := nI_ne4 (by omega)
    have hex : ∃ w0, w0 < d + 1 ∧ frE M.2.2.2.1 w0 = true := Classical.byContradiction fun z => by
      have hz : wW (frE M.2.2.2.1) (lsE M.2.1 M.2.2.2.1 (-1) d) (d + 1) = none := wW_none.mpr (fun i hi => by
        cases q : frE M.2.2.2.1 i with
        | false => rfl
        | true => exact absurd ⟨i, hi, q⟩ z)
      rw [hz] at ew; cases ew
    obtain ⟨w0, hw0, hf0⟩ := hex
    have hc := hC_loop hd12 hiso (fun i hi => (hdev i hi).2.2.2.1) a6 a7 a5 (show w0 ≤ d by omega) hf0 d 1000 0 (by omega) (by omega)
    obtain ⟨a', b', hb⟩ := hM_loop (s := M.2.2.2.1) hd12 p2 (show w0 ≤ d by omega) hf0 d 1000 0 M.2.2.2.2.2.2.2.2.2.2.1 M.2.2.2.2.2.2.2.2.2.2.2 (by omega) (by omega)
    have z1 : eW (hW (nisE M.2.1) (hlE M.2.1 M.2.2.2.1 d) 0) = -4 := rfl
    have z2 : eM (hlE M.2.1 M.2.2.2.1 d) 0 (hW (nisE M.2.1) (hlE M.2.1 M.2.2.2.1 d) 0) = 0 := rfl
    have z3 : eM (hlE M.2.1 M.2.2.2.1 d) 100 (hW (nisE M.2.1) (hlE M.2.1 M.2.2.2.1 d) 0) = 100 := rfl
    rw [z1, z2, show nI 0 = (0 : Int32) from rfl] at hc
    rw [z1, z3, show nI 0 = (0 : Int32) from rfl] at hb
    rw [if_neg hne, hc, hb]
    simp only [Option.bind_some]
    cases eh : hW (nisE M.2.1) (hlE M.2.1 M.2.2.2.1 d) d with
    | none =>
      rw [if_pos (show eW none = -4 from rfl), if_pos (show eW none = -4 from rfl)]
      by_cases q : x0 = 0
      · rw [if_pos q]; exact ⟨_, _, rfl, rfl, rfl, n, k, d, e, hn, hk, ⟨rfl, rfl⟩, hPl, hSt, hp⟩
      · rw [if_neg q]; exact ⟨_, _, rfl, rfl, rfl, n, k, d, e, hn, hk, ⟨rfl, rfl⟩, hPl, hSt, hp⟩
    | some j =>
      have hj := hW_lt eh
      have hnj : ¬ eW (some j) = -4 := nI_ne4 (by omega)
      rw [if_neg hnj, if_neg hnj]
      by_cases q : x0 = 0
      · rw [if_pos q, if_pos q]; exact ⟨_, _, rfl, rfl, rfl, n, k, d, e, hn, hk, ⟨rfl, rfl⟩, hPl, hSt, hp⟩
      · rw [if_neg q, if_neg q]; exact ⟨_, _, rfl, rfl, rfl, n, k, d, e, hn, hk, ⟨rfl, rfl⟩, hPl, hSt, hp⟩
