/-! PURE: the rows that copy, fill, shift -/
theorem nI1 (v : Nat) : nI v + 1 = nI (v + 1) := nI_1 v
theorem upd_ap (f : FN) (k : Nat) (x : Int32) (j : Nat) : upd f k x j = if j = k then x else f j := rfl
theorem begins_loop : ∀ (m n v : Nat) (w : FN), v + m = 67 → m < n → f_X6_begins_2 n (nI v) w = some (fun x => if v ≤ x ∧ x < 67 then 0 else w x) := by
  intro m
  induction m with
  | zero =>
    intro n v w h1 h2
    obtain ⟨n, rfl⟩ : ∃ k, n = k + 1 := ⟨n - 1, by omega⟩
    rw [f_X6_begins_2, if_pos (show (67 : Int32) ≤ nI v from nI_le (a := 67) (by omega) (by omega))]
    congr 1; funext x; rw [if_neg (by omega)]
  | succ m ih =>
    intro n v w h1 h2
    obtain ⟨n, rfl⟩ : ∃ k, n = k + 1 := ⟨n - 1, by omega⟩
    rw [f_X6_begins_2, if_neg (show ¬ (67 : Int32) ≤ nI v from nI_ge (b := 67) (by omega) (by omega)), if_pos ((gi_nI (by omega)).mpr (by omega)), nI1, nI_clamp (by omega), ih n (v + 1) _ (by omega) (by omega)]
    congr 1; funext x; rw [upd_ap]
    by_cases e : x = v
    · rw [if_pos e, if_neg (by omega), if_pos (by omega)]
    · rw [if_neg e]
      by_cases q : v + 1 ≤ x ∧ x < 67
      · rw [if_pos q, if_pos (by omega)]
      · rw [if_neg q, if_neg (by omega)]
theorem anew_loop : ∀ (m n v : Nat) (w : FN), v + m = 87 → m < n → f_X6_anew_2 n (nI v) w = some (fun x => if v ≤ x ∧ x < 87 then 0 else w x) := by
  intro m
  induction m with
  | zero =>
    intro n v w h1 h2
    obtain ⟨n, rfl⟩ : ∃ k, n = k + 1 := ⟨n - 1, by omega⟩
    rw [f_X6_anew_2, if_pos (show (87 : Int32) ≤ nI v from nI_le (a := 87) (by omega) (by omega))]
    congr 1; funext x; rw [if_neg (by omega)]
  | succ m ih =>
    intro n v w h1 h2
    obtain ⟨n, rfl⟩ : ∃ k, n = k + 1 := ⟨n - 1, by omega⟩
    rw [f_X6_anew_2, if_neg (show ¬ (87 : Int32) ≤ nI v from nI_ge (b := 87) (by omega) (by omega)), if_pos ((gi_nI (by omega)).mpr (by omega)), nI1, nI_clamp (by omega), ih n (v + 1) _ (by omega) (by omega)]
    congr 1; funext x; rw [upd_ap]
    by_cases e : x = v
    · rw [if_pos e, if_neg (by omega), if_pos (by omega)]
    · rw [if_neg e]
      by_cases q : v + 1 ≤ x ∧ x < 87
      · rw [if_pos q, if_pos (by omega)]
      · rw [if_neg q, if_neg (by omega)]
theorem fill12_loop (c : Int32) : ∀ (m n v : Nat) (w : FN), v + m = 12 → m < n → f_J7_fill_53178_12_5 c n (nI v) w = some (fun x => if v ≤ x ∧ x < 12 then c else w x) := by
  intro m
  induction m with
  | zero =>
    intro n v w h1 h2
    obtain ⟨n, rfl⟩ : ∃ k, n = k + 1 := ⟨n - 1, by omega⟩
    rw [f_J7_fill_53178_12_5, if_pos (show (12 : Int32) ≤ nI v from nI_le (a := 12) (by omega) (by omega))]
    congr 1; funext x; rw [if_neg (by omega)]
  | succ m ih =>
    intro n v w h1 h2
    obtain ⟨n, rfl⟩ : ∃ k, n = k + 1 := ⟨n - 1, by omega⟩
    rw [f_J7_fill_53178_12_5, if_neg (show ¬ (12 : Int32) ≤ nI v from nI_ge (b := 12) (by omega) (by omega)), if_pos ((gi_nI (by omega)).mpr (by omega)), nI1, nI_clamp (by omega), ih n (v + 1) _ (by omega) (by omega)]
    congr 1; funext x; rw [upd_ap]
    by_cases e : x = v
    · rw [if_pos e, if_neg (by omega), if_pos (by omega)]
    · rw [if_neg e]
      by_cases q : v + 1 ≤ x ∧ x < 12
      · rw [if_pos q, if_pos (by omega)]
      · rw [if_neg q, if_neg (by omega)]
theorem fill6_loop (c : Int32) : ∀ (m n v : Nat) (w : FN), v + m = 6 → m < n → f_J7_fill_53178_6_5 c n (nI v) w = some (fun x => if v ≤ x ∧ x < 6 then c else w x) := by
  intro m
  induction m with
  | zero =>
    intro n v w h1 h2
    obtain ⟨n, rfl⟩ : ∃ k, n = k + 1 := ⟨n - 1, by omega⟩
    rw [f_J7_fill_53178_6_5, if_pos (show (6 : Int32) ≤ nI v from nI_le (a := 6) (by omega) (by omega))]
    congr 1; funext x; rw [if_neg (by omega)]
  | succ m ih =>
    intro n v w h1 h2
    obtain ⟨n, rfl⟩ : ∃ k, n = k + 1 := ⟨n - 1, by omega⟩
    rw [f_J7_fill_53178_6_5, if_neg (show ¬ (6 : Int32) ≤ nI v from nI_ge (b := 6) (by omega) (by omega)), if_pos ((gi_nI (by omega)).mpr (by omega)), nI1, nI_clamp (by omega), ih n (v + 1) _ (by omega) (by omega)]
    congr 1; funext x; rw [upd_ap]
    by_cases e : x = v
    · rw [if_pos e, if_neg (by omega), if_pos (by omega)]
    · rw [if_neg e]
      by_cases q : v + 1 ≤ x ∧ x < 6
      · rw [if_pos q, if_pos (by omega)]
      · rw [if_neg q, if_neg (by omega)]
theorem fill12_eq (w : FN) (c : Int32) : f_J7_fill_53178_12 w c = some (fun x => if x < 12 then c else w x) := by
  unfold f_J7_fill_53178_12
  rw [show (0 : Int32) = nI 0 from rfl, fill12_loop c 12 1000 0 w rfl (by decide)]
  simp
theorem fill6_eq (w : FN) (c : Int32) : f_J7_fill_53178_6 w c = some (fun x => if x < 6 then c else w x) := by
  unfold f_J7_fill_53178_6
  rw [show (0 : Int32) = nI 0 from rfl, fill6_loop c 6 1000 0 w rfl (by decide)]
  simp
theorem anew_eq (w : FN) : f_X6_anew w = some (0, fun x => if x = 85 then 1 else if x < 87 then 0 else w x) := by
  unfold f_X6_anew
  have e := anew_loop 87 1000 0 w rfl (by decide)
  rw [show nI 0 = (0 : Int32) from rfl] at e
  rw [e]
  simp only [Option.bind_some, Nat.zero_le, true_and]
  congr 2
theorem laycp_loop (u1 : Int32 × Int32 × FN) : ∀ (m n v : Nat) (w : FN), v + m = 67 → m < n → f_X6_lay_24 u1 n (nI v) w = some (fun x => if v ≤ x ∧ x < 67 then u1.2.2 x else w x) := by
  intro m
  induction m with
  | zero =>
    intro n v w h1 h2
    obtain ⟨n, rfl⟩ : ∃ k, n = k + 1 := ⟨n - 1, by omega⟩
    rw [f_X6_lay_24, if_pos (show (67 : Int32) ≤ nI v from nI_le (a := 67) (by omega) (by omega))]
    congr 1; funext x; rw [if_neg (by omega)]
  | succ m ih =>
    intro n v w h1 h2
    obtain ⟨n, rfl⟩ : ∃ k, n = k + 1 := ⟨n - 1, by omega⟩
    have g : gi (nI v) 67 := (gi_nI (by omega)).mpr (by omega)
    rw [f_X6_lay_24, if_neg (show ¬ (67 : Int32) ≤ nI v from nI_ge (b := 67) (by omega) (by omega)), if_pos g, if_pos g, nI1, nI_clamp (by omega), ih n (v + 1) _ (by omega) (by omega)]
    congr 1; funext x; rw [upd_ap]
    by_cases e : x = v
    · rw [if_pos e, if_neg (by omega), if_pos (by omega), e]
    · rw [if_neg e]
      by_cases q : v + 1 ≤ x ∧ x < 67
      · rw [if_pos q, if_pos (by omega)]
      · rw [if_neg q, if_neg (by omega)]
theorem note_shift : ∀ (m n v : Nat) (w : FN), v + m = 435 → m < n → f_X6_note_11 n (nI v) w = some (fun x => if v ≤ x ∧ x < 435 then w (87 + x) else w x) := by
  intro m
  induction m with
  | zero =>
    intro n v w h1 h2
    obtain ⟨n, rfl⟩ : ∃ k, n = k + 1 := ⟨n - 1, by omega⟩
    rw [f_X6_note_11, if_pos (show (435 : Int32) ≤ nI v from nI_le (a := 435) (by omega) (by omega))]
    congr 1; funext x; rw [if_neg (by omega)]
  | succ m ih =>
    intro n v w h1 h2
    obtain ⟨n, rfl⟩ : ∃ k, n = k + 1 := ⟨n - 1, by omega⟩
    have e87 : (87 : Int32) + nI v = nI (87 + v) := nI_add 87 v
    rw [f_X6_note_11, if_neg (show ¬ (435 : Int32) ≤ nI v from nI_ge (b := 435) (by omega) (by omega)), e87, if_pos ((gi_nI (by omega)).mpr (by omega)), if_pos ((gi_nI (by omega)).mpr (by omega)), nI1, nI_clamp (by omega), nI_clamp (by omega), ih n (v + 1) _ (by omega) (by omega)]
    congr 1; funext x; rw [upd_ap, upd_ap]
    by_cases q : v + 1 ≤ x ∧ x < 435
    · rw [if_pos q, if_neg (by omega), if_pos (by omega)]
    · rw [if_neg q]
      by_cases e : x = v
      · rw [if_pos e, if_pos (by omega), e]
      · rw [if_neg e, if_neg (by omega)]
theorem note_store (s : FN) (u : Int32 × FN) (k : Nat) (hk : u.1 = nI k) (hk5 : k ≤ 5) : ∀ (m n v : Nat) (w : FN), v + m = 87 → m < n → f_X6_note_51 s u n (nI v) w = some (fun x => if 87 * k + v ≤ x ∧ x < 87 * k + 87 then s (x - 87 * k) else w x) := by
  intro m
  induction m with
  | zero =>
    intro n v w h1 h2
    obtain ⟨n, rfl⟩ : ∃ k, n = k + 1 := ⟨n - 1, by omega⟩
    rw [f_X6_note_51, if_pos (show (87 : Int32) ≤ nI v from nI_le (a := 87) (by omega) (by omega))]
    congr 1; funext x; rw [if_neg (by omega)]
  | succ m ih =>
    intro n v w h1 h2
    obtain ⟨n, rfl⟩ : ∃ k, n = k + 1 := ⟨n - 1, by omega⟩
    have e87 : (87 : Int32) * u.1 + nI v = nI (87 * k + v) := by
      rw [hk, show (87 : Int32) = nI 87 from rfl, pk_mul, nI_add]
    rw [f_X6_note_51, if_neg (show ¬ (87 : Int32) ≤ nI v from nI_ge (b := 87) (by omega) (by omega)), e87, if_pos ((gi_nI (by omega)).mpr (by omega)), if_pos ((gi_nI (by omega)).mpr (by omega)), nI1, nI_clamp (by omega), nI_clamp (by omega), ih n (v + 1) _ (by omega) (by omega)]
    congr 1; funext x; rw [upd_ap]
    by_cases q : 87 * k + (v + 1) ≤ x ∧ x < 87 * k + 87
    · rw [if_pos q, if_pos (by omega)]
    · rw [if_neg q]
      by_cases e : x = 87 * k + v
      · rw [if_pos e, if_pos (by omega), e, show 87 * k + v - 87 * k = v by omega]
      · rw [if_neg e, if_neg (by omega)]
/-- note: what was is put behind the kept ones, the oldest falls out of six -/
theorem note_eq (s bf : FN) {k : Nat} (hk : k ≤ 6) : ∃ b' : FN, f_X6_note (nI k) s bf = some (nI (min (k + 1) 6), b') ∧ (∀ i, i < 87 → b' (87 * (min (k + 1) 6 - 1) + i) = s i) ∧ ∀ j i, i < 87 → 1 ≤ j → j < min (k + 1) 6 → b' (87 * (min (k + 1) 6 - 1 - j) + i) = bf (87 * (k - 1 - (j - 1)) + i) := by
  unfold f_X6_note
  by_cases h6 : k = 6
  · subst h6
    rw [if_pos (show nI 6 = (6 : Int32) from rfl)]
    have e1 := note_shift 435 1000 0 bf rfl (by decide)
    rw [show nI 0 = (0 : Int32) from rfl] at e1
    rw [e1]
    simp only [Option.bind_some]
    have e2 := note_store s (nI 6 - 1, fun x => if 0 ≤ x ∧ x < 435 then bf (87 + x) else bf x) 5 rfl (by decide) 87 1000 0 (fun x => if 0 ≤ x ∧ x < 435 then bf (87 + x) else bf x) rfl (by decide)
    rw [show nI 0 = (0 : Int32) from rfl] at e2
    rw [e2]
    refine ⟨_, rfl, fun i hi => ?_, fun j i hi h1 h2 => ?_⟩
    · show (if _ then _ else _) = _
      rw [if_pos (by omega)]
      exact congrArg s (by omega)
    · show (if _ then _ else _) = _
      have h2 : j < 6 := h2
      rw [show min (6 + 1) 6 = 6 from rfl, if_neg (by omega), if_pos (by omega)]
      exact congrArg bf (by omega)
  · rw [if_neg (show ¬ nI k = (6 : Int32) from fun e => h6 ((nI_eq (b := 6) (by omega) (by decide)).mp e))]
    simp only [Option.bind_some]
    have e2 := note_store s (nI k, bf) k rfl (by omega) 87 1000 0 bf rfl (by decide)
    rw [show nI 0 = (0 : Int32) from rfl] at e2
    rw [e2]
    have em : min (k + 1) 6 = k + 1 := by omega
    rw [em]
    refine ⟨_, by rw [nI1]; rfl, fun i hi => ?_, fun j i hi h1 h2 => ?_⟩
    · show (if _ then _ else _) = _
      rw [if_pos (by omega)]
      congr 1; omega
    · show (if _ then _ else _) = _
      rw [if_neg (by omega)]
      congr 1; omega
theorem undo_loop (bf : FN) (k : Nat) (hk : k ≤ 5) : ∀ (m n v : Nat) (w : FN), v + m = 87 → m < n → f_X6_undo_22 (nI (k + 1)) bf n (nI v) w = some (fun x => if v ≤ x ∧ x < 87 then bf (87 * k + x) else w x) := by
  intro m
  induction m with
  | zero =>
    intro n v w h1 h2
    obtain ⟨n, rfl⟩ : ∃ k, n = k + 1 := ⟨n - 1, by omega⟩
    rw [f_X6_undo_22, if_pos (show (87 : Int32) ≤ nI v from nI_le (a := 87) (by omega) (by omega))]
    congr 1; funext x; rw [if_neg (by omega)]
  | succ m ih =>
    intro n v w h1 h2
    obtain ⟨n, rfl⟩ : ∃ k, n = k + 1 := ⟨n - 1, by omega⟩
    have e87 : (87 : Int32) * (nI (k + 1) - 1) + nI v = nI (87 * k + v) := by
      rw [nI_pred, show (87 : Int32) = nI 87 from rfl, pk_mul, nI_add]
    rw [f_X6_undo_22, if_neg (show ¬ (87 : Int32) ≤ nI v from nI_ge (b := 87) (by omega) (by omega)), e87, if_pos ((gi_nI (by omega)).mpr (by omega)), if_pos ((gi_nI (by omega)).mpr (by omega)), nI1, nI_clamp (by omega), nI_clamp (by omega), ih n (v + 1) _ (by omega) (by omega)]
    congr 1; funext x; rw [upd_ap]
    by_cases q : v + 1 ≤ x ∧ x < 87
    · rw [if_pos q, if_pos (by omega)]
    · rw [if_neg q]
      by_cases e : x = v
      · rw [if_pos e, if_pos (by omega), e]
      · rw [if_neg e, if_neg (by omega)]
