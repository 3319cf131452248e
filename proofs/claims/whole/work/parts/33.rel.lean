/-! PURE: what the two hold alike -/
def anyb (P : Nat → Bool) : Nat → Bool
  | 0 => false
  | n + 1 => anyb P n || P n
theorem anyb_iff {P : Nat → Bool} : ∀ {n : Nat}, anyb P n = true ↔ ∃ i, i < n ∧ P i = true
  | 0 => ⟨fun h => Bool.noConfusion h, fun ⟨i, h, _⟩ => absurd h (Nat.not_lt_zero i)⟩
  | n + 1 => by
    rw [anyb, Bool.or_eq_true, anyb_iff (n := n)]
    constructor
    · rintro (⟨i, h1, h2⟩ | h)
      · exact ⟨i, by omega, h2⟩
      · exact ⟨n, by omega, h⟩
    · rintro ⟨i, h1, h2⟩
      by_cases e : i = n
      · subst e; exact Or.inr h2
      · exact Or.inl ⟨i, by omega, h2⟩
theorem anyb_no {P : Nat → Bool} {n : Nat} : anyb P n = false ↔ ∀ i, i < n → P i = false := by
  constructor
  · intro h i hi
    cases e : P i with
    | false => rfl
    | true => rw [anyb_iff.mpr ⟨i, hi, e⟩] at h; cases h
  · intro h
    cases e : anyb P n with
    | false => rfl
    | true =>
      obtain ⟨i, h1, h2⟩ := anyb_iff.mp e
      rw [h i h1] at h2; cases h2
theorem anyb_cong {P R : Nat → Bool} : ∀ {n : Nat}, (∀ i, i < n → P i = R i) → anyb P n = anyb R n
  | 0, _ => rfl
  | n + 1, h => by rw [anyb, anyb, anyb_cong (n := n) (fun i hi => h i (by omega)), h n (by omega)]
/-- a zone in fire -/
def zf (t s : FN) (d z : Nat) : Bool := anyb (fun i => decide (t (3 * i + 1) = nI z) && decide (s (36 + i) = 1)) d
def PlanR (kind zoneOf ek ez dl : FN) (dev iso eff snd pre alarm conf pace ph : Int32) (t : FN) (d e : Nat) : Prop :=
  (1 ≤ d ∧ d ≤ 12 ∧ e ≤ 6) ∧ (dev = nI d ∧ t 60 = nI d ∧ eff = nI e ∧ t 61 = nI e) ∧
  (∀ i, i < d → kind i = t (3 * i) ∧ zoneOf i = t (3 * i + 1) ∧ (∃ z, z < 6 ∧ t (3 * i + 1) = nI z) ∧ (t (3 * i + 2) = 0 ∨ t (3 * i + 2) = 1) ∧ ∃ q, q < 4 ∧ t (3 * i) = nI q) ∧
  Bt iso d (fun i => decide (t (3 * i + 2) = 1)) ∧
  (∀ k, k < e → ek k = t (36 + 4 * k) ∧ ez k = t (36 + 4 * k + 1) ∧ dl k = t (36 + 4 * k + 2) ∧ (∃ S, S < 64 ∧ t (36 + 4 * k + 1) = nI S) ∧ (t (36 + 4 * k + 3) = 0 ∨ t (36 + 4 * k + 3) = 1)) ∧
  Bt snd e (fun k => decide (t (36 + 4 * k + 3) = 1)) ∧
  (pre = t 62 ∧ alarm = t 63 ∧ conf = t 64 ∧ pace = t 65 ∧ ph = t 66) ∧ (∃ E, 1 ≤ E ∧ E ≤ 9 ∧ t 65 = nI E) ∧ ∃ E, 1 ≤ E ∧ E ≤ 9 ∧ t 66 = nI E
/-- a zone came at a tick, not after the one that is -/
def Cm (x y : Int32) : Prop := ∃ c T : Nat, 1 ≤ c ∧ c ≤ T ∧ T ≤ 9999 ∧ x = nI c ∧ y = nI T
def StateR (rd bs hd wt cm : FN) (cuts shorts fires on silent ticks byDay : Int32) (t s : FN) (d e : Nat) : Prop :=
  (∀ i, i < 12 → rd i = s i ∧ bs i = s (12 + i) ∧ hd i = s (24 + i)) ∧ (∀ k, k < 6 → wt k = s (61 + k)) ∧
  (∀ i, i < 12 → s (36 + i) = 0 ∨ (s (36 + i) = 1 ∧ i < d)) ∧ Bt fires d (fun i => decide (s (36 + i) = 1)) ∧
  (∀ w, w ≤ d → s (48 + w) = 0 ∨ s (48 + w) = 1 ∨ s (48 + w) = 2) ∧ Bt cuts (d + 1) (fun w => decide (s (48 + w) = 1)) ∧ Bt shorts (d + 1) (fun w => decide (s (48 + w) = 2)) ∧
  (∀ k, k < 6 → (s (67 + k) = 0 ∨ (s (67 + k) = 1 ∧ k < e)) ∧ (s (73 + k) = 0 ∨ (s (73 + k) = 1 ∧ k < e))) ∧ Bt on e (fun k => decide (s (67 + k) = 1)) ∧ Bt silent e (fun k => decide (s (73 + k) = 1)) ∧
  (∀ z, z < 6 → (zf t s d z = true → cm z = s (79 + z) ∧ Cm (s (79 + z)) (s 86)) ∧ (zf t s d z = false → s (79 + z) = 0)) ∧
  (ticks = s 86 ∧ byDay = s 85 ∧ (∃ T, T ≤ 9999 ∧ s 86 = nI T) ∧ (s 85 = 0 ∨ s 85 = 1)) ∧ (∀ i, i < 12 → (∃ b, b ≤ 40 ∧ s (12 + i) = nI b) ∧ ∃ r, r ≤ 99 ∧ s i = nI r)
def PlanP (p : Pl) (t : FN) (d e : Nat) : Prop := PlanR p.1 p.2.1 p.2.2.1 p.2.2.2.1 p.2.2.2.2.1 p.2.2.2.2.2.1 p.2.2.2.2.2.2.1 p.2.2.2.2.2.2.2.1 p.2.2.2.2.2.2.2.2.1 p.2.2.2.2.2.2.2.2.2.1 p.2.2.2.2.2.2.2.2.2.2.1 p.2.2.2.2.2.2.2.2.2.2.2.1 p.2.2.2.2.2.2.2.2.2.2.2.2.1 p.2.2.2.2.2.2.2.2.2.2.2.2.2 t d e
def StateP (q : Sta) (t s : FN) (d e : Nat) : Prop := StateR q.1 q.2.1 q.2.2.1 q.2.2.2.1 q.2.2.2.2.1 q.2.2.2.2.2.1 q.2.2.2.2.2.2.1 q.2.2.2.2.2.2.2.1 q.2.2.2.2.2.2.2.2.1 q.2.2.2.2.2.2.2.2.2.1 q.2.2.2.2.2.2.2.2.2.2.1 q.2.2.2.2.2.2.2.2.2.2.2 t s d e
def p6 (s0 s1 s2 s3 s4 s5 : Sta) (j : Nat) : Sta := match j with
  | 0 => s0
  | 1 => s1
  | 2 => s2
  | 3 => s3
  | 4 => s4
  | _ => s5
def pst (C : RC) (j : Nat) : Sta := p6 C.2.2.2.2.2.1 C.2.2.2.2.2.2.1 C.2.2.2.2.2.2.2.1 C.2.2.2.2.2.2.2.2.1 C.2.2.2.2.2.2.2.2.2.1 C.2.2.2.2.2.2.2.2.2.2 j
def Rel (C : RC) (M : MC) : Prop := ∃ n k d e : Nat, (n ≤ 200 ∧ C.1.2.2.2 = nI n ∧ M.2.2.2.2.2.1 = nI n ∧ ∀ i, i < n → C.1.1 i = M.1 i) ∧ (k ≤ 6 ∧ C.2.1 = nI k ∧ M.2.2.2.2.2.2.2.1 = nI k) ∧ (M.2.2.2.2.2.2.2.2.1 = -1 ∧ M.2.2.2.2.2.2.2.2.2.1 = -1) ∧ PlanP C.2.2.1 M.2.1 d e ∧ StateP C.2.2.2.2.1 M.2.1 M.2.2.2.1 d e ∧ ∀ j, j < k → StateP (pst C j) M.2.1 (fun i => M.2.2.2.2.1 (87 * (k - 1 - j) + i)) d e
theorem zf_cong {t s s' : FN} {d z : Nat} (hd : d ≤ 12) (h : ∀ i, i < 87 → s i = s' i) : zf t s d z = zf t s' d z := anyb_cong (fun i hi => by show (_ && decide (s (36 + i) = 1)) = (_ && decide (s' (36 + i) = 1)); rw [h (36 + i) (by omega)])
/-- only what lies below 87 counts, and below 12 and 6 -/
theorem StateR.cong {rd bs hd wt cm rd' bs' hd' wt' cm' : FN} {cuts shorts fires on silent ticks byDay : Int32} {t s s' : FN} {d e : Nat} (hd12 : d ≤ 12) (he6 : e ≤ 6) (h : StateR rd bs hd wt cm cuts shorts fires on silent ticks byDay t s d e)
    (hs : ∀ i, i < 87 → s i = s' i) (h1 : ∀ i, i < 12 → rd i = rd' i ∧ bs i = bs' i ∧ hd i = hd' i) (h2 : ∀ i, i < 6 → wt i = wt' i ∧ cm i = cm' i) : StateR rd' bs' hd' wt' cm' cuts shorts fires on silent ticks byDay t s' d e := by
  obtain ⟨a1, a2, a3, a4, a5, a6, a7, a8, a9, a10, a11, ⟨a12, a13, a14, a15⟩, a16⟩ := h
  refine ⟨fun i hi => ?_, fun k hk => ?_, fun i hi => ?_, a4.cong (fun i hi => ?_), fun w hw => ?_, a6.cong (fun i hi => ?_), a7.cong (fun i hi => ?_), fun k hk => ?_, a9.cong (fun i hi => ?_), a10.cong (fun i hi => ?_), fun z hz => ?_, ⟨?_, ?_, ?_, ?_⟩, fun i hi => ?_⟩
  · rw [← (h1 i hi).1, ← (h1 i hi).2.1, ← (h1 i hi).2.2, ← hs i (by omega), ← hs (12 + i) (by omega), ← hs (24 + i) (by omega)]; exact a1 i hi
  · rw [← (h2 k hk).1, ← hs (61 + k) (by omega)]; exact a2 k hk
  · rw [← hs (36 + i) (by omega)]; exact a3 i hi
  · rw [← hs (36 + i) (by omega)]
  · rw [← hs (48 + w) (by omega)]; exact a5 w hw
  · rw [← hs (48 + i) (by omega)]
  · rw [← hs (48 + i) (by omega)]
  · rw [← hs (67 + k) (by omega), ← hs (73 + k) (by omega)]; exact a8 k hk
  · rw [← hs (67 + i) (by omega)]
  · rw [← hs (73 + i) (by omega)]
  · rw [← zf_cong hd12 hs, ← (h2 z hz).2, ← hs (79 + z) (by omega), ← hs 86 (by omega)]; exact a11 z hz
  · rw [← hs 86 (by omega)]; exact a12
  · rw [← hs 85 (by omega)]; exact a13
  · rw [← hs 86 (by omega)]; exact a14
  · rw [← hs 85 (by omega)]; exact a15
  · rw [← hs i (by omega), ← hs (12 + i) (by omega)]; exact a16 i hi
theorem ok_write (x0 : Int32) : OK1 Rel (fun C => rs_write C x0) (fun M => ms_write M x0) := by
  intro C M h
  obtain ⟨n, k, d, e, ⟨hn, h1, h2, h3⟩, hk, hm, hrest⟩ := h
  show ∃ o q, rs_write C x0 = some o ∧ ms_write M x0 = some q ∧ _
  unfold rs_write ms_write f_X5_write f_X6_write
  rw [within_eq, in_eq x0 32 126 (by decide) (by decide), h1, h2]
  simp only [Option.bind_some]
  by_cases c : wi x0 32 126 = 0
  · rw [if_pos c, if_pos c]
    exact ⟨_, _, rfl, rfl, rfl, n, k, d, e, ⟨hn, rfl, rfl, h3⟩, hk, hm, hrest⟩
  · rw [if_neg c, if_neg c]
    unfold f_X4_append
    by_cases c2 : n = 200
    · subst c2
      exact ⟨_, _, rfl, rfl, rfl, 200, k, d, e, ⟨hn, rfl, rfl, h3⟩, hk, hm, hrest⟩
    · rw [if_pos (show nI n < (200 : Int32) from nI_lt (b := 200) (by omega) (by decide)), if_pos ((gi_nI (by omega)).mpr (by omega)), if_neg (show ¬ nI n = (200 : Int32) from fun q => c2 ((nI_eq (b := 200) (by omega) (by decide)).mp q)), if_pos ((gi_nI (by omega)).mpr (by omega))]
      simp only [Option.bind_some]
      rw [if_neg (show ¬ (1 : Int32) = 0 by decide)]
      refine ⟨_, _, rfl, rfl, rfl, n + 1, k, d, e, ⟨by omega, nI_1 n, nI_1 n, fun i hi => ?_⟩, hk, hm, hrest⟩
      show upd C.1.1 (nI n).toNatClampNeg x0 i = upd M.1 (nI n).toNatClampNeg x0 i
      rw [nI_clamp (by omega), upd_ap, upd_ap]
      by_cases q : i = n
      · rw [if_pos q, if_pos q]
      · rw [if_neg q, if_neg q]; exact h3 i (by omega)
theorem ok_wipe : OK1 Rel rs_wipe ms_wipe := by
  intro C M h
  obtain ⟨n, k, d, e, ⟨hn, h1, h2, h3⟩, hk, hm, hrest⟩ := h
  refine ⟨_, _, rfl, rfl, h1.trans h2.symm, 0, k, d, e, ⟨by omega, rfl, rfl, fun i hi => absurd hi (by omega)⟩, hk, hm, hrest⟩
theorem cpy0 {a b : FN} {n i : Nat} (h : i < n) : va_cpy a b 0 0 n i = a i := by
  rw [pk_cpy_in (by omega) (by omega)]; simp
/-- what keep and note do: the past of both grows alike -/
theorem keep_past {kp : Int32} {sn s0 s1 s2 s3 s4 s5 : Sta} {t s bf : FN} {k d e : Nat} (hd12 : d ≤ 12) (he6 : e ≤ 6) (hk : k ≤ 6) (hkp : kp = nI k) (hS : StateP sn t s d e) (hp : ∀ j, j < k → StateP (p6 s0 s1 s2 s3 s4 s5 j) t (fun i => bf (87 * (k - 1 - j) + i)) d e) :
    ∃ (u : Int32 × Int32 × Int32 × Int32 × Int32 × Int32 × Int32 × Int32 × FN × FN × FN × FN × FN) (b' : FN), f_X0_keep kp s5.1 s5.2.1 s5.2.2.1 s5.2.2.2.1 s5.2.2.2.2.1 sn.2.2.2.2.2.1 sn.2.2.2.2.2.2.1 sn.2.2.2.2.2.2.2.1 sn.2.2.2.2.2.2.2.2.1 sn.2.2.2.2.2.2.2.2.2.1 sn.2.2.2.2.2.2.2.2.2.2.1 sn.2.2.2.2.2.2.2.2.2.2.2 sn.1 sn.2.1 sn.2.2.1 sn.2.2.2.1 sn.2.2.2.2.1 = some u ∧
      f_X6_note (nI k) s bf = some (nI (min (k + 1) 6), b') ∧ u.1 = nI (min (k + 1) 6) ∧
      ∀ j, j < min (k + 1) 6 → StateP (p6 (u.2.2.2.2.2.2.2.2.1, u.2.2.2.2.2.2.2.2.2.1, u.2.2.2.2.2.2.2.2.2.2.1, u.2.2.2.2.2.2.2.2.2.2.2.1, u.2.2.2.2.2.2.2.2.2.2.2.2, u.2.1, u.2.2.1, u.2.2.2.1, u.2.2.2.2.1, u.2.2.2.2.2.1, u.2.2.2.2.2.2.1, u.2.2.2.2.2.2.2.1) s0 s1 s2 s3 s4 j) t (fun i => b' (87 * (min (k + 1) 6 - 1 - j) + i)) d e := by
  obtain ⟨b', n1, n2, n3⟩ := note_eq s bf hk
  unfold f_X0_keep f_X3_copy
  refine ⟨_, b', rfl, n1, ?_, fun j hj => ?_⟩
  · show (if (6 : Int32) < kp + 1 then 6 else kp + 1) = _
    rw [hkp, nI1]
    by_cases h : k = 6
    · subst h; rfl
    · rw [if_neg (show ¬ (6 : Int32) < nI (k + 1) from nI_nlt (a := 6) (by omega) (by omega)), show min (k + 1) 6 = k + 1 by omega]
  · match j, hj with
    | 0, hj =>
      refine StateR.cong hd12 he6 hS (fun i hi => ?_) (fun i hi => ?_) (fun i hi => ?_)
      · rw [Nat.sub_zero]; exact (n2 i hi).symm
      · exact ⟨(cpy0 (n := 12) hi).symm, (cpy0 (n := 12) hi).symm, (cpy0 (n := 12) hi).symm⟩
      · exact ⟨(cpy0 (n := 6) hi).symm, (cpy0 (n := 6) hi).symm⟩
    | 1, hj => exact StateR.cong hd12 he6 (hp 0 (by omega)) (fun i hi => (n3 1 i hi (by omega) hj).symm) (fun _ _ => ⟨rfl, rfl, rfl⟩) (fun _ _ => ⟨rfl, rfl⟩)
    | 2, hj => exact StateR.cong hd12 he6 (hp 1 (by omega)) (fun i hi => (n3 2 i hi (by omega) hj).symm) (fun _ _ => ⟨rfl, rfl, rfl⟩) (fun _ _ => ⟨rfl, rfl⟩)
    | 3, hj => exact StateR.cong hd12 he6 (hp 2 (by omega)) (fun i hi => (n3 3 i hi (by omega) hj).symm) (fun _ _ => ⟨rfl, rfl, rfl⟩) (fun _ _ => ⟨rfl, rfl⟩)
    | 4, hj => exact StateR.cong hd12 he6 (hp 3 (by omega)) (fun i hi => (n3 4 i hi (by omega) hj).symm) (fun _ _ => ⟨rfl, rfl, rfl⟩) (fun _ _ => ⟨rfl, rfl⟩)
    | 5, hj => exact StateR.cong hd12 he6 (hp 4 (by omega)) (fun i hi => (n3 5 i hi (by omega) hj).symm) (fun _ _ => ⟨rfl, rfl, rfl⟩) (fun _ _ => ⟨rfl, rfl⟩)
    | j + 6, hj => omega
theorem ok_undo : OK1 Rel rs_undo ms_undo := by
  intro C M h
  obtain ⟨n, k, d, e, hn, ⟨hk, k1, k2⟩, hm, hPl, hSt, hpast⟩ := h
  obtain ⟨⟨hd1, hd12, he6⟩, -⟩ := id hPl
  show ∃ o q, rs_undo C = some o ∧ ms_undo M = some q ∧ _
  unfold rs_undo ms_undo f_X5_undo f_X6_undo f_X0_takeBack
  rw [k1, k2]
  by_cases c : k = 0
  · subst c
    rw [if_pos (show nI 0 = (0 : Int32) from rfl), if_pos (show nI 0 = (0 : Int32) from rfl)]
    exact ⟨_, _, rfl, rfl, rfl, n, 0, d, e, hn, ⟨hk, rfl, rfl⟩, hm, hPl, hSt, fun j hj => absurd hj (by omega)⟩
  · obtain ⟨j0, rfl⟩ : ∃ j, k = j + 1 := ⟨k - 1, by omega⟩
    have hc : ¬ nI (j0 + 1) = (0 : Int32) := nI_ne0 (by omega) (by omega)
    rw [if_neg hc, if_neg hc]
    have e2 := undo_loop M.2.2.2.2.1 j0 (by omega) 87 1000 0 M.2.2.2.1 rfl (by decide)
    rw [show nI 0 = (0 : Int32) from rfl] at e2
    rw [e2, nI_pred]
    simp only [Option.bind_some]
    rw [if_neg (nI_pos (by omega))]
    refine ⟨_, _, rfl, rfl, rfl, n, j0, d, e, hn, ⟨by omega, rfl, rfl⟩, hm, hPl, ?_, fun j hj => ?_⟩
    · refine StateR.cong hd12 he6 (hpast 0 (by omega)) (fun i hi => ?_) (fun _ _ => ⟨rfl, rfl, rfl⟩) (fun _ _ => ⟨rfl, rfl⟩)
      show M.2.2.2.2.1 (87 * (j0 + 1 - 1 - 0) + i) = if 0 ≤ i ∧ i < 87 then M.2.2.2.2.1 (87 * j0 + i) else _
      rw [if_pos (by omega)]
      congr 1
    · have hq := hpast (j + 1) (by omega)
      rw [show j0 + 1 - 1 - (j + 1) = j0 - 1 - j by omega] at hq
      match j, hj, hq with
      | 0, _, hq => exact hq
      | 1, _, hq => exact hq
      | 2, _, hq => exact hq
      | 3, _, hq => exact hq
      | 4, _, hq => exact hq
      | j + 5, hj, _ => omega
