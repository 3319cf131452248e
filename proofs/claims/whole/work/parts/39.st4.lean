/-! PURE: stop, wireOf, worst, help -/
theorem upS_some {P : Nat → Bool} : ∀ {r v : Nat}, ¬ upS P r v = -4 → ∃ w, v ≤ w ∧ w < v + r ∧ upS P r v = nI w ∧ P w = true
  | 0, _, h => absurd rfl h
  | r + 1, v, h => by
    rw [upS] at h ⊢
    cases q : P v with
    | true => rw [if_pos rfl]; exact ⟨v, by omega, by omega, rfl, q⟩
    | false =>
      rw [q, if_neg (by decide)] at h
      obtain ⟨w, h1, h2, h3, h4⟩ := upS_some h
      rw [if_neg (by decide)]
      exact ⟨w, by omega, by omega, h3, h4⟩
theorem dnS_some {P : Nat → Bool} : ∀ {r v : Nat}, r ≤ v + 1 → ¬ dnS P r v = -4 → ∃ w, w ≤ v ∧ v < w + r ∧ dnS P r v = nI w ∧ P w = true
  | 0, _, _, h => absurd rfl h
  | r + 1, v, hr, h => by
    rw [dnS] at h ⊢
    cases q : P v with
    | true => rw [if_pos rfl]; exact ⟨v, by omega, by omega, rfl, q⟩
    | false =>
      rw [q, if_neg (by decide)] at h
      rw [if_neg (by decide)]
      by_cases h0 : v = 0
      · have : r = 0 := by omega
        subst this
        exact absurd rfl h
      · obtain ⟨w, h1, h2, h3, h4⟩ := dnS_some (r := r) (v := v - 1) (by omega) h
        exact ⟨w, by omega, by omega, h3, h4⟩
theorem nI_m1 {v : Nat} (h : v < 2 ^ 31) : ¬ nI v = -1 := by
  intro e
  have := nI_pos h
  rw [e] at this
  exact this (by decide)
theorem isoE0 {t : FN} {I : Int32} {d : Nat} (hd : d ≤ 12) (h : Bt I d (fun i => decide (t (3 * i + 2) = 1))) : Bt I d (isoE t (-1)) := h.cong (fun i hi => by unfold isoE; simp [nI_m1 (show i < 2 ^ 31 by omega)])
theorem isoE1 {t : FN} {I : Int32} {d i : Nat} (hd : d ≤ 12) (hi : i < d) (h : Bt I d (fun i => decide (t (3 * i + 2) = 1))) : Bt (I ||| ((1 : Int32) <<< (nI i &&& 31))) d (isoE t (nI i)) := (h.setb hi (by omega)).cong (fun j hj => by
  unfold isoE
  congr 1
  rw [decide_eq_decide, nI_eq (by omega) (by omega)])
theorem cutE0 {s : FN} {K : Int32} {d : Nat} (hd : d ≤ 12) (h : Bt K (d + 1) (fun w => decide (s (48 + w) = 1))) : Bt K (d + 1) (cutE s (-1)) := h.cong (fun i hi => by unfold cutE; simp [nI_m1 (show i < 2 ^ 31 by omega)])
theorem shE0 {s : FN} {K : Int32} {d : Nat} (hd : d ≤ 12) (h : Bt K (d + 1) (fun w => decide (s (48 + w) = 2))) : Bt K (d + 1) (shE s (-1)) := h.cong (fun i hi => by unfold shE; simp [nI_m1 (show i < 2 ^ 31 by omega)])
theorem cutE1 {s : FN} {K : Int32} {d w : Nat} (hd : d ≤ 12) (hw : w ≤ d) (h : Bt K (d + 1) (fun w => decide (s (48 + w) = 1))) : Bt (K &&& (((1 : Int32) <<< (nI w &&& 31)) ^^^ (-1))) (d + 1) (cutE s (nI w)) := (h.clr (i := w) (by omega) (by omega)).cong (fun j hj => by
  unfold cutE
  rw [Bool.and_comm]
  congr 2
  rw [decide_eq_decide, nI_eq (by omega) (by omega)])
theorem shE1 {s : FN} {K : Int32} {d w : Nat} (hd : d ≤ 12) (hw : w ≤ d) (h : Bt K (d + 1) (fun w => decide (s (48 + w) = 2))) : Bt (K ||| ((1 : Int32) <<< (nI w &&& 31))) (d + 1) (shE s (nI w)) := (h.setb (i := w) (by omega) (by omega)).cong (fun j hj => by
  unfold shE
  rw [Bool.or_comm]
  congr 1
  rw [decide_eq_decide, nI_eq (by omega) (by omega)])
theorem ct_lim (P : Nat → Bool) {w : Nat} : ∀ {d : Nat}, w ≤ d → fb_ct (fun j => P j && (decide (j < w) && true)) d = fb_ct P w
  | 0, h => by rw [show w = 0 by omega]; rfl
  | d + 1, h => by
    by_cases e : w = d + 1
    · subst e
      exact fb_ct_cong (fun k hk => by simp [hk])
    · rw [fb_ct_succ, ct_lim P (d := d) (by omega)]
      have : ¬ d < w := by omega
      simp [this]
theorem strOf_eq {iso : Nat → Bool} {I : Int32} {d w : Nat} (hd : d ≤ 12) (hw : w ≤ d) (hI : Bt I d iso) : f_X2_stretchOf I (nI w) = some (nI (fb_ct iso w)) := by
  unfold f_X2_stretchOf
  rw [(hI.and ((Bt.full (d := w) (by omega)).wide hw)).count hd, ct_lim iso hw]; rfl
theorem low_loop {iso sh : Nat → Bool} {I S : Int32} {d st : Nat} (hd : d ≤ 12) (hI : Bt I d iso) (hS : Bt S (d + 1) sh) (hst : st < 2 ^ 31) : ∀ (r n v : Nat), v + r = d + 1 → r < n → f_X2_lowestShort_10 (nI d) I S n (nI st) (nI v) = some (upS (fun w => sh w && decide (fb_ct iso w = st)) r v) := by
  intro r
  induction r with
  | zero =>
    intro n v h1 h2
    obtain ⟨n, rfl⟩ : ∃ k, n = k + 1 := ⟨n - 1, by omega⟩
    rw [f_X2_lowestShort_10, if_pos (nI_lt (by omega) (by omega))]; rfl
  | succ r ih =>
    intro n v h1 h2
    obtain ⟨n, rfl⟩ : ∃ k, n = k + 1 := ⟨n - 1, by omega⟩
    rw [f_X2_lowestShort_10, if_neg (nI_nlt (by omega) (by omega)), hS.bit (by omega) (i := v) (by omega), strOf_eq hd (by omega) hI]
    simp only [Option.bind_some]
    rw [nI1, ih n (v + 1) (by omega) (by omega), upS]
    cases q : sh v with
    | false => rw [if_neg (show ¬ (if false = true then (1 : Int32) else 0) = 1 by decide)]; simp
    | true =>
      rw [if_pos (show (if true = true then (1 : Int32) else 0) = 1 by decide)]
      by_cases q1 : fb_ct iso v = st
      · rw [if_pos (by rw [q1])]; simp [q1]
      · rw [if_neg (fun z => q1 ((nI_eq (ct12 _ (by omega)) hst).mp z))]; simp [q1]
theorem low_eq {iso sh : Nat → Bool} {I S : Int32} {d w : Nat} (hd : d ≤ 12) (hI : Bt I d iso) (hS : Bt S (d + 1) sh) (hw : w ≤ d) : f_X2_lowestShort (nI d) I S (nI w) = some (upS (fun v => sh v && decide (fb_ct iso v = fb_ct iso w)) (d + 1) 0) := by
  unfold f_X2_lowestShort
  rw [strOf_eq hd hw hI]
  simp only [Option.bind_some]
  have h := low_loop hd hI hS (ct12 iso (w := w) (by omega)) (d + 1) 1000 0 (by omega) (by omega)
  rw [show nI 0 = (0 : Int32) from rfl] at h
  exact h
theorem blkN_eq {iso cut sh : Nat → Bool} {I K S : Int32} {d : Nat} (hd : d ≤ 12) (hI : Bt I d iso) (hK : Bt K (d + 1) cut) (hS : Bt S (d + 1) sh) : ∃ Z, f_X5_blockedNow (nI d) I K S = some Z ∧ Bt Z (d + 1) (blk iso cut sh d) := by
  obtain ⟨Z, h1, h2⟩ := dead_eq hd hI hS
  unfold f_X5_blockedNow
  rw [h1]
  exact ⟨_, rfl, hK.or h2⟩
theorem loss_eq {t s : FN} {I K S : Int32} {ia : Int32} {d w : Nat} (hd : d ≤ 12) (hw : w ≤ d) (hI : Bt I d (isoE t ia)) (hK : Bt K (d + 1) (fun w => decide (s (48 + w) = 1))) (hS : Bt S (d + 1) (fun w => decide (s (48 + w) = 2))) : f_X5_lossByShort (nI d) K S I (nI w) = some (nI (fb_ct (lostB (isoE t ia) (cutE s (nI w)) (shE s (nI w)) d) d)) := by
  obtain ⟨Z, h1, h2⟩ := lost_eq hd hI (cutE1 hd hw hK) (shE1 hd hw hS)
  unfold f_X5_lossByShort
  rw [h1]
  simp only [Option.bind_some]
  rw [h2.count hd]; rfl
theorem ok_stop (x0 x1 x2 : Int32) : OK1 Rel (fun C => rs_stop C x0 x1 x2) (fun M => ms_stop M x0 x1 x2) := by
  intro C M h
  have h0 := h
  obtain ⟨n, k, d, e, hn, -, ⟨m1, m2⟩, hPl, hSt, -⟩ := h
  obtain ⟨⟨hd1, hd12, he6⟩, ⟨p1, p2, p3, p4⟩, -, hiso, -⟩ := id hPl
  obtain ⟨-, -, -, -, a5, a6, a7, -⟩ := id hSt
  have hI := isoE0 hd12 hiso
  have hK := cutE0 hd12 a6
  have hS := shE0 hd12 a7
  obtain ⟨Z, z1, z2⟩ := blkN_eq hd12 hI hK hS
  show ∃ o q, rs_stop C x0 x1 x2 = some o ∧ ms_stop M x0 x1 x2 = some q ∧ _
  unfold rs_stop ms_stop f_X5_stop f_X6_stop
  rw [isDev_eq, misDev_eq, p1, p2, m1, m2, within_eq, within_eq, in_eq x1 1 2 (by decide) (by decide), in_eq x2 0 2 (by decide) (by decide), z1]
  simp only [Option.bind_some]
  by_cases c : wi x0 0 (nI d - 1) = 0
  · rw [if_pos c, if_pos c]
    exact ⟨_, _, rfl, rfl, rfl, h0⟩
  rw [if_neg c, if_neg c]
  by_cases c1 : wi x1 1 2 = 0
  · rw [if_pos c1, if_pos c1]
    exact ⟨_, _, rfl, rfl, rfl, h0⟩
  rw [if_neg c1, if_neg c1]
  by_cases c2 : wi x2 0 2 = 0
  · rw [if_pos c2, if_pos c2]
    exact ⟨_, _, rfl, rfl, rfl, h0⟩
  rw [if_neg c2, if_neg c2]
  obtain ⟨i, hi, rfl⟩ := dev_of hd1 (by omega) c
  obtain ⟨en, hen1, hen2, rfl⟩ := wi_nI (a := 1) (b := 2) (by decide) (by decide) c1
  -- what comes behind the stop, for both ends alike
  have tail : ∀ W : Int32, (¬ W = -4 → ∃ w, w ≤ d ∧ W = nI w) → ∃ o q, (Option.bind (if W = -4 then (if x2 = 0 then some (0 : Int32) else some (-4)) else (if x2 = 0 then ((f_X5_bit C.2.2.2.2.1.2.2.2.2.2.1 W).bind (fun u117 => (if u117 = 1 then some (1) else some (2)))) else (if x2 = 1 then some W else ((f_X2_lowestShort (nI d) C.2.2.1.2.2.2.2.2.2.1 C.2.2.2.2.1.2.2.2.2.2.2.1 W).bind (fun u => some (u)))))) (fun u => some (u, C))) = some o ∧
      (Option.bind (if W = -4 then (if x2 = 0 then some (0 : Int32) else some (-4)) else (if x2 = 0 then (if gi (48 + W) 87 then (if (M.2.2.2.1 ((48 + W)).toNatClampNeg) = 1 then some (1) else some (2)) else none) else (if x2 = 1 then some (W) else ((f_X6_stretch (-1) M.2.1 W).bind (fun u100 => ((f_X6_shortIn (-1) (-1) M.2.1 M.2.2.2.1 u100).bind (fun u103 => some (u103)))))))) (fun u => some (u, M))) = some q ∧ o.1 = q.1 ∧ Rel o.2 q.2 := by
    intro W hW
    by_cases q : W = -4
    · rw [if_pos q, if_pos q]
      by_cases q2 : x2 = 0
      · rw [if_pos q2]; exact ⟨_, _, rfl, rfl, rfl, h0⟩
      · rw [if_neg q2]; exact ⟨_, _, rfl, rfl, rfl, h0⟩
    · rw [if_neg q, if_neg q]
      obtain ⟨w, hw, rfl⟩ := hW q
      by_cases q2 : x2 = 0
      · rw [if_pos q2, if_pos q2, a6.bit (by omega) (i := w) (by omega)]
        have e48 : (48 : Int32) + nI w = nI (48 + w) := nI_add 48 w
        rw [e48, if_pos ((gi_nI (by omega)).mpr (by omega)), nI_clamp (by omega)]
        simp only [Option.bind_some]
        by_cases q3 : M.2.2.2.1 (48 + w) = 1
        · rw [if_pos q3, if_pos (by simp [q3])]; exact ⟨_, _, rfl, rfl, rfl, h0⟩
        · rw [if_neg q3, if_neg (by simp [q3])]; exact ⟨_, _, rfl, rfl, rfl, h0⟩
      · rw [if_neg q2, if_neg q2]
        by_cases q3 : x2 = 1
        · rw [if_pos q3, if_pos q3]; exact ⟨_, _, rfl, rfl, rfl, h0⟩
        · rw [if_neg q3, if_neg q3, low_eq hd12 hI hS hw, str_eq (by omega)]
          simp only [Option.bind_some]
          rw [shin_eq hd12 p2 (ct12 _ (by omega))]
          exact ⟨_, _, rfl, rfl, rfl, h0⟩
  rcases (show en = 1 ∨ en = 2 by omega) with rfl | rfl
  · rw [if_pos (show nI 1 = (1 : Int32) from rfl), stopA_eq hd12 z2 hi, show nI 1 = (1 : Int32) from rfl, stA_eq hd12 p2 hi]
    simp only [Option.bind_some]
    exact tail _ (fun q => by
      obtain ⟨w, h1, h2, h3, -⟩ := upS_some q
      exact ⟨w, by omega, h3⟩)
  · rw [if_neg (show ¬ nI 2 = (1 : Int32) by decide), stopB_eq hd12 z2 hi, show nI 2 = (2 : Int32) from rfl, stB_eq hd12 p2 hi]
    simp only [Option.bind_some]
    exact tail _ (fun q => by
      obtain ⟨w, h1, h2, h3, -⟩ := dnS_some (by omega) q
      exact ⟨w, by omega, h3⟩)
theorem ok_wireOf (x0 x1 : Int32) : OK1 Rel (fun C => rs_wireOf C x0 x1) (fun M => ms_wireOf M x0 x1) := by
  intro C M h
  have h0 := h
  obtain ⟨n, k, d, e, hn, hk, ⟨m1, m2⟩, hPl, hSt, hp⟩ := h
  obtain ⟨⟨hd1, hd12, he6⟩, ⟨p1, p2, p3, p4⟩, -, hiso, -⟩ := id hPl
  obtain ⟨-, -, -, -, a5, a6, a7, -⟩ := id hSt
  have hI := isoE0 hd12 hiso
  show ∃ o q, rs_wireOf C x0 x1 = some o ∧ ms_wireOf M x0 x1 = some q ∧ _
  unfold rs_wireOf ms_wireOf f_X5_wireOf f_X6_wireOf
  rw [isWire_eq, misWire_eq, p1, p2, m1, m2, within_eq, in_eq x1 0 2 (by decide) (by decide)]
  simp only [Option.bind_some]
  have hsame : ∀ r : Int32, Rel (r, C).2 (r, ((M.1, M.2.1, M.2.2.1, M.2.2.2.1, M.2.2.2.2.1, M.2.2.2.2.2.1, M.2.2.2.2.2.2.1, M.2.2.2.2.2.2.2.1, -1, M.2.2.2.2.2.2.2.2.2.1, M.2.2.2.2.2.2.2.2.2.2.1, M.2.2.2.2.2.2.2.2.2.2.2) : MC)).2 := fun r => ⟨n, k, d, e, hn, hk, ⟨rfl, m2⟩, hPl, hSt, hp⟩
  have hm : ∀ r : Int32, ∀ X : MC, X = (M.1, M.2.1, M.2.2.1, M.2.2.2.1, M.2.2.2.2.1, M.2.2.2.2.2.1, M.2.2.2.2.2.2.1, M.2.2.2.2.2.2.2.1, -1, M.2.2.2.2.2.2.2.2.2.1, M.2.2.2.2.2.2.2.2.2.2.1, M.2.2.2.2.2.2.2.2.2.2.2) → Rel C X := fun r X hX => by rw [hX]; exact hsame r
  by_cases c : wi x0 0 (nI d) = 0
  · rw [if_pos c, if_pos c]
    exact ⟨_, _, rfl, rfl, rfl, hm 0 _ (by rw [m2])⟩
  rw [if_neg c, if_neg c]
  by_cases c1 : wi x1 0 2 = 0
  · rw [if_pos c1, if_pos c1]
    exact ⟨_, _, rfl, rfl, rfl, hm 0 _ (by rw [m2])⟩
  rw [if_neg c1, if_neg c1]
  obtain ⟨w, hw, rfl⟩ := wire_of (by omega) c
  have e48 : (48 : Int32) + nI w = nI (48 + w) := nI_add 48 w
  by_cases q1 : x1 = 0
  · rw [if_pos q1, if_pos q1, cond_eq hd12 hw (a5 w hw) a6 a7, e48, if_pos ((gi_nI (by omega)).mpr (by omega)), nI_clamp (by omega)]
    exact ⟨_, _, rfl, rfl, rfl, hm 0 _ (by rw [m2])⟩
  rw [if_neg q1, if_neg q1]
  by_cases q2 : x1 = 1
  · rw [if_pos q2, if_pos q2, strOf_eq hd12 hw hI, str_eq (by omega)]
    exact ⟨_, _, rfl, rfl, rfl, hm 0 _ (by rw [m2])⟩
  rw [if_neg q2, if_neg q2, loss_eq hd12 hw hI a6 a7]
  unfold f_X6_lostBy
  rw [many_eq hd12 p2]
  exact ⟨_, _, rfl, rfl, rfl, hm 0 _ (by rw [m2])⟩
