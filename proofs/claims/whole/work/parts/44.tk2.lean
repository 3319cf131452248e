/-! PURE: a tick -/
theorem lostB_cong {iso cut cut' sh sh' : Nat → Bool} {d i : Nat} (hi : i < d) (h1 : ∀ w, w ≤ d → cut w = cut' w) (h2 : ∀ w, w ≤ d → sh w = sh' w) : lostB iso cut sh d i = lostB iso cut' sh' d i := by
  have hb : ∀ w, w ≤ d → blk iso cut sh d w = blk iso cut' sh' d w := fun w hw => by unfold blk; rw [h1 w hw, dead_cong (fun _ _ => rfl) h2 hw]
  have a1 : anyb (blk iso cut sh d) (i + 1) = anyb (blk iso cut' sh' d) (i + 1) := anyb_cong (fun j hj => hb j (by omega))
  have a2 : anyb (fun j => blk iso cut sh d (i + 1 + j)) (d - i) = anyb (fun j => blk iso cut' sh' d (i + 1 + j)) (d - i) := anyb_cong (fun j hj => hb (i + 1 + j) (by omega))
  unfold lostB
  rw [a1, a2]
def frC (s : FN) (d : Nat) : Nat := fb_ct (fun i => decide (s (36 + i) = 1)) d
def DInv (s1 w : FN) (fires : Int32) (bs hd : FN) (d : Nat) : Prop :=
  (∀ i, i < 12 → bs i = w (12 + i) ∧ hd i = w (24 + i)) ∧ Bt fires d (fun i => decide (w (36 + i) = 1)) ∧ (∀ i, i < 12 → w (36 + i) = 0 ∨ (w (36 + i) = 1 ∧ i < d)) ∧ (∀ i, i < 12 → ∃ b, b ≤ 40 ∧ w (12 + i) = nI b) ∧ (∀ x, x < 12 ∨ 48 ≤ x → w x = s1 x) ∧ ∀ i, i < 12 → s1 (36 + i) = 1 → w (36 + i) = 1
theorem fe36 (t w : FN) {v : Nat} (hv : v < 12) (j : Nat) : feE t w v (36 + j) = if j = v then (if isE t w v then 1 else w (36 + v)) else w (36 + j) := by
  rw [feE_at, if_neg (by omega)]
  by_cases e : j = v
  · rw [if_pos (by omega), if_pos e]
  · rw [if_neg (by omega), if_neg (by omega), if_neg e]
theorem DInv.step {t s1 w : FN} {fires : Int32} {bs hd : FN} {d v : Nat} (hd12 : d ≤ 12) (hv : v < d) (h : DInv s1 w fires bs hd d) (hnb : ∃ b, b ≤ 40 ∧ nbE t w v = nI b) : DInv s1 (feE t w v) (if isE t w v then fires ||| ((1 : Int32) <<< (nI v &&& 31)) else fires) (upd bs v (nbE t w v)) (upd hd v (cnE t w v)) d := by
  obtain ⟨i1, i2, i3, i4, i5, i6⟩ := h
  have f36 := fe36 t w (show v < 12 by omega)
  refine ⟨fun i hi => ?_, ?_, fun i hi => ?_, fun i hi => ?_, fun x hx => ?_, fun i hi h => ?_⟩
  · rw [upd_ap, upd_ap, feE_at, feE_at]
    by_cases e : i = v
    · rw [if_pos e, if_pos e, if_pos (by omega), if_neg (by omega), if_neg (by omega), if_pos (by omega)]
      exact ⟨rfl, rfl⟩
    · rw [if_neg e, if_neg e, if_neg (by omega), if_neg (by omega), if_neg (by omega), if_neg (by omega), if_neg (by omega), if_neg (by omega)]
      exact i1 i hi
  · cases q : isE t w v with
    | true =>
      rw [if_pos rfl]
      refine (i2.setb (i := v) hv (by omega)).cong (fun j hj => ?_)
      rw [f36, q]
      by_cases e : j = v
      · rw [if_pos e]; simp [e]
      · rw [if_neg e]; simp [e]
    | false =>
      rw [if_neg (by decide)]
      refine i2.cong (fun j hj => ?_)
      rw [f36, q]
      by_cases e : j = v
      · rw [if_pos e, e]; simp
      · rw [if_neg e]
  · rw [f36]
    by_cases e : i = v
    · rw [if_pos e]
      subst e
      cases q : isE t w i with
      | true => exact Or.inr ⟨rfl, hv⟩
      | false => exact i3 i hi
    · rw [if_neg e]; exact i3 i hi
  · rw [feE_at]
    by_cases e : i = v
    · rw [if_pos (by omega)]; exact hnb
    · rw [if_neg (by omega), if_neg (by omega), if_neg (by omega)]; exact i4 i hi
  · rw [feE_at, if_neg (by omega), if_neg (by omega), if_neg (by omega)]; exact i5 x hx
  · rw [f36]
    by_cases e : i = v
    · rw [if_pos e]
      subst e
      cases q : isE t w i with
      | true => rfl
      | false => exact i6 i hi h
    · rw [if_neg e]; exact i6 i hi h
theorem frC_step {t w : FN} {d v : Nat} (hd12 : d ≤ 12) (hv : v < d) (h01 : w (36 + v) = 0 ∨ w (36 + v) = 1) : frC (feE t w v) d = frC w d + (if isE t w v && decide (w (36 + v) = 0) then 1 else 0) := by
  have f36 := fe36 t w (show v < 12 by omega)
  have hu := fb_ct_upd (fun i => decide (w (36 + i) = 1)) (decide ((if isE t w v then (1 : Int32) else w (36 + v)) = 1)) hv
  have hc : frC (feE t w v) d = fb_ct (fun k => if k = v then decide ((if isE t w v then (1 : Int32) else w (36 + v)) = 1) else decide (w (36 + k) = 1)) d := by
    refine fb_ct_cong (fun k hk => ?_)
    show decide (feE t w v (36 + k) = 1) = _
    rw [f36]
    by_cases e : k = v
    · rw [if_pos e, if_pos e]
    · rw [if_neg e, if_neg e]
  rw [← hc] at hu
  unfold frC at hu ⊢
  cases q : isE t w v with
  | true =>
    rw [q] at hu
    rcases h01 with z | z
    · rw [z] at hu ⊢
      simp at hu ⊢
      exact hu
    · rw [z] at hu ⊢
      simp at hu ⊢
      omega
  | false =>
    rw [q] at hu
    simp at hu ⊢
    omega
section TK
variable {t s1 rd kind : FN} {pre alarm conf lost : Int32} {d E : Nat} {lb : Nat → Bool}
theorem dv_loop (hd12 : d ≤ 12) (ht : t 60 = nI d) (hdev : ∀ i, i < d → kind i = t (3 * i) ∧ ∃ q, q < 4 ∧ t (3 * i) = nI q) (hpre : pre = t 62) (hal : alarm = t 63) (hco : conf = t 64) (hE1 : 1 ≤ E) (hE9 : E ≤ 9) (hE : t 65 = nI E) (hrd : ∀ i, i < 12 → rd i = s1 i ∧ ∃ r, r ≤ 99 ∧ s1 i = nI r)
    (hL : Bt lost d lb) (hlb : ∀ w : FN, (∀ x, 48 ≤ x → w x = s1 x) → ∀ i, i < d → lostB (isoE t (-1)) (cutE w (-1)) (shE w (-1)) d i = lb i) :
    ∀ (r n m v c : Nat) (w : FN) (fires : Int32) (bs hd : FN), v + r = d → r < n → r < m → DInv s1 w fires bs hd d → c + frC s1 d = frC w d →
      ∃ (c' : Nat) (w' : FN) (fires' : Int32) (bs' hd' : FN), f_X6_ticks_15 (-1) (-1) t n (nI c) (nI v) w = some (nI c', w') ∧ f_X3_goOn_29 rd (nI d) pre alarm conf kind lost (if goE t s1 then 1 else 0) m (nI v) fires bs hd = some (fires', bs', hd') ∧ DInv s1 w' fires' bs' hd' d ∧ c' + frC s1 d = frC w' d := by
  intro r
  induction r with
  | zero =>
    intro n m v c w fires bs hd h1 h2 h3 hI hc
    obtain ⟨n, rfl⟩ : ∃ k, n = k + 1 := ⟨n - 1, by omega⟩
    obtain ⟨m, rfl⟩ : ∃ k, m = k + 1 := ⟨m - 1, by omega⟩
    rw [f_X6_ticks_15, f_X3_goOn_29, show (60 : Int32).toNatClampNeg = 60 from rfl, ht, if_pos (nI_le (by omega) (by omega)), if_pos (nI_le (by omega) (by omega))]
    exact ⟨c, w, fires, bs, hd, rfl, rfl, hI, hc⟩
  | succ r ih =>
    intro n m v c w fires bs hd h1 h2 h3 hI hc
    obtain ⟨n, rfl⟩ : ∃ k, n = k + 1 := ⟨n - 1, by omega⟩
    obtain ⟨m, rfl⟩ : ∃ k, m = k + 1 := ⟨m - 1, by omega⟩
    have hlt : ¬ nI d ≤ nI v := nI_ge (by omega) (by omega)
    obtain ⟨i1, i2, i3, i4, i5, i6⟩ := id hI
    obtain ⟨k1, q, hq, k2⟩ := hdev v (by omega)
    obtain ⟨r1, rr, hr, r2⟩ := hrd v (by omega)
    obtain ⟨bb, hb, b2⟩ := i4 v (by omega)
    have wv : w v = s1 v := i5 v (by omega)
    have hgo : goE t w = goE t s1 := by unfold goE; rw [i5 86 (by omega)]
    rw [f_X6_ticks_15, f_X3_goOn_29, show (60 : Int32).toNatClampNeg = 60 from rfl, ht, if_neg hlt, if_neg hlt, isLost_eq hd12 ht (by omega), hlb w (fun x hx => i5 x (Or.inr hx)) v (by omega), hL.bit (by omega) (i := v) (by omega)]
    simp only [Option.bind_some]
    cases ql : lb v with
    | true =>
      rw [if_neg (show ¬ (if true = true then (1 : Int32) else 0) = 0 by decide), if_neg (show ¬ (if true = true then (1 : Int32) else 0) = 0 by decide), nI1]
      exact ih n m (v + 1) c w fires bs hd (by omega) (by omega) (by omega) hI hc
    | false =>
      rw [if_pos (show (if false = true then (1 : Int32) else 0) = 0 by decide), if_pos (show (if false = true then (1 : Int32) else 0) = 0 by decide), nI1 v]
      rw [feels_eq (by omega) hq k2 hr hb (wv.trans r2) b2 hE1 hE9 hE, watch_eq (by omega) (r1.trans wv.symm) (i1 v (by omega)).1 (i1 v (by omega)).2 k1 hal hco, follow_eq (by omega) hr hb (wv.trans r2) b2 (r1.trans wv.symm) (i1 v (by omega)).1 k1 hpre]
      simp only [Option.bind_some]
      have e1 : (w v).toNatClampNeg = rr := by rw [wv, r2, nI_clamp (by omega)]
      have e2 : (w (12 + v)).toNatClampNeg = bb := by rw [b2, nI_clamp (by omega)]
      have hnb : ∃ b, b ≤ 40 ∧ nbE t w v = nI b := by
        unfold nbE
        rw [e1, e2]
        split
        · exact ⟨_, bsN_le hb, rfl⟩
        · exact ⟨bb, hb, b2⟩
      have hI2 := hI.step (t := t) hd12 (show v < d by omega) hnb
      have hfc := frC_step (t := t) hd12 (show v < d by omega) ((i3 v (by omega)).imp id And.left)
      have hbs : (if (if goE t s1 = true then (1 : Int32) else 0) = 0 then f_X3_goOn_29 rd (nI d) pre alarm conf kind lost (if goE t s1 = true then 1 else 0) m (nI (v + 1)) (if isE t w v = true then fires ||| ((1 : Int32) <<< (nI v &&& 31)) else fires) bs (upd hd v (cnE t w v)) else f_X3_goOn_29 rd (nI d) pre alarm conf kind lost (if goE t s1 = true then 1 else 0) m (nI (v + 1)) (if isE t w v = true then fires ||| ((1 : Int32) <<< (nI v &&& 31)) else fires) (upd bs v (if drE t w v = true then nI (bsN rr bb) else w (12 + v))) (upd hd v (cnE t w v))) = f_X3_goOn_29 rd (nI d) pre alarm conf kind lost (if goE t s1 = true then 1 else 0) m (nI (v + 1)) (if isE t w v = true then fires ||| ((1 : Int32) <<< (nI v &&& 31)) else fires) (upd bs v (nbE t w v)) (upd hd v (cnE t w v)) := by
        unfold nbE
        rw [hgo, e1, e2]
        cases goE t s1 with
        | false =>
          rw [if_pos (show (if false = true then (1 : Int32) else 0) = 0 by decide), Bool.false_and, if_neg (show ¬ false = true by decide), if_neg (show ¬ false = true by decide), upd_same (i1 v (by omega)).1]
        | true =>
          rw [if_neg (show ¬ (if true = true then (1 : Int32) else 0) = 0 by decide), Bool.true_and]
      rw [hbs]
      cases qc : (isE t w v && decide (w (36 + v) = 0)) with
      | false =>
        rw [qc] at hfc
        rw [if_pos (show (if false = true then (1 : Int32) else 0) = 0 by decide), show (0 : Int32) = nI 0 from rfl, nI_add, Nat.add_zero]
        exact ih n m (v + 1) c _ _ _ _ (by omega) (by omega) (by omega) hI2 (by rw [hfc]; simp; exact hc)
      | true =>
        rw [qc] at hfc
        rw [if_neg (show ¬ (if true = true then (1 : Int32) else 0) = 0 by decide), nI1]
        exact ih n m (v + 1) (c + 1) _ _ _ _ (by omega) (by omega) (by omega) hI2 (by rw [hfc]; simp; omega)
end TK
/-! zones that come -/
def zW (nw : Nat → Bool) (w0 : FN) (v : Nat) : FN := fun x => if 79 ≤ x ∧ x < 79 + v ∧ nw (x - 79) = true then w0 86 else w0 x
theorem zW_out {nw : Nat → Bool} {w0 : FN} {v x : Nat} (h : ¬ (79 ≤ x ∧ x < 79 + v)) : zW nw w0 v x = w0 x := if_neg (fun z => h ⟨z.1, z.2.1⟩)
theorem zf_same {t s s' : FN} {d z : Nat} (h : ∀ i, i < d → s (36 + i) = s' (36 + i)) : zf t s d z = zf t s' d z := anyb_cong (fun i hi => by show (_ && decide (s (36 + i) = 1)) = (_ && decide (s' (36 + i) = 1)); rw [h i hi])
theorem zl_loop {t w0 : FN} {d : Nat} (hd : d ≤ 12) (ht : t 60 = nI d) {nw : Nat → Bool} (hnw : ∀ z, nw z = (zf t w0 d z && decide (w0 (79 + z) = 0))) : ∀ (r n v : Nat), v + r = 6 → r < n → f_X6_ticks_60 t n (if anyb nw v then 1 else 0) (nI v) (zW nw w0 v) = some (if anyb nw 6 then 1 else 0, zW nw w0 6) := by
  intro r
  induction r with
  | zero =>
    intro n v h1 h2
    obtain ⟨n, rfl⟩ : ∃ k, n = k + 1 := ⟨n - 1, by omega⟩
    rw [f_X6_ticks_60, if_pos (show (6 : Int32) ≤ nI v from nI_le (a := 6) (by omega) (by omega)), show v = 6 by omega]
  | succ r ih =>
    intro n v h1 h2
    obtain ⟨n, rfl⟩ : ∃ k, n = k + 1 := ⟨n - 1, by omega⟩
    have hi := ih n (v + 1) (by omega) (by omega)
    have ea : anyb nw (v + 1) = (anyb nw v || nw v) := rfl
    have hzf : zf t (zW nw w0 v) d v = zf t w0 d v := zf_same (fun i hi => zW_out (by omega))
    have e79 : (79 : Int32) + nI v = nI (79 + v) := nI_add 79 v
    have g79 : gi (nI (79 + v)) 87 := (gi_nI (by omega)).mpr (by omega)
    have hat : zW nw w0 v (79 + v) = w0 (79 + v) := zW_out (by omega)
    have h86 : zW nw w0 v 86 = w0 86 := zW_out (by omega)
    have hno : nw v = false → zW nw w0 (v + 1) = zW nw w0 v := by
      intro hn
      funext x
      unfold zW
      by_cases c1 : 79 ≤ x ∧ x < 79 + v ∧ nw (x - 79) = true
      · rw [if_pos c1, if_pos ⟨c1.1, by omega, c1.2.2⟩]
      · rw [if_neg c1, if_neg (fun z => by
          by_cases e : x = 79 + v
          · have := z.2.2
            rw [e, Nat.add_sub_cancel_left, hn] at this
            cases this
          · exact c1 ⟨z.1, by omega, z.2.2⟩)]
    have hyes : nw v = true → zW nw w0 (v + 1) = upd (zW nw w0 v) (79 + v) (w0 86) := by
      intro hn
      funext x
      rw [upd_ap]
      unfold zW
      by_cases e : x = 79 + v
      · rw [if_pos e, if_pos ⟨by omega, by omega, by rw [e, Nat.add_sub_cancel_left]; exact hn⟩]
      · rw [if_neg e]
        by_cases c1 : 79 ≤ x ∧ x < 79 + v ∧ nw (x - 79) = true
        · rw [if_pos c1, if_pos ⟨c1.1, by omega, c1.2.2⟩]
        · rw [if_neg c1, if_neg (fun z => c1 ⟨z.1, by omega, z.2.2⟩)]
    rw [f_X6_ticks_60, if_neg (show ¬ (6 : Int32) ≤ nI v from nI_ge (b := 6) (by omega) (by omega)), isZone_eq t _ hd (by omega) ht, hzf, e79]
    simp only [Option.bind_some, if_pos g79, nI_clamp (show 79 + v < 2 ^ 31 by omega), show (86 : Int32).toNatClampNeg = 86 from rfl, hat, h86, nI1]
    cases z : zf t w0 d v with
    | false =>
      have hn : nw v = false := by rw [hnw, z]; rfl
      rw [if_pos (show (if false = true then (1 : Int32) else 0) = 0 by decide)]
      rw [ea, hn, Bool.or_false, hno hn] at hi
      exact hi
    | true =>
      rw [if_neg (show ¬ (if true = true then (1 : Int32) else 0) = 0 by decide)]
      by_cases q : w0 (79 + v) = 0
      · have hn : nw v = true := by rw [hnw, z, q]; rfl
        rw [if_pos q]
        rw [ea, hn, Bool.or_true, hyes hn] at hi
        exact hi
      · have hn : nw v = false := by rw [hnw, z, decide_eq_false q]; rfl
        rw [if_neg q]
        rw [ea, hn, Bool.or_false, hno hn] at hi
        exact hi
theorem nz_loop {come ticks : Int32} {cm : FN} {nw : Nat → Bool} (hB : Bt come 6 nw) : ∀ (r n v : Nat), v + r = 6 → r < n → f_X3_noteZonesThatCome_12 ticks come n (nI v) (fun x => if x < v ∧ nw x = true then ticks else cm x) = some (fun x => if x < 6 ∧ nw x = true then ticks else cm x) := by
  intro r
  induction r with
  | zero =>
    intro n v h1 h2
    obtain ⟨n, rfl⟩ : ∃ k, n = k + 1 := ⟨n - 1, by omega⟩
    rw [f_X3_noteZonesThatCome_12, if_pos (show (6 : Int32) ≤ nI v from nI_le (a := 6) (by omega) (by omega)), show v = 6 by omega]
  | succ r ih =>
    intro n v h1 h2
    obtain ⟨n, rfl⟩ : ∃ k, n = k + 1 := ⟨n - 1, by omega⟩
    have hi := ih n (v + 1) (by omega) (by omega)
    rw [f_X3_noteZonesThatCome_12, if_neg (show ¬ (6 : Int32) ≤ nI v from nI_ge (b := 6) (by omega) (by omega)), hB.bit (by omega) (i := v) (by omega)]
    simp only [Option.bind_some]
    rw [if_pos ((gi_nI (by omega)).mpr (by omega)), nI_clamp (by omega), nI1]
    cases q : nw v with
    | true =>
      rw [if_pos (show (if true = true then (1 : Int32) else 0) = 1 by decide), ← hi]
      congr 1
      funext x
      rw [upd_ap]
      by_cases e : x = v
      · rw [if_pos e, if_pos ⟨by omega, by rw [e]; exact q⟩]
      · rw [if_neg e]
        by_cases c1 : x < v ∧ nw x = true
        · rw [if_pos c1, if_pos ⟨by omega, c1.2⟩]
        · rw [if_neg c1, if_neg (fun z => c1 ⟨by omega, z.2⟩)]
    | false =>
      rw [if_neg (show ¬ (if false = true then (1 : Int32) else 0) = 1 by decide), ← hi]
      congr 1
      funext x
      by_cases c1 : x < v ∧ nw x = true
      · rw [if_pos c1, if_pos ⟨by omega, c1.2⟩]
      · rw [if_neg c1, if_neg (fun z => by
          by_cases e : x = v
          · have := z.2; rw [e, q] at this; cases this
          · exact c1 ⟨by omega, z.2⟩)]
theorem nz_eq {come silent ticks : Int32} {cm : FN} {nw : Nat → Bool} (hB : Bt come 6 nw) : f_X3_noteZonesThatCome silent ticks cm come = some (if anyb nw 6 then 0 else silent, fun x => if x < 6 ∧ nw x = true then ticks else cm x) := by
  unfold f_X3_noteZonesThatCome
  by_cases c : come = 0
  · have hz := (hB.eq0 (by omega)).mp c
    rw [if_pos c, anyb_no.mpr hz, if_neg (by decide)]
    congr 2
    funext x
    rw [if_neg (fun z => by rw [hz x z.1] at z; cases z.2)]
  · rw [if_neg c]
    have ha : anyb nw 6 = true := by
      cases q : anyb nw 6 with
      | true => rfl
      | false => exact absurd ((hB.eq0 (by omega)).mpr (anyb_no.mp q)) c
    have h := nz_loop (ticks := ticks) (cm := cm) hB 6 1000 0 (by omega) (by omega)
    have h0 : (fun x => if x < 0 ∧ nw x = true then ticks else cm x) = cm := by
      funext x; rw [if_neg (by omega)]
    rw [h0, show nI 0 = (0 : Int32) from rfl] at h
    rw [h, ha, if_pos rfl]; rfl
/-! effects -/
def wtE (t w0 : FN) (d k : Nat) (x : Int32) : Int32 := if wnE t w0 d k then x + 1 else 0
def ndE (t : FN) (day : Int32) (k : Nat) : Int32 := if day = 1 then t (36 + 4 * k + 2) else 0
theorem wnE_same {t s s' : FN} {d k : Nat} (h : ∀ i, i < d → s (36 + i) = s' (36 + i)) : wnE t s d k = wnE t s' d k := by
  have hq : wnQ t s d k = wnQ t s' d k := by
    funext z
    unfold wnQ
    rw [zf_same h]
  unfold wnE
  rw [hq]
theorem move_eq {on byDay Z : Int32} {wt ek ez dl t w0 : FN} {d k : Nat} {P : Nat → Bool} {e : Nat} (hk : k < e) (he : e ≤ 6) (hon : Bt on e P) (h1 : ek k = t (36 + 4 * k)) (h2 : ez k = t (36 + 4 * k + 1)) (h3 : dl k = t (36 + 4 * k + 2)) (hS : ∃ S, S < 64 ∧ t (36 + 4 * k + 1) = nI S) (hZ : Bt Z 6 (fun z => zf t w0 d z)) :
    f_X3_moveEffect on byDay wt ek ez dl (nI k) Z = if P k then some (on, wt) else some (if wtE t w0 d k (wt k) ≤ ndE t byDay k then on else on ||| ((1 : Int32) <<< (nI k &&& 31)), upd wt k (wtE t w0 d k (wt k))) := by
  have g : gi (nI k) 6 := (gi_nI (by omega)).mpr (by omega)
  unfold f_X3_moveEffect
  simp only [if_pos g, nI_clamp (show k < 2 ^ 31 by omega), us]
  refine (bind_of (hon.bit (by omega) hk)).trans ?_
  cases P k with
  | true => rfl
  | false =>
    rw [if_neg (show ¬ (if false = true then (1 : Int32) else 0) = 1 by decide), if_neg (show ¬ false = true by decide)]
    refine (bind_of (wantsC_eq (by omega) h1 h2 hS hZ)).trans ?_
    refine (bind_of (a := wtE t w0 d k (wt k)) ?_).trans ?_
    · unfold wtE
      cases wnE t w0 d k <;> rfl
    refine (bind_of (a := ndE t byDay k) ?_).trans ?_
    · unfold ndE
      rw [h3]
      split <;> rfl
    by_cases c : wtE t w0 d k (wt k) ≤ ndE t byDay k
    · rw [if_pos c, if_pos c, or0]
    · rw [if_neg c, if_neg c]
theorem ef_step {t w w0 : FN} {q60 : Int32 × FN} {d k n : Nat} {anew : Bool} (hd : d ≤ 12) (ht : t 60 = nI d) (hk : k < 6) {e : Nat} (hke : k < e) (he6 : e ≤ 6) (ht61 : t 61 = nI e) (hq : q60.1 = if anew then 1 else 0) (hS : ∃ S, S < 64 ∧ t (36 + 4 * k + 1) = nI S) (hw : ∀ i, i < d → w (36 + i) = w0 (36 + i)) :
    f_X6_ticks_112 t q60 (n + 1) (nI k) w = if w (67 + k) = 0 then f_X6_ticks_112 t q60 n (nI (k + 1)) (upd (upd (upd w (73 + k) (if anew then 0 else w (73 + k))) (61 + k) (wtE t w0 d k (w (61 + k)))) (67 + k) (if wtE t w0 d k (w (61 + k)) ≤ ndE t (w 85) k then 0 else 1)) else f_X6_ticks_112 t q60 n (nI (k + 1)) (upd w (73 + k) (if anew then 0 else w (73 + k))) := by
  have e73 : (73 : Int32) + nI k = nI (73 + k) := nI_add 73 k
  have e67 : (67 : Int32) + nI k = nI (67 + k) := nI_add 67 k
  have e61 : (61 : Int32) + nI k = nI (61 + k) := nI_add 61 k
  have e36 : (36 : Int32) + 4 * nI k + 2 = nI (36 + 4 * k + 2) := by rw [show (4 : Int32) = nI 4 from rfl, show (36 : Int32) = nI 36 from rfl, show (2 : Int32) = nI 2 from rfl, pk_mul, nI_add, nI_add]
  have g73 : gi (nI (73 + k)) 87 := (gi_nI (by omega)).mpr (by omega)
  have g67 : gi (nI (67 + k)) 87 := (gi_nI (by omega)).mpr (by omega)
  have g61 : gi (nI (61 + k)) 87 := (gi_nI (by omega)).mpr (by omega)
  have g36 : gi (nI (36 + 4 * k + 2)) 67 := (gi_nI (by omega)).mpr (by omega)
  have c73 : (nI (73 + k)).toNatClampNeg = 73 + k := nI_clamp (by omega)
  have c67 : (nI (67 + k)).toNatClampNeg = 67 + k := nI_clamp (by omega)
  have c61 : (nI (61 + k)).toNatClampNeg = 61 + k := nI_clamp (by omega)
  have c36 : (nI (36 + 4 * k + 2)).toNatClampNeg = 36 + 4 * k + 2 := nI_clamp (by omega)
  rw [f_X6_ticks_112, show (61 : Int32).toNatClampNeg = 61 from rfl, ht61, if_neg (nI_ge (by omega) (by omega))]
  simp only [e73, e67, e61, e36, if_pos g73, if_pos g67, if_pos g61, if_pos g36, c73, c67, c61, c36, show (85 : Int32).toNatClampNeg = 85 from rfl, nI1]
  refine (bind_of (a := if anew then 0 else w (73 + k)) ?_).trans ?_
  · rw [hq]
    cases anew <;> rfl
  generalize hy : (if anew then (0 : Int32) else w (73 + k)) = y
  have u67 : upd w (73 + k) y (67 + k) = w (67 + k) := uo (by omega)
  have u61 : upd w (73 + k) y (61 + k) = w (61 + k) := uo (by omega)
  rw [u67, u61]
  by_cases c : w (67 + k) = 0
  · rw [if_pos c, if_pos c]
    refine (bind_of (wantsM_eq (d := d) hd ht hk hS)).trans ?_
    rw [wnE_same (s' := w0) (fun i hi => by rw [uo (by omega)]; exact hw i hi)]
    refine (bind_of (a := wtE t w0 d k (w (61 + k))) ?_).trans ?_
    · unfold wtE
      cases wnE t w0 d k <;> rfl
    have u85 : upd (upd w (73 + k) y) (61 + k) (wtE t w0 d k (w (61 + k))) 85 = w 85 := by rw [uo (by omega), uo (by omega)]
    rw [u85, us]
    refine (bind_of (a := ndE t (w 85) k) ?_).trans ?_
    · unfold ndE
      split <;> rfl
    by_cases c2 : wtE t w0 d k (w (61 + k)) ≤ ndE t (w 85) k
    · rw [if_pos c2, if_pos c2]
    · rw [if_neg c2, if_neg c2]
  · rw [if_neg c, if_neg c]
def EInv (w0 w : FN) (on : Int32) (wt : FN) (anew : Bool) (v e : Nat) : Prop :=
  (∀ k, k < 6 → wt k = w (61 + k)) ∧ (∀ k, k < 6 → w (67 + k) = 0 ∨ (w (67 + k) = 1 ∧ k < e)) ∧ Bt on e (fun k => decide (w (67 + k) = 1)) ∧ (∀ x, ¬ (61 ≤ x ∧ x < 79) → w x = w0 x) ∧ ∀ k, k < 6 → w (73 + k) = if k < v ∧ anew = true then 0 else w0 (73 + k)
theorem ef_loop {t w0 ek ez dl : FN} {byDay Z : Int32} {q60 : Int32 × FN} {d e : Nat} {anew : Bool} (hd : d ≤ 12) (ht : t 60 = nI d) (he6 : e ≤ 6) (ht61 : t 61 = nI e) (hq : q60.1 = if anew then 1 else 0) (hef : ∀ k, k < e → ek k = t (36 + 4 * k) ∧ ez k = t (36 + 4 * k + 1) ∧ dl k = t (36 + 4 * k + 2) ∧ ∃ S, S < 64 ∧ t (36 + 4 * k + 1) = nI S) (hday : byDay = w0 85) (hZ : Bt Z 6 (fun z => zf t w0 d z)) :
    ∀ (r n m v : Nat) (w : FN) (on : Int32) (wt : FN), v + r = e → r < n → r < m → EInv w0 w on wt anew v e → ∃ w' on' wt', f_X6_ticks_112 t q60 n (nI v) w = some w' ∧ f_X3_goOn_92 byDay (nI e) ek ez dl Z m (nI v) on wt = some (on', wt') ∧ EInv w0 w' on' wt' anew e e := by
  intro r
  induction r with
  | zero =>
    intro n m v w on wt h1 h2 h3 hI
    obtain ⟨n, rfl⟩ : ∃ k, n = k + 1 := ⟨n - 1, by omega⟩
    obtain ⟨m, rfl⟩ : ∃ k, m = k + 1 := ⟨m - 1, by omega⟩
    rw [f_X6_ticks_112, f_X3_goOn_92, show (61 : Int32).toNatClampNeg = 61 from rfl, ht61, if_pos (nI_le (by omega) (by omega)), if_pos (nI_le (by omega) (by omega))]
    rw [show v = e by omega] at hI
    exact ⟨w, on, wt, rfl, rfl, hI⟩
  | succ r ih =>
    intro n m v w on wt h1 h2 h3 hI
    obtain ⟨n, rfl⟩ : ∃ k, n = k + 1 := ⟨n - 1, by omega⟩
    obtain ⟨m, rfl⟩ : ∃ k, m = k + 1 := ⟨m - 1, by omega⟩
    obtain ⟨i1, i2, i3, i4, i5⟩ := id hI
    obtain ⟨k1, k2, k3, k4⟩ := hef v (by omega)
    have w85 : w 85 = byDay := by rw [i4 85 (by omega), hday]
    have hsil : ∀ k, k < 6 → (if k = v then (if anew then (0 : Int32) else w (73 + v)) else w (73 + k)) = if k < v + 1 ∧ anew = true then 0 else w0 (73 + k) := by
      intro k hk
      by_cases ek : k = v
      · subst ek
        rw [if_pos rfl]
        cases anew with
        | true => rw [if_pos rfl, if_pos ⟨by omega, rfl⟩]
        | false =>
          rw [if_neg (by decide), if_neg (by simp), i5 k hk, if_neg (by simp)]
      · rw [if_neg ek, i5 k hk]
        by_cases c : k < v ∧ anew = true
        · rw [if_pos c, if_pos ⟨by omega, c.2⟩]
        · rw [if_neg c, if_neg (fun z => c ⟨by omega, z.2⟩)]
    rw [ef_step (w0 := w0) hd ht (by omega) (show v < e by omega) he6 ht61 hq k4 (fun i hi => i4 _ (by omega)), f_X3_goOn_92, if_neg (nI_ge (by omega) (by omega)), move_eq (show v < e by omega) he6 i3 k1 k2 k3 k4 hZ, nI1, w85, i1 v (by omega)]
    by_cases c : w (67 + v) = 0
    · have hP : ¬ decide (w (67 + v) = 1) = true := by rw [c]; decide
      rw [if_pos c, if_neg hP]
      simp only [Option.bind_some]
      refine ih n m (v + 1) _ _ _ (by omega) (by omega) (by omega) ⟨fun k hk => ?_, fun k hk => ?_, ?_, fun x hx => ?_, fun k hk => ?_⟩
      · rw [upd_ap, uo (by omega), upd_ap]
        by_cases e1 : k = v
        · rw [if_pos e1, if_pos (by omega)]
        · rw [if_neg e1, if_neg (by omega), uo (by omega)]; exact i1 k hk
      · rw [upd_ap]
        by_cases e1 : k = v
        · rw [if_pos (by omega)]
          split
          · exact Or.inl rfl
          · exact Or.inr ⟨rfl, by omega⟩
        · rw [if_neg (by omega), uo (by omega), uo (by omega)]; exact i2 k hk
      · by_cases c2 : wtE t w0 d v (w (61 + v)) ≤ ndE t byDay v
        · rw [if_pos c2, if_pos c2]
          refine i3.cong (fun j hj => ?_)
          rw [upd_ap]
          by_cases e1 : j = v
          · rw [if_pos (by omega), e1, c]
          · rw [if_neg (by omega), uo (by omega), uo (by omega)]
        · rw [if_neg c2, if_neg c2]
          refine (i3.setb (i := v) (by omega) (by omega)).cong (fun j hj => ?_)
          rw [upd_ap]
          by_cases e1 : j = v
          · rw [if_pos (by omega), e1]; simp
          · rw [if_neg (by omega), uo (by omega), uo (by omega)]; simp [e1]
      · rw [uo (by omega), uo (by omega), uo (by omega)]; exact i4 x hx
      · rw [uo (by omega), uo (by omega), upd_ap, ← hsil k hk]
        by_cases e1 : k = v
        · rw [if_pos (by omega), if_pos e1]
        · rw [if_neg (by omega), if_neg e1]
    · have h1' : w (67 + v) = 1 := ((i2 v (by omega)).resolve_left c).1
      have hP : decide (w (67 + v) = 1) = true := decide_eq_true h1'
      rw [if_neg c, if_pos hP]
      simp only [Option.bind_some]
      refine ih n m (v + 1) _ _ _ (by omega) (by omega) (by omega) ⟨fun k hk => ?_, fun k hk => ?_, ?_, fun x hx => ?_, fun k hk => ?_⟩
      · rw [uo (by omega)]; exact i1 k hk
      · rw [uo (by omega)]; exact i2 k hk
      · exact i3.cong (fun j hj => by rw [uo (by omega)])
      · rw [uo (by omega)]; exact i4 x hx
      · rw [upd_ap, ← hsil k hk]
        by_cases e1 : k = v
        · rw [if_pos (by omega), if_pos e1]
        · rw [if_neg (by omega), if_neg e1]
