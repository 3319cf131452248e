/-! PURE: items -/
def PlanV (kind zoneOf ek ez dl : FN) (dev iso eff snd pre alarm conf pace ph : Int32) (t : FN) (d e : Nat) : Prop :=
  (d ≤ 12 ∧ e ≤ 6) ∧ (dev = nI d ∧ t 60 = nI d ∧ eff = nI e ∧ t 61 = nI e) ∧
  (∀ i, i < d → kind i = t (3 * i) ∧ zoneOf i = t (3 * i + 1) ∧ (∃ z, z < 6 ∧ t (3 * i + 1) = nI z) ∧ (t (3 * i + 2) = 0 ∨ t (3 * i + 2) = 1) ∧ ∃ q, q < 4 ∧ t (3 * i) = nI q) ∧
  Bt iso d (fun i => decide (t (3 * i + 2) = 1)) ∧
  (∀ k, k < e → ek k = t (36 + 4 * k) ∧ ez k = t (36 + 4 * k + 1) ∧ dl k = t (36 + 4 * k + 2) ∧ (∃ S, S < 64 ∧ t (36 + 4 * k + 1) = nI S) ∧ (t (36 + 4 * k + 3) = 0 ∨ t (36 + 4 * k + 3) = 1)) ∧
  Bt snd e (fun k => decide (t (36 + 4 * k + 3) = 1)) ∧
  (pre = t 62 ∧ alarm = t 63 ∧ conf = t 64 ∧ pace = t 65 ∧ ph = t 66) ∧ (∃ E, 1 ≤ E ∧ E ≤ 9 ∧ t 65 = nI E) ∧ ∃ E, 1 ≤ E ∧ E ≤ 9 ∧ t 66 = nI E
def PV (P : PW) (t : FN) (d e : Nat) : Prop := PlanV P.2.2.2.2.2.2.2.2.2.1 P.2.2.2.2.2.2.2.2.2.2.1 P.2.2.2.2.2.2.2.2.2.2.2.1 P.2.2.2.2.2.2.2.2.2.2.2.2.1 P.2.2.2.2.2.2.2.2.2.2.2.2.2 P.1 P.2.1 P.2.2.1 P.2.2.2.1 P.2.2.2.2.1 P.2.2.2.2.2.1 P.2.2.2.2.2.2.1 P.2.2.2.2.2.2.2.1 P.2.2.2.2.2.2.2.2.1 t d e
theorem PlanV.addD {kind zoneOf ek ez dl : FN} {dev iso eff snd pre alarm conf pace ph : Int32} {t : FN} {d e k z i : Nat} (h : PlanV kind zoneOf ek ez dl dev iso eff snd pre alarm conf pace ph t d e) (hd : d < 12) (hk : k ≤ 3) (hz : z ≤ 5) (hi : i ≤ 1) :
    PlanV (upd kind d (nI k)) (upd zoneOf d (nI z)) ek ez dl (nI (d + 1)) (iso ||| (nI i <<< (nI d &&& 31))) eff snd pre alarm conf pace ph (upd (upd (upd (upd t 60 (nI (d + 1))) (3 * d) (nI k)) (3 * d + 1) (nI z)) (3 * d + 2) (nI i)) (d + 1) e := by
  obtain ⟨⟨h1, h2⟩, ⟨p1, p2, p3, p4⟩, hdev, hiso, hef, hsnd, ⟨l1, l2, l3, l4, l5⟩, hE1, hE2⟩ := h
  have lo : ∀ x, x ≠ 60 → x ≠ 3 * d → x ≠ 3 * d + 1 → x ≠ 3 * d + 2 → upd (upd (upd (upd t 60 (nI (d + 1))) (3 * d) (nI k)) (3 * d + 1) (nI z)) (3 * d + 2) (nI i) x = t x := fun x a b c e => by rw [uo e, uo c, uo b, uo a]
  have t60 : upd (upd (upd (upd t 60 (nI (d + 1))) (3 * d) (nI k)) (3 * d + 1) (nI z)) (3 * d + 2) (nI i) 60 = nI (d + 1) := by rw [uo (by omega), uo (by omega), uo (by omega), us]
  have td0 : upd (upd (upd (upd t 60 (nI (d + 1))) (3 * d) (nI k)) (3 * d + 1) (nI z)) (3 * d + 2) (nI i) (3 * d) = nI k := by rw [uo (by omega), uo (by omega), us]
  have td1 : upd (upd (upd (upd t 60 (nI (d + 1))) (3 * d) (nI k)) (3 * d + 1) (nI z)) (3 * d + 2) (nI i) (3 * d + 1) = nI z := by rw [uo (by omega), us]
  have td2 : upd (upd (upd (upd t 60 (nI (d + 1))) (3 * d) (nI k)) (3 * d + 1) (nI z)) (3 * d + 2) (nI i) (3 * d + 2) = nI i := us
  generalize upd (upd (upd (upd t 60 (nI (d + 1))) (3 * d) (nI k)) (3 * d + 1) (nI z)) (3 * d + 2) (nI i) = t' at lo t60 td0 td1 td2
  refine ⟨⟨by omega, h2⟩, ⟨rfl, t60, p3, by rw [lo 61 (by omega) (by omega) (by omega) (by omega)]; exact p4⟩, fun j hj => ?_, ?_, fun q hq => ?_, hsnd.cong (fun q hq => ?_), ⟨?_, ?_, ?_, ?_, ?_⟩, ?_, ?_⟩
  · by_cases c : j = d
    · subst c
      rw [us, us, td0, td1, td2]
      refine ⟨rfl, rfl, ⟨z, by omega, rfl⟩, ?_, ⟨k, by omega, rfl⟩⟩
      rcases (show i = 0 ∨ i = 1 by omega) with rfl | rfl
      · exact Or.inl rfl
      · exact Or.inr rfl
    · rw [uo c, uo c, lo (3 * j) (by omega) (by omega) (by omega) (by omega), lo (3 * j + 1) (by omega) (by omega) (by omega) (by omega), lo (3 * j + 2) (by omega) (by omega) (by omega) (by omega)]
      exact hdev j (by omega)
  · have hw := hiso.wide (show d ≤ d + 1 by omega)
    rcases (show i = 0 ∨ i = 1 by omega) with rfl | rfl
    · rw [show nI 0 <<< (nI d &&& 31) = 0 from sh0 d (by omega), or0]
      refine hw.cong (fun j hj => ?_)
      by_cases c : j = d
      · subst c; rw [td2]; simp; decide
      · rw [lo (3 * j + 2) (by omega) (by omega) (by omega) (by omega)]; simp [show j < d by omega]
    · refine (hw.setb (i := d) (by omega) (by omega)).cong (fun j hj => ?_)
      by_cases c : j = d
      · subst c; rw [td2]; simp; rfl
      · rw [lo (3 * j + 2) (by omega) (by omega) (by omega) (by omega)]; simp [show j < d by omega, c]
  · rw [lo (36 + 4 * q) (by omega) (by omega) (by omega) (by omega), lo (36 + 4 * q + 1) (by omega) (by omega) (by omega) (by omega), lo (36 + 4 * q + 2) (by omega) (by omega) (by omega) (by omega), lo (36 + 4 * q + 3) (by omega) (by omega) (by omega) (by omega)]
    exact hef q hq
  · rw [lo (36 + 4 * q + 3) (by omega) (by omega) (by omega) (by omega)]
  · rw [lo 62 (by omega) (by omega) (by omega) (by omega)]; exact l1
  · rw [lo 63 (by omega) (by omega) (by omega) (by omega)]; exact l2
  · rw [lo 64 (by omega) (by omega) (by omega) (by omega)]; exact l3
  · rw [lo 65 (by omega) (by omega) (by omega) (by omega)]; exact l4
  · rw [lo 66 (by omega) (by omega) (by omega) (by omega)]; exact l5
  · rw [lo 65 (by omega) (by omega) (by omega) (by omega)]; exact hE1
  · rw [lo 66 (by omega) (by omega) (by omega) (by omega)]; exact hE2
theorem PlanV.addE {kind zoneOf ek ez dl : FN} {dev iso eff snd pre alarm conf pace ph : Int32} {t : FN} {d e k z i l : Nat} (h : PlanV kind zoneOf ek ez dl dev iso eff snd pre alarm conf pace ph t d e) (he : e < 6) (hz : z ≤ 63) (hl : l ≤ 1) :
    PlanV kind zoneOf (upd ek e (nI k)) (upd ez e (nI z)) (upd dl e (nI i)) dev iso (nI (e + 1)) (snd ||| (nI l <<< (nI e &&& 31))) pre alarm conf pace ph (upd (upd (upd (upd (upd t 61 (nI (e + 1))) (36 + 4 * e) (nI k)) (36 + 4 * e + 1) (nI z)) (36 + 4 * e + 2) (nI i)) (36 + 4 * e + 3) (nI l)) d (e + 1) := by
  obtain ⟨⟨h1, h2⟩, ⟨p1, p2, p3, p4⟩, hdev, hiso, hef, hsnd, ⟨l1, l2, l3, l4, l5⟩, hE1, hE2⟩ := h
  have lo : ∀ x, x ≠ 61 → x ≠ 36 + 4 * e → x ≠ 36 + 4 * e + 1 → x ≠ 36 + 4 * e + 2 → x ≠ 36 + 4 * e + 3 → upd (upd (upd (upd (upd t 61 (nI (e + 1))) (36 + 4 * e) (nI k)) (36 + 4 * e + 1) (nI z)) (36 + 4 * e + 2) (nI i)) (36 + 4 * e + 3) (nI l) x = t x := fun x a b c f g => by rw [uo g, uo f, uo c, uo b, uo a]
  have t61 : upd (upd (upd (upd (upd t 61 (nI (e + 1))) (36 + 4 * e) (nI k)) (36 + 4 * e + 1) (nI z)) (36 + 4 * e + 2) (nI i)) (36 + 4 * e + 3) (nI l) 61 = nI (e + 1) := by rw [uo (by omega), uo (by omega), uo (by omega), uo (by omega), us]
  have td0 : upd (upd (upd (upd (upd t 61 (nI (e + 1))) (36 + 4 * e) (nI k)) (36 + 4 * e + 1) (nI z)) (36 + 4 * e + 2) (nI i)) (36 + 4 * e + 3) (nI l) (36 + 4 * e) = nI k := by rw [uo (by omega), uo (by omega), uo (by omega), us]
  have td1 : upd (upd (upd (upd (upd t 61 (nI (e + 1))) (36 + 4 * e) (nI k)) (36 + 4 * e + 1) (nI z)) (36 + 4 * e + 2) (nI i)) (36 + 4 * e + 3) (nI l) (36 + 4 * e + 1) = nI z := by rw [uo (by omega), uo (by omega), us]
  have td2 : upd (upd (upd (upd (upd t 61 (nI (e + 1))) (36 + 4 * e) (nI k)) (36 + 4 * e + 1) (nI z)) (36 + 4 * e + 2) (nI i)) (36 + 4 * e + 3) (nI l) (36 + 4 * e + 2) = nI i := by rw [uo (by omega), us]
  have td3 : upd (upd (upd (upd (upd t 61 (nI (e + 1))) (36 + 4 * e) (nI k)) (36 + 4 * e + 1) (nI z)) (36 + 4 * e + 2) (nI i)) (36 + 4 * e + 3) (nI l) (36 + 4 * e + 3) = nI l := us
  generalize upd (upd (upd (upd (upd t 61 (nI (e + 1))) (36 + 4 * e) (nI k)) (36 + 4 * e + 1) (nI z)) (36 + 4 * e + 2) (nI i)) (36 + 4 * e + 3) (nI l) = t' at lo t61 td0 td1 td2 td3
  refine ⟨⟨h1, by omega⟩, ⟨p1, by rw [lo 60 (by omega) (by omega) (by omega) (by omega) (by omega)]; exact p2, rfl, t61⟩, fun j hj => ?_, hiso.cong (fun j hj => ?_), fun q hq => ?_, ?_, ⟨?_, ?_, ?_, ?_, ?_⟩, ?_, ?_⟩
  · rw [lo (3 * j) (by omega) (by omega) (by omega) (by omega) (by omega), lo (3 * j + 1) (by omega) (by omega) (by omega) (by omega) (by omega), lo (3 * j + 2) (by omega) (by omega) (by omega) (by omega) (by omega)]
    exact hdev j hj
  · rw [lo (3 * j + 2) (by omega) (by omega) (by omega) (by omega) (by omega)]
  · by_cases c : q = e
    · subst c
      rw [us, us, us, td0, td1, td2, td3]
      refine ⟨rfl, rfl, rfl, ⟨z, by omega, rfl⟩, ?_⟩
      rcases (show l = 0 ∨ l = 1 by omega) with rfl | rfl
      · exact Or.inl rfl
      · exact Or.inr rfl
    · rw [uo c, uo c, uo c, lo (36 + 4 * q) (by omega) (by omega) (by omega) (by omega) (by omega), lo (36 + 4 * q + 1) (by omega) (by omega) (by omega) (by omega) (by omega), lo (36 + 4 * q + 2) (by omega) (by omega) (by omega) (by omega) (by omega), lo (36 + 4 * q + 3) (by omega) (by omega) (by omega) (by omega) (by omega)]
      exact hef q (by omega)
  · have hw := hsnd.wide (show e ≤ e + 1 by omega)
    rcases (show l = 0 ∨ l = 1 by omega) with rfl | rfl
    · rw [show nI 0 <<< (nI e &&& 31) = 0 from sh0 e (by omega), or0]
      refine hw.cong (fun j hj => ?_)
      by_cases c : j = e
      · subst c; rw [td3]; simp; decide
      · rw [lo (36 + 4 * j + 3) (by omega) (by omega) (by omega) (by omega) (by omega)]; simp [show j < e by omega]
    · refine (hw.setb (i := e) (by omega) (by omega)).cong (fun j hj => ?_)
      by_cases c : j = e
      · subst c; rw [td3]; simp; rfl
      · rw [lo (36 + 4 * j + 3) (by omega) (by omega) (by omega) (by omega) (by omega)]; simp [show j < e by omega, c]
  · rw [lo 62 (by omega) (by omega) (by omega) (by omega) (by omega)]; exact l1
  · rw [lo 63 (by omega) (by omega) (by omega) (by omega) (by omega)]; exact l2
  · rw [lo 64 (by omega) (by omega) (by omega) (by omega) (by omega)]; exact l3
  · rw [lo 65 (by omega) (by omega) (by omega) (by omega) (by omega)]; exact l4
  · rw [lo 66 (by omega) (by omega) (by omega) (by omega) (by omega)]; exact l5
  · rw [lo 65 (by omega) (by omega) (by omega) (by omega) (by omega)]; exact hE1
  · rw [lo 66 (by omega) (by omega) (by omega) (by omega) (by omega)]; exact hE2
theorem PlanV.setL {kind zoneOf ek ez dl : FN} {dev iso eff snd pre alarm conf pace ph : Int32} {t : FN} {d e k z i l : Nat} (h : PlanV kind zoneOf ek ez dl dev iso eff snd pre alarm conf pace ph t d e) (hl1 : 1 ≤ l) (hl9 : l ≤ 9) :
    PlanV kind zoneOf ek ez dl dev iso eff snd (nI k) (nI z) (nI i) (nI l) ph (upd (upd (upd (upd t 62 (nI k)) 63 (nI z)) 64 (nI i)) 65 (nI l)) d e := by
  obtain ⟨⟨h1, h2⟩, ⟨p1, p2, p3, p4⟩, hdev, hiso, hef, hsnd, ⟨l1, l2, l3, l4, l5⟩, hE1, hE2⟩ := h
  have lo : ∀ x, (x < 62 ∨ 65 < x) → upd (upd (upd (upd t 62 (nI k)) 63 (nI z)) 64 (nI i)) 65 (nI l) x = t x := fun x a => by rw [uo (by omega), uo (by omega), uo (by omega), uo (by omega)]
  refine ⟨⟨h1, h2⟩, ⟨p1, by rw [lo 60 (by omega)]; exact p2, p3, by rw [lo 61 (by omega)]; exact p4⟩, fun j hj => ?_, hiso.cong (fun j hj => ?_), fun q hq => ?_, hsnd.cong (fun q hq => ?_), ⟨?_, ?_, ?_, ?_, ?_⟩, ⟨l, hl1, hl9, ?_⟩, ?_⟩
  · rw [lo (3 * j) (by omega), lo (3 * j + 1) (by omega), lo (3 * j + 2) (by omega)]; exact hdev j hj
  · rw [lo (3 * j + 2) (by omega)]
  · rw [lo (36 + 4 * q) (by omega), lo (36 + 4 * q + 1) (by omega), lo (36 + 4 * q + 2) (by omega), lo (36 + 4 * q + 3) (by omega)]; exact hef q hq
  · rw [lo (36 + 4 * q + 3) (by omega)]
  · rw [uo (by omega), uo (by omega), uo (by omega), us]
  · rw [uo (by omega), uo (by omega), us]
  · rw [uo (by omega), us]
  · rw [us]
  · rw [lo 66 (by omega)]; exact l5
  · rw [us]
  · rw [lo 66 (by omega)]; exact hE2
theorem PlanV.setP {kind zoneOf ek ez dl : FN} {dev iso eff snd pre alarm conf pace ph : Int32} {t : FN} {d e l : Nat} (h : PlanV kind zoneOf ek ez dl dev iso eff snd pre alarm conf pace ph t d e) (hl1 : 1 ≤ l) (hl9 : l ≤ 9) :
    PlanV kind zoneOf ek ez dl dev iso eff snd pre alarm conf pace (nI l) (upd t 66 (nI l)) d e := by
  obtain ⟨⟨h1, h2⟩, ⟨p1, p2, p3, p4⟩, hdev, hiso, hef, hsnd, ⟨l1, l2, l3, l4, l5⟩, hE1, hE2⟩ := h
  have lo : ∀ x, x < 66 → upd t 66 (nI l) x = t x := fun x a => by rw [uo (by omega)]
  refine ⟨⟨h1, h2⟩, ⟨p1, by rw [lo 60 (by omega)]; exact p2, p3, by rw [lo 61 (by omega)]; exact p4⟩, fun j hj => ?_, hiso.cong (fun j hj => ?_), fun q hq => ?_, hsnd.cong (fun q hq => ?_), ⟨?_, ?_, ?_, ?_, ?_⟩, ?_, ⟨l, hl1, hl9, us⟩⟩
  · rw [lo (3 * j) (by omega), lo (3 * j + 1) (by omega), lo (3 * j + 2) (by omega)]; exact hdev j hj
  · rw [lo (3 * j + 2) (by omega)]
  · rw [lo (36 + 4 * q) (by omega), lo (36 + 4 * q + 1) (by omega), lo (36 + 4 * q + 2) (by omega), lo (36 + 4 * q + 3) (by omega)]; exact hef q hq
  · rw [lo (36 + 4 * q + 3) (by omega)]
  · rw [lo 62 (by omega)]; exact l1
  · rw [lo 63 (by omega)]; exact l2
  · rw [lo 64 (by omega)]; exact l3
  · rw [lo 65 (by omega)]; exact l4
  · rw [us]
  · rw [lo 65 (by omega)]; exact hE1
/-! what the plan takes -/
theorem addD_yes {iso : Int32} {kind zo : FN} {d k z i : Nat} (hd : d < 12) (hk : k ≤ 3) (hz : z ≤ 5) (hi : i ≤ 1) : f_X1_addDevice (nI d) iso kind zo (nI k) (nI z) (nI i) = some (1, nI (d + 1), iso ||| (nI i <<< (nI d &&& 31)), upd kind d (nI k), upd zo d (nI z)) := by
  have w1 : wi (nI k) 0 3 = 1 := wi_yes (a := 0) (b := 3) (by omega) hk (by decide)
  have w2 : wi (nI z) 0 5 = 1 := wi_yes (a := 0) (b := 5) (by omega) hz (by decide)
  have w3 : wi (nI i) 0 1 = 1 := wi_yes (a := 0) (b := 1) (by omega) hi (by decide)
  have g : gi (nI d) 12 := (gi_nI (by omega)).mpr hd
  unfold f_X1_addDevice
  simp only [within_eq, w1, w2, w3, Option.bind_some, if_pos g, nI_clamp (show d < 2 ^ 31 by omega), nI1, if_pos (show nI d < (12 : Int32) from nI_lt (b := 12) hd (by decide)), show ¬ (1 : Int32) = 0 by decide, ↓reduceIte]
theorem addD_no {iso : Int32} {kind zo : FN} {d k z i : Nat} (hd : d ≤ 12) (hk : k ≤ 99) (hz : z ≤ 99) (hi : i ≤ 99) (h : ¬ (k ≤ 3 ∧ z ≤ 5 ∧ i ≤ 1 ∧ d < 12)) : f_X1_addDevice (nI d) iso kind zo (nI k) (nI z) (nI i) = some (0, nI d, iso, kind, zo) := by
  have w1 : wi (nI k) 0 3 = if k ≤ 3 then 1 else 0 := by rw [show wi (nI k) 0 3 = _ from wiN (a := 0) (b := 3) (by omega) (by omega) (by omega)]; simp
  have w2 : wi (nI z) 0 5 = if z ≤ 5 then 1 else 0 := by rw [show wi (nI z) 0 5 = _ from wiN (a := 0) (b := 5) (by omega) (by omega) (by omega)]; simp
  have w3 : wi (nI i) 0 1 = if i ≤ 1 then 1 else 0 := by rw [show wi (nI i) 0 1 = _ from wiN (a := 0) (b := 1) (by omega) (by omega) (by omega)]; simp
  unfold f_X1_addDevice
  simp only [within_eq, w1, w2, w3, Option.bind_some]
  by_cases c1 : k ≤ 3
  · by_cases c2 : z ≤ 5
    · by_cases c3 : i ≤ 1
      · have hd12 : ¬ nI d < (12 : Int32) := nI_nlt (b := 12) (by omega) (by omega)
        simp only [c1, c2, c3, ↓reduceIte, show ¬ (1 : Int32) = 0 by decide, Option.bind_some, hd12]
      · simp only [c1, c2, c3, ↓reduceIte, show ¬ (1 : Int32) = 0 by decide, Option.bind_some]
    · simp only [c1, c2, ↓reduceIte, show ¬ (1 : Int32) = 0 by decide, Option.bind_some]
  · simp only [c1, ↓reduceIte, Option.bind_some]
theorem addE_yes {snd : Int32} {ek ez dl : FN} {e k z i l : Nat} (he : e < 6) (hk : k ≤ 2) (hz1 : 1 ≤ z) (hz : z ≤ 63) (hi : i ≤ 9) (hl : l ≤ 1) : f_X1_addEffect (nI e) snd ek ez dl (nI k) (nI z) (nI i) (nI l) = some (1, nI (e + 1), snd ||| (nI l <<< (nI e &&& 31)), upd ek e (nI k), upd ez e (nI z), upd dl e (nI i)) := by
  have w1 : wi (nI k) 0 2 = 1 := wi_yes (a := 0) (b := 2) (by omega) hk (by decide)
  have w2 : wi (nI z) 1 63 = 1 := wi_yes (a := 1) (b := 63) (by omega) hz (by decide)
  have w3 : wi (nI i) 0 9 = 1 := wi_yes (a := 0) (b := 9) (by omega) hi (by decide)
  have w4 : wi (nI l) 0 1 = 1 := wi_yes (a := 0) (b := 1) (by omega) hl (by decide)
  have g : gi (nI e) 6 := (gi_nI (by omega)).mpr he
  unfold f_X1_addEffect
  simp only [within_eq, w1, w2, w3, w4, Option.bind_some, if_pos g, nI_clamp (show e < 2 ^ 31 by omega), nI1, if_pos (show nI e < (6 : Int32) from nI_lt (b := 6) he (by decide)), show ¬ (1 : Int32) = 0 by decide, ↓reduceIte]
theorem addE_no {snd : Int32} {ek ez dl : FN} {e k z i l : Nat} (he : e ≤ 6) (hk : k ≤ 99) (hz : z ≤ 99) (hi : i ≤ 99) (hl : l ≤ 99) (h : ¬ (k ≤ 2 ∧ (1 ≤ z ∧ z ≤ 63) ∧ i ≤ 9 ∧ l ≤ 1 ∧ e < 6)) : f_X1_addEffect (nI e) snd ek ez dl (nI k) (nI z) (nI i) (nI l) = some (0, nI e, snd, ek, ez, dl) := by
  have w1 : wi (nI k) 0 2 = if k ≤ 2 then 1 else 0 := by rw [show wi (nI k) 0 2 = _ from wiN (a := 0) (b := 2) (by omega) (by omega) (by omega)]; simp
  have w2 : wi (nI z) 1 63 = if 1 ≤ z ∧ z ≤ 63 then 1 else 0 := wiN (a := 1) (b := 63) (by omega) (by omega) (by omega)
  have w3 : wi (nI i) 0 9 = if i ≤ 9 then 1 else 0 := by rw [show wi (nI i) 0 9 = _ from wiN (a := 0) (b := 9) (by omega) (by omega) (by omega)]; simp
  have w4 : wi (nI l) 0 1 = if l ≤ 1 then 1 else 0 := by rw [show wi (nI l) 0 1 = _ from wiN (a := 0) (b := 1) (by omega) (by omega) (by omega)]; simp
  unfold f_X1_addEffect
  simp only [within_eq, w1, w2, w3, w4, Option.bind_some]
  by_cases c1 : k ≤ 2
  · by_cases c2 : 1 ≤ z ∧ z ≤ 63
    · by_cases c3 : i ≤ 9
      · by_cases c4 : l ≤ 1
        · have he6 : ¬ nI e < (6 : Int32) := nI_nlt (b := 6) (by omega) (by omega)
          simp only [c1, if_pos c2, c3, c4, ↓reduceIte, show ¬ (1 : Int32) = 0 by decide, Option.bind_some, he6]
        · simp only [c1, if_pos c2, c3, c4, ↓reduceIte, show ¬ (1 : Int32) = 0 by decide, Option.bind_some]
      · simp only [c1, if_pos c2, c3, ↓reduceIte, show ¬ (1 : Int32) = 0 by decide, Option.bind_some]
    · simp only [c1, if_neg c2, ↓reduceIte, show ¬ (1 : Int32) = 0 by decide, Option.bind_some]
  · simp only [c1, ↓reduceIte, Option.bind_some]
theorem setL_yes {pre alarm conf pace : Int32} {k z i l : Nat} (hk1 : 1 ≤ k) (hk : k ≤ 90) (hz1 : k + 1 ≤ z) (hz : z ≤ 99) (hi : i ≤ 9) (hl1 : 1 ≤ l) (hl : l ≤ 9) : f_X1_setLimits pre alarm conf pace (nI k) (nI z) (nI i) (nI l) = some (1, nI k, nI z, nI i, nI l) := by
  have w1 : wi (nI k) 1 90 = 1 := wi_yes (a := 1) (b := 90) (by omega) hk (by decide)
  have w2 : wi (nI z) (nI (k + 1)) 99 = 1 := wi_yes (a := k + 1) (b := 99) (by omega) hz (by decide)
  have w3 : wi (nI i) 0 9 = 1 := wi_yes (a := 0) (b := 9) (by omega) hi (by decide)
  have w4 : wi (nI l) 1 9 = 1 := wi_yes (a := 1) (b := 9) (by omega) hl (by decide)
  unfold f_X1_setLimits
  simp only [within_eq, nI1, w1, w2, w3, w4, Option.bind_some, show ¬ (1 : Int32) = 0 by decide, ↓reduceIte, or_true]
theorem setL_no {pre alarm conf pace : Int32} {k z i l : Nat} (hk : k ≤ 99) (hz : z ≤ 99) (hi : i ≤ 99) (hl : l ≤ 99) (h : ¬ ((1 ≤ k ∧ k ≤ 90) ∧ (k + 1 ≤ z ∧ z ≤ 99) ∧ i ≤ 9 ∧ (1 ≤ l ∧ l ≤ 9))) : f_X1_setLimits pre alarm conf pace (nI k) (nI z) (nI i) (nI l) = some (0, pre, alarm, conf, pace) := by
  have w1 : wi (nI k) 1 90 = if 1 ≤ k ∧ k ≤ 90 then 1 else 0 := wiN (a := 1) (b := 90) (by omega) (by omega) (by omega)
  have w2 : wi (nI z) (nI (k + 1)) 99 = if k + 1 ≤ z ∧ z ≤ 99 then 1 else 0 := wiN (a := k + 1) (b := 99) (by omega) (by omega) (by omega)
  have w3 : wi (nI i) 0 9 = if i ≤ 9 then 1 else 0 := by rw [show wi (nI i) 0 9 = _ from wiN (a := 0) (b := 9) (by omega) (by omega) (by omega)]; simp
  have w4 : wi (nI l) 1 9 = if 1 ≤ l ∧ l ≤ 9 then 1 else 0 := wiN (a := 1) (b := 9) (by omega) (by omega) (by omega)
  unfold f_X1_setLimits
  simp only [within_eq, nI1, w1, w2, w3, w4, Option.bind_some]
  by_cases c1 : 1 ≤ k ∧ k ≤ 90
  · by_cases c2 : k + 1 ≤ z ∧ z ≤ 99
    · by_cases c3 : i ≤ 9
      · have c4 : ¬ (1 ≤ l ∧ l ≤ 9) := fun c4 => h ⟨c1, c2, c3, c4⟩
        simp only [if_pos c1, if_pos c2, c3, if_neg c4, ↓reduceIte, show ¬ (1 : Int32) = 0 by decide, Option.bind_some, true_or]
      · simp only [if_pos c1, if_pos c2, c3, ↓reduceIte, show ¬ (1 : Int32) = 0 by decide, Option.bind_some, true_or]
    · simp only [if_pos c1, if_neg c2, ↓reduceIte, show ¬ (1 : Int32) = 0 by decide, Option.bind_some, true_or]
  · simp only [if_neg c1, ↓reduceIte, Option.bind_some, true_or]
