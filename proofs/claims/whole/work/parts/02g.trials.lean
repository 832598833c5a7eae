/-! what is tried -/
def sc_C (z z' : sg_M) : Prop := (∀ k, (k < 14 ∨ k = 19 ∨ k = 20 ∨ 23 < k) → z'.1 k = z.1 k) ∧ ∀ a, (a ≠ 18 ∧ a ≠ 19 ∧ a ≠ 24 ∧ a ≠ 25) → z'.2 a = z.2 a
def sc_M (z z' : sg_M) : Prop := (∀ k, z'.1 k = z.1 k) ∧ ∀ a, (a ≠ 13 ∧ a ≠ 16) → z'.2 a = z.2 a
theorem sc_C.rf (z : sg_M) : sc_C z z := ⟨fun _ _ => rfl, fun _ _ => rfl⟩
theorem sc_M.rf (z : sg_M) : sc_M z z := ⟨fun _ => rfl, fun _ _ => rfl⟩
theorem sc_C.tr {x y z : sg_M} (h : sc_C x y) (g : sc_C y z) : sc_C x z := ⟨fun k hk => (g.1 k hk).trans (h.1 k hk), fun a ha => (g.2 a ha).trans (h.2 a ha)⟩
theorem sc_M.tr {x y z : sg_M} (h : sc_M x y) (g : sc_M y z) : sc_M x z := ⟨fun k => (g.1 k).trans (h.1 k), fun a ha => (g.2 a ha).trans (h.2 a ha)⟩
theorem sc_road {nc nk : Nat} {zC zM zC' zM' : sg_M} (hC : sc_C zC zC') (hM : sc_M zM zM') (h : rl_road nc nk zC zM) : rl_road nc nk zC' zM' := by
  unfold rl_road at *
  rw [hC.1 9 (by omega), hC.1 10 (by omega), hC.1 11 (by omega), hC.2 6 (by omega), hC.2 7 (by omega), hC.2 8 (by omega), hC.2 10 (by omega), hM.1 0, hM.1 1, hM.1 2, hM.2 0 (by omega), hM.2 1 (by omega), hM.2 2 (by omega), hM.2 4 (by omega)]
  exact h
theorem sc_now {nc nk tb : Nat} {zC zM zC' zM' : sg_M} (hC : sc_C zC zC') (hM : sc_M zM zM') (h : rl_now nc nk tb zC zM) : rl_now nc nk tb zC' zM' := by
  unfold rl_now at *
  rw [hC.1 12 (by omega), hC.1 13 (by omega), hC.2 11 (by omega), hC.2 12 (by omega), hC.2 13 (by omega), hC.2 14 (by omega), hC.2 15 (by omega), hC.2 16 (by omega), hC.2 17 (by omega), hM.2 5 (by omega)]
  exact h
theorem pi_100 {j : Nat} (h : j < 2147483648) : (100 : Int32) < nI j ↔ 100 < j := pi_lt (a := 100) (by omega) h
theorem pi_l60 {j : Nat} (h : j < 2147483648) : (60 : Int32) < nI j ↔ 60 < j := pi_lt (a := 60) (by omega) h
theorem rr_soonL {nc nk tb : Nat} {zC zM : sg_M} (hr : rl_road nc nk zC zM) (hn : rl_now nc nk tb zC zM) {c : Nat} (hc : c < nk) (xx : Int32) : ∀ (k j n : Nat), j + k = 101 → k + 130 ≤ n → ∃ v, gC_Trials_soonestAt_L n (nI c) xx (nI j) zC = some v ∧ gM_soonest_L n (nI c) xx (nI j) zM = some v := by
  intro k
  induction k with
  | zero =>
    intro j n hj hn1
    obtain ⟨m, rfl⟩ : ∃ m, n = m + 1 := ⟨n - 1, by omega⟩
    unfold gC_Trials_soonestAt_L gM_soonest_L
    rw [if_pos ((pi_100 (by omega)).mpr (by omega)), if_pos ((pi_100 (by omega)).mpr (by omega))]
    exact ⟨_, rfl, rfl⟩
  | succ k ih =>
    intro j n hj hn1
    obtain ⟨m, rfl⟩ : ∃ m, n = m + 1 := ⟨n - 1, by omega⟩
    unfold gC_Trials_soonestAt_L gM_soonest_L
    have e : ¬ (100 : Int32) < nI j := by rw [pi_100 (by omega)]; omega
    rw [if_neg e, if_neg e, rC_stopBehind hr hn hc j m (by omega) (by omega), rM_wetBehind hr hn j m (by omega) (by omega)]
    simp only [Option.bind_some]
    rw [rM_stopOf hr hc _ m (by omega), nI_1]
    simp only [Option.bind_some]
    split
    · exact ⟨_, rfl, rfl⟩
    · exact ih (j + 1) m (by omega) (by omega)
theorem rr_soon {nc nk tb : Nat} {zC zM : sg_M} (hr : rl_road nc nk zC zM) (hn : rl_now nc nk tb zC zM) {c : Nat} (hc : c < nk) (xx : Int32) (n : Nat) (hn1 : 300 ≤ n) : ∃ v, gC_Trials_soonestAt n (nI c) xx zC = some v ∧ gM_soonest_L n (nI c) xx 0 zM = some v := rr_soonL hr hn hc xx 101 0 n (by omega) (by omega)
theorem rr_loadsL {nc nk tb : Nat} {zC zM : sg_M} (hr : rl_road nc nk zC zM) (hn : rl_now nc nk tb zC zM) {c : Nat} (hc : c < nk) (xx w : Int32) : ∀ (k j n : Nat) (z : sg_M), j + k = 61 → k + 30 ≤ n → sc_C zC z → ∃ z', gC_Trials_loadsFor_L n (nI c) xx (sp_wet0 zM) (nI j) z = some z' ∧ sc_C zC z' ∧ gM_loads_L n (nI c) xx w (z.1 14) (z.1 15) (z.1 16) (nI j) zM = some (gC_Span_answer_27 w z') := by
  intro k
  induction k with
  | zero =>
    intro j n z hj hn1 hz
    obtain ⟨m, rfl⟩ : ∃ m, n = m + 1 := ⟨n - 1, by omega⟩
    unfold gC_Trials_loadsFor_L gM_loads_L gC_Span_answer_27
    rw [if_pos ((pi_l60 (by omega)).mpr (by omega)), if_pos ((pi_l60 (by omega)).mpr (by omega))]
    refine ⟨z, rfl, hz, ?_⟩
    split
    · rfl
    · split <;> rfl
  | succ k ih =>
    intro j n z hj hn1 hz
    obtain ⟨m, rfl⟩ : ∃ m, n = m + 1 := ⟨n - 1, by omega⟩
    have hr' := sc_road hz (sc_M.rf zM) hr
    have hn' := sc_now hz (sc_M.rf zM) hn
    unfold gC_Trials_loadsFor_L gM_loads_L
    have e : ¬ (60 : Int32) < nI j := by rw [pi_l60 (by omega)]; omega
    rw [if_neg e, if_neg e, rC_stopOf hr' hn' hc _ _ m (by omega), rM_wet hr hn m (by omega)]
    simp only [Option.bind_some]
    rw [rM_stopBy hr hc _ _ m (by omega), nI_1]
    simp only [Option.bind_some]
    by_cases h : sp_stop nc zM c (nI j) (sp_wet0 zM) = xx
    · simp only [if_pos h]
      unfold gC_Span_put_27
      simp only [pl_let, Option.bind_some]
      by_cases h0 : z.1 14 = 0
      · simp only [if_pos h0]
        exact ih (j + 1) m (sg_s (sg_s (sg_s z 15 (nI j)) 16 (nI j)) 14 ((sg_s (sg_s z 15 (nI j)) 16 (nI j)).1 14 + 1)) (by omega) (by omega) (sc_C.tr hz ⟨fun q hq => by simp only [ps_1]; rw [if_neg (by omega), if_neg (by omega), if_neg (by omega)], fun _ _ => rfl⟩)
      · simp only [if_neg h0]
        exact ih (j + 1) m (sg_s (sg_s z 16 (nI j)) 14 ((sg_s z 16 (nI j)).1 14 + 1)) (by omega) (by omega) (sc_C.tr hz ⟨fun q hq => by simp only [ps_1]; rw [if_neg (by omega), if_neg (by omega)], fun _ _ => rfl⟩)
    · simp only [if_neg h, Option.bind_some]
      exact ih (j + 1) m z (by omega) (by omega) hz
theorem rr_loads {nc nk tb : Nat} {zC zM : sg_M} (hr : rl_road nc nk zC zM) (hn : rl_now nc nk tb zC zM) {c : Nat} (hc : c < nk) (xx w : Int32) (n : Nat) (hn1 : 200 ≤ n) : ∃ z', gC_Trials_loadsFor n (nI c) xx zC = some z' ∧ sc_C zC z' ∧ gM_loads_L n (nI c) xx w 0 (-1) (-1) 1 zM = some (gC_Span_answer_27 w z') := by
  unfold gC_Trials_loadsFor gC_Span_clear_27
  rw [rC_wet0 hr hn n (by omega)]
  simp only [pl_let, Option.bind_some]
  exact rr_loadsL hr hn hc xx w 60 1 n _ (by omega) (by omega) ⟨fun q hq => by simp only [ps_1]; rw [if_neg (by omega), if_neg (by omega), if_neg (by omega)], fun _ _ => rfl⟩
/-! needs -/
def sp_need (zM : sg_M) (c x : Nat) : Int32 := if sp_weight zM c (zM.2 5 (80 + c)) < 60 then gM_notBelow (((sp_ground zM c x (sp_wet0 zM) + sp_weight zM c (zM.2 5 (80 + c))) - 60) + 1) else -1
theorem pn_nb {v : Int32} {k : Int} (h : v.toInt = k) : (gM_notBelow v).toInt = if k ≤ 0 then 0 else k := by
  unfold gM_notBelow
  have e0 : (0 : Int32).toInt = 0 := by decide
  by_cases h1 : v ≤ 0
  · rw [if_pos h1, e0]
    rw [pi_leT, e0] at h1
    rw [if_pos (by omega)]
  · rw [if_neg h1, h]
    rw [pi_leT, e0] at h1
    rw [if_neg (by omega)]
theorem sp_ground_rng {nc nk tb : Nat} {zC zM : sg_M} (hr : rl_road nc nk zC zM) (hn : rl_now nc nk tb zC zM) {c x : Nat} (hx : x < nc) {wet : Int32} (hw : ∃ g, g ≤ 100 ∧ wet = nI g) : ∃ g, g ≤ 160 ∧ sp_ground zM c x wet = nI g := by
  have h1 := hr.1
  obtain ⟨a, ha, ha2⟩ := (hr.2.2.2.2.2.2.2.1 x hx).2
  obtain ⟨b, hb, hb2⟩ := (rn_inv hn).1 x (by omega)
  obtain ⟨g, hg, hg2⟩ := hw
  unfold sp_ground
  have hw2 : ∃ q, q ≤ 100 ∧ (if zM.2 2 c = 2 then 0 else wet) = nI q := by
    split
    · exact ⟨0, by omega, rfl⟩
    · exact ⟨g, hg, hg2⟩
  obtain ⟨q, hq, hq2⟩ := hw2
  rw [hq2, ha2, hb2, nI_add]
  have e : (nI (a + q) - nI b).toInt = (a : Int) + q - b := by
    rw [pi_subT (by rw [pi_nT (by omega), pi_nT (by omega)]; omega) (by rw [pi_nT (by omega), pi_nT (by omega)]; omega), pi_nT (by omega), pi_nT (by omega)]
    omega
  have e2 := pn_nb e
  refine ⟨(if (a : Int) + q - b ≤ 0 then 0 else (a : Int) + q - b).toNat, ?_, pi_of ?_⟩
  · split <;> omega
  · rw [e2]; split <;> omega
theorem sp_wet0_rng {nc nk tb : Nat} {zC zM : sg_M} (hr : rl_road nc nk zC zM) (hn : rl_now nc nk tb zC zM) : ∃ g, g ≤ 100 ∧ sp_wet0 zM = nI g := by
  unfold sp_wet0
  split
  · exact ⟨0, by omega, rfl⟩
  · obtain ⟨g, hg, h⟩ := sp_wet_rng hr hn 0 (by omega)
    exact ⟨g, by omega, h⟩
theorem sp_weight_rng {nc nk tb : Nat} {zC zM : sg_M} (hr : rl_road nc nk zC zM) (hn : rl_now nc nk tb zC zM) {c : Nat} (hc : c < nk) : 0 ≤ (sp_weight zM c (zM.2 5 (80 + c))).toInt ∧ (sp_weight zM c (zM.2 5 (80 + c))).toInt ≤ 80 := by
  have h2 := hr.2.1
  obtain ⟨g, hg1, hg, hg2⟩ := (rn_inv hn).2.2.2.2.2.1 c hc
  obtain ⟨htb, ht⟩ := rn_times hn
  obtain ⟨t, ht1, ht2⟩ := ht c (by omega)
  unfold sp_weight
  rw [hg2, ht2]
  have e20 : (20 : Int32).toInt = 20 := by decide
  split
  · have e : nI g / 2 = nI (g / 2) := pk_div (a := g) (d := 2) (by omega) (by omega) (by omega)
    rw [e, pi_nT (by omega)]
    omega
  · split
    · split
      · rw [pi_addT (by rw [pi_nT (by omega), e20]; omega) (by rw [pi_nT (by omega), e20]; omega), pi_nT (by omega), e20]
        omega
      · rename_i h
        rw [pi_leT, e20, pi_nT (by omega)] at h
        rw [nI_add, pi_nT (by omega)]
        omega
    · rw [pi_nT (by omega)]
      omega
theorem pn_need {g w : Int32} (hg : 0 ≤ g.toInt ∧ g.toInt ≤ 300) (hw : 0 ≤ w.toInt ∧ w.toInt ≤ 80) : (if (60 : Int32) ≤ g + w then (if (60 : Int32) ≤ w then (-1 : Int32) else g + w - 60 + 1) else 0) = (if w < 60 then gM_notBelow (g + w - 60 + 1) else -1) := by
  have hr2 := pi_rng w
  have e60 : (60 : Int32).toInt = 60 := by decide
  have e1 : (1 : Int32).toInt = 1 := by decide
  have e0 : (0 : Int32).toInt = 0 := by decide
  have es : (g + w).toInt = g.toInt + w.toInt := pi_addT (by omega) (by omega)
  by_cases h1 : (60 : Int32) ≤ g + w
  · have h1' := h1
    rw [pi_leT, e60, es] at h1'
    have et : (g + w - 60).toInt = g.toInt + w.toInt - 60 := by rw [pi_subT (by omega) (by omega), es, e60]
    have eu : (g + w - 60 + 1).toInt = g.toInt + w.toInt - 59 := by rw [pi_addT (by omega) (by omega), et, e1]; omega
    rw [if_pos h1]
    by_cases h2 : (60 : Int32) ≤ w
    · rw [if_pos h2, if_neg (Int32.not_lt.mpr h2)]
    · rw [if_neg h2, if_pos (Int32.not_le.mp h2)]
      unfold gM_notBelow
      rw [if_neg (by rw [pi_leT, eu, e0]; omega)]
  · have h1' := h1
    rw [pi_leT, e60, es] at h1'
    rw [if_neg h1, if_pos (by rw [pi_ltT, e60]; omega)]
    unfold gM_notBelow
    have et : (g + w - 60).toInt = g.toInt + w.toInt - 60 := by rw [pi_subT (by omega) (by omega), es, e60]
    have eu : (g + w - 60 + 1).toInt = g.toInt + w.toInt - 59 := by rw [pi_addT (by omega) (by omega), et, e1]; omega
    rw [if_pos (by rw [pi_leT, eu, e0]; omega)]
theorem rM_need {nc nk tb : Nat} {zC zM : sg_M} (hr : rl_road nc nk zC zM) (hn : rl_now nc nk tb zC zM) {c x : Nat} (hc : c < nk) (hx : x < nc) (n : Nat) (hn1 : 0 < n) : gM_needOf n (nI c) (nI x) zM = some (sp_need zM c x) := by
  have h2 := hr.2.1
  unfold gM_needOf sp_need
  rw [pi_80, pi_in (by omega) (by omega), pi_cl (by omega), rM_weighs hr hc, rM_wet hr hn n hn1]
  simp only [if_true, Option.bind_some]
  rw [rM_ground hr hc hx]
  simp only [Option.bind_some]
  split <;> rfl
theorem rC_need {nc nk tb : Nat} {zC zM : sg_M} (hr : rl_road nc nk zC zM) (hn : rl_now nc nk tb zC zM) {c x : Nat} (hc : c < nk) (hx : x < nc) (n : Nat) (hn1 : 0 < n) : gC_Trials_needAt n (nI c) (nI x) zC = some (sp_need zM c x) := by
  have h2 := hr.2.1
  have hl := hn.2.2.2.2.1 c hc
  unfold gC_Trials_needAt sp_need
  rw [rC_wet0 hr hn n hn1]
  simp only [Option.bind_some]
  rw [rC_ground hr hn hc hx, pi_in (by omega) (by omega), pi_cl (by omega), hl, rC_weight hr hn hc]
  simp only [if_true, Option.bind_some]
  obtain ⟨g, hg, hg2⟩ := sp_ground_rng hr hn (c := c) hx (sp_wet0_rng hr hn)
  have e := pn_need (g := sp_ground zM c x (sp_wet0 zM)) (w := sp_weight zM c (zM.2 5 (80 + c))) (by rw [hg2, pi_nT (by omega)]; omega) (sp_weight_rng hr hn hc)
  rw [← e]
  split
  · split <;> rfl
  · rfl
theorem sp_need_rng {nc nk tb : Nat} {zC zM : sg_M} (hr : rl_road nc nk zC zM) (hn : rl_now nc nk tb zC zM) {c x : Nat} (hc : c < nk) (hx : x < nc) : sp_need zM c x = -1 ∨ ∃ q, q ≤ 300 ∧ sp_need zM c x = nI q := by
  unfold sp_need
  obtain ⟨g, hg, hg2⟩ := sp_ground_rng hr hn (c := c) hx (sp_wet0_rng hr hn)
  obtain ⟨w1, w2⟩ := sp_weight_rng hr hn hc
  have e60 : (60 : Int32).toInt = 60 := by decide
  have e1 : (1 : Int32).toInt = 1 := by decide
  split
  · right
    generalize hw : sp_weight zM c (zM.2 5 (80 + c)) = w at *
    rw [hg2]
    have eg := pi_nT (n := g) (by omega)
    have es : (nI g + w).toInt = g + w.toInt := by rw [pi_addT (by omega) (by omega), eg]
    have et : (nI g + w - 60).toInt = g + w.toInt - 60 := by rw [pi_subT (by omega) (by omega), es, e60]
    have eu : (nI g + w - 60 + 1).toInt = g + w.toInt - 59 := by rw [pi_addT (by omega) (by omega), et, e1]; omega
    have e2 := pn_nb eu
    refine ⟨(if (g : Int) + w.toInt - 59 ≤ 0 then 0 else (g : Int) + w.toInt - 59).toNat, ?_, pi_of ?_⟩
    · split <;> omega
    · rw [e2]; split <;> omega
  · exact Or.inl rfl
/-- a need as an option; the greatest of a set -/
def sp_nd (zM : sg_M) (c x : Nat) : Option Nat := if sp_need zM c x = -1 then none else some (sp_need zM c x).toNatClampNeg
def sp_gnS (zM : sg_M) (s x j a : Nat) : Option Nat := if s.testBit j then (sp_nd zM j x).map (max a) else some a
def sp_gnF (zM : sg_M) (s x : Nat) : Nat → Nat → Nat → Option Nat
  | 0, _, a => some a
  | k + 1, j, a => (sp_gnS zM s x j a).bind (sp_gnF zM s x k (j + 1))
theorem sp_nd_cases {nc nk tb : Nat} {zC zM : sg_M} (hr : rl_road nc nk zC zM) (hn : rl_now nc nk tb zC zM) {c x : Nat} (hc : c < nk) (hx : x < nc) : (sp_nd zM c x = none ∧ sp_need zM c x = -1) ∨ ∃ q, q ≤ 300 ∧ sp_nd zM c x = some q ∧ sp_need zM c x = nI q := by
  unfold sp_nd
  rcases sp_need_rng hr hn hc hx with h | ⟨q, hq, h⟩
  · exact Or.inl ⟨if_pos h, h⟩
  · right
    refine ⟨q, hq, ?_, h⟩
    rw [h, if_neg (pi_m1 (by omega)), pi_cl (by omega)]
theorem pn_max {a q : Nat} (ha : a < 2147483648) (hq : q < 2147483648) : sg_max (nI a) (nI q) = nI (max a q) := by
  unfold sg_max
  by_cases h : a < q
  · rw [if_pos ((pi_lt ha hq).mpr h), Nat.max_eq_right (by omega)]
  · rw [if_neg (by rw [pi_lt ha hq]; exact h), Nat.max_eq_left (by omega)]
theorem rC_gnL {nc nk tb : Nat} {zC zM : sg_M} (hr : rl_road nc nk zC zM) (hn : rl_now nc nk tb zC zM) {x s : Nat} (hx : x < nc) (hs : s < 2147483648) : ∀ (k j n a : Nat), j + k = nk → k + 2 ≤ n → a ≤ 300 → gC_Trials_greatestNeedAt_L n (nI s) (nI x) (nI a) (nI j) zC = some (sp_oC (sp_gnF zM s x k j a)) := by
  have h1 := hr.2.1
  have h4 := hr.2.2.2.2.2.1
  intro k
  induction k with
  | zero =>
    intro j n a hj hn1 _
    obtain ⟨m, rfl⟩ : ∃ m, n = m + 1 := ⟨n - 1, by omega⟩
    unfold gC_Trials_greatestNeedAt_L
    rw [h4, if_pos ((pi_le (by omega) (by omega)).mpr (by omega))]
    rfl
  | succ k ih =>
    intro j n a hj hn1 ha
    obtain ⟨m, rfl⟩ : ∃ m, n = m + 1 := ⟨n - 1, by omega⟩
    unfold gC_Trials_greatestNeedAt_L
    rw [h4, if_neg (by rw [pi_le (by omega) (by omega)]; omega), pb_bit (by omega) hs, nI_1, rC_need hr hn (c := j) (by omega) hx m (by omega)]
    simp only [Option.bind_some, pl_let]
    rw [sp_gnF]
    unfold sp_gnS
    cases hb : s.testBit j with
    | false =>
      simp only [Bool.false_eq_true, if_false, if_true, Option.bind_some]
      exact ih (j + 1) m a (by omega) (by omega) ha
    | true =>
      simp only [if_true, show ¬ (1 : Int32) = 0 by decide, if_false]
      rcases sp_nd_cases hr hn (c := j) (by omega) hx with ⟨e1, e2⟩ | ⟨q, hq, e1, e2⟩
      · rw [e1, e2]; rfl
      · rw [e1, e2, if_neg (pi_m1 (by omega)), pn_max (by omega) (by omega)]
        simp only [Option.map_some, Option.bind_some]
        exact ih (j + 1) m _ (by omega) (by omega) (by omega)
theorem sp_gnF_rng {nc nk tb : Nat} {zC zM : sg_M} (hr : rl_road nc nk zC zM) (hn : rl_now nc nk tb zC zM) {x s : Nat} (hx : x < nc) : ∀ (k j a q : Nat), j + k = nk → a ≤ 300 → sp_gnF zM s x k j a = some q → q ≤ 300 := by
  intro k
  induction k with
  | zero => intro j a q _ ha h; cases h; exact ha
  | succ k ih =>
    intro j a q hj ha h
    rw [sp_gnF] at h
    unfold sp_gnS at h
    by_cases hb : s.testBit j = true
    · rw [if_pos hb] at h
      rcases sp_nd_cases hr hn (c := j) (by omega) hx with ⟨e1, e2⟩ | ⟨p, hp, e1, e2⟩
      · rw [e1] at h; cases h
      · rw [e1] at h
        exact ih (j + 1) _ q (by omega) (by omega) h
    · rw [if_neg hb] at h
      exact ih (j + 1) _ q (by omega) ha h
theorem sp_gn_one (zM : sg_M) (c x : Nat) : ∀ (k j a : Nat), sp_gnF zM (2 ^ c) x k j a = if j ≤ c ∧ c < j + k then (sp_nd zM c x).map (max a) else some a := by
  intro k
  induction k with
  | zero =>
    intro j a
    rw [if_neg (by omega)]
    rfl
  | succ k ih =>
    intro j a
    rw [sp_gnF]
    unfold sp_gnS
    rw [Nat.testBit_two_pow]
    by_cases h : c = j
    · subst h
      simp only [decide_true, if_true]
      rw [if_pos ⟨by omega, by omega⟩]
      cases sp_nd zM c x with
      | none => rfl
      | some q =>
        simp only [Option.map_some, Option.bind_some]
        rw [ih, if_neg (by omega)]
    · simp only [h, decide_false, Bool.false_eq_true, if_false, Option.bind_some]
      rw [ih]
      by_cases h2 : j + 1 ≤ c ∧ c < j + 1 + k
      · rw [if_pos h2, if_pos ⟨by omega, by omega⟩]
      · rw [if_neg h2, if_neg (by omega)]
theorem rr_gravToL {nc nk tb : Nat} {zC zM : sg_M} (hr : rl_road nc nk zC zM) (hn : rl_now nc nk tb zC zM) {c e : Nat} (hc : c < nk) (he : e < nc) : ∀ (k j n : Nat) (a : Int32), j + k = e → k + 20 ≤ n → ∃ v, gC_Trials_gravelAhead_L n (nI (2 ^ c)) (nI e) a (nI j) zC = some v ∧ gM_gravelTo_L n (nI c) (nI e) a (nI j) zM = some v := by
  have h1 := hr.1
  have h2 := hr.2.1
  have h4 := hr.2.2.2.1
  have hp : 2 ^ c < 2 ^ 8 := Nat.pow_lt_pow_right (by omega) (by omega)
  intro k
  induction k with
  | zero =>
    intro j n a hj hn1
    obtain ⟨m, rfl⟩ : ∃ m, n = m + 1 := ⟨n - 1, by omega⟩
    unfold gC_Trials_gravelAhead_L gM_gravelTo_L
    have e9 : nI e ≤ nI j := (pi_le (by omega) (by omega)).mpr (by omega)
    rw [if_pos e9, if_pos e9]
    exact ⟨_, rfl, rfl⟩
  | succ k ih =>
    intro j n a hj hn1
    obtain ⟨m, rfl⟩ : ∃ m, n = m + 1 := ⟨n - 1, by omega⟩
    unfold gC_Trials_gravelAhead_L gM_gravelTo_L
    have e9 : ¬ nI e ≤ nI j := by rw [pi_le (by omega) (by omega)]; omega
    rw [if_neg e9, if_neg e9, h4, if_neg (by rw [pi_le (by omega) (by omega)]; omega), rM_need hr hn hc (x := j) (by omega) m (by omega), show gC_Trials_greatestNeedAt m (nI (2 ^ c)) (nI j) zC = gC_Trials_greatestNeedAt_L m (nI (2 ^ c)) (nI j) (nI 0) (nI 0) zC from rfl, rC_gnL hr hn (x := j) (by omega) (by omega) nk 0 m 0 (by omega) (by omega) (by omega), sp_gn_one, if_pos ⟨by omega, by omega⟩, nI_1]
    simp only [Option.bind_some, pl_let]
    rcases sp_nd_cases hr hn hc (x := j) (by omega) with ⟨e1, e2⟩ | ⟨q, hq, e1, e2⟩
    · rw [e1, e2]
      exact ⟨-1, rfl, rfl⟩
    · rw [e1, e2, if_pos (pi_nneg' (by omega))]
      simp only [Option.map_some]
      rw [show sp_oC (some (max 0 q)) = nI q by rw [Nat.zero_max]; rfl, if_neg (pi_m1 (by omega))]
      exact ih (j + 1) m _ (by omega) (by omega)
theorem rM_gnL {nc nk tb : Nat} {zC zM : sg_M} (hr : rl_road nc nk zC zM) (hn : rl_now nc nk tb zC zM) {x s : Nat} (hx : x < nc) (hs : s < 2147483648) (v2 : Int32) : ∀ (k j n a : Nat), j + k = nk → k + 2 ≤ n → a ≤ 300 → gM_gravelForAll_LL n 29 (nI s) v2 (nI x) (nI a) (nI j) zM = (match sp_gnF zM s x k j a with
    | none => some (-1)
    | some q => gM_gravelForAll_LL (n - k - 1) 15 (nI s) (v2 + nI q) (nI (x + 1)) 0 0 zM) := by
  have h1 := hr.2.1
  have h5 := hr.2.2.2.2.2.2.1
  intro k
  induction k with
  | zero =>
    intro j n a hj hn1 _
    obtain ⟨m, rfl⟩ : ∃ m, n = m + 1 := ⟨n - 1, by omega⟩
    conv => lhs; unfold gM_gravelForAll_LL
    rw [if_neg (by decide), if_pos rfl, h5, if_pos ((pi_le (by omega) (by omega)).mpr (by omega)), nI_1]
    rfl
  | succ k ih =>
    intro j n a hj hn1 ha
    obtain ⟨m, rfl⟩ : ∃ m, n = m + 1 := ⟨n - 1, by omega⟩
    conv => lhs; unfold gM_gravelForAll_LL
    rw [if_neg (by decide), if_pos rfl, h5, if_neg (by rw [pi_le (by omega) (by omega)]; omega), pb_has (by omega) hs, rM_need hr hn (c := j) (by omega) hx m (by omega), nI_1, sp_gnF]
    unfold sp_gnS
    simp only [Option.bind_some, pl_let]
    cases hb : s.testBit j with
    | false =>
      simp only [Bool.false_eq_true, if_false, if_true, Option.bind_some]
      rw [if_pos (show (0 : Int32) ≤ 0 by decide), if_pos (show (0 : Int32) ≤ nI a from pi_nneg' (by omega)), ih (j + 1) m a (by omega) (by omega) ha, show m + 1 - (k + 1) - 1 = m - k - 1 by omega]
    | true =>
      simp only [if_true, show ¬ (1 : Int32) = 0 by decide, if_false, Option.bind_some]
      rcases sp_nd_cases hr hn (c := j) (by omega) hx with ⟨e1, e2⟩ | ⟨q, hq, e1, e2⟩
      · rw [e1, e2]; rfl
      · rw [e1, e2, if_pos (pi_nneg' (by omega))]
        simp only [Option.map_some, Option.bind_some]
        have e3 : (if nI q ≤ nI a then nI a else nI q) = nI (max a q) := by
          by_cases h : q ≤ a
          · rw [if_pos ((pi_le (by omega) (by omega)).mpr h), Nat.max_eq_left h]
          · rw [if_neg (by rw [pi_le (by omega) (by omega)]; exact h), Nat.max_eq_right (by omega)]
        rw [e3, ih (j + 1) m _ (by omega) (by omega) (by omega), show m + 1 - (k + 1) - 1 = m - k - 1 by omega]
theorem rr_gravAllL {nc nk tb : Nat} {zC zM : sg_M} (hr : rl_road nc nk zC zM) (hn : rl_now nc nk tb zC zM) {s : Nat} (hs : s < 2147483648) : ∀ (k j n n2 : Nat) (a : Int32), j + k = nc → k + 20 ≤ n → 20 * k + 20 ≤ n2 → ∃ v, gC_Trials_gravelAhead_L n (nI s) (nI nc) a (nI j) zC = some v ∧ gM_gravelForAll_LL n2 15 (nI s) a (nI j) 0 0 zM = some v := by
  have h1 := hr.1
  have h2 := hr.2.1
  have h4 := hr.2.2.2.1
  have h5 := hr.2.2.2.2.1
  intro k
  induction k with
  | zero =>
    intro j n n2 a hj hn1 hn2
    obtain ⟨m, rfl⟩ : ∃ m, n = m + 1 := ⟨n - 1, by omega⟩
    obtain ⟨m2, rfl⟩ : ∃ m, n2 = m + 1 := ⟨n2 - 1, by omega⟩
    unfold gC_Trials_gravelAhead_L gM_gravelForAll_LL
    have e9 : nI nc ≤ nI j := (pi_le (by omega) (by omega)).mpr (by omega)
    rw [if_pos e9, if_pos rfl, h5, if_pos e9]
    exact ⟨_, rfl, rfl⟩
  | succ k ih =>
    intro j n n2 a hj hn1 hn2
    obtain ⟨m, rfl⟩ : ∃ m, n = m + 1 := ⟨n - 1, by omega⟩
    obtain ⟨m2, rfl⟩ : ∃ m, n2 = m + 1 := ⟨n2 - 1, by omega⟩
    unfold gC_Trials_gravelAhead_L gM_gravelForAll_LL
    have e9 : ¬ nI nc ≤ nI j := by rw [pi_le (by omega) (by omega)]; omega
    rw [if_neg e9, h4, if_neg e9, if_pos rfl, h5, if_neg e9, show gC_Trials_greatestNeedAt m (nI s) (nI j) zC = gC_Trials_greatestNeedAt_L m (nI s) (nI j) (nI 0) (nI 0) zC from rfl, rC_gnL hr hn (x := j) (by omega) hs nk 0 m 0 (by omega) (by omega) (by omega), nI_1, show gM_gravelForAll_LL m2 29 (nI s) a (nI j) 0 0 zM = gM_gravelForAll_LL m2 29 (nI s) a (nI j) (nI 0) (nI 0) zM from rfl, rM_gnL hr hn (x := j) (by omega) hs a nk 0 m2 0 (by omega) (by omega) (by omega)]
    simp only [Option.bind_some, pl_let]
    cases hq : sp_gnF zM s j nk 0 0 with
    | none => exact ⟨-1, rfl, rfl⟩
    | some q =>
      have hq2 := sp_gnF_rng hr hn (x := j) (by omega) nk 0 0 q (by omega) (by omega) hq
      rw [show sp_oC (some q) = nI q from rfl, if_neg (pi_m1 (by omega))]
      exact ih (j + 1) m (m2 - nk - 1) _ (by omega) (by omega) (by omega)
