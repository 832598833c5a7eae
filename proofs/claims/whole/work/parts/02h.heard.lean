/-! the stopper; what is heard -/
def sp_st (nc : Nat) (zM : sg_M) (c : Nat) (wet : Int32) : Int32 := sp_stop nc zM c (zM.2 5 (80 + c)) wet
def sp_cnt (f : Nat → Int32) (x : Nat) : Nat → Nat
  | 0 => 0
  | c + 1 => sp_cnt f x c + (if f c = nI x then 1 else 0)
theorem sp_cnt_le (f : Nat → Int32) (x : Nat) : ∀ c, sp_cnt f x c ≤ c
  | 0 => Nat.le_refl _
  | c + 1 => by
    have := sp_cnt_le f x c
    rw [sp_cnt]
    split <;> omega
def sp_bsF (g : Nat → Nat) : Nat → Nat → Int32 → Nat → Int32
  | 0, _, b, _ => b
  | k + 1, j, b, m => if g j ≤ m then sp_bsF g k (j + 1) b m else sp_bsF g k (j + 1) (nI j) (g j)
theorem sp_wet0_eq {nc nk : Nat} {zC zM : sg_M} (hr : rl_road nc nk zC zM) (h0 : nc ≠ 0) : sp_wet0 zM = sp_wet zM 0 := by
  have h1 := hr.1
  unfold sp_wet0
  rw [hr.2.2.2.2.1, if_neg (nI_ne0 (by omega) (by omega))]
theorem rC_stp1 {nc nk tb : Nat} {zC zM : sg_M} (hr : rl_road nc nk zC zM) (hn : rl_now nc nk tb zC zM) : ∀ (k c n : Nat) (z : sg_M), c + k = nk → k + 60 ≤ n → sc_C zC z → (∀ x, x < 20 → z.2 18 x = nI (sp_cnt (fun c => sp_st nc zM c (sp_wet0 zM)) x c)) → ∃ z', sc_C zC z' ∧ (∀ x, x < 20 → z'.2 18 x = nI (sp_cnt (fun c => sp_st nc zM c (sp_wet0 zM)) x nk)) ∧ gC_Trials_stopper_LL n 10 (nI c) 0 0 z = gC_Trials_stopper_LL (n - k - 1) 64 (-1) 0 0 z' := by
  have h1 := hr.1
  have h2 := hr.2.1
  have h3 := hr.2.2.1
  intro k
  induction k with
  | zero =>
    intro c n z hc hn1 hz hx
    obtain ⟨m, rfl⟩ : ∃ m, n = m + 1 := ⟨n - 1, by omega⟩
    have h4 := (sc_road hz (sc_M.rf zM) hr).2.2.2.2.2.1
    conv => enter [1, z', 2, 2]; lhs; unfold gC_Trials_stopper_LL
    refine ⟨z, hz, ?_, ?_⟩
    · have e : c = nk := by omega
      rw [← e]
      exact hx
    · rw [if_pos rfl, h4, if_pos ((pi_le (by omega) (by omega)).mpr (by omega))]
      rfl
  | succ k ih =>
    intro c n z hc hn1 hz hx
    obtain ⟨m, rfl⟩ : ∃ m, n = m + 1 := ⟨n - 1, by omega⟩
    have hr' := sc_road hz (sc_M.rf zM) hr
    have hn' := sc_now hz (sc_M.rf zM) hn
    have h4 := hr'.2.2.2.2.2.1
    have h9 := hr'.2.2.2.1
    have hstep : gC_Trials_stopper_LL (m + 1) 10 (nI c) 0 0 z = gC_Trials_stopper_LL m 10 (nI (c + 1)) 0 0 (match (decide (sp_st nc zM c (sp_wet0 zM) = -1) : Bool) with
        | true => z
        | false => sg_w z 18 (sp_st nc zM c (sp_wet0 zM)) (z.2 18 (sp_st nc zM c (sp_wet0 zM)).toNatClampNeg + 1)) := by
      conv => lhs; unfold gC_Trials_stopper_LL
      rw [if_pos rfl, h4, if_neg (by rw [pi_le (by omega) (by omega)]; omega), show gC_Kingdom_stopBehind m (nI c) 0 z = gC_Kingdom_stopBehind m (nI c) (nI 0) z from rfl, rC_stopBehind hr' hn' (c := c) (by omega) 0 m (by omega) (by omega), nI_1, ← sp_wet0_eq hr (by omega)]
      simp only [Option.bind_some]
      show (Option.bind (if gC_Road_hasCell (sp_st nc zM c (sp_wet0 zM)) z = 0 then _ else _) _) = _
      rcases sp_stop_rng nc zM c (zM.2 5 (80 + c)) (sp_wet0 zM) with h | ⟨x, hx2, h⟩
      · have h' : sp_st nc zM c (sp_wet0 zM) = -1 := h
        rw [h']
        have e : gC_Road_hasCell (-1) z = 0 := by
          unfold gC_Road_hasCell
          rw [if_pos (by decide)]
        rw [if_pos e]
        rfl
      · have h' : sp_st nc zM c (sp_wet0 zM) = nI x := h
        rw [h']
        have e : ¬ gC_Road_hasCell (nI x) z = 0 := by
          unfold gC_Road_hasCell
          rw [if_neg (pi_nneg (by omega)), h9, if_neg (by rw [pi_le (by omega) (by omega)]; omega)]
          decide
        have e3 : (decide (nI x = (-1 : Int32))) = false := by simp [pi_m1 (a := x) (by omega)]
        rw [if_neg e, h, pi_in (by omega) (by omega), e3]
        rfl
    rw [hstep]
    rcases sp_stop_rng nc zM c (zM.2 5 (80 + c)) (sp_wet0 zM) with h | ⟨x, hx2, h⟩
    · have h' : sp_st nc zM c (sp_wet0 zM) = -1 := h
      rw [h']
      obtain ⟨z', g1, g2, g3⟩ := ih (c + 1) m z (by omega) (by omega) hz (fun y hy => by
        rw [hx y hy, sp_cnt, h', if_neg (fun q => pi_m1 (a := y) (by omega) q.symm), Nat.add_zero])
      exact ⟨z', g1, g2, by rw [show m + 1 - (k + 1) - 1 = m - k - 1 by omega]; exact g3⟩
    · have h' : sp_st nc zM c (sp_wet0 zM) = nI x := h
      have e3 : (decide (nI x = (-1 : Int32))) = false := by simp [pi_m1 (a := x) (by omega)]
      rw [h', e3, pi_cl (by omega)]
      have hx20 : x < 20 := by omega
      obtain ⟨z', g1, g2, g3⟩ := ih (c + 1) m (sg_w z 18 (nI x) (z.2 18 x + 1)) (by omega) (by omega) (sc_C.tr hz ⟨fun _ _ => rfl, fun a ha => by rw [pw_2, if_neg (by omega)]⟩) (fun y hy => by
        rw [pw_2, if_pos rfl, pi_cl (by omega), pu_at, sp_cnt, h']
        by_cases hxy : y = x
        · rw [if_pos hxy, hx x hx20, hxy, if_pos rfl, nI_1]
        · rw [if_neg hxy, hx y hy, if_neg (fun q => hxy ((pi_eq (a := x) (b := y) (by omega) (by omega)).mp q).symm), Nat.add_zero])
      exact ⟨z', g1, g2, by rw [show m + 1 - (k + 1) - 1 = m - k - 1 by omega]; exact g3⟩
theorem rC_stp2 {nc nk : Nat} {zC zM : sg_M} (hr : rl_road nc nk zC zM) {z : sg_M} (hz : sc_C zC z) (g : Nat → Nat) (hg : ∀ x, g x ≤ 8) (hx : ∀ x, x < 20 → z.2 18 x = nI (g x)) : ∀ (k j n m : Nat) (b : Int32), j + k = nc → k < n → m ≤ 8 → gC_Trials_stopper_LL n 64 b (nI m) (nI j) z = some (sp_bsF g k j b m, z) := by
  have h1 := hr.1
  have h4 := (sc_road hz (sc_M.rf zM) hr).2.2.2.1
  intro k
  induction k with
  | zero =>
    intro j n m b hj hn1 _
    obtain ⟨q, rfl⟩ : ∃ q, n = q + 1 := ⟨n - 1, by omega⟩
    unfold gC_Trials_stopper_LL
    rw [if_neg (by decide), if_pos rfl, h4, if_pos ((pi_le (by omega) (by omega)).mpr (by omega))]
    rfl
  | succ k ih =>
    intro j n m b hj hn1 hm
    obtain ⟨q, rfl⟩ : ∃ q, n = q + 1 := ⟨n - 1, by omega⟩
    have hgj := hg j
    unfold gC_Trials_stopper_LL
    rw [if_neg (by decide), if_pos rfl, h4, if_neg (by rw [pi_le (by omega) (by omega)]; omega), pi_in (by omega) (by omega), pi_cl (by omega), hx j (by omega), nI_1, sp_bsF]
    simp only [if_true, pl_let]
    by_cases h : g j ≤ m
    · rw [if_pos ((pi_le (by omega) (by omega)).mpr h), if_pos h]
      simp only [Option.bind_some]
      exact ih (j + 1) q m b (by omega) (by omega) hm
    · rw [if_neg (by rw [pi_le (by omega) (by omega)]; exact h), if_neg h]
      simp only [Option.bind_some]
      exact ih (j + 1) q (g j) (nI j) (by omega) (by omega) hgj
theorem rM_stpI {nc nk tb : Nat} {zC zM : sg_M} (hr : rl_road nc nk zC zM) (hn : rl_now nc nk tb zC zM) (b : Int32) {x m : Nat} (hx : x < nc) (hm : m ≤ 8) : ∀ (k c n : Nat), c + k = nk → k + 30 ≤ n → gM_stopper_LL n 20 b (nI m) (nI x) (nI (sp_cnt (fun c => sp_st nc zM c (sp_wet0 zM)) x c)) (nI c) zM = gM_stopper_LL (n - k - 1) 6 (if sp_cnt (fun c => sp_st nc zM c (sp_wet0 zM)) x nk ≤ m then b else nI x) (nI (if sp_cnt (fun c => sp_st nc zM c (sp_wet0 zM)) x nk ≤ m then m else sp_cnt (fun c => sp_st nc zM c (sp_wet0 zM)) x nk)) (nI (x + 1)) 0 0 zM := by
  have h1 := hr.1
  have h2 := hr.2.1
  have h5 := hr.2.2.2.2.2.2.1
  intro k
  induction k with
  | zero =>
    intro c n hc hn1
    obtain ⟨q, rfl⟩ : ∃ q, n = q + 1 := ⟨n - 1, by omega⟩
    have e : c = nk := by omega
    subst e
    have hle := sp_cnt_le (fun c => sp_st nc zM c (sp_wet0 zM)) x c
    conv => lhs; unfold gM_stopper_LL
    rw [if_neg (by decide), if_pos rfl, h5, if_pos (Int32.le_refl _), nI_1]
    simp only [pl_let]
    rw [show q + 1 - 0 - 1 = q by omega]
    by_cases h : sp_cnt (fun c => sp_st nc zM c (sp_wet0 zM)) x c ≤ m
    · have h' : nI (sp_cnt (fun c => sp_st nc zM c (sp_wet0 zM)) x c) ≤ nI m := (pi_le (by omega) (by omega)).mpr h
      simp only [if_pos h, if_pos h']
    · have h' : ¬ nI (sp_cnt (fun c => sp_st nc zM c (sp_wet0 zM)) x c) ≤ nI m := by rw [pi_le (by omega) (by omega)]; exact h
      simp only [if_neg h, if_neg h']
  | succ k ih =>
    intro c n hc hn1
    obtain ⟨q, rfl⟩ : ∃ q, n = q + 1 := ⟨n - 1, by omega⟩
    have hle := sp_cnt_le (fun c => sp_st nc zM c (sp_wet0 zM)) x c
    conv => lhs; unfold gM_stopper_LL
    rw [if_neg (by decide), if_pos rfl, h5, if_neg (by rw [pi_le (by omega) (by omega)]; omega), rM_wet hr hn q (by omega), nI_1]
    simp only [Option.bind_some]
    rw [rM_stopOf hr (c := c) (by omega) _ q (by omega)]
    simp only [Option.bind_some, pl_let]
    have e : nI (sp_cnt (fun c => sp_st nc zM c (sp_wet0 zM)) x c) + (if sp_stop nc zM c (zM.2 5 (80 + c)) (sp_wet0 zM) = nI x then (1 : Int32) else 0) = nI (sp_cnt (fun c => sp_st nc zM c (sp_wet0 zM)) x (c + 1)) := by
      rw [sp_cnt]
      show _ = nI (_ + if sp_stop nc zM c (zM.2 5 (80 + c)) (sp_wet0 zM) = nI x then 1 else 0)
      split
      · exact nI_1 _
      · rw [Int32.add_zero, Nat.add_zero]
    rw [e, ih (c + 1) q (by omega) (by omega), show q + 1 - (k + 1) - 1 = q - k - 1 by omega]
theorem rM_stpL {nc nk tb : Nat} {zC zM : sg_M} (hr : rl_road nc nk zC zM) (hn : rl_now nc nk tb zC zM) : ∀ (k j n m : Nat) (b : Int32), j + k = nc → 12 * k + 60 ≤ n → m ≤ 8 → gM_stopper_LL n 6 b (nI m) (nI j) 0 0 zM = some (sp_bsF (fun x => sp_cnt (fun c => sp_st nc zM c (sp_wet0 zM)) x nk) k j b m) := by
  have h1 := hr.1
  have h2 := hr.2.1
  have h5 := hr.2.2.2.2.1
  intro k
  induction k with
  | zero =>
    intro j n m b hj hn1 _
    obtain ⟨q, rfl⟩ : ∃ q, n = q + 1 := ⟨n - 1, by omega⟩
    unfold gM_stopper_LL
    rw [if_pos rfl, h5, if_pos ((pi_le (by omega) (by omega)).mpr (by omega))]
    rfl
  | succ k ih =>
    intro j n m b hj hn1 hm
    obtain ⟨q, rfl⟩ : ∃ q, n = q + 1 := ⟨n - 1, by omega⟩
    have hle := sp_cnt_le (fun c => sp_st nc zM c (sp_wet0 zM)) j nk
    conv => lhs; unfold gM_stopper_LL
    rw [if_pos rfl, h5, if_neg (by rw [pi_le (by omega) (by omega)]; omega), show gM_stopper_LL q 20 b (nI m) (nI j) 0 0 zM = gM_stopper_LL q 20 b (nI m) (nI j) (nI (sp_cnt (fun c => sp_st nc zM c (sp_wet0 zM)) j 0)) (nI 0) zM from rfl, rM_stpI hr hn b (x := j) (by omega) hm nk 0 q (by omega) (by omega), ih (j + 1) (q - nk - 1) _ _ (by omega) (by omega) (by split <;> omega), sp_bsF]
    by_cases h : sp_cnt (fun c => sp_st nc zM c (sp_wet0 zM)) j nk ≤ m
    · simp only [if_pos h]
    · simp only [if_neg h]
theorem rr_stopper {nc nk tb : Nat} {zC zM : sg_M} (hr : rl_road nc nk zC zM) (hn : rl_now nc nk tb zC zM) (n : Nat) (hn1 : 400 ≤ n) : ∃ v z', gC_Trials_stopper n zC = some (v, z') ∧ sc_C zC z' ∧ gM_stopper n zM = some v := by
  have h1 := hr.1
  have h2 := hr.2.1
  obtain ⟨z1, e1, f1, f2, f3⟩ := fl_26 0 n (by omega) zC
  have hz1 : sc_C zC z1 := ⟨fun k _ => by rw [f1], fun a ha => f2 a (by omega)⟩
  obtain ⟨z2, g1, g2, g3⟩ := rC_stp1 hr hn nk 0 n z1 (by omega) (by omega) hz1 (fun x hx => by rw [f3 x hx]; rfl)
  unfold gC_Trials_stopper gM_stopper
  rw [e1]
  simp only [Option.bind_some]
  rw [show gC_Trials_stopper_LL n 10 0 0 0 z1 = gC_Trials_stopper_LL n 10 (nI 0) 0 0 z1 from rfl, g3]
  have h8 := rC_stp2 hr g1 (fun x => sp_cnt (fun c => sp_st nc zM c (sp_wet0 zM)) x nk) (fun x => Nat.le_trans (sp_cnt_le _ x nk) h2) g2 nc 0 (n - nk - 1) 0 (-1) (by omega) (by omega) (by omega)
  have h9 := rM_stpL hr hn nc 0 n 0 (-1) (by omega) (by omega) (by omega)
  exact ⟨_, z2, h8, g1, h9⟩
/-! heard -/
def rl_heard (nk nh : Nat) (zC zM : sg_M) : Prop := nh ≤ 6 ∧ zC.1 19 = nI nh ∧ zM.1 13 = nI nh ∧ ∀ k, k < nh → zC.2 20 k = zM.2 14 k ∧ zC.2 21 k = zM.2 15 k ∧ ∃ c, c < nk ∧ zM.2 14 k = nI c
theorem sc_heard {nk nh : Nat} {zC zM zC' zM' : sg_M} (hC : sc_C zC zC') (hM : sc_M zM zM') (h : rl_heard nk nh zC zM) : rl_heard nk nh zC' zM' := by
  unfold rl_heard at *
  rw [hC.1 19 (by omega), hC.2 20 (by omega), hC.2 21 (by omega), hM.1 13, hM.2 14 (by omega), hM.2 15 (by omega)]
  exact h
def sp_cbF (nc : Nat) (zM : sg_M) (wet : Int32) : Nat → Nat → Bool
  | 0, _ => true
  | k + 1, j => decide (sp_st nc zM (zM.2 14 j).toNatClampNeg wet = zM.2 15 j) && sp_cbF nc zM wet k (j + 1)
def sp_b (b : Bool) : Int32 := if b then 1 else 0
theorem rC_cbL {nc nk tb nh : Nat} {zC zM : sg_M} (hr : rl_road nc nk zC zM) (hn : rl_now nc nk tb zC zM) (hh : rl_heard nk nh zC zM) (wet : Int32) : ∀ (k j n : Nat), j + k = nh → k + 30 ≤ n → gC_Guesses_isAsHeard_L n wet (nI j) zC = some (sp_b (sp_cbF nc zM wet k j)) := by
  have h2 := hr.2.1
  obtain ⟨g1, g2, g3, g4⟩ := hh
  intro k
  induction k with
  | zero =>
    intro j n hj hn1
    obtain ⟨m, rfl⟩ : ∃ m, n = m + 1 := ⟨n - 1, by omega⟩
    unfold gC_Guesses_isAsHeard_L
    rw [g2, if_pos ((pi_le (by omega) (by omega)).mpr (by omega))]
    rfl
  | succ k ih =>
    intro j n hj hn1
    obtain ⟨m, rfl⟩ : ∃ m, n = m + 1 := ⟨n - 1, by omega⟩
    obtain ⟨e1, e2, c, hc, e3⟩ := g4 j (by omega)
    have hl := hn.2.2.2.2.1 c hc
    have e4 : ¬ gC_Road_hasCart (nI c) zC = 0 := by
      unfold gC_Road_hasCart
      rw [if_neg (pi_nneg (by omega)), hr.2.2.2.2.2.1, if_neg (by rw [pi_le (by omega) (by omega)]; omega)]
      decide
    unfold gC_Guesses_isAsHeard_L
    rw [g2, if_neg (by rw [pi_le (by omega) (by omega)]; omega), pi_in (by omega) (by omega), pi_cl (by omega), e1, e2, e3, nI_1]
    simp only [if_true, pl_let]
    rw [if_neg e4, pi_in (by omega) (by omega), pi_cl (by omega), hl, rC_stopOf hr hn hc _ _ m (by omega), sp_cbF, e3, pi_cl (by omega)]
    simp only [if_true, Option.bind_some]
    by_cases h : sp_stop nc zM c (zM.2 5 (80 + c)) wet = zM.2 15 j
    · have h' : sp_st nc zM c wet = zM.2 15 j := h
      rw [if_pos h, ih (j + 1) m (by omega) (by omega)]
      simp [h']
    · have h' : ¬ sp_st nc zM c wet = zM.2 15 j := h
      rw [if_neg h]
      simp [h', sp_b]
theorem rM_cbL {nc nk nh : Nat} {zC zM : sg_M} (hr : rl_road nc nk zC zM) (hh : rl_heard nk nh zC zM) (wet : Int32) : ∀ (k j n : Nat), j + k = nh → k + 30 ≤ n → gM_couldBe_L n wet 1 (nI j) zM = some (sp_b (sp_cbF nc zM wet k j)) := by
  have h2 := hr.2.1
  obtain ⟨g1, g2, g3, g4⟩ := hh
  intro k
  induction k with
  | zero =>
    intro j n hj hn1
    obtain ⟨m, rfl⟩ : ∃ m, n = m + 1 := ⟨n - 1, by omega⟩
    unfold gM_couldBe_L
    rw [g3, if_pos ((pi_le (by omega) (by omega)).mpr (by omega)), if_pos (by decide)]
    rfl
  | succ k ih =>
    intro j n hj hn1
    obtain ⟨m, rfl⟩ : ∃ m, n = m + 1 := ⟨n - 1, by omega⟩
    obtain ⟨e1, e2, c, hc, e3⟩ := g4 j (by omega)
    unfold gM_couldBe_L
    rw [g3, if_neg (by rw [pi_le (by omega) (by omega)]; omega), if_neg (by decide), pi_in (by omega) (by omega), pi_cl (by omega), e3, rM_stopOf hr hc _ m (by omega), nI_1, sp_cbF, e3, pi_cl (by omega)]
    simp only [if_true, Option.bind_some, pl_let]
    by_cases h : sp_stop nc zM c (zM.2 5 (80 + c)) wet = zM.2 15 j
    · have h' : sp_st nc zM c wet = zM.2 15 j := h
      rw [if_pos h, ih (j + 1) m (by omega) (by omega)]
      simp [h']
    · have h' : ¬ sp_st nc zM c wet = zM.2 15 j := h
      rw [if_neg h]
      simp only [h', decide_false, Bool.false_and, sp_b, Bool.false_eq_true, if_false]
      obtain ⟨m, rfl⟩ : ∃ q, m = q + 1 := ⟨m - 1, by omega⟩
      unfold gM_couldBe_L
      rw [g3]
      split
      · rw [if_pos (by decide)]
      · rw [if_pos rfl, if_pos (by decide)]
def sp_cb (nc nh : Nat) (zM : sg_M) (w : Nat) : Bool := sp_cbF nc zM (nI w) nh 0
theorem vp_nar_b (b : Bool) : vp_nar .boolean (sp_b b) = sp_b b := by cases b <;> decide
theorem sp_b_0 (b : Bool) : sp_b b = 0 ↔ b = false := by cases b <;> decide
/-- the rains: counting on, class and reference -/
theorem rr_rainsL {nc nk tb nh : Nat} {zC zM : sg_M} (hr : rl_road nc nk zC zM) (hn : rl_now nc nk tb zC zM) (hh : rl_heard nk nh zC zM) (w : Int32) : ∀ (k j n : Nat) (z : sg_M), j + k = 61 → k + 60 ≤ n → sc_C zC z → (∀ i, i < j → z.2 24 i = sp_b (sp_cb nc nh zM i)) → ∃ z', gC_Guesses_fittingRains_L n (nI j) z = some z' ∧ sc_C zC z' ∧ (∀ i, i < 61 → z'.2 24 i = sp_b (sp_cb nc nh zM i)) ∧ gM_rains_L n w (z.1 21) (z.1 22) (z.1 23) (nI j) zM = some (gC_Span_answer_39 w z') := by
  have hnh := hh.1
  intro k
  induction k with
  | zero =>
    intro j n z hj hn1 hz hf
    obtain ⟨m, rfl⟩ : ∃ m, n = m + 1 := ⟨n - 1, by omega⟩
    unfold gC_Guesses_fittingRains_L gM_rains_L gC_Span_answer_39
    rw [if_pos ((pi_l60 (by omega)).mpr (by omega)), if_pos ((pi_l60 (by omega)).mpr (by omega))]
    refine ⟨z, rfl, hz, fun i hi => hf i (by omega), ?_⟩
    split
    · rfl
    · split <;> rfl
  | succ k ih =>
    intro j n z hj hn1 hz hf
    obtain ⟨m, rfl⟩ : ∃ m, n = m + 1 := ⟨n - 1, by omega⟩
    have hr' := sc_road hz (sc_M.rf zM) hr
    have hn' := sc_now hz (sc_M.rf zM) hn
    have hh' := sc_heard hz (sc_M.rf zM) hh
    unfold gC_Guesses_fittingRains_L gM_rains_L
    have e : ¬ (60 : Int32) < nI j := by rw [pi_l60 (by omega)]; omega
    rw [if_neg e, if_neg e, show gC_Guesses_isAsHeard m (nI j) z = gC_Guesses_isAsHeard_L m (nI j) (nI 0) z from rfl, rC_cbL hr' hn' hh' (nI j) nh 0 m (by omega) (by omega), show gM_couldBe m (nI j) zM = gM_couldBe_L m (nI j) 1 (nI 0) zM from rfl, rM_cbL hr hh (nI j) nh 0 m (by omega) (by omega), nI_1, pi_in (by omega) (by omega)]
    simp only [Option.bind_some, if_true, pl_let]
    rw [vp_nar_b, show sp_cbF nc zM (nI j) nh 0 = sp_cb nc nh zM j from rfl, pw_2, if_pos rfl, pi_cl (by omega), pu_at, if_pos rfl]
    obtain ⟨z1, hz1⟩ : ∃ z1, z1 = sg_w z 24 (nI j) (sp_b (sp_cb nc nh zM j)) := ⟨_, rfl⟩
    rw [← hz1]
    have hf1 : ∀ (z2 : sg_M), z2.2 24 = z1.2 24 → ∀ i, i < j + 1 → z2.2 24 i = sp_b (sp_cb nc nh zM i) := by
      intro z2 h2 i hi
      rw [h2, hz1, pw_2, if_pos rfl, pi_cl (by omega), pu_at]
      by_cases hij : i = j
      · rw [if_pos hij, hij]
      · rw [if_neg hij]; exact hf i (by omega)
    have hs1 : sc_C zC z1 := by
      rw [hz1]
      exact sc_C.tr hz ⟨fun _ _ => rfl, fun a ha => by rw [pw_2, if_neg (by omega)]⟩
    have hz10 : z1.1 = z.1 := by rw [hz1]; rfl
    by_cases hb : sp_cb nc nh zM j = false
    · rw [if_pos ((sp_b_0 _).mpr hb), if_pos ((sp_b_0 _).mpr hb)]
      simp only [Option.bind_some]
      have := ih (j + 1) m z1 (by omega) (by omega) hs1 (hf1 _ rfl)
      rw [hz10] at this
      exact this
    · rw [if_neg (fun q => hb ((sp_b_0 _).mp q)), if_neg (fun q => hb ((sp_b_0 _).mp q))]
      unfold gC_Span_put_39
      simp only [pl_let, Option.bind_some]
      by_cases h0 : z.1 21 = 0
      · have h0' : z1.1 21 = 0 := by rw [hz10]; exact h0
        simp only [if_pos h0, if_pos h0']
        have := ih (j + 1) m (sg_s (sg_s (sg_s z1 22 (nI j)) 23 (nI j)) 21 ((sg_s (sg_s z1 22 (nI j)) 23 (nI j)).1 21 + 1)) (by omega) (by omega) (sc_C.tr hs1 ⟨fun q hq => by simp only [ps_1]; rw [if_neg (by omega), if_neg (by omega), if_neg (by omega)], fun _ _ => rfl⟩) (hf1 _ (by simp only [ps_2]))
        simpa [ps_1, hz10] using this
      · have h0' : ¬ z1.1 21 = 0 := by rw [hz10]; exact h0
        simp only [if_neg h0, if_neg h0']
        have := ih (j + 1) m (sg_s (sg_s z1 23 (nI j)) 21 ((sg_s z1 23 (nI j)).1 21 + 1)) (by omega) (by omega) (sc_C.tr hs1 ⟨fun q hq => by simp only [ps_1]; rw [if_neg (by omega), if_neg (by omega)], fun _ _ => rfl⟩) (hf1 _ (by simp only [ps_2]))
        simpa [ps_1, hz10] using this
theorem rr_rains {nc nk tb nh : Nat} {zC zM : sg_M} (hr : rl_road nc nk zC zM) (hn : rl_now nc nk tb zC zM) (hh : rl_heard nk nh zC zM) (w : Int32) (n : Nat) (hn1 : 200 ≤ n) : ∃ z', gC_Guesses_fittingRains n zC = some z' ∧ sc_C zC z' ∧ (∀ i, i < 61 → z'.2 24 i = sp_b (sp_cb nc nh zM i)) ∧ gM_rains_L n w 0 (-1) (-1) 0 zM = some (gC_Span_answer_39 w z') := by
  unfold gC_Guesses_fittingRains gC_Span_clear_39
  simp only [pl_let, Option.bind_some]
  exact rr_rainsL hr hn hh w 61 0 n _ (by omega) (by omega) ⟨fun q hq => by simp only [ps_1]; rw [if_neg (by omega), if_neg (by omega), if_neg (by omega)], fun _ _ => rfl⟩ (fun i hi => by omega)
/-! send: class and reference, side by side -/
theorem sc_st {zM zm : sg_M} (h : sc_M zM zm) (nc c : Nat) (wet : Int32) : sp_st nc zm c wet = sp_st nc zM c wet := by
  have hf : ∀ (ld : Int32) (k j : Nat), sp_stopF zm c ld wet k j = sp_stopF zM c ld wet k j := by
    intro ld k
    induction k with
    | zero => intro j; rfl
    | succ k ih =>
      intro j
      rw [sp_stopF, sp_stopF, ih]
      unfold sp_ground sp_weight
      rw [h.2 0 (by omega), h.2 2 (by omega), h.2 5 (by omega)]
  unfold sp_st sp_stop
  rw [h.2 5 (by omega)]
  exact hf _ _ _
theorem sc_cb {zM zm : sg_M} (h : sc_M zM zm) (nc nh w : Nat) : sp_cb nc nh zm w = sp_cb nc nh zM w := by
  have hf : ∀ (k j : Nat), sp_cbF nc zm (nI w) k j = sp_cbF nc zM (nI w) k j := by
    intro k
    induction k with
    | zero => intro j; rfl
    | succ k ih =>
      intro j
      rw [sp_cbF, sp_cbF, ih, h.2 14 (by omega), h.2 15 (by omega), sc_st h]
  exact hf nh 0
theorem rr_partL {nc nk tb nh : Nat} {zC zM : sg_M} (hr : rl_road nc nk zC zM) (hn : rl_now nc nk tb zC zM) (hh : rl_heard nk nh zC zM) {c : Nat} (hc : c < nk) : ∀ (k j n n2 : Nat) (a : Int32) (z zm : sg_M), j + k = 61 → k + 60 ≤ n → k + 60 ≤ n2 → sc_C zC z → sc_M zM zm → (∀ i, i < 61 → z.2 24 i = sp_b (sp_cb nc nh zM i)) → (∀ i, i < 21 → z.2 25 i = zm.2 16 i) → ∃ v z' zm', gC_Guesses_greatestPart_L n (nI c) a (nI j) z = some (v, z') ∧ gM_greatestPart_LL n2 25 (nI c) a (nI j) zm = some (v, zm') ∧ sc_C zC z' ∧ sc_M zM zm' ∧ (∀ i, i < 61 → z'.2 24 i = sp_b (sp_cb nc nh zM i)) := by
  have h1 := hr.1
  have h2 := hr.2.1
  have hnh := hh.1
  intro k
  induction k with
  | zero =>
    intro j n n2 a z zm hj hn1 hn2 hz hm hf ha
    obtain ⟨m, rfl⟩ : ∃ m, n = m + 1 := ⟨n - 1, by omega⟩
    obtain ⟨m2, rfl⟩ : ∃ m, n2 = m + 1 := ⟨n2 - 1, by omega⟩
    unfold gC_Guesses_greatestPart_L gM_greatestPart_LL
    rw [if_pos ((pi_l60 (by omega)).mpr (by omega)), if_neg (show ¬ (25 : Nat) = 4 by decide), if_pos rfl, if_pos ((pi_l60 (by omega)).mpr (by omega))]
    exact ⟨a, z, zm, rfl, rfl, hz, hm, hf⟩
  | succ k ih =>
    intro j n n2 a z zm hj hn1 hn2 hz hm hf ha
    obtain ⟨m, rfl⟩ : ∃ m, n = m + 1 := ⟨n - 1, by omega⟩
    obtain ⟨m2, rfl⟩ : ∃ m, n2 = m + 1 := ⟨n2 - 1, by omega⟩
    have hr' := sc_road hz hm hr
    have hn' := sc_now hz hm hn
    have hh' := sc_heard hz hm hh
    have hl := hn'.2.2.2.2.1 c hc
    unfold gC_Guesses_greatestPart_L gM_greatestPart_LL
    have e : ¬ (60 : Int32) < nI j := by rw [pi_l60 (by omega)]; omega
    rw [if_neg e, if_neg (show ¬ (25 : Nat) = 4 by decide), if_pos rfl, if_neg e, pi_in (j := j) (by omega) (by omega), pi_cl (by omega), hf j (by omega), show gM_couldBe m2 (nI j) zm = gM_couldBe_L m2 (nI j) 1 (nI 0) zm from rfl, rM_cbL hr' hh' (nI j) nh 0 m2 (by omega) (by omega), show sp_cbF nc zm (nI j) nh 0 = sp_cb nc nh zm j from rfl, sc_cb hm, nI_1]
    simp only [if_true, Option.bind_some]
    by_cases hb : sp_cb nc nh zM j = false
    · rw [if_pos ((sp_b_0 _).mpr hb), if_pos ((sp_b_0 _).mpr hb)]
      simp only [Option.bind_some]
      exact ih (j + 1) m m2 a z zm (by omega) (by omega) (by omega) hz hm hf ha
    · rw [if_neg (fun q => hb ((sp_b_0 _).mp q)), if_neg (fun q => hb ((sp_b_0 _).mp q)), pi_in (j := c) (by omega) (by omega), pi_cl (by omega), hl, rC_stopOf hr' hn' hc _ _ m (by omega), rM_stopOf hr' hc _ m2 (by omega)]
      simp only [if_true, Option.bind_some, pl_let]
      have hp : ∃ p, p < 21 ∧ sp_stop nc zm c (zm.2 5 (80 + c)) (nI j) + 1 = nI p := by
        rcases sp_stop_rng nc zm c (zm.2 5 (80 + c)) (nI j) with h | ⟨x, hx, h⟩
        · exact ⟨0, by omega, by rw [h]; decide⟩
        · exact ⟨x + 1, by omega, by rw [h, nI_1]⟩
      obtain ⟨p, hp, hp2⟩ := hp
      rw [hp2, pi_in (by omega) (by omega), pi_cl (by omega)]
      simp only [pw_2, if_true, eq_self_iff_true, pi_cl (show p < 2147483648 by omega), pu_at, ha p hp, Option.bind_some]
      have e2 : sg_max a (zm.2 16 p + 1) = if zm.2 16 p + 1 ≤ a then a else zm.2 16 p + 1 := by
        unfold sg_max
        by_cases h : zm.2 16 p + 1 ≤ a
        · rw [if_pos h, if_neg (Int32.not_lt.mpr h)]
        · rw [if_neg h, if_pos (Int32.not_le.mp h)]
      have e3 : (if zm.2 16 p + 1 ≤ a then some a else some (zm.2 16 p + 1)) = some (if zm.2 16 p + 1 ≤ a then a else zm.2 16 p + 1) := by split <;> rfl
      rw [e2, e3]
      simp only [Option.bind_some]
      refine ih (j + 1) m m2 _ _ _ (by omega) (by omega) (by omega) (sc_C.tr hz ⟨fun _ _ => rfl, fun q hq => by rw [pw_2, if_neg (by omega)]⟩) (sc_M.tr hm ⟨fun _ => rfl, fun q hq => by rw [pw_2, if_neg (by omega)]⟩) (fun i hi => by rw [pw_2, if_neg (by decide)]; exact hf i hi) (fun i hi => ?_)
      rw [pw_2, pw_2, if_pos rfl, if_pos rfl, pi_cl (by omega), pu_at, pu_at]
      by_cases hip : i = p
      · rw [if_pos hip, if_pos hip]
      · rw [if_neg hip, if_neg hip]; exact ha i hi
theorem rM_part0 {c : Nat} (a : Int32) : ∀ (k j n : Nat) (zm : sg_M), j + k = 21 → k + 2 ≤ n → ∃ zm', gM_greatestPart_LL n 4 (nI c) a (nI j) zm = gM_greatestPart_LL (n - k - 1) 25 (nI c) a 0 zm' ∧ sc_M zm zm' ∧ (∀ i, j ≤ i → i < 21 → zm'.2 16 i = 0) ∧ ∀ i, i < j → zm'.2 16 i = zm.2 16 i := by
  intro k
  induction k with
  | zero =>
    intro j n zm hj hn1
    obtain ⟨m, rfl⟩ : ∃ m, n = m + 1 := ⟨n - 1, by omega⟩
    refine ⟨zm, ?_, sc_M.rf zm, fun i h1 h2 => by omega, fun _ _ => rfl⟩
    conv => lhs; unfold gM_greatestPart_LL
    rw [if_pos rfl, if_pos (show (21 : Int32) ≤ nI j from (pi_le (a := 21) (by omega) (by omega)).mpr (by omega))]
    rfl
  | succ k ih =>
    intro j n zm hj hn1
    obtain ⟨m, rfl⟩ : ∃ m, n = m + 1 := ⟨n - 1, by omega⟩
    obtain ⟨zm', g1, g2, g3, g4⟩ := ih (j + 1) m (sg_w zm 16 (nI j) 0) (by omega) (by omega)
    refine ⟨zm', ?_, sc_M.tr (y := sg_w zm 16 (nI j) 0) ⟨fun _ => rfl, fun q hq => by rw [pw_2, if_neg (by omega)]⟩ g2, fun i h1 h2 => ?_, fun i hi => ?_⟩
    · conv => lhs; unfold gM_greatestPart_LL
      rw [if_pos rfl, if_neg (show ¬ (21 : Int32) ≤ nI j from fun h => by have := (pi_le (a := 21) (b := j) (by omega) (by omega)).mp h; omega), pi_in (by omega) (by omega), nI_1]
      simp only [if_true, pl_let]
      rw [g1, show m + 1 - (k + 1) - 1 = m - k - 1 by omega]
    · rcases Nat.lt_or_ge j i with q | q
      · exact g3 i (by omega) h2
      · have e : i = j := by omega
        rw [g4 i (by omega), pw_2, if_pos rfl, pi_cl (by omega), pu_at, if_pos e]
    · rw [g4 i (by omega), pw_2, if_pos rfl, pi_cl (by omega), pu_at, if_neg (by omega)]
theorem rr_part {nc nk tb nh : Nat} {zC zM : sg_M} (hr : rl_road nc nk zC zM) (hn : rl_now nc nk tb zC zM) (hh : rl_heard nk nh zC zM) {c : Nat} (hc : c < nk) (n : Nat) (hn1 : 300 ≤ n) (z zm : sg_M) (hz : sc_C zC z) (hm : sc_M zM zm) (hf : ∀ i, i < 61 → z.2 24 i = sp_b (sp_cb nc nh zM i)) : ∃ v z' zm', gC_Guesses_greatestPart n (nI c) z = some (v, z') ∧ gM_greatestPart n (nI c) zm = some (v, zm') ∧ sc_C zC z' ∧ sc_M zM zm' ∧ (∀ i, i < 61 → z'.2 24 i = sp_b (sp_cb nc nh zM i)) := by
  obtain ⟨z1, e1, f1, f2, f3⟩ := fl_38 0 n (by omega) z
  obtain ⟨zm1, g1, g2, g3, -⟩ := rM_part0 (c := c) 0 21 0 n zm (by omega) (by omega)
  unfold gC_Guesses_greatestPart gM_greatestPart
  rw [e1, show gM_greatestPart_LL n 4 (nI c) 0 0 zm = gM_greatestPart_LL n 4 (nI c) 0 (nI 0) zm from rfl, g1]
  simp only [Option.bind_some]
  exact rr_partL hr hn hh hc 61 0 n (n - 21 - 1) 0 z1 zm1 (by omega) (by omega) (by omega) (sc_C.tr hz ⟨fun k _ => by rw [f1], fun q hq => f2 q (by omega)⟩) (sc_M.tr hm g2) (fun i hi => by rw [f2 24 (by decide)]; exact hf i hi) (fun i hi => by rw [f3 i hi, g3 i (by omega) hi])
theorem rr_sendL {nc nk tb nh : Nat} {zC zM : sg_M} (hr : rl_road nc nk zC zM) (hn : rl_now nc nk tb zC zM) (hh : rl_heard nk nh zC zM) : ∀ (k j n : Nat) (a b : Int32) (z zm : sg_M), j + k = nk → k + 310 ≤ n → sc_C zC z → sc_M zM zm → (∀ i, i < 61 → z.2 24 i = sp_b (sp_cb nc nh zM i)) → ∃ v z' zm', gC_Guesses_bestToSend_L n a b (nI j) z = some (v, z') ∧ gM_send_L n b a (nI j) zm = some (v, zm') ∧ sc_C zC z' ∧ sc_M zM zm' := by
  have h2 := hr.2.1
  intro k
  induction k with
  | zero =>
    intro j n a b z zm hj hn1 hz hm hf
    obtain ⟨m, rfl⟩ : ∃ m, n = m + 1 := ⟨n - 1, by omega⟩
    have hr' := sc_road hz hm hr
    unfold gC_Guesses_bestToSend_L gM_send_L
    have e : nI nk ≤ nI j := (pi_le (by omega) (by omega)).mpr (by omega)
    rw [hr'.2.2.2.2.2.1, hr'.2.2.2.2.2.2.1, if_pos e, if_pos e]
    exact ⟨b, z, zm, rfl, rfl, hz, hm⟩
  | succ k ih =>
    intro j n a b z zm hj hn1 hz hm hf
    obtain ⟨m, rfl⟩ : ∃ m, n = m + 1 := ⟨n - 1, by omega⟩
    have hr' := sc_road hz hm hr
    unfold gC_Guesses_bestToSend_L gM_send_L
    have e : ¬ nI nk ≤ nI j := by rw [pi_le (by omega) (by omega)]; omega
    obtain ⟨v, z', zm', g1, g2, g3, g4, g5⟩ := rr_part hr hn hh (c := j) (by omega) m (by omega) z zm hz hm hf
    rw [hr'.2.2.2.2.2.1, hr'.2.2.2.2.2.2.1, if_neg e, if_neg e, g1, g2, nI_1]
    simp only [Option.bind_some, pl_let]
    by_cases h : a ≤ v
    · simp only [if_pos h]
      exact ih (j + 1) m a b z' zm' (by omega) (by omega) g3 g4 g5
    · simp only [if_neg h]
      exact ih (j + 1) m v (nI j) z' zm' (by omega) (by omega) g3 g4 g5
theorem rr_send {nc nk tb nh : Nat} {zC zM : sg_M} (hr : rl_road nc nk zC zM) (hn : rl_now nc nk tb zC zM) (hh : rl_heard nk nh zC zM) (n : Nat) (hn1 : 400 ≤ n) : ∃ v z' zm', gC_send n zC = some (v, z') ∧ gM_send n zM = some (v, zm') ∧ sc_C zC z' ∧ sc_M zM zm' := by
  have h2 := hr.2.1
  obtain ⟨z1, e1, f1, f2, f3⟩ := rr_rains hr hn hh 0 n (by omega)
  unfold gC_send gC_Guesses_bestToSend gM_send gM_rains
  have e9 : ¬ gM_in (0 : Int32).toInt64 (0 : Int64) (2 : Int64) = 0 := by decide
  rw [e1, if_neg e9, f3]
  simp only [Option.bind_some, pl_let]
  obtain ⟨v, z', zm', g1, g2, g3, g4⟩ := rr_sendL hr hn hh nk 0 n (gC_Span_answer_39 0 z1) (-1) z1 zM (by omega) (by omega) f1 (sc_M.rf zM) f2
  rw [show gC_Guesses_bestToSend_L n (gC_Span_answer_39 0 z1) (-1) 0 z1 = gC_Guesses_bestToSend_L n (gC_Span_answer_39 0 z1) (-1) (nI 0) z1 from rfl, g1, show gM_send_L n (-1) (gC_Span_answer_39 0 z1) 0 zM = gM_send_L n (-1) (gC_Span_answer_39 0 z1) (nI 0) zM from rfl, g2]
  exact ⟨v, z', zm', rfl, rfl, g3, g4⟩
