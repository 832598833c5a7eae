/-! what is to be seen along the road -/
def sp_town (zM : sg_M) (x : Nat) : Int32 := if zM.2 5 (20 + x) = -1 then 0 else 1
theorem rM_town {zM : sg_M} {x : Nat} (hx : x < 20) : gM_isTown (nI x) zM = some (sp_town zM x) := by
  unfold gM_isTown sp_town
  rw [pi_20, pi_in (by omega) (by omega), pi_cl (by omega)]
  simp only [if_true]
  split <;> rfl
theorem rC_town {nc nk tb : Nat} {zC zM : sg_M} (hn : rl_now nc nk tb zC zM) {x : Nat} (hx : x < nc ∧ nc ≤ 20) : gC_State_hasTown (nI x) zC = some (sp_town zM x) := by
  unfold gC_State_hasTown sp_town
  rw [pi_in (by omega) (by omega), pi_cl (by omega), hn.2.1 x hx.1]
  simp only [if_true]
  split <;> rfl
theorem sp_town_01 (zM : sg_M) (x : Nat) : sp_town zM x = 0 ∨ sp_town zM x = 1 := by
  unfold sp_town
  split
  · exact Or.inl rfl
  · exact Or.inr rfl
theorem sp_town_0 {zM : sg_M} {x : Nat} : sp_town zM x = 0 ↔ zM.2 5 (20 + x) = -1 := by
  unfold sp_town
  by_cases h : zM.2 5 (20 + x) = -1
  · simp [h]
  · simp [h]
theorem rr_folkL {nc nk tb : Nat} {zC zM : sg_M} (hr : rl_road nc nk zC zM) (hn : rl_now nc nk tb zC zM) : ∀ (k j n : Nat) (acc : Int32), j + k = nc → k < n → ∃ v, gC_Survey_folkOfAll_L n acc (nI j) zC = some v ∧ gM_allFolk_L n acc (nI j) zM = some v := by
  have h1 := hr.1
  have h4 := hr.2.2.2.1
  have h5 := hr.2.2.2.2.1
  intro k
  induction k with
  | zero =>
    intro j n acc hj hn1
    obtain ⟨m, rfl⟩ : ∃ m, n = m + 1 := ⟨n - 1, by omega⟩
    unfold gC_Survey_folkOfAll_L gM_allFolk_L
    have e : nI nc ≤ nI j := (pi_le (by omega) (by omega)).mpr (by omega)
    rw [h4, h5, if_pos e, if_pos e]
    exact ⟨acc, rfl, rfl⟩
  | succ k ih =>
    intro j n acc hj hn1
    obtain ⟨m, rfl⟩ : ∃ m, n = m + 1 := ⟨n - 1, by omega⟩
    unfold gC_Survey_folkOfAll_L gM_allFolk_L
    have e : ¬ nI nc ≤ nI j := by rw [pi_le (by omega) (by omega)]; omega
    have hf := hn.2.2.2.1 j (by omega)
    rw [h4, h5, if_neg e, if_neg e, rC_town hn (by omega), rM_town (by omega), nI_1, pi_in (j := j) (by omega) (by omega), pi_60, pi_in (j := 60 + j) (by omega) (by omega), pi_cl (by omega), pi_cl (by omega), hf]
    simp only [Option.bind_some, pl_let, if_true]
    rcases sp_town_01 zM j with h | h
    · simp only [h, if_true, Option.bind_some, Int32.add_zero]
      exact ih (j + 1) m acc (by omega) (by omega)
    · simp only [h, Option.bind_some]
      exact ih (j + 1) m _ (by omega) (by omega)
theorem rr_folk {nc nk tb : Nat} {zC zM : sg_M} (hr : rl_road nc nk zC zM) (hn : rl_now nc nk tb zC zM) (n : Nat) (hn1 : 21 ≤ n) : ∃ v, gC_Survey_folkOfAll n zC = some v ∧ gM_allFolk n zM = some v := by
  have h1 := hr.1
  exact rr_folkL hr hn nc 0 n 0 (by omega) (by omega)
theorem rr_longL {nc nk tb : Nat} {zC zM : sg_M} (hr : rl_road nc nk zC zM) (hn : rl_now nc nk tb zC zM) : ∀ (k j n : Nat) (a b : Int32), j + k = nc → k < n → ∃ v, gC_Survey_longestWay_L n a b (nI j) zC = some v ∧ gM_longest_L n a b (nI j) zM = some v := by
  have h1 := hr.1
  have h4 := hr.2.2.2.1
  have h5 := hr.2.2.2.2.1
  intro k
  induction k with
  | zero =>
    intro j n a b hj hn1
    obtain ⟨m, rfl⟩ : ∃ m, n = m + 1 := ⟨n - 1, by omega⟩
    unfold gC_Survey_longestWay_L gM_longest_L
    have e : nI nc ≤ nI j := (pi_le (by omega) (by omega)).mpr (by omega)
    rw [h4, h5, if_pos e, if_pos e]
    exact ⟨a, rfl, rfl⟩
  | succ k ih =>
    intro j n a b hj hn1
    obtain ⟨m, rfl⟩ : ∃ m, n = m + 1 := ⟨n - 1, by omega⟩
    unfold gC_Survey_longestWay_L gM_longest_L
    have e : ¬ nI nc ≤ nI j := by rw [pi_le (by omega) (by omega)]; omega
    rw [h4, h5, if_neg e, if_neg e, rC_town hn (by omega), rM_town (by omega), nI_1]
    simp only [Option.bind_some, pl_let]
    generalize (if sp_town zM j = 0 then b + 1 else (0 : Int32)) = t
    have e2 : sg_max a t = if t ≤ a then a else t := by
      unfold sg_max
      by_cases h : t ≤ a
      · rw [if_pos h, if_neg (Int32.not_lt.mpr h)]
      · rw [if_neg h, if_pos (Int32.not_le.mp h)]
    rw [e2]
    exact ih (j + 1) m _ _ (by omega) (by omega)
theorem rr_long {nc nk tb : Nat} {zC zM : sg_M} (hr : rl_road nc nk zC zM) (hn : rl_now nc nk tb zC zM) (n : Nat) (hn1 : 21 ≤ n) : ∃ v, gC_Survey_longestWay n zC = some v ∧ gM_longest n zM = some v := by
  have h1 := hr.1
  exact rr_longL hr hn nc 0 n 0 0 (by omega) (by omega)
theorem rr_mayorL {nc nk tb : Nat} {zC zM : sg_M} (hr : rl_road nc nk zC zM) (hn : rl_now nc nk tb zC zM) (c : Int32) : ∀ (k j n : Nat), j + k = nc → k < n → ∃ v, gC_Survey_mayorOf_L n c (nI j) zC = some v ∧ gM_mayorOf_L n c (nI j) zM = some v := by
  have h1 := hr.1
  have h4 := hr.2.2.2.1
  have h5 := hr.2.2.2.2.1
  intro k
  induction k with
  | zero =>
    intro j n hj hn1
    obtain ⟨m, rfl⟩ : ∃ m, n = m + 1 := ⟨n - 1, by omega⟩
    unfold gC_Survey_mayorOf_L gM_mayorOf_L
    have e : nI nc ≤ nI j := (pi_le (by omega) (by omega)).mpr (by omega)
    rw [h4, h5, if_pos e, if_pos e]
    exact ⟨_, rfl, rfl⟩
  | succ k ih =>
    intro j n hj hn1
    obtain ⟨m, rfl⟩ : ∃ m, n = m + 1 := ⟨n - 1, by omega⟩
    unfold gC_Survey_mayorOf_L gM_mayorOf_L
    have e : ¬ nI nc ≤ nI j := by rw [pi_le (by omega) (by omega)]; omega
    rw [h4, h5, if_neg e, if_neg e, nI_1, pi_in (j := j) (by omega) (by omega), pi_40, pi_in (j := 40 + j) (by omega) (by omega), pi_cl (by omega), pi_cl (by omega), hn.2.2.1 j (by omega)]
    simp only [if_true]
    split
    · exact ⟨_, rfl, rfl⟩
    · exact ih (j + 1) m (by omega) (by omega)
theorem rr_mayor {nc nk tb : Nat} {zC zM : sg_M} (hr : rl_road nc nk zC zM) (hn : rl_now nc nk tb zC zM) (c : Int32) (n : Nat) (hn1 : 21 ≤ n) : ∃ v, gC_Survey_mayorOf n c zC = some v ∧ gM_mayorOf n c zM = some v := by
  have h1 := hr.1
  exact rr_mayorL hr hn c nc 0 n (by omega) (by omega)
theorem rr_saidL {nc nk tb : Nat} {zC zM : sg_M} (hr : rl_road nc nk zC zM) (hn : rl_now nc nk tb zC zM) (c : Int32) : ∀ (k j n : Nat) (acc : Int32), j + k = nc → k < n → ∃ v, gC_Survey_townsNamed_L n c acc (nI j) zC = some v ∧ gM_said_L n c acc (nI j) zM = some v := by
  have h1 := hr.1
  have h4 := hr.2.2.2.1
  have h5 := hr.2.2.2.2.1
  intro k
  induction k with
  | zero =>
    intro j n acc hj hn1
    obtain ⟨m, rfl⟩ : ∃ m, n = m + 1 := ⟨n - 1, by omega⟩
    unfold gC_Survey_townsNamed_L gM_said_L
    have e : nI nc ≤ nI j := (pi_le (by omega) (by omega)).mpr (by omega)
    rw [h4, h5, if_pos e, if_pos e]
    exact ⟨_, rfl, rfl⟩
  | succ k ih =>
    intro j n acc hj hn1
    obtain ⟨m, rfl⟩ : ∃ m, n = m + 1 := ⟨n - 1, by omega⟩
    unfold gC_Survey_townsNamed_L gM_said_L
    have e : ¬ nI nc ≤ nI j := by rw [pi_le (by omega) (by omega)]; omega
    rw [h4, h5, if_neg e, if_neg e, nI_1, pi_in (j := j) (by omega) (by omega), pi_20, pi_in (j := 20 + j) (by omega) (by omega), pi_cl (by omega), pi_cl (by omega), hn.2.1 j (by omega)]
    simp only [if_true, pl_let]
    have e2 : acc + (if zM.2 5 (20 + j) = c then (1 : Int32) else 0) = if zM.2 5 (20 + j) = c then acc + 1 else acc := by
      split
      · rfl
      · rw [Int32.add_zero]
    rw [e2]
    exact ih (j + 1) m _ (by omega) (by omega)
theorem rr_biggestL {nc nk tb : Nat} {zC zM : sg_M} (hr : rl_road nc nk zC zM) (hn : rl_now nc nk tb zC zM) : ∀ (k j n : Nat) (a b : Int32), j + k = nc → k < n → ((a = -1 ∧ b = -1) ∨ ∃ q, q < 20 ∧ a = nI q ∧ b = zM.2 5 (60 + q)) → ∃ v, gC_Survey_biggest_L n a b (nI j) zC = some v ∧ gM_biggest_L n a (nI j) zM = some v := by
  have h1 := hr.1
  have h4 := hr.2.2.2.1
  have h5 := hr.2.2.2.2.1
  have hfo := (rn_inv hn).2.2.2.1
  intro k
  induction k with
  | zero =>
    intro j n a b hj hn1 _
    obtain ⟨m, rfl⟩ : ∃ m, n = m + 1 := ⟨n - 1, by omega⟩
    unfold gC_Survey_biggest_L gM_biggest_L
    have e : nI nc ≤ nI j := (pi_le (by omega) (by omega)).mpr (by omega)
    rw [h4, h5, if_pos e, if_pos e]
    exact ⟨_, rfl, rfl⟩
  | succ k ih =>
    intro j n a b hj hn1 hab
    obtain ⟨m, rfl⟩ : ∃ m, n = m + 1 := ⟨n - 1, by omega⟩
    unfold gC_Survey_biggest_L gM_biggest_L gC_State_folkAt
    have e : ¬ nI nc ≤ nI j := by rw [pi_le (by omega) (by omega)]; omega
    obtain ⟨fj, hfj, hfj2⟩ := hfo j (by omega)
    rw [h4, h5, if_neg e, if_neg e, rC_town hn (by omega), rM_town (by omega), nI_1, pi_in (j := j) (by omega) (by omega), pi_60, pi_in (j := 60 + j) (by omega) (by omega), pi_cl (by omega), pi_cl (by omega), hn.2.2.2.1 j (by omega), hfj2]
    simp only [Option.bind_some, pl_let, if_true]
    rcases sp_town_01 zM j with h | h
    · simp only [h, if_true, Option.bind_some]
      rcases hab with ⟨ha, hb⟩ | ⟨q, hq, ha, hb⟩
      · rw [if_pos (show (-1 : Int32) ≤ b by rw [hb]; decide)]
        exact ih (j + 1) m a b (by omega) (by omega) (Or.inl ⟨ha, hb⟩)
      · obtain ⟨fq, hfq, hfq2⟩ := hfo q hq
        rw [if_pos (show (-1 : Int32) ≤ b by rw [hb, hfq2]; exact Int32.le_trans (show (-1 : Int32) ≤ 0 by decide) (pi_nneg' (by omega)))]
        exact ih (j + 1) m a b (by omega) (by omega) (Or.inr ⟨q, hq, ha, hb⟩)
    · simp only [h, Option.bind_some, show ¬ (1 : Int32) = 0 by decide, if_false]
      rcases hab with ⟨ha, hb⟩ | ⟨q, hq, ha, hb⟩
      · rw [if_neg (show ¬ nI fj ≤ b by rw [hb]; intro hc; exact absurd (Int32.le_trans (pi_nneg' (a := fj) (by omega)) hc) (by decide)), if_pos (show a < 0 by rw [ha]; decide)]
        simp only [Option.bind_some]
        exact ih (j + 1) m _ _ (by omega) (by omega) (Or.inr ⟨j, by omega, rfl, hfj2.symm⟩)
      · obtain ⟨fq, hfq, hfq2⟩ := hfo q hq
        rw [if_neg (show ¬ a < 0 by rw [ha]; exact pi_nneg (by omega)), ha, pi_60, pi_in (j := 60 + q) (by omega) (by omega), pi_cl (by omega), hb, hfq2]
        simp only [if_true]
        by_cases hle : nI fj ≤ nI fq
        · rw [if_pos hle, if_pos hle]
          simp only [Option.bind_some]
          exact ih (j + 1) m _ _ (by omega) (by omega) (Or.inr ⟨q, hq, rfl, hfq2.symm⟩)
        · rw [if_neg hle, if_neg hle]
          simp only [Option.bind_some]
          exact ih (j + 1) m _ _ (by omega) (by omega) (Or.inr ⟨j, by omega, rfl, hfj2.symm⟩)
theorem rr_biggest {nc nk tb : Nat} {zC zM : sg_M} (hr : rl_road nc nk zC zM) (hn : rl_now nc nk tb zC zM) (n : Nat) (hn1 : 21 ≤ n) : ∃ v, gC_Survey_biggest n zC = some v ∧ gM_biggest n zM = some v := by
  have h1 := hr.1
  exact rr_biggestL hr hn nc 0 n (-1) (-1) (by omega) (by omega) (Or.inl ⟨rfl, rfl⟩)
/-! sets as numbers -/
theorem pb_or (a b : Nat) : nI a ||| nI b = nI (a ||| b) := by
  apply Int32.toBitVec_inj.mp
  simp [nI, Int32.toBitVec_or, BitVec.ofNat_or]
theorem pb_and (a b : Nat) : nI a &&& nI b = nI (a &&& b) := by
  apply Int32.toBitVec_inj.mp
  simp [nI, Int32.toBitVec_and, BitVec.ofNat_and]
theorem pb_smod : ∀ n, n < 32 → ((nI n &&& 31).toBitVec.smod 32).toNat = n := by decide +kernel
theorem pb_shl {j : Nat} (h : j < 31) : sg_shl 1 (nI j) = nI (2 ^ j) := by
  unfold sg_shl
  have e := pk_shlN (n := 1) (nI j &&& 31) j (pb_smod j (by omega)) (by
    have := Nat.pow_lt_pow_right (a := 2) (by omega) h
    omega)
  rw [Nat.one_mul] at e
  exact e
theorem pb_shr {s j : Nat} (h : j < 31) (hs : s < 2147483648) : sg_shr (nI s) (nI j) = nI (s / 2 ^ j) := pk_shrN (by omega) (nI j &&& 31) j (pb_smod j (by omega))
theorem pb_bit {s j : Nat} (h : j < 31) (hs : s < 2147483648) : (sg_shr (nI s) (nI j) &&& 1) = if s.testBit j then 1 else 0 := by
  rw [pb_shr h hs, show (1 : Int32) = nI 1 from rfl, pb_and, show s / 2 ^ j &&& 1 = s / 2 ^ j % 2 from Nat.and_one_is_mod _]
  have h2 : s.testBit j = decide (s / 2 ^ j % 2 = 1) := Nat.testBit_eq_decide_div_mod_eq
  rw [h2]
  rcases Nat.mod_two_eq_zero_or_one (s / 2 ^ j) with h3 | h3
  · rw [h3]; rfl
  · rw [h3]; rfl
/-- the set of j .. j + k - 1 for which p, into s -/
def sp_set (p : Nat → Bool) : Nat → Nat → Nat → Nat
  | 0, _, s => s
  | k + 1, j, s => sp_set p k (j + 1) (if p j then s ||| 2 ^ j else s)
theorem sp_set_bit (p : Nat → Bool) : ∀ (k j s i : Nat), (sp_set p k j s).testBit i = (s.testBit i || (decide (j ≤ i) && decide (i < j + k) && p i)) := by
  intro k
  induction k with
  | zero =>
    intro j s i
    have : (decide (j ≤ i) && decide (i < j + 0) && p i) = false := by
      simp
      intro h1 h2
      omega
    rw [sp_set, this, Bool.or_false]
  | succ k ih =>
    intro j s i
    rw [sp_set, ih]
    by_cases hp : p j = true
    · rw [if_pos hp, Nat.testBit_or, Nat.testBit_two_pow]
      by_cases hij : j = i
      · subst hij
        simp [hp]
      · have e1 : decide (j + 1 ≤ i) = decide (j ≤ i) := by
          by_cases h : j ≤ i
          · simp [h, show j + 1 ≤ i by omega]
          · simp [h, show ¬ j + 1 ≤ i by omega]
        have e2 : decide (i < j + 1 + k) = decide (i < j + (k + 1)) := by rw [show j + 1 + k = j + (k + 1) by omega]
        simp [hij, e1, e2]
    · rw [if_neg hp]
      by_cases hij : j = i
      · subst hij
        simp [hp, show ¬ j + 1 ≤ j by omega]
      · have e1 : decide (j + 1 ≤ i) = decide (j ≤ i) := by
          by_cases h : j ≤ i
          · simp [h, show j + 1 ≤ i by omega]
          · simp [h, show ¬ j + 1 ≤ i by omega]
        have e2 : decide (i < j + 1 + k) = decide (i < j + (k + 1)) := by rw [show j + 1 + k = j + (k + 1) by omega]
        simp [e1, e2]
theorem sp_set_lt (p : Nat → Bool) {N : Nat} : ∀ (k j s : Nat), j + k ≤ N → s < 2 ^ N → sp_set p k j s < 2 ^ N := by
  intro k
  induction k with
  | zero => intro j s _ h; exact h
  | succ k ih =>
    intro j s hj hs
    rw [sp_set]
    refine ih _ _ (by omega) ?_
    split
    · exact Nat.or_lt_two_pow hs (Nat.pow_lt_pow_right (by omega) (by omega))
    · exact hs
def sp_isT (zM : sg_M) (x : Nat) : Bool := decide (¬ zM.2 5 (20 + x) = -1)
def sp_isS (zM : sg_M) (c : Nat) : Bool := decide (¬ zM.2 5 (88 + c) = -1)
def sp_towns (nc : Nat) (zM : sg_M) : Nat := sp_set (sp_isT zM) nc 0 0
def sp_stuck (nk : Nat) (zM : sg_M) : Nat := sp_set (sp_isS zM) nk 0 0
theorem rr_townsL {nc nk tb : Nat} {zC zM : sg_M} (hr : rl_road nc nk zC zM) (hn : rl_now nc nk tb zC zM) : ∀ (k j n s : Nat), j + k = nc → k < n → gC_Survey_townSet_L n (nI s) (nI j) zC = some (nI (sp_set (sp_isT zM) k j s)) ∧ gM_towns_L n (nI s) (nI j) zM = some (nI (sp_set (sp_isT zM) k j s)) := by
  have h1 := hr.1
  have h4 := hr.2.2.2.1
  have h5 := hr.2.2.2.2.1
  intro k
  induction k with
  | zero =>
    intro j n s hj hn1
    obtain ⟨m, rfl⟩ : ∃ m, n = m + 1 := ⟨n - 1, by omega⟩
    unfold gC_Survey_townSet_L gM_towns_L
    have e : nI nc ≤ nI j := (pi_le (by omega) (by omega)).mpr (by omega)
    rw [h4, h5, if_pos e, if_pos e]
    exact ⟨rfl, rfl⟩
  | succ k ih =>
    intro j n s hj hn1
    obtain ⟨m, rfl⟩ : ∃ m, n = m + 1 := ⟨n - 1, by omega⟩
    unfold gC_Survey_townSet_L gM_towns_L
    have e : ¬ nI nc ≤ nI j := by rw [pi_le (by omega) (by omega)]; omega
    rw [h4, h5, if_neg e, if_neg e, rC_town hn (by omega), rM_town (by omega), nI_1, pb_shl (by omega), pb_or]
    simp only [Option.bind_some, pl_let]
    rw [sp_set]
    by_cases h : zM.2 5 (20 + j) = -1
    · have e1 : sp_town zM j = 0 := sp_town_0.mpr h
      have e2 : sp_isT zM j = false := by simp [sp_isT, h]
      rw [e1, e2]
      simp only [if_true, Option.bind_some, Int32.or_zero]
      exact ih (j + 1) m s (by omega) (by omega)
    · have e1 : sp_town zM j = 1 := by unfold sp_town; rw [if_neg h]
      have e2 : sp_isT zM j = true := by simp [sp_isT, h]
      rw [e1, e2]
      simp only [show ¬ (1 : Int32) = 0 by decide, if_false, if_true, Option.bind_some]
      rw [pb_or]
      exact ih (j + 1) m _ (by omega) (by omega)
theorem rr_towns {nc nk tb : Nat} {zC zM : sg_M} (hr : rl_road nc nk zC zM) (hn : rl_now nc nk tb zC zM) (n : Nat) (hn1 : 21 ≤ n) : gC_Survey_townSet n zC = some (nI (sp_towns nc zM)) ∧ gM_towns n zM = some (nI (sp_towns nc zM)) := by
  have h1 := hr.1
  exact rr_townsL hr hn nc 0 n 0 (by omega) (by omega)
theorem rr_stuckL {nc nk tb : Nat} {zC zM : sg_M} (hr : rl_road nc nk zC zM) (hn : rl_now nc nk tb zC zM) : ∀ (k j n s : Nat), j + k = nk → k < n → gC_Survey_stuckSet_L n (nI s) (nI j) zC = some (nI (sp_set (sp_isS zM) k j s)) ∧ gM_stuckOnes_L n (nI s) (nI j) zM = some (nI (sp_set (sp_isS zM) k j s)) := by
  have h1 := hr.2.1
  have h4 := hr.2.2.2.2.2.1
  have h5 := hr.2.2.2.2.2.2.1
  intro k
  induction k with
  | zero =>
    intro j n s hj hn1
    obtain ⟨m, rfl⟩ : ∃ m, n = m + 1 := ⟨n - 1, by omega⟩
    unfold gC_Survey_stuckSet_L gM_stuckOnes_L
    have e : nI nk ≤ nI j := (pi_le (by omega) (by omega)).mpr (by omega)
    rw [h4, h5, if_pos e, if_pos e]
    exact ⟨rfl, rfl⟩
  | succ k ih =>
    intro j n s hj hn1
    obtain ⟨m, rfl⟩ : ∃ m, n = m + 1 := ⟨n - 1, by omega⟩
    unfold gC_Survey_stuckSet_L gM_stuckOnes_L gC_State_isStuck
    have e : ¬ nI nk ≤ nI j := by rw [pi_le (by omega) (by omega)]; omega
    rw [h4, h5, if_neg e, if_neg e, nI_1, pb_shl (by omega), pb_or, pi_in (j := j) (by omega) (by omega), pi_88, pi_in (j := 88 + j) (by omega) (by omega), pi_cl (by omega), pi_cl (by omega), hn.2.2.2.2.2.1 j (by omega)]
    simp only [if_true, pl_let]
    rw [sp_set]
    by_cases h : zM.2 5 (88 + j) = -1
    · have e2 : sp_isS zM j = false := by simp [sp_isS, h]
      rw [e2]
      simp only [h, if_true, Option.bind_some, Int32.or_zero]
      exact ih (j + 1) m s (by omega) (by omega)
    · have e2 : sp_isS zM j = true := by simp [sp_isS, h]
      rw [e2]
      simp only [h, show ¬ (1 : Int32) = 0 by decide, if_false, if_true, Option.bind_some]
      rw [pb_or]
      exact ih (j + 1) m _ (by omega) (by omega)
theorem rr_stuck {nc nk tb : Nat} {zC zM : sg_M} (hr : rl_road nc nk zC zM) (hn : rl_now nc nk tb zC zM) (n : Nat) (hn1 : 21 ≤ n) : gC_Survey_stuckSet n zC = some (nI (sp_stuck nk zM)) ∧ gM_stuckOnes n zM = some (nI (sp_stuck nk zM)) := by
  have h1 := hr.2.1
  exact rr_stuckL hr hn nk 0 n 0 (by omega) (by omega)
