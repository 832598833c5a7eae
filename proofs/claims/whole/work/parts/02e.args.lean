/-! arguments that are looked at -/
theorem pi_rng (x : Int32) : -2147483648 ≤ x.toInt ∧ x.toInt < 2147483648 := ⟨Int32.le_toInt x, Int32.toInt_lt x⟩
theorem pi_ltT (a b : Int32) : a < b ↔ a.toInt < b.toInt := Int32.lt_iff_toInt_lt
theorem pi_leT (a b : Int32) : a ≤ b ↔ a.toInt ≤ b.toInt := Int32.le_iff_toInt_le
theorem pi_eqT (a b : Int32) : a = b ↔ a.toInt = b.toInt := Int32.toInt_inj.symm
theorem pi_bmod {z : Int} (h1 : -2147483648 ≤ z) (h2 : z < 2147483648) : z.bmod (2 ^ 32) = z := by
  rw [Int.bmod_def]
  split <;> omega
theorem pi_addT {x y : Int32} (h1 : -2147483648 ≤ x.toInt + y.toInt) (h2 : x.toInt + y.toInt < 2147483648) : (x + y).toInt = x.toInt + y.toInt := by
  rw [Int32.toInt_add]
  exact pi_bmod h1 h2
theorem pi_subT {x y : Int32} (h1 : -2147483648 ≤ x.toInt - y.toInt) (h2 : x.toInt - y.toInt < 2147483648) : (x - y).toInt = x.toInt - y.toInt := by
  rw [Int32.toInt_sub]
  exact pi_bmod h1 h2
theorem pi_nT {n : Nat} (h : n < 2147483648) : (nI n).toInt = (n : Int) := nI_toInt (by omega)
theorem pi_of {a : Int32} {n : Nat} (h : a.toInt = (n : Int)) : a = nI n := by
  have h2 := pi_rng a
  apply Int32.toInt_inj.mp
  rw [h, pi_nT (by omega)]
theorem pi_cmp_lt (a b : Int32) : lg_cmp a.toInt64 b.toInt64 < 0 ↔ a < b := by
  unfold lg_cmp
  have e1 : a.toInt64 > b.toInt64 ↔ b < a := by
    show b.toInt64 < a.toInt64 ↔ _
    rw [Int64.lt_iff_toInt_lt, Int32.toInt_toInt64, Int32.toInt_toInt64, pi_ltT]
  have e2 : a.toInt64 = b.toInt64 ↔ a = b := by
    rw [← Int64.toInt_inj, Int32.toInt_toInt64, Int32.toInt_toInt64, pi_eqT]
  by_cases h1 : b < a
  · rw [if_pos (e1.mpr h1)]
    constructor
    · intro h; exact absurd h (by decide)
    · intro h; exact absurd h1 (by rw [pi_ltT] at *; omega)
  · rw [if_neg (fun h => h1 (e1.mp h))]
    by_cases h2 : a = b
    · rw [if_pos (e2.mpr h2)]
      constructor
      · intro h; exact absurd h (by decide)
      · intro h; subst h2; exact absurd h (by rw [pi_ltT]; omega)
    · rw [if_neg (fun h => h2 (e2.mp h))]
      constructor
      · intro _
        rw [pi_ltT] at *
        rw [pi_eqT] at h2
        omega
      · intro _; decide
theorem pi_cmp_gt (a b : Int32) : 0 < lg_cmp a.toInt64 b.toInt64 ↔ b < a := by
  unfold lg_cmp
  have e1 : a.toInt64 > b.toInt64 ↔ b < a := by
    show b.toInt64 < a.toInt64 ↔ _
    rw [Int64.lt_iff_toInt_lt, Int32.toInt_toInt64, Int32.toInt_toInt64, pi_ltT]
  by_cases h1 : b < a
  · rw [if_pos (e1.mpr h1)]
    exact ⟨fun _ => h1, fun _ => by decide⟩
  · rw [if_neg (fun h => h1 (e1.mp h))]
    constructor
    · intro h
      split at h <;> exact absurd h (by decide)
    · intro h; exact absurd h h1
theorem pi_gin (a l h : Int32) : gM_in a.toInt64 l.toInt64 h.toInt64 = if a < l then 0 else if h < a then 0 else 1 := by
  unfold gM_in
  by_cases h1 : a < l
  · rw [if_pos ((pi_cmp_lt a l).mpr h1), if_pos h1]
  · rw [if_neg (fun q => h1 ((pi_cmp_lt a l).mp q)), if_neg h1]
    by_cases h2 : h < a
    · rw [if_pos ((pi_cmp_gt a h).mpr h2), if_pos h2]
    · rw [if_neg (fun q => h2 ((pi_cmp_gt a h).mp q)), if_neg h2]
/-- a number between two bounds: the reference's test -/
theorem pi_ginN (a l h : Int32) : (gM_in a.toInt64 l.toInt64 h.toInt64 = 0 ∧ (a < l ∨ (¬ a < l ∧ ¬ a ≤ h))) ∨ (gM_in a.toInt64 l.toInt64 h.toInt64 = 1 ∧ ¬ a < l ∧ a ≤ h) := by
  rw [pi_gin]
  by_cases h1 : a < l
  · rw [if_pos h1]; exact Or.inl ⟨rfl, Or.inl h1⟩
  · rw [if_neg h1]
    by_cases h2 : h < a
    · rw [if_pos h2]; exact Or.inl ⟨rfl, Or.inr ⟨h1, Int32.not_le.mpr h2⟩⟩
    · rw [if_neg h2]; exact Or.inr ⟨rfl, h1, Int32.not_lt.mp h2⟩
theorem rr_cell {nc nk : Nat} {zC zM : sg_M} (hr : rl_road nc nk zC zM) (a : Int32) : (gC_Road_hasCell a zC = 0 ∧ gM_isCell a zM = 0) ∨ ∃ x, x < nc ∧ a = nI x ∧ gC_Road_hasCell a zC = 1 ∧ gM_isCell a zM = 1 := by
  have h1 := hr.1
  unfold gC_Road_hasCell gM_isCell
  rw [hr.2.2.2.1, hr.2.2.2.2.1, show (0 : Int64) = (0 : Int32).toInt64 by decide, pi_gin]
  have e2 : (1 : Int32).toInt = 1 := by decide
  have e1 : (nI nc - 1 : Int32).toInt = (nc : Int) - 1 := by
    rw [pi_subT (by rw [pi_nT (by omega)]; omega) (by rw [pi_nT (by omega)]; omega), pi_nT (by omega), e2]
  have hr2 := pi_rng a
  have e0 : (0 : Int32).toInt = 0 := by decide
  by_cases h2 : a < 0
  · exact Or.inl ⟨if_pos h2, if_pos h2⟩
  · simp only [if_neg h2]
    rw [pi_ltT, e0] at h2
    by_cases h3 : nI nc ≤ a
    · left
      rw [if_pos h3, if_pos (by rw [pi_ltT, e1]; rw [pi_leT, pi_nT (by omega)] at h3; omega)]
      exact ⟨rfl, rfl⟩
    · right
      rw [if_neg h3, if_neg (by rw [pi_ltT, e1]; rw [pi_leT, pi_nT (by omega)] at h3; omega)]
      rw [pi_leT, pi_nT (by omega)] at h3
      exact ⟨a.toInt.toNat, by omega, pi_of (by omega), rfl, rfl⟩
theorem rr_cart {nc nk : Nat} {zC zM : sg_M} (hr : rl_road nc nk zC zM) (a : Int32) : (gC_Road_hasCart a zC = 0 ∧ gM_isCart a zM = 0) ∨ ∃ x, x < nk ∧ a = nI x ∧ gC_Road_hasCart a zC = 1 ∧ gM_isCart a zM = 1 := by
  have h1 := hr.2.1
  unfold gC_Road_hasCart gM_isCart
  rw [hr.2.2.2.2.2.1, hr.2.2.2.2.2.2.1, show (0 : Int64) = (0 : Int32).toInt64 by decide, pi_gin]
  have e2 : (1 : Int32).toInt = 1 := by decide
  have e1 : (nI nk - 1 : Int32).toInt = (nk : Int) - 1 := by
    rw [pi_subT (by rw [pi_nT (by omega)]; omega) (by rw [pi_nT (by omega)]; omega), pi_nT (by omega), e2]
  have hr2 := pi_rng a
  have e0 : (0 : Int32).toInt = 0 := by decide
  by_cases h2 : a < 0
  · exact Or.inl ⟨if_pos h2, if_pos h2⟩
  · simp only [if_neg h2]
    rw [pi_ltT, e0] at h2
    by_cases h3 : nI nk ≤ a
    · left
      rw [if_pos h3, if_pos (by rw [pi_ltT, e1]; rw [pi_leT, pi_nT (by omega)] at h3; omega)]
      exact ⟨rfl, rfl⟩
    · right
      rw [if_neg h3, if_neg (by rw [pi_ltT, e1]; rw [pi_leT, pi_nT (by omega)] at h3; omega)]
      rw [pi_leT, pi_nT (by omega)] at h3
      exact ⟨a.toInt.toNat, by omega, pi_of (by omega), rfl, rfl⟩
theorem pb_ush : ∀ k, k < 32 → (((nI k).toUInt32 &&& Int32.toUInt32 31).toBitVec % 32).toNat = k := by decide +kernel
theorem rr_set {nc nk : Nat} {zC zM : sg_M} (hr : rl_road nc nk zC zM) (a : Int32) : (gC_Road_hasCarts a zC = 0 ∧ gM_isSet a zM = 0) ∨ ∃ x, x < 2 ^ nk ∧ a = nI x ∧ gC_Road_hasCarts a zC = 1 ∧ gM_isSet a zM = 1 := by
  have h1 := hr.2.1
  have hp : 2 ^ nk ≤ 2 ^ 8 := Nat.pow_le_pow_right (by omega) h1
  have hp1 : 1 ≤ 2 ^ nk := Nat.one_le_two_pow
  unfold gC_Road_hasCarts gM_isSet
  rw [hr.2.2.2.2.2.1, hr.2.2.2.2.2.2.1, show (0 : Int64) = (0 : Int32).toInt64 by decide, pi_gin, pb_shl (by omega)]
  have e2 : (1 : Int32).toInt = 1 := by decide
  have e1 : (nI (2 ^ nk) - 1 : Int32).toInt = ((2 ^ nk : Nat) : Int) - 1 := by
    rw [pi_subT (by rw [pi_nT (by omega)]; omega) (by rw [pi_nT (by omega)]; omega), pi_nT (by omega), e2]
  have hr2 := pi_rng a
  have e0 : (0 : Int32).toInt = 0 := by decide
  have hs := pk_ushr a (nI nk) nk (pb_ush nk (by omega))
  have hz : sg_ushr a (nI nk) = 0 ↔ a.toBitVec.toNat / 2 ^ nk = 0 := by
    constructor
    · intro h
      rw [← hs]
      have : (a.toUInt32 >>> ((nI nk).toUInt32 &&& Int32.toUInt32 31)).toInt32 = 0 := h
      rw [this]
      rfl
    · intro h
      rw [← hs] at h
      show (a.toUInt32 >>> ((nI nk).toUInt32 &&& Int32.toUInt32 31)).toInt32 = 0
      apply Int32.toBitVec_inj.mp
      apply BitVec.eq_of_toNat_eq
      rw [h]
      rfl
  have hbv : a.toInt = if a.toBitVec.toNat < 2147483648 then (a.toBitVec.toNat : Int) else (a.toBitVec.toNat : Int) - 4294967296 := by
    have : a.toInt = a.toBitVec.toInt := rfl
    rw [this, BitVec.toInt_eq_toNat_cond]
    split <;> split <;> omega
  have hlt : a.toBitVec.toNat < 4294967296 := a.toBitVec.isLt
  have hdz : a.toBitVec.toNat / 2 ^ nk = 0 ↔ a.toBitVec.toNat < 2 ^ nk := by
    constructor
    · intro h
      rcases Nat.lt_or_ge a.toBitVec.toNat (2 ^ nk) with q | q
      · exact q
      · have := Nat.div_pos q (by omega)
        omega
    · intro h; exact Nat.div_eq_of_lt h
  by_cases h2 : a < 0
  · rw [if_pos h2]
    rw [pi_ltT, e0] at h2
    left
    refine ⟨if_neg (fun q => ?_), rfl⟩
    have := hdz.mp (hz.mp q)
    rw [if_pos (by omega)] at hbv
    omega
  · rw [if_neg h2]
    rw [pi_ltT, e0] at h2
    have hnn : a.toBitVec.toNat < 2147483648 := by
      rcases Nat.lt_or_ge a.toBitVec.toNat 2147483648 with q | q
      · exact q
      · rw [if_neg (by omega)] at hbv
        omega
    rw [if_pos hnn] at hbv
    by_cases h3 : a.toBitVec.toNat < 2 ^ nk
    · right
      rw [if_pos (hz.mpr (hdz.mpr h3)), if_neg (by rw [pi_ltT, e1]; omega)]
      exact ⟨a.toBitVec.toNat, h3, pi_of hbv, rfl, rfl⟩
    · left
      rw [if_neg (fun q => h3 (hdz.mp (hz.mp q))), if_pos (by rw [pi_ltT, e1]; omega)]
      exact ⟨rfl, rfl⟩
/-- a number of 0 .. N -/
theorem pi_upto {a : Int32} {N : Nat} (hN : N < 2147483648) (h1 : ¬ a < 0) (h2 : a ≤ nI N) : ∃ k, k ≤ N ∧ a = nI k := by
  have hr2 := pi_rng a
  have e0 : (0 : Int32).toInt = 0 := by decide
  rw [pi_ltT, e0] at h1
  rw [pi_leT, pi_nT hN] at h2
  exact ⟨a.toInt.toNat, by omega, pi_of (by omega)⟩
