/-! fills -/
theorem fl_L16 (v : Int32) : ∀ (k j n : Nat) (z : sg_M), j + k = 20 → k < n → ∃ z', gC_Arrays_fill_16_L n v (nI j) 20 z = some z' ∧ z'.1 = z.1 ∧ (∀ a, a ≠ 11 → z'.2 a = z.2 a) ∧ (∀ i, j ≤ i → i < 20 → z'.2 11 i = v) ∧ (∀ i, i < j → z'.2 11 i = z.2 11 i) := by
  intro k
  induction k with
  | zero =>
    intro j n z hj hn
    obtain ⟨m, rfl⟩ : ∃ m, n = m + 1 := ⟨n - 1, by omega⟩
    unfold gC_Arrays_fill_16_L
    rw [if_pos (show (20 : Int32) ≤ nI j from (pi_le (a := 20) (by omega) (by omega)).mpr (by omega))]
    exact ⟨z, rfl, rfl, fun _ _ => rfl, fun i h1 h2 => by omega, fun _ _ => rfl⟩
  | succ k ih =>
    intro j n z hj hn
    obtain ⟨m, rfl⟩ : ∃ m, n = m + 1 := ⟨n - 1, by omega⟩
    unfold gC_Arrays_fill_16_L
    rw [if_neg (show ¬ (20 : Int32) ≤ nI j from fun h => by have := (pi_le (a := 20) (b := j) (by omega) (by omega)).mp h; omega), pi_in (by omega) (by omega), nI_1]
    simp only [if_true, pl_let]
    obtain ⟨z', h1, h2, h3, h4, h5⟩ := ih (j + 1) m (sg_w z 11 (nI j) v) (by omega) (by omega)
    refine ⟨z', h1, h2.trans (pw_1 ..), fun a ha => (h3 a ha).trans (by rw [pw_2, if_neg ha]), fun i hi1 hi2 => ?_, fun i hi => ?_⟩
    · rcases Nat.lt_or_ge j i with q | q
      · exact h4 i (by omega) hi2
      · have e : i = j := by omega
        subst e
        rw [h5 i (by omega), pw_2, if_pos rfl, pi_cl (by omega), pu_at, if_pos rfl]
    · rw [h5 i (by omega), pw_2, if_pos rfl, pi_cl (by omega), pu_at, if_neg (by omega)]
theorem fl_16 (v : Int32) (n : Nat) (hn : 30 ≤ n) (z : sg_M) : ∃ z', gC_Arrays_fill_16 n v z = some z' ∧ z'.1 = z.1 ∧ (∀ a, a ≠ 11 → z'.2 a = z.2 a) ∧ ∀ i, i < 20 → z'.2 11 i = v := by
  obtain ⟨z', h1, h2, h3, h4, -⟩ := fl_L16 v 20 0 n z (by omega) (by omega)
  exact ⟨z', h1, h2, h3, fun i hi => h4 i (by omega) hi⟩
theorem fl_L17 (v : Int32) : ∀ (k j n : Nat) (z : sg_M), j + k = 20 → k < n → ∃ z', gC_Arrays_fill_17_L n v (nI j) 20 z = some z' ∧ z'.1 = z.1 ∧ (∀ a, a ≠ 12 → z'.2 a = z.2 a) ∧ (∀ i, j ≤ i → i < 20 → z'.2 12 i = v) ∧ (∀ i, i < j → z'.2 12 i = z.2 12 i) := by
  intro k
  induction k with
  | zero =>
    intro j n z hj hn
    obtain ⟨m, rfl⟩ : ∃ m, n = m + 1 := ⟨n - 1, by omega⟩
    unfold gC_Arrays_fill_17_L
    rw [if_pos (show (20 : Int32) ≤ nI j from (pi_le (a := 20) (by omega) (by omega)).mpr (by omega))]
    exact ⟨z, rfl, rfl, fun _ _ => rfl, fun i h1 h2 => by omega, fun _ _ => rfl⟩
  | succ k ih =>
    intro j n z hj hn
    obtain ⟨m, rfl⟩ : ∃ m, n = m + 1 := ⟨n - 1, by omega⟩
    unfold gC_Arrays_fill_17_L
    rw [if_neg (show ¬ (20 : Int32) ≤ nI j from fun h => by have := (pi_le (a := 20) (b := j) (by omega) (by omega)).mp h; omega), pi_in (by omega) (by omega), nI_1]
    simp only [if_true, pl_let]
    obtain ⟨z', h1, h2, h3, h4, h5⟩ := ih (j + 1) m (sg_w z 12 (nI j) v) (by omega) (by omega)
    refine ⟨z', h1, h2.trans (pw_1 ..), fun a ha => (h3 a ha).trans (by rw [pw_2, if_neg ha]), fun i hi1 hi2 => ?_, fun i hi => ?_⟩
    · rcases Nat.lt_or_ge j i with q | q
      · exact h4 i (by omega) hi2
      · have e : i = j := by omega
        subst e
        rw [h5 i (by omega), pw_2, if_pos rfl, pi_cl (by omega), pu_at, if_pos rfl]
    · rw [h5 i (by omega), pw_2, if_pos rfl, pi_cl (by omega), pu_at, if_neg (by omega)]
theorem fl_17 (v : Int32) (n : Nat) (hn : 30 ≤ n) (z : sg_M) : ∃ z', gC_Arrays_fill_17 n v z = some z' ∧ z'.1 = z.1 ∧ (∀ a, a ≠ 12 → z'.2 a = z.2 a) ∧ ∀ i, i < 20 → z'.2 12 i = v := by
  obtain ⟨z', h1, h2, h3, h4, -⟩ := fl_L17 v 20 0 n z (by omega) (by omega)
  exact ⟨z', h1, h2, h3, fun i hi => h4 i (by omega) hi⟩
theorem fl_L18 (v : Int32) : ∀ (k j n : Nat) (z : sg_M), j + k = 20 → k < n → ∃ z', gC_Arrays_fill_18_L n v (nI j) 20 z = some z' ∧ z'.1 = z.1 ∧ (∀ a, a ≠ 13 → z'.2 a = z.2 a) ∧ (∀ i, j ≤ i → i < 20 → z'.2 13 i = v) ∧ (∀ i, i < j → z'.2 13 i = z.2 13 i) := by
  intro k
  induction k with
  | zero =>
    intro j n z hj hn
    obtain ⟨m, rfl⟩ : ∃ m, n = m + 1 := ⟨n - 1, by omega⟩
    unfold gC_Arrays_fill_18_L
    rw [if_pos (show (20 : Int32) ≤ nI j from (pi_le (a := 20) (by omega) (by omega)).mpr (by omega))]
    exact ⟨z, rfl, rfl, fun _ _ => rfl, fun i h1 h2 => by omega, fun _ _ => rfl⟩
  | succ k ih =>
    intro j n z hj hn
    obtain ⟨m, rfl⟩ : ∃ m, n = m + 1 := ⟨n - 1, by omega⟩
    unfold gC_Arrays_fill_18_L
    rw [if_neg (show ¬ (20 : Int32) ≤ nI j from fun h => by have := (pi_le (a := 20) (b := j) (by omega) (by omega)).mp h; omega), pi_in (by omega) (by omega), nI_1]
    simp only [if_true, pl_let]
    obtain ⟨z', h1, h2, h3, h4, h5⟩ := ih (j + 1) m (sg_w z 13 (nI j) v) (by omega) (by omega)
    refine ⟨z', h1, h2.trans (pw_1 ..), fun a ha => (h3 a ha).trans (by rw [pw_2, if_neg ha]), fun i hi1 hi2 => ?_, fun i hi => ?_⟩
    · rcases Nat.lt_or_ge j i with q | q
      · exact h4 i (by omega) hi2
      · have e : i = j := by omega
        subst e
        rw [h5 i (by omega), pw_2, if_pos rfl, pi_cl (by omega), pu_at, if_pos rfl]
    · rw [h5 i (by omega), pw_2, if_pos rfl, pi_cl (by omega), pu_at, if_neg (by omega)]
theorem fl_18 (v : Int32) (n : Nat) (hn : 30 ≤ n) (z : sg_M) : ∃ z', gC_Arrays_fill_18 n v z = some z' ∧ z'.1 = z.1 ∧ (∀ a, a ≠ 13 → z'.2 a = z.2 a) ∧ ∀ i, i < 20 → z'.2 13 i = v := by
  obtain ⟨z', h1, h2, h3, h4, -⟩ := fl_L18 v 20 0 n z (by omega) (by omega)
  exact ⟨z', h1, h2, h3, fun i hi => h4 i (by omega) hi⟩
theorem fl_L19 (v : Int32) : ∀ (k j n : Nat) (z : sg_M), j + k = 20 → k < n → ∃ z', gC_Arrays_fill_19_L n v (nI j) 20 z = some z' ∧ z'.1 = z.1 ∧ (∀ a, a ≠ 14 → z'.2 a = z.2 a) ∧ (∀ i, j ≤ i → i < 20 → z'.2 14 i = v) ∧ (∀ i, i < j → z'.2 14 i = z.2 14 i) := by
  intro k
  induction k with
  | zero =>
    intro j n z hj hn
    obtain ⟨m, rfl⟩ : ∃ m, n = m + 1 := ⟨n - 1, by omega⟩
    unfold gC_Arrays_fill_19_L
    rw [if_pos (show (20 : Int32) ≤ nI j from (pi_le (a := 20) (by omega) (by omega)).mpr (by omega))]
    exact ⟨z, rfl, rfl, fun _ _ => rfl, fun i h1 h2 => by omega, fun _ _ => rfl⟩
  | succ k ih =>
    intro j n z hj hn
    obtain ⟨m, rfl⟩ : ∃ m, n = m + 1 := ⟨n - 1, by omega⟩
    unfold gC_Arrays_fill_19_L
    rw [if_neg (show ¬ (20 : Int32) ≤ nI j from fun h => by have := (pi_le (a := 20) (b := j) (by omega) (by omega)).mp h; omega), pi_in (by omega) (by omega), nI_1]
    simp only [if_true, pl_let]
    obtain ⟨z', h1, h2, h3, h4, h5⟩ := ih (j + 1) m (sg_w z 14 (nI j) v) (by omega) (by omega)
    refine ⟨z', h1, h2.trans (pw_1 ..), fun a ha => (h3 a ha).trans (by rw [pw_2, if_neg ha]), fun i hi1 hi2 => ?_, fun i hi => ?_⟩
    · rcases Nat.lt_or_ge j i with q | q
      · exact h4 i (by omega) hi2
      · have e : i = j := by omega
        subst e
        rw [h5 i (by omega), pw_2, if_pos rfl, pi_cl (by omega), pu_at, if_pos rfl]
    · rw [h5 i (by omega), pw_2, if_pos rfl, pi_cl (by omega), pu_at, if_neg (by omega)]
theorem fl_19 (v : Int32) (n : Nat) (hn : 30 ≤ n) (z : sg_M) : ∃ z', gC_Arrays_fill_19 n v z = some z' ∧ z'.1 = z.1 ∧ (∀ a, a ≠ 14 → z'.2 a = z.2 a) ∧ ∀ i, i < 20 → z'.2 14 i = v := by
  obtain ⟨z', h1, h2, h3, h4, -⟩ := fl_L19 v 20 0 n z (by omega) (by omega)
  exact ⟨z', h1, h2, h3, fun i hi => h4 i (by omega) hi⟩
theorem fl_L21 (v : Int32) : ∀ (k j n : Nat) (z : sg_M), j + k = 8 → k < n → ∃ z', gC_Arrays_fill_21_L n v (nI j) 8 z = some z' ∧ z'.1 = z.1 ∧ (∀ a, a ≠ 16 → z'.2 a = z.2 a) ∧ (∀ i, j ≤ i → i < 8 → z'.2 16 i = v) ∧ (∀ i, i < j → z'.2 16 i = z.2 16 i) := by
  intro k
  induction k with
  | zero =>
    intro j n z hj hn
    obtain ⟨m, rfl⟩ : ∃ m, n = m + 1 := ⟨n - 1, by omega⟩
    unfold gC_Arrays_fill_21_L
    rw [if_pos (show (8 : Int32) ≤ nI j from (pi_le (a := 8) (by omega) (by omega)).mpr (by omega))]
    exact ⟨z, rfl, rfl, fun _ _ => rfl, fun i h1 h2 => by omega, fun _ _ => rfl⟩
  | succ k ih =>
    intro j n z hj hn
    obtain ⟨m, rfl⟩ : ∃ m, n = m + 1 := ⟨n - 1, by omega⟩
    unfold gC_Arrays_fill_21_L
    rw [if_neg (show ¬ (8 : Int32) ≤ nI j from fun h => by have := (pi_le (a := 8) (b := j) (by omega) (by omega)).mp h; omega), pi_in (by omega) (by omega), nI_1]
    simp only [if_true, pl_let]
    obtain ⟨z', h1, h2, h3, h4, h5⟩ := ih (j + 1) m (sg_w z 16 (nI j) v) (by omega) (by omega)
    refine ⟨z', h1, h2.trans (pw_1 ..), fun a ha => (h3 a ha).trans (by rw [pw_2, if_neg ha]), fun i hi1 hi2 => ?_, fun i hi => ?_⟩
    · rcases Nat.lt_or_ge j i with q | q
      · exact h4 i (by omega) hi2
      · have e : i = j := by omega
        subst e
        rw [h5 i (by omega), pw_2, if_pos rfl, pi_cl (by omega), pu_at, if_pos rfl]
    · rw [h5 i (by omega), pw_2, if_pos rfl, pi_cl (by omega), pu_at, if_neg (by omega)]
theorem fl_21 (v : Int32) (n : Nat) (hn : 30 ≤ n) (z : sg_M) : ∃ z', gC_Arrays_fill_21 n v z = some z' ∧ z'.1 = z.1 ∧ (∀ a, a ≠ 16 → z'.2 a = z.2 a) ∧ ∀ i, i < 8 → z'.2 16 i = v := by
  obtain ⟨z', h1, h2, h3, h4, -⟩ := fl_L21 v 8 0 n z (by omega) (by omega)
  exact ⟨z', h1, h2, h3, fun i hi => h4 i (by omega) hi⟩
theorem fl_L22 (v : Int32) : ∀ (k j n : Nat) (z : sg_M), j + k = 8 → k < n → ∃ z', gC_Arrays_fill_22_L n v (nI j) 8 z = some z' ∧ z'.1 = z.1 ∧ (∀ a, a ≠ 17 → z'.2 a = z.2 a) ∧ (∀ i, j ≤ i → i < 8 → z'.2 17 i = v) ∧ (∀ i, i < j → z'.2 17 i = z.2 17 i) := by
  intro k
  induction k with
  | zero =>
    intro j n z hj hn
    obtain ⟨m, rfl⟩ : ∃ m, n = m + 1 := ⟨n - 1, by omega⟩
    unfold gC_Arrays_fill_22_L
    rw [if_pos (show (8 : Int32) ≤ nI j from (pi_le (a := 8) (by omega) (by omega)).mpr (by omega))]
    exact ⟨z, rfl, rfl, fun _ _ => rfl, fun i h1 h2 => by omega, fun _ _ => rfl⟩
  | succ k ih =>
    intro j n z hj hn
    obtain ⟨m, rfl⟩ : ∃ m, n = m + 1 := ⟨n - 1, by omega⟩
    unfold gC_Arrays_fill_22_L
    rw [if_neg (show ¬ (8 : Int32) ≤ nI j from fun h => by have := (pi_le (a := 8) (b := j) (by omega) (by omega)).mp h; omega), pi_in (by omega) (by omega), nI_1]
    simp only [if_true, pl_let]
    obtain ⟨z', h1, h2, h3, h4, h5⟩ := ih (j + 1) m (sg_w z 17 (nI j) v) (by omega) (by omega)
    refine ⟨z', h1, h2.trans (pw_1 ..), fun a ha => (h3 a ha).trans (by rw [pw_2, if_neg ha]), fun i hi1 hi2 => ?_, fun i hi => ?_⟩
    · rcases Nat.lt_or_ge j i with q | q
      · exact h4 i (by omega) hi2
      · have e : i = j := by omega
        subst e
        rw [h5 i (by omega), pw_2, if_pos rfl, pi_cl (by omega), pu_at, if_pos rfl]
    · rw [h5 i (by omega), pw_2, if_pos rfl, pi_cl (by omega), pu_at, if_neg (by omega)]
theorem fl_22 (v : Int32) (n : Nat) (hn : 30 ≤ n) (z : sg_M) : ∃ z', gC_Arrays_fill_22 n v z = some z' ∧ z'.1 = z.1 ∧ (∀ a, a ≠ 17 → z'.2 a = z.2 a) ∧ ∀ i, i < 8 → z'.2 17 i = v := by
  obtain ⟨z', h1, h2, h3, h4, -⟩ := fl_L22 v 8 0 n z (by omega) (by omega)
  exact ⟨z', h1, h2, h3, fun i hi => h4 i (by omega) hi⟩
theorem fl_L26 (v : Int32) : ∀ (k j n : Nat) (z : sg_M), j + k = 20 → k < n → ∃ z', gC_Arrays_fill_26_L n v (nI j) 20 z = some z' ∧ z'.1 = z.1 ∧ (∀ a, a ≠ 18 → z'.2 a = z.2 a) ∧ (∀ i, j ≤ i → i < 20 → z'.2 18 i = v) ∧ (∀ i, i < j → z'.2 18 i = z.2 18 i) := by
  intro k
  induction k with
  | zero =>
    intro j n z hj hn
    obtain ⟨m, rfl⟩ : ∃ m, n = m + 1 := ⟨n - 1, by omega⟩
    unfold gC_Arrays_fill_26_L
    rw [if_pos (show (20 : Int32) ≤ nI j from (pi_le (a := 20) (by omega) (by omega)).mpr (by omega))]
    exact ⟨z, rfl, rfl, fun _ _ => rfl, fun i h1 h2 => by omega, fun _ _ => rfl⟩
  | succ k ih =>
    intro j n z hj hn
    obtain ⟨m, rfl⟩ : ∃ m, n = m + 1 := ⟨n - 1, by omega⟩
    unfold gC_Arrays_fill_26_L
    rw [if_neg (show ¬ (20 : Int32) ≤ nI j from fun h => by have := (pi_le (a := 20) (b := j) (by omega) (by omega)).mp h; omega), pi_in (by omega) (by omega), nI_1]
    simp only [if_true, pl_let]
    obtain ⟨z', h1, h2, h3, h4, h5⟩ := ih (j + 1) m (sg_w z 18 (nI j) v) (by omega) (by omega)
    refine ⟨z', h1, h2.trans (pw_1 ..), fun a ha => (h3 a ha).trans (by rw [pw_2, if_neg ha]), fun i hi1 hi2 => ?_, fun i hi => ?_⟩
    · rcases Nat.lt_or_ge j i with q | q
      · exact h4 i (by omega) hi2
      · have e : i = j := by omega
        subst e
        rw [h5 i (by omega), pw_2, if_pos rfl, pi_cl (by omega), pu_at, if_pos rfl]
    · rw [h5 i (by omega), pw_2, if_pos rfl, pi_cl (by omega), pu_at, if_neg (by omega)]
theorem fl_26 (v : Int32) (n : Nat) (hn : 30 ≤ n) (z : sg_M) : ∃ z', gC_Arrays_fill_26 n v z = some z' ∧ z'.1 = z.1 ∧ (∀ a, a ≠ 18 → z'.2 a = z.2 a) ∧ ∀ i, i < 20 → z'.2 18 i = v := by
  obtain ⟨z', h1, h2, h3, h4, -⟩ := fl_L26 v 20 0 n z (by omega) (by omega)
  exact ⟨z', h1, h2, h3, fun i hi => h4 i (by omega) hi⟩
theorem fl_L38 (v : Int32) : ∀ (k j n : Nat) (z : sg_M), j + k = 21 → k < n → ∃ z', gC_Arrays_fill_38_L n v (nI j) 21 z = some z' ∧ z'.1 = z.1 ∧ (∀ a, a ≠ 25 → z'.2 a = z.2 a) ∧ (∀ i, j ≤ i → i < 21 → z'.2 25 i = v) ∧ (∀ i, i < j → z'.2 25 i = z.2 25 i) := by
  intro k
  induction k with
  | zero =>
    intro j n z hj hn
    obtain ⟨m, rfl⟩ : ∃ m, n = m + 1 := ⟨n - 1, by omega⟩
    unfold gC_Arrays_fill_38_L
    rw [if_pos (show (21 : Int32) ≤ nI j from (pi_le (a := 21) (by omega) (by omega)).mpr (by omega))]
    exact ⟨z, rfl, rfl, fun _ _ => rfl, fun i h1 h2 => by omega, fun _ _ => rfl⟩
  | succ k ih =>
    intro j n z hj hn
    obtain ⟨m, rfl⟩ : ∃ m, n = m + 1 := ⟨n - 1, by omega⟩
    unfold gC_Arrays_fill_38_L
    rw [if_neg (show ¬ (21 : Int32) ≤ nI j from fun h => by have := (pi_le (a := 21) (b := j) (by omega) (by omega)).mp h; omega), pi_in (by omega) (by omega), nI_1]
    simp only [if_true, pl_let]
    obtain ⟨z', h1, h2, h3, h4, h5⟩ := ih (j + 1) m (sg_w z 25 (nI j) v) (by omega) (by omega)
    refine ⟨z', h1, h2.trans (pw_1 ..), fun a ha => (h3 a ha).trans (by rw [pw_2, if_neg ha]), fun i hi1 hi2 => ?_, fun i hi => ?_⟩
    · rcases Nat.lt_or_ge j i with q | q
      · exact h4 i (by omega) hi2
      · have e : i = j := by omega
        subst e
        rw [h5 i (by omega), pw_2, if_pos rfl, pi_cl (by omega), pu_at, if_pos rfl]
    · rw [h5 i (by omega), pw_2, if_pos rfl, pi_cl (by omega), pu_at, if_neg (by omega)]
theorem fl_38 (v : Int32) (n : Nat) (hn : 30 ≤ n) (z : sg_M) : ∃ z', gC_Arrays_fill_38 n v z = some z' ∧ z'.1 = z.1 ∧ (∀ a, a ≠ 25 → z'.2 a = z.2 a) ∧ ∀ i, i < 21 → z'.2 25 i = v := by
  obtain ⟨z', h1, h2, h3, h4, -⟩ := fl_L38 v 21 0 n z (by omega) (by omega)
  exact ⟨z', h1, h2, h3, fun i hi => h4 i (by omega) hi⟩
theorem fl_L43 (v : Int32) : ∀ (k j n : Nat) (z : sg_M), j + k = 2 → k < n → ∃ z', gC_Arrays_fill_43_L n v (nI j) 2 z = some z' ∧ z'.1 = z.1 ∧ (∀ a, a ≠ 28 → z'.2 a = z.2 a) ∧ (∀ i, j ≤ i → i < 2 → z'.2 28 i = v) ∧ (∀ i, i < j → z'.2 28 i = z.2 28 i) := by
  intro k
  induction k with
  | zero =>
    intro j n z hj hn
    obtain ⟨m, rfl⟩ : ∃ m, n = m + 1 := ⟨n - 1, by omega⟩
    unfold gC_Arrays_fill_43_L
    rw [if_pos (show (2 : Int32) ≤ nI j from (pi_le (a := 2) (by omega) (by omega)).mpr (by omega))]
    exact ⟨z, rfl, rfl, fun _ _ => rfl, fun i h1 h2 => by omega, fun _ _ => rfl⟩
  | succ k ih =>
    intro j n z hj hn
    obtain ⟨m, rfl⟩ : ∃ m, n = m + 1 := ⟨n - 1, by omega⟩
    unfold gC_Arrays_fill_43_L
    rw [if_neg (show ¬ (2 : Int32) ≤ nI j from fun h => by have := (pi_le (a := 2) (b := j) (by omega) (by omega)).mp h; omega), pi_in (by omega) (by omega), nI_1]
    simp only [if_true, pl_let]
    obtain ⟨z', h1, h2, h3, h4, h5⟩ := ih (j + 1) m (sg_w z 28 (nI j) v) (by omega) (by omega)
    refine ⟨z', h1, h2.trans (pw_1 ..), fun a ha => (h3 a ha).trans (by rw [pw_2, if_neg ha]), fun i hi1 hi2 => ?_, fun i hi => ?_⟩
    · rcases Nat.lt_or_ge j i with q | q
      · exact h4 i (by omega) hi2
      · have e : i = j := by omega
        subst e
        rw [h5 i (by omega), pw_2, if_pos rfl, pi_cl (by omega), pu_at, if_pos rfl]
    · rw [h5 i (by omega), pw_2, if_pos rfl, pi_cl (by omega), pu_at, if_neg (by omega)]
theorem fl_43 (v : Int32) (n : Nat) (hn : 30 ≤ n) (z : sg_M) : ∃ z', gC_Arrays_fill_43 n v z = some z' ∧ z'.1 = z.1 ∧ (∀ a, a ≠ 28 → z'.2 a = z.2 a) ∧ ∀ i, i < 2 → z'.2 28 i = v := by
  obtain ⟨z', h1, h2, h3, h4, -⟩ := fl_L43 v 2 0 n z (by omega) (by omega)
  exact ⟨z', h1, h2, h3, fun i hi => h4 i (by omega) hi⟩
