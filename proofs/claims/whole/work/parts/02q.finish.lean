/-! the road as it was read becomes the road -/
theorem rM_cp0 {N : Nat} (hN : N ≤ 20) : ∀ (k j n : Nat) (z : sg_M), j + k = N → k < n → ∃ z', gM_copyRow_8_1_L n (nI N) (nI j) z = some z' ∧ z'.1 = z.1 ∧ (∀ a, a ≠ 0 → z'.2 a = z.2 a) ∧ (∀ i, j ≤ i → i < N → z'.2 0 i = z.2 7 i) ∧ (∀ i, i < j → z'.2 0 i = z.2 0 i) := by
  intro k
  induction k with
  | zero =>
    intro j n z hj hn
    obtain ⟨m, rfl⟩ : ∃ m, n = m + 1 := ⟨n - 1, by omega⟩
    unfold gM_copyRow_8_1_L
    rw [if_pos ((pi_le (by omega) (by omega)).mpr (by omega))]
    exact ⟨z, rfl, rfl, fun _ _ => rfl, fun i h1 h2 => by omega, fun _ _ => rfl⟩
  | succ k ih =>
    intro j n z hj hn
    obtain ⟨m, rfl⟩ : ∃ m, n = m + 1 := ⟨n - 1, by omega⟩
    unfold gM_copyRow_8_1_L
    rw [if_neg (fun h => by have := (pi_le (by omega) (by omega)).mp h; omega), pi_in (j := j) (n := 20) (by omega) (by omega), pi_cl (by omega), nI_1]
    simp only [if_true, pl_let]
    obtain ⟨z', g1, g2, g3, g4, g5⟩ := ih (j + 1) m (sg_w z 0 (nI j) (z.2 7 j)) (by omega) (by omega)
    refine ⟨z', g1, g2, fun a ha => (g3 a ha).trans (by rw [pw_2, if_neg ha]), fun i h1 h2 => ?_, fun i hi => ?_⟩
    · rcases Nat.lt_or_ge j i with q | q
      · rw [g4 i (by omega) h2, pw_2, if_neg (by decide)]
      · have e : i = j := by omega
        rw [g5 i (by omega), pw_2, if_pos rfl, pi_cl (by omega), pu_at, if_pos e, e]
    · rw [g5 i (by omega), pw_2, if_pos rfl, pi_cl (by omega), pu_at, if_neg (by omega)]

theorem rM_cp1 {N : Nat} (hN : N ≤ 12) : ∀ (k j n : Nat) (z : sg_M), j + k = N → k < n → ∃ z', gM_copyRow_9_2_L n (nI N) (nI j) z = some z' ∧ z'.1 = z.1 ∧ (∀ a, a ≠ 1 → z'.2 a = z.2 a) ∧ (∀ i, j ≤ i → i < N → z'.2 1 i = z.2 8 i) ∧ (∀ i, i < j → z'.2 1 i = z.2 1 i) := by
  intro k
  induction k with
  | zero =>
    intro j n z hj hn
    obtain ⟨m, rfl⟩ : ∃ m, n = m + 1 := ⟨n - 1, by omega⟩
    unfold gM_copyRow_9_2_L
    rw [if_pos ((pi_le (by omega) (by omega)).mpr (by omega))]
    exact ⟨z, rfl, rfl, fun _ _ => rfl, fun i h1 h2 => by omega, fun _ _ => rfl⟩
  | succ k ih =>
    intro j n z hj hn
    obtain ⟨m, rfl⟩ : ∃ m, n = m + 1 := ⟨n - 1, by omega⟩
    unfold gM_copyRow_9_2_L
    rw [if_neg (fun h => by have := (pi_le (by omega) (by omega)).mp h; omega), pi_in (j := j) (n := 12) (by omega) (by omega), pi_cl (by omega), nI_1]
    simp only [if_true, pl_let]
    obtain ⟨z', g1, g2, g3, g4, g5⟩ := ih (j + 1) m (sg_w z 1 (nI j) (z.2 8 j)) (by omega) (by omega)
    refine ⟨z', g1, g2, fun a ha => (g3 a ha).trans (by rw [pw_2, if_neg ha]), fun i h1 h2 => ?_, fun i hi => ?_⟩
    · rcases Nat.lt_or_ge j i with q | q
      · rw [g4 i (by omega) h2, pw_2, if_neg (by decide)]
      · have e : i = j := by omega
        rw [g5 i (by omega), pw_2, if_pos rfl, pi_cl (by omega), pu_at, if_pos e, e]
    · rw [g5 i (by omega), pw_2, if_pos rfl, pi_cl (by omega), pu_at, if_neg (by omega)]

theorem rM_cp2 {N : Nat} (hN : N ≤ 8) : ∀ (k j n : Nat) (z : sg_M), j + k = N → k < n → ∃ z', gM_copyRow_10_3_L n (nI N) (nI j) z = some z' ∧ z'.1 = z.1 ∧ (∀ a, a ≠ 2 → z'.2 a = z.2 a) ∧ (∀ i, j ≤ i → i < N → z'.2 2 i = z.2 9 i) ∧ (∀ i, i < j → z'.2 2 i = z.2 2 i) := by
  intro k
  induction k with
  | zero =>
    intro j n z hj hn
    obtain ⟨m, rfl⟩ : ∃ m, n = m + 1 := ⟨n - 1, by omega⟩
    unfold gM_copyRow_10_3_L
    rw [if_pos ((pi_le (by omega) (by omega)).mpr (by omega))]
    exact ⟨z, rfl, rfl, fun _ _ => rfl, fun i h1 h2 => by omega, fun _ _ => rfl⟩
  | succ k ih =>
    intro j n z hj hn
    obtain ⟨m, rfl⟩ : ∃ m, n = m + 1 := ⟨n - 1, by omega⟩
    unfold gM_copyRow_10_3_L
    rw [if_neg (fun h => by have := (pi_le (by omega) (by omega)).mp h; omega), pi_in (j := j) (n := 8) (by omega) (by omega), pi_cl (by omega), nI_1]
    simp only [if_true, pl_let]
    obtain ⟨z', g1, g2, g3, g4, g5⟩ := ih (j + 1) m (sg_w z 2 (nI j) (z.2 9 j)) (by omega) (by omega)
    refine ⟨z', g1, g2, fun a ha => (g3 a ha).trans (by rw [pw_2, if_neg ha]), fun i h1 h2 => ?_, fun i hi => ?_⟩
    · rcases Nat.lt_or_ge j i with q | q
      · rw [g4 i (by omega) h2, pw_2, if_neg (by decide)]
      · have e : i = j := by omega
        rw [g5 i (by omega), pw_2, if_pos rfl, pi_cl (by omega), pu_at, if_pos e, e]
    · rw [g5 i (by omega), pw_2, if_pos rfl, pi_cl (by omega), pu_at, if_neg (by omega)]

theorem rM_cp3 {N : Nat} (hN : N ≤ 8) : ∀ (k j n : Nat) (z : sg_M), j + k = N → k < n → ∃ z', gM_copyRow_11_4_L n (nI N) (nI j) z = some z' ∧ z'.1 = z.1 ∧ (∀ a, a ≠ 3 → z'.2 a = z.2 a) ∧ (∀ i, j ≤ i → i < N → z'.2 3 i = z.2 10 i) ∧ (∀ i, i < j → z'.2 3 i = z.2 3 i) := by
  intro k
  induction k with
  | zero =>
    intro j n z hj hn
    obtain ⟨m, rfl⟩ : ∃ m, n = m + 1 := ⟨n - 1, by omega⟩
    unfold gM_copyRow_11_4_L
    rw [if_pos ((pi_le (by omega) (by omega)).mpr (by omega))]
    exact ⟨z, rfl, rfl, fun _ _ => rfl, fun i h1 h2 => by omega, fun _ _ => rfl⟩
  | succ k ih =>
    intro j n z hj hn
    obtain ⟨m, rfl⟩ : ∃ m, n = m + 1 := ⟨n - 1, by omega⟩
    unfold gM_copyRow_11_4_L
    rw [if_neg (fun h => by have := (pi_le (by omega) (by omega)).mp h; omega), pi_in (j := j) (n := 8) (by omega) (by omega), pi_cl (by omega), nI_1]
    simp only [if_true, pl_let]
    obtain ⟨z', g1, g2, g3, g4, g5⟩ := ih (j + 1) m (sg_w z 3 (nI j) (z.2 10 j)) (by omega) (by omega)
    refine ⟨z', g1, g2, fun a ha => (g3 a ha).trans (by rw [pw_2, if_neg ha]), fun i h1 h2 => ?_, fun i hi => ?_⟩
    · rcases Nat.lt_or_ge j i with q | q
      · rw [g4 i (by omega) h2, pw_2, if_neg (by decide)]
      · have e : i = j := by omega
        rw [g5 i (by omega), pw_2, if_pos rfl, pi_cl (by omega), pu_at, if_pos e, e]
    · rw [g5 i (by omega), pw_2, if_pos rfl, pi_cl (by omega), pu_at, if_neg (by omega)]

theorem rM_cp4 {N : Nat} (hN : N ≤ 8) : ∀ (k j n : Nat) (z : sg_M), j + k = N → k < n → ∃ z', gM_copyRow_12_5_L n (nI N) (nI j) z = some z' ∧ z'.1 = z.1 ∧ (∀ a, a ≠ 4 → z'.2 a = z.2 a) ∧ (∀ i, j ≤ i → i < N → z'.2 4 i = z.2 11 i) ∧ (∀ i, i < j → z'.2 4 i = z.2 4 i) := by
  intro k
  induction k with
  | zero =>
    intro j n z hj hn
    obtain ⟨m, rfl⟩ : ∃ m, n = m + 1 := ⟨n - 1, by omega⟩
    unfold gM_copyRow_12_5_L
    rw [if_pos ((pi_le (by omega) (by omega)).mpr (by omega))]
    exact ⟨z, rfl, rfl, fun _ _ => rfl, fun i h1 h2 => by omega, fun _ _ => rfl⟩
  | succ k ih =>
    intro j n z hj hn
    obtain ⟨m, rfl⟩ : ∃ m, n = m + 1 := ⟨n - 1, by omega⟩
    unfold gM_copyRow_12_5_L
    rw [if_neg (fun h => by have := (pi_le (by omega) (by omega)).mp h; omega), pi_in (j := j) (n := 8) (by omega) (by omega), pi_cl (by omega), nI_1]
    simp only [if_true, pl_let]
    obtain ⟨z', g1, g2, g3, g4, g5⟩ := ih (j + 1) m (sg_w z 4 (nI j) (z.2 11 j)) (by omega) (by omega)
    refine ⟨z', g1, g2, fun a ha => (g3 a ha).trans (by rw [pw_2, if_neg ha]), fun i h1 h2 => ?_, fun i hi => ?_⟩
    · rcases Nat.lt_or_ge j i with q | q
      · rw [g4 i (by omega) h2, pw_2, if_neg (by decide)]
      · have e : i = j := by omega
        rw [g5 i (by omega), pw_2, if_pos rfl, pi_cl (by omega), pu_at, if_pos e, e]
    · rw [g5 i (by omega), pw_2, if_pos rfl, pi_cl (by omega), pu_at, if_neg (by omega)]

theorem rM_tr101 : ∀ (k j n : Nat) (z : sg_M), j + k = 106 → k < n → ∃ f, gM_takeRead_LL n 101 (nI j) z = gM_takeRead_LL (n - k - 1) 122 0 (sg_a z 5 f) ∧ (∀ i, j ≤ i → i < 106 → f i = 0) ∧ (∀ i, i < j → f i = z.2 5 i) := by
  intro k
  induction k with
  | zero =>
    intro j n z hj hn
    obtain ⟨m, rfl⟩ : ∃ m, n = m + 1 := ⟨n - 1, by omega⟩
    refine ⟨z.2 5, ?_, fun i h1 h2 => by omega, fun _ _ => rfl⟩
    conv => lhs; unfold gM_takeRead_LL
    rw [if_pos rfl, if_pos ((pi_l106 (by omega)).mpr (by omega)), sg_a_self]
    rfl
  | succ k ih =>
    intro j n z hj hn
    obtain ⟨m, rfl⟩ : ∃ m, n = m + 1 := ⟨n - 1, by omega⟩
    obtain ⟨f, g1, g2, g3⟩ := ih (j + 1) m (sg_w z 5 (nI j) 0) (by omega) (by omega)
    refine ⟨f, ?_, fun i h1 h2 => ?_, fun i hi => ?_⟩
    · conv => lhs; unfold gM_takeRead_LL
      rw [if_pos rfl, if_neg (by rw [pi_l106 (by omega)]; omega), pi_in (j := j) (by omega) (by omega), nI_1]
      simp only [if_true, pl_let]
      rw [g1, sg_w_a, sg_a5, show m + 1 - (k + 1) - 1 = m - k - 1 by omega]
    · rcases Nat.lt_or_ge j i with q | q
      · exact g2 i (by omega) h2
      · rw [g3 i (by omega), sg_w5, pi_cl (by omega), pu_at, if_pos (by omega)]
    · rw [g3 i (by omega), sg_w5, pi_cl (by omega), pu_at, if_neg (by omega)]
theorem rM_tr122 : ∀ (k j n : Nat) (z : sg_M), j + k = 20 → k < n → ∃ f, gM_takeRead_LL n 122 (nI j) z = gM_takeRead_LL (n - k - 1) 156 0 (sg_a z 5 f) ∧ (∀ x, j ≤ x → x < 20 → f (20 + x) = -1 ∧ f (40 + x) = -1) ∧ (∀ i, (i < 20 + j ∨ (40 ≤ i ∧ i < 40 + j) ∨ 60 ≤ i) → f i = z.2 5 i) := by
  intro k
  induction k with
  | zero =>
    intro j n z hj hn
    obtain ⟨m, rfl⟩ : ∃ m, n = m + 1 := ⟨n - 1, by omega⟩
    refine ⟨z.2 5, ?_, fun i h1 h2 => by omega, fun _ _ => rfl⟩
    conv => lhs; unfold gM_takeRead_LL
    rw [if_neg (by decide), if_pos rfl, if_pos (show (20 : Int32) ≤ nI j from (pi_le (a := 20) (by omega) (by omega)).mpr (by omega)), sg_a_self]
    rfl
  | succ k ih =>
    intro j n z hj hn
    obtain ⟨m, rfl⟩ : ∃ m, n = m + 1 := ⟨n - 1, by omega⟩
    obtain ⟨f, g1, g2, g3⟩ := ih (j + 1) m (sg_w (sg_w z 5 (nI (20 + j)) (-1)) 5 (nI (40 + j)) (-1)) (by omega) (by omega)
    have rd : ∀ i, (sg_w (sg_w z 5 (nI (20 + j)) (-1)) 5 (nI (40 + j)) (-1)).2 5 i = if i = 40 + j then -1 else if i = 20 + j then -1 else z.2 5 i := by
      intro i
      rw [sg_w5, sg_w5, pi_cl (by omega), pi_cl (by omega)]
      rfl
    refine ⟨f, ?_, fun x h1 h2 => ?_, fun i hi => ?_⟩
    · conv => lhs; unfold gM_takeRead_LL
      rw [if_neg (by decide), if_pos rfl, if_neg (show ¬ (20 : Int32) ≤ nI j from fun h => by have := (pi_le (a := 20) (by omega) (by omega)).mp h; omega)]
      simp only [pi_20, pi_40, pi_in (j := 20 + j) (n := 106) (by omega) (by omega), pi_in (j := 40 + j) (n := 106) (by omega) (by omega), if_true, pl_let, nI_1]
      rw [g1, sg_w_a (sg_w z 5 (nI (20 + j)) (-1)), sg_a5, sg_w_a, sg_a5, show m + 1 - (k + 1) - 1 = m - k - 1 by omega]
    · rcases Nat.lt_or_ge j x with q | q
      · exact g2 x (by omega) h2
      · have e : x = j := by omega
        subst e
        rw [g3 (20 + x) (by omega), g3 (40 + x) (by omega), rd, rd, if_neg (by omega), if_pos rfl, if_pos rfl]
        exact ⟨rfl, rfl⟩
    · rw [g3 i (by omega), rd, if_neg (by omega), if_neg (by omega)]
theorem rM_tr156 {nk : Nat} (hk : nk ≤ 8) : ∀ (k j n : Nat) (z : sg_M), j + k = 8 → k < n → z.1 2 = nI nk → ∃ f, gM_takeRead_LL n 156 (nI j) z = some (sg_a z 5 f) ∧ (∀ x, j ≤ x → x < 8 → f (88 + x) = -1 ∧ f (80 + x) = if nk ≤ x then 0 else z.2 3 x) ∧ (∀ i, (i < 80 + j ∨ (88 ≤ i ∧ i < 88 + j) ∨ 96 ≤ i) → f i = z.2 5 i) := by
  intro k
  induction k with
  | zero =>
    intro j n z hj hn h2
    obtain ⟨m, rfl⟩ : ∃ m, n = m + 1 := ⟨n - 1, by omega⟩
    refine ⟨z.2 5, ?_, fun i h1 h2 => by omega, fun _ _ => rfl⟩
    conv => lhs; unfold gM_takeRead_LL
    rw [if_neg (by decide), if_neg (by decide), if_pos rfl, if_pos (show (8 : Int32) ≤ nI j from (pi_le (a := 8) (by omega) (by omega)).mpr (by omega)), sg_a_self]
  | succ k ih =>
    intro j n z hj hn h2
    obtain ⟨m, rfl⟩ : ∃ m, n = m + 1 := ⟨n - 1, by omega⟩
    obtain ⟨f, g1, g2, g3⟩ := ih (j + 1) m (sg_w (sg_w z 5 (nI (88 + j)) (-1)) 5 (nI (80 + j)) (if nk ≤ j then 0 else z.2 3 j)) (by omega) (by omega) h2
    have rd : ∀ i, (sg_w (sg_w z 5 (nI (88 + j)) (-1)) 5 (nI (80 + j)) (if nk ≤ j then 0 else z.2 3 j)).2 5 i = if i = 80 + j then (if nk ≤ j then 0 else z.2 3 j) else if i = 88 + j then -1 else z.2 5 i := by
      intro i
      rw [sg_w5, sg_w5, pi_cl (by omega), pi_cl (by omega)]
      rfl
    refine ⟨f, ?_, fun x h1 h2 => ?_, fun i hi => ?_⟩
    · conv => lhs; unfold gM_takeRead_LL
      rw [if_neg (by decide), if_neg (by decide), if_pos rfl, if_neg (show ¬ (8 : Int32) ≤ nI j from fun h => by have := (pi_le (a := 8) (by omega) (by omega)).mp h; omega)]
      simp only [pi_88, pi_80, pi_in (j := 88 + j) (n := 106) (by omega) (by omega), pi_in (j := 80 + j) (n := 106) (by omega) (by omega), pi_in (j := j) (n := 8) (by omega) (by omega), if_true, pl_let, nI_1]
      rw [show (sg_w z 5 (nI (88 + j)) (-1)).1 2 = nI nk from h2, show (sg_w z 5 (nI (88 + j)) (-1)).2 3 = z.2 3 from rfl, pi_cl (j := j) (by omega)]
      have e : (if nI nk ≤ nI j then some (0 : Int32) else some (z.2 3 j)) = some (if nk ≤ j then 0 else z.2 3 j) := by
        by_cases c : nk ≤ j
        · rw [if_pos ((pi_le (by omega) (by omega)).mpr c), if_pos c]
        · rw [if_neg (fun h => c ((pi_le (by omega) (by omega)).mp h)), if_neg c]
      rw [e, Option.bind_some, g1, sg_w_a (sg_w z 5 (nI (88 + j)) (-1)), sg_a5, sg_w_a, sg_a5]
    · rcases Nat.lt_or_ge j x with q | q
      · exact g2 x (by omega) h2
      · have e : x = j := by omega
        subst e
        rw [g3 (88 + x) (by omega), g3 (80 + x) (by omega), rd, rd, if_neg (by omega), if_pos rfl, if_pos rfl]
        exact ⟨rfl, rfl⟩
    · rw [g3 i (by omega), rd, if_neg (by omega), if_neg (by omega)]
/-- the row of a new road -/
def nr_row (nk : Nat) (ld f : Nat → Int32) : Prop := (∀ x, x < 20 → f x = 0 ∧ f (20 + x) = -1 ∧ f (40 + x) = -1 ∧ f (60 + x) = 0) ∧ (∀ c, c < 8 → f (80 + c) = (if nk ≤ c then 0 else ld c) ∧ f (88 + c) = -1 ∧ f (96 + c) = 0) ∧ f 104 = 0 ∧ f 105 = 0
theorem rM_read {nc nk nw : Nat} (hc : nc ≤ 20) (hk : nk ≤ 8) (hw : nw ≤ 12) {z : sg_M} (h9 : z.1 9 = nI nc) (h10 : z.1 10 = nI nw) (h11 : z.1 11 = nI nk) (n : Nat) (hn : 200 ≤ n) : ∃ z', gM_takeRead n z = some z' ∧ z'.1 0 = nI nc ∧ z'.1 1 = nI nw ∧ z'.1 2 = nI nk ∧ (∀ k, 2 < k → z'.1 k = z.1 k) ∧ (∀ x, x < nc → z'.2 0 x = z.2 7 x) ∧ (∀ x, x < nw → z'.2 1 x = z.2 8 x) ∧ (∀ x, x < nk → z'.2 2 x = z.2 9 x) ∧ (∀ x, x < nk → z'.2 4 x = z.2 11 x) ∧ (∀ a, 5 < a → z'.2 a = z.2 a) ∧ nr_row nk (z.2 10) (z'.2 5) := by
  obtain ⟨z0, ez0⟩ : ∃ y, y = sg_s (sg_s (sg_s z 0 (z.1 9)) 1 ((sg_s z 0 (z.1 9)).1 10)) 2 ((sg_s (sg_s z 0 (z.1 9)) 1 ((sg_s z 0 (z.1 9)).1 10)).1 11) := ⟨_, rfl⟩
  have s0 : z0.1 0 = nI nc := by rw [ez0]; exact h9
  have s1 : z0.1 1 = nI nw := by rw [ez0]; exact h10
  have s2 : z0.1 2 = nI nk := by rw [ez0]; exact h11
  have sk : ∀ k, 2 < k → z0.1 k = z.1 k := fun k hk => by rw [ez0, ps_1, if_neg (by omega), ps_1, if_neg (by omega), ps_1, if_neg (by omega)]
  have sa : z0.2 = z.2 := by rw [ez0]; rfl
  unfold gM_takeRead
  simp only [pl_let]
  rw [← ez0, s0]
  unfold gM_copyRow_8_1
  obtain ⟨a1, e1, p1, q1, t1, -⟩ := rM_cp0 hc nc 0 n z0 (by omega) (by omega)
  rw [show gM_copyRow_8_1_L n (nI nc) 0 z0 = some a1 from e1, Option.bind_some, p1, s1]
  unfold gM_copyRow_9_2
  obtain ⟨a2, e2, p2, q2, t2, -⟩ := rM_cp1 hw nw 0 n a1 (by omega) (by omega)
  rw [show gM_copyRow_9_2_L n (nI nw) 0 a1 = some a2 from e2, Option.bind_some, p2, p1, s2]
  unfold gM_copyRow_10_3
  obtain ⟨a3, e3, p3, q3, t3, -⟩ := rM_cp2 hk nk 0 n a2 (by omega) (by omega)
  rw [show gM_copyRow_10_3_L n (nI nk) 0 a2 = some a3 from e3, Option.bind_some, p3, p2, p1, s2]
  unfold gM_copyRow_11_4
  obtain ⟨a4, e4, p4, q4, t4, -⟩ := rM_cp3 hk nk 0 n a3 (by omega) (by omega)
  rw [show gM_copyRow_11_4_L n (nI nk) 0 a3 = some a4 from e4, Option.bind_some, p4, p3, p2, p1, s2]
  unfold gM_copyRow_12_5
  obtain ⟨a5, e5, p5, q5, t5, -⟩ := rM_cp4 hk nk 0 n a4 (by omega) (by omega)
  rw [show gM_copyRow_12_5_L n (nI nk) 0 a4 = some a5 from e5, Option.bind_some]
  obtain ⟨f1, u1, v1, -⟩ := rM_tr101 106 0 n a5 (by omega) (by omega)
  rw [show gM_takeRead_LL n 101 0 a5 = gM_takeRead_LL n 101 (nI 0) a5 from rfl, u1]
  obtain ⟨f2, u2, v2, w2⟩ := rM_tr122 20 0 (n - 106 - 1) (sg_a a5 5 f1) (by omega) (by omega)
  rw [show gM_takeRead_LL (n - 106 - 1) 122 0 (sg_a a5 5 f1) = gM_takeRead_LL (n - 106 - 1) 122 (nI 0) (sg_a a5 5 f1) from rfl, u2, sg_a5]
  have pp : a5.1 = z0.1 := by rw [p5, p4, p3, p2, p1]
  obtain ⟨f3, u3, v3, w3⟩ := rM_tr156 hk 8 0 (n - 106 - 1 - 20 - 1) (sg_a a5 5 f2) (by omega) (by omega) (by rw [pa_1, pp, s2])
  rw [show gM_takeRead_LL (n - 106 - 1 - 20 - 1) 156 0 (sg_a a5 5 f2) = gM_takeRead_LL (n - 106 - 1 - 20 - 1) 156 (nI 0) (sg_a a5 5 f2) from rfl, u3, sg_a5]
  have ld : ∀ x, x < nk → a5.2 3 x = z.2 10 x := fun x hx => by
    rw [q5 3 (by omega), t4 x (by omega) hx, q3 10 (by omega), q2 10 (by omega), q1 10 (by omega), sa]
  have g1 : ∀ i, i < 106 → f1 i = 0 := fun i hi => v1 i (by omega) hi
  have g2 : ∀ i, (i < 20 ∨ 60 ≤ i) → i < 106 → f2 i = 0 := fun i hi h => by rw [w2 i (by omega)]; exact g1 i h
  have g3 : ∀ i, (i < 80 ∨ 96 ≤ i) → f3 i = f2 i := fun i hi => w3 i (by omega)
  refine ⟨_, rfl, ?_, ?_, ?_, fun k hk => ?_, fun x hx => ?_, fun x hx => ?_, fun x hx => ?_, fun x hx => ?_, fun a ha => ?_, ?_⟩
  · rw [pa_1, pp, s0]
  · rw [pa_1, pp, s1]
  · rw [pa_1, pp, s2]
  · rw [pa_1, pp, sk k hk]
  · rw [pa_2, if_neg (by decide), q5 0 (by omega), q4 0 (by omega), q3 0 (by omega), q2 0 (by omega), t1 x (by omega) hx, sa]
  · rw [pa_2, if_neg (by decide), q5 1 (by omega), q4 1 (by omega), q3 1 (by omega), t2 x (by omega) hx, q1 8 (by omega), sa]
  · rw [pa_2, if_neg (by decide), q5 2 (by omega), q4 2 (by omega), t3 x (by omega) hx, q2 9 (by omega), q1 9 (by omega), sa]
  · rw [pa_2, if_neg (by decide), t5 x (by omega) hx, q4 11 (by omega), q3 11 (by omega), q2 11 (by omega), q1 11 (by omega), sa]
  · rw [pa_2, if_neg (by omega), q5 a (by omega), q4 a (by omega), q3 a (by omega), q2 a (by omega), q1 a (by omega), sa]
  · rw [sg_a_5]
    refine ⟨fun x hx => ⟨?_, ?_, ?_, ?_⟩, fun c hc => ⟨?_, ?_, ?_⟩, ?_, ?_⟩
    · rw [g3 _ (by omega), g2 _ (by omega) (by omega)]
    · rw [g3 _ (by omega)]; exact (v2 x (by omega) hx).1
    · rw [g3 _ (by omega)]; exact (v2 x (by omega) hx).2
    · rw [g3 _ (by omega), g2 _ (by omega) (by omega)]
    · rw [(v3 c (by omega) hc).2]
      by_cases q : nk ≤ c
      · rw [if_pos q, if_pos q]
      · rw [if_neg q, if_neg q]; exact ld c (by omega)
    · exact (v3 c (by omega) hc).1
    · rw [g3 _ (by omega), g2 _ (by omega) (by omega)]
    · rw [g3 _ (by omega), g2 _ (by omega) (by omega)]
    · rw [g3 _ (by omega), g2 _ (by omega) (by omega)]
/-! the class: a new state -/
theorem rC_begin (n : Nat) (hn : 30 ≤ n) (z : sg_M) : ∃ z', gC_State_begin n z = some z' ∧ z'.1 12 = 0 ∧ z'.1 13 = 0 ∧ (∀ k, (k ≠ 12 ∧ k ≠ 13) → z'.1 k = z.1 k) ∧ (∀ a, (a < 11 ∨ 17 < a) → z'.2 a = z.2 a) ∧ (∀ i, i < 20 → z'.2 11 i = 0 ∧ z'.2 12 i = -1 ∧ z'.2 13 i = -1 ∧ z'.2 14 i = 0) ∧ (∀ i, i < 8 → z'.2 15 i = z.2 9 i ∧ z'.2 16 i = -1 ∧ z'.2 17 i = 0) := by
  unfold gC_State_begin
  simp only [pl_let]
  obtain ⟨a1, e1, p1, q1, t1⟩ := fl_16 0 n hn (sg_s (sg_s z 12 0) 13 0)
  rw [e1, Option.bind_some]
  obtain ⟨a2, e2, p2, q2, t2⟩ := fl_17 (-1) n hn a1
  rw [e2, Option.bind_some]
  obtain ⟨a3, e3, p3, q3, t3⟩ := fl_18 (-1) n hn a2
  rw [e3, Option.bind_some]
  obtain ⟨a4, e4, p4, q4, t4⟩ := fl_19 0 n hn a3
  rw [e4, Option.bind_some]
  obtain ⟨b, eb⟩ : ∃ b, b = sg_cp a4 9 15 0 0 8 := ⟨_, rfl⟩
  have rb : ∀ i, i < 8 → b.2 15 i = a4.2 9 i := fun i hi => by
    rw [eb, show sg_cp a4 9 15 0 0 8 = sg_cp a4 9 15 (nI 0) (nI 0) (nI 8) from rfl, pc_rd (by omega) (by omega) (by omega), if_pos (by omega)]
    exact congrArg (a4.2 9) (by omega)
  have nb : ∀ a, a ≠ 15 → b.2 a = a4.2 a := fun a ha => by rw [eb]; exact pc_ne ha
  have pb : b.1 = a4.1 := by rw [eb]; rfl
  rw [← eb]
  obtain ⟨a5, e5, p5, q5, t5⟩ := fl_21 (-1) n hn b
  rw [e5, Option.bind_some]
  obtain ⟨a6, e6, p6, q6, t6⟩ := fl_22 0 n hn a5
  rw [e6, Option.bind_some]
  have pp : a6.1 = (sg_s (sg_s z 12 0) 13 0).1 := by rw [p6, p5, pb, p4, p3, p2, p1]
  refine ⟨a6, rfl, ?_, ?_, fun k hk => ?_, fun a ha => ?_, fun i hi => ⟨?_, ?_, ?_, ?_⟩, fun i hi => ⟨?_, ?_, ?_⟩⟩
  · rw [pp]; rfl
  · rw [pp]; rfl
  · rw [pp, ps_1, if_neg hk.2, ps_1, if_neg hk.1]
  · rw [q6 a (by omega), q5 a (by omega), nb a (by omega), q4 a (by omega), q3 a (by omega), q2 a (by omega), q1 a (by omega)]; rfl
  · rw [q6 11 (by omega), q5 11 (by omega), nb 11 (by omega), q4 11 (by omega), q3 11 (by omega), q2 11 (by omega)]; exact t1 i hi
  · rw [q6 12 (by omega), q5 12 (by omega), nb 12 (by omega), q4 12 (by omega), q3 12 (by omega)]; exact t2 i hi
  · rw [q6 13 (by omega), q5 13 (by omega), nb 13 (by omega), q4 13 (by omega)]; exact t3 i hi
  · rw [q6 14 (by omega), q5 14 (by omega), nb 14 (by omega)]; exact t4 i hi
  · rw [q6 15 (by omega), q5 15 (by omega), rb i hi, q4 9 (by omega), q3 9 (by omega), q2 9 (by omega), q1 9 (by omega)]; rfl
  · rw [q6 16 (by omega)]; exact t5 i hi
  · exact t6 i hi
theorem rC_become (z : sg_M) : ∃ z', gC_Road_become z = some z' ∧ z'.1 9 = z.1 6 ∧ z'.1 10 = z.1 7 ∧ z'.1 11 = z.1 8 ∧ (∀ k, (k < 9 ∨ 11 < k) → z'.1 k = z.1 k) ∧ (∀ a, (a < 6 ∨ 10 < a) → z'.2 a = z.2 a) ∧ (∀ i, i < 20 → z'.2 6 i = z.2 0 i) ∧ (∀ i, i < 12 → z'.2 7 i = z.2 1 i) ∧ (∀ i, i < 8 → z'.2 8 i = z.2 2 i ∧ z'.2 9 i = z.2 3 i ∧ z'.2 10 i = z.2 4 i) := by
  obtain ⟨y, ey⟩ : ∃ y, y = sg_s (sg_s (sg_s z 9 (z.1 6)) 10 ((sg_s z 9 (z.1 6)).1 7)) 11 ((sg_s (sg_s z 9 (z.1 6)) 10 ((sg_s z 9 (z.1 6)).1 7)).1 8) := ⟨_, rfl⟩
  have ya : y.2 = z.2 := by rw [ey]; rfl
  have n11 : ∀ (y : sg_M) (s d n : Nat), n < 100 → ∀ i, i < n → (sg_cp y s d (nI 0) (nI 0) (nI n)).2 d i = y.2 s i := by
    intro y s d n h i hi
    rw [pc_rd (by omega) (by omega) (by omega), if_pos (by omega)]
    exact congrArg (y.2 s) (by omega)
  refine ⟨sg_cp (sg_cp (sg_cp (sg_cp (sg_cp y 0 6 (nI 0) (nI 0) (nI 20)) 1 7 (nI 0) (nI 0) (nI 12)) 2 8 (nI 0) (nI 0) (nI 8)) 3 9 (nI 0) (nI 0) (nI 8)) 4 10 (nI 0) (nI 0) (nI 8), ?_, ?_, ?_, ?_, fun k hk => ?_, fun a ha => ?_, fun i hi => ?_, fun i hi => ?_, fun i hi => ⟨?_, ?_, ?_⟩⟩
  · rw [ey]; rfl
  · show y.1 9 = _
    rw [ey]; rfl
  · show y.1 10 = _
    rw [ey]; rfl
  · show y.1 11 = _
    rw [ey]; rfl
  · show y.1 k = _
    rw [ey, ps_1, if_neg (by omega), ps_1, if_neg (by omega), ps_1, if_neg (by omega)]
  · rw [pc_ne (by omega), pc_ne (by omega), pc_ne (by omega), pc_ne (by omega), pc_ne (by omega), ya]
  · rw [pc_ne (by omega), pc_ne (by omega), pc_ne (by omega), pc_ne (by omega), n11 _ _ _ _ (by omega) i hi, ya]
  · rw [pc_ne (by omega), pc_ne (by omega), pc_ne (by omega), n11 _ _ _ _ (by omega) i hi, pc_ne (by omega), ya]
  · rw [pc_ne (by omega), pc_ne (by omega), n11 _ _ _ _ (by omega) i hi, pc_ne (by omega), pc_ne (by omega), ya]
  · rw [pc_ne (by omega), n11 _ _ _ _ (by omega) i hi, pc_ne (by omega), pc_ne (by omega), pc_ne (by omega), ya]
  · rw [n11 _ _ _ _ (by omega) i hi, pc_ne (by omega), pc_ne (by omega), pc_ne (by omega), pc_ne (by omega), ya]
theorem rC_forget (n : Nat) (hn : 30 ≤ n) (z : sg_M) : ∃ z', gC_Memory_forgetAll n z = some z' ∧ z'.1 24 = 0 ∧ (∀ k, k ≠ 24 → z'.1 k = z.1 k) ∧ (∀ a, (a ≠ 27 ∧ a ≠ 28) → z'.2 a = z.2 a) ∧ (∀ i, i < 2 → z'.2 27 i = 0 ∧ z'.2 28 i = 0) := by
  unfold gC_Memory_forgetAll
  simp only [pl_let]
  obtain ⟨a1, e1, p1, q1, t1⟩ := fl_43 0 n hn (sg_s z 24 0)
  rw [e1, Option.bind_some]
  obtain ⟨m, rfl⟩ : ∃ m, n = m + 3 := ⟨n - 3, by omega⟩
  have e : gC_Memory_forgetAll_L (m + 3) 0 a1 = some (sg_w (sg_w a1 27 0 (vp_nar .boolean 0)) 27 1 (vp_nar .boolean 0)) := by
    unfold gC_Memory_forgetAll_L
    rw [if_neg (by decide), if_pos (by decide), pl_let]
    unfold gC_Memory_forgetAll_L
    rw [if_neg (by decide), if_pos (by decide), pl_let]
    unfold gC_Memory_forgetAll_L
    rw [if_pos (by decide)]
    rfl
  have ev : vp_nar .boolean (0 : Int32) = 0 := by decide
  rw [e, ev]
  refine ⟨_, rfl, ?_, fun k hk => ?_, fun a ha => ?_, fun i hi => ?_⟩
  · rw [pw_1, pw_1, p1]; rfl
  · rw [pw_1, pw_1, p1, ps_1, if_neg hk]
  · rw [pw_2, if_neg ha.1, pw_2, if_neg ha.1, q1 a ha.2]; rfl
  · refine ⟨?_, ?_⟩
    · rw [pw_2, if_pos rfl, pi_c1, pu_at, pw_2, if_pos rfl, pi_c0, pu_at]
      rcases (show i = 0 ∨ i = 1 by omega) with h | h
      · rw [if_neg (by omega), if_pos h]
      · rw [if_pos h]
    · rw [pw_2, if_neg (by decide), pw_2, if_neg (by decide)]; exact t1 i hi
/-! a new road, on both sides -/
def qf_C (z z' : sg_M) : Prop := (∀ k, (k < 1 ∨ 8 < k) → z'.1 k = z.1 k) ∧ ∀ a, 4 < a → z'.2 a = z.2 a
def qf_M (z z' : sg_M) : Prop := (∀ k, (k < 4 ∨ 11 < k) → z'.1 k = z.1 k) ∧ ∀ a, (a < 7 ∨ 11 < a) → z'.2 a = z.2 a
def rl_fresh (nc nk : Nat) (zC zM zC' zM' : sg_M) : Prop := rl_road nc nk zC' zM' ∧ (∀ tb, tb ≤ 100000 → rl_now nc nk tb zC' zM') ∧ zC'.1 24 = 0 ∧ zM'.1 12 = 0 ∧ zC'.1 25 = zC.1 25 ∧ zC'.1 19 = 0 ∧ zM'.1 13 = 0 ∧ zC'.1 20 = 0 ∧ zM'.1 14 = 0 ∧ (∀ i, i < 2 → zC'.2 27 i = 0 ∧ zM'.2 20 i = 0) ∧ zC'.1 0 = zC.1 0 ∧ zM'.1 3 = zM.1 3
theorem rl_text0 {zC zM : sg_M} (h1 : zC.1 1 = 0) (h2 : zM.1 4 = 0) : rl_text 0 zC zM := ⟨by omega, h1, h2, fun i hi => by omega⟩
theorem nr_now {nc nk tb : Nat} (hc20 : nc ≤ 20) (hk : nk ≤ 8) (htb : tb ≤ 100000) {zC zM : sg_M} {ld : Nat → Int32} (hr : nr_row nk ld (zM.2 5)) (hld : ∀ c, c < nk → ∃ g, 1 ≤ g ∧ g ≤ 60 ∧ ld c = nI g) (h12 : zC.1 12 = 0) (h13 : zC.1 13 = 0) (h20 : ∀ i, i < 20 → zC.2 11 i = 0 ∧ zC.2 12 i = -1 ∧ zC.2 13 i = -1 ∧ zC.2 14 i = 0) (h8 : ∀ i, i < 8 → (i < nk → zC.2 15 i = ld i) ∧ zC.2 16 i = -1 ∧ zC.2 17 i = 0) : rl_now nc nk tb zC zM := by
  obtain ⟨r1, r2, r3, r4⟩ := hr
  refine ⟨fun x hx => ?_, fun x hx => ?_, fun x hx => ?_, fun x hx => ?_, fun c hc => ?_, fun c hc => ?_, fun c hc => ?_, ?_, ?_, fun x hx => ?_, fun x hx => ?_, fun x hx _ => ?_, fun x hx => ?_, fun c hc => ?_, fun c hc => ?_, ?_, ?_, htb, fun c hc => ?_⟩
  · rw [(h20 x hx).1, (r1 x hx).1]
  · rw [(h20 x (by omega)).2.1, (r1 x (by omega)).2.1]
  · rw [(h20 x (by omega)).2.2.1, (r1 x (by omega)).2.2.1]
  · rw [(h20 x hx).2.2.2, (r1 x hx).2.2.2]
  · rw [(h8 c (by omega)).1 hc, (r2 c (by omega)).1, if_neg (by omega)]
  · rw [(h8 c (by omega)).2.1, (r2 c (by omega)).2.1]
  · rw [(h8 c hc).2.2, (r2 c hc).2.2]
  · rw [h12, r3]
  · rw [h13, r4]
  · exact ⟨0, by omega, (r1 x hx).1⟩
  · exact Or.inl (r1 x hx).2.1
  · exact (r1 x hx).2.2.1
  · exact ⟨0, by omega, (r1 x hx).2.2.2⟩
  · exact Or.inl (r2 c (by omega)).2.1
  · rw [(r2 c (by omega)).1, if_neg (by omega)]; exact hld c hc
  · exact ⟨0, by omega, r3⟩
  · exact ⟨0, by omega, r4, fun _ => rfl⟩
  · exact ⟨0, by omega, (r2 c hc).2.2⟩
theorem rr_road {len : Nat} {zC zM : sg_M} (ht : rl_text len zC zM) (n : Nat) (hn : 1000 ≤ n) : ∃ v zC' zM', gC_road n zC = some (v, zC') ∧ gM_road n zM = some (v, zM') ∧ zC'.1 2 = zM'.1 5 ∧ rl_text 0 zC' zM' ∧ ((qf_C zC zC' ∧ qf_M zM zM') ∨ ∃ nc nk, rl_fresh nc nk zC zM zC' zM') := by
  have hl := ht.1
  obtain ⟨yC, eyC⟩ : ∃ y, y = sg_s (sg_s (sg_s (sg_s (sg_w (sg_s (sg_s (sg_s zC 6 0) 8 0) 7 1) 1 0 5) 3 0) 2 (-1)) 4 0) 5 0 := ⟨_, rfl⟩
  obtain ⟨yM, eyM⟩ : ∃ y, y = sg_s (sg_s (sg_s (sg_s (sg_s zM 5 (-1)) 6 0) 9 0) 10 0) 11 0 := ⟨_, rfl⟩
  have fC : pf_C zC yC := by
    rw [eyC]
    exact ⟨fun k hk => by
      rw [ps_1, if_neg (by omega), ps_1, if_neg (by omega), ps_1, if_neg (by omega), ps_1, if_neg (by omega), pw_1, ps_1, if_neg (by omega), ps_1, if_neg (by omega), ps_1, if_neg (by omega)], fun a ha => by
      simp only [ps_2, pw_2]
      rw [if_neg (by omega)]⟩
  have fM : pf_M zM yM := by
    rw [eyM]
    exact ⟨fun k hk => by
      rw [ps_1, if_neg (by omega), ps_1, if_neg (by omega), ps_1, if_neg (by omega), ps_1, if_neg (by omega), ps_1, if_neg (by omega)], fun a ha => rfl⟩
  have hy : rl_text len yC yM := pf_text fC fM ht
  have hdr : rp_dr 0 0 yC yM := by
    rw [eyC, eyM]
    refine ⟨by omega, by omega, fun _ => rfl, rfl, rfl, rfl, rfl, fun x hx => by omega, fun x hx => by omega, Or.inl ⟨rfl, rfl, rfl, rfl⟩⟩
  obtain ⟨e, xC, xM, o1, o2, o3, o4, o5⟩ := rp_text (240) 0 0 n n 0 0 yC yM (by omega) (by omega) (by omega) (by omega) (by omega) hy (by rw [eyC]; rfl) (by rw [eyM]; rfl) (by rw [eyC]; rfl) (by rw [eyC, eyM]; rfl) hdr rfl
  have hC1 : gC_Reader_readText n zC = some (nI e, xC) := by
    unfold gC_Reader_readText gC_Road_clear_2
    simp only [pl_let, Option.bind_some]
    rw [← eyC]
    exact o1
  have hM1 : gM_road n zM = gM_road_L n 0 yM := by
    unfold gM_road
    simp only [pl_let]
    rw [← eyM]
  unfold gC_road
  rw [hC1, hM1]
  simp only [Option.bind_some, pl_let]
  have fxC := fC.tr o2
  have fxM := fM.tr o3
  rcases o5 with ⟨rfl, ⟨nc, nk, hd⟩, m, hm, hM⟩ | ⟨b1, b2, hM⟩
  · rw [if_pos (show nI 0 = 0 from rfl), hM]
    obtain ⟨d1, d2, d3, d4, d5, d6, d7, d8, d9, d10⟩ := hd
    obtain ⟨r3, k1, k2, k3, k4, k5, k6, k7, k8, k9⟩ := rC_become (sg_s xC 1 0)
    rw [k1, Option.bind_some]
    obtain ⟨r4, l1, l2, l3, l4, l5, l6, l7⟩ := rC_begin n (by omega) r3
    rw [l1, Option.bind_some]
    obtain ⟨r7, m1, m2, m3, m4, m5⟩ := rC_forget n (by omega) (sg_s (sg_s r4 19 0) 20 0)
    rw [m1, Option.bind_some]
    obtain ⟨nw, w1, w2⟩ : ∃ nw, nw ≤ 12 ∧ xM.1 10 = nI nw := by
      rcases d10 with ⟨-, h, -⟩ | ⟨-, nw, -, h1, h2, -⟩
      · exact ⟨0, by omega, h⟩
      · exact ⟨nw, h1, h2⟩
    obtain ⟨rm, n1, n2, n3, n4, n5, n6, n7, n8, n9, n10, n11⟩ := rM_read (z := sg_s xM 4 0) d1 d2 w1 d5 w2 d7 m (by omega)
    have ev : vp_nar .boolean (0 : Int32) = 0 := by decide
    unfold mf_ok
    rw [n1, Option.bind_some, ev]
    simp only [pl_let]
    obtain ⟨zM', ezM⟩ : ∃ y, y = sg_w (sg_w (sg_s (sg_s (sg_s rm 13 0) 14 0) 12 0) 20 0 0) 20 1 0 := ⟨_, rfl⟩
    rw [← ezM]
    have M1 : ∀ k, (k < 12 ∨ 14 < k) → zM'.1 k = rm.1 k := fun k hk => by
      rw [ezM, pw_1, pw_1, ps_1, if_neg (by omega), ps_1, if_neg (by omega), ps_1, if_neg (by omega)]
    have M2 : ∀ a, a ≠ 20 → zM'.2 a = rm.2 a := fun a ha => by
      rw [ezM, pw_2, if_neg ha, pw_2, if_neg ha]; rfl
    have C1 : ∀ k, (k ≠ 19 ∧ k ≠ 20 ∧ k ≠ 24) → r7.1 k = r4.1 k := fun k hk => by
      rw [m3 k hk.2.2, ps_1, if_neg hk.2.1, ps_1, if_neg hk.1]
    have C2 : ∀ a, (a ≠ 27 ∧ a ≠ 28) → r7.2 a = r4.2 a := fun a ha => by rw [m4 a ha]; rfl
    have C9 : r7.1 9 = nI nc := by rw [C1 9 (by omega), l4 9 (by omega), k2]; exact d4
    have V0 : zM'.1 0 = nI nc := by rw [M1 0 (by omega), n2]
    rw [C9, V0]
    refine ⟨nI nc, r7, zM', rfl, rfl, ?_, rl_text0 ?_ ?_, Or.inr ⟨nc, nk, ?_, fun tb htb => ?_, m2, ?_, ?_, ?_, ?_, ?_, ?_, fun i hi => ⟨(m5 i hi).1, ?_⟩, ?_, ?_⟩⟩
    · rw [C1 2 (by omega), l4 2 (by omega), k5 2 (by omega), M1 5 (by omega), n5 5 (by omega)]; exact o4
    · rw [C1 1 (by omega), l4 1 (by omega), k5 1 (by omega)]; rfl
    · rw [M1 4 (by omega), n5 4 (by omega)]; rfl
    · refine ⟨d1, d2, d3, C9, V0, ?_, ?_, fun x hx => ?_, fun c hc => ?_, ?_⟩
      · rw [C1 11 (by omega), l4 11 (by omega), k4]; exact d6
      · rw [M1 2 (by omega), n4]
      · rw [C2 6 (by omega), l5 6 (by omega), k7 x (by omega), M2 0 (by omega), n6 x hx]
        exact d8 x hx
      · obtain ⟨f1, f2, f3, f4, f5⟩ := d9 c hc
        rw [C2 8 (by omega), l5 8 (by omega), (k9 c (by omega)).1, C2 10 (by omega), l5 10 (by omega), (k9 c (by omega)).2.2, M2 2 (by omega), n8 c hc, M2 4 (by omega), n9 c hc]
        exact ⟨f1, f3, f5⟩
      · rw [M1 1 (by omega), n3, C1 10 (by omega), l4 10 (by omega), k3, C2 7 (by omega), l5 7 (by omega), M2 1 (by omega)]
        rcases d10 with ⟨f1, f2, f3, f4⟩ | ⟨f1, nw', f2, f3, f4, f5, f6⟩
        · left
          rw [f2] at w2
          exact ⟨w2.symm, f3, by rw [k8 0 (by omega)]; exact f4⟩
        · right
          have ew : nw = nw' := (pi_eq (by omega) (by omega)).mp (w2.symm.trans f4)
          subst ew
          refine ⟨nw, f2, f3, rfl, f5, fun k hk => ?_⟩
          rw [k8 k (by omega), n7 k hk]
          exact f6 k hk
    · refine nr_now (ld := xM.2 10) d1 d2 htb (by rw [M2 5 (by omega)]; exact n11) (fun c hc => (d9 c hc).2.2.2.1) (by rw [C1 12 (by omega)]; exact l2) (by rw [C1 13 (by omega)]; exact l3) (fun i hi => ?_) (fun i hi => ?_)
      · rw [C2 11 (by omega), C2 12 (by omega), C2 13 (by omega), C2 14 (by omega)]
        exact l6 i hi
      · rw [C2 15 (by omega), C2 16 (by omega), C2 17 (by omega)]
        refine ⟨fun h => ?_, (l7 i hi).2⟩
        rw [(l7 i hi).1, (k9 i hi).2.1]
        exact (d9 i h).2.1
    · rw [ezM]; rfl
    · rw [C1 25 (by omega), l4 25 (by omega), k5 25 (by omega)]
      show xC.1 25 = _
      exact fxC.1 25 (by omega)
    · rw [m3 19 (by omega)]; rfl
    · rw [ezM]; rfl
    · rw [m3 20 (by omega)]; rfl
    · rw [ezM]; rfl
    · rw [ezM, pw_2, if_pos rfl, pi_c1, pu_at, pw_2, if_pos rfl, pi_c0, pu_at]
      rcases (show i = 0 ∨ i = 1 by omega) with h | h
      · rw [if_neg (by omega), if_pos h]
      · rw [if_pos h]
    · rw [C1 0 (by omega), l4 0 (by omega), k5 0 (by omega)]
      show xC.1 0 = _
      exact fxC.1 0 (by omega)
    · rw [M1 3 (by omega), n5 3 (by omega)]
      show xM.1 3 = _
      exact fxM.1 3 (by omega)
  · rw [if_neg (nI_ne0 (by omega) (by omega)), hM]
    refine ⟨_, _, _, rfl, rfl, o4, rl_text0 rfl rfl, Or.inl ⟨⟨fun k hk => ?_, fun a ha => fxC.2 a ha⟩, ⟨fun k hk => ?_, fun a ha => fxM.2 a ha⟩⟩⟩
    · rw [ps_1, if_neg (by omega)]; exact fxC.1 k (by omega)
    · rw [ps_1, if_neg (by omega)]; exact fxM.1 k (by omega)
