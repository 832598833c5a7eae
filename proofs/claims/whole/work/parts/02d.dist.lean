/-! distances, far, place -/
def sp_d (x y : Nat) : Nat := if x ≤ y then y - x else x - y
def sp_om (a b : Option Nat) : Option Nat := match a, b with
  | none, b => b
  | some a, none => some a
  | some a, some b => some (min a b)
theorem sp_om_n (a : Option Nat) : sp_om a none = a := by cases a <;> rfl
theorem sp_om_as (a b c : Option Nat) : sp_om (sp_om a b) c = sp_om a (sp_om b c) := by
  cases a <;> cases b <;> cases c <;> simp [sp_om, Nat.min_assoc]
theorem sp_om_cm (a b : Option Nat) : sp_om a b = sp_om b a := by
  cases a <;> cases b <;> simp [sp_om, Nat.min_comm]
def sp_dF (S : Nat → Bool) (x : Nat) : Nat → Nat → Option Nat → Option Nat
  | 0, _, a => a
  | k + 1, j, a => sp_dF S x k (j + 1) (if S j then sp_om a (some (sp_d x j)) else a)
theorem sp_dF_om (S : Nat → Bool) (x : Nat) : ∀ (k j : Nat) (a b : Option Nat), sp_dF S x k j (sp_om a b) = sp_om (sp_dF S x k j a) b := by
  intro k
  induction k with
  | zero => intro j a b; rfl
  | succ k ih =>
    intro j a b
    rw [sp_dF, sp_dF]
    by_cases h : S j = true
    · rw [if_pos h, if_pos h, ← ih, sp_om_as, sp_om_as, sp_om_cm b]
    · rw [if_neg h, if_neg h, ih]
theorem sp_dF_add (S : Nat → Bool) (x e : Nat) : ∀ (k j : Nat) (a : Option Nat), sp_dF (fun y => S y || decide (y = e)) x k j a = if j ≤ e ∧ e < j + k then sp_om (sp_dF S x k j a) (some (sp_d x e)) else sp_dF S x k j a := by
  intro k
  induction k with
  | zero =>
    intro j a
    rw [if_neg (by omega)]
    rfl
  | succ k ih =>
    intro j a
    rw [sp_dF, sp_dF, ih]
    by_cases he : j = e
    · subst he
      rw [if_neg (show ¬ (j + 1 ≤ j ∧ j < j + 1 + k) by omega), if_pos (show j ≤ j ∧ j < j + (k + 1) by omega)]
      simp only [decide_true, Bool.or_true, if_true]
      by_cases h : S j = true
      · rw [if_pos h, sp_dF_om]
        rw [sp_om_as]
        congr 1
        simp [sp_om]
      · rw [if_neg h, sp_dF_om]
    · have e1 : (S j || decide (j = e)) = S j := by simp [he]
      rw [e1]
      by_cases h : j + 1 ≤ e ∧ e < j + 1 + k
      · rw [if_pos h, if_pos (show j ≤ e ∧ e < j + (k + 1) by omega)]
      · rw [if_neg h, if_neg (show ¬ (j ≤ e ∧ e < j + (k + 1)) by omega)]
theorem sp_d_lt {x y : Nat} (hx : x < 20) (hy : y < 20) : sp_d x y < 20 := by unfold sp_d; split <;> omega
def sp_ob (a : Option Nat) : Prop := ∀ m, a = some m → m < 20
theorem sp_ob_n : sp_ob none := fun m h => by cases h
theorem sp_ob_om {a : Option Nat} {v : Nat} (h : sp_ob a) (hv : v < 20) : sp_ob (sp_om a (some v)) := by
  intro m hm
  cases a with
  | none => cases hm; exact hv
  | some q =>
    have hq := h q rfl
    simp only [sp_om, Option.some.injEq] at hm
    omega
theorem sp_dF_ob (S : Nat → Bool) {x : Nat} (hx : x < 20) : ∀ (k j : Nat) (a : Option Nat), j + k ≤ 20 → sp_ob a → sp_ob (sp_dF S x k j a) := by
  intro k
  induction k with
  | zero => intro j a _ h; exact h
  | succ k ih =>
    intro j a hj h
    rw [sp_dF]
    refine ih _ _ (by omega) ?_
    split
    · exact sp_ob_om h (sp_d_lt hx (by omega))
    · exact h
/-- an option as the class and as the reference write it -/
def sp_oC (a : Option Nat) : Int32 := match a with
  | none => -1
  | some m => nI m
def sp_oM (a : Option Nat) : Int32 := match a with
  | none => 1000000
  | some m => nI m
theorem pd_sub {a b : Nat} (h : b ≤ a) : nI a - nI b = nI (a - b) := pk_sub h
theorem pd_abs {x y : Nat} (hx : x < 20) (hy : y < 20) : sg_abs (nI x - nI y) = nI (sp_d x y) := by
  unfold sg_abs sp_d
  by_cases h : x ≤ y
  · rw [if_pos h]
    by_cases h2 : x = y
    · subst h2
      rw [pd_sub (Nat.le_refl _), if_pos (pi_nneg' (by omega))]
    · rw [if_neg (show ¬ (0 : Int32) ≤ nI x - nI y by
        have := pk_sneg (a := x) (b := y) (by omega) (by omega)
        exact Int32.not_le.mpr this)]
      have e : (0 : Int32) - (nI x - nI y) = nI y - nI x := by
        rw [Int32.zero_sub, Int32.neg_sub]
      rw [e, pd_sub h]
  · rw [if_neg h, pd_sub (by omega), if_pos (pi_nneg' (by omega))]
theorem pd_far {x y : Nat} (hx : x < 20) (hy : y < 20) : (if nI x ≤ nI y then nI y - nI x else nI x - nI y) = nI (sp_d x y) := by
  unfold sp_d
  by_cases h : x ≤ y
  · rw [if_pos h, if_pos ((pi_le (by omega) (by omega)).mpr h), pd_sub h]
  · rw [if_neg h, if_neg (by rw [pi_le (by omega) (by omega)]; exact h), pd_sub (by omega)]
theorem rC_distL {nc nk tb : Nat} {zC zM : sg_M} (hr : rl_road nc nk zC zM) (hn : rl_now nc nk tb zC zM) {x : Nat} (hx : x < 20) : ∀ (k j n : Nat) (a : Option Nat), j + k = nc → k < n → sp_ob a → gC_Survey_distanceWith_L n (nI x) (sp_oC a) (nI j) zC = some (sp_oC (sp_dF (sp_isT zM) x k j a)) := by
  have h1 := hr.1
  have h4 := hr.2.2.2.1
  intro k
  induction k with
  | zero =>
    intro j n a hj hn1 _
    obtain ⟨m, rfl⟩ : ∃ m, n = m + 1 := ⟨n - 1, by omega⟩
    unfold gC_Survey_distanceWith_L
    rw [h4, if_pos ((pi_le (by omega) (by omega)).mpr (by omega))]
    rfl
  | succ k ih =>
    intro j n a hj hn1 ha
    obtain ⟨m, rfl⟩ : ∃ m, n = m + 1 := ⟨n - 1, by omega⟩
    unfold gC_Survey_distanceWith_L
    rw [h4, if_neg (by rw [pi_le (by omega) (by omega)]; omega), rC_town hn (by omega), nI_1, pd_abs hx (by omega)]
    simp only [Option.bind_some, pl_let]
    rw [sp_dF]
    by_cases h : zM.2 5 (20 + j) = -1
    · rw [sp_town_0.mpr h, show sp_isT zM j = false by simp [sp_isT, h]]
      simp only [if_true, Option.bind_some]
      exact ih (j + 1) m a (by omega) (by omega) ha
    · rw [show sp_town zM j = 1 by unfold sp_town; rw [if_neg h], show sp_isT zM j = true by simp [sp_isT, h]]
      simp only [show ¬ (1 : Int32) = 0 by decide, if_false, if_true]
      have hd := sp_d_lt hx (show j < 20 by omega)
      have e : (if sp_oC a = -1 then some (nI (sp_d x j)) else if sp_oC a ≤ nI (sp_d x j) then some (sp_oC a) else some (nI (sp_d x j))) = some (sp_oC (sp_om a (some (sp_d x j)))) := by
        cases a with
        | none => rfl
        | some q =>
          have hq := ha q rfl
          show (if nI q = -1 then _ else if nI q ≤ nI (sp_d x j) then some (nI q) else _) = some (nI (min q (sp_d x j)))
          rw [if_neg (pi_m1 (by omega))]
          by_cases h2 : q ≤ sp_d x j
          · rw [if_pos ((pi_le (by omega) (by omega)).mpr h2), Nat.min_eq_left h2]
          · rw [if_neg (by rw [pi_le (by omega) (by omega)]; exact h2), Nat.min_eq_right (by omega)]
      rw [e]
      exact ih (j + 1) m _ (by omega) (by omega) (sp_ob_om ha hd)
theorem pb_has {s j : Nat} (h : j < 31) (hs : s < 2147483648) : gM_has (nI s) (nI j) = if s.testBit j then 1 else 0 := by
  unfold gM_has
  rw [pb_bit h hs]
  cases s.testBit j <;> rfl
theorem rM_distL {nc nk : Nat} {zC zM : sg_M} (hr : rl_road nc nk zC zM) {x : Nat} (hx : x < 20) (s : Nat) (hs : s < 2147483648) : ∀ (k j n : Nat) (a : Option Nat), j + k = nc → k < n → sp_ob a → gM_distanceTo_L n (nI x) (nI s) (sp_oM a) (nI j) zM = some (sp_oM (sp_dF (fun y => s.testBit y) x k j a)) := by
  have h1 := hr.1
  have h5 := hr.2.2.2.2.1
  intro k
  induction k with
  | zero =>
    intro j n a hj hn1 _
    obtain ⟨m, rfl⟩ : ∃ m, n = m + 1 := ⟨n - 1, by omega⟩
    unfold gM_distanceTo_L
    rw [h5, if_pos ((pi_le (by omega) (by omega)).mpr (by omega))]
    rfl
  | succ k ih =>
    intro j n a hj hn1 ha
    obtain ⟨m, rfl⟩ : ∃ m, n = m + 1 := ⟨n - 1, by omega⟩
    unfold gM_distanceTo_L
    rw [h5, if_neg (by rw [pi_le (by omega) (by omega)]; omega), nI_1, pd_far hx (by omega), pb_has (by omega) hs]
    simp only [pl_let]
    rw [sp_dF]
    have hd := sp_d_lt hx (show j < 20 by omega)
    cases hb : s.testBit j with
    | false =>
      simp only [if_true, Bool.false_eq_true, if_false]
      exact ih (j + 1) m a (by omega) (by omega) ha
    | true =>
      simp only [show ¬ (1 : Int32) = 0 by decide, if_false, if_true]
      have e : (if sp_oM a ≤ nI (sp_d x j) then sp_oM a else nI (sp_d x j)) = sp_oM (sp_om a (some (sp_d x j))) := by
        cases a with
        | none =>
          show (if nI 1000000 ≤ nI (sp_d x j) then nI 1000000 else _) = nI _
          rw [if_neg (by rw [pi_le (by omega) (by omega)]; omega)]
        | some q =>
          have hq := ha q rfl
          show (if nI q ≤ nI (sp_d x j) then nI q else _) = nI (min q (sp_d x j))
          by_cases h2 : q ≤ sp_d x j
          · rw [if_pos ((pi_le (by omega) (by omega)).mpr h2), Nat.min_eq_left h2]
          · rw [if_neg (by rw [pi_le (by omega) (by omega)]; exact h2), Nat.min_eq_right (by omega)]
      rw [e]
      exact ih (j + 1) m _ (by omega) (by omega) (sp_ob_om ha hd)
theorem sp_dF_cong {S S' : Nat → Bool} (x : Nat) : ∀ (k j : Nat) (a : Option Nat), (∀ y, j ≤ y → y < j + k → S y = S' y) → sp_dF S x k j a = sp_dF S' x k j a := by
  intro k
  induction k with
  | zero => intro j a _; rfl
  | succ k ih =>
    intro j a h
    rw [sp_dF, sp_dF, h j (by omega) (by omega)]
    exact ih _ _ (fun y h1 h2 => h y (by omega) (by omega))
theorem sp_towns_lt {nc : Nat} (hc : nc ≤ 20) (zM : sg_M) : sp_towns nc zM < 2 ^ 20 := sp_set_lt _ nc 0 0 (by omega) (by decide)
theorem sp_towns_bit {nc : Nat} (zM : sg_M) {x : Nat} (hx : x < nc) : (sp_towns nc zM).testBit x = sp_isT zM x := by
  unfold sp_towns
  rw [sp_set_bit]
  simp [hx]
/-- the distance of x to the nearest town, with one more at e -/
def sp_dist (nc : Nat) (zM : sg_M) (x : Nat) (e : Option Nat) : Option Nat := sp_dF (sp_isT zM) x nc 0 (e.map (sp_d x))
theorem sp_dist_ob {nc : Nat} (hc : nc ≤ 20) (zM : sg_M) {x : Nat} (hx : x < 20) (e : Option Nat) (he : ∀ q, e = some q → q < 20) : sp_ob (sp_dist nc zM x e) := by
  refine sp_dF_ob _ hx _ _ _ (by omega) ?_
  cases e with
  | none => exact sp_ob_n
  | some q =>
    intro m hm
    cases hm
    exact sp_d_lt hx (he q rfl)
theorem rC_dist {nc nk tb : Nat} {zC zM : sg_M} (hr : rl_road nc nk zC zM) (hn : rl_now nc nk tb zC zM) {x : Nat} (hx : x < 20) (e : Option Nat) (he : ∀ q, e = some q → q < 20) (n : Nat) (hn1 : 21 ≤ n) : gC_Survey_distanceWith n (nI x) (sp_oC e) zC = some (sp_oC (sp_dist nc zM x e)) := by
  have h1 := hr.1
  unfold gC_Survey_distanceWith sp_dist
  have e1 : (if sp_oC e = -1 then (-1 : Int32) else sg_abs (nI x - sp_oC e)) = sp_oC (e.map (sp_d x)) := by
    cases e with
    | none => rfl
    | some q =>
      have hq := he q rfl
      show (if nI q = -1 then _ else sg_abs (nI x - nI q)) = nI (sp_d x q)
      rw [if_neg (pi_m1 (by omega)), pd_abs hx hq]
  rw [pl_let, e1]
  refine rC_distL hr hn hx nc 0 n _ (by omega) (by omega) ?_
  cases e with
  | none => exact sp_ob_n
  | some q =>
    intro m hm
    cases hm
    exact sp_d_lt hx (he q rfl)
theorem rM_dist {nc nk : Nat} {zC zM : sg_M} (hr : rl_road nc nk zC zM) {x : Nat} (hx : x < 20) (n : Nat) (hn1 : 21 ≤ n) : gM_distanceTo n (nI x) (nI (sp_towns nc zM)) zM = some (sp_oM (sp_dist nc zM x none)) := by
  have h1 := hr.1
  have h2 := sp_towns_lt h1 zM
  unfold gM_distanceTo sp_dist
  have h3 := rM_distL hr hx (sp_towns nc zM) (by omega) nc 0 n none (by omega) (by omega) sp_ob_n
  refine h3.trans ?_
  congr 2
  exact sp_dF_cong x nc 0 none (fun y _ hy => sp_towns_bit zM (by omega))
theorem rM_dist1 {nc nk : Nat} {zC zM : sg_M} (hr : rl_road nc nk zC zM) {x e : Nat} (hx : x < 20) (he : e < nc) (n : Nat) (hn1 : 21 ≤ n) : gM_distanceTo n (nI x) (nI (sp_towns nc zM ||| 2 ^ e)) zM = some (sp_oM (sp_dist nc zM x (some e))) := by
  have h1 := hr.1
  have h2 := sp_towns_lt h1 zM
  have h4 : sp_towns nc zM ||| 2 ^ e < 2 ^ 20 := Nat.or_lt_two_pow h2 (Nat.pow_lt_pow_right (by omega) (by omega))
  unfold gM_distanceTo sp_dist
  have h3 := rM_distL hr hx (sp_towns nc zM ||| 2 ^ e) (by omega) nc 0 n none (by omega) (by omega) sp_ob_n
  refine h3.trans ?_
  congr 2
  rw [sp_dF_cong (S' := fun y => sp_isT zM y || decide (y = e)) x nc 0 none (fun y _ hy => by
    rw [Nat.testBit_or, sp_towns_bit zM (by omega), Nat.testBit_two_pow]
    congr 1
    by_cases h : e = y
    · simp [h]
    · simp [h]
      exact fun q => h q.symm), sp_dF_add, if_pos ⟨by omega, by omega⟩, ← sp_dF_om]
  rfl
theorem sp_towns_0 {nc : Nat} (zM : sg_M) : sp_towns nc zM = 0 ↔ ∀ x, x < nc → sp_isT zM x = false := by
  constructor
  · intro h x hx
    rw [← sp_towns_bit zM hx, h]
    exact Nat.zero_testBit x
  · intro h
    apply Nat.eq_of_testBit_eq
    intro i
    unfold sp_towns
    rw [sp_set_bit, Nat.zero_testBit]
    by_cases hi : i < nc
    · simp [h i hi]
    · simp [hi]
theorem sp_dF_none {S : Nat → Bool} (x : Nat) : ∀ (k j : Nat), (∀ y, j ≤ y → y < j + k → S y = false) → sp_dF S x k j none = none := by
  intro k
  induction k with
  | zero => intro j _; rfl
  | succ k ih =>
    intro j h
    rw [sp_dF, h j (by omega) (by omega)]
    exact ih _ (fun y h1 h2 => h y (by omega) (by omega))
theorem sp_dF_some {S : Nat → Bool} (x : Nat) : ∀ (k j : Nat) (a : Option Nat), (a ≠ none ∨ ∃ y, j ≤ y ∧ y < j + k ∧ S y = true) → sp_dF S x k j a ≠ none := by
  intro k
  induction k with
  | zero =>
    intro j a h
    rcases h with h | ⟨y, h1, h2, -⟩
    · exact h
    · omega
  | succ k ih =>
    intro j a h
    rw [sp_dF]
    apply ih
    by_cases hS : S j = true
    · left
      rw [if_pos hS]
      cases a <;> simp [sp_om]
    · rw [if_neg hS]
      rcases h with h | ⟨y, h1, h2, h3⟩
      · exact Or.inl h
      · refine Or.inr ⟨y, ?_, by omega, h3⟩
        rcases Nat.lt_or_ge j y with q | q
        · omega
        · have : y = j := by omega
          rw [this] at h3
          exact absurd h3 hS
theorem rr_farL {nc nk tb : Nat} {zC zM : sg_M} (hr : rl_road nc nk zC zM) (hn : rl_now nc nk tb zC zM) : ∀ (k j n : Nat) (a : Int32), j + k = nc → k + 25 ≤ n → (sp_towns nc zM = 0 → a = -1) → ∃ v, gC_Survey_farthest_L n a (nI j) zC = some v ∧ gM_farOf_L n a (nI j) zM = some v := by
  have h1 := hr.1
  have h4 := hr.2.2.2.1
  have h5 := hr.2.2.2.2.1
  have htl := sp_towns_lt h1 zM
  intro k
  induction k with
  | zero =>
    intro j n a hj hn1 _
    obtain ⟨m, rfl⟩ : ∃ m, n = m + 1 := ⟨n - 1, by omega⟩
    unfold gC_Survey_farthest_L gM_farOf_L
    have e : nI nc ≤ nI j := (pi_le (by omega) (by omega)).mpr (by omega)
    rw [h4, h5, if_pos e, if_pos e]
    exact ⟨_, rfl, rfl⟩
  | succ k ih =>
    intro j n a hj hn1 ha
    obtain ⟨m, rfl⟩ : ∃ m, n = m + 1 := ⟨n - 1, by omega⟩
    unfold gC_Survey_farthest_L gM_farOf_L
    have e : ¬ nI nc ≤ nI j := by rw [pi_le (by omega) (by omega)]; omega
    have hC := rC_dist hr hn (x := j) (by omega) none (fun q h => by cases h) m (by omega)
    rw [show sp_oC none = (-1 : Int32) from rfl] at hC
    rw [h4, h5, if_neg e, if_neg e, hC, (rr_towns hr hn m (by omega)).2, nI_1]
    simp only [Option.bind_some, pl_let]
    by_cases h0 : sp_towns nc zM = 0
    · rw [h0, if_pos (show nI 0 = 0 from rfl)]
      have hd : sp_dist nc zM j none = none := sp_dF_none j nc 0 (fun y _ hy => (sp_towns_0 zM).mp h0 y (by omega))
      rw [hd, show sp_oC none = (-1 : Int32) from rfl, ha h0, show sg_max (-1) (-1) = -1 by decide]
      have : ∀ (k j n : Nat), j + k = nc → k + 22 ≤ n → gC_Survey_farthest_L n (-1) (nI j) zC = some (-1) := by
        intro k
        induction k with
        | zero =>
          intro j n hj hn1
          obtain ⟨m, rfl⟩ : ∃ m, n = m + 1 := ⟨n - 1, by omega⟩
          unfold gC_Survey_farthest_L
          rw [h4, if_pos ((pi_le (by omega) (by omega)).mpr (by omega))]
        | succ k ih2 =>
          intro j n hj hn1
          obtain ⟨m, rfl⟩ : ∃ m, n = m + 1 := ⟨n - 1, by omega⟩
          unfold gC_Survey_farthest_L
          have hC := rC_dist hr hn (x := j) (by omega) none (fun q h => by cases h) m (by omega)
          rw [show sp_oC none = (-1 : Int32) from rfl, show sp_dist nc zM j none = none from sp_dF_none j nc 0 (fun y _ hy => (sp_towns_0 zM).mp h0 y (by omega))] at hC
          rw [h4, if_neg (by rw [pi_le (by omega) (by omega)]; omega), hC, nI_1]
          simp only [Option.bind_some, pl_let]
          rw [show sg_max (-1) (sp_oC none) = -1 by decide]
          exact ih2 (j + 1) m (by omega) (by omega)
      exact ⟨-1, this k (j + 1) m (by omega) (by omega), rfl⟩
    · rw [if_neg (show ¬ nI (sp_towns nc zM) = 0 from nI_ne0 (by omega) (by omega)), rM_dist hr (by omega) m (by omega)]
      simp only [Option.bind_some]
      have hd : sp_dist nc zM j none ≠ none := by
        apply sp_dF_some
        right
        have hex : ¬ ∀ x, x < nc → sp_isT zM x = false := fun q => h0 ((sp_towns_0 zM).mpr q)
        obtain ⟨y, hy⟩ := Classical.not_forall.mp hex
        obtain ⟨hy1, hy2⟩ := Classical.not_imp.mp hy
        exact ⟨y, by omega, by omega, by simpa using hy2⟩
      obtain ⟨q, hq⟩ := Option.ne_none_iff_exists'.mp hd
      rw [hq]
      show ∃ v, gC_Survey_farthest_L m (sg_max a (nI q)) (nI (j + 1)) zC = some v ∧ gM_farOf_L m (if nI q ≤ a then a else nI q) (nI (j + 1)) zM = some v
      have e2 : sg_max a (nI q) = if nI q ≤ a then a else nI q := by
        unfold sg_max
        by_cases h : nI q ≤ a
        · rw [if_pos h, if_neg (Int32.not_lt.mpr h)]
        · rw [if_neg h, if_pos (Int32.not_le.mp h)]
      rw [e2]
      exact ih (j + 1) m _ (by omega) (by omega) (fun h => absurd h h0)
theorem rr_far {nc nk tb : Nat} {zC zM : sg_M} (hr : rl_road nc nk zC zM) (hn : rl_now nc nk tb zC zM) (n : Nat) (hn1 : 60 ≤ n) : ∃ v, gC_Survey_farthest n zC = some v ∧ gM_farOf n zM = some v := by
  have h1 := hr.1
  exact rr_farL hr hn nc 0 n (-1) (by omega) (by omega) (fun _ => rfl)
/-! place -/
def sp_sumF (nc : Nat) (zM : sg_M) (e : Nat) : Nat → Nat → Nat → Nat
  | 0, _, a => a
  | k + 1, j, a => sp_sumF nc zM e k (j + 1) (a + (sp_dist nc zM j (some e)).getD 0)
def sp_sum (nc : Nat) (zM : sg_M) (e : Nat) : Nat := sp_sumF nc zM e nc 0 0
theorem sp_dist_some (nc : Nat) (zM : sg_M) (x e : Nat) : sp_dist nc zM x (some e) ≠ none := by
  apply sp_dF_some
  left
  simp
theorem sp_dist_get {nc : Nat} (hc : nc ≤ 20) (zM : sg_M) {x e : Nat} (hx : x < 20) (he : e < 20) : ∃ q, q < 20 ∧ sp_dist nc zM x (some e) = some q ∧ (sp_dist nc zM x (some e)).getD 0 = q := by
  obtain ⟨q, hq⟩ := Option.ne_none_iff_exists'.mp (sp_dist_some nc zM x e)
  have hb := sp_dist_ob hc zM hx (some e) (fun p hp => by cases hp; exact he) q hq
  exact ⟨q, hb, hq, by rw [hq]; rfl⟩
theorem sp_sumF_le {nc : Nat} (hc : nc ≤ 20) (zM : sg_M) {e : Nat} (he : e < 20) : ∀ (k j a : Nat), j + k ≤ 20 → sp_sumF nc zM e k j a ≤ a + 20 * k := by
  intro k
  induction k with
  | zero => intro j a _; exact Nat.le_refl _
  | succ k ih =>
    intro j a hj
    rw [sp_sumF]
    obtain ⟨q, hq, -, hq2⟩ := sp_dist_get hc zM (x := j) (by omega) he
    have := ih (j + 1) (a + (sp_dist nc zM j (some e)).getD 0) (by omega)
    omega
theorem sp_sum_le {nc : Nat} (hc : nc ≤ 20) (zM : sg_M) {e : Nat} (he : e < 20) : sp_sum nc zM e ≤ 400 := by
  have := sp_sumF_le hc zM he nc 0 0 (by omega)
  unfold sp_sum
  omega
theorem rC_sumL {nc nk tb : Nat} {zC zM : sg_M} (hr : rl_road nc nk zC zM) (hn : rl_now nc nk tb zC zM) {e : Nat} (he : e < 20) : ∀ (k j n a : Nat), j + k = nc → k + 25 ≤ n → gC_Survey_distancesWith_L n (nI e) (nI a) (nI j) zC = some (nI (sp_sumF nc zM e k j a)) := by
  have h1 := hr.1
  have h4 := hr.2.2.2.1
  intro k
  induction k with
  | zero =>
    intro j n a hj hn1
    obtain ⟨m, rfl⟩ : ∃ m, n = m + 1 := ⟨n - 1, by omega⟩
    unfold gC_Survey_distancesWith_L
    rw [h4, if_pos ((pi_le (by omega) (by omega)).mpr (by omega))]
    rfl
  | succ k ih =>
    intro j n a hj hn1
    obtain ⟨m, rfl⟩ : ∃ m, n = m + 1 := ⟨n - 1, by omega⟩
    unfold gC_Survey_distancesWith_L
    have hC := rC_dist hr hn (x := j) (by omega) (some e) (fun q h => by cases h; exact he) m (by omega)
    obtain ⟨q, hq, hq1, hq2⟩ := sp_dist_get h1 zM (x := j) (by omega) he
    rw [show sp_oC (some e) = nI e from rfl, hq1] at hC
    rw [h4, if_neg (by rw [pi_le (by omega) (by omega)]; omega), hC, nI_1]
    simp only [Option.bind_some, pl_let]
    rw [show sp_oC (some q) = nI q from rfl, nI_add, sp_sumF, hq2]
    exact ih (j + 1) m _ (by omega) (by omega)
theorem rC_sum {nc nk tb : Nat} {zC zM : sg_M} (hr : rl_road nc nk zC zM) (hn : rl_now nc nk tb zC zM) {e : Nat} (he : e < 20) (n : Nat) (hn1 : 50 ≤ n) : gC_Survey_distancesWith n (nI e) zC = some (nI (sp_sum nc zM e)) := by
  have h1 := hr.1
  exact rC_sumL hr hn he nc 0 n 0 (by omega) (by omega)
/-- the best place among j .. , best so far b (none: no one yet) -/
def sp_plB (nc : Nat) (zM : sg_M) (j : Nat) (b : Option Nat) : Option Nat := match b with
  | none => some j
  | some q => if sp_sum nc zM q ≤ sp_sum nc zM j then some q else some j
def sp_plS (nc : Nat) (zM : sg_M) (j : Nat) (b : Option Nat) : Option Nat := if zM.2 5 (20 + j) = -1 then sp_plB nc zM j b else b
def sp_plF (nc : Nat) (zM : sg_M) : Nat → Nat → Option Nat → Option Nat
  | 0, _, b => b
  | k + 1, j, b => sp_plF nc zM k (j + 1) (sp_plS nc zM j b)
def sp_t2 (zM : sg_M) (x : Nat) (v3 : Int32) (s : Nat) : Int32 := if zM.2 5 (20 + x) = -1 then (if v3 ≤ nI s then 0 else 1) else 0
def sp_pl (nc : Nat) (zM : sg_M) : Option Nat := sp_plF nc zM nc 0 none
def sp_lC (nc : Nat) (zM : sg_M) (b : Option Nat) : Int32 := match b with
  | none => 0
  | some q => nI (sp_sum nc zM q)
def sp_lM (nc : Nat) (zM : sg_M) (b : Option Nat) : Int32 := match b with
  | none => 1000000
  | some q => nI (sp_sum nc zM q)
theorem rC_plL {nc nk tb : Nat} {zC zM : sg_M} (hr : rl_road nc nk zC zM) (hn : rl_now nc nk tb zC zM) : ∀ (k j n : Nat) (b : Option Nat), j + k = nc → k + 60 ≤ n → sp_ob b → gC_Survey_bestPlace_L n (sp_oC b) (sp_lC nc zM b) (nI j) zC = some (sp_oC (sp_plF nc zM k j b)) := by
  have h1 := hr.1
  have h4 := hr.2.2.2.1
  intro k
  induction k with
  | zero =>
    intro j n b hj hn1 _
    obtain ⟨m, rfl⟩ : ∃ m, n = m + 1 := ⟨n - 1, by omega⟩
    unfold gC_Survey_bestPlace_L
    rw [h4, if_pos ((pi_le (by omega) (by omega)).mpr (by omega))]
    rfl
  | succ k ih =>
    intro j n b hj hn1 hb
    obtain ⟨m, rfl⟩ : ∃ m, n = m + 1 := ⟨n - 1, by omega⟩
    unfold gC_Survey_bestPlace_L
    rw [h4, if_neg (by rw [pi_le (by omega) (by omega)]; omega), rC_town hn (by omega), rC_sum hr hn (e := j) (by omega) m (by omega), nI_1]
    simp only [Option.bind_some]
    rw [sp_plF]
    unfold sp_plS
    by_cases h : zM.2 5 (20 + j) = -1
    · rw [sp_town_0.mpr h, if_pos rfl, if_pos h]
      unfold sp_plB
      cases b with
      | none =>
        rw [show sp_oC none = (-1 : Int32) from rfl, if_pos rfl]
        simp only [Option.bind_some]
        exact ih (j + 1) m (some j) (by omega) (by omega) (fun q hq => by cases hq; omega)
      | some q =>
        have hq := hb q rfl
        rw [show sp_oC (some q) = nI q from rfl, if_neg (pi_m1 (by omega)), show sp_lC nc zM (some q) = nI (sp_sum nc zM q) from rfl]
        have s1 := sp_sum_le h1 zM (e := q) (by omega)
        have s2 := sp_sum_le h1 zM (e := j) (by omega)
        by_cases hle : sp_sum nc zM q ≤ sp_sum nc zM j
        · simp only [if_pos ((pi_le (a := sp_sum nc zM q) (b := sp_sum nc zM j) (by omega) (by omega)).mpr hle), if_pos hle, Option.bind_some]
          exact ih (j + 1) m (some q) (by omega) (by omega) hb
        · simp only [if_neg (show ¬ nI (sp_sum nc zM q) ≤ nI (sp_sum nc zM j) by rw [pi_le (by omega) (by omega)]; exact hle), if_neg hle, Option.bind_some]
          exact ih (j + 1) m (some j) (by omega) (by omega) (fun q hq => by cases hq; omega)
    · rw [show sp_town zM j = 1 by unfold sp_town; rw [if_neg h], if_neg (by decide), if_neg h]
      simp only [Option.bind_some]
      exact ih (j + 1) m b (by omega) (by omega) hb
theorem rM_plI {nc nk tb : Nat} {zC zM : sg_M} (hr : rl_road nc nk zC zM) (hn : rl_now nc nk tb zC zM) (w v2 v3 : Int32) {x : Nat} (hx : x < nc) : ∀ (k y n a : Nat), y + k = nc → k + 60 ≤ n → gM_place_LL n 46 w v2 v3 (nI x) (nI a) (nI y) zM = gM_place_LL (n - k - 1) 31 w (if sp_t2 zM x v3 (sp_sumF nc zM x k y a) = 0 then v2 else nI x) (if sp_t2 zM x v3 (sp_sumF nc zM x k y a) = 0 then v3 else nI (sp_sumF nc zM x k y a)) (nI (x + 1)) 0 0 zM := by
  have h1 := hr.1
  have h5 := hr.2.2.2.2.1
  intro k
  induction k with
  | zero =>
    intro y n a hy hn1
    obtain ⟨m, rfl⟩ : ∃ m, n = m + 1 := ⟨n - 1, by omega⟩
    conv => lhs; unfold gM_place_LL
    rw [if_neg (show ¬ (46 : Nat) = 31 by decide), if_pos rfl, h5, if_pos ((pi_le (by omega) (by omega)).mpr (by omega)), rM_town (by omega), nI_1]
    rw [show sp_sumF nc zM x 0 y a = a from rfl]
    simp only [Option.bind_some, pl_let]
    have e9 : (if sp_town zM x = (0 : Int32) then (if v3 ≤ nI a then (0 : Int32) else (1 : Int32)) else (0 : Int32)) = sp_t2 zM x v3 a := by
      unfold sp_t2
      by_cases h : zM.2 5 (20 + x) = -1
      · rw [sp_town_0.mpr h, if_pos rfl, if_pos h]
      · rw [show sp_town zM x = 1 by unfold sp_town; rw [if_neg h], if_neg (by decide), if_neg h]
    rw [e9, show m + 1 - 0 - 1 = m by omega]
  | succ k ih =>
    intro y n a hy hn1
    obtain ⟨m, rfl⟩ : ∃ m, n = m + 1 := ⟨n - 1, by omega⟩
    conv => lhs; unfold gM_place_LL
    obtain ⟨q, hq, hq1, hq2⟩ := sp_dist_get h1 zM (x := y) (e := x) (by omega) (by omega)
    rw [if_neg (show ¬ (46 : Nat) = 31 by decide), if_pos rfl, h5, if_neg (by rw [pi_le (by omega) (by omega)]; omega), (rr_towns hr hn m (by omega)).2, nI_1]
    simp only [Option.bind_some, pl_let]
    rw [pb_shl (by omega), pb_or, rM_dist1 hr (x := y) (by omega) hx m (by omega), hq1]
    simp only [Option.bind_some]
    rw [show sp_oM (some q) = nI q from rfl, nI_add, ih (y + 1) m (a + q) (by omega) (by omega), sp_sumF, hq2, show m + 1 - (k + 1) - 1 = m - k - 1 by omega]
theorem rM_plL {nc nk tb : Nat} {zC zM : sg_M} (hr : rl_road nc nk zC zM) (hn : rl_now nc nk tb zC zM) (w : Int32) : ∀ (k j n : Nat) (b : Option Nat), j + k = nc → (nc + 2) * k + 100 ≤ n → sp_ob b → gM_place_LL n 31 w (sp_oC b) (sp_lM nc zM b) (nI j) 0 0 zM = (let r := sp_plF nc zM k j b; if sp_oC r < 0 then some (sp_oC r) else if w = 0 then some (sp_oC r) else some (sp_lM nc zM r)) := by
  have h1 := hr.1
  have h5 := hr.2.2.2.2.1
  intro k
  induction k with
  | zero =>
    intro j n b hj hn1 _
    obtain ⟨m, rfl⟩ : ∃ m, n = m + 1 := ⟨n - 1, by omega⟩
    conv => lhs; unfold gM_place_LL
    rw [if_pos rfl, h5, if_pos ((pi_le (by omega) (by omega)).mpr (by omega))]
    rfl
  | succ k ih =>
    intro j n b hj hn1 hb
    have hmul : (nc + 2) * (k + 1) = (nc + 2) * k + (nc + 2) := Nat.mul_succ _ _
    obtain ⟨m, rfl⟩ : ∃ m, n = m + 1 := ⟨n - 1, by omega⟩
    conv => lhs; unfold gM_place_LL
    rw [if_pos rfl, h5, if_neg (by rw [pi_le (by omega) (by omega)]; omega), show (0 : Int32) = nI 0 from rfl, rM_plI hr hn w _ _ (x := j) (by omega) nc 0 m 0 (by omega) (by omega)]
    rw [show sp_sumF nc zM j nc 0 0 = sp_sum nc zM j from rfl, sp_plF]
    have s2 := sp_sum_le h1 zM (e := j) (by omega)
    unfold sp_plS sp_t2
    by_cases h : zM.2 5 (20 + j) = -1
    · simp only [if_pos h]
      unfold sp_plB
      cases b with
      | none =>
        simp only [show sp_lM nc zM none = nI 1000000 from rfl, if_neg (show ¬ nI 1000000 ≤ nI (sp_sum nc zM j) by rw [pi_le (by omega) (by omega)]; omega), if_neg (show ¬ (1 : Int32) = 0 by decide)]
        exact ih (j + 1) (m - nc - 1) (some j) (by omega) (by omega) (fun q hq => by cases hq; omega)
      | some q =>
        have hq := hb q rfl
        have s1 := sp_sum_le h1 zM (e := q) (by omega)
        simp only [show sp_lM nc zM (some q) = nI (sp_sum nc zM q) from rfl]
        by_cases hle : sp_sum nc zM q ≤ sp_sum nc zM j
        · simp only [if_pos ((pi_le (a := sp_sum nc zM q) (b := sp_sum nc zM j) (by omega) (by omega)).mpr hle), if_pos hle, if_true]
          exact ih (j + 1) (m - nc - 1) (some q) (by omega) (by omega) hb
        · simp only [if_neg (show ¬ nI (sp_sum nc zM q) ≤ nI (sp_sum nc zM j) by rw [pi_le (by omega) (by omega)]; exact hle), if_neg (show ¬ (1 : Int32) = 0 by decide), if_neg hle]
          exact ih (j + 1) (m - nc - 1) (some j) (by omega) (by omega) (fun q hq => by cases hq; omega)
    · simp only [if_neg h, if_true]
      exact ih (j + 1) (m - nc - 1) b (by omega) (by omega) hb
theorem sp_plF_ob {nc : Nat} (zM : sg_M) : ∀ (k j : Nat) (b : Option Nat), j + k ≤ 20 → sp_ob b → sp_ob (sp_plF nc zM k j b) := by
  intro k
  induction k with
  | zero => intro j b _ h; exact h
  | succ k ih =>
    intro j b hj h
    rw [sp_plF]
    refine ih _ _ (by omega) ?_
    unfold sp_plS
    split
    · unfold sp_plB
      cases b with
      | none => intro m hm; cases hm; omega
      | some q =>
        intro m hm
        have := h q rfl
        simp only at hm
        split at hm
        · cases hm; exact this
        · cases hm; omega
    · exact h
/-- promise 24 -/
theorem rr_place {nc nk tb : Nat} {zC zM : sg_M} (hr : rl_road nc nk zC zM) (hn : rl_now nc nk tb zC zM) (w : Int32) (hw : w = 0 ∨ w = 1) (h0 : nc ≠ 0) (n : Nat) (hn1 : 1000 ≤ n) : ∃ v, (Option.bind (gC_Survey_bestPlace n zC) fun r1 => if w = (0 : Int32) then (some r1) else (if r1 = (-1 : Int32) then (some r1) else (Option.bind (gC_Survey_distancesWith n r1 zC) fun r2 => some r2))) = some v ∧ gM_place_LL n 31 w (-1) 1000000 0 0 0 zM = some v := by
  have h1 := hr.1
  have hC := rC_plL hr hn nc 0 n none (by omega) (by omega) sp_ob_n
  have hM := rM_plL hr hn w nc 0 n none (by omega) (by
    have : (nc + 2) * nc ≤ 22 * 20 := Nat.mul_le_mul (by omega) (by omega)
    omega) sp_ob_n
  have hob := sp_plF_ob (nc := nc) zM nc 0 none (by omega) sp_ob_n
  rw [show gC_Survey_bestPlace n zC = gC_Survey_bestPlace_L n (sp_oC none) (sp_lC nc zM none) (nI 0) zC from rfl, hC]
  rw [show gM_place_LL n 31 w (-1) 1000000 0 0 0 zM = gM_place_LL n 31 w (sp_oC none) (sp_lM nc zM none) (nI 0) 0 0 zM from rfl, hM]
  simp only [Option.bind_some]
  cases hp : sp_plF nc zM nc 0 none with
  | none =>
    rw [show sp_oC none = (-1 : Int32) from rfl, if_pos (show (-1 : Int32) < 0 by decide), if_pos rfl]
    exact ⟨-1, by split <;> rfl, rfl⟩
  | some q =>
    have hq := hob q hp
    rw [show sp_oC (some q) = nI q from rfl, if_neg (pi_nneg (by omega)), if_neg (pi_m1 (by omega)), rC_sum hr hn hq n (by omega)]
    rcases hw with rfl | rfl
    · exact ⟨nI q, rfl, rfl⟩
    · exact ⟨nI (sp_sum nc zM q), rfl, rfl⟩
