/-! PART II, the pure part: numbers, memories, the relation of the two memories -/
theorem pi_in {j n : Nat} (h : j < n) (hn : n < 2147483648) : sg_in (nI j) n = true := by
  have h1 : ¬ nI j < 0 := nI_pos (by omega)
  have h2 : (nI j).toNatClampNeg = j := nI_clamp (by omega)
  simp [sg_in, h1, h2, h]
theorem pi_cl {j : Nat} (h : j < 2147483648) : (nI j).toNatClampNeg = j := nI_clamp (by omega)
theorem pi_20 (j : Nat) : (20 : Int32) + nI j = nI (20 + j) := nI_add 20 j
theorem pi_40 (j : Nat) : (40 : Int32) + nI j = nI (40 + j) := nI_add 40 j
theorem pi_60 (j : Nat) : (60 : Int32) + nI j = nI (60 + j) := nI_add 60 j
theorem pi_80 (j : Nat) : (80 : Int32) + nI j = nI (80 + j) := nI_add 80 j
theorem pi_88 (j : Nat) : (88 : Int32) + nI j = nI (88 + j) := nI_add 88 j
theorem pi_96 (j : Nat) : (96 : Int32) + nI j = nI (96 + j) := nI_add 96 j
theorem pi_le {a b : Nat} (ha : a < 2147483648) (hb : b < 2147483648) : nI a ≤ nI b ↔ a ≤ b := nI_leI (by omega) (by omega)
theorem pi_lt {a b : Nat} (ha : a < 2147483648) (hb : b < 2147483648) : nI a < nI b ↔ a < b := nI_ltI (by omega) (by omega)
theorem pi_eq {a b : Nat} (ha : a < 2147483648) (hb : b < 2147483648) : nI a = nI b ↔ a = b := nI_eq (by omega) (by omega)
theorem pi_m1 {a : Nat} (ha : a < 2147483648) : ¬ nI a = -1 := by
  intro h
  have h2 := nI_toInt (n := a) (by omega)
  rw [h] at h2
  have h3 : (-1 : Int32).toInt = -1 := by decide
  omega
theorem pi_nneg {a : Nat} (ha : a < 2147483648) : ¬ nI a < 0 := nI_pos (by omega)
theorem pi_nneg' {a : Nat} (ha : a < 2147483648) : (0 : Int32) ≤ nI a := nI_pos' (by omega)
theorem pi_104 : (104 : Int32).toNatClampNeg = 104 := by decide
theorem pi_105 : (105 : Int32).toNatClampNeg = 105 := by decide
theorem pi_c0 : (0 : Int32).toNatClampNeg = 0 := by decide
theorem pi_c1 : (1 : Int32).toNatClampNeg = 1 := by decide
/-! reading a changed memory -/
theorem ps_1 (z : sg_M) (k j : Nat) (x : Int32) : (sg_s z k x).1 j = if j = k then x else z.1 j := rfl
theorem ps_2 (z : sg_M) (k : Nat) (x : Int32) : (sg_s z k x).2 = z.2 := rfl
theorem pa_1 (z : sg_M) (k : Nat) (f : Nat → Int32) : (sg_a z k f).1 = z.1 := rfl
theorem pa_2 (z : sg_M) (k j : Nat) (f : Nat → Int32) : (sg_a z k f).2 j = if j = k then f else z.2 j := rfl
theorem pw_1 (z : sg_M) (k : Nat) (i x : Int32) : (sg_w z k i x).1 = z.1 := rfl
theorem pw_2 (z : sg_M) (k j : Nat) (i x : Int32) : (sg_w z k i x).2 j = if j = k then upd (z.2 k) i.toNatClampNeg x else z.2 j := rfl
theorem pl_let {α β : Type} (a : α) (f : α → β) : sg_let a f = f a := rfl
theorem pu_at (f : Nat → Int32) (k j : Nat) (x : Int32) : upd f k x j = if j = k then x else f j := rfl
/-! the relation -/
/-- the state of section 2 as a row of 106 numbers (the reference's order): what always holds of it -/
def rl_inv (nc nk tb : Nat) (f : Nat → Int32) : Prop :=
  (∀ x, x < 20 → ∃ g, g ≤ 60 ∧ f x = nI g) ∧
  (∀ x, x < 20 → f (20 + x) = -1 ∨ ∃ g, g ≤ 9 ∧ f (20 + x) = nI g) ∧
  (∀ x, x < 20 → f (20 + x) = -1 → f (40 + x) = -1) ∧
  (∀ x, x < 20 → ∃ g, g ≤ 9999 ∧ f (60 + x) = nI g) ∧
  (∀ c, c < nk → f (88 + c) = -1 ∨ ∃ x, x < nc ∧ f (88 + c) = nI x) ∧
  (∀ c, c < nk → ∃ g, 1 ≤ g ∧ g ≤ 60 ∧ f (80 + c) = nI g) ∧
  (∃ d, d ≤ 9060 ∧ f 104 = nI d) ∧ (∃ d, d ≤ 60 ∧ f 105 = nI d ∧ (nc = 0 → d = 0)) ∧ tb ≤ 100000 ∧ (∀ c, c < 8 → ∃ g, g ≤ tb ∧ f (96 + c) = nI g)
def rl_st (nc nk tb : Nat) (ga nm my fk ld sk tm : Nat → Int32) (dy sm : Int32) (f : Nat → Int32) : Prop :=
  (∀ x, x < 20 → ga x = f x) ∧ (∀ x, x < nc → nm x = f (20 + x)) ∧ (∀ x, x < nc → my x = f (40 + x)) ∧ (∀ x, x < 20 → fk x = f (60 + x)) ∧
  (∀ c, c < nk → ld c = f (80 + c)) ∧ (∀ c, c < nk → sk c = f (88 + c)) ∧ (∀ c, c < 8 → tm c = f (96 + c)) ∧ dy = f 104 ∧ sm = f 105 ∧ rl_inv nc nk tb f
def rl_now (nc nk tb : Nat) (zC zM : sg_M) : Prop := rl_st nc nk tb (zC.2 11) (zC.2 12) (zC.2 13) (zC.2 14) (zC.2 15) (zC.2 16) (zC.2 17) (zC.1 12) (zC.1 13) (zM.2 5)
def rl_road (nc nk : Nat) (zC zM : sg_M) : Prop :=
  nc ≤ 20 ∧ nk ≤ 8 ∧ (nc = 0 → nk = 0) ∧ zC.1 9 = nI nc ∧ zM.1 0 = nI nc ∧ zC.1 11 = nI nk ∧ zM.1 2 = nI nk ∧
  (∀ x, x < nc → zC.2 6 x = zM.2 0 x ∧ ∃ g, g ≤ 60 ∧ zM.2 0 x = nI g) ∧
  (∀ c, c < nk → zC.2 8 c = zM.2 2 c ∧ zC.2 10 c = zM.2 4 c ∧ ∃ g, g ≤ 9 ∧ zM.2 4 c = nI g) ∧
  ((zM.1 1 = 0 ∧ zC.1 10 = 1 ∧ zC.2 7 0 = 5) ∨ ∃ nw, 1 ≤ nw ∧ nw ≤ 12 ∧ zM.1 1 = nI nw ∧ zC.1 10 = nI nw ∧ ∀ k, k < nw → zC.2 7 k = zM.2 1 k ∧ ∃ g, g ≤ 30 ∧ zM.2 1 k = nI g)
