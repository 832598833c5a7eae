/-! flat memory: numbers of all int fields, contents of all int (boolean) arrays; the words of the decompiled functions -/
abbrev sg_M : Type := (Nat → Int32) × (Nat → Nat → Int32)
def sg_shl (x y : Int32) : Int32 := x <<< (y &&& 31)
def sg_shr (x y : Int32) : Int32 := x >>> (y &&& 31)
def sg_ushr (x y : Int32) : Int32 := (x.toUInt32 >>> (y.toUInt32 &&& Int32.toUInt32 31)).toInt32
def sg_rem (x y : Int32) : Int32 := x - x / y * y
def sg_lrm (x y : Int64) : Int64 := x - x / y * y
def sg_max (x y : Int32) : Int32 := if x < y then y else x
def sg_min (x y : Int32) : Int32 := if y < x then y else x
def sg_abs (x : Int32) : Int32 := if 0 ≤ x then x else 0 - x
/-! guards, binds -/
def sg_in (i : Int32) (n : Nat) : Bool := decide (¬ i < 0) && decide (i.toNatClampNeg < n)
theorem sg_guard {α : Type} {b : Bool} {t : Option α} {r : α} (h : (if b = true then t else none) = some r) : b = true ∧ t = some r := by
  cases b
  · cases h
  · exact ⟨rfl, h⟩
theorem sg_bind {α β : Type} {a : Option α} {f : α → Option β} {r : β} (h : a.bind f = some r) : ∃ x, a = some x ∧ f x = some r := by
  cases a with
  | none => cases h
  | some x => exact ⟨x, rfl, h⟩
def sg_s (z : sg_M) (k : Nat) (x : Int32) : sg_M := (fun j => if j = k then x else z.1 j, z.2)
def sg_a (z : sg_M) (k : Nat) (f : Nat → Int32) : sg_M := (z.1, fun j => if j = k then f else z.2 j)
def sg_w (z : sg_M) (k : Nat) (i x : Int32) : sg_M := sg_a z k (upd (z.2 k) i.toNatClampNeg x)
def sg_cp (z : sg_M) (src dst : Nat) (sp dp n : Int32) : sg_M := sg_a z dst (va_cpy (z.2 src) (z.2 dst) sp.toNatClampNeg dp.toNatClampNeg n.toNatClampNeg)
def sg_cpin (sp dp n : Int32) (n0 n1 : Nat) : Bool := decide (¬ sp < 0) && decide (¬ dp < 0) && decide (¬ n < 0) && decide (sp.toNatClampNeg + n.toNatClampNeg ≤ n0) && decide (dp.toNatClampNeg + n.toNatClampNeg ≤ n1)
theorem sg_cp_of {sp dp n : Int32} {n0 n1 : Nat} (h : sg_cpin sp dp n n0 n1 = true) : ¬ sp < 0 ∧ ¬ dp < 0 ∧ ¬ n < 0 ∧ sp.toNatClampNeg + n.toNatClampNeg ≤ n0 ∧ dp.toNatClampNeg + n.toNatClampNeg ≤ n1 := by
  simpa [sg_cpin, and_assoc] using h
def sg_bool (v : Int32) : Bool := decide (v = 0) || decide (v = 1)
def sg_let {α β : Type} (a : α) (f : α → β) : β := f a
theorem sg_letE {α β : Type} {a : α} {f : α → β} {r : β} (h : sg_let a f = r) : ∃ x, x = a ∧ f x = r := ⟨a, rfl, h⟩
theorem sg_letJ {α β : Type} {a : α} {f : α → β} {r : β} (h : sg_let a f = r) : ∃ x, a = x ∧ f x = r := ⟨a, rfl, h⟩
theorem sg_ifp {α : Type} {c : Prop} [Decidable c] {a b r : α} (hc : c) (h : (if c then a else b) = r) : a = r := by rw [if_pos hc] at h; exact h
theorem sg_ifn {α : Type} {c : Prop} [Decidable c] {a b r : α} (hc : ¬ c) (h : (if c then a else b) = r) : b = r := by rw [if_neg hc] at h; exact h
theorem sg_nz {α : Type} {c : Prop} [Decidable c] {t : Option α} {r : α} (h : (if c then none else t) = some r) : ¬ c ∧ t = some r := by
  by_cases hc : c
  · rw [if_pos hc] at h; cases h
  · rw [if_neg hc] at h; exact ⟨hc, h⟩
