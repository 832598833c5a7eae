/-! orders: the pure part -/
def od_up (b : Int32 × Int32) (v f : Int32) : Int32 × Int32 := if v ≤ b.1 then b else (v, f)
def od_cl (l c : Nat) : Nat := l &&& (2 ^ c ^^^ 4294967295)
def od_tw (S : Nat → Nat → Int32) (t c n : Nat) : Nat := if S c n = -1 then t else t ||| 2 ^ (S c n).toNatClampNeg
def od_in (S : Nat → Nat → Int32) (t c n : Nat) : Nat := if S c n = -1 then 0 else if t.testBit (S c n).toNatClampNeg then 0 else 1
def od_fo (step : Nat → Int32 × Int32 → Int32 × Int32) : Nat → Nat → Int32 × Int32 → Int32 × Int32
  | 0, _, b => b
  | k + 1, c, b => od_fo step k (c + 1) (step c b)
def od (S : Nat → Nat → Int32) (nk : Nat) : Nat → Nat → Nat → Nat → Nat → Nat → Int32 × Int32 → Int32 × Int32
  | 0, _, _, _, fnd, fig, b => od_up b (nI fnd) (nI fig)
  | r + 1, n, left, t, fnd, fig, b => od_fo (fun c b => if left.testBit c then od S nk r (n + 1) (od_cl left c) (od_tw S t c n) (fnd + od_in S t c n) (fig * 10 + (c + 1)) b else b) nk 0 b
def od_ev (S : Nat → Nat → Int32) (fig : Nat) : Nat → Nat → Nat → Nat → Nat → Int32
  | 0, _, _, _, fnd => nI fnd
  | r + 1, n, left, t, fnd => if fig / 10 ^ r % 10 = 0 then -1 else if left.testBit (fig / 10 ^ r % 10 - 1) then od_ev S fig r (n + 1) (od_cl left (fig / 10 ^ r % 10 - 1)) (od_tw S t (fig / 10 ^ r % 10 - 1) n) (fnd + od_in S t (fig / 10 ^ r % 10 - 1) n) else -1
def od_en (g : Nat → Int32) : Nat → Nat → Int32 × Int32 → Int32 × Int32
  | 0, _, b => b
  | k + 1, f, b => od_en g k (f + 1) (od_up b (g f) (nI f))
theorem od_en_add (g : Nat → Int32) : ∀ (a k f : Nat) (b : Int32 × Int32), od_en g (a + k) f b = od_en g k (f + a) (od_en g a f b) := by
  intro a
  induction a with
  | zero => intro k f b; rw [Nat.zero_add]; rfl
  | succ a ih =>
    intro k f b
    rw [show a + 1 + k = (a + k) + 1 by omega]
    show od_en g (a + k) (f + 1) _ = _
    rw [ih k (f + 1), show f + 1 + a = f + (a + 1) by omega]
    rfl
theorem od_en_c (g h : Nat → Int32) : ∀ (k f : Nat) (b : Int32 × Int32), (∀ i, f ≤ i → i < f + k → g i = h i) → od_en g k f b = od_en h k f b := by
  intro k
  induction k with
  | zero => intro f b _; rfl
  | succ k ih =>
    intro f b e
    show od_en g k (f + 1) (od_up b (g f) (nI f)) = od_en h k (f + 1) (od_up b (h f) (nI f))
    rw [e f (Nat.le_refl _) (by omega)]
    exact ih _ _ (fun i h1 h2 => e i (by omega) (by omega))
theorem od_up_le (b : Int32 × Int32) (v f : Int32) (h : -1 ≤ b.1) : -1 ≤ (od_up b v f).1 := by
  unfold od_up
  by_cases c : v ≤ b.1
  · rw [if_pos c]; exact h
  · rw [if_neg c]
    show -1 ≤ v
    rw [pi_leT] at *
    omega
theorem od_en_le (g : Nat → Int32) : ∀ (k f : Nat) (b : Int32 × Int32), -1 ≤ b.1 → -1 ≤ (od_en g k f b).1 := by
  intro k
  induction k with
  | zero => intro f b h; exact h
  | succ k ih => intro f b h; exact ih _ _ (od_up_le b _ _ h)
theorem od_en_n (g : Nat → Int32) : ∀ (k f : Nat) (b : Int32 × Int32), -1 ≤ b.1 → (∀ i, f ≤ i → i < f + k → g i = -1) → od_en g k f b = b := by
  intro k
  induction k with
  | zero => intro f b _ _; rfl
  | succ k ih =>
    intro f b h e
    show od_en g k (f + 1) (od_up b (g f) (nI f)) = b
    have e1 : od_up b (g f) (nI f) = b := by
      unfold od_up
      rw [e f (Nat.le_refl _) (by omega), if_pos h]
    rw [e1]
    exact ih _ _ h (fun i h1 h2 => e i (by omega) (by omega))
theorem od_dig {f0 d r i : Nat} (hd : d < 10) (h1 : (f0 * 10 + d) * 10 ^ r ≤ i) (h2 : i < (f0 * 10 + d) * 10 ^ r + 10 ^ r) : i / 10 ^ r % 10 = d := by
  have hp : 0 < 10 ^ r := Nat.pos_of_ne_zero (by simp)
  have e : i / 10 ^ r = f0 * 10 + d := by
    apply Nat.div_eq_of_lt_le
    · exact h1
    · rw [Nat.add_mul, Nat.one_mul]; exact h2
  rw [e]
  omega
/-- blocks of figures by their first one -/
def od_bl (g : Nat → Int32) (w f0 : Nat) : Nat → Nat → Int32 × Int32 → Int32 × Int32
  | 0, _, b => b
  | k + 1, d, b => od_bl g w f0 k (d + 1) (od_en g w ((f0 * 10 + d) * w) b)
theorem od_en_bl (g : Nat → Int32) (w f0 : Nat) : ∀ (k d : Nat) (b : Int32 × Int32), od_en g (k * w) ((f0 * 10 + d) * w) b = od_bl g w f0 k d b := by
  intro k
  induction k with
  | zero => intro d b; rw [Nat.zero_mul]; rfl
  | succ k ih =>
    intro d b
    rw [Nat.succ_mul, Nat.add_comm, od_en_add]
    show _ = od_bl g w f0 k (d + 1) (od_en g w ((f0 * 10 + d) * w) b)
    rw [← ih (d + 1)]
    congr 1
    rw [show f0 * 10 + (d + 1) = (f0 * 10 + d) + 1 by omega, Nat.add_mul (f0 * 10 + d) 1 w, Nat.one_mul]
theorem od_bl_le (g : Nat → Int32) (w f0 : Nat) : ∀ (k d : Nat) (b : Int32 × Int32), -1 ≤ b.1 → -1 ≤ (od_bl g w f0 k d b).1 := by
  intro k
  induction k with
  | zero => intro d b h; exact h
  | succ k ih => intro d b h; exact ih _ _ (od_en_le _ _ _ _ h)
theorem od_tb {l c i : Nat} (h : (od_cl l c).testBit i = true) : l.testBit i = true := by
  unfold od_cl at h
  rw [Nat.testBit_and] at h
  exact (Bool.and_eq_true _ _ ▸ h).1
theorem od_main (S : Nat → Nat → Int32) {nk : Nat} (hk : nk ≤ 8) : ∀ (r n left t fnd f0 : Nat) (b : Int32 × Int32), -1 ≤ b.1 → (∀ c, left.testBit c = true → c < nk) → od_en (fun fig => od_ev S fig r n left t fnd) (10 ^ r) (f0 * 10 ^ r) b = od S nk r n left t fnd f0 b := by
  intro r
  induction r with
  | zero =>
    intro n left t fnd f0 b hb hl
    rw [Nat.pow_zero, Nat.mul_one]
    rfl
  | succ r ih =>
    intro n left t fnd f0 b hb hl
    have e0 : f0 * 10 ^ (r + 1) = (f0 * 10 + 0) * 10 ^ r := by rw [Nat.pow_succ, Nat.add_zero, Nat.mul_assoc, Nat.mul_comm (10 ^ r) 10]
    have e1 : 10 ^ (r + 1) = 10 * 10 ^ r := by rw [Nat.pow_succ, Nat.mul_comm]
    rw [e0, e1, od_en_bl]
    -- one block
    have blk : ∀ (d : Nat) (b : Int32 × Int32), d < 10 → -1 ≤ b.1 → od_en (fun fig => od_ev S fig (r + 1) n left t fnd) (10 ^ r) ((f0 * 10 + d) * 10 ^ r) b = if d = 0 then b else if left.testBit (d - 1) then od S nk r (n + 1) (od_cl left (d - 1)) (od_tw S t (d - 1) n) (fnd + od_in S t (d - 1) n) (f0 * 10 + (d - 1 + 1)) b else b := by
      intro d b hd hb
      by_cases d0 : d = 0
      · rw [if_pos d0]
        refine od_en_n _ _ _ _ hb (fun i h1 h2 => ?_)
        show od_ev S i (r + 1) n left t fnd = -1
        unfold od_ev
        rw [od_dig hd h1 h2, if_pos d0]
      · rw [if_neg d0]
        by_cases hbit : left.testBit (d - 1) = true
        · rw [if_pos hbit, show d - 1 + 1 = d by omega, ← ih (n + 1) (od_cl left (d - 1)) _ _ (f0 * 10 + d) b hb (fun c hc => hl c (od_tb hc))]
          refine od_en_c _ _ _ _ _ (fun i h1 h2 => ?_)
          show od_ev S i (r + 1) n left t fnd = _
          conv => lhs; unfold od_ev
          rw [od_dig hd h1 h2, if_neg d0, if_pos hbit]
        · rw [if_neg hbit]
          refine od_en_n _ _ _ _ hb (fun i h1 h2 => ?_)
          show od_ev S i (r + 1) n left t fnd = -1
          unfold od_ev
          rw [od_dig hd h1 h2, if_neg d0, if_neg hbit]
    -- the blocks behind the last cart
    have tail : ∀ (k d : Nat) (b : Int32 × Int32), d + k = 10 → nk < d → -1 ≤ b.1 → od_bl (fun fig => od_ev S fig (r + 1) n left t fnd) (10 ^ r) f0 k d b = b := by
      intro k
      induction k with
      | zero => intro d b _ _ _; rfl
      | succ k ih2 =>
        intro d b h1 h2 h3
        have hbit : ¬ left.testBit (d - 1) = true := fun h => by have := hl _ h; omega
        show od_bl _ _ _ k (d + 1) (od_en _ _ _ b) = b
        rw [blk d b (by omega) h3, if_neg (by omega), if_neg hbit]
        exact ih2 (d + 1) b (by omega) (by omega) h3
    have mid : ∀ (k c : Nat) (b : Int32 × Int32), c + k = nk → -1 ≤ b.1 → od_bl (fun fig => od_ev S fig (r + 1) n left t fnd) (10 ^ r) f0 (9 - c) (c + 1) b = od_fo (fun c b => if left.testBit c then od S nk r (n + 1) (od_cl left c) (od_tw S t c n) (fnd + od_in S t c n) (f0 * 10 + (c + 1)) b else b) k c b := by
      intro k
      induction k with
      | zero =>
        intro c b h1 h3
        exact tail (9 - c) (c + 1) b (by omega) (by omega) h3
      | succ k ih2 =>
        intro c b h1 h3
        obtain ⟨q, hq⟩ : ∃ q, 9 - c = q + 1 := ⟨8 - c, by omega⟩
        rw [hq]
        show od_bl _ _ _ q (c + 1 + 1) (od_en _ _ _ b) = od_fo _ k (c + 1) _
        have hle := od_en_le (fun fig => od_ev S fig (r + 1) n left t fnd) (10 ^ r) ((f0 * 10 + (c + 1)) * 10 ^ r) b h3
        rw [show q = 9 - (c + 1) by omega, ih2 (c + 1) _ (by omega) hle, blk (c + 1) b (by omega) h3, if_neg (by omega)]
        rfl
    show od_bl _ _ _ 9 1 (od_en _ _ _ b) = _
    rw [blk 0 b (by omega) hb, if_pos rfl]
    exact mid nk 0 b (by omega) hb
/-! counting -/
def od_pc (l : Nat) : Nat := l % 2 + l / 2 % 2 + l / 4 % 2 + l / 8 % 2 + l / 16 % 2 + l / 32 % 2 + l / 64 % 2 + l / 128 % 2
theorem od_pc0 : ∀ l, l < 256 → od_pc l = 0 → l = 0 := by decide +kernel
theorem od_pc1 : ∀ l, l < 256 → ∀ c, c < 8 → l.testBit c = true → od_pc (od_cl l c) + 1 = od_pc l := by decide +kernel
theorem od_pcC : ∀ l, l < 256 → gC_Integer_bitCount (nI l) = nI (od_pc l) := by decide +kernel
def od_bF (l : Nat) : Nat → Nat → Nat → Nat
  | 0, _, a => a
  | k + 1, j, a => od_bF l k (j + 1) (a + (if l.testBit j then 1 else 0))
theorem od_bF_pc : ∀ l, l < 256 → od_bF l 20 0 0 = od_pc l := by decide +kernel
theorem od_bits {l : Nat} (hl : l < 256) (z : sg_M) : ∀ (k j n a : Nat), j + k = 20 → k < n → gM_bits_L n (nI l) (nI a) (nI j) z = some (nI (od_bF l k j a)) := by
  intro k
  induction k with
  | zero =>
    intro j n a hj hn
    obtain ⟨m, rfl⟩ : ∃ m, n = m + 1 := ⟨n - 1, by omega⟩
    unfold gM_bits_L
    rw [if_pos (show (20 : Int32) ≤ nI j from (pi_le (a := 20) (by omega) (by omega)).mpr (by omega))]
    rfl
  | succ k ih =>
    intro j n a hj hn
    obtain ⟨m, rfl⟩ : ∃ m, n = m + 1 := ⟨n - 1, by omega⟩
    unfold gM_bits_L
    rw [if_neg (show ¬ (20 : Int32) ≤ nI j from fun h => by have := (pi_le (a := 20) (by omega) (by omega)).mp h; omega), pl_let, pb_bit (by omega) (by omega), nI_1]
    have e : nI a + (if l.testBit j = true then (1 : Int32) else 0) = nI (a + (if l.testBit j = true then 1 else 0)) := by
      split
      · exact nI_add a 1
      · exact nI_add a 0
    rw [e]
    exact ih (j + 1) m _ (by omega) (by omega)
theorem pb_xor (a b : Nat) : nI a ^^^ nI b = nI (a ^^^ b) := by
  apply Int32.toBitVec_inj.mp
  simp [nI, Int32.toBitVec_xor, BitVec.ofNat_xor]
theorem pb_all : (-1 : Int32) = nI 4294967295 := by decide
theorem od_clI {l c : Nat} (hc : c < 31) : nI l &&& (sg_shl 1 (nI c) ^^^ -1) = nI (od_cl l c) := by
  rw [pb_shl hc, pb_all, pb_xor, pb_and]
  rfl
theorem od_m20 : ∀ x, x < 20 → (4294967295 : Nat).testBit x = true := by decide +kernel
theorem od_newI {t x : Nat} (hx : x < 20) : (nI (2 ^ x) &&& (nI t ^^^ -1) = 0) ↔ t.testBit x = true := by
  rw [pb_all, pb_xor, pb_and]
  have h2 : 2 ^ x ≤ 2 ^ 20 := Nat.pow_le_pow_right (by omega) (by omega)
  have hle : 2 ^ x &&& (t ^^^ 4294967295) ≤ 2 ^ x := Nat.and_le_left
  have e : nI (2 ^ x &&& (t ^^^ 4294967295)) = 0 ↔ 2 ^ x &&& (t ^^^ 4294967295) = 0 := pi_eq (b := 0) (by omega) (by omega)
  rw [e]
  have hx2 : (t ^^^ 4294967295).testBit x = !(t.testBit x) := by
    rw [Nat.testBit_xor, od_m20 x hx]
    cases t.testBit x <;> rfl
  constructor
  · intro h0
    have h3 : (2 ^ x &&& (t ^^^ 4294967295)).testBit x = false := by rw [h0]; exact Nat.zero_testBit x
    rw [Nat.testBit_and, hx2, Nat.testBit_two_pow_self] at h3
    cases hb : t.testBit x
    · rw [hb] at h3; exact absurd h3 (by decide)
    · rfl
  · intro hb
    apply Nat.eq_of_testBit_eq
    intro i
    rw [Nat.testBit_and, Nat.zero_testBit]
    by_cases hi : x = i
    · subst hi
      rw [hx2, hb]
      simp
    · rw [Nat.testBit_two_pow_of_ne hi]
      rfl
