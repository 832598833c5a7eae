/-! draws -/
def pl_n (x : Nat) : Int64 := Int64.ofNat x
theorem pl_of {s : Nat} (hs : s < 2147483648) : (nI s).toInt64 = pl_n s := by
  apply Int64.toInt_inj.mp
  rw [Int32.toInt_toInt64, pi_nT hs]
  unfold pl_n
  rw [Int64.toInt_ofNat_of_lt (by omega)]
theorem pl_mul (a b : Nat) : pl_n a * pl_n b = pl_n (a * b) := by
  unfold pl_n
  rw [Int64.ofNat_mul]
theorem pl_add (a b : Nat) : pl_n a + pl_n b = pl_n (a + b) := by
  unfold pl_n
  rw [Int64.ofNat_add]
theorem pl_and (a b : Nat) : pl_n a &&& pl_n b = pl_n (a &&& b) := by
  apply Int64.toBitVec_inj.mp
  simp [pl_n, Int64.toBitVec_and, BitVec.ofNat_and]
theorem pl_sub {a b : Nat} (h : b ≤ a) : pl_n a - pl_n b = pl_n (a - b) := by
  unfold pl_n
  rw [Int64.ofNat_sub _ _ h]
theorem pl_toI {x : Nat} (h : x < 9223372036854775808) : (pl_n x).toInt = (x : Int) := by
  unfold pl_n
  exact Int64.toInt_ofNat_of_lt (by omega)
theorem pl_div {a d : Nat} (h : a < 9223372036854775808) (hd : d < 9223372036854775808) : pl_n a / pl_n d = pl_n (a / d) := by
  apply Int64.toInt_inj.mp
  have hq : a / d ≤ a := Nat.div_le_self _ _
  rw [Int64.toInt_div, pl_toI h, pl_toI hd, pl_toI (by omega)]
  rw [show ((a : Int).tdiv (d : Int)) = ((a / d : Nat) : Int) from rfl]
  generalize a / d = q at *
  rw [Int.bmod_def]
  split <;> omega
theorem pl_i32 {x : Nat} : (pl_n x).toInt32 = nI x := by
  unfold pl_n
  simp [nI]
def sp_next (s : Nat) : Nat := (s * 1103515245 + 12345) % 2147483648
theorem sp_next_lt (s : Nat) : sp_next s < 2147483648 := Nat.mod_lt _ (by omega)
theorem rC_next31 {s : Nat} (hs : s < 2147483648) : (((((nI s).toInt64) * (1103515245 : Int64)) + (12345 : Int64)) &&& (2147483647 : Int64)).toInt32 = nI (sp_next s) := by
  rw [pl_of hs, show (1103515245 : Int64) = pl_n 1103515245 by decide, show (12345 : Int64) = pl_n 12345 by decide, show (2147483647 : Int64) = pl_n 2147483647 by decide, pl_mul, pl_add, pl_and, pl_i32, show (2147483647 : Nat) = 2 ^ 31 - 1 from rfl, Nat.and_two_pow_sub_one_eq_mod]
  rfl
theorem rM_next31 {s : Nat} (hs : s < 2147483648) : (sg_lrm ((((nI s).toInt64) * (1103515245 : Int64)) + (12345 : Int64)) (2147483648 : Int64)).toInt32 = nI (sp_next s) := by
  have hb : s * 1103515245 + 12345 < 9223372036854775808 := by omega
  unfold sg_lrm
  rw [pl_of hs, show (1103515245 : Int64) = pl_n 1103515245 by decide, show (12345 : Int64) = pl_n 12345 by decide, show (2147483648 : Int64) = pl_n 2147483648 by decide, pl_mul, pl_add, pl_div hb (by omega), pl_mul, pl_sub (Nat.div_mul_le_self _ _), pl_i32]
  exact congrArg nI (by unfold sp_next; omega)
def sp_draw (s k : Nat) : Nat := sp_next s / 65536 % k
theorem sp_draw_lt {s k : Nat} (hk : 1 ≤ k) : sp_draw s k < k := Nat.mod_lt _ (by omega)
theorem rC_draw {s k : Nat} (hs : s < 2147483648) (hk : 1 ≤ k) (hk2 : k ≤ 1000) {z : sg_M} (h0 : z.1 0 = nI s) : gC_drawOf (nI k) z = some (nI (sp_draw s k), sg_s z 0 (nI (sp_next s))) := by
  have hl := sp_next_lt s
  unfold gC_drawOf
  rw [h0, rC_next31 hs, pl_let, if_pos (show (1 : Int32) ≤ nI k from (pi_le (a := 1) (by omega) (by omega)).mpr hk), if_neg (nI_ne0 (by omega) (by omega)), show (sg_s z 0 (nI (sp_next s))).1 0 = nI (sp_next s) from rfl, show nI (sp_next s) / 65536 = nI (sp_next s / 65536) from pk_div (d := 65536) (by omega) (by omega) (by omega), show sg_rem (nI (sp_next s / 65536)) (nI k) = nI (sp_next s / 65536 % k) from pk_rem (by omega) (by omega) (by omega)]
  rfl
theorem rM_draw {s k : Nat} (hs : s < 2147483648) (hk : 1 ≤ k) (hk2 : k ≤ 1000) {z : sg_M} (h0 : z.1 3 = nI s) : gM_draw (nI k) z = some (nI (sp_draw s k), sg_s z 3 (nI (sp_next s))) := by
  have hl := sp_next_lt s
  unfold gM_draw
  rw [h0, rM_next31 hs, pl_let, if_neg (nI_ne0 (by omega) (by omega)), show (sg_s z 3 (nI (sp_next s))).1 3 = nI (sp_next s) from rfl, show nI (sp_next s) / 65536 = nI (sp_next s / 65536) from pk_div (d := 65536) (by omega) (by omega) (by omega), show sg_rem (nI (sp_next s / 65536)) (nI k) = nI (sp_next s / 65536 % k) from pk_rem (by omega) (by omega) (by omega)]
  rfl
