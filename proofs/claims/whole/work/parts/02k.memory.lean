/-! what is remembered -/
def rl_slot (nc nk tb s : Nat) (row f : Nat → Int32) : Prop := rl_st nc nk tb (fun i => row (106 * s + 2 + i)) (fun i => row (106 * s + 22 + i)) (fun i => row (106 * s + 42 + i)) (fun i => row (106 * s + 62 + i)) (fun i => row (106 * s + 82 + i)) (fun i => row (106 * s + 90 + i)) (fun i => row (106 * s + 98 + i)) (row (106 * s)) (row (106 * s + 1)) f
theorem rl_st_cong {nc nk tb : Nat} (hk : nc ≤ 20 ∧ nk ≤ 8) {ga nm my fk ld sk tm ga' nm' my' fk' ld' sk' tm' : Nat → Int32} {dy sm dy' sm' : Int32} {f f' : Nat → Int32} (h : rl_st nc nk tb ga nm my fk ld sk tm dy sm f) (h0 : ∀ x, x < 20 → ga' x = ga x) (h1 : ∀ x, x < 20 → nm' x = nm x) (h2 : ∀ x, x < 20 → my' x = my x) (h3 : ∀ x, x < 20 → fk' x = fk x) (h4 : ∀ x, x < 8 → ld' x = ld x) (h5 : ∀ x, x < 8 → sk' x = sk x) (h6 : ∀ x, x < 8 → tm' x = tm x) (h7 : dy' = dy) (h8 : sm' = sm) (h9 : ∀ k, k < 106 → f' k = f k) : rl_st nc nk tb ga' nm' my' fk' ld' sk' tm' dy' sm' f' := by
  obtain ⟨g0, g1, g2, g3, g4, g5, g6, g7, g8, i0, i1, i2, i3, i4, i5, i6, i7, i8, i9⟩ := h
  refine ⟨fun x hx => ?_, fun x hx => ?_, fun x hx => ?_, fun x hx => ?_, fun x hx => ?_, fun x hx => ?_, fun x hx => ?_, ?_, ?_, fun x hx => ?_, fun x hx => ?_, fun x hx => ?_, fun x hx => ?_, fun x hx => ?_, fun x hx => ?_, ?_, ?_, i8, fun x hx => ?_⟩
  · rw [h0 x hx, h9 _ (by omega)]; exact g0 x hx
  · rw [h1 x (by omega), h9 _ (by omega)]; exact g1 x hx
  · rw [h2 x (by omega), h9 _ (by omega)]; exact g2 x hx
  · rw [h3 x hx, h9 _ (by omega)]; exact g3 x hx
  · rw [h4 x (by omega), h9 _ (by omega)]; exact g4 x hx
  · rw [h5 x (by omega), h9 _ (by omega)]; exact g5 x hx
  · rw [h6 x hx, h9 _ (by omega)]; exact g6 x hx
  · rw [h7, h9 _ (by omega)]; exact g7
  · rw [h8, h9 _ (by omega)]; exact g8
  · rw [h9 _ (by omega)]; exact i0 x hx
  · rw [h9 _ (by omega)]; exact i1 x hx
  · rw [h9 _ (by omega), h9 _ (by omega)]; exact i2 x hx
  · rw [h9 _ (by omega)]; exact i3 x hx
  · rw [h9 _ (by omega)]; exact i4 x hx
  · rw [h9 _ (by omega)]; exact i5 x hx
  · rw [h9 _ (by omega)]; exact i6
  · rw [h9 _ (by omega)]; exact i7
  · rw [h9 _ (by omega)]; exact i9 x hx
theorem rl_slot_cong {nc nk tb s : Nat} (hk : nc ≤ 20 ∧ nk ≤ 8) {row row' f f' : Nat → Int32} (h : rl_slot nc nk tb s row f) (hr : ∀ k, 106 * s ≤ k → k < 106 * s + 106 → row' k = row k) (hf : ∀ k, k < 106 → f' k = f k) : rl_slot nc nk tb s row' f' := by
  refine rl_st_cong hk h (fun x hx => hr _ (by omega) (by omega)) (fun x hx => hr _ (by omega) (by omega)) (fun x hx => hr _ (by omega) (by omega)) (fun x hx => hr _ (by omega) (by omega)) (fun x hx => hr _ (by omega) (by omega)) (fun x hx => hr _ (by omega) (by omega)) (fun x hx => hr _ (by omega) (by omega)) (hr _ (by omega) (by omega)) (hr _ (by omega) (by omega)) hf
theorem pc_in {sp dp n n0 n1 : Nat} (h1 : sp + n ≤ n0) (h2 : dp + n ≤ n1) (h3 : n0 < 2147483648) (h4 : n1 < 2147483648) : sg_cpin (nI sp) (nI dp) (nI n) n0 n1 = true := by
  unfold sg_cpin
  rw [pi_cl (by omega), pi_cl (by omega), pi_cl (by omega)]
  simp [pi_nneg (a := sp) (by omega), pi_nneg (a := dp) (by omega), pi_nneg (a := n) (by omega), h1, h2]
/-- reading a memory that was copied into -/
theorem pc_rd {z : sg_M} {src dst sp dp n k : Nat} (h1 : sp < 2147483648) (h2 : dp < 2147483648) (h3 : n < 2147483648) : (sg_cp z src dst (nI sp) (nI dp) (nI n)).2 dst k = if dp ≤ k ∧ k < dp + n then z.2 src (sp + (k - dp)) else z.2 dst k := by
  unfold sg_cp
  rw [pa_2, if_pos rfl, pi_cl h1, pi_cl h2, pi_cl h3]
  rfl
theorem pc_ne {z : sg_M} {src dst a : Nat} {sp dp n : Int32} (h : a ≠ dst) : (sg_cp z src dst sp dp n).2 a = z.2 a := by
  unfold sg_cp
  rw [pa_2, if_neg h]
theorem pc_1 {z : sg_M} {src dst : Nat} {sp dp n : Int32} : (sg_cp z src dst sp dp n).1 = z.1 := rfl
theorem rC_copyTo (z : sg_M) {s : Nat} (hs : s < 18) : ∃ z', gC_State_copyTo (nI (106 * s)) z = some z' ∧ z'.1 = z.1 ∧ (∀ a, a ≠ 26 → z'.2 a = z.2 a) ∧ (∀ k, (k < 106 * s ∨ 106 * s + 106 ≤ k) → z'.2 26 k = z.2 26 k) ∧ z'.2 26 (106 * s) = z.1 12 ∧ z'.2 26 (106 * s + 1) = z.1 13 ∧ (∀ i, i < 20 → z'.2 26 (106 * s + 2 + i) = z.2 11 i) ∧ (∀ i, i < 20 → z'.2 26 (106 * s + 22 + i) = z.2 12 i) ∧ (∀ i, i < 20 → z'.2 26 (106 * s + 42 + i) = z.2 13 i) ∧ (∀ i, i < 20 → z'.2 26 (106 * s + 62 + i) = z.2 14 i) ∧ (∀ i, i < 8 → z'.2 26 (106 * s + 82 + i) = z.2 15 i) ∧ (∀ i, i < 8 → z'.2 26 (106 * s + 90 + i) = z.2 16 i) ∧ (∀ i, i < 8 → z'.2 26 (106 * s + 98 + i) = z.2 17 i) := by
  obtain ⟨b, hb⟩ : ∃ b, b = 106 * s := ⟨_, rfl⟩
  rw [← hb]
  have hb2 : b ≤ 1802 := by omega
  have e2 : nI b + 2 = nI (b + 2) := nI_add b 2
  have e1 : nI b + 1 = nI (b + 1) := nI_add b 1
  have e22 : nI (b + 2) + 20 = nI (b + 22) := nI_add (b + 2) 20
  have e42 : nI (b + 2) + 40 = nI (b + 42) := nI_add (b + 2) 40
  have e62 : nI (b + 2) + 60 = nI (b + 62) := nI_add (b + 2) 60
  have e82 : nI (b + 2) + 80 = nI (b + 82) := nI_add (b + 2) 80
  have e90 : nI (b + 82) + 8 = nI (b + 90) := nI_add (b + 82) 8
  have e98 : nI (b + 82) + 16 = nI (b + 98) := nI_add (b + 82) 16
  have hz : gC_State_copyTo (nI b) z = some (sg_cp (sg_cp (sg_cp (sg_cp (sg_cp (sg_cp (sg_cp (sg_w (sg_w z 26 (nI b) (z.1 12)) 26 (nI (b + 1)) (z.1 13)) 11 26 (nI 0) (nI (b + 2)) (nI 20)) 12 26 (nI 0) (nI (b + 22)) (nI 20)) 13 26 (nI 0) (nI (b + 42)) (nI 20)) 14 26 (nI 0) (nI (b + 62)) (nI 20)) 15 26 (nI 0) (nI (b + 82)) (nI 8)) 16 26 (nI 0) (nI (b + 90)) (nI 8)) 17 26 (nI 0) (nI (b + 98)) (nI 8)) := by
    unfold gC_State_copyTo
    rw [if_neg (pi_nneg (by omega)), if_pos (show nI b ≤ (1908 : Int32) - 106 from (pi_le (b := 1802) (by omega) (by omega)).mpr hb2), e2, e82, pl_let, e1, e22, e42, e62, e90, e98, pi_in (j := b) (by omega) (by omega), pi_in (j := b + 1) (by omega) (by omega)]
    rw [show sg_cpin 0 (nI (b + 2)) 20 20 1908 = true from pc_in (sp := 0) (n := 20) (by omega) (by omega) (by omega) (by omega), show sg_cpin 0 (nI (b + 22)) 20 20 1908 = true from pc_in (sp := 0) (n := 20) (by omega) (by omega) (by omega) (by omega), show sg_cpin 0 (nI (b + 42)) 20 20 1908 = true from pc_in (sp := 0) (n := 20) (by omega) (by omega) (by omega) (by omega), show sg_cpin 0 (nI (b + 62)) 20 20 1908 = true from pc_in (sp := 0) (n := 20) (by omega) (by omega) (by omega) (by omega), show sg_cpin 0 (nI (b + 82)) 8 8 1908 = true from pc_in (sp := 0) (n := 8) (by omega) (by omega) (by omega) (by omega), show sg_cpin 0 (nI (b + 90)) 8 8 1908 = true from pc_in (sp := 0) (n := 8) (by omega) (by omega) (by omega) (by omega), show sg_cpin 0 (nI (b + 98)) 8 8 1908 = true from pc_in (sp := 0) (n := 8) (by omega) (by omega) (by omega) (by omega)]
    rfl
  refine ⟨_, hz, rfl, fun a ha => ?_, ?_⟩
  · rw [pc_ne ha, pc_ne ha, pc_ne ha, pc_ne ha, pc_ne ha, pc_ne ha, pc_ne ha, pw_2, if_neg ha, pw_2, if_neg ha]
  · have rd : ∀ k, (sg_cp (sg_cp (sg_cp (sg_cp (sg_cp (sg_cp (sg_cp (sg_w (sg_w z 26 (nI b) (z.1 12)) 26 (nI (b + 1)) (z.1 13)) 11 26 (nI 0) (nI (b + 2)) (nI 20)) 12 26 (nI 0) (nI (b + 22)) (nI 20)) 13 26 (nI 0) (nI (b + 42)) (nI 20)) 14 26 (nI 0) (nI (b + 62)) (nI 20)) 15 26 (nI 0) (nI (b + 82)) (nI 8)) 16 26 (nI 0) (nI (b + 90)) (nI 8)) 17 26 (nI 0) (nI (b + 98)) (nI 8)).2 26 k = if b + 98 ≤ k ∧ k < b + 98 + 8 then z.2 17 (0 + (k - (b + 98))) else if b + 90 ≤ k ∧ k < b + 90 + 8 then z.2 16 (0 + (k - (b + 90))) else if b + 82 ≤ k ∧ k < b + 82 + 8 then z.2 15 (0 + (k - (b + 82))) else if b + 62 ≤ k ∧ k < b + 62 + 20 then z.2 14 (0 + (k - (b + 62))) else if b + 42 ≤ k ∧ k < b + 42 + 20 then z.2 13 (0 + (k - (b + 42))) else if b + 22 ≤ k ∧ k < b + 22 + 20 then z.2 12 (0 + (k - (b + 22))) else if b + 2 ≤ k ∧ k < b + 2 + 20 then z.2 11 (0 + (k - (b + 2))) else if k = b + 1 then z.1 13 else if k = b then z.1 12 else z.2 26 k := by
      intro k
      rw [pc_rd (by omega) (by omega) (by omega), pc_rd (by omega) (by omega) (by omega), pc_rd (by omega) (by omega) (by omega), pc_rd (by omega) (by omega) (by omega), pc_rd (by omega) (by omega) (by omega), pc_rd (by omega) (by omega) (by omega), pc_rd (by omega) (by omega) (by omega)]
      simp only [pc_ne (show (17 : Nat) ≠ 26 by decide), pc_ne (show (16 : Nat) ≠ 26 by decide), pc_ne (show (15 : Nat) ≠ 26 by decide), pc_ne (show (14 : Nat) ≠ 26 by decide), pc_ne (show (13 : Nat) ≠ 26 by decide), pc_ne (show (12 : Nat) ≠ 26 by decide)]
      simp only [pw_2, pu_at, pi_cl (show b < 2147483648 by omega), pi_cl (show b + 1 < 2147483648 by omega)]
      rfl
    refine ⟨fun k hk => ?_, ?_, ?_, fun i hi => ?_, fun i hi => ?_, fun i hi => ?_, fun i hi => ?_, fun i hi => ?_, fun i hi => ?_, fun i hi => ?_⟩
    · rw [rd, if_neg (by omega), if_neg (by omega), if_neg (by omega), if_neg (by omega), if_neg (by omega), if_neg (by omega), if_neg (by omega), if_neg (by omega), if_neg (by omega)]
    · rw [rd, if_neg (by omega), if_neg (by omega), if_neg (by omega), if_neg (by omega), if_neg (by omega), if_neg (by omega), if_neg (by omega), if_neg (by omega), if_pos rfl]
    · rw [rd, if_neg (by omega), if_neg (by omega), if_neg (by omega), if_neg (by omega), if_neg (by omega), if_neg (by omega), if_neg (by omega), if_pos rfl]
    · rw [rd, if_neg (by omega), if_neg (by omega), if_neg (by omega), if_neg (by omega), if_neg (by omega), if_neg (by omega), if_pos (by omega)]; exact congrArg (z.2 11) (by omega)
    · rw [rd, if_neg (by omega), if_neg (by omega), if_neg (by omega), if_neg (by omega), if_neg (by omega), if_pos (by omega)]; exact congrArg (z.2 12) (by omega)
    · rw [rd, if_neg (by omega), if_neg (by omega), if_neg (by omega), if_neg (by omega), if_pos (by omega)]; exact congrArg (z.2 13) (by omega)
    · rw [rd, if_neg (by omega), if_neg (by omega), if_neg (by omega), if_pos (by omega)]; exact congrArg (z.2 14) (by omega)
    · rw [rd, if_neg (by omega), if_neg (by omega), if_pos (by omega)]; exact congrArg (z.2 15) (by omega)
    · rw [rd, if_neg (by omega), if_pos (by omega)]; exact congrArg (z.2 16) (by omega)
    · rw [rd, if_pos (by omega)]; exact congrArg (z.2 17) (by omega)
theorem rC_copyFrom (z : sg_M) {s : Nat} (hs : s < 18) : ∃ z', gC_State_copyFrom (nI (106 * s)) z = some z' ∧ (∀ k, (k ≠ 12 ∧ k ≠ 13) → z'.1 k = z.1 k) ∧ (∀ a, (a < 11 ∨ 17 < a) → z'.2 a = z.2 a) ∧ z'.1 12 = z.2 26 (106 * s) ∧ z'.1 13 = z.2 26 (106 * s + 1) ∧ (∀ i, i < 20 → z'.2 11 i = z.2 26 (106 * s + 2 + i)) ∧ (∀ i, i < 20 → z'.2 12 i = z.2 26 (106 * s + 22 + i)) ∧ (∀ i, i < 20 → z'.2 13 i = z.2 26 (106 * s + 42 + i)) ∧ (∀ i, i < 20 → z'.2 14 i = z.2 26 (106 * s + 62 + i)) ∧ (∀ i, i < 8 → z'.2 15 i = z.2 26 (106 * s + 82 + i)) ∧ (∀ i, i < 8 → z'.2 16 i = z.2 26 (106 * s + 90 + i)) ∧ (∀ i, i < 8 → z'.2 17 i = z.2 26 (106 * s + 98 + i)) := by
  obtain ⟨b, hb⟩ : ∃ b, b = 106 * s := ⟨_, rfl⟩
  rw [← hb]
  have hb2 : b ≤ 1802 := by omega
  have e2 : nI b + 2 = nI (b + 2) := nI_add b 2
  have e1 : nI b + 1 = nI (b + 1) := nI_add b 1
  have e22 : nI (b + 2) + 20 = nI (b + 22) := nI_add (b + 2) 20
  have e42 : nI (b + 2) + 40 = nI (b + 42) := nI_add (b + 2) 40
  have e62 : nI (b + 2) + 60 = nI (b + 62) := nI_add (b + 2) 60
  have e82 : nI (b + 2) + 80 = nI (b + 82) := nI_add (b + 2) 80
  have e90 : nI (b + 82) + 8 = nI (b + 90) := nI_add (b + 82) 8
  have e98 : nI (b + 82) + 16 = nI (b + 98) := nI_add (b + 82) 16
  have hz : gC_State_copyFrom (nI b) z = some (sg_cp (sg_cp (sg_cp (sg_cp (sg_cp (sg_cp (sg_cp (sg_s (sg_s z 12 (z.2 26 b)) 13 (z.2 26 (b + 1))) 26 11 (nI (b + 2)) (nI 0) (nI 20)) 26 12 (nI (b + 22)) (nI 0) (nI 20)) 26 13 (nI (b + 42)) (nI 0) (nI 20)) 26 14 (nI (b + 62)) (nI 0) (nI 20)) 26 15 (nI (b + 82)) (nI 0) (nI 8)) 26 16 (nI (b + 90)) (nI 0) (nI 8)) 26 17 (nI (b + 98)) (nI 0) (nI 8)) := by
    unfold gC_State_copyFrom
    rw [if_neg (pi_nneg (by omega)), if_pos (show nI b ≤ (1908 : Int32) - 106 from (pi_le (b := 1802) (by omega) (by omega)).mpr hb2), e2, e82, pl_let, e1, e22, e42, e62, e90, e98, pi_in (j := b) (by omega) (by omega), pi_in (j := b + 1) (by omega) (by omega), pi_cl (j := b) (by omega), pi_cl (j := b + 1) (by omega)]
    rw [show sg_cpin (nI (b + 2)) 0 20 1908 20 = true from pc_in (dp := 0) (n := 20) (by omega) (by omega) (by omega) (by omega), show sg_cpin (nI (b + 22)) 0 20 1908 20 = true from pc_in (dp := 0) (n := 20) (by omega) (by omega) (by omega) (by omega), show sg_cpin (nI (b + 42)) 0 20 1908 20 = true from pc_in (dp := 0) (n := 20) (by omega) (by omega) (by omega) (by omega), show sg_cpin (nI (b + 62)) 0 20 1908 20 = true from pc_in (dp := 0) (n := 20) (by omega) (by omega) (by omega) (by omega), show sg_cpin (nI (b + 82)) 0 8 1908 8 = true from pc_in (dp := 0) (n := 8) (by omega) (by omega) (by omega) (by omega), show sg_cpin (nI (b + 90)) 0 8 1908 8 = true from pc_in (dp := 0) (n := 8) (by omega) (by omega) (by omega) (by omega), show sg_cpin (nI (b + 98)) 0 8 1908 8 = true from pc_in (dp := 0) (n := 8) (by omega) (by omega) (by omega) (by omega)]
    rfl
  have n11 : ∀ (y : sg_M) (sp n : Nat) (d : Nat), sp < 2147483648 → n < 2147483648 → ∀ i, i < n → (sg_cp y 26 d (nI sp) (nI 0) (nI n)).2 d i = y.2 26 (sp + i) := by
    intro y sp n d h1 h2 i hi
    rw [pc_rd h1 (by omega) h2, if_pos (by omega)]
    rfl
  refine ⟨_, hz, fun k hk => ?_, fun a ha => ?_, ?_, ?_, fun i hi => ?_, fun i hi => ?_, fun i hi => ?_, fun i hi => ?_, fun i hi => ?_, fun i hi => ?_, fun i hi => ?_⟩
  · simp only [pc_1, ps_1]
    rw [if_neg hk.2, if_neg hk.1]
  · rw [pc_ne (by omega), pc_ne (by omega), pc_ne (by omega), pc_ne (by omega), pc_ne (by omega), pc_ne (by omega), pc_ne (by omega)]
    rfl
  · rfl
  · rfl
  · rw [pc_ne (by decide), pc_ne (by decide), pc_ne (by decide), pc_ne (by decide), pc_ne (by decide), pc_ne (by decide), n11 _ _ _ _ (by omega) (by omega) i hi]
    rfl
  · rw [pc_ne (by decide), pc_ne (by decide), pc_ne (by decide), pc_ne (by decide), pc_ne (by decide), n11 _ _ _ _ (by omega) (by omega) i hi, pc_ne (by decide)]
    rfl
  · rw [pc_ne (by decide), pc_ne (by decide), pc_ne (by decide), pc_ne (by decide), n11 _ _ _ _ (by omega) (by omega) i hi, pc_ne (by decide), pc_ne (by decide)]
    rfl
  · rw [pc_ne (by decide), pc_ne (by decide), pc_ne (by decide), n11 _ _ _ _ (by omega) (by omega) i hi, pc_ne (by decide), pc_ne (by decide), pc_ne (by decide)]
    rfl
  · rw [pc_ne (by decide), pc_ne (by decide), n11 _ _ _ _ (by omega) (by omega) i hi, pc_ne (by decide), pc_ne (by decide), pc_ne (by decide), pc_ne (by decide)]
    rfl
  · rw [pc_ne (by decide), n11 _ _ _ _ (by omega) (by omega) i hi, pc_ne (by decide), pc_ne (by decide), pc_ne (by decide), pc_ne (by decide), pc_ne (by decide)]
    rfl
  · rw [n11 _ _ _ _ (by omega) (by omega) i hi, pc_ne (by decide), pc_ne (by decide), pc_ne (by decide), pc_ne (by decide), pc_ne (by decide), pc_ne (by decide)]
    rfl
theorem pm_106 (u j : Nat) : (106 : Int32) * nI u + nI j = nI (106 * u + j) := by
  rw [show (106 : Int32) * nI u = nI (106 * u) from pk_mul 106 u, nI_add]
theorem pm_107 (u j : Nat) : (107 : Int32) * nI u + nI j = nI (107 * u + j) := by
  rw [show (107 : Int32) * nI u = nI (107 * u) from pk_mul 107 u, nI_add]
theorem pi_l106 {j : Nat} (h : j < 2147483648) : (106 : Int32) ≤ nI j ↔ 106 ≤ j := pi_le (a := 106) (by omega) h
/-! the reference: copy of the state behind the past ones -/
theorem rM_remC {u : Nat} (hu : u < 16) : ∀ (k j n : Nat) (z : sg_M), j + k = 106 → k < n → z.1 12 = nI u → ∃ z', gM_remember_LL n 52 (nI j) z = some z' ∧ z'.1 12 = nI (u + 1) ∧ (∀ q, q ≠ 12 → z'.1 q = z.1 q) ∧ (∀ a, a ≠ 12 → z'.2 a = z.2 a) ∧ (∀ i, j ≤ i → i < 106 → z'.2 12 (106 * u + i) = z.2 5 i) ∧ (∀ i, (i < 106 * u + j ∨ 106 * u + 106 ≤ i) → z'.2 12 i = z.2 12 i) := by
  intro k
  induction k with
  | zero =>
    intro j n z hj hn hz
    obtain ⟨m, rfl⟩ : ∃ m, n = m + 1 := ⟨n - 1, by omega⟩
    unfold gM_remember_LL
    rw [if_neg (by decide), if_pos rfl, if_pos ((pi_l106 (by omega)).mpr (by omega)), pl_let, hz, nI_1]
    exact ⟨_, rfl, by rw [ps_1, if_pos rfl], fun q hq => by rw [ps_1, if_neg hq], fun _ _ => rfl, fun i h1 h2 => by omega, fun _ _ => rfl⟩
  | succ k ih =>
    intro j n z hj hn hz
    obtain ⟨m, rfl⟩ : ∃ m, n = m + 1 := ⟨n - 1, by omega⟩
    unfold gM_remember_LL
    rw [if_neg (by decide), if_pos rfl, if_neg (by rw [pi_l106 (by omega)]; omega), hz, pm_106, pi_in (j := j) (by omega) (by omega), pi_in (j := 106 * u + j) (by omega) (by omega), pi_cl (by omega), nI_1]
    simp only [if_true, pl_let]
    obtain ⟨z', g1, g2, g3, g4, g5, g6⟩ := ih (j + 1) m (sg_w z 12 (nI (106 * u + j)) (z.2 5 j)) (by omega) (by omega) hz
    refine ⟨z', g1, g2, g3, fun a ha => (g4 a ha).trans (by rw [pw_2, if_neg ha]), fun i h1 h2 => ?_, fun i hi => ?_⟩
    · rcases Nat.lt_or_ge j i with q | q
      · rw [g5 i (by omega) h2]; rfl
      · have e : i = j := by omega
        rw [g6 _ (by omega), pw_2, if_pos rfl, pi_cl (by omega), pu_at, if_pos (by omega), e]
    · rw [g6 i (by omega), pw_2, if_pos rfl, pi_cl (by omega), pu_at, if_neg (by omega)]
theorem rM_remS : ∀ (k j n : Nat) (z : sg_M), 106 ≤ j → j + k = 1696 → k + 110 ≤ n → z.1 12 = nI 16 → ∃ z', gM_remember_LL n 12 (nI j) z = gM_remember_LL (n - k - 1) 52 0 z' ∧ z'.1 12 = nI 15 ∧ (∀ q, q ≠ 12 → z'.1 q = z.1 q) ∧ (∀ a, a ≠ 12 → z'.2 a = z.2 a) ∧ (∀ i, j ≤ i + 106 → i + 106 < 1696 → z'.2 12 i = z.2 12 (i + 106)) ∧ (∀ i, i + 106 < j → z'.2 12 i = z.2 12 i) := by
  intro k
  induction k with
  | zero =>
    intro j n z h0 hj hn hz
    obtain ⟨m, rfl⟩ : ∃ m, n = m + 1 := ⟨n - 1, by omega⟩
    refine ⟨sg_s z 12 (nI 15), ?_, by rw [ps_1, if_pos rfl], fun q hq => by rw [ps_1, if_neg hq], fun _ _ => rfl, fun i h1 h2 => by omega, fun _ _ => rfl⟩
    conv => lhs; unfold gM_remember_LL
    rw [if_pos rfl, if_pos (show (1696 : Int32) ≤ nI j from (pi_le (a := 1696) (by omega) (by omega)).mpr (by omega)), pl_let, hz, show nI 16 - 1 = nI 15 from pd_sub (a := 16) (b := 1) (by omega)]
    rfl
  | succ k ih =>
    intro j n z h0 hj hn hz
    obtain ⟨m, rfl⟩ : ∃ m, n = m + 1 := ⟨n - 1, by omega⟩
    obtain ⟨z', g1, g2, g3, g4, g5, g6⟩ := ih (j + 1) m (sg_w z 12 (nI (j - 106)) (z.2 12 j)) (by omega) (by omega) (by omega) hz
    refine ⟨z', ?_, g2, g3, fun a ha => (g4 a ha).trans (by rw [pw_2, if_neg ha]), fun i h1 h2 => ?_, fun i hi => ?_⟩
    · conv => lhs; unfold gM_remember_LL
      rw [if_pos rfl, if_neg (show ¬ (1696 : Int32) ≤ nI j from fun h => by have := (pi_le (a := 1696) (b := j) (by omega) (by omega)).mp h; omega), show nI j - 106 = nI (j - 106) from pd_sub (b := 106) h0, pi_in (j := j) (by omega) (by omega), pi_in (j := j - 106) (by omega) (by omega), pi_cl (by omega), nI_1]
      simp only [if_true, pl_let]
      rw [g1, show m + 1 - (k + 1) - 1 = m - k - 1 by omega]
    · rcases Nat.lt_or_ge j (i + 106) with q | q
      · rw [g5 i (by omega) h2, pw_2, if_pos rfl, pi_cl (by omega), pu_at, if_neg (by omega)]
      · rw [g6 i (by omega), pw_2, if_pos rfl, pi_cl (by omega), pu_at, if_pos (by omega)]
        exact congrArg (z.2 12) (by omega)
    · rw [g6 i (by omega), pw_2, if_pos rfl, pi_cl (by omega), pu_at, if_neg (by omega)]
def rl_undo (nc nk tb nu nx : Nat) (zC zM : sg_M) : Prop := nu ≤ 16 ∧ nx < 16 ∧ zC.1 24 = nI nu ∧ zM.1 12 = nI nu ∧ zC.1 25 = nI nx ∧ ∀ j, j < nu → rl_slot nc nk tb ((nx + 16 - nu + j) % 16) (zC.2 26) (fun k => zM.2 12 (106 * j + k))
/-- frames of remembering -/
def fr_C (z z' : sg_M) : Prop := (∀ k, (k ≠ 24 ∧ k ≠ 25) → z'.1 k = z.1 k) ∧ (∀ a, a ≠ 26 → z'.2 a = z.2 a) ∧ ∀ k, 1696 ≤ k → z'.2 26 k = z.2 26 k
def fr_M (z z' : sg_M) : Prop := (∀ k, k ≠ 12 → z'.1 k = z.1 k) ∧ ∀ a, a ≠ 12 → z'.2 a = z.2 a
theorem rr_remember {nc nk tb nu nx : Nat} {zC zM : sg_M} (hk : nc ≤ 20 ∧ nk ≤ 8) (hn : rl_now nc nk tb zC zM) (hu : rl_undo nc nk tb nu nx zC zM) (n : Nat) (hn1 : 2000 ≤ n) : ∃ nu' nx' zC' zM', gC_Memory_remember zC = some zC' ∧ gM_remember n zM = some zM' ∧ rl_undo nc nk tb nu' nx' zC' zM' ∧ fr_C zC zC' ∧ fr_M zM zM' := by
  obtain ⟨u1, u2, u3, u4, u5, u6⟩ := hu
  obtain ⟨z1, c1, c2, c3, c4, cd, cs, c11, c12, c13, c14, c15, c16, c17⟩ := rC_copyTo zC (s := nx) (by omega)
  have eC : gC_Memory_remember zC = some (sg_s (sg_s z1 25 (nI ((nx + 1) % 16))) 24 (nI (min 16 (nu + 1)))) := by
    unfold gC_Memory_remember
    rw [u5, show nI nx * 106 = nI (106 * nx) by rw [show nI nx * 106 = nI (nx * 106) from pk_mul nx 106, Nat.mul_comm], c1]
    simp only [Option.bind_some, pl_let]
    rw [c2, u5, nI_1, show sg_rem (nI (nx + 1)) 16 = nI ((nx + 1) % 16) from pk_rem (a := nx + 1) (d := 16) (by omega) (by omega) (by omega), ps_1, if_neg (by decide), c2, u3, nI_1]
    congr 2
    unfold sg_min
    by_cases h : nu + 1 < 16
    · rw [if_pos (show nI (nu + 1) < 16 from (pi_lt (b := 16) (by omega) (by omega)).mpr h), Nat.min_eq_right (by omega)]
    · rw [if_neg (show ¬ nI (nu + 1) < 16 from fun q => h ((pi_lt (b := 16) (by omega) (by omega)).mp q)), Nat.min_eq_left (by omega)]
      rfl
  have hfrC : fr_C zC (sg_s (sg_s z1 25 (nI ((nx + 1) % 16))) 24 (nI (min 16 (nu + 1)))) := by
    refine ⟨fun k hk => ?_, fun a ha => ?_, fun k hk => ?_⟩
    · rw [ps_1, if_neg hk.1, ps_1, if_neg hk.2, c2]
    · exact c3 a ha
    · exact c4 k (by omega)
  have hnew : ∀ f : Nat → Int32, (∀ k, k < 106 → f k = zM.2 5 k) → rl_slot nc nk tb nx (z1.2 26) f := by
    intro f hf
    exact rl_st_cong hk hn c11 c12 c13 c14 c15 c16 c17 cd cs hf
  have hold : ∀ (s : Nat) (f f' : Nat → Int32), s < 16 → s ≠ nx → rl_slot nc nk tb s (zC.2 26) f → (∀ k, k < 106 → f' k = f k) → rl_slot nc nk tb s (z1.2 26) f' := by
    intro s f f' hs hsx h hf
    refine rl_slot_cong hk h (fun k h1 h2 => c4 k ?_) hf
    rcases Nat.lt_or_ge s nx with q | q
    · have : 106 * s + 106 ≤ 106 * nx := by omega
      omega
    · have : 106 * nx + 106 ≤ 106 * s := by omega
      omega
  by_cases h16 : nu = 16
  · subst h16
    obtain ⟨z2, s1, s2, s3, s4, s5, s6⟩ := rM_remS 1590 106 n zM (by omega) (by omega) (by omega) u4
    obtain ⟨z3, t1, t2, t3, t4, t5, t6⟩ := rM_remC (u := 15) (by omega) 106 0 (n - 1590 - 1) z2 (by omega) (by omega) s2
    refine ⟨16, (nx + 1) % 16, _, z3, eC, ?_, ⟨by omega, by omega, ?_, ?_, ?_, fun j hj => ?_⟩, hfrC, ⟨fun k hk => (t3 k hk).trans (s3 k hk), fun a ha => (t4 a ha).trans (s4 a ha)⟩⟩
    · unfold gM_remember
      rw [u4, if_pos (show nI 16 = 16 from rfl), show gM_remember_LL n 12 106 zM = gM_remember_LL n 12 (nI 106) zM from rfl, s1]
      exact t1
    · rw [ps_1, if_pos rfl]; rfl
    · exact t2
    · rw [ps_1, if_neg (by decide), ps_1, if_pos rfl]
    · show rl_slot nc nk tb (((nx + 1) % 16 + 16 - 16 + j) % 16) (z1.2 26) _
      by_cases hj15 : j = 15
      · subst hj15
        rw [show ((nx + 1) % 16 + 16 - 16 + 15) % 16 = nx by omega]
        exact hnew _ (fun k hk => by
          show z3.2 12 (106 * 15 + k) = _
          rw [t5 k (by omega) hk, s4 5 (by decide)])
      · rw [show ((nx + 1) % 16 + 16 - 16 + j) % 16 = (nx + 16 - 16 + (j + 1)) % 16 by omega]
        refine hold _ _ _ (by omega) (by omega) (u6 (j + 1) (by omega)) (fun k hk => ?_)
        show z3.2 12 (106 * j + k) = zM.2 12 (106 * (j + 1) + k)
        rw [t6 _ (by omega), s5 _ (by omega) (by omega)]
        exact congrArg (zM.2 12) (by omega)
  · obtain ⟨z3, t1, t2, t3, t4, t5, t6⟩ := rM_remC (u := nu) (by omega) 106 0 n zM (by omega) (by omega) u4
    refine ⟨nu + 1, (nx + 1) % 16, _, z3, eC, ?_, ⟨by omega, by omega, ?_, ?_, ?_, fun j hj => ?_⟩, hfrC, ⟨t3, t4⟩⟩
    · unfold gM_remember
      rw [u4, if_neg (show ¬ nI nu = 16 from fun q => h16 ((pi_eq (b := 16) (by omega) (by omega)).mp q))]
      exact t1
    · rw [ps_1, if_pos rfl, Nat.min_eq_right (by omega)]
    · exact t2
    · rw [ps_1, if_neg (by decide), ps_1, if_pos rfl]
    · show rl_slot nc nk tb (((nx + 1) % 16 + 16 - (nu + 1) + j) % 16) (z1.2 26) _
      by_cases hju : j = nu
      · subst hju
        rw [show ((nx + 1) % 16 + 16 - (j + 1) + j) % 16 = nx by omega]
        exact hnew _ (fun k hk => t5 k (by omega) hk)
      · rw [show ((nx + 1) % 16 + 16 - (nu + 1) + j) % 16 = (nx + 16 - nu + j) % 16 by omega]
        refine hold _ _ _ (by omega) (by omega) (u6 j (by omega)) (fun k hk => ?_)
        show z3.2 12 (106 * j + k) = zM.2 12 (106 * j + k)
        rw [t6 _ (by omega)]
theorem rM_undoL {u : Nat} (hu : u < 16) : ∀ (k j n : Nat) (z : sg_M), j + k = 106 → k < n → z.1 12 = nI u → ∃ f, gM_undo_L n (nI j) z = some (nI u, sg_a z 5 f) ∧ (∀ i, j ≤ i → i < 106 → f i = z.2 12 (106 * u + i)) ∧ (∀ i, i < j → f i = z.2 5 i) := by
  intro k
  induction k with
  | zero =>
    intro j n z hj hn hz
    obtain ⟨m, rfl⟩ : ∃ m, n = m + 1 := ⟨n - 1, by omega⟩
    unfold gM_undo_L
    rw [if_pos ((pi_l106 (by omega)).mpr (by omega)), hz]
    exact ⟨z.2 5, by rw [sg_a_self], fun i h1 h2 => by omega, fun _ _ => rfl⟩
  | succ k ih =>
    intro j n z hj hn hz
    obtain ⟨m, rfl⟩ : ∃ m, n = m + 1 := ⟨n - 1, by omega⟩
    unfold gM_undo_L
    rw [if_neg (by rw [pi_l106 (by omega)]; omega), hz, pm_106, pi_in (j := j) (by omega) (by omega), pi_in (j := 106 * u + j) (by omega) (by omega), pi_cl (by omega), nI_1]
    simp only [if_true, pl_let]
    obtain ⟨f, g1, g2, g3⟩ := ih (j + 1) m (sg_w z 5 (nI j) (z.2 12 (106 * u + j))) (by omega) (by omega) hz
    refine ⟨f, ?_, fun i h1 h2 => ?_, fun i hi => ?_⟩
    · rw [g1, sg_w_a, sg_a5]
    · rcases Nat.lt_or_ge j i with q | q
      · rw [g2 i (by omega) h2]; rfl
      · have e : i = j := by omega
        rw [g3 i (by omega), sg_w5, pi_cl (by omega), pu_at, if_pos e, e]
    · rw [g3 i (by omega), sg_w5, pi_cl (by omega), pu_at, if_neg (by omega)]
theorem rr_undo {nc nk tb nu nx : Nat} {zC zM : sg_M} (hk : nc ≤ 20 ∧ nk ≤ 8) (hu : rl_undo nc nk tb (nu + 1) nx zC zM) (n : Nat) (hn1 : 200 ≤ n) : ∃ nx' zC' zM', gC_undo zC = some (nI nu, zC') ∧ gM_undo n zM = some (nI nu, zM') ∧ rl_now nc nk tb zC' zM' ∧ rl_undo nc nk tb nu nx' zC' zM' ∧ (∀ k, (k ≠ 12 ∧ k ≠ 13 ∧ k ≠ 24 ∧ k ≠ 25) → zC'.1 k = zC.1 k) ∧ (∀ a, (a < 11 ∨ 17 < a) → zC'.2 a = zC.2 a) ∧ (∀ k, k ≠ 12 → zM'.1 k = zM.1 k) ∧ (∀ a, a ≠ 5 → zM'.2 a = zM.2 a) := by
  obtain ⟨u1, u2, u3, u4, u5, u6⟩ := hu
  have e15 : nI nx + 16 - 1 = nI (nx + 15) := by
    rw [show nI nx + 16 = nI (nx + 16) from nI_add nx 16, show nI (nx + 16) - 1 = nI (nx + 16 - 1) from pd_sub (b := 1) (by omega)]
    rfl
  have er : sg_rem (nI (nx + 15)) 16 = nI ((nx + 15) % 16) := pk_rem (a := nx + 15) (d := 16) (by omega) (by omega) (by omega)
  have em : sg_max 0 (nI (nu + 1) - 1) = nI nu := by
    rw [show nI (nu + 1) - 1 = nI nu from pd_sub (a := nu + 1) (b := 1) (by omega)]
    exact (pn_max (a := 0) (by omega) (by omega)).trans (by rw [Nat.zero_max])
  obtain ⟨z1, c1, c2, c3, cd, cs, c11, c12, c13, c14, c15, c16, c17⟩ := rC_copyFrom (sg_s (sg_s zC 25 (nI ((nx + 15) % 16))) 24 (nI nu)) (s := (nx + 15) % 16) (by omega)
  obtain ⟨f, m1, m2, -⟩ := rM_undoL (u := nu) (by omega) 106 0 n (sg_s zM 12 (nI nu)) (by omega) (by omega) (by rw [ps_1, if_pos rfl])
  have e24 : z1.1 24 = nI nu := by rw [c2 24 (by omega), ps_1, if_pos rfl]
  refine ⟨(nx + 15) % 16, z1, sg_a (sg_s zM 12 (nI nu)) 5 f, ?_, ?_, ?_, ⟨by omega, by omega, e24, ?_, ?_, fun j hj => ?_⟩, fun k hk => ?_, fun a ha => ?_, fun k hk => ?_, fun a ha => ?_⟩
  · unfold gC_undo gC_Memory_takeBack
    rw [u3, if_neg (nI_ne0 (by omega) (by omega)), u5, e15, er]
    simp only [pl_let]
    have f24 : (sg_s zC 25 (nI ((nx + 15) % 16))).1 24 = nI (nu + 1) := by rw [ps_1, if_neg (by decide), u3]
    have f25 : (sg_s (sg_s zC 25 (nI ((nx + 15) % 16))) 24 (nI nu)).1 25 = nI ((nx + 15) % 16) := by rw [ps_1, if_neg (by decide), ps_1, if_pos rfl]
    rw [f24, em, f25, show nI ((nx + 15) % 16) * 106 = nI (106 * ((nx + 15) % 16)) by rw [show nI ((nx + 15) % 16) * 106 = nI ((nx + 15) % 16 * 106) from pk_mul _ 106, Nat.mul_comm], c1]
    simp only [Option.bind_some]
    rw [e24]
  · unfold gM_undo
    rw [u4, if_neg (nI_ne0 (by omega) (by omega)), show nI (nu + 1) - 1 = nI nu from pd_sub (a := nu + 1) (b := 1) (by omega), pl_let]
    exact m1
  · have h := u6 nu (by omega)
    rw [show (nx + 16 - (nu + 1) + nu) % 16 = (nx + 15) % 16 by omega] at h
    exact rl_st_cong hk h c11 c12 c13 c14 c15 c16 c17 cd cs (fun k hk => m2 k (by omega) hk)
  · rw [pa_1, ps_1, if_pos rfl]
  · rw [c2 25 (by omega), ps_1, if_neg (by decide), ps_1, if_pos rfl]
  · have h := u6 j (by omega)
    rw [show (nx + 16 - (nu + 1) + j) % 16 = ((nx + 15) % 16 + 16 - nu + j) % 16 by omega] at h
    rw [c3 26 (by omega)]
    exact h
  · rw [c2 k (by omega), ps_1, if_neg (by omega), ps_1, if_neg (by omega)]
  · rw [c3 a ha]; rfl
  · rw [pa_1, ps_1, if_neg hk]
  · rw [pa_2, if_neg ha]; rfl
/-! images -/
def rl_img (nc nk tb : Nat) (zC zM : sg_M) : Prop := ∀ i, i < 2 → zC.2 27 i = zM.2 20 i ∧ (zM.2 20 i = 0 ∨ (zM.2 20 i = 1 ∧ rl_slot nc nk tb (16 + i) (zC.2 26) (fun k => zM.2 19 (107 * i + k)) ∧ ∃ s, s < 2147483648 ∧ zC.2 28 i = nI s ∧ zM.2 19 (107 * i + 106) = nI s))
theorem rM_keepL {i : Nat} (hi : i < 2) : ∀ (k j n : Nat) (z : sg_M), j + k = 106 → k < n → ∃ z', gM_keep_L n (nI i) (nI j) z = some (1, z') ∧ z'.1 12 = 0 ∧ (∀ q, q ≠ 12 → z'.1 q = z.1 q) ∧ (∀ a, a ≠ 19 → a ≠ 20 → z'.2 a = z.2 a) ∧ (∀ q, j ≤ q → q < 106 → z'.2 19 (107 * i + q) = z.2 5 q) ∧ z'.2 19 (107 * i + 106) = z.1 3 ∧ (∀ q, (q < 107 * i + j ∨ 107 * i + 107 ≤ q) → z'.2 19 q = z.2 19 q) ∧ z'.2 20 i = 1 ∧ (∀ q, q ≠ i → z'.2 20 q = z.2 20 q) := by
  intro k
  induction k with
  | zero =>
    intro j n z hj hn
    obtain ⟨m, rfl⟩ : ∃ m, n = m + 1 := ⟨n - 1, by omega⟩
    unfold gM_keep_L
    rw [if_pos ((pi_l106 (by omega)).mpr (by omega)), show (107 : Int32) * nI i + 106 = nI (107 * i + 106) from pm_107 i 106, pi_in (j := 107 * i + 106) (by omega) (by omega), pi_in (j := i) (by omega) (by omega)]
    simp only [if_true, pl_let]
    refine ⟨_, rfl, by rw [ps_1, if_pos rfl], fun q hq => by rw [ps_1, if_neg hq]; rfl, fun a h1 h2 => ?_, fun q h1 h2 => by omega, ?_, fun q hq => ?_, ?_, fun q hq => ?_⟩
    · rw [ps_2, pw_2, if_neg h2, pw_2, if_neg h1]
    · rw [ps_2, pw_2, if_neg (by decide), pw_2, if_pos rfl, pi_cl (by omega), pu_at, if_pos rfl]
    · rw [ps_2, pw_2, if_neg (by decide), pw_2, if_pos rfl, pi_cl (by omega), pu_at, if_neg (by omega)]
    · rw [ps_2, pw_2, if_pos rfl, pi_cl (by omega), pu_at, if_pos rfl]
      decide
    · rw [ps_2, pw_2, if_pos rfl, pi_cl (by omega), pu_at, if_neg hq]
      rfl
  | succ k ih =>
    intro j n z hj hn
    obtain ⟨m, rfl⟩ : ∃ m, n = m + 1 := ⟨n - 1, by omega⟩
    unfold gM_keep_L
    rw [if_neg (by rw [pi_l106 (by omega)]; omega), pm_107, pi_in (j := j) (by omega) (by omega), pi_in (j := 107 * i + j) (by omega) (by omega), pi_cl (by omega), nI_1]
    simp only [if_true, pl_let]
    obtain ⟨z', g1, g2, g3, g4, g5, g6, g7, g8, g9⟩ := ih (j + 1) m (sg_w z 19 (nI (107 * i + j)) (z.2 5 j)) (by omega) (by omega)
    refine ⟨z', g1, g2, g3, fun a h1 h2 => (g4 a h1 h2).trans (by rw [pw_2, if_neg h1]), fun q h1 h2 => ?_, g6, fun q hq => ?_, g8, fun q hq => (g9 q hq).trans (by rw [pw_2, if_neg (by decide)])⟩
    · rcases Nat.lt_or_ge j q with p | p
      · rw [g5 q (by omega) h2]; rfl
      · have e : q = j := by omega
        rw [g7 _ (by omega), pw_2, if_pos rfl, pi_cl (by omega), pu_at, if_pos (by omega), e]
    · rw [g7 q (by omega), pw_2, if_pos rfl, pi_cl (by omega), pu_at, if_neg (by omega)]
theorem rM_backL {i : Nat} (hi : i < 2) : ∀ (k j n : Nat) (z : sg_M), j + k = 106 → k < n → ∃ f, gM_goBack_L n (nI i) (nI j) z = some (1, sg_s (sg_s (sg_a z 5 f) 3 (z.2 19 (107 * i + 106))) 12 0) ∧ (∀ q, j ≤ q → q < 106 → f q = z.2 19 (107 * i + q)) ∧ (∀ q, q < j → f q = z.2 5 q) := by
  intro k
  induction k with
  | zero =>
    intro j n z hj hn
    obtain ⟨m, rfl⟩ : ∃ m, n = m + 1 := ⟨n - 1, by omega⟩
    unfold gM_goBack_L
    rw [if_pos ((pi_l106 (by omega)).mpr (by omega)), show (107 : Int32) * nI i + 106 = nI (107 * i + 106) from pm_107 i 106, pi_in (j := 107 * i + 106) (by omega) (by omega), pi_cl (by omega)]
    simp only [if_true, pl_let]
    exact ⟨z.2 5, by rw [sg_a_self], fun q h1 h2 => by omega, fun _ _ => rfl⟩
  | succ k ih =>
    intro j n z hj hn
    obtain ⟨m, rfl⟩ : ∃ m, n = m + 1 := ⟨n - 1, by omega⟩
    unfold gM_goBack_L
    rw [if_neg (by rw [pi_l106 (by omega)]; omega), pm_107, pi_in (j := j) (by omega) (by omega), pi_in (j := 107 * i + j) (by omega) (by omega), pi_cl (by omega), nI_1]
    simp only [if_true, pl_let]
    obtain ⟨f, g1, g2, g3⟩ := ih (j + 1) m (sg_w z 5 (nI j) (z.2 19 (107 * i + j))) (by omega) (by omega)
    refine ⟨f, ?_, fun q h1 h2 => ?_, fun q hq => ?_⟩
    · rw [g1, sg_w_a, sg_a5]; rfl
    · rcases Nat.lt_or_ge j q with p | p
      · rw [g2 q (by omega) h2]; rfl
      · have e : q = j := by omega
        rw [g3 q (by omega), sg_w5, pi_cl (by omega), pu_at, if_pos e, e]
    · rw [g3 q (by omega), sg_w5, pi_cl (by omega), pu_at, if_neg (by omega)]
