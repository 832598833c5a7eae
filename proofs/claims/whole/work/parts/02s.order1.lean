/-! orders: the class -/
def od_z (z : sg_M) (b : Int32 × Int32) : sg_M := sg_s (sg_s z 17 b.1) 18 b.2
theorem od_z_self (z : sg_M) : od_z z (z.1 17, z.1 18) = z := by
  unfold od_z
  rw [ps_self]
  exact ps_self z 18
theorem od_z_17 (z : sg_M) (b : Int32 × Int32) : ((od_z z b).1 17, (od_z z b).1 18) = b := rfl
theorem od_z_z (z : sg_M) (a b : Int32 × Int32) : od_z (od_z z a) b = od_z z b := by
  unfold od_z sg_s
  refine Prod.ext ?_ rfl
  funext j
  by_cases h : j = 18
  · simp [h]
  · by_cases h2 : j = 17
    · simp [h2]
    · simp [h, h2]
def od_S (S : Nat → Nat → Int32) (nk : Nat) : Prop := ∀ c n, c < nk → n < 5 → S c n = -1 ∨ ∃ x, x < 20 ∧ S c n = nI x
def od_C (S : Nat → Nat → Int32) (nk : Nat) (z : sg_M) : Prop := z.1 11 = nI nk ∧ ∀ c n, c < nk → n < 5 → z.2 19 (8 * n + c) = S c n
theorem od_C_z {S : Nat → Nat → Int32} {nk : Nat} {z : sg_M} (h : od_C S nk z) (b : Int32 × Int32) : od_C S nk (od_z z b) := h
theorem rC_send1 {S : Nat → Nat → Int32} {nk : Nat} (hk : nk ≤ 8) (hS : od_S S nk) : ∀ (r m d left t fnd fig : Nat) (z : sg_M), od_C S nk z → left < 256 → (∀ c, left.testBit c = true → c < nk) → od_pc left = r → d + r ≤ 5 → 10 * r + 1 ≤ m → gC_Orders_sendNext_LL m 0 (nI d) (nI left) (nI t) (nI fnd) (nI fig) 0 z = some (od_z z (od S nk r d left t fnd fig (z.1 17, z.1 18))) := by
  intro r
  induction r with
  | zero =>
    intro m d left t fnd fig z hz hl hb hp hd hm
    obtain ⟨m, rfl⟩ : ∃ q, m = q + 1 := ⟨m - 1, by omega⟩
    have e0 := od_pc0 left hl hp
    subst e0
    unfold gC_Orders_sendNext_LL
    rw [if_pos rfl, if_pos (show nI 0 = 0 from rfl)]
    unfold od od_up
    by_cases c : nI fnd ≤ z.1 17
    · rw [if_pos c, if_pos c, od_z_self]
    · rw [if_neg c, if_neg c]
      rfl
  | succ r ih =>
    intro m d left t fnd fig z hz hl hb hp hd hm
    obtain ⟨m, rfl⟩ : ∃ q, m = q + 1 := ⟨m - 1, by omega⟩
    have ne : ¬ nI left = 0 := by
      intro h
      have h0 : left = 0 := (pi_eq (b := 0) (by omega) (by omega)).mp h
      rw [h0] at hp
      exact absurd hp (by show ¬ (0 : Nat) = r + 1; omega)
    have loop : ∀ (k c m : Nat) (z : sg_M), od_C S nk z → c + k = nk → 10 * r + 1 + k + 1 ≤ m → gC_Orders_sendNext_LL m 34 (nI d) (nI left) (nI t) (nI fnd) (nI fig) (nI c) z = some (od_z z (od_fo (fun c b => if left.testBit c then od S nk r (d + 1) (od_cl left c) (od_tw S t c d) (fnd + od_in S t c d) (fig * 10 + (c + 1)) b else b) k c (z.1 17, z.1 18))) := by
      intro k
      induction k with
      | zero =>
        intro c m z hz hc hm
        obtain ⟨m, rfl⟩ : ∃ q, m = q + 1 := ⟨m - 1, by omega⟩
        unfold gC_Orders_sendNext_LL
        rw [if_neg (by decide), if_pos rfl, hz.1, if_pos ((pi_le (by omega) (by omega)).mpr (by omega))]
        show _ = some (od_z z (z.1 17, z.1 18))
        rw [od_z_self]
      | succ k ih2 =>
        intro c m z hz hc hm
        obtain ⟨m, rfl⟩ : ∃ q, m = q + 1 := ⟨m - 1, by omega⟩
        conv => lhs; unfold gC_Orders_sendNext_LL
        rw [if_neg (by decide), if_pos rfl, hz.1, if_neg (fun h => by have := (pi_le (by omega) (by omega)).mp h; omega), pb_bit (by omega) (by omega)]
        show _ = some (od_z z (od_fo _ k (c + 1) (if left.testBit c = true then _ else _)))
        by_cases hbit : left.testBit c = true
        · rw [if_pos hbit, if_neg (show ¬ (1 : Int32) = 0 by decide), if_pos hbit]
          have ei : nI d * 8 + nI c = nI (8 * d + c) := by
            rw [show nI d * 8 = nI (d * 8) from pk_mul d 8, nI_add, Nat.mul_comm]
          rw [ei, pi_in (j := 8 * d + c) (by omega) (by omega), pi_cl (by omega), hz.2 c d (by omega) (by omega)]
          simp only [if_true, pl_let]
          have et : nI t ||| (if S c d = -1 then (0 : Int32) else sg_shl 1 (S c d)) = nI (od_tw S t c d) := by
            unfold od_tw
            rcases hS c d (by omega) (by omega) with h | ⟨x, hx, h⟩
            · rw [if_pos h, if_pos h, show (0 : Int32) = nI 0 from rfl, pb_or, Nat.or_zero]
            · have nx : ¬ S c d = -1 := by rw [h]; exact pi_m1 (by omega)
              rw [if_neg nx, if_neg nx, h, pb_shl (by omega), pb_or, pi_cl (by omega)]
          have ein : nI fnd + (if (if S c d = -1 then (0 : Int32) else sg_shl 1 (S c d)) &&& (nI t ^^^ -1) = 0 then (0 : Int32) else 1) = nI (fnd + od_in S t c d) := by
            unfold od_in
            rcases hS c d (by omega) (by omega) with h | ⟨x, hx, h⟩
            · rw [if_pos h, if_pos h, if_pos (show (0 : Int32) &&& (nI t ^^^ -1) = 0 by rw [Int32.zero_and])]
              exact nI_add fnd 0
            · have nx : ¬ S c d = -1 := by rw [h]; exact pi_m1 (by omega)
              rw [if_neg nx, if_neg nx, h, pb_shl (by omega), pi_cl (by omega)]
              by_cases ht : t.testBit x = true
              · rw [if_pos ((od_newI hx).mpr ht), if_pos ht]
                exact nI_add fnd 0
              · rw [if_neg (fun q => ht ((od_newI hx).mp q)), if_neg ht]
                exact nI_add fnd 1
          have ef : nI fig * 10 + nI c + 1 = nI (fig * 10 + (c + 1)) := by
            rw [show nI fig * 10 = nI (fig * 10) from pk_mul fig 10, nI_add, nI_1]
            rfl
          rw [et, ein, ef, od_clI (by omega), nI_1, nI_1]
          have hc8 : c < 8 := by have := hb c hbit; omega
          have hp1 := od_pc1 left hl c hc8 hbit
          have hcl : od_cl left c < 256 := Nat.lt_of_le_of_lt Nat.and_le_left hl
          rw [ih m (d + 1) (od_cl left c) (od_tw S t c d) (fnd + od_in S t c d) (fig * 10 + (c + 1)) z hz hcl (fun i hi => hb i (od_tb hi)) (by omega) (by omega) (by omega)]
          simp only [Option.bind_some]
          rw [ih2 (c + 1) m _ (od_C_z hz _) (by omega) (by omega), od_z_z, od_z_17]
        · rw [if_neg hbit, if_pos rfl, if_neg hbit, Option.bind_some, nI_1]
          exact ih2 (c + 1) m z hz (by omega) (by omega)
    unfold gC_Orders_sendNext_LL
    rw [if_pos rfl, if_neg ne, if_pos (show nI d < 5 from (pi_lt (b := 5) (by omega) (by omega)).mpr (by omega))]
    exact loop nk 0 m z hz (by omega) (by omega)
/-- the table of stops -/
def od_T (nc : Nat) (zM : sg_M) (c n : Nat) : Int32 := sp_st nc zM c (sp_wet zM n)
theorem od_T_S {nc nk : Nat} {zC zM : sg_M} (hr : rl_road nc nk zC zM) : od_S (od_T nc zM) nk := by
  intro c n _ _
  have h1 := hr.1
  rcases sp_stop_rng nc zM c (zM.2 5 (80 + c)) (sp_wet zM n) with h | ⟨x, hx, h⟩
  · exact Or.inl h
  · exact Or.inr ⟨x, by omega, h⟩
theorem rC_lookI {nc nk tb : Nat} {zC zM : sg_M} (hr : rl_road nc nk zC zM) (hn : rl_now nc nk tb zC zM) (v1 v2 : Int32) {d : Nat} (hd : d < 5) : ∀ (k c n : Nat) (z : sg_M), c + k = nk → k + 60 ≤ n → sc_C zC z → ∃ z', gC_Orders_look_LL n 10 v1 v2 (nI d) (nI c) z = gC_Orders_look_LL (n - k - 1) 2 v1 v2 (nI (d + 1)) 0 z' ∧ sc_C zC z' ∧ (∀ e, c ≤ e → e < nk → z'.2 19 (8 * d + e) = od_T nc zM e d) ∧ (∀ i, (i < 8 * d + c ∨ 8 * d + 8 ≤ i) → z'.2 19 i = z.2 19 i) := by
  intro k
  induction k with
  | zero =>
    intro c n z hc hn1 hz
    obtain ⟨m, rfl⟩ : ∃ q, n = q + 1 := ⟨n - 1, by omega⟩
    have h2 := hr.2.1
    refine ⟨z, ?_, hz, fun e h1 h2 => by omega, fun _ _ => rfl⟩
    conv => lhs; unfold gC_Orders_look_LL
    rw [if_neg (by decide), if_pos rfl, hz.1 11 (by omega), hr.2.2.2.2.2.1, if_pos ((pi_le (by omega) (by omega)).mpr (by omega)), nI_1]
    rfl
  | succ k ih =>
    intro c n z hc hn1 hz
    obtain ⟨m, rfl⟩ : ∃ q, n = q + 1 := ⟨n - 1, by omega⟩
    have h2 := hr.2.1
    have es := rC_stopBehind (sc_road hz (sc_M.rf zM) hr) (sc_now hz (sc_M.rf zM) hn) (c := c) (by omega) d m (by omega) (by omega)
    have hz1 : sc_C zC (sg_w z 19 (nI (8 * d + c)) (od_T nc zM c d)) := ⟨hz.1, fun a ha => by rw [pw_2, if_neg (by omega)]; exact hz.2 a ha⟩
    obtain ⟨z', g1, g2, g3, g4⟩ := ih (c + 1) m (sg_w z 19 (nI (8 * d + c)) (od_T nc zM c d)) (by omega) (by omega) hz1
    refine ⟨z', ?_, g2, fun e h1 h3 => ?_, fun i hi => ?_⟩
    · conv => lhs; unfold gC_Orders_look_LL
      rw [if_neg (by decide), if_pos rfl, hz.1 11 (by omega), hr.2.2.2.2.2.1, if_neg (fun h => by have := (pi_le (by omega) (by omega)).mp h; omega), es, Option.bind_some]
      have ei : nI d * 8 + nI c = nI (8 * d + c) := by
        rw [show nI d * 8 = nI (d * 8) from pk_mul d 8, nI_add, Nat.mul_comm]
      rw [ei, pi_in (j := 8 * d + c) (by omega) (by omega), nI_1]
      simp only [if_true, pl_let]
      rw [show sp_stop nc zM c (zM.2 5 (80 + c)) (sp_wet zM d) = od_T nc zM c d from rfl, g1, show m + 1 - (k + 1) - 1 = m - k - 1 by omega]
    · rcases Nat.lt_or_ge c e with q | q
      · exact g3 e (by omega) h3
      · have e1 : e = c := by omega
        rw [g4 _ (by omega), pw_2, if_pos rfl, pi_cl (by omega), pu_at, if_pos (by omega), e1]
    · rw [g4 i (by omega), pw_2, if_pos rfl, pi_cl (by omega), pu_at, if_neg (by omega)]
theorem rC_lookO {nc nk tb : Nat} {zC zM : sg_M} (hr : rl_road nc nk zC zM) (hn : rl_now nc nk tb zC zM) (v1 v2 : Int32) : ∀ (k d n : Nat) (z : sg_M), d + k = 5 → 20 * k + 100 ≤ n → sc_C zC z → (∀ c e, c < nk → e < d → z.2 19 (8 * e + c) = od_T nc zM c e) → ∃ z', gC_Orders_look_LL n 2 v1 v2 (nI d) 0 z = gC_Orders_sendNext 100 0 v1 v2 0 0 (sg_s (sg_s z' 17 (-1)) 18 0) ∧ sc_C zC z' ∧ od_C (od_T nc zM) nk z' := by
  intro k
  induction k with
  | zero =>
    intro d n z hd hn1 hz ht
    obtain ⟨m, rfl⟩ : ∃ q, n = q + 1 := ⟨n - 1, by omega⟩
    refine ⟨z, ?_, hz, ?_, fun c e h1 h2 => ht c e h1 (by omega)⟩
    · unfold gC_Orders_look_LL
      rw [if_pos rfl, if_pos (show (5 : Int32) ≤ nI d from (pi_le (a := 5) (by omega) (by omega)).mpr (by omega))]
      simp only [pl_let, ob_id]
    · rw [hz.1 11 (by omega)]; exact hr.2.2.2.2.2.1
  | succ k ih =>
    intro d n z hd hn1 hz ht
    obtain ⟨m, rfl⟩ : ∃ q, n = q + 1 := ⟨n - 1, by omega⟩
    have h2 := hr.2.1
    obtain ⟨z1, g1, g2, g3, g4⟩ := rC_lookI hr hn v1 v2 (d := d) (by omega) nk 0 m z (by omega) (by omega) hz
    obtain ⟨z', o1, o2, o3⟩ := ih (d + 1) (m - nk - 1) z1 (by omega) (by omega) g2 (fun c e hc he => by
      rcases Nat.lt_or_ge e d with q | q
      · rw [g4 _ (by omega)]; exact ht c e hc q
      · have e1 : e = d := by omega
        rw [e1]; exact g3 c (by omega) hc)
    refine ⟨z', ?_, o2, o3⟩
    conv => lhs; unfold gC_Orders_look_LL
    rw [if_pos rfl, if_neg (show ¬ (5 : Int32) ≤ nI d from fun h => by have := (pi_le (a := 5) (by omega) (by omega)).mp h; omega)]
    rw [show gC_Orders_look_LL m 10 v1 v2 (nI d) 0 z = gC_Orders_look_LL m 10 v1 v2 (nI d) (nI 0) z from rfl, g1]
    exact o1
/-! the reference -/
theorem rM_fb {S : Nat → Nat → Int32} {nk : Nat} (hk : nk ≤ 8) (hS : od_S S nk) {z : sg_M} (hT : ∀ c n, c < nk → n < 5 → z.2 13 (5 * c + n) = S c n) {many fig : Nat} (hm : many ≤ 5) (hf : fig < 1000000) : ∀ (r d n left t fnd : Nat) (v7 : Int32), d + r = many → r < n → left < 256 → (∀ c, left.testBit c = true → c < nk) → t < 2 ^ 20 → (1 ≤ r → v7 = nI (10 ^ (r - 1))) → gM_foundedBy_LL n 40 (nI fig) (nI many) (nI left) (nI t) (nI fnd) v7 (nI d) z = some (od_ev S fig r d left t fnd) := by
  intro r
  induction r with
  | zero =>
    intro d n left t fnd v7 hd hn hl hb ht hv
    obtain ⟨m, rfl⟩ : ∃ q, n = q + 1 := ⟨n - 1, by omega⟩
    unfold gM_foundedBy_LL
    rw [if_neg (by decide), if_pos rfl, if_pos ((pi_le (by omega) (by omega)).mpr (by omega))]
    rfl
  | succ r ih =>
    intro d n left t fnd v7 hd hn hl hb ht hv
    obtain ⟨m, rfl⟩ : ∃ q, n = q + 1 := ⟨n - 1, by omega⟩
    have hv7 := hv (by omega)
    rw [show r + 1 - 1 = r by omega] at hv7
    subst hv7
    have hp : 1 ≤ 10 ^ r := Nat.one_le_pow _ _ (by omega)
    have hp5 : 10 ^ r ≤ 10 ^ 5 := Nat.pow_le_pow_right (by omega) (by omega)
    have e1 : nI fig / nI (10 ^ r) = nI (fig / 10 ^ r) := pk_div (by omega) (by omega) (by omega)
    have hq : fig / 10 ^ r ≤ fig := Nat.div_le_self _ _
    have e2 : sg_rem (nI (fig / 10 ^ r)) 10 = nI (fig / 10 ^ r % 10) := pk_rem (d := 10) (by omega) (by omega) (by omega)
    have e3 : nI (10 ^ r) / 10 = nI (10 ^ r / 10) := pk_div (d := 10) (by omega) (by omega) (by omega)
    have hdg : fig / 10 ^ r % 10 < 10 := Nat.mod_lt _ (by omega)
    conv => lhs; unfold gM_foundedBy_LL
    rw [if_neg (by decide), if_pos rfl, if_neg (fun h => by have := (pi_le (by omega) (by omega)).mp h; omega), if_neg (nI_ne0 (by omega) (by omega)), e1, e2, e3]
    simp only [pl_let]
    conv => rhs; unfold od_ev
    generalize fig / 10 ^ r % 10 = g at *
    by_cases g0 : g = 0
    · subst g0
      rw [if_pos (show nI 0 - 1 < 0 by decide), if_pos rfl]
    · have e4 : nI g - 1 = nI (g - 1) := pd_sub (b := 1) (by omega)
      rw [e4, if_neg (pi_nneg (by omega)), if_neg g0, pb_has (by omega) (by omega)]
      by_cases hbit : left.testBit (g - 1) = true
      · have hc := hb _ hbit
        have ei : (5 : Int32) * nI (g - 1) + nI d = nI (5 * (g - 1) + d) := by
          rw [show (5 : Int32) * nI (g - 1) = nI (5 * (g - 1)) from pk_mul 5 (g - 1), nI_add]
        rw [if_pos hbit, if_neg (show ¬ (1 : Int32) = 0 by decide), if_pos hbit, ei, pi_in (j := 5 * (g - 1) + d) (by omega) (by omega), pi_cl (by omega), hT _ _ hc (by omega), od_clI (by omega)]
        simp only [if_true]
        have hcl : od_cl left (g - 1) < 256 := Nat.lt_of_le_of_lt Nat.and_le_left hl
        have et : nI t ||| (if S (g - 1) d < 0 then (0 : Int32) else sg_shl 1 (S (g - 1) d)) = nI (od_tw S t (g - 1) d) ∧ od_tw S t (g - 1) d < 2 ^ 20 := by
          unfold od_tw
          rcases hS (g - 1) d hc (by omega) with h | ⟨x, hx, h⟩
          · rw [if_pos (show S (g - 1) d < 0 by rw [h]; decide), if_pos h, show (0 : Int32) = nI 0 from rfl, pb_or, Nat.or_zero]
            exact ⟨rfl, ht⟩
          · have nx : ¬ S (g - 1) d = -1 := by rw [h]; exact pi_m1 (by omega)
            rw [if_neg (show ¬ S (g - 1) d < 0 by rw [h]; exact pi_nneg (by omega)), if_neg nx, h, pb_shl (by omega), pb_or, pi_cl (by omega)]
            exact ⟨rfl, Nat.or_lt_two_pow ht (Nat.pow_lt_pow_right (by omega) hx)⟩
        have ein : nI fnd + (if S (g - 1) d < 0 then (0 : Int32) else if gM_has (nI t) (S (g - 1) d) = 0 then 1 else 0) = nI (fnd + od_in S t (g - 1) d) := by
          unfold od_in
          rcases hS (g - 1) d hc (by omega) with h | ⟨x, hx, h⟩
          · rw [if_pos (show S (g - 1) d < 0 by rw [h]; decide), if_pos h]
            exact nI_add fnd 0
          · have nx : ¬ S (g - 1) d = -1 := by rw [h]; exact pi_m1 (by omega)
            rw [if_neg (show ¬ S (g - 1) d < 0 by rw [h]; exact pi_nneg (by omega)), if_neg nx, h, pb_has (by omega) (by omega), pi_cl (by omega)]
            by_cases htb : t.testBit x = true
            · rw [if_pos htb, if_neg (by decide), if_pos htb]
              exact nI_add fnd 0
            · rw [if_neg htb, if_pos rfl, if_neg htb]
              exact nI_add fnd 1
        rw [et.1, ein, nI_1]
        refine ih (d + 1) m _ _ _ _ (by omega) (by omega) hcl (fun i hi => hb i (od_tb hi)) et.2 (fun hr => ?_)
        congr 1
        obtain ⟨q, rfl⟩ : ∃ q, r = q + 1 := ⟨r - 1, by omega⟩
        rw [Nat.pow_succ, Nat.mul_div_cancel _ (by omega)]
        rfl
      · rw [if_neg hbit, if_pos rfl, if_neg hbit]
theorem rM_fb18 {many : Nat} (hm : many ≤ 5) (v1 v4 v5 v6 : Int32) (z : sg_M) : ∀ (k d n : Nat), d + k = many → 1 ≤ d → k < n → gM_foundedBy_LL n 18 v1 (nI many) v4 v5 v6 (nI (10 ^ (d - 1))) (nI d) z = gM_foundedBy_LL (n - k - 1) 40 v1 (nI many) v4 v5 v6 (nI (10 ^ (many - 1))) 0 z := by
  intro k
  induction k with
  | zero =>
    intro d n hd h1 hn
    obtain ⟨m, rfl⟩ : ∃ q, n = q + 1 := ⟨n - 1, by omega⟩
    conv => lhs; unfold gM_foundedBy_LL
    rw [if_pos rfl, if_pos ((pi_le (by omega) (by omega)).mpr (by omega)), show d = many by omega]
    rfl
  | succ k ih =>
    intro d n hd h1 hn
    obtain ⟨m, rfl⟩ : ∃ q, n = q + 1 := ⟨n - 1, by omega⟩
    conv => lhs; unfold gM_foundedBy_LL
    rw [if_pos rfl, if_neg (fun h => by have := (pi_le (by omega) (by omega)).mp h; omega), pl_let, show nI (10 ^ (d - 1)) * 10 = nI (10 ^ (d - 1) * 10) from pk_mul _ 10, ← Nat.pow_succ, show (d - 1).succ = d + 1 - 1 by omega, nI_1, ih (d + 1) m (by omega) (by omega) (by omega), show m + 1 - (k + 1) - 1 = m - k - 1 by omega]
theorem rM_found {S : Nat → Nat → Int32} {nk : Nat} (hk : nk ≤ 8) (hS : od_S S nk) {z : sg_M} (hT : ∀ c n, c < nk → n < 5 → z.2 13 (5 * c + n) = S c n) {many fig left t : Nat} (hm : many ≤ 5) (hf : fig < 1000000) (hl : left < 256) (hb : ∀ c, left.testBit c = true → c < nk) (ht : t < 2 ^ 20) (n : Nat) (hn : 40 ≤ n) (etw : gM_towns n z = some (nI t)) : gM_foundedBy n (nI fig) (nI many) (nI left) z = some (od_ev S fig many 0 left t 0) := by
  unfold gM_foundedBy
  rw [etw, Option.bind_some]
  by_cases h0 : many = 0
  · subst h0
    obtain ⟨m, rfl⟩ : ∃ q, n = q + 1 := ⟨n - 1, by omega⟩
    have e : gM_foundedBy_LL (m + 1) 18 (nI fig) (nI 0) (nI left) (nI t) 0 1 1 z = gM_foundedBy_LL m 40 (nI fig) (nI 0) (nI left) (nI t) 0 1 0 z := by
      conv => lhs; unfold gM_foundedBy_LL
      rw [if_pos rfl, if_pos (by decide)]
    rw [e]
    exact rM_fb hk hS hT (by omega) hf 0 0 m left t 0 1 (by omega) (by omega) hl hb ht (fun h => by omega)
  · have e := rM_fb18 hm (nI fig) (nI left) (nI t) 0 z (many - 1) 1 n (by omega) (by omega) (by omega)
    rw [show gM_foundedBy_LL n 18 (nI fig) (nI many) (nI left) (nI t) 0 1 1 z = gM_foundedBy_LL n 18 (nI fig) (nI many) (nI left) (nI t) 0 (nI (10 ^ (1 - 1))) (nI 1) z from rfl, e]
    exact rM_fb hk hS hT hm hf many 0 (n - (many - 1) - 1) left t 0 _ (by omega) (by omega) hl hb ht (fun h => rfl)
