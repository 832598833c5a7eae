theorem pi_n10 {x : Int32} (h : x = 1) : ¬ x = 0 := by rw [h]; decide
theorem sc_wet {zM zm : sg_M} (h : sc_M zM zm) (n : Nat) : sp_wet zm n = sp_wet zM n := by
  unfold sp_wet sp_rain
  rw [h.1 1, h.2 1 (by omega), h.2 5 (by omega)]
theorem sc_T {zM zm : sg_M} (h : sc_M zM zm) (nc c n : Nat) : od_T nc zm c n = od_T nc zM c n := by
  unfold od_T
  rw [sc_st h, sc_wet h]
theorem sc_towns {zM zm : sg_M} (h : sc_M zM zm) (nc : Nat) : sp_towns nc zm = sp_towns nc zM := by
  unfold sp_towns sp_isT
  rw [h.2 5 (by omega)]
theorem sp_set_b (p : Nat → Bool) : ∀ (k j s : Nat), j + k ≤ 20 → s < 2 ^ 20 → sp_set p k j s < 2 ^ 20 := by
  intro k
  induction k with
  | zero => intro j s _ hs; exact hs
  | succ k ih =>
    intro j s hj hs
    unfold sp_set
    refine ih (j + 1) _ (by omega) ?_
    split
    · exact Nat.or_lt_two_pow hs (Nat.pow_lt_pow_right (by omega) (by omega))
    · exact hs
theorem rM_ordI {nc nk tb : Nat} {zC zM : sg_M} (hr : rl_road nc nk zC zM) (hn : rl_now nc nk tb zC zM) (v1 v2 v3 : Int32) {c : Nat} (hc : c < nk) : ∀ (k d n : Nat) (z : sg_M), d + k = 5 → k + 100 ≤ n → sc_M zM z → ∃ z', gM_order_LL n 61 v1 v2 v3 (nI c) (nI d) 0 0 z = gM_order_LL (n - k - 1) 49 v1 v2 v3 (nI (c + 1)) 0 0 0 z' ∧ sc_M zM z' ∧ (∀ e, d ≤ e → e < 5 → z'.2 13 (5 * c + e) = od_T nc zM c e) ∧ (∀ i, (i < 5 * c + d ∨ 5 * c + 5 ≤ i) → z'.2 13 i = z.2 13 i) := by
  intro k
  induction k with
  | zero =>
    intro d n z hd hn1 hz
    obtain ⟨m, rfl⟩ : ∃ q, n = q + 1 := ⟨n - 1, by omega⟩
    refine ⟨z, ?_, hz, fun e h1 h2 => by omega, fun _ _ => rfl⟩
    conv => lhs; unfold gM_order_LL
    rw [if_neg (by decide), if_pos rfl, if_pos (show (5 : Int32) ≤ nI d from (pi_le (a := 5) (by omega) (by omega)).mpr (by omega)), nI_1]
    rfl
  | succ k ih =>
    intro d n z hd hn1 hz
    obtain ⟨m, rfl⟩ : ∃ q, n = q + 1 := ⟨n - 1, by omega⟩
    have h2 := hr.2.1
    have hrz := sc_road (sc_C.rf zC) hz hr
    have hnz := sc_now (sc_C.rf zC) hz hn
    have ew := rM_wetBehind hrz hnz d m (by omega) (by omega)
    have es := rM_stopOf hrz hc (sp_wet z d) m (by omega)
    have eT : sp_stop nc z c (z.2 5 (80 + c)) (sp_wet z d) = od_T nc zM c d := sc_T hz nc c d
    have hz1 : sc_M zM (sg_w z 13 (nI (5 * c + d)) (od_T nc zM c d)) := ⟨hz.1, fun a ha => by rw [pw_2, if_neg (by omega)]; exact hz.2 a ha⟩
    obtain ⟨z', g1, g2, g3, g4⟩ := ih (d + 1) m (sg_w z 13 (nI (5 * c + d)) (od_T nc zM c d)) (by omega) (by omega) hz1
    refine ⟨z', ?_, g2, fun e h1 h3 => ?_, fun i hi => ?_⟩
    · conv => lhs; unfold gM_order_LL
      rw [if_neg (by decide), if_pos rfl, if_neg (show ¬ (5 : Int32) ≤ nI d from fun h => by have := (pi_le (a := 5) (by omega) (by omega)).mp h; omega), ew, Option.bind_some, es, Option.bind_some, eT]
      have ei : (5 : Int32) * nI c + nI d = nI (5 * c + d) := by
        rw [show (5 : Int32) * nI c = nI (5 * c) from pk_mul 5 c, nI_add]
      rw [ei, pi_in (j := 5 * c + d) (by omega) (by omega), nI_1]
      simp only [if_true, pl_let]
      rw [g1, show m + 1 - (k + 1) - 1 = m - k - 1 by omega]
    · rcases Nat.lt_or_ge d e with q | q
      · exact g3 e (by omega) h3
      · have e1 : e = d := by omega
        rw [g4 _ (by omega), pw_2, if_pos rfl, pi_cl (by omega), pu_at, if_pos (by omega), e1]
    · rw [g4 i (by omega), pw_2, if_pos rfl, pi_cl (by omega), pu_at, if_neg (by omega)]
theorem rM_ordO {nc nk tb : Nat} {zC zM : sg_M} (hr : rl_road nc nk zC zM) (hn : rl_now nc nk tb zC zM) (v1 v2 v3 : Int32) : ∀ (k c n : Nat) (z : sg_M), c + k = nk → 20 * k + 200 ≤ n → sc_M zM z → (∀ e d, e < c → d < 5 → z.2 13 (5 * e + d) = od_T nc zM e d) → ∃ z', gM_order_LL n 49 v1 v2 v3 (nI c) 0 0 0 z = gM_order_LL (n - 7 * k - 1) 109 v1 v2 v3 1 0 0 0 z' ∧ sc_M zM z' ∧ (∀ e d, e < nk → d < 5 → z'.2 13 (5 * e + d) = od_T nc zM e d) := by
  intro k
  induction k with
  | zero =>
    intro c n z hc hn1 hz ht
    obtain ⟨m, rfl⟩ : ∃ q, n = q + 1 := ⟨n - 1, by omega⟩
    have h2 := hr.2.1
    refine ⟨z, ?_, hz, fun e d h1 h2 => ht e d (by omega) h2⟩
    conv => lhs; unfold gM_order_LL
    rw [if_pos rfl, hz.1 2, hr.2.2.2.2.2.2.1, if_pos ((pi_le (by omega) (by omega)).mpr (by omega))]
    rfl
  | succ k ih =>
    intro c n z hc hn1 hz ht
    obtain ⟨m, rfl⟩ : ∃ q, n = q + 1 := ⟨n - 1, by omega⟩
    have h2 := hr.2.1
    obtain ⟨z1, g1, g2, g3, g4⟩ := rM_ordI hr hn v1 v2 v3 (c := c) (by omega) 5 0 m z (by omega) (by omega) hz
    obtain ⟨z', o1, o2, o3⟩ := ih (c + 1) (m - 5 - 1) z1 (by omega) (by omega) g2 (fun e d he hd => by
      rcases Nat.lt_or_ge e c with q | q
      · rw [g4 _ (by omega)]; exact ht e d q hd
      · have e1 : e = c := by omega
        rw [e1]; exact g3 d (by omega) hd)
    refine ⟨z', ?_, o2, o3⟩
    conv => lhs; unfold gM_order_LL
    rw [if_pos rfl, hz.1 2, hr.2.2.2.2.2.2.1, if_neg (fun h => by have := (pi_le (by omega) (by omega)).mp h; omega)]
    rw [show gM_order_LL m 61 v1 v2 v3 (nI c) 0 0 0 z = gM_order_LL m 61 v1 v2 v3 (nI c) (nI 0) 0 0 z from rfl, g1, o1, show m - 5 - 1 - 7 * k - 1 = m + 1 - 7 * (k + 1) - 1 by omega]
theorem rM_ord109 {many : Nat} (hm : many ≤ 5) (v1 v2 : Int32) (z : sg_M) : ∀ (k d n : Nat), d + k = many → k < n → gM_order_LL n 109 v1 v2 (nI many) (nI (10 ^ d)) (nI d) 0 0 z = gM_order_LL (n - k - 1) 137 v1 v2 (nI many) (nI (10 ^ many)) 0 (-1) 0 z := by
  intro k
  induction k with
  | zero =>
    intro d n hd hn
    obtain ⟨m, rfl⟩ : ∃ q, n = q + 1 := ⟨n - 1, by omega⟩
    conv => lhs; unfold gM_order_LL
    rw [if_neg (by decide), if_neg (by decide), if_pos rfl, if_pos ((pi_le (by omega) (by omega)).mpr (by omega)), show d = many by omega]
    rfl
  | succ k ih =>
    intro d n hd hn
    obtain ⟨m, rfl⟩ : ∃ q, n = q + 1 := ⟨n - 1, by omega⟩
    conv => lhs; unfold gM_order_LL
    rw [if_neg (by decide), if_neg (by decide), if_pos rfl, if_neg (fun h => by have := (pi_le (by omega) (by omega)).mp h; omega), pl_let, show nI (10 ^ d) * 10 = nI (10 ^ d * 10) from pk_mul _ 10, ← Nat.pow_succ, nI_1, ih (d + 1) m (by omega) (by omega), show m + 1 - (k + 1) - 1 = m - k - 1 by omega]
theorem rM_ord137 {S : Nat → Nat → Int32} {nk : Nat} (hk : nk ≤ 8) (hS : od_S S nk) {z : sg_M} (hT : ∀ c n, c < nk → n < 5 → z.2 13 (5 * c + n) = S c n) {many left t : Nat} (hm : many ≤ 5) (hl : left < 256) (hb : ∀ c, left.testBit c = true → c < nk) (ht : t < 2 ^ 20) (etw : ∀ n, 21 ≤ n → gM_towns n z = some (nI t)) (v2 : Int32) : ∀ (k f n : Nat) (b : Int32 × Int32), f + k = 10 ^ many → k + 100 ≤ n → gM_order_LL n 137 (nI left) v2 (nI many) (nI (10 ^ many)) b.2 b.1 (nI f) z = some (let r := od_en (fun fig => od_ev S fig many 0 left t 0) k f b; if v2 = 0 then r.1 else r.2, z) := by
  have hp5 : 10 ^ many ≤ 10 ^ 5 := Nat.pow_le_pow_right (by omega) (by omega)
  intro k
  induction k with
  | zero =>
    intro f n b hf hn
    obtain ⟨m, rfl⟩ : ∃ q, n = q + 1 := ⟨n - 1, by omega⟩
    unfold gM_order_LL
    rw [if_neg (by decide), if_neg (by decide), if_neg (by decide), if_pos rfl, if_pos ((pi_le (by omega) (by omega)).mpr (by omega))]
    show _ = some (if v2 = 0 then b.1 else b.2, z)
    by_cases h : v2 = 0
    · rw [if_pos h, if_pos h]
    · rw [if_neg h, if_neg h]
  | succ k ih =>
    intro f n b hf hn
    obtain ⟨m, rfl⟩ : ∃ q, n = q + 1 := ⟨n - 1, by omega⟩
    conv => lhs; unfold gM_order_LL
    rw [if_neg (by decide), if_neg (by decide), if_neg (by decide), if_pos rfl, if_neg (fun h => by have := (pi_le (by omega) (by omega)).mp h; omega), rM_found hk hS hT hm (by omega) hl hb ht m (by omega) (etw m (by omega)), Option.bind_some]
    simp only [pl_let]
    rw [nI_1]
    have e2 : (if od_ev S f many 0 left t 0 ≤ b.1 then b.2 else nI f) = (od_up b (od_ev S f many 0 left t 0) (nI f)).2 := by
      unfold od_up
      split <;> rfl
    have e1 : (if od_ev S f many 0 left t 0 ≤ b.1 then b.1 else od_ev S f many 0 left t 0) = (od_up b (od_ev S f many 0 left t 0) (nI f)).1 := by
      unfold od_up
      split <;> rfl
    rw [e1, e2]
    exact ih (f + 1) m _ (by omega) (by omega)
theorem rr_order {nc nk tb : Nat} {zC zM : sg_M} (hr : rl_road nc nk zC zM) (hn : rl_now nc nk tb zC zM) (a w : Int32) (n : Nat) (hn1 : 150000 ≤ n) : ∃ v zC' zM', gC_order n a w zC = some (v, zC') ∧ gM_order n a w zM = some (v, zM') ∧ sc_C zC zC' ∧ sc_M zM zM' := by
  have hk := hr.2.1
  have hc := hr.1
  unfold gC_order gM_order
  rcases rr_set hr a with ⟨h1, h2⟩ | ⟨l, hl, rfl, h1, h2⟩
  · rw [if_pos h1, if_pos h2]
    exact ⟨_, _, _, rfl, rfl, sc_C.rf _, sc_M.rf _⟩
  · have hp8 : 2 ^ nk ≤ 2 ^ 8 := Nat.pow_le_pow_right (by omega) hk
    have hl256 : l < 256 := by omega
    have hb : ∀ c, l.testBit c = true → c < nk := fun c hcb => by
      rcases Nat.lt_or_ge c nk with q | q
      · exact q
      · have hle : 2 ^ nk ≤ 2 ^ c := Nat.pow_le_pow_right (by omega) q
        rw [Nat.testBit_lt_two_pow (Nat.lt_of_lt_of_le hl hle)] at hcb
        exact absurd hcb (by decide)
    rw [if_neg (pi_n10 h1), if_neg (pi_n10 h2), show (0 : Int64) = (0 : Int32).toInt64 by decide, show (1 : Int64) = (1 : Int32).toInt64 by decide]
    rcases pi_ginN w 0 1 with ⟨g1, g2⟩ | ⟨g1, g2, g3⟩
    · rw [if_pos g1]
      rcases g2 with g2 | ⟨g2, g3⟩
      · rw [if_pos g2]
        exact ⟨_, _, _, rfl, rfl, sc_C.rf _, sc_M.rf _⟩
      · rw [if_neg g2, if_neg g3]
        exact ⟨_, _, _, rfl, rfl, sc_C.rf _, sc_M.rf _⟩
    · rw [if_neg (pi_n10 g1), if_neg g2, if_pos g3, od_pcC l hl256]
      have eb : gM_bits n (nI l) zM = some (nI (od_pc l)) := by
        have := od_bits hl256 zM 20 0 n 0 (by omega) (by omega)
        rw [od_bF_pc l hl256] at this
        exact this
      rw [eb, Option.bind_some]
      have hpc : od_pc l ≤ 8 := by unfold od_pc; omega
      by_cases h5 : 5 < od_pc l
      · have h5' : (5 : Int32) < nI (od_pc l) := (pi_lt (a := 5) (by omega) (by omega)).mpr h5
        rw [if_pos h5', if_pos h5']
        exact ⟨_, _, _, rfl, rfl, sc_C.rf _, sc_M.rf _⟩
      · have h5' : ¬ (5 : Int32) < nI (od_pc l) := fun h => h5 ((pi_lt (a := 5) (by omega) (by omega)).mp h)
        obtain ⟨st1, st2⟩ := rr_stuck hr hn n (by omega)
        rw [if_neg h5', if_neg h5', st1, st2, Option.bind_some, Option.bind_some]
        by_cases hs : nI l &&& nI (sp_stuck nk zM) = 0
        · rw [if_pos hs, if_pos hs, (rr_towns hr hn n (by omega)).1, Option.bind_some]
          have ht20 : sp_towns nc zM < 2 ^ 20 := sp_set_b _ nc 0 0 (by omega) (by omega)
          have hS := od_T_S hr
          -- the class
          obtain ⟨z1, c1, c2, c3⟩ := rC_lookO hr hn (nI l) (nI (sp_towns nc zM)) 5 0 n zC (by omega) (by omega) (sc_C.rf zC) (fun c e _ he => by omega)
          have c4 : od_C (od_T nc zM) nk (sg_s (sg_s z1 17 (-1)) 18 0) := c3
          have cs := rC_send1 hk hS (od_pc l) 100 0 l (sp_towns nc zM) 0 0 (sg_s (sg_s z1 17 (-1)) 18 0) c4 hl256 hb rfl (by omega) (by omega)
          have eC : gC_Orders_look n (nI l) (nI (sp_towns nc zM)) zC = some (od_z (sg_s (sg_s z1 17 (-1)) 18 0) (od (od_T nc zM) nk (od_pc l) 0 l (sp_towns nc zM) 0 0 (-1, 0))) := by
            unfold gC_Orders_look
            rw [show gC_Orders_look_LL n 2 (nI l) (nI (sp_towns nc zM)) 0 0 zC = gC_Orders_look_LL n 2 (nI l) (nI (sp_towns nc zM)) (nI 0) 0 zC from rfl, c1]
            exact cs
          rw [eC, Option.bind_some]
          -- the reference
          obtain ⟨z2, m1, m2, m3⟩ := rM_ordO hr hn (nI l) w (nI (od_pc l)) nk 0 n zM (by omega) (by omega) (sc_M.rf zM) (fun c e he _ => by omega)
          have etw : ∀ n, 21 ≤ n → gM_towns n z2 = some (nI (sp_towns nc zM)) := fun q hq => by
            rw [(rr_towns (sc_road (sc_C.rf zC) m2 hr) (sc_now (sc_C.rf zC) m2 hn) q hq).2, sc_towns m2]
          have e109 := rM_ord109 (many := od_pc l) (by omega) (nI l) w z2 (od_pc l) 0 (n - 7 * nk - 1) (by omega) (by omega)
          have hp5 : 10 ^ od_pc l ≤ 10 ^ 5 := Nat.pow_le_pow_right (by omega) (by omega)
          have e137 := rM_ord137 hk hS m3 (many := od_pc l) (by omega) hl256 hb ht20 etw w (10 ^ od_pc l) 0 (n - 7 * nk - 1 - od_pc l - 1) (-1, 0) (by omega) (by omega)
          have em := od_main (od_T nc zM) hk (od_pc l) 0 l (sp_towns nc zM) 0 0 (-1, 0) (Int32.le_refl _) hb
          rw [Nat.zero_mul] at em
          rw [em] at e137
          rw [show gM_order_LL n 49 (nI l) w (nI (od_pc l)) 0 0 0 0 zM = gM_order_LL n 49 (nI l) w (nI (od_pc l)) (nI 0) 0 0 0 zM from rfl, m1, show gM_order_LL (n - 7 * nk - 1) 109 (nI l) w (nI (od_pc l)) 1 0 0 0 z2 = gM_order_LL (n - 7 * nk - 1) 109 (nI l) w (nI (od_pc l)) (nI (10 ^ 0)) (nI 0) 0 0 z2 from rfl, e109, show gM_order_LL (n - 7 * nk - 1 - od_pc l - 1) 137 (nI l) w (nI (od_pc l)) (nI (10 ^ od_pc l)) 0 (-1) 0 z2 = _ from e137]
          have fC : sc_C zC (od_z (sg_s (sg_s z1 17 (-1)) 18 0) (od (od_T nc zM) nk (od_pc l) 0 l (sp_towns nc zM) 0 0 (-1, 0))) := by
            refine ⟨fun k hk => ?_, c2.2⟩
            unfold od_z
            rw [ps_1, if_neg (by omega), ps_1, if_neg (by omega), ps_1, if_neg (by omega), ps_1, if_neg (by omega)]
            exact c2.1 k hk
          by_cases hw : w = 0
          · rw [if_pos hw]
            exact ⟨_, _, _, rfl, by simp only [if_pos hw]; rfl, fC, m2⟩
          · rw [if_neg hw]
            exact ⟨_, _, _, rfl, by simp only [if_neg hw]; rfl, fC, m2⟩
        · rw [if_neg hs, if_neg hs]
          exact ⟨_, _, _, rfl, rfl, sc_C.rf _, sc_M.rf _⟩
