/-! what is asked -/
theorem pi_i64_0 : (0 : Int64) = (0 : Int32).toInt64 := by decide
theorem st_fault {tb : Nat} {zC zM : sg_M} (h : Rl tb zC zM) : gC_fault zC = gM_fault zM := by
  obtain ⟨nc, nk, nu, nx, nh, nb, len, r1, r2, r3, r4, r5, r6, r7, r8, r9⟩ := h
  exact r8
theorem st_told {tb : Nat} {zC zM : sg_M} (h : Rl tb zC zM) (a : Int32) (n : Nat) (hn : 200000 ≤ n) : ∃ v zC', gC_told n a zC = some (v, zC') ∧ gM_told n a zM = some v ∧ Rl tb zC' zM := by
  have hR := h
  obtain ⟨nc, nk, nu, nx, nh, nb, len, r1, r2, r3, r4, r5, r6, r7, r8, r9⟩ := h
  unfold gC_told gM_told
  by_cases c0 : a = 0
  · rw [if_pos c0, if_pos c0, r1.2.2.2.1, r1.2.2.2.2.1]; exact ⟨_, _, rfl, rfl, hR⟩
  rw [if_neg c0, if_neg c0]
  by_cases c1 : a = 1
  · rw [if_pos c1, if_pos c1, r1.2.2.2.2.2.1, r1.2.2.2.2.2.2.1]; exact ⟨_, _, rfl, rfl, hR⟩
  rw [if_neg c1, if_neg c1]
  by_cases c2 : a = 2
  · rw [if_pos c2, if_pos c2, r7.2.1, r7.2.2.1]; exact ⟨_, _, rfl, rfl, hR⟩
  rw [if_neg c2, if_neg c2]
  by_cases c3 : a = 3
  · rw [if_pos c3, if_pos c3, r2.2.2.2.2.2.2.2.1]; exact ⟨_, _, rfl, rfl, hR⟩
  rw [if_neg c3, if_neg c3]
  by_cases c4 : a = 4
  · rw [if_pos c4, if_pos c4, rC_wet0 r1 r2 n (by omega), rM_wet r1 r2 n (by omega)]; exact ⟨_, _, rfl, rfl, hR⟩
  rw [if_neg c4, if_neg c4]
  by_cases c5 : a = 5
  · rw [if_pos c5, if_pos c5, r2.2.2.2.2.2.2.2.2.1]; exact ⟨_, _, rfl, rfl, hR⟩
  rw [if_neg c5, if_neg c5]
  by_cases c6 : a = 6
  · rw [if_pos c6, if_pos c6, (rr_towns r1 r2 n (by omega)).1, (rr_towns r1 r2 n (by omega)).2]; exact ⟨_, _, rfl, rfl, hR⟩
  rw [if_neg c6, if_neg c6]
  by_cases c7 : a = 7
  · rw [if_pos c7, if_pos c7, (rr_stuck r1 r2 n (by omega)).1, (rr_stuck r1 r2 n (by omega)).2]; exact ⟨_, _, rfl, rfl, hR⟩
  rw [if_neg c7, if_neg c7]
  by_cases c8 : a = 8
  · obtain ⟨v, z', e1, e2, e3⟩ := rr_stopper r1 r2 n (by omega)
    rw [if_pos c8, if_pos c8, e1, e3]
    exact ⟨v, z', rfl, rfl, hR.sc e2 (sc_M.rf _)⟩
  rw [if_neg c8, if_neg c8]
  by_cases c9 : a = 9
  · obtain ⟨v, e1, e2⟩ := rr_far r1 r2 n (by omega)
    rw [if_pos c9, if_pos c9, e1, e2]; exact ⟨_, _, rfl, rfl, hR⟩
  rw [if_neg c9, if_neg c9]
  by_cases c10 : a = 10
  · obtain ⟨v, e1, e2⟩ := rr_long r1 r2 n (by omega)
    rw [if_pos c10, if_pos c10, e1, e2]; exact ⟨_, _, rfl, rfl, hR⟩
  rw [if_neg c10, if_neg c10]
  by_cases c11 : a = 11
  · obtain ⟨v, e1, e2⟩ := rr_biggest r1 r2 n (by omega)
    rw [if_pos c11, if_pos c11, e1, e2]; exact ⟨_, _, rfl, rfl, hR⟩
  rw [if_neg c11, if_neg c11]
  by_cases c12 : a = 12
  · obtain ⟨v, e1, e2⟩ := rr_folk r1 r2 n (by omega)
    rw [if_pos c12, if_pos c12, e1, e2]; exact ⟨_, _, rfl, rfl, hR⟩
  rw [if_neg c12, if_neg c12]
  by_cases c13 : a = 13
  · rw [if_pos c13, if_pos c13, r4.2.1, r4.2.2.1]; exact ⟨_, _, rfl, rfl, hR⟩
  rw [if_neg c13, if_neg c13]
  by_cases c14 : a = 14
  · rw [if_pos c14, if_pos c14, r5.2.1, r5.2.2.1]; exact ⟨_, _, rfl, rfl, hR⟩
  rw [if_neg c14, if_neg c14]
  by_cases c15 : a = 15
  · rw [if_pos c15, if_pos c15, r3.2.2.1, r3.2.2.2.1]; exact ⟨_, _, rfl, rfl, hR⟩
  rw [if_neg c15, if_neg c15]
  exact ⟨_, _, rfl, rfl, hR⟩
theorem rC_folkAt {nc nk tb : Nat} {zC zM : sg_M} (hn : rl_now nc nk tb zC zM) {x : Nat} (hx : x < nc ∧ nc ≤ 20) : gC_State_folkAt (nI x) zC = some (if zM.2 5 (20 + x) = -1 then -1 else zM.2 5 (60 + x)) := by
  unfold gC_State_folkAt
  rw [rC_town hn hx, Option.bind_some]
  unfold sp_town
  by_cases c : zM.2 5 (20 + x) = -1
  · rw [if_pos c, if_pos rfl, if_pos c]
  · rw [if_neg c, if_neg (by decide), if_neg c, pi_in (j := x) (n := 20) (by omega) (by omega), pi_cl (by omega), hn.2.2.2.1 x (by omega)]
    rfl
theorem rM_cell4 {nc nk tb : Nat} {zC zM : sg_M} (hr : rl_road nc nk zC zM) (hn : rl_now nc nk tb zC zM) {x : Nat} (hx : x < nc) : gM_cell (nI x) 4 zM = some (if zM.2 5 (20 + x) = -1 then -1 else zM.2 5 (60 + x)) := by
  have h1 := hr.1
  unfold gM_cell
  rcases rr_cell hr (nI x) with ⟨-, q⟩ | ⟨y, hy, hy2, -, q⟩
  · exfalso
    unfold gM_isCell at q
    have e1 : (1 : Int32).toInt = 1 := by decide
    have e2 : (nI nc - 1 : Int32).toInt = (nc : Int) - 1 := by
      rw [pi_subT (by rw [pi_nT (by omega)]; omega) (by rw [pi_nT (by omega)]; omega), pi_nT (by omega), e1]
    rw [hr.2.2.2.2.1, pi_i64_0, pi_gin, if_neg (pi_nneg (by omega)), if_neg (by rw [pi_ltT, e2, pi_nT (by omega)]; omega)] at q
    exact absurd q (by decide)
  · rw [if_neg (pi_n10 q), if_neg (by decide), if_neg (by decide), if_neg (by decide), if_neg (by decide), if_pos rfl, rM_town (by omega), Option.bind_some]
    unfold sp_town
    by_cases c : zM.2 5 (20 + x) = -1
    · rw [if_pos c, if_pos rfl, if_pos c]
    · rw [if_neg c, if_neg (by decide), if_neg c, pi_60, pi_in (j := 60 + x) (by omega) (by omega), pi_cl (by omega)]
      rfl
theorem st_cell {tb : Nat} {zC zM : sg_M} (h : Rl tb zC zM) (a b : Int32) : ∃ v, gC_cell a b zC = some v ∧ gM_cell a b zM = some v := by
  obtain ⟨nc, nk, nu, nx, nh, nb, len, r1, r2, r3, r4, r5, r6, r7, r8, r9⟩ := h
  have h1 := r1.1
  rcases rr_cell r1 a with ⟨p, q⟩ | ⟨x, hx, rfl, p, q⟩
  · unfold gC_cell gM_cell
    rw [if_pos p, if_pos q]; exact ⟨_, rfl, rfl⟩
  · have i1 := pi_in (j := x) (n := 20) (by omega) (by omega)
    have i2 := pi_in (j := x) (n := 106) (by omega) (by omega)
    have i20 := pi_in (j := 20 + x) (n := 106) (by omega) (by omega)
    have i40 := pi_in (j := 40 + x) (n := 106) (by omega) (by omega)
    by_cases c4 : b = 4
    · subst c4
      refine ⟨_, ?_, rM_cell4 r1 r2 hx⟩
      unfold gC_cell
      rw [if_neg (pi_n10 p), if_neg (by decide), if_neg (by decide), if_neg (by decide), if_neg (by decide), if_pos rfl, ob_id]
      exact rC_folkAt r2 (by omega)
    · unfold gC_cell gM_cell
      rw [if_neg (pi_n10 p), if_neg (pi_n10 q)]
      simp only [pi_20, pi_40, i1, i2, i20, i40, if_true, pi_cl (show x < 2147483648 by omega), pi_cl (show 20 + x < 2147483648 by omega), pi_cl (show 40 + x < 2147483648 by omega)]
      by_cases c0 : b = 0
      · rw [if_pos c0, if_pos c0, (r1.2.2.2.2.2.2.2.1 x hx).1]; exact ⟨_, rfl, rfl⟩
      rw [if_neg c0, if_neg c0]
      by_cases c1 : b = 1
      · rw [if_pos c1, if_pos c1, r2.1 x (by omega)]; exact ⟨_, rfl, rfl⟩
      rw [if_neg c1, if_neg c1]
      by_cases c2 : b = 2
      · rw [if_pos c2, if_pos c2, r2.2.1 x (by omega)]; exact ⟨_, rfl, rfl⟩
      rw [if_neg c2, if_neg c2]
      by_cases c3 : b = 3
      · rw [if_pos c3, if_pos c3, r2.2.2.1 x (by omega)]; exact ⟨_, rfl, rfl⟩
      rw [if_neg c3, if_neg c3, if_neg c4, if_neg c4]
      exact ⟨_, rfl, rfl⟩
theorem st_cart {tb : Nat} {zC zM : sg_M} (h : Rl tb zC zM) (a b : Int32) (n : Nat) (hn : 200000 ≤ n) : ∃ v, gC_cart n a b zC = some v ∧ gM_cart n a b zM = some v := by
  obtain ⟨nc, nk, nu, nx, nh, nb, len, r1, r2, r3, r4, r5, r6, r7, r8, r9⟩ := h
  have h1 := r1.2.1
  unfold gC_cart gM_cart
  rcases rr_cart r1 a with ⟨p, q⟩ | ⟨x, hx, rfl, p, q⟩
  · rw [if_pos p, if_pos q]; exact ⟨_, rfl, rfl⟩
  · have i1 := pi_in (j := x) (n := 8) (by omega) (by omega)
    have i80 := pi_in (j := 80 + x) (n := 106) (by omega) (by omega)
    have i88 := pi_in (j := 88 + x) (n := 106) (by omega) (by omega)
    have i96 := pi_in (j := 96 + x) (n := 106) (by omega) (by omega)
    rw [if_neg (pi_n10 p), if_neg (pi_n10 q)]
    simp only [pi_80, pi_88, pi_96, i1, i80, i88, i96, if_true, pi_cl (show x < 2147483648 by omega), pi_cl (show 80 + x < 2147483648 by omega), pi_cl (show 88 + x < 2147483648 by omega), pi_cl (show 96 + x < 2147483648 by omega)]
    by_cases c0 : b = 0
    · rw [if_pos c0, if_pos c0, (r1.2.2.2.2.2.2.2.2.1 x hx).1]; exact ⟨_, rfl, rfl⟩
    rw [if_neg c0, if_neg c0]
    by_cases c1 : b = 1
    · rw [if_pos c1, if_pos c1, r2.2.2.2.2.1 x hx]; exact ⟨_, rfl, rfl⟩
    rw [if_neg c1, if_neg c1]
    by_cases c2 : b = 2
    · rw [if_pos c2, if_pos c2, (r1.2.2.2.2.2.2.2.2.1 x hx).2.1]; exact ⟨_, rfl, rfl⟩
    rw [if_neg c2, if_neg c2]
    by_cases c3 : b = 3
    · rw [if_pos c3, if_pos c3, r2.2.2.2.2.2.1 x (by omega)]; exact ⟨_, rfl, rfl⟩
    rw [if_neg c3, if_neg c3]
    by_cases c4 : b = 4
    · rw [if_pos c4, if_pos c4, r2.2.2.2.2.2.2.1 x (by omega)]; exact ⟨_, rfl, rfl⟩
    rw [if_neg c4, if_neg c4]
    by_cases c5 : b = 5
    · obtain ⟨v, e1, e2⟩ := rr_mayor r1 r2 (nI x) n (by omega)
      rw [if_pos c5, if_pos c5, e1, e2]; exact ⟨_, rfl, rfl⟩
    rw [if_neg c5, if_neg c5]
    exact ⟨_, rfl, rfl⟩
theorem st_sink {tb : Nat} {zC zM : sg_M} (h : Rl tb zC zM) (a b : Int32) (n : Nat) (hn : 200000 ≤ n) : ∃ v, gC_sink n a b zC = some v ∧ gM_sink n a b zM = some v := by
  obtain ⟨nc, nk, nu, nx, nh, nb, len, r1, r2, r3, r4, r5, r6, r7, r8, r9⟩ := h
  have h1 := r1.2.1
  unfold gC_sink gM_sink
  rcases rr_cart r1 a with ⟨p, q⟩ | ⟨c, hc, rfl, p, q⟩
  · rw [if_pos p, if_pos q]; exact ⟨_, rfl, rfl⟩
  · rw [if_neg (pi_n10 p), if_neg (pi_n10 q)]
    rcases rr_cell r1 b with ⟨p, q⟩ | ⟨x, hx, rfl, p, q⟩
    · rw [if_pos p, if_pos q]; exact ⟨_, rfl, rfl⟩
    · rw [if_neg (pi_n10 p), if_neg (pi_n10 q), rC_wet0 r1 r2 n (by omega), rM_wet r1 r2 n (by omega), Option.bind_some, Option.bind_some, pi_in (j := c) (n := 8) (by omega) (by omega), pi_cl (by omega), rM_ground r1 hc hx, Option.bind_some, pi_80, pi_in (j := 80 + c) (n := 106) (by omega) (by omega), pi_cl (by omega), rM_weighs r1 hc, r2.2.2.2.2.1 c hc, rC_sink r1 r2 hc hx]
      exact ⟨_, rfl, rfl⟩
theorem st_stops {tb : Nat} {zC zM : sg_M} (h : Rl tb zC zM) (a b : Int32) (n : Nat) (hn : 200000 ≤ n) : ∃ v, gC_stops n a b zC = some v ∧ gM_stops n a b zM = some v := by
  obtain ⟨nc, nk, nu, nx, nh, nb, len, r1, r2, r3, r4, r5, r6, r7, r8, r9⟩ := h
  unfold gC_stops gM_stops
  rcases rr_cart r1 a with ⟨p, q⟩ | ⟨c, hc, rfl, p, q⟩
  · rw [if_pos p, if_pos q]; exact ⟨_, rfl, rfl⟩
  · rw [if_neg (pi_n10 p), if_neg (pi_n10 q), pi_i64_0, show (100 : Int64) = (100 : Int32).toInt64 by decide]
    rcases pi_ginN b 0 100 with ⟨g1, g2⟩ | ⟨g1, g2, g3⟩
    · rw [if_pos g1]
      rcases g2 with g2 | ⟨g2, g3⟩
      · rw [if_pos g2]; exact ⟨_, rfl, rfl⟩
      · rw [if_neg g2, if_neg g3]; exact ⟨_, rfl, rfl⟩
    · obtain ⟨k, hk, rfl⟩ := pi_upto (N := 100) (by omega) g2 g3
      rw [if_neg (pi_n10 g1), if_neg g2, if_pos g3, rC_stopBehind r1 r2 hc k n (by omega) (by omega), rM_wetBehind r1 r2 k n (by omega) (by omega), Option.bind_some, Option.bind_some, rM_stopOf r1 hc _ n (by omega)]
      exact ⟨_, rfl, rfl⟩
theorem st_soonest {tb : Nat} {zC zM : sg_M} (h : Rl tb zC zM) (a b : Int32) (n : Nat) (hn : 200000 ≤ n) : ∃ v, gC_soonest n a b zC = some v ∧ gM_soonest n a b zM = some v := by
  obtain ⟨nc, nk, nu, nx, nh, nb, len, r1, r2, r3, r4, r5, r6, r7, r8, r9⟩ := h
  unfold gC_soonest gM_soonest
  rcases rr_cart r1 a with ⟨p, q⟩ | ⟨c, hc, rfl, p, q⟩
  · rw [if_pos p, if_pos q]; exact ⟨_, rfl, rfl⟩
  · rw [if_neg (pi_n10 p), if_neg (pi_n10 q)]
    rcases rr_cell r1 b with ⟨p, q⟩ | ⟨x, hx, rfl, p, q⟩
    · rw [if_pos p, if_pos q]; exact ⟨_, rfl, rfl⟩
    · obtain ⟨v, e1, e2⟩ := rr_soon r1 r2 hc (nI x) n (by omega)
      rw [if_neg (pi_n10 p), if_neg (pi_n10 q), e1, e2]; exact ⟨_, rfl, rfl⟩
theorem st_loads {tb : Nat} {zC zM : sg_M} (h : Rl tb zC zM) (a b w : Int32) (n : Nat) (hn : 200000 ≤ n) : ∃ v zC', gC_loads n a b w zC = some (v, zC') ∧ gM_loads n a b w zM = some v ∧ Rl tb zC' zM := by
  have hR := h
  obtain ⟨nc, nk, nu, nx, nh, nb, len, r1, r2, r3, r4, r5, r6, r7, r8, r9⟩ := h
  unfold gC_loads gM_loads
  rcases rr_cart r1 a with ⟨p, q⟩ | ⟨c, hc, rfl, p, q⟩
  · rw [if_pos p, if_pos q]; exact ⟨_, _, rfl, rfl, hR⟩
  · rw [if_neg (pi_n10 p), if_neg (pi_n10 q)]
    rcases rr_cell r1 b with ⟨p, q⟩ | ⟨x, hx, rfl, p, q⟩
    · rw [if_pos p, if_pos q]; exact ⟨_, _, rfl, rfl, hR⟩
    · rw [if_neg (pi_n10 p), if_neg (pi_n10 q), pi_i64_0, show (2 : Int64) = (2 : Int32).toInt64 by decide]
      rcases pi_ginN w 0 2 with ⟨g1, g2⟩ | ⟨g1, g2, g3⟩
      · rw [if_pos g1]
        rcases g2 with g2 | ⟨g2, g3⟩
        · rw [if_pos g2]; exact ⟨_, _, rfl, rfl, hR⟩
        · rw [if_neg g2, if_neg g3]; exact ⟨_, _, rfl, rfl, hR⟩
      · obtain ⟨z', e1, e2, e3⟩ := rr_loads r1 r2 hc (nI x) w n (by omega)
        rw [if_neg (pi_n10 g1), if_neg g2, if_pos g3, e1, e3]
        exact ⟨_, _, rfl, rfl, hR.sc e2 (sc_M.rf _)⟩
theorem st_gravelTo {tb : Nat} {zC zM : sg_M} (h : Rl tb zC zM) (a b : Int32) (n : Nat) (hn : 200000 ≤ n) : ∃ v, gC_gravelTo n a b zC = some v ∧ gM_gravelTo n a b zM = some v := by
  obtain ⟨nc, nk, nu, nx, nh, nb, len, r1, r2, r3, r4, r5, r6, r7, r8, r9⟩ := h
  have h1 := r1.1
  have h2 := r1.2.1
  unfold gC_gravelTo gM_gravelTo
  rcases rr_cart r1 a with ⟨p, q⟩ | ⟨c, hc, rfl, p, q⟩
  · rw [if_pos p, if_pos q]; exact ⟨_, rfl, rfl⟩
  · rw [if_neg (pi_n10 p), if_neg (pi_n10 q)]
    rcases rr_cell r1 b with ⟨p, q⟩ | ⟨x, hx, rfl, p, q⟩
    · rw [if_pos p, if_pos q]; exact ⟨_, rfl, rfl⟩
    · obtain ⟨v, e1, e2⟩ := rr_gravToL r1 r2 hc hx x 0 n 0 (by omega) (by omega)
      rw [if_neg (pi_n10 p), if_neg (pi_n10 q), pb_shl (by omega)]
      unfold gC_Trials_gravelAhead
      rw [show gC_Trials_gravelAhead_L n (nI (2 ^ c)) (nI x) 0 0 zC = some v from e1, show gM_gravelTo_L n (nI c) (nI x) 0 0 zM = some v from e2]
      exact ⟨_, rfl, rfl⟩
theorem st_gravelForAll {tb : Nat} {zC zM : sg_M} (h : Rl tb zC zM) (a : Int32) (n : Nat) (hn : 200000 ≤ n) : ∃ v, gC_gravelForAll n a zC = some v ∧ gM_gravelForAll n a zM = some v := by
  obtain ⟨nc, nk, nu, nx, nh, nb, len, r1, r2, r3, r4, r5, r6, r7, r8, r9⟩ := h
  have h1 := r1.1
  have h2 := r1.2.1
  unfold gC_gravelForAll gM_gravelForAll
  rcases rr_set r1 a with ⟨p, q⟩ | ⟨s, hs, rfl, p, q⟩
  · rw [if_pos p, if_pos q]; exact ⟨_, rfl, rfl⟩
  · have hp8 : 2 ^ nk ≤ 2 ^ 8 := Nat.pow_le_pow_right (by omega) h2
    obtain ⟨v, e1, e2⟩ := rr_gravAllL r1 r2 (s := s) (by omega) nc 0 n n 0 (by omega) (by omega) (by omega)
    rw [if_neg (pi_n10 p), if_neg (pi_n10 q), r1.2.2.2.1]
    unfold gC_Trials_gravelAhead
    rw [show gC_Trials_gravelAhead_L n (nI s) (nI nc) 0 0 zC = some v from e1, show gM_gravelForAll_LL n 15 (nI s) 0 0 0 0 zM = some v from e2]
    exact ⟨_, rfl, rfl⟩
theorem st_order {tb : Nat} {zC zM : sg_M} (h : Rl tb zC zM) (a w : Int32) (n : Nat) (hn : 200000 ≤ n) : ∃ v zC' zM', gC_order n a w zC = some (v, zC') ∧ gM_order n a w zM = some (v, zM') ∧ Rl tb zC' zM' := by
  have hR := h
  obtain ⟨nc, nk, nu, nx, nh, nb, len, r1, r2, r3, r4, r5, r6, r7, r8, r9⟩ := h
  obtain ⟨v, zC', zM', e1, e2, e3, e4⟩ := rr_order r1 r2 a w n (by omega)
  exact ⟨v, zC', zM', e1, e2, hR.sc e3 e4⟩
theorem st_place {tb : Nat} {zC zM : sg_M} (h : Rl tb zC zM) (a : Int32) (n : Nat) (hn : 200000 ≤ n) : ∃ v, gC_place n a zC = some v ∧ gM_place n a zM = some v := by
  obtain ⟨nc, nk, nu, nx, nh, nb, len, r1, r2, r3, r4, r5, r6, r7, r8, r9⟩ := h
  have h1 := r1.1
  unfold gC_place gM_place
  rw [pi_i64_0, show (1 : Int64) = (1 : Int32).toInt64 by decide]
  rcases pi_ginN a 0 1 with ⟨g1, g2⟩ | ⟨g1, g2, g3⟩
  · rw [if_pos g1]
    rcases g2 with g2 | ⟨g2, g3⟩
    · rw [if_pos g2]; exact ⟨_, rfl, rfl⟩
    · rw [if_neg g2, if_neg g3]; exact ⟨_, rfl, rfl⟩
  · rw [if_neg (pi_n10 g1), if_neg g2, if_pos g3, r1.2.2.2.1, r1.2.2.2.2.1]
    by_cases c : nc = 0
    · rw [if_pos (show nI nc = 0 by rw [c]; rfl), if_pos (show nI nc = 0 by rw [c]; rfl)]; exact ⟨_, rfl, rfl⟩
    · have nz : ¬ nI nc = 0 := nI_ne0 (by omega) (by omega)
      obtain ⟨k, hk, rfl⟩ := pi_upto (N := 1) (by omega) g2 g3
      obtain ⟨v, e1, e2⟩ := rr_place r1 r2 (nI k) (by rcases (show k = 0 ∨ k = 1 by omega) with h | h <;> rw [h] <;> decide) c n (by omega)
      rw [if_neg nz, if_neg nz, e1, e2]; exact ⟨_, rfl, rfl⟩
theorem st_said {tb : Nat} {zC zM : sg_M} (h : Rl tb zC zM) (a : Int32) (n : Nat) (hn : 200000 ≤ n) : ∃ v, gC_said n a zC = some v ∧ gM_said n a zM = some v := by
  obtain ⟨nc, nk, nu, nx, nh, nb, len, r1, r2, r3, r4, r5, r6, r7, r8, r9⟩ := h
  have h1 := r1.1
  unfold gC_said gM_said
  rw [pi_i64_0, show (9 : Int64) = (9 : Int32).toInt64 by decide]
  rcases pi_ginN a 0 9 with ⟨g1, g2⟩ | ⟨g1, g2, g3⟩
  · rw [if_pos g1]
    rcases g2 with g2 | ⟨g2, g3⟩
    · rw [if_pos g2]; exact ⟨_, rfl, rfl⟩
    · rw [if_neg g2, if_neg g3]; exact ⟨_, rfl, rfl⟩
  · obtain ⟨v, e1, e2⟩ := rr_saidL r1 r2 a nc 0 n 0 (by omega) (by omega)
    rw [if_neg (pi_n10 g1), if_neg g2, if_pos g3]
    unfold gC_Survey_townsNamed
    rw [show gC_Survey_townsNamed_L n a 0 0 zC = some v from e1, show gM_said_L n a 0 0 zM = some v from e2]
    exact ⟨_, rfl, rfl⟩
theorem rr_dryL (a b : Int32) (zC zM : sg_M) : ∀ (n : Nat) (o : Int64) (j : Int32), gC_dry_L n a b o j zC = gM_dry_L n a b o j zM := by
  intro n
  induction n with
  | zero => intro o j; rfl
  | succ n ih =>
    intro o j
    unfold gC_dry_L gM_dry_L
    simp only [pl_let, ih]
theorem rM_dryS (b : Int32) (z : sg_M) : ∀ (k j n : Nat) (a : Nat) (o : Int64), a < 100 → j + k = a → k < n → ∃ v, gM_dry_L n (nI a) b o (nI j) z = some v := by
  intro k
  induction k with
  | zero =>
    intro j n a o ha hj hn
    obtain ⟨m, rfl⟩ : ∃ q, n = q + 1 := ⟨n - 1, by omega⟩
    unfold gM_dry_L
    rw [if_pos ((pi_le (by omega) (by omega)).mpr (by omega))]
    exact ⟨_, rfl⟩
  | succ k ih =>
    intro j n a o ha hj hn
    obtain ⟨m, rfl⟩ : ∃ q, n = q + 1 := ⟨n - 1, by omega⟩
    unfold gM_dry_L
    rw [if_neg (fun h => by have := (pi_le (by omega) (by omega)).mp h; omega), pl_let, nI_1]
    exact ih (j + 1) m a _ ha (by omega) (by omega)
theorem st_dry {tb : Nat} {zC zM : sg_M} (_h : Rl tb zC zM) (a b : Int32) (n : Nat) (hn : 200000 ≤ n) : ∃ v, gC_dry n a b zC = some v ∧ gM_dry n a b zM = some v := by
  unfold gC_dry gM_dry
  rw [pi_i64_0, show (60 : Int64) = (60 : Int32).toInt64 by decide, show (100 : Int64) = (100 : Int32).toInt64 by decide]
  rcases pi_ginN a 0 60 with ⟨g1, g2⟩ | ⟨g1, g2, g3⟩
  · rw [if_pos g1]
    rcases g2 with g2 | ⟨g2, g3⟩
    · rw [if_pos g2]; exact ⟨_, rfl, rfl⟩
    · rw [if_neg g2, if_pos (Int32.not_le.mp g3)]; exact ⟨_, rfl, rfl⟩
  · rw [if_neg (pi_n10 g1), if_neg g2, if_neg (Int32.not_lt.mpr g3)]
    rcases pi_ginN b 0 100 with ⟨k1, k2⟩ | ⟨k1, k2, k3⟩
    · rw [if_pos k1]
      rcases k2 with k2 | ⟨k2, k3⟩
      · rw [if_pos k2]; exact ⟨_, rfl, rfl⟩
      · rw [if_neg k2, if_neg k3]; exact ⟨_, rfl, rfl⟩
    · rw [if_neg (pi_n10 k1), if_neg k2, if_pos k3, rr_dryL a b zC zM]
      obtain ⟨k, hk, rfl⟩ := pi_upto (N := 60) (by omega) g2 g3
      obtain ⟨v, e⟩ := rM_dryS b zM k 0 n k 1000000000 (by omega) (by omega) (by omega)
      exact ⟨v, e, e⟩
theorem st_rains {tb : Nat} {zC zM : sg_M} (h : Rl tb zC zM) (w : Int32) (n : Nat) (hn : 200000 ≤ n) : ∃ v zC', gC_rains n w zC = some (v, zC') ∧ gM_rains n w zM = some v ∧ Rl tb zC' zM := by
  have hR := h
  obtain ⟨nc, nk, nu, nx, nh, nb, len, r1, r2, r3, r4, r5, r6, r7, r8, r9⟩ := h
  unfold gC_rains gM_rains
  rw [pi_i64_0, show (2 : Int64) = (2 : Int32).toInt64 by decide]
  rcases pi_ginN w 0 2 with ⟨g1, g2⟩ | ⟨g1, g2, g3⟩
  · rw [if_pos g1]
    rcases g2 with g2 | ⟨g2, g3⟩
    · rw [if_pos g2]; exact ⟨_, _, rfl, rfl, hR⟩
    · rw [if_neg g2, if_neg g3]; exact ⟨_, _, rfl, rfl, hR⟩
  · obtain ⟨z', e1, e2, -, e3⟩ := rr_rains r1 r2 r4 w n (by omega)
    rw [if_neg (pi_n10 g1), if_neg g2, if_pos g3, e1, e3]
    exact ⟨_, _, rfl, rfl, hR.sc e2 (sc_M.rf _)⟩
theorem st_send {tb : Nat} {zC zM : sg_M} (h : Rl tb zC zM) (n : Nat) (hn : 200000 ≤ n) : ∃ v zC' zM', gC_send n zC = some (v, zC') ∧ gM_send n zM = some (v, zM') ∧ Rl tb zC' zM' := by
  have hR := h
  obtain ⟨nc, nk, nu, nx, nh, nb, len, r1, r2, r3, r4, r5, r6, r7, r8, r9⟩ := h
  obtain ⟨v, zC', zM', e1, e2, e3, e4⟩ := rr_send r1 r2 r4 n (by omega)
  exact ⟨v, zC', zM', e1, e2, hR.sc e3 e4⟩
theorem rr_judgeL {nc nk tb nb : Nat} {zC zM : sg_M} (r1 : rl_road nc nk zC zM) (r2 : rl_now nc nk tb zC zM) (r5 : rl_book nc nb zC zM) : ∀ (k j n : Nat), j + k = nb → k < n → ∃ v, gC_judge_L n (nI j) zC = some v ∧ gM_judge_L n (nI j) zM = some v := by
  obtain ⟨b1, b2, b3, b4⟩ := r5
  have h1 := r1.1
  intro k
  induction k with
  | zero =>
    intro j n hj hn
    obtain ⟨m, rfl⟩ : ∃ q, n = q + 1 := ⟨n - 1, by omega⟩
    unfold gC_judge_L gM_judge_L
    rw [b2, b3, if_pos ((pi_le (by omega) (by omega)).mpr (by omega)), if_pos ((pi_le (by omega) (by omega)).mpr (by omega))]
    exact ⟨_, rfl, rfl⟩
  | succ k ih =>
    intro j n hj hn
    obtain ⟨m, rfl⟩ : ∃ q, n = q + 1 := ⟨n - 1, by omega⟩
    have hlt : ¬ nI nb ≤ nI j := fun h => by have := (pi_le (by omega) (by omega)).mp h; omega
    obtain ⟨e1, e2, x, hx, e3⟩ := b4 j (by omega)
    have ec : gC_Road_hasCell (nI x) zC = 1 := by
      unfold gC_Road_hasCell
      rw [if_neg (pi_nneg (by omega)), r1.2.2.2.1, if_neg (fun h => by have := (pi_le (by omega) (by omega)).mp h; omega)]
    obtain ⟨v, i1, i2⟩ := ih (j + 1) m (by omega) (by omega)
    unfold gC_judge_L gM_judge_L
    rw [b2, b3, if_neg hlt, if_neg hlt, pi_in (j := j) (n := 15) (by omega) (by omega), pi_cl (by omega)]
    simp only [if_true, pl_let]
    rw [e1, e3, if_neg (pi_n10 ec), rC_folkAt r2 (by omega), rM_cell4 r1 r2 hx, Option.bind_some, Option.bind_some, e2, nI_1]
    by_cases c : (if zM.2 5 (20 + x) = -1 then -1 else zM.2 5 (60 + x)) = zM.2 18 j
    · rw [if_pos c, if_pos c]; exact ⟨v, i1, i2⟩
    · rw [if_neg c, if_neg c]; exact ⟨_, rfl, rfl⟩
theorem st_judge {tb : Nat} {zC zM : sg_M} (h : Rl tb zC zM) (n : Nat) (hn : 200000 ≤ n) : ∃ v, gC_judge n zC = some v ∧ gM_judge n zM = some v := by
  obtain ⟨nc, nk, nu, nx, nh, nb, len, r1, r2, r3, r4, r5, r6, r7, r8, r9⟩ := h
  have h5 := r5.1
  exact rr_judgeL r1 r2 r5 nb 0 n (by omega) (by omega)
