/-! deeds: the steps -/
theorem Rl.dd {nc nk tb tb2 : Nat} {zC zM zC' zM' : sg_M} (h1 : rl_road nc nk zC zM) (h3 : rl_back nc nk tb zC zM) (h4 : rl_seed zC zM) (fC : fn_C zC zC') (fM : fn_M zM zM') (h : rl_now nc nk tb2 zC' zM') (hle : tb ≤ tb2) (hb : tb2 ≤ 100000) : Rl tb2 zC' zM' :=
  Rl.of (fn_road fC fM h1) h (mo_back (gn_back ⟨h1.1, h1.2.1⟩ (gn_C.fn fC) (gn_M.fn fM) h3) hle hb) (cg_seed (fC.1 0 (by omega)) (fM.1 3) h4)
theorem rC_isStuck {nc nk tb : Nat} {zC zM : sg_M} (hn : rl_now nc nk tb zC zM) {c : Nat} (hk : nk ≤ 8) (hc : c < nk) : gC_State_isStuck (nI c) zC = some (if zM.2 5 (88 + c) = -1 then 0 else 1) := by
  unfold gC_State_isStuck
  rw [pi_in (j := c) (n := 8) (by omega) (by omega), pi_cl (by omega), hn.2.2.2.2.2.1 c hc]
  simp only [if_true]
  split <;> rfl
theorem st_drive {tb : Nat} (htb : tb + 1 ≤ 100000) {zC zM : sg_M} (h : Rl tb zC zM) (a : Int32) (n : Nat) (hn : 200000 ≤ n) : ∃ v zC' zM', gC_drive n a zC = some (v, zC') ∧ gM_drive n a zM = some (v, zM') ∧ Rl (tb + 1) zC' zM' := by
  have hR := h.mo (show tb ≤ tb + 1 by omega) htb
  obtain ⟨nc, nk, r1, r2, r3, r4⟩ := h.to
  have hk8 := r1.2.1
  have hk : nc ≤ 20 ∧ nk ≤ 8 := ⟨r1.1, r1.2.1⟩
  unfold gC_drive gM_drive
  rcases rr_cart r1 a with ⟨p, q⟩ | ⟨c, hc, rfl, p, q⟩
  · rw [if_pos p, if_pos q]; exact ⟨_, _, _, rfl, rfl, hR⟩
  · rw [if_neg (pi_n10 p), if_neg (pi_n10 q), rC_isStuck r2 hk8 hc, Option.bind_some, pi_88, pi_in (j := 88 + c) (by omega) (by omega), if_pos rfl, pi_cl (by omega)]
    by_cases hs : zM.2 5 (88 + c) = -1
    · rw [if_pos hs, if_pos rfl, if_pos hs]
      obtain ⟨zC1, zM1, e1, e2, s1, s2, s3, s4, -⟩ := Rl.rem r1 r2 r3 r4 n (by omega)
      rw [e1, e2, Option.bind_some, Option.bind_some]
      obtain ⟨v, zC2, zM2, o1, o2, o3, o4, o5, -⟩ := rr_drive s1 s2 htb hc n (by omega)
      rw [o1, o2]
      exact ⟨_, _, _, rfl, rfl, Rl.dd s1 s3 s4 o4 o5 o3 (by omega) htb⟩
    · rw [if_neg hs, if_neg (by decide), if_neg hs]
      exact ⟨_, _, _, rfl, rfl, hR⟩
theorem st_pull {tb : Nat} (htb : tb ≤ 100000) {zC zM : sg_M} (h : Rl tb zC zM) (a : Int32) (n : Nat) (hn : 200000 ≤ n) : ∃ v zC' zM', gC_pull a zC = some (v, zC') ∧ gM_pull n a zM = some (v, zM') ∧ Rl tb zC' zM' := by
  have hR := h
  obtain ⟨nc, nk, r1, r2, r3, r4⟩ := h.to
  have hk8 := r1.2.1
  have hk : nc ≤ 20 ∧ nk ≤ 8 := ⟨r1.1, r1.2.1⟩
  unfold gC_pull gM_pull
  rcases rr_cart r1 a with ⟨p, q⟩ | ⟨c, hc, rfl, p, q⟩
  · rw [if_pos p, if_pos q]; exact ⟨_, _, _, rfl, rfl, hR⟩
  · rw [if_neg (pi_n10 p), if_neg (pi_n10 q), rC_isStuck r2 hk8 hc, Option.bind_some, pi_88, pi_in (j := 88 + c) (by omega) (by omega), if_pos rfl, pi_cl (by omega)]
    by_cases hs : zM.2 5 (88 + c) = -1
    · rw [if_pos hs, if_pos rfl, if_pos hs]
      exact ⟨_, _, _, rfl, rfl, hR⟩
    · rw [if_neg hs, if_neg (by decide), if_neg hs]
      obtain ⟨zC1, zM1, e1, e2, s1, s2, s3, s4, c1, c2, m1, m2⟩ := Rl.rem r1 r2 r3 r4 n (by omega)
      rw [e1, e2, Option.bind_some, Option.bind_some]
      obtain ⟨v, zC2, zM2, o1, o2, o3, o4, o5, -⟩ := rr_pull s1 s2 hc (by rw [m2 5 (by omega)]; exact hs)
      rw [o1, o2]
      exact ⟨_, _, _, rfl, rfl, Rl.dd s1 s3 s4 o4 o5 o3 (by omega) htb⟩
theorem st_lay {tb : Nat} (htb : tb ≤ 100000) {zC zM : sg_M} (h : Rl tb zC zM) (a b : Int32) (n : Nat) (hn : 200000 ≤ n) : ∃ v zC' zM', gC_lay a b zC = some (v, zC') ∧ gM_lay n a b zM = some (v, zM') ∧ Rl tb zC' zM' := by
  have hR := h
  obtain ⟨nc, nk, r1, r2, r3, r4⟩ := h.to
  have hc20 := r1.1
  unfold gC_lay gM_lay
  rcases rr_cell r1 a with ⟨p, q⟩ | ⟨x, hx, rfl, p, q⟩
  · rw [if_pos p, if_pos q]; exact ⟨_, _, _, rfl, rfl, hR⟩
  · rw [if_neg (pi_n10 p), if_neg (pi_n10 q), show (-60 : Int64) = (-60 : Int32).toInt64 by decide, show (60 : Int64) = (60 : Int32).toInt64 by decide]
    rcases pi_ginN b (-60) 60 with ⟨g1, g2⟩ | ⟨g1, g2, g3⟩
    · rw [if_pos g1]
      rcases g2 with g2 | ⟨g2, g3⟩
      · rw [if_pos g2]; exact ⟨_, _, _, rfl, rfl, hR⟩
      · rw [if_neg g2, if_neg g3]; exact ⟨_, _, _, rfl, rfl, hR⟩
    · rw [if_neg (pi_n10 g1), if_neg g2, if_pos g3]
      obtain ⟨zC1, zM1, e1, e2, s1, s2, s3, s4, -⟩ := Rl.rem r1 r2 r3 r4 n (by omega)
      rw [e1, e2, Option.bind_some, Option.bind_some]
      have k60 : (60 : Int32).toInt = 60 := by decide
      have km60 : (-60 : Int32).toInt = -60 := by decide
      obtain ⟨v, zC2, zM2, o1, o2, o3, o4, o5, o6, o7, -⟩ := rr_layG s1 s2 hx (v := b) (by rw [pi_ltT, km60] at g2; rw [pi_leT, k60] at g3; omega)
      rw [o1, o2, Option.bind_some, Option.bind_some, pi_in (j := x) (n := 20) (by omega) (by omega), pi_in (j := x) (n := 106) (by omega) (by omega), pi_cl (by omega), o6, o7]
      exact ⟨_, _, _, rfl, rfl, Rl.dd s1 s3 s4 o4 o5 o3 (by omega) htb⟩
theorem st_load {tb : Nat} (htb : tb ≤ 100000) {zC zM : sg_M} (h : Rl tb zC zM) (a b : Int32) (n : Nat) (hn : 200000 ≤ n) : ∃ v zC' zM', gC_load a b zC = some (v, zC') ∧ gM_load n a b zM = some (v, zM') ∧ Rl tb zC' zM' := by
  have hR := h
  obtain ⟨nc, nk, r1, r2, r3, r4⟩ := h.to
  have hk8 := r1.2.1
  have hk : nc ≤ 20 ∧ nk ≤ 8 := ⟨r1.1, r1.2.1⟩
  unfold gC_load gM_load
  rcases rr_cart r1 a with ⟨p, q⟩ | ⟨c, hc, rfl, p, q⟩
  · rw [if_pos p, if_pos q]; exact ⟨_, _, _, rfl, rfl, hR⟩
  · rw [if_neg (pi_n10 p), if_neg (pi_n10 q), show (1 : Int64) = (1 : Int32).toInt64 by decide, show (60 : Int64) = (60 : Int32).toInt64 by decide]
    rcases pi_ginN b 1 60 with ⟨g1, g2⟩ | ⟨g1, g2, g3⟩
    · rw [if_pos g1]
      rcases g2 with g2 | ⟨g2, g3⟩
      · rw [if_pos g2]; exact ⟨_, _, _, rfl, rfl, hR⟩
      · rw [if_neg g2, if_neg g3]; exact ⟨_, _, _, rfl, rfl, hR⟩
    · rw [if_neg (pi_n10 g1), if_neg g2, if_pos g3]
      have k60 : (60 : Int32).toInt = 60 := by decide
      have k1 : (1 : Int32).toInt = 1 := by decide
      obtain ⟨g, hg1, hg2, rfl⟩ : ∃ g, 1 ≤ g ∧ g ≤ 60 ∧ b = nI g := by
        rw [pi_ltT, k1] at g2; rw [pi_leT, k60] at g3
        exact ⟨b.toInt.toNat, by omega, by omega, pi_of (by omega)⟩
      obtain ⟨zC1, zM1, e1, e2, s1, s2, s3, s4, -⟩ := Rl.rem r1 r2 r3 r4 n (by omega)
      have kc := pi_cl (j := c) (by omega)
      have k80 := pi_cl (j := 80 + c) (by omega)
      rw [e1, e2, Option.bind_some, Option.bind_some, pi_80, pi_in (j := c) (n := 8) (by omega) (by omega), pi_in (j := 80 + c) (n := 106) (by omega) (by omega), kc, k80]
      simp only [if_true, pl_let]
      rw [s2.2.2.2.2.1 c hc]
      refine ⟨_, _, _, rfl, rfl, Rl.dd s1 s3 s4 (tb2 := tb) ⟨fun k _ => rfl, fun a ha => by rw [pw_2, if_neg (by omega)]⟩ ⟨fun _ => rfl, fun a ha => by rw [pw_2, if_neg ha]⟩ (rl_now_mk ?_ ?_) (by omega) htb⟩
      · have := rq_ld hk (rl_st_eq s2) hc (nI g)
        simp only [pw_2, pw_1, kc, k80]
        exact this
      · rw [sg_w5, k80]
        exact ri_ld hk (rn_inv s2) hc ⟨hg1, hg2⟩
theorem st_storm {tb : Nat} (htb : tb ≤ 100000) {zC zM : sg_M} (h : Rl tb zC zM) (a : Int32) (n : Nat) (hn : 200000 ≤ n) : ∃ v zC' zM', gC_storm a zC = some (v, zC') ∧ gM_storm n a zM = some (v, zM') ∧ Rl tb zC' zM' := by
  have hR := h
  obtain ⟨nc, nk, r1, r2, r3, r4⟩ := h.to
  have hc20 := r1.1
  have hk8 := r1.2.1
  have hk : nc ≤ 20 ∧ nk ≤ 8 := ⟨r1.1, r1.2.1⟩
  unfold gC_storm gM_storm
  rw [pi_i64_0, show (60 : Int64) = (60 : Int32).toInt64 by decide]
  rcases pi_ginN a 0 60 with ⟨g1, g2⟩ | ⟨g1, g2, g3⟩
  · rw [if_pos g1]
    rcases g2 with g2 | ⟨g2, g3⟩
    · rw [if_pos g2]; exact ⟨_, _, _, rfl, rfl, hR⟩
    · rw [if_neg g2, if_neg g3]; exact ⟨_, _, _, rfl, rfl, hR⟩
  · rw [if_neg (pi_n10 g1), if_neg g2, if_pos g3, r1.2.2.2.1, r1.2.2.2.2.1]
    obtain ⟨g, hg, rfl⟩ := pi_upto (N := 60) (by omega) g2 g3
    by_cases c : nc = 0
    · have e0 : nI nc = 0 := by rw [c]; rfl
      rw [if_pos e0, if_pos e0]; exact ⟨_, _, _, rfl, rfl, hR⟩
    · have e0 : ¬ nI nc = 0 := nI_ne0 (by omega) (by omega)
      obtain ⟨zC1, zM1, e1, e2, s1, s2, s3, s4, -⟩ := Rl.rem r1 r2 r3 r4 n (by omega)
      rw [if_neg e0, if_neg e0, e1, e2, Option.bind_some, Option.bind_some, pi_105]
      simp only [pl_let]
      rw [s2.2.2.2.2.2.2.2.2.1]
      refine ⟨_, _, _, rfl, rfl, Rl.dd s1 s3 s4 (tb2 := tb) ⟨fun k hk => by rw [ps_1, if_neg (by omega)], fun _ _ => rfl⟩ ⟨fun _ => rfl, fun a ha => by rw [pw_2, if_neg ha]⟩ (rl_now_mk ?_ ?_) (by omega) htb⟩
      · rw [sg_w5, pi_105]
        exact rq_sm hk (rl_st_eq s2) (nI g)
      · rw [sg_w5, pi_105]
        exact ri_sm hk (rn_inv s2) ⟨hg, fun h => absurd h c⟩
theorem st_raze {tb : Nat} (htb : tb ≤ 100000) {zC zM : sg_M} (h : Rl tb zC zM) (a : Int32) (n : Nat) (hn : 200000 ≤ n) : ∃ v zC' zM', gC_raze a zC = some (v, zC') ∧ gM_raze n a zM = some (v, zM') ∧ Rl tb zC' zM' := by
  have hR := h
  obtain ⟨nc, nk, r1, r2, r3, r4⟩ := h.to
  have hc20 := r1.1
  have hk8 := r1.2.1
  have hk : nc ≤ 20 ∧ nk ≤ 8 := ⟨r1.1, r1.2.1⟩
  unfold gC_raze gM_raze
  rcases rr_cell r1 a with ⟨p, q⟩ | ⟨x, hx, rfl, p, q⟩
  · rw [if_pos p, if_pos q]; exact ⟨_, _, _, rfl, rfl, hR⟩
  · have hx20 : x < 20 := by omega
    rw [if_neg (pi_n10 p), if_neg (pi_n10 q), rC_town r2 ⟨hx, hc20⟩, rM_town hx20, Option.bind_some, Option.bind_some]
    by_cases c : sp_town zM x = 0
    · rw [if_pos c, if_pos c]; exact ⟨_, _, _, rfl, rfl, hR⟩
    · obtain ⟨zC1, zM1, e1, e2, s1, s2, s3, s4, -⟩ := Rl.rem r1 r2 r3 r4 n (by omega)
      have kx := pi_cl (j := x) (by omega)
      have k20 := pi_cl (j := 20 + x) (by omega)
      have k40 := pi_cl (j := 40 + x) (by omega)
      have k60 := pi_cl (j := 60 + x) (by omega)
      unfold gC_State_clearTown
      rw [if_neg c, if_neg c, e1, e2, Option.bind_some, Option.bind_some]
      simp only [pi_20, pi_40, pi_60, pi_in (j := x) (n := 20) hx20 (by omega), pi_in (j := 20 + x) (n := 106) (by omega) (by omega), pi_in (j := 40 + x) (n := 106) (by omega) (by omega), pi_in (j := 60 + x) (n := 106) (by omega) (by omega), if_true, pl_let, Option.bind_some, kx, k60]
      rw [s2.2.2.2.1 x hx20]
      refine ⟨_, _, _, rfl, rfl, Rl.dd s1 s3 s4 (tb2 := tb) ⟨fun k hk => rfl, fun a ha => by rw [pw_2, if_neg (by omega), pw_2, if_neg (by omega), pw_2, if_neg (by omega)]⟩ ⟨fun _ => rfl, fun a ha => by rw [pw_2, if_neg ha, pw_2, if_neg ha, pw_2, if_neg ha]⟩ (rl_now_mk ?_ ?_) (by omega) htb⟩
      · simp only [sg_w5, k20, k40, k60]
        have := rq_fk hk (rq_my hk (rq_nm hk (rl_st_eq s2) hx20 (-1)) hx20 (-1)) hx20 0
        simp only [pw_2, pw_1, kx]
        exact this
      · simp only [sg_w5, k20, k40, k60]
        exact ri_fk (g := 0) hk (ri_rz hk (rn_inv s2) hx20) hx20 (by omega)
/-! days -/
theorem rr_refuse {nc nk tb : Nat} {zC zM : sg_M} (r1 : rl_road nc nk zC zM) (r2 : rl_now nc nk tb zC zM) (a : Int32) : gC_refusalOfDays a zC = gM_daysRefused a zM ∧ (gM_daysRefused a zM = 0 → nc ≠ 0 ∧ (∃ k, k ≤ 60 ∧ a = nI k) ∧ ∃ d, d ≤ 9000 ∧ zM.2 5 104 = nI d) := by
  have hc20 := r1.1
  unfold gC_refusalOfDays gM_daysRefused
  rw [show (1 : Int64) = (1 : Int32).toInt64 by decide, show (60 : Int64) = (60 : Int32).toInt64 by decide, r1.2.2.2.1, r1.2.2.2.2.1, pi_104, r2.2.2.2.2.2.2.2.1]
  rcases pi_ginN a 1 60 with ⟨g1, g2⟩ | ⟨g1, g2, g3⟩
  · rw [if_pos g1]
    refine ⟨?_, fun h => absurd h (by decide)⟩
    rcases g2 with g2 | ⟨g2, g3⟩
    · rw [if_pos g2]
    · rw [if_neg g2, if_neg g3]
  · rw [if_neg (pi_n10 g1), if_neg g2, if_pos g3]
    refine ⟨rfl, fun h => ?_⟩
    have k1 : (1 : Int32).toInt = 1 := by decide
    have g0 : ¬ a < 0 := by
      have k0 : (0 : Int32).toInt = 0 := by decide
      rw [pi_ltT, k1] at g2
      rw [pi_ltT, k0]
      omega
    obtain ⟨k, hk, hk2⟩ := pi_upto (N := 60) (by omega) g0 g3
    by_cases c : nI nc = 0
    · rw [if_pos c] at h; exact absurd h (by decide)
    · rw [if_neg c] at h
      refine ⟨fun q => c (by rw [q]; rfl), ⟨k, hk, hk2⟩, ?_⟩
      obtain ⟨d, hd, hd2⟩ := rn_days r2
      rw [hd2] at h
      by_cases cd : nI d ≤ 9000
      · exact ⟨d, (pi_le (b := 9000) (by omega) (by omega)).mp cd, hd2⟩
      · rw [if_neg cd] at h; exact absurd h (by decide)
theorem rr_dayL {nc nk tb : Nat} : ∀ (i j n d k : Nat) (zC zM : sg_M), j + i = k → k ≤ 60 → i < n → d + i ≤ 9060 → rl_road nc nk zC zM → rl_now nc nk tb zC zM → zM.2 5 104 = nI d → ∃ v zC' zM', gC_day_L n (nI k) (nI j) zC = some (v, zC') ∧ gM_day_L n (nI k) (nI j) zM = some (v, zM') ∧ rl_now nc nk tb zC' zM' ∧ fn_C zC zC' ∧ fn_M zM zM' := by
  intro i
  induction i with
  | zero =>
    intro j n d k zC zM hj hk hn hd r1 r2 hd2
    obtain ⟨m, rfl⟩ : ∃ q, n = q + 1 := ⟨n - 1, by omega⟩
    unfold gC_day_L gM_day_L
    rw [if_pos ((pi_le (by omega) (by omega)).mpr (by omega)), if_pos ((pi_le (by omega) (by omega)).mpr (by omega)), pi_104, r2.2.2.2.2.2.2.2.1]
    exact ⟨_, _, _, rfl, rfl, r2, fn_C.rf _, fn_M.rf _⟩
  | succ i ih =>
    intro j n d k zC zM hj hk hn hd r1 r2 hd2
    obtain ⟨m, rfl⟩ : ∃ q, n = q + 1 := ⟨n - 1, by omega⟩
    have hlt : ¬ nI k ≤ nI j := fun h => by have := (pi_le (by omega) (by omega)).mp h; omega
    obtain ⟨zC1, zM1, e1, e2, e3, e4, e5, e6⟩ := rr_pass r1 r2 (by omega) hd2
    obtain ⟨v, zC', zM', o1, o2, o3, o4, o5⟩ := ih (j + 1) m (d + 1) k zC1 zM1 (by omega) hk (by omega) (by omega) (fn_road e4 e5 r1) e3 e6
    unfold gC_day_L gM_day_L
    rw [if_neg hlt, if_neg hlt, e1, e2, Option.bind_some, Option.bind_some, nI_1]
    exact ⟨v, zC', zM', o1, o2, o3, e4.tr o4, e5.tr o5⟩
theorem st_day {tb : Nat} (htb : tb ≤ 100000) {zC zM : sg_M} (h : Rl tb zC zM) (a : Int32) (n : Nat) (hn : 200000 ≤ n) : ∃ v zC' zM', gC_day n a zC = some (v, zC') ∧ gM_day n a zM = some (v, zM') ∧ Rl tb zC' zM' := by
  have hR := h
  obtain ⟨nc, nk, r1, r2, r3, r4⟩ := h.to
  obtain ⟨f1, f2⟩ := rr_refuse r1 r2 a
  unfold gC_day gM_day
  rw [pl_let, pl_let, f1]
  by_cases c : gM_daysRefused a zM = 0
  · obtain ⟨hc, ⟨k, hk, rfl⟩, d, hd, hd2⟩ := f2 c
    obtain ⟨zC1, zM1, e1, e2, s1, s2, s3, s4, c1, c2, m1, m2⟩ := Rl.rem r1 r2 r3 r4 n (by omega)
    rw [if_pos c, if_pos c, e1, e2, Option.bind_some, Option.bind_some]
    obtain ⟨v, zC2, zM2, o1, o2, o3, o4, o5⟩ := rr_dayL k 0 n d k zC1 zM1 (by omega) hk (by omega) (by omega) s1 s2 (by rw [m2 5 (by omega)]; exact hd2)
    exact ⟨v, zC2, zM2, o1, o2, Rl.dd s1 s3 s4 o4 o5 o3 (by omega) htb⟩
  · rw [if_neg c, if_neg c]; exact ⟨_, _, _, rfl, rfl, hR⟩
/-! years by draws -/
theorem sd_road {nc nk : Nat} {zC zM : sg_M} (h : rl_road nc nk zC zM) (a b : Int32) : rl_road nc nk (sg_s zC 0 a) (sg_s zM 3 b) := h
theorem sd_now {nc nk tb : Nat} {zC zM : sg_M} (h : rl_now nc nk tb zC zM) (a b : Int32) : rl_now nc nk tb (sg_s zC 0 a) (sg_s zM 3 b) := h
theorem gn_C.s (z : sg_M) (v : Int32) : gn_C z (sg_s z 0 v) := ⟨fun k hk => by rw [ps_1, if_neg hk.1], fun _ _ => rfl⟩
theorem gn_M.s (z : sg_M) (v : Int32) : gn_M z (sg_s z 3 v) := ⟨fun k hk => by rw [ps_1, if_neg hk], fun _ _ => rfl⟩
def rc_out (nc nk tb : Nat) (zC zM zC' zM' : sg_M) : Prop := rl_now nc nk (tb + 1) zC' zM' ∧ gn_C zC zC' ∧ gn_M zM zM' ∧ rl_seed zC' zM' ∧ zC'.1 12 = zC.1 12
theorem rr_chance {nc nk tb : Nat} {zC zM : sg_M} (r1 : rl_road nc nk zC zM) (r2 : rl_now nc nk tb zC zM) (r4 : rl_seed zC zM) (h0 : nc ≠ 0) (htb : tb + 1 ≤ 100000) (n : Nat) (hn : 100 ≤ n) : ∃ zC' zM', gC_doByDraw n zC = some zC' ∧ gM_chance n zM = some zM' ∧ rc_out nc nk tb zC zM zC' zM' := by
  have hc20 := r1.1
  have hk8 := r1.2.1
  obtain ⟨s, hs, t1, t2⟩ := r4
  have hs1 := sp_next_lt s
  have eC := rC_draw (k := 5) hs (by omega) (by omega) t1
  have eM := rM_draw (k := 5) hs (by omega) (by omega) t2
  have h5 := sp_draw_lt (s := s) (k := 5) (by omega)
  obtain ⟨yC, eyC⟩ : ∃ y, y = sg_s zC 0 (nI (sp_next s)) := ⟨_, rfl⟩
  obtain ⟨yM, eyM⟩ : ∃ y, y = sg_s zM 3 (nI (sp_next s)) := ⟨_, rfl⟩
  rw [← eyC] at eC
  rw [← eyM] at eM
  have y1 : rl_road nc nk yC yM := by rw [eyC, eyM]; exact sd_road r1 _ _
  have y2 : rl_now nc nk tb yC yM := by rw [eyC, eyM]; exact sd_now r2 _ _
  have yc : yC.1 0 = nI (sp_next s) := by rw [eyC]; rfl
  have ym : yM.1 3 = nI (sp_next s) := by rw [eyM]; rfl
  have gC : gn_C zC yC := by rw [eyC]; exact gn_C.s _ _
  have gM : gn_M zM yM := by rw [eyM]; exact gn_M.s _ _
  have y12 : yC.1 12 = zC.1 12 := by rw [eyC]; rfl
  have idle : rc_out nc nk tb zC zM yC yM := ⟨mo_now y2 (by omega) htb, gC, gM, ⟨_, hs1, yc, ym⟩, y12⟩
  unfold gC_doByDraw gM_chance
  rw [show gC_drawOf 5 zC = _ from eC, show gM_draw 5 zM = _ from eM, Option.bind_some, Option.bind_some]
  dsimp only
  generalize sp_draw s 5 = k at *
  rcases (show k = 0 ∨ k = 1 ∨ k = 2 ∨ k = 3 ∨ k = 4 by omega) with rfl | rfl | rfl | rfl | rfl
  · -- a storm
    rw [if_pos (show nI 0 = 0 from rfl), if_pos (show nI 0 = 0 from rfl)]
    have fC := rC_draw (k := 31) hs1 (by omega) (by omega) yc
    have fM := rM_draw (k := 31) hs1 (by omega) (by omega) ym
    have h31 := sp_draw_lt (s := sp_next s) (k := 31) (by omega)
    have hs2 := sp_next_lt (sp_next s)
    rw [show gC_drawOf 31 yC = _ from fC, show gM_draw 31 yM = _ from fM, Option.bind_some, Option.bind_some]
    simp only [pl_let]
    refine ⟨_, _, rfl, rfl, rl_now_mk ?_ ?_, gC.tr ⟨fun k hk => ?_, fun _ _ => rfl⟩, gM.tr ⟨fun k hk => ?_, fun a ha => ?_⟩, ⟨_, hs2, rfl, rfl⟩, y12⟩
    · rw [sg_w5, pi_105]
      exact rq_sm ⟨hc20, hk8⟩ (rl_st_eq y2) _
    · rw [sg_w5, pi_105]
      exact ri_sm ⟨hc20, hk8⟩ (ri_mono (rn_inv y2) (by omega) htb) ⟨by omega, fun h => absurd h h0⟩
    · rw [ps_1, if_neg (by omega), ps_1, if_neg (by omega)]
    · rw [pw_1, ps_1, if_neg (by omega)]
    · rw [pw_2, if_neg ha]; rfl
  · -- a drive
    rw [if_neg (show ¬ nI 1 = 0 by decide), if_pos (show nI 1 = 1 from rfl), if_neg (show ¬ nI 1 = 0 by decide), if_neg (show ¬ nI 1 = 3 by decide), if_neg (show ¬ (3 : Int32) ≤ nI 1 by decide), y1.2.2.2.2.2.1, y1.2.2.2.2.2.2.1]
    by_cases c : nk = 0
    · have e0 : nI nk ≤ 0 := by rw [c]; decide
      rw [if_pos e0, if_pos e0, if_neg (show ¬ nI 1 = 3 by decide)]
      exact ⟨_, _, rfl, rfl, idle⟩
    · have e0 : ¬ nI nk ≤ 0 := fun h => by have := (pi_le (b := 0) (by omega) (by omega)).mp h; omega
      have fC := rC_draw (k := nk) hs1 (by omega) (by omega) yc
      have fM := rM_draw (k := nk) hs1 (by omega) (by omega) ym
      have hc := sp_draw_lt (s := sp_next s) (k := nk) (by omega)
      have hs2 := sp_next_lt (sp_next s)
      rw [if_neg e0, if_neg e0, fC, fM, Option.bind_some, Option.bind_some]
      dsimp only
      generalize sp_draw (sp_next s) nk = c at *
      have x1 := sd_road y1 (nI (sp_next (sp_next s))) (nI (sp_next (sp_next s)))
      have x2 := sd_now y2 (nI (sp_next (sp_next s))) (nI (sp_next (sp_next s)))
      rw [if_pos (show nI 1 = 1 from rfl), rC_isStuck x2 (c := c) hk8 hc, Option.bind_some, pi_88, pi_in (j := 88 + c) (by omega) (by omega), if_pos rfl, pi_cl (by omega)]
      simp only [pl_let]
      rw [if_pos (show nI 1 = 1 from rfl)]
      by_cases hst : (sg_s yM 3 (nI (sp_next (sp_next s)))).2 5 (88 + c) = -1
      · rw [if_pos hst, if_pos rfl, if_pos rfl]
        obtain ⟨v, zC2, zM2, o1, o2, o3, o4, o5, o6⟩ := rr_drive x1 x2 htb hc n (by omega)
        rw [o1, o2]
        refine ⟨zC2, zM2, rfl, rfl, o3, gC.tr ((gn_C.s _ _).tr (gn_C.fn o4)), gM.tr ((gn_M.s _ _).tr (gn_M.fn o5)), ⟨_, hs2, ?_, ?_⟩, ?_⟩
        · rw [o4.1 0 (by omega)]; rfl
        · rw [o5.1 3]; rfl
        · rw [o6]; exact y12
      · rw [if_neg hst, if_neg (show ¬ (1 : Int32) = 0 by decide), if_neg (show ¬ nI 1 = 2 by decide), if_neg (show ¬ (1 : Int32) = 0 by decide), if_neg (show ¬ nI 1 = 2 by decide)]
        exact ⟨_, _, rfl, rfl, mo_now x2 (by omega) htb, gC.tr (gn_C.s _ _), gM.tr (gn_M.s _ _), ⟨_, hs2, rfl, rfl⟩, y12⟩
  · -- a pull
    rw [if_neg (show ¬ nI 2 = 0 by decide), if_neg (show ¬ nI 2 = 1 by decide), if_pos (show nI 2 = 2 from rfl), if_neg (show ¬ nI 2 = 0 by decide), if_neg (show ¬ nI 2 = 3 by decide), if_neg (show ¬ (3 : Int32) ≤ nI 2 by decide), y1.2.2.2.2.2.1, y1.2.2.2.2.2.2.1]
    by_cases c : nk = 0
    · have e0 : nI nk ≤ 0 := by rw [c]; decide
      rw [if_pos e0, if_pos e0, if_neg (show ¬ nI 2 = 3 by decide)]
      exact ⟨_, _, rfl, rfl, idle⟩
    · have e0 : ¬ nI nk ≤ 0 := fun h => by have := (pi_le (b := 0) (by omega) (by omega)).mp h; omega
      have fC := rC_draw (k := nk) hs1 (by omega) (by omega) yc
      have fM := rM_draw (k := nk) hs1 (by omega) (by omega) ym
      have hc := sp_draw_lt (s := sp_next s) (k := nk) (by omega)
      have hs2 := sp_next_lt (sp_next s)
      rw [if_neg e0, if_neg e0, fC, fM, Option.bind_some, Option.bind_some]
      dsimp only
      generalize sp_draw (sp_next s) nk = c at *
      have x1 := sd_road y1 (nI (sp_next (sp_next s))) (nI (sp_next (sp_next s)))
      have x2 := sd_now y2 (nI (sp_next (sp_next s))) (nI (sp_next (sp_next s)))
      rw [if_neg (show ¬ nI 2 = 1 by decide), if_pos (show nI 2 = 2 from rfl), rC_isStuck x2 (c := c) hk8 hc, Option.bind_some, pi_88, pi_in (j := 88 + c) (by omega) (by omega), if_pos rfl, pi_cl (by omega)]
      simp only [pl_let]
      rw [if_neg (show ¬ nI 2 = 1 by decide), if_pos (show nI 2 = 2 from rfl)]
      by_cases hst : (sg_s yM 3 (nI (sp_next (sp_next s)))).2 5 (88 + c) = -1
      · rw [if_pos hst, if_pos rfl, if_pos rfl]
        exact ⟨_, _, rfl, rfl, mo_now x2 (by omega) htb, gC.tr (gn_C.s _ _), gM.tr (gn_M.s _ _), ⟨_, hs2, rfl, rfl⟩, y12⟩
      · rw [if_neg hst, if_neg (show ¬ (1 : Int32) = 0 by decide), if_neg (show ¬ (1 : Int32) = 0 by decide)]
        obtain ⟨v, zC2, zM2, o1, o2, o3, o4, o5, o6⟩ := rr_pull x1 x2 hc hst
        rw [o1, o2]
        refine ⟨zC2, zM2, rfl, rfl, mo_now o3 (by omega) htb, gC.tr ((gn_C.s _ _).tr (gn_C.fn o4)), gM.tr ((gn_M.s _ _).tr (gn_M.fn o5)), ⟨_, hs2, ?_, ?_⟩, ?_⟩
        · rw [o4.1 0 (by omega)]; rfl
        · rw [o5.1 3]; rfl
        · rw [o6]; exact y12
  · -- gravel
    rw [if_neg (show ¬ nI 3 = 0 by decide), if_neg (show ¬ nI 3 = 1 by decide), if_neg (show ¬ nI 3 = 2 by decide), if_pos (show nI 3 = 3 from rfl), if_neg (show ¬ nI 3 = 0 by decide), if_pos (show nI 3 = 3 from rfl), y1.2.2.2.1, y1.2.2.2.2.1]
    have fC := rC_draw (k := nc) hs1 (by omega) (by omega) yc
    have fM := rM_draw (k := nc) hs1 (by omega) (by omega) ym
    have hx := sp_draw_lt (s := sp_next s) (k := nc) (by omega)
    have hs2 := sp_next_lt (sp_next s)
    have hs3 := sp_next_lt (sp_next (sp_next s))
    rw [fC, fM, Option.bind_some, Option.bind_some]
    dsimp only
    generalize sp_draw (sp_next s) nc = x at *
    have kC := rC_draw (k := 10) (z := sg_s yC 0 (nI (sp_next (sp_next s)))) hs2 (by omega) (by omega) rfl
    have kM := rM_draw (k := 10) (z := sg_s yM 3 (nI (sp_next (sp_next s)))) hs2 (by omega) (by omega) rfl
    have hg := sp_draw_lt (s := sp_next (sp_next s)) (k := 10) (by omega)
    rw [ps_ss] at kC kM
    rw [show gC_drawOf 10 _ = _ from kC, show gM_draw 10 _ = _ from kM, Option.bind_some, Option.bind_some]
    dsimp only
    generalize sp_draw (sp_next (sp_next s)) 10 = g at *
    have x1 := sd_road y1 (nI (sp_next (sp_next (sp_next s)))) (nI (sp_next (sp_next (sp_next s))))
    have x2 := sd_now y2 (nI (sp_next (sp_next (sp_next s)))) (nI (sp_next (sp_next (sp_next s))))
    obtain ⟨v, zC2, zM2, o1, o2, o3, o4, o5, -, -, o6⟩ := rr_layG x1 x2 hx (v := nI g) (by rw [pi_nT (by omega)]; omega)
    rw [o1, o2]
    refine ⟨zC2, zM2, rfl, rfl, mo_now o3 (by omega) htb, gC.tr ((gn_C.s _ _).tr (gn_C.fn o4)), gM.tr ((gn_M.s _ _).tr (gn_M.fn o5)), ⟨_, hs3, ?_, ?_⟩, ?_⟩
    · rw [o4.1 0 (by omega)]; rfl
    · rw [o5.1 3]; rfl
    · rw [o6]; exact y12
  · rw [if_neg (show ¬ nI 4 = 0 by decide), if_neg (show ¬ nI 4 = 1 by decide), if_neg (show ¬ nI 4 = 2 by decide), if_neg (show ¬ nI 4 = 3 by decide), if_neg (show ¬ nI 4 = 0 by decide), if_neg (show ¬ nI 4 = 3 by decide), if_pos (show (3 : Int32) ≤ nI 4 by decide)]
    exact ⟨_, _, rfl, rfl, idle⟩
theorem rr_driftL {nc nk : Nat} (h0 : nc ≠ 0) : ∀ (i j n d k tb : Nat) (zC zM : sg_M), j + i = k → k ≤ 60 → i + 200 ≤ n → d + i ≤ 9060 → tb + i ≤ 100000 → rl_road nc nk zC zM → rl_now nc nk tb zC zM → rl_seed zC zM → zM.2 5 104 = nI d → ∃ v zC' zM', gC_drift_L n (nI k) (nI j) zC = some (v, zC') ∧ gM_drift_L n (nI k) (nI j) zM = some (v, zM') ∧ rl_now nc nk (tb + i) zC' zM' ∧ rl_seed zC' zM' ∧ gn_C zC zC' ∧ gn_M zM zM' := by
  intro i
  induction i with
  | zero =>
    intro j n d k tb zC zM hj hk hn hd htb r1 r2 r4 hd2
    obtain ⟨m, rfl⟩ : ∃ q, n = q + 1 := ⟨n - 1, by omega⟩
    obtain ⟨v, e1, e2⟩ := rr_folk r1 r2 m (by omega)
    unfold gC_drift_L gM_drift_L
    rw [if_pos ((pi_le (by omega) (by omega)).mpr (by omega)), if_pos ((pi_le (by omega) (by omega)).mpr (by omega)), e1, e2]
    exact ⟨_, _, _, rfl, rfl, r2, r4, gn_C.rf _, gn_M.rf _⟩
  | succ i ih =>
    intro j n d k tb zC zM hj hk hn hd htb r1 r2 r4 hd2
    obtain ⟨m, rfl⟩ : ∃ q, n = q + 1 := ⟨n - 1, by omega⟩
    have hlt : ¬ nI k ≤ nI j := fun h => by have := (pi_le (by omega) (by omega)).mp h; omega
    obtain ⟨yC, yM, c1, c2, c3, c4, c5, c6, c7⟩ := rr_chance r1 r2 r4 h0 (by omega) m (by omega)
    have y1 := gn_road c4 c5 r1
    have hyd : yM.2 5 104 = nI d := by
      rw [← c3.2.2.2.2.2.2.2.1, c7, r2.2.2.2.2.2.2.2.1]; exact hd2
    obtain ⟨zC1, zM1, e1, e2, e3, e4, e5, e6⟩ := rr_pass y1 c3 (d := d) (by omega) hyd
    obtain ⟨v, zC', zM', o1, o2, o3, o4, o5, o6⟩ := ih (j + 1) m (d + 1) k (tb + 1) zC1 zM1 (by omega) hk (by omega) (by omega) (by omega) (fn_road e4 e5 y1) e3 (cg_seed (e4.1 0 (by omega)) (e5.1 3) c6) e6
    unfold gC_drift_L gM_drift_L
    rw [if_neg hlt, if_neg hlt, c1, c2, Option.bind_some, Option.bind_some, e1, e2, Option.bind_some, Option.bind_some, nI_1]
    refine ⟨v, zC', zM', o1, o2, ?_, o4, c4.tr ((gn_C.fn e4).tr o5), c5.tr ((gn_M.fn e5).tr o6)⟩
    rw [show tb + (i + 1) = tb + 1 + i by omega]
    exact o3
theorem st_drift {tb : Nat} (htb : tb + 60 ≤ 100000) {zC zM : sg_M} (h : Rl tb zC zM) (a : Int32) (n : Nat) (hn : 200000 ≤ n) : ∃ v zC' zM', gC_drift n a zC = some (v, zC') ∧ gM_drift n a zM = some (v, zM') ∧ Rl (tb + 60) zC' zM' := by
  have hR := h.mo (show tb ≤ tb + 60 by omega) htb
  obtain ⟨nc, nk, r1, r2, r3, r4⟩ := h.to
  obtain ⟨f1, f2⟩ := rr_refuse r1 r2 a
  unfold gC_drift gM_drift
  rw [pl_let, pl_let, f1]
  by_cases c : gM_daysRefused a zM = 0
  · obtain ⟨hc, ⟨k, hk, rfl⟩, d, hd, hd2⟩ := f2 c
    obtain ⟨zC1, zM1, e1, e2, s1, s2, s3, s4, c1, c2, m1, m2⟩ := Rl.rem r1 r2 r3 r4 n (by omega)
    rw [if_pos c, if_pos c, e1, e2, Option.bind_some, Option.bind_some]
    obtain ⟨v, zC2, zM2, o1, o2, o3, o4, o5, o6⟩ := rr_driftL hc k 0 n d k tb zC1 zM1 (by omega) hk (by omega) (by omega) (by omega) s1 s2 s4 (by rw [m2 5 (by omega)]; exact hd2)
    refine ⟨v, zC2, zM2, o1, o2, ?_⟩
    exact Rl.of (gn_road o5 o6 s1) (mo_now o3 (by omega) htb) (mo_back (gn_back ⟨s1.1, s1.2.1⟩ o5 o6 s3) (by omega) htb) o4
  · rw [if_neg c, if_neg c]; exact ⟨_, _, _, rfl, rfl, hR⟩
