/-! what is done to the state -/
theorem rl_now_mk {nc nk tb : Nat} {zC zM : sg_M} (h : rl_eq nc nk (zC.2 11) (zC.2 12) (zC.2 13) (zC.2 14) (zC.2 15) (zC.2 16) (zC.2 17) (zC.1 12) (zC.1 13) (zM.2 5)) (hi : rl_inv nc nk tb (zM.2 5)) : rl_now nc nk tb zC zM := rl_st_of h hi
def cs_1 (z : sg_M) (c x : Nat) : sg_M := sg_w (sg_w z 16 (nI c) (nI x)) 17 (nI c) (z.2 17 c + 1)
def cs_2 (z : sg_M) (c x : Nat) : sg_M := if z.2 12 x = -1 then sg_w (sg_w (cs_1 z c x) 12 (nI x) (z.2 10 c)) 14 (nI x) 0 else cs_1 z c x
def cs_3 (z : sg_M) (c x : Nat) : sg_M := if z.2 13 x = -1 then sg_w (cs_2 z c x) 13 (nI x) (nI c) else cs_2 z c x
def cs_4 (z : sg_M) (c x : Nat) : sg_M := sg_w (cs_3 z c x) 14 (nI x) (sg_min 9999 ((if z.2 12 x = -1 then 0 else z.2 14 x) + 1))
theorem cs_2_13 (z : sg_M) (c x : Nat) : (cs_2 z c x).2 13 = z.2 13 := by
  unfold cs_2 cs_1
  split <;> simp only [pw_2] <;> rfl
theorem cs_3_14 {x : Nat} (hx : x < 20) (z : sg_M) (c : Nat) : (cs_3 z c x).2 14 x = if z.2 12 x = -1 then 0 else z.2 14 x := by
  have e : (cs_3 z c x).2 14 = (cs_2 z c x).2 14 := by
    unfold cs_3
    split <;> simp only [pw_2] <;> rfl
  rw [e]
  unfold cs_2 cs_1
  by_cases h : z.2 12 x = -1
  · rw [if_pos h, if_pos h]
    simp [pw_2, pi_cl (show x < 2147483648 by omega), pu_at]
  · rw [if_neg h, if_neg h]
    simp only [pw_2]
    rfl
theorem rC_settle (z : sg_M) {c x : Nat} (hc : c < 8) (hx : x < 20) : gC_Kingdom_settle (nI c) (nI x) z = some (cs_4 z c x) := by
  unfold gC_Kingdom_settle
  have i1 := pi_in (j := c) (n := 8) hc (by omega)
  have i2 := pi_in (j := x) (n := 20) hx (by omega)
  have k1 := pi_cl (j := c) (by omega)
  have k2 := pi_cl (j := x) (by omega)
  simp only [i1, i2, if_true, pl_let, k1, k2]
  have e1 : (sg_w z 16 (nI c) (nI x)).2 17 c = z.2 17 c := by rw [pw_2, if_neg (by decide)]
  rw [e1]
  show Option.bind (gC_State_hasTown (nI x) (cs_1 z c x)) _ = _
  have e2 : gC_State_hasTown (nI x) (cs_1 z c x) = some (if z.2 12 x = -1 then 0 else 1) := by
    unfold gC_State_hasTown
    rw [i2, k2, show (cs_1 z c x).2 12 = z.2 12 from rfl]
    simp only [if_true]
    split <;> rfl
  rw [e2]
  simp only [Option.bind_some]
  have e3 : (if (if z.2 12 x = -1 then (0 : Int32) else 1) = 0 then (some (sg_w (sg_w (cs_1 z c x) 12 (nI x) ((cs_1 z c x).2 10 c)) 14 (nI x) 0)) else some (cs_1 z c x)) = some (cs_2 z c x) := by
    unfold cs_2
    by_cases h : z.2 12 x = -1
    · simp only [if_pos h, if_true]; rfl
    · simp only [if_neg h]; rfl
  show Option.bind (if (if z.2 12 x = -1 then (0 : Int32) else 1) = 0 then (some (sg_w (sg_w (cs_1 z c x) 12 (nI x) ((cs_1 z c x).2 10 c)) 14 (nI x) 0)) else some (cs_1 z c x)) _ = _
  rw [e3]
  simp only [Option.bind_some]
  rw [cs_2_13]
  have e4 : (if z.2 13 x = -1 then some (sg_w (cs_2 z c x) 13 (nI x) (nI c)) else some (cs_2 z c x)) = some (cs_3 z c x) := by
    unfold cs_3
    split <;> rfl
  rw [e4]
  simp only [Option.bind_some]
  rw [cs_3_14 hx]
  rfl
theorem cs_fn (z : sg_M) (c x : Nat) : fn_C z (cs_4 z c x) := by
  refine ⟨fun k _ => ?_, fun a ha => ?_⟩
  · unfold cs_4 cs_3 cs_2 cs_1
    split <;> split <;> rfl
  · unfold cs_4 cs_3 cs_2 cs_1
    rw [pw_2, if_neg (by omega)]
    split
    · rw [pw_2, if_neg (by omega)]
      split
      · simp only [pw_2]
        rw [if_neg (by omega), if_neg (by omega), if_neg (by omega), if_neg (by omega)]
      · simp only [pw_2]
        rw [if_neg (by omega), if_neg (by omega)]
    · split
      · simp only [pw_2]
        rw [if_neg (by omega), if_neg (by omega), if_neg (by omega), if_neg (by omega)]
      · simp only [pw_2]
        rw [if_neg (by omega), if_neg (by omega)]
/-- the reference's row behind a drive that ends at x -/
def ms_1 (f : Nat → Int32) (nm : Int32) (x : Nat) : Nat → Int32 := if f (20 + x) = -1 then upd (upd f (20 + x) nm) (60 + x) 0 else f
def ms_2 (f : Nat → Int32) (nm : Int32) (x : Nat) : Nat → Int32 := upd (ms_1 f nm x) (60 + x) (ms_1 f nm x (60 + x) + (if 9999 ≤ ms_1 f nm x (60 + x) then 0 else 1))
def ms_3 (f : Nat → Int32) (nm : Int32) (c x : Nat) : Nat → Int32 := upd (ms_2 f nm x) (40 + x) (if ms_2 f nm x (40 + x) = -1 then nI c else ms_2 f nm x (40 + x))
def ms_4 (f : Nat → Int32) (nm : Int32) (c x : Nat) : Nat → Int32 := upd (ms_3 f nm c x) (88 + c) (nI x)
def ms_5 (f : Nat → Int32) (nm : Int32) (c x : Nat) : Nat → Int32 := upd (ms_4 f nm c x) (96 + c) (ms_4 f nm c x (96 + c) + 1)
theorem sg_w5 (z : sg_M) (i v : Int32) : (sg_w z 5 i v).2 5 = upd (z.2 5) i.toNatClampNeg v := rfl
theorem sg_a5 (z : sg_M) (f g : Nat → Int32) : sg_a (sg_a z 5 f) 5 g = sg_a z 5 g := by
  unfold sg_a
  congr 1
  funext j
  by_cases h : j = 5 <;> simp [h]
theorem sg_aw (z : sg_M) (f : Nat → Int32) (i v : Int32) : sg_w (sg_a z 5 f) 5 i v = sg_a z 5 (upd f i.toNatClampNeg v) := by
  unfold sg_w
  rw [sg_a5]
  rfl
theorem sg_w_a (z : sg_M) (i v : Int32) : sg_w z 5 i v = sg_a z 5 (upd (z.2 5) i.toNatClampNeg v) := rfl
theorem sg_a_self (z : sg_M) : sg_a z 5 (z.2 5) = z := by
  unfold sg_a
  refine Prod.ext rfl ?_
  funext j
  by_cases h : j = 5 <;> simp [h]
theorem sg_a_5 (z : sg_M) (f : Nat → Int32) : (sg_a z 5 f).2 5 = f := rfl
theorem rM_settle (z : sg_M) {c x : Nat} (hc : c < 8) (hx : x < 20) {n : Nat} {w : Int32} (h1 : gM_wet n z = some w) (h2 : gM_stopOf n (nI c) w z = some (nI x)) : gM_driveNow n (nI c) z = some (nI x, sg_a z 5 (ms_5 (z.2 5) (z.2 4 c) c x)) := by
  unfold gM_driveNow
  rw [h1]
  simp only [Option.bind_some]
  rw [h2]
  simp only [Option.bind_some]
  have i1 := pi_in (j := c) (n := 8) hc (by omega)
  have i20 := pi_in (j := 20 + x) (n := 106) (by omega) (by omega)
  have i40 := pi_in (j := 40 + x) (n := 106) (by omega) (by omega)
  have i60 := pi_in (j := 60 + x) (n := 106) (by omega) (by omega)
  have i88 := pi_in (j := 88 + c) (n := 106) (by omega) (by omega)
  have i96 := pi_in (j := 96 + c) (n := 106) (by omega) (by omega)
  have k1 := pi_cl (j := c) (by omega)
  have k20 := pi_cl (j := 20 + x) (by omega)
  have k40 := pi_cl (j := 40 + x) (by omega)
  have k60 := pi_cl (j := 60 + x) (by omega)
  have k88 := pi_cl (j := 88 + c) (by omega)
  have k96 := pi_cl (j := 96 + c) (by omega)
  rw [if_pos (pi_nneg' (by omega)), rM_town hx]
  simp only [pi_20, pi_40, pi_60, pi_88, pi_96, i1, i20, i40, i60, i88, i96, k1, k20, k40, k60, k88, k96, if_true, Option.bind_some, pl_let]
  have e1 : (if sp_town z x = 0 then some (sg_w (sg_w z 5 (nI (20 + x)) (z.2 4 c)) 5 (nI (60 + x)) 0) else some z) = some (sg_a z 5 (ms_1 (z.2 5) (z.2 4 c) x)) := by
    unfold ms_1
    by_cases h : z.2 5 (20 + x) = -1
    · rw [if_pos (sp_town_0.mpr h), if_pos h, sg_w_a z (nI (20 + x)), sg_aw, k20, k60]
    · rw [if_neg (fun q => h (sp_town_0.mp q)), if_neg h, sg_a_self]
  rw [e1]
  simp only [Option.bind_some, sg_aw, k60]
  show Option.bind (if ms_2 (z.2 5) (z.2 4 c) x (40 + x) = -1 then some (nI c) else some (ms_2 (z.2 5) (z.2 4 c) x (40 + x))) (fun t9 => some (nI x, sg_a z 5 (upd (upd (upd (ms_2 (z.2 5) (z.2 4 c) x) (nI (40 + x)).toNatClampNeg t9) (nI (88 + c)).toNatClampNeg (nI x)) (nI (96 + c)).toNatClampNeg (upd (upd (ms_2 (z.2 5) (z.2 4 c) x) (nI (40 + x)).toNatClampNeg t9) (nI (88 + c)).toNatClampNeg (nI x) (96 + c) + 1)))) = _
  have e3 : (if ms_2 (z.2 5) (z.2 4 c) x (40 + x) = -1 then some (nI c) else some (ms_2 (z.2 5) (z.2 4 c) x (40 + x))) = some (if ms_2 (z.2 5) (z.2 4 c) x (40 + x) = -1 then nI c else ms_2 (z.2 5) (z.2 4 c) x (40 + x)) := by split <;> rfl
  rw [e3]
  simp only [Option.bind_some, sg_aw, sg_a_5, k40, k88, k96]
  rfl
theorem pn_folk {g : Nat} (hg : g ≤ 9999) : sg_min 9999 (nI g + 1) = nI (if 9999 ≤ g then g else g + 1) ∧ nI g + (if 9999 ≤ nI g then (0 : Int32) else 1) = nI (if 9999 ≤ g then g else g + 1) := by
  have e : (9999 : Int32) ≤ nI g ↔ 9999 ≤ g := pi_le (a := 9999) (by omega) (by omega)
  have e2 : nI (g + 1) < (9999 : Int32) ↔ g + 1 < 9999 := pi_lt (b := 9999) (by omega) (by omega)
  unfold sg_min
  rw [nI_1]
  by_cases h : 9999 ≤ g
  · rw [if_pos h, if_pos (e.mpr h), Int32.add_zero, if_neg (by rw [e2]; omega)]
    exact ⟨by rw [show g = 9999 by omega]; rfl, rfl⟩
  · have h5 : ¬ (9999 : Int32) ≤ nI g := by rw [e]; exact h
    rw [if_neg h, if_neg h5, nI_1]
    by_cases h3 : g + 1 < 9999
    · rw [if_pos (e2.mpr h3)]; exact ⟨rfl, rfl⟩
    · rw [if_neg (by rw [e2]; exact h3)]
      exact ⟨by rw [show g + 1 = 9999 by omega]; rfl, rfl⟩
theorem upd_same (f : Nat → Int32) (k : Nat) : upd f k (f k) = f := by
  funext j
  rw [pu_at]
  by_cases h : j = k
  · rw [if_pos h, h]
  · rw [if_neg h]
theorem rr_settle {nc nk tb : Nat} {zC zM : sg_M} (hr : rl_road nc nk zC zM) (hn : rl_now nc nk tb zC zM) (htb : tb + 1 ≤ 100000) {c x : Nat} (hc : c < nk) (hx : x < nc) : rl_now nc nk (tb + 1) (cs_4 zC c x) (sg_a zM 5 (ms_5 (zM.2 5) (zM.2 4 c) c x)) := by
  have h1 := hr.1
  have hk : nc ≤ 20 ∧ nk ≤ 8 := ⟨hr.1, hr.2.1⟩
  have hx20 : x < 20 := by omega
  have hc8 : c < 8 := by omega
  obtain ⟨-, hsay, gs, hgs, hgs2⟩ := hr.2.2.2.2.2.2.2.2.1 c hc
  have heq := rl_st_eq hn
  have hin := ri_mono (rn_inv hn) (show tb ≤ tb + 1 by omega) htb
  have en := hn.2.1 x hx
  have em := hn.2.2.1 x hx
  have ef := hn.2.2.2.1 x hx20
  have et := hn.2.2.2.2.2.2.1 c hc8
  obtain ⟨t, ht1, ht2⟩ := (rn_times hn).2 c hc8
  obtain ⟨fo, hfo, hfo2⟩ := (rn_inv hn).2.2.2.1 x hx20
  have hmy := (rn_inv hn).2.2.1 x hx20
  generalize hf0 : zM.2 5 = f at *
  refine rl_now_mk ?_ ?_
  · rw [sg_a_5]
    unfold ms_5 ms_4 ms_3 ms_2
    by_cases ht : f (20 + x) = -1
    · have hm1 := hmy ht
      have e1 : ms_1 f (zM.2 4 c) x = upd (upd f (20 + x) (zM.2 4 c)) (60 + x) 0 := by unfold ms_1; rw [if_pos ht]
      rw [e1]
      have q1 := rq_fk hk (rq_nm hk heq hx20 (zM.2 4 c)) hx20 0
      have e60 : upd (upd f (20 + x) (zM.2 4 c)) (60 + x) 0 (60 + x) = 0 := by rw [pu_at, if_pos rfl]
      rw [e60, show (0 : Int32) + (if (9999 : Int32) ≤ 0 then (0 : Int32) else 1) = 1 by decide]
      have q2 := rq_fk hk q1 hx20 1
      have e40 : upd (upd (upd f (20 + x) (zM.2 4 c)) (60 + x) 0) (60 + x) 1 (40 + x) = -1 := by
        rw [pu_at, if_neg (by omega), pu_at, if_neg (by omega), pu_at, if_neg (by omega)]; exact hm1
      rw [e40, if_pos rfl]
      have q3 := rq_my hk q2 hx20 (nI c)
      have q4 := rq_sk hk q3 hc8 (nI x)
      have e96 : upd (upd (upd (upd (upd f (20 + x) (zM.2 4 c)) (60 + x) 0) (60 + x) 1) (40 + x) (nI c)) (88 + c) (nI x) (96 + c) = zC.2 17 c := by
        rw [pu_at, if_neg (by omega), pu_at, if_neg (by omega), pu_at, if_neg (by omega), pu_at, if_neg (by omega), pu_at, if_neg (by omega)]; exact et.symm
      rw [e96]
      have q5 := rq_tm hk q4 hc8 (zC.2 17 c + 1)
      have g12 : zC.2 12 x = -1 := by rw [en]; exact ht
      have g13 : zC.2 13 x = -1 := by rw [em]; exact hm1
      unfold cs_4 cs_3 cs_2 cs_1
      rw [if_pos g13, if_pos g12, if_pos g12, show sg_min 9999 ((0 : Int32) + 1) = 1 by decide, hsay]
      simp only [pw_2, pw_1, pi_cl (show x < 2147483648 by omega), pi_cl (show c < 2147483648 by omega)]
      exact q5
    · have e1 : ms_1 f (zM.2 4 c) x = f := by unfold ms_1; rw [if_neg ht]
      rw [e1, hfo2, (pn_folk hfo).2]
      have q2 := rq_fk hk heq hx20 (nI (if 9999 ≤ fo then fo else fo + 1))
      have e40 : upd f (60 + x) (nI (if 9999 ≤ fo then fo else fo + 1)) (40 + x) = f (40 + x) := by rw [pu_at, if_neg (by omega)]
      rw [e40]
      have q3 := rq_my hk q2 hx20 (if f (40 + x) = -1 then nI c else f (40 + x))
      have q4 := rq_sk hk q3 hc8 (nI x)
      have e96 : upd (upd (upd f (60 + x) (nI (if 9999 ≤ fo then fo else fo + 1))) (40 + x) (if f (40 + x) = -1 then nI c else f (40 + x))) (88 + c) (nI x) (96 + c) = zC.2 17 c := by
        rw [pu_at, if_neg (by omega), pu_at, if_neg (by omega), pu_at, if_neg (by omega)]; exact et.symm
      rw [e96]
      have q5 := rq_tm hk q4 hc8 (zC.2 17 c + 1)
      have g12 : ¬ zC.2 12 x = -1 := by rw [en]; exact ht
      have g14 : zC.2 14 x = nI fo := by rw [ef]; exact hfo2
      unfold cs_4 cs_3 cs_2 cs_1
      rw [if_neg g12, if_neg g12, g14, (pn_folk hfo).1, em]
      by_cases hm : f (40 + x) = -1
      · rw [if_pos hm] at q5
        simp only [if_pos hm, pw_2, pw_1, pi_cl (show x < 2147483648 by omega), pi_cl (show c < 2147483648 by omega)]
        exact q5
      · have e9 : upd (zC.2 13) x (f (40 + x)) = zC.2 13 := by rw [← em]; exact upd_same _ _
        rw [if_neg hm, e9] at q5
        simp only [if_neg hm, pw_2, pw_1, pi_cl (show x < 2147483648 by omega), pi_cl (show c < 2147483648 by omega)]
        exact q5
  · rw [sg_a_5]
    unfold ms_5 ms_4 ms_3 ms_2
    have e96 : ∀ g : Nat → Int32, (∀ k, k = 96 + c → g k = f k) → g (96 + c) + 1 = nI (t + 1) := fun g hg => by rw [hg _ rfl, ht2, nI_1]
    by_cases ht : f (20 + x) = -1
    · have e1 : ms_1 f (zM.2 4 c) x = upd (upd f (20 + x) (zM.2 4 c)) (60 + x) 0 := by unfold ms_1; rw [if_pos ht]
      have hm1 := hmy ht
      rw [e1]
      have e60 : upd (upd f (20 + x) (zM.2 4 c)) (60 + x) 0 (60 + x) = 0 := by rw [pu_at, if_pos rfl]
      rw [e60, show (0 : Int32) + (if (9999 : Int32) ≤ 0 then (0 : Int32) else 1) = nI 1 by decide, hgs2]
      have q1 := ri_fk hk (ri_nm hk hin hx20 hgs) hx20 (show 0 ≤ 9999 by omega)
      have q2 := ri_fk hk q1 hx20 (show 1 ≤ 9999 by omega)
      have q3 := ri_my hk q2 (v := if upd (upd (upd f (20 + x) (nI gs)) (60 + x) (nI 0)) (60 + x) (nI 1) (40 + x) = -1 then nI c else upd (upd (upd f (20 + x) (nI gs)) (60 + x) (nI 0)) (60 + x) (nI 1) (40 + x)) hx20 (Or.inl (by
        rw [pu_at, if_neg (by omega), pu_at, if_neg (by omega), pu_at, if_pos rfl]
        exact pi_m1 (by omega)))
      have q4 := ri_sk hk q3 hc (v := nI x) (Or.inr ⟨x, hx, rfl⟩)
      have q5 := ri_tm hk q4 hc8 (show t + 1 ≤ tb + 1 by omega)
      rw [e96 _ (fun k hk2 => by
        subst hk2
        rw [pu_at, if_neg (by omega), pu_at, if_neg (by omega), pu_at, if_neg (by omega), pu_at, if_neg (by omega), pu_at, if_neg (by omega)])]
      exact q5
    · have e1 : ms_1 f (zM.2 4 c) x = f := by unfold ms_1; rw [if_neg ht]
      rw [e1, hfo2, (pn_folk hfo).2]
      have q2 := ri_fk hk hin hx20 (show (if 9999 ≤ fo then fo else fo + 1) ≤ 9999 by split <;> omega)
      have q3 := ri_my hk q2 (v := if upd f (60 + x) (nI (if 9999 ≤ fo then fo else fo + 1)) (40 + x) = -1 then nI c else upd f (60 + x) (nI (if 9999 ≤ fo then fo else fo + 1)) (40 + x)) hx20 (Or.inl (by
        rw [pu_at, if_neg (by omega)]
        exact ht))
      have q4 := ri_sk hk q3 hc (v := nI x) (Or.inr ⟨x, hx, rfl⟩)
      have q5 := ri_tm hk q4 hc8 (show t + 1 ≤ tb + 1 by omega)
      rw [e96 _ (fun k hk2 => by
        subst hk2
        rw [pu_at, if_neg (by omega), pu_at, if_neg (by omega), pu_at, if_neg (by omega)])]
      exact q5
theorem cs_4_1 (z : sg_M) (c x : Nat) : (cs_4 z c x).1 = z.1 := by
  unfold cs_4 cs_3 cs_2 cs_1
  split <;> split <;> rfl
theorem rr_drive {nc nk tb : Nat} {zC zM : sg_M} (hr : rl_road nc nk zC zM) (hn : rl_now nc nk tb zC zM) (htb : tb + 1 ≤ 100000) {c : Nat} (hc : c < nk) (n : Nat) (hn1 : 40 ≤ n) : ∃ v zC' zM', gC_Kingdom_driveOut n (nI c) zC = some (v, zC') ∧ gM_driveNow n (nI c) zM = some (v, zM') ∧ rl_now nc nk (tb + 1) zC' zM' ∧ fn_C zC zC' ∧ fn_M zM zM' ∧ zC'.1 = zC.1 := by
  have h1 := hr.1
  have h2 := hr.2.1
  have h3 := hr.2.2.1
  have eC := rC_stopBehind hr hn hc 0 n (by omega) (by omega)
  rw [← sp_wet0_eq hr (by omega)] at eC
  have eM1 := rM_wet hr hn n (by omega)
  have eM2 := rM_stopOf hr hc (sp_wet0 zM) n (by omega)
  unfold gC_Kingdom_driveOut
  rw [show gC_Kingdom_stopBehind n (nI c) 0 zC = gC_Kingdom_stopBehind n (nI c) (nI 0) zC from rfl, eC]
  rcases sp_stop_rng nc zM c (zM.2 5 (80 + c)) (sp_wet0 zM) with h | ⟨x, hx, h⟩
  · rw [h] at eM2 ⊢
    refine ⟨-1, zC, zM, rfl, ?_, ?_, fn_C.rf zC, fn_M.rf zM, rfl⟩
    · unfold gM_driveNow
      rw [eM1]
      simp only [Option.bind_some]
      rw [eM2]
      rfl
    · exact rl_now_mk (rl_st_eq hn) (ri_mono (rn_inv hn) (by omega) htb)
  · rw [h] at eM2 ⊢
    simp only [Option.bind_some]
    rw [if_neg (pi_m1 (by omega)), rC_settle zC (by omega) (by omega), rM_settle zM (by omega) (by omega) eM1 eM2]
    exact ⟨nI x, _, _, rfl, rfl, rr_settle hr hn htb hc hx, cs_fn zC c x, ⟨fun _ => rfl, fun a ha => by rw [pa_2, if_neg ha]⟩, cs_4_1 zC c x⟩
/-! pull -/
theorem pn_pull {g : Nat} (hg : g ≤ 9999) : sg_max 0 (nI g - 1) = nI (g - 1) ∧ nI g - (if nI g ≤ 0 then (0 : Int32) else 1) = nI (g - 1) := by
  have e1 : (1 : Int32).toInt = 1 := by decide
  have e0 : (0 : Int32).toInt = 0 := by decide
  have eg := pi_nT (n := g) (by omega)
  by_cases h : g = 0
  · subst h
    exact ⟨by decide, by decide⟩
  · have e2 : nI g - 1 = nI (g - 1) := pd_sub (b := 1) (by omega)
    rw [e2]
    unfold sg_max
    constructor
    · by_cases h2 : (0 : Int32) < nI (g - 1)
      · rw [if_pos h2]
      · rw [if_neg h2]
        rw [pi_ltT, e0, pi_nT (by omega)] at h2
        rw [show g - 1 = 0 by omega]; rfl
    · rw [if_neg (by rw [pi_leT, eg, e0]; omega), e2]
def cq_1 (z : sg_M) (c x : Nat) : sg_M := if z.2 12 x = -1 then sg_w z 16 (nI c) (-1) else sg_w (sg_w z 16 (nI c) (-1)) 14 (nI x) (sg_max 0 (z.2 14 x - 1))
def cq_2 (z : sg_M) (c x : Nat) : sg_M := if z.2 12 x = -1 then cq_1 z c x else if z.2 13 x = nI c then sg_w (cq_1 z c x) 13 (nI x) (-1) else cq_1 z c x
theorem rC_pull {nc nk : Nat} {zC zM : sg_M} (hr : rl_road nc nk zC zM) {c x : Nat} (hc : c < 8) (hx : x < nc) (hs : zC.2 16 c = nI x) : gC_Kingdom_pullOut (nI c) zC = some (nI x, cq_2 zC c x) := by
  have h1 := hr.1
  unfold gC_Kingdom_pullOut
  have i1 := pi_in (j := c) (n := 8) hc (by omega)
  have i2 := pi_in (j := x) (n := 20) (by omega) (by omega)
  have k1 := pi_cl (j := c) (by omega)
  have k2 := pi_cl (j := x) (by omega)
  simp only [i1, if_true, pl_let, k1, hs]
  have e : ¬ gC_Road_hasCell (nI x) (sg_w zC 16 (nI c) (-1)) = 0 := by
    unfold gC_Road_hasCell
    rw [if_neg (pi_nneg (by omega)), show (sg_w zC 16 (nI c) (-1)).1 9 = zC.1 9 from rfl, hr.2.2.2.1, if_neg (by rw [pi_le (by omega) (by omega)]; omega)]
    decide
  have e2 : gC_State_hasTown (nI x) (sg_w zC 16 (nI c) (-1)) = some (if zC.2 12 x = -1 then 0 else 1) := by
    unfold gC_State_hasTown
    rw [i2, k2, show (sg_w zC 16 (nI c) (-1)).2 12 = zC.2 12 from rfl]
    simp only [if_true]
    split <;> rfl
  rw [if_neg e, e2]
  simp only [Option.bind_some, i2, if_true, k2]
  by_cases h : zC.2 12 x = -1
  · rw [if_pos h, if_pos rfl]
    unfold cq_2 cq_1
    rw [if_pos h, if_pos h]
    rfl
  · rw [if_neg h, if_neg (by decide)]
    unfold cq_2 cq_1
    rw [if_neg h, if_neg h]
    show Option.bind (if zC.2 13 x = nI c then some (sg_w (sg_w (sg_w zC 16 (nI c) (-1)) 14 (nI x) (sg_max 0 (zC.2 14 x - 1))) 13 (nI x) (-1)) else some (sg_w (sg_w zC 16 (nI c) (-1)) 14 (nI x) (sg_max 0 (zC.2 14 x - 1)))) _ = _
    split <;> rfl
def mq_1 (f : Nat → Int32) (c x : Nat) : Nat → Int32 := upd f (88 + c) (-1)
def mq_2 (f : Nat → Int32) (c x : Nat) : Nat → Int32 := upd (mq_1 f c x) (60 + x) (f (60 + x) - (if f (20 + x) = -1 then 0 else if f (60 + x) ≤ 0 then 0 else 1))
def mq_3 (f : Nat → Int32) (c x : Nat) : Nat → Int32 := upd (mq_2 f c x) (40 + x) (if f (40 + x) = nI c then -1 else f (40 + x))
theorem rM_pull {nc nk : Nat} {zC zM : sg_M} (hr : rl_road nc nk zC zM) {c x : Nat} (hc : c < 8) (hx : x < nc) (hs : zM.2 5 (88 + c) = nI x) : gM_pullNow (nI c) zM = some (nI x, sg_a zM 5 (mq_3 (zM.2 5) c x)) := by
  have h1 := hr.1
  unfold gM_pullNow
  have i40 := pi_in (j := 40 + x) (n := 106) (by omega) (by omega)
  have i60 := pi_in (j := 60 + x) (n := 106) (by omega) (by omega)
  have i88 := pi_in (j := 88 + c) (n := 106) (by omega) (by omega)
  have k40 := pi_cl (j := 40 + x) (by omega)
  have k60 := pi_cl (j := 60 + x) (by omega)
  have k88 := pi_cl (j := 88 + c) (by omega)
  simp only [pi_88, i88, if_true, pl_let, k88, hs, pi_60, pi_40, i60, i40, k60, k40]
  have e2 : gM_isTown (nI x) (sg_w zM 5 (nI (88 + c)) (-1)) = some (if zM.2 5 (20 + x) = -1 then 0 else 1) := by
    rw [rM_town (by omega)]
    unfold sp_town
    have e9 : (sg_w zM 5 (nI (88 + c)) (-1)).2 5 (20 + x) = zM.2 5 (20 + x) := by rw [sg_w5, k88, pu_at, if_neg (by omega)]
    rw [e9]
  rw [e2]
  simp only [Option.bind_some]
  have r60 : (sg_w zM 5 (nI (88 + c)) (-1)).2 5 (60 + x) = zM.2 5 (60 + x) := by rw [sg_w5, k88, pu_at, if_neg (by omega)]
  have e3 : (if (if zM.2 5 (20 + x) = -1 then (0 : Int32) else 1) = 0 then some (0 : Int32) else if (sg_w zM 5 (nI (88 + c)) (-1)).2 5 (60 + x) ≤ 0 then some 0 else some 1) = some (if zM.2 5 (20 + x) = -1 then 0 else if zM.2 5 (60 + x) ≤ 0 then 0 else 1) := by
    rw [r60]
    by_cases h : zM.2 5 (20 + x) = -1
    · simp only [if_pos h, if_true]
    · simp only [if_neg h, show ¬ (1 : Int32) = 0 by decide, if_false]
      split <;> rfl
  rw [e3]
  simp only [Option.bind_some, r60]
  have e4 : sg_w (sg_w zM 5 (nI (88 + c)) (-1)) 5 (nI (60 + x)) (zM.2 5 (60 + x) - (if zM.2 5 (20 + x) = -1 then 0 else if zM.2 5 (60 + x) ≤ 0 then 0 else 1)) = sg_a zM 5 (mq_2 (zM.2 5) c x) := by
    rw [sg_w_a zM (nI (88 + c)), sg_aw, k60, k88]
    rfl
  rw [e4]
  have r40 : (sg_a zM 5 (mq_2 (zM.2 5) c x)).2 5 (40 + x) = zM.2 5 (40 + x) := by
    rw [sg_a_5]
    unfold mq_2 mq_1
    rw [pu_at, if_neg (by omega), pu_at, if_neg (by omega)]
  rw [r40]
  have e5 : (if zM.2 5 (40 + x) = nI c then some (-1 : Int32) else some (zM.2 5 (40 + x))) = some (if zM.2 5 (40 + x) = nI c then -1 else zM.2 5 (40 + x)) := by split <;> rfl
  rw [e5]
  simp only [Option.bind_some]
  rw [sg_aw, k40]
  rfl
theorem rr_pull {nc nk tb : Nat} {zC zM : sg_M} (hr : rl_road nc nk zC zM) (hn : rl_now nc nk tb zC zM) {c : Nat} (hc : c < nk) (hs : ¬ zM.2 5 (88 + c) = -1) : ∃ v zC' zM', gC_Kingdom_pullOut (nI c) zC = some (v, zC') ∧ gM_pullNow (nI c) zM = some (v, zM') ∧ rl_now nc nk tb zC' zM' ∧ fn_C zC zC' ∧ fn_M zM zM' ∧ zC'.1 = zC.1 := by
  have h1 := hr.1
  have hk : nc ≤ 20 ∧ nk ≤ 8 := ⟨hr.1, hr.2.1⟩
  have hc8 : c < 8 := by omega
  obtain ⟨x, hx, hx2⟩ := ((rn_inv hn).2.2.2.2.1 c hc).resolve_left hs
  have hx20 : x < 20 := by omega
  have es := hn.2.2.2.2.2.1 c hc
  refine ⟨nI x, _, _, rC_pull hr hc8 hx (es.trans hx2), rM_pull hr hc8 hx hx2, ?_, ?_, ⟨fun _ => rfl, fun a ha => by rw [pa_2, if_neg ha]⟩, ?_⟩
  · have heq := rl_st_eq hn
    have hin := rn_inv hn
    have en := hn.2.1 x hx
    have em := hn.2.2.1 x hx
    have ef := hn.2.2.2.1 x hx20
    obtain ⟨fo, hfo, hfo2⟩ := hin.2.2.2.1 x hx20
    have hmy := hin.2.2.1 x hx20
    have q1 := rq_sk hk heq hc8 (-1)
    have p1 := ri_sk hk hin hc (v := -1) (Or.inl rfl)
    generalize hf0 : zM.2 5 = f at *
    by_cases ht : f (20 + x) = -1
    · have hm1 := hmy ht
      have e3 : mq_3 f c x = upd f (88 + c) (-1) := by
        unfold mq_3 mq_2 mq_1
        rw [if_pos ht, Int32.sub_zero, hm1, if_neg (fun q => pi_m1 (a := c) (by omega) q.symm)]
        have u1 : upd (upd f (88 + c) (-1)) (60 + x) (f (60 + x)) = upd f (88 + c) (-1) := by
          have : f (60 + x) = upd f (88 + c) (-1) (60 + x) := by rw [pu_at, if_neg (by omega)]
          rw [this]; exact upd_same _ _
        rw [u1]
        have : (-1 : Int32) = upd f (88 + c) (-1) (40 + x) := by rw [pu_at, if_neg (by omega), hm1]
        conv => lhs; arg 3; rw [this]
        exact upd_same _ _
      rw [e3]
      refine rl_now_mk ?_ ?_
      · rw [sg_a_5]
        unfold cq_2 cq_1
        rw [if_pos (en.trans ht), if_pos (en.trans ht)]
        simp only [pw_2, pw_1, pi_cl (show c < 2147483648 by omega)]
        exact q1
      · rw [sg_a_5]; exact p1
    · have g12 : ¬ zC.2 12 x = -1 := by rw [en]; exact ht
      have g14 : zC.2 14 x = nI fo := ef.trans hfo2
      have q2 := rq_fk hk q1 hx20 (nI (fo - 1))
      have p2 := ri_fk hk p1 hx20 (show fo - 1 ≤ 9999 by omega)
      have q3 := rq_my hk q2 hx20 (if f (40 + x) = nI c then -1 else f (40 + x))
      have p3 := ri_my hk p2 (v := if f (40 + x) = nI c then -1 else f (40 + x)) hx20 (Or.inl (by rw [pu_at, if_neg (by omega), pu_at, if_neg (by omega)]; exact ht))
      have e3 : mq_3 f c x = upd (upd (upd f (88 + c) (-1)) (60 + x) (nI (fo - 1))) (40 + x) (if f (40 + x) = nI c then -1 else f (40 + x)) := by
        unfold mq_3 mq_2 mq_1
        rw [if_neg ht, hfo2, (pn_pull hfo).2]
      rw [e3]
      refine rl_now_mk ?_ ?_
      · rw [sg_a_5]
        unfold cq_2 cq_1
        rw [if_neg g12, if_neg g12, g14, (pn_pull hfo).1, em]
        by_cases hm : f (40 + x) = nI c
        · rw [if_pos hm] at q3
          simp only [if_pos hm, pw_2, pw_1, pi_cl (show x < 2147483648 by omega), pi_cl (show c < 2147483648 by omega)]
          exact q3
        · have e9 : upd (zC.2 13) x (f (40 + x)) = zC.2 13 := by rw [← em]; exact upd_same _ _
          rw [if_neg hm, e9] at q3
          simp only [if_neg hm, pw_2, pw_1, pi_cl (show x < 2147483648 by omega), pi_cl (show c < 2147483648 by omega)]
          exact q3
      · rw [sg_a_5]; exact p3
  · refine ⟨fun k _ => ?_, fun a ha => ?_⟩
    · unfold cq_2 cq_1
      split
      · rfl
      · split <;> rfl
    · unfold cq_2 cq_1
      split
      · rw [pw_2, if_neg (by omega)]
      · split
        · simp only [pw_2]; rw [if_neg (by omega), if_neg (by omega), if_neg (by omega)]
        · simp only [pw_2]; rw [if_neg (by omega), if_neg (by omega)]
  · unfold cq_2 cq_1
    split
    · rfl
    · split <;> rfl
/-! a day, gravel -/
theorem rr_pass {nc nk tb : Nat} {zC zM : sg_M} (hr : rl_road nc nk zC zM) (hn : rl_now nc nk tb zC zM) {d : Nat} (hd : d + 1 ≤ 9060) (hd2 : zM.2 5 104 = nI d) : ∃ zC' zM', gC_Kingdom_passDay zC = some zC' ∧ gM_pass zM = some zM' ∧ rl_now nc nk tb zC' zM' ∧ fn_C zC zC' ∧ fn_M zM zM' ∧ zM'.2 5 104 = nI (d + 1) := by
  have hk : nc ≤ 20 ∧ nk ≤ 8 := ⟨hr.1, hr.2.1⟩
  obtain ⟨s, hs, hs2, hs3⟩ := rn_storm hn
  have e : nI s / 2 = nI (s / 2) := pk_div (a := s) (d := 2) (by omega) (by omega) (by omega)
  have e5 := hn.2.2.2.2.2.2.2.1
  have e6 := hn.2.2.2.2.2.2.2.2.1
  refine ⟨sg_s (sg_s zC 13 (nI (s / 2))) 12 (nI (d + 1)), sg_a zM 5 (upd (upd (zM.2 5) 105 (nI (s / 2))) 104 (nI (d + 1))), ?_, ?_, ?_, ?_, ⟨fun _ => rfl, fun a ha => by rw [pa_2, if_neg ha]⟩, ?_⟩
  · unfold gC_Kingdom_passDay
    simp only [pl_let]
    rw [e6, hs2, e, ps_1, if_neg (by decide), e5, hd2, nI_1]
  · unfold gM_pass
    simp only [pl_let]
    rw [pi_105, hs2, e, sg_w_a zM, sg_aw, pi_104, pi_105, sg_a_5, pu_at, if_neg (by omega), hd2, nI_1]
  · refine rl_now_mk ?_ ?_
    · exact rq_dy hk (rq_sm hk (rl_st_eq hn) (nI (s / 2))) (nI (d + 1))
    · exact ri_dy hk (ri_sm hk (rn_inv hn) ⟨by omega, fun h => by have := hs3 h; omega⟩) hd
  · exact ⟨fun k hk => by simp only [ps_1]; rw [if_neg hk.1, if_neg hk.2], fun _ _ => rfl⟩
  · rw [sg_a_5, pu_at, if_pos rfl]
theorem pn_lay {g : Nat} (hg : g ≤ 60) {v : Int32} (hv : -60 ≤ v.toInt ∧ v.toInt ≤ 60) : ∃ q, q ≤ 60 ∧ sg_max 0 (sg_min 60 (nI g + v)) = nI q ∧ (if (60 : Int32) ≤ gM_notBelow (nI g + v) then (60 : Int32) else gM_notBelow (nI g + v)) = nI q := by
  have e60 : (60 : Int32).toInt = 60 := by decide
  have e0 : (0 : Int32).toInt = 0 := by decide
  have eg := pi_nT (n := g) (by omega)
  have es : (nI g + v).toInt = g + v.toInt := by rw [pi_addT (by omega) (by omega), eg]
  have enb := pn_nb es
  have h1 : (sg_min 60 (nI g + v)).toInt = if (g : Int) + v.toInt < 60 then g + v.toInt else 60 := by
    unfold sg_min
    by_cases h : nI g + v < 60
    · rw [if_pos h, es]
      rw [pi_ltT, es, e60] at h
      rw [if_pos h]
    · rw [if_neg h, e60]
      rw [pi_ltT, es, e60] at h
      rw [if_neg h]
  have h2 : (sg_max 0 (sg_min 60 (nI g + v))).toInt = if (g : Int) + v.toInt ≤ 0 then 0 else if (g : Int) + v.toInt < 60 then g + v.toInt else 60 := by
    unfold sg_max
    by_cases h : 0 < sg_min 60 (nI g + v)
    · rw [if_pos h, h1]
      rw [pi_ltT, h1, e0] at h
      split at h <;> (split <;> first | omega | rfl)
    · rw [if_neg h, e0]
      rw [pi_ltT, h1, e0] at h
      split at h
      · rw [if_pos (by omega)]
      · omega
  have h3 : (if (60 : Int32) ≤ gM_notBelow (nI g + v) then (60 : Int32) else gM_notBelow (nI g + v)).toInt = if (g : Int) + v.toInt ≤ 0 then 0 else if (g : Int) + v.toInt < 60 then g + v.toInt else 60 := by
    by_cases h : (60 : Int32) ≤ gM_notBelow (nI g + v)
    · rw [if_pos h, e60]
      rw [pi_leT, enb, e60] at h
      split at h
      · omega
      · rw [if_neg (by omega), if_neg (by omega)]
    · rw [if_neg h, enb]
      rw [pi_leT, enb, e60] at h
      split at h
      · rw [if_pos (by omega), if_pos (by omega)]
      · rw [if_neg (by omega), if_neg (by omega), if_pos (by omega)]
  refine ⟨(if (g : Int) + v.toInt ≤ 0 then 0 else if (g : Int) + v.toInt < 60 then (g : Int) + v.toInt else 60).toNat, ?_, pi_of ?_, pi_of ?_⟩
  · split
    · omega
    · split <;> omega
  · rw [h2]
    split
    · rfl
    · split <;> omega
  · rw [h3]
    split
    · rfl
    · split <;> omega
theorem rr_layG {nc nk tb : Nat} {zC zM : sg_M} (hr : rl_road nc nk zC zM) (hn : rl_now nc nk tb zC zM) {x : Nat} (hx : x < nc) {v : Int32} (hv : -60 ≤ v.toInt ∧ v.toInt ≤ 60) : ∃ q zC' zM', gC_Kingdom_layGravel (nI x) v zC = some zC' ∧ gM_layNow (nI x) v zM = some zM' ∧ rl_now nc nk tb zC' zM' ∧ fn_C zC zC' ∧ fn_M zM zM' ∧ zC'.2 11 x = q ∧ zM'.2 5 x = q ∧ zC'.1 = zC.1 := by
  have h1 := hr.1
  have hk : nc ≤ 20 ∧ nk ≤ 8 := ⟨hr.1, hr.2.1⟩
  have hx20 : x < 20 := by omega
  have e5 := hn.1 x hx20
  obtain ⟨g, hg, hg2⟩ := (rn_inv hn).1 x hx20
  obtain ⟨q, hq, hq1, hq2⟩ := pn_lay hg hv
  have k := pi_cl (j := x) (by omega)
  refine ⟨nI q, sg_w zC 11 (nI x) (nI q), sg_a zM 5 (upd (zM.2 5) x (nI q)), ?_, ?_, ?_, ?_, ⟨fun _ => rfl, fun a ha => by rw [pa_2, if_neg ha]⟩, ?_, ?_, rfl⟩
  · unfold gC_Kingdom_layGravel
    rw [pi_in hx20 (by omega), k, e5, hg2, hq1]
    rfl
  · unfold gM_layNow
    rw [pi_in (n := 106) (by omega) (by omega), k, hg2]
    simp only [if_true, pl_let]
    rw [hq2, sg_w_a zM, k]
  · refine rl_now_mk ?_ ?_
    · have := rq_ga hk (rl_st_eq hn) hx20 (nI q)
      simp only [pw_2, pw_1, k]
      exact this
    · exact ri_ga hk (rn_inv hn) hx20 hq
  · exact ⟨fun _ _ => rfl, fun a ha => by rw [pw_2, if_neg (by omega)]⟩
  · rw [pw_2, if_pos rfl, k, pu_at, if_pos rfl]
  · rw [sg_a_5, pu_at, if_pos rfl]
