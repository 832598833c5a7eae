theorem mk_r {n : Nat} {z : sg_M} (h : gM_here n z = some (114, z)) : gM_takeClause n z = if z.1 9 ≤ 0 then Option.bind (gM_takeRoad n (sg_s z 6 (z.1 6 + 1))) (mt_tail n) else some (3, sg_s z 5 (z.1 6)) := by
  unfold gM_takeClause
  rw [h, Option.bind_some]
  simp only [pl_let, ob_eta]
  rw [if_pos trivial, if_neg (show ¬ (0 : Int32) < 0 by decide), if_pos (show (0 : Int32) ≤ 0 by decide), if_pos (show (0 : Int32) = 0 from rfl), if_pos (show (0 : Int32) = 0 from rfl)]
  by_cases c : z.1 9 ≤ 0
  · rw [if_pos c, if_pos c, if_pos rfl]
    rfl
  · rw [if_neg c, if_neg c, if_neg (by decide)]
    rfl
theorem mk_w {n : Nat} {z : sg_M} (h : gM_here n z = some (119, z)) (h9 : ¬ z.1 9 = 0) : gM_takeClause n z = if z.1 10 ≤ 0 then Option.bind (gM_takeWeather n (sg_s z 6 (z.1 6 + 1))) (mt_tail n) else some (3, sg_s z 5 (z.1 6)) := by
  unfold gM_takeClause
  rw [h, Option.bind_some]
  simp only [pl_let, ob_eta]
  rw [if_neg (show ¬ (119 : Int32) = 114 by decide), if_pos trivial, if_neg (show ¬ (1 : Int32) < 0 by decide), if_neg (show ¬ (1 : Int32) ≤ 0 by decide), if_neg h9, if_neg (show ¬ (1 : Int32) = 0 by decide), if_pos (show (1 : Int32) = 1 from rfl), if_neg (show ¬ (1 : Int32) = 0 by decide), if_pos (show (1 : Int32) = 1 from rfl)]
  by_cases c : z.1 10 ≤ 0
  · rw [if_pos c, if_pos c, if_pos rfl]
    rfl
  · rw [if_neg c, if_neg c, if_neg (by decide)]
    rfl
theorem mk_c {n : Nat} {z : sg_M} (h : gM_here n z = some (99, z)) (h9 : ¬ z.1 9 = 0) : gM_takeClause n z = if z.1 11 = 8 then some (3, sg_s z 5 (z.1 6)) else Option.bind (gM_takeCart n (sg_s z 6 (z.1 6 + 1))) (mt_tail n) := by
  unfold gM_takeClause
  rw [h, Option.bind_some]
  simp only [pl_let, ob_eta]
  rw [if_neg (show ¬ (99 : Int32) = 114 by decide), if_neg (show ¬ (99 : Int32) = 119 by decide), if_pos trivial, if_neg (show ¬ (2 : Int32) < 0 by decide), if_neg (show ¬ (2 : Int32) ≤ 0 by decide), if_neg h9, if_neg (show ¬ (2 : Int32) = 0 by decide), if_neg (show ¬ (2 : Int32) = 1 by decide), if_neg (show ¬ (2 : Int32) = 0 by decide), if_neg (show ¬ (2 : Int32) = 1 by decide)]
  by_cases c : z.1 11 = 8
  · rw [if_pos c, if_pos c, if_neg (by decide)]
    rfl
  · rw [if_neg c, if_neg c, if_pos rfl]
    rfl
theorem mk_0 {n : Nat} {z : sg_M} {v : Int32} (h : gM_here n z = some (v, z)) (hr : ¬ v = 114) (h9 : z.1 9 = 0) : gM_takeClause n z = some (1, sg_s z 5 (z.1 6)) := by
  unfold gM_takeClause
  rw [h, Option.bind_some]
  simp only [pl_let, ob_eta]
  rw [if_neg hr]
  by_cases c : v = 119
  · rw [if_pos c, if_neg (show ¬ (1 : Int32) < 0 by decide), if_neg (show ¬ (1 : Int32) ≤ 0 by decide), if_pos h9]
    rfl
  · rw [if_neg c]
    by_cases c2 : v = 99
    · rw [if_pos c2, if_neg (show ¬ (2 : Int32) < 0 by decide), if_neg (show ¬ (2 : Int32) ≤ 0 by decide), if_pos h9]
      rfl
    · rw [if_neg c2, if_pos (show (-1 : Int32) < 0 by decide)]
      rfl
theorem mk_o {n : Nat} {z : sg_M} {v : Int32} (h : gM_here n z = some (v, z)) (hr : ¬ v = 114) (hw : ¬ v = 119) (hc : ¬ v = 99) : gM_takeClause n z = some (1, sg_s z 5 (z.1 6)) := by
  unfold gM_takeClause
  rw [h, Option.bind_some]
  simp only [pl_let, ob_eta]
  rw [if_neg hr, if_neg hw, if_neg hc, if_pos (show (-1 : Int32) < 0 by decide)]
  rfl
theorem ck_r {n : Nat} {z : sg_M} (h : gC_Reader_nextLetter n z = some (114, z)) (h3 : z.1 3 = 0) : gC_Reader_readClause n z = if z.1 6 ≤ 0 then (Option.bind (gC_Reader_readRow_1_3 n 2 20 60 (sg_s z 4 (z.1 4 + 1))) fun r5 => some (sg_s r5.2 6 r5.1)) else some (sg_s (sg_s z 3 3) 2 (z.1 4)) := by
  unfold gC_Reader_readClause
  rw [h, Option.bind_some]
  simp only [pl_let, ob_id, rC_fail0 h3]
  rw [if_pos trivial]
  unfold gC_Reader_isOneTooMany gC_Reader_readRest
  simp only [pl_let, ob_id]
  rw [if_pos trivial, if_pos trivial]
  by_cases c : z.1 6 ≤ 0
  · rw [if_pos c, if_pos c, Option.bind_some, if_pos rfl]
  · rw [if_neg c, if_neg c, Option.bind_some, if_neg (by decide)]
theorem ck_w {n : Nat} {z : sg_M} (h : gC_Reader_nextLetter n z = some (119, z)) (h3 : z.1 3 = 0) (h6 : ¬ z.1 6 = 0) (hb : sg_bool (z.1 5) = true) : gC_Reader_readClause n z = if z.1 5 = 0 then (Option.bind (gC_Reader_readRow_1_4 n 1 12 30 (sg_s z 4 (z.1 4 + 1))) fun r5 => some (sg_s (sg_s r5.2 7 r5.1) 5 1)) else some (sg_s (sg_s z 3 3) 2 (z.1 4)) := by
  unfold gC_Reader_readClause
  rw [h, Option.bind_some]
  simp only [pl_let, ob_id, rC_fail0 h3]
  rw [if_neg (show ¬ (119 : Int32) = 114 by decide), if_neg h6, if_pos trivial]
  unfold gC_Reader_isOneTooMany gC_Reader_readRest
  simp only [pl_let, ob_id]
  rw [if_neg (show ¬ (119 : Int32) = 114 by decide), if_pos trivial, if_neg (show ¬ (119 : Int32) = 114 by decide), if_pos trivial, if_pos hb, Option.bind_some]
theorem ck_c {n : Nat} {z : sg_M} (h : gC_Reader_nextLetter n z = some (99, z)) (h3 : z.1 3 = 0) (h6 : ¬ z.1 6 = 0) : gC_Reader_readClause n z = if z.1 8 < 8 then gC_Reader_readCart n (sg_s z 4 (z.1 4 + 1)) else some (sg_s (sg_s z 3 3) 2 (z.1 4)) := by
  unfold gC_Reader_readClause
  rw [h, Option.bind_some]
  simp only [pl_let, ob_id, rC_fail0 h3]
  rw [if_neg (show ¬ (99 : Int32) = 114 by decide), if_neg h6, if_neg (show ¬ (99 : Int32) = 119 by decide), if_pos trivial]
  unfold gC_Reader_isOneTooMany gC_Reader_readRest
  simp only [pl_let, ob_id]
  rw [if_neg (show ¬ (99 : Int32) = 114 by decide), if_neg (show ¬ (99 : Int32) = 119 by decide), if_neg (show ¬ (99 : Int32) = 114 by decide), if_neg (show ¬ (99 : Int32) = 119 by decide)]
  by_cases c : z.1 8 < 8
  · rw [if_pos c, if_pos c, Option.bind_some, if_pos rfl]
  · rw [if_neg c, if_neg c, Option.bind_some, if_neg (by decide)]
theorem ck_o {n : Nat} {z : sg_M} {v : Int32} (h : gC_Reader_nextLetter n z = some (v, z)) (h3 : z.1 3 = 0) (hr : ¬ v = 114) (ho : z.1 6 = 0 ∨ (¬ v = 119 ∧ ¬ v = 99)) : gC_Reader_readClause n z = some (sg_s (sg_s z 3 1) 2 (z.1 4)) := by
  unfold gC_Reader_readClause
  rw [h, Option.bind_some]
  simp only [pl_let, ob_id, rC_fail0 h3]
  rw [if_neg hr]
  by_cases c : z.1 6 = 0
  · rw [if_pos c]
  · obtain ⟨h1, h2⟩ := ho.resolve_left c
    rw [if_neg c, if_neg h1, if_neg h2]
theorem mr_eqR {len p : Nat} {zC zM : sg_M} (ht : rl_text len zC zM) (h4 : zC.1 4 = nI p) (h6 : zM.1 6 = nI p) (hp : p ≤ len) (h3 : zC.1 3 = 0) (h9 : zM.1 9 = 0) (n : Nat) (hn : 241 ≤ n) : gM_takeRoad n zM = mr_R n n (nI 0) zM := by
  obtain ⟨e, q, v, zC1, zM1, -, eM, -, -, -, -, -, r6, -⟩ := rM_intoR (j := 0) (by omega) ht h4 h6 hp h3 n n hn hn
  unfold gM_takeRoad mr_R
  rw [show gM_into_0_8 n 0 0 60 zM = gM_into_0_8 n (nI 0) 0 60 zM from rfl, eM]
  simp only [Option.bind_some, pl_let]
  rw [show (sg_w zM1 7 (nI 0) (zM1.1 7)).1 9 = zM1.1 9 from rfl, r6.1 9 (by omega), h9]
  rfl
theorem mr_eqW {len p : Nat} {zC zM : sg_M} (ht : rl_text len zC zM) (h4 : zC.1 4 = nI p) (h6 : zM.1 6 = nI p) (hp : p ≤ len) (h3 : zC.1 3 = 0) (h9 : zM.1 10 = 0) (n : Nat) (hn : 241 ≤ n) : gM_takeWeather n zM = mr_W n n (nI 0) zM := by
  obtain ⟨e, q, v, zC1, zM1, -, eM, -, -, -, -, -, r6, -⟩ := rM_intoW (j := 0) (by omega) ht h4 h6 hp h3 n n hn hn
  unfold gM_takeWeather mr_W
  rw [show gM_into_0_9 n 0 0 30 zM = gM_into_0_9 n (nI 0) 0 30 zM from rfl, eM]
  simp only [Option.bind_some, pl_let]
  rw [show (sg_w zM1 8 (nI 0) (zM1.1 7)).1 10 = zM1.1 10 from rfl, r6.1 10 (by omega), h9]
  rfl
theorem rp_clause {len p nc nk : Nat} {zC zM : sg_M} (ht : rl_text len zC zM) (h4 : zC.1 4 = nI p) (h6 : zM.1 6 = nI p) (hp : p < len) (hb : ¬ zC.2 5 p = 32) (h3 : zC.1 3 = 0) (h25 : zC.1 2 = zM.1 5) (hd : rp_dr nc nk zC zM) (n : Nat) (hn : 300 ≤ n) : ∃ zC' e zM', gC_Reader_readClause n zC = some zC' ∧ gM_takeClause n zM = some (nI e, zM') ∧ pf_C zC zC' ∧ pf_M zM zM' ∧ ((e = 0 ∧ ∃ nc' nk' q, p < q ∧ q ≤ len ∧ zC'.1 4 = nI q ∧ zM'.1 6 = nI q ∧ zC'.1 3 = 0 ∧ zC'.1 2 = zM'.1 5 ∧ rp_dr nc' nk' zC' zM') ∨ rp_bad e zC' zM') := by
  have hl := ht.1
  have eL := (ht.2.2.2 p hp).1
  have eN := rC_again hl ht.2.1 h4 (by omega) (Or.inr hb) n (by omega)
  have eH := rM_again hl ht.2.2.1 h6 (by omega) (Or.inr (by rw [← eL]; exact hb)) n (by omega)
  unfold sp_at at eN eH
  rw [if_pos hp] at eN eH
  rw [← eL] at eH
  generalize zC.2 5 p = v at eN eH
  obtain ⟨d1, d2, d3, d4, d5, d6, d7, d8, d9, d10⟩ := hd
  have bad : ∀ e : Nat, 1 ≤ e → e ≤ 3 → pf_C zC (sg_s (sg_s zC 3 (nI e)) 2 (zC.1 4)) ∧ pf_M zM (sg_s zM 5 (zM.1 6)) ∧ rp_bad e (sg_s (sg_s zC 3 (nI e)) 2 (zC.1 4)) (sg_s zM 5 (zM.1 6)) := by
    intro e h1 h2
    refine ⟨(pf_C.s _ 3 _ (by omega)).tr (pf_C.s _ 2 _ (by omega)), pf_M.s _ 5 _ (by omega), h1, h2, rfl, ?_⟩
    show zC.1 4 = zM.1 6
    rw [h4, h6]
  by_cases hr : v = 114
  · subst hr
    rw [ck_r eN h3, mk_r eH, d4, d5]
    by_cases c0 : nc = 0
    · subst c0
      rw [if_pos (show nI 0 ≤ 0 by decide), if_pos (show nI 0 ≤ 0 by decide), h4, h6, nI_1]
      have ht1 : rl_text len (sg_s zC 4 (nI (p + 1))) (sg_s zM 6 (nI (p + 1))) := nf_text (nf_C.s _ 4 _ (by omega)) (nf_M.s _ 6 _ (by omega)) ht
      have f9 : (sg_s zM 6 (nI (p + 1))).1 9 = 0 := by rw [ps_1, if_neg (by decide), d5]; rfl
      rw [mr_eqR ht1 (by rw [ps_1, if_pos rfl]) (by rw [ps_1, if_pos rfl]) (by omega) (by rw [ps_1, if_neg (by decide)]; exact h3) f9 n (by omega)]
      obtain ⟨w, zC', e, zM', o1, o2, o3, o4, o5⟩ := rp_rowR 20 0 n n n n (p + 1) (sg_s zC 4 (nI (p + 1))) (sg_s zM 6 (nI (p + 1))) (by omega) (by omega) (by omega) (by omega) (by omega) (by omega) ht1 (by rw [ps_1, if_pos rfl]) (by rw [ps_1, if_pos rfl]) (by omega) (by rw [ps_1, if_neg (by decide)]; exact h3) h25 f9 (fun x hx => by omega)
      unfold gC_Reader_readRow_1_3
      rw [show gC_Reader_readRow_1_3_L n 2 20 60 0 (sg_s zC 4 (nI (p + 1))) = some (w, zC') from o1, Option.bind_some, o2]
      refine ⟨_, e, zM', rfl, rfl, (pf_C.s _ 4 _ (by omega)).tr ((pf_C.r (by omega) o3).tr (pf_C.s _ 6 _ (by omega))), (pf_M.s _ 6 _ (by omega)).tr (pf_M.r (by omega) (by omega) o4), o5.imp (fun h => ?_) id⟩
      obtain ⟨a0, c, q, a1, a2, a3, a4, a5, a6, a7, a8, a9, a10, a11⟩ := h
      refine ⟨a0, c, 0, q, by omega, a8, a9, a10, a5, a6, by omega, by omega, fun h => rfl, ?_, a4, ?_, ?_, a11, fun c hc => by omega, ?_⟩
      · show (sg_s zC' 6 w).1 6 = _
        rw [ps_1, if_pos rfl, a3]
      · show (sg_s zC' 6 w).1 8 = _
        rw [ps_1, if_neg (by decide), o3.1 8 (by omega), ps_1, if_neg (by decide), d6, d3 rfl]
      · rw [o4.1 11 (by omega), ps_1, if_neg (by decide), d7, d3 rfl]
      · have e5 : (sg_s zC' 6 w).1 5 = zC.1 5 := by rw [ps_1, if_neg (by decide), o3.1 5 (by omega), ps_1, if_neg (by decide)]
        have e7 : (sg_s zC' 6 w).1 7 = zC.1 7 := by rw [ps_1, if_neg (by decide), o3.1 7 (by omega), ps_1, if_neg (by decide)]
        have e10 : zM'.1 10 = zM.1 10 := by rw [o4.1 10 (by omega), ps_1, if_neg (by decide)]
        have eA : (sg_s zC' 6 w).2 1 = zC.2 1 := by rw [ps_2, o3.2 1 (by omega), ps_2]
        have eB : zM'.2 8 = zM.2 8 := by rw [o4.2 8 (by omega), ps_2]
        unfold rr_eqsW
        rw [e5, e7, e10, eA, eB]
        exact d10
    · have n0 : ¬ nI nc ≤ 0 := fun h => by have := (pi_le (a := nc) (b := 0) (by omega) (by omega)).mp h; omega
      rw [if_neg n0, if_neg n0]
      obtain ⟨b1, b2, b3⟩ := bad 3 (by omega) (by omega)
      exact ⟨_, 3, _, rfl, rfl, b1, b2, Or.inr b3⟩
  · by_cases c0 : nc = 0
    · subst c0
      rw [ck_o eN h3 hr (Or.inl (by rw [d4]; rfl)), mk_0 eH hr (by rw [d5]; rfl)]
      obtain ⟨b1, b2, b3⟩ := bad 1 (by omega) (by omega)
      exact ⟨_, 1, _, rfl, rfl, b1, b2, Or.inr b3⟩
    · have n6 : ¬ zC.1 6 = 0 := by rw [d4]; exact nI_ne0 (by omega) (by omega)
      have n9 : ¬ zM.1 9 = 0 := by rw [d5]; exact nI_ne0 (by omega) (by omega)
      by_cases hw : v = 119
      · subst hw
        rcases d10 with ⟨w1, w2, w3, w4⟩ | ⟨w1, nw, w2, w3, w4, w5, w6⟩
        · rw [ck_w eN h3 n6 (by rw [w1]; decide), mk_w eH n9, if_pos w1, if_pos (show zM.1 10 ≤ 0 by rw [w2]; decide), h4, h6, nI_1]
          have ht1 : rl_text len (sg_s zC 4 (nI (p + 1))) (sg_s zM 6 (nI (p + 1))) := nf_text (nf_C.s _ 4 _ (by omega)) (nf_M.s _ 6 _ (by omega)) ht
          have f9 : (sg_s zM 6 (nI (p + 1))).1 10 = 0 := by rw [ps_1, if_neg (by decide), w2]
          rw [mr_eqW ht1 (by rw [ps_1, if_pos rfl]) (by rw [ps_1, if_pos rfl]) (by omega) (by rw [ps_1, if_neg (by decide)]; exact h3) f9 n (by omega)]
          obtain ⟨w, zC', e, zM', o1, o2, o3, o4, o5⟩ := rp_rowW 12 0 n n n n (p + 1) (sg_s zC 4 (nI (p + 1))) (sg_s zM 6 (nI (p + 1))) (by omega) (by omega) (by omega) (by omega) (by omega) (by omega) ht1 (by rw [ps_1, if_pos rfl]) (by rw [ps_1, if_pos rfl]) (by omega) (by rw [ps_1, if_neg (by decide)]; exact h3) h25 f9 (fun x hx => by omega)
          unfold gC_Reader_readRow_1_4
          rw [show gC_Reader_readRow_1_4_L n 1 12 30 0 (sg_s zC 4 (nI (p + 1))) = some (w, zC') from o1, Option.bind_some, o2]
          refine ⟨_, e, zM', rfl, rfl, (pf_C.s _ 4 _ (by omega)).tr ((pf_C.r (by omega) o3).tr ((pf_C.s _ 7 _ (by omega)).tr (pf_C.s _ 5 _ (by omega)))), (pf_M.s _ 6 _ (by omega)).tr (pf_M.r (by omega) (by omega) o4), o5.imp (fun h => ?_) id⟩
          obtain ⟨a0, c, q, a1, a2, a3, a4, a5, a6, a7, a8, a9, a10, a11⟩ := h
          have sC : ∀ k, (k = 6 ∨ k = 8) → (sg_s (sg_s zC' 7 w) 5 1).1 k = zC.1 k := fun k hk => by
            rw [ps_1, if_neg (by omega), ps_1, if_neg (by omega), o3.1 k (by omega), ps_1, if_neg (by omega)]
          have aC : ∀ a, a ≠ 1 → (sg_s (sg_s zC' 7 w) 5 1).2 a = zC.2 a := fun a ha => by rw [ps_2, ps_2, o3.2 a ha, ps_2]
          have aM : ∀ a, a ≠ 8 → zM'.2 a = zM.2 a := fun a ha => by rw [o4.2 a ha, ps_2]
          refine ⟨a0, nc, nk, q, by omega, a8, a9, a10, a5, a6, d1, d2, d3, ?_, ?_, ?_, ?_, ?_, ?_, Or.inr ⟨rfl, c, a1, a2, a4, ?_, a11⟩⟩
          · rw [sC 6 (by omega)]; exact d4
          · rw [o4.1 9 (by omega), ps_1, if_neg (by decide)]; exact d5
          · rw [sC 8 (by omega)]; exact d6
          · rw [o4.1 11 (by omega), ps_1, if_neg (by decide)]; exact d7
          · unfold rr_eqsR
            rw [aC 0 (by omega), aM 7 (by omega)]
            exact d8
          · rw [aC 2 (by omega), aC 3 (by omega), aC 4 (by omega), aM 9 (by omega), aM 10 (by omega), aM 11 (by omega)]
            exact d9
          · rw [ps_1, if_neg (by decide), ps_1, if_pos rfl, a3]
        · rw [ck_w eN h3 n6 (by rw [w1]; decide), mk_w eH n9, if_neg (show ¬ zC.1 5 = 0 by rw [w1]; decide), if_neg (show ¬ zM.1 10 ≤ 0 by rw [w4]; exact fun h => by have := (pi_le (a := nw) (b := 0) (by omega) (by omega)).mp h; omega)]
          obtain ⟨b1, b2, b3⟩ := bad 3 (by omega) (by omega)
          exact ⟨_, 3, _, rfl, rfl, b1, b2, Or.inr b3⟩
      · by_cases hc : v = 99
        · subst hc
          rw [ck_c eN h3 n6, mk_c eH n9, d6, d7]
          by_cases ck : nk < 8
          · rw [if_pos (show nI nk < 8 from (pi_lt (b := 8) (by omega) (by omega)).mpr ck), if_neg (show ¬ nI nk = 8 from fun h => by have := (pi_eq (b := 8) (by omega) (by omega)).mp h; omega), h4, h6, nI_1]
            have ht1 : rl_text len (sg_s zC 4 (nI (p + 1))) (sg_s zM 6 (nI (p + 1))) := nf_text (nf_C.s _ 4 _ (by omega)) (nf_M.s _ 6 _ (by omega)) ht
            obtain ⟨zC', e, zM', o1, o2, o3, o4, o5⟩ := rp_cart ck ht1 (p := p + 1) (by rw [ps_1, if_pos rfl]) (by rw [ps_1, if_pos rfl]) (by omega) (by rw [ps_1, if_neg (by decide)]; exact h3) h25 (by rw [ps_1, if_neg (by decide)]; exact d6) (by rw [ps_1, if_neg (by decide)]; exact d7) n (by omega)
            rw [o1, o2]
            refine ⟨_, e, zM', rfl, rfl, (pf_C.s _ 4 _ (by omega)).tr o3, (pf_M.s _ 6 _ (by omega)).tr o4, o5.imp (fun h => ?_) id⟩
            obtain ⟨a0, q, a1, a2, a3, a4, a5, a6, a7, a8, a9, a10, a11, a12, v1, v2, v3, u1, u2, u3, u4, u5, u6, u7, u8, u9⟩ := h
            refine ⟨a0, nc, nk + 1, q, by omega, a6, a7, a8, a3, a4, d1, by omega, fun h => absurd h c0, ?_, ?_, a1, a2, ?_, ?_, ?_⟩
            · rw [a9 6 (by omega), ps_1, if_neg (by decide)]; exact d4
            · rw [a10 9 (by omega), ps_1, if_neg (by decide)]; exact d5
            · unfold rr_eqsR
              rw [a11 0 (by omega), a12 7 (by omega)]
              exact d8
            · intro c hc
              rw [u4, u5, u6, u7, u8, u9]
              simp only [pu_at]
              by_cases hcn : c = nk
              · simp only [if_pos hcn]
                exact ⟨trivial, trivial, trivial, ⟨v2, u1, u2, rfl⟩, v3, u3, rfl⟩
              · simp only [if_neg hcn]
                exact d9 c (by omega)
            · have e5 : zC'.1 5 = zC.1 5 := by rw [a9 5 (by omega), ps_1, if_neg (by decide)]
              have e7 : zC'.1 7 = zC.1 7 := by rw [a9 7 (by omega), ps_1, if_neg (by decide)]
              have e10 : zM'.1 10 = zM.1 10 := by rw [a10 10 (by omega), ps_1, if_neg (by decide)]
              have eA : zC'.2 1 = zC.2 1 := by rw [a11 1 (by omega), ps_2]
              have eB : zM'.2 8 = zM.2 8 := by rw [a12 8 (by omega), ps_2]
              unfold rr_eqsW
              rw [e5, e7, e10, eA, eB]
              exact d10
          · rw [if_neg (show ¬ nI nk < 8 from fun h => ck ((pi_lt (b := 8) (by omega) (by omega)).mp h)), if_pos (show nI nk = 8 by rw [show nk = 8 by omega]; rfl)]
            obtain ⟨b1, b2, b3⟩ := bad 3 (by omega) (by omega)
            exact ⟨_, 3, _, rfl, rfl, b1, b2, Or.inr b3⟩
        · rw [ck_o eN h3 hr (Or.inr ⟨hw, hc⟩), mk_o eH hr hw hc]
          obtain ⟨b1, b2, b3⟩ := bad 1 (by omega) (by omega)
          exact ⟨_, 1, _, rfl, rfl, b1, b2, Or.inr b3⟩
