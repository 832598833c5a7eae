/-! what is done -/
theorem st_feed {tb : Nat} {zC zM : sg_M} (h : Rl tb zC zM) (a : Int32) : ∃ v zC' zM', gC_feed a zC = some (v, zC') ∧ gM_feed a zM = some (v, zM') ∧ Rl tb zC' zM' := by
  have hR := h
  obtain ⟨nc, nk, nu, nx, nh, nb, len, r1, r2, r3, r4, r5, r6, r7, r8, r9⟩ := h
  obtain ⟨t1, t2, t3, t4⟩ := r7
  unfold gC_feed gM_feed
  rw [pi_i64_0, show (255 : Int64) = (255 : Int32).toInt64 by decide]
  rcases pi_ginN a 0 255 with ⟨g1, g2⟩ | ⟨g1, g2, g3⟩
  · rw [if_pos g1]
    rcases g2 with g2 | ⟨g2, g3⟩
    · rw [if_pos g2]; exact ⟨_, _, _, rfl, rfl, hR⟩
    · rw [if_neg g2, if_neg g3]; exact ⟨_, _, _, rfl, rfl, hR⟩
  · rw [if_neg (pi_n10 g1), if_neg g2, if_pos g3]
    obtain ⟨g, hg, rfl⟩ := pi_upto (N := 255) (by omega) g2 g3
    by_cases c : len = 240
    · rw [if_neg (show ¬ zC.1 1 < 240 by rw [t2, c]; decide), if_pos (show zM.1 4 = 240 by rw [t3, c]; rfl)]
      exact ⟨_, _, _, rfl, rfl, hR⟩
    · have c1 : zC.1 1 < 240 := by rw [t2]; exact (pi_lt (b := 240) (by omega) (by omega)).mpr (by omega)
      have c2 : ¬ zM.1 4 = 240 := by rw [t3]; exact fun h => c ((pi_eq (b := 240) (by omega) (by omega)).mp h)
      have c3 : ¬ (240 : Int32) ≤ zC.1 1 := Int32.not_le.mpr c1
      unfold gC_Reader_append
      rw [if_pos c1, if_neg c2, if_neg c3, t2, t3, pi_in (j := len) (n := 240) (by omega) (by omega)]
      simp only [if_true, pl_let, Option.bind_some]
      rw [show (sg_w zC 5 (nI len) (nI g)).1 1 = nI len from t2, show (sg_w zM 6 (nI len) (nI g)).1 4 = nI len from t3, nI_1]
      refine ⟨nI (len + 1), _, _, rfl, rfl, nc, nk, nu, nx, nh, nb, len + 1, ?_, ?_, ?_, ?_, ?_, ?_, ⟨by omega, rfl, rfl, fun i hi => ?_⟩, ?_, ?_⟩
      · exact cg_road (fun k hk => by rw [ps_1, if_neg (by omega)]; rfl) (fun b hb => by rw [ps_2, pw_2, if_neg (by omega)]) (fun k hk => by rw [ps_1, if_neg (by omega)]; rfl) (fun b hb => by rw [ps_2, pw_2, if_neg (by omega)]) r1
      · exact cg_now (fun k hk => by rw [ps_1, if_neg (by omega)]; rfl) (fun b hb => by rw [ps_2, pw_2, if_neg (by omega)]) (by rw [ps_2, pw_2, if_neg (by omega)]) r2
      · exact cg_undo (fun k hk => by rw [ps_1, if_neg (by omega)]; rfl) (by rw [ps_2, pw_2, if_neg (by omega)]) rfl (by rw [ps_2, pw_2, if_neg (by omega)]) r3
      · exact cg_heard rfl (fun b hb => by rw [ps_2, pw_2, if_neg (by omega)]) rfl (fun b hb => by rw [ps_2, pw_2, if_neg (by omega)]) r4
      · exact cg_book rfl (fun b hb => by rw [ps_2, pw_2, if_neg (by omega)]) rfl (fun b hb => by rw [ps_2, pw_2, if_neg (by omega)]) r5
      · exact cg_img ⟨r1.1, r1.2.1⟩ (fun k _ => by rw [ps_2, pw_2, if_neg (by omega)]) (fun b hb => by rw [ps_2, pw_2, if_neg (by omega)]) (fun b hb => by rw [ps_2, pw_2, if_neg (by omega)]) r6
      · rw [ps_2, ps_2, pw_2, pw_2, if_pos rfl, if_pos rfl, pi_cl (by omega), pu_at, pu_at]
        by_cases e : i = len
        · rw [if_pos e, if_pos e]; exact ⟨rfl, g, hg, rfl⟩
        · rw [if_neg e, if_neg e]; exact t4 i (by omega)
      · exact r8
      · exact r9
theorem st_road {tb : Nat} (htb : tb ≤ 100000) {zC zM : sg_M} (h : Rl tb zC zM) (n : Nat) (hn : 200000 ≤ n) : ∃ v zC' zM', gC_road n zC = some (v, zC') ∧ gM_road n zM = some (v, zM') ∧ Rl tb zC' zM' := by
  obtain ⟨nc, nk, nu, nx, nh, nb, len, r1, r2, r3, r4, r5, r6, r7, r8, r9⟩ := h
  obtain ⟨v, zC', zM', e1, e2, e3, e4, e5⟩ := rr_road r7 n (by omega)
  refine ⟨v, zC', zM', e1, e2, ?_⟩
  rcases e5 with ⟨fC, fM⟩ | ⟨nc', nk', f1, f2, f3, f4, f5, f6, f7, f8, f9, f10, f11, f12⟩
  · refine ⟨nc, nk, nu, nx, nh, nb, 0, ?_, ?_, ?_, ?_, ?_, ?_, e4, e3, ?_⟩
    · exact cg_road (fun k hk => fC.1 k (by omega)) (fun b hb => fC.2 b (by omega)) (fun k hk => fM.1 k (by omega)) (fun b hb => fM.2 b (by omega)) r1
    · exact cg_now (fun k hk => fC.1 k (by omega)) (fun b hb => fC.2 b (by omega)) (fM.2 5 (by omega)) r2
    · exact cg_undo (fun k hk => fC.1 k (by omega)) (fC.2 26 (by omega)) (fM.1 12 (by omega)) (fM.2 12 (by omega)) r3
    · exact cg_heard (fC.1 19 (by omega)) (fun b hb => fC.2 b (by omega)) (fM.1 13 (by omega)) (fun b hb => fM.2 b (by omega)) r4
    · exact cg_book (fC.1 20 (by omega)) (fun b hb => fC.2 b (by omega)) (fM.1 14 (by omega)) (fun b hb => fM.2 b (by omega)) r5
    · exact cg_img ⟨r1.1, r1.2.1⟩ (fun k _ => by rw [fC.2 26 (by omega)]) (fun b hb => fC.2 b (by omega)) (fun b hb => fM.2 b (by omega)) r6
    · exact cg_seed (fC.1 0 (by omega)) (fM.1 3 (by omega)) r9
  · refine ⟨nc', nk', 0, nx, 0, 0, 0, f1, f2 tb htb, ⟨by omega, r3.2.1, f3, f4, ?_, fun j hj => by omega⟩, ⟨by omega, f6, f7, fun j hj => by omega⟩, ⟨by omega, f8, f9, fun j hj => by omega⟩, fun i hi => ?_, e4, e3, cg_seed f11 f12 r9⟩
    · rw [f5]; exact r3.2.2.2.2.1
    · rw [(f10 i hi).1, (f10 i hi).2]
      exact ⟨rfl, Or.inl rfl⟩
theorem st_seed {tb : Nat} {zC zM : sg_M} (h : Rl tb zC zM) (a : Int32) : ∃ v zC' zM', gC_seed a zC = some (v, zC') ∧ gM_seed a zM = some (v, zM') ∧ Rl tb zC' zM' := by
  have hR := h
  obtain ⟨nc, nk, nu, nx, nh, nb, len, r1, r2, r3, r4, r5, r6, r7, r8, s, hs, s1, s2⟩ := h
  unfold gC_seed gM_seed
  by_cases c : (0 : Int32) ≤ a
  · rw [if_pos c, if_pos c]
    simp only [pl_let]
    rw [s1, s2]
    have e0 : (0 : Int32).toInt = 0 := by decide
    have ha : a = nI a.toInt.toNat := pi_of (by rw [pi_leT, e0] at c; omega)
    have hb := pi_rng a
    refine ⟨nI s, _, _, rfl, rfl, nc, nk, nu, nx, nh, nb, len, r1, r2, r3, r4, r5, r6, r7, r8, a.toInt.toNat, by omega, ha, ha⟩
  · rw [if_neg c, if_neg c]; exact ⟨_, _, _, rfl, rfl, hR⟩
theorem st_tear {tb : Nat} {zC zM : sg_M} (h : Rl tb zC zM) : ∃ v zC' zM', gC_tear zC = some (v, zC') ∧ gM_tear zM = some (v, zM') ∧ Rl tb zC' zM' := by
  obtain ⟨nc, nk, nu, nx, nh, nb, len, r1, r2, r3, r4, r5, r6, r7, r8, r9⟩ := h
  unfold gC_tear gM_tear
  simp only [pl_let]
  rw [r4.2.1, r4.2.2.1, r5.2.1, r5.2.2.1]
  exact ⟨_, _, _, rfl, rfl, nc, nk, nu, nx, 0, 0, len, r1, r2, r3, ⟨by omega, rfl, rfl, fun k hk => by omega⟩, ⟨by omega, rfl, rfl, fun k hk => by omega⟩, r6, r7, r8, r9⟩
theorem st_hear {tb : Nat} {zC zM : sg_M} (h : Rl tb zC zM) (a b : Int32) : ∃ v zC' zM', gC_hear a b zC = some (v, zC') ∧ gM_hear a b zM = some (v, zM') ∧ Rl tb zC' zM' := by
  have hR := h
  obtain ⟨nc, nk, nu, nx, nh, nb, len, r1, r2, r3, r4, r5, r6, r7, r8, r9⟩ := h
  unfold gC_hear gM_hear
  rcases rr_cart r1 a with ⟨p, q⟩ | ⟨c, hc, rfl, p, q⟩
  · rw [if_pos p, if_pos q]; exact ⟨_, _, _, rfl, rfl, hR⟩
  · rw [if_neg (pi_n10 p), if_neg (pi_n10 q)]
    obtain ⟨t1, t2, t3, t4⟩ := r4
    have core : ∃ v zC' zM', (if (gC_Entries_isFull_30 zC) = (0 : Int32) then (Option.bind (gC_Entries_append_30 (nI c) b zC) fun r1 => some (r1.1 19, r1)) else (some ((-1000000004 : Int32), zC))) = some (v, zC') ∧ (if (zM.1 13) = (6 : Int32) then (some ((-1000000004 : Int32), zM)) else (if sg_in (zM.1 13) 6 = true then sg_let (sg_w zM 14 (zM.1 13) (nI c)) fun z1 => if sg_in (z1.1 13) 6 = true then sg_let (sg_w z1 15 (z1.1 13) b) fun z2 => sg_let (sg_s z2 13 ((z2.1 13) + (1 : Int32))) fun z3 => some (z3.1 13, z3) else none else none)) = some (v, zM') ∧ Rl tb zC' zM' := by
      by_cases c6 : nh = 6
      · have e1 : gC_Entries_isFull_30 zC = 1 := by
          unfold gC_Entries_isFull_30
          rw [t2, c6, if_neg (by decide)]
        rw [if_neg (pi_n10 e1), if_pos (show zM.1 13 = 6 by rw [t3, c6]; rfl)]
        exact ⟨_, _, _, rfl, rfl, hR⟩
      · have e1 : gC_Entries_isFull_30 zC = 0 := by
          unfold gC_Entries_isFull_30
          rw [t2, if_pos (show nI nh < 6 from (pi_lt (b := 6) (by omega) (by omega)).mpr (by omega))]
        unfold gC_Entries_append_30
        rw [if_pos e1, if_pos e1, if_neg (show ¬ zM.1 13 = 6 by rw [t3]; exact fun h => c6 ((pi_eq (b := 6) (by omega) (by omega)).mp h)), t2, t3, pi_in (j := nh) (n := 6) (by omega) (by omega)]
        simp only [if_true, pl_let]
        rw [show (sg_w zC 20 (nI nh) (nI c)).1 19 = nI nh from t2, show (sg_w zM 14 (nI nh) (nI c)).1 13 = nI nh from t3, pi_in (j := nh) (n := 6) (by omega) (by omega)]
        simp only [if_true, Option.bind_some]
        rw [show (sg_w (sg_w zC 20 (nI nh) (nI c)) 21 (nI nh) b).1 19 = nI nh from t2, show (sg_w (sg_w zM 14 (nI nh) (nI c)) 15 (nI nh) b).1 13 = nI nh from t3, nI_1]
        refine ⟨nI (nh + 1), _, _, rfl, rfl, nc, nk, nu, nx, nh + 1, nb, len, ?_, ?_, ?_, ⟨by omega, rfl, rfl, fun k hk => ?_⟩, ?_, ?_, ?_, r8, r9⟩
        · exact cg_road (fun k hk => by rw [ps_1, if_neg (by omega)]; rfl) (fun b hb => by rw [ps_2, pw_2, if_neg (by omega), pw_2, if_neg (by omega)]) (fun k hk => by rw [ps_1, if_neg (by omega)]; rfl) (fun b hb => by rw [ps_2, pw_2, if_neg (by omega), pw_2, if_neg (by omega)]) r1
        · exact cg_now (fun k hk => by rw [ps_1, if_neg (by omega)]; rfl) (fun b hb => by rw [ps_2, pw_2, if_neg (by omega), pw_2, if_neg (by omega)]) rfl r2
        · exact cg_undo (fun k hk => by rw [ps_1, if_neg (by omega), pw_1, pw_1]) rfl rfl rfl r3
        · have e20 : (sg_s (sg_w (sg_w zC 20 (nI nh) (nI c)) 21 (nI nh) b) 19 (nI (nh + 1))).2 20 k = if k = nh then nI c else zC.2 20 k := by
            rw [ps_2, pw_2, if_neg (by decide), pw_2, if_pos rfl, pi_cl (by omega)]; rfl
          have e21 : (sg_s (sg_w (sg_w zC 20 (nI nh) (nI c)) 21 (nI nh) b) 19 (nI (nh + 1))).2 21 k = if k = nh then b else zC.2 21 k := by
            rw [ps_2, pw_2, if_pos rfl, pi_cl (by omega)]; rfl
          have e14 : (sg_s (sg_w (sg_w zM 14 (nI nh) (nI c)) 15 (nI nh) b) 13 (nI (nh + 1))).2 14 k = if k = nh then nI c else zM.2 14 k := by
            rw [ps_2, pw_2, if_neg (by decide), pw_2, if_pos rfl, pi_cl (by omega)]; rfl
          have e15 : (sg_s (sg_w (sg_w zM 14 (nI nh) (nI c)) 15 (nI nh) b) 13 (nI (nh + 1))).2 15 k = if k = nh then b else zM.2 15 k := by
            rw [ps_2, pw_2, if_pos rfl, pi_cl (by omega)]; rfl
          rw [e20, e21, e14, e15]
          by_cases e : k = nh
          · rw [if_pos e, if_pos e, if_pos e, if_pos e]; exact ⟨rfl, rfl, c, hc, rfl⟩
          · rw [if_neg e, if_neg e, if_neg e, if_neg e]; exact t4 k (by omega)
        · exact cg_book rfl (fun b hb => by rw [ps_2, pw_2, if_neg (by omega), pw_2, if_neg (by omega)]) rfl (fun b hb => by rw [ps_2, pw_2, if_neg (by omega), pw_2, if_neg (by omega)]) r5
        · exact cg_img ⟨r1.1, r1.2.1⟩ (fun k _ => rfl) (fun b hb => by rw [ps_2, pw_2, if_neg (by omega), pw_2, if_neg (by omega)]) (fun b hb => by rw [ps_2, pw_2, if_neg (by omega), pw_2, if_neg (by omega)]) r6
        · exact cg_text rfl rfl rfl rfl r7
    by_cases cb : b = -1
    · rw [if_pos cb, if_pos cb]; exact core
    · rw [if_neg cb, if_neg cb]
      rcases rr_cell r1 b with ⟨p, q⟩ | ⟨x, hx, hx2, p, q⟩
      · rw [if_pos p, if_pos q]; exact ⟨_, _, _, rfl, rfl, hR⟩
      · rw [if_neg (pi_n10 p), if_neg (pi_n10 q)]; exact core
theorem st_write {tb : Nat} {zC zM : sg_M} (h : Rl tb zC zM) (a b : Int32) : ∃ v zC' zM', gC_write a b zC = some (v, zC') ∧ gM_write a b zM = some (v, zM') ∧ Rl tb zC' zM' := by
  have hR := h
  obtain ⟨nc, nk, nu, nx, nh, nb, len, r1, r2, r3, r4, r5, r6, r7, r8, r9⟩ := h
  unfold gC_write gM_write
  rcases rr_cell r1 a with ⟨p, q⟩ | ⟨c, hc, rfl, p, q⟩
  · rw [if_pos p, if_pos q]; exact ⟨_, _, _, rfl, rfl, hR⟩
  · rw [if_neg (pi_n10 p), if_neg (pi_n10 q), show (-1 : Int64) = (-1 : Int32).toInt64 by decide, show (9999 : Int64) = (9999 : Int32).toInt64 by decide]
    rcases pi_ginN b (-1) 9999 with ⟨g1, g2⟩ | ⟨g1, g2, g3⟩
    · rw [if_pos g1]
      rcases g2 with g2 | ⟨g2, g3⟩
      · rw [if_pos g2]; exact ⟨_, _, _, rfl, rfl, hR⟩
      · rw [if_neg g2, if_neg g3]; exact ⟨_, _, _, rfl, rfl, hR⟩
    · rw [if_neg (pi_n10 g1), if_neg g2, if_pos g3]
      obtain ⟨t1, t2, t3, t4⟩ := r5
      by_cases c6 : nb = 15
      · have e1 : gC_Entries_isFull_33 zC = 1 := by
          unfold gC_Entries_isFull_33
          rw [t2, c6, if_neg (by decide)]
        rw [if_neg (pi_n10 e1), if_pos (show zM.1 14 = 15 by rw [t3, c6]; rfl)]
        exact ⟨_, _, _, rfl, rfl, hR⟩
      · have e1 : gC_Entries_isFull_33 zC = 0 := by
          unfold gC_Entries_isFull_33
          rw [t2, if_pos (show nI nb < 15 from (pi_lt (b := 15) (by omega) (by omega)).mpr (by omega))]
        unfold gC_Entries_append_33
        rw [if_pos e1, if_pos e1, if_neg (show ¬ zM.1 14 = 15 by rw [t3]; exact fun h => c6 ((pi_eq (b := 15) (by omega) (by omega)).mp h)), t2, t3, pi_in (j := nb) (n := 15) (by omega) (by omega)]
        simp only [if_true, pl_let]
        rw [show (sg_w zC 22 (nI nb) (nI c)).1 20 = nI nb from t2, show (sg_w zM 17 (nI nb) (nI c)).1 14 = nI nb from t3, pi_in (j := nb) (n := 15) (by omega) (by omega)]
        simp only [if_true, Option.bind_some]
        rw [show (sg_w (sg_w zC 22 (nI nb) (nI c)) 23 (nI nb) b).1 20 = nI nb from t2, show (sg_w (sg_w zM 17 (nI nb) (nI c)) 18 (nI nb) b).1 14 = nI nb from t3, nI_1]
        refine ⟨nI (nb + 1), _, _, rfl, rfl, nc, nk, nu, nx, nh, nb + 1, len, ?_, ?_, ?_, ?_, ⟨by omega, rfl, rfl, fun k hk => ?_⟩, ?_, ?_, r8, r9⟩
        · exact cg_road (fun k hk => by rw [ps_1, if_neg (by omega)]; rfl) (fun b hb => by rw [ps_2, pw_2, if_neg (by omega), pw_2, if_neg (by omega)]) (fun k hk => by rw [ps_1, if_neg (by omega)]; rfl) (fun b hb => by rw [ps_2, pw_2, if_neg (by omega), pw_2, if_neg (by omega)]) r1
        · exact cg_now (fun k hk => by rw [ps_1, if_neg (by omega)]; rfl) (fun b hb => by rw [ps_2, pw_2, if_neg (by omega), pw_2, if_neg (by omega)]) rfl r2
        · exact cg_undo (fun k hk => by rw [ps_1, if_neg (by omega), pw_1, pw_1]) rfl rfl rfl r3
        · exact cg_heard rfl (fun b hb => by rw [ps_2, pw_2, if_neg (by omega), pw_2, if_neg (by omega)]) rfl (fun b hb => by rw [ps_2, pw_2, if_neg (by omega), pw_2, if_neg (by omega)]) r4
        · have e20 : (sg_s (sg_w (sg_w zC 22 (nI nb) (nI c)) 23 (nI nb) b) 20 (nI (nb + 1))).2 22 k = if k = nb then nI c else zC.2 22 k := by
            rw [ps_2, pw_2, if_neg (by decide), pw_2, if_pos rfl, pi_cl (by omega)]; rfl
          have e21 : (sg_s (sg_w (sg_w zC 22 (nI nb) (nI c)) 23 (nI nb) b) 20 (nI (nb + 1))).2 23 k = if k = nb then b else zC.2 23 k := by
            rw [ps_2, pw_2, if_pos rfl, pi_cl (by omega)]; rfl
          have e14 : (sg_s (sg_w (sg_w zM 17 (nI nb) (nI c)) 18 (nI nb) b) 14 (nI (nb + 1))).2 17 k = if k = nb then nI c else zM.2 17 k := by
            rw [ps_2, pw_2, if_neg (by decide), pw_2, if_pos rfl, pi_cl (by omega)]; rfl
          have e15 : (sg_s (sg_w (sg_w zM 17 (nI nb) (nI c)) 18 (nI nb) b) 14 (nI (nb + 1))).2 18 k = if k = nb then b else zM.2 18 k := by
            rw [ps_2, pw_2, if_pos rfl, pi_cl (by omega)]; rfl
          rw [e20, e21, e14, e15]
          by_cases e : k = nb
          · rw [if_pos e, if_pos e, if_pos e, if_pos e]; exact ⟨rfl, rfl, c, hc, rfl⟩
          · rw [if_neg e, if_neg e, if_neg e, if_neg e]; exact t4 k (by omega)
        · exact cg_img ⟨r1.1, r1.2.1⟩ (fun k _ => rfl) (fun b hb => by rw [ps_2, pw_2, if_neg (by omega), pw_2, if_neg (by omega)]) (fun b hb => by rw [ps_2, pw_2, if_neg (by omega), pw_2, if_neg (by omega)]) r6
        · exact cg_text rfl rfl rfl rfl r7
theorem st_undo {tb : Nat} {zC zM : sg_M} (h : Rl tb zC zM) (n : Nat) (hn : 200000 ≤ n) : ∃ v zC' zM', gC_undo zC = some (v, zC') ∧ gM_undo n zM = some (v, zM') ∧ Rl tb zC' zM' := by
  have hR := h
  obtain ⟨nc, nk, nu, nx, nh, nb, len, r1, r2, r3, r4, r5, r6, r7, r8, r9⟩ := h
  by_cases c : nu = 0
  · unfold gC_undo gM_undo
    rw [if_pos (show zC.1 24 = 0 by rw [r3.2.2.1, c]; rfl), if_pos (show zM.1 12 = 0 by rw [r3.2.2.2.1, c]; rfl)]
    exact ⟨_, _, _, rfl, rfl, hR⟩
  · obtain ⟨q, rfl⟩ : ∃ q, nu = q + 1 := ⟨nu - 1, by omega⟩
    obtain ⟨nx', zC', zM', e1, e2, e3, e4, c1, c2, m1, m2⟩ := rr_undo ⟨r1.1, r1.2.1⟩ r3 n (by omega)
    refine ⟨_, zC', zM', e1, e2, nc, nk, q, nx', nh, nb, len, ?_, e3, e4, ?_, ?_, ?_, ?_, ?_, ?_⟩
    · exact cg_road (fun k hk => c1 k (by omega)) (fun b hb => c2 b (by omega)) (fun k hk => m1 k (by omega)) (fun b hb => m2 b (by omega)) r1
    · exact cg_heard (c1 19 (by omega)) (fun b hb => c2 b (by omega)) (m1 13 (by omega)) (fun b hb => m2 b (by omega)) r4
    · exact cg_book (c1 20 (by omega)) (fun b hb => c2 b (by omega)) (m1 14 (by omega)) (fun b hb => m2 b (by omega)) r5
    · exact cg_img ⟨r1.1, r1.2.1⟩ (fun k _ => by rw [c2 26 (by omega)]) (fun b hb => c2 b (by omega)) (fun b hb => m2 b (by omega)) r6
    · exact cg_text (c1 1 (by omega)) (c2 5 (by omega)) (m1 4 (by omega)) (m2 6 (by omega)) r7
    · rw [c1 2 (by omega), m1 5 (by omega)]; exact r8
    · exact cg_seed (c1 0 (by omega)) (m1 3 (by omega)) r9
theorem pi_room (a : Int32) : (gC_Memory_hasRoomFor a = 0 ∧ gM_in a.toInt64 0 1 = 0) ∨ ∃ i, i < 2 ∧ a = nI i ∧ gC_Memory_hasRoomFor a = 1 ∧ gM_in a.toInt64 0 1 = 1 := by
  unfold gC_Memory_hasRoomFor
  rw [pi_i64_0, show (1 : Int64) = (1 : Int32).toInt64 by decide]
  rcases pi_ginN a 0 1 with ⟨g1, g2⟩ | ⟨g1, g2, g3⟩
  · left
    refine ⟨?_, g1⟩
    rcases g2 with g2 | ⟨g2, g3⟩
    · rw [if_pos g2]
    · rw [if_neg g2, if_pos ?_]
      have e1 : (1 : Int32).toInt = 1 := by decide
      have e2 : (2 : Int32).toInt = 2 := by decide
      rw [pi_leT, e1] at g3
      rw [pi_leT, e2]
      omega
  · right
    obtain ⟨k, hk, rfl⟩ := pi_upto (N := 1) (by omega) g2 g3
    refine ⟨k, by omega, rfl, ?_, g1⟩
    rw [if_neg g2, if_neg (fun h => by have := (pi_le (a := 2) (b := k) (by omega) (by omega)).mp h; omega)]
theorem st_keep {tb : Nat} {zC zM : sg_M} (h : Rl tb zC zM) (a : Int32) (n : Nat) (hn : 200000 ≤ n) : ∃ v zC' zM', gC_keep a zC = some (v, zC') ∧ gM_keep n a zM = some (v, zM') ∧ Rl tb zC' zM' := by
  have hR := h
  obtain ⟨nc, nk, nu, nx, nh, nb, len, r1, r2, r3, r4, r5, r6, r7, r8, r9⟩ := h
  unfold gC_keep gM_keep
  rcases pi_room a with ⟨p, q⟩ | ⟨i, hi, rfl, p, q⟩
  · rw [if_pos p, if_pos q]; exact ⟨_, _, _, rfl, rfl, hR⟩
  · rw [if_neg (pi_n10 p), if_neg (pi_n10 q)]
    obtain ⟨z1, c1, c2, c3, c4, cd, cs, c11, c12, c13, c14, c15, c16, c17⟩ := rC_copyTo zC (s := 16 + i) (by omega)
    have e1 : gC_Memory_keepImage (nI i) (zC.1 0) zC = some (sg_w (sg_w z1 28 (nI i) (zC.1 0)) 27 (nI i) 1) := by
      unfold gC_Memory_keepImage
      rw [if_neg (pi_n10 p), show ((16 : Int32) + nI i) * 106 = nI (106 * (16 + i)) by
        rw [show (16 : Int32) + nI i = nI (16 + i) from nI_add 16 i, show nI (16 + i) * 106 = nI ((16 + i) * 106) from pk_mul _ 106, Nat.mul_comm], c1, Option.bind_some, pi_in (j := i) (n := 2) hi (by omega)]
      rfl
    rw [e1, Option.bind_some, pl_let]
    obtain ⟨zM', m1, m2, m3, m4, m5, m6, m7, m8, m9⟩ := rM_keepL hi 106 0 n zM (by omega) (by omega)
    rw [show gM_keep_L n (nI i) 0 zM = some (1, zM') from m1]
    have k1 := pi_cl (j := i) (by omega)
    obtain ⟨zC', ezC⟩ : ∃ y, y = sg_s (sg_w (sg_w z1 28 (nI i) (zC.1 0)) 27 (nI i) 1) 24 0 := ⟨_, rfl⟩
    rw [← ezC]
    have s1 : ∀ k, k ≠ 24 → zC'.1 k = zC.1 k := fun k hk => by rw [ezC, ps_1, if_neg hk, pw_1, pw_1, c2]
    have s2 : ∀ b, b < 26 → zC'.2 b = zC.2 b := fun b hb => by rw [ezC, ps_2, pw_2, if_neg (by omega), pw_2, if_neg (by omega), c3 b (by omega)]
    have s26 : zC'.2 26 = z1.2 26 := by rw [ezC, ps_2, pw_2, if_neg (by omega), pw_2, if_neg (by omega)]
    refine ⟨1, zC', zM', rfl, rfl, nc, nk, 0, nx, nh, nb, len, ?_, ?_, ⟨by omega, r3.2.1, ?_, m2, ?_, fun j hj => by omega⟩, ?_, ?_, fun q hq => ?_, ?_, ?_, ?_⟩
    · exact cg_road (fun k hk => s1 k (by omega)) (fun b hb => s2 b (by omega)) (fun k hk => m3 k (by omega)) (fun b hb => m4 b (by omega) (by omega)) r1
    · exact cg_now (fun k hk => s1 k (by omega)) (fun b hb => s2 b (by omega)) (m4 5 (by omega) (by omega)) r2
    · rw [ezC]; rfl
    · rw [s1 25 (by omega)]; exact r3.2.2.2.2.1
    · exact cg_heard (s1 19 (by omega)) (fun b hb => s2 b (by omega)) (m3 13 (by omega)) (fun b hb => m4 b (by omega) (by omega)) r4
    · exact cg_book (s1 20 (by omega)) (fun b hb => s2 b (by omega)) (m3 14 (by omega)) (fun b hb => m4 b (by omega) (by omega)) r5
    · have e27 : zC'.2 27 q = if q = i then 1 else zC.2 27 q := by
        rw [ezC, ps_2, pw_2, if_pos rfl, k1, pu_at, pw_2, if_neg (show ¬ (27 : Nat) = 28 by decide), c3 27 (by omega)]
      have e28 : zC'.2 28 q = if q = i then zC.1 0 else zC.2 28 q := by
        rw [ezC, ps_2, pw_2, if_neg (by decide), pw_2, if_pos rfl, k1, pu_at, c3 28 (by omega)]
      rw [e27, e28, s26]
      by_cases e : q = i
      · subst e
        rw [if_pos rfl, if_pos rfl, m8]
        obtain ⟨s, hs, t1, t2⟩ := r9
        refine ⟨rfl, Or.inr ⟨rfl, ?_, s, hs, t1, by rw [m6]; exact t2⟩⟩
        exact rl_st_cong ⟨r1.1, r1.2.1⟩ r2 c11 c12 c13 c14 c15 c16 c17 cd cs (fun k hk => m5 k (by omega) hk)
      · rw [if_neg e, if_neg e, m9 q e]
        refine ⟨(r6 q hq).1, (r6 q hq).2.imp id (fun h => ?_)⟩
        obtain ⟨h1, h2, s, hs, h3, h4⟩ := h
        refine ⟨h1, rl_slot_cong ⟨r1.1, r1.2.1⟩ h2 (fun k k1 k2 => c4 k (by omega)) (fun k hk => m7 _ (by omega)), s, hs, h3, ?_⟩
        rw [m7 _ (by omega)]; exact h4
    · exact cg_text (s1 1 (by omega)) (s2 5 (by omega)) (m3 4 (by omega)) (m4 6 (by omega) (by omega)) r7
    · rw [s1 2 (by omega), m3 5 (by omega)]; exact r8
    · exact cg_seed (s1 0 (by omega)) (m3 3 (by omega)) r9
theorem st_goBack {tb : Nat} {zC zM : sg_M} (h : Rl tb zC zM) (a : Int32) (n : Nat) (hn : 200000 ≤ n) : ∃ v zC' zM', gC_goBack a zC = some (v, zC') ∧ gM_goBack n a zM = some (v, zM') ∧ Rl tb zC' zM' := by
  have hR := h
  obtain ⟨nc, nk, nu, nx, nh, nb, len, r1, r2, r3, r4, r5, r6, r7, r8, r9⟩ := h
  unfold gC_goBack gM_goBack
  rcases pi_room a with ⟨p, q⟩ | ⟨i, hi, rfl, p, q⟩
  · rw [if_pos p, if_pos q]; exact ⟨_, _, _, rfl, rfl, hR⟩
  · have k1 := pi_cl (j := i) (by omega)
    have i1 := pi_in (j := i) (n := 2) hi (by omega)
    rw [if_neg (pi_n10 p), if_neg (pi_n10 q), i1, k1]
    obtain ⟨h1, h2⟩ := r6 i hi
    rcases h2 with h2 | ⟨h2, h3, s, hs, h4, h5⟩
    · have ek : gC_Memory_hasKept (nI i) zC = some 0 := by
        unfold gC_Memory_hasKept
        rw [if_neg (pi_n10 p), if_pos i1, k1, h1, if_pos h2]
      rw [ek, Option.bind_some, if_pos rfl, if_pos rfl, if_pos h2]
      exact ⟨_, _, _, rfl, rfl, hR⟩
    · have hk : ∀ z : sg_M, z.2 27 = zC.2 27 → gC_Memory_hasKept (nI i) z = some 1 := fun z hz => by
        unfold gC_Memory_hasKept
        rw [if_neg (pi_n10 p), if_pos i1, k1, hz, h1, if_neg (pi_n10 h2)]
      obtain ⟨z1, c1, c2, c3, cd, cs, c11, c12, c13, c14, c15, c16, c17⟩ := rC_copyFrom zC (s := 16 + i) (by omega)
      have ef : gC_Memory_fetchImage (nI i) zC = some z1 := by
        unfold gC_Memory_fetchImage
        rw [hk zC rfl, Option.bind_some, if_neg (by decide), show ((16 : Int32) + nI i) * 106 = nI (106 * (16 + i)) by
          rw [show (16 : Int32) + nI i = nI (16 + i) from nI_add 16 i, show nI (16 + i) * 106 = nI ((16 + i) * 106) from pk_mul _ 106, Nat.mul_comm], c1]
        rfl
      have es : gC_Memory_seedOfImage (nI i) z1 = some (nI s) := by
        unfold gC_Memory_seedOfImage
        rw [hk z1 (c3 27 (by omega)), Option.bind_some, if_neg (by decide), if_pos i1, k1, c3 28 (by omega), h4]
      rw [hk zC rfl, Option.bind_some, if_neg (by decide), ef, Option.bind_some, es, Option.bind_some, if_pos rfl, if_neg (pi_n10 h2)]
      simp only [pl_let]
      obtain ⟨f, m1, m2, -⟩ := rM_backL hi 106 0 n zM (by omega) (by omega)
      rw [show gM_goBack_L n (nI i) 0 zM = _ from m1, h5]
      have s1 : ∀ k, (k ≠ 0 ∧ k ≠ 12 ∧ k ≠ 13 ∧ k ≠ 24) → (sg_s (sg_s z1 0 (nI s)) 24 0).1 k = zC.1 k := fun k hk => by
        rw [ps_1, if_neg (by omega), ps_1, if_neg (by omega), c2 k (by omega)]
      have m3 : ∀ k, (k ≠ 3 ∧ k ≠ 12) → (sg_s (sg_s (sg_a zM 5 f) 3 (nI s)) 12 0).1 k = zM.1 k := fun k hk => by
        rw [ps_1, if_neg (by omega), ps_1, if_neg (by omega), pa_1]
      have m4 : ∀ b, b ≠ 5 → (sg_s (sg_s (sg_a zM 5 f) 3 (nI s)) 12 0).2 b = zM.2 b := fun b hb => by
        rw [ps_2, ps_2, pa_2, if_neg hb]
      have s2 : ∀ b, (b < 11 ∨ 17 < b) → (sg_s (sg_s z1 0 (nI s)) 24 0).2 b = zC.2 b := fun b hb => c3 b hb
      refine ⟨1, _, _, rfl, rfl, nc, nk, 0, nx, nh, nb, len, ?_, ?_, ⟨by omega, r3.2.1, rfl, rfl, ?_, fun j hj => by omega⟩, ?_, ?_, ?_, ?_, ?_, ⟨s, hs, rfl, rfl⟩⟩
      · exact cg_road (fun k hk => s1 k (by omega)) (fun b hb => s2 b (by omega)) (fun k hk => m3 k (by omega)) (fun b hb => m4 b (by omega)) r1
      · exact rl_st_cong ⟨r1.1, r1.2.1⟩ h3 c11 c12 c13 c14 c15 c16 c17 cd cs (fun k hk => m2 k (by omega) hk)
      · rw [s1 25 (by omega)]; exact r3.2.2.2.2.1
      · exact cg_heard (s1 19 (by omega)) (fun b hb => s2 b (by omega)) (m3 13 (by omega)) (fun b hb => m4 b (by omega)) r4
      · exact cg_book (s1 20 (by omega)) (fun b hb => s2 b (by omega)) (m3 14 (by omega)) (fun b hb => m4 b (by omega)) r5
      · exact cg_img ⟨r1.1, r1.2.1⟩ (fun k _ => by rw [s2 26 (by omega)]) (fun b hb => s2 b (by omega)) (fun b hb => m4 b (by omega)) r6
      · exact cg_text (s1 1 (by omega)) (s2 5 (by omega)) (m3 4 (by omega)) (m4 6 (by omega)) r7
      · rw [s1 2 (by omega), m3 5 (by omega)]; exact r8
