theorem la_sw (x : Int32) : (x.toInt < 0 ∨ 33 < x.toInt) ∨ ∃ k : Nat, k ≤ 33 ∧ x = nI k := by
  by_cases h : x.toInt < 0 ∨ 33 < x.toInt
  · exact Or.inl h
  · refine Or.inr ⟨x.toInt.toNat, by omega, ?_⟩
    rw [← Int32.toInt_inj, nI_toInt (by omega)]
    omega
theorem la_room {i L : Nat} (hi : i ≤ L) (hL : L ≤ 256) (h : ¬ (Int32.ofNat L - 4) < nI i) : i + 4 ≤ L := by
  rw [Int32.lt_iff_toInt_lt, nI_toInt (by omega)] at h
  have e1 : (Int32.ofNat L - 4).toInt = (L : Int) - 4 := by
    rw [Int32.toInt_sub, show (Int32.ofNat L).toInt = (L : Int) from nI_toInt (n := L) (by omega), show (4 : Int32).toInt = 4 from rfl]
    exact Int.bmod_eq_of_le (by omega) (by omega)
  rw [e1] at h
  omega
set_option maxRecDepth 20000 in
theorem la_loop {l : Launch} {D : va_G} {cI cZ : ClassId} {adC adM : Nat → Nat} {b L : Nat} {xs : Nat → Int32} (hL : L ≤ 256) : ∀ (n i tb : Nat) (zC zM : sg_M), i ≤ L → L + 1 ≤ i + n → tb ≤ 15 * i → Rl tb zC zM → la_G l D cI cZ adC adM b L xs 18 (la_lv b adC adM (nI i)) [] zC zM := by
  intro n
  induction n with
  | zero => intro i tb zC zM h1 h2; omega
  | succ n ih =>
    intro i tb zC zM hi hin htb hR
    refine la_iload dL_law_18 rfl rfl 3 rfl ?_
    refine la_aload dL_law_19 rfl rfl 0 rfl ?_
    refine la_slen dL_law_20 rfl ?_
    refine la_iconst (v := 4) dL_law_21 rfl (by decide) ?_
    refine la_isub dL_law_22 rfl ?_
    refine la_gt (tgt := 1052) dL_law_23 (by decide) rfl (fun c9 => ?_) (fun c9 => ?_)
    · exact la_end dL_law_1052 dL_law_1053
    · have hlt : i + 4 ≤ L := la_room hi hL c9
      have g0 : vp_in (nI i) L := vp_in_nI (by omega) (by omega)
      have g1 : vp_in (nI i + 1) L := by rw [nI_1]; exact vp_in_nI (by omega) (by omega)
      have g2 : vp_in (nI i + 2) L := by rw [show nI i + 2 = nI (i + 2) from nI_add i 2]; exact vp_in_nI (by omega) (by omega)
      have g3 : vp_in (nI i + 3) L := by rw [show nI i + 3 = nI (i + 3) from nI_add i 3]; exact vp_in_nI (by omega) (by omega)
      have hB : tb + 60 ≤ 100000 := by omega
      have hnext : ∀ (tb2 : Nat) (zC2 zM2 : sg_M), tb2 ≤ tb + 60 → Rl tb2 zC2 zM2 → la_G l D cI cZ adC adM b L xs 1046 (la_lv b adC adM (nI i)) [] zC2 zM2 := by
        intro tb2 zC2 zM2 h1 h2
        refine la_iinc dL_law_1046 rfl ?_
        refine la_goto (tgt := 18) dL_law_1049 (by decide) ?_
        rw [show nI i + 4 = nI (i + 4) from nI_add i 4]
        exact ih (i + 4) tb2 zC2 zM2 hlt (by omega) (by omega) h2
      refine la_aload dL_law_26 rfl rfl 0 rfl ?_
      refine la_iload dL_law_27 rfl rfl 3 rfl ?_
      refine la_sld dL_law_28 rfl g0 ?_
      refine la_bipush (v := 63) dL_law_29 rfl (by decide) ?_
      refine la_iand dL_law_31 rfl ?_
      generalize xs (nI i).toNatClampNeg &&& 63 = x9
      rcases la_sw x9 with h9 | ⟨k9, h9, rfl⟩
      · exact la_tabO (tgt := 1046) dL_law_32 h9 (by decide) (hnext tb zC zM (by omega) hR)
      · have h10 : k9 = 0 ∨ k9 = 1 ∨ k9 = 2 ∨ k9 = 3 ∨ k9 = 4 ∨ k9 = 5 ∨ k9 = 6 ∨ k9 = 7 ∨ k9 = 8 ∨ k9 = 9 ∨ k9 = 10 ∨ k9 = 11 ∨ k9 = 12 ∨ k9 = 13 ∨ k9 = 14 ∨ k9 = 15 ∨ k9 = 16 ∨ k9 = 17 ∨ k9 = 18 ∨ k9 = 19 ∨ k9 = 20 ∨ k9 = 21 ∨ k9 = 22 ∨ k9 = 23 ∨ k9 = 24 ∨ k9 = 25 ∨ k9 = 26 ∨ k9 = 27 ∨ k9 = 28 ∨ k9 = 29 ∨ k9 = 30 ∨ k9 = 31 ∨ k9 = 32 ∨ k9 = 33 := by omega
        rcases h10 with rfl | rfl | rfl | rfl | rfl | rfl | rfl | rfl | rfl | rfl | rfl | rfl | rfl | rfl | rfl | rfl | rfl | rfl | rfl | rfl | rfl | rfl | rfl | rfl | rfl | rfl | rfl | rfl | rfl | rfl | rfl | rfl | rfl | rfl
        · exact la_tabI (tgt := 184) (off := 152) dL_law_32 (by decide +kernel) (by decide +kernel) (by decide +kernel) (by decide) (la_k0 hB hR g1 g2 g3 hnext)
        · exact la_tabI (tgt := 207) (off := 175) dL_law_32 (by decide +kernel) (by decide +kernel) (by decide +kernel) (by decide) (la_k1 hB hR g1 g2 g3 hnext)
        · exact la_tabI (tgt := 220) (off := 188) dL_law_32 (by decide +kernel) (by decide +kernel) (by decide +kernel) (by decide) (la_k2 hB hR g1 g2 g3 hnext)
        · exact la_tabI (tgt := 233) (off := 201) dL_law_32 (by decide +kernel) (by decide +kernel) (by decide +kernel) (by decide) (la_k3 hB hR g1 g2 g3 hnext)
        · exact la_tabI (tgt := 256) (off := 224) dL_law_32 (by decide +kernel) (by decide +kernel) (by decide +kernel) (by decide) (la_k4 hB hR g1 g2 g3 hnext)
        · exact la_tabI (tgt := 289) (off := 257) dL_law_32 (by decide +kernel) (by decide +kernel) (by decide +kernel) (by decide) (la_k5 hB hR g1 g2 g3 hnext)
        · exact la_tabI (tgt := 322) (off := 290) dL_law_32 (by decide +kernel) (by decide +kernel) (by decide +kernel) (by decide) (la_k6 hB hR g1 g2 g3 hnext)
        · exact la_tabI (tgt := 355) (off := 323) dL_law_32 (by decide +kernel) (by decide +kernel) (by decide +kernel) (by decide) (la_k7 hB hR g1 g2 g3 hnext)
        · exact la_tabI (tgt := 378) (off := 346) dL_law_32 (by decide +kernel) (by decide +kernel) (by decide +kernel) (by decide) (la_k8 hB hR g1 g2 g3 hnext)
        · exact la_tabI (tgt := 401) (off := 369) dL_law_32 (by decide +kernel) (by decide +kernel) (by decide +kernel) (by decide) (la_k9 hB hR g1 g2 g3 hnext)
        · exact la_tabI (tgt := 424) (off := 392) dL_law_32 (by decide +kernel) (by decide +kernel) (by decide +kernel) (by decide) (la_k10 hB hR g1 g2 g3 hnext)
        · exact la_tabI (tgt := 457) (off := 425) dL_law_32 (by decide +kernel) (by decide +kernel) (by decide +kernel) (by decide) (la_k11 hB hR g1 g2 g3 hnext)
        · exact la_tabI (tgt := 490) (off := 458) dL_law_32 (by decide +kernel) (by decide +kernel) (by decide +kernel) (by decide) (la_k12 hB hR g1 g2 g3 hnext)
        · exact la_tabI (tgt := 513) (off := 481) dL_law_32 (by decide +kernel) (by decide +kernel) (by decide +kernel) (by decide) (la_k13 hB hR g1 g2 g3 hnext)
        · exact la_tabI (tgt := 536) (off := 504) dL_law_32 (by decide +kernel) (by decide +kernel) (by decide +kernel) (by decide) (la_k14 hB hR g1 g2 g3 hnext)
        · exact la_tabI (tgt := 559) (off := 527) dL_law_32 (by decide +kernel) (by decide +kernel) (by decide +kernel) (by decide) (la_k15 hB hR g1 g2 g3 hnext)
        · exact la_tabI (tgt := 572) (off := 540) dL_law_32 (by decide +kernel) (by decide +kernel) (by decide +kernel) (by decide) (la_k16 hB hR g1 g2 g3 hnext)
        · exact la_tabI (tgt := 605) (off := 573) dL_law_32 (by decide +kernel) (by decide +kernel) (by decide +kernel) (by decide) (la_k17 hB hR g1 g2 g3 hnext)
        · exact la_tabI (tgt := 638) (off := 606) dL_law_32 (by decide +kernel) (by decide +kernel) (by decide +kernel) (by decide) (la_k18 hB hR g1 g2 g3 hnext)
        · exact la_tabI (tgt := 681) (off := 649) dL_law_32 (by decide +kernel) (by decide +kernel) (by decide +kernel) (by decide) (la_k19 hB hR g1 g2 g3 hnext)
        · exact la_tabI (tgt := 714) (off := 682) dL_law_32 (by decide +kernel) (by decide +kernel) (by decide +kernel) (by decide) (la_k20 hB hR g1 g2 g3 hnext)
        · exact la_tabI (tgt := 737) (off := 705) dL_law_32 (by decide +kernel) (by decide +kernel) (by decide +kernel) (by decide) (la_k21 hB hR g1 g2 g3 hnext)
        · exact la_tabI (tgt := 770) (off := 738) dL_law_32 (by decide +kernel) (by decide +kernel) (by decide +kernel) (by decide) (la_k22 hB hR g1 g2 g3 hnext)
        · exact la_tabI (tgt := 793) (off := 761) dL_law_32 (by decide +kernel) (by decide +kernel) (by decide +kernel) (by decide) (la_k23 hB hR g1 g2 g3 hnext)
        · exact la_tabI (tgt := 816) (off := 784) dL_law_32 (by decide +kernel) (by decide +kernel) (by decide +kernel) (by decide) (la_k24 hB hR g1 g2 g3 hnext)
        · exact la_tabI (tgt := 849) (off := 817) dL_law_32 (by decide +kernel) (by decide +kernel) (by decide +kernel) (by decide) (la_k25 hB hR g1 g2 g3 hnext)
        · exact la_tabI (tgt := 882) (off := 850) dL_law_32 (by decide +kernel) (by decide +kernel) (by decide +kernel) (by decide) (la_k26 hB hR g1 g2 g3 hnext)
        · exact la_tabI (tgt := 905) (off := 873) dL_law_32 (by decide +kernel) (by decide +kernel) (by decide +kernel) (by decide) (la_k27 hB hR g1 g2 g3 hnext)
        · exact la_tabI (tgt := 918) (off := 886) dL_law_32 (by decide +kernel) (by decide +kernel) (by decide +kernel) (by decide) (la_k28 hB hR g1 g2 g3 hnext)
        · exact la_tabI (tgt := 951) (off := 919) dL_law_32 (by decide +kernel) (by decide +kernel) (by decide +kernel) (by decide) (la_k29 hB hR g1 g2 g3 hnext)
        · exact la_tabI (tgt := 964) (off := 932) dL_law_32 (by decide +kernel) (by decide +kernel) (by decide +kernel) (by decide) (la_k30 hB hR g1 g2 g3 hnext)
        · exact la_tabI (tgt := 977) (off := 945) dL_law_32 (by decide +kernel) (by decide +kernel) (by decide +kernel) (by decide) (la_k31 hB hR g1 g2 g3 hnext)
        · exact la_tabI (tgt := 1000) (off := 968) dL_law_32 (by decide +kernel) (by decide +kernel) (by decide +kernel) (by decide) (la_k32 hB hR g1 g2 g3 hnext)
        · exact la_tabI (tgt := 1023) (off := 991) dL_law_32 (by decide +kernel) (by decide +kernel) (by decide +kernel) (by decide) (la_k33 hB hR g1 g2 g3 hnext)
theorem la_arr {args : Array Value} {s : State} {ty : FieldType} (h : (Cond.arrayClass ty).before args s = true) (hp : ty = .int ∨ ty = .boolean) : ∃ cA : ClassId, ArrOfT s cA ty ∧ va_RA s cA ty := by
  obtain ⟨cA, kA, comp, hfind, hk, hkind⟩ := Cond.arrayClass_spec h
  exact ⟨cA, fun n z => ⟨fun k h => (by cases h), kA, hk, comp, hkind⟩, by rcases hp with rfl | rfl <;> exact hfind⟩
theorem la_known {b : Nat} {s : State} (hts : ∀ w ∈ lw_tbl, w.before #[Value.ref b] s = true) : ∃ (D : va_G) (cI cZ : ClassId), sn_K D [(cI, .int), (cZ, .boolean)] s := by
  have hT : ∀ w ∈ sg_tbl, w.before #[Value.ref b] s = true := fun w hw => hts w (List.mem_filter.mp hw).1
  obtain ⟨cX0, iX0, hkX0⟩ := u_known (C := RX0) (T := TX0) (N := 3) (n := 3) hT inX_X0 (hT _ iw_X0.1)
  obtain ⟨cX1, iX1, hkX1⟩ := u_known (C := RX1) (T := TX1) (N := 7) (n := 7) hT inX_X1 (hT _ iw_X1.1)
  obtain ⟨cX2, iX2, hkX2⟩ := u_known (C := RX2) (T := TX2) (N := 2) (n := 2) hT inX_X2 (hT _ iw_X2.1)
  obtain ⟨cX3, iX3, hkX3⟩ := u_known (C := RX3) (T := TX3) (N := 5) (n := 5) hT inX_X3 (hT _ iw_X3.1)
  obtain ⟨cX4, iX4, hkX4⟩ := u_known (C := RX4) (T := TX4) (N := 5) (n := 5) hT inX_X4 (hT _ iw_X4.1)
  obtain ⟨cX5, iX5, hkX5⟩ := u_known (C := RX5) (T := TX5) (N := 7) (n := 7) hT inX_X5 (hT _ iw_X5.1)
  obtain ⟨cX6, iX6, hkX6⟩ := u_known (C := RX6) (T := TX6) (N := 8) (n := 8) hT inX_X6 (hT _ iw_X6.1)
  obtain ⟨cX7, iX7, hkX7⟩ := u_known (C := RX7) (T := TX7) (N := 3) (n := 3) hT inX_X7 (hT _ iw_X7.1)
  obtain ⟨cX8, iX8, hkX8⟩ := u_known (C := RX8) (T := TX8) (N := 9) (n := 9) hT inX_X8 (hT _ iw_X8.1)
  obtain ⟨cX9, iX9, hkX9⟩ := u_known (C := RX9) (T := TX9) (N := 2) (n := 2) hT inX_X9 (hT _ iw_X9.1)
  obtain ⟨cX10, iX10, hkX10⟩ := u_known (C := RX10) (T := TX10) (N := 5) (n := 5) hT inX_X10 (hT _ iw_X10.1)
  obtain ⟨cX11, iX11, hkX11⟩ := u_known (C := RX11) (T := TX11) (N := 12) (n := 12) hT inX_X11 (hT _ iw_X11.1)
  obtain ⟨cX12, iX12, hkX12⟩ := u_known (C := RX12) (T := TX12) (N := 36) (n := 36) hT inX_X12 (hT _ iw_X12.1)
  obtain ⟨cI, a1, a2⟩ := la_arr (hT _ sn_aI) (Or.inl rfl)
  obtain ⟨cZ, a3, a4⟩ := la_arr (hT _ sn_aZ) (Or.inr rfl)
  refine ⟨(fun k => match k with | 0 => cX0 | 1 => cX1 | 2 => cX2 | 3 => cX3 | 4 => cX4 | 5 => cX5 | 6 => cX6 | 7 => cX7 | 8 => cX8 | 9 => cX9 | 10 => cX10 | 11 => cX11 | _ => cX12, fun k => match k with | 0 => iX0 | 1 => iX1 | 2 => iX2 | 3 => iX3 | 4 => iX4 | 5 => iX5 | 6 => iX6 | 7 => iX7 | 8 => iX8 | 9 => iX9 | 10 => iX10 | 11 => iX11 | _ => iX12), cI, cZ, ⟨?_, ?_⟩, ?_⟩
  · intro k q hq
    match k, hq with
    | 0, hq => cases hq; exact hkX0
    | 1, hq => cases hq; exact hkX1
    | 2, hq => cases hq; exact hkX2
    | 3, hq => cases hq; exact hkX3
    | 4, hq => cases hq; exact hkX4
    | 5, hq => cases hq; exact hkX5
    | 6, hq => cases hq; exact hkX6
    | 7, hq => cases hq; exact hkX7
    | 8, hq => cases hq; exact hkX8
    | 9, hq => cases hq; exact hkX9
    | 10, hq => cases hq; exact hkX10
    | 11, hq => cases hq; exact hkX11
    | 12, hq => cases hq; exact hkX12
    | k + 13, hq => simp [vwCl] at hq
  · intro k q hq
    match k, hq with
    | 0, hq => cases hq; exact ⟨a1, a2⟩
    | 1, hq => cases hq; exact ⟨a3, a4⟩
    | k + 2, hq => simp at hq
  · intro w hw
    have h1 := List.mem_filter.mp hw
    have h2 := hts w h1.1
    have h3 := h1.2
    cases w <;> first | (simp [sn_isN] at h3; done) | exact va_Nw.of rfl h2
theorem la_cl7 : Cond.classLink RL 7 RX11 ∈ sg_tbl := sg_mem (i := 78) (by decide +kernel) (by decide +kernel)
theorem la_cl10 : Cond.classLink RL 10 RX12 ∈ sg_tbl := sg_mem (i := 933) (by decide +kernel) (by decide +kernel)
set_option maxHeartbeats 4000000 in
set_option maxRecDepth 100000 in
/-- THE LAW, from its entry -/
theorem whole_start {p : Program} {e : Env} {s : State} {m : MethodId} {below : List Frame} {meth : Method} {c : Code} (l : Launch) {b L : Nat} {xs : Nat → Int32} (hL : L ≤ 256) (C0 : lw_At p s m meth c b L xs) : W p l e room_1 s m #[Value.ref b] below meth c s.heap [] 0 0 (lw_Z below #[Value.ref b] s) (entryFrame m ([Value.ref b] : List Value).toArray 4) := by
  obtain ⟨hx, hb, hr, hml, hown, hts, hX, hbl, hlocks, hgv⟩ := id C0
  have hT : ∀ w ∈ sg_tbl, w.before #[Value.ref b] s = true := fun w hw => hts w (List.mem_filter.mp hw).1
  have hA : ∀ q : Nat, s.heap.size ≤ q → (fun q : Nat => s.heap.size ≤ q) q := fun _ h => h
  obtain ⟨D, cI, cZ, hK⟩ := la_known hts
  obtain ⟨z9, z1, h9, h1, hR⟩ := st_init
  have hS : va_S (fun q : Nat => s.heap.size ≤ q) s.heap s.heap [] := va_S.rf
  have hP : va_P D vwCl [] s.heap := fun k q h => by simp at h
  have hD : va_D (fun q : Nat => s.heap.size ≤ q) [] := ⟨fun i j p q h => by simp at h, fun k q h => by simp at h⟩
  have hl := lv_entry ([.ref b]) (n := 4) (Nat.le_of_ble_eq_true rfl)
  rw [lg_entry_eq]
  generalize (lg_sl ([.ref b]) ++ List.replicate (4 - (lg_sl ([.ref b])).length) Slot.unset).toArray = ls at hl ⊢
  have hl : lv_has ls 4 [(0, .ref b)] := hl
  refine va_new (ci := 11) (fs := [.null, .null, .null, .null, .null, .null, .null, .null, .null, .null, .null, .int 0]) (C := RX11) (T := TX11) (N := 12) (own := RL) hx hb hT inX_X11 tyX11 tyX11_ok hown (hT _ la_cl7) (hT _ iw_X11.1) (hT _ iw_X11.2) hK.1 hP hD hS hA rfl (fun j hj => ?_) (Nat.le_of_ble_eq_true rfl) (Nat.le_of_ble_eq_true rfl) dL_law_0 (fun q0 H hP hD hS => ?_)
  · match j, hj with
    | 0, _ => rfl
    | 1, _ => rfl
    | 2, _ => rfl
    | 3, _ => rfl
    | 4, _ => rfl
    | 5, _ => rfl
    | 6, _ => rfl
    | 7, _ => rfl
    | 8, _ => rfl
    | 9, _ => rfl
    | 10, _ => rfl
    | 11, _ => rfl
    | j + 12, hj => omega
  refine lv_dup hx hb dL_law_3 rfl ?_
  refine la_init C0 hK hl.1 (la_2.ofApp (w1 := []) hP hD).symm hS dL_law_4 kbL_9 kvL_9 rfl (Nat.le_of_ble_eq_true rfl) (iX11_ok h9 h1) (Nat.le_of_ble_eq_true rfl) (Nat.le_of_ble_eq_true rfl) (Nat.le_of_ble_eq_true rfl) (fun w1 H locs hw h2 hS => ?_)
  obtain ⟨adC, hadC, rfl⟩ := hw
  subst hadC
  refine lv_astore_n (lv' := [(1, .ref (adC 0)), (0, .ref b)]) hx hb dL_law_7 rfl hl (by decide) rfl (fun ls hl => ?_)
  refine va_new (ci := 12) (fs := [.int 0, .null, .int 0, .null, .int 0, .null, .null, .null, .null, .int 0, .null, .int 0, .int 0, .int 0, .int 0, .int 0, .int 0, .null, .int 0, .null, .int 0, .null, .null, .null, .int 0, .null, .null, .int 0, .null, .null, .null, .int 0, .null, .null, .null, .null]) (C := RX12) (T := TX12) (N := 36) (own := RL) hx hb hT inX_X12 tyX12 tyX12_ok hown (hT _ la_cl10) (hT _ iw_X12.1) (hT _ iw_X12.2) hK.1 h2.1 h2.2.2.1 hS hA rfl (fun j hj => ?_) (Nat.le_of_ble_eq_true rfl) (Nat.le_of_ble_eq_true rfl) dL_law_8 (fun q0 H hP hD hS => ?_)
  · match j, hj with
    | 0, _ => rfl
    | 1, _ => rfl
    | 2, _ => rfl
    | 3, _ => rfl
    | 4, _ => rfl
    | 5, _ => rfl
    | 6, _ => rfl
    | 7, _ => rfl
    | 8, _ => rfl
    | 9, _ => rfl
    | 10, _ => rfl
    | 11, _ => rfl
    | 12, _ => rfl
    | 13, _ => rfl
    | 14, _ => rfl
    | 15, _ => rfl
    | 16, _ => rfl
    | 17, _ => rfl
    | 18, _ => rfl
    | 19, _ => rfl
    | 20, _ => rfl
    | 21, _ => rfl
    | 22, _ => rfl
    | 23, _ => rfl
    | 24, _ => rfl
    | 25, _ => rfl
    | 26, _ => rfl
    | 27, _ => rfl
    | 28, _ => rfl
    | 29, _ => rfl
    | 30, _ => rfl
    | 31, _ => rfl
    | 32, _ => rfl
    | 33, _ => rfl
    | 34, _ => rfl
    | 35, _ => rfl
    | j + 36, hj => omega
  refine lv_dup hx hb dL_law_11 rfl ?_
  refine la_init C0 hK hl.1 (la_2.ofApp hP hD).symm hS dL_law_12 kbL_12 kvL_12 rfl (Nat.le_of_ble_eq_true rfl) iX12_ok (Nat.le_of_ble_eq_true rfl) (Nat.le_of_ble_eq_true rfl) (Nat.le_of_ble_eq_true rfl) (fun w1 H locs hw h2 hS => ?_)
  obtain ⟨adM, hadM, rfl⟩ := hw
  subst hadM
  refine lv_astore_n (lv' := [(2, .ref (adM 0)), (1, .ref (adC 0)), (0, .ref b)]) hx hb dL_law_15 rfl hl (by decide) rfl (fun ls hl => ?_)
  refine lv_iconst (v := 0) hx hb dL_law_16 (by decide) ?_
  refine lv_istore_n (lv' := [(3, .int 0), (2, .ref (adM 0)), (1, .ref (adC 0)), (0, .ref b)]) hx hb dL_law_17 rfl hl (by decide) rfl (fun ls hl => ?_)
  exact la_loop hL (L + 1) 0 0 z1 iz_M (Nat.zero_le L) (by omega) (Nat.zero_le _) hR p e s m below meth c H locs ls C0 hK.1 (lv_sub hl [3, 2, 1, 0] rfl) h2.symm hS
