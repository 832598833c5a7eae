set_option maxRecDepth 4000 in
theorem gM_write_ok {l : Launch} {D : va_G} {cI cZ : ClassId} {ad : Nat → Nat} {a1 : Int32} {a2 : Int32} {z : sg_M} {r : Int32 × sg_M} (h : gM_write a1 a2 z = some r) : sg_Met (eM l D cI cZ ad) yX12_write cX12_write 3 (some .int) 3 [.ref (ad 0), .int a1, .int a2] z (sg_is (some (.int r.1)) r.2) := by
  refine sg_enter (lv0 := [(0, .ref (ad 0)), (1, .int a1), (2, .int a2)]) pn_X12 (Nat.le_of_ble_eq_true rfl) rfl ?_
  unfold gM_write at h
  refine sg_aload_n (pn := 1) (i := 0) dX12_write_0 rfl rfl 0 rfl ?_
  refine sg_iload_n (pn := 2) (i := 1) dX12_write_1 rfl rfl 1 rfl ?_
  refine sg_callVi (pn := 5) (rest := []) 0 dX12_write_2 rfl kb_X12_222 kv_X12_isCell (by exact rfl) rfl (Nat.le_of_ble_eq_true rfl) (gM_isCell_ok rfl) rfl rfl (Nat.le_of_ble_eq_true rfl) ?_
  refine sg_if_ne (pn := 8) (tgt := 11) dX12_write_5 rfl (by decide) (fun hc => ?_) (fun hc => ?_)
  · have h := sg_ifn hc h
    refine sg_iload_n (pn := 12) (i := 2) dX12_write_11 rfl rfl 2 rfl ?_
    refine sg_i2l (pn := 13) dX12_write_12 rfl ?_
    refine sg_ldc2 (pn := 16) dX12_write_13 rfl kl_X12_301 ?_
    refine sg_ldc2 (pn := 19) dX12_write_16 rfl kl_X12_303 ?_
    refine sg_callSi (pn := 22) (rest := []) dX12_write_19 rfl kb_X12_81 ks_X12_in (Nat.le_of_ble_eq_true rfl) (gM_in_ok rfl) rfl rfl (Nat.le_of_ble_eq_true rfl) ?_
    refine sg_if_ne (pn := 25) (tgt := 28) dX12_write_22 rfl (by decide) (fun hc => ?_) (fun hc => ?_)
    · have h := sg_ifn hc h
      refine sg_aload_n (pn := 29) (i := 0) dX12_write_28 rfl rfl 0 rfl ?_
      refine gfM_0_31 (pn := 32) dX12_write_29 rfl lf_X12_157 ?_
      refine sg_bipush (pn := 34) dX12_write_32 rfl ib_15 ?_
      refine sg_icmp_ne (pn := 37) (tgt := 40) dX12_write_34 rfl (by decide) (fun hc => ?_) (fun hc => ?_)
      · have h := sg_ifn hc h
        refine sg_aload_n (pn := 41) (i := 0) dX12_write_40 rfl rfl 0 rfl ?_
        refine gfM_0_32 (pn := 44) dX12_write_41 rfl lf_X12_65 ?_
        refine sg_aload_n (pn := 45) (i := 0) dX12_write_44 rfl rfl 0 rfl ?_
        refine gfM_0_31 (pn := 48) dX12_write_45 rfl lf_X12_157 ?_
        refine sg_iload_n (pn := 49) (i := 1) dX12_write_48 rfl rfl 1 rfl ?_
        obtain ⟨hg, h⟩ := sg_guard h
        refine asM_18 (pn := 50) dX12_write_49 rfl (sg_in_vp hg) ?_
        obtain ⟨z1, e_z1, h⟩ := sg_letE h
        refine sg_zE e_z1 ?_
        refine sg_aload_n (pn := 51) (i := 0) dX12_write_50 rfl rfl 0 rfl ?_
        refine gfM_0_33 (pn := 54) dX12_write_51 rfl lf_X12_68 ?_
        refine sg_aload_n (pn := 55) (i := 0) dX12_write_54 rfl rfl 0 rfl ?_
        refine gfM_0_31 (pn := 58) dX12_write_55 rfl lf_X12_157 ?_
        refine sg_iload_n (pn := 59) (i := 2) dX12_write_58 rfl rfl 2 rfl ?_
        obtain ⟨hg, h⟩ := sg_guard h
        refine asM_19 (pn := 60) dX12_write_59 rfl (sg_in_vp hg) ?_
        obtain ⟨z2, e_z2, h⟩ := sg_letE h
        refine sg_zE e_z2 ?_
        refine sg_aload_n (pn := 61) (i := 0) dX12_write_60 rfl rfl 0 rfl ?_
        refine sg_dup (pn := 62) dX12_write_61 rfl rfl ?_
        refine gfM_0_31 (pn := 65) dX12_write_62 rfl lf_X12_157 ?_
        refine sg_iconst (pn := 66) dX12_write_65 rfl ic_1 ?_
        refine sg_iadd (pn := 67) dX12_write_66 rfl ?_
        refine pfM_0_31 (pn := 70) dX12_write_67 rfl lf_X12_157 ?_
        obtain ⟨z3, e_z3, h⟩ := sg_letE h
        refine sg_zE e_z3 ?_
        refine sg_aload_n (pn := 71) (i := 0) dX12_write_70 rfl rfl 0 rfl ?_
        refine gfM_0_31 (pn := 74) dX12_write_71 rfl lf_X12_157 ?_
        obtain rfl := Option.some.inj h
        exact sg_iret dX12_write_74 rfl ⟨rfl, rfl⟩
      · have h := sg_ifp hc h
        refine sg_ldc (pn := 39) dX12_write_37 rfl kc_X12_94 ?_
        obtain rfl := Option.some.inj h
        exact sg_iret dX12_write_39 rfl ⟨rfl, rfl⟩
    · have h := sg_ifp hc h
      refine sg_ldc (pn := 27) dX12_write_25 rfl kc_X12_90 ?_
      obtain rfl := Option.some.inj h
      exact sg_iret dX12_write_27 rfl ⟨rfl, rfl⟩
  · have h := sg_ifp hc h
    refine sg_ldc (pn := 10) dX12_write_8 rfl kc_X12_225 ?_
    obtain rfl := Option.some.inj h
    exact sg_iret dX12_write_10 rfl ⟨rfl, rfl⟩
set_option maxRecDepth 4000 in
theorem gM_tear_ok {l : Launch} {D : va_G} {cI cZ : ClassId} {ad : Nat → Nat} {z : sg_M} {r : Int32 × sg_M} (h : gM_tear z = some r) : sg_Met (eM l D cI cZ ad) yX12_tear cX12_tear 2 (some .int) 1 [.ref (ad 0)] z (sg_is (some (.int r.1)) r.2) := by
  refine sg_enter (lv0 := [(0, .ref (ad 0))]) pn_X12 (Nat.le_of_ble_eq_true rfl) rfl ?_
  unfold gM_tear at h
  refine sg_aload_n (pn := 1) (i := 0) dX12_tear_0 rfl rfl 0 rfl ?_
  refine gfM_0_27 (pn := 4) dX12_tear_1 rfl lf_X12_154 ?_
  refine sg_aload_n (pn := 5) (i := 0) dX12_tear_4 rfl rfl 0 rfl ?_
  refine gfM_0_31 (pn := 8) dX12_tear_5 rfl lf_X12_157 ?_
  refine sg_iadd (pn := 9) dX12_tear_8 rfl ?_
  obtain ⟨v1_1, e_v1_1, h⟩ := sg_letE h
  refine sg_topi e_v1_1 ?_
  refine sg_istore_n (pn := 10) (i := 1) (lv' := [(0, .ref (ad 0)), (1, .int v1_1)]) dX12_tear_9 rfl rfl (Nat.le_of_ble_eq_true rfl) [1, 0] rfl ?_
  refine sg_aload_n (pn := 11) (i := 0) dX12_tear_10 rfl rfl 0 rfl ?_
  refine sg_iconst (pn := 12) dX12_tear_11 rfl ic_0 ?_
  refine pfM_0_27 (pn := 15) dX12_tear_12 rfl lf_X12_154 ?_
  obtain ⟨z2, e_z2, h⟩ := sg_letE h
  refine sg_zE e_z2 ?_
  refine sg_aload_n (pn := 16) (i := 0) dX12_tear_15 rfl rfl 0 rfl ?_
  refine sg_iconst (pn := 17) dX12_tear_16 rfl ic_0 ?_
  refine pfM_0_31 (pn := 20) dX12_tear_17 rfl lf_X12_157 ?_
  obtain ⟨z3, e_z3, h⟩ := sg_letE h
  refine sg_zE e_z3 ?_
  refine sg_iload_n (pn := 21) (i := 1) dX12_tear_20 rfl rfl 1 rfl ?_
  obtain rfl := Option.some.inj h
  exact sg_iret dX12_tear_21 rfl ⟨rfl, rfl⟩
set_option maxRecDepth 4000 in
theorem gM_judge_L_ok {l : Launch} {D : va_G} {cI cZ : ClassId} {ad : Nat → Nat} : ∀ (n : Nat) (v1 : Int32) (z : sg_M) (r : Int32), gM_judge_L n v1 z = some r → sg_G (eM l D cI cZ ad) yX12_judge cX12_judge 2 (some .int) 4 2 [(0, .ref (ad 0)), (1, .int v1)] [] z (sg_is (some (.int r)) z) := by
  intro n
  induction n with
  | zero => intro v1 z r h; cases h
  | succ n ih =>
    intro v1 z r h
    unfold gM_judge_L at h
    refine sg_iload_n (pn := 3) (i := 1) dX12_judge_2 rfl rfl 1 rfl ?_
    refine sg_aload_n (pn := 4) (i := 0) dX12_judge_3 rfl rfl 0 rfl ?_
    refine gfM_0_31 (pn := 7) dX12_judge_4 rfl lf_X12_157 ?_
    refine sg_icmp_ge (pn := 10) (tgt := 38) dX12_judge_7 rfl (by decide) (fun hc => ?_) (fun hc => ?_)
    · have h := sg_ifp hc h
      refine sg_iconst (pn := 39) dX12_judge_38 rfl ic_m1 ?_
      obtain rfl := Option.some.inj h
      exact sg_iret dX12_judge_39 rfl ⟨rfl, rfl⟩
    · have h := sg_ifn hc h
      refine sg_aload_n (pn := 11) (i := 0) dX12_judge_10 rfl rfl 0 rfl ?_
      refine sg_aload_n (pn := 12) (i := 0) dX12_judge_11 rfl rfl 0 rfl ?_
      refine gfM_0_32 (pn := 15) dX12_judge_12 rfl lf_X12_65 ?_
      refine sg_iload_n (pn := 16) (i := 1) dX12_judge_15 rfl rfl 1 rfl ?_
      obtain ⟨hg, h⟩ := sg_guard h
      refine alM_18 (pn := 17) dX12_judge_16 rfl (sg_in_vp hg) ?_
      refine sg_iconst (pn := 18) dX12_judge_17 rfl ic_4 ?_
      obtain ⟨r1, h_r1, h⟩ := sg_bind h
      refine sg_callVi (pn := 21) (rest := []) 0 dX12_judge_18 rfl kb_X12_305 kv_X12_cell (by exact rfl) rfl (Nat.le_of_ble_eq_true rfl) (gM_cell_ok h_r1) rfl rfl (Nat.le_of_ble_eq_true rfl) ?_
      refine sg_aload_n (pn := 22) (i := 0) dX12_judge_21 rfl rfl 0 rfl ?_
      refine gfM_0_33 (pn := 25) dX12_judge_22 rfl lf_X12_68 ?_
      refine sg_iload_n (pn := 26) (i := 1) dX12_judge_25 rfl rfl 1 rfl ?_
      obtain ⟨hg, h⟩ := sg_guard h
      refine alM_19 (pn := 27) dX12_judge_26 rfl (sg_in_vp hg) ?_
      refine sg_icmp_eq (pn := 30) (tgt := 32) dX12_judge_27 rfl (by decide) (fun hc => ?_) (fun hc => ?_)
      · have h := sg_ifp hc h
        refine sg_iinc (pn := 35) (i := 1) (lv' := [(0, .ref (ad 0)), (1, .int (v1 + (1 : Int32)))]) dX12_judge_32 rfl 1 rfl (ii_1 _) (Nat.le_of_ble_eq_true rfl) [1, 0] rfl ?_
        refine sg_goto (tgt := 2) dX12_judge_35 (by decide) ?_
        exact ih _ _ _ h
      · have h := sg_ifn hc h
        refine sg_iload_n (pn := 31) (i := 1) dX12_judge_30 rfl rfl 1 rfl ?_
        obtain rfl := Option.some.inj h
        exact sg_iret dX12_judge_31 rfl ⟨rfl, rfl⟩
set_option maxRecDepth 4000 in
theorem gM_judge_ok {l : Launch} {D : va_G} {cI cZ : ClassId} {ad : Nat → Nat} {n : Nat} {z : sg_M} {r : Int32} (h : gM_judge n z = some r) : sg_Met (eM l D cI cZ ad) yX12_judge cX12_judge 2 (some .int) 4 [.ref (ad 0)] z (sg_is (some (.int r)) z) := by
  refine sg_enter (lv0 := [(0, .ref (ad 0))]) pn_X12 (Nat.le_of_ble_eq_true rfl) rfl ?_
  unfold gM_judge at h
  refine sg_iconst (pn := 1) dX12_judge_0 rfl ic_0 ?_
  refine sg_istore_n (pn := 2) (i := 1) (lv' := [(0, .ref (ad 0)), (1, .int (0 : Int32))]) dX12_judge_1 rfl rfl (Nat.le_of_ble_eq_true rfl) [1, 0] rfl ?_
  exact gM_judge_L_ok n _ _ _ h
set_option maxRecDepth 4000 in
theorem gM_seed_ok {l : Launch} {D : va_G} {cI cZ : ClassId} {ad : Nat → Nat} {a1 : Int32} {z : sg_M} {r : Int32 × sg_M} (h : gM_seed a1 z = some r) : sg_Met (eM l D cI cZ ad) yX12_seed cX12_seed 3 (some .int) 1 [.ref (ad 0), .int a1] z (sg_is (some (.int r.1)) r.2) := by
  refine sg_enter (lv0 := [(0, .ref (ad 0)), (1, .int a1)]) pn_X12 (Nat.le_of_ble_eq_true rfl) rfl ?_
  unfold gM_seed at h
  refine sg_iload_n (pn := 1) (i := 1) dX12_seed_0 rfl rfl 1 rfl ?_
  refine sg_if_ge (pn := 4) (tgt := 7) dX12_seed_1 rfl (by decide) (fun hc => ?_) (fun hc => ?_)
  · have h := sg_ifp hc h
    refine sg_aload_n (pn := 8) (i := 0) dX12_seed_7 rfl rfl 0 rfl ?_
    refine gfM_0_9 (pn := 11) dX12_seed_8 rfl lf_X12_256 ?_
    obtain ⟨v2_1, e_v2_1, h⟩ := sg_letE h
    refine sg_topi e_v2_1 ?_
    refine sg_istore_n (pn := 12) (i := 2) (lv' := [(0, .ref (ad 0)), (1, .int a1), (2, .int v2_1)]) dX12_seed_11 rfl rfl (Nat.le_of_ble_eq_true rfl) [1, 2, 0] rfl ?_
    refine sg_aload_n (pn := 13) (i := 0) dX12_seed_12 rfl rfl 0 rfl ?_
    refine sg_iload_n (pn := 14) (i := 1) dX12_seed_13 rfl rfl 1 rfl ?_
    refine pfM_0_9 (pn := 17) dX12_seed_14 rfl lf_X12_256 ?_
    obtain ⟨z2, e_z2, h⟩ := sg_letE h
    refine sg_zE e_z2 ?_
    refine sg_iload_n (pn := 18) (i := 2) dX12_seed_17 rfl rfl 2 rfl ?_
    obtain rfl := Option.some.inj h
    exact sg_iret dX12_seed_18 rfl ⟨rfl, rfl⟩
  · have h := sg_ifn hc h
    refine sg_ldc (pn := 6) dX12_seed_4 rfl kc_X12_90 ?_
    obtain rfl := Option.some.inj h
    exact sg_iret dX12_seed_6 rfl ⟨rfl, rfl⟩
set_option maxRecDepth 4000 in
theorem gM_keep_L_ok {l : Launch} {D : va_G} {cI cZ : ClassId} {ad : Nat → Nat} : ∀ (n : Nat) (v1 : Int32) (v2 : Int32) (z : sg_M) (r : Int32 × sg_M), gM_keep_L n v1 v2 z = some r → sg_G (eM l D cI cZ ad) yX12_keep cX12_keep 3 (some .int) 2 15 [(0, .ref (ad 0)), (1, .int v1), (2, .int v2)] [] z (sg_is (some (.int r.1)) r.2) := by
  intro n
  induction n with
  | zero => intro v1 v2 z r h; cases h
  | succ n ih =>
    intro v1 v2 z r h
    unfold gM_keep_L at h
    refine sg_iload_n (pn := 16) (i := 2) dX12_keep_15 rfl rfl 2 rfl ?_
    refine sg_bipush (pn := 18) dX12_keep_16 rfl ib_106 ?_
    refine sg_icmp_ge (pn := 21) (tgt := 44) dX12_keep_18 rfl (by decide) (fun hc => ?_) (fun hc => ?_)
    · have h := sg_ifp hc h
      refine sg_aload_n (pn := 45) (i := 0) dX12_keep_44 rfl rfl 0 rfl ?_
      refine gfM_0_34 (pn := 48) dX12_keep_45 rfl lf_X12_71 ?_
      refine sg_bipush (pn := 50) dX12_keep_48 rfl ib_107 ?_
      refine sg_iload_n (pn := 51) (i := 1) dX12_keep_50 rfl rfl 1 rfl ?_
      refine sg_imul (pn := 52) dX12_keep_51 rfl ?_
      refine sg_bipush (pn := 54) dX12_keep_52 rfl ib_106 ?_
      refine sg_iadd (pn := 55) dX12_keep_54 rfl ?_
      refine sg_aload_n (pn := 56) (i := 0) dX12_keep_55 rfl rfl 0 rfl ?_
      refine gfM_0_9 (pn := 59) dX12_keep_56 rfl lf_X12_256 ?_
      obtain ⟨hg, h⟩ := sg_guard h
      refine asM_20 (pn := 60) dX12_keep_59 rfl (sg_in_vp hg) ?_
      obtain ⟨z1, e_z1, h⟩ := sg_letE h
      refine sg_zE e_z1 ?_
      refine sg_aload_n (pn := 61) (i := 0) dX12_keep_60 rfl rfl 0 rfl ?_
      refine gfM_0_35 (pn := 64) dX12_keep_61 rfl lf_X12_74 ?_
      refine sg_iload_n (pn := 65) (i := 1) dX12_keep_64 rfl rfl 1 rfl ?_
      refine sg_iconst (pn := 66) dX12_keep_65 rfl ic_1 ?_
      obtain ⟨hg, h⟩ := sg_guard h
      refine asM_21 (pn := 67) dX12_keep_66 rfl (sg_in_vp hg) ?_
      obtain ⟨z2, e_z2, h⟩ := sg_letE h
      refine sg_zE e_z2 ?_
      refine sg_aload_n (pn := 68) (i := 0) dX12_keep_67 rfl rfl 0 rfl ?_
      refine sg_iconst (pn := 69) dX12_keep_68 rfl ic_0 ?_
      refine pfM_0_24 (pn := 72) dX12_keep_69 rfl lf_X12_160 ?_
      obtain ⟨z3, e_z3, h⟩ := sg_letE h
      refine sg_zE e_z3 ?_
      refine sg_iconst (pn := 73) dX12_keep_72 rfl ic_1 ?_
      obtain rfl := Option.some.inj h
      exact sg_iret dX12_keep_73 rfl ⟨rfl, rfl⟩
    · have h := sg_ifn hc h
      refine sg_aload_n (pn := 22) (i := 0) dX12_keep_21 rfl rfl 0 rfl ?_
      refine gfM_0_34 (pn := 25) dX12_keep_22 rfl lf_X12_71 ?_
      refine sg_bipush (pn := 27) dX12_keep_25 rfl ib_107 ?_
      refine sg_iload_n (pn := 28) (i := 1) dX12_keep_27 rfl rfl 1 rfl ?_
      refine sg_imul (pn := 29) dX12_keep_28 rfl ?_
      refine sg_iload_n (pn := 30) (i := 2) dX12_keep_29 rfl rfl 2 rfl ?_
      refine sg_iadd (pn := 31) dX12_keep_30 rfl ?_
      refine sg_aload_n (pn := 32) (i := 0) dX12_keep_31 rfl rfl 0 rfl ?_
      refine gfM_0_8 (pn := 35) dX12_keep_32 rfl lf_X12_25 ?_
      refine sg_iload_n (pn := 36) (i := 2) dX12_keep_35 rfl rfl 2 rfl ?_
      obtain ⟨hg, h⟩ := sg_guard h
      refine alM_6 (pn := 37) dX12_keep_36 rfl (sg_in_vp hg) ?_
      obtain ⟨hg, h⟩ := sg_guard h
      refine asM_20 (pn := 38) dX12_keep_37 rfl (sg_in_vp hg) ?_
      obtain ⟨z4, e_z4, h⟩ := sg_letE h
      refine sg_zE e_z4 ?_
      refine sg_iinc (pn := 41) (i := 2) (lv' := [(0, .ref (ad 0)), (1, .int v1), (2, .int (v2 + (1 : Int32)))]) dX12_keep_38 rfl 2 rfl (ii_1 _) (Nat.le_of_ble_eq_true rfl) [1, 2, 0] rfl ?_
      refine sg_goto (tgt := 15) dX12_keep_41 (by decide) ?_
      exact ih _ _ _ _ h
set_option maxRecDepth 4000 in
theorem gM_keep_ok {l : Launch} {D : va_G} {cI cZ : ClassId} {ad : Nat → Nat} {n : Nat} {a1 : Int32} {z : sg_M} {r : Int32 × sg_M} (h : gM_keep n a1 z = some r) : sg_Met (eM l D cI cZ ad) yX12_keep cX12_keep 3 (some .int) 2 [.ref (ad 0), .int a1] z (sg_is (some (.int r.1)) r.2) := by
  refine sg_enter (lv0 := [(0, .ref (ad 0)), (1, .int a1)]) pn_X12 (Nat.le_of_ble_eq_true rfl) rfl ?_
  unfold gM_keep at h
  refine sg_iload_n (pn := 1) (i := 1) dX12_keep_0 rfl rfl 1 rfl ?_
  refine sg_i2l (pn := 2) dX12_keep_1 rfl ?_
  refine sg_lconst (pn := 3) dX12_keep_2 rfl lc_0 ?_
  refine sg_lconst (pn := 4) dX12_keep_3 rfl lc_1 ?_
  refine sg_callSi (pn := 7) (rest := []) dX12_keep_4 rfl kb_X12_81 ks_X12_in (Nat.le_of_ble_eq_true rfl) (gM_in_ok rfl) rfl rfl (Nat.le_of_ble_eq_true rfl) ?_
  refine sg_if_ne (pn := 10) (tgt := 13) dX12_keep_7 rfl (by decide) (fun hc => ?_) (fun hc => ?_)
  · have h := sg_ifn hc h
    refine sg_iconst (pn := 14) dX12_keep_13 rfl ic_0 ?_
    refine sg_istore_n (pn := 15) (i := 2) (lv' := [(0, .ref (ad 0)), (1, .int a1), (2, .int (0 : Int32))]) dX12_keep_14 rfl rfl (Nat.le_of_ble_eq_true rfl) [1, 2, 0] rfl ?_
    exact gM_keep_L_ok n _ _ _ _ h
  · have h := sg_ifp hc h
    refine sg_ldc (pn := 12) dX12_keep_10 rfl kc_X12_225 ?_
    obtain rfl := Option.some.inj h
    exact sg_iret dX12_keep_12 rfl ⟨rfl, rfl⟩
set_option maxRecDepth 4000 in
theorem gM_goBack_L_ok {l : Launch} {D : va_G} {cI cZ : ClassId} {ad : Nat → Nat} : ∀ (n : Nat) (v1 : Int32) (v2 : Int32) (z : sg_M) (r : Int32 × sg_M), gM_goBack_L n v1 v2 z = some r → sg_G (eM l D cI cZ ad) yX12_goBack cX12_goBack 3 (some .int) 2 27 [(0, .ref (ad 0)), (1, .int v1), (2, .int v2)] [] z (sg_is (some (.int r.1)) r.2) := by
  intro n
  induction n with
  | zero => intro v1 v2 z r h; cases h
  | succ n ih =>
    intro v1 v2 z r h
    unfold gM_goBack_L at h
    refine sg_iload_n (pn := 28) (i := 2) dX12_goBack_27 rfl rfl 2 rfl ?_
    refine sg_bipush (pn := 30) dX12_goBack_28 rfl ib_106 ?_
    refine sg_icmp_ge (pn := 33) (tgt := 56) dX12_goBack_30 rfl (by decide) (fun hc => ?_) (fun hc => ?_)
    · have h := sg_ifp hc h
      refine sg_aload_n (pn := 57) (i := 0) dX12_goBack_56 rfl rfl 0 rfl ?_
      refine sg_aload_n (pn := 58) (i := 0) dX12_goBack_57 rfl rfl 0 rfl ?_
      refine gfM_0_34 (pn := 61) dX12_goBack_58 rfl lf_X12_71 ?_
      refine sg_bipush (pn := 63) dX12_goBack_61 rfl ib_107 ?_
      refine sg_iload_n (pn := 64) (i := 1) dX12_goBack_63 rfl rfl 1 rfl ?_
      refine sg_imul (pn := 65) dX12_goBack_64 rfl ?_
      refine sg_bipush (pn := 67) dX12_goBack_65 rfl ib_106 ?_
      refine sg_iadd (pn := 68) dX12_goBack_67 rfl ?_
      obtain ⟨hg, h⟩ := sg_guard h
      refine alM_20 (pn := 69) dX12_goBack_68 rfl (sg_in_vp hg) ?_
      refine pfM_0_9 (pn := 72) dX12_goBack_69 rfl lf_X12_256 ?_
      obtain ⟨z1, e_z1, h⟩ := sg_letE h
      refine sg_zE e_z1 ?_
      refine sg_aload_n (pn := 73) (i := 0) dX12_goBack_72 rfl rfl 0 rfl ?_
      refine sg_iconst (pn := 74) dX12_goBack_73 rfl ic_0 ?_
      refine pfM_0_24 (pn := 77) dX12_goBack_74 rfl lf_X12_160 ?_
      obtain ⟨z2, e_z2, h⟩ := sg_letE h
      refine sg_zE e_z2 ?_
      refine sg_iconst (pn := 78) dX12_goBack_77 rfl ic_1 ?_
      obtain rfl := Option.some.inj h
      exact sg_iret dX12_goBack_78 rfl ⟨rfl, rfl⟩
    · have h := sg_ifn hc h
      refine sg_aload_n (pn := 34) (i := 0) dX12_goBack_33 rfl rfl 0 rfl ?_
      refine gfM_0_8 (pn := 37) dX12_goBack_34 rfl lf_X12_25 ?_
      refine sg_iload_n (pn := 38) (i := 2) dX12_goBack_37 rfl rfl 2 rfl ?_
      refine sg_aload_n (pn := 39) (i := 0) dX12_goBack_38 rfl rfl 0 rfl ?_
      refine gfM_0_34 (pn := 42) dX12_goBack_39 rfl lf_X12_71 ?_
      refine sg_bipush (pn := 44) dX12_goBack_42 rfl ib_107 ?_
      refine sg_iload_n (pn := 45) (i := 1) dX12_goBack_44 rfl rfl 1 rfl ?_
      refine sg_imul (pn := 46) dX12_goBack_45 rfl ?_
      refine sg_iload_n (pn := 47) (i := 2) dX12_goBack_46 rfl rfl 2 rfl ?_
      refine sg_iadd (pn := 48) dX12_goBack_47 rfl ?_
      obtain ⟨hg, h⟩ := sg_guard h
      refine alM_20 (pn := 49) dX12_goBack_48 rfl (sg_in_vp hg) ?_
      obtain ⟨hg, h⟩ := sg_guard h
      refine asM_6 (pn := 50) dX12_goBack_49 rfl (sg_in_vp hg) ?_
      obtain ⟨z3, e_z3, h⟩ := sg_letE h
      refine sg_zE e_z3 ?_
      refine sg_iinc (pn := 53) (i := 2) (lv' := [(0, .ref (ad 0)), (1, .int v1), (2, .int (v2 + (1 : Int32)))]) dX12_goBack_50 rfl 2 rfl (ii_1 _) (Nat.le_of_ble_eq_true rfl) [1, 2, 0] rfl ?_
      refine sg_goto (tgt := 27) dX12_goBack_53 (by decide) ?_
      exact ih _ _ _ _ h
set_option maxRecDepth 4000 in
theorem gM_goBack_ok {l : Launch} {D : va_G} {cI cZ : ClassId} {ad : Nat → Nat} {n : Nat} {a1 : Int32} {z : sg_M} {r : Int32 × sg_M} (h : gM_goBack n a1 z = some r) : sg_Met (eM l D cI cZ ad) yX12_goBack cX12_goBack 3 (some .int) 2 [.ref (ad 0), .int a1] z (sg_is (some (.int r.1)) r.2) := by
  refine sg_enter (lv0 := [(0, .ref (ad 0)), (1, .int a1)]) pn_X12 (Nat.le_of_ble_eq_true rfl) rfl ?_
  unfold gM_goBack at h
  refine sg_iload_n (pn := 1) (i := 1) dX12_goBack_0 rfl rfl 1 rfl ?_
  refine sg_i2l (pn := 2) dX12_goBack_1 rfl ?_
  refine sg_lconst (pn := 3) dX12_goBack_2 rfl lc_0 ?_
  refine sg_lconst (pn := 4) dX12_goBack_3 rfl lc_1 ?_
  refine sg_callSi (pn := 7) (rest := []) dX12_goBack_4 rfl kb_X12_81 ks_X12_in (Nat.le_of_ble_eq_true rfl) (gM_in_ok rfl) rfl rfl (Nat.le_of_ble_eq_true rfl) ?_
  refine sg_if_ne (pn := 10) (tgt := 13) dX12_goBack_7 rfl (by decide) (fun hc => ?_) (fun hc => ?_)
  · have h := sg_ifn hc h
    refine sg_aload_n (pn := 14) (i := 0) dX12_goBack_13 rfl rfl 0 rfl ?_
    refine gfM_0_35 (pn := 17) dX12_goBack_14 rfl lf_X12_74 ?_
    refine sg_iload_n (pn := 18) (i := 1) dX12_goBack_17 rfl rfl 1 rfl ?_
    obtain ⟨hg, h⟩ := sg_guard h
    refine alM_21 (pn := 19) dX12_goBack_18 rfl (sg_in_vp hg) ?_
    refine sg_if_ne (pn := 22) (tgt := 25) dX12_goBack_19 rfl (by decide) (fun hc => ?_) (fun hc => ?_)
    · have h := sg_ifn hc h
      refine sg_iconst (pn := 26) dX12_goBack_25 rfl ic_0 ?_
      refine sg_istore_n (pn := 27) (i := 2) (lv' := [(0, .ref (ad 0)), (1, .int a1), (2, .int (0 : Int32))]) dX12_goBack_26 rfl rfl (Nat.le_of_ble_eq_true rfl) [1, 2, 0] rfl ?_
      exact gM_goBack_L_ok n _ _ _ _ h
    · have h := sg_ifp hc h
      refine sg_ldc (pn := 24) dX12_goBack_22 rfl kc_X12_232 ?_
      obtain rfl := Option.some.inj h
      exact sg_iret dX12_goBack_24 rfl ⟨rfl, rfl⟩
  · have h := sg_ifp hc h
    refine sg_ldc (pn := 12) dX12_goBack_10 rfl kc_X12_225 ?_
    obtain rfl := Option.some.inj h
    exact sg_iret dX12_goBack_12 rfl ⟨rfl, rfl⟩
set_option maxRecDepth 4000 in
theorem gC_Road_clear_9_ok {l : Launch} {D : va_G} {cI cZ : ClassId} {ad : Nat → Nat} {z : sg_M} {r : sg_M} (h : gC_Road_clear_9 z = some r) : sg_Met (eC l D cI cZ ad) yX6_clear cX6_clear 1 none 1 [.ref (ad 9)] z (sg_is none r) := by
  refine sg_enter (lv0 := [(0, .ref (ad 9))]) pn_X6 (Nat.le_of_ble_eq_true rfl) rfl ?_
  unfold gC_Road_clear_9 at h
  refine sg_aload_n (pn := 1) (i := 0) dX6_clear_0 rfl rfl 0 rfl ?_
  refine sg_iconst (pn := 2) dX6_clear_1 rfl ic_0 ?_
  refine pfC_9_0 (pn := 5) dX6_clear_2 rfl lf_X6_27 ?_
  obtain ⟨z1, e_z1, h⟩ := sg_letE h
  refine sg_zE e_z1 ?_
  refine sg_aload_n (pn := 6) (i := 0) dX6_clear_5 rfl rfl 0 rfl ?_
  refine sg_iconst (pn := 7) dX6_clear_6 rfl ic_0 ?_
  refine pfC_9_2 (pn := 10) dX6_clear_7 rfl lf_X6_31 ?_
  obtain ⟨z2, e_z2, h⟩ := sg_letE h
  refine sg_zE e_z2 ?_
  refine sg_aload_n (pn := 11) (i := 0) dX6_clear_10 rfl rfl 0 rfl ?_
  refine sg_iconst (pn := 12) dX6_clear_11 rfl ic_1 ?_
  refine pfC_9_1 (pn := 15) dX6_clear_12 rfl lf_X6_34 ?_
  obtain ⟨z3, e_z3, h⟩ := sg_letE h
  refine sg_zE e_z3 ?_
  refine sg_aload_n (pn := 16) (i := 0) dX6_clear_15 rfl rfl 0 rfl ?_
  refine gfC_9_4 (pn := 19) dX6_clear_16 rfl lf_X6_15 ?_
  refine sg_iconst (pn := 20) dX6_clear_19 rfl ic_0 ?_
  refine sg_iconst (pn := 21) dX6_clear_20 rfl ic_5 ?_
  refine asC_11 (pn := 22) dX6_clear_21 rfl (sg_in_vp (by decide +kernel)) ?_
  obtain ⟨z4, e_z4, h⟩ := sg_letE h
  refine sg_zE e_z4 ?_
  obtain rfl := Option.some.inj h
  exact sg_vret dX6_clear_22 rfl ⟨rfl, rfl⟩
