set_option maxRecDepth 4000 in
theorem gM_layNow_ok {l : Launch} {D : va_G} {cI cZ : ClassId} {ad : Nat → Nat} {a1 : Int32} {a2 : Int32} {z : sg_M} {r : sg_M} (h : gM_layNow a1 a2 z = some r) : sg_Met (eM l D cI cZ ad) yX12_layNow cX12_layNow 4 none 2 [.ref (ad 0), .int a1, .int a2] z (sg_is none r) := by
  refine sg_enter (lv0 := [(0, .ref (ad 0)), (1, .int a1), (2, .int a2)]) pn_X12 (Nat.le_of_ble_eq_true rfl) rfl ?_
  unfold gM_layNow at h
  refine sg_aload_n (pn := 1) (i := 0) dX12_layNow_0 rfl rfl 0 rfl ?_
  refine gfM_0_8 (pn := 4) dX12_layNow_1 rfl lf_X12_25 ?_
  refine sg_iload_n (pn := 5) (i := 1) dX12_layNow_4 rfl rfl 1 rfl ?_
  obtain ⟨hg, h⟩ := sg_guard h
  refine alM_6 (pn := 6) dX12_layNow_5 rfl (sg_in_vp hg) ?_
  refine sg_iload_n (pn := 7) (i := 2) dX12_layNow_6 rfl rfl 2 rfl ?_
  refine sg_iadd (pn := 8) dX12_layNow_7 rfl ?_
  refine sg_callSi (pn := 11) (rest := []) dX12_layNow_8 rfl kb_X12_170 ks_X12_notBelow (Nat.le_of_ble_eq_true rfl) (gM_notBelow_ok rfl) rfl rfl (Nat.le_of_ble_eq_true rfl) ?_
  obtain ⟨v3_1, e_v3_1, h⟩ := sg_letE h
  refine sg_topi e_v3_1 ?_
  refine sg_istore_n (pn := 12) (i := 3) (lv' := [(0, .ref (ad 0)), (1, .int a1), (2, .int a2), (3, .int v3_1)]) dX12_layNow_11 rfl rfl (Nat.le_of_ble_eq_true rfl) [1, 2, 3, 0] rfl ?_
  refine sg_aload_n (pn := 13) (i := 0) dX12_layNow_12 rfl rfl 0 rfl ?_
  refine gfM_0_8 (pn := 16) dX12_layNow_13 rfl lf_X12_25 ?_
  refine sg_iload_n (pn := 17) (i := 1) dX12_layNow_16 rfl rfl 1 rfl ?_
  refine sg_iload_n (pn := 18) (i := 3) dX12_layNow_17 rfl rfl 3 rfl ?_
  refine sg_bipush (pn := 20) dX12_layNow_18 rfl ib_60 ?_
  obtain ⟨t2, e_t2, h2⟩ := sg_letJ h
  have hm_t2 : sg_G (eM l D cI cZ ad) yX12_layNow cX12_layNow 4 none 2 29 [] [.int t2, .int a1, .ref (ad 6)] z (sg_is none r) := by
    have h := h2
    obtain ⟨hg, h⟩ := sg_guard h
    refine asM_6 (pn := 30) dX12_layNow_29 rfl (sg_in_vp hg) ?_
    obtain ⟨z3, e_z3, h⟩ := sg_letE h
    refine sg_zE e_z3 ?_
    obtain rfl := Option.some.inj h
    exact sg_vret dX12_layNow_30 rfl ⟨rfl, rfl⟩
  have h := e_t2
  refine sg_icmp_ge (pn := 23) (tgt := 27) dX12_layNow_20 rfl (by decide) (fun hc => ?_) (fun hc => ?_)
  · have h := sg_ifp hc h
    refine sg_bipush (pn := 29) dX12_layNow_27 rfl ib_60 ?_
    subst h
    refine sg_sub [] rfl ?_
    exact hm_t2
  · have h := sg_ifn hc h
    refine sg_iload_n (pn := 24) (i := 3) dX12_layNow_23 rfl rfl 3 rfl ?_
    refine sg_goto (tgt := 29) dX12_layNow_24 (by decide) ?_
    subst h
    refine sg_sub [] rfl ?_
    exact hm_t2
set_option maxRecDepth 4000 in
theorem gM_lay_ok {l : Launch} {D : va_G} {cI cZ : ClassId} {ad : Nat → Nat} {n : Nat} {a1 : Int32} {a2 : Int32} {z : sg_M} {r : Int32 × sg_M} (h : gM_lay n a1 a2 z = some r) : sg_Met (eM l D cI cZ ad) yX12_lay cX12_lay 3 (some .int) 3 [.ref (ad 0), .int a1, .int a2] z (sg_is (some (.int r.1)) r.2) := by
  refine sg_enter (lv0 := [(0, .ref (ad 0)), (1, .int a1), (2, .int a2)]) pn_X12 (Nat.le_of_ble_eq_true rfl) rfl ?_
  unfold gM_lay at h
  refine sg_aload_n (pn := 1) (i := 0) dX12_lay_0 rfl rfl 0 rfl ?_
  refine sg_iload_n (pn := 2) (i := 1) dX12_lay_1 rfl rfl 1 rfl ?_
  refine sg_callVi (pn := 5) (rest := []) 0 dX12_lay_2 rfl kb_X12_222 kv_X12_isCell (by exact rfl) rfl (Nat.le_of_ble_eq_true rfl) (gM_isCell_ok rfl) rfl rfl (Nat.le_of_ble_eq_true rfl) ?_
  refine sg_if_ne (pn := 8) (tgt := 11) dX12_lay_5 rfl (by decide) (fun hc => ?_) (fun hc => ?_)
  · have h := sg_ifn hc h
    refine sg_iload_n (pn := 12) (i := 2) dX12_lay_11 rfl rfl 2 rfl ?_
    refine sg_i2l (pn := 13) dX12_lay_12 rfl ?_
    refine sg_ldc2 (pn := 16) dX12_lay_13 rfl kl_X12_250 ?_
    refine sg_ldc2 (pn := 19) dX12_lay_16 rfl kl_X12_242 ?_
    refine sg_callSi (pn := 22) (rest := []) dX12_lay_19 rfl kb_X12_81 ks_X12_in (Nat.le_of_ble_eq_true rfl) (gM_in_ok rfl) rfl rfl (Nat.le_of_ble_eq_true rfl) ?_
    refine sg_if_ne (pn := 25) (tgt := 28) dX12_lay_22 rfl (by decide) (fun hc => ?_) (fun hc => ?_)
    · have h := sg_ifn hc h
      refine sg_aload_n (pn := 29) (i := 0) dX12_lay_28 rfl rfl 0 rfl ?_
      obtain ⟨r1, h_r1, h⟩ := sg_bind h
      refine sg_callVv (pn := 32) (rest := []) 0 dX12_lay_29 rfl kb_X12_233 kv_X12_remember (by exact rfl) rfl (Nat.le_of_ble_eq_true rfl) (gM_remember_ok h_r1) rfl rfl (Nat.le_of_ble_eq_true rfl) ?_
      refine sg_aload_n (pn := 33) (i := 0) dX12_lay_32 rfl rfl 0 rfl ?_
      refine sg_iload_n (pn := 34) (i := 1) dX12_lay_33 rfl rfl 1 rfl ?_
      refine sg_iload_n (pn := 35) (i := 2) dX12_lay_34 rfl rfl 2 rfl ?_
      obtain ⟨r2, h_r2, h⟩ := sg_bind h
      refine sg_callVv (pn := 38) (rest := []) 0 dX12_lay_35 rfl kb_X12_252 kv_X12_layNow (by exact rfl) rfl (Nat.le_of_ble_eq_true rfl) (gM_layNow_ok h_r2) rfl rfl (Nat.le_of_ble_eq_true rfl) ?_
      refine sg_aload_n (pn := 39) (i := 0) dX12_lay_38 rfl rfl 0 rfl ?_
      refine gfM_0_8 (pn := 42) dX12_lay_39 rfl lf_X12_25 ?_
      refine sg_iload_n (pn := 43) (i := 1) dX12_lay_42 rfl rfl 1 rfl ?_
      obtain ⟨hg, h⟩ := sg_guard h
      refine alM_6 (pn := 44) dX12_lay_43 rfl (sg_in_vp hg) ?_
      obtain rfl := Option.some.inj h
      exact sg_iret dX12_lay_44 rfl ⟨rfl, rfl⟩
    · have h := sg_ifp hc h
      refine sg_ldc (pn := 27) dX12_lay_25 rfl kc_X12_90 ?_
      obtain rfl := Option.some.inj h
      exact sg_iret dX12_lay_27 rfl ⟨rfl, rfl⟩
  · have h := sg_ifp hc h
    refine sg_ldc (pn := 10) dX12_lay_8 rfl kc_X12_225 ?_
    obtain rfl := Option.some.inj h
    exact sg_iret dX12_lay_10 rfl ⟨rfl, rfl⟩
set_option maxRecDepth 4000 in
theorem gM_load_ok {l : Launch} {D : va_G} {cI cZ : ClassId} {ad : Nat → Nat} {n : Nat} {a1 : Int32} {a2 : Int32} {z : sg_M} {r : Int32 × sg_M} (h : gM_load n a1 a2 z = some r) : sg_Met (eM l D cI cZ ad) yX12_load cX12_load 4 (some .int) 3 [.ref (ad 0), .int a1, .int a2] z (sg_is (some (.int r.1)) r.2) := by
  refine sg_enter (lv0 := [(0, .ref (ad 0)), (1, .int a1), (2, .int a2)]) pn_X12 (Nat.le_of_ble_eq_true rfl) rfl ?_
  unfold gM_load at h
  refine sg_aload_n (pn := 1) (i := 0) dX12_load_0 rfl rfl 0 rfl ?_
  refine sg_iload_n (pn := 2) (i := 1) dX12_load_1 rfl rfl 1 rfl ?_
  refine sg_callVi (pn := 5) (rest := []) 0 dX12_load_2 rfl kb_X12_226 kv_X12_isCart (by exact rfl) rfl (Nat.le_of_ble_eq_true rfl) (gM_isCart_ok rfl) rfl rfl (Nat.le_of_ble_eq_true rfl) ?_
  refine sg_if_ne (pn := 8) (tgt := 11) dX12_load_5 rfl (by decide) (fun hc => ?_) (fun hc => ?_)
  · have h := sg_ifn hc h
    refine sg_iload_n (pn := 12) (i := 2) dX12_load_11 rfl rfl 2 rfl ?_
    refine sg_i2l (pn := 13) dX12_load_12 rfl ?_
    refine sg_lconst (pn := 14) dX12_load_13 rfl lc_1 ?_
    refine sg_ldc2 (pn := 17) dX12_load_14 rfl kl_X12_242 ?_
    refine sg_callSi (pn := 20) (rest := []) dX12_load_17 rfl kb_X12_81 ks_X12_in (Nat.le_of_ble_eq_true rfl) (gM_in_ok rfl) rfl rfl (Nat.le_of_ble_eq_true rfl) ?_
    refine sg_if_ne (pn := 23) (tgt := 26) dX12_load_20 rfl (by decide) (fun hc => ?_) (fun hc => ?_)
    · have h := sg_ifn hc h
      refine sg_aload_n (pn := 27) (i := 0) dX12_load_26 rfl rfl 0 rfl ?_
      obtain ⟨r1, h_r1, h⟩ := sg_bind h
      refine sg_callVv (pn := 30) (rest := []) 0 dX12_load_27 rfl kb_X12_233 kv_X12_remember (by exact rfl) rfl (Nat.le_of_ble_eq_true rfl) (gM_remember_ok h_r1) rfl rfl (Nat.le_of_ble_eq_true rfl) ?_
      refine sg_aload_n (pn := 31) (i := 0) dX12_load_30 rfl rfl 0 rfl ?_
      refine gfM_0_8 (pn := 34) dX12_load_31 rfl lf_X12_25 ?_
      refine sg_bipush (pn := 36) dX12_load_34 rfl ib_80 ?_
      refine sg_iload_n (pn := 37) (i := 1) dX12_load_36 rfl rfl 1 rfl ?_
      refine sg_iadd (pn := 38) dX12_load_37 rfl ?_
      obtain ⟨hg, h⟩ := sg_guard h
      refine alM_6 (pn := 39) dX12_load_38 rfl (sg_in_vp hg) ?_
      obtain ⟨v3_2, e_v3_2, h⟩ := sg_letE h
      refine sg_topi e_v3_2 ?_
      refine sg_istore_n (pn := 40) (i := 3) (lv' := [(0, .ref (ad 0)), (1, .int a1), (2, .int a2), (3, .int v3_2)]) dX12_load_39 rfl rfl (Nat.le_of_ble_eq_true rfl) [1, 2, 3, 0] rfl ?_
      refine sg_aload_n (pn := 41) (i := 0) dX12_load_40 rfl rfl 0 rfl ?_
      refine gfM_0_8 (pn := 44) dX12_load_41 rfl lf_X12_25 ?_
      refine sg_bipush (pn := 46) dX12_load_44 rfl ib_80 ?_
      refine sg_iload_n (pn := 47) (i := 1) dX12_load_46 rfl rfl 1 rfl ?_
      refine sg_iadd (pn := 48) dX12_load_47 rfl ?_
      refine sg_iload_n (pn := 49) (i := 2) dX12_load_48 rfl rfl 2 rfl ?_
      obtain ⟨hg, h⟩ := sg_guard h
      refine asM_6 (pn := 50) dX12_load_49 rfl (sg_in_vp hg) ?_
      obtain ⟨z3, e_z3, h⟩ := sg_letE h
      refine sg_zE e_z3 ?_
      refine sg_iload_n (pn := 51) (i := 3) dX12_load_50 rfl rfl 3 rfl ?_
      obtain rfl := Option.some.inj h
      exact sg_iret dX12_load_51 rfl ⟨rfl, rfl⟩
    · have h := sg_ifp hc h
      refine sg_ldc (pn := 25) dX12_load_23 rfl kc_X12_90 ?_
      obtain rfl := Option.some.inj h
      exact sg_iret dX12_load_25 rfl ⟨rfl, rfl⟩
  · have h := sg_ifp hc h
    refine sg_ldc (pn := 10) dX12_load_8 rfl kc_X12_225 ?_
    obtain rfl := Option.some.inj h
    exact sg_iret dX12_load_10 rfl ⟨rfl, rfl⟩
set_option maxRecDepth 4000 in
theorem gM_storm_ok {l : Launch} {D : va_G} {cI cZ : ClassId} {ad : Nat → Nat} {n : Nat} {a1 : Int32} {z : sg_M} {r : Int32 × sg_M} (h : gM_storm n a1 z = some r) : sg_Met (eM l D cI cZ ad) yX12_storm cX12_storm 3 (some .int) 2 [.ref (ad 0), .int a1] z (sg_is (some (.int r.1)) r.2) := by
  refine sg_enter (lv0 := [(0, .ref (ad 0)), (1, .int a1)]) pn_X12 (Nat.le_of_ble_eq_true rfl) rfl ?_
  unfold gM_storm at h
  refine sg_iload_n (pn := 1) (i := 1) dX12_storm_0 rfl rfl 1 rfl ?_
  refine sg_i2l (pn := 2) dX12_storm_1 rfl ?_
  refine sg_lconst (pn := 3) dX12_storm_2 rfl lc_0 ?_
  refine sg_ldc2 (pn := 6) dX12_storm_3 rfl kl_X12_242 ?_
  refine sg_callSi (pn := 9) (rest := []) dX12_storm_6 rfl kb_X12_81 ks_X12_in (Nat.le_of_ble_eq_true rfl) (gM_in_ok rfl) rfl rfl (Nat.le_of_ble_eq_true rfl) ?_
  refine sg_if_ne (pn := 12) (tgt := 15) dX12_storm_9 rfl (by decide) (fun hc => ?_) (fun hc => ?_)
  · have h := sg_ifn hc h
    refine sg_aload_n (pn := 16) (i := 0) dX12_storm_15 rfl rfl 0 rfl ?_
    refine gfM_0_0 (pn := 19) dX12_storm_16 rfl lf_X12_78 ?_
    refine sg_if_ne (pn := 22) (tgt := 25) dX12_storm_19 rfl (by decide) (fun hc => ?_) (fun hc => ?_)
    · have h := sg_ifn hc h
      refine sg_aload_n (pn := 26) (i := 0) dX12_storm_25 rfl rfl 0 rfl ?_
      obtain ⟨r1, h_r1, h⟩ := sg_bind h
      refine sg_callVv (pn := 29) (rest := []) 0 dX12_storm_26 rfl kb_X12_233 kv_X12_remember (by exact rfl) rfl (Nat.le_of_ble_eq_true rfl) (gM_remember_ok h_r1) rfl rfl (Nat.le_of_ble_eq_true rfl) ?_
      refine sg_aload_n (pn := 30) (i := 0) dX12_storm_29 rfl rfl 0 rfl ?_
      refine gfM_0_8 (pn := 33) dX12_storm_30 rfl lf_X12_25 ?_
      refine sg_bipush (pn := 35) dX12_storm_33 rfl ib_105 ?_
      refine alM_6 (pn := 36) dX12_storm_35 rfl (sg_in_vp (by decide +kernel)) ?_
      obtain ⟨v2_2, e_v2_2, h⟩ := sg_letE h
      refine sg_topi e_v2_2 ?_
      refine sg_istore_n (pn := 37) (i := 2) (lv' := [(0, .ref (ad 0)), (1, .int a1), (2, .int v2_2)]) dX12_storm_36 rfl rfl (Nat.le_of_ble_eq_true rfl) [1, 2, 0] rfl ?_
      refine sg_aload_n (pn := 38) (i := 0) dX12_storm_37 rfl rfl 0 rfl ?_
      refine gfM_0_8 (pn := 41) dX12_storm_38 rfl lf_X12_25 ?_
      refine sg_bipush (pn := 43) dX12_storm_41 rfl ib_105 ?_
      refine sg_iload_n (pn := 44) (i := 1) dX12_storm_43 rfl rfl 1 rfl ?_
      refine asM_6 (pn := 45) dX12_storm_44 rfl (sg_in_vp (by decide +kernel)) ?_
      obtain ⟨z3, e_z3, h⟩ := sg_letE h
      refine sg_zE e_z3 ?_
      refine sg_iload_n (pn := 46) (i := 2) dX12_storm_45 rfl rfl 2 rfl ?_
      obtain rfl := Option.some.inj h
      exact sg_iret dX12_storm_46 rfl ⟨rfl, rfl⟩
    · have h := sg_ifp hc h
      refine sg_ldc (pn := 24) dX12_storm_22 rfl kc_X12_232 ?_
      obtain rfl := Option.some.inj h
      exact sg_iret dX12_storm_24 rfl ⟨rfl, rfl⟩
  · have h := sg_ifp hc h
    refine sg_ldc (pn := 14) dX12_storm_12 rfl kc_X12_90 ?_
    obtain rfl := Option.some.inj h
    exact sg_iret dX12_storm_14 rfl ⟨rfl, rfl⟩
set_option maxRecDepth 4000 in
theorem gM_raze_ok {l : Launch} {D : va_G} {cI cZ : ClassId} {ad : Nat → Nat} {n : Nat} {a1 : Int32} {z : sg_M} {r : Int32 × sg_M} (h : gM_raze n a1 z = some r) : sg_Met (eM l D cI cZ ad) yX12_raze cX12_raze 3 (some .int) 3 [.ref (ad 0), .int a1] z (sg_is (some (.int r.1)) r.2) := by
  refine sg_enter (lv0 := [(0, .ref (ad 0)), (1, .int a1)]) pn_X12 (Nat.le_of_ble_eq_true rfl) rfl ?_
  unfold gM_raze at h
  refine sg_aload_n (pn := 1) (i := 0) dX12_raze_0 rfl rfl 0 rfl ?_
  refine sg_iload_n (pn := 2) (i := 1) dX12_raze_1 rfl rfl 1 rfl ?_
  refine sg_callVi (pn := 5) (rest := []) 0 dX12_raze_2 rfl kb_X12_222 kv_X12_isCell (by exact rfl) rfl (Nat.le_of_ble_eq_true rfl) (gM_isCell_ok rfl) rfl rfl (Nat.le_of_ble_eq_true rfl) ?_
  refine sg_if_ne (pn := 8) (tgt := 11) dX12_raze_5 rfl (by decide) (fun hc => ?_) (fun hc => ?_)
  · have h := sg_ifn hc h
    refine sg_aload_n (pn := 12) (i := 0) dX12_raze_11 rfl rfl 0 rfl ?_
    refine sg_iload_n (pn := 13) (i := 1) dX12_raze_12 rfl rfl 1 rfl ?_
    obtain ⟨r1, h_r1, h⟩ := sg_bind h
    refine sg_callVi (pn := 16) (rest := []) 0 dX12_raze_13 rfl kb_X12_183 kv_X12_isTown (by exact rfl) rfl (Nat.le_of_ble_eq_true rfl) (gM_isTown_ok h_r1) rfl rfl (Nat.le_of_ble_eq_true rfl) ?_
    refine sg_if_ne (pn := 19) (tgt := 22) dX12_raze_16 rfl (by decide) (fun hc => ?_) (fun hc => ?_)
    · have h := sg_ifn hc h
      refine sg_aload_n (pn := 23) (i := 0) dX12_raze_22 rfl rfl 0 rfl ?_
      obtain ⟨r2, h_r2, h⟩ := sg_bind h
      refine sg_callVv (pn := 26) (rest := []) 0 dX12_raze_23 rfl kb_X12_233 kv_X12_remember (by exact rfl) rfl (Nat.le_of_ble_eq_true rfl) (gM_remember_ok h_r2) rfl rfl (Nat.le_of_ble_eq_true rfl) ?_
      refine sg_aload_n (pn := 27) (i := 0) dX12_raze_26 rfl rfl 0 rfl ?_
      refine gfM_0_8 (pn := 30) dX12_raze_27 rfl lf_X12_25 ?_
      refine sg_bipush (pn := 32) dX12_raze_30 rfl ib_60 ?_
      refine sg_iload_n (pn := 33) (i := 1) dX12_raze_32 rfl rfl 1 rfl ?_
      refine sg_iadd (pn := 34) dX12_raze_33 rfl ?_
      obtain ⟨hg, h⟩ := sg_guard h
      refine alM_6 (pn := 35) dX12_raze_34 rfl (sg_in_vp hg) ?_
      obtain ⟨v2_3, e_v2_3, h⟩ := sg_letE h
      refine sg_topi e_v2_3 ?_
      refine sg_istore_n (pn := 36) (i := 2) (lv' := [(0, .ref (ad 0)), (1, .int a1), (2, .int v2_3)]) dX12_raze_35 rfl rfl (Nat.le_of_ble_eq_true rfl) [1, 2, 0] rfl ?_
      refine sg_aload_n (pn := 37) (i := 0) dX12_raze_36 rfl rfl 0 rfl ?_
      refine gfM_0_8 (pn := 40) dX12_raze_37 rfl lf_X12_25 ?_
      refine sg_bipush (pn := 42) dX12_raze_40 rfl ib_20 ?_
      refine sg_iload_n (pn := 43) (i := 1) dX12_raze_42 rfl rfl 1 rfl ?_
      refine sg_iadd (pn := 44) dX12_raze_43 rfl ?_
      refine sg_iconst (pn := 45) dX12_raze_44 rfl ic_m1 ?_
      obtain ⟨hg, h⟩ := sg_guard h
      refine asM_6 (pn := 46) dX12_raze_45 rfl (sg_in_vp hg) ?_
      obtain ⟨z4, e_z4, h⟩ := sg_letE h
      refine sg_zE e_z4 ?_
      refine sg_aload_n (pn := 47) (i := 0) dX12_raze_46 rfl rfl 0 rfl ?_
      refine gfM_0_8 (pn := 50) dX12_raze_47 rfl lf_X12_25 ?_
      refine sg_bipush (pn := 52) dX12_raze_50 rfl ib_40 ?_
      refine sg_iload_n (pn := 53) (i := 1) dX12_raze_52 rfl rfl 1 rfl ?_
      refine sg_iadd (pn := 54) dX12_raze_53 rfl ?_
      refine sg_iconst (pn := 55) dX12_raze_54 rfl ic_m1 ?_
      obtain ⟨hg, h⟩ := sg_guard h
      refine asM_6 (pn := 56) dX12_raze_55 rfl (sg_in_vp hg) ?_
      obtain ⟨z5, e_z5, h⟩ := sg_letE h
      refine sg_zE e_z5 ?_
      refine sg_aload_n (pn := 57) (i := 0) dX12_raze_56 rfl rfl 0 rfl ?_
      refine gfM_0_8 (pn := 60) dX12_raze_57 rfl lf_X12_25 ?_
      refine sg_bipush (pn := 62) dX12_raze_60 rfl ib_60 ?_
      refine sg_iload_n (pn := 63) (i := 1) dX12_raze_62 rfl rfl 1 rfl ?_
      refine sg_iadd (pn := 64) dX12_raze_63 rfl ?_
      refine sg_iconst (pn := 65) dX12_raze_64 rfl ic_0 ?_
      obtain ⟨hg, h⟩ := sg_guard h
      refine asM_6 (pn := 66) dX12_raze_65 rfl (sg_in_vp hg) ?_
      obtain ⟨z6, e_z6, h⟩ := sg_letE h
      refine sg_zE e_z6 ?_
      refine sg_iload_n (pn := 67) (i := 2) dX12_raze_66 rfl rfl 2 rfl ?_
      obtain rfl := Option.some.inj h
      exact sg_iret dX12_raze_67 rfl ⟨rfl, rfl⟩
    · have h := sg_ifp hc h
      refine sg_ldc (pn := 21) dX12_raze_19 rfl kc_X12_232 ?_
      obtain rfl := Option.some.inj h
      exact sg_iret dX12_raze_21 rfl ⟨rfl, rfl⟩
  · have h := sg_ifp hc h
    refine sg_ldc (pn := 10) dX12_raze_8 rfl kc_X12_225 ?_
    obtain rfl := Option.some.inj h
    exact sg_iret dX12_raze_10 rfl ⟨rfl, rfl⟩
set_option maxRecDepth 4000 in
theorem gM_draw_ok {l : Launch} {D : va_G} {cI cZ : ClassId} {ad : Nat → Nat} {a1 : Int32} {z : sg_M} {r : Int32 × sg_M} (h : gM_draw a1 z = some r) : sg_Met (eM l D cI cZ ad) yX12_draw cX12_draw 2 (some .int) 1 [.ref (ad 0), .int a1] z (sg_is (some (.int r.1)) r.2) := by
  refine sg_enter (lv0 := [(0, .ref (ad 0)), (1, .int a1)]) pn_X12 (Nat.le_of_ble_eq_true rfl) rfl ?_
  unfold gM_draw at h
  refine sg_aload_n (pn := 1) (i := 0) dX12_draw_0 rfl rfl 0 rfl ?_
  refine sg_aload_n (pn := 2) (i := 0) dX12_draw_1 rfl rfl 0 rfl ?_
  refine gfM_0_9 (pn := 5) dX12_draw_2 rfl lf_X12_256 ?_
  refine sg_i2l (pn := 6) dX12_draw_5 rfl ?_
  refine sg_ldc2 (pn := 9) dX12_draw_6 rfl kl_X12_259 ?_
  refine sg_lmul (pn := 10) dX12_draw_9 rfl ?_
  refine sg_ldc2 (pn := 13) dX12_draw_10 rfl kl_X12_261 ?_
  refine sg_ladd (pn := 14) dX12_draw_13 rfl ?_
  refine sg_ldc2 (pn := 17) dX12_draw_14 rfl kl_X12_263 ?_
  refine sg_lrem (pn := 18) dX12_draw_17 rfl (by decide +kernel) ?_
  refine sg_l2i (pn := 19) dX12_draw_18 rfl ?_
  refine pfM_0_9 (pn := 22) dX12_draw_19 rfl lf_X12_256 ?_
  obtain ⟨z1, e_z1, h⟩ := sg_letE h
  refine sg_zE e_z1 ?_
  refine sg_aload_n (pn := 23) (i := 0) dX12_draw_22 rfl rfl 0 rfl ?_
  refine gfM_0_9 (pn := 26) dX12_draw_23 rfl lf_X12_256 ?_
  refine sg_ldcw (pn := 29) dX12_draw_26 rfl kc_X12_265 ?_
  refine sg_idiv (pn := 30) dX12_draw_29 rfl (by decide +kernel) ?_
  refine sg_iload_n (pn := 31) (i := 1) dX12_draw_30 rfl rfl 1 rfl ?_
  obtain ⟨hg, h⟩ := sg_nz h
  refine sg_irem (pn := 32) dX12_draw_31 rfl hg ?_
  obtain rfl := Option.some.inj h
  exact sg_iret dX12_draw_32 rfl ⟨rfl, rfl⟩
set_option maxRecDepth 4000 in
theorem gM_chance_ok {l : Launch} {D : va_G} {cI cZ : ClassId} {ad : Nat → Nat} {n : Nat} {z : sg_M} {r : sg_M} (h : gM_chance n z = some r) : sg_Met (eM l D cI cZ ad) yX12_chance cX12_chance 5 none 6 [.ref (ad 0)] z (sg_is none r) := by
  refine sg_enter (lv0 := [(0, .ref (ad 0))]) pn_X12 (Nat.le_of_ble_eq_true rfl) rfl ?_
  unfold gM_chance at h
  refine sg_aload_n (pn := 1) (i := 0) dX12_chance_0 rfl rfl 0 rfl ?_
  refine sg_iconst (pn := 2) dX12_chance_1 rfl ic_5 ?_
  obtain ⟨r1, h_r1, h⟩ := sg_bind h
  refine sg_callVi (pn := 5) (rest := []) 0 dX12_chance_2 rfl kb_X12_266 kv_X12_draw (by exact rfl) rfl (Nat.le_of_ble_eq_true rfl) (gM_draw_ok h_r1) rfl rfl (Nat.le_of_ble_eq_true rfl) ?_
  refine sg_istore_n (pn := 6) (i := 1) (lv' := [(0, .ref (ad 0)), (1, .int r1.1)]) dX12_chance_5 rfl rfl (Nat.le_of_ble_eq_true rfl) [1, 0] rfl ?_
  refine sg_iload_n (pn := 7) (i := 1) dX12_chance_6 rfl rfl 1 rfl ?_
  refine sg_if_ne (pn := 10) (tgt := 26) dX12_chance_7 rfl (by decide) (fun hc => ?_) (fun hc => ?_)
  · have h := sg_ifn hc h
    refine sg_iload_n (pn := 27) (i := 1) dX12_chance_26 rfl rfl 1 rfl ?_
    refine sg_iconst (pn := 28) dX12_chance_27 rfl ic_3 ?_
    refine sg_icmp_ne (pn := 31) (tgt := 54) dX12_chance_28 rfl (by decide) (fun hc => ?_) (fun hc => ?_)
    · have h := sg_ifn hc h
      refine sg_iload_n (pn := 55) (i := 1) dX12_chance_54 rfl rfl 1 rfl ?_
      refine sg_iconst (pn := 56) dX12_chance_55 rfl ic_3 ?_
      refine sg_icmp_ge (pn := 59) (tgt := 131) dX12_chance_56 rfl (by decide) (fun hc => ?_) (fun hc => ?_)
      · have h := sg_ifp hc h
        obtain rfl := Option.some.inj h
        exact sg_vret dX12_chance_131 rfl ⟨rfl, rfl⟩
      · have h := sg_ifn hc h
        refine sg_aload_n (pn := 60) (i := 0) dX12_chance_59 rfl rfl 0 rfl ?_
        refine gfM_0_4 (pn := 63) dX12_chance_60 rfl lf_X12_85 ?_
        refine sg_if_le (pn := 66) (tgt := 131) dX12_chance_63 rfl (by decide) (fun hc => ?_) (fun hc => ?_)
        · have h := sg_ifp hc h
          obtain rfl := Option.some.inj h
          exact sg_vret dX12_chance_131 rfl ⟨rfl, rfl⟩
        · have h := sg_ifn hc h
          refine sg_aload_n (pn := 67) (i := 0) dX12_chance_66 rfl rfl 0 rfl ?_
          refine sg_aload_n (pn := 68) (i := 0) dX12_chance_67 rfl rfl 0 rfl ?_
          refine gfM_0_4 (pn := 71) dX12_chance_68 rfl lf_X12_85 ?_
          obtain ⟨r2, h_r2, h⟩ := sg_bind h
          refine sg_callVi (pn := 74) (rest := []) 0 dX12_chance_71 rfl kb_X12_266 kv_X12_draw (by exact rfl) rfl (Nat.le_of_ble_eq_true rfl) (gM_draw_ok h_r2) rfl rfl (Nat.le_of_ble_eq_true rfl) ?_
          refine sg_istore_n (pn := 75) (i := 2) (lv' := [(0, .ref (ad 0)), (1, .int r1.1), (2, .int r2.1)]) dX12_chance_74 rfl rfl (Nat.le_of_ble_eq_true rfl) [1, 2, 0] rfl ?_
          refine sg_aload_n (pn := 76) (i := 0) dX12_chance_75 rfl rfl 0 rfl ?_
          refine gfM_0_8 (pn := 79) dX12_chance_76 rfl lf_X12_25 ?_
          refine sg_bipush (pn := 81) dX12_chance_79 rfl ib_88 ?_
          refine sg_iload_n (pn := 82) (i := 2) dX12_chance_81 rfl rfl 2 rfl ?_
          refine sg_iadd (pn := 83) dX12_chance_82 rfl ?_
          obtain ⟨hg, h⟩ := sg_guard h
          refine alM_6 (pn := 84) dX12_chance_83 rfl (sg_in_vp hg) ?_
          refine sg_iconst (pn := 85) dX12_chance_84 rfl ic_m1 ?_
          obtain ⟨t3, e_t3, h2⟩ := sg_letJ h
          have hm_t3 : sg_G (eM l D cI cZ ad) yX12_chance cX12_chance 5 none 6 93 [(0, .ref (ad 0)), (1, .int r1.1), (2, .int r2.1)] [.int t3] r2.2 (sg_is none r) := by
            have h := h2
            refine sg_istore_n (pn := 94) (i := 3) (lv' := [(0, .ref (ad 0)), (1, .int r1.1), (2, .int r2.1), (3, .int t3)]) dX12_chance_93 rfl rfl (Nat.le_of_ble_eq_true rfl) [1, 2, 3, 0] rfl ?_
            refine sg_iload_n (pn := 95) (i := 1) dX12_chance_94 rfl rfl 1 rfl ?_
            refine sg_iconst (pn := 96) dX12_chance_95 rfl ic_1 ?_
            obtain ⟨t7, e_t7, h2⟩ := sg_bind h
            have hm_t7 : sg_G (eM l D cI cZ ad) yX12_chance cX12_chance 5 none 6 129 [] [.int t7.1] t7.2 (sg_is none r) := by
              have h := h2
              refine sg_istore (pn := 131) (i := 4) (lv' := [(4, .int t7.1)]) dX12_chance_129 rfl (Nat.le_of_ble_eq_true rfl) [0] rfl ?_
              obtain rfl := Option.some.inj h
              exact sg_vret dX12_chance_131 rfl ⟨rfl, rfl⟩
            have h := e_t7
            refine sg_icmp_ne (pn := 99) (tgt := 111) dX12_chance_96 rfl (by decide) (fun hc => ?_) (fun hc => ?_)
            · have h := sg_ifn hc h
              refine sg_iload_n (pn := 112) (i := 1) dX12_chance_111 rfl rfl 1 rfl ?_
              refine sg_iconst (pn := 113) dX12_chance_112 rfl ic_2 ?_
              refine sg_icmp_ne (pn := 116) (tgt := 128) dX12_chance_113 rfl (by decide) (fun hc => ?_) (fun hc => ?_)
              · have h := sg_ifn hc h
                refine sg_iconst (pn := 129) dX12_chance_128 rfl ic_m1 ?_
                obtain rfl := Option.some.inj h
                refine sg_sub [] rfl ?_
                exact hm_t7
              · have h := sg_ifp hc h
                refine sg_iload_n (pn := 117) (i := 3) dX12_chance_116 rfl rfl 3 rfl ?_
                refine sg_if_eq (pn := 120) (tgt := 128) dX12_chance_117 rfl (by decide) (fun hc => ?_) (fun hc => ?_)
                · have h := sg_ifp hc h
                  refine sg_iconst (pn := 129) dX12_chance_128 rfl ic_m1 ?_
                  obtain rfl := Option.some.inj h
                  refine sg_sub [] rfl ?_
                  exact hm_t7
                · have h := sg_ifn hc h
                  refine sg_aload_n (pn := 121) (i := 0) dX12_chance_120 rfl rfl 0 rfl ?_
                  refine sg_iload_n (pn := 122) (i := 2) dX12_chance_121 rfl rfl 2 rfl ?_
                  obtain ⟨r4, h_r4, h⟩ := sg_bind h
                  refine sg_callVi (pn := 125) (rest := []) 0 dX12_chance_122 rfl kb_X12_239 kv_X12_pullNow (by exact rfl) rfl (Nat.le_of_ble_eq_true rfl) (gM_pullNow_ok h_r4) rfl rfl (Nat.le_of_ble_eq_true rfl) ?_
                  refine sg_goto (tgt := 129) dX12_chance_125 (by decide) ?_
                  obtain rfl := Option.some.inj h
                  refine sg_sub [] rfl ?_
                  exact hm_t7
            · have h := sg_ifp hc h
              refine sg_iload_n (pn := 100) (i := 3) dX12_chance_99 rfl rfl 3 rfl ?_
              refine sg_if_ne (pn := 103) (tgt := 111) dX12_chance_100 rfl (by decide) (fun hc => ?_) (fun hc => ?_)
              · have h := sg_ifn hc h
                refine sg_iload_n (pn := 112) (i := 1) dX12_chance_111 rfl rfl 1 rfl ?_
                refine sg_iconst (pn := 113) dX12_chance_112 rfl ic_2 ?_
                refine sg_icmp_ne (pn := 116) (tgt := 128) dX12_chance_113 rfl (by decide) (fun hc => ?_) (fun hc => ?_)
                · have h := sg_ifn hc h
                  refine sg_iconst (pn := 129) dX12_chance_128 rfl ic_m1 ?_
                  obtain rfl := Option.some.inj h
                  refine sg_sub [] rfl ?_
                  exact hm_t7
                · have h := sg_ifp hc h
                  refine sg_iload_n (pn := 117) (i := 3) dX12_chance_116 rfl rfl 3 rfl ?_
                  refine sg_if_eq (pn := 120) (tgt := 128) dX12_chance_117 rfl (by decide) (fun hc => ?_) (fun hc => ?_)
                  · have h := sg_ifp hc h
                    refine sg_iconst (pn := 129) dX12_chance_128 rfl ic_m1 ?_
                    obtain rfl := Option.some.inj h
                    refine sg_sub [] rfl ?_
                    exact hm_t7
                  · have h := sg_ifn hc h
                    refine sg_aload_n (pn := 121) (i := 0) dX12_chance_120 rfl rfl 0 rfl ?_
                    refine sg_iload_n (pn := 122) (i := 2) dX12_chance_121 rfl rfl 2 rfl ?_
                    obtain ⟨r5, h_r5, h⟩ := sg_bind h
                    refine sg_callVi (pn := 125) (rest := []) 0 dX12_chance_122 rfl kb_X12_239 kv_X12_pullNow (by exact rfl) rfl (Nat.le_of_ble_eq_true rfl) (gM_pullNow_ok h_r5) rfl rfl (Nat.le_of_ble_eq_true rfl) ?_
                    refine sg_goto (tgt := 129) dX12_chance_125 (by decide) ?_
                    obtain rfl := Option.some.inj h
                    refine sg_sub [] rfl ?_
                    exact hm_t7
              · have h := sg_ifp hc h
                refine sg_aload_n (pn := 104) (i := 0) dX12_chance_103 rfl rfl 0 rfl ?_
                refine sg_iload_n (pn := 105) (i := 2) dX12_chance_104 rfl rfl 2 rfl ?_
                obtain ⟨r6, h_r6, h⟩ := sg_bind h
                refine sg_callVi (pn := 108) (rest := []) 0 dX12_chance_105 rfl kb_X12_236 kv_X12_driveNow (by exact rfl) rfl (Nat.le_of_ble_eq_true rfl) (gM_driveNow_ok h_r6) rfl rfl (Nat.le_of_ble_eq_true rfl) ?_
                refine sg_goto (tgt := 129) dX12_chance_108 (by decide) ?_
                obtain rfl := Option.some.inj h
                refine sg_sub [] rfl ?_
                exact hm_t7
          have h := e_t3
          refine sg_icmp_eq (pn := 88) (tgt := 92) dX12_chance_85 rfl (by decide) (fun hc => ?_) (fun hc => ?_)
          · have h := sg_ifp hc h
            refine sg_iconst (pn := 93) dX12_chance_92 rfl ic_0 ?_
            subst h
            exact hm_t3
          · have h := sg_ifn hc h
            refine sg_iconst (pn := 89) dX12_chance_88 rfl ic_1 ?_
            refine sg_goto (tgt := 93) dX12_chance_89 (by decide) ?_
            subst h
            exact hm_t3
    · have h := sg_ifp hc h
      refine sg_aload_n (pn := 32) (i := 0) dX12_chance_31 rfl rfl 0 rfl ?_
      refine sg_aload_n (pn := 33) (i := 0) dX12_chance_32 rfl rfl 0 rfl ?_
      refine gfM_0_0 (pn := 36) dX12_chance_33 rfl lf_X12_78 ?_
      obtain ⟨r8, h_r8, h⟩ := sg_bind h
      refine sg_callVi (pn := 39) (rest := []) 0 dX12_chance_36 rfl kb_X12_266 kv_X12_draw (by exact rfl) rfl (Nat.le_of_ble_eq_true rfl) (gM_draw_ok h_r8) rfl rfl (Nat.le_of_ble_eq_true rfl) ?_
      refine sg_istore_n (pn := 40) (i := 2) (lv' := [(0, .ref (ad 0)), (1, .int r1.1), (2, .int r8.1)]) dX12_chance_39 rfl rfl (Nat.le_of_ble_eq_true rfl) [1, 2, 0] rfl ?_
      refine sg_aload_n (pn := 41) (i := 0) dX12_chance_40 rfl rfl 0 rfl ?_
      refine sg_iload_n (pn := 42) (i := 2) dX12_chance_41 rfl rfl 2 rfl ?_
      refine sg_aload_n (pn := 43) (i := 0) dX12_chance_42 rfl rfl 0 rfl ?_
      refine sg_bipush (pn := 45) dX12_chance_43 rfl ib_10 ?_
      obtain ⟨r9, h_r9, h⟩ := sg_bind h
      refine sg_callVi (pn := 48) (rest := [.int r8.1, .ref (ad 0)]) 0 dX12_chance_45 rfl kb_X12_266 kv_X12_draw (by exact rfl) rfl (Nat.le_of_ble_eq_true rfl) (gM_draw_ok h_r9) rfl rfl (Nat.le_of_ble_eq_true rfl) ?_
      obtain ⟨r10, h_r10, h⟩ := sg_bind h
      refine sg_callVv (pn := 51) (rest := []) 0 dX12_chance_48 rfl kb_X12_252 kv_X12_layNow (by exact rfl) rfl (Nat.le_of_ble_eq_true rfl) (gM_layNow_ok h_r10) rfl rfl (Nat.le_of_ble_eq_true rfl) ?_
      refine sg_goto (tgt := 131) dX12_chance_51 (by decide) ?_
      obtain rfl := Option.some.inj h
      exact sg_vret dX12_chance_131 rfl ⟨rfl, rfl⟩
  · have h := sg_ifp hc h
    refine sg_aload_n (pn := 11) (i := 0) dX12_chance_10 rfl rfl 0 rfl ?_
    refine gfM_0_8 (pn := 14) dX12_chance_11 rfl lf_X12_25 ?_
    refine sg_bipush (pn := 16) dX12_chance_14 rfl ib_105 ?_
    refine sg_aload_n (pn := 17) (i := 0) dX12_chance_16 rfl rfl 0 rfl ?_
    refine sg_bipush (pn := 19) dX12_chance_17 rfl ib_31 ?_
    obtain ⟨r11, h_r11, h⟩ := sg_bind h
    refine sg_callVi (pn := 22) (rest := [.int (105 : Int32), .ref (ad 6)]) 0 dX12_chance_19 rfl kb_X12_266 kv_X12_draw (by exact rfl) rfl (Nat.le_of_ble_eq_true rfl) (gM_draw_ok h_r11) rfl rfl (Nat.le_of_ble_eq_true rfl) ?_
    refine asM_6 (pn := 23) dX12_chance_22 rfl (sg_in_vp (by decide +kernel)) ?_
    obtain ⟨z12, e_z12, h⟩ := sg_letE h
    refine sg_zE e_z12 ?_
    refine sg_goto (tgt := 131) dX12_chance_23 (by decide) ?_
    obtain rfl := Option.some.inj h
    exact sg_vret dX12_chance_131 rfl ⟨rfl, rfl⟩
set_option maxRecDepth 4000 in
theorem gM_drift_L_ok {l : Launch} {D : va_G} {cI cZ : ClassId} {ad : Nat → Nat} : ∀ (n : Nat) (v1 : Int32) (v3 : Int32) (z : sg_M) (r : Int32 × sg_M), gM_drift_L n v1 v3 z = some r → sg_G (eM l D cI cZ ad) yX12_drift cX12_drift 4 (some .int) 7 18 [(0, .ref (ad 0)), (1, .int v1), (3, .int v3)] [] z (sg_is (some (.int r.1)) r.2) := by
  intro n
  induction n with
  | zero => intro v1 v3 z r h; cases h
  | succ n ih =>
    intro v1 v3 z r h
    unfold gM_drift_L at h
    refine sg_iload_n (pn := 19) (i := 3) dX12_drift_18 rfl rfl 2 rfl ?_
    refine sg_iload_n (pn := 20) (i := 1) dX12_drift_19 rfl rfl 1 rfl ?_
    refine sg_icmp_ge (pn := 23) (tgt := 37) dX12_drift_20 rfl (by decide) (fun hc => ?_) (fun hc => ?_)
    · have h := sg_ifp hc h
      refine sg_aload_n (pn := 38) (i := 0) dX12_drift_37 rfl rfl 0 rfl ?_
      obtain ⟨r3, h_r3, h⟩ := sg_bind h
      refine sg_callVi (pn := 41) (rest := []) 0 dX12_drift_38 rfl kb_X12_219 kv_X12_allFolk (by exact rfl) rfl (Nat.le_of_ble_eq_true rfl) (gM_allFolk_ok h_r3) rfl rfl (Nat.le_of_ble_eq_true rfl) ?_
      obtain rfl := Option.some.inj h
      exact sg_iret dX12_drift_41 rfl ⟨rfl, rfl⟩
    · have h := sg_ifn hc h
      refine sg_aload_n (pn := 24) (i := 0) dX12_drift_23 rfl rfl 0 rfl ?_
      obtain ⟨r4, h_r4, h⟩ := sg_bind h
      refine sg_callVv (pn := 27) (rest := []) 0 dX12_drift_24 rfl kb_X12_269 kv_X12_chance (by exact rfl) rfl (Nat.le_of_ble_eq_true rfl) (gM_chance_ok h_r4) rfl rfl (Nat.le_of_ble_eq_true rfl) ?_
      refine sg_aload_n (pn := 28) (i := 0) dX12_drift_27 rfl rfl 0 rfl ?_
      obtain ⟨r5, h_r5, h⟩ := sg_bind h
      refine sg_callVv (pn := 31) (rest := []) 0 dX12_drift_28 rfl kb_X12_247 kv_X12_pass (by exact rfl) rfl (Nat.le_of_ble_eq_true rfl) (gM_pass_ok h_r5) rfl rfl (Nat.le_of_ble_eq_true rfl) ?_
      refine sg_iinc (pn := 34) (i := 3) (lv' := [(0, .ref (ad 0)), (1, .int v1), (3, .int (v3 + (1 : Int32)))]) dX12_drift_31 rfl 2 rfl (ii_1 _) (Nat.le_of_ble_eq_true rfl) [1, 2, 0] rfl ?_
      refine sg_goto (tgt := 18) dX12_drift_34 (by decide) ?_
      exact ih _ _ _ _ h
set_option maxRecDepth 4000 in
theorem gM_drift_ok {l : Launch} {D : va_G} {cI cZ : ClassId} {ad : Nat → Nat} {n : Nat} {a1 : Int32} {z : sg_M} {r : Int32 × sg_M} (h : gM_drift n a1 z = some r) : sg_Met (eM l D cI cZ ad) yX12_drift cX12_drift 4 (some .int) 7 [.ref (ad 0), .int a1] z (sg_is (some (.int r.1)) r.2) := by
  refine sg_enter (lv0 := [(0, .ref (ad 0)), (1, .int a1)]) pn_X12 (Nat.le_of_ble_eq_true rfl) rfl ?_
  unfold gM_drift at h
  refine sg_aload_n (pn := 1) (i := 0) dX12_drift_0 rfl rfl 0 rfl ?_
  refine sg_iload_n (pn := 2) (i := 1) dX12_drift_1 rfl rfl 1 rfl ?_
  refine sg_callVi (pn := 5) (rest := []) 0 dX12_drift_2 rfl kb_X12_244 kv_X12_daysRefused (by exact rfl) rfl (Nat.le_of_ble_eq_true rfl) (gM_daysRefused_ok rfl) rfl rfl (Nat.le_of_ble_eq_true rfl) ?_
  obtain ⟨v2_1, e_v2_1, h⟩ := sg_letE h
  refine sg_topi e_v2_1 ?_
  refine sg_istore_n (pn := 6) (i := 2) (lv' := [(0, .ref (ad 0)), (1, .int a1), (2, .int v2_1)]) dX12_drift_5 rfl rfl (Nat.le_of_ble_eq_true rfl) [1, 2, 0] rfl ?_
  refine sg_iload_n (pn := 7) (i := 2) dX12_drift_6 rfl rfl 2 rfl ?_
  refine sg_if_eq (pn := 10) (tgt := 12) dX12_drift_7 rfl (by decide) (fun hc => ?_) (fun hc => ?_)
  · have h := sg_ifp hc h
    refine sg_aload_n (pn := 13) (i := 0) dX12_drift_12 rfl rfl 0 rfl ?_
    obtain ⟨r2, h_r2, h⟩ := sg_bind h
    refine sg_callVv (pn := 16) (rest := []) 0 dX12_drift_13 rfl kb_X12_233 kv_X12_remember (by exact rfl) rfl (Nat.le_of_ble_eq_true rfl) (gM_remember_ok h_r2) rfl rfl (Nat.le_of_ble_eq_true rfl) ?_
    refine sg_iconst (pn := 17) dX12_drift_16 rfl ic_0 ?_
    refine sg_istore_n (pn := 18) (i := 3) (lv' := [(0, .ref (ad 0)), (1, .int a1), (2, .int v2_1), (3, .int (0 : Int32))]) dX12_drift_17 rfl rfl (Nat.le_of_ble_eq_true rfl) [1, 2, 3, 0] rfl ?_
    refine sg_sub [0, 1, 3] rfl ?_
    exact gM_drift_L_ok n _ _ _ _ h
  · have h := sg_ifn hc h
    refine sg_iload_n (pn := 11) (i := 2) dX12_drift_10 rfl rfl 2 rfl ?_
    obtain rfl := Option.some.inj h
    exact sg_iret dX12_drift_11 rfl ⟨rfl, rfl⟩
set_option maxRecDepth 4000 in
theorem gM_undo_L_ok {l : Launch} {D : va_G} {cI cZ : ClassId} {ad : Nat → Nat} : ∀ (n : Nat) (v1 : Int32) (z : sg_M) (r : Int32 × sg_M), gM_undo_L n v1 z = some r → sg_G (eM l D cI cZ ad) yX12_undo cX12_undo 2 (some .int) 1 22 [(0, .ref (ad 0)), (1, .int v1)] [] z (sg_is (some (.int r.1)) r.2) := by
  intro n
  induction n with
  | zero => intro v1 z r h; cases h
  | succ n ih =>
    intro v1 z r h
    unfold gM_undo_L at h
    refine sg_iload_n (pn := 23) (i := 1) dX12_undo_22 rfl rfl 1 rfl ?_
    refine sg_bipush (pn := 25) dX12_undo_23 rfl ib_106 ?_
    refine sg_icmp_ge (pn := 28) (tgt := 54) dX12_undo_25 rfl (by decide) (fun hc => ?_) (fun hc => ?_)
    · have h := sg_ifp hc h
      refine sg_aload_n (pn := 55) (i := 0) dX12_undo_54 rfl rfl 0 rfl ?_
      refine gfM_0_24 (pn := 58) dX12_undo_55 rfl lf_X12_160 ?_
      obtain rfl := Option.some.inj h
      exact sg_iret dX12_undo_58 rfl ⟨rfl, rfl⟩
    · have h := sg_ifn hc h
      refine sg_aload_n (pn := 29) (i := 0) dX12_undo_28 rfl rfl 0 rfl ?_
      refine gfM_0_8 (pn := 32) dX12_undo_29 rfl lf_X12_25 ?_
      refine sg_iload_n (pn := 33) (i := 1) dX12_undo_32 rfl rfl 1 rfl ?_
      refine sg_aload_n (pn := 34) (i := 0) dX12_undo_33 rfl rfl 0 rfl ?_
      refine gfM_0_25 (pn := 37) dX12_undo_34 rfl lf_X12_50 ?_
      refine sg_bipush (pn := 39) dX12_undo_37 rfl ib_106 ?_
      refine sg_aload_n (pn := 40) (i := 0) dX12_undo_39 rfl rfl 0 rfl ?_
      refine gfM_0_24 (pn := 43) dX12_undo_40 rfl lf_X12_160 ?_
      refine sg_imul (pn := 44) dX12_undo_43 rfl ?_
      refine sg_iload_n (pn := 45) (i := 1) dX12_undo_44 rfl rfl 1 rfl ?_
      refine sg_iadd (pn := 46) dX12_undo_45 rfl ?_
      obtain ⟨hg, h⟩ := sg_guard h
      refine alM_13 (pn := 47) dX12_undo_46 rfl (sg_in_vp hg) ?_
      obtain ⟨hg, h⟩ := sg_guard h
      refine asM_6 (pn := 48) dX12_undo_47 rfl (sg_in_vp hg) ?_
      obtain ⟨z2, e_z2, h⟩ := sg_letE h
      refine sg_zE e_z2 ?_
      refine sg_iinc (pn := 51) (i := 1) (lv' := [(0, .ref (ad 0)), (1, .int (v1 + (1 : Int32)))]) dX12_undo_48 rfl 1 rfl (ii_1 _) (Nat.le_of_ble_eq_true rfl) [1, 0] rfl ?_
      refine sg_goto (tgt := 22) dX12_undo_51 (by decide) ?_
      exact ih _ _ _ h
set_option maxRecDepth 4000 in
theorem gM_undo_ok {l : Launch} {D : va_G} {cI cZ : ClassId} {ad : Nat → Nat} {n : Nat} {z : sg_M} {r : Int32 × sg_M} (h : gM_undo n z = some r) : sg_Met (eM l D cI cZ ad) yX12_undo cX12_undo 2 (some .int) 1 [.ref (ad 0)] z (sg_is (some (.int r.1)) r.2) := by
  refine sg_enter (lv0 := [(0, .ref (ad 0))]) pn_X12 (Nat.le_of_ble_eq_true rfl) rfl ?_
  unfold gM_undo at h
  refine sg_aload_n (pn := 1) (i := 0) dX12_undo_0 rfl rfl 0 rfl ?_
  refine gfM_0_24 (pn := 4) dX12_undo_1 rfl lf_X12_160 ?_
  refine sg_if_ne (pn := 7) (tgt := 10) dX12_undo_4 rfl (by decide) (fun hc => ?_) (fun hc => ?_)
  · have h := sg_ifn hc h
    refine sg_aload_n (pn := 11) (i := 0) dX12_undo_10 rfl rfl 0 rfl ?_
    refine sg_dup (pn := 12) dX12_undo_11 rfl rfl ?_
    refine gfM_0_24 (pn := 15) dX12_undo_12 rfl lf_X12_160 ?_
    refine sg_iconst (pn := 16) dX12_undo_15 rfl ic_1 ?_
    refine sg_isub (pn := 17) dX12_undo_16 rfl ?_
    refine pfM_0_24 (pn := 20) dX12_undo_17 rfl lf_X12_160 ?_
    obtain ⟨z1, e_z1, h⟩ := sg_letE h
    refine sg_zE e_z1 ?_
    refine sg_iconst (pn := 21) dX12_undo_20 rfl ic_0 ?_
    refine sg_istore_n (pn := 22) (i := 1) (lv' := [(0, .ref (ad 0)), (1, .int (0 : Int32))]) dX12_undo_21 rfl rfl (Nat.le_of_ble_eq_true rfl) [1, 0] rfl ?_
    exact gM_undo_L_ok n _ _ _ h
  · have h := sg_ifp hc h
    refine sg_ldc (pn := 9) dX12_undo_7 rfl kc_X12_232 ?_
    obtain rfl := Option.some.inj h
    exact sg_iret dX12_undo_9 rfl ⟨rfl, rfl⟩
set_option maxRecDepth 4000 in
theorem gM_stops_ok {l : Launch} {D : va_G} {cI cZ : ClassId} {ad : Nat → Nat} {n : Nat} {a1 : Int32} {a2 : Int32} {z : sg_M} {r : Int32} (h : gM_stops n a1 a2 z = some r) : sg_Met (eM l D cI cZ ad) yX12_stops cX12_stops 3 (some .int) 5 [.ref (ad 0), .int a1, .int a2] z (sg_is (some (.int r)) z) := by
  refine sg_enter (lv0 := [(0, .ref (ad 0)), (1, .int a1), (2, .int a2)]) pn_X12 (Nat.le_of_ble_eq_true rfl) rfl ?_
  unfold gM_stops at h
  refine sg_aload_n (pn := 1) (i := 0) dX12_stops_0 rfl rfl 0 rfl ?_
  refine sg_iload_n (pn := 2) (i := 1) dX12_stops_1 rfl rfl 1 rfl ?_
  refine sg_callVi (pn := 5) (rest := []) 0 dX12_stops_2 rfl kb_X12_226 kv_X12_isCart (by exact rfl) rfl (Nat.le_of_ble_eq_true rfl) (gM_isCart_ok rfl) rfl rfl (Nat.le_of_ble_eq_true rfl) ?_
  refine sg_if_ne (pn := 8) (tgt := 11) dX12_stops_5 rfl (by decide) (fun hc => ?_) (fun hc => ?_)
  · have h := sg_ifn hc h
    refine sg_iload_n (pn := 12) (i := 2) dX12_stops_11 rfl rfl 2 rfl ?_
    refine sg_i2l (pn := 13) dX12_stops_12 rfl ?_
    refine sg_lconst (pn := 14) dX12_stops_13 rfl lc_0 ?_
    refine sg_ldc2 (pn := 17) dX12_stops_14 rfl kl_X12_272 ?_
    refine sg_callSi (pn := 20) (rest := []) dX12_stops_17 rfl kb_X12_81 ks_X12_in (Nat.le_of_ble_eq_true rfl) (gM_in_ok rfl) rfl rfl (Nat.le_of_ble_eq_true rfl) ?_
    refine sg_if_eq (pn := 23) (tgt := 36) dX12_stops_20 rfl (by decide) (fun hc => ?_) (fun hc => ?_)
    · have h := sg_ifp hc h
      refine sg_ldc (pn := 38) dX12_stops_36 rfl kc_X12_90 ?_
      obtain rfl := Option.some.inj h
      exact sg_iret dX12_stops_38 rfl ⟨rfl, rfl⟩
    · have h := sg_ifn hc h
      refine sg_aload_n (pn := 24) (i := 0) dX12_stops_23 rfl rfl 0 rfl ?_
      refine sg_iload_n (pn := 25) (i := 1) dX12_stops_24 rfl rfl 1 rfl ?_
      refine sg_aload_n (pn := 26) (i := 0) dX12_stops_25 rfl rfl 0 rfl ?_
      refine sg_iload_n (pn := 27) (i := 2) dX12_stops_26 rfl rfl 2 rfl ?_
      obtain ⟨r1, h_r1, h⟩ := sg_bind h
      refine sg_callVi (pn := 30) (rest := [.int a1, .ref (ad 0)]) 0 dX12_stops_27 rfl kb_X12_167 kv_X12_wetBehind (by exact rfl) rfl (Nat.le_of_ble_eq_true rfl) (gM_wetBehind_ok h_r1) rfl rfl (Nat.le_of_ble_eq_true rfl) ?_
      obtain ⟨r2, h_r2, h⟩ := sg_bind h
      refine sg_callVi (pn := 33) (rest := []) 0 dX12_stops_30 rfl kb_X12_190 kv_X12_stopOf (by exact rfl) rfl (Nat.le_of_ble_eq_true rfl) (gM_stopOf_ok h_r2) rfl rfl (Nat.le_of_ble_eq_true rfl) ?_
      refine sg_goto (tgt := 38) dX12_stops_33 (by decide) ?_
      obtain rfl := Option.some.inj h
      exact sg_iret dX12_stops_38 rfl ⟨rfl, rfl⟩
  · have h := sg_ifp hc h
    refine sg_ldc (pn := 10) dX12_stops_8 rfl kc_X12_225 ?_
    obtain rfl := Option.some.inj h
    exact sg_iret dX12_stops_10 rfl ⟨rfl, rfl⟩
set_option maxRecDepth 4000 in
theorem gM_soonest_L_ok {l : Launch} {D : va_G} {cI cZ : ClassId} {ad : Nat → Nat} : ∀ (n : Nat) (v1 : Int32) (v2 : Int32) (v3 : Int32) (z : sg_M) (r : Int32), gM_soonest_L n v1 v2 v3 z = some r → sg_G (eM l D cI cZ ad) yX12_soonest cX12_soonest 4 (some .int) 5 21 [(0, .ref (ad 0)), (1, .int v1), (2, .int v2), (3, .int v3)] [] z (sg_is (some (.int r)) z) := by
  intro n
  induction n with
  | zero => intro v1 v2 v3 z r h; cases h
  | succ n ih =>
    intro v1 v2 v3 z r h
    unfold gM_soonest_L at h
    refine sg_iload_n (pn := 22) (i := 3) dX12_soonest_21 rfl rfl 3 rfl ?_
    refine sg_bipush (pn := 24) dX12_soonest_22 rfl ib_100 ?_
    refine sg_icmp_gt (pn := 27) (tgt := 49) dX12_soonest_24 rfl (by decide) (fun hc => ?_) (fun hc => ?_)
    · have h := sg_ifp hc h
      refine sg_iconst (pn := 50) dX12_soonest_49 rfl ic_m1 ?_
      obtain rfl := Option.some.inj h
      exact sg_iret dX12_soonest_50 rfl ⟨rfl, rfl⟩
    · have h := sg_ifn hc h
      refine sg_aload_n (pn := 28) (i := 0) dX12_soonest_27 rfl rfl 0 rfl ?_
      refine sg_iload_n (pn := 29) (i := 1) dX12_soonest_28 rfl rfl 1 rfl ?_
      refine sg_aload_n (pn := 30) (i := 0) dX12_soonest_29 rfl rfl 0 rfl ?_
      refine sg_iload_n (pn := 31) (i := 3) dX12_soonest_30 rfl rfl 3 rfl ?_
      obtain ⟨r1, h_r1, h⟩ := sg_bind h
      refine sg_callVi (pn := 34) (rest := [.int v1, .ref (ad 0)]) 0 dX12_soonest_31 rfl kb_X12_167 kv_X12_wetBehind (by exact rfl) rfl (Nat.le_of_ble_eq_true rfl) (gM_wetBehind_ok h_r1) rfl rfl (Nat.le_of_ble_eq_true rfl) ?_
      obtain ⟨r2, h_r2, h⟩ := sg_bind h
      refine sg_callVi (pn := 37) (rest := []) 0 dX12_soonest_34 rfl kb_X12_190 kv_X12_stopOf (by exact rfl) rfl (Nat.le_of_ble_eq_true rfl) (gM_stopOf_ok h_r2) rfl rfl (Nat.le_of_ble_eq_true rfl) ?_
      refine sg_iload_n (pn := 38) (i := 2) dX12_soonest_37 rfl rfl 2 rfl ?_
      refine sg_icmp_ne (pn := 41) (tgt := 43) dX12_soonest_38 rfl (by decide) (fun hc => ?_) (fun hc => ?_)
      · have h := sg_ifn hc h
        refine sg_iinc (pn := 46) (i := 3) (lv' := [(0, .ref (ad 0)), (1, .int v1), (2, .int v2), (3, .int (v3 + (1 : Int32)))]) dX12_soonest_43 rfl 3 rfl (ii_1 _) (Nat.le_of_ble_eq_true rfl) [1, 2, 3, 0] rfl ?_
        refine sg_goto (tgt := 21) dX12_soonest_46 (by decide) ?_
        exact ih _ _ _ _ _ h
      · have h := sg_ifp hc h
        refine sg_iload_n (pn := 42) (i := 3) dX12_soonest_41 rfl rfl 3 rfl ?_
        obtain rfl := Option.some.inj h
        exact sg_iret dX12_soonest_42 rfl ⟨rfl, rfl⟩
set_option maxRecDepth 4000 in
theorem gM_soonest_ok {l : Launch} {D : va_G} {cI cZ : ClassId} {ad : Nat → Nat} {n : Nat} {a1 : Int32} {a2 : Int32} {z : sg_M} {r : Int32} (h : gM_soonest n a1 a2 z = some r) : sg_Met (eM l D cI cZ ad) yX12_soonest cX12_soonest 4 (some .int) 5 [.ref (ad 0), .int a1, .int a2] z (sg_is (some (.int r)) z) := by
  refine sg_enter (lv0 := [(0, .ref (ad 0)), (1, .int a1), (2, .int a2)]) pn_X12 (Nat.le_of_ble_eq_true rfl) rfl ?_
  unfold gM_soonest at h
  refine sg_aload_n (pn := 1) (i := 0) dX12_soonest_0 rfl rfl 0 rfl ?_
  refine sg_iload_n (pn := 2) (i := 1) dX12_soonest_1 rfl rfl 1 rfl ?_
  refine sg_callVi (pn := 5) (rest := []) 0 dX12_soonest_2 rfl kb_X12_226 kv_X12_isCart (by exact rfl) rfl (Nat.le_of_ble_eq_true rfl) (gM_isCart_ok rfl) rfl rfl (Nat.le_of_ble_eq_true rfl) ?_
  refine sg_if_eq (pn := 8) (tgt := 16) dX12_soonest_5 rfl (by decide) (fun hc => ?_) (fun hc => ?_)
  · have h := sg_ifp hc h
    refine sg_ldc (pn := 18) dX12_soonest_16 rfl kc_X12_225 ?_
    obtain rfl := Option.some.inj h
    exact sg_iret dX12_soonest_18 rfl ⟨rfl, rfl⟩
  · have h := sg_ifn hc h
    refine sg_aload_n (pn := 9) (i := 0) dX12_soonest_8 rfl rfl 0 rfl ?_
    refine sg_iload_n (pn := 10) (i := 2) dX12_soonest_9 rfl rfl 2 rfl ?_
    refine sg_callVi (pn := 13) (rest := []) 0 dX12_soonest_10 rfl kb_X12_222 kv_X12_isCell (by exact rfl) rfl (Nat.le_of_ble_eq_true rfl) (gM_isCell_ok rfl) rfl rfl (Nat.le_of_ble_eq_true rfl) ?_
    refine sg_if_ne (pn := 16) (tgt := 19) dX12_soonest_13 rfl (by decide) (fun hc => ?_) (fun hc => ?_)
    · have h := sg_ifn hc h
      refine sg_iconst (pn := 20) dX12_soonest_19 rfl ic_0 ?_
      refine sg_istore_n (pn := 21) (i := 3) (lv' := [(0, .ref (ad 0)), (1, .int a1), (2, .int a2), (3, .int (0 : Int32))]) dX12_soonest_20 rfl rfl (Nat.le_of_ble_eq_true rfl) [1, 2, 3, 0] rfl ?_
      exact gM_soonest_L_ok n _ _ _ _ _ h
    · have h := sg_ifp hc h
      refine sg_ldc (pn := 18) dX12_soonest_16 rfl kc_X12_225 ?_
      obtain rfl := Option.some.inj h
      exact sg_iret dX12_soonest_18 rfl ⟨rfl, rfl⟩
set_option maxRecDepth 4000 in
theorem gM_loads_L_ok {l : Launch} {D : va_G} {cI cZ : ClassId} {ad : Nat → Nat} : ∀ (n : Nat) (v1 : Int32) (v2 : Int32) (v3 : Int32) (v4 : Int32) (v5 : Int32) (v6 : Int32) (v7 : Int32) (z : sg_M) (r : Int32), gM_loads_L n v1 v2 v3 v4 v5 v6 v7 z = some r → sg_G (eM l D cI cZ ad) yX12_loads cX12_loads 8 (some .int) 4 46 [(0, .ref (ad 0)), (1, .int v1), (2, .int v2), (3, .int v3), (4, .int v4), (5, .int v5), (6, .int v6), (7, .int v7)] [] z (sg_is (some (.int r)) z) := by
  intro n
  induction n with
  | zero => intro v1 v2 v3 v4 v5 v6 v7 z r h; cases h
  | succ n ih =>
    intro v1 v2 v3 v4 v5 v6 v7 z r h
    unfold gM_loads_L at h
    refine sg_iload (pn := 48) (i := 7) dX12_loads_46 rfl 7 rfl ?_
    refine sg_bipush (pn := 50) dX12_loads_48 rfl ib_60 ?_
    refine sg_icmp_gt (pn := 53) (tgt := 95) dX12_loads_50 rfl (by decide) (fun hc => ?_) (fun hc => ?_)
    · have h := sg_ifp hc h
      refine sg_iload_n (pn := 96) (i := 3) dX12_loads_95 rfl rfl 3 rfl ?_
      refine sg_if_ne (pn := 99) (tgt := 104) dX12_loads_96 rfl (by decide) (fun hc => ?_) (fun hc => ?_)
      · have h := sg_ifn hc h
        refine sg_iload_n (pn := 105) (i := 3) dX12_loads_104 rfl rfl 3 rfl ?_
        refine sg_iconst (pn := 106) dX12_loads_105 rfl ic_1 ?_
        refine sg_icmp_ne (pn := 109) (tgt := 114) dX12_loads_106 rfl (by decide) (fun hc => ?_) (fun hc => ?_)
        · have h := sg_ifn hc h
          refine sg_iload (pn := 116) (i := 6) dX12_loads_114 rfl 6 rfl ?_
          obtain rfl := Option.some.inj h
          exact sg_iret dX12_loads_116 rfl ⟨rfl, rfl⟩
        · have h := sg_ifp hc h
          refine sg_iload (pn := 111) (i := 5) dX12_loads_109 rfl 5 rfl ?_
          refine sg_goto (tgt := 116) dX12_loads_111 (by decide) ?_
          obtain rfl := Option.some.inj h
          exact sg_iret dX12_loads_116 rfl ⟨rfl, rfl⟩
      · have h := sg_ifp hc h
        refine sg_iload (pn := 101) (i := 4) dX12_loads_99 rfl 4 rfl ?_
        refine sg_goto (tgt := 116) dX12_loads_101 (by decide) ?_
        obtain rfl := Option.some.inj h
        exact sg_iret dX12_loads_116 rfl ⟨rfl, rfl⟩
    · have h := sg_ifn hc h
      refine sg_aload_n (pn := 54) (i := 0) dX12_loads_53 rfl rfl 0 rfl ?_
      refine sg_iload_n (pn := 55) (i := 1) dX12_loads_54 rfl rfl 1 rfl ?_
      refine sg_iload (pn := 57) (i := 7) dX12_loads_55 rfl 7 rfl ?_
      refine sg_aload_n (pn := 58) (i := 0) dX12_loads_57 rfl rfl 0 rfl ?_
      obtain ⟨r1, h_r1, h⟩ := sg_bind h
      refine sg_callVi (pn := 61) (rest := [.int v7, .int v1, .ref (ad 0)]) 0 dX12_loads_58 rfl kb_X12_187 kv_X12_wet (by exact rfl) rfl (Nat.le_of_ble_eq_true rfl) (gM_wet_ok h_r1) rfl rfl (Nat.le_of_ble_eq_true rfl) ?_
      obtain ⟨r2, h_r2, h⟩ := sg_bind h
      refine sg_callVi (pn := 64) (rest := []) 0 dX12_loads_61 rfl kb_X12_180 kv_X12_stopBy (by exact rfl) rfl (Nat.le_of_ble_eq_true rfl) (gM_stopBy_ok h_r2) rfl rfl (Nat.le_of_ble_eq_true rfl) ?_
      refine sg_iload_n (pn := 65) (i := 2) dX12_loads_64 rfl rfl 2 rfl ?_
      obtain ⟨t4, e_t4, h2⟩ := sg_bind h
      have hm_t4 : sg_G (eM l D cI cZ ad) yX12_loads cX12_loads 8 (some .int) 4 89 [(0, .ref (ad 0)), (1, .int v1), (2, .int v2), (3, .int v3), (4, .int t4.1), (5, .int t4.2.1), (6, .int t4.2.2), (7, .int v7)] [] z (sg_is (some (.int r)) z) := by
        have h := h2
        refine sg_iinc (pn := 92) (i := 7) (lv' := [(0, .ref (ad 0)), (1, .int v1), (2, .int v2), (3, .int v3), (4, .int t4.1), (5, .int t4.2.1), (6, .int t4.2.2), (7, .int (v7 + (1 : Int32)))]) dX12_loads_89 rfl 7 rfl (ii_1 _) (Nat.le_of_ble_eq_true rfl) [1, 2, 3, 4, 5, 6, 7, 0] rfl ?_
        refine sg_goto (tgt := 46) dX12_loads_92 (by decide) ?_
        exact ih _ _ _ _ _ _ _ _ _ h
      have h := e_t4
      refine sg_icmp_ne (pn := 68) (tgt := 89) dX12_loads_65 rfl (by decide) (fun hc => ?_) (fun hc => ?_)
      · have h := sg_ifn hc h
        obtain rfl := Option.some.inj h
        exact hm_t4
      · have h := sg_ifp hc h
        refine sg_iload (pn := 70) (i := 4) dX12_loads_68 rfl 4 rfl ?_
        obtain ⟨t3, e_t3, h2⟩ := sg_letJ h
        have hm_t3 : sg_G (eM l D cI cZ ad) yX12_loads cX12_loads 8 (some .int) 4 80 [(0, .ref (ad 0)), (1, .int v1), (2, .int v2), (3, .int v3), (4, .int v4), (7, .int v7)] [.int t3] z (sg_is (some (.int r)) z) := by
          have h := h2
          refine sg_istore (pn := 82) (i := 5) (lv' := [(0, .ref (ad 0)), (1, .int v1), (2, .int v2), (3, .int v3), (4, .int v4), (5, .int t3), (7, .int v7)]) dX12_loads_80 rfl (Nat.le_of_ble_eq_true rfl) [1, 2, 3, 4, 5, 0, 6] rfl ?_
          refine sg_iload (pn := 84) (i := 7) dX12_loads_82 rfl 6 rfl ?_
          refine sg_istore (pn := 86) (i := 6) (lv' := [(0, .ref (ad 0)), (1, .int v1), (2, .int v2), (3, .int v3), (4, .int v4), (5, .int t3), (6, .int v7), (7, .int v7)]) dX12_loads_84 rfl (Nat.le_of_ble_eq_true rfl) [1, 2, 3, 4, 5, 6, 0, 7] rfl ?_
          refine sg_iinc (pn := 89) (i := 4) (lv' := [(0, .ref (ad 0)), (1, .int v1), (2, .int v2), (3, .int v3), (4, .int (v4 + (1 : Int32))), (5, .int t3), (6, .int v7), (7, .int v7)]) dX12_loads_86 rfl 4 rfl (ii_1 _) (Nat.le_of_ble_eq_true rfl) [1, 2, 3, 4, 0, 5, 6, 7] rfl ?_
          obtain rfl := Option.some.inj h
          exact hm_t4
        have h := e_t3
        refine sg_if_ne (pn := 73) (tgt := 78) dX12_loads_70 rfl (by decide) (fun hc => ?_) (fun hc => ?_)
        · have h := sg_ifn hc h
          refine sg_iload (pn := 80) (i := 5) dX12_loads_78 rfl 5 rfl ?_
          subst h
          refine sg_sub [0, 1, 2, 3, 4, 7] rfl ?_
          exact hm_t3
        · have h := sg_ifp hc h
          refine sg_iload (pn := 75) (i := 7) dX12_loads_73 rfl 7 rfl ?_
          refine sg_goto (tgt := 80) dX12_loads_75 (by decide) ?_
          subst h
          refine sg_sub [0, 1, 2, 3, 4, 7] rfl ?_
          exact hm_t3
set_option maxRecDepth 4000 in
theorem gM_loads_ok {l : Launch} {D : va_G} {cI cZ : ClassId} {ad : Nat → Nat} {n : Nat} {a1 : Int32} {a2 : Int32} {a3 : Int32} {z : sg_M} {r : Int32} (h : gM_loads n a1 a2 a3 z = some r) : sg_Met (eM l D cI cZ ad) yX12_loads cX12_loads 8 (some .int) 4 [.ref (ad 0), .int a1, .int a2, .int a3] z (sg_is (some (.int r)) z) := by
  refine sg_enter (lv0 := [(0, .ref (ad 0)), (1, .int a1), (2, .int a2), (3, .int a3)]) pn_X12 (Nat.le_of_ble_eq_true rfl) rfl ?_
  unfold gM_loads at h
  refine sg_aload_n (pn := 1) (i := 0) dX12_loads_0 rfl rfl 0 rfl ?_
  refine sg_iload_n (pn := 2) (i := 1) dX12_loads_1 rfl rfl 1 rfl ?_
  refine sg_callVi (pn := 5) (rest := []) 0 dX12_loads_2 rfl kb_X12_226 kv_X12_isCart (by exact rfl) rfl (Nat.le_of_ble_eq_true rfl) (gM_isCart_ok rfl) rfl rfl (Nat.le_of_ble_eq_true rfl) ?_
  refine sg_if_eq (pn := 8) (tgt := 16) dX12_loads_5 rfl (by decide) (fun hc => ?_) (fun hc => ?_)
  · have h := sg_ifp hc h
    refine sg_ldc (pn := 18) dX12_loads_16 rfl kc_X12_225 ?_
    obtain rfl := Option.some.inj h
    exact sg_iret dX12_loads_18 rfl ⟨rfl, rfl⟩
  · have h := sg_ifn hc h
    refine sg_aload_n (pn := 9) (i := 0) dX12_loads_8 rfl rfl 0 rfl ?_
    refine sg_iload_n (pn := 10) (i := 2) dX12_loads_9 rfl rfl 2 rfl ?_
    refine sg_callVi (pn := 13) (rest := []) 0 dX12_loads_10 rfl kb_X12_222 kv_X12_isCell (by exact rfl) rfl (Nat.le_of_ble_eq_true rfl) (gM_isCell_ok rfl) rfl rfl (Nat.le_of_ble_eq_true rfl) ?_
    refine sg_if_ne (pn := 16) (tgt := 19) dX12_loads_13 rfl (by decide) (fun hc => ?_) (fun hc => ?_)
    · have h := sg_ifn hc h
      refine sg_iload_n (pn := 20) (i := 3) dX12_loads_19 rfl rfl 3 rfl ?_
      refine sg_i2l (pn := 21) dX12_loads_20 rfl ?_
      refine sg_lconst (pn := 22) dX12_loads_21 rfl lc_0 ?_
      refine sg_ldc2 (pn := 25) dX12_loads_22 rfl kl_X12_274 ?_
      refine sg_callSi (pn := 28) (rest := []) dX12_loads_25 rfl kb_X12_81 ks_X12_in (Nat.le_of_ble_eq_true rfl) (gM_in_ok rfl) rfl rfl (Nat.le_of_ble_eq_true rfl) ?_
      refine sg_if_ne (pn := 31) (tgt := 34) dX12_loads_28 rfl (by decide) (fun hc => ?_) (fun hc => ?_)
      · have h := sg_ifn hc h
        refine sg_iconst (pn := 35) dX12_loads_34 rfl ic_0 ?_
        refine sg_istore (pn := 37) (i := 4) (lv' := [(0, .ref (ad 0)), (1, .int a1), (2, .int a2), (3, .int a3), (4, .int (0 : Int32))]) dX12_loads_35 rfl (Nat.le_of_ble_eq_true rfl) [1, 2, 3, 4, 0] rfl ?_
        refine sg_iconst (pn := 38) dX12_loads_37 rfl ic_m1 ?_
        refine sg_istore (pn := 40) (i := 5) (lv' := [(0, .ref (ad 0)), (1, .int a1), (2, .int a2), (3, .int a3), (4, .int (0 : Int32)), (5, .int (-1 : Int32))]) dX12_loads_38 rfl (Nat.le_of_ble_eq_true rfl) [1, 2, 3, 4, 5, 0] rfl ?_
        refine sg_iconst (pn := 41) dX12_loads_40 rfl ic_m1 ?_
        refine sg_istore (pn := 43) (i := 6) (lv' := [(0, .ref (ad 0)), (1, .int a1), (2, .int a2), (3, .int a3), (4, .int (0 : Int32)), (5, .int (-1 : Int32)), (6, .int (-1 : Int32))]) dX12_loads_41 rfl (Nat.le_of_ble_eq_true rfl) [1, 2, 3, 4, 5, 6, 0] rfl ?_
        refine sg_iconst (pn := 44) dX12_loads_43 rfl ic_1 ?_
        refine sg_istore (pn := 46) (i := 7) (lv' := [(0, .ref (ad 0)), (1, .int a1), (2, .int a2), (3, .int a3), (4, .int (0 : Int32)), (5, .int (-1 : Int32)), (6, .int (-1 : Int32)), (7, .int (1 : Int32))]) dX12_loads_44 rfl (Nat.le_of_ble_eq_true rfl) [1, 2, 3, 4, 5, 6, 7, 0] rfl ?_
        exact gM_loads_L_ok n _ _ _ _ _ _ _ _ _ h
      · have h := sg_ifp hc h
        refine sg_ldc (pn := 33) dX12_loads_31 rfl kc_X12_90 ?_
        obtain rfl := Option.some.inj h
        exact sg_iret dX12_loads_33 rfl ⟨rfl, rfl⟩
    · have h := sg_ifp hc h
      refine sg_ldc (pn := 18) dX12_loads_16 rfl kc_X12_225 ?_
      obtain rfl := Option.some.inj h
      exact sg_iret dX12_loads_18 rfl ⟨rfl, rfl⟩
set_option maxRecDepth 4000 in
theorem gM_needOf_ok {l : Launch} {D : va_G} {cI cZ : ClassId} {ad : Nat → Nat} {n : Nat} {a1 : Int32} {a2 : Int32} {z : sg_M} {r : Int32} (h : gM_needOf n a1 a2 z = some r) : sg_Met (eM l D cI cZ ad) yX12_needOf cX12_needOf 4 (some .int) 4 [.ref (ad 0), .int a1, .int a2] z (sg_is (some (.int r)) z) := by
  refine sg_enter (lv0 := [(0, .ref (ad 0)), (1, .int a1), (2, .int a2)]) pn_X12 (Nat.le_of_ble_eq_true rfl) rfl ?_
  unfold gM_needOf at h
  refine sg_aload_n (pn := 1) (i := 0) dX12_needOf_0 rfl rfl 0 rfl ?_
  refine sg_iload_n (pn := 2) (i := 1) dX12_needOf_1 rfl rfl 1 rfl ?_
  refine sg_aload_n (pn := 3) (i := 0) dX12_needOf_2 rfl rfl 0 rfl ?_
  refine gfM_0_8 (pn := 6) dX12_needOf_3 rfl lf_X12_25 ?_
  refine sg_bipush (pn := 8) dX12_needOf_6 rfl ib_80 ?_
  refine sg_iload_n (pn := 9) (i := 1) dX12_needOf_8 rfl rfl 1 rfl ?_
  refine sg_iadd (pn := 10) dX12_needOf_9 rfl ?_
  obtain ⟨hg, h⟩ := sg_guard h
  refine alM_6 (pn := 11) dX12_needOf_10 rfl (sg_in_vp hg) ?_
  obtain ⟨r1, h_r1, h⟩ := sg_bind h
  refine sg_callVi (pn := 14) (rest := []) 0 dX12_needOf_11 rfl kb_X12_177 kv_X12_weighs (by exact rfl) rfl (Nat.le_of_ble_eq_true rfl) (gM_weighs_ok h_r1) rfl rfl (Nat.le_of_ble_eq_true rfl) ?_
  refine sg_istore_n (pn := 15) (i := 3) (lv' := [(0, .ref (ad 0)), (1, .int a1), (2, .int a2), (3, .int r1)]) dX12_needOf_14 rfl rfl (Nat.le_of_ble_eq_true rfl) [1, 2, 3, 0] rfl ?_
  refine sg_iload_n (pn := 16) (i := 3) dX12_needOf_15 rfl rfl 3 rfl ?_
  refine sg_bipush (pn := 18) dX12_needOf_16 rfl ib_60 ?_
  refine sg_icmp_lt (pn := 21) (tgt := 25) dX12_needOf_18 rfl (by decide) (fun hc => ?_) (fun hc => ?_)
  · have h := sg_ifp hc h
    refine sg_aload_n (pn := 26) (i := 0) dX12_needOf_25 rfl rfl 0 rfl ?_
    refine sg_iload_n (pn := 27) (i := 1) dX12_needOf_26 rfl rfl 1 rfl ?_
    refine sg_iload_n (pn := 28) (i := 2) dX12_needOf_27 rfl rfl 2 rfl ?_
    refine sg_aload_n (pn := 29) (i := 0) dX12_needOf_28 rfl rfl 0 rfl ?_
    obtain ⟨r2, h_r2, h⟩ := sg_bind h
    refine sg_callVi (pn := 32) (rest := [.int a2, .int a1, .ref (ad 0)]) 0 dX12_needOf_29 rfl kb_X12_187 kv_X12_wet (by exact rfl) rfl (Nat.le_of_ble_eq_true rfl) (gM_wet_ok h_r2) rfl rfl (Nat.le_of_ble_eq_true rfl) ?_
    obtain ⟨r3, h_r3, h⟩ := sg_bind h
    refine sg_callVi (pn := 35) (rest := []) 0 dX12_needOf_32 rfl kb_X12_173 kv_X12_groundOf (by exact rfl) rfl (Nat.le_of_ble_eq_true rfl) (gM_groundOf_ok h_r3) rfl rfl (Nat.le_of_ble_eq_true rfl) ?_
    refine sg_iload_n (pn := 36) (i := 3) dX12_needOf_35 rfl rfl 3 rfl ?_
    refine sg_iadd (pn := 37) dX12_needOf_36 rfl ?_
    refine sg_bipush (pn := 39) dX12_needOf_37 rfl ib_60 ?_
    refine sg_isub (pn := 40) dX12_needOf_39 rfl ?_
    refine sg_iconst (pn := 41) dX12_needOf_40 rfl ic_1 ?_
    refine sg_iadd (pn := 42) dX12_needOf_41 rfl ?_
    refine sg_callSi (pn := 45) (rest := []) dX12_needOf_42 rfl kb_X12_170 ks_X12_notBelow (Nat.le_of_ble_eq_true rfl) (gM_notBelow_ok rfl) rfl rfl (Nat.le_of_ble_eq_true rfl) ?_
    obtain rfl := Option.some.inj h
    exact sg_iret dX12_needOf_45 rfl ⟨rfl, rfl⟩
  · have h := sg_ifn hc h
    refine sg_iconst (pn := 22) dX12_needOf_21 rfl ic_m1 ?_
    refine sg_goto (tgt := 45) dX12_needOf_22 (by decide) ?_
    obtain rfl := Option.some.inj h
    exact sg_iret dX12_needOf_45 rfl ⟨rfl, rfl⟩
set_option maxRecDepth 4000 in
theorem gM_gravelTo_L_ok {l : Launch} {D : va_G} {cI cZ : ClassId} {ad : Nat → Nat} : ∀ (n : Nat) (v1 : Int32) (v2 : Int32) (v3 : Int32) (v4 : Int32) (z : sg_M) (r : Int32), gM_gravelTo_L n v1 v2 v3 v4 z = some r → sg_G (eM l D cI cZ ad) yX12_gravelTo cX12_gravelTo 6 (some .int) 5 24 [(0, .ref (ad 0)), (1, .int v1), (2, .int v2), (3, .int v3), (4, .int v4)] [] z (sg_is (some (.int r)) z) := by
  intro n
  induction n with
  | zero => intro v1 v2 v3 v4 z r h; cases h
  | succ n ih =>
    intro v1 v2 v3 v4 z r h
    unfold gM_gravelTo_L at h
    refine sg_iload (pn := 26) (i := 4) dX12_gravelTo_24 rfl 4 rfl ?_
    refine sg_iload_n (pn := 27) (i := 2) dX12_gravelTo_26 rfl rfl 2 rfl ?_
    refine sg_icmp_ge (pn := 30) (tgt := 57) dX12_gravelTo_27 rfl (by decide) (fun hc => ?_) (fun hc => ?_)
    · have h := sg_ifp hc h
      refine sg_iload_n (pn := 58) (i := 3) dX12_gravelTo_57 rfl rfl 3 rfl ?_
      obtain rfl := Option.some.inj h
      exact sg_iret dX12_gravelTo_58 rfl ⟨rfl, rfl⟩
    · have h := sg_ifn hc h
      refine sg_aload_n (pn := 31) (i := 0) dX12_gravelTo_30 rfl rfl 0 rfl ?_
      refine sg_iload_n (pn := 32) (i := 1) dX12_gravelTo_31 rfl rfl 1 rfl ?_
      refine sg_iload (pn := 34) (i := 4) dX12_gravelTo_32 rfl 4 rfl ?_
      obtain ⟨r1, h_r1, h⟩ := sg_bind h
      refine sg_callVi (pn := 37) (rest := []) 0 dX12_gravelTo_34 rfl kb_X12_276 kv_X12_needOf (by exact rfl) rfl (Nat.le_of_ble_eq_true rfl) (gM_needOf_ok h_r1) rfl rfl (Nat.le_of_ble_eq_true rfl) ?_
      refine sg_istore (pn := 39) (i := 5) (lv' := [(0, .ref (ad 0)), (1, .int v1), (2, .int v2), (3, .int v3), (4, .int v4), (5, .int r1)]) dX12_gravelTo_37 rfl (Nat.le_of_ble_eq_true rfl) [1, 2, 3, 4, 5, 0] rfl ?_
      refine sg_iload (pn := 41) (i := 5) dX12_gravelTo_39 rfl 5 rfl ?_
      refine sg_if_ge (pn := 44) (tgt := 46) dX12_gravelTo_41 rfl (by decide) (fun hc => ?_) (fun hc => ?_)
      · have h := sg_ifp hc h
        refine sg_iload_n (pn := 47) (i := 3) dX12_gravelTo_46 rfl rfl 3 rfl ?_
        refine sg_iload (pn := 49) (i := 5) dX12_gravelTo_47 rfl 5 rfl ?_
        refine sg_iadd (pn := 50) dX12_gravelTo_49 rfl ?_
        obtain ⟨v3_2, e_v3_2, h⟩ := sg_letE h
        refine sg_topi e_v3_2 ?_
        refine sg_istore_n (pn := 51) (i := 3) (lv' := [(0, .ref (ad 0)), (1, .int v1), (2, .int v2), (3, .int v3_2), (4, .int v4), (5, .int r1)]) dX12_gravelTo_50 rfl rfl (Nat.le_of_ble_eq_true rfl) [1, 2, 3, 0, 4, 5] rfl ?_
        refine sg_iinc (pn := 54) (i := 4) (lv' := [(0, .ref (ad 0)), (1, .int v1), (2, .int v2), (3, .int v3_2), (4, .int (v4 + (1 : Int32))), (5, .int r1)]) dX12_gravelTo_51 rfl 4 rfl (ii_1 _) (Nat.le_of_ble_eq_true rfl) [1, 2, 3, 4, 0, 5] rfl ?_
        refine sg_goto (tgt := 24) dX12_gravelTo_54 (by decide) ?_
        refine sg_sub [0, 1, 2, 3, 4] rfl ?_
        exact ih _ _ _ _ _ _ h
      · have h := sg_ifn hc h
        refine sg_iconst (pn := 45) dX12_gravelTo_44 rfl ic_m1 ?_
        obtain rfl := Option.some.inj h
        exact sg_iret dX12_gravelTo_45 rfl ⟨rfl, rfl⟩
set_option maxRecDepth 4000 in
theorem gM_gravelTo_ok {l : Launch} {D : va_G} {cI cZ : ClassId} {ad : Nat → Nat} {n : Nat} {a1 : Int32} {a2 : Int32} {z : sg_M} {r : Int32} (h : gM_gravelTo n a1 a2 z = some r) : sg_Met (eM l D cI cZ ad) yX12_gravelTo cX12_gravelTo 6 (some .int) 5 [.ref (ad 0), .int a1, .int a2] z (sg_is (some (.int r)) z) := by
  refine sg_enter (lv0 := [(0, .ref (ad 0)), (1, .int a1), (2, .int a2)]) pn_X12 (Nat.le_of_ble_eq_true rfl) rfl ?_
  unfold gM_gravelTo at h
  refine sg_aload_n (pn := 1) (i := 0) dX12_gravelTo_0 rfl rfl 0 rfl ?_
  refine sg_iload_n (pn := 2) (i := 1) dX12_gravelTo_1 rfl rfl 1 rfl ?_
  refine sg_callVi (pn := 5) (rest := []) 0 dX12_gravelTo_2 rfl kb_X12_226 kv_X12_isCart (by exact rfl) rfl (Nat.le_of_ble_eq_true rfl) (gM_isCart_ok rfl) rfl rfl (Nat.le_of_ble_eq_true rfl) ?_
  refine sg_if_eq (pn := 8) (tgt := 16) dX12_gravelTo_5 rfl (by decide) (fun hc => ?_) (fun hc => ?_)
  · have h := sg_ifp hc h
    refine sg_ldc (pn := 18) dX12_gravelTo_16 rfl kc_X12_225 ?_
    obtain rfl := Option.some.inj h
    exact sg_iret dX12_gravelTo_18 rfl ⟨rfl, rfl⟩
  · have h := sg_ifn hc h
    refine sg_aload_n (pn := 9) (i := 0) dX12_gravelTo_8 rfl rfl 0 rfl ?_
    refine sg_iload_n (pn := 10) (i := 2) dX12_gravelTo_9 rfl rfl 2 rfl ?_
    refine sg_callVi (pn := 13) (rest := []) 0 dX12_gravelTo_10 rfl kb_X12_222 kv_X12_isCell (by exact rfl) rfl (Nat.le_of_ble_eq_true rfl) (gM_isCell_ok rfl) rfl rfl (Nat.le_of_ble_eq_true rfl) ?_
    refine sg_if_ne (pn := 16) (tgt := 19) dX12_gravelTo_13 rfl (by decide) (fun hc => ?_) (fun hc => ?_)
    · have h := sg_ifn hc h
      refine sg_iconst (pn := 20) dX12_gravelTo_19 rfl ic_0 ?_
      refine sg_istore_n (pn := 21) (i := 3) (lv' := [(0, .ref (ad 0)), (1, .int a1), (2, .int a2), (3, .int (0 : Int32))]) dX12_gravelTo_20 rfl rfl (Nat.le_of_ble_eq_true rfl) [1, 2, 3, 0] rfl ?_
      refine sg_iconst (pn := 22) dX12_gravelTo_21 rfl ic_0 ?_
      refine sg_istore (pn := 24) (i := 4) (lv' := [(0, .ref (ad 0)), (1, .int a1), (2, .int a2), (3, .int (0 : Int32)), (4, .int (0 : Int32))]) dX12_gravelTo_22 rfl (Nat.le_of_ble_eq_true rfl) [1, 2, 3, 4, 0] rfl ?_
      exact gM_gravelTo_L_ok n _ _ _ _ _ _ h
    · have h := sg_ifp hc h
      refine sg_ldc (pn := 18) dX12_gravelTo_16 rfl kc_X12_225 ?_
      obtain rfl := Option.some.inj h
      exact sg_iret dX12_gravelTo_18 rfl ⟨rfl, rfl⟩
set_option maxRecDepth 4000 in
theorem gM_isSet_ok {l : Launch} {D : va_G} {cI cZ : ClassId} {ad : Nat → Nat} {a1 : Int32} {z : sg_M} {r : Int32} (h : gM_isSet a1 z = r) : sg_Met (eM l D cI cZ ad) yX12_isSet cX12_isSet 2 (some .boolean) 2 [.ref (ad 0), .int a1] z (sg_is (some (.int r)) z) := by
  refine sg_enter (lv0 := [(0, .ref (ad 0)), (1, .int a1)]) pn_X12 (Nat.le_of_ble_eq_true rfl) rfl ?_
  unfold gM_isSet at h
  refine sg_iload_n (pn := 1) (i := 1) dX12_isSet_0 rfl rfl 1 rfl ?_
  refine sg_i2l (pn := 2) dX12_isSet_1 rfl ?_
  refine sg_lconst (pn := 3) dX12_isSet_2 rfl lc_0 ?_
  refine sg_iconst (pn := 4) dX12_isSet_3 rfl ic_1 ?_
  refine sg_aload_n (pn := 5) (i := 0) dX12_isSet_4 rfl rfl 0 rfl ?_
  refine gfM_0_4 (pn := 8) dX12_isSet_5 rfl lf_X12_85 ?_
  refine sg_ishl (pn := 9) dX12_isSet_8 rfl ?_
  refine sg_iconst (pn := 10) dX12_isSet_9 rfl ic_1 ?_
  refine sg_isub (pn := 11) dX12_isSet_10 rfl ?_
  refine sg_i2l (pn := 12) dX12_isSet_11 rfl ?_
  refine sg_callSi (pn := 15) (rest := []) dX12_isSet_12 rfl kb_X12_81 ks_X12_in (Nat.le_of_ble_eq_true rfl) (gM_in_ok rfl) rfl rfl (Nat.le_of_ble_eq_true rfl) ?_
  subst h
  exact sg_zret dX12_isSet_15 rfl (sg_bool_n (gM_in_b)) ⟨rfl, rfl⟩
set_option maxRecDepth 4000 in
theorem gM_gravelForAll_LL_ok {l : Launch} {D : va_G} {cI cZ : ClassId} {ad : Nat → Nat} : ∀ (n : Nat), (∀ (v1 : Int32) (v2 : Int32) (v3 : Int32) (v4 : Int32) (v5 : Int32) (z : sg_M) (r : Int32), gM_gravelForAll_LL n 15 v1 v2 v3 v4 v5 z = some r → sg_G (eM l D cI cZ ad) yX12_gravelForAll cX12_gravelForAll 7 (some .int) 5 15 [(0, .ref (ad 0)), (1, .int v1), (2, .int v2), (3, .int v3)] [] z (sg_is (some (.int r)) z)) ∧ (∀ (v1 : Int32) (v2 : Int32) (v3 : Int32) (v4 : Int32) (v5 : Int32) (z : sg_M) (r : Int32), gM_gravelForAll_LL n 29 v1 v2 v3 v4 v5 z = some r → sg_G (eM l D cI cZ ad) yX12_gravelForAll cX12_gravelForAll 7 (some .int) 5 29 [(0, .ref (ad 0)), (1, .int v1), (2, .int v2), (3, .int v3), (4, .int v4), (5, .int v5)] [] z (sg_is (some (.int r)) z)) := by
  intro n
  induction n with
  | zero => exact ⟨(fun _ _ _ _ _ _ _ h => by cases h), (fun _ _ _ _ _ _ _ h => by cases h)⟩
  | succ n ih =>
    refine ⟨?_, ?_⟩
    · intro v1 v2 v3 v4 v5 z r h
      unfold gM_gravelForAll_LL at h
      have h := sg_ifp (show (15 : Nat) = 15 from rfl) h
      refine sg_iload_n (pn := 16) (i := 3) dX12_gravelForAll_15 rfl rfl 3 rfl ?_
      refine sg_aload_n (pn := 17) (i := 0) dX12_gravelForAll_16 rfl rfl 0 rfl ?_
      refine gfM_0_0 (pn := 20) dX12_gravelForAll_17 rfl lf_X12_78 ?_
      refine sg_icmp_ge (pn := 23) (tgt := 100) dX12_gravelForAll_20 rfl (by decide) (fun hc => ?_) (fun hc => ?_)
      · have h := sg_ifp hc h
        refine sg_iload_n (pn := 101) (i := 2) dX12_gravelForAll_100 rfl rfl 2 rfl ?_
        obtain rfl := Option.some.inj h
        exact sg_iret dX12_gravelForAll_101 rfl ⟨rfl, rfl⟩
      · have h := sg_ifn hc h
        refine sg_iconst (pn := 24) dX12_gravelForAll_23 rfl ic_0 ?_
        refine sg_istore (pn := 26) (i := 4) (lv' := [(0, .ref (ad 0)), (1, .int v1), (2, .int v2), (3, .int v3), (4, .int (0 : Int32))]) dX12_gravelForAll_24 rfl (Nat.le_of_ble_eq_true rfl) [1, 2, 3, 4, 0] rfl ?_
        refine sg_iconst (pn := 27) dX12_gravelForAll_26 rfl ic_0 ?_
        refine sg_istore (pn := 29) (i := 5) (lv' := [(0, .ref (ad 0)), (1, .int v1), (2, .int v2), (3, .int v3), (4, .int (0 : Int32)), (5, .int (0 : Int32))]) dX12_gravelForAll_27 rfl (Nat.le_of_ble_eq_true rfl) [1, 2, 3, 4, 5, 0] rfl ?_
        exact ih.2 _ _ _ _ _ _ _ h
    · intro v1 v2 v3 v4 v5 z r h
      unfold gM_gravelForAll_LL at h
      have h := sg_ifn (show ¬ (29 : Nat) = 15 by decide) h
      have h := sg_ifp (show (29 : Nat) = 29 from rfl) h
      refine sg_iload (pn := 31) (i := 5) dX12_gravelForAll_29 rfl 5 rfl ?_
      refine sg_aload_n (pn := 32) (i := 0) dX12_gravelForAll_31 rfl rfl 0 rfl ?_
      refine gfM_0_4 (pn := 35) dX12_gravelForAll_32 rfl lf_X12_85 ?_
      refine sg_icmp_ge (pn := 38) (tgt := 89) dX12_gravelForAll_35 rfl (by decide) (fun hc => ?_) (fun hc => ?_)
      · have h := sg_ifp hc h
        refine sg_iload_n (pn := 90) (i := 2) dX12_gravelForAll_89 rfl rfl 2 rfl ?_
        refine sg_iload (pn := 92) (i := 4) dX12_gravelForAll_90 rfl 4 rfl ?_
        refine sg_iadd (pn := 93) dX12_gravelForAll_92 rfl ?_
        obtain ⟨v2_1, e_v2_1, h⟩ := sg_letE h
        refine sg_topi e_v2_1 ?_
        refine sg_istore_n (pn := 94) (i := 2) (lv' := [(0, .ref (ad 0)), (1, .int v1), (2, .int v2_1), (3, .int v3), (4, .int v4), (5, .int v5)]) dX12_gravelForAll_93 rfl rfl (Nat.le_of_ble_eq_true rfl) [1, 2, 0, 3, 4, 5] rfl ?_
        refine sg_iinc (pn := 97) (i := 3) (lv' := [(0, .ref (ad 0)), (1, .int v1), (2, .int v2_1), (3, .int (v3 + (1 : Int32))), (4, .int v4), (5, .int v5)]) dX12_gravelForAll_94 rfl 3 rfl (ii_1 _) (Nat.le_of_ble_eq_true rfl) [1, 2, 3, 0, 4, 5] rfl ?_
        refine sg_goto (tgt := 15) dX12_gravelForAll_97 (by decide) ?_
        refine sg_sub [0, 1, 2, 3] rfl ?_
        exact ih.1 _ _ _ _ _ _ _ h
      · have h := sg_ifn hc h
        refine sg_iload_n (pn := 39) (i := 1) dX12_gravelForAll_38 rfl rfl 1 rfl ?_
        refine sg_iload (pn := 41) (i := 5) dX12_gravelForAll_39 rfl 5 rfl ?_
        refine sg_callSi (pn := 44) (rest := []) dX12_gravelForAll_41 rfl kb_X12_194 ks_X12_has (Nat.le_of_ble_eq_true rfl) (gM_has_ok rfl) rfl rfl (Nat.le_of_ble_eq_true rfl) ?_
        obtain ⟨t3, e_t3, h2⟩ := sg_bind h
        have hm_t3 : sg_G (eM l D cI cZ ad) yX12_gravelForAll cX12_gravelForAll 7 (some .int) 5 58 [(0, .ref (ad 0)), (1, .int v1), (2, .int v2), (3, .int v3), (4, .int v4), (5, .int v5)] [.int t3] z (sg_is (some (.int r)) z) := by
          have h := h2
          refine sg_istore (pn := 60) (i := 6) (lv' := [(0, .ref (ad 0)), (1, .int v1), (2, .int v2), (3, .int v3), (4, .int v4), (5, .int v5), (6, .int t3)]) dX12_gravelForAll_58 rfl (Nat.le_of_ble_eq_true rfl) [1, 2, 3, 4, 5, 6, 0] rfl ?_
          refine sg_iload (pn := 62) (i := 6) dX12_gravelForAll_60 rfl 6 rfl ?_
          refine sg_if_ge (pn := 65) (tgt := 67) dX12_gravelForAll_62 rfl (by decide) (fun hc => ?_) (fun hc => ?_)
          · have h := sg_ifp hc h
            refine sg_iload (pn := 69) (i := 6) dX12_gravelForAll_67 rfl 6 rfl ?_
            refine sg_iload (pn := 71) (i := 4) dX12_gravelForAll_69 rfl 4 rfl ?_
            obtain ⟨t4, e_t4, h2⟩ := sg_letJ h
            have hm_t4 : sg_G (eM l D cI cZ ad) yX12_gravelForAll cX12_gravelForAll 7 (some .int) 5 81 [(0, .ref (ad 0)), (1, .int v1), (2, .int v2), (3, .int v3), (5, .int v5)] [.int t4] z (sg_is (some (.int r)) z) := by
              have h := h2
              refine sg_istore (pn := 83) (i := 4) (lv' := [(0, .ref (ad 0)), (1, .int v1), (2, .int v2), (3, .int v3), (4, .int t4), (5, .int v5)]) dX12_gravelForAll_81 rfl (Nat.le_of_ble_eq_true rfl) [1, 2, 3, 4, 0, 5] rfl ?_
              refine sg_iinc (pn := 86) (i := 5) (lv' := [(0, .ref (ad 0)), (1, .int v1), (2, .int v2), (3, .int v3), (4, .int t4), (5, .int (v5 + (1 : Int32)))]) dX12_gravelForAll_83 rfl 5 rfl (ii_1 _) (Nat.le_of_ble_eq_true rfl) [1, 2, 3, 4, 5, 0] rfl ?_
              refine sg_goto (tgt := 29) dX12_gravelForAll_86 (by decide) ?_
              exact ih.2 _ _ _ _ _ _ _ h
            have h := e_t4
            refine sg_icmp_le (pn := 74) (tgt := 79) dX12_gravelForAll_71 rfl (by decide) (fun hc => ?_) (fun hc => ?_)
            · have h := sg_ifp hc h
              refine sg_iload (pn := 81) (i := 4) dX12_gravelForAll_79 rfl 4 rfl ?_
              subst h
              refine sg_sub [0, 1, 2, 3, 5] rfl ?_
              exact hm_t4
            · have h := sg_ifn hc h
              refine sg_iload (pn := 76) (i := 6) dX12_gravelForAll_74 rfl 6 rfl ?_
              refine sg_goto (tgt := 81) dX12_gravelForAll_76 (by decide) ?_
              subst h
              refine sg_sub [0, 1, 2, 3, 5] rfl ?_
              exact hm_t4
          · have h := sg_ifn hc h
            refine sg_iconst (pn := 66) dX12_gravelForAll_65 rfl ic_m1 ?_
            obtain rfl := Option.some.inj h
            exact sg_iret dX12_gravelForAll_66 rfl ⟨rfl, rfl⟩
        have h := e_t3
        refine sg_if_eq (pn := 47) (tgt := 57) dX12_gravelForAll_44 rfl (by decide) (fun hc => ?_) (fun hc => ?_)
        · have h := sg_ifp hc h
          refine sg_iconst (pn := 58) dX12_gravelForAll_57 rfl ic_0 ?_
          obtain rfl := Option.some.inj h
          exact hm_t3
        · have h := sg_ifn hc h
          refine sg_aload_n (pn := 48) (i := 0) dX12_gravelForAll_47 rfl rfl 0 rfl ?_
          refine sg_iload (pn := 50) (i := 5) dX12_gravelForAll_48 rfl 5 rfl ?_
          refine sg_iload_n (pn := 51) (i := 3) dX12_gravelForAll_50 rfl rfl 3 rfl ?_
          obtain ⟨r2, h_r2, h⟩ := sg_bind h
          refine sg_callVi (pn := 54) (rest := []) 0 dX12_gravelForAll_51 rfl kb_X12_276 kv_X12_needOf (by exact rfl) rfl (Nat.le_of_ble_eq_true rfl) (gM_needOf_ok h_r2) rfl rfl (Nat.le_of_ble_eq_true rfl) ?_
          refine sg_goto (tgt := 58) dX12_gravelForAll_54 (by decide) ?_
          obtain rfl := Option.some.inj h
          exact hm_t3
set_option maxRecDepth 4000 in
theorem gM_gravelForAll_ok {l : Launch} {D : va_G} {cI cZ : ClassId} {ad : Nat → Nat} {n : Nat} {a1 : Int32} {z : sg_M} {r : Int32} (h : gM_gravelForAll n a1 z = some r) : sg_Met (eM l D cI cZ ad) yX12_gravelForAll cX12_gravelForAll 7 (some .int) 5 [.ref (ad 0), .int a1] z (sg_is (some (.int r)) z) := by
  refine sg_enter (lv0 := [(0, .ref (ad 0)), (1, .int a1)]) pn_X12 (Nat.le_of_ble_eq_true rfl) rfl ?_
  unfold gM_gravelForAll at h
  refine sg_aload_n (pn := 1) (i := 0) dX12_gravelForAll_0 rfl rfl 0 rfl ?_
  refine sg_iload_n (pn := 2) (i := 1) dX12_gravelForAll_1 rfl rfl 1 rfl ?_
  refine sg_callVi (pn := 5) (rest := []) 0 dX12_gravelForAll_2 rfl kb_X12_279 kv_X12_isSet (by exact rfl) rfl (Nat.le_of_ble_eq_true rfl) (gM_isSet_ok rfl) rfl rfl (Nat.le_of_ble_eq_true rfl) ?_
  refine sg_if_ne (pn := 8) (tgt := 11) dX12_gravelForAll_5 rfl (by decide) (fun hc => ?_) (fun hc => ?_)
  · have h := sg_ifn hc h
    refine sg_iconst (pn := 12) dX12_gravelForAll_11 rfl ic_0 ?_
    refine sg_istore_n (pn := 13) (i := 2) (lv' := [(0, .ref (ad 0)), (1, .int a1), (2, .int (0 : Int32))]) dX12_gravelForAll_12 rfl rfl (Nat.le_of_ble_eq_true rfl) [1, 2, 0] rfl ?_
    refine sg_iconst (pn := 14) dX12_gravelForAll_13 rfl ic_0 ?_
    refine sg_istore_n (pn := 15) (i := 3) (lv' := [(0, .ref (ad 0)), (1, .int a1), (2, .int (0 : Int32)), (3, .int (0 : Int32))]) dX12_gravelForAll_14 rfl rfl (Nat.le_of_ble_eq_true rfl) [1, 2, 3, 0] rfl ?_
    exact (gM_gravelForAll_LL_ok n).1 _ _ _ _ _ _ _ h
  · have h := sg_ifp hc h
    refine sg_ldc (pn := 10) dX12_gravelForAll_8 rfl kc_X12_225 ?_
    obtain rfl := Option.some.inj h
    exact sg_iret dX12_gravelForAll_10 rfl ⟨rfl, rfl⟩
set_option maxRecDepth 4000 in
theorem gM_bits_L_ok {l : Launch} {D : va_G} {cI cZ : ClassId} {ad : Nat → Nat} : ∀ (n : Nat) (v0 : Int32) (v1 : Int32) (v2 : Int32) (z : sg_M) (r : Int32), gM_bits_L n v0 v1 v2 z = some r → sg_G (eM l D cI cZ ad) yX12_bits cX12_bits 3 (some .int) 1 4 [(0, .int v0), (1, .int v1), (2, .int v2)] [] z (sg_is (some (.int r)) z) := by
  intro n
  induction n with
  | zero => intro v0 v1 v2 z r h; cases h
  | succ n ih =>
    intro v0 v1 v2 z r h
    unfold gM_bits_L at h
    refine sg_iload_n (pn := 5) (i := 2) dX12_bits_4 rfl rfl 2 rfl ?_
    refine sg_bipush (pn := 7) dX12_bits_5 rfl ib_20 ?_
    refine sg_icmp_ge (pn := 10) (tgt := 24) dX12_bits_7 rfl (by decide) (fun hc => ?_) (fun hc => ?_)
    · have h := sg_ifp hc h
      refine sg_iload_n (pn := 25) (i := 1) dX12_bits_24 rfl rfl 1 rfl ?_
      obtain rfl := Option.some.inj h
      exact sg_iret dX12_bits_25 rfl ⟨rfl, rfl⟩
    · have h := sg_ifn hc h
      refine sg_iload_n (pn := 11) (i := 1) dX12_bits_10 rfl rfl 1 rfl ?_
      refine sg_iload_n (pn := 12) (i := 0) dX12_bits_11 rfl rfl 0 rfl ?_
      refine sg_iload_n (pn := 13) (i := 2) dX12_bits_12 rfl rfl 2 rfl ?_
      refine sg_ishr (pn := 14) dX12_bits_13 rfl ?_
      refine sg_iconst (pn := 15) dX12_bits_14 rfl ic_1 ?_
      refine sg_iand (pn := 16) dX12_bits_15 rfl ?_
      refine sg_iadd (pn := 17) dX12_bits_16 rfl ?_
      obtain ⟨v1_1, e_v1_1, h⟩ := sg_letE h
      refine sg_topi e_v1_1 ?_
      refine sg_istore_n (pn := 18) (i := 1) (lv' := [(0, .int v0), (1, .int v1_1), (2, .int v2)]) dX12_bits_17 rfl rfl (Nat.le_of_ble_eq_true rfl) [1, 0, 2] rfl ?_
      refine sg_iinc (pn := 21) (i := 2) (lv' := [(0, .int v0), (1, .int v1_1), (2, .int (v2 + (1 : Int32)))]) dX12_bits_18 rfl 2 rfl (ii_1 _) (Nat.le_of_ble_eq_true rfl) [1, 2, 0] rfl ?_
      refine sg_goto (tgt := 4) dX12_bits_21 (by decide) ?_
      exact ih _ _ _ _ _ h
set_option maxRecDepth 4000 in
theorem gM_bits_ok {l : Launch} {D : va_G} {cI cZ : ClassId} {ad : Nat → Nat} {n : Nat} {a0 : Int32} {z : sg_M} {r : Int32} (h : gM_bits n a0 z = some r) : sg_Met (eM l D cI cZ ad) yX12_bits cX12_bits 3 (some .int) 1 [.int a0] z (sg_is (some (.int r)) z) := by
  refine sg_enter (lv0 := [(0, .int a0)]) pn_X12 (Nat.le_of_ble_eq_true rfl) rfl ?_
  unfold gM_bits at h
  refine sg_iconst (pn := 1) dX12_bits_0 rfl ic_0 ?_
  refine sg_istore_n (pn := 2) (i := 1) (lv' := [(0, .int a0), (1, .int (0 : Int32))]) dX12_bits_1 rfl rfl (Nat.le_of_ble_eq_true rfl) [1, 0] rfl ?_
  refine sg_iconst (pn := 3) dX12_bits_2 rfl ic_0 ?_
  refine sg_istore_n (pn := 4) (i := 2) (lv' := [(0, .int a0), (1, .int (0 : Int32)), (2, .int (0 : Int32))]) dX12_bits_3 rfl rfl (Nat.le_of_ble_eq_true rfl) [1, 2, 0] rfl ?_
  exact gM_bits_L_ok n _ _ _ _ _ h
