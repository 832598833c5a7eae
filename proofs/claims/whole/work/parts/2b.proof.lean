set_option maxRecDepth 4000 in
theorem gC_Road_become_ok {l : Launch} {D : va_G} {cI cZ : ClassId} {ad : Nat → Nat} {z : sg_M} {r : sg_M} (h : gC_Road_become z = some r) : sg_Met (eC l D cI cZ ad) yX6_become cX6_become 2 none 1 [.ref (ad 9), .ref (ad 2)] z (sg_is none r) := by
  refine sg_enter (lv0 := [(0, .ref (ad 9)), (1, .ref (ad 2))]) pn_X6 (Nat.le_of_ble_eq_true rfl) rfl ?_
  unfold gC_Road_become at h
  refine sg_aload_n (pn := 1) (i := 0) dX6_become_0 rfl rfl 0 rfl ?_
  refine sg_aload_n (pn := 2) (i := 1) dX6_become_1 rfl rfl 1 rfl ?_
  refine gfC_2_0 (pn := 5) dX6_become_2 rfl lf_X6_27 ?_
  refine pfC_9_0 (pn := 8) dX6_become_5 rfl lf_X6_27 ?_
  obtain ⟨z1, e_z1, h⟩ := sg_letE h
  refine sg_zE e_z1 ?_
  refine sg_aload_n (pn := 9) (i := 0) dX6_become_8 rfl rfl 0 rfl ?_
  refine sg_aload_n (pn := 10) (i := 1) dX6_become_9 rfl rfl 1 rfl ?_
  refine gfC_2_1 (pn := 13) dX6_become_10 rfl lf_X6_34 ?_
  refine pfC_9_1 (pn := 16) dX6_become_13 rfl lf_X6_34 ?_
  obtain ⟨z2, e_z2, h⟩ := sg_letE h
  refine sg_zE e_z2 ?_
  refine sg_aload_n (pn := 17) (i := 0) dX6_become_16 rfl rfl 0 rfl ?_
  refine sg_aload_n (pn := 18) (i := 1) dX6_become_17 rfl rfl 1 rfl ?_
  refine gfC_2_2 (pn := 21) dX6_become_18 rfl lf_X6_31 ?_
  refine pfC_9_2 (pn := 24) dX6_become_21 rfl lf_X6_31 ?_
  obtain ⟨z3, e_z3, h⟩ := sg_letE h
  refine sg_zE e_z3 ?_
  refine sg_aload_n (pn := 25) (i := 1) dX6_become_24 rfl rfl 1 rfl ?_
  refine gfC_2_3 (pn := 28) dX6_become_25 rfl lf_X6_9 ?_
  refine sg_iconst (pn := 29) dX6_become_28 rfl ic_0 ?_
  refine sg_aload_n (pn := 30) (i := 0) dX6_become_29 rfl rfl 0 rfl ?_
  refine gfC_9_3 (pn := 33) dX6_become_30 rfl lf_X6_9 ?_
  refine sg_iconst (pn := 34) dX6_become_33 rfl ic_0 ?_
  refine sg_bipush (pn := 36) dX6_become_34 rfl ib_20 ?_
  refine cpC_3_10 (pn := 39) dX6_become_36 rfl lm_X6_37 (sg_cp_of (by decide +kernel)) (Nat.le_of_ble_eq_true rfl) (Nat.le_of_ble_eq_true rfl) ?_
  obtain ⟨z4, e_z4, h⟩ := sg_letE h
  refine sg_zE e_z4 ?_
  refine sg_aload_n (pn := 40) (i := 1) dX6_become_39 rfl rfl 1 rfl ?_
  refine gfC_2_4 (pn := 43) dX6_become_40 rfl lf_X6_15 ?_
  refine sg_iconst (pn := 44) dX6_become_43 rfl ic_0 ?_
  refine sg_aload_n (pn := 45) (i := 0) dX6_become_44 rfl rfl 0 rfl ?_
  refine gfC_9_4 (pn := 48) dX6_become_45 rfl lf_X6_15 ?_
  refine sg_iconst (pn := 49) dX6_become_48 rfl ic_0 ?_
  refine sg_bipush (pn := 51) dX6_become_49 rfl ib_12 ?_
  refine cpC_4_11 (pn := 54) dX6_become_51 rfl lm_X6_37 (sg_cp_of (by decide +kernel)) (Nat.le_of_ble_eq_true rfl) (Nat.le_of_ble_eq_true rfl) ?_
  obtain ⟨z5, e_z5, h⟩ := sg_letE h
  refine sg_zE e_z5 ?_
  refine sg_aload_n (pn := 55) (i := 1) dX6_become_54 rfl rfl 1 rfl ?_
  refine gfC_2_5 (pn := 58) dX6_become_55 rfl lf_X6_18 ?_
  refine sg_iconst (pn := 59) dX6_become_58 rfl ic_0 ?_
  refine sg_aload_n (pn := 60) (i := 0) dX6_become_59 rfl rfl 0 rfl ?_
  refine gfC_9_5 (pn := 63) dX6_become_60 rfl lf_X6_18 ?_
  refine sg_iconst (pn := 64) dX6_become_63 rfl ic_0 ?_
  refine sg_bipush (pn := 66) dX6_become_64 rfl ib_8 ?_
  refine cpC_5_12 (pn := 69) dX6_become_66 rfl lm_X6_37 (sg_cp_of (by decide +kernel)) (Nat.le_of_ble_eq_true rfl) (Nat.le_of_ble_eq_true rfl) ?_
  obtain ⟨z6, e_z6, h⟩ := sg_letE h
  refine sg_zE e_z6 ?_
  refine sg_aload_n (pn := 70) (i := 1) dX6_become_69 rfl rfl 1 rfl ?_
  refine gfC_2_6 (pn := 73) dX6_become_70 rfl lf_X6_21 ?_
  refine sg_iconst (pn := 74) dX6_become_73 rfl ic_0 ?_
  refine sg_aload_n (pn := 75) (i := 0) dX6_become_74 rfl rfl 0 rfl ?_
  refine gfC_9_6 (pn := 78) dX6_become_75 rfl lf_X6_21 ?_
  refine sg_iconst (pn := 79) dX6_become_78 rfl ic_0 ?_
  refine sg_bipush (pn := 81) dX6_become_79 rfl ib_8 ?_
  refine cpC_6_13 (pn := 84) dX6_become_81 rfl lm_X6_37 (sg_cp_of (by decide +kernel)) (Nat.le_of_ble_eq_true rfl) (Nat.le_of_ble_eq_true rfl) ?_
  obtain ⟨z7, e_z7, h⟩ := sg_letE h
  refine sg_zE e_z7 ?_
  refine sg_aload_n (pn := 85) (i := 1) dX6_become_84 rfl rfl 1 rfl ?_
  refine gfC_2_7 (pn := 88) dX6_become_85 rfl lf_X6_24 ?_
  refine sg_iconst (pn := 89) dX6_become_88 rfl ic_0 ?_
  refine sg_aload_n (pn := 90) (i := 0) dX6_become_89 rfl rfl 0 rfl ?_
  refine gfC_9_7 (pn := 93) dX6_become_90 rfl lf_X6_24 ?_
  refine sg_iconst (pn := 94) dX6_become_93 rfl ic_0 ?_
  refine sg_bipush (pn := 96) dX6_become_94 rfl ib_8 ?_
  refine cpC_7_14 (pn := 99) dX6_become_96 rfl lm_X6_37 (sg_cp_of (by decide +kernel)) (Nat.le_of_ble_eq_true rfl) (Nat.le_of_ble_eq_true rfl) ?_
  obtain ⟨z8, e_z8, h⟩ := sg_letE h
  refine sg_zE e_z8 ?_
  obtain rfl := Option.some.inj h
  exact sg_vret dX6_become_99 rfl ⟨rfl, rfl⟩
set_option maxRecDepth 4000 in
theorem gC_Arrays_fill_16_L_ok {l : Launch} {D : va_G} {cI cZ : ClassId} {ad : Nat → Nat} : ∀ (n : Nat) (v1 : Int32) (v2 : Int32) (v3 : Int32) (z : sg_M) (r : sg_M), gC_Arrays_fill_16_L n v1 v2 v3 z = some r → sg_G (eC l D cI cZ ad) yJ7_fill_53178 cJ7_fill_53178 4 none 1 5 [(0, .ref (ad 16)), (1, .int v1), (2, .int v2), (3, .int v3)] [] z (sg_is none r) := by
  intro n
  induction n with
  | zero => intro v1 v2 v3 z r h; cases h
  | succ n ih =>
    intro v1 v2 v3 z r h
    unfold gC_Arrays_fill_16_L at h
    refine sg_iload_n (pn := 6) (i := 2) dJ7_fill_53178_5 rfl rfl 2 rfl ?_
    refine sg_iload_n (pn := 7) (i := 3) dJ7_fill_53178_6 rfl rfl 3 rfl ?_
    refine sg_icmp_ge (pn := 10) (tgt := 20) dJ7_fill_53178_7 rfl (by decide) (fun hc => ?_) (fun hc => ?_)
    · have h := sg_ifp hc h
      obtain rfl := Option.some.inj h
      exact sg_vret dJ7_fill_53178_20 rfl ⟨rfl, rfl⟩
    · have h := sg_ifn hc h
      refine sg_aload_n (pn := 11) (i := 0) dJ7_fill_53178_10 rfl rfl 0 rfl ?_
      refine sg_iload_n (pn := 12) (i := 2) dJ7_fill_53178_11 rfl rfl 2 rfl ?_
      refine sg_iload_n (pn := 13) (i := 1) dJ7_fill_53178_12 rfl rfl 1 rfl ?_
      obtain ⟨hg, h⟩ := sg_guard h
      refine asC_16 (pn := 14) dJ7_fill_53178_13 rfl (sg_in_vp hg) ?_
      obtain ⟨z1, e_z1, h⟩ := sg_letE h
      refine sg_zE e_z1 ?_
      refine sg_iinc (pn := 17) (i := 2) (lv' := [(0, .ref (ad 16)), (1, .int v1), (2, .int (v2 + (1 : Int32))), (3, .int v3)]) dJ7_fill_53178_14 rfl 2 rfl (ii_1 _) (Nat.le_of_ble_eq_true rfl) [1, 2, 0, 3] rfl ?_
      refine sg_goto (tgt := 5) dJ7_fill_53178_17 (by decide) ?_
      exact ih _ _ _ _ _ h
set_option maxRecDepth 4000 in
theorem gC_Arrays_fill_16_ok {l : Launch} {D : va_G} {cI cZ : ClassId} {ad : Nat → Nat} {n : Nat} {a1 : Int32} {z : sg_M} {r : sg_M} (h : gC_Arrays_fill_16 n a1 z = some r) : sg_Met (eC l D cI cZ ad) yJ7_fill_53178 cJ7_fill_53178 4 none 1 [.ref (ad 16), .int a1] z (sg_is none r) := by
  refine sg_enter (lv0 := [(0, .ref (ad 16)), (1, .int a1)]) pn_J7 (Nat.le_of_ble_eq_true rfl) rfl ?_
  unfold gC_Arrays_fill_16 at h
  refine sg_iconst (pn := 1) dJ7_fill_53178_0 rfl ic_0 ?_
  refine sg_istore_n (pn := 2) (i := 2) (lv' := [(0, .ref (ad 16)), (1, .int a1), (2, .int (0 : Int32))]) dJ7_fill_53178_1 rfl rfl (Nat.le_of_ble_eq_true rfl) [1, 2, 0] rfl ?_
  refine sg_aload_n (pn := 3) (i := 0) dJ7_fill_53178_2 rfl rfl 0 rfl ?_
  refine anC_16 (pn := 4) dJ7_fill_53178_3 rfl ?_
  refine sg_istore_n (pn := 5) (i := 3) (lv' := [(0, .ref (ad 16)), (1, .int a1), (2, .int (0 : Int32)), (3, .int (20 : Int32))]) dJ7_fill_53178_4 rfl rfl (Nat.le_of_ble_eq_true rfl) [1, 2, 3, 0] rfl ?_
  exact gC_Arrays_fill_16_L_ok n _ _ _ _ _ h
set_option maxRecDepth 4000 in
theorem gC_Arrays_fill_17_L_ok {l : Launch} {D : va_G} {cI cZ : ClassId} {ad : Nat → Nat} : ∀ (n : Nat) (v1 : Int32) (v2 : Int32) (v3 : Int32) (z : sg_M) (r : sg_M), gC_Arrays_fill_17_L n v1 v2 v3 z = some r → sg_G (eC l D cI cZ ad) yJ7_fill_53178 cJ7_fill_53178 4 none 1 5 [(0, .ref (ad 17)), (1, .int v1), (2, .int v2), (3, .int v3)] [] z (sg_is none r) := by
  intro n
  induction n with
  | zero => intro v1 v2 v3 z r h; cases h
  | succ n ih =>
    intro v1 v2 v3 z r h
    unfold gC_Arrays_fill_17_L at h
    refine sg_iload_n (pn := 6) (i := 2) dJ7_fill_53178_5 rfl rfl 2 rfl ?_
    refine sg_iload_n (pn := 7) (i := 3) dJ7_fill_53178_6 rfl rfl 3 rfl ?_
    refine sg_icmp_ge (pn := 10) (tgt := 20) dJ7_fill_53178_7 rfl (by decide) (fun hc => ?_) (fun hc => ?_)
    · have h := sg_ifp hc h
      obtain rfl := Option.some.inj h
      exact sg_vret dJ7_fill_53178_20 rfl ⟨rfl, rfl⟩
    · have h := sg_ifn hc h
      refine sg_aload_n (pn := 11) (i := 0) dJ7_fill_53178_10 rfl rfl 0 rfl ?_
      refine sg_iload_n (pn := 12) (i := 2) dJ7_fill_53178_11 rfl rfl 2 rfl ?_
      refine sg_iload_n (pn := 13) (i := 1) dJ7_fill_53178_12 rfl rfl 1 rfl ?_
      obtain ⟨hg, h⟩ := sg_guard h
      refine asC_17 (pn := 14) dJ7_fill_53178_13 rfl (sg_in_vp hg) ?_
      obtain ⟨z1, e_z1, h⟩ := sg_letE h
      refine sg_zE e_z1 ?_
      refine sg_iinc (pn := 17) (i := 2) (lv' := [(0, .ref (ad 17)), (1, .int v1), (2, .int (v2 + (1 : Int32))), (3, .int v3)]) dJ7_fill_53178_14 rfl 2 rfl (ii_1 _) (Nat.le_of_ble_eq_true rfl) [1, 2, 0, 3] rfl ?_
      refine sg_goto (tgt := 5) dJ7_fill_53178_17 (by decide) ?_
      exact ih _ _ _ _ _ h
set_option maxRecDepth 4000 in
theorem gC_Arrays_fill_17_ok {l : Launch} {D : va_G} {cI cZ : ClassId} {ad : Nat → Nat} {n : Nat} {a1 : Int32} {z : sg_M} {r : sg_M} (h : gC_Arrays_fill_17 n a1 z = some r) : sg_Met (eC l D cI cZ ad) yJ7_fill_53178 cJ7_fill_53178 4 none 1 [.ref (ad 17), .int a1] z (sg_is none r) := by
  refine sg_enter (lv0 := [(0, .ref (ad 17)), (1, .int a1)]) pn_J7 (Nat.le_of_ble_eq_true rfl) rfl ?_
  unfold gC_Arrays_fill_17 at h
  refine sg_iconst (pn := 1) dJ7_fill_53178_0 rfl ic_0 ?_
  refine sg_istore_n (pn := 2) (i := 2) (lv' := [(0, .ref (ad 17)), (1, .int a1), (2, .int (0 : Int32))]) dJ7_fill_53178_1 rfl rfl (Nat.le_of_ble_eq_true rfl) [1, 2, 0] rfl ?_
  refine sg_aload_n (pn := 3) (i := 0) dJ7_fill_53178_2 rfl rfl 0 rfl ?_
  refine anC_17 (pn := 4) dJ7_fill_53178_3 rfl ?_
  refine sg_istore_n (pn := 5) (i := 3) (lv' := [(0, .ref (ad 17)), (1, .int a1), (2, .int (0 : Int32)), (3, .int (20 : Int32))]) dJ7_fill_53178_4 rfl rfl (Nat.le_of_ble_eq_true rfl) [1, 2, 3, 0] rfl ?_
  exact gC_Arrays_fill_17_L_ok n _ _ _ _ _ h
set_option maxRecDepth 4000 in
theorem gC_Arrays_fill_18_L_ok {l : Launch} {D : va_G} {cI cZ : ClassId} {ad : Nat → Nat} : ∀ (n : Nat) (v1 : Int32) (v2 : Int32) (v3 : Int32) (z : sg_M) (r : sg_M), gC_Arrays_fill_18_L n v1 v2 v3 z = some r → sg_G (eC l D cI cZ ad) yJ7_fill_53178 cJ7_fill_53178 4 none 1 5 [(0, .ref (ad 18)), (1, .int v1), (2, .int v2), (3, .int v3)] [] z (sg_is none r) := by
  intro n
  induction n with
  | zero => intro v1 v2 v3 z r h; cases h
  | succ n ih =>
    intro v1 v2 v3 z r h
    unfold gC_Arrays_fill_18_L at h
    refine sg_iload_n (pn := 6) (i := 2) dJ7_fill_53178_5 rfl rfl 2 rfl ?_
    refine sg_iload_n (pn := 7) (i := 3) dJ7_fill_53178_6 rfl rfl 3 rfl ?_
    refine sg_icmp_ge (pn := 10) (tgt := 20) dJ7_fill_53178_7 rfl (by decide) (fun hc => ?_) (fun hc => ?_)
    · have h := sg_ifp hc h
      obtain rfl := Option.some.inj h
      exact sg_vret dJ7_fill_53178_20 rfl ⟨rfl, rfl⟩
    · have h := sg_ifn hc h
      refine sg_aload_n (pn := 11) (i := 0) dJ7_fill_53178_10 rfl rfl 0 rfl ?_
      refine sg_iload_n (pn := 12) (i := 2) dJ7_fill_53178_11 rfl rfl 2 rfl ?_
      refine sg_iload_n (pn := 13) (i := 1) dJ7_fill_53178_12 rfl rfl 1 rfl ?_
      obtain ⟨hg, h⟩ := sg_guard h
      refine asC_18 (pn := 14) dJ7_fill_53178_13 rfl (sg_in_vp hg) ?_
      obtain ⟨z1, e_z1, h⟩ := sg_letE h
      refine sg_zE e_z1 ?_
      refine sg_iinc (pn := 17) (i := 2) (lv' := [(0, .ref (ad 18)), (1, .int v1), (2, .int (v2 + (1 : Int32))), (3, .int v3)]) dJ7_fill_53178_14 rfl 2 rfl (ii_1 _) (Nat.le_of_ble_eq_true rfl) [1, 2, 0, 3] rfl ?_
      refine sg_goto (tgt := 5) dJ7_fill_53178_17 (by decide) ?_
      exact ih _ _ _ _ _ h
set_option maxRecDepth 4000 in
theorem gC_Arrays_fill_18_ok {l : Launch} {D : va_G} {cI cZ : ClassId} {ad : Nat → Nat} {n : Nat} {a1 : Int32} {z : sg_M} {r : sg_M} (h : gC_Arrays_fill_18 n a1 z = some r) : sg_Met (eC l D cI cZ ad) yJ7_fill_53178 cJ7_fill_53178 4 none 1 [.ref (ad 18), .int a1] z (sg_is none r) := by
  refine sg_enter (lv0 := [(0, .ref (ad 18)), (1, .int a1)]) pn_J7 (Nat.le_of_ble_eq_true rfl) rfl ?_
  unfold gC_Arrays_fill_18 at h
  refine sg_iconst (pn := 1) dJ7_fill_53178_0 rfl ic_0 ?_
  refine sg_istore_n (pn := 2) (i := 2) (lv' := [(0, .ref (ad 18)), (1, .int a1), (2, .int (0 : Int32))]) dJ7_fill_53178_1 rfl rfl (Nat.le_of_ble_eq_true rfl) [1, 2, 0] rfl ?_
  refine sg_aload_n (pn := 3) (i := 0) dJ7_fill_53178_2 rfl rfl 0 rfl ?_
  refine anC_18 (pn := 4) dJ7_fill_53178_3 rfl ?_
  refine sg_istore_n (pn := 5) (i := 3) (lv' := [(0, .ref (ad 18)), (1, .int a1), (2, .int (0 : Int32)), (3, .int (20 : Int32))]) dJ7_fill_53178_4 rfl rfl (Nat.le_of_ble_eq_true rfl) [1, 2, 3, 0] rfl ?_
  exact gC_Arrays_fill_18_L_ok n _ _ _ _ _ h
set_option maxRecDepth 4000 in
theorem gC_Arrays_fill_19_L_ok {l : Launch} {D : va_G} {cI cZ : ClassId} {ad : Nat → Nat} : ∀ (n : Nat) (v1 : Int32) (v2 : Int32) (v3 : Int32) (z : sg_M) (r : sg_M), gC_Arrays_fill_19_L n v1 v2 v3 z = some r → sg_G (eC l D cI cZ ad) yJ7_fill_53178 cJ7_fill_53178 4 none 1 5 [(0, .ref (ad 19)), (1, .int v1), (2, .int v2), (3, .int v3)] [] z (sg_is none r) := by
  intro n
  induction n with
  | zero => intro v1 v2 v3 z r h; cases h
  | succ n ih =>
    intro v1 v2 v3 z r h
    unfold gC_Arrays_fill_19_L at h
    refine sg_iload_n (pn := 6) (i := 2) dJ7_fill_53178_5 rfl rfl 2 rfl ?_
    refine sg_iload_n (pn := 7) (i := 3) dJ7_fill_53178_6 rfl rfl 3 rfl ?_
    refine sg_icmp_ge (pn := 10) (tgt := 20) dJ7_fill_53178_7 rfl (by decide) (fun hc => ?_) (fun hc => ?_)
    · have h := sg_ifp hc h
      obtain rfl := Option.some.inj h
      exact sg_vret dJ7_fill_53178_20 rfl ⟨rfl, rfl⟩
    · have h := sg_ifn hc h
      refine sg_aload_n (pn := 11) (i := 0) dJ7_fill_53178_10 rfl rfl 0 rfl ?_
      refine sg_iload_n (pn := 12) (i := 2) dJ7_fill_53178_11 rfl rfl 2 rfl ?_
      refine sg_iload_n (pn := 13) (i := 1) dJ7_fill_53178_12 rfl rfl 1 rfl ?_
      obtain ⟨hg, h⟩ := sg_guard h
      refine asC_19 (pn := 14) dJ7_fill_53178_13 rfl (sg_in_vp hg) ?_
      obtain ⟨z1, e_z1, h⟩ := sg_letE h
      refine sg_zE e_z1 ?_
      refine sg_iinc (pn := 17) (i := 2) (lv' := [(0, .ref (ad 19)), (1, .int v1), (2, .int (v2 + (1 : Int32))), (3, .int v3)]) dJ7_fill_53178_14 rfl 2 rfl (ii_1 _) (Nat.le_of_ble_eq_true rfl) [1, 2, 0, 3] rfl ?_
      refine sg_goto (tgt := 5) dJ7_fill_53178_17 (by decide) ?_
      exact ih _ _ _ _ _ h
set_option maxRecDepth 4000 in
theorem gC_Arrays_fill_19_ok {l : Launch} {D : va_G} {cI cZ : ClassId} {ad : Nat → Nat} {n : Nat} {a1 : Int32} {z : sg_M} {r : sg_M} (h : gC_Arrays_fill_19 n a1 z = some r) : sg_Met (eC l D cI cZ ad) yJ7_fill_53178 cJ7_fill_53178 4 none 1 [.ref (ad 19), .int a1] z (sg_is none r) := by
  refine sg_enter (lv0 := [(0, .ref (ad 19)), (1, .int a1)]) pn_J7 (Nat.le_of_ble_eq_true rfl) rfl ?_
  unfold gC_Arrays_fill_19 at h
  refine sg_iconst (pn := 1) dJ7_fill_53178_0 rfl ic_0 ?_
  refine sg_istore_n (pn := 2) (i := 2) (lv' := [(0, .ref (ad 19)), (1, .int a1), (2, .int (0 : Int32))]) dJ7_fill_53178_1 rfl rfl (Nat.le_of_ble_eq_true rfl) [1, 2, 0] rfl ?_
  refine sg_aload_n (pn := 3) (i := 0) dJ7_fill_53178_2 rfl rfl 0 rfl ?_
  refine anC_19 (pn := 4) dJ7_fill_53178_3 rfl ?_
  refine sg_istore_n (pn := 5) (i := 3) (lv' := [(0, .ref (ad 19)), (1, .int a1), (2, .int (0 : Int32)), (3, .int (20 : Int32))]) dJ7_fill_53178_4 rfl rfl (Nat.le_of_ble_eq_true rfl) [1, 2, 3, 0] rfl ?_
  exact gC_Arrays_fill_19_L_ok n _ _ _ _ _ h
set_option maxRecDepth 4000 in
theorem gC_Arrays_fill_21_L_ok {l : Launch} {D : va_G} {cI cZ : ClassId} {ad : Nat → Nat} : ∀ (n : Nat) (v1 : Int32) (v2 : Int32) (v3 : Int32) (z : sg_M) (r : sg_M), gC_Arrays_fill_21_L n v1 v2 v3 z = some r → sg_G (eC l D cI cZ ad) yJ7_fill_53178 cJ7_fill_53178 4 none 1 5 [(0, .ref (ad 21)), (1, .int v1), (2, .int v2), (3, .int v3)] [] z (sg_is none r) := by
  intro n
  induction n with
  | zero => intro v1 v2 v3 z r h; cases h
  | succ n ih =>
    intro v1 v2 v3 z r h
    unfold gC_Arrays_fill_21_L at h
    refine sg_iload_n (pn := 6) (i := 2) dJ7_fill_53178_5 rfl rfl 2 rfl ?_
    refine sg_iload_n (pn := 7) (i := 3) dJ7_fill_53178_6 rfl rfl 3 rfl ?_
    refine sg_icmp_ge (pn := 10) (tgt := 20) dJ7_fill_53178_7 rfl (by decide) (fun hc => ?_) (fun hc => ?_)
    · have h := sg_ifp hc h
      obtain rfl := Option.some.inj h
      exact sg_vret dJ7_fill_53178_20 rfl ⟨rfl, rfl⟩
    · have h := sg_ifn hc h
      refine sg_aload_n (pn := 11) (i := 0) dJ7_fill_53178_10 rfl rfl 0 rfl ?_
      refine sg_iload_n (pn := 12) (i := 2) dJ7_fill_53178_11 rfl rfl 2 rfl ?_
      refine sg_iload_n (pn := 13) (i := 1) dJ7_fill_53178_12 rfl rfl 1 rfl ?_
      obtain ⟨hg, h⟩ := sg_guard h
      refine asC_21 (pn := 14) dJ7_fill_53178_13 rfl (sg_in_vp hg) ?_
      obtain ⟨z1, e_z1, h⟩ := sg_letE h
      refine sg_zE e_z1 ?_
      refine sg_iinc (pn := 17) (i := 2) (lv' := [(0, .ref (ad 21)), (1, .int v1), (2, .int (v2 + (1 : Int32))), (3, .int v3)]) dJ7_fill_53178_14 rfl 2 rfl (ii_1 _) (Nat.le_of_ble_eq_true rfl) [1, 2, 0, 3] rfl ?_
      refine sg_goto (tgt := 5) dJ7_fill_53178_17 (by decide) ?_
      exact ih _ _ _ _ _ h
set_option maxRecDepth 4000 in
theorem gC_Arrays_fill_21_ok {l : Launch} {D : va_G} {cI cZ : ClassId} {ad : Nat → Nat} {n : Nat} {a1 : Int32} {z : sg_M} {r : sg_M} (h : gC_Arrays_fill_21 n a1 z = some r) : sg_Met (eC l D cI cZ ad) yJ7_fill_53178 cJ7_fill_53178 4 none 1 [.ref (ad 21), .int a1] z (sg_is none r) := by
  refine sg_enter (lv0 := [(0, .ref (ad 21)), (1, .int a1)]) pn_J7 (Nat.le_of_ble_eq_true rfl) rfl ?_
  unfold gC_Arrays_fill_21 at h
  refine sg_iconst (pn := 1) dJ7_fill_53178_0 rfl ic_0 ?_
  refine sg_istore_n (pn := 2) (i := 2) (lv' := [(0, .ref (ad 21)), (1, .int a1), (2, .int (0 : Int32))]) dJ7_fill_53178_1 rfl rfl (Nat.le_of_ble_eq_true rfl) [1, 2, 0] rfl ?_
  refine sg_aload_n (pn := 3) (i := 0) dJ7_fill_53178_2 rfl rfl 0 rfl ?_
  refine anC_21 (pn := 4) dJ7_fill_53178_3 rfl ?_
  refine sg_istore_n (pn := 5) (i := 3) (lv' := [(0, .ref (ad 21)), (1, .int a1), (2, .int (0 : Int32)), (3, .int (8 : Int32))]) dJ7_fill_53178_4 rfl rfl (Nat.le_of_ble_eq_true rfl) [1, 2, 3, 0] rfl ?_
  exact gC_Arrays_fill_21_L_ok n _ _ _ _ _ h
set_option maxRecDepth 4000 in
theorem gC_Arrays_fill_22_L_ok {l : Launch} {D : va_G} {cI cZ : ClassId} {ad : Nat → Nat} : ∀ (n : Nat) (v1 : Int32) (v2 : Int32) (v3 : Int32) (z : sg_M) (r : sg_M), gC_Arrays_fill_22_L n v1 v2 v3 z = some r → sg_G (eC l D cI cZ ad) yJ7_fill_53178 cJ7_fill_53178 4 none 1 5 [(0, .ref (ad 22)), (1, .int v1), (2, .int v2), (3, .int v3)] [] z (sg_is none r) := by
  intro n
  induction n with
  | zero => intro v1 v2 v3 z r h; cases h
  | succ n ih =>
    intro v1 v2 v3 z r h
    unfold gC_Arrays_fill_22_L at h
    refine sg_iload_n (pn := 6) (i := 2) dJ7_fill_53178_5 rfl rfl 2 rfl ?_
    refine sg_iload_n (pn := 7) (i := 3) dJ7_fill_53178_6 rfl rfl 3 rfl ?_
    refine sg_icmp_ge (pn := 10) (tgt := 20) dJ7_fill_53178_7 rfl (by decide) (fun hc => ?_) (fun hc => ?_)
    · have h := sg_ifp hc h
      obtain rfl := Option.some.inj h
      exact sg_vret dJ7_fill_53178_20 rfl ⟨rfl, rfl⟩
    · have h := sg_ifn hc h
      refine sg_aload_n (pn := 11) (i := 0) dJ7_fill_53178_10 rfl rfl 0 rfl ?_
      refine sg_iload_n (pn := 12) (i := 2) dJ7_fill_53178_11 rfl rfl 2 rfl ?_
      refine sg_iload_n (pn := 13) (i := 1) dJ7_fill_53178_12 rfl rfl 1 rfl ?_
      obtain ⟨hg, h⟩ := sg_guard h
      refine asC_22 (pn := 14) dJ7_fill_53178_13 rfl (sg_in_vp hg) ?_
      obtain ⟨z1, e_z1, h⟩ := sg_letE h
      refine sg_zE e_z1 ?_
      refine sg_iinc (pn := 17) (i := 2) (lv' := [(0, .ref (ad 22)), (1, .int v1), (2, .int (v2 + (1 : Int32))), (3, .int v3)]) dJ7_fill_53178_14 rfl 2 rfl (ii_1 _) (Nat.le_of_ble_eq_true rfl) [1, 2, 0, 3] rfl ?_
      refine sg_goto (tgt := 5) dJ7_fill_53178_17 (by decide) ?_
      exact ih _ _ _ _ _ h
set_option maxRecDepth 4000 in
theorem gC_Arrays_fill_22_ok {l : Launch} {D : va_G} {cI cZ : ClassId} {ad : Nat → Nat} {n : Nat} {a1 : Int32} {z : sg_M} {r : sg_M} (h : gC_Arrays_fill_22 n a1 z = some r) : sg_Met (eC l D cI cZ ad) yJ7_fill_53178 cJ7_fill_53178 4 none 1 [.ref (ad 22), .int a1] z (sg_is none r) := by
  refine sg_enter (lv0 := [(0, .ref (ad 22)), (1, .int a1)]) pn_J7 (Nat.le_of_ble_eq_true rfl) rfl ?_
  unfold gC_Arrays_fill_22 at h
  refine sg_iconst (pn := 1) dJ7_fill_53178_0 rfl ic_0 ?_
  refine sg_istore_n (pn := 2) (i := 2) (lv' := [(0, .ref (ad 22)), (1, .int a1), (2, .int (0 : Int32))]) dJ7_fill_53178_1 rfl rfl (Nat.le_of_ble_eq_true rfl) [1, 2, 0] rfl ?_
  refine sg_aload_n (pn := 3) (i := 0) dJ7_fill_53178_2 rfl rfl 0 rfl ?_
  refine anC_22 (pn := 4) dJ7_fill_53178_3 rfl ?_
  refine sg_istore_n (pn := 5) (i := 3) (lv' := [(0, .ref (ad 22)), (1, .int a1), (2, .int (0 : Int32)), (3, .int (8 : Int32))]) dJ7_fill_53178_4 rfl rfl (Nat.le_of_ble_eq_true rfl) [1, 2, 3, 0] rfl ?_
  exact gC_Arrays_fill_22_L_ok n _ _ _ _ _ h
set_option maxRecDepth 4000 in
theorem gC_State_begin_ok {l : Launch} {D : va_G} {cI cZ : ClassId} {ad : Nat → Nat} {n : Nat} {z : sg_M} {r : sg_M} (h : gC_State_begin n z = some r) : sg_Met (eC l D cI cZ ad) yX8_begin cX8_begin 2 none 2 [.ref (ad 15), .ref (ad 9)] z (sg_is none r) := by
  refine sg_enter (lv0 := [(0, .ref (ad 15)), (1, .ref (ad 9))]) pn_X8 (Nat.le_of_ble_eq_true rfl) rfl ?_
  unfold gC_State_begin at h
  refine sg_aload_n (pn := 1) (i := 0) dX8_begin_0 rfl rfl 0 rfl ?_
  refine sg_iconst (pn := 2) dX8_begin_1 rfl ic_0 ?_
  refine pfC_15_0 (pn := 5) dX8_begin_2 rfl lf_X8_33 ?_
  obtain ⟨z1, e_z1, h⟩ := sg_letE h
  refine sg_zE e_z1 ?_
  refine sg_aload_n (pn := 6) (i := 0) dX8_begin_5 rfl rfl 0 rfl ?_
  refine sg_iconst (pn := 7) dX8_begin_6 rfl ic_0 ?_
  refine pfC_15_1 (pn := 10) dX8_begin_7 rfl lf_X8_37 ?_
  obtain ⟨z2, e_z2, h⟩ := sg_letE h
  refine sg_zE e_z2 ?_
  refine sg_aload_n (pn := 11) (i := 0) dX8_begin_10 rfl rfl 0 rfl ?_
  refine gfC_15_2 (pn := 14) dX8_begin_11 rfl lf_X8_9 ?_
  refine sg_iconst (pn := 15) dX8_begin_14 rfl ic_0 ?_
  obtain ⟨r3, h_r3, h⟩ := sg_bind h
  refine sg_callSv (pn := 18) (rest := []) dX8_begin_15 rfl kb_X8_40 ks_J7_fill_53178 (Nat.le_of_ble_eq_true rfl) (gC_Arrays_fill_16_ok h_r3) rfl rfl (Nat.le_of_ble_eq_true rfl) ?_
  refine sg_aload_n (pn := 19) (i := 0) dX8_begin_18 rfl rfl 0 rfl ?_
  refine gfC_15_3 (pn := 22) dX8_begin_19 rfl lf_X8_15 ?_
  refine sg_iconst (pn := 23) dX8_begin_22 rfl ic_m1 ?_
  obtain ⟨r4, h_r4, h⟩ := sg_bind h
  refine sg_callSv (pn := 26) (rest := []) dX8_begin_23 rfl kb_X8_40 ks_J7_fill_53178 (Nat.le_of_ble_eq_true rfl) (gC_Arrays_fill_17_ok h_r4) rfl rfl (Nat.le_of_ble_eq_true rfl) ?_
  refine sg_aload_n (pn := 27) (i := 0) dX8_begin_26 rfl rfl 0 rfl ?_
  refine gfC_15_4 (pn := 30) dX8_begin_27 rfl lf_X8_18 ?_
  refine sg_iconst (pn := 31) dX8_begin_30 rfl ic_m1 ?_
  obtain ⟨r5, h_r5, h⟩ := sg_bind h
  refine sg_callSv (pn := 34) (rest := []) dX8_begin_31 rfl kb_X8_40 ks_J7_fill_53178 (Nat.le_of_ble_eq_true rfl) (gC_Arrays_fill_18_ok h_r5) rfl rfl (Nat.le_of_ble_eq_true rfl) ?_
  refine sg_aload_n (pn := 35) (i := 0) dX8_begin_34 rfl rfl 0 rfl ?_
  refine gfC_15_5 (pn := 38) dX8_begin_35 rfl lf_X8_21 ?_
  refine sg_iconst (pn := 39) dX8_begin_38 rfl ic_0 ?_
  obtain ⟨r6, h_r6, h⟩ := sg_bind h
  refine sg_callSv (pn := 42) (rest := []) dX8_begin_39 rfl kb_X8_40 ks_J7_fill_53178 (Nat.le_of_ble_eq_true rfl) (gC_Arrays_fill_19_ok h_r6) rfl rfl (Nat.le_of_ble_eq_true rfl) ?_
  refine sg_aload_n (pn := 43) (i := 1) dX8_begin_42 rfl rfl 1 rfl ?_
  refine gfC_9_6 (pn := 46) dX8_begin_43 rfl lf_X8_46 ?_
  refine sg_iconst (pn := 47) dX8_begin_46 rfl ic_0 ?_
  refine sg_aload_n (pn := 48) (i := 0) dX8_begin_47 rfl rfl 0 rfl ?_
  refine gfC_15_6 (pn := 51) dX8_begin_48 rfl lf_X8_24 ?_
  refine sg_iconst (pn := 52) dX8_begin_51 rfl ic_0 ?_
  refine sg_bipush (pn := 54) dX8_begin_52 rfl ib_8 ?_
  refine cpC_13_20 (pn := 57) dX8_begin_54 rfl lm_X8_51 (sg_cp_of (by decide +kernel)) (Nat.le_of_ble_eq_true rfl) (Nat.le_of_ble_eq_true rfl) ?_
  obtain ⟨z7, e_z7, h⟩ := sg_letE h
  refine sg_zE e_z7 ?_
  refine sg_aload_n (pn := 58) (i := 0) dX8_begin_57 rfl rfl 0 rfl ?_
  refine gfC_15_7 (pn := 61) dX8_begin_58 rfl lf_X8_27 ?_
  refine sg_iconst (pn := 62) dX8_begin_61 rfl ic_m1 ?_
  obtain ⟨r8, h_r8, h⟩ := sg_bind h
  refine sg_callSv (pn := 65) (rest := []) dX8_begin_62 rfl kb_X8_40 ks_J7_fill_53178 (Nat.le_of_ble_eq_true rfl) (gC_Arrays_fill_21_ok h_r8) rfl rfl (Nat.le_of_ble_eq_true rfl) ?_
  refine sg_aload_n (pn := 66) (i := 0) dX8_begin_65 rfl rfl 0 rfl ?_
  refine gfC_15_8 (pn := 69) dX8_begin_66 rfl lf_X8_30 ?_
  refine sg_iconst (pn := 70) dX8_begin_69 rfl ic_0 ?_
  obtain ⟨r9, h_r9, h⟩ := sg_bind h
  refine sg_callSv (pn := 73) (rest := []) dX8_begin_70 rfl kb_X8_40 ks_J7_fill_53178 (Nat.le_of_ble_eq_true rfl) (gC_Arrays_fill_22_ok h_r9) rfl rfl (Nat.le_of_ble_eq_true rfl) ?_
  obtain rfl := Option.some.inj h
  exact sg_vret dX8_begin_73 rfl ⟨rfl, rfl⟩
set_option maxRecDepth 4000 in
theorem gC_Arrays_fill_43_L_ok {l : Launch} {D : va_G} {cI cZ : ClassId} {ad : Nat → Nat} : ∀ (n : Nat) (v1 : Int32) (v2 : Int32) (v3 : Int32) (z : sg_M) (r : sg_M), gC_Arrays_fill_43_L n v1 v2 v3 z = some r → sg_G (eC l D cI cZ ad) yJ7_fill_53178 cJ7_fill_53178 4 none 1 5 [(0, .ref (ad 43)), (1, .int v1), (2, .int v2), (3, .int v3)] [] z (sg_is none r) := by
  intro n
  induction n with
  | zero => intro v1 v2 v3 z r h; cases h
  | succ n ih =>
    intro v1 v2 v3 z r h
    unfold gC_Arrays_fill_43_L at h
    refine sg_iload_n (pn := 6) (i := 2) dJ7_fill_53178_5 rfl rfl 2 rfl ?_
    refine sg_iload_n (pn := 7) (i := 3) dJ7_fill_53178_6 rfl rfl 3 rfl ?_
    refine sg_icmp_ge (pn := 10) (tgt := 20) dJ7_fill_53178_7 rfl (by decide) (fun hc => ?_) (fun hc => ?_)
    · have h := sg_ifp hc h
      obtain rfl := Option.some.inj h
      exact sg_vret dJ7_fill_53178_20 rfl ⟨rfl, rfl⟩
    · have h := sg_ifn hc h
      refine sg_aload_n (pn := 11) (i := 0) dJ7_fill_53178_10 rfl rfl 0 rfl ?_
      refine sg_iload_n (pn := 12) (i := 2) dJ7_fill_53178_11 rfl rfl 2 rfl ?_
      refine sg_iload_n (pn := 13) (i := 1) dJ7_fill_53178_12 rfl rfl 1 rfl ?_
      obtain ⟨hg, h⟩ := sg_guard h
      refine asC_43 (pn := 14) dJ7_fill_53178_13 rfl (sg_in_vp hg) ?_
      obtain ⟨z1, e_z1, h⟩ := sg_letE h
      refine sg_zE e_z1 ?_
      refine sg_iinc (pn := 17) (i := 2) (lv' := [(0, .ref (ad 43)), (1, .int v1), (2, .int (v2 + (1 : Int32))), (3, .int v3)]) dJ7_fill_53178_14 rfl 2 rfl (ii_1 _) (Nat.le_of_ble_eq_true rfl) [1, 2, 0, 3] rfl ?_
      refine sg_goto (tgt := 5) dJ7_fill_53178_17 (by decide) ?_
      exact ih _ _ _ _ _ h
set_option maxRecDepth 4000 in
theorem gC_Arrays_fill_43_ok {l : Launch} {D : va_G} {cI cZ : ClassId} {ad : Nat → Nat} {n : Nat} {a1 : Int32} {z : sg_M} {r : sg_M} (h : gC_Arrays_fill_43 n a1 z = some r) : sg_Met (eC l D cI cZ ad) yJ7_fill_53178 cJ7_fill_53178 4 none 1 [.ref (ad 43), .int a1] z (sg_is none r) := by
  refine sg_enter (lv0 := [(0, .ref (ad 43)), (1, .int a1)]) pn_J7 (Nat.le_of_ble_eq_true rfl) rfl ?_
  unfold gC_Arrays_fill_43 at h
  refine sg_iconst (pn := 1) dJ7_fill_53178_0 rfl ic_0 ?_
  refine sg_istore_n (pn := 2) (i := 2) (lv' := [(0, .ref (ad 43)), (1, .int a1), (2, .int (0 : Int32))]) dJ7_fill_53178_1 rfl rfl (Nat.le_of_ble_eq_true rfl) [1, 2, 0] rfl ?_
  refine sg_aload_n (pn := 3) (i := 0) dJ7_fill_53178_2 rfl rfl 0 rfl ?_
  refine anC_43 (pn := 4) dJ7_fill_53178_3 rfl ?_
  refine sg_istore_n (pn := 5) (i := 3) (lv' := [(0, .ref (ad 43)), (1, .int a1), (2, .int (0 : Int32)), (3, .int (2 : Int32))]) dJ7_fill_53178_4 rfl rfl (Nat.le_of_ble_eq_true rfl) [1, 2, 3, 0] rfl ?_
  exact gC_Arrays_fill_43_L_ok n _ _ _ _ _ h
set_option maxRecDepth 4000 in
theorem gC_Memory_forgetAll_L_ok {l : Launch} {D : va_G} {cI cZ : ClassId} {ad : Nat → Nat} : ∀ (n : Nat) (v1 : Int32) (z : sg_M) (r : sg_M), gC_Memory_forgetAll_L n v1 z = some r → sg_G (eC l D cI cZ ad) yX3_forgetAll cX3_forgetAll 2 none 2 15 [(0, .ref (ad 40)), (1, .int v1)] [] z (sg_is none r) := by
  intro n
  induction n with
  | zero => intro v1 z r h; cases h
  | succ n ih =>
    intro v1 z r h
    unfold gC_Memory_forgetAll_L at h
    refine sg_iload_n (pn := 16) (i := 1) dX3_forgetAll_15 rfl rfl 1 rfl ?_
    refine sg_iconst (pn := 17) dX3_forgetAll_16 rfl ic_2 ?_
    refine sg_icmp_ge (pn := 20) (tgt := 33) dX3_forgetAll_17 rfl (by decide) (fun hc => ?_) (fun hc => ?_)
    · have h := sg_ifp hc h
      obtain rfl := Option.some.inj h
      exact sg_vret dX3_forgetAll_33 rfl ⟨rfl, rfl⟩
    · have h := sg_ifn hc h
      refine sg_aload_n (pn := 21) (i := 0) dX3_forgetAll_20 rfl rfl 0 rfl ?_
      refine gfC_40_3 (pn := 24) dX3_forgetAll_21 rfl lf_X3_15 ?_
      refine sg_iload_n (pn := 25) (i := 1) dX3_forgetAll_24 rfl rfl 1 rfl ?_
      refine sg_iconst (pn := 26) dX3_forgetAll_25 rfl ic_0 ?_
      obtain ⟨hg, h⟩ := sg_guard h
      refine asC_42 (pn := 27) dX3_forgetAll_26 rfl (sg_in_vp hg) ?_
      obtain ⟨z3, e_z3, h⟩ := sg_letE h
      refine sg_zE e_z3 ?_
      refine sg_iinc (pn := 30) (i := 1) (lv' := [(0, .ref (ad 40)), (1, .int (v1 + (1 : Int32)))]) dX3_forgetAll_27 rfl 1 rfl (ii_1 _) (Nat.le_of_ble_eq_true rfl) [1, 0] rfl ?_
      refine sg_goto (tgt := 15) dX3_forgetAll_30 (by decide) ?_
      exact ih _ _ _ h
set_option maxRecDepth 4000 in
theorem gC_Memory_forgetAll_ok {l : Launch} {D : va_G} {cI cZ : ClassId} {ad : Nat → Nat} {n : Nat} {z : sg_M} {r : sg_M} (h : gC_Memory_forgetAll n z = some r) : sg_Met (eC l D cI cZ ad) yX3_forgetAll cX3_forgetAll 2 none 2 [.ref (ad 40)] z (sg_is none r) := by
  refine sg_enter (lv0 := [(0, .ref (ad 40))]) pn_X3 (Nat.le_of_ble_eq_true rfl) rfl ?_
  unfold gC_Memory_forgetAll at h
  refine sg_aload_n (pn := 1) (i := 0) dX3_forgetAll_0 rfl rfl 0 rfl ?_
  refine sg_iconst (pn := 2) dX3_forgetAll_1 rfl ic_0 ?_
  refine pfC_40_0 (pn := 5) dX3_forgetAll_2 rfl lf_X3_22 ?_
  obtain ⟨z1, e_z1, h⟩ := sg_letE h
  refine sg_zE e_z1 ?_
  refine sg_aload_n (pn := 6) (i := 0) dX3_forgetAll_5 rfl rfl 0 rfl ?_
  refine gfC_40_4 (pn := 9) dX3_forgetAll_6 rfl lf_X3_19 ?_
  refine sg_iconst (pn := 10) dX3_forgetAll_9 rfl ic_0 ?_
  obtain ⟨r2, h_r2, h⟩ := sg_bind h
  refine sg_callSv (pn := 13) (rest := []) dX3_forgetAll_10 rfl kb_X3_26 ks_J7_fill_53178 (Nat.le_of_ble_eq_true rfl) (gC_Arrays_fill_43_ok h_r2) rfl rfl (Nat.le_of_ble_eq_true rfl) ?_
  refine sg_iconst (pn := 14) dX3_forgetAll_13 rfl ic_0 ?_
  refine sg_istore_n (pn := 15) (i := 1) (lv' := [(0, .ref (ad 40)), (1, .int (0 : Int32))]) dX3_forgetAll_14 rfl rfl (Nat.le_of_ble_eq_true rfl) [1, 0] rfl ?_
  exact gC_Memory_forgetAll_L_ok n _ _ _ h
set_option maxRecDepth 4000 in
theorem gC_road_ok {l : Launch} {D : va_G} {cI cZ : ClassId} {ad : Nat → Nat} {n : Nat} {z : sg_M} {r : Int32 × sg_M} (h : gC_road n z = some r) : sg_Met (eC l D cI cZ ad) yX11_road cX11_road 2 (some .int) 7 [.ref (ad 0)] z (sg_is (some (.int r.1)) r.2) := by
  refine sg_enter (lv0 := [(0, .ref (ad 0))]) pn_X11 (Nat.le_of_ble_eq_true rfl) rfl ?_
  unfold gC_road at h
  refine sg_aload_n (pn := 1) (i := 0) dX11_road_0 rfl rfl 0 rfl ?_
  refine gfC_0_0 (pn := 4) dX11_road_1 rfl lf_X11_12 ?_
  obtain ⟨r1, h_r1, h⟩ := sg_bind h
  refine sg_callVi (pn := 7) (rest := []) 1 dX11_road_4 rfl kb_X11_108 kv_X5_readText (by exact rfl) rfl (Nat.le_of_ble_eq_true rfl) (gC_Reader_readText_ok h_r1) rfl rfl (Nat.le_of_ble_eq_true rfl) ?_
  refine sg_istore_n (pn := 8) (i := 1) (lv' := [(0, .ref (ad 0)), (1, .int r1.1)]) dX11_road_7 rfl rfl (Nat.le_of_ble_eq_true rfl) [1, 0] rfl ?_
  refine sg_aload_n (pn := 9) (i := 0) dX11_road_8 rfl rfl 0 rfl ?_
  refine gfC_0_0 (pn := 12) dX11_road_9 rfl lf_X11_12 ?_
  refine sg_iconst (pn := 13) dX11_road_12 rfl ic_0 ?_
  refine pfC_1_1 (pn := 16) dX11_road_13 rfl lf_X11_100 ?_
  obtain ⟨z2, e_z2, h⟩ := sg_letE h
  refine sg_zE e_z2 ?_
  refine sg_iload_n (pn := 17) (i := 1) dX11_road_16 rfl rfl 1 rfl ?_
  refine sg_if_eq (pn := 20) (tgt := 25) dX11_road_17 rfl (by decide) (fun hc => ?_) (fun hc => ?_)
  · have h := sg_ifp hc h
    refine sg_aload_n (pn := 26) (i := 0) dX11_road_25 rfl rfl 0 rfl ?_
    refine gfC_0_1 (pn := 29) dX11_road_26 rfl lf_X11_19 ?_
    refine sg_aload_n (pn := 30) (i := 0) dX11_road_29 rfl rfl 0 rfl ?_
    refine gfC_0_0 (pn := 33) dX11_road_30 rfl lf_X11_12 ?_
    refine gfC_1_0 (pn := 36) dX11_road_33 rfl lf_X11_112 ?_
    obtain ⟨r3, h_r3, h⟩ := sg_bind h
    refine sg_callVv (pn := 39) (rest := []) 9 dX11_road_36 rfl kb_X11_115 kv_X6_become (by exact rfl) rfl (Nat.le_of_ble_eq_true rfl) (gC_Road_become_ok h_r3) rfl rfl (Nat.le_of_ble_eq_true rfl) ?_
    refine sg_aload_n (pn := 40) (i := 0) dX11_road_39 rfl rfl 0 rfl ?_
    refine gfC_0_2 (pn := 43) dX11_road_40 rfl lf_X11_26 ?_
    refine sg_aload_n (pn := 44) (i := 0) dX11_road_43 rfl rfl 0 rfl ?_
    refine gfC_0_1 (pn := 47) dX11_road_44 rfl lf_X11_19 ?_
    obtain ⟨r4, h_r4, h⟩ := sg_bind h
    refine sg_callVv (pn := 50) (rest := []) 15 dX11_road_47 rfl kb_X11_95 kv_X8_begin (by exact rfl) rfl (Nat.le_of_ble_eq_true rfl) (gC_State_begin_ok h_r4) rfl rfl (Nat.le_of_ble_eq_true rfl) ?_
    refine sg_aload_n (pn := 51) (i := 0) dX11_road_50 rfl rfl 0 rfl ?_
    refine gfC_0_7 (pn := 54) dX11_road_51 rfl lf_X11_69 ?_
    refine sg_iconst (pn := 55) dX11_road_54 rfl ic_0 ?_
    refine pfC_30_0 (pn := 58) dX11_road_55 rfl lf_X11_118 ?_
    obtain ⟨z5, e_z5, h⟩ := sg_letE h
    refine sg_zE e_z5 ?_
    refine sg_aload_n (pn := 59) (i := 0) dX11_road_58 rfl rfl 0 rfl ?_
    refine gfC_0_8 (pn := 62) dX11_road_59 rfl lf_X11_73 ?_
    refine sg_iconst (pn := 63) dX11_road_62 rfl ic_0 ?_
    refine pfC_33_0 (pn := 66) dX11_road_63 rfl lf_X11_118 ?_
    obtain ⟨z6, e_z6, h⟩ := sg_letE h
    refine sg_zE e_z6 ?_
    refine sg_aload_n (pn := 67) (i := 0) dX11_road_66 rfl rfl 0 rfl ?_
    refine gfC_0_10 (pn := 70) dX11_road_67 rfl lf_X11_88 ?_
    obtain ⟨r7, h_r7, h⟩ := sg_bind h
    refine sg_callVv (pn := 73) (rest := []) 40 dX11_road_70 rfl kb_X11_121 kv_X3_forgetAll (by exact rfl) rfl (Nat.le_of_ble_eq_true rfl) (gC_Memory_forgetAll_ok h_r7) rfl rfl (Nat.le_of_ble_eq_true rfl) ?_
    refine sg_aload_n (pn := 74) (i := 0) dX11_road_73 rfl rfl 0 rfl ?_
    refine gfC_0_1 (pn := 77) dX11_road_74 rfl lf_X11_19 ?_
    refine gfC_9_0 (pn := 80) dX11_road_77 rfl lf_X11_124 ?_
    obtain rfl := Option.some.inj h
    exact sg_iret dX11_road_80 rfl ⟨rfl, rfl⟩
  · have h := sg_ifn hc h
    refine sg_bipush (pn := 22) dX11_road_20 rfl ib_m10 ?_
    refine sg_iload_n (pn := 23) (i := 1) dX11_road_22 rfl rfl 1 rfl ?_
    refine sg_isub (pn := 24) dX11_road_23 rfl ?_
    obtain rfl := Option.some.inj h
    exact sg_iret dX11_road_24 rfl ⟨rfl, rfl⟩
set_option maxRecDepth 4000 in
theorem gC_fault_ok {l : Launch} {D : va_G} {cI cZ : ClassId} {ad : Nat → Nat} {z : sg_M} {r : Int32} (h : gC_fault z = r) : sg_Met (eC l D cI cZ ad) yX11_fault cX11_fault 1 (some .int) 1 [.ref (ad 0)] z (sg_is (some (.int r)) z) := by
  refine sg_enter (lv0 := [(0, .ref (ad 0))]) pn_X11 (Nat.le_of_ble_eq_true rfl) rfl ?_
  unfold gC_fault at h
  refine sg_aload_n (pn := 1) (i := 0) dX11_fault_0 rfl rfl 0 rfl ?_
  refine gfC_0_0 (pn := 4) dX11_fault_1 rfl lf_X11_12 ?_
  refine gfC_1_2 (pn := 7) dX11_fault_4 rfl lf_X11_127 ?_
  subst h
  exact sg_iret dX11_fault_7 rfl ⟨rfl, rfl⟩
set_option maxRecDepth 4000 in
theorem gC_State_hasTown_ok {l : Launch} {D : va_G} {cI cZ : ClassId} {ad : Nat → Nat} {a1 : Int32} {z : sg_M} {r : Int32} (h : gC_State_hasTown a1 z = some r) : sg_Met (eC l D cI cZ ad) yX8_hasTown cX8_hasTown 2 (some .boolean) 1 [.ref (ad 15), .int a1] z (sg_is (some (.int r)) z) := by
  refine sg_enter (lv0 := [(0, .ref (ad 15)), (1, .int a1)]) pn_X8 (Nat.le_of_ble_eq_true rfl) rfl ?_
  unfold gC_State_hasTown at h
  refine sg_aload_n (pn := 1) (i := 0) dX8_hasTown_0 rfl rfl 0 rfl ?_
  refine gfC_15_3 (pn := 4) dX8_hasTown_1 rfl lf_X8_15 ?_
  refine sg_iload_n (pn := 5) (i := 1) dX8_hasTown_4 rfl rfl 1 rfl ?_
  obtain ⟨hg, h⟩ := sg_guard h
  refine alC_17 (pn := 6) dX8_hasTown_5 rfl (sg_in_vp hg) ?_
  refine sg_iconst (pn := 7) dX8_hasTown_6 rfl ic_m1 ?_
  refine sg_icmp_eq (pn := 10) (tgt := 14) dX8_hasTown_7 rfl (by decide) (fun hc => ?_) (fun hc => ?_)
  · have h := sg_ifp hc h
    refine sg_iconst (pn := 15) dX8_hasTown_14 rfl ic_0 ?_
    obtain rfl := Option.some.inj h
    exact sg_zret dX8_hasTown_15 rfl rfl ⟨rfl, rfl⟩
  · have h := sg_ifn hc h
    refine sg_iconst (pn := 11) dX8_hasTown_10 rfl ic_1 ?_
    refine sg_goto (tgt := 15) dX8_hasTown_11 (by decide) ?_
    obtain rfl := Option.some.inj h
    exact sg_zret dX8_hasTown_15 rfl rfl ⟨rfl, rfl⟩
set_option maxRecDepth 4000 in
theorem gC_Survey_folkOfAll_L_ok {l : Launch} {D : va_G} {cI cZ : ClassId} {ad : Nat → Nat} : ∀ (n : Nat) (v1 : Int32) (v2 : Int32) (z : sg_M) (r : Int32), gC_Survey_folkOfAll_L n v1 v2 z = some r → sg_G (eC l D cI cZ ad) yX9_folkOfAll cX9_folkOfAll 3 (some .int) 2 4 [(0, .ref (ad 24)), (1, .int v1), (2, .int v2)] [] z (sg_is (some (.int r)) z) := by
  intro n
  induction n with
  | zero => intro v1 v2 z r h; cases h
  | succ n ih =>
    intro v1 v2 z r h
    unfold gC_Survey_folkOfAll_L at h
    refine sg_iload_n (pn := 5) (i := 2) dX9_folkOfAll_4 rfl rfl 2 rfl ?_
    refine sg_aload_n (pn := 6) (i := 0) dX9_folkOfAll_5 rfl rfl 0 rfl ?_
    refine gfC_24_0 (pn := 9) dX9_folkOfAll_6 rfl lf_X9_9 ?_
    refine gfC_9_0 (pn := 12) dX9_folkOfAll_9 rfl lf_X9_19 ?_
    refine sg_icmp_ge (pn := 15) (tgt := 44) dX9_folkOfAll_12 rfl (by decide) (fun hc => ?_) (fun hc => ?_)
    · have h := sg_ifp hc h
      refine sg_iload_n (pn := 45) (i := 1) dX9_folkOfAll_44 rfl rfl 1 rfl ?_
      obtain rfl := Option.some.inj h
      exact sg_iret dX9_folkOfAll_45 rfl ⟨rfl, rfl⟩
    · have h := sg_ifn hc h
      refine sg_aload_n (pn := 16) (i := 0) dX9_folkOfAll_15 rfl rfl 0 rfl ?_
      refine gfC_24_1 (pn := 19) dX9_folkOfAll_16 rfl lf_X9_15 ?_
      refine sg_iload_n (pn := 20) (i := 2) dX9_folkOfAll_19 rfl rfl 2 rfl ?_
      obtain ⟨r1, h_r1, h⟩ := sg_bind h
      refine sg_callVi (pn := 23) (rest := []) 15 dX9_folkOfAll_20 rfl kb_X9_25 kv_X8_hasTown (by exact rfl) rfl (Nat.le_of_ble_eq_true rfl) (gC_State_hasTown_ok h_r1) rfl rfl (Nat.le_of_ble_eq_true rfl) ?_
      obtain ⟨t3, e_t3, h2⟩ := sg_bind h
      have hm_t3 : sg_G (eC l D cI cZ ad) yX9_folkOfAll cX9_folkOfAll 3 (some .int) 2 38 [(0, .ref (ad 24)), (1, .int t3), (2, .int v2)] [] z (sg_is (some (.int r)) z) := by
        have h := h2
        refine sg_iinc (pn := 41) (i := 2) (lv' := [(0, .ref (ad 24)), (1, .int t3), (2, .int (v2 + (1 : Int32)))]) dX9_folkOfAll_38 rfl 2 rfl (ii_1 _) (Nat.le_of_ble_eq_true rfl) [1, 2, 0] rfl ?_
        refine sg_goto (tgt := 4) dX9_folkOfAll_41 (by decide) ?_
        exact ih _ _ _ _ h
      have h := e_t3
      refine sg_if_eq (pn := 26) (tgt := 38) dX9_folkOfAll_23 rfl (by decide) (fun hc => ?_) (fun hc => ?_)
      · have h := sg_ifp hc h
        obtain rfl := Option.some.inj h
        exact hm_t3
      · have h := sg_ifn hc h
        refine sg_iload_n (pn := 27) (i := 1) dX9_folkOfAll_26 rfl rfl 1 rfl ?_
        refine sg_aload_n (pn := 28) (i := 0) dX9_folkOfAll_27 rfl rfl 0 rfl ?_
        refine gfC_24_1 (pn := 31) dX9_folkOfAll_28 rfl lf_X9_15 ?_
        refine gfC_15_5 (pn := 34) dX9_folkOfAll_31 rfl lf_X9_60 ?_
        refine sg_iload_n (pn := 35) (i := 2) dX9_folkOfAll_34 rfl rfl 2 rfl ?_
        obtain ⟨hg, h⟩ := sg_guard h
        refine alC_19 (pn := 36) dX9_folkOfAll_35 rfl (sg_in_vp hg) ?_
        refine sg_iadd (pn := 37) dX9_folkOfAll_36 rfl ?_
        obtain ⟨v1_2, e_v1_2, h⟩ := sg_letE h
        refine sg_topi e_v1_2 ?_
        refine sg_istore_n (pn := 38) (i := 1) (lv' := [(0, .ref (ad 24)), (1, .int v1_2), (2, .int v2)]) dX9_folkOfAll_37 rfl rfl (Nat.le_of_ble_eq_true rfl) [1, 0, 2] rfl ?_
        obtain rfl := Option.some.inj h
        exact hm_t3
set_option maxRecDepth 4000 in
theorem gC_Survey_folkOfAll_ok {l : Launch} {D : va_G} {cI cZ : ClassId} {ad : Nat → Nat} {n : Nat} {z : sg_M} {r : Int32} (h : gC_Survey_folkOfAll n z = some r) : sg_Met (eC l D cI cZ ad) yX9_folkOfAll cX9_folkOfAll 3 (some .int) 2 [.ref (ad 24)] z (sg_is (some (.int r)) z) := by
  refine sg_enter (lv0 := [(0, .ref (ad 24))]) pn_X9 (Nat.le_of_ble_eq_true rfl) rfl ?_
  unfold gC_Survey_folkOfAll at h
  refine sg_iconst (pn := 1) dX9_folkOfAll_0 rfl ic_0 ?_
  refine sg_istore_n (pn := 2) (i := 1) (lv' := [(0, .ref (ad 24)), (1, .int (0 : Int32))]) dX9_folkOfAll_1 rfl rfl (Nat.le_of_ble_eq_true rfl) [1, 0] rfl ?_
  refine sg_iconst (pn := 3) dX9_folkOfAll_2 rfl ic_0 ?_
  refine sg_istore_n (pn := 4) (i := 2) (lv' := [(0, .ref (ad 24)), (1, .int (0 : Int32)), (2, .int (0 : Int32))]) dX9_folkOfAll_3 rfl rfl (Nat.le_of_ble_eq_true rfl) [1, 2, 0] rfl ?_
  exact gC_Survey_folkOfAll_L_ok n _ _ _ _ h
set_option maxRecDepth 4000 in
theorem gC_State_folkAt_ok {l : Launch} {D : va_G} {cI cZ : ClassId} {ad : Nat → Nat} {a1 : Int32} {z : sg_M} {r : Int32} (h : gC_State_folkAt a1 z = some r) : sg_Met (eC l D cI cZ ad) yX8_folkAt cX8_folkAt 2 (some .int) 2 [.ref (ad 15), .int a1] z (sg_is (some (.int r)) z) := by
  refine sg_enter (lv0 := [(0, .ref (ad 15)), (1, .int a1)]) pn_X8 (Nat.le_of_ble_eq_true rfl) rfl ?_
  unfold gC_State_folkAt at h
  refine sg_aload_n (pn := 1) (i := 0) dX8_folkAt_0 rfl rfl 0 rfl ?_
  refine sg_iload_n (pn := 2) (i := 1) dX8_folkAt_1 rfl rfl 1 rfl ?_
  obtain ⟨r1, h_r1, h⟩ := sg_bind h
  refine sg_callVi (pn := 5) (rest := []) 15 dX8_folkAt_2 rfl kb_X8_57 kv_X8_hasTown (by exact rfl) rfl (Nat.le_of_ble_eq_true rfl) (gC_State_hasTown_ok h_r1) rfl rfl (Nat.le_of_ble_eq_true rfl) ?_
  refine sg_if_eq (pn := 8) (tgt := 17) dX8_folkAt_5 rfl (by decide) (fun hc => ?_) (fun hc => ?_)
  · have h := sg_ifp hc h
    refine sg_iconst (pn := 18) dX8_folkAt_17 rfl ic_m1 ?_
    obtain rfl := Option.some.inj h
    exact sg_iret dX8_folkAt_18 rfl ⟨rfl, rfl⟩
  · have h := sg_ifn hc h
    refine sg_aload_n (pn := 9) (i := 0) dX8_folkAt_8 rfl rfl 0 rfl ?_
    refine gfC_15_5 (pn := 12) dX8_folkAt_9 rfl lf_X8_21 ?_
    refine sg_iload_n (pn := 13) (i := 1) dX8_folkAt_12 rfl rfl 1 rfl ?_
    obtain ⟨hg, h⟩ := sg_guard h
    refine alC_19 (pn := 14) dX8_folkAt_13 rfl (sg_in_vp hg) ?_
    refine sg_goto (tgt := 18) dX8_folkAt_14 (by decide) ?_
    obtain rfl := Option.some.inj h
    exact sg_iret dX8_folkAt_18 rfl ⟨rfl, rfl⟩
set_option maxRecDepth 4000 in
theorem gC_Survey_biggest_L_ok {l : Launch} {D : va_G} {cI cZ : ClassId} {ad : Nat → Nat} : ∀ (n : Nat) (v1 : Int32) (v2 : Int32) (v3 : Int32) (z : sg_M) (r : Int32), gC_Survey_biggest_L n v1 v2 v3 z = some r → sg_G (eC l D cI cZ ad) yX9_biggest cX9_biggest 4 (some .int) 3 6 [(0, .ref (ad 24)), (1, .int v1), (2, .int v2), (3, .int v3)] [] z (sg_is (some (.int r)) z) := by
  intro n
  induction n with
  | zero => intro v1 v2 v3 z r h; cases h
  | succ n ih =>
    intro v1 v2 v3 z r h
    unfold gC_Survey_biggest_L at h
    refine sg_iload_n (pn := 7) (i := 3) dX9_biggest_6 rfl rfl 3 rfl ?_
    refine sg_aload_n (pn := 8) (i := 0) dX9_biggest_7 rfl rfl 0 rfl ?_
    refine gfC_24_0 (pn := 11) dX9_biggest_8 rfl lf_X9_9 ?_
    refine gfC_9_0 (pn := 14) dX9_biggest_11 rfl lf_X9_19 ?_
    refine sg_icmp_ge (pn := 17) (tgt := 47) dX9_biggest_14 rfl (by decide) (fun hc => ?_) (fun hc => ?_)
    · have h := sg_ifp hc h
      refine sg_iload_n (pn := 48) (i := 1) dX9_biggest_47 rfl rfl 1 rfl ?_
      obtain rfl := Option.some.inj h
      exact sg_iret dX9_biggest_48 rfl ⟨rfl, rfl⟩
    · have h := sg_ifn hc h
      refine sg_aload_n (pn := 18) (i := 0) dX9_biggest_17 rfl rfl 0 rfl ?_
      refine gfC_24_1 (pn := 21) dX9_biggest_18 rfl lf_X9_15 ?_
      refine sg_iload_n (pn := 22) (i := 3) dX9_biggest_21 rfl rfl 3 rfl ?_
      obtain ⟨r1, h_r1, h⟩ := sg_bind h
      refine sg_callVi (pn := 25) (rest := []) 15 dX9_biggest_22 rfl kb_X9_57 kv_X8_folkAt (by exact rfl) rfl (Nat.le_of_ble_eq_true rfl) (gC_State_folkAt_ok h_r1) rfl rfl (Nat.le_of_ble_eq_true rfl) ?_
      refine sg_iload_n (pn := 26) (i := 2) dX9_biggest_25 rfl rfl 2 rfl ?_
      obtain ⟨t3, e_t3, h2⟩ := sg_bind h
      have hm_t3 : sg_G (eC l D cI cZ ad) yX9_biggest cX9_biggest 4 (some .int) 3 41 [(0, .ref (ad 24)), (1, .int t3.1), (2, .int t3.2), (3, .int v3)] [] z (sg_is (some (.int r)) z) := by
        have h := h2
        refine sg_iinc (pn := 44) (i := 3) (lv' := [(0, .ref (ad 24)), (1, .int t3.1), (2, .int t3.2), (3, .int (v3 + (1 : Int32)))]) dX9_biggest_41 rfl 3 rfl (ii_1 _) (Nat.le_of_ble_eq_true rfl) [1, 2, 3, 0] rfl ?_
        refine sg_goto (tgt := 6) dX9_biggest_44 (by decide) ?_
        exact ih _ _ _ _ _ h
      have h := e_t3
      refine sg_icmp_le (pn := 29) (tgt := 41) dX9_biggest_26 rfl (by decide) (fun hc => ?_) (fun hc => ?_)
      · have h := sg_ifp hc h
        obtain rfl := Option.some.inj h
        exact hm_t3
      · have h := sg_ifn hc h
        refine sg_iload_n (pn := 30) (i := 3) dX9_biggest_29 rfl rfl 3 rfl ?_
        refine sg_istore_n (pn := 31) (i := 1) (lv' := [(0, .ref (ad 24)), (1, .int v3), (2, .int v2), (3, .int v3)]) dX9_biggest_30 rfl rfl (Nat.le_of_ble_eq_true rfl) [1, 0, 2, 3] rfl ?_
        refine sg_aload_n (pn := 32) (i := 0) dX9_biggest_31 rfl rfl 0 rfl ?_
        refine gfC_24_1 (pn := 35) dX9_biggest_32 rfl lf_X9_15 ?_
        refine gfC_15_5 (pn := 38) dX9_biggest_35 rfl lf_X9_60 ?_
        refine sg_iload_n (pn := 39) (i := 3) dX9_biggest_38 rfl rfl 3 rfl ?_
        obtain ⟨hg, h⟩ := sg_guard h
        refine alC_19 (pn := 40) dX9_biggest_39 rfl (sg_in_vp hg) ?_
        obtain ⟨v2_2, e_v2_2, h⟩ := sg_letE h
        refine sg_topi e_v2_2 ?_
        refine sg_istore_n (pn := 41) (i := 2) (lv' := [(0, .ref (ad 24)), (1, .int v3), (2, .int v2_2), (3, .int v3)]) dX9_biggest_40 rfl rfl (Nat.le_of_ble_eq_true rfl) [1, 2, 0, 3] rfl ?_
        obtain rfl := Option.some.inj h
        exact hm_t3
set_option maxRecDepth 4000 in
theorem gC_Survey_biggest_ok {l : Launch} {D : va_G} {cI cZ : ClassId} {ad : Nat → Nat} {n : Nat} {z : sg_M} {r : Int32} (h : gC_Survey_biggest n z = some r) : sg_Met (eC l D cI cZ ad) yX9_biggest cX9_biggest 4 (some .int) 3 [.ref (ad 24)] z (sg_is (some (.int r)) z) := by
  refine sg_enter (lv0 := [(0, .ref (ad 24))]) pn_X9 (Nat.le_of_ble_eq_true rfl) rfl ?_
  unfold gC_Survey_biggest at h
  refine sg_iconst (pn := 1) dX9_biggest_0 rfl ic_m1 ?_
  refine sg_istore_n (pn := 2) (i := 1) (lv' := [(0, .ref (ad 24)), (1, .int (-1 : Int32))]) dX9_biggest_1 rfl rfl (Nat.le_of_ble_eq_true rfl) [1, 0] rfl ?_
  refine sg_iconst (pn := 3) dX9_biggest_2 rfl ic_m1 ?_
  refine sg_istore_n (pn := 4) (i := 2) (lv' := [(0, .ref (ad 24)), (1, .int (-1 : Int32)), (2, .int (-1 : Int32))]) dX9_biggest_3 rfl rfl (Nat.le_of_ble_eq_true rfl) [1, 2, 0] rfl ?_
  refine sg_iconst (pn := 5) dX9_biggest_4 rfl ic_0 ?_
  refine sg_istore_n (pn := 6) (i := 3) (lv' := [(0, .ref (ad 24)), (1, .int (-1 : Int32)), (2, .int (-1 : Int32)), (3, .int (0 : Int32))]) dX9_biggest_5 rfl rfl (Nat.le_of_ble_eq_true rfl) [1, 2, 3, 0] rfl ?_
  exact gC_Survey_biggest_L_ok n _ _ _ _ _ h
set_option maxRecDepth 4000 in
theorem gC_Survey_longestWay_L_ok {l : Launch} {D : va_G} {cI cZ : ClassId} {ad : Nat → Nat} : ∀ (n : Nat) (v1 : Int32) (v2 : Int32) (v3 : Int32) (z : sg_M) (r : Int32), gC_Survey_longestWay_L n v1 v2 v3 z = some r → sg_G (eC l D cI cZ ad) yX9_longestWay cX9_longestWay 4 (some .int) 2 6 [(0, .ref (ad 24)), (1, .int v1), (2, .int v2), (3, .int v3)] [] z (sg_is (some (.int r)) z) := by
  intro n
  induction n with
  | zero => intro v1 v2 v3 z r h; cases h
  | succ n ih =>
    intro v1 v2 v3 z r h
    unfold gC_Survey_longestWay_L at h
    refine sg_iload_n (pn := 7) (i := 3) dX9_longestWay_6 rfl rfl 3 rfl ?_
    refine sg_aload_n (pn := 8) (i := 0) dX9_longestWay_7 rfl rfl 0 rfl ?_
    refine gfC_24_0 (pn := 11) dX9_longestWay_8 rfl lf_X9_9 ?_
    refine gfC_9_0 (pn := 14) dX9_longestWay_11 rfl lf_X9_19 ?_
    refine sg_icmp_ge (pn := 17) (tgt := 48) dX9_longestWay_14 rfl (by decide) (fun hc => ?_) (fun hc => ?_)
    · have h := sg_ifp hc h
      refine sg_iload_n (pn := 49) (i := 1) dX9_longestWay_48 rfl rfl 1 rfl ?_
      obtain rfl := Option.some.inj h
      exact sg_iret dX9_longestWay_49 rfl ⟨rfl, rfl⟩
    · have h := sg_ifn hc h
      refine sg_aload_n (pn := 18) (i := 0) dX9_longestWay_17 rfl rfl 0 rfl ?_
      refine gfC_24_1 (pn := 21) dX9_longestWay_18 rfl lf_X9_15 ?_
      refine sg_iload_n (pn := 22) (i := 3) dX9_longestWay_21 rfl rfl 3 rfl ?_
      obtain ⟨r1, h_r1, h⟩ := sg_bind h
      refine sg_callVi (pn := 25) (rest := []) 15 dX9_longestWay_22 rfl kb_X9_25 kv_X8_hasTown (by exact rfl) rfl (Nat.le_of_ble_eq_true rfl) (gC_State_hasTown_ok h_r1) rfl rfl (Nat.le_of_ble_eq_true rfl) ?_
      obtain ⟨t2, e_t2, h2⟩ := sg_letJ h
      have hm_t2 : sg_G (eC l D cI cZ ad) yX9_longestWay cX9_longestWay 4 (some .int) 2 35 [(0, .ref (ad 24)), (1, .int v1), (3, .int v3)] [.int t2] z (sg_is (some (.int r)) z) := by
        have h := h2
        refine sg_istore_n (pn := 36) (i := 2) (lv' := [(0, .ref (ad 24)), (1, .int v1), (2, .int t2), (3, .int v3)]) dX9_longestWay_35 rfl rfl (Nat.le_of_ble_eq_true rfl) [1, 2, 0, 3] rfl ?_
        refine sg_iload_n (pn := 37) (i := 1) dX9_longestWay_36 rfl rfl 1 rfl ?_
        refine sg_iload_n (pn := 38) (i := 2) dX9_longestWay_37 rfl rfl 2 rfl ?_
        refine sg_mmax (pn := 41) dX9_longestWay_38 rfl lm_X9_54 sg_mw_max (Nat.le_of_ble_eq_true rfl) (Nat.le_of_ble_eq_true rfl) ?_
        obtain ⟨v1_3, e_v1_3, h⟩ := sg_letE h
        refine sg_topi e_v1_3 ?_
        refine sg_istore_n (pn := 42) (i := 1) (lv' := [(0, .ref (ad 24)), (1, .int v1_3), (2, .int t2), (3, .int v3)]) dX9_longestWay_41 rfl rfl (Nat.le_of_ble_eq_true rfl) [1, 0, 2, 3] rfl ?_
        refine sg_iinc (pn := 45) (i := 3) (lv' := [(0, .ref (ad 24)), (1, .int v1_3), (2, .int t2), (3, .int (v3 + (1 : Int32)))]) dX9_longestWay_42 rfl 3 rfl (ii_1 _) (Nat.le_of_ble_eq_true rfl) [1, 2, 3, 0] rfl ?_
        refine sg_goto (tgt := 6) dX9_longestWay_45 (by decide) ?_
        exact ih _ _ _ _ _ h
      have h := e_t2
      refine sg_if_eq (pn := 28) (tgt := 32) dX9_longestWay_25 rfl (by decide) (fun hc => ?_) (fun hc => ?_)
      · have h := sg_ifp hc h
        refine sg_iload_n (pn := 33) (i := 2) dX9_longestWay_32 rfl rfl 2 rfl ?_
        refine sg_iconst (pn := 34) dX9_longestWay_33 rfl ic_1 ?_
        refine sg_iadd (pn := 35) dX9_longestWay_34 rfl ?_
        subst h
        refine sg_sub [0, 1, 3] rfl ?_
        exact hm_t2
      · have h := sg_ifn hc h
        refine sg_iconst (pn := 29) dX9_longestWay_28 rfl ic_0 ?_
        refine sg_goto (tgt := 35) dX9_longestWay_29 (by decide) ?_
        subst h
        refine sg_sub [0, 1, 3] rfl ?_
        exact hm_t2
set_option maxRecDepth 4000 in
theorem gC_Survey_longestWay_ok {l : Launch} {D : va_G} {cI cZ : ClassId} {ad : Nat → Nat} {n : Nat} {z : sg_M} {r : Int32} (h : gC_Survey_longestWay n z = some r) : sg_Met (eC l D cI cZ ad) yX9_longestWay cX9_longestWay 4 (some .int) 2 [.ref (ad 24)] z (sg_is (some (.int r)) z) := by
  refine sg_enter (lv0 := [(0, .ref (ad 24))]) pn_X9 (Nat.le_of_ble_eq_true rfl) rfl ?_
  unfold gC_Survey_longestWay at h
  refine sg_iconst (pn := 1) dX9_longestWay_0 rfl ic_0 ?_
  refine sg_istore_n (pn := 2) (i := 1) (lv' := [(0, .ref (ad 24)), (1, .int (0 : Int32))]) dX9_longestWay_1 rfl rfl (Nat.le_of_ble_eq_true rfl) [1, 0] rfl ?_
  refine sg_iconst (pn := 3) dX9_longestWay_2 rfl ic_0 ?_
  refine sg_istore_n (pn := 4) (i := 2) (lv' := [(0, .ref (ad 24)), (1, .int (0 : Int32)), (2, .int (0 : Int32))]) dX9_longestWay_3 rfl rfl (Nat.le_of_ble_eq_true rfl) [1, 2, 0] rfl ?_
  refine sg_iconst (pn := 5) dX9_longestWay_4 rfl ic_0 ?_
  refine sg_istore_n (pn := 6) (i := 3) (lv' := [(0, .ref (ad 24)), (1, .int (0 : Int32)), (2, .int (0 : Int32)), (3, .int (0 : Int32))]) dX9_longestWay_5 rfl rfl (Nat.le_of_ble_eq_true rfl) [1, 2, 3, 0] rfl ?_
  exact gC_Survey_longestWay_L_ok n _ _ _ _ _ h
set_option maxRecDepth 4000 in
theorem gC_Survey_distanceWith_L_ok {l : Launch} {D : va_G} {cI cZ : ClassId} {ad : Nat → Nat} : ∀ (n : Nat) (v1 : Int32) (v3 : Int32) (v4 : Int32) (z : sg_M) (r : Int32), gC_Survey_distanceWith_L n v1 v3 v4 z = some r → sg_G (eC l D cI cZ ad) yX9_distanceWith cX9_distanceWith 5 (some .int) 2 19 [(0, .ref (ad 24)), (1, .int v1), (3, .int v3), (4, .int v4)] [] z (sg_is (some (.int r)) z) := by
  intro n
  induction n with
  | zero => intro v1 v3 v4 z r h; cases h
  | succ n ih =>
    intro v1 v3 v4 z r h
    unfold gC_Survey_distanceWith_L at h
    refine sg_iload (pn := 21) (i := 4) dX9_distanceWith_19 rfl 3 rfl ?_
    refine sg_aload_n (pn := 22) (i := 0) dX9_distanceWith_21 rfl rfl 0 rfl ?_
    refine gfC_24_0 (pn := 25) dX9_distanceWith_22 rfl lf_X9_9 ?_
    refine gfC_9_0 (pn := 28) dX9_distanceWith_25 rfl lf_X9_19 ?_
    refine sg_icmp_ge (pn := 31) (tgt := 73) dX9_distanceWith_28 rfl (by decide) (fun hc => ?_) (fun hc => ?_)
    · have h := sg_ifp hc h
      refine sg_iload_n (pn := 74) (i := 3) dX9_distanceWith_73 rfl rfl 2 rfl ?_
      obtain rfl := Option.some.inj h
      exact sg_iret dX9_distanceWith_74 rfl ⟨rfl, rfl⟩
    · have h := sg_ifn hc h
      refine sg_aload_n (pn := 32) (i := 0) dX9_distanceWith_31 rfl rfl 0 rfl ?_
      refine gfC_24_1 (pn := 35) dX9_distanceWith_32 rfl lf_X9_15 ?_
      refine sg_iload (pn := 37) (i := 4) dX9_distanceWith_35 rfl 3 rfl ?_
      obtain ⟨r2, h_r2, h⟩ := sg_bind h
      refine sg_callVi (pn := 40) (rest := []) 15 dX9_distanceWith_37 rfl kb_X9_25 kv_X8_hasTown (by exact rfl) rfl (Nat.le_of_ble_eq_true rfl) (gC_State_hasTown_ok h_r2) rfl rfl (Nat.le_of_ble_eq_true rfl) ?_
      obtain ⟨t5, e_t5, h2⟩ := sg_bind h
      have hm_t5 : sg_G (eC l D cI cZ ad) yX9_distanceWith cX9_distanceWith 5 (some .int) 2 67 [(0, .ref (ad 24)), (1, .int v1), (3, .int t5), (4, .int v4)] [] z (sg_is (some (.int r)) z) := by
        have h := h2
        refine sg_iinc (pn := 70) (i := 4) (lv' := [(0, .ref (ad 24)), (1, .int v1), (3, .int t5), (4, .int (v4 + (1 : Int32)))]) dX9_distanceWith_67 rfl 3 rfl (ii_1 _) (Nat.le_of_ble_eq_true rfl) [1, 2, 3, 0] rfl ?_
        refine sg_goto (tgt := 19) dX9_distanceWith_70 (by decide) ?_
        exact ih _ _ _ _ _ h
      have h := e_t5
      refine sg_if_eq (pn := 43) (tgt := 67) dX9_distanceWith_40 rfl (by decide) (fun hc => ?_) (fun hc => ?_)
      · have h := sg_ifp hc h
        obtain rfl := Option.some.inj h
        exact hm_t5
      · have h := sg_ifn hc h
        refine sg_iload_n (pn := 44) (i := 3) dX9_distanceWith_43 rfl rfl 2 rfl ?_
        refine sg_iconst (pn := 45) dX9_distanceWith_44 rfl ic_m1 ?_
        refine sg_icmp_eq (pn := 48) (tgt := 59) dX9_distanceWith_45 rfl (by decide) (fun hc => ?_) (fun hc => ?_)
        · have h := sg_ifp hc h
          refine sg_iload_n (pn := 60) (i := 1) dX9_distanceWith_59 rfl rfl 1 rfl ?_
          refine sg_iload (pn := 62) (i := 4) dX9_distanceWith_60 rfl 3 rfl ?_
          refine sg_isub (pn := 63) dX9_distanceWith_62 rfl ?_
          refine sg_mabs (pn := 66) dX9_distanceWith_63 rfl lm_X9_41 sg_mw_abs (Nat.le_of_ble_eq_true rfl) (Nat.le_of_ble_eq_true rfl) ?_
          obtain ⟨v3_3, e_v3_3, h⟩ := sg_letE h
          refine sg_topi e_v3_3 ?_
          refine sg_istore_n (pn := 67) (i := 3) (lv' := [(0, .ref (ad 24)), (1, .int v1), (3, .int v3_3), (4, .int v4)]) dX9_distanceWith_66 rfl rfl (Nat.le_of_ble_eq_true rfl) [1, 2, 0, 3] rfl ?_
          obtain rfl := Option.some.inj h
          exact hm_t5
        · have h := sg_ifn hc h
          refine sg_iload_n (pn := 49) (i := 1) dX9_distanceWith_48 rfl rfl 1 rfl ?_
          refine sg_iload (pn := 51) (i := 4) dX9_distanceWith_49 rfl 3 rfl ?_
          refine sg_isub (pn := 52) dX9_distanceWith_51 rfl ?_
          refine sg_mabs (pn := 55) dX9_distanceWith_52 rfl lm_X9_41 sg_mw_abs (Nat.le_of_ble_eq_true rfl) (Nat.le_of_ble_eq_true rfl) ?_
          refine sg_iload_n (pn := 56) (i := 3) dX9_distanceWith_55 rfl rfl 2 rfl ?_
          refine sg_icmp_ge (pn := 59) (tgt := 67) dX9_distanceWith_56 rfl (by decide) (fun hc => ?_) (fun hc => ?_)
          · have h := sg_ifp hc h
            obtain rfl := Option.some.inj h
            exact hm_t5
          · have h := sg_ifn hc h
            refine sg_iload_n (pn := 60) (i := 1) dX9_distanceWith_59 rfl rfl 1 rfl ?_
            refine sg_iload (pn := 62) (i := 4) dX9_distanceWith_60 rfl 3 rfl ?_
            refine sg_isub (pn := 63) dX9_distanceWith_62 rfl ?_
            refine sg_mabs (pn := 66) dX9_distanceWith_63 rfl lm_X9_41 sg_mw_abs (Nat.le_of_ble_eq_true rfl) (Nat.le_of_ble_eq_true rfl) ?_
            obtain ⟨v3_4, e_v3_4, h⟩ := sg_letE h
            refine sg_topi e_v3_4 ?_
            refine sg_istore_n (pn := 67) (i := 3) (lv' := [(0, .ref (ad 24)), (1, .int v1), (3, .int v3_4), (4, .int v4)]) dX9_distanceWith_66 rfl rfl (Nat.le_of_ble_eq_true rfl) [1, 2, 0, 3] rfl ?_
            obtain rfl := Option.some.inj h
            exact hm_t5
set_option maxRecDepth 4000 in
theorem gC_Survey_distanceWith_ok {l : Launch} {D : va_G} {cI cZ : ClassId} {ad : Nat → Nat} {n : Nat} {a1 : Int32} {a2 : Int32} {z : sg_M} {r : Int32} (h : gC_Survey_distanceWith n a1 a2 z = some r) : sg_Met (eC l D cI cZ ad) yX9_distanceWith cX9_distanceWith 5 (some .int) 2 [.ref (ad 24), .int a1, .int a2] z (sg_is (some (.int r)) z) := by
  refine sg_enter (lv0 := [(0, .ref (ad 24)), (1, .int a1), (2, .int a2)]) pn_X9 (Nat.le_of_ble_eq_true rfl) rfl ?_
  unfold gC_Survey_distanceWith at h
  refine sg_iload_n (pn := 1) (i := 2) dX9_distanceWith_0 rfl rfl 2 rfl ?_
  refine sg_iconst (pn := 2) dX9_distanceWith_1 rfl ic_m1 ?_
  obtain ⟨t1, e_t1, h2⟩ := sg_letJ h
  have hm_t1 : sg_G (eC l D cI cZ ad) yX9_distanceWith cX9_distanceWith 5 (some .int) 2 15 [(0, .ref (ad 24)), (1, .int a1)] [.int t1] z (sg_is (some (.int r)) z) := by
    have h := h2
    refine sg_istore_n (pn := 16) (i := 3) (lv' := [(0, .ref (ad 24)), (1, .int a1), (3, .int t1)]) dX9_distanceWith_15 rfl rfl (Nat.le_of_ble_eq_true rfl) [1, 2, 0] rfl ?_
    refine sg_iconst (pn := 17) dX9_distanceWith_16 rfl ic_0 ?_
    refine sg_istore (pn := 19) (i := 4) (lv' := [(0, .ref (ad 24)), (1, .int a1), (3, .int t1), (4, .int (0 : Int32))]) dX9_distanceWith_17 rfl (Nat.le_of_ble_eq_true rfl) [1, 2, 3, 0] rfl ?_
    exact gC_Survey_distanceWith_L_ok n _ _ _ _ _ h
  have h := e_t1
  refine sg_icmp_ne (pn := 5) (tgt := 9) dX9_distanceWith_2 rfl (by decide) (fun hc => ?_) (fun hc => ?_)
  · have h := sg_ifn hc h
    refine sg_iload_n (pn := 10) (i := 1) dX9_distanceWith_9 rfl rfl 1 rfl ?_
    refine sg_iload_n (pn := 11) (i := 2) dX9_distanceWith_10 rfl rfl 2 rfl ?_
    refine sg_isub (pn := 12) dX9_distanceWith_11 rfl ?_
    refine sg_mabs (pn := 15) dX9_distanceWith_12 rfl lm_X9_41 sg_mw_abs (Nat.le_of_ble_eq_true rfl) (Nat.le_of_ble_eq_true rfl) ?_
    subst h
    refine sg_sub [0, 1] rfl ?_
    exact hm_t1
  · have h := sg_ifp hc h
    refine sg_iconst (pn := 6) dX9_distanceWith_5 rfl ic_m1 ?_
    refine sg_goto (tgt := 15) dX9_distanceWith_6 (by decide) ?_
    subst h
    refine sg_sub [0, 1] rfl ?_
    exact hm_t1
set_option maxRecDepth 4000 in
theorem gC_Survey_farthest_L_ok {l : Launch} {D : va_G} {cI cZ : ClassId} {ad : Nat → Nat} : ∀ (n : Nat) (v1 : Int32) (v2 : Int32) (z : sg_M) (r : Int32), gC_Survey_farthest_L n v1 v2 z = some r → sg_G (eC l D cI cZ ad) yX9_farthest cX9_farthest 3 (some .int) 3 4 [(0, .ref (ad 24)), (1, .int v1), (2, .int v2)] [] z (sg_is (some (.int r)) z) := by
  intro n
  induction n with
  | zero => intro v1 v2 z r h; cases h
  | succ n ih =>
    intro v1 v2 z r h
    unfold gC_Survey_farthest_L at h
    refine sg_iload_n (pn := 5) (i := 2) dX9_farthest_4 rfl rfl 2 rfl ?_
    refine sg_aload_n (pn := 6) (i := 0) dX9_farthest_5 rfl rfl 0 rfl ?_
    refine gfC_24_0 (pn := 9) dX9_farthest_6 rfl lf_X9_9 ?_
    refine gfC_9_0 (pn := 12) dX9_farthest_9 rfl lf_X9_19 ?_
    refine sg_icmp_ge (pn := 15) (tgt := 32) dX9_farthest_12 rfl (by decide) (fun hc => ?_) (fun hc => ?_)
    · have h := sg_ifp hc h
      refine sg_iload_n (pn := 33) (i := 1) dX9_farthest_32 rfl rfl 1 rfl ?_
      obtain rfl := Option.some.inj h
      exact sg_iret dX9_farthest_33 rfl ⟨rfl, rfl⟩
    · have h := sg_ifn hc h
      refine sg_iload_n (pn := 16) (i := 1) dX9_farthest_15 rfl rfl 1 rfl ?_
      refine sg_aload_n (pn := 17) (i := 0) dX9_farthest_16 rfl rfl 0 rfl ?_
      refine sg_iload_n (pn := 18) (i := 2) dX9_farthest_17 rfl rfl 2 rfl ?_
      refine sg_iconst (pn := 19) dX9_farthest_18 rfl ic_m1 ?_
      obtain ⟨r1, h_r1, h⟩ := sg_bind h
      refine sg_callVi (pn := 22) (rest := [.int v1]) 24 dX9_farthest_19 rfl kb_X9_47 kv_X9_distanceWith (by exact rfl) rfl (Nat.le_of_ble_eq_true rfl) (gC_Survey_distanceWith_ok h_r1) rfl rfl (Nat.le_of_ble_eq_true rfl) ?_
      refine sg_mmax (pn := 25) dX9_farthest_22 rfl lm_X9_54 sg_mw_max (Nat.le_of_ble_eq_true rfl) (Nat.le_of_ble_eq_true rfl) ?_
      obtain ⟨v1_2, e_v1_2, h⟩ := sg_letE h
      refine sg_topi e_v1_2 ?_
      refine sg_istore_n (pn := 26) (i := 1) (lv' := [(0, .ref (ad 24)), (1, .int v1_2), (2, .int v2)]) dX9_farthest_25 rfl rfl (Nat.le_of_ble_eq_true rfl) [1, 0, 2] rfl ?_
      refine sg_iinc (pn := 29) (i := 2) (lv' := [(0, .ref (ad 24)), (1, .int v1_2), (2, .int (v2 + (1 : Int32)))]) dX9_farthest_26 rfl 2 rfl (ii_1 _) (Nat.le_of_ble_eq_true rfl) [1, 2, 0] rfl ?_
      refine sg_goto (tgt := 4) dX9_farthest_29 (by decide) ?_
      exact ih _ _ _ _ h
set_option maxRecDepth 4000 in
theorem gC_Survey_farthest_ok {l : Launch} {D : va_G} {cI cZ : ClassId} {ad : Nat → Nat} {n : Nat} {z : sg_M} {r : Int32} (h : gC_Survey_farthest n z = some r) : sg_Met (eC l D cI cZ ad) yX9_farthest cX9_farthest 3 (some .int) 3 [.ref (ad 24)] z (sg_is (some (.int r)) z) := by
  refine sg_enter (lv0 := [(0, .ref (ad 24))]) pn_X9 (Nat.le_of_ble_eq_true rfl) rfl ?_
  unfold gC_Survey_farthest at h
  refine sg_iconst (pn := 1) dX9_farthest_0 rfl ic_m1 ?_
  refine sg_istore_n (pn := 2) (i := 1) (lv' := [(0, .ref (ad 24)), (1, .int (-1 : Int32))]) dX9_farthest_1 rfl rfl (Nat.le_of_ble_eq_true rfl) [1, 0] rfl ?_
  refine sg_iconst (pn := 3) dX9_farthest_2 rfl ic_0 ?_
  refine sg_istore_n (pn := 4) (i := 2) (lv' := [(0, .ref (ad 24)), (1, .int (-1 : Int32)), (2, .int (0 : Int32))]) dX9_farthest_3 rfl rfl (Nat.le_of_ble_eq_true rfl) [1, 2, 0] rfl ?_
  exact gC_Survey_farthest_L_ok n _ _ _ _ h
set_option maxRecDepth 4000 in
theorem gC_Arrays_fill_26_L_ok {l : Launch} {D : va_G} {cI cZ : ClassId} {ad : Nat → Nat} : ∀ (n : Nat) (v1 : Int32) (v2 : Int32) (v3 : Int32) (z : sg_M) (r : sg_M), gC_Arrays_fill_26_L n v1 v2 v3 z = some r → sg_G (eC l D cI cZ ad) yJ7_fill_53178 cJ7_fill_53178 4 none 1 5 [(0, .ref (ad 26)), (1, .int v1), (2, .int v2), (3, .int v3)] [] z (sg_is none r) := by
  intro n
  induction n with
  | zero => intro v1 v2 v3 z r h; cases h
  | succ n ih =>
    intro v1 v2 v3 z r h
    unfold gC_Arrays_fill_26_L at h
    refine sg_iload_n (pn := 6) (i := 2) dJ7_fill_53178_5 rfl rfl 2 rfl ?_
    refine sg_iload_n (pn := 7) (i := 3) dJ7_fill_53178_6 rfl rfl 3 rfl ?_
    refine sg_icmp_ge (pn := 10) (tgt := 20) dJ7_fill_53178_7 rfl (by decide) (fun hc => ?_) (fun hc => ?_)
    · have h := sg_ifp hc h
      obtain rfl := Option.some.inj h
      exact sg_vret dJ7_fill_53178_20 rfl ⟨rfl, rfl⟩
    · have h := sg_ifn hc h
      refine sg_aload_n (pn := 11) (i := 0) dJ7_fill_53178_10 rfl rfl 0 rfl ?_
      refine sg_iload_n (pn := 12) (i := 2) dJ7_fill_53178_11 rfl rfl 2 rfl ?_
      refine sg_iload_n (pn := 13) (i := 1) dJ7_fill_53178_12 rfl rfl 1 rfl ?_
      obtain ⟨hg, h⟩ := sg_guard h
      refine asC_26 (pn := 14) dJ7_fill_53178_13 rfl (sg_in_vp hg) ?_
      obtain ⟨z1, e_z1, h⟩ := sg_letE h
      refine sg_zE e_z1 ?_
      refine sg_iinc (pn := 17) (i := 2) (lv' := [(0, .ref (ad 26)), (1, .int v1), (2, .int (v2 + (1 : Int32))), (3, .int v3)]) dJ7_fill_53178_14 rfl 2 rfl (ii_1 _) (Nat.le_of_ble_eq_true rfl) [1, 2, 0, 3] rfl ?_
      refine sg_goto (tgt := 5) dJ7_fill_53178_17 (by decide) ?_
      exact ih _ _ _ _ _ h
set_option maxRecDepth 4000 in
theorem gC_Arrays_fill_26_ok {l : Launch} {D : va_G} {cI cZ : ClassId} {ad : Nat → Nat} {n : Nat} {a1 : Int32} {z : sg_M} {r : sg_M} (h : gC_Arrays_fill_26 n a1 z = some r) : sg_Met (eC l D cI cZ ad) yJ7_fill_53178 cJ7_fill_53178 4 none 1 [.ref (ad 26), .int a1] z (sg_is none r) := by
  refine sg_enter (lv0 := [(0, .ref (ad 26)), (1, .int a1)]) pn_J7 (Nat.le_of_ble_eq_true rfl) rfl ?_
  unfold gC_Arrays_fill_26 at h
  refine sg_iconst (pn := 1) dJ7_fill_53178_0 rfl ic_0 ?_
  refine sg_istore_n (pn := 2) (i := 2) (lv' := [(0, .ref (ad 26)), (1, .int a1), (2, .int (0 : Int32))]) dJ7_fill_53178_1 rfl rfl (Nat.le_of_ble_eq_true rfl) [1, 2, 0] rfl ?_
  refine sg_aload_n (pn := 3) (i := 0) dJ7_fill_53178_2 rfl rfl 0 rfl ?_
  refine anC_26 (pn := 4) dJ7_fill_53178_3 rfl ?_
  refine sg_istore_n (pn := 5) (i := 3) (lv' := [(0, .ref (ad 26)), (1, .int a1), (2, .int (0 : Int32)), (3, .int (20 : Int32))]) dJ7_fill_53178_4 rfl rfl (Nat.le_of_ble_eq_true rfl) [1, 2, 3, 0] rfl ?_
  exact gC_Arrays_fill_26_L_ok n _ _ _ _ _ h
set_option maxRecDepth 4000 in
theorem gC_Road_weatherOn_ok {l : Launch} {D : va_G} {cI cZ : ClassId} {ad : Nat → Nat} {a1 : Int32} {z : sg_M} {r : Int32} (h : gC_Road_weatherOn a1 z = some r) : sg_Met (eC l D cI cZ ad) yX6_weatherOn cX6_weatherOn 2 (some .int) 1 [.ref (ad 9), .int a1] z (sg_is (some (.int r)) z) := by
  refine sg_enter (lv0 := [(0, .ref (ad 9)), (1, .int a1)]) pn_X6 (Nat.le_of_ble_eq_true rfl) rfl ?_
  unfold gC_Road_weatherOn at h
  refine sg_aload_n (pn := 1) (i := 0) dX6_weatherOn_0 rfl rfl 0 rfl ?_
  refine gfC_9_0 (pn := 4) dX6_weatherOn_1 rfl lf_X6_27 ?_
  refine sg_if_eq (pn := 7) (tgt := 18) dX6_weatherOn_4 rfl (by decide) (fun hc => ?_) (fun hc => ?_)
  · have h := sg_ifp hc h
    refine sg_iconst (pn := 19) dX6_weatherOn_18 rfl ic_0 ?_
    refine sg_goto (tgt := 33) dX6_weatherOn_19 (by decide) ?_
    obtain rfl := Option.some.inj h
    exact sg_iret dX6_weatherOn_33 rfl ⟨rfl, rfl⟩
  · have h := sg_ifn hc h
    refine sg_aload_n (pn := 8) (i := 0) dX6_weatherOn_7 rfl rfl 0 rfl ?_
    refine gfC_9_1 (pn := 11) dX6_weatherOn_8 rfl lf_X6_34 ?_
    refine sg_if_le (pn := 14) (tgt := 18) dX6_weatherOn_11 rfl (by decide) (fun hc => ?_) (fun hc => ?_)
    · have h := sg_ifp hc h
      refine sg_iconst (pn := 19) dX6_weatherOn_18 rfl ic_0 ?_
      refine sg_goto (tgt := 33) dX6_weatherOn_19 (by decide) ?_
      obtain rfl := Option.some.inj h
      exact sg_iret dX6_weatherOn_33 rfl ⟨rfl, rfl⟩
    · have h := sg_ifn hc h
      refine sg_iload_n (pn := 15) (i := 1) dX6_weatherOn_14 rfl rfl 1 rfl ?_
      refine sg_if_ge (pn := 18) (tgt := 22) dX6_weatherOn_15 rfl (by decide) (fun hc => ?_) (fun hc => ?_)
      · have h := sg_ifp hc h
        refine sg_aload_n (pn := 23) (i := 0) dX6_weatherOn_22 rfl rfl 0 rfl ?_
        refine gfC_9_4 (pn := 26) dX6_weatherOn_23 rfl lf_X6_15 ?_
        refine sg_iload_n (pn := 27) (i := 1) dX6_weatherOn_26 rfl rfl 1 rfl ?_
        refine sg_aload_n (pn := 28) (i := 0) dX6_weatherOn_27 rfl rfl 0 rfl ?_
        refine gfC_9_1 (pn := 31) dX6_weatherOn_28 rfl lf_X6_34 ?_
        obtain ⟨hg, h⟩ := sg_nz h
        refine sg_irem (pn := 32) dX6_weatherOn_31 rfl hg ?_
        obtain ⟨hg, h⟩ := sg_guard h
        refine alC_11 (pn := 33) dX6_weatherOn_32 rfl (sg_in_vp hg) ?_
        obtain rfl := Option.some.inj h
        exact sg_iret dX6_weatherOn_33 rfl ⟨rfl, rfl⟩
      · have h := sg_ifn hc h
        refine sg_iconst (pn := 19) dX6_weatherOn_18 rfl ic_0 ?_
        refine sg_goto (tgt := 33) dX6_weatherOn_19 (by decide) ?_
        obtain rfl := Option.some.inj h
        exact sg_iret dX6_weatherOn_33 rfl ⟨rfl, rfl⟩
set_option maxRecDepth 4000 in
theorem gC_Kingdom_wetBehind_L_ok {l : Launch} {D : va_G} {cI cZ : ClassId} {ad : Nat → Nat} : ∀ (n : Nat) (v1 : Int32) (v2 : Int32) (v3 : Int32) (z : sg_M) (r : Int32), gC_Kingdom_wetBehind_L n v1 v2 v3 z = some r → sg_G (eC l D cI cZ ad) yX2_wetBehind cX2_wetBehind 4 (some .int) 2 10 [(0, .ref (ad 23)), (1, .int v1), (2, .int v2), (3, .int v3)] [] z (sg_is (some (.int r)) z) := by
  intro n
  induction n with
  | zero => intro v1 v2 v3 z r h; cases h
  | succ n ih =>
    intro v1 v2 v3 z r h
    unfold gC_Kingdom_wetBehind_L at h
    refine sg_iload_n (pn := 11) (i := 3) dX2_wetBehind_10 rfl rfl 3 rfl ?_
    refine sg_iload_n (pn := 12) (i := 1) dX2_wetBehind_11 rfl rfl 1 rfl ?_
    refine sg_icmp_ge (pn := 15) (tgt := 25) dX2_wetBehind_12 rfl (by decide) (fun hc => ?_) (fun hc => ?_)
    · have h := sg_ifp hc h
      refine sg_aload_n (pn := 26) (i := 0) dX2_wetBehind_25 rfl rfl 0 rfl ?_
      refine gfC_23_0 (pn := 29) dX2_wetBehind_26 rfl lf_X2_9 ?_
      refine sg_aload_n (pn := 30) (i := 0) dX2_wetBehind_29 rfl rfl 0 rfl ?_
      refine gfC_23_1 (pn := 33) dX2_wetBehind_30 rfl lf_X2_15 ?_
      refine gfC_15_0 (pn := 36) dX2_wetBehind_33 rfl lf_X2_25 ?_
      refine sg_iload_n (pn := 37) (i := 1) dX2_wetBehind_36 rfl rfl 1 rfl ?_
      refine sg_iadd (pn := 38) dX2_wetBehind_37 rfl ?_
      obtain ⟨r2, h_r2, h⟩ := sg_bind h
      refine sg_callVi (pn := 41) (rest := []) 9 dX2_wetBehind_38 rfl kb_X2_28 kv_X6_weatherOn (by exact rfl) rfl (Nat.le_of_ble_eq_true rfl) (gC_Road_weatherOn_ok h_r2) rfl rfl (Nat.le_of_ble_eq_true rfl) ?_
      refine sg_iload_n (pn := 42) (i := 2) dX2_wetBehind_41 rfl rfl 2 rfl ?_
      refine sg_iadd (pn := 43) dX2_wetBehind_42 rfl ?_
      obtain rfl := Option.some.inj h
      exact sg_iret dX2_wetBehind_43 rfl ⟨rfl, rfl⟩
    · have h := sg_ifn hc h
      refine sg_iload_n (pn := 16) (i := 2) dX2_wetBehind_15 rfl rfl 2 rfl ?_
      refine sg_iconst (pn := 17) dX2_wetBehind_16 rfl ic_2 ?_
      refine sg_idiv (pn := 18) dX2_wetBehind_17 rfl (by decide +kernel) ?_
      obtain ⟨v2_3, e_v2_3, h⟩ := sg_letE h
      refine sg_topi e_v2_3 ?_
      refine sg_istore_n (pn := 19) (i := 2) (lv' := [(0, .ref (ad 23)), (1, .int v1), (2, .int v2_3), (3, .int v3)]) dX2_wetBehind_18 rfl rfl (Nat.le_of_ble_eq_true rfl) [1, 2, 0, 3] rfl ?_
      refine sg_iinc (pn := 22) (i := 3) (lv' := [(0, .ref (ad 23)), (1, .int v1), (2, .int v2_3), (3, .int (v3 + (1 : Int32)))]) dX2_wetBehind_19 rfl 3 rfl (ii_1 _) (Nat.le_of_ble_eq_true rfl) [1, 2, 3, 0] rfl ?_
      refine sg_goto (tgt := 10) dX2_wetBehind_22 (by decide) ?_
      exact ih _ _ _ _ _ h
set_option maxRecDepth 4000 in
theorem gC_Kingdom_wetBehind_ok {l : Launch} {D : va_G} {cI cZ : ClassId} {ad : Nat → Nat} {n : Nat} {a1 : Int32} {z : sg_M} {r : Int32} (h : gC_Kingdom_wetBehind n a1 z = some r) : sg_Met (eC l D cI cZ ad) yX2_wetBehind cX2_wetBehind 4 (some .int) 2 [.ref (ad 23), .int a1] z (sg_is (some (.int r)) z) := by
  refine sg_enter (lv0 := [(0, .ref (ad 23)), (1, .int a1)]) pn_X2 (Nat.le_of_ble_eq_true rfl) rfl ?_
  unfold gC_Kingdom_wetBehind at h
  refine sg_aload_n (pn := 1) (i := 0) dX2_wetBehind_0 rfl rfl 0 rfl ?_
  refine gfC_23_1 (pn := 4) dX2_wetBehind_1 rfl lf_X2_15 ?_
  refine gfC_15_1 (pn := 7) dX2_wetBehind_4 rfl lf_X2_19 ?_
  obtain ⟨v2_1, e_v2_1, h⟩ := sg_letE h
  refine sg_topi e_v2_1 ?_
  refine sg_istore_n (pn := 8) (i := 2) (lv' := [(0, .ref (ad 23)), (1, .int a1), (2, .int v2_1)]) dX2_wetBehind_7 rfl rfl (Nat.le_of_ble_eq_true rfl) [1, 2, 0] rfl ?_
  refine sg_iconst (pn := 9) dX2_wetBehind_8 rfl ic_0 ?_
  refine sg_istore_n (pn := 10) (i := 3) (lv' := [(0, .ref (ad 23)), (1, .int a1), (2, .int v2_1), (3, .int (0 : Int32))]) dX2_wetBehind_9 rfl rfl (Nat.le_of_ble_eq_true rfl) [1, 2, 3, 0] rfl ?_
  exact gC_Kingdom_wetBehind_L_ok n _ _ _ _ _ h
set_option maxRecDepth 4000 in
theorem gC_Kingdom_groundFor_ok {l : Launch} {D : va_G} {cI cZ : ClassId} {ad : Nat → Nat} {a1 : Int32} {a2 : Int32} {a3 : Int32} {z : sg_M} {r : Int32} (h : gC_Kingdom_groundFor a1 a2 a3 z = some r) : sg_Met (eC l D cI cZ ad) yX2_groundFor cX2_groundFor 6 (some .int) 1 [.ref (ad 23), .int a1, .int a2, .int a3] z (sg_is (some (.int r)) z) := by
  refine sg_enter (lv0 := [(0, .ref (ad 23)), (1, .int a1), (2, .int a2), (3, .int a3)]) pn_X2 (Nat.le_of_ble_eq_true rfl) rfl ?_
  unfold gC_Kingdom_groundFor at h
  refine sg_aload_n (pn := 1) (i := 0) dX2_groundFor_0 rfl rfl 0 rfl ?_
  refine gfC_23_0 (pn := 4) dX2_groundFor_1 rfl lf_X2_9 ?_
  refine gfC_9_5 (pn := 7) dX2_groundFor_4 rfl lf_X2_34 ?_
  refine sg_iload_n (pn := 8) (i := 1) dX2_groundFor_7 rfl rfl 1 rfl ?_
  obtain ⟨hg, h⟩ := sg_guard h
  refine alC_12 (pn := 9) dX2_groundFor_8 rfl (sg_in_vp hg) ?_
  refine sg_iconst (pn := 10) dX2_groundFor_9 rfl ic_2 ?_
  obtain ⟨t1, e_t1, h2⟩ := sg_letJ h
  have hm_t1 : sg_G (eC l D cI cZ ad) yX2_groundFor cX2_groundFor 6 (some .int) 1 18 [(0, .ref (ad 23)), (2, .int a2)] [.int t1] z (sg_is (some (.int r)) z) := by
    have h := h2
    refine sg_istore (pn := 20) (i := 4) (lv' := [(0, .ref (ad 23)), (2, .int a2), (4, .int t1)]) dX2_groundFor_18 rfl (Nat.le_of_ble_eq_true rfl) [1, 2, 0] rfl ?_
    refine sg_aload_n (pn := 21) (i := 0) dX2_groundFor_20 rfl rfl 0 rfl ?_
    refine gfC_23_0 (pn := 24) dX2_groundFor_21 rfl lf_X2_9 ?_
    refine gfC_9_3 (pn := 27) dX2_groundFor_24 rfl lf_X2_38 ?_
    refine sg_iload_n (pn := 28) (i := 2) dX2_groundFor_27 rfl rfl 1 rfl ?_
    obtain ⟨hg, h⟩ := sg_guard h
    refine alC_10 (pn := 29) dX2_groundFor_28 rfl (sg_in_vp hg) ?_
    refine sg_iload (pn := 31) (i := 4) dX2_groundFor_29 rfl 2 rfl ?_
    refine sg_iadd (pn := 32) dX2_groundFor_31 rfl ?_
    refine sg_aload_n (pn := 33) (i := 0) dX2_groundFor_32 rfl rfl 0 rfl ?_
    refine gfC_23_1 (pn := 36) dX2_groundFor_33 rfl lf_X2_15 ?_
    refine gfC_15_2 (pn := 39) dX2_groundFor_36 rfl lf_X2_41 ?_
    refine sg_iload_n (pn := 40) (i := 2) dX2_groundFor_39 rfl rfl 1 rfl ?_
    obtain ⟨hg, h⟩ := sg_guard h
    refine alC_16 (pn := 41) dX2_groundFor_40 rfl (sg_in_vp hg) ?_
    refine sg_isub (pn := 42) dX2_groundFor_41 rfl ?_
    obtain ⟨v5_2, e_v5_2, h⟩ := sg_letE h
    refine sg_topi e_v5_2 ?_
    refine sg_istore (pn := 44) (i := 5) (lv' := [(0, .ref (ad 23)), (2, .int a2), (4, .int t1), (5, .int v5_2)]) dX2_groundFor_42 rfl (Nat.le_of_ble_eq_true rfl) [1, 2, 3, 0] rfl ?_
    refine sg_iload (pn := 46) (i := 5) dX2_groundFor_44 rfl 3 rfl ?_
    refine sg_if_ge (pn := 49) (tgt := 53) dX2_groundFor_46 rfl (by decide) (fun hc => ?_) (fun hc => ?_)
    · have h := sg_ifp hc h
      refine sg_iload (pn := 55) (i := 5) dX2_groundFor_53 rfl 3 rfl ?_
      obtain rfl := Option.some.inj h
      exact sg_iret dX2_groundFor_55 rfl ⟨rfl, rfl⟩
    · have h := sg_ifn hc h
      refine sg_iconst (pn := 50) dX2_groundFor_49 rfl ic_0 ?_
      refine sg_goto (tgt := 55) dX2_groundFor_50 (by decide) ?_
      obtain rfl := Option.some.inj h
      exact sg_iret dX2_groundFor_55 rfl ⟨rfl, rfl⟩
  have h := e_t1
  refine sg_icmp_ne (pn := 13) (tgt := 17) dX2_groundFor_10 rfl (by decide) (fun hc => ?_) (fun hc => ?_)
  · have h := sg_ifn hc h
    refine sg_iload_n (pn := 18) (i := 3) dX2_groundFor_17 rfl rfl 3 rfl ?_
    subst h
    refine sg_sub [0, 2] rfl ?_
    exact hm_t1
  · have h := sg_ifp hc h
    refine sg_iconst (pn := 14) dX2_groundFor_13 rfl ic_0 ?_
    refine sg_goto (tgt := 18) dX2_groundFor_14 (by decide) ?_
    subst h
    refine sg_sub [0, 2] rfl ?_
    exact hm_t1
set_option maxRecDepth 4000 in
theorem gC_Kingdom_weightOf_ok {l : Launch} {D : va_G} {cI cZ : ClassId} {ad : Nat → Nat} {a1 : Int32} {a2 : Int32} {z : sg_M} {r : Int32} (h : gC_Kingdom_weightOf a1 a2 z = some r) : sg_Met (eC l D cI cZ ad) yX2_weightOf cX2_weightOf 3 (some .int) 1 [.ref (ad 23), .int a1, .int a2] z (sg_is (some (.int r)) z) := by
  refine sg_enter (lv0 := [(0, .ref (ad 23)), (1, .int a1), (2, .int a2)]) pn_X2 (Nat.le_of_ble_eq_true rfl) rfl ?_
  unfold gC_Kingdom_weightOf at h
  refine sg_aload_n (pn := 1) (i := 0) dX2_weightOf_0 rfl rfl 0 rfl ?_
  refine gfC_23_0 (pn := 4) dX2_weightOf_1 rfl lf_X2_9 ?_
  refine gfC_9_5 (pn := 7) dX2_weightOf_4 rfl lf_X2_34 ?_
  refine sg_iload_n (pn := 8) (i := 1) dX2_weightOf_7 rfl rfl 1 rfl ?_
  obtain ⟨hg, h⟩ := sg_guard h
  refine alC_12 (pn := 9) dX2_weightOf_8 rfl (sg_in_vp hg) ?_
  refine sg_iconst (pn := 10) dX2_weightOf_9 rfl ic_1 ?_
  refine sg_icmp_ne (pn := 13) (tgt := 17) dX2_weightOf_10 rfl (by decide) (fun hc => ?_) (fun hc => ?_)
  · have h := sg_ifn hc h
    refine sg_aload_n (pn := 18) (i := 0) dX2_weightOf_17 rfl rfl 0 rfl ?_
    refine gfC_23_0 (pn := 21) dX2_weightOf_18 rfl lf_X2_9 ?_
    refine gfC_9_5 (pn := 24) dX2_weightOf_21 rfl lf_X2_34 ?_
    refine sg_iload_n (pn := 25) (i := 1) dX2_weightOf_24 rfl rfl 1 rfl ?_
    obtain ⟨hg, h⟩ := sg_guard h
    refine alC_12 (pn := 26) dX2_weightOf_25 rfl (sg_in_vp hg) ?_
    refine sg_iconst (pn := 27) dX2_weightOf_26 rfl ic_3 ?_
    refine sg_icmp_ne (pn := 30) (tgt := 61) dX2_weightOf_27 rfl (by decide) (fun hc => ?_) (fun hc => ?_)
    · have h := sg_ifn hc h
      refine sg_iload_n (pn := 62) (i := 2) dX2_weightOf_61 rfl rfl 2 rfl ?_
      obtain rfl := Option.some.inj h
      exact sg_iret dX2_weightOf_62 rfl ⟨rfl, rfl⟩
    · have h := sg_ifp hc h
      refine sg_iload_n (pn := 31) (i := 2) dX2_weightOf_30 rfl rfl 2 rfl ?_
      refine sg_aload_n (pn := 32) (i := 0) dX2_weightOf_31 rfl rfl 0 rfl ?_
      refine gfC_23_1 (pn := 35) dX2_weightOf_32 rfl lf_X2_15 ?_
      refine gfC_15_8 (pn := 38) dX2_weightOf_35 rfl lf_X2_44 ?_
      refine sg_iload_n (pn := 39) (i := 1) dX2_weightOf_38 rfl rfl 1 rfl ?_
      obtain ⟨hg, h⟩ := sg_guard h
      refine alC_22 (pn := 40) dX2_weightOf_39 rfl (sg_in_vp hg) ?_
      refine sg_bipush (pn := 42) dX2_weightOf_40 rfl ib_20 ?_
      obtain ⟨t1, e_t1, h2⟩ := sg_bind h
      have hm_t1 : sg_G (eC l D cI cZ ad) yX2_weightOf cX2_weightOf 3 (some .int) 1 59 [] [.int t1, .int a2] z (sg_is (some (.int r)) z) := by
        have h := h2
        refine sg_iadd (pn := 60) dX2_weightOf_59 rfl ?_
        obtain rfl := Option.some.inj h
        exact sg_iret dX2_weightOf_60 rfl ⟨rfl, rfl⟩
      have h := e_t1
      refine sg_icmp_ge (pn := 45) (tgt := 57) dX2_weightOf_42 rfl (by decide) (fun hc => ?_) (fun hc => ?_)
      · have h := sg_ifp hc h
        refine sg_bipush (pn := 59) dX2_weightOf_57 rfl ib_20 ?_
        obtain rfl := Option.some.inj h
        refine sg_sub [] rfl ?_
        exact hm_t1
      · have h := sg_ifn hc h
        refine sg_aload_n (pn := 46) (i := 0) dX2_weightOf_45 rfl rfl 0 rfl ?_
        refine gfC_23_1 (pn := 49) dX2_weightOf_46 rfl lf_X2_15 ?_
        refine gfC_15_8 (pn := 52) dX2_weightOf_49 rfl lf_X2_44 ?_
        refine sg_iload_n (pn := 53) (i := 1) dX2_weightOf_52 rfl rfl 1 rfl ?_
        obtain ⟨hg, h⟩ := sg_guard h
        refine alC_22 (pn := 54) dX2_weightOf_53 rfl (sg_in_vp hg) ?_
        refine sg_goto (tgt := 59) dX2_weightOf_54 (by decide) ?_
        obtain rfl := Option.some.inj h
        refine sg_sub [] rfl ?_
        exact hm_t1
  · have h := sg_ifp hc h
    refine sg_iload_n (pn := 14) (i := 2) dX2_weightOf_13 rfl rfl 2 rfl ?_
    refine sg_iconst (pn := 15) dX2_weightOf_14 rfl ic_2 ?_
    refine sg_idiv (pn := 16) dX2_weightOf_15 rfl (by decide +kernel) ?_
    obtain rfl := Option.some.inj h
    exact sg_iret dX2_weightOf_16 rfl ⟨rfl, rfl⟩
set_option maxRecDepth 4000 in
theorem gC_Kingdom_sinkOf_ok {l : Launch} {D : va_G} {cI cZ : ClassId} {ad : Nat → Nat} {a1 : Int32} {a2 : Int32} {a3 : Int32} {a4 : Int32} {z : sg_M} {r : Int32} (h : gC_Kingdom_sinkOf a1 a2 a3 a4 z = some r) : sg_Met (eC l D cI cZ ad) yX2_sinkOf cX2_sinkOf 5 (some .int) 2 [.ref (ad 23), .int a1, .int a2, .int a3, .int a4] z (sg_is (some (.int r)) z) := by
  refine sg_enter (lv0 := [(0, .ref (ad 23)), (1, .int a1), (2, .int a2), (3, .int a3), (4, .int a4)]) pn_X2 (Nat.le_of_ble_eq_true rfl) rfl ?_
  unfold gC_Kingdom_sinkOf at h
  refine sg_aload_n (pn := 1) (i := 0) dX2_sinkOf_0 rfl rfl 0 rfl ?_
  refine sg_iload_n (pn := 2) (i := 1) dX2_sinkOf_1 rfl rfl 1 rfl ?_
  refine sg_iload_n (pn := 3) (i := 2) dX2_sinkOf_2 rfl rfl 2 rfl ?_
  refine sg_iload_n (pn := 4) (i := 3) dX2_sinkOf_3 rfl rfl 3 rfl ?_
  obtain ⟨r1, h_r1, h⟩ := sg_bind h
  refine sg_callVi (pn := 7) (rest := []) 23 dX2_sinkOf_4 rfl kb_X2_47 kv_X2_groundFor (by exact rfl) rfl (Nat.le_of_ble_eq_true rfl) (gC_Kingdom_groundFor_ok h_r1) rfl rfl (Nat.le_of_ble_eq_true rfl) ?_
  refine sg_aload_n (pn := 8) (i := 0) dX2_sinkOf_7 rfl rfl 0 rfl ?_
  refine sg_iload_n (pn := 9) (i := 1) dX2_sinkOf_8 rfl rfl 1 rfl ?_
  refine sg_iload (pn := 11) (i := 4) dX2_sinkOf_9 rfl 4 rfl ?_
  obtain ⟨r2, h_r2, h⟩ := sg_bind h
  refine sg_callVi (pn := 14) (rest := [.int r1]) 23 dX2_sinkOf_11 rfl kb_X2_51 kv_X2_weightOf (by exact rfl) rfl (Nat.le_of_ble_eq_true rfl) (gC_Kingdom_weightOf_ok h_r2) rfl rfl (Nat.le_of_ble_eq_true rfl) ?_
  refine sg_iadd (pn := 15) dX2_sinkOf_14 rfl ?_
  obtain rfl := Option.some.inj h
  exact sg_iret dX2_sinkOf_15 rfl ⟨rfl, rfl⟩
set_option maxRecDepth 4000 in
theorem gC_Kingdom_stopOf_L_ok {l : Launch} {D : va_G} {cI cZ : ClassId} {ad : Nat → Nat} : ∀ (n : Nat) (v1 : Int32) (v2 : Int32) (v3 : Int32) (v4 : Int32) (z : sg_M) (r : Int32), gC_Kingdom_stopOf_L n v1 v2 v3 v4 z = some r → sg_G (eC l D cI cZ ad) yX2_stopOf cX2_stopOf 5 (some .int) 3 3 [(0, .ref (ad 23)), (1, .int v1), (2, .int v2), (3, .int v3), (4, .int v4)] [] z (sg_is (some (.int r)) z) := by
  intro n
  induction n with
  | zero => intro v1 v2 v3 v4 z r h; cases h
  | succ n ih =>
    intro v1 v2 v3 v4 z r h
    unfold gC_Kingdom_stopOf_L at h
    refine sg_iload (pn := 5) (i := 4) dX2_stopOf_3 rfl 4 rfl ?_
    refine sg_aload_n (pn := 6) (i := 0) dX2_stopOf_5 rfl rfl 0 rfl ?_
    refine gfC_23_0 (pn := 9) dX2_stopOf_6 rfl lf_X2_9 ?_
    refine gfC_9_0 (pn := 12) dX2_stopOf_9 rfl lf_X2_55 ?_
    refine sg_icmp_ge (pn := 15) (tgt := 38) dX2_stopOf_12 rfl (by decide) (fun hc => ?_) (fun hc => ?_)
    · have h := sg_ifp hc h
      refine sg_iconst (pn := 39) dX2_stopOf_38 rfl ic_m1 ?_
      obtain rfl := Option.some.inj h
      exact sg_iret dX2_stopOf_39 rfl ⟨rfl, rfl⟩
    · have h := sg_ifn hc h
      refine sg_aload_n (pn := 16) (i := 0) dX2_stopOf_15 rfl rfl 0 rfl ?_
      refine sg_iload_n (pn := 17) (i := 1) dX2_stopOf_16 rfl rfl 1 rfl ?_
      refine sg_iload (pn := 19) (i := 4) dX2_stopOf_17 rfl 4 rfl ?_
      refine sg_iload_n (pn := 20) (i := 2) dX2_stopOf_19 rfl rfl 2 rfl ?_
      refine sg_iload_n (pn := 21) (i := 3) dX2_stopOf_20 rfl rfl 3 rfl ?_
      obtain ⟨r1, h_r1, h⟩ := sg_bind h
      refine sg_callVi (pn := 24) (rest := []) 23 dX2_stopOf_21 rfl kb_X2_58 kv_X2_sinkOf (by exact rfl) rfl (Nat.le_of_ble_eq_true rfl) (gC_Kingdom_sinkOf_ok h_r1) rfl rfl (Nat.le_of_ble_eq_true rfl) ?_
      refine sg_bipush (pn := 26) dX2_stopOf_24 rfl ib_60 ?_
      refine sg_icmp_lt (pn := 29) (tgt := 32) dX2_stopOf_26 rfl (by decide) (fun hc => ?_) (fun hc => ?_)
      · have h := sg_ifp hc h
        refine sg_iinc (pn := 35) (i := 4) (lv' := [(0, .ref (ad 23)), (1, .int v1), (2, .int v2), (3, .int v3), (4, .int (v4 + (1 : Int32)))]) dX2_stopOf_32 rfl 4 rfl (ii_1 _) (Nat.le_of_ble_eq_true rfl) [1, 2, 3, 4, 0] rfl ?_
        refine sg_goto (tgt := 3) dX2_stopOf_35 (by decide) ?_
        exact ih _ _ _ _ _ _ h
      · have h := sg_ifn hc h
        refine sg_iload (pn := 31) (i := 4) dX2_stopOf_29 rfl 4 rfl ?_
        obtain rfl := Option.some.inj h
        exact sg_iret dX2_stopOf_31 rfl ⟨rfl, rfl⟩
set_option maxRecDepth 4000 in
theorem gC_Kingdom_stopOf_ok {l : Launch} {D : va_G} {cI cZ : ClassId} {ad : Nat → Nat} {n : Nat} {a1 : Int32} {a2 : Int32} {a3 : Int32} {z : sg_M} {r : Int32} (h : gC_Kingdom_stopOf n a1 a2 a3 z = some r) : sg_Met (eC l D cI cZ ad) yX2_stopOf cX2_stopOf 5 (some .int) 3 [.ref (ad 23), .int a1, .int a2, .int a3] z (sg_is (some (.int r)) z) := by
  refine sg_enter (lv0 := [(0, .ref (ad 23)), (1, .int a1), (2, .int a2), (3, .int a3)]) pn_X2 (Nat.le_of_ble_eq_true rfl) rfl ?_
  unfold gC_Kingdom_stopOf at h
  refine sg_iconst (pn := 1) dX2_stopOf_0 rfl ic_0 ?_
  refine sg_istore (pn := 3) (i := 4) (lv' := [(0, .ref (ad 23)), (1, .int a1), (2, .int a2), (3, .int a3), (4, .int (0 : Int32))]) dX2_stopOf_1 rfl (Nat.le_of_ble_eq_true rfl) [1, 2, 3, 4, 0] rfl ?_
  exact gC_Kingdom_stopOf_L_ok n _ _ _ _ _ _ h
set_option maxRecDepth 4000 in
theorem gC_Kingdom_stopBehind_ok {l : Launch} {D : va_G} {cI cZ : ClassId} {ad : Nat → Nat} {n : Nat} {a1 : Int32} {a2 : Int32} {z : sg_M} {r : Int32} (h : gC_Kingdom_stopBehind n a1 a2 z = some r) : sg_Met (eC l D cI cZ ad) yX2_stopBehind cX2_stopBehind 3 (some .int) 4 [.ref (ad 23), .int a1, .int a2] z (sg_is (some (.int r)) z) := by
  refine sg_enter (lv0 := [(0, .ref (ad 23)), (1, .int a1), (2, .int a2)]) pn_X2 (Nat.le_of_ble_eq_true rfl) rfl ?_
  unfold gC_Kingdom_stopBehind at h
  refine sg_aload_n (pn := 1) (i := 0) dX2_stopBehind_0 rfl rfl 0 rfl ?_
  refine sg_iload_n (pn := 2) (i := 1) dX2_stopBehind_1 rfl rfl 1 rfl ?_
  refine sg_aload_n (pn := 3) (i := 0) dX2_stopBehind_2 rfl rfl 0 rfl ?_
  refine sg_iload_n (pn := 4) (i := 2) dX2_stopBehind_3 rfl rfl 2 rfl ?_
  obtain ⟨r1, h_r1, h⟩ := sg_bind h
  refine sg_callVi (pn := 7) (rest := [.int a1, .ref (ad 23)]) 23 dX2_stopBehind_4 rfl kb_X2_62 kv_X2_wetBehind (by exact rfl) rfl (Nat.le_of_ble_eq_true rfl) (gC_Kingdom_wetBehind_ok h_r1) rfl rfl (Nat.le_of_ble_eq_true rfl) ?_
  refine sg_aload_n (pn := 8) (i := 0) dX2_stopBehind_7 rfl rfl 0 rfl ?_
  refine gfC_23_1 (pn := 11) dX2_stopBehind_8 rfl lf_X2_15 ?_
  refine gfC_15_6 (pn := 14) dX2_stopBehind_11 rfl lf_X2_65 ?_
  refine sg_iload_n (pn := 15) (i := 1) dX2_stopBehind_14 rfl rfl 1 rfl ?_
  obtain ⟨hg, h⟩ := sg_guard h
  refine alC_20 (pn := 16) dX2_stopBehind_15 rfl (sg_in_vp hg) ?_
  obtain ⟨r2, h_r2, h⟩ := sg_bind h
  refine sg_callVi (pn := 19) (rest := []) 23 dX2_stopBehind_16 rfl kb_X2_68 kv_X2_stopOf (by exact rfl) rfl (Nat.le_of_ble_eq_true rfl) (gC_Kingdom_stopOf_ok h_r2) rfl rfl (Nat.le_of_ble_eq_true rfl) ?_
  obtain rfl := Option.some.inj h
  exact sg_iret dX2_stopBehind_19 rfl ⟨rfl, rfl⟩
set_option maxRecDepth 4000 in
theorem gC_Road_hasCell_ok {l : Launch} {D : va_G} {cI cZ : ClassId} {ad : Nat → Nat} {a1 : Int32} {z : sg_M} {r : Int32} (h : gC_Road_hasCell a1 z = r) : sg_Met (eC l D cI cZ ad) yX6_hasCell cX6_hasCell 2 (some .boolean) 1 [.ref (ad 9), .int a1] z (sg_is (some (.int r)) z) := by
  refine sg_enter (lv0 := [(0, .ref (ad 9)), (1, .int a1)]) pn_X6 (Nat.le_of_ble_eq_true rfl) rfl ?_
  unfold gC_Road_hasCell at h
  refine sg_iload_n (pn := 1) (i := 1) dX6_hasCell_0 rfl rfl 1 rfl ?_
  refine sg_if_lt (pn := 4) (tgt := 16) dX6_hasCell_1 rfl (by decide) (fun hc => ?_) (fun hc => ?_)
  · have h := sg_ifp hc h
    refine sg_iconst (pn := 17) dX6_hasCell_16 rfl ic_0 ?_
    subst h
    exact sg_zret dX6_hasCell_17 rfl rfl ⟨rfl, rfl⟩
  · have h := sg_ifn hc h
    refine sg_iload_n (pn := 5) (i := 1) dX6_hasCell_4 rfl rfl 1 rfl ?_
    refine sg_aload_n (pn := 6) (i := 0) dX6_hasCell_5 rfl rfl 0 rfl ?_
    refine gfC_9_0 (pn := 9) dX6_hasCell_6 rfl lf_X6_27 ?_
    refine sg_icmp_ge (pn := 12) (tgt := 16) dX6_hasCell_9 rfl (by decide) (fun hc => ?_) (fun hc => ?_)
    · have h := sg_ifp hc h
      refine sg_iconst (pn := 17) dX6_hasCell_16 rfl ic_0 ?_
      subst h
      exact sg_zret dX6_hasCell_17 rfl rfl ⟨rfl, rfl⟩
    · have h := sg_ifn hc h
      refine sg_iconst (pn := 13) dX6_hasCell_12 rfl ic_1 ?_
      refine sg_goto (tgt := 17) dX6_hasCell_13 (by decide) ?_
      subst h
      exact sg_zret dX6_hasCell_17 rfl rfl ⟨rfl, rfl⟩
