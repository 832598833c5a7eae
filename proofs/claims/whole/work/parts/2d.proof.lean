set_option maxRecDepth 4000 in
theorem gC_refusalOfDays_ok {l : Launch} {D : va_G} {cI cZ : ClassId} {ad : Nat → Nat} {a1 : Int32} {z : sg_M} {r : Int32} (h : gC_refusalOfDays a1 z = r) : sg_Met (eC l D cI cZ ad) yX11_refusalOfDays cX11_refusalOfDays 2 (some .int) 1 [.ref (ad 0), .int a1] z (sg_is (some (.int r)) z) := by
  refine sg_enter (lv0 := [(0, .ref (ad 0)), (1, .int a1)]) pn_X11 (Nat.le_of_ble_eq_true rfl) rfl ?_
  unfold gC_refusalOfDays at h
  refine sg_iload_n (pn := 1) (i := 1) dX11_refusalOfDays_0 rfl rfl 1 rfl ?_
  refine sg_iconst (pn := 2) dX11_refusalOfDays_1 rfl ic_1 ?_
  refine sg_icmp_lt (pn := 5) (tgt := 11) dX11_refusalOfDays_2 rfl (by decide) (fun hc => ?_) (fun hc => ?_)
  · have h := sg_ifp hc h
    refine sg_ldc (pn := 13) dX11_refusalOfDays_11 rfl kc_X11_99 ?_
    subst h
    exact sg_iret dX11_refusalOfDays_13 rfl ⟨rfl, rfl⟩
  · have h := sg_ifn hc h
    refine sg_iload_n (pn := 6) (i := 1) dX11_refusalOfDays_5 rfl rfl 1 rfl ?_
    refine sg_bipush (pn := 8) dX11_refusalOfDays_6 rfl ib_60 ?_
    refine sg_icmp_le (pn := 11) (tgt := 14) dX11_refusalOfDays_8 rfl (by decide) (fun hc => ?_) (fun hc => ?_)
    · have h := sg_ifp hc h
      refine sg_aload_n (pn := 15) (i := 0) dX11_refusalOfDays_14 rfl rfl 0 rfl ?_
      refine gfC_0_1 (pn := 18) dX11_refusalOfDays_15 rfl lf_X11_19 ?_
      refine gfC_9_0 (pn := 21) dX11_refusalOfDays_18 rfl lf_X11_124 ?_
      refine sg_if_ne (pn := 24) (tgt := 27) dX11_refusalOfDays_21 rfl (by decide) (fun hc => ?_) (fun hc => ?_)
      · have h := sg_ifn hc h
        refine sg_aload_n (pn := 28) (i := 0) dX11_refusalOfDays_27 rfl rfl 0 rfl ?_
        refine gfC_0_2 (pn := 31) dX11_refusalOfDays_28 rfl lf_X11_26 ?_
        refine gfC_15_0 (pn := 34) dX11_refusalOfDays_31 rfl lf_X11_133 ?_
        refine sg_sipush (pn := 37) dX11_refusalOfDays_34 rfl is_9000 ?_
        refine sg_icmp_le (pn := 40) (tgt := 45) dX11_refusalOfDays_37 rfl (by decide) (fun hc => ?_) (fun hc => ?_)
        · have h := sg_ifp hc h
          refine sg_iconst (pn := 46) dX11_refusalOfDays_45 rfl ic_0 ?_
          subst h
          exact sg_iret dX11_refusalOfDays_46 rfl ⟨rfl, rfl⟩
        · have h := sg_ifn hc h
          refine sg_ldc (pn := 42) dX11_refusalOfDays_40 rfl kc_X11_104 ?_
          refine sg_goto (tgt := 46) dX11_refusalOfDays_42 (by decide) ?_
          subst h
          exact sg_iret dX11_refusalOfDays_46 rfl ⟨rfl, rfl⟩
      · have h := sg_ifp hc h
        refine sg_ldc (pn := 26) dX11_refusalOfDays_24 rfl kc_X11_216 ?_
        subst h
        exact sg_iret dX11_refusalOfDays_26 rfl ⟨rfl, rfl⟩
    · have h := sg_ifn hc h
      refine sg_ldc (pn := 13) dX11_refusalOfDays_11 rfl kc_X11_99 ?_
      subst h
      exact sg_iret dX11_refusalOfDays_13 rfl ⟨rfl, rfl⟩
set_option maxRecDepth 4000 in
theorem gC_Kingdom_passDay_ok {l : Launch} {D : va_G} {cI cZ : ClassId} {ad : Nat → Nat} {z : sg_M} {r : sg_M} (h : gC_Kingdom_passDay z = some r) : sg_Met (eC l D cI cZ ad) yX2_passDay cX2_passDay 1 none 1 [.ref (ad 23)] z (sg_is none r) := by
  refine sg_enter (lv0 := [(0, .ref (ad 23))]) pn_X2 (Nat.le_of_ble_eq_true rfl) rfl ?_
  unfold gC_Kingdom_passDay at h
  refine sg_aload_n (pn := 1) (i := 0) dX2_passDay_0 rfl rfl 0 rfl ?_
  refine gfC_23_1 (pn := 4) dX2_passDay_1 rfl lf_X2_15 ?_
  refine sg_aload_n (pn := 5) (i := 0) dX2_passDay_4 rfl rfl 0 rfl ?_
  refine gfC_23_1 (pn := 8) dX2_passDay_5 rfl lf_X2_15 ?_
  refine gfC_15_1 (pn := 11) dX2_passDay_8 rfl lf_X2_19 ?_
  refine sg_iconst (pn := 12) dX2_passDay_11 rfl ic_2 ?_
  refine sg_idiv (pn := 13) dX2_passDay_12 rfl (by decide +kernel) ?_
  refine pfC_15_1 (pn := 16) dX2_passDay_13 rfl lf_X2_19 ?_
  obtain ⟨z1, e_z1, h⟩ := sg_letE h
  refine sg_zE e_z1 ?_
  refine sg_aload_n (pn := 17) (i := 0) dX2_passDay_16 rfl rfl 0 rfl ?_
  refine gfC_23_1 (pn := 20) dX2_passDay_17 rfl lf_X2_15 ?_
  refine sg_dup (pn := 21) dX2_passDay_20 rfl rfl ?_
  refine gfC_15_0 (pn := 24) dX2_passDay_21 rfl lf_X2_25 ?_
  refine sg_iconst (pn := 25) dX2_passDay_24 rfl ic_1 ?_
  refine sg_iadd (pn := 26) dX2_passDay_25 rfl ?_
  refine pfC_15_0 (pn := 29) dX2_passDay_26 rfl lf_X2_25 ?_
  obtain ⟨z2, e_z2, h⟩ := sg_letE h
  refine sg_zE e_z2 ?_
  obtain rfl := Option.some.inj h
  exact sg_vret dX2_passDay_29 rfl ⟨rfl, rfl⟩
set_option maxRecDepth 4000 in
theorem gC_day_L_ok {l : Launch} {D : va_G} {cI cZ : ClassId} {ad : Nat → Nat} : ∀ (n : Nat) (v1 : Int32) (v3 : Int32) (z : sg_M) (r : Int32 × sg_M), gC_day_L n v1 v3 z = some r → sg_G (eC l D cI cZ ad) yX11_day cX11_day 4 (some .int) 3 25 [(0, .ref (ad 0)), (1, .int v1), (3, .int v3)] [] z (sg_is (some (.int r.1)) r.2) := by
  intro n
  induction n with
  | zero => intro v1 v3 z r h; cases h
  | succ n ih =>
    intro v1 v3 z r h
    unfold gC_day_L at h
    refine sg_iload_n (pn := 26) (i := 3) dX11_day_25 rfl rfl 2 rfl ?_
    refine sg_iload_n (pn := 27) (i := 1) dX11_day_26 rfl rfl 1 rfl ?_
    refine sg_icmp_ge (pn := 30) (tgt := 43) dX11_day_27 rfl (by decide) (fun hc => ?_) (fun hc => ?_)
    · have h := sg_ifp hc h
      refine sg_aload_n (pn := 44) (i := 0) dX11_day_43 rfl rfl 0 rfl ?_
      refine gfC_0_2 (pn := 47) dX11_day_44 rfl lf_X11_26 ?_
      refine gfC_15_0 (pn := 50) dX11_day_47 rfl lf_X11_133 ?_
      obtain rfl := Option.some.inj h
      exact sg_iret dX11_day_50 rfl ⟨rfl, rfl⟩
    · have h := sg_ifn hc h
      refine sg_aload_n (pn := 31) (i := 0) dX11_day_30 rfl rfl 0 rfl ?_
      refine gfC_0_3 (pn := 34) dX11_day_31 rfl lf_X11_35 ?_
      obtain ⟨r3, h_r3, h⟩ := sg_bind h
      refine sg_callVv (pn := 37) (rest := []) 23 dX11_day_34 rfl kb_X11_230 kv_X2_passDay (by exact rfl) rfl (Nat.le_of_ble_eq_true rfl) (gC_Kingdom_passDay_ok h_r3) rfl rfl (Nat.le_of_ble_eq_true rfl) ?_
      refine sg_iinc (pn := 40) (i := 3) (lv' := [(0, .ref (ad 0)), (1, .int v1), (3, .int (v3 + (1 : Int32)))]) dX11_day_37 rfl 2 rfl (ii_1 _) (Nat.le_of_ble_eq_true rfl) [1, 2, 0] rfl ?_
      refine sg_goto (tgt := 25) dX11_day_40 (by decide) ?_
      exact ih _ _ _ _ h
set_option maxRecDepth 4000 in
theorem gC_day_ok {l : Launch} {D : va_G} {cI cZ : ClassId} {ad : Nat → Nat} {n : Nat} {a1 : Int32} {z : sg_M} {r : Int32 × sg_M} (h : gC_day n a1 z = some r) : sg_Met (eC l D cI cZ ad) yX11_day cX11_day 4 (some .int) 3 [.ref (ad 0), .int a1] z (sg_is (some (.int r.1)) r.2) := by
  refine sg_enter (lv0 := [(0, .ref (ad 0)), (1, .int a1)]) pn_X11 (Nat.le_of_ble_eq_true rfl) rfl ?_
  unfold gC_day at h
  refine sg_aload_n (pn := 1) (i := 0) dX11_day_0 rfl rfl 0 rfl ?_
  refine sg_iload_n (pn := 2) (i := 1) dX11_day_1 rfl rfl 1 rfl ?_
  refine sg_callVi (pn := 5) (rest := []) 0 dX11_day_2 rfl kb_X11_227 kv_X11_refusalOfDays (by exact rfl) rfl (Nat.le_of_ble_eq_true rfl) (gC_refusalOfDays_ok rfl) rfl rfl (Nat.le_of_ble_eq_true rfl) ?_
  obtain ⟨v2_1, e_v2_1, h⟩ := sg_letE h
  refine sg_topi e_v2_1 ?_
  refine sg_istore_n (pn := 6) (i := 2) (lv' := [(0, .ref (ad 0)), (1, .int a1), (2, .int v2_1)]) dX11_day_5 rfl rfl (Nat.le_of_ble_eq_true rfl) [1, 2, 0] rfl ?_
  refine sg_iload_n (pn := 7) (i := 2) dX11_day_6 rfl rfl 2 rfl ?_
  refine sg_if_eq (pn := 10) (tgt := 12) dX11_day_7 rfl (by decide) (fun hc => ?_) (fun hc => ?_)
  · have h := sg_ifp hc h
    refine sg_aload_n (pn := 13) (i := 0) dX11_day_12 rfl rfl 0 rfl ?_
    refine gfC_0_10 (pn := 16) dX11_day_13 rfl lf_X11_88 ?_
    refine sg_aload_n (pn := 17) (i := 0) dX11_day_16 rfl rfl 0 rfl ?_
    refine gfC_0_2 (pn := 20) dX11_day_17 rfl lf_X11_26 ?_
    obtain ⟨r2, h_r2, h⟩ := sg_bind h
    refine sg_callVv (pn := 23) (rest := []) 40 dX11_day_20 rfl kb_X11_217 kv_X3_remember (by exact rfl) rfl (Nat.le_of_ble_eq_true rfl) (gC_Memory_remember_ok h_r2) rfl rfl (Nat.le_of_ble_eq_true rfl) ?_
    refine sg_iconst (pn := 24) dX11_day_23 rfl ic_0 ?_
    refine sg_istore_n (pn := 25) (i := 3) (lv' := [(0, .ref (ad 0)), (1, .int a1), (2, .int v2_1), (3, .int (0 : Int32))]) dX11_day_24 rfl rfl (Nat.le_of_ble_eq_true rfl) [1, 2, 3, 0] rfl ?_
    refine sg_sub [0, 1, 3] rfl ?_
    exact gC_day_L_ok n _ _ _ _ h
  · have h := sg_ifn hc h
    refine sg_iload_n (pn := 11) (i := 2) dX11_day_10 rfl rfl 2 rfl ?_
    obtain rfl := Option.some.inj h
    exact sg_iret dX11_day_11 rfl ⟨rfl, rfl⟩
set_option maxRecDepth 4000 in
theorem gC_Kingdom_layGravel_ok {l : Launch} {D : va_G} {cI cZ : ClassId} {ad : Nat → Nat} {a1 : Int32} {a2 : Int32} {z : sg_M} {r : sg_M} (h : gC_Kingdom_layGravel a1 a2 z = some r) : sg_Met (eC l D cI cZ ad) yX2_layGravel cX2_layGravel 3 none 1 [.ref (ad 23), .int a1, .int a2] z (sg_is none r) := by
  refine sg_enter (lv0 := [(0, .ref (ad 23)), (1, .int a1), (2, .int a2)]) pn_X2 (Nat.le_of_ble_eq_true rfl) rfl ?_
  unfold gC_Kingdom_layGravel at h
  refine sg_aload_n (pn := 1) (i := 0) dX2_layGravel_0 rfl rfl 0 rfl ?_
  refine gfC_23_1 (pn := 4) dX2_layGravel_1 rfl lf_X2_15 ?_
  refine gfC_15_2 (pn := 7) dX2_layGravel_4 rfl lf_X2_41 ?_
  refine sg_iload_n (pn := 8) (i := 1) dX2_layGravel_7 rfl rfl 1 rfl ?_
  refine sg_iconst (pn := 9) dX2_layGravel_8 rfl ic_0 ?_
  refine sg_bipush (pn := 11) dX2_layGravel_9 rfl ib_60 ?_
  refine sg_aload_n (pn := 12) (i := 0) dX2_layGravel_11 rfl rfl 0 rfl ?_
  refine gfC_23_1 (pn := 15) dX2_layGravel_12 rfl lf_X2_15 ?_
  refine gfC_15_2 (pn := 18) dX2_layGravel_15 rfl lf_X2_41 ?_
  refine sg_iload_n (pn := 19) (i := 1) dX2_layGravel_18 rfl rfl 1 rfl ?_
  obtain ⟨hg, h⟩ := sg_guard h
  refine alC_16 (pn := 20) dX2_layGravel_19 rfl (sg_in_vp hg) ?_
  refine sg_iload_n (pn := 21) (i := 2) dX2_layGravel_20 rfl rfl 2 rfl ?_
  refine sg_iadd (pn := 22) dX2_layGravel_21 rfl ?_
  refine sg_mmin (pn := 25) dX2_layGravel_22 rfl lm_X2_97 sg_mw_min (Nat.le_of_ble_eq_true rfl) (Nat.le_of_ble_eq_true rfl) ?_
  refine sg_mmax (pn := 28) dX2_layGravel_25 rfl lm_X2_105 sg_mw_max (Nat.le_of_ble_eq_true rfl) (Nat.le_of_ble_eq_true rfl) ?_
  obtain ⟨hg, h⟩ := sg_guard h
  refine asC_16 (pn := 29) dX2_layGravel_28 rfl (sg_in_vp hg) ?_
  obtain ⟨z1, e_z1, h⟩ := sg_letE h
  refine sg_zE e_z1 ?_
  obtain rfl := Option.some.inj h
  exact sg_vret dX2_layGravel_29 rfl ⟨rfl, rfl⟩
set_option maxRecDepth 4000 in
theorem gC_lay_ok {l : Launch} {D : va_G} {cI cZ : ClassId} {ad : Nat → Nat} {a1 : Int32} {a2 : Int32} {z : sg_M} {r : Int32 × sg_M} (h : gC_lay a1 a2 z = some r) : sg_Met (eC l D cI cZ ad) yX11_lay cX11_lay 3 (some .int) 3 [.ref (ad 0), .int a1, .int a2] z (sg_is (some (.int r.1)) r.2) := by
  refine sg_enter (lv0 := [(0, .ref (ad 0)), (1, .int a1), (2, .int a2)]) pn_X11 (Nat.le_of_ble_eq_true rfl) rfl ?_
  unfold gC_lay at h
  refine sg_aload_n (pn := 1) (i := 0) dX11_lay_0 rfl rfl 0 rfl ?_
  refine gfC_0_1 (pn := 4) dX11_lay_1 rfl lf_X11_19 ?_
  refine sg_iload_n (pn := 5) (i := 1) dX11_lay_4 rfl rfl 1 rfl ?_
  refine sg_callVi (pn := 8) (rest := []) 9 dX11_lay_5 rfl kb_X11_167 kv_X6_hasCell (by exact rfl) rfl (Nat.le_of_ble_eq_true rfl) (gC_Road_hasCell_ok rfl) rfl rfl (Nat.le_of_ble_eq_true rfl) ?_
  refine sg_if_ne (pn := 11) (tgt := 14) dX11_lay_8 rfl (by decide) (fun hc => ?_) (fun hc => ?_)
  · have h := sg_ifn hc h
    refine sg_iload_n (pn := 15) (i := 2) dX11_lay_14 rfl rfl 2 rfl ?_
    refine sg_bipush (pn := 17) dX11_lay_15 rfl ib_m60 ?_
    refine sg_icmp_lt (pn := 20) (tgt := 26) dX11_lay_17 rfl (by decide) (fun hc => ?_) (fun hc => ?_)
    · have h := sg_ifp hc h
      refine sg_ldc (pn := 28) dX11_lay_26 rfl kc_X11_99 ?_
      obtain rfl := Option.some.inj h
      exact sg_iret dX11_lay_28 rfl ⟨rfl, rfl⟩
    · have h := sg_ifn hc h
      refine sg_iload_n (pn := 21) (i := 2) dX11_lay_20 rfl rfl 2 rfl ?_
      refine sg_bipush (pn := 23) dX11_lay_21 rfl ib_60 ?_
      refine sg_icmp_le (pn := 26) (tgt := 29) dX11_lay_23 rfl (by decide) (fun hc => ?_) (fun hc => ?_)
      · have h := sg_ifp hc h
        refine sg_aload_n (pn := 30) (i := 0) dX11_lay_29 rfl rfl 0 rfl ?_
        refine gfC_0_10 (pn := 33) dX11_lay_30 rfl lf_X11_88 ?_
        refine sg_aload_n (pn := 34) (i := 0) dX11_lay_33 rfl rfl 0 rfl ?_
        refine gfC_0_2 (pn := 37) dX11_lay_34 rfl lf_X11_26 ?_
        obtain ⟨r1, h_r1, h⟩ := sg_bind h
        refine sg_callVv (pn := 40) (rest := []) 40 dX11_lay_37 rfl kb_X11_217 kv_X3_remember (by exact rfl) rfl (Nat.le_of_ble_eq_true rfl) (gC_Memory_remember_ok h_r1) rfl rfl (Nat.le_of_ble_eq_true rfl) ?_
        refine sg_aload_n (pn := 41) (i := 0) dX11_lay_40 rfl rfl 0 rfl ?_
        refine gfC_0_3 (pn := 44) dX11_lay_41 rfl lf_X11_35 ?_
        refine sg_iload_n (pn := 45) (i := 1) dX11_lay_44 rfl rfl 1 rfl ?_
        refine sg_iload_n (pn := 46) (i := 2) dX11_lay_45 rfl rfl 2 rfl ?_
        obtain ⟨r2, h_r2, h⟩ := sg_bind h
        refine sg_callVv (pn := 49) (rest := []) 23 dX11_lay_46 rfl kb_X11_233 kv_X2_layGravel (by exact rfl) rfl (Nat.le_of_ble_eq_true rfl) (gC_Kingdom_layGravel_ok h_r2) rfl rfl (Nat.le_of_ble_eq_true rfl) ?_
        refine sg_aload_n (pn := 50) (i := 0) dX11_lay_49 rfl rfl 0 rfl ?_
        refine gfC_0_2 (pn := 53) dX11_lay_50 rfl lf_X11_26 ?_
        refine gfC_15_2 (pn := 56) dX11_lay_53 rfl lf_X11_176 ?_
        refine sg_iload_n (pn := 57) (i := 1) dX11_lay_56 rfl rfl 1 rfl ?_
        obtain ⟨hg, h⟩ := sg_guard h
        refine alC_16 (pn := 58) dX11_lay_57 rfl (sg_in_vp hg) ?_
        obtain rfl := Option.some.inj h
        exact sg_iret dX11_lay_58 rfl ⟨rfl, rfl⟩
      · have h := sg_ifn hc h
        refine sg_ldc (pn := 28) dX11_lay_26 rfl kc_X11_99 ?_
        obtain rfl := Option.some.inj h
        exact sg_iret dX11_lay_28 rfl ⟨rfl, rfl⟩
  · have h := sg_ifp hc h
    refine sg_ldc (pn := 13) dX11_lay_11 rfl kc_X11_171 ?_
    obtain rfl := Option.some.inj h
    exact sg_iret dX11_lay_13 rfl ⟨rfl, rfl⟩
set_option maxRecDepth 4000 in
theorem gC_load_ok {l : Launch} {D : va_G} {cI cZ : ClassId} {ad : Nat → Nat} {a1 : Int32} {a2 : Int32} {z : sg_M} {r : Int32 × sg_M} (h : gC_load a1 a2 z = some r) : sg_Met (eC l D cI cZ ad) yX11_load cX11_load 4 (some .int) 3 [.ref (ad 0), .int a1, .int a2] z (sg_is (some (.int r.1)) r.2) := by
  refine sg_enter (lv0 := [(0, .ref (ad 0)), (1, .int a1), (2, .int a2)]) pn_X11 (Nat.le_of_ble_eq_true rfl) rfl ?_
  unfold gC_load at h
  refine sg_aload_n (pn := 1) (i := 0) dX11_load_0 rfl rfl 0 rfl ?_
  refine gfC_0_1 (pn := 4) dX11_load_1 rfl lf_X11_19 ?_
  refine sg_iload_n (pn := 5) (i := 1) dX11_load_4 rfl rfl 1 rfl ?_
  refine sg_callVi (pn := 8) (rest := []) 9 dX11_load_5 rfl kb_X11_188 kv_X6_hasCart (by exact rfl) rfl (Nat.le_of_ble_eq_true rfl) (gC_Road_hasCart_ok rfl) rfl rfl (Nat.le_of_ble_eq_true rfl) ?_
  refine sg_if_ne (pn := 11) (tgt := 14) dX11_load_8 rfl (by decide) (fun hc => ?_) (fun hc => ?_)
  · have h := sg_ifn hc h
    refine sg_iload_n (pn := 15) (i := 2) dX11_load_14 rfl rfl 2 rfl ?_
    refine sg_iconst (pn := 16) dX11_load_15 rfl ic_1 ?_
    refine sg_icmp_lt (pn := 19) (tgt := 25) dX11_load_16 rfl (by decide) (fun hc => ?_) (fun hc => ?_)
    · have h := sg_ifp hc h
      refine sg_ldc (pn := 27) dX11_load_25 rfl kc_X11_99 ?_
      obtain rfl := Option.some.inj h
      exact sg_iret dX11_load_27 rfl ⟨rfl, rfl⟩
    · have h := sg_ifn hc h
      refine sg_iload_n (pn := 20) (i := 2) dX11_load_19 rfl rfl 2 rfl ?_
      refine sg_bipush (pn := 22) dX11_load_20 rfl ib_60 ?_
      refine sg_icmp_le (pn := 25) (tgt := 28) dX11_load_22 rfl (by decide) (fun hc => ?_) (fun hc => ?_)
      · have h := sg_ifp hc h
        refine sg_aload_n (pn := 29) (i := 0) dX11_load_28 rfl rfl 0 rfl ?_
        refine gfC_0_10 (pn := 32) dX11_load_29 rfl lf_X11_88 ?_
        refine sg_aload_n (pn := 33) (i := 0) dX11_load_32 rfl rfl 0 rfl ?_
        refine gfC_0_2 (pn := 36) dX11_load_33 rfl lf_X11_26 ?_
        obtain ⟨r1, h_r1, h⟩ := sg_bind h
        refine sg_callVv (pn := 39) (rest := []) 40 dX11_load_36 rfl kb_X11_217 kv_X3_remember (by exact rfl) rfl (Nat.le_of_ble_eq_true rfl) (gC_Memory_remember_ok h_r1) rfl rfl (Nat.le_of_ble_eq_true rfl) ?_
        refine sg_aload_n (pn := 40) (i := 0) dX11_load_39 rfl rfl 0 rfl ?_
        refine gfC_0_2 (pn := 43) dX11_load_40 rfl lf_X11_26 ?_
        refine gfC_15_6 (pn := 46) dX11_load_43 rfl lf_X11_194 ?_
        refine sg_iload_n (pn := 47) (i := 1) dX11_load_46 rfl rfl 1 rfl ?_
        obtain ⟨hg, h⟩ := sg_guard h
        refine alC_20 (pn := 48) dX11_load_47 rfl (sg_in_vp hg) ?_
        obtain ⟨v3_2, e_v3_2, h⟩ := sg_letE h
        refine sg_topi e_v3_2 ?_
        refine sg_istore_n (pn := 49) (i := 3) (lv' := [(0, .ref (ad 0)), (1, .int a1), (2, .int a2), (3, .int v3_2)]) dX11_load_48 rfl rfl (Nat.le_of_ble_eq_true rfl) [1, 2, 3, 0] rfl ?_
        refine sg_aload_n (pn := 50) (i := 0) dX11_load_49 rfl rfl 0 rfl ?_
        refine gfC_0_2 (pn := 53) dX11_load_50 rfl lf_X11_26 ?_
        refine gfC_15_6 (pn := 56) dX11_load_53 rfl lf_X11_194 ?_
        refine sg_iload_n (pn := 57) (i := 1) dX11_load_56 rfl rfl 1 rfl ?_
        refine sg_iload_n (pn := 58) (i := 2) dX11_load_57 rfl rfl 2 rfl ?_
        obtain ⟨hg, h⟩ := sg_guard h
        refine asC_20 (pn := 59) dX11_load_58 rfl (sg_in_vp hg) ?_
        obtain ⟨z3, e_z3, h⟩ := sg_letE h
        refine sg_zE e_z3 ?_
        refine sg_iload_n (pn := 60) (i := 3) dX11_load_59 rfl rfl 3 rfl ?_
        obtain rfl := Option.some.inj h
        exact sg_iret dX11_load_60 rfl ⟨rfl, rfl⟩
      · have h := sg_ifn hc h
        refine sg_ldc (pn := 27) dX11_load_25 rfl kc_X11_99 ?_
        obtain rfl := Option.some.inj h
        exact sg_iret dX11_load_27 rfl ⟨rfl, rfl⟩
  · have h := sg_ifp hc h
    refine sg_ldc (pn := 13) dX11_load_11 rfl kc_X11_171 ?_
    obtain rfl := Option.some.inj h
    exact sg_iret dX11_load_13 rfl ⟨rfl, rfl⟩
set_option maxRecDepth 4000 in
theorem gC_storm_ok {l : Launch} {D : va_G} {cI cZ : ClassId} {ad : Nat → Nat} {a1 : Int32} {z : sg_M} {r : Int32 × sg_M} (h : gC_storm a1 z = some r) : sg_Met (eC l D cI cZ ad) yX11_storm cX11_storm 3 (some .int) 3 [.ref (ad 0), .int a1] z (sg_is (some (.int r.1)) r.2) := by
  refine sg_enter (lv0 := [(0, .ref (ad 0)), (1, .int a1)]) pn_X11 (Nat.le_of_ble_eq_true rfl) rfl ?_
  unfold gC_storm at h
  refine sg_iload_n (pn := 1) (i := 1) dX11_storm_0 rfl rfl 1 rfl ?_
  refine sg_if_lt (pn := 4) (tgt := 10) dX11_storm_1 rfl (by decide) (fun hc => ?_) (fun hc => ?_)
  · have h := sg_ifp hc h
    refine sg_ldc (pn := 12) dX11_storm_10 rfl kc_X11_99 ?_
    obtain rfl := Option.some.inj h
    exact sg_iret dX11_storm_12 rfl ⟨rfl, rfl⟩
  · have h := sg_ifn hc h
    refine sg_iload_n (pn := 5) (i := 1) dX11_storm_4 rfl rfl 1 rfl ?_
    refine sg_bipush (pn := 7) dX11_storm_5 rfl ib_60 ?_
    refine sg_icmp_le (pn := 10) (tgt := 13) dX11_storm_7 rfl (by decide) (fun hc => ?_) (fun hc => ?_)
    · have h := sg_ifp hc h
      refine sg_aload_n (pn := 14) (i := 0) dX11_storm_13 rfl rfl 0 rfl ?_
      refine gfC_0_1 (pn := 17) dX11_storm_14 rfl lf_X11_19 ?_
      refine gfC_9_0 (pn := 20) dX11_storm_17 rfl lf_X11_124 ?_
      refine sg_if_ne (pn := 23) (tgt := 26) dX11_storm_20 rfl (by decide) (fun hc => ?_) (fun hc => ?_)
      · have h := sg_ifn hc h
        refine sg_aload_n (pn := 27) (i := 0) dX11_storm_26 rfl rfl 0 rfl ?_
        refine gfC_0_10 (pn := 30) dX11_storm_27 rfl lf_X11_88 ?_
        refine sg_aload_n (pn := 31) (i := 0) dX11_storm_30 rfl rfl 0 rfl ?_
        refine gfC_0_2 (pn := 34) dX11_storm_31 rfl lf_X11_26 ?_
        obtain ⟨r1, h_r1, h⟩ := sg_bind h
        refine sg_callVv (pn := 37) (rest := []) 40 dX11_storm_34 rfl kb_X11_217 kv_X3_remember (by exact rfl) rfl (Nat.le_of_ble_eq_true rfl) (gC_Memory_remember_ok h_r1) rfl rfl (Nat.le_of_ble_eq_true rfl) ?_
        refine sg_aload_n (pn := 38) (i := 0) dX11_storm_37 rfl rfl 0 rfl ?_
        refine gfC_0_2 (pn := 41) dX11_storm_38 rfl lf_X11_26 ?_
        refine gfC_15_1 (pn := 44) dX11_storm_41 rfl lf_X11_140 ?_
        obtain ⟨v2_2, e_v2_2, h⟩ := sg_letE h
        refine sg_topi e_v2_2 ?_
        refine sg_istore_n (pn := 45) (i := 2) (lv' := [(0, .ref (ad 0)), (1, .int a1), (2, .int v2_2)]) dX11_storm_44 rfl rfl (Nat.le_of_ble_eq_true rfl) [1, 2, 0] rfl ?_
        refine sg_aload_n (pn := 46) (i := 0) dX11_storm_45 rfl rfl 0 rfl ?_
        refine gfC_0_2 (pn := 49) dX11_storm_46 rfl lf_X11_26 ?_
        refine sg_iload_n (pn := 50) (i := 1) dX11_storm_49 rfl rfl 1 rfl ?_
        refine pfC_15_1 (pn := 53) dX11_storm_50 rfl lf_X11_140 ?_
        obtain ⟨z3, e_z3, h⟩ := sg_letE h
        refine sg_zE e_z3 ?_
        refine sg_iload_n (pn := 54) (i := 2) dX11_storm_53 rfl rfl 2 rfl ?_
        obtain rfl := Option.some.inj h
        exact sg_iret dX11_storm_54 rfl ⟨rfl, rfl⟩
      · have h := sg_ifp hc h
        refine sg_ldc (pn := 25) dX11_storm_23 rfl kc_X11_216 ?_
        obtain rfl := Option.some.inj h
        exact sg_iret dX11_storm_25 rfl ⟨rfl, rfl⟩
    · have h := sg_ifn hc h
      refine sg_ldc (pn := 12) dX11_storm_10 rfl kc_X11_99 ?_
      obtain rfl := Option.some.inj h
      exact sg_iret dX11_storm_12 rfl ⟨rfl, rfl⟩
set_option maxRecDepth 4000 in
theorem gC_State_clearTown_ok {l : Launch} {D : va_G} {cI cZ : ClassId} {ad : Nat → Nat} {a1 : Int32} {z : sg_M} {r : sg_M} (h : gC_State_clearTown a1 z = some r) : sg_Met (eC l D cI cZ ad) yX8_clearTown cX8_clearTown 2 none 1 [.ref (ad 15), .int a1] z (sg_is none r) := by
  refine sg_enter (lv0 := [(0, .ref (ad 15)), (1, .int a1)]) pn_X8 (Nat.le_of_ble_eq_true rfl) rfl ?_
  unfold gC_State_clearTown at h
  refine sg_aload_n (pn := 1) (i := 0) dX8_clearTown_0 rfl rfl 0 rfl ?_
  refine gfC_15_3 (pn := 4) dX8_clearTown_1 rfl lf_X8_15 ?_
  refine sg_iload_n (pn := 5) (i := 1) dX8_clearTown_4 rfl rfl 1 rfl ?_
  refine sg_iconst (pn := 6) dX8_clearTown_5 rfl ic_m1 ?_
  obtain ⟨hg, h⟩ := sg_guard h
  refine asC_17 (pn := 7) dX8_clearTown_6 rfl (sg_in_vp hg) ?_
  obtain ⟨z1, e_z1, h⟩ := sg_letE h
  refine sg_zE e_z1 ?_
  refine sg_aload_n (pn := 8) (i := 0) dX8_clearTown_7 rfl rfl 0 rfl ?_
  refine gfC_15_4 (pn := 11) dX8_clearTown_8 rfl lf_X8_18 ?_
  refine sg_iload_n (pn := 12) (i := 1) dX8_clearTown_11 rfl rfl 1 rfl ?_
  refine sg_iconst (pn := 13) dX8_clearTown_12 rfl ic_m1 ?_
  obtain ⟨hg, h⟩ := sg_guard h
  refine asC_18 (pn := 14) dX8_clearTown_13 rfl (sg_in_vp hg) ?_
  obtain ⟨z2, e_z2, h⟩ := sg_letE h
  refine sg_zE e_z2 ?_
  refine sg_aload_n (pn := 15) (i := 0) dX8_clearTown_14 rfl rfl 0 rfl ?_
  refine gfC_15_5 (pn := 18) dX8_clearTown_15 rfl lf_X8_21 ?_
  refine sg_iload_n (pn := 19) (i := 1) dX8_clearTown_18 rfl rfl 1 rfl ?_
  refine sg_iconst (pn := 20) dX8_clearTown_19 rfl ic_0 ?_
  obtain ⟨hg, h⟩ := sg_guard h
  refine asC_19 (pn := 21) dX8_clearTown_20 rfl (sg_in_vp hg) ?_
  obtain ⟨z3, e_z3, h⟩ := sg_letE h
  refine sg_zE e_z3 ?_
  obtain rfl := Option.some.inj h
  exact sg_vret dX8_clearTown_21 rfl ⟨rfl, rfl⟩
set_option maxRecDepth 4000 in
theorem gC_raze_ok {l : Launch} {D : va_G} {cI cZ : ClassId} {ad : Nat → Nat} {a1 : Int32} {z : sg_M} {r : Int32 × sg_M} (h : gC_raze a1 z = some r) : sg_Met (eC l D cI cZ ad) yX11_raze cX11_raze 3 (some .int) 3 [.ref (ad 0), .int a1] z (sg_is (some (.int r.1)) r.2) := by
  refine sg_enter (lv0 := [(0, .ref (ad 0)), (1, .int a1)]) pn_X11 (Nat.le_of_ble_eq_true rfl) rfl ?_
  unfold gC_raze at h
  refine sg_aload_n (pn := 1) (i := 0) dX11_raze_0 rfl rfl 0 rfl ?_
  refine gfC_0_1 (pn := 4) dX11_raze_1 rfl lf_X11_19 ?_
  refine sg_iload_n (pn := 5) (i := 1) dX11_raze_4 rfl rfl 1 rfl ?_
  refine sg_callVi (pn := 8) (rest := []) 9 dX11_raze_5 rfl kb_X11_167 kv_X6_hasCell (by exact rfl) rfl (Nat.le_of_ble_eq_true rfl) (gC_Road_hasCell_ok rfl) rfl rfl (Nat.le_of_ble_eq_true rfl) ?_
  refine sg_if_ne (pn := 11) (tgt := 14) dX11_raze_8 rfl (by decide) (fun hc => ?_) (fun hc => ?_)
  · have h := sg_ifn hc h
    refine sg_aload_n (pn := 15) (i := 0) dX11_raze_14 rfl rfl 0 rfl ?_
    refine gfC_0_2 (pn := 18) dX11_raze_15 rfl lf_X11_26 ?_
    refine sg_iload_n (pn := 19) (i := 1) dX11_raze_18 rfl rfl 1 rfl ?_
    obtain ⟨r1, h_r1, h⟩ := sg_bind h
    refine sg_callVi (pn := 22) (rest := []) 15 dX11_raze_19 rfl kb_X11_237 kv_X8_hasTown (by exact rfl) rfl (Nat.le_of_ble_eq_true rfl) (gC_State_hasTown_ok h_r1) rfl rfl (Nat.le_of_ble_eq_true rfl) ?_
    refine sg_if_ne (pn := 25) (tgt := 28) dX11_raze_22 rfl (by decide) (fun hc => ?_) (fun hc => ?_)
    · have h := sg_ifn hc h
      refine sg_aload_n (pn := 29) (i := 0) dX11_raze_28 rfl rfl 0 rfl ?_
      refine gfC_0_10 (pn := 32) dX11_raze_29 rfl lf_X11_88 ?_
      refine sg_aload_n (pn := 33) (i := 0) dX11_raze_32 rfl rfl 0 rfl ?_
      refine gfC_0_2 (pn := 36) dX11_raze_33 rfl lf_X11_26 ?_
      obtain ⟨r2, h_r2, h⟩ := sg_bind h
      refine sg_callVv (pn := 39) (rest := []) 40 dX11_raze_36 rfl kb_X11_217 kv_X3_remember (by exact rfl) rfl (Nat.le_of_ble_eq_true rfl) (gC_Memory_remember_ok h_r2) rfl rfl (Nat.le_of_ble_eq_true rfl) ?_
      refine sg_aload_n (pn := 40) (i := 0) dX11_raze_39 rfl rfl 0 rfl ?_
      refine gfC_0_2 (pn := 43) dX11_raze_40 rfl lf_X11_26 ?_
      refine gfC_15_5 (pn := 46) dX11_raze_43 rfl lf_X11_240 ?_
      refine sg_iload_n (pn := 47) (i := 1) dX11_raze_46 rfl rfl 1 rfl ?_
      obtain ⟨hg, h⟩ := sg_guard h
      refine alC_19 (pn := 48) dX11_raze_47 rfl (sg_in_vp hg) ?_
      obtain ⟨v2_3, e_v2_3, h⟩ := sg_letE h
      refine sg_topi e_v2_3 ?_
      refine sg_istore_n (pn := 49) (i := 2) (lv' := [(0, .ref (ad 0)), (1, .int a1), (2, .int v2_3)]) dX11_raze_48 rfl rfl (Nat.le_of_ble_eq_true rfl) [1, 2, 0] rfl ?_
      refine sg_aload_n (pn := 50) (i := 0) dX11_raze_49 rfl rfl 0 rfl ?_
      refine gfC_0_2 (pn := 53) dX11_raze_50 rfl lf_X11_26 ?_
      refine sg_iload_n (pn := 54) (i := 1) dX11_raze_53 rfl rfl 1 rfl ?_
      obtain ⟨r4, h_r4, h⟩ := sg_bind h
      refine sg_callVv (pn := 57) (rest := []) 15 dX11_raze_54 rfl kb_X11_243 kv_X8_clearTown (by exact rfl) rfl (Nat.le_of_ble_eq_true rfl) (gC_State_clearTown_ok h_r4) rfl rfl (Nat.le_of_ble_eq_true rfl) ?_
      refine sg_iload_n (pn := 58) (i := 2) dX11_raze_57 rfl rfl 2 rfl ?_
      obtain rfl := Option.some.inj h
      exact sg_iret dX11_raze_58 rfl ⟨rfl, rfl⟩
    · have h := sg_ifp hc h
      refine sg_ldc (pn := 27) dX11_raze_25 rfl kc_X11_216 ?_
      obtain rfl := Option.some.inj h
      exact sg_iret dX11_raze_27 rfl ⟨rfl, rfl⟩
  · have h := sg_ifp hc h
    refine sg_ldc (pn := 13) dX11_raze_11 rfl kc_X11_171 ?_
    obtain rfl := Option.some.inj h
    exact sg_iret dX11_raze_13 rfl ⟨rfl, rfl⟩
set_option maxRecDepth 4000 in
theorem gC_drawOf_ok {l : Launch} {D : va_G} {cI cZ : ClassId} {ad : Nat → Nat} {a1 : Int32} {z : sg_M} {r : Int32 × sg_M} (h : gC_drawOf a1 z = some r) : sg_Met (eC l D cI cZ ad) yX11_drawOf cX11_drawOf 2 (some .int) 1 [.ref (ad 0), .int a1] z (sg_is (some (.int r.1)) r.2) := by
  refine sg_enter (lv0 := [(0, .ref (ad 0)), (1, .int a1)]) pn_X11 (Nat.le_of_ble_eq_true rfl) rfl ?_
  unfold gC_drawOf at h
  refine sg_aload_n (pn := 1) (i := 0) dX11_drawOf_0 rfl rfl 0 rfl ?_
  refine sg_aload_n (pn := 2) (i := 0) dX11_drawOf_1 rfl rfl 0 rfl ?_
  refine gfC_0_11 (pn := 5) dX11_drawOf_2 rfl lf_X11_320 ?_
  refine sg_i2l (pn := 6) dX11_drawOf_5 rfl ?_
  refine sg_ldc2 (pn := 9) dX11_drawOf_6 rfl kl_X11_343 ?_
  refine sg_lmul (pn := 10) dX11_drawOf_9 rfl ?_
  refine sg_ldc2 (pn := 13) dX11_drawOf_10 rfl kl_X11_345 ?_
  refine sg_ladd (pn := 14) dX11_drawOf_13 rfl ?_
  refine sg_ldc2 (pn := 17) dX11_drawOf_14 rfl kl_X11_347 ?_
  refine sg_land (pn := 18) dX11_drawOf_17 rfl ?_
  refine sg_l2i (pn := 19) dX11_drawOf_18 rfl ?_
  refine pfC_0_11 (pn := 22) dX11_drawOf_19 rfl lf_X11_320 ?_
  obtain ⟨z1, e_z1, h⟩ := sg_letE h
  refine sg_zE e_z1 ?_
  refine sg_iload_n (pn := 23) (i := 1) dX11_drawOf_22 rfl rfl 1 rfl ?_
  refine sg_iconst (pn := 24) dX11_drawOf_23 rfl ic_1 ?_
  refine sg_icmp_ge (pn := 27) (tgt := 31) dX11_drawOf_24 rfl (by decide) (fun hc => ?_) (fun hc => ?_)
  · have h := sg_ifp hc h
    refine sg_aload_n (pn := 32) (i := 0) dX11_drawOf_31 rfl rfl 0 rfl ?_
    refine gfC_0_11 (pn := 35) dX11_drawOf_32 rfl lf_X11_320 ?_
    refine sg_ldcw (pn := 38) dX11_drawOf_35 rfl kc_X11_349 ?_
    refine sg_idiv (pn := 39) dX11_drawOf_38 rfl (by decide +kernel) ?_
    refine sg_iload_n (pn := 40) (i := 1) dX11_drawOf_39 rfl rfl 1 rfl ?_
    obtain ⟨hg, h⟩ := sg_nz h
    refine sg_irem (pn := 41) dX11_drawOf_40 rfl hg ?_
    obtain rfl := Option.some.inj h
    exact sg_iret dX11_drawOf_41 rfl ⟨rfl, rfl⟩
  · have h := sg_ifn hc h
    refine sg_iconst (pn := 28) dX11_drawOf_27 rfl ic_0 ?_
    refine sg_goto (tgt := 41) dX11_drawOf_28 (by decide) ?_
    obtain rfl := Option.some.inj h
    exact sg_iret dX11_drawOf_41 rfl ⟨rfl, rfl⟩
set_option maxRecDepth 4000 in
theorem gC_doByDraw_ok {l : Launch} {D : va_G} {cI cZ : ClassId} {ad : Nat → Nat} {n : Nat} {z : sg_M} {r : sg_M} (h : gC_doByDraw n z = some r) : sg_Met (eC l D cI cZ ad) yX11_doByDraw cX11_doByDraw 3 none 6 [.ref (ad 0)] z (sg_is none r) := by
  refine sg_enter (lv0 := [(0, .ref (ad 0))]) pn_X11 (Nat.le_of_ble_eq_true rfl) rfl ?_
  unfold gC_doByDraw at h
  refine sg_aload_n (pn := 1) (i := 0) dX11_doByDraw_0 rfl rfl 0 rfl ?_
  refine sg_iconst (pn := 2) dX11_doByDraw_1 rfl ic_5 ?_
  obtain ⟨r1, h_r1, h⟩ := sg_bind h
  refine sg_callVi (pn := 5) (rest := []) 0 dX11_doByDraw_2 rfl kb_X11_340 kv_X11_drawOf (by exact rfl) rfl (Nat.le_of_ble_eq_true rfl) (gC_drawOf_ok h_r1) rfl rfl (Nat.le_of_ble_eq_true rfl) ?_
  refine sg_istore_n (pn := 6) (i := 1) (lv' := [(0, .ref (ad 0)), (1, .int r1.1)]) dX11_doByDraw_5 rfl rfl (Nat.le_of_ble_eq_true rfl) [1, 0] rfl ?_
  refine sg_iload_n (pn := 7) (i := 1) dX11_doByDraw_6 rfl rfl 1 rfl ?_
  refine sg_if_ne (pn := 10) (tgt := 26) dX11_doByDraw_7 rfl (by decide) (fun hc => ?_) (fun hc => ?_)
  · have h := sg_ifn hc h
    refine sg_iload_n (pn := 27) (i := 1) dX11_doByDraw_26 rfl rfl 1 rfl ?_
    refine sg_iconst (pn := 28) dX11_doByDraw_27 rfl ic_1 ?_
    refine sg_icmp_eq (pn := 31) (tgt := 36) dX11_doByDraw_28 rfl (by decide) (fun hc => ?_) (fun hc => ?_)
    · have h := sg_ifp hc h
      refine sg_aload_n (pn := 37) (i := 0) dX11_doByDraw_36 rfl rfl 0 rfl ?_
      refine gfC_0_1 (pn := 40) dX11_doByDraw_37 rfl lf_X11_19 ?_
      refine gfC_9_2 (pn := 43) dX11_doByDraw_40 rfl lf_X11_130 ?_
      refine sg_if_le (pn := 46) (tgt := 114) dX11_doByDraw_43 rfl (by decide) (fun hc => ?_) (fun hc => ?_)
      · have h := sg_ifp hc h
        refine sg_iload_n (pn := 115) (i := 1) dX11_doByDraw_114 rfl rfl 1 rfl ?_
        refine sg_iconst (pn := 116) dX11_doByDraw_115 rfl ic_3 ?_
        refine sg_icmp_ne (pn := 119) (tgt := 145) dX11_doByDraw_116 rfl (by decide) (fun hc => ?_) (fun hc => ?_)
        · have h := sg_ifn hc h
          obtain rfl := Option.some.inj h
          exact sg_vret dX11_doByDraw_145 rfl ⟨rfl, rfl⟩
        · have h := sg_ifp hc h
          refine sg_aload_n (pn := 120) (i := 0) dX11_doByDraw_119 rfl rfl 0 rfl ?_
          refine sg_aload_n (pn := 121) (i := 0) dX11_doByDraw_120 rfl rfl 0 rfl ?_
          refine gfC_0_1 (pn := 124) dX11_doByDraw_121 rfl lf_X11_19 ?_
          refine gfC_9_0 (pn := 127) dX11_doByDraw_124 rfl lf_X11_124 ?_
          obtain ⟨r2, h_r2, h⟩ := sg_bind h
          refine sg_callVi (pn := 130) (rest := []) 0 dX11_doByDraw_127 rfl kb_X11_340 kv_X11_drawOf (by exact rfl) rfl (Nat.le_of_ble_eq_true rfl) (gC_drawOf_ok h_r2) rfl rfl (Nat.le_of_ble_eq_true rfl) ?_
          refine sg_istore_n (pn := 131) (i := 2) (lv' := [(0, .ref (ad 0)), (1, .int r1.1), (2, .int r2.1)]) dX11_doByDraw_130 rfl rfl (Nat.le_of_ble_eq_true rfl) [1, 2, 0] rfl ?_
          refine sg_aload_n (pn := 132) (i := 0) dX11_doByDraw_131 rfl rfl 0 rfl ?_
          refine gfC_0_3 (pn := 135) dX11_doByDraw_132 rfl lf_X11_35 ?_
          refine sg_iload_n (pn := 136) (i := 2) dX11_doByDraw_135 rfl rfl 2 rfl ?_
          refine sg_aload_n (pn := 137) (i := 0) dX11_doByDraw_136 rfl rfl 0 rfl ?_
          refine sg_bipush (pn := 139) dX11_doByDraw_137 rfl ib_10 ?_
          obtain ⟨r3, h_r3, h⟩ := sg_bind h
          refine sg_callVi (pn := 142) (rest := [.int r2.1, .ref (ad 23)]) 0 dX11_doByDraw_139 rfl kb_X11_340 kv_X11_drawOf (by exact rfl) rfl (Nat.le_of_ble_eq_true rfl) (gC_drawOf_ok h_r3) rfl rfl (Nat.le_of_ble_eq_true rfl) ?_
          obtain ⟨r4, h_r4, h⟩ := sg_bind h
          refine sg_callVv (pn := 145) (rest := []) 23 dX11_doByDraw_142 rfl kb_X11_233 kv_X2_layGravel (by exact rfl) rfl (Nat.le_of_ble_eq_true rfl) (gC_Kingdom_layGravel_ok h_r4) rfl rfl (Nat.le_of_ble_eq_true rfl) ?_
          obtain rfl := Option.some.inj h
          exact sg_vret dX11_doByDraw_145 rfl ⟨rfl, rfl⟩
      · have h := sg_ifn hc h
        refine sg_aload_n (pn := 47) (i := 0) dX11_doByDraw_46 rfl rfl 0 rfl ?_
        refine sg_aload_n (pn := 48) (i := 0) dX11_doByDraw_47 rfl rfl 0 rfl ?_
        refine gfC_0_1 (pn := 51) dX11_doByDraw_48 rfl lf_X11_19 ?_
        refine gfC_9_2 (pn := 54) dX11_doByDraw_51 rfl lf_X11_130 ?_
        obtain ⟨r5, h_r5, h⟩ := sg_bind h
        refine sg_callVi (pn := 57) (rest := []) 0 dX11_doByDraw_54 rfl kb_X11_340 kv_X11_drawOf (by exact rfl) rfl (Nat.le_of_ble_eq_true rfl) (gC_drawOf_ok h_r5) rfl rfl (Nat.le_of_ble_eq_true rfl) ?_
        refine sg_istore_n (pn := 58) (i := 2) (lv' := [(0, .ref (ad 0)), (1, .int r1.1), (2, .int r5.1)]) dX11_doByDraw_57 rfl rfl (Nat.le_of_ble_eq_true rfl) [1, 2, 0] rfl ?_
        refine sg_iload_n (pn := 59) (i := 1) dX11_doByDraw_58 rfl rfl 1 rfl ?_
        refine sg_iconst (pn := 60) dX11_doByDraw_59 rfl ic_1 ?_
        obtain ⟨t12, e_t12, h2⟩ := sg_bind h
        have hm_t12 : sg_G (eC l D cI cZ ad) yX11_doByDraw cX11_doByDraw 3 none 6 111 [] [] t12 (sg_is none r) := by
          have h := h2
          refine sg_goto (tgt := 145) dX11_doByDraw_111 (by decide) ?_
          obtain rfl := Option.some.inj h
          exact sg_vret dX11_doByDraw_145 rfl ⟨rfl, rfl⟩
        have h := e_t12
        refine sg_icmp_ne (pn := 63) (tgt := 86) dX11_doByDraw_60 rfl (by decide) (fun hc => ?_) (fun hc => ?_)
        · have h := sg_ifn hc h
          refine sg_iload_n (pn := 87) (i := 1) dX11_doByDraw_86 rfl rfl 1 rfl ?_
          refine sg_iconst (pn := 88) dX11_doByDraw_87 rfl ic_2 ?_
          refine sg_icmp_ne (pn := 91) (tgt := 111) dX11_doByDraw_88 rfl (by decide) (fun hc => ?_) (fun hc => ?_)
          · have h := sg_ifn hc h
            obtain rfl := Option.some.inj h
            refine sg_sub [] rfl ?_
            exact hm_t12
          · have h := sg_ifp hc h
            refine sg_aload_n (pn := 92) (i := 0) dX11_doByDraw_91 rfl rfl 0 rfl ?_
            refine gfC_0_2 (pn := 95) dX11_doByDraw_92 rfl lf_X11_26 ?_
            refine sg_iload_n (pn := 96) (i := 2) dX11_doByDraw_95 rfl rfl 2 rfl ?_
            obtain ⟨r6, h_r6, h⟩ := sg_bind h
            refine sg_callVi (pn := 99) (rest := []) 15 dX11_doByDraw_96 rfl kb_X11_213 kv_X8_isStuck (by exact rfl) rfl (Nat.le_of_ble_eq_true rfl) (gC_State_isStuck_ok h_r6) rfl rfl (Nat.le_of_ble_eq_true rfl) ?_
            refine sg_if_eq (pn := 102) (tgt := 111) dX11_doByDraw_99 rfl (by decide) (fun hc => ?_) (fun hc => ?_)
            · have h := sg_ifp hc h
              obtain rfl := Option.some.inj h
              refine sg_sub [] rfl ?_
              exact hm_t12
            · have h := sg_ifn hc h
              refine sg_aload_n (pn := 103) (i := 0) dX11_doByDraw_102 rfl rfl 0 rfl ?_
              refine gfC_0_3 (pn := 106) dX11_doByDraw_103 rfl lf_X11_35 ?_
              refine sg_iload_n (pn := 107) (i := 2) dX11_doByDraw_106 rfl rfl 2 rfl ?_
              obtain ⟨r7, h_r7, h⟩ := sg_bind h
              refine sg_callVi (pn := 110) (rest := []) 23 dX11_doByDraw_107 rfl kb_X11_224 kv_X2_pullOut (by exact rfl) rfl (Nat.le_of_ble_eq_true rfl) (gC_Kingdom_pullOut_ok h_r7) rfl rfl (Nat.le_of_ble_eq_true rfl) ?_
              refine sg_pop (pn := 111) dX11_doByDraw_110 rfl rfl ?_
              obtain rfl := Option.some.inj h
              refine sg_sub [] rfl ?_
              exact hm_t12
        · have h := sg_ifp hc h
          refine sg_aload_n (pn := 64) (i := 0) dX11_doByDraw_63 rfl rfl 0 rfl ?_
          refine gfC_0_2 (pn := 67) dX11_doByDraw_64 rfl lf_X11_26 ?_
          refine sg_iload_n (pn := 68) (i := 2) dX11_doByDraw_67 rfl rfl 2 rfl ?_
          obtain ⟨r8, h_r8, h⟩ := sg_bind h
          refine sg_callVi (pn := 71) (rest := []) 15 dX11_doByDraw_68 rfl kb_X11_213 kv_X8_isStuck (by exact rfl) rfl (Nat.le_of_ble_eq_true rfl) (gC_State_isStuck_ok h_r8) rfl rfl (Nat.le_of_ble_eq_true rfl) ?_
          refine sg_if_ne (pn := 74) (tgt := 86) dX11_doByDraw_71 rfl (by decide) (fun hc => ?_) (fun hc => ?_)
          · have h := sg_ifn hc h
            refine sg_iload_n (pn := 87) (i := 1) dX11_doByDraw_86 rfl rfl 1 rfl ?_
            refine sg_iconst (pn := 88) dX11_doByDraw_87 rfl ic_2 ?_
            refine sg_icmp_ne (pn := 91) (tgt := 111) dX11_doByDraw_88 rfl (by decide) (fun hc => ?_) (fun hc => ?_)
            · have h := sg_ifn hc h
              obtain rfl := Option.some.inj h
              refine sg_sub [] rfl ?_
              exact hm_t12
            · have h := sg_ifp hc h
              refine sg_aload_n (pn := 92) (i := 0) dX11_doByDraw_91 rfl rfl 0 rfl ?_
              refine gfC_0_2 (pn := 95) dX11_doByDraw_92 rfl lf_X11_26 ?_
              refine sg_iload_n (pn := 96) (i := 2) dX11_doByDraw_95 rfl rfl 2 rfl ?_
              obtain ⟨r9, h_r9, h⟩ := sg_bind h
              refine sg_callVi (pn := 99) (rest := []) 15 dX11_doByDraw_96 rfl kb_X11_213 kv_X8_isStuck (by exact rfl) rfl (Nat.le_of_ble_eq_true rfl) (gC_State_isStuck_ok h_r9) rfl rfl (Nat.le_of_ble_eq_true rfl) ?_
              refine sg_if_eq (pn := 102) (tgt := 111) dX11_doByDraw_99 rfl (by decide) (fun hc => ?_) (fun hc => ?_)
              · have h := sg_ifp hc h
                obtain rfl := Option.some.inj h
                refine sg_sub [] rfl ?_
                exact hm_t12
              · have h := sg_ifn hc h
                refine sg_aload_n (pn := 103) (i := 0) dX11_doByDraw_102 rfl rfl 0 rfl ?_
                refine gfC_0_3 (pn := 106) dX11_doByDraw_103 rfl lf_X11_35 ?_
                refine sg_iload_n (pn := 107) (i := 2) dX11_doByDraw_106 rfl rfl 2 rfl ?_
                obtain ⟨r10, h_r10, h⟩ := sg_bind h
                refine sg_callVi (pn := 110) (rest := []) 23 dX11_doByDraw_107 rfl kb_X11_224 kv_X2_pullOut (by exact rfl) rfl (Nat.le_of_ble_eq_true rfl) (gC_Kingdom_pullOut_ok h_r10) rfl rfl (Nat.le_of_ble_eq_true rfl) ?_
                refine sg_pop (pn := 111) dX11_doByDraw_110 rfl rfl ?_
                obtain rfl := Option.some.inj h
                refine sg_sub [] rfl ?_
                exact hm_t12
          · have h := sg_ifp hc h
            refine sg_aload_n (pn := 75) (i := 0) dX11_doByDraw_74 rfl rfl 0 rfl ?_
            refine gfC_0_3 (pn := 78) dX11_doByDraw_75 rfl lf_X11_35 ?_
            refine sg_iload_n (pn := 79) (i := 2) dX11_doByDraw_78 rfl rfl 2 rfl ?_
            obtain ⟨r11, h_r11, h⟩ := sg_bind h
            refine sg_callVi (pn := 82) (rest := []) 23 dX11_doByDraw_79 rfl kb_X11_221 kv_X2_driveOut (by exact rfl) rfl (Nat.le_of_ble_eq_true rfl) (gC_Kingdom_driveOut_ok h_r11) rfl rfl (Nat.le_of_ble_eq_true rfl) ?_
            refine sg_pop (pn := 83) dX11_doByDraw_82 rfl rfl ?_
            refine sg_goto (tgt := 111) dX11_doByDraw_83 (by decide) ?_
            obtain rfl := Option.some.inj h
            refine sg_sub [] rfl ?_
            exact hm_t12
    · have h := sg_ifn hc h
      refine sg_iload_n (pn := 32) (i := 1) dX11_doByDraw_31 rfl rfl 1 rfl ?_
      refine sg_iconst (pn := 33) dX11_doByDraw_32 rfl ic_2 ?_
      refine sg_icmp_ne (pn := 36) (tgt := 114) dX11_doByDraw_33 rfl (by decide) (fun hc => ?_) (fun hc => ?_)
      · have h := sg_ifn hc h
        refine sg_iload_n (pn := 115) (i := 1) dX11_doByDraw_114 rfl rfl 1 rfl ?_
        refine sg_iconst (pn := 116) dX11_doByDraw_115 rfl ic_3 ?_
        refine sg_icmp_ne (pn := 119) (tgt := 145) dX11_doByDraw_116 rfl (by decide) (fun hc => ?_) (fun hc => ?_)
        · have h := sg_ifn hc h
          obtain rfl := Option.some.inj h
          exact sg_vret dX11_doByDraw_145 rfl ⟨rfl, rfl⟩
        · have h := sg_ifp hc h
          refine sg_aload_n (pn := 120) (i := 0) dX11_doByDraw_119 rfl rfl 0 rfl ?_
          refine sg_aload_n (pn := 121) (i := 0) dX11_doByDraw_120 rfl rfl 0 rfl ?_
          refine gfC_0_1 (pn := 124) dX11_doByDraw_121 rfl lf_X11_19 ?_
          refine gfC_9_0 (pn := 127) dX11_doByDraw_124 rfl lf_X11_124 ?_
          obtain ⟨r13, h_r13, h⟩ := sg_bind h
          refine sg_callVi (pn := 130) (rest := []) 0 dX11_doByDraw_127 rfl kb_X11_340 kv_X11_drawOf (by exact rfl) rfl (Nat.le_of_ble_eq_true rfl) (gC_drawOf_ok h_r13) rfl rfl (Nat.le_of_ble_eq_true rfl) ?_
          refine sg_istore_n (pn := 131) (i := 2) (lv' := [(0, .ref (ad 0)), (1, .int r1.1), (2, .int r13.1)]) dX11_doByDraw_130 rfl rfl (Nat.le_of_ble_eq_true rfl) [1, 2, 0] rfl ?_
          refine sg_aload_n (pn := 132) (i := 0) dX11_doByDraw_131 rfl rfl 0 rfl ?_
          refine gfC_0_3 (pn := 135) dX11_doByDraw_132 rfl lf_X11_35 ?_
          refine sg_iload_n (pn := 136) (i := 2) dX11_doByDraw_135 rfl rfl 2 rfl ?_
          refine sg_aload_n (pn := 137) (i := 0) dX11_doByDraw_136 rfl rfl 0 rfl ?_
          refine sg_bipush (pn := 139) dX11_doByDraw_137 rfl ib_10 ?_
          obtain ⟨r14, h_r14, h⟩ := sg_bind h
          refine sg_callVi (pn := 142) (rest := [.int r13.1, .ref (ad 23)]) 0 dX11_doByDraw_139 rfl kb_X11_340 kv_X11_drawOf (by exact rfl) rfl (Nat.le_of_ble_eq_true rfl) (gC_drawOf_ok h_r14) rfl rfl (Nat.le_of_ble_eq_true rfl) ?_
          obtain ⟨r15, h_r15, h⟩ := sg_bind h
          refine sg_callVv (pn := 145) (rest := []) 23 dX11_doByDraw_142 rfl kb_X11_233 kv_X2_layGravel (by exact rfl) rfl (Nat.le_of_ble_eq_true rfl) (gC_Kingdom_layGravel_ok h_r15) rfl rfl (Nat.le_of_ble_eq_true rfl) ?_
          obtain rfl := Option.some.inj h
          exact sg_vret dX11_doByDraw_145 rfl ⟨rfl, rfl⟩
      · have h := sg_ifp hc h
        refine sg_aload_n (pn := 37) (i := 0) dX11_doByDraw_36 rfl rfl 0 rfl ?_
        refine gfC_0_1 (pn := 40) dX11_doByDraw_37 rfl lf_X11_19 ?_
        refine gfC_9_2 (pn := 43) dX11_doByDraw_40 rfl lf_X11_130 ?_
        refine sg_if_le (pn := 46) (tgt := 114) dX11_doByDraw_43 rfl (by decide) (fun hc => ?_) (fun hc => ?_)
        · have h := sg_ifp hc h
          refine sg_iload_n (pn := 115) (i := 1) dX11_doByDraw_114 rfl rfl 1 rfl ?_
          refine sg_iconst (pn := 116) dX11_doByDraw_115 rfl ic_3 ?_
          refine sg_icmp_ne (pn := 119) (tgt := 145) dX11_doByDraw_116 rfl (by decide) (fun hc => ?_) (fun hc => ?_)
          · have h := sg_ifn hc h
            obtain rfl := Option.some.inj h
            exact sg_vret dX11_doByDraw_145 rfl ⟨rfl, rfl⟩
          · have h := sg_ifp hc h
            refine sg_aload_n (pn := 120) (i := 0) dX11_doByDraw_119 rfl rfl 0 rfl ?_
            refine sg_aload_n (pn := 121) (i := 0) dX11_doByDraw_120 rfl rfl 0 rfl ?_
            refine gfC_0_1 (pn := 124) dX11_doByDraw_121 rfl lf_X11_19 ?_
            refine gfC_9_0 (pn := 127) dX11_doByDraw_124 rfl lf_X11_124 ?_
            obtain ⟨r16, h_r16, h⟩ := sg_bind h
            refine sg_callVi (pn := 130) (rest := []) 0 dX11_doByDraw_127 rfl kb_X11_340 kv_X11_drawOf (by exact rfl) rfl (Nat.le_of_ble_eq_true rfl) (gC_drawOf_ok h_r16) rfl rfl (Nat.le_of_ble_eq_true rfl) ?_
            refine sg_istore_n (pn := 131) (i := 2) (lv' := [(0, .ref (ad 0)), (1, .int r1.1), (2, .int r16.1)]) dX11_doByDraw_130 rfl rfl (Nat.le_of_ble_eq_true rfl) [1, 2, 0] rfl ?_
            refine sg_aload_n (pn := 132) (i := 0) dX11_doByDraw_131 rfl rfl 0 rfl ?_
            refine gfC_0_3 (pn := 135) dX11_doByDraw_132 rfl lf_X11_35 ?_
            refine sg_iload_n (pn := 136) (i := 2) dX11_doByDraw_135 rfl rfl 2 rfl ?_
            refine sg_aload_n (pn := 137) (i := 0) dX11_doByDraw_136 rfl rfl 0 rfl ?_
            refine sg_bipush (pn := 139) dX11_doByDraw_137 rfl ib_10 ?_
            obtain ⟨r17, h_r17, h⟩ := sg_bind h
            refine sg_callVi (pn := 142) (rest := [.int r16.1, .ref (ad 23)]) 0 dX11_doByDraw_139 rfl kb_X11_340 kv_X11_drawOf (by exact rfl) rfl (Nat.le_of_ble_eq_true rfl) (gC_drawOf_ok h_r17) rfl rfl (Nat.le_of_ble_eq_true rfl) ?_
            obtain ⟨r18, h_r18, h⟩ := sg_bind h
            refine sg_callVv (pn := 145) (rest := []) 23 dX11_doByDraw_142 rfl kb_X11_233 kv_X2_layGravel (by exact rfl) rfl (Nat.le_of_ble_eq_true rfl) (gC_Kingdom_layGravel_ok h_r18) rfl rfl (Nat.le_of_ble_eq_true rfl) ?_
            obtain rfl := Option.some.inj h
            exact sg_vret dX11_doByDraw_145 rfl ⟨rfl, rfl⟩
        · have h := sg_ifn hc h
          refine sg_aload_n (pn := 47) (i := 0) dX11_doByDraw_46 rfl rfl 0 rfl ?_
          refine sg_aload_n (pn := 48) (i := 0) dX11_doByDraw_47 rfl rfl 0 rfl ?_
          refine gfC_0_1 (pn := 51) dX11_doByDraw_48 rfl lf_X11_19 ?_
          refine gfC_9_2 (pn := 54) dX11_doByDraw_51 rfl lf_X11_130 ?_
          obtain ⟨r19, h_r19, h⟩ := sg_bind h
          refine sg_callVi (pn := 57) (rest := []) 0 dX11_doByDraw_54 rfl kb_X11_340 kv_X11_drawOf (by exact rfl) rfl (Nat.le_of_ble_eq_true rfl) (gC_drawOf_ok h_r19) rfl rfl (Nat.le_of_ble_eq_true rfl) ?_
          refine sg_istore_n (pn := 58) (i := 2) (lv' := [(0, .ref (ad 0)), (1, .int r1.1), (2, .int r19.1)]) dX11_doByDraw_57 rfl rfl (Nat.le_of_ble_eq_true rfl) [1, 2, 0] rfl ?_
          refine sg_iload_n (pn := 59) (i := 1) dX11_doByDraw_58 rfl rfl 1 rfl ?_
          refine sg_iconst (pn := 60) dX11_doByDraw_59 rfl ic_1 ?_
          obtain ⟨t26, e_t26, h2⟩ := sg_bind h
          have hm_t26 : sg_G (eC l D cI cZ ad) yX11_doByDraw cX11_doByDraw 3 none 6 111 [] [] t26 (sg_is none r) := by
            have h := h2
            refine sg_goto (tgt := 145) dX11_doByDraw_111 (by decide) ?_
            obtain rfl := Option.some.inj h
            exact sg_vret dX11_doByDraw_145 rfl ⟨rfl, rfl⟩
          have h := e_t26
          refine sg_icmp_ne (pn := 63) (tgt := 86) dX11_doByDraw_60 rfl (by decide) (fun hc => ?_) (fun hc => ?_)
          · have h := sg_ifn hc h
            refine sg_iload_n (pn := 87) (i := 1) dX11_doByDraw_86 rfl rfl 1 rfl ?_
            refine sg_iconst (pn := 88) dX11_doByDraw_87 rfl ic_2 ?_
            refine sg_icmp_ne (pn := 91) (tgt := 111) dX11_doByDraw_88 rfl (by decide) (fun hc => ?_) (fun hc => ?_)
            · have h := sg_ifn hc h
              obtain rfl := Option.some.inj h
              refine sg_sub [] rfl ?_
              exact hm_t26
            · have h := sg_ifp hc h
              refine sg_aload_n (pn := 92) (i := 0) dX11_doByDraw_91 rfl rfl 0 rfl ?_
              refine gfC_0_2 (pn := 95) dX11_doByDraw_92 rfl lf_X11_26 ?_
              refine sg_iload_n (pn := 96) (i := 2) dX11_doByDraw_95 rfl rfl 2 rfl ?_
              obtain ⟨r20, h_r20, h⟩ := sg_bind h
              refine sg_callVi (pn := 99) (rest := []) 15 dX11_doByDraw_96 rfl kb_X11_213 kv_X8_isStuck (by exact rfl) rfl (Nat.le_of_ble_eq_true rfl) (gC_State_isStuck_ok h_r20) rfl rfl (Nat.le_of_ble_eq_true rfl) ?_
              refine sg_if_eq (pn := 102) (tgt := 111) dX11_doByDraw_99 rfl (by decide) (fun hc => ?_) (fun hc => ?_)
              · have h := sg_ifp hc h
                obtain rfl := Option.some.inj h
                refine sg_sub [] rfl ?_
                exact hm_t26
              · have h := sg_ifn hc h
                refine sg_aload_n (pn := 103) (i := 0) dX11_doByDraw_102 rfl rfl 0 rfl ?_
                refine gfC_0_3 (pn := 106) dX11_doByDraw_103 rfl lf_X11_35 ?_
                refine sg_iload_n (pn := 107) (i := 2) dX11_doByDraw_106 rfl rfl 2 rfl ?_
                obtain ⟨r21, h_r21, h⟩ := sg_bind h
                refine sg_callVi (pn := 110) (rest := []) 23 dX11_doByDraw_107 rfl kb_X11_224 kv_X2_pullOut (by exact rfl) rfl (Nat.le_of_ble_eq_true rfl) (gC_Kingdom_pullOut_ok h_r21) rfl rfl (Nat.le_of_ble_eq_true rfl) ?_
                refine sg_pop (pn := 111) dX11_doByDraw_110 rfl rfl ?_
                obtain rfl := Option.some.inj h
                refine sg_sub [] rfl ?_
                exact hm_t26
          · have h := sg_ifp hc h
            refine sg_aload_n (pn := 64) (i := 0) dX11_doByDraw_63 rfl rfl 0 rfl ?_
            refine gfC_0_2 (pn := 67) dX11_doByDraw_64 rfl lf_X11_26 ?_
            refine sg_iload_n (pn := 68) (i := 2) dX11_doByDraw_67 rfl rfl 2 rfl ?_
            obtain ⟨r22, h_r22, h⟩ := sg_bind h
            refine sg_callVi (pn := 71) (rest := []) 15 dX11_doByDraw_68 rfl kb_X11_213 kv_X8_isStuck (by exact rfl) rfl (Nat.le_of_ble_eq_true rfl) (gC_State_isStuck_ok h_r22) rfl rfl (Nat.le_of_ble_eq_true rfl) ?_
            refine sg_if_ne (pn := 74) (tgt := 86) dX11_doByDraw_71 rfl (by decide) (fun hc => ?_) (fun hc => ?_)
            · have h := sg_ifn hc h
              refine sg_iload_n (pn := 87) (i := 1) dX11_doByDraw_86 rfl rfl 1 rfl ?_
              refine sg_iconst (pn := 88) dX11_doByDraw_87 rfl ic_2 ?_
              refine sg_icmp_ne (pn := 91) (tgt := 111) dX11_doByDraw_88 rfl (by decide) (fun hc => ?_) (fun hc => ?_)
              · have h := sg_ifn hc h
                obtain rfl := Option.some.inj h
                refine sg_sub [] rfl ?_
                exact hm_t26
              · have h := sg_ifp hc h
                refine sg_aload_n (pn := 92) (i := 0) dX11_doByDraw_91 rfl rfl 0 rfl ?_
                refine gfC_0_2 (pn := 95) dX11_doByDraw_92 rfl lf_X11_26 ?_
                refine sg_iload_n (pn := 96) (i := 2) dX11_doByDraw_95 rfl rfl 2 rfl ?_
                obtain ⟨r23, h_r23, h⟩ := sg_bind h
                refine sg_callVi (pn := 99) (rest := []) 15 dX11_doByDraw_96 rfl kb_X11_213 kv_X8_isStuck (by exact rfl) rfl (Nat.le_of_ble_eq_true rfl) (gC_State_isStuck_ok h_r23) rfl rfl (Nat.le_of_ble_eq_true rfl) ?_
                refine sg_if_eq (pn := 102) (tgt := 111) dX11_doByDraw_99 rfl (by decide) (fun hc => ?_) (fun hc => ?_)
                · have h := sg_ifp hc h
                  obtain rfl := Option.some.inj h
                  refine sg_sub [] rfl ?_
                  exact hm_t26
                · have h := sg_ifn hc h
                  refine sg_aload_n (pn := 103) (i := 0) dX11_doByDraw_102 rfl rfl 0 rfl ?_
                  refine gfC_0_3 (pn := 106) dX11_doByDraw_103 rfl lf_X11_35 ?_
                  refine sg_iload_n (pn := 107) (i := 2) dX11_doByDraw_106 rfl rfl 2 rfl ?_
                  obtain ⟨r24, h_r24, h⟩ := sg_bind h
                  refine sg_callVi (pn := 110) (rest := []) 23 dX11_doByDraw_107 rfl kb_X11_224 kv_X2_pullOut (by exact rfl) rfl (Nat.le_of_ble_eq_true rfl) (gC_Kingdom_pullOut_ok h_r24) rfl rfl (Nat.le_of_ble_eq_true rfl) ?_
                  refine sg_pop (pn := 111) dX11_doByDraw_110 rfl rfl ?_
                  obtain rfl := Option.some.inj h
                  refine sg_sub [] rfl ?_
                  exact hm_t26
            · have h := sg_ifp hc h
              refine sg_aload_n (pn := 75) (i := 0) dX11_doByDraw_74 rfl rfl 0 rfl ?_
              refine gfC_0_3 (pn := 78) dX11_doByDraw_75 rfl lf_X11_35 ?_
              refine sg_iload_n (pn := 79) (i := 2) dX11_doByDraw_78 rfl rfl 2 rfl ?_
              obtain ⟨r25, h_r25, h⟩ := sg_bind h
              refine sg_callVi (pn := 82) (rest := []) 23 dX11_doByDraw_79 rfl kb_X11_221 kv_X2_driveOut (by exact rfl) rfl (Nat.le_of_ble_eq_true rfl) (gC_Kingdom_driveOut_ok h_r25) rfl rfl (Nat.le_of_ble_eq_true rfl) ?_
              refine sg_pop (pn := 83) dX11_doByDraw_82 rfl rfl ?_
              refine sg_goto (tgt := 111) dX11_doByDraw_83 (by decide) ?_
              obtain rfl := Option.some.inj h
              refine sg_sub [] rfl ?_
              exact hm_t26
  · have h := sg_ifp hc h
    refine sg_aload_n (pn := 11) (i := 0) dX11_doByDraw_10 rfl rfl 0 rfl ?_
    refine gfC_0_2 (pn := 14) dX11_doByDraw_11 rfl lf_X11_26 ?_
    refine sg_aload_n (pn := 15) (i := 0) dX11_doByDraw_14 rfl rfl 0 rfl ?_
    refine sg_bipush (pn := 17) dX11_doByDraw_15 rfl ib_31 ?_
    obtain ⟨r27, h_r27, h⟩ := sg_bind h
    refine sg_callVi (pn := 20) (rest := [.ref (ad 15)]) 0 dX11_doByDraw_17 rfl kb_X11_340 kv_X11_drawOf (by exact rfl) rfl (Nat.le_of_ble_eq_true rfl) (gC_drawOf_ok h_r27) rfl rfl (Nat.le_of_ble_eq_true rfl) ?_
    refine pfC_15_1 (pn := 23) dX11_doByDraw_20 rfl lf_X11_140 ?_
    obtain ⟨z28, e_z28, h⟩ := sg_letE h
    refine sg_zE e_z28 ?_
    refine sg_goto (tgt := 145) dX11_doByDraw_23 (by decide) ?_
    obtain rfl := Option.some.inj h
    exact sg_vret dX11_doByDraw_145 rfl ⟨rfl, rfl⟩
set_option maxRecDepth 4000 in
theorem gC_drift_L_ok {l : Launch} {D : va_G} {cI cZ : ClassId} {ad : Nat → Nat} : ∀ (n : Nat) (v1 : Int32) (v3 : Int32) (z : sg_M) (r : Int32 × sg_M), gC_drift_L n v1 v3 z = some r → sg_G (eC l D cI cZ ad) yX11_drift cX11_drift 4 (some .int) 7 25 [(0, .ref (ad 0)), (1, .int v1), (3, .int v3)] [] z (sg_is (some (.int r.1)) r.2) := by
  intro n
  induction n with
  | zero => intro v1 v3 z r h; cases h
  | succ n ih =>
    intro v1 v3 z r h
    unfold gC_drift_L at h
    refine sg_iload_n (pn := 26) (i := 3) dX11_drift_25 rfl rfl 2 rfl ?_
    refine sg_iload_n (pn := 27) (i := 1) dX11_drift_26 rfl rfl 1 rfl ?_
    refine sg_icmp_ge (pn := 30) (tgt := 47) dX11_drift_27 rfl (by decide) (fun hc => ?_) (fun hc => ?_)
    · have h := sg_ifp hc h
      refine sg_aload_n (pn := 48) (i := 0) dX11_drift_47 rfl rfl 0 rfl ?_
      refine gfC_0_4 (pn := 51) dX11_drift_48 rfl lf_X11_42 ?_
      obtain ⟨r3, h_r3, h⟩ := sg_bind h
      refine sg_callVi (pn := 54) (rest := []) 24 dX11_drift_51 rfl kb_X11_161 kv_X9_folkOfAll (by exact rfl) rfl (Nat.le_of_ble_eq_true rfl) (gC_Survey_folkOfAll_ok h_r3) rfl rfl (Nat.le_of_ble_eq_true rfl) ?_
      obtain rfl := Option.some.inj h
      exact sg_iret dX11_drift_54 rfl ⟨rfl, rfl⟩
    · have h := sg_ifn hc h
      refine sg_aload_n (pn := 31) (i := 0) dX11_drift_30 rfl rfl 0 rfl ?_
      obtain ⟨r4, h_r4, h⟩ := sg_bind h
      refine sg_callVv (pn := 34) (rest := []) 0 dX11_drift_31 rfl kb_X11_246 kv_X11_doByDraw (by exact rfl) rfl (Nat.le_of_ble_eq_true rfl) (gC_doByDraw_ok h_r4) rfl rfl (Nat.le_of_ble_eq_true rfl) ?_
      refine sg_aload_n (pn := 35) (i := 0) dX11_drift_34 rfl rfl 0 rfl ?_
      refine gfC_0_3 (pn := 38) dX11_drift_35 rfl lf_X11_35 ?_
      obtain ⟨r5, h_r5, h⟩ := sg_bind h
      refine sg_callVv (pn := 41) (rest := []) 23 dX11_drift_38 rfl kb_X11_230 kv_X2_passDay (by exact rfl) rfl (Nat.le_of_ble_eq_true rfl) (gC_Kingdom_passDay_ok h_r5) rfl rfl (Nat.le_of_ble_eq_true rfl) ?_
      refine sg_iinc (pn := 44) (i := 3) (lv' := [(0, .ref (ad 0)), (1, .int v1), (3, .int (v3 + (1 : Int32)))]) dX11_drift_41 rfl 2 rfl (ii_1 _) (Nat.le_of_ble_eq_true rfl) [1, 2, 0] rfl ?_
      refine sg_goto (tgt := 25) dX11_drift_44 (by decide) ?_
      exact ih _ _ _ _ h
set_option maxRecDepth 4000 in
theorem gC_drift_ok {l : Launch} {D : va_G} {cI cZ : ClassId} {ad : Nat → Nat} {n : Nat} {a1 : Int32} {z : sg_M} {r : Int32 × sg_M} (h : gC_drift n a1 z = some r) : sg_Met (eC l D cI cZ ad) yX11_drift cX11_drift 4 (some .int) 7 [.ref (ad 0), .int a1] z (sg_is (some (.int r.1)) r.2) := by
  refine sg_enter (lv0 := [(0, .ref (ad 0)), (1, .int a1)]) pn_X11 (Nat.le_of_ble_eq_true rfl) rfl ?_
  unfold gC_drift at h
  refine sg_aload_n (pn := 1) (i := 0) dX11_drift_0 rfl rfl 0 rfl ?_
  refine sg_iload_n (pn := 2) (i := 1) dX11_drift_1 rfl rfl 1 rfl ?_
  refine sg_callVi (pn := 5) (rest := []) 0 dX11_drift_2 rfl kb_X11_227 kv_X11_refusalOfDays (by exact rfl) rfl (Nat.le_of_ble_eq_true rfl) (gC_refusalOfDays_ok rfl) rfl rfl (Nat.le_of_ble_eq_true rfl) ?_
  obtain ⟨v2_1, e_v2_1, h⟩ := sg_letE h
  refine sg_topi e_v2_1 ?_
  refine sg_istore_n (pn := 6) (i := 2) (lv' := [(0, .ref (ad 0)), (1, .int a1), (2, .int v2_1)]) dX11_drift_5 rfl rfl (Nat.le_of_ble_eq_true rfl) [1, 2, 0] rfl ?_
  refine sg_iload_n (pn := 7) (i := 2) dX11_drift_6 rfl rfl 2 rfl ?_
  refine sg_if_eq (pn := 10) (tgt := 12) dX11_drift_7 rfl (by decide) (fun hc => ?_) (fun hc => ?_)
  · have h := sg_ifp hc h
    refine sg_aload_n (pn := 13) (i := 0) dX11_drift_12 rfl rfl 0 rfl ?_
    refine gfC_0_10 (pn := 16) dX11_drift_13 rfl lf_X11_88 ?_
    refine sg_aload_n (pn := 17) (i := 0) dX11_drift_16 rfl rfl 0 rfl ?_
    refine gfC_0_2 (pn := 20) dX11_drift_17 rfl lf_X11_26 ?_
    obtain ⟨r2, h_r2, h⟩ := sg_bind h
    refine sg_callVv (pn := 23) (rest := []) 40 dX11_drift_20 rfl kb_X11_217 kv_X3_remember (by exact rfl) rfl (Nat.le_of_ble_eq_true rfl) (gC_Memory_remember_ok h_r2) rfl rfl (Nat.le_of_ble_eq_true rfl) ?_
    refine sg_iconst (pn := 24) dX11_drift_23 rfl ic_0 ?_
    refine sg_istore_n (pn := 25) (i := 3) (lv' := [(0, .ref (ad 0)), (1, .int a1), (2, .int v2_1), (3, .int (0 : Int32))]) dX11_drift_24 rfl rfl (Nat.le_of_ble_eq_true rfl) [1, 2, 3, 0] rfl ?_
    refine sg_sub [0, 1, 3] rfl ?_
    exact gC_drift_L_ok n _ _ _ _ h
  · have h := sg_ifn hc h
    refine sg_iload_n (pn := 11) (i := 2) dX11_drift_10 rfl rfl 2 rfl ?_
    obtain rfl := Option.some.inj h
    exact sg_iret dX11_drift_11 rfl ⟨rfl, rfl⟩
set_option maxRecDepth 4000 in
theorem gC_State_copyFrom_ok {l : Launch} {D : va_G} {cI cZ : ClassId} {ad : Nat → Nat} {a2 : Int32} {z : sg_M} {r : sg_M} (h : gC_State_copyFrom a2 z = some r) : sg_Met (eC l D cI cZ ad) yX8_copyFrom cX8_copyFrom 4 none 1 [.ref (ad 15), .ref (ad 41), .int a2] z (sg_is none r) := by
  refine sg_enter (lv0 := [(0, .ref (ad 15)), (1, .ref (ad 41)), (2, .int a2)]) pn_X8 (Nat.le_of_ble_eq_true rfl) rfl ?_
  unfold gC_State_copyFrom at h
  refine sg_iload_n (pn := 1) (i := 2) dX8_copyFrom_0 rfl rfl 2 rfl ?_
  refine sg_if_lt (pn := 4) (tgt := 13) dX8_copyFrom_1 rfl (by decide) (fun hc => ?_) (fun hc => ?_)
  · have h := sg_ifp hc h
    obtain rfl := Option.some.inj h
    exact sg_vret dX8_copyFrom_13 rfl ⟨rfl, rfl⟩
  · have h := sg_ifn hc h
    refine sg_iload_n (pn := 5) (i := 2) dX8_copyFrom_4 rfl rfl 2 rfl ?_
    refine sg_aload_n (pn := 6) (i := 1) dX8_copyFrom_5 rfl rfl 1 rfl ?_
    refine anC_41 (pn := 7) dX8_copyFrom_6 rfl ?_
    refine sg_bipush (pn := 9) dX8_copyFrom_7 rfl ib_106 ?_
    refine sg_isub (pn := 10) dX8_copyFrom_9 rfl ?_
    refine sg_icmp_le (pn := 13) (tgt := 14) dX8_copyFrom_10 rfl (by decide) (fun hc => ?_) (fun hc => ?_)
    · have h := sg_ifp hc h
      refine sg_iload_n (pn := 15) (i := 2) dX8_copyFrom_14 rfl rfl 2 rfl ?_
      refine sg_iconst (pn := 16) dX8_copyFrom_15 rfl ic_2 ?_
      refine sg_iadd (pn := 17) dX8_copyFrom_16 rfl ?_
      refine sg_bipush (pn := 19) dX8_copyFrom_17 rfl ib_80 ?_
      refine sg_iadd (pn := 20) dX8_copyFrom_19 rfl ?_
      obtain ⟨v3_1, e_v3_1, h⟩ := sg_letE h
      refine sg_topi e_v3_1 ?_
      refine sg_istore_n (pn := 21) (i := 3) (lv' := [(0, .ref (ad 15)), (1, .ref (ad 41)), (2, .int a2), (3, .int v3_1)]) dX8_copyFrom_20 rfl rfl (Nat.le_of_ble_eq_true rfl) [1, 2, 3, 0] rfl ?_
      refine sg_aload_n (pn := 22) (i := 0) dX8_copyFrom_21 rfl rfl 0 rfl ?_
      refine sg_aload_n (pn := 23) (i := 1) dX8_copyFrom_22 rfl rfl 1 rfl ?_
      refine sg_iload_n (pn := 24) (i := 2) dX8_copyFrom_23 rfl rfl 2 rfl ?_
      obtain ⟨hg, h⟩ := sg_guard h
      refine alC_41 (pn := 25) dX8_copyFrom_24 rfl (sg_in_vp hg) ?_
      refine pfC_15_0 (pn := 28) dX8_copyFrom_25 rfl lf_X8_33 ?_
      obtain ⟨z2, e_z2, h⟩ := sg_letE h
      refine sg_zE e_z2 ?_
      refine sg_aload_n (pn := 29) (i := 0) dX8_copyFrom_28 rfl rfl 0 rfl ?_
      refine sg_aload_n (pn := 30) (i := 1) dX8_copyFrom_29 rfl rfl 1 rfl ?_
      refine sg_iload_n (pn := 31) (i := 2) dX8_copyFrom_30 rfl rfl 2 rfl ?_
      refine sg_iconst (pn := 32) dX8_copyFrom_31 rfl ic_1 ?_
      refine sg_iadd (pn := 33) dX8_copyFrom_32 rfl ?_
      obtain ⟨hg, h⟩ := sg_guard h
      refine alC_41 (pn := 34) dX8_copyFrom_33 rfl (sg_in_vp hg) ?_
      refine pfC_15_1 (pn := 37) dX8_copyFrom_34 rfl lf_X8_37 ?_
      obtain ⟨z3, e_z3, h⟩ := sg_letE h
      refine sg_zE e_z3 ?_
      refine sg_aload_n (pn := 38) (i := 1) dX8_copyFrom_37 rfl rfl 1 rfl ?_
      refine sg_iload_n (pn := 39) (i := 2) dX8_copyFrom_38 rfl rfl 2 rfl ?_
      refine sg_iconst (pn := 40) dX8_copyFrom_39 rfl ic_2 ?_
      refine sg_iadd (pn := 41) dX8_copyFrom_40 rfl ?_
      refine sg_aload_n (pn := 42) (i := 0) dX8_copyFrom_41 rfl rfl 0 rfl ?_
      refine gfC_15_2 (pn := 45) dX8_copyFrom_42 rfl lf_X8_9 ?_
      refine sg_iconst (pn := 46) dX8_copyFrom_45 rfl ic_0 ?_
      refine sg_bipush (pn := 48) dX8_copyFrom_46 rfl ib_20 ?_
      obtain ⟨hg, h⟩ := sg_guard h
      refine cpC_41_16 (pn := 51) dX8_copyFrom_48 rfl lm_X8_51 (sg_cp_of hg) (Nat.le_of_ble_eq_true rfl) (Nat.le_of_ble_eq_true rfl) ?_
      obtain ⟨z4, e_z4, h⟩ := sg_letE h
      refine sg_zE e_z4 ?_
      refine sg_aload_n (pn := 52) (i := 1) dX8_copyFrom_51 rfl rfl 1 rfl ?_
      refine sg_iload_n (pn := 53) (i := 2) dX8_copyFrom_52 rfl rfl 2 rfl ?_
      refine sg_iconst (pn := 54) dX8_copyFrom_53 rfl ic_2 ?_
      refine sg_iadd (pn := 55) dX8_copyFrom_54 rfl ?_
      refine sg_bipush (pn := 57) dX8_copyFrom_55 rfl ib_20 ?_
      refine sg_iadd (pn := 58) dX8_copyFrom_57 rfl ?_
      refine sg_aload_n (pn := 59) (i := 0) dX8_copyFrom_58 rfl rfl 0 rfl ?_
      refine gfC_15_3 (pn := 62) dX8_copyFrom_59 rfl lf_X8_15 ?_
      refine sg_iconst (pn := 63) dX8_copyFrom_62 rfl ic_0 ?_
      refine sg_bipush (pn := 65) dX8_copyFrom_63 rfl ib_20 ?_
      obtain ⟨hg, h⟩ := sg_guard h
      refine cpC_41_17 (pn := 68) dX8_copyFrom_65 rfl lm_X8_51 (sg_cp_of hg) (Nat.le_of_ble_eq_true rfl) (Nat.le_of_ble_eq_true rfl) ?_
      obtain ⟨z5, e_z5, h⟩ := sg_letE h
      refine sg_zE e_z5 ?_
      refine sg_aload_n (pn := 69) (i := 1) dX8_copyFrom_68 rfl rfl 1 rfl ?_
      refine sg_iload_n (pn := 70) (i := 2) dX8_copyFrom_69 rfl rfl 2 rfl ?_
      refine sg_iconst (pn := 71) dX8_copyFrom_70 rfl ic_2 ?_
      refine sg_iadd (pn := 72) dX8_copyFrom_71 rfl ?_
      refine sg_bipush (pn := 74) dX8_copyFrom_72 rfl ib_40 ?_
      refine sg_iadd (pn := 75) dX8_copyFrom_74 rfl ?_
      refine sg_aload_n (pn := 76) (i := 0) dX8_copyFrom_75 rfl rfl 0 rfl ?_
      refine gfC_15_4 (pn := 79) dX8_copyFrom_76 rfl lf_X8_18 ?_
      refine sg_iconst (pn := 80) dX8_copyFrom_79 rfl ic_0 ?_
      refine sg_bipush (pn := 82) dX8_copyFrom_80 rfl ib_20 ?_
      obtain ⟨hg, h⟩ := sg_guard h
      refine cpC_41_18 (pn := 85) dX8_copyFrom_82 rfl lm_X8_51 (sg_cp_of hg) (Nat.le_of_ble_eq_true rfl) (Nat.le_of_ble_eq_true rfl) ?_
      obtain ⟨z6, e_z6, h⟩ := sg_letE h
      refine sg_zE e_z6 ?_
      refine sg_aload_n (pn := 86) (i := 1) dX8_copyFrom_85 rfl rfl 1 rfl ?_
      refine sg_iload_n (pn := 87) (i := 2) dX8_copyFrom_86 rfl rfl 2 rfl ?_
      refine sg_iconst (pn := 88) dX8_copyFrom_87 rfl ic_2 ?_
      refine sg_iadd (pn := 89) dX8_copyFrom_88 rfl ?_
      refine sg_bipush (pn := 91) dX8_copyFrom_89 rfl ib_60 ?_
      refine sg_iadd (pn := 92) dX8_copyFrom_91 rfl ?_
      refine sg_aload_n (pn := 93) (i := 0) dX8_copyFrom_92 rfl rfl 0 rfl ?_
      refine gfC_15_5 (pn := 96) dX8_copyFrom_93 rfl lf_X8_21 ?_
      refine sg_iconst (pn := 97) dX8_copyFrom_96 rfl ic_0 ?_
      refine sg_bipush (pn := 99) dX8_copyFrom_97 rfl ib_20 ?_
      obtain ⟨hg, h⟩ := sg_guard h
      refine cpC_41_19 (pn := 102) dX8_copyFrom_99 rfl lm_X8_51 (sg_cp_of hg) (Nat.le_of_ble_eq_true rfl) (Nat.le_of_ble_eq_true rfl) ?_
      obtain ⟨z7, e_z7, h⟩ := sg_letE h
      refine sg_zE e_z7 ?_
      refine sg_aload_n (pn := 103) (i := 1) dX8_copyFrom_102 rfl rfl 1 rfl ?_
      refine sg_iload_n (pn := 104) (i := 3) dX8_copyFrom_103 rfl rfl 3 rfl ?_
      refine sg_aload_n (pn := 105) (i := 0) dX8_copyFrom_104 rfl rfl 0 rfl ?_
      refine gfC_15_6 (pn := 108) dX8_copyFrom_105 rfl lf_X8_24 ?_
      refine sg_iconst (pn := 109) dX8_copyFrom_108 rfl ic_0 ?_
      refine sg_bipush (pn := 111) dX8_copyFrom_109 rfl ib_8 ?_
      obtain ⟨hg, h⟩ := sg_guard h
      refine cpC_41_20 (pn := 114) dX8_copyFrom_111 rfl lm_X8_51 (sg_cp_of hg) (Nat.le_of_ble_eq_true rfl) (Nat.le_of_ble_eq_true rfl) ?_
      obtain ⟨z8, e_z8, h⟩ := sg_letE h
      refine sg_zE e_z8 ?_
      refine sg_aload_n (pn := 115) (i := 1) dX8_copyFrom_114 rfl rfl 1 rfl ?_
      refine sg_iload_n (pn := 116) (i := 3) dX8_copyFrom_115 rfl rfl 3 rfl ?_
      refine sg_bipush (pn := 118) dX8_copyFrom_116 rfl ib_8 ?_
      refine sg_iadd (pn := 119) dX8_copyFrom_118 rfl ?_
      refine sg_aload_n (pn := 120) (i := 0) dX8_copyFrom_119 rfl rfl 0 rfl ?_
      refine gfC_15_7 (pn := 123) dX8_copyFrom_120 rfl lf_X8_27 ?_
      refine sg_iconst (pn := 124) dX8_copyFrom_123 rfl ic_0 ?_
      refine sg_bipush (pn := 126) dX8_copyFrom_124 rfl ib_8 ?_
      obtain ⟨hg, h⟩ := sg_guard h
      refine cpC_41_21 (pn := 129) dX8_copyFrom_126 rfl lm_X8_51 (sg_cp_of hg) (Nat.le_of_ble_eq_true rfl) (Nat.le_of_ble_eq_true rfl) ?_
      obtain ⟨z9, e_z9, h⟩ := sg_letE h
      refine sg_zE e_z9 ?_
      refine sg_aload_n (pn := 130) (i := 1) dX8_copyFrom_129 rfl rfl 1 rfl ?_
      refine sg_iload_n (pn := 131) (i := 3) dX8_copyFrom_130 rfl rfl 3 rfl ?_
      refine sg_bipush (pn := 133) dX8_copyFrom_131 rfl ib_16 ?_
      refine sg_iadd (pn := 134) dX8_copyFrom_133 rfl ?_
      refine sg_aload_n (pn := 135) (i := 0) dX8_copyFrom_134 rfl rfl 0 rfl ?_
      refine gfC_15_8 (pn := 138) dX8_copyFrom_135 rfl lf_X8_30 ?_
      refine sg_iconst (pn := 139) dX8_copyFrom_138 rfl ic_0 ?_
      refine sg_bipush (pn := 141) dX8_copyFrom_139 rfl ib_8 ?_
      obtain ⟨hg, h⟩ := sg_guard h
      refine cpC_41_22 (pn := 144) dX8_copyFrom_141 rfl lm_X8_51 (sg_cp_of hg) (Nat.le_of_ble_eq_true rfl) (Nat.le_of_ble_eq_true rfl) ?_
      obtain ⟨z10, e_z10, h⟩ := sg_letE h
      refine sg_zE e_z10 ?_
      obtain rfl := Option.some.inj h
      exact sg_vret dX8_copyFrom_144 rfl ⟨rfl, rfl⟩
    · have h := sg_ifn hc h
      obtain rfl := Option.some.inj h
      exact sg_vret dX8_copyFrom_13 rfl ⟨rfl, rfl⟩
set_option maxRecDepth 4000 in
theorem gC_Memory_takeBack_ok {l : Launch} {D : va_G} {cI cZ : ClassId} {ad : Nat → Nat} {z : sg_M} {r : sg_M} (h : gC_Memory_takeBack z = some r) : sg_Met (eC l D cI cZ ad) yX3_takeBack cX3_takeBack 2 none 2 [.ref (ad 40), .ref (ad 15)] z (sg_is none r) := by
  refine sg_enter (lv0 := [(0, .ref (ad 40)), (1, .ref (ad 15))]) pn_X3 (Nat.le_of_ble_eq_true rfl) rfl ?_
  unfold gC_Memory_takeBack at h
  refine sg_aload_n (pn := 1) (i := 0) dX3_takeBack_0 rfl rfl 0 rfl ?_
  refine sg_aload_n (pn := 2) (i := 0) dX3_takeBack_1 rfl rfl 0 rfl ?_
  refine gfC_40_1 (pn := 5) dX3_takeBack_2 rfl lf_X3_32 ?_
  refine sg_bipush (pn := 7) dX3_takeBack_5 rfl ib_16 ?_
  refine sg_iadd (pn := 8) dX3_takeBack_7 rfl ?_
  refine sg_iconst (pn := 9) dX3_takeBack_8 rfl ic_1 ?_
  refine sg_isub (pn := 10) dX3_takeBack_9 rfl ?_
  refine sg_bipush (pn := 12) dX3_takeBack_10 rfl ib_16 ?_
  refine sg_irem (pn := 13) dX3_takeBack_12 rfl (by decide +kernel) ?_
  refine pfC_40_1 (pn := 16) dX3_takeBack_13 rfl lf_X3_32 ?_
  obtain ⟨z1, e_z1, h⟩ := sg_letE h
  refine sg_zE e_z1 ?_
  refine sg_aload_n (pn := 17) (i := 0) dX3_takeBack_16 rfl rfl 0 rfl ?_
  refine sg_iconst (pn := 18) dX3_takeBack_17 rfl ic_0 ?_
  refine sg_aload_n (pn := 19) (i := 0) dX3_takeBack_18 rfl rfl 0 rfl ?_
  refine gfC_40_0 (pn := 22) dX3_takeBack_19 rfl lf_X3_22 ?_
  refine sg_iconst (pn := 23) dX3_takeBack_22 rfl ic_1 ?_
  refine sg_isub (pn := 24) dX3_takeBack_23 rfl ?_
  refine sg_mmax (pn := 27) dX3_takeBack_24 rfl lm_X3_46 sg_mw_max (Nat.le_of_ble_eq_true rfl) (Nat.le_of_ble_eq_true rfl) ?_
  refine pfC_40_0 (pn := 30) dX3_takeBack_27 rfl lf_X3_22 ?_
  obtain ⟨z2, e_z2, h⟩ := sg_letE h
  refine sg_zE e_z2 ?_
  refine sg_aload_n (pn := 31) (i := 1) dX3_takeBack_30 rfl rfl 1 rfl ?_
  refine sg_aload_n (pn := 32) (i := 0) dX3_takeBack_31 rfl rfl 0 rfl ?_
  refine gfC_40_2 (pn := 35) dX3_takeBack_32 rfl lf_X3_9 ?_
  refine sg_aload_n (pn := 36) (i := 0) dX3_takeBack_35 rfl rfl 0 rfl ?_
  refine gfC_40_1 (pn := 39) dX3_takeBack_36 rfl lf_X3_32 ?_
  refine sg_bipush (pn := 41) dX3_takeBack_39 rfl ib_106 ?_
  refine sg_imul (pn := 42) dX3_takeBack_41 rfl ?_
  obtain ⟨r3, h_r3, h⟩ := sg_bind h
  refine sg_callVv (pn := 45) (rest := []) 15 dX3_takeBack_42 rfl kb_X3_49 kv_X8_copyFrom (by exact rfl) rfl (Nat.le_of_ble_eq_true rfl) (gC_State_copyFrom_ok h_r3) rfl rfl (Nat.le_of_ble_eq_true rfl) ?_
  obtain rfl := Option.some.inj h
  exact sg_vret dX3_takeBack_45 rfl ⟨rfl, rfl⟩
set_option maxRecDepth 4000 in
theorem gC_undo_ok {l : Launch} {D : va_G} {cI cZ : ClassId} {ad : Nat → Nat} {z : sg_M} {r : Int32 × sg_M} (h : gC_undo z = some r) : sg_Met (eC l D cI cZ ad) yX11_undo cX11_undo 1 (some .int) 3 [.ref (ad 0)] z (sg_is (some (.int r.1)) r.2) := by
  refine sg_enter (lv0 := [(0, .ref (ad 0))]) pn_X11 (Nat.le_of_ble_eq_true rfl) rfl ?_
  unfold gC_undo at h
  refine sg_aload_n (pn := 1) (i := 0) dX11_undo_0 rfl rfl 0 rfl ?_
  refine gfC_0_10 (pn := 4) dX11_undo_1 rfl lf_X11_88 ?_
  refine gfC_40_0 (pn := 7) dX11_undo_4 rfl lf_X11_164 ?_
  refine sg_if_ne (pn := 10) (tgt := 13) dX11_undo_7 rfl (by decide) (fun hc => ?_) (fun hc => ?_)
  · have h := sg_ifn hc h
    refine sg_aload_n (pn := 14) (i := 0) dX11_undo_13 rfl rfl 0 rfl ?_
    refine gfC_0_10 (pn := 17) dX11_undo_14 rfl lf_X11_88 ?_
    refine sg_aload_n (pn := 18) (i := 0) dX11_undo_17 rfl rfl 0 rfl ?_
    refine gfC_0_2 (pn := 21) dX11_undo_18 rfl lf_X11_26 ?_
    obtain ⟨r1, h_r1, h⟩ := sg_bind h
    refine sg_callVv (pn := 24) (rest := []) 40 dX11_undo_21 rfl kb_X11_249 kv_X3_takeBack (by exact rfl) rfl (Nat.le_of_ble_eq_true rfl) (gC_Memory_takeBack_ok h_r1) rfl rfl (Nat.le_of_ble_eq_true rfl) ?_
    refine sg_aload_n (pn := 25) (i := 0) dX11_undo_24 rfl rfl 0 rfl ?_
    refine gfC_0_10 (pn := 28) dX11_undo_25 rfl lf_X11_88 ?_
    refine gfC_40_0 (pn := 31) dX11_undo_28 rfl lf_X11_164 ?_
    obtain rfl := Option.some.inj h
    exact sg_iret dX11_undo_31 rfl ⟨rfl, rfl⟩
  · have h := sg_ifp hc h
    refine sg_ldc (pn := 12) dX11_undo_10 rfl kc_X11_216 ?_
    obtain rfl := Option.some.inj h
    exact sg_iret dX11_undo_12 rfl ⟨rfl, rfl⟩
set_option maxRecDepth 4000 in
theorem gC_stops_ok {l : Launch} {D : va_G} {cI cZ : ClassId} {ad : Nat → Nat} {n : Nat} {a1 : Int32} {a2 : Int32} {z : sg_M} {r : Int32} (h : gC_stops n a1 a2 z = some r) : sg_Met (eC l D cI cZ ad) yX11_stops cX11_stops 3 (some .int) 5 [.ref (ad 0), .int a1, .int a2] z (sg_is (some (.int r)) z) := by
  refine sg_enter (lv0 := [(0, .ref (ad 0)), (1, .int a1), (2, .int a2)]) pn_X11 (Nat.le_of_ble_eq_true rfl) rfl ?_
  unfold gC_stops at h
  refine sg_aload_n (pn := 1) (i := 0) dX11_stops_0 rfl rfl 0 rfl ?_
  refine gfC_0_1 (pn := 4) dX11_stops_1 rfl lf_X11_19 ?_
  refine sg_iload_n (pn := 5) (i := 1) dX11_stops_4 rfl rfl 1 rfl ?_
  refine sg_callVi (pn := 8) (rest := []) 9 dX11_stops_5 rfl kb_X11_188 kv_X6_hasCart (by exact rfl) rfl (Nat.le_of_ble_eq_true rfl) (gC_Road_hasCart_ok rfl) rfl rfl (Nat.le_of_ble_eq_true rfl) ?_
  refine sg_if_ne (pn := 11) (tgt := 14) dX11_stops_8 rfl (by decide) (fun hc => ?_) (fun hc => ?_)
  · have h := sg_ifn hc h
    refine sg_iload_n (pn := 15) (i := 2) dX11_stops_14 rfl rfl 2 rfl ?_
    refine sg_if_lt (pn := 18) (tgt := 24) dX11_stops_15 rfl (by decide) (fun hc => ?_) (fun hc => ?_)
    · have h := sg_ifp hc h
      refine sg_ldc (pn := 26) dX11_stops_24 rfl kc_X11_99 ?_
      obtain rfl := Option.some.inj h
      exact sg_iret dX11_stops_26 rfl ⟨rfl, rfl⟩
    · have h := sg_ifn hc h
      refine sg_iload_n (pn := 19) (i := 2) dX11_stops_18 rfl rfl 2 rfl ?_
      refine sg_bipush (pn := 21) dX11_stops_19 rfl ib_100 ?_
      refine sg_icmp_le (pn := 24) (tgt := 27) dX11_stops_21 rfl (by decide) (fun hc => ?_) (fun hc => ?_)
      · have h := sg_ifp hc h
        refine sg_aload_n (pn := 28) (i := 0) dX11_stops_27 rfl rfl 0 rfl ?_
        refine gfC_0_3 (pn := 31) dX11_stops_28 rfl lf_X11_35 ?_
        refine sg_iload_n (pn := 32) (i := 1) dX11_stops_31 rfl rfl 1 rfl ?_
        refine sg_iload_n (pn := 33) (i := 2) dX11_stops_32 rfl rfl 2 rfl ?_
        obtain ⟨r1, h_r1, h⟩ := sg_bind h
        refine sg_callVi (pn := 36) (rest := []) 23 dX11_stops_33 rfl kb_X11_252 kv_X2_stopBehind (by exact rfl) rfl (Nat.le_of_ble_eq_true rfl) (gC_Kingdom_stopBehind_ok h_r1) rfl rfl (Nat.le_of_ble_eq_true rfl) ?_
        obtain rfl := Option.some.inj h
        exact sg_iret dX11_stops_36 rfl ⟨rfl, rfl⟩
      · have h := sg_ifn hc h
        refine sg_ldc (pn := 26) dX11_stops_24 rfl kc_X11_99 ?_
        obtain rfl := Option.some.inj h
        exact sg_iret dX11_stops_26 rfl ⟨rfl, rfl⟩
  · have h := sg_ifp hc h
    refine sg_ldc (pn := 13) dX11_stops_11 rfl kc_X11_171 ?_
    obtain rfl := Option.some.inj h
    exact sg_iret dX11_stops_13 rfl ⟨rfl, rfl⟩
set_option maxRecDepth 4000 in
theorem gC_Trials_soonestAt_L_ok {l : Launch} {D : va_G} {cI cZ : ClassId} {ad : Nat → Nat} : ∀ (n : Nat) (v1 : Int32) (v2 : Int32) (v3 : Int32) (z : sg_M) (r : Int32), gC_Trials_soonestAt_L n v1 v2 v3 z = some r → sg_G (eC l D cI cZ ad) yX10_soonestAt cX10_soonestAt 4 (some .int) 5 2 [(0, .ref (ad 25)), (1, .int v1), (2, .int v2), (3, .int v3)] [] z (sg_is (some (.int r)) z) := by
  intro n
  induction n with
  | zero => intro v1 v2 v3 z r h; cases h
  | succ n ih =>
    intro v1 v2 v3 z r h
    unfold gC_Trials_soonestAt_L at h
    refine sg_iload_n (pn := 3) (i := 3) dX10_soonestAt_2 rfl rfl 3 rfl ?_
    refine sg_bipush (pn := 5) dX10_soonestAt_3 rfl ib_100 ?_
    refine sg_icmp_gt (pn := 8) (tgt := 29) dX10_soonestAt_5 rfl (by decide) (fun hc => ?_) (fun hc => ?_)
    · have h := sg_ifp hc h
      refine sg_iconst (pn := 30) dX10_soonestAt_29 rfl ic_m1 ?_
      obtain rfl := Option.some.inj h
      exact sg_iret dX10_soonestAt_30 rfl ⟨rfl, rfl⟩
    · have h := sg_ifn hc h
      refine sg_aload_n (pn := 9) (i := 0) dX10_soonestAt_8 rfl rfl 0 rfl ?_
      refine gfC_25_2 (pn := 12) dX10_soonestAt_9 rfl lf_X10_30 ?_
      refine sg_iload_n (pn := 13) (i := 1) dX10_soonestAt_12 rfl rfl 1 rfl ?_
      refine sg_iload_n (pn := 14) (i := 3) dX10_soonestAt_13 rfl rfl 3 rfl ?_
      obtain ⟨r1, h_r1, h⟩ := sg_bind h
      refine sg_callVi (pn := 17) (rest := []) 23 dX10_soonestAt_14 rfl kb_X10_46 kv_X2_stopBehind (by exact rfl) rfl (Nat.le_of_ble_eq_true rfl) (gC_Kingdom_stopBehind_ok h_r1) rfl rfl (Nat.le_of_ble_eq_true rfl) ?_
      refine sg_iload_n (pn := 18) (i := 2) dX10_soonestAt_17 rfl rfl 2 rfl ?_
      refine sg_icmp_ne (pn := 21) (tgt := 23) dX10_soonestAt_18 rfl (by decide) (fun hc => ?_) (fun hc => ?_)
      · have h := sg_ifn hc h
        refine sg_iinc (pn := 26) (i := 3) (lv' := [(0, .ref (ad 25)), (1, .int v1), (2, .int v2), (3, .int (v3 + (1 : Int32)))]) dX10_soonestAt_23 rfl 3 rfl (ii_1 _) (Nat.le_of_ble_eq_true rfl) [1, 2, 3, 0] rfl ?_
        refine sg_goto (tgt := 2) dX10_soonestAt_26 (by decide) ?_
        exact ih _ _ _ _ _ h
      · have h := sg_ifp hc h
        refine sg_iload_n (pn := 22) (i := 3) dX10_soonestAt_21 rfl rfl 3 rfl ?_
        obtain rfl := Option.some.inj h
        exact sg_iret dX10_soonestAt_22 rfl ⟨rfl, rfl⟩
set_option maxRecDepth 4000 in
theorem gC_Trials_soonestAt_ok {l : Launch} {D : va_G} {cI cZ : ClassId} {ad : Nat → Nat} {n : Nat} {a1 : Int32} {a2 : Int32} {z : sg_M} {r : Int32} (h : gC_Trials_soonestAt n a1 a2 z = some r) : sg_Met (eC l D cI cZ ad) yX10_soonestAt cX10_soonestAt 4 (some .int) 5 [.ref (ad 25), .int a1, .int a2] z (sg_is (some (.int r)) z) := by
  refine sg_enter (lv0 := [(0, .ref (ad 25)), (1, .int a1), (2, .int a2)]) pn_X10 (Nat.le_of_ble_eq_true rfl) rfl ?_
  unfold gC_Trials_soonestAt at h
  refine sg_iconst (pn := 1) dX10_soonestAt_0 rfl ic_0 ?_
  refine sg_istore_n (pn := 2) (i := 3) (lv' := [(0, .ref (ad 25)), (1, .int a1), (2, .int a2), (3, .int (0 : Int32))]) dX10_soonestAt_1 rfl rfl (Nat.le_of_ble_eq_true rfl) [1, 2, 3, 0] rfl ?_
  exact gC_Trials_soonestAt_L_ok n _ _ _ _ _ h
set_option maxRecDepth 4000 in
theorem gC_soonest_ok {l : Launch} {D : va_G} {cI cZ : ClassId} {ad : Nat → Nat} {n : Nat} {a1 : Int32} {a2 : Int32} {z : sg_M} {r : Int32} (h : gC_soonest n a1 a2 z = some r) : sg_Met (eC l D cI cZ ad) yX11_soonest cX11_soonest 3 (some .int) 6 [.ref (ad 0), .int a1, .int a2] z (sg_is (some (.int r)) z) := by
  refine sg_enter (lv0 := [(0, .ref (ad 0)), (1, .int a1), (2, .int a2)]) pn_X11 (Nat.le_of_ble_eq_true rfl) rfl ?_
  unfold gC_soonest at h
  refine sg_aload_n (pn := 1) (i := 0) dX11_soonest_0 rfl rfl 0 rfl ?_
  refine gfC_0_1 (pn := 4) dX11_soonest_1 rfl lf_X11_19 ?_
  refine sg_iload_n (pn := 5) (i := 1) dX11_soonest_4 rfl rfl 1 rfl ?_
  refine sg_callVi (pn := 8) (rest := []) 9 dX11_soonest_5 rfl kb_X11_188 kv_X6_hasCart (by exact rfl) rfl (Nat.le_of_ble_eq_true rfl) (gC_Road_hasCart_ok rfl) rfl rfl (Nat.le_of_ble_eq_true rfl) ?_
  refine sg_if_eq (pn := 11) (tgt := 22) dX11_soonest_8 rfl (by decide) (fun hc => ?_) (fun hc => ?_)
  · have h := sg_ifp hc h
    refine sg_ldc (pn := 24) dX11_soonest_22 rfl kc_X11_171 ?_
    obtain rfl := Option.some.inj h
    exact sg_iret dX11_soonest_24 rfl ⟨rfl, rfl⟩
  · have h := sg_ifn hc h
    refine sg_aload_n (pn := 12) (i := 0) dX11_soonest_11 rfl rfl 0 rfl ?_
    refine gfC_0_1 (pn := 15) dX11_soonest_12 rfl lf_X11_19 ?_
    refine sg_iload_n (pn := 16) (i := 2) dX11_soonest_15 rfl rfl 2 rfl ?_
    refine sg_callVi (pn := 19) (rest := []) 9 dX11_soonest_16 rfl kb_X11_167 kv_X6_hasCell (by exact rfl) rfl (Nat.le_of_ble_eq_true rfl) (gC_Road_hasCell_ok rfl) rfl rfl (Nat.le_of_ble_eq_true rfl) ?_
    refine sg_if_ne (pn := 22) (tgt := 25) dX11_soonest_19 rfl (by decide) (fun hc => ?_) (fun hc => ?_)
    · have h := sg_ifn hc h
      refine sg_aload_n (pn := 26) (i := 0) dX11_soonest_25 rfl rfl 0 rfl ?_
      refine gfC_0_5 (pn := 29) dX11_soonest_26 rfl lf_X11_51 ?_
      refine sg_iload_n (pn := 30) (i := 1) dX11_soonest_29 rfl rfl 1 rfl ?_
      refine sg_iload_n (pn := 31) (i := 2) dX11_soonest_30 rfl rfl 2 rfl ?_
      obtain ⟨r1, h_r1, h⟩ := sg_bind h
      refine sg_callVi (pn := 34) (rest := []) 25 dX11_soonest_31 rfl kb_X11_256 kv_X10_soonestAt (by exact rfl) rfl (Nat.le_of_ble_eq_true rfl) (gC_Trials_soonestAt_ok h_r1) rfl rfl (Nat.le_of_ble_eq_true rfl) ?_
      obtain rfl := Option.some.inj h
      exact sg_iret dX11_soonest_34 rfl ⟨rfl, rfl⟩
    · have h := sg_ifp hc h
      refine sg_ldc (pn := 24) dX11_soonest_22 rfl kc_X11_171 ?_
      obtain rfl := Option.some.inj h
      exact sg_iret dX11_soonest_24 rfl ⟨rfl, rfl⟩
set_option maxRecDepth 4000 in
theorem gC_Span_clear_27_ok {l : Launch} {D : va_G} {cI cZ : ClassId} {ad : Nat → Nat} {z : sg_M} {r : sg_M} (h : gC_Span_clear_27 z = some r) : sg_Met (eC l D cI cZ ad) yX7_clear cX7_clear 1 none 1 [.ref (ad 27)] z (sg_is none r) := by
  refine sg_enter (lv0 := [(0, .ref (ad 27))]) pn_X7 (Nat.le_of_ble_eq_true rfl) rfl ?_
  unfold gC_Span_clear_27 at h
  refine sg_aload_n (pn := 1) (i := 0) dX7_clear_0 rfl rfl 0 rfl ?_
  refine sg_iconst (pn := 2) dX7_clear_1 rfl ic_0 ?_
  refine pfC_27_0 (pn := 5) dX7_clear_2 rfl lf_X7_9 ?_
  obtain ⟨z1, e_z1, h⟩ := sg_letE h
  refine sg_zE e_z1 ?_
  refine sg_aload_n (pn := 6) (i := 0) dX7_clear_5 rfl rfl 0 rfl ?_
  refine sg_iconst (pn := 7) dX7_clear_6 rfl ic_m1 ?_
  refine pfC_27_1 (pn := 10) dX7_clear_7 rfl lf_X7_15 ?_
  obtain ⟨z2, e_z2, h⟩ := sg_letE h
  refine sg_zE e_z2 ?_
  refine sg_aload_n (pn := 11) (i := 0) dX7_clear_10 rfl rfl 0 rfl ?_
  refine sg_iconst (pn := 12) dX7_clear_11 rfl ic_m1 ?_
  refine pfC_27_2 (pn := 15) dX7_clear_12 rfl lf_X7_18 ?_
  obtain ⟨z3, e_z3, h⟩ := sg_letE h
  refine sg_zE e_z3 ?_
  obtain rfl := Option.some.inj h
  exact sg_vret dX7_clear_15 rfl ⟨rfl, rfl⟩
set_option maxRecDepth 4000 in
theorem gC_Span_put_27_ok {l : Launch} {D : va_G} {cI cZ : ClassId} {ad : Nat → Nat} {a1 : Int32} {z : sg_M} {r : sg_M} (h : gC_Span_put_27 a1 z = some r) : sg_Met (eC l D cI cZ ad) yX7_put cX7_put 2 none 1 [.ref (ad 27), .int a1] z (sg_is none r) := by
  refine sg_enter (lv0 := [(0, .ref (ad 27)), (1, .int a1)]) pn_X7 (Nat.le_of_ble_eq_true rfl) rfl ?_
  unfold gC_Span_put_27 at h
  refine sg_aload_n (pn := 1) (i := 0) dX7_put_0 rfl rfl 0 rfl ?_
  refine gfC_27_0 (pn := 4) dX7_put_1 rfl lf_X7_9 ?_
  obtain ⟨t2, e_t2, h2⟩ := sg_letJ h
  have hm_t2 : sg_G (eC l D cI cZ ad) yX7_put cX7_put 2 none 1 12 [(0, .ref (ad 27)), (1, .int a1)] [] t2 (sg_is none r) := by
    have h := h2
    refine sg_aload_n (pn := 13) (i := 0) dX7_put_12 rfl rfl 0 rfl ?_
    refine sg_iload_n (pn := 14) (i := 1) dX7_put_13 rfl rfl 1 rfl ?_
    refine pfC_27_2 (pn := 17) dX7_put_14 rfl lf_X7_18 ?_
    obtain ⟨z3, e_z3, h⟩ := sg_letE h
    refine sg_zE e_z3 ?_
    refine sg_aload_n (pn := 18) (i := 0) dX7_put_17 rfl rfl 0 rfl ?_
    refine sg_dup (pn := 19) dX7_put_18 rfl rfl ?_
    refine gfC_27_0 (pn := 22) dX7_put_19 rfl lf_X7_9 ?_
    refine sg_iconst (pn := 23) dX7_put_22 rfl ic_1 ?_
    refine sg_iadd (pn := 24) dX7_put_23 rfl ?_
    refine pfC_27_0 (pn := 27) dX7_put_24 rfl lf_X7_9 ?_
    obtain ⟨z4, e_z4, h⟩ := sg_letE h
    refine sg_zE e_z4 ?_
    obtain rfl := Option.some.inj h
    exact sg_vret dX7_put_27 rfl ⟨rfl, rfl⟩
  have h := e_t2
  refine sg_if_ne (pn := 7) (tgt := 12) dX7_put_4 rfl (by decide) (fun hc => ?_) (fun hc => ?_)
  · have h := sg_ifn hc h
    subst h
    exact hm_t2
  · have h := sg_ifp hc h
    refine sg_aload_n (pn := 8) (i := 0) dX7_put_7 rfl rfl 0 rfl ?_
    refine sg_iload_n (pn := 9) (i := 1) dX7_put_8 rfl rfl 1 rfl ?_
    refine pfC_27_1 (pn := 12) dX7_put_9 rfl lf_X7_15 ?_
    obtain ⟨z1, e_z1, h⟩ := sg_letE h
    refine sg_zE e_z1 ?_
    subst h
    exact hm_t2
