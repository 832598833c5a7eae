set_option maxRecDepth 4000 in
theorem gM_takeNumber_L_ok {l : Launch} {D : va_G} {cI cZ : ClassId} {ad : Nat → Nat} : ∀ (n : Nat) (v1 : Int32) (v2 : Int32) (z : sg_M) (r : Int32 × sg_M), gM_takeNumber_L n v1 v2 z = some r → sg_G (eM l D cI cZ ad) yX12_takeNumber cX12_takeNumber 4 (some .int) 2 42 [(0, .ref (ad 0)), (1, .int v1), (2, .int v2)] [] z (sg_is (some (.int r.1)) r.2) := by
  intro n
  induction n with
  | zero => intro v1 v2 z r h; cases h
  | succ n ih =>
    intro v1 v2 z r h
    unfold gM_takeNumber_L at h
    refine sg_aload_n (pn := 43) (i := 0) dX12_takeNumber_42 rfl rfl 0 rfl ?_
    refine gfM_0_13 (pn := 46) dX12_takeNumber_43 rfl lf_X12_95 ?_
    refine sg_aload_n (pn := 47) (i := 0) dX12_takeNumber_46 rfl rfl 0 rfl ?_
    refine gfM_0_11 (pn := 50) dX12_takeNumber_47 rfl lf_X12_91 ?_
    refine sg_icmp_ge (pn := 53) (tgt := 129) dX12_takeNumber_50 rfl (by decide) (fun hc => ?_) (fun hc => ?_)
    · have h := sg_ifp hc h
      refine sg_aload_n (pn := 130) (i := 0) dX12_takeNumber_129 rfl rfl 0 rfl ?_
      refine gfM_0_13 (pn := 133) dX12_takeNumber_130 rfl lf_X12_95 ?_
      refine sg_aload_n (pn := 134) (i := 0) dX12_takeNumber_133 rfl rfl 0 rfl ?_
      refine gfM_0_15 (pn := 137) dX12_takeNumber_134 rfl lf_X12_110 ?_
      refine sg_isub (pn := 138) dX12_takeNumber_137 rfl ?_
      refine sg_iconst (pn := 139) dX12_takeNumber_138 rfl ic_3 ?_
      refine sg_icmp_gt (pn := 142) (tgt := 157) dX12_takeNumber_139 rfl (by decide) (fun hc => ?_) (fun hc => ?_)
      · have h := sg_ifp hc h
        refine sg_aload_n (pn := 158) (i := 0) dX12_takeNumber_157 rfl rfl 0 rfl ?_
        refine sg_iconst (pn := 159) dX12_takeNumber_158 rfl ic_2 ?_
        refine sg_aload_n (pn := 160) (i := 0) dX12_takeNumber_159 rfl rfl 0 rfl ?_
        refine gfM_0_15 (pn := 163) dX12_takeNumber_160 rfl lf_X12_110 ?_
        obtain ⟨r5, h_r5, h⟩ := sg_bind h
        refine sg_callVi (pn := 166) (rest := []) 0 dX12_takeNumber_163 rfl kb_X12_106 kv_X12_fails (by exact rfl) rfl (Nat.le_of_ble_eq_true rfl) (gM_fails_ok h_r5) rfl rfl (Nat.le_of_ble_eq_true rfl) ?_
        refine sg_goto (tgt := 170) dX12_takeNumber_166 (by decide) ?_
        obtain rfl := Option.some.inj h
        exact sg_iret dX12_takeNumber_170 rfl ⟨rfl, rfl⟩
      · have h := sg_ifn hc h
        refine sg_aload_n (pn := 143) (i := 0) dX12_takeNumber_142 rfl rfl 0 rfl ?_
        refine gfM_0_14 (pn := 146) dX12_takeNumber_143 rfl lf_X12_113 ?_
        refine sg_i2l (pn := 147) dX12_takeNumber_146 rfl ?_
        refine sg_iload_n (pn := 148) (i := 1) dX12_takeNumber_147 rfl rfl 1 rfl ?_
        refine sg_i2l (pn := 149) dX12_takeNumber_148 rfl ?_
        refine sg_iload_n (pn := 150) (i := 2) dX12_takeNumber_149 rfl rfl 2 rfl ?_
        refine sg_i2l (pn := 151) dX12_takeNumber_150 rfl ?_
        refine sg_callSi (pn := 154) (rest := []) dX12_takeNumber_151 rfl kb_X12_81 ks_X12_in (Nat.le_of_ble_eq_true rfl) (gM_in_ok rfl) rfl rfl (Nat.le_of_ble_eq_true rfl) ?_
        refine sg_if_ne (pn := 157) (tgt := 169) dX12_takeNumber_154 rfl (by decide) (fun hc => ?_) (fun hc => ?_)
        · have h := sg_ifn hc h
          refine sg_iconst (pn := 170) dX12_takeNumber_169 rfl ic_0 ?_
          obtain rfl := Option.some.inj h
          exact sg_iret dX12_takeNumber_170 rfl ⟨rfl, rfl⟩
        · have h := sg_ifp hc h
          refine sg_aload_n (pn := 158) (i := 0) dX12_takeNumber_157 rfl rfl 0 rfl ?_
          refine sg_iconst (pn := 159) dX12_takeNumber_158 rfl ic_2 ?_
          refine sg_aload_n (pn := 160) (i := 0) dX12_takeNumber_159 rfl rfl 0 rfl ?_
          refine gfM_0_15 (pn := 163) dX12_takeNumber_160 rfl lf_X12_110 ?_
          obtain ⟨r6, h_r6, h⟩ := sg_bind h
          refine sg_callVi (pn := 166) (rest := []) 0 dX12_takeNumber_163 rfl kb_X12_106 kv_X12_fails (by exact rfl) rfl (Nat.le_of_ble_eq_true rfl) (gM_fails_ok h_r6) rfl rfl (Nat.le_of_ble_eq_true rfl) ?_
          refine sg_goto (tgt := 170) dX12_takeNumber_166 (by decide) ?_
          obtain rfl := Option.some.inj h
          exact sg_iret dX12_takeNumber_170 rfl ⟨rfl, rfl⟩
    · have h := sg_ifn hc h
      refine sg_aload_n (pn := 54) (i := 0) dX12_takeNumber_53 rfl rfl 0 rfl ?_
      refine gfM_0_10 (pn := 57) dX12_takeNumber_54 rfl lf_X12_28 ?_
      refine sg_aload_n (pn := 58) (i := 0) dX12_takeNumber_57 rfl rfl 0 rfl ?_
      refine gfM_0_13 (pn := 61) dX12_takeNumber_58 rfl lf_X12_95 ?_
      obtain ⟨hg, h⟩ := sg_guard h
      refine alM_7 (pn := 62) dX12_takeNumber_61 rfl (sg_in_vp hg) ?_
      refine sg_i2l (pn := 63) dX12_takeNumber_62 rfl ?_
      refine sg_ldc2 (pn := 66) dX12_takeNumber_63 rfl kl_X12_102 ?_
      refine sg_ldc2 (pn := 69) dX12_takeNumber_66 rfl kl_X12_104 ?_
      refine sg_callSi (pn := 72) (rest := []) dX12_takeNumber_69 rfl kb_X12_81 ks_X12_in (Nat.le_of_ble_eq_true rfl) (gM_in_ok rfl) rfl rfl (Nat.le_of_ble_eq_true rfl) ?_
      refine sg_if_eq (pn := 75) (tgt := 129) dX12_takeNumber_72 rfl (by decide) (fun hc => ?_) (fun hc => ?_)
      · have h := sg_ifp hc h
        refine sg_aload_n (pn := 130) (i := 0) dX12_takeNumber_129 rfl rfl 0 rfl ?_
        refine gfM_0_13 (pn := 133) dX12_takeNumber_130 rfl lf_X12_95 ?_
        refine sg_aload_n (pn := 134) (i := 0) dX12_takeNumber_133 rfl rfl 0 rfl ?_
        refine gfM_0_15 (pn := 137) dX12_takeNumber_134 rfl lf_X12_110 ?_
        refine sg_isub (pn := 138) dX12_takeNumber_137 rfl ?_
        refine sg_iconst (pn := 139) dX12_takeNumber_138 rfl ic_3 ?_
        refine sg_icmp_gt (pn := 142) (tgt := 157) dX12_takeNumber_139 rfl (by decide) (fun hc => ?_) (fun hc => ?_)
        · have h := sg_ifp hc h
          refine sg_aload_n (pn := 158) (i := 0) dX12_takeNumber_157 rfl rfl 0 rfl ?_
          refine sg_iconst (pn := 159) dX12_takeNumber_158 rfl ic_2 ?_
          refine sg_aload_n (pn := 160) (i := 0) dX12_takeNumber_159 rfl rfl 0 rfl ?_
          refine gfM_0_15 (pn := 163) dX12_takeNumber_160 rfl lf_X12_110 ?_
          obtain ⟨r7, h_r7, h⟩ := sg_bind h
          refine sg_callVi (pn := 166) (rest := []) 0 dX12_takeNumber_163 rfl kb_X12_106 kv_X12_fails (by exact rfl) rfl (Nat.le_of_ble_eq_true rfl) (gM_fails_ok h_r7) rfl rfl (Nat.le_of_ble_eq_true rfl) ?_
          refine sg_goto (tgt := 170) dX12_takeNumber_166 (by decide) ?_
          obtain rfl := Option.some.inj h
          exact sg_iret dX12_takeNumber_170 rfl ⟨rfl, rfl⟩
        · have h := sg_ifn hc h
          refine sg_aload_n (pn := 143) (i := 0) dX12_takeNumber_142 rfl rfl 0 rfl ?_
          refine gfM_0_14 (pn := 146) dX12_takeNumber_143 rfl lf_X12_113 ?_
          refine sg_i2l (pn := 147) dX12_takeNumber_146 rfl ?_
          refine sg_iload_n (pn := 148) (i := 1) dX12_takeNumber_147 rfl rfl 1 rfl ?_
          refine sg_i2l (pn := 149) dX12_takeNumber_148 rfl ?_
          refine sg_iload_n (pn := 150) (i := 2) dX12_takeNumber_149 rfl rfl 2 rfl ?_
          refine sg_i2l (pn := 151) dX12_takeNumber_150 rfl ?_
          refine sg_callSi (pn := 154) (rest := []) dX12_takeNumber_151 rfl kb_X12_81 ks_X12_in (Nat.le_of_ble_eq_true rfl) (gM_in_ok rfl) rfl rfl (Nat.le_of_ble_eq_true rfl) ?_
          refine sg_if_ne (pn := 157) (tgt := 169) dX12_takeNumber_154 rfl (by decide) (fun hc => ?_) (fun hc => ?_)
          · have h := sg_ifn hc h
            refine sg_iconst (pn := 170) dX12_takeNumber_169 rfl ic_0 ?_
            obtain rfl := Option.some.inj h
            exact sg_iret dX12_takeNumber_170 rfl ⟨rfl, rfl⟩
          · have h := sg_ifp hc h
            refine sg_aload_n (pn := 158) (i := 0) dX12_takeNumber_157 rfl rfl 0 rfl ?_
            refine sg_iconst (pn := 159) dX12_takeNumber_158 rfl ic_2 ?_
            refine sg_aload_n (pn := 160) (i := 0) dX12_takeNumber_159 rfl rfl 0 rfl ?_
            refine gfM_0_15 (pn := 163) dX12_takeNumber_160 rfl lf_X12_110 ?_
            obtain ⟨r8, h_r8, h⟩ := sg_bind h
            refine sg_callVi (pn := 166) (rest := []) 0 dX12_takeNumber_163 rfl kb_X12_106 kv_X12_fails (by exact rfl) rfl (Nat.le_of_ble_eq_true rfl) (gM_fails_ok h_r8) rfl rfl (Nat.le_of_ble_eq_true rfl) ?_
            refine sg_goto (tgt := 170) dX12_takeNumber_166 (by decide) ?_
            obtain rfl := Option.some.inj h
            exact sg_iret dX12_takeNumber_170 rfl ⟨rfl, rfl⟩
      · have h := sg_ifn hc h
        refine sg_aload_n (pn := 76) (i := 0) dX12_takeNumber_75 rfl rfl 0 rfl ?_
        refine sg_aload_n (pn := 77) (i := 0) dX12_takeNumber_76 rfl rfl 0 rfl ?_
        refine gfM_0_14 (pn := 80) dX12_takeNumber_77 rfl lf_X12_113 ?_
        refine sg_sipush (pn := 83) dX12_takeNumber_80 rfl is_10000 ?_
        obtain ⟨t9, e_t9, h2⟩ := sg_bind h
        have hm_t9 : sg_G (eM l D cI cZ ad) yX12_takeNumber cX12_takeNumber 4 (some .int) 2 113 [(0, .ref (ad 0)), (1, .int v1), (2, .int v2)] [.int t9, .ref (ad 0)] z (sg_is (some (.int r.1)) r.2) := by
          have h := h2
          refine pfM_0_14 (pn := 116) dX12_takeNumber_113 rfl lf_X12_113 ?_
          obtain ⟨z10, e_z10, h⟩ := sg_letE h
          refine sg_zE e_z10 ?_
          refine sg_aload_n (pn := 117) (i := 0) dX12_takeNumber_116 rfl rfl 0 rfl ?_
          refine sg_dup (pn := 118) dX12_takeNumber_117 rfl rfl ?_
          refine gfM_0_13 (pn := 121) dX12_takeNumber_118 rfl lf_X12_95 ?_
          refine sg_iconst (pn := 122) dX12_takeNumber_121 rfl ic_1 ?_
          refine sg_iadd (pn := 123) dX12_takeNumber_122 rfl ?_
          refine pfM_0_13 (pn := 126) dX12_takeNumber_123 rfl lf_X12_95 ?_
          obtain ⟨z11, e_z11, h⟩ := sg_letE h
          refine sg_zE e_z11 ?_
          refine sg_goto (tgt := 42) dX12_takeNumber_126 (by decide) ?_
          exact ih _ _ _ _ h
        have h := e_t9
        refine sg_icmp_le (pn := 86) (tgt := 93) dX12_takeNumber_83 rfl (by decide) (fun hc => ?_) (fun hc => ?_)
        · have h := sg_ifp hc h
          refine sg_bipush (pn := 95) dX12_takeNumber_93 rfl ib_10 ?_
          refine sg_aload_n (pn := 96) (i := 0) dX12_takeNumber_95 rfl rfl 0 rfl ?_
          refine gfM_0_14 (pn := 99) dX12_takeNumber_96 rfl lf_X12_113 ?_
          refine sg_imul (pn := 100) dX12_takeNumber_99 rfl ?_
          refine sg_aload_n (pn := 101) (i := 0) dX12_takeNumber_100 rfl rfl 0 rfl ?_
          refine gfM_0_10 (pn := 104) dX12_takeNumber_101 rfl lf_X12_28 ?_
          refine sg_aload_n (pn := 105) (i := 0) dX12_takeNumber_104 rfl rfl 0 rfl ?_
          refine gfM_0_13 (pn := 108) dX12_takeNumber_105 rfl lf_X12_95 ?_
          obtain ⟨hg, h⟩ := sg_guard h
          refine alM_7 (pn := 109) dX12_takeNumber_108 rfl (sg_in_vp hg) ?_
          refine sg_iadd (pn := 110) dX12_takeNumber_109 rfl ?_
          refine sg_bipush (pn := 112) dX12_takeNumber_110 rfl ib_48 ?_
          refine sg_isub (pn := 113) dX12_takeNumber_112 rfl ?_
          obtain rfl := Option.some.inj h
          exact hm_t9
        · have h := sg_ifn hc h
          refine sg_aload_n (pn := 87) (i := 0) dX12_takeNumber_86 rfl rfl 0 rfl ?_
          refine gfM_0_14 (pn := 90) dX12_takeNumber_87 rfl lf_X12_113 ?_
          refine sg_goto (tgt := 113) dX12_takeNumber_90 (by decide) ?_
          obtain rfl := Option.some.inj h
          exact hm_t9
set_option maxRecDepth 4000 in
theorem gM_takeNumber_ok {l : Launch} {D : va_G} {cI cZ : ClassId} {ad : Nat → Nat} {n : Nat} {a1 : Int32} {a2 : Int32} {z : sg_M} {r : Int32 × sg_M} (h : gM_takeNumber n a1 a2 z = some r) : sg_Met (eM l D cI cZ ad) yX12_takeNumber cX12_takeNumber 4 (some .int) 2 [.ref (ad 0), .int a1, .int a2] z (sg_is (some (.int r.1)) r.2) := by
  refine sg_enter (lv0 := [(0, .ref (ad 0)), (1, .int a1), (2, .int a2)]) pn_X12 (Nat.le_of_ble_eq_true rfl) rfl ?_
  unfold gM_takeNumber at h
  refine sg_aload_n (pn := 1) (i := 0) dX12_takeNumber_0 rfl rfl 0 rfl ?_
  obtain ⟨r1, h_r1, h⟩ := sg_bind h
  refine sg_callVi (pn := 4) (rest := []) 0 dX12_takeNumber_1 rfl kb_X12_98 kv_X12_here (by exact rfl) rfl (Nat.le_of_ble_eq_true rfl) (gM_here_ok h_r1) rfl rfl (Nat.le_of_ble_eq_true rfl) ?_
  refine sg_istore_n (pn := 5) (i := 3) (lv' := [(0, .ref (ad 0)), (1, .int a1), (2, .int a2), (3, .int r1.1)]) dX12_takeNumber_4 rfl rfl (Nat.le_of_ble_eq_true rfl) [1, 2, 3, 0] rfl ?_
  refine sg_iload_n (pn := 6) (i := 3) dX12_takeNumber_5 rfl rfl 3 rfl ?_
  refine sg_i2l (pn := 7) dX12_takeNumber_6 rfl ?_
  refine sg_ldc2 (pn := 10) dX12_takeNumber_7 rfl kl_X12_102 ?_
  refine sg_ldc2 (pn := 13) dX12_takeNumber_10 rfl kl_X12_104 ?_
  refine sg_callSi (pn := 16) (rest := []) dX12_takeNumber_13 rfl kb_X12_81 ks_X12_in (Nat.le_of_ble_eq_true rfl) (gM_in_ok rfl) rfl rfl (Nat.le_of_ble_eq_true rfl) ?_
  refine sg_if_ne (pn := 19) (tgt := 29) dX12_takeNumber_16 rfl (by decide) (fun hc => ?_) (fun hc => ?_)
  · have h := sg_ifn hc h
    refine sg_aload_n (pn := 30) (i := 0) dX12_takeNumber_29 rfl rfl 0 rfl ?_
    refine sg_aload_n (pn := 31) (i := 0) dX12_takeNumber_30 rfl rfl 0 rfl ?_
    refine gfM_0_13 (pn := 34) dX12_takeNumber_31 rfl lf_X12_95 ?_
    refine pfM_0_15 (pn := 37) dX12_takeNumber_34 rfl lf_X12_110 ?_
    obtain ⟨z2, e_z2, h⟩ := sg_letE h
    refine sg_zE e_z2 ?_
    refine sg_aload_n (pn := 38) (i := 0) dX12_takeNumber_37 rfl rfl 0 rfl ?_
    refine sg_iconst (pn := 39) dX12_takeNumber_38 rfl ic_0 ?_
    refine pfM_0_14 (pn := 42) dX12_takeNumber_39 rfl lf_X12_113 ?_
    obtain ⟨z3, e_z3, h⟩ := sg_letE h
    refine sg_zE e_z3 ?_
    refine sg_sub [0, 1, 2] rfl ?_
    exact gM_takeNumber_L_ok n _ _ _ _ h
  · have h := sg_ifp hc h
    refine sg_aload_n (pn := 20) (i := 0) dX12_takeNumber_19 rfl rfl 0 rfl ?_
    refine sg_iconst (pn := 21) dX12_takeNumber_20 rfl ic_1 ?_
    refine sg_aload_n (pn := 22) (i := 0) dX12_takeNumber_21 rfl rfl 0 rfl ?_
    refine gfM_0_13 (pn := 25) dX12_takeNumber_22 rfl lf_X12_95 ?_
    obtain ⟨r4, h_r4, h⟩ := sg_bind h
    refine sg_callVi (pn := 28) (rest := []) 0 dX12_takeNumber_25 rfl kb_X12_106 kv_X12_fails (by exact rfl) rfl (Nat.le_of_ble_eq_true rfl) (gM_fails_ok h_r4) rfl rfl (Nat.le_of_ble_eq_true rfl) ?_
    obtain rfl := Option.some.inj h
    exact sg_iret dX12_takeNumber_28 rfl ⟨rfl, rfl⟩
set_option maxRecDepth 4000 in
theorem gM_into_0_8_ok {l : Launch} {D : va_G} {cI cZ : ClassId} {ad : Nat → Nat} {n : Nat} {a2 : Int32} {a3 : Int32} {a4 : Int32} {z : sg_M} {r : Int32 × sg_M} (h : gM_into_0_8 n a2 a3 a4 z = some r) : sg_Met (eM l D cI cZ ad) yX12_into cX12_into 6 (some .int) 3 [.ref (ad 0), .ref (ad 8), .int a2, .int a3, .int a4] z (sg_is (some (.int r.1)) r.2) := by
  refine sg_enter (lv0 := [(0, .ref (ad 0)), (1, .ref (ad 8)), (2, .int a2), (3, .int a3), (4, .int a4)]) pn_X12 (Nat.le_of_ble_eq_true rfl) rfl ?_
  unfold gM_into_0_8 at h
  refine sg_aload_n (pn := 1) (i := 0) dX12_into_0 rfl rfl 0 rfl ?_
  refine sg_iload_n (pn := 2) (i := 3) dX12_into_1 rfl rfl 3 rfl ?_
  refine sg_iload (pn := 4) (i := 4) dX12_into_2 rfl 4 rfl ?_
  obtain ⟨r1, h_r1, h⟩ := sg_bind h
  refine sg_callVi (pn := 7) (rest := []) 0 dX12_into_4 rfl kb_X12_116 kv_X12_takeNumber (by exact rfl) rfl (Nat.le_of_ble_eq_true rfl) (gM_takeNumber_ok h_r1) rfl rfl (Nat.le_of_ble_eq_true rfl) ?_
  refine sg_istore (pn := 9) (i := 5) (lv' := [(0, .ref (ad 0)), (1, .ref (ad 8)), (2, .int a2), (3, .int a3), (4, .int a4), (5, .int r1.1)]) dX12_into_7 rfl (Nat.le_of_ble_eq_true rfl) [1, 2, 3, 4, 5, 0] rfl ?_
  refine sg_aload_n (pn := 10) (i := 1) dX12_into_9 rfl rfl 1 rfl ?_
  refine sg_iload_n (pn := 11) (i := 2) dX12_into_10 rfl rfl 2 rfl ?_
  refine sg_aload_n (pn := 12) (i := 0) dX12_into_11 rfl rfl 0 rfl ?_
  refine gfM_0_14 (pn := 15) dX12_into_12 rfl lf_X12_113 ?_
  obtain ⟨hg, h⟩ := sg_guard h
  refine asM_8 (pn := 16) dX12_into_15 rfl (sg_in_vp hg) ?_
  obtain ⟨z2, e_z2, h⟩ := sg_letE h
  refine sg_zE e_z2 ?_
  refine sg_iload (pn := 18) (i := 5) dX12_into_16 rfl 5 rfl ?_
  obtain rfl := Option.some.inj h
  exact sg_iret dX12_into_18 rfl ⟨rfl, rfl⟩
set_option maxRecDepth 4000 in
theorem gM_takeRoad_L_ok {l : Launch} {D : va_G} {cI cZ : ClassId} {ad : Nat → Nat} : ∀ (n : Nat) (v1 : Int32) (z : sg_M) (r : Int32 × sg_M), gM_takeRoad_L n v1 z = some r → sg_G (eM l D cI cZ ad) yX12_takeRoad cX12_takeRoad 2 (some .int) 4 18 [(0, .ref (ad 0)), (1, .int v1)] [] z (sg_is (some (.int r.1)) r.2) := by
  intro n
  induction n with
  | zero => intro v1 z r h; cases h
  | succ n ih =>
    intro v1 z r h
    unfold gM_takeRoad_L at h
    refine sg_iload_n (pn := 19) (i := 1) dX12_takeRoad_18 rfl rfl 1 rfl ?_
    refine sg_if_ne (pn := 22) (tgt := 89) dX12_takeRoad_19 rfl (by decide) (fun hc => ?_) (fun hc => ?_)
    · have h := sg_ifn hc h
      refine sg_iload_n (pn := 90) (i := 1) dX12_takeRoad_89 rfl rfl 1 rfl ?_
      refine sg_if_ne (pn := 93) (tgt := 113) dX12_takeRoad_90 rfl (by decide) (fun hc => ?_) (fun hc => ?_)
      · have h := sg_ifn hc h
        refine sg_iload_n (pn := 114) (i := 1) dX12_takeRoad_113 rfl rfl 1 rfl ?_
        obtain rfl := Option.some.inj h
        exact sg_iret dX12_takeRoad_114 rfl ⟨rfl, rfl⟩
      · have h := sg_ifp hc h
        refine sg_aload_n (pn := 94) (i := 0) dX12_takeRoad_93 rfl rfl 0 rfl ?_
        refine gfM_0_16 (pn := 97) dX12_takeRoad_94 rfl lf_X12_123 ?_
        refine sg_iconst (pn := 98) dX12_takeRoad_97 rfl ic_1 ?_
        refine sg_icmp_ne (pn := 101) (tgt := 113) dX12_takeRoad_98 rfl (by decide) (fun hc => ?_) (fun hc => ?_)
        · have h := sg_ifn hc h
          refine sg_iload_n (pn := 114) (i := 1) dX12_takeRoad_113 rfl rfl 1 rfl ?_
          obtain rfl := Option.some.inj h
          exact sg_iret dX12_takeRoad_114 rfl ⟨rfl, rfl⟩
        · have h := sg_ifp hc h
          refine sg_aload_n (pn := 102) (i := 0) dX12_takeRoad_101 rfl rfl 0 rfl ?_
          refine sg_iconst (pn := 103) dX12_takeRoad_102 rfl ic_1 ?_
          refine sg_aload_n (pn := 104) (i := 0) dX12_takeRoad_103 rfl rfl 0 rfl ?_
          refine gfM_0_13 (pn := 107) dX12_takeRoad_104 rfl lf_X12_95 ?_
          obtain ⟨r3, h_r3, h⟩ := sg_bind h
          refine sg_callVi (pn := 110) (rest := []) 0 dX12_takeRoad_107 rfl kb_X12_106 kv_X12_fails (by exact rfl) rfl (Nat.le_of_ble_eq_true rfl) (gM_fails_ok h_r3) rfl rfl (Nat.le_of_ble_eq_true rfl) ?_
          refine sg_goto (tgt := 114) dX12_takeRoad_110 (by decide) ?_
          obtain rfl := Option.some.inj h
          exact sg_iret dX12_takeRoad_114 rfl ⟨rfl, rfl⟩
    · have h := sg_ifp hc h
      refine sg_aload_n (pn := 23) (i := 0) dX12_takeRoad_22 rfl rfl 0 rfl ?_
      obtain ⟨r4, h_r4, h⟩ := sg_bind h
      refine sg_callVi (pn := 26) (rest := []) 0 dX12_takeRoad_23 rfl kb_X12_98 kv_X12_here (by exact rfl) rfl (Nat.le_of_ble_eq_true rfl) (gM_here_ok h_r4) rfl rfl (Nat.le_of_ble_eq_true rfl) ?_
      refine sg_bipush (pn := 28) dX12_takeRoad_26 rfl ib_44 ?_
      refine sg_icmp_ne (pn := 31) (tgt := 89) dX12_takeRoad_28 rfl (by decide) (fun hc => ?_) (fun hc => ?_)
      · have h := sg_ifn hc h
        refine sg_iload_n (pn := 90) (i := 1) dX12_takeRoad_89 rfl rfl 1 rfl ?_
        refine sg_if_ne (pn := 93) (tgt := 113) dX12_takeRoad_90 rfl (by decide) (fun hc => ?_) (fun hc => ?_)
        · have h := sg_ifn hc h
          refine sg_iload_n (pn := 114) (i := 1) dX12_takeRoad_113 rfl rfl 1 rfl ?_
          obtain rfl := Option.some.inj h
          exact sg_iret dX12_takeRoad_114 rfl ⟨rfl, rfl⟩
        · have h := sg_ifp hc h
          refine sg_aload_n (pn := 94) (i := 0) dX12_takeRoad_93 rfl rfl 0 rfl ?_
          refine gfM_0_16 (pn := 97) dX12_takeRoad_94 rfl lf_X12_123 ?_
          refine sg_iconst (pn := 98) dX12_takeRoad_97 rfl ic_1 ?_
          refine sg_icmp_ne (pn := 101) (tgt := 113) dX12_takeRoad_98 rfl (by decide) (fun hc => ?_) (fun hc => ?_)
          · have h := sg_ifn hc h
            refine sg_iload_n (pn := 114) (i := 1) dX12_takeRoad_113 rfl rfl 1 rfl ?_
            obtain rfl := Option.some.inj h
            exact sg_iret dX12_takeRoad_114 rfl ⟨rfl, rfl⟩
          · have h := sg_ifp hc h
            refine sg_aload_n (pn := 102) (i := 0) dX12_takeRoad_101 rfl rfl 0 rfl ?_
            refine sg_iconst (pn := 103) dX12_takeRoad_102 rfl ic_1 ?_
            refine sg_aload_n (pn := 104) (i := 0) dX12_takeRoad_103 rfl rfl 0 rfl ?_
            refine gfM_0_13 (pn := 107) dX12_takeRoad_104 rfl lf_X12_95 ?_
            obtain ⟨r5, h_r5, h⟩ := sg_bind h
            refine sg_callVi (pn := 110) (rest := []) 0 dX12_takeRoad_107 rfl kb_X12_106 kv_X12_fails (by exact rfl) rfl (Nat.le_of_ble_eq_true rfl) (gM_fails_ok h_r5) rfl rfl (Nat.le_of_ble_eq_true rfl) ?_
            refine sg_goto (tgt := 114) dX12_takeRoad_110 (by decide) ?_
            obtain rfl := Option.some.inj h
            exact sg_iret dX12_takeRoad_114 rfl ⟨rfl, rfl⟩
      · have h := sg_ifp hc h
        refine sg_aload_n (pn := 32) (i := 0) dX12_takeRoad_31 rfl rfl 0 rfl ?_
        refine gfM_0_16 (pn := 35) dX12_takeRoad_32 rfl lf_X12_123 ?_
        refine sg_bipush (pn := 37) dX12_takeRoad_35 rfl ib_20 ?_
        refine sg_icmp_ne (pn := 40) (tgt := 50) dX12_takeRoad_37 rfl (by decide) (fun hc => ?_) (fun hc => ?_)
        · have h := sg_ifn hc h
          refine sg_aload_n (pn := 51) (i := 0) dX12_takeRoad_50 rfl rfl 0 rfl ?_
          refine sg_dup (pn := 52) dX12_takeRoad_51 rfl rfl ?_
          refine gfM_0_13 (pn := 55) dX12_takeRoad_52 rfl lf_X12_95 ?_
          refine sg_iconst (pn := 56) dX12_takeRoad_55 rfl ic_1 ?_
          refine sg_iadd (pn := 57) dX12_takeRoad_56 rfl ?_
          refine pfM_0_13 (pn := 60) dX12_takeRoad_57 rfl lf_X12_95 ?_
          obtain ⟨z6, e_z6, h⟩ := sg_letE h
          refine sg_zE e_z6 ?_
          refine sg_aload_n (pn := 61) (i := 0) dX12_takeRoad_60 rfl rfl 0 rfl ?_
          refine sg_aload_n (pn := 62) (i := 0) dX12_takeRoad_61 rfl rfl 0 rfl ?_
          refine gfM_0_17 (pn := 65) dX12_takeRoad_62 rfl lf_X12_35 ?_
          refine sg_aload_n (pn := 66) (i := 0) dX12_takeRoad_65 rfl rfl 0 rfl ?_
          refine gfM_0_16 (pn := 69) dX12_takeRoad_66 rfl lf_X12_123 ?_
          refine sg_iconst (pn := 70) dX12_takeRoad_69 rfl ic_0 ?_
          refine sg_bipush (pn := 72) dX12_takeRoad_70 rfl ib_60 ?_
          obtain ⟨r7, h_r7, h⟩ := sg_bind h
          refine sg_callVi (pn := 75) (rest := []) 0 dX12_takeRoad_72 rfl kb_X12_119 kv_X12_into (by exact rfl) rfl (Nat.le_of_ble_eq_true rfl) (gM_into_0_8_ok h_r7) rfl rfl (Nat.le_of_ble_eq_true rfl) ?_
          refine sg_istore_n (pn := 76) (i := 1) (lv' := [(0, .ref (ad 0)), (1, .int r7.1)]) dX12_takeRoad_75 rfl rfl (Nat.le_of_ble_eq_true rfl) [1, 0] rfl ?_
          refine sg_aload_n (pn := 77) (i := 0) dX12_takeRoad_76 rfl rfl 0 rfl ?_
          refine sg_dup (pn := 78) dX12_takeRoad_77 rfl rfl ?_
          refine gfM_0_16 (pn := 81) dX12_takeRoad_78 rfl lf_X12_123 ?_
          refine sg_iconst (pn := 82) dX12_takeRoad_81 rfl ic_1 ?_
          refine sg_iadd (pn := 83) dX12_takeRoad_82 rfl ?_
          refine pfM_0_16 (pn := 86) dX12_takeRoad_83 rfl lf_X12_123 ?_
          obtain ⟨z8, e_z8, h⟩ := sg_letE h
          refine sg_zE e_z8 ?_
          refine sg_goto (tgt := 18) dX12_takeRoad_86 (by decide) ?_
          exact ih _ _ _ h
        · have h := sg_ifp hc h
          refine sg_aload_n (pn := 41) (i := 0) dX12_takeRoad_40 rfl rfl 0 rfl ?_
          refine sg_iconst (pn := 42) dX12_takeRoad_41 rfl ic_1 ?_
          refine sg_aload_n (pn := 43) (i := 0) dX12_takeRoad_42 rfl rfl 0 rfl ?_
          refine gfM_0_13 (pn := 46) dX12_takeRoad_43 rfl lf_X12_95 ?_
          obtain ⟨r9, h_r9, h⟩ := sg_bind h
          refine sg_callVi (pn := 49) (rest := []) 0 dX12_takeRoad_46 rfl kb_X12_106 kv_X12_fails (by exact rfl) rfl (Nat.le_of_ble_eq_true rfl) (gM_fails_ok h_r9) rfl rfl (Nat.le_of_ble_eq_true rfl) ?_
          obtain rfl := Option.some.inj h
          exact sg_iret dX12_takeRoad_49 rfl ⟨rfl, rfl⟩
set_option maxRecDepth 4000 in
theorem gM_takeRoad_ok {l : Launch} {D : va_G} {cI cZ : ClassId} {ad : Nat → Nat} {n : Nat} {z : sg_M} {r : Int32 × sg_M} (h : gM_takeRoad n z = some r) : sg_Met (eM l D cI cZ ad) yX12_takeRoad cX12_takeRoad 2 (some .int) 4 [.ref (ad 0)] z (sg_is (some (.int r.1)) r.2) := by
  refine sg_enter (lv0 := [(0, .ref (ad 0))]) pn_X12 (Nat.le_of_ble_eq_true rfl) rfl ?_
  unfold gM_takeRoad at h
  refine sg_aload_n (pn := 1) (i := 0) dX12_takeRoad_0 rfl rfl 0 rfl ?_
  refine sg_aload_n (pn := 2) (i := 0) dX12_takeRoad_1 rfl rfl 0 rfl ?_
  refine gfM_0_17 (pn := 5) dX12_takeRoad_2 rfl lf_X12_35 ?_
  refine sg_iconst (pn := 6) dX12_takeRoad_5 rfl ic_0 ?_
  refine sg_iconst (pn := 7) dX12_takeRoad_6 rfl ic_0 ?_
  refine sg_bipush (pn := 9) dX12_takeRoad_7 rfl ib_60 ?_
  obtain ⟨r1, h_r1, h⟩ := sg_bind h
  refine sg_callVi (pn := 12) (rest := []) 0 dX12_takeRoad_9 rfl kb_X12_119 kv_X12_into (by exact rfl) rfl (Nat.le_of_ble_eq_true rfl) (gM_into_0_8_ok h_r1) rfl rfl (Nat.le_of_ble_eq_true rfl) ?_
  refine sg_istore_n (pn := 13) (i := 1) (lv' := [(0, .ref (ad 0)), (1, .int r1.1)]) dX12_takeRoad_12 rfl rfl (Nat.le_of_ble_eq_true rfl) [1, 0] rfl ?_
  refine sg_aload_n (pn := 14) (i := 0) dX12_takeRoad_13 rfl rfl 0 rfl ?_
  refine sg_iconst (pn := 15) dX12_takeRoad_14 rfl ic_1 ?_
  refine pfM_0_16 (pn := 18) dX12_takeRoad_15 rfl lf_X12_123 ?_
  obtain ⟨z2, e_z2, h⟩ := sg_letE h
  refine sg_zE e_z2 ?_
  exact gM_takeRoad_L_ok n _ _ _ h
set_option maxRecDepth 4000 in
theorem gM_into_0_9_ok {l : Launch} {D : va_G} {cI cZ : ClassId} {ad : Nat → Nat} {n : Nat} {a2 : Int32} {a3 : Int32} {a4 : Int32} {z : sg_M} {r : Int32 × sg_M} (h : gM_into_0_9 n a2 a3 a4 z = some r) : sg_Met (eM l D cI cZ ad) yX12_into cX12_into 6 (some .int) 3 [.ref (ad 0), .ref (ad 9), .int a2, .int a3, .int a4] z (sg_is (some (.int r.1)) r.2) := by
  refine sg_enter (lv0 := [(0, .ref (ad 0)), (1, .ref (ad 9)), (2, .int a2), (3, .int a3), (4, .int a4)]) pn_X12 (Nat.le_of_ble_eq_true rfl) rfl ?_
  unfold gM_into_0_9 at h
  refine sg_aload_n (pn := 1) (i := 0) dX12_into_0 rfl rfl 0 rfl ?_
  refine sg_iload_n (pn := 2) (i := 3) dX12_into_1 rfl rfl 3 rfl ?_
  refine sg_iload (pn := 4) (i := 4) dX12_into_2 rfl 4 rfl ?_
  obtain ⟨r1, h_r1, h⟩ := sg_bind h
  refine sg_callVi (pn := 7) (rest := []) 0 dX12_into_4 rfl kb_X12_116 kv_X12_takeNumber (by exact rfl) rfl (Nat.le_of_ble_eq_true rfl) (gM_takeNumber_ok h_r1) rfl rfl (Nat.le_of_ble_eq_true rfl) ?_
  refine sg_istore (pn := 9) (i := 5) (lv' := [(0, .ref (ad 0)), (1, .ref (ad 9)), (2, .int a2), (3, .int a3), (4, .int a4), (5, .int r1.1)]) dX12_into_7 rfl (Nat.le_of_ble_eq_true rfl) [1, 2, 3, 4, 5, 0] rfl ?_
  refine sg_aload_n (pn := 10) (i := 1) dX12_into_9 rfl rfl 1 rfl ?_
  refine sg_iload_n (pn := 11) (i := 2) dX12_into_10 rfl rfl 2 rfl ?_
  refine sg_aload_n (pn := 12) (i := 0) dX12_into_11 rfl rfl 0 rfl ?_
  refine gfM_0_14 (pn := 15) dX12_into_12 rfl lf_X12_113 ?_
  obtain ⟨hg, h⟩ := sg_guard h
  refine asM_9 (pn := 16) dX12_into_15 rfl (sg_in_vp hg) ?_
  obtain ⟨z2, e_z2, h⟩ := sg_letE h
  refine sg_zE e_z2 ?_
  refine sg_iload (pn := 18) (i := 5) dX12_into_16 rfl 5 rfl ?_
  obtain rfl := Option.some.inj h
  exact sg_iret dX12_into_18 rfl ⟨rfl, rfl⟩
set_option maxRecDepth 4000 in
theorem gM_takeWeather_L_ok {l : Launch} {D : va_G} {cI cZ : ClassId} {ad : Nat → Nat} : ∀ (n : Nat) (v1 : Int32) (z : sg_M) (r : Int32 × sg_M), gM_takeWeather_L n v1 z = some r → sg_G (eM l D cI cZ ad) yX12_takeWeather cX12_takeWeather 2 (some .int) 4 18 [(0, .ref (ad 0)), (1, .int v1)] [] z (sg_is (some (.int r.1)) r.2) := by
  intro n
  induction n with
  | zero => intro v1 z r h; cases h
  | succ n ih =>
    intro v1 z r h
    unfold gM_takeWeather_L at h
    refine sg_iload_n (pn := 19) (i := 1) dX12_takeWeather_18 rfl rfl 1 rfl ?_
    refine sg_if_ne (pn := 22) (tgt := 89) dX12_takeWeather_19 rfl (by decide) (fun hc => ?_) (fun hc => ?_)
    · have h := sg_ifn hc h
      refine sg_iload_n (pn := 90) (i := 1) dX12_takeWeather_89 rfl rfl 1 rfl ?_
      obtain rfl := Option.some.inj h
      exact sg_iret dX12_takeWeather_90 rfl ⟨rfl, rfl⟩
    · have h := sg_ifp hc h
      refine sg_aload_n (pn := 23) (i := 0) dX12_takeWeather_22 rfl rfl 0 rfl ?_
      obtain ⟨r3, h_r3, h⟩ := sg_bind h
      refine sg_callVi (pn := 26) (rest := []) 0 dX12_takeWeather_23 rfl kb_X12_98 kv_X12_here (by exact rfl) rfl (Nat.le_of_ble_eq_true rfl) (gM_here_ok h_r3) rfl rfl (Nat.le_of_ble_eq_true rfl) ?_
      refine sg_bipush (pn := 28) dX12_takeWeather_26 rfl ib_44 ?_
      refine sg_icmp_ne (pn := 31) (tgt := 89) dX12_takeWeather_28 rfl (by decide) (fun hc => ?_) (fun hc => ?_)
      · have h := sg_ifn hc h
        refine sg_iload_n (pn := 90) (i := 1) dX12_takeWeather_89 rfl rfl 1 rfl ?_
        obtain rfl := Option.some.inj h
        exact sg_iret dX12_takeWeather_90 rfl ⟨rfl, rfl⟩
      · have h := sg_ifp hc h
        refine sg_aload_n (pn := 32) (i := 0) dX12_takeWeather_31 rfl rfl 0 rfl ?_
        refine gfM_0_18 (pn := 35) dX12_takeWeather_32 rfl lf_X12_126 ?_
        refine sg_bipush (pn := 37) dX12_takeWeather_35 rfl ib_12 ?_
        refine sg_icmp_ne (pn := 40) (tgt := 50) dX12_takeWeather_37 rfl (by decide) (fun hc => ?_) (fun hc => ?_)
        · have h := sg_ifn hc h
          refine sg_aload_n (pn := 51) (i := 0) dX12_takeWeather_50 rfl rfl 0 rfl ?_
          refine sg_dup (pn := 52) dX12_takeWeather_51 rfl rfl ?_
          refine gfM_0_13 (pn := 55) dX12_takeWeather_52 rfl lf_X12_95 ?_
          refine sg_iconst (pn := 56) dX12_takeWeather_55 rfl ic_1 ?_
          refine sg_iadd (pn := 57) dX12_takeWeather_56 rfl ?_
          refine pfM_0_13 (pn := 60) dX12_takeWeather_57 rfl lf_X12_95 ?_
          obtain ⟨z4, e_z4, h⟩ := sg_letE h
          refine sg_zE e_z4 ?_
          refine sg_aload_n (pn := 61) (i := 0) dX12_takeWeather_60 rfl rfl 0 rfl ?_
          refine sg_aload_n (pn := 62) (i := 0) dX12_takeWeather_61 rfl rfl 0 rfl ?_
          refine gfM_0_19 (pn := 65) dX12_takeWeather_62 rfl lf_X12_38 ?_
          refine sg_aload_n (pn := 66) (i := 0) dX12_takeWeather_65 rfl rfl 0 rfl ?_
          refine gfM_0_18 (pn := 69) dX12_takeWeather_66 rfl lf_X12_126 ?_
          refine sg_iconst (pn := 70) dX12_takeWeather_69 rfl ic_0 ?_
          refine sg_bipush (pn := 72) dX12_takeWeather_70 rfl ib_30 ?_
          obtain ⟨r5, h_r5, h⟩ := sg_bind h
          refine sg_callVi (pn := 75) (rest := []) 0 dX12_takeWeather_72 rfl kb_X12_119 kv_X12_into (by exact rfl) rfl (Nat.le_of_ble_eq_true rfl) (gM_into_0_9_ok h_r5) rfl rfl (Nat.le_of_ble_eq_true rfl) ?_
          refine sg_istore_n (pn := 76) (i := 1) (lv' := [(0, .ref (ad 0)), (1, .int r5.1)]) dX12_takeWeather_75 rfl rfl (Nat.le_of_ble_eq_true rfl) [1, 0] rfl ?_
          refine sg_aload_n (pn := 77) (i := 0) dX12_takeWeather_76 rfl rfl 0 rfl ?_
          refine sg_dup (pn := 78) dX12_takeWeather_77 rfl rfl ?_
          refine gfM_0_18 (pn := 81) dX12_takeWeather_78 rfl lf_X12_126 ?_
          refine sg_iconst (pn := 82) dX12_takeWeather_81 rfl ic_1 ?_
          refine sg_iadd (pn := 83) dX12_takeWeather_82 rfl ?_
          refine pfM_0_18 (pn := 86) dX12_takeWeather_83 rfl lf_X12_126 ?_
          obtain ⟨z6, e_z6, h⟩ := sg_letE h
          refine sg_zE e_z6 ?_
          refine sg_goto (tgt := 18) dX12_takeWeather_86 (by decide) ?_
          exact ih _ _ _ h
        · have h := sg_ifp hc h
          refine sg_aload_n (pn := 41) (i := 0) dX12_takeWeather_40 rfl rfl 0 rfl ?_
          refine sg_iconst (pn := 42) dX12_takeWeather_41 rfl ic_1 ?_
          refine sg_aload_n (pn := 43) (i := 0) dX12_takeWeather_42 rfl rfl 0 rfl ?_
          refine gfM_0_13 (pn := 46) dX12_takeWeather_43 rfl lf_X12_95 ?_
          obtain ⟨r7, h_r7, h⟩ := sg_bind h
          refine sg_callVi (pn := 49) (rest := []) 0 dX12_takeWeather_46 rfl kb_X12_106 kv_X12_fails (by exact rfl) rfl (Nat.le_of_ble_eq_true rfl) (gM_fails_ok h_r7) rfl rfl (Nat.le_of_ble_eq_true rfl) ?_
          obtain rfl := Option.some.inj h
          exact sg_iret dX12_takeWeather_49 rfl ⟨rfl, rfl⟩
set_option maxRecDepth 4000 in
theorem gM_takeWeather_ok {l : Launch} {D : va_G} {cI cZ : ClassId} {ad : Nat → Nat} {n : Nat} {z : sg_M} {r : Int32 × sg_M} (h : gM_takeWeather n z = some r) : sg_Met (eM l D cI cZ ad) yX12_takeWeather cX12_takeWeather 2 (some .int) 4 [.ref (ad 0)] z (sg_is (some (.int r.1)) r.2) := by
  refine sg_enter (lv0 := [(0, .ref (ad 0))]) pn_X12 (Nat.le_of_ble_eq_true rfl) rfl ?_
  unfold gM_takeWeather at h
  refine sg_aload_n (pn := 1) (i := 0) dX12_takeWeather_0 rfl rfl 0 rfl ?_
  refine sg_aload_n (pn := 2) (i := 0) dX12_takeWeather_1 rfl rfl 0 rfl ?_
  refine gfM_0_19 (pn := 5) dX12_takeWeather_2 rfl lf_X12_38 ?_
  refine sg_iconst (pn := 6) dX12_takeWeather_5 rfl ic_0 ?_
  refine sg_iconst (pn := 7) dX12_takeWeather_6 rfl ic_0 ?_
  refine sg_bipush (pn := 9) dX12_takeWeather_7 rfl ib_30 ?_
  obtain ⟨r1, h_r1, h⟩ := sg_bind h
  refine sg_callVi (pn := 12) (rest := []) 0 dX12_takeWeather_9 rfl kb_X12_119 kv_X12_into (by exact rfl) rfl (Nat.le_of_ble_eq_true rfl) (gM_into_0_9_ok h_r1) rfl rfl (Nat.le_of_ble_eq_true rfl) ?_
  refine sg_istore_n (pn := 13) (i := 1) (lv' := [(0, .ref (ad 0)), (1, .int r1.1)]) dX12_takeWeather_12 rfl rfl (Nat.le_of_ble_eq_true rfl) [1, 0] rfl ?_
  refine sg_aload_n (pn := 14) (i := 0) dX12_takeWeather_13 rfl rfl 0 rfl ?_
  refine sg_iconst (pn := 15) dX12_takeWeather_14 rfl ic_1 ?_
  refine pfM_0_18 (pn := 18) dX12_takeWeather_15 rfl lf_X12_126 ?_
  obtain ⟨z2, e_z2, h⟩ := sg_letE h
  refine sg_zE e_z2 ?_
  exact gM_takeWeather_L_ok n _ _ _ h
set_option maxRecDepth 4000 in
theorem gM_into_0_10_ok {l : Launch} {D : va_G} {cI cZ : ClassId} {ad : Nat → Nat} {n : Nat} {a2 : Int32} {a3 : Int32} {a4 : Int32} {z : sg_M} {r : Int32 × sg_M} (h : gM_into_0_10 n a2 a3 a4 z = some r) : sg_Met (eM l D cI cZ ad) yX12_into cX12_into 6 (some .int) 3 [.ref (ad 0), .ref (ad 10), .int a2, .int a3, .int a4] z (sg_is (some (.int r.1)) r.2) := by
  refine sg_enter (lv0 := [(0, .ref (ad 0)), (1, .ref (ad 10)), (2, .int a2), (3, .int a3), (4, .int a4)]) pn_X12 (Nat.le_of_ble_eq_true rfl) rfl ?_
  unfold gM_into_0_10 at h
  refine sg_aload_n (pn := 1) (i := 0) dX12_into_0 rfl rfl 0 rfl ?_
  refine sg_iload_n (pn := 2) (i := 3) dX12_into_1 rfl rfl 3 rfl ?_
  refine sg_iload (pn := 4) (i := 4) dX12_into_2 rfl 4 rfl ?_
  obtain ⟨r1, h_r1, h⟩ := sg_bind h
  refine sg_callVi (pn := 7) (rest := []) 0 dX12_into_4 rfl kb_X12_116 kv_X12_takeNumber (by exact rfl) rfl (Nat.le_of_ble_eq_true rfl) (gM_takeNumber_ok h_r1) rfl rfl (Nat.le_of_ble_eq_true rfl) ?_
  refine sg_istore (pn := 9) (i := 5) (lv' := [(0, .ref (ad 0)), (1, .ref (ad 10)), (2, .int a2), (3, .int a3), (4, .int a4), (5, .int r1.1)]) dX12_into_7 rfl (Nat.le_of_ble_eq_true rfl) [1, 2, 3, 4, 5, 0] rfl ?_
  refine sg_aload_n (pn := 10) (i := 1) dX12_into_9 rfl rfl 1 rfl ?_
  refine sg_iload_n (pn := 11) (i := 2) dX12_into_10 rfl rfl 2 rfl ?_
  refine sg_aload_n (pn := 12) (i := 0) dX12_into_11 rfl rfl 0 rfl ?_
  refine gfM_0_14 (pn := 15) dX12_into_12 rfl lf_X12_113 ?_
  obtain ⟨hg, h⟩ := sg_guard h
  refine asM_10 (pn := 16) dX12_into_15 rfl (sg_in_vp hg) ?_
  obtain ⟨z2, e_z2, h⟩ := sg_letE h
  refine sg_zE e_z2 ?_
  refine sg_iload (pn := 18) (i := 5) dX12_into_16 rfl 5 rfl ?_
  obtain rfl := Option.some.inj h
  exact sg_iret dX12_into_18 rfl ⟨rfl, rfl⟩
set_option maxRecDepth 4000 in
theorem gM_into_0_12_ok {l : Launch} {D : va_G} {cI cZ : ClassId} {ad : Nat → Nat} {n : Nat} {a2 : Int32} {a3 : Int32} {a4 : Int32} {z : sg_M} {r : Int32 × sg_M} (h : gM_into_0_12 n a2 a3 a4 z = some r) : sg_Met (eM l D cI cZ ad) yX12_into cX12_into 6 (some .int) 3 [.ref (ad 0), .ref (ad 12), .int a2, .int a3, .int a4] z (sg_is (some (.int r.1)) r.2) := by
  refine sg_enter (lv0 := [(0, .ref (ad 0)), (1, .ref (ad 12)), (2, .int a2), (3, .int a3), (4, .int a4)]) pn_X12 (Nat.le_of_ble_eq_true rfl) rfl ?_
  unfold gM_into_0_12 at h
  refine sg_aload_n (pn := 1) (i := 0) dX12_into_0 rfl rfl 0 rfl ?_
  refine sg_iload_n (pn := 2) (i := 3) dX12_into_1 rfl rfl 3 rfl ?_
  refine sg_iload (pn := 4) (i := 4) dX12_into_2 rfl 4 rfl ?_
  obtain ⟨r1, h_r1, h⟩ := sg_bind h
  refine sg_callVi (pn := 7) (rest := []) 0 dX12_into_4 rfl kb_X12_116 kv_X12_takeNumber (by exact rfl) rfl (Nat.le_of_ble_eq_true rfl) (gM_takeNumber_ok h_r1) rfl rfl (Nat.le_of_ble_eq_true rfl) ?_
  refine sg_istore (pn := 9) (i := 5) (lv' := [(0, .ref (ad 0)), (1, .ref (ad 12)), (2, .int a2), (3, .int a3), (4, .int a4), (5, .int r1.1)]) dX12_into_7 rfl (Nat.le_of_ble_eq_true rfl) [1, 2, 3, 4, 5, 0] rfl ?_
  refine sg_aload_n (pn := 10) (i := 1) dX12_into_9 rfl rfl 1 rfl ?_
  refine sg_iload_n (pn := 11) (i := 2) dX12_into_10 rfl rfl 2 rfl ?_
  refine sg_aload_n (pn := 12) (i := 0) dX12_into_11 rfl rfl 0 rfl ?_
  refine gfM_0_14 (pn := 15) dX12_into_12 rfl lf_X12_113 ?_
  obtain ⟨hg, h⟩ := sg_guard h
  refine asM_12 (pn := 16) dX12_into_15 rfl (sg_in_vp hg) ?_
  obtain ⟨z2, e_z2, h⟩ := sg_letE h
  refine sg_zE e_z2 ?_
  refine sg_iload (pn := 18) (i := 5) dX12_into_16 rfl 5 rfl ?_
  obtain rfl := Option.some.inj h
  exact sg_iret dX12_into_18 rfl ⟨rfl, rfl⟩
set_option maxRecDepth 4000 in
theorem gM_into_0_11_ok {l : Launch} {D : va_G} {cI cZ : ClassId} {ad : Nat → Nat} {n : Nat} {a2 : Int32} {a3 : Int32} {a4 : Int32} {z : sg_M} {r : Int32 × sg_M} (h : gM_into_0_11 n a2 a3 a4 z = some r) : sg_Met (eM l D cI cZ ad) yX12_into cX12_into 6 (some .int) 3 [.ref (ad 0), .ref (ad 11), .int a2, .int a3, .int a4] z (sg_is (some (.int r.1)) r.2) := by
  refine sg_enter (lv0 := [(0, .ref (ad 0)), (1, .ref (ad 11)), (2, .int a2), (3, .int a3), (4, .int a4)]) pn_X12 (Nat.le_of_ble_eq_true rfl) rfl ?_
  unfold gM_into_0_11 at h
  refine sg_aload_n (pn := 1) (i := 0) dX12_into_0 rfl rfl 0 rfl ?_
  refine sg_iload_n (pn := 2) (i := 3) dX12_into_1 rfl rfl 3 rfl ?_
  refine sg_iload (pn := 4) (i := 4) dX12_into_2 rfl 4 rfl ?_
  obtain ⟨r1, h_r1, h⟩ := sg_bind h
  refine sg_callVi (pn := 7) (rest := []) 0 dX12_into_4 rfl kb_X12_116 kv_X12_takeNumber (by exact rfl) rfl (Nat.le_of_ble_eq_true rfl) (gM_takeNumber_ok h_r1) rfl rfl (Nat.le_of_ble_eq_true rfl) ?_
  refine sg_istore (pn := 9) (i := 5) (lv' := [(0, .ref (ad 0)), (1, .ref (ad 11)), (2, .int a2), (3, .int a3), (4, .int a4), (5, .int r1.1)]) dX12_into_7 rfl (Nat.le_of_ble_eq_true rfl) [1, 2, 3, 4, 5, 0] rfl ?_
  refine sg_aload_n (pn := 10) (i := 1) dX12_into_9 rfl rfl 1 rfl ?_
  refine sg_iload_n (pn := 11) (i := 2) dX12_into_10 rfl rfl 2 rfl ?_
  refine sg_aload_n (pn := 12) (i := 0) dX12_into_11 rfl rfl 0 rfl ?_
  refine gfM_0_14 (pn := 15) dX12_into_12 rfl lf_X12_113 ?_
  obtain ⟨hg, h⟩ := sg_guard h
  refine asM_11 (pn := 16) dX12_into_15 rfl (sg_in_vp hg) ?_
  obtain ⟨z2, e_z2, h⟩ := sg_letE h
  refine sg_zE e_z2 ?_
  refine sg_iload (pn := 18) (i := 5) dX12_into_16 rfl 5 rfl ?_
  obtain rfl := Option.some.inj h
  exact sg_iret dX12_into_18 rfl ⟨rfl, rfl⟩
set_option maxRecDepth 4000 in
theorem gM_takeCart_ok {l : Launch} {D : va_G} {cI cZ : ClassId} {ad : Nat → Nat} {n : Nat} {z : sg_M} {r : Int32 × sg_M} (h : gM_takeCart n z = some r) : sg_Met (eM l D cI cZ ad) yX12_takeCart cX12_takeCart 3 (some .int) 4 [.ref (ad 0)] z (sg_is (some (.int r.1)) r.2) := by
  refine sg_enter (lv0 := [(0, .ref (ad 0))]) pn_X12 (Nat.le_of_ble_eq_true rfl) rfl ?_
  unfold gM_takeCart at h
  refine sg_aload_n (pn := 1) (i := 0) dX12_takeCart_0 rfl rfl 0 rfl ?_
  refine gfM_0_20 (pn := 4) dX12_takeCart_1 rfl lf_X12_129 ?_
  obtain ⟨v1_1, e_v1_1, h⟩ := sg_letE h
  refine sg_topi e_v1_1 ?_
  refine sg_istore_n (pn := 5) (i := 1) (lv' := [(0, .ref (ad 0)), (1, .int v1_1)]) dX12_takeCart_4 rfl rfl (Nat.le_of_ble_eq_true rfl) [1, 0] rfl ?_
  refine sg_aload_n (pn := 6) (i := 0) dX12_takeCart_5 rfl rfl 0 rfl ?_
  refine sg_dup (pn := 7) dX12_takeCart_6 rfl rfl ?_
  refine gfM_0_20 (pn := 10) dX12_takeCart_7 rfl lf_X12_129 ?_
  refine sg_iconst (pn := 11) dX12_takeCart_10 rfl ic_1 ?_
  refine sg_iadd (pn := 12) dX12_takeCart_11 rfl ?_
  refine pfM_0_20 (pn := 15) dX12_takeCart_12 rfl lf_X12_129 ?_
  obtain ⟨z2, e_z2, h⟩ := sg_letE h
  refine sg_zE e_z2 ?_
  refine sg_aload_n (pn := 16) (i := 0) dX12_takeCart_15 rfl rfl 0 rfl ?_
  refine sg_aload_n (pn := 17) (i := 0) dX12_takeCart_16 rfl rfl 0 rfl ?_
  refine gfM_0_21 (pn := 20) dX12_takeCart_17 rfl lf_X12_41 ?_
  refine sg_iload_n (pn := 21) (i := 1) dX12_takeCart_20 rfl rfl 1 rfl ?_
  refine sg_iconst (pn := 22) dX12_takeCart_21 rfl ic_0 ?_
  refine sg_iconst (pn := 23) dX12_takeCart_22 rfl ic_3 ?_
  obtain ⟨r3, h_r3, h⟩ := sg_bind h
  refine sg_callVi (pn := 26) (rest := []) 0 dX12_takeCart_23 rfl kb_X12_119 kv_X12_into (by exact rfl) rfl (Nat.le_of_ble_eq_true rfl) (gM_into_0_10_ok h_r3) rfl rfl (Nat.le_of_ble_eq_true rfl) ?_
  refine sg_istore_n (pn := 27) (i := 2) (lv' := [(0, .ref (ad 0)), (1, .int v1_1), (2, .int r3.1)]) dX12_takeCart_26 rfl rfl (Nat.le_of_ble_eq_true rfl) [1, 2, 0] rfl ?_
  refine sg_iload_n (pn := 28) (i := 2) dX12_takeCart_27 rfl rfl 2 rfl ?_
  obtain ⟨t5, e_t5, h2⟩ := sg_bind h
  have hm_t5 : sg_G (eM l D cI cZ ad) yX12_takeCart cX12_takeCart 3 (some .int) 4 47 [(0, .ref (ad 0)), (1, .int v1_1)] [.int t5.1] t5.2 (sg_is (some (.int r.1)) r.2) := by
    have h := h2
    refine sg_istore_n (pn := 48) (i := 2) (lv' := [(0, .ref (ad 0)), (1, .int v1_1), (2, .int t5.1)]) dX12_takeCart_47 rfl rfl (Nat.le_of_ble_eq_true rfl) [1, 2, 0] rfl ?_
    refine sg_iload_n (pn := 49) (i := 2) dX12_takeCart_48 rfl rfl 2 rfl ?_
    refine sg_if_le (pn := 52) (tgt := 56) dX12_takeCart_49 rfl (by decide) (fun hc => ?_) (fun hc => ?_)
    · have h := sg_ifp hc h
      refine sg_aload_n (pn := 57) (i := 0) dX12_takeCart_56 rfl rfl 0 rfl ?_
      refine sg_aload_n (pn := 58) (i := 0) dX12_takeCart_57 rfl rfl 0 rfl ?_
      refine gfM_0_23 (pn := 61) dX12_takeCart_58 rfl lf_X12_47 ?_
      refine sg_iload_n (pn := 62) (i := 1) dX12_takeCart_61 rfl rfl 1 rfl ?_
      refine sg_iconst (pn := 63) dX12_takeCart_62 rfl ic_0 ?_
      refine sg_bipush (pn := 65) dX12_takeCart_63 rfl ib_9 ?_
      obtain ⟨r6, h_r6, h⟩ := sg_bind h
      refine sg_callVi (pn := 68) (rest := []) 0 dX12_takeCart_65 rfl kb_X12_119 kv_X12_into (by exact rfl) rfl (Nat.le_of_ble_eq_true rfl) (gM_into_0_12_ok h_r6) rfl rfl (Nat.le_of_ble_eq_true rfl) ?_
      obtain rfl := Option.some.inj h
      exact sg_iret dX12_takeCart_68 rfl ⟨rfl, rfl⟩
    · have h := sg_ifn hc h
      refine sg_iload_n (pn := 53) (i := 2) dX12_takeCart_52 rfl rfl 2 rfl ?_
      refine sg_goto (tgt := 68) dX12_takeCart_53 (by decide) ?_
      obtain rfl := Option.some.inj h
      exact sg_iret dX12_takeCart_68 rfl ⟨rfl, rfl⟩
  have h := e_t5
  refine sg_if_le (pn := 31) (tgt := 35) dX12_takeCart_28 rfl (by decide) (fun hc => ?_) (fun hc => ?_)
  · have h := sg_ifp hc h
    refine sg_aload_n (pn := 36) (i := 0) dX12_takeCart_35 rfl rfl 0 rfl ?_
    refine sg_aload_n (pn := 37) (i := 0) dX12_takeCart_36 rfl rfl 0 rfl ?_
    refine gfM_0_22 (pn := 40) dX12_takeCart_37 rfl lf_X12_44 ?_
    refine sg_iload_n (pn := 41) (i := 1) dX12_takeCart_40 rfl rfl 1 rfl ?_
    refine sg_iconst (pn := 42) dX12_takeCart_41 rfl ic_1 ?_
    refine sg_bipush (pn := 44) dX12_takeCart_42 rfl ib_60 ?_
    obtain ⟨r4, h_r4, h⟩ := sg_bind h
    refine sg_callVi (pn := 47) (rest := []) 0 dX12_takeCart_44 rfl kb_X12_119 kv_X12_into (by exact rfl) rfl (Nat.le_of_ble_eq_true rfl) (gM_into_0_11_ok h_r4) rfl rfl (Nat.le_of_ble_eq_true rfl) ?_
    obtain rfl := Option.some.inj h
    refine sg_sub [0, 1] rfl ?_
    exact hm_t5
  · have h := sg_ifn hc h
    refine sg_iload_n (pn := 32) (i := 2) dX12_takeCart_31 rfl rfl 2 rfl ?_
    refine sg_goto (tgt := 47) dX12_takeCart_32 (by decide) ?_
    obtain rfl := Option.some.inj h
    refine sg_sub [0, 1] rfl ?_
    exact hm_t5
set_option maxRecDepth 4000 in
theorem gM_takeClause_ok {l : Launch} {D : va_G} {cI cZ : ClassId} {ad : Nat → Nat} {n : Nat} {z : sg_M} {r : Int32 × sg_M} (h : gM_takeClause n z = some r) : sg_Met (eM l D cI cZ ad) yX12_takeClause cX12_takeClause 5 (some .int) 5 [.ref (ad 0)] z (sg_is (some (.int r.1)) r.2) := by
  refine sg_enter (lv0 := [(0, .ref (ad 0))]) pn_X12 (Nat.le_of_ble_eq_true rfl) rfl ?_
  unfold gM_takeClause at h
  refine sg_aload_n (pn := 1) (i := 0) dX12_takeClause_0 rfl rfl 0 rfl ?_
  obtain ⟨r1, h_r1, h⟩ := sg_bind h
  refine sg_callVi (pn := 4) (rest := []) 0 dX12_takeClause_1 rfl kb_X12_98 kv_X12_here (by exact rfl) rfl (Nat.le_of_ble_eq_true rfl) (gM_here_ok h_r1) rfl rfl (Nat.le_of_ble_eq_true rfl) ?_
  refine sg_istore_n (pn := 5) (i := 1) (lv' := [(0, .ref (ad 0)), (1, .int r1.1)]) dX12_takeClause_4 rfl rfl (Nat.le_of_ble_eq_true rfl) [1, 0] rfl ?_
  refine sg_iload_n (pn := 6) (i := 1) dX12_takeClause_5 rfl rfl 1 rfl ?_
  refine sg_bipush (pn := 8) dX12_takeClause_6 rfl ib_114 ?_
  obtain ⟨t2, e_t2, h2⟩ := sg_letJ h
  have hm_t2 : sg_G (eM l D cI cZ ad) yX12_takeClause cX12_takeClause 5 (some .int) 5 36 [(0, .ref (ad 0))] [.int t2] r1.2 (sg_is (some (.int r.1)) r.2) := by
    have h := h2
    refine sg_istore_n (pn := 37) (i := 2) (lv' := [(0, .ref (ad 0)), (2, .int t2)]) dX12_takeClause_36 rfl rfl (Nat.le_of_ble_eq_true rfl) [1, 0] rfl ?_
    refine sg_iload_n (pn := 38) (i := 2) dX12_takeClause_37 rfl rfl 1 rfl ?_
    refine sg_if_lt (pn := 41) (tgt := 52) dX12_takeClause_38 rfl (by decide) (fun hc => ?_) (fun hc => ?_)
    · have h := sg_ifp hc h
      refine sg_aload_n (pn := 53) (i := 0) dX12_takeClause_52 rfl rfl 0 rfl ?_
      refine sg_iconst (pn := 54) dX12_takeClause_53 rfl ic_1 ?_
      refine sg_aload_n (pn := 55) (i := 0) dX12_takeClause_54 rfl rfl 0 rfl ?_
      refine gfM_0_13 (pn := 58) dX12_takeClause_55 rfl lf_X12_95 ?_
      obtain ⟨r3, h_r3, h⟩ := sg_bind h
      refine sg_callVi (pn := 61) (rest := []) 0 dX12_takeClause_58 rfl kb_X12_106 kv_X12_fails (by exact rfl) rfl (Nat.le_of_ble_eq_true rfl) (gM_fails_ok h_r3) rfl rfl (Nat.le_of_ble_eq_true rfl) ?_
      obtain rfl := Option.some.inj h
      exact sg_iret dX12_takeClause_61 rfl ⟨rfl, rfl⟩
    · have h := sg_ifn hc h
      refine sg_iload_n (pn := 42) (i := 2) dX12_takeClause_41 rfl rfl 1 rfl ?_
      refine sg_if_le (pn := 45) (tgt := 62) dX12_takeClause_42 rfl (by decide) (fun hc => ?_) (fun hc => ?_)
      · have h := sg_ifp hc h
        refine sg_iload_n (pn := 63) (i := 2) dX12_takeClause_62 rfl rfl 1 rfl ?_
        obtain ⟨t4, e_t4, h2⟩ := sg_letJ h
        have hm_t4 : sg_G (eM l D cI cZ ad) yX12_takeClause cX12_takeClause 5 (some .int) 5 115 [(0, .ref (ad 0)), (2, .int t2)] [.int t4] r1.2 (sg_is (some (.int r.1)) r.2) := by
          have h := h2
          refine sg_istore_n (pn := 116) (i := 3) (lv' := [(0, .ref (ad 0)), (2, .int t2), (3, .int t4)]) dX12_takeClause_115 rfl rfl (Nat.le_of_ble_eq_true rfl) [1, 2, 0] rfl ?_
          refine sg_iload_n (pn := 117) (i := 3) dX12_takeClause_116 rfl rfl 2 rfl ?_
          refine sg_if_eq (pn := 120) (tgt := 130) dX12_takeClause_117 rfl (by decide) (fun hc => ?_) (fun hc => ?_)
          · have h := sg_ifp hc h
            refine sg_aload_n (pn := 131) (i := 0) dX12_takeClause_130 rfl rfl 0 rfl ?_
            refine sg_dup (pn := 132) dX12_takeClause_131 rfl rfl ?_
            refine gfM_0_13 (pn := 135) dX12_takeClause_132 rfl lf_X12_95 ?_
            refine sg_iconst (pn := 136) dX12_takeClause_135 rfl ic_1 ?_
            refine sg_iadd (pn := 137) dX12_takeClause_136 rfl ?_
            refine pfM_0_13 (pn := 140) dX12_takeClause_137 rfl lf_X12_95 ?_
            obtain ⟨z5, e_z5, h⟩ := sg_letE h
            refine sg_zE e_z5 ?_
            refine sg_iload_n (pn := 141) (i := 2) dX12_takeClause_140 rfl rfl 1 rfl ?_
            obtain ⟨t9, e_t9, h2⟩ := sg_bind h
            have hm_t9 : sg_G (eM l D cI cZ ad) yX12_takeClause cX12_takeClause 5 (some .int) 5 167 [(0, .ref (ad 0))] [.int t9.1] t9.2 (sg_is (some (.int r.1)) r.2) := by
              have h := h2
              refine sg_istore (pn := 169) (i := 4) (lv' := [(0, .ref (ad 0)), (4, .int t9.1)]) dX12_takeClause_167 rfl (Nat.le_of_ble_eq_true rfl) [1, 0] rfl ?_
              refine sg_iload (pn := 171) (i := 4) dX12_takeClause_169 rfl 1 rfl ?_
              refine sg_if_ne (pn := 174) (tgt := 193) dX12_takeClause_171 rfl (by decide) (fun hc => ?_) (fun hc => ?_)
              · have h := sg_ifn hc h
                refine sg_aload_n (pn := 194) (i := 0) dX12_takeClause_193 rfl rfl 0 rfl ?_
                refine sg_dup (pn := 195) dX12_takeClause_194 rfl rfl ?_
                refine gfM_0_13 (pn := 198) dX12_takeClause_195 rfl lf_X12_95 ?_
                refine sg_iconst (pn := 199) dX12_takeClause_198 rfl ic_1 ?_
                refine sg_iadd (pn := 200) dX12_takeClause_199 rfl ?_
                refine pfM_0_13 (pn := 203) dX12_takeClause_200 rfl lf_X12_95 ?_
                obtain ⟨z10, e_z10, h⟩ := sg_letE h
                refine sg_zE e_z10 ?_
                refine sg_iload (pn := 205) (i := 4) dX12_takeClause_203 rfl 1 rfl ?_
                obtain rfl := Option.some.inj h
                exact sg_iret dX12_takeClause_205 rfl ⟨rfl, rfl⟩
              · have h := sg_ifp hc h
                refine sg_aload_n (pn := 175) (i := 0) dX12_takeClause_174 rfl rfl 0 rfl ?_
                obtain ⟨r11, h_r11, h⟩ := sg_bind h
                refine sg_callVi (pn := 178) (rest := []) 0 dX12_takeClause_175 rfl kb_X12_98 kv_X12_here (by exact rfl) rfl (Nat.le_of_ble_eq_true rfl) (gM_here_ok h_r11) rfl rfl (Nat.le_of_ble_eq_true rfl) ?_
                refine sg_bipush (pn := 180) dX12_takeClause_178 rfl ib_59 ?_
                refine sg_icmp_eq (pn := 183) (tgt := 193) dX12_takeClause_180 rfl (by decide) (fun hc => ?_) (fun hc => ?_)
                · have h := sg_ifp hc h
                  refine sg_aload_n (pn := 194) (i := 0) dX12_takeClause_193 rfl rfl 0 rfl ?_
                  refine sg_dup (pn := 195) dX12_takeClause_194 rfl rfl ?_
                  refine gfM_0_13 (pn := 198) dX12_takeClause_195 rfl lf_X12_95 ?_
                  refine sg_iconst (pn := 199) dX12_takeClause_198 rfl ic_1 ?_
                  refine sg_iadd (pn := 200) dX12_takeClause_199 rfl ?_
                  refine pfM_0_13 (pn := 203) dX12_takeClause_200 rfl lf_X12_95 ?_
                  obtain ⟨z12, e_z12, h⟩ := sg_letE h
                  refine sg_zE e_z12 ?_
                  refine sg_iload (pn := 205) (i := 4) dX12_takeClause_203 rfl 1 rfl ?_
                  obtain rfl := Option.some.inj h
                  exact sg_iret dX12_takeClause_205 rfl ⟨rfl, rfl⟩
                · have h := sg_ifn hc h
                  refine sg_aload_n (pn := 184) (i := 0) dX12_takeClause_183 rfl rfl 0 rfl ?_
                  refine sg_iconst (pn := 185) dX12_takeClause_184 rfl ic_1 ?_
                  refine sg_aload_n (pn := 186) (i := 0) dX12_takeClause_185 rfl rfl 0 rfl ?_
                  refine gfM_0_13 (pn := 189) dX12_takeClause_186 rfl lf_X12_95 ?_
                  obtain ⟨r13, h_r13, h⟩ := sg_bind h
                  refine sg_callVi (pn := 192) (rest := []) 0 dX12_takeClause_189 rfl kb_X12_106 kv_X12_fails (by exact rfl) rfl (Nat.le_of_ble_eq_true rfl) (gM_fails_ok h_r13) rfl rfl (Nat.le_of_ble_eq_true rfl) ?_
                  obtain rfl := Option.some.inj h
                  exact sg_iret dX12_takeClause_192 rfl ⟨rfl, rfl⟩
            have h := e_t9
            refine sg_if_ne (pn := 144) (tgt := 151) dX12_takeClause_141 rfl (by decide) (fun hc => ?_) (fun hc => ?_)
            · have h := sg_ifn hc h
              refine sg_iload_n (pn := 152) (i := 2) dX12_takeClause_151 rfl rfl 1 rfl ?_
              refine sg_iconst (pn := 153) dX12_takeClause_152 rfl ic_1 ?_
              refine sg_icmp_ne (pn := 156) (tgt := 163) dX12_takeClause_153 rfl (by decide) (fun hc => ?_) (fun hc => ?_)
              · have h := sg_ifn hc h
                refine sg_aload_n (pn := 164) (i := 0) dX12_takeClause_163 rfl rfl 0 rfl ?_
                obtain ⟨r6, h_r6, h⟩ := sg_bind h
                refine sg_callVi (pn := 167) (rest := []) 0 dX12_takeClause_164 rfl kb_X12_138 kv_X12_takeCart (by exact rfl) rfl (Nat.le_of_ble_eq_true rfl) (gM_takeCart_ok h_r6) rfl rfl (Nat.le_of_ble_eq_true rfl) ?_
                obtain rfl := Option.some.inj h
                refine sg_sub [0] rfl ?_
                exact hm_t9
              · have h := sg_ifp hc h
                refine sg_aload_n (pn := 157) (i := 0) dX12_takeClause_156 rfl rfl 0 rfl ?_
                obtain ⟨r7, h_r7, h⟩ := sg_bind h
                refine sg_callVi (pn := 160) (rest := []) 0 dX12_takeClause_157 rfl kb_X12_135 kv_X12_takeWeather (by exact rfl) rfl (Nat.le_of_ble_eq_true rfl) (gM_takeWeather_ok h_r7) rfl rfl (Nat.le_of_ble_eq_true rfl) ?_
                refine sg_goto (tgt := 167) dX12_takeClause_160 (by decide) ?_
                obtain rfl := Option.some.inj h
                refine sg_sub [0] rfl ?_
                exact hm_t9
            · have h := sg_ifp hc h
              refine sg_aload_n (pn := 145) (i := 0) dX12_takeClause_144 rfl rfl 0 rfl ?_
              obtain ⟨r8, h_r8, h⟩ := sg_bind h
              refine sg_callVi (pn := 148) (rest := []) 0 dX12_takeClause_145 rfl kb_X12_132 kv_X12_takeRoad (by exact rfl) rfl (Nat.le_of_ble_eq_true rfl) (gM_takeRoad_ok h_r8) rfl rfl (Nat.le_of_ble_eq_true rfl) ?_
              refine sg_goto (tgt := 167) dX12_takeClause_148 (by decide) ?_
              obtain rfl := Option.some.inj h
              refine sg_sub [0] rfl ?_
              exact hm_t9
          · have h := sg_ifn hc h
            refine sg_aload_n (pn := 121) (i := 0) dX12_takeClause_120 rfl rfl 0 rfl ?_
            refine sg_iconst (pn := 122) dX12_takeClause_121 rfl ic_3 ?_
            refine sg_aload_n (pn := 123) (i := 0) dX12_takeClause_122 rfl rfl 0 rfl ?_
            refine gfM_0_13 (pn := 126) dX12_takeClause_123 rfl lf_X12_95 ?_
            obtain ⟨r14, h_r14, h⟩ := sg_bind h
            refine sg_callVi (pn := 129) (rest := []) 0 dX12_takeClause_126 rfl kb_X12_106 kv_X12_fails (by exact rfl) rfl (Nat.le_of_ble_eq_true rfl) (gM_fails_ok h_r14) rfl rfl (Nat.le_of_ble_eq_true rfl) ?_
            obtain rfl := Option.some.inj h
            exact sg_iret dX12_takeClause_129 rfl ⟨rfl, rfl⟩
        have h := e_t4
        refine sg_if_ne (pn := 66) (tgt := 81) dX12_takeClause_63 rfl (by decide) (fun hc => ?_) (fun hc => ?_)
        · have h := sg_ifn hc h
          refine sg_iload_n (pn := 82) (i := 2) dX12_takeClause_81 rfl rfl 1 rfl ?_
          refine sg_iconst (pn := 83) dX12_takeClause_82 rfl ic_1 ?_
          refine sg_icmp_ne (pn := 86) (tgt := 101) dX12_takeClause_83 rfl (by decide) (fun hc => ?_) (fun hc => ?_)
          · have h := sg_ifn hc h
            refine sg_aload_n (pn := 102) (i := 0) dX12_takeClause_101 rfl rfl 0 rfl ?_
            refine gfM_0_20 (pn := 105) dX12_takeClause_102 rfl lf_X12_129 ?_
            refine sg_bipush (pn := 107) dX12_takeClause_105 rfl ib_8 ?_
            refine sg_icmp_ne (pn := 110) (tgt := 114) dX12_takeClause_107 rfl (by decide) (fun hc => ?_) (fun hc => ?_)
            · have h := sg_ifn hc h
              refine sg_iconst (pn := 115) dX12_takeClause_114 rfl ic_0 ?_
              subst h
              exact hm_t4
            · have h := sg_ifp hc h
              refine sg_iconst (pn := 111) dX12_takeClause_110 rfl ic_1 ?_
              refine sg_goto (tgt := 115) dX12_takeClause_111 (by decide) ?_
              subst h
              exact hm_t4
          · have h := sg_ifp hc h
            refine sg_aload_n (pn := 87) (i := 0) dX12_takeClause_86 rfl rfl 0 rfl ?_
            refine gfM_0_18 (pn := 90) dX12_takeClause_87 rfl lf_X12_126 ?_
            refine sg_if_le (pn := 93) (tgt := 97) dX12_takeClause_90 rfl (by decide) (fun hc => ?_) (fun hc => ?_)
            · have h := sg_ifp hc h
              refine sg_iconst (pn := 98) dX12_takeClause_97 rfl ic_0 ?_
              refine sg_goto (tgt := 115) dX12_takeClause_98 (by decide) ?_
              subst h
              exact hm_t4
            · have h := sg_ifn hc h
              refine sg_iconst (pn := 94) dX12_takeClause_93 rfl ic_1 ?_
              refine sg_goto (tgt := 115) dX12_takeClause_94 (by decide) ?_
              subst h
              exact hm_t4
        · have h := sg_ifp hc h
          refine sg_aload_n (pn := 67) (i := 0) dX12_takeClause_66 rfl rfl 0 rfl ?_
          refine gfM_0_16 (pn := 70) dX12_takeClause_67 rfl lf_X12_123 ?_
          refine sg_if_le (pn := 73) (tgt := 77) dX12_takeClause_70 rfl (by decide) (fun hc => ?_) (fun hc => ?_)
          · have h := sg_ifp hc h
            refine sg_iconst (pn := 78) dX12_takeClause_77 rfl ic_0 ?_
            refine sg_goto (tgt := 115) dX12_takeClause_78 (by decide) ?_
            subst h
            exact hm_t4
          · have h := sg_ifn hc h
            refine sg_iconst (pn := 74) dX12_takeClause_73 rfl ic_1 ?_
            refine sg_goto (tgt := 115) dX12_takeClause_74 (by decide) ?_
            subst h
            exact hm_t4
      · have h := sg_ifn hc h
        refine sg_aload_n (pn := 46) (i := 0) dX12_takeClause_45 rfl rfl 0 rfl ?_
        refine gfM_0_16 (pn := 49) dX12_takeClause_46 rfl lf_X12_123 ?_
        refine sg_if_ne (pn := 52) (tgt := 62) dX12_takeClause_49 rfl (by decide) (fun hc => ?_) (fun hc => ?_)
        · have h := sg_ifn hc h
          refine sg_iload_n (pn := 63) (i := 2) dX12_takeClause_62 rfl rfl 1 rfl ?_
          obtain ⟨t15, e_t15, h2⟩ := sg_letJ h
          have hm_t15 : sg_G (eM l D cI cZ ad) yX12_takeClause cX12_takeClause 5 (some .int) 5 115 [(0, .ref (ad 0)), (2, .int t2)] [.int t15] r1.2 (sg_is (some (.int r.1)) r.2) := by
            have h := h2
            refine sg_istore_n (pn := 116) (i := 3) (lv' := [(0, .ref (ad 0)), (2, .int t2), (3, .int t15)]) dX12_takeClause_115 rfl rfl (Nat.le_of_ble_eq_true rfl) [1, 2, 0] rfl ?_
            refine sg_iload_n (pn := 117) (i := 3) dX12_takeClause_116 rfl rfl 2 rfl ?_
            refine sg_if_eq (pn := 120) (tgt := 130) dX12_takeClause_117 rfl (by decide) (fun hc => ?_) (fun hc => ?_)
            · have h := sg_ifp hc h
              refine sg_aload_n (pn := 131) (i := 0) dX12_takeClause_130 rfl rfl 0 rfl ?_
              refine sg_dup (pn := 132) dX12_takeClause_131 rfl rfl ?_
              refine gfM_0_13 (pn := 135) dX12_takeClause_132 rfl lf_X12_95 ?_
              refine sg_iconst (pn := 136) dX12_takeClause_135 rfl ic_1 ?_
              refine sg_iadd (pn := 137) dX12_takeClause_136 rfl ?_
              refine pfM_0_13 (pn := 140) dX12_takeClause_137 rfl lf_X12_95 ?_
              obtain ⟨z16, e_z16, h⟩ := sg_letE h
              refine sg_zE e_z16 ?_
              refine sg_iload_n (pn := 141) (i := 2) dX12_takeClause_140 rfl rfl 1 rfl ?_
              obtain ⟨t20, e_t20, h2⟩ := sg_bind h
              have hm_t20 : sg_G (eM l D cI cZ ad) yX12_takeClause cX12_takeClause 5 (some .int) 5 167 [(0, .ref (ad 0))] [.int t20.1] t20.2 (sg_is (some (.int r.1)) r.2) := by
                have h := h2
                refine sg_istore (pn := 169) (i := 4) (lv' := [(0, .ref (ad 0)), (4, .int t20.1)]) dX12_takeClause_167 rfl (Nat.le_of_ble_eq_true rfl) [1, 0] rfl ?_
                refine sg_iload (pn := 171) (i := 4) dX12_takeClause_169 rfl 1 rfl ?_
                refine sg_if_ne (pn := 174) (tgt := 193) dX12_takeClause_171 rfl (by decide) (fun hc => ?_) (fun hc => ?_)
                · have h := sg_ifn hc h
                  refine sg_aload_n (pn := 194) (i := 0) dX12_takeClause_193 rfl rfl 0 rfl ?_
                  refine sg_dup (pn := 195) dX12_takeClause_194 rfl rfl ?_
                  refine gfM_0_13 (pn := 198) dX12_takeClause_195 rfl lf_X12_95 ?_
                  refine sg_iconst (pn := 199) dX12_takeClause_198 rfl ic_1 ?_
                  refine sg_iadd (pn := 200) dX12_takeClause_199 rfl ?_
                  refine pfM_0_13 (pn := 203) dX12_takeClause_200 rfl lf_X12_95 ?_
                  obtain ⟨z21, e_z21, h⟩ := sg_letE h
                  refine sg_zE e_z21 ?_
                  refine sg_iload (pn := 205) (i := 4) dX12_takeClause_203 rfl 1 rfl ?_
                  obtain rfl := Option.some.inj h
                  exact sg_iret dX12_takeClause_205 rfl ⟨rfl, rfl⟩
                · have h := sg_ifp hc h
                  refine sg_aload_n (pn := 175) (i := 0) dX12_takeClause_174 rfl rfl 0 rfl ?_
                  obtain ⟨r22, h_r22, h⟩ := sg_bind h
                  refine sg_callVi (pn := 178) (rest := []) 0 dX12_takeClause_175 rfl kb_X12_98 kv_X12_here (by exact rfl) rfl (Nat.le_of_ble_eq_true rfl) (gM_here_ok h_r22) rfl rfl (Nat.le_of_ble_eq_true rfl) ?_
                  refine sg_bipush (pn := 180) dX12_takeClause_178 rfl ib_59 ?_
                  refine sg_icmp_eq (pn := 183) (tgt := 193) dX12_takeClause_180 rfl (by decide) (fun hc => ?_) (fun hc => ?_)
                  · have h := sg_ifp hc h
                    refine sg_aload_n (pn := 194) (i := 0) dX12_takeClause_193 rfl rfl 0 rfl ?_
                    refine sg_dup (pn := 195) dX12_takeClause_194 rfl rfl ?_
                    refine gfM_0_13 (pn := 198) dX12_takeClause_195 rfl lf_X12_95 ?_
                    refine sg_iconst (pn := 199) dX12_takeClause_198 rfl ic_1 ?_
                    refine sg_iadd (pn := 200) dX12_takeClause_199 rfl ?_
                    refine pfM_0_13 (pn := 203) dX12_takeClause_200 rfl lf_X12_95 ?_
                    obtain ⟨z23, e_z23, h⟩ := sg_letE h
                    refine sg_zE e_z23 ?_
                    refine sg_iload (pn := 205) (i := 4) dX12_takeClause_203 rfl 1 rfl ?_
                    obtain rfl := Option.some.inj h
                    exact sg_iret dX12_takeClause_205 rfl ⟨rfl, rfl⟩
                  · have h := sg_ifn hc h
                    refine sg_aload_n (pn := 184) (i := 0) dX12_takeClause_183 rfl rfl 0 rfl ?_
                    refine sg_iconst (pn := 185) dX12_takeClause_184 rfl ic_1 ?_
                    refine sg_aload_n (pn := 186) (i := 0) dX12_takeClause_185 rfl rfl 0 rfl ?_
                    refine gfM_0_13 (pn := 189) dX12_takeClause_186 rfl lf_X12_95 ?_
                    obtain ⟨r24, h_r24, h⟩ := sg_bind h
                    refine sg_callVi (pn := 192) (rest := []) 0 dX12_takeClause_189 rfl kb_X12_106 kv_X12_fails (by exact rfl) rfl (Nat.le_of_ble_eq_true rfl) (gM_fails_ok h_r24) rfl rfl (Nat.le_of_ble_eq_true rfl) ?_
                    obtain rfl := Option.some.inj h
                    exact sg_iret dX12_takeClause_192 rfl ⟨rfl, rfl⟩
              have h := e_t20
              refine sg_if_ne (pn := 144) (tgt := 151) dX12_takeClause_141 rfl (by decide) (fun hc => ?_) (fun hc => ?_)
              · have h := sg_ifn hc h
                refine sg_iload_n (pn := 152) (i := 2) dX12_takeClause_151 rfl rfl 1 rfl ?_
                refine sg_iconst (pn := 153) dX12_takeClause_152 rfl ic_1 ?_
                refine sg_icmp_ne (pn := 156) (tgt := 163) dX12_takeClause_153 rfl (by decide) (fun hc => ?_) (fun hc => ?_)
                · have h := sg_ifn hc h
                  refine sg_aload_n (pn := 164) (i := 0) dX12_takeClause_163 rfl rfl 0 rfl ?_
                  obtain ⟨r17, h_r17, h⟩ := sg_bind h
                  refine sg_callVi (pn := 167) (rest := []) 0 dX12_takeClause_164 rfl kb_X12_138 kv_X12_takeCart (by exact rfl) rfl (Nat.le_of_ble_eq_true rfl) (gM_takeCart_ok h_r17) rfl rfl (Nat.le_of_ble_eq_true rfl) ?_
                  obtain rfl := Option.some.inj h
                  refine sg_sub [0] rfl ?_
                  exact hm_t20
                · have h := sg_ifp hc h
                  refine sg_aload_n (pn := 157) (i := 0) dX12_takeClause_156 rfl rfl 0 rfl ?_
                  obtain ⟨r18, h_r18, h⟩ := sg_bind h
                  refine sg_callVi (pn := 160) (rest := []) 0 dX12_takeClause_157 rfl kb_X12_135 kv_X12_takeWeather (by exact rfl) rfl (Nat.le_of_ble_eq_true rfl) (gM_takeWeather_ok h_r18) rfl rfl (Nat.le_of_ble_eq_true rfl) ?_
                  refine sg_goto (tgt := 167) dX12_takeClause_160 (by decide) ?_
                  obtain rfl := Option.some.inj h
                  refine sg_sub [0] rfl ?_
                  exact hm_t20
              · have h := sg_ifp hc h
                refine sg_aload_n (pn := 145) (i := 0) dX12_takeClause_144 rfl rfl 0 rfl ?_
                obtain ⟨r19, h_r19, h⟩ := sg_bind h
                refine sg_callVi (pn := 148) (rest := []) 0 dX12_takeClause_145 rfl kb_X12_132 kv_X12_takeRoad (by exact rfl) rfl (Nat.le_of_ble_eq_true rfl) (gM_takeRoad_ok h_r19) rfl rfl (Nat.le_of_ble_eq_true rfl) ?_
                refine sg_goto (tgt := 167) dX12_takeClause_148 (by decide) ?_
                obtain rfl := Option.some.inj h
                refine sg_sub [0] rfl ?_
                exact hm_t20
            · have h := sg_ifn hc h
              refine sg_aload_n (pn := 121) (i := 0) dX12_takeClause_120 rfl rfl 0 rfl ?_
              refine sg_iconst (pn := 122) dX12_takeClause_121 rfl ic_3 ?_
              refine sg_aload_n (pn := 123) (i := 0) dX12_takeClause_122 rfl rfl 0 rfl ?_
              refine gfM_0_13 (pn := 126) dX12_takeClause_123 rfl lf_X12_95 ?_
              obtain ⟨r25, h_r25, h⟩ := sg_bind h
              refine sg_callVi (pn := 129) (rest := []) 0 dX12_takeClause_126 rfl kb_X12_106 kv_X12_fails (by exact rfl) rfl (Nat.le_of_ble_eq_true rfl) (gM_fails_ok h_r25) rfl rfl (Nat.le_of_ble_eq_true rfl) ?_
              obtain rfl := Option.some.inj h
              exact sg_iret dX12_takeClause_129 rfl ⟨rfl, rfl⟩
          have h := e_t15
          refine sg_if_ne (pn := 66) (tgt := 81) dX12_takeClause_63 rfl (by decide) (fun hc => ?_) (fun hc => ?_)
          · have h := sg_ifn hc h
            refine sg_iload_n (pn := 82) (i := 2) dX12_takeClause_81 rfl rfl 1 rfl ?_
            refine sg_iconst (pn := 83) dX12_takeClause_82 rfl ic_1 ?_
            refine sg_icmp_ne (pn := 86) (tgt := 101) dX12_takeClause_83 rfl (by decide) (fun hc => ?_) (fun hc => ?_)
            · have h := sg_ifn hc h
              refine sg_aload_n (pn := 102) (i := 0) dX12_takeClause_101 rfl rfl 0 rfl ?_
              refine gfM_0_20 (pn := 105) dX12_takeClause_102 rfl lf_X12_129 ?_
              refine sg_bipush (pn := 107) dX12_takeClause_105 rfl ib_8 ?_
              refine sg_icmp_ne (pn := 110) (tgt := 114) dX12_takeClause_107 rfl (by decide) (fun hc => ?_) (fun hc => ?_)
              · have h := sg_ifn hc h
                refine sg_iconst (pn := 115) dX12_takeClause_114 rfl ic_0 ?_
                subst h
                exact hm_t15
              · have h := sg_ifp hc h
                refine sg_iconst (pn := 111) dX12_takeClause_110 rfl ic_1 ?_
                refine sg_goto (tgt := 115) dX12_takeClause_111 (by decide) ?_
                subst h
                exact hm_t15
            · have h := sg_ifp hc h
              refine sg_aload_n (pn := 87) (i := 0) dX12_takeClause_86 rfl rfl 0 rfl ?_
              refine gfM_0_18 (pn := 90) dX12_takeClause_87 rfl lf_X12_126 ?_
              refine sg_if_le (pn := 93) (tgt := 97) dX12_takeClause_90 rfl (by decide) (fun hc => ?_) (fun hc => ?_)
              · have h := sg_ifp hc h
                refine sg_iconst (pn := 98) dX12_takeClause_97 rfl ic_0 ?_
                refine sg_goto (tgt := 115) dX12_takeClause_98 (by decide) ?_
                subst h
                exact hm_t15
              · have h := sg_ifn hc h
                refine sg_iconst (pn := 94) dX12_takeClause_93 rfl ic_1 ?_
                refine sg_goto (tgt := 115) dX12_takeClause_94 (by decide) ?_
                subst h
                exact hm_t15
          · have h := sg_ifp hc h
            refine sg_aload_n (pn := 67) (i := 0) dX12_takeClause_66 rfl rfl 0 rfl ?_
            refine gfM_0_16 (pn := 70) dX12_takeClause_67 rfl lf_X12_123 ?_
            refine sg_if_le (pn := 73) (tgt := 77) dX12_takeClause_70 rfl (by decide) (fun hc => ?_) (fun hc => ?_)
            · have h := sg_ifp hc h
              refine sg_iconst (pn := 78) dX12_takeClause_77 rfl ic_0 ?_
              refine sg_goto (tgt := 115) dX12_takeClause_78 (by decide) ?_
              subst h
              exact hm_t15
            · have h := sg_ifn hc h
              refine sg_iconst (pn := 74) dX12_takeClause_73 rfl ic_1 ?_
              refine sg_goto (tgt := 115) dX12_takeClause_74 (by decide) ?_
              subst h
              exact hm_t15
        · have h := sg_ifp hc h
          refine sg_aload_n (pn := 53) (i := 0) dX12_takeClause_52 rfl rfl 0 rfl ?_
          refine sg_iconst (pn := 54) dX12_takeClause_53 rfl ic_1 ?_
          refine sg_aload_n (pn := 55) (i := 0) dX12_takeClause_54 rfl rfl 0 rfl ?_
          refine gfM_0_13 (pn := 58) dX12_takeClause_55 rfl lf_X12_95 ?_
          obtain ⟨r26, h_r26, h⟩ := sg_bind h
          refine sg_callVi (pn := 61) (rest := []) 0 dX12_takeClause_58 rfl kb_X12_106 kv_X12_fails (by exact rfl) rfl (Nat.le_of_ble_eq_true rfl) (gM_fails_ok h_r26) rfl rfl (Nat.le_of_ble_eq_true rfl) ?_
          obtain rfl := Option.some.inj h
          exact sg_iret dX12_takeClause_61 rfl ⟨rfl, rfl⟩
  have h := e_t2
  refine sg_icmp_ne (pn := 11) (tgt := 15) dX12_takeClause_8 rfl (by decide) (fun hc => ?_) (fun hc => ?_)
  · have h := sg_ifn hc h
    refine sg_iload_n (pn := 16) (i := 1) dX12_takeClause_15 rfl rfl 1 rfl ?_
    refine sg_bipush (pn := 18) dX12_takeClause_16 rfl ib_119 ?_
    refine sg_icmp_ne (pn := 21) (tgt := 25) dX12_takeClause_18 rfl (by decide) (fun hc => ?_) (fun hc => ?_)
    · have h := sg_ifn hc h
      refine sg_iload_n (pn := 26) (i := 1) dX12_takeClause_25 rfl rfl 1 rfl ?_
      refine sg_bipush (pn := 28) dX12_takeClause_26 rfl ib_99 ?_
      refine sg_icmp_ne (pn := 31) (tgt := 35) dX12_takeClause_28 rfl (by decide) (fun hc => ?_) (fun hc => ?_)
      · have h := sg_ifn hc h
        refine sg_iconst (pn := 36) dX12_takeClause_35 rfl ic_m1 ?_
        subst h
        refine sg_sub [0] rfl ?_
        exact hm_t2
      · have h := sg_ifp hc h
        refine sg_iconst (pn := 32) dX12_takeClause_31 rfl ic_2 ?_
        refine sg_goto (tgt := 36) dX12_takeClause_32 (by decide) ?_
        subst h
        refine sg_sub [0] rfl ?_
        exact hm_t2
    · have h := sg_ifp hc h
      refine sg_iconst (pn := 22) dX12_takeClause_21 rfl ic_1 ?_
      refine sg_goto (tgt := 36) dX12_takeClause_22 (by decide) ?_
      subst h
      refine sg_sub [0] rfl ?_
      exact hm_t2
  · have h := sg_ifp hc h
    refine sg_iconst (pn := 12) dX12_takeClause_11 rfl ic_0 ?_
    refine sg_goto (tgt := 36) dX12_takeClause_12 (by decide) ?_
    subst h
    refine sg_sub [0] rfl ?_
    exact hm_t2
set_option maxRecDepth 4000 in
theorem gM_copyRow_8_1_L_ok {l : Launch} {D : va_G} {cI cZ : ClassId} {ad : Nat → Nat} : ∀ (n : Nat) (v2 : Int32) (v3 : Int32) (z : sg_M) (r : sg_M), gM_copyRow_8_1_L n v2 v3 z = some r → sg_G (eM l D cI cZ ad) yX12_copyRow cX12_copyRow 4 none 1 2 [(0, .ref (ad 8)), (1, .ref (ad 1)), (2, .int v2), (3, .int v3)] [] z (sg_is none r) := by
  intro n
  induction n with
  | zero => intro v2 v3 z r h; cases h
  | succ n ih =>
    intro v2 v3 z r h
    unfold gM_copyRow_8_1_L at h
    refine sg_iload_n (pn := 3) (i := 3) dX12_copyRow_2 rfl rfl 3 rfl ?_
    refine sg_iload_n (pn := 4) (i := 2) dX12_copyRow_3 rfl rfl 2 rfl ?_
    refine sg_icmp_ge (pn := 7) (tgt := 19) dX12_copyRow_4 rfl (by decide) (fun hc => ?_) (fun hc => ?_)
    · have h := sg_ifp hc h
      obtain rfl := Option.some.inj h
      exact sg_vret dX12_copyRow_19 rfl ⟨rfl, rfl⟩
    · have h := sg_ifn hc h
      refine sg_aload_n (pn := 8) (i := 1) dX12_copyRow_7 rfl rfl 1 rfl ?_
      refine sg_iload_n (pn := 9) (i := 3) dX12_copyRow_8 rfl rfl 3 rfl ?_
      refine sg_aload_n (pn := 10) (i := 0) dX12_copyRow_9 rfl rfl 0 rfl ?_
      refine sg_iload_n (pn := 11) (i := 3) dX12_copyRow_10 rfl rfl 3 rfl ?_
      obtain ⟨hg, h⟩ := sg_guard h
      refine alM_8 (pn := 12) dX12_copyRow_11 rfl (sg_in_vp hg) ?_
      obtain ⟨hg, h⟩ := sg_guard h
      refine asM_1 (pn := 13) dX12_copyRow_12 rfl (sg_in_vp hg) ?_
      obtain ⟨z1, e_z1, h⟩ := sg_letE h
      refine sg_zE e_z1 ?_
      refine sg_iinc (pn := 16) (i := 3) (lv' := [(0, .ref (ad 8)), (1, .ref (ad 1)), (2, .int v2), (3, .int (v3 + (1 : Int32)))]) dX12_copyRow_13 rfl 3 rfl (ii_1 _) (Nat.le_of_ble_eq_true rfl) [1, 2, 3, 0] rfl ?_
      refine sg_goto (tgt := 2) dX12_copyRow_16 (by decide) ?_
      exact ih _ _ _ _ h
set_option maxRecDepth 4000 in
theorem gM_copyRow_8_1_ok {l : Launch} {D : va_G} {cI cZ : ClassId} {ad : Nat → Nat} {n : Nat} {a2 : Int32} {z : sg_M} {r : sg_M} (h : gM_copyRow_8_1 n a2 z = some r) : sg_Met (eM l D cI cZ ad) yX12_copyRow cX12_copyRow 4 none 1 [.ref (ad 8), .ref (ad 1), .int a2] z (sg_is none r) := by
  refine sg_enter (lv0 := [(0, .ref (ad 8)), (1, .ref (ad 1)), (2, .int a2)]) pn_X12 (Nat.le_of_ble_eq_true rfl) rfl ?_
  unfold gM_copyRow_8_1 at h
  refine sg_iconst (pn := 1) dX12_copyRow_0 rfl ic_0 ?_
  refine sg_istore_n (pn := 2) (i := 3) (lv' := [(0, .ref (ad 8)), (1, .ref (ad 1)), (2, .int a2), (3, .int (0 : Int32))]) dX12_copyRow_1 rfl rfl (Nat.le_of_ble_eq_true rfl) [1, 2, 3, 0] rfl ?_
  exact gM_copyRow_8_1_L_ok n _ _ _ _ h
set_option maxRecDepth 4000 in
theorem gM_copyRow_9_2_L_ok {l : Launch} {D : va_G} {cI cZ : ClassId} {ad : Nat → Nat} : ∀ (n : Nat) (v2 : Int32) (v3 : Int32) (z : sg_M) (r : sg_M), gM_copyRow_9_2_L n v2 v3 z = some r → sg_G (eM l D cI cZ ad) yX12_copyRow cX12_copyRow 4 none 1 2 [(0, .ref (ad 9)), (1, .ref (ad 2)), (2, .int v2), (3, .int v3)] [] z (sg_is none r) := by
  intro n
  induction n with
  | zero => intro v2 v3 z r h; cases h
  | succ n ih =>
    intro v2 v3 z r h
    unfold gM_copyRow_9_2_L at h
    refine sg_iload_n (pn := 3) (i := 3) dX12_copyRow_2 rfl rfl 3 rfl ?_
    refine sg_iload_n (pn := 4) (i := 2) dX12_copyRow_3 rfl rfl 2 rfl ?_
    refine sg_icmp_ge (pn := 7) (tgt := 19) dX12_copyRow_4 rfl (by decide) (fun hc => ?_) (fun hc => ?_)
    · have h := sg_ifp hc h
      obtain rfl := Option.some.inj h
      exact sg_vret dX12_copyRow_19 rfl ⟨rfl, rfl⟩
    · have h := sg_ifn hc h
      refine sg_aload_n (pn := 8) (i := 1) dX12_copyRow_7 rfl rfl 1 rfl ?_
      refine sg_iload_n (pn := 9) (i := 3) dX12_copyRow_8 rfl rfl 3 rfl ?_
      refine sg_aload_n (pn := 10) (i := 0) dX12_copyRow_9 rfl rfl 0 rfl ?_
      refine sg_iload_n (pn := 11) (i := 3) dX12_copyRow_10 rfl rfl 3 rfl ?_
      obtain ⟨hg, h⟩ := sg_guard h
      refine alM_9 (pn := 12) dX12_copyRow_11 rfl (sg_in_vp hg) ?_
      obtain ⟨hg, h⟩ := sg_guard h
      refine asM_2 (pn := 13) dX12_copyRow_12 rfl (sg_in_vp hg) ?_
      obtain ⟨z1, e_z1, h⟩ := sg_letE h
      refine sg_zE e_z1 ?_
      refine sg_iinc (pn := 16) (i := 3) (lv' := [(0, .ref (ad 9)), (1, .ref (ad 2)), (2, .int v2), (3, .int (v3 + (1 : Int32)))]) dX12_copyRow_13 rfl 3 rfl (ii_1 _) (Nat.le_of_ble_eq_true rfl) [1, 2, 3, 0] rfl ?_
      refine sg_goto (tgt := 2) dX12_copyRow_16 (by decide) ?_
      exact ih _ _ _ _ h
set_option maxRecDepth 4000 in
theorem gM_copyRow_9_2_ok {l : Launch} {D : va_G} {cI cZ : ClassId} {ad : Nat → Nat} {n : Nat} {a2 : Int32} {z : sg_M} {r : sg_M} (h : gM_copyRow_9_2 n a2 z = some r) : sg_Met (eM l D cI cZ ad) yX12_copyRow cX12_copyRow 4 none 1 [.ref (ad 9), .ref (ad 2), .int a2] z (sg_is none r) := by
  refine sg_enter (lv0 := [(0, .ref (ad 9)), (1, .ref (ad 2)), (2, .int a2)]) pn_X12 (Nat.le_of_ble_eq_true rfl) rfl ?_
  unfold gM_copyRow_9_2 at h
  refine sg_iconst (pn := 1) dX12_copyRow_0 rfl ic_0 ?_
  refine sg_istore_n (pn := 2) (i := 3) (lv' := [(0, .ref (ad 9)), (1, .ref (ad 2)), (2, .int a2), (3, .int (0 : Int32))]) dX12_copyRow_1 rfl rfl (Nat.le_of_ble_eq_true rfl) [1, 2, 3, 0] rfl ?_
  exact gM_copyRow_9_2_L_ok n _ _ _ _ h
set_option maxRecDepth 4000 in
theorem gM_copyRow_10_3_L_ok {l : Launch} {D : va_G} {cI cZ : ClassId} {ad : Nat → Nat} : ∀ (n : Nat) (v2 : Int32) (v3 : Int32) (z : sg_M) (r : sg_M), gM_copyRow_10_3_L n v2 v3 z = some r → sg_G (eM l D cI cZ ad) yX12_copyRow cX12_copyRow 4 none 1 2 [(0, .ref (ad 10)), (1, .ref (ad 3)), (2, .int v2), (3, .int v3)] [] z (sg_is none r) := by
  intro n
  induction n with
  | zero => intro v2 v3 z r h; cases h
  | succ n ih =>
    intro v2 v3 z r h
    unfold gM_copyRow_10_3_L at h
    refine sg_iload_n (pn := 3) (i := 3) dX12_copyRow_2 rfl rfl 3 rfl ?_
    refine sg_iload_n (pn := 4) (i := 2) dX12_copyRow_3 rfl rfl 2 rfl ?_
    refine sg_icmp_ge (pn := 7) (tgt := 19) dX12_copyRow_4 rfl (by decide) (fun hc => ?_) (fun hc => ?_)
    · have h := sg_ifp hc h
      obtain rfl := Option.some.inj h
      exact sg_vret dX12_copyRow_19 rfl ⟨rfl, rfl⟩
    · have h := sg_ifn hc h
      refine sg_aload_n (pn := 8) (i := 1) dX12_copyRow_7 rfl rfl 1 rfl ?_
      refine sg_iload_n (pn := 9) (i := 3) dX12_copyRow_8 rfl rfl 3 rfl ?_
      refine sg_aload_n (pn := 10) (i := 0) dX12_copyRow_9 rfl rfl 0 rfl ?_
      refine sg_iload_n (pn := 11) (i := 3) dX12_copyRow_10 rfl rfl 3 rfl ?_
      obtain ⟨hg, h⟩ := sg_guard h
      refine alM_10 (pn := 12) dX12_copyRow_11 rfl (sg_in_vp hg) ?_
      obtain ⟨hg, h⟩ := sg_guard h
      refine asM_3 (pn := 13) dX12_copyRow_12 rfl (sg_in_vp hg) ?_
      obtain ⟨z1, e_z1, h⟩ := sg_letE h
      refine sg_zE e_z1 ?_
      refine sg_iinc (pn := 16) (i := 3) (lv' := [(0, .ref (ad 10)), (1, .ref (ad 3)), (2, .int v2), (3, .int (v3 + (1 : Int32)))]) dX12_copyRow_13 rfl 3 rfl (ii_1 _) (Nat.le_of_ble_eq_true rfl) [1, 2, 3, 0] rfl ?_
      refine sg_goto (tgt := 2) dX12_copyRow_16 (by decide) ?_
      exact ih _ _ _ _ h
set_option maxRecDepth 4000 in
theorem gM_copyRow_10_3_ok {l : Launch} {D : va_G} {cI cZ : ClassId} {ad : Nat → Nat} {n : Nat} {a2 : Int32} {z : sg_M} {r : sg_M} (h : gM_copyRow_10_3 n a2 z = some r) : sg_Met (eM l D cI cZ ad) yX12_copyRow cX12_copyRow 4 none 1 [.ref (ad 10), .ref (ad 3), .int a2] z (sg_is none r) := by
  refine sg_enter (lv0 := [(0, .ref (ad 10)), (1, .ref (ad 3)), (2, .int a2)]) pn_X12 (Nat.le_of_ble_eq_true rfl) rfl ?_
  unfold gM_copyRow_10_3 at h
  refine sg_iconst (pn := 1) dX12_copyRow_0 rfl ic_0 ?_
  refine sg_istore_n (pn := 2) (i := 3) (lv' := [(0, .ref (ad 10)), (1, .ref (ad 3)), (2, .int a2), (3, .int (0 : Int32))]) dX12_copyRow_1 rfl rfl (Nat.le_of_ble_eq_true rfl) [1, 2, 3, 0] rfl ?_
  exact gM_copyRow_10_3_L_ok n _ _ _ _ h
set_option maxRecDepth 4000 in
theorem gM_copyRow_11_4_L_ok {l : Launch} {D : va_G} {cI cZ : ClassId} {ad : Nat → Nat} : ∀ (n : Nat) (v2 : Int32) (v3 : Int32) (z : sg_M) (r : sg_M), gM_copyRow_11_4_L n v2 v3 z = some r → sg_G (eM l D cI cZ ad) yX12_copyRow cX12_copyRow 4 none 1 2 [(0, .ref (ad 11)), (1, .ref (ad 4)), (2, .int v2), (3, .int v3)] [] z (sg_is none r) := by
  intro n
  induction n with
  | zero => intro v2 v3 z r h; cases h
  | succ n ih =>
    intro v2 v3 z r h
    unfold gM_copyRow_11_4_L at h
    refine sg_iload_n (pn := 3) (i := 3) dX12_copyRow_2 rfl rfl 3 rfl ?_
    refine sg_iload_n (pn := 4) (i := 2) dX12_copyRow_3 rfl rfl 2 rfl ?_
    refine sg_icmp_ge (pn := 7) (tgt := 19) dX12_copyRow_4 rfl (by decide) (fun hc => ?_) (fun hc => ?_)
    · have h := sg_ifp hc h
      obtain rfl := Option.some.inj h
      exact sg_vret dX12_copyRow_19 rfl ⟨rfl, rfl⟩
    · have h := sg_ifn hc h
      refine sg_aload_n (pn := 8) (i := 1) dX12_copyRow_7 rfl rfl 1 rfl ?_
      refine sg_iload_n (pn := 9) (i := 3) dX12_copyRow_8 rfl rfl 3 rfl ?_
      refine sg_aload_n (pn := 10) (i := 0) dX12_copyRow_9 rfl rfl 0 rfl ?_
      refine sg_iload_n (pn := 11) (i := 3) dX12_copyRow_10 rfl rfl 3 rfl ?_
      obtain ⟨hg, h⟩ := sg_guard h
      refine alM_11 (pn := 12) dX12_copyRow_11 rfl (sg_in_vp hg) ?_
      obtain ⟨hg, h⟩ := sg_guard h
      refine asM_4 (pn := 13) dX12_copyRow_12 rfl (sg_in_vp hg) ?_
      obtain ⟨z1, e_z1, h⟩ := sg_letE h
      refine sg_zE e_z1 ?_
      refine sg_iinc (pn := 16) (i := 3) (lv' := [(0, .ref (ad 11)), (1, .ref (ad 4)), (2, .int v2), (3, .int (v3 + (1 : Int32)))]) dX12_copyRow_13 rfl 3 rfl (ii_1 _) (Nat.le_of_ble_eq_true rfl) [1, 2, 3, 0] rfl ?_
      refine sg_goto (tgt := 2) dX12_copyRow_16 (by decide) ?_
      exact ih _ _ _ _ h
set_option maxRecDepth 4000 in
theorem gM_copyRow_11_4_ok {l : Launch} {D : va_G} {cI cZ : ClassId} {ad : Nat → Nat} {n : Nat} {a2 : Int32} {z : sg_M} {r : sg_M} (h : gM_copyRow_11_4 n a2 z = some r) : sg_Met (eM l D cI cZ ad) yX12_copyRow cX12_copyRow 4 none 1 [.ref (ad 11), .ref (ad 4), .int a2] z (sg_is none r) := by
  refine sg_enter (lv0 := [(0, .ref (ad 11)), (1, .ref (ad 4)), (2, .int a2)]) pn_X12 (Nat.le_of_ble_eq_true rfl) rfl ?_
  unfold gM_copyRow_11_4 at h
  refine sg_iconst (pn := 1) dX12_copyRow_0 rfl ic_0 ?_
  refine sg_istore_n (pn := 2) (i := 3) (lv' := [(0, .ref (ad 11)), (1, .ref (ad 4)), (2, .int a2), (3, .int (0 : Int32))]) dX12_copyRow_1 rfl rfl (Nat.le_of_ble_eq_true rfl) [1, 2, 3, 0] rfl ?_
  exact gM_copyRow_11_4_L_ok n _ _ _ _ h
set_option maxRecDepth 4000 in
theorem gM_copyRow_12_5_L_ok {l : Launch} {D : va_G} {cI cZ : ClassId} {ad : Nat → Nat} : ∀ (n : Nat) (v2 : Int32) (v3 : Int32) (z : sg_M) (r : sg_M), gM_copyRow_12_5_L n v2 v3 z = some r → sg_G (eM l D cI cZ ad) yX12_copyRow cX12_copyRow 4 none 1 2 [(0, .ref (ad 12)), (1, .ref (ad 5)), (2, .int v2), (3, .int v3)] [] z (sg_is none r) := by
  intro n
  induction n with
  | zero => intro v2 v3 z r h; cases h
  | succ n ih =>
    intro v2 v3 z r h
    unfold gM_copyRow_12_5_L at h
    refine sg_iload_n (pn := 3) (i := 3) dX12_copyRow_2 rfl rfl 3 rfl ?_
    refine sg_iload_n (pn := 4) (i := 2) dX12_copyRow_3 rfl rfl 2 rfl ?_
    refine sg_icmp_ge (pn := 7) (tgt := 19) dX12_copyRow_4 rfl (by decide) (fun hc => ?_) (fun hc => ?_)
    · have h := sg_ifp hc h
      obtain rfl := Option.some.inj h
      exact sg_vret dX12_copyRow_19 rfl ⟨rfl, rfl⟩
    · have h := sg_ifn hc h
      refine sg_aload_n (pn := 8) (i := 1) dX12_copyRow_7 rfl rfl 1 rfl ?_
      refine sg_iload_n (pn := 9) (i := 3) dX12_copyRow_8 rfl rfl 3 rfl ?_
      refine sg_aload_n (pn := 10) (i := 0) dX12_copyRow_9 rfl rfl 0 rfl ?_
      refine sg_iload_n (pn := 11) (i := 3) dX12_copyRow_10 rfl rfl 3 rfl ?_
      obtain ⟨hg, h⟩ := sg_guard h
      refine alM_12 (pn := 12) dX12_copyRow_11 rfl (sg_in_vp hg) ?_
      obtain ⟨hg, h⟩ := sg_guard h
      refine asM_5 (pn := 13) dX12_copyRow_12 rfl (sg_in_vp hg) ?_
      obtain ⟨z1, e_z1, h⟩ := sg_letE h
      refine sg_zE e_z1 ?_
      refine sg_iinc (pn := 16) (i := 3) (lv' := [(0, .ref (ad 12)), (1, .ref (ad 5)), (2, .int v2), (3, .int (v3 + (1 : Int32)))]) dX12_copyRow_13 rfl 3 rfl (ii_1 _) (Nat.le_of_ble_eq_true rfl) [1, 2, 3, 0] rfl ?_
      refine sg_goto (tgt := 2) dX12_copyRow_16 (by decide) ?_
      exact ih _ _ _ _ h
set_option maxRecDepth 4000 in
theorem gM_copyRow_12_5_ok {l : Launch} {D : va_G} {cI cZ : ClassId} {ad : Nat → Nat} {n : Nat} {a2 : Int32} {z : sg_M} {r : sg_M} (h : gM_copyRow_12_5 n a2 z = some r) : sg_Met (eM l D cI cZ ad) yX12_copyRow cX12_copyRow 4 none 1 [.ref (ad 12), .ref (ad 5), .int a2] z (sg_is none r) := by
  refine sg_enter (lv0 := [(0, .ref (ad 12)), (1, .ref (ad 5)), (2, .int a2)]) pn_X12 (Nat.le_of_ble_eq_true rfl) rfl ?_
  unfold gM_copyRow_12_5 at h
  refine sg_iconst (pn := 1) dX12_copyRow_0 rfl ic_0 ?_
  refine sg_istore_n (pn := 2) (i := 3) (lv' := [(0, .ref (ad 12)), (1, .ref (ad 5)), (2, .int a2), (3, .int (0 : Int32))]) dX12_copyRow_1 rfl rfl (Nat.le_of_ble_eq_true rfl) [1, 2, 3, 0] rfl ?_
  exact gM_copyRow_12_5_L_ok n _ _ _ _ h
