set_option maxRecDepth 4000 in
theorem gM_takeRead_LL_ok {l : Launch} {D : va_G} {cI cZ : ClassId} {ad : Nat → Nat} : ∀ (n : Nat), (∀ (v1 : Int32) (z : sg_M) (r : sg_M), gM_takeRead_LL n 101 v1 z = some r → sg_G (eM l D cI cZ ad) yX12_takeRead cX12_takeRead 2 none 2 101 [(0, .ref (ad 0)), (1, .int v1)] [] z (sg_is none r)) ∧ (∀ (v1 : Int32) (z : sg_M) (r : sg_M), gM_takeRead_LL n 122 v1 z = some r → sg_G (eM l D cI cZ ad) yX12_takeRead cX12_takeRead 2 none 2 122 [(0, .ref (ad 0)), (1, .int v1)] [] z (sg_is none r)) ∧ (∀ (v1 : Int32) (z : sg_M) (r : sg_M), gM_takeRead_LL n 156 v1 z = some r → sg_G (eM l D cI cZ ad) yX12_takeRead cX12_takeRead 2 none 2 156 [(0, .ref (ad 0)), (1, .int v1)] [] z (sg_is none r)) := by
  intro n
  induction n with
  | zero => exact ⟨(fun _ _ _ h => by cases h), (fun _ _ _ h => by cases h), (fun _ _ _ h => by cases h)⟩
  | succ n ih =>
    refine ⟨?_, ?_, ?_⟩
    · intro v1 z r h
      unfold gM_takeRead_LL at h
      have h := sg_ifp (show (101 : Nat) = 101 from rfl) h
      refine sg_iload_n (pn := 102) (i := 1) dX12_takeRead_101 rfl rfl 1 rfl ?_
      refine sg_bipush (pn := 104) dX12_takeRead_102 rfl ib_106 ?_
      refine sg_icmp_ge (pn := 107) (tgt := 120) dX12_takeRead_104 rfl (by decide) (fun hc => ?_) (fun hc => ?_)
      · have h := sg_ifp hc h
        refine sg_iconst (pn := 121) dX12_takeRead_120 rfl ic_0 ?_
        refine sg_istore_n (pn := 122) (i := 1) (lv' := [(0, .ref (ad 0)), (1, .int (0 : Int32))]) dX12_takeRead_121 rfl rfl (Nat.le_of_ble_eq_true rfl) [1, 0] rfl ?_
        exact ih.2.1 _ _ _ h
      · have h := sg_ifn hc h
        refine sg_aload_n (pn := 108) (i := 0) dX12_takeRead_107 rfl rfl 0 rfl ?_
        refine gfM_0_8 (pn := 111) dX12_takeRead_108 rfl lf_X12_25 ?_
        refine sg_iload_n (pn := 112) (i := 1) dX12_takeRead_111 rfl rfl 1 rfl ?_
        refine sg_iconst (pn := 113) dX12_takeRead_112 rfl ic_0 ?_
        obtain ⟨hg, h⟩ := sg_guard h
        refine asM_6 (pn := 114) dX12_takeRead_113 rfl (sg_in_vp hg) ?_
        obtain ⟨z9, e_z9, h⟩ := sg_letE h
        refine sg_zE e_z9 ?_
        refine sg_iinc (pn := 117) (i := 1) (lv' := [(0, .ref (ad 0)), (1, .int (v1 + (1 : Int32)))]) dX12_takeRead_114 rfl 1 rfl (ii_1 _) (Nat.le_of_ble_eq_true rfl) [1, 0] rfl ?_
        refine sg_goto (tgt := 101) dX12_takeRead_117 (by decide) ?_
        exact ih.1 _ _ _ h
    · intro v1 z r h
      unfold gM_takeRead_LL at h
      have h := sg_ifn (show ¬ (122 : Nat) = 101 by decide) h
      have h := sg_ifp (show (122 : Nat) = 122 from rfl) h
      refine sg_iload_n (pn := 123) (i := 1) dX12_takeRead_122 rfl rfl 1 rfl ?_
      refine sg_bipush (pn := 125) dX12_takeRead_123 rfl ib_20 ?_
      refine sg_icmp_ge (pn := 128) (tgt := 154) dX12_takeRead_125 rfl (by decide) (fun hc => ?_) (fun hc => ?_)
      · have h := sg_ifp hc h
        refine sg_iconst (pn := 155) dX12_takeRead_154 rfl ic_0 ?_
        refine sg_istore_n (pn := 156) (i := 1) (lv' := [(0, .ref (ad 0)), (1, .int (0 : Int32))]) dX12_takeRead_155 rfl rfl (Nat.le_of_ble_eq_true rfl) [1, 0] rfl ?_
        exact ih.2.2 _ _ _ h
      · have h := sg_ifn hc h
        refine sg_aload_n (pn := 129) (i := 0) dX12_takeRead_128 rfl rfl 0 rfl ?_
        refine gfM_0_8 (pn := 132) dX12_takeRead_129 rfl lf_X12_25 ?_
        refine sg_bipush (pn := 134) dX12_takeRead_132 rfl ib_20 ?_
        refine sg_iload_n (pn := 135) (i := 1) dX12_takeRead_134 rfl rfl 1 rfl ?_
        refine sg_iadd (pn := 136) dX12_takeRead_135 rfl ?_
        refine sg_iconst (pn := 137) dX12_takeRead_136 rfl ic_m1 ?_
        obtain ⟨hg, h⟩ := sg_guard h
        refine asM_6 (pn := 138) dX12_takeRead_137 rfl (sg_in_vp hg) ?_
        obtain ⟨z10, e_z10, h⟩ := sg_letE h
        refine sg_zE e_z10 ?_
        refine sg_aload_n (pn := 139) (i := 0) dX12_takeRead_138 rfl rfl 0 rfl ?_
        refine gfM_0_8 (pn := 142) dX12_takeRead_139 rfl lf_X12_25 ?_
        refine sg_bipush (pn := 144) dX12_takeRead_142 rfl ib_40 ?_
        refine sg_iload_n (pn := 145) (i := 1) dX12_takeRead_144 rfl rfl 1 rfl ?_
        refine sg_iadd (pn := 146) dX12_takeRead_145 rfl ?_
        refine sg_iconst (pn := 147) dX12_takeRead_146 rfl ic_m1 ?_
        obtain ⟨hg, h⟩ := sg_guard h
        refine asM_6 (pn := 148) dX12_takeRead_147 rfl (sg_in_vp hg) ?_
        obtain ⟨z11, e_z11, h⟩ := sg_letE h
        refine sg_zE e_z11 ?_
        refine sg_iinc (pn := 151) (i := 1) (lv' := [(0, .ref (ad 0)), (1, .int (v1 + (1 : Int32)))]) dX12_takeRead_148 rfl 1 rfl (ii_1 _) (Nat.le_of_ble_eq_true rfl) [1, 0] rfl ?_
        refine sg_goto (tgt := 122) dX12_takeRead_151 (by decide) ?_
        exact ih.2.1 _ _ _ h
    · intro v1 z r h
      unfold gM_takeRead_LL at h
      have h := sg_ifn (show ¬ (156 : Nat) = 101 by decide) h
      have h := sg_ifn (show ¬ (156 : Nat) = 122 by decide) h
      have h := sg_ifp (show (156 : Nat) = 156 from rfl) h
      refine sg_iload_n (pn := 157) (i := 1) dX12_takeRead_156 rfl rfl 1 rfl ?_
      refine sg_bipush (pn := 159) dX12_takeRead_157 rfl ib_8 ?_
      refine sg_icmp_ge (pn := 162) (tgt := 205) dX12_takeRead_159 rfl (by decide) (fun hc => ?_) (fun hc => ?_)
      · have h := sg_ifp hc h
        obtain rfl := Option.some.inj h
        exact sg_vret dX12_takeRead_205 rfl ⟨rfl, rfl⟩
      · have h := sg_ifn hc h
        refine sg_aload_n (pn := 163) (i := 0) dX12_takeRead_162 rfl rfl 0 rfl ?_
        refine gfM_0_8 (pn := 166) dX12_takeRead_163 rfl lf_X12_25 ?_
        refine sg_bipush (pn := 168) dX12_takeRead_166 rfl ib_88 ?_
        refine sg_iload_n (pn := 169) (i := 1) dX12_takeRead_168 rfl rfl 1 rfl ?_
        refine sg_iadd (pn := 170) dX12_takeRead_169 rfl ?_
        refine sg_iconst (pn := 171) dX12_takeRead_170 rfl ic_m1 ?_
        obtain ⟨hg, h⟩ := sg_guard h
        refine asM_6 (pn := 172) dX12_takeRead_171 rfl (sg_in_vp hg) ?_
        obtain ⟨z12, e_z12, h⟩ := sg_letE h
        refine sg_zE e_z12 ?_
        refine sg_aload_n (pn := 173) (i := 0) dX12_takeRead_172 rfl rfl 0 rfl ?_
        refine gfM_0_8 (pn := 176) dX12_takeRead_173 rfl lf_X12_25 ?_
        refine sg_bipush (pn := 178) dX12_takeRead_176 rfl ib_80 ?_
        refine sg_iload_n (pn := 179) (i := 1) dX12_takeRead_178 rfl rfl 1 rfl ?_
        refine sg_iadd (pn := 180) dX12_takeRead_179 rfl ?_
        refine sg_iload_n (pn := 181) (i := 1) dX12_takeRead_180 rfl rfl 1 rfl ?_
        refine sg_aload_n (pn := 182) (i := 0) dX12_takeRead_181 rfl rfl 0 rfl ?_
        refine gfM_0_4 (pn := 185) dX12_takeRead_182 rfl lf_X12_85 ?_
        obtain ⟨t13, e_t13, h2⟩ := sg_bind h
        have hm_t13 : sg_G (eM l D cI cZ ad) yX12_takeRead cX12_takeRead 2 none 2 198 [(0, .ref (ad 0)), (1, .int v1)] [.int t13, .int ((80 : Int32) + v1), .ref (ad 6)] z12 (sg_is none r) := by
          have h := h2
          obtain ⟨hg, h⟩ := sg_guard h
          refine asM_6 (pn := 199) dX12_takeRead_198 rfl (sg_in_vp hg) ?_
          obtain ⟨z14, e_z14, h⟩ := sg_letE h
          refine sg_zE e_z14 ?_
          refine sg_iinc (pn := 202) (i := 1) (lv' := [(0, .ref (ad 0)), (1, .int (v1 + (1 : Int32)))]) dX12_takeRead_199 rfl 1 rfl (ii_1 _) (Nat.le_of_ble_eq_true rfl) [1, 0] rfl ?_
          refine sg_goto (tgt := 156) dX12_takeRead_202 (by decide) ?_
          exact ih.2.2 _ _ _ h
        have h := e_t13
        refine sg_icmp_ge (pn := 188) (tgt := 197) dX12_takeRead_185 rfl (by decide) (fun hc => ?_) (fun hc => ?_)
        · have h := sg_ifp hc h
          refine sg_iconst (pn := 198) dX12_takeRead_197 rfl ic_0 ?_
          obtain rfl := Option.some.inj h
          exact hm_t13
        · have h := sg_ifn hc h
          refine sg_aload_n (pn := 189) (i := 0) dX12_takeRead_188 rfl rfl 0 rfl ?_
          refine gfM_0_6 (pn := 192) dX12_takeRead_189 rfl lf_X12_19 ?_
          refine sg_iload_n (pn := 193) (i := 1) dX12_takeRead_192 rfl rfl 1 rfl ?_
          obtain ⟨hg, h⟩ := sg_guard h
          refine alM_4 (pn := 194) dX12_takeRead_193 rfl (sg_in_vp hg) ?_
          refine sg_goto (tgt := 198) dX12_takeRead_194 (by decide) ?_
          obtain rfl := Option.some.inj h
          exact hm_t13
set_option maxRecDepth 4000 in
theorem gM_takeRead_ok {l : Launch} {D : va_G} {cI cZ : ClassId} {ad : Nat → Nat} {n : Nat} {z : sg_M} {r : sg_M} (h : gM_takeRead n z = some r) : sg_Met (eM l D cI cZ ad) yX12_takeRead cX12_takeRead 2 none 2 [.ref (ad 0)] z (sg_is none r) := by
  refine sg_enter (lv0 := [(0, .ref (ad 0))]) pn_X12 (Nat.le_of_ble_eq_true rfl) rfl ?_
  unfold gM_takeRead at h
  refine sg_aload_n (pn := 1) (i := 0) dX12_takeRead_0 rfl rfl 0 rfl ?_
  refine sg_aload_n (pn := 2) (i := 0) dX12_takeRead_1 rfl rfl 0 rfl ?_
  refine gfM_0_16 (pn := 5) dX12_takeRead_2 rfl lf_X12_123 ?_
  refine pfM_0_0 (pn := 8) dX12_takeRead_5 rfl lf_X12_78 ?_
  obtain ⟨z1, e_z1, h⟩ := sg_letE h
  refine sg_zE e_z1 ?_
  refine sg_aload_n (pn := 9) (i := 0) dX12_takeRead_8 rfl rfl 0 rfl ?_
  refine sg_aload_n (pn := 10) (i := 0) dX12_takeRead_9 rfl rfl 0 rfl ?_
  refine gfM_0_18 (pn := 13) dX12_takeRead_10 rfl lf_X12_126 ?_
  refine pfM_0_2 (pn := 16) dX12_takeRead_13 rfl lf_X12_141 ?_
  obtain ⟨z2, e_z2, h⟩ := sg_letE h
  refine sg_zE e_z2 ?_
  refine sg_aload_n (pn := 17) (i := 0) dX12_takeRead_16 rfl rfl 0 rfl ?_
  refine sg_aload_n (pn := 18) (i := 0) dX12_takeRead_17 rfl rfl 0 rfl ?_
  refine gfM_0_20 (pn := 21) dX12_takeRead_18 rfl lf_X12_129 ?_
  refine pfM_0_4 (pn := 24) dX12_takeRead_21 rfl lf_X12_85 ?_
  obtain ⟨z3, e_z3, h⟩ := sg_letE h
  refine sg_zE e_z3 ?_
  refine sg_aload_n (pn := 25) (i := 0) dX12_takeRead_24 rfl rfl 0 rfl ?_
  refine gfM_0_17 (pn := 28) dX12_takeRead_25 rfl lf_X12_35 ?_
  refine sg_aload_n (pn := 29) (i := 0) dX12_takeRead_28 rfl rfl 0 rfl ?_
  refine gfM_0_1 (pn := 32) dX12_takeRead_29 rfl lf_X12_7 ?_
  refine sg_aload_n (pn := 33) (i := 0) dX12_takeRead_32 rfl rfl 0 rfl ?_
  refine gfM_0_0 (pn := 36) dX12_takeRead_33 rfl lf_X12_78 ?_
  obtain ⟨r4, h_r4, h⟩ := sg_bind h
  refine sg_callSv (pn := 39) (rest := []) dX12_takeRead_36 rfl kb_X12_144 ks_X12_copyRow (Nat.le_of_ble_eq_true rfl) (gM_copyRow_8_1_ok h_r4) rfl rfl (Nat.le_of_ble_eq_true rfl) ?_
  refine sg_aload_n (pn := 40) (i := 0) dX12_takeRead_39 rfl rfl 0 rfl ?_
  refine gfM_0_19 (pn := 43) dX12_takeRead_40 rfl lf_X12_38 ?_
  refine sg_aload_n (pn := 44) (i := 0) dX12_takeRead_43 rfl rfl 0 rfl ?_
  refine gfM_0_3 (pn := 47) dX12_takeRead_44 rfl lf_X12_13 ?_
  refine sg_aload_n (pn := 48) (i := 0) dX12_takeRead_47 rfl rfl 0 rfl ?_
  refine gfM_0_2 (pn := 51) dX12_takeRead_48 rfl lf_X12_141 ?_
  obtain ⟨r5, h_r5, h⟩ := sg_bind h
  refine sg_callSv (pn := 54) (rest := []) dX12_takeRead_51 rfl kb_X12_144 ks_X12_copyRow (Nat.le_of_ble_eq_true rfl) (gM_copyRow_9_2_ok h_r5) rfl rfl (Nat.le_of_ble_eq_true rfl) ?_
  refine sg_aload_n (pn := 55) (i := 0) dX12_takeRead_54 rfl rfl 0 rfl ?_
  refine gfM_0_21 (pn := 58) dX12_takeRead_55 rfl lf_X12_41 ?_
  refine sg_aload_n (pn := 59) (i := 0) dX12_takeRead_58 rfl rfl 0 rfl ?_
  refine gfM_0_5 (pn := 62) dX12_takeRead_59 rfl lf_X12_16 ?_
  refine sg_aload_n (pn := 63) (i := 0) dX12_takeRead_62 rfl rfl 0 rfl ?_
  refine gfM_0_4 (pn := 66) dX12_takeRead_63 rfl lf_X12_85 ?_
  obtain ⟨r6, h_r6, h⟩ := sg_bind h
  refine sg_callSv (pn := 69) (rest := []) dX12_takeRead_66 rfl kb_X12_144 ks_X12_copyRow (Nat.le_of_ble_eq_true rfl) (gM_copyRow_10_3_ok h_r6) rfl rfl (Nat.le_of_ble_eq_true rfl) ?_
  refine sg_aload_n (pn := 70) (i := 0) dX12_takeRead_69 rfl rfl 0 rfl ?_
  refine gfM_0_22 (pn := 73) dX12_takeRead_70 rfl lf_X12_44 ?_
  refine sg_aload_n (pn := 74) (i := 0) dX12_takeRead_73 rfl rfl 0 rfl ?_
  refine gfM_0_6 (pn := 77) dX12_takeRead_74 rfl lf_X12_19 ?_
  refine sg_aload_n (pn := 78) (i := 0) dX12_takeRead_77 rfl rfl 0 rfl ?_
  refine gfM_0_4 (pn := 81) dX12_takeRead_78 rfl lf_X12_85 ?_
  obtain ⟨r7, h_r7, h⟩ := sg_bind h
  refine sg_callSv (pn := 84) (rest := []) dX12_takeRead_81 rfl kb_X12_144 ks_X12_copyRow (Nat.le_of_ble_eq_true rfl) (gM_copyRow_11_4_ok h_r7) rfl rfl (Nat.le_of_ble_eq_true rfl) ?_
  refine sg_aload_n (pn := 85) (i := 0) dX12_takeRead_84 rfl rfl 0 rfl ?_
  refine gfM_0_23 (pn := 88) dX12_takeRead_85 rfl lf_X12_47 ?_
  refine sg_aload_n (pn := 89) (i := 0) dX12_takeRead_88 rfl rfl 0 rfl ?_
  refine gfM_0_7 (pn := 92) dX12_takeRead_89 rfl lf_X12_22 ?_
  refine sg_aload_n (pn := 93) (i := 0) dX12_takeRead_92 rfl rfl 0 rfl ?_
  refine gfM_0_4 (pn := 96) dX12_takeRead_93 rfl lf_X12_85 ?_
  obtain ⟨r8, h_r8, h⟩ := sg_bind h
  refine sg_callSv (pn := 99) (rest := []) dX12_takeRead_96 rfl kb_X12_144 ks_X12_copyRow (Nat.le_of_ble_eq_true rfl) (gM_copyRow_12_5_ok h_r8) rfl rfl (Nat.le_of_ble_eq_true rfl) ?_
  refine sg_iconst (pn := 100) dX12_takeRead_99 rfl ic_0 ?_
  refine sg_istore_n (pn := 101) (i := 1) (lv' := [(0, .ref (ad 0)), (1, .int (0 : Int32))]) dX12_takeRead_100 rfl rfl (Nat.le_of_ble_eq_true rfl) [1, 0] rfl ?_
  exact (gM_takeRead_LL_ok n).1 _ _ _ h
set_option maxRecDepth 4000 in
theorem gM_road_L_ok {l : Launch} {D : va_G} {cI cZ : ClassId} {ad : Nat → Nat} : ∀ (n : Nat) (v1 : Int32) (z : sg_M) (r : Int32 × sg_M), gM_road_L n v1 z = some r → sg_G (eM l D cI cZ ad) yX12_road cX12_road 2 (some .int) 6 27 [(0, .ref (ad 0)), (1, .int v1)] [] z (sg_is (some (.int r.1)) r.2) := by
  intro n
  induction n with
  | zero => intro v1 z r h; cases h
  | succ n ih =>
    intro v1 z r h
    unfold gM_road_L at h
    refine sg_iload_n (pn := 28) (i := 1) dX12_road_27 rfl rfl 1 rfl ?_
    refine sg_if_ne (pn := 31) (tgt := 46) dX12_road_28 rfl (by decide) (fun hc => ?_) (fun hc => ?_)
    · have h := sg_ifn hc h
      refine sg_aload_n (pn := 47) (i := 0) dX12_road_46 rfl rfl 0 rfl ?_
      refine sg_iconst (pn := 48) dX12_road_47 rfl ic_0 ?_
      refine pfM_0_11 (pn := 51) dX12_road_48 rfl lf_X12_91 ?_
      obtain ⟨z6, e_z6, h⟩ := sg_letE h
      refine sg_zE e_z6 ?_
      refine sg_iload_n (pn := 52) (i := 1) dX12_road_51 rfl rfl 1 rfl ?_
      refine sg_if_le (pn := 55) (tgt := 60) dX12_road_52 rfl (by decide) (fun hc => ?_) (fun hc => ?_)
      · have h := sg_ifp hc h
        refine sg_aload_n (pn := 61) (i := 0) dX12_road_60 rfl rfl 0 rfl ?_
        obtain ⟨r7, h_r7, h⟩ := sg_bind h
        refine sg_callVv (pn := 64) (rest := []) 0 dX12_road_61 rfl kb_X12_151 kv_X12_takeRead (by exact rfl) rfl (Nat.le_of_ble_eq_true rfl) (gM_takeRead_ok h_r7) rfl rfl (Nat.le_of_ble_eq_true rfl) ?_
        refine sg_aload_n (pn := 65) (i := 0) dX12_road_64 rfl rfl 0 rfl ?_
        refine sg_iconst (pn := 66) dX12_road_65 rfl ic_0 ?_
        refine pfM_0_27 (pn := 69) dX12_road_66 rfl lf_X12_154 ?_
        obtain ⟨z8, e_z8, h⟩ := sg_letE h
        refine sg_zE e_z8 ?_
        refine sg_aload_n (pn := 70) (i := 0) dX12_road_69 rfl rfl 0 rfl ?_
        refine sg_iconst (pn := 71) dX12_road_70 rfl ic_0 ?_
        refine pfM_0_31 (pn := 74) dX12_road_71 rfl lf_X12_157 ?_
        obtain ⟨z9, e_z9, h⟩ := sg_letE h
        refine sg_zE e_z9 ?_
        refine sg_aload_n (pn := 75) (i := 0) dX12_road_74 rfl rfl 0 rfl ?_
        refine sg_iconst (pn := 76) dX12_road_75 rfl ic_0 ?_
        refine pfM_0_24 (pn := 79) dX12_road_76 rfl lf_X12_160 ?_
        obtain ⟨z10, e_z10, h⟩ := sg_letE h
        refine sg_zE e_z10 ?_
        refine sg_aload_n (pn := 80) (i := 0) dX12_road_79 rfl rfl 0 rfl ?_
        refine gfM_0_35 (pn := 83) dX12_road_80 rfl lf_X12_74 ?_
        refine sg_iconst (pn := 84) dX12_road_83 rfl ic_0 ?_
        refine sg_iconst (pn := 85) dX12_road_84 rfl ic_0 ?_
        refine asM_21 (pn := 86) dX12_road_85 rfl (sg_in_vp (by decide +kernel)) ?_
        obtain ⟨z11, e_z11, h⟩ := sg_letE h
        refine sg_zE e_z11 ?_
        refine sg_aload_n (pn := 87) (i := 0) dX12_road_86 rfl rfl 0 rfl ?_
        refine gfM_0_35 (pn := 90) dX12_road_87 rfl lf_X12_74 ?_
        refine sg_iconst (pn := 91) dX12_road_90 rfl ic_1 ?_
        refine sg_iconst (pn := 92) dX12_road_91 rfl ic_0 ?_
        refine asM_21 (pn := 93) dX12_road_92 rfl (sg_in_vp (by decide +kernel)) ?_
        obtain ⟨z12, e_z12, h⟩ := sg_letE h
        refine sg_zE e_z12 ?_
        refine sg_aload_n (pn := 94) (i := 0) dX12_road_93 rfl rfl 0 rfl ?_
        refine gfM_0_0 (pn := 97) dX12_road_94 rfl lf_X12_78 ?_
        obtain rfl := Option.some.inj h
        exact sg_iret dX12_road_97 rfl ⟨rfl, rfl⟩
      · have h := sg_ifn hc h
        refine sg_bipush (pn := 57) dX12_road_55 rfl ib_m10 ?_
        refine sg_iload_n (pn := 58) (i := 1) dX12_road_57 rfl rfl 1 rfl ?_
        refine sg_isub (pn := 59) dX12_road_58 rfl ?_
        obtain rfl := Option.some.inj h
        exact sg_iret dX12_road_59 rfl ⟨rfl, rfl⟩
    · have h := sg_ifp hc h
      refine sg_aload_n (pn := 32) (i := 0) dX12_road_31 rfl rfl 0 rfl ?_
      obtain ⟨r13, h_r13, h⟩ := sg_bind h
      refine sg_callVi (pn := 35) (rest := []) 0 dX12_road_32 rfl kb_X12_98 kv_X12_here (by exact rfl) rfl (Nat.le_of_ble_eq_true rfl) (gM_here_ok h_r13) rfl rfl (Nat.le_of_ble_eq_true rfl) ?_
      refine sg_if_lt (pn := 38) (tgt := 46) dX12_road_35 rfl (by decide) (fun hc => ?_) (fun hc => ?_)
      · have h := sg_ifp hc h
        refine sg_aload_n (pn := 47) (i := 0) dX12_road_46 rfl rfl 0 rfl ?_
        refine sg_iconst (pn := 48) dX12_road_47 rfl ic_0 ?_
        refine pfM_0_11 (pn := 51) dX12_road_48 rfl lf_X12_91 ?_
        obtain ⟨z14, e_z14, h⟩ := sg_letE h
        refine sg_zE e_z14 ?_
        refine sg_iload_n (pn := 52) (i := 1) dX12_road_51 rfl rfl 1 rfl ?_
        refine sg_if_le (pn := 55) (tgt := 60) dX12_road_52 rfl (by decide) (fun hc => ?_) (fun hc => ?_)
        · have h := sg_ifp hc h
          refine sg_aload_n (pn := 61) (i := 0) dX12_road_60 rfl rfl 0 rfl ?_
          obtain ⟨r15, h_r15, h⟩ := sg_bind h
          refine sg_callVv (pn := 64) (rest := []) 0 dX12_road_61 rfl kb_X12_151 kv_X12_takeRead (by exact rfl) rfl (Nat.le_of_ble_eq_true rfl) (gM_takeRead_ok h_r15) rfl rfl (Nat.le_of_ble_eq_true rfl) ?_
          refine sg_aload_n (pn := 65) (i := 0) dX12_road_64 rfl rfl 0 rfl ?_
          refine sg_iconst (pn := 66) dX12_road_65 rfl ic_0 ?_
          refine pfM_0_27 (pn := 69) dX12_road_66 rfl lf_X12_154 ?_
          obtain ⟨z16, e_z16, h⟩ := sg_letE h
          refine sg_zE e_z16 ?_
          refine sg_aload_n (pn := 70) (i := 0) dX12_road_69 rfl rfl 0 rfl ?_
          refine sg_iconst (pn := 71) dX12_road_70 rfl ic_0 ?_
          refine pfM_0_31 (pn := 74) dX12_road_71 rfl lf_X12_157 ?_
          obtain ⟨z17, e_z17, h⟩ := sg_letE h
          refine sg_zE e_z17 ?_
          refine sg_aload_n (pn := 75) (i := 0) dX12_road_74 rfl rfl 0 rfl ?_
          refine sg_iconst (pn := 76) dX12_road_75 rfl ic_0 ?_
          refine pfM_0_24 (pn := 79) dX12_road_76 rfl lf_X12_160 ?_
          obtain ⟨z18, e_z18, h⟩ := sg_letE h
          refine sg_zE e_z18 ?_
          refine sg_aload_n (pn := 80) (i := 0) dX12_road_79 rfl rfl 0 rfl ?_
          refine gfM_0_35 (pn := 83) dX12_road_80 rfl lf_X12_74 ?_
          refine sg_iconst (pn := 84) dX12_road_83 rfl ic_0 ?_
          refine sg_iconst (pn := 85) dX12_road_84 rfl ic_0 ?_
          refine asM_21 (pn := 86) dX12_road_85 rfl (sg_in_vp (by decide +kernel)) ?_
          obtain ⟨z19, e_z19, h⟩ := sg_letE h
          refine sg_zE e_z19 ?_
          refine sg_aload_n (pn := 87) (i := 0) dX12_road_86 rfl rfl 0 rfl ?_
          refine gfM_0_35 (pn := 90) dX12_road_87 rfl lf_X12_74 ?_
          refine sg_iconst (pn := 91) dX12_road_90 rfl ic_1 ?_
          refine sg_iconst (pn := 92) dX12_road_91 rfl ic_0 ?_
          refine asM_21 (pn := 93) dX12_road_92 rfl (sg_in_vp (by decide +kernel)) ?_
          obtain ⟨z20, e_z20, h⟩ := sg_letE h
          refine sg_zE e_z20 ?_
          refine sg_aload_n (pn := 94) (i := 0) dX12_road_93 rfl rfl 0 rfl ?_
          refine gfM_0_0 (pn := 97) dX12_road_94 rfl lf_X12_78 ?_
          obtain rfl := Option.some.inj h
          exact sg_iret dX12_road_97 rfl ⟨rfl, rfl⟩
        · have h := sg_ifn hc h
          refine sg_bipush (pn := 57) dX12_road_55 rfl ib_m10 ?_
          refine sg_iload_n (pn := 58) (i := 1) dX12_road_57 rfl rfl 1 rfl ?_
          refine sg_isub (pn := 59) dX12_road_58 rfl ?_
          obtain rfl := Option.some.inj h
          exact sg_iret dX12_road_59 rfl ⟨rfl, rfl⟩
      · have h := sg_ifn hc h
        refine sg_aload_n (pn := 39) (i := 0) dX12_road_38 rfl rfl 0 rfl ?_
        obtain ⟨r21, h_r21, h⟩ := sg_bind h
        refine sg_callVi (pn := 42) (rest := []) 0 dX12_road_39 rfl kb_X12_148 kv_X12_takeClause (by exact rfl) rfl (Nat.le_of_ble_eq_true rfl) (gM_takeClause_ok h_r21) rfl rfl (Nat.le_of_ble_eq_true rfl) ?_
        refine sg_istore_n (pn := 43) (i := 1) (lv' := [(0, .ref (ad 0)), (1, .int r21.1)]) dX12_road_42 rfl rfl (Nat.le_of_ble_eq_true rfl) [1, 0] rfl ?_
        refine sg_goto (tgt := 27) dX12_road_43 (by decide) ?_
        exact ih _ _ _ h
set_option maxRecDepth 4000 in
theorem gM_road_ok {l : Launch} {D : va_G} {cI cZ : ClassId} {ad : Nat → Nat} {n : Nat} {z : sg_M} {r : Int32 × sg_M} (h : gM_road n z = some r) : sg_Met (eM l D cI cZ ad) yX12_road cX12_road 2 (some .int) 6 [.ref (ad 0)] z (sg_is (some (.int r.1)) r.2) := by
  refine sg_enter (lv0 := [(0, .ref (ad 0))]) pn_X12 (Nat.le_of_ble_eq_true rfl) rfl ?_
  unfold gM_road at h
  refine sg_aload_n (pn := 1) (i := 0) dX12_road_0 rfl rfl 0 rfl ?_
  refine sg_iconst (pn := 2) dX12_road_1 rfl ic_m1 ?_
  refine pfM_0_12 (pn := 5) dX12_road_2 rfl lf_X12_31 ?_
  obtain ⟨z1, e_z1, h⟩ := sg_letE h
  refine sg_zE e_z1 ?_
  refine sg_aload_n (pn := 6) (i := 0) dX12_road_5 rfl rfl 0 rfl ?_
  refine sg_iconst (pn := 7) dX12_road_6 rfl ic_0 ?_
  refine pfM_0_13 (pn := 10) dX12_road_7 rfl lf_X12_95 ?_
  obtain ⟨z2, e_z2, h⟩ := sg_letE h
  refine sg_zE e_z2 ?_
  refine sg_aload_n (pn := 11) (i := 0) dX12_road_10 rfl rfl 0 rfl ?_
  refine sg_iconst (pn := 12) dX12_road_11 rfl ic_0 ?_
  refine pfM_0_16 (pn := 15) dX12_road_12 rfl lf_X12_123 ?_
  obtain ⟨z3, e_z3, h⟩ := sg_letE h
  refine sg_zE e_z3 ?_
  refine sg_aload_n (pn := 16) (i := 0) dX12_road_15 rfl rfl 0 rfl ?_
  refine sg_iconst (pn := 17) dX12_road_16 rfl ic_0 ?_
  refine pfM_0_18 (pn := 20) dX12_road_17 rfl lf_X12_126 ?_
  obtain ⟨z4, e_z4, h⟩ := sg_letE h
  refine sg_zE e_z4 ?_
  refine sg_aload_n (pn := 21) (i := 0) dX12_road_20 rfl rfl 0 rfl ?_
  refine sg_iconst (pn := 22) dX12_road_21 rfl ic_0 ?_
  refine pfM_0_20 (pn := 25) dX12_road_22 rfl lf_X12_129 ?_
  obtain ⟨z5, e_z5, h⟩ := sg_letE h
  refine sg_zE e_z5 ?_
  refine sg_iconst (pn := 26) dX12_road_25 rfl ic_0 ?_
  refine sg_istore_n (pn := 27) (i := 1) (lv' := [(0, .ref (ad 0)), (1, .int (0 : Int32))]) dX12_road_26 rfl rfl (Nat.le_of_ble_eq_true rfl) [1, 0] rfl ?_
  exact gM_road_L_ok n _ _ _ h
set_option maxRecDepth 4000 in
theorem gM_fault_ok {l : Launch} {D : va_G} {cI cZ : ClassId} {ad : Nat → Nat} {z : sg_M} {r : Int32} (h : gM_fault z = r) : sg_Met (eM l D cI cZ ad) yX12_fault cX12_fault 1 (some .int) 1 [.ref (ad 0)] z (sg_is (some (.int r)) z) := by
  refine sg_enter (lv0 := [(0, .ref (ad 0))]) pn_X12 (Nat.le_of_ble_eq_true rfl) rfl ?_
  unfold gM_fault at h
  refine sg_aload_n (pn := 1) (i := 0) dX12_fault_0 rfl rfl 0 rfl ?_
  refine gfM_0_12 (pn := 4) dX12_fault_1 rfl lf_X12_31 ?_
  subst h
  exact sg_iret dX12_fault_4 rfl ⟨rfl, rfl⟩
set_option maxRecDepth 4000 in
theorem gM_isTown_ok {l : Launch} {D : va_G} {cI cZ : ClassId} {ad : Nat → Nat} {a1 : Int32} {z : sg_M} {r : Int32} (h : gM_isTown a1 z = some r) : sg_Met (eM l D cI cZ ad) yX12_isTown cX12_isTown 2 (some .boolean) 1 [.ref (ad 0), .int a1] z (sg_is (some (.int r)) z) := by
  refine sg_enter (lv0 := [(0, .ref (ad 0)), (1, .int a1)]) pn_X12 (Nat.le_of_ble_eq_true rfl) rfl ?_
  unfold gM_isTown at h
  refine sg_aload_n (pn := 1) (i := 0) dX12_isTown_0 rfl rfl 0 rfl ?_
  refine gfM_0_8 (pn := 4) dX12_isTown_1 rfl lf_X12_25 ?_
  refine sg_bipush (pn := 6) dX12_isTown_4 rfl ib_20 ?_
  refine sg_iload_n (pn := 7) (i := 1) dX12_isTown_6 rfl rfl 1 rfl ?_
  refine sg_iadd (pn := 8) dX12_isTown_7 rfl ?_
  obtain ⟨hg, h⟩ := sg_guard h
  refine alM_6 (pn := 9) dX12_isTown_8 rfl (sg_in_vp hg) ?_
  refine sg_iconst (pn := 10) dX12_isTown_9 rfl ic_m1 ?_
  refine sg_icmp_eq (pn := 13) (tgt := 17) dX12_isTown_10 rfl (by decide) (fun hc => ?_) (fun hc => ?_)
  · have h := sg_ifp hc h
    refine sg_iconst (pn := 18) dX12_isTown_17 rfl ic_0 ?_
    obtain rfl := Option.some.inj h
    exact sg_zret dX12_isTown_18 rfl rfl ⟨rfl, rfl⟩
  · have h := sg_ifn hc h
    refine sg_iconst (pn := 14) dX12_isTown_13 rfl ic_1 ?_
    refine sg_goto (tgt := 18) dX12_isTown_14 (by decide) ?_
    obtain rfl := Option.some.inj h
    exact sg_zret dX12_isTown_18 rfl rfl ⟨rfl, rfl⟩
set_option maxRecDepth 4000 in
theorem gM_allFolk_L_ok {l : Launch} {D : va_G} {cI cZ : ClassId} {ad : Nat → Nat} : ∀ (n : Nat) (v1 : Int32) (v2 : Int32) (z : sg_M) (r : Int32), gM_allFolk_L n v1 v2 z = some r → sg_G (eM l D cI cZ ad) yX12_allFolk cX12_allFolk 3 (some .int) 2 4 [(0, .ref (ad 0)), (1, .int v1), (2, .int v2)] [] z (sg_is (some (.int r)) z) := by
  intro n
  induction n with
  | zero => intro v1 v2 z r h; cases h
  | succ n ih =>
    intro v1 v2 z r h
    unfold gM_allFolk_L at h
    refine sg_iload_n (pn := 5) (i := 2) dX12_allFolk_4 rfl rfl 2 rfl ?_
    refine sg_aload_n (pn := 6) (i := 0) dX12_allFolk_5 rfl rfl 0 rfl ?_
    refine gfM_0_0 (pn := 9) dX12_allFolk_6 rfl lf_X12_78 ?_
    refine sg_icmp_ge (pn := 12) (tgt := 42) dX12_allFolk_9 rfl (by decide) (fun hc => ?_) (fun hc => ?_)
    · have h := sg_ifp hc h
      refine sg_iload_n (pn := 43) (i := 1) dX12_allFolk_42 rfl rfl 1 rfl ?_
      obtain rfl := Option.some.inj h
      exact sg_iret dX12_allFolk_43 rfl ⟨rfl, rfl⟩
    · have h := sg_ifn hc h
      refine sg_iload_n (pn := 13) (i := 1) dX12_allFolk_12 rfl rfl 1 rfl ?_
      refine sg_aload_n (pn := 14) (i := 0) dX12_allFolk_13 rfl rfl 0 rfl ?_
      refine sg_iload_n (pn := 15) (i := 2) dX12_allFolk_14 rfl rfl 2 rfl ?_
      obtain ⟨r1, h_r1, h⟩ := sg_bind h
      refine sg_callVi (pn := 18) (rest := [.int v1]) 0 dX12_allFolk_15 rfl kb_X12_183 kv_X12_isTown (by exact rfl) rfl (Nat.le_of_ble_eq_true rfl) (gM_isTown_ok h_r1) rfl rfl (Nat.le_of_ble_eq_true rfl) ?_
      obtain ⟨t2, e_t2, h2⟩ := sg_bind h
      have hm_t2 : sg_G (eM l D cI cZ ad) yX12_allFolk cX12_allFolk 3 (some .int) 2 34 [(0, .ref (ad 0)), (2, .int v2)] [.int t2, .int v1] z (sg_is (some (.int r)) z) := by
        have h := h2
        refine sg_iadd (pn := 35) dX12_allFolk_34 rfl ?_
        obtain ⟨v1_3, e_v1_3, h⟩ := sg_letE h
        refine sg_topi e_v1_3 ?_
        refine sg_istore_n (pn := 36) (i := 1) (lv' := [(0, .ref (ad 0)), (1, .int v1_3), (2, .int v2)]) dX12_allFolk_35 rfl rfl (Nat.le_of_ble_eq_true rfl) [1, 0, 2] rfl ?_
        refine sg_iinc (pn := 39) (i := 2) (lv' := [(0, .ref (ad 0)), (1, .int v1_3), (2, .int (v2 + (1 : Int32)))]) dX12_allFolk_36 rfl 2 rfl (ii_1 _) (Nat.le_of_ble_eq_true rfl) [1, 2, 0] rfl ?_
        refine sg_goto (tgt := 4) dX12_allFolk_39 (by decide) ?_
        exact ih _ _ _ _ h
      have h := e_t2
      refine sg_if_eq (pn := 21) (tgt := 33) dX12_allFolk_18 rfl (by decide) (fun hc => ?_) (fun hc => ?_)
      · have h := sg_ifp hc h
        refine sg_iconst (pn := 34) dX12_allFolk_33 rfl ic_0 ?_
        obtain rfl := Option.some.inj h
        refine sg_sub [0, 2] rfl ?_
        exact hm_t2
      · have h := sg_ifn hc h
        refine sg_aload_n (pn := 22) (i := 0) dX12_allFolk_21 rfl rfl 0 rfl ?_
        refine gfM_0_8 (pn := 25) dX12_allFolk_22 rfl lf_X12_25 ?_
        refine sg_bipush (pn := 27) dX12_allFolk_25 rfl ib_60 ?_
        refine sg_iload_n (pn := 28) (i := 2) dX12_allFolk_27 rfl rfl 2 rfl ?_
        refine sg_iadd (pn := 29) dX12_allFolk_28 rfl ?_
        obtain ⟨hg, h⟩ := sg_guard h
        refine alM_6 (pn := 30) dX12_allFolk_29 rfl (sg_in_vp hg) ?_
        refine sg_goto (tgt := 34) dX12_allFolk_30 (by decide) ?_
        obtain rfl := Option.some.inj h
        refine sg_sub [0, 2] rfl ?_
        exact hm_t2
set_option maxRecDepth 4000 in
theorem gM_allFolk_ok {l : Launch} {D : va_G} {cI cZ : ClassId} {ad : Nat → Nat} {n : Nat} {z : sg_M} {r : Int32} (h : gM_allFolk n z = some r) : sg_Met (eM l D cI cZ ad) yX12_allFolk cX12_allFolk 3 (some .int) 2 [.ref (ad 0)] z (sg_is (some (.int r)) z) := by
  refine sg_enter (lv0 := [(0, .ref (ad 0))]) pn_X12 (Nat.le_of_ble_eq_true rfl) rfl ?_
  unfold gM_allFolk at h
  refine sg_iconst (pn := 1) dX12_allFolk_0 rfl ic_0 ?_
  refine sg_istore_n (pn := 2) (i := 1) (lv' := [(0, .ref (ad 0)), (1, .int (0 : Int32))]) dX12_allFolk_1 rfl rfl (Nat.le_of_ble_eq_true rfl) [1, 0] rfl ?_
  refine sg_iconst (pn := 3) dX12_allFolk_2 rfl ic_0 ?_
  refine sg_istore_n (pn := 4) (i := 2) (lv' := [(0, .ref (ad 0)), (1, .int (0 : Int32)), (2, .int (0 : Int32))]) dX12_allFolk_3 rfl rfl (Nat.le_of_ble_eq_true rfl) [1, 2, 0] rfl ?_
  exact gM_allFolk_L_ok n _ _ _ _ h
set_option maxRecDepth 4000 in
theorem gM_biggest_L_ok {l : Launch} {D : va_G} {cI cZ : ClassId} {ad : Nat → Nat} : ∀ (n : Nat) (v1 : Int32) (v2 : Int32) (z : sg_M) (r : Int32), gM_biggest_L n v1 v2 z = some r → sg_G (eM l D cI cZ ad) yX12_biggest cX12_biggest 3 (some .int) 2 4 [(0, .ref (ad 0)), (1, .int v1), (2, .int v2)] [] z (sg_is (some (.int r)) z) := by
  intro n
  induction n with
  | zero => intro v1 v2 z r h; cases h
  | succ n ih =>
    intro v1 v2 z r h
    unfold gM_biggest_L at h
    refine sg_iload_n (pn := 5) (i := 2) dX12_biggest_4 rfl rfl 2 rfl ?_
    refine sg_aload_n (pn := 6) (i := 0) dX12_biggest_5 rfl rfl 0 rfl ?_
    refine gfM_0_0 (pn := 9) dX12_biggest_6 rfl lf_X12_78 ?_
    refine sg_icmp_ge (pn := 12) (tgt := 57) dX12_biggest_9 rfl (by decide) (fun hc => ?_) (fun hc => ?_)
    · have h := sg_ifp hc h
      refine sg_iload_n (pn := 58) (i := 1) dX12_biggest_57 rfl rfl 1 rfl ?_
      obtain rfl := Option.some.inj h
      exact sg_iret dX12_biggest_58 rfl ⟨rfl, rfl⟩
    · have h := sg_ifn hc h
      refine sg_aload_n (pn := 13) (i := 0) dX12_biggest_12 rfl rfl 0 rfl ?_
      refine sg_iload_n (pn := 14) (i := 2) dX12_biggest_13 rfl rfl 2 rfl ?_
      obtain ⟨r1, h_r1, h⟩ := sg_bind h
      refine sg_callVi (pn := 17) (rest := []) 0 dX12_biggest_14 rfl kb_X12_183 kv_X12_isTown (by exact rfl) rfl (Nat.le_of_ble_eq_true rfl) (gM_isTown_ok h_r1) rfl rfl (Nat.le_of_ble_eq_true rfl) ?_
      obtain ⟨t2, e_t2, h2⟩ := sg_bind h
      have hm_t2 : sg_G (eM l D cI cZ ad) yX12_biggest cX12_biggest 3 (some .int) 2 50 [(0, .ref (ad 0)), (2, .int v2)] [.int t2] z (sg_is (some (.int r)) z) := by
        have h := h2
        refine sg_istore_n (pn := 51) (i := 1) (lv' := [(0, .ref (ad 0)), (1, .int t2), (2, .int v2)]) dX12_biggest_50 rfl rfl (Nat.le_of_ble_eq_true rfl) [1, 0, 2] rfl ?_
        refine sg_iinc (pn := 54) (i := 2) (lv' := [(0, .ref (ad 0)), (1, .int t2), (2, .int (v2 + (1 : Int32)))]) dX12_biggest_51 rfl 2 rfl (ii_1 _) (Nat.le_of_ble_eq_true rfl) [1, 2, 0] rfl ?_
        refine sg_goto (tgt := 4) dX12_biggest_54 (by decide) ?_
        exact ih _ _ _ _ h
      have h := e_t2
      refine sg_if_eq (pn := 20) (tgt := 49) dX12_biggest_17 rfl (by decide) (fun hc => ?_) (fun hc => ?_)
      · have h := sg_ifp hc h
        refine sg_iload_n (pn := 50) (i := 1) dX12_biggest_49 rfl rfl 1 rfl ?_
        obtain rfl := Option.some.inj h
        refine sg_sub [0, 2] rfl ?_
        exact hm_t2
      · have h := sg_ifn hc h
        refine sg_iload_n (pn := 21) (i := 1) dX12_biggest_20 rfl rfl 1 rfl ?_
        refine sg_if_lt (pn := 24) (tgt := 45) dX12_biggest_21 rfl (by decide) (fun hc => ?_) (fun hc => ?_)
        · have h := sg_ifp hc h
          refine sg_iload_n (pn := 46) (i := 2) dX12_biggest_45 rfl rfl 2 rfl ?_
          refine sg_goto (tgt := 50) dX12_biggest_46 (by decide) ?_
          obtain rfl := Option.some.inj h
          refine sg_sub [0, 2] rfl ?_
          exact hm_t2
        · have h := sg_ifn hc h
          refine sg_aload_n (pn := 25) (i := 0) dX12_biggest_24 rfl rfl 0 rfl ?_
          refine gfM_0_8 (pn := 28) dX12_biggest_25 rfl lf_X12_25 ?_
          refine sg_bipush (pn := 30) dX12_biggest_28 rfl ib_60 ?_
          refine sg_iload_n (pn := 31) (i := 2) dX12_biggest_30 rfl rfl 2 rfl ?_
          refine sg_iadd (pn := 32) dX12_biggest_31 rfl ?_
          obtain ⟨hg, h⟩ := sg_guard h
          refine alM_6 (pn := 33) dX12_biggest_32 rfl (sg_in_vp hg) ?_
          refine sg_aload_n (pn := 34) (i := 0) dX12_biggest_33 rfl rfl 0 rfl ?_
          refine gfM_0_8 (pn := 37) dX12_biggest_34 rfl lf_X12_25 ?_
          refine sg_bipush (pn := 39) dX12_biggest_37 rfl ib_60 ?_
          refine sg_iload_n (pn := 40) (i := 1) dX12_biggest_39 rfl rfl 1 rfl ?_
          refine sg_iadd (pn := 41) dX12_biggest_40 rfl ?_
          obtain ⟨hg, h⟩ := sg_guard h
          refine alM_6 (pn := 42) dX12_biggest_41 rfl (sg_in_vp hg) ?_
          refine sg_icmp_le (pn := 45) (tgt := 49) dX12_biggest_42 rfl (by decide) (fun hc => ?_) (fun hc => ?_)
          · have h := sg_ifp hc h
            refine sg_iload_n (pn := 50) (i := 1) dX12_biggest_49 rfl rfl 1 rfl ?_
            obtain rfl := Option.some.inj h
            refine sg_sub [0, 2] rfl ?_
            exact hm_t2
          · have h := sg_ifn hc h
            refine sg_iload_n (pn := 46) (i := 2) dX12_biggest_45 rfl rfl 2 rfl ?_
            refine sg_goto (tgt := 50) dX12_biggest_46 (by decide) ?_
            obtain rfl := Option.some.inj h
            refine sg_sub [0, 2] rfl ?_
            exact hm_t2
set_option maxRecDepth 4000 in
theorem gM_biggest_ok {l : Launch} {D : va_G} {cI cZ : ClassId} {ad : Nat → Nat} {n : Nat} {z : sg_M} {r : Int32} (h : gM_biggest n z = some r) : sg_Met (eM l D cI cZ ad) yX12_biggest cX12_biggest 3 (some .int) 2 [.ref (ad 0)] z (sg_is (some (.int r)) z) := by
  refine sg_enter (lv0 := [(0, .ref (ad 0))]) pn_X12 (Nat.le_of_ble_eq_true rfl) rfl ?_
  unfold gM_biggest at h
  refine sg_iconst (pn := 1) dX12_biggest_0 rfl ic_m1 ?_
  refine sg_istore_n (pn := 2) (i := 1) (lv' := [(0, .ref (ad 0)), (1, .int (-1 : Int32))]) dX12_biggest_1 rfl rfl (Nat.le_of_ble_eq_true rfl) [1, 0] rfl ?_
  refine sg_iconst (pn := 3) dX12_biggest_2 rfl ic_0 ?_
  refine sg_istore_n (pn := 4) (i := 2) (lv' := [(0, .ref (ad 0)), (1, .int (-1 : Int32)), (2, .int (0 : Int32))]) dX12_biggest_3 rfl rfl (Nat.le_of_ble_eq_true rfl) [1, 2, 0] rfl ?_
  exact gM_biggest_L_ok n _ _ _ _ h
set_option maxRecDepth 4000 in
theorem gM_longest_L_ok {l : Launch} {D : va_G} {cI cZ : ClassId} {ad : Nat → Nat} : ∀ (n : Nat) (v1 : Int32) (v2 : Int32) (v3 : Int32) (z : sg_M) (r : Int32), gM_longest_L n v1 v2 v3 z = some r → sg_G (eM l D cI cZ ad) yX12_longest cX12_longest 4 (some .int) 2 6 [(0, .ref (ad 0)), (1, .int v1), (2, .int v2), (3, .int v3)] [] z (sg_is (some (.int r)) z) := by
  intro n
  induction n with
  | zero => intro v1 v2 v3 z r h; cases h
  | succ n ih =>
    intro v1 v2 v3 z r h
    unfold gM_longest_L at h
    refine sg_iload_n (pn := 7) (i := 3) dX12_longest_6 rfl rfl 3 rfl ?_
    refine sg_aload_n (pn := 8) (i := 0) dX12_longest_7 rfl rfl 0 rfl ?_
    refine gfM_0_0 (pn := 11) dX12_longest_8 rfl lf_X12_78 ?_
    refine sg_icmp_ge (pn := 14) (tgt := 47) dX12_longest_11 rfl (by decide) (fun hc => ?_) (fun hc => ?_)
    · have h := sg_ifp hc h
      refine sg_iload_n (pn := 48) (i := 1) dX12_longest_47 rfl rfl 1 rfl ?_
      obtain rfl := Option.some.inj h
      exact sg_iret dX12_longest_48 rfl ⟨rfl, rfl⟩
    · have h := sg_ifn hc h
      refine sg_aload_n (pn := 15) (i := 0) dX12_longest_14 rfl rfl 0 rfl ?_
      refine sg_iload_n (pn := 16) (i := 3) dX12_longest_15 rfl rfl 3 rfl ?_
      obtain ⟨r1, h_r1, h⟩ := sg_bind h
      refine sg_callVi (pn := 19) (rest := []) 0 dX12_longest_16 rfl kb_X12_183 kv_X12_isTown (by exact rfl) rfl (Nat.le_of_ble_eq_true rfl) (gM_isTown_ok h_r1) rfl rfl (Nat.le_of_ble_eq_true rfl) ?_
      obtain ⟨t2, e_t2, h2⟩ := sg_letJ h
      have hm_t2 : sg_G (eM l D cI cZ ad) yX12_longest cX12_longest 4 (some .int) 2 29 [(0, .ref (ad 0)), (1, .int v1), (3, .int v3)] [.int t2] z (sg_is (some (.int r)) z) := by
        have h := h2
        refine sg_istore_n (pn := 30) (i := 2) (lv' := [(0, .ref (ad 0)), (1, .int v1), (2, .int t2), (3, .int v3)]) dX12_longest_29 rfl rfl (Nat.le_of_ble_eq_true rfl) [1, 2, 0, 3] rfl ?_
        refine sg_iload_n (pn := 31) (i := 2) dX12_longest_30 rfl rfl 2 rfl ?_
        refine sg_iload_n (pn := 32) (i := 1) dX12_longest_31 rfl rfl 1 rfl ?_
        obtain ⟨t3, e_t3, h2⟩ := sg_letJ h
        have hm_t3 : sg_G (eM l D cI cZ ad) yX12_longest cX12_longest 4 (some .int) 2 40 [(0, .ref (ad 0)), (2, .int t2), (3, .int v3)] [.int t3] z (sg_is (some (.int r)) z) := by
          have h := h2
          refine sg_istore_n (pn := 41) (i := 1) (lv' := [(0, .ref (ad 0)), (1, .int t3), (2, .int t2), (3, .int v3)]) dX12_longest_40 rfl rfl (Nat.le_of_ble_eq_true rfl) [1, 0, 2, 3] rfl ?_
          refine sg_iinc (pn := 44) (i := 3) (lv' := [(0, .ref (ad 0)), (1, .int t3), (2, .int t2), (3, .int (v3 + (1 : Int32)))]) dX12_longest_41 rfl 3 rfl (ii_1 _) (Nat.le_of_ble_eq_true rfl) [1, 2, 3, 0] rfl ?_
          refine sg_goto (tgt := 6) dX12_longest_44 (by decide) ?_
          exact ih _ _ _ _ _ h
        have h := e_t3
        refine sg_icmp_le (pn := 35) (tgt := 39) dX12_longest_32 rfl (by decide) (fun hc => ?_) (fun hc => ?_)
        · have h := sg_ifp hc h
          refine sg_iload_n (pn := 40) (i := 1) dX12_longest_39 rfl rfl 1 rfl ?_
          subst h
          refine sg_sub [0, 2, 3] rfl ?_
          exact hm_t3
        · have h := sg_ifn hc h
          refine sg_iload_n (pn := 36) (i := 2) dX12_longest_35 rfl rfl 2 rfl ?_
          refine sg_goto (tgt := 40) dX12_longest_36 (by decide) ?_
          subst h
          refine sg_sub [0, 2, 3] rfl ?_
          exact hm_t3
      have h := e_t2
      refine sg_if_eq (pn := 22) (tgt := 26) dX12_longest_19 rfl (by decide) (fun hc => ?_) (fun hc => ?_)
      · have h := sg_ifp hc h
        refine sg_iload_n (pn := 27) (i := 2) dX12_longest_26 rfl rfl 2 rfl ?_
        refine sg_iconst (pn := 28) dX12_longest_27 rfl ic_1 ?_
        refine sg_iadd (pn := 29) dX12_longest_28 rfl ?_
        subst h
        refine sg_sub [0, 1, 3] rfl ?_
        exact hm_t2
      · have h := sg_ifn hc h
        refine sg_iconst (pn := 23) dX12_longest_22 rfl ic_0 ?_
        refine sg_goto (tgt := 29) dX12_longest_23 (by decide) ?_
        subst h
        refine sg_sub [0, 1, 3] rfl ?_
        exact hm_t2
set_option maxRecDepth 4000 in
theorem gM_longest_ok {l : Launch} {D : va_G} {cI cZ : ClassId} {ad : Nat → Nat} {n : Nat} {z : sg_M} {r : Int32} (h : gM_longest n z = some r) : sg_Met (eM l D cI cZ ad) yX12_longest cX12_longest 4 (some .int) 2 [.ref (ad 0)] z (sg_is (some (.int r)) z) := by
  refine sg_enter (lv0 := [(0, .ref (ad 0))]) pn_X12 (Nat.le_of_ble_eq_true rfl) rfl ?_
  unfold gM_longest at h
  refine sg_iconst (pn := 1) dX12_longest_0 rfl ic_0 ?_
  refine sg_istore_n (pn := 2) (i := 1) (lv' := [(0, .ref (ad 0)), (1, .int (0 : Int32))]) dX12_longest_1 rfl rfl (Nat.le_of_ble_eq_true rfl) [1, 0] rfl ?_
  refine sg_iconst (pn := 3) dX12_longest_2 rfl ic_0 ?_
  refine sg_istore_n (pn := 4) (i := 2) (lv' := [(0, .ref (ad 0)), (1, .int (0 : Int32)), (2, .int (0 : Int32))]) dX12_longest_3 rfl rfl (Nat.le_of_ble_eq_true rfl) [1, 2, 0] rfl ?_
  refine sg_iconst (pn := 5) dX12_longest_4 rfl ic_0 ?_
  refine sg_istore_n (pn := 6) (i := 3) (lv' := [(0, .ref (ad 0)), (1, .int (0 : Int32)), (2, .int (0 : Int32)), (3, .int (0 : Int32))]) dX12_longest_5 rfl rfl (Nat.le_of_ble_eq_true rfl) [1, 2, 3, 0] rfl ?_
  exact gM_longest_L_ok n _ _ _ _ _ h
set_option maxRecDepth 4000 in
theorem gM_towns_L_ok {l : Launch} {D : va_G} {cI cZ : ClassId} {ad : Nat → Nat} : ∀ (n : Nat) (v1 : Int32) (v2 : Int32) (z : sg_M) (r : Int32), gM_towns_L n v1 v2 z = some r → sg_G (eM l D cI cZ ad) yX12_towns cX12_towns 3 (some .int) 2 4 [(0, .ref (ad 0)), (1, .int v1), (2, .int v2)] [] z (sg_is (some (.int r)) z) := by
  intro n
  induction n with
  | zero => intro v1 v2 z r h; cases h
  | succ n ih =>
    intro v1 v2 z r h
    unfold gM_towns_L at h
    refine sg_iload_n (pn := 5) (i := 2) dX12_towns_4 rfl rfl 2 rfl ?_
    refine sg_aload_n (pn := 6) (i := 0) dX12_towns_5 rfl rfl 0 rfl ?_
    refine gfM_0_0 (pn := 9) dX12_towns_6 rfl lf_X12_78 ?_
    refine sg_icmp_ge (pn := 12) (tgt := 36) dX12_towns_9 rfl (by decide) (fun hc => ?_) (fun hc => ?_)
    · have h := sg_ifp hc h
      refine sg_iload_n (pn := 37) (i := 1) dX12_towns_36 rfl rfl 1 rfl ?_
      obtain rfl := Option.some.inj h
      exact sg_iret dX12_towns_37 rfl ⟨rfl, rfl⟩
    · have h := sg_ifn hc h
      refine sg_iload_n (pn := 13) (i := 1) dX12_towns_12 rfl rfl 1 rfl ?_
      refine sg_aload_n (pn := 14) (i := 0) dX12_towns_13 rfl rfl 0 rfl ?_
      refine sg_iload_n (pn := 15) (i := 2) dX12_towns_14 rfl rfl 2 rfl ?_
      obtain ⟨r1, h_r1, h⟩ := sg_bind h
      refine sg_callVi (pn := 18) (rest := [.int v1]) 0 dX12_towns_15 rfl kb_X12_183 kv_X12_isTown (by exact rfl) rfl (Nat.le_of_ble_eq_true rfl) (gM_isTown_ok h_r1) rfl rfl (Nat.le_of_ble_eq_true rfl) ?_
      obtain ⟨t2, e_t2, h2⟩ := sg_letJ h
      have hm_t2 : sg_G (eM l D cI cZ ad) yX12_towns cX12_towns 3 (some .int) 2 28 [(0, .ref (ad 0)), (2, .int v2)] [.int t2, .int v1] z (sg_is (some (.int r)) z) := by
        have h := h2
        refine sg_ior (pn := 29) dX12_towns_28 rfl ?_
        obtain ⟨v1_3, e_v1_3, h⟩ := sg_letE h
        refine sg_topi e_v1_3 ?_
        refine sg_istore_n (pn := 30) (i := 1) (lv' := [(0, .ref (ad 0)), (1, .int v1_3), (2, .int v2)]) dX12_towns_29 rfl rfl (Nat.le_of_ble_eq_true rfl) [1, 0, 2] rfl ?_
        refine sg_iinc (pn := 33) (i := 2) (lv' := [(0, .ref (ad 0)), (1, .int v1_3), (2, .int (v2 + (1 : Int32)))]) dX12_towns_30 rfl 2 rfl (ii_1 _) (Nat.le_of_ble_eq_true rfl) [1, 2, 0] rfl ?_
        refine sg_goto (tgt := 4) dX12_towns_33 (by decide) ?_
        exact ih _ _ _ _ h
      have h := e_t2
      refine sg_if_eq (pn := 21) (tgt := 27) dX12_towns_18 rfl (by decide) (fun hc => ?_) (fun hc => ?_)
      · have h := sg_ifp hc h
        refine sg_iconst (pn := 28) dX12_towns_27 rfl ic_0 ?_
        subst h
        refine sg_sub [0, 2] rfl ?_
        exact hm_t2
      · have h := sg_ifn hc h
        refine sg_iconst (pn := 22) dX12_towns_21 rfl ic_1 ?_
        refine sg_iload_n (pn := 23) (i := 2) dX12_towns_22 rfl rfl 2 rfl ?_
        refine sg_ishl (pn := 24) dX12_towns_23 rfl ?_
        refine sg_goto (tgt := 28) dX12_towns_24 (by decide) ?_
        subst h
        refine sg_sub [0, 2] rfl ?_
        exact hm_t2
set_option maxRecDepth 4000 in
theorem gM_towns_ok {l : Launch} {D : va_G} {cI cZ : ClassId} {ad : Nat → Nat} {n : Nat} {z : sg_M} {r : Int32} (h : gM_towns n z = some r) : sg_Met (eM l D cI cZ ad) yX12_towns cX12_towns 3 (some .int) 2 [.ref (ad 0)] z (sg_is (some (.int r)) z) := by
  refine sg_enter (lv0 := [(0, .ref (ad 0))]) pn_X12 (Nat.le_of_ble_eq_true rfl) rfl ?_
  unfold gM_towns at h
  refine sg_iconst (pn := 1) dX12_towns_0 rfl ic_0 ?_
  refine sg_istore_n (pn := 2) (i := 1) (lv' := [(0, .ref (ad 0)), (1, .int (0 : Int32))]) dX12_towns_1 rfl rfl (Nat.le_of_ble_eq_true rfl) [1, 0] rfl ?_
  refine sg_iconst (pn := 3) dX12_towns_2 rfl ic_0 ?_
  refine sg_istore_n (pn := 4) (i := 2) (lv' := [(0, .ref (ad 0)), (1, .int (0 : Int32)), (2, .int (0 : Int32))]) dX12_towns_3 rfl rfl (Nat.le_of_ble_eq_true rfl) [1, 2, 0] rfl ?_
  exact gM_towns_L_ok n _ _ _ _ h
set_option maxRecDepth 4000 in
theorem gM_has_ok {l : Launch} {D : va_G} {cI cZ : ClassId} {ad : Nat → Nat} {a0 : Int32} {a1 : Int32} {z : sg_M} {r : Int32} (h : gM_has a0 a1 = r) : sg_Met (eM l D cI cZ ad) yX12_has cX12_has 2 (some .boolean) 1 [.int a0, .int a1] z (sg_is (some (.int r)) z) := by
  refine sg_enter (lv0 := [(0, .int a0), (1, .int a1)]) pn_X12 (Nat.le_of_ble_eq_true rfl) rfl ?_
  unfold gM_has at h
  refine sg_iload_n (pn := 1) (i := 0) dX12_has_0 rfl rfl 0 rfl ?_
  refine sg_iload_n (pn := 2) (i := 1) dX12_has_1 rfl rfl 1 rfl ?_
  refine sg_ishr (pn := 3) dX12_has_2 rfl ?_
  refine sg_iconst (pn := 4) dX12_has_3 rfl ic_1 ?_
  refine sg_iand (pn := 5) dX12_has_4 rfl ?_
  refine sg_iconst (pn := 6) dX12_has_5 rfl ic_1 ?_
  refine sg_icmp_ne (pn := 9) (tgt := 13) dX12_has_6 rfl (by decide) (fun hc => ?_) (fun hc => ?_)
  · have h := sg_ifn hc h
    refine sg_iconst (pn := 14) dX12_has_13 rfl ic_0 ?_
    subst h
    exact sg_zret dX12_has_14 rfl rfl ⟨rfl, rfl⟩
  · have h := sg_ifp hc h
    refine sg_iconst (pn := 10) dX12_has_9 rfl ic_1 ?_
    refine sg_goto (tgt := 14) dX12_has_10 (by decide) ?_
    subst h
    exact sg_zret dX12_has_14 rfl rfl ⟨rfl, rfl⟩
set_option maxRecDepth 4000 in
theorem gM_distanceTo_L_ok {l : Launch} {D : va_G} {cI cZ : ClassId} {ad : Nat → Nat} : ∀ (n : Nat) (v1 : Int32) (v2 : Int32) (v3 : Int32) (v4 : Int32) (z : sg_M) (r : Int32), gM_distanceTo_L n v1 v2 v3 v4 z = some r → sg_G (eM l D cI cZ ad) yX12_distanceTo cX12_distanceTo 6 (some .int) 2 6 [(0, .ref (ad 0)), (1, .int v1), (2, .int v2), (3, .int v3), (4, .int v4)] [] z (sg_is (some (.int r)) z) := by
  intro n
  induction n with
  | zero => intro v1 v2 v3 v4 z r h; cases h
  | succ n ih =>
    intro v1 v2 v3 v4 z r h
    unfold gM_distanceTo_L at h
    refine sg_iload (pn := 8) (i := 4) dX12_distanceTo_6 rfl 4 rfl ?_
    refine sg_aload_n (pn := 9) (i := 0) dX12_distanceTo_8 rfl rfl 0 rfl ?_
    refine gfM_0_0 (pn := 12) dX12_distanceTo_9 rfl lf_X12_78 ?_
    refine sg_icmp_ge (pn := 15) (tgt := 62) dX12_distanceTo_12 rfl (by decide) (fun hc => ?_) (fun hc => ?_)
    · have h := sg_ifp hc h
      refine sg_iload_n (pn := 63) (i := 3) dX12_distanceTo_62 rfl rfl 3 rfl ?_
      obtain rfl := Option.some.inj h
      exact sg_iret dX12_distanceTo_63 rfl ⟨rfl, rfl⟩
    · have h := sg_ifn hc h
      refine sg_iload_n (pn := 16) (i := 1) dX12_distanceTo_15 rfl rfl 1 rfl ?_
      refine sg_iload (pn := 18) (i := 4) dX12_distanceTo_16 rfl 4 rfl ?_
      obtain ⟨t1, e_t1, h2⟩ := sg_letJ h
      have hm_t1 : sg_G (eM l D cI cZ ad) yX12_distanceTo cX12_distanceTo 6 (some .int) 2 32 [(0, .ref (ad 0)), (1, .int v1), (2, .int v2), (3, .int v3), (4, .int v4)] [.int t1] z (sg_is (some (.int r)) z) := by
        have h := h2
        refine sg_istore (pn := 34) (i := 5) (lv' := [(0, .ref (ad 0)), (1, .int v1), (2, .int v2), (3, .int v3), (4, .int v4), (5, .int t1)]) dX12_distanceTo_32 rfl (Nat.le_of_ble_eq_true rfl) [1, 2, 3, 4, 5, 0] rfl ?_
        refine sg_iload_n (pn := 35) (i := 2) dX12_distanceTo_34 rfl rfl 2 rfl ?_
        refine sg_iload (pn := 37) (i := 4) dX12_distanceTo_35 rfl 4 rfl ?_
        refine sg_callSi (pn := 40) (rest := []) dX12_distanceTo_37 rfl kb_X12_194 ks_X12_has (Nat.le_of_ble_eq_true rfl) (gM_has_ok rfl) rfl rfl (Nat.le_of_ble_eq_true rfl) ?_
        obtain ⟨t2, e_t2, h2⟩ := sg_letJ h
        have hm_t2 : sg_G (eM l D cI cZ ad) yX12_distanceTo cX12_distanceTo 6 (some .int) 2 55 [(0, .ref (ad 0)), (1, .int v1), (2, .int v2), (4, .int v4)] [.int t2] z (sg_is (some (.int r)) z) := by
          have h := h2
          refine sg_istore_n (pn := 56) (i := 3) (lv' := [(0, .ref (ad 0)), (1, .int v1), (2, .int v2), (3, .int t2), (4, .int v4)]) dX12_distanceTo_55 rfl rfl (Nat.le_of_ble_eq_true rfl) [1, 2, 3, 0, 4] rfl ?_
          refine sg_iinc (pn := 59) (i := 4) (lv' := [(0, .ref (ad 0)), (1, .int v1), (2, .int v2), (3, .int t2), (4, .int (v4 + (1 : Int32)))]) dX12_distanceTo_56 rfl 4 rfl (ii_1 _) (Nat.le_of_ble_eq_true rfl) [1, 2, 3, 4, 0] rfl ?_
          refine sg_goto (tgt := 6) dX12_distanceTo_59 (by decide) ?_
          exact ih _ _ _ _ _ _ h
        have h := e_t2
        refine sg_if_eq (pn := 43) (tgt := 54) dX12_distanceTo_40 rfl (by decide) (fun hc => ?_) (fun hc => ?_)
        · have h := sg_ifp hc h
          refine sg_iload_n (pn := 55) (i := 3) dX12_distanceTo_54 rfl rfl 3 rfl ?_
          subst h
          refine sg_sub [0, 1, 2, 4] rfl ?_
          exact hm_t2
        · have h := sg_ifn hc h
          refine sg_iload (pn := 45) (i := 5) dX12_distanceTo_43 rfl 5 rfl ?_
          refine sg_iload_n (pn := 46) (i := 3) dX12_distanceTo_45 rfl rfl 3 rfl ?_
          refine sg_icmp_ge (pn := 49) (tgt := 54) dX12_distanceTo_46 rfl (by decide) (fun hc => ?_) (fun hc => ?_)
          · have h := sg_ifp hc h
            refine sg_iload_n (pn := 55) (i := 3) dX12_distanceTo_54 rfl rfl 3 rfl ?_
            subst h
            refine sg_sub [0, 1, 2, 4] rfl ?_
            exact hm_t2
          · have h := sg_ifn hc h
            refine sg_iload (pn := 51) (i := 5) dX12_distanceTo_49 rfl 5 rfl ?_
            refine sg_goto (tgt := 55) dX12_distanceTo_51 (by decide) ?_
            subst h
            refine sg_sub [0, 1, 2, 4] rfl ?_
            exact hm_t2
      have h := e_t1
      refine sg_icmp_le (pn := 21) (tgt := 28) dX12_distanceTo_18 rfl (by decide) (fun hc => ?_) (fun hc => ?_)
      · have h := sg_ifp hc h
        refine sg_iload (pn := 30) (i := 4) dX12_distanceTo_28 rfl 4 rfl ?_
        refine sg_iload_n (pn := 31) (i := 1) dX12_distanceTo_30 rfl rfl 1 rfl ?_
        refine sg_isub (pn := 32) dX12_distanceTo_31 rfl ?_
        subst h
        exact hm_t1
      · have h := sg_ifn hc h
        refine sg_iload_n (pn := 22) (i := 1) dX12_distanceTo_21 rfl rfl 1 rfl ?_
        refine sg_iload (pn := 24) (i := 4) dX12_distanceTo_22 rfl 4 rfl ?_
        refine sg_isub (pn := 25) dX12_distanceTo_24 rfl ?_
        refine sg_goto (tgt := 32) dX12_distanceTo_25 (by decide) ?_
        subst h
        exact hm_t1
set_option maxRecDepth 4000 in
theorem gM_distanceTo_ok {l : Launch} {D : va_G} {cI cZ : ClassId} {ad : Nat → Nat} {n : Nat} {a1 : Int32} {a2 : Int32} {z : sg_M} {r : Int32} (h : gM_distanceTo n a1 a2 z = some r) : sg_Met (eM l D cI cZ ad) yX12_distanceTo cX12_distanceTo 6 (some .int) 2 [.ref (ad 0), .int a1, .int a2] z (sg_is (some (.int r)) z) := by
  refine sg_enter (lv0 := [(0, .ref (ad 0)), (1, .int a1), (2, .int a2)]) pn_X12 (Nat.le_of_ble_eq_true rfl) rfl ?_
  unfold gM_distanceTo at h
  refine sg_ldc (pn := 2) dX12_distanceTo_0 rfl kc_X12_193 ?_
  refine sg_istore_n (pn := 3) (i := 3) (lv' := [(0, .ref (ad 0)), (1, .int a1), (2, .int a2), (3, .int (1000000 : Int32))]) dX12_distanceTo_2 rfl rfl (Nat.le_of_ble_eq_true rfl) [1, 2, 3, 0] rfl ?_
  refine sg_iconst (pn := 4) dX12_distanceTo_3 rfl ic_0 ?_
  refine sg_istore (pn := 6) (i := 4) (lv' := [(0, .ref (ad 0)), (1, .int a1), (2, .int a2), (3, .int (1000000 : Int32)), (4, .int (0 : Int32))]) dX12_distanceTo_4 rfl (Nat.le_of_ble_eq_true rfl) [1, 2, 3, 4, 0] rfl ?_
  exact gM_distanceTo_L_ok n _ _ _ _ _ _ h
set_option maxRecDepth 4000 in
theorem gM_farOf_L_ok {l : Launch} {D : va_G} {cI cZ : ClassId} {ad : Nat → Nat} : ∀ (n : Nat) (v1 : Int32) (v2 : Int32) (z : sg_M) (r : Int32), gM_farOf_L n v1 v2 z = some r → sg_G (eM l D cI cZ ad) yX12_farOf cX12_farOf 4 (some .int) 3 4 [(0, .ref (ad 0)), (1, .int v1), (2, .int v2)] [] z (sg_is (some (.int r)) z) := by
  intro n
  induction n with
  | zero => intro v1 v2 z r h; cases h
  | succ n ih =>
    intro v1 v2 z r h
    unfold gM_farOf_L at h
    refine sg_iload_n (pn := 5) (i := 2) dX12_farOf_4 rfl rfl 2 rfl ?_
    refine sg_aload_n (pn := 6) (i := 0) dX12_farOf_5 rfl rfl 0 rfl ?_
    refine gfM_0_0 (pn := 9) dX12_farOf_6 rfl lf_X12_78 ?_
    refine sg_icmp_ge (pn := 12) (tgt := 46) dX12_farOf_9 rfl (by decide) (fun hc => ?_) (fun hc => ?_)
    · have h := sg_ifp hc h
      refine sg_iload_n (pn := 47) (i := 1) dX12_farOf_46 rfl rfl 1 rfl ?_
      obtain rfl := Option.some.inj h
      exact sg_iret dX12_farOf_47 rfl ⟨rfl, rfl⟩
    · have h := sg_ifn hc h
      refine sg_aload_n (pn := 13) (i := 0) dX12_farOf_12 rfl rfl 0 rfl ?_
      obtain ⟨r1, h_r1, h⟩ := sg_bind h
      refine sg_callVi (pn := 16) (rest := []) 0 dX12_farOf_13 rfl kb_X12_198 kv_X12_towns (by exact rfl) rfl (Nat.le_of_ble_eq_true rfl) (gM_towns_ok h_r1) rfl rfl (Nat.le_of_ble_eq_true rfl) ?_
      refine sg_if_eq (pn := 19) (tgt := 46) dX12_farOf_16 rfl (by decide) (fun hc => ?_) (fun hc => ?_)
      · have h := sg_ifp hc h
        refine sg_iload_n (pn := 47) (i := 1) dX12_farOf_46 rfl rfl 1 rfl ?_
        obtain rfl := Option.some.inj h
        exact sg_iret dX12_farOf_47 rfl ⟨rfl, rfl⟩
      · have h := sg_ifn hc h
        refine sg_aload_n (pn := 20) (i := 0) dX12_farOf_19 rfl rfl 0 rfl ?_
        refine sg_iload_n (pn := 21) (i := 2) dX12_farOf_20 rfl rfl 2 rfl ?_
        refine sg_aload_n (pn := 22) (i := 0) dX12_farOf_21 rfl rfl 0 rfl ?_
        obtain ⟨r2, h_r2, h⟩ := sg_bind h
        refine sg_callVi (pn := 25) (rest := [.int v2, .ref (ad 0)]) 0 dX12_farOf_22 rfl kb_X12_198 kv_X12_towns (by exact rfl) rfl (Nat.le_of_ble_eq_true rfl) (gM_towns_ok h_r2) rfl rfl (Nat.le_of_ble_eq_true rfl) ?_
        obtain ⟨r3, h_r3, h⟩ := sg_bind h
        refine sg_callVi (pn := 28) (rest := []) 0 dX12_farOf_25 rfl kb_X12_201 kv_X12_distanceTo (by exact rfl) rfl (Nat.le_of_ble_eq_true rfl) (gM_distanceTo_ok h_r3) rfl rfl (Nat.le_of_ble_eq_true rfl) ?_
        refine sg_istore_n (pn := 29) (i := 3) (lv' := [(0, .ref (ad 0)), (1, .int v1), (2, .int v2), (3, .int r3)]) dX12_farOf_28 rfl rfl (Nat.le_of_ble_eq_true rfl) [1, 2, 3, 0] rfl ?_
        refine sg_iload_n (pn := 30) (i := 3) dX12_farOf_29 rfl rfl 3 rfl ?_
        refine sg_iload_n (pn := 31) (i := 1) dX12_farOf_30 rfl rfl 1 rfl ?_
        obtain ⟨t4, e_t4, h2⟩ := sg_letJ h
        have hm_t4 : sg_G (eM l D cI cZ ad) yX12_farOf cX12_farOf 4 (some .int) 3 39 [(0, .ref (ad 0)), (2, .int v2)] [.int t4] z (sg_is (some (.int r)) z) := by
          have h := h2
          refine sg_istore_n (pn := 40) (i := 1) (lv' := [(0, .ref (ad 0)), (1, .int t4), (2, .int v2)]) dX12_farOf_39 rfl rfl (Nat.le_of_ble_eq_true rfl) [1, 0, 2] rfl ?_
          refine sg_iinc (pn := 43) (i := 2) (lv' := [(0, .ref (ad 0)), (1, .int t4), (2, .int (v2 + (1 : Int32)))]) dX12_farOf_40 rfl 2 rfl (ii_1 _) (Nat.le_of_ble_eq_true rfl) [1, 2, 0] rfl ?_
          refine sg_goto (tgt := 4) dX12_farOf_43 (by decide) ?_
          exact ih _ _ _ _ h
        have h := e_t4
        refine sg_icmp_le (pn := 34) (tgt := 38) dX12_farOf_31 rfl (by decide) (fun hc => ?_) (fun hc => ?_)
        · have h := sg_ifp hc h
          refine sg_iload_n (pn := 39) (i := 1) dX12_farOf_38 rfl rfl 1 rfl ?_
          subst h
          refine sg_sub [0, 2] rfl ?_
          exact hm_t4
        · have h := sg_ifn hc h
          refine sg_iload_n (pn := 35) (i := 3) dX12_farOf_34 rfl rfl 3 rfl ?_
          refine sg_goto (tgt := 39) dX12_farOf_35 (by decide) ?_
          subst h
          refine sg_sub [0, 2] rfl ?_
          exact hm_t4
set_option maxRecDepth 4000 in
theorem gM_farOf_ok {l : Launch} {D : va_G} {cI cZ : ClassId} {ad : Nat → Nat} {n : Nat} {z : sg_M} {r : Int32} (h : gM_farOf n z = some r) : sg_Met (eM l D cI cZ ad) yX12_farOf cX12_farOf 4 (some .int) 3 [.ref (ad 0)] z (sg_is (some (.int r)) z) := by
  refine sg_enter (lv0 := [(0, .ref (ad 0))]) pn_X12 (Nat.le_of_ble_eq_true rfl) rfl ?_
  unfold gM_farOf at h
  refine sg_iconst (pn := 1) dX12_farOf_0 rfl ic_m1 ?_
  refine sg_istore_n (pn := 2) (i := 1) (lv' := [(0, .ref (ad 0)), (1, .int (-1 : Int32))]) dX12_farOf_1 rfl rfl (Nat.le_of_ble_eq_true rfl) [1, 0] rfl ?_
  refine sg_iconst (pn := 3) dX12_farOf_2 rfl ic_0 ?_
  refine sg_istore_n (pn := 4) (i := 2) (lv' := [(0, .ref (ad 0)), (1, .int (-1 : Int32)), (2, .int (0 : Int32))]) dX12_farOf_3 rfl rfl (Nat.le_of_ble_eq_true rfl) [1, 2, 0] rfl ?_
  exact gM_farOf_L_ok n _ _ _ _ h
set_option maxRecDepth 4000 in
theorem gM_weatherOf_ok {l : Launch} {D : va_G} {cI cZ : ClassId} {ad : Nat → Nat} {a1 : Int32} {z : sg_M} {r : Int32} (h : gM_weatherOf a1 z = some r) : sg_Met (eM l D cI cZ ad) yX12_weatherOf cX12_weatherOf 2 (some .int) 1 [.ref (ad 0), .int a1] z (sg_is (some (.int r)) z) := by
  refine sg_enter (lv0 := [(0, .ref (ad 0)), (1, .int a1)]) pn_X12 (Nat.le_of_ble_eq_true rfl) rfl ?_
  unfold gM_weatherOf at h
  refine sg_aload_n (pn := 1) (i := 0) dX12_weatherOf_0 rfl rfl 0 rfl ?_
  refine gfM_0_2 (pn := 4) dX12_weatherOf_1 rfl lf_X12_141 ?_
  refine sg_if_ne (pn := 7) (tgt := 11) dX12_weatherOf_4 rfl (by decide) (fun hc => ?_) (fun hc => ?_)
  · have h := sg_ifn hc h
    refine sg_aload_n (pn := 12) (i := 0) dX12_weatherOf_11 rfl rfl 0 rfl ?_
    refine gfM_0_3 (pn := 15) dX12_weatherOf_12 rfl lf_X12_13 ?_
    refine sg_iload_n (pn := 16) (i := 1) dX12_weatherOf_15 rfl rfl 1 rfl ?_
    refine sg_aload_n (pn := 17) (i := 0) dX12_weatherOf_16 rfl rfl 0 rfl ?_
    refine gfM_0_2 (pn := 20) dX12_weatherOf_17 rfl lf_X12_141 ?_
    obtain ⟨hg, h⟩ := sg_nz h
    refine sg_irem (pn := 21) dX12_weatherOf_20 rfl hg ?_
    obtain ⟨hg, h⟩ := sg_guard h
    refine alM_2 (pn := 22) dX12_weatherOf_21 rfl (sg_in_vp hg) ?_
    obtain rfl := Option.some.inj h
    exact sg_iret dX12_weatherOf_22 rfl ⟨rfl, rfl⟩
  · have h := sg_ifp hc h
    refine sg_iconst (pn := 8) dX12_weatherOf_7 rfl ic_5 ?_
    refine sg_goto (tgt := 22) dX12_weatherOf_8 (by decide) ?_
    obtain rfl := Option.some.inj h
    exact sg_iret dX12_weatherOf_22 rfl ⟨rfl, rfl⟩
set_option maxRecDepth 4000 in
theorem gM_wetBehind_L_ok {l : Launch} {D : va_G} {cI cZ : ClassId} {ad : Nat → Nat} : ∀ (n : Nat) (v1 : Int32) (v2 : Int32) (v3 : Int32) (z : sg_M) (r : Int32), gM_wetBehind_L n v1 v2 v3 z = some r → sg_G (eM l D cI cZ ad) yX12_wetBehind cX12_wetBehind 4 (some .int) 2 10 [(0, .ref (ad 0)), (1, .int v1), (2, .int v2), (3, .int v3)] [] z (sg_is (some (.int r)) z) := by
  intro n
  induction n with
  | zero => intro v1 v2 v3 z r h; cases h
  | succ n ih =>
    intro v1 v2 v3 z r h
    unfold gM_wetBehind_L at h
    refine sg_iload_n (pn := 11) (i := 3) dX12_wetBehind_10 rfl rfl 3 rfl ?_
    refine sg_iload_n (pn := 12) (i := 1) dX12_wetBehind_11 rfl rfl 1 rfl ?_
    refine sg_icmp_ge (pn := 15) (tgt := 29) dX12_wetBehind_12 rfl (by decide) (fun hc => ?_) (fun hc => ?_)
    · have h := sg_ifp hc h
      refine sg_aload_n (pn := 30) (i := 0) dX12_wetBehind_29 rfl rfl 0 rfl ?_
      refine sg_aload_n (pn := 31) (i := 0) dX12_wetBehind_30 rfl rfl 0 rfl ?_
      refine gfM_0_8 (pn := 34) dX12_wetBehind_31 rfl lf_X12_25 ?_
      refine sg_bipush (pn := 36) dX12_wetBehind_34 rfl ib_104 ?_
      refine alM_6 (pn := 37) dX12_wetBehind_36 rfl (sg_in_vp (by decide +kernel)) ?_
      refine sg_iload_n (pn := 38) (i := 1) dX12_wetBehind_37 rfl rfl 1 rfl ?_
      refine sg_iadd (pn := 39) dX12_wetBehind_38 rfl ?_
      obtain ⟨r2, h_r2, h⟩ := sg_bind h
      refine sg_callVi (pn := 42) (rest := []) 0 dX12_wetBehind_39 rfl kb_X12_163 kv_X12_weatherOf (by exact rfl) rfl (Nat.le_of_ble_eq_true rfl) (gM_weatherOf_ok h_r2) rfl rfl (Nat.le_of_ble_eq_true rfl) ?_
      refine sg_iload_n (pn := 43) (i := 2) dX12_wetBehind_42 rfl rfl 2 rfl ?_
      refine sg_iadd (pn := 44) dX12_wetBehind_43 rfl ?_
      obtain rfl := Option.some.inj h
      exact sg_iret dX12_wetBehind_44 rfl ⟨rfl, rfl⟩
    · have h := sg_ifn hc h
      refine sg_iload_n (pn := 16) (i := 2) dX12_wetBehind_15 rfl rfl 2 rfl ?_
      refine sg_if_le (pn := 19) (tgt := 29) dX12_wetBehind_16 rfl (by decide) (fun hc => ?_) (fun hc => ?_)
      · have h := sg_ifp hc h
        refine sg_aload_n (pn := 30) (i := 0) dX12_wetBehind_29 rfl rfl 0 rfl ?_
        refine sg_aload_n (pn := 31) (i := 0) dX12_wetBehind_30 rfl rfl 0 rfl ?_
        refine gfM_0_8 (pn := 34) dX12_wetBehind_31 rfl lf_X12_25 ?_
        refine sg_bipush (pn := 36) dX12_wetBehind_34 rfl ib_104 ?_
        refine alM_6 (pn := 37) dX12_wetBehind_36 rfl (sg_in_vp (by decide +kernel)) ?_
        refine sg_iload_n (pn := 38) (i := 1) dX12_wetBehind_37 rfl rfl 1 rfl ?_
        refine sg_iadd (pn := 39) dX12_wetBehind_38 rfl ?_
        obtain ⟨r3, h_r3, h⟩ := sg_bind h
        refine sg_callVi (pn := 42) (rest := []) 0 dX12_wetBehind_39 rfl kb_X12_163 kv_X12_weatherOf (by exact rfl) rfl (Nat.le_of_ble_eq_true rfl) (gM_weatherOf_ok h_r3) rfl rfl (Nat.le_of_ble_eq_true rfl) ?_
        refine sg_iload_n (pn := 43) (i := 2) dX12_wetBehind_42 rfl rfl 2 rfl ?_
        refine sg_iadd (pn := 44) dX12_wetBehind_43 rfl ?_
        obtain rfl := Option.some.inj h
        exact sg_iret dX12_wetBehind_44 rfl ⟨rfl, rfl⟩
      · have h := sg_ifn hc h
        refine sg_iload_n (pn := 20) (i := 2) dX12_wetBehind_19 rfl rfl 2 rfl ?_
        refine sg_iconst (pn := 21) dX12_wetBehind_20 rfl ic_2 ?_
        refine sg_idiv (pn := 22) dX12_wetBehind_21 rfl (by decide +kernel) ?_
        obtain ⟨v2_4, e_v2_4, h⟩ := sg_letE h
        refine sg_topi e_v2_4 ?_
        refine sg_istore_n (pn := 23) (i := 2) (lv' := [(0, .ref (ad 0)), (1, .int v1), (2, .int v2_4), (3, .int v3)]) dX12_wetBehind_22 rfl rfl (Nat.le_of_ble_eq_true rfl) [1, 2, 0, 3] rfl ?_
        refine sg_iinc (pn := 26) (i := 3) (lv' := [(0, .ref (ad 0)), (1, .int v1), (2, .int v2_4), (3, .int (v3 + (1 : Int32)))]) dX12_wetBehind_23 rfl 3 rfl (ii_1 _) (Nat.le_of_ble_eq_true rfl) [1, 2, 3, 0] rfl ?_
        refine sg_goto (tgt := 10) dX12_wetBehind_26 (by decide) ?_
        exact ih _ _ _ _ _ h
set_option maxRecDepth 4000 in
theorem gM_wetBehind_ok {l : Launch} {D : va_G} {cI cZ : ClassId} {ad : Nat → Nat} {n : Nat} {a1 : Int32} {z : sg_M} {r : Int32} (h : gM_wetBehind n a1 z = some r) : sg_Met (eM l D cI cZ ad) yX12_wetBehind cX12_wetBehind 4 (some .int) 2 [.ref (ad 0), .int a1] z (sg_is (some (.int r)) z) := by
  refine sg_enter (lv0 := [(0, .ref (ad 0)), (1, .int a1)]) pn_X12 (Nat.le_of_ble_eq_true rfl) rfl ?_
  unfold gM_wetBehind at h
  refine sg_aload_n (pn := 1) (i := 0) dX12_wetBehind_0 rfl rfl 0 rfl ?_
  refine gfM_0_8 (pn := 4) dX12_wetBehind_1 rfl lf_X12_25 ?_
  refine sg_bipush (pn := 6) dX12_wetBehind_4 rfl ib_105 ?_
  refine alM_6 (pn := 7) dX12_wetBehind_6 rfl (sg_in_vp (by decide +kernel)) ?_
  obtain ⟨v2_1, e_v2_1, h⟩ := sg_letE h
  refine sg_topi e_v2_1 ?_
  refine sg_istore_n (pn := 8) (i := 2) (lv' := [(0, .ref (ad 0)), (1, .int a1), (2, .int v2_1)]) dX12_wetBehind_7 rfl rfl (Nat.le_of_ble_eq_true rfl) [1, 2, 0] rfl ?_
  refine sg_iconst (pn := 9) dX12_wetBehind_8 rfl ic_0 ?_
  refine sg_istore_n (pn := 10) (i := 3) (lv' := [(0, .ref (ad 0)), (1, .int a1), (2, .int v2_1), (3, .int (0 : Int32))]) dX12_wetBehind_9 rfl rfl (Nat.le_of_ble_eq_true rfl) [1, 2, 3, 0] rfl ?_
  exact gM_wetBehind_L_ok n _ _ _ _ _ h
set_option maxRecDepth 4000 in
theorem gM_wet_ok {l : Launch} {D : va_G} {cI cZ : ClassId} {ad : Nat → Nat} {n : Nat} {z : sg_M} {r : Int32} (h : gM_wet n z = some r) : sg_Met (eM l D cI cZ ad) yX12_wet cX12_wet 1 (some .int) 3 [.ref (ad 0)] z (sg_is (some (.int r)) z) := by
  refine sg_enter (lv0 := [(0, .ref (ad 0))]) pn_X12 (Nat.le_of_ble_eq_true rfl) rfl ?_
  unfold gM_wet at h
  refine sg_aload_n (pn := 1) (i := 0) dX12_wet_0 rfl rfl 0 rfl ?_
  refine gfM_0_0 (pn := 4) dX12_wet_1 rfl lf_X12_78 ?_
  refine sg_if_ne (pn := 7) (tgt := 11) dX12_wet_4 rfl (by decide) (fun hc => ?_) (fun hc => ?_)
  · have h := sg_ifn hc h
    refine sg_aload_n (pn := 12) (i := 0) dX12_wet_11 rfl rfl 0 rfl ?_
    refine sg_iconst (pn := 13) dX12_wet_12 rfl ic_0 ?_
    obtain ⟨r1, h_r1, h⟩ := sg_bind h
    refine sg_callVi (pn := 16) (rest := []) 0 dX12_wet_13 rfl kb_X12_167 kv_X12_wetBehind (by exact rfl) rfl (Nat.le_of_ble_eq_true rfl) (gM_wetBehind_ok h_r1) rfl rfl (Nat.le_of_ble_eq_true rfl) ?_
    obtain rfl := Option.some.inj h
    exact sg_iret dX12_wet_16 rfl ⟨rfl, rfl⟩
  · have h := sg_ifp hc h
    refine sg_iconst (pn := 8) dX12_wet_7 rfl ic_0 ?_
    refine sg_goto (tgt := 16) dX12_wet_8 (by decide) ?_
    obtain rfl := Option.some.inj h
    exact sg_iret dX12_wet_16 rfl ⟨rfl, rfl⟩
set_option maxRecDepth 4000 in
theorem gM_notBelow_ok {l : Launch} {D : va_G} {cI cZ : ClassId} {ad : Nat → Nat} {a0 : Int32} {z : sg_M} {r : Int32} (h : gM_notBelow a0 = r) : sg_Met (eM l D cI cZ ad) yX12_notBelow cX12_notBelow 1 (some .int) 1 [.int a0] z (sg_is (some (.int r)) z) := by
  refine sg_enter (lv0 := [(0, .int a0)]) pn_X12 (Nat.le_of_ble_eq_true rfl) rfl ?_
  unfold gM_notBelow at h
  refine sg_iload_n (pn := 1) (i := 0) dX12_notBelow_0 rfl rfl 0 rfl ?_
  refine sg_if_le (pn := 4) (tgt := 8) dX12_notBelow_1 rfl (by decide) (fun hc => ?_) (fun hc => ?_)
  · have h := sg_ifp hc h
    refine sg_iconst (pn := 9) dX12_notBelow_8 rfl ic_0 ?_
    subst h
    exact sg_iret dX12_notBelow_9 rfl ⟨rfl, rfl⟩
  · have h := sg_ifn hc h
    refine sg_iload_n (pn := 5) (i := 0) dX12_notBelow_4 rfl rfl 0 rfl ?_
    refine sg_goto (tgt := 9) dX12_notBelow_5 (by decide) ?_
    subst h
    exact sg_iret dX12_notBelow_9 rfl ⟨rfl, rfl⟩
set_option maxRecDepth 4000 in
theorem gM_groundOf_ok {l : Launch} {D : va_G} {cI cZ : ClassId} {ad : Nat → Nat} {a1 : Int32} {a2 : Int32} {a3 : Int32} {z : sg_M} {r : Int32} (h : gM_groundOf a1 a2 a3 z = some r) : sg_Met (eM l D cI cZ ad) yX12_groundOf cX12_groundOf 4 (some .int) 2 [.ref (ad 0), .int a1, .int a2, .int a3] z (sg_is (some (.int r)) z) := by
  refine sg_enter (lv0 := [(0, .ref (ad 0)), (1, .int a1), (2, .int a2), (3, .int a3)]) pn_X12 (Nat.le_of_ble_eq_true rfl) rfl ?_
  unfold gM_groundOf at h
  refine sg_aload_n (pn := 1) (i := 0) dX12_groundOf_0 rfl rfl 0 rfl ?_
  refine gfM_0_1 (pn := 4) dX12_groundOf_1 rfl lf_X12_7 ?_
  refine sg_iload_n (pn := 5) (i := 2) dX12_groundOf_4 rfl rfl 2 rfl ?_
  obtain ⟨hg, h⟩ := sg_guard h
  refine alM_1 (pn := 6) dX12_groundOf_5 rfl (sg_in_vp hg) ?_
  refine sg_aload_n (pn := 7) (i := 0) dX12_groundOf_6 rfl rfl 0 rfl ?_
  refine gfM_0_5 (pn := 10) dX12_groundOf_7 rfl lf_X12_16 ?_
  refine sg_iload_n (pn := 11) (i := 1) dX12_groundOf_10 rfl rfl 1 rfl ?_
  obtain ⟨hg, h⟩ := sg_guard h
  refine alM_3 (pn := 12) dX12_groundOf_11 rfl (sg_in_vp hg) ?_
  refine sg_iconst (pn := 13) dX12_groundOf_12 rfl ic_2 ?_
  obtain ⟨t1, e_t1, h2⟩ := sg_letJ h
  have hm_t1 : sg_G (eM l D cI cZ ad) yX12_groundOf cX12_groundOf 4 (some .int) 2 21 [(0, .ref (ad 0)), (2, .int a2)] [.int t1, .int (z.2 0 a2.toNatClampNeg)] z (sg_is (some (.int r)) z) := by
    have h := h2
    refine sg_iadd (pn := 22) dX12_groundOf_21 rfl ?_
    refine sg_aload_n (pn := 23) (i := 0) dX12_groundOf_22 rfl rfl 0 rfl ?_
    refine gfM_0_8 (pn := 26) dX12_groundOf_23 rfl lf_X12_25 ?_
    refine sg_iload_n (pn := 27) (i := 2) dX12_groundOf_26 rfl rfl 1 rfl ?_
    obtain ⟨hg, h⟩ := sg_guard h
    refine alM_6 (pn := 28) dX12_groundOf_27 rfl (sg_in_vp hg) ?_
    refine sg_isub (pn := 29) dX12_groundOf_28 rfl ?_
    refine sg_callSi (pn := 32) (rest := []) dX12_groundOf_29 rfl kb_X12_170 ks_X12_notBelow (Nat.le_of_ble_eq_true rfl) (gM_notBelow_ok rfl) rfl rfl (Nat.le_of_ble_eq_true rfl) ?_
    obtain rfl := Option.some.inj h
    exact sg_iret dX12_groundOf_32 rfl ⟨rfl, rfl⟩
  have h := e_t1
  refine sg_icmp_ne (pn := 16) (tgt := 20) dX12_groundOf_13 rfl (by decide) (fun hc => ?_) (fun hc => ?_)
  · have h := sg_ifn hc h
    refine sg_iload_n (pn := 21) (i := 3) dX12_groundOf_20 rfl rfl 3 rfl ?_
    subst h
    refine sg_sub [0, 2] rfl ?_
    exact hm_t1
  · have h := sg_ifp hc h
    refine sg_iconst (pn := 17) dX12_groundOf_16 rfl ic_0 ?_
    refine sg_goto (tgt := 21) dX12_groundOf_17 (by decide) ?_
    subst h
    refine sg_sub [0, 2] rfl ?_
    exact hm_t1
set_option maxRecDepth 4000 in
theorem gM_weighs_ok {l : Launch} {D : va_G} {cI cZ : ClassId} {ad : Nat → Nat} {a1 : Int32} {a2 : Int32} {z : sg_M} {r : Int32} (h : gM_weighs a1 a2 z = some r) : sg_Met (eM l D cI cZ ad) yX12_weighs cX12_weighs 3 (some .int) 1 [.ref (ad 0), .int a1, .int a2] z (sg_is (some (.int r)) z) := by
  refine sg_enter (lv0 := [(0, .ref (ad 0)), (1, .int a1), (2, .int a2)]) pn_X12 (Nat.le_of_ble_eq_true rfl) rfl ?_
  unfold gM_weighs at h
  refine sg_aload_n (pn := 1) (i := 0) dX12_weighs_0 rfl rfl 0 rfl ?_
  refine gfM_0_5 (pn := 4) dX12_weighs_1 rfl lf_X12_16 ?_
  refine sg_iload_n (pn := 5) (i := 1) dX12_weighs_4 rfl rfl 1 rfl ?_
  obtain ⟨hg, h⟩ := sg_guard h
  refine alM_3 (pn := 6) dX12_weighs_5 rfl (sg_in_vp hg) ?_
  by_cases hk0 : (z.2 2 a1.toNatClampNeg) = (1 : Int32)
  · have h := sg_ifp hk0 h
    refine sg_lookup (tgt := 32) (off := 26) dX12_weighs_6 (by decide) (by rw [hk0]; decide) (by decide) ?_
    refine sg_iload_n (pn := 33) (i := 2) dX12_weighs_32 rfl rfl 2 rfl ?_
    refine sg_iconst (pn := 34) dX12_weighs_33 rfl ic_2 ?_
    refine sg_idiv (pn := 35) dX12_weighs_34 rfl (by decide +kernel) ?_
    obtain rfl := Option.some.inj h
    exact sg_iret dX12_weighs_35 rfl ⟨rfl, rfl⟩
  · have h := sg_ifn hk0 h
    by_cases hk1 : (z.2 2 a1.toNatClampNeg) = (3 : Int32)
    · have h := sg_ifp hk1 h
      refine sg_lookup (tgt := 36) (off := 30) dX12_weighs_6 (by decide) (by rw [hk1]; decide) (by decide) ?_
      refine sg_iload_n (pn := 37) (i := 2) dX12_weighs_36 rfl rfl 2 rfl ?_
      refine sg_aload_n (pn := 38) (i := 0) dX12_weighs_37 rfl rfl 0 rfl ?_
      refine gfM_0_8 (pn := 41) dX12_weighs_38 rfl lf_X12_25 ?_
      refine sg_bipush (pn := 43) dX12_weighs_41 rfl ib_96 ?_
      refine sg_iload_n (pn := 44) (i := 1) dX12_weighs_43 rfl rfl 1 rfl ?_
      refine sg_iadd (pn := 45) dX12_weighs_44 rfl ?_
      obtain ⟨hg, h⟩ := sg_guard h
      refine alM_6 (pn := 46) dX12_weighs_45 rfl (sg_in_vp hg) ?_
      refine sg_bipush (pn := 48) dX12_weighs_46 rfl ib_20 ?_
      obtain ⟨t1, e_t1, h2⟩ := sg_bind h
      have hm_t1 : sg_G (eM l D cI cZ ad) yX12_weighs cX12_weighs 3 (some .int) 1 65 [] [.int t1, .int a2] z (sg_is (some (.int r)) z) := by
        have h := h2
        refine sg_iadd (pn := 66) dX12_weighs_65 rfl ?_
        obtain rfl := Option.some.inj h
        exact sg_iret dX12_weighs_66 rfl ⟨rfl, rfl⟩
      have h := e_t1
      refine sg_icmp_ge (pn := 51) (tgt := 63) dX12_weighs_48 rfl (by decide) (fun hc => ?_) (fun hc => ?_)
      · have h := sg_ifp hc h
        refine sg_bipush (pn := 65) dX12_weighs_63 rfl ib_20 ?_
        obtain rfl := Option.some.inj h
        refine sg_sub [] rfl ?_
        exact hm_t1
      · have h := sg_ifn hc h
        refine sg_aload_n (pn := 52) (i := 0) dX12_weighs_51 rfl rfl 0 rfl ?_
        refine gfM_0_8 (pn := 55) dX12_weighs_52 rfl lf_X12_25 ?_
        refine sg_bipush (pn := 57) dX12_weighs_55 rfl ib_96 ?_
        refine sg_iload_n (pn := 58) (i := 1) dX12_weighs_57 rfl rfl 1 rfl ?_
        refine sg_iadd (pn := 59) dX12_weighs_58 rfl ?_
        obtain ⟨hg, h⟩ := sg_guard h
        refine alM_6 (pn := 60) dX12_weighs_59 rfl (sg_in_vp hg) ?_
        refine sg_goto (tgt := 65) dX12_weighs_60 (by decide) ?_
        obtain rfl := Option.some.inj h
        refine sg_sub [] rfl ?_
        exact hm_t1
    · have h := sg_ifn hk1 h
      refine sg_lookup (tgt := 67) (off := 61) dX12_weighs_6 (by decide) ((lv_osw hk0 rfl).trans ((lv_osw hk1 rfl).trans (rfl))) (by decide) ?_
      refine sg_iload_n (pn := 68) (i := 2) dX12_weighs_67 rfl rfl 2 rfl ?_
      obtain rfl := Option.some.inj h
      exact sg_iret dX12_weighs_68 rfl ⟨rfl, rfl⟩
set_option maxRecDepth 4000 in
theorem gM_stopBy_L_ok {l : Launch} {D : va_G} {cI cZ : ClassId} {ad : Nat → Nat} : ∀ (n : Nat) (v1 : Int32) (v2 : Int32) (v3 : Int32) (v4 : Int32) (z : sg_M) (r : Int32), gM_stopBy_L n v1 v2 v3 v4 z = some r → sg_G (eM l D cI cZ ad) yX12_stopBy cX12_stopBy 5 (some .int) 3 3 [(0, .ref (ad 0)), (1, .int v1), (2, .int v2), (3, .int v3), (4, .int v4)] [] z (sg_is (some (.int r)) z) := by
  intro n
  induction n with
  | zero => intro v1 v2 v3 v4 z r h; cases h
  | succ n ih =>
    intro v1 v2 v3 v4 z r h
    unfold gM_stopBy_L at h
    refine sg_iload (pn := 5) (i := 4) dX12_stopBy_3 rfl 4 rfl ?_
    refine sg_aload_n (pn := 6) (i := 0) dX12_stopBy_5 rfl rfl 0 rfl ?_
    refine gfM_0_0 (pn := 9) dX12_stopBy_6 rfl lf_X12_78 ?_
    refine sg_icmp_ge (pn := 12) (tgt := 41) dX12_stopBy_9 rfl (by decide) (fun hc => ?_) (fun hc => ?_)
    · have h := sg_ifp hc h
      refine sg_iconst (pn := 42) dX12_stopBy_41 rfl ic_m1 ?_
      obtain rfl := Option.some.inj h
      exact sg_iret dX12_stopBy_42 rfl ⟨rfl, rfl⟩
    · have h := sg_ifn hc h
      refine sg_aload_n (pn := 13) (i := 0) dX12_stopBy_12 rfl rfl 0 rfl ?_
      refine sg_iload_n (pn := 14) (i := 1) dX12_stopBy_13 rfl rfl 1 rfl ?_
      refine sg_iload (pn := 16) (i := 4) dX12_stopBy_14 rfl 4 rfl ?_
      refine sg_iload_n (pn := 17) (i := 3) dX12_stopBy_16 rfl rfl 3 rfl ?_
      obtain ⟨r1, h_r1, h⟩ := sg_bind h
      refine sg_callVi (pn := 20) (rest := []) 0 dX12_stopBy_17 rfl kb_X12_173 kv_X12_groundOf (by exact rfl) rfl (Nat.le_of_ble_eq_true rfl) (gM_groundOf_ok h_r1) rfl rfl (Nat.le_of_ble_eq_true rfl) ?_
      refine sg_aload_n (pn := 21) (i := 0) dX12_stopBy_20 rfl rfl 0 rfl ?_
      refine sg_iload_n (pn := 22) (i := 1) dX12_stopBy_21 rfl rfl 1 rfl ?_
      refine sg_iload_n (pn := 23) (i := 2) dX12_stopBy_22 rfl rfl 2 rfl ?_
      obtain ⟨r2, h_r2, h⟩ := sg_bind h
      refine sg_callVi (pn := 26) (rest := [.int r1]) 0 dX12_stopBy_23 rfl kb_X12_177 kv_X12_weighs (by exact rfl) rfl (Nat.le_of_ble_eq_true rfl) (gM_weighs_ok h_r2) rfl rfl (Nat.le_of_ble_eq_true rfl) ?_
      refine sg_iadd (pn := 27) dX12_stopBy_26 rfl ?_
      refine sg_bipush (pn := 29) dX12_stopBy_27 rfl ib_60 ?_
      refine sg_icmp_lt (pn := 32) (tgt := 35) dX12_stopBy_29 rfl (by decide) (fun hc => ?_) (fun hc => ?_)
      · have h := sg_ifp hc h
        refine sg_iinc (pn := 38) (i := 4) (lv' := [(0, .ref (ad 0)), (1, .int v1), (2, .int v2), (3, .int v3), (4, .int (v4 + (1 : Int32)))]) dX12_stopBy_35 rfl 4 rfl (ii_1 _) (Nat.le_of_ble_eq_true rfl) [1, 2, 3, 4, 0] rfl ?_
        refine sg_goto (tgt := 3) dX12_stopBy_38 (by decide) ?_
        exact ih _ _ _ _ _ _ h
      · have h := sg_ifn hc h
        refine sg_iload (pn := 34) (i := 4) dX12_stopBy_32 rfl 4 rfl ?_
        obtain rfl := Option.some.inj h
        exact sg_iret dX12_stopBy_34 rfl ⟨rfl, rfl⟩
set_option maxRecDepth 4000 in
theorem gM_stopBy_ok {l : Launch} {D : va_G} {cI cZ : ClassId} {ad : Nat → Nat} {n : Nat} {a1 : Int32} {a2 : Int32} {a3 : Int32} {z : sg_M} {r : Int32} (h : gM_stopBy n a1 a2 a3 z = some r) : sg_Met (eM l D cI cZ ad) yX12_stopBy cX12_stopBy 5 (some .int) 3 [.ref (ad 0), .int a1, .int a2, .int a3] z (sg_is (some (.int r)) z) := by
  refine sg_enter (lv0 := [(0, .ref (ad 0)), (1, .int a1), (2, .int a2), (3, .int a3)]) pn_X12 (Nat.le_of_ble_eq_true rfl) rfl ?_
  unfold gM_stopBy at h
  refine sg_iconst (pn := 1) dX12_stopBy_0 rfl ic_0 ?_
  refine sg_istore (pn := 3) (i := 4) (lv' := [(0, .ref (ad 0)), (1, .int a1), (2, .int a2), (3, .int a3), (4, .int (0 : Int32))]) dX12_stopBy_1 rfl (Nat.le_of_ble_eq_true rfl) [1, 2, 3, 4, 0] rfl ?_
  exact gM_stopBy_L_ok n _ _ _ _ _ _ h
set_option maxRecDepth 4000 in
theorem gM_stopOf_ok {l : Launch} {D : va_G} {cI cZ : ClassId} {ad : Nat → Nat} {n : Nat} {a1 : Int32} {a2 : Int32} {z : sg_M} {r : Int32} (h : gM_stopOf n a1 a2 z = some r) : sg_Met (eM l D cI cZ ad) yX12_stopOf cX12_stopOf 3 (some .int) 4 [.ref (ad 0), .int a1, .int a2] z (sg_is (some (.int r)) z) := by
  refine sg_enter (lv0 := [(0, .ref (ad 0)), (1, .int a1), (2, .int a2)]) pn_X12 (Nat.le_of_ble_eq_true rfl) rfl ?_
  unfold gM_stopOf at h
  refine sg_aload_n (pn := 1) (i := 0) dX12_stopOf_0 rfl rfl 0 rfl ?_
  refine sg_iload_n (pn := 2) (i := 1) dX12_stopOf_1 rfl rfl 1 rfl ?_
  refine sg_aload_n (pn := 3) (i := 0) dX12_stopOf_2 rfl rfl 0 rfl ?_
  refine gfM_0_8 (pn := 6) dX12_stopOf_3 rfl lf_X12_25 ?_
  refine sg_bipush (pn := 8) dX12_stopOf_6 rfl ib_80 ?_
  refine sg_iload_n (pn := 9) (i := 1) dX12_stopOf_8 rfl rfl 1 rfl ?_
  refine sg_iadd (pn := 10) dX12_stopOf_9 rfl ?_
  obtain ⟨hg, h⟩ := sg_guard h
  refine alM_6 (pn := 11) dX12_stopOf_10 rfl (sg_in_vp hg) ?_
  refine sg_iload_n (pn := 12) (i := 2) dX12_stopOf_11 rfl rfl 2 rfl ?_
  obtain ⟨r1, h_r1, h⟩ := sg_bind h
  refine sg_callVi (pn := 15) (rest := []) 0 dX12_stopOf_12 rfl kb_X12_180 kv_X12_stopBy (by exact rfl) rfl (Nat.le_of_ble_eq_true rfl) (gM_stopBy_ok h_r1) rfl rfl (Nat.le_of_ble_eq_true rfl) ?_
  obtain rfl := Option.some.inj h
  exact sg_iret dX12_stopOf_15 rfl ⟨rfl, rfl⟩
