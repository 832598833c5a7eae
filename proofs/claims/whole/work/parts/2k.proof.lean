set_option maxRecDepth 4000 in
theorem gM_foundedBy_LL_ok {l : Launch} {D : va_G} {cI cZ : ClassId} {ad : Nat → Nat} : ∀ (n : Nat), (∀ (v1 : Int32) (v2 : Int32) (v4 : Int32) (v5 : Int32) (v6 : Int32) (v7 : Int32) (v8 : Int32) (z : sg_M) (r : Int32), gM_foundedBy_LL n 18 v1 v2 v4 v5 v6 v7 v8 z = some r → sg_G (eM l D cI cZ ad) yX12_foundedBy cX12_foundedBy 11 (some .int) 3 18 [(0, .ref (ad 0)), (1, .int v1), (2, .int v2), (4, .int v4), (5, .int v5), (6, .int v6), (7, .int v7), (8, .int v8)] [] z (sg_is (some (.int r)) z)) ∧ (∀ (v1 : Int32) (v2 : Int32) (v4 : Int32) (v5 : Int32) (v6 : Int32) (v7 : Int32) (v8 : Int32) (z : sg_M) (r : Int32), gM_foundedBy_LL n 40 v1 v2 v4 v5 v6 v7 v8 z = some r → sg_G (eM l D cI cZ ad) yX12_foundedBy cX12_foundedBy 11 (some .int) 3 40 [(0, .ref (ad 0)), (1, .int v1), (2, .int v2), (4, .int v4), (5, .int v5), (6, .int v6), (7, .int v7), (8, .int v8)] [] z (sg_is (some (.int r)) z)) := by
  intro n
  induction n with
  | zero => exact ⟨(fun _ _ _ _ _ _ _ _ _ h => by cases h), (fun _ _ _ _ _ _ _ _ _ h => by cases h)⟩
  | succ n ih =>
    refine ⟨?_, ?_⟩
    · intro v1 v2 v4 v5 v6 v7 v8 z r h
      unfold gM_foundedBy_LL at h
      have h := sg_ifp (show (18 : Nat) = 18 from rfl) h
      refine sg_iload (pn := 20) (i := 8) dX12_foundedBy_18 rfl 7 rfl ?_
      refine sg_iload_n (pn := 21) (i := 2) dX12_foundedBy_20 rfl rfl 2 rfl ?_
      refine sg_icmp_ge (pn := 24) (tgt := 37) dX12_foundedBy_21 rfl (by decide) (fun hc => ?_) (fun hc => ?_)
      · have h := sg_ifp hc h
        refine sg_iconst (pn := 38) dX12_foundedBy_37 rfl ic_0 ?_
        refine sg_istore (pn := 40) (i := 8) (lv' := [(0, .ref (ad 0)), (1, .int v1), (2, .int v2), (4, .int v4), (5, .int v5), (6, .int v6), (7, .int v7), (8, .int (0 : Int32))]) dX12_foundedBy_38 rfl (Nat.le_of_ble_eq_true rfl) [1, 2, 3, 4, 5, 6, 7, 0] rfl ?_
        exact ih.2 _ _ _ _ _ _ _ _ _ h
      · have h := sg_ifn hc h
        refine sg_iload (pn := 26) (i := 7) dX12_foundedBy_24 rfl 6 rfl ?_
        refine sg_bipush (pn := 28) dX12_foundedBy_26 rfl ib_10 ?_
        refine sg_imul (pn := 29) dX12_foundedBy_28 rfl ?_
        obtain ⟨v7_2, e_v7_2, h⟩ := sg_letE h
        refine sg_topi e_v7_2 ?_
        refine sg_istore (pn := 31) (i := 7) (lv' := [(0, .ref (ad 0)), (1, .int v1), (2, .int v2), (4, .int v4), (5, .int v5), (6, .int v6), (7, .int v7_2), (8, .int v8)]) dX12_foundedBy_29 rfl (Nat.le_of_ble_eq_true rfl) [1, 2, 3, 4, 5, 6, 0, 7] rfl ?_
        refine sg_iinc (pn := 34) (i := 8) (lv' := [(0, .ref (ad 0)), (1, .int v1), (2, .int v2), (4, .int v4), (5, .int v5), (6, .int v6), (7, .int v7_2), (8, .int (v8 + (1 : Int32)))]) dX12_foundedBy_31 rfl 7 rfl (ii_1 _) (Nat.le_of_ble_eq_true rfl) [1, 2, 3, 4, 5, 6, 7, 0] rfl ?_
        refine sg_goto (tgt := 18) dX12_foundedBy_34 (by decide) ?_
        exact ih.1 _ _ _ _ _ _ _ _ _ h
    · intro v1 v2 v4 v5 v6 v7 v8 z r h
      unfold gM_foundedBy_LL at h
      have h := sg_ifn (show ¬ (40 : Nat) = 18 by decide) h
      have h := sg_ifp (show (40 : Nat) = 40 from rfl) h
      refine sg_iload (pn := 42) (i := 8) dX12_foundedBy_40 rfl 7 rfl ?_
      refine sg_iload_n (pn := 43) (i := 2) dX12_foundedBy_42 rfl rfl 2 rfl ?_
      refine sg_icmp_ge (pn := 46) (tgt := 155) dX12_foundedBy_43 rfl (by decide) (fun hc => ?_) (fun hc => ?_)
      · have h := sg_ifp hc h
        refine sg_iload (pn := 157) (i := 6) dX12_foundedBy_155 rfl 5 rfl ?_
        obtain rfl := Option.some.inj h
        exact sg_iret dX12_foundedBy_157 rfl ⟨rfl, rfl⟩
      · have h := sg_ifn hc h
        refine sg_iload_n (pn := 47) (i := 1) dX12_foundedBy_46 rfl rfl 1 rfl ?_
        refine sg_iload (pn := 49) (i := 7) dX12_foundedBy_47 rfl 6 rfl ?_
        obtain ⟨hg, h⟩ := sg_nz h
        refine sg_idiv (pn := 50) dX12_foundedBy_49 rfl hg ?_
        refine sg_bipush (pn := 52) dX12_foundedBy_50 rfl ib_10 ?_
        refine sg_irem (pn := 53) dX12_foundedBy_52 rfl (by decide +kernel) ?_
        refine sg_iconst (pn := 54) dX12_foundedBy_53 rfl ic_1 ?_
        refine sg_isub (pn := 55) dX12_foundedBy_54 rfl ?_
        obtain ⟨v9_3, e_v9_3, h⟩ := sg_letE h
        refine sg_topi e_v9_3 ?_
        refine sg_istore (pn := 57) (i := 9) (lv' := [(0, .ref (ad 0)), (1, .int v1), (2, .int v2), (4, .int v4), (5, .int v5), (6, .int v6), (7, .int v7), (8, .int v8), (9, .int v9_3)]) dX12_foundedBy_55 rfl (Nat.le_of_ble_eq_true rfl) [1, 2, 3, 4, 5, 6, 7, 8, 0] rfl ?_
        refine sg_iload (pn := 59) (i := 7) dX12_foundedBy_57 rfl 6 rfl ?_
        refine sg_bipush (pn := 61) dX12_foundedBy_59 rfl ib_10 ?_
        refine sg_idiv (pn := 62) dX12_foundedBy_61 rfl (by decide +kernel) ?_
        obtain ⟨v7_4, e_v7_4, h⟩ := sg_letE h
        refine sg_topi e_v7_4 ?_
        refine sg_istore (pn := 64) (i := 7) (lv' := [(0, .ref (ad 0)), (1, .int v1), (2, .int v2), (4, .int v4), (5, .int v5), (6, .int v6), (7, .int v7_4), (8, .int v8), (9, .int v9_3)]) dX12_foundedBy_62 rfl (Nat.le_of_ble_eq_true rfl) [1, 2, 3, 4, 5, 6, 0, 7, 8] rfl ?_
        refine sg_iload (pn := 66) (i := 9) dX12_foundedBy_64 rfl 8 rfl ?_
        refine sg_if_lt (pn := 69) (tgt := 79) dX12_foundedBy_66 rfl (by decide) (fun hc => ?_) (fun hc => ?_)
        · have h := sg_ifp hc h
          refine sg_iconst (pn := 80) dX12_foundedBy_79 rfl ic_m1 ?_
          obtain rfl := Option.some.inj h
          exact sg_iret dX12_foundedBy_80 rfl ⟨rfl, rfl⟩
        · have h := sg_ifn hc h
          refine sg_iload (pn := 71) (i := 4) dX12_foundedBy_69 rfl 3 rfl ?_
          refine sg_iload (pn := 73) (i := 9) dX12_foundedBy_71 rfl 8 rfl ?_
          refine sg_callSi (pn := 76) (rest := []) dX12_foundedBy_73 rfl kb_X12_194 ks_X12_has (Nat.le_of_ble_eq_true rfl) (gM_has_ok rfl) rfl rfl (Nat.le_of_ble_eq_true rfl) ?_
          refine sg_if_ne (pn := 79) (tgt := 81) dX12_foundedBy_76 rfl (by decide) (fun hc => ?_) (fun hc => ?_)
          · have h := sg_ifn hc h
            refine sg_iload (pn := 83) (i := 4) dX12_foundedBy_81 rfl 3 rfl ?_
            refine sg_iconst (pn := 84) dX12_foundedBy_83 rfl ic_1 ?_
            refine sg_iload (pn := 86) (i := 9) dX12_foundedBy_84 rfl 8 rfl ?_
            refine sg_ishl (pn := 87) dX12_foundedBy_86 rfl ?_
            refine sg_iconst (pn := 88) dX12_foundedBy_87 rfl ic_m1 ?_
            refine sg_ixor (pn := 89) dX12_foundedBy_88 rfl ?_
            refine sg_iand (pn := 90) dX12_foundedBy_89 rfl ?_
            obtain ⟨v4_5, e_v4_5, h⟩ := sg_letE h
            refine sg_topi e_v4_5 ?_
            refine sg_istore (pn := 92) (i := 4) (lv' := [(0, .ref (ad 0)), (1, .int v1), (2, .int v2), (4, .int v4_5), (5, .int v5), (6, .int v6), (7, .int v7_4), (8, .int v8), (9, .int v9_3)]) dX12_foundedBy_90 rfl (Nat.le_of_ble_eq_true rfl) [1, 2, 3, 0, 4, 5, 6, 7, 8] rfl ?_
            refine sg_aload_n (pn := 93) (i := 0) dX12_foundedBy_92 rfl rfl 0 rfl ?_
            refine gfM_0_26 (pn := 96) dX12_foundedBy_93 rfl lf_X12_53 ?_
            refine sg_iconst (pn := 97) dX12_foundedBy_96 rfl ic_5 ?_
            refine sg_iload (pn := 99) (i := 9) dX12_foundedBy_97 rfl 8 rfl ?_
            refine sg_imul (pn := 100) dX12_foundedBy_99 rfl ?_
            refine sg_iload (pn := 102) (i := 8) dX12_foundedBy_100 rfl 7 rfl ?_
            refine sg_iadd (pn := 103) dX12_foundedBy_102 rfl ?_
            obtain ⟨hg, h⟩ := sg_guard h
            refine alM_14 (pn := 104) dX12_foundedBy_103 rfl (sg_in_vp hg) ?_
            obtain ⟨v10_6, e_v10_6, h⟩ := sg_letE h
            refine sg_topi e_v10_6 ?_
            refine sg_istore (pn := 106) (i := 10) (lv' := [(0, .ref (ad 0)), (1, .int v1), (2, .int v2), (4, .int v4_5), (5, .int v5), (6, .int v6), (7, .int v7_4), (8, .int v8), (9, .int v9_3), (10, .int v10_6)]) dX12_foundedBy_104 rfl (Nat.le_of_ble_eq_true rfl) [1, 2, 3, 4, 5, 6, 7, 8, 9, 0] rfl ?_
            refine sg_iload (pn := 108) (i := 6) dX12_foundedBy_106 rfl 5 rfl ?_
            refine sg_iload (pn := 110) (i := 10) dX12_foundedBy_108 rfl 9 rfl ?_
            obtain ⟨t7, e_t7, h2⟩ := sg_letJ h
            have hm_t7 : sg_G (eM l D cI cZ ad) yX12_foundedBy cX12_foundedBy 11 (some .int) 3 128 [(0, .ref (ad 0)), (1, .int v1), (2, .int v2), (4, .int v4_5), (5, .int v5), (7, .int v7_4), (8, .int v8), (10, .int v10_6)] [.int t7, .int v6] z (sg_is (some (.int r)) z) := by
              have h := h2
              refine sg_iadd (pn := 129) dX12_foundedBy_128 rfl ?_
              obtain ⟨v6_8, e_v6_8, h⟩ := sg_letE h
              refine sg_topi e_v6_8 ?_
              refine sg_istore (pn := 131) (i := 6) (lv' := [(0, .ref (ad 0)), (1, .int v1), (2, .int v2), (4, .int v4_5), (5, .int v5), (6, .int v6_8), (7, .int v7_4), (8, .int v8), (10, .int v10_6)]) dX12_foundedBy_129 rfl (Nat.le_of_ble_eq_true rfl) [1, 2, 3, 4, 5, 0, 6, 7, 8] rfl ?_
              refine sg_iload (pn := 133) (i := 5) dX12_foundedBy_131 rfl 4 rfl ?_
              refine sg_iload (pn := 135) (i := 10) dX12_foundedBy_133 rfl 8 rfl ?_
              obtain ⟨t9, e_t9, h2⟩ := sg_letJ h
              have hm_t9 : sg_G (eM l D cI cZ ad) yX12_foundedBy cX12_foundedBy 11 (some .int) 3 146 [(0, .ref (ad 0)), (1, .int v1), (2, .int v2), (4, .int v4_5), (6, .int v6_8), (7, .int v7_4), (8, .int v8)] [.int t9, .int v5] z (sg_is (some (.int r)) z) := by
                have h := h2
                refine sg_ior (pn := 147) dX12_foundedBy_146 rfl ?_
                obtain ⟨v5_10, e_v5_10, h⟩ := sg_letE h
                refine sg_topi e_v5_10 ?_
                refine sg_istore (pn := 149) (i := 5) (lv' := [(0, .ref (ad 0)), (1, .int v1), (2, .int v2), (4, .int v4_5), (5, .int v5_10), (6, .int v6_8), (7, .int v7_4), (8, .int v8)]) dX12_foundedBy_147 rfl (Nat.le_of_ble_eq_true rfl) [1, 2, 3, 4, 0, 5, 6, 7] rfl ?_
                refine sg_iinc (pn := 152) (i := 8) (lv' := [(0, .ref (ad 0)), (1, .int v1), (2, .int v2), (4, .int v4_5), (5, .int v5_10), (6, .int v6_8), (7, .int v7_4), (8, .int (v8 + (1 : Int32)))]) dX12_foundedBy_149 rfl 7 rfl (ii_1 _) (Nat.le_of_ble_eq_true rfl) [1, 2, 3, 4, 5, 6, 7, 0] rfl ?_
                refine sg_goto (tgt := 40) dX12_foundedBy_152 (by decide) ?_
                exact ih.2 _ _ _ _ _ _ _ _ _ h
              have h := e_t9
              refine sg_if_lt (pn := 138) (tgt := 145) dX12_foundedBy_135 rfl (by decide) (fun hc => ?_) (fun hc => ?_)
              · have h := sg_ifp hc h
                refine sg_iconst (pn := 146) dX12_foundedBy_145 rfl ic_0 ?_
                subst h
                refine sg_sub [0, 1, 2, 3, 5, 6, 7] rfl ?_
                exact hm_t9
              · have h := sg_ifn hc h
                refine sg_iconst (pn := 139) dX12_foundedBy_138 rfl ic_1 ?_
                refine sg_iload (pn := 141) (i := 10) dX12_foundedBy_139 rfl 8 rfl ?_
                refine sg_ishl (pn := 142) dX12_foundedBy_141 rfl ?_
                refine sg_goto (tgt := 146) dX12_foundedBy_142 (by decide) ?_
                subst h
                refine sg_sub [0, 1, 2, 3, 5, 6, 7] rfl ?_
                exact hm_t9
            have h := e_t7
            refine sg_if_lt (pn := 113) (tgt := 127) dX12_foundedBy_110 rfl (by decide) (fun hc => ?_) (fun hc => ?_)
            · have h := sg_ifp hc h
              refine sg_iconst (pn := 128) dX12_foundedBy_127 rfl ic_0 ?_
              subst h
              refine sg_sub [0, 1, 2, 3, 4, 6, 7, 9] rfl ?_
              exact hm_t7
            · have h := sg_ifn hc h
              refine sg_iload (pn := 115) (i := 5) dX12_foundedBy_113 rfl 4 rfl ?_
              refine sg_iload (pn := 117) (i := 10) dX12_foundedBy_115 rfl 9 rfl ?_
              refine sg_callSi (pn := 120) (rest := [.int v6]) dX12_foundedBy_117 rfl kb_X12_194 ks_X12_has (Nat.le_of_ble_eq_true rfl) (gM_has_ok rfl) rfl rfl (Nat.le_of_ble_eq_true rfl) ?_
              refine sg_if_ne (pn := 123) (tgt := 127) dX12_foundedBy_120 rfl (by decide) (fun hc => ?_) (fun hc => ?_)
              · have h := sg_ifn hc h
                refine sg_iconst (pn := 128) dX12_foundedBy_127 rfl ic_0 ?_
                subst h
                refine sg_sub [0, 1, 2, 3, 4, 6, 7, 9] rfl ?_
                exact hm_t7
              · have h := sg_ifp hc h
                refine sg_iconst (pn := 124) dX12_foundedBy_123 rfl ic_1 ?_
                refine sg_goto (tgt := 128) dX12_foundedBy_124 (by decide) ?_
                subst h
                refine sg_sub [0, 1, 2, 3, 4, 6, 7, 9] rfl ?_
                exact hm_t7
          · have h := sg_ifp hc h
            refine sg_iconst (pn := 80) dX12_foundedBy_79 rfl ic_m1 ?_
            obtain rfl := Option.some.inj h
            exact sg_iret dX12_foundedBy_80 rfl ⟨rfl, rfl⟩
set_option maxRecDepth 4000 in
theorem gM_foundedBy_ok {l : Launch} {D : va_G} {cI cZ : ClassId} {ad : Nat → Nat} {n : Nat} {a1 : Int32} {a2 : Int32} {a3 : Int32} {z : sg_M} {r : Int32} (h : gM_foundedBy n a1 a2 a3 z = some r) : sg_Met (eM l D cI cZ ad) yX12_foundedBy cX12_foundedBy 11 (some .int) 3 [.ref (ad 0), .int a1, .int a2, .int a3] z (sg_is (some (.int r)) z) := by
  refine sg_enter (lv0 := [(0, .ref (ad 0)), (1, .int a1), (2, .int a2), (3, .int a3)]) pn_X12 (Nat.le_of_ble_eq_true rfl) rfl ?_
  unfold gM_foundedBy at h
  refine sg_iload_n (pn := 1) (i := 3) dX12_foundedBy_0 rfl rfl 3 rfl ?_
  refine sg_istore (pn := 3) (i := 4) (lv' := [(0, .ref (ad 0)), (1, .int a1), (2, .int a2), (3, .int a3), (4, .int a3)]) dX12_foundedBy_1 rfl (Nat.le_of_ble_eq_true rfl) [1, 2, 3, 4, 0] rfl ?_
  refine sg_aload_n (pn := 4) (i := 0) dX12_foundedBy_3 rfl rfl 0 rfl ?_
  obtain ⟨r1, h_r1, h⟩ := sg_bind h
  refine sg_callVi (pn := 7) (rest := []) 0 dX12_foundedBy_4 rfl kb_X12_198 kv_X12_towns (by exact rfl) rfl (Nat.le_of_ble_eq_true rfl) (gM_towns_ok h_r1) rfl rfl (Nat.le_of_ble_eq_true rfl) ?_
  refine sg_istore (pn := 9) (i := 5) (lv' := [(0, .ref (ad 0)), (1, .int a1), (2, .int a2), (3, .int a3), (4, .int a3), (5, .int r1)]) dX12_foundedBy_7 rfl (Nat.le_of_ble_eq_true rfl) [1, 2, 3, 4, 5, 0] rfl ?_
  refine sg_iconst (pn := 10) dX12_foundedBy_9 rfl ic_0 ?_
  refine sg_istore (pn := 12) (i := 6) (lv' := [(0, .ref (ad 0)), (1, .int a1), (2, .int a2), (3, .int a3), (4, .int a3), (5, .int r1), (6, .int (0 : Int32))]) dX12_foundedBy_10 rfl (Nat.le_of_ble_eq_true rfl) [1, 2, 3, 4, 5, 6, 0] rfl ?_
  refine sg_iconst (pn := 13) dX12_foundedBy_12 rfl ic_1 ?_
  refine sg_istore (pn := 15) (i := 7) (lv' := [(0, .ref (ad 0)), (1, .int a1), (2, .int a2), (3, .int a3), (4, .int a3), (5, .int r1), (6, .int (0 : Int32)), (7, .int (1 : Int32))]) dX12_foundedBy_13 rfl (Nat.le_of_ble_eq_true rfl) [1, 2, 3, 4, 5, 6, 7, 0] rfl ?_
  refine sg_iconst (pn := 16) dX12_foundedBy_15 rfl ic_1 ?_
  refine sg_istore (pn := 18) (i := 8) (lv' := [(0, .ref (ad 0)), (1, .int a1), (2, .int a2), (3, .int a3), (4, .int a3), (5, .int r1), (6, .int (0 : Int32)), (7, .int (1 : Int32)), (8, .int (1 : Int32))]) dX12_foundedBy_16 rfl (Nat.le_of_ble_eq_true rfl) [1, 2, 3, 4, 5, 6, 7, 8, 0] rfl ?_
  refine sg_sub [0, 1, 2, 4, 5, 6, 7, 8] rfl ?_
  exact (gM_foundedBy_LL_ok n).1 _ _ _ _ _ _ _ _ _ h
set_option maxRecDepth 4000 in
theorem gM_order_LL_ok {l : Launch} {D : va_G} {cI cZ : ClassId} {ad : Nat → Nat} : ∀ (n : Nat), (∀ (v1 : Int32) (v2 : Int32) (v3 : Int32) (v4 : Int32) (v5 : Int32) (v6 : Int32) (v7 : Int32) (z : sg_M) (r : Int32 × sg_M), gM_order_LL n 49 v1 v2 v3 v4 v5 v6 v7 z = some r → sg_G (eM l D cI cZ ad) yX12_order cX12_order 9 (some .int) 5 49 [(0, .ref (ad 0)), (1, .int v1), (2, .int v2), (3, .int v3), (4, .int v4)] [] z (sg_is (some (.int r.1)) r.2)) ∧ (∀ (v1 : Int32) (v2 : Int32) (v3 : Int32) (v4 : Int32) (v5 : Int32) (v6 : Int32) (v7 : Int32) (z : sg_M) (r : Int32 × sg_M), gM_order_LL n 61 v1 v2 v3 v4 v5 v6 v7 z = some r → sg_G (eM l D cI cZ ad) yX12_order cX12_order 9 (some .int) 5 61 [(0, .ref (ad 0)), (1, .int v1), (2, .int v2), (3, .int v3), (4, .int v4), (5, .int v5)] [] z (sg_is (some (.int r.1)) r.2)) ∧ (∀ (v1 : Int32) (v2 : Int32) (v3 : Int32) (v4 : Int32) (v5 : Int32) (v6 : Int32) (v7 : Int32) (z : sg_M) (r : Int32 × sg_M), gM_order_LL n 109 v1 v2 v3 v4 v5 v6 v7 z = some r → sg_G (eM l D cI cZ ad) yX12_order cX12_order 9 (some .int) 5 109 [(0, .ref (ad 0)), (1, .int v1), (2, .int v2), (3, .int v3), (4, .int v4), (5, .int v5)] [] z (sg_is (some (.int r.1)) r.2)) ∧ (∀ (v1 : Int32) (v2 : Int32) (v3 : Int32) (v4 : Int32) (v5 : Int32) (v6 : Int32) (v7 : Int32) (z : sg_M) (r : Int32 × sg_M), gM_order_LL n 137 v1 v2 v3 v4 v5 v6 v7 z = some r → sg_G (eM l D cI cZ ad) yX12_order cX12_order 9 (some .int) 5 137 [(0, .ref (ad 0)), (1, .int v1), (2, .int v2), (3, .int v3), (4, .int v4), (5, .int v5), (6, .int v6), (7, .int v7)] [] z (sg_is (some (.int r.1)) r.2)) := by
  intro n
  induction n with
  | zero => exact ⟨(fun _ _ _ _ _ _ _ _ _ h => by cases h), (fun _ _ _ _ _ _ _ _ _ h => by cases h), (fun _ _ _ _ _ _ _ _ _ h => by cases h), (fun _ _ _ _ _ _ _ _ _ h => by cases h)⟩
  | succ n ih =>
    refine ⟨?_, ?_, ?_, ?_⟩
    · intro v1 v2 v3 v4 v5 v6 v7 z r h
      unfold gM_order_LL at h
      have h := sg_ifp (show (49 : Nat) = 49 from rfl) h
      refine sg_iload (pn := 51) (i := 4) dX12_order_49 rfl 4 rfl ?_
      refine sg_aload_n (pn := 52) (i := 0) dX12_order_51 rfl rfl 0 rfl ?_
      refine gfM_0_4 (pn := 55) dX12_order_52 rfl lf_X12_85 ?_
      refine sg_icmp_ge (pn := 58) (tgt := 103) dX12_order_55 rfl (by decide) (fun hc => ?_) (fun hc => ?_)
      · have h := sg_ifp hc h
        refine sg_iconst (pn := 104) dX12_order_103 rfl ic_1 ?_
        refine sg_istore (pn := 106) (i := 4) (lv' := [(0, .ref (ad 0)), (1, .int v1), (2, .int v2), (3, .int v3), (4, .int (1 : Int32))]) dX12_order_104 rfl (Nat.le_of_ble_eq_true rfl) [1, 2, 3, 4, 0] rfl ?_
        refine sg_iconst (pn := 107) dX12_order_106 rfl ic_0 ?_
        refine sg_istore (pn := 109) (i := 5) (lv' := [(0, .ref (ad 0)), (1, .int v1), (2, .int v2), (3, .int v3), (4, .int (1 : Int32)), (5, .int (0 : Int32))]) dX12_order_107 rfl (Nat.le_of_ble_eq_true rfl) [1, 2, 3, 4, 5, 0] rfl ?_
        exact ih.2.2.1 _ _ _ _ _ _ _ _ _ h
      · have h := sg_ifn hc h
        refine sg_iconst (pn := 59) dX12_order_58 rfl ic_0 ?_
        refine sg_istore (pn := 61) (i := 5) (lv' := [(0, .ref (ad 0)), (1, .int v1), (2, .int v2), (3, .int v3), (4, .int v4), (5, .int (0 : Int32))]) dX12_order_59 rfl (Nat.le_of_ble_eq_true rfl) [1, 2, 3, 4, 5, 0] rfl ?_
        exact ih.2.1 _ _ _ _ _ _ _ _ _ h
    · intro v1 v2 v3 v4 v5 v6 v7 z r h
      unfold gM_order_LL at h
      have h := sg_ifn (show ¬ (61 : Nat) = 49 by decide) h
      have h := sg_ifp (show (61 : Nat) = 61 from rfl) h
      refine sg_iload (pn := 63) (i := 5) dX12_order_61 rfl 5 rfl ?_
      refine sg_iconst (pn := 64) dX12_order_63 rfl ic_5 ?_
      refine sg_icmp_ge (pn := 67) (tgt := 97) dX12_order_64 rfl (by decide) (fun hc => ?_) (fun hc => ?_)
      · have h := sg_ifp hc h
        refine sg_iinc (pn := 100) (i := 4) (lv' := [(0, .ref (ad 0)), (1, .int v1), (2, .int v2), (3, .int v3), (4, .int (v4 + (1 : Int32))), (5, .int v5)]) dX12_order_97 rfl 4 rfl (ii_1 _) (Nat.le_of_ble_eq_true rfl) [1, 2, 3, 4, 0, 5] rfl ?_
        refine sg_goto (tgt := 49) dX12_order_100 (by decide) ?_
        refine sg_sub [0, 1, 2, 3, 4] rfl ?_
        exact ih.1 _ _ _ _ _ _ _ _ _ h
      · have h := sg_ifn hc h
        refine sg_aload_n (pn := 68) (i := 0) dX12_order_67 rfl rfl 0 rfl ?_
        refine gfM_0_26 (pn := 71) dX12_order_68 rfl lf_X12_53 ?_
        refine sg_iconst (pn := 72) dX12_order_71 rfl ic_5 ?_
        refine sg_iload (pn := 74) (i := 4) dX12_order_72 rfl 4 rfl ?_
        refine sg_imul (pn := 75) dX12_order_74 rfl ?_
        refine sg_iload (pn := 77) (i := 5) dX12_order_75 rfl 5 rfl ?_
        refine sg_iadd (pn := 78) dX12_order_77 rfl ?_
        refine sg_aload_n (pn := 79) (i := 0) dX12_order_78 rfl rfl 0 rfl ?_
        refine sg_iload (pn := 81) (i := 4) dX12_order_79 rfl 4 rfl ?_
        refine sg_aload_n (pn := 82) (i := 0) dX12_order_81 rfl rfl 0 rfl ?_
        refine sg_iload (pn := 84) (i := 5) dX12_order_82 rfl 5 rfl ?_
        obtain ⟨r4, h_r4, h⟩ := sg_bind h
        refine sg_callVi (pn := 87) (rest := [.int v4, .ref (ad 0), .int (((5 : Int32) * v4) + v5), .ref (ad 14)]) 0 dX12_order_84 rfl kb_X12_167 kv_X12_wetBehind (by exact rfl) rfl (Nat.le_of_ble_eq_true rfl) (gM_wetBehind_ok h_r4) rfl rfl (Nat.le_of_ble_eq_true rfl) ?_
        obtain ⟨r5, h_r5, h⟩ := sg_bind h
        refine sg_callVi (pn := 90) (rest := [.int (((5 : Int32) * v4) + v5), .ref (ad 14)]) 0 dX12_order_87 rfl kb_X12_190 kv_X12_stopOf (by exact rfl) rfl (Nat.le_of_ble_eq_true rfl) (gM_stopOf_ok h_r5) rfl rfl (Nat.le_of_ble_eq_true rfl) ?_
        obtain ⟨hg, h⟩ := sg_guard h
        refine asM_14 (pn := 91) dX12_order_90 rfl (sg_in_vp hg) ?_
        obtain ⟨z6, e_z6, h⟩ := sg_letE h
        refine sg_zE e_z6 ?_
        refine sg_iinc (pn := 94) (i := 5) (lv' := [(0, .ref (ad 0)), (1, .int v1), (2, .int v2), (3, .int v3), (4, .int v4), (5, .int (v5 + (1 : Int32)))]) dX12_order_91 rfl 5 rfl (ii_1 _) (Nat.le_of_ble_eq_true rfl) [1, 2, 3, 4, 5, 0] rfl ?_
        refine sg_goto (tgt := 61) dX12_order_94 (by decide) ?_
        exact ih.2.1 _ _ _ _ _ _ _ _ _ h
    · intro v1 v2 v3 v4 v5 v6 v7 z r h
      unfold gM_order_LL at h
      have h := sg_ifn (show ¬ (109 : Nat) = 49 by decide) h
      have h := sg_ifn (show ¬ (109 : Nat) = 61 by decide) h
      have h := sg_ifp (show (109 : Nat) = 109 from rfl) h
      refine sg_iload (pn := 111) (i := 5) dX12_order_109 rfl 5 rfl ?_
      refine sg_iload_n (pn := 112) (i := 3) dX12_order_111 rfl rfl 3 rfl ?_
      refine sg_icmp_ge (pn := 115) (tgt := 128) dX12_order_112 rfl (by decide) (fun hc => ?_) (fun hc => ?_)
      · have h := sg_ifp hc h
        refine sg_iconst (pn := 129) dX12_order_128 rfl ic_0 ?_
        refine sg_istore (pn := 131) (i := 5) (lv' := [(0, .ref (ad 0)), (1, .int v1), (2, .int v2), (3, .int v3), (4, .int v4), (5, .int (0 : Int32))]) dX12_order_129 rfl (Nat.le_of_ble_eq_true rfl) [1, 2, 3, 4, 5, 0] rfl ?_
        refine sg_iconst (pn := 132) dX12_order_131 rfl ic_m1 ?_
        refine sg_istore (pn := 134) (i := 6) (lv' := [(0, .ref (ad 0)), (1, .int v1), (2, .int v2), (3, .int v3), (4, .int v4), (5, .int (0 : Int32)), (6, .int (-1 : Int32))]) dX12_order_132 rfl (Nat.le_of_ble_eq_true rfl) [1, 2, 3, 4, 5, 6, 0] rfl ?_
        refine sg_iconst (pn := 135) dX12_order_134 rfl ic_0 ?_
        refine sg_istore (pn := 137) (i := 7) (lv' := [(0, .ref (ad 0)), (1, .int v1), (2, .int v2), (3, .int v3), (4, .int v4), (5, .int (0 : Int32)), (6, .int (-1 : Int32)), (7, .int (0 : Int32))]) dX12_order_135 rfl (Nat.le_of_ble_eq_true rfl) [1, 2, 3, 4, 5, 6, 7, 0] rfl ?_
        exact ih.2.2.2 _ _ _ _ _ _ _ _ _ h
      · have h := sg_ifn hc h
        refine sg_iload (pn := 117) (i := 4) dX12_order_115 rfl 4 rfl ?_
        refine sg_bipush (pn := 119) dX12_order_117 rfl ib_10 ?_
        refine sg_imul (pn := 120) dX12_order_119 rfl ?_
        obtain ⟨v4_3, e_v4_3, h⟩ := sg_letE h
        refine sg_topi e_v4_3 ?_
        refine sg_istore (pn := 122) (i := 4) (lv' := [(0, .ref (ad 0)), (1, .int v1), (2, .int v2), (3, .int v3), (4, .int v4_3), (5, .int v5)]) dX12_order_120 rfl (Nat.le_of_ble_eq_true rfl) [1, 2, 3, 4, 0, 5] rfl ?_
        refine sg_iinc (pn := 125) (i := 5) (lv' := [(0, .ref (ad 0)), (1, .int v1), (2, .int v2), (3, .int v3), (4, .int v4_3), (5, .int (v5 + (1 : Int32)))]) dX12_order_122 rfl 5 rfl (ii_1 _) (Nat.le_of_ble_eq_true rfl) [1, 2, 3, 4, 5, 0] rfl ?_
        refine sg_goto (tgt := 109) dX12_order_125 (by decide) ?_
        exact ih.2.2.1 _ _ _ _ _ _ _ _ _ h
    · intro v1 v2 v3 v4 v5 v6 v7 z r h
      unfold gM_order_LL at h
      have h := sg_ifn (show ¬ (137 : Nat) = 49 by decide) h
      have h := sg_ifn (show ¬ (137 : Nat) = 61 by decide) h
      have h := sg_ifn (show ¬ (137 : Nat) = 109 by decide) h
      have h := sg_ifp (show (137 : Nat) = 137 from rfl) h
      refine sg_iload (pn := 139) (i := 7) dX12_order_137 rfl 7 rfl ?_
      refine sg_iload (pn := 141) (i := 4) dX12_order_139 rfl 4 rfl ?_
      refine sg_icmp_ge (pn := 144) (tgt := 192) dX12_order_141 rfl (by decide) (fun hc => ?_) (fun hc => ?_)
      · have h := sg_ifp hc h
        refine sg_iload_n (pn := 193) (i := 2) dX12_order_192 rfl rfl 2 rfl ?_
        refine sg_if_ne (pn := 196) (tgt := 201) dX12_order_193 rfl (by decide) (fun hc => ?_) (fun hc => ?_)
        · have h := sg_ifn hc h
          refine sg_iload (pn := 203) (i := 5) dX12_order_201 rfl 5 rfl ?_
          obtain rfl := Option.some.inj h
          exact sg_iret dX12_order_203 rfl ⟨rfl, rfl⟩
        · have h := sg_ifp hc h
          refine sg_iload (pn := 198) (i := 6) dX12_order_196 rfl 6 rfl ?_
          refine sg_goto (tgt := 203) dX12_order_198 (by decide) ?_
          obtain rfl := Option.some.inj h
          exact sg_iret dX12_order_203 rfl ⟨rfl, rfl⟩
      · have h := sg_ifn hc h
        refine sg_aload_n (pn := 145) (i := 0) dX12_order_144 rfl rfl 0 rfl ?_
        refine sg_iload (pn := 147) (i := 7) dX12_order_145 rfl 7 rfl ?_
        refine sg_iload_n (pn := 148) (i := 3) dX12_order_147 rfl rfl 3 rfl ?_
        refine sg_iload_n (pn := 149) (i := 1) dX12_order_148 rfl rfl 1 rfl ?_
        obtain ⟨r7, h_r7, h⟩ := sg_bind h
        refine sg_callVi (pn := 152) (rest := []) 0 dX12_order_149 rfl kb_X12_285 kv_X12_foundedBy (by exact rfl) rfl (Nat.le_of_ble_eq_true rfl) (gM_foundedBy_ok h_r7) rfl rfl (Nat.le_of_ble_eq_true rfl) ?_
        refine sg_istore (pn := 154) (i := 8) (lv' := [(0, .ref (ad 0)), (1, .int v1), (2, .int v2), (3, .int v3), (4, .int v4), (5, .int v5), (6, .int v6), (7, .int v7), (8, .int r7)]) dX12_order_152 rfl (Nat.le_of_ble_eq_true rfl) [1, 2, 3, 4, 5, 6, 7, 8, 0] rfl ?_
        refine sg_iload (pn := 156) (i := 8) dX12_order_154 rfl 8 rfl ?_
        refine sg_iload (pn := 158) (i := 6) dX12_order_156 rfl 6 rfl ?_
        obtain ⟨t8, e_t8, h2⟩ := sg_letJ h
        have hm_t8 : sg_G (eM l D cI cZ ad) yX12_order cX12_order 9 (some .int) 5 168 [(0, .ref (ad 0)), (1, .int v1), (2, .int v2), (3, .int v3), (4, .int v4), (6, .int v6), (7, .int v7), (8, .int r7)] [.int t8] z (sg_is (some (.int r.1)) r.2) := by
          have h := h2
          refine sg_istore (pn := 170) (i := 5) (lv' := [(0, .ref (ad 0)), (1, .int v1), (2, .int v2), (3, .int v3), (4, .int v4), (5, .int t8), (6, .int v6), (7, .int v7), (8, .int r7)]) dX12_order_168 rfl (Nat.le_of_ble_eq_true rfl) [1, 2, 3, 4, 5, 0, 6, 7, 8] rfl ?_
          refine sg_iload (pn := 172) (i := 8) dX12_order_170 rfl 8 rfl ?_
          refine sg_iload (pn := 174) (i := 6) dX12_order_172 rfl 6 rfl ?_
          obtain ⟨t9, e_t9, h2⟩ := sg_letJ h
          have hm_t9 : sg_G (eM l D cI cZ ad) yX12_order cX12_order 9 (some .int) 5 184 [(0, .ref (ad 0)), (1, .int v1), (2, .int v2), (3, .int v3), (4, .int v4), (5, .int t8), (7, .int v7)] [.int t9] z (sg_is (some (.int r.1)) r.2) := by
            have h := h2
            refine sg_istore (pn := 186) (i := 6) (lv' := [(0, .ref (ad 0)), (1, .int v1), (2, .int v2), (3, .int v3), (4, .int v4), (5, .int t8), (6, .int t9), (7, .int v7)]) dX12_order_184 rfl (Nat.le_of_ble_eq_true rfl) [1, 2, 3, 4, 5, 6, 0, 7] rfl ?_
            refine sg_iinc (pn := 189) (i := 7) (lv' := [(0, .ref (ad 0)), (1, .int v1), (2, .int v2), (3, .int v3), (4, .int v4), (5, .int t8), (6, .int t9), (7, .int (v7 + (1 : Int32)))]) dX12_order_186 rfl 7 rfl (ii_1 _) (Nat.le_of_ble_eq_true rfl) [1, 2, 3, 4, 5, 6, 7, 0] rfl ?_
            refine sg_goto (tgt := 137) dX12_order_189 (by decide) ?_
            exact ih.2.2.2 _ _ _ _ _ _ _ _ _ h
          have h := e_t9
          refine sg_icmp_le (pn := 177) (tgt := 182) dX12_order_174 rfl (by decide) (fun hc => ?_) (fun hc => ?_)
          · have h := sg_ifp hc h
            refine sg_iload (pn := 184) (i := 6) dX12_order_182 rfl 6 rfl ?_
            subst h
            refine sg_sub [0, 1, 2, 3, 4, 5, 7] rfl ?_
            exact hm_t9
          · have h := sg_ifn hc h
            refine sg_iload (pn := 179) (i := 8) dX12_order_177 rfl 8 rfl ?_
            refine sg_goto (tgt := 184) dX12_order_179 (by decide) ?_
            subst h
            refine sg_sub [0, 1, 2, 3, 4, 5, 7] rfl ?_
            exact hm_t9
        have h := e_t8
        refine sg_icmp_le (pn := 161) (tgt := 166) dX12_order_158 rfl (by decide) (fun hc => ?_) (fun hc => ?_)
        · have h := sg_ifp hc h
          refine sg_iload (pn := 168) (i := 5) dX12_order_166 rfl 5 rfl ?_
          subst h
          refine sg_sub [0, 1, 2, 3, 4, 6, 7, 8] rfl ?_
          exact hm_t8
        · have h := sg_ifn hc h
          refine sg_iload (pn := 163) (i := 7) dX12_order_161 rfl 7 rfl ?_
          refine sg_goto (tgt := 168) dX12_order_163 (by decide) ?_
          subst h
          refine sg_sub [0, 1, 2, 3, 4, 6, 7, 8] rfl ?_
          exact hm_t8
set_option maxRecDepth 4000 in
theorem gM_order_ok {l : Launch} {D : va_G} {cI cZ : ClassId} {ad : Nat → Nat} {n : Nat} {a1 : Int32} {a2 : Int32} {z : sg_M} {r : Int32 × sg_M} (h : gM_order n a1 a2 z = some r) : sg_Met (eM l D cI cZ ad) yX12_order cX12_order 9 (some .int) 5 [.ref (ad 0), .int a1, .int a2] z (sg_is (some (.int r.1)) r.2) := by
  refine sg_enter (lv0 := [(0, .ref (ad 0)), (1, .int a1), (2, .int a2)]) pn_X12 (Nat.le_of_ble_eq_true rfl) rfl ?_
  unfold gM_order at h
  refine sg_aload_n (pn := 1) (i := 0) dX12_order_0 rfl rfl 0 rfl ?_
  refine sg_iload_n (pn := 2) (i := 1) dX12_order_1 rfl rfl 1 rfl ?_
  refine sg_callVi (pn := 5) (rest := []) 0 dX12_order_2 rfl kb_X12_279 kv_X12_isSet (by exact rfl) rfl (Nat.le_of_ble_eq_true rfl) (gM_isSet_ok rfl) rfl rfl (Nat.le_of_ble_eq_true rfl) ?_
  refine sg_if_ne (pn := 8) (tgt := 11) dX12_order_5 rfl (by decide) (fun hc => ?_) (fun hc => ?_)
  · have h := sg_ifn hc h
    refine sg_iload_n (pn := 12) (i := 2) dX12_order_11 rfl rfl 2 rfl ?_
    refine sg_i2l (pn := 13) dX12_order_12 rfl ?_
    refine sg_lconst (pn := 14) dX12_order_13 rfl lc_0 ?_
    refine sg_lconst (pn := 15) dX12_order_14 rfl lc_1 ?_
    refine sg_callSi (pn := 18) (rest := []) dX12_order_15 rfl kb_X12_81 ks_X12_in (Nat.le_of_ble_eq_true rfl) (gM_in_ok rfl) rfl rfl (Nat.le_of_ble_eq_true rfl) ?_
    refine sg_if_ne (pn := 21) (tgt := 24) dX12_order_18 rfl (by decide) (fun hc => ?_) (fun hc => ?_)
    · have h := sg_ifn hc h
      refine sg_iload_n (pn := 25) (i := 1) dX12_order_24 rfl rfl 1 rfl ?_
      obtain ⟨r1, h_r1, h⟩ := sg_bind h
      refine sg_callSi (pn := 28) (rest := []) dX12_order_25 rfl kb_X12_282 ks_X12_bits (Nat.le_of_ble_eq_true rfl) (gM_bits_ok h_r1) rfl rfl (Nat.le_of_ble_eq_true rfl) ?_
      refine sg_istore_n (pn := 29) (i := 3) (lv' := [(0, .ref (ad 0)), (1, .int a1), (2, .int a2), (3, .int r1)]) dX12_order_28 rfl rfl (Nat.le_of_ble_eq_true rfl) [1, 2, 3, 0] rfl ?_
      refine sg_iload_n (pn := 30) (i := 3) dX12_order_29 rfl rfl 3 rfl ?_
      refine sg_iconst (pn := 31) dX12_order_30 rfl ic_5 ?_
      refine sg_icmp_gt (pn := 34) (tgt := 43) dX12_order_31 rfl (by decide) (fun hc => ?_) (fun hc => ?_)
      · have h := sg_ifp hc h
        refine sg_ldc (pn := 45) dX12_order_43 rfl kc_X12_232 ?_
        obtain rfl := Option.some.inj h
        exact sg_iret dX12_order_45 rfl ⟨rfl, rfl⟩
      · have h := sg_ifn hc h
        refine sg_iload_n (pn := 35) (i := 1) dX12_order_34 rfl rfl 1 rfl ?_
        refine sg_aload_n (pn := 36) (i := 0) dX12_order_35 rfl rfl 0 rfl ?_
        obtain ⟨r2, h_r2, h⟩ := sg_bind h
        refine sg_callVi (pn := 39) (rest := [.int a1]) 0 dX12_order_36 rfl kb_X12_204 kv_X12_stuckOnes (by exact rfl) rfl (Nat.le_of_ble_eq_true rfl) (gM_stuckOnes_ok h_r2) rfl rfl (Nat.le_of_ble_eq_true rfl) ?_
        refine sg_iand (pn := 40) dX12_order_39 rfl ?_
        refine sg_if_eq (pn := 43) (tgt := 46) dX12_order_40 rfl (by decide) (fun hc => ?_) (fun hc => ?_)
        · have h := sg_ifp hc h
          refine sg_iconst (pn := 47) dX12_order_46 rfl ic_0 ?_
          refine sg_istore (pn := 49) (i := 4) (lv' := [(0, .ref (ad 0)), (1, .int a1), (2, .int a2), (3, .int r1), (4, .int (0 : Int32))]) dX12_order_47 rfl (Nat.le_of_ble_eq_true rfl) [1, 2, 3, 4, 0] rfl ?_
          exact (gM_order_LL_ok n).1 _ _ _ _ _ _ _ _ _ h
        · have h := sg_ifn hc h
          refine sg_ldc (pn := 45) dX12_order_43 rfl kc_X12_232 ?_
          obtain rfl := Option.some.inj h
          exact sg_iret dX12_order_45 rfl ⟨rfl, rfl⟩
    · have h := sg_ifp hc h
      refine sg_ldc (pn := 23) dX12_order_21 rfl kc_X12_90 ?_
      obtain rfl := Option.some.inj h
      exact sg_iret dX12_order_23 rfl ⟨rfl, rfl⟩
  · have h := sg_ifp hc h
    refine sg_ldc (pn := 10) dX12_order_8 rfl kc_X12_225 ?_
    obtain rfl := Option.some.inj h
    exact sg_iret dX12_order_10 rfl ⟨rfl, rfl⟩
set_option maxRecDepth 4000 in
theorem gM_place_LL_ok {l : Launch} {D : va_G} {cI cZ : ClassId} {ad : Nat → Nat} : ∀ (n : Nat), (∀ (v1 : Int32) (v2 : Int32) (v3 : Int32) (v4 : Int32) (v5 : Int32) (v6 : Int32) (z : sg_M) (r : Int32), gM_place_LL n 31 v1 v2 v3 v4 v5 v6 z = some r → sg_G (eM l D cI cZ ad) yX12_place cX12_place 7 (some .int) 3 31 [(0, .ref (ad 0)), (1, .int v1), (2, .int v2), (3, .int v3), (4, .int v4)] [] z (sg_is (some (.int r)) z)) ∧ (∀ (v1 : Int32) (v2 : Int32) (v3 : Int32) (v4 : Int32) (v5 : Int32) (v6 : Int32) (z : sg_M) (r : Int32), gM_place_LL n 46 v1 v2 v3 v4 v5 v6 z = some r → sg_G (eM l D cI cZ ad) yX12_place cX12_place 7 (some .int) 3 46 [(0, .ref (ad 0)), (1, .int v1), (2, .int v2), (3, .int v3), (4, .int v4), (5, .int v5), (6, .int v6)] [] z (sg_is (some (.int r)) z)) := by
  intro n
  induction n with
  | zero => exact ⟨(fun _ _ _ _ _ _ _ _ h => by cases h), (fun _ _ _ _ _ _ _ _ h => by cases h)⟩
  | succ n ih =>
    refine ⟨?_, ?_⟩
    · intro v1 v2 v3 v4 v5 v6 z r h
      unfold gM_place_LL at h
      have h := sg_ifp (show (31 : Nat) = 31 from rfl) h
      refine sg_iload (pn := 33) (i := 4) dX12_place_31 rfl 4 rfl ?_
      refine sg_aload_n (pn := 34) (i := 0) dX12_place_33 rfl rfl 0 rfl ?_
      refine gfM_0_0 (pn := 37) dX12_place_34 rfl lf_X12_78 ?_
      refine sg_icmp_ge (pn := 40) (tgt := 133) dX12_place_37 rfl (by decide) (fun hc => ?_) (fun hc => ?_)
      · have h := sg_ifp hc h
        refine sg_iload_n (pn := 134) (i := 2) dX12_place_133 rfl rfl 2 rfl ?_
        refine sg_if_lt (pn := 137) (tgt := 141) dX12_place_134 rfl (by decide) (fun hc => ?_) (fun hc => ?_)
        · have h := sg_ifp hc h
          refine sg_iload_n (pn := 142) (i := 2) dX12_place_141 rfl rfl 2 rfl ?_
          refine sg_goto (tgt := 146) dX12_place_142 (by decide) ?_
          obtain rfl := Option.some.inj h
          exact sg_iret dX12_place_146 rfl ⟨rfl, rfl⟩
        · have h := sg_ifn hc h
          refine sg_iload_n (pn := 138) (i := 1) dX12_place_137 rfl rfl 1 rfl ?_
          refine sg_if_ne (pn := 141) (tgt := 145) dX12_place_138 rfl (by decide) (fun hc => ?_) (fun hc => ?_)
          · have h := sg_ifn hc h
            refine sg_iload_n (pn := 146) (i := 3) dX12_place_145 rfl rfl 3 rfl ?_
            obtain rfl := Option.some.inj h
            exact sg_iret dX12_place_146 rfl ⟨rfl, rfl⟩
          · have h := sg_ifp hc h
            refine sg_iload_n (pn := 142) (i := 2) dX12_place_141 rfl rfl 2 rfl ?_
            refine sg_goto (tgt := 146) dX12_place_142 (by decide) ?_
            obtain rfl := Option.some.inj h
            exact sg_iret dX12_place_146 rfl ⟨rfl, rfl⟩
      · have h := sg_ifn hc h
        refine sg_iconst (pn := 41) dX12_place_40 rfl ic_0 ?_
        refine sg_istore (pn := 43) (i := 5) (lv' := [(0, .ref (ad 0)), (1, .int v1), (2, .int v2), (3, .int v3), (4, .int v4), (5, .int (0 : Int32))]) dX12_place_41 rfl (Nat.le_of_ble_eq_true rfl) [1, 2, 3, 4, 5, 0] rfl ?_
        refine sg_iconst (pn := 44) dX12_place_43 rfl ic_0 ?_
        refine sg_istore (pn := 46) (i := 6) (lv' := [(0, .ref (ad 0)), (1, .int v1), (2, .int v2), (3, .int v3), (4, .int v4), (5, .int (0 : Int32)), (6, .int (0 : Int32))]) dX12_place_44 rfl (Nat.le_of_ble_eq_true rfl) [1, 2, 3, 4, 5, 6, 0] rfl ?_
        exact ih.2 _ _ _ _ _ _ _ _ h
    · intro v1 v2 v3 v4 v5 v6 z r h
      unfold gM_place_LL at h
      have h := sg_ifn (show ¬ (46 : Nat) = 31 by decide) h
      have h := sg_ifp (show (46 : Nat) = 46 from rfl) h
      refine sg_iload (pn := 48) (i := 6) dX12_place_46 rfl 6 rfl ?_
      refine sg_aload_n (pn := 49) (i := 0) dX12_place_48 rfl rfl 0 rfl ?_
      refine gfM_0_0 (pn := 52) dX12_place_49 rfl lf_X12_78 ?_
      refine sg_icmp_ge (pn := 55) (tgt := 81) dX12_place_52 rfl (by decide) (fun hc => ?_) (fun hc => ?_)
      · have h := sg_ifp hc h
        refine sg_aload_n (pn := 82) (i := 0) dX12_place_81 rfl rfl 0 rfl ?_
        refine sg_iload (pn := 84) (i := 4) dX12_place_82 rfl 4 rfl ?_
        obtain ⟨r1, h_r1, h⟩ := sg_bind h
        refine sg_callVi (pn := 87) (rest := []) 0 dX12_place_84 rfl kb_X12_183 kv_X12_isTown (by exact rfl) rfl (Nat.le_of_ble_eq_true rfl) (gM_isTown_ok h_r1) rfl rfl (Nat.le_of_ble_eq_true rfl) ?_
        obtain ⟨t2, e_t2, h2⟩ := sg_letJ h
        have hm_t2 : sg_G (eM l D cI cZ ad) yX12_place cX12_place 7 (some .int) 3 101 [(0, .ref (ad 0)), (1, .int v1), (2, .int v2), (3, .int v3), (4, .int v4), (5, .int v5)] [.int t2] z (sg_is (some (.int r)) z) := by
          have h := h2
          refine sg_istore (pn := 103) (i := 6) (lv' := [(0, .ref (ad 0)), (1, .int v1), (2, .int v2), (3, .int v3), (4, .int v4), (5, .int v5), (6, .int t2)]) dX12_place_101 rfl (Nat.le_of_ble_eq_true rfl) [1, 2, 3, 4, 5, 6, 0] rfl ?_
          refine sg_iload (pn := 105) (i := 6) dX12_place_103 rfl 6 rfl ?_
          obtain ⟨t3, e_t3, h2⟩ := sg_letJ h
          have hm_t3 : sg_G (eM l D cI cZ ad) yX12_place cX12_place 7 (some .int) 3 114 [(0, .ref (ad 0)), (1, .int v1), (3, .int v3), (4, .int v4), (5, .int v5), (6, .int t2)] [.int t3] z (sg_is (some (.int r)) z) := by
            have h := h2
            refine sg_istore_n (pn := 115) (i := 2) (lv' := [(0, .ref (ad 0)), (1, .int v1), (2, .int t3), (3, .int v3), (4, .int v4), (5, .int v5), (6, .int t2)]) dX12_place_114 rfl rfl (Nat.le_of_ble_eq_true rfl) [1, 2, 0, 3, 4, 5, 6] rfl ?_
            refine sg_iload (pn := 117) (i := 6) dX12_place_115 rfl 6 rfl ?_
            obtain ⟨t4, e_t4, h2⟩ := sg_letJ h
            have hm_t4 : sg_G (eM l D cI cZ ad) yX12_place cX12_place 7 (some .int) 3 126 [(0, .ref (ad 0)), (1, .int v1), (2, .int t3), (4, .int v4)] [.int t4] z (sg_is (some (.int r)) z) := by
              have h := h2
              refine sg_istore_n (pn := 127) (i := 3) (lv' := [(0, .ref (ad 0)), (1, .int v1), (2, .int t3), (3, .int t4), (4, .int v4)]) dX12_place_126 rfl rfl (Nat.le_of_ble_eq_true rfl) [1, 2, 3, 0, 4] rfl ?_
              refine sg_iinc (pn := 130) (i := 4) (lv' := [(0, .ref (ad 0)), (1, .int v1), (2, .int t3), (3, .int t4), (4, .int (v4 + (1 : Int32)))]) dX12_place_127 rfl 4 rfl (ii_1 _) (Nat.le_of_ble_eq_true rfl) [1, 2, 3, 4, 0] rfl ?_
              refine sg_goto (tgt := 31) dX12_place_130 (by decide) ?_
              exact ih.1 _ _ _ _ _ _ _ _ h
            have h := e_t4
            refine sg_if_eq (pn := 120) (tgt := 125) dX12_place_117 rfl (by decide) (fun hc => ?_) (fun hc => ?_)
            · have h := sg_ifp hc h
              refine sg_iload_n (pn := 126) (i := 3) dX12_place_125 rfl rfl 3 rfl ?_
              subst h
              refine sg_sub [0, 1, 2, 4] rfl ?_
              exact hm_t4
            · have h := sg_ifn hc h
              refine sg_iload (pn := 122) (i := 5) dX12_place_120 rfl 5 rfl ?_
              refine sg_goto (tgt := 126) dX12_place_122 (by decide) ?_
              subst h
              refine sg_sub [0, 1, 2, 4] rfl ?_
              exact hm_t4
          have h := e_t3
          refine sg_if_eq (pn := 108) (tgt := 113) dX12_place_105 rfl (by decide) (fun hc => ?_) (fun hc => ?_)
          · have h := sg_ifp hc h
            refine sg_iload_n (pn := 114) (i := 2) dX12_place_113 rfl rfl 2 rfl ?_
            subst h
            refine sg_sub [0, 1, 3, 4, 5, 6] rfl ?_
            exact hm_t3
          · have h := sg_ifn hc h
            refine sg_iload (pn := 110) (i := 4) dX12_place_108 rfl 4 rfl ?_
            refine sg_goto (tgt := 114) dX12_place_110 (by decide) ?_
            subst h
            refine sg_sub [0, 1, 3, 4, 5, 6] rfl ?_
            exact hm_t3
        have h := e_t2
        refine sg_if_ne (pn := 90) (tgt := 100) dX12_place_87 rfl (by decide) (fun hc => ?_) (fun hc => ?_)
        · have h := sg_ifn hc h
          refine sg_iconst (pn := 101) dX12_place_100 rfl ic_0 ?_
          subst h
          refine sg_sub [0, 1, 2, 3, 4, 5] rfl ?_
          exact hm_t2
        · have h := sg_ifp hc h
          refine sg_iload (pn := 92) (i := 5) dX12_place_90 rfl 5 rfl ?_
          refine sg_iload_n (pn := 93) (i := 3) dX12_place_92 rfl rfl 3 rfl ?_
          refine sg_icmp_ge (pn := 96) (tgt := 100) dX12_place_93 rfl (by decide) (fun hc => ?_) (fun hc => ?_)
          · have h := sg_ifp hc h
            refine sg_iconst (pn := 101) dX12_place_100 rfl ic_0 ?_
            subst h
            refine sg_sub [0, 1, 2, 3, 4, 5] rfl ?_
            exact hm_t2
          · have h := sg_ifn hc h
            refine sg_iconst (pn := 97) dX12_place_96 rfl ic_1 ?_
            refine sg_goto (tgt := 101) dX12_place_97 (by decide) ?_
            subst h
            refine sg_sub [0, 1, 2, 3, 4, 5] rfl ?_
            exact hm_t2
      · have h := sg_ifn hc h
        refine sg_iload (pn := 57) (i := 5) dX12_place_55 rfl 5 rfl ?_
        refine sg_aload_n (pn := 58) (i := 0) dX12_place_57 rfl rfl 0 rfl ?_
        refine sg_iload (pn := 60) (i := 6) dX12_place_58 rfl 6 rfl ?_
        refine sg_aload_n (pn := 61) (i := 0) dX12_place_60 rfl rfl 0 rfl ?_
        obtain ⟨r5, h_r5, h⟩ := sg_bind h
        refine sg_callVi (pn := 64) (rest := [.int v6, .ref (ad 0), .int v5]) 0 dX12_place_61 rfl kb_X12_198 kv_X12_towns (by exact rfl) rfl (Nat.le_of_ble_eq_true rfl) (gM_towns_ok h_r5) rfl rfl (Nat.le_of_ble_eq_true rfl) ?_
        refine sg_iconst (pn := 65) dX12_place_64 rfl ic_1 ?_
        refine sg_iload (pn := 67) (i := 4) dX12_place_65 rfl 4 rfl ?_
        refine sg_ishl (pn := 68) dX12_place_67 rfl ?_
        refine sg_ior (pn := 69) dX12_place_68 rfl ?_
        obtain ⟨r6, h_r6, h⟩ := sg_bind h
        refine sg_callVi (pn := 72) (rest := [.int v5]) 0 dX12_place_69 rfl kb_X12_201 kv_X12_distanceTo (by exact rfl) rfl (Nat.le_of_ble_eq_true rfl) (gM_distanceTo_ok h_r6) rfl rfl (Nat.le_of_ble_eq_true rfl) ?_
        refine sg_iadd (pn := 73) dX12_place_72 rfl ?_
        obtain ⟨v5_7, e_v5_7, h⟩ := sg_letE h
        refine sg_topi e_v5_7 ?_
        refine sg_istore (pn := 75) (i := 5) (lv' := [(0, .ref (ad 0)), (1, .int v1), (2, .int v2), (3, .int v3), (4, .int v4), (5, .int v5_7), (6, .int v6)]) dX12_place_73 rfl (Nat.le_of_ble_eq_true rfl) [1, 2, 3, 4, 5, 0, 6] rfl ?_
        refine sg_iinc (pn := 78) (i := 6) (lv' := [(0, .ref (ad 0)), (1, .int v1), (2, .int v2), (3, .int v3), (4, .int v4), (5, .int v5_7), (6, .int (v6 + (1 : Int32)))]) dX12_place_75 rfl 6 rfl (ii_1 _) (Nat.le_of_ble_eq_true rfl) [1, 2, 3, 4, 5, 6, 0] rfl ?_
        refine sg_goto (tgt := 46) dX12_place_78 (by decide) ?_
        exact ih.2 _ _ _ _ _ _ _ _ h
set_option maxRecDepth 4000 in
theorem gM_place_ok {l : Launch} {D : va_G} {cI cZ : ClassId} {ad : Nat → Nat} {n : Nat} {a1 : Int32} {z : sg_M} {r : Int32} (h : gM_place n a1 z = some r) : sg_Met (eM l D cI cZ ad) yX12_place cX12_place 7 (some .int) 3 [.ref (ad 0), .int a1] z (sg_is (some (.int r)) z) := by
  refine sg_enter (lv0 := [(0, .ref (ad 0)), (1, .int a1)]) pn_X12 (Nat.le_of_ble_eq_true rfl) rfl ?_
  unfold gM_place at h
  refine sg_iload_n (pn := 1) (i := 1) dX12_place_0 rfl rfl 1 rfl ?_
  refine sg_i2l (pn := 2) dX12_place_1 rfl ?_
  refine sg_lconst (pn := 3) dX12_place_2 rfl lc_0 ?_
  refine sg_lconst (pn := 4) dX12_place_3 rfl lc_1 ?_
  refine sg_callSi (pn := 7) (rest := []) dX12_place_4 rfl kb_X12_81 ks_X12_in (Nat.le_of_ble_eq_true rfl) (gM_in_ok rfl) rfl rfl (Nat.le_of_ble_eq_true rfl) ?_
  refine sg_if_ne (pn := 10) (tgt := 13) dX12_place_7 rfl (by decide) (fun hc => ?_) (fun hc => ?_)
  · have h := sg_ifn hc h
    refine sg_aload_n (pn := 14) (i := 0) dX12_place_13 rfl rfl 0 rfl ?_
    refine gfM_0_0 (pn := 17) dX12_place_14 rfl lf_X12_78 ?_
    refine sg_if_ne (pn := 20) (tgt := 23) dX12_place_17 rfl (by decide) (fun hc => ?_) (fun hc => ?_)
    · have h := sg_ifn hc h
      refine sg_iconst (pn := 24) dX12_place_23 rfl ic_m1 ?_
      refine sg_istore_n (pn := 25) (i := 2) (lv' := [(0, .ref (ad 0)), (1, .int a1), (2, .int (-1 : Int32))]) dX12_place_24 rfl rfl (Nat.le_of_ble_eq_true rfl) [1, 2, 0] rfl ?_
      refine sg_ldc (pn := 27) dX12_place_25 rfl kc_X12_193 ?_
      refine sg_istore_n (pn := 28) (i := 3) (lv' := [(0, .ref (ad 0)), (1, .int a1), (2, .int (-1 : Int32)), (3, .int (1000000 : Int32))]) dX12_place_27 rfl rfl (Nat.le_of_ble_eq_true rfl) [1, 2, 3, 0] rfl ?_
      refine sg_iconst (pn := 29) dX12_place_28 rfl ic_0 ?_
      refine sg_istore (pn := 31) (i := 4) (lv' := [(0, .ref (ad 0)), (1, .int a1), (2, .int (-1 : Int32)), (3, .int (1000000 : Int32)), (4, .int (0 : Int32))]) dX12_place_29 rfl (Nat.le_of_ble_eq_true rfl) [1, 2, 3, 4, 0] rfl ?_
      exact (gM_place_LL_ok n).1 _ _ _ _ _ _ _ _ h
    · have h := sg_ifp hc h
      refine sg_ldc (pn := 22) dX12_place_20 rfl kc_X12_232 ?_
      obtain rfl := Option.some.inj h
      exact sg_iret dX12_place_22 rfl ⟨rfl, rfl⟩
  · have h := sg_ifp hc h
    refine sg_ldc (pn := 12) dX12_place_10 rfl kc_X12_90 ?_
    obtain rfl := Option.some.inj h
    exact sg_iret dX12_place_12 rfl ⟨rfl, rfl⟩
set_option maxRecDepth 4000 in
theorem gM_said_L_ok {l : Launch} {D : va_G} {cI cZ : ClassId} {ad : Nat → Nat} : ∀ (n : Nat) (v1 : Int32) (v2 : Int32) (v3 : Int32) (z : sg_M) (r : Int32), gM_said_L n v1 v2 v3 z = some r → sg_G (eM l D cI cZ ad) yX12_said cX12_said 4 (some .int) 2 19 [(0, .ref (ad 0)), (1, .int v1), (2, .int v2), (3, .int v3)] [] z (sg_is (some (.int r)) z) := by
  intro n
  induction n with
  | zero => intro v1 v2 v3 z r h; cases h
  | succ n ih =>
    intro v1 v2 v3 z r h
    unfold gM_said_L at h
    refine sg_iload_n (pn := 20) (i := 3) dX12_said_19 rfl rfl 3 rfl ?_
    refine sg_aload_n (pn := 21) (i := 0) dX12_said_20 rfl rfl 0 rfl ?_
    refine gfM_0_0 (pn := 24) dX12_said_21 rfl lf_X12_78 ?_
    refine sg_icmp_ge (pn := 27) (tgt := 54) dX12_said_24 rfl (by decide) (fun hc => ?_) (fun hc => ?_)
    · have h := sg_ifp hc h
      refine sg_iload_n (pn := 55) (i := 2) dX12_said_54 rfl rfl 2 rfl ?_
      obtain rfl := Option.some.inj h
      exact sg_iret dX12_said_55 rfl ⟨rfl, rfl⟩
    · have h := sg_ifn hc h
      refine sg_iload_n (pn := 28) (i := 2) dX12_said_27 rfl rfl 2 rfl ?_
      refine sg_aload_n (pn := 29) (i := 0) dX12_said_28 rfl rfl 0 rfl ?_
      refine gfM_0_8 (pn := 32) dX12_said_29 rfl lf_X12_25 ?_
      refine sg_bipush (pn := 34) dX12_said_32 rfl ib_20 ?_
      refine sg_iload_n (pn := 35) (i := 3) dX12_said_34 rfl rfl 3 rfl ?_
      refine sg_iadd (pn := 36) dX12_said_35 rfl ?_
      obtain ⟨hg, h⟩ := sg_guard h
      refine alM_6 (pn := 37) dX12_said_36 rfl (sg_in_vp hg) ?_
      refine sg_iload_n (pn := 38) (i := 1) dX12_said_37 rfl rfl 1 rfl ?_
      obtain ⟨t1, e_t1, h2⟩ := sg_letJ h
      have hm_t1 : sg_G (eM l D cI cZ ad) yX12_said cX12_said 4 (some .int) 2 46 [(0, .ref (ad 0)), (1, .int v1), (3, .int v3)] [.int t1, .int v2] z (sg_is (some (.int r)) z) := by
        have h := h2
        refine sg_iadd (pn := 47) dX12_said_46 rfl ?_
        obtain ⟨v2_2, e_v2_2, h⟩ := sg_letE h
        refine sg_topi e_v2_2 ?_
        refine sg_istore_n (pn := 48) (i := 2) (lv' := [(0, .ref (ad 0)), (1, .int v1), (2, .int v2_2), (3, .int v3)]) dX12_said_47 rfl rfl (Nat.le_of_ble_eq_true rfl) [1, 2, 0, 3] rfl ?_
        refine sg_iinc (pn := 51) (i := 3) (lv' := [(0, .ref (ad 0)), (1, .int v1), (2, .int v2_2), (3, .int (v3 + (1 : Int32)))]) dX12_said_48 rfl 3 rfl (ii_1 _) (Nat.le_of_ble_eq_true rfl) [1, 2, 3, 0] rfl ?_
        refine sg_goto (tgt := 19) dX12_said_51 (by decide) ?_
        exact ih _ _ _ _ _ h
      have h := e_t1
      refine sg_icmp_ne (pn := 41) (tgt := 45) dX12_said_38 rfl (by decide) (fun hc => ?_) (fun hc => ?_)
      · have h := sg_ifn hc h
        refine sg_iconst (pn := 46) dX12_said_45 rfl ic_0 ?_
        subst h
        refine sg_sub [0, 1, 3] rfl ?_
        exact hm_t1
      · have h := sg_ifp hc h
        refine sg_iconst (pn := 42) dX12_said_41 rfl ic_1 ?_
        refine sg_goto (tgt := 46) dX12_said_42 (by decide) ?_
        subst h
        refine sg_sub [0, 1, 3] rfl ?_
        exact hm_t1
set_option maxRecDepth 4000 in
theorem gM_said_ok {l : Launch} {D : va_G} {cI cZ : ClassId} {ad : Nat → Nat} {n : Nat} {a1 : Int32} {z : sg_M} {r : Int32} (h : gM_said n a1 z = some r) : sg_Met (eM l D cI cZ ad) yX12_said cX12_said 4 (some .int) 2 [.ref (ad 0), .int a1] z (sg_is (some (.int r)) z) := by
  refine sg_enter (lv0 := [(0, .ref (ad 0)), (1, .int a1)]) pn_X12 (Nat.le_of_ble_eq_true rfl) rfl ?_
  unfold gM_said at h
  refine sg_iload_n (pn := 1) (i := 1) dX12_said_0 rfl rfl 1 rfl ?_
  refine sg_i2l (pn := 2) dX12_said_1 rfl ?_
  refine sg_lconst (pn := 3) dX12_said_2 rfl lc_0 ?_
  refine sg_ldc2 (pn := 6) dX12_said_3 rfl kl_X12_288 ?_
  refine sg_callSi (pn := 9) (rest := []) dX12_said_6 rfl kb_X12_81 ks_X12_in (Nat.le_of_ble_eq_true rfl) (gM_in_ok rfl) rfl rfl (Nat.le_of_ble_eq_true rfl) ?_
  refine sg_if_ne (pn := 12) (tgt := 15) dX12_said_9 rfl (by decide) (fun hc => ?_) (fun hc => ?_)
  · have h := sg_ifn hc h
    refine sg_iconst (pn := 16) dX12_said_15 rfl ic_0 ?_
    refine sg_istore_n (pn := 17) (i := 2) (lv' := [(0, .ref (ad 0)), (1, .int a1), (2, .int (0 : Int32))]) dX12_said_16 rfl rfl (Nat.le_of_ble_eq_true rfl) [1, 2, 0] rfl ?_
    refine sg_iconst (pn := 18) dX12_said_17 rfl ic_0 ?_
    refine sg_istore_n (pn := 19) (i := 3) (lv' := [(0, .ref (ad 0)), (1, .int a1), (2, .int (0 : Int32)), (3, .int (0 : Int32))]) dX12_said_18 rfl rfl (Nat.le_of_ble_eq_true rfl) [1, 2, 3, 0] rfl ?_
    exact gM_said_L_ok n _ _ _ _ _ h
  · have h := sg_ifp hc h
    refine sg_ldc (pn := 14) dX12_said_12 rfl kc_X12_90 ?_
    obtain rfl := Option.some.inj h
    exact sg_iret dX12_said_14 rfl ⟨rfl, rfl⟩
set_option maxRecDepth 4000 in
theorem gM_dry_L_ok {l : Launch} {D : va_G} {cI cZ : ClassId} {ad : Nat → Nat} : ∀ (n : Nat) (v1 : Int32) (v2 : Int32) (v3 : Int64) (v5 : Int32) (z : sg_M) (r : Int32), gM_dry_L n v1 v2 v3 v5 z = some r → sg_G (eM l D cI cZ ad) yX12_dry cX12_dry 6 (some .int) 2 34 [(1, .int v1), (2, .int v2), (3, .long v3), (5, .int v5)] [] z (sg_is (some (.int r)) z) := by
  intro n
  induction n with
  | zero => intro v1 v2 v3 v5 z r h; cases h
  | succ n ih =>
    intro v1 v2 v3 v5 z r h
    unfold gM_dry_L at h
    refine sg_iload (pn := 36) (i := 5) dX12_dry_34 rfl 3 rfl ?_
    refine sg_iload_n (pn := 37) (i := 1) dX12_dry_36 rfl rfl 0 rfl ?_
    refine sg_icmp_ge (pn := 40) (tgt := 55) dX12_dry_37 rfl (by decide) (fun hc => ?_) (fun hc => ?_)
    · have h := sg_ifp hc h
      refine sg_lload_n (pn := 56) (i := 3) dX12_dry_55 rfl rfl 2 rfl ?_
      refine sg_l2i (pn := 57) dX12_dry_56 rfl ?_
      obtain rfl := Option.some.inj h
      exact sg_iret dX12_dry_57 rfl ⟨rfl, rfl⟩
    · have h := sg_ifn hc h
      refine sg_lload_n (pn := 41) (i := 3) dX12_dry_40 rfl rfl 2 rfl ?_
      refine sg_iload_n (pn := 42) (i := 2) dX12_dry_41 rfl rfl 1 rfl ?_
      refine sg_i2l (pn := 43) dX12_dry_42 rfl ?_
      refine sg_lmul (pn := 44) dX12_dry_43 rfl ?_
      refine sg_ldc2 (pn := 47) dX12_dry_44 rfl kl_X12_272 ?_
      refine sg_ldiv (pn := 48) dX12_dry_47 rfl (by decide +kernel) ?_
      obtain ⟨v3_1, e_v3_1, h⟩ := sg_letE h
      refine sg_topl e_v3_1 ?_
      refine sg_lstore_n (pn := 49) (i := 3) (lv' := [(1, .int v1), (2, .int v2), (3, .long v3_1), (5, .int v5)]) dX12_dry_48 rfl rfl (Nat.le_of_ble_eq_true rfl) [1, 2, 0, 3] rfl ?_
      refine sg_iinc (pn := 52) (i := 5) (lv' := [(1, .int v1), (2, .int v2), (3, .long v3_1), (5, .int (v5 + (1 : Int32)))]) dX12_dry_49 rfl 3 rfl (ii_1 _) (Nat.le_of_ble_eq_true rfl) [1, 2, 3, 0] rfl ?_
      refine sg_goto (tgt := 34) dX12_dry_52 (by decide) ?_
      exact ih _ _ _ _ _ _ h
set_option maxRecDepth 4000 in
theorem gM_dry_ok {l : Launch} {D : va_G} {cI cZ : ClassId} {ad : Nat → Nat} {n : Nat} {a1 : Int32} {a2 : Int32} {z : sg_M} {r : Int32} (h : gM_dry n a1 a2 z = some r) : sg_Met (eM l D cI cZ ad) yX12_dry cX12_dry 6 (some .int) 2 [.ref (ad 0), .int a1, .int a2] z (sg_is (some (.int r)) z) := by
  refine sg_enter (lv0 := [(0, .ref (ad 0)), (1, .int a1), (2, .int a2)]) pn_X12 (Nat.le_of_ble_eq_true rfl) rfl ?_
  unfold gM_dry at h
  refine sg_iload_n (pn := 1) (i := 1) dX12_dry_0 rfl rfl 1 rfl ?_
  refine sg_i2l (pn := 2) dX12_dry_1 rfl ?_
  refine sg_lconst (pn := 3) dX12_dry_2 rfl lc_0 ?_
  refine sg_ldc2 (pn := 6) dX12_dry_3 rfl kl_X12_242 ?_
  refine sg_callSi (pn := 9) (rest := []) dX12_dry_6 rfl kb_X12_81 ks_X12_in (Nat.le_of_ble_eq_true rfl) (gM_in_ok rfl) rfl rfl (Nat.le_of_ble_eq_true rfl) ?_
  refine sg_if_eq (pn := 12) (tgt := 24) dX12_dry_9 rfl (by decide) (fun hc => ?_) (fun hc => ?_)
  · have h := sg_ifp hc h
    refine sg_ldc (pn := 26) dX12_dry_24 rfl kc_X12_90 ?_
    obtain rfl := Option.some.inj h
    exact sg_iret dX12_dry_26 rfl ⟨rfl, rfl⟩
  · have h := sg_ifn hc h
    refine sg_iload_n (pn := 13) (i := 2) dX12_dry_12 rfl rfl 2 rfl ?_
    refine sg_i2l (pn := 14) dX12_dry_13 rfl ?_
    refine sg_lconst (pn := 15) dX12_dry_14 rfl lc_0 ?_
    refine sg_ldc2 (pn := 18) dX12_dry_15 rfl kl_X12_272 ?_
    refine sg_callSi (pn := 21) (rest := []) dX12_dry_18 rfl kb_X12_81 ks_X12_in (Nat.le_of_ble_eq_true rfl) (gM_in_ok rfl) rfl rfl (Nat.le_of_ble_eq_true rfl) ?_
    refine sg_if_ne (pn := 24) (tgt := 27) dX12_dry_21 rfl (by decide) (fun hc => ?_) (fun hc => ?_)
    · have h := sg_ifn hc h
      refine sg_ldc2 (pn := 30) dX12_dry_27 rfl kl_X12_290 ?_
      refine sg_lstore_n (pn := 31) (i := 3) (lv' := [(0, .ref (ad 0)), (1, .int a1), (2, .int a2), (3, .long (1000000000 : Int64))]) dX12_dry_30 rfl rfl (Nat.le_of_ble_eq_true rfl) [1, 2, 3, 0] rfl ?_
      refine sg_iconst (pn := 32) dX12_dry_31 rfl ic_0 ?_
      refine sg_istore (pn := 34) (i := 5) (lv' := [(0, .ref (ad 0)), (1, .int a1), (2, .int a2), (3, .long (1000000000 : Int64)), (5, .int (0 : Int32))]) dX12_dry_32 rfl (Nat.le_of_ble_eq_true rfl) [1, 2, 3, 4, 0] rfl ?_
      refine sg_sub [1, 2, 3, 4] rfl ?_
      exact gM_dry_L_ok n _ _ _ _ _ _ h
    · have h := sg_ifp hc h
      refine sg_ldc (pn := 26) dX12_dry_24 rfl kc_X12_90 ?_
      obtain rfl := Option.some.inj h
      exact sg_iret dX12_dry_26 rfl ⟨rfl, rfl⟩
set_option maxRecDepth 4000 in
theorem gM_hear_ok {l : Launch} {D : va_G} {cI cZ : ClassId} {ad : Nat → Nat} {a1 : Int32} {a2 : Int32} {z : sg_M} {r : Int32 × sg_M} (h : gM_hear a1 a2 z = some r) : sg_Met (eM l D cI cZ ad) yX12_hear cX12_hear 3 (some .int) 3 [.ref (ad 0), .int a1, .int a2] z (sg_is (some (.int r.1)) r.2) := by
  refine sg_enter (lv0 := [(0, .ref (ad 0)), (1, .int a1), (2, .int a2)]) pn_X12 (Nat.le_of_ble_eq_true rfl) rfl ?_
  unfold gM_hear at h
  refine sg_aload_n (pn := 1) (i := 0) dX12_hear_0 rfl rfl 0 rfl ?_
  refine sg_iload_n (pn := 2) (i := 1) dX12_hear_1 rfl rfl 1 rfl ?_
  refine sg_callVi (pn := 5) (rest := []) 0 dX12_hear_2 rfl kb_X12_226 kv_X12_isCart (by exact rfl) rfl (Nat.le_of_ble_eq_true rfl) (gM_isCart_ok rfl) rfl rfl (Nat.le_of_ble_eq_true rfl) ?_
  refine sg_if_eq (pn := 8) (tgt := 21) dX12_hear_5 rfl (by decide) (fun hc => ?_) (fun hc => ?_)
  · have h := sg_ifp hc h
    refine sg_ldc (pn := 23) dX12_hear_21 rfl kc_X12_225 ?_
    obtain rfl := Option.some.inj h
    exact sg_iret dX12_hear_23 rfl ⟨rfl, rfl⟩
  · have h := sg_ifn hc h
    refine sg_iload_n (pn := 9) (i := 2) dX12_hear_8 rfl rfl 2 rfl ?_
    refine sg_iconst (pn := 10) dX12_hear_9 rfl ic_m1 ?_
    refine sg_icmp_eq (pn := 13) (tgt := 24) dX12_hear_10 rfl (by decide) (fun hc => ?_) (fun hc => ?_)
    · have h := sg_ifp hc h
      refine sg_aload_n (pn := 25) (i := 0) dX12_hear_24 rfl rfl 0 rfl ?_
      refine gfM_0_27 (pn := 28) dX12_hear_25 rfl lf_X12_154 ?_
      refine sg_bipush (pn := 30) dX12_hear_28 rfl ib_6 ?_
      refine sg_icmp_ne (pn := 33) (tgt := 36) dX12_hear_30 rfl (by decide) (fun hc => ?_) (fun hc => ?_)
      · have h := sg_ifn hc h
        refine sg_aload_n (pn := 37) (i := 0) dX12_hear_36 rfl rfl 0 rfl ?_
        refine gfM_0_28 (pn := 40) dX12_hear_37 rfl lf_X12_56 ?_
        refine sg_aload_n (pn := 41) (i := 0) dX12_hear_40 rfl rfl 0 rfl ?_
        refine gfM_0_27 (pn := 44) dX12_hear_41 rfl lf_X12_154 ?_
        refine sg_iload_n (pn := 45) (i := 1) dX12_hear_44 rfl rfl 1 rfl ?_
        obtain ⟨hg, h⟩ := sg_guard h
        refine asM_15 (pn := 46) dX12_hear_45 rfl (sg_in_vp hg) ?_
        obtain ⟨z1, e_z1, h⟩ := sg_letE h
        refine sg_zE e_z1 ?_
        refine sg_aload_n (pn := 47) (i := 0) dX12_hear_46 rfl rfl 0 rfl ?_
        refine gfM_0_29 (pn := 50) dX12_hear_47 rfl lf_X12_59 ?_
        refine sg_aload_n (pn := 51) (i := 0) dX12_hear_50 rfl rfl 0 rfl ?_
        refine gfM_0_27 (pn := 54) dX12_hear_51 rfl lf_X12_154 ?_
        refine sg_iload_n (pn := 55) (i := 2) dX12_hear_54 rfl rfl 2 rfl ?_
        obtain ⟨hg, h⟩ := sg_guard h
        refine asM_16 (pn := 56) dX12_hear_55 rfl (sg_in_vp hg) ?_
        obtain ⟨z2, e_z2, h⟩ := sg_letE h
        refine sg_zE e_z2 ?_
        refine sg_aload_n (pn := 57) (i := 0) dX12_hear_56 rfl rfl 0 rfl ?_
        refine sg_dup (pn := 58) dX12_hear_57 rfl rfl ?_
        refine gfM_0_27 (pn := 61) dX12_hear_58 rfl lf_X12_154 ?_
        refine sg_iconst (pn := 62) dX12_hear_61 rfl ic_1 ?_
        refine sg_iadd (pn := 63) dX12_hear_62 rfl ?_
        refine pfM_0_27 (pn := 66) dX12_hear_63 rfl lf_X12_154 ?_
        obtain ⟨z3, e_z3, h⟩ := sg_letE h
        refine sg_zE e_z3 ?_
        refine sg_aload_n (pn := 67) (i := 0) dX12_hear_66 rfl rfl 0 rfl ?_
        refine gfM_0_27 (pn := 70) dX12_hear_67 rfl lf_X12_154 ?_
        obtain rfl := Option.some.inj h
        exact sg_iret dX12_hear_70 rfl ⟨rfl, rfl⟩
      · have h := sg_ifp hc h
        refine sg_ldc (pn := 35) dX12_hear_33 rfl kc_X12_94 ?_
        obtain rfl := Option.some.inj h
        exact sg_iret dX12_hear_35 rfl ⟨rfl, rfl⟩
    · have h := sg_ifn hc h
      refine sg_aload_n (pn := 14) (i := 0) dX12_hear_13 rfl rfl 0 rfl ?_
      refine sg_iload_n (pn := 15) (i := 2) dX12_hear_14 rfl rfl 2 rfl ?_
      refine sg_callVi (pn := 18) (rest := []) 0 dX12_hear_15 rfl kb_X12_222 kv_X12_isCell (by exact rfl) rfl (Nat.le_of_ble_eq_true rfl) (gM_isCell_ok rfl) rfl rfl (Nat.le_of_ble_eq_true rfl) ?_
      refine sg_if_ne (pn := 21) (tgt := 24) dX12_hear_18 rfl (by decide) (fun hc => ?_) (fun hc => ?_)
      · have h := sg_ifn hc h
        refine sg_aload_n (pn := 25) (i := 0) dX12_hear_24 rfl rfl 0 rfl ?_
        refine gfM_0_27 (pn := 28) dX12_hear_25 rfl lf_X12_154 ?_
        refine sg_bipush (pn := 30) dX12_hear_28 rfl ib_6 ?_
        refine sg_icmp_ne (pn := 33) (tgt := 36) dX12_hear_30 rfl (by decide) (fun hc => ?_) (fun hc => ?_)
        · have h := sg_ifn hc h
          refine sg_aload_n (pn := 37) (i := 0) dX12_hear_36 rfl rfl 0 rfl ?_
          refine gfM_0_28 (pn := 40) dX12_hear_37 rfl lf_X12_56 ?_
          refine sg_aload_n (pn := 41) (i := 0) dX12_hear_40 rfl rfl 0 rfl ?_
          refine gfM_0_27 (pn := 44) dX12_hear_41 rfl lf_X12_154 ?_
          refine sg_iload_n (pn := 45) (i := 1) dX12_hear_44 rfl rfl 1 rfl ?_
          obtain ⟨hg, h⟩ := sg_guard h
          refine asM_15 (pn := 46) dX12_hear_45 rfl (sg_in_vp hg) ?_
          obtain ⟨z4, e_z4, h⟩ := sg_letE h
          refine sg_zE e_z4 ?_
          refine sg_aload_n (pn := 47) (i := 0) dX12_hear_46 rfl rfl 0 rfl ?_
          refine gfM_0_29 (pn := 50) dX12_hear_47 rfl lf_X12_59 ?_
          refine sg_aload_n (pn := 51) (i := 0) dX12_hear_50 rfl rfl 0 rfl ?_
          refine gfM_0_27 (pn := 54) dX12_hear_51 rfl lf_X12_154 ?_
          refine sg_iload_n (pn := 55) (i := 2) dX12_hear_54 rfl rfl 2 rfl ?_
          obtain ⟨hg, h⟩ := sg_guard h
          refine asM_16 (pn := 56) dX12_hear_55 rfl (sg_in_vp hg) ?_
          obtain ⟨z5, e_z5, h⟩ := sg_letE h
          refine sg_zE e_z5 ?_
          refine sg_aload_n (pn := 57) (i := 0) dX12_hear_56 rfl rfl 0 rfl ?_
          refine sg_dup (pn := 58) dX12_hear_57 rfl rfl ?_
          refine gfM_0_27 (pn := 61) dX12_hear_58 rfl lf_X12_154 ?_
          refine sg_iconst (pn := 62) dX12_hear_61 rfl ic_1 ?_
          refine sg_iadd (pn := 63) dX12_hear_62 rfl ?_
          refine pfM_0_27 (pn := 66) dX12_hear_63 rfl lf_X12_154 ?_
          obtain ⟨z6, e_z6, h⟩ := sg_letE h
          refine sg_zE e_z6 ?_
          refine sg_aload_n (pn := 67) (i := 0) dX12_hear_66 rfl rfl 0 rfl ?_
          refine gfM_0_27 (pn := 70) dX12_hear_67 rfl lf_X12_154 ?_
          obtain rfl := Option.some.inj h
          exact sg_iret dX12_hear_70 rfl ⟨rfl, rfl⟩
        · have h := sg_ifp hc h
          refine sg_ldc (pn := 35) dX12_hear_33 rfl kc_X12_94 ?_
          obtain rfl := Option.some.inj h
          exact sg_iret dX12_hear_35 rfl ⟨rfl, rfl⟩
      · have h := sg_ifp hc h
        refine sg_ldc (pn := 23) dX12_hear_21 rfl kc_X12_225 ?_
        obtain rfl := Option.some.inj h
        exact sg_iret dX12_hear_23 rfl ⟨rfl, rfl⟩
set_option maxRecDepth 4000 in
theorem gM_couldBe_L_ok {l : Launch} {D : va_G} {cI cZ : ClassId} {ad : Nat → Nat} : ∀ (n : Nat) (v1 : Int32) (v2 : Int32) (v3 : Int32) (z : sg_M) (r : Int32), gM_couldBe_L n v1 v2 v3 z = some r → sg_G (eM l D cI cZ ad) yX12_couldBe cX12_couldBe 4 (some .boolean) 5 4 [(0, .ref (ad 0)), (1, .int v1), (2, .int v2), (3, .int v3)] [] z (sg_is (some (.int r)) z) := by
  intro n
  induction n with
  | zero => intro v1 v2 v3 z r h; cases h
  | succ n ih =>
    intro v1 v2 v3 z r h
    unfold gM_couldBe_L at h
    refine sg_iload_n (pn := 5) (i := 3) dX12_couldBe_4 rfl rfl 3 rfl ?_
    refine sg_aload_n (pn := 6) (i := 0) dX12_couldBe_5 rfl rfl 0 rfl ?_
    refine gfM_0_27 (pn := 9) dX12_couldBe_6 rfl lf_X12_154 ?_
    refine sg_icmp_ge (pn := 12) (tgt := 48) dX12_couldBe_9 rfl (by decide) (fun hc => ?_) (fun hc => ?_)
    · have h := sg_ifp hc h
      refine sg_iload_n (pn := 49) (i := 2) dX12_couldBe_48 rfl rfl 2 rfl ?_
      obtain ⟨hg, h⟩ := sg_guard h
      obtain rfl := Option.some.inj h
      exact sg_zret dX12_couldBe_49 rfl (sg_bool_n hg) ⟨rfl, rfl⟩
    · have h := sg_ifn hc h
      refine sg_iload_n (pn := 13) (i := 2) dX12_couldBe_12 rfl rfl 2 rfl ?_
      refine sg_if_eq (pn := 16) (tgt := 48) dX12_couldBe_13 rfl (by decide) (fun hc => ?_) (fun hc => ?_)
      · have h := sg_ifp hc h
        refine sg_iload_n (pn := 49) (i := 2) dX12_couldBe_48 rfl rfl 2 rfl ?_
        obtain ⟨hg, h⟩ := sg_guard h
        obtain rfl := Option.some.inj h
        exact sg_zret dX12_couldBe_49 rfl (sg_bool_n hg) ⟨rfl, rfl⟩
      · have h := sg_ifn hc h
        refine sg_aload_n (pn := 17) (i := 0) dX12_couldBe_16 rfl rfl 0 rfl ?_
        refine sg_aload_n (pn := 18) (i := 0) dX12_couldBe_17 rfl rfl 0 rfl ?_
        refine gfM_0_28 (pn := 21) dX12_couldBe_18 rfl lf_X12_56 ?_
        refine sg_iload_n (pn := 22) (i := 3) dX12_couldBe_21 rfl rfl 3 rfl ?_
        obtain ⟨hg, h⟩ := sg_guard h
        refine alM_15 (pn := 23) dX12_couldBe_22 rfl (sg_in_vp hg) ?_
        refine sg_iload_n (pn := 24) (i := 1) dX12_couldBe_23 rfl rfl 1 rfl ?_
        obtain ⟨r1, h_r1, h⟩ := sg_bind h
        refine sg_callVi (pn := 27) (rest := []) 0 dX12_couldBe_24 rfl kb_X12_190 kv_X12_stopOf (by exact rfl) rfl (Nat.le_of_ble_eq_true rfl) (gM_stopOf_ok h_r1) rfl rfl (Nat.le_of_ble_eq_true rfl) ?_
        refine sg_aload_n (pn := 28) (i := 0) dX12_couldBe_27 rfl rfl 0 rfl ?_
        refine gfM_0_29 (pn := 31) dX12_couldBe_28 rfl lf_X12_59 ?_
        refine sg_iload_n (pn := 32) (i := 3) dX12_couldBe_31 rfl rfl 3 rfl ?_
        obtain ⟨hg, h⟩ := sg_guard h
        refine alM_16 (pn := 33) dX12_couldBe_32 rfl (sg_in_vp hg) ?_
        obtain ⟨t2, e_t2, h2⟩ := sg_letJ h
        have hm_t2 : sg_G (eM l D cI cZ ad) yX12_couldBe cX12_couldBe 4 (some .boolean) 5 41 [(0, .ref (ad 0)), (1, .int v1), (3, .int v3)] [.int t2] z (sg_is (some (.int r)) z) := by
          have h := h2
          refine sg_istore_n (pn := 42) (i := 2) (lv' := [(0, .ref (ad 0)), (1, .int v1), (2, .int t2), (3, .int v3)]) dX12_couldBe_41 rfl rfl (Nat.le_of_ble_eq_true rfl) [1, 2, 0, 3] rfl ?_
          refine sg_iinc (pn := 45) (i := 3) (lv' := [(0, .ref (ad 0)), (1, .int v1), (2, .int t2), (3, .int (v3 + (1 : Int32)))]) dX12_couldBe_42 rfl 3 rfl (ii_1 _) (Nat.le_of_ble_eq_true rfl) [1, 2, 3, 0] rfl ?_
          refine sg_goto (tgt := 4) dX12_couldBe_45 (by decide) ?_
          exact ih _ _ _ _ _ h
        have h := e_t2
        refine sg_icmp_ne (pn := 36) (tgt := 40) dX12_couldBe_33 rfl (by decide) (fun hc => ?_) (fun hc => ?_)
        · have h := sg_ifn hc h
          refine sg_iconst (pn := 41) dX12_couldBe_40 rfl ic_0 ?_
          subst h
          refine sg_sub [0, 1, 3] rfl ?_
          exact hm_t2
        · have h := sg_ifp hc h
          refine sg_iconst (pn := 37) dX12_couldBe_36 rfl ic_1 ?_
          refine sg_goto (tgt := 41) dX12_couldBe_37 (by decide) ?_
          subst h
          refine sg_sub [0, 1, 3] rfl ?_
          exact hm_t2
set_option maxRecDepth 4000 in
theorem gM_couldBe_ok {l : Launch} {D : va_G} {cI cZ : ClassId} {ad : Nat → Nat} {n : Nat} {a1 : Int32} {z : sg_M} {r : Int32} (h : gM_couldBe n a1 z = some r) : sg_Met (eM l D cI cZ ad) yX12_couldBe cX12_couldBe 4 (some .boolean) 5 [.ref (ad 0), .int a1] z (sg_is (some (.int r)) z) := by
  refine sg_enter (lv0 := [(0, .ref (ad 0)), (1, .int a1)]) pn_X12 (Nat.le_of_ble_eq_true rfl) rfl ?_
  unfold gM_couldBe at h
  refine sg_iconst (pn := 1) dX12_couldBe_0 rfl ic_1 ?_
  refine sg_istore_n (pn := 2) (i := 2) (lv' := [(0, .ref (ad 0)), (1, .int a1), (2, .int (1 : Int32))]) dX12_couldBe_1 rfl rfl (Nat.le_of_ble_eq_true rfl) [1, 2, 0] rfl ?_
  refine sg_iconst (pn := 3) dX12_couldBe_2 rfl ic_0 ?_
  refine sg_istore_n (pn := 4) (i := 3) (lv' := [(0, .ref (ad 0)), (1, .int a1), (2, .int (1 : Int32)), (3, .int (0 : Int32))]) dX12_couldBe_3 rfl rfl (Nat.le_of_ble_eq_true rfl) [1, 2, 3, 0] rfl ?_
  exact gM_couldBe_L_ok n _ _ _ _ _ h
set_option maxRecDepth 4000 in
theorem gM_rains_L_ok {l : Launch} {D : va_G} {cI cZ : ClassId} {ad : Nat → Nat} : ∀ (n : Nat) (v1 : Int32) (v2 : Int32) (v3 : Int32) (v4 : Int32) (v5 : Int32) (z : sg_M) (r : Int32), gM_rains_L n v1 v2 v3 v4 v5 z = some r → sg_G (eM l D cI cZ ad) yX12_rains cX12_rains 6 (some .int) 6 25 [(0, .ref (ad 0)), (1, .int v1), (2, .int v2), (3, .int v3), (4, .int v4), (5, .int v5)] [] z (sg_is (some (.int r)) z) := by
  intro n
  induction n with
  | zero => intro v1 v2 v3 v4 v5 z r h; cases h
  | succ n ih =>
    intro v1 v2 v3 v4 v5 z r h
    unfold gM_rains_L at h
    refine sg_iload (pn := 27) (i := 5) dX12_rains_25 rfl 5 rfl ?_
    refine sg_bipush (pn := 29) dX12_rains_27 rfl ib_60 ?_
    refine sg_icmp_gt (pn := 32) (tgt := 65) dX12_rains_29 rfl (by decide) (fun hc => ?_) (fun hc => ?_)
    · have h := sg_ifp hc h
      refine sg_iload_n (pn := 66) (i := 1) dX12_rains_65 rfl rfl 1 rfl ?_
      refine sg_if_ne (pn := 69) (tgt := 73) dX12_rains_66 rfl (by decide) (fun hc => ?_) (fun hc => ?_)
      · have h := sg_ifn hc h
        refine sg_iload_n (pn := 74) (i := 1) dX12_rains_73 rfl rfl 1 rfl ?_
        refine sg_iconst (pn := 75) dX12_rains_74 rfl ic_1 ?_
        refine sg_icmp_ne (pn := 78) (tgt := 82) dX12_rains_75 rfl (by decide) (fun hc => ?_) (fun hc => ?_)
        · have h := sg_ifn hc h
          refine sg_iload (pn := 84) (i := 4) dX12_rains_82 rfl 4 rfl ?_
          obtain rfl := Option.some.inj h
          exact sg_iret dX12_rains_84 rfl ⟨rfl, rfl⟩
        · have h := sg_ifp hc h
          refine sg_iload_n (pn := 79) (i := 3) dX12_rains_78 rfl rfl 3 rfl ?_
          refine sg_goto (tgt := 84) dX12_rains_79 (by decide) ?_
          obtain rfl := Option.some.inj h
          exact sg_iret dX12_rains_84 rfl ⟨rfl, rfl⟩
      · have h := sg_ifp hc h
        refine sg_iload_n (pn := 70) (i := 2) dX12_rains_69 rfl rfl 2 rfl ?_
        refine sg_goto (tgt := 84) dX12_rains_70 (by decide) ?_
        obtain rfl := Option.some.inj h
        exact sg_iret dX12_rains_84 rfl ⟨rfl, rfl⟩
    · have h := sg_ifn hc h
      refine sg_aload_n (pn := 33) (i := 0) dX12_rains_32 rfl rfl 0 rfl ?_
      refine sg_iload (pn := 35) (i := 5) dX12_rains_33 rfl 5 rfl ?_
      obtain ⟨r1, h_r1, h⟩ := sg_bind h
      refine sg_callVi (pn := 38) (rest := []) 0 dX12_rains_35 rfl kb_X12_292 kv_X12_couldBe (by exact rfl) rfl (Nat.le_of_ble_eq_true rfl) (gM_couldBe_ok h_r1) rfl rfl (Nat.le_of_ble_eq_true rfl) ?_
      obtain ⟨t3, e_t3, h2⟩ := sg_bind h
      have hm_t3 : sg_G (eM l D cI cZ ad) yX12_rains cX12_rains 6 (some .int) 6 59 [(0, .ref (ad 0)), (1, .int v1), (2, .int t3.1), (3, .int t3.2.1), (4, .int t3.2.2), (5, .int v5)] [] z (sg_is (some (.int r)) z) := by
        have h := h2
        refine sg_iinc (pn := 62) (i := 5) (lv' := [(0, .ref (ad 0)), (1, .int v1), (2, .int t3.1), (3, .int t3.2.1), (4, .int t3.2.2), (5, .int (v5 + (1 : Int32)))]) dX12_rains_59 rfl 5 rfl (ii_1 _) (Nat.le_of_ble_eq_true rfl) [1, 2, 3, 4, 5, 0] rfl ?_
        refine sg_goto (tgt := 25) dX12_rains_62 (by decide) ?_
        exact ih _ _ _ _ _ _ _ h
      have h := e_t3
      refine sg_if_eq (pn := 41) (tgt := 59) dX12_rains_38 rfl (by decide) (fun hc => ?_) (fun hc => ?_)
      · have h := sg_ifp hc h
        obtain rfl := Option.some.inj h
        exact hm_t3
      · have h := sg_ifn hc h
        refine sg_iload_n (pn := 42) (i := 2) dX12_rains_41 rfl rfl 2 rfl ?_
        obtain ⟨t2, e_t2, h2⟩ := sg_letJ h
        have hm_t2 : sg_G (eM l D cI cZ ad) yX12_rains cX12_rains 6 (some .int) 6 51 [(0, .ref (ad 0)), (1, .int v1), (2, .int v2), (5, .int v5)] [.int t2] z (sg_is (some (.int r)) z) := by
          have h := h2
          refine sg_istore_n (pn := 52) (i := 3) (lv' := [(0, .ref (ad 0)), (1, .int v1), (2, .int v2), (3, .int t2), (5, .int v5)]) dX12_rains_51 rfl rfl (Nat.le_of_ble_eq_true rfl) [1, 2, 3, 0, 4] rfl ?_
          refine sg_iload (pn := 54) (i := 5) dX12_rains_52 rfl 4 rfl ?_
          refine sg_istore (pn := 56) (i := 4) (lv' := [(0, .ref (ad 0)), (1, .int v1), (2, .int v2), (3, .int t2), (4, .int v5), (5, .int v5)]) dX12_rains_54 rfl (Nat.le_of_ble_eq_true rfl) [1, 2, 3, 4, 0, 5] rfl ?_
          refine sg_iinc (pn := 59) (i := 2) (lv' := [(0, .ref (ad 0)), (1, .int v1), (2, .int (v2 + (1 : Int32))), (3, .int t2), (4, .int v5), (5, .int v5)]) dX12_rains_56 rfl 2 rfl (ii_1 _) (Nat.le_of_ble_eq_true rfl) [1, 2, 0, 3, 4, 5] rfl ?_
          obtain rfl := Option.some.inj h
          exact hm_t3
        have h := e_t2
        refine sg_if_ne (pn := 45) (tgt := 50) dX12_rains_42 rfl (by decide) (fun hc => ?_) (fun hc => ?_)
        · have h := sg_ifn hc h
          refine sg_iload_n (pn := 51) (i := 3) dX12_rains_50 rfl rfl 3 rfl ?_
          subst h
          refine sg_sub [0, 1, 2, 5] rfl ?_
          exact hm_t2
        · have h := sg_ifp hc h
          refine sg_iload (pn := 47) (i := 5) dX12_rains_45 rfl 5 rfl ?_
          refine sg_goto (tgt := 51) dX12_rains_47 (by decide) ?_
          subst h
          refine sg_sub [0, 1, 2, 5] rfl ?_
          exact hm_t2
set_option maxRecDepth 4000 in
theorem gM_rains_ok {l : Launch} {D : va_G} {cI cZ : ClassId} {ad : Nat → Nat} {n : Nat} {a1 : Int32} {z : sg_M} {r : Int32} (h : gM_rains n a1 z = some r) : sg_Met (eM l D cI cZ ad) yX12_rains cX12_rains 6 (some .int) 6 [.ref (ad 0), .int a1] z (sg_is (some (.int r)) z) := by
  refine sg_enter (lv0 := [(0, .ref (ad 0)), (1, .int a1)]) pn_X12 (Nat.le_of_ble_eq_true rfl) rfl ?_
  unfold gM_rains at h
  refine sg_iload_n (pn := 1) (i := 1) dX12_rains_0 rfl rfl 1 rfl ?_
  refine sg_i2l (pn := 2) dX12_rains_1 rfl ?_
  refine sg_lconst (pn := 3) dX12_rains_2 rfl lc_0 ?_
  refine sg_ldc2 (pn := 6) dX12_rains_3 rfl kl_X12_274 ?_
  refine sg_callSi (pn := 9) (rest := []) dX12_rains_6 rfl kb_X12_81 ks_X12_in (Nat.le_of_ble_eq_true rfl) (gM_in_ok rfl) rfl rfl (Nat.le_of_ble_eq_true rfl) ?_
  refine sg_if_ne (pn := 12) (tgt := 15) dX12_rains_9 rfl (by decide) (fun hc => ?_) (fun hc => ?_)
  · have h := sg_ifn hc h
    refine sg_iconst (pn := 16) dX12_rains_15 rfl ic_0 ?_
    refine sg_istore_n (pn := 17) (i := 2) (lv' := [(0, .ref (ad 0)), (1, .int a1), (2, .int (0 : Int32))]) dX12_rains_16 rfl rfl (Nat.le_of_ble_eq_true rfl) [1, 2, 0] rfl ?_
    refine sg_iconst (pn := 18) dX12_rains_17 rfl ic_m1 ?_
    refine sg_istore_n (pn := 19) (i := 3) (lv' := [(0, .ref (ad 0)), (1, .int a1), (2, .int (0 : Int32)), (3, .int (-1 : Int32))]) dX12_rains_18 rfl rfl (Nat.le_of_ble_eq_true rfl) [1, 2, 3, 0] rfl ?_
    refine sg_iconst (pn := 20) dX12_rains_19 rfl ic_m1 ?_
    refine sg_istore (pn := 22) (i := 4) (lv' := [(0, .ref (ad 0)), (1, .int a1), (2, .int (0 : Int32)), (3, .int (-1 : Int32)), (4, .int (-1 : Int32))]) dX12_rains_20 rfl (Nat.le_of_ble_eq_true rfl) [1, 2, 3, 4, 0] rfl ?_
    refine sg_iconst (pn := 23) dX12_rains_22 rfl ic_0 ?_
    refine sg_istore (pn := 25) (i := 5) (lv' := [(0, .ref (ad 0)), (1, .int a1), (2, .int (0 : Int32)), (3, .int (-1 : Int32)), (4, .int (-1 : Int32)), (5, .int (0 : Int32))]) dX12_rains_23 rfl (Nat.le_of_ble_eq_true rfl) [1, 2, 3, 4, 5, 0] rfl ?_
    exact gM_rains_L_ok n _ _ _ _ _ _ _ h
  · have h := sg_ifp hc h
    refine sg_ldc (pn := 14) dX12_rains_12 rfl kc_X12_90 ?_
    obtain rfl := Option.some.inj h
    exact sg_iret dX12_rains_14 rfl ⟨rfl, rfl⟩
set_option maxRecDepth 4000 in
theorem gM_greatestPart_LL_ok {l : Launch} {D : va_G} {cI cZ : ClassId} {ad : Nat → Nat} : ∀ (n : Nat), (∀ (v1 : Int32) (v2 : Int32) (v3 : Int32) (z : sg_M) (r : Int32 × sg_M), gM_greatestPart_LL n 4 v1 v2 v3 z = some r → sg_G (eM l D cI cZ ad) yX12_greatestPart cX12_greatestPart 5 (some .int) 6 4 [(0, .ref (ad 0)), (1, .int v1), (2, .int v2), (3, .int v3)] [] z (sg_is (some (.int r.1)) r.2)) ∧ (∀ (v1 : Int32) (v2 : Int32) (v3 : Int32) (z : sg_M) (r : Int32 × sg_M), gM_greatestPart_LL n 25 v1 v2 v3 z = some r → sg_G (eM l D cI cZ ad) yX12_greatestPart cX12_greatestPart 5 (some .int) 6 25 [(0, .ref (ad 0)), (1, .int v1), (2, .int v2), (3, .int v3)] [] z (sg_is (some (.int r.1)) r.2)) := by
  intro n
  induction n with
  | zero => exact ⟨(fun _ _ _ _ _ h => by cases h), (fun _ _ _ _ _ h => by cases h)⟩
  | succ n ih =>
    refine ⟨?_, ?_⟩
    · intro v1 v2 v3 z r h
      unfold gM_greatestPart_LL at h
      have h := sg_ifp (show (4 : Nat) = 4 from rfl) h
      refine sg_iload_n (pn := 5) (i := 3) dX12_greatestPart_4 rfl rfl 3 rfl ?_
      refine sg_bipush (pn := 7) dX12_greatestPart_5 rfl ib_21 ?_
      refine sg_icmp_ge (pn := 10) (tgt := 23) dX12_greatestPart_7 rfl (by decide) (fun hc => ?_) (fun hc => ?_)
      · have h := sg_ifp hc h
        refine sg_iconst (pn := 24) dX12_greatestPart_23 rfl ic_0 ?_
        refine sg_istore_n (pn := 25) (i := 3) (lv' := [(0, .ref (ad 0)), (1, .int v1), (2, .int v2), (3, .int (0 : Int32))]) dX12_greatestPart_24 rfl rfl (Nat.le_of_ble_eq_true rfl) [1, 2, 3, 0] rfl ?_
        exact ih.2 _ _ _ _ _ h
      · have h := sg_ifn hc h
        refine sg_aload_n (pn := 11) (i := 0) dX12_greatestPart_10 rfl rfl 0 rfl ?_
        refine gfM_0_30 (pn := 14) dX12_greatestPart_11 rfl lf_X12_62 ?_
        refine sg_iload_n (pn := 15) (i := 3) dX12_greatestPart_14 rfl rfl 3 rfl ?_
        refine sg_iconst (pn := 16) dX12_greatestPart_15 rfl ic_0 ?_
        obtain ⟨hg, h⟩ := sg_guard h
        refine asM_17 (pn := 17) dX12_greatestPart_16 rfl (sg_in_vp hg) ?_
        obtain ⟨z1, e_z1, h⟩ := sg_letE h
        refine sg_zE e_z1 ?_
        refine sg_iinc (pn := 20) (i := 3) (lv' := [(0, .ref (ad 0)), (1, .int v1), (2, .int v2), (3, .int (v3 + (1 : Int32)))]) dX12_greatestPart_17 rfl 3 rfl (ii_1 _) (Nat.le_of_ble_eq_true rfl) [1, 2, 3, 0] rfl ?_
        refine sg_goto (tgt := 4) dX12_greatestPart_20 (by decide) ?_
        exact ih.1 _ _ _ _ _ h
    · intro v1 v2 v3 z r h
      unfold gM_greatestPart_LL at h
      have h := sg_ifn (show ¬ (25 : Nat) = 4 by decide) h
      have h := sg_ifp (show (25 : Nat) = 25 from rfl) h
      refine sg_iload_n (pn := 26) (i := 3) dX12_greatestPart_25 rfl rfl 3 rfl ?_
      refine sg_bipush (pn := 28) dX12_greatestPart_26 rfl ib_60 ?_
      refine sg_icmp_gt (pn := 31) (tgt := 89) dX12_greatestPart_28 rfl (by decide) (fun hc => ?_) (fun hc => ?_)
      · have h := sg_ifp hc h
        refine sg_iload_n (pn := 90) (i := 2) dX12_greatestPart_89 rfl rfl 2 rfl ?_
        obtain rfl := Option.some.inj h
        exact sg_iret dX12_greatestPart_90 rfl ⟨rfl, rfl⟩
      · have h := sg_ifn hc h
        refine sg_aload_n (pn := 32) (i := 0) dX12_greatestPart_31 rfl rfl 0 rfl ?_
        refine sg_iload_n (pn := 33) (i := 3) dX12_greatestPart_32 rfl rfl 3 rfl ?_
        obtain ⟨r2, h_r2, h⟩ := sg_bind h
        refine sg_callVi (pn := 36) (rest := []) 0 dX12_greatestPart_33 rfl kb_X12_292 kv_X12_couldBe (by exact rfl) rfl (Nat.le_of_ble_eq_true rfl) (gM_couldBe_ok h_r2) rfl rfl (Nat.le_of_ble_eq_true rfl) ?_
        obtain ⟨t7, e_t7, h2⟩ := sg_bind h
        have hm_t7 : sg_G (eM l D cI cZ ad) yX12_greatestPart cX12_greatestPart 5 (some .int) 6 83 [(0, .ref (ad 0)), (1, .int v1), (2, .int t7.1), (3, .int v3)] [] t7.2 (sg_is (some (.int r.1)) r.2) := by
          have h := h2
          refine sg_iinc (pn := 86) (i := 3) (lv' := [(0, .ref (ad 0)), (1, .int v1), (2, .int t7.1), (3, .int (v3 + (1 : Int32)))]) dX12_greatestPart_83 rfl 3 rfl (ii_1 _) (Nat.le_of_ble_eq_true rfl) [1, 2, 3, 0] rfl ?_
          refine sg_goto (tgt := 25) dX12_greatestPart_86 (by decide) ?_
          exact ih.2 _ _ _ _ _ h
        have h := e_t7
        refine sg_if_eq (pn := 39) (tgt := 83) dX12_greatestPart_36 rfl (by decide) (fun hc => ?_) (fun hc => ?_)
        · have h := sg_ifp hc h
          obtain rfl := Option.some.inj h
          exact hm_t7
        · have h := sg_ifn hc h
          refine sg_aload_n (pn := 40) (i := 0) dX12_greatestPart_39 rfl rfl 0 rfl ?_
          refine sg_iload_n (pn := 41) (i := 1) dX12_greatestPart_40 rfl rfl 1 rfl ?_
          refine sg_iload_n (pn := 42) (i := 3) dX12_greatestPart_41 rfl rfl 3 rfl ?_
          obtain ⟨r3, h_r3, h⟩ := sg_bind h
          refine sg_callVi (pn := 45) (rest := []) 0 dX12_greatestPart_42 rfl kb_X12_190 kv_X12_stopOf (by exact rfl) rfl (Nat.le_of_ble_eq_true rfl) (gM_stopOf_ok h_r3) rfl rfl (Nat.le_of_ble_eq_true rfl) ?_
          refine sg_iconst (pn := 46) dX12_greatestPart_45 rfl ic_1 ?_
          refine sg_iadd (pn := 47) dX12_greatestPart_46 rfl ?_
          obtain ⟨v4_4, e_v4_4, h⟩ := sg_letE h
          refine sg_topi e_v4_4 ?_
          refine sg_istore (pn := 49) (i := 4) (lv' := [(0, .ref (ad 0)), (1, .int v1), (2, .int v2), (3, .int v3), (4, .int v4_4)]) dX12_greatestPart_47 rfl (Nat.le_of_ble_eq_true rfl) [1, 2, 3, 4, 0] rfl ?_
          refine sg_aload_n (pn := 50) (i := 0) dX12_greatestPart_49 rfl rfl 0 rfl ?_
          refine gfM_0_30 (pn := 53) dX12_greatestPart_50 rfl lf_X12_62 ?_
          refine sg_iload (pn := 55) (i := 4) dX12_greatestPart_53 rfl 4 rfl ?_
          refine sg_dup2 (pn := 56) dX12_greatestPart_55 rfl rfl rfl ?_
          obtain ⟨hg, h⟩ := sg_guard h
          refine alM_17 (pn := 57) dX12_greatestPart_56 rfl (sg_in_vp hg) ?_
          refine sg_iconst (pn := 58) dX12_greatestPart_57 rfl ic_1 ?_
          refine sg_iadd (pn := 59) dX12_greatestPart_58 rfl ?_
          obtain ⟨hg, h⟩ := sg_guard h
          refine asM_17 (pn := 60) dX12_greatestPart_59 rfl (sg_in_vp hg) ?_
          obtain ⟨z5, e_z5, h⟩ := sg_letE h
          refine sg_zE e_z5 ?_
          refine sg_aload_n (pn := 61) (i := 0) dX12_greatestPart_60 rfl rfl 0 rfl ?_
          refine gfM_0_30 (pn := 64) dX12_greatestPart_61 rfl lf_X12_62 ?_
          refine sg_iload (pn := 66) (i := 4) dX12_greatestPart_64 rfl 4 rfl ?_
          obtain ⟨hg, h⟩ := sg_guard h
          refine alM_17 (pn := 67) dX12_greatestPart_66 rfl (sg_in_vp hg) ?_
          refine sg_iload_n (pn := 68) (i := 2) dX12_greatestPart_67 rfl rfl 2 rfl ?_
          obtain ⟨t6, e_t6, h2⟩ := sg_bind h
          have hm_t6 : sg_G (eM l D cI cZ ad) yX12_greatestPart cX12_greatestPart 5 (some .int) 6 82 [(0, .ref (ad 0)), (1, .int v1), (3, .int v3)] [.int t6] z5 (sg_is (some (.int r.1)) r.2) := by
            have h := h2
            refine sg_istore_n (pn := 83) (i := 2) (lv' := [(0, .ref (ad 0)), (1, .int v1), (2, .int t6), (3, .int v3)]) dX12_greatestPart_82 rfl rfl (Nat.le_of_ble_eq_true rfl) [1, 2, 0, 3] rfl ?_
            obtain rfl := Option.some.inj h
            exact hm_t7
          have h := e_t6
          refine sg_icmp_le (pn := 71) (tgt := 81) dX12_greatestPart_68 rfl (by decide) (fun hc => ?_) (fun hc => ?_)
          · have h := sg_ifp hc h
            refine sg_iload_n (pn := 82) (i := 2) dX12_greatestPart_81 rfl rfl 2 rfl ?_
            obtain rfl := Option.some.inj h
            refine sg_sub [0, 1, 3] rfl ?_
            exact hm_t6
          · have h := sg_ifn hc h
            refine sg_aload_n (pn := 72) (i := 0) dX12_greatestPart_71 rfl rfl 0 rfl ?_
            refine gfM_0_30 (pn := 75) dX12_greatestPart_72 rfl lf_X12_62 ?_
            refine sg_iload (pn := 77) (i := 4) dX12_greatestPart_75 rfl 4 rfl ?_
            obtain ⟨hg, h⟩ := sg_guard h
            refine alM_17 (pn := 78) dX12_greatestPart_77 rfl (sg_in_vp hg) ?_
            refine sg_goto (tgt := 82) dX12_greatestPart_78 (by decide) ?_
            obtain rfl := Option.some.inj h
            refine sg_sub [0, 1, 3] rfl ?_
            exact hm_t6
set_option maxRecDepth 4000 in
theorem gM_greatestPart_ok {l : Launch} {D : va_G} {cI cZ : ClassId} {ad : Nat → Nat} {n : Nat} {a1 : Int32} {z : sg_M} {r : Int32 × sg_M} (h : gM_greatestPart n a1 z = some r) : sg_Met (eM l D cI cZ ad) yX12_greatestPart cX12_greatestPart 5 (some .int) 6 [.ref (ad 0), .int a1] z (sg_is (some (.int r.1)) r.2) := by
  refine sg_enter (lv0 := [(0, .ref (ad 0)), (1, .int a1)]) pn_X12 (Nat.le_of_ble_eq_true rfl) rfl ?_
  unfold gM_greatestPart at h
  refine sg_iconst (pn := 1) dX12_greatestPart_0 rfl ic_0 ?_
  refine sg_istore_n (pn := 2) (i := 2) (lv' := [(0, .ref (ad 0)), (1, .int a1), (2, .int (0 : Int32))]) dX12_greatestPart_1 rfl rfl (Nat.le_of_ble_eq_true rfl) [1, 2, 0] rfl ?_
  refine sg_iconst (pn := 3) dX12_greatestPart_2 rfl ic_0 ?_
  refine sg_istore_n (pn := 4) (i := 3) (lv' := [(0, .ref (ad 0)), (1, .int a1), (2, .int (0 : Int32)), (3, .int (0 : Int32))]) dX12_greatestPart_3 rfl rfl (Nat.le_of_ble_eq_true rfl) [1, 2, 3, 0] rfl ?_
  exact (gM_greatestPart_LL_ok n).1 _ _ _ _ _ h
set_option maxRecDepth 4000 in
theorem gM_send_L_ok {l : Launch} {D : va_G} {cI cZ : ClassId} {ad : Nat → Nat} : ∀ (n : Nat) (v1 : Int32) (v2 : Int32) (v3 : Int32) (z : sg_M) (r : Int32 × sg_M), gM_send_L n v1 v2 v3 z = some r → sg_G (eM l D cI cZ ad) yX12_send cX12_send 5 (some .int) 7 10 [(0, .ref (ad 0)), (1, .int v1), (2, .int v2), (3, .int v3)] [] z (sg_is (some (.int r.1)) r.2) := by
  intro n
  induction n with
  | zero => intro v1 v2 v3 z r h; cases h
  | succ n ih =>
    intro v1 v2 v3 z r h
    unfold gM_send_L at h
    refine sg_iload_n (pn := 11) (i := 3) dX12_send_10 rfl rfl 3 rfl ?_
    refine sg_aload_n (pn := 12) (i := 0) dX12_send_11 rfl rfl 0 rfl ?_
    refine gfM_0_4 (pn := 15) dX12_send_12 rfl lf_X12_85 ?_
    refine sg_icmp_ge (pn := 18) (tgt := 56) dX12_send_15 rfl (by decide) (fun hc => ?_) (fun hc => ?_)
    · have h := sg_ifp hc h
      refine sg_iload_n (pn := 57) (i := 1) dX12_send_56 rfl rfl 1 rfl ?_
      obtain rfl := Option.some.inj h
      exact sg_iret dX12_send_57 rfl ⟨rfl, rfl⟩
    · have h := sg_ifn hc h
      refine sg_aload_n (pn := 19) (i := 0) dX12_send_18 rfl rfl 0 rfl ?_
      refine sg_iload_n (pn := 20) (i := 3) dX12_send_19 rfl rfl 3 rfl ?_
      obtain ⟨r2, h_r2, h⟩ := sg_bind h
      refine sg_callVi (pn := 23) (rest := []) 0 dX12_send_20 rfl kb_X12_298 kv_X12_greatestPart (by exact rfl) rfl (Nat.le_of_ble_eq_true rfl) (gM_greatestPart_ok h_r2) rfl rfl (Nat.le_of_ble_eq_true rfl) ?_
      refine sg_istore (pn := 25) (i := 4) (lv' := [(0, .ref (ad 0)), (1, .int v1), (2, .int v2), (3, .int v3), (4, .int r2.1)]) dX12_send_23 rfl (Nat.le_of_ble_eq_true rfl) [1, 2, 3, 4, 0] rfl ?_
      refine sg_iload (pn := 27) (i := 4) dX12_send_25 rfl 4 rfl ?_
      refine sg_iload_n (pn := 28) (i := 2) dX12_send_27 rfl rfl 2 rfl ?_
      obtain ⟨t3, e_t3, h2⟩ := sg_letJ h
      have hm_t3 : sg_G (eM l D cI cZ ad) yX12_send cX12_send 5 (some .int) 7 36 [(0, .ref (ad 0)), (2, .int v2), (3, .int v3), (4, .int r2.1)] [.int t3] r2.2 (sg_is (some (.int r.1)) r.2) := by
        have h := h2
        refine sg_istore_n (pn := 37) (i := 1) (lv' := [(0, .ref (ad 0)), (1, .int t3), (2, .int v2), (3, .int v3), (4, .int r2.1)]) dX12_send_36 rfl rfl (Nat.le_of_ble_eq_true rfl) [1, 0, 2, 3, 4] rfl ?_
        refine sg_iload (pn := 39) (i := 4) dX12_send_37 rfl 4 rfl ?_
        refine sg_iload_n (pn := 40) (i := 2) dX12_send_39 rfl rfl 2 rfl ?_
        obtain ⟨t4, e_t4, h2⟩ := sg_letJ h
        have hm_t4 : sg_G (eM l D cI cZ ad) yX12_send cX12_send 5 (some .int) 7 49 [(0, .ref (ad 0)), (1, .int t3), (3, .int v3)] [.int t4] r2.2 (sg_is (some (.int r.1)) r.2) := by
          have h := h2
          refine sg_istore_n (pn := 50) (i := 2) (lv' := [(0, .ref (ad 0)), (1, .int t3), (2, .int t4), (3, .int v3)]) dX12_send_49 rfl rfl (Nat.le_of_ble_eq_true rfl) [1, 2, 0, 3] rfl ?_
          refine sg_iinc (pn := 53) (i := 3) (lv' := [(0, .ref (ad 0)), (1, .int t3), (2, .int t4), (3, .int (v3 + (1 : Int32)))]) dX12_send_50 rfl 3 rfl (ii_1 _) (Nat.le_of_ble_eq_true rfl) [1, 2, 3, 0] rfl ?_
          refine sg_goto (tgt := 10) dX12_send_53 (by decide) ?_
          exact ih _ _ _ _ _ h
        have h := e_t4
        refine sg_icmp_ge (pn := 43) (tgt := 48) dX12_send_40 rfl (by decide) (fun hc => ?_) (fun hc => ?_)
        · have h := sg_ifp hc h
          refine sg_iload_n (pn := 49) (i := 2) dX12_send_48 rfl rfl 2 rfl ?_
          subst h
          refine sg_sub [0, 1, 3] rfl ?_
          exact hm_t4
        · have h := sg_ifn hc h
          refine sg_iload (pn := 45) (i := 4) dX12_send_43 rfl 4 rfl ?_
          refine sg_goto (tgt := 49) dX12_send_45 (by decide) ?_
          subst h
          refine sg_sub [0, 1, 3] rfl ?_
          exact hm_t4
      have h := e_t3
      refine sg_icmp_ge (pn := 31) (tgt := 35) dX12_send_28 rfl (by decide) (fun hc => ?_) (fun hc => ?_)
      · have h := sg_ifp hc h
        refine sg_iload_n (pn := 36) (i := 1) dX12_send_35 rfl rfl 1 rfl ?_
        subst h
        refine sg_sub [0, 2, 3, 4] rfl ?_
        exact hm_t3
      · have h := sg_ifn hc h
        refine sg_iload_n (pn := 32) (i := 3) dX12_send_31 rfl rfl 3 rfl ?_
        refine sg_goto (tgt := 36) dX12_send_32 (by decide) ?_
        subst h
        refine sg_sub [0, 2, 3, 4] rfl ?_
        exact hm_t3
set_option maxRecDepth 4000 in
theorem gM_send_ok {l : Launch} {D : va_G} {cI cZ : ClassId} {ad : Nat → Nat} {n : Nat} {z : sg_M} {r : Int32 × sg_M} (h : gM_send n z = some r) : sg_Met (eM l D cI cZ ad) yX12_send cX12_send 5 (some .int) 7 [.ref (ad 0)] z (sg_is (some (.int r.1)) r.2) := by
  refine sg_enter (lv0 := [(0, .ref (ad 0))]) pn_X12 (Nat.le_of_ble_eq_true rfl) rfl ?_
  unfold gM_send at h
  refine sg_iconst (pn := 1) dX12_send_0 rfl ic_m1 ?_
  refine sg_istore_n (pn := 2) (i := 1) (lv' := [(0, .ref (ad 0)), (1, .int (-1 : Int32))]) dX12_send_1 rfl rfl (Nat.le_of_ble_eq_true rfl) [1, 0] rfl ?_
  refine sg_aload_n (pn := 3) (i := 0) dX12_send_2 rfl rfl 0 rfl ?_
  refine sg_iconst (pn := 4) dX12_send_3 rfl ic_0 ?_
  obtain ⟨r1, h_r1, h⟩ := sg_bind h
  refine sg_callVi (pn := 7) (rest := []) 0 dX12_send_4 rfl kb_X12_295 kv_X12_rains (by exact rfl) rfl (Nat.le_of_ble_eq_true rfl) (gM_rains_ok h_r1) rfl rfl (Nat.le_of_ble_eq_true rfl) ?_
  refine sg_istore_n (pn := 8) (i := 2) (lv' := [(0, .ref (ad 0)), (1, .int (-1 : Int32)), (2, .int r1)]) dX12_send_7 rfl rfl (Nat.le_of_ble_eq_true rfl) [1, 2, 0] rfl ?_
  refine sg_iconst (pn := 9) dX12_send_8 rfl ic_0 ?_
  refine sg_istore_n (pn := 10) (i := 3) (lv' := [(0, .ref (ad 0)), (1, .int (-1 : Int32)), (2, .int r1), (3, .int (0 : Int32))]) dX12_send_9 rfl rfl (Nat.le_of_ble_eq_true rfl) [1, 2, 3, 0] rfl ?_
  exact gM_send_L_ok n _ _ _ _ _ h
