set_option maxRecDepth 4000 in
theorem gC_Trials_stopper_LL_ok {l : Launch} {D : va_G} {cI cZ : ClassId} {ad : Nat → Nat} : ∀ (n : Nat), (∀ (v1 : Int32) (v2 : Int32) (v3 : Int32) (z : sg_M) (r : Int32 × sg_M), gC_Trials_stopper_LL n 10 v1 v2 v3 z = some r → sg_G (eC l D cI cZ ad) yX10_stopper cX10_stopper 4 (some .int) 5 10 [(0, .ref (ad 25)), (1, .int v1)] [] z (sg_is (some (.int r.1)) r.2)) ∧ (∀ (v1 : Int32) (v2 : Int32) (v3 : Int32) (z : sg_M) (r : Int32 × sg_M), gC_Trials_stopper_LL n 64 v1 v2 v3 z = some r → sg_G (eC l D cI cZ ad) yX10_stopper cX10_stopper 4 (some .int) 5 64 [(0, .ref (ad 25)), (1, .int v1), (2, .int v2), (3, .int v3)] [] z (sg_is (some (.int r.1)) r.2)) := by
  intro n
  induction n with
  | zero => exact ⟨(fun _ _ _ _ _ h => by cases h), (fun _ _ _ _ _ h => by cases h)⟩
  | succ n ih =>
    refine ⟨?_, ?_⟩
    · intro v1 v2 v3 z r h
      unfold gC_Trials_stopper_LL at h
      have h := sg_ifp (show (10 : Nat) = 10 from rfl) h
      refine sg_iload_n (pn := 11) (i := 1) dX10_stopper_10 rfl rfl 1 rfl ?_
      refine sg_aload_n (pn := 12) (i := 0) dX10_stopper_11 rfl rfl 0 rfl ?_
      refine gfC_25_0 (pn := 15) dX10_stopper_12 rfl lf_X10_22 ?_
      refine gfC_9_2 (pn := 18) dX10_stopper_15 rfl lf_X10_40 ?_
      refine sg_icmp_ge (pn := 21) (tgt := 58) dX10_stopper_18 rfl (by decide) (fun hc => ?_) (fun hc => ?_)
      · have h := sg_ifp hc h
        refine sg_iconst (pn := 59) dX10_stopper_58 rfl ic_m1 ?_
        refine sg_istore_n (pn := 60) (i := 1) (lv' := [(0, .ref (ad 25)), (1, .int (-1 : Int32))]) dX10_stopper_59 rfl rfl (Nat.le_of_ble_eq_true rfl) [1, 0] rfl ?_
        refine sg_iconst (pn := 61) dX10_stopper_60 rfl ic_0 ?_
        refine sg_istore_n (pn := 62) (i := 2) (lv' := [(0, .ref (ad 25)), (1, .int (-1 : Int32)), (2, .int (0 : Int32))]) dX10_stopper_61 rfl rfl (Nat.le_of_ble_eq_true rfl) [1, 2, 0] rfl ?_
        refine sg_iconst (pn := 63) dX10_stopper_62 rfl ic_0 ?_
        refine sg_istore_n (pn := 64) (i := 3) (lv' := [(0, .ref (ad 25)), (1, .int (-1 : Int32)), (2, .int (0 : Int32)), (3, .int (0 : Int32))]) dX10_stopper_63 rfl rfl (Nat.le_of_ble_eq_true rfl) [1, 2, 3, 0] rfl ?_
        exact ih.2 _ _ _ _ _ h
      · have h := sg_ifn hc h
        refine sg_aload_n (pn := 22) (i := 0) dX10_stopper_21 rfl rfl 0 rfl ?_
        refine gfC_25_2 (pn := 25) dX10_stopper_22 rfl lf_X10_30 ?_
        refine sg_iload_n (pn := 26) (i := 1) dX10_stopper_25 rfl rfl 1 rfl ?_
        refine sg_iconst (pn := 27) dX10_stopper_26 rfl ic_0 ?_
        obtain ⟨r2, h_r2, h⟩ := sg_bind h
        refine sg_callVi (pn := 30) (rest := []) 23 dX10_stopper_27 rfl kb_X10_46 kv_X2_stopBehind (by exact rfl) rfl (Nat.le_of_ble_eq_true rfl) (gC_Kingdom_stopBehind_ok h_r2) rfl rfl (Nat.le_of_ble_eq_true rfl) ?_
        refine sg_istore_n (pn := 31) (i := 2) (lv' := [(0, .ref (ad 25)), (1, .int v1), (2, .int r2)]) dX10_stopper_30 rfl rfl (Nat.le_of_ble_eq_true rfl) [1, 2, 0] rfl ?_
        refine sg_aload_n (pn := 32) (i := 0) dX10_stopper_31 rfl rfl 0 rfl ?_
        refine gfC_25_0 (pn := 35) dX10_stopper_32 rfl lf_X10_22 ?_
        refine sg_iload_n (pn := 36) (i := 2) dX10_stopper_35 rfl rfl 2 rfl ?_
        refine sg_callVi (pn := 39) (rest := []) 9 dX10_stopper_36 rfl kb_X10_52 kv_X6_hasCell (by exact rfl) rfl (Nat.le_of_ble_eq_true rfl) (gC_Road_hasCell_ok rfl) rfl rfl (Nat.le_of_ble_eq_true rfl) ?_
        obtain ⟨t4, e_t4, h2⟩ := sg_bind h
        have hm_t4 : sg_G (eC l D cI cZ ad) yX10_stopper cX10_stopper 4 (some .int) 5 52 [(0, .ref (ad 25)), (1, .int v1)] [] t4 (sg_is (some (.int r.1)) r.2) := by
          have h := h2
          refine sg_iinc (pn := 55) (i := 1) (lv' := [(0, .ref (ad 25)), (1, .int (v1 + (1 : Int32)))]) dX10_stopper_52 rfl 1 rfl (ii_1 _) (Nat.le_of_ble_eq_true rfl) [1, 0] rfl ?_
          refine sg_goto (tgt := 10) dX10_stopper_55 (by decide) ?_
          exact ih.1 _ _ _ _ _ h
        have h := e_t4
        refine sg_if_eq (pn := 42) (tgt := 52) dX10_stopper_39 rfl (by decide) (fun hc => ?_) (fun hc => ?_)
        · have h := sg_ifp hc h
          obtain rfl := Option.some.inj h
          refine sg_sub [0, 1] rfl ?_
          exact hm_t4
        · have h := sg_ifn hc h
          refine sg_aload_n (pn := 43) (i := 0) dX10_stopper_42 rfl rfl 0 rfl ?_
          refine gfC_25_3 (pn := 46) dX10_stopper_43 rfl lf_X10_9 ?_
          refine sg_iload_n (pn := 47) (i := 2) dX10_stopper_46 rfl rfl 2 rfl ?_
          refine sg_dup2 (pn := 48) dX10_stopper_47 rfl rfl rfl ?_
          obtain ⟨hg, h⟩ := sg_guard h
          refine alC_26 (pn := 49) dX10_stopper_48 rfl (sg_in_vp hg) ?_
          refine sg_iconst (pn := 50) dX10_stopper_49 rfl ic_1 ?_
          refine sg_iadd (pn := 51) dX10_stopper_50 rfl ?_
          obtain ⟨hg, h⟩ := sg_guard h
          refine asC_26 (pn := 52) dX10_stopper_51 rfl (sg_in_vp hg) ?_
          obtain ⟨z3, e_z3, h⟩ := sg_letE h
          refine sg_zE e_z3 ?_
          obtain rfl := Option.some.inj h
          refine sg_sub [0, 1] rfl ?_
          exact hm_t4
    · intro v1 v2 v3 z r h
      unfold gC_Trials_stopper_LL at h
      have h := sg_ifn (show ¬ (64 : Nat) = 10 by decide) h
      have h := sg_ifp (show (64 : Nat) = 64 from rfl) h
      refine sg_iload_n (pn := 65) (i := 3) dX10_stopper_64 rfl rfl 3 rfl ?_
      refine sg_aload_n (pn := 66) (i := 0) dX10_stopper_65 rfl rfl 0 rfl ?_
      refine gfC_25_0 (pn := 69) dX10_stopper_66 rfl lf_X10_22 ?_
      refine gfC_9_0 (pn := 72) dX10_stopper_69 rfl lf_X10_56 ?_
      refine sg_icmp_ge (pn := 75) (tgt := 100) dX10_stopper_72 rfl (by decide) (fun hc => ?_) (fun hc => ?_)
      · have h := sg_ifp hc h
        refine sg_iload_n (pn := 101) (i := 1) dX10_stopper_100 rfl rfl 1 rfl ?_
        obtain rfl := Option.some.inj h
        exact sg_iret dX10_stopper_101 rfl ⟨rfl, rfl⟩
      · have h := sg_ifn hc h
        refine sg_aload_n (pn := 76) (i := 0) dX10_stopper_75 rfl rfl 0 rfl ?_
        refine gfC_25_3 (pn := 79) dX10_stopper_76 rfl lf_X10_9 ?_
        refine sg_iload_n (pn := 80) (i := 3) dX10_stopper_79 rfl rfl 3 rfl ?_
        obtain ⟨hg, h⟩ := sg_guard h
        refine alC_26 (pn := 81) dX10_stopper_80 rfl (sg_in_vp hg) ?_
        refine sg_iload_n (pn := 82) (i := 2) dX10_stopper_81 rfl rfl 2 rfl ?_
        obtain ⟨t6, e_t6, h2⟩ := sg_bind h
        have hm_t6 : sg_G (eC l D cI cZ ad) yX10_stopper cX10_stopper 4 (some .int) 5 94 [(0, .ref (ad 25)), (1, .int t6.1), (2, .int t6.2), (3, .int v3)] [] z (sg_is (some (.int r.1)) r.2) := by
          have h := h2
          refine sg_iinc (pn := 97) (i := 3) (lv' := [(0, .ref (ad 25)), (1, .int t6.1), (2, .int t6.2), (3, .int (v3 + (1 : Int32)))]) dX10_stopper_94 rfl 3 rfl (ii_1 _) (Nat.le_of_ble_eq_true rfl) [1, 2, 3, 0] rfl ?_
          refine sg_goto (tgt := 64) dX10_stopper_97 (by decide) ?_
          exact ih.2 _ _ _ _ _ h
        have h := e_t6
        refine sg_icmp_le (pn := 85) (tgt := 94) dX10_stopper_82 rfl (by decide) (fun hc => ?_) (fun hc => ?_)
        · have h := sg_ifp hc h
          obtain rfl := Option.some.inj h
          exact hm_t6
        · have h := sg_ifn hc h
          refine sg_iload_n (pn := 86) (i := 3) dX10_stopper_85 rfl rfl 3 rfl ?_
          refine sg_istore_n (pn := 87) (i := 1) (lv' := [(0, .ref (ad 25)), (1, .int v3), (2, .int v2), (3, .int v3)]) dX10_stopper_86 rfl rfl (Nat.le_of_ble_eq_true rfl) [1, 0, 2, 3] rfl ?_
          refine sg_aload_n (pn := 88) (i := 0) dX10_stopper_87 rfl rfl 0 rfl ?_
          refine gfC_25_3 (pn := 91) dX10_stopper_88 rfl lf_X10_9 ?_
          refine sg_iload_n (pn := 92) (i := 3) dX10_stopper_91 rfl rfl 3 rfl ?_
          obtain ⟨hg, h⟩ := sg_guard h
          refine alC_26 (pn := 93) dX10_stopper_92 rfl (sg_in_vp hg) ?_
          obtain ⟨v2_5, e_v2_5, h⟩ := sg_letE h
          refine sg_topi e_v2_5 ?_
          refine sg_istore_n (pn := 94) (i := 2) (lv' := [(0, .ref (ad 25)), (1, .int v3), (2, .int v2_5), (3, .int v3)]) dX10_stopper_93 rfl rfl (Nat.le_of_ble_eq_true rfl) [1, 2, 0, 3] rfl ?_
          obtain rfl := Option.some.inj h
          exact hm_t6
set_option maxRecDepth 4000 in
theorem gC_Trials_stopper_ok {l : Launch} {D : va_G} {cI cZ : ClassId} {ad : Nat → Nat} {n : Nat} {z : sg_M} {r : Int32 × sg_M} (h : gC_Trials_stopper n z = some r) : sg_Met (eC l D cI cZ ad) yX10_stopper cX10_stopper 4 (some .int) 5 [.ref (ad 25)] z (sg_is (some (.int r.1)) r.2) := by
  refine sg_enter (lv0 := [(0, .ref (ad 25))]) pn_X10 (Nat.le_of_ble_eq_true rfl) rfl ?_
  unfold gC_Trials_stopper at h
  refine sg_aload_n (pn := 1) (i := 0) dX10_stopper_0 rfl rfl 0 rfl ?_
  refine gfC_25_3 (pn := 4) dX10_stopper_1 rfl lf_X10_9 ?_
  refine sg_iconst (pn := 5) dX10_stopper_4 rfl ic_0 ?_
  obtain ⟨r1, h_r1, h⟩ := sg_bind h
  refine sg_callSv (pn := 8) (rest := []) dX10_stopper_5 rfl kb_X10_34 ks_J7_fill_53178 (Nat.le_of_ble_eq_true rfl) (gC_Arrays_fill_26_ok h_r1) rfl rfl (Nat.le_of_ble_eq_true rfl) ?_
  refine sg_iconst (pn := 9) dX10_stopper_8 rfl ic_0 ?_
  refine sg_istore_n (pn := 10) (i := 1) (lv' := [(0, .ref (ad 25)), (1, .int (0 : Int32))]) dX10_stopper_9 rfl rfl (Nat.le_of_ble_eq_true rfl) [1, 0] rfl ?_
  exact (gC_Trials_stopper_LL_ok n).1 _ _ _ _ _ h
set_option maxRecDepth 4000 in
theorem gC_State_isStuck_ok {l : Launch} {D : va_G} {cI cZ : ClassId} {ad : Nat → Nat} {a1 : Int32} {z : sg_M} {r : Int32} (h : gC_State_isStuck a1 z = some r) : sg_Met (eC l D cI cZ ad) yX8_isStuck cX8_isStuck 2 (some .boolean) 1 [.ref (ad 15), .int a1] z (sg_is (some (.int r)) z) := by
  refine sg_enter (lv0 := [(0, .ref (ad 15)), (1, .int a1)]) pn_X8 (Nat.le_of_ble_eq_true rfl) rfl ?_
  unfold gC_State_isStuck at h
  refine sg_aload_n (pn := 1) (i := 0) dX8_isStuck_0 rfl rfl 0 rfl ?_
  refine gfC_15_7 (pn := 4) dX8_isStuck_1 rfl lf_X8_27 ?_
  refine sg_iload_n (pn := 5) (i := 1) dX8_isStuck_4 rfl rfl 1 rfl ?_
  obtain ⟨hg, h⟩ := sg_guard h
  refine alC_21 (pn := 6) dX8_isStuck_5 rfl (sg_in_vp hg) ?_
  refine sg_iconst (pn := 7) dX8_isStuck_6 rfl ic_m1 ?_
  refine sg_icmp_eq (pn := 10) (tgt := 14) dX8_isStuck_7 rfl (by decide) (fun hc => ?_) (fun hc => ?_)
  · have h := sg_ifp hc h
    refine sg_iconst (pn := 15) dX8_isStuck_14 rfl ic_0 ?_
    obtain rfl := Option.some.inj h
    exact sg_zret dX8_isStuck_15 rfl rfl ⟨rfl, rfl⟩
  · have h := sg_ifn hc h
    refine sg_iconst (pn := 11) dX8_isStuck_10 rfl ic_1 ?_
    refine sg_goto (tgt := 15) dX8_isStuck_11 (by decide) ?_
    obtain rfl := Option.some.inj h
    exact sg_zret dX8_isStuck_15 rfl rfl ⟨rfl, rfl⟩
set_option maxRecDepth 4000 in
theorem gC_Survey_stuckSet_L_ok {l : Launch} {D : va_G} {cI cZ : ClassId} {ad : Nat → Nat} : ∀ (n : Nat) (v1 : Int32) (v2 : Int32) (z : sg_M) (r : Int32), gC_Survey_stuckSet_L n v1 v2 z = some r → sg_G (eC l D cI cZ ad) yX9_stuckSet cX9_stuckSet 3 (some .int) 2 4 [(0, .ref (ad 24)), (1, .int v1), (2, .int v2)] [] z (sg_is (some (.int r)) z) := by
  intro n
  induction n with
  | zero => intro v1 v2 z r h; cases h
  | succ n ih =>
    intro v1 v2 z r h
    unfold gC_Survey_stuckSet_L at h
    refine sg_iload_n (pn := 5) (i := 2) dX9_stuckSet_4 rfl rfl 2 rfl ?_
    refine sg_aload_n (pn := 6) (i := 0) dX9_stuckSet_5 rfl rfl 0 rfl ?_
    refine gfC_24_0 (pn := 9) dX9_stuckSet_6 rfl lf_X9_9 ?_
    refine gfC_9_2 (pn := 12) dX9_stuckSet_9 rfl lf_X9_31 ?_
    refine sg_icmp_ge (pn := 15) (tgt := 38) dX9_stuckSet_12 rfl (by decide) (fun hc => ?_) (fun hc => ?_)
    · have h := sg_ifp hc h
      refine sg_iload_n (pn := 39) (i := 1) dX9_stuckSet_38 rfl rfl 1 rfl ?_
      obtain rfl := Option.some.inj h
      exact sg_iret dX9_stuckSet_39 rfl ⟨rfl, rfl⟩
    · have h := sg_ifn hc h
      refine sg_aload_n (pn := 16) (i := 0) dX9_stuckSet_15 rfl rfl 0 rfl ?_
      refine gfC_24_1 (pn := 19) dX9_stuckSet_16 rfl lf_X9_15 ?_
      refine sg_iload_n (pn := 20) (i := 2) dX9_stuckSet_19 rfl rfl 2 rfl ?_
      obtain ⟨r1, h_r1, h⟩ := sg_bind h
      refine sg_callVi (pn := 23) (rest := []) 15 dX9_stuckSet_20 rfl kb_X9_34 kv_X8_isStuck (by exact rfl) rfl (Nat.le_of_ble_eq_true rfl) (gC_State_isStuck_ok h_r1) rfl rfl (Nat.le_of_ble_eq_true rfl) ?_
      obtain ⟨t3, e_t3, h2⟩ := sg_bind h
      have hm_t3 : sg_G (eC l D cI cZ ad) yX9_stuckSet cX9_stuckSet 3 (some .int) 2 32 [(0, .ref (ad 24)), (1, .int t3), (2, .int v2)] [] z (sg_is (some (.int r)) z) := by
        have h := h2
        refine sg_iinc (pn := 35) (i := 2) (lv' := [(0, .ref (ad 24)), (1, .int t3), (2, .int (v2 + (1 : Int32)))]) dX9_stuckSet_32 rfl 2 rfl (ii_1 _) (Nat.le_of_ble_eq_true rfl) [1, 2, 0] rfl ?_
        refine sg_goto (tgt := 4) dX9_stuckSet_35 (by decide) ?_
        exact ih _ _ _ _ h
      have h := e_t3
      refine sg_if_eq (pn := 26) (tgt := 32) dX9_stuckSet_23 rfl (by decide) (fun hc => ?_) (fun hc => ?_)
      · have h := sg_ifp hc h
        obtain rfl := Option.some.inj h
        exact hm_t3
      · have h := sg_ifn hc h
        refine sg_iload_n (pn := 27) (i := 1) dX9_stuckSet_26 rfl rfl 1 rfl ?_
        refine sg_iconst (pn := 28) dX9_stuckSet_27 rfl ic_1 ?_
        refine sg_iload_n (pn := 29) (i := 2) dX9_stuckSet_28 rfl rfl 2 rfl ?_
        refine sg_ishl (pn := 30) dX9_stuckSet_29 rfl ?_
        refine sg_ior (pn := 31) dX9_stuckSet_30 rfl ?_
        obtain ⟨v1_2, e_v1_2, h⟩ := sg_letE h
        refine sg_topi e_v1_2 ?_
        refine sg_istore_n (pn := 32) (i := 1) (lv' := [(0, .ref (ad 24)), (1, .int v1_2), (2, .int v2)]) dX9_stuckSet_31 rfl rfl (Nat.le_of_ble_eq_true rfl) [1, 0, 2] rfl ?_
        obtain rfl := Option.some.inj h
        exact hm_t3
set_option maxRecDepth 4000 in
theorem gC_Survey_stuckSet_ok {l : Launch} {D : va_G} {cI cZ : ClassId} {ad : Nat → Nat} {n : Nat} {z : sg_M} {r : Int32} (h : gC_Survey_stuckSet n z = some r) : sg_Met (eC l D cI cZ ad) yX9_stuckSet cX9_stuckSet 3 (some .int) 2 [.ref (ad 24)] z (sg_is (some (.int r)) z) := by
  refine sg_enter (lv0 := [(0, .ref (ad 24))]) pn_X9 (Nat.le_of_ble_eq_true rfl) rfl ?_
  unfold gC_Survey_stuckSet at h
  refine sg_iconst (pn := 1) dX9_stuckSet_0 rfl ic_0 ?_
  refine sg_istore_n (pn := 2) (i := 1) (lv' := [(0, .ref (ad 24)), (1, .int (0 : Int32))]) dX9_stuckSet_1 rfl rfl (Nat.le_of_ble_eq_true rfl) [1, 0] rfl ?_
  refine sg_iconst (pn := 3) dX9_stuckSet_2 rfl ic_0 ?_
  refine sg_istore_n (pn := 4) (i := 2) (lv' := [(0, .ref (ad 24)), (1, .int (0 : Int32)), (2, .int (0 : Int32))]) dX9_stuckSet_3 rfl rfl (Nat.le_of_ble_eq_true rfl) [1, 2, 0] rfl ?_
  exact gC_Survey_stuckSet_L_ok n _ _ _ _ h
set_option maxRecDepth 4000 in
theorem gC_Survey_townSet_L_ok {l : Launch} {D : va_G} {cI cZ : ClassId} {ad : Nat → Nat} : ∀ (n : Nat) (v1 : Int32) (v2 : Int32) (z : sg_M) (r : Int32), gC_Survey_townSet_L n v1 v2 z = some r → sg_G (eC l D cI cZ ad) yX9_townSet cX9_townSet 3 (some .int) 2 4 [(0, .ref (ad 24)), (1, .int v1), (2, .int v2)] [] z (sg_is (some (.int r)) z) := by
  intro n
  induction n with
  | zero => intro v1 v2 z r h; cases h
  | succ n ih =>
    intro v1 v2 z r h
    unfold gC_Survey_townSet_L at h
    refine sg_iload_n (pn := 5) (i := 2) dX9_townSet_4 rfl rfl 2 rfl ?_
    refine sg_aload_n (pn := 6) (i := 0) dX9_townSet_5 rfl rfl 0 rfl ?_
    refine gfC_24_0 (pn := 9) dX9_townSet_6 rfl lf_X9_9 ?_
    refine gfC_9_0 (pn := 12) dX9_townSet_9 rfl lf_X9_19 ?_
    refine sg_icmp_ge (pn := 15) (tgt := 38) dX9_townSet_12 rfl (by decide) (fun hc => ?_) (fun hc => ?_)
    · have h := sg_ifp hc h
      refine sg_iload_n (pn := 39) (i := 1) dX9_townSet_38 rfl rfl 1 rfl ?_
      obtain rfl := Option.some.inj h
      exact sg_iret dX9_townSet_39 rfl ⟨rfl, rfl⟩
    · have h := sg_ifn hc h
      refine sg_aload_n (pn := 16) (i := 0) dX9_townSet_15 rfl rfl 0 rfl ?_
      refine gfC_24_1 (pn := 19) dX9_townSet_16 rfl lf_X9_15 ?_
      refine sg_iload_n (pn := 20) (i := 2) dX9_townSet_19 rfl rfl 2 rfl ?_
      obtain ⟨r1, h_r1, h⟩ := sg_bind h
      refine sg_callVi (pn := 23) (rest := []) 15 dX9_townSet_20 rfl kb_X9_25 kv_X8_hasTown (by exact rfl) rfl (Nat.le_of_ble_eq_true rfl) (gC_State_hasTown_ok h_r1) rfl rfl (Nat.le_of_ble_eq_true rfl) ?_
      obtain ⟨t3, e_t3, h2⟩ := sg_bind h
      have hm_t3 : sg_G (eC l D cI cZ ad) yX9_townSet cX9_townSet 3 (some .int) 2 32 [(0, .ref (ad 24)), (1, .int t3), (2, .int v2)] [] z (sg_is (some (.int r)) z) := by
        have h := h2
        refine sg_iinc (pn := 35) (i := 2) (lv' := [(0, .ref (ad 24)), (1, .int t3), (2, .int (v2 + (1 : Int32)))]) dX9_townSet_32 rfl 2 rfl (ii_1 _) (Nat.le_of_ble_eq_true rfl) [1, 2, 0] rfl ?_
        refine sg_goto (tgt := 4) dX9_townSet_35 (by decide) ?_
        exact ih _ _ _ _ h
      have h := e_t3
      refine sg_if_eq (pn := 26) (tgt := 32) dX9_townSet_23 rfl (by decide) (fun hc => ?_) (fun hc => ?_)
      · have h := sg_ifp hc h
        obtain rfl := Option.some.inj h
        exact hm_t3
      · have h := sg_ifn hc h
        refine sg_iload_n (pn := 27) (i := 1) dX9_townSet_26 rfl rfl 1 rfl ?_
        refine sg_iconst (pn := 28) dX9_townSet_27 rfl ic_1 ?_
        refine sg_iload_n (pn := 29) (i := 2) dX9_townSet_28 rfl rfl 2 rfl ?_
        refine sg_ishl (pn := 30) dX9_townSet_29 rfl ?_
        refine sg_ior (pn := 31) dX9_townSet_30 rfl ?_
        obtain ⟨v1_2, e_v1_2, h⟩ := sg_letE h
        refine sg_topi e_v1_2 ?_
        refine sg_istore_n (pn := 32) (i := 1) (lv' := [(0, .ref (ad 24)), (1, .int v1_2), (2, .int v2)]) dX9_townSet_31 rfl rfl (Nat.le_of_ble_eq_true rfl) [1, 0, 2] rfl ?_
        obtain rfl := Option.some.inj h
        exact hm_t3
set_option maxRecDepth 4000 in
theorem gC_Survey_townSet_ok {l : Launch} {D : va_G} {cI cZ : ClassId} {ad : Nat → Nat} {n : Nat} {z : sg_M} {r : Int32} (h : gC_Survey_townSet n z = some r) : sg_Met (eC l D cI cZ ad) yX9_townSet cX9_townSet 3 (some .int) 2 [.ref (ad 24)] z (sg_is (some (.int r)) z) := by
  refine sg_enter (lv0 := [(0, .ref (ad 24))]) pn_X9 (Nat.le_of_ble_eq_true rfl) rfl ?_
  unfold gC_Survey_townSet at h
  refine sg_iconst (pn := 1) dX9_townSet_0 rfl ic_0 ?_
  refine sg_istore_n (pn := 2) (i := 1) (lv' := [(0, .ref (ad 24)), (1, .int (0 : Int32))]) dX9_townSet_1 rfl rfl (Nat.le_of_ble_eq_true rfl) [1, 0] rfl ?_
  refine sg_iconst (pn := 3) dX9_townSet_2 rfl ic_0 ?_
  refine sg_istore_n (pn := 4) (i := 2) (lv' := [(0, .ref (ad 24)), (1, .int (0 : Int32)), (2, .int (0 : Int32))]) dX9_townSet_3 rfl rfl (Nat.le_of_ble_eq_true rfl) [1, 2, 0] rfl ?_
  exact gC_Survey_townSet_L_ok n _ _ _ _ h
set_option maxRecDepth 4000 in
theorem gC_told_ok {l : Launch} {D : va_G} {cI cZ : ClassId} {ad : Nat → Nat} {n : Nat} {a1 : Int32} {z : sg_M} {r : Int32 × sg_M} (h : gC_told n a1 z = some r) : sg_Met (eC l D cI cZ ad) yX11_told cX11_told 2 (some .int) 6 [.ref (ad 0), .int a1] z (sg_is (some (.int r.1)) r.2) := by
  refine sg_enter (lv0 := [(0, .ref (ad 0)), (1, .int a1)]) pn_X11 (Nat.le_of_ble_eq_true rfl) rfl ?_
  unfold gC_told at h
  refine sg_iload_n (pn := 1) (i := 1) dX11_told_0 rfl rfl 1 rfl ?_
  by_cases hk0 : a1 = (0 : Int32)
  · have h := sg_ifp hk0 h
    refine sg_tabIn (tgt := 80) (off := 79) dX11_told_1 (by rw [hk0]; decide) (by rw [hk0]; decide) (by rw [hk0]; rfl) (by decide) ?_
    refine sg_aload_n (pn := 81) (i := 0) dX11_told_80 rfl rfl 0 rfl ?_
    refine gfC_0_1 (pn := 84) dX11_told_81 rfl lf_X11_19 ?_
    refine gfC_9_0 (pn := 87) dX11_told_84 rfl lf_X11_124 ?_
    obtain rfl := Option.some.inj h
    exact sg_iret dX11_told_87 rfl ⟨rfl, rfl⟩
  · have h := sg_ifn hk0 h
    by_cases hk1 : a1 = (1 : Int32)
    · have h := sg_ifp hk1 h
      refine sg_tabIn (tgt := 88) (off := 87) dX11_told_1 (by rw [hk1]; decide) (by rw [hk1]; decide) (by rw [hk1]; rfl) (by decide) ?_
      refine sg_aload_n (pn := 89) (i := 0) dX11_told_88 rfl rfl 0 rfl ?_
      refine gfC_0_1 (pn := 92) dX11_told_89 rfl lf_X11_19 ?_
      refine gfC_9_2 (pn := 95) dX11_told_92 rfl lf_X11_130 ?_
      obtain rfl := Option.some.inj h
      exact sg_iret dX11_told_95 rfl ⟨rfl, rfl⟩
    · have h := sg_ifn hk1 h
      by_cases hk2 : a1 = (2 : Int32)
      · have h := sg_ifp hk2 h
        refine sg_tabIn (tgt := 96) (off := 95) dX11_told_1 (by rw [hk2]; decide) (by rw [hk2]; decide) (by rw [hk2]; rfl) (by decide) ?_
        refine sg_aload_n (pn := 97) (i := 0) dX11_told_96 rfl rfl 0 rfl ?_
        refine gfC_0_0 (pn := 100) dX11_told_97 rfl lf_X11_12 ?_
        refine gfC_1_1 (pn := 103) dX11_told_100 rfl lf_X11_100 ?_
        obtain rfl := Option.some.inj h
        exact sg_iret dX11_told_103 rfl ⟨rfl, rfl⟩
      · have h := sg_ifn hk2 h
        by_cases hk3 : a1 = (3 : Int32)
        · have h := sg_ifp hk3 h
          refine sg_tabIn (tgt := 104) (off := 103) dX11_told_1 (by rw [hk3]; decide) (by rw [hk3]; decide) (by rw [hk3]; rfl) (by decide) ?_
          refine sg_aload_n (pn := 105) (i := 0) dX11_told_104 rfl rfl 0 rfl ?_
          refine gfC_0_2 (pn := 108) dX11_told_105 rfl lf_X11_26 ?_
          refine gfC_15_0 (pn := 111) dX11_told_108 rfl lf_X11_133 ?_
          obtain rfl := Option.some.inj h
          exact sg_iret dX11_told_111 rfl ⟨rfl, rfl⟩
        · have h := sg_ifn hk3 h
          by_cases hk4 : a1 = (4 : Int32)
          · have h := sg_ifp hk4 h
            refine sg_tabIn (tgt := 112) (off := 111) dX11_told_1 (by rw [hk4]; decide) (by rw [hk4]; decide) (by rw [hk4]; rfl) (by decide) ?_
            refine sg_aload_n (pn := 113) (i := 0) dX11_told_112 rfl rfl 0 rfl ?_
            refine gfC_0_3 (pn := 116) dX11_told_113 rfl lf_X11_35 ?_
            refine sg_iconst (pn := 117) dX11_told_116 rfl ic_0 ?_
            obtain ⟨r1, h_r1, h⟩ := sg_bind h
            refine sg_callVi (pn := 120) (rest := []) 23 dX11_told_117 rfl kb_X11_136 kv_X2_wetBehind (by exact rfl) rfl (Nat.le_of_ble_eq_true rfl) (gC_Kingdom_wetBehind_ok h_r1) rfl rfl (Nat.le_of_ble_eq_true rfl) ?_
            obtain rfl := Option.some.inj h
            exact sg_iret dX11_told_120 rfl ⟨rfl, rfl⟩
          · have h := sg_ifn hk4 h
            by_cases hk5 : a1 = (5 : Int32)
            · have h := sg_ifp hk5 h
              refine sg_tabIn (tgt := 121) (off := 120) dX11_told_1 (by rw [hk5]; decide) (by rw [hk5]; decide) (by rw [hk5]; rfl) (by decide) ?_
              refine sg_aload_n (pn := 122) (i := 0) dX11_told_121 rfl rfl 0 rfl ?_
              refine gfC_0_2 (pn := 125) dX11_told_122 rfl lf_X11_26 ?_
              refine gfC_15_1 (pn := 128) dX11_told_125 rfl lf_X11_140 ?_
              obtain rfl := Option.some.inj h
              exact sg_iret dX11_told_128 rfl ⟨rfl, rfl⟩
            · have h := sg_ifn hk5 h
              by_cases hk6 : a1 = (6 : Int32)
              · have h := sg_ifp hk6 h
                refine sg_tabIn (tgt := 129) (off := 128) dX11_told_1 (by rw [hk6]; decide) (by rw [hk6]; decide) (by rw [hk6]; rfl) (by decide) ?_
                refine sg_aload_n (pn := 130) (i := 0) dX11_told_129 rfl rfl 0 rfl ?_
                refine gfC_0_4 (pn := 133) dX11_told_130 rfl lf_X11_42 ?_
                obtain ⟨r2, h_r2, h⟩ := sg_bind h
                refine sg_callVi (pn := 136) (rest := []) 24 dX11_told_133 rfl kb_X11_143 kv_X9_townSet (by exact rfl) rfl (Nat.le_of_ble_eq_true rfl) (gC_Survey_townSet_ok h_r2) rfl rfl (Nat.le_of_ble_eq_true rfl) ?_
                obtain rfl := Option.some.inj h
                exact sg_iret dX11_told_136 rfl ⟨rfl, rfl⟩
              · have h := sg_ifn hk6 h
                by_cases hk7 : a1 = (7 : Int32)
                · have h := sg_ifp hk7 h
                  refine sg_tabIn (tgt := 137) (off := 136) dX11_told_1 (by rw [hk7]; decide) (by rw [hk7]; decide) (by rw [hk7]; rfl) (by decide) ?_
                  refine sg_aload_n (pn := 138) (i := 0) dX11_told_137 rfl rfl 0 rfl ?_
                  refine gfC_0_4 (pn := 141) dX11_told_138 rfl lf_X11_42 ?_
                  obtain ⟨r3, h_r3, h⟩ := sg_bind h
                  refine sg_callVi (pn := 144) (rest := []) 24 dX11_told_141 rfl kb_X11_146 kv_X9_stuckSet (by exact rfl) rfl (Nat.le_of_ble_eq_true rfl) (gC_Survey_stuckSet_ok h_r3) rfl rfl (Nat.le_of_ble_eq_true rfl) ?_
                  obtain rfl := Option.some.inj h
                  exact sg_iret dX11_told_144 rfl ⟨rfl, rfl⟩
                · have h := sg_ifn hk7 h
                  by_cases hk8 : a1 = (8 : Int32)
                  · have h := sg_ifp hk8 h
                    refine sg_tabIn (tgt := 145) (off := 144) dX11_told_1 (by rw [hk8]; decide) (by rw [hk8]; decide) (by rw [hk8]; rfl) (by decide) ?_
                    refine sg_aload_n (pn := 146) (i := 0) dX11_told_145 rfl rfl 0 rfl ?_
                    refine gfC_0_5 (pn := 149) dX11_told_146 rfl lf_X11_51 ?_
                    obtain ⟨r4, h_r4, h⟩ := sg_bind h
                    refine sg_callVi (pn := 152) (rest := []) 25 dX11_told_149 rfl kb_X11_149 kv_X10_stopper (by exact rfl) rfl (Nat.le_of_ble_eq_true rfl) (gC_Trials_stopper_ok h_r4) rfl rfl (Nat.le_of_ble_eq_true rfl) ?_
                    obtain rfl := Option.some.inj h
                    exact sg_iret dX11_told_152 rfl ⟨rfl, rfl⟩
                  · have h := sg_ifn hk8 h
                    by_cases hk9 : a1 = (9 : Int32)
                    · have h := sg_ifp hk9 h
                      refine sg_tabIn (tgt := 153) (off := 152) dX11_told_1 (by rw [hk9]; decide) (by rw [hk9]; decide) (by rw [hk9]; rfl) (by decide) ?_
                      refine sg_aload_n (pn := 154) (i := 0) dX11_told_153 rfl rfl 0 rfl ?_
                      refine gfC_0_4 (pn := 157) dX11_told_154 rfl lf_X11_42 ?_
                      obtain ⟨r5, h_r5, h⟩ := sg_bind h
                      refine sg_callVi (pn := 160) (rest := []) 24 dX11_told_157 rfl kb_X11_152 kv_X9_farthest (by exact rfl) rfl (Nat.le_of_ble_eq_true rfl) (gC_Survey_farthest_ok h_r5) rfl rfl (Nat.le_of_ble_eq_true rfl) ?_
                      obtain rfl := Option.some.inj h
                      exact sg_iret dX11_told_160 rfl ⟨rfl, rfl⟩
                    · have h := sg_ifn hk9 h
                      by_cases hk10 : a1 = (10 : Int32)
                      · have h := sg_ifp hk10 h
                        refine sg_tabIn (tgt := 161) (off := 160) dX11_told_1 (by rw [hk10]; decide) (by rw [hk10]; decide) (by rw [hk10]; rfl) (by decide) ?_
                        refine sg_aload_n (pn := 162) (i := 0) dX11_told_161 rfl rfl 0 rfl ?_
                        refine gfC_0_4 (pn := 165) dX11_told_162 rfl lf_X11_42 ?_
                        obtain ⟨r6, h_r6, h⟩ := sg_bind h
                        refine sg_callVi (pn := 168) (rest := []) 24 dX11_told_165 rfl kb_X11_155 kv_X9_longestWay (by exact rfl) rfl (Nat.le_of_ble_eq_true rfl) (gC_Survey_longestWay_ok h_r6) rfl rfl (Nat.le_of_ble_eq_true rfl) ?_
                        obtain rfl := Option.some.inj h
                        exact sg_iret dX11_told_168 rfl ⟨rfl, rfl⟩
                      · have h := sg_ifn hk10 h
                        by_cases hk11 : a1 = (11 : Int32)
                        · have h := sg_ifp hk11 h
                          refine sg_tabIn (tgt := 169) (off := 168) dX11_told_1 (by rw [hk11]; decide) (by rw [hk11]; decide) (by rw [hk11]; rfl) (by decide) ?_
                          refine sg_aload_n (pn := 170) (i := 0) dX11_told_169 rfl rfl 0 rfl ?_
                          refine gfC_0_4 (pn := 173) dX11_told_170 rfl lf_X11_42 ?_
                          obtain ⟨r7, h_r7, h⟩ := sg_bind h
                          refine sg_callVi (pn := 176) (rest := []) 24 dX11_told_173 rfl kb_X11_158 kv_X9_biggest (by exact rfl) rfl (Nat.le_of_ble_eq_true rfl) (gC_Survey_biggest_ok h_r7) rfl rfl (Nat.le_of_ble_eq_true rfl) ?_
                          obtain rfl := Option.some.inj h
                          exact sg_iret dX11_told_176 rfl ⟨rfl, rfl⟩
                        · have h := sg_ifn hk11 h
                          by_cases hk12 : a1 = (12 : Int32)
                          · have h := sg_ifp hk12 h
                            refine sg_tabIn (tgt := 177) (off := 176) dX11_told_1 (by rw [hk12]; decide) (by rw [hk12]; decide) (by rw [hk12]; rfl) (by decide) ?_
                            refine sg_aload_n (pn := 178) (i := 0) dX11_told_177 rfl rfl 0 rfl ?_
                            refine gfC_0_4 (pn := 181) dX11_told_178 rfl lf_X11_42 ?_
                            obtain ⟨r8, h_r8, h⟩ := sg_bind h
                            refine sg_callVi (pn := 184) (rest := []) 24 dX11_told_181 rfl kb_X11_161 kv_X9_folkOfAll (by exact rfl) rfl (Nat.le_of_ble_eq_true rfl) (gC_Survey_folkOfAll_ok h_r8) rfl rfl (Nat.le_of_ble_eq_true rfl) ?_
                            obtain rfl := Option.some.inj h
                            exact sg_iret dX11_told_184 rfl ⟨rfl, rfl⟩
                          · have h := sg_ifn hk12 h
                            by_cases hk13 : a1 = (13 : Int32)
                            · have h := sg_ifp hk13 h
                              refine sg_tabIn (tgt := 185) (off := 184) dX11_told_1 (by rw [hk13]; decide) (by rw [hk13]; decide) (by rw [hk13]; rfl) (by decide) ?_
                              refine sg_aload_n (pn := 186) (i := 0) dX11_told_185 rfl rfl 0 rfl ?_
                              refine gfC_0_7 (pn := 189) dX11_told_186 rfl lf_X11_69 ?_
                              refine gfC_30_0 (pn := 192) dX11_told_189 rfl lf_X11_118 ?_
                              obtain rfl := Option.some.inj h
                              exact sg_iret dX11_told_192 rfl ⟨rfl, rfl⟩
                            · have h := sg_ifn hk13 h
                              by_cases hk14 : a1 = (14 : Int32)
                              · have h := sg_ifp hk14 h
                                refine sg_tabIn (tgt := 193) (off := 192) dX11_told_1 (by rw [hk14]; decide) (by rw [hk14]; decide) (by rw [hk14]; rfl) (by decide) ?_
                                refine sg_aload_n (pn := 194) (i := 0) dX11_told_193 rfl rfl 0 rfl ?_
                                refine gfC_0_8 (pn := 197) dX11_told_194 rfl lf_X11_73 ?_
                                refine gfC_33_0 (pn := 200) dX11_told_197 rfl lf_X11_118 ?_
                                obtain rfl := Option.some.inj h
                                exact sg_iret dX11_told_200 rfl ⟨rfl, rfl⟩
                              · have h := sg_ifn hk14 h
                                by_cases hk15 : a1 = (15 : Int32)
                                · have h := sg_ifp hk15 h
                                  refine sg_tabIn (tgt := 201) (off := 200) dX11_told_1 (by rw [hk15]; decide) (by rw [hk15]; decide) (by rw [hk15]; rfl) (by decide) ?_
                                  refine sg_aload_n (pn := 202) (i := 0) dX11_told_201 rfl rfl 0 rfl ?_
                                  refine gfC_0_10 (pn := 205) dX11_told_202 rfl lf_X11_88 ?_
                                  refine gfC_40_0 (pn := 208) dX11_told_205 rfl lf_X11_164 ?_
                                  obtain rfl := Option.some.inj h
                                  exact sg_iret dX11_told_208 rfl ⟨rfl, rfl⟩
                                · have h := sg_ifn hk15 h
                                  refine sg_tabOut (tgt := 209) dX11_told_1 (by have q0 := lv_neT hk0 (show (0 : Int32).toInt = 0 from rfl); have q1 := lv_neT hk1 (show (1 : Int32).toInt = 1 from rfl); have q2 := lv_neT hk2 (show (2 : Int32).toInt = 2 from rfl); have q3 := lv_neT hk3 (show (3 : Int32).toInt = 3 from rfl); have q4 := lv_neT hk4 (show (4 : Int32).toInt = 4 from rfl); have q5 := lv_neT hk5 (show (5 : Int32).toInt = 5 from rfl); have q6 := lv_neT hk6 (show (6 : Int32).toInt = 6 from rfl); have q7 := lv_neT hk7 (show (7 : Int32).toInt = 7 from rfl); have q8 := lv_neT hk8 (show (8 : Int32).toInt = 8 from rfl); have q9 := lv_neT hk9 (show (9 : Int32).toInt = 9 from rfl); have q10 := lv_neT hk10 (show (10 : Int32).toInt = 10 from rfl); have q11 := lv_neT hk11 (show (11 : Int32).toInt = 11 from rfl); have q12 := lv_neT hk12 (show (12 : Int32).toInt = 12 from rfl); have q13 := lv_neT hk13 (show (13 : Int32).toInt = 13 from rfl); have q14 := lv_neT hk14 (show (14 : Int32).toInt = 14 from rfl); have q15 := lv_neT hk15 (show (15 : Int32).toInt = 15 from rfl); omega) (by decide) ?_
                                  refine sg_ldc (pn := 211) dX11_told_209 rfl kc_X11_99 ?_
                                  obtain rfl := Option.some.inj h
                                  exact sg_iret dX11_told_211 rfl ⟨rfl, rfl⟩
set_option maxRecDepth 4000 in
theorem gC_cell_ok {l : Launch} {D : va_G} {cI cZ : ClassId} {ad : Nat → Nat} {a1 : Int32} {a2 : Int32} {z : sg_M} {r : Int32} (h : gC_cell a1 a2 z = some r) : sg_Met (eC l D cI cZ ad) yX11_cell cX11_cell 3 (some .int) 3 [.ref (ad 0), .int a1, .int a2] z (sg_is (some (.int r)) z) := by
  refine sg_enter (lv0 := [(0, .ref (ad 0)), (1, .int a1), (2, .int a2)]) pn_X11 (Nat.le_of_ble_eq_true rfl) rfl ?_
  unfold gC_cell at h
  refine sg_aload_n (pn := 1) (i := 0) dX11_cell_0 rfl rfl 0 rfl ?_
  refine gfC_0_1 (pn := 4) dX11_cell_1 rfl lf_X11_19 ?_
  refine sg_iload_n (pn := 5) (i := 1) dX11_cell_4 rfl rfl 1 rfl ?_
  refine sg_callVi (pn := 8) (rest := []) 9 dX11_cell_5 rfl kb_X11_167 kv_X6_hasCell (by exact rfl) rfl (Nat.le_of_ble_eq_true rfl) (gC_Road_hasCell_ok rfl) rfl rfl (Nat.le_of_ble_eq_true rfl) ?_
  refine sg_if_ne (pn := 11) (tgt := 14) dX11_cell_8 rfl (by decide) (fun hc => ?_) (fun hc => ?_)
  · have h := sg_ifn hc h
    refine sg_iload_n (pn := 15) (i := 2) dX11_cell_14 rfl rfl 2 rfl ?_
    by_cases hk0 : a2 = (0 : Int32)
    · have h := sg_ifp hk0 h
      refine sg_tabIn (tgt := 48) (off := 33) dX11_cell_15 (by rw [hk0]; decide) (by rw [hk0]; decide) (by rw [hk0]; rfl) (by decide) ?_
      refine sg_aload_n (pn := 49) (i := 0) dX11_cell_48 rfl rfl 0 rfl ?_
      refine gfC_0_1 (pn := 52) dX11_cell_49 rfl lf_X11_19 ?_
      refine gfC_9_3 (pn := 55) dX11_cell_52 rfl lf_X11_172 ?_
      refine sg_iload_n (pn := 56) (i := 1) dX11_cell_55 rfl rfl 1 rfl ?_
      obtain ⟨hg, h⟩ := sg_guard h
      refine alC_10 (pn := 57) dX11_cell_56 rfl (sg_in_vp hg) ?_
      obtain rfl := Option.some.inj h
      exact sg_iret dX11_cell_57 rfl ⟨rfl, rfl⟩
    · have h := sg_ifn hk0 h
      by_cases hk1 : a2 = (1 : Int32)
      · have h := sg_ifp hk1 h
        refine sg_tabIn (tgt := 58) (off := 43) dX11_cell_15 (by rw [hk1]; decide) (by rw [hk1]; decide) (by rw [hk1]; rfl) (by decide) ?_
        refine sg_aload_n (pn := 59) (i := 0) dX11_cell_58 rfl rfl 0 rfl ?_
        refine gfC_0_2 (pn := 62) dX11_cell_59 rfl lf_X11_26 ?_
        refine gfC_15_2 (pn := 65) dX11_cell_62 rfl lf_X11_176 ?_
        refine sg_iload_n (pn := 66) (i := 1) dX11_cell_65 rfl rfl 1 rfl ?_
        obtain ⟨hg, h⟩ := sg_guard h
        refine alC_16 (pn := 67) dX11_cell_66 rfl (sg_in_vp hg) ?_
        obtain rfl := Option.some.inj h
        exact sg_iret dX11_cell_67 rfl ⟨rfl, rfl⟩
      · have h := sg_ifn hk1 h
        by_cases hk2 : a2 = (2 : Int32)
        · have h := sg_ifp hk2 h
          refine sg_tabIn (tgt := 68) (off := 53) dX11_cell_15 (by rw [hk2]; decide) (by rw [hk2]; decide) (by rw [hk2]; rfl) (by decide) ?_
          refine sg_aload_n (pn := 69) (i := 0) dX11_cell_68 rfl rfl 0 rfl ?_
          refine gfC_0_2 (pn := 72) dX11_cell_69 rfl lf_X11_26 ?_
          refine gfC_15_3 (pn := 75) dX11_cell_72 rfl lf_X11_179 ?_
          refine sg_iload_n (pn := 76) (i := 1) dX11_cell_75 rfl rfl 1 rfl ?_
          obtain ⟨hg, h⟩ := sg_guard h
          refine alC_17 (pn := 77) dX11_cell_76 rfl (sg_in_vp hg) ?_
          obtain rfl := Option.some.inj h
          exact sg_iret dX11_cell_77 rfl ⟨rfl, rfl⟩
        · have h := sg_ifn hk2 h
          by_cases hk3 : a2 = (3 : Int32)
          · have h := sg_ifp hk3 h
            refine sg_tabIn (tgt := 78) (off := 63) dX11_cell_15 (by rw [hk3]; decide) (by rw [hk3]; decide) (by rw [hk3]; rfl) (by decide) ?_
            refine sg_aload_n (pn := 79) (i := 0) dX11_cell_78 rfl rfl 0 rfl ?_
            refine gfC_0_2 (pn := 82) dX11_cell_79 rfl lf_X11_26 ?_
            refine gfC_15_4 (pn := 85) dX11_cell_82 rfl lf_X11_182 ?_
            refine sg_iload_n (pn := 86) (i := 1) dX11_cell_85 rfl rfl 1 rfl ?_
            obtain ⟨hg, h⟩ := sg_guard h
            refine alC_18 (pn := 87) dX11_cell_86 rfl (sg_in_vp hg) ?_
            obtain rfl := Option.some.inj h
            exact sg_iret dX11_cell_87 rfl ⟨rfl, rfl⟩
          · have h := sg_ifn hk3 h
            by_cases hk4 : a2 = (4 : Int32)
            · have h := sg_ifp hk4 h
              refine sg_tabIn (tgt := 88) (off := 73) dX11_cell_15 (by rw [hk4]; decide) (by rw [hk4]; decide) (by rw [hk4]; rfl) (by decide) ?_
              refine sg_aload_n (pn := 89) (i := 0) dX11_cell_88 rfl rfl 0 rfl ?_
              refine gfC_0_2 (pn := 92) dX11_cell_89 rfl lf_X11_26 ?_
              refine sg_iload_n (pn := 93) (i := 1) dX11_cell_92 rfl rfl 1 rfl ?_
              obtain ⟨r1, h_r1, h⟩ := sg_bind h
              refine sg_callVi (pn := 96) (rest := []) 15 dX11_cell_93 rfl kb_X11_185 kv_X8_folkAt (by exact rfl) rfl (Nat.le_of_ble_eq_true rfl) (gC_State_folkAt_ok h_r1) rfl rfl (Nat.le_of_ble_eq_true rfl) ?_
              obtain rfl := Option.some.inj h
              exact sg_iret dX11_cell_96 rfl ⟨rfl, rfl⟩
            · have h := sg_ifn hk4 h
              refine sg_tabOut (tgt := 97) dX11_cell_15 (by have q0 := lv_neT hk0 (show (0 : Int32).toInt = 0 from rfl); have q1 := lv_neT hk1 (show (1 : Int32).toInt = 1 from rfl); have q2 := lv_neT hk2 (show (2 : Int32).toInt = 2 from rfl); have q3 := lv_neT hk3 (show (3 : Int32).toInt = 3 from rfl); have q4 := lv_neT hk4 (show (4 : Int32).toInt = 4 from rfl); omega) (by decide) ?_
              refine sg_ldc (pn := 99) dX11_cell_97 rfl kc_X11_99 ?_
              obtain rfl := Option.some.inj h
              exact sg_iret dX11_cell_99 rfl ⟨rfl, rfl⟩
  · have h := sg_ifp hc h
    refine sg_ldc (pn := 13) dX11_cell_11 rfl kc_X11_171 ?_
    obtain rfl := Option.some.inj h
    exact sg_iret dX11_cell_13 rfl ⟨rfl, rfl⟩
set_option maxRecDepth 4000 in
theorem gC_Road_hasCart_ok {l : Launch} {D : va_G} {cI cZ : ClassId} {ad : Nat → Nat} {a1 : Int32} {z : sg_M} {r : Int32} (h : gC_Road_hasCart a1 z = r) : sg_Met (eC l D cI cZ ad) yX6_hasCart cX6_hasCart 2 (some .boolean) 1 [.ref (ad 9), .int a1] z (sg_is (some (.int r)) z) := by
  refine sg_enter (lv0 := [(0, .ref (ad 9)), (1, .int a1)]) pn_X6 (Nat.le_of_ble_eq_true rfl) rfl ?_
  unfold gC_Road_hasCart at h
  refine sg_iload_n (pn := 1) (i := 1) dX6_hasCart_0 rfl rfl 1 rfl ?_
  refine sg_if_lt (pn := 4) (tgt := 16) dX6_hasCart_1 rfl (by decide) (fun hc => ?_) (fun hc => ?_)
  · have h := sg_ifp hc h
    refine sg_iconst (pn := 17) dX6_hasCart_16 rfl ic_0 ?_
    subst h
    exact sg_zret dX6_hasCart_17 rfl rfl ⟨rfl, rfl⟩
  · have h := sg_ifn hc h
    refine sg_iload_n (pn := 5) (i := 1) dX6_hasCart_4 rfl rfl 1 rfl ?_
    refine sg_aload_n (pn := 6) (i := 0) dX6_hasCart_5 rfl rfl 0 rfl ?_
    refine gfC_9_2 (pn := 9) dX6_hasCart_6 rfl lf_X6_31 ?_
    refine sg_icmp_ge (pn := 12) (tgt := 16) dX6_hasCart_9 rfl (by decide) (fun hc => ?_) (fun hc => ?_)
    · have h := sg_ifp hc h
      refine sg_iconst (pn := 17) dX6_hasCart_16 rfl ic_0 ?_
      subst h
      exact sg_zret dX6_hasCart_17 rfl rfl ⟨rfl, rfl⟩
    · have h := sg_ifn hc h
      refine sg_iconst (pn := 13) dX6_hasCart_12 rfl ic_1 ?_
      refine sg_goto (tgt := 17) dX6_hasCart_13 (by decide) ?_
      subst h
      exact sg_zret dX6_hasCart_17 rfl rfl ⟨rfl, rfl⟩
set_option maxRecDepth 4000 in
theorem gC_Survey_mayorOf_L_ok {l : Launch} {D : va_G} {cI cZ : ClassId} {ad : Nat → Nat} : ∀ (n : Nat) (v1 : Int32) (v2 : Int32) (z : sg_M) (r : Int32), gC_Survey_mayorOf_L n v1 v2 z = some r → sg_G (eC l D cI cZ ad) yX9_mayorOf cX9_mayorOf 3 (some .int) 1 2 [(0, .ref (ad 24)), (1, .int v1), (2, .int v2)] [] z (sg_is (some (.int r)) z) := by
  intro n
  induction n with
  | zero => intro v1 v2 z r h; cases h
  | succ n ih =>
    intro v1 v2 z r h
    unfold gC_Survey_mayorOf_L at h
    refine sg_iload_n (pn := 3) (i := 2) dX9_mayorOf_2 rfl rfl 2 rfl ?_
    refine sg_aload_n (pn := 4) (i := 0) dX9_mayorOf_3 rfl rfl 0 rfl ?_
    refine gfC_24_0 (pn := 7) dX9_mayorOf_4 rfl lf_X9_9 ?_
    refine gfC_9_0 (pn := 10) dX9_mayorOf_7 rfl lf_X9_19 ?_
    refine sg_icmp_ge (pn := 13) (tgt := 34) dX9_mayorOf_10 rfl (by decide) (fun hc => ?_) (fun hc => ?_)
    · have h := sg_ifp hc h
      refine sg_iconst (pn := 35) dX9_mayorOf_34 rfl ic_m1 ?_
      obtain rfl := Option.some.inj h
      exact sg_iret dX9_mayorOf_35 rfl ⟨rfl, rfl⟩
    · have h := sg_ifn hc h
      refine sg_aload_n (pn := 14) (i := 0) dX9_mayorOf_13 rfl rfl 0 rfl ?_
      refine gfC_24_1 (pn := 17) dX9_mayorOf_14 rfl lf_X9_15 ?_
      refine gfC_15_4 (pn := 20) dX9_mayorOf_17 rfl lf_X9_37 ?_
      refine sg_iload_n (pn := 21) (i := 2) dX9_mayorOf_20 rfl rfl 2 rfl ?_
      obtain ⟨hg, h⟩ := sg_guard h
      refine alC_18 (pn := 22) dX9_mayorOf_21 rfl (sg_in_vp hg) ?_
      refine sg_iload_n (pn := 23) (i := 1) dX9_mayorOf_22 rfl rfl 1 rfl ?_
      refine sg_icmp_ne (pn := 26) (tgt := 28) dX9_mayorOf_23 rfl (by decide) (fun hc => ?_) (fun hc => ?_)
      · have h := sg_ifn hc h
        refine sg_iinc (pn := 31) (i := 2) (lv' := [(0, .ref (ad 24)), (1, .int v1), (2, .int (v2 + (1 : Int32)))]) dX9_mayorOf_28 rfl 2 rfl (ii_1 _) (Nat.le_of_ble_eq_true rfl) [1, 2, 0] rfl ?_
        refine sg_goto (tgt := 2) dX9_mayorOf_31 (by decide) ?_
        exact ih _ _ _ _ h
      · have h := sg_ifp hc h
        refine sg_iload_n (pn := 27) (i := 2) dX9_mayorOf_26 rfl rfl 2 rfl ?_
        obtain rfl := Option.some.inj h
        exact sg_iret dX9_mayorOf_27 rfl ⟨rfl, rfl⟩
set_option maxRecDepth 4000 in
theorem gC_Survey_mayorOf_ok {l : Launch} {D : va_G} {cI cZ : ClassId} {ad : Nat → Nat} {n : Nat} {a1 : Int32} {z : sg_M} {r : Int32} (h : gC_Survey_mayorOf n a1 z = some r) : sg_Met (eC l D cI cZ ad) yX9_mayorOf cX9_mayorOf 3 (some .int) 1 [.ref (ad 24), .int a1] z (sg_is (some (.int r)) z) := by
  refine sg_enter (lv0 := [(0, .ref (ad 24)), (1, .int a1)]) pn_X9 (Nat.le_of_ble_eq_true rfl) rfl ?_
  unfold gC_Survey_mayorOf at h
  refine sg_iconst (pn := 1) dX9_mayorOf_0 rfl ic_0 ?_
  refine sg_istore_n (pn := 2) (i := 2) (lv' := [(0, .ref (ad 24)), (1, .int a1), (2, .int (0 : Int32))]) dX9_mayorOf_1 rfl rfl (Nat.le_of_ble_eq_true rfl) [1, 2, 0] rfl ?_
  exact gC_Survey_mayorOf_L_ok n _ _ _ _ h
set_option maxRecDepth 4000 in
theorem gC_cart_ok {l : Launch} {D : va_G} {cI cZ : ClassId} {ad : Nat → Nat} {n : Nat} {a1 : Int32} {a2 : Int32} {z : sg_M} {r : Int32} (h : gC_cart n a1 a2 z = some r) : sg_Met (eC l D cI cZ ad) yX11_cart cX11_cart 3 (some .int) 2 [.ref (ad 0), .int a1, .int a2] z (sg_is (some (.int r)) z) := by
  refine sg_enter (lv0 := [(0, .ref (ad 0)), (1, .int a1), (2, .int a2)]) pn_X11 (Nat.le_of_ble_eq_true rfl) rfl ?_
  unfold gC_cart at h
  refine sg_aload_n (pn := 1) (i := 0) dX11_cart_0 rfl rfl 0 rfl ?_
  refine gfC_0_1 (pn := 4) dX11_cart_1 rfl lf_X11_19 ?_
  refine sg_iload_n (pn := 5) (i := 1) dX11_cart_4 rfl rfl 1 rfl ?_
  refine sg_callVi (pn := 8) (rest := []) 9 dX11_cart_5 rfl kb_X11_188 kv_X6_hasCart (by exact rfl) rfl (Nat.le_of_ble_eq_true rfl) (gC_Road_hasCart_ok rfl) rfl rfl (Nat.le_of_ble_eq_true rfl) ?_
  refine sg_if_ne (pn := 11) (tgt := 14) dX11_cart_8 rfl (by decide) (fun hc => ?_) (fun hc => ?_)
  · have h := sg_ifn hc h
    refine sg_iload_n (pn := 15) (i := 2) dX11_cart_14 rfl rfl 2 rfl ?_
    by_cases hk0 : a2 = (0 : Int32)
    · have h := sg_ifp hk0 h
      refine sg_tabIn (tgt := 52) (off := 37) dX11_cart_15 (by rw [hk0]; decide) (by rw [hk0]; decide) (by rw [hk0]; rfl) (by decide) ?_
      refine sg_aload_n (pn := 53) (i := 0) dX11_cart_52 rfl rfl 0 rfl ?_
      refine gfC_0_1 (pn := 56) dX11_cart_53 rfl lf_X11_19 ?_
      refine gfC_9_5 (pn := 59) dX11_cart_56 rfl lf_X11_191 ?_
      refine sg_iload_n (pn := 60) (i := 1) dX11_cart_59 rfl rfl 1 rfl ?_
      obtain ⟨hg, h⟩ := sg_guard h
      refine alC_12 (pn := 61) dX11_cart_60 rfl (sg_in_vp hg) ?_
      obtain rfl := Option.some.inj h
      exact sg_iret dX11_cart_61 rfl ⟨rfl, rfl⟩
    · have h := sg_ifn hk0 h
      by_cases hk1 : a2 = (1 : Int32)
      · have h := sg_ifp hk1 h
        refine sg_tabIn (tgt := 62) (off := 47) dX11_cart_15 (by rw [hk1]; decide) (by rw [hk1]; decide) (by rw [hk1]; rfl) (by decide) ?_
        refine sg_aload_n (pn := 63) (i := 0) dX11_cart_62 rfl rfl 0 rfl ?_
        refine gfC_0_2 (pn := 66) dX11_cart_63 rfl lf_X11_26 ?_
        refine gfC_15_6 (pn := 69) dX11_cart_66 rfl lf_X11_194 ?_
        refine sg_iload_n (pn := 70) (i := 1) dX11_cart_69 rfl rfl 1 rfl ?_
        obtain ⟨hg, h⟩ := sg_guard h
        refine alC_20 (pn := 71) dX11_cart_70 rfl (sg_in_vp hg) ?_
        obtain rfl := Option.some.inj h
        exact sg_iret dX11_cart_71 rfl ⟨rfl, rfl⟩
      · have h := sg_ifn hk1 h
        by_cases hk2 : a2 = (2 : Int32)
        · have h := sg_ifp hk2 h
          refine sg_tabIn (tgt := 72) (off := 57) dX11_cart_15 (by rw [hk2]; decide) (by rw [hk2]; decide) (by rw [hk2]; rfl) (by decide) ?_
          refine sg_aload_n (pn := 73) (i := 0) dX11_cart_72 rfl rfl 0 rfl ?_
          refine gfC_0_1 (pn := 76) dX11_cart_73 rfl lf_X11_19 ?_
          refine gfC_9_7 (pn := 79) dX11_cart_76 rfl lf_X11_197 ?_
          refine sg_iload_n (pn := 80) (i := 1) dX11_cart_79 rfl rfl 1 rfl ?_
          obtain ⟨hg, h⟩ := sg_guard h
          refine alC_14 (pn := 81) dX11_cart_80 rfl (sg_in_vp hg) ?_
          obtain rfl := Option.some.inj h
          exact sg_iret dX11_cart_81 rfl ⟨rfl, rfl⟩
        · have h := sg_ifn hk2 h
          by_cases hk3 : a2 = (3 : Int32)
          · have h := sg_ifp hk3 h
            refine sg_tabIn (tgt := 82) (off := 67) dX11_cart_15 (by rw [hk3]; decide) (by rw [hk3]; decide) (by rw [hk3]; rfl) (by decide) ?_
            refine sg_aload_n (pn := 83) (i := 0) dX11_cart_82 rfl rfl 0 rfl ?_
            refine gfC_0_2 (pn := 86) dX11_cart_83 rfl lf_X11_26 ?_
            refine gfC_15_7 (pn := 89) dX11_cart_86 rfl lf_X11_200 ?_
            refine sg_iload_n (pn := 90) (i := 1) dX11_cart_89 rfl rfl 1 rfl ?_
            obtain ⟨hg, h⟩ := sg_guard h
            refine alC_21 (pn := 91) dX11_cart_90 rfl (sg_in_vp hg) ?_
            obtain rfl := Option.some.inj h
            exact sg_iret dX11_cart_91 rfl ⟨rfl, rfl⟩
          · have h := sg_ifn hk3 h
            by_cases hk4 : a2 = (4 : Int32)
            · have h := sg_ifp hk4 h
              refine sg_tabIn (tgt := 92) (off := 77) dX11_cart_15 (by rw [hk4]; decide) (by rw [hk4]; decide) (by rw [hk4]; rfl) (by decide) ?_
              refine sg_aload_n (pn := 93) (i := 0) dX11_cart_92 rfl rfl 0 rfl ?_
              refine gfC_0_2 (pn := 96) dX11_cart_93 rfl lf_X11_26 ?_
              refine gfC_15_8 (pn := 99) dX11_cart_96 rfl lf_X11_203 ?_
              refine sg_iload_n (pn := 100) (i := 1) dX11_cart_99 rfl rfl 1 rfl ?_
              obtain ⟨hg, h⟩ := sg_guard h
              refine alC_22 (pn := 101) dX11_cart_100 rfl (sg_in_vp hg) ?_
              obtain rfl := Option.some.inj h
              exact sg_iret dX11_cart_101 rfl ⟨rfl, rfl⟩
            · have h := sg_ifn hk4 h
              by_cases hk5 : a2 = (5 : Int32)
              · have h := sg_ifp hk5 h
                refine sg_tabIn (tgt := 102) (off := 87) dX11_cart_15 (by rw [hk5]; decide) (by rw [hk5]; decide) (by rw [hk5]; rfl) (by decide) ?_
                refine sg_aload_n (pn := 103) (i := 0) dX11_cart_102 rfl rfl 0 rfl ?_
                refine gfC_0_4 (pn := 106) dX11_cart_103 rfl lf_X11_42 ?_
                refine sg_iload_n (pn := 107) (i := 1) dX11_cart_106 rfl rfl 1 rfl ?_
                obtain ⟨r1, h_r1, h⟩ := sg_bind h
                refine sg_callVi (pn := 110) (rest := []) 24 dX11_cart_107 rfl kb_X11_206 kv_X9_mayorOf (by exact rfl) rfl (Nat.le_of_ble_eq_true rfl) (gC_Survey_mayorOf_ok h_r1) rfl rfl (Nat.le_of_ble_eq_true rfl) ?_
                obtain rfl := Option.some.inj h
                exact sg_iret dX11_cart_110 rfl ⟨rfl, rfl⟩
              · have h := sg_ifn hk5 h
                refine sg_tabOut (tgt := 111) dX11_cart_15 (by have q0 := lv_neT hk0 (show (0 : Int32).toInt = 0 from rfl); have q1 := lv_neT hk1 (show (1 : Int32).toInt = 1 from rfl); have q2 := lv_neT hk2 (show (2 : Int32).toInt = 2 from rfl); have q3 := lv_neT hk3 (show (3 : Int32).toInt = 3 from rfl); have q4 := lv_neT hk4 (show (4 : Int32).toInt = 4 from rfl); have q5 := lv_neT hk5 (show (5 : Int32).toInt = 5 from rfl); omega) (by decide) ?_
                refine sg_ldc (pn := 113) dX11_cart_111 rfl kc_X11_99 ?_
                obtain rfl := Option.some.inj h
                exact sg_iret dX11_cart_113 rfl ⟨rfl, rfl⟩
  · have h := sg_ifp hc h
    refine sg_ldc (pn := 13) dX11_cart_11 rfl kc_X11_171 ?_
    obtain rfl := Option.some.inj h
    exact sg_iret dX11_cart_13 rfl ⟨rfl, rfl⟩
set_option maxRecDepth 4000 in
theorem gC_sink_ok {l : Launch} {D : va_G} {cI cZ : ClassId} {ad : Nat → Nat} {n : Nat} {a1 : Int32} {a2 : Int32} {z : sg_M} {r : Int32} (h : gC_sink n a1 a2 z = some r) : sg_Met (eC l D cI cZ ad) yX11_sink cX11_sink 3 (some .int) 3 [.ref (ad 0), .int a1, .int a2] z (sg_is (some (.int r)) z) := by
  refine sg_enter (lv0 := [(0, .ref (ad 0)), (1, .int a1), (2, .int a2)]) pn_X11 (Nat.le_of_ble_eq_true rfl) rfl ?_
  unfold gC_sink at h
  refine sg_aload_n (pn := 1) (i := 0) dX11_sink_0 rfl rfl 0 rfl ?_
  refine gfC_0_1 (pn := 4) dX11_sink_1 rfl lf_X11_19 ?_
  refine sg_iload_n (pn := 5) (i := 1) dX11_sink_4 rfl rfl 1 rfl ?_
  refine sg_callVi (pn := 8) (rest := []) 9 dX11_sink_5 rfl kb_X11_188 kv_X6_hasCart (by exact rfl) rfl (Nat.le_of_ble_eq_true rfl) (gC_Road_hasCart_ok rfl) rfl rfl (Nat.le_of_ble_eq_true rfl) ?_
  refine sg_if_eq (pn := 11) (tgt := 22) dX11_sink_8 rfl (by decide) (fun hc => ?_) (fun hc => ?_)
  · have h := sg_ifp hc h
    refine sg_ldc (pn := 24) dX11_sink_22 rfl kc_X11_171 ?_
    obtain rfl := Option.some.inj h
    exact sg_iret dX11_sink_24 rfl ⟨rfl, rfl⟩
  · have h := sg_ifn hc h
    refine sg_aload_n (pn := 12) (i := 0) dX11_sink_11 rfl rfl 0 rfl ?_
    refine gfC_0_1 (pn := 15) dX11_sink_12 rfl lf_X11_19 ?_
    refine sg_iload_n (pn := 16) (i := 2) dX11_sink_15 rfl rfl 2 rfl ?_
    refine sg_callVi (pn := 19) (rest := []) 9 dX11_sink_16 rfl kb_X11_167 kv_X6_hasCell (by exact rfl) rfl (Nat.le_of_ble_eq_true rfl) (gC_Road_hasCell_ok rfl) rfl rfl (Nat.le_of_ble_eq_true rfl) ?_
    refine sg_if_ne (pn := 22) (tgt := 25) dX11_sink_19 rfl (by decide) (fun hc => ?_) (fun hc => ?_)
    · have h := sg_ifn hc h
      refine sg_aload_n (pn := 26) (i := 0) dX11_sink_25 rfl rfl 0 rfl ?_
      refine gfC_0_3 (pn := 29) dX11_sink_26 rfl lf_X11_35 ?_
      refine sg_iload_n (pn := 30) (i := 1) dX11_sink_29 rfl rfl 1 rfl ?_
      refine sg_iload_n (pn := 31) (i := 2) dX11_sink_30 rfl rfl 2 rfl ?_
      refine sg_aload_n (pn := 32) (i := 0) dX11_sink_31 rfl rfl 0 rfl ?_
      refine gfC_0_3 (pn := 35) dX11_sink_32 rfl lf_X11_35 ?_
      refine sg_iconst (pn := 36) dX11_sink_35 rfl ic_0 ?_
      obtain ⟨r1, h_r1, h⟩ := sg_bind h
      refine sg_callVi (pn := 39) (rest := [.int a2, .int a1, .ref (ad 23)]) 23 dX11_sink_36 rfl kb_X11_136 kv_X2_wetBehind (by exact rfl) rfl (Nat.le_of_ble_eq_true rfl) (gC_Kingdom_wetBehind_ok h_r1) rfl rfl (Nat.le_of_ble_eq_true rfl) ?_
      refine sg_aload_n (pn := 40) (i := 0) dX11_sink_39 rfl rfl 0 rfl ?_
      refine gfC_0_2 (pn := 43) dX11_sink_40 rfl lf_X11_26 ?_
      refine gfC_15_6 (pn := 46) dX11_sink_43 rfl lf_X11_194 ?_
      refine sg_iload_n (pn := 47) (i := 1) dX11_sink_46 rfl rfl 1 rfl ?_
      obtain ⟨hg, h⟩ := sg_guard h
      refine alC_20 (pn := 48) dX11_sink_47 rfl (sg_in_vp hg) ?_
      obtain ⟨r2, h_r2, h⟩ := sg_bind h
      refine sg_callVi (pn := 51) (rest := []) 23 dX11_sink_48 rfl kb_X11_209 kv_X2_sinkOf (by exact rfl) rfl (Nat.le_of_ble_eq_true rfl) (gC_Kingdom_sinkOf_ok h_r2) rfl rfl (Nat.le_of_ble_eq_true rfl) ?_
      obtain rfl := Option.some.inj h
      exact sg_iret dX11_sink_51 rfl ⟨rfl, rfl⟩
    · have h := sg_ifp hc h
      refine sg_ldc (pn := 24) dX11_sink_22 rfl kc_X11_171 ?_
      obtain rfl := Option.some.inj h
      exact sg_iret dX11_sink_24 rfl ⟨rfl, rfl⟩
set_option maxRecDepth 4000 in
theorem gC_State_copyTo_ok {l : Launch} {D : va_G} {cI cZ : ClassId} {ad : Nat → Nat} {a2 : Int32} {z : sg_M} {r : sg_M} (h : gC_State_copyTo a2 z = some r) : sg_Met (eC l D cI cZ ad) yX8_copyTo cX8_copyTo 4 none 1 [.ref (ad 15), .ref (ad 41), .int a2] z (sg_is none r) := by
  refine sg_enter (lv0 := [(0, .ref (ad 15)), (1, .ref (ad 41)), (2, .int a2)]) pn_X8 (Nat.le_of_ble_eq_true rfl) rfl ?_
  unfold gC_State_copyTo at h
  refine sg_iload_n (pn := 1) (i := 2) dX8_copyTo_0 rfl rfl 2 rfl ?_
  refine sg_if_lt (pn := 4) (tgt := 13) dX8_copyTo_1 rfl (by decide) (fun hc => ?_) (fun hc => ?_)
  · have h := sg_ifp hc h
    obtain rfl := Option.some.inj h
    exact sg_vret dX8_copyTo_13 rfl ⟨rfl, rfl⟩
  · have h := sg_ifn hc h
    refine sg_iload_n (pn := 5) (i := 2) dX8_copyTo_4 rfl rfl 2 rfl ?_
    refine sg_aload_n (pn := 6) (i := 1) dX8_copyTo_5 rfl rfl 1 rfl ?_
    refine anC_41 (pn := 7) dX8_copyTo_6 rfl ?_
    refine sg_bipush (pn := 9) dX8_copyTo_7 rfl ib_106 ?_
    refine sg_isub (pn := 10) dX8_copyTo_9 rfl ?_
    refine sg_icmp_le (pn := 13) (tgt := 14) dX8_copyTo_10 rfl (by decide) (fun hc => ?_) (fun hc => ?_)
    · have h := sg_ifp hc h
      refine sg_iload_n (pn := 15) (i := 2) dX8_copyTo_14 rfl rfl 2 rfl ?_
      refine sg_iconst (pn := 16) dX8_copyTo_15 rfl ic_2 ?_
      refine sg_iadd (pn := 17) dX8_copyTo_16 rfl ?_
      refine sg_bipush (pn := 19) dX8_copyTo_17 rfl ib_80 ?_
      refine sg_iadd (pn := 20) dX8_copyTo_19 rfl ?_
      obtain ⟨v3_1, e_v3_1, h⟩ := sg_letE h
      refine sg_topi e_v3_1 ?_
      refine sg_istore_n (pn := 21) (i := 3) (lv' := [(0, .ref (ad 15)), (1, .ref (ad 41)), (2, .int a2), (3, .int v3_1)]) dX8_copyTo_20 rfl rfl (Nat.le_of_ble_eq_true rfl) [1, 2, 3, 0] rfl ?_
      refine sg_aload_n (pn := 22) (i := 1) dX8_copyTo_21 rfl rfl 1 rfl ?_
      refine sg_iload_n (pn := 23) (i := 2) dX8_copyTo_22 rfl rfl 2 rfl ?_
      refine sg_aload_n (pn := 24) (i := 0) dX8_copyTo_23 rfl rfl 0 rfl ?_
      refine gfC_15_0 (pn := 27) dX8_copyTo_24 rfl lf_X8_33 ?_
      obtain ⟨hg, h⟩ := sg_guard h
      refine asC_41 (pn := 28) dX8_copyTo_27 rfl (sg_in_vp hg) ?_
      obtain ⟨z2, e_z2, h⟩ := sg_letE h
      refine sg_zE e_z2 ?_
      refine sg_aload_n (pn := 29) (i := 1) dX8_copyTo_28 rfl rfl 1 rfl ?_
      refine sg_iload_n (pn := 30) (i := 2) dX8_copyTo_29 rfl rfl 2 rfl ?_
      refine sg_iconst (pn := 31) dX8_copyTo_30 rfl ic_1 ?_
      refine sg_iadd (pn := 32) dX8_copyTo_31 rfl ?_
      refine sg_aload_n (pn := 33) (i := 0) dX8_copyTo_32 rfl rfl 0 rfl ?_
      refine gfC_15_1 (pn := 36) dX8_copyTo_33 rfl lf_X8_37 ?_
      obtain ⟨hg, h⟩ := sg_guard h
      refine asC_41 (pn := 37) dX8_copyTo_36 rfl (sg_in_vp hg) ?_
      obtain ⟨z3, e_z3, h⟩ := sg_letE h
      refine sg_zE e_z3 ?_
      refine sg_aload_n (pn := 38) (i := 0) dX8_copyTo_37 rfl rfl 0 rfl ?_
      refine gfC_15_2 (pn := 41) dX8_copyTo_38 rfl lf_X8_9 ?_
      refine sg_iconst (pn := 42) dX8_copyTo_41 rfl ic_0 ?_
      refine sg_aload_n (pn := 43) (i := 1) dX8_copyTo_42 rfl rfl 1 rfl ?_
      refine sg_iload_n (pn := 44) (i := 2) dX8_copyTo_43 rfl rfl 2 rfl ?_
      refine sg_iconst (pn := 45) dX8_copyTo_44 rfl ic_2 ?_
      refine sg_iadd (pn := 46) dX8_copyTo_45 rfl ?_
      refine sg_bipush (pn := 48) dX8_copyTo_46 rfl ib_20 ?_
      obtain ⟨hg, h⟩ := sg_guard h
      refine cpC_16_41 (pn := 51) dX8_copyTo_48 rfl lm_X8_51 (sg_cp_of hg) (Nat.le_of_ble_eq_true rfl) (Nat.le_of_ble_eq_true rfl) ?_
      obtain ⟨z4, e_z4, h⟩ := sg_letE h
      refine sg_zE e_z4 ?_
      refine sg_aload_n (pn := 52) (i := 0) dX8_copyTo_51 rfl rfl 0 rfl ?_
      refine gfC_15_3 (pn := 55) dX8_copyTo_52 rfl lf_X8_15 ?_
      refine sg_iconst (pn := 56) dX8_copyTo_55 rfl ic_0 ?_
      refine sg_aload_n (pn := 57) (i := 1) dX8_copyTo_56 rfl rfl 1 rfl ?_
      refine sg_iload_n (pn := 58) (i := 2) dX8_copyTo_57 rfl rfl 2 rfl ?_
      refine sg_iconst (pn := 59) dX8_copyTo_58 rfl ic_2 ?_
      refine sg_iadd (pn := 60) dX8_copyTo_59 rfl ?_
      refine sg_bipush (pn := 62) dX8_copyTo_60 rfl ib_20 ?_
      refine sg_iadd (pn := 63) dX8_copyTo_62 rfl ?_
      refine sg_bipush (pn := 65) dX8_copyTo_63 rfl ib_20 ?_
      obtain ⟨hg, h⟩ := sg_guard h
      refine cpC_17_41 (pn := 68) dX8_copyTo_65 rfl lm_X8_51 (sg_cp_of hg) (Nat.le_of_ble_eq_true rfl) (Nat.le_of_ble_eq_true rfl) ?_
      obtain ⟨z5, e_z5, h⟩ := sg_letE h
      refine sg_zE e_z5 ?_
      refine sg_aload_n (pn := 69) (i := 0) dX8_copyTo_68 rfl rfl 0 rfl ?_
      refine gfC_15_4 (pn := 72) dX8_copyTo_69 rfl lf_X8_18 ?_
      refine sg_iconst (pn := 73) dX8_copyTo_72 rfl ic_0 ?_
      refine sg_aload_n (pn := 74) (i := 1) dX8_copyTo_73 rfl rfl 1 rfl ?_
      refine sg_iload_n (pn := 75) (i := 2) dX8_copyTo_74 rfl rfl 2 rfl ?_
      refine sg_iconst (pn := 76) dX8_copyTo_75 rfl ic_2 ?_
      refine sg_iadd (pn := 77) dX8_copyTo_76 rfl ?_
      refine sg_bipush (pn := 79) dX8_copyTo_77 rfl ib_40 ?_
      refine sg_iadd (pn := 80) dX8_copyTo_79 rfl ?_
      refine sg_bipush (pn := 82) dX8_copyTo_80 rfl ib_20 ?_
      obtain ⟨hg, h⟩ := sg_guard h
      refine cpC_18_41 (pn := 85) dX8_copyTo_82 rfl lm_X8_51 (sg_cp_of hg) (Nat.le_of_ble_eq_true rfl) (Nat.le_of_ble_eq_true rfl) ?_
      obtain ⟨z6, e_z6, h⟩ := sg_letE h
      refine sg_zE e_z6 ?_
      refine sg_aload_n (pn := 86) (i := 0) dX8_copyTo_85 rfl rfl 0 rfl ?_
      refine gfC_15_5 (pn := 89) dX8_copyTo_86 rfl lf_X8_21 ?_
      refine sg_iconst (pn := 90) dX8_copyTo_89 rfl ic_0 ?_
      refine sg_aload_n (pn := 91) (i := 1) dX8_copyTo_90 rfl rfl 1 rfl ?_
      refine sg_iload_n (pn := 92) (i := 2) dX8_copyTo_91 rfl rfl 2 rfl ?_
      refine sg_iconst (pn := 93) dX8_copyTo_92 rfl ic_2 ?_
      refine sg_iadd (pn := 94) dX8_copyTo_93 rfl ?_
      refine sg_bipush (pn := 96) dX8_copyTo_94 rfl ib_60 ?_
      refine sg_iadd (pn := 97) dX8_copyTo_96 rfl ?_
      refine sg_bipush (pn := 99) dX8_copyTo_97 rfl ib_20 ?_
      obtain ⟨hg, h⟩ := sg_guard h
      refine cpC_19_41 (pn := 102) dX8_copyTo_99 rfl lm_X8_51 (sg_cp_of hg) (Nat.le_of_ble_eq_true rfl) (Nat.le_of_ble_eq_true rfl) ?_
      obtain ⟨z7, e_z7, h⟩ := sg_letE h
      refine sg_zE e_z7 ?_
      refine sg_aload_n (pn := 103) (i := 0) dX8_copyTo_102 rfl rfl 0 rfl ?_
      refine gfC_15_6 (pn := 106) dX8_copyTo_103 rfl lf_X8_24 ?_
      refine sg_iconst (pn := 107) dX8_copyTo_106 rfl ic_0 ?_
      refine sg_aload_n (pn := 108) (i := 1) dX8_copyTo_107 rfl rfl 1 rfl ?_
      refine sg_iload_n (pn := 109) (i := 3) dX8_copyTo_108 rfl rfl 3 rfl ?_
      refine sg_bipush (pn := 111) dX8_copyTo_109 rfl ib_8 ?_
      obtain ⟨hg, h⟩ := sg_guard h
      refine cpC_20_41 (pn := 114) dX8_copyTo_111 rfl lm_X8_51 (sg_cp_of hg) (Nat.le_of_ble_eq_true rfl) (Nat.le_of_ble_eq_true rfl) ?_
      obtain ⟨z8, e_z8, h⟩ := sg_letE h
      refine sg_zE e_z8 ?_
      refine sg_aload_n (pn := 115) (i := 0) dX8_copyTo_114 rfl rfl 0 rfl ?_
      refine gfC_15_7 (pn := 118) dX8_copyTo_115 rfl lf_X8_27 ?_
      refine sg_iconst (pn := 119) dX8_copyTo_118 rfl ic_0 ?_
      refine sg_aload_n (pn := 120) (i := 1) dX8_copyTo_119 rfl rfl 1 rfl ?_
      refine sg_iload_n (pn := 121) (i := 3) dX8_copyTo_120 rfl rfl 3 rfl ?_
      refine sg_bipush (pn := 123) dX8_copyTo_121 rfl ib_8 ?_
      refine sg_iadd (pn := 124) dX8_copyTo_123 rfl ?_
      refine sg_bipush (pn := 126) dX8_copyTo_124 rfl ib_8 ?_
      obtain ⟨hg, h⟩ := sg_guard h
      refine cpC_21_41 (pn := 129) dX8_copyTo_126 rfl lm_X8_51 (sg_cp_of hg) (Nat.le_of_ble_eq_true rfl) (Nat.le_of_ble_eq_true rfl) ?_
      obtain ⟨z9, e_z9, h⟩ := sg_letE h
      refine sg_zE e_z9 ?_
      refine sg_aload_n (pn := 130) (i := 0) dX8_copyTo_129 rfl rfl 0 rfl ?_
      refine gfC_15_8 (pn := 133) dX8_copyTo_130 rfl lf_X8_30 ?_
      refine sg_iconst (pn := 134) dX8_copyTo_133 rfl ic_0 ?_
      refine sg_aload_n (pn := 135) (i := 1) dX8_copyTo_134 rfl rfl 1 rfl ?_
      refine sg_iload_n (pn := 136) (i := 3) dX8_copyTo_135 rfl rfl 3 rfl ?_
      refine sg_bipush (pn := 138) dX8_copyTo_136 rfl ib_16 ?_
      refine sg_iadd (pn := 139) dX8_copyTo_138 rfl ?_
      refine sg_bipush (pn := 141) dX8_copyTo_139 rfl ib_8 ?_
      obtain ⟨hg, h⟩ := sg_guard h
      refine cpC_22_41 (pn := 144) dX8_copyTo_141 rfl lm_X8_51 (sg_cp_of hg) (Nat.le_of_ble_eq_true rfl) (Nat.le_of_ble_eq_true rfl) ?_
      obtain ⟨z10, e_z10, h⟩ := sg_letE h
      refine sg_zE e_z10 ?_
      obtain rfl := Option.some.inj h
      exact sg_vret dX8_copyTo_144 rfl ⟨rfl, rfl⟩
    · have h := sg_ifn hc h
      obtain rfl := Option.some.inj h
      exact sg_vret dX8_copyTo_13 rfl ⟨rfl, rfl⟩
set_option maxRecDepth 4000 in
theorem gC_Memory_remember_ok {l : Launch} {D : va_G} {cI cZ : ClassId} {ad : Nat → Nat} {z : sg_M} {r : sg_M} (h : gC_Memory_remember z = some r) : sg_Met (eC l D cI cZ ad) yX3_remember cX3_remember 2 none 2 [.ref (ad 40), .ref (ad 15)] z (sg_is none r) := by
  refine sg_enter (lv0 := [(0, .ref (ad 40)), (1, .ref (ad 15))]) pn_X3 (Nat.le_of_ble_eq_true rfl) rfl ?_
  unfold gC_Memory_remember at h
  refine sg_aload_n (pn := 1) (i := 1) dX3_remember_0 rfl rfl 1 rfl ?_
  refine sg_aload_n (pn := 2) (i := 0) dX3_remember_1 rfl rfl 0 rfl ?_
  refine gfC_40_2 (pn := 5) dX3_remember_2 rfl lf_X3_9 ?_
  refine sg_aload_n (pn := 6) (i := 0) dX3_remember_5 rfl rfl 0 rfl ?_
  refine gfC_40_1 (pn := 9) dX3_remember_6 rfl lf_X3_32 ?_
  refine sg_bipush (pn := 11) dX3_remember_9 rfl ib_106 ?_
  refine sg_imul (pn := 12) dX3_remember_11 rfl ?_
  obtain ⟨r1, h_r1, h⟩ := sg_bind h
  refine sg_callVv (pn := 15) (rest := []) 15 dX3_remember_12 rfl kb_X3_35 kv_X8_copyTo (by exact rfl) rfl (Nat.le_of_ble_eq_true rfl) (gC_State_copyTo_ok h_r1) rfl rfl (Nat.le_of_ble_eq_true rfl) ?_
  refine sg_aload_n (pn := 16) (i := 0) dX3_remember_15 rfl rfl 0 rfl ?_
  refine sg_aload_n (pn := 17) (i := 0) dX3_remember_16 rfl rfl 0 rfl ?_
  refine gfC_40_1 (pn := 20) dX3_remember_17 rfl lf_X3_32 ?_
  refine sg_iconst (pn := 21) dX3_remember_20 rfl ic_1 ?_
  refine sg_iadd (pn := 22) dX3_remember_21 rfl ?_
  refine sg_bipush (pn := 24) dX3_remember_22 rfl ib_16 ?_
  refine sg_irem (pn := 25) dX3_remember_24 rfl (by decide +kernel) ?_
  refine pfC_40_1 (pn := 28) dX3_remember_25 rfl lf_X3_32 ?_
  obtain ⟨z2, e_z2, h⟩ := sg_letE h
  refine sg_zE e_z2 ?_
  refine sg_aload_n (pn := 29) (i := 0) dX3_remember_28 rfl rfl 0 rfl ?_
  refine sg_bipush (pn := 31) dX3_remember_29 rfl ib_16 ?_
  refine sg_aload_n (pn := 32) (i := 0) dX3_remember_31 rfl rfl 0 rfl ?_
  refine gfC_40_0 (pn := 35) dX3_remember_32 rfl lf_X3_22 ?_
  refine sg_iconst (pn := 36) dX3_remember_35 rfl ic_1 ?_
  refine sg_iadd (pn := 37) dX3_remember_36 rfl ?_
  refine sg_mmin (pn := 40) dX3_remember_37 rfl lm_X3_40 sg_mw_min (Nat.le_of_ble_eq_true rfl) (Nat.le_of_ble_eq_true rfl) ?_
  refine pfC_40_0 (pn := 43) dX3_remember_40 rfl lf_X3_22 ?_
  obtain ⟨z3, e_z3, h⟩ := sg_letE h
  refine sg_zE e_z3 ?_
  obtain rfl := Option.some.inj h
  exact sg_vret dX3_remember_43 rfl ⟨rfl, rfl⟩
set_option maxRecDepth 4000 in
theorem gC_Kingdom_settle_ok {l : Launch} {D : va_G} {cI cZ : ClassId} {ad : Nat → Nat} {a1 : Int32} {a2 : Int32} {z : sg_M} {r : sg_M} (h : gC_Kingdom_settle a1 a2 z = some r) : sg_Met (eC l D cI cZ ad) yX2_settle cX2_settle 3 none 2 [.ref (ad 23), .int a1, .int a2] z (sg_is none r) := by
  refine sg_enter (lv0 := [(0, .ref (ad 23)), (1, .int a1), (2, .int a2)]) pn_X2 (Nat.le_of_ble_eq_true rfl) rfl ?_
  unfold gC_Kingdom_settle at h
  refine sg_aload_n (pn := 1) (i := 0) dX2_settle_0 rfl rfl 0 rfl ?_
  refine gfC_23_1 (pn := 4) dX2_settle_1 rfl lf_X2_15 ?_
  refine gfC_15_7 (pn := 7) dX2_settle_4 rfl lf_X2_78 ?_
  refine sg_iload_n (pn := 8) (i := 1) dX2_settle_7 rfl rfl 1 rfl ?_
  refine sg_iload_n (pn := 9) (i := 2) dX2_settle_8 rfl rfl 2 rfl ?_
  obtain ⟨hg, h⟩ := sg_guard h
  refine asC_21 (pn := 10) dX2_settle_9 rfl (sg_in_vp hg) ?_
  obtain ⟨z1, e_z1, h⟩ := sg_letE h
  refine sg_zE e_z1 ?_
  refine sg_aload_n (pn := 11) (i := 0) dX2_settle_10 rfl rfl 0 rfl ?_
  refine gfC_23_1 (pn := 14) dX2_settle_11 rfl lf_X2_15 ?_
  refine gfC_15_8 (pn := 17) dX2_settle_14 rfl lf_X2_44 ?_
  refine sg_iload_n (pn := 18) (i := 1) dX2_settle_17 rfl rfl 1 rfl ?_
  refine sg_dup2 (pn := 19) dX2_settle_18 rfl rfl rfl ?_
  obtain ⟨hg, h⟩ := sg_guard h
  refine alC_22 (pn := 20) dX2_settle_19 rfl (sg_in_vp hg) ?_
  refine sg_iconst (pn := 21) dX2_settle_20 rfl ic_1 ?_
  refine sg_iadd (pn := 22) dX2_settle_21 rfl ?_
  obtain ⟨hg, h⟩ := sg_guard h
  refine asC_22 (pn := 23) dX2_settle_22 rfl (sg_in_vp hg) ?_
  obtain ⟨z2, e_z2, h⟩ := sg_letE h
  refine sg_zE e_z2 ?_
  refine sg_aload_n (pn := 24) (i := 0) dX2_settle_23 rfl rfl 0 rfl ?_
  refine gfC_23_1 (pn := 27) dX2_settle_24 rfl lf_X2_15 ?_
  refine sg_iload_n (pn := 28) (i := 2) dX2_settle_27 rfl rfl 2 rfl ?_
  obtain ⟨r3, h_r3, h⟩ := sg_bind h
  refine sg_callVi (pn := 31) (rest := []) 15 dX2_settle_28 rfl kb_X2_81 kv_X8_hasTown (by exact rfl) rfl (Nat.le_of_ble_eq_true rfl) (gC_State_hasTown_ok h_r3) rfl rfl (Nat.le_of_ble_eq_true rfl) ?_
  obtain ⟨t6, e_t6, h2⟩ := sg_bind h
  have hm_t6 : sg_G (eC l D cI cZ ad) yX2_settle cX2_settle 3 none 2 62 [(0, .ref (ad 23)), (1, .int a1), (2, .int a2)] [] t6 (sg_is none r) := by
    have h := h2
    refine sg_aload_n (pn := 63) (i := 0) dX2_settle_62 rfl rfl 0 rfl ?_
    refine gfC_23_1 (pn := 66) dX2_settle_63 rfl lf_X2_15 ?_
    refine gfC_15_4 (pn := 69) dX2_settle_66 rfl lf_X2_94 ?_
    refine sg_iload_n (pn := 70) (i := 2) dX2_settle_69 rfl rfl 2 rfl ?_
    obtain ⟨hg, h⟩ := sg_guard h
    refine alC_18 (pn := 71) dX2_settle_70 rfl (sg_in_vp hg) ?_
    refine sg_iconst (pn := 72) dX2_settle_71 rfl ic_m1 ?_
    obtain ⟨t8, e_t8, h2⟩ := sg_bind h
    have hm_t8 : sg_G (eC l D cI cZ ad) yX2_settle cX2_settle 3 none 2 85 [(0, .ref (ad 23)), (2, .int a2)] [] t8 (sg_is none r) := by
      have h := h2
      refine sg_aload_n (pn := 86) (i := 0) dX2_settle_85 rfl rfl 0 rfl ?_
      refine gfC_23_1 (pn := 89) dX2_settle_86 rfl lf_X2_15 ?_
      refine gfC_15_5 (pn := 92) dX2_settle_89 rfl lf_X2_91 ?_
      refine sg_iload_n (pn := 93) (i := 2) dX2_settle_92 rfl rfl 1 rfl ?_
      refine sg_sipush (pn := 96) dX2_settle_93 rfl is_9999 ?_
      refine sg_aload_n (pn := 97) (i := 0) dX2_settle_96 rfl rfl 0 rfl ?_
      refine gfC_23_1 (pn := 100) dX2_settle_97 rfl lf_X2_15 ?_
      refine gfC_15_5 (pn := 103) dX2_settle_100 rfl lf_X2_91 ?_
      refine sg_iload_n (pn := 104) (i := 2) dX2_settle_103 rfl rfl 1 rfl ?_
      obtain ⟨hg, h⟩ := sg_guard h
      refine alC_19 (pn := 105) dX2_settle_104 rfl (sg_in_vp hg) ?_
      refine sg_iconst (pn := 106) dX2_settle_105 rfl ic_1 ?_
      refine sg_iadd (pn := 107) dX2_settle_106 rfl ?_
      refine sg_mmin (pn := 110) dX2_settle_107 rfl lm_X2_97 sg_mw_min (Nat.le_of_ble_eq_true rfl) (Nat.le_of_ble_eq_true rfl) ?_
      obtain ⟨hg, h⟩ := sg_guard h
      refine asC_19 (pn := 111) dX2_settle_110 rfl (sg_in_vp hg) ?_
      obtain ⟨z9, e_z9, h⟩ := sg_letE h
      refine sg_zE e_z9 ?_
      obtain rfl := Option.some.inj h
      exact sg_vret dX2_settle_111 rfl ⟨rfl, rfl⟩
    have h := e_t8
    refine sg_icmp_ne (pn := 75) (tgt := 85) dX2_settle_72 rfl (by decide) (fun hc => ?_) (fun hc => ?_)
    · have h := sg_ifn hc h
      obtain rfl := Option.some.inj h
      refine sg_sub [0, 2] rfl ?_
      exact hm_t8
    · have h := sg_ifp hc h
      refine sg_aload_n (pn := 76) (i := 0) dX2_settle_75 rfl rfl 0 rfl ?_
      refine gfC_23_1 (pn := 79) dX2_settle_76 rfl lf_X2_15 ?_
      refine gfC_15_4 (pn := 82) dX2_settle_79 rfl lf_X2_94 ?_
      refine sg_iload_n (pn := 83) (i := 2) dX2_settle_82 rfl rfl 2 rfl ?_
      refine sg_iload_n (pn := 84) (i := 1) dX2_settle_83 rfl rfl 1 rfl ?_
      obtain ⟨hg, h⟩ := sg_guard h
      refine asC_18 (pn := 85) dX2_settle_84 rfl (sg_in_vp hg) ?_
      obtain ⟨z7, e_z7, h⟩ := sg_letE h
      refine sg_zE e_z7 ?_
      obtain rfl := Option.some.inj h
      refine sg_sub [0, 2] rfl ?_
      exact hm_t8
  have h := e_t6
  refine sg_if_ne (pn := 34) (tgt := 62) dX2_settle_31 rfl (by decide) (fun hc => ?_) (fun hc => ?_)
  · have h := sg_ifn hc h
    obtain rfl := Option.some.inj h
    exact hm_t6
  · have h := sg_ifp hc h
    refine sg_aload_n (pn := 35) (i := 0) dX2_settle_34 rfl rfl 0 rfl ?_
    refine gfC_23_1 (pn := 38) dX2_settle_35 rfl lf_X2_15 ?_
    refine gfC_15_3 (pn := 41) dX2_settle_38 rfl lf_X2_85 ?_
    refine sg_iload_n (pn := 42) (i := 2) dX2_settle_41 rfl rfl 2 rfl ?_
    refine sg_aload_n (pn := 43) (i := 0) dX2_settle_42 rfl rfl 0 rfl ?_
    refine gfC_23_0 (pn := 46) dX2_settle_43 rfl lf_X2_9 ?_
    refine gfC_9_7 (pn := 49) dX2_settle_46 rfl lf_X2_88 ?_
    refine sg_iload_n (pn := 50) (i := 1) dX2_settle_49 rfl rfl 1 rfl ?_
    obtain ⟨hg, h⟩ := sg_guard h
    refine alC_14 (pn := 51) dX2_settle_50 rfl (sg_in_vp hg) ?_
    obtain ⟨hg, h⟩ := sg_guard h
    refine asC_17 (pn := 52) dX2_settle_51 rfl (sg_in_vp hg) ?_
    obtain ⟨z4, e_z4, h⟩ := sg_letE h
    refine sg_zE e_z4 ?_
    refine sg_aload_n (pn := 53) (i := 0) dX2_settle_52 rfl rfl 0 rfl ?_
    refine gfC_23_1 (pn := 56) dX2_settle_53 rfl lf_X2_15 ?_
    refine gfC_15_5 (pn := 59) dX2_settle_56 rfl lf_X2_91 ?_
    refine sg_iload_n (pn := 60) (i := 2) dX2_settle_59 rfl rfl 2 rfl ?_
    refine sg_iconst (pn := 61) dX2_settle_60 rfl ic_0 ?_
    obtain ⟨hg, h⟩ := sg_guard h
    refine asC_19 (pn := 62) dX2_settle_61 rfl (sg_in_vp hg) ?_
    obtain ⟨z5, e_z5, h⟩ := sg_letE h
    refine sg_zE e_z5 ?_
    obtain rfl := Option.some.inj h
    exact hm_t6
set_option maxRecDepth 4000 in
theorem gC_Kingdom_driveOut_ok {l : Launch} {D : va_G} {cI cZ : ClassId} {ad : Nat → Nat} {n : Nat} {a1 : Int32} {z : sg_M} {r : Int32 × sg_M} (h : gC_Kingdom_driveOut n a1 z = some r) : sg_Met (eC l D cI cZ ad) yX2_driveOut cX2_driveOut 3 (some .int) 5 [.ref (ad 23), .int a1] z (sg_is (some (.int r.1)) r.2) := by
  refine sg_enter (lv0 := [(0, .ref (ad 23)), (1, .int a1)]) pn_X2 (Nat.le_of_ble_eq_true rfl) rfl ?_
  unfold gC_Kingdom_driveOut at h
  refine sg_aload_n (pn := 1) (i := 0) dX2_driveOut_0 rfl rfl 0 rfl ?_
  refine sg_iload_n (pn := 2) (i := 1) dX2_driveOut_1 rfl rfl 1 rfl ?_
  refine sg_iconst (pn := 3) dX2_driveOut_2 rfl ic_0 ?_
  obtain ⟨r1, h_r1, h⟩ := sg_bind h
  refine sg_callVi (pn := 6) (rest := []) 23 dX2_driveOut_3 rfl kb_X2_71 kv_X2_stopBehind (by exact rfl) rfl (Nat.le_of_ble_eq_true rfl) (gC_Kingdom_stopBehind_ok h_r1) rfl rfl (Nat.le_of_ble_eq_true rfl) ?_
  refine sg_istore_n (pn := 7) (i := 2) (lv' := [(0, .ref (ad 23)), (1, .int a1), (2, .int r1)]) dX2_driveOut_6 rfl rfl (Nat.le_of_ble_eq_true rfl) [1, 2, 0] rfl ?_
  refine sg_iload_n (pn := 8) (i := 2) dX2_driveOut_7 rfl rfl 2 rfl ?_
  refine sg_iconst (pn := 9) dX2_driveOut_8 rfl ic_m1 ?_
  obtain ⟨t3, e_t3, h2⟩ := sg_bind h
  have hm_t3 : sg_G (eC l D cI cZ ad) yX2_driveOut cX2_driveOut 3 (some .int) 5 18 [(2, .int r1)] [] t3 (sg_is (some (.int r.1)) r.2) := by
    have h := h2
    refine sg_iload_n (pn := 19) (i := 2) dX2_driveOut_18 rfl rfl 0 rfl ?_
    obtain rfl := Option.some.inj h
    exact sg_iret dX2_driveOut_19 rfl ⟨rfl, rfl⟩
  have h := e_t3
  refine sg_icmp_eq (pn := 12) (tgt := 18) dX2_driveOut_9 rfl (by decide) (fun hc => ?_) (fun hc => ?_)
  · have h := sg_ifp hc h
    obtain rfl := Option.some.inj h
    refine sg_sub [2] rfl ?_
    exact hm_t3
  · have h := sg_ifn hc h
    refine sg_aload_n (pn := 13) (i := 0) dX2_driveOut_12 rfl rfl 0 rfl ?_
    refine sg_iload_n (pn := 14) (i := 1) dX2_driveOut_13 rfl rfl 1 rfl ?_
    refine sg_iload_n (pn := 15) (i := 2) dX2_driveOut_14 rfl rfl 2 rfl ?_
    obtain ⟨r2, h_r2, h⟩ := sg_bind h
    refine sg_callVv (pn := 18) (rest := []) 23 dX2_driveOut_15 rfl kb_X2_74 kv_X2_settle (by exact rfl) rfl (Nat.le_of_ble_eq_true rfl) (gC_Kingdom_settle_ok h_r2) rfl rfl (Nat.le_of_ble_eq_true rfl) ?_
    obtain rfl := Option.some.inj h
    refine sg_sub [2] rfl ?_
    exact hm_t3
set_option maxRecDepth 4000 in
theorem gC_drive_ok {l : Launch} {D : va_G} {cI cZ : ClassId} {ad : Nat → Nat} {n : Nat} {a1 : Int32} {z : sg_M} {r : Int32 × sg_M} (h : gC_drive n a1 z = some r) : sg_Met (eC l D cI cZ ad) yX11_drive cX11_drive 2 (some .int) 6 [.ref (ad 0), .int a1] z (sg_is (some (.int r.1)) r.2) := by
  refine sg_enter (lv0 := [(0, .ref (ad 0)), (1, .int a1)]) pn_X11 (Nat.le_of_ble_eq_true rfl) rfl ?_
  unfold gC_drive at h
  refine sg_aload_n (pn := 1) (i := 0) dX11_drive_0 rfl rfl 0 rfl ?_
  refine gfC_0_1 (pn := 4) dX11_drive_1 rfl lf_X11_19 ?_
  refine sg_iload_n (pn := 5) (i := 1) dX11_drive_4 rfl rfl 1 rfl ?_
  refine sg_callVi (pn := 8) (rest := []) 9 dX11_drive_5 rfl kb_X11_188 kv_X6_hasCart (by exact rfl) rfl (Nat.le_of_ble_eq_true rfl) (gC_Road_hasCart_ok rfl) rfl rfl (Nat.le_of_ble_eq_true rfl) ?_
  refine sg_if_ne (pn := 11) (tgt := 14) dX11_drive_8 rfl (by decide) (fun hc => ?_) (fun hc => ?_)
  · have h := sg_ifn hc h
    refine sg_aload_n (pn := 15) (i := 0) dX11_drive_14 rfl rfl 0 rfl ?_
    refine gfC_0_2 (pn := 18) dX11_drive_15 rfl lf_X11_26 ?_
    refine sg_iload_n (pn := 19) (i := 1) dX11_drive_18 rfl rfl 1 rfl ?_
    obtain ⟨r1, h_r1, h⟩ := sg_bind h
    refine sg_callVi (pn := 22) (rest := []) 15 dX11_drive_19 rfl kb_X11_213 kv_X8_isStuck (by exact rfl) rfl (Nat.le_of_ble_eq_true rfl) (gC_State_isStuck_ok h_r1) rfl rfl (Nat.le_of_ble_eq_true rfl) ?_
    refine sg_if_eq (pn := 25) (tgt := 28) dX11_drive_22 rfl (by decide) (fun hc => ?_) (fun hc => ?_)
    · have h := sg_ifp hc h
      refine sg_aload_n (pn := 29) (i := 0) dX11_drive_28 rfl rfl 0 rfl ?_
      refine gfC_0_10 (pn := 32) dX11_drive_29 rfl lf_X11_88 ?_
      refine sg_aload_n (pn := 33) (i := 0) dX11_drive_32 rfl rfl 0 rfl ?_
      refine gfC_0_2 (pn := 36) dX11_drive_33 rfl lf_X11_26 ?_
      obtain ⟨r2, h_r2, h⟩ := sg_bind h
      refine sg_callVv (pn := 39) (rest := []) 40 dX11_drive_36 rfl kb_X11_217 kv_X3_remember (by exact rfl) rfl (Nat.le_of_ble_eq_true rfl) (gC_Memory_remember_ok h_r2) rfl rfl (Nat.le_of_ble_eq_true rfl) ?_
      refine sg_aload_n (pn := 40) (i := 0) dX11_drive_39 rfl rfl 0 rfl ?_
      refine gfC_0_3 (pn := 43) dX11_drive_40 rfl lf_X11_35 ?_
      refine sg_iload_n (pn := 44) (i := 1) dX11_drive_43 rfl rfl 1 rfl ?_
      obtain ⟨r3, h_r3, h⟩ := sg_bind h
      refine sg_callVi (pn := 47) (rest := []) 23 dX11_drive_44 rfl kb_X11_221 kv_X2_driveOut (by exact rfl) rfl (Nat.le_of_ble_eq_true rfl) (gC_Kingdom_driveOut_ok h_r3) rfl rfl (Nat.le_of_ble_eq_true rfl) ?_
      obtain rfl := Option.some.inj h
      exact sg_iret dX11_drive_47 rfl ⟨rfl, rfl⟩
    · have h := sg_ifn hc h
      refine sg_ldc (pn := 27) dX11_drive_25 rfl kc_X11_216 ?_
      obtain rfl := Option.some.inj h
      exact sg_iret dX11_drive_27 rfl ⟨rfl, rfl⟩
  · have h := sg_ifp hc h
    refine sg_ldc (pn := 13) dX11_drive_11 rfl kc_X11_171 ?_
    obtain rfl := Option.some.inj h
    exact sg_iret dX11_drive_13 rfl ⟨rfl, rfl⟩
set_option maxRecDepth 4000 in
theorem gC_Kingdom_pullOut_ok {l : Launch} {D : va_G} {cI cZ : ClassId} {ad : Nat → Nat} {a1 : Int32} {z : sg_M} {r : Int32 × sg_M} (h : gC_Kingdom_pullOut a1 z = some r) : sg_Met (eC l D cI cZ ad) yX2_pullOut cX2_pullOut 3 (some .int) 2 [.ref (ad 23), .int a1] z (sg_is (some (.int r.1)) r.2) := by
  refine sg_enter (lv0 := [(0, .ref (ad 23)), (1, .int a1)]) pn_X2 (Nat.le_of_ble_eq_true rfl) rfl ?_
  unfold gC_Kingdom_pullOut at h
  refine sg_aload_n (pn := 1) (i := 0) dX2_pullOut_0 rfl rfl 0 rfl ?_
  refine gfC_23_1 (pn := 4) dX2_pullOut_1 rfl lf_X2_15 ?_
  refine gfC_15_7 (pn := 7) dX2_pullOut_4 rfl lf_X2_78 ?_
  refine sg_iload_n (pn := 8) (i := 1) dX2_pullOut_7 rfl rfl 1 rfl ?_
  obtain ⟨hg, h⟩ := sg_guard h
  refine alC_21 (pn := 9) dX2_pullOut_8 rfl (sg_in_vp hg) ?_
  obtain ⟨v2_1, e_v2_1, h⟩ := sg_letE h
  refine sg_topi e_v2_1 ?_
  refine sg_istore_n (pn := 10) (i := 2) (lv' := [(0, .ref (ad 23)), (1, .int a1), (2, .int v2_1)]) dX2_pullOut_9 rfl rfl (Nat.le_of_ble_eq_true rfl) [1, 2, 0] rfl ?_
  refine sg_aload_n (pn := 11) (i := 0) dX2_pullOut_10 rfl rfl 0 rfl ?_
  refine gfC_23_1 (pn := 14) dX2_pullOut_11 rfl lf_X2_15 ?_
  refine gfC_15_7 (pn := 17) dX2_pullOut_14 rfl lf_X2_78 ?_
  refine sg_iload_n (pn := 18) (i := 1) dX2_pullOut_17 rfl rfl 1 rfl ?_
  refine sg_iconst (pn := 19) dX2_pullOut_18 rfl ic_m1 ?_
  obtain ⟨hg, h⟩ := sg_guard h
  refine asC_21 (pn := 20) dX2_pullOut_19 rfl (sg_in_vp hg) ?_
  obtain ⟨z2, e_z2, h⟩ := sg_letE h
  refine sg_zE e_z2 ?_
  refine sg_aload_n (pn := 21) (i := 0) dX2_pullOut_20 rfl rfl 0 rfl ?_
  refine gfC_23_0 (pn := 24) dX2_pullOut_21 rfl lf_X2_9 ?_
  refine sg_iload_n (pn := 25) (i := 2) dX2_pullOut_24 rfl rfl 2 rfl ?_
  refine sg_callVi (pn := 28) (rest := []) 9 dX2_pullOut_25 rfl kb_X2_102 kv_X6_hasCell (by exact rfl) rfl (Nat.le_of_ble_eq_true rfl) (gC_Road_hasCell_ok rfl) rfl rfl (Nat.le_of_ble_eq_true rfl) ?_
  obtain ⟨t6, e_t6, h2⟩ := sg_bind h
  have hm_t6 : sg_G (eC l D cI cZ ad) yX2_pullOut cX2_pullOut 3 (some .int) 2 89 [(2, .int v2_1)] [] t6 (sg_is (some (.int r.1)) r.2) := by
    have h := h2
    refine sg_iload_n (pn := 90) (i := 2) dX2_pullOut_89 rfl rfl 0 rfl ?_
    obtain rfl := Option.some.inj h
    exact sg_iret dX2_pullOut_90 rfl ⟨rfl, rfl⟩
  have h := e_t6
  refine sg_if_eq (pn := 31) (tgt := 89) dX2_pullOut_28 rfl (by decide) (fun hc => ?_) (fun hc => ?_)
  · have h := sg_ifp hc h
    obtain rfl := Option.some.inj h
    refine sg_sub [2] rfl ?_
    exact hm_t6
  · have h := sg_ifn hc h
    refine sg_aload_n (pn := 32) (i := 0) dX2_pullOut_31 rfl rfl 0 rfl ?_
    refine gfC_23_1 (pn := 35) dX2_pullOut_32 rfl lf_X2_15 ?_
    refine sg_iload_n (pn := 36) (i := 2) dX2_pullOut_35 rfl rfl 2 rfl ?_
    obtain ⟨r3, h_r3, h⟩ := sg_bind h
    refine sg_callVi (pn := 39) (rest := []) 15 dX2_pullOut_36 rfl kb_X2_81 kv_X8_hasTown (by exact rfl) rfl (Nat.le_of_ble_eq_true rfl) (gC_State_hasTown_ok h_r3) rfl rfl (Nat.le_of_ble_eq_true rfl) ?_
    refine sg_if_eq (pn := 42) (tgt := 89) dX2_pullOut_39 rfl (by decide) (fun hc => ?_) (fun hc => ?_)
    · have h := sg_ifp hc h
      obtain rfl := Option.some.inj h
      refine sg_sub [2] rfl ?_
      exact hm_t6
    · have h := sg_ifn hc h
      refine sg_aload_n (pn := 43) (i := 0) dX2_pullOut_42 rfl rfl 0 rfl ?_
      refine gfC_23_1 (pn := 46) dX2_pullOut_43 rfl lf_X2_15 ?_
      refine gfC_15_5 (pn := 49) dX2_pullOut_46 rfl lf_X2_91 ?_
      refine sg_iload_n (pn := 50) (i := 2) dX2_pullOut_49 rfl rfl 2 rfl ?_
      refine sg_iconst (pn := 51) dX2_pullOut_50 rfl ic_0 ?_
      refine sg_aload_n (pn := 52) (i := 0) dX2_pullOut_51 rfl rfl 0 rfl ?_
      refine gfC_23_1 (pn := 55) dX2_pullOut_52 rfl lf_X2_15 ?_
      refine gfC_15_5 (pn := 58) dX2_pullOut_55 rfl lf_X2_91 ?_
      refine sg_iload_n (pn := 59) (i := 2) dX2_pullOut_58 rfl rfl 2 rfl ?_
      obtain ⟨hg, h⟩ := sg_guard h
      refine alC_19 (pn := 60) dX2_pullOut_59 rfl (sg_in_vp hg) ?_
      refine sg_iconst (pn := 61) dX2_pullOut_60 rfl ic_1 ?_
      refine sg_isub (pn := 62) dX2_pullOut_61 rfl ?_
      refine sg_mmax (pn := 65) dX2_pullOut_62 rfl lm_X2_105 sg_mw_max (Nat.le_of_ble_eq_true rfl) (Nat.le_of_ble_eq_true rfl) ?_
      obtain ⟨hg, h⟩ := sg_guard h
      refine asC_19 (pn := 66) dX2_pullOut_65 rfl (sg_in_vp hg) ?_
      obtain ⟨z4, e_z4, h⟩ := sg_letE h
      refine sg_zE e_z4 ?_
      refine sg_aload_n (pn := 67) (i := 0) dX2_pullOut_66 rfl rfl 0 rfl ?_
      refine gfC_23_1 (pn := 70) dX2_pullOut_67 rfl lf_X2_15 ?_
      refine gfC_15_4 (pn := 73) dX2_pullOut_70 rfl lf_X2_94 ?_
      refine sg_iload_n (pn := 74) (i := 2) dX2_pullOut_73 rfl rfl 2 rfl ?_
      obtain ⟨hg, h⟩ := sg_guard h
      refine alC_18 (pn := 75) dX2_pullOut_74 rfl (sg_in_vp hg) ?_
      refine sg_iload_n (pn := 76) (i := 1) dX2_pullOut_75 rfl rfl 1 rfl ?_
      refine sg_icmp_ne (pn := 79) (tgt := 89) dX2_pullOut_76 rfl (by decide) (fun hc => ?_) (fun hc => ?_)
      · have h := sg_ifn hc h
        obtain rfl := Option.some.inj h
        refine sg_sub [2] rfl ?_
        exact hm_t6
      · have h := sg_ifp hc h
        refine sg_aload_n (pn := 80) (i := 0) dX2_pullOut_79 rfl rfl 0 rfl ?_
        refine gfC_23_1 (pn := 83) dX2_pullOut_80 rfl lf_X2_15 ?_
        refine gfC_15_4 (pn := 86) dX2_pullOut_83 rfl lf_X2_94 ?_
        refine sg_iload_n (pn := 87) (i := 2) dX2_pullOut_86 rfl rfl 2 rfl ?_
        refine sg_iconst (pn := 88) dX2_pullOut_87 rfl ic_m1 ?_
        obtain ⟨hg, h⟩ := sg_guard h
        refine asC_18 (pn := 89) dX2_pullOut_88 rfl (sg_in_vp hg) ?_
        obtain ⟨z5, e_z5, h⟩ := sg_letE h
        refine sg_zE e_z5 ?_
        obtain rfl := Option.some.inj h
        refine sg_sub [2] rfl ?_
        exact hm_t6
set_option maxRecDepth 4000 in
theorem gC_pull_ok {l : Launch} {D : va_G} {cI cZ : ClassId} {ad : Nat → Nat} {a1 : Int32} {z : sg_M} {r : Int32 × sg_M} (h : gC_pull a1 z = some r) : sg_Met (eC l D cI cZ ad) yX11_pull cX11_pull 2 (some .int) 3 [.ref (ad 0), .int a1] z (sg_is (some (.int r.1)) r.2) := by
  refine sg_enter (lv0 := [(0, .ref (ad 0)), (1, .int a1)]) pn_X11 (Nat.le_of_ble_eq_true rfl) rfl ?_
  unfold gC_pull at h
  refine sg_aload_n (pn := 1) (i := 0) dX11_pull_0 rfl rfl 0 rfl ?_
  refine gfC_0_1 (pn := 4) dX11_pull_1 rfl lf_X11_19 ?_
  refine sg_iload_n (pn := 5) (i := 1) dX11_pull_4 rfl rfl 1 rfl ?_
  refine sg_callVi (pn := 8) (rest := []) 9 dX11_pull_5 rfl kb_X11_188 kv_X6_hasCart (by exact rfl) rfl (Nat.le_of_ble_eq_true rfl) (gC_Road_hasCart_ok rfl) rfl rfl (Nat.le_of_ble_eq_true rfl) ?_
  refine sg_if_ne (pn := 11) (tgt := 14) dX11_pull_8 rfl (by decide) (fun hc => ?_) (fun hc => ?_)
  · have h := sg_ifn hc h
    refine sg_aload_n (pn := 15) (i := 0) dX11_pull_14 rfl rfl 0 rfl ?_
    refine gfC_0_2 (pn := 18) dX11_pull_15 rfl lf_X11_26 ?_
    refine sg_iload_n (pn := 19) (i := 1) dX11_pull_18 rfl rfl 1 rfl ?_
    obtain ⟨r1, h_r1, h⟩ := sg_bind h
    refine sg_callVi (pn := 22) (rest := []) 15 dX11_pull_19 rfl kb_X11_213 kv_X8_isStuck (by exact rfl) rfl (Nat.le_of_ble_eq_true rfl) (gC_State_isStuck_ok h_r1) rfl rfl (Nat.le_of_ble_eq_true rfl) ?_
    refine sg_if_ne (pn := 25) (tgt := 28) dX11_pull_22 rfl (by decide) (fun hc => ?_) (fun hc => ?_)
    · have h := sg_ifn hc h
      refine sg_aload_n (pn := 29) (i := 0) dX11_pull_28 rfl rfl 0 rfl ?_
      refine gfC_0_10 (pn := 32) dX11_pull_29 rfl lf_X11_88 ?_
      refine sg_aload_n (pn := 33) (i := 0) dX11_pull_32 rfl rfl 0 rfl ?_
      refine gfC_0_2 (pn := 36) dX11_pull_33 rfl lf_X11_26 ?_
      obtain ⟨r2, h_r2, h⟩ := sg_bind h
      refine sg_callVv (pn := 39) (rest := []) 40 dX11_pull_36 rfl kb_X11_217 kv_X3_remember (by exact rfl) rfl (Nat.le_of_ble_eq_true rfl) (gC_Memory_remember_ok h_r2) rfl rfl (Nat.le_of_ble_eq_true rfl) ?_
      refine sg_aload_n (pn := 40) (i := 0) dX11_pull_39 rfl rfl 0 rfl ?_
      refine gfC_0_3 (pn := 43) dX11_pull_40 rfl lf_X11_35 ?_
      refine sg_iload_n (pn := 44) (i := 1) dX11_pull_43 rfl rfl 1 rfl ?_
      obtain ⟨r3, h_r3, h⟩ := sg_bind h
      refine sg_callVi (pn := 47) (rest := []) 23 dX11_pull_44 rfl kb_X11_224 kv_X2_pullOut (by exact rfl) rfl (Nat.le_of_ble_eq_true rfl) (gC_Kingdom_pullOut_ok h_r3) rfl rfl (Nat.le_of_ble_eq_true rfl) ?_
      obtain rfl := Option.some.inj h
      exact sg_iret dX11_pull_47 rfl ⟨rfl, rfl⟩
    · have h := sg_ifp hc h
      refine sg_ldc (pn := 27) dX11_pull_25 rfl kc_X11_216 ?_
      obtain rfl := Option.some.inj h
      exact sg_iret dX11_pull_27 rfl ⟨rfl, rfl⟩
  · have h := sg_ifp hc h
    refine sg_ldc (pn := 13) dX11_pull_11 rfl kc_X11_171 ?_
    obtain rfl := Option.some.inj h
    exact sg_iret dX11_pull_13 rfl ⟨rfl, rfl⟩
